/-! The pieces of the world at the start. -/
def cpS (i : ClassId) (ad : Nat → Nat) (b : Nat) : va_W := [(ad b, .inr (3, [.int 4, .int 0, .int 0, .int 0, .ref (ad (b + 1)), .ref (ad (b + 2)), .ref (ad (b + 3)), .ref (ad (b + 4))])), (ad (b + 1), .inl (i, 26, .inl (fun _ => 0))), (ad (b + 2), .inl (i, 26, .inl (fun _ => 0))), (ad (b + 3), .inl (i, 26, .inl (fun _ => 0))), (ad (b + 4), .inl (i, 26, .inl (fun _ => 0)))]
def cpG (i : ClassId) (ad : Nat → Nat) (b : Nat) : va_W := [(ad b, .inr (1, [.ref (ad (b + 1)), .ref (ad (b + 2)), .ref (ad (b + 3)), .ref (ad (b + 4)), .int 0, .int 0])), (ad (b + 1), .inl (i, 8, .inl (fun _ => 0))), (ad (b + 2), .inl (i, 8, .inl (fun _ => 0))), (ad (b + 3), .inl (i, 8, .inl (fun _ => 0))), (ad (b + 4), .inl (i, 8, .inl (fun _ => 0)))]
def rqf (ad : Nat → Nat) (b d : Nat) : Nat → Option Nat := fun i => if i < 4 then some (ad (b + d * i)) else none
def cpW (i q : ClassId) (ad : Nat → Nat) (b : Nat) : va_W := [(ad b, .inr (5, [.ref (ad (b + 1)), .int 0, .int 1, .int 1, .int 0])), (ad (b + 1), .inl (q, 4, .inr (.inr (.inr (.inr (rqf ad (b + 2) 5))))))] ++ cpS i ad (b + 2) ++ cpS i ad (b + 7) ++ cpS i ad (b + 12) ++ cpS i ad (b + 17)
def cpT (i q : ClassId) (ad : Nat → Nat) (b : Nat) : va_W := [(ad b, .inr (2, [.ref (ad (b + 1)), .ref (ad (b + 22)), .ref (ad (b + 44)), .int 0, .int 0, .int 0])), (ad (b + 1), .inl (q, 4, .inr (.inr (.inr (.inr (rqf ad (b + 2) 5))))))] ++ cpW i q ad (b + 22) ++ cpG i ad (b + 44) ++ cpS i ad (b + 2) ++ cpS i ad (b + 7) ++ cpS i ad (b + 12) ++ cpS i ad (b + 17)
def cpH (i q r : ClassId) (ad : Nat → Nat) : va_W := [(ad 300, .inr (0, [.ref (ad 301), .int 0, .int 0])), (ad 301, .inl (r, 4, .inr (.inr (.inr (.inr (rqf ad 49 49))))))] ++ cpT i q ad 49 ++ cpT i q ad 98 ++ cpT i q ad 147 ++ cpT i q ad 196
def cpX (i ch : ClassId) (ad : Nat → Nat) : va_W := [(ad 302, .inr (4, [.ref (ad 303), .int 0, .ref (ad 304), .ref (ad 305), .int 0, .int 0, .int (-1), .int (-1), .int 0])), (ad 303, .inl (ch, 60, .inl (fun _ => 0))), (ad 304, .inl (i, 60, .inl (fun _ => 0))), (ad 305, .inl (i, 60, .inl (fun _ => 0)))]
def cpM (i ch : ClassId) (ad : Nat → Nat) : va_W := [(ad 306, .inr (7, [.ref (ad 307), .ref (ad 308), .int 0, .ref (ad 309), .int 0, .int 0, .ref (ad 310), .int 0, .int 0, .int 0, .int 0])), (ad 307, .inl (i, 1244, .inl (σ00 307))), (ad 308, .inl (i, 4440, .inl (fun _ => 0))), (ad 309, .inl (i, 1110, .inl (fun _ => 0))), (ad 310, .inl (ch, 60, .inl (fun _ => 0)))]
def cpF (i ch r q : ClassId) (ad : Nat → Nat) : va_W := [(ad 299, .inr (6, [.ref (ad 0), .ref (ad 300), .ref (ad 245), .int 0, .ref (ad 302), .ref (ad 294)]))] ++ cpT i q ad 0 ++ cpH i q r ad ++ cpT i q ad 245 ++ cpX i ch ad ++ cpS i ad 294
theorem rqf_congr {ad ad' : Nat → Nat} {b d : Nat} (h : ∀ i, i < 4 → ad (b + d * i) = ad' (b + d * i)) : rqf ad b d = rqf ad' b d := by
  funext i
  unfold rqf
  by_cases hi : i < 4
  · rw [if_pos hi, if_pos hi, h i hi]
  · rw [if_neg hi, if_neg hi]
theorem rqf_4 {ad : Nat → Nat} {b d x0 x1 x2 x3 : Nat} (h0 : ad b = x0) (h1 : ad (b + d) = x1) (h2 : ad (b + d * 2) = x2) (h3 : ad (b + d * 3) = x3) : va_up (va_up (va_up (va_up (fun _ => none) 0 (some x0)) 1 (some x1)) 2 (some x2)) 3 (some x3) = rqf ad b d := by
  funext i
  unfold rqf va_up
  rcases i with _ | _ | _ | _ | i
  · simp [h0]
  · simp [h1]
  · simp [h2]
  · simp [h3]
  · rw [if_neg (show ¬ i + 1 + 1 + 1 + 1 = 3 by omega), if_neg (show ¬ i + 1 + 1 + 1 + 1 = 2 by omega), if_neg (show ¬ i + 1 + 1 + 1 + 1 = 1 by omega), if_neg (show ¬ i + 1 + 1 + 1 + 1 = 0 by omega), if_neg (show ¬ i + 1 + 1 + 1 + 1 < 4 by omega)]
theorem cpS_congr {i : ClassId} {ad ad' : Nat → Nat} {b : Nat} (h : ∀ k, b ≤ k → k < b + 5 → ad k = ad' k) : cpS i ad b = cpS i ad' b := by
  unfold cpS
  rw [h b (by omega) (by omega), h (b + 1) (by omega) (by omega), h (b + 2) (by omega) (by omega), h (b + 3) (by omega) (by omega), h (b + 4) (by omega) (by omega)]
theorem cpG_congr {i : ClassId} {ad ad' : Nat → Nat} {b : Nat} (h : ∀ k, b ≤ k → k < b + 5 → ad k = ad' k) : cpG i ad b = cpG i ad' b := by
  unfold cpG
  rw [h b (by omega) (by omega), h (b + 1) (by omega) (by omega), h (b + 2) (by omega) (by omega), h (b + 3) (by omega) (by omega), h (b + 4) (by omega) (by omega)]
theorem cpW_congr {i q : ClassId} {ad ad' : Nat → Nat} {b : Nat} (h : ∀ k, b ≤ k → k < b + 22 → ad k = ad' k) : cpW i q ad b = cpW i q ad' b := by
  unfold cpW
  rw [cpS_congr (b := b + 2) (fun k x y => h k (by omega) (by omega)), cpS_congr (b := b + 7) (fun k x y => h k (by omega) (by omega)), cpS_congr (b := b + 12) (fun k x y => h k (by omega) (by omega)), cpS_congr (b := b + 17) (fun k x y => h k (by omega) (by omega)), rqf_congr (b := b + 2) (d := 5) (fun j hj => h _ (by omega) (by omega)), h b (by omega) (by omega), h (b + 1) (by omega) (by omega)]
theorem cpT_congr {i q : ClassId} {ad ad' : Nat → Nat} {b : Nat} (h : ∀ k, b ≤ k → k < b + 49 → ad k = ad' k) : cpT i q ad b = cpT i q ad' b := by
  unfold cpT
  rw [cpW_congr (b := b + 22) (fun k x y => h k (by omega) (by omega)), cpG_congr (b := b + 44) (fun k x y => h k (by omega) (by omega)), cpS_congr (b := b + 2) (fun k x y => h k (by omega) (by omega)), cpS_congr (b := b + 7) (fun k x y => h k (by omega) (by omega)), cpS_congr (b := b + 12) (fun k x y => h k (by omega) (by omega)), cpS_congr (b := b + 17) (fun k x y => h k (by omega) (by omega)), rqf_congr (b := b + 2) (d := 5) (fun j hj => h _ (by omega) (by omega)), h b (by omega) (by omega), h (b + 1) (by omega) (by omega), h (b + 22) (by omega) (by omega), h (b + 44) (by omega) (by omega)]
theorem cpH_congr {i q r : ClassId} {ad ad' : Nat → Nat} (h : ∀ k, 49 ≤ k → k < 245 → ad k = ad' k) (h0 : ad 300 = ad' 300) (h1 : ad 301 = ad' 301) : cpH i q r ad = cpH i q r ad' := by
  unfold cpH
  rw [cpT_congr (b := 49) (fun k x y => h k (by omega) (by omega)), cpT_congr (b := 98) (fun k x y => h k (by omega) (by omega)), cpT_congr (b := 147) (fun k x y => h k (by omega) (by omega)), cpT_congr (b := 196) (fun k x y => h k (by omega) (by omega)), rqf_congr (b := 49) (d := 49) (fun j hj => h _ (by omega) (by omega)), h0, h1]
theorem cpX_congr {i ch : ClassId} {ad ad' : Nat → Nat} (h : ∀ k, 302 ≤ k → k < 306 → ad k = ad' k) : cpX i ch ad = cpX i ch ad' := by
  unfold cpX
  rw [h 302 (by omega) (by omega), h 303 (by omega) (by omega), h 304 (by omega) (by omega), h 305 (by omega) (by omega)]
def σ0 : Mem := fun k => if k = 302 then (fun j => if j = 6 then -1 else if j = 7 then -1 else 0) else σ00 k
theorem z0_Inv : Inv σ0 := by
  refine ⟨t00, CR_fr (σ := σ00) (fun q _ _ h => if_neg h) ?_ z_CR, MR_frC (σ := σ00) (fun q h => if_neg (by omega)) z_MR, z_ok⟩
  show (0 : Int32) = σ00 302 1
  exact (z_o (by decide) (by decide) (by decide)).symm
theorem hfs_0 : ∀ j, j < 3 → defaultValue (tyX0 j) = vp_V [.null, .int 0, .int 0] j := by
  intro j hj
  rcases (show j = 0 ∨ j = 1 ∨ j = 2 by omega) with rfl | rfl | rfl <;> rfl
theorem hfs_1 : ∀ j, j < 6 → defaultValue (tyX1 j) = vp_V [.null, .null, .null, .null, .int 0, .int 0] j := by
  intro j hj
  rcases (show j = 0 ∨ j = 1 ∨ j = 2 ∨ j = 3 ∨ j = 4 ∨ j = 5 by omega) with rfl | rfl | rfl | rfl | rfl | rfl <;> rfl
theorem hfs_2 : ∀ j, j < 6 → defaultValue (tyX2 j) = vp_V [.null, .null, .null, .int 0, .int 0, .int 0] j := by
  intro j hj
  rcases (show j = 0 ∨ j = 1 ∨ j = 2 ∨ j = 3 ∨ j = 4 ∨ j = 5 by omega) with rfl | rfl | rfl | rfl | rfl | rfl <;> rfl
theorem hfs_3 : ∀ j, j < 8 → defaultValue (tyX3 j) = vp_V [.int 0, .int 0, .int 0, .int 0, .null, .null, .null, .null] j := by
  intro j hj
  rcases (show j = 0 ∨ j = 1 ∨ j = 2 ∨ j = 3 ∨ j = 4 ∨ j = 5 ∨ j = 6 ∨ j = 7 by omega) with rfl | rfl | rfl | rfl | rfl | rfl | rfl | rfl <;> rfl
theorem hfs_4 : ∀ j, j < 9 → defaultValue (tyX4 j) = vp_V [.null, .int 0, .null, .null, .int 0, .int 0, .int 0, .int 0, .int 0] j := by
  intro j hj
  rcases (show j = 0 ∨ j = 1 ∨ j = 2 ∨ j = 3 ∨ j = 4 ∨ j = 5 ∨ j = 6 ∨ j = 7 ∨ j = 8 by omega) with rfl | rfl | rfl | rfl | rfl | rfl | rfl | rfl | rfl <;> rfl
theorem hfs_5 : ∀ j, j < 5 → defaultValue (tyX5 j) = vp_V [.null, .int 0, .int 0, .int 0, .int 0] j := by
  intro j hj
  rcases (show j = 0 ∨ j = 1 ∨ j = 2 ∨ j = 3 ∨ j = 4 by omega) with rfl | rfl | rfl | rfl | rfl <;> rfl
theorem hfs_6 : ∀ j, j < 6 → defaultValue (tyX6 j) = vp_V [.null, .null, .null, .int 0, .null, .null] j := by
  intro j hj
  rcases (show j = 0 ∨ j = 1 ∨ j = 2 ∨ j = 3 ∨ j = 4 ∨ j = 5 by omega) with rfl | rfl | rfl | rfl | rfl | rfl <;> rfl
theorem hfs_7 : ∀ j, j < 11 → defaultValue (tyX7 j) = vp_V [.null, .null, .int 0, .null, .int 0, .int 0, .null, .int 0, .int 0, .int 0, .int 0] j := by
  intro j hj
  rcases (show j = 0 ∨ j = 1 ∨ j = 2 ∨ j = 3 ∨ j = 4 ∨ j = 5 ∨ j = 6 ∨ j = 7 ∨ j = 8 ∨ j = 9 ∨ j = 10 by omega) with rfl | rfl | rfl | rfl | rfl | rfl | rfl | rfl | rfl | rfl | rfl <;> rfl
