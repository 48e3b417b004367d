/-! What the constructors have made is the memory of part 02, at its start. -/
def clx (L : Ly) (k : Nat) : Nat × va_E := (lad L k, if kd k = 10 then .inl (lA L 2, 4, .inr (.inr (.inr (.inr (rqf (lad L) 49 49))))) else if kd k = 11 then .inl (lA L 3, 4, .inr (.inr (.inr (.inr (rqf (lad L) (k + 1) 5))))) else lay L (kd k) k (σ0 k))
theorem clx_o {L : Ly} {k c : Nat} (h : kd k = c) (h1 : c ≠ 10) (h2 : c ≠ 11) : clx L k = (lad L k, lay L c k (σ0 k)) := by
  unfold clx
  rw [h, if_neg h1, if_neg h2]
theorem clx_10 {L : Ly} {k : Nat} (h : kd k = 10) : clx L k = (lad L k, .inl (lA L 2, 4, .inr (.inr (.inr (.inr (rqf (lad L) 49 49)))))) := by
  unfold clx
  rw [if_pos h]
theorem clx_11 {L : Ly} {k : Nat} (h : kd k = 11) : clx L k = (lad L k, .inl (lA L 3, 4, .inr (.inr (.inr (.inr (rqf (lad L) (k + 1) 5)))))) := by
  unfold clx
  rw [if_neg (by rw [h]; decide), if_pos h]
theorem s0_n {k : Nat} (h : k ≠ 302) : σ0 k = σ00 k := if_neg h
theorem s0_3 {k : Nat} (h : kd k = 3) : σ0 k = fun j => if j = 0 then 4 else 0 := by
  rw [s0_n (fun e => by subst e; exact absurd h (by decide))]
  funext j
  exact z_3 h
theorem s0_5 {k : Nat} (h : kd k = 5) : σ0 k = fun j => if j = 2 then 1 else if j = 3 then 1 else 0 := by
  rw [s0_n (fun e => by subst e; exact absurd h (by decide))]
  funext j
  exact z_5 h
theorem s0_z {k c : Nat} (h : kd k = c) (h3 : c ≠ 3) (h4 : c ≠ 4) (h5 : c ≠ 5) (h7 : c ≠ 24) : σ0 k = fun _ => 0 := by
  rw [s0_n (fun e => by subst e; exact h4 (h.symm.trans (by decide)))]
  funext j
  exact z_o (by rw [h]; exact h3) (by rw [h]; exact h5) (fun e => by subst e; exact h7 (h.symm.trans (by decide)))
theorem clx_a {L : Ly} {k c : Nat} (h : kd k = c) (h1 : c ≠ 10) (h2 : c ≠ 11) (h3 : c ≠ 3) (h4 : c ≠ 4) (h5 : c ≠ 5) (h7 : c ≠ 24) : clx L k = (lad L k, lay L c k (fun _ => 0)) := by
  rw [clx_o h h1 h2, s0_z h h3 h4 h5 h7]
theorem clx_20 {L : Ly} {k : Nat} (h : kd k = 20) : clx L k = (lad L k, .inl (lA L 0, 26, .inl (fun _ => 0))) := clx_a h (by decide) (by decide) (by decide) (by decide) (by decide) (by decide)
theorem clx_21 {L : Ly} {k : Nat} (h : kd k = 21) : clx L k = (lad L k, .inl (lA L 0, 8, .inl (fun _ => 0))) := clx_a h (by decide) (by decide) (by decide) (by decide) (by decide) (by decide)
def sI (b : Nat) : List Nat := [b, b + 1, b + 2, b + 3, b + 4]
def wI (b : Nat) : List Nat := [b, b + 1] ++ sI (b + 2) ++ sI (b + 7) ++ sI (b + 12) ++ sI (b + 17)
def tI (b : Nat) : List Nat := [b, b + 1] ++ wI (b + 22) ++ sI (b + 44) ++ sI (b + 2) ++ sI (b + 7) ++ sI (b + 12) ++ sI (b + 17)
def hI : List Nat := [300, 301] ++ tI 49 ++ tI 98 ++ tI 147 ++ tI 196
def fI : List Nat := [299] ++ tI 0 ++ hI ++ tI 245 ++ [302, 303, 304, 305] ++ sI 294
def allI : List Nat := fI ++ [306, 307, 308, 309, 310]
theorem asq_S {L : Ly} {b : Nat} (h : kd b = 3) : cpS (lA L 0) (lad L) b = (sI b).map (clx L) := by
  show _ = [clx L b, clx L (b + 1), clx L (b + 2), clx L (b + 3), clx L (b + 4)]
  rw [clx_o h (by decide) (by decide), s0_3 h, clx_20 (kd_3_1 h), clx_20 (kd_3_2 h), clx_20 (kd_3_3 h), clx_20 (kd_3_4 h)]
  rfl
theorem asq_G {L : Ly} {b : Nat} (h : kd b = 1) : cpG (lA L 0) (lad L) b = (sI b).map (clx L) := by
  show _ = [clx L b, clx L (b + 1), clx L (b + 2), clx L (b + 3), clx L (b + 4)]
  rw [clx_a h (by decide) (by decide) (by decide) (by decide) (by decide) (by decide), clx_21 (kd_1_1 h), clx_21 (kd_1_2 h), clx_21 (kd_1_3 h), clx_21 (kd_1_4 h)]
  rfl
theorem asq_W {L : Ly} {b : Nat} (h : kd b = 5) : cpW (lA L 0) (lA L 3) (lad L) b = (wI b).map (clx L) := by
  unfold cpW wI
  rw [asq_S (kd_of 5 3 2 (by decide +kernel) (by decide) h), asq_S (kd_of 5 3 7 (by decide +kernel) (by decide) h), asq_S (kd_of 5 3 12 (by decide +kernel) (by decide) h), asq_S (kd_of 5 3 17 (by decide +kernel) (by decide) h)]
  simp only [List.map_append]
  congr 4
  show _ = [clx L b, clx L (b + 1)]
  rw [clx_o h (by decide) (by decide), s0_5 h, clx_11 (kd_5_1 h)]
  rfl
theorem asq_T {L : Ly} {b : Nat} (h : kd b = 2) : cpT (lA L 0) (lA L 3) (lad L) b = (tI b).map (clx L) := by
  unfold cpT tI
  rw [asq_W (kd_2_22 h), asq_G (kd_2_44 h), asq_S (kd_of 2 3 2 (by decide +kernel) (by decide) h), asq_S (kd_of 2 3 7 (by decide +kernel) (by decide) h), asq_S (kd_of 2 3 12 (by decide +kernel) (by decide) h), asq_S (kd_of 2 3 17 (by decide +kernel) (by decide) h)]
  simp only [List.map_append]
  congr 6
  show _ = [clx L b, clx L (b + 1)]
  rw [clx_a h (by decide) (by decide) (by decide) (by decide) (by decide) (by decide), clx_11 (kd_2_1 h)]
  rfl
theorem asq_H {L : Ly} : cpH (lA L 0) (lA L 3) (lA L 2) (lad L) = hI.map (clx L) := by
  unfold cpH hI
  rw [asq_T (b := 49) (by decide +kernel), asq_T (b := 98) (by decide +kernel), asq_T (b := 147) (by decide +kernel), asq_T (b := 196) (by decide +kernel)]
  simp only [List.map_append]
  congr 4
theorem asq_X {L : Ly} : cpX (lA L 0) (lA L 1) (lad L) = [302, 303, 304, 305].map (clx L) := by
  show _ = [clx L 302, clx L 303, clx L 304, clx L 305]
  rw [clx_o kdn_302 (by decide) (by decide), clx_a kdn_303 (by decide) (by decide) (by decide) (by decide) (by decide) (by decide), clx_a kdn_304 (by decide) (by decide) (by decide) (by decide) (by decide) (by decide), clx_a kdn_305 (by decide) (by decide) (by decide) (by decide) (by decide) (by decide)]
  rfl
theorem asq_M {L : Ly} : cpM (lA L 0) (lA L 1) (lad L) = [306, 307, 308, 309, 310].map (clx L) := by
  show _ = [clx L 306, clx L 307, clx L 308, clx L 309, clx L 310]
  rw [clx_a kdn_306 (by decide) (by decide) (by decide) (by decide) (by decide) (by decide), clx_o kdn_307 (by decide) (by decide), clx_a kdn_308 (by decide) (by decide) (by decide) (by decide) (by decide) (by decide), clx_a kdn_309 (by decide) (by decide) (by decide) (by decide) (by decide) (by decide), clx_a kdn_310 (by decide) (by decide) (by decide) (by decide) (by decide) (by decide)]
  rfl
theorem asq_F {L : Ly} : cpF (lA L 0) (lA L 1) (lA L 2) (lA L 3) (lad L) = fI.map (clx L) := by
  unfold cpF fI
  rw [asq_T (b := 0) (by decide +kernel), asq_H, asq_T (b := 245) (by decide +kernel), asq_X, asq_S (b := 294) kdn_294]
  simp only [List.map_append]
  congr 5
theorem asq_all {L : Ly} : cpF (lA L 0) (lA L 1) (lA L 2) (lA L 3) (lad L) ++ cpM (lA L 0) (lA L 1) (lad L) = allI.map (clx L) := by
  rw [asq_F, asq_M, ← List.map_append]
  rfl
theorem all_in : ∀ k, k < 311 → k ∈ allI := by decide +kernel
theorem arr4 {cA : ClassId} {f g : Nat → Option Nat} (h : ∀ j, j < 4 → f j = g j) : vp_cell cA (4, .inr (.inr (.inr (.inr f)))) = vp_cell cA (4, .inr (.inr (.inr (.inr g)))) := by
  have e : (fun j : Fin 4 => va_rf (f j.val)) = fun j : Fin 4 => va_rf (g j.val) := funext (fun j => by rw [h j.val j.isLt])
  rw [vp_cell_q, vp_cell_q]
  unfold arrV
  rw [e]
theorem wd_of {L : Ly} {H : Heap} {A : Nat → Prop} (hP : va_P (dd L) vwCl (allI.map (clx L)) H) (hD : va_D A (allI.map (clx L))) : va_P (dd L) vwCl (wd L σ0) H ∧ ap L ∧ ∀ k, k < 311 → A (lad L k) := by
  have pos : ∀ k, k < 311 → ∃ i : Nat, allI[i]? = some k ∧ (allI.map (clx L))[i]? = some (clx L k) := fun k hk => by
    obtain ⟨i, hi⟩ := List.getElem?_of_mem (all_in k hk)
    exact ⟨i, hi, by rw [List.getElem?_map, hi]; rfl⟩
  refine ⟨fun k q hk => ?_, fun i j hi hj e => ?_, fun k hk => ?_⟩
  · obtain ⟨hk1, rfl⟩ := wd_inv hk
    obtain ⟨i, -, hi⟩ := pos k hk1
    have h := hP i _ hi
    by_cases h10 : kd k = 10
    · rw [clx_10 h10] at h
      rw [h10]
      show H[lad L k]? = some (vp_cell (lA L 2) (4, .inr (.inr (.inr (.inr (fun i => some (lad L (49 + 49 * i))))))))
      rw [← arr4 (f := rqf (lad L) 49 49) (fun j hj => if_pos hj)]
      exact h
    · by_cases h11 : kd k = 11
      · rw [clx_11 h11] at h
        rw [h11]
        show H[lad L k]? = some (vp_cell (lA L 3) (4, .inr (.inr (.inr (.inr (fun i => some (lad L (k + 1 + 5 * i))))))))
        rw [← arr4 (f := rqf (lad L) (k + 1) 5) (fun j hj => if_pos hj)]
        exact h
      · rw [clx_o rfl h10 h11] at h
        exact h
  · obtain ⟨a, a1, a2⟩ := pos i hi
    obtain ⟨b, b1, b2⟩ := pos j hj
    have := hD.1 a b _ _ a2 b2 e
    subst this
    exact Option.some.inj (a1.symm.trans b1)
  · obtain ⟨a, -, a2⟩ := pos k hk
    exact hD.2 a _ a2
theorem cpM_congr {i ch : ClassId} {ad ad' : Nat → Nat} (h : ∀ k, 306 ≤ k → ad k = ad' k) : cpM i ch ad = cpM i ch ad' := by
  unfold cpM
  rw [h 306 (by omega), h 307 (by omega), h 308 (by omega), h 309 (by omega), h 310 (by omega)]
theorem cpF_congr {i ch r q : ClassId} {ad ad' : Nat → Nat} (h : ∀ k, k < 306 → ad k = ad' k) : cpF i ch r q ad = cpF i ch r q ad' := by
  unfold cpF
  rw [cpT_congr (b := 0) (fun k x y => h k (by omega)), cpT_congr (b := 245) (fun k x y => h k (by omega)), cpH_congr (fun k x y => h k (by omega)) (h 300 (by omega)) (h 301 (by omega)), cpX_congr (fun k x y => h k (by omega)), cpS_congr (b := 294) (fun k x y => h k (by omega)), h 299 (by omega), h 0 (by omega), h 300 (by omega), h 245 (by omega), h 302 (by omega), h 294 (by omega)]
