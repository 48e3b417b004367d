/-! The reference's state. -/
def aM (f : Nat → Int32) : AS := ((fun i => if i < 4 then vM f (bs i) else z0), (fun i => if i < ix (f 1076) then vM f (bs (4 + i)) else z0), f 1076, f 1075, f (bs (3 + ix (f 1076)) + 3), lgM f, f 1072, f 1073, f 1074)
def WM (f : Nat → Int32) : Prop := (∀ s, s < 8 → hbM f (bs s)) ∧ (∃ kp ar : Nat, f 1076 = nI kp ∧ f (bs (3 + kp) + 3) = nI ar ∧ 1 ≤ kp ∧ kp ≤ 4 ∧ ar ≤ 8 ∧ ∀ i, i + 1 < kp → f (bs (4 + i) + 3) = 8) ∧ (∃ kn : Nat, f 1077 = nI kn ∧ kn ≤ 8) ∧ (∀ i, i < 4 → f (bs (4 + i)) = 4)
def M2 (A : AS) (σ σ1 : Mem) : Prop := (∀ q, q ≠ 307 → σ1 q = σ q) ∧ aM (σ1 307) = A ∧ WM (σ1 307)
theorem M2.tr {A B : AS} {σ σ1 σ2 : Mem} (h : M2 A σ σ1) (h2 : M2 B σ1 σ2) : M2 B σ σ2 := ⟨fun q hq => (h2.1 q hq).trans (h.1 q hq), h2.2⟩
theorem bs7 {s : Nat} (hs : s < 8) : bs s = 134 * s := if_pos hs
theorem aM_sm {f : Nat → Int32} {i : Nat} (hi : i < 4) : aSm (aM f) i = vM f (bs i) := if_pos hi
theorem WM_kp {f : Nat → Int32} (h : WM f) : ∃ kp : Nat, f 1076 = nI kp ∧ ix (f 1076) = kp ∧ 1 ≤ kp ∧ kp ≤ 4 := by
  obtain ⟨-, ⟨kp, ar, h1, -, h3, h4, -⟩, -⟩ := h
  exact ⟨kp, h1, by rw [h1, ixn (by omega)], h3, h4⟩
theorem aM_bl {f : Nat → Int32} {i : Nat} (hi : i < ix (f 1076)) : aBl (aM f) i = vM f (bs (4 + i)) := if_pos hi
theorem WM_fr {f g : Nat → Int32} (hb : ∀ s, s < 8 → hbM g (bs s)) (h76 : g 1076 = f 1076) (h77 : ∃ kn : Nat, g 1077 = nI kn ∧ kn ≤ 8) (h3 : ∀ i, i < 4 → g (bs (4 + i) + 3) = f (bs (4 + i) + 3)) (h0 : ∀ i, i < 4 → g (bs (4 + i)) = f (bs (4 + i))) (hw : WM f) : WM g := by
  obtain ⟨-, ⟨kp, ar, a1, a2, a3, a4, a5, a6⟩, -, a7⟩ := hw
  have e := h3 (kp - 1) (by omega)
  rw [show 4 + (kp - 1) = 3 + kp by omega] at e
  exact ⟨hb, ⟨kp, ar, h76.trans a1, e.trans a2, a3, a4, a5, fun i hi => (h3 i (by omega)).trans (a6 i hi)⟩, h77, fun i hi => (h0 i hi).trans (a7 i hi)⟩
theorem aM_fr {f g : Nat → Int32} (hw : WM f) (h : ∀ x, x < 1110 → g x = f x) : aM g = aM f := by
  obtain ⟨kp, a1, a2, a3, a4⟩ := WM_kp hw
  have h76 := h 1076 (by omega)
  obtain ⟨-, -, ⟨kn, b1, b2⟩, -⟩ := hw
  refine as_ext ?_ ?_ h76 (h 1075 (by omega)) ?_ (lgM_fr (fun x p q => h x (by omega)) (by rw [b1, ixn (by omega)]; exact b2)) (h 1072 (by omega)) (h 1073 (by omega)) (h 1074 (by omega))
  · funext i
    show (if i < 4 then _ else _) = (if i < 4 then _ else _)
    by_cases hi : i < 4
    · rw [if_pos hi, if_pos hi]; exact vM_ext (fun x hx _ => h _ (by rw [bs7 (by omega)]; omega))
    · rw [if_neg hi, if_neg hi]
  · funext i
    show (if i < ix (g 1076) then _ else _) = (if i < ix (f 1076) then _ else _)
    rw [h76, a2]
    by_cases hi : i < kp
    · rw [if_pos hi, if_pos hi]; exact vM_ext (fun x hx _ => h _ (by rw [bs7 (by omega)]; omega))
    · rw [if_neg hi, if_neg hi]
  · show g (bs (3 + ix (g 1076)) + 3) = f (bs (3 + ix (f 1076)) + 3)
    rw [h76, a2]; exact h _ (by rw [bs7 (by omega)]; omega)
theorem WM_fr2 {f g : Nat → Int32} (hw : WM f) (h : ∀ x, x < 1110 → g x = f x) : WM g :=
  WM_fr (fun s hs => hbM_ext (fun x hx _ => h _ (by rw [bs7 hs]; omega)) (hw.1 s hs)) (h _ (by omega)) (by rw [h _ (by omega)]; exact hw.2.2.1) (fun i hi => h _ (by rw [bs7 (by omega)]; omega)) (fun i hi => h _ (by rw [bs7 (by omega)]; omega)) hw
theorem pl_lt {s : Nat} (hs : s < 4) : plM (nI s) = nI s := if_neg (fun q => absurd ((nI_le_iff (a := 4) (by omega) (by omega)).mp q) (by omega))
theorem pl_ge {s : Nat} (hs : 4 ≤ s) (hs2 : s ≤ 8) : plM (nI s) = 4 := if_pos ((nI_le_iff (a := 4) (by omega) (by omega)).mpr hs)
theorem okA_sml {A : AS} {i : Nat} (h : okA A) (hi : i < 4) : smC (aSm A i) := ok_smC (h.1 i hi) (by omega)
theorem m_bringS {i l : Nat} {w : Int32} {σ : Mem} {K : Mem → Prop} (hi : i < 4) (hl : l < 26) (hw : WM (σ 307)) (ho : okA (aM (σ 307))) (h : ∀ σ1, M2 (brS (aM (σ 307)) i l w) σ σ1 → K σ1) : w_X7_comes (nI i) (nI l) w σ K := by
  obtain ⟨kn, b1, b2⟩ := hw.2.2.1
  have hok := ho.1 i hi
  rw [aM_sm hi] at hok
  obtain ⟨-, z, z1, z2, z3, z4⟩ := id hok
  obtain ⟨kp, k1, k2, k3, k4⟩ := WM_kp hw
  have ebi : bs i = 134 * i := bs7 (by omega)
  refine m_comes (by omega) hl (z := z) (by omega) (by omega) z1 z4 (ok_smC hok (by omega)) (hw.1 i (by omega)) b1 b2 (fun σ1 h1 => h σ1 ?_)
  obtain ⟨c1, c2, c3, c4, c5, c6, c7, c8, c9⟩ := h1
  have fr : ∀ s, s < 8 → s ≠ i → ∀ x, x < 134 → σ1 307 (bs s + x) = σ 307 (bs s + x) := fun s hs hne x hx => by
    have := bs_ap (s := s) (o := i) (by omega) (by omega) hne
    have := bs7 hs
    exact c9 _ (by omega) (by omega) (by omega) (by omega)
  have vv : ∀ s, s < 8 → s ≠ i → vM (σ1 307) (bs s) = vM (σ 307) (bs s) := fun s hs hne => vM_ext (fun x hx _ => fr s hs hne x hx)
  have h76 : σ1 307 1076 = σ 307 1076 := c9 _ (by omega) (by omega) (by omega) (by omega)
  refine ⟨c1, as_ext ?_ ?_ h76 (c9 1075 (by omega) (by omega) (by omega) (by omega)) ?_ ?_ c5 ?_ (c9 1074 (by omega) (by omega) (by omega) (by omega)), WM_fr (fun s hs => ?_) h76 c8 (fun j hj => fr (4 + j) (by omega) (by omega) 3 (by omega)) (fun j hj => fr (4 + j) (by omega) (by omega) 0 (by omega)) hw⟩
  · funext j
    show (if j < 4 then vM (σ1 307) (bs j) else z0) = if j = i then rcv (aSm (aM (σ 307)) i) l w (σ 307 1072 + 1) else aSm (aM (σ 307)) j
    by_cases hji : j = i
    · rw [if_pos hji, hji, if_pos hi, aM_sm hi, c2]
    · rw [if_neg hji]
      show _ = if j < 4 then vM (σ 307) (bs j) else z0
      by_cases hj : j < 4
      · rw [if_pos hj, if_pos hj, vv j (by omega) hji]
      · rw [if_neg hj, if_neg hj]
  · funext j
    show (if j < ix (σ1 307 1076) then vM (σ1 307) (bs (4 + j)) else z0) = (if j < ix (σ 307 1076) then vM (σ 307) (bs (4 + j)) else z0)
    rw [h76, k2]
    by_cases hj : j < kp
    · rw [if_pos hj, if_pos hj, vv _ (by omega) (by omega)]
    · rw [if_neg hj, if_neg hj]
  · show σ1 307 (bs (3 + ix (σ1 307 1076)) + 3) = σ 307 (bs (3 + ix (σ 307 1076)) + 3)
    rw [h76, k2]; exact fr _ (by omega) (by omega) 3 (by omega)
  · show lgM (σ1 307) = lgN (nI i) (σ 307 1072 + 1) (gone (aSm (aM (σ 307)) i) l) (lgM (σ 307))
    rw [c7, pl_lt hi, aM_sm hi]
  · show σ1 307 1073 = evn (σ 307 1073) (gone (aSm (aM (σ 307)) i) l)
    rw [c6, aM_sm hi]
  · by_cases hsi : s = i
    · rw [hsi]; exact c3
    · exact hbM_ext (fun x hx _ => fr s hs hsi x hx) (hw.1 s hs)
theorem m_bringW {kp l : Nat} {w : Int32} {σ : Mem} {K : Mem → Prop} (hkp : σ 307 1076 = nI kp) (hk4 : kp ≤ 4) (hl : l < 26) (hw : WM (σ 307)) (ho : okA (aM (σ 307))) (har : aAr (aM (σ 307)) < 8) (h : ∀ σ1, M2 (brW (aM (σ 307)) l w) σ σ1 → K σ1) : w_X7_comes (nI (3 + kp)) (nI l) w σ K := by
  obtain ⟨kn, b1, b2⟩ := id hw.2.2.1
  obtain ⟨kp2, ar, q1, q2, q3, q4, q5, q6⟩ := id hw.2.1
  obtain rfl : kp = kp2 := (nI_eq (by omega) (by omega)).mp (hkp.symm.trans q1)
  have k2 : ix (σ 307 1076) = kp := by rw [hkp, ixn (by omega)]
  have har' : σ 307 (bs (3 + ix (σ 307 1076)) + 3) < 8 := har
  rw [k2, q2] at har'
  have har2 : ar < 8 := (ar8 ar q5).mp har'
  obtain ⟨o1, kp3, ar3, o2, o3, o4, o5, o6, o7, o8, o9⟩ := id ho
  obtain rfl : kp = kp3 := (nI_eq (by omega) (by omega)).mp (hkp.symm.trans o2)
  have epb : aBl (aM (σ 307)) (kp - 1) = vM (σ 307) (bs (3 + kp)) := by rw [aM_bl (by omega), show 4 + (kp - 1) = 3 + kp by omega]
  have hok := o8
  rw [epb] at hok
  obtain ⟨-, z, z1, z2, z3, z4⟩ := id hok
  have ebi : bs (3 + kp) = 134 * (3 + kp) := bs7 (by omega)
  refine m_comes (by omega) hl (z := z) (by omega) (by omega) z1 z4 (ok_smC hok (by omega)) (hw.1 _ (by omega)) b1 b2 (fun σ1 h1 => h σ1 ?_)
  obtain ⟨c1, c2, c3, c4, c5, c6, c7, c8, c9⟩ := h1
  have fr : ∀ s, s < 8 → s ≠ 3 + kp → ∀ x, x < 134 → σ1 307 (bs s + x) = σ 307 (bs s + x) := fun s hs hne x hx => by
    have := bs_ap (s := s) (o := 3 + kp) (by omega) (by omega) hne
    have := bs7 hs
    exact c9 _ (by omega) (by omega) (by omega) (by omega)
  have vv : ∀ s, s < 8 → s ≠ 3 + kp → vM (σ1 307) (bs s) = vM (σ 307) (bs s) := fun s hs hne => vM_ext (fun x hx _ => fr s hs hne x hx)
  have h76 : σ1 307 1076 = σ 307 1076 := c9 _ (by omega) (by omega) (by omega) (by omega)
  have hkA : ix (aKp (aM (σ 307))) = kp := k2
  refine ⟨c1, as_ext ?_ ?_ h76 (c9 1075 (by omega) (by omega) (by omega) (by omega)) ?_ ?_ c5 ?_ (c9 1074 (by omega) (by omega) (by omega) (by omega)), fun s hs => ?_, ⟨kp, ar + 1, h76.trans hkp, ?_, q3, q4, by omega, fun i hi => ?_⟩, c8, fun i hi => ?_⟩
  · funext j
    show (if j < 4 then vM (σ1 307) (bs j) else z0) = (if j < 4 then vM (σ 307) (bs j) else z0)
    by_cases hj : j < 4
    · rw [if_pos hj, if_pos hj, vv j (by omega) (by omega)]
    · rw [if_neg hj, if_neg hj]
  · funext j
    show (if j < ix (σ1 307 1076) then vM (σ1 307) (bs (4 + j)) else z0) = if j = ix (aKp (aM (σ 307))) - 1 then rcv (aBl (aM (σ 307)) (ix (aKp (aM (σ 307))) - 1)) l w (σ 307 1072 + 1) else (if j < ix (σ 307 1076) then vM (σ 307) (bs (4 + j)) else z0)
    rw [h76, hkA, k2, epb]
    by_cases hj : j = kp - 1
    · rw [if_pos (by omega), if_pos hj, hj, show 4 + (kp - 1) = 3 + kp by omega, c2]
    · rw [if_neg hj]
      by_cases hj2 : j < kp
      · rw [if_pos hj2, if_pos hj2, vv _ (by omega) (by omega)]
      · rw [if_neg hj2, if_neg hj2]
  · show σ1 307 (bs (3 + ix (σ1 307 1076)) + 3) = σ 307 (bs (3 + ix (σ 307 1076)) + 3) + 1
    rw [h76, k2, c4]
  · show lgM (σ1 307) = lgN 4 (σ 307 1072 + 1) (gone (aBl (aM (σ 307)) (ix (aKp (aM (σ 307))) - 1)) l) (lgM (σ 307))
    rw [c7, pl_ge (by omega) (by omega), hkA, epb]
  · show σ1 307 1073 = evn (σ 307 1073) (gone (aBl (aM (σ 307)) (ix (aKp (aM (σ 307))) - 1)) l)
    rw [c6, hkA, epb]
  · by_cases hsi : s = 3 + kp
    · rw [hsi]; exact c3
    · exact hbM_ext (fun x hx _ => fr s hs hsi x hx) (hw.1 s hs)
  · rw [c4, q2, nI_1]
  · rw [fr _ (by omega) (by omega) 3 (by omega)]; exact q6 i hi
  · by_cases hii : 4 + i = 3 + kp
    · have := congrArg sZ c2
      rw [hii]
      rw [rcv_sZ] at this
      refine Eq.trans this ?_
      have h4 := hw.2.2.2 i hi
      rw [hii] at h4
      exact h4
    · have := fr (4 + i) (by omega) hii 0 (by omega)
      exact this.trans (hw.2.2.2 i hi)
