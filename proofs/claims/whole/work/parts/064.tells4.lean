/-! block -/
def blV (A : AS) (i : Nat) (a2 : Int32) : Int32 := if a2 = 0 then (if i + 1 = ix (aKp A) then aAr A else 8) else if a2 = 1 then sS (aBl A i) else if a2 = 2 then nI (nC (aBl A i)) else if a2 = 3 then sF (aBl A i) else -2
def f_block (a1 a2 : Int32) (t : ST) : Int32 × ST := if 0 ≤ a1 ∧ a1 < aKp (tA t) then (blV (tA t) (ix a1) a2, t) else (-1, t)
theorem kp_n {a : Int32} {kp : Nat} (hk : kp ≤ 8) (h0 : 0 ≤ a) (h1 : a < nI kp) : ∃ i : Nat, i < kp ∧ a = nI i ∧ ix a = i := by
  rw [fa_le] at h0
  rw [fa_lt, nI_toInt (by omega)] at h1
  have z : (0 : Int32).toInt = 0 := by decide
  have e : a = nI a.toInt.toNat := nI_ofi (by omega) (by omega)
  exact ⟨a.toInt.toNat, by omega, e, by rw [congrArg ix e]; exact ixn (by omega)⟩
theorem c_block (a1 a2 : Int32) (σ : Mem) (t : ST) (K : Int32 → Mem → Prop) (hc : CR σ t) (ho : okT t) (h : ∀ r t', f_block a1 a2 t = (r, t') → ∀ σ1, CR σ1 t' → frC σ σ1 → K r σ1) : w_X6_block a1 a2 σ K := by
  unfold w_X6_block
  obtain ⟨-, kp, ar, k1, k2, k3, k4, k5, k6, k7, k8⟩ := id ho.1
  have hA := hc.1.2
  have hkp : σ 22 2 = nI kp := by rw [← k1, ← hA]; rfl
  have hno : ¬ (0 ≤ a1 ∧ a1 < aKp (tA t)) → K (-1) σ := fun q => h _ t (by unfold f_block; rw [if_neg q]) σ hc frC.rf
  refine br_i (fun h1 => hno (fun q => absurd q.1 (Int32.not_le.mpr h1))) (fun h1 => br_i (fun h2 => ?_) (fun h2 => hno (fun q => h2 (by rw [hkp, ← k1]; exact q.2))))
  have hin : 0 ≤ a1 ∧ a1 < aKp (tA t) := ⟨Int32.not_lt.mp h1, by rw [k1, ← hkp]; exact h2⟩
  rw [hkp] at h2
  obtain ⟨i, hi, e1, e2⟩ := kp_n (by omega) hin.1 h2
  have fin : ∀ r : Int32, r = blV (tA t) i a2 → K r σ := fun r hr => by
    refine h r t ?_ σ hc frC.rf
    unfold f_block
    rw [if_pos hin, hr, e2]
  have hW := hc.1.1.2.1
  have hbl : vC σ (22 + 2 + 5 * sl4 (ix (σ 22 1)) (ix (σ 22 2)) i) = aBl (tA t) i := by
    rw [← hA]
    show _ = blC σ (0 + 22) i
    unfold blC
    rw [if_pos (by show i < ix (σ 22 2); rw [nI_ix hkp (by omega)]; exact hi)]
  rw [e1]
  refine s_blockAt (w := 22) hW (by omega) ?_
  have hb : hbC σ (22 + 2 + 5 * sl4 (ix (σ 22 1)) (ix (σ 22 2)) i) := (hW.2 _ (sl4_lt _ _ _)).1
  unfold blV at fin
  refine br_i (fun c0 => ?_) (fun c0 => br_i (fun c1 => ?_) (fun c1 => br_i (fun c2 => s_counters hb ?_) (fun c2 => br_i (fun c3 => ?_) (fun c3 => ?_))))
  · have ek : ix (aKp (tA t)) = kp := by rw [k1, ixn (by omega)]
    rw [if_pos c0, ek] at fin
    unfold w_X5_arrivalsOf
    rw [hkp]
    obtain ⟨m, rfl⟩ : ∃ m, kp = m + 1 := ⟨kp - 1, by omega⟩
    rw [nI_pred]
    refine br_i (fun hq => ?_) (fun hq => ?_)
    · have : i = m := (nI_eq (by omega) (by omega)).mp hq
      refine fin _ ?_
      rw [if_pos (by omega), ← hA]; rfl
    · refine fin _ ?_
      rw [if_neg (fun q => hq (by rw [show i = m by omega]))]
  · exact fin _ (by rw [if_neg c0, if_pos c1, ← hbl]; rfl)
  · rw [hbl]
    exact fin _ (by rw [if_neg c0, if_neg c1, if_pos c2])
  · exact fin _ (by rw [if_neg c0, if_neg c1, if_neg c2, if_pos c3, ← hbl]; rfl)
  · exact fin _ (by rw [if_neg c0, if_neg c1, if_neg c2, if_neg c3])
theorem m_block (a1 a2 : Int32) (σ : Mem) (t : ST) (K : Int32 → Mem → Prop) (hc : MR σ t) (ho : okT t) (h : ∀ r t', f_block a1 a2 t = (r, t') → ∀ σ1, MR σ1 t' → frM σ σ1 → K r σ1) : w_X7_block a1 a2 σ K := by
  unfold w_X7_block
  obtain ⟨-, kp, ar, k1, k2, k3, k4, k5, k6, k7, k8⟩ := id ho.1
  have hA := hc.1.2
  have hkp : σ 307 1076 = nI kp := by rw [← k1, ← hA]; rfl
  have ekp : ix (σ 307 1076) = kp := nI_ix hkp (by omega)
  refine ⟨vil (i := 1076) (by omega), ?_⟩
  rw [show ix (1076 : Int32) = 1076 from rfl, hkp]
  have iff1 : a1 ≤ nI kp - 1 ↔ a1 < nI kp := by
    obtain ⟨m, rfl⟩ : ∃ m, kp = m + 1 := ⟨kp - 1, by omega⟩
    rw [nI_pred, fa_le, fa_lt, nI_toInt (by omega), nI_toInt (by omega)]
    omega
  refine m_in (br_b (fun h1 => ?_) (fun h1 => ?_))
  · refine h _ t ?_ σ hc frM.rf
    unfold f_block
    rw [if_neg]
    rintro ⟨q1, q2⟩
    rw [k1] at q2
    rw [decide_eq_true q1, decide_eq_true (iff1.mpr q2)] at h1
    cases h1
  · rw [Bool.and_eq_true, decide_eq_true_eq, decide_eq_true_eq, iff1] at h1
    have hin : 0 ≤ a1 ∧ a1 < aKp (tA t) := ⟨h1.1, by rw [k1]; exact h1.2⟩
    obtain ⟨i, hi, e1, e2⟩ := kp_n (by omega) h1.1 h1.2
    have fin : ∀ r : Int32, r = blV (tA t) i a2 → K r σ := fun r hr => by
      refine h r t ?_ σ hc frM.rf
      unfold f_block
      rw [if_pos hin, hr, e2]
    have hbl : vM (σ 307) (bs (4 + i)) = aBl (tA t) i := by rw [← hA, aM_bl (by rw [ekp]; exact hi)]
    obtain ⟨hb0, ⟨kp2, ar2, q1, q2, q3, q4, q5, q6⟩, -, -⟩ := id hc.1.1
    have hkk : kp2 = kp := (nI_eq (by omega) (by omega)).mp (q1.symm.trans hkp)
    subst hkk
    rintro v4 rfl
    rw [e1, show (4 : Int32) = nI 4 from rfl, nI_add]
    unfold blV at fin
    refine br_i (fun c0 => m_of 3 (by omega) (by omega) ?_) (fun c0 => br_i (fun c1 => m_of 2 (by omega) (by omega) ?_) (fun c1 => br_i (fun c2 => m_counters (by omega) (hb0 _ (by omega)) ?_) (fun c2 => br_i (fun c3 => m_of 1 (by omega) (by omega) ?_) (fun c3 => ?_))))
    · have ek : ix (aKp (tA t)) = kp2 := by rw [k1, ixn (by omega)]
      rw [if_pos c0, ek] at fin
      by_cases hq : i + 1 = kp2
      · refine fin _ ?_
        rw [if_pos hq, ← hA]
        show _ = σ 307 (bs (3 + ix (σ 307 1076)) + 3)
        rw [ekp, show 3 + kp2 = 4 + i by omega]
      · refine fin _ ?_
        rw [if_neg hq]; exact q6 i (by omega)
    · exact fin _ (by rw [if_neg c0, if_pos c1, ← hbl]; rfl)
    · rw [hbl]
      exact fin _ (by rw [if_neg c0, if_neg c1, if_pos c2])
    · exact fin _ (by rw [if_neg c0, if_neg c1, if_neg c2, if_pos c3, ← hbl]; rfl)
    · exact fin _ (by rw [if_neg c0, if_neg c1, if_neg c2, if_neg c3])
theorem x_block (a1 a2 : Int32) {σ : Mem} (hi : Inv σ) : w_X6_block a1 a2 σ (fun r σ1 => w_X7_block a1 a2 σ1 (fun r2 σ2 => r = r2 ∧ Inv σ2)) :=
  glue (f := f_block a1 a2) (C := w_X6_block a1 a2) (M := w_X7_block a1 a2) (c_block a1 a2) (m_block a1 a2) (fun t ho => by unfold f_block; split <;> exact ho) hi
/-! count -/
def f_count (a : Int32) (t : ST) : Int32 × ST := (if a = 0 then aTm (tA t) else if a = 1 then aEv (tA t) else if a = 2 then aMg (tA t) else if a = 3 then aBg (tA t) else if a = 4 then aKp (tA t) else if a = 5 then aAr (tA t) else if a = 6 then nI (tN t) else if a = 7 then nI (tT t) else -2, t)
theorem c_count (a : Int32) (σ : Mem) (t : ST) (K : Int32 → Mem → Prop) (hc : CR σ t) (ho : okT t) (h : ∀ r t', f_count a t = (r, t') → ∀ σ1, CR σ1 t' → frC σ σ1 → K r σ1) : w_X6_count a σ K := by
  unfold w_X6_count
  have hA := hc.1.2
  have fin : ∀ r : Int32, r = (f_count a t).1 → K r σ := fun r hr => h r t (by rw [hr]; rfl) σ hc frC.rf
  unfold f_count at fin
  dsimp only at fin
  refine br_i (fun c0 => ?_) (fun c0 => br_i (fun c1 => ?_) (fun c1 => br_i (fun c2 => ?_) (fun c2 => br_i (fun c3 => ?_) (fun c3 => br_i (fun c4 => ?_) (fun c4 => br_i (fun c5 => ?_) (fun c5 => br_i (fun c6 => ?_) (fun c6 => br_i (fun c7 => ?_) (fun c7 => ?_))))))))
  · exact fin _ (by rw [if_pos c0, ← hA]; rfl)
  · exact fin _ (by rw [if_neg c0, if_pos c1, ← hA]; rfl)
  · exact fin _ (by rw [if_neg c0, if_neg c1, if_pos c2, ← hA]; rfl)
  · exact fin _ (by rw [if_neg c0, if_neg c1, if_neg c2, if_pos c3, ← hA]; rfl)
  · exact fin _ (by rw [if_neg c0, if_neg c1, if_neg c2, if_neg c3, if_pos c4, ← hA]; rfl)
  · exact fin _ (by rw [if_neg c0, if_neg c1, if_neg c2, if_neg c3, if_neg c4, if_pos c5, ← hA]; rfl)
  · exact fin _ (by rw [if_neg c0, if_neg c1, if_neg c2, if_neg c3, if_neg c4, if_neg c5, if_pos c6]; exact hc.2.1.2.1)
  · exact fin _ (by rw [if_neg c0, if_neg c1, if_neg c2, if_neg c3, if_neg c4, if_neg c5, if_neg c6, if_pos c7]; exact hc.2.2.2.1)
  · exact fin _ (by rw [if_neg c0, if_neg c1, if_neg c2, if_neg c3, if_neg c4, if_neg c5, if_neg c6, if_neg c7])
theorem m_count (a : Int32) (σ : Mem) (t : ST) (K : Int32 → Mem → Prop) (hc : MR σ t) (ho : okT t) (h : ∀ r t', f_count a t = (r, t') → ∀ σ1, MR σ1 t' → frM σ σ1 → K r σ1) : w_X7_count a σ K := by
  unfold w_X7_count
  have hA := hc.1.2
  have fin : ∀ r : Int32, r = (f_count a t).1 → K r σ := fun r hr => h r t (by rw [hr]; rfl) σ hc frM.rf
  unfold f_count at fin
  dsimp only at fin
  obtain ⟨kp, k1, k2, k3, k4⟩ := WM_kp hc.1.1
  have vv : ∀ j : Nat, j < 5 → ∀ x : Int32, x = nI j → vp_in (1072 + x) 1244 ∧ ix (1072 + x) = 1072 + j := fun j hj x hx => by
    rw [hx, show (1072 : Int32) = nI 1072 from rfl, nI_add]
    exact ⟨vi (by omega), ixn (by omega)⟩
  refine br_i (fun c0 => ?_) (fun c0 => br_i (fun c1 => ?_) (fun c1 => br_i (fun c2 => ?_) (fun c2 => br_i (fun c3 => ?_) (fun c3 => br_i (fun c4 => ?_) (fun c4 => br_i (fun c5 => ?_) (fun c5 => br_i (fun c6 => ?_) (fun c6 => br_i (fun c7 => ?_) (fun c7 => ?_))))))))
  · obtain ⟨p, q⟩ := vv 0 (by omega) a c0
    rw [q]; exact ⟨p, fin _ (by rw [if_pos c0, ← hA]; rfl)⟩
  · obtain ⟨p, q⟩ := vv 1 (by omega) a c1
    rw [q]; exact ⟨p, fin _ (by rw [if_neg c0, if_pos c1, ← hA]; rfl)⟩
  · obtain ⟨p, q⟩ := vv 2 (by omega) a c2
    rw [q]; exact ⟨p, fin _ (by rw [if_neg c0, if_neg c1, if_pos c2, ← hA]; rfl)⟩
  · obtain ⟨p, q⟩ := vv 3 (by omega) a c3
    rw [q]; exact ⟨p, fin _ (by rw [if_neg c0, if_neg c1, if_neg c2, if_pos c3, ← hA]; rfl)⟩
  · obtain ⟨p, q⟩ := vv 4 (by omega) a c4
    rw [q]; exact ⟨p, fin _ (by rw [if_neg c0, if_neg c1, if_neg c2, if_neg c3, if_pos c4, ← hA]; rfl)⟩
  · refine m_present k1 k3 (m_of 3 (by omega) (by omega) (fin _ ?_))
    rw [if_neg c0, if_neg c1, if_neg c2, if_neg c3, if_neg c4, if_pos c5, ← hA]
    show _ = σ 307 (bs (3 + ix (σ 307 1076)) + 3)
    rw [k2]
  · exact fin _ (by rw [if_neg c0, if_neg c1, if_neg c2, if_neg c3, if_neg c4, if_neg c5, if_pos c6]; exact hc.2.1.1)
  · exact fin _ (by rw [if_neg c0, if_neg c1, if_neg c2, if_neg c3, if_neg c4, if_neg c5, if_neg c6, if_pos c7]; exact hc.2.2.2.1)
  · exact fin _ (by rw [if_neg c0, if_neg c1, if_neg c2, if_neg c3, if_neg c4, if_neg c5, if_neg c6, if_neg c7])
theorem x_count (a : Int32) {σ : Mem} (hi : Inv σ) : w_X6_count a σ (fun r σ1 => w_X7_count a σ1 (fun r2 σ2 => r = r2 ∧ Inv σ2)) :=
  glue (f := f_count a) (C := w_X6_count a) (M := w_X7_count a) (c_count a) (m_count a) (fun t ho => ho) hi
/-! event -/
def in03 (a : Int32) : Bool := decide (0 ≤ a) && decide (a ≤ 3)
def evV (o : Option Ev) (a2 : Int32) : Int32 := match o with | none => -5 | some e => if a2 = 0 then e.1 else if a2 = 1 then e.2.1 else if a2 = 2 then e.2.2.1 else e.2.2.2
def f_event (a1 a2 : Int32) (t : ST) : Int32 × ST := if 0 ≤ a1 ∧ in03 a2 = true then (evV (aLg (tA t) (a1.toInt.toNat)) a2, t) else (-2, t)
theorem nn_n {a : Int32} (h0 : 0 ≤ a) : a = nI a.toInt.toNat ∧ a.toInt.toNat < 2 ^ 31 := by
  rw [fa_le] at h0
  have z : (0 : Int32).toInt = 0 := by decide
  have := a.toInt_lt
  exact ⟨nI_ofi (by omega) (by omega), by omega⟩
theorem c_event (a1 a2 : Int32) (σ : Mem) (t : ST) (K : Int32 → Mem → Prop) (hc : CR σ t) (ho : okT t) (h : ∀ r t', f_event a1 a2 t = (r, t') → ∀ σ1, CR σ1 t' → frC σ σ1 → K r σ1) : w_X6_event a1 a2 σ K := by
  unfold w_X6_event
  have hA := hc.1.2
  have hL : wfL σ 44 := hc.1.1.2.2
  obtain ⟨nx, kn, n1, n2, n3, n4⟩ := id hL
  have hno : ¬ (0 ≤ a1 ∧ in03 a2 = true) → K (-2) σ := fun q => h _ t (by unfold f_event; rw [if_neg q]) σ hc frC.rf
  refine br_i (fun h1 => hno (fun q => absurd q.1 (Int32.not_le.mpr h1))) (fun h1 => br_i (fun h2 => hno (fun q => ?_)) (fun h2 => br_i (fun h3 => ?_) (fun h3 => hno (fun q => ?_))))
  · have q2 := q.2; unfold in03 at q2
    rw [Bool.and_eq_true, decide_eq_true_eq] at q2
    exact absurd q2.1 (Int32.not_le.mpr h2)
  · have hin : 0 ≤ a1 ∧ in03 a2 = true := ⟨Int32.not_lt.mp h1, by unfold in03; rw [decide_eq_true (Int32.not_lt.mp h2), decide_eq_true h3]; rfl⟩
    obtain ⟨e1, e2⟩ := nn_n hin.1
    have fin : ∀ r : Int32, r = evV (aLg (tA t) a1.toInt.toNat) a2 → K r σ := fun r hr => by
      refine h r t ?_ σ hc frC.rf
      unfold f_event
      rw [if_pos hin, hr]
    generalize a1.toInt.toNat = j at fin e1 e2
    rw [n2, e1]
    have ekn : ix (σ 44 5) = kn := nI_ix n2 (by omega)
    have hlg : aLg (tA t) j = lgC σ 44 j := by rw [← hA]; rfl
    rw [hlg] at fin
    unfold lgC at fin
    rw [ekn] at fin
    refine br_i (fun h4 => ?_) (fun h4 => ?_)
    · have hj : j < kn := (nI_ltI (by omega) (by omega)).mp h4
      rw [if_pos hj] at fin
      unfold evV at fin
      dsimp only at fin
      refine s_slotOf (g := 44) hL (by omega) ?_
      have hs : (ix (σ 44 4) + 7 - j) % 8 < 8 := Nat.mod_lt _ (by omega)
      rw [ixn (show (ix (σ 44 4) + 7 - j) % 8 < 2 ^ 31 by omega)]
      refine br_i (fun c0 => ⟨vi hs, ?_⟩) (fun c0 => br_i (fun c1 => ⟨vi hs, ?_⟩) (fun c1 => br_i (fun c2 => ⟨vi hs, ?_⟩) (fun c2 => ⟨vi hs, ?_⟩)))
      · exact fin _ (by rw [if_pos c0])
      · exact fin _ (by rw [if_neg c0, if_pos c1])
      · exact fin _ (by rw [if_neg c0, if_neg c1, if_pos c2])
      · exact fin _ (by rw [if_neg c0, if_neg c1, if_neg c2])
    · have hj : ¬ j < kn := fun q => h4 ((nI_ltI (by omega) (by omega)).mpr q)
      rw [if_neg hj] at fin
      exact fin _ rfl
  · have q2 := q.2; unfold in03 at q2
    rw [Bool.and_eq_true, decide_eq_true_eq, decide_eq_true_eq] at q2
    exact h3 q2.2
theorem sub8 : ∀ kn, kn < 9 → ∀ j, j < 8 → j < kn → (nI kn - 1) - nI j = nI (kn - 1 - j) := by decide +kernel
theorem m_event (a1 a2 : Int32) (σ : Mem) (t : ST) (K : Int32 → Mem → Prop) (hc : MR σ t) (ho : okT t) (h : ∀ r t', f_event a1 a2 t = (r, t') → ∀ σ1, MR σ1 t' → frM σ σ1 → K r σ1) : w_X7_event a1 a2 σ K := by
  unfold w_X7_event
  have hA := hc.1.2
  obtain ⟨kn, n2, n4⟩ := id hc.1.1.2.2.1
  have hno : ¬ (0 ≤ a1 ∧ in03 a2 = true) → K (-2) σ := fun q => h _ t (by unfold f_event; rw [if_neg q]) σ hc frM.rf
  refine br_i (fun h1 => hno (fun q => absurd q.1 (Int32.not_le.mpr h1))) (fun h1 => m_in (br_b (fun h2 => hno (fun q => ?_)) (fun h2 => ?_)))
  · have q2 := q.2; unfold in03 at q2; rw [q2] at h2; cases h2
  · have hin : 0 ≤ a1 ∧ in03 a2 = true := ⟨Int32.not_lt.mp h1, h2⟩
    obtain ⟨e1, e2⟩ := nn_n hin.1
    obtain ⟨w, hw, e3, -⟩ := sm4_n (show sm4 a2 = true from h2)
    have fin : ∀ r : Int32, r = evV (aLg (tA t) a1.toInt.toNat) a2 → K r σ := fun r hr => by
      refine h r t ?_ σ hc frM.rf
      unfold f_event
      rw [if_pos hin, hr]
    generalize a1.toInt.toNat = j at fin e1 e2
    rw [show ix (1077 : Int32) = 1077 from rfl, n2, e1]
    have ekn : ix (σ 307 1077) = kn := nI_ix n2 (by omega)
    have hlg : aLg (tA t) j = lgM (σ 307) j := by rw [← hA]; rfl
    rw [hlg] at fin
    unfold lgM at fin
    rw [ekn] at fin
    refine ⟨vil (i := 1077) (by omega), br_i (fun h4 => ?_) (fun h4 => ⟨vil (i := 1077) (by omega), ?_⟩)⟩
    · have hj : ¬ j < kn := by have := (nI_le_iff (by omega) (by omega)).mp h4; omega
      rw [if_neg hj] at fin
      exact fin _ rfl
    · have hj : j < kn := Nat.not_le.mp (fun q => h4 ((nI_le_iff (by omega) (by omega)).mpr q))
      rw [if_pos hj] at fin
      unfold evV at fin
      dsimp only at fin
      rw [sub8 kn (by omega) j (by omega) hj, e3, show (4 : Int32) = nI 4 from rfl, pk_mul, show (1078 : Int32) = nI 1078 from rfl, nI_add, nI_add, ixn (show 1078 + 4 * (kn - 1 - j) + w < 2 ^ 31 by omega)]
      refine ⟨vi (by omega), fin _ ?_⟩
      rw [e3]
      rcases (show w = 0 ∨ w = 1 ∨ w = 2 ∨ w = 3 by omega) with rfl | rfl | rfl | rfl
      · rfl
      · rfl
      · rfl
      · rfl
theorem x_event (a1 a2 : Int32) {σ : Mem} (hi : Inv σ) : w_X6_event a1 a2 σ (fun r σ1 => w_X7_event a1 a2 σ1 (fun r2 σ2 => r = r2 ∧ Inv σ2)) :=
  glue (f := f_event a1 a2) (C := w_X6_event a1 a2) (M := w_X7_event a1 a2) (c_event a1 a2) (m_event a1 a2) (fun t ho => by unfold f_event; split <;> exact ho) hi
