/-! flow -/
def f_flow (a1 a2 : Int32) (t : ST) : Int32 × ST :=
  if lt26 a1 = true then
    if wt99 a2 = true then (aAr (flA (tA t) (ix (a1 - 97)) a2), setA (psA t) (flA (tA t) (ix (a1 - 97)) a2))
    else (-2, t)
  else (-1, t)
theorem c_flow (a1 a2 : Int32) (σ : Mem) (t : ST) (K : Int32 → Mem → Prop) (hc : CR σ t) (ho : okT t) (h : ∀ r t', f_flow a1 a2 t = (r, t') → ∀ σ1, CR σ1 t' → frC σ σ1 → K r σ1) : w_X6_flow a1 a2 σ K := by
  unfold w_X6_flow
  refine c_lIx (br_lx (fun h1 => ?_) (fun h1 => c_isWt (br_b (fun h2 => ?_) (fun h2 => ?_))))
  · exact h _ _ (by simp [f_flow, h1]) σ hc frC.rf
  · exact h _ _ (by simp [f_flow, h1, h2]) σ hc frC.rf
  · obtain ⟨l, hl, e3, -, e4⟩ := lt26_n h1
    rw [lx_t h1, e3]
    refine c_remember hc ho (fun σ1 c1 g1 => ?_)
    have q1 : aC σ1 0 = tA t := c1.1.2
    refine s_flow (b := 0) hl c1.1.1 (fun σ2 h5 => ?_)
    have c2 := CR_st c1 h5
    have hv : σ2 22 4 = aAr (flA (tA t) l a2) := by
      rw [← q1, ← h5.1]; rfl
    rw [hv]
    rw [q1] at c2
    refine h _ _ ?_ σ2 c2 (g1.tr (S1_frC h5))
    simp [f_flow, h1, h2, e4]
theorem m_flow (a1 a2 : Int32) (σ : Mem) (t : ST) (K : Int32 → Mem → Prop) (hc : MR σ t) (ho : okT t) (h : ∀ r t', f_flow a1 a2 t = (r, t') → ∀ σ1, MR σ1 t' → frM σ σ1 → K r σ1) : w_X7_flow a1 a2 σ K := by
  unfold w_X7_flow
  refine m_isLt (br_b (fun h1 => ?_) (fun h1 => m_isWt (br_b (fun h2 => ?_) (fun h2 => ?_))))
  · exact h _ _ (by simp [f_flow, h1]) σ hc frM.rf
  · exact h _ _ (by simp [f_flow, h1, h2]) σ hc frM.rf
  · obtain ⟨l, hl, e3, -, e4⟩ := lt26_n h1
    obtain ⟨w1, w2⟩ := wt99_n h2
    rw [e3]
    refine m_recordT hc ho (fun σ1 c1 g1 => ?_)
    have q1 : aM (σ1 307) = tA t := c1.1.2
    refine m_flows hl c1.1.1 (by rw [q1]; exact ho.1) (by omega) w2 (fun σ2 h5 => ?_)
    have c2 := MR_st c1 h5
    obtain ⟨kp, k1, k2, k3, k4⟩ := WM_kp h5.2.2
    refine m_present k1 k3 (m_of 3 (by omega) (by omega) ?_)
    have hv : σ2 307 (bs (3 + kp) + 3) = aAr (flA (tA t) l a2) := by
      rw [← q1, ← h5.2.1]
      show _ = σ2 307 (bs (3 + ix (σ2 307 1076)) + 3)
      rw [k2]
    rw [hv]
    rw [q1] at c2
    refine h _ _ ?_ σ2 c2 (g1.tr (M2_frM h5))
    simp [f_flow, h1, h2, e4]
theorem ok_flow (a1 a2 : Int32) (t : ST) (ho : okT t) : okT (f_flow a1 a2 t).2 := by
  unfold f_flow
  split
  · rename_i h1
    split
    · rename_i h2
      obtain ⟨l, hl, e3, -, e4⟩ := lt26_n h1
      obtain ⟨w1, w2⟩ := wt99_n h2
      rw [e4]
      exact ok_set (ok_ps ho) (ok_fl ho.1 hl (by omega) w2)
    · exact ho
  · exact ho
theorem x_flow (a1 a2 : Int32) {σ : Mem} (hi : Inv σ) : w_X6_flow a1 a2 σ (fun r σ1 => w_X7_flow a1 a2 σ1 (fun r2 σ2 => r = r2 ∧ Inv σ2)) :=
  glue (f := f_flow a1 a2) (C := w_X6_flow a1 a2) (M := w_X7_flow a1 a2) (c_flow a1 a2) (m_flow a1 a2) (ok_flow a1 a2) hi
/-! merge -/
def f_merge (a1 a2 : Int32) (t : ST) : Int32 × ST :=
  if sm4 a1 = true ∧ sm4 a2 = true then
    if a1 = a2 then (-2, t)
    else if sS (aSm (tA t) (ix a1)) + sS (aSm (tA t) (ix a2)) ≤ 1000000 then (nI (lft (aSm (tA t) (ix a1)) (aSm (tA t) (ix a2)) (aTm (tA t))), setA (psA t) (joinA (tA t) (ix a1) (ix a2)))
    else (-3, t)
  else (-1, t)
theorem c_sum {σ : Mem} {t : ST} {i : Nat} (hc : CR σ t) (hi : i < 4) : σ (2 + 5 * i) 2 = sS (aSm (tA t) i) := by rw [← hc.1.2, aSm_at hi, Nat.zero_add]; rfl
theorem m_sum {σ : Mem} {t : ST} {i : Nat} (hc : MR σ t) (hi : i < 4) : σ 307 (bs i + 2) = sS (aSm (tA t) i) := by rw [← hc.1.2, aM_sm hi]; rfl
theorem c_size {σ : Mem} {t : ST} {i : Nat} (hc : CR σ t) (hi : i < 4) : σ (2 + 5 * i) 0 = sZ (aSm (tA t) i) := by rw [← hc.1.2, aSm_at hi, Nat.zero_add]; rfl
theorem m_size {σ : Mem} {t : ST} {i : Nat} (hc : MR σ t) (hi : i < 4) : σ 307 (bs i + 0) = sZ (aSm (tA t) i) := by rw [← hc.1.2, aM_sm hi]; rfl
theorem c_merge (a1 a2 : Int32) (σ : Mem) (t : ST) (K : Int32 → Mem → Prop) (hc : CR σ t) (ho : okT t) (h : ∀ r t', f_merge a1 a2 t = (r, t') → ∀ σ1, CR σ1 t' → frC σ σ1 → K r σ1) : w_X6_merge a1 a2 σ K := by
  unfold w_X6_merge
  refine c_isSm (br_b (fun h1 => ?_) (fun h1 => c_isSm (br_b (fun h2 => ?_) (fun h2 => br_i (fun h3 => ?_) (fun h3 => ?_)))))
  · exact h _ _ (by simp [f_merge, h1]) σ hc frC.rf
  · exact h _ _ (by simp [f_merge, h2]) σ hc frC.rf
  · exact h _ _ (by simp [f_merge, h1, h2, if_pos h3]) σ hc frC.rf
  · obtain ⟨i, hi, e1, e2⟩ := sm4_n h1
    obtain ⟨j, hj, e3, e4⟩ := sm4_n h2
    have hij : i ≠ j := fun q => h3 (by rw [e1, e3, q])
    rw [e2, e4, c_sum hc hi, c_sum hc hj]
    refine ⟨by rw [e1]; exact vi hi, by rw [e3]; exact vi hj, fun h4 => ?_, fun h4 => ?_⟩
    · refine c_remember hc ho (fun σ1 c1 g1 => ?_)
      have q1 : aC σ1 0 = tA t := c1.1.2
      obtain ⟨-, z, z1, z2, z3, z4⟩ := ho.1.1 i hi
      rw [e1, e3]
      refine s_join (b := 0) (z := z) hi hj hij c1.1.1 (by omega) (by rw [q1]; exact z1) (fun σ2 h5 => ?_)
      have c2 := CR_st c1 h5
      have hT : σ1 0 3 = aTm (tA t) := by rw [← q1]; rfl
      rw [q1, hT]
      rw [q1] at c2
      refine h _ _ ?_ σ2 c2 (g1.tr (S1_frC h5))
      unfold f_merge
      rw [if_pos ⟨h1, h2⟩, if_neg h3, e2, e4, if_pos h4]
    · refine h _ _ ?_ σ hc frC.rf
      unfold f_merge
      rw [if_pos ⟨h1, h2⟩, if_neg h3, e2, e4, if_neg h4]
theorem m_merge (a1 a2 : Int32) (σ : Mem) (t : ST) (K : Int32 → Mem → Prop) (hc : MR σ t) (ho : okT t) (h : ∀ r t', f_merge a1 a2 t = (r, t') → ∀ σ1, MR σ1 t' → frM σ σ1 → K r σ1) : w_X7_merge a1 a2 σ K := by
  unfold w_X7_merge
  refine m_isSm (br_b (fun h1 => ?_) (fun h1 => m_isSm (br_b (fun h2 => ?_) (fun h2 => br_i (fun h3 => ?_) (fun h3 => ?_)))))
  · exact h _ _ (by simp [f_merge, h1]) σ hc frM.rf
  · exact h _ _ (by simp [f_merge, h2]) σ hc frM.rf
  · exact h _ _ (by simp [f_merge, h1, h2, if_pos h3]) σ hc frM.rf
  · obtain ⟨i, hi, e1, e2⟩ := sm4_n h1
    obtain ⟨j, hj, e3, e4⟩ := sm4_n h2
    have hij : i ≠ j := fun q => h3 (by rw [e1, e3, q])
    have key : w_X7_of (nI i) 2 σ (fun r6 σ5 => (w_X7_of (nI j) 2 σ5 (fun r8 σ7 => (br ((r6 + r8) ≤ 1000000) (w_X7_record σ7 (fun σ9 => (w_X7_joins (nI i) (nI j) σ9 (fun r11 σ10 => (w_X7_empties (nI j) σ10 (fun σ12 => (vp_in 1074 1244 ∧ (vp_in 1074 1244 ∧ ∀ σ15 : Mem, σ15 = mu σ12 307 (ix 1074) ((σ12 307 (ix 1074)) + 1) → (w_X7_tells 1 (nI i) r11 σ15 (fun σ16 => (K r11 σ16))))))))))) (K (-3) σ7))))) := by
      refine m_of 2 (by omega) (by omega) (m_of 2 (by omega) (by omega) ?_)
      rw [m_sum hc hi, m_sum hc hj]
      refine ⟨fun h4 => ?_, fun h4 => ?_⟩
      · refine m_recordT hc ho (fun σ1 c1 g1 => ?_)
        have q1 : aM (σ1 307) = tA t := c1.1.2
        refine m_join (K := K) hi hj hij c1.1.1 (by rw [q1]; exact ho.1) (fun σ2 h5 => ?_)
        have c2 := MR_st c1 h5
        rw [q1]
        rw [q1] at c2
        refine h _ _ ?_ σ2 c2 (g1.tr (M2_frM h5))
        unfold f_merge
        rw [if_pos ⟨h1, h2⟩, if_neg h3, e2, e4, if_pos h4]
      · refine h _ _ ?_ σ hc frM.rf
        unfold f_merge
        rw [if_pos ⟨h1, h2⟩, if_neg h3, e2, e4, if_neg h4]
    rw [e1, e3]
    exact key
theorem ok_merge (a1 a2 : Int32) (t : ST) (ho : okT t) : okT (f_merge a1 a2 t).2 := by
  unfold f_merge
  split
  · rename_i h1
    split
    · exact ho
    · split
      · rename_i h3
        obtain ⟨i, hi, e1, e2⟩ := sm4_n h1.1
        obtain ⟨j, hj, e3, e4⟩ := sm4_n h1.2
        rw [e2, e4] at h3
        rw [e2, e4]
        refine ok_set (ok_ps ho) (ok_join ho.1 hi hj ?_)
        obtain ⟨⟨p1, p2, p3, -⟩, -⟩ := ho.1.1 i hi
        obtain ⟨⟨r1, r2, r3, -⟩, -⟩ := ho.1.1 j hj
        have e := add_i (x := sS (aSm (tA t) i)) (y := sS (aSm (tA t) j)) rfl rfl (by omega) (by omega)
        rw [fa_le, e] at h3
        exact h3
      · exact ho
  · exact ho
theorem x_merge (a1 a2 : Int32) {σ : Mem} (hi : Inv σ) : w_X6_merge a1 a2 σ (fun r σ1 => w_X7_merge a1 a2 σ1 (fun r2 σ2 => r = r2 ∧ Inv σ2)) :=
  glue (f := f_merge a1 a2) (C := w_X6_merge a1 a2) (M := w_X7_merge a1 a2) (c_merge a1 a2) (m_merge a1 a2) (ok_merge a1 a2) hi
/-! copy -/
def f_copy (a1 a2 : Int32) (t : ST) : Int32 × ST :=
  if sm4 a1 = true ∧ sm4 a2 = true then
    if a1 = a2 then (-2, t)
    else (nI (nC (aSm (tA t) (ix a2))), setA (psA t) (stA (tA t) (ix a1) (aSm (tA t) (ix a2))))
  else (-1, t)
theorem c_copy (a1 a2 : Int32) (σ : Mem) (t : ST) (K : Int32 → Mem → Prop) (hc : CR σ t) (ho : okT t) (h : ∀ r t', f_copy a1 a2 t = (r, t') → ∀ σ1, CR σ1 t' → frC σ σ1 → K r σ1) : w_X6_copy a1 a2 σ K := by
  unfold w_X6_copy
  refine c_isSm (br_b (fun h1 => ?_) (fun h1 => c_isSm (br_b (fun h2 => ?_) (fun h2 => br_i (fun h3 => ?_) (fun h3 => ?_)))))
  · exact h _ _ (by simp [f_copy, h1]) σ hc frC.rf
  · exact h _ _ (by simp [f_copy, h2]) σ hc frC.rf
  · exact h _ _ (by simp [f_copy, h1, h2, if_pos h3]) σ hc frC.rf
  · obtain ⟨i, hi, e1, e2⟩ := sm4_n h1
    obtain ⟨j, hj, e3, e4⟩ := sm4_n h2
    have hij : i ≠ j := fun q => h3 (by rw [e1, e3, q])
    rw [e2, e4]
    have v1 : vp_in a1 4 := by rw [e1]; exact vi hi
    have v2 : vp_in a2 4 := by rw [e3]; exact vi hj
    refine c_remember hc ho (fun σ1 c1 g1 => ⟨v1, v2, ?_⟩)
    have q1 : aC σ1 0 = tA t := c1.1.2
    have w1 := c1.1.1
    have b2 : hbC σ1 (2 + 5 * j) := by have := w1.1 j hj; rw [Nat.zero_add] at this; exact this
    have v2 : vC σ1 (2 + 5 * j) = aSm (tA t) j := by rw [← q1, aSm_at hj, Nat.zero_add]
    refine s_become (by omega) b2 (fun σ2 hp => ⟨v1, ?_⟩)
    rw [v2] at hp
    have h5 : S1 0 (stA (aC σ1 0) i (aSm (tA t) j)) σ1 σ2 := s_st (b := 0) hi w1 (by rw [Nat.zero_add]; exact hp)
    rw [q1] at h5
    refine s_counters hp.2.2 ?_
    rw [hp.1]
    refine h _ _ ?_ σ2 (CR_st c1 h5) (g1.tr (S1_frC h5))
    unfold f_copy
    rw [if_pos ⟨h1, h2⟩, if_neg h3, e2, e4]
theorem m_copy (a1 a2 : Int32) (σ : Mem) (t : ST) (K : Int32 → Mem → Prop) (hc : MR σ t) (ho : okT t) (h : ∀ r t', f_copy a1 a2 t = (r, t') → ∀ σ1, MR σ1 t' → frM σ σ1 → K r σ1) : w_X7_copy a1 a2 σ K := by
  unfold w_X7_copy
  refine m_isSm (br_b (fun h1 => ?_) (fun h1 => m_isSm (br_b (fun h2 => ?_) (fun h2 => br_i (fun h3 => ?_) (fun h3 => ?_)))))
  · exact h _ _ (by simp [f_copy, h1]) σ hc frM.rf
  · exact h _ _ (by simp [f_copy, h2]) σ hc frM.rf
  · exact h _ _ (by simp [f_copy, h1, h2, if_pos h3]) σ hc frM.rf
  · obtain ⟨i, hi, e1, e2⟩ := sm4_n h1
    obtain ⟨j, hj, e3, e4⟩ := sm4_n h2
    have hij : i ≠ j := fun q => h3 (by rw [e1, e3, q])
    refine m_recordT hc ho (fun σ1 c1 g1 => ?_)
    have q1 : aM (σ1 307) = tA t := c1.1.2
    rw [e1, e3]
    refine m_copyS hi hj hij c1.1.1 (fun σ2 h5 => m_counters (by omega) (h5.2.2.1 i (by omega)) ?_)
    rw [q1] at h5
    have hv : vM (σ2 307) (bs i) = aSm (tA t) j := by
      have := congrFun (congrArg aSm h5.2.1) i
      rw [aM_sm hi] at this
      rw [this]
      exact if_pos rfl
    rw [hv]
    refine h _ _ ?_ σ2 (MR_st c1 h5) (g1.tr (M2_frM h5))
    unfold f_copy
    rw [if_pos ⟨h1, h2⟩, if_neg h3, e2, e4]
theorem ok_copy (a1 a2 : Int32) (t : ST) (ho : okT t) : okT (f_copy a1 a2 t).2 := by
  unfold f_copy
  split
  · rename_i h1
    split
    · exact ho
    · obtain ⟨i, hi, e1, e2⟩ := sm4_n h1.1
      obtain ⟨j, hj, e3, e4⟩ := sm4_n h1.2
      rw [e2, e4]
      exact ok_set (ok_ps ho) (ok_st ho.1 (ho.1.1 j hj))
  · exact ho
theorem x_copy (a1 a2 : Int32) {σ : Mem} (hi : Inv σ) : w_X6_copy a1 a2 σ (fun r σ1 => w_X7_copy a1 a2 σ1 (fun r2 σ2 => r = r2 ∧ Inv σ2)) :=
  glue (f := f_copy a1 a2) (C := w_X6_copy a1 a2) (M := w_X7_copy a1 a2) (c_copy a1 a2) (m_copy a1 a2) (ok_copy a1 a2) hi
