/-! setSize -/
def sz210 (a : Int32) : Bool := decide (2 ≤ a) && decide (a ≤ 10)
theorem sz210_n {a : Int32} (h : sz210 a = true) : ∃ z : Nat, 2 ≤ z ∧ z ≤ 10 ∧ a = nI z ∧ ix a = z := by
  unfold sz210 at h
  rw [Bool.and_eq_true, decide_eq_true_eq, decide_eq_true_eq, fa_le, fa_le] at h
  have h0 : (2 : Int32).toInt = 2 := by decide
  have h3 : (10 : Int32).toInt = 10 := by decide
  have e : a = nI a.toInt.toNat := nI_ofi (by omega) (by omega)
  exact ⟨a.toInt.toNat, by omega, by omega, e, by rw [congrArg ix e]; exact ixn (by omega)⟩
def f_setSize (a1 a2 : Int32) (t : ST) : Int32 × ST :=
  if sm4 a1 = true then
    if sz210 a2 = true then
      if sZ (aSm (tA t) (ix a1)) = a2 then (-5, t)
      else (nI (nC (aSm (tA t) (ix a1)) - ix a2), setA (psA t) (rsN (nC (aSm (tA t) (ix a1)) - ix a2) (zet (tA t) (ix a1) a2) (ix a1)))
    else (-2, t)
  else (-1, t)
theorem c_setSize (a1 a2 : Int32) (σ : Mem) (t : ST) (K : Int32 → Mem → Prop) (hc : CR σ t) (ho : okT t) (h : ∀ r t', f_setSize a1 a2 t = (r, t') → ∀ σ1, CR σ1 t' → frC σ σ1 → K r σ1) : w_X6_setSize a1 a2 σ K := by
  unfold w_X6_setSize
  refine c_isSm (br_b (fun h1 => ?_) (fun h1 => br_i (fun h2 => ?_) (fun h2 => br_i (fun h3 => ?_) (fun h3 => ?_))))
  · exact h _ _ (by simp [f_setSize, h1]) σ hc frC.rf
  · have : sz210 a2 = false := by unfold sz210; rw [decide_eq_false (show ¬ 2 ≤ a2 from Int32.not_le.mpr h2)]; rfl
    exact h _ _ (by simp [f_setSize, h1, this]) σ hc frC.rf
  · have hz : sz210 a2 = true := by unfold sz210; rw [decide_eq_true (show 2 ≤ a2 from Int32.not_lt.mp h2), decide_eq_true h3]; rfl
    obtain ⟨i, hi, e1, e2⟩ := sm4_n h1
    obtain ⟨z, z1, z2, e3, e4⟩ := sz210_n hz
    rw [e2, c_size hc hi]
    refine ⟨by rw [e1]; exact vi hi, fun h4 => ?_, fun h4 => ?_⟩
    · refine h _ _ ?_ σ hc frC.rf
      unfold f_setSize
      rw [if_pos h1, if_pos hz, e2, if_pos h4]
    · refine c_remember hc ho (fun σ1 c1 g1 => ?_)
      have q1 : aC σ1 0 = tA t := c1.1.2
      have key : w_X2_resize 0 (nI i) (nI z) σ1 (fun r6 σ5 => K r6 σ5) := by
        refine s_resize (b := 0) hi (by omega) c1.1.1 (fun σ2 h5 => ?_)
        rw [q1] at h5 ⊢
        refine h _ _ ?_ σ2 (CR_st c1 h5) (g1.tr (S1_frC h5))
        unfold f_setSize
        rw [if_pos h1, if_pos hz, e2, if_neg h4, e4, ← e3]
      rw [e1, e3]
      exact key
  · have : sz210 a2 = false := by unfold sz210; rw [decide_eq_false h3]; simp
    exact h _ _ (by simp [f_setSize, h1, this]) σ hc frC.rf
theorem m_setSize (a1 a2 : Int32) (σ : Mem) (t : ST) (K : Int32 → Mem → Prop) (hc : MR σ t) (ho : okT t) (h : ∀ r t', f_setSize a1 a2 t = (r, t') → ∀ σ1, MR σ1 t' → frM σ σ1 → K r σ1) : w_X7_setSize a1 a2 σ K := by
  unfold w_X7_setSize
  refine m_isSm (br_b (fun h1 => ?_) (fun h1 => m_in (br_b (fun h2 => ?_) (fun h2 => ?_))))
  · exact h _ _ (by simp [f_setSize, h1]) σ hc frM.rf
  · exact h _ _ (by simp [f_setSize, h1, show sz210 a2 = false from h2]) σ hc frM.rf
  · have hz : sz210 a2 = true := h2
    obtain ⟨i, hi, e1, e2⟩ := sm4_n h1
    obtain ⟨z, z1, z2, e3, e4⟩ := sz210_n hz
    have key : w_X7_of (nI i) 0 σ (fun r6 σ5 => (br (r6 = nI z) (K (-5) σ5) (w_X7_record σ5 (fun σ7 => (w_X7_puts (nI i) 0 (nI z) σ7 (fun σ8 => (∃ n12, w_X7_setSize_48 (nI i) (nI z) K n12 0 σ8))))))) := by
      refine m_of 0 (by omega) (by omega) ?_
      rw [m_size hc hi]
      refine ⟨fun h4 => ?_, fun h4 => ?_⟩
      · refine h _ _ ?_ σ hc frM.rf
        unfold f_setSize
        rw [if_pos h1, if_pos hz, e2, if_pos (by rw [h4, e3])]
      · refine m_recordT hc ho (fun σ1 c1 g1 => ?_)
        have q1 : aM (σ1 307) = tA t := c1.1.2
        refine m_resize hi (by omega) c1.1.1 (by rw [q1]; exact ho.1) (fun σ2 h5 => ?_)
        rw [q1] at h5 ⊢
        refine h _ _ ?_ σ2 (MR_st c1 h5) (g1.tr (M2_frM h5))
        unfold f_setSize
        rw [if_pos h1, if_pos hz, e2, if_neg (by rw [e3]; exact h4), e4, ← e3]
    rw [e1, e3]
    exact key
theorem ok_setSize (a1 a2 : Int32) (t : ST) (ho : okT t) : okT (f_setSize a1 a2 t).2 := by
  unfold f_setSize
  split
  · rename_i h1
    split
    · rename_i h2
      split
      · exact ho
      · obtain ⟨i, hi, e1, e2⟩ := sm4_n h1
        obtain ⟨z, z1, z2, e3, e4⟩ := sz210_n h2
        rw [e2, e4, e3]
        exact ok_set (ok_ps ho) (ok_rs ho.1 hi z1 z2)
    · exact ho
  · exact ho
theorem x_setSize (a1 a2 : Int32) {σ : Mem} (hi : Inv σ) : w_X6_setSize a1 a2 σ (fun r σ1 => w_X7_setSize a1 a2 σ1 (fun r2 σ2 => r = r2 ∧ Inv σ2)) :=
  glue (f := f_setSize a1 a2) (C := w_X6_setSize a1 a2) (M := w_X7_setSize a1 a2) (c_setSize a1 a2) (m_setSize a1 a2) (ok_setSize a1 a2) hi
/-! clear -/
def f_clear (a1 : Int32) (t : ST) : Int32 × ST :=
  if sm4 a1 = true then
    if sS (aSm (tA t) (ix a1)) = 0 then (-5, t)
    else (sS (aSm (tA t) (ix a1)), setA (psA t) (stA (tA t) (ix a1) (emp (aSm (tA t) (ix a1)))))
  else (-1, t)
theorem c_clear (a1 : Int32) (σ : Mem) (t : ST) (K : Int32 → Mem → Prop) (hc : CR σ t) (ho : okT t) (h : ∀ r t', f_clear a1 t = (r, t') → ∀ σ1, CR σ1 t' → frC σ σ1 → K r σ1) : w_X6_clear a1 σ K := by
  unfold w_X6_clear
  refine c_isSm (br_b (fun h1 => ?_) (fun h1 => ?_))
  · exact h _ _ (by simp [f_clear, h1]) σ hc frC.rf
  · obtain ⟨i, hi, e1, e2⟩ := sm4_n h1
    have v1 : vp_in a1 4 := by rw [e1]; exact vi hi
    rw [e2, c_sum hc hi]
    refine ⟨v1, ?_⟩
    rintro v4 rfl
    refine ⟨fun h4 => ?_, fun h4 => ?_⟩
    · refine h _ _ ?_ σ hc frC.rf
      unfold f_clear
      rw [if_pos h1, e2, if_pos h4]
    · refine c_remember hc ho (fun σ1 c1 g1 => ⟨v1, s_wipe (fun σ2 hp => ?_)⟩)
      have q1 : aC σ1 0 = tA t := c1.1.2
      have v2 : vC σ1 (2 + 5 * i) = aSm (tA t) i := by rw [← q1, aSm_at hi, Nat.zero_add]
      rw [v2] at hp
      have h5 : S1 0 (stA (aC σ1 0) i (emp (aSm (tA t) i))) σ1 σ2 := s_st (b := 0) hi c1.1.1 (by rw [Nat.zero_add]; exact hp)
      rw [q1] at h5
      refine h _ _ ?_ σ2 (CR_st c1 h5) (g1.tr (S1_frC h5))
      unfold f_clear
      rw [if_pos h1, e2, if_neg h4]
theorem m_clear (a1 : Int32) (σ : Mem) (t : ST) (K : Int32 → Mem → Prop) (hc : MR σ t) (ho : okT t) (h : ∀ r t', f_clear a1 t = (r, t') → ∀ σ1, MR σ1 t' → frM σ σ1 → K r σ1) : w_X7_clear a1 σ K := by
  unfold w_X7_clear
  refine m_isSm (br_b (fun h1 => ?_) (fun h1 => ?_))
  · exact h _ _ (by simp [f_clear, h1]) σ hc frM.rf
  · obtain ⟨i, hi, e1, e2⟩ := sm4_n h1
    rw [e1]
    refine m_of 2 (by omega) (by omega) ?_
    rw [m_sum hc hi]
    refine ⟨fun h4 => ?_, fun h4 => ?_⟩
    · refine h _ _ ?_ σ hc frM.rf
      unfold f_clear
      rw [if_pos h1, e2, if_pos h4]
    · refine m_recordT hc ho (fun σ1 c1 g1 => m_clearS hi c1.1.1 (fun σ2 h5 => ?_))
      have q1 : aM (σ1 307) = tA t := c1.1.2
      rw [q1] at h5
      refine h _ _ ?_ σ2 (MR_st c1 h5) (g1.tr (M2_frM h5))
      unfold f_clear
      rw [if_pos h1, e2, if_neg h4]
theorem ok_clear (a1 : Int32) (t : ST) (ho : okT t) : okT (f_clear a1 t).2 := by
  unfold f_clear
  split
  · rename_i h1
    split
    · exact ho
    · obtain ⟨i, hi, e1, e2⟩ := sm4_n h1
      rw [e2]
      exact ok_set (ok_ps ho) (ok_st ho.1 (ok_emp (ho.1.1 i hi) (by omega)))
  · exact ho
theorem x_clear (a1 : Int32) {σ : Mem} (hi : Inv σ) : w_X6_clear a1 σ (fun r σ1 => w_X7_clear a1 σ1 (fun r2 σ2 => r = r2 ∧ Inv σ2)) :=
  glue (f := f_clear a1) (C := w_X6_clear a1) (M := w_X7_clear a1) (c_clear a1) (m_clear a1) (ok_clear a1) hi
/-! undo -/
def f_undo (t : ST) : Int32 × ST :=
  if tN t = 0 then (-5, t) else (nI (tN t - 1), (tH t 0, tN t - 1, (fun j => tH t (j + 1)), tQ t, tT t, tX t))
theorem c_undo (σ : Mem) (t : ST) (K : Int32 → Mem → Prop) (hc : CR σ t) (ho : okT t) (h : ∀ r t', f_undo t = (r, t') → ∀ σ1, CR σ1 t' → frC σ σ1 → K r σ1) : w_X6_undo σ K := by
  unfold w_X6_undo
  obtain ⟨⟨a1, a2⟩, ⟨b1, b2, b3⟩, c, d1, d2⟩ := id hc
  have hn := ho.2.1.1
  have i2 : ix (σ 300 2) = tN t := nI_ix b2 (by omega)
  refine ⟨fun h1 => ?_, fun h1 => ?_⟩
  · have : tN t = 0 := (nI_eq (by omega) (by omega)).mp (b2.symm.trans h1)
    exact h _ _ (by simp [f_undo, this]) σ hc frC.rf
  · have hne : tN t ≠ 0 := fun q => h1 (by rw [b2, q]; rfl)
    refine s_takeBack b1 (by omega) (fun σ1 f w0 g1 g2 g3 g4 g5 => ?_)
    rw [i2] at g3 g5
    have e : σ1 300 2 = nI (tN t - 1) := by
      rw [g2, b2]
      obtain ⟨m, hm⟩ : ∃ m, tN t = m + 1 := ⟨tN t - 1, by omega⟩
      rw [hm]; exact nI_pred m
    rw [e]
    refine h _ (tH t 0, tN t - 1, (fun j => tH t (j + 1)), tQ t, tT t, tX t) (by simp [f_undo, hne]) σ1 ⟨⟨w0, ?_⟩, ⟨g1, e, fun j hj => ?_⟩, snC_fr (fun q x y => f q (by omega) (by omega)) (f _ (by omega) (by omega)) c, by rw [f _ (by omega) (by omega)]; exact d1, fun x hx => by rw [f _ (by omega) (by omega)]; exact d2 x hx⟩ (fun q hq => f q (by omega) (by omega))
    · rw [g4]; exact b3 0 (by omega)
    · replace hj : j < tN t - 1 := hj
      rw [g5 j hj]; exact b3 (j + 1) (by omega)
theorem m_undoT (σ : Mem) (t : ST) (K : Int32 → Mem → Prop) (hc : MR σ t) (ho : okT t) (h : ∀ r t', f_undo t = (r, t') → ∀ σ1, MR σ1 t' → frM σ σ1 → K r σ1) : w_X7_undo σ K := by
  obtain ⟨⟨a1, a2⟩, ⟨b1, b2⟩, c, d1, d2⟩ := id hc
  have hn := ho.2.1.1
  by_cases h0 : tN t = 0
  · unfold w_X7_undo
    exact ⟨fun _ => h _ _ (by simp [f_undo, h0]) σ hc frM.rf, fun hq => absurd (by rw [b1, h0]; rfl) hq⟩
  · refine m_undo hn (by omega) b1 (fun σ1 e1 e2 e3 e40 => ?_)
    have ehm : ∀ k, hM σ1 k = hM σ k := fun k => by unfold hM; rw [e1 308 (by omega) (by omega)]
    obtain ⟨p1, p2⟩ := b2 0 (by omega)
    refine h _ (tH t 0, tN t - 1, (fun j => tH t (j + 1)), tQ t, tT t, tX t) (by simp [f_undo, h0]) σ1 ⟨⟨WM_fr2 p1 e40, by rw [aM_fr p1 e40]; exact p2⟩, ⟨e3, fun j hj => ?_⟩, snM_fr (e2 _ (by omega)) (e1 _ (by omega) (by omega)) c, by rw [e2 _ (by omega)]; exact d1, fun x hx => by rw [e1 _ (by omega) (by omega)]; exact d2 x hx⟩ (fun q hq => e1 q (by omega) (by omega))
    replace hj : j < tN t - 1 := hj
    show WM (hM σ1 (tN t - 1 - 1 - j)) ∧ aM (hM σ1 (tN t - 1 - 1 - j)) = tH t (j + 1)
    rw [ehm, show tN t - 1 - 1 - j = tN t - 1 - (j + 1) by omega]
    exact b2 (j + 1) (by omega)
theorem ok_undo (t : ST) (ho : okT t) : okT (f_undo t).2 := by
  unfold f_undo
  split
  · exact ho
  · rename_i h0
    obtain ⟨a, ⟨b, c⟩, d, e⟩ := ho
    exact ⟨c 0 (by omega), ⟨by show tN t - 1 ≤ 4; omega, fun j hj => by
      replace hj : j < tN t - 1 := hj
      exact c (j + 1) (by omega)⟩, d, e⟩
theorem x_undo {σ : Mem} (hi : Inv σ) : w_X6_undo σ (fun r σ1 => w_X7_undo σ1 (fun r2 σ2 => r = r2 ∧ Inv σ2)) :=
  glue (f := f_undo) (C := w_X6_undo) (M := w_X7_undo) c_undo m_undoT ok_undo hi
/-! keep, restore -/
def f_keep (t : ST) : Int32 × ST := (aTm (tA t), (tA t, tN t, tH t, some (tA t), tT t, tX t))
theorem c_keep (σ : Mem) (t : ST) (K : Int32 → Mem → Prop) (hc : CR σ t) (ho : okT t) (h : ∀ r t', f_keep t = (r, t') → ∀ σ1, CR σ1 t' → frC σ σ1 → K r σ1) : w_X6_keep σ K := by
  unfold w_X6_keep
  obtain ⟨⟨a1, a2⟩, ⟨b1, b2, b3⟩, c, d1, d2⟩ := id hc
  refine s_sbecome (by omega) a1 (fun σ1 hS => ?_)
  rintro σ2 e2
  have f : ∀ q, q ≠ 299 → (q < 245 ∨ 293 < q) → σ2 q = σ q := fun q x y => by rw [e2, mu_o x, hS.2.2 q (by omega)]
  have fs : ∀ q, q ≠ 299 → σ2 q = σ1 q := fun q x => by rw [e2, mu_o x]
  have ea : aC σ2 0 = tA t := by rw [aC_fr (fun q x y => f q (by omega) (by omega))]; exact a2
  have et : σ2 0 3 = aTm (tA t) := by rw [← ea]; rfl
  rw [et]
  refine h _ _ rfl σ2 ⟨⟨WS_fr (fun q x y => f q (by omega) (by omega)) a1, ea⟩, ⟨hsW_fr (fun q x y => f q (by omega) (by omega)) (f _ (by omega) (by omega)) b1, by rw [f _ (by omega) (by omega)]; exact b2, fun j hj => by rw [hsC_fr (fun q x y => f q (by omega) (by omega)) (f _ (by omega) (by omega)) j]; exact b3 j hj⟩, ⟨?_, WS_fr (fun q x y => fs q (by omega)) hS.2.1, ?_⟩, by rw [f _ (by omega) (by omega)]; exact d1, fun x hx => by rw [f _ (by omega) (by omega)]; exact d2 x hx⟩ (fun q hq => f q (by omega) (by omega))
  · rw [e2, mu_k]; simp [upd]
  · rw [aC_fr (fun q x y => fs q (by omega)), hS.1]; exact a2
theorem m_keepT (σ : Mem) (t : ST) (K : Int32 → Mem → Prop) (hc : MR σ t) (ho : okT t) (h : ∀ r t', f_keep t = (r, t') → ∀ σ1, MR σ1 t' → frM σ σ1 → K r σ1) : w_X7_keep σ K := by
  obtain ⟨⟨a1, a2⟩, ⟨b1, b2⟩, c, d1, d2⟩ := id hc
  refine m_keep (fun σ1 e1 e2 e3 e40 => ?_)
  have et : σ 307 1072 = aTm (tA t) := by rw [← a2]; rfl
  have ehm : ∀ k, hM σ1 k = hM σ k := fun k => by unfold hM; rw [e1 308 (by omega) (by omega)]
  rw [et]
  refine h _ _ rfl σ1 ⟨⟨by rw [e1 _ (by omega) (by omega)]; exact a1, by rw [e1 _ (by omega) (by omega)]; exact a2⟩, ⟨by rw [e2 _ (by omega)]; exact b1, fun j hj => by rw [ehm]; exact b2 j hj⟩, ⟨e3, WM_fr2 a1 e40, by rw [aM_fr a1 e40]; exact a2⟩, by rw [e2 _ (by omega)]; exact d1, fun x hx => by rw [e1 _ (by omega) (by omega)]; exact d2 x hx⟩ (fun q hq => e1 q (by omega) (by omega))
theorem ok_keep (t : ST) (ho : okT t) : okT (f_keep t).2 := ⟨ho.1, ho.2.1, fun B hB => by cases hB; exact ho.1, ho.2.2.2⟩
theorem x_keep {σ : Mem} (hi : Inv σ) : w_X6_keep σ (fun r σ1 => w_X7_keep σ1 (fun r2 σ2 => r = r2 ∧ Inv σ2)) :=
  glue (f := f_keep) (C := w_X6_keep) (M := w_X7_keep) c_keep m_keepT ok_keep hi
def f_restore (t : ST) : Int32 × ST := match tQ t with
  | none => (-5, t)
  | some B => (aTm B, setA (psA t) B)
theorem c_restore (σ : Mem) (t : ST) (K : Int32 → Mem → Prop) (hc : CR σ t) (ho : okT t) (h : ∀ r t', f_restore t = (r, t') → ∀ σ1, CR σ1 t' → frC σ σ1 → K r σ1) : w_X6_restore σ K := by
  unfold w_X6_restore
  have hs := hc.2.2.1
  cases hq : tQ t with
  | none =>
    rw [hq] at hs
    exact ⟨fun _ => h _ _ (by simp [f_restore, hq]) σ hc frC.rf, fun hz => absurd hs hz⟩
  | some B =>
    rw [hq] at hs
    refine ⟨fun hz => absurd (hs.1.symm.trans hz) (by decide), fun _ => c_remember hc ho (fun σ1 c1 g1 => ?_)⟩
    have hs1 : snC σ1 (some B) := by have := c1.2.2.1; rw [show tQ (psA t) = some B from hq] at this; exact this
    refine s_sbecome (by omega) hs1.2.1 (fun σ2 h5 => ?_)
    rw [hs1.2.2] at h5
    have et : σ2 0 3 = aTm B := by rw [← h5.1]; rfl
    rw [et]
    exact h _ _ (by simp [f_restore, hq]) σ2 (CR_st c1 h5) (g1.tr (S1_frC h5))
theorem m_restoreT (σ : Mem) (t : ST) (K : Int32 → Mem → Prop) (hc : MR σ t) (ho : okT t) (h : ∀ r t', f_restore t = (r, t') → ∀ σ1, MR σ1 t' → frM σ σ1 → K r σ1) : w_X7_restore σ K := by
  unfold w_X7_restore
  have hs := hc.2.2.1
  cases hq : tQ t with
  | none =>
    rw [hq] at hs
    exact ⟨fun _ => h _ _ (by simp [f_restore, hq]) σ hc frM.rf, fun hz => absurd hs hz⟩
  | some B =>
    rw [hq] at hs
    refine ⟨fun hz => absurd (hs.1.symm.trans hz) (by decide), fun _ => m_recordT hc ho (fun σ1 c1 g1 => ?_)⟩
    have hs1 : snM σ1 (some B) := by have := c1.2.2.1; rw [show tQ (psA t) = some B from hq] at this; exact this
    refine m_restore16 (fun σ2 e1 e2 => ?_)
    have h5 : M2 B σ1 σ2 := ⟨e1, by rw [aM_fr hs1.2.1 e2]; exact hs1.2.2, WM_fr2 hs1.2.1 e2⟩
    have et : σ1 309 1072 = aTm B := by rw [← hs1.2.2]; rfl
    rw [et]
    exact h _ _ (by simp [f_restore, hq]) σ2 (MR_st c1 h5) (g1.tr (M2_frM h5))
theorem ok_restore (t : ST) (ho : okT t) : okT (f_restore t).2 := by
  unfold f_restore
  cases hq : tQ t with
  | none => exact ho
  | some B => exact ok_set (ok_ps ho) (ho.2.2.1 B hq)
theorem x_restore {σ : Mem} (hi : Inv σ) : w_X6_restore σ (fun r σ1 => w_X7_restore σ1 (fun r2 σ2 => r = r2 ∧ Inv σ2)) :=
  glue (f := f_restore) (C := w_X6_restore) (M := w_X7_restore) c_restore m_restoreT ok_restore hi
/-! type, clearText -/
def f_type (a : Int32) (t : ST) : Int32 × ST := if tT t < 60 then (nI (tT t + 1), (tA t, tN t, tH t, tQ t, tT t + 1, fun x => if x = tT t then a else tX t x)) else (-3, t)
def f_clearText (t : ST) : Int32 × ST := (nI (tT t), (tA t, tN t, tH t, tQ t, 0, tX t))
theorem c_type {a : Int32} (hn : vp_nar .char a = a) (σ : Mem) (t : ST) (K : Int32 → Mem → Prop) (hc : CR σ t) (ho : okT t) (h : ∀ r t', f_type a t = (r, t') → ∀ σ1, CR σ1 t' → frC σ σ1 → K r σ1) : w_X6_type a σ K := by
  obtain ⟨⟨a1, a2⟩, ⟨b1, b2, b3⟩, c, d1, d2⟩ := id hc
  have ht := ho.2.2.2.1
  unfold w_X6_type
  rw [d1]
  refine ⟨fun h1 => ?_, fun h1 => ?_⟩
  · have hlt : tT t < 60 := (nI_ltI (b := 60) (by omega) (by omega)).mp h1
    unfold w_X4_put
    rw [d1]
    refine ⟨fun h2 => absurd h2 (nI_ge (b := 60) hlt (by omega)), fun _ => ⟨vi hlt, ?_⟩⟩
    rw [ixn (show tT t < 2 ^ 31 by omega), hn]
    rintro σ2 e2 σ3 e3
    have f : ∀ q, q ≠ 302 → q ≠ 303 → σ3 q = σ q := fun q x y => by rw [e3, mu_o x, e2, mu_o y]
    have el : σ3 302 1 = nI (tT t + 1) := by rw [e3, mu_k]; simp only [upd, if_true]; rw [e2, mu_o (by omega), d1, nI_1]
    rw [el]
    refine h _ (tA t, tN t, tH t, tQ t, tT t + 1, fun x => if x = tT t then a else tX t x) (by simp [f_type, hlt]) σ3 ⟨⟨WS_fr (fun q x y => f q (by omega) (by omega)) a1, by rw [aC_fr (fun q x y => f q (by omega) (by omega))]; exact a2⟩, ⟨hsW_fr (fun q x y => f q (by omega) (by omega)) (f _ (by omega) (by omega)) b1, by rw [f _ (by omega) (by omega)]; exact b2, fun j hj => by rw [hsC_fr (fun q x y => f q (by omega) (by omega)) (f _ (by omega) (by omega)) j]; exact b3 j hj⟩, snC_fr (fun q x y => f q (by omega) (by omega)) (f _ (by omega) (by omega)) c, el, fun x hx => ?_⟩ (fun q hq => f q (by omega) (by omega))
    replace hx : x < tT t + 1 := hx
    show σ3 303 x = if x = tT t then a else tX t x
    rw [e3, mu_o (by omega), e2, mu_k]
    simp only [upd]
    by_cases hxt : x = tT t
    · rw [if_pos hxt, if_pos hxt]
    · rw [if_neg hxt, if_neg hxt]; exact d2 x (by omega)
  · have hlt : ¬ tT t < 60 := fun q => h1 ((nI_ltI (b := 60) (by omega) (by omega)).mpr q)
    exact h _ _ (by simp [f_type, hlt]) σ hc frC.rf
theorem m_type {a : Int32} (hn : vp_nar .char a = a) (σ : Mem) (t : ST) (K : Int32 → Mem → Prop) (hc : MR σ t) (ho : okT t) (h : ∀ r t', f_type a t = (r, t') → ∀ σ1, MR σ1 t' → frM σ σ1 → K r σ1) : w_X7_type a σ K := by
  obtain ⟨⟨a1, a2⟩, ⟨b1, b2⟩, c, d1, d2⟩ := id hc
  have ht := ho.2.2.2.1
  unfold w_X7_type
  rw [d1]
  refine ⟨fun h1 => ?_, fun h1 => ?_⟩
  · have hlt : tT t = 60 := (nI_eq (b := 60) (by omega) (by omega)).mp h1
    exact h _ _ (by simp [f_type, hlt]) σ hc frM.rf
  · have hlt : tT t < 60 := by
      rcases Nat.lt_or_ge (tT t) 60 with q | q
      · exact q
      · exact absurd (by rw [show tT t = 60 by omega]; rfl) h1
    refine ⟨vi hlt, ?_⟩
    rw [ixn (show tT t < 2 ^ 31 by omega), hn]
    rintro σ2 e2 σ3 e3
    have f : ∀ q, q ≠ 306 → q ≠ 310 → σ3 q = σ q := fun q x y => by rw [e3, mu_o x, e2, mu_o y]
    have g : ∀ x, x ≠ 5 → σ3 306 x = σ 306 x := fun x hx => by rw [e3, mu_k]; simp only [upd, if_neg hx]; rw [e2, mu_o (by omega)]
    have el : σ3 306 5 = nI (tT t + 1) := by rw [e3, mu_k]; simp only [upd, if_true]; rw [e2, mu_o (by omega), d1, nI_1]
    have ehm : ∀ k, hM σ3 k = hM σ k := fun k => by unfold hM; rw [f 308 (by omega) (by omega)]
    rw [el]
    refine h _ (tA t, tN t, tH t, tQ t, tT t + 1, fun x => if x = tT t then a else tX t x) (by simp [f_type, hlt]) σ3 ⟨⟨by rw [f _ (by omega) (by omega)]; exact a1, by rw [f _ (by omega) (by omega)]; exact a2⟩, ⟨by rw [g _ (by omega)]; exact b1, fun j hj => by rw [ehm]; exact b2 j hj⟩, snM_fr (g _ (by omega)) (f _ (by omega) (by omega)) c, el, fun x hx => ?_⟩ (fun q hq => f q (by omega) (by omega))
    replace hx : x < tT t + 1 := hx
    show σ3 310 x = if x = tT t then a else tX t x
    rw [e3, mu_o (by omega), e2, mu_k]
    simp only [upd]
    by_cases hxt : x = tT t
    · rw [if_pos hxt, if_pos hxt]
    · rw [if_neg hxt, if_neg hxt]; exact d2 x (by omega)
theorem ok_type {a : Int32} (ha : isCh a) (t : ST) (ho : okT t) : okT (f_type a t).2 := by
  unfold f_type
  split
  · rename_i h0
    refine ⟨ho.1, ho.2.1, ho.2.2.1, by show tT t + 1 ≤ 60; omega, fun x hx => ?_⟩
    replace hx : x < tT t + 1 := hx
    show isCh (if x = tT t then a else tX t x)
    by_cases hxt : x = tT t
    · rw [if_pos hxt]; exact ha
    · rw [if_neg hxt]; exact ho.2.2.2.2 x (by omega)
  · exact ho
theorem x_type {a : Int32} (hn : vp_nar .char a = a) (ha : isCh a) {σ : Mem} (hi : Inv σ) : w_X6_type a σ (fun r σ1 => w_X7_type a σ1 (fun r2 σ2 => r = r2 ∧ Inv σ2)) :=
  glue (f := f_type a) (C := w_X6_type a) (M := w_X7_type a) (c_type hn) (m_type hn) (ok_type ha) hi
theorem c_clearText (σ : Mem) (t : ST) (K : Int32 → Mem → Prop) (hc : CR σ t) (ho : okT t) (h : ∀ r t', f_clearText t = (r, t') → ∀ σ1, CR σ1 t' → frC σ σ1 → K r σ1) : w_X6_clearText σ K := by
  obtain ⟨⟨a1, a2⟩, ⟨b1, b2, b3⟩, c, d1, d2⟩ := id hc
  unfold w_X6_clearText
  rw [d1]
  rintro v1 rfl σ3 e3
  have f : ∀ q, q ≠ 302 → σ3 q = σ q := fun q x => by rw [e3, mu_o x]
  refine h _ _ rfl σ3 ⟨⟨WS_fr (fun q x y => f q (by omega)) a1, by rw [aC_fr (fun q x y => f q (by omega))]; exact a2⟩, ⟨hsW_fr (fun q x y => f q (by omega)) (f _ (by omega)) b1, by rw [f _ (by omega)]; exact b2, fun j hj => by rw [hsC_fr (fun q x y => f q (by omega)) (f _ (by omega)) j]; exact b3 j hj⟩, snC_fr (fun q x y => f q (by omega)) (f _ (by omega)) c, ?_, fun x hx => absurd hx (Nat.not_lt_zero x)⟩ (fun q hq => f q (by omega))
  show σ3 302 1 = nI 0
  rw [e3, mu_k]; simp [upd]; rfl
theorem m_clearText (σ : Mem) (t : ST) (K : Int32 → Mem → Prop) (hc : MR σ t) (ho : okT t) (h : ∀ r t', f_clearText t = (r, t') → ∀ σ1, MR σ1 t' → frM σ σ1 → K r σ1) : w_X7_clearText σ K := by
  obtain ⟨⟨a1, a2⟩, ⟨b1, b2⟩, c, d1, d2⟩ := id hc
  unfold w_X7_clearText
  rw [d1]
  rintro v1 rfl σ3 e3
  have f : ∀ q, q ≠ 306 → σ3 q = σ q := fun q x => by rw [e3, mu_o x]
  have g : ∀ x, x ≠ 5 → σ3 306 x = σ 306 x := fun x hx => by rw [e3, mu_k]; simp only [upd, if_neg hx]
  have ehm : ∀ k, hM σ3 k = hM σ k := fun k => by unfold hM; rw [f 308 (by omega)]
  refine h _ _ rfl σ3 ⟨⟨by rw [f _ (by omega)]; exact a1, by rw [f _ (by omega)]; exact a2⟩, ⟨by rw [g _ (by omega)]; exact b1, fun j hj => by rw [ehm]; exact b2 j hj⟩, snM_fr (g _ (by omega)) (f _ (by omega)) c, ?_, fun x hx => absurd hx (Nat.not_lt_zero x)⟩ (fun q hq => f q (by omega))
  show σ3 306 5 = nI 0
  rw [e3, mu_k]; simp [upd]; rfl
theorem ok_clearText (t : ST) (ho : okT t) : okT (f_clearText t).2 := ⟨ho.1, ho.2.1, ho.2.2.1, Nat.zero_le _, fun x hx => absurd hx (Nat.not_lt_zero x)⟩
theorem x_clearText {σ : Mem} (hi : Inv σ) : w_X6_clearText σ (fun r σ1 => w_X7_clearText σ1 (fun r2 σ2 => r = r2 ∧ Inv σ2)) :=
  glue (f := f_clearText) (C := w_X6_clearText) (M := w_X7_clearText) c_clearText m_clearText ok_clearText hi
