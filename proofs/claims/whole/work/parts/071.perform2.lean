theorem rW_n : ∀ w, w ≤ 4 → (rW w = -5 ↔ w = 0) ∧ (rW w = 3 ↔ w = 4) ∧ (rW w = 0 ↔ w = 1) ∧ (rW w = 1 ↔ w = 2) ∧ (rW w = 2 ↔ w = 3) := by decide +kernel
theorem m_perf46 {t : ST} {w : Nat} {r1 r2 : Int32} {q : Nat} {σ σ1 : Mem} {K : Int32 → Mem → Prop} (hc : MR σ1 t) (ho : okT t) (hq : q < 2 ^ 31) (hw : w ≤ 4) (hw0 : w ≠ 0) (ht : TM (tT t) (tX t) q σ1) (hf : frM σ σ1) (h9 : w ≠ 4 → σ1 306 9 = r2)
    (h : ∀ r t', f_perform t = (r, t') → ∀ σ1, MR σ1 t' → frM σ σ1 → K r σ1) (hcmd : cmd (tT t) (tX t) = if tT t ≤ q then .inr (w, r1, r2) else .inl q) : w_X7_perform_46 K (rW w) r1 σ1 := by
  unfold w_X7_perform_46
  obtain ⟨e5, e3, e0, e1, e2⟩ := rW_n w hw
  have hn := ho.2.2.2.1
  rw [ht.1, ht.2.2]
  refine br_i (fun hle => ?_) (fun hle => ?_)
  · rw [if_pos ((nI_le_iff (by omega) hq).mp hle)] at hcmd
    have e : ∀ r t', (if w = 1 then f_merge r1 r2 t else if w = 2 then f_copy r1 r2 t else if w = 3 then f_setSize r1 r2 t else f_clear r1 t) = (r, t') → f_perform t = (r, t') := fun r t' q => by
      unfold f_perform; rw [hcmd]; exact q
    refine br_i (fun c => ?_) (fun c => br_i (fun d => ?_) (fun d => br_i (fun f => ?_) (fun f => ?_)))
    · have hw1 := e0.mp c
      rw [h9 (by omega)]
      exact m_merge r1 r2 σ1 t K hc ho (fun r t' q σ2 c2 fr2 => h r t' (e r t' (by rw [if_pos hw1]; exact q)) σ2 c2 (hf.tr fr2))
    · have hw1 : ¬ w = 1 := fun q => c (e0.mpr q)
      have hw2 := e1.mp d
      rw [h9 (by omega)]
      exact m_copy r1 r2 σ1 t K hc ho (fun r t' q σ2 c2 fr2 => h r t' (e r t' (by rw [if_neg hw1, if_pos hw2]; exact q)) σ2 c2 (hf.tr fr2))
    · have hw1 : ¬ w = 1 := fun q => c (e0.mpr q)
      have hw2 : ¬ w = 2 := fun q => d (e1.mpr q)
      have hw3 := e2.mp f
      rw [h9 (by omega)]
      exact m_setSize r1 r2 σ1 t K hc ho (fun r t' q σ2 c2 fr2 => h r t' (e r t' (by rw [if_neg hw1, if_neg hw2, if_pos hw3]; exact q)) σ2 c2 (hf.tr fr2))
    · have hw1 : ¬ w = 1 := fun q => c (e0.mpr q)
      have hw2 : ¬ w = 2 := fun q => d (e1.mpr q)
      have hw3 : ¬ w = 3 := fun q => f (e2.mpr q)
      exact m_clear r1 σ1 t K hc ho (fun r t' q σ2 c2 fr2 => h r t' (e r t' (by rw [if_neg hw1, if_neg hw2, if_neg hw3]; exact q)) σ2 c2 (hf.tr fr2))
  · rw [if_neg (fun z => hle ((nI_le_iff (by omega) hq).mpr z))] at hcmd
    exact h _ t (by unfold f_perform; rw [hcmd]) σ1 hc hf
theorem m_perform (σ : Mem) (t : ST) (K : Int32 → Mem → Prop) (hc : MR σ t) (ho : okT t) (h : ∀ r t', f_perform t = (r, t') → ∀ σ1, MR σ1 t' → frM σ σ1 → K r σ1) : w_X7_perform σ K := by
  unfold w_X7_perform
  have hn := ho.2.2.2.1
  have hq := wq_le (n := tT t) (T := tX t) 60 0 (Nat.zero_le _)
  refine m_word hn hc.2.2.2.1 hc.2.2.2.2 (fun σ1 x1 t1 => ?_)
  have hcm : cmd (tT t) (tX t) = cmd (tT t) (tX t) := rfl
  conv at hcm => rhs; unfold cmd
  generalize wq (tT t) (tX t) 60 0 = e at t1 hq hcm
  have hw4 := wk_le (T := tX t) (e := e)
  obtain ⟨e5, e3, e0, e1, e2⟩ := rW_n _ hw4
  obtain ⟨n1, n2, n3⟩ := arg_n (n := tT t) (T := tX t) (p := e)
  obtain ⟨k1, k2, k3⟩ := arg_n (n := tT t) (T := tX t) (p := (arg (tT t) (tX t) e).2.2)
  refine br_i (fun h0 => ?_) (fun h0 => m_num hn t1 (by omega) (fun hb σ3 x3 t3 => br_i (fun _ => ?_) (fun q => absurd rfl q)) (fun hb σ3 x3 t3 g9 => br_i (fun q => absurd q (by decide)) (fun _ => ?_)))
  · rw [if_pos (e5.mp h0)] at hcm
    refine h _ t ?_ σ1 (MR_XM x1 hc) (XM_frM x1)
    unfold f_perform
    rw [hcm]; rfl
  · rw [if_neg (fun q => h0 (e5.mpr q)), if_neg (by rw [hb]; decide)] at hcm
    rw [t3.2.2]
    refine h _ t ?_ σ3 (MR_XM (x1.tr x3) hc) (XM_frM (x1.tr x3))
    unfold f_perform
    rw [hcm]
  · have hk0 : ¬ wk (tX t) e = 0 := fun q => h0 (e5.mpr q)
    rw [if_neg hk0, if_pos hb] at hcm
    rw [g9]
    rintro v5 rfl
    refine br_i (fun h4 => ?_) (fun h4 => m_num hn t3 (by omega) (fun hb2 σ5 x5 t5 => br_i (fun _ => ?_) (fun q => absurd rfl q)) (fun hb2 σ5 x5 t5 j9 => br_i (fun q => absurd q (by decide)) (fun _ => ?_)))
    · have hw : wk (tX t) e = 4 := e3.mp h4
      rw [if_pos hw] at hcm
      exact m_perf46 (r2 := 0) (MR_XM (x1.tr x3) hc) ho (q := (arg (tT t) (tX t) e).2.2) (by omega) hw4 hk0 t3 (XM_frM (x1.tr x3)) (fun q => absurd hw q) h (by rw [hcm, hw])
    · rw [if_neg (fun q => h4 (e3.mpr q)), if_neg (by rw [hb2]; decide)] at hcm
      rw [t5.2.2]
      refine h _ t ?_ σ5 (MR_XM ((x1.tr x3).tr x5) hc) (XM_frM ((x1.tr x3).tr x5))
      unfold f_perform
      rw [hcm]
    · rw [if_neg (fun q => h4 (e3.mpr q)), if_pos hb2] at hcm
      exact m_perf46 (MR_XM ((x1.tr x3).tr x5) hc) ho (q := (arg (tT t) (tX t) (arg (tT t) (tX t) e).2.2).2.2) (by omega) hw4 hk0 t5 (XM_frM ((x1.tr x3).tr x5)) (fun _ => j9) h hcm
theorem x_perform {σ : Mem} (hi : Inv σ) : w_X6_perform σ (fun r σ1 => w_X7_perform σ1 (fun r2 σ2 => r = r2 ∧ Inv σ2)) :=
  glue (f := f_perform) (C := w_X6_perform) (M := w_X7_perform) c_perform m_perform ok_perform hi
