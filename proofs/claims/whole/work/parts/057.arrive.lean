/-! What an argument means. -/
def sm4 (a : Int32) : Bool := decide (0 ≤ a) && decide (a ≤ 3)
def lt26 (a : Int32) : Bool := decide (97 ≤ a) && decide (a ≤ 122)
def wt99 (a : Int32) : Bool := decide (1 ≤ a) && decide (a ≤ 99)
theorem nI_ofi {x : Int32} {n : Nat} (h : x.toInt = n) (hn : n < 2 ^ 31) : x = nI n := by
  rw [← Int32.toInt_inj, h, nI_toInt hn]
theorem sm4_n {a : Int32} (h : sm4 a = true) : ∃ i : Nat, i < 4 ∧ a = nI i ∧ ix a = i := by
  unfold sm4 at h
  rw [Bool.and_eq_true, decide_eq_true_eq, decide_eq_true_eq, fa_le, fa_le] at h
  have h0 : (0 : Int32).toInt = 0 := by decide
  have h3 : (3 : Int32).toInt = 3 := by decide
  have e : a = nI a.toInt.toNat := nI_ofi (by omega) (by omega)
  exact ⟨a.toInt.toNat, by omega, e, by rw [congrArg ix e]; exact ixn (by omega)⟩
theorem lt26_n {a : Int32} (h : lt26 a = true) : ∃ l : Nat, l < 26 ∧ a - 97 = nI l ∧ a.toInt = 97 + l ∧ ix (a - 97) = l := by
  unfold lt26 at h
  rw [Bool.and_eq_true, decide_eq_true_eq, decide_eq_true_eq, fa_le, fa_le] at h
  have h0 : (97 : Int32).toInt = 97 := by decide
  have h3 : (122 : Int32).toInt = 122 := by decide
  have e1 : (a - 97).toInt = a.toInt - 97 := by
    rw [Int32.toInt_sub, h0]
    apply Int.bmod_eq_of_le <;> omega
  have e : a - 97 = nI (a.toInt - 97).toNat := nI_ofi (by omega) (by omega)
  exact ⟨(a.toInt - 97).toNat, by omega, e, by omega, by rw [congrArg ix e]; exact ixn (by omega)⟩
theorem wt99_n {a : Int32} (h : wt99 a = true) : 1 ≤ a.toInt ∧ a.toInt ≤ 99 := by
  unfold wt99 at h
  rw [Bool.and_eq_true, decide_eq_true_eq, decide_eq_true_eq, fa_le, fa_le] at h
  have h0 : (1 : Int32).toInt = 1 := by decide
  have h3 : (99 : Int32).toInt = 99 := by decide
  omega
theorem c_isSm {a : Int32} {σ : Mem} {K : Int32 → Mem → Prop} (h : K (b2 (sm4 a)) σ) : w_X6_isSummary a σ K := by
  have h0 : (0 : Int32).toInt = 0 := by decide
  have h3 : (3 : Int32).toInt = 3 := by decide
  have h4 : (4 : Int32).toInt = 4 := by decide
  refine ⟨fun h1 => ?_, fun h1 => ⟨fun h2 => ?_, fun h2 => ?_⟩⟩
  · unfold sm4 at h
    rw [decide_eq_false (show ¬ 0 ≤ a from Int32.not_le.mpr h1)] at h; exact h
  · unfold sm4 at h
    rw [decide_eq_true (show 0 ≤ a from Int32.not_lt.mp h1), decide_eq_false (show ¬ a ≤ 3 by rw [fa_le] at h2 ⊢; omega)] at h; exact h
  · unfold sm4 at h
    rw [decide_eq_true (show 0 ≤ a from Int32.not_lt.mp h1), decide_eq_true (show a ≤ 3 by rw [fa_le] at h2 ⊢; omega)] at h; exact h
theorem c_isWt {a : Int32} {σ : Mem} {K : Int32 → Mem → Prop} (h : K (b2 (wt99 a)) σ) : w_X6_isWeight a σ K := by
  refine ⟨fun h1 => ?_, fun h1 => ⟨fun h2 => ?_, fun h2 => ?_⟩⟩
  · unfold wt99 at h
    rw [decide_eq_false (show ¬ 1 ≤ a from Int32.not_le.mpr h1)] at h; exact h
  · unfold wt99 at h
    rw [decide_eq_true (show 1 ≤ a from Int32.not_lt.mp h1), decide_eq_false (show ¬ a ≤ 99 from Int32.not_le.mpr h2)] at h; exact h
  · unfold wt99 at h
    rw [decide_eq_true (show 1 ≤ a from Int32.not_lt.mp h1), decide_eq_true (show a ≤ 99 from Int32.not_lt.mp h2)] at h; exact h
def lx (a : Int32) : Int32 := if lt26 a then a - 97 else -1
theorem c_lIx {a : Int32} {σ : Mem} {K : Int32 → Mem → Prop} (h : K (lx a) σ) : w_X6_letterIndex a σ K := by
  refine ⟨fun h1 => ?_, fun h1 => ⟨fun h2 => ?_, fun h2 => ?_⟩⟩
  · unfold lx lt26 at h
    rw [decide_eq_false (show ¬ 97 ≤ a from Int32.not_le.mpr h1)] at h; exact h
  · unfold lx lt26 at h
    rw [decide_eq_true (show 97 ≤ a from Int32.not_lt.mp h1), decide_eq_false (show ¬ a ≤ 122 from Int32.not_le.mpr h2)] at h; exact h
  · unfold lx lt26 at h
    rw [decide_eq_true (show 97 ≤ a from Int32.not_lt.mp h1), decide_eq_true (show a ≤ 122 from Int32.not_lt.mp h2)] at h; exact h
theorem lx_m1 {a : Int32} : lx a = -1 ↔ lt26 a = false := by
  cases h : lt26 a with
  | false => unfold lx; rw [h]; simp
  | true =>
    obtain ⟨l, h1, h2, -⟩ := lt26_n h
    unfold lx
    rw [h, if_pos rfl, h2]
    exact ⟨fun e => absurd e (enc_some (l := l) (by omega)), fun e => by cases e⟩
theorem lx_t {a : Int32} (h : lt26 a = true) : lx a = a - 97 := by unfold lx; rw [h]; rfl
/-- a branch over the letter -/
theorem br_lx {a : Int32} {A B : Prop} (h1 : lt26 a = false → A) (h2 : lt26 a = true → B) : br (lx a = -1) A B :=
  ⟨fun h => h1 (lx_m1.mp h), fun h => h2 (by
    cases hb : lt26 a
    · exact absurd (lx_m1.mpr hb) h
    · rfl)⟩
theorem nar_b2 {b : Bool} : narrow .boolean (.int (b2 b)) = .int (b2 b) := by cases b <;> rfl
theorem m_isSm {a : Int32} {σ : Mem} {K : Int32 → Mem → Prop} (h : K (b2 (sm4 a)) σ) : w_X7_isSummary a σ K := m_in ⟨nar_b2, h⟩
theorem m_isLt {a : Int32} {σ : Mem} {K : Int32 → Mem → Prop} (h : K (b2 (lt26 a)) σ) : w_X7_isLetter a σ K := by
  refine ⟨fun h1 => ?_, fun h1 => ⟨fun h2 => ?_, fun h2 => ?_⟩⟩
  · unfold lt26 at h
    rw [decide_eq_false (show ¬ 97 ≤ a from Int32.not_le.mpr h1)] at h; exact h
  · unfold lt26 at h
    rw [decide_eq_true (show 97 ≤ a from Int32.not_lt.mp h1), decide_eq_false (show ¬ a ≤ 122 from Int32.not_le.mpr h2)] at h; exact h
  · unfold lt26 at h
    rw [decide_eq_true (show 97 ≤ a from Int32.not_lt.mp h1), decide_eq_true (show a ≤ 122 from Int32.not_lt.mp h2)] at h; exact h
theorem m_isWt {a : Int32} {σ : Mem} {K : Int32 → Mem → Prop} (h : K (b2 (wt99 a)) σ) : w_X7_in a 1 99 σ K := m_in h
theorem br_i {c : Prop} {A B : Prop} (h1 : c → A) (h2 : ¬ c → B) : br c A B := ⟨h1, h2⟩
/-! the two sides side by side -/
def Inv (σ : Mem) : Prop := ∃ t : ST, CR σ t ∧ MR σ t ∧ okT t
theorem glue {f : ST → Int32 × ST} {C M : Mem → (Int32 → Mem → Prop) → Prop}
    (hC : ∀ (σ : Mem) (t : ST) (K : Int32 → Mem → Prop), CR σ t → okT t → (∀ r t', f t = (r, t') → ∀ σ1, CR σ1 t' → frC σ σ1 → K r σ1) → C σ K)
    (hM : ∀ (σ : Mem) (t : ST) (K : Int32 → Mem → Prop), MR σ t → okT t → (∀ r t', f t = (r, t') → ∀ σ1, MR σ1 t' → frM σ σ1 → K r σ1) → M σ K)
    (hok : ∀ t, okT t → okT (f t).2) {σ : Mem} (hi : Inv σ) : C σ (fun r σ1 => M σ1 (fun r2 σ2 => r = r2 ∧ Inv σ2)) := by
  obtain ⟨t, h1, h2, h3⟩ := hi
  refine hC σ t _ h1 h3 (fun r t' e σ1 g1 g2 => hM σ1 t _ (MR_frC g2 h2) h3 (fun r2 t2 e2 σ2 g3 g4 => ?_))
  rw [e] at e2
  cases e2
  refine ⟨rfl, t', CR_frM g4 g1, g3, ?_⟩
  have := hok t h3
  rw [e] at this
  exact this
theorem frC.rf {σ : Mem} : frC σ σ := fun _ _ => rfl
theorem frM.rf {σ : Mem} : frM σ σ := fun _ _ => rfl
/-! arrive -/
def f_arrive (a1 a2 a3 : Int32) (t : ST) : Int32 × ST :=
  if sm4 a1 = true ∧ lt26 a2 = true then
    if wt99 a3 = true then
      if sS (aSm (tA t) (ix a1)) + a3 ≤ 1000000 then (uP (rcv (aSm (tA t) (ix a1)) (ix (a2 - 97)) a3 (aTm (tA t) + 1)) (ix (a2 - 97)), setA (psA t) (brS (tA t) (ix a1) (ix (a2 - 97)) a3))
      else (-3, t)
    else (-2, t)
  else (-1, t)
theorem c_arrive (a1 a2 a3 : Int32) (σ : Mem) (t : ST) (K : Int32 → Mem → Prop) (hc : CR σ t) (ho : okT t) (h : ∀ r t', f_arrive a1 a2 a3 t = (r, t') → ∀ σ1, CR σ1 t' → frC σ σ1 → K r σ1) : w_X6_arrive a1 a2 a3 σ K := by
  unfold w_X6_arrive
  refine c_lIx (c_isSm (br_b (fun h1 => ?_) (fun h1 => br_lx (fun h2 => ?_) (fun h2 => c_isWt (br_b (fun h3 => ?_) (fun h3 => ?_))))))
  · exact h _ _ (by simp [f_arrive, h1]) σ hc frC.rf
  · exact h _ _ (by simp [f_arrive, h2]) σ hc frC.rf
  · exact h _ _ (by simp [f_arrive, h1, h2, h3]) σ hc frC.rf
  · obtain ⟨i, hi, e1, e2⟩ := sm4_n h1
    obtain ⟨l, hl, e3, -, e4⟩ := lt26_n h2
    rw [lx_t h2, e3, e1, ixn (show i < 2 ^ 31 by omega)]
    have es : σ (2 + 5 * i) 2 = sS (aSm (tA t) i) := by rw [← hc.1.2, aSm_at hi, Nat.zero_add]; rfl
    rw [es]
    refine ⟨vi hi, fun h4 => ?_, fun h4 => ?_⟩
    · refine c_remember hc ho (fun σ1 c1 g1 => ?_)
      have w1 := c1.1.1
      have q1 := c1.1.2
      refine s_bringS (b := 0) hi hl w1 (fun σ2 h5 => ?_)
      have c2 := CR_st c1 h5
      have hv : vC σ2 (2 + 5 * i) = rcv (aSm (tA t) i) l a3 (aTm (tA t) + 1) := by
        have := congrFun (congrArg aSm h5.1) i
        rw [aSm_at hi, Nat.zero_add, q1] at this
        rw [this]
        exact if_pos rfl
      refine s_upper hl ?_
      rw [hv]
      rw [q1] at c2
      refine h _ _ ?_ σ2 c2 (g1.tr (S1_frC h5))
      simp [f_arrive, h1, h2, h3, e2, e4, h4] <;> rfl
    · exact h _ _ (by simp [f_arrive, h1, h2, h3, e2, h4]) σ hc frC.rf
theorem m_arrive (a1 a2 a3 : Int32) (σ : Mem) (t : ST) (K : Int32 → Mem → Prop) (hc : MR σ t) (ho : okT t) (h : ∀ r t', f_arrive a1 a2 a3 t = (r, t') → ∀ σ1, MR σ1 t' → frM σ σ1 → K r σ1) : w_X7_arrive a1 a2 a3 σ K := by
  unfold w_X7_arrive
  refine m_isSm (br_b (fun h1 => ?_) (fun h1 => m_isLt (br_b (fun h2 => ?_) (fun h2 => m_isWt (br_b (fun h3 => ?_) (fun h3 => ?_))))))
  · exact h _ _ (by simp [f_arrive, h1]) σ hc frM.rf
  · exact h _ _ (by simp [f_arrive, h2]) σ hc frM.rf
  · exact h _ _ (by simp [f_arrive, h1, h2, h3]) σ hc frM.rf
  · obtain ⟨i, hi, e1, e2⟩ := sm4_n h1
    obtain ⟨l, hl, e3, -, e4⟩ := lt26_n h2
    rw [e3, e1]
    refine m_of 2 (by omega) (by omega) ?_
    have es : σ 307 (bs i + 2) = sS (aSm (tA t) i) := by rw [← hc.1.2, aM_sm hi]; rfl
    rw [es]
    refine ⟨fun h4 => ?_, fun h4 => ?_⟩
    · refine m_recordT hc ho (fun σ1 c1 g1 => ?_)
      have q1 : aM (σ1 307) = tA t := c1.1.2
      refine m_bringS hi hl c1.1.1 (by rw [q1]; exact ho.1) (fun σ2 h5 => m_its 1 (by omega) hl (by omega) ?_)
      have c2 := MR_st c1 h5
      have hv : vM (σ2 307) (bs i) = rcv (aSm (tA t) i) l a3 (aTm (tA t) + 1) := by
        have := congrFun (congrArg aSm h5.2.1) i
        rw [aM_sm hi, q1] at this
        rw [this]
        exact if_pos rfl
      have hu : uP (vM (σ2 307) (bs i)) l = σ2 307 (bs i + 4 + 5 * l + 1) := by
        have hs : isS (vM (σ2 307) (bs i)) l = true := by
          rw [hv]
          unfold rcv
          split
          · exact congrFun isS_put l |>.trans (if_pos rfl)
          · exact congrFun isS_put l |>.trans (if_pos rfl)
        rw [m_upx hl, hs]; rfl
      rw [← hu, hv]
      rw [q1] at c2
      refine h _ _ ?_ σ2 c2 (g1.tr (M2_frM h5))
      simp [f_arrive, h1, h2, h3, e2, e4, h4] <;> rfl
    · exact h _ _ (by simp [f_arrive, h1, h2, h3, e2, h4]) σ hc frM.rf
theorem sum_ok {A : AS} {i : Nat} {w : Int32} (h : okA A) (hi : i < 4) (h1 : 1 ≤ w.toInt) (h2 : w.toInt ≤ 99) (h3 : sS (aSm A i) + w ≤ 1000000) : (sS (aSm A i)).toInt + w.toInt ≤ 1000000 := by
  have hb := (h.1 i hi).1
  have b1 := hb.1
  have b2 := hb.2.1
  have b3 := hb.2.2.1
  have e := add_i (x := sS (aSm A i)) (y := w) rfl rfl (by omega) (by omega)
  rw [fa_le, e] at h3
  exact h3
theorem ok_arrive (a1 a2 a3 : Int32) (t : ST) (ho : okT t) : okT (f_arrive a1 a2 a3 t).2 := by
  unfold f_arrive
  split
  · rename_i h1
    split
    · rename_i h2
      split
      · rename_i h3
        obtain ⟨i, hi, e1, e2⟩ := sm4_n h1.1
        obtain ⟨l, hl, e3, -, e4⟩ := lt26_n h1.2
        obtain ⟨w1, w2⟩ := wt99_n h2
        rw [e2] at h3
        rw [e2, e4]
        exact ok_set (ok_ps ho) (ok_brS ho.1 hi hl (by omega) (sum_ok ho.1 hi w1 w2 h3))
      · exact ho
    · exact ho
  · exact ho
theorem x_arrive (a1 a2 a3 : Int32) {σ : Mem} (hi : Inv σ) : w_X6_arrive a1 a2 a3 σ (fun r σ1 => w_X7_arrive a1 a2 a3 σ1 (fun r2 σ2 => r = r2 ∧ Inv σ2)) :=
  glue (f := f_arrive a1 a2 a3) (C := w_X6_arrive a1 a2 a3) (M := w_X7_arrive a1 a2 a3) (c_arrive a1 a2 a3) (m_arrive a1 a2 a3) (ok_arrive a1 a2 a3) hi
