/-! bound -/
def bouV (s : Sm) (l : Nat) (a3 : Int32) : Int32 := if a3 = 0 then uP s l else if a3 = 1 then lO s l else if a3 = 2 then sM s l else if a3 = 3 then (if isS s l then sL s l else -5) else if a3 = 4 then (match sC s l with | some q => q.2.2 | none => -5) else -2
def f_bound (a1 a2 a3 : Int32) (t : ST) : Int32 × ST := if tl5 a1 = true ∧ lt26 a2 = true then (bouV (tol (tA t) (ix a1)) (ix (a2 - 97)) a3, t) else (-1, t)
theorem c_bound (a1 a2 a3 : Int32) (σ : Mem) (t : ST) (K : Int32 → Mem → Prop) (hc : CR σ t) (ho : okT t) (h : ∀ r t', f_bound a1 a2 a3 t = (r, t') → ∀ σ1, CR σ1 t' → frC σ σ1 → K r σ1) : w_X6_bound a1 a2 a3 σ K := by
  unfold w_X6_bound
  refine c_told hc ho (fun h1 => ⟨fun _ => c_lIx (h _ _ (by simp [f_bound, h1]) σ hc frC.rf), fun r hr => by cases hr⟩) (fun i σ1 hi e1 h1 hv hb hc1 fr _ => ⟨fun q => (by cases q), fun r hr => ?_⟩)
  cases hr
  refine c_lIx (br_lx (fun h2 => h _ _ (by simp [f_bound, h2]) σ1 hc1 (fun q hq => fr q (by omega))) (fun h2 => ?_))
  obtain ⟨l, hl, e3, -, e4⟩ := lt26_n h2
  rw [lx_t h2, e3, ixn (show l < 2 ^ 31 by omega)]
  have fin : ∀ r : Int32, r = bouV (vC σ1 (kC i)) l a3 → K r σ1 := fun r hr => by
    refine h r t ?_ σ1 hc1 (fun q hq => fr q (by omega))
    unfold f_bound
    rw [if_pos ⟨h1, h2⟩, hr, hv, e1, ixn (show i < 2 ^ 31 by omega), e4]
  unfold bouV at fin
  refine br_i (fun c0 => s_upper hl ?_) (fun c0 => br_i (fun c1 => s_lower hl ?_) (fun c1 => br_i (fun c2 => ⟨vi hl, ?_⟩) (fun c2 => br_i (fun c3 => s_has hl (br_b (fun hs => ?_) (fun hs => ⟨vi hl, ?_⟩))) (fun c3 => br_i (fun c4 => s_has hl (br_b (fun hs => ?_) (fun hs => ⟨vi hl, ?_⟩))) (fun c4 => ?_)))))
  · exact fin _ (by rw [if_pos c0])
  · exact fin _ (by rw [if_neg c0, if_pos c1])
  · exact fin _ (by
      rw [if_neg c0, if_neg c1, if_pos c2]
      show _ = (if l < 26 then _ else _)
      rw [if_pos hl])
  · exact fin _ (by rw [if_neg c0, if_neg c1, if_neg c2, if_pos c3, hs]; rfl)
  · obtain ⟨q, hq⟩ := isS_some hs
    exact fin _ (by
      rw [if_neg c0, if_neg c1, if_neg c2, if_pos c3, hs, sL, hq]
      obtain ⟨-, -, rfl⟩ := cC_some hq
      rfl)
  · exact fin _ (by rw [if_neg c0, if_neg c1, if_neg c2, if_neg c3, if_pos c4, isS_none hs])
  · obtain ⟨q, hq⟩ := isS_some hs
    exact fin _ (by
      rw [if_neg c0, if_neg c1, if_neg c2, if_neg c3, if_pos c4, hq]
      obtain ⟨-, -, rfl⟩ := cC_some hq
      rfl)
  · exact fin _ (by rw [if_neg c0, if_neg c1, if_neg c2, if_neg c3, if_neg c4])
theorem m_bound (a1 a2 a3 : Int32) (σ : Mem) (t : ST) (K : Int32 → Mem → Prop) (hc : MR σ t) (ho : okT t) (h : ∀ r t', f_bound a1 a2 a3 t = (r, t') → ∀ σ1, MR σ1 t' → frM σ σ1 → K r σ1) : w_X7_bound a1 a2 a3 σ K := by
  unfold w_X7_bound
  refine m_looks hc ho (fun h1 => ⟨fun _ => h _ _ (by simp [f_bound, h1]) σ hc frM.rf, fun q => absurd rfl q⟩) (fun i σ1 hi e1 h1 hv hb hc1 fr _ _ => br_i (fun q => absurd q (nI_ne5 sM8_le)) (fun _ => m_isLt (br_b (fun h2 => h _ _ (by simp [f_bound, h2]) σ1 hc1 (fun q hq => fr q (by omega))) (fun h2 => ?_))))
  obtain ⟨l, hl, e3, -, e4⟩ := lt26_n h2
  rintro v5 rfl
  rw [e3]
  have fin : ∀ r : Int32, r = bouV (vM (σ1 307) (bs (sM8 i))) l a3 → K r σ1 := fun r hr => by
    refine h r t ?_ σ1 hc1 (fun q hq => fr q (by omega))
    unfold f_bound
    rw [if_pos ⟨h1, h2⟩, hr, hv, e1, ixn (show i < 2 ^ 31 by omega), e4]
  unfold bouV at fin
  refine br_i (fun c0 => m_upper sM8_le hl ?_) (fun c0 => br_i (fun c1 => m_lower sM8_le hl ?_) (fun c1 => br_i (fun c2 => m_its 4 sM8_le hl (by omega) ?_) (fun c2 => br_i (fun c3 => m_has sM8_le hl (br_b (fun hs => ?_) (fun hs => m_its 2 sM8_le hl (by omega) ?_))) (fun c3 => br_i (fun c4 => m_has sM8_le hl (br_b (fun hs => ?_) (fun hs => m_its 3 sM8_le hl (by omega) ?_))) (fun c4 => ?_)))))
  · exact fin _ (by rw [if_pos c0])
  · exact fin _ (by rw [if_neg c0, if_pos c1])
  · exact fin _ (by
      rw [if_neg c0, if_neg c1, if_pos c2]
      show _ = (if l < 26 then _ else _)
      rw [if_pos hl])
  · exact fin _ (by rw [if_neg c0, if_neg c1, if_neg c2, if_pos c3, hs]; rfl)
  · obtain ⟨q, hq⟩ := isS_some hs
    exact fin _ (by
      rw [if_neg c0, if_neg c1, if_neg c2, if_pos c3, hs, sL, hq]
      obtain ⟨-, -, rfl⟩ := cM_some hq
      rfl)
  · exact fin _ (by rw [if_neg c0, if_neg c1, if_neg c2, if_neg c3, if_pos c4, isS_none hs])
  · obtain ⟨q, hq⟩ := isS_some hs
    exact fin _ (by
      rw [if_neg c0, if_neg c1, if_neg c2, if_neg c3, if_pos c4, hq]
      obtain ⟨-, -, rfl⟩ := cM_some hq
      rfl)
  · exact fin _ (by rw [if_neg c0, if_neg c1, if_neg c2, if_neg c3, if_neg c4])
theorem x_bound (a1 a2 a3 : Int32) {σ : Mem} (hi : Inv σ) : w_X6_bound a1 a2 a3 σ (fun r σ1 => w_X7_bound a1 a2 a3 σ1 (fun r2 σ2 => r = r2 ∧ Inv σ2)) :=
  glue (f := f_bound a1 a2 a3) (C := w_X6_bound a1 a2 a3) (M := w_X7_bound a1 a2 a3) (c_bound a1 a2 a3) (m_bound a1 a2 a3) (fun t ho => by unfold f_bound; split <;> exact ho) hi
/-! ranks -/
def bC (a : Int32) : Bool := !decide (a = 0)
theorem bC_0 {a : Int32} : a = 0 ↔ bC a = false := by unfold bC; simp
theorem add_0 (x : Int32) : x + 0 = x := by simp
theorem m_ahead_loop {s l : Nat} (hs : s ≤ 8) (hl : l < 26) {a3 : Int32} {σ : Mem} {K : Int32 → Mem → Prop} (h : K (nI (ahd (vM (σ 307) (bs s)) l (bC a3) 26)) σ) : ∀ d i, i + d = 26 → w_X7_ahead_6 (nI s) (nI l) a3 K (d + 1) (nI (ahd (vM (σ 307) (bs s)) l (bC a3) i)) (nI i) σ := by
  intro d
  induction d with
  | zero =>
    intro i hi
    rw [w_X7_ahead_6]
    obtain rfl : i = 26 := by omega
    exact ⟨fun _ => h, fun hc => absurd (nI_le (a := 26) (Nat.le_refl _) (by omega)) hc⟩
  | succ d ih =>
    intro i hi
    have hi2 : i < 26 := by omega
    have hn := ih (i + 1) (by omega)
    have key : ∀ s0 : Int32, (i ≠ l → s0 = 0 → aP (vM (σ 307) (bs s)) l (bC a3) i = false) → (i ≠ l → ¬ s0 = 0 → aP (vM (σ 307) (bs s)) l (bC a3) i = true) → w_X7_ahead_62 (nI s) (nI l) a3 K (w_X7_ahead_6 (nI s) (nI l) a3 K (d + 1)) (nI (ahd (vM (σ 307) (bs s)) l (bC a3) i)) (nI i) s0 σ := by
      intro s0 k0 k1
      unfold w_X7_ahead_62
      rw [nI_1, nI_1]
      refine ⟨fun he => ?_, fun he => ⟨fun hz => ?_, fun hz => ?_⟩⟩
      · have : i = l := (nI_eq (by omega) (by omega)).mp he
        rintro v rfl
        rw [add_0]
        rw [ahd, fb_f (by unfold aP; simp [this])] at hn; exact hn
      · have hne : i ≠ l := fun q => he (by rw [q])
        rintro v rfl
        rw [add_0]
        rw [ahd, fb_f (k0 hne hz)] at hn; exact hn
      · have hne : i ≠ l := fun q => he (by rw [q])
        rintro v rfl
        rw [ahd, fb_t (k1 hne hz)] at hn; exact hn
    rw [w_X7_ahead_6]
    refine ⟨fun hc => absurd hc (ge26 hi2), fun _ => ⟨fun hz => m_lower hs hi2 (m_upper hs hl ⟨fun hq => key 0 (fun hne _ => ?_) (fun _ q => absurd rfl q), fun hq => key 1 (fun _ q => absurd q (by decide)) (fun hne _ => ?_)⟩), fun hz => m_upper hs hi2 (m_lower hs hl ⟨fun hq => key 0 (fun hne _ => ?_) (fun _ q => absurd rfl q), fun hq => key 1 (fun _ q => absurd q (by decide)) (fun hne _ => ?_)⟩)⟩⟩
    · unfold aP; rw [bC_0.mp hz]; simp [hne]; exact hq
    · unfold aP; rw [bC_0.mp hz]; simp [hne]; exact Int32.not_le.mp hq
    · have : bC a3 = true := by
        cases hb : bC a3
        · exact absurd (bC_0.mpr hb) hz
        · rfl
      unfold aP; rw [this]; simp [hne]; exact hq
    · have : bC a3 = true := by
        cases hb : bC a3
        · exact absurd (bC_0.mpr hb) hz
        · rfl
      unfold aP; rw [this]; simp [hne]; exact Int32.not_le.mp hq
theorem m_ahead {s l : Nat} (hs : s ≤ 8) (hl : l < 26) {a3 : Int32} {σ : Mem} {K : Int32 → Mem → Prop} (h : K (nI (ahd (vM (σ 307) (bs s)) l (bC a3) 26)) σ) : w_X7_ahead (nI s) (nI l) a3 σ K := ⟨27, m_ahead_loop hs hl h 26 0 rfl⟩
def f_rank (a1 a2 a3 : Int32) (t : ST) : Int32 × ST := if tl5 a1 = true ∧ lt26 a2 = true then (1 + nI (ahd (tol (tA t) (ix a1)) (ix (a2 - 97)) (bC a3) 26), t) else (-1, t)
theorem c_rank (a1 a2 a3 : Int32) (σ : Mem) (t : ST) (K : Int32 → Mem → Prop) (hc : CR σ t) (ho : okT t) (h : ∀ r t', f_rank a1 a2 a3 t = (r, t') → ∀ σ1, CR σ1 t' → frC σ σ1 → K r σ1) : w_X6_rank a1 a2 a3 σ K := by
  unfold w_X6_rank
  refine c_told hc ho (fun h1 => ⟨fun _ => c_lIx (h _ _ (by simp [f_rank, h1]) σ hc frC.rf), fun r hr => by cases hr⟩) (fun i σ1 hi e1 h1 hv hb hc1 fr _ => ⟨fun q => (by cases q), fun r hr => ?_⟩)
  cases hr
  refine c_lIx (br_lx (fun h2 => h _ _ (by simp [f_rank, h2]) σ1 hc1 (fun q hq => fr q (by omega))) (fun h2 => ?_))
  obtain ⟨l, hl, e3, -, e4⟩ := lt26_n h2
  rw [lx_t h2, e3]
  refine s_ahead hl bC_0 ?_
  refine h _ t ?_ σ1 hc1 (fun q hq => fr q (by omega))
  unfold f_rank
  rw [if_pos ⟨h1, h2⟩, hv, e1, ixn (show i < 2 ^ 31 by omega), e4]
theorem m_rank (a1 a2 a3 : Int32) (σ : Mem) (t : ST) (K : Int32 → Mem → Prop) (hc : MR σ t) (ho : okT t) (h : ∀ r t', f_rank a1 a2 a3 t = (r, t') → ∀ σ1, MR σ1 t' → frM σ σ1 → K r σ1) : w_X7_rank a1 a2 a3 σ K := by
  unfold w_X7_rank
  refine m_looks hc ho (fun h1 => ⟨fun _ => h _ _ (by simp [f_rank, h1]) σ hc frM.rf, fun q => absurd rfl q⟩) (fun i σ1 hi e1 h1 hv hb hc1 fr _ _ => br_i (fun q => absurd q (nI_ne5 sM8_le)) (fun _ => m_isLt (br_b (fun h2 => h _ _ (by simp [f_rank, h2]) σ1 hc1 (fun q hq => fr q (by omega))) (fun h2 => ?_))))
  obtain ⟨l, hl, e3, -, e4⟩ := lt26_n h2
  rw [e3]
  refine m_ahead sM8_le hl ?_
  refine h _ t ?_ σ1 hc1 (fun q hq => fr q (by omega))
  unfold f_rank
  rw [if_pos ⟨h1, h2⟩, hv, e1, ixn (show i < 2 ^ 31 by omega), e4]
theorem x_rank (a1 a2 a3 : Int32) {σ : Mem} (hi : Inv σ) : w_X6_rank a1 a2 a3 σ (fun r σ1 => w_X7_rank a1 a2 a3 σ1 (fun r2 σ2 => r = r2 ∧ Inv σ2)) :=
  glue (f := f_rank a1 a2 a3) (C := w_X6_rank a1 a2 a3) (M := w_X7_rank a1 a2 a3) (c_rank a1 a2 a3) (m_rank a1 a2 a3) (fun t ho => by unfold f_rank; split <;> exact ho) hi
/-! first -/
def fP (s : Sm) (a2 : Int32) (c : Bool) (i : Nat) : Bool := !decide (a2 ≤ nI (ahd s i c 26))
def mny (a : Int32) : Bool := decide (1 ≤ a) && decide (a ≤ 25)
def f_first (a1 a2 a3 : Int32) (t : ST) : Int32 × ST := if tl5 a1 = true then (if mny a2 = true then (bitsF (fP (tol (tA t) (ix a1)) a2 (bC a3)) 26, t) else (-2, t)) else (-1, t)
theorem c_first_loop {k : Nat} {a1 a2 a3 : Int32} {σ : Mem} {K : Int32 → Mem → Prop} (h : K (bitsF (fP (vC σ k) a2 (bC a3)) 26) σ) : ∀ d i, i + d = 26 → w_X6_first_34 a1 a2 a3 K (d + 1) k (bitsF (fP (vC σ k) a2 (bC a3)) i) (nI i) σ := by
  intro d
  induction d with
  | zero =>
    intro i hi
    rw [w_X6_first_34]
    obtain rfl : i = 26 := by omega
    exact ⟨fun _ => h, fun hc => absurd (nI_le (a := 26) (Nat.le_refl _) (by omega)) hc⟩
  | succ d ih =>
    intro i hi
    have hi2 : i < 26 := by omega
    have hn := ih (i + 1) (by omega)
    rw [bitsF] at hn
    unfold fP at hn
    rw [w_X6_first_34, nI_1]
    refine ⟨fun hc => absurd hc (ge26 hi2), fun _ => s_ahead hi2 bC_0 ⟨fun hc => ?_, fun hc => ?_⟩⟩
    · rw [if_neg (by simp [hc])] at hn; exact hn
    · rintro v rfl
      rw [if_pos (by simp [hc])] at hn; exact hn
theorem c_first (a1 a2 a3 : Int32) (σ : Mem) (t : ST) (K : Int32 → Mem → Prop) (hc : CR σ t) (ho : okT t) (h : ∀ r t', f_first a1 a2 a3 t = (r, t') → ∀ σ1, CR σ1 t' → frC σ σ1 → K r σ1) : w_X6_first a1 a2 a3 σ K := by
  unfold w_X6_first
  refine c_told hc ho (fun h1 => ⟨fun _ => h _ _ (by simp [f_first, h1]) σ hc frC.rf, fun r hr => by cases hr⟩) (fun i σ1 hi e1 h1 hv hb hc1 fr _ => ⟨fun q => (by cases q), fun r hr => ?_⟩)
  cases hr
  refine br_i (fun h2 => ?_) (fun h2 => br_i (fun h3 => ⟨27, c_first_loop ?_ 26 0 rfl⟩) (fun h3 => ?_))
  · have : mny a2 = false := by unfold mny; rw [decide_eq_false (show ¬ 1 ≤ a2 from Int32.not_le.mpr h2)]; rfl
    exact h _ t (by simp [f_first, h1, this]) σ1 hc1 (fun q hq => fr q (by omega))
  · have : mny a2 = true := by unfold mny; rw [decide_eq_true (show 1 ≤ a2 from Int32.not_lt.mp h2), decide_eq_true h3]; rfl
    refine h _ t ?_ σ1 hc1 (fun q hq => fr q (by omega))
    unfold f_first
    rw [if_pos h1, if_pos this, hv, e1, ixn (show i < 2 ^ 31 by omega)]
  · have : mny a2 = false := by unfold mny; rw [decide_eq_false h3]; simp
    exact h _ t (by simp [f_first, h1, this]) σ1 hc1 (fun q hq => fr q (by omega))
theorem m_first_loop {s : Nat} (hs : s ≤ 8) {a1 a2 a3 : Int32} {σ : Mem} {K : Int32 → Mem → Prop} (h : K (bitsF (fP (vM (σ 307) (bs s)) a2 (bC a3)) 26) σ) : ∀ d i, i + d = 26 → w_X7_first_35 a1 a2 a3 K (d + 1) (nI s) (bitsF (fP (vM (σ 307) (bs s)) a2 (bC a3)) i) (nI i) σ := by
  intro d
  induction d with
  | zero =>
    intro i hi
    rw [w_X7_first_35]
    obtain rfl : i = 26 := by omega
    exact ⟨fun _ => h, fun hc => absurd (nI_le (a := 26) (Nat.le_refl _) (by omega)) hc⟩
  | succ d ih =>
    intro i hi
    have hi2 : i < 26 := by omega
    have hn := ih (i + 1) (by omega)
    rw [bitsF] at hn
    unfold fP at hn
    rw [w_X7_first_35, nI_1]
    refine ⟨fun hc => absurd hc (ge26 hi2), fun _ => m_ahead hs hi2 ⟨fun hc => ?_, fun hc => ?_⟩⟩
    · rintro v rfl
      rw [or_0]
      rw [if_neg (by simp [hc])] at hn; exact hn
    · rintro v rfl
      rw [if_pos (by simp [hc])] at hn; exact hn
theorem m_first (a1 a2 a3 : Int32) (σ : Mem) (t : ST) (K : Int32 → Mem → Prop) (hc : MR σ t) (ho : okT t) (h : ∀ r t', f_first a1 a2 a3 t = (r, t') → ∀ σ1, MR σ1 t' → frM σ σ1 → K r σ1) : w_X7_first a1 a2 a3 σ K := by
  unfold w_X7_first
  refine m_looks hc ho (fun h1 => ⟨fun _ => h _ _ (by simp [f_first, h1]) σ hc frM.rf, fun q => absurd rfl q⟩) (fun i σ1 hi e1 h1 hv hb hc1 fr _ _ => br_i (fun q => absurd q (nI_ne5 sM8_le)) (fun _ => m_in (br_b (fun h2 => ?_) (fun h2 => ⟨27, m_first_loop sM8_le ?_ 26 0 rfl⟩))))
  · exact h _ t (by simp [f_first, h1, show mny a2 = false from h2]) σ1 hc1 (fun q hq => fr q (by omega))
  · refine h _ t ?_ σ1 hc1 (fun q hq => fr q (by omega))
    unfold f_first
    rw [if_pos h1, if_pos (show mny a2 = true from h2), hv, e1, ixn (show i < 2 ^ 31 by omega)]
theorem x_first (a1 a2 a3 : Int32) {σ : Mem} (hi : Inv σ) : w_X6_first a1 a2 a3 σ (fun r σ1 => w_X7_first a1 a2 a3 σ1 (fun r2 σ2 => r = r2 ∧ Inv σ2)) :=
  glue (f := f_first a1 a2 a3) (C := w_X6_first a1 a2 a3) (M := w_X7_first a1 a2 a3) (c_first a1 a2 a3) (m_first a1 a2 a3) (fun t ho => by unfold f_first; split; split <;> exact ho; exact ho) hi
