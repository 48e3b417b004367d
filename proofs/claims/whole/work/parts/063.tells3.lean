/-! top -/
theorem lAt_in {s : Sm} {p : Int32} : ∀ {d i j : Nat}, lAt s p i d = some j → i ≤ j ∧ j < i + d ∧ isS s j = true := by
  intro d
  induction d with
  | zero => intro i j h; cases h
  | succ d ih =>
    intro i j h
    rw [lAt] at h
    cases hq : sC s i with
    | none => rw [hq] at h; obtain ⟨a, b, c⟩ := ih h; exact ⟨by omega, by omega, c⟩
    | some q =>
      rw [hq] at h
      dsimp only at h
      split at h
      · cases h; exact ⟨Nat.le_refl _, by omega, by unfold isS; rw [hq]; rfl⟩
      · obtain ⟨a, b, c⟩ := ih h; exact ⟨by omega, by omega, c⟩
def topR (s : Sm) (a3 : Int32) (o : Option Nat) : Int32 := match o with | none => -5 | some i => if a3 = 0 then 97 + nI i else uP s i
def zo1 (a : Int32) : Bool := decide (0 ≤ a) && decide (a ≤ 1)
def f_top (a1 a2 a3 : Int32) (t : ST) : Int32 × ST := if tl5 a1 = true then (if a2 < 0 then (-2, t) else if zo1 a3 = true then (topR (tol (tA t) (ix a1)) a3 (lAt (tol (tA t) (ix a1)) a2 0 26), t) else (-2, t)) else (-1, t)
theorem c_top (a1 a2 a3 : Int32) (σ : Mem) (t : ST) (K : Int32 → Mem → Prop) (hc : CR σ t) (ho : okT t) (h : ∀ r t', f_top a1 a2 a3 t = (r, t') → ∀ σ1, CR σ1 t' → frC σ σ1 → K r σ1) : w_X6_top a1 a2 a3 σ K := by
  unfold w_X6_top
  refine c_told hc ho (fun h1 => ⟨fun _ => h _ _ (by simp [f_top, h1]) σ hc frC.rf, fun r hr => by cases hr⟩) (fun i σ1 hi e1 h1 hv hb hc1 fr _ => ⟨fun q => (by cases q), fun r hr => ?_⟩)
  cases hr
  have ff : frC σ σ1 := fun q hq => fr q (by omega)
  refine br_i (fun h2 => h _ t (by unfold f_top; rw [if_pos h1, if_pos h2]) σ1 hc1 ff) (fun h2 => br_i (fun h3 => ?_) (fun h3 => br_i (fun h4 => ?_) (fun h4 => ?_)))
  · have : ¬ zo1 a3 = true := by unfold zo1; rw [decide_eq_false (show ¬ 0 ≤ a3 from Int32.not_le.mpr h3)]; simp
    exact h _ t (by unfold f_top; rw [if_pos h1, if_neg h2, if_neg this]) σ1 hc1 ff
  · have hz : zo1 a3 = true := by unfold zo1; rw [decide_eq_true (show 0 ≤ a3 from Int32.not_lt.mp h3), decide_eq_true h4]; rfl
    have fin : ∀ r : Int32, r = topR (vC σ1 (kC i)) a3 (lAt (vC σ1 (kC i)) a2 0 26) → K r σ1 := fun r hr => by
      refine h r t ?_ σ1 hc1 ff
      unfold f_top
      rw [if_pos h1, if_neg h2, if_pos hz, hr, hv, e1, ixn (show i < 2 ^ 31 by omega)]
    refine s_letterAt ?_
    cases hl : lAt (vC σ1 (kC i)) a2 0 26 with
    | none =>
      rw [hl] at fin
      exact ⟨fun _ => fin _ rfl, fun q => absurd rfl q⟩
    | some j =>
      rw [hl] at fin
      obtain ⟨-, hj, hs⟩ := lAt_in hl
      replace hj : j < 26 := by omega
      refine ⟨fun q => absurd q (enc_some (l := j) (by omega)), fun _ => br_i (fun c0 => ?_) (fun c0 => ⟨vi hj, ?_⟩)⟩
      · exact fin _ (by unfold topR; dsimp only; rw [if_pos c0]; rfl)
      · show K (σ1 (kC i + 1) (ix (nI j))) σ1
        rw [ixn (show j < 2 ^ 31 by omega)]
        refine fin _ ?_
        unfold topR
        dsimp only
        rw [if_neg c0]
        obtain ⟨q, hq⟩ := isS_some hs
        rw [uP, hq]
        obtain ⟨-, -, rfl⟩ := cC_some hq
        rfl
  · have : ¬ zo1 a3 = true := by unfold zo1; rw [decide_eq_false h4]; simp
    exact h _ t (by unfold f_top; rw [if_pos h1, if_neg h2, if_neg this]) σ1 hc1 ff
theorem m_top48_no {s i : Nat} (hs : s ≤ 8) (hi : i < 26) {a1 a2 a3 : Int32} {σ : Mem} {K : Int32 → Mem → Prop} {A : Int32 → Int32 → Mem → Prop} (hn : isS (vM (σ 307) (bs s)) i = false) (h : A (nI s) (nI (i + 1)) σ) : ∀ d j x6, j + d = 26 → w_X7_top_48 a1 a2 a3 K A (d + 1) (nI s) (nI i) x6 (nI j) σ := by
  intro d
  induction d with
  | zero =>
    intro j x6 hj
    rw [w_X7_top_48]
    obtain rfl : j = 26 := by omega
    refine ⟨fun _ => m_has hs hi (br_b (fun _ => ?_) (fun q => by rw [hn] at q; cases q)), fun hc => absurd (nI_le (a := 26) (Nat.le_refl _) (by omega)) hc⟩
    rw [nI_1]; exact h
  | succ d ih =>
    intro j x6 hj
    have hj2 : j < 26 := by omega
    rw [w_X7_top_48]
    refine ⟨fun hc => absurd hc (ge26 hj2), fun _ => m_its 1 hs hj2 (by omega) (m_its 1 hs hi (by omega) ?_)⟩
    rintro v13 -
    rw [nI_1]
    refine m_has hs hj2 (br_b (fun _ => ?_) (fun _ => br_i (fun _ => ?_) (fun _ => br_i (fun _ => br_i (fun _ => ?_) (fun _ => ?_)) (fun _ => ?_))))
    all_goals
      rintro v -
      exact ih (j + 1) v (by omega)
theorem m_top48 {s i : Nat} {q : Cn} (hs : s ≤ 8) (hi : i < 26) {a1 a2 a3 : Int32} {σ : Mem} {K : Int32 → Mem → Prop} {A : Int32 → Int32 → Mem → Prop} (hsm : smC (vM (σ 307) (bs s))) (hq : sC (vM (σ 307) (bs s)) i = some q)
    (h1 : nI (plc (vM (σ 307) (bs s)) q.1 i 26) = a2 → K (if a3 = 0 then 97 + nI i else uP (vM (σ 307) (bs s)) i) σ) (h2 : ¬ nI (plc (vM (σ 307) (bs s)) q.1 i 26) = a2 → A (nI s) (nI (i + 1)) σ) : ∀ d j, j + d = 26 → w_X7_top_48 a1 a2 a3 K A (d + 1) (nI s) (nI i) (nI (plc (vM (σ 307) (bs s)) q.1 i j)) (nI j) σ := by
  have hq1 : σ 307 (bs s + 4 + 5 * i + 1) = q.1 := by obtain ⟨-, -, rfl⟩ := cM_some hq; rfl
  have hS : isS (vM (σ 307) (bs s)) i = true := by unfold isS; rw [hq]; rfl
  intro d
  induction d with
  | zero =>
    intro j hj
    rw [w_X7_top_48]
    obtain rfl : j = 26 := by omega
    refine ⟨fun _ => m_has hs hi (br_b (fun z => by rw [hS] at z; cases z) (fun _ => br_i (fun hz => br_i (fun c0 => ?_) (fun c0 => m_its 1 hs hi (by omega) ?_)) (fun hz => ?_))), fun hc => absurd (nI_le (a := 26) (Nat.le_refl _) (by omega)) hc⟩
    · have := h1 hz; rw [if_pos c0] at this; exact this
    · have := h1 hz; rw [if_neg c0, uP, hq] at this; rw [hq1]; exact this
    · rw [nI_1]; exact h2 hz
  | succ d ih =>
    intro j hj
    have hj2 : j < 26 := by omega
    have hn := ih (j + 1) (by omega)
    rw [w_X7_top_48]
    refine ⟨fun hc => absurd hc (ge26 hj2), fun _ => m_its 1 hs hj2 (by omega) (m_its 1 hs hi (by omega) ?_)⟩
    rintro v13 rfl
    rw [hq1, nI_1]
    refine m_has hs hj2 (br_b (fun hc => ?_) (fun hc => ?_))
    · rintro v rfl
      rw [add_0]
      rw [plc, fb_f (by unfold ahP; rw [isS_none hc])] at hn; exact hn
    · obtain ⟨r, hr⟩ := isS_some hc
      have hr1 : σ 307 (bs s + 4 + 5 * j + 1) = r.1 := by obtain ⟨-, -, rfl⟩ := cM_some hr; rfl
      have s1 := hsm i q hq
      have s2 := hsm j r hr
      rw [hr1]
      have ea : ahP (vM (σ 307) (bs s)) q.1 i j = (decide (q.1 < r.1) || (decide (r.1 = q.1) && decide (j < i))) := by unfold ahP; rw [hr]
      refine br_i (fun c1 => ?_) (fun c1 => br_i (fun c2 => br_i (fun c3 => ?_) (fun c3 => ?_)) (fun c2 => ?_))
      · rintro v rfl
        rw [nI_1]
        rw [plc, fb_t (by rw [ea, decide_eq_true ((sml_pos s2 s1).mp c1)]; rfl)] at hn; exact hn
      · rintro v rfl
        rw [add_0]
        have : ¬ j < i := by have := (nI_le_iff (by omega) (by omega)).mp c3; omega
        rw [plc, fb_f (by rw [ea, decide_eq_false (fun z => c1 ((sml_pos s2 s1).mpr z)), decide_eq_false this]; simp)] at hn; exact hn
      · rintro v rfl
        rw [nI_1]
        have : j < i := Nat.not_le.mp (fun z => c3 ((nI_le_iff (by omega) (by omega)).mpr z))
        rw [plc, fb_t (by rw [ea, decide_eq_true ((sml_zero s2 s1).mp c2), decide_eq_true this]; simp)] at hn; exact hn
      · rintro v rfl
        rw [add_0]
        rw [plc, fb_f (by rw [ea, decide_eq_false (fun z => c1 ((sml_pos s2 s1).mpr z)), decide_eq_false (fun z => c2 ((sml_zero s2 s1).mpr z))]; rfl)] at hn; exact hn
theorem m_top35 {s : Nat} (hs : s ≤ 8) {a1 a2 a3 : Int32} {σ : Mem} {K : Int32 → Mem → Prop} (hsm : smC (vM (σ 307) (bs s))) : ∀ d i, i + d = 26 → K (topR (vM (σ 307) (bs s)) a3 (lAt (vM (σ 307) (bs s)) a2 i d)) σ → w_X7_top_35 a1 a2 a3 K (d + 1) (nI s) (nI i) σ := by
  intro d
  induction d with
  | zero =>
    intro i hi h
    rw [w_X7_top_35]
    obtain rfl : i = 26 := by omega
    exact ⟨fun _ => h, fun hc => absurd (nI_le (a := 26) (Nat.le_refl _) (by omega)) hc⟩
  | succ d ih =>
    intro i hi h
    have hi2 : i < 26 := by omega
    rw [w_X7_top_35]
    refine ⟨fun hc => absurd hc (ge26 hi2), fun _ => ⟨27, ?_⟩⟩
    rw [lAt] at h
    cases hq : sC (vM (σ 307) (bs s)) i with
    | none =>
      rw [hq] at h
      exact m_top48_no hs hi2 (by unfold isS; rw [hq]; rfl) (ih (i + 1) (by omega) h) 26 0 0 rfl
    | some q =>
      rw [hq] at h
      dsimp only at h
      refine m_top48 hs hi2 hsm hq (fun hz => ?_) (fun hz => ih (i + 1) (by omega) ?_) 26 0 rfl
      · rw [if_pos hz] at h; exact h
      · rw [if_neg hz] at h; exact h
theorem m_top (a1 a2 a3 : Int32) (σ : Mem) (t : ST) (K : Int32 → Mem → Prop) (hc : MR σ t) (ho : okT t) (h : ∀ r t', f_top a1 a2 a3 t = (r, t') → ∀ σ1, MR σ1 t' → frM σ σ1 → K r σ1) : w_X7_top a1 a2 a3 σ K := by
  unfold w_X7_top
  refine m_looks hc ho (fun h1 => ⟨fun _ => h _ _ (by simp [f_top, h1]) σ hc frM.rf, fun q => absurd rfl q⟩) (fun i σ1 hi e1 h1 hv hb hc1 fr _ _ => br_i (fun q => absurd q (nI_ne5 sM8_le)) (fun _ => ?_))
  have ff : frM σ σ1 := fun q hq => fr q (by omega)
  refine br_i (fun h2 => h _ t (by unfold f_top; rw [if_pos h1, if_pos h2]) σ1 hc1 ff) (fun h2 => m_in (br_b (fun h3 => ?_) (fun h3 => ⟨27, m_top35 sM8_le ?_ 26 0 rfl ?_⟩)))
  · have : ¬ zo1 a3 = true := by rw [show zo1 a3 = false from h3]; decide
    exact h _ t (by unfold f_top; rw [if_pos h1, if_neg h2, if_neg this]) σ1 hc1 ff
  · rw [hv]; exact ok_smC (ok_tol ho.1) (by omega)
  · refine h _ t ?_ σ1 hc1 ff
    unfold f_top
    rw [if_pos h1, if_neg h2, if_pos (show zo1 a3 = true from h3), hv, e1, ixn (show i < 2 ^ 31 by omega)]
theorem x_top (a1 a2 a3 : Int32) {σ : Mem} (hi : Inv σ) : w_X6_top a1 a2 a3 σ (fun r σ1 => w_X7_top a1 a2 a3 σ1 (fun r2 σ2 => r = r2 ∧ Inv σ2)) :=
  glue (f := f_top a1 a2 a3) (C := w_X6_top a1 a2 a3) (M := w_X7_top a1 a2 a3) (c_top a1 a2 a3) (m_top a1 a2 a3) (fun t ho => by unfold f_top; split; split; exact ho; split <;> exact ho; exact ho) hi
/-! wouldEvict -/
def wEv (s : Sm) (l : Nat) : Int32 := if full s l = true then (match lst s 26 with | some r => 97 + nI r.1 | none => -5) else -5
def f_wouldEvict (a1 a2 : Int32) (t : ST) : Int32 × ST := if sm4 a1 = true ∧ lt26 a2 = true then (wEv (aSm (tA t) (ix a1)) (ix (a2 - 97)), t) else (-1, t)
theorem c_wouldEvict (a1 a2 : Int32) (σ : Mem) (t : ST) (K : Int32 → Mem → Prop) (hc : CR σ t) (ho : okT t) (h : ∀ r t', f_wouldEvict a1 a2 t = (r, t') → ∀ σ1, CR σ1 t' → frC σ σ1 → K r σ1) : w_X6_wouldEvict a1 a2 σ K := by
  unfold w_X6_wouldEvict
  refine c_lIx (c_isSm (br_b (fun h1 => ?_) (fun h1 => br_lx (fun h2 => ?_) (fun h2 => ?_))))
  · exact h _ _ (by simp [f_wouldEvict, h1]) σ hc frC.rf
  · exact h _ _ (by simp [f_wouldEvict, h2]) σ hc frC.rf
  · obtain ⟨i, hi, e1, e2⟩ := sm4_n h1
    obtain ⟨l, hl, e3, -, e4⟩ := lt26_n h2
    rw [lx_t h2, e3, e1, ixn (show i < 2 ^ 31 by omega)]
    have hb : hbC σ (2 + 5 * i) := by have := hc.1.1.1 i hi; rw [Nat.zero_add] at this; exact this
    have hv : vC σ (2 + 5 * i) = aSm (tA t) i := by rw [← hc.1.2, aSm_at hi, Nat.zero_add]
    have fin : ∀ r : Int32, r = wEv (vC σ (2 + 5 * i)) l → K r σ := fun r hr => by
      refine h r t ?_ σ hc frC.rf
      unfold f_wouldEvict
      rw [if_pos ⟨h1, h2⟩, hr, hv, e2, e4]
    unfold wEv at fin
    refine ⟨vi hi, s_room hl hb (br_b (fun hf => ?_) (fun hf => s_next ?_))⟩
    · exact fin _ (by rw [if_neg (by rw [hf]; decide)])
    · rw [if_pos hf] at fin
      unfold lsN
      cases hr : lst (vC σ (2 + 5 * i)) 26 with
      | none => rw [hr] at fin; exact ⟨fun _ => fin _ rfl, fun q => absurd rfl q⟩
      | some r =>
        rw [hr] at fin
        obtain ⟨r1, -⟩ := lst_in hr
        exact ⟨fun q => absurd q (enc_some (l := r.1) (by omega)), fun _ => fin _ rfl⟩
theorem m_wouldEvict (a1 a2 : Int32) (σ : Mem) (t : ST) (K : Int32 → Mem → Prop) (hc : MR σ t) (ho : okT t) (h : ∀ r t', f_wouldEvict a1 a2 t = (r, t') → ∀ σ1, MR σ1 t' → frM σ σ1 → K r σ1) : w_X7_wouldEvict a1 a2 σ K := by
  unfold w_X7_wouldEvict
  refine m_isSm (br_b (fun h1 => ?_) (fun h1 => m_isLt (br_b (fun h2 => ?_) (fun h2 => ?_))))
  · exact h _ _ (by simp [f_wouldEvict, h1]) σ hc frM.rf
  · exact h _ _ (by simp [f_wouldEvict, h2]) σ hc frM.rf
  · obtain ⟨i, hi, e1, e2⟩ := sm4_n h1
    obtain ⟨l, hl, e3, -, e4⟩ := lt26_n h2
    rw [e3, e1]
    have hb := hc.1.1.1 i (by omega)
    have hv : vM (σ 307) (bs i) = aSm (tA t) i := by rw [← hc.1.2, aM_sm hi]
    obtain ⟨hbd, z, z1, z2, z3, z4⟩ := id (ho.1.1 i hi)
    rw [← hv] at z1 z4
    have fin : ∀ r : Int32, r = wEv (vM (σ 307) (bs i)) l → K r σ := fun r hr => by
      refine h r t ?_ σ hc frM.rf
      unfold f_wouldEvict
      rw [if_pos ⟨h1, h2⟩, hr, hv, e2, e4]
    unfold wEv full at fin
    rw [z1] at fin
    refine m_has (by omega) hl (br_b (fun hs => m_counters (by omega) hb (m_of 0 (by omega) (by omega) ?_)) (fun hs => ?_))
    · rw [show σ 307 (bs i + 0) = nI z from z1]
      rw [hs] at fin
      have hle := nC_le (vM (σ 307) (bs i))
      refine br_i (fun hq => ?_) (fun hq => ?_)
      · have hz : nC (vM (σ 307) (bs i)) = z := (nI_eq (by omega) (by omega)).mp hq
        obtain ⟨r, hr⟩ := nC_pos (s := vM (σ 307) (bs i)) (by omega)
        refine m_least (by omega) (by rw [hv]; exact ok_smC (ho.1.1 i hi) (by omega)) ?_
        unfold ls5
        rw [hr] at fin ⊢
        exact fin _ (by rw [if_pos (by rw [decide_eq_true ((nI_le_iff (by omega) (by omega)).mpr (show z ≤ nC (vM (σ 307) (bs i)) by omega))]; rfl)])
      · have hz : ¬ z ≤ nC (vM (σ 307) (bs i)) := fun q => hq (by rw [show nC (vM (σ 307) (bs i)) = z by omega])
        exact fin _ (by rw [if_neg (by rw [decide_eq_false (fun q => hz ((nI_le_iff (by omega) (by omega)).mp q))]; simp)])
    · rw [hs] at fin
      exact fin _ (by rw [if_neg (by simp)])
theorem x_wouldEvict (a1 a2 : Int32) {σ : Mem} (hi : Inv σ) : w_X6_wouldEvict a1 a2 σ (fun r σ1 => w_X7_wouldEvict a1 a2 σ1 (fun r2 σ2 => r = r2 ∧ Inv σ2)) :=
  glue (f := f_wouldEvict a1 a2) (C := w_X6_wouldEvict a1 a2) (M := w_X7_wouldEvict a1 a2) (c_wouldEvict a1 a2) (m_wouldEvict a1 a2) (fun t ho => by unfold f_wouldEvict; split <;> exact ho) hi
