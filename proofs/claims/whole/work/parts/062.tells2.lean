/-! above -/
theorem lg_le {x y : Int64} : lg_cmp x y ≤ 0 ↔ x ≤ y := by
  unfold lg_cmp
  by_cases h : x > y
  · rw [if_pos h]
    exact ⟨fun q => absurd q (by decide), fun q => absurd (Int64.lt_of_lt_of_le h q) (Int64.lt_irrefl)⟩
  · rw [if_neg h]
    have hle : x ≤ y := Int64.not_lt.mp h
    by_cases h2 : x = y
    · rw [if_pos h2]; exact ⟨fun _ => hle, fun _ => by decide⟩
    · rw [if_neg h2]; exact ⟨fun _ => hle, fun _ => by decide⟩
theorem lg_share {x p s : Int32} (hx : -1000000 ≤ x.toInt) (hx2 : x.toInt ≤ 1000000) (hp : 1 ≤ p.toInt) (hp2 : p.toInt ≤ 99) (hs : 0 ≤ s.toInt) (hs2 : s.toInt ≤ 1000000) : lg_cmp (Int32.toInt64 x * 100) (Int32.toInt64 p * Int32.toInt64 s) ≤ 0 ↔ x * 100 ≤ p * s := by
  have m0 : 0 ≤ p.toInt * s.toInt := Int.mul_nonneg (by omega) hs
  have m1 : p.toInt * s.toInt ≤ 99 * 1000000 := Int.mul_le_mul hp2 hs2 hs (by omega)
  have h100 : (100 : Int64).toInt = 100 := by decide
  have h100b : (100 : Int32).toInt = 100 := by decide
  have a1 : (Int32.toInt64 x * 100).toInt = x.toInt * 100 := by
    rw [Int64.toInt_mul, Int32.toInt_toInt64, h100]
    apply Int.bmod_eq_of_le <;> omega
  have a2 : (Int32.toInt64 p * Int32.toInt64 s).toInt = p.toInt * s.toInt := by
    rw [Int64.toInt_mul, Int32.toInt_toInt64, Int32.toInt_toInt64]
    apply Int.bmod_eq_of_le <;> omega
  have a3 : (x * 100).toInt = x.toInt * 100 := by
    rw [Int32.toInt_mul, h100b]
    apply Int.bmod_eq_of_le <;> omega
  have a4 : (p * s).toInt = p.toInt * s.toInt := by
    rw [Int32.toInt_mul]
    apply Int.bmod_eq_of_le <;> omega
  rw [lg_le, Int64.le_iff_toInt_le, fa_le, a1, a2, a3, a4]
def abP (s : Sm) (a2 : Int32) (c : Bool) (i : Nat) : Bool := !decide ((if c then lO s i else uP s i) * 100 ≤ a2 * sS s)
def f_above (a1 a2 a3 : Int32) (t : ST) : Int32 × ST := if tl5 a1 = true then (if wt99 a2 = true then (bitsF (abP (tol (tA t) (ix a1)) a2 (bC a3)) 26, t) else (-2, t)) else (-1, t)
theorem bd_lO {s : Sm} {M : Int} (h : bdS s M) (hM : M < 2147483648) (l : Nat) : -M ≤ (lO s l).toInt ∧ (lO s l).toInt ≤ M := by
  obtain ⟨a, b, c, d⟩ := h
  unfold lO
  cases hc : sC s l with
  | none => show -M ≤ (0 : Int32).toInt ∧ (0 : Int32).toInt ≤ M; have : (0 : Int32).toInt = 0 := by decide
            omega
  | some q =>
    obtain ⟨d1, d2, d3, d4⟩ := d l q hc
    have e : (q.1 - q.2.1).toInt = q.1.toInt - q.2.1.toInt := by
      rw [Int32.toInt_sub]
      apply Int.bmod_eq_of_le <;> omega
    show -M ≤ (q.1 - q.2.1).toInt ∧ (q.1 - q.2.1).toInt ≤ M
    omega
theorem c_above_loop {k : Nat} {a1 a2 a3 : Int32} {σ : Mem} {K : Int32 → Mem → Prop} (hb : bdS (vC σ k) 1000000) (hp : 1 ≤ a2.toInt) (hp2 : a2.toInt ≤ 99) (h : K (bitsF (abP (vC σ k) a2 (bC a3)) 26) σ) : ∀ d i, i + d = 26 → w_X6_above_34 a1 a2 a3 K (d + 1) k (bitsF (abP (vC σ k) a2 (bC a3)) i) (nI i) σ := by
  intro d
  induction d with
  | zero =>
    intro i hi
    rw [w_X6_above_34]
    obtain rfl : i = 26 := by omega
    exact ⟨fun _ => h, fun hc => absurd (nI_le (a := 26) (Nat.le_refl _) (by omega)) hc⟩
  | succ d ih =>
    intro i hi
    have hi2 : i < 26 := by omega
    have hn := ih (i + 1) (by omega)
    have hs0 := hb.1
    have hs1 := hb.2.1
    have hs2 := hb.2.2.1
    have es : sS (vC σ k) = σ k 2 := rfl
    have key : ∀ x : Int32, x = (if bC a3 then lO (vC σ k) i else uP (vC σ k) i) → -1000000 ≤ x.toInt → x.toInt ≤ 1000000 → w_X6_above_62 a1 a2 a3 K (w_X6_above_34 a1 a2 a3 K (d + 1)) k (bitsF (abP (vC σ k) a2 (bC a3)) i) (nI i) x σ := by
      intro x hx x1 x2
      unfold w_X6_above_62
      rw [bitsF] at hn
      unfold abP at hn
      rw [nI_1]
      refine ⟨fun hc => ?_, fun hc => ?_⟩
      · have := (lg_share x1 x2 hp hp2 (by rw [← es]; omega) (by rw [← es]; omega)).mp hc
        rw [if_neg (by rw [← hx, es, decide_eq_true this]; decide)] at hn; exact hn
      · have : ¬ x * 100 ≤ a2 * σ k 2 := fun q => hc ((lg_share x1 x2 hp hp2 (by rw [← es]; omega) (by rw [← es]; omega)).mpr q)
        rintro v rfl
        rw [if_pos (by rw [← hx, es, decide_eq_false this]; decide)] at hn; exact hn
    rw [w_X6_above_34]
    have hu := bd_uP hb i
    have hl := bd_lO hb (by omega) i
    refine ⟨fun hc => absurd hc (ge26 hi2), fun _ => ⟨fun hz => s_upper hi2 (key _ (by rw [bC_0.mp hz]; rfl) (by omega) (by omega)), fun hz => s_lower hi2 (key _ ?_ hl.1 hl.2)⟩⟩
    have : bC a3 = true := by
      cases hb : bC a3
      · exact absurd (bC_0.mpr hb) hz
      · rfl
    rw [this]; rfl
theorem c_above (a1 a2 a3 : Int32) (σ : Mem) (t : ST) (K : Int32 → Mem → Prop) (hc : CR σ t) (ho : okT t) (h : ∀ r t', f_above a1 a2 a3 t = (r, t') → ∀ σ1, CR σ1 t' → frC σ σ1 → K r σ1) : w_X6_above a1 a2 a3 σ K := by
  unfold w_X6_above
  refine c_told hc ho (fun h1 => ⟨fun _ => h _ _ (by simp [f_above, h1]) σ hc frC.rf, fun r hr => by cases hr⟩) (fun i σ1 hi e1 h1 hv hb hc1 fr _ => ⟨fun q => (by cases q), fun r hr => ?_⟩)
  cases hr
  have hbd : bdS (vC σ1 (kC i)) 1000000 := by rw [hv]; exact (ok_tol ho.1).1
  by_cases hw : wt99 a2 = true
  · obtain ⟨w1, w2⟩ := wt99_n hw
    have hw' := hw
    unfold wt99 at hw'
    rw [Bool.and_eq_true, decide_eq_true_eq, decide_eq_true_eq] at hw'
    refine br_i (fun h2 => absurd h2 (Int32.not_lt.mpr hw'.1)) (fun h2 => br_i (fun h3 => ⟨27, c_above_loop hbd w1 w2 ?_ 26 0 rfl⟩) (fun h3 => absurd hw'.2 h3))
    refine h _ t ?_ σ1 hc1 (fun q hq => fr q (by omega))
    unfold f_above
    rw [if_pos h1, if_pos hw, hv, e1, ixn (show i < 2 ^ 31 by omega)]
  · have fin : K (-2) σ1 := h _ t (by simp [f_above, h1, hw]) σ1 hc1 (fun q hq => fr q (by omega))
    refine br_i (fun h2 => fin) (fun h2 => br_i (fun h3 => ?_) (fun h3 => fin))
    exact absurd (by unfold wt99; rw [decide_eq_true (show 1 ≤ a2 from Int32.not_lt.mp h2), decide_eq_true h3]; rfl) hw
theorem m_above_loop {s : Nat} (hs : s ≤ 8) {a1 a2 a3 : Int32} {σ : Mem} {K : Int32 → Mem → Prop} (h : K (bitsF (abP (vM (σ 307) (bs s)) a2 (bC a3)) 26) σ) : ∀ d i, i + d = 26 → w_X7_above_35 a1 a2 a3 K (d + 1) (nI s) (bitsF (abP (vM (σ 307) (bs s)) a2 (bC a3)) i) (nI i) σ := by
  intro d
  induction d with
  | zero =>
    intro i hi
    rw [w_X7_above_35]
    obtain rfl : i = 26 := by omega
    exact ⟨fun _ => h, fun hc => absurd (nI_le (a := 26) (Nat.le_refl _) (by omega)) hc⟩
  | succ d ih =>
    intro i hi
    have hi2 : i < 26 := by omega
    have hn := ih (i + 1) (by omega)
    have key : ∀ x : Int32, x = (if bC a3 then lO (vM (σ 307) (bs s)) i else uP (vM (σ 307) (bs s)) i) → w_X7_above_65 a1 a2 a3 K (w_X7_above_35 a1 a2 a3 K (d + 1)) (nI s) (bitsF (abP (vM (σ 307) (bs s)) a2 (bC a3)) i) (nI i) x σ := by
      intro x hx
      unfold w_X7_above_65
      rw [bitsF] at hn
      unfold abP at hn
      rw [nI_1]
      refine m_of 2 hs (by omega) ?_
      have es : sS (vM (σ 307) (bs s)) = σ 307 (bs s + 2) := rfl
      refine ⟨fun hc => ?_, fun hc => ?_⟩
      · rintro v rfl
        rw [or_0]
        rw [if_neg (by rw [← hx, es, decide_eq_true hc]; decide)] at hn; exact hn
      · rintro v rfl
        rw [if_pos (by rw [← hx, es, decide_eq_false hc]; decide)] at hn; exact hn
    rw [w_X7_above_35]
    refine ⟨fun hc => absurd hc (ge26 hi2), fun _ => ⟨fun hz => m_upper hs hi2 (key _ (by rw [bC_0.mp hz]; rfl)), fun hz => m_lower hs hi2 (key _ ?_)⟩⟩
    have : bC a3 = true := by
      cases hb : bC a3
      · exact absurd (bC_0.mpr hb) hz
      · rfl
    rw [this]; rfl
theorem m_above (a1 a2 a3 : Int32) (σ : Mem) (t : ST) (K : Int32 → Mem → Prop) (hc : MR σ t) (ho : okT t) (h : ∀ r t', f_above a1 a2 a3 t = (r, t') → ∀ σ1, MR σ1 t' → frM σ σ1 → K r σ1) : w_X7_above a1 a2 a3 σ K := by
  unfold w_X7_above
  refine m_looks hc ho (fun h1 => ⟨fun _ => h _ _ (by simp [f_above, h1]) σ hc frM.rf, fun q => absurd rfl q⟩) (fun i σ1 hi e1 h1 hv hb hc1 fr _ _ => br_i (fun q => absurd q (nI_ne5 sM8_le)) (fun _ => m_isWt (br_b (fun h2 => ?_) (fun h2 => ⟨27, m_above_loop sM8_le ?_ 26 0 rfl⟩))))
  · exact h _ t (by simp [f_above, h1, h2]) σ1 hc1 (fun q hq => fr q (by omega))
  · refine h _ t ?_ σ1 hc1 (fun q hq => fr q (by omega))
    unfold f_above
    rw [if_pos h1, if_pos h2, hv, e1, ixn (show i < 2 ^ 31 by omega)]
theorem x_above (a1 a2 a3 : Int32) {σ : Mem} (hi : Inv σ) : w_X6_above a1 a2 a3 σ (fun r σ1 => w_X7_above a1 a2 a3 σ1 (fun r2 σ2 => r = r2 ∧ Inv σ2)) :=
  glue (f := f_above a1 a2 a3) (C := w_X6_above a1 a2 a3) (M := w_X7_above a1 a2 a3) (c_above a1 a2 a3) (m_above a1 a2 a3) (fun t ho => by unfold f_above; split; split <;> exact ho; exact ho) hi
/-! alike -/
def alP (s o : Sm) (i : Nat) : Bool := !decide (uP o i < lO s i) && !decide (uP s i < lO o i)
def f_alike (a1 a2 : Int32) (t : ST) : Int32 × ST := if tl5 a1 = true ∧ tl5 a2 = true then (nI (fb_ct (alP (tol (tA t) (ix a1)) (tol (tA t) (ix a2))) 26), t) else (-1, t)
theorem c_alike_loop {k o : Nat} {a1 a2 : Int32} {σ : Mem} {K : Int32 → Mem → Prop} (h : K (nI (fb_ct (alP (vC σ k) (vC σ o)) 26)) σ) : ∀ d i, i + d = 26 → w_X6_alike_30 a1 a2 K (d + 1) k o (nI (fb_ct (alP (vC σ k) (vC σ o)) i)) (nI i) σ := by
  intro d
  induction d with
  | zero =>
    intro i hi
    rw [w_X6_alike_30]
    obtain rfl : i = 26 := by omega
    exact ⟨fun _ => h, fun hc => absurd (nI_le (a := 26) (Nat.le_refl _) (by omega)) hc⟩
  | succ d ih =>
    intro i hi
    have hi2 : i < 26 := by omega
    have hn := ih (i + 1) (by omega)
    rw [w_X6_alike_30, nI_1, nI_1]
    refine ⟨fun hc => absurd hc (ge26 hi2), fun _ => s_lower hi2 (s_upper hi2 ⟨fun hc => ?_, fun hc => s_lower hi2 (s_upper hi2 ⟨fun hc2 => ?_, fun hc2 => ?_⟩)⟩)⟩
    · rw [fb_f (by unfold alP; rw [decide_eq_true hc]; rfl)] at hn; exact hn
    · rw [fb_f (by unfold alP; rw [decide_eq_true hc2]; simp)] at hn; exact hn
    · rw [fb_t (by unfold alP; rw [decide_eq_false hc, decide_eq_false hc2]; rfl)] at hn; exact hn
theorem c_alike (a1 a2 : Int32) (σ : Mem) (t : ST) (K : Int32 → Mem → Prop) (hc : CR σ t) (ho : okT t) (h : ∀ r t', f_alike a1 a2 t = (r, t') → ∀ σ1, CR σ1 t' → frC σ σ1 → K r σ1) : w_X6_alike a1 a2 σ K := by
  unfold w_X6_alike
  refine c_told hc ho (fun h1 => ⟨fun _ => ?_, fun r hr => by cases hr⟩) (fun i σ1 hi e1 h1 hv hb hc1 fr _ => ⟨fun q => (by cases q), fun r hr => ?_⟩)
  · exact c_told hc ho (fun h2 => ⟨fun _ => h _ _ (by simp [f_alike, h1]) σ hc frC.rf, fun r hr => by cases hr⟩) (fun j σ2 hj e2 h2 hv2 hb2 hc2 fr2 _ => ⟨fun q => (by cases q), fun r hr => h _ _ (by simp [f_alike, h1]) σ2 hc2 (fun q hq => fr2 q (by omega))⟩)
  · cases hr
    refine c_told hc1 ho (fun h2 => ⟨fun _ => h _ _ (by simp [f_alike, h2]) σ1 hc1 (fun q hq => fr q (by omega)), fun r hr => by cases hr⟩) (fun j σ2 hj e2 h2 hv2 hb2 hc2 fr2 same => ⟨fun q => (by cases q), fun r hr => ?_⟩)
    cases hr
    have hv1 : vC σ2 (kC i) = tol (tA t) i := by
      by_cases hj4 : j < 4
      · rw [same hj4]; exact hv
      · by_cases hi4 : i < 4
        · rw [← hv]
          have ek : kC i = 2 + 5 * i := if_pos hi4
          rw [ek]
          exact vC_fr (fun q x y => fr2 q (by omega))
        · obtain rfl : i = 4 := by omega
          obtain rfl : j = 4 := by omega
          exact hv2
    refine ⟨27, c_alike_loop ?_ 26 0 rfl⟩
    refine h _ t ?_ σ2 hc2 (fun q hq => (fr2 q (by omega)).trans (fr q (by omega)))
    unfold f_alike
    rw [if_pos ⟨h1, h2⟩, hv1, hv2, e1, e2, ixn (show i < 2 ^ 31 by omega), ixn (show j < 2 ^ 31 by omega)]
theorem m_alike_loop {s o : Nat} (hs : s ≤ 8) (hos : o ≤ 8) {a1 a2 : Int32} {σ : Mem} {K : Int32 → Mem → Prop} (h : K (nI (fb_ct (alP (vM (σ 307) (bs s)) (vM (σ 307) (bs o))) 26)) σ) : ∀ d i, i + d = 26 → w_X7_alike_34 a1 a2 K (d + 1) (nI s) (nI o) (nI (fb_ct (alP (vM (σ 307) (bs s)) (vM (σ 307) (bs o))) i)) (nI i) σ := by
  intro d
  induction d with
  | zero =>
    intro i hi
    rw [w_X7_alike_34]
    obtain rfl : i = 26 := by omega
    exact ⟨fun _ => h, fun hc => absurd (nI_le (a := 26) (Nat.le_refl _) (by omega)) hc⟩
  | succ d ih =>
    intro i hi
    have hi2 : i < 26 := by omega
    have hn := ih (i + 1) (by omega)
    rw [w_X7_alike_34, nI_1, nI_1]
    refine ⟨fun hc => absurd hc (ge26 hi2), fun _ => m_lower hs hi2 (m_upper hos hi2 ⟨fun hc => ?_, fun hc => m_lower hos hi2 (m_upper hs hi2 ⟨fun hc2 => ?_, fun hc2 => ?_⟩)⟩)⟩
    · rintro v rfl
      rw [add_0]
      rw [fb_f (by unfold alP; rw [decide_eq_true hc]; rfl)] at hn; exact hn
    · rintro v rfl
      rw [add_0]
      rw [fb_f (by unfold alP; rw [decide_eq_true hc2]; simp)] at hn; exact hn
    · rintro v rfl
      rw [fb_t (by unfold alP; rw [decide_eq_false hc, decide_eq_false hc2]; rfl)] at hn; exact hn
theorem m_alike (a1 a2 : Int32) (σ : Mem) (t : ST) (K : Int32 → Mem → Prop) (hc : MR σ t) (ho : okT t) (h : ∀ r t', f_alike a1 a2 t = (r, t') → ∀ σ1, MR σ1 t' → frM σ σ1 → K r σ1) : w_X7_alike a1 a2 σ K := by
  unfold w_X7_alike
  refine m_looks hc ho (fun h1 => ?_) (fun i σ1 hi e1 h1 hv hb hc1 fr fr8 _ => ?_)
  · have fin : ∀ σ2, MR σ2 t → frM σ σ2 → K (-1) σ2 := fun σ2 p q => h _ _ (by simp [f_alike, h1]) σ2 p q
    exact m_looks hc ho (fun h2 => ⟨fun _ => fin σ hc frM.rf, fun q => absurd rfl q⟩) (fun j σ2 hj e2 h2 hv2 hb2 hc2 fr2 _ _ => ⟨fun _ => fin σ2 hc2 (fun q hq => fr2 q (by omega)), fun q => absurd rfl q⟩)
  · refine m_looks hc1 ho (fun h2 => br_i (fun q => absurd q (nI_ne5 sM8_le)) (fun _ => ⟨fun _ => h _ _ (by simp [f_alike, h2]) σ1 hc1 (fun q hq => fr q (by omega)), fun q => absurd rfl q⟩)) (fun j σ2 hj e2 h2 hv2 hb2 hc2 fr2 fr28 same => br_i (fun q => absurd q (nI_ne5 sM8_le)) (fun _ => br_i (fun q => absurd q (nI_ne5 sM8_le)) (fun _ => ?_)))
    have hv1 : vM (σ2 307) (bs (sM8 i)) = tol (tA t) i := by
      by_cases hj4 : j < 4
      · rw [same hj4]; exact hv
      · by_cases hi4 : i < 4
        · rw [← hv]
          have ek : sM8 i = i := if_pos hi4
          rw [ek]
          exact vM_ext (fun x hx _ => fr28 _ (by rw [bs7 (by omega)]; omega))
        · obtain rfl : i = 4 := by omega
          obtain rfl : j = 4 := by omega
          exact hv2
    refine ⟨27, m_alike_loop sM8_le sM8_le ?_ 26 0 rfl⟩
    refine h _ t ?_ σ2 hc2 (fun q hq => (fr2 q (by omega)).trans (fr q (by omega)))
    unfold f_alike
    rw [if_pos ⟨h1, h2⟩, hv1, hv2, e1, e2, ixn (show i < 2 ^ 31 by omega), ixn (show j < 2 ^ 31 by omega)]
theorem x_alike (a1 a2 : Int32) {σ : Mem} (hi : Inv σ) : w_X6_alike a1 a2 σ (fun r σ1 => w_X7_alike a1 a2 σ1 (fun r2 σ2 => r = r2 ∧ Inv σ2)) :=
  glue (f := f_alike a1 a2) (C := w_X6_alike a1 a2) (M := w_X7_alike a1 a2) (c_alike a1 a2) (m_alike a1 a2) (fun t ho => by unfold f_alike; split <;> exact ho) hi
