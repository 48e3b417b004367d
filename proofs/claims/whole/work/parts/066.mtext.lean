/-! The text: the reference reads it. -/
def TM (n : Nat) (T : Nat → Int32) (p : Nat) (σ : Mem) : Prop := σ 306 5 = nI n ∧ (∀ x, x < n → σ 310 x = T x) ∧ σ 306 7 = nI p
/-- only the reading's own fields change -/
def XM (σ σ1 : Mem) : Prop := (∀ q, q ≠ 306 → σ1 q = σ q) ∧ ∀ x, x < 7 → σ1 306 x = σ 306 x
theorem XM.rf {σ : Mem} : XM σ σ := ⟨fun _ _ => rfl, fun _ _ => rfl⟩
theorem XM.tr {σ σ1 σ2 : Mem} (h : XM σ σ1) (h2 : XM σ1 σ2) : XM σ σ2 := ⟨fun q hq => (h2.1 q hq).trans (h.1 q hq), fun x hx => (h2.2 x hx).trans (h.2 x hx)⟩
theorem XM_mu {σ : Mem} {j : Nat} {v : Int32} (hj : 7 ≤ j) : XM σ (mu σ 306 j v) := ⟨fun q hq => mu_o hq, fun x hx => by rw [mu_k]; simp only [upd]; rw [if_neg (by omega)]⟩
theorem TM.x {n : Nat} {T : Nat → Int32} {p r : Nat} {σ σ1 : Mem} (h : TM n T p σ) (hX : XM σ σ1) (h7 : σ1 306 7 = nI r) : TM n T r σ1 := ⟨by rw [hX.2 _ (by omega)]; exact h.1, fun x hx => by rw [hX.1 _ (by omega)]; exact h.2.1 x hx, h7⟩
theorem m_isB {n : Nat} {T : Nat → Int32} {p : Nat} {lo hi : Int32} {σ : Mem} {K : Int32 → Mem → Prop} (hn : n ≤ 60) (ht : TM n T p σ) (hp : p < 2 ^ 31) (h : K (b2 (dg n T lo hi p)) σ) : w_X7_isBetween lo hi σ K := by
  obtain ⟨t1, t2, t3⟩ := ht
  unfold w_X7_isBetween
  unfold dg at h
  rw [t1, t3]
  refine br_i (fun hc => ?_) (fun hc => ?_)
  · rw [decide_eq_false (show ¬ p < n by have := (nI_le_iff (by omega) hp).mp hc; omega)] at h; exact h
  · have hlt : p < n := Nat.not_le.mp (fun q => hc ((nI_le_iff (by omega) hp).mpr q))
    rw [decide_eq_true hlt, Bool.true_and] at h
    rw [ixn hp, t2 p hlt]
    refine ⟨vi (by omega), m_in (br_b (fun hb => ?_) (fun hb => ?_))⟩
    · rw [hb] at h; exact h
    · rw [hb] at h; exact h
theorem m_takes {n : Nat} {T : Nat → Int32} {p : Nat} {c : Int32} {σ : Mem} {K : Int32 → Mem → Prop} (hn : n ≤ 60) (ht : TM n T p σ) (hp : p < 2 ^ 31) (h0 : dg n T c c p = false → ∀ σ1, XM σ σ1 → TM n T p σ1 → σ1 306 9 = σ 306 9 → σ1 306 10 = σ 306 10 → K 0 σ1) (h1 : dg n T c c p = true → ∀ σ1, XM σ σ1 → TM n T (p + 1) σ1 → σ1 306 9 = σ 306 9 → σ1 306 10 = σ 306 10 → K 1 σ1) : w_X7_takes c σ K := by
  refine m_isB hn ht hp (br_b (fun hd => ?_) (fun hd => ?_))
  · rintro σ3 e3
    rw [hd]
    have hX : XM σ σ3 := by rw [e3]; exact XM_mu (by omega)
    refine ⟨nar_b2, h0 hd σ3 hX (ht.x hX ?_) ?_ ?_⟩
    · rw [e3, mu_k]; simp only [upd, if_true]; rw [add_0]; exact ht.2.2
    · rw [e3, mu_k]; simp only [upd]; rw [if_neg (by omega)]
    · rw [e3, mu_k]; simp only [upd]; rw [if_neg (by omega)]
  · rintro σ3 e3
    rw [hd]
    have hX : XM σ σ3 := by rw [e3]; exact XM_mu (by omega)
    refine ⟨nar_b2, h1 hd σ3 hX (ht.x hX ?_) ?_ ?_⟩
    · rw [e3, mu_k]; simp only [upd, if_true]; rw [ht.2.2, nI_1]
    · rw [e3, mu_k]; simp only [upd]; rw [if_neg (by omega)]
    · rw [e3, mu_k]; simp only [upd]; rw [if_neg (by omega)]
theorem num2 (a b : Int32) : 10 * a + b - 48 = a * 10 + (b - 48) := by
  rw [Int32.mul_comm 10 a, Int32.sub_eq_add_neg, Int32.sub_eq_add_neg, Int32.add_assoc]
theorem dg_9 {n : Nat} {T : Nat → Int32} {p : Nat} (h : dg n T 49 57 p = true) : ¬ T p - 48 = 0 := by
  rw [dg_48, Bool.and_eq_true, Bool.not_eq_true', decide_eq_false_iff_not] at h
  intro q
  refine h.2 ?_
  have := congrArg (· + 48) q
  simpa using this
/-- one arrival, if there is one -/
theorem m_takesA {n : Nat} {T : Nat → Int32} {p : Nat} {σ : Mem} {K : Int32 → Mem → Prop} (hn : n ≤ 60) (ht : TM n T p σ) (hp : p < 2 ^ 30) (h0 : dg n T 97 122 p = false → K 0 σ)
    (h1 : dg n T 97 122 p = true → ∀ σ1, XM σ σ1 → TM n T (wE n T (p + 1)).2 σ1 → σ1 306 8 = T p - 97 → σ1 306 9 = (wE n T (p + 1)).1 → σ1 306 10 = σ 306 10 → K 1 σ1) : w_X7_takesArrival σ K := by
  unfold w_X7_takesArrival
  refine m_isB hn ht (by omega) (br_b h0 (fun hd => ?_))
  have hlt := dg_lt hd
  replace h1 := h1 hd
  rw [ht.2.2, ixn (show p < 2 ^ 31 by omega), ht.2.1 p hlt]
  refine ⟨vi (by omega), ?_⟩
  rintro σ4 e4 σ5 e5 σ6 e6
  have x4 : XM σ σ4 := by rw [e4]; exact XM_mu (by omega)
  have x5 : XM σ σ5 := x4.tr (by rw [e5]; exact XM_mu (by omega))
  have x6 : XM σ σ6 := x5.tr (by rw [e6]; exact XM_mu (by omega))
  have g7 : σ6 306 7 = nI (p + 1) := by rw [e6, mu_k]; simp only [upd]; rw [if_neg (by omega), e5, mu_k]; simp only [upd, if_true]; rw [e4, mu_k]; simp only [upd]; rw [if_neg (by omega), ht.2.2, nI_1]
  have g8 : σ6 306 8 = T p - 97 := by rw [e6, mu_k]; simp only [upd]; rw [if_neg (by omega), e5, mu_k]; simp only [upd]; rw [if_neg (by omega), e4, mu_k]; simp [upd]
  have g9 : σ6 306 9 = 1 := by rw [e6, mu_k]; simp [upd]
  have g10 : σ6 306 10 = σ 306 10 := by rw [e6, mu_k]; simp only [upd]; rw [if_neg (by omega), e5, mu_k]; simp only [upd]; rw [if_neg (by omega), e4, mu_k]; simp only [upd]; rw [if_neg (by omega)]
  have t6 := ht.x x6 g7
  refine m_isB hn t6 (by omega) (br_b (fun h2 => ?_) (fun h2 => ?_))
  · have ew : wE n T (p + 1) = (1, p + 1) := by unfold wE; rw [if_neg (by rw [h2]; decide)]
    rw [ew] at h1
    exact h1 σ6 x6 t6 g8 g9 g10
  · have hlt2 := dg_lt h2
    have ew : wE n T (p + 1) = nE n T (p + 1) := by unfold wE; rw [if_pos h2]
    rw [ew] at h1
    unfold nE at h1
    rw [if_neg (dg_9 h2)] at h1
    rw [g7, ixn (show p + 1 < 2 ^ 31 by omega), t6.2.1 _ hlt2]
    refine ⟨vi (by omega), ?_⟩
    rintro σ10 e10 σ11 e11
    have x10 : XM σ6 σ10 := by rw [e10]; exact XM_mu (by omega)
    have x11 : XM σ6 σ11 := x10.tr (by rw [e11]; exact XM_mu (by omega))
    have k7 : σ11 306 7 = nI (p + 1 + 1) := by rw [e11, mu_k]; simp only [upd, if_true]; rw [e10, mu_k]; simp only [upd]; rw [if_neg (by omega), g7, nI_1]
    have k8 : σ11 306 8 = T p - 97 := by rw [e11, mu_k]; simp only [upd]; rw [if_neg (by omega), e10, mu_k]; simp only [upd]; rw [if_neg (by omega), g8]
    have k9 : σ11 306 9 = T (p + 1) - 48 := by rw [e11, mu_k]; simp only [upd]; rw [if_neg (by omega), e10, mu_k]; simp [upd]
    have k10 : σ11 306 10 = σ 306 10 := by rw [e11, mu_k]; simp only [upd]; rw [if_neg (by omega), e10, mu_k]; simp only [upd]; rw [if_neg (by omega), g10]
    have t11 := t6.x x11 k7
    refine m_isB hn t11 (by omega) (br_b (fun h3 => ?_) (fun h3 => ?_))
    · rw [if_neg (by rw [h3]; decide)] at h1
      exact h1 σ11 (x6.tr x11) t11 k8 k9 k10
    · have hlt3 := dg_lt h3
      rw [if_pos h3] at h1
      rw [k7, ixn (show p + 1 + 1 < 2 ^ 31 by omega), t11.2.1 _ hlt3, k9, num2]
      refine ⟨vi (by omega), ?_⟩
      rintro σ15 e15 σ16 e16
      have x15 : XM σ11 σ15 := by rw [e15]; exact XM_mu (by omega)
      have x16 : XM σ11 σ16 := x15.tr (by rw [e16]; exact XM_mu (by omega))
      have l7 : σ16 306 7 = nI (p + 1 + 2) := by rw [e16, mu_k]; simp only [upd, if_true]; rw [e15, mu_k]; simp only [upd]; rw [if_neg (by omega), k7, nI_1]
      refine h1 σ16 ((x6.tr x11).tr x16) (t11.x x16 l7) ?_ ?_ ?_
      · rw [e16, mu_k]; simp only [upd]; rw [if_neg (by omega), e15, mu_k]; simp only [upd]; rw [if_neg (by omega), k8]
      · rw [e16, mu_k]; simp only [upd]; rw [if_neg (by omega), e15, mu_k]; simp [upd]
      · rw [e16, mu_k]; simp only [upd]; rw [if_neg (by omega), e15, mu_k]; simp only [upd]; rw [if_neg (by omega), k10]
def sW (n : Nat) (T : Nat → Int32) : Nat → Int32
  | 0 => 0
  | k + 1 => sW n T k + aW n T k
theorem dg_c {n : Nat} {T : Nat → Int32} {c : Int32} {p : Nat} (hp : p < n) : dg n T c c p = decide (T p = c) := by
  unfold dg
  rw [decide_eq_true hp, Bool.true_and, Bool.eq_iff_iff]
  simp only [Bool.and_eq_true, decide_eq_true_eq]
  rw [fa_le, fa_le, fa_eq]
  omega
theorem m_arr_loop {n : Nat} {T : Nat → Int32} {σ : Mem} {K : Int32 → Mem → Prop} (hn : n ≤ 60) {R : Bool × Nat} (hf : ∀ p σ1, R = (true, p) → XM σ σ1 → σ1 306 7 = nI p → K (-5) σ1) (ho : ∀ m σ1, R = (false, m) → m ≤ 31 → XM σ σ1 → σ1 306 10 = sW n T m → K (nI m) σ1) :
    ∀ d k (σ1 : Mem), d + k = 31 → pS n T k ≤ n → prs n T d k = R → TM n T (pS n T k) σ1 → XM σ σ1 → σ1 306 10 = sW n T k → w_X7_arrivals_14 K (d + 2) (nI k) 1 σ1 := by
  intro d
  induction d with
  | zero =>
    intro k σ1 hk hp
    have := pS_2 (n := n) (T := T) k
    omega
  | succ d ih =>
    intro k σ1 hk hp hR ht hX h10
    have hpk := pS_2 (n := n) (T := T) k
    rw [prs] at hR
    rw [w_X7_arrivals_14]
    refine br_i (fun hc => absurd hc (by decide)) (fun _ => m_takesA hn ht (by omega) (fun hd => ?_) (fun hd σ3 x3 t3 g8 g9 g10 => ?_))
    · rw [if_neg (by rw [hd]; decide)] at hR
      exact ⟨fun _ => hf _ σ1 hR.symm hX ht.2.2, fun q => absurd rfl q⟩
    · rw [if_pos hd] at hR
      have hlt := dg_lt hd
      have hE := wE_2 (n := n) (T := T) (p := pS n T k + 1)
      refine br_i (fun q => absurd q (by decide)) (fun _ => ?_)
      rintro σ5 e5
      have x5 : XM σ3 σ5 := by rw [e5]; exact XM_mu (by omega)
      have g7 : σ5 306 7 = nI (aE n T k) := by rw [e5, mu_k]; simp only [upd]; rw [if_neg (by omega)]; exact t3.2.2
      have t5 : TM n T (aE n T k) σ5 := t3.x x5 g7
      have s5 : σ5 306 10 = sW n T (k + 1) := by rw [e5, mu_k]; simp only [upd, if_true]; rw [g10, h10, g9]; rfl
      have xx := (hX.tr x3).tr x5
      rw [t5.1, g7]
      refine br_i (fun hc => ?_) (fun hc => ?_)
      · have hle : n ≤ aE n T k := (nI_le_iff (by omega) (by unfold aE; omega)).mp hc
        rw [if_pos hle] at hR
        rw [nI_1, w_X7_arrivals_14]
        exact br_i (fun _ => ho (k + 1) σ5 hR.symm (by omega) xx s5) (fun q => absurd rfl q)
      · have hle : ¬ n ≤ aE n T k := fun q => hc ((nI_le_iff (by omega) (by unfold aE; omega)).mpr q)
        rw [if_neg hle] at hR
        refine m_takes hn t5 (by unfold aE; omega) (fun hd2 σ6 x6 t6 _ _ => ?_) (fun hd2 σ6 x6 t6 _ j10 => ?_)
        · rw [dg_c (by omega)] at hd2
          rw [if_neg (of_decide_eq_false hd2)] at hR
          exact ⟨fun _ => hf _ σ6 hR.symm (xx.tr x6) t6.2.2, fun q => absurd rfl q⟩
        · rw [dg_c (by omega)] at hd2
          rw [if_pos (of_decide_eq_true hd2)] at hR
          refine br_i (fun q => absurd q (by decide)) (fun _ => ?_)
          rw [nI_1]
          exact ih (k + 1) σ6 (by omega) (by show aE n T k + 1 ≤ n; omega) hR t6 (xx.tr x6) (by rw [j10]; exact s5)
theorem m_arr {n : Nat} {T : Nat → Int32} {σ : Mem} {K : Int32 → Mem → Prop} (hn : n ≤ 60) (h1 : σ 306 5 = nI n) (h2 : ∀ x, x < n → σ 310 x = T x) (hf : ∀ p σ1, prs n T 31 0 = (true, p) → XM σ σ1 → σ1 306 7 = nI p → K (-5) σ1) (ho : ∀ m σ1, prs n T 31 0 = (false, m) → m ≤ 31 → XM σ σ1 → σ1 306 10 = sW n T m → K (nI m) σ1) : w_X7_arrivals σ K := by
  rintro σ1 e1 σ2 e2
  have x1 : XM σ σ1 := by rw [e1]; exact XM_mu (by omega)
  have x2 : XM σ σ2 := x1.tr (by rw [e2]; exact XM_mu (by omega))
  refine ⟨33, m_arr_loop (σ := σ) hn (R := prs n T 31 0) hf ho 31 0 σ2 rfl (Nat.zero_le _) rfl ⟨by rw [x2.2 _ (by omega)]; exact h1, fun x hx => by rw [x2.1 _ (by omega)]; exact h2 x hx, ?_⟩ x2 ?_⟩
  · rw [e2, mu_k]; simp only [upd]; rw [if_neg (by omega), e1, mu_k]; simp [upd]; rfl
  · rw [e2, mu_k]; simp [upd]; rfl
