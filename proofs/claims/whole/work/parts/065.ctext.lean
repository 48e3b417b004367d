/-! The text: the class reads it. -/
theorem nar_ch {x : Int32} (h : isCh x) : narrow .char (.int x) = .int x := by
  obtain ⟨h0, h1⟩ := h
  have hx : x.toBitVec.toNat < 65536 := by
    have e : x.toInt = x.toBitVec.toInt := rfl
    rw [e, BitVec.toInt_eq_toNat_cond] at h0 h1
    have := x.toBitVec.isLt
    split at h0 <;> split at h1 <;> omega
  have e : x.toUInt32.toUInt16.toUInt32.toInt32 = x := by
    apply Int32.toBitVec_inj.1
    show (x.toBitVec.setWidth 16).setWidth 32 = x.toBitVec
    apply BitVec.eq_of_toNat_eq
    rw [BitVec.toNat_setWidth, BitVec.toNat_setWidth]
    omega
  show Value.int _ = _
  rw [e]
def sgn (n : Nat) (T : Nat → Int32) (p : Nat) : Int32 := if p < n then T p else 0
def dg (n : Nat) (T : Nat → Int32) (lo hi : Int32) (p : Nat) : Bool := decide (p < n) && (decide (lo ≤ T p) && decide (T p ≤ hi))
def okX (n : Nat) (T : Nat → Int32) : Prop := n ≤ 60 ∧ ∀ x, x < n → isCh (T x)
def TC (n : Nat) (T : Nat → Int32) (p : Nat) (σ : Mem) : Prop := σ 302 1 = nI n ∧ (∀ x, x < n → σ 303 x = T x) ∧ σ 302 8 = nI p
def A8 (p : Nat) (σ σ1 : Mem) : Prop := (∀ q, q ≠ 302 → σ1 q = σ q) ∧ (∀ x, x ≠ 8 → σ1 302 x = σ 302 x) ∧ σ1 302 8 = nI p
theorem A8.tr {p r : Nat} {σ σ1 σ2 : Mem} (h : A8 p σ σ1) (h2 : A8 r σ1 σ2) : A8 r σ σ2 := ⟨fun q hq => (h2.1 q hq).trans (h.1 q hq), fun x hx => (h2.2.1 x hx).trans (h.2.1 x hx), h2.2.2⟩
theorem A8_mu {p : Nat} {σ : Mem} (h : σ 302 8 = nI p) : A8 (p + 1) σ (mu σ 302 8 (σ 302 8 + 1)) :=
  ⟨fun q hq => mu_o hq, fun x hx => by rw [mu_k]; simp only [upd, if_neg hx], by rw [mu_k]; simp only [upd, if_true]; rw [h, nI_1]⟩
theorem TC.a8 {n : Nat} {T : Nat → Int32} {p r : Nat} {σ σ1 : Mem} (h : TC n T p σ) (h2 : A8 r σ σ1) : TC n T r σ1 := ⟨by rw [h2.2.1 _ (by omega)]; exact h.1, fun x hx => by rw [h2.1 _ (by omega)]; exact h.2.1 x hx, h2.2.2⟩
theorem c_sign {n : Nat} {T : Nat → Int32} {p : Nat} {σ : Mem} {K : Int32 → Mem → Prop} (hx : okX n T) (ht : TC n T p σ) (hp : p < 2 ^ 31) (h : K (sgn n T p) σ) : w_X4_sign σ K := by
  obtain ⟨t1, t2, t3⟩ := ht
  have := hx.1
  unfold w_X4_sign
  unfold sgn at h
  rw [t1, t3]
  refine br_i (fun hc => ?_) (fun hc => ?_)
  · rw [if_neg (by have := (nI_le_iff (by omega) hp).mp hc; omega)] at h; exact h
  · have hlt : p < n := Nat.not_le.mp (fun q => hc ((nI_le_iff (by omega) hp).mpr q))
    rw [if_pos hlt] at h
    rw [ixn hp, t2 p hlt]
    exact ⟨vi (by omega), nar_ch (hx.2 p hlt), h⟩
theorem dg_s {n : Nat} {T : Nat → Int32} {lo hi : Int32} {p : Nat} (hlo : (0 : Int32) < lo) : dg n T lo hi p = (decide (lo ≤ sgn n T p) && decide (sgn n T p ≤ hi)) := by
  unfold dg sgn
  by_cases hp : p < n
  · rw [if_pos hp, decide_eq_true hp, Bool.true_and]
  · rw [if_neg hp, decide_eq_false hp, decide_eq_false (show ¬ lo ≤ 0 from Int32.not_le.mpr hlo)]; rfl
theorem dg_lt {n : Nat} {T : Nat → Int32} {lo hi : Int32} {p : Nat} (h : dg n T lo hi p = true) : p < n := by
  unfold dg at h
  rw [Bool.and_eq_true, decide_eq_true_eq] at h
  exact h.1
theorem c_isDigit {n : Nat} {T : Nat → Int32} {p : Nat} {σ : Mem} {K : Int32 → Mem → Prop} (hx : okX n T) (ht : TC n T p σ) (hp : p < 2 ^ 31) (h : K (b2 (dg n T 48 57 p)) σ) : w_X4_isDigit σ K := by
  rw [dg_s (by decide)] at h
  refine c_sign hx ht hp (br_i (fun h1 => ?_) (fun h1 => c_sign hx ht hp (br_i (fun h2 => ?_) (fun h2 => ?_))))
  · rw [decide_eq_false (show ¬ 48 ≤ sgn n T p from Int32.not_le.mpr h1)] at h; exact h
  · rw [decide_eq_true (show 48 ≤ sgn n T p from Int32.not_lt.mp h1), decide_eq_false (show ¬ sgn n T p ≤ 57 from Int32.not_le.mpr h2)] at h; exact h
  · rw [decide_eq_true (show 48 ≤ sgn n T p from Int32.not_lt.mp h1), decide_eq_true (show sgn n T p ≤ 57 from Int32.not_lt.mp h2)] at h; exact h
theorem c_takeDigit {n : Nat} {T : Nat → Int32} {p : Nat} {σ : Mem} {K : Int32 → Mem → Prop} (hx : okX n T) (ht : TC n T p σ) (hp : p < n) (h : ∀ σ1, A8 (p + 1) σ σ1 → K (T p - 48) σ1) : w_X4_takeDigit σ K := by
  have := hx.1
  refine c_sign hx ht (by omega) ?_
  rintro v rfl σ4 rfl
  unfold sgn
  rw [if_pos hp]
  exact h _ (A8_mu ht.2.2)
def nE (n : Nat) (T : Nat → Int32) (p : Nat) : Int32 × Nat := if T p - 48 = 0 then (T p - 48, p + 1) else if dg n T 48 57 (p + 1) = true then ((T p - 48) * 10 + (T (p + 1) - 48), p + 2) else (T p - 48, p + 1)
def wE (n : Nat) (T : Nat → Int32) (p : Nat) : Int32 × Nat := if dg n T 49 57 p = true then nE n T p else (1, p)
theorem c_readNumber {n : Nat} {T : Nat → Int32} {p : Nat} {σ : Mem} {K : Int32 → Mem → Prop} (hx : okX n T) (ht : TC n T p σ) (hp : p < n) (h : ∀ σ1, A8 (nE n T p).2 σ σ1 → K (nE n T p).1 σ1) : w_X4_readNumber σ K := by
  have := hx.1
  unfold nE at h
  refine c_takeDigit hx ht hp (fun σ1 h1 => br_i (fun hz => ?_) (fun hz => ?_))
  · rw [if_pos hz] at h; exact h σ1 h1
  · rw [if_neg hz] at h
    refine c_isDigit hx (ht.a8 h1) (by omega) (br_b (fun hd => ?_) (fun hd => ?_))
    · rw [if_neg (by rw [hd]; decide)] at h; exact h σ1 h1
    · rw [if_pos hd] at h
      refine c_takeDigit hx (ht.a8 h1) (dg_lt hd) (fun σ2 h2 => ?_)
      rintro v rfl
      exact h σ2 (h1.tr h2)
theorem dg_48 {n : Nat} {T : Nat → Int32} {p : Nat} : dg n T 49 57 p = (dg n T 48 57 p && !decide (T p = 48)) := by
  unfold dg
  have e : decide (49 ≤ T p) = (decide (48 ≤ T p) && !decide (T p = 48)) := by
    have a : (49 : Int32).toInt = 49 := by decide
    have b : (48 : Int32).toInt = 48 := by decide
    rw [Bool.eq_iff_iff]
    simp only [Bool.and_eq_true, decide_eq_true_eq, Bool.not_eq_true', decide_eq_false_iff_not]
    rw [fa_le, fa_le, fa_eq, a, b]
    omega
  rw [e]
  cases decide (p < n) <;> cases decide (48 ≤ T p) <;> cases decide (T p = 48) <;> cases decide (T p ≤ 57) <;> rfl
theorem c_readWeight {n : Nat} {T : Nat → Int32} {p : Nat} {σ : Mem} {K : Int32 → Mem → Prop} (hx : okX n T) (ht : TC n T p σ) (hp : p < 2 ^ 31) (h : ∀ σ1, A8 (wE n T p).2 σ σ1 → K (wE n T p).1 σ1) : w_X4_readWeight σ K := by
  unfold wE at h
  rw [dg_48] at h
  have rf : A8 p σ σ := ⟨fun _ _ => rfl, fun _ _ => rfl, ht.2.2⟩
  refine c_isDigit hx ht hp (br_b (fun hd => ?_) (fun hd => c_sign hx ht hp (br_i (fun hz => ?_) (fun hz => c_readNumber hx ht (dg_lt hd) (fun σ1 h1 => ?_)))))
  · rw [hd] at h; exact h σ rf
  · unfold sgn at hz
    rw [if_pos (dg_lt hd)] at hz
    rw [hd, decide_eq_true hz] at h; exact h σ rf
  · unfold sgn at hz
    rw [if_pos (dg_lt hd)] at hz
    rw [hd, decide_eq_false hz] at h; exact h σ1 h1
/-! arrivals -/
def pS (n : Nat) (T : Nat → Int32) : Nat → Nat
  | 0 => 0
  | k + 1 => (wE n T (pS n T k + 1)).2 + 1
def aL (n : Nat) (T : Nat → Int32) (k : Nat) : Int32 := T (pS n T k) - 97
def aW (n : Nat) (T : Nat → Int32) (k : Nat) : Int32 := (wE n T (pS n T k + 1)).1
def aE (n : Nat) (T : Nat → Int32) (k : Nat) : Nat := (wE n T (pS n T k + 1)).2
theorem wE_2 {n : Nat} {T : Nat → Int32} {p : Nat} : p ≤ (wE n T p).2 ∧ (wE n T p).2 ≤ p + 2 := by
  unfold wE nE
  split
  · split
    · exact ⟨by omega, by omega⟩
    · split <;> exact ⟨by omega, by omega⟩
  · exact ⟨by omega, by omega⟩
theorem pS_2 {n : Nat} {T : Nat → Int32} : ∀ k, 2 * k ≤ pS n T k ∧ pS n T k ≤ 4 * k
  | 0 => ⟨Nat.le_refl _, Nat.le_refl _⟩
  | k + 1 => by
    have := pS_2 (n := n) (T := T) k
    have := wE_2 (n := n) (T := T) (p := pS n T k + 1)
    show 2 * (k + 1) ≤ (wE n T (pS n T k + 1)).2 + 1 ∧ (wE n T (pS n T k + 1)).2 + 1 ≤ 4 * (k + 1)
    omega
/-- (true, the place of the fault) or (false, how many) -/
def prs (n : Nat) (T : Nat → Int32) : Nat → Nat → Bool × Nat
  | 0, _ => (true, 0)
  | d + 1, k => if dg n T 97 122 (pS n T k) = true then (if n ≤ aE n T k then (false, k + 1) else if T (aE n T k) = 44 then prs n T d (k + 1) else (true, aE n T k)) else (true, pS n T k)
def XC (σ σ1 : Mem) : Prop := (∀ q, q ≠ 302 → q ≠ 304 → q ≠ 305 → σ1 q = σ q) ∧ σ1 302 1 = σ 302 1
theorem c_arr_loop {n : Nat} {T : Nat → Int32} {σ : Mem} {K : Int32 → Mem → Prop} (hx : okX n T) {R : Bool × Nat} (hf : ∀ p σ1, R = (true, p) → XC σ σ1 → K (nI p) σ1) (ho : ∀ m σ1, R = (false, m) → m ≤ 31 → XC σ σ1 → σ1 302 4 = nI m → (∀ j, j < m → σ1 304 j = aL n T j ∧ σ1 305 j = aW n T j ∧ dg n T 97 122 (pS n T j) = true) → K (-1) σ1) :
    ∀ d k (σ1 : Mem), d + k = 31 → pS n T k ≤ n → prs n T d k = R → TC n T (pS n T k) σ1 → XC σ σ1 → σ1 302 4 = nI k → (∀ j, j < k → σ1 304 j = aL n T j ∧ σ1 305 j = aW n T j ∧ dg n T 97 122 (pS n T j) = true) → w_X4_readArrivals_14 K (d + 2) 1 (nI k) σ1 := by
  have hn := hx.1
  intro d
  induction d with
  | zero =>
    intro k σ1 hk hp
    have := pS_2 (n := n) (T := T) k
    omega
  | succ d ih =>
    intro k σ1 hk hp hR ht hX h4 hj
    have hpk := pS_2 (n := n) (T := T) k
    rw [prs] at hR
    rw [w_X4_readArrivals_14]
    refine br_i (fun hc => absurd hc (nI_ge (b := 60) (by omega) (by omega))) (fun _ => br_i (fun hc => absurd hc (by decide)) (fun _ => c_sign hx ht (by omega) (c_lIx (br_lx (fun hl => ?_) (fun hl => ?_)))))
    · have hd : dg n T 97 122 (pS n T k) = false := by rw [dg_s (by decide)]; exact hl
      rw [if_neg (by rw [hd]; decide)] at hR
      rw [ht.2.2]
      exact hf _ σ1 hR.symm hX
    · have hd : dg n T 97 122 (pS n T k) = true := by rw [dg_s (by decide)]; exact hl
      rw [if_pos hd] at hR
      have hlt := dg_lt hd
      rintro σ7 e7
      refine ⟨vi (by omega), ?_⟩
      rw [ixn (show k < 2 ^ 31 by omega), lx_t hl]
      have esg : sgn n T (pS n T k) = T (pS n T k) := if_pos hlt
      rw [esg]
      rintro σ9 e9
      have a7 : A8 (pS n T k + 1) σ1 σ7 := by rw [e7]; exact A8_mu ht.2.2
      have t7 := ht.a8 a7
      have t9 : TC n T (pS n T k + 1) σ9 := ⟨by rw [e9, mu_o (by omega)]; exact t7.1, fun x hx => by rw [e9, mu_o (by omega)]; exact t7.2.1 x hx, by rw [e9, mu_o (by omega)]; exact t7.2.2⟩
      refine c_readWeight hx t9 (by omega) (fun σ10 a10 => ⟨vi (by omega), ?_⟩)
      rintro σ13 e13 σ14 e14
      have hE := wE_2 (n := n) (T := T) (p := pS n T k + 1)
      have t10 := t9.a8 a10
      have hX14 : XC σ σ14 := by
        refine ⟨fun q q1 q2 q3 => ?_, ?_⟩
        · rw [e14, mu_o q1, e13, mu_o q3, a10.1 q q1, e9, mu_o q2, a7.1 q q1, hX.1 q q1 q2 q3]
        · rw [e14, mu_k]; simp only [upd]; rw [if_neg (by omega), e13, mu_o (by omega), a10.2.1 _ (by omega), e9, mu_o (by omega), a7.2.1 _ (by omega), hX.2]
      have t14 : TC n T (aE n T k) σ14 := by
        refine ⟨?_, fun x hx => ?_, ?_⟩
        · rw [e14, mu_k]; simp only [upd]; rw [if_neg (by omega), e13, mu_o (by omega)]; exact t10.1
        · rw [e14, mu_o (by omega), e13, mu_o (by omega)]; exact t10.2.1 x hx
        · rw [e14, mu_k]; simp only [upd]; rw [if_neg (by omega), e13, mu_o (by omega)]; exact t10.2.2
      have c14 : σ14 302 4 = nI (k + 1) := by
        rw [e14, mu_k]; simp only [upd, if_true]
        rw [e13, mu_o (by omega), a10.2.1 _ (by omega), e9, mu_o (by omega), a7.2.1 _ (by omega), h4, nI_1]
      have j14 : ∀ j, j < k + 1 → σ14 304 j = aL n T j ∧ σ14 305 j = aW n T j ∧ dg n T 97 122 (pS n T j) = true := by
        intro j hjk
        have f4 : σ14 304 j = upd (σ1 304) k (T (pS n T k) - 97) j := by
          rw [e14, mu_o (by omega), e13, mu_o (by omega), a10.1 _ (by omega), e9, mu_k, a7.1 _ (by omega)]
        have f5 : σ14 305 j = upd (σ1 305) k (wE n T (pS n T k + 1)).1 j := by
          rw [e14, mu_o (by omega), e13, mu_k, a10.1 _ (by omega), e9, mu_o (by omega), a7.1 _ (by omega)]
        rw [f4, f5]
        by_cases hjk2 : j = k
        · subst hjk2
          simp only [upd, if_true]
          exact ⟨rfl, rfl, hd⟩
        · simp only [upd, if_neg hjk2]
          exact hj j (by omega)
      rw [t14.1, t14.2.2]
      refine br_i (fun hc => ?_) (fun hc => ?_)
      · have hle : n ≤ aE n T k := (nI_le_iff (by omega) (by unfold aE; omega)).mp hc
        rw [if_pos hle] at hR
        unfold w_X4_readArrivals_95
        refine br_i (fun _ => ?_) (fun q => absurd rfl q)
        rw [nI_1, w_X4_readArrivals_14]
        have fin := ho (k + 1) σ14 hR.symm (by omega) hX14 c14 j14
        exact br_i (fun _ => fin) (fun _ => br_i (fun _ => fin) (fun q => absurd rfl q))
      · have hle : ¬ n ≤ aE n T k := fun q => hc ((nI_le_iff (by omega) (by unfold aE; omega)).mpr q)
        rw [if_neg hle] at hR
        unfold w_X4_readArrivals_95
        refine br_i (fun q => absurd q (by decide)) (fun _ => c_sign hx t14 (by omega) ?_)
        have esg : sgn n T (aE n T k) = T (aE n T k) := if_pos (by omega)
        rw [esg]
        refine br_i (fun hq => ?_) (fun hq => ?_)
        · rw [if_pos hq] at hR
          rintro σ17 e17
          have a17 : A8 (aE n T k + 1) σ14 σ17 := by rw [e17]; exact A8_mu t14.2.2
          rw [nI_1]
          refine ih (k + 1) σ17 (by omega) (by show aE n T k + 1 ≤ n; omega) hR (t14.a8 a17) ⟨fun q q1 q2 q3 => by rw [a17.1 q q1]; exact hX14.1 q q1 q2 q3, by rw [a17.2.1 _ (by omega)]; exact hX14.2⟩ (by rw [a17.2.1 _ (by omega)]; exact c14) (fun j hj2 => by rw [a17.1 _ (by omega), a17.1 _ (by omega)]; exact j14 j hj2)
        · rw [if_neg hq] at hR
          rw [t14.2.2]
          exact hf _ σ14 hR.symm hX14
theorem c_arr {n : Nat} {T : Nat → Int32} {σ : Mem} {K : Int32 → Mem → Prop} (hx : okX n T) (h1 : σ 302 1 = nI n) (h2 : ∀ x, x < n → σ 303 x = T x) (hf : ∀ p σ1, prs n T 31 0 = (true, p) → XC σ σ1 → K (nI p) σ1) (ho : ∀ m σ1, prs n T 31 0 = (false, m) → m ≤ 31 → XC σ σ1 → σ1 302 4 = nI m → (∀ j, j < m → σ1 304 j = aL n T j ∧ σ1 305 j = aW n T j ∧ dg n T 97 122 (pS n T j) = true) → K (-1) σ1) : w_X4_readArrivals σ K := by
  rintro σ1 e1 σ2 e2
  refine ⟨33, c_arr_loop (σ := σ) hx (R := prs n T 31 0) hf ho 31 0 σ2 rfl (Nat.zero_le _) rfl ⟨?_, fun x hx => ?_, ?_⟩ ⟨fun q q1 _ _ => by rw [e2, mu_o q1, e1, mu_o q1], ?_⟩ ?_ (fun j hj => absurd hj (Nat.not_lt_zero j))⟩
  · rw [e2, mu_k]; simp only [upd]; rw [if_neg (by omega), e1, mu_k]; simp only [upd]; rw [if_neg (by omega)]; exact h1
  · rw [e2, mu_o (by omega), e1, mu_o (by omega)]; exact h2 x hx
  · rw [e2, mu_k]; simp only [upd]; rw [if_neg (by omega), e1, mu_k]; simp [upd]; rfl
  · rw [e2, mu_k]; simp only [upd]; rw [if_neg (by omega), e1, mu_k]; simp only [upd]; rw [if_neg (by omega)]
  · rw [e2, mu_k]; simp [upd]; rfl
