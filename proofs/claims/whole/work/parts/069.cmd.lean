/-! Commands. -/
def wq (n : Nat) (T : Nat → Int32) : Nat → Nat → Nat
  | 0, p => p
  | d + 1, p => if dg n T 97 122 p = true then wq n T d (p + 1) else p
theorem wq_le {n : Nat} {T : Nat → Int32} : ∀ d p, p ≤ n → p ≤ wq n T d p ∧ wq n T d p ≤ n := by
  intro d
  induction d with
  | zero => intro p hp; exact ⟨Nat.le_refl _, hp⟩
  | succ d ih =>
    intro p hp
    rw [wq]
    split
    · rename_i hd
      have := dg_lt hd
      have := ih (p + 1) (by omega)
      omega
    · exact ⟨Nat.le_refl _, hp⟩
def mt (T : Nat → Int32) (w : Nat) : Nat → Bool
  | 0 => true
  | k + 1 => mt T w k && decide (T k = (bS.getD w []).getD k 0)
def bw (T : Nat → Int32) (w e : Nat) : Bool := decide (lS.getD w 0 = e) && mt T w (lS.getD w 0)
theorem mt_f {T : Nat → Int32} {w k : Nat} (h : mt T w k = false) : ∀ d, mt T w (k + d) = false := by
  intro d
  induction d with
  | zero => exact h
  | succ d ih => show (mt T w (k + d) && _) = false; rw [ih]; rfl
theorem c_bw_loop {n e w : Nat} {T : Nat → Int32} {σ : Mem} {K : Int32 → Mem → Prop} (hn : n ≤ 60) (he : e ≤ n) (hl : lS.getD w 0 = e) (h2 : ∀ x, x < n → σ 303 x = T x) (h : K (b2 (mt T w e)) σ) : ∀ d k, k + d = e → w_X4_beginsWith_25 w (nI e) K (d + 1) (b2 (mt T w k)) (nI k) σ := by
  intro d
  induction d with
  | zero =>
    intro k hk
    rw [w_X4_beginsWith_25]
    obtain rfl : k = e := by omega
    exact br_i (fun _ => ⟨nar_b2, h⟩) (fun hc => absurd (nI_le (Nat.le_refl _) (by omega)) hc)
  | succ d ih =>
    intro k hk
    rw [w_X4_beginsWith_25]
    refine br_i (fun hc => absurd hc (nI_ge (by omega) (by omega))) (fun _ => br_b (fun hm => ?_) (fun hm => ⟨vi (by omega), ?_⟩))
    · have := mt_f hm (d + 1)
      rw [hk] at this
      rw [this] at h
      rw [hm]
      exact ⟨nar_b2, h⟩
    · rw [nI_1]
      refine ⟨by rw [hl]; exact vi (by omega) (by omega), ?_⟩
      rw [ixn (show k < 2 ^ 31 by omega), h2 k (by omega)]
      have hn2 := ih (k + 1) (by omega)
      rw [mt, hm, Bool.true_and] at hn2
      refine br_i (fun hq => ?_) (fun hq => ?_)
      · rw [decide_eq_true hq] at hn2; exact hn2
      · rw [decide_eq_false hq] at hn2; exact hn2
theorem c_bw {n e w : Nat} {T : Nat → Int32} {σ : Mem} {K : Int32 → Mem → Prop} (hn : n ≤ 60) (he : e ≤ n) (hw : lS.getD w 0 < 2 ^ 31) (h1 : σ 302 1 = nI n) (h2 : ∀ x, x < n → σ 303 x = T x) (h : K (b2 (bw T w e)) σ) : w_X4_beginsWith w (nI e) σ K := by
  unfold w_X4_beginsWith w_J0_length_8abf5
  unfold bw at h
  have h0 : b2 false = 0 := rfl
  refine br_i (fun hl => br_i (fun hc => ?_) (fun _ => ?_)) (fun hl => ⟨1, ?_⟩)
  · rw [h1] at hc
    exact absurd ((nI_ltI (by omega) (by omega)).mp hc) (by omega)
  · have hle : lS.getD w 0 = e := (nI_eq hw (by omega)).mp hl
    rw [decide_eq_true hle, Bool.true_and, hle] at h
    exact ⟨e + 1, c_bw_loop hn he hle h2 h e 0 (by omega)⟩
  · have hle : ¬ lS.getD w 0 = e := fun q => hl (by rw [q])
    rw [decide_eq_false hle, Bool.false_and] at h
    rw [w_X4_beginsWith_25]
    exact br_i (fun _ => ⟨nar_b2 (b := false), h⟩) (fun _ => br_i (fun _ => ⟨nar_b2 (b := false), h⟩) (fun q => absurd rfl q))
def wk (T : Nat → Int32) (e : Nat) : Nat := if bw T 0 e then 1 else if bw T 1 e then 2 else if bw T 2 e then 3 else if bw T 3 e then 4 else 0
theorem c_word {n e : Nat} {T : Nat → Int32} {σ : Mem} {K : Int32 → Mem → Prop} (hn : n ≤ 60) (he : e ≤ n) (h1 : σ 302 1 = nI n) (h2 : ∀ x, x < n → σ 303 x = T x) (h : K (nI (wk T e)) σ) : w_X4_wordBefore (nI e) σ K := by
  unfold w_X4_wordBefore
  unfold wk at h
  refine c_bw hn he (by decide) h1 h2 (br_b (fun c0 => c_bw hn he (by decide) h1 h2 (br_b (fun c1 => c_bw hn he (by decide) h1 h2 (br_b (fun c2 => c_bw hn he (by decide) h1 h2 (br_b (fun c3 => ?_) (fun c3 => ?_))) (fun c2 => ?_))) (fun c1 => ?_))) (fun c0 => ?_))
  · rw [c0, c1, c2, c3] at h; exact h
  · rw [c0, c1, c2, c3] at h; exact h
  · rw [c0, c1, c2] at h; exact h
  · rw [c0, c1] at h; exact h
  · rw [c0] at h; exact h
/-- a blank and a number: (whether, the number, the place behind) -/
def arg (n : Nat) (T : Nat → Int32) (p : Nat) : Bool × Int32 × Nat := if dg n T 32 32 p = true then (if dg n T 48 57 (p + 1) = true then (true, nE n T (p + 1)) else (false, -1, p + 1)) else (false, -1, p)
theorem nE_n {n : Nat} {T : Nat → Int32} {p : Nat} (h : dg n T 48 57 p = true) : (∃ a : Nat, a ≤ 99 ∧ (nE n T p).1 = nI a) ∧ (nE n T p).2 ≤ p + 2 := by
  obtain ⟨a, a1, a2, a3⟩ := dig_n h
  unfold nE
  split
  · exact ⟨⟨a, by omega, a2⟩, by omega⟩
  · split
    · rename_i h2
      obtain ⟨b, b1, b2, -⟩ := dig_n h2
      refine ⟨⟨a * 10 + b, by omega, ?_⟩, Nat.le_refl _⟩
      dsimp only
      rw [a2, b2, show (10 : Int32) = nI 10 from rfl, pk_mul, nI_add]
    · exact ⟨⟨a, by omega, a2⟩, by omega⟩
theorem arg_n {n : Nat} {T : Nat → Int32} {p : Nat} : (arg n T p).2.2 ≤ p + 3 ∧ ((arg n T p).1 = true → ∃ a : Nat, a ≤ 99 ∧ (arg n T p).2.1 = nI a) ∧ ((arg n T p).1 = false → (arg n T p).2.1 = -1) := by
  unfold arg
  split
  · split
    · rename_i h2
      obtain ⟨x, y⟩ := nE_n h2
      exact ⟨by show (nE n T (p + 1)).2 ≤ p + 3; omega, fun _ => x, fun q => by cases q⟩
    · exact ⟨by show p + 1 ≤ p + 3; omega, fun q => (by cases q), fun _ => rfl⟩
  · exact ⟨by show p ≤ p + 3; omega, fun q => (by cases q), fun _ => rfl⟩
theorem c_argm {n p : Nat} {T : Nat → Int32} {σ : Mem} {K : Int32 → Mem → Prop} (hx : okX n T) (ht : TC n T p σ) (hp : p < 2 ^ 30) (h : ∀ σ1, A8 (arg n T p).2.2 σ σ1 → K (arg n T p).2.1 σ1) : w_X4_readArgument σ K := by
  unfold w_X4_readArgument
  unfold arg at h
  have e32 : sgn n T p = 32 ↔ dg n T 32 32 p = true := by
    rw [dg_s (by decide), Bool.and_eq_true, decide_eq_true_eq, decide_eq_true_eq, fa_eq, fa_le, fa_le]
    omega
  refine c_sign hx ht (by omega) (br_i (fun hc => ?_) (fun hc => ?_))
  · rw [if_pos (e32.mp hc)] at h
    rintro σ3 rfl
    have a3 := A8_mu (σ := σ) ht.2.2
    refine c_isDigit hx (ht.a8 a3) (by omega) (br_b (fun hd => ?_) (fun hd => c_readNumber hx (ht.a8 a3) (dg_lt hd) (fun σ6 a6 => ?_)))
    · rw [if_neg (by rw [hd]; decide)] at h; exact h _ a3
    · rw [if_pos hd] at h; exact h _ (a3.tr a6)
  · rw [if_neg (fun q => hc (e32.mpr q))] at h
    exact h σ ⟨fun _ _ => rfl, fun _ _ => rfl, ht.2.2⟩
def cmd (n : Nat) (T : Nat → Int32) : Nat ⊕ (Nat × Int32 × Int32) :=
  if wk T (wq n T 60 0) = 0 then .inl 0
  else if (arg n T (wq n T 60 0)).1 = true then
    (if wk T (wq n T 60 0) = 4 then (if n ≤ (arg n T (wq n T 60 0)).2.2 then .inr (4, (arg n T (wq n T 60 0)).2.1, 0) else .inl (arg n T (wq n T 60 0)).2.2)
     else if (arg n T (arg n T (wq n T 60 0)).2.2).1 = true then (if n ≤ (arg n T (arg n T (wq n T 60 0)).2.2).2.2 then .inr (wk T (wq n T 60 0), (arg n T (wq n T 60 0)).2.1, (arg n T (arg n T (wq n T 60 0)).2.2).2.1) else .inl (arg n T (arg n T (wq n T 60 0)).2.2).2.2)
     else .inl (arg n T (arg n T (wq n T 60 0)).2.2).2.2)
  else .inl (arg n T (wq n T 60 0)).2.2
theorem wk_le {T : Nat → Int32} {e : Nat} : wk T e ≤ 4 := by
  unfold wk
  split
  · omega
  · split
    · omega
    · split
      · omega
      · split <;> omega
theorem TC_mu {n p j : Nat} {T : Nat → Int32} {v : Int32} {σ : Mem} (h1 : j ≠ 1) (h8 : j ≠ 8) (ht : TC n T p σ) : TC n T p (mu σ 302 j v) :=
  ⟨by rw [mu_k]; simp only [upd]; rw [if_neg (Ne.symm h1)]; exact ht.1, fun x hx => by rw [mu_o (by omega)]; exact ht.2.1 x hx, by rw [mu_k]; simp only [upd]; rw [if_neg (Ne.symm h8)]; exact ht.2.2⟩
theorem XC_mu {j : Nat} {v : Int32} {σ σ1 : Mem} (h1 : j ≠ 1) (hX : XC σ σ1) : XC σ (mu σ1 302 j v) := ⟨fun q a b c => by rw [mu_o a]; exact hX.1 q a b c, by rw [mu_k]; simp only [upd]; rw [if_neg (Ne.symm h1)]; exact hX.2⟩
theorem XC_a8 {p : Nat} {σ σ1 σ2 : Mem} (hX : XC σ σ1) (h : A8 p σ1 σ2) : XC σ σ2 := ⟨fun q a b c => by rw [h.1 q a]; exact hX.1 q a b c, by rw [h.2.1 _ (by omega)]; exact hX.2⟩
theorem n99 {a : Nat} (h : a ≤ 99) : ¬ nI a = -1 := enc_some (l := a) (by omega)
theorem c_cmd40 {n : Nat} {T : Nat → Int32} {σ σ1 : Mem} {K : Int32 → Mem → Prop} (hx : okX n T) (ht : TC n T (wq n T 60 0) σ1) (hX : XC σ σ1) (hf : ∀ p σ1, cmd n T = .inl p → p ≤ 70 → XC σ σ1 → K (nI p) σ1) (ho : ∀ w r1 r2 σ1, cmd n T = .inr (w, r1, r2) → XC σ σ1 → σ1 302 5 = nI w → σ1 302 6 = r1 → (w ≠ 4 → σ1 302 7 = r2) → K (-1) σ1) : w_X4_readCommand_40 K σ1 := by
  have hn := hx.1
  have hq := wq_le (n := n) (T := T) 60 0 (Nat.zero_le _)
  unfold w_X4_readCommand_40
  rw [ht.2.2]
  unfold cmd at hf ho
  generalize he : wq n T 60 0 = e at hf ho ht hq
  have hw4 := wk_le (T := T) (e := e)
  refine c_word hn hq.2 ht.1 ht.2.1 ?_
  rintro σ4 rfl
  have t4 : TC n T e (mu σ1 302 5 (nI (wk T e))) := TC_mu (by omega) (by omega) ht
  have x4 : XC σ (mu σ1 302 5 (nI (wk T e))) := XC_mu (by omega) hX
  have g5 : mu σ1 302 5 (nI (wk T e)) 302 5 = nI (wk T e) := by rw [mu_k]; simp [upd]
  generalize mu σ1 302 5 (nI (wk T e)) = σ4 at t4 x4 g5
  rw [g5]
  obtain ⟨n1, n2, n3⟩ := arg_n (n := n) (T := T) (p := e)
  obtain ⟨k1, k2, k3⟩ := arg_n (n := n) (T := T) (p := (arg n T e).2.2)
  refine br_i (fun h0 => ?_) (fun h0 => c_argm hx t4 (by omega) (fun σ5 a5 => ?_))
  · have : wk T e = 0 := (nI_eq (by omega) (by omega)).mp h0
    exact hf 0 σ4 (by rw [if_pos this]) (by omega) x4
  · have hk0 : ¬ wk T e = 0 := fun q => h0 (by rw [q]; rfl)
    rw [if_neg hk0] at hf ho
    rintro σ7 rfl
    have t7 : TC n T (arg n T e).2.2 (mu σ5 302 6 (arg n T e).2.1) := TC_mu (by omega) (by omega) (t4.a8 a5)
    have x7 : XC σ (mu σ5 302 6 (arg n T e).2.1) := XC_mu (by omega) (XC_a8 x4 a5)
    have g6 : mu σ5 302 6 (arg n T e).2.1 302 6 = (arg n T e).2.1 := by rw [mu_k]; simp [upd]
    have g75 : mu σ5 302 6 (arg n T e).2.1 302 5 = nI (wk T e) := by rw [mu_k]; simp only [upd]; rw [if_neg (by omega), a5.2.1 _ (by omega), g5]
    generalize mu σ5 302 6 (arg n T e).2.1 = σ7 at t7 x7 g6 g75
    rw [g6, g75, t7.2.2, t7.1]
    refine br_i (fun h1 => ?_) (fun h1 => br_i (fun h2 => br_i (fun h3 => ?_) (fun h3 => ?_)) (fun h2 => c_argm hx t7 (by omega) (fun σ8 a8 => ?_)))
    · have hb : ¬ (arg n T e).1 = true := fun q => by obtain ⟨a, a1, a2⟩ := n2 q; rw [a2] at h1; exact n99 a1 h1
      rw [if_neg hb] at hf
      exact hf _ σ7 rfl (by omega) x7
    · have hb : (arg n T e).1 = true := by
        cases hbb : (arg n T e).1
        · exact absurd (n3 hbb) h1
        · rfl
      have hw : wk T e = 4 := (nI_eq (by omega) (by omega)).mp h2
      rw [if_pos hb, if_pos hw, if_pos ((nI_le_iff (by omega) (by omega)).mp h3)] at ho
      exact ho _ _ _ σ7 rfl x7 (by rw [g75, hw]) g6 (fun q => absurd rfl q)
    · have hb : (arg n T e).1 = true := by
        cases hbb : (arg n T e).1
        · exact absurd (n3 hbb) h1
        · rfl
      have hw : wk T e = 4 := (nI_eq (by omega) (by omega)).mp h2
      rw [if_pos hb, if_pos hw, if_neg (fun q => h3 ((nI_le_iff (by omega) (by omega)).mpr q))] at hf
      exact hf _ σ7 rfl (by omega) x7
    · have hb : (arg n T e).1 = true := by
        cases hbb : (arg n T e).1
        · exact absurd (n3 hbb) h1
        · rfl
      have hw : ¬ wk T e = 4 := fun q => h2 (by rw [q]; rfl)
      rw [if_pos hb, if_neg hw] at hf ho
      rintro σ10 rfl
      have t10 : TC n T (arg n T (arg n T e).2.2).2.2 (mu σ8 302 7 (arg n T (arg n T e).2.2).2.1) := TC_mu (by omega) (by omega) (t7.a8 a8)
      have x10 : XC σ (mu σ8 302 7 (arg n T (arg n T e).2.2).2.1) := XC_mu (by omega) (XC_a8 x7 a8)
      have g7 : mu σ8 302 7 (arg n T (arg n T e).2.2).2.1 302 7 = (arg n T (arg n T e).2.2).2.1 := by rw [mu_k]; simp [upd]
      have g105 : mu σ8 302 7 (arg n T (arg n T e).2.2).2.1 302 5 = nI (wk T e) := by rw [mu_k]; simp only [upd]; rw [if_neg (by omega), a8.2.1 _ (by omega), g75]
      have g106 : mu σ8 302 7 (arg n T (arg n T e).2.2).2.1 302 6 = (arg n T e).2.1 := by rw [mu_k]; simp only [upd]; rw [if_neg (by omega), a8.2.1 _ (by omega), g6]
      generalize mu σ8 302 7 (arg n T (arg n T e).2.2).2.1 = σ10 at t10 x10 g7 g105 g106
      rw [g7, t10.2.2, t10.1]
      refine br_i (fun h4 => ?_) (fun h4 => ?_)
      · have hb2 : ¬ (arg n T (arg n T e).2.2).1 = true := fun q => by obtain ⟨a, a1, a2⟩ := k2 q; rw [a2] at h4; exact n99 a1 h4
        rw [if_neg hb2] at hf
        exact hf _ σ10 rfl (by omega) x10
      · have hb2 : (arg n T (arg n T e).2.2).1 = true := by
          cases hbb : (arg n T (arg n T e).2.2).1
          · exact absurd (k3 hbb) h4
          · rfl
        rw [if_pos hb2] at hf ho
        refine br_i (fun h5 => ?_) (fun h5 => ?_)
        · rw [if_pos ((nI_le_iff (by omega) (by omega)).mp h5)] at ho
          exact ho _ _ _ σ10 rfl x10 g105 g106 (fun _ => g7)
        · rw [if_neg (fun q => h5 ((nI_le_iff (by omega) (by omega)).mpr q))] at hf
          exact hf _ σ10 rfl (by omega) x10
theorem c_cmd {n : Nat} {T : Nat → Int32} {σ : Mem} {K : Int32 → Mem → Prop} (hx : okX n T) (h1 : σ 302 1 = nI n) (h2 : ∀ x, x < n → σ 303 x = T x) (hf : ∀ p σ1, cmd n T = .inl p → p ≤ 70 → XC σ σ1 → K (nI p) σ1) (ho : ∀ w r1 r2 σ1, cmd n T = .inr (w, r1, r2) → XC σ σ1 → σ1 302 5 = nI w → σ1 302 6 = r1 → (w ≠ 4 → σ1 302 7 = r2) → K (-1) σ1) : w_X4_readCommand σ K := by
  have hn := hx.1
  have loop : ∀ d k (σ1 : Mem), d + k = 60 → k ≤ n → wq n T d k = wq n T 60 0 → TC n T k σ1 → XC σ σ1 → w_X4_readCommand_7 K (d + 1) (nI k) σ1 := by
    intro d
    induction d with
    | zero =>
      intro k σ1 hk hkn he ht hX
      rw [w_X4_readCommand_7]
      obtain rfl : k = 60 := by omega
      refine br_i (fun _ => c_cmd40 hx (by rw [← he]; exact ht) hX hf ho) (fun hc => absurd (nI_le (a := 60) (Nat.le_refl _) (by omega)) hc)
    | succ d ih =>
      intro k σ1 hk hkn he ht hX
      rw [w_X4_readCommand_7]
      rw [wq] at he
      refine br_i (fun hc => absurd hc (nI_ge (b := 60) (by omega) (by omega))) (fun _ => c_sign hx ht (by omega) (c_lIx (br_lx (fun hl => ?_) (fun hl => ?_))))
      · have hd : dg n T 97 122 k = false := by rw [dg_s (by decide)]; exact hl
        rw [if_neg (by rw [hd]; decide)] at he
        exact c_cmd40 hx (by rw [← he]; exact ht) hX hf ho
      · have hd : dg n T 97 122 k = true := by rw [dg_s (by decide)]; exact hl
        rw [if_pos hd] at he
        rintro σ15 rfl
        have a15 := A8_mu (σ := σ1) ht.2.2
        rw [nI_1]
        exact ih (k + 1) _ (by omega) (dg_lt hd) he (ht.a8 a15) (XC_a8 hX a15)
  rintro σ1 rfl
  refine ⟨61, loop 60 0 _ rfl (Nat.zero_le _) rfl ⟨?_, fun x hx => ?_, ?_⟩ (XC_mu (by omega) ⟨fun _ _ _ _ => rfl, rfl⟩)⟩
  · rw [mu_k]; simp only [upd]; rw [if_neg (by omega)]; exact h1
  · rw [mu_o (by omega)]; exact h2 x hx
  · rw [mu_k]; simp [upd]; rfl
