def f_perform (t : ST) : Int32 × ST := match cmd (tT t) (tX t) with
  | .inl q => (-100 - nI q, t)
  | .inr (w, r1, r2) => if w = 1 then f_merge r1 r2 t else if w = 2 then f_copy r1 r2 t else if w = 3 then f_setSize r1 r2 t else f_clear r1 t
theorem cmd_w {n : Nat} {T : Nat → Int32} {w : Nat} {r1 r2 : Int32} (h : cmd n T = .inr (w, r1, r2)) : w ≤ 4 := by
  unfold cmd at h
  have := wk_le (T := T) (e := wq n T 60 0)
  split at h
  · cases h
  · split at h
    · split at h
      · split at h
        · cases h; omega
        · cases h
      · split at h
        · split at h
          · cases h; exact this
          · cases h
        · cases h
    · cases h
theorem c_perform (σ : Mem) (t : ST) (K : Int32 → Mem → Prop) (hc : CR σ t) (ho : okT t) (h : ∀ r t', f_perform t = (r, t') → ∀ σ1, CR σ1 t' → frC σ σ1 → K r σ1) : w_X6_perform σ K := by
  unfold w_X6_perform
  refine c_cmd (okT_X ho) hc.2.2.2.1 hc.2.2.2.2 (fun p σ1 hR hp hX => br_i (fun q => absurd q (enc_some (l := p) (by omega))) (fun _ => h _ t (by unfold f_perform; rw [hR]) σ1 (CR_XC hX hc) (XC_frC hX))) (fun w r1 r2 σ1 hR hX g5 g6 g7 => br_i (fun _ => ?_) (fun q => absurd rfl q))
  have c1 := CR_XC hX hc
  have hw := cmd_w hR
  rw [g5, g6]
  have e : ∀ r t', (if w = 1 then f_merge r1 r2 t else if w = 2 then f_copy r1 r2 t else if w = 3 then f_setSize r1 r2 t else f_clear r1 t) = (r, t') → f_perform t = (r, t') := fun r t' q => by
    unfold f_perform; rw [hR]; exact q
  have nw : ∀ a : Nat, a < 5 → (nI w = nI a ↔ w = a) := fun a ha => nI_eq (by omega) (by omega)
  refine br_i (fun c => ?_) (fun c => br_i (fun d => ?_) (fun d => br_i (fun f => ?_) (fun f => ?_)))
  · have hw1 := (nw 1 (by omega)).mp c
    rw [g7 (by omega)]
    exact c_merge r1 r2 σ1 t K c1 ho (fun r t' q σ2 c2 fr2 => h r t' (e r t' (by rw [if_pos hw1]; exact q)) σ2 c2 ((XC_frC hX).tr fr2))
  · have hw1 : ¬ w = 1 := fun q => c (by rw [q]; rfl)
    have hw2 := (nw 2 (by omega)).mp d
    rw [g7 (by omega)]
    exact c_copy r1 r2 σ1 t K c1 ho (fun r t' q σ2 c2 fr2 => h r t' (e r t' (by rw [if_neg hw1, if_pos hw2]; exact q)) σ2 c2 ((XC_frC hX).tr fr2))
  · have hw1 : ¬ w = 1 := fun q => c (by rw [q]; rfl)
    have hw2 : ¬ w = 2 := fun q => d (by rw [q]; rfl)
    have hw3 := (nw 3 (by omega)).mp f
    rw [g7 (by omega)]
    exact c_setSize r1 r2 σ1 t K c1 ho (fun r t' q σ2 c2 fr2 => h r t' (e r t' (by rw [if_neg hw1, if_neg hw2, if_pos hw3]; exact q)) σ2 c2 ((XC_frC hX).tr fr2))
  · have hw1 : ¬ w = 1 := fun q => c (by rw [q]; rfl)
    have hw2 : ¬ w = 2 := fun q => d (by rw [q]; rfl)
    have hw3 : ¬ w = 3 := fun q => f (by rw [q]; rfl)
    exact c_clear r1 σ1 t K c1 ho (fun r t' q σ2 c2 fr2 => h r t' (e r t' (by rw [if_neg hw1, if_neg hw2, if_neg hw3]; exact q)) σ2 c2 ((XC_frC hX).tr fr2))
theorem ok_perform (t : ST) (ho : okT t) : okT (f_perform t).2 := by
  unfold f_perform
  split
  · exact ho
  · split
    · exact ok_merge _ _ t ho
    · split
      · exact ok_copy _ _ t ho
      · split
        · exact ok_setSize _ _ t ho
        · exact ok_clear _ t ho
/-! the reference -/
def mw (T : Nat → Int32) (a b c d : Int32) (len e : Nat) : Bool := decide (e = len) && (decide (T 0 = a) && (decide (T 1 = b) && (decide (T 2 = c) && decide (T 3 = d))))
theorem m_isW {n e len : Nat} {T : Nat → Int32} {a b c d : Int32} {σ : Mem} {K : Int32 → Mem → Prop} (hn : n ≤ 60) (he : e ≤ n) (hl : 4 ≤ len) (hl2 : len < 10) (ht : TM n T e σ) (h : K (b2 (mw T a b c d len e)) σ) : w_X7_isWord a b c d (nI len) σ K := by
  unfold w_X7_isWord
  rw [ht.2.2]
  unfold mw at h
  refine br_i (fun h0 => ?_) (fun h0 => ?_)
  · have : e = len := (nI_eq (by omega) (by omega)).mp h0
    rw [decide_eq_true this, Bool.true_and] at h
    rw [show ix (0 : Int32) = 0 from rfl, show ix (1 : Int32) = 1 from rfl, show ix (2 : Int32) = 2 from rfl, show ix (3 : Int32) = 3 from rfl, ht.2.1 0 (by omega), ht.2.1 1 (by omega), ht.2.1 2 (by omega), ht.2.1 3 (by omega)]
    refine ⟨vil (i := 0) (by omega), br_i (fun h1 => ⟨vil (i := 1) (by omega), br_i (fun h2 => ⟨vil (i := 2) (by omega), br_i (fun h3 => ⟨vil (i := 3) (by omega), br_i (fun h4 => ?_) (fun h4 => ?_)⟩) (fun h3 => ?_)⟩) (fun h2 => ?_)⟩) (fun h1 => ?_)⟩
    · rw [decide_eq_true h1, decide_eq_true h2, decide_eq_true h3, decide_eq_true h4] at h; exact h
    · rw [decide_eq_true h1, decide_eq_true h2, decide_eq_true h3, decide_eq_false h4] at h; exact h
    · rw [decide_eq_true h1, decide_eq_true h2, decide_eq_false h3] at h; exact h
    · rw [decide_eq_true h1, decide_eq_false h2] at h; exact h
    · rw [decide_eq_false h1] at h; exact h
  · have : ¬ e = len := fun q => h0 (by rw [q])
    rw [decide_eq_false this, Bool.false_and] at h; exact h
theorem bw_0 {T : Nat → Int32} {e : Nat} : bw T 0 e = (mw T 109 101 114 103 5 e && decide (T 4 = 101)) := by
  have : bw T 0 e = (decide (5 = e) && (((((true && decide (T 0 = 109)) && decide (T 1 = 101)) && decide (T 2 = 114)) && decide (T 3 = 103)) && decide (T 4 = 101))) := rfl
  rw [this]
  unfold mw
  simp only [eq_comm (a := e), Bool.true_and, Bool.and_assoc]
theorem bw_3 {T : Nat → Int32} {e : Nat} : bw T 3 e = (mw T 99 108 101 97 5 e && decide (T 4 = 114)) := by
  have : bw T 3 e = (decide (5 = e) && (((((true && decide (T 0 = 99)) && decide (T 1 = 108)) && decide (T 2 = 101)) && decide (T 3 = 97)) && decide (T 4 = 114))) := rfl
  rw [this]
  unfold mw
  simp only [eq_comm (a := e), Bool.true_and, Bool.and_assoc]
theorem bw_1 {T : Nat → Int32} {e : Nat} : bw T 1 e = mw T 99 111 112 121 4 e := by
  have : bw T 1 e = (decide (4 = e) && ((((true && decide (T 0 = 99)) && decide (T 1 = 111)) && decide (T 2 = 112)) && decide (T 3 = 121))) := rfl
  rw [this]
  unfold mw
  simp only [eq_comm (a := e), Bool.true_and, Bool.and_assoc]
theorem bw_2 {T : Nat → Int32} {e : Nat} : bw T 2 e = mw T 115 105 122 101 4 e := by
  have : bw T 2 e = (decide (4 = e) && ((((true && decide (T 0 = 115)) && decide (T 1 = 105)) && decide (T 2 = 122)) && decide (T 3 = 101))) := rfl
  rw [this]
  unfold mw
  simp only [eq_comm (a := e), Bool.true_and, Bool.and_assoc]
def rW (w : Nat) : Int32 := if w = 1 then 0 else if w = 4 then 3 else if w = 2 then 1 else if w = 3 then 2 else -5
theorem mw_e {T : Nat → Int32} {a b c d : Int32} {len e : Nat} (h : mw T a b c d len e = true) : e = len := by
  unfold mw at h
  rw [Bool.and_eq_true, decide_eq_true_eq] at h
  exact h.1
theorem mw_ne {T : Nat → Int32} {a b c d : Int32} {len e : Nat} (h : e ≠ len) : mw T a b c d len e = false := by
  unfold mw
  rw [decide_eq_false h]; rfl
theorem m_word {n : Nat} {T : Nat → Int32} {σ : Mem} {K : Int32 → Mem → Prop} (hn : n ≤ 60) (h1 : σ 306 5 = nI n) (h2 : ∀ x, x < n → σ 310 x = T x) (h : ∀ σ1, XM σ σ1 → TM n T (wq n T 60 0) σ1 → K (rW (wk T (wq n T 60 0))) σ1) : w_X7_word σ K := by
  have hq := wq_le (n := n) (T := T) 60 0 (Nat.zero_le _)
  have fin : ∀ σ1, XM σ σ1 → TM n T (wq n T 60 0) σ1 → w_X7_isWord 109 101 114 103 5 σ1 (fun r5 σ4 => (br (r5 = 0) (w_X7_word_58 K σ4) (vp_in 4 60 ∧ (br ((σ4 310 (ix 4)) = 101) (K 0 σ4) (w_X7_word_58 K σ4))))) := by
    intro σ1 hX ht
    replace h := h σ1 hX ht
    generalize wq n T 60 0 = e at h ht hq
    unfold wk at h
    rw [bw_0, bw_1, bw_2, bw_3] at h
    have w87 : (mw T 109 101 114 103 5 e && decide (T 4 = 101)) = false → (mw T 99 108 101 97 5 e && decide (T 4 = 114)) = false → w_X7_word_87 K σ1 := by
      intro p0 p3
      rw [p0, p3] at h
      unfold w_X7_word_87
      refine m_isW (len := 4) hn hq.2 (by omega) (by omega) ht (br_b (fun c1 => m_isW (len := 4) hn hq.2 (by omega) (by omega) ht (br_b (fun c2 => ?_) (fun c2 => ?_))) (fun c1 => ?_))
      · rw [c1, c2] at h; exact h
      · rw [c1, c2] at h; exact h
      · rw [c1] at h; exact h
    have w58 : (mw T 109 101 114 103 5 e && decide (T 4 = 101)) = false → w_X7_word_58 K σ1 := by
      intro p0
      unfold w_X7_word_58
      refine m_isW (len := 5) hn hq.2 (by omega) (by omega) ht (br_b (fun c1 => w87 p0 (by rw [c1]; rfl)) (fun c1 => ?_))
      have he := mw_e c1
      rw [show ix (4 : Int32) = 4 from rfl, ht.2.1 4 (by omega)]
      refine ⟨vil (i := 4) (by omega), br_i (fun c2 => ?_) (fun c2 => w87 p0 (by rw [decide_eq_false c2]; simp))⟩
      rw [p0, mw_ne (T := T) (a := 99) (b := 111) (c := 112) (d := 121) (show e ≠ 4 by omega), mw_ne (T := T) (a := 115) (b := 105) (c := 122) (d := 101) (show e ≠ 4 by omega), c1, decide_eq_true c2] at h
      exact h
    refine m_isW (len := 5) hn hq.2 (by omega) (by omega) ht (br_b (fun c1 => w58 (by rw [c1]; rfl)) (fun c1 => ?_))
    have he := mw_e c1
    rw [show ix (4 : Int32) = 4 from rfl, ht.2.1 4 (by omega)]
    refine ⟨vil (i := 4) (by omega), br_i (fun c2 => ?_) (fun c2 => w58 (by rw [decide_eq_false c2]; simp))⟩
    rw [c1, decide_eq_true c2] at h
    exact h
  have loop : ∀ d k (σ1 : Mem), d + k = 60 → k ≤ n → wq n T d k = wq n T 60 0 → TM n T k σ1 → XM σ σ1 → w_X7_word_5 K (d + 1) σ1 := by
    intro d
    induction d with
    | zero =>
      intro k σ1 hk hkn he ht hX
      rw [w_X7_word_5]
      obtain rfl : k = 60 := by omega
      refine m_isB hn ht (by omega) (br_b (fun _ => fin σ1 hX (by rw [← he]; exact ht)) (fun hd => ?_))
      have := dg_lt hd
      omega
    | succ d ih =>
      intro k σ1 hk hkn he ht hX
      rw [w_X7_word_5]
      rw [wq] at he
      refine m_isB hn ht (by omega) (br_b (fun hd => ?_) (fun hd => ?_))
      · rw [if_neg (by rw [hd]; decide)] at he
        exact fin σ1 hX (by rw [← he]; exact ht)
      · rw [if_pos hd] at he
        rintro σ14 e14
        have x14 : XM σ1 σ14 := by rw [e14]; exact XM_mu (by omega)
        refine ih (k + 1) σ14 (by omega) (dg_lt hd) he (ht.x x14 ?_) (hX.tr x14)
        rw [e14, mu_k]; simp only [upd, if_true]; rw [ht.2.2, nI_1]
  rintro σ1 e1
  have x1 : XM σ σ1 := by rw [e1]; exact XM_mu (by omega)
  refine ⟨61, loop 60 0 σ1 rfl (Nat.zero_le _) rfl ⟨by rw [x1.2 _ (by omega)]; exact h1, fun x hx => by rw [x1.1 _ (by omega)]; exact h2 x hx, ?_⟩ x1⟩
  rw [e1, mu_k]; simp [upd]; rfl
theorem m_num {n p : Nat} {T : Nat → Int32} {σ : Mem} {K : Int32 → Mem → Prop} (hn : n ≤ 60) (ht : TM n T p σ) (hp : p < 2 ^ 30) (h0 : (arg n T p).1 = false → ∀ σ1, XM σ σ1 → TM n T (arg n T p).2.2 σ1 → K 0 σ1) (h1 : (arg n T p).1 = true → ∀ σ1, XM σ σ1 → TM n T (arg n T p).2.2 σ1 → σ1 306 9 = (arg n T p).2.1 → K 1 σ1) : w_X7_takesNumber σ K := by
  unfold w_X7_takesNumber
  unfold arg at h0 h1
  refine m_takes hn ht (by omega) (fun hd σ1 x1 t1 _ _ => ?_) (fun hd σ1 x1 t1 _ _ => br_i (fun q => absurd q (by decide)) (fun _ => m_isB hn t1 (by omega) (br_b (fun hd2 => ?_) (fun hd2 => ?_))))
  · rw [if_neg (by rw [hd]; decide)] at h0
    exact ⟨fun _ => h0 rfl σ1 x1 t1, fun q => absurd rfl q⟩
  · rw [if_pos hd, if_neg (by rw [hd2]; decide)] at h0
    exact h0 rfl σ1 x1 t1
  · rw [if_pos hd, if_pos hd2] at h1
    replace h1 := h1 rfl
    have hlt := dg_lt hd2
    obtain ⟨a, a1, a2, a3⟩ := dig_n hd2
    unfold nE at h1
    rw [t1.2.2, ixn (show p + 1 < 2 ^ 31 by omega), t1.2.1 _ hlt]
    refine ⟨vi (by omega), ?_⟩
    rintro σ6 e6 σ7 e7
    have x6 : XM σ1 σ6 := by rw [e6]; exact XM_mu (by omega)
    have x7 : XM σ1 σ7 := x6.tr (by rw [e7]; exact XM_mu (by omega))
    have k7 : σ7 306 7 = nI (p + 1 + 1) := by rw [e7, mu_k]; simp only [upd, if_true]; rw [e6, mu_k]; simp only [upd]; rw [if_neg (by omega), t1.2.2, nI_1]
    have k9 : σ7 306 9 = T (p + 1) - 48 := by rw [e7, mu_k]; simp only [upd]; rw [if_neg (by omega), e6, mu_k]; simp [upd]
    have t7 := t1.x x7 k7
    rw [k9]
    have ez : T (p + 1) - 48 ≤ 0 ↔ T (p + 1) - 48 = 0 := by
      rw [a2, show (0 : Int32) = nI 0 from rfl, nI_le_iff (by omega) (by omega), nI_eq (by omega) (by omega)]
      omega
    refine br_i (fun hz => ?_) (fun hz => m_isB hn t7 (by omega) (br_b (fun hd3 => ?_) (fun hd3 => ?_)))
    · rw [if_pos (ez.mp hz)] at h1
      exact h1 σ7 (x1.tr x7) t7 k9
    · rw [if_neg (fun q => hz (ez.mpr q)), if_neg (by rw [hd3]; decide)] at h1
      exact h1 σ7 (x1.tr x7) t7 k9
    · rw [if_neg (fun q => hz (ez.mpr q)), if_pos hd3] at h1
      have hlt3 := dg_lt hd3
      rw [k7, ixn (show p + 1 + 1 < 2 ^ 31 by omega), t7.2.1 _ hlt3, k9, num2]
      refine ⟨vi (by omega), ?_⟩
      rintro σ11 e11 σ12 e12
      have x11 : XM σ7 σ11 := by rw [e11]; exact XM_mu (by omega)
      have x12 : XM σ7 σ12 := x11.tr (by rw [e12]; exact XM_mu (by omega))
      have l7 : σ12 306 7 = nI (p + 1 + 2) := by rw [e12, mu_k]; simp only [upd, if_true]; rw [e11, mu_k]; simp only [upd]; rw [if_neg (by omega), k7, nI_1]
      refine h1 σ12 ((x1.tr x7).tr x12) (t7.x x12 l7) ?_
      rw [e12, mu_k]; simp only [upd]; rw [if_neg (by omega), e11, mu_k]; simp [upd]
