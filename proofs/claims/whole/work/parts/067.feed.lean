theorem c_remember2 {σ : Mem} {t : ST} {K : Mem → Prop} (hc : CR σ t) (ho : okT t) (h : ∀ σ1, CR σ1 (psA t) → frC σ σ1 → (∀ q, 300 < q → σ1 q = σ q) → K σ1) : w_X0_remember 0 σ K := by
  obtain ⟨⟨a1, a2⟩, ⟨b1, b2, b3⟩, c, d1, d2⟩ := hc
  have hn := ho.2.1.1
  have i2 : ix (σ 300 2) = tN t := nI_ix b2 (by omega)
  refine s_remember a1 b1 (fun σ1 f g1 g2 g3 g4 => h σ1 ⟨⟨WS_fr (fun q x y => f q (by omega) (by omega)) a1, ?_⟩, ⟨g1, ?_, fun j hj => ?_⟩, snC_fr (fun q x y => f q (by omega) (by omega)) (f _ (by omega) (by omega)) c, by rw [f _ (by omega) (by omega)]; exact d1, fun x hx => by rw [f _ (by omega) (by omega)]; exact d2 x hx⟩ (fun q hq => f q (by omega) (by omega)) (fun q hq => f q (by omega) (by omega)))
  · rw [aC_fr (fun q x y => f q (by omega) (by omega))]; exact a2
  · obtain ⟨⟨nx, kn, y1, y2, y3, y4⟩, -⟩ := id g1
    rw [i2] at g2
    rw [nI_ix y2 (by omega)] at g2
    rw [y2, g2]; rfl
  · replace hj : j < up4 (tN t) := hj
    show hsC σ1 j = if j = 0 then tA t else tH t (j - 1)
    cases j with
    | zero => rw [if_pos rfl, g3, a2]
    | succ j =>
      rw [if_neg (by omega)]
      have hj2 : j < tN t ∧ j < 3 := by unfold up4 at hj; split at hj <;> omega
      rw [g4 j hj2.2 (by rw [i2]; exact hj2.1), b3 j hj2.1]; rfl

theorem prs_dg {n : Nat} {T : Nat → Int32} {m : Nat} : ∀ d k, prs n T d k = (false, m) → ∀ j, k ≤ j → j < m → dg n T 97 122 (pS n T j) = true := by
  intro d
  induction d with
  | zero => intro k h; cases h
  | succ d ih =>
    intro k h j h1 h2
    rw [prs] at h
    split at h
    · rename_i hd
      by_cases hj : j = k
      · rw [hj]; exact hd
      · split at h
        · cases h; omega
        · split at h
          · exact ih (k + 1) h j (by omega) h2
          · cases h
    · cases h
theorem prs_m {n : Nat} {T : Nat → Int32} {m : Nat} : ∀ d k, prs n T d k = (false, m) → m ≤ k + d := by
  intro d
  induction d with
  | zero => intro k h; cases h
  | succ d ih =>
    intro k h
    rw [prs] at h
    split at h
    · split at h
      · cases h; omega
      · split at h
        · have := ih (k + 1) h; omega
        · cases h
    · cases h
theorem dig_n {n : Nat} {T : Nat → Int32} {p : Nat} (h : dg n T 48 57 p = true) : ∃ a : Nat, a ≤ 9 ∧ T p - 48 = nI a ∧ (T p = 48 ↔ a = 0) := by
  unfold dg at h
  rw [Bool.and_eq_true, Bool.and_eq_true, decide_eq_true_eq, decide_eq_true_eq, decide_eq_true_eq, fa_le, fa_le] at h
  have h0 : (48 : Int32).toInt = 48 := by decide
  have h3 : (57 : Int32).toInt = 57 := by decide
  have e1 : (T p - 48).toInt = (T p).toInt - 48 := by
    rw [Int32.toInt_sub, h0]
    apply Int.bmod_eq_of_le <;> omega
  refine ⟨((T p).toInt - 48).toNat, by omega, nI_ofi (by omega) (by omega), ?_⟩
  rw [fa_eq, h0]
  omega
theorem wE_1 {n : Nat} {T : Nat → Int32} {p : Nat} : 1 ≤ (wE n T p).1.toInt ∧ (wE n T p).1.toInt ≤ 99 := by
  unfold wE
  by_cases h : dg n T 49 57 p = true
  · rw [if_pos h]
    have hz := dg_9 h
    rw [dg_48, Bool.and_eq_true, Bool.not_eq_true', decide_eq_false_iff_not] at h
    obtain ⟨a, a1, a2, a3⟩ := dig_n h.1
    have a4 : a ≠ 0 := fun q => h.2 (a3.mpr q)
    unfold nE
    rw [if_neg hz]
    by_cases h2 : dg n T 48 57 (p + 1) = true
    · rw [if_pos h2]
      obtain ⟨b, b1, b2, -⟩ := dig_n h2
      dsimp only
      rw [a2, b2, show (10 : Int32) = nI 10 from rfl, pk_mul, nI_add, nI_toInt (by omega)]
      omega
    · rw [if_neg h2]
      dsimp only
      rw [a2, nI_toInt (by omega)]
      omega
  · rw [if_neg h]
    show 1 ≤ (1 : Int32).toInt ∧ (1 : Int32).toInt ≤ 99
    decide
theorem sW_n {n : Nat} {T : Nat → Int32} : ∀ k, k ≤ 31 → 0 ≤ (sW n T k).toInt ∧ (sW n T k).toInt ≤ 99 * k := by
  intro k
  induction k with
  | zero =>
    intro _
    show 0 ≤ (0 : Int32).toInt ∧ (0 : Int32).toInt ≤ 99 * 0
    decide
  | succ k ih =>
    intro hk
    obtain ⟨a, b⟩ := ih (by omega)
    obtain ⟨c, d⟩ := wE_1 (n := n) (T := T) (p := pS n T k + 1)
    have e : (sW n T (k + 1)).toInt = (sW n T k).toInt + (aW n T k).toInt := add_i rfl rfl (by unfold aW; omega) (by unfold aW; omega)
    rw [e]
    unfold aW
    omega
theorem sW_s {n : Nat} {T : Nat → Int32} {k : Nat} (hk : k < 31) : (sW n T (k + 1)).toInt = (sW n T k).toInt + (aW n T k).toInt := by
  obtain ⟨a, b⟩ := sW_n (n := n) (T := T) k (by omega)
  obtain ⟨c, d⟩ := wE_1 (n := n) (T := T) (p := pS n T k + 1)
  exact add_i rfl rfl (by unfold aW; omega) (by unfold aW; omega)
theorem sW_mono {n : Nat} {T : Nat → Int32} {k : Nat} : ∀ d, k + d ≤ 31 → (sW n T k).toInt ≤ (sW n T (k + d)).toInt := by
  intro d
  induction d with
  | zero => intro _; exact Int.le_refl _
  | succ d ih =>
    intro hd
    have := ih (by omega)
    have e := sW_s (n := n) (T := T) (k := k + d) (by omega)
    obtain ⟨c, -⟩ := wE_1 (n := n) (T := T) (p := pS n T (k + d) + 1)
    show _ ≤ (sW n T (k + d + 1)).toInt
    rw [e]
    unfold aW
    omega
theorem aL_n {n : Nat} {T : Nat → Int32} {k : Nat} (h : dg n T 97 122 (pS n T k) = true) : ∃ l : Nat, l < 26 ∧ aL n T k = nI l ∧ ix (aL n T k) = l := by
  unfold dg at h
  rw [Bool.and_eq_true] at h
  obtain ⟨l, h1, h2, -, h4⟩ := lt26_n (a := T (pS n T k)) h.2
  exact ⟨l, h1, h2, h4⟩
theorem sS_rcv {s : Sm} {l : Nat} {w t : Int32} : sS (rcv s l w t) = sS s + w := by
  unfold rcv
  split
  · rfl
  · split
    · show sS (evc (inc s l w)) = _
      rw [sS_evc]; rfl
    · rfl
def fdS (A : AS) (i n : Nat) (T : Nat → Int32) : Nat → AS
  | 0 => A
  | k + 1 => brS (fdS A i n T k) i (ix (aL n T k)) (aW n T k)
def fdW (A : AS) (n : Nat) (T : Nat → Int32) : Nat → AS
  | 0 => A
  | k + 1 => flA (fdW A n T k) (ix (aL n T k)) (aW n T k)
theorem ok_fdS {A : AS} {i n m : Nat} {T : Nat → Int32} (h : okA A) (hi : i < 4) (hd : ∀ j, j < m → dg n T 97 122 (pS n T j) = true) (hm : m ≤ 31) (hs : sS (aSm A i) + sW n T m ≤ 1000000) : ∀ k, k ≤ m → okA (fdS A i n T k) ∧ (sS (aSm (fdS A i n T k) i)).toInt = (sS (aSm A i)).toInt + (sW n T k).toInt := by
  have hb := (h.1 i hi).1
  have b1 := hb.1
  have b2 := hb.2.1
  have b3 := hb.2.2.1
  obtain ⟨p1, p2⟩ := sW_n (n := n) (T := T) m hm
  have e := add_i (x := sS (aSm A i)) (y := sW n T m) rfl rfl (by omega) (by omega)
  rw [fa_le, e] at hs
  have h6 : (1000000 : Int32).toInt = 1000000 := by decide
  intro k
  induction k with
  | zero =>
    intro _
    refine ⟨h, ?_⟩
    have : (sW n T 0).toInt = 0 := by show (0 : Int32).toInt = 0; decide
    rw [this]; show (sS (aSm A i)).toInt = _; omega
  | succ k ih =>
    intro hk
    obtain ⟨i1, i2⟩ := ih (by omega)
    obtain ⟨l, l1, l2, l3⟩ := aL_n (hd k (by omega))
    obtain ⟨c, c2⟩ := wE_1 (n := n) (T := T) (p := pS n T k + 1)
    have es := sW_s (n := n) (T := T) (k := k) (by omega)
    have mo := sW_mono (n := n) (T := T) (k := k + 1) (m - (k + 1)) (by omega)
    rw [show k + 1 + (m - (k + 1)) = m by omega] at mo
    have hle : (sS (aSm (fdS A i n T k) i)).toInt + (aW n T k).toInt ≤ 1000000 := by rw [i2]; omega
    have hw0 : 1 ≤ (aW n T k).toInt := c
    refine ⟨?_, ?_⟩
    · show okA (brS (fdS A i n T k) i (ix (aL n T k)) (aW n T k))
      rw [l3]
      exact ok_brS i1 hi l1 (by omega) hle
    · have e1 : aSm (fdS A i n T (k + 1)) i = rcv (aSm (fdS A i n T k) i) (ix (aL n T k)) (aW n T k) (aTm (fdS A i n T k) + 1) := if_pos rfl
      have hb2 := (i1.1 i hi).1
      have q1 := hb2.1
      have q2 := hb2.2.1
      rw [e1, sS_rcv, add_i rfl rfl (by omega) (by omega), i2, es]
      omega
theorem ok_fdW {A : AS} {n m : Nat} {T : Nat → Int32} (h : okA A) (hd : ∀ j, j < m → dg n T 97 122 (pS n T j) = true) : ∀ k, k ≤ m → okA (fdW A n T k) := by
  intro k
  induction k with
  | zero => intro _; exact h
  | succ k ih =>
    intro hk
    obtain ⟨l, l1, l2, l3⟩ := aL_n (hd k (by omega))
    obtain ⟨c, c2⟩ := wE_1 (n := n) (T := T) (p := pS n T k + 1)
    show okA (flA (fdW A n T k) (ix (aL n T k)) (aW n T k))
    rw [l3]
    exact ok_fl (ih (by omega)) l1 (by unfold aW; omega) c2
theorem c_total {n m : Nat} {T : Nat → Int32} {σ : Mem} {K : Int32 → Mem → Prop} (hm : m ≤ 31) (h4 : σ 302 4 = nI m) (hj : ∀ j, j < m → σ 305 j = aW n T j) (h : K (sW n T m) σ) : w_X4_totalWeight σ K := by
  have loop : ∀ d k, k + d = m → w_X4_totalWeight_4 K (d + 1) (sW n T k) (nI k) σ := by
    intro d
    induction d with
    | zero =>
      intro k hk
      rw [w_X4_totalWeight_4, h4]
      obtain rfl : k = m := by omega
      exact br_i (fun _ => h) (fun hc => absurd (nI_le (Nat.le_refl _) (by omega)) hc)
    | succ d ih =>
      intro k hk
      rw [w_X4_totalWeight_4, h4]
      refine br_i (fun hc => absurd hc (nI_ge (by omega) (by omega))) (fun _ => ⟨vi (by omega), ?_⟩)
      rw [ixn (show k < 2 ^ 31 by omega), hj k (by omega), nI_1]
      rintro v rfl
      exact ih (k + 1) (by omega)
  exact ⟨m + 1, loop m 0 (by omega)⟩
theorem CR_XC {σ σ1 : Mem} {t : ST} (h : XC σ σ1) (hc : CR σ t) : CR σ1 t := CR_fr (fun q a b c => h.1 q c (by omega) (by omega)) h.2 hc
theorem XC_frC {σ σ1 : Mem} (h : XC σ σ1) : frC σ σ1 := fun q hq => h.1 q (by omega) (by omega) (by omega)
theorem MR_XM {σ σ1 : Mem} {t : ST} (h : XM σ σ1) (hc : MR σ t) : MR σ1 t := by
  obtain ⟨⟨a1, a2⟩, ⟨b1, b2⟩, c, d1, d2⟩ := hc
  have ehm : ∀ k, hM σ1 k = hM σ k := fun k => by unfold hM; rw [h.1 308 (by omega)]
  exact ⟨⟨by rw [h.1 _ (by omega)]; exact a1, by rw [h.1 _ (by omega)]; exact a2⟩, ⟨by rw [h.2 _ (by omega)]; exact b1, fun j hj => by rw [ehm]; exact b2 j hj⟩, snM_fr (h.2 _ (by omega)) (h.1 _ (by omega)) c, by rw [h.2 _ (by omega)]; exact d1, fun x hx => by rw [h.1 _ (by omega)]; exact d2 x hx⟩
theorem XM_frM {σ σ1 : Mem} (h : XM σ σ1) : frM σ σ1 := fun q hq => h.1 q (by omega)
theorem okT_X {t : ST} (h : okT t) : okX (tT t) (tX t) := h.2.2.2
def f_feed (a1 : Int32) (t : ST) : Int32 × ST :=
  if sm4 a1 = true then
    match prs (tT t) (tX t) 31 0 with
    | (true, p) => (-100 - nI p, t)
    | (false, m) => if sS (aSm (tA t) (ix a1)) + sW (tT t) (tX t) m ≤ 1000000 then (nI m, setA (psA t) (fdS (tA t) (ix a1) (tT t) (tX t) m)) else (-3, t)
  else (-1, t)
theorem c_feed_loop {a1 : Int32} {i n m : Nat} {T : Nat → Int32} {A : AS} {u : ST} {σ : Mem} {K : Int32 → Mem → Prop} (ha : a1 = nI i) (hi : i < 4) (hm : m ≤ 31) (hd : ∀ j, j < m → dg n T 97 122 (pS n T j) = true) (h : ∀ σ1, CR σ1 (setA u (fdS A i n T m)) → frC σ σ1 → K (nI m) σ1) :
    ∀ d k (σ1 : Mem), k + d = m → CR σ1 (setA u (fdS A i n T k)) → frC σ σ1 → σ1 302 4 = nI m → (∀ j, j < m → σ1 304 j = aL n T j ∧ σ1 305 j = aW n T j) → w_X6_feed_71 a1 K (d + 1) (2 + 5 * i) (nI k) σ1 := by
  intro d
  induction d with
  | zero =>
    intro k σ1 hk hc hf h4 hj
    rw [w_X6_feed_71, h4]
    obtain rfl : k = m := by omega
    exact br_i (fun _ => h σ1 hc hf) (fun hc => absurd (nI_le (Nat.le_refl _) (by omega)) hc)
  | succ d ih =>
    intro k σ1 hk hc hf h4 hj
    rw [w_X6_feed_71, h4]
    obtain ⟨l, l1, l2, l3⟩ := aL_n (hd k (by omega))
    refine br_i (fun hc => absurd hc (nI_ge (by omega) (by omega))) (fun _ => ⟨vi (by omega), vi (by omega), ?_⟩)
    rw [ixn (show k < 2 ^ 31 by omega), (hj k (by omega)).1, (hj k (by omega)).2, l2, ha]
    refine s_bringS (b := 0) hi l1 hc.1.1 (fun σ2 h5 => ?_)
    have c2 := CR_st hc h5
    rw [nI_1]
    have e : brS (aC σ1 0) i l (aW n T k) = fdS A i n T (k + 1) := by
      rw [hc.1.2]
      show brS (fdS A i n T k) i l (aW n T k) = brS (fdS A i n T k) i (ix (aL n T k)) (aW n T k)
      rw [l3]
    rw [e] at c2
    have g : ∀ q, 48 < q → σ2 q = σ1 q := fun q hq => h5.2.2 q (by omega)
    rw [← ha]
    exact ih (k + 1) σ2 (by omega) c2 (hf.tr (S1_frC h5)) (by rw [g _ (by omega)]; exact h4) (fun j hj2 => by rw [g _ (by omega), g _ (by omega)]; exact hj j hj2)
theorem c_feed (a1 : Int32) (σ : Mem) (t : ST) (K : Int32 → Mem → Prop) (hc : CR σ t) (ho : okT t) (h : ∀ r t', f_feed a1 t = (r, t') → ∀ σ1, CR σ1 t' → frC σ σ1 → K r σ1) : w_X6_feed a1 σ K := by
  unfold w_X6_feed
  refine c_isSm (br_b (fun h1 => h _ _ (by simp [f_feed, h1]) σ hc frC.rf) (fun h1 => ?_))
  obtain ⟨i, hi, e1, e2⟩ := sm4_n h1
  refine c_arr (okT_X ho) hc.2.2.2.1 hc.2.2.2.2 (fun p σ1 hR hX => br_i (fun q => absurd q (by
    have hp : p < 2 ^ 31 := by
      have key : ∀ d k, pS (tT t) (tX t) k ≤ tT t → prs (tT t) (tX t) d k = (true, p) → p ≤ 60 := by
        intro d
        induction d with
        | zero => intro k _ hh; cases hh; omega
        | succ d ih =>
          intro k hk hh
          have := ho.2.2.2.1
          rw [prs] at hh
          split at hh
          · split at hh
            · cases hh
            · split at hh
              · exact ih (k + 1) (by show aE _ _ _ + 1 ≤ _; omega) hh
              · cases hh; omega
          · cases hh; omega
      have := key 31 0 (Nat.zero_le _) hR
      omega
    exact enc_some (l := p) hp)) (fun _ => h _ t (by unfold f_feed; rw [if_pos h1, hR]) σ1 (CR_XC hX hc) (XC_frC hX))) (fun m σ1 hR hm hX h4 hj => br_i (fun _ => ?_) (fun q => absurd rfl q))
  have c1 := CR_XC hX hc
  rw [e2]
  refine ⟨by rw [e1]; exact vi hi, c_total (n := tT t) (T := tX t) hm h4 (fun j hj2 => (hj j hj2).2.1) ?_⟩
  rw [c_sum c1 hi]
  refine br_i (fun hs => c_remember2 c1 ho (fun σ2 c2 g2 f2 => ⟨m + 1, ?_⟩)) (fun hs => ?_)
  · refine c_feed_loop (σ := σ2) (A := tA t) (u := psA t) e1 hi hm (fun j hj2 => (hj j hj2).2.2) (fun σ3 c3 g3 => ?_) m 0 σ2 (by omega) c2 frC.rf (by rw [f2 _ (by omega)]; exact h4) (fun j hj2 => by rw [f2 _ (by omega), f2 _ (by omega)]; exact ⟨(hj j hj2).1, (hj j hj2).2.1⟩)
    exact h _ _ (by unfold f_feed; rw [if_pos h1, hR]; dsimp only; rw [e2, if_pos hs]) σ3 c3 ((XC_frC hX).tr (g2.tr g3))
  · exact h _ t (by unfold f_feed; rw [if_pos h1, hR]; dsimp only; rw [e2, if_neg hs]) σ1 c1 (XC_frC hX)
