theorem nI_le_iff {a b : Nat} (ha : a < 2 ^ 31) (hb : b < 2 ^ 31) : nI a ≤ nI b ↔ a ≤ b := nI_leI ha hb
theorem sZ_drp {s : Sm} {r : Nat × Cn} : sZ (drp s r) = sZ s := rfl
theorem s_leave_loop {k z : Nat} {K : Int32 → Mem → Prop} (hz : z < 2 ^ 31) : ∀ d i m x (σ : Mem), i + d = 26 → nC (vC σ k) - z = m → m ≤ d → sZ (vC σ k) = nI z → hbC σ k → (∀ σ1, P1 k (lvN m (vC σ k)) σ σ1 → K (nI (x + m)) σ1) → w_X3_leaveOut_4 k K (d + 1) (nI x) (nI i) σ := by
  intro d
  induction d with
  | zero =>
    intro i m x σ hi hm hmd hsz hb h
    rw [w_X3_leaveOut_4]
    obtain rfl : i = 26 := by omega
    obtain rfl : m = 0 := by omega
    exact ⟨fun _ => h σ ⟨rfl, fr.rf, hb⟩, fun hc => absurd (nI_le (a := 26) (Nat.le_refl _) (by omega)) hc⟩
  | succ d ih =>
    intro i m x σ hi hm hmd hsz hb h
    have hi2 : i < 26 := by omega
    have hn := nC_le (vC σ k)
    rw [w_X3_leaveOut_4]
    refine ⟨fun hc => absurd hc (ge26 hi2), fun _ => s_counters hb ⟨fun hc => ?_, fun hc => ?_⟩⟩
    · rw [show σ k 0 = nI z from hsz] at hc
      have := (nI_le_iff (by omega) hz).mp hc
      obtain rfl : m = 0 := by omega
      exact h σ ⟨rfl, fr.rf, hb⟩
    · rw [show σ k 0 = nI z from hsz] at hc
      have hlt : z < nC (vC σ k) := Nat.not_le.mp (fun q => hc ((nI_le_iff (by omega) hz).mpr q))
      obtain ⟨r, hr⟩ := nC_posw (s := vC σ k) (by omega)
      obtain ⟨hr1, hr2⟩ := wst_in hr
      have hd := nC_drp hr2 hr1
      refine s_left ?_
      unfold wsN
      rw [hr]
      refine ⟨fun hc => absurd hc (enc_some (l := r.1) (by omega)), fun _ => s_take hr1 hr2 hb (fun σ1 hp => ?_)⟩
      obtain ⟨m', rfl⟩ : ∃ m', m = m' + 1 := ⟨m - 1, by omega⟩
      rw [nI_1, nI_1]
      have e1 : vC σ1 k = drp (vC σ k) r := hp.1
      refine ih (i + 1) m' (x + 1) σ1 (by omega) (by rw [e1]; omega) (by omega) (by rw [e1]; exact hsz) hp.2.2 (fun σ2 h2 => ?_)
      rw [show x + 1 + m' = x + (m' + 1) by omega]
      refine h σ2 ?_
      rw [lvN, wev_of hr]
      rw [e1] at h2
      exact hp.tr h2
theorem s_leave {k z : Nat} {σ : Mem} {K : Int32 → Mem → Prop} (hz : z < 2 ^ 31) (hsz : sZ (vC σ k) = nI z) (hb : hbC σ k) (h : ∀ σ1, P1 k (lvN (nC (vC σ k) - z) (vC σ k)) σ σ1 → K (nI (nC (vC σ k) - z)) σ1) : w_X3_leaveOut k σ K := by
  have hn := nC_le (vC σ k)
  refine ⟨27, s_leave_loop hz 26 0 _ 0 σ rfl rfl (by omega) hsz hb (fun σ1 h1 => ?_)⟩
  rw [Nat.zero_add]
  exact h σ1 h1
theorem cC_eq {σ σ1 : Mem} {k i : Nat} (h0 : σ1 k 3 = σ k 3) (h1 : σ1 (k + 1) i = σ (k + 1) i) (h2 : σ1 (k + 2) i = σ (k + 2) i) (h3 : σ1 (k + 3) i = σ (k + 3) i) : sC (vC σ1 k) i = sC (vC σ k) i := by
  show cC σ1 k i = cC σ k i
  unfold cC
  rw [h0, h1, h2, h3]
theorem uP_eq {s s1 : Sm} {i : Nat} (h : sC s1 i = sC s i) (hf : sF s1 = sF s) : uP s1 i = uP s i := by unfold uP; rw [h, hf]
theorem sL_eq {s s1 : Sm} {i : Nat} (h : sC s1 i = sC s i) (hf : sF s1 = sF s) : sL s1 i = sL s i := by unfold sL; rw [h, hf]
def A13 (k o i : Nat) (t : Int32) (σ σ1 : Mem) : Prop :=
  (∀ q, (q < k ∨ k + 4 < q) → σ1 q = σ q) ∧ σ1 k = σ k ∧
  (∀ l, l < i → (isS (vC σ k) l || isS (vC σ o) l) = true → σ1 (k + 1) l = uP (vC σ k) l + uP (vC σ o) l ∧ σ1 (k + 2) l = sL (vC σ k) l + sL (vC σ o) l ∧ σ1 (k + 3) l = t) ∧
  (∀ l, l < i → σ1 (k + 4) l = σ (k + 4) l + σ (o + 4) l) ∧
  (∀ l, i ≤ l → σ1 (k + 1) l = σ (k + 1) l ∧ σ1 (k + 2) l = σ (k + 2) l ∧ σ1 (k + 3) l = σ (k + 3) l ∧ σ1 (k + 4) l = σ (k + 4) l)
theorem s_absorb_loop {k o : Nat} {t : Int32} {σ : Mem} {K : Int32 → Mem → Prop} {z : Nat} (hz : z < 2 ^ 31) (hsz : σ k 0 = nI z) (hd : k + 4 < o ∨ o + 4 < k) (hb : hbC σ k) (hbo : hbC σ o)
    (h : ∀ σ1, P1 k (lvN (nC (mrg (vC σ k) (vC σ o) t) - z) (mrg (vC σ k) (vC σ o) t)) σ σ1 → K (nI (nC (mrg (vC σ k) (vC σ o) t) - z)) σ1) : ∀ d i (σ1 : Mem), i + d = 26 → A13 k o i t σ σ1 → w_X3_absorb_13 k o t K (d + 1) (σ k 3 ||| σ o 3) (nI i) σ1 := by
  have n0 : ¬ o = k := by omega
  have n4 : ¬ o + 4 = k := by omega
  intro d
  induction d with
  | zero =>
    intro i σ1 hi hA
    obtain ⟨a1, a2, a3, a4, -⟩ := hA
    rw [w_X3_absorb_13]
    obtain rfl : i = 26 := by omega
    refine ⟨fun _ => ?_, fun hc => absurd (nI_le (a := 26) (Nat.le_refl _) (by omega)) hc⟩
    rintro σ2 e2 σ3 e3 σ4 e4
    have hv : vC σ4 k = mrg (vC σ k) (vC σ o) t := by
      have ho : σ1 o = σ o := a1 o (by omega)
      refine Prod.ext ?_ (Prod.ext ?_ (Prod.ext ?_ (Prod.ext ?_ ?_)))
      · show σ4 k 0 = σ k 0
        simp [e4, e3, e2, mu, ms, upd, a2]
      · show σ4 k 1 = σ k 1 + σ o 1
        simp [e4, e3, e2, mu, ms, upd, a2, n0, ho]
      · show σ4 k 2 = σ k 2 + σ o 2
        simp [e4, e3, e2, mu, ms, upd, a2, n0, ho]
      · funext l
        show cC σ4 k l = if (isS (vC σ k) l || isS (vC σ o) l) = true then some (uP (vC σ k) l + uP (vC σ o) l, sL (vC σ k) l + sL (vC σ o) l, t) else none
        have e5 : σ4 k 3 = σ k 3 ||| σ o 3 := by simp [e4, e3, e2, mu, ms, upd]
        have e6 : σ4 (k + 1) = σ1 (k + 1) := by simp [e4, e3, e2, mu, ms]
        have e7 : σ4 (k + 2) = σ1 (k + 2) := by simp [e4, e3, e2, mu, ms]
        have e8 : σ4 (k + 3) = σ1 (k + 3) := by simp [e4, e3, e2, mu, ms]
        unfold cC
        rw [e5, e6, e7, e8, b_or]
        by_cases hl : l < 26
        · rw [cC_isS hl, cC_isS hl]
          by_cases hb2 : (bt (σ k 3) l || bt (σ o 3) l) = true
          · obtain ⟨g1, g2, g3⟩ := a3 l hl (by rw [cC_isS hl, cC_isS hl]; exact hb2)
            rw [if_pos ⟨hl, hb2⟩, if_pos hb2, g1, g2, g3]
          · rw [if_neg (fun q => hb2 q.2), if_neg hb2]
        · have x1 : isS (vC σ k) l = false := by show (cC σ k l).isSome = false; rw [cC_out (by omega)]; rfl
          have x2 : isS (vC σ o) l = false := by show (cC σ o l).isSome = false; rw [cC_out (by omega)]; rfl
          rw [x1, x2, if_neg (fun q => hl q.1)]
          rfl
      · funext l
        show (if l < 26 then σ4 (k + 4) l else 0) = (if l < 26 then σ (k + 4) l else 0) + (if l < 26 then σ (o + 4) l else 0)
        have e9 : σ4 (k + 4) = σ1 (k + 4) := by simp [e4, e3, e2, mu, ms]
        by_cases hl : l < 26
        · rw [if_pos hl, if_pos hl, if_pos hl, e9, a4 l hl]
        · rw [if_neg hl, if_neg hl, if_neg hl]; rfl
    have hb4 : hbC σ4 k := by
      intro j h1 h2
      have e5 : σ4 k 3 = σ k 3 ||| σ o 3 := by simp [e4, e3, e2, mu, ms, upd]
      rw [e5, b_or, hb j h1 h2, hbo j h1 h2]; rfl
    have hf4 : fr k σ σ4 := by
      intro q hq
      rw [← a1 q hq]
      simp [e4, e3, e2, mu, ms, show q ≠ k by omega]
    refine s_leave hz (by rw [hv]; exact hsz) hb4 (fun σ5 h5 => ?_)
    rw [hv] at h5 ⊢
    exact h σ5 ⟨h5.1, hf4.tr h5.2.1, h5.2.2⟩
  | succ d ih =>
    intro i σ1 hi hA
    have hi2 : i < 26 := by omega
    obtain ⟨a1, a2, a3, a4, a5⟩ := hA
    have hbits : bt (σ k 3 ||| σ o 3) i = (isS (vC σ k) i || isS (vC σ o) i) := by rw [b_or, cC_isS hi2, cC_isS hi2]
    obtain ⟨b1, b2, b3, b4⟩ := a5 i (Nat.le_refl _)
    rw [w_X3_absorb_13]
    refine ⟨fun hc => absurd hc (ge26 hi2), fun _ => ⟨fun hc => ?_, fun hc => ?_⟩⟩
    · have hb0 := (bt_one (by omega)).mp hc
      rw [hbits] at hb0
      refine ⟨vi hi2, vi hi2, vi hi2, ?_⟩
      rw [ixn (show i < 2 ^ 31 by omega), nI_1]
      rintro σ2 e2
      refine ih (i + 1) σ2 (by omega) ⟨fun q hq => ?_, ?_, fun l hl hs => ?_, fun l hl => ?_, fun l hl => ?_⟩
      · rw [e2, mu_o (by omega)]; exact a1 q hq
      · rw [e2, mu_o (by omega)]; exact a2
      · have : l ≠ i := fun q => by rw [q, hb0] at hs; cases hs
        obtain ⟨g1, g2, g3⟩ := a3 l (by omega) hs
        rw [e2, mu_o (by omega), mu_o (by omega), mu_o (by omega)]
        exact ⟨g1, g2, g3⟩
      · rw [e2, mu_k]
        by_cases hli : l = i
        · subst hli
          simp only [upd, if_true]
          rw [b4, a1 (o + 4) (by omega)]
        · simp only [upd, if_neg hli]
          exact a4 l (by omega)
      · rw [e2, mu_k, mu_o (by omega), mu_o (by omega), mu_o (by omega)]
        simp only [upd, if_neg (show ¬ l = i by omega)]
        exact a5 l (by omega)
    · have hb1 : (isS (vC σ k) i || isS (vC σ o) i) = true := by
        rw [← hbits]
        cases hx : bt (σ k 3 ||| σ o 3) i
        · exact absurd ((bt_one (by omega)).mpr hx) hc
        · rfl
      have ek : sC (vC σ1 k) i = sC (vC σ k) i := cC_eq (by rw [a2]) b1 b2 b3
      have eo : vC σ1 o = vC σ o := vC_fr (fun q h1 h2 => a1 q (by omega))
      have ef : sF (vC σ1 k) = sF (vC σ k) := by show σ1 k 1 = σ k 1; rw [a2]
      refine s_upper hi2 (s_upper hi2 ?_)
      rw [uP_eq ek ef, eo]
      rintro v15 e15
      refine s_slack hi2 (s_slack hi2 ?_)
      rw [sL_eq ek ef, eo]
      rintro v20 e20
      refine ⟨vi hi2, ?_⟩
      rw [ixn (show i < 2 ^ 31 by omega)]
      rintro σ2 e2
      refine ⟨vi hi2, ?_⟩
      rintro σ3 e3
      refine ⟨vi hi2, ?_⟩
      rintro σ4 e4
      refine ⟨vi hi2, vi hi2, vi hi2, ?_⟩
      rintro σ5 e5
      rw [nI_1]
      have f5 : ∀ q, q ≠ k + 1 → q ≠ k + 2 → q ≠ k + 3 → q ≠ k + 4 → σ5 q = σ1 q := by
        intro q g1 g2 g3 g4
        rw [e5, mu_o g4, e4, mu_o g3, e3, mu_o g2, e2, mu_o g1]
      have p1 : σ5 (k + 1) = upd (σ1 (k + 1)) i v15 := by rw [e5, mu_o (by omega), e4, mu_o (by omega), e3, mu_o (by omega), e2, mu_k]
      have p2 : σ5 (k + 2) = upd (σ1 (k + 2)) i v20 := by rw [e5, mu_o (by omega), e4, mu_o (by omega), e3, mu_k, e2, mu_o (by omega)]
      have p3 : σ5 (k + 3) = upd (σ1 (k + 3)) i t := by rw [e5, mu_o (by omega), e4, mu_k, e3, mu_o (by omega), e2, mu_o (by omega)]
      have p4 : σ5 (k + 4) = upd (σ1 (k + 4)) i (σ (k + 4) i + σ (o + 4) i) := by
        rw [e5, mu_k]
        have x1 : σ4 (k + 4) = σ1 (k + 4) := by rw [e4, mu_o (by omega), e3, mu_o (by omega), e2, mu_o (by omega)]
        have x2 : σ4 (o + 4) = σ1 (o + 4) := by rw [e4, mu_o (by omega), e3, mu_o (by omega), e2, mu_o (by omega)]
        rw [x1, x2, b4, a1 (o + 4) (by omega)]
      refine ih (i + 1) σ5 (by omega) ⟨fun q hq => ?_, ?_, fun l hl hs => ?_, fun l hl => ?_, fun l hl => ?_⟩
      · rw [f5 q (by omega) (by omega) (by omega) (by omega)]; exact a1 q hq
      · rw [f5 k (by omega) (by omega) (by omega) (by omega)]; exact a2
      · rw [p1, p2, p3]
        by_cases hli : l = i
        · subst hli
          simp only [upd, if_true]
          exact ⟨e15, e20, trivial⟩
        · simp only [upd, if_neg hli]
          exact a3 l (by omega) hs
      · rw [p4]
        by_cases hli : l = i
        · subst hli; simp only [upd, if_true]
        · simp only [upd, if_neg hli]; exact a4 l (by omega)
      · rw [p1, p2, p3, p4]
        simp only [upd, if_neg (show ¬ l = i by omega)]
        exact a5 l (by omega)
theorem s_absorb {k o z : Nat} {t : Int32} {σ : Mem} {K : Int32 → Mem → Prop} (hz : z < 2 ^ 31) (hsz : sZ (vC σ k) = nI z) (hd : k + 4 < o ∨ o + 4 < k) (hb : hbC σ k) (hbo : hbC σ o)
    (h : ∀ σ1, P1 k (lvN (nC (mrg (vC σ k) (vC σ o) t) - z) (mrg (vC σ k) (vC σ o) t)) σ σ1 → K (nI (nC (mrg (vC σ k) (vC σ o) t) - z)) σ1) : w_X3_absorb k o t σ K := by
  rintro v1 rfl
  exact ⟨27, s_absorb_loop hz hsz hd hb hbo h 26 0 σ rfl ⟨fun _ _ => rfl, rfl, fun l hl => absurd hl (Nat.not_lt_zero l), fun l hl => absurd hl (Nat.not_lt_zero l), fun _ _ => ⟨rfl, rfl, rfl, rfl⟩⟩⟩
/-! what is told of one summary -/
def gSl (s : Sm) : Nat → Int32
  | 0 => 0
  | n + 1 => match sC s n with
    | none => gSl s n
    | some q => if gSl s n < q.2.1 then q.2.1 else gSl s n
def bitsF (p : Nat → Bool) : Nat → Int32
  | 0 => 0
  | n + 1 => if p n then bitsF p n ||| (1 <<< (nI n &&& 31)) else bitsF p n
theorem bt_bitsF {p : Nat → Bool} : ∀ {n j : Nat}, n ≤ 32 → j < 32 → bt (bitsF p n) j = (decide (j < n) && p j) := by
  intro n
  induction n with
  | zero => intro j _ _; exact b_0 j
  | succ n ih =>
    intro j hn hj
    rw [bitsF]
    cases hp : p n with
    | true =>
      rw [if_pos rfl, bt_set (by omega) hj, ih (by omega) hj]
      by_cases hjn : j = n
      · subst hjn; simp [hp]
      · have : decide (j < n + 1) = decide (j < n) := by simp; omega
        simp [hjn, this]
    | false =>
      rw [if_neg (by decide), ih (by omega) hj]
      by_cases hjn : j = n
      · subst hjn; simp [hp]
      · have : decide (j < n + 1) = decide (j < n) := by simp; omega
        simp [this]
theorem held_bits {σ : Mem} {k : Nat} (hb : hbC σ k) : σ k 3 = bitsF (isS (vC σ k)) 26 := by
  apply b_ext
  intro j hj
  rw [bt_bitsF (by omega) hj]
  by_cases h : j < 26
  · rw [cC_isS h]; simp [h]
  · rw [hb j (by omega) hj]; simp [h]
theorem s_gSl_loop {k : Nat} {σ : Mem} {K : Int32 → Mem → Prop} (h : K (gSl (vC σ k) 26) σ) : ∀ d i, i + d = 26 → w_X3_greatestSlack_4 k K (d + 1) (gSl (vC σ k) i) (nI i) σ := by
  intro d
  induction d with
  | zero =>
    intro i hi
    rw [w_X3_greatestSlack_4]
    obtain rfl : i = 26 := by omega
    exact ⟨fun _ => h, fun hc => absurd (nI_le (a := 26) (Nat.le_refl _) (by omega)) hc⟩
  | succ d ih =>
    intro i hi
    have hi2 : i < 26 := by omega
    have hn := ih (i + 1) (by omega)
    rw [w_X3_greatestSlack_4]
    refine ⟨fun hc => absurd hc (ge26 hi2), fun _ => s_has hi2 (br_b (fun hc => ?_) (fun hc => ⟨vi hi2, ?_⟩))⟩
    · rw [gSl, isS_none hc] at hn; rw [nI_1]; exact hn
    · obtain ⟨q, hq⟩ := isS_some hc
      obtain ⟨-, -, rfl⟩ := cC_some hq
      rintro v rfl
      rw [gSl, hq] at hn
      rw [nI_1, ixn (show i < 2 ^ 31 by omega)]
      exact hn
theorem s_gSl {k : Nat} {σ : Mem} {K : Int32 → Mem → Prop} (h : K (gSl (vC σ k) 26) σ) : w_X3_greatestSlack k σ K := ⟨27, s_gSl_loop h 26 0 rfl⟩
def cmP (s : Sm) (l : Nat) : Bool := !decide (sM s l ≤ 0)
theorem s_came_loop {k : Nat} {σ : Mem} {K : Int32 → Mem → Prop} (h : K (bitsF (cmP (vC σ k)) 26) σ) : ∀ d i, i + d = 26 → w_X3_lettersThatCame_4 k K (d + 1) (bitsF (cmP (vC σ k)) i) (nI i) σ := by
  intro d
  induction d with
  | zero =>
    intro i hi
    rw [w_X3_lettersThatCame_4]
    obtain rfl : i = 26 := by omega
    exact ⟨fun _ => h, fun hc => absurd (nI_le (a := 26) (Nat.le_refl _) (by omega)) hc⟩
  | succ d ih =>
    intro i hi
    have hi2 : i < 26 := by omega
    have hn := ih (i + 1) (by omega)
    have hm : sM (vC σ k) i = σ (k + 4) i := by show (if i < 26 then _ else _) = _; rw [if_pos hi2]
    rw [w_X3_lettersThatCame_4]
    refine ⟨fun hc => absurd hc (ge26 hi2), fun _ => ⟨vi hi2, ?_⟩⟩
    rw [ixn (show i < 2 ^ 31 by omega), nI_1]
    rw [bitsF] at hn
    unfold cmP at hn
    rw [hm] at hn
    refine ⟨fun hc => ?_, fun hc => ?_⟩
    · rw [if_neg (by simp [hc])] at hn; exact hn
    · rintro v rfl
      rw [if_pos (by simp [hc])] at hn; exact hn
theorem s_came {k : Nat} {σ : Mem} {K : Int32 → Mem → Prop} (h : K (bitsF (cmP (vC σ k)) 26) σ) : w_X3_lettersThatCame k σ K := ⟨27, s_came_loop h 26 0 rfl⟩
/-- whether j stands ahead of i, whose count is c -/
def ahP (s : Sm) (c : Int32) (i j : Nat) : Bool := match sC s j with
  | some r => decide (c < r.1) || (decide (r.1 = c) && decide (j < i))
  | none => false
def plc (s : Sm) (c : Int32) (i n : Nat) : Nat := fb_ct (ahP s c i) n
theorem fb_t {p : Nat → Bool} {n : Nat} (h : p n = true) : fb_ct p (n + 1) = fb_ct p n + 1 := by rw [fb_ct_succ, h]; rfl
theorem fb_f {p : Nat → Bool} {n : Nat} (h : p n = false) : fb_ct p (n + 1) = fb_ct p n := by rw [fb_ct_succ, h]; rfl
theorem s_place_loop {k i : Nat} (hi : i < 26) {σ : Mem} {K : Int32 → Mem → Prop} (h : K (nI (plc (vC σ k) (σ (k + 1) i) i 26)) σ) : ∀ d j, j + d = 26 → w_X3_placeOf_4 k (nI i) K (d + 1) (nI (plc (vC σ k) (σ (k + 1) i) i j)) (nI j) σ := by
  intro d
  induction d with
  | zero =>
    intro j hj
    rw [w_X3_placeOf_4]
    obtain rfl : j = 26 := by omega
    exact ⟨fun _ => h, fun hc => absurd (nI_le (a := 26) (Nat.le_refl _) (by omega)) hc⟩
  | succ d ih =>
    intro j hj
    have hj2 : j < 26 := by omega
    have hn := ih (j + 1) (by omega)
    rw [w_X3_placeOf_4]
    refine ⟨fun hc => absurd hc (ge26 hj2), fun _ => s_has hj2 (br_b (fun hc => ?_) (fun hc => ?_))⟩
    · rw [plc, fb_f (by unfold ahP; rw [isS_none hc])] at hn; rw [nI_1]; exact hn
    · obtain ⟨q, hq⟩ := isS_some hc
      obtain ⟨-, -, hqe⟩ := cC_some hq
      rw [nI_1, nI_1]
      have ea : ahP (vC σ k) (σ (k + 1) i) i j = (decide (σ (k + 1) i < σ (k + 1) j) || (decide (σ (k + 1) j = σ (k + 1) i) && decide (j < i))) := by
        unfold ahP; rw [hq, hqe]
      refine ⟨vi hj2, vi hi, ?_⟩
      rw [ixn (show i < 2 ^ 31 by omega), ixn (show j < 2 ^ 31 by omega)]
      refine ⟨fun h1 => ?_, fun h1 => ⟨vi hj2, vi hi, fun h2 => ⟨fun h3 => ?_, fun h3 => ?_⟩, fun h2 => ?_⟩⟩
      · rw [plc, fb_t (by rw [ea]; simp [h1])] at hn; exact hn
      · have := (nI_le_iff (by omega) (by omega)).mp h3
        rw [plc, fb_f (by rw [ea]; simp [h1]; omega)] at hn; exact hn
      · have : j < i := Nat.not_le.mp (fun q => h3 ((nI_le_iff (by omega) (by omega)).mpr q))
        rw [plc, fb_t (by rw [ea]; simp [h2, this])] at hn; exact hn
      · rw [plc, fb_f (by rw [ea]; simp [h1, h2])] at hn; exact hn
theorem s_place {k i : Nat} {σ : Mem} {K : Int32 → Mem → Prop} (hi : i < 26) (h : K (nI (plc (vC σ k) (σ (k + 1) i) i 26)) σ) : w_X3_placeOf k (nI i) σ K := ⟨27, s_place_loop hi h 26 0 rfl⟩
/-- the letter at a place: the first of those that have a counter and stand there, from i on -/
def lAt (s : Sm) (p : Int32) (i : Nat) : Nat → Option Nat
  | 0 => none
  | d + 1 => match sC s i with
    | none => lAt s p (i + 1) d
    | some q => if nI (plc s q.1 i 26) = p then some i else lAt s p (i + 1) d
theorem s_letterAt_loop {k : Nat} {p : Int32} {σ : Mem} {K : Int32 → Mem → Prop} : ∀ d i, i + d = 26 → K (enc (lAt (vC σ k) p i d)) σ → w_X3_letterAt_2 k p K (d + 1) (nI i) σ := by
  intro d
  induction d with
  | zero =>
    intro i hi h
    rw [w_X3_letterAt_2]
    obtain rfl : i = 26 := by omega
    exact ⟨fun _ => h, fun hc => absurd (nI_le (a := 26) (Nat.le_refl _) (by omega)) hc⟩
  | succ d ih =>
    intro i hi h
    have hi2 : i < 26 := by omega
    rw [w_X3_letterAt_2]
    rw [lAt] at h
    refine ⟨fun hc => absurd hc (ge26 hi2), fun _ => s_has hi2 (br_b (fun hc => ?_) (fun hc => s_place hi2 ⟨fun hz => ?_, fun hz => ?_⟩))⟩
    · rw [isS_none hc] at h; rw [nI_1]; exact ih (i + 1) (by omega) h
    · obtain ⟨q, hq⟩ := isS_some hc
      obtain ⟨-, -, rfl⟩ := cC_some hq
      rw [hq] at h
      dsimp only at h
      rw [if_pos hz] at h
      exact h
    · obtain ⟨q, hq⟩ := isS_some hc
      obtain ⟨-, -, rfl⟩ := cC_some hq
      rw [hq] at h
      dsimp only at h
      rw [if_neg hz] at h
      rw [nI_1]; exact ih (i + 1) (by omega) h
theorem s_letterAt {k : Nat} {p : Int32} {σ : Mem} {K : Int32 → Mem → Prop} (h : K (enc (lAt (vC σ k) p 0 26)) σ) : w_X3_letterAt k p σ K := ⟨27, s_letterAt_loop 26 0 rfl h⟩
/-- the other letters ahead of l: that can be (c), or must be -/
def aP (s : Sm) (l : Nat) (c : Bool) (i : Nat) : Bool := !decide (i = l) && (if c then decide (lO s l < uP s i) else decide (uP s l < lO s i))
def ahd (s : Sm) (l : Nat) (c : Bool) (n : Nat) : Nat := fb_ct (aP s l c) n
theorem s_ahead_loop {k l : Nat} (hl : l < 26) {a2 bar : Int32} {c : Bool} (hc : a2 = 0 ↔ c = false) {σ : Mem} (hbar : bar = if c then lO (vC σ k) l else uP (vC σ k) l) {K : Int32 → Mem → Prop} (h : K (nI (ahd (vC σ k) l c 26)) σ) : ∀ d i, i + d = 26 → w_X3_lettersAhead_24 k (nI l) a2 K (d + 1) bar (nI (ahd (vC σ k) l c i)) (nI i) σ := by
  intro d
  induction d with
  | zero =>
    intro i hi
    rw [w_X3_lettersAhead_24]
    obtain rfl : i = 26 := by omega
    exact ⟨fun _ => h, fun hc => absurd (nI_le (a := 26) (Nat.le_refl _) (by omega)) hc⟩
  | succ d ih =>
    intro i hi
    have hi2 : i < 26 := by omega
    have hn := ih (i + 1) (by omega)
    have key : ∀ x : Int32, x = (if c then uP (vC σ k) i else lO (vC σ k) i) → w_X3_lettersAhead_50 k (nI l) a2 K (w_X3_lettersAhead_24 k (nI l) a2 K (d + 1)) bar (nI (ahd (vC σ k) l c i)) (nI i) x σ := by
      intro x hx
      unfold w_X3_lettersAhead_50
      rw [nI_1, nI_1]
      refine ⟨fun he => ?_, fun he => ⟨fun hz => ?_, fun hz => ?_⟩⟩
      · have : i = l := (nI_eq (by omega) (by omega)).mp he
        rw [ahd, fb_f (by unfold aP; simp [this])] at hn; exact hn
      · have hne : ¬ i = l := fun q => he (by rw [q])
        rw [ahd, fb_f (by
          unfold aP
          rw [hx, hbar] at hz
          cases c
          · simp only [Bool.false_eq_true, if_false] at hz ⊢; simp [hne]; exact hz
          · simp only [if_true] at hz ⊢; simp [hne]; exact hz)] at hn
        exact hn
      · have hne : ¬ i = l := fun q => he (by rw [q])
        rw [ahd, fb_t (by
          unfold aP
          rw [hx, hbar] at hz
          cases c
          · simp only [Bool.false_eq_true, if_false] at hz ⊢; simp [hne]; exact Int32.not_le.mp hz
          · simp only [if_true] at hz ⊢; simp [hne]; exact Int32.not_le.mp hz)] at hn
        exact hn
    rw [w_X3_lettersAhead_24]
    refine ⟨fun hc => absurd hc (ge26 hi2), fun _ => ⟨fun hz => s_lower hi2 (key _ ?_), fun hz => s_upper hi2 (key _ ?_)⟩⟩
    · rw [hc.mp hz]; rfl
    · have : c = true := by
        cases hcc : c
        · exact absurd (hc.mpr hcc) hz
        · rfl
      rw [this]; rfl
theorem s_ahead {k l : Nat} {a2 : Int32} {c : Bool} {σ : Mem} {K : Int32 → Mem → Prop} (hl : l < 26) (hc : a2 = 0 ↔ c = false) (h : K (nI (ahd (vC σ k) l c 26)) σ) : w_X3_lettersAhead k (nI l) a2 σ K := by
  refine ⟨fun hz => s_upper hl ⟨27, s_ahead_loop hl hc ?_ h 26 0 rfl⟩, fun hz => s_lower hl ⟨27, s_ahead_loop hl hc ?_ h 26 0 rfl⟩⟩
  · rw [hc.mp hz]; rfl
  · have : c = true := by
      cases hcc : c
      · exact absurd (hc.mpr hcc) hz
      · rfl
    rw [this]; rfl
