/-! what is looked at -/
def tl5 (a : Int32) : Bool := decide (0 ≤ a) && decide (a ≤ 4)
def tol (A : AS) (i : Nat) : Sm := if i < 4 then aSm A i else whl A
def kC (i : Nat) : Nat := if i < 4 then 2 + 5 * i else 294
def sM8 (i : Nat) : Nat := if i < 4 then i else 8
theorem tl5_n {a : Int32} (h : tl5 a = true) : ∃ i : Nat, i ≤ 4 ∧ a = nI i ∧ ix a = i := by
  unfold tl5 at h
  rw [Bool.and_eq_true, decide_eq_true_eq, decide_eq_true_eq, fa_le, fa_le] at h
  have h0 : (0 : Int32).toInt = 0 := by decide
  have h3 : (4 : Int32).toInt = 4 := by decide
  have e : a = nI a.toInt.toNat := nI_ofi (by omega) (by omega)
  exact ⟨a.toInt.toNat, by omega, e, by rw [congrArg ix e]; exact ixn (by omega)⟩
theorem ok_tol {A : AS} {i : Nat} (h : okA A) : okS (tol A i) 1000000 := by
  unfold tol
  by_cases hi : i < 4
  · rw [if_pos hi]; exact h.1 i hi
  · rw [if_neg hi]; exact ok_mono (ok_whl h) (by omega)
theorem sm4_tl {a : Int32} (h : sm4 a = true) : tl5 a = true := by
  obtain ⟨i, hi, e, -⟩ := sm4_n h
  rw [e]
  exact (by decide +kernel : ∀ i, i < 4 → tl5 (nI i) = true) i hi
theorem c_told {a : Int32} {σ : Mem} {t : ST} {K : Option Nat → Mem → Prop} (hc : CR σ t) (ho : okT t) (hno : tl5 a = false → K none σ)
    (hyes : ∀ i σ1, i ≤ 4 → a = nI i → tl5 a = true → vC σ1 (kC i) = tol (tA t) i → hbC σ1 (kC i) → CR σ1 t → (∀ q, (q < 294 ∨ 298 < q) → σ1 q = σ q) → (i < 4 → σ1 = σ) → K (some (kC i)) σ1) : w_X6_told a σ K := by
  refine ⟨fun h1 => ?_, fun h1 => c_isSm (br_b (fun h2 => hno ?_) (fun h2 => ?_))⟩
  · refine s_look (b := 0) hc.1.1 (by omega) (fun σ1 hp => ?_)
    rw [hc.1.2] at hp
    refine hyes 4 σ1 (Nat.le_refl _) h1 (by rw [h1]; decide) ?_ ?_ ?_ (fun q hq => hp.2.1 q (by omega)) (fun q => absurd q (by omega))
    · exact hp.1
    · exact hp.2.2
    · exact CR_fr (fun q x y z => hp.2.1 q (by omega)) (by rw [hp.2.1 302 (by omega)]) hc
  · cases hb : tl5 a with
    | false => rfl
    | true =>
      obtain ⟨i, hi, e, -⟩ := tl5_n hb
      by_cases hi4 : i = 4
      · exact absurd (by rw [e, hi4]; rfl) h1
      · have : sm4 a = true := by rw [e]; exact (by decide +kernel : ∀ i, i < 4 → sm4 (nI i) = true) i (by omega)
        rw [this] at h2; cases h2
  · obtain ⟨i, hi, e1, e2⟩ := sm4_n h2
    rw [e2]
    refine ⟨by rw [e1]; exact vi hi, ?_⟩
    have ek : kC i = 2 + 5 * i := if_pos hi
    have := hyes i σ (by omega) e1 (sm4_tl h2) ?_ ?_ hc (fun _ _ => rfl) (fun _ => rfl)
    · rw [ek] at this; exact this
    · rw [ek]
      unfold tol
      rw [if_pos hi, ← hc.1.2, aSm_at hi, Nat.zero_add]
    · have := hc.1.1.1 i hi
      rw [Nat.zero_add] at this
      rw [ek]; exact this
theorem m_looks {a : Int32} {σ : Mem} {t : ST} {K : Int32 → Mem → Prop} (hc : MR σ t) (ho : okT t) (hno : tl5 a = false → K (-5) σ)
    (hyes : ∀ i σ1, i ≤ 4 → a = nI i → tl5 a = true → vM (σ1 307) (bs (sM8 i)) = tol (tA t) i → hbM (σ1 307) (bs (sM8 i)) → MR σ1 t → (∀ q, q ≠ 307 → σ1 q = σ q) → (∀ x, x < 1110 → σ1 307 x = σ 307 x) → (i < 4 → σ1 = σ) → K (nI (sM8 i)) σ1) : w_X7_looks a σ K := by
  unfold w_X7_looks
  have hA := hc.1.2
  have hW := hc.1.1
  have b8 : bs 8 = 1110 := rfl
  refine m_in (br_b (fun h1 => hno h1) (fun h1 => ?_))
  obtain ⟨i, hi, e1, e2⟩ := tl5_n (show tl5 a = true from h1)
  refine ⟨fun h2 => ?_, fun h2 => ?_⟩
  · have hi4 : i = 4 := by
      rw [e1] at h2
      have := (nI_le_iff (a := 4) (by omega) (by omega)).mp h2
      omega
    obtain ⟨-, kp, ar, k1, k2, k3, k4, k5, k6, k7, k8⟩ := id ho.1
    have hkp : σ 307 1076 = nI kp := by rw [← k1, ← hA]; rfl
    have ekp : ix (σ 307 1076) = kp := nI_ix hkp (by omega)
    have hbl : ∀ j, j < kp → vM (σ 307) (bs (4 + j)) = aBl (tA t) j := fun j hj => by rw [← hA, aM_bl (by rw [ekp]; exact hj)]
    have ht : σ 307 1072 = aTm (tA t) := by rw [← hA]; rfl
    have hszl : ∀ n, n < kp → sZ (lkN (aBl (tA t)) (aTm (tA t)) n) = nI 4 := by
      intro n
      induction n with
      | zero => intro hn; exact k8 0 hn
      | succ n ihn => intro hn; rw [lkN, sZ_lvN]; exact ihn (by omega)
    have loop : ∀ d x (σ1 : Mem), x + d = kp → 1 ≤ x → (∀ q, q ≠ 307 → σ1 q = σ q) → (∀ y, y < 1110 → σ1 307 y = σ 307 y) → vM (σ1 307) (bs 8) = lkN (aBl (tA t)) (aTm (tA t)) (x - 1) → hbM (σ1 307) (bs 8) → w_X7_looks_28 a K (d + 1) (nI x) σ1 := by
      intro d
      induction d with
      | zero =>
        intro x σ1 hx hx1 q1 q2 q3 q4
        rw [w_X7_looks_28]
        refine ⟨vil (i := 1076) (by omega), ?_⟩
        rw [show ix (1076 : Int32) = 1076 from rfl, q2 _ (by omega), hkp]
        obtain rfl : x = kp := by omega
        refine ⟨fun _ => ?_, fun hz => absurd (nI_le (Nat.le_refl _) (by omega)) hz⟩
        refine hyes 4 σ1 (by omega) (by rw [e1, hi4]) h1 ?_ q4 (MR_fr (fun q _ y => q1 q y) q2 hc) q1 q2 (fun q => absurd q (by omega))
        refine Eq.trans q3 ?_
        show _ = whl (tA t)
        unfold whl
        rw [k1, ixn (show x < 2 ^ 31 by omega)]
      | succ d ih =>
        intro x σ1 hx hx1 q1 q2 q3 q4
        rw [w_X7_looks_28]
        refine ⟨vil (i := 1076) (by omega), ?_⟩
        rw [show ix (1076 : Int32) = 1076 from rfl, q2 _ (by omega), hkp]
        refine ⟨fun hz => absurd hz (nI_ge (by omega) (by omega)), fun _ => ?_⟩
        rw [show (4 : Int32) = nI 4 from rfl, show (8 : Int32) = nI 8 from rfl, nI_add]
        have hv : vM (σ1 307) (bs (4 + x)) = aBl (tA t) x := by
          rw [← hbl x (by omega)]
          exact vM_ext (fun y hy _ => q2 _ (by rw [bs7 (by omega)]; omega))
        refine m_joins (s := 8) (o := 4 + x) (z := 4) (by omega) (by omega) (by omega) (by omega) (by rw [q3]; exact hszl (x - 1) (by omega)) (fun σ2 h5 => ?_)
        obtain ⟨m1, m2, m3, m4, m5⟩ := h5
        rw [q3, hv, q2 1072 (by omega), ht] at m2
        rw [nI_1]
        refine ih (x + 1) σ2 (by omega) (by omega) (fun q hq => by rw [m1 q hq, q1 q hq]) (fun y hy => by rw [m4 y (by omega), q2 y hy]) ?_ m3
        obtain ⟨x', rfl⟩ : ∃ x', x = x' + 1 := ⟨x - 1, by omega⟩
        rw [show x' + 1 + 1 - 1 = x' + 1 from rfl, lkN]
        exact m2
    have h0 := hbl 0 (by omega)
    refine m_copies (s := 4) (o := 8) (by omega) (by omega) (by omega) (hW.1 4 (by omega)) (fun σ1 f1 f2 f3 f40 f5 => ⟨kp - 1 + 1, loop (kp - 1) 1 σ1 (by omega) (by omega) f1 (fun y hy => f5 y (by omega)) ?_ f3⟩)
    rw [f2]; exact h0
  · have hi4 : i < 4 := by
      rw [e1] at h2
      exact Nat.not_le.mp (fun q => h2 ((nI_le_iff (a := 4) (by omega) (by omega)).mpr q))
    have es : sM8 i = i := if_pos hi4
    have := hyes i σ (by omega) e1 h1 ?_ ?_ hc (fun _ _ => rfl) (fun _ _ => rfl) (fun _ => rfl)
    · rw [es, ← e1] at this; exact this
    · rw [es]; unfold tol; rw [if_pos hi4, ← hA, aM_sm hi4]
    · rw [es]; exact hW.1 i (by omega)
theorem sM8_le {i : Nat} : sM8 i ≤ 8 := by unfold sM8; split <;> omega
theorem nI_ne5 {s : Nat} (hs : s ≤ 8) : ¬ nI s = -5 := ne5 (by omega)
/-! summary -/
theorem m_gSl_loop {s : Nat} (hs : s ≤ 8) {σ : Mem} {K : Int32 → Mem → Prop} (h : K (gSl (vM (σ 307) (bs s)) 26) σ) : ∀ d i, i + d = 26 → w_X7_greatestSlack_4 (nI s) K (d + 1) (gSl (vM (σ 307) (bs s)) i) (nI i) σ := by
  intro d
  induction d with
  | zero =>
    intro i hi
    rw [w_X7_greatestSlack_4]
    obtain rfl : i = 26 := by omega
    exact ⟨fun _ => h, fun hc => absurd (nI_le (a := 26) (Nat.le_refl _) (by omega)) hc⟩
  | succ d ih =>
    intro i hi
    have hi2 : i < 26 := by omega
    have hn := ih (i + 1) (by omega)
    rw [w_X7_greatestSlack_4]
    refine ⟨fun hc => absurd hc (ge26 hi2), fun _ => m_has hs hi2 (br_b (fun hc => ?_) (fun hc => m_its 2 hs hi2 (by omega) ?_))⟩
    · rw [gSl, isS_none hc] at hn; rw [nI_1]; exact hn
    · obtain ⟨q, hq⟩ := isS_some hc
      obtain ⟨-, -, rfl⟩ := cM_some hq
      rw [gSl, hq] at hn
      dsimp only at hn
      refine ⟨fun hz => ?_, fun hz => m_its 2 hs hi2 (by omega) ?_⟩
      · rw [if_neg (Int32.not_lt.mpr hz)] at hn; rw [nI_1]; exact hn
      · rw [if_pos (Int32.not_le.mp hz)] at hn; rw [nI_1]; exact hn
theorem m_gSl {s : Nat} (hs : s ≤ 8) {σ : Mem} {K : Int32 → Mem → Prop} (h : K (gSl (vM (σ 307) (bs s)) 26) σ) : w_X7_greatestSlack (nI s) σ K := ⟨27, m_gSl_loop hs h 26 0 rfl⟩
theorem or_0 (x : Int32) : x ||| 0 = x := b_ext (fun i _ => by rw [b_or, b_0, Bool.or_false])
theorem m_let0_loop {s : Nat} (hs : s ≤ 8) {σ : Mem} {K : Int32 → Mem → Prop} (h : K (bitsF (cmP (vM (σ 307) (bs s))) 26) σ) : ∀ d i, i + d = 26 → w_X7_letters_5 (nI s) 0 K (d + 1) (bitsF (cmP (vM (σ 307) (bs s))) i) (nI i) σ := by
  intro d
  induction d with
  | zero =>
    intro i hi
    rw [w_X7_letters_5]
    obtain rfl : i = 26 := by omega
    exact ⟨fun _ => h, fun hc => absurd (nI_le (a := 26) (Nat.le_refl _) (by omega)) hc⟩
  | succ d ih =>
    intro i hi
    have hi2 : i < 26 := by omega
    have hn := ih (i + 1) (by omega)
    have hm : sM (vM (σ 307) (bs s)) i = σ 307 (bs s + 4 + 5 * i + 4) := by show (if i < 26 then _ else _) = _; rw [if_pos hi2]
    rw [bitsF] at hn
    unfold cmP at hn
    rw [hm] at hn
    rw [w_X7_letters_5, nI_1]
    refine ⟨fun hc => absurd hc (ge26 hi2), fun _ => ⟨fun hz => absurd hz (by decide), fun _ => m_its 4 hs hi2 (by omega) ⟨fun hc => ?_, fun hc => ?_⟩⟩⟩
    · rintro v rfl
      rw [or_0]
      rw [if_neg (by simp [hc])] at hn; exact hn
    · rintro v rfl
      rw [if_pos (by simp [hc])] at hn; exact hn
theorem m_let0 {s : Nat} (hs : s ≤ 8) {σ : Mem} {K : Int32 → Mem → Prop} (h : K (bitsF (cmP (vM (σ 307) (bs s))) 26) σ) : w_X7_letters (nI s) 0 σ K := ⟨27, m_let0_loop hs h 26 0 rfl⟩
theorem m_let1_loop {s : Nat} (hs : s ≤ 8) {σ : Mem} {K : Int32 → Mem → Prop} (h : K (bitsF (isS (vM (σ 307) (bs s))) 26) σ) : ∀ d i, i + d = 26 → w_X7_letters_5 (nI s) 1 K (d + 1) (bitsF (isS (vM (σ 307) (bs s))) i) (nI i) σ := by
  intro d
  induction d with
  | zero =>
    intro i hi
    rw [w_X7_letters_5]
    obtain rfl : i = 26 := by omega
    exact ⟨fun _ => h, fun hc => absurd (nI_le (a := 26) (Nat.le_refl _) (by omega)) hc⟩
  | succ d ih =>
    intro i hi
    have hi2 : i < 26 := by omega
    have hn := ih (i + 1) (by omega)
    rw [bitsF] at hn
    rw [w_X7_letters_5, nI_1]
    refine ⟨fun hc => absurd hc (ge26 hi2), fun _ => ⟨fun _ => m_has hs hi2 (br_b (fun hc => ?_) (fun hc => ?_)), fun hz => absurd rfl hz⟩⟩
    · rintro v rfl
      rw [or_0]
      rw [if_neg (by rw [hc]; decide)] at hn; exact hn
    · rintro v rfl
      rw [if_pos hc] at hn; exact hn
theorem m_let1 {s : Nat} (hs : s ≤ 8) {σ : Mem} {K : Int32 → Mem → Prop} (h : K (bitsF (isS (vM (σ 307) (bs s))) 26) σ) : w_X7_letters (nI s) 1 σ K := ⟨27, m_let1_loop hs h 26 0 rfl⟩
def sumV (s : Sm) (a2 : Int32) : Int32 := if a2 = 0 then sZ s else if a2 = 1 then nI (nC s) else if a2 = 2 then sF s else if a2 = 3 then sS s else if a2 = 4 then gSl s 26 else if a2 = 5 then bitsF (cmP s) 26 else if a2 = 6 then bitsF (isS s) 26 else -2
def f_summary (a1 a2 : Int32) (t : ST) : Int32 × ST := if tl5 a1 = true then (sumV (tol (tA t) (ix a1)) a2, t) else (-1, t)
theorem c_summary (a1 a2 : Int32) (σ : Mem) (t : ST) (K : Int32 → Mem → Prop) (hc : CR σ t) (ho : okT t) (h : ∀ r t', f_summary a1 a2 t = (r, t') → ∀ σ1, CR σ1 t' → frC σ σ1 → K r σ1) : w_X6_summary a1 a2 σ K := by
  unfold w_X6_summary
  refine c_told hc ho (fun h1 => ⟨fun _ => h _ _ (by simp [f_summary, h1]) σ hc frC.rf, fun r hr => by cases hr⟩) (fun i σ1 hi e1 h1 hv hb hc1 fr _ => ⟨fun q => (by cases q), fun r hr => ?_⟩)
  cases hr
  have fin : ∀ r : Int32, r = sumV (vC σ1 (kC i)) a2 → K r σ1 := fun r hr => by
    refine h r t ?_ σ1 hc1 (fun q hq => fr q (by omega))
    unfold f_summary
    rw [if_pos h1, hr, hv, e1, ixn (show i < 2 ^ 31 by omega)]
  unfold sumV at fin
  refine br_i (fun c0 => ?_) (fun c0 => br_i (fun c1 => s_counters hb ?_) (fun c1 => br_i (fun c2 => ?_) (fun c2 => br_i (fun c3 => ?_) (fun c3 => br_i (fun c4 => s_gSl ?_) (fun c4 => br_i (fun c5 => s_came ?_) (fun c5 => br_i (fun c6 => ?_) (fun c6 => ?_)))))))
  · exact fin _ (by rw [if_pos c0]; rfl)
  · exact fin _ (by rw [if_neg c0, if_pos c1])
  · exact fin _ (by rw [if_neg c0, if_neg c1, if_pos c2]; rfl)
  · exact fin _ (by rw [if_neg c0, if_neg c1, if_neg c2, if_pos c3]; rfl)
  · exact fin _ (by rw [if_neg c0, if_neg c1, if_neg c2, if_neg c3, if_pos c4])
  · exact fin _ (by rw [if_neg c0, if_neg c1, if_neg c2, if_neg c3, if_neg c4, if_pos c5])
  · exact fin _ (by rw [if_neg c0, if_neg c1, if_neg c2, if_neg c3, if_neg c4, if_neg c5, if_pos c6, held_bits hb])
  · exact fin _ (by rw [if_neg c0, if_neg c1, if_neg c2, if_neg c3, if_neg c4, if_neg c5, if_neg c6])
theorem m_summary (a1 a2 : Int32) (σ : Mem) (t : ST) (K : Int32 → Mem → Prop) (hc : MR σ t) (ho : okT t) (h : ∀ r t', f_summary a1 a2 t = (r, t') → ∀ σ1, MR σ1 t' → frM σ σ1 → K r σ1) : w_X7_summary a1 a2 σ K := by
  unfold w_X7_summary
  refine m_looks hc ho (fun h1 => ⟨fun _ => h _ _ (by simp [f_summary, h1]) σ hc frM.rf, fun q => absurd rfl q⟩) (fun i σ1 hi e1 h1 hv hb hc1 fr _ _ => br_i (fun q => absurd q (nI_ne5 sM8_le)) (fun _ => ?_))
  have fin : ∀ r : Int32, r = sumV (vM (σ1 307) (bs (sM8 i))) a2 → K r σ1 := fun r hr => by
    refine h r t ?_ σ1 hc1 (fun q hq => fr q (by omega))
    unfold f_summary
    rw [if_pos h1, hr, hv, e1, ixn (show i < 2 ^ 31 by omega)]
  unfold sumV at fin
  refine br_i (fun c0 => m_of 0 sM8_le (by omega) ?_) (fun c0 => br_i (fun c1 => m_counters sM8_le hb ?_) (fun c1 => br_i (fun c2 => m_of 1 sM8_le (by omega) ?_) (fun c2 => br_i (fun c3 => m_of 2 sM8_le (by omega) ?_) (fun c3 => br_i (fun c4 => m_gSl sM8_le ?_) (fun c4 => br_i (fun c5 => m_let0 sM8_le ?_) (fun c5 => br_i (fun c6 => m_let1 sM8_le ?_) (fun c6 => ?_)))))))
  · exact fin _ (by rw [if_pos c0]; rfl)
  · exact fin _ (by rw [if_neg c0, if_pos c1])
  · exact fin _ (by rw [if_neg c0, if_neg c1, if_pos c2]; rfl)
  · exact fin _ (by rw [if_neg c0, if_neg c1, if_neg c2, if_pos c3]; rfl)
  · exact fin _ (by rw [if_neg c0, if_neg c1, if_neg c2, if_neg c3, if_pos c4])
  · exact fin _ (by rw [if_neg c0, if_neg c1, if_neg c2, if_neg c3, if_neg c4, if_pos c5])
  · exact fin _ (by rw [if_neg c0, if_neg c1, if_neg c2, if_neg c3, if_neg c4, if_neg c5, if_pos c6])
  · exact fin _ (by rw [if_neg c0, if_neg c1, if_neg c2, if_neg c3, if_neg c4, if_neg c5, if_neg c6])
theorem x_summary (a1 a2 : Int32) {σ : Mem} (hi : Inv σ) : w_X6_summary a1 a2 σ (fun r σ1 => w_X7_summary a1 a2 σ1 (fun r2 σ2 => r = r2 ∧ Inv σ2)) :=
  glue (f := f_summary a1 a2) (C := w_X6_summary a1 a2) (M := w_X7_summary a1 a2) (c_summary a1 a2) (m_summary a1 a2) (fun t ho => by unfold f_summary; split <;> exact ho) hi
