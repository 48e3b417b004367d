/-! What stays true of the numbers. -/
def bdS (s : Sm) (M : Int) : Prop := 0 ≤ (sF s).toInt ∧ (sF s).toInt ≤ (sS s).toInt ∧ (sS s).toInt ≤ M ∧ ∀ l q, sC s l = some q → 0 ≤ q.1.toInt ∧ q.1.toInt ≤ (sS s).toInt ∧ 0 ≤ q.2.1.toInt ∧ q.2.1.toInt ≤ (sS s).toInt
def okS (s : Sm) (M : Int) : Prop := bdS s M ∧ ∃ z : Nat, sZ s = nI z ∧ 2 ≤ z ∧ z ≤ 10 ∧ nC s ≤ z
theorem bd_mono {s : Sm} {M N : Int} (h : bdS s M) (hMN : M ≤ N) : bdS s N := ⟨h.1, h.2.1, by have := h.2.2.1; omega, h.2.2.2⟩
theorem ok_mono {s : Sm} {M N : Int} (h : okS s M) (hMN : M ≤ N) : okS s N := ⟨bd_mono h.1 hMN, h.2⟩
theorem bd_drp {s : Sm} {M : Int} {r : Nat × Cn} (h : bdS s M) (hr : sC s r.1 = some r.2) : bdS (drp s r) M := by
  obtain ⟨a, b, c, d⟩ := h
  obtain ⟨d1, d2, -, -⟩ := d _ _ hr
  refine ⟨?_, ?_, c, fun l q hq => ?_⟩
  · show 0 ≤ (if sF s < r.2.1 then r.2.1 else sF s).toInt
    split <;> omega
  · show (if sF s < r.2.1 then r.2.1 else sF s).toInt ≤ (sS s).toInt
    split <;> omega
  · replace hq : (if l = r.1 then none else sC s l) = some q := hq
    by_cases hl : l = r.1
    · rw [if_pos hl] at hq; cases hq
    · rw [if_neg hl] at hq; exact d l q hq
theorem sS_evc {s : Sm} : sS (evc s) = sS s := by unfold evc; split <;> rfl
theorem bd_evc {s : Sm} {M : Int} (h : bdS s M) : bdS (evc s) M := by
  unfold evc
  cases hl : lst s 26 with
  | none => exact h
  | some r => exact bd_drp h (lst_in hl).2
theorem bd_wev {s : Sm} {M : Int} (h : bdS s M) : bdS (wev s) M := by
  unfold wev
  cases hl : wst s 26 with
  | none => exact h
  | some r => exact bd_drp h (wst_in hl).2
theorem bd_lvN {M : Int} : ∀ {m : Nat} {s : Sm}, bdS s M → bdS (lvN m s) M := by
  intro m
  induction m with
  | zero => intro s h; exact h
  | succ m ih => intro s h; exact ih (bd_wev h)
theorem bd_evN {M : Int} : ∀ {m : Nat} {s : Sm}, bdS s M → bdS (evN m s) M := by
  intro m
  induction m with
  | zero => intro s h; exact h
  | succ m ih => intro s h; exact ih (bd_evc h)
theorem nC_wev {s : Sm} (h : 0 < nC s) : nC (wev s) + 1 = nC s := by
  obtain ⟨r, hr⟩ := nC_posw h
  rw [wev_of hr]
  exact nC_drp (wst_in hr).2 (wst_in hr).1
theorem nC_lvN : ∀ {m : Nat} {s : Sm}, m ≤ nC s → nC (lvN m s) + m = nC s := by
  intro m
  induction m with
  | zero => intro s _; rfl
  | succ m ih =>
    intro s h
    have h1 := nC_wev (s := s) (by omega)
    have := ih (s := wev s) (by omega)
    rw [lvN]; omega
theorem nC_evN : ∀ {m : Nat} {s : Sm}, m ≤ nC s → nC (evN m s) + m = nC s := by
  intro m
  induction m with
  | zero => intro s _; rfl
  | succ m ih =>
    intro s h
    have h1 := nC_evc (s := s) (by omega)
    have := ih (s := evc s) (by omega)
    rw [evN]; omega
theorem sZ_evN : ∀ {m : Nat} {s : Sm}, sZ (evN m s) = sZ s := by
  intro m
  induction m with
  | zero => intro s; rfl
  | succ m ih => intro s; rw [evN, ih, sZ_evc]
theorem add_i {x y : Int32} {a b : Int} (hx : x.toInt = a) (hy : y.toInt = b) (h1 : -2147483648 ≤ a + b) (h2 : a + b < 2147483648) : (x + y).toInt = a + b := by
  rw [Int32.toInt_add, hx, hy]
  apply Int.bmod_eq_of_le <;> omega
theorem evc_inc {s : Sm} {l : Nat} {w : Int32} : evc (inc s l w) = inc (evc s) l w := by
  unfold evc
  rw [lst_congr (s := inc s l w) (s1 := s) (fun _ _ => rfl)]
  cases lst s 26 <;> rfl
def pre (s : Sm) (l : Nat) : Sm := if full s l then evc s else s
theorem rcv_none {s : Sm} {l : Nat} {w t : Int32} (h : sC s l = none) : rcv s l w t = put (inc (pre s l) l w) l (sF (pre s l) + w, sF (pre s l), t) := by
  unfold rcv pre
  rw [h]
  cases full s l with
  | false => rfl
  | true =>
    simp only [if_true]
    rw [evc_inc]; rfl
theorem isS_put {s : Sm} {l : Nat} {q : Cn} : isS (put s l q) = fun j => if j = l then true else isS s j := by
  funext j
  show (if j = l then some q else sC s j).isSome = _
  by_cases h : j = l <;> simp [h, isS]
theorem nC_put {s : Sm} {l : Nat} {q : Cn} (hl : l < 26) : nC (put s l q) + (if isS s l then 1 else 0) = nC s + 1 := by
  unfold nC
  rw [isS_put]
  exact fb_ct_upd (isS s) true hl
theorem bd_rcv {s : Sm} {l : Nat} {w t : Int32} {M N : Int} (h : bdS s M) (hw : 0 ≤ w.toInt) (hN : (sS s).toInt + w.toInt ≤ N) (hN2 : N < 2147483648) : bdS (rcv s l w t) N := by
  have sum : ∀ s', sS s' = sS s → (sS (inc s' l w)).toInt = (sS s).toInt + w.toInt := fun s' e => by
    show (sS s' + w).toInt = _
    rw [e]
    have := h.1
    have := h.2.1
    exact add_i rfl rfl (by omega) (by omega)
  cases hc : sC s l with
  | some q =>
    obtain ⟨a, b, c, d⟩ := h
    have e := sum s rfl
    have : rcv s l w t = put (inc s l w) l (q.1 + w, q.2.1, t) := by unfold rcv; rw [hc]
    rw [this]
    refine ⟨a, ?_, ?_, fun j r hr => ?_⟩
    · show (sF s).toInt ≤ (sS (inc s l w)).toInt; omega
    · show (sS (inc s l w)).toInt ≤ N; omega
    · replace hr : (if j = l then some (q.1 + w, q.2.1, t) else sC s j) = some r := hr
      show _ ∧ r.1.toInt ≤ (sS (inc s l w)).toInt ∧ _ ∧ r.2.1.toInt ≤ (sS (inc s l w)).toInt
      by_cases hj : j = l
      · rw [if_pos hj] at hr
        cases hr
        obtain ⟨d1, d2, d3, d4⟩ := d _ _ hc
        have e2 : (q.1 + w).toInt = q.1.toInt + w.toInt := add_i rfl rfl (by omega) (by omega)
        dsimp only
        omega
      · rw [if_neg hj] at hr
        obtain ⟨d1, d2, d3, d4⟩ := d _ _ hr
        omega
  | none =>
    rw [rcv_none hc]
    have hp : bdS (pre s l) M := by
      unfold pre
      split
      · exact bd_evc h
      · exact h
    have es : sS (pre s l) = sS s := by
      unfold pre
      split
      · exact sS_evc
      · rfl
    have e := sum (pre s l) es
    obtain ⟨a, b, c, d⟩ := hp
    rw [es] at b
    refine ⟨a, ?_, ?_, fun j r hr => ?_⟩
    · show (sF (pre s l)).toInt ≤ (sS (inc (pre s l) l w)).toInt; omega
    · show (sS (inc (pre s l) l w)).toInt ≤ N; omega
    · replace hr : (if j = l then some (sF (pre s l) + w, sF (pre s l), t) else sC (pre s l) j) = some r := hr
      show _ ∧ r.1.toInt ≤ (sS (inc (pre s l) l w)).toInt ∧ _ ∧ r.2.1.toInt ≤ (sS (inc (pre s l) l w)).toInt
      by_cases hj : j = l
      · rw [if_pos hj] at hr
        cases hr
        have e2 : (sF (pre s l) + w).toInt = (sF (pre s l)).toInt + w.toInt := add_i rfl rfl (by omega) (by omega)
        dsimp only
        omega
      · rw [if_neg hj] at hr
        obtain ⟨d1, d2, d3, d4⟩ := d _ _ hr
        rw [es] at d2 d4
        omega
theorem nC_rcv {s : Sm} {l z : Nat} {w t : Int32} (hl : l < 26) (hz : sZ s = nI z) (hz1 : 1 ≤ z) (hz2 : z < 2 ^ 31) (hn : nC s ≤ z) : nC (rcv s l w t) ≤ z := by
  cases hc : sC s l with
  | some q =>
    have : rcv s l w t = put (inc s l w) l (q.1 + w, q.2.1, t) := by unfold rcv; rw [hc]
    rw [this]
    have h := nC_put (s := inc s l w) (q := (q.1 + w, q.2.1, t)) hl
    have hi : isS (inc s l w) l = true := by show (sC s l).isSome = true; rw [hc]; rfl
    rw [hi] at h
    have : nC (inc s l w) = nC s := rfl
    simp at h; omega
  | none =>
    rw [rcv_none hc]
    have h := nC_put (s := inc (pre s l) l w) (q := (sF (pre s l) + w, sF (pre s l), t)) hl
    have h0 : nC (inc (pre s l) l w) = nC (pre s l) := rfl
    have hlt : nC (pre s l) + 1 ≤ z := by
      unfold pre
      have hle := nC_le s
      by_cases hf : full s l = true
      · rw [if_pos hf]
        unfold full at hf
        rw [hz] at hf
        simp only [Bool.and_eq_true, decide_eq_true_eq] at hf
        have := (nI_le_iff hz2 (by omega)).mp hf.2
        have := nC_evc (s := s) (by omega)
        omega
      · rw [if_neg hf]
        have hi : isS s l = false := by unfold isS; rw [hc]; rfl
        unfold full at hf
        rw [hi, hz] at hf
        simp only [Bool.not_false, Bool.true_and, decide_eq_true_eq] at hf
        have : ¬ z ≤ nC s := fun q => hf ((nI_le_iff hz2 (by omega)).mpr q)
        omega
    rw [h0] at h
    omega
theorem ok_rcv {s : Sm} {l : Nat} {w t : Int32} {M N : Int} (h : okS s M) (hl : l < 26) (hw : 0 ≤ w.toInt) (hN : (sS s).toInt + w.toInt ≤ N) (hN2 : N < 2147483648) : okS (rcv s l w t) N := by
  obtain ⟨hb, z, h1, h2, h3, h4⟩ := h
  exact ⟨bd_rcv hb hw hN hN2, z, by rw [rcv_sZ]; exact h1, h2, h3, nC_rcv hl h1 (by omega) (by omega) h4⟩
theorem bd_uP {s : Sm} {M : Int} (h : bdS s M) (l : Nat) : 0 ≤ (uP s l).toInt ∧ (uP s l).toInt ≤ (sS s).toInt ∧ 0 ≤ (sL s l).toInt ∧ (sL s l).toInt ≤ (sS s).toInt := by
  obtain ⟨a, b, c, d⟩ := h
  unfold uP sL
  cases hc : sC s l with
  | none => exact ⟨a, b, a, b⟩
  | some q => exact d l q hc
theorem bd_mrg {s o : Sm} {t : Int32} {M N : Int} (h : bdS s M) (h2 : bdS o N) (hMN : (sS s).toInt + (sS o).toInt < 2147483648) : bdS (mrg s o t) ((sS s).toInt + (sS o).toInt) := by
  have a1 := h.1
  have a2 := h.2.1
  have b1 := h2.1
  have b2 := h2.2.1
  have e : (sS (mrg s o t)).toInt = (sS s).toInt + (sS o).toInt := add_i rfl rfl (by omega) (by omega)
  have e2 : (sF (mrg s o t)).toInt = (sF s).toInt + (sF o).toInt := add_i rfl rfl (by omega) (by omega)
  refine ⟨by rw [e2]; omega, by rw [e, e2]; omega, by rw [e]; omega, fun l q hq => ?_⟩
  replace hq : (if (isS s l || isS o l) = true then some (uP s l + uP o l, sL s l + sL o l, t) else none) = some q := hq
  obtain ⟨u1, u2, u3, u4⟩ := bd_uP h l
  obtain ⟨v1, v2, v3, v4⟩ := bd_uP h2 l
  by_cases hx : (isS s l || isS o l) = true
  · rw [if_pos hx] at hq
    cases hq
    have g1 : (uP s l + uP o l).toInt = (uP s l).toInt + (uP o l).toInt := add_i rfl rfl (by omega) (by omega)
    have g2 : (sL s l + sL o l).toInt = (sL s l).toInt + (sL o l).toInt := add_i rfl rfl (by omega) (by omega)
    rw [e]
    dsimp only
    omega
  · rw [if_neg hx] at hq; cases hq
theorem ok_mrg {s o : Sm} {t : Int32} {z : Nat} {M N : Int} (h : okS s M) (h2 : bdS o N) (hz : sZ s = nI z) (hz2 : z < 2 ^ 31) (hMN : (sS s).toInt + (sS o).toInt < 2147483648) : okS (lvN (nC (mrg s o t) - z) (mrg s o t)) ((sS s).toInt + (sS o).toInt) := by
  obtain ⟨hb, z2, g1, g2, g3, g4⟩ := h
  have : z2 = z := (nI_eq (by omega) hz2).mp (g1.symm.trans hz)
  subst this
  refine ⟨bd_lvN (bd_mrg hb h2 hMN), z2, by rw [sZ_lvN]; exact g1, g2, g3, ?_⟩
  have := nC_lvN (m := nC (mrg s o t) - z2) (s := mrg s o t) (by omega)
  omega
theorem sS_lvN : ∀ {m : Nat} {s : Sm}, sS (lvN m s) = sS s := by
  intro m
  induction m with
  | zero => intro s; rfl
  | succ m ih => intro s; rw [lvN, ih]; unfold wev; split <;> rfl
theorem ok_e4 {M : Int} (hM : 0 ≤ M) : okS e4 M := by
  refine ⟨⟨by decide, by decide, ?_, fun l q h => by cases h⟩, 4, rfl, by omega, by omega, ?_⟩
  · show (0 : Int32).toInt ≤ M
    exact hM
  · have : nC e4 = 0 := fb_ct_zero.mpr (fun _ _ => rfl)
    omega
theorem ok_emp {s : Sm} {M : Int} (h : okS s M) {N : Int} (hN : 0 ≤ N) : okS (emp s) N := by
  obtain ⟨-, z, g1, g2, g3, -⟩ := h
  refine ⟨⟨by show 0 ≤ (0 : Int32).toInt; decide, by show (0 : Int32).toInt ≤ (0 : Int32).toInt; decide, by show (0 : Int32).toInt ≤ N; exact hN, fun l q h => by cases h⟩, z, g1, g2, g3, ?_⟩
  have : nC (emp s) = 0 := fb_ct_zero.mpr (fun _ _ => rfl)
  omega
theorem ok_smC {s : Sm} {M : Int} (h : okS s M) (hM : M < 2 ^ 30) : smC s := fun l q hq => by
  obtain ⟨a, b, -, -⟩ := h.1.2.2.2 l q hq
  have := h.1.2.2.1
  exact ⟨a, by omega⟩
/-! of a state -/
def okA (A : AS) : Prop := (∀ i, i < 4 → okS (aSm A i) 1000000) ∧ ∃ kp ar : Nat, aKp A = nI kp ∧ 1 ≤ kp ∧ kp ≤ 4 ∧ aAr A = nI ar ∧ ar ≤ 8 ∧ (∀ i, i + 1 < kp → okS (aBl A i) 792) ∧ okS (aBl A (kp - 1)) (99 * ar) ∧ (∀ i, i < kp → sZ (aBl A i) = 4)
theorem okA_sm {A B : AS} (h : okA A) (hs : ∀ i, i < 4 → okS (aSm B i) 1000000) (h2 : aBl B = aBl A) (h3 : aKp B = aKp A) (h4 : aAr B = aAr A) : okA B := by
  obtain ⟨-, kp, ar, r⟩ := h
  exact ⟨hs, kp, ar, by rw [h2, h3, h4]; exact r⟩
theorem ok_brS {A : AS} {i l : Nat} {w : Int32} (h : okA A) (hi : i < 4) (hl : l < 26) (hw : 0 ≤ w.toInt) (hs : (sS (aSm A i)).toInt + w.toInt ≤ 1000000) : okA (brS A i l w) := by
  refine okA_sm h (fun j hj => ?_) rfl rfl rfl
  show okS (if j = i then rcv (aSm A i) l w (aTm A + 1) else aSm A j) 1000000
  by_cases hji : j = i
  · rw [if_pos hji]; exact ok_rcv (h.1 i hi) hl hw hs (by omega)
  · rw [if_neg hji]; exact h.1 j hj
theorem ok_brW {A : AS} {l : Nat} {w : Int32} (h : okA A) (hl : l < 26) (hw : 0 ≤ w.toInt) (hw2 : w.toInt ≤ 99) (har : aAr A < 8) : okA (brW A l w) := by
  obtain ⟨hs, kp, ar, h1, h2, h3, h4, h5, h6, h7, h8⟩ := h
  have har2 : ar < 8 := by rw [h4] at har; exact (ar8 ar h5).mp har
  have hk : ix (aKp A) = kp := by rw [h1, ixn (by omega)]
  refine ⟨hs, kp, ar + 1, h1, h2, h3, ?_, by omega, fun i hi => ?_, ?_, fun i hi => ?_⟩
  · show aAr A + 1 = _; rw [h4, nI_1]
  · show okS (if i = ix (aKp A) - 1 then _ else aBl A i) 792
    rw [hk, if_neg (by omega)]; exact h6 i hi
  · show okS (if kp - 1 = ix (aKp A) - 1 then rcv (aBl A (ix (aKp A) - 1)) l w (aTm A + 1) else _) _
    rw [hk, if_pos rfl]
    have := h7.1.2.2.1
    exact ok_rcv h7 hl hw (by omega) (by omega)
  · show sZ (if i = ix (aKp A) - 1 then rcv (aBl A (ix (aKp A) - 1)) l w (aTm A + 1) else aBl A i) = 4
    rw [hk]
    by_cases hik : i = kp - 1
    · rw [if_pos hik, rcv_sZ]; exact h8 _ (by omega)
    · rw [if_neg hik]; exact h8 i hi
theorem ok_beg {A : AS} (h : okA A) (har : ¬ aAr A < 8) : okA (begA A) := by
  obtain ⟨hs, kp, ar, h1, h2, h3, h4, h5, h6, h7, h8⟩ := h
  have har2 : ar = 8 := by
    rw [h4] at har
    have : ¬ ar < 8 := fun q => har ((ar8 ar h5).mpr q)
    omega
  subst har2
  have hk : ix (aKp A) = kp := by rw [h1, ixn (by omega)]
  have all : ∀ i, i < kp → okS (aBl A i) 792 := fun i hi => by
    by_cases hik : i + 1 < kp
    · exact h6 i hik
    · rw [show i = kp - 1 by omega]; exact h7
  by_cases hk4 : kp < 4
  · refine ⟨hs, kp + 1, 0, ?_, by omega, by omega, rfl, by omega, fun i hi => ?_, ?_, fun i hi => ?_⟩
    · show nI (if ix (aKp A) < 4 then ix (aKp A) + 1 else 4) = _; rw [hk, if_pos hk4]
    · show okS (bgn (aBl A) (ix (aKp A)) i) 792
      unfold bgn
      rw [hk, if_pos hk4, if_neg (by omega)]; exact all i (by omega)
    · show okS (bgn (aBl A) (ix (aKp A)) (kp + 1 - 1)) _
      unfold bgn
      rw [hk, if_pos hk4, if_pos (by omega)]; exact ok_e4 (by omega)
    · show sZ (bgn (aBl A) (ix (aKp A)) i) = 4
      unfold bgn
      rw [hk, if_pos hk4]
      by_cases hik : i = kp
      · rw [if_pos hik]; rfl
      · rw [if_neg hik]; exact h8 i (by omega)
  · obtain rfl : kp = 4 := by omega
    refine ⟨hs, 4, 0, ?_, by omega, by omega, rfl, by omega, fun i hi => ?_, ?_, fun i hi => ?_⟩
    · show nI (if ix (aKp A) < 4 then ix (aKp A) + 1 else 4) = _; rw [hk, if_neg hk4]
    · show okS (bgn (aBl A) (ix (aKp A)) i) 792
      unfold bgn
      rw [hk, if_neg hk4, if_neg (by omega), if_pos (by omega)]; exact all (i + 1) (by omega)
    · show okS (bgn (aBl A) (ix (aKp A)) (4 - 1)) _
      unfold bgn
      rw [hk, if_neg hk4, if_pos (by omega)]; exact ok_e4 (by omega)
    · show sZ (bgn (aBl A) (ix (aKp A)) i) = 4
      unfold bgn
      rw [hk, if_neg hk4]
      by_cases hik : i = 3
      · rw [if_pos hik]; rfl
      · rw [if_neg hik, if_pos (by omega)]; exact h8 (i + 1) (by omega)
theorem ok_fl {A : AS} {l : Nat} {w : Int32} (h : okA A) (hl : l < 26) (hw : 0 ≤ w.toInt) (hw2 : w.toInt ≤ 99) : okA (flA A l w) := by
  unfold flA
  by_cases har : aAr A < 8
  · rw [if_pos har]; exact ok_brW h hl hw hw2 har
  · rw [if_neg har]; exact ok_brW (ok_beg h har) hl hw hw2 (by show (0 : Int32) < 8; decide)
theorem ok_join {A : AS} {i j : Nat} (h : okA A) (hi : i < 4) (hj : j < 4) (hs : (sS (aSm A i)).toInt + (sS (aSm A j)).toInt ≤ 1000000) : okA (joinA A i j) := by
  refine okA_sm h (fun q hq => ?_) rfl rfl rfl
  show okS (if q = j then emp (aSm A j) else if q = i then lvN (lft (aSm A i) (aSm A j) (aTm A)) (mrg (aSm A i) (aSm A j) (aTm A)) else aSm A q) 1000000
  by_cases hqj : q = j
  · rw [if_pos hqj]; exact ok_emp (h.1 j hj) (by omega)
  · rw [if_neg hqj]
    by_cases hqi : q = i
    · rw [if_pos hqi]
      obtain ⟨hb, z, g1, g2, g3, g4⟩ := id (h.1 i hi)
      have ez : zN (aSm A i) = z := by unfold zN; rw [g1, ixn (by omega)]
      unfold lft
      rw [ez]
      exact ok_mono (ok_mrg (h.1 i hi) (h.1 j hj).1 g1 (by omega) (by omega)) hs
    · rw [if_neg hqi]; exact h.1 q hq
theorem rs_sm : ∀ (m : Nat) (A : AS) (i q : Nat), aSm (rsN m A i) q = if q = i then evN m (aSm A i) else aSm A q := by
  intro m
  induction m with
  | zero =>
    intro A i q
    show aSm A q = if q = i then aSm A i else aSm A q
    by_cases h : q = i
    · rw [if_pos h, h]
    · rw [if_neg h]
  | succ m ih =>
    intro A i q
    rw [rsN, ih]
    have e : aSm (ev1 A i) i = evc (aSm A i) := if_pos rfl
    by_cases h : q = i
    · rw [if_pos h, if_pos h, e, evN]
    · rw [if_neg h, if_neg h]; exact if_neg h
theorem rs_rest : ∀ (m : Nat) (A : AS) (i : Nat), aBl (rsN m A i) = aBl A ∧ aKp (rsN m A i) = aKp A ∧ aAr (rsN m A i) = aAr A ∧ aBg (rsN m A i) = aBg A := by
  intro m
  induction m with
  | zero => intro A i; exact ⟨rfl, rfl, rfl, rfl⟩
  | succ m ih => intro A i; rw [rsN]; exact ih (ev1 A i) i
theorem ok_rs {A : AS} {i z : Nat} (h : okA A) (hi : i < 4) (hz : 2 ≤ z) (hz2 : z ≤ 10) : okA (rsN (nC (aSm A i) - z) (zet A i (nI z)) i) := by
  obtain ⟨r1, r2, r3, r4⟩ := rs_rest (nC (aSm A i) - z) (zet A i (nI z)) i
  refine okA_sm h (fun q hq => ?_) r1 r2 r3
  rw [rs_sm]
  by_cases hqi : q = i
  · rw [if_pos hqi]
    have e : aSm (zet A i (nI z)) i = (nI z, (aSm A i).2) := if_pos rfl
    rw [e]
    have hb : bdS ((nI z, (aSm A i).2) : Sm) 1000000 := (h.1 i hi).1
    have hn : nC ((nI z, (aSm A i).2) : Sm) = nC (aSm A i) := rfl
    have := nC_evN (m := nC (aSm A i) - z) (s := (nI z, (aSm A i).2)) (by omega)
    exact ⟨bd_evN hb, z, by rw [sZ_evN]; rfl, hz, hz2, by omega⟩
  · rw [if_neg hqi]
    show okS (if q = i then _ else aSm A q) _
    rw [if_neg hqi]; exact h.1 q hq
theorem ok_whl {A : AS} (h : okA A) : okS (whl A) 3168 := by
  obtain ⟨hs, kp, ar, h1, h2, h3, h4, h5, h6, h7, h8⟩ := h
  have hk : ix (aKp A) = kp := by rw [h1, ixn (by omega)]
  have all : ∀ i, i < kp → okS (aBl A i) 792 := fun i hi => by
    by_cases hik : i + 1 < kp
    · exact h6 i hik
    · rw [show i = kp - 1 by omega]; exact ok_mono h7 (by omega)
  have key : ∀ n, n < kp → okS (lkN (aBl A) (aTm A) n) (792 * (n + 1)) ∧ sZ (lkN (aBl A) (aTm A) n) = 4 := by
    intro n
    induction n with
    | zero => intro hn; exact ⟨ok_mono (all 0 hn) (by omega), h8 0 hn⟩
    | succ n ih =>
      intro hn
      obtain ⟨i1, i2⟩ := ih (by omega)
      have a1 := i1.1.2.2.1
      have a2 := (all (n + 1) hn).1.2.2.1
      rw [lkN]
      refine ⟨ok_mono (ok_mrg i1 (all (n + 1) hn).1 (z := 4) i2 (by omega) (by omega)) ?_, by rw [sZ_lvN]; exact i2⟩
      have : ((n + 1 : Nat) : Int) = (n : Int) + 1 := by omega
      rw [this]
      omega
  unfold whl
  rw [hk]
  refine ok_mono (key (kp - 1) (by omega)).1 ?_
  have : ((kp - 1 : Nat) : Int) + 1 ≤ 4 := by omega
  omega
