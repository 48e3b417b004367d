theorem lst_congr {s s1 : Sm} : ∀ {n : Nat}, (∀ l, l < n → sC s l = sC s1 l) → lst s n = lst s1 n := by
  intro n
  induction n with
  | zero => intro _; rfl
  | succ n ih =>
    intro h
    rw [lst, lst, h n (Nat.lt_succ_self n), ih (fun l hl => h l (by omega))]
theorem nC_drp {s : Sm} {r : Nat × Cn} (h : sC s r.1 = some r.2) (hr : r.1 < 26) : nC (drp s r) + 1 = nC s := by
  have e : isS (drp s r) = fun j => if j = r.1 then false else isS s j := by
    funext j
    show (if j = r.1 then none else sC s j).isSome = _
    by_cases hj : j = r.1 <;> simp [hj, isS]
  unfold nC
  rw [e]
  have := fb_ct_upd (isS s) false (i := r.1) (n := 26) hr
  have h2 : isS s r.1 = true := by unfold isS; rw [h]; rfl
  rw [h2] at this
  exact this
theorem nC_le (s : Sm) : nC s ≤ 26 := fb_ct_le _ _
theorem nC_pos {s : Sm} (h : 0 < nC s) : ∃ r, lst s 26 = some r := by
  cases hl : lst s 26 with
  | some r => exact ⟨r, rfl⟩
  | none =>
    have h2 := lst_some.mp hl
    have : nC s = 0 := fb_ct_zero.mpr (fun l hl => by unfold isS; rw [h2 l hl]; rfl)
    omega
theorem nC_posw {s : Sm} (h : 0 < nC s) : ∃ r, wst s 26 = some r := by
  cases hl : wst s 26 with
  | some r => exact ⟨r, rfl⟩
  | none =>
    have h2 := wst_some.mp hl
    have : nC s = 0 := fb_ct_zero.mpr (fun l hl => by unfold isS; rw [h2 l hl]; rfl)
    omega
theorem evc_of {s : Sm} {r : Nat × Cn} (h : lst s 26 = some r) : evc s = drp s r := by unfold evc; rw [h]
theorem wev_of {s : Sm} {r : Nat × Cn} (h : wst s 26 = some r) : wev s = drp s r := by unfold wev; rw [h]
theorem vC_put {σ σ1 : Mem} {k i : Nat} {c sl t : Int32} (hi : i < 26) (h0 : σ1 k 0 = σ k 0) (h1 : σ1 k 1 = σ k 1) (h2 : σ1 k 2 = σ k 2) (hb : ∀ l, l < 26 → bt (σ1 k 3) l = (bt (σ k 3) l || decide (l = i)))
    (hc : ∀ l, σ1 (k + 1) l = if l = i then c else σ (k + 1) l) (hs : ∀ l, σ1 (k + 2) l = if l = i then sl else σ (k + 2) l) (ht : ∀ l, σ1 (k + 3) l = if l = i then t else σ (k + 3) l) (hm : ∀ l, l < 26 → σ1 (k + 4) l = σ (k + 4) l) : vC σ1 k = put (vC σ k) i (c, sl, t) := by
  refine Prod.ext h0 (Prod.ext h1 (Prod.ext h2 (Prod.ext ?_ ?_)))
  · funext l
    show cC σ1 k l = if l = i then some (c, sl, t) else cC σ k l
    unfold cC
    by_cases hl : l < 26
    · rw [hb l hl, hc l, hs l, ht l]
      by_cases hli : l = i
      · subst hli; simp [hl]
      · simp [hli]
    · have : ¬ l = i := by omega
      simp [hl, this]
  · funext l
    show (if l < 26 then σ1 (k + 4) l else 0) = if l < 26 then σ (k + 4) l else 0
    by_cases hl : l < 26
    · rw [if_pos hl, if_pos hl, hm l hl]
    · rw [if_neg hl, if_neg hl]
theorem s_recv_58 {k i : Nat} {w t x : Int32} {σ : Mem} {K : Int32 → Mem → Prop} (hi : i < 26) (hb : hbC σ k) (h : ∀ σ1, P1 k (put (vC σ k) i (sF (vC σ k) + w, sF (vC σ k), t)) σ σ1 → K x σ1) : w_X3_receive_58 k (nI i) w t K x σ := by
  refine ⟨vi hi, ?_⟩
  rw [ixn (show i < 2 ^ 31 by omega)]
  rintro _ rfl
  refine ⟨vi hi, ?_⟩
  rintro _ rfl _ rfl
  refine ⟨vi hi, ?_⟩
  rintro _ rfl
  refine h _ ⟨vC_put hi ?_ ?_ ?_ (fun l hl => ?_) (fun l => ?_) (fun l => ?_) (fun l => ?_) (fun l hl => ?_), fun p hp => ?_, fun j h1 h2 => ?_⟩
  · simp [mu, ms, upd]
  · simp [mu, ms, upd]
  · simp [mu, ms, upd]
  · rw [← bt_set (by omega) (by omega)]; simp [mu, ms, upd]
  · simp [mu, ms, upd]; rfl
  · simp [mu, ms, upd]; rfl
  · simp [mu, ms, upd]
  · simp [mu, ms, upd]
  · simp [mu, ms, show p ≠ k by omega, show p ≠ k + 1 by omega, show p ≠ k + 2 by omega, show p ≠ k + 3 by omega]
  · have e : bt ((σ k 3) ||| (1 <<< (nI i &&& 31))) j = (bt (σ k 3) j || decide (j = i)) := bt_set (by omega) h2
    simp [mu, ms, upd]
    rw [e, hb j h1 h2]
    simp; omega
theorem vC_inc {σ σ1 : Mem} {k i : Nat} {w : Int32} (hi : i < 26) (h0 : σ1 k 0 = σ k 0) (h1 : σ1 k 1 = σ k 1) (h2 : σ1 k 2 = σ k 2 + w) (h3 : σ1 k 3 = σ k 3) (ha : ∀ l, l < 26 → σ1 (k + 1) l = σ (k + 1) l) (hb : ∀ l, l < 26 → σ1 (k + 2) l = σ (k + 2) l) (hc : ∀ l, l < 26 → σ1 (k + 3) l = σ (k + 3) l) (hm : ∀ l, l < 26 → σ1 (k + 4) l = if l = i then σ (k + 4) l + w else σ (k + 4) l) : vC σ1 k = inc (vC σ k) i w := by
  refine Prod.ext h0 (Prod.ext h1 (Prod.ext h2 (Prod.ext ?_ ?_)))
  · funext l
    show cC σ1 k l = cC σ k l
    unfold cC
    rw [h3]
    by_cases hl : l < 26
    · rw [ha l hl, hb l hl, hc l hl]
    · simp [hl]
  · funext l
    show (if l < 26 then σ1 (k + 4) l else 0) = if l = i then (if l < 26 then σ (k + 4) l else 0) + w else (if l < 26 then σ (k + 4) l else 0)
    by_cases hl : l < 26
    · rw [if_pos hl, if_pos hl, hm l hl]
    · have : ¬ l = i := by omega
      simp [hl, this]
theorem P1.tr {k : Nat} {s1 s2 : Sm} {σ σ1 σ2 : Mem} (h : P1 k s1 σ σ1) (h2 : P1 k s2 σ1 σ2) : P1 k s2 σ σ2 := ⟨h2.1, h.2.1.tr h2.2.1, h2.2.2⟩
theorem s_receive {k i : Nat} {w t : Int32} {σ : Mem} {K : Int32 → Mem → Prop} (hi : i < 26) (hb : hbC σ k) (h : ∀ σ1, P1 k (rcv (vC σ k) i w t) σ σ1 → K (enc (gone (vC σ k) i)) σ1) : w_X3_receive k (nI i) w t σ K := by
  rintro σ1 rfl
  refine ⟨vi hi, vi hi, ?_⟩
  rw [ixn (show i < 2 ^ 31 by omega)]
  rintro σ4 e4
  have hP : P1 k (inc (vC σ k) i w) σ σ4 := by
    rw [e4]
    refine ⟨vC_inc hi ?_ ?_ ?_ ?_ (fun l hl => ?_) (fun l hl => ?_) (fun l hl => ?_) (fun l hl => ?_), fun p hp => ?_, fun j h1 h2 => ?_⟩
    · simp [mu, ms, upd]
    · simp [mu, ms, upd]
    · simp [mu, ms, upd]
    · simp [mu, ms, upd]
    · simp [mu, ms]
    · simp [mu, ms]
    · simp [mu, ms]
    · by_cases hli : l = i
      · subst hli; simp [mu, ms, upd]
      · simp [mu, ms, upd, hli]
    · simp [mu, ms, show p ≠ k by omega, show p ≠ k + 4 by omega]
    · simp [mu, ms, upd]; exact hb j h1 h2
  clear e4
  refine s_has hi (br_b (fun hc => s_room hi hP.2.2 (br_b (fun hf => ?_) (fun hf => ?_))) (fun hc => ?_))
  · refine s_recv_58 hi hP.2.2 (fun σ2 h2 => ?_)
    rw [hP.1] at hc hf h2
    have e1 : sC (vC σ k) i = none := isS_none (s := inc (vC σ k) i w) hc
    have e2 : full (vC σ k) i = false := hf
    have := h σ2 (by unfold rcv; rw [e1, e2]; exact hP.tr h2)
    unfold gone at this
    rw [e2] at this
    exact this
  · refine s_evict hP.2.2 (fun σ2 h2 => s_recv_58 hi h2.2.2 (fun σ3 h3 => ?_))
    rw [h2.1] at h3
    rw [hP.1] at hc hf h2 h3 ⊢
    have e1 : sC (vC σ k) i = none := isS_none (s := inc (vC σ k) i w) hc
    have e2 : full (vC σ k) i = true := hf
    have := h σ3 (by unfold rcv; rw [e1, e2]; exact (hP.tr h2).tr h3)
    unfold gone at this
    rw [e2] at this
    exact this
  · obtain ⟨q, hq⟩ := isS_some hc
    have hq' : sC (vC σ k) i = some q := by rw [hP.1] at hq; exact hq
    obtain ⟨-, hbt, hqe⟩ := cC_some hq
    refine ⟨vi hi, vi hi, ?_⟩
    rintro σ5 e5
    refine ⟨vi hi, ?_⟩
    rintro σ6 e6
    have := h σ6 (by
      unfold rcv
      rw [hq']
      refine hP.tr ⟨?_, fun p hp => ?_, fun j h1 h2 => ?_⟩
      · rw [← hP.1, hqe]
        refine vC_put hi ?_ ?_ ?_ (fun l hl => ?_) (fun l => ?_) (fun l => ?_) (fun l => ?_) (fun l hl => ?_)
        · simp [e6, e5, mu, ms]
        · simp [e6, e5, mu, ms]
        · simp [e6, e5, mu, ms]
        · have : σ6 k 3 = σ4 k 3 := by simp [e6, e5, mu, ms]
          rw [this]
          by_cases hli : l = i
          · subst hli; rw [hbt]; simp
          · simp [hli]
        · simp [e6, e5, mu, ms, upd]
        · by_cases hli : l = i
          · subst hli; simp [e6, e5, mu, ms]
          · simp [e6, e5, mu, ms, hli]
        · simp [e6, e5, mu, ms, upd]
        · simp [e6, e5, mu, ms]
      · simp [e6, e5, mu, ms, show p ≠ k + 1 by omega, show p ≠ k + 3 by omega]
      · have : σ6 k 3 = σ4 k 3 := by simp [e6, e5, mu, ms]
        rw [this]; exact hP.2.2 j h1 h2)
    unfold gone full at this
    rw [show isS (vC σ k) i = true from by unfold isS; rw [hq']; rfl] at this
    exact this
theorem s_wipe_loop {k : Nat} {K : Mem → Prop} : ∀ d i (σ : Mem), i + d = 26 → (∀ σ1, (∀ q, q ≠ k + 4 → σ1 q = σ q) → (∀ l, l < i → σ1 (k + 4) l = σ (k + 4) l) → (∀ l, i ≤ l → l < 26 → σ1 (k + 4) l = 0) → K σ1) → w_X3_wipe_17 k K (d + 1) (nI i) σ := by
  intro d
  induction d with
  | zero =>
    intro i σ hi h
    rw [w_X3_wipe_17]
    obtain rfl : i = 26 := by omega
    exact ⟨fun _ => h σ (fun _ _ => rfl) (fun _ _ => rfl) (fun l a b => by omega), fun hc => absurd (nI_le (a := 26) (Nat.le_refl _) (by omega)) hc⟩
  | succ d ih =>
    intro i σ hi h
    have hi2 : i < 26 := by omega
    rw [w_X3_wipe_17]
    refine ⟨fun hc => absurd hc (ge26 hi2), fun _ => ⟨vi hi2, ?_⟩⟩
    rintro σ5 e5
    rw [ixn (show i < 2 ^ 31 by omega)] at e5
    rw [nI_1]
    refine ih (i + 1) σ5 (by omega) (fun σ1 h1 h2 h3 => h σ1 (fun q hq => ?_) (fun l hl => ?_) (fun l ha hl => ?_))
    · rw [h1 q hq, e5, mu_o hq]
    · rw [h2 l (by omega), e5, mu_k]; simp [upd, show l ≠ i by omega]
    · by_cases hli : l = i
      · subst hli; rw [h2 l (by omega), e5, mu_k]; simp [upd]
      · exact h3 l (by omega) hl
theorem s_wipe {k : Nat} {σ : Mem} {K : Mem → Prop} (h : ∀ σ1, P1 k (emp (vC σ k)) σ σ1 → K σ1) : w_X3_wipe k σ K := by
  rintro σ1 e1 σ2 e2 σ3 e3
  refine ⟨27, s_wipe_loop 26 0 σ3 rfl (fun σ4 h1 _ h3 => h σ4 ⟨?_, fun p hp => ?_, fun j ha hb => ?_⟩)⟩
  · have e : σ4 k = σ3 k := h1 k (by omega)
    refine Prod.ext ?_ (Prod.ext ?_ (Prod.ext ?_ (Prod.ext ?_ ?_)))
    · show σ4 k 0 = σ k 0
      rw [e, e3, e2, e1]; simp [mu, ms, upd]
    · show σ4 k 1 = 0
      rw [e, e3, e2, e1]; simp [mu, ms, upd]
    · show σ4 k 2 = 0
      rw [e, e3, e2, e1]; simp [mu, ms, upd]
    · funext l
      show cC σ4 k l = none
      have : σ4 k 3 = 0 := by rw [e, e3, e2, e1]; simp [mu, ms, upd]
      unfold cC
      rw [this, b_0]
      simp
    · funext l
      show (if l < 26 then σ4 (k + 4) l else 0) = 0
      by_cases hl : l < 26
      · rw [if_pos hl]; exact h3 l (Nat.zero_le _) hl
      · rw [if_neg hl]
  · rw [h1 p (by omega), e3, e2, e1]; simp [mu, ms, show p ≠ k by omega]
  · have : σ4 k 3 = 0 := by rw [h1 k (by omega), e3, e2, e1]; simp [mu, ms, upd]
    rw [this, b_0]
theorem cpy26 {f g : Nat → Int32} {l : Nat} (hl : l < 26) : va_cpy f g 0 0 26 l = f l := by simp [va_cpy, hl]
theorem s_become {k o : Nat} {σ : Mem} {K : Mem → Prop} (hd : k + 4 < o ∨ o + 4 < k) (hb : hbC σ o) (h : ∀ σ1, P1 k (vC σ o) σ σ1 → K σ1) : w_X3_become k o σ K := by
  have n0 : ¬ o = k := by omega
  have n1 : ¬ o + 1 = k := by omega
  have n2 : ¬ o + 2 = k := by omega
  have n3 : ¬ o + 3 = k := by omega
  have n4 : ¬ o + 4 = k := by omega
  have m1 : ¬ o = k + 1 := by omega
  have m2 : ¬ o = k + 2 := by omega
  have m3 : ¬ o = k + 3 := by omega
  rintro σ1 e1 σ2 e2 σ3 e3 σ4 e4 σ5 e5 σ6 e6 σ7 e7 σ8 e8
  refine h σ8 ⟨vC_ext ?_ ?_ ?_ ?_ (fun l hl => ?_) (fun l hl => ?_) (fun l hl => ?_) (fun l hl => ?_), fun p hp => ?_, fun j h1 h2 => ?_⟩
  · simp [e8, e7, e6, e5, e4, e3, e2, e1, mu, ms, upd, n0]
  · simp [e8, e7, e6, e5, e4, e3, e2, e1, mu, ms, upd, n0]
  · simp [e8, e7, e6, e5, e4, e3, e2, e1, mu, ms, upd, n0]
  · simp [e8, e7, e6, e5, e4, e3, e2, e1, mu, ms, upd, n0]
  · simp [e8, e7, e6, e5, e4, e3, e2, e1, mu, ms, upd, n0, n1, cpy26 hl]
  · simp [e8, e7, e6, e5, e4, e3, e2, e1, mu, ms, upd, n0, n1, n2, m1, cpy26 hl]
  · simp [e8, e7, e6, e5, e4, e3, e2, e1, mu, ms, upd, n0, n1, n2, n3, m1, m2, cpy26 hl]
  · simp [e8, e7, e6, e5, e4, e3, e2, e1, mu, ms, upd, n0, n1, n2, n3, n4, m1, m2, m3, cpy26 hl]
  · simp [e8, e7, e6, e5, e4, e3, e2, e1, mu, ms, show p ≠ k by omega, show p ≠ k + 1 by omega, show p ≠ k + 2 by omega, show p ≠ k + 3 by omega, show p ≠ k + 4 by omega]
  · have : σ8 k 3 = σ o 3 := by simp [e8, e7, e6, e5, e4, e3, e2, e1, mu, ms, upd, n0]
    rw [this]; exact hb j h1 h2
