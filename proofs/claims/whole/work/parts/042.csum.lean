/-! The class's Summary: what its methods do to the mathematical summary. -/
theorem ge26 {i : Nat} (h : i < 26) : ¬ (26 : Int32) ≤ nI i := nI_ge (b := 26) h (by omega)
theorem s_has {k i : Nat} {σ : Mem} {K : Int32 → Mem → Prop} (hi : i < 26) (h : K (b2 (isS (vC σ k) i)) σ) : w_X3_has k (nI i) σ K := by
  rw [cC_isS hi] at h
  refine ⟨fun hc => ?_, fun hc => ?_⟩
  · rw [(bt_one (by omega)).mp hc] at h; exact h
  · have : bt (σ k 3) i = true := by
      cases hb : bt (σ k 3) i
      · exact absurd ((bt_one (by omega)).mpr hb) hc
      · rfl
    rw [this] at h; exact h
theorem nC_32 {σ : Mem} {k : Nat} (hb : hbC σ k) : fb_ct (bt (σ k 3)) 32 = nC (vC σ k) := by
  rw [show (32 : Nat) = 26 + 6 from rfl, fb_ct_split, fb_ct_zero.mpr (fun j hj => hb (26 + j) (by omega) (by omega))]
  show fb_ct (bt (σ k 3)) 26 + 0 = fb_ct (isS (vC σ k)) 26
  rw [Nat.add_zero]
  exact fb_ct_cong (fun j hj => (cC_isS hj).symm)
theorem s_counters {k : Nat} {σ : Mem} {K : Int32 → Mem → Prop} (hb : hbC σ k) (h : K (nI (nC (vC σ k))) σ) : w_X3_counters k σ K := by
  refine s_bitCount ?_
  rw [nC_32 hb]
  exact h
theorem isS_some {s : Sm} {i : Nat} (h : isS s i = true) : ∃ q, sC s i = some q := Option.isSome_iff_exists.mp h
theorem isS_none {s : Sm} {i : Nat} (h : isS s i = false) : sC s i = none := by
  unfold isS at h
  cases hq : sC s i with
  | none => rfl
  | some q => rw [hq] at h; cases h
theorem s_upper {k i : Nat} {σ : Mem} {K : Int32 → Mem → Prop} (hi : i < 26) (h : K (uP (vC σ k) i) σ) : w_X3_upper k (nI i) σ K := by
  refine s_has hi (br_b (fun hc => ?_) (fun hc => ⟨vi hi, ?_⟩))
  · rw [uP, isS_none hc] at h; exact h
  · obtain ⟨q, hq⟩ := isS_some hc
    rw [uP, hq] at h
    obtain ⟨-, -, rfl⟩ := cC_some hq
    rw [ixn (by omega)]; exact h
theorem s_slack {k i : Nat} {σ : Mem} {K : Int32 → Mem → Prop} (hi : i < 26) (h : K (sL (vC σ k) i) σ) : w_X3_slackToMerge k (nI i) σ K := by
  refine s_has hi (br_b (fun hc => ?_) (fun hc => ⟨vi hi, ?_⟩))
  · rw [sL, isS_none hc] at h; exact h
  · obtain ⟨q, hq⟩ := isS_some hc
    rw [sL, hq] at h
    obtain ⟨-, -, rfl⟩ := cC_some hq
    rw [ixn (by omega)]; exact h
theorem s_lower {k i : Nat} {σ : Mem} {K : Int32 → Mem → Prop} (hi : i < 26) (h : K (lO (vC σ k) i) σ) : w_X3_lower k (nI i) σ K := by
  refine s_has hi (br_b (fun hc => ?_) (fun hc => ⟨vi hi, vi hi, ?_⟩))
  · rw [lO, isS_none hc] at h; exact h
  · obtain ⟨q, hq⟩ := isS_some hc
    rw [lO, hq] at h
    obtain ⟨-, -, rfl⟩ := cC_some hq
    rw [ixn (by omega)]; exact h
theorem s_room {k i : Nat} {σ : Mem} {K : Int32 → Mem → Prop} (hi : i < 26) (hb : hbC σ k) (h : K (b2 (full (vC σ k) i)) σ) : w_X3_needsRoomFor k (nI i) σ K := by
  refine s_has hi (br_b (fun hc => s_counters hb ⟨fun hz => ?_, fun hz => ?_⟩) (fun hc => ?_))
  · rw [full, hc, decide_eq_false (show ¬ sZ (vC σ k) ≤ nI (nC (vC σ k)) from fun q => Int32.not_le.mpr hz q)] at h
    exact h
  · rw [full, hc, decide_eq_true (show sZ (vC σ k) ≤ nI (nC (vC σ k)) from Int32.not_lt.mp hz)] at h
    exact h
  · rw [full, hc] at h
    exact h
theorem s_before {k i j : Nat} {σ : Mem} {K : Int32 → Mem → Prop} (hi : i < 26) (hj : j < 26) (h : K (b2 (bef (σ (k + 1) i, σ (k + 2) i, σ (k + 3) i) (σ (k + 1) j, σ (k + 2) j, σ (k + 3) j))) σ) : w_X3_goesBefore k (nI i) (nI j) σ K := by
  unfold bef at h
  dsimp only at h
  refine ⟨vi hi, vi hj, ?_⟩
  rw [ixn (show i < 2 ^ 31 by omega), ixn (show j < 2 ^ 31 by omega)]
  refine ⟨fun h1 => ?_, fun h1 => ⟨vi hi, vi hj, fun h2 => ⟨vi hi, vi hj, fun h3 => ?_, fun h3 => ?_⟩, fun h2 => ?_⟩⟩
  · rw [decide_eq_true h1] at h; exact h
  · rw [decide_eq_false h1, decide_eq_true h2, decide_eq_false (show ¬ σ (k + 3) i < σ (k + 3) j from Int32.not_lt.mpr h3)] at h; exact h
  · rw [decide_eq_false h1, decide_eq_true h2, decide_eq_true (show σ (k + 3) i < σ (k + 3) j from Int32.not_le.mp h3)] at h; exact h
  · rw [decide_eq_false h1, decide_eq_false h2] at h; exact h
theorem enc_some {l : Nat} (hl : l < 2 ^ 31) : ¬ enc (some l) = -1 := fun h => by
  have := (enc_m1 (r := some l) (fun m hm => by cases hm; exact hl)).mp h
  cases this
def lsN (s : Sm) (n : Nat) : Int32 := enc ((lst s n).map (·.1))
def wsN (s : Sm) (n : Nat) : Int32 := enc ((wst s n).map (·.1))
theorem s_next_loop {k : Nat} {σ : Mem} {K : Int32 → Mem → Prop} (h : K (lsN (vC σ k) 26) σ) : ∀ d i, i + d = 26 → w_X3_nextEvicted_4 k K (d + 1) (lsN (vC σ k) i) (nI i) σ := by
  intro d
  induction d with
  | zero =>
    intro i hi
    rw [w_X3_nextEvicted_4]
    obtain rfl : i = 26 := by omega
    exact ⟨fun _ => h, fun hc => absurd (nI_le (a := 26) (Nat.le_refl _) (by omega)) hc⟩
  | succ d ih =>
    intro i hi
    have hi2 : i < 26 := by omega
    have hnext := ih (i + 1) (by omega)
    rw [w_X3_nextEvicted_4]
    refine ⟨fun hc => absurd hc (ge26 hi2), fun _ => s_has hi2 (br_b (fun hc => ?_) (fun hc => ?_))⟩
    · rw [nI_1]
      have e : lsN (vC σ k) (i + 1) = lsN (vC σ k) i := by unfold lsN; rw [lst, isS_none hc]
      rw [e] at hnext; exact hnext
    · obtain ⟨q, hq⟩ := isS_some hc
      obtain ⟨-, -, hqe⟩ := cC_some hq
      rw [nI_1]
      cases hl : lst (vC σ k) i with
      | none =>
        have e1 : lsN (vC σ k) i = -1 := by unfold lsN; rw [hl]; rfl
        have e : lsN (vC σ k) (i + 1) = nI i := by unfold lsN; rw [lst, hq]; dsimp only; rw [hl]; rfl
        rw [e] at hnext
        exact ⟨fun _ => hnext, fun hc => absurd e1 hc⟩
      | some r =>
        obtain ⟨m, rq⟩ := r
        obtain ⟨hm, hmq⟩ := lst_in hl
        obtain ⟨-, -, hre⟩ := cC_some hmq
        dsimp only at hm hre
        have e1 : lsN (vC σ k) i = nI m := by unfold lsN; rw [hl]; rfl
        have e : lsN (vC σ k) (i + 1) = if bef q rq then nI i else nI m := by
          unfold lsN; rw [lst, hq]; dsimp only; rw [hl]; dsimp only; split <;> rfl
        rw [e] at hnext
        rw [e1]
        refine ⟨fun hc => absurd hc (enc_some (l := m) (by omega)), fun _ => s_before hi2 (by omega) ?_⟩
        rw [← hqe, ← hre]
        refine br_b (fun hb => ?_) (fun hb => ?_)
        · rw [if_neg (by rw [hb]; decide)] at hnext; exact hnext
        · rw [if_pos hb] at hnext; exact hnext
theorem s_next {k : Nat} {σ : Mem} {K : Int32 → Mem → Prop} (h : K (lsN (vC σ k) 26) σ) : w_X3_nextEvicted k σ K := ⟨27, s_next_loop h 26 0 rfl⟩
theorem s_left_loop {k : Nat} {σ : Mem} {K : Int32 → Mem → Prop} (h : K (wsN (vC σ k) 26) σ) : ∀ d i, i + d = 26 → w_X3_nextLeftOut_4 k K (d + 1) (wsN (vC σ k) i) (nI i) σ := by
  intro d
  induction d with
  | zero =>
    intro i hi
    rw [w_X3_nextLeftOut_4]
    obtain rfl : i = 26 := by omega
    exact ⟨fun _ => h, fun hc => absurd (nI_le (a := 26) (Nat.le_refl _) (by omega)) hc⟩
  | succ d ih =>
    intro i hi
    have hi2 : i < 26 := by omega
    have hnext := ih (i + 1) (by omega)
    rw [w_X3_nextLeftOut_4]
    refine ⟨fun hc => absurd hc (ge26 hi2), fun _ => s_has hi2 (br_b (fun hc => ?_) (fun hc => ?_))⟩
    · rw [nI_1]
      have e : wsN (vC σ k) (i + 1) = wsN (vC σ k) i := by unfold wsN; rw [wst, isS_none hc]
      rw [e] at hnext; exact hnext
    · obtain ⟨q, hq⟩ := isS_some hc
      obtain ⟨-, -, hqe⟩ := cC_some hq
      rw [nI_1]
      cases hl : wst (vC σ k) i with
      | none =>
        have e1 : wsN (vC σ k) i = -1 := by unfold wsN; rw [hl]; rfl
        have e : wsN (vC σ k) (i + 1) = nI i := by unfold wsN; rw [wst, hq]; dsimp only; rw [hl]; rfl
        rw [e] at hnext
        exact ⟨fun _ => hnext, fun hc => absurd e1 hc⟩
      | some r =>
        obtain ⟨m, rq⟩ := r
        obtain ⟨hm, hmq⟩ := wst_in hl
        obtain ⟨-, -, hre⟩ := cC_some hmq
        dsimp only at hm hre
        have e1 : wsN (vC σ k) i = nI m := by unfold wsN; rw [hl]; rfl
        have e : wsN (vC σ k) (i + 1) = if rq.1 < q.1 then nI m else nI i := by
          unfold wsN; rw [wst, hq]; dsimp only; rw [hl]; dsimp only; split <;> rfl
        rw [e] at hnext
        rw [e1]
        refine ⟨fun hc => absurd hc (enc_some (l := m) (by omega)), fun _ => ⟨vi hi2, vi (N := 26) (by omega), ?_⟩⟩
        rw [ixn (show i < 2 ^ 31 by omega), ixn (show m < 2 ^ 31 by omega)]
        rw [hqe, hre] at hnext
        refine ⟨fun hb => ?_, fun hb => ?_⟩
        · rw [if_pos hb] at hnext; exact hnext
        · rw [if_neg hb] at hnext; exact hnext
theorem s_left {k : Nat} {σ : Mem} {K : Int32 → Mem → Prop} (h : K (wsN (vC σ k) 26) σ) : w_X3_nextLeftOut k σ K := ⟨27, s_left_loop h 26 0 rfl⟩
/-- behind a method that writes one summary: the new one, the rest as it was, no bit above 26 -/
def P1 (k : Nat) (s : Sm) (σ σ1 : Mem) : Prop := vC σ1 k = s ∧ fr k σ σ1 ∧ hbC σ1 k
theorem s_take {k i : Nat} {σ : Mem} {K : Mem → Prop} {q : Cn} (hi : i < 26) (hq : sC (vC σ k) i = some q) (hb : hbC σ k) (h : ∀ σ1, P1 k (drp (vC σ k) (i, q)) σ σ1 → K σ1) : w_X3_takeCounter k (nI i) σ K := by
  obtain ⟨-, -, rfl⟩ := cC_some hq
  refine ⟨vi hi, ?_⟩
  rw [ixn (show i < 2 ^ 31 by omega)]
  rintro _ rfl _ rfl
  refine h _ ⟨?_, fun p hp => ?_, fun j h1 h2 => ?_⟩
  · refine Prod.ext ?_ (Prod.ext ?_ (Prod.ext ?_ (Prod.ext ?_ ?_)))
    · simp [vC, drp, sZ, mu, ms, upd]
    · simp [vC, drp, sF, mu, ms, upd]
      rfl
    · simp [vC, drp, sS, mu, ms, upd]
    · funext l
      show cC _ k l = if l = i then none else cC σ k l
      unfold cC
      by_cases hl : l < 26
      · have e : bt (mu (mu σ k 1 (if σ k 1 < σ (k + 1) i then σ (k + 1) i else σ k 1)) k 3 ((mu σ k 1 (if σ k 1 < σ (k + 1) i then σ (k + 1) i else σ k 1)) k 3 &&& ((1 <<< (nI i &&& 31)) ^^^ (-1))) k 3) l = (bt (σ k 3) l && !decide (l = i)) := by
          rw [← bt_clr (by omega) (by omega)]; simp [mu, ms, upd]
        rw [e]
        by_cases hli : l = i
        · simp [hli]
        · simp [hli, hl, mu, ms, upd]
      · simp [hl]
    · funext l
      simp [vC, drp, sM, mu, ms, upd]
  · have : p ≠ k := by omega
    simp [mu, ms, this]
  · have e : bt (mu (mu σ k 1 (if σ k 1 < σ (k + 1) i then σ (k + 1) i else σ k 1)) k 3 ((mu σ k 1 (if σ k 1 < σ (k + 1) i then σ (k + 1) i else σ k 1)) k 3 &&& ((1 <<< (nI i &&& 31)) ^^^ (-1))) k 3) j = (bt (σ k 3) j && !decide (j = i)) := by
      rw [← bt_clr (by omega) (by omega)]; simp [mu, ms, upd]
    rw [e, hb j h1 h2]; rfl
theorem s_evict {k : Nat} {σ : Mem} {K : Int32 → Mem → Prop} (hb : hbC σ k) (h : ∀ σ1, P1 k (evc (vC σ k)) σ σ1 → K (lsN (vC σ k) 26) σ1) : w_X3_evictNext k σ K := by
  refine s_next ?_
  unfold evc at h
  unfold lsN at h ⊢
  cases hl : lst (vC σ k) 26 with
  | none =>
    rw [hl] at h
    exact ⟨fun _ => h σ ⟨rfl, fr.rf, hb⟩, fun hc => absurd rfl hc⟩
  | some r =>
    obtain ⟨m, rq⟩ := r
    rw [hl] at h
    obtain ⟨hm, hmq⟩ := lst_in hl
    exact ⟨fun hc => absurd hc (enc_some (l := m) (by dsimp only at hm; omega)), fun _ => s_take hm hmq hb (fun σ1 hp => h σ1 hp)⟩
