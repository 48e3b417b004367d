/-! The class's Log and Window. -/
abbrev Ev : Type := Int32 × Int32 × Int32 × Int32
def lgC (σ : Mem) (g : Nat) : Nat → Option Ev := fun j => if j < ix (σ g 5) then some (σ (g + 1) ((ix (σ g 4) + 7 - j) % 8), σ (g + 2) ((ix (σ g 4) + 7 - j) % 8), σ (g + 3) ((ix (σ g 4) + 7 - j) % 8), σ (g + 4) ((ix (σ g 4) + 7 - j) % 8)) else none
def wfL (σ : Mem) (g : Nat) : Prop := ∃ nx kn : Nat, σ g 4 = nI nx ∧ σ g 5 = nI kn ∧ nx < 8 ∧ kn ≤ 8
def psh (e : Ev) (f : Nat → Option Ev) : Nat → Option Ev := fun j => if j = 0 then some e else if j < 8 then f (j - 1) else none
def P2 (g : Nat) (σ σ1 : Mem) : Prop := (∀ q, (q < g ∨ g + 4 < q) → σ1 q = σ q) ∧ wfL σ1 g
theorem an7 : ∀ n, n < 8 → nI n &&& 7 = nI n ∧ (nI n + 1) &&& 7 = nI ((n + 1) % 8) := by decide +kernel
theorem an7b : ∀ n, n < 8 → ∀ j, j < 8 → ((nI n - 1) - nI j) &&& 7 = nI ((n + 7 - j) % 8) := by decide +kernel
theorem mn8 : ∀ n, n ≤ 8 → (if 8 < nI n + 1 then 8 else nI n + 1) = nI (if n < 8 then n + 1 else 8) := by decide +kernel
theorem s_note {g : Nat} {e1 e2 e3 e4 : Int32} {σ : Mem} {K : Mem → Prop} (hw : wfL σ g) (h : ∀ σ1, P2 g σ σ1 → lgC σ1 g = psh (e1, e2, e3, e4) (lgC σ g) → K σ1) : w_X1_note g e1 e2 e3 e4 σ K := by
  obtain ⟨nx, kn, hn, hk, hn8, hk8⟩ := hw
  rintro v1 rfl
  rw [hn, (an7 nx hn8).1]
  refine ⟨vi hn8, ?_⟩
  rw [ixn (show nx < 2 ^ 31 by omega)]
  rintro σ3 h3
  refine ⟨vi hn8, ?_⟩
  rintro σ5 h5
  refine ⟨vi hn8, ?_⟩
  rintro σ7 h7
  refine ⟨vi hn8, ?_⟩
  rintro σ9 h9 σ10 h10 σ11 h11
  have g1 : σ11 (g + 1) = upd (σ (g + 1)) nx e1 := by simp [h11, h10, h9, h7, h5, h3, mu, ms]
  have g2 : σ11 (g + 2) = upd (σ (g + 2)) nx e2 := by simp [h11, h10, h9, h7, h5, h3, mu, ms]
  have g3 : σ11 (g + 3) = upd (σ (g + 3)) nx e3 := by simp [h11, h10, h9, h7, h5, h3, mu, ms]
  have g4 : σ11 (g + 4) = upd (σ (g + 4)) nx e4 := by simp [h11, h10, h9, h7, h5, h3, mu, ms]
  have gn : σ11 g 4 = nI ((nx + 1) % 8) := by
    have : σ11 g 4 = (σ g 4 + 1) &&& 7 := by simp [h11, h10, h9, h7, h5, h3, mu, ms, upd]
    rw [this, hn, (an7 nx hn8).2]
  have gk : σ11 g 5 = nI (if kn < 8 then kn + 1 else 8) := by
    have : σ11 g 5 = if 8 < σ g 5 + 1 then 8 else σ g 5 + 1 := by simp [h11, h10, h9, h7, h5, h3, mu, ms, upd]
    rw [this, hk, mn8 kn hk8]
  refine h σ11 ⟨fun q hq => ?_, _, _, gn, gk, by omega, by split <;> omega⟩ ?_
  · simp [h11, h10, h9, h7, h5, h3, mu, ms, show q ≠ g by omega, show q ≠ g + 1 by omega, show q ≠ g + 2 by omega, show q ≠ g + 3 by omega, show q ≠ g + 4 by omega]
  · funext j
    unfold lgC psh
    rw [gn, gk, hn, hk, g1, g2, g3, g4, ixn (show kn < 2 ^ 31 by omega), ixn (show nx < 2 ^ 31 by omega), ixn (show (nx + 1) % 8 < 2 ^ 31 by omega), ixn (show (if kn < 8 then kn + 1 else 8) < 2 ^ 31 by split <;> omega)]
    by_cases hj0 : j = 0
    · subst hj0
      have : ((nx + 1) % 8 + 7 - 0) % 8 = nx := by omega
      rw [if_pos (by split <;> omega), if_pos rfl, this]
      simp [upd]
    · rw [if_neg hj0]
      by_cases hj8 : j < 8
      · rw [if_pos hj8]
        have e : ((nx + 1) % 8 + 7 - j) % 8 = (nx + 7 - (j - 1)) % 8 := by omega
        have ne : ¬ (nx + 7 - (j - 1)) % 8 = nx := by omega
        rw [e]
        simp only [upd, if_neg ne]
        by_cases hjk : j - 1 < kn
        · rw [if_pos (by split <;> omega), if_pos hjk]
        · rw [if_neg (by split <;> omega), if_neg hjk]
      · rw [if_neg hj8, if_neg (by split <;> omega)]
theorem s_slotOf {g j : Nat} {σ : Mem} {K : Int32 → Mem → Prop} (hw : wfL σ g) (hj : j < 8) (h : K (nI ((ix (σ g 4) + 7 - j) % 8)) σ) : w_X1_slotOf g (nI j) σ K := by
  obtain ⟨nx, kn, hn, hk, hn8, hk8⟩ := hw
  unfold w_X1_slotOf
  rw [hn, an7b nx hn8 j hj]
  rw [hn, ixn (show nx < 2 ^ 31 by omega)] at h
  exact h
theorem cpy8 {f g : Nat → Int32} {l : Nat} (hl : l < 8) : va_cpy f g 0 0 8 l = f l := by simp [va_cpy, hl]
theorem lgC_ext {σ σ1 : Mem} {g g1 : Nat} (h4 : σ1 g1 4 = σ g 4) (h5 : σ1 g1 5 = σ g 5) (ha : ∀ l, l < 8 → σ1 (g1 + 1) l = σ (g + 1) l) (hb : ∀ l, l < 8 → σ1 (g1 + 2) l = σ (g + 2) l) (hc : ∀ l, l < 8 → σ1 (g1 + 3) l = σ (g + 3) l) (hd : ∀ l, l < 8 → σ1 (g1 + 4) l = σ (g + 4) l) : lgC σ1 g1 = lgC σ g := by
  funext j
  unfold lgC
  rw [h4, h5, ha _ (Nat.mod_lt _ (by omega)), hb _ (Nat.mod_lt _ (by omega)), hc _ (Nat.mod_lt _ (by omega)), hd _ (Nat.mod_lt _ (by omega))]
theorem lgC_fr {σ σ1 : Mem} {g : Nat} (h : ∀ q, g ≤ q → q ≤ g + 4 → σ1 q = σ q) : lgC σ1 g = lgC σ g := by
  refine lgC_ext ?_ ?_ ?_ ?_ ?_ ?_ <;> (intros; rw [h _ (by omega) (by omega)])
theorem wfL_fr {σ σ1 : Mem} {g g1 : Nat} (h4 : σ1 g1 4 = σ g 4) (h5 : σ1 g1 5 = σ g 5) (h : wfL σ g) : wfL σ1 g1 := by
  obtain ⟨nx, kn, a, b, c⟩ := h
  exact ⟨nx, kn, h4.trans a, h5.trans b, c⟩
theorem s_lbecome {g o : Nat} {σ : Mem} {K : Mem → Prop} (hd : g + 4 < o ∨ o + 4 < g) (hw : wfL σ o) (h : ∀ σ1, P2 g σ σ1 → lgC σ1 g = lgC σ o → K σ1) : w_X1_become g o σ K := by
  rintro σ1 e1 σ2 e2 σ3 e3 σ4 e4 σ5 e5 σ6 e6
  have n0 : ¬ o = g := by omega
  have n1 : ¬ o + 1 = g := by omega
  have n2 : ¬ o + 2 = g := by omega
  have n3 : ¬ o + 3 = g := by omega
  have n4 : ¬ o + 4 = g := by omega
  have m1 : ¬ o = g + 1 := by omega
  have m2 : ¬ o = g + 2 := by omega
  have m3 : ¬ o = g + 3 := by omega
  have m4 : ¬ o = g + 4 := by omega
  have h4 : σ6 g 4 = σ o 4 := by simp [e6, e5, e4, e3, e2, e1, mu, ms, upd, n0, m1, m2, m3, m4]
  have h5 : σ6 g 5 = σ o 5 := by simp [e6, e5, e4, e3, e2, e1, mu, ms, upd, n0, m1, m2, m3, m4]
  refine h σ6 ⟨fun q hq => ?_, wfL_fr h4 h5 hw⟩ (lgC_ext h4 h5 (fun l hl => ?_) (fun l hl => ?_) (fun l hl => ?_) (fun l hl => ?_))
  · simp [e6, e5, e4, e3, e2, e1, mu, ms, show q ≠ g by omega, show q ≠ g + 1 by omega, show q ≠ g + 2 by omega, show q ≠ g + 3 by omega, show q ≠ g + 4 by omega]
  · simp [e6, e5, e4, e3, e2, e1, mu, ms, cpy8 hl]
  · simp [e6, e5, e4, e3, e2, e1, mu, ms, n0, n1, n2, m1, m2, m3, cpy8 hl]
  · simp [e6, e5, e4, e3, e2, e1, mu, ms, n0, n1, n2, n3, m1, m2, m3, cpy8 hl]
  · simp [e6, e5, e4, e3, e2, e1, mu, ms, n0, n1, n2, n3, n4, m1, m2, m3, cpy8 hl]
/-! four summaries in a row -/
def CP (b o i : Nat) (σ σ1 : Mem) : Prop := (∀ q, (q < b ∨ b + 19 < q) → σ1 q = σ q) ∧ (∀ j, j < i → vC σ1 (b + 5 * j) = vC σ (o + 5 * j) ∧ hbC σ1 (b + 5 * j))
theorem CP_0 {b o : Nat} {σ : Mem} : CP b o 0 σ σ := ⟨fun _ _ => rfl, fun j hj => absurd hj (Nat.not_lt_zero j)⟩
theorem CP_s {b o i : Nat} {σ σ1 σ2 : Mem} (hi : i < 4) (hd : b + 19 < o ∨ o + 19 < b) (h : CP b o i σ σ1) (hp : P1 (b + 5 * i) (vC σ1 (o + 5 * i)) σ1 σ2) : CP b o (i + 1) σ σ2 := by
  refine ⟨fun q hq => ?_, fun j hj => ?_⟩
  · rw [hp.2.1 q (by omega)]; exact h.1 q hq
  · by_cases hji : j = i
    · subst hji
      refine ⟨?_, hp.2.2⟩
      rw [hp.1]
      exact vC_fr (fun q h1 h2 => h.1 q (by omega))
    · obtain ⟨x, y⟩ := h.2 j (by omega)
      refine ⟨?_, hbC_fr (hp.2.1 _ (by omega)) y⟩
      rw [← x]
      exact vC_fr (fun q h1 h2 => hp.2.1 q (by omega))
/-- the window: its blocks from the oldest that is kept -/
def sl4 (pr kp i : Nat) : Nat := (pr + 5 - kp + i) % 4
def z0 : Sm := (0, 0, 0, fun _ => none, fun _ => 0)
def e4 : Sm := (4, 0, 0, fun _ => none, fun _ => 0)
def blC (σ : Mem) (w : Nat) : Nat → Sm := fun i => if i < ix (σ w 2) then vC σ (w + 2 + 5 * sl4 (ix (σ w 1)) (ix (σ w 2)) i) else z0
def wfW (σ : Mem) (w : Nat) : Prop := (∃ pr kp ar : Nat, σ w 1 = nI pr ∧ σ w 2 = nI kp ∧ σ w 4 = nI ar ∧ pr < 4 ∧ 1 ≤ kp ∧ kp ≤ 4 ∧ ar ≤ 8) ∧ ∀ i, i < 4 → hbC σ (w + 2 + 5 * i) ∧ σ (w + 2 + 5 * i) 0 = 4
theorem an3 : ∀ n, n < 4 → nI n &&& 3 = nI n ∧ (nI n + 1) &&& 3 = nI ((n + 1) % 4) ∧ (nI n - 1) &&& 3 = nI ((n + 3) % 4) := by decide +kernel
theorem an3b : ∀ pr, pr < 4 → ∀ kp, kp < 5 → ∀ i, i < 4 → (((nI pr - nI kp) + 1) + nI i) &&& 3 = nI (sl4 pr kp i) := by decide +kernel
theorem mn4 : ∀ n, n ≤ 4 → (if 4 < nI n + 1 then 4 else nI n + 1) = nI (if n < 4 then n + 1 else 4) := by decide +kernel
theorem s_present {w : Nat} {σ : Mem} {K : Nat → Mem → Prop} {pr : Nat} (hp : σ w 1 = nI pr) (h4 : pr < 4) (h : K (w + 2 + 5 * pr) σ) : w_X5_presentBlock w σ K := by
  unfold w_X5_presentBlock
  rw [hp, (an3 pr h4).1, ixn (show pr < 2 ^ 31 by omega)]
  exact ⟨vi h4, h⟩
theorem s_blockAt {w i : Nat} {σ : Mem} {K : Nat → Mem → Prop} (hw : wfW σ w) (hi : i < 4) (h : K (w + 2 + 5 * sl4 (ix (σ w 1)) (ix (σ w 2)) i) σ) : w_X5_blockAt w (nI i) σ K := by
  obtain ⟨⟨pr, kp, ar, h1, h2, h3, h4, h5, h6, h7⟩, -⟩ := hw
  unfold w_X5_blockAt
  rw [h1, h2, an3b pr h4 kp (by omega) i hi, ixn (show sl4 pr kp i < 2 ^ 31 by unfold sl4; omega)]
  rw [h1, h2, ixn (show pr < 2 ^ 31 by omega), ixn (show kp < 2 ^ 31 by omega)] at h
  exact ⟨vi (by unfold sl4; omega), h⟩
theorem wfW_fr {σ σ1 : Mem} {w w1 : Nat} (h1 : σ1 w1 1 = σ w 1) (h2 : σ1 w1 2 = σ w 2) (h4 : σ1 w1 4 = σ w 4) (hb : ∀ i, i < 4 → hbC σ1 (w1 + 2 + 5 * i) ∧ σ1 (w1 + 2 + 5 * i) 0 = 4) (h : wfW σ w) : wfW σ1 w1 := by
  obtain ⟨⟨pr, kp, ar, a, b, c, d⟩, -⟩ := h
  exact ⟨⟨pr, kp, ar, h1.trans a, h2.trans b, h4.trans c, d⟩, hb⟩
theorem blC_ext {σ σ1 : Mem} {w w1 : Nat} (h1 : σ1 w1 1 = σ w 1) (h2 : σ1 w1 2 = σ w 2) (hb : ∀ i, i < 4 → vC σ1 (w1 + 2 + 5 * i) = vC σ (w + 2 + 5 * i)) : blC σ1 w1 = blC σ w := by
  funext i
  unfold blC
  rw [h1, h2, hb _ (by unfold sl4; omega)]
theorem sl4_lt (a b c : Nat) : sl4 a b c < 4 := by unfold sl4; omega
theorem vC_0 {σ : Mem} {k : Nat} : sZ (vC σ k) = σ k 0 := rfl
theorem s_wbecome_loop {w o : Nat} {σ : Mem} {K : Mem → Prop} (hd : w + 21 < o ∨ o + 21 < w) (hb : ∀ i, i < 4 → hbC σ (o + 2 + 5 * i)) (h : ∀ σ1, CP (w + 2) (o + 2) 4 σ σ1 → K σ1) : ∀ d i σ1, i + d = 4 → CP (w + 2) (o + 2) i σ σ1 → w_X5_become_34 w o K (d + 1) (nI i) σ1 := by
  intro d
  induction d with
  | zero =>
    intro i σ1 hi hc
    rw [w_X5_become_34]
    obtain rfl : i = 4 := by omega
    exact ⟨fun _ => h σ1 hc, fun hz => absurd (nI_le (a := 4) (Nat.le_refl _) (by omega)) hz⟩
  | succ d ih =>
    intro i σ1 hi hc
    have hi2 : i < 4 := by omega
    rw [w_X5_become_34]
    refine ⟨fun hz => absurd hz (nI_ge (b := 4) hi2 (by omega)), fun _ => ⟨vi hi2, vi hi2, ?_⟩⟩
    rw [ixn (show i < 2 ^ 31 by omega), nI_1]
    exact s_become (by omega) (hbC_fr (hc.1 _ (by omega)) (hb i hi2)) (fun σ2 hp => ih (i + 1) σ2 (by omega) (CP_s hi2 (by omega) hc hp))
def P3 (w : Nat) (σ σ1 : Mem) : Prop := (∀ q, (q < w ∨ w + 21 < q) → σ1 q = σ q) ∧ wfW σ1 w
theorem s_wbecome {w o : Nat} {σ : Mem} {K : Mem → Prop} (hd : w + 21 < o ∨ o + 21 < w) (hw : wfW σ o) (h : ∀ σ1, P3 w σ σ1 → blC σ1 w = blC σ o → σ1 w 2 = σ o 2 → σ1 w 3 = σ o 3 → σ1 w 4 = σ o 4 → K σ1) : w_X5_become w o σ K := by
  rintro σ1 e1 σ2 e2 σ3 e3 σ4 e4
  have n0 : ¬ o = w := by omega
  have f4 : ∀ q, q ≠ w → σ4 q = σ q := fun q hq => by simp [e4, e3, e2, e1, mu, ms, hq]
  have h1 : σ4 w 1 = σ o 1 := by simp [e4, e3, e2, e1, mu, ms, upd, n0]
  have h2 : σ4 w 2 = σ o 2 := by simp [e4, e3, e2, e1, mu, ms, upd, n0]
  have h3 : σ4 w 3 = σ o 3 := by simp [e4, e3, e2, e1, mu, ms, upd, n0]
  have h4 : σ4 w 4 = σ o 4 := by simp [e4, e3, e2, e1, mu, ms, upd, n0]
  refine ⟨5, s_wbecome_loop (σ := σ4) hd (fun i hi => hbC_fr (f4 _ (by omega)) (hw.2 i hi).1) (fun σ5 hc => ?_) 4 0 σ4 rfl CP_0⟩
  have hv : ∀ i, i < 4 → vC σ5 (w + 2 + 5 * i) = vC σ (o + 2 + 5 * i) := fun i hi => by
    rw [(hc.2 i hi).1]
    exact vC_fr (fun q g1 g2 => f4 q (by omega))
  have w5 : σ5 w = σ4 w := hc.1 w (by omega)
  refine h σ5 ⟨fun q hq => ?_, wfW_fr (by rw [w5, h1]) (by rw [w5, h2]) (by rw [w5, h4]) (fun i hi => ⟨(hc.2 i hi).2, ?_⟩) hw⟩ (blC_ext (by rw [w5, h1]) (by rw [w5, h2]) hv) (by rw [w5, h2]) (by rw [w5, h3]) (by rw [w5, h4])
  · rw [hc.1 q (by omega)]; exact f4 q (by omega)
  · have := congrArg sZ (hv i hi)
    rw [vC_0, vC_0, (hw.2 i hi).2] at this
    exact this
/-- a new block begins -/
def bgn (f : Nat → Sm) (kp : Nat) : Nat → Sm := fun i => if kp < 4 then (if i = kp then e4 else f i) else (if i = 3 then e4 else if i < 3 then f (i + 1) else z0)
theorem s_begin {w : Nat} {σ : Mem} {K : Mem → Prop} (hw : wfW σ w) (h : ∀ σ1, P3 w σ σ1 → blC σ1 w = bgn (blC σ w) (ix (σ w 2)) → σ1 w 2 = nI (if ix (σ w 2) < 4 then ix (σ w 2) + 1 else 4) → σ1 w 3 = σ w 3 + 1 → σ1 w 4 = 0 → K σ1) : w_X5_beginBlock w σ K := by
  obtain ⟨⟨pr, kp, ar, a1, a2, a3, a4, a5, a6, a7⟩, hb⟩ := hw
  rintro σ1 e1 σ2 e2 σ3 e3 σ4 h4
  have f4 : ∀ q, q ≠ w → σ4 q = σ q := fun q hq => by simp [h4, e3, e2, e1, mu, ms, hq]
  have g1 : σ4 w 1 = nI ((pr + 1) % 4) := by
    have : σ4 w 1 = (σ w 1 + 1) &&& 3 := by simp [h4, e3, e2, e1, mu, ms, upd]
    rw [this, a1, (an3 pr a4).2.1]
  have g2 : σ4 w 2 = nI (if kp < 4 then kp + 1 else 4) := by
    have : σ4 w 2 = if 4 < σ w 2 + 1 then 4 else σ w 2 + 1 := by simp [h4, e3, e2, e1, mu, ms, upd]
    rw [this, a2, mn4 kp a6]
  have g3 : σ4 w 3 = σ w 3 + 1 := by simp [h4, e3, e2, e1, mu, ms, upd]
  have g4 : σ4 w 4 = 0 := by simp [h4, e3, e2, e1, mu, ms, upd]
  have hpr : (pr + 1) % 4 < 4 := Nat.mod_lt _ (by omega)
  refine s_present g1 hpr (s_wipe (fun σ5 hp => ?_))
  have w5 : σ5 w = σ4 w := hp.2.1 w (by omega)
  have v5 : ∀ i, i < 4 → i ≠ (pr + 1) % 4 → vC σ5 (w + 2 + 5 * i) = vC σ (w + 2 + 5 * i) := fun i hi hne => by
    refine vC_fr (fun q q1 q2 => ?_)
    rw [hp.2.1 q (by omega), f4 q (by omega)]
  have v6 : vC σ5 (w + 2 + 5 * ((pr + 1) % 4)) = e4 := by
    rw [hp.1]
    have : sZ (vC σ4 (w + 2 + 5 * ((pr + 1) % 4))) = 4 := by
      rw [vC_0, f4 _ (by omega)]; exact (hb _ hpr).2
    unfold emp
    rw [this]; rfl
  have k2 : ix (σ w 2) = kp := by rw [a2, ixn (by omega)]
  rw [k2] at h
  refine h σ5 ⟨fun q hq => ?_, ⟨_, _, 0, by rw [w5]; exact g1, by rw [w5]; exact g2, by rw [w5]; exact g4, hpr, by split <;> omega, by split <;> omega, by omega⟩, fun i hi => ?_⟩ ?_ (by rw [w5]; exact g2) (by rw [w5]; exact g3) (by rw [w5]; exact g4)
  · rw [hp.2.1 q (by omega), f4 q (by omega)]
  · by_cases hne : i = (pr + 1) % 4
    · rw [hne]
      refine ⟨hp.2.2, ?_⟩
      have := congrArg sZ v6
      rw [vC_0] at this; exact this
    · refine ⟨hbC_fr (by rw [hp.2.1 _ (by omega), f4 _ (by omega)]) (hb i hi).1, ?_⟩
      rw [hp.2.1 _ (by omega), f4 _ (by omega)]; exact (hb i hi).2
  · funext i
    unfold blC bgn
    rw [w5, g1, g2, a1, a2, ixn (show kp < 2 ^ 31 by omega), ixn (show pr < 2 ^ 31 by omega), ixn (show (pr + 1) % 4 < 2 ^ 31 by omega), ixn (show (if kp < 4 then kp + 1 else 4) < 2 ^ 31 by split <;> omega)]
    dsimp only
    by_cases hk : kp < 4
    · rw [if_pos hk, if_pos hk]
      by_cases hik : i = kp
      · rw [if_pos (by omega), if_pos hik]
        have : sl4 ((pr + 1) % 4) (kp + 1) i = (pr + 1) % 4 := by unfold sl4; omega
        rw [this, v6]
      · rw [if_neg hik]
        by_cases hlt : i < kp
        · rw [if_pos (by omega), if_pos hlt]
          have : sl4 ((pr + 1) % 4) (kp + 1) i = sl4 pr kp i := by unfold sl4; omega
          rw [this]
          exact v5 _ (sl4_lt _ _ _) (by unfold sl4; omega)
        · rw [if_neg (by omega), if_neg hlt]
    · obtain rfl : kp = 4 := by omega
      simp only [show ¬ (4 : Nat) < 4 by omega, if_false]
      by_cases hi3 : i = 3
      · subst hi3
        rw [if_pos (by omega), if_pos rfl]
        have : sl4 ((pr + 1) % 4) 4 3 = (pr + 1) % 4 := by unfold sl4; omega
        rw [this, v6]
      · rw [if_neg hi3]
        by_cases hlt : i < 3
        · rw [if_pos (by omega), if_pos hlt, if_pos (by omega)]
          have : sl4 ((pr + 1) % 4) 4 i = sl4 pr 4 (i + 1) := by unfold sl4; omega
          rw [this]
          exact v5 _ (sl4_lt _ _ _) (by unfold sl4; omega)
        · rw [if_neg (by omega), if_neg hlt]
