/-! The reference: its rows of numbers. -/
def cM (f : Nat → Int32) (b : Nat) : Nat → Option Cn := fun l => if l < 26 ∧ f (b + 4 + 5 * l) = 1 then some (f (b + 4 + 5 * l + 1), f (b + 4 + 5 * l + 2), f (b + 4 + 5 * l + 3)) else none
def vM (f : Nat → Int32) (b : Nat) : Sm := (f b, f (b + 1), f (b + 2), cM f b, fun l => if l < 26 then f (b + 4 + 5 * l + 4) else 0)
def hbM (f : Nat → Int32) (b : Nat) : Prop := ∀ l, l < 26 → f (b + 4 + 5 * l) = 0 ∨ f (b + 4 + 5 * l) = 1
def bs (s : Nat) : Nat := if s < 8 then 134 * s else 1110
theorem bs_le {s : Nat} (hs : s ≤ 8) : bs s + 133 < 1244 := by unfold bs; split <;> omega
theorem m_in {x a c : Int32} {σ : Mem} {K : Int32 → Mem → Prop} (h : K (b2 (decide (a ≤ x) && decide (x ≤ c))) σ) : w_X7_in x a c σ K := by
  refine ⟨fun h1 => ?_, fun h1 => ⟨fun h2 => ?_, fun h2 => ?_⟩⟩
  · rw [decide_eq_false (show ¬ a ≤ x from Int32.not_le.mpr h1)] at h; exact h
  · rw [decide_eq_true (show a ≤ x from Int32.not_lt.mp h1), decide_eq_false (show ¬ x ≤ c from Int32.not_le.mpr h2)] at h; exact h
  · rw [decide_eq_true (show a ≤ x from Int32.not_lt.mp h1), decide_eq_true (show x ≤ c from Int32.not_lt.mp h2)] at h; exact h
theorem m_base {s : Nat} (hs : s ≤ 8) {σ : Mem} {K : Int32 → Mem → Prop} (h : K (nI (bs s)) σ) : w_X7_base (nI s) σ K := by
  unfold bs at h
  refine ⟨fun h1 => ?_, fun h1 => ?_⟩
  · have : 8 ≤ s := (nI_le_iff (a := 8) (by omega) (by omega)).mp h1
    rw [if_neg (by omega)] at h; exact h
  · have : s < 8 := Nat.not_le.mp (fun q => h1 ((nI_le_iff (a := 8) (by omega) (by omega)).mpr q))
    rw [if_pos this] at h
    rw [show (134 : Int32) = nI 134 from rfl, pk_mul]; exact h
theorem m_of {s : Nat} (w : Nat) (hs : s ≤ 8) (hw : w < 134) {σ : Mem} {K : Int32 → Mem → Prop} (h : K (σ 307 (bs s + w)) σ) : w_X7_of (nI s) (nI w) σ K := by
  have := bs_le hs
  refine m_base hs ?_
  rw [nI_add]
  refine ⟨vi (by omega), ?_⟩
  rw [ixn (show bs s + w < 2 ^ 31 by omega)]
  exact h
theorem m_puts {s : Nat} (w : Nat) (hs : s ≤ 8) (hw : w < 134) {v : Int32} {σ : Mem} {K : Mem → Prop} (h : ∀ σ1, σ1 = mu σ 307 (bs s + w) v → K σ1) : w_X7_puts (nI s) (nI w) v σ K := by
  have := bs_le hs
  refine m_base hs ?_
  rw [nI_add]
  refine ⟨vi (by omega), ?_⟩
  rw [ixn (show bs s + w < 2 ^ 31 by omega)]
  exact h
theorem m_its {s l : Nat} (w : Nat) (hs : s ≤ 8) (hl : l < 26) (hw : w < 5) {σ : Mem} {K : Int32 → Mem → Prop} (h : K (σ 307 (bs s + 4 + 5 * l + w)) σ) : w_X7_its (nI s) (nI l) (nI w) σ K := by
  have := bs_le hs
  refine m_base hs ?_
  rw [show (4 : Int32) = nI 4 from rfl, show (5 : Int32) = nI 5 from rfl, pk_mul, nI_add, nI_add, nI_add]
  refine ⟨vi (by omega), ?_⟩
  rw [ixn (show bs s + 4 + 5 * l + w < 2 ^ 31 by omega)]
  exact h
theorem m_gives {s l : Nat} (w : Nat) (hs : s ≤ 8) (hl : l < 26) (hw : w < 5) {v : Int32} {σ : Mem} {K : Mem → Prop} (h : ∀ σ1, σ1 = mu σ 307 (bs s + 4 + 5 * l + w) v → K σ1) : w_X7_gives (nI s) (nI l) (nI w) v σ K := by
  have := bs_le hs
  refine m_base hs ?_
  rw [show (4 : Int32) = nI 4 from rfl, show (5 : Int32) = nI 5 from rfl, pk_mul, nI_add, nI_add, nI_add]
  refine ⟨vi (by omega), ?_⟩
  rw [ixn (show bs s + 4 + 5 * l + w < 2 ^ 31 by omega)]
  exact h
theorem cM_isS {f : Nat → Int32} {b l : Nat} (hl : l < 26) : isS (vM f b) l = decide (f (b + 4 + 5 * l) = 1) := by
  show (cM f b l).isSome = _
  unfold cM
  by_cases h : f (b + 4 + 5 * l) = 1
  · rw [if_pos ⟨hl, h⟩, decide_eq_true h]; rfl
  · rw [if_neg (fun q => h q.2), decide_eq_false h]; rfl
theorem cM_some {f : Nat → Int32} {b l : Nat} {q : Cn} (h : sC (vM f b) l = some q) : l < 26 ∧ f (b + 4 + 5 * l) = 1 ∧ q = (f (b + 4 + 5 * l + 1), f (b + 4 + 5 * l + 2), f (b + 4 + 5 * l + 3)) := by
  replace h : cM f b l = some q := h
  unfold cM at h
  by_cases h2 : l < 26 ∧ f (b + 4 + 5 * l) = 1
  · rw [if_pos h2] at h; exact ⟨h2.1, h2.2, (Option.some.inj h).symm⟩
  · rw [if_neg h2] at h; cases h
theorem m_has {s l : Nat} (hs : s ≤ 8) (hl : l < 26) {σ : Mem} {K : Int32 → Mem → Prop} (h : K (b2 (isS (vM (σ 307) (bs s)) l)) σ) : w_X7_has (nI s) (nI l) σ K := by
  rw [cM_isS hl] at h
  refine m_its 0 hs hl (by omega) ⟨fun h1 => ?_, fun h1 => ?_⟩
  · rw [Nat.add_zero] at h1; rw [decide_eq_true h1] at h; exact h
  · rw [Nat.add_zero] at h1; rw [decide_eq_false h1] at h; exact h
theorem m_counters_loop {s : Nat} (hs : s ≤ 8) {σ : Mem} {K : Int32 → Mem → Prop} (hb : hbM (σ 307) (bs s)) (h : K (nI (nC (vM (σ 307) (bs s)))) σ) : ∀ d i, i + d = 26 → w_X7_counters_4 (nI s) K (d + 1) (nI (fb_ct (isS (vM (σ 307) (bs s))) i)) (nI i) σ := by
  intro d
  induction d with
  | zero =>
    intro i hi
    rw [w_X7_counters_4]
    obtain rfl : i = 26 := by omega
    exact ⟨fun _ => h, fun hc => absurd (nI_le (a := 26) (Nat.le_refl _) (by omega)) hc⟩
  | succ d ih =>
    intro i hi
    have hi2 : i < 26 := by omega
    have hn := ih (i + 1) (by omega)
    rw [w_X7_counters_4]
    refine ⟨fun hc => absurd hc (ge26 hi2), fun _ => m_its 0 hs hi2 (by omega) ?_⟩
    rintro v rfl
    rw [nI_1]
    have e : nI (fb_ct (isS (vM (σ 307) (bs s))) i) + σ 307 (bs s + 4 + 5 * i + 0) = nI (fb_ct (isS (vM (σ 307) (bs s))) (i + 1)) := by
      rw [fb_ct_succ, cM_isS hi2]
      rcases hb i hi2 with h0 | h1
      · rw [Nat.add_zero, h0, decide_eq_false (by decide)]
        show _ + nI 0 = _
        rw [nI_add]; rfl
      · rw [Nat.add_zero, h1, decide_eq_true rfl]
        show _ + nI 1 = _
        rw [nI_add]; rfl
    rw [e]; exact hn
theorem m_counters {s : Nat} (hs : s ≤ 8) {σ : Mem} {K : Int32 → Mem → Prop} (hb : hbM (σ 307) (bs s)) (h : K (nI (nC (vM (σ 307) (bs s)))) σ) : w_X7_counters (nI s) σ K := ⟨27, m_counters_loop hs hb h 26 0 rfl⟩
theorem m_upper {s l : Nat} (hs : s ≤ 8) (hl : l < 26) {σ : Mem} {K : Int32 → Mem → Prop} (h : K (uP (vM (σ 307) (bs s)) l) σ) : w_X7_upper (nI s) (nI l) σ K := by
  refine m_has hs hl (br_b (fun hc => m_of 1 hs (by omega) ?_) (fun hc => m_its 1 hs hl (by omega) ?_))
  · rw [uP, isS_none hc] at h; exact h
  · obtain ⟨q, hq⟩ := isS_some hc
    rw [uP, hq] at h
    obtain ⟨-, -, rfl⟩ := cM_some hq
    exact h
theorem m_lower {s l : Nat} (hs : s ≤ 8) (hl : l < 26) {σ : Mem} {K : Int32 → Mem → Prop} (h : K (lO (vM (σ 307) (bs s)) l) σ) : w_X7_lower (nI s) (nI l) σ K := by
  refine m_has hs hl (br_b (fun hc => ?_) (fun hc => m_its 1 hs hl (by omega) (m_its 2 hs hl (by omega) ?_)))
  · rw [lO, isS_none hc] at h; exact h
  · obtain ⟨q, hq⟩ := isS_some hc
    rw [lO, hq] at h
    obtain ⟨-, -, rfl⟩ := cM_some hq
    exact h
/-! small numbers: differences tell the order -/
def sml (x : Int32) : Prop := 0 ≤ x.toInt ∧ x.toInt < 2 ^ 30
theorem sml_sub {x y : Int32} (hx : sml x) (hy : sml y) : (x - y).toInt = x.toInt - y.toInt := by
  obtain ⟨a, b⟩ := hx
  obtain ⟨c, d⟩ := hy
  rw [Int32.toInt_sub]
  apply Int.bmod_eq_of_le <;> omega
theorem sml_pos {x y : Int32} (hx : sml x) (hy : sml y) : 0 < x - y ↔ y < x := by
  rw [fa_lt, fa_lt, sml_sub hx hy, Int32.toInt_zero]; omega
theorem sml_zero {x y : Int32} (hx : sml x) (hy : sml y) : x - y = 0 ↔ x = y := by
  rw [fa_eq, fa_eq, sml_sub hx hy, Int32.toInt_zero]; omega
def smC (s : Sm) : Prop := ∀ l q, sC s l = some q → sml q.1
def ls5 (s : Sm) (n : Nat) : Int32 := match lst s n with | some r => nI r.1 | none => -5
theorem ne5 {i : Nat} (h : i < 2 ^ 31) : ¬ nI i = -5 := fun q => by
  have h2 := congrArg Int32.toInt q
  rw [nI_toInt h] at h2
  have : (-5 : Int32).toInt = -5 := by decide
  omega
theorem m_least_loop {s : Nat} (hs : s ≤ 8) {σ : Mem} {K : Int32 → Mem → Prop} (hsm : smC (vM (σ 307) (bs s))) (h : K (ls5 (vM (σ 307) (bs s)) 26) σ) : ∀ d i, i + d = 26 → w_X7_least_5 (nI s) K (d + 1) (ls5 (vM (σ 307) (bs s)) i) (nI i) σ := by
  intro d
  induction d with
  | zero =>
    intro i hi
    rw [w_X7_least_5]
    obtain rfl : i = 26 := by omega
    exact ⟨fun _ => h, fun hc => absurd (nI_le (a := 26) (Nat.le_refl _) (by omega)) hc⟩
  | succ d ih =>
    intro i hi
    have hi2 : i < 26 := by omega
    have hn := ih (i + 1) (by omega)
    rw [w_X7_least_5]
    refine ⟨fun hc => absurd hc (ge26 hi2), fun _ => m_has hs hi2 (br_b (fun hc => ?_) (fun hc => ?_))⟩
    · rw [ls5, lst, isS_none hc] at hn
      rw [nI_1]; exact hn
    · obtain ⟨q, hq⟩ := isS_some hc
      obtain ⟨-, -, hqe⟩ := cM_some hq
      cases hl : lst (vM (σ 307) (bs s)) i with
      | none =>
        rw [ls5, lst, hq, hl] at hn
        rw [ls5, hl]
        refine ⟨fun _ => ?_, fun hc => absurd rfl hc⟩
        unfold w_X7_least_45
        refine ⟨fun _ => ?_, fun hc => absurd (by decide) hc⟩
        rw [nI_1]; exact hn
      | some r =>
        obtain ⟨m, rq⟩ := r
        obtain ⟨hm, hmq⟩ := lst_in hl
        obtain ⟨-, -, hre⟩ := cM_some hmq
        dsimp only at hm hre
        rw [ls5, lst, hq, hl] at hn
        dsimp only at hn
        rw [ls5, hl]
        dsimp only
        refine ⟨fun hc => absurd hc (ne5 (by omega)), fun _ => m_its 1 hs (by omega) (by omega) (m_its 1 hs hi2 (by omega) ?_)⟩
        have s1 : sml (σ 307 (bs s + 4 + 5 * m + 1)) := by have := hsm m rq hmq; rw [hre] at this; exact this
        have s2 : sml (σ 307 (bs s + 4 + 5 * i + 1)) := by have := hsm i q hq; rw [hqe] at this; exact this
        unfold w_X7_least_45
        rw [nI_1]
        have eb : bef q rq = (decide (σ 307 (bs s + 4 + 5 * i + 1) < σ 307 (bs s + 4 + 5 * m + 1)) || (decide (σ 307 (bs s + 4 + 5 * i + 1) = σ 307 (bs s + 4 + 5 * m + 1)) && decide (σ 307 (bs s + 4 + 5 * i + 3) < σ 307 (bs s + 4 + 5 * m + 3)))) := by rw [hqe, hre]; rfl
        refine ⟨fun h1 => ?_, fun h1 => ⟨fun h2 => m_its 3 hs hi2 (by omega) (m_its 3 hs (by omega) (by omega) ⟨fun h3 => ?_, fun h3 => ?_⟩), fun h2 => ?_⟩⟩
        · rw [if_pos (by rw [eb, decide_eq_true ((sml_pos s1 s2).mp h1)]; rfl)] at hn; exact hn
        · have e2 := (sml_zero s1 s2).mp h2
          rw [if_neg (by rw [eb, decide_eq_false (fun z => h1 ((sml_pos s1 s2).mpr z)), decide_eq_false (show ¬ σ 307 (bs s + 4 + 5 * i + 3) < σ 307 (bs s + 4 + 5 * m + 3) from Int32.not_lt.mpr h3)]; simp)] at hn; exact hn
        · have e2 := (sml_zero s1 s2).mp h2
          rw [if_pos (by rw [eb, decide_eq_true e2.symm, decide_eq_true (show σ 307 (bs s + 4 + 5 * i + 3) < σ 307 (bs s + 4 + 5 * m + 3) from Int32.not_le.mp h3)]; simp)] at hn; exact hn
        · rw [if_neg (by rw [eb, decide_eq_false (fun z => h1 ((sml_pos s1 s2).mpr z)), decide_eq_false (fun z => h2 ((sml_zero s1 s2).mpr z.symm))]; simp)] at hn; exact hn
theorem m_least {s : Nat} (hs : s ≤ 8) {σ : Mem} {K : Int32 → Mem → Prop} (hsm : smC (vM (σ 307) (bs s))) (h : K (ls5 (vM (σ 307) (bs s)) 26) σ) : w_X7_least (nI s) σ K := ⟨27, m_least_loop hs hsm h 26 0 rfl⟩
/-! what changes: only the row 307, and there only this summary's places -/
def M1 (s : Nat) (v : Sm) (σ σ1 : Mem) : Prop := (∀ q, q ≠ 307 → σ1 q = σ q) ∧ vM (σ1 307) (bs s) = v ∧ hbM (σ1 307) (bs s) ∧ (∀ x, (x < bs s ∨ bs s + 133 < x) → σ1 307 x = σ 307 x) ∧ σ1 307 (bs s + 3) = σ 307 (bs s + 3)
theorem M1.tr {s : Nat} {v1 v2 : Sm} {σ σ1 σ2 : Mem} (h : M1 s v1 σ σ1) (h2 : M1 s v2 σ1 σ2) : M1 s v2 σ σ2 :=
  ⟨fun q hq => (h2.1 q hq).trans (h.1 q hq), h2.2.1, h2.2.2.1, fun x hx => (h2.2.2.2.1 x hx).trans (h.2.2.2.1 x hx), h2.2.2.2.2.trans h.2.2.2.2⟩
theorem vM_ext {f g : Nat → Int32} {b c : Nat} (h : ∀ x, x < 134 → x ≠ 3 → g (c + x) = f (b + x)) : vM g c = vM f b := by
  refine Prod.ext (h 0 (by omega) (by omega)) (Prod.ext (h 1 (by omega) (by omega)) (Prod.ext (h 2 (by omega) (by omega)) (Prod.ext ?_ ?_)))
  · funext l
    show cM g c l = cM f b l
    unfold cM
    by_cases hl : l < 26
    · have e0 := h (4 + 5 * l) (by omega) (by omega)
      have e1 := h (4 + 5 * l + 1) (by omega) (by omega)
      have e2 := h (4 + 5 * l + 2) (by omega) (by omega)
      have e3 := h (4 + 5 * l + 3) (by omega) (by omega)
      simp only [← Nat.add_assoc] at e0 e1 e2 e3
      rw [e0, e1, e2, e3]
    · rw [if_neg (fun q => hl q.1), if_neg (fun q => hl q.1)]
  · funext l
    show (if l < 26 then g (c + 4 + 5 * l + 4) else 0) = if l < 26 then f (b + 4 + 5 * l + 4) else 0
    by_cases hl : l < 26
    · have e1 := h (4 + 5 * l + 4) (by omega) (by omega)
      simp only [← Nat.add_assoc] at e1
      rw [if_pos hl, if_pos hl, e1]
    · rw [if_neg hl, if_neg hl]
theorem hbM_ext {f g : Nat → Int32} {b c : Nat} (h : ∀ x, x < 134 → x ≠ 3 → g (c + x) = f (b + x)) (hb : hbM f b) : hbM g c := by
  intro l hl
  have e0 := h (4 + 5 * l) (by omega) (by omega)
  simp only [← Nat.add_assoc] at e0
  rw [e0]
  exact hb l hl
theorem m_drops {s l : Nat} {q : Cn} {σ : Mem} (hs : s ≤ 8) (hq : sC (vM (σ 307) (bs s)) l = some q) (hb : hbM (σ 307) (bs s)) {K : Mem → Prop} (h : ∀ σ1, M1 s (drp (vM (σ 307) (bs s)) (l, q)) σ σ1 → K σ1) : w_X7_drops (nI s) (nI l) σ K := by
  obtain ⟨hl, hh, rfl⟩ := cM_some hq
  have key : ∀ v : Int32, v = (if σ 307 (bs s + 1) < σ 307 (bs s + 4 + 5 * l + 1) then σ 307 (bs s + 4 + 5 * l + 1) else σ 307 (bs s + 1)) → w_X7_puts (nI s) 1 v σ (fun σ7 => w_X7_gives (nI s) (nI l) 0 0 σ7 K) := by
    intro v hv
    refine m_puts 1 hs (by omega) (fun σ1 e1 => m_gives 0 hs hl (by omega) (fun σ2 e2 => ?_))
    have ef : σ2 307 = upd (upd (σ 307) (bs s + 1) v) (bs s + 4 + 5 * l + 0) 0 := by rw [e2, mu_k, e1, mu_k]
    refine h σ2 ⟨fun p hp => by rw [e2, mu_o hp, e1, mu_o hp], ?_, fun j hj => ?_, fun x hx => ?_, ?_⟩
    · rw [ef]
      refine Prod.ext ?_ (Prod.ext ?_ (Prod.ext ?_ (Prod.ext ?_ ?_)))
      · show upd (upd (σ 307) (bs s + 1) v) (bs s + 4 + 5 * l + 0) 0 (bs s) = σ 307 (bs s)
        simp only [upd]; rw [if_neg (by omega), if_neg (by omega)]
      · show upd (upd (σ 307) (bs s + 1) v) (bs s + 4 + 5 * l + 0) 0 (bs s + 1) = _
        simp only [upd]; rw [if_neg (by omega), if_pos (by trivial), hv]; rfl
      · show upd (upd (σ 307) (bs s + 1) v) (bs s + 4 + 5 * l + 0) 0 (bs s + 2) = σ 307 (bs s + 2)
        simp only [upd]; rw [if_neg (by omega), if_neg (by omega)]
      · funext j
        show cM (upd (upd (σ 307) (bs s + 1) v) (bs s + 4 + 5 * l + 0) 0) (bs s) j = if j = l then none else cM (σ 307) (bs s) j
        unfold cM
        by_cases hjl : j = l
        · subst hjl
          rw [if_pos rfl, if_neg (fun z => by simp only [upd] at z; rw [if_pos (by trivial)] at z; exact absurd z.2 (by decide))]
        · rw [if_neg hjl]
          have g : ∀ x, x < 5 → upd (upd (σ 307) (bs s + 1) v) (bs s + 4 + 5 * l + 0) 0 (bs s + 4 + 5 * j + x) = σ 307 (bs s + 4 + 5 * j + x) := fun x hx => by
            simp only [upd]; rw [if_neg (by omega), if_neg (by omega)]
          have g0 : upd (upd (σ 307) (bs s + 1) v) (bs s + 4 + 5 * l + 0) 0 (bs s + 4 + 5 * j) = σ 307 (bs s + 4 + 5 * j) := g 0 (by omega)
          rw [g0, g 1 (by omega), g 2 (by omega), g 3 (by omega)]
      · funext j
        show (if j < 26 then upd (upd (σ 307) (bs s + 1) v) (bs s + 4 + 5 * l + 0) 0 (bs s + 4 + 5 * j + 4) else 0) = if j < 26 then σ 307 (bs s + 4 + 5 * j + 4) else 0
        have : upd (upd (σ 307) (bs s + 1) v) (bs s + 4 + 5 * l + 0) 0 (bs s + 4 + 5 * j + 4) = σ 307 (bs s + 4 + 5 * j + 4) := by
          simp only [upd]; rw [if_neg (by omega), if_neg (by omega)]
        rw [this]
    · rw [ef]
      simp only [upd]
      by_cases hjl : j = l
      · subst hjl; rw [if_pos (by trivial)]; exact Or.inl rfl
      · rw [if_neg (by omega), if_neg (by omega)]; exact hb j hj
    · rw [ef]; simp only [upd]; rw [if_neg (by omega), if_neg (by omega)]
    · rw [ef]; simp only [upd]; rw [if_neg (by omega), if_neg (by omega)]
  refine m_its 1 hs hl (by omega) (m_of 1 hs (by omega) ⟨fun hc => m_of 1 hs (by omega) (key _ ?_), fun hc => key _ ?_⟩)
  · rw [if_neg (Int32.not_lt.mpr hc)]
  · rw [if_pos (Int32.not_le.mp hc)]
