theorem bs_ap {s o : Nat} (hs : s ≤ 8) (ho : o ≤ 8) (h : s ≠ o) : bs s + 133 < bs o ∨ bs o + 133 < bs s := by
  unfold bs; split <;> split <;> omega
theorem m_empties_loop {s : Nat} {σ : Mem} {K : Mem → Prop} (hs : s ≤ 8) (h : ∀ σ1, (∀ q, q ≠ 307 → σ1 q = σ q) → (∀ x, σ1 307 x = if bs s + 1 ≤ x ∧ x < bs s + 134 then 0 else σ 307 x) → K σ1) : ∀ d i (σ1 : Mem), i + d = 134 → 1 ≤ i → (∀ q, q ≠ 307 → σ1 q = σ q) → (∀ x, σ1 307 x = if bs s + 1 ≤ x ∧ x < bs s + i then 0 else σ 307 x) → w_X7_empties_2 (nI s) K (d + 1) (nI i) σ1 := by
  intro d
  induction d with
  | zero =>
    intro i σ1 hi h0 h1 h2
    rw [w_X7_empties_2]
    obtain rfl : i = 134 := by omega
    exact ⟨fun _ => h σ1 h1 h2, fun hc => absurd (nI_le (a := 134) (Nat.le_refl _) (by omega)) hc⟩
  | succ d ih =>
    intro i σ1 hi h0 h1 h2
    rw [w_X7_empties_2]
    refine ⟨fun hc => absurd hc (nI_ge (b := 134) (by omega) (by omega)), fun _ => m_puts i hs (by omega) (fun σ2 e2 => ?_)⟩
    rw [nI_1]
    refine ih (i + 1) σ2 (by omega) (by omega) (fun q hq => by rw [e2, mu_o hq, h1 q hq]) (fun x => ?_)
    rw [e2, mu_k]
    simp only [upd]
    by_cases hx : x = bs s + i
    · subst hx; rw [if_pos (by trivial), if_pos (by omega)]
    · rw [if_neg hx, h2]
      by_cases hx2 : bs s + 1 ≤ x ∧ x < bs s + i
      · rw [if_pos hx2, if_pos (by omega)]
      · rw [if_neg hx2, if_neg (by omega)]
theorem m_empties {s : Nat} {σ : Mem} {K : Mem → Prop} (hs : s ≤ 8) (h : ∀ σ1, (∀ q, q ≠ 307 → σ1 q = σ q) → vM (σ1 307) (bs s) = emp (vM (σ 307) (bs s)) → hbM (σ1 307) (bs s) → σ1 307 (bs s + 3) = 0 → (∀ x, (x < bs s ∨ bs s + 133 < x) → σ1 307 x = σ 307 x) → K σ1) : w_X7_empties (nI s) σ K := by
  refine ⟨134, m_empties_loop (σ := σ) hs (fun σ1 h1 h2 => ?_) 133 1 σ rfl (by omega) (fun _ _ => rfl) (fun x => by rw [if_neg (by omega)])⟩
  refine h σ1 h1 ?_ (fun l hl => ?_) ?_ (fun x hx => by rw [h2, if_neg (by omega)])
  · refine Prod.ext ?_ (Prod.ext ?_ (Prod.ext ?_ (Prod.ext ?_ ?_)))
    · show σ1 307 (bs s) = σ 307 (bs s); rw [h2, if_neg (by omega)]
    · show σ1 307 (bs s + 1) = 0; rw [h2, if_pos (by omega)]
    · show σ1 307 (bs s + 2) = 0; rw [h2, if_pos (by omega)]
    · funext l
      show cM (σ1 307) (bs s) l = none
      unfold cM
      by_cases hl : l < 26
      · have e : σ1 307 (bs s + 4 + 5 * l) = 0 := by rw [h2, if_pos (by omega)]
        rw [e, if_neg (fun z => absurd z.2 (by decide))]
      · rw [if_neg (fun q => hl q.1)]
    · funext l
      show (if l < 26 then σ1 307 (bs s + 4 + 5 * l + 4) else 0) = 0
      by_cases hl : l < 26
      · rw [if_pos hl, h2, if_pos (by omega)]
      · rw [if_neg hl]
  · rw [h2, if_pos (by omega)]; exact Or.inl rfl
  · rw [h2, if_pos (by omega)]
theorem m_copies_loop {s o : Nat} {σ : Mem} {K : Mem → Prop} (hs : s ≤ 8) (ho : o ≤ 8) (hso : s ≠ o) (h : ∀ σ1, (∀ q, q ≠ 307 → σ1 q = σ q) → (∀ x, x < 134 → σ1 307 (bs o + x) = σ 307 (bs s + x)) → (∀ x, (x < bs o ∨ bs o + 133 < x) → σ1 307 x = σ 307 x) → K σ1) : ∀ d i (σ1 : Mem), i + d = 134 → (∀ q, q ≠ 307 → σ1 q = σ q) → (∀ x, x < i → σ1 307 (bs o + x) = σ 307 (bs s + x)) → (∀ x, (x < bs o ∨ bs o + i ≤ x) → σ1 307 x = σ 307 x) → w_X7_copies_2 (nI s) (nI o) K (d + 1) (nI i) σ1 := by
  have hap := bs_ap hs ho hso
  intro d
  induction d with
  | zero =>
    intro i σ1 hi h1 h2 h3
    rw [w_X7_copies_2]
    obtain rfl : i = 134 := by omega
    exact ⟨fun _ => h σ1 h1 h2 (fun x hx => h3 x (by omega)), fun hc => absurd (nI_le (a := 134) (Nat.le_refl _) (by omega)) hc⟩
  | succ d ih =>
    intro i σ1 hi h1 h2 h3
    rw [w_X7_copies_2]
    refine ⟨fun hc => absurd hc (nI_ge (b := 134) (by omega) (by omega)), fun _ => m_of i hs (by omega) (m_puts i ho (by omega) (fun σ2 e2 => ?_))⟩
    rw [nI_1]
    refine ih (i + 1) σ2 (by omega) (fun q hq => by rw [e2, mu_o hq, h1 q hq]) (fun x hx => ?_) (fun x hx => ?_)
    · rw [e2, mu_k]
      simp only [upd]
      by_cases hxi : x = i
      · subst hxi; rw [if_pos (by trivial), h3 _ (by omega)]
      · rw [if_neg (by omega)]; exact h2 x (by omega)
    · rw [e2, mu_k]
      simp only [upd]
      rw [if_neg (by omega)]; exact h3 x (by omega)
theorem m_copies {s o : Nat} {σ : Mem} {K : Mem → Prop} (hs : s ≤ 8) (ho : o ≤ 8) (hso : s ≠ o) (hb : hbM (σ 307) (bs s)) (h : ∀ σ1, (∀ q, q ≠ 307 → σ1 q = σ q) → vM (σ1 307) (bs o) = vM (σ 307) (bs s) → hbM (σ1 307) (bs o) → σ1 307 (bs o + 3) = σ 307 (bs s + 3) → (∀ x, (x < bs o ∨ bs o + 133 < x) → σ1 307 x = σ 307 x) → K σ1) : w_X7_copies (nI s) (nI o) σ K :=
  ⟨135, m_copies_loop hs ho hso (fun σ1 h1 h2 h3 => h σ1 h1 (vM_ext (fun x hx _ => h2 x hx)) (hbM_ext (fun x hx _ => h2 x hx) hb) (h2 3 (by omega)) h3) 134 0 σ rfl (fun _ _ => rfl) (fun x hx => absurd hx (Nat.not_lt_zero x)) (fun _ _ => rfl)⟩
/-! joining -/
theorem m_j133 {s o l : Nat} {A : Int32 → Mem → Prop} {K : Int32 → Mem → Prop} {x6 x7 hh : Int32} {σ : Mem} (hs : s ≤ 8) (ho : o ≤ 8) (hl : l < 26) (hso : s ≠ o) (h : ∀ σ1, (∀ q, q ≠ 307 → σ1 q = σ q) → σ1 307 (bs s + 4 + 5 * l) = hh → σ1 307 (bs s + 4 + 5 * l + 1) = x6 → σ1 307 (bs s + 4 + 5 * l + 2) = x7 → σ1 307 (bs s + 4 + 5 * l + 3) = σ 307 1072 → σ1 307 (bs s + 4 + 5 * l + 4) = σ 307 (bs s + 4 + 5 * l + 4) + σ 307 (bs o + 4 + 5 * l + 4) → (∀ x, (x < bs s + 4 + 5 * l ∨ bs s + 4 + 5 * l + 4 < x) → σ1 307 x = σ 307 x) → A (nI (l + 1)) σ1) : w_X7_joins_133 (nI s) (nI o) K A (nI l) x6 x7 hh 0 (nI l) (nI s) σ := by
  have hap := bs_ap hs ho hso
  have h72 : 1072 < bs s ∨ bs s + 133 < 1072 := by unfold bs; split <;> omega
  unfold w_X7_joins_133
  refine m_gives 0 hs hl (by omega) (fun σ1 e1 => m_gives 1 hs hl (by omega) (fun σ2 e2 => m_gives 2 hs hl (by omega) (fun σ3 e3 => ⟨vil (i := 1072) (by omega), m_gives 3 hs hl (by omega) (fun σ4 e4 => m_its 4 hs hl (by omega) (m_its 4 ho hl (by omega) (m_gives 4 hs hl (by omega) (fun σ5 e5 => ?_))))⟩)))
  rw [show ix (1072 : Int32) = 1072 from rfl] at e4
  rw [nI_1]
  have o1 : ∀ x, x ≠ bs s + 4 + 5 * l + 0 → σ1 307 x = σ 307 x := fun x hx => by rw [e1, mu_k]; simp only [upd, if_neg hx]
  have o2 : ∀ x, x ≠ bs s + 4 + 5 * l + 1 → σ2 307 x = σ1 307 x := fun x hx => by rw [e2, mu_k]; simp only [upd, if_neg hx]
  have o3 : ∀ x, x ≠ bs s + 4 + 5 * l + 2 → σ3 307 x = σ2 307 x := fun x hx => by rw [e3, mu_k]; simp only [upd, if_neg hx]
  have o4 : ∀ x, x ≠ bs s + 4 + 5 * l + 3 → σ4 307 x = σ3 307 x := fun x hx => by rw [e4, mu_k]; simp only [upd, if_neg hx]
  have o5 : ∀ x, x ≠ bs s + 4 + 5 * l + 4 → σ5 307 x = σ4 307 x := fun x hx => by rw [e5, mu_k]; simp only [upd, if_neg hx]
  refine h σ5 (fun q hq => by rw [e5, mu_o hq, e4, mu_o hq, e3, mu_o hq, e2, mu_o hq, e1, mu_o hq]) ?_ ?_ ?_ ?_ ?_ (fun x hx => by rw [o5 x (by omega), o4 x (by omega), o3 x (by omega), o2 x (by omega), o1 x (by omega)])
  · rw [o5 _ (by omega), o4 _ (by omega), o3 _ (by omega), o2 _ (by omega), e1, mu_k]; simp [upd]
  · rw [o5 _ (by omega), o4 _ (by omega), o3 _ (by omega), e2, mu_k]; simp [upd]
  · rw [o5 _ (by omega), o4 _ (by omega), e3, mu_k]; simp [upd]
  · rw [o5 _ (by omega), e4, mu_k]; simp only [upd, if_true]; rw [o3 _ (by omega), o2 _ (by omega), o1 _ (by omega)]
  · rw [e5, mu_k]; simp only [upd, if_true]
    rw [o4 _ (by omega), o3 _ (by omega), o2 _ (by omega), o1 _ (by omega), o4 _ (by omega), o3 _ (by omega), o2 _ (by omega), o1 _ (by omega)]
def B13 (s o i : Nat) (t : Int32) (f g : Nat → Int32) : Prop :=
  (∀ x, (x < bs s + 4 ∨ bs s + 4 + 5 * i ≤ x) → g x = f x) ∧
  (∀ l, l < i → g (bs s + 4 + 5 * l) = b2 (isS (vM f (bs s)) l || isS (vM f (bs o)) l) ∧ g (bs s + 4 + 5 * l + 1) = uP (vM f (bs s)) l + uP (vM f (bs o)) l ∧ g (bs s + 4 + 5 * l + 2) = sL (vM f (bs s)) l + sL (vM f (bs o)) l ∧ g (bs s + 4 + 5 * l + 3) = t ∧ g (bs s + 4 + 5 * l + 4) = f (bs s + 4 + 5 * l + 4) + f (bs o + 4 + 5 * l + 4))
theorem m_upx {s l : Nat} {f : Nat → Int32} (hl : l < 26) : uP (vM f (bs s)) l = if isS (vM f (bs s)) l then f (bs s + 4 + 5 * l + 1) else f (bs s + 1) := by
  cases hc : isS (vM f (bs s)) l with
  | false => rw [uP, isS_none hc]; rfl
  | true =>
    obtain ⟨q, hq⟩ := isS_some hc
    rw [uP, hq]
    obtain ⟨-, -, rfl⟩ := cM_some hq
    rfl
theorem m_slx {s l : Nat} {f : Nat → Int32} (hl : l < 26) : sL (vM f (bs s)) l = if isS (vM f (bs s)) l then f (bs s + 4 + 5 * l + 2) else f (bs s + 1) := by
  cases hc : isS (vM f (bs s)) l with
  | false => rw [sL, isS_none hc]; rfl
  | true =>
    obtain ⟨q, hq⟩ := isS_some hc
    rw [sL, hq]
    obtain ⟨-, -, rfl⟩ := cM_some hq
    rfl
theorem m_worst_loop {s : Nat} {a2 : Int32} {K : Int32 → Mem → Prop} {A : Int32 → Mem → Prop} {x3 : Int32} {σ : Mem} {r : Nat × Cn} (hs : s ≤ 8) (hr : wst (vM (σ 307) (bs s)) 26 = some r) (hb : hbM (σ 307) (bs s)) (h : ∀ σ1, M1 s (drp (vM (σ 307) (bs s)) r) σ σ1 → A (x3 + 1) σ1) : ∀ d i, i + d = 26 → w_X7_joins_258 (nI s) a2 K A (d + 1) x3 (match wst (vM (σ 307) (bs s)) i with | some r => nI r.1 | none => -5) (nI i) σ := by
  intro d
  induction d with
  | zero =>
    intro i hi
    rw [w_X7_joins_258]
    obtain rfl : i = 26 := by omega
    rw [hr]
    obtain ⟨q1, q2⟩ := wst_in hr
    exact ⟨fun _ => m_drops hs q2 hb h, fun hc => absurd (nI_le (a := 26) (Nat.le_refl _) (by omega)) hc⟩
  | succ d ih =>
    intro i hi
    have hi2 : i < 26 := by omega
    have hn := ih (i + 1) (by omega)
    rw [w_X7_joins_258]
    refine ⟨fun hc => absurd hc (ge26 hi2), fun _ => m_has hs hi2 (br_b (fun hc => ?_) (fun hc => ?_))⟩
    · rw [wst, isS_none hc] at hn
      rw [nI_1]; exact hn
    · obtain ⟨q, hq⟩ := isS_some hc
      obtain ⟨-, -, hqe⟩ := cM_some hq
      rw [nI_1]
      cases hl : wst (vM (σ 307) (bs s)) i with
      | none =>
        rw [wst, hq, hl] at hn
        exact ⟨fun _ => hn, fun hc => absurd rfl hc⟩
      | some r2 =>
        obtain ⟨m, rq⟩ := r2
        obtain ⟨hm, hmq⟩ := wst_in hl
        obtain ⟨-, -, hre⟩ := cM_some hmq
        dsimp only at hm hre
        rw [wst, hq, hl] at hn
        dsimp only at hn ⊢
        refine ⟨fun hc => absurd hc (ne5 (by omega)), fun _ => m_its 1 hs hi2 (by omega) (m_its 1 hs (by omega) (by omega) ⟨fun hz => ?_, fun hz => ?_⟩)⟩
        · rw [if_pos (by rw [hqe, hre]; exact hz)] at hn; exact hn
        · rw [if_neg (by rw [hqe, hre]; exact hz)] at hn; exact hn
theorem m_while_loop {s o z : Nat} {K : Int32 → Mem → Prop} (hs : s ≤ 8) (hz : z < 2 ^ 31) : ∀ m x (σ : Mem), nC (vM (σ 307) (bs s)) - z = m → sZ (vM (σ 307) (bs s)) = nI z → hbM (σ 307) (bs s) → (∀ σ1, M1 s (lvN m (vM (σ 307) (bs s))) σ σ1 → K (nI (x + m)) σ1) → w_X7_joins_237 (nI s) (nI o) K (m + 1) (nI x) σ := by
  intro m
  induction m with
  | zero =>
    intro x σ hm hsz hb h
    have hle := nC_le (vM (σ 307) (bs s))
    rw [w_X7_joins_237]
    refine m_counters hs hb (m_of 0 hs (by omega) ?_)
    rw [show σ 307 (bs s + 0) = nI z from hsz]
    exact ⟨fun _ => h σ ⟨fun _ _ => rfl, rfl, hb, fun _ _ => rfl, rfl⟩, fun hc => absurd (nI_le (by omega) hz) hc⟩
  | succ m ih =>
    intro x σ hm hsz hb h
    have hle := nC_le (vM (σ 307) (bs s))
    rw [w_X7_joins_237]
    refine m_counters hs hb (m_of 0 hs (by omega) ?_)
    rw [show σ 307 (bs s + 0) = nI z from hsz]
    refine ⟨fun hc => absurd ((nI_le_iff (by omega) hz).mp hc) (by omega), fun _ => ?_⟩
    obtain ⟨r, hr⟩ := nC_posw (s := vM (σ 307) (bs s)) (by omega)
    have hd := nC_drp (wst_in hr).2 (wst_in hr).1
    refine ⟨27, m_worst_loop (A := w_X7_joins_237 (nI s) (nI o) K (m + 1)) hs hr hb (fun σ1 h1 => ?_) 26 0 rfl⟩
    rw [nI_1]
    refine ih (x + 1) σ1 (by rw [h1.2.1]; omega) (by rw [h1.2.1]; exact hsz) h1.2.2.1 (fun σ2 h2 => ?_)
    rw [show x + 1 + m = x + (m + 1) by omega]
    refine h σ2 ?_
    rw [lvN, wev_of hr]
    rw [h1.2.1] at h2
    exact h1.tr h2
theorem m_joins_loop {s o z : Nat} {σ : Mem} {K : Int32 → Mem → Prop} (hs : s ≤ 8) (ho : o ≤ 8) (hso : s ≠ o) (hz : z < 2 ^ 31) (hsz : sZ (vM (σ 307) (bs s)) = nI z)
    (h : ∀ σ1, M1 s (lvN (nC (mrg (vM (σ 307) (bs s)) (vM (σ 307) (bs o)) (σ 307 1072)) - z) (mrg (vM (σ 307) (bs s)) (vM (σ 307) (bs o)) (σ 307 1072))) σ σ1 → K (nI (nC (mrg (vM (σ 307) (bs s)) (vM (σ 307) (bs o)) (σ 307 1072)) - z)) σ1) : ∀ d i (σ1 : Mem), i + d = 26 → (∀ q, q ≠ 307 → σ1 q = σ q) → B13 s o i (σ 307 1072) (σ 307) (σ1 307) → w_X7_joins_2 (nI s) (nI o) K (d + 1) (nI i) σ1 := by
  have hap := bs_ap hs ho hso
  have h72 : 1072 < bs s ∨ bs s + 133 < 1072 := by unfold bs; split <;> omega
  intro d
  induction d with
  | zero =>
    intro i σ1 hi h1 hB
    rw [w_X7_joins_2]
    obtain rfl : i = 26 := by omega
    obtain ⟨b1, b2'⟩ := hB
    refine ⟨fun _ => m_of 1 hs (by omega) (m_of 1 ho (by omega) (m_puts 1 hs (by omega) (fun σ2 e2 => m_of 2 hs (by omega) (m_of 2 ho (by omega) (m_puts 2 hs (by omega) (fun σ3 e3 => ?_)))))), fun hc => absurd (nI_le (a := 26) (Nat.le_refl _) (by omega)) hc⟩
    have o2 : ∀ x, x ≠ bs s + 1 → σ2 307 x = σ1 307 x := fun x hx => by rw [e2, mu_k]; simp only [upd, if_neg hx]
    have o3 : ∀ x, x ≠ bs s + 2 → σ3 307 x = σ2 307 x := fun x hx => by rw [e3, mu_k]; simp only [upd, if_neg hx]
    have p1 : σ3 307 (bs s + 1) = σ 307 (bs s + 1) + σ 307 (bs o + 1) := by rw [o3 _ (by omega), e2, mu_k]; simp only [upd, if_true]; rw [b1 _ (by omega), b1 _ (by omega)]
    have p2 : σ3 307 (bs s + 2) = σ 307 (bs s + 2) + σ 307 (bs o + 2) := by rw [e3, mu_k]; simp only [upd, if_true]; rw [o2 _ (by omega), o2 _ (by omega), b1 _ (by omega), b1 _ (by omega)]
    have oo : ∀ x, x ≠ bs s + 1 → x ≠ bs s + 2 → σ3 307 x = σ1 307 x := fun x p q => by rw [o3 x q, o2 x p]
    have hv : vM (σ3 307) (bs s) = mrg (vM (σ 307) (bs s)) (vM (σ 307) (bs o)) (σ 307 1072) := by
      refine Prod.ext ?_ (Prod.ext p1 (Prod.ext p2 (Prod.ext ?_ ?_)))
      · show σ3 307 (bs s) = σ 307 (bs s); rw [oo _ (by omega) (by omega), b1 _ (by omega)]
      · funext l
        show cM (σ3 307) (bs s) l = if (isS (vM (σ 307) (bs s)) l || isS (vM (σ 307) (bs o)) l) = true then some (uP (vM (σ 307) (bs s)) l + uP (vM (σ 307) (bs o)) l, sL (vM (σ 307) (bs s)) l + sL (vM (σ 307) (bs o)) l, σ 307 1072) else none
        unfold cM
        by_cases hl : l < 26
        · obtain ⟨g0, g1, g2, g3, g4⟩ := b2' l hl
          rw [oo _ (by omega) (by omega), oo _ (by omega) (by omega), oo _ (by omega) (by omega), oo _ (by omega) (by omega), g0, g1, g2, g3]
          cases hx : (isS (vM (σ 307) (bs s)) l || isS (vM (σ 307) (bs o)) l) with
          | true => rw [if_pos ⟨hl, rfl⟩, if_pos rfl]
          | false => rw [if_neg (fun q => absurd q.2 (by decide)), if_neg (by decide)]
        · have x1 : isS (vM (σ 307) (bs s)) l = false := by show (cM (σ 307) (bs s) l).isSome = false; unfold cM; rw [if_neg (fun q => hl q.1)]; rfl
          have x2 : isS (vM (σ 307) (bs o)) l = false := by show (cM (σ 307) (bs o) l).isSome = false; unfold cM; rw [if_neg (fun q => hl q.1)]; rfl
          rw [x1, x2, if_neg (fun q => hl q.1)]
          rfl
      · funext l
        show (if l < 26 then σ3 307 (bs s + 4 + 5 * l + 4) else 0) = (if l < 26 then σ 307 (bs s + 4 + 5 * l + 4) else 0) + (if l < 26 then σ 307 (bs o + 4 + 5 * l + 4) else 0)
        by_cases hl : l < 26
        · rw [if_pos hl, if_pos hl, if_pos hl, oo _ (by omega) (by omega), (b2' l hl).2.2.2.2]
        · rw [if_neg hl, if_neg hl, if_neg hl]; rfl
    have hb3 : hbM (σ3 307) (bs s) := fun l hl => by
      rw [oo _ (by omega) (by omega), (b2' l hl).1]
      cases (isS (vM (σ 307) (bs s)) l || isS (vM (σ 307) (bs o)) l)
      · exact Or.inl rfl
      · exact Or.inr rfl
    refine ⟨_, m_while_loop (o := o) hs hz _ 0 σ3 rfl (by rw [hv]; exact hsz) hb3 (fun σ4 h4 => ?_)⟩
    rw [hv] at h4 ⊢
    rw [Nat.zero_add]
    obtain ⟨c1, c2, c3, c4, c5⟩ := h4
    refine h σ4 ⟨fun q hq => by rw [c1 q hq, e3, mu_o hq, e2, mu_o hq, h1 q hq], c2, c3, fun x hx => by rw [c4 x hx, oo x (by omega) (by omega), b1 x (by omega)], by rw [c5, oo _ (by omega) (by omega), b1 _ (by omega)]⟩
  | succ d ih =>
    intro i σ1 hi h1 hB
    have hi2 : i < 26 := by omega
    obtain ⟨b1, b2'⟩ := hB
    have es : isS (vM (σ1 307) (bs s)) i = isS (vM (σ 307) (bs s)) i := by rw [cM_isS hi2, cM_isS hi2, b1 _ (by omega)]
    have eo : isS (vM (σ1 307) (bs o)) i = isS (vM (σ 307) (bs o)) i := by rw [cM_isS hi2, cM_isS hi2, b1 _ (by omega)]
    have fs : σ1 307 (bs s + 1) = σ 307 (bs s + 1) := b1 _ (by omega)
    have fo : σ1 307 (bs o + 1) = σ 307 (bs o + 1) := b1 _ (by omega)
    have cs : σ1 307 (bs s + 4 + 5 * i + 1) = σ 307 (bs s + 4 + 5 * i + 1) := b1 _ (by omega)
    have co : σ1 307 (bs o + 4 + 5 * i + 1) = σ 307 (bs o + 4 + 5 * i + 1) := b1 _ (by omega)
    have ks : σ1 307 (bs s + 4 + 5 * i + 2) = σ 307 (bs s + 4 + 5 * i + 2) := b1 _ (by omega)
    have ko : σ1 307 (bs o + 4 + 5 * i + 2) = σ 307 (bs o + 4 + 5 * i + 2) := b1 _ (by omega)
    have fin : w_X7_joins_133 (nI s) (nI o) K (w_X7_joins_2 (nI s) (nI o) K (d + 1)) (nI i) (uP (vM (σ 307) (bs s)) i + uP (vM (σ 307) (bs o)) i) (sL (vM (σ 307) (bs s)) i + sL (vM (σ 307) (bs o)) i) (b2 (isS (vM (σ 307) (bs s)) i || isS (vM (σ 307) (bs o)) i)) 0 (nI i) (nI s) σ1 := by
      refine m_j133 hs ho hi2 hso (fun σ2 c0 c1 c2 c3 c4 c5 c6 => ih (i + 1) σ2 (by omega) (fun q hq => by rw [c0 q hq, h1 q hq]) ⟨fun x hx => ?_, fun l hl => ?_⟩)
      · rw [c6 x (by omega), b1 x (by omega)]
      · by_cases hli : l = i
        · subst hli
          refine ⟨c1, c2, c3, ?_, ?_⟩
          · rw [c4, b1 _ (by omega)]
          · rw [c5, b1 _ (by omega), b1 _ (by omega)]
        · rw [c6 _ (by omega), c6 _ (by omega), c6 _ (by omega), c6 _ (by omega), c6 _ (by omega)]
          exact b2' l (by omega)
    have j111 : ∀ v37 : Int32, v37 = sL (vM (σ 307) (bs s)) i + sL (vM (σ 307) (bs o)) i → ∀ y1 y0 : Int32, y1 + y0 = v37 → w_X7_joins_111 (nI s) (nI o) K (w_X7_joins_2 (nI s) (nI o) K (d + 1)) (nI i) (b2 (isS (vM (σ 307) (bs s)) i)) (b2 (isS (vM (σ 307) (bs o)) i)) (uP (vM (σ 307) (bs s)) i + uP (vM (σ 307) (bs o)) i) y0 y1 σ1 := by
      intro v37 hv y1 y0 hy v hv2
      rw [hv2, hy, hv]
      refine br_b (fun hc => br_b (fun hc2 => ?_) (fun hc2 => ?_)) (fun hc => ?_)
      · rw [hc, hc2] at fin; exact fin
      · rw [hc, hc2] at fin; exact fin
      · rw [hc] at fin; exact fin
    have j66 : ∀ y1 y0 : Int32, y1 + y0 = uP (vM (σ 307) (bs s)) i + uP (vM (σ 307) (bs o)) i → w_X7_joins_66 (nI s) (nI o) K (w_X7_joins_2 (nI s) (nI o) K (d + 1)) (nI i) (b2 (isS (vM (σ 307) (bs s)) i)) (b2 (isS (vM (σ 307) (bs o)) i)) y0 y1 σ1 := by
      intro y1 y0 hy v hv
      rw [hv, hy]
      refine br_b (fun hc => m_of 1 hs (by omega) (br_b (fun hc2 => m_of 1 ho (by omega) (j111 _ rfl _ _ ?_)) (fun hc2 => m_its 2 ho hi2 (by omega) (j111 _ rfl _ _ ?_)))) (fun hc => m_its 2 hs hi2 (by omega) (br_b (fun hc2 => m_of 1 ho (by omega) (j111 _ rfl _ _ ?_)) (fun hc2 => m_its 2 ho hi2 (by omega) (j111 _ rfl _ _ ?_))))
      · rw [m_slx hi2, m_slx hi2, hc, hc2, fs, fo]; rfl
      · rw [m_slx hi2, m_slx hi2, hc, hc2, fs, ko]; rfl
      · rw [m_slx hi2, m_slx hi2, hc, hc2, ks, fo]; rfl
      · rw [m_slx hi2, m_slx hi2, hc, hc2, ks, ko]; rfl
    rw [w_X7_joins_2]
    refine ⟨fun hc => absurd hc (ge26 hi2), fun _ => m_has hs hi2 (m_has ho hi2 ?_)⟩
    rw [es, eo]
    refine br_b (fun hc => m_of 1 hs (by omega) (br_b (fun hc2 => m_of 1 ho (by omega) (j66 _ _ ?_)) (fun hc2 => m_its 1 ho hi2 (by omega) (j66 _ _ ?_)))) (fun hc => m_its 1 hs hi2 (by omega) (br_b (fun hc2 => m_of 1 ho (by omega) (j66 _ _ ?_)) (fun hc2 => m_its 1 ho hi2 (by omega) (j66 _ _ ?_))))
    · rw [m_upx hi2, m_upx hi2, hc, hc2, fs, fo]; rfl
    · rw [m_upx hi2, m_upx hi2, hc, hc2, fs, co]; rfl
    · rw [m_upx hi2, m_upx hi2, hc, hc2, cs, fo]; rfl
    · rw [m_upx hi2, m_upx hi2, hc, hc2, cs, co]; rfl
theorem m_joins {s o z : Nat} {σ : Mem} {K : Int32 → Mem → Prop} (hs : s ≤ 8) (ho : o ≤ 8) (hso : s ≠ o) (hz : z < 2 ^ 31) (hsz : sZ (vM (σ 307) (bs s)) = nI z)
    (h : ∀ σ1, M1 s (lvN (nC (mrg (vM (σ 307) (bs s)) (vM (σ 307) (bs o)) (σ 307 1072)) - z) (mrg (vM (σ 307) (bs s)) (vM (σ 307) (bs o)) (σ 307 1072))) σ σ1 → K (nI (nC (mrg (vM (σ 307) (bs s)) (vM (σ 307) (bs o)) (σ 307 1072)) - z)) σ1) : w_X7_joins (nI s) (nI o) σ K :=
  ⟨27, m_joins_loop hs ho hso hz hsz h 26 0 σ rfl (fun _ _ => rfl) ⟨fun _ _ => rfl, fun l hl => absurd hl (Nat.not_lt_zero l)⟩⟩
