/-! The reference's history. -/
def hM (σ : Mem) (k : Nat) : Nat → Int32 := fun x => σ 308 (1110 * k + x)
theorem m_rec51 {k : Nat} {σ : Mem} {K : Mem → Prop} (hk : k < 4) (h2 : σ 306 2 = nI k) (h : ∀ σ1, (∀ q, q ≠ 306 → q ≠ 308 → σ1 q = σ q) → (∀ x, x ≠ 2 → σ1 306 x = σ 306 x) → σ1 306 2 = nI (k + 1) → (∀ x, x < 1110 → σ1 308 (1110 * k + x) = σ 307 x) → (∀ x, (x < 1110 * k ∨ 1110 * k + 1110 ≤ x) → σ1 308 x = σ 308 x) → K σ1) : ∀ d i (σ1 : Mem), i + d = 1110 → (∀ q, q ≠ 308 → σ1 q = σ q) → (∀ x, x < i → σ1 308 (1110 * k + x) = σ 307 x) → (∀ x, (x < 1110 * k ∨ 1110 * k + i ≤ x) → σ1 308 x = σ 308 x) → w_X7_record_51 K (d + 1) (nI i) σ1 := by
  intro d
  induction d with
  | zero =>
    intro i σ1 hi q1 q2 q3
    rw [w_X7_record_51]
    obtain rfl : i = 1110 := by omega
    refine ⟨fun _ => ?_, fun hc => absurd (nI_le (a := 1110) (Nat.le_refl _) (by omega)) hc⟩
    rintro σ2 e2
    refine h σ2 (fun q a b => by rw [e2, mu_o a, q1 q b]) (fun x hx => ?_) ?_ (fun x hx => by rw [e2, mu_o (by omega)]; exact q2 x hx) (fun x hx => by rw [e2, mu_o (by omega)]; exact q3 x hx)
    · rw [e2, mu_k]; simp only [upd, if_neg hx]; rw [q1 306 (by omega)]
    · rw [e2, mu_k]; simp only [upd, if_true]; rw [q1 306 (by omega), h2, nI_1]
  | succ d ih =>
    intro i σ1 hi q1 q2 q3
    rw [w_X7_record_51]
    refine ⟨fun hc => absurd hc (nI_ge (b := 1110) (by omega) (by omega)), fun _ => ⟨vi (by omega), ?_⟩⟩
    rw [q1 306 (by omega), h2, show (1110 : Int32) = nI 1110 from rfl, pk_mul, nI_add]
    refine ⟨vi (by omega), ?_⟩
    rw [ixn (show 1110 * k + i < 2 ^ 31 by omega), ixn (show i < 2 ^ 31 by omega), nI_1]
    rintro σ2 e2
    refine ih (i + 1) σ2 (by omega) (fun q hq => by rw [e2, mu_o hq, q1 q hq]) (fun x hx => ?_) (fun x hx => ?_)
    · rw [e2, mu_k]
      simp only [upd]
      by_cases hxi : x = i
      · subst hxi; rw [if_pos (by trivial), q1 307 (by omega)]
      · rw [if_neg (by omega)]; exact q2 x (by omega)
    · rw [e2, mu_k]
      simp only [upd]
      rw [if_neg (by omega)]; exact q3 x (by omega)
theorem m_rec10 {σ : Mem} {K : Mem → Prop} (h2 : σ 306 2 = nI 4) (h : ∀ σ1, (∀ q, q ≠ 306 → q ≠ 308 → σ1 q = σ q) → (∀ x, x ≠ 2 → σ1 306 x = σ 306 x) → σ1 306 2 = nI 3 → (∀ x, x < 3330 → σ1 308 x = σ 308 (x + 1110)) → (∃ n7, w_X7_record_51 K n7 0 σ1)) : ∀ d i (σ1 : Mem), i + d = 3330 → (∀ q, q ≠ 308 → σ1 q = σ q) → (∀ x, x < i → σ1 308 x = σ 308 (x + 1110)) → (∀ x, i ≤ x → σ1 308 x = σ 308 x) → w_X7_record_10 K (d + 1) (nI i) σ1 := by
  intro d
  induction d with
  | zero =>
    intro i σ1 hi q1 q2 q3
    rw [w_X7_record_10]
    obtain rfl : i = 3330 := by omega
    refine ⟨fun _ => ?_, fun hc => absurd (nI_le (a := 3330) (Nat.le_refl _) (by omega)) hc⟩
    rintro σ2 e2
    refine h σ2 (fun q a b => by rw [e2, mu_o a, q1 q b]) (fun x hx => ?_) ?_ (fun x hx => by rw [e2, mu_o (by omega)]; exact q2 x hx)
    · rw [e2, mu_k]; simp only [upd, if_neg hx]; rw [q1 306 (by omega)]
    · rw [e2, mu_k]; simp only [upd, if_true]; rw [q1 306 (by omega), h2]; rfl
  | succ d ih =>
    intro i σ1 hi q1 q2 q3
    rw [w_X7_record_10]
    rw [show (1110 : Int32) = nI 1110 from rfl, nI_add]
    refine ⟨fun hc => absurd hc (nI_ge (b := 3330) (by omega) (by omega)), fun _ => ⟨vi (by omega), vi (by omega), ?_⟩⟩
    rw [ixn (show i + 1110 < 2 ^ 31 by omega), ixn (show i < 2 ^ 31 by omega), nI_1]
    rintro σ2 e2
    refine ih (i + 1) σ2 (by omega) (fun q hq => by rw [e2, mu_o hq, q1 q hq]) (fun x hx => ?_) (fun x hx => ?_)
    · rw [e2, mu_k]
      simp only [upd]
      by_cases hxi : x = i
      · subst hxi; rw [if_pos (by trivial), q3 _ (by omega)]
      · rw [if_neg hxi]; exact q2 x (by omega)
    · rw [e2, mu_k]
      simp only [upd]
      rw [if_neg (by omega)]; exact q3 x (by omega)
def up4 (n : Nat) : Nat := if n < 4 then n + 1 else 4
theorem m_record {n : Nat} {σ : Mem} {K : Mem → Prop} (hn : n ≤ 4) (h2 : σ 306 2 = nI n) (h : ∀ σ1, (∀ q, q ≠ 306 → q ≠ 308 → σ1 q = σ q) → (∀ x, x ≠ 2 → σ1 306 x = σ 306 x) → σ1 306 2 = nI (up4 n) → (∀ x, x < 1110 → hM σ1 (up4 n - 1) x = σ 307 x) → (∀ j, j < 3 → j < n → ∀ x, x < 1110 → hM σ1 (up4 n - 1 - (j + 1)) x = hM σ (n - 1 - j) x) → K σ1) : w_X7_record σ K := by
  unfold w_X7_record
  refine ⟨fun hc => ?_, fun hc => ?_⟩
  · obtain rfl : n = 4 := (nI_eq (by omega) (by omega)).mp (h2.symm.trans hc)
    refine ⟨3331, m_rec10 (σ := σ) h2 (fun σ1 a1 a2 a3 a4 => ⟨1111, m_rec51 (k := 3) (σ := σ1) (by omega) a3 (fun σ2 b1 b2 b3 b4 b5 => ?_) 1110 0 σ1 rfl (fun _ _ => rfl) (fun x hx => absurd hx (Nat.not_lt_zero x)) (fun _ _ => rfl)⟩) 3330 0 σ rfl (fun _ _ => rfl) (fun x hx => absurd hx (Nat.not_lt_zero x)) (fun _ _ => rfl)⟩
    refine h σ2 (fun q p r => by rw [b1 q p r, a1 q p r]) (fun x hx => by rw [b2 x hx, a2 x hx]) b3 (fun x hx => ?_) (fun j hj _ x hx => ?_)
    · show σ2 308 (1110 * 3 + x) = _
      rw [b4 x hx, a1 307 (by omega) (by omega)]
    · show σ2 308 (1110 * (4 - 1 - (j + 1)) + x) = σ 308 (1110 * (4 - 1 - j) + x)
      rw [b5 _ (by omega), a4 _ (by omega)]
      congr 1
      have : 4 - 1 - j = 4 - 1 - (j + 1) + 1 := by omega
      rw [this]; omega
  · have hn4 : n < 4 := by
      rcases Nat.lt_or_ge n 4 with q | q
      · exact q
      · exact absurd (by rw [h2, show n = 4 by omega]; rfl) hc
    have eu : up4 n = n + 1 := if_pos hn4
    rw [eu] at h
    refine ⟨1111, m_rec51 (k := n) (σ := σ) hn4 h2 (fun σ2 b1 b2 b3 b4 b5 => ?_) 1110 0 σ rfl (fun _ _ => rfl) (fun x hx => absurd hx (Nat.not_lt_zero x)) (fun _ _ => rfl)⟩
    refine h σ2 b1 b2 b3 (fun x hx => b4 x hx) (fun j hj hjn x hx => ?_)
    show σ2 308 (1110 * (n + 1 - 1 - (j + 1)) + x) = σ 308 (1110 * (n - 1 - j) + x)
    rw [show n + 1 - 1 - (j + 1) = n - 1 - j by omega]
    refine b5 _ (Or.inl ?_)
    have : n - 1 - j + 1 ≤ n := by omega
    omega
theorem m_undo {n : Nat} {σ : Mem} {K : Int32 → Mem → Prop} (hn : n ≤ 4) (hn0 : 0 < n) (h2 : σ 306 2 = nI n) (h : ∀ σ1, (∀ q, q ≠ 306 → q ≠ 307 → σ1 q = σ q) → (∀ x, x ≠ 2 → σ1 306 x = σ 306 x) → σ1 306 2 = nI (n - 1) → (∀ x, x < 1110 → σ1 307 x = hM σ (n - 1) x) → K (nI (n - 1)) σ1) : w_X7_undo σ K := by
  obtain ⟨m, rfl⟩ : ∃ m, n = m + 1 := ⟨n - 1, by omega⟩
  rw [Nat.add_sub_cancel] at h
  unfold w_X7_undo
  refine ⟨fun hc => absurd ((nI_eq (a := m + 1) (b := 0) (by omega) (by omega)).mp (h2.symm.trans hc)) (by omega), fun _ => ?_⟩
  rintro σ1 e1
  have k1 : σ1 306 2 = nI m := by rw [e1, mu_k]; simp only [upd, if_true]; rw [h2, nI_pred]
  have loop : ∀ d i (σ2 : Mem), i + d = 1110 → (∀ q, q ≠ 307 → σ2 q = σ1 q) → (∀ x, x < i → σ2 307 x = hM σ m x) → w_X7_undo_22 K (d + 1) (nI i) σ2 := by
    intro d
    induction d with
    | zero =>
      intro i σ2 hi q1 q2
      rw [w_X7_undo_22]
      obtain rfl : i = 1110 := by omega
      refine ⟨fun _ => ?_, fun hc => absurd (nI_le (a := 1110) (Nat.le_refl _) (by omega)) hc⟩
      rw [q1 306 (by omega), k1]
      refine h σ2 (fun q a b => by rw [q1 q b, e1, mu_o a]) (fun x hx => ?_) (by rw [q1 306 (by omega), k1]) q2
      rw [q1 306 (by omega), e1, mu_k]; simp only [upd, if_neg hx]
    | succ d ih =>
      intro i σ2 hi q1 q2
      rw [w_X7_undo_22]
      rw [q1 306 (by omega), k1, show (1110 : Int32) = nI 1110 from rfl, pk_mul, nI_add]
      refine ⟨fun hc => absurd hc (nI_ge (b := 1110) (by omega) (by omega)), fun _ => ⟨vi (by omega), vi (by omega), ?_⟩⟩
      rw [ixn (show 1110 * m + i < 2 ^ 31 by omega), ixn (show i < 2 ^ 31 by omega), nI_1]
      rintro σ3 e3
      refine ih (i + 1) σ3 (by omega) (fun q hq => by rw [e3, mu_o hq, q1 q hq]) (fun x hx => ?_)
      rw [e3, mu_k]
      simp only [upd]
      by_cases hxi : x = i
      · subst hxi; rw [if_pos (by trivial), q1 308 (by omega), e1, mu_o (by omega)]; rfl
      · rw [if_neg hxi]; exact q2 x (by omega)
  exact ⟨1111, loop 1110 0 σ1 rfl (fun _ _ => rfl) (fun x hx => absurd hx (Nat.not_lt_zero x))⟩
theorem m_keep {σ : Mem} {K : Int32 → Mem → Prop} (h : ∀ σ1, (∀ q, q ≠ 306 → q ≠ 309 → σ1 q = σ q) → (∀ x, x ≠ 4 → σ1 306 x = σ 306 x) → σ1 306 4 = 1 → (∀ x, x < 1110 → σ1 309 x = σ 307 x) → K (σ 307 1072) σ1) : w_X7_keep σ K := by
  have loop : ∀ d i (σ2 : Mem), i + d = 1110 → (∀ q, q ≠ 309 → σ2 q = σ q) → (∀ x, x < i → σ2 309 x = σ 307 x) → w_X7_keep_2 K (d + 1) (nI i) σ2 := by
    intro d
    induction d with
    | zero =>
      intro i σ2 hi q1 q2
      rw [w_X7_keep_2]
      obtain rfl : i = 1110 := by omega
      refine ⟨fun _ => ?_, fun hc => absurd (nI_le (a := 1110) (Nat.le_refl _) (by omega)) hc⟩
      rintro σ3 e3
      refine ⟨vil (i := 1072) (by omega), ?_⟩
      rw [show ix (1072 : Int32) = 1072 from rfl, show σ3 307 1072 = σ 307 1072 by rw [e3, mu_o (by omega), q1 307 (by omega)]]
      refine h σ3 (fun q a b => by rw [e3, mu_o a, q1 q b]) (fun x hx => ?_) ?_ (fun x hx => by rw [e3, mu_o (by omega)]; exact q2 x hx)
      · rw [e3, mu_k]; simp only [upd, if_neg hx]; rw [q1 306 (by omega)]
      · rw [e3, mu_k]; simp [upd]
    | succ d ih =>
      intro i σ2 hi q1 q2
      rw [w_X7_keep_2]
      refine ⟨fun hc => absurd hc (nI_ge (b := 1110) (by omega) (by omega)), fun _ => ⟨vi (by omega), vi (by omega), ?_⟩⟩
      rw [ixn (show i < 2 ^ 31 by omega), nI_1]
      rintro σ3 e3
      refine ih (i + 1) σ3 (by omega) (fun q hq => by rw [e3, mu_o hq, q1 q hq]) (fun x hx => ?_)
      rw [e3, mu_k]
      simp only [upd]
      by_cases hxi : x = i
      · subst hxi; rw [if_pos (by trivial), q1 307 (by omega)]
      · rw [if_neg hxi]; exact q2 x (by omega)
  exact ⟨1111, loop 1110 0 σ rfl (fun _ _ => rfl) (fun x hx => absurd hx (Nat.not_lt_zero x))⟩
theorem m_restore16 {σ : Mem} {K : Int32 → Mem → Prop} (h : ∀ σ1, (∀ q, q ≠ 307 → σ1 q = σ q) → (∀ x, x < 1110 → σ1 307 x = σ 309 x) → K (σ 309 1072) σ1) : ∃ n6, w_X7_restore_16 K n6 0 σ := by
  have loop : ∀ d i (σ2 : Mem), i + d = 1110 → (∀ q, q ≠ 307 → σ2 q = σ q) → (∀ x, x < i → σ2 307 x = σ 309 x) → w_X7_restore_16 K (d + 1) (nI i) σ2 := by
    intro d
    induction d with
    | zero =>
      intro i σ2 hi q1 q2
      rw [w_X7_restore_16]
      obtain rfl : i = 1110 := by omega
      refine ⟨fun _ => ⟨vil (i := 1072) (by omega), ?_⟩, fun hc => absurd (nI_le (a := 1110) (Nat.le_refl _) (by omega)) hc⟩
      rw [show ix (1072 : Int32) = 1072 from rfl, q2 1072 (by omega)]
      exact h σ2 q1 q2
    | succ d ih =>
      intro i σ2 hi q1 q2
      rw [w_X7_restore_16]
      refine ⟨fun hc => absurd hc (nI_ge (b := 1110) (by omega) (by omega)), fun _ => ⟨vi (by omega), vi (by omega), ?_⟩⟩
      rw [ixn (show i < 2 ^ 31 by omega), nI_1]
      rintro σ3 e3
      refine ih (i + 1) σ3 (by omega) (fun q hq => by rw [e3, mu_o hq, q1 q hq]) (fun x hx => ?_)
      rw [e3, mu_k]
      simp only [upd]
      by_cases hxi : x = i
      · subst hxi; rw [if_pos (by trivial), q1 309 (by omega)]
      · rw [if_neg hxi]; exact q2 x (by omega)
  exact ⟨1111, loop 1110 0 σ rfl (fun _ _ => rfl) (fun x hx => absurd hx (Nat.not_lt_zero x))⟩
