/-! At the start. -/
def σ00 : Mem := fun k j => if kd k = 3 then (if j = 0 then 4 else 0) else if kd k = 5 then (if j = 2 then 1 else if j = 3 then 1 else 0) else if k = 307 then (if j = 1110 then 4 else if j < 1072 then (if j % 134 = 0 then 4 else 0) else if j = 1075 then 1 else if j = 1076 then 1 else 0) else 0
theorem z_3 {k j : Nat} (h : kd k = 3) : σ00 k j = if j = 0 then 4 else 0 := if_pos h
theorem z_5 {k j : Nat} (h : kd k = 5) : σ00 k j = if j = 2 then 1 else if j = 3 then 1 else 0 := by
  unfold σ00
  rw [if_neg (by rw [h]; decide), if_pos h]
theorem z_o {k j : Nat} (h3 : kd k ≠ 3) (h5 : kd k ≠ 5) (h7 : k ≠ 307) : σ00 k j = 0 := by
  unfold σ00
  rw [if_neg h3, if_neg h5, if_neg h7]
theorem z_7 {j : Nat} : σ00 307 j = if j = 1110 then 4 else if j < 1072 then (if j % 134 = 0 then 4 else 0) else if j = 1075 then 1 else if j = 1076 then 1 else 0 := by
  unfold σ00
  rw [if_neg (show ¬ kd 307 = 3 by decide), if_neg (show ¬ kd 307 = 5 by decide), if_pos rfl]
theorem z_v {k : Nat} (h : kd k = 3) (h4 : kd (k + 4) = 20) (h7 : k + 4 ≠ 307) : vC σ00 k = e4 ∧ hbC σ00 k := by
  have z : ∀ j, j ≠ 0 → σ00 k j = 0 := fun j hj => by rw [z_3 h, if_neg hj]
  refine ⟨Prod.ext ?_ (Prod.ext (z 1 (by omega)) (Prod.ext (z 2 (by omega)) (Prod.ext ?_ ?_))), fun j _ _ => ?_⟩
  · show σ00 k 0 = 4; rw [z_3 h, if_pos rfl]
  · funext l
    show cC σ00 k l = none
    unfold cC
    rw [z 3 (by omega), b_0, if_neg (by simp)]
  · funext l
    show (if l < 26 then σ00 (k + 4) l else 0) = 0
    rw [z_o (by rw [h4]; decide) (by rw [h4]; decide) h7]
    split <;> rfl
  · rw [z 3 (by omega), b_0]
def A00 : AS := ((fun i => if i < 4 then e4 else z0), (fun i => if i < 1 then e4 else z0), 1, 1, 0, (fun _ => none), 0, 0, 0)
def t00 : ST := (A00, 0, (fun _ => A00), none, 0, fun _ => 0)
theorem z_k : ∀ i, i < 4 → kd (0 + 2 + 5 * i) = 3 ∧ kd (0 + 2 + 5 * i + 4) = 20 ∧ kd (22 + 2 + 5 * i) = 3 ∧ kd (22 + 2 + 5 * i + 4) = 20 := by decide +kernel
theorem z_CR : CR σ00 t00 := by
  have s0 : ∀ i, i < 4 → vC σ00 (0 + 2 + 5 * i) = e4 ∧ hbC σ00 (0 + 2 + 5 * i) := fun i hi => z_v (z_k i hi).1 (z_k i hi).2.1 (by omega)
  have b0 : ∀ i, i < 4 → vC σ00 (22 + 2 + 5 * i) = e4 ∧ hbC σ00 (22 + 2 + 5 * i) := fun i hi => z_v (z_k i hi).2.2.1 (z_k i hi).2.2.2 (by omega)
  have w5 : kd 22 = 5 := by decide
  have w : ∀ j, σ00 22 j = if j = 2 then 1 else if j = 3 then 1 else 0 := fun j => z_5 w5
  have oo : ∀ k j, kd k ≠ 3 → kd k ≠ 5 → k ≠ 307 → σ00 k j = 0 := fun k j => z_o
  have l0 : ∀ j, σ00 44 j = 0 := fun j => z_o (by decide) (by decide) (by decide)
  have h0 : ∀ j, σ00 300 j = 0 := fun j => z_o (by decide) (by decide) (by decide)
  have n0 : ∀ j, σ00 0 j = 0 := fun j => z_o (by decide) (by decide) (by decide)
  have x0 : ∀ j, σ00 302 j = 0 := fun j => z_o (by decide) (by decide) (by decide)
  have f0 : ∀ j, σ00 299 j = 0 := fun j => z_o (by decide) (by decide) (by decide)
  have hwf : wfW σ00 22 := ⟨⟨0, 1, 0, by rw [w]; rfl, by rw [w]; rfl, by rw [w]; rfl, by omega, by omega, by omega, by omega⟩, fun i hi => ⟨(b0 i hi).2, congrArg sZ (b0 i hi).1⟩⟩
  refine ⟨⟨⟨fun i hi => (s0 i hi).2, hwf, 0, 0, by rw [l0]; rfl, by rw [l0]; rfl, by omega, by omega⟩, ?_⟩, ⟨⟨⟨0, 0, by rw [h0]; rfl, by rw [h0]; rfl, by omega, by omega⟩, fun j hj => ?_⟩, by rw [h0]; rfl, fun j hj => absurd hj (Nat.not_lt_zero j)⟩, f0 3, by rw [x0]; rfl, fun x hx => absurd hx (Nat.not_lt_zero x)⟩
  · refine as_ext ?_ ?_ ?_ ?_ ?_ ?_ (n0 3) (n0 4) (n0 5)
    · funext i
      show (if i < 4 then vC σ00 (0 + 2 + 5 * i) else z0) = if i < 4 then e4 else z0
      by_cases hi : i < 4
      · rw [if_pos hi, if_pos hi, (s0 i hi).1]
      · rw [if_neg hi, if_neg hi]
    · funext i
      show blC σ00 22 i = if i < 1 then e4 else z0
      unfold blC
      rw [show σ00 22 2 = nI 1 by rw [w]; rfl, ixn (show 1 < 2 ^ 31 by omega)]
      by_cases hi : i < 1
      · rw [if_pos hi, if_pos hi, (b0 _ (sl4_lt _ _ _)).1]
      · rw [if_neg hi, if_neg hi]
    · show σ00 22 2 = 1; rw [w]; rfl
    · show σ00 22 3 = 1; rw [w]; rfl
    · show σ00 22 4 = 0; rw [w]; rfl
    · funext j
      show lgC σ00 44 j = none
      unfold lgC
      rw [l0 5, if_neg (by show ¬ j < ix 0; rw [show ix (0 : Int32) = 0 from rfl]; omega)]
  · rw [h0 2, show ix (0 : Int32) = 0 from rfl] at hj
    exact absurd hj (Nat.not_lt_zero j)
theorem z_m {b : Nat} (h : b + 133 < 1072 ∨ b = 1110) (h0 : σ00 307 b = 4) (hz : ∀ x, 0 < x → x < 134 → σ00 307 (b + x) = 0) : vM (σ00 307) b = e4 ∧ hbM (σ00 307) b := by
  refine ⟨Prod.ext h0 (Prod.ext (hz 1 (by omega) (by omega)) (Prod.ext (hz 2 (by omega) (by omega)) (Prod.ext ?_ ?_))), fun l hl => ?_⟩
  · funext l
    show cM (σ00 307) b l = none
    unfold cM
    by_cases hl : l < 26
    · rw [show b + 4 + 5 * l = b + (4 + 5 * l) by omega, hz _ (by omega) (by omega), if_neg (fun q => absurd q.2 (by decide))]
    · rw [if_neg (fun q => hl q.1)]
  · funext l
    show (if l < 26 then σ00 307 (b + 4 + 5 * l + 4) else 0) = 0
    by_cases hl : l < 26
    · rw [if_pos hl, show b + 4 + 5 * l + 4 = b + (4 + 5 * l + 4) by omega, hz _ (by omega) (by omega)]
    · rw [if_neg hl]
  · rw [show b + 4 + 5 * l = b + (4 + 5 * l) by omega]
    exact Or.inl (hz _ (by omega) (by omega))
theorem z_bs {s : Nat} (hs : s < 8) : vM (σ00 307) (bs s) = e4 ∧ hbM (σ00 307) (bs s) := by
  have e := bs7 hs
  refine z_m (by omega) ?_ (fun x h1 h2 => ?_)
  · rw [z_7, if_neg (by omega), if_pos (by omega), if_pos (by omega)]
  · rw [z_7, if_neg (by omega), if_pos (by omega), if_neg (by omega)]
theorem z_MR : MR σ00 t00 := by
  have g76 : σ00 307 1076 = nI 1 := by rw [z_7, if_neg (by omega), if_neg (by omega), if_neg (by omega), if_pos rfl]; rfl
  have g75 : σ00 307 1075 = 1 := by rw [z_7, if_neg (by omega), if_neg (by omega), if_pos rfl]
  have hi : ∀ x, 1072 ≤ x → x ≠ 1075 → x ≠ 1076 → x ≠ 1110 → σ00 307 x = 0 := fun x a b c d => by rw [z_7, if_neg d, if_neg (by omega), if_neg b, if_neg c]
  have m0 : ∀ j, σ00 306 j = 0 := fun j => z_o (by decide) (by decide) (by decide)
  have i76 : ix (σ00 307 1076) = 1 := by rw [g76]; rfl
  have a4 : ∀ i, i < 4 → σ00 307 (bs (4 + i) + 3) = 0 := fun i hi2 => by
    have e := bs7 (s := 4 + i) (by omega)
    rw [z_7, if_neg (by omega), if_pos (by omega), if_neg (by omega)]
  refine ⟨⟨⟨fun s hs => (z_bs hs).2, ⟨1, 0, g76, a4 0 (by omega), by omega, by omega, by omega, fun i h => absurd h (by omega)⟩, ⟨0, hi _ (by omega) (by omega) (by omega) (by omega), by omega⟩, fun i h => congrArg sZ (z_bs (s := 4 + i) (by omega)).1⟩, ?_⟩, ⟨by rw [m0]; rfl, fun j hj => absurd hj (Nat.not_lt_zero j)⟩, m0 4, by rw [m0]; rfl, fun x hx => absurd hx (Nat.not_lt_zero x)⟩
  refine as_ext ?_ ?_ g76 g75 ?_ ?_ (hi 1072 (by omega) (by omega) (by omega) (by omega)) (hi 1073 (by omega) (by omega) (by omega) (by omega)) (hi 1074 (by omega) (by omega) (by omega) (by omega))
  · funext i
    show (if i < 4 then vM (σ00 307) (bs i) else z0) = if i < 4 then e4 else z0
    by_cases h : i < 4
    · rw [if_pos h, if_pos h, (z_bs (by omega)).1]
    · rw [if_neg h, if_neg h]
  · funext i
    show (if i < ix (σ00 307 1076) then vM (σ00 307) (bs (4 + i)) else z0) = if i < 1 then e4 else z0
    rw [i76]
    by_cases h : i < 1
    · rw [if_pos h, if_pos h, (z_bs (by omega)).1]
    · rw [if_neg h, if_neg h]
  · show σ00 307 (bs (3 + ix (σ00 307 1076)) + 3) = 0
    rw [i76]; exact a4 0 (by omega)
  · funext j
    show lgM (σ00 307) j = none
    unfold lgM
    rw [hi 1077 (by omega) (by omega) (by omega) (by omega), if_neg (by rw [show ix (0 : Int32) = 0 from rfl]; omega)]
theorem z_ok : okT t00 := by
  have e : ∀ i, i < 4 → aSm A00 i = e4 := fun i hi => if_pos hi
  have b : aBl A00 0 = e4 := by show (if 0 < 1 then e4 else z0) = e4; exact if_pos (by omega)
  have hA : okA A00 := ⟨fun i hi => by rw [e i hi]; exact ok_e4 (by omega), 1, 0, rfl, by omega, by omega, rfl, by omega, fun i h => absurd h (by omega), by rw [show 1 - 1 = 0 from rfl, b]; exact ok_e4 (by omega), fun i h => by rw [show i = 0 by omega, b]; rfl⟩
  exact ⟨hA, ⟨Nat.zero_le _, fun j h => absurd h (Nat.not_lt_zero j)⟩, (fun B h => by cases h), Nat.zero_le _, fun x h => absurd h (Nat.not_lt_zero x)⟩
theorem z_Inv : Inv σ00 := ⟨t00, z_CR, z_MR, z_ok⟩
