theorem tb_of {n : Nat} {w : Cond} (h : tables_1[n]? = some w) : w ∈ lw_tbl := by
  show w ∈ k2_sels lw_privs ++ tables_1
  exact List.mem_append_right _ (List.mem_of_getElem? h)
def tmS : Nat → Term := fun i => Term.string "FloorTops$Text" (if i = 0 then 70 else if i = 1 then 76 else if i = 2 then 78 else 80)
/-- the four String constants at the law's entry -/
theorem st_S {s : State} {b : Nat} {A : Nat → Prop} (hg : ∀ w ∈ flatC (Jvm.Cond.and given_1 narrow_1), w.before #[Value.ref b] s = true) (hA0 : ∀ a : Nat, a < s.heap.size → ¬ A a) : ∃ adK adV : Nat → Nat, vk_S 4 lS bS adK adV A s s.heap ∧ ∀ i : Nat, i < 4 → (tmS i).eval #[Value.ref b] s none [] s = some (.ref (adK i)) := by
  refine vk_Sof (args := #[Value.ref b]) (s := s) (N := 4) (tm := tmS) (len := lS) (byt := bS) (A := A) ?_ ?_ ?_ ?_ ?_ ?_ ?_ hA0
  · exact fun i hi => by rcases (show i = 0 ∨ i = 1 ∨ i = 2 ∨ i = 3 by omega) with rfl | rfl | rfl | rfl <;> decide
  · exact fun i hi => by rcases (show i = 0 ∨ i = 1 ∨ i = 2 ∨ i = 3 by omega) with rfl | rfl | rfl | rfl <;> exact hg _ (by decide +kernel)
  · exact fun i hi => by rcases (show i = 0 ∨ i = 1 ∨ i = 2 ∨ i = 3 by omega) with rfl | rfl | rfl | rfl <;> exact hg _ (by decide +kernel)
  · exact fun i hi => by rcases (show i = 0 ∨ i = 1 ∨ i = 2 ∨ i = 3 by omega) with rfl | rfl | rfl | rfl <;> exact hg _ (by decide +kernel)
  · exact fun i hi => by rcases (show i = 0 ∨ i = 1 ∨ i = 2 ∨ i = 3 by omega) with rfl | rfl | rfl | rfl <;> exact hg _ (by decide +kernel)
  · exact fun i hi j hj => by
      rcases (show i = 0 ∨ i = 1 ∨ i = 2 ∨ i = 3 by omega) with rfl | rfl | rfl | rfl
      · have hj : j < 5 := hj
        rcases (show j = 0 ∨ j = 1 ∨ j = 2 ∨ j = 3 ∨ j = 4 by omega) with rfl | rfl | rfl | rfl | rfl <;> exact hg _ (by decide +kernel)
      · have hj : j < 4 := hj
        rcases (show j = 0 ∨ j = 1 ∨ j = 2 ∨ j = 3 by omega) with rfl | rfl | rfl | rfl <;> exact hg _ (by decide +kernel)
      · have hj : j < 4 := hj
        rcases (show j = 0 ∨ j = 1 ∨ j = 2 ∨ j = 3 by omega) with rfl | rfl | rfl | rfl <;> exact hg _ (by decide +kernel)
      · have hj : j < 5 := hj
        rcases (show j = 0 ∨ j = 1 ∨ j = 2 ∨ j = 3 ∨ j = 4 by omega) with rfl | rfl | rfl | rfl | rfl <;> exact hg _ (by decide +kernel)
  · exact fun i j hi hj hij => by
      rcases (show i = 0 ∨ i = 1 ∨ i = 2 ∨ i = 3 by omega) with rfl | rfl | rfl | rfl
      · rcases (show j = 0 ∨ j = 1 ∨ j = 2 ∨ j = 3 by omega) with rfl | rfl | rfl | rfl
        · exact absurd rfl hij
        · exact Or.inl (hg _ (by decide +kernel))
        · exact Or.inl (hg _ (by decide +kernel))
        · exact Or.inl (hg _ (by decide +kernel))
      · rcases (show j = 0 ∨ j = 1 ∨ j = 2 ∨ j = 3 by omega) with rfl | rfl | rfl | rfl
        · exact Or.inr (hg _ (by decide +kernel))
        · exact absurd rfl hij
        · exact Or.inl (hg _ (by decide +kernel))
        · exact Or.inl (hg _ (by decide +kernel))
      · rcases (show j = 0 ∨ j = 1 ∨ j = 2 ∨ j = 3 by omega) with rfl | rfl | rfl | rfl
        · exact Or.inr (hg _ (by decide +kernel))
        · exact Or.inr (hg _ (by decide +kernel))
        · exact absurd rfl hij
        · exact Or.inl (hg _ (by decide +kernel))
      · rcases (show j = 0 ∨ j = 1 ∨ j = 2 ∨ j = 3 by omega) with rfl | rfl | rfl | rfl
        · exact Or.inr (hg _ (by decide +kernel))
        · exact Or.inr (hg _ (by decide +kernel))
        · exact Or.inr (hg _ (by decide +kernel))
        · exact absurd rfl hij
set_option maxRecDepth 20000 in
/-- the classes and the array classes at the law's entry -/
theorem st_K {s : State} {b : Nat} (hwA : ∀ w ∈ wA, w.before #[Value.ref b] s = true) (h163 : (Cond.arrayOver (.object "FloorTops$State")).before #[Value.ref b] s = true) (h31 : (Cond.arrayOver (.object "FloorTops$Summary")).before #[Value.ref b] s = true) : ∃ (dC : Nat → ClassId) (dI : Nat → Nat → Nat) (dA : Nat → ClassId), va_K (dC, dI) vwCl [(dA 0, .int), (dA 1, .char), (dA 2, .object "FloorTops$State"), (dA 3, .object "FloorTops$Summary")] s := by
  obtain ⟨c0, i0, hKn0⟩ := u_known (C := RX0) (T := TX0) (N := 3) (n := 3) hwA inlX0 (hwA _ mB_X0)
  obtain ⟨c1, i1, hKn1⟩ := u_known (C := RX1) (T := TX1) (N := 6) (n := 6) hwA inlX1 (hwA _ mB_X1)
  obtain ⟨c2, i2, hKn2⟩ := u_known (C := RX2) (T := TX2) (N := 6) (n := 6) hwA inlX2 (hwA _ mB_X2)
  obtain ⟨c3, i3, hKn3⟩ := u_known (C := RX3) (T := TX3) (N := 8) (n := 8) hwA inlX3 (hwA _ mB_X3)
  obtain ⟨c4, i4, hKn4⟩ := u_known (C := RX4) (T := TX4) (N := 9) (n := 9) hwA inlX4 (hwA _ mB_X4)
  obtain ⟨c5, i5, hKn5⟩ := u_known (C := RX5) (T := TX5) (N := 5) (n := 5) hwA inlX5 (hwA _ mB_X5)
  obtain ⟨c6, i6, hKn6⟩ := u_known (C := RX6) (T := TX6) (N := 6) (n := 6) hwA inlX6 (hwA _ mB_X6)
  obtain ⟨c7, i7, hKn7⟩ := u_known (C := RX7) (T := TX7) (N := 11) (n := 11) hwA inlX7 (hwA _ mB_X7)
  obtain ⟨a0, k0, m0, x1, x2, x3⟩ := Cond.arrayClass_spec (hwA _ mO_2)
  obtain ⟨a1, k1, m1, y1, y2, y3⟩ := Cond.arrayClass_spec (hwA _ mO_3)
  obtain ⟨m2, a2, k2, z1, -, z2, z3, z4⟩ := Cond.arrayOver_spec h163
  obtain ⟨m3, a3, k3, u1, -, u2, u3, u4⟩ := Cond.arrayOver_spec h31
  refine ⟨fun k => if k = 0 then c0 else if k = 1 then c1 else if k = 2 then c2 else if k = 3 then c3 else if k = 4 then c4 else if k = 5 then c5 else if k = 6 then c6 else c7, fun k => if k = 0 then i0 else if k = 1 then i1 else if k = 2 then i2 else if k = 3 then i3 else if k = 4 then i4 else if k = 5 then i5 else if k = 6 then i6 else i7, fun k => if k = 0 then a0 else if k = 1 then a1 else if k = 2 then a2 else a3, ?_, ?_⟩
  · intro k q hq
    match k, hq with
    | 0, hq => cases hq; exact hKn0
    | 1, hq => cases hq; exact hKn1
    | 2, hq => cases hq; exact hKn2
    | 3, hq => cases hq; exact hKn3
    | 4, hq => cases hq; exact hKn4
    | 5, hq => cases hq; exact hKn5
    | 6, hq => cases hq; exact hKn6
    | 7, hq => cases hq; exact hKn7
    | k + 8, hq => simp [vwCl] at hq
  · intro k q hq
    match k, hq with
    | 0, hq => cases hq; exact ⟨fun N z => ⟨(fun k h => by cases h), k0, x2, m0, x3⟩, x1⟩
    | 1, hq => cases hq; exact ⟨fun N z => ⟨(fun k h => by cases h), k1, y2, m1, y3⟩, y1⟩
    | 2, hq => cases hq; exact ⟨fun N z => ⟨(fun k h => by cases h), k2, z2, m2, z3⟩, k2, m2, z2, z3, z1, z4⟩
    | 3, hq => cases hq; exact ⟨fun N z => ⟨(fun k h => by cases h), k3, u2, m3, u3⟩, k3, m3, u2, u3, u1, u4⟩
    | k + 4, hq => simp at hq
theorem st_Y {s : State} {b : Nat} (hts : ∀ w ∈ lw_tbl, w.before #[Value.ref b] s = true) : mY s := by
  refine ⟨va_AO.of (hts _ (tb_of (n := 163) (by decide +kernel))), va_AO.of (hts _ (tb_of (n := 31) (by decide +kernel))), va_Nw.of rfl (hts _ (tb_of (n := 40) (by decide +kernel))), va_Nw.of rfl (hts _ (tb_of (n := 102) (by decide +kernel))), va_Nw.of rfl (hts _ (tb_of (n := 130) (by decide +kernel))), va_Nw.of rfl (hts _ (tb_of (n := 178) (by decide +kernel))), va_Nw.of rfl (hts _ (tb_of (n := 219) (by decide +kernel)))⟩
theorem st_X {s : State} {b : Nat} {A : Nat → Prop} {L : Ly} (hts : ∀ w ∈ lw_tbl, w.before #[Value.ref b] s = true) (hg : ∀ w ∈ flatC (Jvm.Cond.and given_1 narrow_1), w.before #[Value.ref b] s = true) (hA0 : ∀ a : Nat, a < s.heap.size → ¬ A a) (h1 : vk_S 4 lS bS (lK L) (lV L) A s s.heap) (h2 : ∀ i : Nat, i < 4 → (tmS i).eval #[Value.ref b] s none [] s = some (.ref (lK L i))) : mX L A s s.heap := by
  refine ⟨va_Nw.of rfl (hts _ (tb_of (n := 330) (by decide +kernel))), va_Nw.of rfl (hts _ (tb_of (n := 354) (by decide +kernel))), h1, ⟨vk_R.of (hts _ (tb_of (n := 473) (by decide +kernel))) (h2 0 (by omega)), vk_R.of (hts _ (tb_of (n := 526) (by decide +kernel))) (h2 1 (by omega)), vk_R.of (hts _ (tb_of (n := 527) (by decide +kernel))) (h2 2 (by omega)), vk_R.of (hts _ (tb_of (n := 528) (by decide +kernel))) (h2 3 (by omega))⟩, ?_, ?_⟩
  · exact va_Zof (hts _ (tb_of (n := 487) (by decide +kernel))) (hts _ (tb_of (n := 12) (by decide +kernel))) (va_eqi (hg _ (by decide +kernel))) hA0
  · exact va_Zqof (hts _ (tb_of (n := 503) (by decide +kernel))) (hts _ (tb_of (n := 14) (by decide +kernel))) (hg _ (by decide +kernel)) hA0
