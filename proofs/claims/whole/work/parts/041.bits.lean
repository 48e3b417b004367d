/-! Integer.bitCount counts the bits -/
theorem and2 {a m x y : Nat} (ha : a < 256) (hm : m < 256) : (2 ^ 8 * x + a) &&& (2 ^ 8 * y + m) = 2 ^ 8 * (x &&& y) + (a &&& m) := by
  have h3 : a &&& m < 2 ^ 8 := Nat.and_lt_two_pow a (by omega)
  apply Nat.eq_of_testBit_eq
  intro i
  rw [Nat.testBit_and, Nat.testBit_two_pow_mul_add _ (by omega), Nat.testBit_two_pow_mul_add _ (by omega), Nat.testBit_two_pow_mul_add _ h3]
  by_cases hi : i < 8
  · simp [hi]
  · simp [hi]
def l4 (a b c d : Nat) : Nat := 2 ^ 8 * (2 ^ 8 * (2 ^ 8 * d + c) + b) + a
theorem and4 {a b c d m : Nat} (ha : a < 256) (hb : b < 256) (hc : c < 256) (hm : m < 256) : l4 a b c d &&& l4 m m m m = l4 (a &&& m) (b &&& m) (c &&& m) (d &&& m) := by
  unfold l4
  rw [and2 ha hm, and2 hb hm, and2 hc hm]
def q1 (a : Nat) : Nat := a - (a / 2 &&& 85)
def q2 (a : Nat) : Nat := (a &&& 51) + (a / 4 &&& 51)
def pop8 (a : Nat) : Nat := fb_ct (fun i => a.testBit i) 8
theorem q_1 : ∀ a, a < 256 → (a / 2 &&& 85) ≤ a ∧ q1 a < 256 ∧ (a / 2 + 128 * 0) &&& 85 = (a / 2 &&& 85) ∧ (a / 2 + 128 * 1) &&& 85 = (a / 2 &&& 85) := by decide +kernel
theorem q_2 : ∀ a, a < 256 → q2 a < 256 ∧ (a / 4 + 64 * 0) &&& 51 = (a / 4 &&& 51) ∧ (a / 4 + 64 * 1) &&& 51 = (a / 4 &&& 51) ∧ (a / 4 + 64 * 2) &&& 51 = (a / 4 &&& 51) ∧ (a / 4 + 64 * 3) &&& 51 = (a / 4 &&& 51) := by decide +kernel
theorem q_3 : ∀ a, a < 256 → q2 (q1 a) ≤ 68 ∧ q2 (q1 a) % 16 ≤ 4 ∧ pop8 a ≤ 8 ∧ (∀ e, e < 5 → (q2 (q1 a) + q2 (q1 a) / 16 + 16 * e) &&& 15 = pop8 a) := by decide +kernel
theorem bt_nI {n i : Nat} (hi : i < 32) : bt (nI n) i = n.testBit i := by
  show (BitVec.ofNat 32 n).getLsbD i = _
  rw [BitVec.getLsbD_ofNat]
  simp [hi]
theorem tb8 {x a i : Nat} (ha : a < 256) : (2 ^ 8 * x + a).testBit i = if i < 8 then a.testBit i else x.testBit (i - 8) := Nat.testBit_two_pow_mul_add _ (by omega) i
theorem pop4 {a b c d : Nat} (ha : a < 256) (hb : b < 256) (hc : c < 256) : fb_ct (bt (nI (l4 a b c d))) 32 = pop8 a + (pop8 b + (pop8 c + pop8 d)) := by
  rw [fb_ct_cong (q := fun i => (l4 a b c d).testBit i) (fun k hk => bt_nI hk)]
  rw [show (32 : Nat) = 8 + (8 + (8 + 8)) from rfl, fb_ct_split, fb_ct_split, fb_ct_split]
  unfold l4
  congr 1
  · exact fb_ct_cong (fun k hk => by rw [tb8 ha, if_pos hk])
  · congr 1
    · exact fb_ct_cong (fun k hk => by rw [tb8 ha, if_neg (by omega), show 8 + k - 8 = k by omega, tb8 hb, if_pos hk])
    · congr 1
      · exact fb_ct_cong (fun k hk => by rw [tb8 ha, if_neg (by omega), show 8 + (8 + k) - 8 = 8 + k by omega, tb8 hb, if_neg (by omega), show 8 + k - 8 = k by omega, tb8 hc, if_pos hk])
      · exact fb_ct_cong (fun k hk => by rw [tb8 ha, if_neg (by omega), show 8 + (8 + (8 + k)) - 8 = 8 + (8 + k) by omega, tb8 hb, if_neg (by omega), show 8 + (8 + k) - 8 = 8 + k by omega, tb8 hc, if_neg (by omega), show 8 + k - 8 = k by omega])
theorem s_bitCount {x : Int32} {σ : Mem} {K : Int32 → Mem → Prop} (h : K (nI (fb_ct (bt x) 32)) σ) : w_J6_bitCount_0f7a4 x σ K := by
  obtain ⟨n, hn, hx⟩ : ∃ n, n < 2 ^ 32 ∧ x = nI n := ⟨x.toBitVec.toNat, x.toBitVec.isLt, by
    apply Int32.toBitVec_inj.mp
    show x.toBitVec = BitVec.ofNat 32 x.toBitVec.toNat
    simp⟩
  obtain ⟨a, b, c, d, ha, hb, hc, hd, e⟩ : ∃ a b c d, a < 256 ∧ b < 256 ∧ c < 256 ∧ d < 256 ∧ n = l4 a b c d := ⟨n % 256, n / 256 % 256, n / 65536 % 256, n / 16777216, by omega, by omega, by omega, by omega, by unfold l4; omega⟩
  have hp := pop4 (d := d) ha hb hc
  rw [← e, ← hx] at hp
  rw [hp] at h
  have sp : ∀ z, z < 2 → z = 0 ∨ z = 1 := fun z hz => by omega
  have sp4 : ∀ z, z < 4 → z = 0 ∨ z = 1 ∨ z = 2 ∨ z = 3 := fun z hz => by omega
  have f1 : ∀ a, a < 256 → ∀ z, z < 2 → (a / 2 + 128 * z) &&& 85 = (a / 2 &&& 85) := fun a ha z hz => by
    obtain ⟨-, -, h0, h1⟩ := q_1 a ha
    rcases sp z hz with rfl | rfl
    · exact h0
    · exact h1
  have f2 : ∀ a, a < 256 → ∀ z, z < 4 → (a / 4 + 64 * z) &&& 51 = (a / 4 &&& 51) := fun a ha z hz => by
    obtain ⟨-, h0, h1, h2, h3⟩ := q_2 a ha
    rcases sp4 z hz with rfl | rfl | rfl | rfl <;> assumption
  unfold w_J6_bitCount_0f7a4
  intro v1 h1
  have e1 : v1 = nI (l4 (q1 a) (q1 b) (q1 c) (q1 d)) := by
    rw [h1, hx, pk_ushrN hn 1 1 (by decide), show (1431655765 : Int32) = nI (l4 85 85 85 85) from rfl, fa_and]
    have e2 : n / 2 ^ 1 = l4 (a / 2 + 128 * (b % 2)) (b / 2 + 128 * (c % 2)) (c / 2 + 128 * (d % 2)) (d / 2) := by rw [e]; unfold l4; omega
    have f0 : (d / 2 &&& 85) = (d / 2 + 128 * 0 &&& 85) := by rw [f1 d hd 0 (by omega)]
    rw [e2, and4 (by omega) (by omega) (by omega) (by omega), f1 a ha _ (by omega), f1 b hb _ (by omega), f1 c hc _ (by omega)]
    have g1 := (q_1 a ha).1
    have g2 := (q_1 b hb).1
    have g3 := (q_1 c hc).1
    have g4 := (q_1 d hd).1
    rw [pk_sub (by rw [e]; unfold l4; omega)]
    congr 1
    rw [e]
    unfold l4 q1
    omega
  have k1 := (q_1 a ha).2.1
  have k2 := (q_1 b hb).2.1
  have k3 := (q_1 c hc).2.1
  have k4 := (q_1 d hd).2.1
  intro v2 h2
  have e2 : v2 = nI (l4 (q2 (q1 a)) (q2 (q1 b)) (q2 (q1 c)) (q2 (q1 d))) := by
    rw [h2, e1, pk_ushrN (by unfold l4; omega) 2 2 (by decide), show (858993459 : Int32) = nI (l4 51 51 51 51) from rfl, fa_and, fa_and]
    have e2 : l4 (q1 a) (q1 b) (q1 c) (q1 d) / 2 ^ 2 = l4 (q1 a / 4 + 64 * (q1 b % 4)) (q1 b / 4 + 64 * (q1 c % 4)) (q1 c / 4 + 64 * (q1 d % 4)) (q1 d / 4) := by unfold l4; omega
    rw [e2, and4 k1 k2 k3 (by omega), and4 (by omega) (by omega) (by omega) (by omega), f2 _ k1 _ (by omega), f2 _ k2 _ (by omega), f2 _ k3 _ (by omega), nI_add]
    congr 1
    unfold l4 q2
    omega
  obtain ⟨m1, n1, o1, p1⟩ := q_3 a ha
  obtain ⟨m2, n2, o2, p2⟩ := q_3 b hb
  obtain ⟨m3, n3, o3, p3⟩ := q_3 c hc
  obtain ⟨m4, n4, o4, p4⟩ := q_3 d hd
  generalize q2 (q1 a) = A at *
  generalize q2 (q1 b) = B at *
  generalize q2 (q1 c) = Cc at *
  generalize q2 (q1 d) = D at *
  intro v3 h3
  have e3 : v3 = nI (l4 (pop8 a) (pop8 b) (pop8 c) (pop8 d)) := by
    rw [h3, e2, pk_ushrN (by unfold l4; omega) 4 4 (by decide), nI_add, show (252645135 : Int32) = nI (l4 15 15 15 15) from rfl, fa_and]
    have e2 : l4 A B Cc D + l4 A B Cc D / 2 ^ 4 = l4 (A + A / 16 + 16 * (B % 16)) (B + B / 16 + 16 * (Cc % 16)) (Cc + Cc / 16 + 16 * (D % 16)) (D + D / 16 + 16 * 0) := by unfold l4; omega
    rw [e2, and4 (by omega) (by omega) (by omega) (by omega), p1 _ (by omega), p2 _ (by omega), p3 _ (by omega), p4 _ (by omega)]
  intro v4 h4
  have e4 : v4 = nI (l4 (pop8 a) (pop8 b) (pop8 c) (pop8 d) + l4 (pop8 a) (pop8 b) (pop8 c) (pop8 d) / 256) := by
    rw [h4, e3, pk_ushrN (by unfold l4; omega) 8 8 (by decide), nI_add]
  intro v5 h5
  have e5 : v5 &&& 63 = nI (pop8 a + (pop8 b + (pop8 c + pop8 d))) := by
    rw [h5, e4, pk_ushrN (by unfold l4; omega) 16 16 (by decide), nI_add, pk_andN (by unfold l4; omega) 6 (by decide)]
    congr 1
    generalize pop8 a = P1 at *
    generalize pop8 b = P2 at *
    generalize pop8 c = P3 at *
    generalize pop8 d = P4 at *
    have z1 : l4 P1 P2 P3 P4 = P1 + 256 * P2 + 65536 * P3 + 16777216 * P4 := by unfold l4; omega
    have z2 : l4 P1 P2 P3 P4 / 256 = P2 + 256 * P3 + 65536 * P4 := by rw [z1]; omega
    rw [z2, z1]
    have z3 : (P1 + 256 * P2 + 65536 * P3 + 16777216 * P4 + (P2 + 256 * P3 + 65536 * P4)) / 2 ^ 16 = P3 + P4 + 256 * P4 := by omega
    rw [z3]
    omega
  rw [e5]
  exact h
