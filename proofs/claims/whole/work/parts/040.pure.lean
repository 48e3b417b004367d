/-! ===== Int32 by its bits: bt x i ===== -/
def bt (x : Int32) (i : Nat) : Bool := x.toBitVec.getLsbD i
theorem b_ext {x y : Int32} (h : ∀ i, i < 32 → bt x i = bt y i) : x = y := Int32.toBitVec_inj.mp (BitVec.eq_of_getLsbD_eq (fun i hi => h i hi))
theorem b_or (x y : Int32) (i : Nat) : bt (x ||| y) i = (bt x i || bt y i) := by unfold bt; rw [Int32.toBitVec_or, BitVec.getLsbD_or]
theorem b_and (x y : Int32) (i : Nat) : bt (x &&& y) i = (bt x i && bt y i) := by unfold bt; rw [Int32.toBitVec_and, BitVec.getLsbD_and]
theorem b_xor (x y : Int32) (i : Nat) : bt (x ^^^ y) i = (bt x i ^^ bt y i) := by unfold bt; rw [Int32.toBitVec_xor, BitVec.getLsbD_xor]
theorem b_big {x : Int32} {i : Nat} (h : 32 ≤ i) : bt x i = false := BitVec.getLsbD_of_ge _ _ h
theorem b_m1 : ∀ i, i < 32 → bt (-1) i = true := by decide +kernel
theorem b_0 (i : Nat) : bt 0 i = false := BitVec.getLsbD_zero
theorem s_l : ∀ n, n < 32 → ((nI n &&& 31).toBitVec.smod 32).toNat = n := by decide +kernel
theorem s_u : ∀ n, n < 32 → (((nI n).toUInt32 &&& Int32.toUInt32 31).toBitVec % 32).toNat = n := by decide +kernel
theorem b_shl (n : Nat) (hn : n < 32) (x : Int32) {i : Nat} (hi : i < 32) : bt (x <<< (nI n &&& 31)) i = (decide (n ≤ i) && bt x (i - n)) := by
  unfold bt
  rw [Int32.toBitVec_shiftLeft]
  show (x.toBitVec <<< ((nI n &&& 31).toBitVec.smod 32).toNat).getLsbD i = _
  rw [s_l n hn, BitVec.getLsbD_shiftLeft]
  rcases Nat.lt_or_ge i n with h | h
  · simp [h, Nat.not_le.mpr h]
  · simp [hi, h, Nat.not_lt.mpr h]
theorem b_ushr (n : Nat) (hn : n < 32) (x : Int32) (i : Nat) : bt ((x.toUInt32 >>> ((nI n).toUInt32 &&& Int32.toUInt32 31)).toInt32) i = bt x (n + i) := by
  show (x.toUInt32 >>> ((nI n).toUInt32 &&& Int32.toUInt32 31)).toBitVec.getLsbD i = x.toUInt32.toBitVec.getLsbD (n + i)
  rw [UInt32.toBitVec_shiftRight]
  show (x.toUInt32.toBitVec >>> (((nI n).toUInt32 &&& Int32.toUInt32 31).toBitVec % 32).toNat).getLsbD i = _
  rw [s_u n hn, BitVec.getLsbD_ushiftRight]
theorem b_sshr (n : Nat) (hn : n < 32) (x : Int32) {i : Nat} (hi : i < 32) : bt (x >>> (nI n &&& 31)) i = if n + i < 32 then bt x (n + i) else bt x 31 := by
  unfold bt
  rw [Int32.toBitVec_shiftRight]
  show (x.toBitVec.sshiftRight ((nI n &&& 31).toBitVec.smod 32).toNat).getLsbD i = _
  rw [s_l n hn, BitVec.getLsbD_sshiftRight, BitVec.msb_eq_getLsbD_last]
  simp [hi]
/-! ===== how many places have a property ===== -/
def fb_ct (p : Nat → Bool) : Nat → Nat
  | 0 => 0
  | n + 1 => fb_ct p n + (if p n then 1 else 0)
theorem fb_ct_succ (p : Nat → Bool) (n : Nat) : fb_ct p (n + 1) = fb_ct p n + (if p n then 1 else 0) := rfl
theorem fb_ct_le (p : Nat → Bool) : ∀ n, fb_ct p n ≤ n
  | 0 => Nat.le_refl _
  | n + 1 => by
    have h := fb_ct_le p n
    rw [fb_ct_succ]
    split <;> omega
theorem fb_ct_step (p : Nat → Bool) (m : Nat) : ∀ n, fb_ct p m ≤ fb_ct p (m + n)
  | 0 => Nat.le_refl _
  | n + 1 => by
    have h := fb_ct_step p m n
    show fb_ct p m ≤ fb_ct p (m + n + 1)
    rw [fb_ct_succ]
    omega
theorem fb_ct_mono (p : Nat → Bool) {m n : Nat} (h : m ≤ n) : fb_ct p m ≤ fb_ct p n := by
  have := fb_ct_step p m (n - m)
  rwa [Nat.add_sub_cancel' h] at this
theorem fb_ct_cong {p q : Nat → Bool} : ∀ {n : Nat}, (∀ k, k < n → p k = q k) → fb_ct p n = fb_ct q n
  | 0, _ => rfl
  | n + 1, h => by
    rw [fb_ct_succ, fb_ct_succ, fb_ct_cong (fun k hk => h k (by omega)), h n (by omega)]
/-- one place changed -/
theorem fb_ct_out (p : Nat → Bool) (b : Bool) {i n : Nat} (h : n ≤ i) : fb_ct (fun k => if k = i then b else p k) n = fb_ct p n :=
  fb_ct_cong fun k hk => if_neg (by omega)
theorem fb_ct_upd (p : Nat → Bool) (b : Bool) {i : Nat} : ∀ {n : Nat}, i < n → fb_ct (fun k => if k = i then b else p k) n + (if p i then 1 else 0) = fb_ct p n + (if b then 1 else 0)
  | 0, h => absurd h (Nat.not_lt_zero i)
  | n + 1, h => by
    rw [fb_ct_succ, fb_ct_succ]
    rcases Nat.lt_or_ge i n with q | q
    · have := fb_ct_upd p b q
      have e : (if n = i then b else p n) = p n := if_neg (by omega)
      rw [e]
      omega
    · have e : i = n := by omega
      subst e
      rw [fb_ct_out p b (Nat.le_refl _)]
      simp only [if_true]
      omega
theorem fb_ct_sub {p q : Nat → Bool} : ∀ {n : Nat}, (∀ k, k < n → p k = true → q k = true) → fb_ct p n ≤ fb_ct q n
  | 0, _ => Nat.le_refl _
  | n + 1, h => by
    have h1 := fb_ct_sub (n := n) (p := p) (q := q) (fun k hk => h k (by omega))
    have h2 := h n (by omega)
    rw [fb_ct_succ, fb_ct_succ]
    cases hp : p n <;> cases hq : q n <;> simp_all <;> omega
theorem fb_ct_or {p q : Nat → Bool} : ∀ {n : Nat}, (∀ k, k < n → ¬ (p k = true ∧ q k = true)) → fb_ct (fun k => p k || q k) n = fb_ct p n + fb_ct q n
  | 0, _ => rfl
  | n + 1, h => by
    have h1 := fb_ct_or (n := n) (p := p) (q := q) (fun k hk => h k (by omega))
    have h2 := h n (by omega)
    rw [fb_ct_succ, fb_ct_succ, fb_ct_succ, h1]
    cases hp : p n <;> cases hq : q n <;> simp_all <;> omega
theorem fb_ct_not (p : Nat → Bool) : ∀ n, fb_ct p n + fb_ct (fun k => !p k) n = n
  | 0 => rfl
  | n + 1 => by
    have h := fb_ct_not p n
    rw [fb_ct_succ, fb_ct_succ]
    cases p n <;> simp <;> omega
theorem fb_ct_split (p : Nat → Bool) (m : Nat) : ∀ n, fb_ct p (m + n) = fb_ct p m + fb_ct (fun k => p (m + k)) n
  | 0 => rfl
  | n + 1 => by
    have h := fb_ct_split p m n
    show fb_ct p (m + n + 1) = _
    rw [fb_ct_succ, fb_ct_succ, h, Nat.add_assoc]
theorem fb_ct_zero {p : Nat → Bool} : ∀ {n : Nat}, fb_ct p n = 0 ↔ ∀ k, k < n → p k = false
  | 0 => ⟨fun _ k hk => absurd hk (Nat.not_lt_zero k), fun _ => rfl⟩
  | n + 1 => by
    have h := fb_ct_zero (p := p) (n := n)
    rw [fb_ct_succ]
    constructor
    · intro e k hk
      have e1 : fb_ct p n = 0 := by omega
      rcases Nat.lt_or_ge k n with q | q
      · exact h.mp e1 k q
      · have ek : k = n := by omega
        subst ek
        cases hp : p k
        · rfl
        · simp [hp] at e
    · intro a
      rw [h.mpr (fun k hk => a k (by omega)), a n (by omega)]
      rfl
theorem fb_ct_pos {p : Nat → Bool} {n : Nat} : 0 < fb_ct p n ↔ ∃ k, k < n ∧ p k = true := by
  constructor
  · intro h
    refine Classical.byContradiction fun hx => ?_
    have := fb_ct_zero.mpr (fun k hk => by
      cases hp : p k
      · rfl
      · exact absurd ⟨k, hk, hp⟩ hx : ∀ k, k < n → p k = false)
    omega
  · rintro ⟨k, hk, hp⟩
    rcases Nat.eq_zero_or_pos (fb_ct p n) with e | e
    · have := fb_ct_zero.mp e k hk
      rw [this] at hp
      cases hp
    · exact e
theorem fb_ct_all {p : Nat → Bool} {n : Nat} : fb_ct p n = n ↔ ∀ k, k < n → p k = true := by
  have h := fb_ct_not p n
  constructor
  · intro e k hk
    have z : fb_ct (fun k => !p k) n = 0 := by omega
    have := fb_ct_zero.mp z k hk
    cases hp : p k
    · simp [hp] at this
    · rfl
  · intro a
    have z : fb_ct (fun k => !p k) n = 0 := fb_ct_zero.mpr (fun k hk => by simp [a k hk])
    omega
theorem fa_lt (a b : Int32) : a < b ↔ a.toInt < b.toInt := Int32.lt_iff_toInt_lt
theorem fa_le (a b : Int32) : a ≤ b ↔ a.toInt ≤ b.toInt := Int32.le_iff_toInt_le
theorem fa_eq (a b : Int32) : a = b ↔ a.toInt = b.toInt := Int32.toInt_inj.symm
theorem fa_and (a b : Nat) : nI a &&& nI b = nI (a &&& b) := by
  apply Int32.toBitVec_inj.1
  show BitVec.ofNat 32 a &&& BitVec.ofNat 32 b = BitVec.ofNat 32 (a &&& b)
  apply BitVec.eq_of_getLsbD_eq
  intro i hi
  simp [hi]
theorem fa_or (a b : Nat) : nI a ||| nI b = nI (a ||| b) := by
  apply Int32.toBitVec_inj.1
  show BitVec.ofNat 32 a ||| BitVec.ofNat 32 b = BitVec.ofNat 32 (a ||| b)
  apply BitVec.eq_of_getLsbD_eq
  intro i hi
  simp [hi]
/-! The mathematical summary, and both views of it. -/
theorem bt_set {x : Int32} {i l : Nat} (hi : i < 32) (hl : l < 32) : bt (x ||| (1 <<< (nI i &&& 31))) l = (bt x l || decide (l = i)) := by
  rw [b_or, b_shl i hi 1 hl]
  congr 1
  by_cases h : l = i
  · subst h
    simp [show bt 1 0 = true from by decide +kernel]
  · by_cases h2 : i ≤ l
    · have : bt 1 (l - i) = false := (by decide +kernel : ∀ j, j < 32 → 0 < j → bt 1 j = false) (l - i) (by omega) (by omega)
      simp [this, h]
    · simp [h2, h]
theorem bt_clr {x : Int32} {i l : Nat} (hi : i < 32) (hl : l < 32) : bt (x &&& ((1 <<< (nI i &&& 31)) ^^^ (-1))) l = (bt x l && !decide (l = i)) := by
  rw [b_and, b_xor, b_shl i hi 1 hl, b_m1 l hl]
  congr 1
  by_cases h : l = i
  · subst h
    simp [show bt 1 0 = true from by decide +kernel]
  · by_cases h2 : i ≤ l
    · have : bt 1 (l - i) = false := (by decide +kernel : ∀ j, j < 32 → 0 < j → bt 1 j = false) (l - i) (by omega) (by omega)
      simp [this, h]
    · simp [h2, h]
theorem bt_one {x : Int32} {i : Nat} (hi : i < 32) : ((x >>> (nI i &&& 31)) &&& 1) = 0 ↔ bt x i = false := by
  have h0 : bt ((x >>> (nI i &&& 31)) &&& 1) 0 = bt x i := by
    rw [b_and, b_sshr i hi x (by omega), show bt 1 0 = true from by decide +kernel]
    simp [hi]
  constructor
  · intro h
    rw [h] at h0
    rw [← h0]
    exact b_0 0
  · intro h
    apply b_ext
    intro j hj
    by_cases hj0 : j = 0
    · subst hj0
      rw [h0, h, b_0]
    · rw [b_and, (by decide +kernel : ∀ j, j < 32 → 0 < j → bt 1 j = false) j hj (by omega), b_0]
      simp
theorem lit_ge {i N : Nat} (h : i < N) (hN : N < 2 ^ 31) : ¬ nI N ≤ nI i := nI_ge h hN
theorem vi {i N : Nat} (h : i < N) (hN : N < 2 ^ 31 := by decide) : vp_in (nI i) N := vp_in_nI h hN
theorem ixn {i : Nat} (h : i < 2 ^ 31) : ix (nI i) = i := nI_clamp h
def b2 (b : Bool) : Int32 := if b then 1 else 0
theorem b2_0 {b : Bool} : b2 b = 0 ↔ b = false := by cases b <;> decide
theorem br_b {b : Bool} {A B : Prop} (h1 : b = false → A) (h2 : b = true → B) : br (b2 b = 0) A B := ⟨fun h => h1 (b2_0.mp h), fun h => h2 (by cases hb : b with | true => rfl | false => exact absurd (b2_0.mpr hb) h)⟩
/-! mu, ms -/
theorem mu_k {σ : Mem} {k j : Nat} {v : Int32} : (mu σ k j v) k = upd (σ k) j v := by simp [mu, ms]
theorem mu_o {σ : Mem} {k j q : Nat} {v : Int32} (h : q ≠ k) : (mu σ k j v) q = σ q := by simp [mu, ms, h]
theorem ms_k {σ : Mem} {k : Nat} {f : Nat → Int32} : (ms σ k f) k = f := by simp [ms]
theorem ms_o {σ : Mem} {k q : Nat} {f : Nat → Int32} (h : q ≠ k) : (ms σ k f) q = σ q := by simp [ms, h]
/-! the summary: size, floor, sum, counters (count, slack, time), what came -/
abbrev Cn : Type := Int32 × Int32 × Int32
abbrev Sm : Type := Int32 × Int32 × Int32 × (Nat → Option Cn) × (Nat → Int32)
def sZ (s : Sm) : Int32 := s.1
def sF (s : Sm) : Int32 := s.2.1
def sS (s : Sm) : Int32 := s.2.2.1
def sC (s : Sm) : Nat → Option Cn := s.2.2.2.1
def sM (s : Sm) : Nat → Int32 := s.2.2.2.2
def isS (s : Sm) (l : Nat) : Bool := (sC s l).isSome
def uP (s : Sm) (l : Nat) : Int32 := match sC s l with | some q => q.1 | none => sF s
def lO (s : Sm) (l : Nat) : Int32 := match sC s l with | some q => q.1 - q.2.1 | none => 0
def sL (s : Sm) (l : Nat) : Int32 := match sC s l with | some q => q.2.1 | none => sF s
def nC (s : Sm) : Nat := fb_ct (isS s) 26
def bef (a b : Cn) : Bool := decide (a.1 < b.1) || (decide (a.1 = b.1) && decide (a.2.2 < b.2.2))
def lst (s : Sm) : Nat → Option (Nat × Cn)
  | 0 => none
  | n + 1 => match sC s n with
    | none => lst s n
    | some q => match lst s n with
      | none => some (n, q)
      | some r => if bef q r.2 then some (n, q) else some r
def wst (s : Sm) : Nat → Option (Nat × Cn)
  | 0 => none
  | n + 1 => match sC s n with
    | none => wst s n
    | some q => match wst s n with
      | none => some (n, q)
      | some r => if r.2.1 < q.1 then some r else some (n, q)
theorem lst_in {s : Sm} : ∀ {n : Nat} {r : Nat × Cn}, lst s n = some r → r.1 < n ∧ sC s r.1 = some r.2 := by
  intro n
  induction n with
  | zero => intro r h; cases h
  | succ n ih =>
    intro r h
    rw [lst] at h
    cases hq : sC s n with
    | none => rw [hq] at h; obtain ⟨a, b⟩ := ih h; exact ⟨by omega, b⟩
    | some q =>
      rw [hq] at h
      cases hl : lst s n with
      | none => rw [hl] at h; cases h; exact ⟨Nat.lt_succ_self n, hq⟩
      | some r2 =>
        rw [hl] at h
        dsimp only at h
        split at h
        · cases h; exact ⟨Nat.lt_succ_self n, hq⟩
        · cases h; obtain ⟨a, b⟩ := ih hl; exact ⟨by omega, b⟩
theorem wst_in {s : Sm} : ∀ {n : Nat} {r : Nat × Cn}, wst s n = some r → r.1 < n ∧ sC s r.1 = some r.2 := by
  intro n
  induction n with
  | zero => intro r h; cases h
  | succ n ih =>
    intro r h
    rw [wst] at h
    cases hq : sC s n with
    | none => rw [hq] at h; obtain ⟨a, b⟩ := ih h; exact ⟨by omega, b⟩
    | some q =>
      rw [hq] at h
      cases hl : wst s n with
      | none => rw [hl] at h; cases h; exact ⟨Nat.lt_succ_self n, hq⟩
      | some r2 =>
        rw [hl] at h
        dsimp only at h
        split at h
        · cases h; obtain ⟨a, b⟩ := ih hl; exact ⟨by omega, b⟩
        · cases h; exact ⟨Nat.lt_succ_self n, hq⟩
theorem lst_some {s : Sm} : ∀ {n : Nat}, lst s n = none ↔ ∀ l, l < n → sC s l = none := by
  intro n
  induction n with
  | zero => exact ⟨fun _ l h => absurd h (Nat.not_lt_zero l), fun _ => rfl⟩
  | succ n ih =>
    rw [lst]
    cases hq : sC s n with
    | none =>
      show lst s n = none ↔ _
      rw [ih]
      exact ⟨fun h l hl => by rcases Nat.lt_succ_iff_lt_or_eq.mp hl with a | a; exact h l a; rw [a]; exact hq, fun h l hl => h l (by omega)⟩
    | some q =>
      refine ⟨fun h => ?_, fun h => by rw [h n (Nat.lt_succ_self n)] at hq; cases hq⟩
      cases hl : lst s n with
      | none => rw [hl] at h; cases h
      | some r => rw [hl] at h; dsimp only at h; split at h <;> cases h
theorem wst_some {s : Sm} : ∀ {n : Nat}, wst s n = none ↔ ∀ l, l < n → sC s l = none := by
  intro n
  induction n with
  | zero => exact ⟨fun _ l h => absurd h (Nat.not_lt_zero l), fun _ => rfl⟩
  | succ n ih =>
    rw [wst]
    cases hq : sC s n with
    | none =>
      show wst s n = none ↔ _
      rw [ih]
      exact ⟨fun h l hl => by rcases Nat.lt_succ_iff_lt_or_eq.mp hl with a | a; exact h l a; rw [a]; exact hq, fun h l hl => h l (by omega)⟩
    | some q =>
      refine ⟨fun h => ?_, fun h => by rw [h n (Nat.lt_succ_self n)] at hq; cases hq⟩
      cases hl : wst s n with
      | none => rw [hl] at h; cases h
      | some r => rw [hl] at h; dsimp only at h; split at h <;> cases h
/-- a counter is evicted, or left out -/
def drp (s : Sm) (r : Nat × Cn) : Sm := (sZ s, (if sF s < r.2.1 then r.2.1 else sF s), sS s, (fun j => if j = r.1 then none else sC s j), sM s)
def emp (s : Sm) : Sm := (sZ s, 0, 0, fun _ => none, fun _ => 0)
def evc (s : Sm) : Sm := match lst s 26 with | some r => drp s r | none => s
def wev (s : Sm) : Sm := match wst s 26 with | some r => drp s r | none => s
def put (s : Sm) (l : Nat) (q : Cn) : Sm := (sZ s, sF s, sS s, (fun j => if j = l then some q else sC s j), sM s)
def inc (s : Sm) (l : Nat) (w : Int32) : Sm := (sZ s, sF s, sS s + w, sC s, fun j => if j = l then sM s j + w else sM s j)
def full (s : Sm) (l : Nat) : Bool := !(isS s l) && decide (sZ s ≤ nI (nC s))
def rcv (s : Sm) (l : Nat) (w t : Int32) : Sm := match sC s l with
  | some q => put (inc s l w) l (q.1 + w, q.2.1, t)
  | none => put (if full s l then evc (inc s l w) else inc s l w) l (sF (if full s l then evc (inc s l w) else inc s l w) + w, sF (if full s l then evc (inc s l w) else inc s l w), t)
def gone (s : Sm) (l : Nat) : Option Nat := if full s l then (lst s 26).map (·.1) else none
def mrg (s o : Sm) (t : Int32) : Sm := (sZ s, sF s + sF o, sS s + sS o, (fun l => if isS s l || isS o l then some (uP s l + uP o l, sL s l + sL o l, t) else none), fun l => sM s l + sM o l)
def lvN : Nat → Sm → Sm
  | 0, s => s
  | n + 1, s => lvN n (wev s)
def evN : Nat → Sm → Sm
  | 0, s => s
  | n + 1, s => evN n (evc s)
def lvs (s : Sm) : Sm := lvN (nC s - (sZ s).toInt.toNat) s
def enc (r : Option Nat) : Int32 := match r with | some l => nI l | none => -1
theorem enc_m1 {r : Option Nat} (h : ∀ l, r = some l → l < 2 ^ 31) : enc r = -1 ↔ r = none := by
  cases r with
  | none => exact ⟨fun _ => rfl, fun _ => rfl⟩
  | some l =>
    refine ⟨fun h2 => ?_, fun h2 => by cases h2⟩
    have h3 : (nI l).toInt = (-1 : Int32).toInt := by rw [show nI l = -1 from h2]
    rw [nI_toInt (h l rfl)] at h3
    have : (-1 : Int32).toInt = -1 := by decide
    omega
/-! the class's summary at the place k -/
def cC (σ : Mem) (k : Nat) : Nat → Option Cn := fun l => if l < 26 ∧ bt (σ k 3) l = true then some (σ (k + 1) l, σ (k + 2) l, σ (k + 3) l) else none
def vC (σ : Mem) (k : Nat) : Sm := (σ k 0, σ k 1, σ k 2, cC σ k, fun l => if l < 26 then σ (k + 4) l else 0)
def hbC (σ : Mem) (k : Nat) : Prop := ∀ j, 26 ≤ j → j < 32 → bt (σ k 3) j = false
def fr (k : Nat) (σ σ1 : Mem) : Prop := ∀ q, (q < k ∨ k + 4 < q) → σ1 q = σ q
theorem fr.rf {k : Nat} {σ : Mem} : fr k σ σ := fun _ _ => rfl
theorem fr.tr {k : Nat} {σ σ1 σ2 : Mem} (h : fr k σ σ1) (h2 : fr k σ1 σ2) : fr k σ σ2 := fun q hq => (h2 q hq).trans (h q hq)
theorem cC_isS {σ : Mem} {k l : Nat} (hl : l < 26) : isS (vC σ k) l = bt (σ k 3) l := by
  show (cC σ k l).isSome = _
  unfold cC
  cases h : bt (σ k 3) l <;> simp [hl]
theorem cC_out {σ : Mem} {k l : Nat} (hl : 26 ≤ l) : cC σ k l = none := by
  unfold cC
  rw [if_neg (by omega)]
theorem cC_some {σ : Mem} {k l : Nat} {q : Cn} (h : sC (vC σ k) l = some q) : l < 26 ∧ bt (σ k 3) l = true ∧ q = (σ (k + 1) l, σ (k + 2) l, σ (k + 3) l) := by
  replace h : cC σ k l = some q := h
  unfold cC at h
  by_cases h2 : l < 26 ∧ bt (σ k 3) l = true
  · rw [if_pos h2] at h; exact ⟨h2.1, h2.2, (Option.some.inj h).symm⟩
  · rw [if_neg h2] at h; cases h
theorem cC_none {σ : Mem} {k l : Nat} (hl : l < 26) : sC (vC σ k) l = none ↔ bt (σ k 3) l = false := by
  show cC σ k l = none ↔ _
  unfold cC
  cases h : bt (σ k 3) l <;> simp [hl]
theorem vC_ext {σ σ1 : Mem} {k k1 : Nat} (h0 : σ1 k1 0 = σ k 0) (h1 : σ1 k1 1 = σ k 1) (h2 : σ1 k1 2 = σ k 2) (h3 : σ1 k1 3 = σ k 3) (ha : ∀ l, l < 26 → σ1 (k1 + 1) l = σ (k + 1) l) (hb : ∀ l, l < 26 → σ1 (k1 + 2) l = σ (k + 2) l) (hc : ∀ l, l < 26 → σ1 (k1 + 3) l = σ (k + 3) l) (hd : ∀ l, l < 26 → σ1 (k1 + 4) l = σ (k + 4) l) : vC σ1 k1 = vC σ k := by
  unfold vC
  rw [h0, h1, h2]
  refine Prod.ext rfl (Prod.ext rfl (Prod.ext rfl (Prod.ext ?_ ?_)))
  · funext l
    show cC σ1 k1 l = cC σ k l
    unfold cC
    rw [h3]
    by_cases hl : l < 26
    · rw [ha l hl, hb l hl, hc l hl]
    · rw [if_neg (by omega), if_neg (by omega)]
  · funext l
    show (if l < 26 then _ else _) = (if l < 26 then _ else _)
    by_cases hl : l < 26
    · rw [if_pos hl, if_pos hl, hd l hl]
    · rw [if_neg hl, if_neg hl]
theorem vC_fr {σ σ1 : Mem} {k : Nat} (h : ∀ q, k ≤ q → q ≤ k + 4 → σ1 q = σ q) : vC σ1 k = vC σ k := by
  refine vC_ext ?_ ?_ ?_ ?_ ?_ ?_ ?_ ?_ <;> (intros; rw [h _ (by omega) (by omega)])
theorem hbC_fr {σ σ1 : Mem} {k : Nat} (h : σ1 k = σ k) (hb : hbC σ k) : hbC σ1 k := by
  intro j h1 h2; rw [h]; exact hb j h1 h2
