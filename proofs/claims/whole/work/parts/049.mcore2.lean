/-! the reference's log -/
def lgM (f : Nat → Int32) : Nat → Option Ev := fun j => if j < ix (f 1077) then some (f (1078 + 4 * (ix (f 1077) - 1 - j)), f (1078 + 4 * (ix (f 1077) - 1 - j) + 1), f (1078 + 4 * (ix (f 1077) - 1 - j) + 2), f (1078 + 4 * (ix (f 1077) - 1 - j) + 3)) else none
def plM (s : Int32) : Int32 := if 4 ≤ s then 4 else s
theorem vil {i N : Nat} (h : i < N) (hN : N < 2 ^ 31 := by decide) : vp_in (nI i) N := vp_in_nI h hN
def T1 (k p v : Int32) (σ σ1 : Mem) : Prop := (∀ q, q ≠ 307 → σ1 q = σ q) ∧ lgM (σ1 307) = psh (k, plM p, v, σ 307 1072) (lgM (σ 307)) ∧ (∃ kn : Nat, σ1 307 1077 = nI kn ∧ kn ≤ 8) ∧ (∀ x, (x < 1077 ∨ 1110 ≤ x) → σ1 307 x = σ 307 x)
theorem m_tells_65 {k p v : Int32} {kn : Nat} {σ : Mem} {K : Mem → Prop} (hk : σ 307 1077 = nI kn) (hk8 : kn < 8) (h : ∀ σ1, T1 k p v σ σ1 → K σ1) : w_X7_tells_65 k p v K σ := by
  refine ⟨vil (i := 1077) (by omega), ?_⟩
  rw [show ix (1077 : Int32) = 1077 from rfl, hk, show (4 : Int32) = nI 4 from rfl, pk_mul, show (1078 : Int32) = nI 1078 from rfl, nI_add]
  rintro v3 rfl
  refine ⟨vi (by omega), ?_⟩
  rw [ixn (show 1078 + 4 * kn < 2 ^ 31 by omega)]
  rintro σ5 e5
  have key : ∀ y : Int32, y = plM p → w_X7_tells_107 k p v K (nI (1078 + 4 * kn)) y (nI (1078 + 4 * kn) + 1) σ5 := by
    intro y hy
    unfold w_X7_tells_107
    rw [nI_1, show (2 : Int32) = nI 2 from rfl, show (3 : Int32) = nI 3 from rfl, nI_add, nI_add, show ix (1072 : Int32) = 1072 from rfl, show ix (1077 : Int32) = 1077 from rfl, ixn (show 1078 + 4 * kn + 1 < 2 ^ 31 by omega), ixn (show 1078 + 4 * kn + 2 < 2 ^ 31 by omega), ixn (show 1078 + 4 * kn + 3 < 2 ^ 31 by omega)]
    refine ⟨vi (by omega), ?_⟩
    rintro σ7 e7
    refine ⟨vi (by omega), ?_⟩
    rintro σ9 e9
    refine ⟨vil (i := 1072) (by omega), vi (by omega), ?_⟩
    rintro σ12 e12
    refine ⟨vil (i := 1077) (by omega), vil (i := 1077) (by omega), ?_⟩
    rintro σ15 e15
    have o7 : ∀ q, q ≠ 307 → σ15 q = σ q := fun q hq => by rw [e15, mu_o hq, e12, mu_o hq, e9, mu_o hq, e7, mu_o hq, e5, mu_o hq]
    have g5 : σ5 307 = upd (σ 307) (1078 + 4 * kn) k := by rw [e5, mu_k]
    have g9 : σ9 307 = upd (upd (upd (σ 307) (1078 + 4 * kn) k) (1078 + 4 * kn + 1) y) (1078 + 4 * kn + 2) v := by rw [e9, mu_k, e7, mu_k, g5]
    have t9 : σ9 307 1072 = σ 307 1072 := by rw [g9]; simp only [upd]; rw [if_neg (by omega), if_neg (by omega), if_neg (by omega)]
    have g12 : σ12 307 = upd (upd (upd (upd (σ 307) (1078 + 4 * kn) k) (1078 + 4 * kn + 1) y) (1078 + 4 * kn + 2) v) (1078 + 4 * kn + 3) (σ 307 1072) := by rw [e12, mu_k, t9, g9]
    have k12 : σ12 307 1077 = nI kn := by rw [g12]; simp only [upd]; rw [if_neg (by omega), if_neg (by omega), if_neg (by omega), if_neg (by omega)]; exact hk
    have g15 : σ15 307 = upd (upd (upd (upd (upd (σ 307) (1078 + 4 * kn) k) (1078 + 4 * kn + 1) y) (1078 + 4 * kn + 2) v) (1078 + 4 * kn + 3) (σ 307 1072)) 1077 (nI (kn + 1)) := by rw [e15, mu_k, k12, g12, nI_1]
    have k15 : σ15 307 1077 = nI (kn + 1) := by rw [g15]; simp [upd]
    have oth : ∀ x, x ≠ 1077 → (x < 1078 + 4 * kn ∨ 1078 + 4 * kn + 3 < x) → σ15 307 x = σ 307 x := fun x a b => by
      rw [g15]; simp only [upd]; rw [if_neg a, if_neg (by omega), if_neg (by omega), if_neg (by omega), if_neg (by omega)]
    refine h σ15 ⟨o7, ?_, ⟨kn + 1, k15, by omega⟩, fun x hx => oth x (by omega) (by omega)⟩
    funext j
    unfold lgM psh
    rw [k15, hk, ixn (show kn + 1 < 2 ^ 31 by omega), ixn (show kn < 2 ^ 31 by omega)]
    by_cases hj0 : j = 0
    · subst hj0
      rw [if_pos (by omega), if_pos rfl, show kn + 1 - 1 - 0 = kn by omega, g15]
      simp only [upd]
      rw [if_neg (by omega), if_neg (by omega), if_neg (by omega), if_neg (by omega), if_pos (by trivial), if_neg (by omega), if_neg (by omega), if_neg (by omega), if_pos (by trivial), if_neg (by omega), if_neg (by omega), if_pos (by trivial), if_neg (by omega), if_pos (by trivial), hy]
    · rw [if_neg hj0]
      by_cases hjk : j < kn + 1
      · rw [if_pos hjk, if_pos (by omega)]
        dsimp only
        rw [if_pos (by omega), show kn + 1 - 1 - j = kn - 1 - (j - 1) by omega]
        rw [oth _ (by omega) (by omega), oth _ (by omega) (by omega), oth _ (by omega) (by omega), oth _ (by omega) (by omega)]
      · rw [if_neg hjk]
        by_cases hj8 : j < 8
        · rw [if_pos hj8]
          dsimp only
          rw [if_neg (by omega)]
        · rw [if_neg hj8]
  refine ⟨fun hc => key 4 ?_, fun hc => key p ?_⟩
  · exact (if_pos (show (4 : Int32) ≤ p from hc)).symm
  · exact (if_neg (show ¬ (4 : Int32) ≤ p from hc)).symm
theorem m_tells_16 {k p v : Int32} {σ : Mem} {K : Mem → Prop} (hk : σ 307 1077 = nI 8) (h : ∀ σ1, T1 k p v σ σ1 → K σ1) : ∀ d i (σ1 : Mem), i + d = 28 → (∀ q, q ≠ 307 → σ1 q = σ q) → (∀ x, σ1 307 x = if 1078 ≤ x ∧ x < 1078 + i then σ 307 (x + 4) else σ 307 x) → w_X7_tells_16 k p v K (d + 1) (nI i) σ1 := by
  intro d
  induction d with
  | zero =>
    intro i σ1 hi h1 h2
    rw [w_X7_tells_16]
    obtain rfl : i = 28 := by omega
    refine ⟨fun _ => ⟨vil (i := 1077) (by omega), vil (i := 1077) (by omega), ?_⟩, fun hc => absurd (nI_le (a := 28) (Nat.le_refl _) (by omega)) hc⟩
    rw [show ix (1077 : Int32) = 1077 from rfl]
    rintro σ2 e2
    have k1 : σ1 307 1077 = nI 8 := by rw [h2, if_neg (by omega), hk]
    have k2 : σ2 307 1077 = nI 7 := by rw [e2, mu_k]; simp only [upd, if_true]; rw [k1]; rfl
    have g2 : ∀ x, x ≠ 1077 → σ2 307 x = σ1 307 x := fun x hx => by rw [e2, mu_k]; simp only [upd, if_neg hx]
    refine m_tells_65 k2 (by omega) (fun σ3 h3 => h σ3 ⟨fun q hq => ?_, ?_, h3.2.2.1, fun x hx => ?_⟩)
    · rw [h3.1 q hq, e2, mu_o hq, h1 q hq]
    · rw [h3.2.1, g2 1072 (by omega), h2 1072, if_neg (by omega)]
      funext j
      unfold psh
      by_cases hj0 : j = 0
      · rw [if_pos hj0, if_pos hj0]
      · rw [if_neg hj0, if_neg hj0]
        by_cases hj8 : j < 8
        · rw [if_pos hj8, if_pos hj8]
          unfold lgM
          rw [k2, hk, ixn (show 7 < 2 ^ 31 by omega), ixn (show 8 < 2 ^ 31 by omega), if_pos (by omega), if_pos (by omega)]
          have sh : ∀ x, 1078 ≤ x → x < 1106 → σ2 307 x = σ 307 (x + 4) := fun x a b => by rw [g2 x (by omega), h2, if_pos (by omega)]
          rw [sh _ (by omega) (by omega), sh _ (by omega) (by omega), sh _ (by omega) (by omega), sh _ (by omega) (by omega)]
          have e : 1078 + 4 * (7 - 1 - (j - 1)) + 4 = 1078 + 4 * (8 - 1 - (j - 1)) := by omega
          rw [e, show 1078 + 4 * (7 - 1 - (j - 1)) + 1 + 4 = 1078 + 4 * (8 - 1 - (j - 1)) + 1 by omega, show 1078 + 4 * (7 - 1 - (j - 1)) + 2 + 4 = 1078 + 4 * (8 - 1 - (j - 1)) + 2 by omega, show 1078 + 4 * (7 - 1 - (j - 1)) + 3 + 4 = 1078 + 4 * (8 - 1 - (j - 1)) + 3 by omega]
        · rw [if_neg hj8, if_neg hj8]
    · rw [h3.2.2.2 x hx, g2 x (by omega), h2, if_neg (by omega)]
  | succ d ih =>
    intro i σ1 hi h1 h2
    have hi2 : i < 28 := by omega
    rw [w_X7_tells_16]
    refine ⟨fun hc => absurd hc (nI_ge (b := 28) hi2 (by omega)), fun _ => ?_⟩
    rw [show (1078 : Int32) = nI 1078 from rfl, show (4 : Int32) = nI 4 from rfl, nI_add, nI_add, nI_1, ixn (show 1078 + i < 2 ^ 31 by omega), ixn (show 1078 + i + 4 < 2 ^ 31 by omega)]
    refine ⟨vi (by omega), vi (by omega), ?_⟩
    rintro σ2 e2
    refine ih (i + 1) σ2 (by omega) (fun q hq => by rw [e2, mu_o hq, h1 q hq]) (fun x => ?_)
    rw [e2, mu_k]
    simp only [upd]
    by_cases hx : x = 1078 + i
    · subst hx
      rw [if_pos (by trivial), if_pos (by omega), h2, if_neg (by omega)]
    · rw [if_neg hx, h2]
      by_cases hx2 : 1078 ≤ x ∧ x < 1078 + i
      · rw [if_pos hx2, if_pos (by omega)]
      · rw [if_neg hx2, if_neg (by omega)]
theorem m_tells {k p v : Int32} {kn : Nat} {σ : Mem} {K : Mem → Prop} (hk : σ 307 1077 = nI kn) (hk8 : kn ≤ 8) (h : ∀ σ1, T1 k p v σ σ1 → K σ1) : w_X7_tells k p v σ K := by
  refine ⟨vil (i := 1077) (by omega), ?_⟩
  rw [show ix (1077 : Int32) = 1077 from rfl]
  refine ⟨fun hc => ?_, fun hc => ?_⟩
  · exact ⟨29, m_tells_16 (σ := σ) hc h 28 0 σ rfl (fun _ _ => rfl) (fun x => by rw [if_neg (by omega)])⟩
  · refine m_tells_65 hk (Nat.lt_of_le_of_ne hk8 (fun e => hc ?_)) h
    rw [hk, e]; rfl
theorem ls5_some {s : Sm} {n : Nat} {r : Nat × Cn} (h : lst s n = some r) : ls5 s n = nI r.1 := by unfold ls5; rw [h]
def E1 (s : Nat) (v : Sm) (c : Nat) (σ σ1 : Mem) : Prop := (∀ q, q ≠ 307 → σ1 q = σ q) ∧ vM (σ1 307) (bs s) = v ∧ hbM (σ1 307) (bs s) ∧ σ1 307 (bs s + 3) = σ 307 (bs s + 3) ∧ σ1 307 1073 = σ 307 1073 + 1 ∧ lgM (σ1 307) = psh (0, plM (nI s), 97 + nI c, σ 307 1072) (lgM (σ 307)) ∧ (∃ kn : Nat, σ1 307 1077 = nI kn ∧ kn ≤ 8) ∧ (∀ x, (x < bs s ∨ bs s + 133 < x) → x ≠ 1073 → (x < 1077 ∨ 1110 ≤ x) → σ1 307 x = σ 307 x)
theorem lgM_fr {f g : Nat → Int32} (h : ∀ x, 1077 ≤ x → x < 1110 → g x = f x) (hk : ix (f 1077) ≤ 8) : lgM g = lgM f := by
  funext j
  unfold lgM
  rw [h 1077 (by omega) (by omega)]
  by_cases hj : j < ix (f 1077)
  · rw [if_pos hj, if_pos hj, h _ (by omega) (by omega), h _ (by omega) (by omega), h _ (by omega) (by omega), h _ (by omega) (by omega)]
  · rw [if_neg hj, if_neg hj]
theorem bs_7 {s : Nat} (hs : s < 8) : bs s + 133 < 1072 := by unfold bs; rw [if_pos hs]; omega
theorem m_evicts {s : Nat} {r : Nat × Cn} {kn : Nat} {σ : Mem} {K : Mem → Prop} (hs : s < 8) (hr : lst (vM (σ 307) (bs s)) 26 = some r) (hsm : smC (vM (σ 307) (bs s))) (hb : hbM (σ 307) (bs s)) (hk : σ 307 1077 = nI kn) (hk8 : kn ≤ 8) (h : ∀ σ1, E1 s (drp (vM (σ 307) (bs s)) r) r.1 σ σ1 → K σ1) : w_X7_evicts (nI s) σ K := by
  have hbs := bs_7 hs
  refine m_least (by omega) hsm ?_
  rw [ls5_some hr]
  obtain ⟨hr1, hr2⟩ := lst_in hr
  refine m_drops (by omega) hr2 hb (fun σ1 h1 => ?_)
  obtain ⟨a1, a2, a3, a4, a5⟩ := h1
  rw [show ix (1073 : Int32) = 1073 from rfl]
  refine ⟨vil (i := 1073) (by omega), vil (i := 1073) (by omega), ?_⟩
  rintro σ2 e2
  have g2 : ∀ x, x ≠ 1073 → σ2 307 x = σ1 307 x := fun x hx => by rw [e2, mu_k]; simp only [upd, if_neg hx]
  have k2 : σ2 307 1077 = nI kn := by rw [g2 _ (by omega), a4 _ (by omega), hk]
  refine m_tells k2 hk8 (fun σ3 h3 => ?_)
  obtain ⟨b1, b2, b3, b4⟩ := h3
  have f3 : ∀ x, x ≠ 1073 → (x < 1077 ∨ 1110 ≤ x) → σ3 307 x = σ1 307 x := fun x p q => by rw [b4 x q, g2 x p]
  have hv : vM (σ3 307) (bs s) = vM (σ1 307) (bs s) := vM_ext (fun x hx _ => f3 _ (by omega) (by omega))
  refine h σ3 ⟨fun q hq => by rw [b1 q hq, e2, mu_o hq, a1 q hq], hv.trans a2, hbM_ext (fun x hx _ => f3 _ (by omega) (by omega)) a3, by rw [f3 _ (by omega) (by omega), a5], ?_, ?_, b3, fun x p q r => by rw [f3 x q r, a4 x p]⟩
  · rw [b4 _ (by omega), e2, mu_k]; simp only [upd, if_true]; rw [a4 _ (by omega)]
  · rw [b2, g2 1072 (by omega), a4 1072 (by omega)]
    congr 1
    exact lgM_fr (fun x p q => by rw [g2 x (by omega), a4 x (by omega)]) (by rw [hk, ixn (by omega)]; exact hk8)
def C1 (s l : Nat) (w : Int32) (σ σ1 : Mem) : Prop := (∀ q, q ≠ 307 → σ1 q = σ q) ∧ vM (σ1 307) (bs s) = rcv (vM (σ 307) (bs s)) l w (σ 307 1072 + 1) ∧ hbM (σ1 307) (bs s) ∧ σ1 307 (bs s + 3) = σ 307 (bs s + 3) + 1 ∧ σ1 307 1072 = σ 307 1072 + 1 ∧ σ1 307 1073 = evn (σ 307 1073) (gone (vM (σ 307) (bs s)) l) ∧ lgM (σ1 307) = lgN (plM (nI s)) (σ 307 1072 + 1) (gone (vM (σ 307) (bs s)) l) (lgM (σ 307)) ∧ (∃ kn : Nat, σ1 307 1077 = nI kn ∧ kn ≤ 8) ∧ (∀ x, (x < bs s ∨ bs s + 133 < x) → x ≠ 1072 → x ≠ 1073 → (x < 1077 ∨ 1110 ≤ x) → σ1 307 x = σ 307 x)
theorem vM_put {f g : Nat → Int32} {b i : Nat} {c sl t : Int32} (hi : i < 26) (h0 : g b = f b) (h1 : g (b + 1) = f (b + 1)) (h2 : g (b + 2) = f (b + 2)) (hp : g (b + 4 + 5 * i) = 1 ∧ g (b + 4 + 5 * i + 1) = c ∧ g (b + 4 + 5 * i + 2) = sl ∧ g (b + 4 + 5 * i + 3) = t) (ho : ∀ l w, l < 26 → w < 5 → l ≠ i ∨ w = 4 → g (b + 4 + 5 * l + w) = f (b + 4 + 5 * l + w)) : vM g b = put (vM f b) i (c, sl, t) := by
  refine Prod.ext h0 (Prod.ext h1 (Prod.ext h2 (Prod.ext ?_ ?_)))
  · funext l
    show cM g b l = if l = i then some (c, sl, t) else cM f b l
    unfold cM
    by_cases hli : l = i
    · subst hli
      rw [if_pos rfl, hp.1, hp.2.1, hp.2.2.1, hp.2.2.2, if_pos ⟨hi, rfl⟩]
    · rw [if_neg hli]
      by_cases hl : l < 26
      · have e0 : g (b + 4 + 5 * l) = f (b + 4 + 5 * l) := ho l 0 hl (by omega) (Or.inl hli)
        rw [e0, ho l 1 hl (by omega) (Or.inl hli), ho l 2 hl (by omega) (Or.inl hli), ho l 3 hl (by omega) (Or.inl hli)]
      · rw [if_neg (fun q => hl q.1), if_neg (fun q => hl q.1)]
  · funext l
    show (if l < 26 then g (b + 4 + 5 * l + 4) else 0) = if l < 26 then f (b + 4 + 5 * l + 4) else 0
    by_cases hl : l < 26
    · rw [if_pos hl, if_pos hl, ho l 4 hl (by omega) (Or.inr rfl)]
    · rw [if_neg hl, if_neg hl]
theorem m_comes_103 {s l : Nat} {w : Int32} {σ : Mem} {K : Mem → Prop} (hs : s < 8) (hl : l < 26) (hb : hbM (σ 307) (bs s)) (h : ∀ σ1, (∀ q, q ≠ 307 → σ1 q = σ q) → vM (σ1 307) (bs s) = put (vM (σ 307) (bs s)) l (sF (vM (σ 307) (bs s)) + w, sF (vM (σ 307) (bs s)), σ 307 1072) → hbM (σ1 307) (bs s) → (∀ x, (x < bs s + 4 ∨ bs s + 133 < x) → σ1 307 x = σ 307 x) → K σ1) : w_X7_comes_103 (nI s) (nI l) w K σ := by
  have hbs := bs_7 hs
  unfold w_X7_comes_103
  refine m_gives 0 (by omega) hl (by omega) (fun σ1 e1 => m_of 1 (by omega) (by omega) (m_gives 1 (by omega) hl (by omega) (fun σ2 e2 => m_of 1 (by omega) (by omega) (m_gives 2 (by omega) hl (by omega) (fun σ3 e3 => ?_)))))
  rw [show ix (1072 : Int32) = 1072 from rfl]
  refine ⟨vil (i := 1072) (by omega), m_gives 3 (by omega) hl (by omega) (fun σ4 e4 => ?_)⟩
  have o1 : ∀ x, x ≠ bs s + 4 + 5 * l + 0 → σ1 307 x = σ 307 x := fun x hx => by rw [e1, mu_k]; simp only [upd, if_neg hx]
  have o2 : ∀ x, x ≠ bs s + 4 + 5 * l + 1 → σ2 307 x = σ1 307 x := fun x hx => by rw [e2, mu_k]; simp only [upd, if_neg hx]
  have o3 : ∀ x, x ≠ bs s + 4 + 5 * l + 2 → σ3 307 x = σ2 307 x := fun x hx => by rw [e3, mu_k]; simp only [upd, if_neg hx]
  have o4 : ∀ x, x ≠ bs s + 4 + 5 * l + 3 → σ4 307 x = σ3 307 x := fun x hx => by rw [e4, mu_k]; simp only [upd, if_neg hx]
  have oo : ∀ x, (x < bs s + 4 + 5 * l ∨ bs s + 4 + 5 * l + 3 < x) → σ4 307 x = σ 307 x := fun x hx => by rw [o4 x (by omega), o3 x (by omega), o2 x (by omega), o1 x (by omega)]
  have p0 : σ4 307 (bs s + 4 + 5 * l) = 1 := by rw [o4 _ (by omega), o3 _ (by omega), o2 _ (by omega), e1, mu_k]; simp [upd]
  have p1 : σ4 307 (bs s + 4 + 5 * l + 1) = σ 307 (bs s + 1) + w := by rw [o4 _ (by omega), o3 _ (by omega), e2, mu_k]; simp only [upd, if_true]; rw [o1 _ (by omega)]
  have p2 : σ4 307 (bs s + 4 + 5 * l + 2) = σ 307 (bs s + 1) := by rw [o4 _ (by omega), e3, mu_k]; simp only [upd, if_true]; rw [o2 _ (by omega), o1 _ (by omega)]
  have p3 : σ4 307 (bs s + 4 + 5 * l + 3) = σ 307 1072 := by rw [e4, mu_k]; simp only [upd, if_true]; rw [o3 _ (by omega), o2 _ (by omega), o1 _ (by omega)]
  refine h σ4 (fun q hq => by rw [e4, mu_o hq, e3, mu_o hq, e2, mu_o hq, e1, mu_o hq]) (vM_put hl (oo _ (by omega)) (oo _ (by omega)) (oo _ (by omega)) ⟨p0, p1, p2, p3⟩ (fun j v hj hv hne => oo _ (by omega))) (fun j hj => ?_) (fun x hx => oo x (by omega))
  by_cases hjl : j = l
  · subst hjl; exact Or.inr p0
  · rw [oo _ (by omega)]; exact hb j hj
theorem m_comes {s l z : Nat} {w : Int32} {kn : Nat} {σ : Mem} {K : Mem → Prop} (hs : s < 8) (hl : l < 26) (hz : z < 2 ^ 31) (hz1 : 1 ≤ z) (hsz : sZ (vM (σ 307) (bs s)) = nI z) (hn : nC (vM (σ 307) (bs s)) ≤ z) (hsm : smC (vM (σ 307) (bs s))) (hb : hbM (σ 307) (bs s)) (hk : σ 307 1077 = nI kn) (hk8 : kn ≤ 8) (h : ∀ σ1, C1 s l w σ σ1 → K σ1) : w_X7_comes (nI s) (nI l) w σ K := by
  have hbs := bs_7 hs
  unfold w_X7_comes
  rw [show ix (1072 : Int32) = 1072 from rfl]
  refine ⟨vil (i := 1072) (by omega), vil (i := 1072) (by omega), ?_⟩
  rintro σ1 e1
  refine m_of 2 (by omega) (by omega) (m_puts 2 (by omega) (by omega) (fun σ2 e2 => m_of 3 (by omega) (by omega) (m_puts 3 (by omega) (by omega) (fun σ3 e3 => m_its 4 (by omega) hl (by omega) (m_gives 4 (by omega) hl (by omega) (fun σ4 e4 => ?_))))))
  have o1 : ∀ x, x ≠ 1072 → σ1 307 x = σ 307 x := fun x hx => by rw [e1, mu_k]; simp only [upd, if_neg hx]
  have o2 : ∀ x, x ≠ bs s + 2 → σ2 307 x = σ1 307 x := fun x hx => by rw [e2, mu_k]; simp only [upd, if_neg hx]
  have o3 : ∀ x, x ≠ bs s + 3 → σ3 307 x = σ2 307 x := fun x hx => by rw [e3, mu_k]; simp only [upd, if_neg hx]
  have o4 : ∀ x, x ≠ bs s + 4 + 5 * l + 4 → σ4 307 x = σ3 307 x := fun x hx => by rw [e4, mu_k]; simp only [upd, if_neg hx]
  have oo : ∀ x, x ≠ 1072 → x ≠ bs s + 2 → x ≠ bs s + 3 → x ≠ bs s + 4 + 5 * l + 4 → σ4 307 x = σ 307 x := fun x a b c d => by rw [o4 x d, o3 x c, o2 x b, o1 x a]
  have q7 : ∀ q, q ≠ 307 → σ4 q = σ q := fun q hq => by rw [e4, mu_o hq, e3, mu_o hq, e2, mu_o hq, e1, mu_o hq]
  have p2 : σ4 307 (bs s + 2) = σ 307 (bs s + 2) + w := by rw [o4 _ (by omega), o3 _ (by omega), e2, mu_k]; simp only [upd, if_true]; rw [o1 _ (by omega)]
  have p3 : σ4 307 (bs s + 3) = σ 307 (bs s + 3) + 1 := by rw [o4 _ (by omega), e3, mu_k]; simp only [upd, if_true]; rw [o2 _ (by omega), o1 _ (by omega)]
  have p4 : σ4 307 (bs s + 4 + 5 * l + 4) = σ 307 (bs s + 4 + 5 * l + 4) + w := by rw [e4, mu_k]; simp only [upd, if_true]; rw [o3 _ (by omega), o2 _ (by omega), o1 _ (by omega)]
  have pt : σ4 307 1072 = σ 307 1072 + 1 := by rw [o4 _ (by omega), o3 _ (by omega), o2 _ (by omega), e1, mu_k]; simp [upd]
  have hv : vM (σ4 307) (bs s) = inc (vM (σ 307) (bs s)) l w := by
    refine Prod.ext (oo _ (by omega) (by omega) (by omega) (by omega)) (Prod.ext (oo _ (by omega) (by omega) (by omega) (by omega)) (Prod.ext p2 (Prod.ext ?_ ?_)))
    · funext j
      show cM (σ4 307) (bs s) j = cM (σ 307) (bs s) j
      unfold cM
      by_cases hj : j < 26
      · rw [oo _ (by omega) (by omega) (by omega) (by omega), oo _ (by omega) (by omega) (by omega) (by omega), oo _ (by omega) (by omega) (by omega) (by omega), oo _ (by omega) (by omega) (by omega) (by omega)]
      · rw [if_neg (fun q => hj q.1), if_neg (fun q => hj q.1)]
    · funext j
      show (if j < 26 then σ4 307 (bs s + 4 + 5 * j + 4) else 0) = if j = l then (if j < 26 then σ 307 (bs s + 4 + 5 * j + 4) else 0) + w else (if j < 26 then σ 307 (bs s + 4 + 5 * j + 4) else 0)
      by_cases hjl : j = l
      · subst hjl; rw [if_pos hl, if_pos rfl, if_pos hl, p4]
      · rw [if_neg hjl]
        by_cases hj : j < 26
        · rw [if_pos hj, if_pos hj, oo _ (by omega) (by omega) (by omega) (by omega)]
        · rw [if_neg hj, if_neg hj]
  have hb4 : hbM (σ4 307) (bs s) := fun j hj => by rw [oo _ (by omega) (by omega) (by omega) (by omega)]; exact hb j hj
  have hl4 : lgM (σ4 307) = lgM (σ 307) := lgM_fr (fun x a b => oo x (by omega) (by omega) (by omega) (by omega)) (by rw [hk, ixn (by omega)]; exact hk8)
  have k4 : σ4 307 1077 = nI kn := by rw [oo _ (by omega) (by omega) (by omega) (by omega), hk]
  have e73 : σ4 307 1073 = σ 307 1073 := oo _ (by omega) (by omega) (by omega) (by omega)
  have fz : full (vM (σ 307) (bs s)) l = (!(isS (vM (σ 307) (bs s)) l) && decide (z ≤ nC (vM (σ 307) (bs s)))) := by
    unfold full
    rw [hsz]
    congr 1
    have hle := nC_le (vM (σ 307) (bs s))
    by_cases hx : z ≤ nC (vM (σ 307) (bs s))
    · rw [decide_eq_true hx, decide_eq_true ((nI_le_iff (by omega) (by omega)).mpr hx)]
    · rw [decide_eq_false hx, decide_eq_false (fun q => hx ((nI_le_iff (by omega) (by omega)).mp q))]
  refine m_has (by omega) hl (br_b (fun hc => m_counters (by omega) hb4 (m_of 0 (by omega) (by omega) ?_)) (fun hc => ?_))
  · rw [hv] at hc
    have hnone : sC (vM (σ 307) (bs s)) l = none := isS_none (s := inc (vM (σ 307) (bs s)) l w) hc
    have hcf : isS (vM (σ 307) (bs s)) l = false := hc
    have ez : σ4 307 (bs s + 0) = nI z := by rw [Nat.add_zero, oo _ (by omega) (by omega) (by omega) (by omega)]; exact hsz
    have en : nC (vM (σ4 307) (bs s)) = nC (vM (σ 307) (bs s)) := by rw [hv]; rfl
    have hle := nC_le (vM (σ 307) (bs s))
    rw [ez, en]
    refine ⟨fun hq => ?_, fun hq => ?_⟩
    · have hzz : nC (vM (σ 307) (bs s)) = z := (nI_eq (by omega) (by omega)).mp hq
      have hfull : full (vM (σ 307) (bs s)) l = true := by rw [fz, hcf, decide_eq_true (by omega)]; rfl
      obtain ⟨r, hr⟩ := nC_pos (s := vM (σ4 307) (bs s)) (by omega)
      have hr0 : lst (vM (σ 307) (bs s)) 26 = some r := by rw [hv] at hr; rw [← hr]; exact lst_congr (fun _ _ => rfl)
      have hsm4 : smC (vM (σ4 307) (bs s)) := by rw [hv]; exact hsm
      refine m_evicts hs hr hsm4 hb4 k4 hk8 (fun σ5 h5 => ?_)
      obtain ⟨a1, a2, a3, a4, a5, a6, a7, a8⟩ := h5
      refine m_comes_103 hs hl a3 (fun σ6 c1 c2 c3 c4 => ?_)
      have t5 : σ5 307 1072 = σ 307 1072 + 1 := by rw [a8 _ (by omega) (by omega) (by omega), pt]
      have kk6 : ∃ kn : Nat, σ6 307 1077 = nI kn ∧ kn ≤ 8 := by rw [c4 _ (by omega)]; exact a7
      refine h σ6 ⟨fun q hq => by rw [c1 q hq, a1 q hq, q7 q hq], ?_, c3, ?_, ?_, ?_, ?_, kk6, fun x p1 p2 p3 p4 => ?_⟩
      · rw [c2, a2, hv, t5]
        unfold rcv
        rw [hnone, hfull]
        have : evc (inc (vM (σ 307) (bs s)) l w) = drp (inc (vM (σ 307) (bs s)) l w) r := evc_of (by rw [← hv]; exact hr)
        simp only [if_true]
        rw [this]
      · rw [c4 _ (by omega), a4, p3]
      · rw [c4 _ (by omega), t5]
      · rw [c4 _ (by omega), a5, e73]
        unfold gone
        rw [hfull, hr0]; rfl
      · have hl6 : lgM (σ6 307) = lgM (σ5 307) := lgM_fr (fun x p q => c4 x (by omega)) (by obtain ⟨k', e, e2⟩ := a7; rw [e, ixn (by omega)]; exact e2)
        rw [hl6, a6, hl4, pt]
        unfold gone
        rw [hfull, hr0]; rfl
      · rw [c4 x (by omega), a8 x p1 p3 p4, oo x p2 (by omega) (by omega) (by omega)]
    · have hzz : ¬ z ≤ nC (vM (σ 307) (bs s)) := fun q => hq (by rw [show nC (vM (σ 307) (bs s)) = z by omega])
      have hfull : full (vM (σ 307) (bs s)) l = false := by rw [fz, hcf, decide_eq_false hzz]; rfl
      refine m_comes_103 hs hl hb4 (fun σ6 c1 c2 c3 c4 => ?_)
      refine h σ6 ⟨fun q hq => by rw [c1 q hq, q7 q hq], ?_, c3, by rw [c4 _ (by omega), p3], by rw [c4 _ (by omega), pt], ?_, ?_, ⟨kn, by rw [c4 _ (by omega)]; exact k4, hk8⟩, fun x p1 p2 p3 p4 => ?_⟩
      · rw [c2, hv, pt]
        unfold rcv
        rw [hnone, hfull]; rfl
      · rw [c4 _ (by omega), e73]; unfold gone; rw [hfull]; rfl
      · have hl6 : lgM (σ6 307) = lgM (σ4 307) := lgM_fr (fun x p q => c4 x (by omega)) (by rw [k4, ixn (by omega)]; exact hk8)
        rw [hl6, hl4]; unfold gone; rw [hfull]; rfl
      · rw [c4 x (by omega), oo x p2 (by omega) (by omega) (by omega)]
  · obtain ⟨q, hq⟩ := isS_some hc
    obtain ⟨-, hone, hqe⟩ := cM_some hq
    have hq0 : sC (vM (σ 307) (bs s)) l = some q := by rw [hv] at hq; exact hq
    have hfull : full (vM (σ 307) (bs s)) l = false := by unfold full isS; rw [hq0]; rfl
    refine m_its 1 (by omega) hl (by omega) (m_gives 1 (by omega) hl (by omega) (fun σ5 e5 => ⟨vil (i := 1072) (by omega), m_gives 3 (by omega) hl (by omega) (fun σ6 e6 => ?_)⟩))
    have u5 : ∀ x, x ≠ bs s + 4 + 5 * l + 1 → σ5 307 x = σ4 307 x := fun x hx => by rw [e5, mu_k]; simp only [upd, if_neg hx]
    have u6 : ∀ x, x ≠ bs s + 4 + 5 * l + 3 → σ6 307 x = σ5 307 x := fun x hx => by rw [e6, mu_k]; simp only [upd, if_neg hx]
    have uu : ∀ x, x ≠ bs s + 4 + 5 * l + 1 → x ≠ bs s + 4 + 5 * l + 3 → σ6 307 x = σ4 307 x := fun x a b => by rw [u6 x b, u5 x a]
    have v1 : σ6 307 (bs s + 4 + 5 * l + 1) = q.1 + w := by rw [u6 _ (by omega), e5, mu_k]; simp only [upd, if_true]; rw [hqe]
    have v3 : σ6 307 (bs s + 4 + 5 * l + 3) = σ 307 1072 + 1 := by rw [e6, mu_k]; simp only [upd, if_true]; rw [u5 _ (by omega), pt]
    have v2 : σ6 307 (bs s + 4 + 5 * l + 2) = q.2.1 := by rw [uu _ (by omega) (by omega), hqe]
    refine h σ6 ⟨fun q hq => by rw [e6, mu_o hq, e5, mu_o hq, q7 q hq], ?_, fun j hj => ?_, by rw [uu _ (by omega) (by omega), p3], by rw [uu _ (by omega) (by omega), pt], ?_, ?_, ⟨kn, by rw [uu _ (by omega) (by omega)]; exact k4, hk8⟩, fun x p1 p2 p3 p4 => by rw [uu x (by omega) (by omega), oo x p2 (by omega) (by omega) (by omega)]⟩
    · unfold rcv
      rw [hq0, ← hv]
      exact vM_put hl (uu _ (by omega) (by omega)) (uu _ (by omega) (by omega)) (uu _ (by omega) (by omega)) ⟨by rw [uu _ (by omega) (by omega)]; exact hone, v1, v2, v3⟩ (fun j v hj hv2 hne => uu _ (by omega) (by omega))
    · rw [uu _ (by omega) (by omega)]; exact hb4 j hj
    · rw [uu _ (by omega) (by omega), e73]; unfold gone; rw [hfull]; rfl
    · have hl6 : lgM (σ6 307) = lgM (σ4 307) := lgM_fr (fun x p q => uu x (by omega) (by omega)) (by rw [k4, ixn (by omega)]; exact hk8)
      rw [hl6, hl4]; unfold gone; rw [hfull]; rfl
