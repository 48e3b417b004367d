def setS (A : AS) (f : Nat → Sm) : AS := (f, A.2)
def zN (s : Sm) : Nat := ix (sZ s)
def lft (s o : Sm) (t : Int32) : Nat := nC (mrg s o t) - zN s
def joinA (A : AS) (i j : Nat) : AS := ((fun q => if q = j then emp (aSm A j) else if q = i then lvN (lft (aSm A i) (aSm A j) (aTm A)) (mrg (aSm A i) (aSm A j) (aTm A)) else aSm A q), aBl A, aKp A, aBg A, aAr A, psh (1, nI i, nI (lft (aSm A i) (aSm A j) (aTm A)), aTm A) (aLg A), aTm A, aEv A, aMg A + 1)
theorem s_join {b i j z : Nat} {σ : Mem} {K : Int32 → Mem → Prop} (hi : i < 4) (hj : j < 4) (hij : i ≠ j) (hw : WS σ b) (hz : z < 2 ^ 31) (hsz : sZ (aSm (aC σ b) i) = nI z) (h : ∀ σ1, S1 b (joinA (aC σ b) i j) σ σ1 → K (nI (lft (aSm (aC σ b) i) (aSm (aC σ b) j) (σ b 3))) σ1) : w_X2_join b (nI i) (nI j) σ K := by
  obtain ⟨w1, w2, w3⟩ := hw
  rw [aSm_at hi] at hsz
  have ez : zN (vC σ (b + 2 + 5 * i)) = z := by unfold zN; rw [hsz, ixn hz]
  unfold w_X2_join
  refine ⟨vi hi, vi hj, ?_⟩
  rw [ixn (show i < 2 ^ 31 by omega), ixn (show j < 2 ^ 31 by omega)]
  refine s_absorb (z := z) hz hsz (by omega) (w1 i hi) (w1 j hj) (fun σ1 h1 => ⟨vi hj, s_wipe (fun σ2 h2 => ?_)⟩)
  rintro σ3 e3
  have f3 : ∀ q, q ≠ b → σ3 q = σ2 q := fun q hq => by rw [e3, mu_o hq]
  have f2 : ∀ q, (q < b + 2 + 5 * i ∨ b + 2 + 5 * i + 4 < q) → (q < b + 2 + 5 * j ∨ b + 2 + 5 * j + 4 < q) → σ2 q = σ q := fun q x y => by rw [h2.2.1 q (by omega), h1.2.1 q (by omega)]
  have bb : σ2 b = σ b := f2 b (by omega) (by omega)
  have t3 : σ3 b 3 = σ b 3 := by rw [← bb]; simp [e3, mu, ms, upd]
  have t4 : σ3 b 4 = σ b 4 := by rw [← bb]; simp [e3, mu, ms, upd]
  have t5 : σ3 b 5 = σ b 5 + 1 := by rw [← bb]; simp [e3, mu, ms, upd]
  have vj : vC σ1 (b + 2 + 5 * j) = vC σ (b + 2 + 5 * j) := vC_fr (fun q x y => h1.2.1 q (by omega))
  refine s_note (wL_fr (fun q x y => by rw [f3 q (by omega), f2 q (by omega) (by omega)]) w3) (fun σ4 h4 e4 => ?_)
  have f4 : ∀ q, q ≠ b → (q < b + 2 + 5 * i ∨ b + 2 + 5 * i + 4 < q) → (q < b + 2 + 5 * j ∨ b + 2 + 5 * j + 4 < q) → (q < b + 44 ∨ b + 48 < q) → σ4 q = σ q := fun q a x y z => by rw [h4.1 q (by omega), f3 q a, f2 q x y]
  have b4 : σ4 b = σ3 b := h4.1 b (by omega)
  have lf : lft (aSm (aC σ b) i) (aSm (aC σ b) j) (σ b 3) = nC (mrg (vC σ (b + 2 + 5 * i)) (vC σ (b + 2 + 5 * j)) (σ b 3)) - z := by
    unfold lft; rw [aSm_at hi, aSm_at hj, ez]
  rw [lf] at h
  refine h σ4 ⟨as_ext ?_ ?_ ?_ ?_ ?_ ?_ ?_ ?_ ?_, ⟨fun q hq => ?_, ?_, h4.2⟩, fun q hq => ?_⟩
  · funext q
    show (if q < 4 then vC σ4 (b + 2 + 5 * q) else z0) = if q = j then emp (aSm (aC σ b) j) else if q = i then lvN (lft (aSm (aC σ b) i) (aSm (aC σ b) j) (σ b 3)) (mrg (aSm (aC σ b) i) (aSm (aC σ b) j) (σ b 3)) else aSm (aC σ b) q
    rw [lf, aSm_at hi, aSm_at hj]
    by_cases hqj : q = j
    · subst hqj
      rw [if_pos hj, if_pos rfl, ← vj, ← h2.1]
      exact vC_fr (fun q x y => by rw [h4.1 q (by omega), f3 q (by omega)])
    · rw [if_neg hqj]
      by_cases hqi : q = i
      · subst hqi
        rw [if_pos hi, if_pos rfl, ← h1.1]
        exact vC_fr (fun q x y => by rw [h4.1 q (by omega), f3 q (by omega), h2.2.1 q (by omega)])
      · rw [if_neg hqi]
        show _ = if q < 4 then vC σ (b + 2 + 5 * q) else z0
        by_cases hq4 : q < 4
        · rw [if_pos hq4, if_pos hq4]
          exact vC_fr (fun p x y => f4 p (by omega) (by omega) (by omega) (by omega))
        · rw [if_neg hq4, if_neg hq4]
  · exact bl_fr (f4 _ (by omega) (by omega) (by omega) (by omega)) (fun q x y => f4 q (by omega) (by omega) (by omega) (by omega))
  · show σ4 (b + 22) 2 = σ (b + 22) 2; rw [f4 _ (by omega) (by omega) (by omega) (by omega)]
  · show σ4 (b + 22) 3 = σ (b + 22) 3; rw [f4 _ (by omega) (by omega) (by omega) (by omega)]
  · show σ4 (b + 22) 4 = σ (b + 22) 4; rw [f4 _ (by omega) (by omega) (by omega) (by omega)]
  · show lgC σ4 (b + 44) = psh (1, nI i, nI (lft (aSm (aC σ b) i) (aSm (aC σ b) j) (σ b 3)), σ b 3) (lgC σ (b + 44))
    rw [e4, lf, t3, lgC_fr (σ := σ) (fun q x y => by rw [f3 q (by omega), f2 q (by omega) (by omega)])]
  · show σ4 b 3 = σ b 3; rw [b4, t3]
  · show σ4 b 4 = σ b 4; rw [b4, t4]
  · show σ4 b 5 = σ b 5 + 1; rw [b4, t5]
  · by_cases hqj : q = j
    · subst hqj; exact hbC_fr (by rw [h4.1 _ (by omega), f3 _ (by omega)]) h2.2.2
    · by_cases hqi : q = i
      · subst hqi; exact hbC_fr (by rw [h4.1 _ (by omega), f3 _ (by omega), h2.2.1 _ (by omega)]) h1.2.2
      · exact hbC_fr (f4 _ (by omega) (by omega) (by omega) (by omega)) (w1 q hq)
  · exact wW_fr (f4 _ (by omega) (by omega) (by omega) (by omega)) (fun q x y => f4 q (by omega) (by omega) (by omega) (by omega)) w2
  · exact f4 q (by omega) (by omega) (by omega) (by omega)
/-! a smaller size -/
def ev1 (A : AS) (i : Nat) : AS := ((fun q => if q = i then evc (aSm A i) else aSm A q), aBl A, aKp A, aBg A, aAr A, lgN (nI i) (aTm A) ((lst (aSm A i) 26).map (·.1)) (aLg A), aTm A, evn (aEv A) ((lst (aSm A i) 26).map (·.1)), aMg A)
def rsN : Nat → AS → Nat → AS
  | 0, A, _ => A
  | m + 1, A, i => rsN m (ev1 A i) i
def zet (A : AS) (i : Nat) (z : Int32) : AS := ((fun q => if q = i then (z, (aSm A i).2) else aSm A q), A.2)
theorem s_ev1 {b i : Nat} {σ : Mem} {K : Mem → Prop} (hi : i < 4) (hw : WS σ b) (h : ∀ σ1, S1 b (ev1 (aC σ b) i) σ σ1 → K σ1) : w_X3_evictNext (b + 2 + 5 * i) σ (fun r σ1 => w_X2_noteEviction b (nI i) r σ1 K) := by
  obtain ⟨w1, w2, w3⟩ := hw
  refine s_evict (w1 i hi) (fun σ1 h1 => ?_)
  have f1 : ∀ q, (q < b + 2 + 5 * i ∨ b + 2 + 5 * i + 4 < q) → σ1 q = σ q := fun q hq => h1.2.1 q hq
  unfold lsN
  refine s_noteE (g := (lst (vC σ (b + 2 + 5 * i)) 26).map (·.1)) (fun m hm => ?_) (wL_fr (fun q x y => f1 q (by omega)) w3) (fun σ2 c1 c2 c3 c4 c5 c6 => ?_)
  · cases hl : lst (vC σ (b + 2 + 5 * i)) 26 with
    | none => rw [hl] at hm; cases hm
    | some r => rw [hl] at hm; cases hm; exact (lst_in hl).1
  · rw [f1 b (by omega)] at c1 c3 c4 c5
    rw [lgC_fr (σ := σ) (fun q x y => f1 q (by omega))] at c1
    have f2 : ∀ q, q ≠ b → (q < b + 2 + 5 * i ∨ b + 2 + 5 * i + 4 < q) → (q < b + 44 ∨ b + 48 < q) → σ2 q = σ q := fun q x y z => by rw [c6 q x z, f1 q y]
    refine h σ2 ⟨as_ext ?_ ?_ ?_ ?_ ?_ ?_ ?_ ?_ ?_, ⟨fun q hq => ?_, ?_, c2⟩, fun q hq => f2 q (by omega) (by omega) (by omega)⟩
    · funext q
      show (if q < 4 then vC σ2 (b + 2 + 5 * q) else z0) = if q = i then evc (aSm (aC σ b) i) else aSm (aC σ b) q
      by_cases hqi : q = i
      · subst hqi
        rw [if_pos hi, if_pos rfl, aSm_at hi, ← h1.1]
        exact vC_fr (fun p x y => c6 p (by omega) (by omega))
      · rw [if_neg hqi]
        show _ = if q < 4 then vC σ (b + 2 + 5 * q) else z0
        by_cases hq4 : q < 4
        · rw [if_pos hq4, if_pos hq4]
          exact vC_fr (fun p x y => f2 p (by omega) (by omega) (by omega))
        · rw [if_neg hq4, if_neg hq4]
    · exact bl_fr (f2 _ (by omega) (by omega) (by omega)) (fun q x y => f2 q (by omega) (by omega) (by omega))
    · show σ2 (b + 22) 2 = σ (b + 22) 2; rw [f2 _ (by omega) (by omega) (by omega)]
    · show σ2 (b + 22) 3 = σ (b + 22) 3; rw [f2 _ (by omega) (by omega) (by omega)]
    · show σ2 (b + 22) 4 = σ (b + 22) 4; rw [f2 _ (by omega) (by omega) (by omega)]
    · show lgC σ2 (b + 44) = lgN (nI i) (σ b 3) ((lst (aSm (aC σ b) i) 26).map (·.1)) (lgC σ (b + 44)); rw [c1, aSm_at hi]
    · exact c3
    · show σ2 b 4 = evn (σ b 4) ((lst (aSm (aC σ b) i) 26).map (·.1)); rw [c4, aSm_at hi]
    · exact c5
    · by_cases hqi : q = i
      · subst hqi; exact hbC_fr (c6 _ (by omega) (by omega)) h1.2.2
      · exact hbC_fr (f2 _ (by omega) (by omega) (by omega)) (w1 q hq)
    · exact wW_fr (f2 _ (by omega) (by omega) (by omega)) (fun q x y => f2 q (by omega) (by omega) (by omega)) w2
theorem sZ_evc {s : Sm} : sZ (evc s) = sZ s := by unfold evc; split <;> rfl
theorem nC_evc {s : Sm} (h : 0 < nC s) : nC (evc s) + 1 = nC s := by
  obtain ⟨r, hr⟩ := nC_pos h
  rw [evc_of hr]
  exact nC_drp (lst_in hr).2 (lst_in hr).1
theorem s_resize_loop {b i z : Nat} {K : Int32 → Mem → Prop} (hi : i < 4) (hz : z < 2 ^ 31) : ∀ d c m x (σ : Mem), c + d = 26 → WS σ b → nC (aSm (aC σ b) i) - z = m → m ≤ d → (∀ σ1, S1 b (rsN m (aC σ b) i) σ σ1 → K (nI (x + m)) σ1) → w_X2_resize_18 b (nI i) (nI z) K (d + 1) (b + 2 + 5 * i) (nI x) (nI c) σ := by
  intro d
  induction d with
  | zero =>
    intro c m x σ hc hw hm hmd h
    rw [w_X2_resize_18]
    obtain rfl : c = 26 := by omega
    obtain rfl : m = 0 := by omega
    exact ⟨fun _ => h σ ⟨rfl, hw, fun _ _ => rfl⟩, fun hc => absurd (nI_le (a := 26) (Nat.le_refl _) (by omega)) hc⟩
  | succ d ih =>
    intro c m x σ hc hw hm hmd h
    have hc2 : c < 26 := by omega
    have hn := nC_le (aSm (aC σ b) i)
    rw [w_X2_resize_18]
    refine ⟨fun hc => absurd hc (ge26 hc2), fun _ => s_counters (hw.1 i hi) ?_⟩
    rw [← aSm_at hi]
    refine ⟨fun hz2 => ?_, fun hz2 => s_ev1 hi hw (fun σ1 h1 => ?_)⟩
    · have := (nI_le_iff (by omega) hz).mp hz2
      obtain rfl : m = 0 := by omega
      exact h σ ⟨rfl, hw, fun _ _ => rfl⟩
    · have hlt : z < nC (aSm (aC σ b) i) := Nat.not_le.mp (fun q => hz2 ((nI_le_iff (by omega) hz).mpr q))
      obtain ⟨m', rfl⟩ : ∃ m', m = m' + 1 := ⟨m - 1, by omega⟩
      have e1 : aSm (aC σ1 b) i = evc (aSm (aC σ b) i) := by rw [h1.1]; exact if_pos rfl
      have hd := nC_evc (s := aSm (aC σ b) i) (by omega)
      rw [nI_1, nI_1]
      refine ih (c + 1) m' (x + 1) σ1 (by omega) h1.2.1 (by rw [e1]; omega) (by omega) (fun σ2 h2 => ?_)
      rw [show x + 1 + m' = x + (m' + 1) by omega]
      rw [h1.1] at h2
      exact h σ2 (h1.tr h2)
theorem s_resize {b i z : Nat} {σ : Mem} {K : Int32 → Mem → Prop} (hi : i < 4) (hz : z < 2 ^ 31) (hw : WS σ b) (h : ∀ σ1, S1 b (rsN (nC (aSm (aC σ b) i) - z) (zet (aC σ b) i (nI z)) i) σ σ1 → K (nI (nC (aSm (aC σ b) i) - z)) σ1) : w_X2_resize b (nI i) (nI z) σ K := by
  unfold w_X2_resize
  refine ⟨vi hi, ?_⟩
  rw [ixn (show i < 2 ^ 31 by omega)]
  rintro σ1 e1
  have f1 : ∀ q, q ≠ b + 2 + 5 * i → σ1 q = σ q := fun q hq => by rw [e1, mu_o hq]
  have hv : vC σ1 (b + 2 + 5 * i) = (nI z, (vC σ (b + 2 + 5 * i)).2) := by
    refine Prod.ext ?_ (Prod.ext ?_ (Prod.ext ?_ (Prod.ext ?_ ?_)))
    · show σ1 (b + 2 + 5 * i) 0 = nI z; simp [e1, mu, ms, upd]
    · show σ1 (b + 2 + 5 * i) 1 = σ (b + 2 + 5 * i) 1; simp [e1, mu, ms, upd]
    · show σ1 (b + 2 + 5 * i) 2 = σ (b + 2 + 5 * i) 2; simp [e1, mu, ms, upd]
    · show cC σ1 (b + 2 + 5 * i) = cC σ (b + 2 + 5 * i)
      have e3 : σ1 (b + 2 + 5 * i) 3 = σ (b + 2 + 5 * i) 3 := by simp [e1, mu, ms, upd]
      funext l
      unfold cC
      rw [e3, f1 _ (by omega), f1 _ (by omega), f1 _ (by omega)]
    · funext l
      show (if l < 26 then σ1 (b + 2 + 5 * i + 4) l else 0) = _
      rw [f1 _ (by omega)]; rfl
  have hS : S1 b (zet (aC σ b) i (nI z)) σ σ1 := by
    refine ⟨as_ext ?_ (bl_fr (f1 _ (by omega)) (fun q x y => f1 q (by omega))) ?_ ?_ ?_ ?_ ?_ ?_ ?_, ⟨fun q hq => ?_, wW_fr (f1 _ (by omega)) (fun q x y => f1 q (by omega)) hw.2.1, wL_fr (fun q x y => f1 q (by omega)) hw.2.2⟩, fun q hq => f1 q (by omega)⟩
    · funext q
      show (if q < 4 then vC σ1 (b + 2 + 5 * q) else z0) = if q = i then (nI z, (aSm (aC σ b) i).2) else aSm (aC σ b) q
      by_cases hqi : q = i
      · subst hqi; rw [if_pos hi, if_pos rfl, aSm_at hi, hv]
      · rw [if_neg hqi]
        show _ = if q < 4 then vC σ (b + 2 + 5 * q) else z0
        by_cases hq4 : q < 4
        · rw [if_pos hq4, if_pos hq4]; exact vC_fr (fun p x y => f1 p (by omega))
        · rw [if_neg hq4, if_neg hq4]
    · show σ1 (b + 22) 2 = σ (b + 22) 2; rw [f1 _ (by omega)]
    · show σ1 (b + 22) 3 = σ (b + 22) 3; rw [f1 _ (by omega)]
    · show σ1 (b + 22) 4 = σ (b + 22) 4; rw [f1 _ (by omega)]
    · show lgC σ1 (b + 44) = lgC σ (b + 44); exact lgC_fr (fun q x y => f1 q (by omega))
    · show σ1 b 3 = σ b 3; rw [f1 _ (by omega)]
    · show σ1 b 4 = σ b 4; rw [f1 _ (by omega)]
    · show σ1 b 5 = σ b 5; rw [f1 _ (by omega)]
    · by_cases hqi : q = i
      · subst hqi
        intro jj x y
        have e3 : σ1 (b + 2 + 5 * q) 3 = σ (b + 2 + 5 * q) 3 := by simp [e1, mu, ms, upd]
        rw [e3]; exact hw.1 q hi jj x y
      · exact hbC_fr (f1 _ (by omega)) (hw.1 q hq)
  have en : nC (aSm (aC σ1 b) i) = nC (aSm (aC σ b) i) := by
    rw [hS.1]
    have : aSm (zet (aC σ b) i (nI z)) i = (nI z, (aSm (aC σ b) i).2) := if_pos rfl
    rw [this]; rfl
  have hn := nC_le (aSm (aC σ b) i)
  refine ⟨27, s_resize_loop hi hz 26 0 _ 0 σ1 rfl hS.2.1 rfl (by rw [en]; omega) (fun σ2 h2 => ?_)⟩
  rw [en] at h2 ⊢
  rw [Nat.zero_add]
  rw [hS.1] at h2
  exact h σ2 (hS.tr h2)
/-! the whole of the window -/
def lkN (f : Nat → Sm) (t : Int32) : Nat → Sm
  | 0 => f 0
  | n + 1 => lvN (nC (mrg (lkN f t n) (f (n + 1)) t) - 4) (mrg (lkN f t n) (f (n + 1)) t)
def whl (A : AS) : Sm := lkN (aBl A) (aTm A) (ix (aKp A) - 1)
theorem sZ_wev {s : Sm} : sZ (wev s) = sZ s := by unfold wev; split <;> rfl
theorem sZ_lvN {s : Sm} {m : Nat} : sZ (lvN m s) = sZ s := by
  induction m generalizing s with
  | zero => rfl
  | succ m ih => rw [lvN, ih, sZ_wev]
theorem s_look {b : Nat} {σ : Mem} {K : Mem → Prop} (hw : WS σ b) (hb : b + 48 < 294) (h : ∀ σ1, P1 294 (whl (aC σ b)) σ σ1 → K σ1) : w_X5_look (b + 22) 294 (σ b 3) σ K := by
  obtain ⟨w1, w2, w3⟩ := hw
  obtain ⟨⟨pr, kp, ar, a1, a2, a3, a4, a5, a6, a7⟩, hbk⟩ := id w2
  have hblk : ∀ i, i < kp → aBl (aC σ b) i = vC σ (b + 22 + 2 + 5 * sl4 (ix (σ (b + 22) 1)) (ix (σ (b + 22) 2)) i) := fun i hi => by
    show blC σ (b + 22) i = _
    unfold blC
    rw [if_pos (by rw [a2, ixn (by omega)]; exact hi)]
  have hkp : ix (aKp (aC σ b)) = kp := by show ix (σ (b + 22) 2) = kp; rw [a2, ixn (by omega)]
  have loop : ∀ d i (σ1 : Mem), i + d = kp → 1 ≤ i → P1 294 (lkN (aBl (aC σ b)) (σ b 3) (i - 1)) σ σ1 → w_X5_look_11 (b + 22) 294 (σ b 3) K (d + 1) (nI i) σ1 := by
    intro d
    induction d with
    | zero =>
      intro i σ1 hi h1 hp
      rw [w_X5_look_11, hp.2.1 (b + 22) (by omega), a2]
      obtain rfl : i = kp := by omega
      refine ⟨fun _ => h σ1 ?_, fun hz => absurd (nI_le (Nat.le_refl _) (by omega)) hz⟩
      unfold whl
      rw [hkp]; exact hp
    | succ d ih =>
      intro i σ1 hi h1 hp
      rw [w_X5_look_11, hp.2.1 (b + 22) (by omega), a2]
      refine ⟨fun hz => absurd hz (nI_ge (by omega) (by omega)), fun _ => ?_⟩
      have wn : σ1 (b + 22) = σ (b + 22) := hp.2.1 _ (by omega)
      have w2' : wfW σ1 (b + 22) := wW_fr wn (fun q x y => hp.2.1 q (by omega)) w2
      refine s_blockAt w2' (by omega) ?_
      rw [wn]
      have hs := sl4_lt (ix (σ (b + 22) 1)) (ix (σ (b + 22) 2)) i
      have hv : vC σ1 (b + 22 + 2 + 5 * sl4 (ix (σ (b + 22) 1)) (ix (σ (b + 22) 2)) i) = aBl (aC σ b) i := by
        rw [hblk i (by omega)]
        exact vC_fr (fun q x y => hp.2.1 q (by omega))
      have hsz : sZ (vC σ1 294) = nI 4 := by
        rw [hp.1]
        have key : ∀ n, n < kp → sZ (lkN (aBl (aC σ b)) (σ b 3) n) = nI 4 := by
          intro n
          induction n with
          | zero =>
            intro hn
            show sZ (aBl (aC σ b) 0) = nI 4
            rw [hblk 0 hn, vC_0]
            exact (hbk _ (sl4_lt _ _ _)).2
          | succ n ihn =>
            intro hn
            rw [lkN, sZ_lvN]
            exact ihn (by omega)
        exact key (i - 1) (by omega)
      refine s_absorb (z := 4) (by omega) hsz (by omega) hp.2.2 (hbC_fr (hp.2.1 _ (by omega)) (hbk _ hs).1) (fun σ2 h2 => ?_)
      rw [nI_1]
      refine ih (i + 1) σ2 (by omega) (by omega) ?_
      rw [hv, hp.1] at h2
      obtain ⟨i', rfl⟩ : ∃ i', i = i' + 1 := ⟨i - 1, by omega⟩
      rw [show i' + 1 + 1 - 1 = i' + 1 from rfl, lkN]
      exact hp.tr h2
  unfold w_X5_look
  refine s_blockAt (i := 0) w2 (by omega) ?_
  have hs := sl4_lt (ix (σ (b + 22) 1)) (ix (σ (b + 22) 2)) 0
  refine s_become (by omega) (hbk _ hs).1 (fun σ1 hp => ⟨kp - 1 + 1, loop (kp - 1) 1 σ1 (by omega) (by omega) ?_⟩)
  rw [← hblk 0 (by omega)] at hp
  exact hp
/-! History -/
def wfH (σ : Mem) : Prop := ∃ nx kn : Nat, σ 300 1 = nI nx ∧ σ 300 2 = nI kn ∧ nx < 4 ∧ kn ≤ 4
/-- the j-th latest state -/
def hsC (σ : Mem) (j : Nat) : AS := aC σ (49 + 49 * ((ix (σ 300 1) + 3 - j) % 4))
def hsW (σ : Mem) : Prop := wfH σ ∧ ∀ j, j < ix (σ 300 2) → WS σ (49 + 49 * ((ix (σ 300 1) + 3 - j) % 4))
theorem aC_fr {σ σ1 : Mem} {b : Nat} (h : ∀ q, b ≤ q → q ≤ b + 48 → σ1 q = σ q) : aC σ1 b = aC σ b := by
  refine as_ext (sm_fr (fun i hi => vC_fr (fun q x y => h q (by omega) (by omega)))) (bl_fr (h _ (by omega) (by omega)) (fun q x y => h q (by omega) (by omega))) ?_ ?_ ?_ ?_ ?_ ?_ ?_
  · show σ1 (b + 22) 2 = σ (b + 22) 2; rw [h _ (by omega) (by omega)]
  · show σ1 (b + 22) 3 = σ (b + 22) 3; rw [h _ (by omega) (by omega)]
  · show σ1 (b + 22) 4 = σ (b + 22) 4; rw [h _ (by omega) (by omega)]
  · exact lgC_fr (fun q x y => h q (by omega) (by omega))
  · show σ1 b 3 = σ b 3; rw [h _ (by omega) (by omega)]
  · show σ1 b 4 = σ b 4; rw [h _ (by omega) (by omega)]
  · show σ1 b 5 = σ b 5; rw [h _ (by omega) (by omega)]
theorem WS_fr {σ σ1 : Mem} {b : Nat} (h : ∀ q, b ≤ q → q ≤ b + 48 → σ1 q = σ q) (hw : WS σ b) : WS σ1 b :=
  ⟨fun i hi => hbC_fr (h _ (by omega) (by omega)) (hw.1 i hi), wW_fr (h _ (by omega) (by omega)) (fun q x y => h q (by omega) (by omega)) hw.2.1, wL_fr (fun q x y => h q (by omega) (by omega)) hw.2.2⟩
def frH (σ σ1 : Mem) : Prop := ∀ q, (q < 49 ∨ 244 < q) → q ≠ 300 → σ1 q = σ q
theorem s_remember {σ : Mem} {K : Mem → Prop} (hw : WS σ 0) (hh : hsW σ) (h : ∀ σ1, frH σ σ1 → hsW σ1 → ix (σ1 300 2) = (if ix (σ 300 2) < 4 then ix (σ 300 2) + 1 else 4) → hsC σ1 0 = aC σ 0 → (∀ j, j < 3 → j < ix (σ 300 2) → hsC σ1 (j + 1) = hsC σ j) → K σ1) : w_X0_remember 0 σ K := by
  obtain ⟨⟨nx, kn, h1, h2, h3, h4⟩, hst⟩ := hh
  have i1 : ix (σ 300 1) = nx := by rw [h1, ixn (by omega)]
  have i2 : ix (σ 300 2) = kn := by rw [h2, ixn (by omega)]
  unfold w_X0_remember
  rw [h1, (an3 nx h3).1]
  refine ⟨vi h3, ?_⟩
  rw [ixn (show nx < 2 ^ 31 by omega)]
  refine s_sbecome (by omega) hw (fun σ2 hS => ?_)
  rintro σ3 e3 σ4 e4
  have f4 : ∀ q, q ≠ 300 → σ4 q = σ2 q := fun q hq => by rw [e4, mu_o hq, e3, mu_o hq]
  have h300 : σ2 300 = σ 300 := hS.2.2 300 (by omega)
  have g1 : σ4 300 1 = nI ((nx + 1) % 4) := by
    have : σ4 300 1 = (σ2 300 1 + 1) &&& 3 := by simp [e4, e3, mu, ms, upd]
    rw [this, h300, h1, (an3 nx h3).2.1]
  have g2 : σ4 300 2 = nI (if kn < 4 then kn + 1 else 4) := by
    have : σ4 300 2 = if 4 < σ2 300 2 + 1 then 4 else σ2 300 2 + 1 := by simp [e4, e3, mu, ms, upd]
    rw [this, h300, h2, mn4 kn h4]
  have j1 : ix (σ4 300 1) = (nx + 1) % 4 := by rw [g1, ixn (by omega)]
  have j2 : ix (σ4 300 2) = if kn < 4 then kn + 1 else 4 := by rw [g2, ixn (by split <;> omega)]
  have z0 : ((nx + 1) % 4 + 3 - 0) % 4 = nx := by omega
  have c0 : aC σ4 (49 + 49 * nx) = aC σ 0 := by
    rw [aC_fr (σ := σ2) (fun q x y => f4 q (by omega))]; exact hS.1
  have d0 : WS σ4 (49 + 49 * nx) := WS_fr (fun q x y => f4 q (by omega)) hS.2.1
  have zj : ∀ j, j < 3 → ((nx + 1) % 4 + 3 - (j + 1)) % 4 = (nx + 3 - j) % 4 ∧ (nx + 3 - j) % 4 ≠ nx ∧ (nx + 3 - j) % 4 < 4 := fun j hj => by omega
  have old : ∀ j, j < 3 → ∀ q, 49 + 49 * ((nx + 3 - j) % 4) ≤ q → q ≤ 49 + 49 * ((nx + 3 - j) % 4) + 48 → σ4 q = σ q := fun j hj q x y => by
    obtain ⟨-, y1, y2⟩ := zj j hj
    rw [f4 q (by omega)]
    exact hS.2.2 q (by omega)
  refine h σ4 (fun q x y => by rw [f4 q y, hS.2.2 q (by omega)]) ⟨⟨_, _, g1, g2, by omega, by split <;> omega⟩, fun j hj => ?_⟩ (by rw [j2, i2]) ?_ (fun j hj hk => ?_)
  · rw [j1]
    rw [j2] at hj
    cases j with
    | zero => rw [z0]; exact d0
    | succ j =>
      have hj3 : j < 3 := by split at hj <;> omega
      rw [(zj j hj3).1]
      have := hst j (by rw [i2]; split at hj <;> omega)
      rw [i1] at this
      exact WS_fr (old j hj3) this
  · unfold hsC
    rw [j1, z0]; exact c0
  · unfold hsC
    rw [j1, (zj j hj).1, i1]
    exact aC_fr (old j hj)
theorem s_takeBack {σ : Mem} {K : Mem → Prop} (hh : hsW σ) (hk : 0 < ix (σ 300 2)) (h : ∀ σ1, (∀ q, 48 < q → q ≠ 300 → σ1 q = σ q) → WS σ1 0 → hsW σ1 → σ1 300 2 = σ 300 2 - 1 → ix (σ1 300 2) = ix (σ 300 2) - 1 → aC σ1 0 = hsC σ 0 → (∀ j, j < ix (σ 300 2) - 1 → hsC σ1 j = hsC σ (j + 1)) → K σ1) : w_X0_takeBack 0 σ K := by
  obtain ⟨⟨nx, kn, h1, h2, h3, h4⟩, hst⟩ := hh
  have i1 : ix (σ 300 1) = nx := by rw [h1, ixn (by omega)]
  have i2 : ix (σ 300 2) = kn := by rw [h2, ixn (by omega)]
  rw [i2] at hk h
  rintro σ1 e1 σ2 e2
  have f2 : ∀ q, q ≠ 300 → σ2 q = σ q := fun q hq => by rw [e2, mu_o hq, e1, mu_o hq]
  have g1 : σ2 300 1 = nI ((nx + 3) % 4) := by
    have : σ2 300 1 = (σ 300 1 - 1) &&& 3 := by simp [e2, e1, mu, ms, upd]
    rw [this, h1, (an3 nx h3).2.2]
  have g2 : σ2 300 2 = nI (kn - 1) := by
    have : σ2 300 2 = σ 300 2 - 1 := by simp [e2, e1, mu, ms, upd]
    rw [this, h2]
    obtain ⟨k', rfl⟩ : ∃ k', kn = k' + 1 := ⟨kn - 1, by omega⟩
    exact nI_pred k'
  have g2' : σ2 300 2 = σ 300 2 - 1 := by simp [e2, e1, mu, ms, upd]
  rw [g1]
  refine ⟨vi (Nat.mod_lt _ (by omega)), ?_⟩
  rw [ixn (show (nx + 3) % 4 < 2 ^ 31 by omega)]
  have hw0 := hst 0 (by rw [i2]; exact hk)
  rw [i1, Nat.sub_zero] at hw0
  refine s_sbecome (by omega) (WS_fr (fun q x y => f2 q (by omega)) hw0) (fun σ3 hS => ?_)
  have f3 : ∀ q, 48 < q → q ≠ 300 → σ3 q = σ q := fun q x y => by rw [hS.2.2 q (by omega), f2 q y]
  have h300 : σ3 300 = σ2 300 := hS.2.2 300 (by omega)
  have j1 : ix (σ3 300 1) = (nx + 3) % 4 := by rw [h300, g1, ixn (by omega)]
  have j2 : ix (σ3 300 2) = kn - 1 := by rw [h300, g2, ixn (by omega)]
  have zj : ∀ j, j < 3 → ((nx + 3) % 4 + 3 - j) % 4 = (nx + 3 - (j + 1)) % 4 := fun j hj => by omega
  refine h σ3 f3 hS.2.1 ⟨⟨_, _, by rw [h300]; exact g1, by rw [h300]; exact g2, by omega, by omega⟩, fun j hj => ?_⟩ (by rw [h300]; exact g2') j2 ?_ (fun j hj => ?_)
  · rw [j2] at hj
    rw [j1, zj j (by omega)]
    have := hst (j + 1) (by rw [i2]; omega)
    rw [i1] at this
    exact WS_fr (fun q x y => f3 q (by omega) (by omega)) this
  · rw [hS.1]
    unfold hsC
    rw [i1, Nat.sub_zero]
    exact aC_fr (fun q x y => f2 q (by omega))
  · unfold hsC
    rw [j1, zj j (by omega), i1]
    exact aC_fr (fun q x y => f3 q (by omega) (by omega))
