/-! The class's State. -/
abbrev AS : Type := (Nat → Sm) × (Nat → Sm) × Int32 × Int32 × Int32 × (Nat → Option Ev) × Int32 × Int32 × Int32
def aSm (A : AS) : Nat → Sm := A.1
def aBl (A : AS) : Nat → Sm := A.2.1
def aKp (A : AS) : Int32 := A.2.2.1
def aBg (A : AS) : Int32 := A.2.2.2.1
def aAr (A : AS) : Int32 := A.2.2.2.2.1
def aLg (A : AS) : Nat → Option Ev := A.2.2.2.2.2.1
def aTm (A : AS) : Int32 := A.2.2.2.2.2.2.1
def aEv (A : AS) : Int32 := A.2.2.2.2.2.2.2.1
def aMg (A : AS) : Int32 := A.2.2.2.2.2.2.2.2
def aC (σ : Mem) (b : Nat) : AS := ((fun i => if i < 4 then vC σ (b + 2 + 5 * i) else z0), blC σ (b + 22), σ (b + 22) 2, σ (b + 22) 3, σ (b + 22) 4, lgC σ (b + 44), σ b 3, σ b 4, σ b 5)
def WS (σ : Mem) (b : Nat) : Prop := (∀ i, i < 4 → hbC σ (b + 2 + 5 * i)) ∧ wfW σ (b + 22) ∧ wfL σ (b + 44)
def frS (b : Nat) (σ σ1 : Mem) : Prop := ∀ q, (q < b ∨ b + 48 < q) → σ1 q = σ q
def S1 (b : Nat) (A : AS) (σ σ1 : Mem) : Prop := aC σ1 b = A ∧ WS σ1 b ∧ frS b σ σ1
theorem S1.tr {b : Nat} {A A2 : AS} {σ σ1 σ2 : Mem} (h : S1 b A σ σ1) (h2 : S1 b A2 σ1 σ2) : S1 b A2 σ σ2 := ⟨h2.1, h2.2.1, fun q hq => (h2.2.2 q hq).trans (h.2.2 q hq)⟩
theorem as_ext {A B : AS} (h1 : aSm A = aSm B) (h2 : aBl A = aBl B) (h3 : aKp A = aKp B) (h4 : aBg A = aBg B) (h5 : aAr A = aAr B) (h6 : aLg A = aLg B) (h7 : aTm A = aTm B) (h8 : aEv A = aEv B) (h9 : aMg A = aMg B) : A = B :=
  Prod.ext h1 (Prod.ext h2 (Prod.ext h3 (Prod.ext h4 (Prod.ext h5 (Prod.ext h6 (Prod.ext h7 (Prod.ext h8 h9)))))))
theorem aSm_at {σ : Mem} {b i : Nat} (hi : i < 4) : aSm (aC σ b) i = vC σ (b + 2 + 5 * i) := if_pos hi
/-- the parts of a state that stay -/
theorem sm_fr {σ σ1 : Mem} {b b1 : Nat} (h : ∀ i, i < 4 → vC σ1 (b1 + 2 + 5 * i) = vC σ (b + 2 + 5 * i)) : aSm (aC σ1 b1) = aSm (aC σ b) := by
  funext i
  show (if i < 4 then _ else _) = (if i < 4 then _ else _)
  by_cases hi : i < 4
  · rw [if_pos hi, if_pos hi, h i hi]
  · rw [if_neg hi, if_neg hi]
theorem bl_fr {σ σ1 : Mem} {b : Nat} (h0 : σ1 (b + 22) = σ (b + 22)) (h : ∀ q, b + 24 ≤ q → q ≤ b + 43 → σ1 q = σ q) : aBl (aC σ1 b) = aBl (aC σ b) :=
  blC_ext (by rw [h0]) (by rw [h0]) (fun i hi => vC_fr (fun q h1 h2 => h q (by omega) (by omega)))
theorem wW_fr {σ σ1 : Mem} {b : Nat} (h0 : σ1 (b + 22) = σ (b + 22)) (h : ∀ q, b + 24 ≤ q → q ≤ b + 43 → σ1 q = σ q) (hw : wfW σ (b + 22)) : wfW σ1 (b + 22) :=
  wfW_fr (by rw [h0]) (by rw [h0]) (by rw [h0]) (fun i hi => ⟨hbC_fr (h _ (by omega) (by omega)) (hw.2 i hi).1, by rw [h _ (by omega) (by omega)]; exact (hw.2 i hi).2⟩) hw
theorem wL_fr {σ σ1 : Mem} {b : Nat} (h : ∀ q, b + 44 ≤ q → q ≤ b + 48 → σ1 q = σ q) (hw : wfL σ (b + 44)) : wfL σ1 (b + 44) := wfL_fr (by rw [h _ (by omega) (by omega)]) (by rw [h _ (by omega) (by omega)]) hw
theorem s_sbecome_loop {b o : Nat} {σ : Mem} {K : Mem → Prop} (hd : b + 48 < o ∨ o + 48 < b) (hw : WS σ o) (h : ∀ σ1, S1 b (aC σ o) σ σ1 → K σ1) : ∀ d i σ1, i + d = 4 → CP (b + 2) (o + 2) i σ σ1 → w_X2_become_2 b o K (d + 1) (nI i) σ1 := by
  intro d
  induction d with
  | zero =>
    intro i σ1 hi hc
    rw [w_X2_become_2]
    obtain rfl : i = 4 := by omega
    refine ⟨fun _ => ?_, fun hz => absurd (nI_le (a := 4) (Nat.le_refl _) (by omega)) hz⟩
    have f1 : ∀ q, (q < b + 2 ∨ b + 21 < q) → σ1 q = σ q := fun q hq => hc.1 q (by omega)
    refine s_wbecome (by omega) (wW_fr (f1 _ (by omega)) (fun q h1 h2 => f1 q (by omega)) hw.2.1) (fun σ2 h2 e1 e2 e3 e4 => ?_)
    refine s_lbecome (by omega) (wL_fr (fun q x y => by rw [h2.1 q (by omega), f1 q (by omega)]) hw.2.2) (fun σ3 h3 e5 => ?_)
    rintro σ4 e6 σ5 e7 σ6 e8
    have g6 : ∀ q, q ≠ b → σ6 q = σ3 q := fun q hq => by rw [e8, mu_o hq, e7, mu_o hq, e6, mu_o hq]
    have n0 : o ≠ b := by omega
    have so : ∀ q, o ≤ q → q ≤ o + 48 → σ3 q = σ q := fun q x y => by rw [h3.1 q (by omega), h2.1 q (by omega), f1 q (by omega)]
    have hv : ∀ i, i < 4 → vC σ6 (b + 2 + 5 * i) = vC σ (o + 2 + 5 * i) := fun i hi => by
      rw [← (hc.2 i hi).1]
      exact vC_fr (fun q x y => by rw [g6 q (by omega), h3.1 q (by omega), h2.1 q (by omega)])
    refine h σ6 ⟨as_ext (sm_fr hv) ?_ ?_ ?_ ?_ ?_ ?_ ?_ ?_, ⟨fun i hi => ?_, ?_, ?_⟩, fun q hq => ?_⟩
    · show blC σ6 (b + 22) = blC σ (o + 22)
      have : blC σ6 (b + 22) = blC σ2 (b + 22) := blC_ext (by rw [g6 _ (by omega), h3.1 _ (by omega)]) (by rw [g6 _ (by omega), h3.1 _ (by omega)]) (fun i hi => vC_fr (fun q x y => by rw [g6 q (by omega), h3.1 q (by omega)]))
      rw [this, e1]
      exact blC_ext (by rw [f1 _ (by omega)]) (by rw [f1 _ (by omega)]) (fun i hi => vC_fr (fun q x y => f1 q (by omega)))
    · show σ6 (b + 22) 2 = σ (o + 22) 2
      rw [g6 _ (by omega), h3.1 _ (by omega), e2, f1 _ (by omega)]
    · show σ6 (b + 22) 3 = σ (o + 22) 3
      rw [g6 _ (by omega), h3.1 _ (by omega), e3, f1 _ (by omega)]
    · show σ6 (b + 22) 4 = σ (o + 22) 4
      rw [g6 _ (by omega), h3.1 _ (by omega), e4, f1 _ (by omega)]
    · show lgC σ6 (b + 44) = lgC σ (o + 44)
      rw [lgC_fr (σ := σ3) (fun q x y => g6 q (by omega)), e5]
      exact lgC_fr (fun q x y => by rw [h2.1 q (by omega), f1 q (by omega)])
    · show σ6 b 3 = σ o 3
      rw [← so o (by omega) (by omega)]; simp [e8, e7, e6, mu, ms, upd, n0]
    · show σ6 b 4 = σ o 4
      rw [← so o (by omega) (by omega)]; simp [e8, e7, e6, mu, ms, upd, n0]
    · show σ6 b 5 = σ o 5
      rw [← so o (by omega) (by omega)]; simp [e8, e7, e6, mu, ms, upd, n0]
    · exact hbC_fr (by rw [g6 _ (by omega), h3.1 _ (by omega), h2.1 _ (by omega)]) (hc.2 i hi).2
    · exact wW_fr (by rw [g6 _ (by omega), h3.1 _ (by omega)]) (fun q x y => by rw [g6 q (by omega), h3.1 q (by omega)]) h2.2
    · exact wL_fr (fun q x y => g6 q (by omega)) h3.2
    · rw [g6 q (by omega), h3.1 q (by omega), h2.1 q (by omega), f1 q (by omega)]
  | succ d ih =>
    intro i σ1 hi hc
    have hi2 : i < 4 := by omega
    rw [w_X2_become_2]
    refine ⟨fun hz => absurd hz (nI_ge (b := 4) hi2 (by omega)), fun _ => ⟨vi hi2, vi hi2, ?_⟩⟩
    rw [ixn (show i < 2 ^ 31 by omega), nI_1]
    exact s_become (by omega) (hbC_fr (hc.1 _ (by omega)) (hw.1 i hi2)) (fun σ2 hp => ih (i + 1) σ2 (by omega) (CP_s hi2 (by omega) hc hp))
theorem s_sbecome {b o : Nat} {σ : Mem} {K : Mem → Prop} (hd : b + 48 < o ∨ o + 48 < b) (hw : WS σ o) (h : ∀ σ1, S1 b (aC σ o) σ σ1 → K σ1) : w_X2_become b o σ K := ⟨5, s_sbecome_loop hd hw h 4 0 σ rfl CP_0⟩
/-! evictions are told -/
def lgN (p t : Int32) (g : Option Nat) (f : Nat → Option Ev) : Nat → Option Ev := match g with | none => f | some m => psh (0, p, 97 + nI m, t) f
def evn (e : Int32) (g : Option Nat) : Int32 := match g with | none => e | some _ => e + 1
theorem s_noteE {b : Nat} {p : Int32} {g : Option Nat} {σ : Mem} {K : Mem → Prop} (hg : ∀ m, g = some m → m < 26) (hw : wfL σ (b + 44))
    (h : ∀ σ1, lgC σ1 (b + 44) = lgN p (σ b 3) g (lgC σ (b + 44)) → wfL σ1 (b + 44) → σ1 b 3 = σ b 3 → σ1 b 4 = evn (σ b 4) g → σ1 b 5 = σ b 5 → (∀ q, q ≠ b → (q < b + 44 ∨ b + 48 < q) → σ1 q = σ q) → K σ1) : w_X2_noteEviction b p (enc g) σ K := by
  cases g with
  | none => exact ⟨fun _ => h σ rfl hw rfl rfl rfl (fun _ _ _ => rfl), fun hc => absurd rfl hc⟩
  | some m =>
    refine ⟨fun hc => absurd hc (enc_some (l := m) (by have := hg m rfl; omega)), fun _ => ?_⟩
    rintro σ1 rfl
    have a1 : ∀ q, q ≠ b → mu σ b 4 (σ b 4 + 1) q = σ q := fun q hq => mu_o hq
    refine s_note (wL_fr (fun q x y => a1 q (by omega)) hw) (fun σ2 h2 e2 => ?_)
    have f2 : σ2 b = mu σ b 4 (σ b 4 + 1) b := h2.1 b (by omega)
    refine h σ2 ?_ h2.2 ?_ ?_ ?_ (fun q hq hq2 => ?_)
    · rw [e2, lgC_fr (σ := σ) (fun q x y => a1 q (by omega))]
      have : mu σ b 4 (σ b 4 + 1) b 3 = σ b 3 := by simp [mu, ms, upd]
      rw [this]; rfl
    · rw [f2]; simp [mu, ms, upd]
    · rw [f2]; simp [mu, ms, upd, evn]
    · rw [f2]; simp [mu, ms, upd]
    · rw [h2.1 q (by omega), a1 q hq]
theorem gone_lt {s : Sm} {l m : Nat} (h : gone s l = some m) : m < 26 := by
  unfold gone at h
  split at h
  · cases hl : lst s 26 with
    | none => rw [hl] at h; cases h
    | some r => rw [hl] at h; cases h; exact (lst_in hl).1
  · cases h
theorem s_bring_raw {b o l : Nat} {p w : Int32} {σ : Mem} {K : Mem → Prop} (hl : l < 26) (ho : b + 1 < o ∧ o + 4 < b + 44) (hb : hbC σ o) (hw : wfL σ (b + 44))
    (h : ∀ σ1, vC σ1 o = rcv (vC σ o) l w (σ b 3 + 1) → hbC σ1 o → lgC σ1 (b + 44) = lgN p (σ b 3 + 1) (gone (vC σ o) l) (lgC σ (b + 44)) → wfL σ1 (b + 44) → σ1 b 3 = σ b 3 + 1 → σ1 b 4 = evn (σ b 4) (gone (vC σ o) l) → σ1 b 5 = σ b 5 → (∀ q, q ≠ b → (q < o ∨ o + 4 < q) → (q < b + 44 ∨ b + 48 < q) → σ1 q = σ q) → K σ1) : w_X2_bring b p o (nI l) w σ K := by
  rintro σ1 e1
  have a1 : ∀ q, q ≠ b → σ1 q = σ q := fun q hq => by rw [e1, mu_o hq]
  have b3 : σ1 b 3 = σ b 3 + 1 := by simp [e1, mu, ms, upd]
  have b4 : σ1 b 4 = σ b 4 := by simp [e1, mu, ms, upd]
  have b5 : σ1 b 5 = σ b 5 := by simp [e1, mu, ms, upd]
  have v1 : vC σ1 o = vC σ o := vC_fr (fun q x y => a1 q (by omega))
  refine s_receive hl (hbC_fr (a1 _ (by omega)) hb) (fun σ2 h2 => ?_)
  rw [b3, v1] at h2
  rw [v1]
  have b2 : σ2 b = σ1 b := h2.2.1 b (by omega)
  refine s_noteE (fun m hm => gone_lt hm) (wL_fr (fun q x y => by rw [h2.2.1 q (by omega), a1 q (by omega)]) hw) (fun σ3 c1 c2 c3 c4 c5 c6 => ?_)
  rw [b2, b3] at c1 c3
  rw [b2, b4] at c4
  rw [b2, b5] at c5
  refine h σ3 ?_ (hbC_fr (c6 _ (by omega) (by omega)) h2.2.2) ?_ c2 c3 c4 c5 (fun q x y z => ?_)
  · rw [← h2.1]; exact vC_fr (fun q x y => c6 q (by omega) (by omega))
  · rw [c1]
    congr 1
    exact lgC_fr (fun q x y => by rw [h2.2.1 q (by omega), a1 q (by omega)])
  · rw [c6 q x z, h2.2.1 q y, a1 q x]
def brS (A : AS) (i l : Nat) (w : Int32) : AS := ((fun j => if j = i then rcv (aSm A i) l w (aTm A + 1) else aSm A j), aBl A, aKp A, aBg A, aAr A, lgN (nI i) (aTm A + 1) (gone (aSm A i) l) (aLg A), aTm A + 1, evn (aEv A) (gone (aSm A i) l), aMg A)
theorem s_bringS {b i l : Nat} {w : Int32} {σ : Mem} {K : Mem → Prop} (hi : i < 4) (hl : l < 26) (hw : WS σ b) (h : ∀ σ1, S1 b (brS (aC σ b) i l w) σ σ1 → K σ1) : w_X2_bring b (nI i) (b + 2 + 5 * i) (nI l) w σ K := by
  refine s_bring_raw hl (by omega) (hw.1 i hi) hw.2.2 (fun σ1 c1 c2 c3 c4 c5 c6 c7 c8 => h σ1 ⟨as_ext ?_ ?_ ?_ ?_ ?_ ?_ ?_ ?_ ?_, ⟨fun j hj => ?_, ?_, c4⟩, fun q hq => ?_⟩)
  · funext j
    show (if j < 4 then vC σ1 (b + 2 + 5 * j) else z0) = if j = i then rcv (aSm (aC σ b) i) l w (σ b 3 + 1) else aSm (aC σ b) j
    by_cases hji : j = i
    · subst hji
      rw [if_pos hi, if_pos rfl, c1, aSm_at hi]
    · rw [if_neg hji]
      show _ = if j < 4 then vC σ (b + 2 + 5 * j) else z0
      by_cases hj : j < 4
      · rw [if_pos hj, if_pos hj]; exact vC_fr (fun q x y => c8 q (by omega) (by omega) (by omega))
      · rw [if_neg hj, if_neg hj]
  · exact bl_fr (c8 _ (by omega) (by omega) (by omega)) (fun q x y => c8 q (by omega) (by omega) (by omega))
  · show σ1 (b + 22) 2 = σ (b + 22) 2; rw [c8 _ (by omega) (by omega) (by omega)]
  · show σ1 (b + 22) 3 = σ (b + 22) 3; rw [c8 _ (by omega) (by omega) (by omega)]
  · show σ1 (b + 22) 4 = σ (b + 22) 4; rw [c8 _ (by omega) (by omega) (by omega)]
  · show lgC σ1 (b + 44) = lgN (nI i) (σ b 3 + 1) (gone (aSm (aC σ b) i) l) (lgC σ (b + 44)); rw [c3, aSm_at hi]
  · exact c5
  · show σ1 b 4 = evn (σ b 4) (gone (aSm (aC σ b) i) l); rw [c6, aSm_at hi]
  · exact c7
  · by_cases hji : j = i
    · subst hji; exact c2
    · exact hbC_fr (c8 _ (by omega) (by omega) (by omega)) (hw.1 j hj)
  · exact wW_fr (c8 _ (by omega) (by omega) (by omega)) (fun q x y => c8 q (by omega) (by omega) (by omega)) hw.2.1
  · exact c8 q (by omega) (by omega) (by omega)
/-! the window takes an arrival -/
def brW (A : AS) (l : Nat) (w : Int32) : AS := (aSm A, (fun j => if j = ix (aKp A) - 1 then rcv (aBl A (ix (aKp A) - 1)) l w (aTm A + 1) else aBl A j), aKp A, aBg A, aAr A + 1, lgN 4 (aTm A + 1) (gone (aBl A (ix (aKp A) - 1)) l) (aLg A), aTm A + 1, evn (aEv A) (gone (aBl A (ix (aKp A) - 1)) l), aMg A)
def begA (A : AS) : AS := (aSm A, bgn (aBl A) (ix (aKp A)), nI (if ix (aKp A) < 4 then ix (aKp A) + 1 else 4), aBg A + 1, 0, psh (2, 4, aBg A + 1, aTm A) (aLg A), aTm A, aEv A, aMg A)
def flA (A : AS) (l : Nat) (w : Int32) : AS := brW (if aAr A < 8 then A else begA A) l w
theorem rcv_sZ {s : Sm} {l : Nat} {w t : Int32} : sZ (rcv s l w t) = sZ s := by
  have he : ∀ s, sZ (evc s) = sZ s := fun s => by unfold evc; split <;> rfl
  unfold rcv
  split
  · rfl
  · show sZ (put _ _ _) = _
    show sZ (if full s l = true then evc (inc s l w) else inc s l w) = sZ s
    split
    · rw [he]; rfl
    · rfl
theorem ar8 : ∀ a, a ≤ 8 → (nI a < 8 ↔ a < 8) := fun a ha => nI_ltI (b := 8) (by omega) (by omega)
theorem s_flow39 {b l : Nat} {w : Int32} {σ : Mem} {K : Mem → Prop} (hl : l < 26) (hw : WS σ b) (har : σ (b + 22) 4 < 8) (h : ∀ σ1, S1 b (brW (aC σ b) l w) σ σ1 → K σ1) : w_X2_bringToWindow_39 b (nI l) w K σ := by
  obtain ⟨w1, w2, w3⟩ := hw
  obtain ⟨⟨pr, kp, ar, a1, a2, a3, a4, a5, a6, a7⟩, hb⟩ := id w2
  have har2 : ar < 8 := by rw [a3] at har; exact (ar8 ar a7).mp har
  rintro σ1 e1
  have f1 : ∀ q, q ≠ b + 22 → σ1 q = σ q := fun q hq => by rw [e1, mu_o hq]
  have p1 : σ1 (b + 22) 1 = nI pr := by rw [← a1]; simp [e1, mu, ms, upd]
  have p2 : σ1 (b + 22) 2 = nI kp := by rw [← a2]; simp [e1, mu, ms, upd]
  have p3 : σ1 (b + 22) 3 = σ (b + 22) 3 := by simp [e1, mu, ms, upd]
  have p4 : σ1 (b + 22) 4 = nI (ar + 1) := by rw [← nI_1, ← a3]; simp [e1, mu, ms, upd]
  have hsl : sl4 pr kp (kp - 1) = pr := by unfold sl4; omega
  have hbk : aBl (aC σ b) (ix (aKp (aC σ b)) - 1) = vC σ (b + 22 + 2 + 5 * pr) := by
    show blC σ (b + 22) (ix (σ (b + 22) 2) - 1) = _
    unfold blC
    rw [a2, a1, ixn (show kp < 2 ^ 31 by omega), ixn (show pr < 2 ^ 31 by omega), if_pos (by omega), hsl]
  refine s_present p1 a4 (s_bring_raw (p := 4) hl (by omega) (hbC_fr (f1 _ (by omega)) (hb pr a4).1) (wL_fr (fun q x y => f1 q (by omega)) w3) (fun σ2 c1 c2 c3 c4 c5 c6 c7 c8 => ?_))
  rw [vC_fr (σ := σ) (fun q x y => f1 q (by omega))] at c1 c3 c6
  rw [f1 b (by omega)] at c1 c3 c5 c6 c7
  have wn : σ2 (b + 22) = σ1 (b + 22) := c8 _ (by omega) (by omega) (by omega)
  refine h σ2 ⟨as_ext ?_ ?_ ?_ ?_ ?_ ?_ ?_ ?_ ?_, ⟨fun j hj => ?_, ?_, c4⟩, fun q hq => ?_⟩
  · exact sm_fr (fun i hi => vC_fr (fun q x y => by rw [c8 q (by omega) (by omega) (by omega), f1 q (by omega)]))
  · funext j
    show blC σ2 (b + 22) j = if j = ix (aKp (aC σ b)) - 1 then rcv (aBl (aC σ b) (ix (aKp (aC σ b)) - 1)) l w (σ b 3 + 1) else blC σ (b + 22) j
    rw [hbk]
    show blC σ2 (b + 22) j = if j = ix (σ (b + 22) 2) - 1 then _ else _
    unfold blC
    rw [wn, p1, p2, a1, a2, ixn (show kp < 2 ^ 31 by omega), ixn (show pr < 2 ^ 31 by omega)]
    by_cases hj : j = kp - 1
    · rw [if_pos hj, if_pos (by omega), hj, hsl, c1]
    · rw [if_neg hj]
      by_cases hj2 : j < kp
      · rw [if_pos hj2, if_pos hj2]
        have hne : sl4 pr kp j ≠ pr := by unfold sl4; omega
        have := sl4_lt pr kp j
        exact vC_fr (fun q x y => by rw [c8 q (by omega) (by omega) (by omega), f1 q (by omega)])
      · rw [if_neg hj2, if_neg hj2]
  · show σ2 (b + 22) 2 = σ (b + 22) 2; rw [wn, p2, a2]
  · show σ2 (b + 22) 3 = σ (b + 22) 3; rw [wn, p3]
  · show σ2 (b + 22) 4 = σ (b + 22) 4 + 1; rw [wn, p4, a3, nI_1]
  · show lgC σ2 (b + 44) = lgN 4 (σ b 3 + 1) (gone (aBl (aC σ b) (ix (aKp (aC σ b)) - 1)) l) (lgC σ (b + 44))
    rw [c3, hbk, lgC_fr (σ := σ) (fun q x y => f1 q (by omega))]
  · exact c5
  · show σ2 b 4 = evn (σ b 4) (gone (aBl (aC σ b) (ix (aKp (aC σ b)) - 1)) l); rw [c6, hbk]
  · exact c7
  · exact hbC_fr (by rw [c8 _ (by omega) (by omega) (by omega), f1 _ (by omega)]) (w1 j hj)
  · refine ⟨⟨pr, kp, ar + 1, by rw [wn]; exact p1, by rw [wn]; exact p2, by rw [wn]; exact p4, a4, a5, a6, by omega⟩, fun j hj => ?_⟩
    by_cases hjp : j = pr
    · subst hjp
      refine ⟨c2, ?_⟩
      have := congrArg sZ c1
      rw [rcv_sZ, vC_0, vC_0, (hb j hj).2] at this
      exact this
    · refine ⟨hbC_fr (by rw [c8 _ (by omega) (by omega) (by omega), f1 _ (by omega)]) (hb j hj).1, ?_⟩
      rw [c8 _ (by omega) (by omega) (by omega), f1 _ (by omega)]; exact (hb j hj).2
  · rw [c8 q (by omega) (by omega) (by omega), f1 q (by omega)]
theorem s_flow {b l : Nat} {w : Int32} {σ : Mem} {K : Mem → Prop} (hl : l < 26) (hw : WS σ b) (h : ∀ σ1, S1 b (flA (aC σ b) l w) σ σ1 → K σ1) : w_X2_bringToWindow b (nI l) w σ K := by
  refine ⟨fun hc => ?_, fun hc => ?_⟩
  · refine s_flow39 hl hw hc (fun σ1 h1 => h σ1 ?_)
    unfold flA
    rw [if_pos (show aAr (aC σ b) < 8 from hc)]
    exact h1
  · refine s_begin hw.2.1 (fun σ1 h1 e1 e2 e3 e4 => ?_)
    refine s_note (wL_fr (fun q x y => h1.1 q (by omega)) hw.2.2) (fun σ2 h2 e5 => ?_)
    have wn : σ2 (b + 22) = σ1 (b + 22) := h2.1 _ (by omega)
    have bb : σ1 b = σ b := h1.1 b (by omega)
    have hS : S1 b (begA (aC σ b)) σ σ2 := by
      refine ⟨as_ext ?_ ?_ ?_ ?_ ?_ ?_ ?_ ?_ ?_, ⟨fun j hj => ?_, ?_, h2.2⟩, fun q hq => ?_⟩
      · exact sm_fr (fun i hi => vC_fr (fun q x y => by rw [h2.1 q (by omega), h1.1 q (by omega)]))
      · show blC σ2 (b + 22) = bgn (blC σ (b + 22)) (ix (σ (b + 22) 2))
        rw [← e1]
        exact blC_ext (by rw [wn]) (by rw [wn]) (fun i hi => vC_fr (fun q x y => h2.1 q (by omega)))
      · show σ2 (b + 22) 2 = _; rw [wn, e2]; rfl
      · show σ2 (b + 22) 3 = _; rw [wn, e3]; rfl
      · show σ2 (b + 22) 4 = _; rw [wn, e4]; rfl
      · show lgC σ2 (b + 44) = psh (2, 4, σ (b + 22) 3 + 1, σ b 3) (lgC σ (b + 44))
        rw [e5, e3, bb, lgC_fr (σ := σ) (fun q x y => h1.1 q (by omega))]
      · show σ2 b 3 = σ b 3; rw [h2.1 b (by omega), bb]
      · show σ2 b 4 = σ b 4; rw [h2.1 b (by omega), bb]
      · show σ2 b 5 = σ b 5; rw [h2.1 b (by omega), bb]
      · exact hbC_fr (by rw [h2.1 _ (by omega), h1.1 _ (by omega)]) (hw.1 j hj)
      · exact wW_fr wn (fun q x y => h2.1 q (by omega)) h1.2
      · rw [h2.1 q (by omega), h1.1 q (by omega)]
    refine s_flow39 hl hS.2.1 (by rw [wn, e4]; decide) (fun σ3 h3 => h σ3 ?_)
    unfold flA
    rw [if_neg (show ¬ aAr (aC σ b) < 8 from hc), ← hS.1]
    exact hS.tr h3
