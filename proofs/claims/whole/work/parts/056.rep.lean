/-! Both sides stand for one state. -/
abbrev ST : Type := AS × Nat × (Nat → AS) × Option AS × Nat × (Nat → Int32)
def tA (t : ST) : AS := t.1
def tN (t : ST) : Nat := t.2.1
def tH (t : ST) : Nat → AS := t.2.2.1
def tQ (t : ST) : Option AS := t.2.2.2.1
def tT (t : ST) : Nat := t.2.2.2.2.1
def tX (t : ST) : Nat → Int32 := t.2.2.2.2.2
def snC (σ : Mem) : Option AS → Prop
  | none => σ 299 3 = 0
  | some B => σ 299 3 = 1 ∧ WS σ 245 ∧ aC σ 245 = B
def snM (σ : Mem) : Option AS → Prop
  | none => σ 306 4 = 0
  | some B => σ 306 4 = 1 ∧ WM (σ 309) ∧ aM (σ 309) = B
def CR (σ : Mem) (t : ST) : Prop := (WS σ 0 ∧ aC σ 0 = tA t) ∧ (hsW σ ∧ σ 300 2 = nI (tN t) ∧ ∀ j, j < tN t → hsC σ j = tH t j) ∧ snC σ (tQ t) ∧ (σ 302 1 = nI (tT t) ∧ ∀ x, x < tT t → σ 303 x = tX t x)
def MR (σ : Mem) (t : ST) : Prop := (WM (σ 307) ∧ aM (σ 307) = tA t) ∧ (σ 306 2 = nI (tN t) ∧ ∀ j, j < tN t → WM (hM σ (tN t - 1 - j)) ∧ aM (hM σ (tN t - 1 - j)) = tH t j) ∧ snM σ (tQ t) ∧ (σ 306 5 = nI (tT t) ∧ ∀ x, x < tT t → σ 310 x = tX t x)
def isCh (x : Int32) : Prop := 0 ≤ x.toInt ∧ x.toInt < 65536
def okT (t : ST) : Prop := okA (tA t) ∧ (tN t ≤ 4 ∧ ∀ j, j < tN t → okA (tH t j)) ∧ (∀ B, tQ t = some B → okA B) ∧ (tT t ≤ 60 ∧ ∀ x, x < tT t → isCh (tX t x))
def frC (σ σ1 : Mem) : Prop := ∀ q, 306 ≤ q → σ1 q = σ q
def frM (σ σ1 : Mem) : Prop := ∀ q, q < 306 → σ1 q = σ q
theorem frC.tr {σ σ1 σ2 : Mem} (h : frC σ σ1) (h2 : frC σ1 σ2) : frC σ σ2 := fun q hq => (h2 q hq).trans (h q hq)
theorem frM.tr {σ σ1 σ2 : Mem} (h : frM σ σ1) (h2 : frM σ1 σ2) : frM σ σ2 := fun q hq => (h2 q hq).trans (h q hq)
def setA (t : ST) (A : AS) : ST := (A, t.2)
def psA (t : ST) : ST := (tA t, up4 (tN t), (fun j => if j = 0 then tA t else tH t (j - 1)), tQ t, tT t, tX t)
theorem hsC_fr {σ σ1 : Mem} (h : ∀ q, 49 ≤ q → q ≤ 244 → σ1 q = σ q) (h3 : σ1 300 = σ 300) (j : Nat) : hsC σ1 j = hsC σ j := by
  unfold hsC
  rw [h3]
  exact aC_fr (fun q x y => h q (by omega) (by omega))
theorem hsW_fr {σ σ1 : Mem} (h : ∀ q, 49 ≤ q → q ≤ 244 → σ1 q = σ q) (h3 : σ1 300 = σ 300) (hw : hsW σ) : hsW σ1 := by
  obtain ⟨a, b⟩ := hw
  refine ⟨by unfold wfH; rw [h3]; exact a, fun j hj => ?_⟩
  rw [h3] at hj ⊢
  exact WS_fr (fun q x y => h q (by omega) (by omega)) (b j hj)
theorem snC_fr {σ σ1 : Mem} {o : Option AS} (h : ∀ q, 245 ≤ q → q ≤ 293 → σ1 q = σ q) (h3 : σ1 299 = σ 299) (hs : snC σ o) : snC σ1 o := by
  cases o with
  | none => show σ1 299 3 = 0; rw [h3]; exact hs
  | some B =>
    obtain ⟨a, b, c⟩ := hs
    exact ⟨by rw [h3]; exact a, WS_fr (fun q x y => h q (by omega) (by omega)) b, by rw [← c]; exact aC_fr (fun q x y => h q (by omega) (by omega))⟩
theorem snM_fr {σ σ1 : Mem} {o : Option AS} (h : σ1 306 4 = σ 306 4) (h3 : σ1 309 = σ 309) (hs : snM σ o) : snM σ1 o := by
  cases o with
  | none => show σ1 306 4 = 0; rw [h]; exact hs
  | some B =>
    obtain ⟨a, b, c⟩ := hs
    exact ⟨by rw [h]; exact a, by rw [h3]; exact b, by rw [h3]; exact c⟩
/-- nothing that counts has changed -/
theorem CR_fr {σ σ1 : Mem} {t : ST} (h : ∀ q, q < 304 → (q < 294 ∨ 298 < q) → q ≠ 302 → σ1 q = σ q) (h1 : σ1 302 1 = σ 302 1) (hc : CR σ t) : CR σ1 t := by
  obtain ⟨⟨a1, a2⟩, ⟨b1, b2, b3⟩, c, d1, d2⟩ := hc
  exact ⟨⟨WS_fr (fun q x y => h q (by omega) (by omega) (by omega)) a1, by rw [← a2]; exact aC_fr (fun q x y => h q (by omega) (by omega) (by omega))⟩, ⟨hsW_fr (fun q x y => h q (by omega) (by omega) (by omega)) (h _ (by omega) (by omega) (by omega)) b1, by rw [h _ (by omega) (by omega) (by omega)]; exact b2, fun j hj => by rw [hsC_fr (fun q x y => h q (by omega) (by omega) (by omega)) (h _ (by omega) (by omega) (by omega)) j]; exact b3 j hj⟩, snC_fr (fun q x y => h q (by omega) (by omega) (by omega)) (h _ (by omega) (by omega) (by omega)) c, h1.trans d1, fun x hx => by rw [h _ (by omega) (by omega) (by omega)]; exact d2 x hx⟩
theorem CR_frM {σ σ1 : Mem} {t : ST} (h : frM σ σ1) (hc : CR σ t) : CR σ1 t := CR_fr (fun q a _ _ => h q (by omega)) (by rw [h _ (by omega)]) hc
theorem MR_fr {σ σ1 : Mem} {t : ST} (h : ∀ q, 306 ≤ q → q ≠ 307 → σ1 q = σ q) (h1 : ∀ x, x < 1110 → σ1 307 x = σ 307 x) (hc : MR σ t) : MR σ1 t := by
  obtain ⟨⟨a1, a2⟩, ⟨b1, b2⟩, c, d1, d2⟩ := hc
  have e306 := h 306 (by omega) (by omega)
  have ehm : ∀ k, hM σ1 k = hM σ k := fun k => by unfold hM; rw [h 308 (by omega) (by omega)]
  exact ⟨⟨WM_fr2 a1 h1, by rw [← a2]; exact aM_fr a1 h1⟩, ⟨by rw [e306]; exact b1, fun j hj => by rw [ehm]; exact b2 j hj⟩, snM_fr (by rw [e306]) (h _ (by omega) (by omega)) c, by rw [e306]; exact d1, fun x hx => by rw [h _ (by omega) (by omega)]; exact d2 x hx⟩
theorem MR_frC {σ σ1 : Mem} {t : ST} (h : frC σ σ1) (hc : MR σ t) : MR σ1 t := MR_fr (fun q a _ => h q a) (fun x _ => by rw [h _ (by omega)]) hc
/-- the present state changes -/
theorem CR_st {σ σ1 : Mem} {t : ST} {A : AS} (hc : CR σ t) (h : S1 0 A σ σ1) : CR σ1 (setA t A) := by
  obtain ⟨⟨a1, a2⟩, ⟨b1, b2, b3⟩, c, d1, d2⟩ := hc
  have f : ∀ q, 48 < q → σ1 q = σ q := fun q hq => h.2.2 q (by omega)
  exact ⟨⟨h.2.1, h.1⟩, ⟨hsW_fr (fun q x y => f q (by omega)) (f _ (by omega)) b1, by rw [f _ (by omega)]; exact b2, fun j hj => by rw [hsC_fr (fun q x y => f q (by omega)) (f _ (by omega)) j]; exact b3 j hj⟩, snC_fr (fun q x y => f q (by omega)) (f _ (by omega)) c, by rw [f _ (by omega)]; exact d1, fun x hx => by rw [f _ (by omega)]; exact d2 x hx⟩
theorem S1_frC {A : AS} {σ σ1 : Mem} (h : S1 0 A σ σ1) : frC σ σ1 := fun q hq => h.2.2 q (by omega)
theorem MR_st {σ σ1 : Mem} {t : ST} {A : AS} (hc : MR σ t) (h : M2 A σ σ1) : MR σ1 (setA t A) := by
  obtain ⟨⟨a1, a2⟩, ⟨b1, b2⟩, c, d1, d2⟩ := hc
  have f := h.1
  have ehm : ∀ k, hM σ1 k = hM σ k := fun k => by unfold hM; rw [f 308 (by omega)]
  exact ⟨⟨h.2.2, h.2.1⟩, ⟨by rw [f _ (by omega)]; exact b1, fun j hj => by rw [ehm]; exact b2 j hj⟩, snM_fr (by rw [f _ (by omega)]) (f _ (by omega)) c, by rw [f _ (by omega)]; exact d1, fun x hx => by rw [f _ (by omega)]; exact d2 x hx⟩
theorem M2_frM {A : AS} {σ σ1 : Mem} (h : M2 A σ σ1) : frM σ σ1 := fun q hq => h.1 q (by omega)
theorem nI_ix {x : Int32} {n : Nat} (h : x = nI n) (hn : n < 2 ^ 31) : ix x = n := by rw [h, ixn hn]
theorem up4_le {n : Nat} : up4 n ≤ 4 := by unfold up4; split <;> omega
theorem c_remember {σ : Mem} {t : ST} {K : Mem → Prop} (hc : CR σ t) (ho : okT t) (h : ∀ σ1, CR σ1 (psA t) → frC σ σ1 → K σ1) : w_X0_remember 0 σ K := by
  obtain ⟨⟨a1, a2⟩, ⟨b1, b2, b3⟩, c, d1, d2⟩ := hc
  have hn := ho.2.1.1
  have i2 : ix (σ 300 2) = tN t := nI_ix b2 (by omega)
  refine s_remember a1 b1 (fun σ1 f g1 g2 g3 g4 => h σ1 ⟨⟨WS_fr (fun q x y => f q (by omega) (by omega)) a1, ?_⟩, ⟨g1, ?_, fun j hj => ?_⟩, snC_fr (fun q x y => f q (by omega) (by omega)) (f _ (by omega) (by omega)) c, by rw [f _ (by omega) (by omega)]; exact d1, fun x hx => by rw [f _ (by omega) (by omega)]; exact d2 x hx⟩ (fun q hq => f q (by omega) (by omega)))
  · rw [aC_fr (fun q x y => f q (by omega) (by omega))]; exact a2
  · obtain ⟨⟨nx, kn, y1, y2, y3, y4⟩, -⟩ := id g1
    rw [i2] at g2
    rw [nI_ix y2 (by omega)] at g2
    rw [y2, g2]; rfl
  · replace hj : j < up4 (tN t) := hj
    show hsC σ1 j = if j = 0 then tA t else tH t (j - 1)
    cases j with
    | zero => rw [if_pos rfl, g3, a2]
    | succ j =>
      rw [if_neg (by omega)]
      have hj2 : j < tN t ∧ j < 3 := by unfold up4 at hj; split at hj <;> omega
      rw [g4 j hj2.2 (by rw [i2]; exact hj2.1), b3 j hj2.1]; rfl
theorem m_recordT {σ : Mem} {t : ST} {K : Mem → Prop} (hc : MR σ t) (ho : okT t) (h : ∀ σ1, MR σ1 (psA t) → frM σ σ1 → K σ1) : w_X7_record σ K := by
  obtain ⟨⟨a1, a2⟩, ⟨b1, b2⟩, c, d1, d2⟩ := hc
  have hn := ho.2.1.1
  refine m_record hn b1 (fun σ1 e1 e2 e3 e40 e5 => h σ1 ⟨⟨by rw [e1 _ (by omega) (by omega)]; exact a1, by rw [e1 _ (by omega) (by omega)]; exact a2⟩, ⟨e3, fun j hj => ?_⟩, snM_fr (e2 _ (by omega)) (e1 _ (by omega) (by omega)) c, by rw [e2 _ (by omega)]; exact d1, fun x hx => by rw [e1 _ (by omega) (by omega)]; exact d2 x hx⟩ (fun q hq => e1 q (by omega) (by omega)))
  replace hj : j < up4 (tN t) := hj
  show WM (hM σ1 (up4 (tN t) - 1 - j)) ∧ aM (hM σ1 (up4 (tN t) - 1 - j)) = if j = 0 then tA t else tH t (j - 1)
  cases j with
  | zero =>
    rw [Nat.sub_zero, if_pos rfl]
    exact ⟨WM_fr2 a1 e40, by rw [← a2]; exact aM_fr a1 e40⟩
  | succ j =>
    rw [if_neg (by omega)]
    have hj2 : j < tN t ∧ j < 3 := by unfold up4 at hj; split at hj <;> omega
    have ee := e5 j hj2.2 hj2.1
    obtain ⟨p, q⟩ := b2 j hj2.1
    exact ⟨WM_fr2 p ee, by rw [aM_fr p ee, q]; rfl⟩
theorem ok_ps {t : ST} (h : okT t) : okT (psA t) := by
  obtain ⟨a, ⟨b, c⟩, d, e⟩ := h
  refine ⟨a, ⟨up4_le, fun j hj => ?_⟩, d, e⟩
  show okA (if j = 0 then tA t else tH t (j - 1))
  by_cases h0 : j = 0
  · rw [if_pos h0]; exact a
  · rw [if_neg h0]
    refine c _ ?_
    replace hj : j < up4 (tN t) := hj
    unfold up4 at hj
    split at hj <;> omega
theorem ok_set {t : ST} {A : AS} (h : okT t) (hA : okA A) : okT (setA t A) := ⟨hA, h.2⟩
