theorem m_copies_raw {s o : Nat} {σ : Mem} {K : Mem → Prop} (hs : s ≤ 8) (ho : o ≤ 8) (hso : s ≠ o) (h : ∀ σ1, (∀ q, q ≠ 307 → σ1 q = σ q) → (∀ x, x < 134 → σ1 307 (bs o + x) = σ 307 (bs s + x)) → (∀ x, (x < bs o ∨ bs o + 133 < x) → σ1 307 x = σ 307 x) → K σ1) : w_X7_copies (nI s) (nI o) σ K :=
  ⟨135, m_copies_loop hs ho hso h 134 0 σ rfl (fun _ _ => rfl) (fun x hx => absurd hx (Nat.not_lt_zero x)) (fun _ _ => rfl)⟩
theorem m_present {kp : Nat} {σ : Mem} {K : Int32 → Mem → Prop} (hk : σ 307 1076 = nI kp) (h1 : 1 ≤ kp) (h : K (nI (3 + kp)) σ) : w_X7_present σ K := by
  refine ⟨vil (i := 1076) (by omega), ?_⟩
  rw [show ix (1076 : Int32) = 1076 from rfl, hk, show (4 : Int32) = nI 4 from rfl, nI_add, show 4 + kp = 3 + kp + 1 by omega, nI_pred]
  exact h
/-- a new present block -/
theorem m_flows_66 {kp l : Nat} {w : Int32} {f : Nat → Int32} {σ : Mem} {K : Mem → Prop} (hl : l < 26) (hw0 : WM f) (ho : okA (aM f)) (har : ¬ aAr (aM f) < 8)
    (hkp : kp = if ix (f 1076) < 4 then ix (f 1076) + 1 else 4) (h76 : σ 307 1076 = nI kp) (hlow : ∀ x, x < 536 → σ 307 x = f x) (hhi : ∀ x, 1072 ≤ x → x < 1110 → x ≠ 1076 → σ 307 x = f x)
    (hbl : ∀ j, j + 1 < kp → vM (σ 307) (bs (4 + j)) = bgn (aBl (aM f)) (ix (f 1076)) j ∧ σ 307 (bs (4 + j) + 3) = 8) (hb : ∀ s, s < 8 → hbM (σ 307) (bs s)) (h4 : ∀ i, i < 4 → σ 307 (bs (4 + i)) = 4)
    (hw1 : 0 ≤ w.toInt) (hw2 : w.toInt ≤ 99)
    (h : ∀ σ1, M2 (brW (begA (aM f)) l w) σ σ1 → K σ1) : w_X7_flows_66 (nI l) w K σ := by
  obtain ⟨kp0, k1, k2, k3, k4⟩ := WM_kp hw0
  obtain ⟨kn, b1, b2⟩ := id hw0.2.2.1
  rw [k2] at hkp hbl
  have hkp1 : 1 ≤ kp ∧ kp ≤ 4 := by rw [hkp]; split <;> omega
  have hbk : bs (3 + kp) = 134 * (3 + kp) := bs7 (by omega)
  unfold w_X7_flows_66
  refine m_present h76 (by omega) (m_empties (by omega) (fun σ1 e1 e2 e3 e40 e5 => ⟨vil (i := 1075) (by omega), vil (i := 1075) (by omega), ?_⟩))
  rw [show ix (1075 : Int32) = 1075 from rfl]
  rintro σ2 f1
  refine ⟨vil (i := 1075) (by omega), ?_⟩
  have g2 : ∀ x, x ≠ 1075 → σ2 307 x = σ1 307 x := fun x hx => by rw [f1, mu_k]; simp only [upd, if_neg hx]
  have g75 : σ2 307 1075 = f 1075 + 1 := by rw [f1, mu_k]; simp only [upd, if_true]; rw [e5 _ (by omega), hhi _ (by omega) (by omega) (by omega)]
  have k77 : σ2 307 1077 = nI kn := by rw [g2 _ (by omega), e5 _ (by omega), hhi _ (by omega) (by omega) (by omega), b1]
  refine m_tells k77 b2 (fun σ3 t1 => ?_)
  obtain ⟨t1, t2, t3, t4⟩ := t1
  have fr : ∀ x, x < 1072 → (x < bs (3 + kp) ∨ bs (3 + kp) + 133 < x) → σ3 307 x = σ 307 x := fun x p q => by rw [t4 x (by omega), g2 x (by omega), e5 x q]
  have fp : ∀ x, x < 1072 → σ3 307 x = σ1 307 x := fun x p => by rw [t4 x (by omega), g2 x (by omega)]
  have h76' : σ3 307 1076 = nI kp := by rw [t4 _ (by omega), g2 _ (by omega), e5 _ (by omega), h76]
  have i76 : ix (σ3 307 1076) = kp := by rw [h76', ixn (by omega)]
  have vf : ∀ s, s < 8 → s ≠ 3 + kp → vM (σ3 307) (bs s) = vM (σ 307) (bs s) := fun s hs hne => vM_ext (fun x hx _ => by
    have := bs_ap (s := s) (o := 3 + kp) (by omega) (by omega) hne
    have := bs7 hs
    exact fr _ (by omega) (by omega))
  have vp : vM (σ3 307) (bs (3 + kp)) = e4 := by
    have : vM (σ3 307) (bs (3 + kp)) = vM (σ1 307) (bs (3 + kp)) := vM_ext (fun x hx _ => fp _ (by omega))
    rw [this, e2]
    have h44 := h4 (kp - 1) (by omega)
    rw [show 4 + (kp - 1) = 3 + kp by omega] at h44
    have : sZ (vM (σ 307) (bs (3 + kp))) = 4 := h44
    unfold emp
    rw [this]; rfl
  have lgf : lgM (σ2 307) = lgM f := lgM_fr (fun x p q => by rw [g2 x (by omega), e5 x (by omega), hhi x (by omega) (by omega) (by omega)]) (by rw [b1, ixn (by omega)]; exact b2)
  have ek : ix (aKp (aM f)) = kp0 := k2
  have hA : aM (σ3 307) = begA (aM f) := by
    refine as_ext ?_ ?_ ?_ ?_ ?_ ?_ ?_ ?_ ?_
    · funext i
      show (if i < 4 then vM (σ3 307) (bs i) else z0) = (if i < 4 then vM f (bs i) else z0)
      by_cases hi : i < 4
      · rw [if_pos hi, if_pos hi, vf i (by omega) (by omega)]
        exact vM_ext (fun x hx _ => hlow _ (by rw [bs7 (by omega)]; omega))
      · rw [if_neg hi, if_neg hi]
    · funext i
      show (if i < ix (σ3 307 1076) then vM (σ3 307) (bs (4 + i)) else z0) = bgn (aBl (aM f)) (ix (aKp (aM f))) i
      rw [i76, ek]
      by_cases hi : i + 1 < kp
      · rw [if_pos (by omega), vf _ (by omega) (by omega)]
        exact (hbl i hi).1
      · by_cases hi2 : i + 1 = kp
        · rw [if_pos (by omega), show 4 + i = 3 + kp by omega, vp]
          unfold bgn
          by_cases hk : kp0 < 4
          · rw [if_pos hk] at hkp ⊢
            rw [if_pos (by omega)]
          · rw [if_neg hk] at hkp ⊢
            rw [if_pos (by omega)]
        · rw [if_neg (by omega)]
          unfold bgn
          by_cases hk : kp0 < 4
          · rw [if_pos hk] at hkp ⊢
            rw [if_neg (by omega)]
            exact (if_neg (by rw [k2]; omega)).symm
          · rw [if_neg hk] at hkp ⊢
            rw [if_neg (by omega), if_neg (by omega)]
    · show σ3 307 1076 = nI (if ix (aKp (aM f)) < 4 then ix (aKp (aM f)) + 1 else 4)
      rw [h76', ek, hkp]
    · show σ3 307 1075 = f 1075 + 1
      rw [t4 _ (by omega), g75]
    · show σ3 307 (bs (3 + ix (σ3 307 1076)) + 3) = 0
      rw [i76, fp _ (by omega), e40]
    · show lgM (σ3 307) = psh (2, 4, f 1075 + 1, f 1072) (lgM f)
      rw [t2, lgf, g75, g2 1072 (by omega), e5 _ (by omega), hhi 1072 (by omega) (by omega) (by omega)]
      rfl
    · show σ3 307 1072 = f 1072
      rw [t4 _ (by omega), g2 _ (by omega), e5 _ (by omega), hhi _ (by omega) (by omega) (by omega)]
    · show σ3 307 1073 = f 1073
      rw [t4 _ (by omega), g2 _ (by omega), e5 _ (by omega), hhi _ (by omega) (by omega) (by omega)]
    · show σ3 307 1074 = f 1074
      rw [t4 _ (by omega), g2 _ (by omega), e5 _ (by omega), hhi _ (by omega) (by omega) (by omega)]
  have hW : WM (σ3 307) := by
    refine ⟨fun s hs => ?_, ⟨kp, 0, h76', by rw [fp _ (by omega), e40]; rfl, by omega, by omega, by omega, fun i hi => ?_⟩, t3, fun i hi => ?_⟩
    · by_cases hsi : s = 3 + kp
      · rw [hsi]; exact hbM_ext (fun x hx _ => fp _ (by omega)) e3
      · refine hbM_ext (fun x hx _ => ?_) (hb s hs)
        have := bs_ap (s := s) (o := 3 + kp) (by omega) (by omega) hsi
        have := bs7 hs
        exact fr _ (by omega) (by omega)
    · have := bs_ap (s := 4 + i) (o := 3 + kp) (by omega) (by omega) (by omega)
      have := bs7 (s := 4 + i) (by omega)
      rw [fr _ (by omega) (by omega)]; exact (hbl i hi).2
    · by_cases hii : 4 + i = 3 + kp
      · rw [hii]; exact congrArg sZ vp
      · have := bs_ap (s := 4 + i) (o := 3 + kp) (by omega) (by omega) hii
        have := bs7 (s := 4 + i) (by omega)
        rw [fr _ (by omega) (by omega)]; exact h4 i hi
  refine m_present h76' (by omega) (m_bringW h76' (by omega) hl hW (by rw [hA]; exact ok_beg ho har) (by rw [hA]; show (0 : Int32) < 8; decide) (fun σ4 m4 => h σ4 ?_))
  rw [hA] at m4
  exact ⟨fun q hq => by rw [m4.1 q hq, t1 q hq, f1, mu_o hq, e1 q hq], m4.2⟩
theorem m_flows_28 {l : Nat} {w : Int32} {f : Nat → Int32} {K : Mem → Prop} (hl : l < 26) (hw0 : WM f) (ho : okA (aM f)) (har : ¬ aAr (aM f) < 8) (h8 : f (bs 7 + 3) = 8) (hk4 : f 1076 = 4) (hw1 : 0 ≤ w.toInt) (hw2 : w.toInt ≤ 99) {σ0 : Mem}
    (h : ∀ σ1, M2 (brW (begA (aM f)) l w) σ0 σ1 → K σ1) : ∀ d i (σ : Mem), i + d = 3 → (∀ q, q ≠ 307 → σ q = σ0 q) → (∀ s x, s < 4 + i → 4 ≤ s → x < 134 → x ≠ 3 → σ 307 (bs s + x) = f (bs (s + 1) + x)) → (∀ s, s < 4 + i → 4 ≤ s → σ 307 (bs s + 3) = 8) → (∀ x, (x < 536 ∨ bs (4 + i) ≤ x) → σ 307 x = f x) → w_X7_flows_28 (nI l) w K (d + 1) (nI i) σ := by
  obtain ⟨-, ⟨kp0, ar0, q1, q2, q3, q4, q5, q6⟩, -, q7⟩ := id hw0
  have hkk : kp0 = 4 := (nI_eq (by omega) (by omega)).mp (q1.symm.trans hk4)
  have k2 : ix (f 1076) = 4 := by rw [hk4]; rfl
  intro d
  induction d with
  | zero =>
    intro i σ hi hq hA hB hC
    rw [w_X7_flows_28]
    obtain rfl : i = 3 := by omega
    have hb7 : bs (4 + 3) = 938 := rfl
    refine ⟨fun _ => m_flows_66 (kp := 4) hl hw0 ho har (by rw [k2]; rfl) (by rw [hC _ (by omega), hk4]; rfl) (fun x hx => hC x (by omega)) (fun x a b c => hC x (by omega)) (fun j hj => ⟨?_, hB _ (by omega) (by omega)⟩) (fun s hs => ?_) (fun i hi => ?_) hw1 hw2 (fun σ1 m => h σ1 ⟨fun q hq2 => by rw [m.1 q hq2, hq q hq2], m.2⟩), fun hc => absurd (nI_le (a := 3) (Nat.le_refl _) (by omega)) hc⟩
    · rw [k2]
      unfold bgn
      rw [if_neg (by omega), if_neg (by omega), if_pos (by omega), aM_bl (by rw [k2]; omega)]
      exact vM_ext (fun x hx hne => by rw [hA _ _ (by omega) (by omega) hx hne]; rfl)
    · by_cases h4 : s < 4
      · exact hbM_ext (fun x hx _ => hC _ (by rw [bs7 hs]; omega)) (hw0.1 s hs)
      · by_cases h7 : s < 7
        · exact hbM_ext (fun x hx hne => hA s x (by omega) (by omega) hx hne) (hw0.1 (s + 1) (by omega))
        · exact hbM_ext (fun x hx _ => hC _ (by rw [bs7 hs]; omega)) (hw0.1 s hs)
    · by_cases h3 : i < 3
      · have := hA (4 + i) 0 (by omega) (by omega) (by omega) (by omega)
        exact this.trans (q7 (i + 1) (by omega))
      · have := hC (bs (4 + i)) (by rw [bs7 (by omega)]; omega)
        exact this.trans (q7 i hi)
  | succ d ih =>
    intro i σ hi hq hA hB hC
    rw [w_X7_flows_28]
    refine ⟨fun hc => absurd hc (nI_ge (b := 3) (by omega) (by omega)), fun _ => ?_⟩
    have hbi : bs (4 + i) = 134 * (4 + i) := bs7 (by omega)
    have hbi1 : bs (4 + i + 1) = 134 * (4 + i + 1) := bs7 (by omega)
    rw [show (4 : Int32) = nI 4 from rfl, nI_add, nI_1]
    refine m_copies_raw (by omega) (by omega) (by omega) (fun σ1 e1 e2 e3 => ?_)
    rw [nI_1]
    have h3 : f (bs (4 + i + 1) + 3) = 8 := by
      by_cases hi2 : i = 2
      · subst hi2; exact h8
      · exact q6 (i + 1) (by omega)
    refine ih (i + 1) σ1 (by omega) (fun q hq2 => by rw [e1 q hq2, hq q hq2]) (fun s x p1 p2 p3 p4 => ?_) (fun s p1 p2 => ?_) (fun x hx => ?_)
    · have hbs := bs7 (s := s) (by omega)
      by_cases hs : s = 4 + i
      · subst hs; rw [e2 x p3, hC _ (by omega)]
      · rw [e3 _ (by omega)]; exact hA s x (by omega) p2 p3 p4
    · have hbs := bs7 (s := s) (by omega)
      by_cases hs : s = 4 + i
      · subst hs; rw [e2 3 (by omega), hC _ (by omega)]; exact h3
      · rw [e3 _ (by omega)]; exact hB s (by omega) p2
    · rw [show 4 + (i + 1) = 4 + i + 1 by omega] at hx
      rw [e3 _ (by omega)]; exact hC x (by omega)
theorem m_flows {l : Nat} {w : Int32} {σ : Mem} {K : Mem → Prop} (hl : l < 26) (hw : WM (σ 307)) (ho : okA (aM (σ 307))) (hw1 : 0 ≤ w.toInt) (hw2 : w.toInt ≤ 99) (h : ∀ σ1, M2 (flA (aM (σ 307)) l w) σ σ1 → K σ1) : w_X7_flows (nI l) w σ K := by
  obtain ⟨hb, ⟨kp, ar, q1, q2, q3, q4, q5, q6⟩, ⟨kn, b1, b2⟩, q7⟩ := id hw
  have k2 : ix (σ 307 1076) = kp := by rw [q1, ixn (by omega)]
  have hbk : bs (3 + kp) = 134 * (3 + kp) := bs7 (by omega)
  have eA : aAr (aM (σ 307)) = nI ar := by show σ 307 (bs (3 + ix (σ 307 1076)) + 3) = _; rw [k2, q2]
  refine m_present q1 q3 (m_of 3 (by omega) (by omega) ?_)
  rw [q2]
  unfold flA at h
  rw [eA] at h
  refine ⟨fun hc => ?_, fun hc => ?_⟩
  · have hc2 : ar = 8 := (nI_eq (by omega) (by omega)).mp hc
    have hn : ¬ nI ar < 8 := fun q => by have := (ar8 ar q5).mp q; omega
    rw [if_neg hn] at h
    have hn' : ¬ aAr (aM (σ 307)) < 8 := by rw [eA]; exact hn
    refine ⟨vil (i := 1076) (by omega), ?_⟩
    rw [show ix (1076 : Int32) = 1076 from rfl]
    refine ⟨fun hz => ⟨4, ?_⟩, fun hz => ⟨vil (i := 1076) (by omega), vil (i := 1076) (by omega), ?_⟩⟩
    · have hk4 : kp = 4 := (nI_eq (by omega) (by omega)).mp (q1.symm.trans hz)
      subst hk4
      exact m_flows_28 hl hw ho hn' (q2.trans (by rw [hc2]; rfl)) hz hw1 hw2 h 3 0 σ rfl (fun _ _ => rfl) (fun s x p1 p2 => absurd p1 (by omega)) (fun s p1 p2 => absurd p1 (by omega)) (fun _ _ => rfl)
    · have hk4 : kp < 4 := by
        rcases Nat.lt_or_ge kp 4 with hh | hh
        · exact hh
        · exact absurd (by rw [q1, show kp = 4 by omega]; rfl) hz
      rintro σ1 e1
      have g : ∀ x, x ≠ 1076 → σ1 307 x = σ 307 x := fun x hx => by rw [e1, mu_k]; simp only [upd, if_neg hx]
      refine m_flows_66 (kp := kp + 1) hl hw ho hn' (by rw [k2, if_pos hk4]) (by rw [e1, mu_k]; simp only [upd, if_true]; rw [q1, nI_1]) (fun x hx => g x (by omega)) (fun x a b c => g x c) (fun j hj => ⟨?_, ?_⟩) (fun s hs => ?_) (fun i hi => ?_) hw1 hw2 (fun σ2 m => h σ2 ⟨fun q hq2 => by rw [m.1 q hq2, e1, mu_o hq2], m.2⟩)
      · rw [k2]
        unfold bgn
        rw [if_pos hk4, if_neg (by omega), aM_bl (by rw [k2]; omega)]
        exact vM_ext (fun x hx _ => g _ (by rw [bs7 (by omega)]; omega))
      · rw [g _ (by rw [bs7 (by omega)]; omega)]
        by_cases hj2 : j + 1 < kp
        · exact q6 j hj2
        · rw [show 4 + j = 3 + kp by omega, q2, hc2]; rfl
      · exact hbM_ext (fun x hx _ => g _ (by rw [bs7 hs]; omega)) (hb s hs)
      · rw [g _ (by rw [bs7 (by omega)]; omega)]; exact q7 i hi
  · have hc2 : ar < 8 := by
      rcases Nat.lt_or_ge ar 8 with hh | hh
      · exact hh
      · exact absurd (by rw [show ar = 8 by omega]; rfl) hc
    have hn : nI ar < 8 := (ar8 ar q5).mpr hc2
    rw [if_pos hn] at h
    exact m_present q1 q3 (m_bringW q1 q4 hl hw ho (by rw [eA]; exact hn) h)
