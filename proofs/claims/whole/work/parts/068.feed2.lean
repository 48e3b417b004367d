
theorem m_feed_loop {i n m : Nat} {T : Nat → Int32} {A : AS} {u : ST} {σ : Mem} {K : Int32 → Mem → Prop} (hi : i < 4) (hn : n ≤ 60) (hm : m ≤ 31) (hd : ∀ j, j < m → dg n T 97 122 (pS n T j) = true) (hok : ∀ k, k ≤ m → okA (fdS A i n T k)) (h : ∀ σ1, MR σ1 (setA u (fdS A i n T m)) → frM σ σ1 → K (nI m) σ1) :
    ∀ d k (σ1 : Mem), k + d = m → MR σ1 (setA u (fdS A i n T k)) → frM σ σ1 → TM n T (pS n T k) σ1 → w_X7_feed_58 (nI i) K (d + 1) (nI m) (nI k) σ1 := by
  intro d
  induction d with
  | zero =>
    intro k σ1 hk hc hf ht
    rw [w_X7_feed_58]
    obtain rfl : k = m := by omega
    exact br_i (fun _ => h σ1 hc hf) (fun hc => absurd (nI_le (Nat.le_refl _) (by omega)) hc)
  | succ d ih =>
    intro k σ1 hk hc hf ht
    rw [w_X7_feed_58]
    obtain ⟨l, l1, l2, l3⟩ := aL_n (hd k (by omega))
    have hp4 := pS_2 (n := n) (T := T) k
    refine br_i (fun hc => absurd hc (nI_ge (by omega) (by omega))) (fun _ => m_takesA hn ht (by omega) (fun q => by rw [hd k (by omega)] at q; cases q) (fun _ σ3 x3 t3 g8 g9 g10 => ?_))
    rintro σ4 e4
    have x4 : XM σ3 σ4 := by rw [e4]; exact XM_mu (by omega)
    have k7 : σ4 306 7 = nI (pS n T (k + 1)) := by rw [e4, mu_k]; simp only [upd, if_true]; rw [t3.2.2, nI_1]; rfl
    have k8 : σ4 306 8 = aL n T k := by rw [e4, mu_k]; simp only [upd]; rw [if_neg (by omega)]; exact g8
    have k9 : σ4 306 9 = aW n T k := by rw [e4, mu_k]; simp only [upd]; rw [if_neg (by omega)]; exact g9
    have xx := x3.tr x4
    have c4 := MR_XM xx hc
    have t4 := ht.x xx k7
    rw [k8, k9, l2]
    refine m_bringS hi l1 c4.1.1 (by rw [c4.1.2]; exact hok k (by omega)) (fun σ5 h5 => ?_)
    have c5 := MR_st c4 h5
    have e : brS (aM (σ4 307)) i l (aW n T k) = fdS A i n T (k + 1) := by
      rw [c4.1.2]
      show brS (fdS A i n T k) i l (aW n T k) = brS (fdS A i n T k) i (ix (aL n T k)) (aW n T k)
      rw [l3]
    rw [e] at c5
    rw [nI_1]
    refine ih (k + 1) σ5 (by omega) c5 ((hf.tr (XM_frM xx)).tr (M2_frM h5)) ⟨?_, fun x hx => ?_, ?_⟩
    · rw [h5.1 _ (by omega)]; exact t4.1
    · rw [h5.1 _ (by omega)]; exact t4.2.1 x hx
    · rw [h5.1 _ (by omega)]; exact k7
theorem m_feed (a1 : Int32) (σ : Mem) (t : ST) (K : Int32 → Mem → Prop) (hc : MR σ t) (ho : okT t) (h : ∀ r t', f_feed a1 t = (r, t') → ∀ σ1, MR σ1 t' → frM σ σ1 → K r σ1) : w_X7_feed a1 σ K := by
  unfold w_X7_feed
  have hn := ho.2.2.2.1
  refine m_isSm (br_b (fun h1 => h _ _ (by simp [f_feed, h1]) σ hc frM.rf) (fun h1 => ?_))
  obtain ⟨i, hi, e1, e2⟩ := sm4_n h1
  refine m_arr hn hc.2.2.2.1 hc.2.2.2.2 (fun p σ1 hR hX h7 => br_i (fun _ => ?_) (fun q => absurd rfl q)) (fun m σ1 hR hm hX h10 => br_i (fun q => absurd q (ne5 (by omega))) (fun _ => ?_))
  · rw [h7]
    exact h _ t (by unfold f_feed; rw [if_pos h1, hR]) σ1 (MR_XM hX hc) (XM_frM hX)
  · have c1 := MR_XM hX hc
    have hd := fun j hj => prs_dg 31 0 hR j (Nat.zero_le _) hj
    rw [e1]
    refine m_of 2 (by omega) (by omega) ?_
    rw [m_sum c1 hi, h10]
    refine br_i (fun hs => m_recordT c1 ho (fun σ2 c2 g2 => ?_)) (fun hs => ?_)
    · rintro σ3 e3
      have x3 : XM σ2 σ3 := by rw [e3]; exact XM_mu (by omega)
      have c3 := MR_XM x3 c2
      refine ⟨m + 1, m_feed_loop (σ := σ3) (A := tA t) (u := psA t) hi hn hm hd (fun k hk => (ok_fdS ho.1 hi hd hm hs k hk).1) (fun σ4 c4 g4 => ?_) m 0 σ3 (by omega) c3 frM.rf ⟨c3.2.2.2.1, c3.2.2.2.2, ?_⟩⟩
      · exact h _ _ (by unfold f_feed; rw [if_pos h1, hR]; dsimp only; rw [e2, if_pos hs]) σ4 c4 ((XM_frM hX).tr (g2.tr ((XM_frM x3).tr g4)))
      · rw [e3, mu_k]; simp [upd, pS]; rfl
    · exact h _ t (by unfold f_feed; rw [if_pos h1, hR]; dsimp only; rw [e2, if_neg hs]) σ1 c1 (XM_frM hX)
theorem ok_feed (a1 : Int32) (t : ST) (ho : okT t) : okT (f_feed a1 t).2 := by
  unfold f_feed
  split
  · rename_i h1
    obtain ⟨i, hi, e1, e2⟩ := sm4_n h1
    split
    · exact ho
    · rename_i m hR
      split
      · rename_i hs
        rw [e2] at hs ⊢
        exact ok_set (ok_ps ho) (ok_fdS ho.1 hi (fun j hj => prs_dg 31 0 hR j (Nat.zero_le _) hj) (by have := prs_m 31 0 hR; omega) hs m (Nat.le_refl _)).1
      · exact ho
  · exact ho
theorem x_feed (a1 : Int32) {σ : Mem} (hi : Inv σ) : w_X6_feed a1 σ (fun r σ1 => w_X7_feed a1 σ1 (fun r2 σ2 => r = r2 ∧ Inv σ2)) :=
  glue (f := f_feed a1) (C := w_X6_feed a1) (M := w_X7_feed a1) (c_feed a1) (m_feed a1) (ok_feed a1) hi
/-! flowAll -/
def f_flowAll (t : ST) : Int32 × ST := match prs (tT t) (tX t) 31 0 with
  | (true, p) => (-100 - nI p, t)
  | (false, m) => (nI m, setA (psA t) (fdW (tA t) (tT t) (tX t) m))
theorem prs_p {n : Nat} {T : Nat → Int32} {p : Nat} (hn : n ≤ 60) : ∀ d k, pS n T k ≤ n → prs n T d k = (true, p) → p ≤ 60 := by
  intro d
  induction d with
  | zero => intro k _ hh; cases hh; omega
  | succ d ih =>
    intro k hk hh
    rw [prs] at hh
    split at hh
    · split at hh
      · cases hh
      · split at hh
        · exact ih (k + 1) (by show aE _ _ _ + 1 ≤ _; omega) hh
        · cases hh; omega
    · cases hh; omega
theorem c_fl_loop {n m : Nat} {T : Nat → Int32} {A : AS} {u : ST} {σ : Mem} {K : Int32 → Mem → Prop} (hm : m ≤ 31) (hd : ∀ j, j < m → dg n T 97 122 (pS n T j) = true) (h : ∀ σ1, CR σ1 (setA u (fdW A n T m)) → frC σ σ1 → K (nI m) σ1) :
    ∀ d k (σ1 : Mem), k + d = m → CR σ1 (setA u (fdW A n T k)) → frC σ σ1 → σ1 302 4 = nI m → (∀ j, j < m → σ1 304 j = aL n T j ∧ σ1 305 j = aW n T j) → w_X6_flowAll_31 K (d + 1) (nI k) σ1 := by
  intro d
  induction d with
  | zero =>
    intro k σ1 hk hc hf h4 hj
    rw [w_X6_flowAll_31, h4]
    obtain rfl : k = m := by omega
    exact br_i (fun _ => h σ1 hc hf) (fun hc => absurd (nI_le (Nat.le_refl _) (by omega)) hc)
  | succ d ih =>
    intro k σ1 hk hc hf h4 hj
    rw [w_X6_flowAll_31, h4]
    obtain ⟨l, l1, l2, l3⟩ := aL_n (hd k (by omega))
    refine br_i (fun hc => absurd hc (nI_ge (by omega) (by omega))) (fun _ => ⟨vi (by omega), vi (by omega), ?_⟩)
    rw [ixn (show k < 2 ^ 31 by omega), (hj k (by omega)).1, (hj k (by omega)).2, l2]
    refine s_flow (b := 0) l1 hc.1.1 (fun σ2 h5 => ?_)
    have c2 := CR_st hc h5
    rw [nI_1]
    have e : flA (aC σ1 0) l (aW n T k) = fdW A n T (k + 1) := by
      rw [hc.1.2]
      show flA (fdW A n T k) l (aW n T k) = flA (fdW A n T k) (ix (aL n T k)) (aW n T k)
      rw [l3]
    rw [e] at c2
    have g : ∀ q, 48 < q → σ2 q = σ1 q := fun q hq => h5.2.2 q (by omega)
    exact ih (k + 1) σ2 (by omega) c2 (hf.tr (S1_frC h5)) (by rw [g _ (by omega)]; exact h4) (fun j hj2 => by rw [g _ (by omega), g _ (by omega)]; exact hj j hj2)
theorem c_flowAll (σ : Mem) (t : ST) (K : Int32 → Mem → Prop) (hc : CR σ t) (ho : okT t) (h : ∀ r t', f_flowAll t = (r, t') → ∀ σ1, CR σ1 t' → frC σ σ1 → K r σ1) : w_X6_flowAll σ K := by
  unfold w_X6_flowAll
  refine c_arr (okT_X ho) hc.2.2.2.1 hc.2.2.2.2 (fun p σ1 hR hX => br_i (fun q => absurd q (enc_some (l := p) (by have := prs_p ho.2.2.2.1 31 0 (Nat.zero_le _) hR; omega))) (fun _ => h _ t (by unfold f_flowAll; rw [hR]) σ1 (CR_XC hX hc) (XC_frC hX))) (fun m σ1 hR hm hX h4 hj => br_i (fun _ => ?_) (fun q => absurd rfl q))
  refine c_remember2 (CR_XC hX hc) ho (fun σ2 c2 g2 f2 => ⟨m + 1, ?_⟩)
  refine c_fl_loop (σ := σ2) (A := tA t) (u := psA t) hm (fun j hj2 => (hj j hj2).2.2) (fun σ3 c3 g3 => ?_) m 0 σ2 (by omega) c2 frC.rf (by rw [f2 _ (by omega)]; exact h4) (fun j hj2 => by rw [f2 _ (by omega), f2 _ (by omega)]; exact ⟨(hj j hj2).1, (hj j hj2).2.1⟩)
  exact h _ _ (by unfold f_flowAll; rw [hR]) σ3 c3 ((XC_frC hX).tr (g2.tr g3))
theorem m_fl_loop {n m : Nat} {T : Nat → Int32} {A : AS} {u : ST} {σ : Mem} {K : Int32 → Mem → Prop} (hn : n ≤ 60) (hm : m ≤ 31) (hd : ∀ j, j < m → dg n T 97 122 (pS n T j) = true) (hok : ∀ k, k ≤ m → okA (fdW A n T k)) (h : ∀ σ1, MR σ1 (setA u (fdW A n T m)) → frM σ σ1 → K (nI m) σ1) :
    ∀ d k (σ1 : Mem), k + d = m → MR σ1 (setA u (fdW A n T k)) → frM σ σ1 → TM n T (pS n T k) σ1 → w_X7_flowAll_30 K (d + 1) (nI m) (nI k) σ1 := by
  intro d
  induction d with
  | zero =>
    intro k σ1 hk hc hf ht
    rw [w_X7_flowAll_30]
    obtain rfl : k = m := by omega
    exact br_i (fun _ => h σ1 hc hf) (fun hc => absurd (nI_le (Nat.le_refl _) (by omega)) hc)
  | succ d ih =>
    intro k σ1 hk hc hf ht
    rw [w_X7_flowAll_30]
    obtain ⟨l, l1, l2, l3⟩ := aL_n (hd k (by omega))
    have hp4 := pS_2 (n := n) (T := T) k
    refine br_i (fun hc => absurd hc (nI_ge (by omega) (by omega))) (fun _ => m_takesA hn ht (by omega) (fun q => by rw [hd k (by omega)] at q; cases q) (fun _ σ3 x3 t3 g8 g9 g10 => ?_))
    rintro σ4 e4
    have x4 : XM σ3 σ4 := by rw [e4]; exact XM_mu (by omega)
    have k7 : σ4 306 7 = nI (pS n T (k + 1)) := by rw [e4, mu_k]; simp only [upd, if_true]; rw [t3.2.2, nI_1]; rfl
    have k8 : σ4 306 8 = aL n T k := by rw [e4, mu_k]; simp only [upd]; rw [if_neg (by omega)]; exact g8
    have k9 : σ4 306 9 = aW n T k := by rw [e4, mu_k]; simp only [upd]; rw [if_neg (by omega)]; exact g9
    have xx := x3.tr x4
    have c4 := MR_XM xx hc
    have t4 := ht.x xx k7
    obtain ⟨w1, w2⟩ := wE_1 (n := n) (T := T) (p := pS n T k + 1)
    rw [k8, k9, l2]
    refine m_flows l1 c4.1.1 (by rw [c4.1.2]; exact hok k (by omega)) (by unfold aW; omega) w2 (fun σ5 h5 => ?_)
    have c5 := MR_st c4 h5
    have e : flA (aM (σ4 307)) l (aW n T k) = fdW A n T (k + 1) := by
      rw [c4.1.2]
      show flA (fdW A n T k) l (aW n T k) = flA (fdW A n T k) (ix (aL n T k)) (aW n T k)
      rw [l3]
    rw [e] at c5
    rw [nI_1]
    refine ih (k + 1) σ5 (by omega) c5 ((hf.tr (XM_frM xx)).tr (M2_frM h5)) ⟨?_, fun x hx => ?_, ?_⟩
    · rw [h5.1 _ (by omega)]; exact t4.1
    · rw [h5.1 _ (by omega)]; exact t4.2.1 x hx
    · rw [h5.1 _ (by omega)]; exact k7
theorem m_flowAll (σ : Mem) (t : ST) (K : Int32 → Mem → Prop) (hc : MR σ t) (ho : okT t) (h : ∀ r t', f_flowAll t = (r, t') → ∀ σ1, MR σ1 t' → frM σ σ1 → K r σ1) : w_X7_flowAll σ K := by
  unfold w_X7_flowAll
  have hn := ho.2.2.2.1
  refine m_arr hn hc.2.2.2.1 hc.2.2.2.2 (fun p σ1 hR hX h7 => br_i (fun _ => ?_) (fun q => absurd rfl q)) (fun m σ1 hR hm hX h10 => br_i (fun q => absurd q (ne5 (by omega))) (fun _ => ?_))
  · rw [h7]
    exact h _ t (by unfold f_flowAll; rw [hR]) σ1 (MR_XM hX hc) (XM_frM hX)
  · have hd := fun j hj => prs_dg 31 0 hR j (Nat.zero_le _) hj
    refine m_recordT (MR_XM hX hc) ho (fun σ2 c2 g2 => ?_)
    rintro σ3 e3
    have x3 : XM σ2 σ3 := by rw [e3]; exact XM_mu (by omega)
    have c3 := MR_XM x3 c2
    refine ⟨m + 1, m_fl_loop (σ := σ3) (A := tA t) (u := psA t) hn hm hd (fun k hk => ok_fdW ho.1 hd k hk) (fun σ4 c4 g4 => ?_) m 0 σ3 (by omega) c3 frM.rf ⟨c3.2.2.2.1, c3.2.2.2.2, ?_⟩⟩
    · exact h _ _ (by unfold f_flowAll; rw [hR]) σ4 c4 ((XM_frM hX).tr (g2.tr ((XM_frM x3).tr g4)))
    · rw [e3, mu_k]; simp [upd, pS]; rfl
theorem ok_flowAll (t : ST) (ho : okT t) : okT (f_flowAll t).2 := by
  unfold f_flowAll
  split
  · exact ho
  · rename_i m hR
    exact ok_set (ok_ps ho) (ok_fdW ho.1 (fun j hj => prs_dg 31 0 hR j (Nat.zero_le _) hj) m (Nat.le_refl _))
theorem x_flowAll {σ : Mem} (hi : Inv σ) : w_X6_flowAll σ (fun r σ1 => w_X7_flowAll σ1 (fun r2 σ2 => r = r2 ∧ Inv σ2)) :=
  glue (f := f_flowAll) (C := w_X6_flowAll) (M := w_X7_flowAll) c_flowAll m_flowAll ok_flowAll hi
