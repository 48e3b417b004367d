def stA (A : AS) (i : Nat) (s : Sm) : AS := ((fun q => if q = i then s else aSm A q), A.2)
theorem m_st {i : Nat} {v : Sm} {σ σ1 : Mem} (hi : i < 4) (hw : WM (σ 307)) (h1 : ∀ q, q ≠ 307 → σ1 q = σ q) (hv : vM (σ1 307) (bs i) = v) (hb : hbM (σ1 307) (bs i)) (hf : ∀ x, x < 1110 → (x < bs i ∨ bs i + 133 < x) → σ1 307 x = σ 307 x) : M2 (stA (aM (σ 307)) i v) σ σ1 := by
  obtain ⟨kp, k1, k2, k3, k4⟩ := WM_kp hw
  obtain ⟨kn, b1, b2⟩ := id hw.2.2.1
  have ebi : bs i = 134 * i := bs7 (by omega)
  have fr : ∀ s, s < 8 → s ≠ i → ∀ x, x < 134 → σ1 307 (bs s + x) = σ 307 (bs s + x) := fun s hs hne x hx => by
    have := bs_ap (s := s) (o := i) (by omega) (by omega) hne
    have := bs7 hs
    exact hf _ (by omega) (by omega)
  have vv : ∀ s, s < 8 → s ≠ i → vM (σ1 307) (bs s) = vM (σ 307) (bs s) := fun s hs hne => vM_ext (fun x hx _ => fr s hs hne x hx)
  have hh : ∀ x, 1072 ≤ x → x < 1110 → σ1 307 x = σ 307 x := fun x p q => hf x q (by omega)
  have h76 := hh 1076 (by omega) (by omega)
  refine ⟨h1, as_ext ?_ ?_ h76 (hh _ (by omega) (by omega)) ?_ (lgM_fr (fun x p q => hh x (by omega) q) (by rw [b1, ixn (by omega)]; exact b2)) (hh _ (by omega) (by omega)) (hh _ (by omega) (by omega)) (hh _ (by omega) (by omega)), WM_fr (fun s hs => ?_) h76 (by rw [hh _ (by omega) (by omega)]; exact hw.2.2.1) (fun j hj => fr (4 + j) (by omega) (by omega) 3 (by omega)) (fun j hj => fr (4 + j) (by omega) (by omega) 0 (by omega)) hw⟩
  · funext j
    show (if j < 4 then vM (σ1 307) (bs j) else z0) = if j = i then v else (if j < 4 then vM (σ 307) (bs j) else z0)
    by_cases hji : j = i
    · rw [if_pos hji, hji, if_pos hi, hv]
    · rw [if_neg hji]
      by_cases hj : j < 4
      · rw [if_pos hj, if_pos hj, vv j (by omega) hji]
      · rw [if_neg hj, if_neg hj]
  · funext j
    show (if j < ix (σ1 307 1076) then vM (σ1 307) (bs (4 + j)) else z0) = (if j < ix (σ 307 1076) then vM (σ 307) (bs (4 + j)) else z0)
    rw [h76, k2]
    by_cases hj : j < kp
    · rw [if_pos hj, if_pos hj, vv _ (by omega) (by omega)]
    · rw [if_neg hj, if_neg hj]
  · show σ1 307 (bs (3 + ix (σ1 307 1076)) + 3) = σ 307 (bs (3 + ix (σ 307 1076)) + 3)
    rw [h76, k2]; exact fr _ (by omega) (by omega) 3 (by omega)
  · by_cases hsi : s = i
    · rw [hsi]; exact hb
    · exact hbM_ext (fun x hx _ => fr s hs hsi x hx) (hw.1 s hs)
/-- what lies above the summaries changes -/
theorem m_hi {σ σ1 : Mem} (hw : WM (σ 307)) (h1 : ∀ q, q ≠ 307 → σ1 q = σ q) (hf : ∀ x, x < 1072 → σ1 307 x = σ 307 x) (h75 : σ1 307 1075 = σ 307 1075) (h76 : σ1 307 1076 = σ 307 1076) (hk : ∃ kn : Nat, σ1 307 1077 = nI kn ∧ kn ≤ 8) : M2 (aSm (aM (σ 307)), aBl (aM (σ 307)), aKp (aM (σ 307)), aBg (aM (σ 307)), aAr (aM (σ 307)), lgM (σ1 307), σ1 307 1072, σ1 307 1073, σ1 307 1074) σ σ1 := by
  obtain ⟨kp, k1, k2, k3, k4⟩ := WM_kp hw
  have fr : ∀ s, s < 8 → ∀ x, x < 134 → σ1 307 (bs s + x) = σ 307 (bs s + x) := fun s hs x hx => hf _ (by rw [bs7 hs]; omega)
  refine ⟨h1, as_ext ?_ ?_ h76 h75 ?_ rfl rfl rfl rfl, WM_fr (fun s hs => hbM_ext (fun x hx _ => fr s hs x hx) (hw.1 s hs)) h76 hk (fun j hj => fr _ (by omega) 3 (by omega)) (fun j hj => fr _ (by omega) 0 (by omega)) hw⟩
  · funext j
    show (if j < 4 then vM (σ1 307) (bs j) else z0) = (if j < 4 then vM (σ 307) (bs j) else z0)
    by_cases hj : j < 4
    · rw [if_pos hj, if_pos hj]; exact vM_ext (fun x hx _ => fr _ (by omega) x hx)
    · rw [if_neg hj, if_neg hj]
  · funext j
    show (if j < ix (σ1 307 1076) then vM (σ1 307) (bs (4 + j)) else z0) = (if j < ix (σ 307 1076) then vM (σ 307) (bs (4 + j)) else z0)
    rw [h76, k2]
    by_cases hj : j < kp
    · rw [if_pos hj, if_pos hj]; exact vM_ext (fun x hx _ => fr _ (by omega) x hx)
    · rw [if_neg hj, if_neg hj]
  · show σ1 307 (bs (3 + ix (σ1 307 1076)) + 3) = σ 307 (bs (3 + ix (σ 307 1076)) + 3)
    rw [h76, k2]; exact fr _ (by omega) 3 (by omega)
theorem tup_join {A : AS} {i j : Nat} {v u : Sm} {L : Nat → Option Ev} {x y z : Int32} (hv : v = lvN (lft (aSm A i) (aSm A j) (aTm A)) (mrg (aSm A i) (aSm A j) (aTm A))) (hu : u = emp (aSm A j)) (hL : L = psh (1, nI i, nI (lft (aSm A i) (aSm A j) (aTm A)), aTm A) (aLg A)) (hx : x = aTm A) (hy : y = aEv A) (hz : z = aMg A + 1) : ((aSm (stA (stA A i v) j u), aBl (stA (stA A i v) j u), aKp (stA (stA A i v) j u), aBg (stA (stA A i v) j u), aAr (stA (stA A i v) j u), L, x, y, z) : AS) = joinA A i j := by
  subst hv hu hL hx hy hz
  rfl
theorem m_join {i j : Nat} {σ : Mem} {K : Int32 → Mem → Prop} (hi : i < 4) (hj : j < 4) (hij : i ≠ j) (hw : WM (σ 307)) (ho : okA (aM (σ 307))) (h : ∀ σ1, M2 (joinA (aM (σ 307)) i j) σ σ1 → K (nI (lft (aSm (aM (σ 307)) i) (aSm (aM (σ 307)) j) (aTm (aM (σ 307))))) σ1) :
    w_X7_joins (nI i) (nI j) σ (fun r11 σ10 => (w_X7_empties (nI j) σ10 (fun σ12 => (vp_in 1074 1244 ∧ (vp_in 1074 1244 ∧ ∀ σ15 : Mem, σ15 = mu σ12 307 (ix 1074) ((σ12 307 (ix 1074)) + 1) → (w_X7_tells 1 (nI i) r11 σ15 (fun σ16 => (K r11 σ16)))))))) := by
  obtain ⟨-, z, z1, z2, z3, z4⟩ := ho.1 i hi
  rw [aM_sm hi] at z1
  have ez : zN (vM (σ 307) (bs i)) = z := by unfold zN; rw [z1, ixn (by omega)]
  obtain ⟨kn, b1, b2⟩ := id hw.2.2.1
  have ebi : bs i = 134 * i := bs7 (by omega)
  have ebj : bs j = 134 * j := bs7 (by omega)
  refine m_joins (z := z) (by omega) (by omega) hij (by omega) z1 (fun σ1 h1 => ?_)
  rw [← ez]
  obtain ⟨a1, a2, a3, a4, a5⟩ := h1
  rw [← ez] at a2
  have m1 := m_st hi hw a1 a2 a3 (fun x _ hx => a4 x hx)
  refine m_empties (by omega) (fun σ2 e1 e2 e3 e40 e5 => ⟨vil (i := 1074) (by omega), vil (i := 1074) (by omega), ?_⟩)
  have m2 := m_st hj m1.2.2 e1 e2 e3 (fun x _ hx => e5 x hx)
  rw [show ix (1074 : Int32) = 1074 from rfl]
  rintro σ3 f1
  have g : ∀ x, x ≠ 1074 → σ3 307 x = σ2 307 x := fun x hx => by rw [f1, mu_k]; simp only [upd, if_neg hx]
  have g74 : σ3 307 1074 = σ 307 1074 + 1 := by rw [f1, mu_k]; simp only [upd, if_true]; rw [e5 _ (by omega), a4 _ (by omega)]
  have k77 : σ3 307 1077 = nI kn := by rw [g _ (by omega), e5 _ (by omega), a4 _ (by omega), b1]
  refine m_tells k77 b2 (fun σ4 t => ?_)
  obtain ⟨t1, t2, t3, t4⟩ := t
  have m3 := m_hi m2.2.2 (σ1 := σ4) (fun q hq => by rw [t1 q hq, f1, mu_o hq]) (fun x hx => by rw [t4 x (by omega), g x (by omega)]) (by rw [t4 _ (by omega), g _ (by omega)]) (by rw [t4 _ (by omega), g _ (by omega)]) t3
  have mm := (m1.tr m2).tr m3
  have e0 : lft (aSm (aM (σ 307)) i) (aSm (aM (σ 307)) j) (aTm (aM (σ 307))) = nC (mrg (vM (σ 307) (bs i)) (vM (σ 307) (bs j)) (σ 307 1072)) - zN (vM (σ 307) (bs i)) := by
    have hT : aTm (aM (σ 307)) = σ 307 1072 := rfl
    unfold lft; rw [aM_sm hi, aM_sm hj, hT]
  rw [e0] at h
  refine h σ4 ⟨mm.1, ?_, mm.2.2⟩
  rw [mm.2.1, m2.2.1, m1.2.1]
  have lg2 : lgM (σ3 307) = lgM (σ 307) := lgM_fr (fun x p q => by rw [g x (by omega), e5 x (by omega), a4 x (by omega)]) (by rw [b1, ixn (by omega)]; exact b2)
  have t72 : σ3 307 1072 = σ 307 1072 := by rw [g _ (by omega), e5 _ (by omega), a4 _ (by omega)]
  have vj : vM (σ1 307) (bs j) = vM (σ 307) (bs j) := vM_ext (fun x hx _ => a4 _ (by omega))
  have hT : aTm (aM (σ 307)) = σ 307 1072 := rfl
  refine tup_join ?_ ?_ ?_ ?_ ?_ ?_
  · rw [e0, aM_sm hi, aM_sm hj, hT]
  · rw [vj, aM_sm hj]
  · rw [t2, lg2, t72, pl_lt hi, e0, hT]; rfl
  · rw [t4 _ (by omega), t72, hT]
  · show σ4 307 1073 = σ 307 1073
    rw [t4 _ (by omega), g _ (by omega), e5 _ (by omega), a4 _ (by omega)]
  · show σ4 307 1074 = σ 307 1074 + 1
    rw [t4 _ (by omega), g74]
theorem m_ev1 {i : Nat} {σ : Mem} {K : Mem → Prop} (hi : i < 4) (hw : WM (σ 307)) (hsm : smC (aSm (aM (σ 307)) i)) (hn : 0 < nC (aSm (aM (σ 307)) i)) (h : ∀ σ1, M2 (ev1 (aM (σ 307)) i) σ σ1 → K σ1) : w_X7_evicts (nI i) σ K := by
  rw [aM_sm hi] at hsm hn
  obtain ⟨r, hr⟩ := nC_pos hn
  obtain ⟨kn, b1, b2⟩ := id hw.2.2.1
  have ebi : bs i = 134 * i := bs7 (by omega)
  refine m_evicts (by omega) hr hsm (hw.1 i (by omega)) b1 b2 (fun σ1 h1 => h σ1 ?_)
  obtain ⟨a1, a2, a3, a4, a5, a6, a7, a8⟩ := h1
  obtain ⟨kp, k1, k2, k3, k4⟩ := WM_kp hw
  have fr : ∀ s, s < 8 → s ≠ i → ∀ x, x < 134 → σ1 307 (bs s + x) = σ 307 (bs s + x) := fun s hs hne x hx => by
    have := bs_ap (s := s) (o := i) (by omega) (by omega) hne
    have := bs7 hs
    exact a8 _ (by omega) (by omega) (by omega)
  have vv : ∀ s, s < 8 → s ≠ i → vM (σ1 307) (bs s) = vM (σ 307) (bs s) := fun s hs hne => vM_ext (fun x hx _ => fr s hs hne x hx)
  have h76 : σ1 307 1076 = σ 307 1076 := a8 _ (by omega) (by omega) (by omega)
  refine ⟨a1, as_ext ?_ ?_ h76 (a8 1075 (by omega) (by omega) (by omega)) ?_ ?_ (a8 1072 (by omega) (by omega) (by omega)) ?_ (a8 1074 (by omega) (by omega) (by omega)), WM_fr (fun s hs => ?_) h76 a7 (fun j hj => fr (4 + j) (by omega) (by omega) 3 (by omega)) (fun j hj => fr (4 + j) (by omega) (by omega) 0 (by omega)) hw⟩
  · funext j
    show (if j < 4 then vM (σ1 307) (bs j) else z0) = if j = i then evc (aSm (aM (σ 307)) i) else (if j < 4 then vM (σ 307) (bs j) else z0)
    by_cases hji : j = i
    · rw [if_pos hji, hji, if_pos hi, aM_sm hi, a2, evc_of hr]
    · rw [if_neg hji]
      by_cases hj : j < 4
      · rw [if_pos hj, if_pos hj, vv j (by omega) hji]
      · rw [if_neg hj, if_neg hj]
  · funext j
    show (if j < ix (σ1 307 1076) then vM (σ1 307) (bs (4 + j)) else z0) = (if j < ix (σ 307 1076) then vM (σ 307) (bs (4 + j)) else z0)
    rw [h76, k2]
    by_cases hj : j < kp
    · rw [if_pos hj, if_pos hj, vv _ (by omega) (by omega)]
    · rw [if_neg hj, if_neg hj]
  · show σ1 307 (bs (3 + ix (σ1 307 1076)) + 3) = σ 307 (bs (3 + ix (σ 307 1076)) + 3)
    rw [h76, k2]; exact fr _ (by omega) (by omega) 3 (by omega)
  · show lgM (σ1 307) = lgN (nI i) (σ 307 1072) ((lst (aSm (aM (σ 307)) i) 26).map (·.1)) (lgM (σ 307))
    rw [a6, pl_lt hi, aM_sm hi, hr]; rfl
  · show σ1 307 1073 = evn (σ 307 1073) ((lst (aSm (aM (σ 307)) i) 26).map (·.1))
    rw [a5, aM_sm hi, hr]; rfl
  · by_cases hsi : s = i
    · rw [hsi]; exact a3
    · exact hbM_ext (fun x hx _ => fr s hs hsi x hx) (hw.1 s hs)
theorem m_resize_loop {i z : Nat} {K : Int32 → Mem → Prop} (hi : i < 4) (hz : z < 2 ^ 31) : ∀ m x (σ : Mem), WM (σ 307) → bdS (aSm (aM (σ 307)) i) 1000000 → nC (aSm (aM (σ 307)) i) - z = m → (∀ σ1, M2 (rsN m (aM (σ 307)) i) σ σ1 → K (nI (x + m)) σ1) → w_X7_setSize_48 (nI i) (nI z) K (m + 1) (nI x) σ := by
  intro m
  induction m with
  | zero =>
    intro x σ hw hb hm h
    have hle := nC_le (aSm (aM (σ 307)) i)
    rw [w_X7_setSize_48]
    refine m_counters (by omega) (hw.1 i (by omega)) ?_
    rw [← aM_sm hi]
    exact ⟨fun _ => h σ ⟨fun _ _ => rfl, rfl, hw⟩, fun hc => absurd (nI_le (by omega) hz) hc⟩
  | succ m ih =>
    intro x σ hw hb hm h
    have hle := nC_le (aSm (aM (σ 307)) i)
    rw [w_X7_setSize_48]
    refine m_counters (by omega) (hw.1 i (by omega)) ?_
    rw [← aM_sm hi]
    refine ⟨fun hc => absurd ((nI_le_iff (by omega) hz).mp hc) (by omega), fun _ => m_ev1 hi hw (fun l q hq => ?_) (by omega) (fun σ1 h1 => ?_)⟩
    · obtain ⟨a, b, -, -⟩ := hb.2.2.2 l q hq
      have := hb.2.2.1
      exact ⟨a, by omega⟩
    · have e1 : aSm (aM (σ1 307)) i = evc (aSm (aM (σ 307)) i) := by rw [h1.2.1]; exact if_pos rfl
      have hd := nC_evc (s := aSm (aM (σ 307)) i) (by omega)
      rw [nI_1]
      refine ih (x + 1) σ1 h1.2.2 (by rw [e1]; exact bd_evc hb) (by rw [e1]; omega) (fun σ2 h2 => ?_)
      rw [show x + 1 + m = x + (m + 1) by omega]
      rw [h1.2.1] at h2
      exact h σ2 (h1.tr h2)
theorem m_resize {i z : Nat} {σ : Mem} {K : Int32 → Mem → Prop} (hi : i < 4) (hz : z < 2 ^ 31) (hw : WM (σ 307)) (ho : okA (aM (σ 307))) (h : ∀ σ1, M2 (rsN (nC (aSm (aM (σ 307)) i) - z) (zet (aM (σ 307)) i (nI z)) i) σ σ1 → K (nI (nC (aSm (aM (σ 307)) i) - z)) σ1) : w_X7_puts (nI i) 0 (nI z) σ (fun σ8 => (∃ n12, w_X7_setSize_48 (nI i) (nI z) K n12 0 σ8)) := by
  have ebi : bs i = 134 * i := bs7 (by omega)
  refine m_puts 0 (by omega) (by omega) (fun σ1 e1 => ?_)
  have g : ∀ x, x ≠ bs i → σ1 307 x = σ 307 x := fun x hx => by rw [e1, mu_k]; simp only [upd]; rw [if_neg (by omega)]
  have g0 : σ1 307 (bs i) = nI z := by rw [e1, mu_k]; simp [upd]
  have hv : vM (σ1 307) (bs i) = (nI z, (aSm (aM (σ 307)) i).2) := by
    rw [aM_sm hi]
    refine Prod.ext g0 (Prod.ext (g _ (by omega)) (Prod.ext (g _ (by omega)) (Prod.ext ?_ ?_)))
    · funext j
      show cM (σ1 307) (bs i) j = cM (σ 307) (bs i) j
      unfold cM
      rw [g _ (by omega), g _ (by omega), g _ (by omega), g _ (by omega)]
    · funext j
      show (if j < 26 then σ1 307 (bs i + 4 + 5 * j + 4) else 0) = if j < 26 then σ 307 (bs i + 4 + 5 * j + 4) else 0
      rw [g _ (by omega)]
  have m1 := m_st hi hw (σ1 := σ1) (fun q hq => by rw [e1, mu_o hq]) hv (fun l hl => by rw [g _ (by omega)]; exact hw.1 i (by omega) l hl) (fun x _ hx => g x (by omega))
  have hA : aM (σ1 307) = zet (aM (σ 307)) i (nI z) := m1.2.1
  have hs : aSm (aM (σ1 307)) i = (nI z, (aSm (aM (σ 307)) i).2) := by rw [hA]; exact if_pos rfl
  have hn : nC (aSm (aM (σ1 307)) i) = nC (aSm (aM (σ 307)) i) := by rw [hs]; rfl
  refine ⟨_, m_resize_loop hi hz (nC (aSm (aM (σ 307)) i) - z) 0 σ1 m1.2.2 (by rw [hs]; exact (ho.1 i hi).1) (by rw [hn]) (fun σ2 h2 => ?_)⟩
  rw [hA] at h2
  rw [Nat.zero_add]
  exact h σ2 (m1.tr h2)
theorem m_copyS {i j : Nat} {σ : Mem} {K : Mem → Prop} (hi : i < 4) (hj : j < 4) (hij : i ≠ j) (hw : WM (σ 307)) (h : ∀ σ1, M2 (stA (aM (σ 307)) i (aSm (aM (σ 307)) j)) σ σ1 → K σ1) : w_X7_copies (nI j) (nI i) σ K :=
  m_copies (by omega) (by omega) (Ne.symm hij) (hw.1 j (by omega)) (fun σ1 e1 e2 e3 e40 e5 => h σ1 (m_st hi hw e1 (by rw [e2, aM_sm hj]) e3 (fun x _ hx => e5 x hx)))
theorem m_clearS {i : Nat} {σ : Mem} {K : Mem → Prop} (hi : i < 4) (hw : WM (σ 307)) (h : ∀ σ1, M2 (stA (aM (σ 307)) i (emp (aSm (aM (σ 307)) i))) σ σ1 → K σ1) : w_X7_empties (nI i) σ K :=
  m_empties (by omega) (fun σ1 e1 e2 e3 e40 e5 => h σ1 (m_st hi hw e1 (by rw [e2, aM_sm hi]) e3 (fun x _ hx => e5 x hx)))
theorem s_st {b i : Nat} {v : Sm} {σ σ1 : Mem} (hi : i < 4) (hw : WS σ b) (hp : P1 (b + 2 + 5 * i) v σ σ1) : S1 b (stA (aC σ b) i v) σ σ1 := by
  obtain ⟨w1, w2, w3⟩ := hw
  have f1 : ∀ q, (q < b + 2 + 5 * i ∨ b + 2 + 5 * i + 4 < q) → σ1 q = σ q := fun q hq => hp.2.1 q hq
  refine ⟨as_ext ?_ (bl_fr (f1 _ (by omega)) (fun q x y => f1 q (by omega))) ?_ ?_ ?_ ?_ ?_ ?_ ?_, ⟨fun q hq => ?_, wW_fr (f1 _ (by omega)) (fun q x y => f1 q (by omega)) w2, wL_fr (fun q x y => f1 q (by omega)) w3⟩, fun q hq => f1 q (by omega)⟩
  · funext q
    show (if q < 4 then vC σ1 (b + 2 + 5 * q) else z0) = if q = i then v else aSm (aC σ b) q
    by_cases hqi : q = i
    · subst hqi; rw [if_pos hi, if_pos rfl]; exact hp.1
    · rw [if_neg hqi]
      show _ = if q < 4 then vC σ (b + 2 + 5 * q) else z0
      by_cases hq4 : q < 4
      · rw [if_pos hq4, if_pos hq4]; exact vC_fr (fun p x y => f1 p (by omega))
      · rw [if_neg hq4, if_neg hq4]
  · show σ1 (b + 22) 2 = σ (b + 22) 2; rw [f1 _ (by omega)]
  · show σ1 (b + 22) 3 = σ (b + 22) 3; rw [f1 _ (by omega)]
  · show σ1 (b + 22) 4 = σ (b + 22) 4; rw [f1 _ (by omega)]
  · show lgC σ1 (b + 44) = lgC σ (b + 44); exact lgC_fr (fun q x y => f1 q (by omega))
  · show σ1 b 3 = σ b 3; rw [f1 _ (by omega)]
  · show σ1 b 4 = σ b 4; rw [f1 _ (by omega)]
  · show σ1 b 5 = σ b 5; rw [f1 _ (by omega)]
  · by_cases hqi : q = i
    · subst hqi; exact hp.2.2
    · exact hbC_fr (f1 _ (by omega)) (w1 q hq)
theorem ok_st {A : AS} {i : Nat} {s : Sm} (h : okA A) (hs : okS s 1000000) : okA (stA A i s) := okA_sm h (fun q hq => by
  show okS (if q = i then s else aSm A q) _
  by_cases hqi : q = i
  · rw [if_pos hqi]; exact hs
  · rw [if_neg hqi]; exact h.1 q hq) rfl rfl rfl
