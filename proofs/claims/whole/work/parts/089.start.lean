set_option maxHeartbeats 4000000 in
set_option maxRecDepth 100000 in
/-- THE LAW, from its entry -/
theorem whole_start {p : Program} {e : Env} {s : State} {m : MethodId} {below : List Frame} {meth : Method} {c : Code} (l : Launch) (hflags : l.flags = flags0) {b L : Nat} {xs : Nat → Int32} (hL : L ≤ 2048) (C0 : lw_At p s m meth c b L xs) : W p l e room_1 s m #[Value.ref b] below meth c s.heap [] 0 0 (lw_Z below #[Value.ref b] s) (entryFrame m ([Value.ref b] : List Value).toArray 4) := by
  obtain ⟨hx, hb, hr, hml, hown, hts, hX, hbl, hlocks, hgv⟩ := id C0
  have hg := flat_of_before _ hgv
  have hA0 : ∀ a : Nat, a < s.heap.size → ¬ (fun q : Nat => s.heap.size ≤ q) a := fun a h => Nat.not_le.mpr h
  have hwA : ∀ w ∈ wA, w.before #[Value.ref b] s = true := fun w h => hts w (wsL_law_in w h)
  obtain ⟨adK, adV, hSt, hEv⟩ := st_S (A := fun q : Nat => s.heap.size ≤ q) hg hA0
  obtain ⟨dC, dI, dA, hK⟩ := st_K hwA (hts _ (tb_of (n := 163) (by decide +kernel))) (hts _ (tb_of (n := 31) (by decide +kernel)))
  obtain ⟨L0, hL0⟩ : ∃ L0 : Ly, L0 = (dC, dI, dA, fun _ => 0, adK, adV) := ⟨_, rfl⟩
  have hK0 : va_K (dd L0) vwCl (tysL L0) s := by rw [hL0]; exact hK
  have C : Ck p s m #[Value.ref b] meth c RL cL_law 4 (fun q : Nat => s.heap.size ≤ q) L0 := ⟨hx, hb, hml, hown, hwA, hK0, fun q h => h, st_Y hts⟩
  have hl := lv_entry ([.ref b]) (n := 4) (Nat.le_of_ble_eq_true rfl)
  rw [lg_entry_eq]
  generalize (lg_sl ([.ref b]) ++ List.replicate (4 - (lg_sl ([.ref b])).length) Slot.unset).toArray = ls at hl ⊢
  have hl : lv_has ls 4 [(0, .ref b)] := hl
  suffices N : Nx p l e room_1 s m #[Value.ref b] below meth c 4 (lw_Z below #[Value.ref b] s) (fun q : Nat => s.heap.size ≤ q) L0 0 0 [] 0 [(0, .ref b)] [] from N s.heap [] ls (fun k q h => by simp at h) ⟨fun i j p q h => by simp at h, fun k q h => by simp at h⟩ va_S.rf hl
  refine n_new C (ci := 6) (N := 6) (Cm := RX6) (T := TX6) (ty := tyX6) [.null, .null, .null, .int 0, .null, .null] rfl inlX6 tyX6_ok mK_L_7 mB_X6 mZ_X6 hfs_6 (Nat.le_of_ble_eq_true rfl) (Nat.le_of_ble_eq_true rfl) dL_law_0 (fun q1 => ?_)
  refine n_dup C dL_law_3 rfl ?_
  refine n_callI C (fun sz => i_X6 l L0 q1 sz) mC_X6_init mZ_X6 (by decide +kernel) mI_X6_init rfl rfl rfl mM_L_9 ⟨Nat.le_of_ble_eq_true rfl, Nat.le_of_ble_eq_true rfl⟩ (Nat.le_of_ble_eq_true rfl) ⟨Nat.le_of_ble_eq_true rfl, Nat.le_of_ble_eq_true rfl⟩ dL_law_4 (fun ad ead => ?_)
  subst ead
  refine n_astore_n C [(1, .ref (ad 299)), (0, .ref b)] dL_law_7 rfl (by decide) rfl ?_
  refine n_new C (ci := 7) (N := 11) (Cm := RX7) (T := TX7) (ty := tyX7) [.null, .null, .int 0, .null, .int 0, .int 0, .null, .int 0, .int 0, .int 0, .int 0] rfl inlX7 tyX7_ok mK_L_10 mB_X7 mZ_X7 hfs_7 (Nat.le_of_ble_eq_true rfl) (Nat.le_of_ble_eq_true rfl) dL_law_8 (fun q2 => ?_)
  refine n_dup C dL_law_11 rfl ?_
  refine n_callI C (fun sz => i_X7 l L0 q2 sz) mC_X7_init mZ_X7 (by decide +kernel) mI_X7_init rfl rfl rfl mM_L_12 ⟨Nat.le_of_ble_eq_true rfl, Nat.le_of_ble_eq_true rfl⟩ (Nat.le_of_ble_eq_true rfl) ⟨Nat.le_of_ble_eq_true rfl, Nat.le_of_ble_eq_true rfl⟩ dL_law_12 (fun ad2 ead2 => ?_)
  subst ead2
  refine n_astore_n C [(2, .ref (ad2 306)), (1, .ref (ad 299)), (0, .ref b)] dL_law_15 rfl (by decide) rfl ?_
  refine n_iconst C (v := 0) dL_law_16 rfl ?_
  refine n_istore_n C [(3, .int 0), (2, .ref (ad2 306)), (1, .ref (ad 299)), (0, .ref b)] dL_law_17 rfl (by decide) rfl ?_
  intro H locs ls hP hD hS hl
  obtain ⟨adf, hadf⟩ : ∃ adf : Nat → Nat, adf = fun k => if k < 306 then ad k else ad2 k := ⟨_, rfl⟩
  obtain ⟨L1, hL1⟩ : ∃ L1 : Ly, L1 = (dC, dI, dA, adf, adK, adV) := ⟨_, rfl⟩
  have f1 : ∀ k, k < 306 → ad k = lad L1 k := fun k hk => by rw [hL1, hadf]; exact (if_pos hk).symm
  have f2 : ∀ k, 306 ≤ k → ad2 k = lad L1 k := fun k hk => by rw [hL1, hadf]; exact (if_neg (by omega)).symm
  have hA01 : ∀ i, lA L0 i = lA L1 i := fun i => by rw [hL0, hL1]; rfl
  have hd01 : dd L0 = dd L1 := by rw [hL0, hL1]; rfl
  rw [List.nil_append, cpF_congr f1, cpM_congr f2, hA01, hA01, hA01, hA01, asq_all] at hP hD
  rw [hd01] at hP
  obtain ⟨hP2, hap, hAk⟩ := wd_of (L := L1) hP hD
  have hK1 : va_K (dd L1) vwCl (tysL L1) s := by rw [hL1]; exact hK
  have hX1 : mX L1 (fun q : Nat => s.heap.size ≤ q) s s.heap := st_X hts hg hA0 (by rw [hL1]; exact hSt) (by rw [hL1]; exact hEv)
  have Cx1 : Cx p room_1 s m #[Value.ref b] meth c RL cL_law 4 600000 7302250 (fun q : Nat => s.heap.size ≤ q) L1 := ⟨hx, hb, hml, hown, hwA, hK1, fun σ => wd_D hap hAk σ, fun q h => h, hX1, ⟨Nat.le_refl _, Nat.le_refl _⟩, hap⟩
  refine W.widen (k := 600000) (n := 7302250) (Nat.le_of_ble_eq_true rfl) (Nat.le_of_ble_eq_true rfl) ?_
  refine law_loop Cx1 hX hbl (fun q h => h) hL hr hlocks L 0 σ0 (by omega) (Nat.zero_le _) z0_Inv H locs ls hP2 hS ?_
  rw [f1 299 (by omega), f2 306 (by omega)] at hl
  exact hl
