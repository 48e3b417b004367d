abbrev rmi_X6 : Room := { frames := 5, cells := 305, slots := 6026, locals := 95 }
set_option maxHeartbeats 4000000 in
set_option maxRecDepth 100000 in
theorem i_X6 (l : Launch) (L : Ly) (h0 sz : Nat) : Met l yX6_init (.code yX6_init cX6_init 1 none :: wA) rmi_X6 (va_Pc [.ref h0] (cB L sz [(h0, .inr (6, [.null, .null, .null, .int 0, .null, .null]))])) (va_Qv (fun ad : Nat → Nat => ad 299 = h0) (cE L (va_A [(h0, .inr (6, [.null, .null, .null, .int 0, .null, .null]))] sz) (fun ad : Nat → Nat => cpF (lA L 0) (lA L 1) (lA L 2) (lA L 3) ad)) (va_A [(h0, .inr (6, [.null, .null, .null, .int 0, .null, .null]))] sz)) 305 6026 (va_A [(h0, .inr (6, [.null, .null, .null, .int 0, .null, .null]))] sz) := by
  refine n_start (own := RX6) [(0, .ref h0)] (by decide) rfl (Nat.le_of_ble_eq_true rfl) rfl (fun p e s m args below meth c C hret hlk hnm => ?_)
  refine n_aload_n C dX6_init_0 rfl 0 rfl ?_
  refine n_objInit C mM_X6_1 (Nat.le_of_ble_eq_true rfl) (Nat.le_of_ble_eq_true rfl) dX6_init_1 ?_
  refine n_aload_n C dX6_init_4 rfl 0 rfl ?_
  refine n_new C (ci := 2) (N := 6) (Cm := RX2) (T := TX2) (ty := tyX2) [.null, .null, .null, .int 0, .int 0, .int 0] rfl inlX2 tyX2_ok mK_X6_7 mB_X2 mZ_X2 hfs_2 (Nat.le_of_ble_eq_true rfl) (Nat.le_of_ble_eq_true rfl) dX6_init_5 (fun q0 => ?_)
  refine n_dup C dX6_init_8 rfl ?_
  refine n_callI C (fun sz => i_X2 l L q0 sz (0)) mC_X2_init mZ_X2 (by decide +kernel) mI_X2_init rfl rfl rfl mM_X6_9 ⟨Nat.le_of_ble_eq_true rfl, Nat.le_of_ble_eq_true rfl⟩ (Nat.le_of_ble_eq_true rfl) ⟨Nat.le_of_ble_eq_true rfl, Nat.le_of_ble_eq_true rfl⟩ dX6_init_9 (fun a0 ea0 => ?_)
  subst ea0
  refine n_ws ([(h0, .inr (6, [.null, .null, .null, .int 0, .null, .null]))] ++ cpT (lA L 0) (lA L 3) a0 (0)) rfl ?_
  refine n_putF C (ci := 6) (N := 6) (j := 0) (Cm := RX6) (T := TX6) (ty0 := tyX6) ([(h0, .inr (6, [.ref (a0 0), .null, .null, .int 0, .null, .null]))] ++ cpT (lA L 0) (lA L 3) a0 (0)) 0 rfl inlX6 tyX6_ok nmX6 (by decide) rfl rfl hnm rfl rfl (Nat.le_of_ble_eq_true rfl) rfl rfl mF_X6_10 dX6_init_12 ?_
  refine n_aload_n C dX6_init_15 rfl 0 rfl ?_
  refine n_new C (ci := 0) (N := 3) (Cm := RX0) (T := TX0) (ty := tyX0) [.null, .int 0, .int 0] rfl inlX0 tyX0_ok mK_X6_16 mB_X0 mZ_X0 hfs_0 (Nat.le_of_ble_eq_true rfl) (Nat.le_of_ble_eq_true rfl) dX6_init_16 (fun q1 => ?_)
  refine n_dup C dX6_init_19 rfl ?_
  refine n_callI C (fun sz => i_X0 l L q1 sz) mC_X0_init mZ_X0 (by decide +kernel) mI_X0_init rfl rfl rfl mM_X6_18 ⟨Nat.le_of_ble_eq_true rfl, Nat.le_of_ble_eq_true rfl⟩ (Nat.le_of_ble_eq_true rfl) ⟨Nat.le_of_ble_eq_true rfl, Nat.le_of_ble_eq_true rfl⟩ dX6_init_20 (fun a1 ea1 => ?_)
  subst ea1
  refine n_ws ([(h0, .inr (6, [.ref (a0 0), .null, .null, .int 0, .null, .null]))] ++ cpT (lA L 0) (lA L 3) a0 (0) ++ cpH (lA L 0) (lA L 3) (lA L 2) a1) rfl ?_
  refine n_putF C (ci := 6) (N := 6) (j := 1) (Cm := RX6) (T := TX6) (ty0 := tyX6) ([(h0, .inr (6, [.ref (a0 0), .ref (a1 300), .null, .int 0, .null, .null]))] ++ cpT (lA L 0) (lA L 3) a0 (0) ++ cpH (lA L 0) (lA L 3) (lA L 2) a1) 0 rfl inlX6 tyX6_ok nmX6 (by decide) rfl rfl hnm rfl rfl (Nat.le_of_ble_eq_true rfl) rfl rfl mF_X6_19 dX6_init_23 ?_
  refine n_aload_n C dX6_init_26 rfl 0 rfl ?_
  refine n_new C (ci := 2) (N := 6) (Cm := RX2) (T := TX2) (ty := tyX2) [.null, .null, .null, .int 0, .int 0, .int 0] rfl inlX2 tyX2_ok mK_X6_7 mB_X2 mZ_X2 hfs_2 (Nat.le_of_ble_eq_true rfl) (Nat.le_of_ble_eq_true rfl) dX6_init_27 (fun q2 => ?_)
  refine n_dup C dX6_init_30 rfl ?_
  refine n_callI C (fun sz => i_X2 l L q2 sz (245)) mC_X2_init mZ_X2 (by decide +kernel) mI_X2_init rfl rfl rfl mM_X6_9 ⟨Nat.le_of_ble_eq_true rfl, Nat.le_of_ble_eq_true rfl⟩ (Nat.le_of_ble_eq_true rfl) ⟨Nat.le_of_ble_eq_true rfl, Nat.le_of_ble_eq_true rfl⟩ dX6_init_31 (fun a2 ea2 => ?_)
  subst ea2
  refine n_ws ([(h0, .inr (6, [.ref (a0 0), .ref (a1 300), .null, .int 0, .null, .null]))] ++ cpT (lA L 0) (lA L 3) a0 (0) ++ cpH (lA L 0) (lA L 3) (lA L 2) a1 ++ cpT (lA L 0) (lA L 3) a2 (245)) rfl ?_
  refine n_putF C (ci := 6) (N := 6) (j := 2) (Cm := RX6) (T := TX6) (ty0 := tyX6) ([(h0, .inr (6, [.ref (a0 0), .ref (a1 300), .ref (a2 245), .int 0, .null, .null]))] ++ cpT (lA L 0) (lA L 3) a0 (0) ++ cpH (lA L 0) (lA L 3) (lA L 2) a1 ++ cpT (lA L 0) (lA L 3) a2 (245)) 0 rfl inlX6 tyX6_ok nmX6 (by decide) rfl rfl hnm rfl rfl (Nat.le_of_ble_eq_true rfl) rfl rfl mF_X6_23 dX6_init_34 ?_
  refine n_aload_n C dX6_init_37 rfl 0 rfl ?_
  refine n_iconst C (v := 0) dX6_init_38 rfl ?_
  refine n_put C (ci := 6) (N := 6) (j := 3) (Cm := RX6) (T := TX6) (ty0 := tyX6) ([(h0, .inr (6, [.ref (a0 0), .ref (a1 300), .ref (a2 245), .int 0, .null, .null]))] ++ cpT (lA L 0) (lA L 3) a0 (0) ++ cpH (lA L 0) (lA L 3) (lA L 2) a1 ++ cpT (lA L 0) (lA L 3) a2 (245)) 0 rfl inlX6 tyX6_ok nmX6 (by decide) rfl rfl rfl rfl (Nat.le_of_ble_eq_true rfl) rfl rfl mF_X6_26 dX6_init_39 ?_
  refine n_aload_n C dX6_init_42 rfl 0 rfl ?_
  refine n_new C (ci := 4) (N := 9) (Cm := RX4) (T := TX4) (ty := tyX4) [.null, .int 0, .null, .null, .int 0, .int 0, .int 0, .int 0, .int 0] rfl inlX4 tyX4_ok mK_X6_30 mB_X4 mZ_X4 hfs_4 (Nat.le_of_ble_eq_true rfl) (Nat.le_of_ble_eq_true rfl) dX6_init_43 (fun q3 => ?_)
  refine n_dup C dX6_init_46 rfl ?_
  refine n_callN C (fun sz => i_X4 l L q3 sz) mC_X4_init mZ_X4 (by decide +kernel) mI_X4_init rfl rfl rfl C.2.2.2.2.2.2.2.2.2.2.2.2.1 ⟨Nat.le_of_ble_eq_true rfl, Nat.le_of_ble_eq_true rfl⟩ (Nat.le_of_ble_eq_true rfl) ⟨Nat.le_of_ble_eq_true rfl, Nat.le_of_ble_eq_true rfl⟩ dX6_init_47 (fun a3 ea3 => ?_)
  subst ea3
  refine n_ws ([(h0, .inr (6, [.ref (a0 0), .ref (a1 300), .ref (a2 245), .int 0, .null, .null]))] ++ cpT (lA L 0) (lA L 3) a0 (0) ++ cpH (lA L 0) (lA L 3) (lA L 2) a1 ++ cpT (lA L 0) (lA L 3) a2 (245) ++ cpX (lA L 0) (lA L 1) a3) rfl ?_
  refine n_putF C (ci := 6) (N := 6) (j := 4) (Cm := RX6) (T := TX6) (ty0 := tyX6) ([(h0, .inr (6, [.ref (a0 0), .ref (a1 300), .ref (a2 245), .int 0, .ref (a3 302), .null]))] ++ cpT (lA L 0) (lA L 3) a0 (0) ++ cpH (lA L 0) (lA L 3) (lA L 2) a1 ++ cpT (lA L 0) (lA L 3) a2 (245) ++ cpX (lA L 0) (lA L 1) a3) 0 rfl inlX6 tyX6_ok nmX6 (by decide) rfl rfl hnm rfl rfl (Nat.le_of_ble_eq_true rfl) rfl rfl mF_X6_33 dX6_init_50 ?_
  refine n_aload_n C dX6_init_53 rfl 0 rfl ?_
  refine n_new C (ci := 3) (N := 8) (Cm := RX3) (T := TX3) (ty := tyX3) [.int 0, .int 0, .int 0, .int 0, .null, .null, .null, .null] rfl inlX3 tyX3_ok mK_X6_37 mB_X3 mZ_X3 hfs_3 (Nat.le_of_ble_eq_true rfl) (Nat.le_of_ble_eq_true rfl) dX6_init_54 (fun q4 => ?_)
  refine n_dup C dX6_init_57 rfl ?_
  refine n_callN C (fun sz => i_X3 l L q4 sz (294)) mC_X3_init mZ_X3 (by decide +kernel) mI_X3_init rfl rfl rfl C.2.2.2.2.2.2.2.2.2.2.2.2.2 ⟨Nat.le_of_ble_eq_true rfl, Nat.le_of_ble_eq_true rfl⟩ (Nat.le_of_ble_eq_true rfl) ⟨Nat.le_of_ble_eq_true rfl, Nat.le_of_ble_eq_true rfl⟩ dX6_init_58 (fun a4 ea4 => ?_)
  subst ea4
  refine n_ws ([(h0, .inr (6, [.ref (a0 0), .ref (a1 300), .ref (a2 245), .int 0, .ref (a3 302), .null]))] ++ cpT (lA L 0) (lA L 3) a0 (0) ++ cpH (lA L 0) (lA L 3) (lA L 2) a1 ++ cpT (lA L 0) (lA L 3) a2 (245) ++ cpX (lA L 0) (lA L 1) a3 ++ cpS (lA L 0) a4 (294)) rfl ?_
  refine n_putF C (ci := 6) (N := 6) (j := 5) (Cm := RX6) (T := TX6) (ty0 := tyX6) ([(h0, .inr (6, [.ref (a0 0), .ref (a1 300), .ref (a2 245), .int 0, .ref (a3 302), .ref (a4 294)]))] ++ cpT (lA L 0) (lA L 3) a0 (0) ++ cpH (lA L 0) (lA L 3) (lA L 2) a1 ++ cpT (lA L 0) (lA L 3) a2 (245) ++ cpX (lA L 0) (lA L 1) a3 ++ cpS (lA L 0) a4 (294)) 0 rfl inlX6 tyX6_ok nmX6 (by decide) rfl rfl hnm rfl rfl (Nat.le_of_ble_eq_true rfl) rfl rfl mF_X6_40 dX6_init_61 ?_
  obtain ⟨ad, hadd⟩ : ∃ ad : Nat → Nat, ad = fun k => if k < 49 then a0 k else if k < 245 then a1 k else if k < 294 then a2 k else if k < 299 then a4 k else if k = 299 then h0 else if k < 302 then a1 k else a3 k := ⟨_, rfl⟩
  have f0 : ad 299 = h0 := (by rw [hadd]; dsimp only; repeat (first | rw [if_pos (by omega)] | rw [if_neg (by omega)]))
  have ga0 : cpT (lA L 0) (lA L 3) a0 (0) = cpT (lA L 0) (lA L 3) ad (0) := cpT_congr (by intro k x y; rw [hadd]; dsimp only; repeat (first | rw [if_pos (by omega)] | rw [if_neg (by omega)]))
  have va0 : ad (0) = a0 (0) := (by rw [hadd]; dsimp only; repeat (first | rw [if_pos (by omega)] | rw [if_neg (by omega)]))
  have ga1 : cpH (lA L 0) (lA L 3) (lA L 2) a1 = cpH (lA L 0) (lA L 3) (lA L 2) ad := cpH_congr (by intro k x y; rw [hadd]; dsimp only; repeat (first | rw [if_pos (by omega)] | rw [if_neg (by omega)])) (by rw [hadd]; dsimp only; repeat (first | rw [if_pos (by omega)] | rw [if_neg (by omega)])) (by rw [hadd]; dsimp only; repeat (first | rw [if_pos (by omega)] | rw [if_neg (by omega)]))
  have va1 : ad (300) = a1 (300) := (by rw [hadd]; dsimp only; repeat (first | rw [if_pos (by omega)] | rw [if_neg (by omega)]))
  have ga2 : cpT (lA L 0) (lA L 3) a2 (245) = cpT (lA L 0) (lA L 3) ad (245) := cpT_congr (by intro k x y; rw [hadd]; dsimp only; repeat (first | rw [if_pos (by omega)] | rw [if_neg (by omega)]))
  have va2 : ad (245) = a2 (245) := (by rw [hadd]; dsimp only; repeat (first | rw [if_pos (by omega)] | rw [if_neg (by omega)]))
  have ga3 : cpX (lA L 0) (lA L 1) a3 = cpX (lA L 0) (lA L 1) ad := cpX_congr (by intro k x y; rw [hadd]; dsimp only; repeat (first | rw [if_pos (by omega)] | rw [if_neg (by omega)]))
  have va3 : ad (302) = a3 (302) := (by rw [hadd]; dsimp only; repeat (first | rw [if_pos (by omega)] | rw [if_neg (by omega)]))
  have ga4 : cpS (lA L 0) a4 (294) = cpS (lA L 0) ad (294) := cpS_congr (by intro k x y; rw [hadd]; dsimp only; repeat (first | rw [if_pos (by omega)] | rw [if_neg (by omega)]))
  have va4 : ad (294) = a4 (294) := (by rw [hadd]; dsimp only; repeat (first | rw [if_pos (by omega)] | rw [if_neg (by omega)]))
  refine n_ret C dX6_init_64 hret hlk ad f0 ?_ ⟨Nat.le_of_ble_eq_true rfl, Nat.le_of_ble_eq_true rfl⟩
  show _ = cpF (lA L 0) (lA L 1) (lA L 2) (lA L 3) ad
  unfold cpF
  rw [ga0, ga1, ga2, ga3, ga4, f0, va0, va1, va2, va3, va4]
