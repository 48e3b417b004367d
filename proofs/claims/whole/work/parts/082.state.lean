abbrev rmi_X2 : Room := { frames := 3, cells := 48, slots := 947, locals := 53 }
set_option maxHeartbeats 4000000 in
set_option maxRecDepth 100000 in
theorem i_X2 (l : Launch) (L : Ly) (h0 sz b : Nat) : Met l yX2_init (.code yX2_init cX2_init 2 none :: wA) rmi_X2 (va_Pc [.ref h0] (cB L sz [(h0, .inr (2, [.null, .null, .null, .int 0, .int 0, .int 0]))])) (va_Qv (fun ad : Nat → Nat => ad b = h0) (cE L (va_A [(h0, .inr (2, [.null, .null, .null, .int 0, .int 0, .int 0]))] sz) (fun ad : Nat → Nat => cpT (lA L 0) (lA L 3) ad b)) (va_A [(h0, .inr (2, [.null, .null, .null, .int 0, .int 0, .int 0]))] sz)) 48 947 (va_A [(h0, .inr (2, [.null, .null, .null, .int 0, .int 0, .int 0]))] sz) := by
  refine n_start (own := RX2) [(0, .ref h0)] (by decide) rfl (Nat.le_of_ble_eq_true rfl) rfl (fun p e s m args below meth c C hret hlk hnm => ?_)
  refine n_aload_n C dX2_init_0 rfl 0 rfl ?_
  refine n_objInit C mM_X2_3 (Nat.le_of_ble_eq_true rfl) (Nat.le_of_ble_eq_true rfl) dX2_init_1 ?_
  refine n_aload_n C dX2_init_4 rfl 0 rfl ?_
  refine n_iconst C (v := 4) dX2_init_5 rfl ?_
  refine n_newq C (Cm := "FloorTops$Summary") 3 (N := 4) C.2.2.2.2.2.2.2.2.1 rfl rfl mK_X2_9 (by decide) rfl (Nat.le_of_ble_eq_true rfl) (Nat.le_of_ble_eq_true rfl) (Nat.le_of_ble_eq_true rfl) dX2_init_6 (fun q0 => ?_)
  refine n_ws [(h0, .inr (2, [.null, .null, .null, .int 0, .int 0, .int 0])), (q0, .inl (lA L 3, 4, .inr (.inr (.inr (.inr (fun _ => none))))))] rfl ?_
  refine n_putF C (ci := 2) (N := 6) (j := 0) (Cm := RX2) (T := TX2) (ty0 := tyX2) [(h0, .inr (2, [.ref q0, .null, .null, .int 0, .int 0, .int 0])), (q0, .inl (lA L 3, 4, .inr (.inr (.inr (.inr (fun _ => none))))))] 0 rfl inlX2 tyX2_ok nmX2 (by decide) rfl rfl hnm rfl rfl (Nat.le_of_ble_eq_true rfl) rfl rfl mF_X2_11 dX2_init_9 ?_
  refine n_aload_n C dX2_init_12 rfl 0 rfl ?_
  refine n_new C (ci := 5) (N := 5) (Cm := RX5) (T := TX5) (ty := tyX5) [.null, .int 0, .int 0, .int 0, .int 0] rfl inlX5 tyX5_ok mK_X2_17 mB_X5 mZ_X5 hfs_5 (Nat.le_of_ble_eq_true rfl) (Nat.le_of_ble_eq_true rfl) dX2_init_13 (fun q1 => ?_)
  refine n_dup C dX2_init_16 rfl ?_
  refine n_callI C (fun sz => i_X5 l L q1 sz (b + 22)) mC_X5_init mZ_X5 (by decide +kernel) mI_X5_init rfl rfl rfl mM_X2_19 ⟨Nat.le_of_ble_eq_true rfl, Nat.le_of_ble_eq_true rfl⟩ (Nat.le_of_ble_eq_true rfl) ⟨Nat.le_of_ble_eq_true rfl, Nat.le_of_ble_eq_true rfl⟩ dX2_init_17 (fun a0 ea0 => ?_)
  subst ea0
  refine n_ws ([(h0, .inr (2, [.ref q0, .null, .null, .int 0, .int 0, .int 0])), (q0, .inl (lA L 3, 4, .inr (.inr (.inr (.inr (fun _ => none))))))] ++ cpW (lA L 0) (lA L 3) a0 (b + 22)) rfl ?_
  refine n_putF C (ci := 2) (N := 6) (j := 1) (Cm := RX2) (T := TX2) (ty0 := tyX2) ([(h0, .inr (2, [.ref q0, .ref (a0 (b + 22)), .null, .int 0, .int 0, .int 0])), (q0, .inl (lA L 3, 4, .inr (.inr (.inr (.inr (fun _ => none))))))] ++ cpW (lA L 0) (lA L 3) a0 (b + 22)) 0 rfl inlX2 tyX2_ok nmX2 (by decide) rfl rfl hnm rfl rfl (Nat.le_of_ble_eq_true rfl) rfl rfl mF_X2_20 dX2_init_20 ?_
  refine n_aload_n C dX2_init_23 rfl 0 rfl ?_
  refine n_new C (ci := 1) (N := 6) (Cm := RX1) (T := TX1) (ty := tyX1) [.null, .null, .null, .null, .int 0, .int 0] rfl inlX1 tyX1_ok mK_X2_24 mB_X1 mZ_X1 hfs_1 (Nat.le_of_ble_eq_true rfl) (Nat.le_of_ble_eq_true rfl) dX2_init_24 (fun q2 => ?_)
  refine n_dup C dX2_init_27 rfl ?_
  refine n_callN C (fun sz => i_X1 l L q2 sz (b + 44)) mC_X1_init mZ_X1 (by decide +kernel) mI_X1_init rfl rfl rfl C.2.2.2.2.2.2.2.2.2.2.1 ⟨Nat.le_of_ble_eq_true rfl, Nat.le_of_ble_eq_true rfl⟩ (Nat.le_of_ble_eq_true rfl) ⟨Nat.le_of_ble_eq_true rfl, Nat.le_of_ble_eq_true rfl⟩ dX2_init_28 (fun a1 ea1 => ?_)
  subst ea1
  refine n_ws ([(h0, .inr (2, [.ref q0, .ref (a0 (b + 22)), .null, .int 0, .int 0, .int 0])), (q0, .inl (lA L 3, 4, .inr (.inr (.inr (.inr (fun _ => none))))))] ++ cpW (lA L 0) (lA L 3) a0 (b + 22) ++ cpG (lA L 0) a1 (b + 44)) rfl ?_
  refine n_putF C (ci := 2) (N := 6) (j := 2) (Cm := RX2) (T := TX2) (ty0 := tyX2) ([(h0, .inr (2, [.ref q0, .ref (a0 (b + 22)), .ref (a1 (b + 44)), .int 0, .int 0, .int 0])), (q0, .inl (lA L 3, 4, .inr (.inr (.inr (.inr (fun _ => none))))))] ++ cpW (lA L 0) (lA L 3) a0 (b + 22) ++ cpG (lA L 0) a1 (b + 44)) 0 rfl inlX2 tyX2_ok nmX2 (by decide) rfl rfl hnm rfl rfl (Nat.le_of_ble_eq_true rfl) rfl rfl mF_X2_27 dX2_init_31 ?_
  refine n_aload_n C dX2_init_34 rfl 0 rfl ?_
  refine n_iconst C (v := 0) dX2_init_35 rfl ?_
  refine n_put C (ci := 2) (N := 6) (j := 3) (Cm := RX2) (T := TX2) (ty0 := tyX2) ([(h0, .inr (2, [.ref q0, .ref (a0 (b + 22)), .ref (a1 (b + 44)), .int 0, .int 0, .int 0])), (q0, .inl (lA L 3, 4, .inr (.inr (.inr (.inr (fun _ => none))))))] ++ cpW (lA L 0) (lA L 3) a0 (b + 22) ++ cpG (lA L 0) a1 (b + 44)) 0 rfl inlX2 tyX2_ok nmX2 (by decide) rfl rfl rfl rfl (Nat.le_of_ble_eq_true rfl) rfl rfl mF_X2_31 dX2_init_36 ?_
  refine n_aload_n C dX2_init_39 rfl 0 rfl ?_
  refine n_iconst C (v := 0) dX2_init_40 rfl ?_
  refine n_put C (ci := 2) (N := 6) (j := 4) (Cm := RX2) (T := TX2) (ty0 := tyX2) ([(h0, .inr (2, [.ref q0, .ref (a0 (b + 22)), .ref (a1 (b + 44)), .int 0, .int 0, .int 0])), (q0, .inl (lA L 3, 4, .inr (.inr (.inr (.inr (fun _ => none))))))] ++ cpW (lA L 0) (lA L 3) a0 (b + 22) ++ cpG (lA L 0) a1 (b + 44)) 0 rfl inlX2 tyX2_ok nmX2 (by decide) rfl rfl rfl rfl (Nat.le_of_ble_eq_true rfl) rfl rfl mF_X2_35 dX2_init_41 ?_
  refine n_aload_n C dX2_init_44 rfl 0 rfl ?_
  refine n_iconst C (v := 0) dX2_init_45 rfl ?_
  refine n_put C (ci := 2) (N := 6) (j := 5) (Cm := RX2) (T := TX2) (ty0 := tyX2) ([(h0, .inr (2, [.ref q0, .ref (a0 (b + 22)), .ref (a1 (b + 44)), .int 0, .int 0, .int 0])), (q0, .inl (lA L 3, 4, .inr (.inr (.inr (.inr (fun _ => none))))))] ++ cpW (lA L 0) (lA L 3) a0 (b + 22) ++ cpG (lA L 0) a1 (b + 44)) 0 rfl inlX2 tyX2_ok nmX2 (by decide) rfl rfl rfl rfl (Nat.le_of_ble_eq_true rfl) rfl rfl mF_X2_38 dX2_init_46 ?_
  refine n_iconst C (v := 0) dX2_init_49 rfl ?_
  refine n_istore_n C [(1, .int 0), (0, .ref h0)] dX2_init_50 rfl (by decide) rfl ?_
  refine n_iload_n C dX2_init_51 rfl 0 rfl ?_
  refine n_iconst C (v := 4) dX2_init_52 rfl ?_
  refine n_icmp_ge C (tgt := 75) dX2_init_53 (by decide) (fun q => absurd q (by decide)) (fun _ => ?_)
  refine n_aload_n C dX2_init_56 rfl 1 rfl ?_
  refine n_get C (ci := 2) (N := 6) (j := 0) (Cm := RX2) (T := TX2) 0 rfl inlX2 (by decide) rfl rfl rfl mF_X2_11 dX2_init_57 ?_
  refine n_iload_n C dX2_init_60 rfl 0 rfl ?_
  refine n_new C (ci := 3) (N := 8) (Cm := RX3) (T := TX3) (ty := tyX3) [.int 0, .int 0, .int 0, .int 0, .null, .null, .null, .null] rfl inlX3 tyX3_ok mK_X2_9 mB_X3 mZ_X3 hfs_3 (Nat.le_of_ble_eq_true rfl) (Nat.le_of_ble_eq_true rfl) dX2_init_61 (fun q3 => ?_)
  refine n_dup C dX2_init_64 rfl ?_
  refine n_callN C (fun sz => i_X3 l L q3 sz (b + 2)) mC_X3_init mZ_X3 (by decide +kernel) mI_X3_init rfl rfl rfl C.2.2.2.2.2.2.2.2.2.2.2.1 ⟨Nat.le_of_ble_eq_true rfl, Nat.le_of_ble_eq_true rfl⟩ (Nat.le_of_ble_eq_true rfl) ⟨Nat.le_of_ble_eq_true rfl, Nat.le_of_ble_eq_true rfl⟩ dX2_init_65 (fun a2 ea2 => ?_)
  subst ea2
  refine n_ws ([(h0, .inr (2, [.ref q0, .ref (a0 (b + 22)), .ref (a1 (b + 44)), .int 0, .int 0, .int 0])), (q0, .inl (lA L 3, 4, .inr (.inr (.inr (.inr (fun _ => none))))))] ++ cpW (lA L 0) (lA L 3) a0 (b + 22) ++ cpG (lA L 0) a1 (b + 44) ++ cpS (lA L 0) a2 (b + 2)) rfl ?_
  refine n_aast C (ci := 3) (r := (RX3, TX3, 8)) (k0 := 0) ([(h0, .inr (2, [.ref q0, .ref (a0 (b + 22)), .ref (a1 (b + 44)), .int 0, .int 0, .int 0])), (q0, .inl (lA L 3, 4, .inr (.inr (.inr (.inr (va_up (fun _ => none) 0 (some (a2 (b + 2)))))))))] ++ cpW (lA L 0) (lA L 3) a0 (b + 22) ++ cpG (lA L 0) a1 (b + 44) ++ cpS (lA L 0) a2 (b + 2)) 1 3 rfl rfl (List.mem_append_right _ (List.Mem.head _)) rfl (by unfold vp_in; decide) rfl rfl dX2_init_68 ?_
  refine n_iinc C (v := 1) [(1, .int 1), (0, .ref h0)] dX2_init_69 0 rfl rfl (by decide) rfl ?_
  refine n_goto C (tgt := 51) dX2_init_72 (by decide) ?_
  refine n_iload_n C dX2_init_51 rfl 0 rfl ?_
  refine n_iconst C (v := 4) dX2_init_52 rfl ?_
  refine n_icmp_ge C (tgt := 75) dX2_init_53 (by decide) (fun q => absurd q (by decide)) (fun _ => ?_)
  refine n_aload_n C dX2_init_56 rfl 1 rfl ?_
  refine n_get C (ci := 2) (N := 6) (j := 0) (Cm := RX2) (T := TX2) 0 rfl inlX2 (by decide) rfl rfl rfl mF_X2_11 dX2_init_57 ?_
  refine n_iload_n C dX2_init_60 rfl 0 rfl ?_
  refine n_new C (ci := 3) (N := 8) (Cm := RX3) (T := TX3) (ty := tyX3) [.int 0, .int 0, .int 0, .int 0, .null, .null, .null, .null] rfl inlX3 tyX3_ok mK_X2_9 mB_X3 mZ_X3 hfs_3 (Nat.le_of_ble_eq_true rfl) (Nat.le_of_ble_eq_true rfl) dX2_init_61 (fun q4 => ?_)
  refine n_dup C dX2_init_64 rfl ?_
  refine n_callN C (fun sz => i_X3 l L q4 sz (b + 7)) mC_X3_init mZ_X3 (by decide +kernel) mI_X3_init rfl rfl rfl C.2.2.2.2.2.2.2.2.2.2.2.1 ⟨Nat.le_of_ble_eq_true rfl, Nat.le_of_ble_eq_true rfl⟩ (Nat.le_of_ble_eq_true rfl) ⟨Nat.le_of_ble_eq_true rfl, Nat.le_of_ble_eq_true rfl⟩ dX2_init_65 (fun a3 ea3 => ?_)
  subst ea3
  refine n_ws ([(h0, .inr (2, [.ref q0, .ref (a0 (b + 22)), .ref (a1 (b + 44)), .int 0, .int 0, .int 0])), (q0, .inl (lA L 3, 4, .inr (.inr (.inr (.inr (va_up (fun _ => none) 0 (some (a2 (b + 2)))))))))] ++ cpW (lA L 0) (lA L 3) a0 (b + 22) ++ cpG (lA L 0) a1 (b + 44) ++ cpS (lA L 0) a2 (b + 2) ++ cpS (lA L 0) a3 (b + 7)) rfl ?_
  refine n_aast C (ci := 3) (r := (RX3, TX3, 8)) (k0 := 1) ([(h0, .inr (2, [.ref q0, .ref (a0 (b + 22)), .ref (a1 (b + 44)), .int 0, .int 0, .int 0])), (q0, .inl (lA L 3, 4, .inr (.inr (.inr (.inr (va_up (va_up (fun _ => none) 0 (some (a2 (b + 2)))) 1 (some (a3 (b + 7)))))))))] ++ cpW (lA L 0) (lA L 3) a0 (b + 22) ++ cpG (lA L 0) a1 (b + 44) ++ cpS (lA L 0) a2 (b + 2) ++ cpS (lA L 0) a3 (b + 7)) 1 3 rfl rfl (List.mem_append_right _ (List.Mem.head _)) rfl (by unfold vp_in; decide) rfl rfl dX2_init_68 ?_
  refine n_iinc C (v := 2) [(1, .int 2), (0, .ref h0)] dX2_init_69 0 rfl rfl (by decide) rfl ?_
  refine n_goto C (tgt := 51) dX2_init_72 (by decide) ?_
  refine n_iload_n C dX2_init_51 rfl 0 rfl ?_
  refine n_iconst C (v := 4) dX2_init_52 rfl ?_
  refine n_icmp_ge C (tgt := 75) dX2_init_53 (by decide) (fun q => absurd q (by decide)) (fun _ => ?_)
  refine n_aload_n C dX2_init_56 rfl 1 rfl ?_
  refine n_get C (ci := 2) (N := 6) (j := 0) (Cm := RX2) (T := TX2) 0 rfl inlX2 (by decide) rfl rfl rfl mF_X2_11 dX2_init_57 ?_
  refine n_iload_n C dX2_init_60 rfl 0 rfl ?_
  refine n_new C (ci := 3) (N := 8) (Cm := RX3) (T := TX3) (ty := tyX3) [.int 0, .int 0, .int 0, .int 0, .null, .null, .null, .null] rfl inlX3 tyX3_ok mK_X2_9 mB_X3 mZ_X3 hfs_3 (Nat.le_of_ble_eq_true rfl) (Nat.le_of_ble_eq_true rfl) dX2_init_61 (fun q5 => ?_)
  refine n_dup C dX2_init_64 rfl ?_
  refine n_callN C (fun sz => i_X3 l L q5 sz (b + 12)) mC_X3_init mZ_X3 (by decide +kernel) mI_X3_init rfl rfl rfl C.2.2.2.2.2.2.2.2.2.2.2.1 ⟨Nat.le_of_ble_eq_true rfl, Nat.le_of_ble_eq_true rfl⟩ (Nat.le_of_ble_eq_true rfl) ⟨Nat.le_of_ble_eq_true rfl, Nat.le_of_ble_eq_true rfl⟩ dX2_init_65 (fun a4 ea4 => ?_)
  subst ea4
  refine n_ws ([(h0, .inr (2, [.ref q0, .ref (a0 (b + 22)), .ref (a1 (b + 44)), .int 0, .int 0, .int 0])), (q0, .inl (lA L 3, 4, .inr (.inr (.inr (.inr (va_up (va_up (fun _ => none) 0 (some (a2 (b + 2)))) 1 (some (a3 (b + 7)))))))))] ++ cpW (lA L 0) (lA L 3) a0 (b + 22) ++ cpG (lA L 0) a1 (b + 44) ++ cpS (lA L 0) a2 (b + 2) ++ cpS (lA L 0) a3 (b + 7) ++ cpS (lA L 0) a4 (b + 12)) rfl ?_
  refine n_aast C (ci := 3) (r := (RX3, TX3, 8)) (k0 := 2) ([(h0, .inr (2, [.ref q0, .ref (a0 (b + 22)), .ref (a1 (b + 44)), .int 0, .int 0, .int 0])), (q0, .inl (lA L 3, 4, .inr (.inr (.inr (.inr (va_up (va_up (va_up (fun _ => none) 0 (some (a2 (b + 2)))) 1 (some (a3 (b + 7)))) 2 (some (a4 (b + 12)))))))))] ++ cpW (lA L 0) (lA L 3) a0 (b + 22) ++ cpG (lA L 0) a1 (b + 44) ++ cpS (lA L 0) a2 (b + 2) ++ cpS (lA L 0) a3 (b + 7) ++ cpS (lA L 0) a4 (b + 12)) 1 3 rfl rfl (List.mem_append_right _ (List.Mem.head _)) rfl (by unfold vp_in; decide) rfl rfl dX2_init_68 ?_
  refine n_iinc C (v := 3) [(1, .int 3), (0, .ref h0)] dX2_init_69 0 rfl rfl (by decide) rfl ?_
  refine n_goto C (tgt := 51) dX2_init_72 (by decide) ?_
  refine n_iload_n C dX2_init_51 rfl 0 rfl ?_
  refine n_iconst C (v := 4) dX2_init_52 rfl ?_
  refine n_icmp_ge C (tgt := 75) dX2_init_53 (by decide) (fun q => absurd q (by decide)) (fun _ => ?_)
  refine n_aload_n C dX2_init_56 rfl 1 rfl ?_
  refine n_get C (ci := 2) (N := 6) (j := 0) (Cm := RX2) (T := TX2) 0 rfl inlX2 (by decide) rfl rfl rfl mF_X2_11 dX2_init_57 ?_
  refine n_iload_n C dX2_init_60 rfl 0 rfl ?_
  refine n_new C (ci := 3) (N := 8) (Cm := RX3) (T := TX3) (ty := tyX3) [.int 0, .int 0, .int 0, .int 0, .null, .null, .null, .null] rfl inlX3 tyX3_ok mK_X2_9 mB_X3 mZ_X3 hfs_3 (Nat.le_of_ble_eq_true rfl) (Nat.le_of_ble_eq_true rfl) dX2_init_61 (fun q6 => ?_)
  refine n_dup C dX2_init_64 rfl ?_
  refine n_callN C (fun sz => i_X3 l L q6 sz (b + 17)) mC_X3_init mZ_X3 (by decide +kernel) mI_X3_init rfl rfl rfl C.2.2.2.2.2.2.2.2.2.2.2.1 ⟨Nat.le_of_ble_eq_true rfl, Nat.le_of_ble_eq_true rfl⟩ (Nat.le_of_ble_eq_true rfl) ⟨Nat.le_of_ble_eq_true rfl, Nat.le_of_ble_eq_true rfl⟩ dX2_init_65 (fun a5 ea5 => ?_)
  subst ea5
  refine n_ws ([(h0, .inr (2, [.ref q0, .ref (a0 (b + 22)), .ref (a1 (b + 44)), .int 0, .int 0, .int 0])), (q0, .inl (lA L 3, 4, .inr (.inr (.inr (.inr (va_up (va_up (va_up (fun _ => none) 0 (some (a2 (b + 2)))) 1 (some (a3 (b + 7)))) 2 (some (a4 (b + 12)))))))))] ++ cpW (lA L 0) (lA L 3) a0 (b + 22) ++ cpG (lA L 0) a1 (b + 44) ++ cpS (lA L 0) a2 (b + 2) ++ cpS (lA L 0) a3 (b + 7) ++ cpS (lA L 0) a4 (b + 12) ++ cpS (lA L 0) a5 (b + 17)) rfl ?_
  refine n_aast C (ci := 3) (r := (RX3, TX3, 8)) (k0 := 3) ([(h0, .inr (2, [.ref q0, .ref (a0 (b + 22)), .ref (a1 (b + 44)), .int 0, .int 0, .int 0])), (q0, .inl (lA L 3, 4, .inr (.inr (.inr (.inr (va_up (va_up (va_up (va_up (fun _ => none) 0 (some (a2 (b + 2)))) 1 (some (a3 (b + 7)))) 2 (some (a4 (b + 12)))) 3 (some (a5 (b + 17)))))))))] ++ cpW (lA L 0) (lA L 3) a0 (b + 22) ++ cpG (lA L 0) a1 (b + 44) ++ cpS (lA L 0) a2 (b + 2) ++ cpS (lA L 0) a3 (b + 7) ++ cpS (lA L 0) a4 (b + 12) ++ cpS (lA L 0) a5 (b + 17)) 1 3 rfl rfl (List.mem_append_right _ (List.Mem.head _)) rfl (by unfold vp_in; decide) rfl rfl dX2_init_68 ?_
  refine n_iinc C (v := 4) [(1, .int 4), (0, .ref h0)] dX2_init_69 0 rfl rfl (by decide) rfl ?_
  refine n_goto C (tgt := 51) dX2_init_72 (by decide) ?_
  refine n_iload_n C dX2_init_51 rfl 0 rfl ?_
  refine n_iconst C (v := 4) dX2_init_52 rfl ?_
  refine n_icmp_ge C (tgt := 75) dX2_init_53 (by decide) (fun _ => ?_) (fun q => absurd (by decide) q)
  obtain ⟨ad, hadd⟩ : ∃ ad : Nat → Nat, ad = fun k => if k = b then h0 else if k = b + 1 then q0 else if k < b + 7 then a2 k else if k < b + 12 then a3 k else if k < b + 17 then a4 k else if k < b + 22 then a5 k else if k < b + 44 then a0 k else a1 k := ⟨_, rfl⟩
  have f0 : ad b = h0 := (by rw [hadd]; dsimp only; repeat (first | rw [if_pos (by omega)] | rw [if_neg (by omega)]))
  have f1 : ad (b + 1) = q0 := (by rw [hadd]; dsimp only; repeat (first | rw [if_pos (by omega)] | rw [if_neg (by omega)]))
  have ga0 : cpW (lA L 0) (lA L 3) a0 (b + 22) = cpW (lA L 0) (lA L 3) ad (b + 22) := cpW_congr (by intro k x y; rw [hadd]; dsimp only; repeat (first | rw [if_pos (by omega)] | rw [if_neg (by omega)]))
  have va0 : ad (b + 22) = a0 (b + 22) := (by rw [hadd]; dsimp only; repeat (first | rw [if_pos (by omega)] | rw [if_neg (by omega)]))
  have ga1 : cpG (lA L 0) a1 (b + 44) = cpG (lA L 0) ad (b + 44) := cpG_congr (by intro k x y; rw [hadd]; dsimp only; repeat (first | rw [if_pos (by omega)] | rw [if_neg (by omega)]))
  have va1 : ad (b + 44) = a1 (b + 44) := (by rw [hadd]; dsimp only; repeat (first | rw [if_pos (by omega)] | rw [if_neg (by omega)]))
  have ga2 : cpS (lA L 0) a2 (b + 2) = cpS (lA L 0) ad (b + 2) := cpS_congr (by intro k x y; rw [hadd]; dsimp only; repeat (first | rw [if_pos (by omega)] | rw [if_neg (by omega)]))
  have va2 : ad (b + 2) = a2 (b + 2) := (by rw [hadd]; dsimp only; repeat (first | rw [if_pos (by omega)] | rw [if_neg (by omega)]))
  have ga3 : cpS (lA L 0) a3 (b + 7) = cpS (lA L 0) ad (b + 7) := cpS_congr (by intro k x y; rw [hadd]; dsimp only; repeat (first | rw [if_pos (by omega)] | rw [if_neg (by omega)]))
  have va3 : ad (b + 7) = a3 (b + 7) := (by rw [hadd]; dsimp only; repeat (first | rw [if_pos (by omega)] | rw [if_neg (by omega)]))
  have ga4 : cpS (lA L 0) a4 (b + 12) = cpS (lA L 0) ad (b + 12) := cpS_congr (by intro k x y; rw [hadd]; dsimp only; repeat (first | rw [if_pos (by omega)] | rw [if_neg (by omega)]))
  have va4 : ad (b + 12) = a4 (b + 12) := (by rw [hadd]; dsimp only; repeat (first | rw [if_pos (by omega)] | rw [if_neg (by omega)]))
  have ga5 : cpS (lA L 0) a5 (b + 17) = cpS (lA L 0) ad (b + 17) := cpS_congr (by intro k x y; rw [hadd]; dsimp only; repeat (first | rw [if_pos (by omega)] | rw [if_neg (by omega)]))
  have va5 : ad (b + 17) = a5 (b + 17) := (by rw [hadd]; dsimp only; repeat (first | rw [if_pos (by omega)] | rw [if_neg (by omega)]))
  refine n_ret C dX2_init_75 hret hlk ad f0 ?_ ⟨Nat.le_of_ble_eq_true rfl, Nat.le_of_ble_eq_true rfl⟩
  show _ = cpT (lA L 0) (lA L 3) ad b
  unfold cpT
  rw [ga0, ga1, ga2, ga3, ga4, ga5, f0, f1, va0, va1, rqf_4 (ad := ad) (b := b + 2) (d := 5) va2 va3 va4 va5]
