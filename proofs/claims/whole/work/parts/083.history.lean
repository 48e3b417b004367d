abbrev rmi_X0 : Room := { frames := 4, cells := 197, slots := 3816, locals := 74 }
set_option maxHeartbeats 4000000 in
set_option maxRecDepth 100000 in
theorem i_X0 (l : Launch) (L : Ly) (h0 sz : Nat) : Met l yX0_init (.code yX0_init cX0_init 2 none :: wA) rmi_X0 (va_Pc [.ref h0] (cB L sz [(h0, .inr (0, [.null, .int 0, .int 0]))])) (va_Qv (fun ad : Nat → Nat => ad 300 = h0) (cE L (va_A [(h0, .inr (0, [.null, .int 0, .int 0]))] sz) (fun ad : Nat → Nat => cpH (lA L 0) (lA L 3) (lA L 2) ad)) (va_A [(h0, .inr (0, [.null, .int 0, .int 0]))] sz)) 197 3816 (va_A [(h0, .inr (0, [.null, .int 0, .int 0]))] sz) := by
  refine n_start (own := RX0) [(0, .ref h0)] (by decide) rfl (Nat.le_of_ble_eq_true rfl) rfl (fun p e s m args below meth c C hret hlk hnm => ?_)
  refine n_aload_n C dX0_init_0 rfl 0 rfl ?_
  refine n_objInit C mM_X0_3 (Nat.le_of_ble_eq_true rfl) (Nat.le_of_ble_eq_true rfl) dX0_init_1 ?_
  refine n_aload_n C dX0_init_4 rfl 0 rfl ?_
  refine n_iconst C (v := 4) dX0_init_5 rfl ?_
  refine n_newq C (Cm := "FloorTops$State") 2 (N := 4) C.2.2.2.2.2.2.2.1 rfl rfl mK_X0_9 (by decide) rfl (Nat.le_of_ble_eq_true rfl) (Nat.le_of_ble_eq_true rfl) (Nat.le_of_ble_eq_true rfl) dX0_init_6 (fun q0 => ?_)
  refine n_ws [(h0, .inr (0, [.null, .int 0, .int 0])), (q0, .inl (lA L 2, 4, .inr (.inr (.inr (.inr (fun _ => none))))))] rfl ?_
  refine n_putF C (ci := 0) (N := 3) (j := 0) (Cm := RX0) (T := TX0) (ty0 := tyX0) [(h0, .inr (0, [.ref q0, .int 0, .int 0])), (q0, .inl (lA L 2, 4, .inr (.inr (.inr (.inr (fun _ => none))))))] 0 rfl inlX0 tyX0_ok nmX0 (by decide) rfl rfl hnm rfl rfl (Nat.le_of_ble_eq_true rfl) rfl rfl mF_X0_11 dX0_init_9 ?_
  refine n_aload_n C dX0_init_12 rfl 0 rfl ?_
  refine n_iconst C (v := 0) dX0_init_13 rfl ?_
  refine n_put C (ci := 0) (N := 3) (j := 1) (Cm := RX0) (T := TX0) (ty0 := tyX0) [(h0, .inr (0, [.ref q0, .int 0, .int 0])), (q0, .inl (lA L 2, 4, .inr (.inr (.inr (.inr (fun _ => none))))))] 0 rfl inlX0 tyX0_ok nmX0 (by decide) rfl rfl rfl rfl (Nat.le_of_ble_eq_true rfl) rfl rfl mF_X0_17 dX0_init_14 ?_
  refine n_aload_n C dX0_init_17 rfl 0 rfl ?_
  refine n_iconst C (v := 0) dX0_init_18 rfl ?_
  refine n_put C (ci := 0) (N := 3) (j := 2) (Cm := RX0) (T := TX0) (ty0 := tyX0) [(h0, .inr (0, [.ref q0, .int 0, .int 0])), (q0, .inl (lA L 2, 4, .inr (.inr (.inr (.inr (fun _ => none))))))] 0 rfl inlX0 tyX0_ok nmX0 (by decide) rfl rfl rfl rfl (Nat.le_of_ble_eq_true rfl) rfl rfl mF_X0_21 dX0_init_19 ?_
  refine n_iconst C (v := 0) dX0_init_22 rfl ?_
  refine n_istore_n C [(1, .int 0), (0, .ref h0)] dX0_init_23 rfl (by decide) rfl ?_
  refine n_iload_n C dX0_init_24 rfl 0 rfl ?_
  refine n_iconst C (v := 4) dX0_init_25 rfl ?_
  refine n_icmp_ge C (tgt := 48) dX0_init_26 (by decide) (fun q => absurd q (by decide)) (fun _ => ?_)
  refine n_aload_n C dX0_init_29 rfl 1 rfl ?_
  refine n_get C (ci := 0) (N := 3) (j := 0) (Cm := RX0) (T := TX0) 0 rfl inlX0 (by decide) rfl rfl rfl mF_X0_11 dX0_init_30 ?_
  refine n_iload_n C dX0_init_33 rfl 0 rfl ?_
  refine n_new C (ci := 2) (N := 6) (Cm := RX2) (T := TX2) (ty := tyX2) [.null, .null, .null, .int 0, .int 0, .int 0] rfl inlX2 tyX2_ok mK_X0_9 mB_X2 mZ_X2 hfs_2 (Nat.le_of_ble_eq_true rfl) (Nat.le_of_ble_eq_true rfl) dX0_init_34 (fun q1 => ?_)
  refine n_dup C dX0_init_37 rfl ?_
  refine n_callI C (fun sz => i_X2 l L q1 sz (49)) mC_X2_init mZ_X2 (by decide +kernel) mI_X2_init rfl rfl rfl mM_X0_24 ⟨Nat.le_of_ble_eq_true rfl, Nat.le_of_ble_eq_true rfl⟩ (Nat.le_of_ble_eq_true rfl) ⟨Nat.le_of_ble_eq_true rfl, Nat.le_of_ble_eq_true rfl⟩ dX0_init_38 (fun a0 ea0 => ?_)
  subst ea0
  refine n_ws ([(h0, .inr (0, [.ref q0, .int 0, .int 0])), (q0, .inl (lA L 2, 4, .inr (.inr (.inr (.inr (fun _ => none))))))] ++ cpT (lA L 0) (lA L 3) a0 (49)) rfl ?_
  refine n_aast C (ci := 2) (r := (RX2, TX2, 6)) (k0 := 0) ([(h0, .inr (0, [.ref q0, .int 0, .int 0])), (q0, .inl (lA L 2, 4, .inr (.inr (.inr (.inr (va_up (fun _ => none) 0 (some (a0 49))))))))] ++ cpT (lA L 0) (lA L 3) a0 (49)) 1 2 rfl rfl (List.mem_append_right _ (List.Mem.head _)) rfl (by unfold vp_in; decide) rfl rfl dX0_init_41 ?_
  refine n_iinc C (v := 1) [(1, .int 1), (0, .ref h0)] dX0_init_42 0 rfl rfl (by decide) rfl ?_
  refine n_goto C (tgt := 24) dX0_init_45 (by decide) ?_
  refine n_iload_n C dX0_init_24 rfl 0 rfl ?_
  refine n_iconst C (v := 4) dX0_init_25 rfl ?_
  refine n_icmp_ge C (tgt := 48) dX0_init_26 (by decide) (fun q => absurd q (by decide)) (fun _ => ?_)
  refine n_aload_n C dX0_init_29 rfl 1 rfl ?_
  refine n_get C (ci := 0) (N := 3) (j := 0) (Cm := RX0) (T := TX0) 0 rfl inlX0 (by decide) rfl rfl rfl mF_X0_11 dX0_init_30 ?_
  refine n_iload_n C dX0_init_33 rfl 0 rfl ?_
  refine n_new C (ci := 2) (N := 6) (Cm := RX2) (T := TX2) (ty := tyX2) [.null, .null, .null, .int 0, .int 0, .int 0] rfl inlX2 tyX2_ok mK_X0_9 mB_X2 mZ_X2 hfs_2 (Nat.le_of_ble_eq_true rfl) (Nat.le_of_ble_eq_true rfl) dX0_init_34 (fun q2 => ?_)
  refine n_dup C dX0_init_37 rfl ?_
  refine n_callI C (fun sz => i_X2 l L q2 sz (98)) mC_X2_init mZ_X2 (by decide +kernel) mI_X2_init rfl rfl rfl mM_X0_24 ⟨Nat.le_of_ble_eq_true rfl, Nat.le_of_ble_eq_true rfl⟩ (Nat.le_of_ble_eq_true rfl) ⟨Nat.le_of_ble_eq_true rfl, Nat.le_of_ble_eq_true rfl⟩ dX0_init_38 (fun a1 ea1 => ?_)
  subst ea1
  refine n_ws ([(h0, .inr (0, [.ref q0, .int 0, .int 0])), (q0, .inl (lA L 2, 4, .inr (.inr (.inr (.inr (va_up (fun _ => none) 0 (some (a0 49))))))))] ++ cpT (lA L 0) (lA L 3) a0 (49) ++ cpT (lA L 0) (lA L 3) a1 (98)) rfl ?_
  refine n_aast C (ci := 2) (r := (RX2, TX2, 6)) (k0 := 1) ([(h0, .inr (0, [.ref q0, .int 0, .int 0])), (q0, .inl (lA L 2, 4, .inr (.inr (.inr (.inr (va_up (va_up (fun _ => none) 0 (some (a0 49))) 1 (some (a1 98))))))))] ++ cpT (lA L 0) (lA L 3) a0 (49) ++ cpT (lA L 0) (lA L 3) a1 (98)) 1 2 rfl rfl (List.mem_append_right _ (List.Mem.head _)) rfl (by unfold vp_in; decide) rfl rfl dX0_init_41 ?_
  refine n_iinc C (v := 2) [(1, .int 2), (0, .ref h0)] dX0_init_42 0 rfl rfl (by decide) rfl ?_
  refine n_goto C (tgt := 24) dX0_init_45 (by decide) ?_
  refine n_iload_n C dX0_init_24 rfl 0 rfl ?_
  refine n_iconst C (v := 4) dX0_init_25 rfl ?_
  refine n_icmp_ge C (tgt := 48) dX0_init_26 (by decide) (fun q => absurd q (by decide)) (fun _ => ?_)
  refine n_aload_n C dX0_init_29 rfl 1 rfl ?_
  refine n_get C (ci := 0) (N := 3) (j := 0) (Cm := RX0) (T := TX0) 0 rfl inlX0 (by decide) rfl rfl rfl mF_X0_11 dX0_init_30 ?_
  refine n_iload_n C dX0_init_33 rfl 0 rfl ?_
  refine n_new C (ci := 2) (N := 6) (Cm := RX2) (T := TX2) (ty := tyX2) [.null, .null, .null, .int 0, .int 0, .int 0] rfl inlX2 tyX2_ok mK_X0_9 mB_X2 mZ_X2 hfs_2 (Nat.le_of_ble_eq_true rfl) (Nat.le_of_ble_eq_true rfl) dX0_init_34 (fun q3 => ?_)
  refine n_dup C dX0_init_37 rfl ?_
  refine n_callI C (fun sz => i_X2 l L q3 sz (147)) mC_X2_init mZ_X2 (by decide +kernel) mI_X2_init rfl rfl rfl mM_X0_24 ⟨Nat.le_of_ble_eq_true rfl, Nat.le_of_ble_eq_true rfl⟩ (Nat.le_of_ble_eq_true rfl) ⟨Nat.le_of_ble_eq_true rfl, Nat.le_of_ble_eq_true rfl⟩ dX0_init_38 (fun a2 ea2 => ?_)
  subst ea2
  refine n_ws ([(h0, .inr (0, [.ref q0, .int 0, .int 0])), (q0, .inl (lA L 2, 4, .inr (.inr (.inr (.inr (va_up (va_up (fun _ => none) 0 (some (a0 49))) 1 (some (a1 98))))))))] ++ cpT (lA L 0) (lA L 3) a0 (49) ++ cpT (lA L 0) (lA L 3) a1 (98) ++ cpT (lA L 0) (lA L 3) a2 (147)) rfl ?_
  refine n_aast C (ci := 2) (r := (RX2, TX2, 6)) (k0 := 2) ([(h0, .inr (0, [.ref q0, .int 0, .int 0])), (q0, .inl (lA L 2, 4, .inr (.inr (.inr (.inr (va_up (va_up (va_up (fun _ => none) 0 (some (a0 49))) 1 (some (a1 98))) 2 (some (a2 147))))))))] ++ cpT (lA L 0) (lA L 3) a0 (49) ++ cpT (lA L 0) (lA L 3) a1 (98) ++ cpT (lA L 0) (lA L 3) a2 (147)) 1 2 rfl rfl (List.mem_append_right _ (List.Mem.head _)) rfl (by unfold vp_in; decide) rfl rfl dX0_init_41 ?_
  refine n_iinc C (v := 3) [(1, .int 3), (0, .ref h0)] dX0_init_42 0 rfl rfl (by decide) rfl ?_
  refine n_goto C (tgt := 24) dX0_init_45 (by decide) ?_
  refine n_iload_n C dX0_init_24 rfl 0 rfl ?_
  refine n_iconst C (v := 4) dX0_init_25 rfl ?_
  refine n_icmp_ge C (tgt := 48) dX0_init_26 (by decide) (fun q => absurd q (by decide)) (fun _ => ?_)
  refine n_aload_n C dX0_init_29 rfl 1 rfl ?_
  refine n_get C (ci := 0) (N := 3) (j := 0) (Cm := RX0) (T := TX0) 0 rfl inlX0 (by decide) rfl rfl rfl mF_X0_11 dX0_init_30 ?_
  refine n_iload_n C dX0_init_33 rfl 0 rfl ?_
  refine n_new C (ci := 2) (N := 6) (Cm := RX2) (T := TX2) (ty := tyX2) [.null, .null, .null, .int 0, .int 0, .int 0] rfl inlX2 tyX2_ok mK_X0_9 mB_X2 mZ_X2 hfs_2 (Nat.le_of_ble_eq_true rfl) (Nat.le_of_ble_eq_true rfl) dX0_init_34 (fun q4 => ?_)
  refine n_dup C dX0_init_37 rfl ?_
  refine n_callI C (fun sz => i_X2 l L q4 sz (196)) mC_X2_init mZ_X2 (by decide +kernel) mI_X2_init rfl rfl rfl mM_X0_24 ⟨Nat.le_of_ble_eq_true rfl, Nat.le_of_ble_eq_true rfl⟩ (Nat.le_of_ble_eq_true rfl) ⟨Nat.le_of_ble_eq_true rfl, Nat.le_of_ble_eq_true rfl⟩ dX0_init_38 (fun a3 ea3 => ?_)
  subst ea3
  refine n_ws ([(h0, .inr (0, [.ref q0, .int 0, .int 0])), (q0, .inl (lA L 2, 4, .inr (.inr (.inr (.inr (va_up (va_up (va_up (fun _ => none) 0 (some (a0 49))) 1 (some (a1 98))) 2 (some (a2 147))))))))] ++ cpT (lA L 0) (lA L 3) a0 (49) ++ cpT (lA L 0) (lA L 3) a1 (98) ++ cpT (lA L 0) (lA L 3) a2 (147) ++ cpT (lA L 0) (lA L 3) a3 (196)) rfl ?_
  refine n_aast C (ci := 2) (r := (RX2, TX2, 6)) (k0 := 3) ([(h0, .inr (0, [.ref q0, .int 0, .int 0])), (q0, .inl (lA L 2, 4, .inr (.inr (.inr (.inr (va_up (va_up (va_up (va_up (fun _ => none) 0 (some (a0 49))) 1 (some (a1 98))) 2 (some (a2 147))) 3 (some (a3 196))))))))] ++ cpT (lA L 0) (lA L 3) a0 (49) ++ cpT (lA L 0) (lA L 3) a1 (98) ++ cpT (lA L 0) (lA L 3) a2 (147) ++ cpT (lA L 0) (lA L 3) a3 (196)) 1 2 rfl rfl (List.mem_append_right _ (List.Mem.head _)) rfl (by unfold vp_in; decide) rfl rfl dX0_init_41 ?_
  refine n_iinc C (v := 4) [(1, .int 4), (0, .ref h0)] dX0_init_42 0 rfl rfl (by decide) rfl ?_
  refine n_goto C (tgt := 24) dX0_init_45 (by decide) ?_
  refine n_iload_n C dX0_init_24 rfl 0 rfl ?_
  refine n_iconst C (v := 4) dX0_init_25 rfl ?_
  refine n_icmp_ge C (tgt := 48) dX0_init_26 (by decide) (fun _ => ?_) (fun q => absurd (by decide) q)
  obtain ⟨ad, hadd⟩ : ∃ ad : Nat → Nat, ad = fun k => if k = 300 then h0 else if k = 301 then q0 else if k < 98 then a0 k else if k < 147 then a1 k else if k < 196 then a2 k else a3 k := ⟨_, rfl⟩
  have f0 : ad 300 = h0 := (by rw [hadd]; dsimp only; repeat (first | rw [if_pos (by omega)] | rw [if_neg (by omega)]))
  have f1 : ad 301 = q0 := (by rw [hadd]; dsimp only; repeat (first | rw [if_pos (by omega)] | rw [if_neg (by omega)]))
  have ga0 : cpT (lA L 0) (lA L 3) a0 (49) = cpT (lA L 0) (lA L 3) ad (49) := cpT_congr (by intro k x y; rw [hadd]; dsimp only; repeat (first | rw [if_pos (by omega)] | rw [if_neg (by omega)]))
  have va0 : ad (49) = a0 (49) := (by rw [hadd]; dsimp only; repeat (first | rw [if_pos (by omega)] | rw [if_neg (by omega)]))
  have ga1 : cpT (lA L 0) (lA L 3) a1 (98) = cpT (lA L 0) (lA L 3) ad (98) := cpT_congr (by intro k x y; rw [hadd]; dsimp only; repeat (first | rw [if_pos (by omega)] | rw [if_neg (by omega)]))
  have va1 : ad (98) = a1 (98) := (by rw [hadd]; dsimp only; repeat (first | rw [if_pos (by omega)] | rw [if_neg (by omega)]))
  have ga2 : cpT (lA L 0) (lA L 3) a2 (147) = cpT (lA L 0) (lA L 3) ad (147) := cpT_congr (by intro k x y; rw [hadd]; dsimp only; repeat (first | rw [if_pos (by omega)] | rw [if_neg (by omega)]))
  have va2 : ad (147) = a2 (147) := (by rw [hadd]; dsimp only; repeat (first | rw [if_pos (by omega)] | rw [if_neg (by omega)]))
  have ga3 : cpT (lA L 0) (lA L 3) a3 (196) = cpT (lA L 0) (lA L 3) ad (196) := cpT_congr (by intro k x y; rw [hadd]; dsimp only; repeat (first | rw [if_pos (by omega)] | rw [if_neg (by omega)]))
  have va3 : ad (196) = a3 (196) := (by rw [hadd]; dsimp only; repeat (first | rw [if_pos (by omega)] | rw [if_neg (by omega)]))
  refine n_ret C dX0_init_48 hret hlk ad f0 ?_ ⟨Nat.le_of_ble_eq_true rfl, Nat.le_of_ble_eq_true rfl⟩
  show _ = cpH (lA L 0) (lA L 3) (lA L 2) ad
  unfold cpH
  rw [ga0, ga1, ga2, ga3, f0, f1, rqf_4 (ad := ad) (b := 49) (d := 49) va0 va1 va2 va3]
