abbrev rmi_X5 : Room := { frames := 2, cells := 21, slots := 452, locals := 32 }
set_option maxHeartbeats 4000000 in
set_option maxRecDepth 100000 in
theorem i_X5 (l : Launch) (L : Ly) (h0 sz b : Nat) : Met l yX5_init (.code yX5_init cX5_init 2 none :: wA) rmi_X5 (va_Pc [.ref h0] (cB L sz [(h0, .inr (5, [.null, .int 0, .int 0, .int 0, .int 0]))])) (va_Qv (fun ad : Nat → Nat => ad b = h0) (cE L (va_A [(h0, .inr (5, [.null, .int 0, .int 0, .int 0, .int 0]))] sz) (fun ad : Nat → Nat => cpW (lA L 0) (lA L 3) ad b)) (va_A [(h0, .inr (5, [.null, .int 0, .int 0, .int 0, .int 0]))] sz)) 21 452 (va_A [(h0, .inr (5, [.null, .int 0, .int 0, .int 0, .int 0]))] sz) := by
  refine n_start (own := RX5) [(0, .ref h0)] (by decide) rfl (Nat.le_of_ble_eq_true rfl) rfl (fun p e s m args below meth c C hret hlk hnm => ?_)
  refine n_aload_n C dX5_init_0 rfl 0 rfl ?_
  refine n_objInit C mM_X5_3 (Nat.le_of_ble_eq_true rfl) (Nat.le_of_ble_eq_true rfl) dX5_init_1 ?_
  refine n_aload_n C dX5_init_4 rfl 0 rfl ?_
  refine n_iconst C (v := 4) dX5_init_5 rfl ?_
  refine n_newq C (Cm := "FloorTops$Summary") 3 (N := 4) C.2.2.2.2.2.2.2.2.1 rfl rfl mK_X5_9 (by decide) rfl (Nat.le_of_ble_eq_true rfl) (Nat.le_of_ble_eq_true rfl) (Nat.le_of_ble_eq_true rfl) dX5_init_6 (fun q0 => ?_)
  refine n_ws [(h0, .inr (5, [.null, .int 0, .int 0, .int 0, .int 0])), (q0, .inl (lA L 3, 4, .inr (.inr (.inr (.inr (fun _ => none))))))] rfl ?_
  refine n_putF C (ci := 5) (N := 5) (j := 0) (Cm := RX5) (T := TX5) (ty0 := tyX5) [(h0, .inr (5, [.ref q0, .int 0, .int 0, .int 0, .int 0])), (q0, .inl (lA L 3, 4, .inr (.inr (.inr (.inr (fun _ => none))))))] 0 rfl inlX5 tyX5_ok nmX5 (by decide) rfl rfl hnm rfl rfl (Nat.le_of_ble_eq_true rfl) rfl rfl mF_X5_11 dX5_init_9 ?_
  refine n_aload_n C dX5_init_12 rfl 0 rfl ?_
  refine n_iconst C (v := 0) dX5_init_13 rfl ?_
  refine n_put C (ci := 5) (N := 5) (j := 1) (Cm := RX5) (T := TX5) (ty0 := tyX5) [(h0, .inr (5, [.ref q0, .int 0, .int 0, .int 0, .int 0])), (q0, .inl (lA L 3, 4, .inr (.inr (.inr (.inr (fun _ => none))))))] 0 rfl inlX5 tyX5_ok nmX5 (by decide) rfl rfl rfl rfl (Nat.le_of_ble_eq_true rfl) rfl rfl mF_X5_17 dX5_init_14 ?_
  refine n_aload_n C dX5_init_17 rfl 0 rfl ?_
  refine n_iconst C (v := 1) dX5_init_18 rfl ?_
  refine n_put C (ci := 5) (N := 5) (j := 2) (Cm := RX5) (T := TX5) (ty0 := tyX5) [(h0, .inr (5, [.ref q0, .int 0, .int 1, .int 0, .int 0])), (q0, .inl (lA L 3, 4, .inr (.inr (.inr (.inr (fun _ => none))))))] 0 rfl inlX5 tyX5_ok nmX5 (by decide) rfl rfl rfl rfl (Nat.le_of_ble_eq_true rfl) rfl rfl mF_X5_21 dX5_init_19 ?_
  refine n_aload_n C dX5_init_22 rfl 0 rfl ?_
  refine n_iconst C (v := 1) dX5_init_23 rfl ?_
  refine n_put C (ci := 5) (N := 5) (j := 3) (Cm := RX5) (T := TX5) (ty0 := tyX5) [(h0, .inr (5, [.ref q0, .int 0, .int 1, .int 1, .int 0])), (q0, .inl (lA L 3, 4, .inr (.inr (.inr (.inr (fun _ => none))))))] 0 rfl inlX5 tyX5_ok nmX5 (by decide) rfl rfl rfl rfl (Nat.le_of_ble_eq_true rfl) rfl rfl mF_X5_24 dX5_init_24 ?_
  refine n_aload_n C dX5_init_27 rfl 0 rfl ?_
  refine n_iconst C (v := 0) dX5_init_28 rfl ?_
  refine n_put C (ci := 5) (N := 5) (j := 4) (Cm := RX5) (T := TX5) (ty0 := tyX5) [(h0, .inr (5, [.ref q0, .int 0, .int 1, .int 1, .int 0])), (q0, .inl (lA L 3, 4, .inr (.inr (.inr (.inr (fun _ => none))))))] 0 rfl inlX5 tyX5_ok nmX5 (by decide) rfl rfl rfl rfl (Nat.le_of_ble_eq_true rfl) rfl rfl mF_X5_27 dX5_init_29 ?_
  refine n_iconst C (v := 0) dX5_init_32 rfl ?_
  refine n_istore_n C [(1, .int 0), (0, .ref h0)] dX5_init_33 rfl (by decide) rfl ?_
  refine n_iload_n C dX5_init_34 rfl 0 rfl ?_
  refine n_iconst C (v := 4) dX5_init_35 rfl ?_
  refine n_icmp_ge C (tgt := 58) dX5_init_36 (by decide) (fun q => absurd q (by decide)) (fun _ => ?_)
  refine n_aload_n C dX5_init_39 rfl 1 rfl ?_
  refine n_get C (ci := 5) (N := 5) (j := 0) (Cm := RX5) (T := TX5) 0 rfl inlX5 (by decide) rfl rfl rfl mF_X5_11 dX5_init_40 ?_
  refine n_iload_n C dX5_init_43 rfl 0 rfl ?_
  refine n_new C (ci := 3) (N := 8) (Cm := RX3) (T := TX3) (ty := tyX3) [.int 0, .int 0, .int 0, .int 0, .null, .null, .null, .null] rfl inlX3 tyX3_ok mK_X5_9 mB_X3 mZ_X3 hfs_3 (Nat.le_of_ble_eq_true rfl) (Nat.le_of_ble_eq_true rfl) dX5_init_44 (fun q1 => ?_)
  refine n_dup C dX5_init_47 rfl ?_
  refine n_callN C (fun sz => i_X3 l L q1 sz (b + 2)) mC_X3_init mZ_X3 (by decide +kernel) mI_X3_init rfl rfl rfl C.2.2.2.2.2.2.2.2.2.1 ⟨Nat.le_of_ble_eq_true rfl, Nat.le_of_ble_eq_true rfl⟩ (Nat.le_of_ble_eq_true rfl) ⟨Nat.le_of_ble_eq_true rfl, Nat.le_of_ble_eq_true rfl⟩ dX5_init_48 (fun a0 ea0 => ?_)
  subst ea0
  refine n_ws ([(h0, .inr (5, [.ref q0, .int 0, .int 1, .int 1, .int 0])), (q0, .inl (lA L 3, 4, .inr (.inr (.inr (.inr (fun _ => none))))))] ++ cpS (lA L 0) a0 (b + 2)) rfl ?_
  refine n_aast C (ci := 3) (r := (RX3, TX3, 8)) (k0 := 0) ([(h0, .inr (5, [.ref q0, .int 0, .int 1, .int 1, .int 0])), (q0, .inl (lA L 3, 4, .inr (.inr (.inr (.inr (va_up (fun _ => none) 0 (some (a0 (b + 2)))))))))] ++ cpS (lA L 0) a0 (b + 2)) 1 3 rfl rfl (List.mem_append_right _ (List.Mem.head _)) rfl (by unfold vp_in; decide) rfl rfl dX5_init_51 ?_
  refine n_iinc C (v := 1) [(1, .int 1), (0, .ref h0)] dX5_init_52 0 rfl rfl (by decide) rfl ?_
  refine n_goto C (tgt := 34) dX5_init_55 (by decide) ?_
  refine n_iload_n C dX5_init_34 rfl 0 rfl ?_
  refine n_iconst C (v := 4) dX5_init_35 rfl ?_
  refine n_icmp_ge C (tgt := 58) dX5_init_36 (by decide) (fun q => absurd q (by decide)) (fun _ => ?_)
  refine n_aload_n C dX5_init_39 rfl 1 rfl ?_
  refine n_get C (ci := 5) (N := 5) (j := 0) (Cm := RX5) (T := TX5) 0 rfl inlX5 (by decide) rfl rfl rfl mF_X5_11 dX5_init_40 ?_
  refine n_iload_n C dX5_init_43 rfl 0 rfl ?_
  refine n_new C (ci := 3) (N := 8) (Cm := RX3) (T := TX3) (ty := tyX3) [.int 0, .int 0, .int 0, .int 0, .null, .null, .null, .null] rfl inlX3 tyX3_ok mK_X5_9 mB_X3 mZ_X3 hfs_3 (Nat.le_of_ble_eq_true rfl) (Nat.le_of_ble_eq_true rfl) dX5_init_44 (fun q2 => ?_)
  refine n_dup C dX5_init_47 rfl ?_
  refine n_callN C (fun sz => i_X3 l L q2 sz (b + 7)) mC_X3_init mZ_X3 (by decide +kernel) mI_X3_init rfl rfl rfl C.2.2.2.2.2.2.2.2.2.1 ⟨Nat.le_of_ble_eq_true rfl, Nat.le_of_ble_eq_true rfl⟩ (Nat.le_of_ble_eq_true rfl) ⟨Nat.le_of_ble_eq_true rfl, Nat.le_of_ble_eq_true rfl⟩ dX5_init_48 (fun a1 ea1 => ?_)
  subst ea1
  refine n_ws ([(h0, .inr (5, [.ref q0, .int 0, .int 1, .int 1, .int 0])), (q0, .inl (lA L 3, 4, .inr (.inr (.inr (.inr (va_up (fun _ => none) 0 (some (a0 (b + 2)))))))))] ++ cpS (lA L 0) a0 (b + 2) ++ cpS (lA L 0) a1 (b + 7)) rfl ?_
  refine n_aast C (ci := 3) (r := (RX3, TX3, 8)) (k0 := 1) ([(h0, .inr (5, [.ref q0, .int 0, .int 1, .int 1, .int 0])), (q0, .inl (lA L 3, 4, .inr (.inr (.inr (.inr (va_up (va_up (fun _ => none) 0 (some (a0 (b + 2)))) 1 (some (a1 (b + 7)))))))))] ++ cpS (lA L 0) a0 (b + 2) ++ cpS (lA L 0) a1 (b + 7)) 1 3 rfl rfl (List.mem_append_right _ (List.Mem.head _)) rfl (by unfold vp_in; decide) rfl rfl dX5_init_51 ?_
  refine n_iinc C (v := 2) [(1, .int 2), (0, .ref h0)] dX5_init_52 0 rfl rfl (by decide) rfl ?_
  refine n_goto C (tgt := 34) dX5_init_55 (by decide) ?_
  refine n_iload_n C dX5_init_34 rfl 0 rfl ?_
  refine n_iconst C (v := 4) dX5_init_35 rfl ?_
  refine n_icmp_ge C (tgt := 58) dX5_init_36 (by decide) (fun q => absurd q (by decide)) (fun _ => ?_)
  refine n_aload_n C dX5_init_39 rfl 1 rfl ?_
  refine n_get C (ci := 5) (N := 5) (j := 0) (Cm := RX5) (T := TX5) 0 rfl inlX5 (by decide) rfl rfl rfl mF_X5_11 dX5_init_40 ?_
  refine n_iload_n C dX5_init_43 rfl 0 rfl ?_
  refine n_new C (ci := 3) (N := 8) (Cm := RX3) (T := TX3) (ty := tyX3) [.int 0, .int 0, .int 0, .int 0, .null, .null, .null, .null] rfl inlX3 tyX3_ok mK_X5_9 mB_X3 mZ_X3 hfs_3 (Nat.le_of_ble_eq_true rfl) (Nat.le_of_ble_eq_true rfl) dX5_init_44 (fun q3 => ?_)
  refine n_dup C dX5_init_47 rfl ?_
  refine n_callN C (fun sz => i_X3 l L q3 sz (b + 12)) mC_X3_init mZ_X3 (by decide +kernel) mI_X3_init rfl rfl rfl C.2.2.2.2.2.2.2.2.2.1 ⟨Nat.le_of_ble_eq_true rfl, Nat.le_of_ble_eq_true rfl⟩ (Nat.le_of_ble_eq_true rfl) ⟨Nat.le_of_ble_eq_true rfl, Nat.le_of_ble_eq_true rfl⟩ dX5_init_48 (fun a2 ea2 => ?_)
  subst ea2
  refine n_ws ([(h0, .inr (5, [.ref q0, .int 0, .int 1, .int 1, .int 0])), (q0, .inl (lA L 3, 4, .inr (.inr (.inr (.inr (va_up (va_up (fun _ => none) 0 (some (a0 (b + 2)))) 1 (some (a1 (b + 7)))))))))] ++ cpS (lA L 0) a0 (b + 2) ++ cpS (lA L 0) a1 (b + 7) ++ cpS (lA L 0) a2 (b + 12)) rfl ?_
  refine n_aast C (ci := 3) (r := (RX3, TX3, 8)) (k0 := 2) ([(h0, .inr (5, [.ref q0, .int 0, .int 1, .int 1, .int 0])), (q0, .inl (lA L 3, 4, .inr (.inr (.inr (.inr (va_up (va_up (va_up (fun _ => none) 0 (some (a0 (b + 2)))) 1 (some (a1 (b + 7)))) 2 (some (a2 (b + 12)))))))))] ++ cpS (lA L 0) a0 (b + 2) ++ cpS (lA L 0) a1 (b + 7) ++ cpS (lA L 0) a2 (b + 12)) 1 3 rfl rfl (List.mem_append_right _ (List.Mem.head _)) rfl (by unfold vp_in; decide) rfl rfl dX5_init_51 ?_
  refine n_iinc C (v := 3) [(1, .int 3), (0, .ref h0)] dX5_init_52 0 rfl rfl (by decide) rfl ?_
  refine n_goto C (tgt := 34) dX5_init_55 (by decide) ?_
  refine n_iload_n C dX5_init_34 rfl 0 rfl ?_
  refine n_iconst C (v := 4) dX5_init_35 rfl ?_
  refine n_icmp_ge C (tgt := 58) dX5_init_36 (by decide) (fun q => absurd q (by decide)) (fun _ => ?_)
  refine n_aload_n C dX5_init_39 rfl 1 rfl ?_
  refine n_get C (ci := 5) (N := 5) (j := 0) (Cm := RX5) (T := TX5) 0 rfl inlX5 (by decide) rfl rfl rfl mF_X5_11 dX5_init_40 ?_
  refine n_iload_n C dX5_init_43 rfl 0 rfl ?_
  refine n_new C (ci := 3) (N := 8) (Cm := RX3) (T := TX3) (ty := tyX3) [.int 0, .int 0, .int 0, .int 0, .null, .null, .null, .null] rfl inlX3 tyX3_ok mK_X5_9 mB_X3 mZ_X3 hfs_3 (Nat.le_of_ble_eq_true rfl) (Nat.le_of_ble_eq_true rfl) dX5_init_44 (fun q4 => ?_)
  refine n_dup C dX5_init_47 rfl ?_
  refine n_callN C (fun sz => i_X3 l L q4 sz (b + 17)) mC_X3_init mZ_X3 (by decide +kernel) mI_X3_init rfl rfl rfl C.2.2.2.2.2.2.2.2.2.1 ⟨Nat.le_of_ble_eq_true rfl, Nat.le_of_ble_eq_true rfl⟩ (Nat.le_of_ble_eq_true rfl) ⟨Nat.le_of_ble_eq_true rfl, Nat.le_of_ble_eq_true rfl⟩ dX5_init_48 (fun a3 ea3 => ?_)
  subst ea3
  refine n_ws ([(h0, .inr (5, [.ref q0, .int 0, .int 1, .int 1, .int 0])), (q0, .inl (lA L 3, 4, .inr (.inr (.inr (.inr (va_up (va_up (va_up (fun _ => none) 0 (some (a0 (b + 2)))) 1 (some (a1 (b + 7)))) 2 (some (a2 (b + 12)))))))))] ++ cpS (lA L 0) a0 (b + 2) ++ cpS (lA L 0) a1 (b + 7) ++ cpS (lA L 0) a2 (b + 12) ++ cpS (lA L 0) a3 (b + 17)) rfl ?_
  refine n_aast C (ci := 3) (r := (RX3, TX3, 8)) (k0 := 3) ([(h0, .inr (5, [.ref q0, .int 0, .int 1, .int 1, .int 0])), (q0, .inl (lA L 3, 4, .inr (.inr (.inr (.inr (va_up (va_up (va_up (va_up (fun _ => none) 0 (some (a0 (b + 2)))) 1 (some (a1 (b + 7)))) 2 (some (a2 (b + 12)))) 3 (some (a3 (b + 17)))))))))] ++ cpS (lA L 0) a0 (b + 2) ++ cpS (lA L 0) a1 (b + 7) ++ cpS (lA L 0) a2 (b + 12) ++ cpS (lA L 0) a3 (b + 17)) 1 3 rfl rfl (List.mem_append_right _ (List.Mem.head _)) rfl (by unfold vp_in; decide) rfl rfl dX5_init_51 ?_
  refine n_iinc C (v := 4) [(1, .int 4), (0, .ref h0)] dX5_init_52 0 rfl rfl (by decide) rfl ?_
  refine n_goto C (tgt := 34) dX5_init_55 (by decide) ?_
  refine n_iload_n C dX5_init_34 rfl 0 rfl ?_
  refine n_iconst C (v := 4) dX5_init_35 rfl ?_
  refine n_icmp_ge C (tgt := 58) dX5_init_36 (by decide) (fun _ => ?_) (fun q => absurd (by decide) q)
  obtain ⟨ad, hadd⟩ : ∃ ad : Nat → Nat, ad = fun k => if k = b then h0 else if k = b + 1 then q0 else if k < b + 7 then a0 k else if k < b + 12 then a1 k else if k < b + 17 then a2 k else a3 k := ⟨_, rfl⟩
  have f0 : ad b = h0 := (by rw [hadd]; dsimp only; repeat (first | rw [if_pos (by omega)] | rw [if_neg (by omega)]))
  have f1 : ad (b + 1) = q0 := (by rw [hadd]; dsimp only; repeat (first | rw [if_pos (by omega)] | rw [if_neg (by omega)]))
  have ga0 : cpS (lA L 0) a0 (b + 2) = cpS (lA L 0) ad (b + 2) := cpS_congr (by intro k x y; rw [hadd]; dsimp only; repeat (first | rw [if_pos (by omega)] | rw [if_neg (by omega)]))
  have va0 : ad (b + 2) = a0 (b + 2) := (by rw [hadd]; dsimp only; repeat (first | rw [if_pos (by omega)] | rw [if_neg (by omega)]))
  have ga1 : cpS (lA L 0) a1 (b + 7) = cpS (lA L 0) ad (b + 7) := cpS_congr (by intro k x y; rw [hadd]; dsimp only; repeat (first | rw [if_pos (by omega)] | rw [if_neg (by omega)]))
  have va1 : ad (b + 7) = a1 (b + 7) := (by rw [hadd]; dsimp only; repeat (first | rw [if_pos (by omega)] | rw [if_neg (by omega)]))
  have ga2 : cpS (lA L 0) a2 (b + 12) = cpS (lA L 0) ad (b + 12) := cpS_congr (by intro k x y; rw [hadd]; dsimp only; repeat (first | rw [if_pos (by omega)] | rw [if_neg (by omega)]))
  have va2 : ad (b + 12) = a2 (b + 12) := (by rw [hadd]; dsimp only; repeat (first | rw [if_pos (by omega)] | rw [if_neg (by omega)]))
  have ga3 : cpS (lA L 0) a3 (b + 17) = cpS (lA L 0) ad (b + 17) := cpS_congr (by intro k x y; rw [hadd]; dsimp only; repeat (first | rw [if_pos (by omega)] | rw [if_neg (by omega)]))
  have va3 : ad (b + 17) = a3 (b + 17) := (by rw [hadd]; dsimp only; repeat (first | rw [if_pos (by omega)] | rw [if_neg (by omega)]))
  refine n_ret C dX5_init_58 hret hlk ad f0 ?_ ⟨Nat.le_of_ble_eq_true rfl, Nat.le_of_ble_eq_true rfl⟩
  show _ = cpW (lA L 0) (lA L 3) ad b
  unfold cpW
  rw [ga0, ga1, ga2, ga3, f0, f1, rqf_4 (ad := ad) (b := b + 2) (d := 5) va0 va1 va2 va3]
