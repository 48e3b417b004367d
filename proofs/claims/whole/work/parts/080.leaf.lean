def adl (b : Nat) (xs : List Nat) : Nat → Nat := fun k => xs.getD (k - b) 0
theorem adl_at {b j : Nat} {xs : List Nat} : adl b xs (b + j) = xs.getD j 0 := by unfold adl; rw [Nat.add_sub_cancel_left]
theorem adl_0 {b : Nat} {xs : List Nat} : adl b xs b = xs.getD 0 0 := by unfold adl; rw [Nat.sub_self]
abbrev rmi_X3 : Room := { frames := 1, cells := 4, slots := 104, locals := 12 }
set_option maxHeartbeats 4000000 in
set_option maxRecDepth 100000 in
theorem i_X3 (l : Launch) (L : Ly) (h0 sz b : Nat) : Met l yX3_init (.code yX3_init cX3_init 1 none :: wA) rmi_X3 (va_Pc [.ref h0] (cB L sz [(h0, .inr (3, [.int 0, .int 0, .int 0, .int 0, .null, .null, .null, .null]))])) (va_Qv (fun ad : Nat → Nat => ad b = h0) (cE L (va_A [(h0, .inr (3, [.int 0, .int 0, .int 0, .int 0, .null, .null, .null, .null]))] sz) (fun ad : Nat → Nat => cpS (lA L 0) ad b)) (va_A [(h0, .inr (3, [.int 0, .int 0, .int 0, .int 0, .null, .null, .null, .null]))] sz)) 4 104 (va_A [(h0, .inr (3, [.int 0, .int 0, .int 0, .int 0, .null, .null, .null, .null]))] sz) := by
  refine n_start (own := RX3) [(0, .ref h0)] (by decide) rfl (Nat.le_of_ble_eq_true rfl) rfl (fun p e s m args below meth c C hret hlk hnm => ?_)
  refine n_aload_n C dX3_init_0 rfl 0 rfl ?_
  refine n_objInit C mM_X3_3 (Nat.le_of_ble_eq_true rfl) (Nat.le_of_ble_eq_true rfl) dX3_init_1 ?_
  refine n_aload_n C dX3_init_4 rfl 0 rfl ?_
  refine n_iconst C (v := 4) dX3_init_5 rfl ?_
  refine n_put C (ci := 3) (N := 8) (j := 0) (Cm := RX3) (T := TX3) (ty0 := tyX3) [(h0, .inr (3, [.int 4, .int 0, .int 0, .int 0, .null, .null, .null, .null]))] 0 rfl inlX3 tyX3_ok nmX3 (by decide) rfl rfl rfl rfl (Nat.le_of_ble_eq_true rfl) rfl rfl mF_X3_9 dX3_init_6 ?_
  refine n_aload_n C dX3_init_9 rfl 0 rfl ?_
  refine n_iconst C (v := 0) dX3_init_10 rfl ?_
  refine n_put C (ci := 3) (N := 8) (j := 1) (Cm := RX3) (T := TX3) (ty0 := tyX3) [(h0, .inr (3, [.int 4, .int 0, .int 0, .int 0, .null, .null, .null, .null]))] 0 rfl inlX3 tyX3_ok nmX3 (by decide) rfl rfl rfl rfl (Nat.le_of_ble_eq_true rfl) rfl rfl mF_X3_15 dX3_init_11 ?_
  refine n_aload_n C dX3_init_14 rfl 0 rfl ?_
  refine n_iconst C (v := 0) dX3_init_15 rfl ?_
  refine n_put C (ci := 3) (N := 8) (j := 2) (Cm := RX3) (T := TX3) (ty0 := tyX3) [(h0, .inr (3, [.int 4, .int 0, .int 0, .int 0, .null, .null, .null, .null]))] 0 rfl inlX3 tyX3_ok nmX3 (by decide) rfl rfl rfl rfl (Nat.le_of_ble_eq_true rfl) rfl rfl mF_X3_18 dX3_init_16 ?_
  refine n_aload_n C dX3_init_19 rfl 0 rfl ?_
  refine n_iconst C (v := 0) dX3_init_20 rfl ?_
  refine n_put C (ci := 3) (N := 8) (j := 3) (Cm := RX3) (T := TX3) (ty0 := tyX3) [(h0, .inr (3, [.int 4, .int 0, .int 0, .int 0, .null, .null, .null, .null]))] 0 rfl inlX3 tyX3_ok nmX3 (by decide) rfl rfl rfl rfl (Nat.le_of_ble_eq_true rfl) rfl rfl mF_X3_21 dX3_init_21 ?_
  refine n_aload_n C dX3_init_24 rfl 0 rfl ?_
  refine n_bipush C (v := 26) dX3_init_25 rfl ?_
  refine n_newi C (N := 26) (by decide) rfl (Nat.le_of_ble_eq_true rfl) (Nat.le_of_ble_eq_true rfl) (Nat.le_of_ble_eq_true rfl) dX3_init_27 (fun q0 => ?_)
  refine n_ws [(h0, .inr (3, [.int 4, .int 0, .int 0, .int 0, .null, .null, .null, .null])), (q0, .inl (lA L 0, 26, .inl (fun _ => 0)))] rfl ?_
  refine n_putF C (ci := 3) (N := 8) (j := 4) (Cm := RX3) (T := TX3) (ty0 := tyX3) [(h0, .inr (3, [.int 4, .int 0, .int 0, .int 0, .ref q0, .null, .null, .null])), (q0, .inl (lA L 0, 26, .inl (fun _ => 0)))] 0 rfl inlX3 tyX3_ok nmX3 (by decide) rfl rfl hnm rfl rfl (Nat.le_of_ble_eq_true rfl) rfl rfl mF_X3_24 dX3_init_29 ?_
  refine n_aload_n C dX3_init_32 rfl 0 rfl ?_
  refine n_bipush C (v := 26) dX3_init_33 rfl ?_
  refine n_newi C (N := 26) (by decide) rfl (Nat.le_of_ble_eq_true rfl) (Nat.le_of_ble_eq_true rfl) (Nat.le_of_ble_eq_true rfl) dX3_init_35 (fun q1 => ?_)
  refine n_ws [(h0, .inr (3, [.int 4, .int 0, .int 0, .int 0, .ref q0, .null, .null, .null])), (q0, .inl (lA L 0, 26, .inl (fun _ => 0))), (q1, .inl (lA L 0, 26, .inl (fun _ => 0)))] rfl ?_
  refine n_putF C (ci := 3) (N := 8) (j := 5) (Cm := RX3) (T := TX3) (ty0 := tyX3) [(h0, .inr (3, [.int 4, .int 0, .int 0, .int 0, .ref q0, .ref q1, .null, .null])), (q0, .inl (lA L 0, 26, .inl (fun _ => 0))), (q1, .inl (lA L 0, 26, .inl (fun _ => 0)))] 0 rfl inlX3 tyX3_ok nmX3 (by decide) rfl rfl hnm rfl rfl (Nat.le_of_ble_eq_true rfl) rfl rfl mF_X3_28 dX3_init_37 ?_
  refine n_aload_n C dX3_init_40 rfl 0 rfl ?_
  refine n_bipush C (v := 26) dX3_init_41 rfl ?_
  refine n_newi C (N := 26) (by decide) rfl (Nat.le_of_ble_eq_true rfl) (Nat.le_of_ble_eq_true rfl) (Nat.le_of_ble_eq_true rfl) dX3_init_43 (fun q2 => ?_)
  refine n_ws [(h0, .inr (3, [.int 4, .int 0, .int 0, .int 0, .ref q0, .ref q1, .null, .null])), (q0, .inl (lA L 0, 26, .inl (fun _ => 0))), (q1, .inl (lA L 0, 26, .inl (fun _ => 0))), (q2, .inl (lA L 0, 26, .inl (fun _ => 0)))] rfl ?_
  refine n_putF C (ci := 3) (N := 8) (j := 6) (Cm := RX3) (T := TX3) (ty0 := tyX3) [(h0, .inr (3, [.int 4, .int 0, .int 0, .int 0, .ref q0, .ref q1, .ref q2, .null])), (q0, .inl (lA L 0, 26, .inl (fun _ => 0))), (q1, .inl (lA L 0, 26, .inl (fun _ => 0))), (q2, .inl (lA L 0, 26, .inl (fun _ => 0)))] 0 rfl inlX3 tyX3_ok nmX3 (by decide) rfl rfl hnm rfl rfl (Nat.le_of_ble_eq_true rfl) rfl rfl mF_X3_31 dX3_init_45 ?_
  refine n_aload_n C dX3_init_48 rfl 0 rfl ?_
  refine n_bipush C (v := 26) dX3_init_49 rfl ?_
  refine n_newi C (N := 26) (by decide) rfl (Nat.le_of_ble_eq_true rfl) (Nat.le_of_ble_eq_true rfl) (Nat.le_of_ble_eq_true rfl) dX3_init_51 (fun q3 => ?_)
  refine n_ws [(h0, .inr (3, [.int 4, .int 0, .int 0, .int 0, .ref q0, .ref q1, .ref q2, .null])), (q0, .inl (lA L 0, 26, .inl (fun _ => 0))), (q1, .inl (lA L 0, 26, .inl (fun _ => 0))), (q2, .inl (lA L 0, 26, .inl (fun _ => 0))), (q3, .inl (lA L 0, 26, .inl (fun _ => 0)))] rfl ?_
  refine n_putF C (ci := 3) (N := 8) (j := 7) (Cm := RX3) (T := TX3) (ty0 := tyX3) [(h0, .inr (3, [.int 4, .int 0, .int 0, .int 0, .ref q0, .ref q1, .ref q2, .ref q3])), (q0, .inl (lA L 0, 26, .inl (fun _ => 0))), (q1, .inl (lA L 0, 26, .inl (fun _ => 0))), (q2, .inl (lA L 0, 26, .inl (fun _ => 0))), (q3, .inl (lA L 0, 26, .inl (fun _ => 0)))] 0 rfl inlX3 tyX3_ok nmX3 (by decide) rfl rfl hnm rfl rfl (Nat.le_of_ble_eq_true rfl) rfl rfl mF_X3_34 dX3_init_53 ?_
  exact n_ret C dX3_init_56 hret hlk (adl b [h0, q0, q1, q2, q3]) adl_0 (by unfold cpS; simp only [adl_0, adl_at]; rfl) ⟨Nat.le_of_ble_eq_true rfl, Nat.le_of_ble_eq_true rfl⟩
abbrev rmi_X1 : Room := { frames := 1, cells := 4, slots := 32, locals := 12 }
set_option maxHeartbeats 4000000 in
set_option maxRecDepth 100000 in
theorem i_X1 (l : Launch) (L : Ly) (h0 sz b : Nat) : Met l yX1_init (.code yX1_init cX1_init 1 none :: wA) rmi_X1 (va_Pc [.ref h0] (cB L sz [(h0, .inr (1, [.null, .null, .null, .null, .int 0, .int 0]))])) (va_Qv (fun ad : Nat → Nat => ad b = h0) (cE L (va_A [(h0, .inr (1, [.null, .null, .null, .null, .int 0, .int 0]))] sz) (fun ad : Nat → Nat => cpG (lA L 0) ad b)) (va_A [(h0, .inr (1, [.null, .null, .null, .null, .int 0, .int 0]))] sz)) 4 32 (va_A [(h0, .inr (1, [.null, .null, .null, .null, .int 0, .int 0]))] sz) := by
  refine n_start (own := RX1) [(0, .ref h0)] (by decide) rfl (Nat.le_of_ble_eq_true rfl) rfl (fun p e s m args below meth c C hret hlk hnm => ?_)
  refine n_aload_n C dX1_init_0 rfl 0 rfl ?_
  refine n_objInit C mM_X1_3 (Nat.le_of_ble_eq_true rfl) (Nat.le_of_ble_eq_true rfl) dX1_init_1 ?_
  refine n_aload_n C dX1_init_4 rfl 0 rfl ?_
  refine n_bipush C (v := 8) dX1_init_5 rfl ?_
  refine n_newi C (N := 8) (by decide) rfl (Nat.le_of_ble_eq_true rfl) (Nat.le_of_ble_eq_true rfl) (Nat.le_of_ble_eq_true rfl) dX1_init_7 (fun q0 => ?_)
  refine n_ws [(h0, .inr (1, [.null, .null, .null, .null, .int 0, .int 0])), (q0, .inl (lA L 0, 8, .inl (fun _ => 0)))] rfl ?_
  refine n_putF C (ci := 1) (N := 6) (j := 0) (Cm := RX1) (T := TX1) (ty0 := tyX1) [(h0, .inr (1, [.ref q0, .null, .null, .null, .int 0, .int 0])), (q0, .inl (lA L 0, 8, .inl (fun _ => 0)))] 0 rfl inlX1 tyX1_ok nmX1 (by decide) rfl rfl hnm rfl rfl (Nat.le_of_ble_eq_true rfl) rfl rfl mF_X1_9 dX1_init_9 ?_
  refine n_aload_n C dX1_init_12 rfl 0 rfl ?_
  refine n_bipush C (v := 8) dX1_init_13 rfl ?_
  refine n_newi C (N := 8) (by decide) rfl (Nat.le_of_ble_eq_true rfl) (Nat.le_of_ble_eq_true rfl) (Nat.le_of_ble_eq_true rfl) dX1_init_15 (fun q1 => ?_)
  refine n_ws [(h0, .inr (1, [.ref q0, .null, .null, .null, .int 0, .int 0])), (q0, .inl (lA L 0, 8, .inl (fun _ => 0))), (q1, .inl (lA L 0, 8, .inl (fun _ => 0)))] rfl ?_
  refine n_putF C (ci := 1) (N := 6) (j := 1) (Cm := RX1) (T := TX1) (ty0 := tyX1) [(h0, .inr (1, [.ref q0, .ref q1, .null, .null, .int 0, .int 0])), (q0, .inl (lA L 0, 8, .inl (fun _ => 0))), (q1, .inl (lA L 0, 8, .inl (fun _ => 0)))] 0 rfl inlX1 tyX1_ok nmX1 (by decide) rfl rfl hnm rfl rfl (Nat.le_of_ble_eq_true rfl) rfl rfl mF_X1_15 dX1_init_17 ?_
  refine n_aload_n C dX1_init_20 rfl 0 rfl ?_
  refine n_bipush C (v := 8) dX1_init_21 rfl ?_
  refine n_newi C (N := 8) (by decide) rfl (Nat.le_of_ble_eq_true rfl) (Nat.le_of_ble_eq_true rfl) (Nat.le_of_ble_eq_true rfl) dX1_init_23 (fun q2 => ?_)
  refine n_ws [(h0, .inr (1, [.ref q0, .ref q1, .null, .null, .int 0, .int 0])), (q0, .inl (lA L 0, 8, .inl (fun _ => 0))), (q1, .inl (lA L 0, 8, .inl (fun _ => 0))), (q2, .inl (lA L 0, 8, .inl (fun _ => 0)))] rfl ?_
  refine n_putF C (ci := 1) (N := 6) (j := 2) (Cm := RX1) (T := TX1) (ty0 := tyX1) [(h0, .inr (1, [.ref q0, .ref q1, .ref q2, .null, .int 0, .int 0])), (q0, .inl (lA L 0, 8, .inl (fun _ => 0))), (q1, .inl (lA L 0, 8, .inl (fun _ => 0))), (q2, .inl (lA L 0, 8, .inl (fun _ => 0)))] 0 rfl inlX1 tyX1_ok nmX1 (by decide) rfl rfl hnm rfl rfl (Nat.le_of_ble_eq_true rfl) rfl rfl mF_X1_18 dX1_init_25 ?_
  refine n_aload_n C dX1_init_28 rfl 0 rfl ?_
  refine n_bipush C (v := 8) dX1_init_29 rfl ?_
  refine n_newi C (N := 8) (by decide) rfl (Nat.le_of_ble_eq_true rfl) (Nat.le_of_ble_eq_true rfl) (Nat.le_of_ble_eq_true rfl) dX1_init_31 (fun q3 => ?_)
  refine n_ws [(h0, .inr (1, [.ref q0, .ref q1, .ref q2, .null, .int 0, .int 0])), (q0, .inl (lA L 0, 8, .inl (fun _ => 0))), (q1, .inl (lA L 0, 8, .inl (fun _ => 0))), (q2, .inl (lA L 0, 8, .inl (fun _ => 0))), (q3, .inl (lA L 0, 8, .inl (fun _ => 0)))] rfl ?_
  refine n_putF C (ci := 1) (N := 6) (j := 3) (Cm := RX1) (T := TX1) (ty0 := tyX1) [(h0, .inr (1, [.ref q0, .ref q1, .ref q2, .ref q3, .int 0, .int 0])), (q0, .inl (lA L 0, 8, .inl (fun _ => 0))), (q1, .inl (lA L 0, 8, .inl (fun _ => 0))), (q2, .inl (lA L 0, 8, .inl (fun _ => 0))), (q3, .inl (lA L 0, 8, .inl (fun _ => 0)))] 0 rfl inlX1 tyX1_ok nmX1 (by decide) rfl rfl hnm rfl rfl (Nat.le_of_ble_eq_true rfl) rfl rfl mF_X1_21 dX1_init_33 ?_
  refine n_aload_n C dX1_init_36 rfl 0 rfl ?_
  refine n_iconst C (v := 0) dX1_init_37 rfl ?_
  refine n_put C (ci := 1) (N := 6) (j := 4) (Cm := RX1) (T := TX1) (ty0 := tyX1) [(h0, .inr (1, [.ref q0, .ref q1, .ref q2, .ref q3, .int 0, .int 0])), (q0, .inl (lA L 0, 8, .inl (fun _ => 0))), (q1, .inl (lA L 0, 8, .inl (fun _ => 0))), (q2, .inl (lA L 0, 8, .inl (fun _ => 0))), (q3, .inl (lA L 0, 8, .inl (fun _ => 0)))] 0 rfl inlX1 tyX1_ok nmX1 (by decide) rfl rfl rfl rfl (Nat.le_of_ble_eq_true rfl) rfl rfl mF_X1_24 dX1_init_38 ?_
  refine n_aload_n C dX1_init_41 rfl 0 rfl ?_
  refine n_iconst C (v := 0) dX1_init_42 rfl ?_
  refine n_put C (ci := 1) (N := 6) (j := 5) (Cm := RX1) (T := TX1) (ty0 := tyX1) [(h0, .inr (1, [.ref q0, .ref q1, .ref q2, .ref q3, .int 0, .int 0])), (q0, .inl (lA L 0, 8, .inl (fun _ => 0))), (q1, .inl (lA L 0, 8, .inl (fun _ => 0))), (q2, .inl (lA L 0, 8, .inl (fun _ => 0))), (q3, .inl (lA L 0, 8, .inl (fun _ => 0)))] 0 rfl inlX1 tyX1_ok nmX1 (by decide) rfl rfl rfl rfl (Nat.le_of_ble_eq_true rfl) rfl rfl mF_X1_28 dX1_init_43 ?_
  exact n_ret C dX1_init_46 hret hlk (adl b [h0, q0, q1, q2, q3]) adl_0 (by unfold cpG; simp only [adl_0, adl_at]; rfl) ⟨Nat.le_of_ble_eq_true rfl, Nat.le_of_ble_eq_true rfl⟩
abbrev rmi_X4 : Room := { frames := 1, cells := 3, slots := 180, locals := 12 }
set_option maxHeartbeats 4000000 in
set_option maxRecDepth 100000 in
theorem i_X4 (l : Launch) (L : Ly) (h0 sz : Nat) : Met l yX4_init (.code yX4_init cX4_init 1 none :: wA) rmi_X4 (va_Pc [.ref h0] (cB L sz [(h0, .inr (4, [.null, .int 0, .null, .null, .int 0, .int 0, .int 0, .int 0, .int 0]))])) (va_Qv (fun ad : Nat → Nat => ad 302 = h0) (cE L (va_A [(h0, .inr (4, [.null, .int 0, .null, .null, .int 0, .int 0, .int 0, .int 0, .int 0]))] sz) (fun ad : Nat → Nat => cpX (lA L 0) (lA L 1) ad)) (va_A [(h0, .inr (4, [.null, .int 0, .null, .null, .int 0, .int 0, .int 0, .int 0, .int 0]))] sz)) 3 180 (va_A [(h0, .inr (4, [.null, .int 0, .null, .null, .int 0, .int 0, .int 0, .int 0, .int 0]))] sz) := by
  refine n_start (own := RX4) [(0, .ref h0)] (by decide) rfl (Nat.le_of_ble_eq_true rfl) rfl (fun p e s m args below meth c C hret hlk hnm => ?_)
  refine n_aload_n C dX4_init_0 rfl 0 rfl ?_
  refine n_objInit C mM_X4_3 (Nat.le_of_ble_eq_true rfl) (Nat.le_of_ble_eq_true rfl) dX4_init_1 ?_
  refine n_aload_n C dX4_init_4 rfl 0 rfl ?_
  refine n_bipush C (v := 60) dX4_init_5 rfl ?_
  refine n_newc C (N := 60) (by decide) rfl (Nat.le_of_ble_eq_true rfl) (Nat.le_of_ble_eq_true rfl) (Nat.le_of_ble_eq_true rfl) dX4_init_7 (fun q0 => ?_)
  refine n_ws [(h0, .inr (4, [.null, .int 0, .null, .null, .int 0, .int 0, .int 0, .int 0, .int 0])), (q0, .inl (lA L 1, 60, .inl (fun _ => 0)))] rfl ?_
  refine n_putF C (ci := 4) (N := 9) (j := 0) (Cm := RX4) (T := TX4) (ty0 := tyX4) [(h0, .inr (4, [.ref q0, .int 0, .null, .null, .int 0, .int 0, .int 0, .int 0, .int 0])), (q0, .inl (lA L 1, 60, .inl (fun _ => 0)))] 0 rfl inlX4 tyX4_ok nmX4 (by decide) rfl rfl hnm rfl rfl (Nat.le_of_ble_eq_true rfl) rfl rfl mF_X4_9 dX4_init_9 ?_
  refine n_aload_n C dX4_init_12 rfl 0 rfl ?_
  refine n_iconst C (v := 0) dX4_init_13 rfl ?_
  refine n_put C (ci := 4) (N := 9) (j := 1) (Cm := RX4) (T := TX4) (ty0 := tyX4) [(h0, .inr (4, [.ref q0, .int 0, .null, .null, .int 0, .int 0, .int 0, .int 0, .int 0])), (q0, .inl (lA L 1, 60, .inl (fun _ => 0)))] 0 rfl inlX4 tyX4_ok nmX4 (by decide) rfl rfl rfl rfl (Nat.le_of_ble_eq_true rfl) rfl rfl mF_X4_15 dX4_init_14 ?_
  refine n_aload_n C dX4_init_17 rfl 0 rfl ?_
  refine n_bipush C (v := 60) dX4_init_18 rfl ?_
  refine n_newi C (N := 60) (by decide) rfl (Nat.le_of_ble_eq_true rfl) (Nat.le_of_ble_eq_true rfl) (Nat.le_of_ble_eq_true rfl) dX4_init_20 (fun q1 => ?_)
  refine n_ws [(h0, .inr (4, [.ref q0, .int 0, .null, .null, .int 0, .int 0, .int 0, .int 0, .int 0])), (q0, .inl (lA L 1, 60, .inl (fun _ => 0))), (q1, .inl (lA L 0, 60, .inl (fun _ => 0)))] rfl ?_
  refine n_putF C (ci := 4) (N := 9) (j := 2) (Cm := RX4) (T := TX4) (ty0 := tyX4) [(h0, .inr (4, [.ref q0, .int 0, .ref q1, .null, .int 0, .int 0, .int 0, .int 0, .int 0])), (q0, .inl (lA L 1, 60, .inl (fun _ => 0))), (q1, .inl (lA L 0, 60, .inl (fun _ => 0)))] 0 rfl inlX4 tyX4_ok nmX4 (by decide) rfl rfl hnm rfl rfl (Nat.le_of_ble_eq_true rfl) rfl rfl mF_X4_19 dX4_init_22 ?_
  refine n_aload_n C dX4_init_25 rfl 0 rfl ?_
  refine n_bipush C (v := 60) dX4_init_26 rfl ?_
  refine n_newi C (N := 60) (by decide) rfl (Nat.le_of_ble_eq_true rfl) (Nat.le_of_ble_eq_true rfl) (Nat.le_of_ble_eq_true rfl) dX4_init_28 (fun q2 => ?_)
  refine n_ws [(h0, .inr (4, [.ref q0, .int 0, .ref q1, .null, .int 0, .int 0, .int 0, .int 0, .int 0])), (q0, .inl (lA L 1, 60, .inl (fun _ => 0))), (q1, .inl (lA L 0, 60, .inl (fun _ => 0))), (q2, .inl (lA L 0, 60, .inl (fun _ => 0)))] rfl ?_
  refine n_putF C (ci := 4) (N := 9) (j := 3) (Cm := RX4) (T := TX4) (ty0 := tyX4) [(h0, .inr (4, [.ref q0, .int 0, .ref q1, .ref q2, .int 0, .int 0, .int 0, .int 0, .int 0])), (q0, .inl (lA L 1, 60, .inl (fun _ => 0))), (q1, .inl (lA L 0, 60, .inl (fun _ => 0))), (q2, .inl (lA L 0, 60, .inl (fun _ => 0)))] 0 rfl inlX4 tyX4_ok nmX4 (by decide) rfl rfl hnm rfl rfl (Nat.le_of_ble_eq_true rfl) rfl rfl mF_X4_23 dX4_init_30 ?_
  refine n_aload_n C dX4_init_33 rfl 0 rfl ?_
  refine n_iconst C (v := 0) dX4_init_34 rfl ?_
  refine n_put C (ci := 4) (N := 9) (j := 4) (Cm := RX4) (T := TX4) (ty0 := tyX4) [(h0, .inr (4, [.ref q0, .int 0, .ref q1, .ref q2, .int 0, .int 0, .int 0, .int 0, .int 0])), (q0, .inl (lA L 1, 60, .inl (fun _ => 0))), (q1, .inl (lA L 0, 60, .inl (fun _ => 0))), (q2, .inl (lA L 0, 60, .inl (fun _ => 0)))] 0 rfl inlX4 tyX4_ok nmX4 (by decide) rfl rfl rfl rfl (Nat.le_of_ble_eq_true rfl) rfl rfl mF_X4_26 dX4_init_35 ?_
  refine n_aload_n C dX4_init_38 rfl 0 rfl ?_
  refine n_iconst C (v := 0) dX4_init_39 rfl ?_
  refine n_put C (ci := 4) (N := 9) (j := 5) (Cm := RX4) (T := TX4) (ty0 := tyX4) [(h0, .inr (4, [.ref q0, .int 0, .ref q1, .ref q2, .int 0, .int 0, .int 0, .int 0, .int 0])), (q0, .inl (lA L 1, 60, .inl (fun _ => 0))), (q1, .inl (lA L 0, 60, .inl (fun _ => 0))), (q2, .inl (lA L 0, 60, .inl (fun _ => 0)))] 0 rfl inlX4 tyX4_ok nmX4 (by decide) rfl rfl rfl rfl (Nat.le_of_ble_eq_true rfl) rfl rfl mF_X4_29 dX4_init_40 ?_
  refine n_aload_n C dX4_init_43 rfl 0 rfl ?_
  refine n_iconst C (v := (-1)) dX4_init_44 rfl ?_
  refine n_put C (ci := 4) (N := 9) (j := 6) (Cm := RX4) (T := TX4) (ty0 := tyX4) [(h0, .inr (4, [.ref q0, .int 0, .ref q1, .ref q2, .int 0, .int 0, .int (-1), .int 0, .int 0])), (q0, .inl (lA L 1, 60, .inl (fun _ => 0))), (q1, .inl (lA L 0, 60, .inl (fun _ => 0))), (q2, .inl (lA L 0, 60, .inl (fun _ => 0)))] 0 rfl inlX4 tyX4_ok nmX4 (by decide) rfl rfl rfl rfl (Nat.le_of_ble_eq_true rfl) rfl rfl mF_X4_32 dX4_init_45 ?_
  refine n_aload_n C dX4_init_48 rfl 0 rfl ?_
  refine n_iconst C (v := (-1)) dX4_init_49 rfl ?_
  refine n_put C (ci := 4) (N := 9) (j := 7) (Cm := RX4) (T := TX4) (ty0 := tyX4) [(h0, .inr (4, [.ref q0, .int 0, .ref q1, .ref q2, .int 0, .int 0, .int (-1), .int (-1), .int 0])), (q0, .inl (lA L 1, 60, .inl (fun _ => 0))), (q1, .inl (lA L 0, 60, .inl (fun _ => 0))), (q2, .inl (lA L 0, 60, .inl (fun _ => 0)))] 0 rfl inlX4 tyX4_ok nmX4 (by decide) rfl rfl rfl rfl (Nat.le_of_ble_eq_true rfl) rfl rfl mF_X4_35 dX4_init_50 ?_
  refine n_aload_n C dX4_init_53 rfl 0 rfl ?_
  refine n_iconst C (v := 0) dX4_init_54 rfl ?_
  refine n_put C (ci := 4) (N := 9) (j := 8) (Cm := RX4) (T := TX4) (ty0 := tyX4) [(h0, .inr (4, [.ref q0, .int 0, .ref q1, .ref q2, .int 0, .int 0, .int (-1), .int (-1), .int 0])), (q0, .inl (lA L 1, 60, .inl (fun _ => 0))), (q1, .inl (lA L 0, 60, .inl (fun _ => 0))), (q2, .inl (lA L 0, 60, .inl (fun _ => 0)))] 0 rfl inlX4 tyX4_ok nmX4 (by decide) rfl rfl rfl rfl (Nat.le_of_ble_eq_true rfl) rfl rfl mF_X4_38 dX4_init_55 ?_
  exact n_ret C dX4_init_58 hret hlk (adl 302 [h0, q0, q1, q2]) rfl rfl ⟨Nat.le_of_ble_eq_true rfl, Nat.le_of_ble_eq_true rfl⟩
