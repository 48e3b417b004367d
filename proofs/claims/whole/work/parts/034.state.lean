-- ===== RX2.become
abbrev rm_X2_become : Room := { frames := 3, cells := 0, slots := 0, locals := 83 }
def w_X2_become_2 (k : Nat) (o1 : Nat) (K : Mem → Prop)  : Nat → Int32 → Mem → Prop
  | 0, _, _ => False
  | n + 1, x2, σ => (br (4 ≤ x2) (w_X5_become (k + 22) (o1 + 22) σ (fun σ1 => (w_X1_become (k + 44) (o1 + 44) σ1 (fun σ2 => (∀ σ3 : Mem, σ3 = mu σ2 k 3 (σ2 o1 3) → (∀ σ4 : Mem, σ4 = mu σ3 k 4 (σ3 o1 4) → (∀ σ5 : Mem, σ5 = mu σ4 k 5 (σ4 o1 5) → (K σ5)))))))) (vp_in x2 4 ∧ (vp_in x2 4 ∧ (w_X3_become (((k + 1) + 1) + 5 * ix x2) (((o1 + 1) + 1) + 5 * ix x2) σ (fun σ8 => (w_X2_become_2 k o1 K  n (x2 + 1) σ8))))))
set_option maxHeartbeats 4000000 in
set_option maxRecDepth 100000 in
theorem b_X2_become_2 {p : Program} {l : Launch} {e : Env} {s : State} {m : MethodId} {args : Array Value} {below : List Frame} {meth : Method} {c : Code} {L : Ly} {sz : Nat} (C : Cx p rm_X2_become s m args meth c RX2 cX2_become 3 0 0 (mA L sz) L) (hret : meth.sig.returnType = none) (hlk : meth.locks = false) (k : Nat) (o1 : Nat) (hk : kd k = 2) (ho1 : kd o1 = 2) (K : Mem → Prop)  : ∀ (n : Nat) (x2 : Int32) (σ : Mem), w_X2_become_2 k o1 K  n x2 σ → V p l e rm_X2_become s m args below meth c 3 0 0 (MQ below (va_Qv K (mE L) (mA L sz)) args s 0 0 (mA L sz)) (mA L sz) L σ 2 [(0, .ref (lad L k)), (1, .ref (lad L o1)), (2, .int x2)] [] := by
  intro n
  induction n with
  | zero => intro x2 σ  h; exact h.elim
  | succ n ih =>
    intro x2 σ  h
    rw [w_X2_become_2] at h
    refine v_iload_n C dX2_become_2 rfl 2 rfl ?_
    refine v_iconst C (v := 4) dX2_become_3 rfl ?_
    refine v_icmp_ge C (tgt := 28) dX2_become_4 (by decide) (fun hc => ?_) (fun hc => ?_)
    · replace h := h.1 hc
      refine v_aload_n C dX2_become_28 rfl 0 rfl ?_
      refine g_2_window C hk mF_X2_20 dX2_become_29 ?_
      refine v_aload_n C dX2_become_32 rfl 1 rfl ?_
      refine g_2_window C ho1 mF_X2_20 dX2_become_33 ?_
      refine k_X5_become C (k + 22) (o1 + 22) (kd_2_22 hk) (kd_2_22 ho1) h mM_X2_96 ⟨Nat.le_of_ble_eq_true rfl, Nat.le_of_ble_eq_true rfl⟩ (Nat.le_of_ble_eq_true rfl) dX2_become_36 (fun σ1 h => ?_)
      refine v_aload_n C dX2_become_39 rfl 0 rfl ?_
      refine g_2_log C hk mF_X2_27 dX2_become_40 ?_
      refine v_aload_n C dX2_become_43 rfl 1 rfl ?_
      refine g_2_log C ho1 mF_X2_27 dX2_become_44 ?_
      refine k_X1_become C (k + 44) (o1 + 44) (kd_2_44 hk) (kd_2_44 ho1) h mM_X2_99 ⟨Nat.le_of_ble_eq_true rfl, Nat.le_of_ble_eq_true rfl⟩ (Nat.le_of_ble_eq_true rfl) dX2_become_47 (fun σ2 h => ?_)
      refine v_aload_n C dX2_become_50 rfl 0 rfl ?_
      refine v_aload_n C dX2_become_51 rfl 1 rfl ?_
      refine g_2_time C ho1 mF_X2_31 dX2_become_52 ?_
      refine p_2_time C hk mF_X2_31 dX2_become_55 (fun σ3 eσ3 => ?_)
      replace h := h σ3 eσ3
      refine v_aload_n C dX2_become_58 rfl 0 rfl ?_
      refine v_aload_n C dX2_become_59 rfl 1 rfl ?_
      refine g_2_evictions C ho1 mF_X2_35 dX2_become_60 ?_
      refine p_2_evictions C hk mF_X2_35 dX2_become_63 (fun σ4 eσ4 => ?_)
      replace h := h σ4 eσ4
      refine v_aload_n C dX2_become_66 rfl 0 rfl ?_
      refine v_aload_n C dX2_become_67 rfl 1 rfl ?_
      refine g_2_merges C ho1 mF_X2_38 dX2_become_68 ?_
      refine p_2_merges C hk mF_X2_38 dX2_become_71 (fun σ5 eσ5 => ?_)
      replace h := h σ5 eσ5
      exact v_vret C dX2_become_74 hret hlk h
    · replace h := h.2 hc
      refine v_aload_n C dX2_become_7 rfl 0 rfl ?_
      refine g_2_summaries C hk mF_X2_11 dX2_become_8 ?_
      refine v_iload_n C dX2_become_11 rfl 2 rfl ?_
      obtain ⟨hi6, h⟩ := h
      refine v_aald C (c0 := 11) (t0 := 3) (v := .ref (lad L (((k + 1) + 1) + 5 * ix x2))) (by decide) rfl rfl rfl (kd_2_1 hk) hi6 dX2_become_12 ?_
      refine v_aload_n C dX2_become_13 rfl 1 rfl ?_
      refine g_2_summaries C ho1 mF_X2_11 dX2_become_14 ?_
      refine v_iload_n C dX2_become_17 rfl 2 rfl ?_
      obtain ⟨hi7, h⟩ := h
      refine v_aald C (c0 := 11) (t0 := 3) (v := .ref (lad L (((o1 + 1) + 1) + 5 * ix x2))) (by decide) rfl rfl rfl (kd_2_1 ho1) hi7 dX2_become_18 ?_
      refine k_X3_become C (((k + 1) + 1) + 5 * ix x2) (((o1 + 1) + 1) + 5 * ix x2) (kd_el (kd_2_1 hk) hi6) (kd_el (kd_2_1 ho1) hi7) h mM_X2_92 ⟨Nat.le_of_ble_eq_true rfl, Nat.le_of_ble_eq_true rfl⟩ (Nat.le_of_ble_eq_true rfl) dX2_become_19 (fun σ8 h => ?_)
      refine v_iinc C [(2, .int (x2 + 1)), (0, .ref (lad L k)), (1, .ref (lad L o1))] dX2_become_22 2 rfl rfl (by decide) rfl ?_
      refine v_goto C (tgt := 2) dX2_become_25 (by decide) ?_
      refine v_sub [1, 2, 0] rfl ?_
      exact ih _ _  h
def w_X2_become (k : Nat) (o1 : Nat) (σ : Mem) (K : Mem → Prop) : Prop := (∃ n9, w_X2_become_2 k o1 K  n9 0 σ)
set_option maxHeartbeats 4000000 in
set_option maxRecDepth 100000 in
theorem c_X2_become (l : Launch) (L : Ly) (k : Nat) (o1 : Nat) (σ : Mem) (K : Mem → Prop) (hk : kd k = 2) (ho1 : kd o1 = 2) (h : w_X2_become k o1 σ K) (sz : Nat) : Met l yX2_become (.code yX2_become cX2_become 3 none :: wA) rm_X2_become (va_Pc [.ref (lad L k), .ref (lad L o1)] (mB L sz σ)) (va_Qv K (mE L) (mA L sz)) 0 0 (mA L sz) := by
  refine v_start (own := RX2) [(0, .ref (lad L k)), (1, .ref (lad L o1))] (by decide) rfl (Nat.le_of_ble_eq_true rfl) rfl (fun p e s m args below meth c C hret hlk => ?_)
  unfold w_X2_become at h
  refine v_iconst C (v := 0) dX2_become_0 rfl ?_
  refine v_istore_n C [(2, .int 0), (0, .ref (lad L k)), (1, .ref (lad L o1))] dX2_become_1 rfl (by decide) rfl ?_
  obtain ⟨n9, h⟩ := h
  refine v_sub [1, 2, 0] rfl ?_
  exact b_X2_become_2 C hret hlk k o1 hk ho1 K   n9 _ _  h
theorem hd_X2_become : yX2_become.cls ≠ "java/lang/invoke/MethodHandle" ∧ yX2_become.cls ≠ "java/lang/invoke/VarHandle" ∧ (parseMethodDescriptor yX2_become.desc).map (fun d => d.parameters.length) = some 1 := by decide +kernel
theorem k_X2_become {p : Program} {l : Launch} {e : Env} {R : Room} {s : State} {m : MethodId} {args : Array Value} {below : List Frame} {meth : Method} {c : Code} {nL cells slots : Nat} {Q : State → Prop} {A : Nat → Prop} {L : Ly} {own : String} {cc : ByteArray} {σ : Mem} {pc idx : Nat} {lv : List (Nat × Value)} {st : List Value} {K : Mem → Prop} (C : Cx p R s m args meth c own cc nL cells slots A L) (k : Nat) (o1 : Nat) (hk : kd k = 2) (ho1 : kd o1 = 2) (h : w_X2_become k o1 σ K) (hml : Cond.methodLink own idx yX2_become ∈ wA) (hR : rm_X2_become.frames + 1 ≤ R.frames ∧ 8 + (3 + 11) + rm_X2_become.locals ≤ R.locals) (hsum : (st.map fun v => v.category).sum ≤ 8) (d : decode cc pc = .ok (.invokevirtual idx, 3)) (kk : ∀ σ1, K σ1 → V p l e R s m args below meth c nL cells slots Q A L σ1 (pc + 3) lv st) : V p l e R s m args below meth c nL cells slots Q A L σ pc lv (.ref (lad L o1) :: .ref (lad L k) :: st) := v_callVv C [.ref (lad L o1)] (fun sz => c_X2_become l L k o1 σ _ hk ho1 h sz) mC_X2_become mZ_X2 hd_X2_become mI_X2_become mS_X2_become rfl rfl (c0 := 2) (ci := 2) (by decide) rfl rfl rfl hk hml hR rfl hsum d kk
-- ===== RX0.remember
abbrev rm_X0_remember : Room := { frames := 4, cells := 0, slots := 0, locals := 105 }
def w_X0_remember (o1 : Nat) (σ : Mem) (K : Mem → Prop) : Prop := (vp_in ((σ 300 1) &&& 3) 4 ∧ (w_X2_become (49 + 49 * ix ((σ 300 1) &&& 3)) o1 σ (fun σ2 => (∀ σ3 : Mem, σ3 = mu σ2 300 1 (((σ2 300 1) + 1) &&& 3) → (∀ σ4 : Mem, σ4 = mu σ3 300 2 (if 4 < ((σ3 300 2) + 1) then 4 else ((σ3 300 2) + 1)) → (K σ4))))))
set_option maxHeartbeats 4000000 in
set_option maxRecDepth 100000 in
theorem c_X0_remember (l : Launch) (L : Ly) (o1 : Nat) (σ : Mem) (K : Mem → Prop) (ho1 : kd o1 = 2) (h : w_X0_remember o1 σ K) (sz : Nat) : Met l yX0_remember (.code yX0_remember cX0_remember 2 none :: wA) rm_X0_remember (va_Pc [.ref (lad L 300), .ref (lad L o1)] (mB L sz σ)) (va_Qv K (mE L) (mA L sz)) 0 0 (mA L sz) := by
  refine v_start (own := RX0) [(0, .ref (lad L 300)), (1, .ref (lad L o1))] (by decide) rfl (Nat.le_of_ble_eq_true rfl) rfl (fun p e s m args below meth c C hret hlk => ?_)
  unfold w_X0_remember at h
  refine v_aload_n C dX0_remember_0 rfl 0 rfl ?_
  refine g_0_states C kdn_300 mF_X0_11 dX0_remember_1 ?_
  refine v_aload_n C dX0_remember_4 rfl 0 rfl ?_
  refine g_0_next C kdn_300 mF_X0_17 dX0_remember_5 ?_
  refine v_iconst C (v := 3) dX0_remember_8 rfl ?_
  refine v_iand C dX0_remember_9 ?_
  obtain ⟨hi1, h⟩ := h
  refine v_aald C (c0 := 10) (t0 := 2) (v := .ref (lad L (49 + 49 * ix ((σ 300 1) &&& 3)))) (by decide) rfl rfl rfl kdn_301 hi1 dX0_remember_10 ?_
  refine v_aload_n C dX0_remember_11 rfl 1 rfl ?_
  refine k_X2_become C (49 + 49 * ix ((σ 300 1) &&& 3)) o1 (kd_st hi1) ho1 h mM_X0_25 ⟨Nat.le_of_ble_eq_true rfl, Nat.le_of_ble_eq_true rfl⟩ (Nat.le_of_ble_eq_true rfl) dX0_remember_12 (fun σ2 h => ?_)
  refine v_aload_n C dX0_remember_15 rfl 0 rfl ?_
  refine v_aload_n C dX0_remember_16 rfl 0 rfl ?_
  refine g_0_next C kdn_300 mF_X0_17 dX0_remember_17 ?_
  refine v_iconst C (v := 1) dX0_remember_20 rfl ?_
  refine v_iadd C dX0_remember_21 ?_
  refine v_iconst C (v := 3) dX0_remember_22 rfl ?_
  refine v_iand C dX0_remember_23 ?_
  refine p_0_next C kdn_300 mF_X0_17 dX0_remember_24 (fun σ3 eσ3 => ?_)
  replace h := h σ3 eσ3
  refine v_aload_n C dX0_remember_27 rfl 0 rfl ?_
  refine v_aload_n C dX0_remember_28 rfl 0 rfl ?_
  refine g_0_known C kdn_300 mF_X0_21 dX0_remember_29 ?_
  refine v_iconst C (v := 1) dX0_remember_32 rfl ?_
  refine v_iadd C dX0_remember_33 ?_
  refine v_iconst C (v := 4) dX0_remember_34 rfl ?_
  refine v_mmin C mM_X0_29 (by decide) (Nat.le_of_ble_eq_true rfl) dX0_remember_35 ?_
  refine p_0_known C kdn_300 mF_X0_21 dX0_remember_38 (fun σ4 eσ4 => ?_)
  replace h := h σ4 eσ4
  exact v_vret C dX0_remember_41 hret hlk h
theorem hd_X0_remember : yX0_remember.cls ≠ "java/lang/invoke/MethodHandle" ∧ yX0_remember.cls ≠ "java/lang/invoke/VarHandle" ∧ (parseMethodDescriptor yX0_remember.desc).map (fun d => d.parameters.length) = some 1 := by decide +kernel
theorem k_X0_remember {p : Program} {l : Launch} {e : Env} {R : Room} {s : State} {m : MethodId} {args : Array Value} {below : List Frame} {meth : Method} {c : Code} {nL cells slots : Nat} {Q : State → Prop} {A : Nat → Prop} {L : Ly} {own : String} {cc : ByteArray} {σ : Mem} {pc idx : Nat} {lv : List (Nat × Value)} {st : List Value} {K : Mem → Prop} (C : Cx p R s m args meth c own cc nL cells slots A L) (o1 : Nat) (ho1 : kd o1 = 2) (h : w_X0_remember o1 σ K) (hml : Cond.methodLink own idx yX0_remember ∈ wA) (hR : rm_X0_remember.frames + 1 ≤ R.frames ∧ 8 + (2 + 11) + rm_X0_remember.locals ≤ R.locals) (hsum : (st.map fun v => v.category).sum ≤ 8) (d : decode cc pc = .ok (.invokevirtual idx, 3)) (kk : ∀ σ1, K σ1 → V p l e R s m args below meth c nL cells slots Q A L σ1 (pc + 3) lv st) : V p l e R s m args below meth c nL cells slots Q A L σ pc lv (.ref (lad L o1) :: .ref (lad L 300) :: st) := v_callVv C [.ref (lad L o1)] (fun sz => c_X0_remember l L o1 σ _ ho1 h sz) mC_X0_remember mZ_X0 hd_X0_remember mI_X0_remember mS_X0_remember rfl rfl (c0 := 0) (ci := 0) (by decide) rfl rfl rfl kdn_300 hml hR rfl hsum d kk
-- ===== RX0.takeBack
abbrev rm_X0_takeBack : Room := { frames := 4, cells := 0, slots := 0, locals := 105 }
def w_X0_takeBack (o1 : Nat) (σ : Mem) (K : Mem → Prop) : Prop := (∀ σ1 : Mem, σ1 = mu σ 300 1 (((σ 300 1) - 1) &&& 3) → (∀ σ2 : Mem, σ2 = mu σ1 300 2 ((σ1 300 2) - 1) → (vp_in (σ2 300 1) 4 ∧ (w_X2_become o1 (49 + 49 * ix (σ2 300 1)) σ2 (fun σ4 => (K σ4))))))
set_option maxHeartbeats 4000000 in
set_option maxRecDepth 100000 in
theorem c_X0_takeBack (l : Launch) (L : Ly) (o1 : Nat) (σ : Mem) (K : Mem → Prop) (ho1 : kd o1 = 2) (h : w_X0_takeBack o1 σ K) (sz : Nat) : Met l yX0_takeBack (.code yX0_takeBack cX0_takeBack 2 none :: wA) rm_X0_takeBack (va_Pc [.ref (lad L 300), .ref (lad L o1)] (mB L sz σ)) (va_Qv K (mE L) (mA L sz)) 0 0 (mA L sz) := by
  refine v_start (own := RX0) [(0, .ref (lad L 300)), (1, .ref (lad L o1))] (by decide) rfl (Nat.le_of_ble_eq_true rfl) rfl (fun p e s m args below meth c C hret hlk => ?_)
  unfold w_X0_takeBack at h
  refine v_aload_n C dX0_takeBack_0 rfl 0 rfl ?_
  refine v_aload_n C dX0_takeBack_1 rfl 0 rfl ?_
  refine g_0_next C kdn_300 mF_X0_17 dX0_takeBack_2 ?_
  refine v_iconst C (v := 1) dX0_takeBack_5 rfl ?_
  refine v_isub C dX0_takeBack_6 ?_
  refine v_iconst C (v := 3) dX0_takeBack_7 rfl ?_
  refine v_iand C dX0_takeBack_8 ?_
  refine p_0_next C kdn_300 mF_X0_17 dX0_takeBack_9 (fun σ1 eσ1 => ?_)
  replace h := h σ1 eσ1
  refine v_aload_n C dX0_takeBack_12 rfl 0 rfl ?_
  refine v_dup C dX0_takeBack_13 rfl ?_
  refine g_0_known C kdn_300 mF_X0_21 dX0_takeBack_14 ?_
  refine v_iconst C (v := 1) dX0_takeBack_17 rfl ?_
  refine v_isub C dX0_takeBack_18 ?_
  refine p_0_known C kdn_300 mF_X0_21 dX0_takeBack_19 (fun σ2 eσ2 => ?_)
  replace h := h σ2 eσ2
  refine v_aload_n C dX0_takeBack_22 rfl 1 rfl ?_
  refine v_aload_n C dX0_takeBack_23 rfl 0 rfl ?_
  refine g_0_states C kdn_300 mF_X0_11 dX0_takeBack_24 ?_
  refine v_aload_n C dX0_takeBack_27 rfl 0 rfl ?_
  refine g_0_next C kdn_300 mF_X0_17 dX0_takeBack_28 ?_
  obtain ⟨hi3, h⟩ := h
  refine v_aald C (c0 := 10) (t0 := 2) (v := .ref (lad L (49 + 49 * ix (σ2 300 1)))) (by decide) rfl rfl rfl kdn_301 hi3 dX0_takeBack_31 ?_
  refine k_X2_become C o1 (49 + 49 * ix (σ2 300 1)) ho1 (kd_st hi3) h mM_X0_25 ⟨Nat.le_of_ble_eq_true rfl, Nat.le_of_ble_eq_true rfl⟩ (Nat.le_of_ble_eq_true rfl) dX0_takeBack_32 (fun σ4 h => ?_)
  exact v_vret C dX0_takeBack_35 hret hlk h
theorem hd_X0_takeBack : yX0_takeBack.cls ≠ "java/lang/invoke/MethodHandle" ∧ yX0_takeBack.cls ≠ "java/lang/invoke/VarHandle" ∧ (parseMethodDescriptor yX0_takeBack.desc).map (fun d => d.parameters.length) = some 1 := by decide +kernel
theorem k_X0_takeBack {p : Program} {l : Launch} {e : Env} {R : Room} {s : State} {m : MethodId} {args : Array Value} {below : List Frame} {meth : Method} {c : Code} {nL cells slots : Nat} {Q : State → Prop} {A : Nat → Prop} {L : Ly} {own : String} {cc : ByteArray} {σ : Mem} {pc idx : Nat} {lv : List (Nat × Value)} {st : List Value} {K : Mem → Prop} (C : Cx p R s m args meth c own cc nL cells slots A L) (o1 : Nat) (ho1 : kd o1 = 2) (h : w_X0_takeBack o1 σ K) (hml : Cond.methodLink own idx yX0_takeBack ∈ wA) (hR : rm_X0_takeBack.frames + 1 ≤ R.frames ∧ 8 + (2 + 11) + rm_X0_takeBack.locals ≤ R.locals) (hsum : (st.map fun v => v.category).sum ≤ 8) (d : decode cc pc = .ok (.invokevirtual idx, 3)) (kk : ∀ σ1, K σ1 → V p l e R s m args below meth c nL cells slots Q A L σ1 (pc + 3) lv st) : V p l e R s m args below meth c nL cells slots Q A L σ pc lv (.ref (lad L o1) :: .ref (lad L 300) :: st) := v_callVv C [.ref (lad L o1)] (fun sz => c_X0_takeBack l L o1 σ _ ho1 h sz) mC_X0_takeBack mZ_X0 hd_X0_takeBack mI_X0_takeBack mS_X0_takeBack rfl rfl (c0 := 0) (ci := 0) (by decide) rfl rfl rfl kdn_300 hml hR rfl hsum d kk
-- ===== RX6.codeOf
abbrev rm_X6_codeOf : Room := { frames := 0, cells := 0, slots := 0, locals := 0 }
def w_X6_codeOf (a1 : Int32) (σ : Mem) (K : Int32 → Mem → Prop) : Prop := (K (97 + a1) σ)
set_option maxHeartbeats 4000000 in
set_option maxRecDepth 100000 in
theorem c_X6_codeOf (l : Launch) (L : Ly) (a1 : Int32) (σ : Mem) (K : Int32 → Mem → Prop)  (h : w_X6_codeOf a1 σ K) (sz : Nat) : Met l yX6_codeOf (.code yX6_codeOf cX6_codeOf 1 (some .int) :: wA) rm_X6_codeOf (va_Pc [.int a1] (mB L sz σ)) (va_Qi K (mE L) (mA L sz)) 0 0 (mA L sz) := by
  refine v_start (own := RX6) [(0, .int a1)] (by decide) rfl (Nat.le_of_ble_eq_true rfl) rfl (fun p e s m args below meth c C hret hlk => ?_)
  unfold w_X6_codeOf at h
  refine v_bipush C (v := 97) dX6_codeOf_0 rfl ?_
  refine v_iload_n C dX6_codeOf_2 rfl 0 rfl ?_
  refine v_iadd C dX6_codeOf_3 ?_
  exact v_iret C dX6_codeOf_4 hret hlk h
theorem hd_X6_codeOf : yX6_codeOf.cls ≠ "java/lang/invoke/MethodHandle" ∧ yX6_codeOf.cls ≠ "java/lang/invoke/VarHandle" ∧ (parseMethodDescriptor yX6_codeOf.desc).map (fun d => d.parameters.length) = some 1 := by decide +kernel
theorem k_X6_codeOf {p : Program} {l : Launch} {e : Env} {R : Room} {s : State} {m : MethodId} {args : Array Value} {below : List Frame} {meth : Method} {c : Code} {nL cells slots : Nat} {Q : State → Prop} {A : Nat → Prop} {L : Ly} {own : String} {cc : ByteArray} {σ : Mem} {pc idx : Nat} {lv : List (Nat × Value)} {st : List Value} {K : Int32 → Mem → Prop} (C : Cx p R s m args meth c own cc nL cells slots A L) (a1 : Int32)  (h : w_X6_codeOf a1 σ K) (hml : va_Nw (.methodLinkNest own idx yX6_codeOf RX6) s) (hR : rm_X6_codeOf.frames + 1 ≤ R.frames ∧ 8 + (1 + 11) + rm_X6_codeOf.locals ≤ R.locals) (hsum : (st.map fun v => v.category).sum ≤ 8) (d : decode cc pc = .ok (.invokestatic idx, 3)) (kk : ∀ r σ1, K r σ1 → V p l e R s m args below meth c nL cells slots Q A L σ1 (pc + 3) lv (.int r :: st)) : V p l e R s m args below meth c nL cells slots Q A L σ pc lv (.int a1 :: st) := v_callNi C [.int a1] (fun sz => c_X6_codeOf l L a1 σ _  h sz) mC_X6_codeOf mZ_X6 hd_X6_codeOf mT_X6_codeOf rfl rfl hml hR rfl hsum d kk
theorem ks_X6_codeOf {p : Program} {l : Launch} {e : Env} {R : Room} {s : State} {m : MethodId} {args : Array Value} {below : List Frame} {meth : Method} {c : Code} {nL cells slots : Nat} {Q : State → Prop} {A : Nat → Prop} {L : Ly} {own : String} {cc : ByteArray} {σ : Mem} {pc idx : Nat} {lv : List (Nat × Value)} {st : List Value} {K : Int32 → Mem → Prop} (C : Cx p R s m args meth c own cc nL cells slots A L) (a1 : Int32)  (h : w_X6_codeOf a1 σ K) (hml : Cond.methodLink own idx yX6_codeOf ∈ wA) (hR : rm_X6_codeOf.frames + 1 ≤ R.frames ∧ 8 + (1 + 11) + rm_X6_codeOf.locals ≤ R.locals) (hsum : (st.map fun v => v.category).sum ≤ 8) (d : decode cc pc = .ok (.invokestatic idx, 3)) (kk : ∀ r σ1, K r σ1 → V p l e R s m args below meth c nL cells slots Q A L σ1 (pc + 3) lv (.int r :: st)) : V p l e R s m args below meth c nL cells slots Q A L σ pc lv (.int a1 :: st) := v_callSi C [.int a1] (fun sz => c_X6_codeOf l L a1 σ _  h sz) mC_X6_codeOf mZ_X6 hd_X6_codeOf mT_X6_codeOf rfl rfl hml hR rfl hsum d kk
-- ===== RX2.noteEviction
abbrev rm_X2_noteEviction : Room := { frames := 2, cells := 0, slots := 0, locals := 46 }
def w_X2_noteEviction (k : Nat) (a1 : Int32) (a2 : Int32) (σ : Mem) (K : Mem → Prop) : Prop := (br (a2 = (-1)) (K σ) (∀ σ1 : Mem, σ1 = mu σ k 4 ((σ k 4) + 1) → (w_X6_codeOf a2 σ1 (fun r3 σ2 => (w_X1_note (k + 44) 0 a1 r3 (σ2 k 3) σ2 (fun σ4 => (K σ4)))))))
set_option maxHeartbeats 4000000 in
set_option maxRecDepth 100000 in
theorem c_X2_noteEviction (l : Launch) (L : Ly) (k : Nat) (a1 : Int32) (a2 : Int32) (σ : Mem) (K : Mem → Prop) (hk : kd k = 2) (h : w_X2_noteEviction k a1 a2 σ K) (sz : Nat) : Met l yX2_noteEviction (.code yX2_noteEviction cX2_noteEviction 3 none :: wA) rm_X2_noteEviction (va_Pc [.ref (lad L k), .int a1, .int a2] (mB L sz σ)) (va_Qv K (mE L) (mA L sz)) 0 0 (mA L sz) := by
  refine v_start (own := RX2) [(0, .ref (lad L k)), (1, .int a1), (2, .int a2)] (by decide) rfl (Nat.le_of_ble_eq_true rfl) rfl (fun p e s m args below meth c C hret hlk => ?_)
  unfold w_X2_noteEviction at h
  refine v_iload_n C dX2_noteEviction_0 rfl 2 rfl ?_
  refine v_iconst C (v := (-1)) dX2_noteEviction_1 rfl ?_
  refine v_icmp_eq C (tgt := 32) dX2_noteEviction_2 (by decide) (fun hc => ?_) (fun hc => ?_)
  · replace h := h.1 hc
    exact v_vret C dX2_noteEviction_32 hret hlk h
  · replace h := h.2 hc
    refine v_aload_n C dX2_noteEviction_5 rfl 0 rfl ?_
    refine v_dup C dX2_noteEviction_6 rfl ?_
    refine g_2_evictions C hk mF_X2_35 dX2_noteEviction_7 ?_
    refine v_iconst C (v := 1) dX2_noteEviction_10 rfl ?_
    refine v_iadd C dX2_noteEviction_11 ?_
    refine p_2_evictions C hk mF_X2_35 dX2_noteEviction_12 (fun σ1 eσ1 => ?_)
    replace h := h σ1 eσ1
    refine v_aload_n C dX2_noteEviction_15 rfl 0 rfl ?_
    refine g_2_log C hk mF_X2_27 dX2_noteEviction_16 ?_
    refine v_iconst C (v := 0) dX2_noteEviction_19 rfl ?_
    refine v_iload_n C dX2_noteEviction_20 rfl 1 rfl ?_
    refine v_iload_n C dX2_noteEviction_21 rfl 2 rfl ?_
    refine k_X6_codeOf C a2  h C.2.2.2.2.2.2.2.2.1.1 ⟨Nat.le_of_ble_eq_true rfl, Nat.le_of_ble_eq_true rfl⟩ (Nat.le_of_ble_eq_true rfl) dX2_noteEviction_22 (fun r3 σ2 h => ?_)
    refine v_aload_n C dX2_noteEviction_25 rfl 0 rfl ?_
    refine g_2_time C hk mF_X2_31 dX2_noteEviction_26 ?_
    refine k_X1_note C (k + 44) 0 a1 r3 (σ2 k 3) (kd_2_44 hk) h mM_X2_59 ⟨Nat.le_of_ble_eq_true rfl, Nat.le_of_ble_eq_true rfl⟩ (Nat.le_of_ble_eq_true rfl) dX2_noteEviction_29 (fun σ4 h => ?_)
    exact v_vret C dX2_noteEviction_32 hret hlk h
theorem hd_X2_noteEviction : yX2_noteEviction.cls ≠ "java/lang/invoke/MethodHandle" ∧ yX2_noteEviction.cls ≠ "java/lang/invoke/VarHandle" ∧ (parseMethodDescriptor yX2_noteEviction.desc).map (fun d => d.parameters.length) = some 2 := by decide +kernel
theorem k_X2_noteEviction {p : Program} {l : Launch} {e : Env} {R : Room} {s : State} {m : MethodId} {args : Array Value} {below : List Frame} {meth : Method} {c : Code} {nL cells slots : Nat} {Q : State → Prop} {A : Nat → Prop} {L : Ly} {own : String} {cc : ByteArray} {σ : Mem} {pc idx : Nat} {lv : List (Nat × Value)} {st : List Value} {K : Mem → Prop} (C : Cx p R s m args meth c own cc nL cells slots A L) (k : Nat) (a1 : Int32) (a2 : Int32) (hk : kd k = 2) (h : w_X2_noteEviction k a1 a2 σ K) (hml : Cond.methodLink own idx yX2_noteEviction ∈ wA) (hR : rm_X2_noteEviction.frames + 1 ≤ R.frames ∧ 8 + (3 + 11) + rm_X2_noteEviction.locals ≤ R.locals) (hsum : (st.map fun v => v.category).sum ≤ 8) (d : decode cc pc = .ok (.invokevirtual idx, 3)) (kk : ∀ σ1, K σ1 → V p l e R s m args below meth c nL cells slots Q A L σ1 (pc + 3) lv st) : V p l e R s m args below meth c nL cells slots Q A L σ pc lv (.int a2 :: .int a1 :: .ref (lad L k) :: st) := v_callVv C [.int a1, .int a2] (fun sz => c_X2_noteEviction l L k a1 a2 σ _ hk h sz) mC_X2_noteEviction mZ_X2 hd_X2_noteEviction mI_X2_noteEviction mS_X2_noteEviction rfl rfl (c0 := 2) (ci := 2) (by decide) rfl rfl rfl hk hml hR rfl hsum d kk
-- ===== RX2.bring
abbrev rm_X2_bring : Room := { frames := 4, cells := 0, slots := 0, locals := 89 }
def w_X2_bring (k : Nat) (a1 : Int32) (o2 : Nat) (a3 : Int32) (a4 : Int32) (σ : Mem) (K : Mem → Prop) : Prop := (∀ σ1 : Mem, σ1 = mu σ k 3 ((σ k 3) + 1) → (w_X3_receive o2 a3 a4 (σ1 k 3) σ1 (fun r3 σ2 => (w_X2_noteEviction k a1 r3 σ2 (fun σ4 => (K σ4))))))
set_option maxHeartbeats 4000000 in
set_option maxRecDepth 100000 in
theorem c_X2_bring (l : Launch) (L : Ly) (k : Nat) (a1 : Int32) (o2 : Nat) (a3 : Int32) (a4 : Int32) (σ : Mem) (K : Mem → Prop) (hk : kd k = 2) (ho2 : kd o2 = 3) (h : w_X2_bring k a1 o2 a3 a4 σ K) (sz : Nat) : Met l yX2_bring (.code yX2_bring cX2_bring 5 none :: wA) rm_X2_bring (va_Pc [.ref (lad L k), .int a1, .ref (lad L o2), .int a3, .int a4] (mB L sz σ)) (va_Qv K (mE L) (mA L sz)) 0 0 (mA L sz) := by
  refine v_start (own := RX2) [(0, .ref (lad L k)), (1, .int a1), (2, .ref (lad L o2)), (3, .int a3), (4, .int a4)] (by decide) rfl (Nat.le_of_ble_eq_true rfl) rfl (fun p e s m args below meth c C hret hlk => ?_)
  unfold w_X2_bring at h
  refine v_aload_n C dX2_bring_0 rfl 0 rfl ?_
  refine v_dup C dX2_bring_1 rfl ?_
  refine g_2_time C hk mF_X2_31 dX2_bring_2 ?_
  refine v_iconst C (v := 1) dX2_bring_5 rfl ?_
  refine v_iadd C dX2_bring_6 ?_
  refine p_2_time C hk mF_X2_31 dX2_bring_7 (fun σ1 eσ1 => ?_)
  replace h := h σ1 eσ1
  refine v_aload_n C dX2_bring_10 rfl 0 rfl ?_
  refine v_iload_n C dX2_bring_11 rfl 1 rfl ?_
  refine v_aload_n C dX2_bring_12 rfl 2 rfl ?_
  refine v_iload_n C dX2_bring_13 rfl 3 rfl ?_
  refine v_iload C dX2_bring_14 4 rfl ?_
  refine v_aload_n C dX2_bring_16 rfl 0 rfl ?_
  refine g_2_time C hk mF_X2_31 dX2_bring_17 ?_
  refine k_X3_receive C o2 a3 a4 (σ1 k 3) ho2 h mM_X2_42 ⟨Nat.le_of_ble_eq_true rfl, Nat.le_of_ble_eq_true rfl⟩ (Nat.le_of_ble_eq_true rfl) dX2_bring_20 (fun r3 σ2 h => ?_)
  refine k_X2_noteEviction C k a1 r3 hk h mM_X2_46 ⟨Nat.le_of_ble_eq_true rfl, Nat.le_of_ble_eq_true rfl⟩ (Nat.le_of_ble_eq_true rfl) dX2_bring_23 (fun σ4 h => ?_)
  exact v_vret C dX2_bring_26 hret hlk h
theorem hd_X2_bring : yX2_bring.cls ≠ "java/lang/invoke/MethodHandle" ∧ yX2_bring.cls ≠ "java/lang/invoke/VarHandle" ∧ (parseMethodDescriptor yX2_bring.desc).map (fun d => d.parameters.length) = some 4 := by decide +kernel
theorem k_X2_bring {p : Program} {l : Launch} {e : Env} {R : Room} {s : State} {m : MethodId} {args : Array Value} {below : List Frame} {meth : Method} {c : Code} {nL cells slots : Nat} {Q : State → Prop} {A : Nat → Prop} {L : Ly} {own : String} {cc : ByteArray} {σ : Mem} {pc idx : Nat} {lv : List (Nat × Value)} {st : List Value} {K : Mem → Prop} (C : Cx p R s m args meth c own cc nL cells slots A L) (k : Nat) (a1 : Int32) (o2 : Nat) (a3 : Int32) (a4 : Int32) (hk : kd k = 2) (ho2 : kd o2 = 3) (h : w_X2_bring k a1 o2 a3 a4 σ K) (hml : Cond.methodLink own idx yX2_bring ∈ wA) (hR : rm_X2_bring.frames + 1 ≤ R.frames ∧ 8 + (5 + 11) + rm_X2_bring.locals ≤ R.locals) (hsum : (st.map fun v => v.category).sum ≤ 8) (d : decode cc pc = .ok (.invokevirtual idx, 3)) (kk : ∀ σ1, K σ1 → V p l e R s m args below meth c nL cells slots Q A L σ1 (pc + 3) lv st) : V p l e R s m args below meth c nL cells slots Q A L σ pc lv (.int a4 :: .int a3 :: .ref (lad L o2) :: .int a1 :: .ref (lad L k) :: st) := v_callVv C [.int a1, .ref (lad L o2), .int a3, .int a4] (fun sz => c_X2_bring l L k a1 o2 a3 a4 σ _ hk ho2 h sz) mC_X2_bring mZ_X2 hd_X2_bring mI_X2_bring mS_X2_bring rfl rfl (c0 := 2) (ci := 2) (by decide) rfl rfl rfl hk hml hR rfl hsum d kk
-- ===== RX2.bringToWindow
abbrev rm_X2_bringToWindow : Room := { frames := 5, cells := 0, slots := 0, locals := 113 }
def w_X2_bringToWindow_39 (k : Nat) (a1 : Int32) (a2 : Int32) (K : Mem → Prop)   (σ : Mem) : Prop := (∀ σ1 : Mem, σ1 = mu σ (k + 22) 4 ((σ (k + 22) 4) + 1) → (w_X5_presentBlock (k + 22) σ1 (fun r3 σ2 => (w_X2_bring k 4 r3 a1 a2 σ2 (fun σ5 => (K σ5))))))
set_option maxHeartbeats 4000000 in
set_option maxRecDepth 100000 in
theorem b_X2_bringToWindow_39 {p : Program} {l : Launch} {e : Env} {s : State} {m : MethodId} {args : Array Value} {below : List Frame} {meth : Method} {c : Code} {L : Ly} {sz : Nat} (C : Cx p rm_X2_bringToWindow s m args meth c RX2 cX2_bringToWindow 3 0 0 (mA L sz) L) (hret : meth.sig.returnType = none) (hlk : meth.locks = false) (k : Nat) (a1 : Int32) (a2 : Int32) (hk : kd k = 2) (K : Mem → Prop)   (σ : Mem)  (h : w_X2_bringToWindow_39 k a1 a2 K   σ) : V p l e rm_X2_bringToWindow s m args below meth c 3 0 0 (MQ below (va_Qv K (mE L) (mA L sz)) args s 0 0 (mA L sz)) (mA L sz) L σ 39 [(0, .ref (lad L k)), (1, .int a1), (2, .int a2)] [] := by
  unfold w_X2_bringToWindow_39 at h
  refine v_aload_n C dX2_bringToWindow_39 rfl 0 rfl ?_
  refine g_2_window C hk mF_X2_20 dX2_bringToWindow_40 ?_
  refine v_dup C dX2_bringToWindow_43 rfl ?_
  refine g_5_arrivals C (kd_2_22 hk) mF_X2_50 dX2_bringToWindow_44 ?_
  refine v_iconst C (v := 1) dX2_bringToWindow_47 rfl ?_
  refine v_iadd C dX2_bringToWindow_48 ?_
  refine p_5_arrivals C (kd_2_22 hk) mF_X2_50 dX2_bringToWindow_49 (fun σ1 eσ1 => ?_)
  replace h := h σ1 eσ1
  refine v_aload_n C dX2_bringToWindow_52 rfl 0 rfl ?_
  refine v_iconst C (v := 4) dX2_bringToWindow_53 rfl ?_
  refine v_aload_n C dX2_bringToWindow_54 rfl 0 rfl ?_
  refine g_2_window C hk mF_X2_20 dX2_bringToWindow_55 ?_
  refine k_X5_presentBlock C (k + 22) (kd_2_22 hk) h mM_X2_63 ⟨Nat.le_of_ble_eq_true rfl, Nat.le_of_ble_eq_true rfl⟩ (Nat.le_of_ble_eq_true rfl) dX2_bringToWindow_58 (fun ror3 σ2 h => ?_)
  obtain ⟨r3, rfl, hk4, h⟩ := h
  refine v_re ?_
  refine v_iload_n C dX2_bringToWindow_61 rfl 1 rfl ?_
  refine v_iload_n C dX2_bringToWindow_62 rfl 2 rfl ?_
  refine k_X2_bring C k 4 r3 a1 a2 hk hk4 h mM_X2_67 ⟨Nat.le_of_ble_eq_true rfl, Nat.le_of_ble_eq_true rfl⟩ (Nat.le_of_ble_eq_true rfl) dX2_bringToWindow_63 (fun σ5 h => ?_)
  exact v_vret C dX2_bringToWindow_66 hret hlk h
def w_X2_bringToWindow (k : Nat) (a1 : Int32) (a2 : Int32) (σ : Mem) (K : Mem → Prop) : Prop := (br ((σ (k + 22) 4) < 8) (w_X2_bringToWindow_39 k a1 a2 K   σ) (w_X5_beginBlock (k + 22) σ (fun σ6 => (w_X1_note (k + 44) 2 4 (σ6 (k + 22) 3) (σ6 k 3) σ6 (fun σ7 => (w_X2_bringToWindow_39 k a1 a2 K   σ7))))))
set_option maxHeartbeats 4000000 in
set_option maxRecDepth 100000 in
theorem c_X2_bringToWindow (l : Launch) (L : Ly) (k : Nat) (a1 : Int32) (a2 : Int32) (σ : Mem) (K : Mem → Prop) (hk : kd k = 2) (h : w_X2_bringToWindow k a1 a2 σ K) (sz : Nat) : Met l yX2_bringToWindow (.code yX2_bringToWindow cX2_bringToWindow 3 none :: wA) rm_X2_bringToWindow (va_Pc [.ref (lad L k), .int a1, .int a2] (mB L sz σ)) (va_Qv K (mE L) (mA L sz)) 0 0 (mA L sz) := by
  refine v_start (own := RX2) [(0, .ref (lad L k)), (1, .int a1), (2, .int a2)] (by decide) rfl (Nat.le_of_ble_eq_true rfl) rfl (fun p e s m args below meth c C hret hlk => ?_)
  unfold w_X2_bringToWindow at h
  refine v_aload_n C dX2_bringToWindow_0 rfl 0 rfl ?_
  refine g_2_window C hk mF_X2_20 dX2_bringToWindow_1 ?_
  refine g_5_arrivals C (kd_2_22 hk) mF_X2_50 dX2_bringToWindow_4 ?_
  refine v_bipush C (v := 8) dX2_bringToWindow_7 rfl ?_
  refine v_icmp_lt C (tgt := 39) dX2_bringToWindow_9 (by decide) (fun hc => ?_) (fun hc => ?_)
  · replace h := h.1 hc
    refine v_sub [0, 1, 2] rfl ?_
    exact b_X2_bringToWindow_39 C hret hlk k a1 a2 hk K    _  h
  · replace h := h.2 hc
    refine v_aload_n C dX2_bringToWindow_12 rfl 0 rfl ?_
    refine g_2_window C hk mF_X2_20 dX2_bringToWindow_13 ?_
    refine k_X5_beginBlock C (k + 22) (kd_2_22 hk) h mM_X2_53 ⟨Nat.le_of_ble_eq_true rfl, Nat.le_of_ble_eq_true rfl⟩ (Nat.le_of_ble_eq_true rfl) dX2_bringToWindow_16 (fun σ6 h => ?_)
    refine v_aload_n C dX2_bringToWindow_19 rfl 0 rfl ?_
    refine g_2_log C hk mF_X2_27 dX2_bringToWindow_20 ?_
    refine v_iconst C (v := 2) dX2_bringToWindow_23 rfl ?_
    refine v_iconst C (v := 4) dX2_bringToWindow_24 rfl ?_
    refine v_aload_n C dX2_bringToWindow_25 rfl 0 rfl ?_
    refine g_2_window C hk mF_X2_20 dX2_bringToWindow_26 ?_
    refine g_5_begun C (kd_2_22 hk) mF_X2_56 dX2_bringToWindow_29 ?_
    refine v_aload_n C dX2_bringToWindow_32 rfl 0 rfl ?_
    refine g_2_time C hk mF_X2_31 dX2_bringToWindow_33 ?_
    refine k_X1_note C (k + 44) 2 4 (σ6 (k + 22) 3) (σ6 k 3) (kd_2_44 hk) h mM_X2_59 ⟨Nat.le_of_ble_eq_true rfl, Nat.le_of_ble_eq_true rfl⟩ (Nat.le_of_ble_eq_true rfl) dX2_bringToWindow_36 (fun σ7 h => ?_)
    refine v_sub [0, 1, 2] rfl ?_
    exact b_X2_bringToWindow_39 C hret hlk k a1 a2 hk K    _  h
theorem hd_X2_bringToWindow : yX2_bringToWindow.cls ≠ "java/lang/invoke/MethodHandle" ∧ yX2_bringToWindow.cls ≠ "java/lang/invoke/VarHandle" ∧ (parseMethodDescriptor yX2_bringToWindow.desc).map (fun d => d.parameters.length) = some 2 := by decide +kernel
theorem k_X2_bringToWindow {p : Program} {l : Launch} {e : Env} {R : Room} {s : State} {m : MethodId} {args : Array Value} {below : List Frame} {meth : Method} {c : Code} {nL cells slots : Nat} {Q : State → Prop} {A : Nat → Prop} {L : Ly} {own : String} {cc : ByteArray} {σ : Mem} {pc idx : Nat} {lv : List (Nat × Value)} {st : List Value} {K : Mem → Prop} (C : Cx p R s m args meth c own cc nL cells slots A L) (k : Nat) (a1 : Int32) (a2 : Int32) (hk : kd k = 2) (h : w_X2_bringToWindow k a1 a2 σ K) (hml : Cond.methodLink own idx yX2_bringToWindow ∈ wA) (hR : rm_X2_bringToWindow.frames + 1 ≤ R.frames ∧ 8 + (3 + 11) + rm_X2_bringToWindow.locals ≤ R.locals) (hsum : (st.map fun v => v.category).sum ≤ 8) (d : decode cc pc = .ok (.invokevirtual idx, 3)) (kk : ∀ σ1, K σ1 → V p l e R s m args below meth c nL cells slots Q A L σ1 (pc + 3) lv st) : V p l e R s m args below meth c nL cells slots Q A L σ pc lv (.int a2 :: .int a1 :: .ref (lad L k) :: st) := v_callVv C [.int a1, .int a2] (fun sz => c_X2_bringToWindow l L k a1 a2 σ _ hk h sz) mC_X2_bringToWindow mZ_X2 hd_X2_bringToWindow mI_X2_bringToWindow mS_X2_bringToWindow rfl rfl (c0 := 2) (ci := 2) (by decide) rfl rfl rfl hk hml hR rfl hsum d kk
-- ===== RX2.join
abbrev rm_X2_join : Room := { frames := 4, cells := 0, slots := 0, locals := 92 }
def w_X2_join (k : Nat) (a1 : Int32) (a2 : Int32) (σ : Mem) (K : Int32 → Mem → Prop) : Prop := (vp_in a1 4 ∧ (vp_in a2 4 ∧ (w_X3_absorb (((k + 1) + 1) + 5 * ix a1) (((k + 1) + 1) + 5 * ix a2) (σ k 3) σ (fun r4 σ3 => (vp_in a2 4 ∧ (w_X3_wipe (((k + 1) + 1) + 5 * ix a2) σ3 (fun σ6 => (∀ σ7 : Mem, σ7 = mu σ6 k 5 ((σ6 k 5) + 1) → (w_X1_note (k + 44) 1 a1 r4 (σ7 k 3) σ7 (fun σ8 => (K r4 σ8)))))))))))
set_option maxHeartbeats 4000000 in
set_option maxRecDepth 100000 in
theorem c_X2_join (l : Launch) (L : Ly) (k : Nat) (a1 : Int32) (a2 : Int32) (σ : Mem) (K : Int32 → Mem → Prop) (hk : kd k = 2) (h : w_X2_join k a1 a2 σ K) (sz : Nat) : Met l yX2_join (.code yX2_join cX2_join 4 (some .int) :: wA) rm_X2_join (va_Pc [.ref (lad L k), .int a1, .int a2] (mB L sz σ)) (va_Qi K (mE L) (mA L sz)) 0 0 (mA L sz) := by
  refine v_start (own := RX2) [(0, .ref (lad L k)), (1, .int a1), (2, .int a2)] (by decide) rfl (Nat.le_of_ble_eq_true rfl) rfl (fun p e s m args below meth c C hret hlk => ?_)
  unfold w_X2_join at h
  refine v_aload_n C dX2_join_0 rfl 0 rfl ?_
  refine g_2_summaries C hk mF_X2_11 dX2_join_1 ?_
  refine v_iload_n C dX2_join_4 rfl 1 rfl ?_
  obtain ⟨hi1, h⟩ := h
  refine v_aald C (c0 := 11) (t0 := 3) (v := .ref (lad L (((k + 1) + 1) + 5 * ix a1))) (by decide) rfl rfl rfl (kd_2_1 hk) hi1 dX2_join_5 ?_
  refine v_aload_n C dX2_join_6 rfl 0 rfl ?_
  refine g_2_summaries C hk mF_X2_11 dX2_join_7 ?_
  refine v_iload_n C dX2_join_10 rfl 2 rfl ?_
  obtain ⟨hi2, h⟩ := h
  refine v_aald C (c0 := 11) (t0 := 3) (v := .ref (lad L (((k + 1) + 1) + 5 * ix a2))) (by decide) rfl rfl rfl (kd_2_1 hk) hi2 dX2_join_11 ?_
  refine v_aload_n C dX2_join_12 rfl 0 rfl ?_
  refine g_2_time C hk mF_X2_31 dX2_join_13 ?_
  refine k_X3_absorb C (((k + 1) + 1) + 5 * ix a1) (((k + 1) + 1) + 5 * ix a2) (σ k 3) (kd_el (kd_2_1 hk) hi1) (kd_el (kd_2_1 hk) hi2) h mM_X2_75 ⟨Nat.le_of_ble_eq_true rfl, Nat.le_of_ble_eq_true rfl⟩ (Nat.le_of_ble_eq_true rfl) dX2_join_16 (fun r4 σ3 h => ?_)
  refine v_istore_n C [(3, .int r4), (0, .ref (lad L k)), (1, .int a1), (2, .int a2)] dX2_join_19 rfl (by decide) rfl ?_
  refine v_aload_n C dX2_join_20 rfl 1 rfl ?_
  refine g_2_summaries C hk mF_X2_11 dX2_join_21 ?_
  refine v_iload_n C dX2_join_24 rfl 3 rfl ?_
  obtain ⟨hi5, h⟩ := h
  refine v_aald C (c0 := 11) (t0 := 3) (v := .ref (lad L (((k + 1) + 1) + 5 * ix a2))) (by decide) rfl rfl rfl (kd_2_1 hk) hi5 dX2_join_25 ?_
  refine k_X3_wipe C (((k + 1) + 1) + 5 * ix a2) (kd_el (kd_2_1 hk) hi5) h mM_X2_79 ⟨Nat.le_of_ble_eq_true rfl, Nat.le_of_ble_eq_true rfl⟩ (Nat.le_of_ble_eq_true rfl) dX2_join_26 (fun σ6 h => ?_)
  refine v_aload_n C dX2_join_29 rfl 1 rfl ?_
  refine v_dup C dX2_join_30 rfl ?_
  refine g_2_merges C hk mF_X2_38 dX2_join_31 ?_
  refine v_iconst C (v := 1) dX2_join_34 rfl ?_
  refine v_iadd C dX2_join_35 ?_
  refine p_2_merges C hk mF_X2_38 dX2_join_36 (fun σ7 eσ7 => ?_)
  replace h := h σ7 eσ7
  refine v_aload_n C dX2_join_39 rfl 1 rfl ?_
  refine g_2_log C hk mF_X2_27 dX2_join_40 ?_
  refine v_iconst C (v := 1) dX2_join_43 rfl ?_
  refine v_iload_n C dX2_join_44 rfl 2 rfl ?_
  refine v_iload_n C dX2_join_45 rfl 0 rfl ?_
  refine v_aload_n C dX2_join_46 rfl 1 rfl ?_
  refine g_2_time C hk mF_X2_31 dX2_join_47 ?_
  refine k_X1_note C (k + 44) 1 a1 r4 (σ7 k 3) (kd_2_44 hk) h mM_X2_59 ⟨Nat.le_of_ble_eq_true rfl, Nat.le_of_ble_eq_true rfl⟩ (Nat.le_of_ble_eq_true rfl) dX2_join_50 (fun σ8 h => ?_)
  refine v_iload_n C dX2_join_53 rfl 0 rfl ?_
  exact v_iret C dX2_join_54 hret hlk h
theorem hd_X2_join : yX2_join.cls ≠ "java/lang/invoke/MethodHandle" ∧ yX2_join.cls ≠ "java/lang/invoke/VarHandle" ∧ (parseMethodDescriptor yX2_join.desc).map (fun d => d.parameters.length) = some 2 := by decide +kernel
theorem k_X2_join {p : Program} {l : Launch} {e : Env} {R : Room} {s : State} {m : MethodId} {args : Array Value} {below : List Frame} {meth : Method} {c : Code} {nL cells slots : Nat} {Q : State → Prop} {A : Nat → Prop} {L : Ly} {own : String} {cc : ByteArray} {σ : Mem} {pc idx : Nat} {lv : List (Nat × Value)} {st : List Value} {K : Int32 → Mem → Prop} (C : Cx p R s m args meth c own cc nL cells slots A L) (k : Nat) (a1 : Int32) (a2 : Int32) (hk : kd k = 2) (h : w_X2_join k a1 a2 σ K) (hml : Cond.methodLink own idx yX2_join ∈ wA) (hR : rm_X2_join.frames + 1 ≤ R.frames ∧ 8 + (4 + 11) + rm_X2_join.locals ≤ R.locals) (hsum : (st.map fun v => v.category).sum ≤ 8) (d : decode cc pc = .ok (.invokevirtual idx, 3)) (kk : ∀ r σ1, K r σ1 → V p l e R s m args below meth c nL cells slots Q A L σ1 (pc + 3) lv (.int r :: st)) : V p l e R s m args below meth c nL cells slots Q A L σ pc lv (.int a2 :: .int a1 :: .ref (lad L k) :: st) := v_callVi C [.int a1, .int a2] (fun sz => c_X2_join l L k a1 a2 σ _ hk h sz) mC_X2_join mZ_X2 hd_X2_join mI_X2_join mS_X2_join rfl rfl (c0 := 2) (ci := 2) (by decide) rfl rfl rfl hk hml hR rfl hsum d kk
-- ===== RX2.resize
abbrev rm_X2_resize : Room := { frames := 3, cells := 0, slots := 0, locals := 68 }
def w_X2_resize_18 (k : Nat) (a1 : Int32) (a2 : Int32) (K : Int32 → Mem → Prop)  : Nat → Nat → Int32 → Int32 → Mem → Prop
  | 0, _, _, _, _ => False
  | n + 1, r3, x4, x5, σ => (br (26 ≤ x5) (K x4 σ) (w_X3_counters r3 σ (fun r4 σ3 => (br (r4 ≤ a2) (K x4 σ3) (w_X3_evictNext r3 σ3 (fun r6 σ5 => (w_X2_noteEviction k a1 r6 σ5 (fun σ7 => (w_X2_resize_18 k a1 a2 K  n r3 (x4 + 1) (x5 + 1) σ7)))))))))
set_option maxHeartbeats 4000000 in
set_option maxRecDepth 100000 in
theorem b_X2_resize_18 {p : Program} {l : Launch} {e : Env} {s : State} {m : MethodId} {args : Array Value} {below : List Frame} {meth : Method} {c : Code} {L : Ly} {sz : Nat} (C : Cx p rm_X2_resize s m args meth c RX2 cX2_resize 6 0 0 (mA L sz) L) (hret : meth.sig.returnType = (some .int)) (hlk : meth.locks = false) (k : Nat) (a1 : Int32) (a2 : Int32) (hk : kd k = 2) (K : Int32 → Mem → Prop)  : ∀ (n : Nat) (r3 : Nat) (x4 : Int32) (x5 : Int32) (σ : Mem), kd r3 = 3 → w_X2_resize_18 k a1 a2 K  n r3 x4 x5 σ → V p l e rm_X2_resize s m args below meth c 6 0 0 (MQ below (va_Qi K (mE L) (mA L sz)) args s 0 0 (mA L sz)) (mA L sz) L σ 18 [(0, .ref (lad L k)), (1, .int a1), (2, .int a2), (3, .ref (lad L r3)), (4, .int x4), (5, .int x5)] [] := by
  intro n
  induction n with
  | zero => intro r3 x4 x5 σ hr3 h; exact h.elim
  | succ n ih =>
    intro r3 x4 x5 σ hr3 h
    rw [w_X2_resize_18] at h
    refine v_iload C dX2_resize_18 5 rfl ?_
    refine v_bipush C (v := 26) dX2_resize_20 rfl ?_
    refine v_icmp_ge C (tgt := 51) dX2_resize_22 (by decide) (fun hc => ?_) (fun hc => ?_)
    · replace h := h.1 hc
      refine v_iload C dX2_resize_51 4 rfl ?_
      exact v_iret C dX2_resize_53 hret hlk h
    · replace h := h.2 hc
      refine v_aload_n C dX2_resize_25 rfl 3 rfl ?_
      refine k_X3_counters C r3 hr3 h mM_X2_85 ⟨Nat.le_of_ble_eq_true rfl, Nat.le_of_ble_eq_true rfl⟩ (Nat.le_of_ble_eq_true rfl) dX2_resize_26 (fun r4 σ3 h => ?_)
      refine v_iload_n C dX2_resize_29 rfl 2 rfl ?_
      refine v_icmp_le C (tgt := 51) dX2_resize_30 (by decide) (fun hc => ?_) (fun hc => ?_)
      · replace h := h.1 hc
        refine v_iload C dX2_resize_51 4 rfl ?_
        exact v_iret C dX2_resize_53 hret hlk h
      · replace h := h.2 hc
        refine v_aload_n C dX2_resize_33 rfl 0 rfl ?_
        refine v_iload_n C dX2_resize_34 rfl 1 rfl ?_
        refine v_aload_n C dX2_resize_35 rfl 3 rfl ?_
        refine k_X3_evictNext C r3 hr3 h mM_X2_89 ⟨Nat.le_of_ble_eq_true rfl, Nat.le_of_ble_eq_true rfl⟩ (Nat.le_of_ble_eq_true rfl) dX2_resize_36 (fun r6 σ5 h => ?_)
        refine k_X2_noteEviction C k a1 r6 hk h mM_X2_46 ⟨Nat.le_of_ble_eq_true rfl, Nat.le_of_ble_eq_true rfl⟩ (Nat.le_of_ble_eq_true rfl) dX2_resize_39 (fun σ7 h => ?_)
        refine v_iinc C [(4, .int (x4 + 1)), (0, .ref (lad L k)), (1, .int a1), (2, .int a2), (3, .ref (lad L r3)), (5, .int x5)] dX2_resize_42 4 rfl rfl (by decide) rfl ?_
        refine v_iinc C [(5, .int (x5 + 1)), (4, .int (x4 + 1)), (0, .ref (lad L k)), (1, .int a1), (2, .int a2), (3, .ref (lad L r3))] dX2_resize_45 5 rfl rfl (by decide) rfl ?_
        refine v_goto C (tgt := 18) dX2_resize_48 (by decide) ?_
        refine v_sub [2, 3, 4, 5, 1, 0] rfl ?_
        exact ih _ _ _ _ hr3 h
def w_X2_resize (k : Nat) (a1 : Int32) (a2 : Int32) (σ : Mem) (K : Int32 → Mem → Prop) : Prop := (vp_in a1 4 ∧ (∀ σ2 : Mem, σ2 = mu σ (((k + 1) + 1) + 5 * ix a1) 0 a2 → (∃ n8, w_X2_resize_18 k a1 a2 K  n8 (((k + 1) + 1) + 5 * ix a1) 0 0 σ2)))
set_option maxHeartbeats 4000000 in
set_option maxRecDepth 100000 in
theorem c_X2_resize (l : Launch) (L : Ly) (k : Nat) (a1 : Int32) (a2 : Int32) (σ : Mem) (K : Int32 → Mem → Prop) (hk : kd k = 2) (h : w_X2_resize k a1 a2 σ K) (sz : Nat) : Met l yX2_resize (.code yX2_resize cX2_resize 6 (some .int) :: wA) rm_X2_resize (va_Pc [.ref (lad L k), .int a1, .int a2] (mB L sz σ)) (va_Qi K (mE L) (mA L sz)) 0 0 (mA L sz) := by
  refine v_start (own := RX2) [(0, .ref (lad L k)), (1, .int a1), (2, .int a2)] (by decide) rfl (Nat.le_of_ble_eq_true rfl) rfl (fun p e s m args below meth c C hret hlk => ?_)
  unfold w_X2_resize at h
  refine v_aload_n C dX2_resize_0 rfl 0 rfl ?_
  refine g_2_summaries C hk mF_X2_11 dX2_resize_1 ?_
  refine v_iload_n C dX2_resize_4 rfl 1 rfl ?_
  obtain ⟨hi1, h⟩ := h
  refine v_aald C (c0 := 11) (t0 := 3) (v := .ref (lad L (((k + 1) + 1) + 5 * ix a1))) (by decide) rfl rfl rfl (kd_2_1 hk) hi1 dX2_resize_5 ?_
  refine v_astore_n C [(3, .ref (lad L (((k + 1) + 1) + 5 * ix a1))), (0, .ref (lad L k)), (1, .int a1), (2, .int a2)] dX2_resize_6 rfl (by decide) rfl ?_
  refine v_iconst C (v := 0) dX2_resize_7 rfl ?_
  refine v_istore C [(4, .int 0), (3, .ref (lad L (((k + 1) + 1) + 5 * ix a1))), (0, .ref (lad L k)), (1, .int a1), (2, .int a2)] dX2_resize_8 (by decide) rfl ?_
  refine v_aload_n C dX2_resize_10 rfl 1 rfl ?_
  refine v_iload_n C dX2_resize_11 rfl 4 rfl ?_
  refine p_3_size C (kd_el (kd_2_1 hk) hi1) mF_X2_82 dX2_resize_12 (fun σ2 eσ2 => ?_)
  replace h := h σ2 eσ2
  refine v_iconst C (v := 0) dX2_resize_15 rfl ?_
  refine v_istore C [(5, .int 0), (4, .int 0), (3, .ref (lad L (((k + 1) + 1) + 5 * ix a1))), (0, .ref (lad L k)), (1, .int a1), (2, .int a2)] dX2_resize_16 (by decide) rfl ?_
  obtain ⟨n8, h⟩ := h
  refine v_sub [3, 4, 5, 2, 1, 0] rfl ?_
  exact b_X2_resize_18 C hret hlk k a1 a2 hk K   n8 _ _ _ _ (kd_el (kd_2_1 hk) hi1) h
theorem hd_X2_resize : yX2_resize.cls ≠ "java/lang/invoke/MethodHandle" ∧ yX2_resize.cls ≠ "java/lang/invoke/VarHandle" ∧ (parseMethodDescriptor yX2_resize.desc).map (fun d => d.parameters.length) = some 2 := by decide +kernel
theorem k_X2_resize {p : Program} {l : Launch} {e : Env} {R : Room} {s : State} {m : MethodId} {args : Array Value} {below : List Frame} {meth : Method} {c : Code} {nL cells slots : Nat} {Q : State → Prop} {A : Nat → Prop} {L : Ly} {own : String} {cc : ByteArray} {σ : Mem} {pc idx : Nat} {lv : List (Nat × Value)} {st : List Value} {K : Int32 → Mem → Prop} (C : Cx p R s m args meth c own cc nL cells slots A L) (k : Nat) (a1 : Int32) (a2 : Int32) (hk : kd k = 2) (h : w_X2_resize k a1 a2 σ K) (hml : Cond.methodLink own idx yX2_resize ∈ wA) (hR : rm_X2_resize.frames + 1 ≤ R.frames ∧ 8 + (6 + 11) + rm_X2_resize.locals ≤ R.locals) (hsum : (st.map fun v => v.category).sum ≤ 8) (d : decode cc pc = .ok (.invokevirtual idx, 3)) (kk : ∀ r σ1, K r σ1 → V p l e R s m args below meth c nL cells slots Q A L σ1 (pc + 3) lv (.int r :: st)) : V p l e R s m args below meth c nL cells slots Q A L σ pc lv (.int a2 :: .int a1 :: .ref (lad L k) :: st) := v_callVi C [.int a1, .int a2] (fun sz => c_X2_resize l L k a1 a2 σ _ hk h sz) mC_X2_resize mZ_X2 hd_X2_resize mI_X2_resize mS_X2_resize rfl rfl (c0 := 2) (ci := 2) (by decide) rfl rfl rfl hk hml hR rfl hsum d kk
