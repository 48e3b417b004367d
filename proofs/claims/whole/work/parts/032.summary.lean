-- ===== RX3.become
abbrev rm_X3_become : Room := { frames := 1, cells := 0, slots := 0, locals := 40 }
def w_X3_become (k : Nat) (o1 : Nat) (σ : Mem) (K : Mem → Prop) : Prop := (∀ σ1 : Mem, σ1 = mu σ k 0 (σ o1 0) → (∀ σ2 : Mem, σ2 = mu σ1 k 1 (σ1 o1 1) → (∀ σ3 : Mem, σ3 = mu σ2 k 2 (σ2 o1 2) → (∀ σ4 : Mem, σ4 = mu σ3 k 3 (σ3 o1 3) → (∀ σ5 : Mem, σ5 = ms σ4 (k + 1) (va_cpy (σ4 (o1 + 1)) (σ4 (k + 1)) 0 0 26) → (∀ σ6 : Mem, σ6 = ms σ5 (k + 2) (va_cpy (σ5 (o1 + 2)) (σ5 (k + 2)) 0 0 26) → (∀ σ7 : Mem, σ7 = ms σ6 (k + 3) (va_cpy (σ6 (o1 + 3)) (σ6 (k + 3)) 0 0 26) → (∀ σ8 : Mem, σ8 = ms σ7 (k + 4) (va_cpy (σ7 (o1 + 4)) (σ7 (k + 4)) 0 0 26) → (K σ8)))))))))
set_option maxHeartbeats 4000000 in
set_option maxRecDepth 100000 in
theorem c_X3_become (l : Launch) (L : Ly) (k : Nat) (o1 : Nat) (σ : Mem) (K : Mem → Prop) (hk : kd k = 3) (ho1 : kd o1 = 3) (h : w_X3_become k o1 σ K) (sz : Nat) : Met l yX3_become (.code yX3_become cX3_become 2 none :: wA) rm_X3_become (va_Pc [.ref (lad L k), .ref (lad L o1)] (mB L sz σ)) (va_Qv K (mE L) (mA L sz)) 0 0 (mA L sz) := by
  refine v_start (own := RX3) [(0, .ref (lad L k)), (1, .ref (lad L o1))] (by decide) rfl (Nat.le_of_ble_eq_true rfl) rfl (fun p e s m args below meth c C hret hlk => ?_)
  unfold w_X3_become at h
  refine v_aload_n C dX3_become_0 rfl 0 rfl ?_
  refine v_aload_n C dX3_become_1 rfl 1 rfl ?_
  refine g_3_size C ho1 mF_X3_9 dX3_become_2 ?_
  refine p_3_size C hk mF_X3_9 dX3_become_5 (fun σ1 eσ1 => ?_)
  replace h := h σ1 eσ1
  refine v_aload_n C dX3_become_8 rfl 0 rfl ?_
  refine v_aload_n C dX3_become_9 rfl 1 rfl ?_
  refine g_3_floor C ho1 mF_X3_15 dX3_become_10 ?_
  refine p_3_floor C hk mF_X3_15 dX3_become_13 (fun σ2 eσ2 => ?_)
  replace h := h σ2 eσ2
  refine v_aload_n C dX3_become_16 rfl 0 rfl ?_
  refine v_aload_n C dX3_become_17 rfl 1 rfl ?_
  refine g_3_sum C ho1 mF_X3_18 dX3_become_18 ?_
  refine p_3_sum C hk mF_X3_18 dX3_become_21 (fun σ3 eσ3 => ?_)
  replace h := h σ3 eσ3
  refine v_aload_n C dX3_become_24 rfl 0 rfl ?_
  refine v_aload_n C dX3_become_25 rfl 1 rfl ?_
  refine g_3_held C ho1 mF_X3_21 dX3_become_26 ?_
  refine p_3_held C hk mF_X3_21 dX3_become_29 (fun σ4 eσ4 => ?_)
  replace h := h σ4 eσ4
  refine v_aload_n C dX3_become_32 rfl 1 rfl ?_
  refine g_3_counts C ho1 mF_X3_24 dX3_become_33 ?_
  refine v_iconst C (v := 0) dX3_become_36 rfl ?_
  refine v_aload_n C dX3_become_37 rfl 0 rfl ?_
  refine g_3_counts C hk mF_X3_24 dX3_become_38 ?_
  refine v_iconst C (v := 0) dX3_become_41 rfl ?_
  refine v_bipush C (v := 26) dX3_become_42 rfl ?_
  refine v_copy C (c0 := 20) (by decide) (fun _ _ => rfl) (kd_3_1 ho1) (kd_3_1 hk) (x := 26) (by decide) (by decide) mM_X3_86 (by decide) (Nat.le_of_ble_eq_true rfl) dX3_become_44 (fun σ5 eσ5 => ?_)
  replace h := h σ5 eσ5
  refine v_aload_n C dX3_become_47 rfl 1 rfl ?_
  refine g_3_slacks C ho1 mF_X3_28 dX3_become_48 ?_
  refine v_iconst C (v := 0) dX3_become_51 rfl ?_
  refine v_aload_n C dX3_become_52 rfl 0 rfl ?_
  refine g_3_slacks C hk mF_X3_28 dX3_become_53 ?_
  refine v_iconst C (v := 0) dX3_become_56 rfl ?_
  refine v_bipush C (v := 26) dX3_become_57 rfl ?_
  refine v_copy C (c0 := 20) (by decide) (fun _ _ => rfl) (kd_3_2 ho1) (kd_3_2 hk) (x := 26) (by decide) (by decide) mM_X3_86 (by decide) (Nat.le_of_ble_eq_true rfl) dX3_become_59 (fun σ6 eσ6 => ?_)
  replace h := h σ6 eσ6
  refine v_aload_n C dX3_become_62 rfl 1 rfl ?_
  refine g_3_times C ho1 mF_X3_31 dX3_become_63 ?_
  refine v_iconst C (v := 0) dX3_become_66 rfl ?_
  refine v_aload_n C dX3_become_67 rfl 0 rfl ?_
  refine g_3_times C hk mF_X3_31 dX3_become_68 ?_
  refine v_iconst C (v := 0) dX3_become_71 rfl ?_
  refine v_bipush C (v := 26) dX3_become_72 rfl ?_
  refine v_copy C (c0 := 20) (by decide) (fun _ _ => rfl) (kd_3_3 ho1) (kd_3_3 hk) (x := 26) (by decide) (by decide) mM_X3_86 (by decide) (Nat.le_of_ble_eq_true rfl) dX3_become_74 (fun σ7 eσ7 => ?_)
  replace h := h σ7 eσ7
  refine v_aload_n C dX3_become_77 rfl 1 rfl ?_
  refine g_3_came C ho1 mF_X3_34 dX3_become_78 ?_
  refine v_iconst C (v := 0) dX3_become_81 rfl ?_
  refine v_aload_n C dX3_become_82 rfl 0 rfl ?_
  refine g_3_came C hk mF_X3_34 dX3_become_83 ?_
  refine v_iconst C (v := 0) dX3_become_86 rfl ?_
  refine v_bipush C (v := 26) dX3_become_87 rfl ?_
  refine v_copy C (c0 := 20) (by decide) (fun _ _ => rfl) (kd_3_4 ho1) (kd_3_4 hk) (x := 26) (by decide) (by decide) mM_X3_86 (by decide) (Nat.le_of_ble_eq_true rfl) dX3_become_89 (fun σ8 eσ8 => ?_)
  replace h := h σ8 eσ8
  exact v_vret C dX3_become_92 hret hlk h
theorem hd_X3_become : yX3_become.cls ≠ "java/lang/invoke/MethodHandle" ∧ yX3_become.cls ≠ "java/lang/invoke/VarHandle" ∧ (parseMethodDescriptor yX3_become.desc).map (fun d => d.parameters.length) = some 1 := by decide +kernel
theorem k_X3_become {p : Program} {l : Launch} {e : Env} {R : Room} {s : State} {m : MethodId} {args : Array Value} {below : List Frame} {meth : Method} {c : Code} {nL cells slots : Nat} {Q : State → Prop} {A : Nat → Prop} {L : Ly} {own : String} {cc : ByteArray} {σ : Mem} {pc idx : Nat} {lv : List (Nat × Value)} {st : List Value} {K : Mem → Prop} (C : Cx p R s m args meth c own cc nL cells slots A L) (k : Nat) (o1 : Nat) (hk : kd k = 3) (ho1 : kd o1 = 3) (h : w_X3_become k o1 σ K) (hml : Cond.methodLink own idx yX3_become ∈ wA) (hR : rm_X3_become.frames + 1 ≤ R.frames ∧ 8 + (2 + 11) + rm_X3_become.locals ≤ R.locals) (hsum : (st.map fun v => v.category).sum ≤ 8) (d : decode cc pc = .ok (.invokevirtual idx, 3)) (kk : ∀ σ1, K σ1 → V p l e R s m args below meth c nL cells slots Q A L σ1 (pc + 3) lv st) : V p l e R s m args below meth c nL cells slots Q A L σ pc lv (.ref (lad L o1) :: .ref (lad L k) :: st) := v_callVv C [.ref (lad L o1)] (fun sz => c_X3_become l L k o1 σ _ hk ho1 h sz) mC_X3_become mZ_X3 hd_X3_become mI_X3_become mS_X3_become rfl rfl (c0 := 3) (ci := 3) (by decide) rfl rfl rfl hk hml hR rfl hsum d kk
-- ===== RX3.has
abbrev rm_X3_has : Room := { frames := 0, cells := 0, slots := 0, locals := 0 }
def w_X3_has (k : Nat) (a1 : Int32) (σ : Mem) (K : Int32 → Mem → Prop) : Prop := (br ((((σ k 3) >>> (a1 &&& 31)) &&& 1) = 0) (K 0 σ) (K 1 σ))
set_option maxHeartbeats 4000000 in
set_option maxRecDepth 100000 in
theorem c_X3_has (l : Launch) (L : Ly) (k : Nat) (a1 : Int32) (σ : Mem) (K : Int32 → Mem → Prop) (hk : kd k = 3) (h : w_X3_has k a1 σ K) (sz : Nat) : Met l yX3_has (.code yX3_has cX3_has 2 (some .boolean) :: wA) rm_X3_has (va_Pc [.ref (lad L k), .int a1] (mB L sz σ)) (va_Qi K (mE L) (mA L sz)) 0 0 (mA L sz) := by
  refine v_start (own := RX3) [(0, .ref (lad L k)), (1, .int a1)] (by decide) rfl (Nat.le_of_ble_eq_true rfl) rfl (fun p e s m args below meth c C hret hlk => ?_)
  unfold w_X3_has at h
  refine v_aload_n C dX3_has_0 rfl 0 rfl ?_
  refine g_3_held C hk mF_X3_21 dX3_has_1 ?_
  refine v_iload_n C dX3_has_4 rfl 1 rfl ?_
  refine v_ishr C dX3_has_5 ?_
  refine v_iconst C (v := 1) dX3_has_6 rfl ?_
  refine v_iand C dX3_has_7 ?_
  refine v_if_eq C (tgt := 15) dX3_has_8 (by decide) (fun hc => ?_) (fun hc => ?_)
  · replace h := h.1 hc
    refine v_iconst C (v := 0) dX3_has_15 rfl ?_
    exact v_zret C dX3_has_16 hret hlk rfl h
  · replace h := h.2 hc
    refine v_iconst C (v := 1) dX3_has_11 rfl ?_
    refine v_goto C (tgt := 16) dX3_has_12 (by decide) ?_
    exact v_zret C dX3_has_16 hret hlk rfl h
theorem hd_X3_has : yX3_has.cls ≠ "java/lang/invoke/MethodHandle" ∧ yX3_has.cls ≠ "java/lang/invoke/VarHandle" ∧ (parseMethodDescriptor yX3_has.desc).map (fun d => d.parameters.length) = some 1 := by decide +kernel
theorem k_X3_has {p : Program} {l : Launch} {e : Env} {R : Room} {s : State} {m : MethodId} {args : Array Value} {below : List Frame} {meth : Method} {c : Code} {nL cells slots : Nat} {Q : State → Prop} {A : Nat → Prop} {L : Ly} {own : String} {cc : ByteArray} {σ : Mem} {pc idx : Nat} {lv : List (Nat × Value)} {st : List Value} {K : Int32 → Mem → Prop} (C : Cx p R s m args meth c own cc nL cells slots A L) (k : Nat) (a1 : Int32) (hk : kd k = 3) (h : w_X3_has k a1 σ K) (hml : Cond.methodLink own idx yX3_has ∈ wA) (hR : rm_X3_has.frames + 1 ≤ R.frames ∧ 8 + (2 + 11) + rm_X3_has.locals ≤ R.locals) (hsum : (st.map fun v => v.category).sum ≤ 8) (d : decode cc pc = .ok (.invokevirtual idx, 3)) (kk : ∀ r σ1, K r σ1 → V p l e R s m args below meth c nL cells slots Q A L σ1 (pc + 3) lv (.int r :: st)) : V p l e R s m args below meth c nL cells slots Q A L σ pc lv (.int a1 :: .ref (lad L k) :: st) := v_callVi C [.int a1] (fun sz => c_X3_has l L k a1 σ _ hk h sz) mC_X3_has mZ_X3 hd_X3_has mI_X3_has mS_X3_has rfl rfl (c0 := 3) (ci := 3) (by decide) rfl rfl rfl hk hml hR rfl hsum d kk
-- ===== RJ6.bitCount
abbrev rm_J6_bitCount_0f7a4 : Room := { frames := 0, cells := 0, slots := 0, locals := 0 }
def w_J6_bitCount_0f7a4 (a1 : Int32) (σ : Mem) (K : Int32 → Mem → Prop) : Prop := (∀ v1 : Int32, v1 = (a1 - (((Int32.toUInt32 a1 >>> (Int32.toUInt32 1 &&& Int32.toUInt32 31)).toInt32) &&& 1431655765)) → (∀ v2 : Int32, v2 = ((v1 &&& 858993459) + (((Int32.toUInt32 v1 >>> (Int32.toUInt32 2 &&& Int32.toUInt32 31)).toInt32) &&& 858993459)) → (∀ v3 : Int32, v3 = ((v2 + ((Int32.toUInt32 v2 >>> (Int32.toUInt32 4 &&& Int32.toUInt32 31)).toInt32)) &&& 252645135) → (∀ v4 : Int32, v4 = (v3 + ((Int32.toUInt32 v3 >>> (Int32.toUInt32 8 &&& Int32.toUInt32 31)).toInt32)) → (∀ v5 : Int32, v5 = (v4 + ((Int32.toUInt32 v4 >>> (Int32.toUInt32 16 &&& Int32.toUInt32 31)).toInt32)) → (K (v5 &&& 63) σ))))))
set_option maxHeartbeats 4000000 in
set_option maxRecDepth 100000 in
theorem c_J6_bitCount_0f7a4 (l : Launch) (L : Ly) (a1 : Int32) (σ : Mem) (K : Int32 → Mem → Prop)  (h : w_J6_bitCount_0f7a4 a1 σ K) (sz : Nat) : Met l yJ6_bitCount_0f7a4 (.code yJ6_bitCount_0f7a4 cJ6_bitCount_0f7a4 1 (some .int) :: wA) rm_J6_bitCount_0f7a4 (va_Pc [.int a1] (mB L sz σ)) (va_Qi K (mE L) (mA L sz)) 0 0 (mA L sz) := by
  refine v_start (own := RJ6) [(0, .int a1)] (by decide) rfl (Nat.le_of_ble_eq_true rfl) rfl (fun p e s m args below meth c C hret hlk => ?_)
  unfold w_J6_bitCount_0f7a4 at h
  refine v_iload_n C dJ6_bitCount_0f7a4_0 rfl 0 rfl ?_
  refine v_iload_n C dJ6_bitCount_0f7a4_1 rfl 0 rfl ?_
  refine v_iconst C (v := 1) dJ6_bitCount_0f7a4_2 rfl ?_
  refine v_iushr C dJ6_bitCount_0f7a4_3 ?_
  refine v_ldcw C dJ6_bitCount_0f7a4_4 mN_J6_265 ?_
  refine v_iand C dJ6_bitCount_0f7a4_7 ?_
  refine v_isub C dJ6_bitCount_0f7a4_8 ?_
  refine v_nm (fun v1 ev1 => ?_)
  replace h := h v1 ev1
  refine v_istore_n C [(0, .int v1)] dJ6_bitCount_0f7a4_9 rfl (by decide) rfl ?_
  refine v_iload_n C dJ6_bitCount_0f7a4_10 rfl 0 rfl ?_
  refine v_ldcw C dJ6_bitCount_0f7a4_11 mN_J6_266 ?_
  refine v_iand C dJ6_bitCount_0f7a4_14 ?_
  refine v_iload_n C dJ6_bitCount_0f7a4_15 rfl 0 rfl ?_
  refine v_iconst C (v := 2) dJ6_bitCount_0f7a4_16 rfl ?_
  refine v_iushr C dJ6_bitCount_0f7a4_17 ?_
  refine v_ldcw C dJ6_bitCount_0f7a4_18 mN_J6_266 ?_
  refine v_iand C dJ6_bitCount_0f7a4_21 ?_
  refine v_iadd C dJ6_bitCount_0f7a4_22 ?_
  refine v_nm (fun v2 ev2 => ?_)
  replace h := h v2 ev2
  refine v_istore_n C [(0, .int v2)] dJ6_bitCount_0f7a4_23 rfl (by decide) rfl ?_
  refine v_iload_n C dJ6_bitCount_0f7a4_24 rfl 0 rfl ?_
  refine v_iload_n C dJ6_bitCount_0f7a4_25 rfl 0 rfl ?_
  refine v_iconst C (v := 4) dJ6_bitCount_0f7a4_26 rfl ?_
  refine v_iushr C dJ6_bitCount_0f7a4_27 ?_
  refine v_iadd C dJ6_bitCount_0f7a4_28 ?_
  refine v_ldcw C dJ6_bitCount_0f7a4_29 mN_J6_267 ?_
  refine v_iand C dJ6_bitCount_0f7a4_32 ?_
  refine v_nm (fun v3 ev3 => ?_)
  replace h := h v3 ev3
  refine v_istore_n C [(0, .int v3)] dJ6_bitCount_0f7a4_33 rfl (by decide) rfl ?_
  refine v_iload_n C dJ6_bitCount_0f7a4_34 rfl 0 rfl ?_
  refine v_iload_n C dJ6_bitCount_0f7a4_35 rfl 0 rfl ?_
  refine v_bipush C (v := 8) dJ6_bitCount_0f7a4_36 rfl ?_
  refine v_iushr C dJ6_bitCount_0f7a4_38 ?_
  refine v_iadd C dJ6_bitCount_0f7a4_39 ?_
  refine v_nm (fun v4 ev4 => ?_)
  replace h := h v4 ev4
  refine v_istore_n C [(0, .int v4)] dJ6_bitCount_0f7a4_40 rfl (by decide) rfl ?_
  refine v_iload_n C dJ6_bitCount_0f7a4_41 rfl 0 rfl ?_
  refine v_iload_n C dJ6_bitCount_0f7a4_42 rfl 0 rfl ?_
  refine v_bipush C (v := 16) dJ6_bitCount_0f7a4_43 rfl ?_
  refine v_iushr C dJ6_bitCount_0f7a4_45 ?_
  refine v_iadd C dJ6_bitCount_0f7a4_46 ?_
  refine v_nm (fun v5 ev5 => ?_)
  replace h := h v5 ev5
  refine v_istore_n C [(0, .int v5)] dJ6_bitCount_0f7a4_47 rfl (by decide) rfl ?_
  refine v_iload_n C dJ6_bitCount_0f7a4_48 rfl 0 rfl ?_
  refine v_bipush C (v := 63) dJ6_bitCount_0f7a4_49 rfl ?_
  refine v_iand C dJ6_bitCount_0f7a4_51 ?_
  exact v_iret C dJ6_bitCount_0f7a4_52 hret hlk h
theorem hd_J6_bitCount_0f7a4 : yJ6_bitCount_0f7a4.cls ≠ "java/lang/invoke/MethodHandle" ∧ yJ6_bitCount_0f7a4.cls ≠ "java/lang/invoke/VarHandle" ∧ (parseMethodDescriptor yJ6_bitCount_0f7a4.desc).map (fun d => d.parameters.length) = some 1 := by decide +kernel
theorem k_J6_bitCount_0f7a4 {p : Program} {l : Launch} {e : Env} {R : Room} {s : State} {m : MethodId} {args : Array Value} {below : List Frame} {meth : Method} {c : Code} {nL cells slots : Nat} {Q : State → Prop} {A : Nat → Prop} {L : Ly} {own : String} {cc : ByteArray} {σ : Mem} {pc idx : Nat} {lv : List (Nat × Value)} {st : List Value} {K : Int32 → Mem → Prop} (C : Cx p R s m args meth c own cc nL cells slots A L) (a1 : Int32)  (h : w_J6_bitCount_0f7a4 a1 σ K) (hml : Cond.methodLink own idx yJ6_bitCount_0f7a4 ∈ wA) (hR : rm_J6_bitCount_0f7a4.frames + 1 ≤ R.frames ∧ 8 + (1 + 11) + rm_J6_bitCount_0f7a4.locals ≤ R.locals) (hsum : (st.map fun v => v.category).sum ≤ 8) (d : decode cc pc = .ok (.invokestatic idx, 3)) (kk : ∀ r σ1, K r σ1 → V p l e R s m args below meth c nL cells slots Q A L σ1 (pc + 3) lv (.int r :: st)) : V p l e R s m args below meth c nL cells slots Q A L σ pc lv (.int a1 :: st) := v_callSi C [.int a1] (fun sz => c_J6_bitCount_0f7a4 l L a1 σ _  h sz) mC_J6_bitCount_0f7a4 mZ_J6 hd_J6_bitCount_0f7a4 mT_J6_bitCount_0f7a4 rfl rfl hml hR rfl hsum d kk
-- ===== RX3.counters
abbrev rm_X3_counters : Room := { frames := 1, cells := 0, slots := 0, locals := 20 }
def w_X3_counters (k : Nat) (σ : Mem) (K : Int32 → Mem → Prop) : Prop := (w_J6_bitCount_0f7a4 (σ k 3) σ (fun r2 σ1 => (K r2 σ1)))
set_option maxHeartbeats 4000000 in
set_option maxRecDepth 100000 in
theorem c_X3_counters (l : Launch) (L : Ly) (k : Nat) (σ : Mem) (K : Int32 → Mem → Prop) (hk : kd k = 3) (h : w_X3_counters k σ K) (sz : Nat) : Met l yX3_counters (.code yX3_counters cX3_counters 1 (some .int) :: wA) rm_X3_counters (va_Pc [.ref (lad L k)] (mB L sz σ)) (va_Qi K (mE L) (mA L sz)) 0 0 (mA L sz) := by
  refine v_start (own := RX3) [(0, .ref (lad L k))] (by decide) rfl (Nat.le_of_ble_eq_true rfl) rfl (fun p e s m args below meth c C hret hlk => ?_)
  unfold w_X3_counters at h
  refine v_aload_n C dX3_counters_0 rfl 0 rfl ?_
  refine g_3_held C hk mF_X3_21 dX3_counters_1 ?_
  refine k_J6_bitCount_0f7a4 C (σ k 3)  h mM_X3_37 ⟨Nat.le_of_ble_eq_true rfl, Nat.le_of_ble_eq_true rfl⟩ (Nat.le_of_ble_eq_true rfl) dX3_counters_4 (fun r2 σ1 h => ?_)
  exact v_iret C dX3_counters_7 hret hlk h
theorem hd_X3_counters : yX3_counters.cls ≠ "java/lang/invoke/MethodHandle" ∧ yX3_counters.cls ≠ "java/lang/invoke/VarHandle" ∧ (parseMethodDescriptor yX3_counters.desc).map (fun d => d.parameters.length) = some 0 := by decide +kernel
theorem k_X3_counters {p : Program} {l : Launch} {e : Env} {R : Room} {s : State} {m : MethodId} {args : Array Value} {below : List Frame} {meth : Method} {c : Code} {nL cells slots : Nat} {Q : State → Prop} {A : Nat → Prop} {L : Ly} {own : String} {cc : ByteArray} {σ : Mem} {pc idx : Nat} {lv : List (Nat × Value)} {st : List Value} {K : Int32 → Mem → Prop} (C : Cx p R s m args meth c own cc nL cells slots A L) (k : Nat) (hk : kd k = 3) (h : w_X3_counters k σ K) (hml : Cond.methodLink own idx yX3_counters ∈ wA) (hR : rm_X3_counters.frames + 1 ≤ R.frames ∧ 8 + (1 + 11) + rm_X3_counters.locals ≤ R.locals) (hsum : (st.map fun v => v.category).sum ≤ 8) (d : decode cc pc = .ok (.invokevirtual idx, 3)) (kk : ∀ r σ1, K r σ1 → V p l e R s m args below meth c nL cells slots Q A L σ1 (pc + 3) lv (.int r :: st)) : V p l e R s m args below meth c nL cells slots Q A L σ pc lv (.ref (lad L k) :: st) := v_callVi C [] (fun sz => c_X3_counters l L k σ _ hk h sz) mC_X3_counters mZ_X3 hd_X3_counters mI_X3_counters mS_X3_counters rfl rfl (c0 := 3) (ci := 3) (by decide) rfl rfl rfl hk hml hR rfl hsum d kk
-- ===== RX3.needsRoomFor
abbrev rm_X3_needsRoomFor : Room := { frames := 2, cells := 0, slots := 0, locals := 40 }
def w_X3_needsRoomFor (k : Nat) (a1 : Int32) (σ : Mem) (K : Int32 → Mem → Prop) : Prop := (w_X3_has k a1 σ (fun r2 σ1 => (br (r2 = 0) (w_X3_counters k σ1 (fun r4 σ3 => (br (r4 < (σ3 k 0)) (K 0 σ3) (K 1 σ3)))) (K 0 σ1))))
set_option maxHeartbeats 4000000 in
set_option maxRecDepth 100000 in
theorem c_X3_needsRoomFor (l : Launch) (L : Ly) (k : Nat) (a1 : Int32) (σ : Mem) (K : Int32 → Mem → Prop) (hk : kd k = 3) (h : w_X3_needsRoomFor k a1 σ K) (sz : Nat) : Met l yX3_needsRoomFor (.code yX3_needsRoomFor cX3_needsRoomFor 2 (some .boolean) :: wA) rm_X3_needsRoomFor (va_Pc [.ref (lad L k), .int a1] (mB L sz σ)) (va_Qi K (mE L) (mA L sz)) 0 0 (mA L sz) := by
  refine v_start (own := RX3) [(0, .ref (lad L k)), (1, .int a1)] (by decide) rfl (Nat.le_of_ble_eq_true rfl) rfl (fun p e s m args below meth c C hret hlk => ?_)
  unfold w_X3_needsRoomFor at h
  refine v_aload_n C dX3_needsRoomFor_0 rfl 0 rfl ?_
  refine v_iload_n C dX3_needsRoomFor_1 rfl 1 rfl ?_
  refine k_X3_has C k a1 hk h mM_X3_43 ⟨Nat.le_of_ble_eq_true rfl, Nat.le_of_ble_eq_true rfl⟩ (Nat.le_of_ble_eq_true rfl) dX3_needsRoomFor_2 (fun r2 σ1 h => ?_)
  refine v_if_ne C (tgt := 23) dX3_needsRoomFor_5 (by decide) (fun hc => ?_) (fun hc => ?_)
  · replace h := h.2 hc
    refine v_iconst C (v := 0) dX3_needsRoomFor_23 rfl ?_
    exact v_zret C dX3_needsRoomFor_24 hret hlk rfl h
  · replace h := h.1 hc
    refine v_aload_n C dX3_needsRoomFor_8 rfl 0 rfl ?_
    refine k_X3_counters C k hk h mM_X3_47 ⟨Nat.le_of_ble_eq_true rfl, Nat.le_of_ble_eq_true rfl⟩ (Nat.le_of_ble_eq_true rfl) dX3_needsRoomFor_9 (fun r4 σ3 h => ?_)
    refine v_aload_n C dX3_needsRoomFor_12 rfl 0 rfl ?_
    refine g_3_size C hk mF_X3_9 dX3_needsRoomFor_13 ?_
    refine v_icmp_lt C (tgt := 23) dX3_needsRoomFor_16 (by decide) (fun hc => ?_) (fun hc => ?_)
    · replace h := h.1 hc
      refine v_iconst C (v := 0) dX3_needsRoomFor_23 rfl ?_
      exact v_zret C dX3_needsRoomFor_24 hret hlk rfl h
    · replace h := h.2 hc
      refine v_iconst C (v := 1) dX3_needsRoomFor_19 rfl ?_
      refine v_goto C (tgt := 24) dX3_needsRoomFor_20 (by decide) ?_
      exact v_zret C dX3_needsRoomFor_24 hret hlk rfl h
theorem hd_X3_needsRoomFor : yX3_needsRoomFor.cls ≠ "java/lang/invoke/MethodHandle" ∧ yX3_needsRoomFor.cls ≠ "java/lang/invoke/VarHandle" ∧ (parseMethodDescriptor yX3_needsRoomFor.desc).map (fun d => d.parameters.length) = some 1 := by decide +kernel
theorem k_X3_needsRoomFor {p : Program} {l : Launch} {e : Env} {R : Room} {s : State} {m : MethodId} {args : Array Value} {below : List Frame} {meth : Method} {c : Code} {nL cells slots : Nat} {Q : State → Prop} {A : Nat → Prop} {L : Ly} {own : String} {cc : ByteArray} {σ : Mem} {pc idx : Nat} {lv : List (Nat × Value)} {st : List Value} {K : Int32 → Mem → Prop} (C : Cx p R s m args meth c own cc nL cells slots A L) (k : Nat) (a1 : Int32) (hk : kd k = 3) (h : w_X3_needsRoomFor k a1 σ K) (hml : Cond.methodLink own idx yX3_needsRoomFor ∈ wA) (hR : rm_X3_needsRoomFor.frames + 1 ≤ R.frames ∧ 8 + (2 + 11) + rm_X3_needsRoomFor.locals ≤ R.locals) (hsum : (st.map fun v => v.category).sum ≤ 8) (d : decode cc pc = .ok (.invokevirtual idx, 3)) (kk : ∀ r σ1, K r σ1 → V p l e R s m args below meth c nL cells slots Q A L σ1 (pc + 3) lv (.int r :: st)) : V p l e R s m args below meth c nL cells slots Q A L σ pc lv (.int a1 :: .ref (lad L k) :: st) := v_callVi C [.int a1] (fun sz => c_X3_needsRoomFor l L k a1 σ _ hk h sz) mC_X3_needsRoomFor mZ_X3 hd_X3_needsRoomFor mI_X3_needsRoomFor mS_X3_needsRoomFor rfl rfl (c0 := 3) (ci := 3) (by decide) rfl rfl rfl hk hml hR rfl hsum d kk
-- ===== RX3.goesBefore
abbrev rm_X3_goesBefore : Room := { frames := 0, cells := 0, slots := 0, locals := 0 }
def w_X3_goesBefore (k : Nat) (a1 : Int32) (a2 : Int32) (σ : Mem) (K : Int32 → Mem → Prop) : Prop := (vp_in a1 26 ∧ (vp_in a2 26 ∧ (br ((σ (k + 1) (ix a1)) < (σ (k + 1) (ix a2))) (K 1 σ) (vp_in a1 26 ∧ (vp_in a2 26 ∧ (br ((σ (k + 1) (ix a1)) = (σ (k + 1) (ix a2))) (vp_in a1 26 ∧ (vp_in a2 26 ∧ (br ((σ (k + 3) (ix a2)) ≤ (σ (k + 3) (ix a1))) (K 0 σ) (K 1 σ)))) (K 0 σ)))))))
set_option maxHeartbeats 4000000 in
set_option maxRecDepth 100000 in
theorem c_X3_goesBefore (l : Launch) (L : Ly) (k : Nat) (a1 : Int32) (a2 : Int32) (σ : Mem) (K : Int32 → Mem → Prop) (hk : kd k = 3) (h : w_X3_goesBefore k a1 a2 σ K) (sz : Nat) : Met l yX3_goesBefore (.code yX3_goesBefore cX3_goesBefore 3 (some .boolean) :: wA) rm_X3_goesBefore (va_Pc [.ref (lad L k), .int a1, .int a2] (mB L sz σ)) (va_Qi K (mE L) (mA L sz)) 0 0 (mA L sz) := by
  refine v_start (own := RX3) [(0, .ref (lad L k)), (1, .int a1), (2, .int a2)] (by decide) rfl (Nat.le_of_ble_eq_true rfl) rfl (fun p e s m args below meth c C hret hlk => ?_)
  unfold w_X3_goesBefore at h
  refine v_aload_n C dX3_goesBefore_0 rfl 0 rfl ?_
  refine g_3_counts C hk mF_X3_24 dX3_goesBefore_1 ?_
  refine v_iload_n C dX3_goesBefore_4 rfl 1 rfl ?_
  obtain ⟨hi1, h⟩ := h
  refine v_iald C (c0 := 20) (by decide) rfl (kd_3_1 hk) hi1 dX3_goesBefore_5 ?_
  refine v_aload_n C dX3_goesBefore_6 rfl 0 rfl ?_
  refine g_3_counts C hk mF_X3_24 dX3_goesBefore_7 ?_
  refine v_iload_n C dX3_goesBefore_10 rfl 2 rfl ?_
  obtain ⟨hi2, h⟩ := h
  refine v_iald C (c0 := 20) (by decide) rfl (kd_3_1 hk) hi2 dX3_goesBefore_11 ?_
  refine v_icmp_lt C (tgt := 45) dX3_goesBefore_12 (by decide) (fun hc => ?_) (fun hc => ?_)
  · replace h := h.1 hc
    refine v_iconst C (v := 1) dX3_goesBefore_45 rfl ?_
    refine v_goto C (tgt := 50) dX3_goesBefore_46 (by decide) ?_
    exact v_zret C dX3_goesBefore_50 hret hlk rfl h
  · replace h := h.2 hc
    refine v_aload_n C dX3_goesBefore_15 rfl 0 rfl ?_
    refine g_3_counts C hk mF_X3_24 dX3_goesBefore_16 ?_
    refine v_iload_n C dX3_goesBefore_19 rfl 1 rfl ?_
    obtain ⟨hi3, h⟩ := h
    refine v_iald C (c0 := 20) (by decide) rfl (kd_3_1 hk) hi3 dX3_goesBefore_20 ?_
    refine v_aload_n C dX3_goesBefore_21 rfl 0 rfl ?_
    refine g_3_counts C hk mF_X3_24 dX3_goesBefore_22 ?_
    refine v_iload_n C dX3_goesBefore_25 rfl 2 rfl ?_
    obtain ⟨hi4, h⟩ := h
    refine v_iald C (c0 := 20) (by decide) rfl (kd_3_1 hk) hi4 dX3_goesBefore_26 ?_
    refine v_icmp_ne C (tgt := 49) dX3_goesBefore_27 (by decide) (fun hc => ?_) (fun hc => ?_)
    · replace h := h.2 hc
      refine v_iconst C (v := 0) dX3_goesBefore_49 rfl ?_
      exact v_zret C dX3_goesBefore_50 hret hlk rfl h
    · replace h := h.1 hc
      refine v_aload_n C dX3_goesBefore_30 rfl 0 rfl ?_
      refine g_3_times C hk mF_X3_31 dX3_goesBefore_31 ?_
      refine v_iload_n C dX3_goesBefore_34 rfl 1 rfl ?_
      obtain ⟨hi5, h⟩ := h
      refine v_iald C (c0 := 20) (by decide) rfl (kd_3_3 hk) hi5 dX3_goesBefore_35 ?_
      refine v_aload_n C dX3_goesBefore_36 rfl 0 rfl ?_
      refine g_3_times C hk mF_X3_31 dX3_goesBefore_37 ?_
      refine v_iload_n C dX3_goesBefore_40 rfl 2 rfl ?_
      obtain ⟨hi6, h⟩ := h
      refine v_iald C (c0 := 20) (by decide) rfl (kd_3_3 hk) hi6 dX3_goesBefore_41 ?_
      refine v_icmp_ge C (tgt := 49) dX3_goesBefore_42 (by decide) (fun hc => ?_) (fun hc => ?_)
      · replace h := h.1 hc
        refine v_iconst C (v := 0) dX3_goesBefore_49 rfl ?_
        exact v_zret C dX3_goesBefore_50 hret hlk rfl h
      · replace h := h.2 hc
        refine v_iconst C (v := 1) dX3_goesBefore_45 rfl ?_
        refine v_goto C (tgt := 50) dX3_goesBefore_46 (by decide) ?_
        exact v_zret C dX3_goesBefore_50 hret hlk rfl h
theorem hd_X3_goesBefore : yX3_goesBefore.cls ≠ "java/lang/invoke/MethodHandle" ∧ yX3_goesBefore.cls ≠ "java/lang/invoke/VarHandle" ∧ (parseMethodDescriptor yX3_goesBefore.desc).map (fun d => d.parameters.length) = some 2 := by decide +kernel
theorem k_X3_goesBefore {p : Program} {l : Launch} {e : Env} {R : Room} {s : State} {m : MethodId} {args : Array Value} {below : List Frame} {meth : Method} {c : Code} {nL cells slots : Nat} {Q : State → Prop} {A : Nat → Prop} {L : Ly} {own : String} {cc : ByteArray} {σ : Mem} {pc idx : Nat} {lv : List (Nat × Value)} {st : List Value} {K : Int32 → Mem → Prop} (C : Cx p R s m args meth c own cc nL cells slots A L) (k : Nat) (a1 : Int32) (a2 : Int32) (hk : kd k = 3) (h : w_X3_goesBefore k a1 a2 σ K) (hml : Cond.methodLink own idx yX3_goesBefore ∈ wA) (hR : rm_X3_goesBefore.frames + 1 ≤ R.frames ∧ 8 + (3 + 11) + rm_X3_goesBefore.locals ≤ R.locals) (hsum : (st.map fun v => v.category).sum ≤ 8) (d : decode cc pc = .ok (.invokevirtual idx, 3)) (kk : ∀ r σ1, K r σ1 → V p l e R s m args below meth c nL cells slots Q A L σ1 (pc + 3) lv (.int r :: st)) : V p l e R s m args below meth c nL cells slots Q A L σ pc lv (.int a2 :: .int a1 :: .ref (lad L k) :: st) := v_callVi C [.int a1, .int a2] (fun sz => c_X3_goesBefore l L k a1 a2 σ _ hk h sz) mC_X3_goesBefore mZ_X3 hd_X3_goesBefore mI_X3_goesBefore mS_X3_goesBefore rfl rfl (c0 := 3) (ci := 3) (by decide) rfl rfl rfl hk hml hR rfl hsum d kk
-- ===== RX3.nextEvicted
abbrev rm_X3_nextEvicted : Room := { frames := 1, cells := 0, slots := 0, locals := 22 }
def w_X3_nextEvicted_4 (k : Nat) (K : Int32 → Mem → Prop)  : Nat → Int32 → Int32 → Mem → Prop
  | 0, _, _, _ => False
  | n + 1, x1, x2, σ => (br (26 ≤ x2) (K x1 σ) (w_X3_has k x2 σ (fun r2 σ1 => (br (r2 = 0) (w_X3_nextEvicted_4 k K  n x1 (x2 + 1) σ1) (br (x1 = (-1)) (w_X3_nextEvicted_4 k K  n x2 (x2 + 1) σ1) (w_X3_goesBefore k x2 x1 σ1 (fun r4 σ3 => (br (r4 = 0) (w_X3_nextEvicted_4 k K  n x1 (x2 + 1) σ3) (w_X3_nextEvicted_4 k K  n x2 (x2 + 1) σ3)))))))))
set_option maxHeartbeats 4000000 in
set_option maxRecDepth 100000 in
theorem b_X3_nextEvicted_4 {p : Program} {l : Launch} {e : Env} {s : State} {m : MethodId} {args : Array Value} {below : List Frame} {meth : Method} {c : Code} {L : Ly} {sz : Nat} (C : Cx p rm_X3_nextEvicted s m args meth c RX3 cX3_nextEvicted 3 0 0 (mA L sz) L) (hret : meth.sig.returnType = (some .int)) (hlk : meth.locks = false) (k : Nat) (hk : kd k = 3) (K : Int32 → Mem → Prop)  : ∀ (n : Nat) (x1 : Int32) (x2 : Int32) (σ : Mem), w_X3_nextEvicted_4 k K  n x1 x2 σ → V p l e rm_X3_nextEvicted s m args below meth c 3 0 0 (MQ below (va_Qi K (mE L) (mA L sz)) args s 0 0 (mA L sz)) (mA L sz) L σ 4 [(0, .ref (lad L k)), (1, .int x1), (2, .int x2)] [] := by
  intro n
  induction n with
  | zero => intro x1 x2 σ  h; exact h.elim
  | succ n ih =>
    intro x1 x2 σ  h
    rw [w_X3_nextEvicted_4] at h
    refine v_iload_n C dX3_nextEvicted_4 rfl 2 rfl ?_
    refine v_bipush C (v := 26) dX3_nextEvicted_5 rfl ?_
    refine v_icmp_ge C (tgt := 40) dX3_nextEvicted_7 (by decide) (fun hc => ?_) (fun hc => ?_)
    · replace h := h.1 hc
      refine v_iload_n C dX3_nextEvicted_40 rfl 1 rfl ?_
      exact v_iret C dX3_nextEvicted_41 hret hlk h
    · replace h := h.2 hc
      refine v_aload_n C dX3_nextEvicted_10 rfl 0 rfl ?_
      refine v_iload_n C dX3_nextEvicted_11 rfl 2 rfl ?_
      refine k_X3_has C k x2 hk h mM_X3_43 ⟨Nat.le_of_ble_eq_true rfl, Nat.le_of_ble_eq_true rfl⟩ (Nat.le_of_ble_eq_true rfl) dX3_nextEvicted_12 (fun r2 σ1 h => ?_)
      refine v_if_eq C (tgt := 34) dX3_nextEvicted_15 (by decide) (fun hc => ?_) (fun hc => ?_)
      · replace h := h.1 hc
        refine v_iinc C [(2, .int (x2 + 1)), (0, .ref (lad L k)), (1, .int x1)] dX3_nextEvicted_34 2 rfl rfl (by decide) rfl ?_
        refine v_goto C (tgt := 4) dX3_nextEvicted_37 (by decide) ?_
        refine v_sub [1, 2, 0] rfl ?_
        exact ih _ _ _  h
      · replace h := h.2 hc
        refine v_iload_n C dX3_nextEvicted_18 rfl 1 rfl ?_
        refine v_iconst C (v := (-1)) dX3_nextEvicted_19 rfl ?_
        refine v_icmp_eq C (tgt := 32) dX3_nextEvicted_20 (by decide) (fun hc => ?_) (fun hc => ?_)
        · replace h := h.1 hc
          refine v_iload_n C dX3_nextEvicted_32 rfl 2 rfl ?_
          refine v_istore_n C [(1, .int x2), (0, .ref (lad L k)), (2, .int x2)] dX3_nextEvicted_33 rfl (by decide) rfl ?_
          refine v_iinc C [(2, .int (x2 + 1)), (1, .int x2), (0, .ref (lad L k))] dX3_nextEvicted_34 2 rfl rfl (by decide) rfl ?_
          refine v_goto C (tgt := 4) dX3_nextEvicted_37 (by decide) ?_
          refine v_sub [2, 1, 0] rfl ?_
          exact ih _ _ _  h
        · replace h := h.2 hc
          refine v_aload_n C dX3_nextEvicted_23 rfl 0 rfl ?_
          refine v_iload_n C dX3_nextEvicted_24 rfl 2 rfl ?_
          refine v_iload_n C dX3_nextEvicted_25 rfl 1 rfl ?_
          refine k_X3_goesBefore C k x2 x1 hk h mM_X3_57 ⟨Nat.le_of_ble_eq_true rfl, Nat.le_of_ble_eq_true rfl⟩ (Nat.le_of_ble_eq_true rfl) dX3_nextEvicted_26 (fun r4 σ3 h => ?_)
          refine v_if_eq C (tgt := 34) dX3_nextEvicted_29 (by decide) (fun hc => ?_) (fun hc => ?_)
          · replace h := h.1 hc
            refine v_iinc C [(2, .int (x2 + 1)), (0, .ref (lad L k)), (1, .int x1)] dX3_nextEvicted_34 2 rfl rfl (by decide) rfl ?_
            refine v_goto C (tgt := 4) dX3_nextEvicted_37 (by decide) ?_
            refine v_sub [1, 2, 0] rfl ?_
            exact ih _ _ _  h
          · replace h := h.2 hc
            refine v_iload_n C dX3_nextEvicted_32 rfl 2 rfl ?_
            refine v_istore_n C [(1, .int x2), (0, .ref (lad L k)), (2, .int x2)] dX3_nextEvicted_33 rfl (by decide) rfl ?_
            refine v_iinc C [(2, .int (x2 + 1)), (1, .int x2), (0, .ref (lad L k))] dX3_nextEvicted_34 2 rfl rfl (by decide) rfl ?_
            refine v_goto C (tgt := 4) dX3_nextEvicted_37 (by decide) ?_
            refine v_sub [2, 1, 0] rfl ?_
            exact ih _ _ _  h
def w_X3_nextEvicted (k : Nat) (σ : Mem) (K : Int32 → Mem → Prop) : Prop := (∃ n5, w_X3_nextEvicted_4 k K  n5 (-1) 0 σ)
set_option maxHeartbeats 4000000 in
set_option maxRecDepth 100000 in
theorem c_X3_nextEvicted (l : Launch) (L : Ly) (k : Nat) (σ : Mem) (K : Int32 → Mem → Prop) (hk : kd k = 3) (h : w_X3_nextEvicted k σ K) (sz : Nat) : Met l yX3_nextEvicted (.code yX3_nextEvicted cX3_nextEvicted 3 (some .int) :: wA) rm_X3_nextEvicted (va_Pc [.ref (lad L k)] (mB L sz σ)) (va_Qi K (mE L) (mA L sz)) 0 0 (mA L sz) := by
  refine v_start (own := RX3) [(0, .ref (lad L k))] (by decide) rfl (Nat.le_of_ble_eq_true rfl) rfl (fun p e s m args below meth c C hret hlk => ?_)
  unfold w_X3_nextEvicted at h
  refine v_iconst C (v := (-1)) dX3_nextEvicted_0 rfl ?_
  refine v_istore_n C [(1, .int (-1)), (0, .ref (lad L k))] dX3_nextEvicted_1 rfl (by decide) rfl ?_
  refine v_iconst C (v := 0) dX3_nextEvicted_2 rfl ?_
  refine v_istore_n C [(2, .int 0), (1, .int (-1)), (0, .ref (lad L k))] dX3_nextEvicted_3 rfl (by decide) rfl ?_
  obtain ⟨n5, h⟩ := h
  refine v_sub [2, 1, 0] rfl ?_
  exact b_X3_nextEvicted_4 C hret hlk k hk K   n5 _ _ _  h
theorem hd_X3_nextEvicted : yX3_nextEvicted.cls ≠ "java/lang/invoke/MethodHandle" ∧ yX3_nextEvicted.cls ≠ "java/lang/invoke/VarHandle" ∧ (parseMethodDescriptor yX3_nextEvicted.desc).map (fun d => d.parameters.length) = some 0 := by decide +kernel
theorem k_X3_nextEvicted {p : Program} {l : Launch} {e : Env} {R : Room} {s : State} {m : MethodId} {args : Array Value} {below : List Frame} {meth : Method} {c : Code} {nL cells slots : Nat} {Q : State → Prop} {A : Nat → Prop} {L : Ly} {own : String} {cc : ByteArray} {σ : Mem} {pc idx : Nat} {lv : List (Nat × Value)} {st : List Value} {K : Int32 → Mem → Prop} (C : Cx p R s m args meth c own cc nL cells slots A L) (k : Nat) (hk : kd k = 3) (h : w_X3_nextEvicted k σ K) (hml : Cond.methodLink own idx yX3_nextEvicted ∈ wA) (hR : rm_X3_nextEvicted.frames + 1 ≤ R.frames ∧ 8 + (3 + 11) + rm_X3_nextEvicted.locals ≤ R.locals) (hsum : (st.map fun v => v.category).sum ≤ 8) (d : decode cc pc = .ok (.invokevirtual idx, 3)) (kk : ∀ r σ1, K r σ1 → V p l e R s m args below meth c nL cells slots Q A L σ1 (pc + 3) lv (.int r :: st)) : V p l e R s m args below meth c nL cells slots Q A L σ pc lv (.ref (lad L k) :: st) := v_callVi C [] (fun sz => c_X3_nextEvicted l L k σ _ hk h sz) mC_X3_nextEvicted mZ_X3 hd_X3_nextEvicted mI_X3_nextEvicted mS_X3_nextEvicted rfl rfl (c0 := 3) (ci := 3) (by decide) rfl rfl rfl hk hml hR rfl hsum d kk
-- ===== RX3.takeCounter
abbrev rm_X3_takeCounter : Room := { frames := 1, cells := 0, slots := 0, locals := 21 }
def w_X3_takeCounter (k : Nat) (a1 : Int32) (σ : Mem) (K : Mem → Prop) : Prop := (vp_in a1 26 ∧ (∀ σ2 : Mem, σ2 = mu σ k 1 (if (σ k 1) < (σ (k + 1) (ix a1)) then (σ (k + 1) (ix a1)) else (σ k 1)) → (∀ σ3 : Mem, σ3 = mu σ2 k 3 ((σ2 k 3) &&& ((1 <<< (a1 &&& 31)) ^^^ (-1))) → (K σ3))))
set_option maxHeartbeats 4000000 in
set_option maxRecDepth 100000 in
theorem c_X3_takeCounter (l : Launch) (L : Ly) (k : Nat) (a1 : Int32) (σ : Mem) (K : Mem → Prop) (hk : kd k = 3) (h : w_X3_takeCounter k a1 σ K) (sz : Nat) : Met l yX3_takeCounter (.code yX3_takeCounter cX3_takeCounter 2 none :: wA) rm_X3_takeCounter (va_Pc [.ref (lad L k), .int a1] (mB L sz σ)) (va_Qv K (mE L) (mA L sz)) 0 0 (mA L sz) := by
  refine v_start (own := RX3) [(0, .ref (lad L k)), (1, .int a1)] (by decide) rfl (Nat.le_of_ble_eq_true rfl) rfl (fun p e s m args below meth c C hret hlk => ?_)
  unfold w_X3_takeCounter at h
  refine v_aload_n C dX3_takeCounter_0 rfl 0 rfl ?_
  refine v_aload_n C dX3_takeCounter_1 rfl 0 rfl ?_
  refine g_3_floor C hk mF_X3_15 dX3_takeCounter_2 ?_
  refine v_aload_n C dX3_takeCounter_5 rfl 0 rfl ?_
  refine g_3_counts C hk mF_X3_24 dX3_takeCounter_6 ?_
  refine v_iload_n C dX3_takeCounter_9 rfl 1 rfl ?_
  obtain ⟨hi1, h⟩ := h
  refine v_iald C (c0 := 20) (by decide) rfl (kd_3_1 hk) hi1 dX3_takeCounter_10 ?_
  refine v_mmax C mM_X3_68 (by decide) (Nat.le_of_ble_eq_true rfl) dX3_takeCounter_11 ?_
  refine p_3_floor C hk mF_X3_15 dX3_takeCounter_14 (fun σ2 eσ2 => ?_)
  replace h := h σ2 eσ2
  refine v_aload_n C dX3_takeCounter_17 rfl 0 rfl ?_
  refine v_dup C dX3_takeCounter_18 rfl ?_
  refine g_3_held C hk mF_X3_21 dX3_takeCounter_19 ?_
  refine v_iconst C (v := 1) dX3_takeCounter_22 rfl ?_
  refine v_iload_n C dX3_takeCounter_23 rfl 1 rfl ?_
  refine v_ishl C dX3_takeCounter_24 ?_
  refine v_iconst C (v := (-1)) dX3_takeCounter_25 rfl ?_
  refine v_ixor C dX3_takeCounter_26 ?_
  refine v_iand C dX3_takeCounter_27 ?_
  refine p_3_held C hk mF_X3_21 dX3_takeCounter_28 (fun σ3 eσ3 => ?_)
  replace h := h σ3 eσ3
  exact v_vret C dX3_takeCounter_31 hret hlk h
theorem hd_X3_takeCounter : yX3_takeCounter.cls ≠ "java/lang/invoke/MethodHandle" ∧ yX3_takeCounter.cls ≠ "java/lang/invoke/VarHandle" ∧ (parseMethodDescriptor yX3_takeCounter.desc).map (fun d => d.parameters.length) = some 1 := by decide +kernel
theorem k_X3_takeCounter {p : Program} {l : Launch} {e : Env} {R : Room} {s : State} {m : MethodId} {args : Array Value} {below : List Frame} {meth : Method} {c : Code} {nL cells slots : Nat} {Q : State → Prop} {A : Nat → Prop} {L : Ly} {own : String} {cc : ByteArray} {σ : Mem} {pc idx : Nat} {lv : List (Nat × Value)} {st : List Value} {K : Mem → Prop} (C : Cx p R s m args meth c own cc nL cells slots A L) (k : Nat) (a1 : Int32) (hk : kd k = 3) (h : w_X3_takeCounter k a1 σ K) (hml : Cond.methodLink own idx yX3_takeCounter ∈ wA) (hR : rm_X3_takeCounter.frames + 1 ≤ R.frames ∧ 8 + (2 + 11) + rm_X3_takeCounter.locals ≤ R.locals) (hsum : (st.map fun v => v.category).sum ≤ 8) (d : decode cc pc = .ok (.invokevirtual idx, 3)) (kk : ∀ σ1, K σ1 → V p l e R s m args below meth c nL cells slots Q A L σ1 (pc + 3) lv st) : V p l e R s m args below meth c nL cells slots Q A L σ pc lv (.int a1 :: .ref (lad L k) :: st) := v_callVv C [.int a1] (fun sz => c_X3_takeCounter l L k a1 σ _ hk h sz) mC_X3_takeCounter mZ_X3 hd_X3_takeCounter mI_X3_takeCounter mS_X3_takeCounter rfl rfl (c0 := 3) (ci := 3) (by decide) rfl rfl rfl hk hml hR rfl hsum d kk
-- ===== RX3.evictNext
abbrev rm_X3_evictNext : Room := { frames := 2, cells := 0, slots := 0, locals := 44 }
def w_X3_evictNext (k : Nat) (σ : Mem) (K : Int32 → Mem → Prop) : Prop := (w_X3_nextEvicted k σ (fun r2 σ1 => (br (r2 = (-1)) (K r2 σ1) (w_X3_takeCounter k r2 σ1 (fun σ3 => (K r2 σ3))))))
set_option maxHeartbeats 4000000 in
set_option maxRecDepth 100000 in
theorem c_X3_evictNext (l : Launch) (L : Ly) (k : Nat) (σ : Mem) (K : Int32 → Mem → Prop) (hk : kd k = 3) (h : w_X3_evictNext k σ K) (sz : Nat) : Met l yX3_evictNext (.code yX3_evictNext cX3_evictNext 2 (some .int) :: wA) rm_X3_evictNext (va_Pc [.ref (lad L k)] (mB L sz σ)) (va_Qi K (mE L) (mA L sz)) 0 0 (mA L sz) := by
  refine v_start (own := RX3) [(0, .ref (lad L k))] (by decide) rfl (Nat.le_of_ble_eq_true rfl) rfl (fun p e s m args below meth c C hret hlk => ?_)
  unfold w_X3_evictNext at h
  refine v_aload_n C dX3_evictNext_0 rfl 0 rfl ?_
  refine k_X3_nextEvicted C k hk h mM_X3_61 ⟨Nat.le_of_ble_eq_true rfl, Nat.le_of_ble_eq_true rfl⟩ (Nat.le_of_ble_eq_true rfl) dX3_evictNext_1 (fun r2 σ1 h => ?_)
  refine v_istore_n C [(1, .int r2), (0, .ref (lad L k))] dX3_evictNext_4 rfl (by decide) rfl ?_
  refine v_iload_n C dX3_evictNext_5 rfl 0 rfl ?_
  refine v_iconst C (v := (-1)) dX3_evictNext_6 rfl ?_
  refine v_icmp_eq C (tgt := 15) dX3_evictNext_7 (by decide) (fun hc => ?_) (fun hc => ?_)
  · replace h := h.1 hc
    refine v_iload_n C dX3_evictNext_15 rfl 0 rfl ?_
    exact v_iret C dX3_evictNext_16 hret hlk h
  · replace h := h.2 hc
    refine v_aload_n C dX3_evictNext_10 rfl 1 rfl ?_
    refine v_iload_n C dX3_evictNext_11 rfl 0 rfl ?_
    refine k_X3_takeCounter C k r2 hk h mM_X3_64 ⟨Nat.le_of_ble_eq_true rfl, Nat.le_of_ble_eq_true rfl⟩ (Nat.le_of_ble_eq_true rfl) dX3_evictNext_12 (fun σ3 h => ?_)
    refine v_iload_n C dX3_evictNext_15 rfl 0 rfl ?_
    exact v_iret C dX3_evictNext_16 hret hlk h
theorem hd_X3_evictNext : yX3_evictNext.cls ≠ "java/lang/invoke/MethodHandle" ∧ yX3_evictNext.cls ≠ "java/lang/invoke/VarHandle" ∧ (parseMethodDescriptor yX3_evictNext.desc).map (fun d => d.parameters.length) = some 0 := by decide +kernel
theorem k_X3_evictNext {p : Program} {l : Launch} {e : Env} {R : Room} {s : State} {m : MethodId} {args : Array Value} {below : List Frame} {meth : Method} {c : Code} {nL cells slots : Nat} {Q : State → Prop} {A : Nat → Prop} {L : Ly} {own : String} {cc : ByteArray} {σ : Mem} {pc idx : Nat} {lv : List (Nat × Value)} {st : List Value} {K : Int32 → Mem → Prop} (C : Cx p R s m args meth c own cc nL cells slots A L) (k : Nat) (hk : kd k = 3) (h : w_X3_evictNext k σ K) (hml : Cond.methodLink own idx yX3_evictNext ∈ wA) (hR : rm_X3_evictNext.frames + 1 ≤ R.frames ∧ 8 + (2 + 11) + rm_X3_evictNext.locals ≤ R.locals) (hsum : (st.map fun v => v.category).sum ≤ 8) (d : decode cc pc = .ok (.invokevirtual idx, 3)) (kk : ∀ r σ1, K r σ1 → V p l e R s m args below meth c nL cells slots Q A L σ1 (pc + 3) lv (.int r :: st)) : V p l e R s m args below meth c nL cells slots Q A L σ pc lv (.ref (lad L k) :: st) := v_callVi C [] (fun sz => c_X3_evictNext l L k σ _ hk h sz) mC_X3_evictNext mZ_X3 hd_X3_evictNext mI_X3_evictNext mS_X3_evictNext rfl rfl (c0 := 3) (ci := 3) (by decide) rfl rfl rfl hk hml hR rfl hsum d kk
-- ===== RX3.receive
abbrev rm_X3_receive : Room := { frames := 3, cells := 0, slots := 0, locals := 65 }
def w_X3_receive_58 (k : Nat) (a1 : Int32) (a2 : Int32) (a3 : Int32) (K : Int32 → Mem → Prop)  (x4 : Int32) (σ : Mem) : Prop := (vp_in a1 26 ∧ ∀ σ10 : Mem, σ10 = mu σ (k + 1) (ix a1) ((σ k 1) + a2) → (vp_in a1 26 ∧ ∀ σ12 : Mem, σ12 = mu σ10 (k + 2) (ix a1) (σ10 k 1) → (∀ σ13 : Mem, σ13 = mu σ12 k 3 ((σ12 k 3) ||| (1 <<< (a1 &&& 31))) → (vp_in a1 26 ∧ ∀ σ15 : Mem, σ15 = mu σ13 (k + 3) (ix a1) a3 → (K x4 σ15)))))
set_option maxHeartbeats 4000000 in
set_option maxRecDepth 100000 in
theorem b_X3_receive_58 {p : Program} {l : Launch} {e : Env} {s : State} {m : MethodId} {args : Array Value} {below : List Frame} {meth : Method} {c : Code} {L : Ly} {sz : Nat} (C : Cx p rm_X3_receive s m args meth c RX3 cX3_receive 5 0 0 (mA L sz) L) (hret : meth.sig.returnType = (some .int)) (hlk : meth.locks = false) (k : Nat) (a1 : Int32) (a2 : Int32) (a3 : Int32) (hk : kd k = 3) (K : Int32 → Mem → Prop)  (x4 : Int32) (σ : Mem)  (h : w_X3_receive_58 k a1 a2 a3 K  x4 σ) : V p l e rm_X3_receive s m args below meth c 5 0 0 (MQ below (va_Qi K (mE L) (mA L sz)) args s 0 0 (mA L sz)) (mA L sz) L σ 58 [(0, .ref (lad L k)), (1, .int a1), (2, .int a2), (3, .int a3), (4, .int x4)] [] := by
  unfold w_X3_receive_58 at h
  refine v_aload_n C dX3_receive_58 rfl 0 rfl ?_
  refine g_3_counts C hk mF_X3_24 dX3_receive_59 ?_
  refine v_iload_n C dX3_receive_62 rfl 1 rfl ?_
  refine v_aload_n C dX3_receive_63 rfl 0 rfl ?_
  refine g_3_floor C hk mF_X3_15 dX3_receive_64 ?_
  refine v_iload_n C dX3_receive_67 rfl 2 rfl ?_
  refine v_iadd C dX3_receive_68 ?_
  obtain ⟨hi9, h⟩ := h
  refine v_iast C (c0 := 20) (by decide) (fun _ => rfl) (kd_3_1 hk) hi9 dX3_receive_69 (fun σ10 eσ10 => ?_)
  replace h := h σ10 eσ10
  refine v_aload_n C dX3_receive_70 rfl 0 rfl ?_
  refine g_3_slacks C hk mF_X3_28 dX3_receive_71 ?_
  refine v_iload_n C dX3_receive_74 rfl 1 rfl ?_
  refine v_aload_n C dX3_receive_75 rfl 0 rfl ?_
  refine g_3_floor C hk mF_X3_15 dX3_receive_76 ?_
  obtain ⟨hi11, h⟩ := h
  refine v_iast C (c0 := 20) (by decide) (fun _ => rfl) (kd_3_2 hk) hi11 dX3_receive_79 (fun σ12 eσ12 => ?_)
  replace h := h σ12 eσ12
  refine v_aload_n C dX3_receive_80 rfl 0 rfl ?_
  refine v_dup C dX3_receive_81 rfl ?_
  refine g_3_held C hk mF_X3_21 dX3_receive_82 ?_
  refine v_iconst C (v := 1) dX3_receive_85 rfl ?_
  refine v_iload_n C dX3_receive_86 rfl 1 rfl ?_
  refine v_ishl C dX3_receive_87 ?_
  refine v_ior C dX3_receive_88 ?_
  refine p_3_held C hk mF_X3_21 dX3_receive_89 (fun σ13 eσ13 => ?_)
  replace h := h σ13 eσ13
  refine v_aload_n C dX3_receive_92 rfl 0 rfl ?_
  refine g_3_times C hk mF_X3_31 dX3_receive_93 ?_
  refine v_iload_n C dX3_receive_96 rfl 1 rfl ?_
  refine v_iload_n C dX3_receive_97 rfl 3 rfl ?_
  obtain ⟨hi14, h⟩ := h
  refine v_iast C (c0 := 20) (by decide) (fun _ => rfl) (kd_3_3 hk) hi14 dX3_receive_98 (fun σ15 eσ15 => ?_)
  replace h := h σ15 eσ15
  refine v_iload C dX3_receive_99 4 rfl ?_
  exact v_iret C dX3_receive_101 hret hlk h
def w_X3_receive (k : Nat) (a1 : Int32) (a2 : Int32) (a3 : Int32) (σ : Mem) (K : Int32 → Mem → Prop) : Prop := (∀ σ1 : Mem, σ1 = mu σ k 2 ((σ k 2) + a2) → (vp_in a1 26 ∧ (vp_in a1 26 ∧ ∀ σ4 : Mem, σ4 = mu σ1 (k + 4) (ix a1) ((σ1 (k + 4) (ix a1)) + a2) → (w_X3_has k a1 σ4 (fun r6 σ5 => (br (r6 = 0) (w_X3_needsRoomFor k a1 σ5 (fun r8 σ7 => (br (r8 = 0) (w_X3_receive_58 k a1 a2 a3 K  (-1) σ7) (w_X3_evictNext k σ7 (fun r17 σ16 => (w_X3_receive_58 k a1 a2 a3 K  r17 σ16)))))) (vp_in a1 26 ∧ (vp_in a1 26 ∧ ∀ σ20 : Mem, σ20 = mu σ5 (k + 1) (ix a1) ((σ5 (k + 1) (ix a1)) + a2) → (vp_in a1 26 ∧ ∀ σ22 : Mem, σ22 = mu σ20 (k + 3) (ix a1) a3 → (K (-1) σ22))))))))))
set_option maxHeartbeats 4000000 in
set_option maxRecDepth 100000 in
theorem c_X3_receive (l : Launch) (L : Ly) (k : Nat) (a1 : Int32) (a2 : Int32) (a3 : Int32) (σ : Mem) (K : Int32 → Mem → Prop) (hk : kd k = 3) (h : w_X3_receive k a1 a2 a3 σ K) (sz : Nat) : Met l yX3_receive (.code yX3_receive cX3_receive 5 (some .int) :: wA) rm_X3_receive (va_Pc [.ref (lad L k), .int a1, .int a2, .int a3] (mB L sz σ)) (va_Qi K (mE L) (mA L sz)) 0 0 (mA L sz) := by
  refine v_start (own := RX3) [(0, .ref (lad L k)), (1, .int a1), (2, .int a2), (3, .int a3)] (by decide) rfl (Nat.le_of_ble_eq_true rfl) rfl (fun p e s m args below meth c C hret hlk => ?_)
  unfold w_X3_receive at h
  refine v_iconst C (v := (-1)) dX3_receive_0 rfl ?_
  refine v_istore C [(4, .int (-1)), (0, .ref (lad L k)), (1, .int a1), (2, .int a2), (3, .int a3)] dX3_receive_1 (by decide) rfl ?_
  refine v_aload_n C dX3_receive_3 rfl 1 rfl ?_
  refine v_dup C dX3_receive_4 rfl ?_
  refine g_3_sum C hk mF_X3_18 dX3_receive_5 ?_
  refine v_iload_n C dX3_receive_8 rfl 3 rfl ?_
  refine v_iadd C dX3_receive_9 ?_
  refine p_3_sum C hk mF_X3_18 dX3_receive_10 (fun σ1 eσ1 => ?_)
  replace h := h σ1 eσ1
  refine v_aload_n C dX3_receive_13 rfl 1 rfl ?_
  refine g_3_came C hk mF_X3_34 dX3_receive_14 ?_
  refine v_iload_n C dX3_receive_17 rfl 2 rfl ?_
  refine v_dup2 C dX3_receive_18 rfl rfl ?_
  obtain ⟨hi2, h⟩ := h
  refine v_iald C (c0 := 20) (by decide) rfl (kd_3_4 hk) hi2 dX3_receive_19 ?_
  refine v_iload_n C dX3_receive_20 rfl 3 rfl ?_
  refine v_iadd C dX3_receive_21 ?_
  obtain ⟨hi3, h⟩ := h
  refine v_iast C (c0 := 20) (by decide) (fun _ => rfl) (kd_3_4 hk) hi3 dX3_receive_22 (fun σ4 eσ4 => ?_)
  replace h := h σ4 eσ4
  refine v_aload_n C dX3_receive_23 rfl 1 rfl ?_
  refine v_iload_n C dX3_receive_24 rfl 2 rfl ?_
  refine k_X3_has C k a1 hk h mM_X3_43 ⟨Nat.le_of_ble_eq_true rfl, Nat.le_of_ble_eq_true rfl⟩ (Nat.le_of_ble_eq_true rfl) dX3_receive_25 (fun r6 σ5 h => ?_)
  refine v_if_eq C (tgt := 44) dX3_receive_28 (by decide) (fun hc => ?_) (fun hc => ?_)
  · replace h := h.1 hc
    refine v_aload_n C dX3_receive_44 rfl 1 rfl ?_
    refine v_iload_n C dX3_receive_45 rfl 2 rfl ?_
    refine k_X3_needsRoomFor C k a1 hk h mM_X3_51 ⟨Nat.le_of_ble_eq_true rfl, Nat.le_of_ble_eq_true rfl⟩ (Nat.le_of_ble_eq_true rfl) dX3_receive_46 (fun r8 σ7 h => ?_)
    refine v_if_eq C (tgt := 58) dX3_receive_49 (by decide) (fun hc => ?_) (fun hc => ?_)
    · replace h := h.1 hc
      refine v_sub [1, 2, 3, 4, 0] rfl ?_
      exact b_X3_receive_58 C hret hlk k a1 a2 a3 hk K   _ _  h
    · replace h := h.2 hc
      refine v_aload_n C dX3_receive_52 rfl 1 rfl ?_
      refine k_X3_evictNext C k hk h mM_X3_54 ⟨Nat.le_of_ble_eq_true rfl, Nat.le_of_ble_eq_true rfl⟩ (Nat.le_of_ble_eq_true rfl) dX3_receive_53 (fun r17 σ16 h => ?_)
      refine v_istore C [(4, .int r17), (0, .ref (lad L k)), (1, .int a1), (2, .int a2), (3, .int a3)] dX3_receive_56 (by decide) rfl ?_
      refine v_sub [1, 2, 3, 4, 0] rfl ?_
      exact b_X3_receive_58 C hret hlk k a1 a2 a3 hk K   _ _  h
  · replace h := h.2 hc
    refine v_aload_n C dX3_receive_31 rfl 1 rfl ?_
    refine g_3_counts C hk mF_X3_24 dX3_receive_32 ?_
    refine v_iload_n C dX3_receive_35 rfl 2 rfl ?_
    refine v_dup2 C dX3_receive_36 rfl rfl ?_
    obtain ⟨hi18, h⟩ := h
    refine v_iald C (c0 := 20) (by decide) rfl (kd_3_1 hk) hi18 dX3_receive_37 ?_
    refine v_iload_n C dX3_receive_38 rfl 3 rfl ?_
    refine v_iadd C dX3_receive_39 ?_
    obtain ⟨hi19, h⟩ := h
    refine v_iast C (c0 := 20) (by decide) (fun _ => rfl) (kd_3_1 hk) hi19 dX3_receive_40 (fun σ20 eσ20 => ?_)
    replace h := h σ20 eσ20
    refine v_goto C (tgt := 92) dX3_receive_41 (by decide) ?_
    refine v_aload_n C dX3_receive_92 rfl 1 rfl ?_
    refine g_3_times C hk mF_X3_31 dX3_receive_93 ?_
    refine v_iload_n C dX3_receive_96 rfl 2 rfl ?_
    refine v_iload_n C dX3_receive_97 rfl 4 rfl ?_
    obtain ⟨hi21, h⟩ := h
    refine v_iast C (c0 := 20) (by decide) (fun _ => rfl) (kd_3_3 hk) hi21 dX3_receive_98 (fun σ22 eσ22 => ?_)
    replace h := h σ22 eσ22
    refine v_iload C dX3_receive_99 0 rfl ?_
    exact v_iret C dX3_receive_101 hret hlk h
theorem hd_X3_receive : yX3_receive.cls ≠ "java/lang/invoke/MethodHandle" ∧ yX3_receive.cls ≠ "java/lang/invoke/VarHandle" ∧ (parseMethodDescriptor yX3_receive.desc).map (fun d => d.parameters.length) = some 3 := by decide +kernel
theorem k_X3_receive {p : Program} {l : Launch} {e : Env} {R : Room} {s : State} {m : MethodId} {args : Array Value} {below : List Frame} {meth : Method} {c : Code} {nL cells slots : Nat} {Q : State → Prop} {A : Nat → Prop} {L : Ly} {own : String} {cc : ByteArray} {σ : Mem} {pc idx : Nat} {lv : List (Nat × Value)} {st : List Value} {K : Int32 → Mem → Prop} (C : Cx p R s m args meth c own cc nL cells slots A L) (k : Nat) (a1 : Int32) (a2 : Int32) (a3 : Int32) (hk : kd k = 3) (h : w_X3_receive k a1 a2 a3 σ K) (hml : Cond.methodLink own idx yX3_receive ∈ wA) (hR : rm_X3_receive.frames + 1 ≤ R.frames ∧ 8 + (5 + 11) + rm_X3_receive.locals ≤ R.locals) (hsum : (st.map fun v => v.category).sum ≤ 8) (d : decode cc pc = .ok (.invokevirtual idx, 3)) (kk : ∀ r σ1, K r σ1 → V p l e R s m args below meth c nL cells slots Q A L σ1 (pc + 3) lv (.int r :: st)) : V p l e R s m args below meth c nL cells slots Q A L σ pc lv (.int a3 :: .int a2 :: .int a1 :: .ref (lad L k) :: st) := v_callVi C [.int a1, .int a2, .int a3] (fun sz => c_X3_receive l L k a1 a2 a3 σ _ hk h sz) mC_X3_receive mZ_X3 hd_X3_receive mI_X3_receive mS_X3_receive rfl rfl (c0 := 3) (ci := 3) (by decide) rfl rfl rfl hk hml hR rfl hsum d kk
-- ===== RX3.wipe
abbrev rm_X3_wipe : Room := { frames := 0, cells := 0, slots := 0, locals := 0 }
def w_X3_wipe_17 (k : Nat) (K : Mem → Prop)  : Nat → Int32 → Mem → Prop
  | 0, _, _ => False
  | n + 1, x1, σ => (br (26 ≤ x1) (K σ) (vp_in x1 26 ∧ ∀ σ5 : Mem, σ5 = mu σ (k + 4) (ix x1) 0 → (w_X3_wipe_17 k K  n (x1 + 1) σ5)))
set_option maxHeartbeats 4000000 in
set_option maxRecDepth 100000 in
theorem b_X3_wipe_17 {p : Program} {l : Launch} {e : Env} {s : State} {m : MethodId} {args : Array Value} {below : List Frame} {meth : Method} {c : Code} {L : Ly} {sz : Nat} (C : Cx p rm_X3_wipe s m args meth c RX3 cX3_wipe 2 0 0 (mA L sz) L) (hret : meth.sig.returnType = none) (hlk : meth.locks = false) (k : Nat) (hk : kd k = 3) (K : Mem → Prop)  : ∀ (n : Nat) (x1 : Int32) (σ : Mem), w_X3_wipe_17 k K  n x1 σ → V p l e rm_X3_wipe s m args below meth c 2 0 0 (MQ below (va_Qv K (mE L) (mA L sz)) args s 0 0 (mA L sz)) (mA L sz) L σ 17 [(0, .ref (lad L k)), (1, .int x1)] [] := by
  intro n
  induction n with
  | zero => intro x1 σ  h; exact h.elim
  | succ n ih =>
    intro x1 σ  h
    rw [w_X3_wipe_17] at h
    refine v_iload_n C dX3_wipe_17 rfl 1 rfl ?_
    refine v_bipush C (v := 26) dX3_wipe_18 rfl ?_
    refine v_icmp_ge C (tgt := 36) dX3_wipe_20 (by decide) (fun hc => ?_) (fun hc => ?_)
    · replace h := h.1 hc
      exact v_vret C dX3_wipe_36 hret hlk h
    · replace h := h.2 hc
      refine v_aload_n C dX3_wipe_23 rfl 0 rfl ?_
      refine g_3_came C hk mF_X3_34 dX3_wipe_24 ?_
      refine v_iload_n C dX3_wipe_27 rfl 1 rfl ?_
      refine v_iconst C (v := 0) dX3_wipe_28 rfl ?_
      obtain ⟨hi4, h⟩ := h
      refine v_iast C (c0 := 20) (by decide) (fun _ => rfl) (kd_3_4 hk) hi4 dX3_wipe_29 (fun σ5 eσ5 => ?_)
      replace h := h σ5 eσ5
      refine v_iinc C [(1, .int (x1 + 1)), (0, .ref (lad L k))] dX3_wipe_30 1 rfl rfl (by decide) rfl ?_
      refine v_goto C (tgt := 17) dX3_wipe_33 (by decide) ?_
      refine v_sub [1, 0] rfl ?_
      exact ih _ _  h
def w_X3_wipe (k : Nat) (σ : Mem) (K : Mem → Prop) : Prop := (∀ σ1 : Mem, σ1 = mu σ k 1 0 → (∀ σ2 : Mem, σ2 = mu σ1 k 2 0 → (∀ σ3 : Mem, σ3 = mu σ2 k 3 0 → (∃ n6, w_X3_wipe_17 k K  n6 0 σ3))))
set_option maxHeartbeats 4000000 in
set_option maxRecDepth 100000 in
theorem c_X3_wipe (l : Launch) (L : Ly) (k : Nat) (σ : Mem) (K : Mem → Prop) (hk : kd k = 3) (h : w_X3_wipe k σ K) (sz : Nat) : Met l yX3_wipe (.code yX3_wipe cX3_wipe 2 none :: wA) rm_X3_wipe (va_Pc [.ref (lad L k)] (mB L sz σ)) (va_Qv K (mE L) (mA L sz)) 0 0 (mA L sz) := by
  refine v_start (own := RX3) [(0, .ref (lad L k))] (by decide) rfl (Nat.le_of_ble_eq_true rfl) rfl (fun p e s m args below meth c C hret hlk => ?_)
  unfold w_X3_wipe at h
  refine v_aload_n C dX3_wipe_0 rfl 0 rfl ?_
  refine v_iconst C (v := 0) dX3_wipe_1 rfl ?_
  refine p_3_floor C hk mF_X3_15 dX3_wipe_2 (fun σ1 eσ1 => ?_)
  replace h := h σ1 eσ1
  refine v_aload_n C dX3_wipe_5 rfl 0 rfl ?_
  refine v_iconst C (v := 0) dX3_wipe_6 rfl ?_
  refine p_3_sum C hk mF_X3_18 dX3_wipe_7 (fun σ2 eσ2 => ?_)
  replace h := h σ2 eσ2
  refine v_aload_n C dX3_wipe_10 rfl 0 rfl ?_
  refine v_iconst C (v := 0) dX3_wipe_11 rfl ?_
  refine p_3_held C hk mF_X3_21 dX3_wipe_12 (fun σ3 eσ3 => ?_)
  replace h := h σ3 eσ3
  refine v_iconst C (v := 0) dX3_wipe_15 rfl ?_
  refine v_istore_n C [(1, .int 0), (0, .ref (lad L k))] dX3_wipe_16 rfl (by decide) rfl ?_
  obtain ⟨n6, h⟩ := h
  refine v_sub [1, 0] rfl ?_
  exact b_X3_wipe_17 C hret hlk k hk K   n6 _ _  h
theorem hd_X3_wipe : yX3_wipe.cls ≠ "java/lang/invoke/MethodHandle" ∧ yX3_wipe.cls ≠ "java/lang/invoke/VarHandle" ∧ (parseMethodDescriptor yX3_wipe.desc).map (fun d => d.parameters.length) = some 0 := by decide +kernel
theorem k_X3_wipe {p : Program} {l : Launch} {e : Env} {R : Room} {s : State} {m : MethodId} {args : Array Value} {below : List Frame} {meth : Method} {c : Code} {nL cells slots : Nat} {Q : State → Prop} {A : Nat → Prop} {L : Ly} {own : String} {cc : ByteArray} {σ : Mem} {pc idx : Nat} {lv : List (Nat × Value)} {st : List Value} {K : Mem → Prop} (C : Cx p R s m args meth c own cc nL cells slots A L) (k : Nat) (hk : kd k = 3) (h : w_X3_wipe k σ K) (hml : Cond.methodLink own idx yX3_wipe ∈ wA) (hR : rm_X3_wipe.frames + 1 ≤ R.frames ∧ 8 + (2 + 11) + rm_X3_wipe.locals ≤ R.locals) (hsum : (st.map fun v => v.category).sum ≤ 8) (d : decode cc pc = .ok (.invokevirtual idx, 3)) (kk : ∀ σ1, K σ1 → V p l e R s m args below meth c nL cells slots Q A L σ1 (pc + 3) lv st) : V p l e R s m args below meth c nL cells slots Q A L σ pc lv (.ref (lad L k) :: st) := v_callVv C [] (fun sz => c_X3_wipe l L k σ _ hk h sz) mC_X3_wipe mZ_X3 hd_X3_wipe mI_X3_wipe mS_X3_wipe rfl rfl (c0 := 3) (ci := 3) (by decide) rfl rfl rfl hk hml hR rfl hsum d kk
-- ===== RX3.upper
abbrev rm_X3_upper : Room := { frames := 1, cells := 0, slots := 0, locals := 21 }
def w_X3_upper (k : Nat) (a1 : Int32) (σ : Mem) (K : Int32 → Mem → Prop) : Prop := (w_X3_has k a1 σ (fun r2 σ1 => (br (r2 = 0) (K (σ1 k 1) σ1) (vp_in a1 26 ∧ (K (σ1 (k + 1) (ix a1)) σ1)))))
set_option maxHeartbeats 4000000 in
set_option maxRecDepth 100000 in
theorem c_X3_upper (l : Launch) (L : Ly) (k : Nat) (a1 : Int32) (σ : Mem) (K : Int32 → Mem → Prop) (hk : kd k = 3) (h : w_X3_upper k a1 σ K) (sz : Nat) : Met l yX3_upper (.code yX3_upper cX3_upper 2 (some .int) :: wA) rm_X3_upper (va_Pc [.ref (lad L k), .int a1] (mB L sz σ)) (va_Qi K (mE L) (mA L sz)) 0 0 (mA L sz) := by
  refine v_start (own := RX3) [(0, .ref (lad L k)), (1, .int a1)] (by decide) rfl (Nat.le_of_ble_eq_true rfl) rfl (fun p e s m args below meth c C hret hlk => ?_)
  unfold w_X3_upper at h
  refine v_aload_n C dX3_upper_0 rfl 0 rfl ?_
  refine v_iload_n C dX3_upper_1 rfl 1 rfl ?_
  refine k_X3_has C k a1 hk h mM_X3_43 ⟨Nat.le_of_ble_eq_true rfl, Nat.le_of_ble_eq_true rfl⟩ (Nat.le_of_ble_eq_true rfl) dX3_upper_2 (fun r2 σ1 h => ?_)
  refine v_if_eq C (tgt := 17) dX3_upper_5 (by decide) (fun hc => ?_) (fun hc => ?_)
  · replace h := h.1 hc
    refine v_aload_n C dX3_upper_17 rfl 0 rfl ?_
    refine g_3_floor C hk mF_X3_15 dX3_upper_18 ?_
    exact v_iret C dX3_upper_21 hret hlk h
  · replace h := h.2 hc
    refine v_aload_n C dX3_upper_8 rfl 0 rfl ?_
    refine g_3_counts C hk mF_X3_24 dX3_upper_9 ?_
    refine v_iload_n C dX3_upper_12 rfl 1 rfl ?_
    obtain ⟨hi3, h⟩ := h
    refine v_iald C (c0 := 20) (by decide) rfl (kd_3_1 hk) hi3 dX3_upper_13 ?_
    refine v_goto C (tgt := 21) dX3_upper_14 (by decide) ?_
    exact v_iret C dX3_upper_21 hret hlk h
theorem hd_X3_upper : yX3_upper.cls ≠ "java/lang/invoke/MethodHandle" ∧ yX3_upper.cls ≠ "java/lang/invoke/VarHandle" ∧ (parseMethodDescriptor yX3_upper.desc).map (fun d => d.parameters.length) = some 1 := by decide +kernel
theorem k_X3_upper {p : Program} {l : Launch} {e : Env} {R : Room} {s : State} {m : MethodId} {args : Array Value} {below : List Frame} {meth : Method} {c : Code} {nL cells slots : Nat} {Q : State → Prop} {A : Nat → Prop} {L : Ly} {own : String} {cc : ByteArray} {σ : Mem} {pc idx : Nat} {lv : List (Nat × Value)} {st : List Value} {K : Int32 → Mem → Prop} (C : Cx p R s m args meth c own cc nL cells slots A L) (k : Nat) (a1 : Int32) (hk : kd k = 3) (h : w_X3_upper k a1 σ K) (hml : Cond.methodLink own idx yX3_upper ∈ wA) (hR : rm_X3_upper.frames + 1 ≤ R.frames ∧ 8 + (2 + 11) + rm_X3_upper.locals ≤ R.locals) (hsum : (st.map fun v => v.category).sum ≤ 8) (d : decode cc pc = .ok (.invokevirtual idx, 3)) (kk : ∀ r σ1, K r σ1 → V p l e R s m args below meth c nL cells slots Q A L σ1 (pc + 3) lv (.int r :: st)) : V p l e R s m args below meth c nL cells slots Q A L σ pc lv (.int a1 :: .ref (lad L k) :: st) := v_callVi C [.int a1] (fun sz => c_X3_upper l L k a1 σ _ hk h sz) mC_X3_upper mZ_X3 hd_X3_upper mI_X3_upper mS_X3_upper rfl rfl (c0 := 3) (ci := 3) (by decide) rfl rfl rfl hk hml hR rfl hsum d kk
-- ===== RX3.slackToMerge
abbrev rm_X3_slackToMerge : Room := { frames := 1, cells := 0, slots := 0, locals := 21 }
def w_X3_slackToMerge (k : Nat) (a1 : Int32) (σ : Mem) (K : Int32 → Mem → Prop) : Prop := (w_X3_has k a1 σ (fun r2 σ1 => (br (r2 = 0) (K (σ1 k 1) σ1) (vp_in a1 26 ∧ (K (σ1 (k + 2) (ix a1)) σ1)))))
set_option maxHeartbeats 4000000 in
set_option maxRecDepth 100000 in
theorem c_X3_slackToMerge (l : Launch) (L : Ly) (k : Nat) (a1 : Int32) (σ : Mem) (K : Int32 → Mem → Prop) (hk : kd k = 3) (h : w_X3_slackToMerge k a1 σ K) (sz : Nat) : Met l yX3_slackToMerge (.code yX3_slackToMerge cX3_slackToMerge 2 (some .int) :: wA) rm_X3_slackToMerge (va_Pc [.ref (lad L k), .int a1] (mB L sz σ)) (va_Qi K (mE L) (mA L sz)) 0 0 (mA L sz) := by
  refine v_start (own := RX3) [(0, .ref (lad L k)), (1, .int a1)] (by decide) rfl (Nat.le_of_ble_eq_true rfl) rfl (fun p e s m args below meth c C hret hlk => ?_)
  unfold w_X3_slackToMerge at h
  refine v_aload_n C dX3_slackToMerge_0 rfl 0 rfl ?_
  refine v_iload_n C dX3_slackToMerge_1 rfl 1 rfl ?_
  refine k_X3_has C k a1 hk h mM_X3_43 ⟨Nat.le_of_ble_eq_true rfl, Nat.le_of_ble_eq_true rfl⟩ (Nat.le_of_ble_eq_true rfl) dX3_slackToMerge_2 (fun r2 σ1 h => ?_)
  refine v_if_eq C (tgt := 17) dX3_slackToMerge_5 (by decide) (fun hc => ?_) (fun hc => ?_)
  · replace h := h.1 hc
    refine v_aload_n C dX3_slackToMerge_17 rfl 0 rfl ?_
    refine g_3_floor C hk mF_X3_15 dX3_slackToMerge_18 ?_
    exact v_iret C dX3_slackToMerge_21 hret hlk h
  · replace h := h.2 hc
    refine v_aload_n C dX3_slackToMerge_8 rfl 0 rfl ?_
    refine g_3_slacks C hk mF_X3_28 dX3_slackToMerge_9 ?_
    refine v_iload_n C dX3_slackToMerge_12 rfl 1 rfl ?_
    obtain ⟨hi3, h⟩ := h
    refine v_iald C (c0 := 20) (by decide) rfl (kd_3_2 hk) hi3 dX3_slackToMerge_13 ?_
    refine v_goto C (tgt := 21) dX3_slackToMerge_14 (by decide) ?_
    exact v_iret C dX3_slackToMerge_21 hret hlk h
theorem hd_X3_slackToMerge : yX3_slackToMerge.cls ≠ "java/lang/invoke/MethodHandle" ∧ yX3_slackToMerge.cls ≠ "java/lang/invoke/VarHandle" ∧ (parseMethodDescriptor yX3_slackToMerge.desc).map (fun d => d.parameters.length) = some 1 := by decide +kernel
theorem k_X3_slackToMerge {p : Program} {l : Launch} {e : Env} {R : Room} {s : State} {m : MethodId} {args : Array Value} {below : List Frame} {meth : Method} {c : Code} {nL cells slots : Nat} {Q : State → Prop} {A : Nat → Prop} {L : Ly} {own : String} {cc : ByteArray} {σ : Mem} {pc idx : Nat} {lv : List (Nat × Value)} {st : List Value} {K : Int32 → Mem → Prop} (C : Cx p R s m args meth c own cc nL cells slots A L) (k : Nat) (a1 : Int32) (hk : kd k = 3) (h : w_X3_slackToMerge k a1 σ K) (hml : Cond.methodLink own idx yX3_slackToMerge ∈ wA) (hR : rm_X3_slackToMerge.frames + 1 ≤ R.frames ∧ 8 + (2 + 11) + rm_X3_slackToMerge.locals ≤ R.locals) (hsum : (st.map fun v => v.category).sum ≤ 8) (d : decode cc pc = .ok (.invokevirtual idx, 3)) (kk : ∀ r σ1, K r σ1 → V p l e R s m args below meth c nL cells slots Q A L σ1 (pc + 3) lv (.int r :: st)) : V p l e R s m args below meth c nL cells slots Q A L σ pc lv (.int a1 :: .ref (lad L k) :: st) := v_callVi C [.int a1] (fun sz => c_X3_slackToMerge l L k a1 σ _ hk h sz) mC_X3_slackToMerge mZ_X3 hd_X3_slackToMerge mI_X3_slackToMerge mS_X3_slackToMerge rfl rfl (c0 := 3) (ci := 3) (by decide) rfl rfl rfl hk hml hR rfl hsum d kk
-- ===== RX3.nextLeftOut
abbrev rm_X3_nextLeftOut : Room := { frames := 1, cells := 0, slots := 0, locals := 21 }
def w_X3_nextLeftOut_4 (k : Nat) (K : Int32 → Mem → Prop)  : Nat → Int32 → Int32 → Mem → Prop
  | 0, _, _, _ => False
  | n + 1, x1, x2, σ => (br (26 ≤ x2) (K x1 σ) (w_X3_has k x2 σ (fun r2 σ1 => (br (r2 = 0) (w_X3_nextLeftOut_4 k K  n x1 (x2 + 1) σ1) (br (x1 = (-1)) (w_X3_nextLeftOut_4 k K  n x2 (x2 + 1) σ1) (vp_in x2 26 ∧ (vp_in x1 26 ∧ (br ((σ1 (k + 1) (ix x1)) < (σ1 (k + 1) (ix x2))) (w_X3_nextLeftOut_4 k K  n x1 (x2 + 1) σ1) (w_X3_nextLeftOut_4 k K  n x2 (x2 + 1) σ1)))))))))
set_option maxHeartbeats 4000000 in
set_option maxRecDepth 100000 in
theorem b_X3_nextLeftOut_4 {p : Program} {l : Launch} {e : Env} {s : State} {m : MethodId} {args : Array Value} {below : List Frame} {meth : Method} {c : Code} {L : Ly} {sz : Nat} (C : Cx p rm_X3_nextLeftOut s m args meth c RX3 cX3_nextLeftOut 3 0 0 (mA L sz) L) (hret : meth.sig.returnType = (some .int)) (hlk : meth.locks = false) (k : Nat) (hk : kd k = 3) (K : Int32 → Mem → Prop)  : ∀ (n : Nat) (x1 : Int32) (x2 : Int32) (σ : Mem), w_X3_nextLeftOut_4 k K  n x1 x2 σ → V p l e rm_X3_nextLeftOut s m args below meth c 3 0 0 (MQ below (va_Qi K (mE L) (mA L sz)) args s 0 0 (mA L sz)) (mA L sz) L σ 4 [(0, .ref (lad L k)), (1, .int x1), (2, .int x2)] [] := by
  intro n
  induction n with
  | zero => intro x1 x2 σ  h; exact h.elim
  | succ n ih =>
    intro x1 x2 σ  h
    rw [w_X3_nextLeftOut_4] at h
    refine v_iload_n C dX3_nextLeftOut_4 rfl 2 rfl ?_
    refine v_bipush C (v := 26) dX3_nextLeftOut_5 rfl ?_
    refine v_icmp_ge C (tgt := 46) dX3_nextLeftOut_7 (by decide) (fun hc => ?_) (fun hc => ?_)
    · replace h := h.1 hc
      refine v_iload_n C dX3_nextLeftOut_46 rfl 1 rfl ?_
      exact v_iret C dX3_nextLeftOut_47 hret hlk h
    · replace h := h.2 hc
      refine v_aload_n C dX3_nextLeftOut_10 rfl 0 rfl ?_
      refine v_iload_n C dX3_nextLeftOut_11 rfl 2 rfl ?_
      refine k_X3_has C k x2 hk h mM_X3_43 ⟨Nat.le_of_ble_eq_true rfl, Nat.le_of_ble_eq_true rfl⟩ (Nat.le_of_ble_eq_true rfl) dX3_nextLeftOut_12 (fun r2 σ1 h => ?_)
      refine v_if_eq C (tgt := 40) dX3_nextLeftOut_15 (by decide) (fun hc => ?_) (fun hc => ?_)
      · replace h := h.1 hc
        refine v_iinc C [(2, .int (x2 + 1)), (0, .ref (lad L k)), (1, .int x1)] dX3_nextLeftOut_40 2 rfl rfl (by decide) rfl ?_
        refine v_goto C (tgt := 4) dX3_nextLeftOut_43 (by decide) ?_
        refine v_sub [1, 2, 0] rfl ?_
        exact ih _ _ _  h
      · replace h := h.2 hc
        refine v_iload_n C dX3_nextLeftOut_18 rfl 1 rfl ?_
        refine v_iconst C (v := (-1)) dX3_nextLeftOut_19 rfl ?_
        refine v_icmp_eq C (tgt := 38) dX3_nextLeftOut_20 (by decide) (fun hc => ?_) (fun hc => ?_)
        · replace h := h.1 hc
          refine v_iload_n C dX3_nextLeftOut_38 rfl 2 rfl ?_
          refine v_istore_n C [(1, .int x2), (0, .ref (lad L k)), (2, .int x2)] dX3_nextLeftOut_39 rfl (by decide) rfl ?_
          refine v_iinc C [(2, .int (x2 + 1)), (1, .int x2), (0, .ref (lad L k))] dX3_nextLeftOut_40 2 rfl rfl (by decide) rfl ?_
          refine v_goto C (tgt := 4) dX3_nextLeftOut_43 (by decide) ?_
          refine v_sub [2, 1, 0] rfl ?_
          exact ih _ _ _  h
        · replace h := h.2 hc
          refine v_aload_n C dX3_nextLeftOut_23 rfl 0 rfl ?_
          refine g_3_counts C hk mF_X3_24 dX3_nextLeftOut_24 ?_
          refine v_iload_n C dX3_nextLeftOut_27 rfl 2 rfl ?_
          obtain ⟨hi3, h⟩ := h
          refine v_iald C (c0 := 20) (by decide) rfl (kd_3_1 hk) hi3 dX3_nextLeftOut_28 ?_
          refine v_aload_n C dX3_nextLeftOut_29 rfl 0 rfl ?_
          refine g_3_counts C hk mF_X3_24 dX3_nextLeftOut_30 ?_
          refine v_iload_n C dX3_nextLeftOut_33 rfl 1 rfl ?_
          obtain ⟨hi4, h⟩ := h
          refine v_iald C (c0 := 20) (by decide) rfl (kd_3_1 hk) hi4 dX3_nextLeftOut_34 ?_
          refine v_icmp_gt C (tgt := 40) dX3_nextLeftOut_35 (by decide) (fun hc => ?_) (fun hc => ?_)
          · replace h := h.1 hc
            refine v_iinc C [(2, .int (x2 + 1)), (0, .ref (lad L k)), (1, .int x1)] dX3_nextLeftOut_40 2 rfl rfl (by decide) rfl ?_
            refine v_goto C (tgt := 4) dX3_nextLeftOut_43 (by decide) ?_
            refine v_sub [1, 2, 0] rfl ?_
            exact ih _ _ _  h
          · replace h := h.2 hc
            refine v_iload_n C dX3_nextLeftOut_38 rfl 2 rfl ?_
            refine v_istore_n C [(1, .int x2), (0, .ref (lad L k)), (2, .int x2)] dX3_nextLeftOut_39 rfl (by decide) rfl ?_
            refine v_iinc C [(2, .int (x2 + 1)), (1, .int x2), (0, .ref (lad L k))] dX3_nextLeftOut_40 2 rfl rfl (by decide) rfl ?_
            refine v_goto C (tgt := 4) dX3_nextLeftOut_43 (by decide) ?_
            refine v_sub [2, 1, 0] rfl ?_
            exact ih _ _ _  h
def w_X3_nextLeftOut (k : Nat) (σ : Mem) (K : Int32 → Mem → Prop) : Prop := (∃ n5, w_X3_nextLeftOut_4 k K  n5 (-1) 0 σ)
set_option maxHeartbeats 4000000 in
set_option maxRecDepth 100000 in
theorem c_X3_nextLeftOut (l : Launch) (L : Ly) (k : Nat) (σ : Mem) (K : Int32 → Mem → Prop) (hk : kd k = 3) (h : w_X3_nextLeftOut k σ K) (sz : Nat) : Met l yX3_nextLeftOut (.code yX3_nextLeftOut cX3_nextLeftOut 3 (some .int) :: wA) rm_X3_nextLeftOut (va_Pc [.ref (lad L k)] (mB L sz σ)) (va_Qi K (mE L) (mA L sz)) 0 0 (mA L sz) := by
  refine v_start (own := RX3) [(0, .ref (lad L k))] (by decide) rfl (Nat.le_of_ble_eq_true rfl) rfl (fun p e s m args below meth c C hret hlk => ?_)
  unfold w_X3_nextLeftOut at h
  refine v_iconst C (v := (-1)) dX3_nextLeftOut_0 rfl ?_
  refine v_istore_n C [(1, .int (-1)), (0, .ref (lad L k))] dX3_nextLeftOut_1 rfl (by decide) rfl ?_
  refine v_iconst C (v := 0) dX3_nextLeftOut_2 rfl ?_
  refine v_istore_n C [(2, .int 0), (1, .int (-1)), (0, .ref (lad L k))] dX3_nextLeftOut_3 rfl (by decide) rfl ?_
  obtain ⟨n5, h⟩ := h
  refine v_sub [2, 1, 0] rfl ?_
  exact b_X3_nextLeftOut_4 C hret hlk k hk K   n5 _ _ _  h
theorem hd_X3_nextLeftOut : yX3_nextLeftOut.cls ≠ "java/lang/invoke/MethodHandle" ∧ yX3_nextLeftOut.cls ≠ "java/lang/invoke/VarHandle" ∧ (parseMethodDescriptor yX3_nextLeftOut.desc).map (fun d => d.parameters.length) = some 0 := by decide +kernel
theorem k_X3_nextLeftOut {p : Program} {l : Launch} {e : Env} {R : Room} {s : State} {m : MethodId} {args : Array Value} {below : List Frame} {meth : Method} {c : Code} {nL cells slots : Nat} {Q : State → Prop} {A : Nat → Prop} {L : Ly} {own : String} {cc : ByteArray} {σ : Mem} {pc idx : Nat} {lv : List (Nat × Value)} {st : List Value} {K : Int32 → Mem → Prop} (C : Cx p R s m args meth c own cc nL cells slots A L) (k : Nat) (hk : kd k = 3) (h : w_X3_nextLeftOut k σ K) (hml : Cond.methodLink own idx yX3_nextLeftOut ∈ wA) (hR : rm_X3_nextLeftOut.frames + 1 ≤ R.frames ∧ 8 + (3 + 11) + rm_X3_nextLeftOut.locals ≤ R.locals) (hsum : (st.map fun v => v.category).sum ≤ 8) (d : decode cc pc = .ok (.invokevirtual idx, 3)) (kk : ∀ r σ1, K r σ1 → V p l e R s m args below meth c nL cells slots Q A L σ1 (pc + 3) lv (.int r :: st)) : V p l e R s m args below meth c nL cells slots Q A L σ pc lv (.ref (lad L k) :: st) := v_callVi C [] (fun sz => c_X3_nextLeftOut l L k σ _ hk h sz) mC_X3_nextLeftOut mZ_X3 hd_X3_nextLeftOut mI_X3_nextLeftOut mS_X3_nextLeftOut rfl rfl (c0 := 3) (ci := 3) (by decide) rfl rfl rfl hk hml hR rfl hsum d kk
-- ===== RX3.leaveOut
abbrev rm_X3_leaveOut : Room := { frames := 2, cells := 0, slots := 0, locals := 43 }
def w_X3_leaveOut_4 (k : Nat) (K : Int32 → Mem → Prop)  : Nat → Int32 → Int32 → Mem → Prop
  | 0, _, _, _ => False
  | n + 1, x1, x2, σ => (br (26 ≤ x2) (K x1 σ) (w_X3_counters k σ (fun r2 σ1 => (br (r2 ≤ (σ1 k 0)) (K x1 σ1) (w_X3_nextLeftOut k σ1 (fun r4 σ3 => (br (r4 = (-1)) (w_X3_leaveOut_4 k K  n x1 (x2 + 1) σ3) (w_X3_takeCounter k r4 σ3 (fun σ5 => (w_X3_leaveOut_4 k K  n (x1 + 1) (x2 + 1) σ5))))))))))
set_option maxHeartbeats 4000000 in
set_option maxRecDepth 100000 in
theorem b_X3_leaveOut_4 {p : Program} {l : Launch} {e : Env} {s : State} {m : MethodId} {args : Array Value} {below : List Frame} {meth : Method} {c : Code} {L : Ly} {sz : Nat} (C : Cx p rm_X3_leaveOut s m args meth c RX3 cX3_leaveOut 4 0 0 (mA L sz) L) (hret : meth.sig.returnType = (some .int)) (hlk : meth.locks = false) (k : Nat) (hk : kd k = 3) (K : Int32 → Mem → Prop)  : ∀ (n : Nat) (x1 : Int32) (x2 : Int32) (σ : Mem), w_X3_leaveOut_4 k K  n x1 x2 σ → V p l e rm_X3_leaveOut s m args below meth c 4 0 0 (MQ below (va_Qi K (mE L) (mA L sz)) args s 0 0 (mA L sz)) (mA L sz) L σ 4 [(0, .ref (lad L k)), (1, .int x1), (2, .int x2)] [] := by
  intro n
  induction n with
  | zero => intro x1 x2 σ  h; exact h.elim
  | succ n ih =>
    intro x1 x2 σ  h
    rw [w_X3_leaveOut_4] at h
    refine v_iload_n C dX3_leaveOut_4 rfl 2 rfl ?_
    refine v_bipush C (v := 26) dX3_leaveOut_5 rfl ?_
    refine v_icmp_ge C (tgt := 45) dX3_leaveOut_7 (by decide) (fun hc => ?_) (fun hc => ?_)
    · replace h := h.1 hc
      refine v_iload_n C dX3_leaveOut_45 rfl 1 rfl ?_
      exact v_iret C dX3_leaveOut_46 hret hlk h
    · replace h := h.2 hc
      refine v_aload_n C dX3_leaveOut_10 rfl 0 rfl ?_
      refine k_X3_counters C k hk h mM_X3_47 ⟨Nat.le_of_ble_eq_true rfl, Nat.le_of_ble_eq_true rfl⟩ (Nat.le_of_ble_eq_true rfl) dX3_leaveOut_11 (fun r2 σ1 h => ?_)
      refine v_aload_n C dX3_leaveOut_14 rfl 0 rfl ?_
      refine g_3_size C hk mF_X3_9 dX3_leaveOut_15 ?_
      refine v_icmp_le C (tgt := 45) dX3_leaveOut_18 (by decide) (fun hc => ?_) (fun hc => ?_)
      · replace h := h.1 hc
        refine v_iload_n C dX3_leaveOut_45 rfl 1 rfl ?_
        exact v_iret C dX3_leaveOut_46 hret hlk h
      · replace h := h.2 hc
        refine v_aload_n C dX3_leaveOut_21 rfl 0 rfl ?_
        refine k_X3_nextLeftOut C k hk h mM_X3_83 ⟨Nat.le_of_ble_eq_true rfl, Nat.le_of_ble_eq_true rfl⟩ (Nat.le_of_ble_eq_true rfl) dX3_leaveOut_22 (fun r4 σ3 h => ?_)
        refine v_istore_n C [(3, .int r4), (0, .ref (lad L k)), (1, .int x1), (2, .int x2)] dX3_leaveOut_25 rfl (by decide) rfl ?_
        refine v_iload_n C dX3_leaveOut_26 rfl 0 rfl ?_
        refine v_iconst C (v := (-1)) dX3_leaveOut_27 rfl ?_
        refine v_icmp_eq C (tgt := 39) dX3_leaveOut_28 (by decide) (fun hc => ?_) (fun hc => ?_)
        · replace h := h.1 hc
          refine v_iinc C [(2, .int (x2 + 1)), (3, .int r4), (0, .ref (lad L k)), (1, .int x1)] dX3_leaveOut_39 3 rfl rfl (by decide) rfl ?_
          refine v_goto C (tgt := 4) dX3_leaveOut_42 (by decide) ?_
          refine v_sub [2, 3, 0] rfl ?_
          exact ih _ _ _  h
        · replace h := h.2 hc
          refine v_aload_n C dX3_leaveOut_31 rfl 1 rfl ?_
          refine v_iload_n C dX3_leaveOut_32 rfl 0 rfl ?_
          refine k_X3_takeCounter C k r4 hk h mM_X3_64 ⟨Nat.le_of_ble_eq_true rfl, Nat.le_of_ble_eq_true rfl⟩ (Nat.le_of_ble_eq_true rfl) dX3_leaveOut_33 (fun σ5 h => ?_)
          refine v_iinc C [(1, .int (x1 + 1)), (3, .int r4), (0, .ref (lad L k)), (2, .int x2)] dX3_leaveOut_36 2 rfl rfl (by decide) rfl ?_
          refine v_iinc C [(2, .int (x2 + 1)), (1, .int (x1 + 1)), (3, .int r4), (0, .ref (lad L k))] dX3_leaveOut_39 3 rfl rfl (by decide) rfl ?_
          refine v_goto C (tgt := 4) dX3_leaveOut_42 (by decide) ?_
          refine v_sub [3, 1, 0] rfl ?_
          exact ih _ _ _  h
def w_X3_leaveOut (k : Nat) (σ : Mem) (K : Int32 → Mem → Prop) : Prop := (∃ n6, w_X3_leaveOut_4 k K  n6 0 0 σ)
set_option maxHeartbeats 4000000 in
set_option maxRecDepth 100000 in
theorem c_X3_leaveOut (l : Launch) (L : Ly) (k : Nat) (σ : Mem) (K : Int32 → Mem → Prop) (hk : kd k = 3) (h : w_X3_leaveOut k σ K) (sz : Nat) : Met l yX3_leaveOut (.code yX3_leaveOut cX3_leaveOut 4 (some .int) :: wA) rm_X3_leaveOut (va_Pc [.ref (lad L k)] (mB L sz σ)) (va_Qi K (mE L) (mA L sz)) 0 0 (mA L sz) := by
  refine v_start (own := RX3) [(0, .ref (lad L k))] (by decide) rfl (Nat.le_of_ble_eq_true rfl) rfl (fun p e s m args below meth c C hret hlk => ?_)
  unfold w_X3_leaveOut at h
  refine v_iconst C (v := 0) dX3_leaveOut_0 rfl ?_
  refine v_istore_n C [(1, .int 0), (0, .ref (lad L k))] dX3_leaveOut_1 rfl (by decide) rfl ?_
  refine v_iconst C (v := 0) dX3_leaveOut_2 rfl ?_
  refine v_istore_n C [(2, .int 0), (1, .int 0), (0, .ref (lad L k))] dX3_leaveOut_3 rfl (by decide) rfl ?_
  obtain ⟨n6, h⟩ := h
  refine v_sub [2, 1, 0] rfl ?_
  exact b_X3_leaveOut_4 C hret hlk k hk K   n6 _ _ _  h
theorem hd_X3_leaveOut : yX3_leaveOut.cls ≠ "java/lang/invoke/MethodHandle" ∧ yX3_leaveOut.cls ≠ "java/lang/invoke/VarHandle" ∧ (parseMethodDescriptor yX3_leaveOut.desc).map (fun d => d.parameters.length) = some 0 := by decide +kernel
theorem k_X3_leaveOut {p : Program} {l : Launch} {e : Env} {R : Room} {s : State} {m : MethodId} {args : Array Value} {below : List Frame} {meth : Method} {c : Code} {nL cells slots : Nat} {Q : State → Prop} {A : Nat → Prop} {L : Ly} {own : String} {cc : ByteArray} {σ : Mem} {pc idx : Nat} {lv : List (Nat × Value)} {st : List Value} {K : Int32 → Mem → Prop} (C : Cx p R s m args meth c own cc nL cells slots A L) (k : Nat) (hk : kd k = 3) (h : w_X3_leaveOut k σ K) (hml : Cond.methodLink own idx yX3_leaveOut ∈ wA) (hR : rm_X3_leaveOut.frames + 1 ≤ R.frames ∧ 8 + (4 + 11) + rm_X3_leaveOut.locals ≤ R.locals) (hsum : (st.map fun v => v.category).sum ≤ 8) (d : decode cc pc = .ok (.invokevirtual idx, 3)) (kk : ∀ r σ1, K r σ1 → V p l e R s m args below meth c nL cells slots Q A L σ1 (pc + 3) lv (.int r :: st)) : V p l e R s m args below meth c nL cells slots Q A L σ pc lv (.ref (lad L k) :: st) := v_callVi C [] (fun sz => c_X3_leaveOut l L k σ _ hk h sz) mC_X3_leaveOut mZ_X3 hd_X3_leaveOut mI_X3_leaveOut mS_X3_leaveOut rfl rfl (c0 := 3) (ci := 3) (by decide) rfl rfl rfl hk hml hR rfl hsum d kk
-- ===== RX3.absorb
abbrev rm_X3_absorb : Room := { frames := 3, cells := 0, slots := 0, locals := 66 }
def w_X3_absorb_13 (k : Nat) (o1 : Nat) (a2 : Int32) (K : Int32 → Mem → Prop)  : Nat → Int32 → Int32 → Mem → Prop
  | 0, _, _, _ => False
  | n + 1, x3, x4, σ => (br (26 ≤ x4) (∀ σ2 : Mem, σ2 = mu σ k 3 x3 → (∀ σ3 : Mem, σ3 = mu σ2 k 1 ((σ2 k 1) + (σ2 o1 1)) → (∀ σ4 : Mem, σ4 = mu σ3 k 2 ((σ3 k 2) + (σ3 o1 2)) → (w_X3_leaveOut k σ4 (fun r6 σ5 => (K r6 σ5)))))) (br (((x3 >>> (x4 &&& 31)) &&& 1) = 0) (vp_in x4 26 ∧ (vp_in x4 26 ∧ (vp_in x4 26 ∧ ∀ σ10 : Mem, σ10 = mu σ (k + 4) (ix x4) ((σ (k + 4) (ix x4)) + (σ (o1 + 4) (ix x4))) → (w_X3_absorb_13 k o1 a2 K  n x3 (x4 + 1) σ10)))) (w_X3_upper k x4 σ (fun r12 σ11 => (w_X3_upper o1 x4 σ11 (fun r14 σ13 => (∀ v15 : Int32, v15 = (r12 + r14) → (w_X3_slackToMerge k x4 σ13 (fun r17 σ16 => (w_X3_slackToMerge o1 x4 σ16 (fun r19 σ18 => (∀ v20 : Int32, v20 = (r17 + r19) → (vp_in x4 26 ∧ ∀ σ22 : Mem, σ22 = mu σ18 (k + 1) (ix x4) v15 → (vp_in x4 26 ∧ ∀ σ24 : Mem, σ24 = mu σ22 (k + 2) (ix x4) v20 → (vp_in x4 26 ∧ ∀ σ26 : Mem, σ26 = mu σ24 (k + 3) (ix x4) a2 → (vp_in x4 26 ∧ (vp_in x4 26 ∧ (vp_in x4 26 ∧ ∀ σ30 : Mem, σ30 = mu σ26 (k + 4) (ix x4) ((σ26 (k + 4) (ix x4)) + (σ26 (o1 + 4) (ix x4))) → (w_X3_absorb_13 k o1 a2 K  n x3 (x4 + 1) σ30)))))))))))))))))))
set_option maxHeartbeats 4000000 in
set_option maxRecDepth 100000 in
theorem b_X3_absorb_13 {p : Program} {l : Launch} {e : Env} {s : State} {m : MethodId} {args : Array Value} {below : List Frame} {meth : Method} {c : Code} {L : Ly} {sz : Nat} (C : Cx p rm_X3_absorb s m args meth c RX3 cX3_absorb 7 0 0 (mA L sz) L) (hret : meth.sig.returnType = (some .int)) (hlk : meth.locks = false) (k : Nat) (o1 : Nat) (a2 : Int32) (hk : kd k = 3) (ho1 : kd o1 = 3) (K : Int32 → Mem → Prop)  : ∀ (n : Nat) (x3 : Int32) (x4 : Int32) (σ : Mem), w_X3_absorb_13 k o1 a2 K  n x3 x4 σ → V p l e rm_X3_absorb s m args below meth c 7 0 0 (MQ below (va_Qi K (mE L) (mA L sz)) args s 0 0 (mA L sz)) (mA L sz) L σ 13 [(0, .ref (lad L k)), (1, .ref (lad L o1)), (2, .int a2), (3, .int x3), (4, .int x4)] [] := by
  intro n
  induction n with
  | zero => intro x3 x4 σ  h; exact h.elim
  | succ n ih =>
    intro x3 x4 σ  h
    rw [w_X3_absorb_13] at h
    refine v_iload C dX3_absorb_13 4 rfl ?_
    refine v_bipush C (v := 26) dX3_absorb_15 rfl ?_
    refine v_icmp_ge C (tgt := 108) dX3_absorb_17 (by decide) (fun hc => ?_) (fun hc => ?_)
    · replace h := h.1 hc
      refine v_aload_n C dX3_absorb_108 rfl 0 rfl ?_
      refine v_iload_n C dX3_absorb_109 rfl 3 rfl ?_
      refine p_3_held C hk mF_X3_21 dX3_absorb_110 (fun σ2 eσ2 => ?_)
      replace h := h σ2 eσ2
      refine v_aload_n C dX3_absorb_113 rfl 0 rfl ?_
      refine v_dup C dX3_absorb_114 rfl ?_
      refine g_3_floor C hk mF_X3_15 dX3_absorb_115 ?_
      refine v_aload_n C dX3_absorb_118 rfl 1 rfl ?_
      refine g_3_floor C ho1 mF_X3_15 dX3_absorb_119 ?_
      refine v_iadd C dX3_absorb_122 ?_
      refine p_3_floor C hk mF_X3_15 dX3_absorb_123 (fun σ3 eσ3 => ?_)
      replace h := h σ3 eσ3
      refine v_aload_n C dX3_absorb_126 rfl 0 rfl ?_
      refine v_dup C dX3_absorb_127 rfl ?_
      refine g_3_sum C hk mF_X3_18 dX3_absorb_128 ?_
      refine v_aload_n C dX3_absorb_131 rfl 1 rfl ?_
      refine g_3_sum C ho1 mF_X3_18 dX3_absorb_132 ?_
      refine v_iadd C dX3_absorb_135 ?_
      refine p_3_sum C hk mF_X3_18 dX3_absorb_136 (fun σ4 eσ4 => ?_)
      replace h := h σ4 eσ4
      refine v_aload_n C dX3_absorb_139 rfl 0 rfl ?_
      refine k_X3_leaveOut C k hk h mM_X3_80 ⟨Nat.le_of_ble_eq_true rfl, Nat.le_of_ble_eq_true rfl⟩ (Nat.le_of_ble_eq_true rfl) dX3_absorb_140 (fun r6 σ5 h => ?_)
      exact v_iret C dX3_absorb_143 hret hlk h
    · replace h := h.2 hc
      refine v_iload_n C dX3_absorb_20 rfl 3 rfl ?_
      refine v_iload C dX3_absorb_21 4 rfl ?_
      refine v_ishr C dX3_absorb_23 ?_
      refine v_iconst C (v := 1) dX3_absorb_24 rfl ?_
      refine v_iand C dX3_absorb_25 ?_
      refine v_if_eq C (tgt := 85) dX3_absorb_26 (by decide) (fun hc => ?_) (fun hc => ?_)
      · replace h := h.1 hc
        refine v_aload_n C dX3_absorb_85 rfl 0 rfl ?_
        refine g_3_came C hk mF_X3_34 dX3_absorb_86 ?_
        refine v_iload C dX3_absorb_89 4 rfl ?_
        refine v_dup2 C dX3_absorb_91 rfl rfl ?_
        obtain ⟨hi7, h⟩ := h
        refine v_iald C (c0 := 20) (by decide) rfl (kd_3_4 hk) hi7 dX3_absorb_92 ?_
        refine v_aload_n C dX3_absorb_93 rfl 1 rfl ?_
        refine g_3_came C ho1 mF_X3_34 dX3_absorb_94 ?_
        refine v_iload C dX3_absorb_97 4 rfl ?_
        obtain ⟨hi8, h⟩ := h
        refine v_iald C (c0 := 20) (by decide) rfl (kd_3_4 ho1) hi8 dX3_absorb_99 ?_
        refine v_iadd C dX3_absorb_100 ?_
        obtain ⟨hi9, h⟩ := h
        refine v_iast C (c0 := 20) (by decide) (fun _ => rfl) (kd_3_4 hk) hi9 dX3_absorb_101 (fun σ10 eσ10 => ?_)
        replace h := h σ10 eσ10
        refine v_iinc C [(4, .int (x4 + 1)), (0, .ref (lad L k)), (1, .ref (lad L o1)), (2, .int a2), (3, .int x3)] dX3_absorb_102 4 rfl rfl (by decide) rfl ?_
        refine v_goto C (tgt := 13) dX3_absorb_105 (by decide) ?_
        refine v_sub [1, 2, 3, 4, 0] rfl ?_
        exact ih _ _ _  h
      · replace h := h.2 hc
        refine v_aload_n C dX3_absorb_29 rfl 0 rfl ?_
        refine v_iload C dX3_absorb_30 4 rfl ?_
        refine k_X3_upper C k x4 hk h mM_X3_74 ⟨Nat.le_of_ble_eq_true rfl, Nat.le_of_ble_eq_true rfl⟩ (Nat.le_of_ble_eq_true rfl) dX3_absorb_32 (fun r12 σ11 h => ?_)
        refine v_aload_n C dX3_absorb_35 rfl 1 rfl ?_
        refine v_iload C dX3_absorb_36 4 rfl ?_
        refine k_X3_upper C o1 x4 ho1 h mM_X3_74 ⟨Nat.le_of_ble_eq_true rfl, Nat.le_of_ble_eq_true rfl⟩ (Nat.le_of_ble_eq_true rfl) dX3_absorb_38 (fun r14 σ13 h => ?_)
        refine v_iadd C dX3_absorb_41 ?_
        refine v_nm (fun v15 ev15 => ?_)
        replace h := h v15 ev15
        refine v_istore C [(5, .int v15), (0, .ref (lad L k)), (1, .ref (lad L o1)), (2, .int a2), (3, .int x3), (4, .int x4)] dX3_absorb_42 (by decide) rfl ?_
        refine v_aload_n C dX3_absorb_44 rfl 1 rfl ?_
        refine v_iload C dX3_absorb_45 5 rfl ?_
        refine k_X3_slackToMerge C k x4 hk h mM_X3_77 ⟨Nat.le_of_ble_eq_true rfl, Nat.le_of_ble_eq_true rfl⟩ (Nat.le_of_ble_eq_true rfl) dX3_absorb_47 (fun r17 σ16 h => ?_)
        refine v_aload_n C dX3_absorb_50 rfl 2 rfl ?_
        refine v_iload C dX3_absorb_51 5 rfl ?_
        refine k_X3_slackToMerge C o1 x4 ho1 h mM_X3_77 ⟨Nat.le_of_ble_eq_true rfl, Nat.le_of_ble_eq_true rfl⟩ (Nat.le_of_ble_eq_true rfl) dX3_absorb_53 (fun r19 σ18 h => ?_)
        refine v_iadd C dX3_absorb_56 ?_
        refine v_nm (fun v20 ev20 => ?_)
        replace h := h v20 ev20
        refine v_istore C [(6, .int v20), (5, .int v15), (0, .ref (lad L k)), (1, .ref (lad L o1)), (2, .int a2), (3, .int x3), (4, .int x4)] dX3_absorb_57 (by decide) rfl ?_
        refine v_aload_n C dX3_absorb_59 rfl 2 rfl ?_
        refine g_3_counts C hk mF_X3_24 dX3_absorb_60 ?_
        refine v_iload C dX3_absorb_63 6 rfl ?_
        refine v_iload C dX3_absorb_65 1 rfl ?_
        obtain ⟨hi21, h⟩ := h
        refine v_iast C (c0 := 20) (by decide) (fun _ => rfl) (kd_3_1 hk) hi21 dX3_absorb_67 (fun σ22 eσ22 => ?_)
        replace h := h σ22 eσ22
        refine v_aload_n C dX3_absorb_68 rfl 2 rfl ?_
        refine g_3_slacks C hk mF_X3_28 dX3_absorb_69 ?_
        refine v_iload C dX3_absorb_72 6 rfl ?_
        refine v_iload C dX3_absorb_74 0 rfl ?_
        obtain ⟨hi23, h⟩ := h
        refine v_iast C (c0 := 20) (by decide) (fun _ => rfl) (kd_3_2 hk) hi23 dX3_absorb_76 (fun σ24 eσ24 => ?_)
        replace h := h σ24 eσ24
        refine v_aload_n C dX3_absorb_77 rfl 2 rfl ?_
        refine g_3_times C hk mF_X3_31 dX3_absorb_78 ?_
        refine v_iload C dX3_absorb_81 6 rfl ?_
        refine v_iload_n C dX3_absorb_83 rfl 4 rfl ?_
        obtain ⟨hi25, h⟩ := h
        refine v_iast C (c0 := 20) (by decide) (fun _ => rfl) (kd_3_3 hk) hi25 dX3_absorb_84 (fun σ26 eσ26 => ?_)
        replace h := h σ26 eσ26
        refine v_aload_n C dX3_absorb_85 rfl 2 rfl ?_
        refine g_3_came C hk mF_X3_34 dX3_absorb_86 ?_
        refine v_iload C dX3_absorb_89 6 rfl ?_
        refine v_dup2 C dX3_absorb_91 rfl rfl ?_
        obtain ⟨hi27, h⟩ := h
        refine v_iald C (c0 := 20) (by decide) rfl (kd_3_4 hk) hi27 dX3_absorb_92 ?_
        refine v_aload_n C dX3_absorb_93 rfl 3 rfl ?_
        refine g_3_came C ho1 mF_X3_34 dX3_absorb_94 ?_
        refine v_iload C dX3_absorb_97 6 rfl ?_
        obtain ⟨hi28, h⟩ := h
        refine v_iald C (c0 := 20) (by decide) rfl (kd_3_4 ho1) hi28 dX3_absorb_99 ?_
        refine v_iadd C dX3_absorb_100 ?_
        obtain ⟨hi29, h⟩ := h
        refine v_iast C (c0 := 20) (by decide) (fun _ => rfl) (kd_3_4 hk) hi29 dX3_absorb_101 (fun σ30 eσ30 => ?_)
        replace h := h σ30 eσ30
        refine v_iinc C [(4, .int (x4 + 1)), (6, .int v20), (5, .int v15), (0, .ref (lad L k)), (1, .ref (lad L o1)), (2, .int a2), (3, .int x3)] dX3_absorb_102 6 rfl rfl (by decide) rfl ?_
        refine v_goto C (tgt := 13) dX3_absorb_105 (by decide) ?_
        refine v_sub [3, 4, 5, 6, 0] rfl ?_
        exact ih _ _ _  h
def w_X3_absorb (k : Nat) (o1 : Nat) (a2 : Int32) (σ : Mem) (K : Int32 → Mem → Prop) : Prop := (∀ v1 : Int32, v1 = ((σ k 3) ||| (σ o1 3)) → (∃ n31, w_X3_absorb_13 k o1 a2 K  n31 v1 0 σ))
set_option maxHeartbeats 4000000 in
set_option maxRecDepth 100000 in
theorem c_X3_absorb (l : Launch) (L : Ly) (k : Nat) (o1 : Nat) (a2 : Int32) (σ : Mem) (K : Int32 → Mem → Prop) (hk : kd k = 3) (ho1 : kd o1 = 3) (h : w_X3_absorb k o1 a2 σ K) (sz : Nat) : Met l yX3_absorb (.code yX3_absorb cX3_absorb 7 (some .int) :: wA) rm_X3_absorb (va_Pc [.ref (lad L k), .ref (lad L o1), .int a2] (mB L sz σ)) (va_Qi K (mE L) (mA L sz)) 0 0 (mA L sz) := by
  refine v_start (own := RX3) [(0, .ref (lad L k)), (1, .ref (lad L o1)), (2, .int a2)] (by decide) rfl (Nat.le_of_ble_eq_true rfl) rfl (fun p e s m args below meth c C hret hlk => ?_)
  unfold w_X3_absorb at h
  refine v_aload_n C dX3_absorb_0 rfl 0 rfl ?_
  refine g_3_held C hk mF_X3_21 dX3_absorb_1 ?_
  refine v_aload_n C dX3_absorb_4 rfl 1 rfl ?_
  refine g_3_held C ho1 mF_X3_21 dX3_absorb_5 ?_
  refine v_ior C dX3_absorb_8 ?_
  refine v_nm (fun v1 ev1 => ?_)
  replace h := h v1 ev1
  refine v_istore_n C [(3, .int v1), (0, .ref (lad L k)), (1, .ref (lad L o1)), (2, .int a2)] dX3_absorb_9 rfl (by decide) rfl ?_
  refine v_iconst C (v := 0) dX3_absorb_10 rfl ?_
  refine v_istore C [(4, .int 0), (3, .int v1), (0, .ref (lad L k)), (1, .ref (lad L o1)), (2, .int a2)] dX3_absorb_11 (by decide) rfl ?_
  obtain ⟨n31, h⟩ := h
  refine v_sub [2, 3, 4, 1, 0] rfl ?_
  exact b_X3_absorb_13 C hret hlk k o1 a2 hk ho1 K   n31 _ _ _  h
theorem hd_X3_absorb : yX3_absorb.cls ≠ "java/lang/invoke/MethodHandle" ∧ yX3_absorb.cls ≠ "java/lang/invoke/VarHandle" ∧ (parseMethodDescriptor yX3_absorb.desc).map (fun d => d.parameters.length) = some 2 := by decide +kernel
theorem k_X3_absorb {p : Program} {l : Launch} {e : Env} {R : Room} {s : State} {m : MethodId} {args : Array Value} {below : List Frame} {meth : Method} {c : Code} {nL cells slots : Nat} {Q : State → Prop} {A : Nat → Prop} {L : Ly} {own : String} {cc : ByteArray} {σ : Mem} {pc idx : Nat} {lv : List (Nat × Value)} {st : List Value} {K : Int32 → Mem → Prop} (C : Cx p R s m args meth c own cc nL cells slots A L) (k : Nat) (o1 : Nat) (a2 : Int32) (hk : kd k = 3) (ho1 : kd o1 = 3) (h : w_X3_absorb k o1 a2 σ K) (hml : Cond.methodLink own idx yX3_absorb ∈ wA) (hR : rm_X3_absorb.frames + 1 ≤ R.frames ∧ 8 + (7 + 11) + rm_X3_absorb.locals ≤ R.locals) (hsum : (st.map fun v => v.category).sum ≤ 8) (d : decode cc pc = .ok (.invokevirtual idx, 3)) (kk : ∀ r σ1, K r σ1 → V p l e R s m args below meth c nL cells slots Q A L σ1 (pc + 3) lv (.int r :: st)) : V p l e R s m args below meth c nL cells slots Q A L σ pc lv (.int a2 :: .ref (lad L o1) :: .ref (lad L k) :: st) := v_callVi C [.ref (lad L o1), .int a2] (fun sz => c_X3_absorb l L k o1 a2 σ _ hk ho1 h sz) mC_X3_absorb mZ_X3 hd_X3_absorb mI_X3_absorb mS_X3_absorb rfl rfl (c0 := 3) (ci := 3) (by decide) rfl rfl rfl hk hml hR rfl hsum d kk
-- ===== RX3.lower
abbrev rm_X3_lower : Room := { frames := 1, cells := 0, slots := 0, locals := 21 }
def w_X3_lower (k : Nat) (a1 : Int32) (σ : Mem) (K : Int32 → Mem → Prop) : Prop := (w_X3_has k a1 σ (fun r2 σ1 => (br (r2 = 0) (K 0 σ1) (vp_in a1 26 ∧ (vp_in a1 26 ∧ (K ((σ1 (k + 1) (ix a1)) - (σ1 (k + 2) (ix a1))) σ1))))))
set_option maxHeartbeats 4000000 in
set_option maxRecDepth 100000 in
theorem c_X3_lower (l : Launch) (L : Ly) (k : Nat) (a1 : Int32) (σ : Mem) (K : Int32 → Mem → Prop) (hk : kd k = 3) (h : w_X3_lower k a1 σ K) (sz : Nat) : Met l yX3_lower (.code yX3_lower cX3_lower 2 (some .int) :: wA) rm_X3_lower (va_Pc [.ref (lad L k), .int a1] (mB L sz σ)) (va_Qi K (mE L) (mA L sz)) 0 0 (mA L sz) := by
  refine v_start (own := RX3) [(0, .ref (lad L k)), (1, .int a1)] (by decide) rfl (Nat.le_of_ble_eq_true rfl) rfl (fun p e s m args below meth c C hret hlk => ?_)
  unfold w_X3_lower at h
  refine v_aload_n C dX3_lower_0 rfl 0 rfl ?_
  refine v_iload_n C dX3_lower_1 rfl 1 rfl ?_
  refine k_X3_has C k a1 hk h mM_X3_43 ⟨Nat.le_of_ble_eq_true rfl, Nat.le_of_ble_eq_true rfl⟩ (Nat.le_of_ble_eq_true rfl) dX3_lower_2 (fun r2 σ1 h => ?_)
  refine v_if_eq C (tgt := 24) dX3_lower_5 (by decide) (fun hc => ?_) (fun hc => ?_)
  · replace h := h.1 hc
    refine v_iconst C (v := 0) dX3_lower_24 rfl ?_
    exact v_iret C dX3_lower_25 hret hlk h
  · replace h := h.2 hc
    refine v_aload_n C dX3_lower_8 rfl 0 rfl ?_
    refine g_3_counts C hk mF_X3_24 dX3_lower_9 ?_
    refine v_iload_n C dX3_lower_12 rfl 1 rfl ?_
    obtain ⟨hi3, h⟩ := h
    refine v_iald C (c0 := 20) (by decide) rfl (kd_3_1 hk) hi3 dX3_lower_13 ?_
    refine v_aload_n C dX3_lower_14 rfl 0 rfl ?_
    refine g_3_slacks C hk mF_X3_28 dX3_lower_15 ?_
    refine v_iload_n C dX3_lower_18 rfl 1 rfl ?_
    obtain ⟨hi4, h⟩ := h
    refine v_iald C (c0 := 20) (by decide) rfl (kd_3_2 hk) hi4 dX3_lower_19 ?_
    refine v_isub C dX3_lower_20 ?_
    refine v_goto C (tgt := 25) dX3_lower_21 (by decide) ?_
    exact v_iret C dX3_lower_25 hret hlk h
theorem hd_X3_lower : yX3_lower.cls ≠ "java/lang/invoke/MethodHandle" ∧ yX3_lower.cls ≠ "java/lang/invoke/VarHandle" ∧ (parseMethodDescriptor yX3_lower.desc).map (fun d => d.parameters.length) = some 1 := by decide +kernel
theorem k_X3_lower {p : Program} {l : Launch} {e : Env} {R : Room} {s : State} {m : MethodId} {args : Array Value} {below : List Frame} {meth : Method} {c : Code} {nL cells slots : Nat} {Q : State → Prop} {A : Nat → Prop} {L : Ly} {own : String} {cc : ByteArray} {σ : Mem} {pc idx : Nat} {lv : List (Nat × Value)} {st : List Value} {K : Int32 → Mem → Prop} (C : Cx p R s m args meth c own cc nL cells slots A L) (k : Nat) (a1 : Int32) (hk : kd k = 3) (h : w_X3_lower k a1 σ K) (hml : Cond.methodLink own idx yX3_lower ∈ wA) (hR : rm_X3_lower.frames + 1 ≤ R.frames ∧ 8 + (2 + 11) + rm_X3_lower.locals ≤ R.locals) (hsum : (st.map fun v => v.category).sum ≤ 8) (d : decode cc pc = .ok (.invokevirtual idx, 3)) (kk : ∀ r σ1, K r σ1 → V p l e R s m args below meth c nL cells slots Q A L σ1 (pc + 3) lv (.int r :: st)) : V p l e R s m args below meth c nL cells slots Q A L σ pc lv (.int a1 :: .ref (lad L k) :: st) := v_callVi C [.int a1] (fun sz => c_X3_lower l L k a1 σ _ hk h sz) mC_X3_lower mZ_X3 hd_X3_lower mI_X3_lower mS_X3_lower rfl rfl (c0 := 3) (ci := 3) (by decide) rfl rfl rfl hk hml hR rfl hsum d kk
-- ===== RX3.greatestSlack
abbrev rm_X3_greatestSlack : Room := { frames := 1, cells := 0, slots := 0, locals := 21 }
def w_X3_greatestSlack_4 (k : Nat) (K : Int32 → Mem → Prop)  : Nat → Int32 → Int32 → Mem → Prop
  | 0, _, _, _ => False
  | n + 1, x1, x2, σ => (br (26 ≤ x2) (K x1 σ) (w_X3_has k x2 σ (fun r2 σ1 => (br (r2 = 0) (w_X3_greatestSlack_4 k K  n x1 (x2 + 1) σ1) (vp_in x2 26 ∧ (∀ v4 : Int32, v4 = (if x1 < (σ1 (k + 2) (ix x2)) then (σ1 (k + 2) (ix x2)) else x1) → (w_X3_greatestSlack_4 k K  n v4 (x2 + 1) σ1)))))))
set_option maxHeartbeats 4000000 in
set_option maxRecDepth 100000 in
theorem b_X3_greatestSlack_4 {p : Program} {l : Launch} {e : Env} {s : State} {m : MethodId} {args : Array Value} {below : List Frame} {meth : Method} {c : Code} {L : Ly} {sz : Nat} (C : Cx p rm_X3_greatestSlack s m args meth c RX3 cX3_greatestSlack 3 0 0 (mA L sz) L) (hret : meth.sig.returnType = (some .int)) (hlk : meth.locks = false) (k : Nat) (hk : kd k = 3) (K : Int32 → Mem → Prop)  : ∀ (n : Nat) (x1 : Int32) (x2 : Int32) (σ : Mem), w_X3_greatestSlack_4 k K  n x1 x2 σ → V p l e rm_X3_greatestSlack s m args below meth c 3 0 0 (MQ below (va_Qi K (mE L) (mA L sz)) args s 0 0 (mA L sz)) (mA L sz) L σ 4 [(0, .ref (lad L k)), (1, .int x1), (2, .int x2)] [] := by
  intro n
  induction n with
  | zero => intro x1 x2 σ  h; exact h.elim
  | succ n ih =>
    intro x1 x2 σ  h
    rw [w_X3_greatestSlack_4] at h
    refine v_iload_n C dX3_greatestSlack_4 rfl 2 rfl ?_
    refine v_bipush C (v := 26) dX3_greatestSlack_5 rfl ?_
    refine v_icmp_ge C (tgt := 35) dX3_greatestSlack_7 (by decide) (fun hc => ?_) (fun hc => ?_)
    · replace h := h.1 hc
      refine v_iload_n C dX3_greatestSlack_35 rfl 1 rfl ?_
      exact v_iret C dX3_greatestSlack_36 hret hlk h
    · replace h := h.2 hc
      refine v_aload_n C dX3_greatestSlack_10 rfl 0 rfl ?_
      refine v_iload_n C dX3_greatestSlack_11 rfl 2 rfl ?_
      refine k_X3_has C k x2 hk h mM_X3_43 ⟨Nat.le_of_ble_eq_true rfl, Nat.le_of_ble_eq_true rfl⟩ (Nat.le_of_ble_eq_true rfl) dX3_greatestSlack_12 (fun r2 σ1 h => ?_)
      refine v_if_eq C (tgt := 29) dX3_greatestSlack_15 (by decide) (fun hc => ?_) (fun hc => ?_)
      · replace h := h.1 hc
        refine v_iinc C [(2, .int (x2 + 1)), (0, .ref (lad L k)), (1, .int x1)] dX3_greatestSlack_29 2 rfl rfl (by decide) rfl ?_
        refine v_goto C (tgt := 4) dX3_greatestSlack_32 (by decide) ?_
        refine v_sub [1, 2, 0] rfl ?_
        exact ih _ _ _  h
      · replace h := h.2 hc
        refine v_iload_n C dX3_greatestSlack_18 rfl 1 rfl ?_
        refine v_aload_n C dX3_greatestSlack_19 rfl 0 rfl ?_
        refine g_3_slacks C hk mF_X3_28 dX3_greatestSlack_20 ?_
        refine v_iload_n C dX3_greatestSlack_23 rfl 2 rfl ?_
        obtain ⟨hi3, h⟩ := h
        refine v_iald C (c0 := 20) (by decide) rfl (kd_3_2 hk) hi3 dX3_greatestSlack_24 ?_
        refine v_mmax C mM_X3_68 (by decide) (Nat.le_of_ble_eq_true rfl) dX3_greatestSlack_25 ?_
        refine v_nm (fun v4 ev4 => ?_)
        replace h := h v4 ev4
        refine v_istore_n C [(1, .int v4), (0, .ref (lad L k)), (2, .int x2)] dX3_greatestSlack_28 rfl (by decide) rfl ?_
        refine v_iinc C [(2, .int (x2 + 1)), (1, .int v4), (0, .ref (lad L k))] dX3_greatestSlack_29 2 rfl rfl (by decide) rfl ?_
        refine v_goto C (tgt := 4) dX3_greatestSlack_32 (by decide) ?_
        refine v_sub [2, 1, 0] rfl ?_
        exact ih _ _ _  h
def w_X3_greatestSlack (k : Nat) (σ : Mem) (K : Int32 → Mem → Prop) : Prop := (∃ n5, w_X3_greatestSlack_4 k K  n5 0 0 σ)
set_option maxHeartbeats 4000000 in
set_option maxRecDepth 100000 in
theorem c_X3_greatestSlack (l : Launch) (L : Ly) (k : Nat) (σ : Mem) (K : Int32 → Mem → Prop) (hk : kd k = 3) (h : w_X3_greatestSlack k σ K) (sz : Nat) : Met l yX3_greatestSlack (.code yX3_greatestSlack cX3_greatestSlack 3 (some .int) :: wA) rm_X3_greatestSlack (va_Pc [.ref (lad L k)] (mB L sz σ)) (va_Qi K (mE L) (mA L sz)) 0 0 (mA L sz) := by
  refine v_start (own := RX3) [(0, .ref (lad L k))] (by decide) rfl (Nat.le_of_ble_eq_true rfl) rfl (fun p e s m args below meth c C hret hlk => ?_)
  unfold w_X3_greatestSlack at h
  refine v_iconst C (v := 0) dX3_greatestSlack_0 rfl ?_
  refine v_istore_n C [(1, .int 0), (0, .ref (lad L k))] dX3_greatestSlack_1 rfl (by decide) rfl ?_
  refine v_iconst C (v := 0) dX3_greatestSlack_2 rfl ?_
  refine v_istore_n C [(2, .int 0), (1, .int 0), (0, .ref (lad L k))] dX3_greatestSlack_3 rfl (by decide) rfl ?_
  obtain ⟨n5, h⟩ := h
  refine v_sub [2, 1, 0] rfl ?_
  exact b_X3_greatestSlack_4 C hret hlk k hk K   n5 _ _ _  h
theorem hd_X3_greatestSlack : yX3_greatestSlack.cls ≠ "java/lang/invoke/MethodHandle" ∧ yX3_greatestSlack.cls ≠ "java/lang/invoke/VarHandle" ∧ (parseMethodDescriptor yX3_greatestSlack.desc).map (fun d => d.parameters.length) = some 0 := by decide +kernel
theorem k_X3_greatestSlack {p : Program} {l : Launch} {e : Env} {R : Room} {s : State} {m : MethodId} {args : Array Value} {below : List Frame} {meth : Method} {c : Code} {nL cells slots : Nat} {Q : State → Prop} {A : Nat → Prop} {L : Ly} {own : String} {cc : ByteArray} {σ : Mem} {pc idx : Nat} {lv : List (Nat × Value)} {st : List Value} {K : Int32 → Mem → Prop} (C : Cx p R s m args meth c own cc nL cells slots A L) (k : Nat) (hk : kd k = 3) (h : w_X3_greatestSlack k σ K) (hml : Cond.methodLink own idx yX3_greatestSlack ∈ wA) (hR : rm_X3_greatestSlack.frames + 1 ≤ R.frames ∧ 8 + (3 + 11) + rm_X3_greatestSlack.locals ≤ R.locals) (hsum : (st.map fun v => v.category).sum ≤ 8) (d : decode cc pc = .ok (.invokevirtual idx, 3)) (kk : ∀ r σ1, K r σ1 → V p l e R s m args below meth c nL cells slots Q A L σ1 (pc + 3) lv (.int r :: st)) : V p l e R s m args below meth c nL cells slots Q A L σ pc lv (.ref (lad L k) :: st) := v_callVi C [] (fun sz => c_X3_greatestSlack l L k σ _ hk h sz) mC_X3_greatestSlack mZ_X3 hd_X3_greatestSlack mI_X3_greatestSlack mS_X3_greatestSlack rfl rfl (c0 := 3) (ci := 3) (by decide) rfl rfl rfl hk hml hR rfl hsum d kk
-- ===== RX3.lettersThatCame
abbrev rm_X3_lettersThatCame : Room := { frames := 0, cells := 0, slots := 0, locals := 0 }
def w_X3_lettersThatCame_4 (k : Nat) (K : Int32 → Mem → Prop)  : Nat → Int32 → Int32 → Mem → Prop
  | 0, _, _, _ => False
  | n + 1, x1, x2, σ => (br (26 ≤ x2) (K x1 σ) (vp_in x2 26 ∧ (br ((σ (k + 4) (ix x2)) ≤ 0) (w_X3_lettersThatCame_4 k K  n x1 (x2 + 1) σ) (∀ v2 : Int32, v2 = (x1 ||| (1 <<< (x2 &&& 31))) → (w_X3_lettersThatCame_4 k K  n v2 (x2 + 1) σ)))))
set_option maxHeartbeats 4000000 in
set_option maxRecDepth 100000 in
theorem b_X3_lettersThatCame_4 {p : Program} {l : Launch} {e : Env} {s : State} {m : MethodId} {args : Array Value} {below : List Frame} {meth : Method} {c : Code} {L : Ly} {sz : Nat} (C : Cx p rm_X3_lettersThatCame s m args meth c RX3 cX3_lettersThatCame 3 0 0 (mA L sz) L) (hret : meth.sig.returnType = (some .int)) (hlk : meth.locks = false) (k : Nat) (hk : kd k = 3) (K : Int32 → Mem → Prop)  : ∀ (n : Nat) (x1 : Int32) (x2 : Int32) (σ : Mem), w_X3_lettersThatCame_4 k K  n x1 x2 σ → V p l e rm_X3_lettersThatCame s m args below meth c 3 0 0 (MQ below (va_Qi K (mE L) (mA L sz)) args s 0 0 (mA L sz)) (mA L sz) L σ 4 [(0, .ref (lad L k)), (1, .int x1), (2, .int x2)] [] := by
  intro n
  induction n with
  | zero => intro x1 x2 σ  h; exact h.elim
  | succ n ih =>
    intro x1 x2 σ  h
    rw [w_X3_lettersThatCame_4] at h
    refine v_iload_n C dX3_lettersThatCame_4 rfl 2 rfl ?_
    refine v_bipush C (v := 26) dX3_lettersThatCame_5 rfl ?_
    refine v_icmp_ge C (tgt := 31) dX3_lettersThatCame_7 (by decide) (fun hc => ?_) (fun hc => ?_)
    · replace h := h.1 hc
      refine v_iload_n C dX3_lettersThatCame_31 rfl 1 rfl ?_
      exact v_iret C dX3_lettersThatCame_32 hret hlk h
    · replace h := h.2 hc
      refine v_aload_n C dX3_lettersThatCame_10 rfl 0 rfl ?_
      refine g_3_came C hk mF_X3_34 dX3_lettersThatCame_11 ?_
      refine v_iload_n C dX3_lettersThatCame_14 rfl 2 rfl ?_
      obtain ⟨hi1, h⟩ := h
      refine v_iald C (c0 := 20) (by decide) rfl (kd_3_4 hk) hi1 dX3_lettersThatCame_15 ?_
      refine v_if_le C (tgt := 25) dX3_lettersThatCame_16 (by decide) (fun hc => ?_) (fun hc => ?_)
      · replace h := h.1 hc
        refine v_iinc C [(2, .int (x2 + 1)), (0, .ref (lad L k)), (1, .int x1)] dX3_lettersThatCame_25 2 rfl rfl (by decide) rfl ?_
        refine v_goto C (tgt := 4) dX3_lettersThatCame_28 (by decide) ?_
        refine v_sub [1, 2, 0] rfl ?_
        exact ih _ _ _  h
      · replace h := h.2 hc
        refine v_iload_n C dX3_lettersThatCame_19 rfl 1 rfl ?_
        refine v_iconst C (v := 1) dX3_lettersThatCame_20 rfl ?_
        refine v_iload_n C dX3_lettersThatCame_21 rfl 2 rfl ?_
        refine v_ishl C dX3_lettersThatCame_22 ?_
        refine v_ior C dX3_lettersThatCame_23 ?_
        refine v_nm (fun v2 ev2 => ?_)
        replace h := h v2 ev2
        refine v_istore_n C [(1, .int v2), (0, .ref (lad L k)), (2, .int x2)] dX3_lettersThatCame_24 rfl (by decide) rfl ?_
        refine v_iinc C [(2, .int (x2 + 1)), (1, .int v2), (0, .ref (lad L k))] dX3_lettersThatCame_25 2 rfl rfl (by decide) rfl ?_
        refine v_goto C (tgt := 4) dX3_lettersThatCame_28 (by decide) ?_
        refine v_sub [2, 1, 0] rfl ?_
        exact ih _ _ _  h
def w_X3_lettersThatCame (k : Nat) (σ : Mem) (K : Int32 → Mem → Prop) : Prop := (∃ n3, w_X3_lettersThatCame_4 k K  n3 0 0 σ)
set_option maxHeartbeats 4000000 in
set_option maxRecDepth 100000 in
theorem c_X3_lettersThatCame (l : Launch) (L : Ly) (k : Nat) (σ : Mem) (K : Int32 → Mem → Prop) (hk : kd k = 3) (h : w_X3_lettersThatCame k σ K) (sz : Nat) : Met l yX3_lettersThatCame (.code yX3_lettersThatCame cX3_lettersThatCame 3 (some .int) :: wA) rm_X3_lettersThatCame (va_Pc [.ref (lad L k)] (mB L sz σ)) (va_Qi K (mE L) (mA L sz)) 0 0 (mA L sz) := by
  refine v_start (own := RX3) [(0, .ref (lad L k))] (by decide) rfl (Nat.le_of_ble_eq_true rfl) rfl (fun p e s m args below meth c C hret hlk => ?_)
  unfold w_X3_lettersThatCame at h
  refine v_iconst C (v := 0) dX3_lettersThatCame_0 rfl ?_
  refine v_istore_n C [(1, .int 0), (0, .ref (lad L k))] dX3_lettersThatCame_1 rfl (by decide) rfl ?_
  refine v_iconst C (v := 0) dX3_lettersThatCame_2 rfl ?_
  refine v_istore_n C [(2, .int 0), (1, .int 0), (0, .ref (lad L k))] dX3_lettersThatCame_3 rfl (by decide) rfl ?_
  obtain ⟨n3, h⟩ := h
  refine v_sub [2, 1, 0] rfl ?_
  exact b_X3_lettersThatCame_4 C hret hlk k hk K   n3 _ _ _  h
theorem hd_X3_lettersThatCame : yX3_lettersThatCame.cls ≠ "java/lang/invoke/MethodHandle" ∧ yX3_lettersThatCame.cls ≠ "java/lang/invoke/VarHandle" ∧ (parseMethodDescriptor yX3_lettersThatCame.desc).map (fun d => d.parameters.length) = some 0 := by decide +kernel
theorem k_X3_lettersThatCame {p : Program} {l : Launch} {e : Env} {R : Room} {s : State} {m : MethodId} {args : Array Value} {below : List Frame} {meth : Method} {c : Code} {nL cells slots : Nat} {Q : State → Prop} {A : Nat → Prop} {L : Ly} {own : String} {cc : ByteArray} {σ : Mem} {pc idx : Nat} {lv : List (Nat × Value)} {st : List Value} {K : Int32 → Mem → Prop} (C : Cx p R s m args meth c own cc nL cells slots A L) (k : Nat) (hk : kd k = 3) (h : w_X3_lettersThatCame k σ K) (hml : Cond.methodLink own idx yX3_lettersThatCame ∈ wA) (hR : rm_X3_lettersThatCame.frames + 1 ≤ R.frames ∧ 8 + (3 + 11) + rm_X3_lettersThatCame.locals ≤ R.locals) (hsum : (st.map fun v => v.category).sum ≤ 8) (d : decode cc pc = .ok (.invokevirtual idx, 3)) (kk : ∀ r σ1, K r σ1 → V p l e R s m args below meth c nL cells slots Q A L σ1 (pc + 3) lv (.int r :: st)) : V p l e R s m args below meth c nL cells slots Q A L σ pc lv (.ref (lad L k) :: st) := v_callVi C [] (fun sz => c_X3_lettersThatCame l L k σ _ hk h sz) mC_X3_lettersThatCame mZ_X3 hd_X3_lettersThatCame mI_X3_lettersThatCame mS_X3_lettersThatCame rfl rfl (c0 := 3) (ci := 3) (by decide) rfl rfl rfl hk hml hR rfl hsum d kk
-- ===== RX3.placeOf
abbrev rm_X3_placeOf : Room := { frames := 1, cells := 0, slots := 0, locals := 21 }
def w_X3_placeOf_4 (k : Nat) (a1 : Int32) (K : Int32 → Mem → Prop)  : Nat → Int32 → Int32 → Mem → Prop
  | 0, _, _, _ => False
  | n + 1, x2, x3, σ => (br (26 ≤ x3) (K x2 σ) (w_X3_has k x3 σ (fun r2 σ1 => (br (r2 = 0) (w_X3_placeOf_4 k a1 K  n x2 (x3 + 1) σ1) (vp_in x3 26 ∧ (vp_in a1 26 ∧ (br ((σ1 (k + 1) (ix a1)) < (σ1 (k + 1) (ix x3))) (w_X3_placeOf_4 k a1 K  n (x2 + 1) (x3 + 1) σ1) (vp_in x3 26 ∧ (vp_in a1 26 ∧ (br ((σ1 (k + 1) (ix x3)) = (σ1 (k + 1) (ix a1))) (br (a1 ≤ x3) (w_X3_placeOf_4 k a1 K  n x2 (x3 + 1) σ1) (w_X3_placeOf_4 k a1 K  n (x2 + 1) (x3 + 1) σ1)) (w_X3_placeOf_4 k a1 K  n x2 (x3 + 1) σ1)))))))))))
set_option maxHeartbeats 4000000 in
set_option maxRecDepth 100000 in
theorem b_X3_placeOf_4 {p : Program} {l : Launch} {e : Env} {s : State} {m : MethodId} {args : Array Value} {below : List Frame} {meth : Method} {c : Code} {L : Ly} {sz : Nat} (C : Cx p rm_X3_placeOf s m args meth c RX3 cX3_placeOf 4 0 0 (mA L sz) L) (hret : meth.sig.returnType = (some .int)) (hlk : meth.locks = false) (k : Nat) (a1 : Int32) (hk : kd k = 3) (K : Int32 → Mem → Prop)  : ∀ (n : Nat) (x2 : Int32) (x3 : Int32) (σ : Mem), w_X3_placeOf_4 k a1 K  n x2 x3 σ → V p l e rm_X3_placeOf s m args below meth c 4 0 0 (MQ below (va_Qi K (mE L) (mA L sz)) args s 0 0 (mA L sz)) (mA L sz) L σ 4 [(0, .ref (lad L k)), (1, .int a1), (2, .int x2), (3, .int x3)] [] := by
  intro n
  induction n with
  | zero => intro x2 x3 σ  h; exact h.elim
  | succ n ih =>
    intro x2 x3 σ  h
    rw [w_X3_placeOf_4] at h
    refine v_iload_n C dX3_placeOf_4 rfl 3 rfl ?_
    refine v_bipush C (v := 26) dX3_placeOf_5 rfl ?_
    refine v_icmp_ge C (tgt := 62) dX3_placeOf_7 (by decide) (fun hc => ?_) (fun hc => ?_)
    · replace h := h.1 hc
      refine v_iload_n C dX3_placeOf_62 rfl 2 rfl ?_
      exact v_iret C dX3_placeOf_63 hret hlk h
    · replace h := h.2 hc
      refine v_aload_n C dX3_placeOf_10 rfl 0 rfl ?_
      refine v_iload_n C dX3_placeOf_11 rfl 3 rfl ?_
      refine k_X3_has C k x3 hk h mM_X3_43 ⟨Nat.le_of_ble_eq_true rfl, Nat.le_of_ble_eq_true rfl⟩ (Nat.le_of_ble_eq_true rfl) dX3_placeOf_12 (fun r2 σ1 h => ?_)
      refine v_if_eq C (tgt := 56) dX3_placeOf_15 (by decide) (fun hc => ?_) (fun hc => ?_)
      · replace h := h.1 hc
        refine v_iinc C [(3, .int (x3 + 1)), (0, .ref (lad L k)), (1, .int a1), (2, .int x2)] dX3_placeOf_56 3 rfl rfl (by decide) rfl ?_
        refine v_goto C (tgt := 4) dX3_placeOf_59 (by decide) ?_
        refine v_sub [1, 2, 3, 0] rfl ?_
        exact ih _ _ _  h
      · replace h := h.2 hc
        refine v_aload_n C dX3_placeOf_18 rfl 0 rfl ?_
        refine g_3_counts C hk mF_X3_24 dX3_placeOf_19 ?_
        refine v_iload_n C dX3_placeOf_22 rfl 3 rfl ?_
        obtain ⟨hi3, h⟩ := h
        refine v_iald C (c0 := 20) (by decide) rfl (kd_3_1 hk) hi3 dX3_placeOf_23 ?_
        refine v_aload_n C dX3_placeOf_24 rfl 0 rfl ?_
        refine g_3_counts C hk mF_X3_24 dX3_placeOf_25 ?_
        refine v_iload_n C dX3_placeOf_28 rfl 1 rfl ?_
        obtain ⟨hi4, h⟩ := h
        refine v_iald C (c0 := 20) (by decide) rfl (kd_3_1 hk) hi4 dX3_placeOf_29 ?_
        refine v_icmp_gt C (tgt := 53) dX3_placeOf_30 (by decide) (fun hc => ?_) (fun hc => ?_)
        · replace h := h.1 hc
          refine v_iinc C [(2, .int (x2 + 1)), (0, .ref (lad L k)), (1, .int a1), (3, .int x3)] dX3_placeOf_53 2 rfl rfl (by decide) rfl ?_
          refine v_iinc C [(3, .int (x3 + 1)), (2, .int (x2 + 1)), (0, .ref (lad L k)), (1, .int a1)] dX3_placeOf_56 3 rfl rfl (by decide) rfl ?_
          refine v_goto C (tgt := 4) dX3_placeOf_59 (by decide) ?_
          refine v_sub [2, 3, 1, 0] rfl ?_
          exact ih _ _ _  h
        · replace h := h.2 hc
          refine v_aload_n C dX3_placeOf_33 rfl 0 rfl ?_
          refine g_3_counts C hk mF_X3_24 dX3_placeOf_34 ?_
          refine v_iload_n C dX3_placeOf_37 rfl 3 rfl ?_
          obtain ⟨hi5, h⟩ := h
          refine v_iald C (c0 := 20) (by decide) rfl (kd_3_1 hk) hi5 dX3_placeOf_38 ?_
          refine v_aload_n C dX3_placeOf_39 rfl 0 rfl ?_
          refine g_3_counts C hk mF_X3_24 dX3_placeOf_40 ?_
          refine v_iload_n C dX3_placeOf_43 rfl 1 rfl ?_
          obtain ⟨hi6, h⟩ := h
          refine v_iald C (c0 := 20) (by decide) rfl (kd_3_1 hk) hi6 dX3_placeOf_44 ?_
          refine v_icmp_ne C (tgt := 56) dX3_placeOf_45 (by decide) (fun hc => ?_) (fun hc => ?_)
          · replace h := h.2 hc
            refine v_iinc C [(3, .int (x3 + 1)), (0, .ref (lad L k)), (1, .int a1), (2, .int x2)] dX3_placeOf_56 3 rfl rfl (by decide) rfl ?_
            refine v_goto C (tgt := 4) dX3_placeOf_59 (by decide) ?_
            refine v_sub [1, 2, 3, 0] rfl ?_
            exact ih _ _ _  h
          · replace h := h.1 hc
            refine v_iload_n C dX3_placeOf_48 rfl 3 rfl ?_
            refine v_iload_n C dX3_placeOf_49 rfl 1 rfl ?_
            refine v_icmp_ge C (tgt := 56) dX3_placeOf_50 (by decide) (fun hc => ?_) (fun hc => ?_)
            · replace h := h.1 hc
              refine v_iinc C [(3, .int (x3 + 1)), (0, .ref (lad L k)), (1, .int a1), (2, .int x2)] dX3_placeOf_56 3 rfl rfl (by decide) rfl ?_
              refine v_goto C (tgt := 4) dX3_placeOf_59 (by decide) ?_
              refine v_sub [1, 2, 3, 0] rfl ?_
              exact ih _ _ _  h
            · replace h := h.2 hc
              refine v_iinc C [(2, .int (x2 + 1)), (0, .ref (lad L k)), (1, .int a1), (3, .int x3)] dX3_placeOf_53 2 rfl rfl (by decide) rfl ?_
              refine v_iinc C [(3, .int (x3 + 1)), (2, .int (x2 + 1)), (0, .ref (lad L k)), (1, .int a1)] dX3_placeOf_56 3 rfl rfl (by decide) rfl ?_
              refine v_goto C (tgt := 4) dX3_placeOf_59 (by decide) ?_
              refine v_sub [2, 3, 1, 0] rfl ?_
              exact ih _ _ _  h
def w_X3_placeOf (k : Nat) (a1 : Int32) (σ : Mem) (K : Int32 → Mem → Prop) : Prop := (∃ n7, w_X3_placeOf_4 k a1 K  n7 0 0 σ)
set_option maxHeartbeats 4000000 in
set_option maxRecDepth 100000 in
theorem c_X3_placeOf (l : Launch) (L : Ly) (k : Nat) (a1 : Int32) (σ : Mem) (K : Int32 → Mem → Prop) (hk : kd k = 3) (h : w_X3_placeOf k a1 σ K) (sz : Nat) : Met l yX3_placeOf (.code yX3_placeOf cX3_placeOf 4 (some .int) :: wA) rm_X3_placeOf (va_Pc [.ref (lad L k), .int a1] (mB L sz σ)) (va_Qi K (mE L) (mA L sz)) 0 0 (mA L sz) := by
  refine v_start (own := RX3) [(0, .ref (lad L k)), (1, .int a1)] (by decide) rfl (Nat.le_of_ble_eq_true rfl) rfl (fun p e s m args below meth c C hret hlk => ?_)
  unfold w_X3_placeOf at h
  refine v_iconst C (v := 0) dX3_placeOf_0 rfl ?_
  refine v_istore_n C [(2, .int 0), (0, .ref (lad L k)), (1, .int a1)] dX3_placeOf_1 rfl (by decide) rfl ?_
  refine v_iconst C (v := 0) dX3_placeOf_2 rfl ?_
  refine v_istore_n C [(3, .int 0), (2, .int 0), (0, .ref (lad L k)), (1, .int a1)] dX3_placeOf_3 rfl (by decide) rfl ?_
  obtain ⟨n7, h⟩ := h
  refine v_sub [2, 3, 1, 0] rfl ?_
  exact b_X3_placeOf_4 C hret hlk k a1 hk K   n7 _ _ _  h
theorem hd_X3_placeOf : yX3_placeOf.cls ≠ "java/lang/invoke/MethodHandle" ∧ yX3_placeOf.cls ≠ "java/lang/invoke/VarHandle" ∧ (parseMethodDescriptor yX3_placeOf.desc).map (fun d => d.parameters.length) = some 1 := by decide +kernel
theorem k_X3_placeOf {p : Program} {l : Launch} {e : Env} {R : Room} {s : State} {m : MethodId} {args : Array Value} {below : List Frame} {meth : Method} {c : Code} {nL cells slots : Nat} {Q : State → Prop} {A : Nat → Prop} {L : Ly} {own : String} {cc : ByteArray} {σ : Mem} {pc idx : Nat} {lv : List (Nat × Value)} {st : List Value} {K : Int32 → Mem → Prop} (C : Cx p R s m args meth c own cc nL cells slots A L) (k : Nat) (a1 : Int32) (hk : kd k = 3) (h : w_X3_placeOf k a1 σ K) (hml : Cond.methodLink own idx yX3_placeOf ∈ wA) (hR : rm_X3_placeOf.frames + 1 ≤ R.frames ∧ 8 + (4 + 11) + rm_X3_placeOf.locals ≤ R.locals) (hsum : (st.map fun v => v.category).sum ≤ 8) (d : decode cc pc = .ok (.invokevirtual idx, 3)) (kk : ∀ r σ1, K r σ1 → V p l e R s m args below meth c nL cells slots Q A L σ1 (pc + 3) lv (.int r :: st)) : V p l e R s m args below meth c nL cells slots Q A L σ pc lv (.int a1 :: .ref (lad L k) :: st) := v_callVi C [.int a1] (fun sz => c_X3_placeOf l L k a1 σ _ hk h sz) mC_X3_placeOf mZ_X3 hd_X3_placeOf mI_X3_placeOf mS_X3_placeOf rfl rfl (c0 := 3) (ci := 3) (by decide) rfl rfl rfl hk hml hR rfl hsum d kk
-- ===== RX3.letterAt
abbrev rm_X3_letterAt : Room := { frames := 2, cells := 0, slots := 0, locals := 44 }
def w_X3_letterAt_2 (k : Nat) (a1 : Int32) (K : Int32 → Mem → Prop)  : Nat → Int32 → Mem → Prop
  | 0, _, _ => False
  | n + 1, x2, σ => (br (26 ≤ x2) (K (-1) σ) (w_X3_has k x2 σ (fun r2 σ1 => (br (r2 = 0) (w_X3_letterAt_2 k a1 K  n (x2 + 1) σ1) (w_X3_placeOf k x2 σ1 (fun r4 σ3 => (br (r4 = a1) (K x2 σ3) (w_X3_letterAt_2 k a1 K  n (x2 + 1) σ3))))))))
set_option maxHeartbeats 4000000 in
set_option maxRecDepth 100000 in
theorem b_X3_letterAt_2 {p : Program} {l : Launch} {e : Env} {s : State} {m : MethodId} {args : Array Value} {below : List Frame} {meth : Method} {c : Code} {L : Ly} {sz : Nat} (C : Cx p rm_X3_letterAt s m args meth c RX3 cX3_letterAt 3 0 0 (mA L sz) L) (hret : meth.sig.returnType = (some .int)) (hlk : meth.locks = false) (k : Nat) (a1 : Int32) (hk : kd k = 3) (K : Int32 → Mem → Prop)  : ∀ (n : Nat) (x2 : Int32) (σ : Mem), w_X3_letterAt_2 k a1 K  n x2 σ → V p l e rm_X3_letterAt s m args below meth c 3 0 0 (MQ below (va_Qi K (mE L) (mA L sz)) args s 0 0 (mA L sz)) (mA L sz) L σ 2 [(0, .ref (lad L k)), (1, .int a1), (2, .int x2)] [] := by
  intro n
  induction n with
  | zero => intro x2 σ  h; exact h.elim
  | succ n ih =>
    intro x2 σ  h
    rw [w_X3_letterAt_2] at h
    refine v_iload_n C dX3_letterAt_2 rfl 2 rfl ?_
    refine v_bipush C (v := 26) dX3_letterAt_3 rfl ?_
    refine v_icmp_ge C (tgt := 33) dX3_letterAt_5 (by decide) (fun hc => ?_) (fun hc => ?_)
    · replace h := h.1 hc
      refine v_iconst C (v := (-1)) dX3_letterAt_33 rfl ?_
      exact v_iret C dX3_letterAt_34 hret hlk h
    · replace h := h.2 hc
      refine v_aload_n C dX3_letterAt_8 rfl 0 rfl ?_
      refine v_iload_n C dX3_letterAt_9 rfl 2 rfl ?_
      refine k_X3_has C k x2 hk h mM_X3_43 ⟨Nat.le_of_ble_eq_true rfl, Nat.le_of_ble_eq_true rfl⟩ (Nat.le_of_ble_eq_true rfl) dX3_letterAt_10 (fun r2 σ1 h => ?_)
      refine v_if_eq C (tgt := 27) dX3_letterAt_13 (by decide) (fun hc => ?_) (fun hc => ?_)
      · replace h := h.1 hc
        refine v_iinc C [(2, .int (x2 + 1)), (0, .ref (lad L k)), (1, .int a1)] dX3_letterAt_27 2 rfl rfl (by decide) rfl ?_
        refine v_goto C (tgt := 2) dX3_letterAt_30 (by decide) ?_
        refine v_sub [1, 2, 0] rfl ?_
        exact ih _ _  h
      · replace h := h.2 hc
        refine v_aload_n C dX3_letterAt_16 rfl 0 rfl ?_
        refine v_iload_n C dX3_letterAt_17 rfl 2 rfl ?_
        refine k_X3_placeOf C k x2 hk h mM_X3_92 ⟨Nat.le_of_ble_eq_true rfl, Nat.le_of_ble_eq_true rfl⟩ (Nat.le_of_ble_eq_true rfl) dX3_letterAt_18 (fun r4 σ3 h => ?_)
        refine v_iload_n C dX3_letterAt_21 rfl 1 rfl ?_
        refine v_icmp_ne C (tgt := 27) dX3_letterAt_22 (by decide) (fun hc => ?_) (fun hc => ?_)
        · replace h := h.2 hc
          refine v_iinc C [(2, .int (x2 + 1)), (0, .ref (lad L k)), (1, .int a1)] dX3_letterAt_27 2 rfl rfl (by decide) rfl ?_
          refine v_goto C (tgt := 2) dX3_letterAt_30 (by decide) ?_
          refine v_sub [1, 2, 0] rfl ?_
          exact ih _ _  h
        · replace h := h.1 hc
          refine v_iload_n C dX3_letterAt_25 rfl 2 rfl ?_
          exact v_iret C dX3_letterAt_26 hret hlk h
def w_X3_letterAt (k : Nat) (a1 : Int32) (σ : Mem) (K : Int32 → Mem → Prop) : Prop := (∃ n5, w_X3_letterAt_2 k a1 K  n5 0 σ)
set_option maxHeartbeats 4000000 in
set_option maxRecDepth 100000 in
theorem c_X3_letterAt (l : Launch) (L : Ly) (k : Nat) (a1 : Int32) (σ : Mem) (K : Int32 → Mem → Prop) (hk : kd k = 3) (h : w_X3_letterAt k a1 σ K) (sz : Nat) : Met l yX3_letterAt (.code yX3_letterAt cX3_letterAt 3 (some .int) :: wA) rm_X3_letterAt (va_Pc [.ref (lad L k), .int a1] (mB L sz σ)) (va_Qi K (mE L) (mA L sz)) 0 0 (mA L sz) := by
  refine v_start (own := RX3) [(0, .ref (lad L k)), (1, .int a1)] (by decide) rfl (Nat.le_of_ble_eq_true rfl) rfl (fun p e s m args below meth c C hret hlk => ?_)
  unfold w_X3_letterAt at h
  refine v_iconst C (v := 0) dX3_letterAt_0 rfl ?_
  refine v_istore_n C [(2, .int 0), (0, .ref (lad L k)), (1, .int a1)] dX3_letterAt_1 rfl (by decide) rfl ?_
  obtain ⟨n5, h⟩ := h
  refine v_sub [1, 2, 0] rfl ?_
  exact b_X3_letterAt_2 C hret hlk k a1 hk K   n5 _ _  h
theorem hd_X3_letterAt : yX3_letterAt.cls ≠ "java/lang/invoke/MethodHandle" ∧ yX3_letterAt.cls ≠ "java/lang/invoke/VarHandle" ∧ (parseMethodDescriptor yX3_letterAt.desc).map (fun d => d.parameters.length) = some 1 := by decide +kernel
theorem k_X3_letterAt {p : Program} {l : Launch} {e : Env} {R : Room} {s : State} {m : MethodId} {args : Array Value} {below : List Frame} {meth : Method} {c : Code} {nL cells slots : Nat} {Q : State → Prop} {A : Nat → Prop} {L : Ly} {own : String} {cc : ByteArray} {σ : Mem} {pc idx : Nat} {lv : List (Nat × Value)} {st : List Value} {K : Int32 → Mem → Prop} (C : Cx p R s m args meth c own cc nL cells slots A L) (k : Nat) (a1 : Int32) (hk : kd k = 3) (h : w_X3_letterAt k a1 σ K) (hml : Cond.methodLink own idx yX3_letterAt ∈ wA) (hR : rm_X3_letterAt.frames + 1 ≤ R.frames ∧ 8 + (3 + 11) + rm_X3_letterAt.locals ≤ R.locals) (hsum : (st.map fun v => v.category).sum ≤ 8) (d : decode cc pc = .ok (.invokevirtual idx, 3)) (kk : ∀ r σ1, K r σ1 → V p l e R s m args below meth c nL cells slots Q A L σ1 (pc + 3) lv (.int r :: st)) : V p l e R s m args below meth c nL cells slots Q A L σ pc lv (.int a1 :: .ref (lad L k) :: st) := v_callVi C [.int a1] (fun sz => c_X3_letterAt l L k a1 σ _ hk h sz) mC_X3_letterAt mZ_X3 hd_X3_letterAt mI_X3_letterAt mS_X3_letterAt rfl rfl (c0 := 3) (ci := 3) (by decide) rfl rfl rfl hk hml hR rfl hsum d kk
-- ===== RX3.lettersAhead
abbrev rm_X3_lettersAhead : Room := { frames := 2, cells := 0, slots := 0, locals := 42 }
def w_X3_lettersAhead_50 (k : Nat) (a1 : Int32) (a2 : Int32) (K : Int32 → Mem → Prop) (A24 : Int32 → Int32 → Int32 → Mem → Prop) (x3 : Int32) (x4 : Int32) (x5 : Int32) (s0 : Int32) (σ : Mem) : Prop := (br (x5 = a1) (A24 x3 x4 (x5 + 1) σ) (br (s0 ≤ x3) (A24 x3 x4 (x5 + 1) σ) (A24 x3 (x4 + 1) (x5 + 1) σ)))
set_option maxHeartbeats 4000000 in
set_option maxRecDepth 100000 in
theorem b_X3_lettersAhead_50 {p : Program} {l : Launch} {e : Env} {s : State} {m : MethodId} {args : Array Value} {below : List Frame} {meth : Method} {c : Code} {L : Ly} {sz : Nat} (C : Cx p rm_X3_lettersAhead s m args meth c RX3 cX3_lettersAhead 7 0 0 (mA L sz) L) (hret : meth.sig.returnType = (some .int)) (hlk : meth.locks = false) (k : Nat) (a1 : Int32) (a2 : Int32) (hk : kd k = 3) (K : Int32 → Mem → Prop) (A24 : Int32 → Int32 → Int32 → Mem → Prop) (hA24 : ∀ (x3 : Int32) (x4 : Int32) (x5 : Int32) (σ : Mem), A24 x3 x4 x5 σ → V p l e rm_X3_lettersAhead s m args below meth c 7 0 0 (MQ below (va_Qi K (mE L) (mA L sz)) args s 0 0 (mA L sz)) (mA L sz) L σ 24 [(0, .ref (lad L k)), (1, .int a1), (2, .int a2), (3, .int x3), (4, .int x4), (5, .int x5)] []) (x3 : Int32) (x4 : Int32) (x5 : Int32) (s0 : Int32) (σ : Mem)  (h : w_X3_lettersAhead_50 k a1 a2 K A24 x3 x4 x5 s0 σ) : V p l e rm_X3_lettersAhead s m args below meth c 7 0 0 (MQ below (va_Qi K (mE L) (mA L sz)) args s 0 0 (mA L sz)) (mA L sz) L σ 50 [(0, .ref (lad L k)), (1, .int a1), (2, .int a2), (3, .int x3), (4, .int x4), (5, .int x5)] [.int s0] := by
  unfold w_X3_lettersAhead_50 at h
  refine v_istore C [(6, .int s0), (0, .ref (lad L k)), (1, .int a1), (2, .int a2), (3, .int x3), (4, .int x4), (5, .int x5)] dX3_lettersAhead_50 (by decide) rfl ?_
  refine v_iload C dX3_lettersAhead_52 6 rfl ?_
  refine v_iload_n C dX3_lettersAhead_54 rfl 2 rfl ?_
  refine v_icmp_eq C (tgt := 67) dX3_lettersAhead_55 (by decide) (fun hc => ?_) (fun hc => ?_)
  · replace h := h.1 hc
    refine v_iinc C [(5, .int (x5 + 1)), (6, .int s0), (0, .ref (lad L k)), (1, .int a1), (2, .int a2), (3, .int x3), (4, .int x4)] dX3_lettersAhead_67 6 rfl rfl (by decide) rfl ?_
    refine v_goto C (tgt := 24) dX3_lettersAhead_70 (by decide) ?_
    refine v_sub [2, 3, 4, 5, 6, 0] rfl ?_
    exact hA24 _ _ _ _  h
  · replace h := h.2 hc
    refine v_iload C dX3_lettersAhead_58 0 rfl ?_
    refine v_iload_n C dX3_lettersAhead_60 rfl 4 rfl ?_
    refine v_icmp_le C (tgt := 67) dX3_lettersAhead_61 (by decide) (fun hc => ?_) (fun hc => ?_)
    · replace h := h.1 hc
      refine v_iinc C [(5, .int (x5 + 1)), (6, .int s0), (0, .ref (lad L k)), (1, .int a1), (2, .int a2), (3, .int x3), (4, .int x4)] dX3_lettersAhead_67 6 rfl rfl (by decide) rfl ?_
      refine v_goto C (tgt := 24) dX3_lettersAhead_70 (by decide) ?_
      refine v_sub [2, 3, 4, 5, 6, 0] rfl ?_
      exact hA24 _ _ _ _  h
    · replace h := h.2 hc
      refine v_iinc C [(4, .int (x4 + 1)), (6, .int s0), (0, .ref (lad L k)), (1, .int a1), (2, .int a2), (3, .int x3), (5, .int x5)] dX3_lettersAhead_64 5 rfl rfl (by decide) rfl ?_
      refine v_iinc C [(5, .int (x5 + 1)), (4, .int (x4 + 1)), (6, .int s0), (0, .ref (lad L k)), (1, .int a1), (2, .int a2), (3, .int x3)] dX3_lettersAhead_67 6 rfl rfl (by decide) rfl ?_
      refine v_goto C (tgt := 24) dX3_lettersAhead_70 (by decide) ?_
      refine v_sub [3, 4, 5, 6, 1, 0] rfl ?_
      exact hA24 _ _ _ _  h
def w_X3_lettersAhead_24 (k : Nat) (a1 : Int32) (a2 : Int32) (K : Int32 → Mem → Prop)  : Nat → Int32 → Int32 → Int32 → Mem → Prop
  | 0, _, _, _, _ => False
  | n + 1, x3, x4, x5, σ => (br (26 ≤ x5) (K x4 σ) (br (a2 = 0) (w_X3_lower k x5 σ (fun r4 σ3 => (w_X3_lettersAhead_50 k a1 a2 K (w_X3_lettersAhead_24 k a1 a2 K  n) x3 x4 x5 r4 σ3))) (w_X3_upper k x5 σ (fun r6 σ5 => (w_X3_lettersAhead_50 k a1 a2 K (w_X3_lettersAhead_24 k a1 a2 K  n) x3 x4 x5 r6 σ5)))))
set_option maxHeartbeats 4000000 in
set_option maxRecDepth 100000 in
theorem b_X3_lettersAhead_24 {p : Program} {l : Launch} {e : Env} {s : State} {m : MethodId} {args : Array Value} {below : List Frame} {meth : Method} {c : Code} {L : Ly} {sz : Nat} (C : Cx p rm_X3_lettersAhead s m args meth c RX3 cX3_lettersAhead 7 0 0 (mA L sz) L) (hret : meth.sig.returnType = (some .int)) (hlk : meth.locks = false) (k : Nat) (a1 : Int32) (a2 : Int32) (hk : kd k = 3) (K : Int32 → Mem → Prop)  : ∀ (n : Nat) (x3 : Int32) (x4 : Int32) (x5 : Int32) (σ : Mem), w_X3_lettersAhead_24 k a1 a2 K  n x3 x4 x5 σ → V p l e rm_X3_lettersAhead s m args below meth c 7 0 0 (MQ below (va_Qi K (mE L) (mA L sz)) args s 0 0 (mA L sz)) (mA L sz) L σ 24 [(0, .ref (lad L k)), (1, .int a1), (2, .int a2), (3, .int x3), (4, .int x4), (5, .int x5)] [] := by
  intro n
  induction n with
  | zero => intro x3 x4 x5 σ  h; exact h.elim
  | succ n ih =>
    intro x3 x4 x5 σ  h
    rw [w_X3_lettersAhead_24] at h
    refine v_iload C dX3_lettersAhead_24 5 rfl ?_
    refine v_bipush C (v := 26) dX3_lettersAhead_26 rfl ?_
    refine v_icmp_ge C (tgt := 73) dX3_lettersAhead_28 (by decide) (fun hc => ?_) (fun hc => ?_)
    · replace h := h.1 hc
      refine v_iload C dX3_lettersAhead_73 4 rfl ?_
      exact v_iret C dX3_lettersAhead_75 hret hlk h
    · replace h := h.2 hc
      refine v_iload_n C dX3_lettersAhead_31 rfl 2 rfl ?_
      refine v_if_eq C (tgt := 44) dX3_lettersAhead_32 (by decide) (fun hc => ?_) (fun hc => ?_)
      · replace h := h.1 hc
        refine v_aload_n C dX3_lettersAhead_44 rfl 0 rfl ?_
        refine v_iload C dX3_lettersAhead_45 5 rfl ?_
        refine k_X3_lower C k x5 hk h mM_X3_95 ⟨Nat.le_of_ble_eq_true rfl, Nat.le_of_ble_eq_true rfl⟩ (Nat.le_of_ble_eq_true rfl) dX3_lettersAhead_47 (fun r4 σ3 h => ?_)
        refine v_sub [0, 1, 2, 3, 4, 5] rfl ?_
        exact b_X3_lettersAhead_50 C hret hlk k a1 a2 hk K _ ih _ _ _ _ _  h
      · replace h := h.2 hc
        refine v_aload_n C dX3_lettersAhead_35 rfl 0 rfl ?_
        refine v_iload C dX3_lettersAhead_36 5 rfl ?_
        refine k_X3_upper C k x5 hk h mM_X3_74 ⟨Nat.le_of_ble_eq_true rfl, Nat.le_of_ble_eq_true rfl⟩ (Nat.le_of_ble_eq_true rfl) dX3_lettersAhead_38 (fun r6 σ5 h => ?_)
        refine v_goto C (tgt := 50) dX3_lettersAhead_41 (by decide) ?_
        refine v_sub [0, 1, 2, 3, 4, 5] rfl ?_
        exact b_X3_lettersAhead_50 C hret hlk k a1 a2 hk K _ ih _ _ _ _ _  h
def w_X3_lettersAhead (k : Nat) (a1 : Int32) (a2 : Int32) (σ : Mem) (K : Int32 → Mem → Prop) : Prop := (br (a2 = 0) (w_X3_upper k a1 σ (fun r2 σ1 => (∃ n7, w_X3_lettersAhead_24 k a1 a2 K  n7 r2 0 0 σ1))) (w_X3_lower k a1 σ (fun r9 σ8 => (∃ n10, w_X3_lettersAhead_24 k a1 a2 K  n10 r9 0 0 σ8))))
set_option maxHeartbeats 4000000 in
set_option maxRecDepth 100000 in
theorem c_X3_lettersAhead (l : Launch) (L : Ly) (k : Nat) (a1 : Int32) (a2 : Int32) (σ : Mem) (K : Int32 → Mem → Prop) (hk : kd k = 3) (h : w_X3_lettersAhead k a1 a2 σ K) (sz : Nat) : Met l yX3_lettersAhead (.code yX3_lettersAhead cX3_lettersAhead 7 (some .int) :: wA) rm_X3_lettersAhead (va_Pc [.ref (lad L k), .int a1, .int a2] (mB L sz σ)) (va_Qi K (mE L) (mA L sz)) 0 0 (mA L sz) := by
  refine v_start (own := RX3) [(0, .ref (lad L k)), (1, .int a1), (2, .int a2)] (by decide) rfl (Nat.le_of_ble_eq_true rfl) rfl (fun p e s m args below meth c C hret hlk => ?_)
  unfold w_X3_lettersAhead at h
  refine v_iload_n C dX3_lettersAhead_0 rfl 2 rfl ?_
  refine v_if_eq C (tgt := 12) dX3_lettersAhead_1 (by decide) (fun hc => ?_) (fun hc => ?_)
  · replace h := h.1 hc
    refine v_aload_n C dX3_lettersAhead_12 rfl 0 rfl ?_
    refine v_iload_n C dX3_lettersAhead_13 rfl 1 rfl ?_
    refine k_X3_upper C k a1 hk h mM_X3_74 ⟨Nat.le_of_ble_eq_true rfl, Nat.le_of_ble_eq_true rfl⟩ (Nat.le_of_ble_eq_true rfl) dX3_lettersAhead_14 (fun r2 σ1 h => ?_)
    refine v_istore_n C [(3, .int r2), (0, .ref (lad L k)), (1, .int a1), (2, .int a2)] dX3_lettersAhead_17 rfl (by decide) rfl ?_
    refine v_iconst C (v := 0) dX3_lettersAhead_18 rfl ?_
    refine v_istore C [(4, .int 0), (3, .int r2), (0, .ref (lad L k)), (1, .int a1), (2, .int a2)] dX3_lettersAhead_19 (by decide) rfl ?_
    refine v_iconst C (v := 0) dX3_lettersAhead_21 rfl ?_
    refine v_istore C [(5, .int 0), (4, .int 0), (3, .int r2), (0, .ref (lad L k)), (1, .int a1), (2, .int a2)] dX3_lettersAhead_22 (by decide) rfl ?_
    obtain ⟨n7, h⟩ := h
    refine v_sub [3, 4, 5, 2, 1, 0] rfl ?_
    exact b_X3_lettersAhead_24 C hret hlk k a1 a2 hk K   n7 _ _ _ _  h
  · replace h := h.2 hc
    refine v_aload_n C dX3_lettersAhead_4 rfl 0 rfl ?_
    refine v_iload_n C dX3_lettersAhead_5 rfl 1 rfl ?_
    refine k_X3_lower C k a1 hk h mM_X3_95 ⟨Nat.le_of_ble_eq_true rfl, Nat.le_of_ble_eq_true rfl⟩ (Nat.le_of_ble_eq_true rfl) dX3_lettersAhead_6 (fun r9 σ8 h => ?_)
    refine v_goto C (tgt := 17) dX3_lettersAhead_9 (by decide) ?_
    refine v_istore_n C [(3, .int r9), (0, .ref (lad L k)), (1, .int a1), (2, .int a2)] dX3_lettersAhead_17 rfl (by decide) rfl ?_
    refine v_iconst C (v := 0) dX3_lettersAhead_18 rfl ?_
    refine v_istore C [(4, .int 0), (3, .int r9), (0, .ref (lad L k)), (1, .int a1), (2, .int a2)] dX3_lettersAhead_19 (by decide) rfl ?_
    refine v_iconst C (v := 0) dX3_lettersAhead_21 rfl ?_
    refine v_istore C [(5, .int 0), (4, .int 0), (3, .int r9), (0, .ref (lad L k)), (1, .int a1), (2, .int a2)] dX3_lettersAhead_22 (by decide) rfl ?_
    obtain ⟨n10, h⟩ := h
    refine v_sub [3, 4, 5, 2, 1, 0] rfl ?_
    exact b_X3_lettersAhead_24 C hret hlk k a1 a2 hk K   n10 _ _ _ _  h
theorem hd_X3_lettersAhead : yX3_lettersAhead.cls ≠ "java/lang/invoke/MethodHandle" ∧ yX3_lettersAhead.cls ≠ "java/lang/invoke/VarHandle" ∧ (parseMethodDescriptor yX3_lettersAhead.desc).map (fun d => d.parameters.length) = some 2 := by decide +kernel
theorem k_X3_lettersAhead {p : Program} {l : Launch} {e : Env} {R : Room} {s : State} {m : MethodId} {args : Array Value} {below : List Frame} {meth : Method} {c : Code} {nL cells slots : Nat} {Q : State → Prop} {A : Nat → Prop} {L : Ly} {own : String} {cc : ByteArray} {σ : Mem} {pc idx : Nat} {lv : List (Nat × Value)} {st : List Value} {K : Int32 → Mem → Prop} (C : Cx p R s m args meth c own cc nL cells slots A L) (k : Nat) (a1 : Int32) (a2 : Int32) (hk : kd k = 3) (h : w_X3_lettersAhead k a1 a2 σ K) (hml : Cond.methodLink own idx yX3_lettersAhead ∈ wA) (hR : rm_X3_lettersAhead.frames + 1 ≤ R.frames ∧ 8 + (7 + 11) + rm_X3_lettersAhead.locals ≤ R.locals) (hsum : (st.map fun v => v.category).sum ≤ 8) (d : decode cc pc = .ok (.invokevirtual idx, 3)) (kk : ∀ r σ1, K r σ1 → V p l e R s m args below meth c nL cells slots Q A L σ1 (pc + 3) lv (.int r :: st)) : V p l e R s m args below meth c nL cells slots Q A L σ pc lv (.int a2 :: .int a1 :: .ref (lad L k) :: st) := v_callVi C [.int a1, .int a2] (fun sz => c_X3_lettersAhead l L k a1 a2 σ _ hk h sz) mC_X3_lettersAhead mZ_X3 hd_X3_lettersAhead mI_X3_lettersAhead mS_X3_lettersAhead rfl rfl (c0 := 3) (ci := 3) (by decide) rfl rfl rfl hk hml hR rfl hsum d kk
