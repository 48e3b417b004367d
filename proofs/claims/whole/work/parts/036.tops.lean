-- ===== RX6.isSummary
abbrev rm_X6_isSummary : Room := { frames := 0, cells := 0, slots := 0, locals := 0 }
def w_X6_isSummary (a1 : Int32) (σ : Mem) (K : Int32 → Mem → Prop) : Prop := (br (a1 < 0) (K 0 σ) (br (4 ≤ a1) (K 0 σ) (K 1 σ)))
set_option maxHeartbeats 4000000 in
set_option maxRecDepth 100000 in
theorem c_X6_isSummary (l : Launch) (L : Ly) (a1 : Int32) (σ : Mem) (K : Int32 → Mem → Prop)  (h : w_X6_isSummary a1 σ K) (sz : Nat) : Met l yX6_isSummary (.code yX6_isSummary cX6_isSummary 1 (some .boolean) :: wA) rm_X6_isSummary (va_Pc [.int a1] (mB L sz σ)) (va_Qi K (mE L) (mA L sz)) 0 0 (mA L sz) := by
  refine v_start (own := RX6) [(0, .int a1)] (by decide) rfl (Nat.le_of_ble_eq_true rfl) rfl (fun p e s m args below meth c C hret hlk => ?_)
  unfold w_X6_isSummary at h
  refine v_iload_n C dX6_isSummary_0 rfl 0 rfl ?_
  refine v_if_lt C (tgt := 13) dX6_isSummary_1 (by decide) (fun hc => ?_) (fun hc => ?_)
  · replace h := h.1 hc
    refine v_iconst C (v := 0) dX6_isSummary_13 rfl ?_
    exact v_zret C dX6_isSummary_14 hret hlk rfl h
  · replace h := h.2 hc
    refine v_iload_n C dX6_isSummary_4 rfl 0 rfl ?_
    refine v_iconst C (v := 4) dX6_isSummary_5 rfl ?_
    refine v_icmp_ge C (tgt := 13) dX6_isSummary_6 (by decide) (fun hc => ?_) (fun hc => ?_)
    · replace h := h.1 hc
      refine v_iconst C (v := 0) dX6_isSummary_13 rfl ?_
      exact v_zret C dX6_isSummary_14 hret hlk rfl h
    · replace h := h.2 hc
      refine v_iconst C (v := 1) dX6_isSummary_9 rfl ?_
      refine v_goto C (tgt := 14) dX6_isSummary_10 (by decide) ?_
      exact v_zret C dX6_isSummary_14 hret hlk rfl h
theorem hd_X6_isSummary : yX6_isSummary.cls ≠ "java/lang/invoke/MethodHandle" ∧ yX6_isSummary.cls ≠ "java/lang/invoke/VarHandle" ∧ (parseMethodDescriptor yX6_isSummary.desc).map (fun d => d.parameters.length) = some 1 := by decide +kernel
theorem k_X6_isSummary {p : Program} {l : Launch} {e : Env} {R : Room} {s : State} {m : MethodId} {args : Array Value} {below : List Frame} {meth : Method} {c : Code} {nL cells slots : Nat} {Q : State → Prop} {A : Nat → Prop} {L : Ly} {own : String} {cc : ByteArray} {σ : Mem} {pc idx : Nat} {lv : List (Nat × Value)} {st : List Value} {K : Int32 → Mem → Prop} (C : Cx p R s m args meth c own cc nL cells slots A L) (a1 : Int32)  (h : w_X6_isSummary a1 σ K) (hml : Cond.methodLink own idx yX6_isSummary ∈ wA) (hR : rm_X6_isSummary.frames + 1 ≤ R.frames ∧ 8 + (1 + 11) + rm_X6_isSummary.locals ≤ R.locals) (hsum : (st.map fun v => v.category).sum ≤ 8) (d : decode cc pc = .ok (.invokestatic idx, 3)) (kk : ∀ r σ1, K r σ1 → V p l e R s m args below meth c nL cells slots Q A L σ1 (pc + 3) lv (.int r :: st)) : V p l e R s m args below meth c nL cells slots Q A L σ pc lv (.int a1 :: st) := v_callSi C [.int a1] (fun sz => c_X6_isSummary l L a1 σ _  h sz) mC_X6_isSummary mZ_X6 hd_X6_isSummary mT_X6_isSummary rfl rfl hml hR rfl hsum d kk
-- ===== RX6.isWeight
abbrev rm_X6_isWeight : Room := { frames := 0, cells := 0, slots := 0, locals := 0 }
def w_X6_isWeight (a1 : Int32) (σ : Mem) (K : Int32 → Mem → Prop) : Prop := (br (a1 < 1) (K 0 σ) (br (99 < a1) (K 0 σ) (K 1 σ)))
set_option maxHeartbeats 4000000 in
set_option maxRecDepth 100000 in
theorem c_X6_isWeight (l : Launch) (L : Ly) (a1 : Int32) (σ : Mem) (K : Int32 → Mem → Prop)  (h : w_X6_isWeight a1 σ K) (sz : Nat) : Met l yX6_isWeight (.code yX6_isWeight cX6_isWeight 1 (some .boolean) :: wA) rm_X6_isWeight (va_Pc [.int a1] (mB L sz σ)) (va_Qi K (mE L) (mA L sz)) 0 0 (mA L sz) := by
  refine v_start (own := RX6) [(0, .int a1)] (by decide) rfl (Nat.le_of_ble_eq_true rfl) rfl (fun p e s m args below meth c C hret hlk => ?_)
  unfold w_X6_isWeight at h
  refine v_iload_n C dX6_isWeight_0 rfl 0 rfl ?_
  refine v_iconst C (v := 1) dX6_isWeight_1 rfl ?_
  refine v_icmp_lt C (tgt := 15) dX6_isWeight_2 (by decide) (fun hc => ?_) (fun hc => ?_)
  · replace h := h.1 hc
    refine v_iconst C (v := 0) dX6_isWeight_15 rfl ?_
    exact v_zret C dX6_isWeight_16 hret hlk rfl h
  · replace h := h.2 hc
    refine v_iload_n C dX6_isWeight_5 rfl 0 rfl ?_
    refine v_bipush C (v := 99) dX6_isWeight_6 rfl ?_
    refine v_icmp_gt C (tgt := 15) dX6_isWeight_8 (by decide) (fun hc => ?_) (fun hc => ?_)
    · replace h := h.1 hc
      refine v_iconst C (v := 0) dX6_isWeight_15 rfl ?_
      exact v_zret C dX6_isWeight_16 hret hlk rfl h
    · replace h := h.2 hc
      refine v_iconst C (v := 1) dX6_isWeight_11 rfl ?_
      refine v_goto C (tgt := 16) dX6_isWeight_12 (by decide) ?_
      exact v_zret C dX6_isWeight_16 hret hlk rfl h
theorem hd_X6_isWeight : yX6_isWeight.cls ≠ "java/lang/invoke/MethodHandle" ∧ yX6_isWeight.cls ≠ "java/lang/invoke/VarHandle" ∧ (parseMethodDescriptor yX6_isWeight.desc).map (fun d => d.parameters.length) = some 1 := by decide +kernel
theorem k_X6_isWeight {p : Program} {l : Launch} {e : Env} {R : Room} {s : State} {m : MethodId} {args : Array Value} {below : List Frame} {meth : Method} {c : Code} {nL cells slots : Nat} {Q : State → Prop} {A : Nat → Prop} {L : Ly} {own : String} {cc : ByteArray} {σ : Mem} {pc idx : Nat} {lv : List (Nat × Value)} {st : List Value} {K : Int32 → Mem → Prop} (C : Cx p R s m args meth c own cc nL cells slots A L) (a1 : Int32)  (h : w_X6_isWeight a1 σ K) (hml : Cond.methodLink own idx yX6_isWeight ∈ wA) (hR : rm_X6_isWeight.frames + 1 ≤ R.frames ∧ 8 + (1 + 11) + rm_X6_isWeight.locals ≤ R.locals) (hsum : (st.map fun v => v.category).sum ≤ 8) (d : decode cc pc = .ok (.invokestatic idx, 3)) (kk : ∀ r σ1, K r σ1 → V p l e R s m args below meth c nL cells slots Q A L σ1 (pc + 3) lv (.int r :: st)) : V p l e R s m args below meth c nL cells slots Q A L σ pc lv (.int a1 :: st) := v_callSi C [.int a1] (fun sz => c_X6_isWeight l L a1 σ _  h sz) mC_X6_isWeight mZ_X6 hd_X6_isWeight mT_X6_isWeight rfl rfl hml hR rfl hsum d kk
-- ===== RX6.arrive
abbrev rm_X6_arrive : Room := { frames := 5, cells := 0, slots := 0, locals := 126 }
def w_X6_arrive (a1 : Int32) (a2 : Int32) (a3 : Int32) (σ : Mem) (K : Int32 → Mem → Prop) : Prop := (w_X6_letterIndex a2 σ (fun r2 σ1 => (w_X6_isSummary a1 σ1 (fun r4 σ3 => (br (r4 = 0) (K (-1) σ3) (br (r2 = (-1)) (K (-1) σ3) (w_X6_isWeight a3 σ3 (fun r6 σ5 => (br (r6 = 0) (K (-2) σ5) (vp_in a1 4 ∧ (br (((σ5 (2 + 5 * ix a1) 2) + a3) ≤ 1000000) (w_X0_remember 0 σ5 (fun σ8 => (w_X2_bring 0 a1 (2 + 5 * ix a1) r2 a3 σ8 (fun σ9 => (w_X3_upper (2 + 5 * ix a1) r2 σ9 (fun r11 σ10 => (K r11 σ10))))))) (K (-3) σ5))))))))))))
set_option maxHeartbeats 4000000 in
set_option maxRecDepth 100000 in
theorem c_X6_arrive (l : Launch) (L : Ly) (a1 : Int32) (a2 : Int32) (a3 : Int32) (σ : Mem) (K : Int32 → Mem → Prop)  (h : w_X6_arrive a1 a2 a3 σ K) (sz : Nat) : Met l yX6_arrive (.code yX6_arrive cX6_arrive 6 (some .int) :: wA) rm_X6_arrive (va_Pc [.ref (lad L 299), .int a1, .int a2, .int a3] (mB L sz σ)) (va_Qi K (mE L) (mA L sz)) 0 0 (mA L sz) := by
  refine v_start (own := RX6) [(0, .ref (lad L 299)), (1, .int a1), (2, .int a2), (3, .int a3)] (by decide) rfl (Nat.le_of_ble_eq_true rfl) rfl (fun p e s m args below meth c C hret hlk => ?_)
  unfold w_X6_arrive at h
  refine v_iload_n C dX6_arrive_0 rfl 2 rfl ?_
  refine ks_X6_letterIndex C a2  h mM_X6_44 ⟨Nat.le_of_ble_eq_true rfl, Nat.le_of_ble_eq_true rfl⟩ (Nat.le_of_ble_eq_true rfl) dX6_arrive_1 (fun r2 σ1 h => ?_)
  refine v_istore C [(4, .int r2), (0, .ref (lad L 299)), (1, .int a1), (2, .int a2), (3, .int a3)] dX6_arrive_4 (by decide) rfl ?_
  refine v_iload_n C dX6_arrive_6 rfl 2 rfl ?_
  refine k_X6_isSummary C a1  h mM_X6_48 ⟨Nat.le_of_ble_eq_true rfl, Nat.le_of_ble_eq_true rfl⟩ (Nat.le_of_ble_eq_true rfl) dX6_arrive_7 (fun r4 σ3 h => ?_)
  refine v_if_eq C (tgt := 19) dX6_arrive_10 (by decide) (fun hc => ?_) (fun hc => ?_)
  · replace h := h.1 hc
    refine v_iconst C (v := (-1)) dX6_arrive_19 rfl ?_
    exact v_iret C dX6_arrive_20 hret hlk h
  · replace h := h.2 hc
    refine v_iload C dX6_arrive_13 0 rfl ?_
    refine v_iconst C (v := (-1)) dX6_arrive_15 rfl ?_
    refine v_icmp_ne C (tgt := 21) dX6_arrive_16 (by decide) (fun hc => ?_) (fun hc => ?_)
    · replace h := h.2 hc
      refine v_iload_n C dX6_arrive_21 rfl 4 rfl ?_
      refine k_X6_isWeight C a3  h mM_X6_52 ⟨Nat.le_of_ble_eq_true rfl, Nat.le_of_ble_eq_true rfl⟩ (Nat.le_of_ble_eq_true rfl) dX6_arrive_22 (fun r6 σ5 h => ?_)
      refine v_if_ne C (tgt := 31) dX6_arrive_25 (by decide) (fun hc => ?_) (fun hc => ?_)
      · replace h := h.2 hc
        refine v_aload_n C dX6_arrive_31 rfl 1 rfl ?_
        refine g_6_now C kdn_299 mF_X6_10 dX6_arrive_32 ?_
        refine g_2_summaries C kdn_0 mF_X6_55 dX6_arrive_35 ?_
        refine v_iload_n C dX6_arrive_38 rfl 2 rfl ?_
        obtain ⟨hi7, h⟩ := h
        refine v_aald C (c0 := 11) (t0 := 3) (v := .ref (lad L (2 + 5 * ix a1))) (by decide) rfl rfl rfl kdn_1 hi7 dX6_arrive_39 ?_
        refine v_astore C [(5, .ref (lad L (2 + 5 * ix a1))), (4, .int r2), (0, .ref (lad L 299)), (1, .int a1), (2, .int a2), (3, .int a3)] dX6_arrive_40 (by decide) rfl ?_
        refine v_aload C dX6_arrive_42 0 rfl ?_
        refine g_3_sum C (kd_el kdn_1 hi7) mF_X6_59 dX6_arrive_44 ?_
        refine v_iload_n C dX6_arrive_47 rfl 5 rfl ?_
        refine v_iadd C dX6_arrive_48 ?_
        refine v_ldc C dX6_arrive_49 mN_X6_63 ?_
        refine v_icmp_le C (tgt := 57) dX6_arrive_51 (by decide) (fun hc => ?_) (fun hc => ?_)
        · replace h := h.1 hc
          refine v_aload_n C dX6_arrive_57 rfl 2 rfl ?_
          refine g_6_history C kdn_299 mF_X6_19 dX6_arrive_58 ?_
          refine v_aload_n C dX6_arrive_61 rfl 2 rfl ?_
          refine g_6_now C kdn_299 mF_X6_10 dX6_arrive_62 ?_
          refine k_X0_remember C 0 kdn_0 h mM_X6_64 ⟨Nat.le_of_ble_eq_true rfl, Nat.le_of_ble_eq_true rfl⟩ (Nat.le_of_ble_eq_true rfl) dX6_arrive_65 (fun σ8 h => ?_)
          refine v_aload_n C dX6_arrive_68 rfl 2 rfl ?_
          refine g_6_now C kdn_299 mF_X6_10 dX6_arrive_69 ?_
          refine v_iload_n C dX6_arrive_72 rfl 3 rfl ?_
          refine v_aload C dX6_arrive_73 0 rfl ?_
          refine v_iload C dX6_arrive_75 1 rfl ?_
          refine v_iload_n C dX6_arrive_77 rfl 5 rfl ?_
          refine k_X2_bring C 0 a1 (2 + 5 * ix a1) r2 a3 kdn_0 (kd_el kdn_1 hi7) h mM_X6_68 ⟨Nat.le_of_ble_eq_true rfl, Nat.le_of_ble_eq_true rfl⟩ (Nat.le_of_ble_eq_true rfl) dX6_arrive_78 (fun σ9 h => ?_)
          refine v_aload C dX6_arrive_81 0 rfl ?_
          refine v_iload C dX6_arrive_83 1 rfl ?_
          refine k_X3_upper C (2 + 5 * ix a1) r2 (kd_el kdn_1 hi7) h mM_X6_72 ⟨Nat.le_of_ble_eq_true rfl, Nat.le_of_ble_eq_true rfl⟩ (Nat.le_of_ble_eq_true rfl) dX6_arrive_85 (fun r11 σ10 h => ?_)
          exact v_iret C dX6_arrive_88 hret hlk h
        · replace h := h.2 hc
          refine v_bipush C (v := (-3)) dX6_arrive_54 rfl ?_
          exact v_iret C dX6_arrive_56 hret hlk h
      · replace h := h.1 hc
        refine v_bipush C (v := (-2)) dX6_arrive_28 rfl ?_
        exact v_iret C dX6_arrive_30 hret hlk h
    · replace h := h.1 hc
      refine v_iconst C (v := (-1)) dX6_arrive_19 rfl ?_
      exact v_iret C dX6_arrive_20 hret hlk h
theorem hd_X6_arrive : yX6_arrive.cls ≠ "java/lang/invoke/MethodHandle" ∧ yX6_arrive.cls ≠ "java/lang/invoke/VarHandle" ∧ (parseMethodDescriptor yX6_arrive.desc).map (fun d => d.parameters.length) = some 3 := by decide +kernel
theorem k_X6_arrive {p : Program} {l : Launch} {e : Env} {R : Room} {s : State} {m : MethodId} {args : Array Value} {below : List Frame} {meth : Method} {c : Code} {nL cells slots : Nat} {Q : State → Prop} {A : Nat → Prop} {L : Ly} {own : String} {cc : ByteArray} {σ : Mem} {pc idx : Nat} {lv : List (Nat × Value)} {st : List Value} {K : Int32 → Mem → Prop} (C : Cx p R s m args meth c own cc nL cells slots A L) (a1 : Int32) (a2 : Int32) (a3 : Int32)  (h : w_X6_arrive a1 a2 a3 σ K) (hml : Cond.methodLink own idx yX6_arrive ∈ wA) (hR : rm_X6_arrive.frames + 1 ≤ R.frames ∧ 8 + (6 + 11) + rm_X6_arrive.locals ≤ R.locals) (hsum : (st.map fun v => v.category).sum ≤ 8) (d : decode cc pc = .ok (.invokevirtual idx, 3)) (kk : ∀ r σ1, K r σ1 → V p l e R s m args below meth c nL cells slots Q A L σ1 (pc + 3) lv (.int r :: st)) : V p l e R s m args below meth c nL cells slots Q A L σ pc lv (.int a3 :: .int a2 :: .int a1 :: .ref (lad L 299) :: st) := v_callVi C [.int a1, .int a2, .int a3] (fun sz => c_X6_arrive l L a1 a2 a3 σ _  h sz) mC_X6_arrive mZ_X6 hd_X6_arrive mI_X6_arrive mS_X6_arrive rfl rfl (c0 := 6) (ci := 6) (by decide) rfl rfl rfl kdn_299 hml hR rfl hsum d kk
-- ===== RX6.feed
abbrev rm_X6_feed : Room := { frames := 5, cells := 0, slots := 0, locals := 126 }
def w_X6_feed_71 (a1 : Int32) (K : Int32 → Mem → Prop)  : Nat → Nat → Int32 → Mem → Prop
  | 0, _, _, _ => False
  | n + 1, r3, x4, σ => (br ((σ 302 4) ≤ x4) (K (σ 302 4) σ) (vp_in x4 60 ∧ (vp_in x4 60 ∧ (w_X2_bring 0 a1 r3 (σ 304 (ix x4)) (σ 305 (ix x4)) σ (fun σ11 => (w_X6_feed_71 a1 K  n r3 (x4 + 1) σ11))))))
set_option maxHeartbeats 4000000 in
set_option maxRecDepth 100000 in
theorem b_X6_feed_71 {p : Program} {l : Launch} {e : Env} {s : State} {m : MethodId} {args : Array Value} {below : List Frame} {meth : Method} {c : Code} {L : Ly} {sz : Nat} (C : Cx p rm_X6_feed s m args meth c RX6 cX6_feed 5 0 0 (mA L sz) L) (hret : meth.sig.returnType = (some .int)) (hlk : meth.locks = false) (a1 : Int32)  (K : Int32 → Mem → Prop)  : ∀ (n : Nat) (r3 : Nat) (x4 : Int32) (σ : Mem), kd r3 = 3 → w_X6_feed_71 a1 K  n r3 x4 σ → V p l e rm_X6_feed s m args below meth c 5 0 0 (MQ below (va_Qi K (mE L) (mA L sz)) args s 0 0 (mA L sz)) (mA L sz) L σ 71 [(0, .ref (lad L 299)), (1, .int a1), (3, .ref (lad L r3)), (4, .int x4)] [] := by
  intro n
  induction n with
  | zero => intro r3 x4 σ hr3 h; exact h.elim
  | succ n ih =>
    intro r3 x4 σ hr3 h
    rw [w_X6_feed_71] at h
    refine v_iload C dX6_feed_71 3 rfl ?_
    refine v_aload_n C dX6_feed_73 rfl 0 rfl ?_
    refine g_6_text C kdn_299 mF_X6_33 dX6_feed_74 ?_
    refine g_4_arrivals C kdn_302 mF_X6_83 dX6_feed_77 ?_
    refine v_icmp_ge C (tgt := 118) dX6_feed_80 (by decide) (fun hc => ?_) (fun hc => ?_)
    · replace h := h.1 hc
      refine v_aload_n C dX6_feed_118 rfl 0 rfl ?_
      refine g_6_text C kdn_299 mF_X6_33 dX6_feed_119 ?_
      refine g_4_arrivals C kdn_302 mF_X6_83 dX6_feed_122 ?_
      exact v_iret C dX6_feed_125 hret hlk h
    · replace h := h.2 hc
      refine v_aload_n C dX6_feed_83 rfl 0 rfl ?_
      refine g_6_now C kdn_299 mF_X6_10 dX6_feed_84 ?_
      refine v_iload_n C dX6_feed_87 rfl 1 rfl ?_
      refine v_aload_n C dX6_feed_88 rfl 2 rfl ?_
      refine v_aload_n C dX6_feed_89 rfl 0 rfl ?_
      refine g_6_text C kdn_299 mF_X6_33 dX6_feed_90 ?_
      refine g_4_letters C kdn_302 mF_X6_86 dX6_feed_93 ?_
      refine v_iload C dX6_feed_96 3 rfl ?_
      obtain ⟨hi9, h⟩ := h
      refine v_iald C (c0 := 22) (by decide) rfl kdn_304 hi9 dX6_feed_98 ?_
      refine v_aload_n C dX6_feed_99 rfl 0 rfl ?_
      refine g_6_text C kdn_299 mF_X6_33 dX6_feed_100 ?_
      refine g_4_weights C kdn_302 mF_X6_90 dX6_feed_103 ?_
      refine v_iload C dX6_feed_106 3 rfl ?_
      obtain ⟨hi10, h⟩ := h
      refine v_iald C (c0 := 22) (by decide) rfl kdn_305 hi10 dX6_feed_108 ?_
      refine k_X2_bring C 0 a1 r3 (σ 304 (ix x4)) (σ 305 (ix x4)) kdn_0 hr3 h mM_X6_68 ⟨Nat.le_of_ble_eq_true rfl, Nat.le_of_ble_eq_true rfl⟩ (Nat.le_of_ble_eq_true rfl) dX6_feed_109 (fun σ11 h => ?_)
      refine v_iinc C [(4, .int (x4 + 1)), (0, .ref (lad L 299)), (1, .int a1), (3, .ref (lad L r3))] dX6_feed_112 3 rfl rfl (by decide) rfl ?_
      refine v_goto C (tgt := 71) dX6_feed_115 (by decide) ?_
      refine v_sub [1, 2, 3, 0] rfl ?_
      exact ih _ _ _ hr3 h
def w_X6_feed (a1 : Int32) (σ : Mem) (K : Int32 → Mem → Prop) : Prop := (w_X6_isSummary a1 σ (fun r2 σ1 => (br (r2 = 0) (K (-1) σ1) (w_X4_readArrivals  σ1 (fun r4 σ3 => (br (r4 = (-1)) (vp_in a1 4 ∧ (w_X4_totalWeight  σ3 (fun r7 σ6 => (br (((σ3 (2 + 5 * ix a1) 2) + r7) ≤ 1000000) (w_X0_remember 0 σ6 (fun σ8 => (∃ n12, w_X6_feed_71 a1 K  n12 (2 + 5 * ix a1) 0 σ8))) (K (-3) σ6))))) (K ((-100) - r4) σ3)))))))
set_option maxHeartbeats 4000000 in
set_option maxRecDepth 100000 in
theorem c_X6_feed (l : Launch) (L : Ly) (a1 : Int32) (σ : Mem) (K : Int32 → Mem → Prop)  (h : w_X6_feed a1 σ K) (sz : Nat) : Met l yX6_feed (.code yX6_feed cX6_feed 5 (some .int) :: wA) rm_X6_feed (va_Pc [.ref (lad L 299), .int a1] (mB L sz σ)) (va_Qi K (mE L) (mA L sz)) 0 0 (mA L sz) := by
  refine v_start (own := RX6) [(0, .ref (lad L 299)), (1, .int a1)] (by decide) rfl (Nat.le_of_ble_eq_true rfl) rfl (fun p e s m args below meth c C hret hlk => ?_)
  unfold w_X6_feed at h
  refine v_iload_n C dX6_feed_0 rfl 1 rfl ?_
  refine k_X6_isSummary C a1  h mM_X6_48 ⟨Nat.le_of_ble_eq_true rfl, Nat.le_of_ble_eq_true rfl⟩ (Nat.le_of_ble_eq_true rfl) dX6_feed_1 (fun r2 σ1 h => ?_)
  refine v_if_ne C (tgt := 9) dX6_feed_4 (by decide) (fun hc => ?_) (fun hc => ?_)
  · replace h := h.2 hc
    refine v_aload_n C dX6_feed_9 rfl 0 rfl ?_
    refine g_6_text C kdn_299 mF_X6_33 dX6_feed_10 ?_
    refine k_X4_readArrivals C   h mM_X6_76 ⟨Nat.le_of_ble_eq_true rfl, Nat.le_of_ble_eq_true rfl⟩ (Nat.le_of_ble_eq_true rfl) dX6_feed_13 (fun r4 σ3 h => ?_)
    refine v_istore_n C [(2, .int r4), (0, .ref (lad L 299)), (1, .int a1)] dX6_feed_16 rfl (by decide) rfl ?_
    refine v_iload_n C dX6_feed_17 rfl 0 rfl ?_
    refine v_iconst C (v := (-1)) dX6_feed_18 rfl ?_
    refine v_icmp_eq C (tgt := 27) dX6_feed_19 (by decide) (fun hc => ?_) (fun hc => ?_)
    · replace h := h.1 hc
      refine v_aload_n C dX6_feed_27 rfl 1 rfl ?_
      refine g_6_now C kdn_299 mF_X6_10 dX6_feed_28 ?_
      refine g_2_summaries C kdn_0 mF_X6_55 dX6_feed_31 ?_
      refine v_iload_n C dX6_feed_34 rfl 2 rfl ?_
      obtain ⟨hi5, h⟩ := h
      refine v_aald C (c0 := 11) (t0 := 3) (v := .ref (lad L (2 + 5 * ix a1))) (by decide) rfl rfl rfl kdn_1 hi5 dX6_feed_35 ?_
      refine v_astore_n C [(3, .ref (lad L (2 + 5 * ix a1))), (2, .int r4), (0, .ref (lad L 299)), (1, .int a1)] dX6_feed_36 rfl (by decide) rfl ?_
      refine v_aload_n C dX6_feed_37 rfl 0 rfl ?_
      refine g_3_sum C (kd_el kdn_1 hi5) mF_X6_59 dX6_feed_38 ?_
      refine v_aload_n C dX6_feed_41 rfl 2 rfl ?_
      refine g_6_text C kdn_299 mF_X6_33 dX6_feed_42 ?_
      refine k_X4_totalWeight C   h mM_X6_80 ⟨Nat.le_of_ble_eq_true rfl, Nat.le_of_ble_eq_true rfl⟩ (Nat.le_of_ble_eq_true rfl) dX6_feed_45 (fun r7 σ6 h => ?_)
      refine v_iadd C dX6_feed_48 ?_
      refine v_ldc C dX6_feed_49 mN_X6_63 ?_
      refine v_icmp_le C (tgt := 57) dX6_feed_51 (by decide) (fun hc => ?_) (fun hc => ?_)
      · replace h := h.1 hc
        refine v_aload_n C dX6_feed_57 rfl 2 rfl ?_
        refine g_6_history C kdn_299 mF_X6_19 dX6_feed_58 ?_
        refine v_aload_n C dX6_feed_61 rfl 2 rfl ?_
        refine g_6_now C kdn_299 mF_X6_10 dX6_feed_62 ?_
        refine k_X0_remember C 0 kdn_0 h mM_X6_64 ⟨Nat.le_of_ble_eq_true rfl, Nat.le_of_ble_eq_true rfl⟩ (Nat.le_of_ble_eq_true rfl) dX6_feed_65 (fun σ8 h => ?_)
        refine v_iconst C (v := 0) dX6_feed_68 rfl ?_
        refine v_istore C [(4, .int 0), (3, .ref (lad L (2 + 5 * ix a1))), (2, .int r4), (0, .ref (lad L 299)), (1, .int a1)] dX6_feed_69 (by decide) rfl ?_
        obtain ⟨n12, h⟩ := h
        refine v_sub [3, 4, 1, 0] rfl ?_
        exact b_X6_feed_71 C hret hlk a1  K   n12 _ _ _ (kd_el kdn_1 hi5) h
      · replace h := h.2 hc
        refine v_bipush C (v := (-3)) dX6_feed_54 rfl ?_
        exact v_iret C dX6_feed_56 hret hlk h
    · replace h := h.2 hc
      refine v_bipush C (v := (-100)) dX6_feed_22 rfl ?_
      refine v_iload_n C dX6_feed_24 rfl 0 rfl ?_
      refine v_isub C dX6_feed_25 ?_
      exact v_iret C dX6_feed_26 hret hlk h
  · replace h := h.1 hc
    refine v_iconst C (v := (-1)) dX6_feed_7 rfl ?_
    exact v_iret C dX6_feed_8 hret hlk h
theorem hd_X6_feed : yX6_feed.cls ≠ "java/lang/invoke/MethodHandle" ∧ yX6_feed.cls ≠ "java/lang/invoke/VarHandle" ∧ (parseMethodDescriptor yX6_feed.desc).map (fun d => d.parameters.length) = some 1 := by decide +kernel
theorem k_X6_feed {p : Program} {l : Launch} {e : Env} {R : Room} {s : State} {m : MethodId} {args : Array Value} {below : List Frame} {meth : Method} {c : Code} {nL cells slots : Nat} {Q : State → Prop} {A : Nat → Prop} {L : Ly} {own : String} {cc : ByteArray} {σ : Mem} {pc idx : Nat} {lv : List (Nat × Value)} {st : List Value} {K : Int32 → Mem → Prop} (C : Cx p R s m args meth c own cc nL cells slots A L) (a1 : Int32)  (h : w_X6_feed a1 σ K) (hml : Cond.methodLink own idx yX6_feed ∈ wA) (hR : rm_X6_feed.frames + 1 ≤ R.frames ∧ 8 + (5 + 11) + rm_X6_feed.locals ≤ R.locals) (hsum : (st.map fun v => v.category).sum ≤ 8) (d : decode cc pc = .ok (.invokevirtual idx, 3)) (kk : ∀ r σ1, K r σ1 → V p l e R s m args below meth c nL cells slots Q A L σ1 (pc + 3) lv (.int r :: st)) : V p l e R s m args below meth c nL cells slots Q A L σ pc lv (.int a1 :: .ref (lad L 299) :: st) := v_callVi C [.int a1] (fun sz => c_X6_feed l L a1 σ _  h sz) mC_X6_feed mZ_X6 hd_X6_feed mI_X6_feed mS_X6_feed rfl rfl (c0 := 6) (ci := 6) (by decide) rfl rfl rfl kdn_299 hml hR rfl hsum d kk
-- ===== RX6.flow
abbrev rm_X6_flow : Room := { frames := 6, cells := 0, slots := 0, locals := 135 }
def w_X6_flow (a1 : Int32) (a2 : Int32) (σ : Mem) (K : Int32 → Mem → Prop) : Prop := (w_X6_letterIndex a1 σ (fun r2 σ1 => (br (r2 = (-1)) (K (-1) σ1) (w_X6_isWeight a2 σ1 (fun r4 σ3 => (br (r4 = 0) (K (-2) σ3) (w_X0_remember 0 σ3 (fun σ5 => (w_X2_bringToWindow 0 r2 a2 σ5 (fun σ6 => (K (σ6 22 4) σ6)))))))))))
set_option maxHeartbeats 4000000 in
set_option maxRecDepth 100000 in
theorem c_X6_flow (l : Launch) (L : Ly) (a1 : Int32) (a2 : Int32) (σ : Mem) (K : Int32 → Mem → Prop)  (h : w_X6_flow a1 a2 σ K) (sz : Nat) : Met l yX6_flow (.code yX6_flow cX6_flow 4 (some .int) :: wA) rm_X6_flow (va_Pc [.ref (lad L 299), .int a1, .int a2] (mB L sz σ)) (va_Qi K (mE L) (mA L sz)) 0 0 (mA L sz) := by
  refine v_start (own := RX6) [(0, .ref (lad L 299)), (1, .int a1), (2, .int a2)] (by decide) rfl (Nat.le_of_ble_eq_true rfl) rfl (fun p e s m args below meth c C hret hlk => ?_)
  unfold w_X6_flow at h
  refine v_iload_n C dX6_flow_0 rfl 1 rfl ?_
  refine ks_X6_letterIndex C a1  h mM_X6_44 ⟨Nat.le_of_ble_eq_true rfl, Nat.le_of_ble_eq_true rfl⟩ (Nat.le_of_ble_eq_true rfl) dX6_flow_1 (fun r2 σ1 h => ?_)
  refine v_istore_n C [(3, .int r2), (0, .ref (lad L 299)), (1, .int a1), (2, .int a2)] dX6_flow_4 rfl (by decide) rfl ?_
  refine v_iload_n C dX6_flow_5 rfl 0 rfl ?_
  refine v_iconst C (v := (-1)) dX6_flow_6 rfl ?_
  refine v_icmp_ne C (tgt := 12) dX6_flow_7 (by decide) (fun hc => ?_) (fun hc => ?_)
  · replace h := h.2 hc
    refine v_iload_n C dX6_flow_12 rfl 3 rfl ?_
    refine k_X6_isWeight C a2  h mM_X6_52 ⟨Nat.le_of_ble_eq_true rfl, Nat.le_of_ble_eq_true rfl⟩ (Nat.le_of_ble_eq_true rfl) dX6_flow_13 (fun r4 σ3 h => ?_)
    refine v_if_ne C (tgt := 22) dX6_flow_16 (by decide) (fun hc => ?_) (fun hc => ?_)
    · replace h := h.2 hc
      refine v_aload_n C dX6_flow_22 rfl 1 rfl ?_
      refine g_6_history C kdn_299 mF_X6_19 dX6_flow_23 ?_
      refine v_aload_n C dX6_flow_26 rfl 1 rfl ?_
      refine g_6_now C kdn_299 mF_X6_10 dX6_flow_27 ?_
      refine k_X0_remember C 0 kdn_0 h mM_X6_64 ⟨Nat.le_of_ble_eq_true rfl, Nat.le_of_ble_eq_true rfl⟩ (Nat.le_of_ble_eq_true rfl) dX6_flow_30 (fun σ5 h => ?_)
      refine v_aload_n C dX6_flow_33 rfl 1 rfl ?_
      refine g_6_now C kdn_299 mF_X6_10 dX6_flow_34 ?_
      refine v_iload_n C dX6_flow_37 rfl 0 rfl ?_
      refine v_iload_n C dX6_flow_38 rfl 3 rfl ?_
      refine k_X2_bringToWindow C 0 r2 a2 kdn_0 h mM_X6_93 ⟨Nat.le_of_ble_eq_true rfl, Nat.le_of_ble_eq_true rfl⟩ (Nat.le_of_ble_eq_true rfl) dX6_flow_39 (fun σ6 h => ?_)
      refine v_aload_n C dX6_flow_42 rfl 1 rfl ?_
      refine g_6_now C kdn_299 mF_X6_10 dX6_flow_43 ?_
      refine g_2_window C kdn_0 mF_X6_97 dX6_flow_46 ?_
      refine g_5_arrivals C kdn_22 mF_X6_101 dX6_flow_49 ?_
      exact v_iret C dX6_flow_52 hret hlk h
    · replace h := h.1 hc
      refine v_bipush C (v := (-2)) dX6_flow_19 rfl ?_
      exact v_iret C dX6_flow_21 hret hlk h
  · replace h := h.1 hc
    refine v_iconst C (v := (-1)) dX6_flow_10 rfl ?_
    exact v_iret C dX6_flow_11 hret hlk h
theorem hd_X6_flow : yX6_flow.cls ≠ "java/lang/invoke/MethodHandle" ∧ yX6_flow.cls ≠ "java/lang/invoke/VarHandle" ∧ (parseMethodDescriptor yX6_flow.desc).map (fun d => d.parameters.length) = some 2 := by decide +kernel
theorem k_X6_flow {p : Program} {l : Launch} {e : Env} {R : Room} {s : State} {m : MethodId} {args : Array Value} {below : List Frame} {meth : Method} {c : Code} {nL cells slots : Nat} {Q : State → Prop} {A : Nat → Prop} {L : Ly} {own : String} {cc : ByteArray} {σ : Mem} {pc idx : Nat} {lv : List (Nat × Value)} {st : List Value} {K : Int32 → Mem → Prop} (C : Cx p R s m args meth c own cc nL cells slots A L) (a1 : Int32) (a2 : Int32)  (h : w_X6_flow a1 a2 σ K) (hml : Cond.methodLink own idx yX6_flow ∈ wA) (hR : rm_X6_flow.frames + 1 ≤ R.frames ∧ 8 + (4 + 11) + rm_X6_flow.locals ≤ R.locals) (hsum : (st.map fun v => v.category).sum ≤ 8) (d : decode cc pc = .ok (.invokevirtual idx, 3)) (kk : ∀ r σ1, K r σ1 → V p l e R s m args below meth c nL cells slots Q A L σ1 (pc + 3) lv (.int r :: st)) : V p l e R s m args below meth c nL cells slots Q A L σ pc lv (.int a2 :: .int a1 :: .ref (lad L 299) :: st) := v_callVi C [.int a1, .int a2] (fun sz => c_X6_flow l L a1 a2 σ _  h sz) mC_X6_flow mZ_X6 hd_X6_flow mI_X6_flow mS_X6_flow rfl rfl (c0 := 6) (ci := 6) (by decide) rfl rfl rfl kdn_299 hml hR rfl hsum d kk
-- ===== RX6.flowAll
abbrev rm_X6_flowAll : Room := { frames := 6, cells := 0, slots := 0, locals := 135 }
def w_X6_flowAll_31  (K : Int32 → Mem → Prop)  : Nat → Int32 → Mem → Prop
  | 0, _, _ => False
  | n + 1, x2, σ => (br ((σ 302 4) ≤ x2) (K (σ 302 4) σ) (vp_in x2 60 ∧ (vp_in x2 60 ∧ (w_X2_bringToWindow 0 (σ 304 (ix x2)) (σ 305 (ix x2)) σ (fun σ6 => (w_X6_flowAll_31  K  n (x2 + 1) σ6))))))
set_option maxHeartbeats 4000000 in
set_option maxRecDepth 100000 in
theorem b_X6_flowAll_31 {p : Program} {l : Launch} {e : Env} {s : State} {m : MethodId} {args : Array Value} {below : List Frame} {meth : Method} {c : Code} {L : Ly} {sz : Nat} (C : Cx p rm_X6_flowAll s m args meth c RX6 cX6_flowAll 3 0 0 (mA L sz) L) (hret : meth.sig.returnType = (some .int)) (hlk : meth.locks = false)   (K : Int32 → Mem → Prop)  : ∀ (n : Nat) (x2 : Int32) (σ : Mem), w_X6_flowAll_31  K  n x2 σ → V p l e rm_X6_flowAll s m args below meth c 3 0 0 (MQ below (va_Qi K (mE L) (mA L sz)) args s 0 0 (mA L sz)) (mA L sz) L σ 31 [(0, .ref (lad L 299)), (2, .int x2)] [] := by
  intro n
  induction n with
  | zero => intro x2 σ  h; exact h.elim
  | succ n ih =>
    intro x2 σ  h
    rw [w_X6_flowAll_31] at h
    refine v_iload_n C dX6_flowAll_31 rfl 1 rfl ?_
    refine v_aload_n C dX6_flowAll_32 rfl 0 rfl ?_
    refine g_6_text C kdn_299 mF_X6_33 dX6_flowAll_33 ?_
    refine g_4_arrivals C kdn_302 mF_X6_83 dX6_flowAll_36 ?_
    refine v_icmp_ge C (tgt := 73) dX6_flowAll_39 (by decide) (fun hc => ?_) (fun hc => ?_)
    · replace h := h.1 hc
      refine v_aload_n C dX6_flowAll_73 rfl 0 rfl ?_
      refine g_6_text C kdn_299 mF_X6_33 dX6_flowAll_74 ?_
      refine g_4_arrivals C kdn_302 mF_X6_83 dX6_flowAll_77 ?_
      exact v_iret C dX6_flowAll_80 hret hlk h
    · replace h := h.2 hc
      refine v_aload_n C dX6_flowAll_42 rfl 0 rfl ?_
      refine g_6_now C kdn_299 mF_X6_10 dX6_flowAll_43 ?_
      refine v_aload_n C dX6_flowAll_46 rfl 0 rfl ?_
      refine g_6_text C kdn_299 mF_X6_33 dX6_flowAll_47 ?_
      refine g_4_letters C kdn_302 mF_X6_86 dX6_flowAll_50 ?_
      refine v_iload_n C dX6_flowAll_53 rfl 1 rfl ?_
      obtain ⟨hi4, h⟩ := h
      refine v_iald C (c0 := 22) (by decide) rfl kdn_304 hi4 dX6_flowAll_54 ?_
      refine v_aload_n C dX6_flowAll_55 rfl 0 rfl ?_
      refine g_6_text C kdn_299 mF_X6_33 dX6_flowAll_56 ?_
      refine g_4_weights C kdn_302 mF_X6_90 dX6_flowAll_59 ?_
      refine v_iload_n C dX6_flowAll_62 rfl 1 rfl ?_
      obtain ⟨hi5, h⟩ := h
      refine v_iald C (c0 := 22) (by decide) rfl kdn_305 hi5 dX6_flowAll_63 ?_
      refine k_X2_bringToWindow C 0 (σ 304 (ix x2)) (σ 305 (ix x2)) kdn_0 h mM_X6_93 ⟨Nat.le_of_ble_eq_true rfl, Nat.le_of_ble_eq_true rfl⟩ (Nat.le_of_ble_eq_true rfl) dX6_flowAll_64 (fun σ6 h => ?_)
      refine v_iinc C [(2, .int (x2 + 1)), (0, .ref (lad L 299))] dX6_flowAll_67 1 rfl rfl (by decide) rfl ?_
      refine v_goto C (tgt := 31) dX6_flowAll_70 (by decide) ?_
      refine v_sub [1, 0] rfl ?_
      exact ih _ _  h
def w_X6_flowAll  (σ : Mem) (K : Int32 → Mem → Prop) : Prop := (w_X4_readArrivals  σ (fun r2 σ1 => (br (r2 = (-1)) (w_X0_remember 0 σ1 (fun σ3 => (∃ n7, w_X6_flowAll_31  K  n7 0 σ3))) (K ((-100) - r2) σ1))))
set_option maxHeartbeats 4000000 in
set_option maxRecDepth 100000 in
theorem c_X6_flowAll (l : Launch) (L : Ly)  (σ : Mem) (K : Int32 → Mem → Prop)  (h : w_X6_flowAll  σ K) (sz : Nat) : Met l yX6_flowAll (.code yX6_flowAll cX6_flowAll 3 (some .int) :: wA) rm_X6_flowAll (va_Pc [.ref (lad L 299)] (mB L sz σ)) (va_Qi K (mE L) (mA L sz)) 0 0 (mA L sz) := by
  refine v_start (own := RX6) [(0, .ref (lad L 299))] (by decide) rfl (Nat.le_of_ble_eq_true rfl) rfl (fun p e s m args below meth c C hret hlk => ?_)
  unfold w_X6_flowAll at h
  refine v_aload_n C dX6_flowAll_0 rfl 0 rfl ?_
  refine g_6_text C kdn_299 mF_X6_33 dX6_flowAll_1 ?_
  refine k_X4_readArrivals C   h mM_X6_76 ⟨Nat.le_of_ble_eq_true rfl, Nat.le_of_ble_eq_true rfl⟩ (Nat.le_of_ble_eq_true rfl) dX6_flowAll_4 (fun r2 σ1 h => ?_)
  refine v_istore_n C [(1, .int r2), (0, .ref (lad L 299))] dX6_flowAll_7 rfl (by decide) rfl ?_
  refine v_iload_n C dX6_flowAll_8 rfl 0 rfl ?_
  refine v_iconst C (v := (-1)) dX6_flowAll_9 rfl ?_
  refine v_icmp_eq C (tgt := 18) dX6_flowAll_10 (by decide) (fun hc => ?_) (fun hc => ?_)
  · replace h := h.1 hc
    refine v_aload_n C dX6_flowAll_18 rfl 1 rfl ?_
    refine g_6_history C kdn_299 mF_X6_19 dX6_flowAll_19 ?_
    refine v_aload_n C dX6_flowAll_22 rfl 1 rfl ?_
    refine g_6_now C kdn_299 mF_X6_10 dX6_flowAll_23 ?_
    refine k_X0_remember C 0 kdn_0 h mM_X6_64 ⟨Nat.le_of_ble_eq_true rfl, Nat.le_of_ble_eq_true rfl⟩ (Nat.le_of_ble_eq_true rfl) dX6_flowAll_26 (fun σ3 h => ?_)
    refine v_iconst C (v := 0) dX6_flowAll_29 rfl ?_
    refine v_istore_n C [(2, .int 0), (1, .int r2), (0, .ref (lad L 299))] dX6_flowAll_30 rfl (by decide) rfl ?_
    obtain ⟨n7, h⟩ := h
    refine v_sub [2, 0] rfl ?_
    exact b_X6_flowAll_31 C hret hlk   K   n7 _ _  h
  · replace h := h.2 hc
    refine v_bipush C (v := (-100)) dX6_flowAll_13 rfl ?_
    refine v_iload_n C dX6_flowAll_15 rfl 0 rfl ?_
    refine v_isub C dX6_flowAll_16 ?_
    exact v_iret C dX6_flowAll_17 hret hlk h
theorem hd_X6_flowAll : yX6_flowAll.cls ≠ "java/lang/invoke/MethodHandle" ∧ yX6_flowAll.cls ≠ "java/lang/invoke/VarHandle" ∧ (parseMethodDescriptor yX6_flowAll.desc).map (fun d => d.parameters.length) = some 0 := by decide +kernel
theorem k_X6_flowAll {p : Program} {l : Launch} {e : Env} {R : Room} {s : State} {m : MethodId} {args : Array Value} {below : List Frame} {meth : Method} {c : Code} {nL cells slots : Nat} {Q : State → Prop} {A : Nat → Prop} {L : Ly} {own : String} {cc : ByteArray} {σ : Mem} {pc idx : Nat} {lv : List (Nat × Value)} {st : List Value} {K : Int32 → Mem → Prop} (C : Cx p R s m args meth c own cc nL cells slots A L)   (h : w_X6_flowAll  σ K) (hml : Cond.methodLink own idx yX6_flowAll ∈ wA) (hR : rm_X6_flowAll.frames + 1 ≤ R.frames ∧ 8 + (3 + 11) + rm_X6_flowAll.locals ≤ R.locals) (hsum : (st.map fun v => v.category).sum ≤ 8) (d : decode cc pc = .ok (.invokevirtual idx, 3)) (kk : ∀ r σ1, K r σ1 → V p l e R s m args below meth c nL cells slots Q A L σ1 (pc + 3) lv (.int r :: st)) : V p l e R s m args below meth c nL cells slots Q A L σ pc lv (.ref (lad L 299) :: st) := v_callVi C [] (fun sz => c_X6_flowAll l L  σ _  h sz) mC_X6_flowAll mZ_X6 hd_X6_flowAll mI_X6_flowAll mS_X6_flowAll rfl rfl (c0 := 6) (ci := 6) (by decide) rfl rfl rfl kdn_299 hml hR rfl hsum d kk
-- ===== RX6.merge
abbrev rm_X6_merge : Room := { frames := 5, cells := 0, slots := 0, locals := 126 }
def w_X6_merge (a1 : Int32) (a2 : Int32) (σ : Mem) (K : Int32 → Mem → Prop) : Prop := (w_X6_isSummary a1 σ (fun r2 σ1 => (br (r2 = 0) (K (-1) σ1) (w_X6_isSummary a2 σ1 (fun r4 σ3 => (br (r4 = 0) (K (-1) σ3) (br (a1 = a2) (K (-2) σ3) (vp_in a1 4 ∧ (vp_in a2 4 ∧ (br (((σ3 (2 + 5 * ix a1) 2) + (σ3 (2 + 5 * ix a2) 2)) ≤ 1000000) (w_X0_remember 0 σ3 (fun σ7 => (w_X2_join 0 a1 a2 σ7 (fun r9 σ8 => (K r9 σ8))))) (K (-3) σ3)))))))))))
set_option maxHeartbeats 4000000 in
set_option maxRecDepth 100000 in
theorem c_X6_merge (l : Launch) (L : Ly) (a1 : Int32) (a2 : Int32) (σ : Mem) (K : Int32 → Mem → Prop)  (h : w_X6_merge a1 a2 σ K) (sz : Nat) : Met l yX6_merge (.code yX6_merge cX6_merge 3 (some .int) :: wA) rm_X6_merge (va_Pc [.ref (lad L 299), .int a1, .int a2] (mB L sz σ)) (va_Qi K (mE L) (mA L sz)) 0 0 (mA L sz) := by
  refine v_start (own := RX6) [(0, .ref (lad L 299)), (1, .int a1), (2, .int a2)] (by decide) rfl (Nat.le_of_ble_eq_true rfl) rfl (fun p e s m args below meth c C hret hlk => ?_)
  unfold w_X6_merge at h
  refine v_iload_n C dX6_merge_0 rfl 1 rfl ?_
  refine k_X6_isSummary C a1  h mM_X6_48 ⟨Nat.le_of_ble_eq_true rfl, Nat.le_of_ble_eq_true rfl⟩ (Nat.le_of_ble_eq_true rfl) dX6_merge_1 (fun r2 σ1 h => ?_)
  refine v_if_eq C (tgt := 14) dX6_merge_4 (by decide) (fun hc => ?_) (fun hc => ?_)
  · replace h := h.1 hc
    refine v_iconst C (v := (-1)) dX6_merge_14 rfl ?_
    exact v_iret C dX6_merge_15 hret hlk h
  · replace h := h.2 hc
    refine v_iload_n C dX6_merge_7 rfl 2 rfl ?_
    refine k_X6_isSummary C a2  h mM_X6_48 ⟨Nat.le_of_ble_eq_true rfl, Nat.le_of_ble_eq_true rfl⟩ (Nat.le_of_ble_eq_true rfl) dX6_merge_8 (fun r4 σ3 h => ?_)
    refine v_if_ne C (tgt := 16) dX6_merge_11 (by decide) (fun hc => ?_) (fun hc => ?_)
    · replace h := h.2 hc
      refine v_iload_n C dX6_merge_16 rfl 1 rfl ?_
      refine v_iload_n C dX6_merge_17 rfl 2 rfl ?_
      refine v_icmp_ne C (tgt := 24) dX6_merge_18 (by decide) (fun hc => ?_) (fun hc => ?_)
      · replace h := h.2 hc
        refine v_aload_n C dX6_merge_24 rfl 0 rfl ?_
        refine g_6_now C kdn_299 mF_X6_10 dX6_merge_25 ?_
        refine g_2_summaries C kdn_0 mF_X6_55 dX6_merge_28 ?_
        refine v_iload_n C dX6_merge_31 rfl 1 rfl ?_
        obtain ⟨hi5, h⟩ := h
        refine v_aald C (c0 := 11) (t0 := 3) (v := .ref (lad L (2 + 5 * ix a1))) (by decide) rfl rfl rfl kdn_1 hi5 dX6_merge_32 ?_
        refine g_3_sum C (kd_el kdn_1 hi5) mF_X6_59 dX6_merge_33 ?_
        refine v_aload_n C dX6_merge_36 rfl 0 rfl ?_
        refine g_6_now C kdn_299 mF_X6_10 dX6_merge_37 ?_
        refine g_2_summaries C kdn_0 mF_X6_55 dX6_merge_40 ?_
        refine v_iload_n C dX6_merge_43 rfl 2 rfl ?_
        obtain ⟨hi6, h⟩ := h
        refine v_aald C (c0 := 11) (t0 := 3) (v := .ref (lad L (2 + 5 * ix a2))) (by decide) rfl rfl rfl kdn_1 hi6 dX6_merge_44 ?_
        refine g_3_sum C (kd_el kdn_1 hi6) mF_X6_59 dX6_merge_45 ?_
        refine v_iadd C dX6_merge_48 ?_
        refine v_ldc C dX6_merge_49 mN_X6_63 ?_
        refine v_icmp_le C (tgt := 57) dX6_merge_51 (by decide) (fun hc => ?_) (fun hc => ?_)
        · replace h := h.1 hc
          refine v_aload_n C dX6_merge_57 rfl 0 rfl ?_
          refine g_6_history C kdn_299 mF_X6_19 dX6_merge_58 ?_
          refine v_aload_n C dX6_merge_61 rfl 0 rfl ?_
          refine g_6_now C kdn_299 mF_X6_10 dX6_merge_62 ?_
          refine k_X0_remember C 0 kdn_0 h mM_X6_64 ⟨Nat.le_of_ble_eq_true rfl, Nat.le_of_ble_eq_true rfl⟩ (Nat.le_of_ble_eq_true rfl) dX6_merge_65 (fun σ7 h => ?_)
          refine v_aload_n C dX6_merge_68 rfl 0 rfl ?_
          refine g_6_now C kdn_299 mF_X6_10 dX6_merge_69 ?_
          refine v_iload_n C dX6_merge_72 rfl 1 rfl ?_
          refine v_iload_n C dX6_merge_73 rfl 2 rfl ?_
          refine k_X2_join C 0 a1 a2 kdn_0 h mM_X6_104 ⟨Nat.le_of_ble_eq_true rfl, Nat.le_of_ble_eq_true rfl⟩ (Nat.le_of_ble_eq_true rfl) dX6_merge_74 (fun r9 σ8 h => ?_)
          exact v_iret C dX6_merge_77 hret hlk h
        · replace h := h.2 hc
          refine v_bipush C (v := (-3)) dX6_merge_54 rfl ?_
          exact v_iret C dX6_merge_56 hret hlk h
      · replace h := h.1 hc
        refine v_bipush C (v := (-2)) dX6_merge_21 rfl ?_
        exact v_iret C dX6_merge_23 hret hlk h
    · replace h := h.1 hc
      refine v_iconst C (v := (-1)) dX6_merge_14 rfl ?_
      exact v_iret C dX6_merge_15 hret hlk h
theorem hd_X6_merge : yX6_merge.cls ≠ "java/lang/invoke/MethodHandle" ∧ yX6_merge.cls ≠ "java/lang/invoke/VarHandle" ∧ (parseMethodDescriptor yX6_merge.desc).map (fun d => d.parameters.length) = some 2 := by decide +kernel
theorem k_X6_merge {p : Program} {l : Launch} {e : Env} {R : Room} {s : State} {m : MethodId} {args : Array Value} {below : List Frame} {meth : Method} {c : Code} {nL cells slots : Nat} {Q : State → Prop} {A : Nat → Prop} {L : Ly} {own : String} {cc : ByteArray} {σ : Mem} {pc idx : Nat} {lv : List (Nat × Value)} {st : List Value} {K : Int32 → Mem → Prop} (C : Cx p R s m args meth c own cc nL cells slots A L) (a1 : Int32) (a2 : Int32)  (h : w_X6_merge a1 a2 σ K) (hml : Cond.methodLink own idx yX6_merge ∈ wA) (hR : rm_X6_merge.frames + 1 ≤ R.frames ∧ 8 + (3 + 11) + rm_X6_merge.locals ≤ R.locals) (hsum : (st.map fun v => v.category).sum ≤ 8) (d : decode cc pc = .ok (.invokevirtual idx, 3)) (kk : ∀ r σ1, K r σ1 → V p l e R s m args below meth c nL cells slots Q A L σ1 (pc + 3) lv (.int r :: st)) : V p l e R s m args below meth c nL cells slots Q A L σ pc lv (.int a2 :: .int a1 :: .ref (lad L 299) :: st) := v_callVi C [.int a1, .int a2] (fun sz => c_X6_merge l L a1 a2 σ _  h sz) mC_X6_merge mZ_X6 hd_X6_merge mI_X6_merge mS_X6_merge rfl rfl (c0 := 6) (ci := 6) (by decide) rfl rfl rfl kdn_299 hml hR rfl hsum d kk
-- ===== RX6.copy
abbrev rm_X6_copy : Room := { frames := 5, cells := 0, slots := 0, locals := 126 }
def w_X6_copy (a1 : Int32) (a2 : Int32) (σ : Mem) (K : Int32 → Mem → Prop) : Prop := (w_X6_isSummary a1 σ (fun r2 σ1 => (br (r2 = 0) (K (-1) σ1) (w_X6_isSummary a2 σ1 (fun r4 σ3 => (br (r4 = 0) (K (-1) σ3) (br (a1 = a2) (K (-2) σ3) (w_X0_remember 0 σ3 (fun σ5 => (vp_in a1 4 ∧ (vp_in a2 4 ∧ (w_X3_become (2 + 5 * ix a1) (2 + 5 * ix a2) σ5 (fun σ8 => (vp_in a1 4 ∧ (w_X3_counters (2 + 5 * ix a1) σ8 (fun r11 σ10 => (K r11 σ10)))))))))))))))))
set_option maxHeartbeats 4000000 in
set_option maxRecDepth 100000 in
theorem c_X6_copy (l : Launch) (L : Ly) (a1 : Int32) (a2 : Int32) (σ : Mem) (K : Int32 → Mem → Prop)  (h : w_X6_copy a1 a2 σ K) (sz : Nat) : Met l yX6_copy (.code yX6_copy cX6_copy 3 (some .int) :: wA) rm_X6_copy (va_Pc [.ref (lad L 299), .int a1, .int a2] (mB L sz σ)) (va_Qi K (mE L) (mA L sz)) 0 0 (mA L sz) := by
  refine v_start (own := RX6) [(0, .ref (lad L 299)), (1, .int a1), (2, .int a2)] (by decide) rfl (Nat.le_of_ble_eq_true rfl) rfl (fun p e s m args below meth c C hret hlk => ?_)
  unfold w_X6_copy at h
  refine v_iload_n C dX6_copy_0 rfl 1 rfl ?_
  refine k_X6_isSummary C a1  h mM_X6_48 ⟨Nat.le_of_ble_eq_true rfl, Nat.le_of_ble_eq_true rfl⟩ (Nat.le_of_ble_eq_true rfl) dX6_copy_1 (fun r2 σ1 h => ?_)
  refine v_if_eq C (tgt := 14) dX6_copy_4 (by decide) (fun hc => ?_) (fun hc => ?_)
  · replace h := h.1 hc
    refine v_iconst C (v := (-1)) dX6_copy_14 rfl ?_
    exact v_iret C dX6_copy_15 hret hlk h
  · replace h := h.2 hc
    refine v_iload_n C dX6_copy_7 rfl 2 rfl ?_
    refine k_X6_isSummary C a2  h mM_X6_48 ⟨Nat.le_of_ble_eq_true rfl, Nat.le_of_ble_eq_true rfl⟩ (Nat.le_of_ble_eq_true rfl) dX6_copy_8 (fun r4 σ3 h => ?_)
    refine v_if_ne C (tgt := 16) dX6_copy_11 (by decide) (fun hc => ?_) (fun hc => ?_)
    · replace h := h.2 hc
      refine v_iload_n C dX6_copy_16 rfl 1 rfl ?_
      refine v_iload_n C dX6_copy_17 rfl 2 rfl ?_
      refine v_icmp_ne C (tgt := 24) dX6_copy_18 (by decide) (fun hc => ?_) (fun hc => ?_)
      · replace h := h.2 hc
        refine v_aload_n C dX6_copy_24 rfl 0 rfl ?_
        refine g_6_history C kdn_299 mF_X6_19 dX6_copy_25 ?_
        refine v_aload_n C dX6_copy_28 rfl 0 rfl ?_
        refine g_6_now C kdn_299 mF_X6_10 dX6_copy_29 ?_
        refine k_X0_remember C 0 kdn_0 h mM_X6_64 ⟨Nat.le_of_ble_eq_true rfl, Nat.le_of_ble_eq_true rfl⟩ (Nat.le_of_ble_eq_true rfl) dX6_copy_32 (fun σ5 h => ?_)
        refine v_aload_n C dX6_copy_35 rfl 0 rfl ?_
        refine g_6_now C kdn_299 mF_X6_10 dX6_copy_36 ?_
        refine g_2_summaries C kdn_0 mF_X6_55 dX6_copy_39 ?_
        refine v_iload_n C dX6_copy_42 rfl 1 rfl ?_
        obtain ⟨hi6, h⟩ := h
        refine v_aald C (c0 := 11) (t0 := 3) (v := .ref (lad L (2 + 5 * ix a1))) (by decide) rfl rfl rfl kdn_1 hi6 dX6_copy_43 ?_
        refine v_aload_n C dX6_copy_44 rfl 0 rfl ?_
        refine g_6_now C kdn_299 mF_X6_10 dX6_copy_45 ?_
        refine g_2_summaries C kdn_0 mF_X6_55 dX6_copy_48 ?_
        refine v_iload_n C dX6_copy_51 rfl 2 rfl ?_
        obtain ⟨hi7, h⟩ := h
        refine v_aald C (c0 := 11) (t0 := 3) (v := .ref (lad L (2 + 5 * ix a2))) (by decide) rfl rfl rfl kdn_1 hi7 dX6_copy_52 ?_
        refine k_X3_become C (2 + 5 * ix a1) (2 + 5 * ix a2) (kd_el kdn_1 hi6) (kd_el kdn_1 hi7) h mM_X6_108 ⟨Nat.le_of_ble_eq_true rfl, Nat.le_of_ble_eq_true rfl⟩ (Nat.le_of_ble_eq_true rfl) dX6_copy_53 (fun σ8 h => ?_)
        refine v_aload_n C dX6_copy_56 rfl 0 rfl ?_
        refine g_6_now C kdn_299 mF_X6_10 dX6_copy_57 ?_
        refine g_2_summaries C kdn_0 mF_X6_55 dX6_copy_60 ?_
        refine v_iload_n C dX6_copy_63 rfl 1 rfl ?_
        obtain ⟨hi9, h⟩ := h
        refine v_aald C (c0 := 11) (t0 := 3) (v := .ref (lad L (2 + 5 * ix a1))) (by decide) rfl rfl rfl kdn_1 hi9 dX6_copy_64 ?_
        refine k_X3_counters C (2 + 5 * ix a1) (kd_el kdn_1 hi9) h mM_X6_112 ⟨Nat.le_of_ble_eq_true rfl, Nat.le_of_ble_eq_true rfl⟩ (Nat.le_of_ble_eq_true rfl) dX6_copy_65 (fun r11 σ10 h => ?_)
        exact v_iret C dX6_copy_68 hret hlk h
      · replace h := h.1 hc
        refine v_bipush C (v := (-2)) dX6_copy_21 rfl ?_
        exact v_iret C dX6_copy_23 hret hlk h
    · replace h := h.1 hc
      refine v_iconst C (v := (-1)) dX6_copy_14 rfl ?_
      exact v_iret C dX6_copy_15 hret hlk h
theorem hd_X6_copy : yX6_copy.cls ≠ "java/lang/invoke/MethodHandle" ∧ yX6_copy.cls ≠ "java/lang/invoke/VarHandle" ∧ (parseMethodDescriptor yX6_copy.desc).map (fun d => d.parameters.length) = some 2 := by decide +kernel
theorem k_X6_copy {p : Program} {l : Launch} {e : Env} {R : Room} {s : State} {m : MethodId} {args : Array Value} {below : List Frame} {meth : Method} {c : Code} {nL cells slots : Nat} {Q : State → Prop} {A : Nat → Prop} {L : Ly} {own : String} {cc : ByteArray} {σ : Mem} {pc idx : Nat} {lv : List (Nat × Value)} {st : List Value} {K : Int32 → Mem → Prop} (C : Cx p R s m args meth c own cc nL cells slots A L) (a1 : Int32) (a2 : Int32)  (h : w_X6_copy a1 a2 σ K) (hml : Cond.methodLink own idx yX6_copy ∈ wA) (hR : rm_X6_copy.frames + 1 ≤ R.frames ∧ 8 + (3 + 11) + rm_X6_copy.locals ≤ R.locals) (hsum : (st.map fun v => v.category).sum ≤ 8) (d : decode cc pc = .ok (.invokevirtual idx, 3)) (kk : ∀ r σ1, K r σ1 → V p l e R s m args below meth c nL cells slots Q A L σ1 (pc + 3) lv (.int r :: st)) : V p l e R s m args below meth c nL cells slots Q A L σ pc lv (.int a2 :: .int a1 :: .ref (lad L 299) :: st) := v_callVi C [.int a1, .int a2] (fun sz => c_X6_copy l L a1 a2 σ _  h sz) mC_X6_copy mZ_X6 hd_X6_copy mI_X6_copy mS_X6_copy rfl rfl (c0 := 6) (ci := 6) (by decide) rfl rfl rfl kdn_299 hml hR rfl hsum d kk
-- ===== RX6.setSize
abbrev rm_X6_setSize : Room := { frames := 5, cells := 0, slots := 0, locals := 126 }
def w_X6_setSize (a1 : Int32) (a2 : Int32) (σ : Mem) (K : Int32 → Mem → Prop) : Prop := (w_X6_isSummary a1 σ (fun r2 σ1 => (br (r2 = 0) (K (-1) σ1) (br (a2 < 2) (K (-2) σ1) (br (a2 ≤ 10) (vp_in a1 4 ∧ (br ((σ1 (2 + 5 * ix a1) 0) = a2) (K (-5) σ1) (w_X0_remember 0 σ1 (fun σ4 => (w_X2_resize 0 a1 a2 σ4 (fun r6 σ5 => (K r6 σ5))))))) (K (-2) σ1))))))
set_option maxHeartbeats 4000000 in
set_option maxRecDepth 100000 in
theorem c_X6_setSize (l : Launch) (L : Ly) (a1 : Int32) (a2 : Int32) (σ : Mem) (K : Int32 → Mem → Prop)  (h : w_X6_setSize a1 a2 σ K) (sz : Nat) : Met l yX6_setSize (.code yX6_setSize cX6_setSize 3 (some .int) :: wA) rm_X6_setSize (va_Pc [.ref (lad L 299), .int a1, .int a2] (mB L sz σ)) (va_Qi K (mE L) (mA L sz)) 0 0 (mA L sz) := by
  refine v_start (own := RX6) [(0, .ref (lad L 299)), (1, .int a1), (2, .int a2)] (by decide) rfl (Nat.le_of_ble_eq_true rfl) rfl (fun p e s m args below meth c C hret hlk => ?_)
  unfold w_X6_setSize at h
  refine v_iload_n C dX6_setSize_0 rfl 1 rfl ?_
  refine k_X6_isSummary C a1  h mM_X6_48 ⟨Nat.le_of_ble_eq_true rfl, Nat.le_of_ble_eq_true rfl⟩ (Nat.le_of_ble_eq_true rfl) dX6_setSize_1 (fun r2 σ1 h => ?_)
  refine v_if_ne C (tgt := 9) dX6_setSize_4 (by decide) (fun hc => ?_) (fun hc => ?_)
  · replace h := h.2 hc
    refine v_iload_n C dX6_setSize_9 rfl 2 rfl ?_
    refine v_iconst C (v := 2) dX6_setSize_10 rfl ?_
    refine v_icmp_lt C (tgt := 20) dX6_setSize_11 (by decide) (fun hc => ?_) (fun hc => ?_)
    · replace h := h.1 hc
      refine v_bipush C (v := (-2)) dX6_setSize_20 rfl ?_
      exact v_iret C dX6_setSize_22 hret hlk h
    · replace h := h.2 hc
      refine v_iload_n C dX6_setSize_14 rfl 2 rfl ?_
      refine v_bipush C (v := 10) dX6_setSize_15 rfl ?_
      refine v_icmp_le C (tgt := 23) dX6_setSize_17 (by decide) (fun hc => ?_) (fun hc => ?_)
      · replace h := h.1 hc
        refine v_aload_n C dX6_setSize_23 rfl 0 rfl ?_
        refine g_6_now C kdn_299 mF_X6_10 dX6_setSize_24 ?_
        refine g_2_summaries C kdn_0 mF_X6_55 dX6_setSize_27 ?_
        refine v_iload_n C dX6_setSize_30 rfl 1 rfl ?_
        obtain ⟨hi3, h⟩ := h
        refine v_aald C (c0 := 11) (t0 := 3) (v := .ref (lad L (2 + 5 * ix a1))) (by decide) rfl rfl rfl kdn_1 hi3 dX6_setSize_31 ?_
        refine g_3_size C (kd_el kdn_1 hi3) mF_X6_115 dX6_setSize_32 ?_
        refine v_iload_n C dX6_setSize_35 rfl 2 rfl ?_
        refine v_icmp_ne C (tgt := 42) dX6_setSize_36 (by decide) (fun hc => ?_) (fun hc => ?_)
        · replace h := h.2 hc
          refine v_aload_n C dX6_setSize_42 rfl 0 rfl ?_
          refine g_6_history C kdn_299 mF_X6_19 dX6_setSize_43 ?_
          refine v_aload_n C dX6_setSize_46 rfl 0 rfl ?_
          refine g_6_now C kdn_299 mF_X6_10 dX6_setSize_47 ?_
          refine k_X0_remember C 0 kdn_0 h mM_X6_64 ⟨Nat.le_of_ble_eq_true rfl, Nat.le_of_ble_eq_true rfl⟩ (Nat.le_of_ble_eq_true rfl) dX6_setSize_50 (fun σ4 h => ?_)
          refine v_aload_n C dX6_setSize_53 rfl 0 rfl ?_
          refine g_6_now C kdn_299 mF_X6_10 dX6_setSize_54 ?_
          refine v_iload_n C dX6_setSize_57 rfl 1 rfl ?_
          refine v_iload_n C dX6_setSize_58 rfl 2 rfl ?_
          refine k_X2_resize C 0 a1 a2 kdn_0 h mM_X6_118 ⟨Nat.le_of_ble_eq_true rfl, Nat.le_of_ble_eq_true rfl⟩ (Nat.le_of_ble_eq_true rfl) dX6_setSize_59 (fun r6 σ5 h => ?_)
          exact v_iret C dX6_setSize_62 hret hlk h
        · replace h := h.1 hc
          refine v_bipush C (v := (-5)) dX6_setSize_39 rfl ?_
          exact v_iret C dX6_setSize_41 hret hlk h
      · replace h := h.2 hc
        refine v_bipush C (v := (-2)) dX6_setSize_20 rfl ?_
        exact v_iret C dX6_setSize_22 hret hlk h
  · replace h := h.1 hc
    refine v_iconst C (v := (-1)) dX6_setSize_7 rfl ?_
    exact v_iret C dX6_setSize_8 hret hlk h
theorem hd_X6_setSize : yX6_setSize.cls ≠ "java/lang/invoke/MethodHandle" ∧ yX6_setSize.cls ≠ "java/lang/invoke/VarHandle" ∧ (parseMethodDescriptor yX6_setSize.desc).map (fun d => d.parameters.length) = some 2 := by decide +kernel
theorem k_X6_setSize {p : Program} {l : Launch} {e : Env} {R : Room} {s : State} {m : MethodId} {args : Array Value} {below : List Frame} {meth : Method} {c : Code} {nL cells slots : Nat} {Q : State → Prop} {A : Nat → Prop} {L : Ly} {own : String} {cc : ByteArray} {σ : Mem} {pc idx : Nat} {lv : List (Nat × Value)} {st : List Value} {K : Int32 → Mem → Prop} (C : Cx p R s m args meth c own cc nL cells slots A L) (a1 : Int32) (a2 : Int32)  (h : w_X6_setSize a1 a2 σ K) (hml : Cond.methodLink own idx yX6_setSize ∈ wA) (hR : rm_X6_setSize.frames + 1 ≤ R.frames ∧ 8 + (3 + 11) + rm_X6_setSize.locals ≤ R.locals) (hsum : (st.map fun v => v.category).sum ≤ 8) (d : decode cc pc = .ok (.invokevirtual idx, 3)) (kk : ∀ r σ1, K r σ1 → V p l e R s m args below meth c nL cells slots Q A L σ1 (pc + 3) lv (.int r :: st)) : V p l e R s m args below meth c nL cells slots Q A L σ pc lv (.int a2 :: .int a1 :: .ref (lad L 299) :: st) := v_callVi C [.int a1, .int a2] (fun sz => c_X6_setSize l L a1 a2 σ _  h sz) mC_X6_setSize mZ_X6 hd_X6_setSize mI_X6_setSize mS_X6_setSize rfl rfl (c0 := 6) (ci := 6) (by decide) rfl rfl rfl kdn_299 hml hR rfl hsum d kk
-- ===== RX6.clear
abbrev rm_X6_clear : Room := { frames := 5, cells := 0, slots := 0, locals := 126 }
def w_X6_clear (a1 : Int32) (σ : Mem) (K : Int32 → Mem → Prop) : Prop := (w_X6_isSummary a1 σ (fun r2 σ1 => (br (r2 = 0) (K (-1) σ1) (vp_in a1 4 ∧ (∀ v4 : Int32, v4 = (σ1 (2 + 5 * ix a1) 2) → (br (v4 = 0) (K (-5) σ1) (w_X0_remember 0 σ1 (fun σ5 => (vp_in a1 4 ∧ (w_X3_wipe (2 + 5 * ix a1) σ5 (fun σ7 => (K v4 σ7))))))))))))
set_option maxHeartbeats 4000000 in
set_option maxRecDepth 100000 in
theorem c_X6_clear (l : Launch) (L : Ly) (a1 : Int32) (σ : Mem) (K : Int32 → Mem → Prop)  (h : w_X6_clear a1 σ K) (sz : Nat) : Met l yX6_clear (.code yX6_clear cX6_clear 3 (some .int) :: wA) rm_X6_clear (va_Pc [.ref (lad L 299), .int a1] (mB L sz σ)) (va_Qi K (mE L) (mA L sz)) 0 0 (mA L sz) := by
  refine v_start (own := RX6) [(0, .ref (lad L 299)), (1, .int a1)] (by decide) rfl (Nat.le_of_ble_eq_true rfl) rfl (fun p e s m args below meth c C hret hlk => ?_)
  unfold w_X6_clear at h
  refine v_iload_n C dX6_clear_0 rfl 1 rfl ?_
  refine k_X6_isSummary C a1  h mM_X6_48 ⟨Nat.le_of_ble_eq_true rfl, Nat.le_of_ble_eq_true rfl⟩ (Nat.le_of_ble_eq_true rfl) dX6_clear_1 (fun r2 σ1 h => ?_)
  refine v_if_ne C (tgt := 9) dX6_clear_4 (by decide) (fun hc => ?_) (fun hc => ?_)
  · replace h := h.2 hc
    refine v_aload_n C dX6_clear_9 rfl 0 rfl ?_
    refine g_6_now C kdn_299 mF_X6_10 dX6_clear_10 ?_
    refine g_2_summaries C kdn_0 mF_X6_55 dX6_clear_13 ?_
    refine v_iload_n C dX6_clear_16 rfl 1 rfl ?_
    obtain ⟨hi3, h⟩ := h
    refine v_aald C (c0 := 11) (t0 := 3) (v := .ref (lad L (2 + 5 * ix a1))) (by decide) rfl rfl rfl kdn_1 hi3 dX6_clear_17 ?_
    refine g_3_sum C (kd_el kdn_1 hi3) mF_X6_59 dX6_clear_18 ?_
    refine v_nm (fun v4 ev4 => ?_)
    replace h := h v4 ev4
    refine v_istore_n C [(2, .int v4), (0, .ref (lad L 299)), (1, .int a1)] dX6_clear_21 rfl (by decide) rfl ?_
    refine v_iload_n C dX6_clear_22 rfl 0 rfl ?_
    refine v_if_ne C (tgt := 29) dX6_clear_23 (by decide) (fun hc => ?_) (fun hc => ?_)
    · replace h := h.2 hc
      refine v_aload_n C dX6_clear_29 rfl 1 rfl ?_
      refine g_6_history C kdn_299 mF_X6_19 dX6_clear_30 ?_
      refine v_aload_n C dX6_clear_33 rfl 1 rfl ?_
      refine g_6_now C kdn_299 mF_X6_10 dX6_clear_34 ?_
      refine k_X0_remember C 0 kdn_0 h mM_X6_64 ⟨Nat.le_of_ble_eq_true rfl, Nat.le_of_ble_eq_true rfl⟩ (Nat.le_of_ble_eq_true rfl) dX6_clear_37 (fun σ5 h => ?_)
      refine v_aload_n C dX6_clear_40 rfl 1 rfl ?_
      refine g_6_now C kdn_299 mF_X6_10 dX6_clear_41 ?_
      refine g_2_summaries C kdn_0 mF_X6_55 dX6_clear_44 ?_
      refine v_iload_n C dX6_clear_47 rfl 2 rfl ?_
      obtain ⟨hi6, h⟩ := h
      refine v_aald C (c0 := 11) (t0 := 3) (v := .ref (lad L (2 + 5 * ix a1))) (by decide) rfl rfl rfl kdn_1 hi6 dX6_clear_48 ?_
      refine k_X3_wipe C (2 + 5 * ix a1) (kd_el kdn_1 hi6) h mM_X6_121 ⟨Nat.le_of_ble_eq_true rfl, Nat.le_of_ble_eq_true rfl⟩ (Nat.le_of_ble_eq_true rfl) dX6_clear_49 (fun σ7 h => ?_)
      refine v_iload_n C dX6_clear_52 rfl 0 rfl ?_
      exact v_iret C dX6_clear_53 hret hlk h
    · replace h := h.1 hc
      refine v_bipush C (v := (-5)) dX6_clear_26 rfl ?_
      exact v_iret C dX6_clear_28 hret hlk h
  · replace h := h.1 hc
    refine v_iconst C (v := (-1)) dX6_clear_7 rfl ?_
    exact v_iret C dX6_clear_8 hret hlk h
theorem hd_X6_clear : yX6_clear.cls ≠ "java/lang/invoke/MethodHandle" ∧ yX6_clear.cls ≠ "java/lang/invoke/VarHandle" ∧ (parseMethodDescriptor yX6_clear.desc).map (fun d => d.parameters.length) = some 1 := by decide +kernel
theorem k_X6_clear {p : Program} {l : Launch} {e : Env} {R : Room} {s : State} {m : MethodId} {args : Array Value} {below : List Frame} {meth : Method} {c : Code} {nL cells slots : Nat} {Q : State → Prop} {A : Nat → Prop} {L : Ly} {own : String} {cc : ByteArray} {σ : Mem} {pc idx : Nat} {lv : List (Nat × Value)} {st : List Value} {K : Int32 → Mem → Prop} (C : Cx p R s m args meth c own cc nL cells slots A L) (a1 : Int32)  (h : w_X6_clear a1 σ K) (hml : Cond.methodLink own idx yX6_clear ∈ wA) (hR : rm_X6_clear.frames + 1 ≤ R.frames ∧ 8 + (3 + 11) + rm_X6_clear.locals ≤ R.locals) (hsum : (st.map fun v => v.category).sum ≤ 8) (d : decode cc pc = .ok (.invokevirtual idx, 3)) (kk : ∀ r σ1, K r σ1 → V p l e R s m args below meth c nL cells slots Q A L σ1 (pc + 3) lv (.int r :: st)) : V p l e R s m args below meth c nL cells slots Q A L σ pc lv (.int a1 :: .ref (lad L 299) :: st) := v_callVi C [.int a1] (fun sz => c_X6_clear l L a1 σ _  h sz) mC_X6_clear mZ_X6 hd_X6_clear mI_X6_clear mS_X6_clear rfl rfl (c0 := 6) (ci := 6) (by decide) rfl rfl rfl kdn_299 hml hR rfl hsum d kk
-- ===== RX6.type
abbrev rm_X6_type : Room := { frames := 1, cells := 0, slots := 0, locals := 21 }
def w_X6_type (a1 : Int32) (σ : Mem) (K : Int32 → Mem → Prop) : Prop := (br ((σ 302 1) < 60) (w_X4_put a1 σ (fun σ1 => (K (σ1 302 1) σ1))) (K (-3) σ))
set_option maxHeartbeats 4000000 in
set_option maxRecDepth 100000 in
theorem c_X6_type (l : Launch) (L : Ly) (a1 : Int32) (σ : Mem) (K : Int32 → Mem → Prop)  (h : w_X6_type a1 σ K) (sz : Nat) : Met l yX6_type (.code yX6_type cX6_type 2 (some .int) :: wA) rm_X6_type (va_Pc [.ref (lad L 299), .int a1] (mB L sz σ)) (va_Qi K (mE L) (mA L sz)) 0 0 (mA L sz) := by
  refine v_start (own := RX6) [(0, .ref (lad L 299)), (1, .int a1)] (by decide) rfl (Nat.le_of_ble_eq_true rfl) rfl (fun p e s m args below meth c C hret hlk => ?_)
  unfold w_X6_type at h
  refine v_aload_n C dX6_type_0 rfl 0 rfl ?_
  refine g_6_text C kdn_299 mF_X6_33 dX6_type_1 ?_
  refine g_4_length C kdn_302 mF_X6_124 dX6_type_4 ?_
  refine v_bipush C (v := 60) dX6_type_7 rfl ?_
  refine v_icmp_lt C (tgt := 15) dX6_type_9 (by decide) (fun hc => ?_) (fun hc => ?_)
  · replace h := h.1 hc
    refine v_aload_n C dX6_type_15 rfl 0 rfl ?_
    refine g_6_text C kdn_299 mF_X6_33 dX6_type_16 ?_
    refine v_iload_n C dX6_type_19 rfl 1 rfl ?_
    refine k_X4_put C a1  h mM_X6_127 ⟨Nat.le_of_ble_eq_true rfl, Nat.le_of_ble_eq_true rfl⟩ (Nat.le_of_ble_eq_true rfl) dX6_type_20 (fun σ1 h => ?_)
    refine v_aload_n C dX6_type_23 rfl 0 rfl ?_
    refine g_6_text C kdn_299 mF_X6_33 dX6_type_24 ?_
    refine g_4_length C kdn_302 mF_X6_124 dX6_type_27 ?_
    exact v_iret C dX6_type_30 hret hlk h
  · replace h := h.2 hc
    refine v_bipush C (v := (-3)) dX6_type_12 rfl ?_
    exact v_iret C dX6_type_14 hret hlk h
theorem hd_X6_type : yX6_type.cls ≠ "java/lang/invoke/MethodHandle" ∧ yX6_type.cls ≠ "java/lang/invoke/VarHandle" ∧ (parseMethodDescriptor yX6_type.desc).map (fun d => d.parameters.length) = some 1 := by decide +kernel
theorem k_X6_type {p : Program} {l : Launch} {e : Env} {R : Room} {s : State} {m : MethodId} {args : Array Value} {below : List Frame} {meth : Method} {c : Code} {nL cells slots : Nat} {Q : State → Prop} {A : Nat → Prop} {L : Ly} {own : String} {cc : ByteArray} {σ : Mem} {pc idx : Nat} {lv : List (Nat × Value)} {st : List Value} {K : Int32 → Mem → Prop} (C : Cx p R s m args meth c own cc nL cells slots A L) (a1 : Int32)  (h : w_X6_type a1 σ K) (hml : Cond.methodLink own idx yX6_type ∈ wA) (hR : rm_X6_type.frames + 1 ≤ R.frames ∧ 8 + (2 + 11) + rm_X6_type.locals ≤ R.locals) (hsum : (st.map fun v => v.category).sum ≤ 8) (d : decode cc pc = .ok (.invokevirtual idx, 3)) (kk : ∀ r σ1, K r σ1 → V p l e R s m args below meth c nL cells slots Q A L σ1 (pc + 3) lv (.int r :: st)) : V p l e R s m args below meth c nL cells slots Q A L σ pc lv (.int a1 :: .ref (lad L 299) :: st) := v_callVi C [.int a1] (fun sz => c_X6_type l L a1 σ _  h sz) mC_X6_type mZ_X6 hd_X6_type mI_X6_type mS_X6_type rfl rfl (c0 := 6) (ci := 6) (by decide) rfl rfl rfl kdn_299 hml hR rfl hsum d kk
-- ===== RX6.clearText
abbrev rm_X6_clearText : Room := { frames := 0, cells := 0, slots := 0, locals := 0 }
def w_X6_clearText  (σ : Mem) (K : Int32 → Mem → Prop) : Prop := (∀ v1 : Int32, v1 = (σ 302 1) → (∀ σ2 : Mem, σ2 = mu σ 302 1 0 → (K v1 σ2)))
set_option maxHeartbeats 4000000 in
set_option maxRecDepth 100000 in
theorem c_X6_clearText (l : Launch) (L : Ly)  (σ : Mem) (K : Int32 → Mem → Prop)  (h : w_X6_clearText  σ K) (sz : Nat) : Met l yX6_clearText (.code yX6_clearText cX6_clearText 2 (some .int) :: wA) rm_X6_clearText (va_Pc [.ref (lad L 299)] (mB L sz σ)) (va_Qi K (mE L) (mA L sz)) 0 0 (mA L sz) := by
  refine v_start (own := RX6) [(0, .ref (lad L 299))] (by decide) rfl (Nat.le_of_ble_eq_true rfl) rfl (fun p e s m args below meth c C hret hlk => ?_)
  unfold w_X6_clearText at h
  refine v_aload_n C dX6_clearText_0 rfl 0 rfl ?_
  refine g_6_text C kdn_299 mF_X6_33 dX6_clearText_1 ?_
  refine g_4_length C kdn_302 mF_X6_124 dX6_clearText_4 ?_
  refine v_nm (fun v1 ev1 => ?_)
  replace h := h v1 ev1
  refine v_istore_n C [(1, .int v1), (0, .ref (lad L 299))] dX6_clearText_7 rfl (by decide) rfl ?_
  refine v_aload_n C dX6_clearText_8 rfl 1 rfl ?_
  refine g_6_text C kdn_299 mF_X6_33 dX6_clearText_9 ?_
  refine v_iconst C (v := 0) dX6_clearText_12 rfl ?_
  refine p_4_length C kdn_302 mF_X6_124 dX6_clearText_13 (fun σ2 eσ2 => ?_)
  replace h := h σ2 eσ2
  refine v_iload_n C dX6_clearText_16 rfl 0 rfl ?_
  exact v_iret C dX6_clearText_17 hret hlk h
theorem hd_X6_clearText : yX6_clearText.cls ≠ "java/lang/invoke/MethodHandle" ∧ yX6_clearText.cls ≠ "java/lang/invoke/VarHandle" ∧ (parseMethodDescriptor yX6_clearText.desc).map (fun d => d.parameters.length) = some 0 := by decide +kernel
theorem k_X6_clearText {p : Program} {l : Launch} {e : Env} {R : Room} {s : State} {m : MethodId} {args : Array Value} {below : List Frame} {meth : Method} {c : Code} {nL cells slots : Nat} {Q : State → Prop} {A : Nat → Prop} {L : Ly} {own : String} {cc : ByteArray} {σ : Mem} {pc idx : Nat} {lv : List (Nat × Value)} {st : List Value} {K : Int32 → Mem → Prop} (C : Cx p R s m args meth c own cc nL cells slots A L)   (h : w_X6_clearText  σ K) (hml : Cond.methodLink own idx yX6_clearText ∈ wA) (hR : rm_X6_clearText.frames + 1 ≤ R.frames ∧ 8 + (2 + 11) + rm_X6_clearText.locals ≤ R.locals) (hsum : (st.map fun v => v.category).sum ≤ 8) (d : decode cc pc = .ok (.invokevirtual idx, 3)) (kk : ∀ r σ1, K r σ1 → V p l e R s m args below meth c nL cells slots Q A L σ1 (pc + 3) lv (.int r :: st)) : V p l e R s m args below meth c nL cells slots Q A L σ pc lv (.ref (lad L 299) :: st) := v_callVi C [] (fun sz => c_X6_clearText l L  σ _  h sz) mC_X6_clearText mZ_X6 hd_X6_clearText mI_X6_clearText mS_X6_clearText rfl rfl (c0 := 6) (ci := 6) (by decide) rfl rfl rfl kdn_299 hml hR rfl hsum d kk
-- ===== RX6.perform
abbrev rm_X6_perform : Room := { frames := 7, cells := 0, slots := 0, locals := 151 }
def w_X6_perform  (σ : Mem) (K : Int32 → Mem → Prop) : Prop := (w_X4_readCommand  σ (fun r2 σ1 => (br (r2 = (-1)) (br ((σ1 302 5) = 1) (w_X6_merge (σ1 302 6) (σ1 302 7) σ1 (fun r13 σ12 => (K r13 σ12))) (br ((σ1 302 5) = 2) (w_X6_copy (σ1 302 6) (σ1 302 7) σ1 (fun r11 σ10 => (K r11 σ10))) (br ((σ1 302 5) = 3) (w_X6_setSize (σ1 302 6) (σ1 302 7) σ1 (fun r9 σ8 => (K r9 σ8))) (w_X6_clear (σ1 302 6) σ1 (fun r4 σ3 => (K r4 σ3)))))) (K ((-100) - r2) σ1))))
set_option maxHeartbeats 4000000 in
set_option maxRecDepth 100000 in
theorem c_X6_perform (l : Launch) (L : Ly)  (σ : Mem) (K : Int32 → Mem → Prop)  (h : w_X6_perform  σ K) (sz : Nat) : Met l yX6_perform (.code yX6_perform cX6_perform 2 (some .int) :: wA) rm_X6_perform (va_Pc [.ref (lad L 299)] (mB L sz σ)) (va_Qi K (mE L) (mA L sz)) 0 0 (mA L sz) := by
  refine v_start (own := RX6) [(0, .ref (lad L 299))] (by decide) rfl (Nat.le_of_ble_eq_true rfl) rfl (fun p e s m args below meth c C hret hlk => ?_)
  unfold w_X6_perform at h
  refine v_aload_n C dX6_perform_0 rfl 0 rfl ?_
  refine g_6_text C kdn_299 mF_X6_33 dX6_perform_1 ?_
  refine k_X4_readCommand C   h mM_X6_131 ⟨Nat.le_of_ble_eq_true rfl, Nat.le_of_ble_eq_true rfl⟩ (Nat.le_of_ble_eq_true rfl) dX6_perform_4 (fun r2 σ1 h => ?_)
  refine v_istore_n C [(1, .int r2), (0, .ref (lad L 299))] dX6_perform_7 rfl (by decide) rfl ?_
  refine v_iload_n C dX6_perform_8 rfl 0 rfl ?_
  refine v_iconst C (v := (-1)) dX6_perform_9 rfl ?_
  refine v_icmp_eq C (tgt := 18) dX6_perform_10 (by decide) (fun hc => ?_) (fun hc => ?_)
  · replace h := h.1 hc
    refine v_aload_n C dX6_perform_18 rfl 1 rfl ?_
    refine g_6_text C kdn_299 mF_X6_33 dX6_perform_19 ?_
    refine g_4_word C kdn_302 mF_X6_134 dX6_perform_22 ?_
    by_cases hn5 : (σ1 302 5) = 1
    · replace h := h.1 hn5
      refine v_tabIn C (tgt := 52) (v := 1) dX6_perform_25 hn5 (by decide) (by decide) rfl (by decide) ?_
      refine v_aload_n C dX6_perform_52 rfl 1 rfl ?_
      refine v_aload_n C dX6_perform_53 rfl 1 rfl ?_
      refine g_6_text C kdn_299 mF_X6_33 dX6_perform_54 ?_
      refine g_4_firstNumber C kdn_302 mF_X6_137 dX6_perform_57 ?_
      refine v_aload_n C dX6_perform_60 rfl 1 rfl ?_
      refine g_6_text C kdn_299 mF_X6_33 dX6_perform_61 ?_
      refine g_4_secondNumber C kdn_302 mF_X6_140 dX6_perform_64 ?_
      refine k_X6_merge C (σ1 302 6) (σ1 302 7)  h mM_X6_143 ⟨Nat.le_of_ble_eq_true rfl, Nat.le_of_ble_eq_true rfl⟩ (Nat.le_of_ble_eq_true rfl) dX6_perform_67 (fun r13 σ12 h => ?_)
      exact v_iret C dX6_perform_70 hret hlk h
    · replace h := h.2 hn5
      by_cases hn6 : (σ1 302 5) = 2
      · replace h := h.1 hn6
        refine v_tabIn C (tgt := 71) (v := 2) dX6_perform_25 hn6 (by decide) (by decide) rfl (by decide) ?_
        refine v_aload_n C dX6_perform_71 rfl 1 rfl ?_
        refine v_aload_n C dX6_perform_72 rfl 1 rfl ?_
        refine g_6_text C kdn_299 mF_X6_33 dX6_perform_73 ?_
        refine g_4_firstNumber C kdn_302 mF_X6_137 dX6_perform_76 ?_
        refine v_aload_n C dX6_perform_79 rfl 1 rfl ?_
        refine g_6_text C kdn_299 mF_X6_33 dX6_perform_80 ?_
        refine g_4_secondNumber C kdn_302 mF_X6_140 dX6_perform_83 ?_
        refine k_X6_copy C (σ1 302 6) (σ1 302 7)  h mM_X6_146 ⟨Nat.le_of_ble_eq_true rfl, Nat.le_of_ble_eq_true rfl⟩ (Nat.le_of_ble_eq_true rfl) dX6_perform_86 (fun r11 σ10 h => ?_)
        exact v_iret C dX6_perform_89 hret hlk h
      · replace h := h.2 hn6
        by_cases hn7 : (σ1 302 5) = 3
        · replace h := h.1 hn7
          refine v_tabIn C (tgt := 90) (v := 3) dX6_perform_25 hn7 (by decide) (by decide) rfl (by decide) ?_
          refine v_aload_n C dX6_perform_90 rfl 1 rfl ?_
          refine v_aload_n C dX6_perform_91 rfl 1 rfl ?_
          refine g_6_text C kdn_299 mF_X6_33 dX6_perform_92 ?_
          refine g_4_firstNumber C kdn_302 mF_X6_137 dX6_perform_95 ?_
          refine v_aload_n C dX6_perform_98 rfl 1 rfl ?_
          refine g_6_text C kdn_299 mF_X6_33 dX6_perform_99 ?_
          refine g_4_secondNumber C kdn_302 mF_X6_140 dX6_perform_102 ?_
          refine k_X6_setSize C (σ1 302 6) (σ1 302 7)  h mM_X6_149 ⟨Nat.le_of_ble_eq_true rfl, Nat.le_of_ble_eq_true rfl⟩ (Nat.le_of_ble_eq_true rfl) dX6_perform_105 (fun r9 σ8 h => ?_)
          exact v_iret C dX6_perform_108 hret hlk h
        · replace h := h.2 hn7
          refine v_tabOut C (tgt := 109) dX6_perform_25 (by have thn5 := lv_neT hn5 (a := 1) (by decide); have thn6 := lv_neT hn6 (a := 2) (by decide); have thn7 := lv_neT hn7 (a := 3) (by decide); omega) (by decide) ?_
          refine v_aload_n C dX6_perform_109 rfl 1 rfl ?_
          refine v_aload_n C dX6_perform_110 rfl 1 rfl ?_
          refine g_6_text C kdn_299 mF_X6_33 dX6_perform_111 ?_
          refine g_4_firstNumber C kdn_302 mF_X6_137 dX6_perform_114 ?_
          refine k_X6_clear C (σ1 302 6)  h mM_X6_152 ⟨Nat.le_of_ble_eq_true rfl, Nat.le_of_ble_eq_true rfl⟩ (Nat.le_of_ble_eq_true rfl) dX6_perform_117 (fun r4 σ3 h => ?_)
          exact v_iret C dX6_perform_120 hret hlk h
  · replace h := h.2 hc
    refine v_bipush C (v := (-100)) dX6_perform_13 rfl ?_
    refine v_iload_n C dX6_perform_15 rfl 0 rfl ?_
    refine v_isub C dX6_perform_16 ?_
    exact v_iret C dX6_perform_17 hret hlk h
theorem hd_X6_perform : yX6_perform.cls ≠ "java/lang/invoke/MethodHandle" ∧ yX6_perform.cls ≠ "java/lang/invoke/VarHandle" ∧ (parseMethodDescriptor yX6_perform.desc).map (fun d => d.parameters.length) = some 0 := by decide +kernel
theorem k_X6_perform {p : Program} {l : Launch} {e : Env} {R : Room} {s : State} {m : MethodId} {args : Array Value} {below : List Frame} {meth : Method} {c : Code} {nL cells slots : Nat} {Q : State → Prop} {A : Nat → Prop} {L : Ly} {own : String} {cc : ByteArray} {σ : Mem} {pc idx : Nat} {lv : List (Nat × Value)} {st : List Value} {K : Int32 → Mem → Prop} (C : Cx p R s m args meth c own cc nL cells slots A L)   (h : w_X6_perform  σ K) (hml : Cond.methodLink own idx yX6_perform ∈ wA) (hR : rm_X6_perform.frames + 1 ≤ R.frames ∧ 8 + (2 + 11) + rm_X6_perform.locals ≤ R.locals) (hsum : (st.map fun v => v.category).sum ≤ 8) (d : decode cc pc = .ok (.invokevirtual idx, 3)) (kk : ∀ r σ1, K r σ1 → V p l e R s m args below meth c nL cells slots Q A L σ1 (pc + 3) lv (.int r :: st)) : V p l e R s m args below meth c nL cells slots Q A L σ pc lv (.ref (lad L 299) :: st) := v_callVi C [] (fun sz => c_X6_perform l L  σ _  h sz) mC_X6_perform mZ_X6 hd_X6_perform mI_X6_perform mS_X6_perform rfl rfl (c0 := 6) (ci := 6) (by decide) rfl rfl rfl kdn_299 hml hR rfl hsum d kk
-- ===== RX6.undo
abbrev rm_X6_undo : Room := { frames := 5, cells := 0, slots := 0, locals := 126 }
def w_X6_undo  (σ : Mem) (K : Int32 → Mem → Prop) : Prop := (br ((σ 300 2) = 0) (K (-5) σ) (w_X0_takeBack 0 σ (fun σ1 => (K (σ1 300 2) σ1))))
set_option maxHeartbeats 4000000 in
set_option maxRecDepth 100000 in
theorem c_X6_undo (l : Launch) (L : Ly)  (σ : Mem) (K : Int32 → Mem → Prop)  (h : w_X6_undo  σ K) (sz : Nat) : Met l yX6_undo (.code yX6_undo cX6_undo 1 (some .int) :: wA) rm_X6_undo (va_Pc [.ref (lad L 299)] (mB L sz σ)) (va_Qi K (mE L) (mA L sz)) 0 0 (mA L sz) := by
  refine v_start (own := RX6) [(0, .ref (lad L 299))] (by decide) rfl (Nat.le_of_ble_eq_true rfl) rfl (fun p e s m args below meth c C hret hlk => ?_)
  unfold w_X6_undo at h
  refine v_aload_n C dX6_undo_0 rfl 0 rfl ?_
  refine g_6_history C kdn_299 mF_X6_19 dX6_undo_1 ?_
  refine g_0_known C kdn_300 mF_X6_155 dX6_undo_4 ?_
  refine v_if_ne C (tgt := 13) dX6_undo_7 (by decide) (fun hc => ?_) (fun hc => ?_)
  · replace h := h.2 hc
    refine v_aload_n C dX6_undo_13 rfl 0 rfl ?_
    refine g_6_history C kdn_299 mF_X6_19 dX6_undo_14 ?_
    refine v_aload_n C dX6_undo_17 rfl 0 rfl ?_
    refine g_6_now C kdn_299 mF_X6_10 dX6_undo_18 ?_
    refine k_X0_takeBack C 0 kdn_0 h mM_X6_158 ⟨Nat.le_of_ble_eq_true rfl, Nat.le_of_ble_eq_true rfl⟩ (Nat.le_of_ble_eq_true rfl) dX6_undo_21 (fun σ1 h => ?_)
    refine v_aload_n C dX6_undo_24 rfl 0 rfl ?_
    refine g_6_history C kdn_299 mF_X6_19 dX6_undo_25 ?_
    refine g_0_known C kdn_300 mF_X6_155 dX6_undo_28 ?_
    exact v_iret C dX6_undo_31 hret hlk h
  · replace h := h.1 hc
    refine v_bipush C (v := (-5)) dX6_undo_10 rfl ?_
    exact v_iret C dX6_undo_12 hret hlk h
theorem hd_X6_undo : yX6_undo.cls ≠ "java/lang/invoke/MethodHandle" ∧ yX6_undo.cls ≠ "java/lang/invoke/VarHandle" ∧ (parseMethodDescriptor yX6_undo.desc).map (fun d => d.parameters.length) = some 0 := by decide +kernel
theorem k_X6_undo {p : Program} {l : Launch} {e : Env} {R : Room} {s : State} {m : MethodId} {args : Array Value} {below : List Frame} {meth : Method} {c : Code} {nL cells slots : Nat} {Q : State → Prop} {A : Nat → Prop} {L : Ly} {own : String} {cc : ByteArray} {σ : Mem} {pc idx : Nat} {lv : List (Nat × Value)} {st : List Value} {K : Int32 → Mem → Prop} (C : Cx p R s m args meth c own cc nL cells slots A L)   (h : w_X6_undo  σ K) (hml : Cond.methodLink own idx yX6_undo ∈ wA) (hR : rm_X6_undo.frames + 1 ≤ R.frames ∧ 8 + (1 + 11) + rm_X6_undo.locals ≤ R.locals) (hsum : (st.map fun v => v.category).sum ≤ 8) (d : decode cc pc = .ok (.invokevirtual idx, 3)) (kk : ∀ r σ1, K r σ1 → V p l e R s m args below meth c nL cells slots Q A L σ1 (pc + 3) lv (.int r :: st)) : V p l e R s m args below meth c nL cells slots Q A L σ pc lv (.ref (lad L 299) :: st) := v_callVi C [] (fun sz => c_X6_undo l L  σ _  h sz) mC_X6_undo mZ_X6 hd_X6_undo mI_X6_undo mS_X6_undo rfl rfl (c0 := 6) (ci := 6) (by decide) rfl rfl rfl kdn_299 hml hR rfl hsum d kk
-- ===== RX6.keep
abbrev rm_X6_keep : Room := { frames := 4, cells := 0, slots := 0, locals := 105 }
def w_X6_keep  (σ : Mem) (K : Int32 → Mem → Prop) : Prop := (w_X2_become 245 0 σ (fun σ1 => (∀ σ2 : Mem, σ2 = mu σ1 299 3 1 → (K (σ2 0 3) σ2))))
set_option maxHeartbeats 4000000 in
set_option maxRecDepth 100000 in
theorem c_X6_keep (l : Launch) (L : Ly)  (σ : Mem) (K : Int32 → Mem → Prop)  (h : w_X6_keep  σ K) (sz : Nat) : Met l yX6_keep (.code yX6_keep cX6_keep 1 (some .int) :: wA) rm_X6_keep (va_Pc [.ref (lad L 299)] (mB L sz σ)) (va_Qi K (mE L) (mA L sz)) 0 0 (mA L sz) := by
  refine v_start (own := RX6) [(0, .ref (lad L 299))] (by decide) rfl (Nat.le_of_ble_eq_true rfl) rfl (fun p e s m args below meth c C hret hlk => ?_)
  unfold w_X6_keep at h
  refine v_aload_n C dX6_keep_0 rfl 0 rfl ?_
  refine g_6_snapshot C kdn_299 mF_X6_23 dX6_keep_1 ?_
  refine v_aload_n C dX6_keep_4 rfl 0 rfl ?_
  refine g_6_now C kdn_299 mF_X6_10 dX6_keep_5 ?_
  refine k_X2_become C 245 0 kdn_245 kdn_0 h mM_X6_161 ⟨Nat.le_of_ble_eq_true rfl, Nat.le_of_ble_eq_true rfl⟩ (Nat.le_of_ble_eq_true rfl) dX6_keep_8 (fun σ1 h => ?_)
  refine v_aload_n C dX6_keep_11 rfl 0 rfl ?_
  refine v_iconst C (v := 1) dX6_keep_12 rfl ?_
  refine p_6_snapshotTaken C rfl rfl kdn_299 mF_X6_26 dX6_keep_13 (fun σ2 eσ2 => ?_)
  replace h := h σ2 eσ2
  refine v_aload_n C dX6_keep_16 rfl 0 rfl ?_
  refine g_6_now C kdn_299 mF_X6_10 dX6_keep_17 ?_
  refine g_2_time C kdn_0 mF_X6_163 dX6_keep_20 ?_
  exact v_iret C dX6_keep_23 hret hlk h
theorem hd_X6_keep : yX6_keep.cls ≠ "java/lang/invoke/MethodHandle" ∧ yX6_keep.cls ≠ "java/lang/invoke/VarHandle" ∧ (parseMethodDescriptor yX6_keep.desc).map (fun d => d.parameters.length) = some 0 := by decide +kernel
theorem k_X6_keep {p : Program} {l : Launch} {e : Env} {R : Room} {s : State} {m : MethodId} {args : Array Value} {below : List Frame} {meth : Method} {c : Code} {nL cells slots : Nat} {Q : State → Prop} {A : Nat → Prop} {L : Ly} {own : String} {cc : ByteArray} {σ : Mem} {pc idx : Nat} {lv : List (Nat × Value)} {st : List Value} {K : Int32 → Mem → Prop} (C : Cx p R s m args meth c own cc nL cells slots A L)   (h : w_X6_keep  σ K) (hml : Cond.methodLink own idx yX6_keep ∈ wA) (hR : rm_X6_keep.frames + 1 ≤ R.frames ∧ 8 + (1 + 11) + rm_X6_keep.locals ≤ R.locals) (hsum : (st.map fun v => v.category).sum ≤ 8) (d : decode cc pc = .ok (.invokevirtual idx, 3)) (kk : ∀ r σ1, K r σ1 → V p l e R s m args below meth c nL cells slots Q A L σ1 (pc + 3) lv (.int r :: st)) : V p l e R s m args below meth c nL cells slots Q A L σ pc lv (.ref (lad L 299) :: st) := v_callVi C [] (fun sz => c_X6_keep l L  σ _  h sz) mC_X6_keep mZ_X6 hd_X6_keep mI_X6_keep mS_X6_keep rfl rfl (c0 := 6) (ci := 6) (by decide) rfl rfl rfl kdn_299 hml hR rfl hsum d kk
-- ===== RX6.restore
abbrev rm_X6_restore : Room := { frames := 5, cells := 0, slots := 0, locals := 126 }
def w_X6_restore  (σ : Mem) (K : Int32 → Mem → Prop) : Prop := (br ((σ 299 3) = 0) (K (-5) σ) (w_X0_remember 0 σ (fun σ1 => (w_X2_become 0 245 σ1 (fun σ2 => (K (σ2 0 3) σ2))))))
set_option maxHeartbeats 4000000 in
set_option maxRecDepth 100000 in
theorem c_X6_restore (l : Launch) (L : Ly)  (σ : Mem) (K : Int32 → Mem → Prop)  (h : w_X6_restore  σ K) (sz : Nat) : Met l yX6_restore (.code yX6_restore cX6_restore 1 (some .int) :: wA) rm_X6_restore (va_Pc [.ref (lad L 299)] (mB L sz σ)) (va_Qi K (mE L) (mA L sz)) 0 0 (mA L sz) := by
  refine v_start (own := RX6) [(0, .ref (lad L 299))] (by decide) rfl (Nat.le_of_ble_eq_true rfl) rfl (fun p e s m args below meth c C hret hlk => ?_)
  unfold w_X6_restore at h
  refine v_aload_n C dX6_restore_0 rfl 0 rfl ?_
  refine g_6_snapshotTaken C kdn_299 mF_X6_26 dX6_restore_1 ?_
  refine v_if_ne C (tgt := 10) dX6_restore_4 (by decide) (fun hc => ?_) (fun hc => ?_)
  · replace h := h.2 hc
    refine v_aload_n C dX6_restore_10 rfl 0 rfl ?_
    refine g_6_history C kdn_299 mF_X6_19 dX6_restore_11 ?_
    refine v_aload_n C dX6_restore_14 rfl 0 rfl ?_
    refine g_6_now C kdn_299 mF_X6_10 dX6_restore_15 ?_
    refine k_X0_remember C 0 kdn_0 h mM_X6_64 ⟨Nat.le_of_ble_eq_true rfl, Nat.le_of_ble_eq_true rfl⟩ (Nat.le_of_ble_eq_true rfl) dX6_restore_18 (fun σ1 h => ?_)
    refine v_aload_n C dX6_restore_21 rfl 0 rfl ?_
    refine g_6_now C kdn_299 mF_X6_10 dX6_restore_22 ?_
    refine v_aload_n C dX6_restore_25 rfl 0 rfl ?_
    refine g_6_snapshot C kdn_299 mF_X6_23 dX6_restore_26 ?_
    refine k_X2_become C 0 245 kdn_0 kdn_245 h mM_X6_161 ⟨Nat.le_of_ble_eq_true rfl, Nat.le_of_ble_eq_true rfl⟩ (Nat.le_of_ble_eq_true rfl) dX6_restore_29 (fun σ2 h => ?_)
    refine v_aload_n C dX6_restore_32 rfl 0 rfl ?_
    refine g_6_now C kdn_299 mF_X6_10 dX6_restore_33 ?_
    refine g_2_time C kdn_0 mF_X6_163 dX6_restore_36 ?_
    exact v_iret C dX6_restore_39 hret hlk h
  · replace h := h.1 hc
    refine v_bipush C (v := (-5)) dX6_restore_7 rfl ?_
    exact v_iret C dX6_restore_9 hret hlk h
theorem hd_X6_restore : yX6_restore.cls ≠ "java/lang/invoke/MethodHandle" ∧ yX6_restore.cls ≠ "java/lang/invoke/VarHandle" ∧ (parseMethodDescriptor yX6_restore.desc).map (fun d => d.parameters.length) = some 0 := by decide +kernel
theorem k_X6_restore {p : Program} {l : Launch} {e : Env} {R : Room} {s : State} {m : MethodId} {args : Array Value} {below : List Frame} {meth : Method} {c : Code} {nL cells slots : Nat} {Q : State → Prop} {A : Nat → Prop} {L : Ly} {own : String} {cc : ByteArray} {σ : Mem} {pc idx : Nat} {lv : List (Nat × Value)} {st : List Value} {K : Int32 → Mem → Prop} (C : Cx p R s m args meth c own cc nL cells slots A L)   (h : w_X6_restore  σ K) (hml : Cond.methodLink own idx yX6_restore ∈ wA) (hR : rm_X6_restore.frames + 1 ≤ R.frames ∧ 8 + (1 + 11) + rm_X6_restore.locals ≤ R.locals) (hsum : (st.map fun v => v.category).sum ≤ 8) (d : decode cc pc = .ok (.invokevirtual idx, 3)) (kk : ∀ r σ1, K r σ1 → V p l e R s m args below meth c nL cells slots Q A L σ1 (pc + 3) lv (.int r :: st)) : V p l e R s m args below meth c nL cells slots Q A L σ pc lv (.ref (lad L 299) :: st) := v_callVi C [] (fun sz => c_X6_restore l L  σ _  h sz) mC_X6_restore mZ_X6 hd_X6_restore mI_X6_restore mS_X6_restore rfl rfl (c0 := 6) (ci := 6) (by decide) rfl rfl rfl kdn_299 hml hR rfl hsum d kk
-- ===== RX6.told
abbrev rm_X6_told : Room := { frames := 5, cells := 0, slots := 0, locals := 115 }
def w_X6_told (a1 : Int32) (σ : Mem) (K : Option Nat → Mem → Prop) : Prop := (br (a1 = 4) (w_X5_look 22 294 (σ 0 3) σ (fun σ4 => (K (some 294) σ4))) (w_X6_isSummary a1 σ (fun r2 σ1 => (br (r2 = 0) (K none σ1) (vp_in a1 4 ∧ (K (some (2 + 5 * ix a1)) σ1))))))
set_option maxHeartbeats 4000000 in
set_option maxRecDepth 100000 in
theorem c_X6_told (l : Launch) (L : Ly) (a1 : Int32) (σ : Mem) (K : Option Nat → Mem → Prop)  (h : w_X6_told a1 σ K) (sz : Nat) : Met l yX6_told (.code yX6_told cX6_told 2 (some (.object "FloorTops$Summary")) :: wA) rm_X6_told (va_Pc [.ref (lad L 299), .int a1] (mB L sz σ)) (va_Qe (lad L) (mN K) (mE L) (mA L sz)) 0 0 (mA L sz) := by
  refine v_start (own := RX6) [(0, .ref (lad L 299)), (1, .int a1)] (by decide) rfl (Nat.le_of_ble_eq_true rfl) rfl (fun p e s m args below meth c C hret hlk => ?_)
  unfold w_X6_told at h
  refine v_iload_n C dX6_told_0 rfl 1 rfl ?_
  refine v_iconst C (v := 4) dX6_told_1 rfl ?_
  refine v_icmp_ne C (tgt := 31) dX6_told_2 (by decide) (fun hc => ?_) (fun hc => ?_)
  · replace h := h.2 hc
    refine v_iload_n C dX6_told_31 rfl 1 rfl ?_
    refine k_X6_isSummary C a1  h mM_X6_48 ⟨Nat.le_of_ble_eq_true rfl, Nat.le_of_ble_eq_true rfl⟩ (Nat.le_of_ble_eq_true rfl) dX6_told_32 (fun r2 σ1 h => ?_)
    refine v_if_eq C (tgt := 50) dX6_told_35 (by decide) (fun hc => ?_) (fun hc => ?_)
    · replace h := h.1 hc
      refine v_null C dX6_told_50 ?_
      exact v_aret C (r := none) dX6_told_51 hret hlk rfl ⟨fun _ z => (nomatch z), h⟩
    · replace h := h.2 hc
      refine v_aload_n C dX6_told_38 rfl 0 rfl ?_
      refine g_6_now C kdn_299 mF_X6_10 dX6_told_39 ?_
      refine g_2_summaries C kdn_0 mF_X6_55 dX6_told_42 ?_
      refine v_iload_n C dX6_told_45 rfl 1 rfl ?_
      obtain ⟨hi3, h⟩ := h
      refine v_aald C (c0 := 11) (t0 := 3) (v := .ref (lad L (2 + 5 * ix a1))) (by decide) rfl rfl rfl kdn_1 hi3 dX6_told_46 ?_
      refine v_goto C (tgt := 51) dX6_told_47 (by decide) ?_
      exact v_aret C (r := some (2 + 5 * ix a1)) dX6_told_51 hret hlk rfl ⟨fun _ z => by (cases z; exact (kd_el kdn_1 hi3)), h⟩
  · replace h := h.1 hc
    refine v_aload_n C dX6_told_5 rfl 0 rfl ?_
    refine g_6_now C kdn_299 mF_X6_10 dX6_told_6 ?_
    refine g_2_window C kdn_0 mF_X6_97 dX6_told_9 ?_
    refine v_aload_n C dX6_told_12 rfl 0 rfl ?_
    refine g_6_whole C kdn_299 mF_X6_40 dX6_told_13 ?_
    refine v_aload_n C dX6_told_16 rfl 0 rfl ?_
    refine g_6_now C kdn_299 mF_X6_10 dX6_told_17 ?_
    refine g_2_time C kdn_0 mF_X6_163 dX6_told_20 ?_
    refine k_X5_look C 22 294 (σ 0 3) kdn_22 kdn_294 h mM_X6_256 ⟨Nat.le_of_ble_eq_true rfl, Nat.le_of_ble_eq_true rfl⟩ (Nat.le_of_ble_eq_true rfl) dX6_told_23 (fun σ4 h => ?_)
    refine v_aload_n C dX6_told_26 rfl 0 rfl ?_
    refine g_6_whole C kdn_299 mF_X6_40 dX6_told_27 ?_
    exact v_aret C (r := some 294) dX6_told_30 hret hlk rfl ⟨fun _ z => by (cases z; exact kdn_294), h⟩
theorem hd_X6_told : yX6_told.cls ≠ "java/lang/invoke/MethodHandle" ∧ yX6_told.cls ≠ "java/lang/invoke/VarHandle" ∧ (parseMethodDescriptor yX6_told.desc).map (fun d => d.parameters.length) = some 1 := by decide +kernel
theorem k_X6_told {p : Program} {l : Launch} {e : Env} {R : Room} {s : State} {m : MethodId} {args : Array Value} {below : List Frame} {meth : Method} {c : Code} {nL cells slots : Nat} {Q : State → Prop} {A : Nat → Prop} {L : Ly} {own : String} {cc : ByteArray} {σ : Mem} {pc idx : Nat} {lv : List (Nat × Value)} {st : List Value} {K : Option Nat → Mem → Prop} (C : Cx p R s m args meth c own cc nL cells slots A L) (a1 : Int32)  (h : w_X6_told a1 σ K) (hml : Cond.methodLink own idx yX6_told ∈ wA) (hR : rm_X6_told.frames + 1 ≤ R.frames ∧ 8 + (2 + 11) + rm_X6_told.locals ≤ R.locals) (hsum : (st.map fun v => v.category).sum ≤ 8) (d : decode cc pc = .ok (.invokevirtual idx, 3)) (kk : ∀ r σ1, mN K r σ1 → V p l e R s m args below meth c nL cells slots Q A L σ1 (pc + 3) lv (va_re (lad L) r :: st)) : V p l e R s m args below meth c nL cells slots Q A L σ pc lv (.int a1 :: .ref (lad L 299) :: st) := v_callVe C [.int a1] (fun sz => c_X6_told l L a1 σ _  h sz) mC_X6_told mZ_X6 hd_X6_told mI_X6_told mS_X6_told rfl rfl (c0 := 6) (ci := 6) (by decide) rfl rfl rfl kdn_299 hml hR rfl hsum d kk
-- ===== RX6.summary
abbrev rm_X6_summary : Room := { frames := 6, cells := 0, slots := 0, locals := 136 }
def w_X6_summary (a1 : Int32) (a2 : Int32) (σ : Mem) (K : Int32 → Mem → Prop) : Prop := (w_X6_told a1 σ (fun or2 σ1 => (or2 = none → (K (-1) σ1)) ∧ (∀ r2 : Nat, or2 = some r2 → (br (a2 = 0) (K (σ1 r2 0) σ1) (br (a2 = 1) (w_X3_counters r2 σ1 (fun r16 σ15 => (K r16 σ15))) (br (a2 = 2) (K (σ1 r2 1) σ1) (br (a2 = 3) (K (σ1 r2 2) σ1) (br (a2 = 4) (w_X3_greatestSlack r2 σ1 (fun r14 σ13 => (K r14 σ13))) (br (a2 = 5) (w_X3_lettersThatCame r2 σ1 (fun r12 σ11 => (K r12 σ11))) (br (a2 = 6) (K (σ1 r2 3) σ1) (K (-2) σ1)))))))))))
set_option maxHeartbeats 4000000 in
set_option maxRecDepth 100000 in
theorem c_X6_summary (l : Launch) (L : Ly) (a1 : Int32) (a2 : Int32) (σ : Mem) (K : Int32 → Mem → Prop)  (h : w_X6_summary a1 a2 σ K) (sz : Nat) : Met l yX6_summary (.code yX6_summary cX6_summary 4 (some .int) :: wA) rm_X6_summary (va_Pc [.ref (lad L 299), .int a1, .int a2] (mB L sz σ)) (va_Qi K (mE L) (mA L sz)) 0 0 (mA L sz) := by
  refine v_start (own := RX6) [(0, .ref (lad L 299)), (1, .int a1), (2, .int a2)] (by decide) rfl (Nat.le_of_ble_eq_true rfl) rfl (fun p e s m args below meth c C hret hlk => ?_)
  unfold w_X6_summary at h
  refine v_aload_n C dX6_summary_0 rfl 0 rfl ?_
  refine v_iload_n C dX6_summary_1 rfl 1 rfl ?_
  refine k_X6_told C a1  h mM_X6_166 ⟨Nat.le_of_ble_eq_true rfl, Nat.le_of_ble_eq_true rfl⟩ (Nat.le_of_ble_eq_true rfl) dX6_summary_2 (fun ror2 σ1 h => ?_)
  obtain ⟨hk30, h⟩ := h
  rcases ror2 with _ | r2
  · replace h := h.1 rfl
    refine v_reN ?_
    refine v_astore_nN C [(3, .null), (0, .ref (lad L 299)), (1, .int a1), (2, .int a2)] dX6_summary_5 rfl (by decide) rfl ?_
    refine v_aload_nN C dX6_summary_6 rfl 0 rfl ?_
    refine v_ifnonnullN C dX6_summary_7 ?_
    refine v_iconst C (v := (-1)) dX6_summary_10 rfl ?_
    exact v_iret C dX6_summary_11 hret hlk h
  · replace h := h.2 r2 rfl
    have hk3 := hk30 r2 rfl
    refine v_re ?_
    refine v_astore_n C [(3, .ref (lad L r2)), (0, .ref (lad L 299)), (1, .int a1), (2, .int a2)] dX6_summary_5 rfl (by decide) rfl ?_
    refine v_aload_n C dX6_summary_6 rfl 0 rfl ?_
    refine v_ifnonnull C (tgt := 12) dX6_summary_7 (by decide) ?_
    refine v_iload_n C dX6_summary_12 rfl 3 rfl ?_
    by_cases hn4 : a2 = 0
    · replace h := h.1 hn4
      refine v_tabIn C (tgt := 56) (v := 0) dX6_summary_13 hn4 (by decide) (by decide) rfl (by decide) ?_
      refine v_aload_n C dX6_summary_56 rfl 0 rfl ?_
      refine g_3_size C hk3 mF_X6_115 dX6_summary_57 ?_
      exact v_iret C dX6_summary_60 hret hlk h
    · replace h := h.2 hn4
      by_cases hn5 : a2 = 1
      · replace h := h.1 hn5
        refine v_tabIn C (tgt := 61) (v := 1) dX6_summary_13 hn5 (by decide) (by decide) rfl (by decide) ?_
        refine v_aload_n C dX6_summary_61 rfl 0 rfl ?_
        refine k_X3_counters C r2 hk3 h mM_X6_112 ⟨Nat.le_of_ble_eq_true rfl, Nat.le_of_ble_eq_true rfl⟩ (Nat.le_of_ble_eq_true rfl) dX6_summary_62 (fun r16 σ15 h => ?_)
        exact v_iret C dX6_summary_65 hret hlk h
      · replace h := h.2 hn5
        by_cases hn6 : a2 = 2
        · replace h := h.1 hn6
          refine v_tabIn C (tgt := 66) (v := 2) dX6_summary_13 hn6 (by decide) (by decide) rfl (by decide) ?_
          refine v_aload_n C dX6_summary_66 rfl 0 rfl ?_
          refine g_3_floor C hk3 mF_X6_170 dX6_summary_67 ?_
          exact v_iret C dX6_summary_70 hret hlk h
        · replace h := h.2 hn6
          by_cases hn7 : a2 = 3
          · replace h := h.1 hn7
            refine v_tabIn C (tgt := 71) (v := 3) dX6_summary_13 hn7 (by decide) (by decide) rfl (by decide) ?_
            refine v_aload_n C dX6_summary_71 rfl 0 rfl ?_
            refine g_3_sum C hk3 mF_X6_59 dX6_summary_72 ?_
            exact v_iret C dX6_summary_75 hret hlk h
          · replace h := h.2 hn7
            by_cases hn8 : a2 = 4
            · replace h := h.1 hn8
              refine v_tabIn C (tgt := 76) (v := 4) dX6_summary_13 hn8 (by decide) (by decide) rfl (by decide) ?_
              refine v_aload_n C dX6_summary_76 rfl 0 rfl ?_
              refine k_X3_greatestSlack C r2 hk3 h mM_X6_173 ⟨Nat.le_of_ble_eq_true rfl, Nat.le_of_ble_eq_true rfl⟩ (Nat.le_of_ble_eq_true rfl) dX6_summary_77 (fun r14 σ13 h => ?_)
              exact v_iret C dX6_summary_80 hret hlk h
            · replace h := h.2 hn8
              by_cases hn9 : a2 = 5
              · replace h := h.1 hn9
                refine v_tabIn C (tgt := 81) (v := 5) dX6_summary_13 hn9 (by decide) (by decide) rfl (by decide) ?_
                refine v_aload_n C dX6_summary_81 rfl 0 rfl ?_
                refine k_X3_lettersThatCame C r2 hk3 h mM_X6_176 ⟨Nat.le_of_ble_eq_true rfl, Nat.le_of_ble_eq_true rfl⟩ (Nat.le_of_ble_eq_true rfl) dX6_summary_82 (fun r12 σ11 h => ?_)
                exact v_iret C dX6_summary_85 hret hlk h
              · replace h := h.2 hn9
                by_cases hn10 : a2 = 6
                · replace h := h.1 hn10
                  refine v_tabIn C (tgt := 86) (v := 6) dX6_summary_13 hn10 (by decide) (by decide) rfl (by decide) ?_
                  refine v_aload_n C dX6_summary_86 rfl 0 rfl ?_
                  refine g_3_held C hk3 mF_X6_179 dX6_summary_87 ?_
                  exact v_iret C dX6_summary_90 hret hlk h
                · replace h := h.2 hn10
                  refine v_tabOut C (tgt := 91) dX6_summary_13 (by have thn4 := lv_neT hn4 (a := 0) (by decide); have thn5 := lv_neT hn5 (a := 1) (by decide); have thn6 := lv_neT hn6 (a := 2) (by decide); have thn7 := lv_neT hn7 (a := 3) (by decide); have thn8 := lv_neT hn8 (a := 4) (by decide); have thn9 := lv_neT hn9 (a := 5) (by decide); have thn10 := lv_neT hn10 (a := 6) (by decide); omega) (by decide) ?_
                  refine v_bipush C (v := (-2)) dX6_summary_91 rfl ?_
                  exact v_iret C dX6_summary_93 hret hlk h
theorem hd_X6_summary : yX6_summary.cls ≠ "java/lang/invoke/MethodHandle" ∧ yX6_summary.cls ≠ "java/lang/invoke/VarHandle" ∧ (parseMethodDescriptor yX6_summary.desc).map (fun d => d.parameters.length) = some 2 := by decide +kernel
theorem k_X6_summary {p : Program} {l : Launch} {e : Env} {R : Room} {s : State} {m : MethodId} {args : Array Value} {below : List Frame} {meth : Method} {c : Code} {nL cells slots : Nat} {Q : State → Prop} {A : Nat → Prop} {L : Ly} {own : String} {cc : ByteArray} {σ : Mem} {pc idx : Nat} {lv : List (Nat × Value)} {st : List Value} {K : Int32 → Mem → Prop} (C : Cx p R s m args meth c own cc nL cells slots A L) (a1 : Int32) (a2 : Int32)  (h : w_X6_summary a1 a2 σ K) (hml : Cond.methodLink own idx yX6_summary ∈ wA) (hR : rm_X6_summary.frames + 1 ≤ R.frames ∧ 8 + (4 + 11) + rm_X6_summary.locals ≤ R.locals) (hsum : (st.map fun v => v.category).sum ≤ 8) (d : decode cc pc = .ok (.invokevirtual idx, 3)) (kk : ∀ r σ1, K r σ1 → V p l e R s m args below meth c nL cells slots Q A L σ1 (pc + 3) lv (.int r :: st)) : V p l e R s m args below meth c nL cells slots Q A L σ pc lv (.int a2 :: .int a1 :: .ref (lad L 299) :: st) := v_callVi C [.int a1, .int a2] (fun sz => c_X6_summary l L a1 a2 σ _  h sz) mC_X6_summary mZ_X6 hd_X6_summary mI_X6_summary mS_X6_summary rfl rfl (c0 := 6) (ci := 6) (by decide) rfl rfl rfl kdn_299 hml hR rfl hsum d kk
-- ===== RX6.bound
abbrev rm_X6_bound : Room := { frames := 6, cells := 0, slots := 0, locals := 136 }
def w_X6_bound (a1 : Int32) (a2 : Int32) (a3 : Int32) (σ : Mem) (K : Int32 → Mem → Prop) : Prop := (w_X6_told a1 σ (fun or2 σ1 => (or2 = none → (w_X6_letterIndex a2 σ1 (fun r5 σ4 => (K (-1) σ4)))) ∧ (∀ r2 : Nat, or2 = some r2 → (w_X6_letterIndex a2 σ1 (fun r7 σ6 => (br (r7 = (-1)) (K (-1) σ6) (br (a3 = 0) (w_X3_upper r2 r7 σ6 (fun r23 σ22 => (K r23 σ22))) (br (a3 = 1) (w_X3_lower r2 r7 σ6 (fun r21 σ20 => (K r21 σ20))) (br (a3 = 2) (vp_in r7 26 ∧ (K (σ6 (r2 + 4) (ix r7)) σ6)) (br (a3 = 3) (w_X3_has r2 r7 σ6 (fun r17 σ16 => (br (r17 = 0) (K (-5) σ16) (vp_in r7 26 ∧ (K (σ16 (r2 + 2) (ix r7)) σ16))))) (br (a3 = 4) (w_X3_has r2 r7 σ6 (fun r14 σ13 => (br (r14 = 0) (K (-5) σ13) (vp_in r7 26 ∧ (K (σ13 (r2 + 3) (ix r7)) σ13))))) (K (-2) σ6))))))))))))
set_option maxHeartbeats 4000000 in
set_option maxRecDepth 100000 in
theorem c_X6_bound (l : Launch) (L : Ly) (a1 : Int32) (a2 : Int32) (a3 : Int32) (σ : Mem) (K : Int32 → Mem → Prop)  (h : w_X6_bound a1 a2 a3 σ K) (sz : Nat) : Met l yX6_bound (.code yX6_bound cX6_bound 6 (some .int) :: wA) rm_X6_bound (va_Pc [.ref (lad L 299), .int a1, .int a2, .int a3] (mB L sz σ)) (va_Qi K (mE L) (mA L sz)) 0 0 (mA L sz) := by
  refine v_start (own := RX6) [(0, .ref (lad L 299)), (1, .int a1), (2, .int a2), (3, .int a3)] (by decide) rfl (Nat.le_of_ble_eq_true rfl) rfl (fun p e s m args below meth c C hret hlk => ?_)
  unfold w_X6_bound at h
  refine v_aload_n C dX6_bound_0 rfl 0 rfl ?_
  refine v_iload_n C dX6_bound_1 rfl 1 rfl ?_
  refine k_X6_told C a1  h mM_X6_166 ⟨Nat.le_of_ble_eq_true rfl, Nat.le_of_ble_eq_true rfl⟩ (Nat.le_of_ble_eq_true rfl) dX6_bound_2 (fun ror2 σ1 h => ?_)
  obtain ⟨hk30, h⟩ := h
  rcases ror2 with _ | r2
  · replace h := h.1 rfl
    refine v_reN ?_
    refine v_astoreN C [(4, .null), (0, .ref (lad L 299)), (1, .int a1), (2, .int a2), (3, .int a3)] dX6_bound_5 (by decide) rfl ?_
    refine v_iload_n C dX6_bound_7 rfl 3 rfl ?_
    refine ks_X6_letterIndex C a2  h mM_X6_44 ⟨Nat.le_of_ble_eq_true rfl, Nat.le_of_ble_eq_true rfl⟩ (Nat.le_of_ble_eq_true rfl) dX6_bound_8 (fun r5 σ4 h => ?_)
    refine v_istore C [(5, .int r5), (4, .null), (0, .ref (lad L 299)), (1, .int a1), (2, .int a2), (3, .int a3)] dX6_bound_11 (by decide) rfl ?_
    refine v_aloadN C dX6_bound_13 1 rfl ?_
    refine v_ifnullN C (tgt := 24) dX6_bound_15 (by decide) ?_
    refine v_iconst C (v := (-1)) dX6_bound_24 rfl ?_
    exact v_iret C dX6_bound_25 hret hlk h
  · replace h := h.2 r2 rfl
    have hk3 := hk30 r2 rfl
    refine v_re ?_
    refine v_astore C [(4, .ref (lad L r2)), (0, .ref (lad L 299)), (1, .int a1), (2, .int a2), (3, .int a3)] dX6_bound_5 (by decide) rfl ?_
    refine v_iload_n C dX6_bound_7 rfl 3 rfl ?_
    refine ks_X6_letterIndex C a2  h mM_X6_44 ⟨Nat.le_of_ble_eq_true rfl, Nat.le_of_ble_eq_true rfl⟩ (Nat.le_of_ble_eq_true rfl) dX6_bound_8 (fun r7 σ6 h => ?_)
    refine v_istore C [(5, .int r7), (4, .ref (lad L r2)), (0, .ref (lad L 299)), (1, .int a1), (2, .int a2), (3, .int a3)] dX6_bound_11 (by decide) rfl ?_
    refine v_aload C dX6_bound_13 1 rfl ?_
    refine v_ifnull C dX6_bound_15 ?_
    refine v_iload C dX6_bound_18 0 rfl ?_
    refine v_iconst C (v := (-1)) dX6_bound_20 rfl ?_
    refine v_icmp_ne C (tgt := 26) dX6_bound_21 (by decide) (fun hc => ?_) (fun hc => ?_)
    · replace h := h.2 hc
      refine v_iload_n C dX6_bound_26 rfl 5 rfl ?_
      by_cases hn8 : a3 = 0
      · replace h := h.1 hn8
        refine v_tabIn C (tgt := 60) (v := 0) dX6_bound_27 hn8 (by decide) (by decide) rfl (by decide) ?_
        refine v_aload C dX6_bound_60 1 rfl ?_
        refine v_iload C dX6_bound_62 0 rfl ?_
        refine k_X3_upper C r2 r7 hk3 h mM_X6_72 ⟨Nat.le_of_ble_eq_true rfl, Nat.le_of_ble_eq_true rfl⟩ (Nat.le_of_ble_eq_true rfl) dX6_bound_64 (fun r23 σ22 h => ?_)
        exact v_iret C dX6_bound_67 hret hlk h
      · replace h := h.2 hn8
        by_cases hn9 : a3 = 1
        · replace h := h.1 hn9
          refine v_tabIn C (tgt := 68) (v := 1) dX6_bound_27 hn9 (by decide) (by decide) rfl (by decide) ?_
          refine v_aload C dX6_bound_68 1 rfl ?_
          refine v_iload C dX6_bound_70 0 rfl ?_
          refine k_X3_lower C r2 r7 hk3 h mM_X6_182 ⟨Nat.le_of_ble_eq_true rfl, Nat.le_of_ble_eq_true rfl⟩ (Nat.le_of_ble_eq_true rfl) dX6_bound_72 (fun r21 σ20 h => ?_)
          exact v_iret C dX6_bound_75 hret hlk h
        · replace h := h.2 hn9
          by_cases hn10 : a3 = 2
          · replace h := h.1 hn10
            refine v_tabIn C (tgt := 76) (v := 2) dX6_bound_27 hn10 (by decide) (by decide) rfl (by decide) ?_
            refine v_aload C dX6_bound_76 1 rfl ?_
            refine g_3_came C hk3 mF_X6_185 dX6_bound_78 ?_
            refine v_iload C dX6_bound_81 0 rfl ?_
            obtain ⟨hi19, h⟩ := h
            refine v_iald C (c0 := 20) (by decide) rfl (kd_3_4 hk3) hi19 dX6_bound_83 ?_
            exact v_iret C dX6_bound_84 hret hlk h
          · replace h := h.2 hn10
            by_cases hn11 : a3 = 3
            · replace h := h.1 hn11
              refine v_tabIn C (tgt := 85) (v := 3) dX6_bound_27 hn11 (by decide) (by decide) rfl (by decide) ?_
              refine v_aload C dX6_bound_85 1 rfl ?_
              refine v_iload C dX6_bound_87 0 rfl ?_
              refine k_X3_has C r2 r7 hk3 h mM_X6_188 ⟨Nat.le_of_ble_eq_true rfl, Nat.le_of_ble_eq_true rfl⟩ (Nat.le_of_ble_eq_true rfl) dX6_bound_89 (fun r17 σ16 h => ?_)
              refine v_if_eq C (tgt := 106) dX6_bound_92 (by decide) (fun hc => ?_) (fun hc => ?_)
              · replace h := h.1 hc
                refine v_bipush C (v := (-5)) dX6_bound_106 rfl ?_
                exact v_iret C dX6_bound_108 hret hlk h
              · replace h := h.2 hc
                refine v_aload C dX6_bound_95 1 rfl ?_
                refine g_3_slacks C hk3 mF_X6_191 dX6_bound_97 ?_
                refine v_iload C dX6_bound_100 0 rfl ?_
                obtain ⟨hi18, h⟩ := h
                refine v_iald C (c0 := 20) (by decide) rfl (kd_3_2 hk3) hi18 dX6_bound_102 ?_
                refine v_goto C (tgt := 108) dX6_bound_103 (by decide) ?_
                exact v_iret C dX6_bound_108 hret hlk h
            · replace h := h.2 hn11
              by_cases hn12 : a3 = 4
              · replace h := h.1 hn12
                refine v_tabIn C (tgt := 109) (v := 4) dX6_bound_27 hn12 (by decide) (by decide) rfl (by decide) ?_
                refine v_aload C dX6_bound_109 1 rfl ?_
                refine v_iload C dX6_bound_111 0 rfl ?_
                refine k_X3_has C r2 r7 hk3 h mM_X6_188 ⟨Nat.le_of_ble_eq_true rfl, Nat.le_of_ble_eq_true rfl⟩ (Nat.le_of_ble_eq_true rfl) dX6_bound_113 (fun r14 σ13 h => ?_)
                refine v_if_eq C (tgt := 130) dX6_bound_116 (by decide) (fun hc => ?_) (fun hc => ?_)
                · replace h := h.1 hc
                  refine v_bipush C (v := (-5)) dX6_bound_130 rfl ?_
                  exact v_iret C dX6_bound_132 hret hlk h
                · replace h := h.2 hc
                  refine v_aload C dX6_bound_119 1 rfl ?_
                  refine g_3_times C hk3 mF_X6_194 dX6_bound_121 ?_
                  refine v_iload C dX6_bound_124 0 rfl ?_
                  obtain ⟨hi15, h⟩ := h
                  refine v_iald C (c0 := 20) (by decide) rfl (kd_3_3 hk3) hi15 dX6_bound_126 ?_
                  refine v_goto C (tgt := 132) dX6_bound_127 (by decide) ?_
                  exact v_iret C dX6_bound_132 hret hlk h
              · replace h := h.2 hn12
                refine v_tabOut C (tgt := 133) dX6_bound_27 (by have thn8 := lv_neT hn8 (a := 0) (by decide); have thn9 := lv_neT hn9 (a := 1) (by decide); have thn10 := lv_neT hn10 (a := 2) (by decide); have thn11 := lv_neT hn11 (a := 3) (by decide); have thn12 := lv_neT hn12 (a := 4) (by decide); omega) (by decide) ?_
                refine v_bipush C (v := (-2)) dX6_bound_133 rfl ?_
                exact v_iret C dX6_bound_135 hret hlk h
    · replace h := h.1 hc
      refine v_iconst C (v := (-1)) dX6_bound_24 rfl ?_
      exact v_iret C dX6_bound_25 hret hlk h
theorem hd_X6_bound : yX6_bound.cls ≠ "java/lang/invoke/MethodHandle" ∧ yX6_bound.cls ≠ "java/lang/invoke/VarHandle" ∧ (parseMethodDescriptor yX6_bound.desc).map (fun d => d.parameters.length) = some 3 := by decide +kernel
theorem k_X6_bound {p : Program} {l : Launch} {e : Env} {R : Room} {s : State} {m : MethodId} {args : Array Value} {below : List Frame} {meth : Method} {c : Code} {nL cells slots : Nat} {Q : State → Prop} {A : Nat → Prop} {L : Ly} {own : String} {cc : ByteArray} {σ : Mem} {pc idx : Nat} {lv : List (Nat × Value)} {st : List Value} {K : Int32 → Mem → Prop} (C : Cx p R s m args meth c own cc nL cells slots A L) (a1 : Int32) (a2 : Int32) (a3 : Int32)  (h : w_X6_bound a1 a2 a3 σ K) (hml : Cond.methodLink own idx yX6_bound ∈ wA) (hR : rm_X6_bound.frames + 1 ≤ R.frames ∧ 8 + (6 + 11) + rm_X6_bound.locals ≤ R.locals) (hsum : (st.map fun v => v.category).sum ≤ 8) (d : decode cc pc = .ok (.invokevirtual idx, 3)) (kk : ∀ r σ1, K r σ1 → V p l e R s m args below meth c nL cells slots Q A L σ1 (pc + 3) lv (.int r :: st)) : V p l e R s m args below meth c nL cells slots Q A L σ pc lv (.int a3 :: .int a2 :: .int a1 :: .ref (lad L 299) :: st) := v_callVi C [.int a1, .int a2, .int a3] (fun sz => c_X6_bound l L a1 a2 a3 σ _  h sz) mC_X6_bound mZ_X6 hd_X6_bound mI_X6_bound mS_X6_bound rfl rfl (c0 := 6) (ci := 6) (by decide) rfl rfl rfl kdn_299 hml hR rfl hsum d kk
-- ===== RX6.top
abbrev rm_X6_top : Room := { frames := 6, cells := 0, slots := 0, locals := 136 }
def w_X6_top (a1 : Int32) (a2 : Int32) (a3 : Int32) (σ : Mem) (K : Int32 → Mem → Prop) : Prop := (w_X6_told a1 σ (fun or2 σ1 => (or2 = none → (K (-1) σ1)) ∧ (∀ r2 : Nat, or2 = some r2 → (br (a2 < 0) (K (-2) σ1) (br (a3 < 0) (K (-2) σ1) (br (a3 ≤ 1) (w_X3_letterAt r2 a2 σ1 (fun r5 σ4 => (br (r5 = (-1)) (K (-5) σ4) (br (a3 = 0) (w_X6_codeOf r5 σ4 (fun r8 σ7 => (K r8 σ7))) (vp_in r5 26 ∧ (K (σ4 (r2 + 1) (ix r5)) σ4)))))) (K (-2) σ1)))))))
set_option maxHeartbeats 4000000 in
set_option maxRecDepth 100000 in
theorem c_X6_top (l : Launch) (L : Ly) (a1 : Int32) (a2 : Int32) (a3 : Int32) (σ : Mem) (K : Int32 → Mem → Prop)  (h : w_X6_top a1 a2 a3 σ K) (sz : Nat) : Met l yX6_top (.code yX6_top cX6_top 6 (some .int) :: wA) rm_X6_top (va_Pc [.ref (lad L 299), .int a1, .int a2, .int a3] (mB L sz σ)) (va_Qi K (mE L) (mA L sz)) 0 0 (mA L sz) := by
  refine v_start (own := RX6) [(0, .ref (lad L 299)), (1, .int a1), (2, .int a2), (3, .int a3)] (by decide) rfl (Nat.le_of_ble_eq_true rfl) rfl (fun p e s m args below meth c C hret hlk => ?_)
  unfold w_X6_top at h
  refine v_aload_n C dX6_top_0 rfl 0 rfl ?_
  refine v_iload_n C dX6_top_1 rfl 1 rfl ?_
  refine k_X6_told C a1  h mM_X6_166 ⟨Nat.le_of_ble_eq_true rfl, Nat.le_of_ble_eq_true rfl⟩ (Nat.le_of_ble_eq_true rfl) dX6_top_2 (fun ror2 σ1 h => ?_)
  obtain ⟨hk30, h⟩ := h
  rcases ror2 with _ | r2
  · replace h := h.1 rfl
    refine v_reN ?_
    refine v_astoreN C [(4, .null), (0, .ref (lad L 299)), (1, .int a1), (2, .int a2), (3, .int a3)] dX6_top_5 (by decide) rfl ?_
    refine v_aloadN C dX6_top_7 0 rfl ?_
    refine v_ifnonnullN C dX6_top_9 ?_
    refine v_iconst C (v := (-1)) dX6_top_12 rfl ?_
    exact v_iret C dX6_top_13 hret hlk h
  · replace h := h.2 r2 rfl
    have hk3 := hk30 r2 rfl
    refine v_re ?_
    refine v_astore C [(4, .ref (lad L r2)), (0, .ref (lad L 299)), (1, .int a1), (2, .int a2), (3, .int a3)] dX6_top_5 (by decide) rfl ?_
    refine v_aload C dX6_top_7 0 rfl ?_
    refine v_ifnonnull C (tgt := 14) dX6_top_9 (by decide) ?_
    refine v_iload_n C dX6_top_14 rfl 3 rfl ?_
    refine v_if_lt C (tgt := 27) dX6_top_15 (by decide) (fun hc => ?_) (fun hc => ?_)
    · replace h := h.1 hc
      refine v_bipush C (v := (-2)) dX6_top_27 rfl ?_
      exact v_iret C dX6_top_29 hret hlk h
    · replace h := h.2 hc
      refine v_iload_n C dX6_top_18 rfl 4 rfl ?_
      refine v_if_lt C (tgt := 27) dX6_top_19 (by decide) (fun hc => ?_) (fun hc => ?_)
      · replace h := h.1 hc
        refine v_bipush C (v := (-2)) dX6_top_27 rfl ?_
        exact v_iret C dX6_top_29 hret hlk h
      · replace h := h.2 hc
        refine v_iload_n C dX6_top_22 rfl 4 rfl ?_
        refine v_iconst C (v := 1) dX6_top_23 rfl ?_
        refine v_icmp_le C (tgt := 30) dX6_top_24 (by decide) (fun hc => ?_) (fun hc => ?_)
        · replace h := h.1 hc
          refine v_aload C dX6_top_30 0 rfl ?_
          refine v_iload_n C dX6_top_32 rfl 3 rfl ?_
          refine k_X3_letterAt C r2 a2 hk3 h mM_X6_197 ⟨Nat.le_of_ble_eq_true rfl, Nat.le_of_ble_eq_true rfl⟩ (Nat.le_of_ble_eq_true rfl) dX6_top_33 (fun r5 σ4 h => ?_)
          refine v_istore C [(5, .int r5), (4, .ref (lad L r2)), (0, .ref (lad L 299)), (1, .int a1), (2, .int a2), (3, .int a3)] dX6_top_36 (by decide) rfl ?_
          refine v_iload C dX6_top_38 0 rfl ?_
          refine v_iconst C (v := (-1)) dX6_top_40 rfl ?_
          refine v_icmp_ne C (tgt := 47) dX6_top_41 (by decide) (fun hc => ?_) (fun hc => ?_)
          · replace h := h.2 hc
            refine v_iload_n C dX6_top_47 rfl 5 rfl ?_
            refine v_if_ne C (tgt := 59) dX6_top_48 (by decide) (fun hc => ?_) (fun hc => ?_)
            · replace h := h.2 hc
              refine v_aload C dX6_top_59 1 rfl ?_
              refine g_3_counts C hk3 mF_X6_203 dX6_top_61 ?_
              refine v_iload C dX6_top_64 0 rfl ?_
              obtain ⟨hi6, h⟩ := h
              refine v_iald C (c0 := 20) (by decide) rfl (kd_3_1 hk3) hi6 dX6_top_66 ?_
              exact v_iret C dX6_top_67 hret hlk h
            · replace h := h.1 hc
              refine v_iload C dX6_top_51 0 rfl ?_
              refine ks_X6_codeOf C r5  h mM_X6_200 ⟨Nat.le_of_ble_eq_true rfl, Nat.le_of_ble_eq_true rfl⟩ (Nat.le_of_ble_eq_true rfl) dX6_top_53 (fun r8 σ7 h => ?_)
              refine v_goto C (tgt := 67) dX6_top_56 (by decide) ?_
              exact v_iret C dX6_top_67 hret hlk h
          · replace h := h.1 hc
            refine v_bipush C (v := (-5)) dX6_top_44 rfl ?_
            exact v_iret C dX6_top_46 hret hlk h
        · replace h := h.2 hc
          refine v_bipush C (v := (-2)) dX6_top_27 rfl ?_
          exact v_iret C dX6_top_29 hret hlk h
theorem hd_X6_top : yX6_top.cls ≠ "java/lang/invoke/MethodHandle" ∧ yX6_top.cls ≠ "java/lang/invoke/VarHandle" ∧ (parseMethodDescriptor yX6_top.desc).map (fun d => d.parameters.length) = some 3 := by decide +kernel
theorem k_X6_top {p : Program} {l : Launch} {e : Env} {R : Room} {s : State} {m : MethodId} {args : Array Value} {below : List Frame} {meth : Method} {c : Code} {nL cells slots : Nat} {Q : State → Prop} {A : Nat → Prop} {L : Ly} {own : String} {cc : ByteArray} {σ : Mem} {pc idx : Nat} {lv : List (Nat × Value)} {st : List Value} {K : Int32 → Mem → Prop} (C : Cx p R s m args meth c own cc nL cells slots A L) (a1 : Int32) (a2 : Int32) (a3 : Int32)  (h : w_X6_top a1 a2 a3 σ K) (hml : Cond.methodLink own idx yX6_top ∈ wA) (hR : rm_X6_top.frames + 1 ≤ R.frames ∧ 8 + (6 + 11) + rm_X6_top.locals ≤ R.locals) (hsum : (st.map fun v => v.category).sum ≤ 8) (d : decode cc pc = .ok (.invokevirtual idx, 3)) (kk : ∀ r σ1, K r σ1 → V p l e R s m args below meth c nL cells slots Q A L σ1 (pc + 3) lv (.int r :: st)) : V p l e R s m args below meth c nL cells slots Q A L σ pc lv (.int a3 :: .int a2 :: .int a1 :: .ref (lad L 299) :: st) := v_callVi C [.int a1, .int a2, .int a3] (fun sz => c_X6_top l L a1 a2 a3 σ _  h sz) mC_X6_top mZ_X6 hd_X6_top mI_X6_top mS_X6_top rfl rfl (c0 := 6) (ci := 6) (by decide) rfl rfl rfl kdn_299 hml hR rfl hsum d kk
-- ===== RX6.first
abbrev rm_X6_first : Room := { frames := 6, cells := 0, slots := 0, locals := 136 }
def w_X6_first_34 (a1 : Int32) (a2 : Int32) (a3 : Int32) (K : Int32 → Mem → Prop)  : Nat → Nat → Int32 → Int32 → Mem → Prop
  | 0, _, _, _, _ => False
  | n + 1, r4, x5, x6, σ => (br (26 ≤ x6) (K x5 σ) (w_X3_lettersAhead r4 x6 a3 σ (fun r5 σ4 => (br (a2 ≤ r5) (w_X6_first_34 a1 a2 a3 K  n r4 x5 (x6 + 1) σ4) (∀ v6 : Int32, v6 = (x5 ||| (1 <<< (x6 &&& 31))) → (w_X6_first_34 a1 a2 a3 K  n r4 v6 (x6 + 1) σ4))))))
set_option maxHeartbeats 4000000 in
set_option maxRecDepth 100000 in
theorem b_X6_first_34 {p : Program} {l : Launch} {e : Env} {s : State} {m : MethodId} {args : Array Value} {below : List Frame} {meth : Method} {c : Code} {L : Ly} {sz : Nat} (C : Cx p rm_X6_first s m args meth c RX6 cX6_first 7 0 0 (mA L sz) L) (hret : meth.sig.returnType = (some .int)) (hlk : meth.locks = false) (a1 : Int32) (a2 : Int32) (a3 : Int32)  (K : Int32 → Mem → Prop)  : ∀ (n : Nat) (r4 : Nat) (x5 : Int32) (x6 : Int32) (σ : Mem), kd r4 = 3 → w_X6_first_34 a1 a2 a3 K  n r4 x5 x6 σ → V p l e rm_X6_first s m args below meth c 7 0 0 (MQ below (va_Qi K (mE L) (mA L sz)) args s 0 0 (mA L sz)) (mA L sz) L σ 34 [(0, .ref (lad L 299)), (1, .int a1), (2, .int a2), (3, .int a3), (4, .ref (lad L r4)), (5, .int x5), (6, .int x6)] [] := by
  intro n
  induction n with
  | zero => intro r4 x5 x6 σ hr4 h; exact h.elim
  | succ n ih =>
    intro r4 x5 x6 σ hr4 h
    rw [w_X6_first_34] at h
    refine v_iload C dX6_first_34 6 rfl ?_
    refine v_bipush C (v := 26) dX6_first_36 rfl ?_
    refine v_icmp_ge C (tgt := 68) dX6_first_38 (by decide) (fun hc => ?_) (fun hc => ?_)
    · replace h := h.1 hc
      refine v_iload C dX6_first_68 5 rfl ?_
      exact v_iret C dX6_first_70 hret hlk h
    · replace h := h.2 hc
      refine v_aload C dX6_first_41 4 rfl ?_
      refine v_iload C dX6_first_43 6 rfl ?_
      refine v_iload_n C dX6_first_45 rfl 3 rfl ?_
      refine k_X3_lettersAhead C r4 x6 a3 hr4 h mM_X6_206 ⟨Nat.le_of_ble_eq_true rfl, Nat.le_of_ble_eq_true rfl⟩ (Nat.le_of_ble_eq_true rfl) dX6_first_46 (fun r5 σ4 h => ?_)
      refine v_iload_n C dX6_first_49 rfl 2 rfl ?_
      refine v_icmp_ge C (tgt := 62) dX6_first_50 (by decide) (fun hc => ?_) (fun hc => ?_)
      · replace h := h.1 hc
        refine v_iinc C [(6, .int (x6 + 1)), (0, .ref (lad L 299)), (1, .int a1), (2, .int a2), (3, .int a3), (4, .ref (lad L r4)), (5, .int x5)] dX6_first_62 6 rfl rfl (by decide) rfl ?_
        refine v_goto C (tgt := 34) dX6_first_65 (by decide) ?_
        refine v_sub [1, 2, 3, 4, 5, 6, 0] rfl ?_
        exact ih _ _ _ _ hr4 h
      · replace h := h.2 hc
        refine v_iload C dX6_first_53 5 rfl ?_
        refine v_iconst C (v := 1) dX6_first_55 rfl ?_
        refine v_iload C dX6_first_56 6 rfl ?_
        refine v_ishl C dX6_first_58 ?_
        refine v_ior C dX6_first_59 ?_
        refine v_nm (fun v6 ev6 => ?_)
        replace h := h v6 ev6
        refine v_istore C [(5, .int v6), (0, .ref (lad L 299)), (1, .int a1), (2, .int a2), (3, .int a3), (4, .ref (lad L r4)), (6, .int x6)] dX6_first_60 (by decide) rfl ?_
        refine v_iinc C [(6, .int (x6 + 1)), (5, .int v6), (0, .ref (lad L 299)), (1, .int a1), (2, .int a2), (3, .int a3), (4, .ref (lad L r4))] dX6_first_62 6 rfl rfl (by decide) rfl ?_
        refine v_goto C (tgt := 34) dX6_first_65 (by decide) ?_
        refine v_sub [2, 3, 4, 5, 6, 1, 0] rfl ?_
        exact ih _ _ _ _ hr4 h
def w_X6_first (a1 : Int32) (a2 : Int32) (a3 : Int32) (σ : Mem) (K : Int32 → Mem → Prop) : Prop := (w_X6_told a1 σ (fun or2 σ1 => (or2 = none → (K (-1) σ1)) ∧ (∀ r2 : Nat, or2 = some r2 → (br (a2 < 1) (K (-2) σ1) (br (a2 ≤ 25) (∃ n7, w_X6_first_34 a1 a2 a3 K  n7 r2 0 0 σ1) (K (-2) σ1))))))
set_option maxHeartbeats 4000000 in
set_option maxRecDepth 100000 in
theorem c_X6_first (l : Launch) (L : Ly) (a1 : Int32) (a2 : Int32) (a3 : Int32) (σ : Mem) (K : Int32 → Mem → Prop)  (h : w_X6_first a1 a2 a3 σ K) (sz : Nat) : Met l yX6_first (.code yX6_first cX6_first 7 (some .int) :: wA) rm_X6_first (va_Pc [.ref (lad L 299), .int a1, .int a2, .int a3] (mB L sz σ)) (va_Qi K (mE L) (mA L sz)) 0 0 (mA L sz) := by
  refine v_start (own := RX6) [(0, .ref (lad L 299)), (1, .int a1), (2, .int a2), (3, .int a3)] (by decide) rfl (Nat.le_of_ble_eq_true rfl) rfl (fun p e s m args below meth c C hret hlk => ?_)
  unfold w_X6_first at h
  refine v_aload_n C dX6_first_0 rfl 0 rfl ?_
  refine v_iload_n C dX6_first_1 rfl 1 rfl ?_
  refine k_X6_told C a1  h mM_X6_166 ⟨Nat.le_of_ble_eq_true rfl, Nat.le_of_ble_eq_true rfl⟩ (Nat.le_of_ble_eq_true rfl) dX6_first_2 (fun ror2 σ1 h => ?_)
  obtain ⟨hk30, h⟩ := h
  rcases ror2 with _ | r2
  · replace h := h.1 rfl
    refine v_reN ?_
    refine v_astoreN C [(4, .null), (0, .ref (lad L 299)), (1, .int a1), (2, .int a2), (3, .int a3)] dX6_first_5 (by decide) rfl ?_
    refine v_aloadN C dX6_first_7 0 rfl ?_
    refine v_ifnonnullN C dX6_first_9 ?_
    refine v_iconst C (v := (-1)) dX6_first_12 rfl ?_
    exact v_iret C dX6_first_13 hret hlk h
  · replace h := h.2 r2 rfl
    have hk3 := hk30 r2 rfl
    refine v_re ?_
    refine v_astore C [(4, .ref (lad L r2)), (0, .ref (lad L 299)), (1, .int a1), (2, .int a2), (3, .int a3)] dX6_first_5 (by decide) rfl ?_
    refine v_aload C dX6_first_7 0 rfl ?_
    refine v_ifnonnull C (tgt := 14) dX6_first_9 (by decide) ?_
    refine v_iload_n C dX6_first_14 rfl 3 rfl ?_
    refine v_iconst C (v := 1) dX6_first_15 rfl ?_
    refine v_icmp_lt C (tgt := 25) dX6_first_16 (by decide) (fun hc => ?_) (fun hc => ?_)
    · replace h := h.1 hc
      refine v_bipush C (v := (-2)) dX6_first_25 rfl ?_
      exact v_iret C dX6_first_27 hret hlk h
    · replace h := h.2 hc
      refine v_iload_n C dX6_first_19 rfl 3 rfl ?_
      refine v_bipush C (v := 25) dX6_first_20 rfl ?_
      refine v_icmp_le C (tgt := 28) dX6_first_22 (by decide) (fun hc => ?_) (fun hc => ?_)
      · replace h := h.1 hc
        refine v_iconst C (v := 0) dX6_first_28 rfl ?_
        refine v_istore C [(5, .int 0), (4, .ref (lad L r2)), (0, .ref (lad L 299)), (1, .int a1), (2, .int a2), (3, .int a3)] dX6_first_29 (by decide) rfl ?_
        refine v_iconst C (v := 0) dX6_first_31 rfl ?_
        refine v_istore C [(6, .int 0), (5, .int 0), (4, .ref (lad L r2)), (0, .ref (lad L 299)), (1, .int a1), (2, .int a2), (3, .int a3)] dX6_first_32 (by decide) rfl ?_
        obtain ⟨n7, h⟩ := h
        refine v_sub [3, 4, 5, 6, 2, 1, 0] rfl ?_
        exact b_X6_first_34 C hret hlk a1 a2 a3  K   n7 _ _ _ _ hk3 h
      · replace h := h.2 hc
        refine v_bipush C (v := (-2)) dX6_first_25 rfl ?_
        exact v_iret C dX6_first_27 hret hlk h
theorem hd_X6_first : yX6_first.cls ≠ "java/lang/invoke/MethodHandle" ∧ yX6_first.cls ≠ "java/lang/invoke/VarHandle" ∧ (parseMethodDescriptor yX6_first.desc).map (fun d => d.parameters.length) = some 3 := by decide +kernel
theorem k_X6_first {p : Program} {l : Launch} {e : Env} {R : Room} {s : State} {m : MethodId} {args : Array Value} {below : List Frame} {meth : Method} {c : Code} {nL cells slots : Nat} {Q : State → Prop} {A : Nat → Prop} {L : Ly} {own : String} {cc : ByteArray} {σ : Mem} {pc idx : Nat} {lv : List (Nat × Value)} {st : List Value} {K : Int32 → Mem → Prop} (C : Cx p R s m args meth c own cc nL cells slots A L) (a1 : Int32) (a2 : Int32) (a3 : Int32)  (h : w_X6_first a1 a2 a3 σ K) (hml : Cond.methodLink own idx yX6_first ∈ wA) (hR : rm_X6_first.frames + 1 ≤ R.frames ∧ 8 + (7 + 11) + rm_X6_first.locals ≤ R.locals) (hsum : (st.map fun v => v.category).sum ≤ 8) (d : decode cc pc = .ok (.invokevirtual idx, 3)) (kk : ∀ r σ1, K r σ1 → V p l e R s m args below meth c nL cells slots Q A L σ1 (pc + 3) lv (.int r :: st)) : V p l e R s m args below meth c nL cells slots Q A L σ pc lv (.int a3 :: .int a2 :: .int a1 :: .ref (lad L 299) :: st) := v_callVi C [.int a1, .int a2, .int a3] (fun sz => c_X6_first l L a1 a2 a3 σ _  h sz) mC_X6_first mZ_X6 hd_X6_first mI_X6_first mS_X6_first rfl rfl (c0 := 6) (ci := 6) (by decide) rfl rfl rfl kdn_299 hml hR rfl hsum d kk
-- ===== RX6.above
abbrev rm_X6_above : Room := { frames := 6, cells := 0, slots := 0, locals := 136 }
def w_X6_above_62 (a1 : Int32) (a2 : Int32) (a3 : Int32) (K : Int32 → Mem → Prop) (A34 : Nat → Int32 → Int32 → Mem → Prop) (r4 : Nat) (x5 : Int32) (x6 : Int32) (s0 : Int32) (σ : Mem) : Prop := (br ((lg_cmp ((Int32.toInt64 s0) * 100) ((Int32.toInt64 a2) * (Int32.toInt64 (σ r4 2)))) ≤ 0) (A34 r4 x5 (x6 + 1) σ) (∀ v6 : Int32, v6 = (x5 ||| (1 <<< (x6 &&& 31))) → (A34 r4 v6 (x6 + 1) σ)))
set_option maxHeartbeats 4000000 in
set_option maxRecDepth 100000 in
theorem b_X6_above_62 {p : Program} {l : Launch} {e : Env} {s : State} {m : MethodId} {args : Array Value} {below : List Frame} {meth : Method} {c : Code} {L : Ly} {sz : Nat} (C : Cx p rm_X6_above s m args meth c RX6 cX6_above 8 0 0 (mA L sz) L) (hret : meth.sig.returnType = (some .int)) (hlk : meth.locks = false) (a1 : Int32) (a2 : Int32) (a3 : Int32)  (K : Int32 → Mem → Prop) (A34 : Nat → Int32 → Int32 → Mem → Prop) (hA34 : ∀ (r4 : Nat) (x5 : Int32) (x6 : Int32) (σ : Mem), kd r4 = 3 → A34 r4 x5 x6 σ → V p l e rm_X6_above s m args below meth c 8 0 0 (MQ below (va_Qi K (mE L) (mA L sz)) args s 0 0 (mA L sz)) (mA L sz) L σ 34 [(0, .ref (lad L 299)), (1, .int a1), (2, .int a2), (3, .int a3), (4, .ref (lad L r4)), (5, .int x5), (6, .int x6)] []) (r4 : Nat) (x5 : Int32) (x6 : Int32) (s0 : Int32) (σ : Mem) (hr4 : kd r4 = 3) (h : w_X6_above_62 a1 a2 a3 K A34 r4 x5 x6 s0 σ) : V p l e rm_X6_above s m args below meth c 8 0 0 (MQ below (va_Qi K (mE L) (mA L sz)) args s 0 0 (mA L sz)) (mA L sz) L σ 62 [(0, .ref (lad L 299)), (1, .int a1), (2, .int a2), (3, .int a3), (4, .ref (lad L r4)), (5, .int x5), (6, .int x6)] [.int s0] := by
  unfold w_X6_above_62 at h
  refine v_istore C [(7, .int s0), (0, .ref (lad L 299)), (1, .int a1), (2, .int a2), (3, .int a3), (4, .ref (lad L r4)), (5, .int x5), (6, .int x6)] dX6_above_62 (by decide) rfl ?_
  refine v_iload C dX6_above_64 0 rfl ?_
  refine v_i2l C dX6_above_66 ?_
  refine v_ldc2 C dX6_above_67 mN_X6_210 ?_
  refine v_lmul C dX6_above_70 ?_
  refine v_iload_n C dX6_above_71 rfl 3 rfl ?_
  refine v_i2l C dX6_above_72 ?_
  refine v_aload C dX6_above_73 5 rfl ?_
  refine g_3_sum C hr4 mF_X6_59 dX6_above_75 ?_
  refine v_i2l C dX6_above_78 ?_
  refine v_lmul C dX6_above_79 ?_
  refine v_lcmp C dX6_above_80 ?_
  refine v_if_le C (tgt := 93) dX6_above_81 (by decide) (fun hc => ?_) (fun hc => ?_)
  · replace h := h.1 hc
    refine v_iinc C [(6, .int (x6 + 1)), (7, .int s0), (0, .ref (lad L 299)), (1, .int a1), (2, .int a2), (3, .int a3), (4, .ref (lad L r4)), (5, .int x5)] dX6_above_93 7 rfl rfl (by decide) rfl ?_
    refine v_goto C (tgt := 34) dX6_above_96 (by decide) ?_
    refine v_sub [2, 3, 4, 5, 6, 7, 0] rfl ?_
    exact hA34 _ _ _ _ hr4 h
  · replace h := h.2 hc
    refine v_iload C dX6_above_84 6 rfl ?_
    refine v_iconst C (v := 1) dX6_above_86 rfl ?_
    refine v_iload C dX6_above_87 7 rfl ?_
    refine v_ishl C dX6_above_89 ?_
    refine v_ior C dX6_above_90 ?_
    refine v_nm (fun v6 ev6 => ?_)
    replace h := h v6 ev6
    refine v_istore C [(5, .int v6), (7, .int s0), (0, .ref (lad L 299)), (1, .int a1), (2, .int a2), (3, .int a3), (4, .ref (lad L r4)), (6, .int x6)] dX6_above_91 (by decide) rfl ?_
    refine v_iinc C [(6, .int (x6 + 1)), (5, .int v6), (7, .int s0), (0, .ref (lad L 299)), (1, .int a1), (2, .int a2), (3, .int a3), (4, .ref (lad L r4))] dX6_above_93 7 rfl rfl (by decide) rfl ?_
    refine v_goto C (tgt := 34) dX6_above_96 (by decide) ?_
    refine v_sub [3, 4, 5, 6, 7, 1, 0] rfl ?_
    exact hA34 _ _ _ _ hr4 h
def w_X6_above_34 (a1 : Int32) (a2 : Int32) (a3 : Int32) (K : Int32 → Mem → Prop)  : Nat → Nat → Int32 → Int32 → Mem → Prop
  | 0, _, _, _, _ => False
  | n + 1, r4, x5, x6, σ => (br (26 ≤ x6) (K x5 σ) (br (a3 = 0) (w_X3_upper r4 x6 σ (fun r5 σ4 => (w_X6_above_62 a1 a2 a3 K (w_X6_above_34 a1 a2 a3 K  n) r4 x5 x6 r5 σ4))) (w_X3_lower r4 x6 σ (fun r8 σ7 => (w_X6_above_62 a1 a2 a3 K (w_X6_above_34 a1 a2 a3 K  n) r4 x5 x6 r8 σ7)))))
set_option maxHeartbeats 4000000 in
set_option maxRecDepth 100000 in
theorem b_X6_above_34 {p : Program} {l : Launch} {e : Env} {s : State} {m : MethodId} {args : Array Value} {below : List Frame} {meth : Method} {c : Code} {L : Ly} {sz : Nat} (C : Cx p rm_X6_above s m args meth c RX6 cX6_above 8 0 0 (mA L sz) L) (hret : meth.sig.returnType = (some .int)) (hlk : meth.locks = false) (a1 : Int32) (a2 : Int32) (a3 : Int32)  (K : Int32 → Mem → Prop)  : ∀ (n : Nat) (r4 : Nat) (x5 : Int32) (x6 : Int32) (σ : Mem), kd r4 = 3 → w_X6_above_34 a1 a2 a3 K  n r4 x5 x6 σ → V p l e rm_X6_above s m args below meth c 8 0 0 (MQ below (va_Qi K (mE L) (mA L sz)) args s 0 0 (mA L sz)) (mA L sz) L σ 34 [(0, .ref (lad L 299)), (1, .int a1), (2, .int a2), (3, .int a3), (4, .ref (lad L r4)), (5, .int x5), (6, .int x6)] [] := by
  intro n
  induction n with
  | zero => intro r4 x5 x6 σ hr4 h; exact h.elim
  | succ n ih =>
    intro r4 x5 x6 σ hr4 h
    rw [w_X6_above_34] at h
    refine v_iload C dX6_above_34 6 rfl ?_
    refine v_bipush C (v := 26) dX6_above_36 rfl ?_
    refine v_icmp_ge C (tgt := 99) dX6_above_38 (by decide) (fun hc => ?_) (fun hc => ?_)
    · replace h := h.1 hc
      refine v_iload C dX6_above_99 5 rfl ?_
      exact v_iret C dX6_above_101 hret hlk h
    · replace h := h.2 hc
      refine v_iload_n C dX6_above_41 rfl 3 rfl ?_
      refine v_if_eq C (tgt := 55) dX6_above_42 (by decide) (fun hc => ?_) (fun hc => ?_)
      · replace h := h.1 hc
        refine v_aload C dX6_above_55 4 rfl ?_
        refine v_iload C dX6_above_57 6 rfl ?_
        refine k_X3_upper C r4 x6 hr4 h mM_X6_72 ⟨Nat.le_of_ble_eq_true rfl, Nat.le_of_ble_eq_true rfl⟩ (Nat.le_of_ble_eq_true rfl) dX6_above_59 (fun r5 σ4 h => ?_)
        refine v_sub [0, 1, 2, 3, 4, 5, 6] rfl ?_
        exact b_X6_above_62 C hret hlk a1 a2 a3  K _ ih _ _ _ _ _ hr4 h
      · replace h := h.2 hc
        refine v_aload C dX6_above_45 4 rfl ?_
        refine v_iload C dX6_above_47 6 rfl ?_
        refine k_X3_lower C r4 x6 hr4 h mM_X6_182 ⟨Nat.le_of_ble_eq_true rfl, Nat.le_of_ble_eq_true rfl⟩ (Nat.le_of_ble_eq_true rfl) dX6_above_49 (fun r8 σ7 h => ?_)
        refine v_goto C (tgt := 62) dX6_above_52 (by decide) ?_
        refine v_sub [0, 1, 2, 3, 4, 5, 6] rfl ?_
        exact b_X6_above_62 C hret hlk a1 a2 a3  K _ ih _ _ _ _ _ hr4 h
def w_X6_above (a1 : Int32) (a2 : Int32) (a3 : Int32) (σ : Mem) (K : Int32 → Mem → Prop) : Prop := (w_X6_told a1 σ (fun or2 σ1 => (or2 = none → (K (-1) σ1)) ∧ (∀ r2 : Nat, or2 = some r2 → (br (a2 < 1) (K (-2) σ1) (br (a2 ≤ 99) (∃ n9, w_X6_above_34 a1 a2 a3 K  n9 r2 0 0 σ1) (K (-2) σ1))))))
set_option maxHeartbeats 4000000 in
set_option maxRecDepth 100000 in
theorem c_X6_above (l : Launch) (L : Ly) (a1 : Int32) (a2 : Int32) (a3 : Int32) (σ : Mem) (K : Int32 → Mem → Prop)  (h : w_X6_above a1 a2 a3 σ K) (sz : Nat) : Met l yX6_above (.code yX6_above cX6_above 8 (some .int) :: wA) rm_X6_above (va_Pc [.ref (lad L 299), .int a1, .int a2, .int a3] (mB L sz σ)) (va_Qi K (mE L) (mA L sz)) 0 0 (mA L sz) := by
  refine v_start (own := RX6) [(0, .ref (lad L 299)), (1, .int a1), (2, .int a2), (3, .int a3)] (by decide) rfl (Nat.le_of_ble_eq_true rfl) rfl (fun p e s m args below meth c C hret hlk => ?_)
  unfold w_X6_above at h
  refine v_aload_n C dX6_above_0 rfl 0 rfl ?_
  refine v_iload_n C dX6_above_1 rfl 1 rfl ?_
  refine k_X6_told C a1  h mM_X6_166 ⟨Nat.le_of_ble_eq_true rfl, Nat.le_of_ble_eq_true rfl⟩ (Nat.le_of_ble_eq_true rfl) dX6_above_2 (fun ror2 σ1 h => ?_)
  obtain ⟨hk30, h⟩ := h
  rcases ror2 with _ | r2
  · replace h := h.1 rfl
    refine v_reN ?_
    refine v_astoreN C [(4, .null), (0, .ref (lad L 299)), (1, .int a1), (2, .int a2), (3, .int a3)] dX6_above_5 (by decide) rfl ?_
    refine v_aloadN C dX6_above_7 0 rfl ?_
    refine v_ifnonnullN C dX6_above_9 ?_
    refine v_iconst C (v := (-1)) dX6_above_12 rfl ?_
    exact v_iret C dX6_above_13 hret hlk h
  · replace h := h.2 r2 rfl
    have hk3 := hk30 r2 rfl
    refine v_re ?_
    refine v_astore C [(4, .ref (lad L r2)), (0, .ref (lad L 299)), (1, .int a1), (2, .int a2), (3, .int a3)] dX6_above_5 (by decide) rfl ?_
    refine v_aload C dX6_above_7 0 rfl ?_
    refine v_ifnonnull C (tgt := 14) dX6_above_9 (by decide) ?_
    refine v_iload_n C dX6_above_14 rfl 3 rfl ?_
    refine v_iconst C (v := 1) dX6_above_15 rfl ?_
    refine v_icmp_lt C (tgt := 25) dX6_above_16 (by decide) (fun hc => ?_) (fun hc => ?_)
    · replace h := h.1 hc
      refine v_bipush C (v := (-2)) dX6_above_25 rfl ?_
      exact v_iret C dX6_above_27 hret hlk h
    · replace h := h.2 hc
      refine v_iload_n C dX6_above_19 rfl 3 rfl ?_
      refine v_bipush C (v := 99) dX6_above_20 rfl ?_
      refine v_icmp_le C (tgt := 28) dX6_above_22 (by decide) (fun hc => ?_) (fun hc => ?_)
      · replace h := h.1 hc
        refine v_iconst C (v := 0) dX6_above_28 rfl ?_
        refine v_istore C [(5, .int 0), (4, .ref (lad L r2)), (0, .ref (lad L 299)), (1, .int a1), (2, .int a2), (3, .int a3)] dX6_above_29 (by decide) rfl ?_
        refine v_iconst C (v := 0) dX6_above_31 rfl ?_
        refine v_istore C [(6, .int 0), (5, .int 0), (4, .ref (lad L r2)), (0, .ref (lad L 299)), (1, .int a1), (2, .int a2), (3, .int a3)] dX6_above_32 (by decide) rfl ?_
        obtain ⟨n9, h⟩ := h
        refine v_sub [3, 4, 5, 6, 2, 1, 0] rfl ?_
        exact b_X6_above_34 C hret hlk a1 a2 a3  K   n9 _ _ _ _ hk3 h
      · replace h := h.2 hc
        refine v_bipush C (v := (-2)) dX6_above_25 rfl ?_
        exact v_iret C dX6_above_27 hret hlk h
theorem hd_X6_above : yX6_above.cls ≠ "java/lang/invoke/MethodHandle" ∧ yX6_above.cls ≠ "java/lang/invoke/VarHandle" ∧ (parseMethodDescriptor yX6_above.desc).map (fun d => d.parameters.length) = some 3 := by decide +kernel
theorem k_X6_above {p : Program} {l : Launch} {e : Env} {R : Room} {s : State} {m : MethodId} {args : Array Value} {below : List Frame} {meth : Method} {c : Code} {nL cells slots : Nat} {Q : State → Prop} {A : Nat → Prop} {L : Ly} {own : String} {cc : ByteArray} {σ : Mem} {pc idx : Nat} {lv : List (Nat × Value)} {st : List Value} {K : Int32 → Mem → Prop} (C : Cx p R s m args meth c own cc nL cells slots A L) (a1 : Int32) (a2 : Int32) (a3 : Int32)  (h : w_X6_above a1 a2 a3 σ K) (hml : Cond.methodLink own idx yX6_above ∈ wA) (hR : rm_X6_above.frames + 1 ≤ R.frames ∧ 8 + (8 + 11) + rm_X6_above.locals ≤ R.locals) (hsum : (st.map fun v => v.category).sum ≤ 8) (d : decode cc pc = .ok (.invokevirtual idx, 3)) (kk : ∀ r σ1, K r σ1 → V p l e R s m args below meth c nL cells slots Q A L σ1 (pc + 3) lv (.int r :: st)) : V p l e R s m args below meth c nL cells slots Q A L σ pc lv (.int a3 :: .int a2 :: .int a1 :: .ref (lad L 299) :: st) := v_callVi C [.int a1, .int a2, .int a3] (fun sz => c_X6_above l L a1 a2 a3 σ _  h sz) mC_X6_above mZ_X6 hd_X6_above mI_X6_above mS_X6_above rfl rfl (c0 := 6) (ci := 6) (by decide) rfl rfl rfl kdn_299 hml hR rfl hsum d kk
-- ===== RX6.rank
abbrev rm_X6_rank : Room := { frames := 6, cells := 0, slots := 0, locals := 136 }
def w_X6_rank (a1 : Int32) (a2 : Int32) (a3 : Int32) (σ : Mem) (K : Int32 → Mem → Prop) : Prop := (w_X6_told a1 σ (fun or2 σ1 => (or2 = none → (w_X6_letterIndex a2 σ1 (fun r5 σ4 => (K (-1) σ4)))) ∧ (∀ r2 : Nat, or2 = some r2 → (w_X6_letterIndex a2 σ1 (fun r7 σ6 => (br (r7 = (-1)) (K (-1) σ6) (w_X3_lettersAhead r2 r7 a3 σ6 (fun r9 σ8 => (K (1 + r9) σ8)))))))))
set_option maxHeartbeats 4000000 in
set_option maxRecDepth 100000 in
theorem c_X6_rank (l : Launch) (L : Ly) (a1 : Int32) (a2 : Int32) (a3 : Int32) (σ : Mem) (K : Int32 → Mem → Prop)  (h : w_X6_rank a1 a2 a3 σ K) (sz : Nat) : Met l yX6_rank (.code yX6_rank cX6_rank 6 (some .int) :: wA) rm_X6_rank (va_Pc [.ref (lad L 299), .int a1, .int a2, .int a3] (mB L sz σ)) (va_Qi K (mE L) (mA L sz)) 0 0 (mA L sz) := by
  refine v_start (own := RX6) [(0, .ref (lad L 299)), (1, .int a1), (2, .int a2), (3, .int a3)] (by decide) rfl (Nat.le_of_ble_eq_true rfl) rfl (fun p e s m args below meth c C hret hlk => ?_)
  unfold w_X6_rank at h
  refine v_aload_n C dX6_rank_0 rfl 0 rfl ?_
  refine v_iload_n C dX6_rank_1 rfl 1 rfl ?_
  refine k_X6_told C a1  h mM_X6_166 ⟨Nat.le_of_ble_eq_true rfl, Nat.le_of_ble_eq_true rfl⟩ (Nat.le_of_ble_eq_true rfl) dX6_rank_2 (fun ror2 σ1 h => ?_)
  obtain ⟨hk30, h⟩ := h
  rcases ror2 with _ | r2
  · replace h := h.1 rfl
    refine v_reN ?_
    refine v_astoreN C [(4, .null), (0, .ref (lad L 299)), (1, .int a1), (2, .int a2), (3, .int a3)] dX6_rank_5 (by decide) rfl ?_
    refine v_iload_n C dX6_rank_7 rfl 3 rfl ?_
    refine ks_X6_letterIndex C a2  h mM_X6_44 ⟨Nat.le_of_ble_eq_true rfl, Nat.le_of_ble_eq_true rfl⟩ (Nat.le_of_ble_eq_true rfl) dX6_rank_8 (fun r5 σ4 h => ?_)
    refine v_istore C [(5, .int r5), (4, .null), (0, .ref (lad L 299)), (1, .int a1), (2, .int a2), (3, .int a3)] dX6_rank_11 (by decide) rfl ?_
    refine v_aloadN C dX6_rank_13 1 rfl ?_
    refine v_ifnullN C (tgt := 24) dX6_rank_15 (by decide) ?_
    refine v_iconst C (v := (-1)) dX6_rank_24 rfl ?_
    exact v_iret C dX6_rank_25 hret hlk h
  · replace h := h.2 r2 rfl
    have hk3 := hk30 r2 rfl
    refine v_re ?_
    refine v_astore C [(4, .ref (lad L r2)), (0, .ref (lad L 299)), (1, .int a1), (2, .int a2), (3, .int a3)] dX6_rank_5 (by decide) rfl ?_
    refine v_iload_n C dX6_rank_7 rfl 3 rfl ?_
    refine ks_X6_letterIndex C a2  h mM_X6_44 ⟨Nat.le_of_ble_eq_true rfl, Nat.le_of_ble_eq_true rfl⟩ (Nat.le_of_ble_eq_true rfl) dX6_rank_8 (fun r7 σ6 h => ?_)
    refine v_istore C [(5, .int r7), (4, .ref (lad L r2)), (0, .ref (lad L 299)), (1, .int a1), (2, .int a2), (3, .int a3)] dX6_rank_11 (by decide) rfl ?_
    refine v_aload C dX6_rank_13 1 rfl ?_
    refine v_ifnull C dX6_rank_15 ?_
    refine v_iload C dX6_rank_18 0 rfl ?_
    refine v_iconst C (v := (-1)) dX6_rank_20 rfl ?_
    refine v_icmp_ne C (tgt := 26) dX6_rank_21 (by decide) (fun hc => ?_) (fun hc => ?_)
    · replace h := h.2 hc
      refine v_iconst C (v := 1) dX6_rank_26 rfl ?_
      refine v_aload C dX6_rank_27 1 rfl ?_
      refine v_iload C dX6_rank_29 0 rfl ?_
      refine v_iload_n C dX6_rank_31 rfl 5 rfl ?_
      refine k_X3_lettersAhead C r2 r7 a3 hk3 h mM_X6_206 ⟨Nat.le_of_ble_eq_true rfl, Nat.le_of_ble_eq_true rfl⟩ (Nat.le_of_ble_eq_true rfl) dX6_rank_32 (fun r9 σ8 h => ?_)
      refine v_iadd C dX6_rank_35 ?_
      exact v_iret C dX6_rank_36 hret hlk h
    · replace h := h.1 hc
      refine v_iconst C (v := (-1)) dX6_rank_24 rfl ?_
      exact v_iret C dX6_rank_25 hret hlk h
theorem hd_X6_rank : yX6_rank.cls ≠ "java/lang/invoke/MethodHandle" ∧ yX6_rank.cls ≠ "java/lang/invoke/VarHandle" ∧ (parseMethodDescriptor yX6_rank.desc).map (fun d => d.parameters.length) = some 3 := by decide +kernel
theorem k_X6_rank {p : Program} {l : Launch} {e : Env} {R : Room} {s : State} {m : MethodId} {args : Array Value} {below : List Frame} {meth : Method} {c : Code} {nL cells slots : Nat} {Q : State → Prop} {A : Nat → Prop} {L : Ly} {own : String} {cc : ByteArray} {σ : Mem} {pc idx : Nat} {lv : List (Nat × Value)} {st : List Value} {K : Int32 → Mem → Prop} (C : Cx p R s m args meth c own cc nL cells slots A L) (a1 : Int32) (a2 : Int32) (a3 : Int32)  (h : w_X6_rank a1 a2 a3 σ K) (hml : Cond.methodLink own idx yX6_rank ∈ wA) (hR : rm_X6_rank.frames + 1 ≤ R.frames ∧ 8 + (6 + 11) + rm_X6_rank.locals ≤ R.locals) (hsum : (st.map fun v => v.category).sum ≤ 8) (d : decode cc pc = .ok (.invokevirtual idx, 3)) (kk : ∀ r σ1, K r σ1 → V p l e R s m args below meth c nL cells slots Q A L σ1 (pc + 3) lv (.int r :: st)) : V p l e R s m args below meth c nL cells slots Q A L σ pc lv (.int a3 :: .int a2 :: .int a1 :: .ref (lad L 299) :: st) := v_callVi C [.int a1, .int a2, .int a3] (fun sz => c_X6_rank l L a1 a2 a3 σ _  h sz) mC_X6_rank mZ_X6 hd_X6_rank mI_X6_rank mS_X6_rank rfl rfl (c0 := 6) (ci := 6) (by decide) rfl rfl rfl kdn_299 hml hR rfl hsum d kk
-- ===== RX6.alike
abbrev rm_X6_alike : Room := { frames := 6, cells := 0, slots := 0, locals := 136 }
def w_X6_alike_30 (a1 : Int32) (a2 : Int32) (K : Int32 → Mem → Prop)  : Nat → Nat → Nat → Int32 → Int32 → Mem → Prop
  | 0, _, _, _, _, _ => False
  | n + 1, r3, r4, x5, x6, σ => (br (26 ≤ x6) (K x5 σ) (w_X3_lower r3 x6 σ (fun r11 σ10 => (w_X3_upper r4 x6 σ10 (fun r13 σ12 => (br (r13 < r11) (w_X6_alike_30 a1 a2 K  n r3 r4 x5 (x6 + 1) σ12) (w_X3_lower r4 x6 σ12 (fun r15 σ14 => (w_X3_upper r3 x6 σ14 (fun r17 σ16 => (br (r17 < r15) (w_X6_alike_30 a1 a2 K  n r3 r4 x5 (x6 + 1) σ16) (w_X6_alike_30 a1 a2 K  n r3 r4 (x5 + 1) (x6 + 1) σ16))))))))))))
set_option maxHeartbeats 4000000 in
set_option maxRecDepth 100000 in
theorem b_X6_alike_30 {p : Program} {l : Launch} {e : Env} {s : State} {m : MethodId} {args : Array Value} {below : List Frame} {meth : Method} {c : Code} {L : Ly} {sz : Nat} (C : Cx p rm_X6_alike s m args meth c RX6 cX6_alike 7 0 0 (mA L sz) L) (hret : meth.sig.returnType = (some .int)) (hlk : meth.locks = false) (a1 : Int32) (a2 : Int32)  (K : Int32 → Mem → Prop)  : ∀ (n : Nat) (r3 : Nat) (r4 : Nat) (x5 : Int32) (x6 : Int32) (σ : Mem), kd r3 = 3 → kd r4 = 3 → w_X6_alike_30 a1 a2 K  n r3 r4 x5 x6 σ → V p l e rm_X6_alike s m args below meth c 7 0 0 (MQ below (va_Qi K (mE L) (mA L sz)) args s 0 0 (mA L sz)) (mA L sz) L σ 30 [(0, .ref (lad L 299)), (1, .int a1), (2, .int a2), (3, .ref (lad L r3)), (4, .ref (lad L r4)), (5, .int x5), (6, .int x6)] [] := by
  intro n
  induction n with
  | zero => intro r3 r4 x5 x6 σ hr3 hr4 h; exact h.elim
  | succ n ih =>
    intro r3 r4 x5 x6 σ hr3 hr4 h
    rw [w_X6_alike_30] at h
    refine v_iload C dX6_alike_30 6 rfl ?_
    refine v_bipush C (v := 26) dX6_alike_32 rfl ?_
    refine v_icmp_ge C (tgt := 78) dX6_alike_34 (by decide) (fun hc => ?_) (fun hc => ?_)
    · replace h := h.1 hc
      refine v_iload C dX6_alike_78 5 rfl ?_
      exact v_iret C dX6_alike_80 hret hlk h
    · replace h := h.2 hc
      refine v_aload_n C dX6_alike_37 rfl 3 rfl ?_
      refine v_iload C dX6_alike_38 6 rfl ?_
      refine k_X3_lower C r3 x6 hr3 h mM_X6_182 ⟨Nat.le_of_ble_eq_true rfl, Nat.le_of_ble_eq_true rfl⟩ (Nat.le_of_ble_eq_true rfl) dX6_alike_40 (fun r11 σ10 h => ?_)
      refine v_aload C dX6_alike_43 4 rfl ?_
      refine v_iload C dX6_alike_45 6 rfl ?_
      refine k_X3_upper C r4 x6 hr4 h mM_X6_72 ⟨Nat.le_of_ble_eq_true rfl, Nat.le_of_ble_eq_true rfl⟩ (Nat.le_of_ble_eq_true rfl) dX6_alike_47 (fun r13 σ12 h => ?_)
      refine v_icmp_gt C (tgt := 72) dX6_alike_50 (by decide) (fun hc => ?_) (fun hc => ?_)
      · replace h := h.1 hc
        refine v_iinc C [(6, .int (x6 + 1)), (0, .ref (lad L 299)), (1, .int a1), (2, .int a2), (3, .ref (lad L r3)), (4, .ref (lad L r4)), (5, .int x5)] dX6_alike_72 6 rfl rfl (by decide) rfl ?_
        refine v_goto C (tgt := 30) dX6_alike_75 (by decide) ?_
        refine v_sub [1, 2, 3, 4, 5, 6, 0] rfl ?_
        exact ih _ _ _ _ _ hr3 hr4 h
      · replace h := h.2 hc
        refine v_aload C dX6_alike_53 4 rfl ?_
        refine v_iload C dX6_alike_55 6 rfl ?_
        refine k_X3_lower C r4 x6 hr4 h mM_X6_182 ⟨Nat.le_of_ble_eq_true rfl, Nat.le_of_ble_eq_true rfl⟩ (Nat.le_of_ble_eq_true rfl) dX6_alike_57 (fun r15 σ14 h => ?_)
        refine v_aload_n C dX6_alike_60 rfl 3 rfl ?_
        refine v_iload C dX6_alike_61 6 rfl ?_
        refine k_X3_upper C r3 x6 hr3 h mM_X6_72 ⟨Nat.le_of_ble_eq_true rfl, Nat.le_of_ble_eq_true rfl⟩ (Nat.le_of_ble_eq_true rfl) dX6_alike_63 (fun r17 σ16 h => ?_)
        refine v_icmp_gt C (tgt := 72) dX6_alike_66 (by decide) (fun hc => ?_) (fun hc => ?_)
        · replace h := h.1 hc
          refine v_iinc C [(6, .int (x6 + 1)), (0, .ref (lad L 299)), (1, .int a1), (2, .int a2), (3, .ref (lad L r3)), (4, .ref (lad L r4)), (5, .int x5)] dX6_alike_72 6 rfl rfl (by decide) rfl ?_
          refine v_goto C (tgt := 30) dX6_alike_75 (by decide) ?_
          refine v_sub [1, 2, 3, 4, 5, 6, 0] rfl ?_
          exact ih _ _ _ _ _ hr3 hr4 h
        · replace h := h.2 hc
          refine v_iinc C [(5, .int (x5 + 1)), (0, .ref (lad L 299)), (1, .int a1), (2, .int a2), (3, .ref (lad L r3)), (4, .ref (lad L r4)), (6, .int x6)] dX6_alike_69 5 rfl rfl (by decide) rfl ?_
          refine v_iinc C [(6, .int (x6 + 1)), (5, .int (x5 + 1)), (0, .ref (lad L 299)), (1, .int a1), (2, .int a2), (3, .ref (lad L r3)), (4, .ref (lad L r4))] dX6_alike_72 6 rfl rfl (by decide) rfl ?_
          refine v_goto C (tgt := 30) dX6_alike_75 (by decide) ?_
          refine v_sub [2, 3, 4, 5, 6, 1, 0] rfl ?_
          exact ih _ _ _ _ _ hr3 hr4 h
def w_X6_alike (a1 : Int32) (a2 : Int32) (σ : Mem) (K : Int32 → Mem → Prop) : Prop := (w_X6_told a1 σ (fun or2 σ1 => (or2 = none → (w_X6_told a2 σ1 (fun or5 σ4 => (or5 = none → (K (-1) σ4)) ∧ (∀ r5 : Nat, or5 = some r5 → (K (-1) σ4))))) ∧ (∀ r2 : Nat, or2 = some r2 → (w_X6_told a2 σ1 (fun or8 σ7 => (or8 = none → (K (-1) σ7)) ∧ (∀ r8 : Nat, or8 = some r8 → (∃ n18, w_X6_alike_30 a1 a2 K  n18 r2 r8 0 0 σ7)))))))
set_option maxHeartbeats 4000000 in
set_option maxRecDepth 100000 in
theorem c_X6_alike (l : Launch) (L : Ly) (a1 : Int32) (a2 : Int32) (σ : Mem) (K : Int32 → Mem → Prop)  (h : w_X6_alike a1 a2 σ K) (sz : Nat) : Met l yX6_alike (.code yX6_alike cX6_alike 7 (some .int) :: wA) rm_X6_alike (va_Pc [.ref (lad L 299), .int a1, .int a2] (mB L sz σ)) (va_Qi K (mE L) (mA L sz)) 0 0 (mA L sz) := by
  refine v_start (own := RX6) [(0, .ref (lad L 299)), (1, .int a1), (2, .int a2)] (by decide) rfl (Nat.le_of_ble_eq_true rfl) rfl (fun p e s m args below meth c C hret hlk => ?_)
  unfold w_X6_alike at h
  refine v_aload_n C dX6_alike_0 rfl 0 rfl ?_
  refine v_iload_n C dX6_alike_1 rfl 1 rfl ?_
  refine k_X6_told C a1  h mM_X6_166 ⟨Nat.le_of_ble_eq_true rfl, Nat.le_of_ble_eq_true rfl⟩ (Nat.le_of_ble_eq_true rfl) dX6_alike_2 (fun ror2 σ1 h => ?_)
  obtain ⟨hk30, h⟩ := h
  rcases ror2 with _ | r2
  · replace h := h.1 rfl
    refine v_reN ?_
    refine v_astore_nN C [(3, .null), (0, .ref (lad L 299)), (1, .int a1), (2, .int a2)] dX6_alike_5 rfl (by decide) rfl ?_
    refine v_aload_n C dX6_alike_6 rfl 1 rfl ?_
    refine v_iload_n C dX6_alike_7 rfl 3 rfl ?_
    refine k_X6_told C a2  h mM_X6_166 ⟨Nat.le_of_ble_eq_true rfl, Nat.le_of_ble_eq_true rfl⟩ (Nat.le_of_ble_eq_true rfl) dX6_alike_8 (fun ror5 σ4 h => ?_)
    obtain ⟨hk60, h⟩ := h
    rcases ror5 with _ | r5
    · replace h := h.1 rfl
      refine v_reN ?_
      refine v_astoreN C [(4, .null), (3, .null), (0, .ref (lad L 299)), (1, .int a1), (2, .int a2)] dX6_alike_11 (by decide) rfl ?_
      refine v_aload_nN C dX6_alike_13 rfl 1 rfl ?_
      refine v_ifnullN C (tgt := 22) dX6_alike_14 (by decide) ?_
      refine v_iconst C (v := (-1)) dX6_alike_22 rfl ?_
      exact v_iret C dX6_alike_23 hret hlk h
    · replace h := h.2 r5 rfl
      have hk6 := hk60 r5 rfl
      refine v_re ?_
      refine v_astore C [(4, .ref (lad L r5)), (3, .null), (0, .ref (lad L 299)), (1, .int a1), (2, .int a2)] dX6_alike_11 (by decide) rfl ?_
      refine v_aload_nN C dX6_alike_13 rfl 1 rfl ?_
      refine v_ifnullN C (tgt := 22) dX6_alike_14 (by decide) ?_
      refine v_iconst C (v := (-1)) dX6_alike_22 rfl ?_
      exact v_iret C dX6_alike_23 hret hlk h
  · replace h := h.2 r2 rfl
    have hk3 := hk30 r2 rfl
    refine v_re ?_
    refine v_astore_n C [(3, .ref (lad L r2)), (0, .ref (lad L 299)), (1, .int a1), (2, .int a2)] dX6_alike_5 rfl (by decide) rfl ?_
    refine v_aload_n C dX6_alike_6 rfl 1 rfl ?_
    refine v_iload_n C dX6_alike_7 rfl 3 rfl ?_
    refine k_X6_told C a2  h mM_X6_166 ⟨Nat.le_of_ble_eq_true rfl, Nat.le_of_ble_eq_true rfl⟩ (Nat.le_of_ble_eq_true rfl) dX6_alike_8 (fun ror8 σ7 h => ?_)
    obtain ⟨hk90, h⟩ := h
    rcases ror8 with _ | r8
    · replace h := h.1 rfl
      refine v_reN ?_
      refine v_astoreN C [(4, .null), (3, .ref (lad L r2)), (0, .ref (lad L 299)), (1, .int a1), (2, .int a2)] dX6_alike_11 (by decide) rfl ?_
      refine v_aload_n C dX6_alike_13 rfl 1 rfl ?_
      refine v_ifnull C dX6_alike_14 ?_
      refine v_aloadN C dX6_alike_17 0 rfl ?_
      refine v_ifnonnullN C dX6_alike_19 ?_
      refine v_iconst C (v := (-1)) dX6_alike_22 rfl ?_
      exact v_iret C dX6_alike_23 hret hlk h
    · replace h := h.2 r8 rfl
      have hk9 := hk90 r8 rfl
      refine v_re ?_
      refine v_astore C [(4, .ref (lad L r8)), (3, .ref (lad L r2)), (0, .ref (lad L 299)), (1, .int a1), (2, .int a2)] dX6_alike_11 (by decide) rfl ?_
      refine v_aload_n C dX6_alike_13 rfl 1 rfl ?_
      refine v_ifnull C dX6_alike_14 ?_
      refine v_aload C dX6_alike_17 0 rfl ?_
      refine v_ifnonnull C (tgt := 24) dX6_alike_19 (by decide) ?_
      refine v_iconst C (v := 0) dX6_alike_24 rfl ?_
      refine v_istore C [(5, .int 0), (4, .ref (lad L r8)), (3, .ref (lad L r2)), (0, .ref (lad L 299)), (1, .int a1), (2, .int a2)] dX6_alike_25 (by decide) rfl ?_
      refine v_iconst C (v := 0) dX6_alike_27 rfl ?_
      refine v_istore C [(6, .int 0), (5, .int 0), (4, .ref (lad L r8)), (3, .ref (lad L r2)), (0, .ref (lad L 299)), (1, .int a1), (2, .int a2)] dX6_alike_28 (by decide) rfl ?_
      obtain ⟨n18, h⟩ := h
      refine v_sub [4, 5, 6, 3, 2, 1, 0] rfl ?_
      exact b_X6_alike_30 C hret hlk a1 a2  K   n18 _ _ _ _ _ hk3 hk9 h
theorem hd_X6_alike : yX6_alike.cls ≠ "java/lang/invoke/MethodHandle" ∧ yX6_alike.cls ≠ "java/lang/invoke/VarHandle" ∧ (parseMethodDescriptor yX6_alike.desc).map (fun d => d.parameters.length) = some 2 := by decide +kernel
theorem k_X6_alike {p : Program} {l : Launch} {e : Env} {R : Room} {s : State} {m : MethodId} {args : Array Value} {below : List Frame} {meth : Method} {c : Code} {nL cells slots : Nat} {Q : State → Prop} {A : Nat → Prop} {L : Ly} {own : String} {cc : ByteArray} {σ : Mem} {pc idx : Nat} {lv : List (Nat × Value)} {st : List Value} {K : Int32 → Mem → Prop} (C : Cx p R s m args meth c own cc nL cells slots A L) (a1 : Int32) (a2 : Int32)  (h : w_X6_alike a1 a2 σ K) (hml : Cond.methodLink own idx yX6_alike ∈ wA) (hR : rm_X6_alike.frames + 1 ≤ R.frames ∧ 8 + (7 + 11) + rm_X6_alike.locals ≤ R.locals) (hsum : (st.map fun v => v.category).sum ≤ 8) (d : decode cc pc = .ok (.invokevirtual idx, 3)) (kk : ∀ r σ1, K r σ1 → V p l e R s m args below meth c nL cells slots Q A L σ1 (pc + 3) lv (.int r :: st)) : V p l e R s m args below meth c nL cells slots Q A L σ pc lv (.int a2 :: .int a1 :: .ref (lad L 299) :: st) := v_callVi C [.int a1, .int a2] (fun sz => c_X6_alike l L a1 a2 σ _  h sz) mC_X6_alike mZ_X6 hd_X6_alike mI_X6_alike mS_X6_alike rfl rfl (c0 := 6) (ci := 6) (by decide) rfl rfl rfl kdn_299 hml hR rfl hsum d kk
-- ===== RX6.wouldEvict
abbrev rm_X6_wouldEvict : Room := { frames := 3, cells := 0, slots := 0, locals := 61 }
def w_X6_wouldEvict (a1 : Int32) (a2 : Int32) (σ : Mem) (K : Int32 → Mem → Prop) : Prop := (w_X6_letterIndex a2 σ (fun r2 σ1 => (w_X6_isSummary a1 σ1 (fun r4 σ3 => (br (r4 = 0) (K (-1) σ3) (br (r2 = (-1)) (K (-1) σ3) (vp_in a1 4 ∧ (w_X3_needsRoomFor (2 + 5 * ix a1) r2 σ3 (fun r7 σ6 => (br (r7 = 0) (K (-5) σ6) (w_X3_nextEvicted (2 + 5 * ix a1) σ6 (fun r9 σ8 => (br (r9 = (-1)) (K (-5) σ8) (w_X6_codeOf r9 σ8 (fun r11 σ10 => (K r11 σ10))))))))))))))))
set_option maxHeartbeats 4000000 in
set_option maxRecDepth 100000 in
theorem c_X6_wouldEvict (l : Launch) (L : Ly) (a1 : Int32) (a2 : Int32) (σ : Mem) (K : Int32 → Mem → Prop)  (h : w_X6_wouldEvict a1 a2 σ K) (sz : Nat) : Met l yX6_wouldEvict (.code yX6_wouldEvict cX6_wouldEvict 6 (some .int) :: wA) rm_X6_wouldEvict (va_Pc [.ref (lad L 299), .int a1, .int a2] (mB L sz σ)) (va_Qi K (mE L) (mA L sz)) 0 0 (mA L sz) := by
  refine v_start (own := RX6) [(0, .ref (lad L 299)), (1, .int a1), (2, .int a2)] (by decide) rfl (Nat.le_of_ble_eq_true rfl) rfl (fun p e s m args below meth c C hret hlk => ?_)
  unfold w_X6_wouldEvict at h
  refine v_iload_n C dX6_wouldEvict_0 rfl 2 rfl ?_
  refine ks_X6_letterIndex C a2  h mM_X6_44 ⟨Nat.le_of_ble_eq_true rfl, Nat.le_of_ble_eq_true rfl⟩ (Nat.le_of_ble_eq_true rfl) dX6_wouldEvict_1 (fun r2 σ1 h => ?_)
  refine v_istore_n C [(3, .int r2), (0, .ref (lad L 299)), (1, .int a1), (2, .int a2)] dX6_wouldEvict_4 rfl (by decide) rfl ?_
  refine v_iload_n C dX6_wouldEvict_5 rfl 2 rfl ?_
  refine k_X6_isSummary C a1  h mM_X6_48 ⟨Nat.le_of_ble_eq_true rfl, Nat.le_of_ble_eq_true rfl⟩ (Nat.le_of_ble_eq_true rfl) dX6_wouldEvict_6 (fun r4 σ3 h => ?_)
  refine v_if_eq C (tgt := 17) dX6_wouldEvict_9 (by decide) (fun hc => ?_) (fun hc => ?_)
  · replace h := h.1 hc
    refine v_iconst C (v := (-1)) dX6_wouldEvict_17 rfl ?_
    exact v_iret C dX6_wouldEvict_18 hret hlk h
  · replace h := h.2 hc
    refine v_iload_n C dX6_wouldEvict_12 rfl 0 rfl ?_
    refine v_iconst C (v := (-1)) dX6_wouldEvict_13 rfl ?_
    refine v_icmp_ne C (tgt := 19) dX6_wouldEvict_14 (by decide) (fun hc => ?_) (fun hc => ?_)
    · replace h := h.2 hc
      refine v_aload_n C dX6_wouldEvict_19 rfl 1 rfl ?_
      refine g_6_now C kdn_299 mF_X6_10 dX6_wouldEvict_20 ?_
      refine g_2_summaries C kdn_0 mF_X6_55 dX6_wouldEvict_23 ?_
      refine v_iload_n C dX6_wouldEvict_26 rfl 2 rfl ?_
      obtain ⟨hi5, h⟩ := h
      refine v_aald C (c0 := 11) (t0 := 3) (v := .ref (lad L (2 + 5 * ix a1))) (by decide) rfl rfl rfl kdn_1 hi5 dX6_wouldEvict_27 ?_
      refine v_astore C [(4, .ref (lad L (2 + 5 * ix a1))), (3, .int r2), (0, .ref (lad L 299)), (1, .int a1), (2, .int a2)] dX6_wouldEvict_28 (by decide) rfl ?_
      refine v_aload C dX6_wouldEvict_30 0 rfl ?_
      refine v_iload_n C dX6_wouldEvict_32 rfl 1 rfl ?_
      refine k_X3_needsRoomFor C (2 + 5 * ix a1) r2 (kd_el kdn_1 hi5) h mM_X6_212 ⟨Nat.le_of_ble_eq_true rfl, Nat.le_of_ble_eq_true rfl⟩ (Nat.le_of_ble_eq_true rfl) dX6_wouldEvict_33 (fun r7 σ6 h => ?_)
      refine v_if_eq C (tgt := 47) dX6_wouldEvict_36 (by decide) (fun hc => ?_) (fun hc => ?_)
      · replace h := h.1 hc
        refine v_iconst C (v := (-1)) dX6_wouldEvict_47 rfl ?_
        refine v_istore C [(5, .int (-1)), (4, .ref (lad L (2 + 5 * ix a1))), (3, .int r2), (0, .ref (lad L 299)), (1, .int a1), (2, .int a2)] dX6_wouldEvict_48 (by decide) rfl ?_
        refine v_iload C dX6_wouldEvict_50 0 rfl ?_
        refine v_iconst C (v := (-1)) dX6_wouldEvict_52 rfl ?_
        refine v_icmp_ne C (tgt := 61) dX6_wouldEvict_53 (by decide) (fun hc => ?_) (fun hc => ?_)
        · exact absurd hc (by decide)
        · refine v_bipush C (v := (-5)) dX6_wouldEvict_56 rfl ?_
          refine v_goto C (tgt := 66) dX6_wouldEvict_58 (by decide) ?_
          exact v_iret C dX6_wouldEvict_66 hret hlk h
      · replace h := h.2 hc
        refine v_aload C dX6_wouldEvict_39 0 rfl ?_
        refine k_X3_nextEvicted C (2 + 5 * ix a1) (kd_el kdn_1 hi5) h mM_X6_215 ⟨Nat.le_of_ble_eq_true rfl, Nat.le_of_ble_eq_true rfl⟩ (Nat.le_of_ble_eq_true rfl) dX6_wouldEvict_41 (fun r9 σ8 h => ?_)
        refine v_goto C (tgt := 48) dX6_wouldEvict_44 (by decide) ?_
        refine v_istore C [(5, .int r9), (4, .ref (lad L (2 + 5 * ix a1))), (3, .int r2), (0, .ref (lad L 299)), (1, .int a1), (2, .int a2)] dX6_wouldEvict_48 (by decide) rfl ?_
        refine v_iload C dX6_wouldEvict_50 0 rfl ?_
        refine v_iconst C (v := (-1)) dX6_wouldEvict_52 rfl ?_
        refine v_icmp_ne C (tgt := 61) dX6_wouldEvict_53 (by decide) (fun hc => ?_) (fun hc => ?_)
        · replace h := h.2 hc
          refine v_iload C dX6_wouldEvict_61 0 rfl ?_
          refine ks_X6_codeOf C r9  h mM_X6_200 ⟨Nat.le_of_ble_eq_true rfl, Nat.le_of_ble_eq_true rfl⟩ (Nat.le_of_ble_eq_true rfl) dX6_wouldEvict_63 (fun r11 σ10 h => ?_)
          exact v_iret C dX6_wouldEvict_66 hret hlk h
        · replace h := h.1 hc
          refine v_bipush C (v := (-5)) dX6_wouldEvict_56 rfl ?_
          refine v_goto C (tgt := 66) dX6_wouldEvict_58 (by decide) ?_
          exact v_iret C dX6_wouldEvict_66 hret hlk h
    · replace h := h.1 hc
      refine v_iconst C (v := (-1)) dX6_wouldEvict_17 rfl ?_
      exact v_iret C dX6_wouldEvict_18 hret hlk h
theorem hd_X6_wouldEvict : yX6_wouldEvict.cls ≠ "java/lang/invoke/MethodHandle" ∧ yX6_wouldEvict.cls ≠ "java/lang/invoke/VarHandle" ∧ (parseMethodDescriptor yX6_wouldEvict.desc).map (fun d => d.parameters.length) = some 2 := by decide +kernel
theorem k_X6_wouldEvict {p : Program} {l : Launch} {e : Env} {R : Room} {s : State} {m : MethodId} {args : Array Value} {below : List Frame} {meth : Method} {c : Code} {nL cells slots : Nat} {Q : State → Prop} {A : Nat → Prop} {L : Ly} {own : String} {cc : ByteArray} {σ : Mem} {pc idx : Nat} {lv : List (Nat × Value)} {st : List Value} {K : Int32 → Mem → Prop} (C : Cx p R s m args meth c own cc nL cells slots A L) (a1 : Int32) (a2 : Int32)  (h : w_X6_wouldEvict a1 a2 σ K) (hml : Cond.methodLink own idx yX6_wouldEvict ∈ wA) (hR : rm_X6_wouldEvict.frames + 1 ≤ R.frames ∧ 8 + (6 + 11) + rm_X6_wouldEvict.locals ≤ R.locals) (hsum : (st.map fun v => v.category).sum ≤ 8) (d : decode cc pc = .ok (.invokevirtual idx, 3)) (kk : ∀ r σ1, K r σ1 → V p l e R s m args below meth c nL cells slots Q A L σ1 (pc + 3) lv (.int r :: st)) : V p l e R s m args below meth c nL cells slots Q A L σ pc lv (.int a2 :: .int a1 :: .ref (lad L 299) :: st) := v_callVi C [.int a1, .int a2] (fun sz => c_X6_wouldEvict l L a1 a2 σ _  h sz) mC_X6_wouldEvict mZ_X6 hd_X6_wouldEvict mI_X6_wouldEvict mS_X6_wouldEvict rfl rfl (c0 := 6) (ci := 6) (by decide) rfl rfl rfl kdn_299 hml hR rfl hsum d kk
-- ===== RX6.block
abbrev rm_X6_block : Room := { frames := 2, cells := 0, slots := 0, locals := 40 }
def w_X6_block (a1 : Int32) (a2 : Int32) (σ : Mem) (K : Int32 → Mem → Prop) : Prop := (br (a1 < 0) (K (-1) σ) (br (a1 < (σ 22 2)) (w_X5_blockAt 22 a1 σ (fun r2 σ1 => (br (a2 = 0) (w_X5_arrivalsOf 22 a1 σ1 (fun r11 σ10 => (K r11 σ10))) (br (a2 = 1) (K (σ1 r2 2) σ1) (br (a2 = 2) (w_X3_counters r2 σ1 (fun r9 σ8 => (K r9 σ8))) (br (a2 = 3) (K (σ1 r2 1) σ1) (K (-2) σ1))))))) (K (-1) σ)))
set_option maxHeartbeats 4000000 in
set_option maxRecDepth 100000 in
theorem c_X6_block (l : Launch) (L : Ly) (a1 : Int32) (a2 : Int32) (σ : Mem) (K : Int32 → Mem → Prop)  (h : w_X6_block a1 a2 σ K) (sz : Nat) : Met l yX6_block (.code yX6_block cX6_block 4 (some .int) :: wA) rm_X6_block (va_Pc [.ref (lad L 299), .int a1, .int a2] (mB L sz σ)) (va_Qi K (mE L) (mA L sz)) 0 0 (mA L sz) := by
  refine v_start (own := RX6) [(0, .ref (lad L 299)), (1, .int a1), (2, .int a2)] (by decide) rfl (Nat.le_of_ble_eq_true rfl) rfl (fun p e s m args below meth c C hret hlk => ?_)
  unfold w_X6_block at h
  refine v_iload_n C dX6_block_0 rfl 1 rfl ?_
  refine v_if_lt C (tgt := 18) dX6_block_1 (by decide) (fun hc => ?_) (fun hc => ?_)
  · replace h := h.1 hc
    refine v_iconst C (v := (-1)) dX6_block_18 rfl ?_
    exact v_iret C dX6_block_19 hret hlk h
  · replace h := h.2 hc
    refine v_iload_n C dX6_block_4 rfl 1 rfl ?_
    refine v_aload_n C dX6_block_5 rfl 0 rfl ?_
    refine g_6_now C kdn_299 mF_X6_10 dX6_block_6 ?_
    refine g_2_window C kdn_0 mF_X6_97 dX6_block_9 ?_
    refine g_5_kept C kdn_22 mF_X6_218 dX6_block_12 ?_
    refine v_icmp_lt C (tgt := 20) dX6_block_15 (by decide) (fun hc => ?_) (fun hc => ?_)
    · replace h := h.1 hc
      refine v_aload_n C dX6_block_20 rfl 0 rfl ?_
      refine g_6_now C kdn_299 mF_X6_10 dX6_block_21 ?_
      refine g_2_window C kdn_0 mF_X6_97 dX6_block_24 ?_
      refine v_iload_n C dX6_block_27 rfl 1 rfl ?_
      refine k_X5_blockAt C 22 a1 kdn_22 h mM_X6_221 ⟨Nat.le_of_ble_eq_true rfl, Nat.le_of_ble_eq_true rfl⟩ (Nat.le_of_ble_eq_true rfl) dX6_block_28 (fun ror2 σ1 h => ?_)
      obtain ⟨r2, rfl, hk3, h⟩ := h
      refine v_re ?_
      refine v_astore_n C [(3, .ref (lad L r2)), (0, .ref (lad L 299)), (1, .int a1), (2, .int a2)] dX6_block_31 rfl (by decide) rfl ?_
      refine v_iload_n C dX6_block_32 rfl 3 rfl ?_
      by_cases hn4 : a2 = 0
      · replace h := h.1 hn4
        refine v_tabIn C (tgt := 64) (v := 0) dX6_block_33 hn4 (by decide) (by decide) rfl (by decide) ?_
        refine v_aload_n C dX6_block_64 rfl 1 rfl ?_
        refine g_6_now C kdn_299 mF_X6_10 dX6_block_65 ?_
        refine g_2_window C kdn_0 mF_X6_97 dX6_block_68 ?_
        refine v_iload_n C dX6_block_71 rfl 2 rfl ?_
        refine k_X5_arrivalsOf C 22 a1 kdn_22 h mM_X6_224 ⟨Nat.le_of_ble_eq_true rfl, Nat.le_of_ble_eq_true rfl⟩ (Nat.le_of_ble_eq_true rfl) dX6_block_72 (fun r11 σ10 h => ?_)
        exact v_iret C dX6_block_75 hret hlk h
      · replace h := h.2 hn4
        by_cases hn5 : a2 = 1
        · replace h := h.1 hn5
          refine v_tabIn C (tgt := 76) (v := 1) dX6_block_33 hn5 (by decide) (by decide) rfl (by decide) ?_
          refine v_aload_n C dX6_block_76 rfl 0 rfl ?_
          refine g_3_sum C hk3 mF_X6_59 dX6_block_77 ?_
          exact v_iret C dX6_block_80 hret hlk h
        · replace h := h.2 hn5
          by_cases hn6 : a2 = 2
          · replace h := h.1 hn6
            refine v_tabIn C (tgt := 81) (v := 2) dX6_block_33 hn6 (by decide) (by decide) rfl (by decide) ?_
            refine v_aload_n C dX6_block_81 rfl 0 rfl ?_
            refine k_X3_counters C r2 hk3 h mM_X6_112 ⟨Nat.le_of_ble_eq_true rfl, Nat.le_of_ble_eq_true rfl⟩ (Nat.le_of_ble_eq_true rfl) dX6_block_82 (fun r9 σ8 h => ?_)
            exact v_iret C dX6_block_85 hret hlk h
          · replace h := h.2 hn6
            by_cases hn7 : a2 = 3
            · replace h := h.1 hn7
              refine v_tabIn C (tgt := 86) (v := 3) dX6_block_33 hn7 (by decide) (by decide) rfl (by decide) ?_
              refine v_aload_n C dX6_block_86 rfl 0 rfl ?_
              refine g_3_floor C hk3 mF_X6_170 dX6_block_87 ?_
              exact v_iret C dX6_block_90 hret hlk h
            · replace h := h.2 hn7
              refine v_tabOut C (tgt := 91) dX6_block_33 (by have thn4 := lv_neT hn4 (a := 0) (by decide); have thn5 := lv_neT hn5 (a := 1) (by decide); have thn6 := lv_neT hn6 (a := 2) (by decide); have thn7 := lv_neT hn7 (a := 3) (by decide); omega) (by decide) ?_
              refine v_bipush C (v := (-2)) dX6_block_91 rfl ?_
              exact v_iret C dX6_block_93 hret hlk h
    · replace h := h.2 hc
      refine v_iconst C (v := (-1)) dX6_block_18 rfl ?_
      exact v_iret C dX6_block_19 hret hlk h
theorem hd_X6_block : yX6_block.cls ≠ "java/lang/invoke/MethodHandle" ∧ yX6_block.cls ≠ "java/lang/invoke/VarHandle" ∧ (parseMethodDescriptor yX6_block.desc).map (fun d => d.parameters.length) = some 2 := by decide +kernel
theorem k_X6_block {p : Program} {l : Launch} {e : Env} {R : Room} {s : State} {m : MethodId} {args : Array Value} {below : List Frame} {meth : Method} {c : Code} {nL cells slots : Nat} {Q : State → Prop} {A : Nat → Prop} {L : Ly} {own : String} {cc : ByteArray} {σ : Mem} {pc idx : Nat} {lv : List (Nat × Value)} {st : List Value} {K : Int32 → Mem → Prop} (C : Cx p R s m args meth c own cc nL cells slots A L) (a1 : Int32) (a2 : Int32)  (h : w_X6_block a1 a2 σ K) (hml : Cond.methodLink own idx yX6_block ∈ wA) (hR : rm_X6_block.frames + 1 ≤ R.frames ∧ 8 + (4 + 11) + rm_X6_block.locals ≤ R.locals) (hsum : (st.map fun v => v.category).sum ≤ 8) (d : decode cc pc = .ok (.invokevirtual idx, 3)) (kk : ∀ r σ1, K r σ1 → V p l e R s m args below meth c nL cells slots Q A L σ1 (pc + 3) lv (.int r :: st)) : V p l e R s m args below meth c nL cells slots Q A L σ pc lv (.int a2 :: .int a1 :: .ref (lad L 299) :: st) := v_callVi C [.int a1, .int a2] (fun sz => c_X6_block l L a1 a2 σ _  h sz) mC_X6_block mZ_X6 hd_X6_block mI_X6_block mS_X6_block rfl rfl (c0 := 6) (ci := 6) (by decide) rfl rfl rfl kdn_299 hml hR rfl hsum d kk
-- ===== RX6.event
abbrev rm_X6_event : Room := { frames := 1, cells := 0, slots := 0, locals := 21 }
def w_X6_event (a1 : Int32) (a2 : Int32) (σ : Mem) (K : Int32 → Mem → Prop) : Prop := (br (a1 < 0) (K (-2) σ) (br (a2 < 0) (K (-2) σ) (br (a2 ≤ 3) (br (a1 < (σ 44 5)) (w_X1_slotOf 44 a1 σ (fun r2 σ1 => (br (a2 = 0) (vp_in r2 8 ∧ (K (σ1 45 (ix r2)) σ1)) (br (a2 = 1) (vp_in r2 8 ∧ (K (σ1 46 (ix r2)) σ1)) (br (a2 = 2) (vp_in r2 8 ∧ (K (σ1 47 (ix r2)) σ1)) (vp_in r2 8 ∧ (K (σ1 48 (ix r2)) σ1))))))) (K (-5) σ)) (K (-2) σ))))
set_option maxHeartbeats 4000000 in
set_option maxRecDepth 100000 in
theorem c_X6_event (l : Launch) (L : Ly) (a1 : Int32) (a2 : Int32) (σ : Mem) (K : Int32 → Mem → Prop)  (h : w_X6_event a1 a2 σ K) (sz : Nat) : Met l yX6_event (.code yX6_event cX6_event 4 (some .int) :: wA) rm_X6_event (va_Pc [.ref (lad L 299), .int a1, .int a2] (mB L sz σ)) (va_Qi K (mE L) (mA L sz)) 0 0 (mA L sz) := by
  refine v_start (own := RX6) [(0, .ref (lad L 299)), (1, .int a1), (2, .int a2)] (by decide) rfl (Nat.le_of_ble_eq_true rfl) rfl (fun p e s m args below meth c C hret hlk => ?_)
  unfold w_X6_event at h
  refine v_iload_n C dX6_event_0 rfl 1 rfl ?_
  refine v_if_lt C (tgt := 13) dX6_event_1 (by decide) (fun hc => ?_) (fun hc => ?_)
  · replace h := h.1 hc
    refine v_bipush C (v := (-2)) dX6_event_13 rfl ?_
    exact v_iret C dX6_event_15 hret hlk h
  · replace h := h.2 hc
    refine v_iload_n C dX6_event_4 rfl 2 rfl ?_
    refine v_if_lt C (tgt := 13) dX6_event_5 (by decide) (fun hc => ?_) (fun hc => ?_)
    · replace h := h.1 hc
      refine v_bipush C (v := (-2)) dX6_event_13 rfl ?_
      exact v_iret C dX6_event_15 hret hlk h
    · replace h := h.2 hc
      refine v_iload_n C dX6_event_8 rfl 2 rfl ?_
      refine v_iconst C (v := 3) dX6_event_9 rfl ?_
      refine v_icmp_le C (tgt := 16) dX6_event_10 (by decide) (fun hc => ?_) (fun hc => ?_)
      · replace h := h.1 hc
        refine v_iload_n C dX6_event_16 rfl 1 rfl ?_
        refine v_aload_n C dX6_event_17 rfl 0 rfl ?_
        refine g_6_now C kdn_299 mF_X6_10 dX6_event_18 ?_
        refine g_2_log C kdn_0 mF_X6_227 dX6_event_21 ?_
        refine g_1_known C kdn_44 mF_X6_231 dX6_event_24 ?_
        refine v_icmp_lt C (tgt := 33) dX6_event_27 (by decide) (fun hc => ?_) (fun hc => ?_)
        · replace h := h.1 hc
          refine v_aload_n C dX6_event_33 rfl 0 rfl ?_
          refine g_6_now C kdn_299 mF_X6_10 dX6_event_34 ?_
          refine g_2_log C kdn_0 mF_X6_227 dX6_event_37 ?_
          refine v_iload_n C dX6_event_40 rfl 1 rfl ?_
          refine k_X1_slotOf C 44 a1 kdn_44 h mM_X6_234 ⟨Nat.le_of_ble_eq_true rfl, Nat.le_of_ble_eq_true rfl⟩ (Nat.le_of_ble_eq_true rfl) dX6_event_41 (fun r2 σ1 h => ?_)
          refine v_istore_n C [(3, .int r2), (0, .ref (lad L 299)), (1, .int a1), (2, .int a2)] dX6_event_44 rfl (by decide) rfl ?_
          refine v_iload_n C dX6_event_45 rfl 3 rfl ?_
          by_cases hn4 : a2 = 0
          · replace h := h.1 hn4
            refine v_tabIn C (tgt := 72) (v := 0) dX6_event_46 hn4 (by decide) (by decide) rfl (by decide) ?_
            refine v_aload_n C dX6_event_72 rfl 1 rfl ?_
            refine g_6_now C kdn_299 mF_X6_10 dX6_event_73 ?_
            refine g_2_log C kdn_0 mF_X6_227 dX6_event_76 ?_
            refine g_1_kinds C kdn_44 mF_X6_237 dX6_event_79 ?_
            refine v_iload_n C dX6_event_82 rfl 0 rfl ?_
            obtain ⟨hi9, h⟩ := h
            refine v_iald C (c0 := 21) (by decide) rfl kdn_45 hi9 dX6_event_83 ?_
            exact v_iret C dX6_event_84 hret hlk h
          · replace h := h.2 hn4
            by_cases hn5 : a2 = 1
            · replace h := h.1 hn5
              refine v_tabIn C (tgt := 85) (v := 1) dX6_event_46 hn5 (by decide) (by decide) rfl (by decide) ?_
              refine v_aload_n C dX6_event_85 rfl 1 rfl ?_
              refine g_6_now C kdn_299 mF_X6_10 dX6_event_86 ?_
              refine g_2_log C kdn_0 mF_X6_227 dX6_event_89 ?_
              refine g_1_places C kdn_44 mF_X6_240 dX6_event_92 ?_
              refine v_iload_n C dX6_event_95 rfl 0 rfl ?_
              obtain ⟨hi8, h⟩ := h
              refine v_iald C (c0 := 21) (by decide) rfl kdn_46 hi8 dX6_event_96 ?_
              exact v_iret C dX6_event_97 hret hlk h
            · replace h := h.2 hn5
              by_cases hn6 : a2 = 2
              · replace h := h.1 hn6
                refine v_tabIn C (tgt := 98) (v := 2) dX6_event_46 hn6 (by decide) (by decide) rfl (by decide) ?_
                refine v_aload_n C dX6_event_98 rfl 1 rfl ?_
                refine g_6_now C kdn_299 mF_X6_10 dX6_event_99 ?_
                refine g_2_log C kdn_0 mF_X6_227 dX6_event_102 ?_
                refine g_1_values C kdn_44 mF_X6_243 dX6_event_105 ?_
                refine v_iload_n C dX6_event_108 rfl 0 rfl ?_
                obtain ⟨hi7, h⟩ := h
                refine v_iald C (c0 := 21) (by decide) rfl kdn_47 hi7 dX6_event_109 ?_
                exact v_iret C dX6_event_110 hret hlk h
              · replace h := h.2 hn6
                refine v_tabOut C (tgt := 111) dX6_event_46 (by have thn4 := lv_neT hn4 (a := 0) (by decide); have thn5 := lv_neT hn5 (a := 1) (by decide); have thn6 := lv_neT hn6 (a := 2) (by decide); omega) (by decide) ?_
                refine v_aload_n C dX6_event_111 rfl 1 rfl ?_
                refine g_6_now C kdn_299 mF_X6_10 dX6_event_112 ?_
                refine g_2_log C kdn_0 mF_X6_227 dX6_event_115 ?_
                refine g_1_times C kdn_44 mF_X6_246 dX6_event_118 ?_
                refine v_iload_n C dX6_event_121 rfl 0 rfl ?_
                obtain ⟨hi3, h⟩ := h
                refine v_iald C (c0 := 21) (by decide) rfl kdn_48 hi3 dX6_event_122 ?_
                exact v_iret C dX6_event_123 hret hlk h
        · replace h := h.2 hc
          refine v_bipush C (v := (-5)) dX6_event_30 rfl ?_
          exact v_iret C dX6_event_32 hret hlk h
      · replace h := h.2 hc
        refine v_bipush C (v := (-2)) dX6_event_13 rfl ?_
        exact v_iret C dX6_event_15 hret hlk h
theorem hd_X6_event : yX6_event.cls ≠ "java/lang/invoke/MethodHandle" ∧ yX6_event.cls ≠ "java/lang/invoke/VarHandle" ∧ (parseMethodDescriptor yX6_event.desc).map (fun d => d.parameters.length) = some 2 := by decide +kernel
theorem k_X6_event {p : Program} {l : Launch} {e : Env} {R : Room} {s : State} {m : MethodId} {args : Array Value} {below : List Frame} {meth : Method} {c : Code} {nL cells slots : Nat} {Q : State → Prop} {A : Nat → Prop} {L : Ly} {own : String} {cc : ByteArray} {σ : Mem} {pc idx : Nat} {lv : List (Nat × Value)} {st : List Value} {K : Int32 → Mem → Prop} (C : Cx p R s m args meth c own cc nL cells slots A L) (a1 : Int32) (a2 : Int32)  (h : w_X6_event a1 a2 σ K) (hml : Cond.methodLink own idx yX6_event ∈ wA) (hR : rm_X6_event.frames + 1 ≤ R.frames ∧ 8 + (4 + 11) + rm_X6_event.locals ≤ R.locals) (hsum : (st.map fun v => v.category).sum ≤ 8) (d : decode cc pc = .ok (.invokevirtual idx, 3)) (kk : ∀ r σ1, K r σ1 → V p l e R s m args below meth c nL cells slots Q A L σ1 (pc + 3) lv (.int r :: st)) : V p l e R s m args below meth c nL cells slots Q A L σ pc lv (.int a2 :: .int a1 :: .ref (lad L 299) :: st) := v_callVi C [.int a1, .int a2] (fun sz => c_X6_event l L a1 a2 σ _  h sz) mC_X6_event mZ_X6 hd_X6_event mI_X6_event mS_X6_event rfl rfl (c0 := 6) (ci := 6) (by decide) rfl rfl rfl kdn_299 hml hR rfl hsum d kk
-- ===== RX6.count
abbrev rm_X6_count : Room := { frames := 0, cells := 0, slots := 0, locals := 0 }
def w_X6_count (a1 : Int32) (σ : Mem) (K : Int32 → Mem → Prop) : Prop := (br (a1 = 0) (K (σ 0 3) σ) (br (a1 = 1) (K (σ 0 4) σ) (br (a1 = 2) (K (σ 0 5) σ) (br (a1 = 3) (K (σ 22 3) σ) (br (a1 = 4) (K (σ 22 2) σ) (br (a1 = 5) (K (σ 22 4) σ) (br (a1 = 6) (K (σ 300 2) σ) (br (a1 = 7) (K (σ 302 1) σ) (K (-2) σ)))))))))
set_option maxHeartbeats 4000000 in
set_option maxRecDepth 100000 in
theorem c_X6_count (l : Launch) (L : Ly) (a1 : Int32) (σ : Mem) (K : Int32 → Mem → Prop)  (h : w_X6_count a1 σ K) (sz : Nat) : Met l yX6_count (.code yX6_count cX6_count 2 (some .int) :: wA) rm_X6_count (va_Pc [.ref (lad L 299), .int a1] (mB L sz σ)) (va_Qi K (mE L) (mA L sz)) 0 0 (mA L sz) := by
  refine v_start (own := RX6) [(0, .ref (lad L 299)), (1, .int a1)] (by decide) rfl (Nat.le_of_ble_eq_true rfl) rfl (fun p e s m args below meth c C hret hlk => ?_)
  unfold w_X6_count at h
  refine v_iload_n C dX6_count_0 rfl 1 rfl ?_
  by_cases hn1 : a1 = 0
  · replace h := h.1 hn1
    refine v_tabIn C (tgt := 48) (v := 0) dX6_count_1 hn1 (by decide) (by decide) rfl (by decide) ?_
    refine v_aload_n C dX6_count_48 rfl 0 rfl ?_
    refine g_6_now C kdn_299 mF_X6_10 dX6_count_49 ?_
    refine g_2_time C kdn_0 mF_X6_163 dX6_count_52 ?_
    exact v_iret C dX6_count_55 hret hlk h
  · replace h := h.2 hn1
    by_cases hn2 : a1 = 1
    · replace h := h.1 hn2
      refine v_tabIn C (tgt := 56) (v := 1) dX6_count_1 hn2 (by decide) (by decide) rfl (by decide) ?_
      refine v_aload_n C dX6_count_56 rfl 0 rfl ?_
      refine g_6_now C kdn_299 mF_X6_10 dX6_count_57 ?_
      refine g_2_evictions C kdn_0 mF_X6_247 dX6_count_60 ?_
      exact v_iret C dX6_count_63 hret hlk h
    · replace h := h.2 hn2
      by_cases hn3 : a1 = 2
      · replace h := h.1 hn3
        refine v_tabIn C (tgt := 64) (v := 2) dX6_count_1 hn3 (by decide) (by decide) rfl (by decide) ?_
        refine v_aload_n C dX6_count_64 rfl 0 rfl ?_
        refine g_6_now C kdn_299 mF_X6_10 dX6_count_65 ?_
        refine g_2_merges C kdn_0 mF_X6_250 dX6_count_68 ?_
        exact v_iret C dX6_count_71 hret hlk h
      · replace h := h.2 hn3
        by_cases hn4 : a1 = 3
        · replace h := h.1 hn4
          refine v_tabIn C (tgt := 72) (v := 3) dX6_count_1 hn4 (by decide) (by decide) rfl (by decide) ?_
          refine v_aload_n C dX6_count_72 rfl 0 rfl ?_
          refine g_6_now C kdn_299 mF_X6_10 dX6_count_73 ?_
          refine g_2_window C kdn_0 mF_X6_97 dX6_count_76 ?_
          refine g_5_begun C kdn_22 mF_X6_253 dX6_count_79 ?_
          exact v_iret C dX6_count_82 hret hlk h
        · replace h := h.2 hn4
          by_cases hn5 : a1 = 4
          · replace h := h.1 hn5
            refine v_tabIn C (tgt := 83) (v := 4) dX6_count_1 hn5 (by decide) (by decide) rfl (by decide) ?_
            refine v_aload_n C dX6_count_83 rfl 0 rfl ?_
            refine g_6_now C kdn_299 mF_X6_10 dX6_count_84 ?_
            refine g_2_window C kdn_0 mF_X6_97 dX6_count_87 ?_
            refine g_5_kept C kdn_22 mF_X6_218 dX6_count_90 ?_
            exact v_iret C dX6_count_93 hret hlk h
          · replace h := h.2 hn5
            by_cases hn6 : a1 = 5
            · replace h := h.1 hn6
              refine v_tabIn C (tgt := 94) (v := 5) dX6_count_1 hn6 (by decide) (by decide) rfl (by decide) ?_
              refine v_aload_n C dX6_count_94 rfl 0 rfl ?_
              refine g_6_now C kdn_299 mF_X6_10 dX6_count_95 ?_
              refine g_2_window C kdn_0 mF_X6_97 dX6_count_98 ?_
              refine g_5_arrivals C kdn_22 mF_X6_101 dX6_count_101 ?_
              exact v_iret C dX6_count_104 hret hlk h
            · replace h := h.2 hn6
              by_cases hn7 : a1 = 6
              · replace h := h.1 hn7
                refine v_tabIn C (tgt := 105) (v := 6) dX6_count_1 hn7 (by decide) (by decide) rfl (by decide) ?_
                refine v_aload_n C dX6_count_105 rfl 0 rfl ?_
                refine g_6_history C kdn_299 mF_X6_19 dX6_count_106 ?_
                refine g_0_known C kdn_300 mF_X6_155 dX6_count_109 ?_
                exact v_iret C dX6_count_112 hret hlk h
              · replace h := h.2 hn7
                by_cases hn8 : a1 = 7
                · replace h := h.1 hn8
                  refine v_tabIn C (tgt := 113) (v := 7) dX6_count_1 hn8 (by decide) (by decide) rfl (by decide) ?_
                  refine v_aload_n C dX6_count_113 rfl 0 rfl ?_
                  refine g_6_text C kdn_299 mF_X6_33 dX6_count_114 ?_
                  refine g_4_length C kdn_302 mF_X6_124 dX6_count_117 ?_
                  exact v_iret C dX6_count_120 hret hlk h
                · replace h := h.2 hn8
                  refine v_tabOut C (tgt := 121) dX6_count_1 (by have thn1 := lv_neT hn1 (a := 0) (by decide); have thn2 := lv_neT hn2 (a := 1) (by decide); have thn3 := lv_neT hn3 (a := 2) (by decide); have thn4 := lv_neT hn4 (a := 3) (by decide); have thn5 := lv_neT hn5 (a := 4) (by decide); have thn6 := lv_neT hn6 (a := 5) (by decide); have thn7 := lv_neT hn7 (a := 6) (by decide); have thn8 := lv_neT hn8 (a := 7) (by decide); omega) (by decide) ?_
                  refine v_bipush C (v := (-2)) dX6_count_121 rfl ?_
                  exact v_iret C dX6_count_123 hret hlk h
theorem hd_X6_count : yX6_count.cls ≠ "java/lang/invoke/MethodHandle" ∧ yX6_count.cls ≠ "java/lang/invoke/VarHandle" ∧ (parseMethodDescriptor yX6_count.desc).map (fun d => d.parameters.length) = some 1 := by decide +kernel
theorem k_X6_count {p : Program} {l : Launch} {e : Env} {R : Room} {s : State} {m : MethodId} {args : Array Value} {below : List Frame} {meth : Method} {c : Code} {nL cells slots : Nat} {Q : State → Prop} {A : Nat → Prop} {L : Ly} {own : String} {cc : ByteArray} {σ : Mem} {pc idx : Nat} {lv : List (Nat × Value)} {st : List Value} {K : Int32 → Mem → Prop} (C : Cx p R s m args meth c own cc nL cells slots A L) (a1 : Int32)  (h : w_X6_count a1 σ K) (hml : Cond.methodLink own idx yX6_count ∈ wA) (hR : rm_X6_count.frames + 1 ≤ R.frames ∧ 8 + (2 + 11) + rm_X6_count.locals ≤ R.locals) (hsum : (st.map fun v => v.category).sum ≤ 8) (d : decode cc pc = .ok (.invokevirtual idx, 3)) (kk : ∀ r σ1, K r σ1 → V p l e R s m args below meth c nL cells slots Q A L σ1 (pc + 3) lv (.int r :: st)) : V p l e R s m args below meth c nL cells slots Q A L σ pc lv (.int a1 :: .ref (lad L 299) :: st) := v_callVi C [.int a1] (fun sz => c_X6_count l L a1 σ _  h sz) mC_X6_count mZ_X6 hd_X6_count mI_X6_count mS_X6_count rfl rfl (c0 := 6) (ci := 6) (by decide) rfl rfl rfl kdn_299 hml hR rfl hsum d kk
