-- ===== RX7.arrive
abbrev rm_X7_arrive : Room := { frames := 6, cells := 0, slots := 0, locals := 134 }
def w_X7_arrive (a1 : Int32) (a2 : Int32) (a3 : Int32) (σ : Mem) (K : Int32 → Mem → Prop) : Prop := (w_X7_isSummary a1 σ (fun r2 σ1 => (br (r2 = 0) (K (-1) σ1) (w_X7_isLetter a2 σ1 (fun r4 σ3 => (br (r4 = 0) (K (-1) σ3) (w_X7_in a3 1 99 σ3 (fun r6 σ5 => (br (r6 = 0) (K (-2) σ5) (w_X7_of a1 2 σ5 (fun r8 σ7 => (br ((r8 + a3) ≤ 1000000) (w_X7_record  σ7 (fun σ9 => (w_X7_comes a1 (a2 - 97) a3 σ9 (fun σ10 => (w_X7_its a1 (a2 - 97) 1 σ10 (fun r12 σ11 => (K r12 σ11))))))) (K (-3) σ7)))))))))))))
set_option maxHeartbeats 4000000 in
set_option maxRecDepth 100000 in
theorem c_X7_arrive (l : Launch) (L : Ly) (a1 : Int32) (a2 : Int32) (a3 : Int32) (σ : Mem) (K : Int32 → Mem → Prop)  (h : w_X7_arrive a1 a2 a3 σ K) (sz : Nat) : Met l yX7_arrive (.code yX7_arrive cX7_arrive 4 (some .int) :: wA) rm_X7_arrive (va_Pc [.ref (lad L 306), .int a1, .int a2, .int a3] (mB L sz σ)) (va_Qi K (mE L) (mA L sz)) 0 0 (mA L sz) := by
  refine v_start (own := RX7) [(0, .ref (lad L 306)), (1, .int a1), (2, .int a2), (3, .int a3)] (by decide) rfl (Nat.le_of_ble_eq_true rfl) rfl (fun p e s m args below meth c C hret hlk => ?_)
  unfold w_X7_arrive at h
  refine v_iload_n C dX7_arrive_0 rfl 1 rfl ?_
  refine k_X7_isSummary C a1  h mM_X7_72 ⟨Nat.le_of_ble_eq_true rfl, Nat.le_of_ble_eq_true rfl⟩ (Nat.le_of_ble_eq_true rfl) dX7_arrive_1 (fun r2 σ1 h => ?_)
  refine v_if_eq C (tgt := 14) dX7_arrive_4 (by decide) (fun hc => ?_) (fun hc => ?_)
  · replace h := h.1 hc
    refine v_iconst C (v := (-1)) dX7_arrive_14 rfl ?_
    exact v_iret C dX7_arrive_15 hret hlk h
  · replace h := h.2 hc
    refine v_iload_n C dX7_arrive_7 rfl 2 rfl ?_
    refine k_X7_isLetter C a2  h mM_X7_76 ⟨Nat.le_of_ble_eq_true rfl, Nat.le_of_ble_eq_true rfl⟩ (Nat.le_of_ble_eq_true rfl) dX7_arrive_8 (fun r4 σ3 h => ?_)
    refine v_if_ne C (tgt := 16) dX7_arrive_11 (by decide) (fun hc => ?_) (fun hc => ?_)
    · replace h := h.2 hc
      refine v_iload_n C dX7_arrive_16 rfl 3 rfl ?_
      refine v_iconst C (v := 1) dX7_arrive_17 rfl ?_
      refine v_bipush C (v := 99) dX7_arrive_18 rfl ?_
      refine k_X7_in C a3 1 99  h mM_X7_35 ⟨Nat.le_of_ble_eq_true rfl, Nat.le_of_ble_eq_true rfl⟩ (Nat.le_of_ble_eq_true rfl) dX7_arrive_20 (fun r6 σ5 h => ?_)
      refine v_if_ne C (tgt := 29) dX7_arrive_23 (by decide) (fun hc => ?_) (fun hc => ?_)
      · replace h := h.2 hc
        refine v_aload_n C dX7_arrive_29 rfl 0 rfl ?_
        refine v_iload_n C dX7_arrive_30 rfl 1 rfl ?_
        refine v_iconst C (v := 2) dX7_arrive_31 rfl ?_
        refine k_X7_of C a1 2  h mM_X7_47 ⟨Nat.le_of_ble_eq_true rfl, Nat.le_of_ble_eq_true rfl⟩ (Nat.le_of_ble_eq_true rfl) dX7_arrive_32 (fun r8 σ7 h => ?_)
        refine v_iload_n C dX7_arrive_35 rfl 3 rfl ?_
        refine v_iadd C dX7_arrive_36 ?_
        refine v_ldc C dX7_arrive_37 mN_X7_80 ?_
        refine v_icmp_le C (tgt := 45) dX7_arrive_39 (by decide) (fun hc => ?_) (fun hc => ?_)
        · replace h := h.1 hc
          refine v_aload_n C dX7_arrive_45 rfl 0 rfl ?_
          refine k_X7_record C   h mM_X7_81 ⟨Nat.le_of_ble_eq_true rfl, Nat.le_of_ble_eq_true rfl⟩ (Nat.le_of_ble_eq_true rfl) dX7_arrive_46 (fun σ9 h => ?_)
          refine v_aload_n C dX7_arrive_49 rfl 0 rfl ?_
          refine v_iload_n C dX7_arrive_50 rfl 1 rfl ?_
          refine v_iload_n C dX7_arrive_51 rfl 2 rfl ?_
          refine v_bipush C (v := 97) dX7_arrive_52 rfl ?_
          refine v_isub C dX7_arrive_54 ?_
          refine v_iload_n C dX7_arrive_55 rfl 3 rfl ?_
          refine k_X7_comes C a1 (a2 - 97) a3  h mM_X7_84 ⟨Nat.le_of_ble_eq_true rfl, Nat.le_of_ble_eq_true rfl⟩ (Nat.le_of_ble_eq_true rfl) dX7_arrive_56 (fun σ10 h => ?_)
          refine v_aload_n C dX7_arrive_59 rfl 0 rfl ?_
          refine v_iload_n C dX7_arrive_60 rfl 1 rfl ?_
          refine v_iload_n C dX7_arrive_61 rfl 2 rfl ?_
          refine v_bipush C (v := 97) dX7_arrive_62 rfl ?_
          refine v_isub C dX7_arrive_64 ?_
          refine v_iconst C (v := 1) dX7_arrive_65 rfl ?_
          refine k_X7_its C a1 (a2 - 97) 1  h mM_X7_31 ⟨Nat.le_of_ble_eq_true rfl, Nat.le_of_ble_eq_true rfl⟩ (Nat.le_of_ble_eq_true rfl) dX7_arrive_66 (fun r12 σ11 h => ?_)
          exact v_iret C dX7_arrive_69 hret hlk h
        · replace h := h.2 hc
          refine v_bipush C (v := (-3)) dX7_arrive_42 rfl ?_
          exact v_iret C dX7_arrive_44 hret hlk h
      · replace h := h.1 hc
        refine v_bipush C (v := (-2)) dX7_arrive_26 rfl ?_
        exact v_iret C dX7_arrive_28 hret hlk h
    · replace h := h.1 hc
      refine v_iconst C (v := (-1)) dX7_arrive_14 rfl ?_
      exact v_iret C dX7_arrive_15 hret hlk h
theorem hd_X7_arrive : yX7_arrive.cls ≠ "java/lang/invoke/MethodHandle" ∧ yX7_arrive.cls ≠ "java/lang/invoke/VarHandle" ∧ (parseMethodDescriptor yX7_arrive.desc).map (fun d => d.parameters.length) = some 3 := by decide +kernel
theorem k_X7_arrive {p : Program} {l : Launch} {e : Env} {R : Room} {s : State} {m : MethodId} {args : Array Value} {below : List Frame} {meth : Method} {c : Code} {nL cells slots : Nat} {Q : State → Prop} {A : Nat → Prop} {L : Ly} {own : String} {cc : ByteArray} {σ : Mem} {pc idx : Nat} {lv : List (Nat × Value)} {st : List Value} {K : Int32 → Mem → Prop} (C : Cx p R s m args meth c own cc nL cells slots A L) (a1 : Int32) (a2 : Int32) (a3 : Int32)  (h : w_X7_arrive a1 a2 a3 σ K) (hml : Cond.methodLink own idx yX7_arrive ∈ wA) (hR : rm_X7_arrive.frames + 1 ≤ R.frames ∧ 8 + (4 + 11) + rm_X7_arrive.locals ≤ R.locals) (hsum : (st.map fun v => v.category).sum ≤ 8) (d : decode cc pc = .ok (.invokevirtual idx, 3)) (kk : ∀ r σ1, K r σ1 → V p l e R s m args below meth c nL cells slots Q A L σ1 (pc + 3) lv (.int r :: st)) : V p l e R s m args below meth c nL cells slots Q A L σ pc lv (.int a3 :: .int a2 :: .int a1 :: .ref (lad L 306) :: st) := v_callVi C [.int a1, .int a2, .int a3] (fun sz => c_X7_arrive l L a1 a2 a3 σ _  h sz) mC_X7_arrive mZ_X7 hd_X7_arrive mI_X7_arrive mS_X7_arrive rfl rfl (c0 := 7) (ci := 7) (by decide) rfl rfl rfl kdn_306 hml hR rfl hsum d kk
-- ===== RX7.present
abbrev rm_X7_present : Room := { frames := 0, cells := 0, slots := 0, locals := 0 }
def w_X7_present  (σ : Mem) (K : Int32 → Mem → Prop) : Prop := (vp_in 1076 1244 ∧ (K ((4 + (σ 307 (ix 1076))) - 1) σ))
set_option maxHeartbeats 4000000 in
set_option maxRecDepth 100000 in
theorem c_X7_present (l : Launch) (L : Ly)  (σ : Mem) (K : Int32 → Mem → Prop)  (h : w_X7_present  σ K) (sz : Nat) : Met l yX7_present (.code yX7_present cX7_present 1 (some .int) :: wA) rm_X7_present (va_Pc [.ref (lad L 306)] (mB L sz σ)) (va_Qi K (mE L) (mA L sz)) 0 0 (mA L sz) := by
  refine v_start (own := RX7) [(0, .ref (lad L 306))] (by decide) rfl (Nat.le_of_ble_eq_true rfl) rfl (fun p e s m args below meth c C hret hlk => ?_)
  unfold w_X7_present at h
  refine v_iconst C (v := 4) dX7_present_0 rfl ?_
  refine v_aload_n C dX7_present_1 rfl 0 rfl ?_
  refine g_7_now C kdn_306 mF_X7_7 dX7_present_2 ?_
  refine v_sipush C (v := 1076) dX7_present_5 rfl ?_
  obtain ⟨hi1, h⟩ := h
  refine v_iald C (c0 := 24) (by decide) rfl kdn_307 hi1 dX7_present_8 ?_
  refine v_iadd C dX7_present_9 ?_
  refine v_iconst C (v := 1) dX7_present_10 rfl ?_
  refine v_isub C dX7_present_11 ?_
  exact v_iret C dX7_present_12 hret hlk h
theorem hd_X7_present : yX7_present.cls ≠ "java/lang/invoke/MethodHandle" ∧ yX7_present.cls ≠ "java/lang/invoke/VarHandle" ∧ (parseMethodDescriptor yX7_present.desc).map (fun d => d.parameters.length) = some 0 := by decide +kernel
theorem k_X7_present {p : Program} {l : Launch} {e : Env} {R : Room} {s : State} {m : MethodId} {args : Array Value} {below : List Frame} {meth : Method} {c : Code} {nL cells slots : Nat} {Q : State → Prop} {A : Nat → Prop} {L : Ly} {own : String} {cc : ByteArray} {σ : Mem} {pc idx : Nat} {lv : List (Nat × Value)} {st : List Value} {K : Int32 → Mem → Prop} (C : Cx p R s m args meth c own cc nL cells slots A L)   (h : w_X7_present  σ K) (hml : Cond.methodLink own idx yX7_present ∈ wA) (hR : rm_X7_present.frames + 1 ≤ R.frames ∧ 8 + (1 + 11) + rm_X7_present.locals ≤ R.locals) (hsum : (st.map fun v => v.category).sum ≤ 8) (d : decode cc pc = .ok (.invokevirtual idx, 3)) (kk : ∀ r σ1, K r σ1 → V p l e R s m args below meth c nL cells slots Q A L σ1 (pc + 3) lv (.int r :: st)) : V p l e R s m args below meth c nL cells slots Q A L σ pc lv (.ref (lad L 306) :: st) := v_callVi C [] (fun sz => c_X7_present l L  σ _  h sz) mC_X7_present mZ_X7 hd_X7_present mI_X7_present mS_X7_present rfl rfl (c0 := 7) (ci := 7) (by decide) rfl rfl rfl kdn_306 hml hR rfl hsum d kk
-- ===== RX7.flows
abbrev rm_X7_flows : Room := { frames := 6, cells := 0, slots := 0, locals := 134 }
def w_X7_flows_66 (a1 : Int32) (a2 : Int32) (K : Mem → Prop)   (σ : Mem) : Prop := (w_X7_present  σ (fun r13 σ12 => (w_X7_empties r13 σ12 (fun σ14 => (vp_in 1075 1244 ∧ (vp_in 1075 1244 ∧ ∀ σ17 : Mem, σ17 = mu σ14 307 (ix 1075) ((σ14 307 (ix 1075)) + 1) → (vp_in 1075 1244 ∧ (w_X7_tells 2 4 (σ17 307 (ix 1075)) σ17 (fun σ19 => (w_X7_present  σ19 (fun r21 σ20 => (w_X7_comes r21 a1 a2 σ20 (fun σ22 => (K σ22))))))))))))))
set_option maxHeartbeats 4000000 in
set_option maxRecDepth 100000 in
theorem b_X7_flows_66 {p : Program} {l : Launch} {e : Env} {s : State} {m : MethodId} {args : Array Value} {below : List Frame} {meth : Method} {c : Code} {L : Ly} {sz : Nat} (C : Cx p rm_X7_flows s m args meth c RX7 cX7_flows 4 0 0 (mA L sz) L) (hret : meth.sig.returnType = none) (hlk : meth.locks = false) (a1 : Int32) (a2 : Int32)  (K : Mem → Prop)   (σ : Mem)  (h : w_X7_flows_66 a1 a2 K   σ) : V p l e rm_X7_flows s m args below meth c 4 0 0 (MQ below (va_Qv K (mE L) (mA L sz)) args s 0 0 (mA L sz)) (mA L sz) L σ 66 [(0, .ref (lad L 306)), (1, .int a1), (2, .int a2)] [] := by
  unfold w_X7_flows_66 at h
  refine v_aload_n C dX7_flows_66 rfl 0 rfl ?_
  refine v_aload_n C dX7_flows_67 rfl 0 rfl ?_
  refine k_X7_present C   h mM_X7_87 ⟨Nat.le_of_ble_eq_true rfl, Nat.le_of_ble_eq_true rfl⟩ (Nat.le_of_ble_eq_true rfl) dX7_flows_68 (fun r13 σ12 h => ?_)
  refine k_X7_empties C r13  h mM_X7_94 ⟨Nat.le_of_ble_eq_true rfl, Nat.le_of_ble_eq_true rfl⟩ (Nat.le_of_ble_eq_true rfl) dX7_flows_71 (fun σ14 h => ?_)
  refine v_aload_n C dX7_flows_74 rfl 0 rfl ?_
  refine g_7_now C kdn_306 mF_X7_7 dX7_flows_75 ?_
  refine v_sipush C (v := 1075) dX7_flows_78 rfl ?_
  refine v_dup2 C dX7_flows_81 rfl rfl ?_
  obtain ⟨hi15, h⟩ := h
  refine v_iald C (c0 := 24) (by decide) rfl kdn_307 hi15 dX7_flows_82 ?_
  refine v_iconst C (v := 1) dX7_flows_83 rfl ?_
  refine v_iadd C dX7_flows_84 ?_
  obtain ⟨hi16, h⟩ := h
  refine v_iast C (c0 := 24) (by decide) (fun _ => rfl) kdn_307 hi16 dX7_flows_85 (fun σ17 eσ17 => ?_)
  replace h := h σ17 eσ17
  refine v_aload_n C dX7_flows_86 rfl 0 rfl ?_
  refine v_iconst C (v := 2) dX7_flows_87 rfl ?_
  refine v_iconst C (v := 4) dX7_flows_88 rfl ?_
  refine v_aload_n C dX7_flows_89 rfl 0 rfl ?_
  refine g_7_now C kdn_306 mF_X7_7 dX7_flows_90 ?_
  refine v_sipush C (v := 1075) dX7_flows_93 rfl ?_
  obtain ⟨hi18, h⟩ := h
  refine v_iald C (c0 := 24) (by decide) rfl kdn_307 hi18 dX7_flows_96 ?_
  refine k_X7_tells C 2 4 (σ17 307 (ix 1075))  h mM_X7_62 ⟨Nat.le_of_ble_eq_true rfl, Nat.le_of_ble_eq_true rfl⟩ (Nat.le_of_ble_eq_true rfl) dX7_flows_97 (fun σ19 h => ?_)
  refine v_aload_n C dX7_flows_100 rfl 0 rfl ?_
  refine v_aload_n C dX7_flows_101 rfl 0 rfl ?_
  refine k_X7_present C   h mM_X7_87 ⟨Nat.le_of_ble_eq_true rfl, Nat.le_of_ble_eq_true rfl⟩ (Nat.le_of_ble_eq_true rfl) dX7_flows_102 (fun r21 σ20 h => ?_)
  refine v_iload_n C dX7_flows_105 rfl 1 rfl ?_
  refine v_iload_n C dX7_flows_106 rfl 2 rfl ?_
  refine k_X7_comes C r21 a1 a2  h mM_X7_84 ⟨Nat.le_of_ble_eq_true rfl, Nat.le_of_ble_eq_true rfl⟩ (Nat.le_of_ble_eq_true rfl) dX7_flows_107 (fun σ22 h => ?_)
  exact v_vret C dX7_flows_110 hret hlk h
def w_X7_flows_28 (a1 : Int32) (a2 : Int32) (K : Mem → Prop)  : Nat → Int32 → Mem → Prop
  | 0, _, _ => False
  | n + 1, x3, σ => (br (3 ≤ x3) (w_X7_flows_66 a1 a2 K   σ) (w_X7_copies ((4 + x3) + 1) (4 + x3) σ (fun σ23 => (w_X7_flows_28 a1 a2 K  n (x3 + 1) σ23))))
set_option maxHeartbeats 4000000 in
set_option maxRecDepth 100000 in
theorem b_X7_flows_28 {p : Program} {l : Launch} {e : Env} {s : State} {m : MethodId} {args : Array Value} {below : List Frame} {meth : Method} {c : Code} {L : Ly} {sz : Nat} (C : Cx p rm_X7_flows s m args meth c RX7 cX7_flows 4 0 0 (mA L sz) L) (hret : meth.sig.returnType = none) (hlk : meth.locks = false) (a1 : Int32) (a2 : Int32)  (K : Mem → Prop)  : ∀ (n : Nat) (x3 : Int32) (σ : Mem), w_X7_flows_28 a1 a2 K  n x3 σ → V p l e rm_X7_flows s m args below meth c 4 0 0 (MQ below (va_Qv K (mE L) (mA L sz)) args s 0 0 (mA L sz)) (mA L sz) L σ 28 [(0, .ref (lad L 306)), (1, .int a1), (2, .int a2), (3, .int x3)] [] := by
  intro n
  induction n with
  | zero => intro x3 σ  h; exact h.elim
  | succ n ih =>
    intro x3 σ  h
    rw [w_X7_flows_28] at h
    refine v_iload_n C dX7_flows_28 rfl 3 rfl ?_
    refine v_iconst C (v := 3) dX7_flows_29 rfl ?_
    refine v_icmp_ge C (tgt := 51) dX7_flows_30 (by decide) (fun hc => ?_) (fun hc => ?_)
    · replace h := h.1 hc
      refine v_goto C (tgt := 66) dX7_flows_51 (by decide) ?_
      refine v_sub [0, 1, 2] rfl ?_
      exact b_X7_flows_66 C hret hlk a1 a2  K    _  h
    · replace h := h.2 hc
      refine v_aload_n C dX7_flows_33 rfl 0 rfl ?_
      refine v_iconst C (v := 4) dX7_flows_34 rfl ?_
      refine v_iload_n C dX7_flows_35 rfl 3 rfl ?_
      refine v_iadd C dX7_flows_36 ?_
      refine v_iconst C (v := 1) dX7_flows_37 rfl ?_
      refine v_iadd C dX7_flows_38 ?_
      refine v_iconst C (v := 4) dX7_flows_39 rfl ?_
      refine v_iload_n C dX7_flows_40 rfl 3 rfl ?_
      refine v_iadd C dX7_flows_41 ?_
      refine k_X7_copies C ((4 + x3) + 1) (4 + x3)  h mM_X7_91 ⟨Nat.le_of_ble_eq_true rfl, Nat.le_of_ble_eq_true rfl⟩ (Nat.le_of_ble_eq_true rfl) dX7_flows_42 (fun σ23 h => ?_)
      refine v_iinc C [(3, .int (x3 + 1)), (0, .ref (lad L 306)), (1, .int a1), (2, .int a2)] dX7_flows_45 3 rfl rfl (by decide) rfl ?_
      refine v_goto C (tgt := 28) dX7_flows_48 (by decide) ?_
      refine v_sub [1, 2, 3, 0] rfl ?_
      exact ih _ _  h
def w_X7_flows (a1 : Int32) (a2 : Int32) (σ : Mem) (K : Mem → Prop) : Prop := (w_X7_present  σ (fun r2 σ1 => (w_X7_of r2 3 σ1 (fun r4 σ3 => (br (r4 = 8) (vp_in 1076 1244 ∧ (br ((σ3 307 (ix 1076)) = 4) (∃ n24, w_X7_flows_28 a1 a2 K  n24 0 σ3) (vp_in 1076 1244 ∧ (vp_in 1076 1244 ∧ ∀ σ11 : Mem, σ11 = mu σ3 307 (ix 1076) ((σ3 307 (ix 1076)) + 1) → (w_X7_flows_66 a1 a2 K   σ11))))) (w_X7_present  σ3 (fun r6 σ5 => (w_X7_comes r6 a1 a2 σ5 (fun σ7 => (K σ7))))))))))
set_option maxHeartbeats 4000000 in
set_option maxRecDepth 100000 in
theorem c_X7_flows (l : Launch) (L : Ly) (a1 : Int32) (a2 : Int32) (σ : Mem) (K : Mem → Prop)  (h : w_X7_flows a1 a2 σ K) (sz : Nat) : Met l yX7_flows (.code yX7_flows cX7_flows 4 none :: wA) rm_X7_flows (va_Pc [.ref (lad L 306), .int a1, .int a2] (mB L sz σ)) (va_Qv K (mE L) (mA L sz)) 0 0 (mA L sz) := by
  refine v_start (own := RX7) [(0, .ref (lad L 306)), (1, .int a1), (2, .int a2)] (by decide) rfl (Nat.le_of_ble_eq_true rfl) rfl (fun p e s m args below meth c C hret hlk => ?_)
  unfold w_X7_flows at h
  refine v_aload_n C dX7_flows_0 rfl 0 rfl ?_
  refine v_aload_n C dX7_flows_1 rfl 0 rfl ?_
  refine k_X7_present C   h mM_X7_87 ⟨Nat.le_of_ble_eq_true rfl, Nat.le_of_ble_eq_true rfl⟩ (Nat.le_of_ble_eq_true rfl) dX7_flows_2 (fun r2 σ1 h => ?_)
  refine v_iconst C (v := 3) dX7_flows_5 rfl ?_
  refine k_X7_of C r2 3  h mM_X7_47 ⟨Nat.le_of_ble_eq_true rfl, Nat.le_of_ble_eq_true rfl⟩ (Nat.le_of_ble_eq_true rfl) dX7_flows_6 (fun r4 σ3 h => ?_)
  refine v_bipush C (v := 8) dX7_flows_9 rfl ?_
  refine v_icmp_ne C (tgt := 100) dX7_flows_11 (by decide) (fun hc => ?_) (fun hc => ?_)
  · replace h := h.2 hc
    refine v_aload_n C dX7_flows_100 rfl 0 rfl ?_
    refine v_aload_n C dX7_flows_101 rfl 0 rfl ?_
    refine k_X7_present C   h mM_X7_87 ⟨Nat.le_of_ble_eq_true rfl, Nat.le_of_ble_eq_true rfl⟩ (Nat.le_of_ble_eq_true rfl) dX7_flows_102 (fun r6 σ5 h => ?_)
    refine v_iload_n C dX7_flows_105 rfl 1 rfl ?_
    refine v_iload_n C dX7_flows_106 rfl 2 rfl ?_
    refine k_X7_comes C r6 a1 a2  h mM_X7_84 ⟨Nat.le_of_ble_eq_true rfl, Nat.le_of_ble_eq_true rfl⟩ (Nat.le_of_ble_eq_true rfl) dX7_flows_107 (fun σ7 h => ?_)
    exact v_vret C dX7_flows_110 hret hlk h
  · replace h := h.1 hc
    refine v_aload_n C dX7_flows_14 rfl 0 rfl ?_
    refine g_7_now C kdn_306 mF_X7_7 dX7_flows_15 ?_
    refine v_sipush C (v := 1076) dX7_flows_18 rfl ?_
    obtain ⟨hi8, h⟩ := h
    refine v_iald C (c0 := 24) (by decide) rfl kdn_307 hi8 dX7_flows_21 ?_
    refine v_iconst C (v := 4) dX7_flows_22 rfl ?_
    refine v_icmp_ne C (tgt := 54) dX7_flows_23 (by decide) (fun hc => ?_) (fun hc => ?_)
    · replace h := h.2 hc
      refine v_aload_n C dX7_flows_54 rfl 0 rfl ?_
      refine g_7_now C kdn_306 mF_X7_7 dX7_flows_55 ?_
      refine v_sipush C (v := 1076) dX7_flows_58 rfl ?_
      refine v_dup2 C dX7_flows_61 rfl rfl ?_
      obtain ⟨hi9, h⟩ := h
      refine v_iald C (c0 := 24) (by decide) rfl kdn_307 hi9 dX7_flows_62 ?_
      refine v_iconst C (v := 1) dX7_flows_63 rfl ?_
      refine v_iadd C dX7_flows_64 ?_
      obtain ⟨hi10, h⟩ := h
      refine v_iast C (c0 := 24) (by decide) (fun _ => rfl) kdn_307 hi10 dX7_flows_65 (fun σ11 eσ11 => ?_)
      replace h := h σ11 eσ11
      refine v_sub [0, 1, 2] rfl ?_
      exact b_X7_flows_66 C hret hlk a1 a2  K    _  h
    · replace h := h.1 hc
      refine v_iconst C (v := 0) dX7_flows_26 rfl ?_
      refine v_istore_n C [(3, .int 0), (0, .ref (lad L 306)), (1, .int a1), (2, .int a2)] dX7_flows_27 rfl (by decide) rfl ?_
      obtain ⟨n24, h⟩ := h
      refine v_sub [1, 2, 3, 0] rfl ?_
      exact b_X7_flows_28 C hret hlk a1 a2  K   n24 _ _  h
theorem hd_X7_flows : yX7_flows.cls ≠ "java/lang/invoke/MethodHandle" ∧ yX7_flows.cls ≠ "java/lang/invoke/VarHandle" ∧ (parseMethodDescriptor yX7_flows.desc).map (fun d => d.parameters.length) = some 2 := by decide +kernel
theorem k_X7_flows {p : Program} {l : Launch} {e : Env} {R : Room} {s : State} {m : MethodId} {args : Array Value} {below : List Frame} {meth : Method} {c : Code} {nL cells slots : Nat} {Q : State → Prop} {A : Nat → Prop} {L : Ly} {own : String} {cc : ByteArray} {σ : Mem} {pc idx : Nat} {lv : List (Nat × Value)} {st : List Value} {K : Mem → Prop} (C : Cx p R s m args meth c own cc nL cells slots A L) (a1 : Int32) (a2 : Int32)  (h : w_X7_flows a1 a2 σ K) (hml : Cond.methodLink own idx yX7_flows ∈ wA) (hR : rm_X7_flows.frames + 1 ≤ R.frames ∧ 8 + (4 + 11) + rm_X7_flows.locals ≤ R.locals) (hsum : (st.map fun v => v.category).sum ≤ 8) (d : decode cc pc = .ok (.invokevirtual idx, 3)) (kk : ∀ σ1, K σ1 → V p l e R s m args below meth c nL cells slots Q A L σ1 (pc + 3) lv st) : V p l e R s m args below meth c nL cells slots Q A L σ pc lv (.int a2 :: .int a1 :: .ref (lad L 306) :: st) := v_callVv C [.int a1, .int a2] (fun sz => c_X7_flows l L a1 a2 σ _  h sz) mC_X7_flows mZ_X7 hd_X7_flows mI_X7_flows mS_X7_flows rfl rfl (c0 := 7) (ci := 7) (by decide) rfl rfl rfl kdn_306 hml hR rfl hsum d kk
-- ===== RX7.flow
abbrev rm_X7_flow : Room := { frames := 7, cells := 0, slots := 0, locals := 157 }
def w_X7_flow (a1 : Int32) (a2 : Int32) (σ : Mem) (K : Int32 → Mem → Prop) : Prop := (w_X7_isLetter a1 σ (fun r2 σ1 => (br (r2 = 0) (K (-1) σ1) (w_X7_in a2 1 99 σ1 (fun r4 σ3 => (br (r4 = 0) (K (-2) σ3) (w_X7_record  σ3 (fun σ5 => (w_X7_flows (a1 - 97) a2 σ5 (fun σ6 => (w_X7_present  σ6 (fun r8 σ7 => (w_X7_of r8 3 σ7 (fun r10 σ9 => (K r10 σ9)))))))))))))))
set_option maxHeartbeats 4000000 in
set_option maxRecDepth 100000 in
theorem c_X7_flow (l : Launch) (L : Ly) (a1 : Int32) (a2 : Int32) (σ : Mem) (K : Int32 → Mem → Prop)  (h : w_X7_flow a1 a2 σ K) (sz : Nat) : Met l yX7_flow (.code yX7_flow cX7_flow 3 (some .int) :: wA) rm_X7_flow (va_Pc [.ref (lad L 306), .int a1, .int a2] (mB L sz σ)) (va_Qi K (mE L) (mA L sz)) 0 0 (mA L sz) := by
  refine v_start (own := RX7) [(0, .ref (lad L 306)), (1, .int a1), (2, .int a2)] (by decide) rfl (Nat.le_of_ble_eq_true rfl) rfl (fun p e s m args below meth c C hret hlk => ?_)
  unfold w_X7_flow at h
  refine v_iload_n C dX7_flow_0 rfl 1 rfl ?_
  refine k_X7_isLetter C a1  h mM_X7_76 ⟨Nat.le_of_ble_eq_true rfl, Nat.le_of_ble_eq_true rfl⟩ (Nat.le_of_ble_eq_true rfl) dX7_flow_1 (fun r2 σ1 h => ?_)
  refine v_if_ne C (tgt := 9) dX7_flow_4 (by decide) (fun hc => ?_) (fun hc => ?_)
  · replace h := h.2 hc
    refine v_iload_n C dX7_flow_9 rfl 2 rfl ?_
    refine v_iconst C (v := 1) dX7_flow_10 rfl ?_
    refine v_bipush C (v := 99) dX7_flow_11 rfl ?_
    refine k_X7_in C a2 1 99  h mM_X7_35 ⟨Nat.le_of_ble_eq_true rfl, Nat.le_of_ble_eq_true rfl⟩ (Nat.le_of_ble_eq_true rfl) dX7_flow_13 (fun r4 σ3 h => ?_)
    refine v_if_ne C (tgt := 22) dX7_flow_16 (by decide) (fun hc => ?_) (fun hc => ?_)
    · replace h := h.2 hc
      refine v_aload_n C dX7_flow_22 rfl 0 rfl ?_
      refine k_X7_record C   h mM_X7_81 ⟨Nat.le_of_ble_eq_true rfl, Nat.le_of_ble_eq_true rfl⟩ (Nat.le_of_ble_eq_true rfl) dX7_flow_23 (fun σ5 h => ?_)
      refine v_aload_n C dX7_flow_26 rfl 0 rfl ?_
      refine v_iload_n C dX7_flow_27 rfl 1 rfl ?_
      refine v_bipush C (v := 97) dX7_flow_28 rfl ?_
      refine v_isub C dX7_flow_30 ?_
      refine v_iload_n C dX7_flow_31 rfl 2 rfl ?_
      refine k_X7_flows C (a1 - 97) a2  h mM_X7_97 ⟨Nat.le_of_ble_eq_true rfl, Nat.le_of_ble_eq_true rfl⟩ (Nat.le_of_ble_eq_true rfl) dX7_flow_32 (fun σ6 h => ?_)
      refine v_aload_n C dX7_flow_35 rfl 0 rfl ?_
      refine v_aload_n C dX7_flow_36 rfl 0 rfl ?_
      refine k_X7_present C   h mM_X7_87 ⟨Nat.le_of_ble_eq_true rfl, Nat.le_of_ble_eq_true rfl⟩ (Nat.le_of_ble_eq_true rfl) dX7_flow_37 (fun r8 σ7 h => ?_)
      refine v_iconst C (v := 3) dX7_flow_40 rfl ?_
      refine k_X7_of C r8 3  h mM_X7_47 ⟨Nat.le_of_ble_eq_true rfl, Nat.le_of_ble_eq_true rfl⟩ (Nat.le_of_ble_eq_true rfl) dX7_flow_41 (fun r10 σ9 h => ?_)
      exact v_iret C dX7_flow_44 hret hlk h
    · replace h := h.1 hc
      refine v_bipush C (v := (-2)) dX7_flow_19 rfl ?_
      exact v_iret C dX7_flow_21 hret hlk h
  · replace h := h.1 hc
    refine v_iconst C (v := (-1)) dX7_flow_7 rfl ?_
    exact v_iret C dX7_flow_8 hret hlk h
theorem hd_X7_flow : yX7_flow.cls ≠ "java/lang/invoke/MethodHandle" ∧ yX7_flow.cls ≠ "java/lang/invoke/VarHandle" ∧ (parseMethodDescriptor yX7_flow.desc).map (fun d => d.parameters.length) = some 2 := by decide +kernel
theorem k_X7_flow {p : Program} {l : Launch} {e : Env} {R : Room} {s : State} {m : MethodId} {args : Array Value} {below : List Frame} {meth : Method} {c : Code} {nL cells slots : Nat} {Q : State → Prop} {A : Nat → Prop} {L : Ly} {own : String} {cc : ByteArray} {σ : Mem} {pc idx : Nat} {lv : List (Nat × Value)} {st : List Value} {K : Int32 → Mem → Prop} (C : Cx p R s m args meth c own cc nL cells slots A L) (a1 : Int32) (a2 : Int32)  (h : w_X7_flow a1 a2 σ K) (hml : Cond.methodLink own idx yX7_flow ∈ wA) (hR : rm_X7_flow.frames + 1 ≤ R.frames ∧ 8 + (3 + 11) + rm_X7_flow.locals ≤ R.locals) (hsum : (st.map fun v => v.category).sum ≤ 8) (d : decode cc pc = .ok (.invokevirtual idx, 3)) (kk : ∀ r σ1, K r σ1 → V p l e R s m args below meth c nL cells slots Q A L σ1 (pc + 3) lv (.int r :: st)) : V p l e R s m args below meth c nL cells slots Q A L σ pc lv (.int a2 :: .int a1 :: .ref (lad L 306) :: st) := v_callVi C [.int a1, .int a2] (fun sz => c_X7_flow l L a1 a2 σ _  h sz) mC_X7_flow mZ_X7 hd_X7_flow mI_X7_flow mS_X7_flow rfl rfl (c0 := 7) (ci := 7) (by decide) rfl rfl rfl kdn_306 hml hR rfl hsum d kk
-- ===== RX7.merge
abbrev rm_X7_merge : Room := { frames := 4, cells := 0, slots := 0, locals := 94 }
def w_X7_merge (a1 : Int32) (a2 : Int32) (σ : Mem) (K : Int32 → Mem → Prop) : Prop := (w_X7_isSummary a1 σ (fun r2 σ1 => (br (r2 = 0) (K (-1) σ1) (w_X7_isSummary a2 σ1 (fun r4 σ3 => (br (r4 = 0) (K (-1) σ3) (br (a1 = a2) (K (-2) σ3) (w_X7_of a1 2 σ3 (fun r6 σ5 => (w_X7_of a2 2 σ5 (fun r8 σ7 => (br ((r6 + r8) ≤ 1000000) (w_X7_record  σ7 (fun σ9 => (w_X7_joins a1 a2 σ9 (fun r11 σ10 => (w_X7_empties a2 σ10 (fun σ12 => (vp_in 1074 1244 ∧ (vp_in 1074 1244 ∧ ∀ σ15 : Mem, σ15 = mu σ12 307 (ix 1074) ((σ12 307 (ix 1074)) + 1) → (w_X7_tells 1 a1 r11 σ15 (fun σ16 => (K r11 σ16))))))))))) (K (-3) σ7)))))))))))))
set_option maxHeartbeats 4000000 in
set_option maxRecDepth 100000 in
theorem c_X7_merge (l : Launch) (L : Ly) (a1 : Int32) (a2 : Int32) (σ : Mem) (K : Int32 → Mem → Prop)  (h : w_X7_merge a1 a2 σ K) (sz : Nat) : Met l yX7_merge (.code yX7_merge cX7_merge 4 (some .int) :: wA) rm_X7_merge (va_Pc [.ref (lad L 306), .int a1, .int a2] (mB L sz σ)) (va_Qi K (mE L) (mA L sz)) 0 0 (mA L sz) := by
  refine v_start (own := RX7) [(0, .ref (lad L 306)), (1, .int a1), (2, .int a2)] (by decide) rfl (Nat.le_of_ble_eq_true rfl) rfl (fun p e s m args below meth c C hret hlk => ?_)
  unfold w_X7_merge at h
  refine v_iload_n C dX7_merge_0 rfl 1 rfl ?_
  refine k_X7_isSummary C a1  h mM_X7_72 ⟨Nat.le_of_ble_eq_true rfl, Nat.le_of_ble_eq_true rfl⟩ (Nat.le_of_ble_eq_true rfl) dX7_merge_1 (fun r2 σ1 h => ?_)
  refine v_if_eq C (tgt := 14) dX7_merge_4 (by decide) (fun hc => ?_) (fun hc => ?_)
  · replace h := h.1 hc
    refine v_iconst C (v := (-1)) dX7_merge_14 rfl ?_
    exact v_iret C dX7_merge_15 hret hlk h
  · replace h := h.2 hc
    refine v_iload_n C dX7_merge_7 rfl 2 rfl ?_
    refine k_X7_isSummary C a2  h mM_X7_72 ⟨Nat.le_of_ble_eq_true rfl, Nat.le_of_ble_eq_true rfl⟩ (Nat.le_of_ble_eq_true rfl) dX7_merge_8 (fun r4 σ3 h => ?_)
    refine v_if_ne C (tgt := 16) dX7_merge_11 (by decide) (fun hc => ?_) (fun hc => ?_)
    · replace h := h.2 hc
      refine v_iload_n C dX7_merge_16 rfl 1 rfl ?_
      refine v_iload_n C dX7_merge_17 rfl 2 rfl ?_
      refine v_icmp_ne C (tgt := 24) dX7_merge_18 (by decide) (fun hc => ?_) (fun hc => ?_)
      · replace h := h.2 hc
        refine v_aload_n C dX7_merge_24 rfl 0 rfl ?_
        refine v_iload_n C dX7_merge_25 rfl 1 rfl ?_
        refine v_iconst C (v := 2) dX7_merge_26 rfl ?_
        refine k_X7_of C a1 2  h mM_X7_47 ⟨Nat.le_of_ble_eq_true rfl, Nat.le_of_ble_eq_true rfl⟩ (Nat.le_of_ble_eq_true rfl) dX7_merge_27 (fun r6 σ5 h => ?_)
        refine v_aload_n C dX7_merge_30 rfl 0 rfl ?_
        refine v_iload_n C dX7_merge_31 rfl 2 rfl ?_
        refine v_iconst C (v := 2) dX7_merge_32 rfl ?_
        refine k_X7_of C a2 2  h mM_X7_47 ⟨Nat.le_of_ble_eq_true rfl, Nat.le_of_ble_eq_true rfl⟩ (Nat.le_of_ble_eq_true rfl) dX7_merge_33 (fun r8 σ7 h => ?_)
        refine v_iadd C dX7_merge_36 ?_
        refine v_ldc C dX7_merge_37 mN_X7_80 ?_
        refine v_icmp_le C (tgt := 45) dX7_merge_39 (by decide) (fun hc => ?_) (fun hc => ?_)
        · replace h := h.1 hc
          refine v_aload_n C dX7_merge_45 rfl 0 rfl ?_
          refine k_X7_record C   h mM_X7_81 ⟨Nat.le_of_ble_eq_true rfl, Nat.le_of_ble_eq_true rfl⟩ (Nat.le_of_ble_eq_true rfl) dX7_merge_46 (fun σ9 h => ?_)
          refine v_aload_n C dX7_merge_49 rfl 0 rfl ?_
          refine v_iload_n C dX7_merge_50 rfl 1 rfl ?_
          refine v_iload_n C dX7_merge_51 rfl 2 rfl ?_
          refine k_X7_joins C a1 a2  h mM_X7_100 ⟨Nat.le_of_ble_eq_true rfl, Nat.le_of_ble_eq_true rfl⟩ (Nat.le_of_ble_eq_true rfl) dX7_merge_52 (fun r11 σ10 h => ?_)
          refine v_istore_n C [(3, .int r11), (0, .ref (lad L 306)), (1, .int a1), (2, .int a2)] dX7_merge_55 rfl (by decide) rfl ?_
          refine v_aload_n C dX7_merge_56 rfl 1 rfl ?_
          refine v_iload_n C dX7_merge_57 rfl 3 rfl ?_
          refine k_X7_empties C a2  h mM_X7_94 ⟨Nat.le_of_ble_eq_true rfl, Nat.le_of_ble_eq_true rfl⟩ (Nat.le_of_ble_eq_true rfl) dX7_merge_58 (fun σ12 h => ?_)
          refine v_aload_n C dX7_merge_61 rfl 1 rfl ?_
          refine g_7_now C kdn_306 mF_X7_7 dX7_merge_62 ?_
          refine v_sipush C (v := 1074) dX7_merge_65 rfl ?_
          refine v_dup2 C dX7_merge_68 rfl rfl ?_
          obtain ⟨hi13, h⟩ := h
          refine v_iald C (c0 := 24) (by decide) rfl kdn_307 hi13 dX7_merge_69 ?_
          refine v_iconst C (v := 1) dX7_merge_70 rfl ?_
          refine v_iadd C dX7_merge_71 ?_
          obtain ⟨hi14, h⟩ := h
          refine v_iast C (c0 := 24) (by decide) (fun _ => rfl) kdn_307 hi14 dX7_merge_72 (fun σ15 eσ15 => ?_)
          replace h := h σ15 eσ15
          refine v_aload_n C dX7_merge_73 rfl 1 rfl ?_
          refine v_iconst C (v := 1) dX7_merge_74 rfl ?_
          refine v_iload_n C dX7_merge_75 rfl 2 rfl ?_
          refine v_iload_n C dX7_merge_76 rfl 0 rfl ?_
          refine k_X7_tells C 1 a1 r11  h mM_X7_62 ⟨Nat.le_of_ble_eq_true rfl, Nat.le_of_ble_eq_true rfl⟩ (Nat.le_of_ble_eq_true rfl) dX7_merge_77 (fun σ16 h => ?_)
          refine v_iload_n C dX7_merge_80 rfl 0 rfl ?_
          exact v_iret C dX7_merge_81 hret hlk h
        · replace h := h.2 hc
          refine v_bipush C (v := (-3)) dX7_merge_42 rfl ?_
          exact v_iret C dX7_merge_44 hret hlk h
      · replace h := h.1 hc
        refine v_bipush C (v := (-2)) dX7_merge_21 rfl ?_
        exact v_iret C dX7_merge_23 hret hlk h
    · replace h := h.1 hc
      refine v_iconst C (v := (-1)) dX7_merge_14 rfl ?_
      exact v_iret C dX7_merge_15 hret hlk h
theorem hd_X7_merge : yX7_merge.cls ≠ "java/lang/invoke/MethodHandle" ∧ yX7_merge.cls ≠ "java/lang/invoke/VarHandle" ∧ (parseMethodDescriptor yX7_merge.desc).map (fun d => d.parameters.length) = some 2 := by decide +kernel
theorem k_X7_merge {p : Program} {l : Launch} {e : Env} {R : Room} {s : State} {m : MethodId} {args : Array Value} {below : List Frame} {meth : Method} {c : Code} {nL cells slots : Nat} {Q : State → Prop} {A : Nat → Prop} {L : Ly} {own : String} {cc : ByteArray} {σ : Mem} {pc idx : Nat} {lv : List (Nat × Value)} {st : List Value} {K : Int32 → Mem → Prop} (C : Cx p R s m args meth c own cc nL cells slots A L) (a1 : Int32) (a2 : Int32)  (h : w_X7_merge a1 a2 σ K) (hml : Cond.methodLink own idx yX7_merge ∈ wA) (hR : rm_X7_merge.frames + 1 ≤ R.frames ∧ 8 + (4 + 11) + rm_X7_merge.locals ≤ R.locals) (hsum : (st.map fun v => v.category).sum ≤ 8) (d : decode cc pc = .ok (.invokevirtual idx, 3)) (kk : ∀ r σ1, K r σ1 → V p l e R s m args below meth c nL cells slots Q A L σ1 (pc + 3) lv (.int r :: st)) : V p l e R s m args below meth c nL cells slots Q A L σ pc lv (.int a2 :: .int a1 :: .ref (lad L 306) :: st) := v_callVi C [.int a1, .int a2] (fun sz => c_X7_merge l L a1 a2 σ _  h sz) mC_X7_merge mZ_X7 hd_X7_merge mI_X7_merge mS_X7_merge rfl rfl (c0 := 7) (ci := 7) (by decide) rfl rfl rfl kdn_306 hml hR rfl hsum d kk
-- ===== RX7.copy
abbrev rm_X7_copy : Room := { frames := 3, cells := 0, slots := 0, locals := 66 }
def w_X7_copy (a1 : Int32) (a2 : Int32) (σ : Mem) (K : Int32 → Mem → Prop) : Prop := (w_X7_isSummary a1 σ (fun r2 σ1 => (br (r2 = 0) (K (-1) σ1) (w_X7_isSummary a2 σ1 (fun r4 σ3 => (br (r4 = 0) (K (-1) σ3) (br (a1 = a2) (K (-2) σ3) (w_X7_record  σ3 (fun σ5 => (w_X7_copies a2 a1 σ5 (fun σ6 => (w_X7_counters a1 σ6 (fun r8 σ7 => (K r8 σ7))))))))))))))
set_option maxHeartbeats 4000000 in
set_option maxRecDepth 100000 in
theorem c_X7_copy (l : Launch) (L : Ly) (a1 : Int32) (a2 : Int32) (σ : Mem) (K : Int32 → Mem → Prop)  (h : w_X7_copy a1 a2 σ K) (sz : Nat) : Met l yX7_copy (.code yX7_copy cX7_copy 3 (some .int) :: wA) rm_X7_copy (va_Pc [.ref (lad L 306), .int a1, .int a2] (mB L sz σ)) (va_Qi K (mE L) (mA L sz)) 0 0 (mA L sz) := by
  refine v_start (own := RX7) [(0, .ref (lad L 306)), (1, .int a1), (2, .int a2)] (by decide) rfl (Nat.le_of_ble_eq_true rfl) rfl (fun p e s m args below meth c C hret hlk => ?_)
  unfold w_X7_copy at h
  refine v_iload_n C dX7_copy_0 rfl 1 rfl ?_
  refine k_X7_isSummary C a1  h mM_X7_72 ⟨Nat.le_of_ble_eq_true rfl, Nat.le_of_ble_eq_true rfl⟩ (Nat.le_of_ble_eq_true rfl) dX7_copy_1 (fun r2 σ1 h => ?_)
  refine v_if_eq C (tgt := 14) dX7_copy_4 (by decide) (fun hc => ?_) (fun hc => ?_)
  · replace h := h.1 hc
    refine v_iconst C (v := (-1)) dX7_copy_14 rfl ?_
    exact v_iret C dX7_copy_15 hret hlk h
  · replace h := h.2 hc
    refine v_iload_n C dX7_copy_7 rfl 2 rfl ?_
    refine k_X7_isSummary C a2  h mM_X7_72 ⟨Nat.le_of_ble_eq_true rfl, Nat.le_of_ble_eq_true rfl⟩ (Nat.le_of_ble_eq_true rfl) dX7_copy_8 (fun r4 σ3 h => ?_)
    refine v_if_ne C (tgt := 16) dX7_copy_11 (by decide) (fun hc => ?_) (fun hc => ?_)
    · replace h := h.2 hc
      refine v_iload_n C dX7_copy_16 rfl 1 rfl ?_
      refine v_iload_n C dX7_copy_17 rfl 2 rfl ?_
      refine v_icmp_ne C (tgt := 24) dX7_copy_18 (by decide) (fun hc => ?_) (fun hc => ?_)
      · replace h := h.2 hc
        refine v_aload_n C dX7_copy_24 rfl 0 rfl ?_
        refine k_X7_record C   h mM_X7_81 ⟨Nat.le_of_ble_eq_true rfl, Nat.le_of_ble_eq_true rfl⟩ (Nat.le_of_ble_eq_true rfl) dX7_copy_25 (fun σ5 h => ?_)
        refine v_aload_n C dX7_copy_28 rfl 0 rfl ?_
        refine v_iload_n C dX7_copy_29 rfl 2 rfl ?_
        refine v_iload_n C dX7_copy_30 rfl 1 rfl ?_
        refine k_X7_copies C a2 a1  h mM_X7_91 ⟨Nat.le_of_ble_eq_true rfl, Nat.le_of_ble_eq_true rfl⟩ (Nat.le_of_ble_eq_true rfl) dX7_copy_31 (fun σ6 h => ?_)
        refine v_aload_n C dX7_copy_34 rfl 0 rfl ?_
        refine v_iload_n C dX7_copy_35 rfl 1 rfl ?_
        refine k_X7_counters C a1  h mM_X7_65 ⟨Nat.le_of_ble_eq_true rfl, Nat.le_of_ble_eq_true rfl⟩ (Nat.le_of_ble_eq_true rfl) dX7_copy_36 (fun r8 σ7 h => ?_)
        exact v_iret C dX7_copy_39 hret hlk h
      · replace h := h.1 hc
        refine v_bipush C (v := (-2)) dX7_copy_21 rfl ?_
        exact v_iret C dX7_copy_23 hret hlk h
    · replace h := h.1 hc
      refine v_iconst C (v := (-1)) dX7_copy_14 rfl ?_
      exact v_iret C dX7_copy_15 hret hlk h
theorem hd_X7_copy : yX7_copy.cls ≠ "java/lang/invoke/MethodHandle" ∧ yX7_copy.cls ≠ "java/lang/invoke/VarHandle" ∧ (parseMethodDescriptor yX7_copy.desc).map (fun d => d.parameters.length) = some 2 := by decide +kernel
theorem k_X7_copy {p : Program} {l : Launch} {e : Env} {R : Room} {s : State} {m : MethodId} {args : Array Value} {below : List Frame} {meth : Method} {c : Code} {nL cells slots : Nat} {Q : State → Prop} {A : Nat → Prop} {L : Ly} {own : String} {cc : ByteArray} {σ : Mem} {pc idx : Nat} {lv : List (Nat × Value)} {st : List Value} {K : Int32 → Mem → Prop} (C : Cx p R s m args meth c own cc nL cells slots A L) (a1 : Int32) (a2 : Int32)  (h : w_X7_copy a1 a2 σ K) (hml : Cond.methodLink own idx yX7_copy ∈ wA) (hR : rm_X7_copy.frames + 1 ≤ R.frames ∧ 8 + (3 + 11) + rm_X7_copy.locals ≤ R.locals) (hsum : (st.map fun v => v.category).sum ≤ 8) (d : decode cc pc = .ok (.invokevirtual idx, 3)) (kk : ∀ r σ1, K r σ1 → V p l e R s m args below meth c nL cells slots Q A L σ1 (pc + 3) lv (.int r :: st)) : V p l e R s m args below meth c nL cells slots Q A L σ pc lv (.int a2 :: .int a1 :: .ref (lad L 306) :: st) := v_callVi C [.int a1, .int a2] (fun sz => c_X7_copy l L a1 a2 σ _  h sz) mC_X7_copy mZ_X7 hd_X7_copy mI_X7_copy mS_X7_copy rfl rfl (c0 := 7) (ci := 7) (by decide) rfl rfl rfl kdn_306 hml hR rfl hsum d kk
-- ===== RX7.setSize
abbrev rm_X7_setSize : Room := { frames := 5, cells := 0, slots := 0, locals := 111 }
def w_X7_setSize_48 (a1 : Int32) (a2 : Int32) (K : Int32 → Mem → Prop)  : Nat → Int32 → Mem → Prop
  | 0, _, _ => False
  | n + 1, x3, σ => (w_X7_counters a1 σ (fun r10 σ9 => (br (r10 ≤ a2) (K x3 σ9) (w_X7_evicts a1 σ9 (fun σ11 => (w_X7_setSize_48 a1 a2 K  n (x3 + 1) σ11))))))
set_option maxHeartbeats 4000000 in
set_option maxRecDepth 100000 in
theorem b_X7_setSize_48 {p : Program} {l : Launch} {e : Env} {s : State} {m : MethodId} {args : Array Value} {below : List Frame} {meth : Method} {c : Code} {L : Ly} {sz : Nat} (C : Cx p rm_X7_setSize s m args meth c RX7 cX7_setSize 4 0 0 (mA L sz) L) (hret : meth.sig.returnType = (some .int)) (hlk : meth.locks = false) (a1 : Int32) (a2 : Int32)  (K : Int32 → Mem → Prop)  : ∀ (n : Nat) (x3 : Int32) (σ : Mem), w_X7_setSize_48 a1 a2 K  n x3 σ → V p l e rm_X7_setSize s m args below meth c 4 0 0 (MQ below (va_Qi K (mE L) (mA L sz)) args s 0 0 (mA L sz)) (mA L sz) L σ 48 [(0, .ref (lad L 306)), (1, .int a1), (2, .int a2), (3, .int x3)] [] := by
  intro n
  induction n with
  | zero => intro x3 σ  h; exact h.elim
  | succ n ih =>
    intro x3 σ  h
    rw [w_X7_setSize_48] at h
    refine v_aload_n C dX7_setSize_48 rfl 0 rfl ?_
    refine v_iload_n C dX7_setSize_49 rfl 1 rfl ?_
    refine k_X7_counters C a1  h mM_X7_65 ⟨Nat.le_of_ble_eq_true rfl, Nat.le_of_ble_eq_true rfl⟩ (Nat.le_of_ble_eq_true rfl) dX7_setSize_50 (fun r10 σ9 h => ?_)
    refine v_iload_n C dX7_setSize_53 rfl 2 rfl ?_
    refine v_icmp_le C (tgt := 68) dX7_setSize_54 (by decide) (fun hc => ?_) (fun hc => ?_)
    · replace h := h.1 hc
      refine v_iload_n C dX7_setSize_68 rfl 3 rfl ?_
      exact v_iret C dX7_setSize_69 hret hlk h
    · replace h := h.2 hc
      refine v_aload_n C dX7_setSize_57 rfl 0 rfl ?_
      refine v_iload_n C dX7_setSize_58 rfl 1 rfl ?_
      refine k_X7_evicts C a1  h mM_X7_68 ⟨Nat.le_of_ble_eq_true rfl, Nat.le_of_ble_eq_true rfl⟩ (Nat.le_of_ble_eq_true rfl) dX7_setSize_59 (fun σ11 h => ?_)
      refine v_iinc C [(3, .int (x3 + 1)), (0, .ref (lad L 306)), (1, .int a1), (2, .int a2)] dX7_setSize_62 3 rfl rfl (by decide) rfl ?_
      refine v_goto C (tgt := 48) dX7_setSize_65 (by decide) ?_
      refine v_sub [1, 2, 3, 0] rfl ?_
      exact ih _ _  h
def w_X7_setSize (a1 : Int32) (a2 : Int32) (σ : Mem) (K : Int32 → Mem → Prop) : Prop := (w_X7_isSummary a1 σ (fun r2 σ1 => (br (r2 = 0) (K (-1) σ1) (w_X7_in a2 2 10 σ1 (fun r4 σ3 => (br (r4 = 0) (K (-2) σ3) (w_X7_of a1 0 σ3 (fun r6 σ5 => (br (r6 = a2) (K (-5) σ5) (w_X7_record  σ5 (fun σ7 => (w_X7_puts a1 0 a2 σ7 (fun σ8 => (∃ n12, w_X7_setSize_48 a1 a2 K  n12 0 σ8))))))))))))))
set_option maxHeartbeats 4000000 in
set_option maxRecDepth 100000 in
theorem c_X7_setSize (l : Launch) (L : Ly) (a1 : Int32) (a2 : Int32) (σ : Mem) (K : Int32 → Mem → Prop)  (h : w_X7_setSize a1 a2 σ K) (sz : Nat) : Met l yX7_setSize (.code yX7_setSize cX7_setSize 4 (some .int) :: wA) rm_X7_setSize (va_Pc [.ref (lad L 306), .int a1, .int a2] (mB L sz σ)) (va_Qi K (mE L) (mA L sz)) 0 0 (mA L sz) := by
  refine v_start (own := RX7) [(0, .ref (lad L 306)), (1, .int a1), (2, .int a2)] (by decide) rfl (Nat.le_of_ble_eq_true rfl) rfl (fun p e s m args below meth c C hret hlk => ?_)
  unfold w_X7_setSize at h
  refine v_iload_n C dX7_setSize_0 rfl 1 rfl ?_
  refine k_X7_isSummary C a1  h mM_X7_72 ⟨Nat.le_of_ble_eq_true rfl, Nat.le_of_ble_eq_true rfl⟩ (Nat.le_of_ble_eq_true rfl) dX7_setSize_1 (fun r2 σ1 h => ?_)
  refine v_if_ne C (tgt := 9) dX7_setSize_4 (by decide) (fun hc => ?_) (fun hc => ?_)
  · replace h := h.2 hc
    refine v_iload_n C dX7_setSize_9 rfl 2 rfl ?_
    refine v_iconst C (v := 2) dX7_setSize_10 rfl ?_
    refine v_bipush C (v := 10) dX7_setSize_11 rfl ?_
    refine k_X7_in C a2 2 10  h mM_X7_35 ⟨Nat.le_of_ble_eq_true rfl, Nat.le_of_ble_eq_true rfl⟩ (Nat.le_of_ble_eq_true rfl) dX7_setSize_13 (fun r4 σ3 h => ?_)
    refine v_if_ne C (tgt := 22) dX7_setSize_16 (by decide) (fun hc => ?_) (fun hc => ?_)
    · replace h := h.2 hc
      refine v_aload_n C dX7_setSize_22 rfl 0 rfl ?_
      refine v_iload_n C dX7_setSize_23 rfl 1 rfl ?_
      refine v_iconst C (v := 0) dX7_setSize_24 rfl ?_
      refine k_X7_of C a1 0  h mM_X7_47 ⟨Nat.le_of_ble_eq_true rfl, Nat.le_of_ble_eq_true rfl⟩ (Nat.le_of_ble_eq_true rfl) dX7_setSize_25 (fun r6 σ5 h => ?_)
      refine v_iload_n C dX7_setSize_28 rfl 2 rfl ?_
      refine v_icmp_ne C (tgt := 35) dX7_setSize_29 (by decide) (fun hc => ?_) (fun hc => ?_)
      · replace h := h.2 hc
        refine v_aload_n C dX7_setSize_35 rfl 0 rfl ?_
        refine k_X7_record C   h mM_X7_81 ⟨Nat.le_of_ble_eq_true rfl, Nat.le_of_ble_eq_true rfl⟩ (Nat.le_of_ble_eq_true rfl) dX7_setSize_36 (fun σ7 h => ?_)
        refine v_aload_n C dX7_setSize_39 rfl 0 rfl ?_
        refine v_iload_n C dX7_setSize_40 rfl 1 rfl ?_
        refine v_iconst C (v := 0) dX7_setSize_41 rfl ?_
        refine v_iload_n C dX7_setSize_42 rfl 2 rfl ?_
        refine k_X7_puts C a1 0 a2  h mM_X7_23 ⟨Nat.le_of_ble_eq_true rfl, Nat.le_of_ble_eq_true rfl⟩ (Nat.le_of_ble_eq_true rfl) dX7_setSize_43 (fun σ8 h => ?_)
        refine v_iconst C (v := 0) dX7_setSize_46 rfl ?_
        refine v_istore_n C [(3, .int 0), (0, .ref (lad L 306)), (1, .int a1), (2, .int a2)] dX7_setSize_47 rfl (by decide) rfl ?_
        obtain ⟨n12, h⟩ := h
        refine v_sub [1, 2, 3, 0] rfl ?_
        exact b_X7_setSize_48 C hret hlk a1 a2  K   n12 _ _  h
      · replace h := h.1 hc
        refine v_bipush C (v := (-5)) dX7_setSize_32 rfl ?_
        exact v_iret C dX7_setSize_34 hret hlk h
    · replace h := h.1 hc
      refine v_bipush C (v := (-2)) dX7_setSize_19 rfl ?_
      exact v_iret C dX7_setSize_21 hret hlk h
  · replace h := h.1 hc
    refine v_iconst C (v := (-1)) dX7_setSize_7 rfl ?_
    exact v_iret C dX7_setSize_8 hret hlk h
theorem hd_X7_setSize : yX7_setSize.cls ≠ "java/lang/invoke/MethodHandle" ∧ yX7_setSize.cls ≠ "java/lang/invoke/VarHandle" ∧ (parseMethodDescriptor yX7_setSize.desc).map (fun d => d.parameters.length) = some 2 := by decide +kernel
theorem k_X7_setSize {p : Program} {l : Launch} {e : Env} {R : Room} {s : State} {m : MethodId} {args : Array Value} {below : List Frame} {meth : Method} {c : Code} {nL cells slots : Nat} {Q : State → Prop} {A : Nat → Prop} {L : Ly} {own : String} {cc : ByteArray} {σ : Mem} {pc idx : Nat} {lv : List (Nat × Value)} {st : List Value} {K : Int32 → Mem → Prop} (C : Cx p R s m args meth c own cc nL cells slots A L) (a1 : Int32) (a2 : Int32)  (h : w_X7_setSize a1 a2 σ K) (hml : Cond.methodLink own idx yX7_setSize ∈ wA) (hR : rm_X7_setSize.frames + 1 ≤ R.frames ∧ 8 + (4 + 11) + rm_X7_setSize.locals ≤ R.locals) (hsum : (st.map fun v => v.category).sum ≤ 8) (d : decode cc pc = .ok (.invokevirtual idx, 3)) (kk : ∀ r σ1, K r σ1 → V p l e R s m args below meth c nL cells slots Q A L σ1 (pc + 3) lv (.int r :: st)) : V p l e R s m args below meth c nL cells slots Q A L σ pc lv (.int a2 :: .int a1 :: .ref (lad L 306) :: st) := v_callVi C [.int a1, .int a2] (fun sz => c_X7_setSize l L a1 a2 σ _  h sz) mC_X7_setSize mZ_X7 hd_X7_setSize mI_X7_setSize mS_X7_setSize rfl rfl (c0 := 7) (ci := 7) (by decide) rfl rfl rfl kdn_306 hml hR rfl hsum d kk
-- ===== RX7.clear
abbrev rm_X7_clear : Room := { frames := 3, cells := 0, slots := 0, locals := 65 }
def w_X7_clear (a1 : Int32) (σ : Mem) (K : Int32 → Mem → Prop) : Prop := (w_X7_isSummary a1 σ (fun r2 σ1 => (br (r2 = 0) (K (-1) σ1) (w_X7_of a1 2 σ1 (fun r4 σ3 => (br (r4 = 0) (K (-5) σ3) (w_X7_record  σ3 (fun σ5 => (w_X7_empties a1 σ5 (fun σ6 => (K r4 σ6)))))))))))
set_option maxHeartbeats 4000000 in
set_option maxRecDepth 100000 in
theorem c_X7_clear (l : Launch) (L : Ly) (a1 : Int32) (σ : Mem) (K : Int32 → Mem → Prop)  (h : w_X7_clear a1 σ K) (sz : Nat) : Met l yX7_clear (.code yX7_clear cX7_clear 3 (some .int) :: wA) rm_X7_clear (va_Pc [.ref (lad L 306), .int a1] (mB L sz σ)) (va_Qi K (mE L) (mA L sz)) 0 0 (mA L sz) := by
  refine v_start (own := RX7) [(0, .ref (lad L 306)), (1, .int a1)] (by decide) rfl (Nat.le_of_ble_eq_true rfl) rfl (fun p e s m args below meth c C hret hlk => ?_)
  unfold w_X7_clear at h
  refine v_iload_n C dX7_clear_0 rfl 1 rfl ?_
  refine k_X7_isSummary C a1  h mM_X7_72 ⟨Nat.le_of_ble_eq_true rfl, Nat.le_of_ble_eq_true rfl⟩ (Nat.le_of_ble_eq_true rfl) dX7_clear_1 (fun r2 σ1 h => ?_)
  refine v_if_ne C (tgt := 9) dX7_clear_4 (by decide) (fun hc => ?_) (fun hc => ?_)
  · replace h := h.2 hc
    refine v_aload_n C dX7_clear_9 rfl 0 rfl ?_
    refine v_iload_n C dX7_clear_10 rfl 1 rfl ?_
    refine v_iconst C (v := 2) dX7_clear_11 rfl ?_
    refine k_X7_of C a1 2  h mM_X7_47 ⟨Nat.le_of_ble_eq_true rfl, Nat.le_of_ble_eq_true rfl⟩ (Nat.le_of_ble_eq_true rfl) dX7_clear_12 (fun r4 σ3 h => ?_)
    refine v_istore_n C [(2, .int r4), (0, .ref (lad L 306)), (1, .int a1)] dX7_clear_15 rfl (by decide) rfl ?_
    refine v_iload_n C dX7_clear_16 rfl 0 rfl ?_
    refine v_if_ne C (tgt := 23) dX7_clear_17 (by decide) (fun hc => ?_) (fun hc => ?_)
    · replace h := h.2 hc
      refine v_aload_n C dX7_clear_23 rfl 1 rfl ?_
      refine k_X7_record C   h mM_X7_81 ⟨Nat.le_of_ble_eq_true rfl, Nat.le_of_ble_eq_true rfl⟩ (Nat.le_of_ble_eq_true rfl) dX7_clear_24 (fun σ5 h => ?_)
      refine v_aload_n C dX7_clear_27 rfl 1 rfl ?_
      refine v_iload_n C dX7_clear_28 rfl 2 rfl ?_
      refine k_X7_empties C a1  h mM_X7_94 ⟨Nat.le_of_ble_eq_true rfl, Nat.le_of_ble_eq_true rfl⟩ (Nat.le_of_ble_eq_true rfl) dX7_clear_29 (fun σ6 h => ?_)
      refine v_iload_n C dX7_clear_32 rfl 0 rfl ?_
      exact v_iret C dX7_clear_33 hret hlk h
    · replace h := h.1 hc
      refine v_bipush C (v := (-5)) dX7_clear_20 rfl ?_
      exact v_iret C dX7_clear_22 hret hlk h
  · replace h := h.1 hc
    refine v_iconst C (v := (-1)) dX7_clear_7 rfl ?_
    exact v_iret C dX7_clear_8 hret hlk h
theorem hd_X7_clear : yX7_clear.cls ≠ "java/lang/invoke/MethodHandle" ∧ yX7_clear.cls ≠ "java/lang/invoke/VarHandle" ∧ (parseMethodDescriptor yX7_clear.desc).map (fun d => d.parameters.length) = some 1 := by decide +kernel
theorem k_X7_clear {p : Program} {l : Launch} {e : Env} {R : Room} {s : State} {m : MethodId} {args : Array Value} {below : List Frame} {meth : Method} {c : Code} {nL cells slots : Nat} {Q : State → Prop} {A : Nat → Prop} {L : Ly} {own : String} {cc : ByteArray} {σ : Mem} {pc idx : Nat} {lv : List (Nat × Value)} {st : List Value} {K : Int32 → Mem → Prop} (C : Cx p R s m args meth c own cc nL cells slots A L) (a1 : Int32)  (h : w_X7_clear a1 σ K) (hml : Cond.methodLink own idx yX7_clear ∈ wA) (hR : rm_X7_clear.frames + 1 ≤ R.frames ∧ 8 + (3 + 11) + rm_X7_clear.locals ≤ R.locals) (hsum : (st.map fun v => v.category).sum ≤ 8) (d : decode cc pc = .ok (.invokevirtual idx, 3)) (kk : ∀ r σ1, K r σ1 → V p l e R s m args below meth c nL cells slots Q A L σ1 (pc + 3) lv (.int r :: st)) : V p l e R s m args below meth c nL cells slots Q A L σ pc lv (.int a1 :: .ref (lad L 306) :: st) := v_callVi C [.int a1] (fun sz => c_X7_clear l L a1 σ _  h sz) mC_X7_clear mZ_X7 hd_X7_clear mI_X7_clear mS_X7_clear rfl rfl (c0 := 7) (ci := 7) (by decide) rfl rfl rfl kdn_306 hml hR rfl hsum d kk
-- ===== RX7.type
abbrev rm_X7_type : Room := { frames := 0, cells := 0, slots := 0, locals := 0 }
def w_X7_type (a1 : Int32) (σ : Mem) (K : Int32 → Mem → Prop) : Prop := (br ((σ 306 5) = 60) (K (-3) σ) (vp_in (σ 306 5) 60 ∧ ∀ σ2 : Mem, σ2 = mu σ 310 (ix (σ 306 5)) (vp_nar .char a1) → (∀ σ3 : Mem, σ3 = mu σ2 306 5 ((σ2 306 5) + 1) → (K (σ3 306 5) σ3))))
set_option maxHeartbeats 4000000 in
set_option maxRecDepth 100000 in
theorem c_X7_type (l : Launch) (L : Ly) (a1 : Int32) (σ : Mem) (K : Int32 → Mem → Prop)  (h : w_X7_type a1 σ K) (sz : Nat) : Met l yX7_type (.code yX7_type cX7_type 2 (some .int) :: wA) rm_X7_type (va_Pc [.ref (lad L 306), .int a1] (mB L sz σ)) (va_Qi K (mE L) (mA L sz)) 0 0 (mA L sz) := by
  refine v_start (own := RX7) [(0, .ref (lad L 306)), (1, .int a1)] (by decide) rfl (Nat.le_of_ble_eq_true rfl) rfl (fun p e s m args below meth c C hret hlk => ?_)
  unfold w_X7_type at h
  refine v_aload_n C dX7_type_0 rfl 0 rfl ?_
  refine g_7_typed C kdn_306 mF_X7_103 dX7_type_1 ?_
  refine v_bipush C (v := 60) dX7_type_4 rfl ?_
  refine v_icmp_ne C (tgt := 12) dX7_type_6 (by decide) (fun hc => ?_) (fun hc => ?_)
  · replace h := h.2 hc
    refine v_aload_n C dX7_type_12 rfl 0 rfl ?_
    refine g_7_text C kdn_306 mF_X7_19 dX7_type_13 ?_
    refine v_aload_n C dX7_type_16 rfl 0 rfl ?_
    refine g_7_typed C kdn_306 mF_X7_103 dX7_type_17 ?_
    refine v_iload_n C dX7_type_20 rfl 1 rfl ?_
    obtain ⟨hi1, h⟩ := h
    refine v_cast C (c0 := 23) (by decide) (fun _ => rfl) kdn_310 hi1 dX7_type_21 (fun σ2 eσ2 => ?_)
    replace h := h σ2 eσ2
    refine v_aload_n C dX7_type_22 rfl 0 rfl ?_
    refine v_dup C dX7_type_23 rfl ?_
    refine g_7_typed C kdn_306 mF_X7_103 dX7_type_24 ?_
    refine v_iconst C (v := 1) dX7_type_27 rfl ?_
    refine v_iadd C dX7_type_28 ?_
    refine p_7_typed C kdn_306 mF_X7_103 dX7_type_29 (fun σ3 eσ3 => ?_)
    replace h := h σ3 eσ3
    refine v_aload_n C dX7_type_32 rfl 0 rfl ?_
    refine g_7_typed C kdn_306 mF_X7_103 dX7_type_33 ?_
    exact v_iret C dX7_type_36 hret hlk h
  · replace h := h.1 hc
    refine v_bipush C (v := (-3)) dX7_type_9 rfl ?_
    exact v_iret C dX7_type_11 hret hlk h
theorem hd_X7_type : yX7_type.cls ≠ "java/lang/invoke/MethodHandle" ∧ yX7_type.cls ≠ "java/lang/invoke/VarHandle" ∧ (parseMethodDescriptor yX7_type.desc).map (fun d => d.parameters.length) = some 1 := by decide +kernel
theorem k_X7_type {p : Program} {l : Launch} {e : Env} {R : Room} {s : State} {m : MethodId} {args : Array Value} {below : List Frame} {meth : Method} {c : Code} {nL cells slots : Nat} {Q : State → Prop} {A : Nat → Prop} {L : Ly} {own : String} {cc : ByteArray} {σ : Mem} {pc idx : Nat} {lv : List (Nat × Value)} {st : List Value} {K : Int32 → Mem → Prop} (C : Cx p R s m args meth c own cc nL cells slots A L) (a1 : Int32)  (h : w_X7_type a1 σ K) (hml : Cond.methodLink own idx yX7_type ∈ wA) (hR : rm_X7_type.frames + 1 ≤ R.frames ∧ 8 + (2 + 11) + rm_X7_type.locals ≤ R.locals) (hsum : (st.map fun v => v.category).sum ≤ 8) (d : decode cc pc = .ok (.invokevirtual idx, 3)) (kk : ∀ r σ1, K r σ1 → V p l e R s m args below meth c nL cells slots Q A L σ1 (pc + 3) lv (.int r :: st)) : V p l e R s m args below meth c nL cells slots Q A L σ pc lv (.int a1 :: .ref (lad L 306) :: st) := v_callVi C [.int a1] (fun sz => c_X7_type l L a1 σ _  h sz) mC_X7_type mZ_X7 hd_X7_type mI_X7_type mS_X7_type rfl rfl (c0 := 7) (ci := 7) (by decide) rfl rfl rfl kdn_306 hml hR rfl hsum d kk
-- ===== RX7.clearText
abbrev rm_X7_clearText : Room := { frames := 0, cells := 0, slots := 0, locals := 0 }
def w_X7_clearText  (σ : Mem) (K : Int32 → Mem → Prop) : Prop := (∀ v1 : Int32, v1 = (σ 306 5) → (∀ σ2 : Mem, σ2 = mu σ 306 5 0 → (K v1 σ2)))
set_option maxHeartbeats 4000000 in
set_option maxRecDepth 100000 in
theorem c_X7_clearText (l : Launch) (L : Ly)  (σ : Mem) (K : Int32 → Mem → Prop)  (h : w_X7_clearText  σ K) (sz : Nat) : Met l yX7_clearText (.code yX7_clearText cX7_clearText 2 (some .int) :: wA) rm_X7_clearText (va_Pc [.ref (lad L 306)] (mB L sz σ)) (va_Qi K (mE L) (mA L sz)) 0 0 (mA L sz) := by
  refine v_start (own := RX7) [(0, .ref (lad L 306))] (by decide) rfl (Nat.le_of_ble_eq_true rfl) rfl (fun p e s m args below meth c C hret hlk => ?_)
  unfold w_X7_clearText at h
  refine v_aload_n C dX7_clearText_0 rfl 0 rfl ?_
  refine g_7_typed C kdn_306 mF_X7_103 dX7_clearText_1 ?_
  refine v_nm (fun v1 ev1 => ?_)
  replace h := h v1 ev1
  refine v_istore_n C [(1, .int v1), (0, .ref (lad L 306))] dX7_clearText_4 rfl (by decide) rfl ?_
  refine v_aload_n C dX7_clearText_5 rfl 1 rfl ?_
  refine v_iconst C (v := 0) dX7_clearText_6 rfl ?_
  refine p_7_typed C kdn_306 mF_X7_103 dX7_clearText_7 (fun σ2 eσ2 => ?_)
  replace h := h σ2 eσ2
  refine v_iload_n C dX7_clearText_10 rfl 0 rfl ?_
  exact v_iret C dX7_clearText_11 hret hlk h
theorem hd_X7_clearText : yX7_clearText.cls ≠ "java/lang/invoke/MethodHandle" ∧ yX7_clearText.cls ≠ "java/lang/invoke/VarHandle" ∧ (parseMethodDescriptor yX7_clearText.desc).map (fun d => d.parameters.length) = some 0 := by decide +kernel
theorem k_X7_clearText {p : Program} {l : Launch} {e : Env} {R : Room} {s : State} {m : MethodId} {args : Array Value} {below : List Frame} {meth : Method} {c : Code} {nL cells slots : Nat} {Q : State → Prop} {A : Nat → Prop} {L : Ly} {own : String} {cc : ByteArray} {σ : Mem} {pc idx : Nat} {lv : List (Nat × Value)} {st : List Value} {K : Int32 → Mem → Prop} (C : Cx p R s m args meth c own cc nL cells slots A L)   (h : w_X7_clearText  σ K) (hml : Cond.methodLink own idx yX7_clearText ∈ wA) (hR : rm_X7_clearText.frames + 1 ≤ R.frames ∧ 8 + (2 + 11) + rm_X7_clearText.locals ≤ R.locals) (hsum : (st.map fun v => v.category).sum ≤ 8) (d : decode cc pc = .ok (.invokevirtual idx, 3)) (kk : ∀ r σ1, K r σ1 → V p l e R s m args below meth c nL cells slots Q A L σ1 (pc + 3) lv (.int r :: st)) : V p l e R s m args below meth c nL cells slots Q A L σ pc lv (.ref (lad L 306) :: st) := v_callVi C [] (fun sz => c_X7_clearText l L  σ _  h sz) mC_X7_clearText mZ_X7 hd_X7_clearText mI_X7_clearText mS_X7_clearText rfl rfl (c0 := 7) (ci := 7) (by decide) rfl rfl rfl kdn_306 hml hR rfl hsum d kk
-- ===== RX7.isBetween
abbrev rm_X7_isBetween : Room := { frames := 1, cells := 0, slots := 0, locals := 22 }
def w_X7_isBetween (a1 : Int32) (a2 : Int32) (σ : Mem) (K : Int32 → Mem → Prop) : Prop := (br ((σ 306 5) ≤ (σ 306 7)) (K 0 σ) (vp_in (σ 306 7) 60 ∧ (w_X7_in (σ 310 (ix (σ 306 7))) a1 a2 σ (fun r3 σ2 => (br (r3 = 0) (K 0 σ2) (K 1 σ2))))))
set_option maxHeartbeats 4000000 in
set_option maxRecDepth 100000 in
theorem c_X7_isBetween (l : Launch) (L : Ly) (a1 : Int32) (a2 : Int32) (σ : Mem) (K : Int32 → Mem → Prop)  (h : w_X7_isBetween a1 a2 σ K) (sz : Nat) : Met l yX7_isBetween (.code yX7_isBetween cX7_isBetween 3 (some .boolean) :: wA) rm_X7_isBetween (va_Pc [.ref (lad L 306), .int a1, .int a2] (mB L sz σ)) (va_Qi K (mE L) (mA L sz)) 0 0 (mA L sz) := by
  refine v_start (own := RX7) [(0, .ref (lad L 306)), (1, .int a1), (2, .int a2)] (by decide) rfl (Nat.le_of_ble_eq_true rfl) rfl (fun p e s m args below meth c C hret hlk => ?_)
  unfold w_X7_isBetween at h
  refine v_aload_n C dX7_isBetween_0 rfl 0 rfl ?_
  refine g_7_at C kdn_306 mF_X7_106 dX7_isBetween_1 ?_
  refine v_aload_n C dX7_isBetween_4 rfl 0 rfl ?_
  refine g_7_typed C kdn_306 mF_X7_103 dX7_isBetween_5 ?_
  refine v_icmp_ge C (tgt := 32) dX7_isBetween_8 (by decide) (fun hc => ?_) (fun hc => ?_)
  · replace h := h.1 hc
    refine v_iconst C (v := 0) dX7_isBetween_32 rfl ?_
    exact v_zret C dX7_isBetween_33 hret hlk rfl h
  · replace h := h.2 hc
    refine v_aload_n C dX7_isBetween_11 rfl 0 rfl ?_
    refine g_7_text C kdn_306 mF_X7_19 dX7_isBetween_12 ?_
    refine v_aload_n C dX7_isBetween_15 rfl 0 rfl ?_
    refine g_7_at C kdn_306 mF_X7_106 dX7_isBetween_16 ?_
    obtain ⟨hi1, h⟩ := h
    refine v_cald C (c0 := 23) (by decide) rfl kdn_310 hi1 dX7_isBetween_19 ?_
    refine v_iload_n C dX7_isBetween_20 rfl 1 rfl ?_
    refine v_iload_n C dX7_isBetween_21 rfl 2 rfl ?_
    refine k_X7_in C (σ 310 (ix (σ 306 7))) a1 a2  h mM_X7_35 ⟨Nat.le_of_ble_eq_true rfl, Nat.le_of_ble_eq_true rfl⟩ (Nat.le_of_ble_eq_true rfl) dX7_isBetween_22 (fun r3 σ2 h => ?_)
    refine v_if_eq C (tgt := 32) dX7_isBetween_25 (by decide) (fun hc => ?_) (fun hc => ?_)
    · replace h := h.1 hc
      refine v_iconst C (v := 0) dX7_isBetween_32 rfl ?_
      exact v_zret C dX7_isBetween_33 hret hlk rfl h
    · replace h := h.2 hc
      refine v_iconst C (v := 1) dX7_isBetween_28 rfl ?_
      refine v_goto C (tgt := 33) dX7_isBetween_29 (by decide) ?_
      exact v_zret C dX7_isBetween_33 hret hlk rfl h
theorem hd_X7_isBetween : yX7_isBetween.cls ≠ "java/lang/invoke/MethodHandle" ∧ yX7_isBetween.cls ≠ "java/lang/invoke/VarHandle" ∧ (parseMethodDescriptor yX7_isBetween.desc).map (fun d => d.parameters.length) = some 2 := by decide +kernel
theorem k_X7_isBetween {p : Program} {l : Launch} {e : Env} {R : Room} {s : State} {m : MethodId} {args : Array Value} {below : List Frame} {meth : Method} {c : Code} {nL cells slots : Nat} {Q : State → Prop} {A : Nat → Prop} {L : Ly} {own : String} {cc : ByteArray} {σ : Mem} {pc idx : Nat} {lv : List (Nat × Value)} {st : List Value} {K : Int32 → Mem → Prop} (C : Cx p R s m args meth c own cc nL cells slots A L) (a1 : Int32) (a2 : Int32)  (h : w_X7_isBetween a1 a2 σ K) (hml : Cond.methodLink own idx yX7_isBetween ∈ wA) (hR : rm_X7_isBetween.frames + 1 ≤ R.frames ∧ 8 + (3 + 11) + rm_X7_isBetween.locals ≤ R.locals) (hsum : (st.map fun v => v.category).sum ≤ 8) (d : decode cc pc = .ok (.invokevirtual idx, 3)) (kk : ∀ r σ1, K r σ1 → V p l e R s m args below meth c nL cells slots Q A L σ1 (pc + 3) lv (.int r :: st)) : V p l e R s m args below meth c nL cells slots Q A L σ pc lv (.int a2 :: .int a1 :: .ref (lad L 306) :: st) := v_callVi C [.int a1, .int a2] (fun sz => c_X7_isBetween l L a1 a2 σ _  h sz) mC_X7_isBetween mZ_X7 hd_X7_isBetween mI_X7_isBetween mS_X7_isBetween rfl rfl (c0 := 7) (ci := 7) (by decide) rfl rfl rfl kdn_306 hml hR rfl hsum d kk
-- ===== RX7.takes
abbrev rm_X7_takes : Room := { frames := 2, cells := 0, slots := 0, locals := 44 }
def w_X7_takes (a1 : Int32) (σ : Mem) (K : Int32 → Mem → Prop) : Prop := (w_X7_isBetween a1 a1 σ (fun r2 σ1 => (br (r2 = 0) (∀ σ3 : Mem, σ3 = mu σ1 306 7 ((σ1 306 7) + 0) → (narrow .boolean (.int r2) = .int r2 ∧ K r2 σ3)) (∀ σ4 : Mem, σ4 = mu σ1 306 7 ((σ1 306 7) + 1) → (narrow .boolean (.int r2) = .int r2 ∧ K r2 σ4)))))
set_option maxHeartbeats 4000000 in
set_option maxRecDepth 100000 in
theorem c_X7_takes (l : Launch) (L : Ly) (a1 : Int32) (σ : Mem) (K : Int32 → Mem → Prop)  (h : w_X7_takes a1 σ K) (sz : Nat) : Met l yX7_takes (.code yX7_takes cX7_takes 3 (some .boolean) :: wA) rm_X7_takes (va_Pc [.ref (lad L 306), .int a1] (mB L sz σ)) (va_Qi K (mE L) (mA L sz)) 0 0 (mA L sz) := by
  refine v_start (own := RX7) [(0, .ref (lad L 306)), (1, .int a1)] (by decide) rfl (Nat.le_of_ble_eq_true rfl) rfl (fun p e s m args below meth c C hret hlk => ?_)
  unfold w_X7_takes at h
  refine v_aload_n C dX7_takes_0 rfl 0 rfl ?_
  refine v_iload_n C dX7_takes_1 rfl 1 rfl ?_
  refine v_iload_n C dX7_takes_2 rfl 1 rfl ?_
  refine k_X7_isBetween C a1 a1  h mM_X7_109 ⟨Nat.le_of_ble_eq_true rfl, Nat.le_of_ble_eq_true rfl⟩ (Nat.le_of_ble_eq_true rfl) dX7_takes_3 (fun r2 σ1 h => ?_)
  refine v_istore_n C [(2, .int r2), (0, .ref (lad L 306)), (1, .int a1)] dX7_takes_6 rfl (by decide) rfl ?_
  refine v_aload_n C dX7_takes_7 rfl 1 rfl ?_
  refine v_dup C dX7_takes_8 rfl ?_
  refine g_7_at C kdn_306 mF_X7_106 dX7_takes_9 ?_
  refine v_iload_n C dX7_takes_12 rfl 0 rfl ?_
  refine v_if_eq C (tgt := 20) dX7_takes_13 (by decide) (fun hc => ?_) (fun hc => ?_)
  · replace h := h.1 hc
    refine v_iconst C (v := 0) dX7_takes_20 rfl ?_
    refine v_iadd C dX7_takes_21 ?_
    refine p_7_at C kdn_306 mF_X7_106 dX7_takes_22 (fun σ3 eσ3 => ?_)
    replace h := h σ3 eσ3
    refine v_iload_n C dX7_takes_25 rfl 0 rfl ?_
    exact v_zret C dX7_takes_26 hret hlk h.1 h.2
  · replace h := h.2 hc
    refine v_iconst C (v := 1) dX7_takes_16 rfl ?_
    refine v_goto C (tgt := 21) dX7_takes_17 (by decide) ?_
    refine v_iadd C dX7_takes_21 ?_
    refine p_7_at C kdn_306 mF_X7_106 dX7_takes_22 (fun σ4 eσ4 => ?_)
    replace h := h σ4 eσ4
    refine v_iload_n C dX7_takes_25 rfl 0 rfl ?_
    exact v_zret C dX7_takes_26 hret hlk h.1 h.2
theorem hd_X7_takes : yX7_takes.cls ≠ "java/lang/invoke/MethodHandle" ∧ yX7_takes.cls ≠ "java/lang/invoke/VarHandle" ∧ (parseMethodDescriptor yX7_takes.desc).map (fun d => d.parameters.length) = some 1 := by decide +kernel
theorem k_X7_takes {p : Program} {l : Launch} {e : Env} {R : Room} {s : State} {m : MethodId} {args : Array Value} {below : List Frame} {meth : Method} {c : Code} {nL cells slots : Nat} {Q : State → Prop} {A : Nat → Prop} {L : Ly} {own : String} {cc : ByteArray} {σ : Mem} {pc idx : Nat} {lv : List (Nat × Value)} {st : List Value} {K : Int32 → Mem → Prop} (C : Cx p R s m args meth c own cc nL cells slots A L) (a1 : Int32)  (h : w_X7_takes a1 σ K) (hml : Cond.methodLink own idx yX7_takes ∈ wA) (hR : rm_X7_takes.frames + 1 ≤ R.frames ∧ 8 + (3 + 11) + rm_X7_takes.locals ≤ R.locals) (hsum : (st.map fun v => v.category).sum ≤ 8) (d : decode cc pc = .ok (.invokevirtual idx, 3)) (kk : ∀ r σ1, K r σ1 → V p l e R s m args below meth c nL cells slots Q A L σ1 (pc + 3) lv (.int r :: st)) : V p l e R s m args below meth c nL cells slots Q A L σ pc lv (.int a1 :: .ref (lad L 306) :: st) := v_callVi C [.int a1] (fun sz => c_X7_takes l L a1 σ _  h sz) mC_X7_takes mZ_X7 hd_X7_takes mI_X7_takes mS_X7_takes rfl rfl (c0 := 7) (ci := 7) (by decide) rfl rfl rfl kdn_306 hml hR rfl hsum d kk
-- ===== RX7.takesArrival
abbrev rm_X7_takesArrival : Room := { frames := 2, cells := 0, slots := 0, locals := 44 }
def w_X7_takesArrival  (σ : Mem) (K : Int32 → Mem → Prop) : Prop := (w_X7_isBetween 97 122 σ (fun r2 σ1 => (br (r2 = 0) (K 0 σ1) (vp_in (σ1 306 7) 60 ∧ (∀ σ4 : Mem, σ4 = mu σ1 306 8 ((σ1 310 (ix (σ1 306 7))) - 97) → (∀ σ5 : Mem, σ5 = mu σ4 306 7 ((σ4 306 7) + 1) → (∀ σ6 : Mem, σ6 = mu σ5 306 9 1 → (w_X7_isBetween 49 57 σ6 (fun r8 σ7 => (br (r8 = 0) (K 1 σ7) (vp_in (σ7 306 7) 60 ∧ (∀ σ10 : Mem, σ10 = mu σ7 306 9 ((σ7 310 (ix (σ7 306 7))) - 48) → (∀ σ11 : Mem, σ11 = mu σ10 306 7 ((σ10 306 7) + 1) → (w_X7_isBetween 48 57 σ11 (fun r13 σ12 => (br (r13 = 0) (K 1 σ12) (vp_in (σ12 306 7) 60 ∧ (∀ σ15 : Mem, σ15 = mu σ12 306 9 (((10 * (σ12 306 9)) + (σ12 310 (ix (σ12 306 7)))) - 48) → (∀ σ16 : Mem, σ16 = mu σ15 306 7 ((σ15 306 7) + 1) → (K 1 σ16))))))))))))))))))))
set_option maxHeartbeats 4000000 in
set_option maxRecDepth 100000 in
theorem c_X7_takesArrival (l : Launch) (L : Ly)  (σ : Mem) (K : Int32 → Mem → Prop)  (h : w_X7_takesArrival  σ K) (sz : Nat) : Met l yX7_takesArrival (.code yX7_takesArrival cX7_takesArrival 1 (some .boolean) :: wA) rm_X7_takesArrival (va_Pc [.ref (lad L 306)] (mB L sz σ)) (va_Qi K (mE L) (mA L sz)) 0 0 (mA L sz) := by
  refine v_start (own := RX7) [(0, .ref (lad L 306))] (by decide) rfl (Nat.le_of_ble_eq_true rfl) rfl (fun p e s m args below meth c C hret hlk => ?_)
  unfold w_X7_takesArrival at h
  refine v_aload_n C dX7_takesArrival_0 rfl 0 rfl ?_
  refine v_bipush C (v := 97) dX7_takesArrival_1 rfl ?_
  refine v_bipush C (v := 122) dX7_takesArrival_3 rfl ?_
  refine k_X7_isBetween C 97 122  h mM_X7_109 ⟨Nat.le_of_ble_eq_true rfl, Nat.le_of_ble_eq_true rfl⟩ (Nat.le_of_ble_eq_true rfl) dX7_takesArrival_5 (fun r2 σ1 h => ?_)
  refine v_if_ne C (tgt := 13) dX7_takesArrival_8 (by decide) (fun hc => ?_) (fun hc => ?_)
  · replace h := h.2 hc
    refine v_aload_n C dX7_takesArrival_13 rfl 0 rfl ?_
    refine v_aload_n C dX7_takesArrival_14 rfl 0 rfl ?_
    refine g_7_text C kdn_306 mF_X7_19 dX7_takesArrival_15 ?_
    refine v_aload_n C dX7_takesArrival_18 rfl 0 rfl ?_
    refine g_7_at C kdn_306 mF_X7_106 dX7_takesArrival_19 ?_
    obtain ⟨hi3, h⟩ := h
    refine v_cald C (c0 := 23) (by decide) rfl kdn_310 hi3 dX7_takesArrival_22 ?_
    refine v_bipush C (v := 97) dX7_takesArrival_23 rfl ?_
    refine v_isub C dX7_takesArrival_25 ?_
    refine p_7_letter C kdn_306 mF_X7_112 dX7_takesArrival_26 (fun σ4 eσ4 => ?_)
    replace h := h σ4 eσ4
    refine v_aload_n C dX7_takesArrival_29 rfl 0 rfl ?_
    refine v_dup C dX7_takesArrival_30 rfl ?_
    refine g_7_at C kdn_306 mF_X7_106 dX7_takesArrival_31 ?_
    refine v_iconst C (v := 1) dX7_takesArrival_34 rfl ?_
    refine v_iadd C dX7_takesArrival_35 ?_
    refine p_7_at C kdn_306 mF_X7_106 dX7_takesArrival_36 (fun σ5 eσ5 => ?_)
    replace h := h σ5 eσ5
    refine v_aload_n C dX7_takesArrival_39 rfl 0 rfl ?_
    refine v_iconst C (v := 1) dX7_takesArrival_40 rfl ?_
    refine p_7_number C kdn_306 mF_X7_115 dX7_takesArrival_41 (fun σ6 eσ6 => ?_)
    replace h := h σ6 eσ6
    refine v_aload_n C dX7_takesArrival_44 rfl 0 rfl ?_
    refine v_bipush C (v := 49) dX7_takesArrival_45 rfl ?_
    refine v_bipush C (v := 57) dX7_takesArrival_47 rfl ?_
    refine k_X7_isBetween C 49 57  h mM_X7_109 ⟨Nat.le_of_ble_eq_true rfl, Nat.le_of_ble_eq_true rfl⟩ (Nat.le_of_ble_eq_true rfl) dX7_takesArrival_49 (fun r8 σ7 h => ?_)
    refine v_if_eq C (tgt := 126) dX7_takesArrival_52 (by decide) (fun hc => ?_) (fun hc => ?_)
    · replace h := h.1 hc
      refine v_iconst C (v := 1) dX7_takesArrival_126 rfl ?_
      exact v_zret C dX7_takesArrival_127 hret hlk rfl h
    · replace h := h.2 hc
      refine v_aload_n C dX7_takesArrival_55 rfl 0 rfl ?_
      refine v_aload_n C dX7_takesArrival_56 rfl 0 rfl ?_
      refine g_7_text C kdn_306 mF_X7_19 dX7_takesArrival_57 ?_
      refine v_aload_n C dX7_takesArrival_60 rfl 0 rfl ?_
      refine g_7_at C kdn_306 mF_X7_106 dX7_takesArrival_61 ?_
      obtain ⟨hi9, h⟩ := h
      refine v_cald C (c0 := 23) (by decide) rfl kdn_310 hi9 dX7_takesArrival_64 ?_
      refine v_bipush C (v := 48) dX7_takesArrival_65 rfl ?_
      refine v_isub C dX7_takesArrival_67 ?_
      refine p_7_number C kdn_306 mF_X7_115 dX7_takesArrival_68 (fun σ10 eσ10 => ?_)
      replace h := h σ10 eσ10
      refine v_aload_n C dX7_takesArrival_71 rfl 0 rfl ?_
      refine v_dup C dX7_takesArrival_72 rfl ?_
      refine g_7_at C kdn_306 mF_X7_106 dX7_takesArrival_73 ?_
      refine v_iconst C (v := 1) dX7_takesArrival_76 rfl ?_
      refine v_iadd C dX7_takesArrival_77 ?_
      refine p_7_at C kdn_306 mF_X7_106 dX7_takesArrival_78 (fun σ11 eσ11 => ?_)
      replace h := h σ11 eσ11
      refine v_aload_n C dX7_takesArrival_81 rfl 0 rfl ?_
      refine v_bipush C (v := 48) dX7_takesArrival_82 rfl ?_
      refine v_bipush C (v := 57) dX7_takesArrival_84 rfl ?_
      refine k_X7_isBetween C 48 57  h mM_X7_109 ⟨Nat.le_of_ble_eq_true rfl, Nat.le_of_ble_eq_true rfl⟩ (Nat.le_of_ble_eq_true rfl) dX7_takesArrival_86 (fun r13 σ12 h => ?_)
      refine v_if_eq C (tgt := 126) dX7_takesArrival_89 (by decide) (fun hc => ?_) (fun hc => ?_)
      · replace h := h.1 hc
        refine v_iconst C (v := 1) dX7_takesArrival_126 rfl ?_
        exact v_zret C dX7_takesArrival_127 hret hlk rfl h
      · replace h := h.2 hc
        refine v_aload_n C dX7_takesArrival_92 rfl 0 rfl ?_
        refine v_bipush C (v := 10) dX7_takesArrival_93 rfl ?_
        refine v_aload_n C dX7_takesArrival_95 rfl 0 rfl ?_
        refine g_7_number C kdn_306 mF_X7_115 dX7_takesArrival_96 ?_
        refine v_imul C dX7_takesArrival_99 ?_
        refine v_aload_n C dX7_takesArrival_100 rfl 0 rfl ?_
        refine g_7_text C kdn_306 mF_X7_19 dX7_takesArrival_101 ?_
        refine v_aload_n C dX7_takesArrival_104 rfl 0 rfl ?_
        refine g_7_at C kdn_306 mF_X7_106 dX7_takesArrival_105 ?_
        obtain ⟨hi14, h⟩ := h
        refine v_cald C (c0 := 23) (by decide) rfl kdn_310 hi14 dX7_takesArrival_108 ?_
        refine v_iadd C dX7_takesArrival_109 ?_
        refine v_bipush C (v := 48) dX7_takesArrival_110 rfl ?_
        refine v_isub C dX7_takesArrival_112 ?_
        refine p_7_number C kdn_306 mF_X7_115 dX7_takesArrival_113 (fun σ15 eσ15 => ?_)
        replace h := h σ15 eσ15
        refine v_aload_n C dX7_takesArrival_116 rfl 0 rfl ?_
        refine v_dup C dX7_takesArrival_117 rfl ?_
        refine g_7_at C kdn_306 mF_X7_106 dX7_takesArrival_118 ?_
        refine v_iconst C (v := 1) dX7_takesArrival_121 rfl ?_
        refine v_iadd C dX7_takesArrival_122 ?_
        refine p_7_at C kdn_306 mF_X7_106 dX7_takesArrival_123 (fun σ16 eσ16 => ?_)
        replace h := h σ16 eσ16
        refine v_iconst C (v := 1) dX7_takesArrival_126 rfl ?_
        exact v_zret C dX7_takesArrival_127 hret hlk rfl h
  · replace h := h.1 hc
    refine v_iconst C (v := 0) dX7_takesArrival_11 rfl ?_
    exact v_zret C dX7_takesArrival_12 hret hlk rfl h
theorem hd_X7_takesArrival : yX7_takesArrival.cls ≠ "java/lang/invoke/MethodHandle" ∧ yX7_takesArrival.cls ≠ "java/lang/invoke/VarHandle" ∧ (parseMethodDescriptor yX7_takesArrival.desc).map (fun d => d.parameters.length) = some 0 := by decide +kernel
theorem k_X7_takesArrival {p : Program} {l : Launch} {e : Env} {R : Room} {s : State} {m : MethodId} {args : Array Value} {below : List Frame} {meth : Method} {c : Code} {nL cells slots : Nat} {Q : State → Prop} {A : Nat → Prop} {L : Ly} {own : String} {cc : ByteArray} {σ : Mem} {pc idx : Nat} {lv : List (Nat × Value)} {st : List Value} {K : Int32 → Mem → Prop} (C : Cx p R s m args meth c own cc nL cells slots A L)   (h : w_X7_takesArrival  σ K) (hml : Cond.methodLink own idx yX7_takesArrival ∈ wA) (hR : rm_X7_takesArrival.frames + 1 ≤ R.frames ∧ 8 + (1 + 11) + rm_X7_takesArrival.locals ≤ R.locals) (hsum : (st.map fun v => v.category).sum ≤ 8) (d : decode cc pc = .ok (.invokevirtual idx, 3)) (kk : ∀ r σ1, K r σ1 → V p l e R s m args below meth c nL cells slots Q A L σ1 (pc + 3) lv (.int r :: st)) : V p l e R s m args below meth c nL cells slots Q A L σ pc lv (.ref (lad L 306) :: st) := v_callVi C [] (fun sz => c_X7_takesArrival l L  σ _  h sz) mC_X7_takesArrival mZ_X7 hd_X7_takesArrival mI_X7_takesArrival mS_X7_takesArrival rfl rfl (c0 := 7) (ci := 7) (by decide) rfl rfl rfl kdn_306 hml hR rfl hsum d kk
-- ===== RX7.arrivals
abbrev rm_X7_arrivals : Room := { frames := 3, cells := 0, slots := 0, locals := 66 }
def w_X7_arrivals_14  (K : Int32 → Mem → Prop)  : Nat → Int32 → Int32 → Mem → Prop
  | 0, _, _, _ => False
  | n + 1, x1, x2, σ => (br (x2 = 0) (K x1 σ) (w_X7_takesArrival  σ (fun r4 σ3 => (br (r4 = 0) (K (-5) σ3) (∀ σ5 : Mem, σ5 = mu σ3 306 10 ((σ3 306 10) + (σ3 306 9)) → (br ((σ5 306 5) ≤ (σ5 306 7)) (w_X7_arrivals_14  K  n (x1 + 1) 0 σ5) (w_X7_takes 44 σ5 (fun r7 σ6 => (br (r7 = 0) (K (-5) σ6) (w_X7_arrivals_14  K  n (x1 + 1) 1 σ6))))))))))
set_option maxHeartbeats 4000000 in
set_option maxRecDepth 100000 in
theorem b_X7_arrivals_14 {p : Program} {l : Launch} {e : Env} {s : State} {m : MethodId} {args : Array Value} {below : List Frame} {meth : Method} {c : Code} {L : Ly} {sz : Nat} (C : Cx p rm_X7_arrivals s m args meth c RX7 cX7_arrivals 3 0 0 (mA L sz) L) (hret : meth.sig.returnType = (some .int)) (hlk : meth.locks = false)   (K : Int32 → Mem → Prop)  : ∀ (n : Nat) (x1 : Int32) (x2 : Int32) (σ : Mem), w_X7_arrivals_14  K  n x1 x2 σ → V p l e rm_X7_arrivals s m args below meth c 3 0 0 (MQ below (va_Qi K (mE L) (mA L sz)) args s 0 0 (mA L sz)) (mA L sz) L σ 14 [(0, .ref (lad L 306)), (1, .int x1), (2, .int x2)] [] := by
  intro n
  induction n with
  | zero => intro x1 x2 σ  h; exact h.elim
  | succ n ih =>
    intro x1 x2 σ  h
    rw [w_X7_arrivals_14] at h
    refine v_iload_n C dX7_arrivals_14 rfl 2 rfl ?_
    refine v_if_eq C (tgt := 77) dX7_arrivals_15 (by decide) (fun hc => ?_) (fun hc => ?_)
    · replace h := h.1 hc
      refine v_iload_n C dX7_arrivals_77 rfl 1 rfl ?_
      exact v_iret C dX7_arrivals_78 hret hlk h
    · replace h := h.2 hc
      refine v_aload_n C dX7_arrivals_18 rfl 0 rfl ?_
      refine k_X7_takesArrival C   h mM_X7_121 ⟨Nat.le_of_ble_eq_true rfl, Nat.le_of_ble_eq_true rfl⟩ (Nat.le_of_ble_eq_true rfl) dX7_arrivals_19 (fun r4 σ3 h => ?_)
      refine v_if_ne C (tgt := 28) dX7_arrivals_22 (by decide) (fun hc => ?_) (fun hc => ?_)
      · replace h := h.2 hc
        refine v_aload_n C dX7_arrivals_28 rfl 0 rfl ?_
        refine v_dup C dX7_arrivals_29 rfl ?_
        refine g_7_weights C kdn_306 mF_X7_118 dX7_arrivals_30 ?_
        refine v_aload_n C dX7_arrivals_33 rfl 0 rfl ?_
        refine g_7_number C kdn_306 mF_X7_115 dX7_arrivals_34 ?_
        refine v_iadd C dX7_arrivals_37 ?_
        refine p_7_weights C kdn_306 mF_X7_118 dX7_arrivals_38 (fun σ5 eσ5 => ?_)
        replace h := h σ5 eσ5
        refine v_iinc C [(1, .int (x1 + 1)), (0, .ref (lad L 306)), (2, .int x2)] dX7_arrivals_41 1 rfl rfl (by decide) rfl ?_
        refine v_aload_n C dX7_arrivals_44 rfl 1 rfl ?_
        refine g_7_at C kdn_306 mF_X7_106 dX7_arrivals_45 ?_
        refine v_aload_n C dX7_arrivals_48 rfl 1 rfl ?_
        refine g_7_typed C kdn_306 mF_X7_103 dX7_arrivals_49 ?_
        refine v_icmp_ge C (tgt := 59) dX7_arrivals_52 (by decide) (fun hc => ?_) (fun hc => ?_)
        · replace h := h.1 hc
          refine v_iconst C (v := 0) dX7_arrivals_59 rfl ?_
          refine v_istore_n C [(2, .int 0), (1, .int (x1 + 1)), (0, .ref (lad L 306))] dX7_arrivals_60 rfl (by decide) rfl ?_
          refine v_iload_n C dX7_arrivals_61 rfl 0 rfl ?_
          refine v_if_eq C (tgt := 14) dX7_arrivals_62 (by decide) (fun hc => ?_) (fun hc => ?_)
          · refine v_sub [2, 1, 0] rfl ?_
            exact ih _ _ _  h
          · exact absurd hc (by decide)
        · replace h := h.2 hc
          refine v_iconst C (v := 1) dX7_arrivals_55 rfl ?_
          refine v_goto C (tgt := 60) dX7_arrivals_56 (by decide) ?_
          refine v_istore_n C [(2, .int 1), (1, .int (x1 + 1)), (0, .ref (lad L 306))] dX7_arrivals_60 rfl (by decide) rfl ?_
          refine v_iload_n C dX7_arrivals_61 rfl 0 rfl ?_
          refine v_if_eq C (tgt := 14) dX7_arrivals_62 (by decide) (fun hc => ?_) (fun hc => ?_)
          · exact absurd hc (by decide)
          · refine v_aload_n C dX7_arrivals_65 rfl 2 rfl ?_
            refine v_bipush C (v := 44) dX7_arrivals_66 rfl ?_
            refine k_X7_takes C 44  h mM_X7_125 ⟨Nat.le_of_ble_eq_true rfl, Nat.le_of_ble_eq_true rfl⟩ (Nat.le_of_ble_eq_true rfl) dX7_arrivals_68 (fun r7 σ6 h => ?_)
            refine v_if_ne C (tgt := 14) dX7_arrivals_71 (by decide) (fun hc => ?_) (fun hc => ?_)
            · replace h := h.2 hc
              refine v_sub [2, 1, 0] rfl ?_
              exact ih _ _ _  h
            · replace h := h.1 hc
              refine v_bipush C (v := (-5)) dX7_arrivals_74 rfl ?_
              exact v_iret C dX7_arrivals_76 hret hlk h
      · replace h := h.1 hc
        refine v_bipush C (v := (-5)) dX7_arrivals_25 rfl ?_
        exact v_iret C dX7_arrivals_27 hret hlk h
def w_X7_arrivals  (σ : Mem) (K : Int32 → Mem → Prop) : Prop := (∀ σ1 : Mem, σ1 = mu σ 306 7 0 → (∀ σ2 : Mem, σ2 = mu σ1 306 10 0 → (∃ n8, w_X7_arrivals_14  K  n8 0 1 σ2)))
set_option maxHeartbeats 4000000 in
set_option maxRecDepth 100000 in
theorem c_X7_arrivals (l : Launch) (L : Ly)  (σ : Mem) (K : Int32 → Mem → Prop)  (h : w_X7_arrivals  σ K) (sz : Nat) : Met l yX7_arrivals (.code yX7_arrivals cX7_arrivals 3 (some .int) :: wA) rm_X7_arrivals (va_Pc [.ref (lad L 306)] (mB L sz σ)) (va_Qi K (mE L) (mA L sz)) 0 0 (mA L sz) := by
  refine v_start (own := RX7) [(0, .ref (lad L 306))] (by decide) rfl (Nat.le_of_ble_eq_true rfl) rfl (fun p e s m args below meth c C hret hlk => ?_)
  unfold w_X7_arrivals at h
  refine v_aload_n C dX7_arrivals_0 rfl 0 rfl ?_
  refine v_iconst C (v := 0) dX7_arrivals_1 rfl ?_
  refine p_7_at C kdn_306 mF_X7_106 dX7_arrivals_2 (fun σ1 eσ1 => ?_)
  replace h := h σ1 eσ1
  refine v_aload_n C dX7_arrivals_5 rfl 0 rfl ?_
  refine v_iconst C (v := 0) dX7_arrivals_6 rfl ?_
  refine p_7_weights C kdn_306 mF_X7_118 dX7_arrivals_7 (fun σ2 eσ2 => ?_)
  replace h := h σ2 eσ2
  refine v_iconst C (v := 0) dX7_arrivals_10 rfl ?_
  refine v_istore_n C [(1, .int 0), (0, .ref (lad L 306))] dX7_arrivals_11 rfl (by decide) rfl ?_
  refine v_iconst C (v := 1) dX7_arrivals_12 rfl ?_
  refine v_istore_n C [(2, .int 1), (1, .int 0), (0, .ref (lad L 306))] dX7_arrivals_13 rfl (by decide) rfl ?_
  obtain ⟨n8, h⟩ := h
  refine v_sub [2, 1, 0] rfl ?_
  exact b_X7_arrivals_14 C hret hlk   K   n8 _ _ _  h
theorem hd_X7_arrivals : yX7_arrivals.cls ≠ "java/lang/invoke/MethodHandle" ∧ yX7_arrivals.cls ≠ "java/lang/invoke/VarHandle" ∧ (parseMethodDescriptor yX7_arrivals.desc).map (fun d => d.parameters.length) = some 0 := by decide +kernel
theorem k_X7_arrivals {p : Program} {l : Launch} {e : Env} {R : Room} {s : State} {m : MethodId} {args : Array Value} {below : List Frame} {meth : Method} {c : Code} {nL cells slots : Nat} {Q : State → Prop} {A : Nat → Prop} {L : Ly} {own : String} {cc : ByteArray} {σ : Mem} {pc idx : Nat} {lv : List (Nat × Value)} {st : List Value} {K : Int32 → Mem → Prop} (C : Cx p R s m args meth c own cc nL cells slots A L)   (h : w_X7_arrivals  σ K) (hml : Cond.methodLink own idx yX7_arrivals ∈ wA) (hR : rm_X7_arrivals.frames + 1 ≤ R.frames ∧ 8 + (3 + 11) + rm_X7_arrivals.locals ≤ R.locals) (hsum : (st.map fun v => v.category).sum ≤ 8) (d : decode cc pc = .ok (.invokevirtual idx, 3)) (kk : ∀ r σ1, K r σ1 → V p l e R s m args below meth c nL cells slots Q A L σ1 (pc + 3) lv (.int r :: st)) : V p l e R s m args below meth c nL cells slots Q A L σ pc lv (.ref (lad L 306) :: st) := v_callVi C [] (fun sz => c_X7_arrivals l L  σ _  h sz) mC_X7_arrivals mZ_X7 hd_X7_arrivals mI_X7_arrivals mS_X7_arrivals rfl rfl (c0 := 7) (ci := 7) (by decide) rfl rfl rfl kdn_306 hml hR rfl hsum d kk
-- ===== RX7.feed
abbrev rm_X7_feed : Room := { frames := 6, cells := 0, slots := 0, locals := 134 }
def w_X7_feed_58 (a1 : Int32) (K : Int32 → Mem → Prop)  : Nat → Int32 → Int32 → Mem → Prop
  | 0, _, _, _ => False
  | n + 1, x2, x3, σ => (br (x2 ≤ x3) (K x2 σ) (w_X7_takesArrival  σ (fun r10 σ9 => (∀ σ11 : Mem, σ11 = mu σ9 306 7 ((σ9 306 7) + 1) → (w_X7_comes a1 (σ11 306 8) (σ11 306 9) σ11 (fun σ12 => (w_X7_feed_58 a1 K  n x2 (x3 + 1) σ12)))))))
set_option maxHeartbeats 4000000 in
set_option maxRecDepth 100000 in
theorem b_X7_feed_58 {p : Program} {l : Launch} {e : Env} {s : State} {m : MethodId} {args : Array Value} {below : List Frame} {meth : Method} {c : Code} {L : Ly} {sz : Nat} (C : Cx p rm_X7_feed s m args meth c RX7 cX7_feed 4 0 0 (mA L sz) L) (hret : meth.sig.returnType = (some .int)) (hlk : meth.locks = false) (a1 : Int32)  (K : Int32 → Mem → Prop)  : ∀ (n : Nat) (x2 : Int32) (x3 : Int32) (σ : Mem), w_X7_feed_58 a1 K  n x2 x3 σ → V p l e rm_X7_feed s m args below meth c 4 0 0 (MQ below (va_Qi K (mE L) (mA L sz)) args s 0 0 (mA L sz)) (mA L sz) L σ 58 [(0, .ref (lad L 306)), (1, .int a1), (2, .int x2), (3, .int x3)] [] := by
  intro n
  induction n with
  | zero => intro x2 x3 σ  h; exact h.elim
  | succ n ih =>
    intro x2 x3 σ  h
    rw [w_X7_feed_58] at h
    refine v_iload_n C dX7_feed_58 rfl 3 rfl ?_
    refine v_iload_n C dX7_feed_59 rfl 2 rfl ?_
    refine v_icmp_ge C (tgt := 97) dX7_feed_60 (by decide) (fun hc => ?_) (fun hc => ?_)
    · replace h := h.1 hc
      refine v_iload_n C dX7_feed_97 rfl 2 rfl ?_
      exact v_iret C dX7_feed_98 hret hlk h
    · replace h := h.2 hc
      refine v_aload_n C dX7_feed_63 rfl 0 rfl ?_
      refine k_X7_takesArrival C   h mM_X7_121 ⟨Nat.le_of_ble_eq_true rfl, Nat.le_of_ble_eq_true rfl⟩ (Nat.le_of_ble_eq_true rfl) dX7_feed_64 (fun r10 σ9 h => ?_)
      refine v_pop C dX7_feed_67 rfl ?_
      refine v_aload_n C dX7_feed_68 rfl 0 rfl ?_
      refine v_dup C dX7_feed_69 rfl ?_
      refine g_7_at C kdn_306 mF_X7_106 dX7_feed_70 ?_
      refine v_iconst C (v := 1) dX7_feed_73 rfl ?_
      refine v_iadd C dX7_feed_74 ?_
      refine p_7_at C kdn_306 mF_X7_106 dX7_feed_75 (fun σ11 eσ11 => ?_)
      replace h := h σ11 eσ11
      refine v_aload_n C dX7_feed_78 rfl 0 rfl ?_
      refine v_iload_n C dX7_feed_79 rfl 1 rfl ?_
      refine v_aload_n C dX7_feed_80 rfl 0 rfl ?_
      refine g_7_letter C kdn_306 mF_X7_112 dX7_feed_81 ?_
      refine v_aload_n C dX7_feed_84 rfl 0 rfl ?_
      refine g_7_number C kdn_306 mF_X7_115 dX7_feed_85 ?_
      refine k_X7_comes C a1 (σ11 306 8) (σ11 306 9)  h mM_X7_84 ⟨Nat.le_of_ble_eq_true rfl, Nat.le_of_ble_eq_true rfl⟩ (Nat.le_of_ble_eq_true rfl) dX7_feed_88 (fun σ12 h => ?_)
      refine v_iinc C [(3, .int (x3 + 1)), (0, .ref (lad L 306)), (1, .int a1), (2, .int x2)] dX7_feed_91 3 rfl rfl (by decide) rfl ?_
      refine v_goto C (tgt := 58) dX7_feed_94 (by decide) ?_
      refine v_sub [1, 2, 3, 0] rfl ?_
      exact ih _ _ _  h
def w_X7_feed (a1 : Int32) (σ : Mem) (K : Int32 → Mem → Prop) : Prop := (w_X7_isSummary a1 σ (fun r2 σ1 => (br (r2 = 0) (K (-1) σ1) (w_X7_arrivals  σ1 (fun r4 σ3 => (br (r4 = (-5)) (K ((-100) - (σ3 306 7)) σ3) (w_X7_of a1 2 σ3 (fun r6 σ5 => (br ((r6 + (σ5 306 10)) ≤ 1000000) (w_X7_record  σ5 (fun σ7 => (∀ σ8 : Mem, σ8 = mu σ7 306 7 0 → (∃ n13, w_X7_feed_58 a1 K  n13 r4 0 σ8)))) (K (-3) σ5))))))))))
set_option maxHeartbeats 4000000 in
set_option maxRecDepth 100000 in
theorem c_X7_feed (l : Launch) (L : Ly) (a1 : Int32) (σ : Mem) (K : Int32 → Mem → Prop)  (h : w_X7_feed a1 σ K) (sz : Nat) : Met l yX7_feed (.code yX7_feed cX7_feed 4 (some .int) :: wA) rm_X7_feed (va_Pc [.ref (lad L 306), .int a1] (mB L sz σ)) (va_Qi K (mE L) (mA L sz)) 0 0 (mA L sz) := by
  refine v_start (own := RX7) [(0, .ref (lad L 306)), (1, .int a1)] (by decide) rfl (Nat.le_of_ble_eq_true rfl) rfl (fun p e s m args below meth c C hret hlk => ?_)
  unfold w_X7_feed at h
  refine v_iload_n C dX7_feed_0 rfl 1 rfl ?_
  refine k_X7_isSummary C a1  h mM_X7_72 ⟨Nat.le_of_ble_eq_true rfl, Nat.le_of_ble_eq_true rfl⟩ (Nat.le_of_ble_eq_true rfl) dX7_feed_1 (fun r2 σ1 h => ?_)
  refine v_if_ne C (tgt := 9) dX7_feed_4 (by decide) (fun hc => ?_) (fun hc => ?_)
  · replace h := h.2 hc
    refine v_aload_n C dX7_feed_9 rfl 0 rfl ?_
    refine k_X7_arrivals C   h mM_X7_128 ⟨Nat.le_of_ble_eq_true rfl, Nat.le_of_ble_eq_true rfl⟩ (Nat.le_of_ble_eq_true rfl) dX7_feed_10 (fun r4 σ3 h => ?_)
    refine v_istore_n C [(2, .int r4), (0, .ref (lad L 306)), (1, .int a1)] dX7_feed_13 rfl (by decide) rfl ?_
    refine v_iload_n C dX7_feed_14 rfl 0 rfl ?_
    refine v_bipush C (v := (-5)) dX7_feed_15 rfl ?_
    refine v_icmp_ne C (tgt := 28) dX7_feed_17 (by decide) (fun hc => ?_) (fun hc => ?_)
    · replace h := h.2 hc
      refine v_aload_n C dX7_feed_28 rfl 1 rfl ?_
      refine v_iload_n C dX7_feed_29 rfl 2 rfl ?_
      refine v_iconst C (v := 2) dX7_feed_30 rfl ?_
      refine k_X7_of C a1 2  h mM_X7_47 ⟨Nat.le_of_ble_eq_true rfl, Nat.le_of_ble_eq_true rfl⟩ (Nat.le_of_ble_eq_true rfl) dX7_feed_31 (fun r6 σ5 h => ?_)
      refine v_aload_n C dX7_feed_34 rfl 1 rfl ?_
      refine g_7_weights C kdn_306 mF_X7_118 dX7_feed_35 ?_
      refine v_iadd C dX7_feed_38 ?_
      refine v_ldc C dX7_feed_39 mN_X7_80 ?_
      refine v_icmp_le C (tgt := 47) dX7_feed_41 (by decide) (fun hc => ?_) (fun hc => ?_)
      · replace h := h.1 hc
        refine v_aload_n C dX7_feed_47 rfl 1 rfl ?_
        refine k_X7_record C   h mM_X7_81 ⟨Nat.le_of_ble_eq_true rfl, Nat.le_of_ble_eq_true rfl⟩ (Nat.le_of_ble_eq_true rfl) dX7_feed_48 (fun σ7 h => ?_)
        refine v_aload_n C dX7_feed_51 rfl 1 rfl ?_
        refine v_iconst C (v := 0) dX7_feed_52 rfl ?_
        refine p_7_at C kdn_306 mF_X7_106 dX7_feed_53 (fun σ8 eσ8 => ?_)
        replace h := h σ8 eσ8
        refine v_iconst C (v := 0) dX7_feed_56 rfl ?_
        refine v_istore_n C [(3, .int 0), (2, .int r4), (0, .ref (lad L 306)), (1, .int a1)] dX7_feed_57 rfl (by decide) rfl ?_
        obtain ⟨n13, h⟩ := h
        refine v_sub [2, 3, 1, 0] rfl ?_
        exact b_X7_feed_58 C hret hlk a1  K   n13 _ _ _  h
      · replace h := h.2 hc
        refine v_bipush C (v := (-3)) dX7_feed_44 rfl ?_
        exact v_iret C dX7_feed_46 hret hlk h
    · replace h := h.1 hc
      refine v_bipush C (v := (-100)) dX7_feed_20 rfl ?_
      refine v_aload_n C dX7_feed_22 rfl 1 rfl ?_
      refine g_7_at C kdn_306 mF_X7_106 dX7_feed_23 ?_
      refine v_isub C dX7_feed_26 ?_
      exact v_iret C dX7_feed_27 hret hlk h
  · replace h := h.1 hc
    refine v_iconst C (v := (-1)) dX7_feed_7 rfl ?_
    exact v_iret C dX7_feed_8 hret hlk h
theorem hd_X7_feed : yX7_feed.cls ≠ "java/lang/invoke/MethodHandle" ∧ yX7_feed.cls ≠ "java/lang/invoke/VarHandle" ∧ (parseMethodDescriptor yX7_feed.desc).map (fun d => d.parameters.length) = some 1 := by decide +kernel
theorem k_X7_feed {p : Program} {l : Launch} {e : Env} {R : Room} {s : State} {m : MethodId} {args : Array Value} {below : List Frame} {meth : Method} {c : Code} {nL cells slots : Nat} {Q : State → Prop} {A : Nat → Prop} {L : Ly} {own : String} {cc : ByteArray} {σ : Mem} {pc idx : Nat} {lv : List (Nat × Value)} {st : List Value} {K : Int32 → Mem → Prop} (C : Cx p R s m args meth c own cc nL cells slots A L) (a1 : Int32)  (h : w_X7_feed a1 σ K) (hml : Cond.methodLink own idx yX7_feed ∈ wA) (hR : rm_X7_feed.frames + 1 ≤ R.frames ∧ 8 + (4 + 11) + rm_X7_feed.locals ≤ R.locals) (hsum : (st.map fun v => v.category).sum ≤ 8) (d : decode cc pc = .ok (.invokevirtual idx, 3)) (kk : ∀ r σ1, K r σ1 → V p l e R s m args below meth c nL cells slots Q A L σ1 (pc + 3) lv (.int r :: st)) : V p l e R s m args below meth c nL cells slots Q A L σ pc lv (.int a1 :: .ref (lad L 306) :: st) := v_callVi C [.int a1] (fun sz => c_X7_feed l L a1 σ _  h sz) mC_X7_feed mZ_X7 hd_X7_feed mI_X7_feed mS_X7_feed rfl rfl (c0 := 7) (ci := 7) (by decide) rfl rfl rfl kdn_306 hml hR rfl hsum d kk
-- ===== RX7.flowAll
abbrev rm_X7_flowAll : Room := { frames := 7, cells := 0, slots := 0, locals := 157 }
def w_X7_flowAll_30  (K : Int32 → Mem → Prop)  : Nat → Int32 → Int32 → Mem → Prop
  | 0, _, _, _ => False
  | n + 1, x1, x2, σ => (br (x1 ≤ x2) (K x1 σ) (w_X7_takesArrival  σ (fun r6 σ5 => (∀ σ7 : Mem, σ7 = mu σ5 306 7 ((σ5 306 7) + 1) → (w_X7_flows (σ7 306 8) (σ7 306 9) σ7 (fun σ8 => (w_X7_flowAll_30  K  n x1 (x2 + 1) σ8)))))))
set_option maxHeartbeats 4000000 in
set_option maxRecDepth 100000 in
theorem b_X7_flowAll_30 {p : Program} {l : Launch} {e : Env} {s : State} {m : MethodId} {args : Array Value} {below : List Frame} {meth : Method} {c : Code} {L : Ly} {sz : Nat} (C : Cx p rm_X7_flowAll s m args meth c RX7 cX7_flowAll 3 0 0 (mA L sz) L) (hret : meth.sig.returnType = (some .int)) (hlk : meth.locks = false)   (K : Int32 → Mem → Prop)  : ∀ (n : Nat) (x1 : Int32) (x2 : Int32) (σ : Mem), w_X7_flowAll_30  K  n x1 x2 σ → V p l e rm_X7_flowAll s m args below meth c 3 0 0 (MQ below (va_Qi K (mE L) (mA L sz)) args s 0 0 (mA L sz)) (mA L sz) L σ 30 [(0, .ref (lad L 306)), (1, .int x1), (2, .int x2)] [] := by
  intro n
  induction n with
  | zero => intro x1 x2 σ  h; exact h.elim
  | succ n ih =>
    intro x1 x2 σ  h
    rw [w_X7_flowAll_30] at h
    refine v_iload_n C dX7_flowAll_30 rfl 2 rfl ?_
    refine v_iload_n C dX7_flowAll_31 rfl 1 rfl ?_
    refine v_icmp_ge C (tgt := 68) dX7_flowAll_32 (by decide) (fun hc => ?_) (fun hc => ?_)
    · replace h := h.1 hc
      refine v_iload_n C dX7_flowAll_68 rfl 1 rfl ?_
      exact v_iret C dX7_flowAll_69 hret hlk h
    · replace h := h.2 hc
      refine v_aload_n C dX7_flowAll_35 rfl 0 rfl ?_
      refine k_X7_takesArrival C   h mM_X7_121 ⟨Nat.le_of_ble_eq_true rfl, Nat.le_of_ble_eq_true rfl⟩ (Nat.le_of_ble_eq_true rfl) dX7_flowAll_36 (fun r6 σ5 h => ?_)
      refine v_pop C dX7_flowAll_39 rfl ?_
      refine v_aload_n C dX7_flowAll_40 rfl 0 rfl ?_
      refine v_dup C dX7_flowAll_41 rfl ?_
      refine g_7_at C kdn_306 mF_X7_106 dX7_flowAll_42 ?_
      refine v_iconst C (v := 1) dX7_flowAll_45 rfl ?_
      refine v_iadd C dX7_flowAll_46 ?_
      refine p_7_at C kdn_306 mF_X7_106 dX7_flowAll_47 (fun σ7 eσ7 => ?_)
      replace h := h σ7 eσ7
      refine v_aload_n C dX7_flowAll_50 rfl 0 rfl ?_
      refine v_aload_n C dX7_flowAll_51 rfl 0 rfl ?_
      refine g_7_letter C kdn_306 mF_X7_112 dX7_flowAll_52 ?_
      refine v_aload_n C dX7_flowAll_55 rfl 0 rfl ?_
      refine g_7_number C kdn_306 mF_X7_115 dX7_flowAll_56 ?_
      refine k_X7_flows C (σ7 306 8) (σ7 306 9)  h mM_X7_97 ⟨Nat.le_of_ble_eq_true rfl, Nat.le_of_ble_eq_true rfl⟩ (Nat.le_of_ble_eq_true rfl) dX7_flowAll_59 (fun σ8 h => ?_)
      refine v_iinc C [(2, .int (x2 + 1)), (0, .ref (lad L 306)), (1, .int x1)] dX7_flowAll_62 2 rfl rfl (by decide) rfl ?_
      refine v_goto C (tgt := 30) dX7_flowAll_65 (by decide) ?_
      refine v_sub [1, 2, 0] rfl ?_
      exact ih _ _ _  h
def w_X7_flowAll  (σ : Mem) (K : Int32 → Mem → Prop) : Prop := (w_X7_arrivals  σ (fun r2 σ1 => (br (r2 = (-5)) (K ((-100) - (σ1 306 7)) σ1) (w_X7_record  σ1 (fun σ3 => (∀ σ4 : Mem, σ4 = mu σ3 306 7 0 → (∃ n9, w_X7_flowAll_30  K  n9 r2 0 σ4)))))))
set_option maxHeartbeats 4000000 in
set_option maxRecDepth 100000 in
theorem c_X7_flowAll (l : Launch) (L : Ly)  (σ : Mem) (K : Int32 → Mem → Prop)  (h : w_X7_flowAll  σ K) (sz : Nat) : Met l yX7_flowAll (.code yX7_flowAll cX7_flowAll 3 (some .int) :: wA) rm_X7_flowAll (va_Pc [.ref (lad L 306)] (mB L sz σ)) (va_Qi K (mE L) (mA L sz)) 0 0 (mA L sz) := by
  refine v_start (own := RX7) [(0, .ref (lad L 306))] (by decide) rfl (Nat.le_of_ble_eq_true rfl) rfl (fun p e s m args below meth c C hret hlk => ?_)
  unfold w_X7_flowAll at h
  refine v_aload_n C dX7_flowAll_0 rfl 0 rfl ?_
  refine k_X7_arrivals C   h mM_X7_128 ⟨Nat.le_of_ble_eq_true rfl, Nat.le_of_ble_eq_true rfl⟩ (Nat.le_of_ble_eq_true rfl) dX7_flowAll_1 (fun r2 σ1 h => ?_)
  refine v_istore_n C [(1, .int r2), (0, .ref (lad L 306))] dX7_flowAll_4 rfl (by decide) rfl ?_
  refine v_iload_n C dX7_flowAll_5 rfl 0 rfl ?_
  refine v_bipush C (v := (-5)) dX7_flowAll_6 rfl ?_
  refine v_icmp_ne C (tgt := 19) dX7_flowAll_8 (by decide) (fun hc => ?_) (fun hc => ?_)
  · replace h := h.2 hc
    refine v_aload_n C dX7_flowAll_19 rfl 1 rfl ?_
    refine k_X7_record C   h mM_X7_81 ⟨Nat.le_of_ble_eq_true rfl, Nat.le_of_ble_eq_true rfl⟩ (Nat.le_of_ble_eq_true rfl) dX7_flowAll_20 (fun σ3 h => ?_)
    refine v_aload_n C dX7_flowAll_23 rfl 1 rfl ?_
    refine v_iconst C (v := 0) dX7_flowAll_24 rfl ?_
    refine p_7_at C kdn_306 mF_X7_106 dX7_flowAll_25 (fun σ4 eσ4 => ?_)
    replace h := h σ4 eσ4
    refine v_iconst C (v := 0) dX7_flowAll_28 rfl ?_
    refine v_istore_n C [(2, .int 0), (1, .int r2), (0, .ref (lad L 306))] dX7_flowAll_29 rfl (by decide) rfl ?_
    obtain ⟨n9, h⟩ := h
    refine v_sub [2, 1, 0] rfl ?_
    exact b_X7_flowAll_30 C hret hlk   K   n9 _ _ _  h
  · replace h := h.1 hc
    refine v_bipush C (v := (-100)) dX7_flowAll_11 rfl ?_
    refine v_aload_n C dX7_flowAll_13 rfl 1 rfl ?_
    refine g_7_at C kdn_306 mF_X7_106 dX7_flowAll_14 ?_
    refine v_isub C dX7_flowAll_17 ?_
    exact v_iret C dX7_flowAll_18 hret hlk h
theorem hd_X7_flowAll : yX7_flowAll.cls ≠ "java/lang/invoke/MethodHandle" ∧ yX7_flowAll.cls ≠ "java/lang/invoke/VarHandle" ∧ (parseMethodDescriptor yX7_flowAll.desc).map (fun d => d.parameters.length) = some 0 := by decide +kernel
theorem k_X7_flowAll {p : Program} {l : Launch} {e : Env} {R : Room} {s : State} {m : MethodId} {args : Array Value} {below : List Frame} {meth : Method} {c : Code} {nL cells slots : Nat} {Q : State → Prop} {A : Nat → Prop} {L : Ly} {own : String} {cc : ByteArray} {σ : Mem} {pc idx : Nat} {lv : List (Nat × Value)} {st : List Value} {K : Int32 → Mem → Prop} (C : Cx p R s m args meth c own cc nL cells slots A L)   (h : w_X7_flowAll  σ K) (hml : Cond.methodLink own idx yX7_flowAll ∈ wA) (hR : rm_X7_flowAll.frames + 1 ≤ R.frames ∧ 8 + (3 + 11) + rm_X7_flowAll.locals ≤ R.locals) (hsum : (st.map fun v => v.category).sum ≤ 8) (d : decode cc pc = .ok (.invokevirtual idx, 3)) (kk : ∀ r σ1, K r σ1 → V p l e R s m args below meth c nL cells slots Q A L σ1 (pc + 3) lv (.int r :: st)) : V p l e R s m args below meth c nL cells slots Q A L σ pc lv (.ref (lad L 306) :: st) := v_callVi C [] (fun sz => c_X7_flowAll l L  σ _  h sz) mC_X7_flowAll mZ_X7 hd_X7_flowAll mI_X7_flowAll mS_X7_flowAll rfl rfl (c0 := 7) (ci := 7) (by decide) rfl rfl rfl kdn_306 hml hR rfl hsum d kk
-- ===== RX7.isWord
abbrev rm_X7_isWord : Room := { frames := 0, cells := 0, slots := 0, locals := 0 }
def w_X7_isWord (a1 : Int32) (a2 : Int32) (a3 : Int32) (a4 : Int32) (a5 : Int32) (σ : Mem) (K : Int32 → Mem → Prop) : Prop := (br ((σ 306 7) = a5) (vp_in 0 60 ∧ (br ((σ 310 (ix 0)) = a1) (vp_in 1 60 ∧ (br ((σ 310 (ix 1)) = a2) (vp_in 2 60 ∧ (br ((σ 310 (ix 2)) = a3) (vp_in 3 60 ∧ (br ((σ 310 (ix 3)) = a4) (K 1 σ) (K 0 σ))) (K 0 σ))) (K 0 σ))) (K 0 σ))) (K 0 σ))
set_option maxHeartbeats 4000000 in
set_option maxRecDepth 100000 in
theorem c_X7_isWord (l : Launch) (L : Ly) (a1 : Int32) (a2 : Int32) (a3 : Int32) (a4 : Int32) (a5 : Int32) (σ : Mem) (K : Int32 → Mem → Prop)  (h : w_X7_isWord a1 a2 a3 a4 a5 σ K) (sz : Nat) : Met l yX7_isWord (.code yX7_isWord cX7_isWord 6 (some .boolean) :: wA) rm_X7_isWord (va_Pc [.ref (lad L 306), .int a1, .int a2, .int a3, .int a4, .int a5] (mB L sz σ)) (va_Qi K (mE L) (mA L sz)) 0 0 (mA L sz) := by
  refine v_start (own := RX7) [(0, .ref (lad L 306)), (1, .int a1), (2, .int a2), (3, .int a3), (4, .int a4), (5, .int a5)] (by decide) rfl (Nat.le_of_ble_eq_true rfl) rfl (fun p e s m args below meth c C hret hlk => ?_)
  unfold w_X7_isWord at h
  refine v_aload_n C dX7_isWord_0 rfl 0 rfl ?_
  refine g_7_at C kdn_306 mF_X7_106 dX7_isWord_1 ?_
  refine v_iload C dX7_isWord_4 5 rfl ?_
  refine v_icmp_ne C (tgt := 54) dX7_isWord_6 (by decide) (fun hc => ?_) (fun hc => ?_)
  · replace h := h.2 hc
    refine v_iconst C (v := 0) dX7_isWord_54 rfl ?_
    exact v_zret C dX7_isWord_55 hret hlk rfl h
  · replace h := h.1 hc
    refine v_aload_n C dX7_isWord_9 rfl 0 rfl ?_
    refine g_7_text C kdn_306 mF_X7_19 dX7_isWord_10 ?_
    refine v_iconst C (v := 0) dX7_isWord_13 rfl ?_
    obtain ⟨hi1, h⟩ := h
    refine v_cald C (c0 := 23) (by decide) rfl kdn_310 hi1 dX7_isWord_14 ?_
    refine v_iload_n C dX7_isWord_15 rfl 1 rfl ?_
    refine v_icmp_ne C (tgt := 54) dX7_isWord_16 (by decide) (fun hc => ?_) (fun hc => ?_)
    · replace h := h.2 hc
      refine v_iconst C (v := 0) dX7_isWord_54 rfl ?_
      exact v_zret C dX7_isWord_55 hret hlk rfl h
    · replace h := h.1 hc
      refine v_aload_n C dX7_isWord_19 rfl 0 rfl ?_
      refine g_7_text C kdn_306 mF_X7_19 dX7_isWord_20 ?_
      refine v_iconst C (v := 1) dX7_isWord_23 rfl ?_
      obtain ⟨hi2, h⟩ := h
      refine v_cald C (c0 := 23) (by decide) rfl kdn_310 hi2 dX7_isWord_24 ?_
      refine v_iload_n C dX7_isWord_25 rfl 2 rfl ?_
      refine v_icmp_ne C (tgt := 54) dX7_isWord_26 (by decide) (fun hc => ?_) (fun hc => ?_)
      · replace h := h.2 hc
        refine v_iconst C (v := 0) dX7_isWord_54 rfl ?_
        exact v_zret C dX7_isWord_55 hret hlk rfl h
      · replace h := h.1 hc
        refine v_aload_n C dX7_isWord_29 rfl 0 rfl ?_
        refine g_7_text C kdn_306 mF_X7_19 dX7_isWord_30 ?_
        refine v_iconst C (v := 2) dX7_isWord_33 rfl ?_
        obtain ⟨hi3, h⟩ := h
        refine v_cald C (c0 := 23) (by decide) rfl kdn_310 hi3 dX7_isWord_34 ?_
        refine v_iload_n C dX7_isWord_35 rfl 3 rfl ?_
        refine v_icmp_ne C (tgt := 54) dX7_isWord_36 (by decide) (fun hc => ?_) (fun hc => ?_)
        · replace h := h.2 hc
          refine v_iconst C (v := 0) dX7_isWord_54 rfl ?_
          exact v_zret C dX7_isWord_55 hret hlk rfl h
        · replace h := h.1 hc
          refine v_aload_n C dX7_isWord_39 rfl 0 rfl ?_
          refine g_7_text C kdn_306 mF_X7_19 dX7_isWord_40 ?_
          refine v_iconst C (v := 3) dX7_isWord_43 rfl ?_
          obtain ⟨hi4, h⟩ := h
          refine v_cald C (c0 := 23) (by decide) rfl kdn_310 hi4 dX7_isWord_44 ?_
          refine v_iload C dX7_isWord_45 4 rfl ?_
          refine v_icmp_ne C (tgt := 54) dX7_isWord_47 (by decide) (fun hc => ?_) (fun hc => ?_)
          · replace h := h.2 hc
            refine v_iconst C (v := 0) dX7_isWord_54 rfl ?_
            exact v_zret C dX7_isWord_55 hret hlk rfl h
          · replace h := h.1 hc
            refine v_iconst C (v := 1) dX7_isWord_50 rfl ?_
            refine v_goto C (tgt := 55) dX7_isWord_51 (by decide) ?_
            exact v_zret C dX7_isWord_55 hret hlk rfl h
theorem hd_X7_isWord : yX7_isWord.cls ≠ "java/lang/invoke/MethodHandle" ∧ yX7_isWord.cls ≠ "java/lang/invoke/VarHandle" ∧ (parseMethodDescriptor yX7_isWord.desc).map (fun d => d.parameters.length) = some 5 := by decide +kernel
theorem k_X7_isWord {p : Program} {l : Launch} {e : Env} {R : Room} {s : State} {m : MethodId} {args : Array Value} {below : List Frame} {meth : Method} {c : Code} {nL cells slots : Nat} {Q : State → Prop} {A : Nat → Prop} {L : Ly} {own : String} {cc : ByteArray} {σ : Mem} {pc idx : Nat} {lv : List (Nat × Value)} {st : List Value} {K : Int32 → Mem → Prop} (C : Cx p R s m args meth c own cc nL cells slots A L) (a1 : Int32) (a2 : Int32) (a3 : Int32) (a4 : Int32) (a5 : Int32)  (h : w_X7_isWord a1 a2 a3 a4 a5 σ K) (hml : Cond.methodLink own idx yX7_isWord ∈ wA) (hR : rm_X7_isWord.frames + 1 ≤ R.frames ∧ 8 + (6 + 11) + rm_X7_isWord.locals ≤ R.locals) (hsum : (st.map fun v => v.category).sum ≤ 8) (d : decode cc pc = .ok (.invokevirtual idx, 3)) (kk : ∀ r σ1, K r σ1 → V p l e R s m args below meth c nL cells slots Q A L σ1 (pc + 3) lv (.int r :: st)) : V p l e R s m args below meth c nL cells slots Q A L σ pc lv (.int a5 :: .int a4 :: .int a3 :: .int a2 :: .int a1 :: .ref (lad L 306) :: st) := v_callVi C [.int a1, .int a2, .int a3, .int a4, .int a5] (fun sz => c_X7_isWord l L a1 a2 a3 a4 a5 σ _  h sz) mC_X7_isWord mZ_X7 hd_X7_isWord mI_X7_isWord mS_X7_isWord rfl rfl (c0 := 7) (ci := 7) (by decide) rfl rfl rfl kdn_306 hml hR rfl hsum d kk
-- ===== RX7.word
abbrev rm_X7_word : Room := { frames := 2, cells := 0, slots := 0, locals := 44 }
def w_X7_word_87  (K : Int32 → Mem → Prop)   (σ : Mem) : Prop := (w_X7_isWord 99 111 112 121 4 σ (fun r9 σ8 => (br (r9 = 0) (w_X7_isWord 115 105 122 101 4 σ8 (fun r11 σ10 => (br (r11 = 0) (K (-5) σ10) (K 2 σ10)))) (K 1 σ8))))
set_option maxHeartbeats 4000000 in
set_option maxRecDepth 100000 in
theorem b_X7_word_87 {p : Program} {l : Launch} {e : Env} {s : State} {m : MethodId} {args : Array Value} {below : List Frame} {meth : Method} {c : Code} {L : Ly} {sz : Nat} (C : Cx p rm_X7_word s m args meth c RX7 cX7_word 1 0 0 (mA L sz) L) (hret : meth.sig.returnType = (some .int)) (hlk : meth.locks = false)   (K : Int32 → Mem → Prop)   (σ : Mem)  (h : w_X7_word_87  K   σ) : V p l e rm_X7_word s m args below meth c 1 0 0 (MQ below (va_Qi K (mE L) (mA L sz)) args s 0 0 (mA L sz)) (mA L sz) L σ 87 [(0, .ref (lad L 306))] [] := by
  unfold w_X7_word_87 at h
  refine v_aload_n C dX7_word_87 rfl 0 rfl ?_
  refine v_bipush C (v := 99) dX7_word_88 rfl ?_
  refine v_bipush C (v := 111) dX7_word_90 rfl ?_
  refine v_bipush C (v := 112) dX7_word_92 rfl ?_
  refine v_bipush C (v := 121) dX7_word_94 rfl ?_
  refine v_iconst C (v := 4) dX7_word_96 rfl ?_
  refine k_X7_isWord C 99 111 112 121 4  h mM_X7_131 ⟨Nat.le_of_ble_eq_true rfl, Nat.le_of_ble_eq_true rfl⟩ (Nat.le_of_ble_eq_true rfl) dX7_word_97 (fun r9 σ8 h => ?_)
  refine v_if_eq C (tgt := 107) dX7_word_100 (by decide) (fun hc => ?_) (fun hc => ?_)
  · replace h := h.1 hc
    refine v_aload_n C dX7_word_107 rfl 0 rfl ?_
    refine v_bipush C (v := 115) dX7_word_108 rfl ?_
    refine v_bipush C (v := 105) dX7_word_110 rfl ?_
    refine v_bipush C (v := 122) dX7_word_112 rfl ?_
    refine v_bipush C (v := 101) dX7_word_114 rfl ?_
    refine v_iconst C (v := 4) dX7_word_116 rfl ?_
    refine k_X7_isWord C 115 105 122 101 4  h mM_X7_131 ⟨Nat.le_of_ble_eq_true rfl, Nat.le_of_ble_eq_true rfl⟩ (Nat.le_of_ble_eq_true rfl) dX7_word_117 (fun r11 σ10 h => ?_)
    refine v_if_eq C (tgt := 127) dX7_word_120 (by decide) (fun hc => ?_) (fun hc => ?_)
    · replace h := h.1 hc
      refine v_bipush C (v := (-5)) dX7_word_127 rfl ?_
      exact v_iret C dX7_word_129 hret hlk h
    · replace h := h.2 hc
      refine v_iconst C (v := 2) dX7_word_123 rfl ?_
      refine v_goto C (tgt := 129) dX7_word_124 (by decide) ?_
      exact v_iret C dX7_word_129 hret hlk h
  · replace h := h.2 hc
    refine v_iconst C (v := 1) dX7_word_103 rfl ?_
    refine v_goto C (tgt := 129) dX7_word_104 (by decide) ?_
    exact v_iret C dX7_word_129 hret hlk h
def w_X7_word_58  (K : Int32 → Mem → Prop)   (σ : Mem) : Prop := (w_X7_isWord 99 108 101 97 5 σ (fun r7 σ6 => (br (r7 = 0) (w_X7_word_87  K   σ6) (vp_in 4 60 ∧ (br ((σ6 310 (ix 4)) = 114) (K 3 σ6) (w_X7_word_87  K   σ6))))))
set_option maxHeartbeats 4000000 in
set_option maxRecDepth 100000 in
theorem b_X7_word_58 {p : Program} {l : Launch} {e : Env} {s : State} {m : MethodId} {args : Array Value} {below : List Frame} {meth : Method} {c : Code} {L : Ly} {sz : Nat} (C : Cx p rm_X7_word s m args meth c RX7 cX7_word 1 0 0 (mA L sz) L) (hret : meth.sig.returnType = (some .int)) (hlk : meth.locks = false)   (K : Int32 → Mem → Prop)   (σ : Mem)  (h : w_X7_word_58  K   σ) : V p l e rm_X7_word s m args below meth c 1 0 0 (MQ below (va_Qi K (mE L) (mA L sz)) args s 0 0 (mA L sz)) (mA L sz) L σ 58 [(0, .ref (lad L 306))] [] := by
  unfold w_X7_word_58 at h
  refine v_aload_n C dX7_word_58 rfl 0 rfl ?_
  refine v_bipush C (v := 99) dX7_word_59 rfl ?_
  refine v_bipush C (v := 108) dX7_word_61 rfl ?_
  refine v_bipush C (v := 101) dX7_word_63 rfl ?_
  refine v_bipush C (v := 97) dX7_word_65 rfl ?_
  refine v_iconst C (v := 5) dX7_word_67 rfl ?_
  refine k_X7_isWord C 99 108 101 97 5  h mM_X7_131 ⟨Nat.le_of_ble_eq_true rfl, Nat.le_of_ble_eq_true rfl⟩ (Nat.le_of_ble_eq_true rfl) dX7_word_68 (fun r7 σ6 h => ?_)
  refine v_if_eq C (tgt := 87) dX7_word_71 (by decide) (fun hc => ?_) (fun hc => ?_)
  · replace h := h.1 hc
    refine v_sub [0] rfl ?_
    exact b_X7_word_87 C hret hlk   K    _  h
  · replace h := h.2 hc
    refine v_aload_n C dX7_word_74 rfl 0 rfl ?_
    refine g_7_text C kdn_306 mF_X7_19 dX7_word_75 ?_
    refine v_iconst C (v := 4) dX7_word_78 rfl ?_
    obtain ⟨hi12, h⟩ := h
    refine v_cald C (c0 := 23) (by decide) rfl kdn_310 hi12 dX7_word_79 ?_
    refine v_bipush C (v := 114) dX7_word_80 rfl ?_
    refine v_icmp_ne C (tgt := 87) dX7_word_82 (by decide) (fun hc => ?_) (fun hc => ?_)
    · replace h := h.2 hc
      refine v_sub [0] rfl ?_
      exact b_X7_word_87 C hret hlk   K    _  h
    · replace h := h.1 hc
      refine v_iconst C (v := 3) dX7_word_85 rfl ?_
      exact v_iret C dX7_word_86 hret hlk h
def w_X7_word_5  (K : Int32 → Mem → Prop)  : Nat → Mem → Prop
  | 0, _ => False
  | n + 1, σ => (w_X7_isBetween 97 122 σ (fun r3 σ2 => (br (r3 = 0) (w_X7_isWord 109 101 114 103 5 σ2 (fun r5 σ4 => (br (r5 = 0) (w_X7_word_58  K   σ4) (vp_in 4 60 ∧ (br ((σ4 310 (ix 4)) = 101) (K 0 σ4) (w_X7_word_58  K   σ4)))))) (∀ σ14 : Mem, σ14 = mu σ2 306 7 ((σ2 306 7) + 1) → (w_X7_word_5  K  n  σ14)))))
set_option maxHeartbeats 4000000 in
set_option maxRecDepth 100000 in
theorem b_X7_word_5 {p : Program} {l : Launch} {e : Env} {s : State} {m : MethodId} {args : Array Value} {below : List Frame} {meth : Method} {c : Code} {L : Ly} {sz : Nat} (C : Cx p rm_X7_word s m args meth c RX7 cX7_word 1 0 0 (mA L sz) L) (hret : meth.sig.returnType = (some .int)) (hlk : meth.locks = false)   (K : Int32 → Mem → Prop)  : ∀ (n : Nat)  (σ : Mem), w_X7_word_5  K  n  σ → V p l e rm_X7_word s m args below meth c 1 0 0 (MQ below (va_Qi K (mE L) (mA L sz)) args s 0 0 (mA L sz)) (mA L sz) L σ 5 [(0, .ref (lad L 306))] [] := by
  intro n
  induction n with
  | zero => intro  σ  h; exact h.elim
  | succ n ih =>
    intro  σ  h
    rw [w_X7_word_5] at h
    refine v_aload_n C dX7_word_5 rfl 0 rfl ?_
    refine v_bipush C (v := 97) dX7_word_6 rfl ?_
    refine v_bipush C (v := 122) dX7_word_8 rfl ?_
    refine k_X7_isBetween C 97 122  h mM_X7_109 ⟨Nat.le_of_ble_eq_true rfl, Nat.le_of_ble_eq_true rfl⟩ (Nat.le_of_ble_eq_true rfl) dX7_word_10 (fun r3 σ2 h => ?_)
    refine v_if_eq C (tgt := 29) dX7_word_13 (by decide) (fun hc => ?_) (fun hc => ?_)
    · replace h := h.1 hc
      refine v_aload_n C dX7_word_29 rfl 0 rfl ?_
      refine v_bipush C (v := 109) dX7_word_30 rfl ?_
      refine v_bipush C (v := 101) dX7_word_32 rfl ?_
      refine v_bipush C (v := 114) dX7_word_34 rfl ?_
      refine v_bipush C (v := 103) dX7_word_36 rfl ?_
      refine v_iconst C (v := 5) dX7_word_38 rfl ?_
      refine k_X7_isWord C 109 101 114 103 5  h mM_X7_131 ⟨Nat.le_of_ble_eq_true rfl, Nat.le_of_ble_eq_true rfl⟩ (Nat.le_of_ble_eq_true rfl) dX7_word_39 (fun r5 σ4 h => ?_)
      refine v_if_eq C (tgt := 58) dX7_word_42 (by decide) (fun hc => ?_) (fun hc => ?_)
      · replace h := h.1 hc
        refine v_sub [0] rfl ?_
        exact b_X7_word_58 C hret hlk   K    _  h
      · replace h := h.2 hc
        refine v_aload_n C dX7_word_45 rfl 0 rfl ?_
        refine g_7_text C kdn_306 mF_X7_19 dX7_word_46 ?_
        refine v_iconst C (v := 4) dX7_word_49 rfl ?_
        obtain ⟨hi13, h⟩ := h
        refine v_cald C (c0 := 23) (by decide) rfl kdn_310 hi13 dX7_word_50 ?_
        refine v_bipush C (v := 101) dX7_word_51 rfl ?_
        refine v_icmp_ne C (tgt := 58) dX7_word_53 (by decide) (fun hc => ?_) (fun hc => ?_)
        · replace h := h.2 hc
          refine v_sub [0] rfl ?_
          exact b_X7_word_58 C hret hlk   K    _  h
        · replace h := h.1 hc
          refine v_iconst C (v := 0) dX7_word_56 rfl ?_
          exact v_iret C dX7_word_57 hret hlk h
    · replace h := h.2 hc
      refine v_aload_n C dX7_word_16 rfl 0 rfl ?_
      refine v_dup C dX7_word_17 rfl ?_
      refine g_7_at C kdn_306 mF_X7_106 dX7_word_18 ?_
      refine v_iconst C (v := 1) dX7_word_21 rfl ?_
      refine v_iadd C dX7_word_22 ?_
      refine p_7_at C kdn_306 mF_X7_106 dX7_word_23 (fun σ14 eσ14 => ?_)
      replace h := h σ14 eσ14
      refine v_goto C (tgt := 5) dX7_word_26 (by decide) ?_
      refine v_sub [0] rfl ?_
      exact ih  _  h
def w_X7_word  (σ : Mem) (K : Int32 → Mem → Prop) : Prop := (∀ σ1 : Mem, σ1 = mu σ 306 7 0 → (∃ n15, w_X7_word_5  K  n15  σ1))
set_option maxHeartbeats 4000000 in
set_option maxRecDepth 100000 in
theorem c_X7_word (l : Launch) (L : Ly)  (σ : Mem) (K : Int32 → Mem → Prop)  (h : w_X7_word  σ K) (sz : Nat) : Met l yX7_word (.code yX7_word cX7_word 1 (some .int) :: wA) rm_X7_word (va_Pc [.ref (lad L 306)] (mB L sz σ)) (va_Qi K (mE L) (mA L sz)) 0 0 (mA L sz) := by
  refine v_start (own := RX7) [(0, .ref (lad L 306))] (by decide) rfl (Nat.le_of_ble_eq_true rfl) rfl (fun p e s m args below meth c C hret hlk => ?_)
  unfold w_X7_word at h
  refine v_aload_n C dX7_word_0 rfl 0 rfl ?_
  refine v_iconst C (v := 0) dX7_word_1 rfl ?_
  refine p_7_at C kdn_306 mF_X7_106 dX7_word_2 (fun σ1 eσ1 => ?_)
  replace h := h σ1 eσ1
  obtain ⟨n15, h⟩ := h
  refine v_sub [0] rfl ?_
  exact b_X7_word_5 C hret hlk   K   n15  _  h
theorem hd_X7_word : yX7_word.cls ≠ "java/lang/invoke/MethodHandle" ∧ yX7_word.cls ≠ "java/lang/invoke/VarHandle" ∧ (parseMethodDescriptor yX7_word.desc).map (fun d => d.parameters.length) = some 0 := by decide +kernel
theorem k_X7_word {p : Program} {l : Launch} {e : Env} {R : Room} {s : State} {m : MethodId} {args : Array Value} {below : List Frame} {meth : Method} {c : Code} {nL cells slots : Nat} {Q : State → Prop} {A : Nat → Prop} {L : Ly} {own : String} {cc : ByteArray} {σ : Mem} {pc idx : Nat} {lv : List (Nat × Value)} {st : List Value} {K : Int32 → Mem → Prop} (C : Cx p R s m args meth c own cc nL cells slots A L)   (h : w_X7_word  σ K) (hml : Cond.methodLink own idx yX7_word ∈ wA) (hR : rm_X7_word.frames + 1 ≤ R.frames ∧ 8 + (1 + 11) + rm_X7_word.locals ≤ R.locals) (hsum : (st.map fun v => v.category).sum ≤ 8) (d : decode cc pc = .ok (.invokevirtual idx, 3)) (kk : ∀ r σ1, K r σ1 → V p l e R s m args below meth c nL cells slots Q A L σ1 (pc + 3) lv (.int r :: st)) : V p l e R s m args below meth c nL cells slots Q A L σ pc lv (.ref (lad L 306) :: st) := v_callVi C [] (fun sz => c_X7_word l L  σ _  h sz) mC_X7_word mZ_X7 hd_X7_word mI_X7_word mS_X7_word rfl rfl (c0 := 7) (ci := 7) (by decide) rfl rfl rfl kdn_306 hml hR rfl hsum d kk
-- ===== RX7.takesNumber
abbrev rm_X7_takesNumber : Room := { frames := 3, cells := 0, slots := 0, locals := 66 }
def w_X7_takesNumber  (σ : Mem) (K : Int32 → Mem → Prop) : Prop := (w_X7_takes 32 σ (fun r2 σ1 => (br (r2 = 0) (K 0 σ1) (w_X7_isBetween 48 57 σ1 (fun r4 σ3 => (br (r4 = 0) (K 0 σ3) (vp_in (σ3 306 7) 60 ∧ (∀ σ6 : Mem, σ6 = mu σ3 306 9 ((σ3 310 (ix (σ3 306 7))) - 48) → (∀ σ7 : Mem, σ7 = mu σ6 306 7 ((σ6 306 7) + 1) → (br ((σ7 306 9) ≤ 0) (K 1 σ7) (w_X7_isBetween 48 57 σ7 (fun r9 σ8 => (br (r9 = 0) (K 1 σ8) (vp_in (σ8 306 7) 60 ∧ (∀ σ11 : Mem, σ11 = mu σ8 306 9 (((10 * (σ8 306 9)) + (σ8 310 (ix (σ8 306 7)))) - 48) → (∀ σ12 : Mem, σ12 = mu σ11 306 7 ((σ11 306 7) + 1) → (K 1 σ12)))))))))))))))))
set_option maxHeartbeats 4000000 in
set_option maxRecDepth 100000 in
theorem c_X7_takesNumber (l : Launch) (L : Ly)  (σ : Mem) (K : Int32 → Mem → Prop)  (h : w_X7_takesNumber  σ K) (sz : Nat) : Met l yX7_takesNumber (.code yX7_takesNumber cX7_takesNumber 1 (some .boolean) :: wA) rm_X7_takesNumber (va_Pc [.ref (lad L 306)] (mB L sz σ)) (va_Qi K (mE L) (mA L sz)) 0 0 (mA L sz) := by
  refine v_start (own := RX7) [(0, .ref (lad L 306))] (by decide) rfl (Nat.le_of_ble_eq_true rfl) rfl (fun p e s m args below meth c C hret hlk => ?_)
  unfold w_X7_takesNumber at h
  refine v_aload_n C dX7_takesNumber_0 rfl 0 rfl ?_
  refine v_bipush C (v := 32) dX7_takesNumber_1 rfl ?_
  refine k_X7_takes C 32  h mM_X7_125 ⟨Nat.le_of_ble_eq_true rfl, Nat.le_of_ble_eq_true rfl⟩ (Nat.le_of_ble_eq_true rfl) dX7_takesNumber_3 (fun r2 σ1 h => ?_)
  refine v_if_eq C (tgt := 20) dX7_takesNumber_6 (by decide) (fun hc => ?_) (fun hc => ?_)
  · replace h := h.1 hc
    refine v_iconst C (v := 0) dX7_takesNumber_20 rfl ?_
    exact v_zret C dX7_takesNumber_21 hret hlk rfl h
  · replace h := h.2 hc
    refine v_aload_n C dX7_takesNumber_9 rfl 0 rfl ?_
    refine v_bipush C (v := 48) dX7_takesNumber_10 rfl ?_
    refine v_bipush C (v := 57) dX7_takesNumber_12 rfl ?_
    refine k_X7_isBetween C 48 57  h mM_X7_109 ⟨Nat.le_of_ble_eq_true rfl, Nat.le_of_ble_eq_true rfl⟩ (Nat.le_of_ble_eq_true rfl) dX7_takesNumber_14 (fun r4 σ3 h => ?_)
    refine v_if_ne C (tgt := 22) dX7_takesNumber_17 (by decide) (fun hc => ?_) (fun hc => ?_)
    · replace h := h.2 hc
      refine v_aload_n C dX7_takesNumber_22 rfl 0 rfl ?_
      refine v_aload_n C dX7_takesNumber_23 rfl 0 rfl ?_
      refine g_7_text C kdn_306 mF_X7_19 dX7_takesNumber_24 ?_
      refine v_aload_n C dX7_takesNumber_27 rfl 0 rfl ?_
      refine g_7_at C kdn_306 mF_X7_106 dX7_takesNumber_28 ?_
      obtain ⟨hi5, h⟩ := h
      refine v_cald C (c0 := 23) (by decide) rfl kdn_310 hi5 dX7_takesNumber_31 ?_
      refine v_bipush C (v := 48) dX7_takesNumber_32 rfl ?_
      refine v_isub C dX7_takesNumber_34 ?_
      refine p_7_number C kdn_306 mF_X7_115 dX7_takesNumber_35 (fun σ6 eσ6 => ?_)
      replace h := h σ6 eσ6
      refine v_aload_n C dX7_takesNumber_38 rfl 0 rfl ?_
      refine v_dup C dX7_takesNumber_39 rfl ?_
      refine g_7_at C kdn_306 mF_X7_106 dX7_takesNumber_40 ?_
      refine v_iconst C (v := 1) dX7_takesNumber_43 rfl ?_
      refine v_iadd C dX7_takesNumber_44 ?_
      refine p_7_at C kdn_306 mF_X7_106 dX7_takesNumber_45 (fun σ7 eσ7 => ?_)
      replace h := h σ7 eσ7
      refine v_aload_n C dX7_takesNumber_48 rfl 0 rfl ?_
      refine g_7_number C kdn_306 mF_X7_115 dX7_takesNumber_49 ?_
      refine v_if_le C (tgt := 100) dX7_takesNumber_52 (by decide) (fun hc => ?_) (fun hc => ?_)
      · replace h := h.1 hc
        refine v_iconst C (v := 1) dX7_takesNumber_100 rfl ?_
        exact v_zret C dX7_takesNumber_101 hret hlk rfl h
      · replace h := h.2 hc
        refine v_aload_n C dX7_takesNumber_55 rfl 0 rfl ?_
        refine v_bipush C (v := 48) dX7_takesNumber_56 rfl ?_
        refine v_bipush C (v := 57) dX7_takesNumber_58 rfl ?_
        refine k_X7_isBetween C 48 57  h mM_X7_109 ⟨Nat.le_of_ble_eq_true rfl, Nat.le_of_ble_eq_true rfl⟩ (Nat.le_of_ble_eq_true rfl) dX7_takesNumber_60 (fun r9 σ8 h => ?_)
        refine v_if_eq C (tgt := 100) dX7_takesNumber_63 (by decide) (fun hc => ?_) (fun hc => ?_)
        · replace h := h.1 hc
          refine v_iconst C (v := 1) dX7_takesNumber_100 rfl ?_
          exact v_zret C dX7_takesNumber_101 hret hlk rfl h
        · replace h := h.2 hc
          refine v_aload_n C dX7_takesNumber_66 rfl 0 rfl ?_
          refine v_bipush C (v := 10) dX7_takesNumber_67 rfl ?_
          refine v_aload_n C dX7_takesNumber_69 rfl 0 rfl ?_
          refine g_7_number C kdn_306 mF_X7_115 dX7_takesNumber_70 ?_
          refine v_imul C dX7_takesNumber_73 ?_
          refine v_aload_n C dX7_takesNumber_74 rfl 0 rfl ?_
          refine g_7_text C kdn_306 mF_X7_19 dX7_takesNumber_75 ?_
          refine v_aload_n C dX7_takesNumber_78 rfl 0 rfl ?_
          refine g_7_at C kdn_306 mF_X7_106 dX7_takesNumber_79 ?_
          obtain ⟨hi10, h⟩ := h
          refine v_cald C (c0 := 23) (by decide) rfl kdn_310 hi10 dX7_takesNumber_82 ?_
          refine v_iadd C dX7_takesNumber_83 ?_
          refine v_bipush C (v := 48) dX7_takesNumber_84 rfl ?_
          refine v_isub C dX7_takesNumber_86 ?_
          refine p_7_number C kdn_306 mF_X7_115 dX7_takesNumber_87 (fun σ11 eσ11 => ?_)
          replace h := h σ11 eσ11
          refine v_aload_n C dX7_takesNumber_90 rfl 0 rfl ?_
          refine v_dup C dX7_takesNumber_91 rfl ?_
          refine g_7_at C kdn_306 mF_X7_106 dX7_takesNumber_92 ?_
          refine v_iconst C (v := 1) dX7_takesNumber_95 rfl ?_
          refine v_iadd C dX7_takesNumber_96 ?_
          refine p_7_at C kdn_306 mF_X7_106 dX7_takesNumber_97 (fun σ12 eσ12 => ?_)
          replace h := h σ12 eσ12
          refine v_iconst C (v := 1) dX7_takesNumber_100 rfl ?_
          exact v_zret C dX7_takesNumber_101 hret hlk rfl h
    · replace h := h.1 hc
      refine v_iconst C (v := 0) dX7_takesNumber_20 rfl ?_
      exact v_zret C dX7_takesNumber_21 hret hlk rfl h
theorem hd_X7_takesNumber : yX7_takesNumber.cls ≠ "java/lang/invoke/MethodHandle" ∧ yX7_takesNumber.cls ≠ "java/lang/invoke/VarHandle" ∧ (parseMethodDescriptor yX7_takesNumber.desc).map (fun d => d.parameters.length) = some 0 := by decide +kernel
theorem k_X7_takesNumber {p : Program} {l : Launch} {e : Env} {R : Room} {s : State} {m : MethodId} {args : Array Value} {below : List Frame} {meth : Method} {c : Code} {nL cells slots : Nat} {Q : State → Prop} {A : Nat → Prop} {L : Ly} {own : String} {cc : ByteArray} {σ : Mem} {pc idx : Nat} {lv : List (Nat × Value)} {st : List Value} {K : Int32 → Mem → Prop} (C : Cx p R s m args meth c own cc nL cells slots A L)   (h : w_X7_takesNumber  σ K) (hml : Cond.methodLink own idx yX7_takesNumber ∈ wA) (hR : rm_X7_takesNumber.frames + 1 ≤ R.frames ∧ 8 + (1 + 11) + rm_X7_takesNumber.locals ≤ R.locals) (hsum : (st.map fun v => v.category).sum ≤ 8) (d : decode cc pc = .ok (.invokevirtual idx, 3)) (kk : ∀ r σ1, K r σ1 → V p l e R s m args below meth c nL cells slots Q A L σ1 (pc + 3) lv (.int r :: st)) : V p l e R s m args below meth c nL cells slots Q A L σ pc lv (.ref (lad L 306) :: st) := v_callVi C [] (fun sz => c_X7_takesNumber l L  σ _  h sz) mC_X7_takesNumber mZ_X7 hd_X7_takesNumber mI_X7_takesNumber mS_X7_takesNumber rfl rfl (c0 := 7) (ci := 7) (by decide) rfl rfl rfl kdn_306 hml hR rfl hsum d kk
-- ===== RX7.perform
abbrev rm_X7_perform : Room := { frames := 6, cells := 0, slots := 0, locals := 134 }
def w_X7_perform_46  (K : Int32 → Mem → Prop)  (x1 : Int32) (x2 : Int32) (σ : Mem) : Prop := (br ((σ 306 5) ≤ (σ 306 7)) (br (x1 = 0) (w_X7_merge x2 (σ 306 9) σ (fun r13 σ12 => (K r13 σ12))) (br (x1 = 1) (w_X7_copy x2 (σ 306 9) σ (fun r11 σ10 => (K r11 σ10))) (br (x1 = 2) (w_X7_setSize x2 (σ 306 9) σ (fun r9 σ8 => (K r9 σ8))) (w_X7_clear x2 σ (fun r7 σ6 => (K r7 σ6)))))) (K ((-100) - (σ 306 7)) σ))
set_option maxHeartbeats 4000000 in
set_option maxRecDepth 100000 in
theorem b_X7_perform_46 {p : Program} {l : Launch} {e : Env} {s : State} {m : MethodId} {args : Array Value} {below : List Frame} {meth : Method} {c : Code} {L : Ly} {sz : Nat} (C : Cx p rm_X7_perform s m args meth c RX7 cX7_perform 3 0 0 (mA L sz) L) (hret : meth.sig.returnType = (some .int)) (hlk : meth.locks = false)   (K : Int32 → Mem → Prop)  (x1 : Int32) (x2 : Int32) (σ : Mem)  (h : w_X7_perform_46  K  x1 x2 σ) : V p l e rm_X7_perform s m args below meth c 3 0 0 (MQ below (va_Qi K (mE L) (mA L sz)) args s 0 0 (mA L sz)) (mA L sz) L σ 46 [(0, .ref (lad L 306)), (1, .int x1), (2, .int x2)] [] := by
  unfold w_X7_perform_46 at h
  refine v_aload_n C dX7_perform_46 rfl 0 rfl ?_
  refine g_7_at C kdn_306 mF_X7_106 dX7_perform_47 ?_
  refine v_aload_n C dX7_perform_50 rfl 0 rfl ?_
  refine g_7_typed C kdn_306 mF_X7_103 dX7_perform_51 ?_
  refine v_icmp_ge C (tgt := 65) dX7_perform_54 (by decide) (fun hc => ?_) (fun hc => ?_)
  · replace h := h.1 hc
    refine v_iload_n C dX7_perform_65 rfl 1 rfl ?_
    refine v_if_ne C (tgt := 81) dX7_perform_66 (by decide) (fun hc => ?_) (fun hc => ?_)
    · replace h := h.2 hc
      refine v_iload_n C dX7_perform_81 rfl 1 rfl ?_
      refine v_iconst C (v := 1) dX7_perform_82 rfl ?_
      refine v_icmp_ne C (tgt := 98) dX7_perform_83 (by decide) (fun hc => ?_) (fun hc => ?_)
      · replace h := h.2 hc
        refine v_iload_n C dX7_perform_98 rfl 1 rfl ?_
        refine v_iconst C (v := 2) dX7_perform_99 rfl ?_
        refine v_icmp_ne C (tgt := 115) dX7_perform_100 (by decide) (fun hc => ?_) (fun hc => ?_)
        · replace h := h.2 hc
          refine v_aload_n C dX7_perform_115 rfl 0 rfl ?_
          refine v_iload_n C dX7_perform_116 rfl 2 rfl ?_
          refine k_X7_clear C x2  h mM_X7_150 ⟨Nat.le_of_ble_eq_true rfl, Nat.le_of_ble_eq_true rfl⟩ (Nat.le_of_ble_eq_true rfl) dX7_perform_117 (fun r7 σ6 h => ?_)
          exact v_iret C dX7_perform_120 hret hlk h
        · replace h := h.1 hc
          refine v_aload_n C dX7_perform_103 rfl 0 rfl ?_
          refine v_iload_n C dX7_perform_104 rfl 2 rfl ?_
          refine v_aload_n C dX7_perform_105 rfl 0 rfl ?_
          refine g_7_number C kdn_306 mF_X7_115 dX7_perform_106 ?_
          refine k_X7_setSize C x2 (σ 306 9)  h mM_X7_147 ⟨Nat.le_of_ble_eq_true rfl, Nat.le_of_ble_eq_true rfl⟩ (Nat.le_of_ble_eq_true rfl) dX7_perform_109 (fun r9 σ8 h => ?_)
          refine v_goto C (tgt := 120) dX7_perform_112 (by decide) ?_
          exact v_iret C dX7_perform_120 hret hlk h
      · replace h := h.1 hc
        refine v_aload_n C dX7_perform_86 rfl 0 rfl ?_
        refine v_iload_n C dX7_perform_87 rfl 2 rfl ?_
        refine v_aload_n C dX7_perform_88 rfl 0 rfl ?_
        refine g_7_number C kdn_306 mF_X7_115 dX7_perform_89 ?_
        refine k_X7_copy C x2 (σ 306 9)  h mM_X7_144 ⟨Nat.le_of_ble_eq_true rfl, Nat.le_of_ble_eq_true rfl⟩ (Nat.le_of_ble_eq_true rfl) dX7_perform_92 (fun r11 σ10 h => ?_)
        refine v_goto C (tgt := 120) dX7_perform_95 (by decide) ?_
        exact v_iret C dX7_perform_120 hret hlk h
    · replace h := h.1 hc
      refine v_aload_n C dX7_perform_69 rfl 0 rfl ?_
      refine v_iload_n C dX7_perform_70 rfl 2 rfl ?_
      refine v_aload_n C dX7_perform_71 rfl 0 rfl ?_
      refine g_7_number C kdn_306 mF_X7_115 dX7_perform_72 ?_
      refine k_X7_merge C x2 (σ 306 9)  h mM_X7_141 ⟨Nat.le_of_ble_eq_true rfl, Nat.le_of_ble_eq_true rfl⟩ (Nat.le_of_ble_eq_true rfl) dX7_perform_75 (fun r13 σ12 h => ?_)
      refine v_goto C (tgt := 120) dX7_perform_78 (by decide) ?_
      exact v_iret C dX7_perform_120 hret hlk h
  · replace h := h.2 hc
    refine v_bipush C (v := (-100)) dX7_perform_57 rfl ?_
    refine v_aload_n C dX7_perform_59 rfl 0 rfl ?_
    refine g_7_at C kdn_306 mF_X7_106 dX7_perform_60 ?_
    refine v_isub C dX7_perform_63 ?_
    exact v_iret C dX7_perform_64 hret hlk h
def w_X7_perform  (σ : Mem) (K : Int32 → Mem → Prop) : Prop := (w_X7_word  σ (fun r2 σ1 => (br (r2 = (-5)) (K (-100) σ1) (w_X7_takesNumber  σ1 (fun r4 σ3 => (br (r4 = 0) (K ((-100) - (σ3 306 7)) σ3) (∀ v5 : Int32, v5 = (σ3 306 9) → (br (r2 = 3) (w_X7_perform_46  K  r2 v5 σ3) (w_X7_takesNumber  σ3 (fun r15 σ14 => (br (r15 = 0) (K ((-100) - (σ14 306 7)) σ14) (w_X7_perform_46  K  r2 v5 σ14))))))))))))
set_option maxHeartbeats 4000000 in
set_option maxRecDepth 100000 in
theorem c_X7_perform (l : Launch) (L : Ly)  (σ : Mem) (K : Int32 → Mem → Prop)  (h : w_X7_perform  σ K) (sz : Nat) : Met l yX7_perform (.code yX7_perform cX7_perform 3 (some .int) :: wA) rm_X7_perform (va_Pc [.ref (lad L 306)] (mB L sz σ)) (va_Qi K (mE L) (mA L sz)) 0 0 (mA L sz) := by
  refine v_start (own := RX7) [(0, .ref (lad L 306))] (by decide) rfl (Nat.le_of_ble_eq_true rfl) rfl (fun p e s m args below meth c C hret hlk => ?_)
  unfold w_X7_perform at h
  refine v_aload_n C dX7_perform_0 rfl 0 rfl ?_
  refine k_X7_word C   h mM_X7_135 ⟨Nat.le_of_ble_eq_true rfl, Nat.le_of_ble_eq_true rfl⟩ (Nat.le_of_ble_eq_true rfl) dX7_perform_1 (fun r2 σ1 h => ?_)
  refine v_istore_n C [(1, .int r2), (0, .ref (lad L 306))] dX7_perform_4 rfl (by decide) rfl ?_
  refine v_iload_n C dX7_perform_5 rfl 0 rfl ?_
  refine v_bipush C (v := (-5)) dX7_perform_6 rfl ?_
  refine v_icmp_ne C (tgt := 14) dX7_perform_8 (by decide) (fun hc => ?_) (fun hc => ?_)
  · replace h := h.2 hc
    refine v_aload_n C dX7_perform_14 rfl 1 rfl ?_
    refine k_X7_takesNumber C   h mM_X7_138 ⟨Nat.le_of_ble_eq_true rfl, Nat.le_of_ble_eq_true rfl⟩ (Nat.le_of_ble_eq_true rfl) dX7_perform_15 (fun r4 σ3 h => ?_)
    refine v_if_ne C (tgt := 29) dX7_perform_18 (by decide) (fun hc => ?_) (fun hc => ?_)
    · replace h := h.2 hc
      refine v_aload_n C dX7_perform_29 rfl 1 rfl ?_
      refine g_7_number C kdn_306 mF_X7_115 dX7_perform_30 ?_
      refine v_nm (fun v5 ev5 => ?_)
      replace h := h v5 ev5
      refine v_istore_n C [(2, .int v5), (1, .int r2), (0, .ref (lad L 306))] dX7_perform_33 rfl (by decide) rfl ?_
      refine v_iload_n C dX7_perform_34 rfl 1 rfl ?_
      refine v_iconst C (v := 3) dX7_perform_35 rfl ?_
      refine v_icmp_eq C (tgt := 46) dX7_perform_36 (by decide) (fun hc => ?_) (fun hc => ?_)
      · replace h := h.1 hc
        refine v_sub [2, 1, 0] rfl ?_
        exact b_X7_perform_46 C hret hlk   K   _ _ _  h
      · replace h := h.2 hc
        refine v_aload_n C dX7_perform_39 rfl 2 rfl ?_
        refine k_X7_takesNumber C   h mM_X7_138 ⟨Nat.le_of_ble_eq_true rfl, Nat.le_of_ble_eq_true rfl⟩ (Nat.le_of_ble_eq_true rfl) dX7_perform_40 (fun r15 σ14 h => ?_)
        refine v_if_eq C (tgt := 57) dX7_perform_43 (by decide) (fun hc => ?_) (fun hc => ?_)
        · replace h := h.1 hc
          refine v_bipush C (v := (-100)) dX7_perform_57 rfl ?_
          refine v_aload_n C dX7_perform_59 rfl 2 rfl ?_
          refine g_7_at C kdn_306 mF_X7_106 dX7_perform_60 ?_
          refine v_isub C dX7_perform_63 ?_
          exact v_iret C dX7_perform_64 hret hlk h
        · replace h := h.2 hc
          refine v_sub [2, 1, 0] rfl ?_
          exact b_X7_perform_46 C hret hlk   K   _ _ _  h
    · replace h := h.1 hc
      refine v_bipush C (v := (-100)) dX7_perform_21 rfl ?_
      refine v_aload_n C dX7_perform_23 rfl 1 rfl ?_
      refine g_7_at C kdn_306 mF_X7_106 dX7_perform_24 ?_
      refine v_isub C dX7_perform_27 ?_
      exact v_iret C dX7_perform_28 hret hlk h
  · replace h := h.1 hc
    refine v_bipush C (v := (-100)) dX7_perform_11 rfl ?_
    exact v_iret C dX7_perform_13 hret hlk h
theorem hd_X7_perform : yX7_perform.cls ≠ "java/lang/invoke/MethodHandle" ∧ yX7_perform.cls ≠ "java/lang/invoke/VarHandle" ∧ (parseMethodDescriptor yX7_perform.desc).map (fun d => d.parameters.length) = some 0 := by decide +kernel
theorem k_X7_perform {p : Program} {l : Launch} {e : Env} {R : Room} {s : State} {m : MethodId} {args : Array Value} {below : List Frame} {meth : Method} {c : Code} {nL cells slots : Nat} {Q : State → Prop} {A : Nat → Prop} {L : Ly} {own : String} {cc : ByteArray} {σ : Mem} {pc idx : Nat} {lv : List (Nat × Value)} {st : List Value} {K : Int32 → Mem → Prop} (C : Cx p R s m args meth c own cc nL cells slots A L)   (h : w_X7_perform  σ K) (hml : Cond.methodLink own idx yX7_perform ∈ wA) (hR : rm_X7_perform.frames + 1 ≤ R.frames ∧ 8 + (3 + 11) + rm_X7_perform.locals ≤ R.locals) (hsum : (st.map fun v => v.category).sum ≤ 8) (d : decode cc pc = .ok (.invokevirtual idx, 3)) (kk : ∀ r σ1, K r σ1 → V p l e R s m args below meth c nL cells slots Q A L σ1 (pc + 3) lv (.int r :: st)) : V p l e R s m args below meth c nL cells slots Q A L σ pc lv (.ref (lad L 306) :: st) := v_callVi C [] (fun sz => c_X7_perform l L  σ _  h sz) mC_X7_perform mZ_X7 hd_X7_perform mI_X7_perform mS_X7_perform rfl rfl (c0 := 7) (ci := 7) (by decide) rfl rfl rfl kdn_306 hml hR rfl hsum d kk
-- ===== RX7.undo
abbrev rm_X7_undo : Room := { frames := 0, cells := 0, slots := 0, locals := 0 }
def w_X7_undo_22  (K : Int32 → Mem → Prop)  : Nat → Int32 → Mem → Prop
  | 0, _, _ => False
  | n + 1, x1, σ => (br (1110 ≤ x1) (K (σ 306 2) σ) (vp_in ((1110 * (σ 306 2)) + x1) 4440 ∧ (vp_in x1 1244 ∧ ∀ σ4 : Mem, σ4 = mu σ 307 (ix x1) (σ 308 (ix ((1110 * (σ 306 2)) + x1))) → (w_X7_undo_22  K  n (x1 + 1) σ4))))
set_option maxHeartbeats 4000000 in
set_option maxRecDepth 100000 in
theorem b_X7_undo_22 {p : Program} {l : Launch} {e : Env} {s : State} {m : MethodId} {args : Array Value} {below : List Frame} {meth : Method} {c : Code} {L : Ly} {sz : Nat} (C : Cx p rm_X7_undo s m args meth c RX7 cX7_undo 2 0 0 (mA L sz) L) (hret : meth.sig.returnType = (some .int)) (hlk : meth.locks = false)   (K : Int32 → Mem → Prop)  : ∀ (n : Nat) (x1 : Int32) (σ : Mem), w_X7_undo_22  K  n x1 σ → V p l e rm_X7_undo s m args below meth c 2 0 0 (MQ below (va_Qi K (mE L) (mA L sz)) args s 0 0 (mA L sz)) (mA L sz) L σ 22 [(0, .ref (lad L 306)), (1, .int x1)] [] := by
  intro n
  induction n with
  | zero => intro x1 σ  h; exact h.elim
  | succ n ih =>
    intro x1 σ  h
    rw [w_X7_undo_22] at h
    refine v_iload_n C dX7_undo_22 rfl 1 rfl ?_
    refine v_sipush C (v := 1110) dX7_undo_23 rfl ?_
    refine v_icmp_ge C (tgt := 56) dX7_undo_26 (by decide) (fun hc => ?_) (fun hc => ?_)
    · replace h := h.1 hc
      refine v_aload_n C dX7_undo_56 rfl 0 rfl ?_
      refine g_7_kept C kdn_306 mF_X7_39 dX7_undo_57 ?_
      exact v_iret C dX7_undo_60 hret hlk h
    · replace h := h.2 hc
      refine v_aload_n C dX7_undo_29 rfl 0 rfl ?_
      refine g_7_now C kdn_306 mF_X7_7 dX7_undo_30 ?_
      refine v_iload_n C dX7_undo_33 rfl 1 rfl ?_
      refine v_aload_n C dX7_undo_34 rfl 0 rfl ?_
      refine g_7_history C kdn_306 mF_X7_13 dX7_undo_35 ?_
      refine v_sipush C (v := 1110) dX7_undo_38 rfl ?_
      refine v_aload_n C dX7_undo_41 rfl 0 rfl ?_
      refine g_7_kept C kdn_306 mF_X7_39 dX7_undo_42 ?_
      refine v_imul C dX7_undo_45 ?_
      refine v_iload_n C dX7_undo_46 rfl 1 rfl ?_
      refine v_iadd C dX7_undo_47 ?_
      obtain ⟨hi2, h⟩ := h
      refine v_iald C (c0 := 25) (by decide) rfl kdn_308 hi2 dX7_undo_48 ?_
      obtain ⟨hi3, h⟩ := h
      refine v_iast C (c0 := 24) (by decide) (fun _ => rfl) kdn_307 hi3 dX7_undo_49 (fun σ4 eσ4 => ?_)
      replace h := h σ4 eσ4
      refine v_iinc C [(1, .int (x1 + 1)), (0, .ref (lad L 306))] dX7_undo_50 1 rfl rfl (by decide) rfl ?_
      refine v_goto C (tgt := 22) dX7_undo_53 (by decide) ?_
      refine v_sub [1, 0] rfl ?_
      exact ih _ _  h
def w_X7_undo  (σ : Mem) (K : Int32 → Mem → Prop) : Prop := (br ((σ 306 2) = 0) (K (-5) σ) (∀ σ1 : Mem, σ1 = mu σ 306 2 ((σ 306 2) - 1) → (∃ n5, w_X7_undo_22  K  n5 0 σ1)))
set_option maxHeartbeats 4000000 in
set_option maxRecDepth 100000 in
theorem c_X7_undo (l : Launch) (L : Ly)  (σ : Mem) (K : Int32 → Mem → Prop)  (h : w_X7_undo  σ K) (sz : Nat) : Met l yX7_undo (.code yX7_undo cX7_undo 2 (some .int) :: wA) rm_X7_undo (va_Pc [.ref (lad L 306)] (mB L sz σ)) (va_Qi K (mE L) (mA L sz)) 0 0 (mA L sz) := by
  refine v_start (own := RX7) [(0, .ref (lad L 306))] (by decide) rfl (Nat.le_of_ble_eq_true rfl) rfl (fun p e s m args below meth c C hret hlk => ?_)
  unfold w_X7_undo at h
  refine v_aload_n C dX7_undo_0 rfl 0 rfl ?_
  refine g_7_kept C kdn_306 mF_X7_39 dX7_undo_1 ?_
  refine v_if_ne C (tgt := 10) dX7_undo_4 (by decide) (fun hc => ?_) (fun hc => ?_)
  · replace h := h.2 hc
    refine v_aload_n C dX7_undo_10 rfl 0 rfl ?_
    refine v_dup C dX7_undo_11 rfl ?_
    refine g_7_kept C kdn_306 mF_X7_39 dX7_undo_12 ?_
    refine v_iconst C (v := 1) dX7_undo_15 rfl ?_
    refine v_isub C dX7_undo_16 ?_
    refine p_7_kept C kdn_306 mF_X7_39 dX7_undo_17 (fun σ1 eσ1 => ?_)
    replace h := h σ1 eσ1
    refine v_iconst C (v := 0) dX7_undo_20 rfl ?_
    refine v_istore_n C [(1, .int 0), (0, .ref (lad L 306))] dX7_undo_21 rfl (by decide) rfl ?_
    obtain ⟨n5, h⟩ := h
    refine v_sub [1, 0] rfl ?_
    exact b_X7_undo_22 C hret hlk   K   n5 _ _  h
  · replace h := h.1 hc
    refine v_bipush C (v := (-5)) dX7_undo_7 rfl ?_
    exact v_iret C dX7_undo_9 hret hlk h
theorem hd_X7_undo : yX7_undo.cls ≠ "java/lang/invoke/MethodHandle" ∧ yX7_undo.cls ≠ "java/lang/invoke/VarHandle" ∧ (parseMethodDescriptor yX7_undo.desc).map (fun d => d.parameters.length) = some 0 := by decide +kernel
theorem k_X7_undo {p : Program} {l : Launch} {e : Env} {R : Room} {s : State} {m : MethodId} {args : Array Value} {below : List Frame} {meth : Method} {c : Code} {nL cells slots : Nat} {Q : State → Prop} {A : Nat → Prop} {L : Ly} {own : String} {cc : ByteArray} {σ : Mem} {pc idx : Nat} {lv : List (Nat × Value)} {st : List Value} {K : Int32 → Mem → Prop} (C : Cx p R s m args meth c own cc nL cells slots A L)   (h : w_X7_undo  σ K) (hml : Cond.methodLink own idx yX7_undo ∈ wA) (hR : rm_X7_undo.frames + 1 ≤ R.frames ∧ 8 + (2 + 11) + rm_X7_undo.locals ≤ R.locals) (hsum : (st.map fun v => v.category).sum ≤ 8) (d : decode cc pc = .ok (.invokevirtual idx, 3)) (kk : ∀ r σ1, K r σ1 → V p l e R s m args below meth c nL cells slots Q A L σ1 (pc + 3) lv (.int r :: st)) : V p l e R s m args below meth c nL cells slots Q A L σ pc lv (.ref (lad L 306) :: st) := v_callVi C [] (fun sz => c_X7_undo l L  σ _  h sz) mC_X7_undo mZ_X7 hd_X7_undo mI_X7_undo mS_X7_undo rfl rfl (c0 := 7) (ci := 7) (by decide) rfl rfl rfl kdn_306 hml hR rfl hsum d kk
-- ===== RX7.keep
abbrev rm_X7_keep : Room := { frames := 0, cells := 0, slots := 0, locals := 0 }
def w_X7_keep_2  (K : Int32 → Mem → Prop)  : Nat → Int32 → Mem → Prop
  | 0, _, _ => False
  | n + 1, x1, σ => (br (1110 ≤ x1) (∀ σ1 : Mem, σ1 = mu σ 306 4 1 → (vp_in 1072 1244 ∧ (K (σ1 307 (ix 1072)) σ1))) (vp_in x1 1244 ∧ (vp_in x1 1110 ∧ ∀ σ5 : Mem, σ5 = mu σ 309 (ix x1) (σ 307 (ix x1)) → (w_X7_keep_2  K  n (x1 + 1) σ5))))
set_option maxHeartbeats 4000000 in
set_option maxRecDepth 100000 in
theorem b_X7_keep_2 {p : Program} {l : Launch} {e : Env} {s : State} {m : MethodId} {args : Array Value} {below : List Frame} {meth : Method} {c : Code} {L : Ly} {sz : Nat} (C : Cx p rm_X7_keep s m args meth c RX7 cX7_keep 2 0 0 (mA L sz) L) (hret : meth.sig.returnType = (some .int)) (hlk : meth.locks = false)   (K : Int32 → Mem → Prop)  : ∀ (n : Nat) (x1 : Int32) (σ : Mem), w_X7_keep_2  K  n x1 σ → V p l e rm_X7_keep s m args below meth c 2 0 0 (MQ below (va_Qi K (mE L) (mA L sz)) args s 0 0 (mA L sz)) (mA L sz) L σ 2 [(0, .ref (lad L 306)), (1, .int x1)] [] := by
  intro n
  induction n with
  | zero => intro x1 σ  h; exact h.elim
  | succ n ih =>
    intro x1 σ  h
    rw [w_X7_keep_2] at h
    refine v_iload_n C dX7_keep_2 rfl 1 rfl ?_
    refine v_sipush C (v := 1110) dX7_keep_3 rfl ?_
    refine v_icmp_ge C (tgt := 27) dX7_keep_6 (by decide) (fun hc => ?_) (fun hc => ?_)
    · replace h := h.1 hc
      refine v_aload_n C dX7_keep_27 rfl 0 rfl ?_
      refine v_iconst C (v := 1) dX7_keep_28 rfl ?_
      refine p_7_isFilled C rfl rfl kdn_306 mF_X7_153 dX7_keep_29 (fun σ1 eσ1 => ?_)
      replace h := h σ1 eσ1
      refine v_aload_n C dX7_keep_32 rfl 0 rfl ?_
      refine g_7_now C kdn_306 mF_X7_7 dX7_keep_33 ?_
      refine v_sipush C (v := 1072) dX7_keep_36 rfl ?_
      obtain ⟨hi2, h⟩ := h
      refine v_iald C (c0 := 24) (by decide) rfl kdn_307 hi2 dX7_keep_39 ?_
      exact v_iret C dX7_keep_40 hret hlk h
    · replace h := h.2 hc
      refine v_aload_n C dX7_keep_9 rfl 0 rfl ?_
      refine g_7_slot C kdn_306 mF_X7_16 dX7_keep_10 ?_
      refine v_iload_n C dX7_keep_13 rfl 1 rfl ?_
      refine v_aload_n C dX7_keep_14 rfl 0 rfl ?_
      refine g_7_now C kdn_306 mF_X7_7 dX7_keep_15 ?_
      refine v_iload_n C dX7_keep_18 rfl 1 rfl ?_
      obtain ⟨hi3, h⟩ := h
      refine v_iald C (c0 := 24) (by decide) rfl kdn_307 hi3 dX7_keep_19 ?_
      obtain ⟨hi4, h⟩ := h
      refine v_iast C (c0 := 26) (by decide) (fun _ => rfl) kdn_309 hi4 dX7_keep_20 (fun σ5 eσ5 => ?_)
      replace h := h σ5 eσ5
      refine v_iinc C [(1, .int (x1 + 1)), (0, .ref (lad L 306))] dX7_keep_21 1 rfl rfl (by decide) rfl ?_
      refine v_goto C (tgt := 2) dX7_keep_24 (by decide) ?_
      refine v_sub [1, 0] rfl ?_
      exact ih _ _  h
def w_X7_keep  (σ : Mem) (K : Int32 → Mem → Prop) : Prop := (∃ n6, w_X7_keep_2  K  n6 0 σ)
set_option maxHeartbeats 4000000 in
set_option maxRecDepth 100000 in
theorem c_X7_keep (l : Launch) (L : Ly)  (σ : Mem) (K : Int32 → Mem → Prop)  (h : w_X7_keep  σ K) (sz : Nat) : Met l yX7_keep (.code yX7_keep cX7_keep 2 (some .int) :: wA) rm_X7_keep (va_Pc [.ref (lad L 306)] (mB L sz σ)) (va_Qi K (mE L) (mA L sz)) 0 0 (mA L sz) := by
  refine v_start (own := RX7) [(0, .ref (lad L 306))] (by decide) rfl (Nat.le_of_ble_eq_true rfl) rfl (fun p e s m args below meth c C hret hlk => ?_)
  unfold w_X7_keep at h
  refine v_iconst C (v := 0) dX7_keep_0 rfl ?_
  refine v_istore_n C [(1, .int 0), (0, .ref (lad L 306))] dX7_keep_1 rfl (by decide) rfl ?_
  obtain ⟨n6, h⟩ := h
  refine v_sub [1, 0] rfl ?_
  exact b_X7_keep_2 C hret hlk   K   n6 _ _  h
theorem hd_X7_keep : yX7_keep.cls ≠ "java/lang/invoke/MethodHandle" ∧ yX7_keep.cls ≠ "java/lang/invoke/VarHandle" ∧ (parseMethodDescriptor yX7_keep.desc).map (fun d => d.parameters.length) = some 0 := by decide +kernel
theorem k_X7_keep {p : Program} {l : Launch} {e : Env} {R : Room} {s : State} {m : MethodId} {args : Array Value} {below : List Frame} {meth : Method} {c : Code} {nL cells slots : Nat} {Q : State → Prop} {A : Nat → Prop} {L : Ly} {own : String} {cc : ByteArray} {σ : Mem} {pc idx : Nat} {lv : List (Nat × Value)} {st : List Value} {K : Int32 → Mem → Prop} (C : Cx p R s m args meth c own cc nL cells slots A L)   (h : w_X7_keep  σ K) (hml : Cond.methodLink own idx yX7_keep ∈ wA) (hR : rm_X7_keep.frames + 1 ≤ R.frames ∧ 8 + (2 + 11) + rm_X7_keep.locals ≤ R.locals) (hsum : (st.map fun v => v.category).sum ≤ 8) (d : decode cc pc = .ok (.invokevirtual idx, 3)) (kk : ∀ r σ1, K r σ1 → V p l e R s m args below meth c nL cells slots Q A L σ1 (pc + 3) lv (.int r :: st)) : V p l e R s m args below meth c nL cells slots Q A L σ pc lv (.ref (lad L 306) :: st) := v_callVi C [] (fun sz => c_X7_keep l L  σ _  h sz) mC_X7_keep mZ_X7 hd_X7_keep mI_X7_keep mS_X7_keep rfl rfl (c0 := 7) (ci := 7) (by decide) rfl rfl rfl kdn_306 hml hR rfl hsum d kk
-- ===== RX7.restore
abbrev rm_X7_restore : Room := { frames := 1, cells := 0, slots := 0, locals := 21 }
def w_X7_restore_16  (K : Int32 → Mem → Prop)  : Nat → Int32 → Mem → Prop
  | 0, _, _ => False
  | n + 1, x1, σ => (br (1110 ≤ x1) (vp_in 1072 1244 ∧ (K (σ 307 (ix 1072)) σ)) (vp_in x1 1110 ∧ (vp_in x1 1244 ∧ ∀ σ5 : Mem, σ5 = mu σ 307 (ix x1) (σ 309 (ix x1)) → (w_X7_restore_16  K  n (x1 + 1) σ5))))
set_option maxHeartbeats 4000000 in
set_option maxRecDepth 100000 in
theorem b_X7_restore_16 {p : Program} {l : Launch} {e : Env} {s : State} {m : MethodId} {args : Array Value} {below : List Frame} {meth : Method} {c : Code} {L : Ly} {sz : Nat} (C : Cx p rm_X7_restore s m args meth c RX7 cX7_restore 2 0 0 (mA L sz) L) (hret : meth.sig.returnType = (some .int)) (hlk : meth.locks = false)   (K : Int32 → Mem → Prop)  : ∀ (n : Nat) (x1 : Int32) (σ : Mem), w_X7_restore_16  K  n x1 σ → V p l e rm_X7_restore s m args below meth c 2 0 0 (MQ below (va_Qi K (mE L) (mA L sz)) args s 0 0 (mA L sz)) (mA L sz) L σ 16 [(0, .ref (lad L 306)), (1, .int x1)] [] := by
  intro n
  induction n with
  | zero => intro x1 σ  h; exact h.elim
  | succ n ih =>
    intro x1 σ  h
    rw [w_X7_restore_16] at h
    refine v_iload_n C dX7_restore_16 rfl 1 rfl ?_
    refine v_sipush C (v := 1110) dX7_restore_17 rfl ?_
    refine v_icmp_ge C (tgt := 41) dX7_restore_20 (by decide) (fun hc => ?_) (fun hc => ?_)
    · replace h := h.1 hc
      refine v_aload_n C dX7_restore_41 rfl 0 rfl ?_
      refine g_7_now C kdn_306 mF_X7_7 dX7_restore_42 ?_
      refine v_sipush C (v := 1072) dX7_restore_45 rfl ?_
      obtain ⟨hi2, h⟩ := h
      refine v_iald C (c0 := 24) (by decide) rfl kdn_307 hi2 dX7_restore_48 ?_
      exact v_iret C dX7_restore_49 hret hlk h
    · replace h := h.2 hc
      refine v_aload_n C dX7_restore_23 rfl 0 rfl ?_
      refine g_7_now C kdn_306 mF_X7_7 dX7_restore_24 ?_
      refine v_iload_n C dX7_restore_27 rfl 1 rfl ?_
      refine v_aload_n C dX7_restore_28 rfl 0 rfl ?_
      refine g_7_slot C kdn_306 mF_X7_16 dX7_restore_29 ?_
      refine v_iload_n C dX7_restore_32 rfl 1 rfl ?_
      obtain ⟨hi3, h⟩ := h
      refine v_iald C (c0 := 26) (by decide) rfl kdn_309 hi3 dX7_restore_33 ?_
      obtain ⟨hi4, h⟩ := h
      refine v_iast C (c0 := 24) (by decide) (fun _ => rfl) kdn_307 hi4 dX7_restore_34 (fun σ5 eσ5 => ?_)
      replace h := h σ5 eσ5
      refine v_iinc C [(1, .int (x1 + 1)), (0, .ref (lad L 306))] dX7_restore_35 1 rfl rfl (by decide) rfl ?_
      refine v_goto C (tgt := 16) dX7_restore_38 (by decide) ?_
      refine v_sub [1, 0] rfl ?_
      exact ih _ _  h
def w_X7_restore  (σ : Mem) (K : Int32 → Mem → Prop) : Prop := (br ((σ 306 4) = 0) (K (-5) σ) (w_X7_record  σ (fun σ1 => (∃ n6, w_X7_restore_16  K  n6 0 σ1))))
set_option maxHeartbeats 4000000 in
set_option maxRecDepth 100000 in
theorem c_X7_restore (l : Launch) (L : Ly)  (σ : Mem) (K : Int32 → Mem → Prop)  (h : w_X7_restore  σ K) (sz : Nat) : Met l yX7_restore (.code yX7_restore cX7_restore 2 (some .int) :: wA) rm_X7_restore (va_Pc [.ref (lad L 306)] (mB L sz σ)) (va_Qi K (mE L) (mA L sz)) 0 0 (mA L sz) := by
  refine v_start (own := RX7) [(0, .ref (lad L 306))] (by decide) rfl (Nat.le_of_ble_eq_true rfl) rfl (fun p e s m args below meth c C hret hlk => ?_)
  unfold w_X7_restore at h
  refine v_aload_n C dX7_restore_0 rfl 0 rfl ?_
  refine g_7_isFilled C kdn_306 mF_X7_153 dX7_restore_1 ?_
  refine v_if_ne C (tgt := 10) dX7_restore_4 (by decide) (fun hc => ?_) (fun hc => ?_)
  · replace h := h.2 hc
    refine v_aload_n C dX7_restore_10 rfl 0 rfl ?_
    refine k_X7_record C   h mM_X7_81 ⟨Nat.le_of_ble_eq_true rfl, Nat.le_of_ble_eq_true rfl⟩ (Nat.le_of_ble_eq_true rfl) dX7_restore_11 (fun σ1 h => ?_)
    refine v_iconst C (v := 0) dX7_restore_14 rfl ?_
    refine v_istore_n C [(1, .int 0), (0, .ref (lad L 306))] dX7_restore_15 rfl (by decide) rfl ?_
    obtain ⟨n6, h⟩ := h
    refine v_sub [1, 0] rfl ?_
    exact b_X7_restore_16 C hret hlk   K   n6 _ _  h
  · replace h := h.1 hc
    refine v_bipush C (v := (-5)) dX7_restore_7 rfl ?_
    exact v_iret C dX7_restore_9 hret hlk h
theorem hd_X7_restore : yX7_restore.cls ≠ "java/lang/invoke/MethodHandle" ∧ yX7_restore.cls ≠ "java/lang/invoke/VarHandle" ∧ (parseMethodDescriptor yX7_restore.desc).map (fun d => d.parameters.length) = some 0 := by decide +kernel
theorem k_X7_restore {p : Program} {l : Launch} {e : Env} {R : Room} {s : State} {m : MethodId} {args : Array Value} {below : List Frame} {meth : Method} {c : Code} {nL cells slots : Nat} {Q : State → Prop} {A : Nat → Prop} {L : Ly} {own : String} {cc : ByteArray} {σ : Mem} {pc idx : Nat} {lv : List (Nat × Value)} {st : List Value} {K : Int32 → Mem → Prop} (C : Cx p R s m args meth c own cc nL cells slots A L)   (h : w_X7_restore  σ K) (hml : Cond.methodLink own idx yX7_restore ∈ wA) (hR : rm_X7_restore.frames + 1 ≤ R.frames ∧ 8 + (2 + 11) + rm_X7_restore.locals ≤ R.locals) (hsum : (st.map fun v => v.category).sum ≤ 8) (d : decode cc pc = .ok (.invokevirtual idx, 3)) (kk : ∀ r σ1, K r σ1 → V p l e R s m args below meth c nL cells slots Q A L σ1 (pc + 3) lv (.int r :: st)) : V p l e R s m args below meth c nL cells slots Q A L σ pc lv (.ref (lad L 306) :: st) := v_callVi C [] (fun sz => c_X7_restore l L  σ _  h sz) mC_X7_restore mZ_X7 hd_X7_restore mI_X7_restore mS_X7_restore rfl rfl (c0 := 7) (ci := 7) (by decide) rfl rfl rfl kdn_306 hml hR rfl hsum d kk
-- ===== RX7.looks
abbrev rm_X7_looks : Room := { frames := 4, cells := 0, slots := 0, locals := 94 }
def w_X7_looks_28 (a1 : Int32) (K : Int32 → Mem → Prop)  : Nat → Int32 → Mem → Prop
  | 0, _, _ => False
  | n + 1, x2, σ => (vp_in 1076 1244 ∧ (br ((σ 307 (ix 1076)) ≤ x2) (K 8 σ) (w_X7_joins 8 (4 + x2) σ (fun r6 σ5 => (w_X7_looks_28 a1 K  n (x2 + 1) σ5)))))
set_option maxHeartbeats 4000000 in
set_option maxRecDepth 100000 in
theorem b_X7_looks_28 {p : Program} {l : Launch} {e : Env} {s : State} {m : MethodId} {args : Array Value} {below : List Frame} {meth : Method} {c : Code} {L : Ly} {sz : Nat} (C : Cx p rm_X7_looks s m args meth c RX7 cX7_looks 3 0 0 (mA L sz) L) (hret : meth.sig.returnType = (some .int)) (hlk : meth.locks = false) (a1 : Int32)  (K : Int32 → Mem → Prop)  : ∀ (n : Nat) (x2 : Int32) (σ : Mem), w_X7_looks_28 a1 K  n x2 σ → V p l e rm_X7_looks s m args below meth c 3 0 0 (MQ below (va_Qi K (mE L) (mA L sz)) args s 0 0 (mA L sz)) (mA L sz) L σ 28 [(0, .ref (lad L 306)), (1, .int a1), (2, .int x2)] [] := by
  intro n
  induction n with
  | zero => intro x2 σ  h; exact h.elim
  | succ n ih =>
    intro x2 σ  h
    rw [w_X7_looks_28] at h
    refine v_iload_n C dX7_looks_28 rfl 2 rfl ?_
    refine v_aload_n C dX7_looks_29 rfl 0 rfl ?_
    refine g_7_now C kdn_306 mF_X7_7 dX7_looks_30 ?_
    refine v_sipush C (v := 1076) dX7_looks_33 rfl ?_
    obtain ⟨hi4, h⟩ := h
    refine v_iald C (c0 := 24) (by decide) rfl kdn_307 hi4 dX7_looks_36 ?_
    refine v_icmp_ge C (tgt := 56) dX7_looks_37 (by decide) (fun hc => ?_) (fun hc => ?_)
    · replace h := h.1 hc
      refine v_bipush C (v := 8) dX7_looks_56 rfl ?_
      exact v_iret C dX7_looks_58 hret hlk h
    · replace h := h.2 hc
      refine v_aload_n C dX7_looks_40 rfl 0 rfl ?_
      refine v_bipush C (v := 8) dX7_looks_41 rfl ?_
      refine v_iconst C (v := 4) dX7_looks_43 rfl ?_
      refine v_iload_n C dX7_looks_44 rfl 2 rfl ?_
      refine v_iadd C dX7_looks_45 ?_
      refine k_X7_joins C 8 (4 + x2)  h mM_X7_100 ⟨Nat.le_of_ble_eq_true rfl, Nat.le_of_ble_eq_true rfl⟩ (Nat.le_of_ble_eq_true rfl) dX7_looks_46 (fun r6 σ5 h => ?_)
      refine v_pop C dX7_looks_49 rfl ?_
      refine v_iinc C [(2, .int (x2 + 1)), (0, .ref (lad L 306)), (1, .int a1)] dX7_looks_50 2 rfl rfl (by decide) rfl ?_
      refine v_goto C (tgt := 28) dX7_looks_53 (by decide) ?_
      refine v_sub [1, 2, 0] rfl ?_
      exact ih _ _  h
def w_X7_looks (a1 : Int32) (σ : Mem) (K : Int32 → Mem → Prop) : Prop := (w_X7_in a1 0 4 σ (fun r2 σ1 => (br (r2 = 0) (K (-5) σ1) (br (4 ≤ a1) (w_X7_copies 4 8 σ1 (fun σ3 => (∃ n7, w_X7_looks_28 a1 K  n7 1 σ3))) (K a1 σ1)))))
set_option maxHeartbeats 4000000 in
set_option maxRecDepth 100000 in
theorem c_X7_looks (l : Launch) (L : Ly) (a1 : Int32) (σ : Mem) (K : Int32 → Mem → Prop)  (h : w_X7_looks a1 σ K) (sz : Nat) : Met l yX7_looks (.code yX7_looks cX7_looks 3 (some .int) :: wA) rm_X7_looks (va_Pc [.ref (lad L 306), .int a1] (mB L sz σ)) (va_Qi K (mE L) (mA L sz)) 0 0 (mA L sz) := by
  refine v_start (own := RX7) [(0, .ref (lad L 306)), (1, .int a1)] (by decide) rfl (Nat.le_of_ble_eq_true rfl) rfl (fun p e s m args below meth c C hret hlk => ?_)
  unfold w_X7_looks at h
  refine v_iload_n C dX7_looks_0 rfl 1 rfl ?_
  refine v_iconst C (v := 0) dX7_looks_1 rfl ?_
  refine v_iconst C (v := 4) dX7_looks_2 rfl ?_
  refine k_X7_in C a1 0 4  h mM_X7_35 ⟨Nat.le_of_ble_eq_true rfl, Nat.le_of_ble_eq_true rfl⟩ (Nat.le_of_ble_eq_true rfl) dX7_looks_3 (fun r2 σ1 h => ?_)
  refine v_if_ne C (tgt := 12) dX7_looks_6 (by decide) (fun hc => ?_) (fun hc => ?_)
  · replace h := h.2 hc
    refine v_iload_n C dX7_looks_12 rfl 1 rfl ?_
    refine v_iconst C (v := 4) dX7_looks_13 rfl ?_
    refine v_icmp_ge C (tgt := 19) dX7_looks_14 (by decide) (fun hc => ?_) (fun hc => ?_)
    · replace h := h.1 hc
      refine v_aload_n C dX7_looks_19 rfl 0 rfl ?_
      refine v_iconst C (v := 4) dX7_looks_20 rfl ?_
      refine v_bipush C (v := 8) dX7_looks_21 rfl ?_
      refine k_X7_copies C 4 8  h mM_X7_91 ⟨Nat.le_of_ble_eq_true rfl, Nat.le_of_ble_eq_true rfl⟩ (Nat.le_of_ble_eq_true rfl) dX7_looks_23 (fun σ3 h => ?_)
      refine v_iconst C (v := 1) dX7_looks_26 rfl ?_
      refine v_istore_n C [(2, .int 1), (0, .ref (lad L 306)), (1, .int a1)] dX7_looks_27 rfl (by decide) rfl ?_
      obtain ⟨n7, h⟩ := h
      refine v_sub [1, 2, 0] rfl ?_
      exact b_X7_looks_28 C hret hlk a1  K   n7 _ _  h
    · replace h := h.2 hc
      refine v_iload_n C dX7_looks_17 rfl 1 rfl ?_
      exact v_iret C dX7_looks_18 hret hlk h
  · replace h := h.1 hc
    refine v_bipush C (v := (-5)) dX7_looks_9 rfl ?_
    exact v_iret C dX7_looks_11 hret hlk h
theorem hd_X7_looks : yX7_looks.cls ≠ "java/lang/invoke/MethodHandle" ∧ yX7_looks.cls ≠ "java/lang/invoke/VarHandle" ∧ (parseMethodDescriptor yX7_looks.desc).map (fun d => d.parameters.length) = some 1 := by decide +kernel
theorem k_X7_looks {p : Program} {l : Launch} {e : Env} {R : Room} {s : State} {m : MethodId} {args : Array Value} {below : List Frame} {meth : Method} {c : Code} {nL cells slots : Nat} {Q : State → Prop} {A : Nat → Prop} {L : Ly} {own : String} {cc : ByteArray} {σ : Mem} {pc idx : Nat} {lv : List (Nat × Value)} {st : List Value} {K : Int32 → Mem → Prop} (C : Cx p R s m args meth c own cc nL cells slots A L) (a1 : Int32)  (h : w_X7_looks a1 σ K) (hml : Cond.methodLink own idx yX7_looks ∈ wA) (hR : rm_X7_looks.frames + 1 ≤ R.frames ∧ 8 + (3 + 11) + rm_X7_looks.locals ≤ R.locals) (hsum : (st.map fun v => v.category).sum ≤ 8) (d : decode cc pc = .ok (.invokevirtual idx, 3)) (kk : ∀ r σ1, K r σ1 → V p l e R s m args below meth c nL cells slots Q A L σ1 (pc + 3) lv (.int r :: st)) : V p l e R s m args below meth c nL cells slots Q A L σ pc lv (.int a1 :: .ref (lad L 306) :: st) := v_callVi C [.int a1] (fun sz => c_X7_looks l L a1 σ _  h sz) mC_X7_looks mZ_X7 hd_X7_looks mI_X7_looks mS_X7_looks rfl rfl (c0 := 7) (ci := 7) (by decide) rfl rfl rfl kdn_306 hml hR rfl hsum d kk
-- ===== RX7.greatestSlack
abbrev rm_X7_greatestSlack : Room := { frames := 3, cells := 0, slots := 0, locals := 65 }
def w_X7_greatestSlack_4 (a1 : Int32) (K : Int32 → Mem → Prop)  : Nat → Int32 → Int32 → Mem → Prop
  | 0, _, _, _ => False
  | n + 1, x2, x3, σ => (br (26 ≤ x3) (K x2 σ) (w_X7_has a1 x3 σ (fun r2 σ1 => (br (r2 = 0) (w_X7_greatestSlack_4 a1 K  n x2 (x3 + 1) σ1) (w_X7_its a1 x3 2 σ1 (fun r4 σ3 => (br (r4 ≤ x2) (w_X7_greatestSlack_4 a1 K  n x2 (x3 + 1) σ3) (w_X7_its a1 x3 2 σ3 (fun r6 σ5 => (w_X7_greatestSlack_4 a1 K  n r6 (x3 + 1) σ5))))))))))
set_option maxHeartbeats 4000000 in
set_option maxRecDepth 100000 in
theorem b_X7_greatestSlack_4 {p : Program} {l : Launch} {e : Env} {s : State} {m : MethodId} {args : Array Value} {below : List Frame} {meth : Method} {c : Code} {L : Ly} {sz : Nat} (C : Cx p rm_X7_greatestSlack s m args meth c RX7 cX7_greatestSlack 4 0 0 (mA L sz) L) (hret : meth.sig.returnType = (some .int)) (hlk : meth.locks = false) (a1 : Int32)  (K : Int32 → Mem → Prop)  : ∀ (n : Nat) (x2 : Int32) (x3 : Int32) (σ : Mem), w_X7_greatestSlack_4 a1 K  n x2 x3 σ → V p l e rm_X7_greatestSlack s m args below meth c 4 0 0 (MQ below (va_Qi K (mE L) (mA L sz)) args s 0 0 (mA L sz)) (mA L sz) L σ 4 [(0, .ref (lad L 306)), (1, .int a1), (2, .int x2), (3, .int x3)] [] := by
  intro n
  induction n with
  | zero => intro x2 x3 σ  h; exact h.elim
  | succ n ih =>
    intro x2 x3 σ  h
    rw [w_X7_greatestSlack_4] at h
    refine v_iload_n C dX7_greatestSlack_4 rfl 3 rfl ?_
    refine v_bipush C (v := 26) dX7_greatestSlack_5 rfl ?_
    refine v_icmp_ge C (tgt := 48) dX7_greatestSlack_7 (by decide) (fun hc => ?_) (fun hc => ?_)
    · replace h := h.1 hc
      refine v_iload_n C dX7_greatestSlack_48 rfl 2 rfl ?_
      exact v_iret C dX7_greatestSlack_49 hret hlk h
    · replace h := h.2 hc
      refine v_aload_n C dX7_greatestSlack_10 rfl 0 rfl ?_
      refine v_iload_n C dX7_greatestSlack_11 rfl 1 rfl ?_
      refine v_iload_n C dX7_greatestSlack_12 rfl 3 rfl ?_
      refine k_X7_has C a1 x3  h mM_X7_43 ⟨Nat.le_of_ble_eq_true rfl, Nat.le_of_ble_eq_true rfl⟩ (Nat.le_of_ble_eq_true rfl) dX7_greatestSlack_13 (fun r2 σ1 h => ?_)
      refine v_if_eq C (tgt := 40) dX7_greatestSlack_16 (by decide) (fun hc => ?_) (fun hc => ?_)
      · replace h := h.1 hc
        refine v_iload_n C dX7_greatestSlack_40 rfl 2 rfl ?_
        refine v_istore_n C [(2, .int x2), (0, .ref (lad L 306)), (1, .int a1), (3, .int x3)] dX7_greatestSlack_41 rfl (by decide) rfl ?_
        refine v_iinc C [(3, .int (x3 + 1)), (2, .int x2), (0, .ref (lad L 306)), (1, .int a1)] dX7_greatestSlack_42 3 rfl rfl (by decide) rfl ?_
        refine v_goto C (tgt := 4) dX7_greatestSlack_45 (by decide) ?_
        refine v_sub [2, 3, 1, 0] rfl ?_
        exact ih _ _ _  h
      · replace h := h.2 hc
        refine v_aload_n C dX7_greatestSlack_19 rfl 0 rfl ?_
        refine v_iload_n C dX7_greatestSlack_20 rfl 1 rfl ?_
        refine v_iload_n C dX7_greatestSlack_21 rfl 3 rfl ?_
        refine v_iconst C (v := 2) dX7_greatestSlack_22 rfl ?_
        refine k_X7_its C a1 x3 2  h mM_X7_31 ⟨Nat.le_of_ble_eq_true rfl, Nat.le_of_ble_eq_true rfl⟩ (Nat.le_of_ble_eq_true rfl) dX7_greatestSlack_23 (fun r4 σ3 h => ?_)
        refine v_iload_n C dX7_greatestSlack_26 rfl 2 rfl ?_
        refine v_icmp_le C (tgt := 40) dX7_greatestSlack_27 (by decide) (fun hc => ?_) (fun hc => ?_)
        · replace h := h.1 hc
          refine v_iload_n C dX7_greatestSlack_40 rfl 2 rfl ?_
          refine v_istore_n C [(2, .int x2), (0, .ref (lad L 306)), (1, .int a1), (3, .int x3)] dX7_greatestSlack_41 rfl (by decide) rfl ?_
          refine v_iinc C [(3, .int (x3 + 1)), (2, .int x2), (0, .ref (lad L 306)), (1, .int a1)] dX7_greatestSlack_42 3 rfl rfl (by decide) rfl ?_
          refine v_goto C (tgt := 4) dX7_greatestSlack_45 (by decide) ?_
          refine v_sub [2, 3, 1, 0] rfl ?_
          exact ih _ _ _  h
        · replace h := h.2 hc
          refine v_aload_n C dX7_greatestSlack_30 rfl 0 rfl ?_
          refine v_iload_n C dX7_greatestSlack_31 rfl 1 rfl ?_
          refine v_iload_n C dX7_greatestSlack_32 rfl 3 rfl ?_
          refine v_iconst C (v := 2) dX7_greatestSlack_33 rfl ?_
          refine k_X7_its C a1 x3 2  h mM_X7_31 ⟨Nat.le_of_ble_eq_true rfl, Nat.le_of_ble_eq_true rfl⟩ (Nat.le_of_ble_eq_true rfl) dX7_greatestSlack_34 (fun r6 σ5 h => ?_)
          refine v_goto C (tgt := 41) dX7_greatestSlack_37 (by decide) ?_
          refine v_istore_n C [(2, .int r6), (0, .ref (lad L 306)), (1, .int a1), (3, .int x3)] dX7_greatestSlack_41 rfl (by decide) rfl ?_
          refine v_iinc C [(3, .int (x3 + 1)), (2, .int r6), (0, .ref (lad L 306)), (1, .int a1)] dX7_greatestSlack_42 3 rfl rfl (by decide) rfl ?_
          refine v_goto C (tgt := 4) dX7_greatestSlack_45 (by decide) ?_
          refine v_sub [2, 3, 1, 0] rfl ?_
          exact ih _ _ _  h
def w_X7_greatestSlack (a1 : Int32) (σ : Mem) (K : Int32 → Mem → Prop) : Prop := (∃ n7, w_X7_greatestSlack_4 a1 K  n7 0 0 σ)
set_option maxHeartbeats 4000000 in
set_option maxRecDepth 100000 in
theorem c_X7_greatestSlack (l : Launch) (L : Ly) (a1 : Int32) (σ : Mem) (K : Int32 → Mem → Prop)  (h : w_X7_greatestSlack a1 σ K) (sz : Nat) : Met l yX7_greatestSlack (.code yX7_greatestSlack cX7_greatestSlack 4 (some .int) :: wA) rm_X7_greatestSlack (va_Pc [.ref (lad L 306), .int a1] (mB L sz σ)) (va_Qi K (mE L) (mA L sz)) 0 0 (mA L sz) := by
  refine v_start (own := RX7) [(0, .ref (lad L 306)), (1, .int a1)] (by decide) rfl (Nat.le_of_ble_eq_true rfl) rfl (fun p e s m args below meth c C hret hlk => ?_)
  unfold w_X7_greatestSlack at h
  refine v_iconst C (v := 0) dX7_greatestSlack_0 rfl ?_
  refine v_istore_n C [(2, .int 0), (0, .ref (lad L 306)), (1, .int a1)] dX7_greatestSlack_1 rfl (by decide) rfl ?_
  refine v_iconst C (v := 0) dX7_greatestSlack_2 rfl ?_
  refine v_istore_n C [(3, .int 0), (2, .int 0), (0, .ref (lad L 306)), (1, .int a1)] dX7_greatestSlack_3 rfl (by decide) rfl ?_
  obtain ⟨n7, h⟩ := h
  refine v_sub [2, 3, 1, 0] rfl ?_
  exact b_X7_greatestSlack_4 C hret hlk a1  K   n7 _ _ _  h
theorem hd_X7_greatestSlack : yX7_greatestSlack.cls ≠ "java/lang/invoke/MethodHandle" ∧ yX7_greatestSlack.cls ≠ "java/lang/invoke/VarHandle" ∧ (parseMethodDescriptor yX7_greatestSlack.desc).map (fun d => d.parameters.length) = some 1 := by decide +kernel
theorem k_X7_greatestSlack {p : Program} {l : Launch} {e : Env} {R : Room} {s : State} {m : MethodId} {args : Array Value} {below : List Frame} {meth : Method} {c : Code} {nL cells slots : Nat} {Q : State → Prop} {A : Nat → Prop} {L : Ly} {own : String} {cc : ByteArray} {σ : Mem} {pc idx : Nat} {lv : List (Nat × Value)} {st : List Value} {K : Int32 → Mem → Prop} (C : Cx p R s m args meth c own cc nL cells slots A L) (a1 : Int32)  (h : w_X7_greatestSlack a1 σ K) (hml : Cond.methodLink own idx yX7_greatestSlack ∈ wA) (hR : rm_X7_greatestSlack.frames + 1 ≤ R.frames ∧ 8 + (4 + 11) + rm_X7_greatestSlack.locals ≤ R.locals) (hsum : (st.map fun v => v.category).sum ≤ 8) (d : decode cc pc = .ok (.invokevirtual idx, 3)) (kk : ∀ r σ1, K r σ1 → V p l e R s m args below meth c nL cells slots Q A L σ1 (pc + 3) lv (.int r :: st)) : V p l e R s m args below meth c nL cells slots Q A L σ pc lv (.int a1 :: .ref (lad L 306) :: st) := v_callVi C [.int a1] (fun sz => c_X7_greatestSlack l L a1 σ _  h sz) mC_X7_greatestSlack mZ_X7 hd_X7_greatestSlack mI_X7_greatestSlack mS_X7_greatestSlack rfl rfl (c0 := 7) (ci := 7) (by decide) rfl rfl rfl kdn_306 hml hR rfl hsum d kk
-- ===== RX7.letters
abbrev rm_X7_letters : Room := { frames := 3, cells := 0, slots := 0, locals := 65 }
def w_X7_letters_5 (a1 : Int32) (a2 : Int32) (K : Int32 → Mem → Prop)  : Nat → Int32 → Int32 → Mem → Prop
  | 0, _, _, _ => False
  | n + 1, x3, x4, σ => (br (26 ≤ x4) (K x3 σ) (br (a2 = 1) (w_X7_has a1 x4 σ (fun r6 σ5 => (br (r6 = 0) (∀ v7 : Int32, v7 = (x3 ||| 0) → (w_X7_letters_5 a1 a2 K  n v7 (x4 + 1) σ5)) (∀ v8 : Int32, v8 = (x3 ||| (1 <<< (x4 &&& 31))) → (w_X7_letters_5 a1 a2 K  n v8 (x4 + 1) σ5))))) (w_X7_its a1 x4 4 σ (fun r2 σ1 => (br (r2 ≤ 0) (∀ v3 : Int32, v3 = (x3 ||| 0) → (w_X7_letters_5 a1 a2 K  n v3 (x4 + 1) σ1)) (∀ v4 : Int32, v4 = (x3 ||| (1 <<< (x4 &&& 31))) → (w_X7_letters_5 a1 a2 K  n v4 (x4 + 1) σ1)))))))
set_option maxHeartbeats 4000000 in
set_option maxRecDepth 100000 in
theorem b_X7_letters_5 {p : Program} {l : Launch} {e : Env} {s : State} {m : MethodId} {args : Array Value} {below : List Frame} {meth : Method} {c : Code} {L : Ly} {sz : Nat} (C : Cx p rm_X7_letters s m args meth c RX7 cX7_letters 5 0 0 (mA L sz) L) (hret : meth.sig.returnType = (some .int)) (hlk : meth.locks = false) (a1 : Int32) (a2 : Int32)  (K : Int32 → Mem → Prop)  : ∀ (n : Nat) (x3 : Int32) (x4 : Int32) (σ : Mem), w_X7_letters_5 a1 a2 K  n x3 x4 σ → V p l e rm_X7_letters s m args below meth c 5 0 0 (MQ below (va_Qi K (mE L) (mA L sz)) args s 0 0 (mA L sz)) (mA L sz) L σ 5 [(0, .ref (lad L 306)), (1, .int a1), (2, .int a2), (3, .int x3), (4, .int x4)] [] := by
  intro n
  induction n with
  | zero => intro x3 x4 σ  h; exact h.elim
  | succ n ih =>
    intro x3 x4 σ  h
    rw [w_X7_letters_5] at h
    refine v_iload C dX7_letters_5 4 rfl ?_
    refine v_bipush C (v := 26) dX7_letters_7 rfl ?_
    refine v_icmp_ge C (tgt := 58) dX7_letters_9 (by decide) (fun hc => ?_) (fun hc => ?_)
    · replace h := h.1 hc
      refine v_iload_n C dX7_letters_58 rfl 3 rfl ?_
      exact v_iret C dX7_letters_59 hret hlk h
    · replace h := h.2 hc
      refine v_iload_n C dX7_letters_12 rfl 3 rfl ?_
      refine v_iload_n C dX7_letters_13 rfl 2 rfl ?_
      refine v_iconst C (v := 1) dX7_letters_14 rfl ?_
      refine v_icmp_ne C (tgt := 31) dX7_letters_15 (by decide) (fun hc => ?_) (fun hc => ?_)
      · replace h := h.2 hc
        refine v_aload_n C dX7_letters_31 rfl 0 rfl ?_
        refine v_iload_n C dX7_letters_32 rfl 1 rfl ?_
        refine v_iload C dX7_letters_33 4 rfl ?_
        refine v_iconst C (v := 4) dX7_letters_35 rfl ?_
        refine k_X7_its C a1 x4 4  h mM_X7_31 ⟨Nat.le_of_ble_eq_true rfl, Nat.le_of_ble_eq_true rfl⟩ (Nat.le_of_ble_eq_true rfl) dX7_letters_36 (fun r2 σ1 h => ?_)
        refine v_if_le C (tgt := 49) dX7_letters_39 (by decide) (fun hc => ?_) (fun hc => ?_)
        · replace h := h.1 hc
          refine v_iconst C (v := 0) dX7_letters_49 rfl ?_
          refine v_ior C dX7_letters_50 ?_
          refine v_nm (fun v3 ev3 => ?_)
          replace h := h v3 ev3
          refine v_istore_n C [(3, .int v3), (0, .ref (lad L 306)), (1, .int a1), (2, .int a2), (4, .int x4)] dX7_letters_51 rfl (by decide) rfl ?_
          refine v_iinc C [(4, .int (x4 + 1)), (3, .int v3), (0, .ref (lad L 306)), (1, .int a1), (2, .int a2)] dX7_letters_52 4 rfl rfl (by decide) rfl ?_
          refine v_goto C (tgt := 5) dX7_letters_55 (by decide) ?_
          refine v_sub [2, 3, 4, 1, 0] rfl ?_
          exact ih _ _ _  h
        · replace h := h.2 hc
          refine v_iconst C (v := 1) dX7_letters_42 rfl ?_
          refine v_iload C dX7_letters_43 4 rfl ?_
          refine v_ishl C dX7_letters_45 ?_
          refine v_goto C (tgt := 50) dX7_letters_46 (by decide) ?_
          refine v_ior C dX7_letters_50 ?_
          refine v_nm (fun v4 ev4 => ?_)
          replace h := h v4 ev4
          refine v_istore_n C [(3, .int v4), (0, .ref (lad L 306)), (1, .int a1), (2, .int a2), (4, .int x4)] dX7_letters_51 rfl (by decide) rfl ?_
          refine v_iinc C [(4, .int (x4 + 1)), (3, .int v4), (0, .ref (lad L 306)), (1, .int a1), (2, .int a2)] dX7_letters_52 4 rfl rfl (by decide) rfl ?_
          refine v_goto C (tgt := 5) dX7_letters_55 (by decide) ?_
          refine v_sub [2, 3, 4, 1, 0] rfl ?_
          exact ih _ _ _  h
      · replace h := h.1 hc
        refine v_aload_n C dX7_letters_18 rfl 0 rfl ?_
        refine v_iload_n C dX7_letters_19 rfl 1 rfl ?_
        refine v_iload C dX7_letters_20 4 rfl ?_
        refine k_X7_has C a1 x4  h mM_X7_43 ⟨Nat.le_of_ble_eq_true rfl, Nat.le_of_ble_eq_true rfl⟩ (Nat.le_of_ble_eq_true rfl) dX7_letters_22 (fun r6 σ5 h => ?_)
        refine v_if_eq C (tgt := 49) dX7_letters_25 (by decide) (fun hc => ?_) (fun hc => ?_)
        · replace h := h.1 hc
          refine v_iconst C (v := 0) dX7_letters_49 rfl ?_
          refine v_ior C dX7_letters_50 ?_
          refine v_nm (fun v7 ev7 => ?_)
          replace h := h v7 ev7
          refine v_istore_n C [(3, .int v7), (0, .ref (lad L 306)), (1, .int a1), (2, .int a2), (4, .int x4)] dX7_letters_51 rfl (by decide) rfl ?_
          refine v_iinc C [(4, .int (x4 + 1)), (3, .int v7), (0, .ref (lad L 306)), (1, .int a1), (2, .int a2)] dX7_letters_52 4 rfl rfl (by decide) rfl ?_
          refine v_goto C (tgt := 5) dX7_letters_55 (by decide) ?_
          refine v_sub [2, 3, 4, 1, 0] rfl ?_
          exact ih _ _ _  h
        · replace h := h.2 hc
          refine v_goto C (tgt := 42) dX7_letters_28 (by decide) ?_
          refine v_iconst C (v := 1) dX7_letters_42 rfl ?_
          refine v_iload C dX7_letters_43 4 rfl ?_
          refine v_ishl C dX7_letters_45 ?_
          refine v_goto C (tgt := 50) dX7_letters_46 (by decide) ?_
          refine v_ior C dX7_letters_50 ?_
          refine v_nm (fun v8 ev8 => ?_)
          replace h := h v8 ev8
          refine v_istore_n C [(3, .int v8), (0, .ref (lad L 306)), (1, .int a1), (2, .int a2), (4, .int x4)] dX7_letters_51 rfl (by decide) rfl ?_
          refine v_iinc C [(4, .int (x4 + 1)), (3, .int v8), (0, .ref (lad L 306)), (1, .int a1), (2, .int a2)] dX7_letters_52 4 rfl rfl (by decide) rfl ?_
          refine v_goto C (tgt := 5) dX7_letters_55 (by decide) ?_
          refine v_sub [2, 3, 4, 1, 0] rfl ?_
          exact ih _ _ _  h
def w_X7_letters (a1 : Int32) (a2 : Int32) (σ : Mem) (K : Int32 → Mem → Prop) : Prop := (∃ n9, w_X7_letters_5 a1 a2 K  n9 0 0 σ)
set_option maxHeartbeats 4000000 in
set_option maxRecDepth 100000 in
theorem c_X7_letters (l : Launch) (L : Ly) (a1 : Int32) (a2 : Int32) (σ : Mem) (K : Int32 → Mem → Prop)  (h : w_X7_letters a1 a2 σ K) (sz : Nat) : Met l yX7_letters (.code yX7_letters cX7_letters 5 (some .int) :: wA) rm_X7_letters (va_Pc [.ref (lad L 306), .int a1, .int a2] (mB L sz σ)) (va_Qi K (mE L) (mA L sz)) 0 0 (mA L sz) := by
  refine v_start (own := RX7) [(0, .ref (lad L 306)), (1, .int a1), (2, .int a2)] (by decide) rfl (Nat.le_of_ble_eq_true rfl) rfl (fun p e s m args below meth c C hret hlk => ?_)
  unfold w_X7_letters at h
  refine v_iconst C (v := 0) dX7_letters_0 rfl ?_
  refine v_istore_n C [(3, .int 0), (0, .ref (lad L 306)), (1, .int a1), (2, .int a2)] dX7_letters_1 rfl (by decide) rfl ?_
  refine v_iconst C (v := 0) dX7_letters_2 rfl ?_
  refine v_istore C [(4, .int 0), (3, .int 0), (0, .ref (lad L 306)), (1, .int a1), (2, .int a2)] dX7_letters_3 (by decide) rfl ?_
  obtain ⟨n9, h⟩ := h
  refine v_sub [2, 3, 4, 1, 0] rfl ?_
  exact b_X7_letters_5 C hret hlk a1 a2  K   n9 _ _ _  h
theorem hd_X7_letters : yX7_letters.cls ≠ "java/lang/invoke/MethodHandle" ∧ yX7_letters.cls ≠ "java/lang/invoke/VarHandle" ∧ (parseMethodDescriptor yX7_letters.desc).map (fun d => d.parameters.length) = some 2 := by decide +kernel
theorem k_X7_letters {p : Program} {l : Launch} {e : Env} {R : Room} {s : State} {m : MethodId} {args : Array Value} {below : List Frame} {meth : Method} {c : Code} {nL cells slots : Nat} {Q : State → Prop} {A : Nat → Prop} {L : Ly} {own : String} {cc : ByteArray} {σ : Mem} {pc idx : Nat} {lv : List (Nat × Value)} {st : List Value} {K : Int32 → Mem → Prop} (C : Cx p R s m args meth c own cc nL cells slots A L) (a1 : Int32) (a2 : Int32)  (h : w_X7_letters a1 a2 σ K) (hml : Cond.methodLink own idx yX7_letters ∈ wA) (hR : rm_X7_letters.frames + 1 ≤ R.frames ∧ 8 + (5 + 11) + rm_X7_letters.locals ≤ R.locals) (hsum : (st.map fun v => v.category).sum ≤ 8) (d : decode cc pc = .ok (.invokevirtual idx, 3)) (kk : ∀ r σ1, K r σ1 → V p l e R s m args below meth c nL cells slots Q A L σ1 (pc + 3) lv (.int r :: st)) : V p l e R s m args below meth c nL cells slots Q A L σ pc lv (.int a2 :: .int a1 :: .ref (lad L 306) :: st) := v_callVi C [.int a1, .int a2] (fun sz => c_X7_letters l L a1 a2 σ _  h sz) mC_X7_letters mZ_X7 hd_X7_letters mI_X7_letters mS_X7_letters rfl rfl (c0 := 7) (ci := 7) (by decide) rfl rfl rfl kdn_306 hml hR rfl hsum d kk
-- ===== RX7.summary
abbrev rm_X7_summary : Room := { frames := 5, cells := 0, slots := 0, locals := 116 }
def w_X7_summary (a1 : Int32) (a2 : Int32) (σ : Mem) (K : Int32 → Mem → Prop) : Prop := (w_X7_looks a1 σ (fun r2 σ1 => (br (r2 = (-5)) (K (-1) σ1) (br (a2 = 0) (w_X7_of r2 0 σ1 (fun r23 σ22 => (K r23 σ22))) (br (a2 = 1) (w_X7_counters r2 σ1 (fun r21 σ20 => (K r21 σ20))) (br (a2 = 2) (w_X7_of r2 1 σ1 (fun r19 σ18 => (K r19 σ18))) (br (a2 = 3) (w_X7_of r2 2 σ1 (fun r17 σ16 => (K r17 σ16))) (br (a2 = 4) (w_X7_greatestSlack r2 σ1 (fun r15 σ14 => (K r15 σ14))) (br (a2 = 5) (w_X7_letters r2 0 σ1 (fun r13 σ12 => (K r13 σ12))) (br (a2 = 6) (w_X7_letters r2 1 σ1 (fun r11 σ10 => (K r11 σ10))) (K (-2) σ1)))))))))))
set_option maxHeartbeats 4000000 in
set_option maxRecDepth 100000 in
theorem c_X7_summary (l : Launch) (L : Ly) (a1 : Int32) (a2 : Int32) (σ : Mem) (K : Int32 → Mem → Prop)  (h : w_X7_summary a1 a2 σ K) (sz : Nat) : Met l yX7_summary (.code yX7_summary cX7_summary 4 (some .int) :: wA) rm_X7_summary (va_Pc [.ref (lad L 306), .int a1, .int a2] (mB L sz σ)) (va_Qi K (mE L) (mA L sz)) 0 0 (mA L sz) := by
  refine v_start (own := RX7) [(0, .ref (lad L 306)), (1, .int a1), (2, .int a2)] (by decide) rfl (Nat.le_of_ble_eq_true rfl) rfl (fun p e s m args below meth c C hret hlk => ?_)
  unfold w_X7_summary at h
  refine v_aload_n C dX7_summary_0 rfl 0 rfl ?_
  refine v_iload_n C dX7_summary_1 rfl 1 rfl ?_
  refine k_X7_looks C a1  h mM_X7_157 ⟨Nat.le_of_ble_eq_true rfl, Nat.le_of_ble_eq_true rfl⟩ (Nat.le_of_ble_eq_true rfl) dX7_summary_2 (fun r2 σ1 h => ?_)
  refine v_istore_n C [(3, .int r2), (0, .ref (lad L 306)), (1, .int a1), (2, .int a2)] dX7_summary_5 rfl (by decide) rfl ?_
  refine v_iload_n C dX7_summary_6 rfl 0 rfl ?_
  refine v_bipush C (v := (-5)) dX7_summary_7 rfl ?_
  refine v_icmp_ne C (tgt := 14) dX7_summary_9 (by decide) (fun hc => ?_) (fun hc => ?_)
  · replace h := h.2 hc
    refine v_iload_n C dX7_summary_14 rfl 3 rfl ?_
    by_cases hn3 : a2 = 0
    · replace h := h.1 hn3
      refine v_tabIn C (tgt := 56) (v := 0) dX7_summary_15 hn3 (by decide) (by decide) rfl (by decide) ?_
      refine v_aload_n C dX7_summary_56 rfl 1 rfl ?_
      refine v_iload_n C dX7_summary_57 rfl 0 rfl ?_
      refine v_iconst C (v := 0) dX7_summary_58 rfl ?_
      refine k_X7_of C r2 0  h mM_X7_47 ⟨Nat.le_of_ble_eq_true rfl, Nat.le_of_ble_eq_true rfl⟩ (Nat.le_of_ble_eq_true rfl) dX7_summary_59 (fun r23 σ22 h => ?_)
      exact v_iret C dX7_summary_62 hret hlk h
    · replace h := h.2 hn3
      by_cases hn4 : a2 = 1
      · replace h := h.1 hn4
        refine v_tabIn C (tgt := 63) (v := 1) dX7_summary_15 hn4 (by decide) (by decide) rfl (by decide) ?_
        refine v_aload_n C dX7_summary_63 rfl 1 rfl ?_
        refine v_iload_n C dX7_summary_64 rfl 0 rfl ?_
        refine k_X7_counters C r2  h mM_X7_65 ⟨Nat.le_of_ble_eq_true rfl, Nat.le_of_ble_eq_true rfl⟩ (Nat.le_of_ble_eq_true rfl) dX7_summary_65 (fun r21 σ20 h => ?_)
        exact v_iret C dX7_summary_68 hret hlk h
      · replace h := h.2 hn4
        by_cases hn5 : a2 = 2
        · replace h := h.1 hn5
          refine v_tabIn C (tgt := 69) (v := 2) dX7_summary_15 hn5 (by decide) (by decide) rfl (by decide) ?_
          refine v_aload_n C dX7_summary_69 rfl 1 rfl ?_
          refine v_iload_n C dX7_summary_70 rfl 0 rfl ?_
          refine v_iconst C (v := 1) dX7_summary_71 rfl ?_
          refine k_X7_of C r2 1  h mM_X7_47 ⟨Nat.le_of_ble_eq_true rfl, Nat.le_of_ble_eq_true rfl⟩ (Nat.le_of_ble_eq_true rfl) dX7_summary_72 (fun r19 σ18 h => ?_)
          exact v_iret C dX7_summary_75 hret hlk h
        · replace h := h.2 hn5
          by_cases hn6 : a2 = 3
          · replace h := h.1 hn6
            refine v_tabIn C (tgt := 76) (v := 3) dX7_summary_15 hn6 (by decide) (by decide) rfl (by decide) ?_
            refine v_aload_n C dX7_summary_76 rfl 1 rfl ?_
            refine v_iload_n C dX7_summary_77 rfl 0 rfl ?_
            refine v_iconst C (v := 2) dX7_summary_78 rfl ?_
            refine k_X7_of C r2 2  h mM_X7_47 ⟨Nat.le_of_ble_eq_true rfl, Nat.le_of_ble_eq_true rfl⟩ (Nat.le_of_ble_eq_true rfl) dX7_summary_79 (fun r17 σ16 h => ?_)
            exact v_iret C dX7_summary_82 hret hlk h
          · replace h := h.2 hn6
            by_cases hn7 : a2 = 4
            · replace h := h.1 hn7
              refine v_tabIn C (tgt := 83) (v := 4) dX7_summary_15 hn7 (by decide) (by decide) rfl (by decide) ?_
              refine v_aload_n C dX7_summary_83 rfl 1 rfl ?_
              refine v_iload_n C dX7_summary_84 rfl 0 rfl ?_
              refine k_X7_greatestSlack C r2  h mM_X7_160 ⟨Nat.le_of_ble_eq_true rfl, Nat.le_of_ble_eq_true rfl⟩ (Nat.le_of_ble_eq_true rfl) dX7_summary_85 (fun r15 σ14 h => ?_)
              exact v_iret C dX7_summary_88 hret hlk h
            · replace h := h.2 hn7
              by_cases hn8 : a2 = 5
              · replace h := h.1 hn8
                refine v_tabIn C (tgt := 89) (v := 5) dX7_summary_15 hn8 (by decide) (by decide) rfl (by decide) ?_
                refine v_aload_n C dX7_summary_89 rfl 1 rfl ?_
                refine v_iload_n C dX7_summary_90 rfl 0 rfl ?_
                refine v_iconst C (v := 0) dX7_summary_91 rfl ?_
                refine k_X7_letters C r2 0  h mM_X7_163 ⟨Nat.le_of_ble_eq_true rfl, Nat.le_of_ble_eq_true rfl⟩ (Nat.le_of_ble_eq_true rfl) dX7_summary_92 (fun r13 σ12 h => ?_)
                exact v_iret C dX7_summary_95 hret hlk h
              · replace h := h.2 hn8
                by_cases hn9 : a2 = 6
                · replace h := h.1 hn9
                  refine v_tabIn C (tgt := 96) (v := 6) dX7_summary_15 hn9 (by decide) (by decide) rfl (by decide) ?_
                  refine v_aload_n C dX7_summary_96 rfl 1 rfl ?_
                  refine v_iload_n C dX7_summary_97 rfl 0 rfl ?_
                  refine v_iconst C (v := 1) dX7_summary_98 rfl ?_
                  refine k_X7_letters C r2 1  h mM_X7_163 ⟨Nat.le_of_ble_eq_true rfl, Nat.le_of_ble_eq_true rfl⟩ (Nat.le_of_ble_eq_true rfl) dX7_summary_99 (fun r11 σ10 h => ?_)
                  exact v_iret C dX7_summary_102 hret hlk h
                · replace h := h.2 hn9
                  refine v_tabOut C (tgt := 103) dX7_summary_15 (by have thn3 := lv_neT hn3 (a := 0) (by decide); have thn4 := lv_neT hn4 (a := 1) (by decide); have thn5 := lv_neT hn5 (a := 2) (by decide); have thn6 := lv_neT hn6 (a := 3) (by decide); have thn7 := lv_neT hn7 (a := 4) (by decide); have thn8 := lv_neT hn8 (a := 5) (by decide); have thn9 := lv_neT hn9 (a := 6) (by decide); omega) (by decide) ?_
                  refine v_bipush C (v := (-2)) dX7_summary_103 rfl ?_
                  exact v_iret C dX7_summary_105 hret hlk h
  · replace h := h.1 hc
    refine v_iconst C (v := (-1)) dX7_summary_12 rfl ?_
    exact v_iret C dX7_summary_13 hret hlk h
theorem hd_X7_summary : yX7_summary.cls ≠ "java/lang/invoke/MethodHandle" ∧ yX7_summary.cls ≠ "java/lang/invoke/VarHandle" ∧ (parseMethodDescriptor yX7_summary.desc).map (fun d => d.parameters.length) = some 2 := by decide +kernel
theorem k_X7_summary {p : Program} {l : Launch} {e : Env} {R : Room} {s : State} {m : MethodId} {args : Array Value} {below : List Frame} {meth : Method} {c : Code} {nL cells slots : Nat} {Q : State → Prop} {A : Nat → Prop} {L : Ly} {own : String} {cc : ByteArray} {σ : Mem} {pc idx : Nat} {lv : List (Nat × Value)} {st : List Value} {K : Int32 → Mem → Prop} (C : Cx p R s m args meth c own cc nL cells slots A L) (a1 : Int32) (a2 : Int32)  (h : w_X7_summary a1 a2 σ K) (hml : Cond.methodLink own idx yX7_summary ∈ wA) (hR : rm_X7_summary.frames + 1 ≤ R.frames ∧ 8 + (4 + 11) + rm_X7_summary.locals ≤ R.locals) (hsum : (st.map fun v => v.category).sum ≤ 8) (d : decode cc pc = .ok (.invokevirtual idx, 3)) (kk : ∀ r σ1, K r σ1 → V p l e R s m args below meth c nL cells slots Q A L σ1 (pc + 3) lv (.int r :: st)) : V p l e R s m args below meth c nL cells slots Q A L σ pc lv (.int a2 :: .int a1 :: .ref (lad L 306) :: st) := v_callVi C [.int a1, .int a2] (fun sz => c_X7_summary l L a1 a2 σ _  h sz) mC_X7_summary mZ_X7 hd_X7_summary mI_X7_summary mS_X7_summary rfl rfl (c0 := 7) (ci := 7) (by decide) rfl rfl rfl kdn_306 hml hR rfl hsum d kk
-- ===== RX7.upper
abbrev rm_X7_upper : Room := { frames := 3, cells := 0, slots := 0, locals := 65 }
def w_X7_upper (a1 : Int32) (a2 : Int32) (σ : Mem) (K : Int32 → Mem → Prop) : Prop := (w_X7_has a1 a2 σ (fun r2 σ1 => (br (r2 = 0) (w_X7_of a1 1 σ1 (fun r4 σ3 => (K r4 σ3))) (w_X7_its a1 a2 1 σ1 (fun r6 σ5 => (K r6 σ5))))))
set_option maxHeartbeats 4000000 in
set_option maxRecDepth 100000 in
theorem c_X7_upper (l : Launch) (L : Ly) (a1 : Int32) (a2 : Int32) (σ : Mem) (K : Int32 → Mem → Prop)  (h : w_X7_upper a1 a2 σ K) (sz : Nat) : Met l yX7_upper (.code yX7_upper cX7_upper 3 (some .int) :: wA) rm_X7_upper (va_Pc [.ref (lad L 306), .int a1, .int a2] (mB L sz σ)) (va_Qi K (mE L) (mA L sz)) 0 0 (mA L sz) := by
  refine v_start (own := RX7) [(0, .ref (lad L 306)), (1, .int a1), (2, .int a2)] (by decide) rfl (Nat.le_of_ble_eq_true rfl) rfl (fun p e s m args below meth c C hret hlk => ?_)
  unfold w_X7_upper at h
  refine v_aload_n C dX7_upper_0 rfl 0 rfl ?_
  refine v_iload_n C dX7_upper_1 rfl 1 rfl ?_
  refine v_iload_n C dX7_upper_2 rfl 2 rfl ?_
  refine k_X7_has C a1 a2  h mM_X7_43 ⟨Nat.le_of_ble_eq_true rfl, Nat.le_of_ble_eq_true rfl⟩ (Nat.le_of_ble_eq_true rfl) dX7_upper_3 (fun r2 σ1 h => ?_)
  refine v_if_eq C (tgt := 19) dX7_upper_6 (by decide) (fun hc => ?_) (fun hc => ?_)
  · replace h := h.1 hc
    refine v_aload_n C dX7_upper_19 rfl 0 rfl ?_
    refine v_iload_n C dX7_upper_20 rfl 1 rfl ?_
    refine v_iconst C (v := 1) dX7_upper_21 rfl ?_
    refine k_X7_of C a1 1  h mM_X7_47 ⟨Nat.le_of_ble_eq_true rfl, Nat.le_of_ble_eq_true rfl⟩ (Nat.le_of_ble_eq_true rfl) dX7_upper_22 (fun r4 σ3 h => ?_)
    exact v_iret C dX7_upper_25 hret hlk h
  · replace h := h.2 hc
    refine v_aload_n C dX7_upper_9 rfl 0 rfl ?_
    refine v_iload_n C dX7_upper_10 rfl 1 rfl ?_
    refine v_iload_n C dX7_upper_11 rfl 2 rfl ?_
    refine v_iconst C (v := 1) dX7_upper_12 rfl ?_
    refine k_X7_its C a1 a2 1  h mM_X7_31 ⟨Nat.le_of_ble_eq_true rfl, Nat.le_of_ble_eq_true rfl⟩ (Nat.le_of_ble_eq_true rfl) dX7_upper_13 (fun r6 σ5 h => ?_)
    refine v_goto C (tgt := 25) dX7_upper_16 (by decide) ?_
    exact v_iret C dX7_upper_25 hret hlk h
theorem hd_X7_upper : yX7_upper.cls ≠ "java/lang/invoke/MethodHandle" ∧ yX7_upper.cls ≠ "java/lang/invoke/VarHandle" ∧ (parseMethodDescriptor yX7_upper.desc).map (fun d => d.parameters.length) = some 2 := by decide +kernel
theorem k_X7_upper {p : Program} {l : Launch} {e : Env} {R : Room} {s : State} {m : MethodId} {args : Array Value} {below : List Frame} {meth : Method} {c : Code} {nL cells slots : Nat} {Q : State → Prop} {A : Nat → Prop} {L : Ly} {own : String} {cc : ByteArray} {σ : Mem} {pc idx : Nat} {lv : List (Nat × Value)} {st : List Value} {K : Int32 → Mem → Prop} (C : Cx p R s m args meth c own cc nL cells slots A L) (a1 : Int32) (a2 : Int32)  (h : w_X7_upper a1 a2 σ K) (hml : Cond.methodLink own idx yX7_upper ∈ wA) (hR : rm_X7_upper.frames + 1 ≤ R.frames ∧ 8 + (3 + 11) + rm_X7_upper.locals ≤ R.locals) (hsum : (st.map fun v => v.category).sum ≤ 8) (d : decode cc pc = .ok (.invokevirtual idx, 3)) (kk : ∀ r σ1, K r σ1 → V p l e R s m args below meth c nL cells slots Q A L σ1 (pc + 3) lv (.int r :: st)) : V p l e R s m args below meth c nL cells slots Q A L σ pc lv (.int a2 :: .int a1 :: .ref (lad L 306) :: st) := v_callVi C [.int a1, .int a2] (fun sz => c_X7_upper l L a1 a2 σ _  h sz) mC_X7_upper mZ_X7 hd_X7_upper mI_X7_upper mS_X7_upper rfl rfl (c0 := 7) (ci := 7) (by decide) rfl rfl rfl kdn_306 hml hR rfl hsum d kk
-- ===== RX7.lower
abbrev rm_X7_lower : Room := { frames := 3, cells := 0, slots := 0, locals := 65 }
def w_X7_lower (a1 : Int32) (a2 : Int32) (σ : Mem) (K : Int32 → Mem → Prop) : Prop := (w_X7_has a1 a2 σ (fun r2 σ1 => (br (r2 = 0) (K 0 σ1) (w_X7_its a1 a2 1 σ1 (fun r4 σ3 => (w_X7_its a1 a2 2 σ3 (fun r6 σ5 => (K (r4 - r6) σ5))))))))
set_option maxHeartbeats 4000000 in
set_option maxRecDepth 100000 in
theorem c_X7_lower (l : Launch) (L : Ly) (a1 : Int32) (a2 : Int32) (σ : Mem) (K : Int32 → Mem → Prop)  (h : w_X7_lower a1 a2 σ K) (sz : Nat) : Met l yX7_lower (.code yX7_lower cX7_lower 3 (some .int) :: wA) rm_X7_lower (va_Pc [.ref (lad L 306), .int a1, .int a2] (mB L sz σ)) (va_Qi K (mE L) (mA L sz)) 0 0 (mA L sz) := by
  refine v_start (own := RX7) [(0, .ref (lad L 306)), (1, .int a1), (2, .int a2)] (by decide) rfl (Nat.le_of_ble_eq_true rfl) rfl (fun p e s m args below meth c C hret hlk => ?_)
  unfold w_X7_lower at h
  refine v_aload_n C dX7_lower_0 rfl 0 rfl ?_
  refine v_iload_n C dX7_lower_1 rfl 1 rfl ?_
  refine v_iload_n C dX7_lower_2 rfl 2 rfl ?_
  refine k_X7_has C a1 a2  h mM_X7_43 ⟨Nat.le_of_ble_eq_true rfl, Nat.le_of_ble_eq_true rfl⟩ (Nat.le_of_ble_eq_true rfl) dX7_lower_3 (fun r2 σ1 h => ?_)
  refine v_if_eq C (tgt := 27) dX7_lower_6 (by decide) (fun hc => ?_) (fun hc => ?_)
  · replace h := h.1 hc
    refine v_iconst C (v := 0) dX7_lower_27 rfl ?_
    exact v_iret C dX7_lower_28 hret hlk h
  · replace h := h.2 hc
    refine v_aload_n C dX7_lower_9 rfl 0 rfl ?_
    refine v_iload_n C dX7_lower_10 rfl 1 rfl ?_
    refine v_iload_n C dX7_lower_11 rfl 2 rfl ?_
    refine v_iconst C (v := 1) dX7_lower_12 rfl ?_
    refine k_X7_its C a1 a2 1  h mM_X7_31 ⟨Nat.le_of_ble_eq_true rfl, Nat.le_of_ble_eq_true rfl⟩ (Nat.le_of_ble_eq_true rfl) dX7_lower_13 (fun r4 σ3 h => ?_)
    refine v_aload_n C dX7_lower_16 rfl 0 rfl ?_
    refine v_iload_n C dX7_lower_17 rfl 1 rfl ?_
    refine v_iload_n C dX7_lower_18 rfl 2 rfl ?_
    refine v_iconst C (v := 2) dX7_lower_19 rfl ?_
    refine k_X7_its C a1 a2 2  h mM_X7_31 ⟨Nat.le_of_ble_eq_true rfl, Nat.le_of_ble_eq_true rfl⟩ (Nat.le_of_ble_eq_true rfl) dX7_lower_20 (fun r6 σ5 h => ?_)
    refine v_isub C dX7_lower_23 ?_
    refine v_goto C (tgt := 28) dX7_lower_24 (by decide) ?_
    exact v_iret C dX7_lower_28 hret hlk h
theorem hd_X7_lower : yX7_lower.cls ≠ "java/lang/invoke/MethodHandle" ∧ yX7_lower.cls ≠ "java/lang/invoke/VarHandle" ∧ (parseMethodDescriptor yX7_lower.desc).map (fun d => d.parameters.length) = some 2 := by decide +kernel
theorem k_X7_lower {p : Program} {l : Launch} {e : Env} {R : Room} {s : State} {m : MethodId} {args : Array Value} {below : List Frame} {meth : Method} {c : Code} {nL cells slots : Nat} {Q : State → Prop} {A : Nat → Prop} {L : Ly} {own : String} {cc : ByteArray} {σ : Mem} {pc idx : Nat} {lv : List (Nat × Value)} {st : List Value} {K : Int32 → Mem → Prop} (C : Cx p R s m args meth c own cc nL cells slots A L) (a1 : Int32) (a2 : Int32)  (h : w_X7_lower a1 a2 σ K) (hml : Cond.methodLink own idx yX7_lower ∈ wA) (hR : rm_X7_lower.frames + 1 ≤ R.frames ∧ 8 + (3 + 11) + rm_X7_lower.locals ≤ R.locals) (hsum : (st.map fun v => v.category).sum ≤ 8) (d : decode cc pc = .ok (.invokevirtual idx, 3)) (kk : ∀ r σ1, K r σ1 → V p l e R s m args below meth c nL cells slots Q A L σ1 (pc + 3) lv (.int r :: st)) : V p l e R s m args below meth c nL cells slots Q A L σ pc lv (.int a2 :: .int a1 :: .ref (lad L 306) :: st) := v_callVi C [.int a1, .int a2] (fun sz => c_X7_lower l L a1 a2 σ _  h sz) mC_X7_lower mZ_X7 hd_X7_lower mI_X7_lower mS_X7_lower rfl rfl (c0 := 7) (ci := 7) (by decide) rfl rfl rfl kdn_306 hml hR rfl hsum d kk
-- ===== RX7.bound
abbrev rm_X7_bound : Room := { frames := 5, cells := 0, slots := 0, locals := 116 }
def w_X7_bound (a1 : Int32) (a2 : Int32) (a3 : Int32) (σ : Mem) (K : Int32 → Mem → Prop) : Prop := (w_X7_looks a1 σ (fun r2 σ1 => (br (r2 = (-5)) (K (-1) σ1) (w_X7_isLetter a2 σ1 (fun r4 σ3 => (br (r4 = 0) (K (-1) σ3) (∀ v5 : Int32, v5 = (a2 - 97) → (br (a3 = 0) (w_X7_upper r2 v5 σ3 (fun r24 σ23 => (K r24 σ23))) (br (a3 = 1) (w_X7_lower r2 v5 σ3 (fun r22 σ21 => (K r22 σ21))) (br (a3 = 2) (w_X7_its r2 v5 4 σ3 (fun r20 σ19 => (K r20 σ19))) (br (a3 = 3) (w_X7_has r2 v5 σ3 (fun r16 σ15 => (br (r16 = 0) (K (-5) σ15) (w_X7_its r2 v5 2 σ15 (fun r18 σ17 => (K r18 σ17)))))) (br (a3 = 4) (w_X7_has r2 v5 σ3 (fun r12 σ11 => (br (r12 = 0) (K (-5) σ11) (w_X7_its r2 v5 3 σ11 (fun r14 σ13 => (K r14 σ13)))))) (K (-2) σ3)))))))))))))
set_option maxHeartbeats 4000000 in
set_option maxRecDepth 100000 in
theorem c_X7_bound (l : Launch) (L : Ly) (a1 : Int32) (a2 : Int32) (a3 : Int32) (σ : Mem) (K : Int32 → Mem → Prop)  (h : w_X7_bound a1 a2 a3 σ K) (sz : Nat) : Met l yX7_bound (.code yX7_bound cX7_bound 6 (some .int) :: wA) rm_X7_bound (va_Pc [.ref (lad L 306), .int a1, .int a2, .int a3] (mB L sz σ)) (va_Qi K (mE L) (mA L sz)) 0 0 (mA L sz) := by
  refine v_start (own := RX7) [(0, .ref (lad L 306)), (1, .int a1), (2, .int a2), (3, .int a3)] (by decide) rfl (Nat.le_of_ble_eq_true rfl) rfl (fun p e s m args below meth c C hret hlk => ?_)
  unfold w_X7_bound at h
  refine v_aload_n C dX7_bound_0 rfl 0 rfl ?_
  refine v_iload_n C dX7_bound_1 rfl 1 rfl ?_
  refine k_X7_looks C a1  h mM_X7_157 ⟨Nat.le_of_ble_eq_true rfl, Nat.le_of_ble_eq_true rfl⟩ (Nat.le_of_ble_eq_true rfl) dX7_bound_2 (fun r2 σ1 h => ?_)
  refine v_istore C [(4, .int r2), (0, .ref (lad L 306)), (1, .int a1), (2, .int a2), (3, .int a3)] dX7_bound_5 (by decide) rfl ?_
  refine v_iload C dX7_bound_7 0 rfl ?_
  refine v_bipush C (v := (-5)) dX7_bound_9 rfl ?_
  refine v_icmp_eq C (tgt := 21) dX7_bound_11 (by decide) (fun hc => ?_) (fun hc => ?_)
  · replace h := h.1 hc
    refine v_iconst C (v := (-1)) dX7_bound_21 rfl ?_
    exact v_iret C dX7_bound_22 hret hlk h
  · replace h := h.2 hc
    refine v_iload_n C dX7_bound_14 rfl 3 rfl ?_
    refine k_X7_isLetter C a2  h mM_X7_76 ⟨Nat.le_of_ble_eq_true rfl, Nat.le_of_ble_eq_true rfl⟩ (Nat.le_of_ble_eq_true rfl) dX7_bound_15 (fun r4 σ3 h => ?_)
    refine v_if_ne C (tgt := 23) dX7_bound_18 (by decide) (fun hc => ?_) (fun hc => ?_)
    · replace h := h.2 hc
      refine v_iload_n C dX7_bound_23 rfl 3 rfl ?_
      refine v_bipush C (v := 97) dX7_bound_24 rfl ?_
      refine v_isub C dX7_bound_26 ?_
      refine v_nm (fun v5 ev5 => ?_)
      replace h := h v5 ev5
      refine v_istore C [(5, .int v5), (4, .int r2), (0, .ref (lad L 306)), (1, .int a1), (2, .int a2), (3, .int a3)] dX7_bound_27 (by decide) rfl ?_
      refine v_iload_n C dX7_bound_29 rfl 5 rfl ?_
      by_cases hn6 : a3 = 0
      · replace h := h.1 hn6
        refine v_tabIn C (tgt := 64) (v := 0) dX7_bound_30 hn6 (by decide) (by decide) rfl (by decide) ?_
        refine v_aload_n C dX7_bound_64 rfl 2 rfl ?_
        refine v_iload C dX7_bound_65 1 rfl ?_
        refine v_iload C dX7_bound_67 0 rfl ?_
        refine k_X7_upper C r2 v5  h mM_X7_166 ⟨Nat.le_of_ble_eq_true rfl, Nat.le_of_ble_eq_true rfl⟩ (Nat.le_of_ble_eq_true rfl) dX7_bound_69 (fun r24 σ23 h => ?_)
        exact v_iret C dX7_bound_72 hret hlk h
      · replace h := h.2 hn6
        by_cases hn7 : a3 = 1
        · replace h := h.1 hn7
          refine v_tabIn C (tgt := 73) (v := 1) dX7_bound_30 hn7 (by decide) (by decide) rfl (by decide) ?_
          refine v_aload_n C dX7_bound_73 rfl 2 rfl ?_
          refine v_iload C dX7_bound_74 1 rfl ?_
          refine v_iload C dX7_bound_76 0 rfl ?_
          refine k_X7_lower C r2 v5  h mM_X7_169 ⟨Nat.le_of_ble_eq_true rfl, Nat.le_of_ble_eq_true rfl⟩ (Nat.le_of_ble_eq_true rfl) dX7_bound_78 (fun r22 σ21 h => ?_)
          exact v_iret C dX7_bound_81 hret hlk h
        · replace h := h.2 hn7
          by_cases hn8 : a3 = 2
          · replace h := h.1 hn8
            refine v_tabIn C (tgt := 82) (v := 2) dX7_bound_30 hn8 (by decide) (by decide) rfl (by decide) ?_
            refine v_aload_n C dX7_bound_82 rfl 2 rfl ?_
            refine v_iload C dX7_bound_83 1 rfl ?_
            refine v_iload C dX7_bound_85 0 rfl ?_
            refine v_iconst C (v := 4) dX7_bound_87 rfl ?_
            refine k_X7_its C r2 v5 4  h mM_X7_31 ⟨Nat.le_of_ble_eq_true rfl, Nat.le_of_ble_eq_true rfl⟩ (Nat.le_of_ble_eq_true rfl) dX7_bound_88 (fun r20 σ19 h => ?_)
            exact v_iret C dX7_bound_91 hret hlk h
          · replace h := h.2 hn8
            by_cases hn9 : a3 = 3
            · replace h := h.1 hn9
              refine v_tabIn C (tgt := 92) (v := 3) dX7_bound_30 hn9 (by decide) (by decide) rfl (by decide) ?_
              refine v_aload_n C dX7_bound_92 rfl 2 rfl ?_
              refine v_iload C dX7_bound_93 1 rfl ?_
              refine v_iload C dX7_bound_95 0 rfl ?_
              refine k_X7_has C r2 v5  h mM_X7_43 ⟨Nat.le_of_ble_eq_true rfl, Nat.le_of_ble_eq_true rfl⟩ (Nat.le_of_ble_eq_true rfl) dX7_bound_97 (fun r16 σ15 h => ?_)
              refine v_if_eq C (tgt := 115) dX7_bound_100 (by decide) (fun hc => ?_) (fun hc => ?_)
              · replace h := h.1 hc
                refine v_bipush C (v := (-5)) dX7_bound_115 rfl ?_
                exact v_iret C dX7_bound_117 hret hlk h
              · replace h := h.2 hc
                refine v_aload_n C dX7_bound_103 rfl 2 rfl ?_
                refine v_iload C dX7_bound_104 1 rfl ?_
                refine v_iload C dX7_bound_106 0 rfl ?_
                refine v_iconst C (v := 2) dX7_bound_108 rfl ?_
                refine k_X7_its C r2 v5 2  h mM_X7_31 ⟨Nat.le_of_ble_eq_true rfl, Nat.le_of_ble_eq_true rfl⟩ (Nat.le_of_ble_eq_true rfl) dX7_bound_109 (fun r18 σ17 h => ?_)
                refine v_goto C (tgt := 117) dX7_bound_112 (by decide) ?_
                exact v_iret C dX7_bound_117 hret hlk h
            · replace h := h.2 hn9
              by_cases hn10 : a3 = 4
              · replace h := h.1 hn10
                refine v_tabIn C (tgt := 118) (v := 4) dX7_bound_30 hn10 (by decide) (by decide) rfl (by decide) ?_
                refine v_aload_n C dX7_bound_118 rfl 2 rfl ?_
                refine v_iload C dX7_bound_119 1 rfl ?_
                refine v_iload C dX7_bound_121 0 rfl ?_
                refine k_X7_has C r2 v5  h mM_X7_43 ⟨Nat.le_of_ble_eq_true rfl, Nat.le_of_ble_eq_true rfl⟩ (Nat.le_of_ble_eq_true rfl) dX7_bound_123 (fun r12 σ11 h => ?_)
                refine v_if_eq C (tgt := 141) dX7_bound_126 (by decide) (fun hc => ?_) (fun hc => ?_)
                · replace h := h.1 hc
                  refine v_bipush C (v := (-5)) dX7_bound_141 rfl ?_
                  exact v_iret C dX7_bound_143 hret hlk h
                · replace h := h.2 hc
                  refine v_aload_n C dX7_bound_129 rfl 2 rfl ?_
                  refine v_iload C dX7_bound_130 1 rfl ?_
                  refine v_iload C dX7_bound_132 0 rfl ?_
                  refine v_iconst C (v := 3) dX7_bound_134 rfl ?_
                  refine k_X7_its C r2 v5 3  h mM_X7_31 ⟨Nat.le_of_ble_eq_true rfl, Nat.le_of_ble_eq_true rfl⟩ (Nat.le_of_ble_eq_true rfl) dX7_bound_135 (fun r14 σ13 h => ?_)
                  refine v_goto C (tgt := 143) dX7_bound_138 (by decide) ?_
                  exact v_iret C dX7_bound_143 hret hlk h
              · replace h := h.2 hn10
                refine v_tabOut C (tgt := 144) dX7_bound_30 (by have thn6 := lv_neT hn6 (a := 0) (by decide); have thn7 := lv_neT hn7 (a := 1) (by decide); have thn8 := lv_neT hn8 (a := 2) (by decide); have thn9 := lv_neT hn9 (a := 3) (by decide); have thn10 := lv_neT hn10 (a := 4) (by decide); omega) (by decide) ?_
                refine v_bipush C (v := (-2)) dX7_bound_144 rfl ?_
                exact v_iret C dX7_bound_146 hret hlk h
    · replace h := h.1 hc
      refine v_iconst C (v := (-1)) dX7_bound_21 rfl ?_
      exact v_iret C dX7_bound_22 hret hlk h
theorem hd_X7_bound : yX7_bound.cls ≠ "java/lang/invoke/MethodHandle" ∧ yX7_bound.cls ≠ "java/lang/invoke/VarHandle" ∧ (parseMethodDescriptor yX7_bound.desc).map (fun d => d.parameters.length) = some 3 := by decide +kernel
theorem k_X7_bound {p : Program} {l : Launch} {e : Env} {R : Room} {s : State} {m : MethodId} {args : Array Value} {below : List Frame} {meth : Method} {c : Code} {nL cells slots : Nat} {Q : State → Prop} {A : Nat → Prop} {L : Ly} {own : String} {cc : ByteArray} {σ : Mem} {pc idx : Nat} {lv : List (Nat × Value)} {st : List Value} {K : Int32 → Mem → Prop} (C : Cx p R s m args meth c own cc nL cells slots A L) (a1 : Int32) (a2 : Int32) (a3 : Int32)  (h : w_X7_bound a1 a2 a3 σ K) (hml : Cond.methodLink own idx yX7_bound ∈ wA) (hR : rm_X7_bound.frames + 1 ≤ R.frames ∧ 8 + (6 + 11) + rm_X7_bound.locals ≤ R.locals) (hsum : (st.map fun v => v.category).sum ≤ 8) (d : decode cc pc = .ok (.invokevirtual idx, 3)) (kk : ∀ r σ1, K r σ1 → V p l e R s m args below meth c nL cells slots Q A L σ1 (pc + 3) lv (.int r :: st)) : V p l e R s m args below meth c nL cells slots Q A L σ pc lv (.int a3 :: .int a2 :: .int a1 :: .ref (lad L 306) :: st) := v_callVi C [.int a1, .int a2, .int a3] (fun sz => c_X7_bound l L a1 a2 a3 σ _  h sz) mC_X7_bound mZ_X7 hd_X7_bound mI_X7_bound mS_X7_bound rfl rfl (c0 := 7) (ci := 7) (by decide) rfl rfl rfl kdn_306 hml hR rfl hsum d kk
-- ===== RX7.top
abbrev rm_X7_top : Room := { frames := 5, cells := 0, slots := 0, locals := 116 }
def w_X7_top_48 (a1 : Int32) (a2 : Int32) (a3 : Int32) (K : Int32 → Mem → Prop) (A35 : Int32 → Int32 → Mem → Prop) : Nat → Int32 → Int32 → Int32 → Int32 → Mem → Prop
  | 0, _, _, _, _, _ => False
  | n + 1, x4, x5, x6, x7, σ => (br (26 ≤ x7) (w_X7_has x4 x5 σ (fun r6 σ5 => (br (r6 = 0) (A35 x4 (x5 + 1) σ5) (br (x6 = a2) (br (a3 = 0) (K (97 + x5) σ5) (w_X7_its x4 x5 1 σ5 (fun r8 σ7 => (K r8 σ7)))) (A35 x4 (x5 + 1) σ5))))) (w_X7_its x4 x7 1 σ (fun r10 σ9 => (w_X7_its x4 x5 1 σ9 (fun r12 σ11 => (∀ v13 : Int32, v13 = (r10 - r12) → (w_X7_has x4 x7 σ11 (fun r15 σ14 => (br (r15 = 0) (∀ v16 : Int32, v16 = (x6 + 0) → (w_X7_top_48 a1 a2 a3 K A35 n x4 x5 v16 (x7 + 1) σ14)) (br (0 < v13) (∀ v17 : Int32, v17 = (x6 + 1) → (w_X7_top_48 a1 a2 a3 K A35 n x4 x5 v17 (x7 + 1) σ14)) (br (v13 = 0) (br (x5 ≤ x7) (∀ v19 : Int32, v19 = (x6 + 0) → (w_X7_top_48 a1 a2 a3 K A35 n x4 x5 v19 (x7 + 1) σ14)) (∀ v20 : Int32, v20 = (x6 + 1) → (w_X7_top_48 a1 a2 a3 K A35 n x4 x5 v20 (x7 + 1) σ14))) (∀ v18 : Int32, v18 = (x6 + 0) → (w_X7_top_48 a1 a2 a3 K A35 n x4 x5 v18 (x7 + 1) σ14)))))))))))))
set_option maxHeartbeats 4000000 in
set_option maxRecDepth 100000 in
theorem b_X7_top_48 {p : Program} {l : Launch} {e : Env} {s : State} {m : MethodId} {args : Array Value} {below : List Frame} {meth : Method} {c : Code} {L : Ly} {sz : Nat} (C : Cx p rm_X7_top s m args meth c RX7 cX7_top 9 0 0 (mA L sz) L) (hret : meth.sig.returnType = (some .int)) (hlk : meth.locks = false) (a1 : Int32) (a2 : Int32) (a3 : Int32)  (K : Int32 → Mem → Prop) (A35 : Int32 → Int32 → Mem → Prop) (hA35 : ∀ (x4 : Int32) (x5 : Int32) (σ : Mem), A35 x4 x5 σ → V p l e rm_X7_top s m args below meth c 9 0 0 (MQ below (va_Qi K (mE L) (mA L sz)) args s 0 0 (mA L sz)) (mA L sz) L σ 35 [(0, .ref (lad L 306)), (1, .int a1), (2, .int a2), (3, .int a3), (4, .int x4), (5, .int x5)] []) : ∀ (n : Nat) (x4 : Int32) (x5 : Int32) (x6 : Int32) (x7 : Int32) (σ : Mem), w_X7_top_48 a1 a2 a3 K A35 n x4 x5 x6 x7 σ → V p l e rm_X7_top s m args below meth c 9 0 0 (MQ below (va_Qi K (mE L) (mA L sz)) args s 0 0 (mA L sz)) (mA L sz) L σ 48 [(0, .ref (lad L 306)), (1, .int a1), (2, .int a2), (3, .int a3), (4, .int x4), (5, .int x5), (6, .int x6), (7, .int x7)] [] := by
  intro n
  induction n with
  | zero => intro x4 x5 x6 x7 σ  h; exact h.elim
  | succ n ih =>
    intro x4 x5 x6 x7 σ  h
    rw [w_X7_top_48] at h
    refine v_iload C dX7_top_48 7 rfl ?_
    refine v_bipush C (v := 26) dX7_top_50 rfl ?_
    refine v_icmp_ge C (tgt := 120) dX7_top_52 (by decide) (fun hc => ?_) (fun hc => ?_)
    · replace h := h.1 hc
      refine v_aload_n C dX7_top_120 rfl 0 rfl ?_
      refine v_iload C dX7_top_121 4 rfl ?_
      refine v_iload C dX7_top_123 5 rfl ?_
      refine k_X7_has C x4 x5  h mM_X7_43 ⟨Nat.le_of_ble_eq_true rfl, Nat.le_of_ble_eq_true rfl⟩ (Nat.le_of_ble_eq_true rfl) dX7_top_125 (fun r6 σ5 h => ?_)
      refine v_if_eq C (tgt := 159) dX7_top_128 (by decide) (fun hc => ?_) (fun hc => ?_)
      · replace h := h.1 hc
        refine v_iinc C [(5, .int (x5 + 1)), (0, .ref (lad L 306)), (1, .int a1), (2, .int a2), (3, .int a3), (4, .int x4), (6, .int x6), (7, .int x7)] dX7_top_159 5 rfl rfl (by decide) rfl ?_
        refine v_goto C (tgt := 35) dX7_top_162 (by decide) ?_
        refine v_sub [1, 2, 3, 4, 5, 0] rfl ?_
        exact hA35 _ _ _  h
      · replace h := h.2 hc
        refine v_iload C dX7_top_131 6 rfl ?_
        refine v_iload_n C dX7_top_133 rfl 2 rfl ?_
        refine v_icmp_ne C (tgt := 159) dX7_top_134 (by decide) (fun hc => ?_) (fun hc => ?_)
        · replace h := h.2 hc
          refine v_iinc C [(5, .int (x5 + 1)), (0, .ref (lad L 306)), (1, .int a1), (2, .int a2), (3, .int a3), (4, .int x4), (6, .int x6), (7, .int x7)] dX7_top_159 5 rfl rfl (by decide) rfl ?_
          refine v_goto C (tgt := 35) dX7_top_162 (by decide) ?_
          refine v_sub [1, 2, 3, 4, 5, 0] rfl ?_
          exact hA35 _ _ _  h
        · replace h := h.1 hc
          refine v_iload_n C dX7_top_137 rfl 3 rfl ?_
          refine v_if_ne C (tgt := 149) dX7_top_138 (by decide) (fun hc => ?_) (fun hc => ?_)
          · replace h := h.2 hc
            refine v_aload_n C dX7_top_149 rfl 0 rfl ?_
            refine v_iload C dX7_top_150 4 rfl ?_
            refine v_iload C dX7_top_152 5 rfl ?_
            refine v_iconst C (v := 1) dX7_top_154 rfl ?_
            refine k_X7_its C x4 x5 1  h mM_X7_31 ⟨Nat.le_of_ble_eq_true rfl, Nat.le_of_ble_eq_true rfl⟩ (Nat.le_of_ble_eq_true rfl) dX7_top_155 (fun r8 σ7 h => ?_)
            exact v_iret C dX7_top_158 hret hlk h
          · replace h := h.1 hc
            refine v_bipush C (v := 97) dX7_top_141 rfl ?_
            refine v_iload C dX7_top_143 5 rfl ?_
            refine v_iadd C dX7_top_145 ?_
            refine v_goto C (tgt := 158) dX7_top_146 (by decide) ?_
            exact v_iret C dX7_top_158 hret hlk h
    · replace h := h.2 hc
      refine v_aload_n C dX7_top_55 rfl 0 rfl ?_
      refine v_iload C dX7_top_56 4 rfl ?_
      refine v_iload C dX7_top_58 7 rfl ?_
      refine v_iconst C (v := 1) dX7_top_60 rfl ?_
      refine k_X7_its C x4 x7 1  h mM_X7_31 ⟨Nat.le_of_ble_eq_true rfl, Nat.le_of_ble_eq_true rfl⟩ (Nat.le_of_ble_eq_true rfl) dX7_top_61 (fun r10 σ9 h => ?_)
      refine v_aload_n C dX7_top_64 rfl 0 rfl ?_
      refine v_iload C dX7_top_65 4 rfl ?_
      refine v_iload C dX7_top_67 5 rfl ?_
      refine v_iconst C (v := 1) dX7_top_69 rfl ?_
      refine k_X7_its C x4 x5 1  h mM_X7_31 ⟨Nat.le_of_ble_eq_true rfl, Nat.le_of_ble_eq_true rfl⟩ (Nat.le_of_ble_eq_true rfl) dX7_top_70 (fun r12 σ11 h => ?_)
      refine v_isub C dX7_top_73 ?_
      refine v_nm (fun v13 ev13 => ?_)
      replace h := h v13 ev13
      refine v_istore C [(8, .int v13), (0, .ref (lad L 306)), (1, .int a1), (2, .int a2), (3, .int a3), (4, .int x4), (5, .int x5), (6, .int x6), (7, .int x7)] dX7_top_74 (by decide) rfl ?_
      refine v_iload C dX7_top_76 7 rfl ?_
      refine v_aload_n C dX7_top_78 rfl 1 rfl ?_
      refine v_iload C dX7_top_79 5 rfl ?_
      refine v_iload C dX7_top_81 8 rfl ?_
      refine k_X7_has C x4 x7  h mM_X7_43 ⟨Nat.le_of_ble_eq_true rfl, Nat.le_of_ble_eq_true rfl⟩ (Nat.le_of_ble_eq_true rfl) dX7_top_83 (fun r15 σ14 h => ?_)
      refine v_if_eq C (tgt := 110) dX7_top_86 (by decide) (fun hc => ?_) (fun hc => ?_)
      · replace h := h.1 hc
        refine v_iconst C (v := 0) dX7_top_110 rfl ?_
        refine v_iadd C dX7_top_111 ?_
        refine v_nm (fun v16 ev16 => ?_)
        replace h := h v16 ev16
        refine v_istore C [(6, .int v16), (8, .int v13), (0, .ref (lad L 306)), (1, .int a1), (2, .int a2), (3, .int a3), (4, .int x4), (5, .int x5), (7, .int x7)] dX7_top_112 (by decide) rfl ?_
        refine v_iinc C [(7, .int (x7 + 1)), (6, .int v16), (8, .int v13), (0, .ref (lad L 306)), (1, .int a1), (2, .int a2), (3, .int a3), (4, .int x4), (5, .int x5)] dX7_top_114 8 rfl rfl (by decide) rfl ?_
        refine v_goto C (tgt := 48) dX7_top_117 (by decide) ?_
        refine v_sub [3, 4, 5, 6, 7, 8, 1, 0] rfl ?_
        exact ih _ _ _ _ _  h
      · replace h := h.2 hc
        refine v_iload C dX7_top_89 0 rfl ?_
        refine v_if_gt C (tgt := 106) dX7_top_91 (by decide) (fun hc => ?_) (fun hc => ?_)
        · replace h := h.1 hc
          refine v_iconst C (v := 1) dX7_top_106 rfl ?_
          refine v_goto C (tgt := 111) dX7_top_107 (by decide) ?_
          refine v_iadd C dX7_top_111 ?_
          refine v_nm (fun v17 ev17 => ?_)
          replace h := h v17 ev17
          refine v_istore C [(6, .int v17), (8, .int v13), (0, .ref (lad L 306)), (1, .int a1), (2, .int a2), (3, .int a3), (4, .int x4), (5, .int x5), (7, .int x7)] dX7_top_112 (by decide) rfl ?_
          refine v_iinc C [(7, .int (x7 + 1)), (6, .int v17), (8, .int v13), (0, .ref (lad L 306)), (1, .int a1), (2, .int a2), (3, .int a3), (4, .int x4), (5, .int x5)] dX7_top_114 8 rfl rfl (by decide) rfl ?_
          refine v_goto C (tgt := 48) dX7_top_117 (by decide) ?_
          refine v_sub [3, 4, 5, 6, 7, 8, 1, 0] rfl ?_
          exact ih _ _ _ _ _  h
        · replace h := h.2 hc
          refine v_iload C dX7_top_94 0 rfl ?_
          refine v_if_ne C (tgt := 110) dX7_top_96 (by decide) (fun hc => ?_) (fun hc => ?_)
          · replace h := h.2 hc
            refine v_iconst C (v := 0) dX7_top_110 rfl ?_
            refine v_iadd C dX7_top_111 ?_
            refine v_nm (fun v18 ev18 => ?_)
            replace h := h v18 ev18
            refine v_istore C [(6, .int v18), (8, .int v13), (0, .ref (lad L 306)), (1, .int a1), (2, .int a2), (3, .int a3), (4, .int x4), (5, .int x5), (7, .int x7)] dX7_top_112 (by decide) rfl ?_
            refine v_iinc C [(7, .int (x7 + 1)), (6, .int v18), (8, .int v13), (0, .ref (lad L 306)), (1, .int a1), (2, .int a2), (3, .int a3), (4, .int x4), (5, .int x5)] dX7_top_114 8 rfl rfl (by decide) rfl ?_
            refine v_goto C (tgt := 48) dX7_top_117 (by decide) ?_
            refine v_sub [3, 4, 5, 6, 7, 8, 1, 0] rfl ?_
            exact ih _ _ _ _ _  h
          · replace h := h.1 hc
            refine v_iload C dX7_top_99 8 rfl ?_
            refine v_iload C dX7_top_101 6 rfl ?_
            refine v_icmp_ge C (tgt := 110) dX7_top_103 (by decide) (fun hc => ?_) (fun hc => ?_)
            · replace h := h.1 hc
              refine v_iconst C (v := 0) dX7_top_110 rfl ?_
              refine v_iadd C dX7_top_111 ?_
              refine v_nm (fun v19 ev19 => ?_)
              replace h := h v19 ev19
              refine v_istore C [(6, .int v19), (8, .int v13), (0, .ref (lad L 306)), (1, .int a1), (2, .int a2), (3, .int a3), (4, .int x4), (5, .int x5), (7, .int x7)] dX7_top_112 (by decide) rfl ?_
              refine v_iinc C [(7, .int (x7 + 1)), (6, .int v19), (8, .int v13), (0, .ref (lad L 306)), (1, .int a1), (2, .int a2), (3, .int a3), (4, .int x4), (5, .int x5)] dX7_top_114 8 rfl rfl (by decide) rfl ?_
              refine v_goto C (tgt := 48) dX7_top_117 (by decide) ?_
              refine v_sub [3, 4, 5, 6, 7, 8, 1, 0] rfl ?_
              exact ih _ _ _ _ _  h
            · replace h := h.2 hc
              refine v_iconst C (v := 1) dX7_top_106 rfl ?_
              refine v_goto C (tgt := 111) dX7_top_107 (by decide) ?_
              refine v_iadd C dX7_top_111 ?_
              refine v_nm (fun v20 ev20 => ?_)
              replace h := h v20 ev20
              refine v_istore C [(6, .int v20), (8, .int v13), (0, .ref (lad L 306)), (1, .int a1), (2, .int a2), (3, .int a3), (4, .int x4), (5, .int x5), (7, .int x7)] dX7_top_112 (by decide) rfl ?_
              refine v_iinc C [(7, .int (x7 + 1)), (6, .int v20), (8, .int v13), (0, .ref (lad L 306)), (1, .int a1), (2, .int a2), (3, .int a3), (4, .int x4), (5, .int x5)] dX7_top_114 8 rfl rfl (by decide) rfl ?_
              refine v_goto C (tgt := 48) dX7_top_117 (by decide) ?_
              refine v_sub [3, 4, 5, 6, 7, 8, 1, 0] rfl ?_
              exact ih _ _ _ _ _  h
def w_X7_top_35 (a1 : Int32) (a2 : Int32) (a3 : Int32) (K : Int32 → Mem → Prop)  : Nat → Int32 → Int32 → Mem → Prop
  | 0, _, _, _ => False
  | n + 1, x4, x5, σ => (br (26 ≤ x5) (K (-5) σ) (∃ n21, w_X7_top_48 a1 a2 a3 K (w_X7_top_35 a1 a2 a3 K  n) n21 x4 x5 0 0 σ))
set_option maxHeartbeats 4000000 in
set_option maxRecDepth 100000 in
theorem b_X7_top_35 {p : Program} {l : Launch} {e : Env} {s : State} {m : MethodId} {args : Array Value} {below : List Frame} {meth : Method} {c : Code} {L : Ly} {sz : Nat} (C : Cx p rm_X7_top s m args meth c RX7 cX7_top 9 0 0 (mA L sz) L) (hret : meth.sig.returnType = (some .int)) (hlk : meth.locks = false) (a1 : Int32) (a2 : Int32) (a3 : Int32)  (K : Int32 → Mem → Prop)  : ∀ (n : Nat) (x4 : Int32) (x5 : Int32) (σ : Mem), w_X7_top_35 a1 a2 a3 K  n x4 x5 σ → V p l e rm_X7_top s m args below meth c 9 0 0 (MQ below (va_Qi K (mE L) (mA L sz)) args s 0 0 (mA L sz)) (mA L sz) L σ 35 [(0, .ref (lad L 306)), (1, .int a1), (2, .int a2), (3, .int a3), (4, .int x4), (5, .int x5)] [] := by
  intro n
  induction n with
  | zero => intro x4 x5 σ  h; exact h.elim
  | succ n ih =>
    intro x4 x5 σ  h
    rw [w_X7_top_35] at h
    refine v_iload C dX7_top_35 5 rfl ?_
    refine v_bipush C (v := 26) dX7_top_37 rfl ?_
    refine v_icmp_ge C (tgt := 165) dX7_top_39 (by decide) (fun hc => ?_) (fun hc => ?_)
    · replace h := h.1 hc
      refine v_bipush C (v := (-5)) dX7_top_165 rfl ?_
      exact v_iret C dX7_top_167 hret hlk h
    · replace h := h.2 hc
      refine v_iconst C (v := 0) dX7_top_42 rfl ?_
      refine v_istore C [(6, .int 0), (0, .ref (lad L 306)), (1, .int a1), (2, .int a2), (3, .int a3), (4, .int x4), (5, .int x5)] dX7_top_43 (by decide) rfl ?_
      refine v_iconst C (v := 0) dX7_top_45 rfl ?_
      refine v_istore C [(7, .int 0), (6, .int 0), (0, .ref (lad L 306)), (1, .int a1), (2, .int a2), (3, .int a3), (4, .int x4), (5, .int x5)] dX7_top_46 (by decide) rfl ?_
      obtain ⟨n21, h⟩ := h
      refine v_sub [2, 3, 4, 5, 6, 7, 1, 0] rfl ?_
      exact b_X7_top_48 C hret hlk a1 a2 a3  K _ ih n21 _ _ _ _ _  h
def w_X7_top (a1 : Int32) (a2 : Int32) (a3 : Int32) (σ : Mem) (K : Int32 → Mem → Prop) : Prop := (w_X7_looks a1 σ (fun r2 σ1 => (br (r2 = (-5)) (K (-1) σ1) (br (a2 < 0) (K (-2) σ1) (w_X7_in a3 0 1 σ1 (fun r4 σ3 => (br (r4 = 0) (K (-2) σ3) (∃ n22, w_X7_top_35 a1 a2 a3 K  n22 r2 0 σ3))))))))
set_option maxHeartbeats 4000000 in
set_option maxRecDepth 100000 in
theorem c_X7_top (l : Launch) (L : Ly) (a1 : Int32) (a2 : Int32) (a3 : Int32) (σ : Mem) (K : Int32 → Mem → Prop)  (h : w_X7_top a1 a2 a3 σ K) (sz : Nat) : Met l yX7_top (.code yX7_top cX7_top 9 (some .int) :: wA) rm_X7_top (va_Pc [.ref (lad L 306), .int a1, .int a2, .int a3] (mB L sz σ)) (va_Qi K (mE L) (mA L sz)) 0 0 (mA L sz) := by
  refine v_start (own := RX7) [(0, .ref (lad L 306)), (1, .int a1), (2, .int a2), (3, .int a3)] (by decide) rfl (Nat.le_of_ble_eq_true rfl) rfl (fun p e s m args below meth c C hret hlk => ?_)
  unfold w_X7_top at h
  refine v_aload_n C dX7_top_0 rfl 0 rfl ?_
  refine v_iload_n C dX7_top_1 rfl 1 rfl ?_
  refine k_X7_looks C a1  h mM_X7_157 ⟨Nat.le_of_ble_eq_true rfl, Nat.le_of_ble_eq_true rfl⟩ (Nat.le_of_ble_eq_true rfl) dX7_top_2 (fun r2 σ1 h => ?_)
  refine v_istore C [(4, .int r2), (0, .ref (lad L 306)), (1, .int a1), (2, .int a2), (3, .int a3)] dX7_top_5 (by decide) rfl ?_
  refine v_iload C dX7_top_7 0 rfl ?_
  refine v_bipush C (v := (-5)) dX7_top_9 rfl ?_
  refine v_icmp_ne C (tgt := 16) dX7_top_11 (by decide) (fun hc => ?_) (fun hc => ?_)
  · replace h := h.2 hc
    refine v_iload_n C dX7_top_16 rfl 3 rfl ?_
    refine v_if_lt C (tgt := 29) dX7_top_17 (by decide) (fun hc => ?_) (fun hc => ?_)
    · replace h := h.1 hc
      refine v_bipush C (v := (-2)) dX7_top_29 rfl ?_
      exact v_iret C dX7_top_31 hret hlk h
    · replace h := h.2 hc
      refine v_iload_n C dX7_top_20 rfl 4 rfl ?_
      refine v_iconst C (v := 0) dX7_top_21 rfl ?_
      refine v_iconst C (v := 1) dX7_top_22 rfl ?_
      refine k_X7_in C a3 0 1  h mM_X7_35 ⟨Nat.le_of_ble_eq_true rfl, Nat.le_of_ble_eq_true rfl⟩ (Nat.le_of_ble_eq_true rfl) dX7_top_23 (fun r4 σ3 h => ?_)
      refine v_if_ne C (tgt := 32) dX7_top_26 (by decide) (fun hc => ?_) (fun hc => ?_)
      · replace h := h.2 hc
        refine v_iconst C (v := 0) dX7_top_32 rfl ?_
        refine v_istore C [(5, .int 0), (4, .int r2), (0, .ref (lad L 306)), (1, .int a1), (2, .int a2), (3, .int a3)] dX7_top_33 (by decide) rfl ?_
        obtain ⟨n22, h⟩ := h
        refine v_sub [2, 3, 4, 5, 1, 0] rfl ?_
        exact b_X7_top_35 C hret hlk a1 a2 a3  K   n22 _ _ _  h
      · replace h := h.1 hc
        refine v_bipush C (v := (-2)) dX7_top_29 rfl ?_
        exact v_iret C dX7_top_31 hret hlk h
  · replace h := h.1 hc
    refine v_iconst C (v := (-1)) dX7_top_14 rfl ?_
    exact v_iret C dX7_top_15 hret hlk h
theorem hd_X7_top : yX7_top.cls ≠ "java/lang/invoke/MethodHandle" ∧ yX7_top.cls ≠ "java/lang/invoke/VarHandle" ∧ (parseMethodDescriptor yX7_top.desc).map (fun d => d.parameters.length) = some 3 := by decide +kernel
theorem k_X7_top {p : Program} {l : Launch} {e : Env} {R : Room} {s : State} {m : MethodId} {args : Array Value} {below : List Frame} {meth : Method} {c : Code} {nL cells slots : Nat} {Q : State → Prop} {A : Nat → Prop} {L : Ly} {own : String} {cc : ByteArray} {σ : Mem} {pc idx : Nat} {lv : List (Nat × Value)} {st : List Value} {K : Int32 → Mem → Prop} (C : Cx p R s m args meth c own cc nL cells slots A L) (a1 : Int32) (a2 : Int32) (a3 : Int32)  (h : w_X7_top a1 a2 a3 σ K) (hml : Cond.methodLink own idx yX7_top ∈ wA) (hR : rm_X7_top.frames + 1 ≤ R.frames ∧ 8 + (9 + 11) + rm_X7_top.locals ≤ R.locals) (hsum : (st.map fun v => v.category).sum ≤ 8) (d : decode cc pc = .ok (.invokevirtual idx, 3)) (kk : ∀ r σ1, K r σ1 → V p l e R s m args below meth c nL cells slots Q A L σ1 (pc + 3) lv (.int r :: st)) : V p l e R s m args below meth c nL cells slots Q A L σ pc lv (.int a3 :: .int a2 :: .int a1 :: .ref (lad L 306) :: st) := v_callVi C [.int a1, .int a2, .int a3] (fun sz => c_X7_top l L a1 a2 a3 σ _  h sz) mC_X7_top mZ_X7 hd_X7_top mI_X7_top mS_X7_top rfl rfl (c0 := 7) (ci := 7) (by decide) rfl rfl rfl kdn_306 hml hR rfl hsum d kk
-- ===== RX7.ahead
abbrev rm_X7_ahead : Room := { frames := 4, cells := 0, slots := 0, locals := 87 }
def w_X7_ahead_62 (a1 : Int32) (a2 : Int32) (a3 : Int32) (K : Int32 → Mem → Prop) (A6 : Int32 → Int32 → Mem → Prop) (x4 : Int32) (x5 : Int32) (s0 : Int32) (σ : Mem) : Prop := (br (x5 = a2) (∀ v5 : Int32, v5 = (x4 + 0) → (A6 v5 (x5 + 1) σ)) (br (s0 = 0) (∀ v6 : Int32, v6 = (x4 + 0) → (A6 v6 (x5 + 1) σ)) (∀ v7 : Int32, v7 = (x4 + 1) → (A6 v7 (x5 + 1) σ))))
set_option maxHeartbeats 4000000 in
set_option maxRecDepth 100000 in
theorem b_X7_ahead_62 {p : Program} {l : Launch} {e : Env} {s : State} {m : MethodId} {args : Array Value} {below : List Frame} {meth : Method} {c : Code} {L : Ly} {sz : Nat} (C : Cx p rm_X7_ahead s m args meth c RX7 cX7_ahead 7 0 0 (mA L sz) L) (hret : meth.sig.returnType = (some .int)) (hlk : meth.locks = false) (a1 : Int32) (a2 : Int32) (a3 : Int32)  (K : Int32 → Mem → Prop) (A6 : Int32 → Int32 → Mem → Prop) (hA6 : ∀ (x4 : Int32) (x5 : Int32) (σ : Mem), A6 x4 x5 σ → V p l e rm_X7_ahead s m args below meth c 7 0 0 (MQ below (va_Qi K (mE L) (mA L sz)) args s 0 0 (mA L sz)) (mA L sz) L σ 6 [(0, .ref (lad L 306)), (1, .int a1), (2, .int a2), (3, .int a3), (4, .int x4), (5, .int x5)] []) (x4 : Int32) (x5 : Int32) (s0 : Int32) (σ : Mem)  (h : w_X7_ahead_62 a1 a2 a3 K A6 x4 x5 s0 σ) : V p l e rm_X7_ahead s m args below meth c 7 0 0 (MQ below (va_Qi K (mE L) (mA L sz)) args s 0 0 (mA L sz)) (mA L sz) L σ 62 [(0, .ref (lad L 306)), (1, .int a1), (2, .int a2), (3, .int a3), (4, .int x4), (5, .int x5)] [.int s0] := by
  unfold w_X7_ahead_62 at h
  refine v_istore C [(6, .int s0), (0, .ref (lad L 306)), (1, .int a1), (2, .int a2), (3, .int a3), (4, .int x4), (5, .int x5)] dX7_ahead_62 (by decide) rfl ?_
  refine v_iload C dX7_ahead_64 5 rfl ?_
  refine v_iload C dX7_ahead_66 6 rfl ?_
  refine v_iload_n C dX7_ahead_68 rfl 3 rfl ?_
  refine v_icmp_eq C (tgt := 81) dX7_ahead_69 (by decide) (fun hc => ?_) (fun hc => ?_)
  · replace h := h.1 hc
    refine v_iconst C (v := 0) dX7_ahead_81 rfl ?_
    refine v_iadd C dX7_ahead_82 ?_
    refine v_nm (fun v5 ev5 => ?_)
    replace h := h v5 ev5
    refine v_istore C [(4, .int v5), (6, .int s0), (0, .ref (lad L 306)), (1, .int a1), (2, .int a2), (3, .int a3), (5, .int x5)] dX7_ahead_83 (by decide) rfl ?_
    refine v_iinc C [(5, .int (x5 + 1)), (4, .int v5), (6, .int s0), (0, .ref (lad L 306)), (1, .int a1), (2, .int a2), (3, .int a3)] dX7_ahead_85 6 rfl rfl (by decide) rfl ?_
    refine v_goto C (tgt := 6) dX7_ahead_88 (by decide) ?_
    refine v_sub [3, 4, 5, 6, 1, 0] rfl ?_
    exact hA6 _ _ _  h
  · replace h := h.2 hc
    refine v_iload C dX7_ahead_72 0 rfl ?_
    refine v_if_eq C (tgt := 81) dX7_ahead_74 (by decide) (fun hc => ?_) (fun hc => ?_)
    · replace h := h.1 hc
      refine v_iconst C (v := 0) dX7_ahead_81 rfl ?_
      refine v_iadd C dX7_ahead_82 ?_
      refine v_nm (fun v6 ev6 => ?_)
      replace h := h v6 ev6
      refine v_istore C [(4, .int v6), (6, .int s0), (0, .ref (lad L 306)), (1, .int a1), (2, .int a2), (3, .int a3), (5, .int x5)] dX7_ahead_83 (by decide) rfl ?_
      refine v_iinc C [(5, .int (x5 + 1)), (4, .int v6), (6, .int s0), (0, .ref (lad L 306)), (1, .int a1), (2, .int a2), (3, .int a3)] dX7_ahead_85 6 rfl rfl (by decide) rfl ?_
      refine v_goto C (tgt := 6) dX7_ahead_88 (by decide) ?_
      refine v_sub [3, 4, 5, 6, 1, 0] rfl ?_
      exact hA6 _ _ _  h
    · replace h := h.2 hc
      refine v_iconst C (v := 1) dX7_ahead_77 rfl ?_
      refine v_goto C (tgt := 82) dX7_ahead_78 (by decide) ?_
      refine v_iadd C dX7_ahead_82 ?_
      refine v_nm (fun v7 ev7 => ?_)
      replace h := h v7 ev7
      refine v_istore C [(4, .int v7), (6, .int s0), (0, .ref (lad L 306)), (1, .int a1), (2, .int a2), (3, .int a3), (5, .int x5)] dX7_ahead_83 (by decide) rfl ?_
      refine v_iinc C [(5, .int (x5 + 1)), (4, .int v7), (6, .int s0), (0, .ref (lad L 306)), (1, .int a1), (2, .int a2), (3, .int a3)] dX7_ahead_85 6 rfl rfl (by decide) rfl ?_
      refine v_goto C (tgt := 6) dX7_ahead_88 (by decide) ?_
      refine v_sub [3, 4, 5, 6, 1, 0] rfl ?_
      exact hA6 _ _ _  h
def w_X7_ahead_6 (a1 : Int32) (a2 : Int32) (a3 : Int32) (K : Int32 → Mem → Prop)  : Nat → Int32 → Int32 → Mem → Prop
  | 0, _, _, _ => False
  | n + 1, x4, x5, σ => (br (26 ≤ x5) (K x4 σ) (br (a3 = 0) (w_X7_lower a1 x5 σ (fun r2 σ1 => (w_X7_upper a1 a2 σ1 (fun r4 σ3 => (br (r2 ≤ r4) (w_X7_ahead_62 a1 a2 a3 K (w_X7_ahead_6 a1 a2 a3 K  n) x4 x5 0 σ3) (w_X7_ahead_62 a1 a2 a3 K (w_X7_ahead_6 a1 a2 a3 K  n) x4 x5 1 σ3)))))) (w_X7_upper a1 x5 σ (fun r9 σ8 => (w_X7_lower a1 a2 σ8 (fun r11 σ10 => (br (r9 ≤ r11) (w_X7_ahead_62 a1 a2 a3 K (w_X7_ahead_6 a1 a2 a3 K  n) x4 x5 0 σ10) (w_X7_ahead_62 a1 a2 a3 K (w_X7_ahead_6 a1 a2 a3 K  n) x4 x5 1 σ10))))))))
set_option maxHeartbeats 4000000 in
set_option maxRecDepth 100000 in
theorem b_X7_ahead_6 {p : Program} {l : Launch} {e : Env} {s : State} {m : MethodId} {args : Array Value} {below : List Frame} {meth : Method} {c : Code} {L : Ly} {sz : Nat} (C : Cx p rm_X7_ahead s m args meth c RX7 cX7_ahead 7 0 0 (mA L sz) L) (hret : meth.sig.returnType = (some .int)) (hlk : meth.locks = false) (a1 : Int32) (a2 : Int32) (a3 : Int32)  (K : Int32 → Mem → Prop)  : ∀ (n : Nat) (x4 : Int32) (x5 : Int32) (σ : Mem), w_X7_ahead_6 a1 a2 a3 K  n x4 x5 σ → V p l e rm_X7_ahead s m args below meth c 7 0 0 (MQ below (va_Qi K (mE L) (mA L sz)) args s 0 0 (mA L sz)) (mA L sz) L σ 6 [(0, .ref (lad L 306)), (1, .int a1), (2, .int a2), (3, .int a3), (4, .int x4), (5, .int x5)] [] := by
  intro n
  induction n with
  | zero => intro x4 x5 σ  h; exact h.elim
  | succ n ih =>
    intro x4 x5 σ  h
    rw [w_X7_ahead_6] at h
    refine v_iload C dX7_ahead_6 5 rfl ?_
    refine v_bipush C (v := 26) dX7_ahead_8 rfl ?_
    refine v_icmp_ge C (tgt := 91) dX7_ahead_10 (by decide) (fun hc => ?_) (fun hc => ?_)
    · replace h := h.1 hc
      refine v_iload C dX7_ahead_91 4 rfl ?_
      exact v_iret C dX7_ahead_93 hret hlk h
    · replace h := h.2 hc
      refine v_iload_n C dX7_ahead_13 rfl 3 rfl ?_
      refine v_if_eq C (tgt := 41) dX7_ahead_14 (by decide) (fun hc => ?_) (fun hc => ?_)
      · replace h := h.1 hc
        refine v_aload_n C dX7_ahead_41 rfl 0 rfl ?_
        refine v_iload_n C dX7_ahead_42 rfl 1 rfl ?_
        refine v_iload C dX7_ahead_43 5 rfl ?_
        refine k_X7_lower C a1 x5  h mM_X7_169 ⟨Nat.le_of_ble_eq_true rfl, Nat.le_of_ble_eq_true rfl⟩ (Nat.le_of_ble_eq_true rfl) dX7_ahead_45 (fun r2 σ1 h => ?_)
        refine v_aload_n C dX7_ahead_48 rfl 0 rfl ?_
        refine v_iload_n C dX7_ahead_49 rfl 1 rfl ?_
        refine v_iload_n C dX7_ahead_50 rfl 2 rfl ?_
        refine k_X7_upper C a1 a2  h mM_X7_166 ⟨Nat.le_of_ble_eq_true rfl, Nat.le_of_ble_eq_true rfl⟩ (Nat.le_of_ble_eq_true rfl) dX7_ahead_51 (fun r4 σ3 h => ?_)
        refine v_icmp_le C (tgt := 61) dX7_ahead_54 (by decide) (fun hc => ?_) (fun hc => ?_)
        · replace h := h.1 hc
          refine v_iconst C (v := 0) dX7_ahead_61 rfl ?_
          refine v_sub [0, 1, 2, 3, 4, 5] rfl ?_
          exact b_X7_ahead_62 C hret hlk a1 a2 a3  K _ ih _ _ _ _  h
        · replace h := h.2 hc
          refine v_iconst C (v := 1) dX7_ahead_57 rfl ?_
          refine v_goto C (tgt := 62) dX7_ahead_58 (by decide) ?_
          refine v_sub [0, 1, 2, 3, 4, 5] rfl ?_
          exact b_X7_ahead_62 C hret hlk a1 a2 a3  K _ ih _ _ _ _  h
      · replace h := h.2 hc
        refine v_aload_n C dX7_ahead_17 rfl 0 rfl ?_
        refine v_iload_n C dX7_ahead_18 rfl 1 rfl ?_
        refine v_iload C dX7_ahead_19 5 rfl ?_
        refine k_X7_upper C a1 x5  h mM_X7_166 ⟨Nat.le_of_ble_eq_true rfl, Nat.le_of_ble_eq_true rfl⟩ (Nat.le_of_ble_eq_true rfl) dX7_ahead_21 (fun r9 σ8 h => ?_)
        refine v_aload_n C dX7_ahead_24 rfl 0 rfl ?_
        refine v_iload_n C dX7_ahead_25 rfl 1 rfl ?_
        refine v_iload_n C dX7_ahead_26 rfl 2 rfl ?_
        refine k_X7_lower C a1 a2  h mM_X7_169 ⟨Nat.le_of_ble_eq_true rfl, Nat.le_of_ble_eq_true rfl⟩ (Nat.le_of_ble_eq_true rfl) dX7_ahead_27 (fun r11 σ10 h => ?_)
        refine v_icmp_le C (tgt := 37) dX7_ahead_30 (by decide) (fun hc => ?_) (fun hc => ?_)
        · replace h := h.1 hc
          refine v_iconst C (v := 0) dX7_ahead_37 rfl ?_
          refine v_goto C (tgt := 62) dX7_ahead_38 (by decide) ?_
          refine v_sub [0, 1, 2, 3, 4, 5] rfl ?_
          exact b_X7_ahead_62 C hret hlk a1 a2 a3  K _ ih _ _ _ _  h
        · replace h := h.2 hc
          refine v_iconst C (v := 1) dX7_ahead_33 rfl ?_
          refine v_goto C (tgt := 62) dX7_ahead_34 (by decide) ?_
          refine v_sub [0, 1, 2, 3, 4, 5] rfl ?_
          exact b_X7_ahead_62 C hret hlk a1 a2 a3  K _ ih _ _ _ _  h
def w_X7_ahead (a1 : Int32) (a2 : Int32) (a3 : Int32) (σ : Mem) (K : Int32 → Mem → Prop) : Prop := (∃ n12, w_X7_ahead_6 a1 a2 a3 K  n12 0 0 σ)
set_option maxHeartbeats 4000000 in
set_option maxRecDepth 100000 in
theorem c_X7_ahead (l : Launch) (L : Ly) (a1 : Int32) (a2 : Int32) (a3 : Int32) (σ : Mem) (K : Int32 → Mem → Prop)  (h : w_X7_ahead a1 a2 a3 σ K) (sz : Nat) : Met l yX7_ahead (.code yX7_ahead cX7_ahead 7 (some .int) :: wA) rm_X7_ahead (va_Pc [.ref (lad L 306), .int a1, .int a2, .int a3] (mB L sz σ)) (va_Qi K (mE L) (mA L sz)) 0 0 (mA L sz) := by
  refine v_start (own := RX7) [(0, .ref (lad L 306)), (1, .int a1), (2, .int a2), (3, .int a3)] (by decide) rfl (Nat.le_of_ble_eq_true rfl) rfl (fun p e s m args below meth c C hret hlk => ?_)
  unfold w_X7_ahead at h
  refine v_iconst C (v := 0) dX7_ahead_0 rfl ?_
  refine v_istore C [(4, .int 0), (0, .ref (lad L 306)), (1, .int a1), (2, .int a2), (3, .int a3)] dX7_ahead_1 (by decide) rfl ?_
  refine v_iconst C (v := 0) dX7_ahead_3 rfl ?_
  refine v_istore C [(5, .int 0), (4, .int 0), (0, .ref (lad L 306)), (1, .int a1), (2, .int a2), (3, .int a3)] dX7_ahead_4 (by decide) rfl ?_
  obtain ⟨n12, h⟩ := h
  refine v_sub [2, 3, 4, 5, 1, 0] rfl ?_
  exact b_X7_ahead_6 C hret hlk a1 a2 a3  K   n12 _ _ _  h
theorem hd_X7_ahead : yX7_ahead.cls ≠ "java/lang/invoke/MethodHandle" ∧ yX7_ahead.cls ≠ "java/lang/invoke/VarHandle" ∧ (parseMethodDescriptor yX7_ahead.desc).map (fun d => d.parameters.length) = some 3 := by decide +kernel
theorem k_X7_ahead {p : Program} {l : Launch} {e : Env} {R : Room} {s : State} {m : MethodId} {args : Array Value} {below : List Frame} {meth : Method} {c : Code} {nL cells slots : Nat} {Q : State → Prop} {A : Nat → Prop} {L : Ly} {own : String} {cc : ByteArray} {σ : Mem} {pc idx : Nat} {lv : List (Nat × Value)} {st : List Value} {K : Int32 → Mem → Prop} (C : Cx p R s m args meth c own cc nL cells slots A L) (a1 : Int32) (a2 : Int32) (a3 : Int32)  (h : w_X7_ahead a1 a2 a3 σ K) (hml : Cond.methodLink own idx yX7_ahead ∈ wA) (hR : rm_X7_ahead.frames + 1 ≤ R.frames ∧ 8 + (7 + 11) + rm_X7_ahead.locals ≤ R.locals) (hsum : (st.map fun v => v.category).sum ≤ 8) (d : decode cc pc = .ok (.invokevirtual idx, 3)) (kk : ∀ r σ1, K r σ1 → V p l e R s m args below meth c nL cells slots Q A L σ1 (pc + 3) lv (.int r :: st)) : V p l e R s m args below meth c nL cells slots Q A L σ pc lv (.int a3 :: .int a2 :: .int a1 :: .ref (lad L 306) :: st) := v_callVi C [.int a1, .int a2, .int a3] (fun sz => c_X7_ahead l L a1 a2 a3 σ _  h sz) mC_X7_ahead mZ_X7 hd_X7_ahead mI_X7_ahead mS_X7_ahead rfl rfl (c0 := 7) (ci := 7) (by decide) rfl rfl rfl kdn_306 hml hR rfl hsum d kk
-- ===== RX7.first
abbrev rm_X7_first : Room := { frames := 5, cells := 0, slots := 0, locals := 116 }
def w_X7_first_35 (a1 : Int32) (a2 : Int32) (a3 : Int32) (K : Int32 → Mem → Prop)  : Nat → Int32 → Int32 → Int32 → Mem → Prop
  | 0, _, _, _, _ => False
  | n + 1, x4, x5, x6, σ => (br (26 ≤ x6) (K x5 σ) (w_X7_ahead x4 x6 a3 σ (fun r6 σ5 => (br (a2 ≤ r6) (∀ v7 : Int32, v7 = (x5 ||| 0) → (w_X7_first_35 a1 a2 a3 K  n x4 v7 (x6 + 1) σ5)) (∀ v8 : Int32, v8 = (x5 ||| (1 <<< (x6 &&& 31))) → (w_X7_first_35 a1 a2 a3 K  n x4 v8 (x6 + 1) σ5))))))
set_option maxHeartbeats 4000000 in
set_option maxRecDepth 100000 in
theorem b_X7_first_35 {p : Program} {l : Launch} {e : Env} {s : State} {m : MethodId} {args : Array Value} {below : List Frame} {meth : Method} {c : Code} {L : Ly} {sz : Nat} (C : Cx p rm_X7_first s m args meth c RX7 cX7_first 7 0 0 (mA L sz) L) (hret : meth.sig.returnType = (some .int)) (hlk : meth.locks = false) (a1 : Int32) (a2 : Int32) (a3 : Int32)  (K : Int32 → Mem → Prop)  : ∀ (n : Nat) (x4 : Int32) (x5 : Int32) (x6 : Int32) (σ : Mem), w_X7_first_35 a1 a2 a3 K  n x4 x5 x6 σ → V p l e rm_X7_first s m args below meth c 7 0 0 (MQ below (va_Qi K (mE L) (mA L sz)) args s 0 0 (mA L sz)) (mA L sz) L σ 35 [(0, .ref (lad L 306)), (1, .int a1), (2, .int a2), (3, .int a3), (4, .int x4), (5, .int x5), (6, .int x6)] [] := by
  intro n
  induction n with
  | zero => intro x4 x5 x6 σ  h; exact h.elim
  | succ n ih =>
    intro x4 x5 x6 σ  h
    rw [w_X7_first_35] at h
    refine v_iload C dX7_first_35 6 rfl ?_
    refine v_bipush C (v := 26) dX7_first_37 rfl ?_
    refine v_icmp_ge C (tgt := 74) dX7_first_39 (by decide) (fun hc => ?_) (fun hc => ?_)
    · replace h := h.1 hc
      refine v_iload C dX7_first_74 5 rfl ?_
      exact v_iret C dX7_first_76 hret hlk h
    · replace h := h.2 hc
      refine v_iload C dX7_first_42 5 rfl ?_
      refine v_aload_n C dX7_first_44 rfl 0 rfl ?_
      refine v_iload C dX7_first_45 4 rfl ?_
      refine v_iload C dX7_first_47 6 rfl ?_
      refine v_iload_n C dX7_first_49 rfl 3 rfl ?_
      refine k_X7_ahead C x4 x6 a3  h mM_X7_172 ⟨Nat.le_of_ble_eq_true rfl, Nat.le_of_ble_eq_true rfl⟩ (Nat.le_of_ble_eq_true rfl) dX7_first_50 (fun r6 σ5 h => ?_)
      refine v_iload_n C dX7_first_53 rfl 2 rfl ?_
      refine v_icmp_ge C (tgt := 64) dX7_first_54 (by decide) (fun hc => ?_) (fun hc => ?_)
      · replace h := h.1 hc
        refine v_iconst C (v := 0) dX7_first_64 rfl ?_
        refine v_ior C dX7_first_65 ?_
        refine v_nm (fun v7 ev7 => ?_)
        replace h := h v7 ev7
        refine v_istore C [(5, .int v7), (0, .ref (lad L 306)), (1, .int a1), (2, .int a2), (3, .int a3), (4, .int x4), (6, .int x6)] dX7_first_66 (by decide) rfl ?_
        refine v_iinc C [(6, .int (x6 + 1)), (5, .int v7), (0, .ref (lad L 306)), (1, .int a1), (2, .int a2), (3, .int a3), (4, .int x4)] dX7_first_68 6 rfl rfl (by decide) rfl ?_
        refine v_goto C (tgt := 35) dX7_first_71 (by decide) ?_
        refine v_sub [2, 3, 4, 5, 6, 1, 0] rfl ?_
        exact ih _ _ _ _  h
      · replace h := h.2 hc
        refine v_iconst C (v := 1) dX7_first_57 rfl ?_
        refine v_iload C dX7_first_58 6 rfl ?_
        refine v_ishl C dX7_first_60 ?_
        refine v_goto C (tgt := 65) dX7_first_61 (by decide) ?_
        refine v_ior C dX7_first_65 ?_
        refine v_nm (fun v8 ev8 => ?_)
        replace h := h v8 ev8
        refine v_istore C [(5, .int v8), (0, .ref (lad L 306)), (1, .int a1), (2, .int a2), (3, .int a3), (4, .int x4), (6, .int x6)] dX7_first_66 (by decide) rfl ?_
        refine v_iinc C [(6, .int (x6 + 1)), (5, .int v8), (0, .ref (lad L 306)), (1, .int a1), (2, .int a2), (3, .int a3), (4, .int x4)] dX7_first_68 6 rfl rfl (by decide) rfl ?_
        refine v_goto C (tgt := 35) dX7_first_71 (by decide) ?_
        refine v_sub [2, 3, 4, 5, 6, 1, 0] rfl ?_
        exact ih _ _ _ _  h
def w_X7_first (a1 : Int32) (a2 : Int32) (a3 : Int32) (σ : Mem) (K : Int32 → Mem → Prop) : Prop := (w_X7_looks a1 σ (fun r2 σ1 => (br (r2 = (-5)) (K (-1) σ1) (w_X7_in a2 1 25 σ1 (fun r4 σ3 => (br (r4 = 0) (K (-2) σ3) (∃ n9, w_X7_first_35 a1 a2 a3 K  n9 r2 0 0 σ3)))))))
set_option maxHeartbeats 4000000 in
set_option maxRecDepth 100000 in
theorem c_X7_first (l : Launch) (L : Ly) (a1 : Int32) (a2 : Int32) (a3 : Int32) (σ : Mem) (K : Int32 → Mem → Prop)  (h : w_X7_first a1 a2 a3 σ K) (sz : Nat) : Met l yX7_first (.code yX7_first cX7_first 7 (some .int) :: wA) rm_X7_first (va_Pc [.ref (lad L 306), .int a1, .int a2, .int a3] (mB L sz σ)) (va_Qi K (mE L) (mA L sz)) 0 0 (mA L sz) := by
  refine v_start (own := RX7) [(0, .ref (lad L 306)), (1, .int a1), (2, .int a2), (3, .int a3)] (by decide) rfl (Nat.le_of_ble_eq_true rfl) rfl (fun p e s m args below meth c C hret hlk => ?_)
  unfold w_X7_first at h
  refine v_aload_n C dX7_first_0 rfl 0 rfl ?_
  refine v_iload_n C dX7_first_1 rfl 1 rfl ?_
  refine k_X7_looks C a1  h mM_X7_157 ⟨Nat.le_of_ble_eq_true rfl, Nat.le_of_ble_eq_true rfl⟩ (Nat.le_of_ble_eq_true rfl) dX7_first_2 (fun r2 σ1 h => ?_)
  refine v_istore C [(4, .int r2), (0, .ref (lad L 306)), (1, .int a1), (2, .int a2), (3, .int a3)] dX7_first_5 (by decide) rfl ?_
  refine v_iload C dX7_first_7 0 rfl ?_
  refine v_bipush C (v := (-5)) dX7_first_9 rfl ?_
  refine v_icmp_ne C (tgt := 16) dX7_first_11 (by decide) (fun hc => ?_) (fun hc => ?_)
  · replace h := h.2 hc
    refine v_iload_n C dX7_first_16 rfl 3 rfl ?_
    refine v_iconst C (v := 1) dX7_first_17 rfl ?_
    refine v_bipush C (v := 25) dX7_first_18 rfl ?_
    refine k_X7_in C a2 1 25  h mM_X7_35 ⟨Nat.le_of_ble_eq_true rfl, Nat.le_of_ble_eq_true rfl⟩ (Nat.le_of_ble_eq_true rfl) dX7_first_20 (fun r4 σ3 h => ?_)
    refine v_if_ne C (tgt := 29) dX7_first_23 (by decide) (fun hc => ?_) (fun hc => ?_)
    · replace h := h.2 hc
      refine v_iconst C (v := 0) dX7_first_29 rfl ?_
      refine v_istore C [(5, .int 0), (4, .int r2), (0, .ref (lad L 306)), (1, .int a1), (2, .int a2), (3, .int a3)] dX7_first_30 (by decide) rfl ?_
      refine v_iconst C (v := 0) dX7_first_32 rfl ?_
      refine v_istore C [(6, .int 0), (5, .int 0), (4, .int r2), (0, .ref (lad L 306)), (1, .int a1), (2, .int a2), (3, .int a3)] dX7_first_33 (by decide) rfl ?_
      obtain ⟨n9, h⟩ := h
      refine v_sub [3, 4, 5, 6, 2, 1, 0] rfl ?_
      exact b_X7_first_35 C hret hlk a1 a2 a3  K   n9 _ _ _ _  h
    · replace h := h.1 hc
      refine v_bipush C (v := (-2)) dX7_first_26 rfl ?_
      exact v_iret C dX7_first_28 hret hlk h
  · replace h := h.1 hc
    refine v_iconst C (v := (-1)) dX7_first_14 rfl ?_
    exact v_iret C dX7_first_15 hret hlk h
theorem hd_X7_first : yX7_first.cls ≠ "java/lang/invoke/MethodHandle" ∧ yX7_first.cls ≠ "java/lang/invoke/VarHandle" ∧ (parseMethodDescriptor yX7_first.desc).map (fun d => d.parameters.length) = some 3 := by decide +kernel
theorem k_X7_first {p : Program} {l : Launch} {e : Env} {R : Room} {s : State} {m : MethodId} {args : Array Value} {below : List Frame} {meth : Method} {c : Code} {nL cells slots : Nat} {Q : State → Prop} {A : Nat → Prop} {L : Ly} {own : String} {cc : ByteArray} {σ : Mem} {pc idx : Nat} {lv : List (Nat × Value)} {st : List Value} {K : Int32 → Mem → Prop} (C : Cx p R s m args meth c own cc nL cells slots A L) (a1 : Int32) (a2 : Int32) (a3 : Int32)  (h : w_X7_first a1 a2 a3 σ K) (hml : Cond.methodLink own idx yX7_first ∈ wA) (hR : rm_X7_first.frames + 1 ≤ R.frames ∧ 8 + (7 + 11) + rm_X7_first.locals ≤ R.locals) (hsum : (st.map fun v => v.category).sum ≤ 8) (d : decode cc pc = .ok (.invokevirtual idx, 3)) (kk : ∀ r σ1, K r σ1 → V p l e R s m args below meth c nL cells slots Q A L σ1 (pc + 3) lv (.int r :: st)) : V p l e R s m args below meth c nL cells slots Q A L σ pc lv (.int a3 :: .int a2 :: .int a1 :: .ref (lad L 306) :: st) := v_callVi C [.int a1, .int a2, .int a3] (fun sz => c_X7_first l L a1 a2 a3 σ _  h sz) mC_X7_first mZ_X7 hd_X7_first mI_X7_first mS_X7_first rfl rfl (c0 := 7) (ci := 7) (by decide) rfl rfl rfl kdn_306 hml hR rfl hsum d kk
-- ===== RX7.above
abbrev rm_X7_above : Room := { frames := 5, cells := 0, slots := 0, locals := 116 }
def w_X7_above_65 (a1 : Int32) (a2 : Int32) (a3 : Int32) (K : Int32 → Mem → Prop) (A35 : Int32 → Int32 → Int32 → Mem → Prop) (x4 : Int32) (x5 : Int32) (x6 : Int32) (s0 : Int32) (σ : Mem) : Prop := (w_X7_of x4 2 σ (fun r8 σ7 => (br ((s0 * 100) ≤ (a2 * r8)) (∀ v9 : Int32, v9 = (x5 ||| 0) → (A35 x4 v9 (x6 + 1) σ7)) (∀ v10 : Int32, v10 = (x5 ||| (1 <<< (x6 &&& 31))) → (A35 x4 v10 (x6 + 1) σ7)))))
set_option maxHeartbeats 4000000 in
set_option maxRecDepth 100000 in
theorem b_X7_above_65 {p : Program} {l : Launch} {e : Env} {s : State} {m : MethodId} {args : Array Value} {below : List Frame} {meth : Method} {c : Code} {L : Ly} {sz : Nat} (C : Cx p rm_X7_above s m args meth c RX7 cX7_above 8 0 0 (mA L sz) L) (hret : meth.sig.returnType = (some .int)) (hlk : meth.locks = false) (a1 : Int32) (a2 : Int32) (a3 : Int32)  (K : Int32 → Mem → Prop) (A35 : Int32 → Int32 → Int32 → Mem → Prop) (hA35 : ∀ (x4 : Int32) (x5 : Int32) (x6 : Int32) (σ : Mem), A35 x4 x5 x6 σ → V p l e rm_X7_above s m args below meth c 8 0 0 (MQ below (va_Qi K (mE L) (mA L sz)) args s 0 0 (mA L sz)) (mA L sz) L σ 35 [(0, .ref (lad L 306)), (1, .int a1), (2, .int a2), (3, .int a3), (4, .int x4), (5, .int x5), (6, .int x6)] []) (x4 : Int32) (x5 : Int32) (x6 : Int32) (s0 : Int32) (σ : Mem)  (h : w_X7_above_65 a1 a2 a3 K A35 x4 x5 x6 s0 σ) : V p l e rm_X7_above s m args below meth c 8 0 0 (MQ below (va_Qi K (mE L) (mA L sz)) args s 0 0 (mA L sz)) (mA L sz) L σ 65 [(0, .ref (lad L 306)), (1, .int a1), (2, .int a2), (3, .int a3), (4, .int x4), (5, .int x5), (6, .int x6)] [.int s0] := by
  unfold w_X7_above_65 at h
  refine v_istore C [(7, .int s0), (0, .ref (lad L 306)), (1, .int a1), (2, .int a2), (3, .int a3), (4, .int x4), (5, .int x5), (6, .int x6)] dX7_above_65 (by decide) rfl ?_
  refine v_iload C dX7_above_67 6 rfl ?_
  refine v_iload C dX7_above_69 0 rfl ?_
  refine v_bipush C (v := 100) dX7_above_71 rfl ?_
  refine v_imul C dX7_above_73 ?_
  refine v_iload_n C dX7_above_74 rfl 3 rfl ?_
  refine v_aload_n C dX7_above_75 rfl 1 rfl ?_
  refine v_iload C dX7_above_76 5 rfl ?_
  refine v_iconst C (v := 2) dX7_above_78 rfl ?_
  refine k_X7_of C x4 2  h mM_X7_47 ⟨Nat.le_of_ble_eq_true rfl, Nat.le_of_ble_eq_true rfl⟩ (Nat.le_of_ble_eq_true rfl) dX7_above_79 (fun r8 σ7 h => ?_)
  refine v_imul C dX7_above_82 ?_
  refine v_icmp_le C (tgt := 93) dX7_above_83 (by decide) (fun hc => ?_) (fun hc => ?_)
  · replace h := h.1 hc
    refine v_iconst C (v := 0) dX7_above_93 rfl ?_
    refine v_ior C dX7_above_94 ?_
    refine v_nm (fun v9 ev9 => ?_)
    replace h := h v9 ev9
    refine v_istore C [(5, .int v9), (7, .int s0), (0, .ref (lad L 306)), (1, .int a1), (2, .int a2), (3, .int a3), (4, .int x4), (6, .int x6)] dX7_above_95 (by decide) rfl ?_
    refine v_iinc C [(6, .int (x6 + 1)), (5, .int v9), (7, .int s0), (0, .ref (lad L 306)), (1, .int a1), (2, .int a2), (3, .int a3), (4, .int x4)] dX7_above_97 7 rfl rfl (by decide) rfl ?_
    refine v_goto C (tgt := 35) dX7_above_100 (by decide) ?_
    refine v_sub [3, 4, 5, 6, 7, 1, 0] rfl ?_
    exact hA35 _ _ _ _  h
  · replace h := h.2 hc
    refine v_iconst C (v := 1) dX7_above_86 rfl ?_
    refine v_iload C dX7_above_87 7 rfl ?_
    refine v_ishl C dX7_above_89 ?_
    refine v_goto C (tgt := 94) dX7_above_90 (by decide) ?_
    refine v_ior C dX7_above_94 ?_
    refine v_nm (fun v10 ev10 => ?_)
    replace h := h v10 ev10
    refine v_istore C [(5, .int v10), (7, .int s0), (0, .ref (lad L 306)), (1, .int a1), (2, .int a2), (3, .int a3), (4, .int x4), (6, .int x6)] dX7_above_95 (by decide) rfl ?_
    refine v_iinc C [(6, .int (x6 + 1)), (5, .int v10), (7, .int s0), (0, .ref (lad L 306)), (1, .int a1), (2, .int a2), (3, .int a3), (4, .int x4)] dX7_above_97 7 rfl rfl (by decide) rfl ?_
    refine v_goto C (tgt := 35) dX7_above_100 (by decide) ?_
    refine v_sub [3, 4, 5, 6, 7, 1, 0] rfl ?_
    exact hA35 _ _ _ _  h
def w_X7_above_35 (a1 : Int32) (a2 : Int32) (a3 : Int32) (K : Int32 → Mem → Prop)  : Nat → Int32 → Int32 → Int32 → Mem → Prop
  | 0, _, _, _, _ => False
  | n + 1, x4, x5, x6, σ => (br (26 ≤ x6) (K x5 σ) (br (a3 = 0) (w_X7_upper x4 x6 σ (fun r6 σ5 => (w_X7_above_65 a1 a2 a3 K (w_X7_above_35 a1 a2 a3 K  n) x4 x5 x6 r6 σ5))) (w_X7_lower x4 x6 σ (fun r12 σ11 => (w_X7_above_65 a1 a2 a3 K (w_X7_above_35 a1 a2 a3 K  n) x4 x5 x6 r12 σ11)))))
set_option maxHeartbeats 4000000 in
set_option maxRecDepth 100000 in
theorem b_X7_above_35 {p : Program} {l : Launch} {e : Env} {s : State} {m : MethodId} {args : Array Value} {below : List Frame} {meth : Method} {c : Code} {L : Ly} {sz : Nat} (C : Cx p rm_X7_above s m args meth c RX7 cX7_above 8 0 0 (mA L sz) L) (hret : meth.sig.returnType = (some .int)) (hlk : meth.locks = false) (a1 : Int32) (a2 : Int32) (a3 : Int32)  (K : Int32 → Mem → Prop)  : ∀ (n : Nat) (x4 : Int32) (x5 : Int32) (x6 : Int32) (σ : Mem), w_X7_above_35 a1 a2 a3 K  n x4 x5 x6 σ → V p l e rm_X7_above s m args below meth c 8 0 0 (MQ below (va_Qi K (mE L) (mA L sz)) args s 0 0 (mA L sz)) (mA L sz) L σ 35 [(0, .ref (lad L 306)), (1, .int a1), (2, .int a2), (3, .int a3), (4, .int x4), (5, .int x5), (6, .int x6)] [] := by
  intro n
  induction n with
  | zero => intro x4 x5 x6 σ  h; exact h.elim
  | succ n ih =>
    intro x4 x5 x6 σ  h
    rw [w_X7_above_35] at h
    refine v_iload C dX7_above_35 6 rfl ?_
    refine v_bipush C (v := 26) dX7_above_37 rfl ?_
    refine v_icmp_ge C (tgt := 103) dX7_above_39 (by decide) (fun hc => ?_) (fun hc => ?_)
    · replace h := h.1 hc
      refine v_iload C dX7_above_103 5 rfl ?_
      exact v_iret C dX7_above_105 hret hlk h
    · replace h := h.2 hc
      refine v_iload_n C dX7_above_42 rfl 3 rfl ?_
      refine v_if_eq C (tgt := 57) dX7_above_43 (by decide) (fun hc => ?_) (fun hc => ?_)
      · replace h := h.1 hc
        refine v_aload_n C dX7_above_57 rfl 0 rfl ?_
        refine v_iload C dX7_above_58 4 rfl ?_
        refine v_iload C dX7_above_60 6 rfl ?_
        refine k_X7_upper C x4 x6  h mM_X7_166 ⟨Nat.le_of_ble_eq_true rfl, Nat.le_of_ble_eq_true rfl⟩ (Nat.le_of_ble_eq_true rfl) dX7_above_62 (fun r6 σ5 h => ?_)
        refine v_sub [0, 1, 2, 3, 4, 5, 6] rfl ?_
        exact b_X7_above_65 C hret hlk a1 a2 a3  K _ ih _ _ _ _ _  h
      · replace h := h.2 hc
        refine v_aload_n C dX7_above_46 rfl 0 rfl ?_
        refine v_iload C dX7_above_47 4 rfl ?_
        refine v_iload C dX7_above_49 6 rfl ?_
        refine k_X7_lower C x4 x6  h mM_X7_169 ⟨Nat.le_of_ble_eq_true rfl, Nat.le_of_ble_eq_true rfl⟩ (Nat.le_of_ble_eq_true rfl) dX7_above_51 (fun r12 σ11 h => ?_)
        refine v_goto C (tgt := 65) dX7_above_54 (by decide) ?_
        refine v_sub [0, 1, 2, 3, 4, 5, 6] rfl ?_
        exact b_X7_above_65 C hret hlk a1 a2 a3  K _ ih _ _ _ _ _  h
def w_X7_above (a1 : Int32) (a2 : Int32) (a3 : Int32) (σ : Mem) (K : Int32 → Mem → Prop) : Prop := (w_X7_looks a1 σ (fun r2 σ1 => (br (r2 = (-5)) (K (-1) σ1) (w_X7_in a2 1 99 σ1 (fun r4 σ3 => (br (r4 = 0) (K (-2) σ3) (∃ n13, w_X7_above_35 a1 a2 a3 K  n13 r2 0 0 σ3)))))))
set_option maxHeartbeats 4000000 in
set_option maxRecDepth 100000 in
theorem c_X7_above (l : Launch) (L : Ly) (a1 : Int32) (a2 : Int32) (a3 : Int32) (σ : Mem) (K : Int32 → Mem → Prop)  (h : w_X7_above a1 a2 a3 σ K) (sz : Nat) : Met l yX7_above (.code yX7_above cX7_above 8 (some .int) :: wA) rm_X7_above (va_Pc [.ref (lad L 306), .int a1, .int a2, .int a3] (mB L sz σ)) (va_Qi K (mE L) (mA L sz)) 0 0 (mA L sz) := by
  refine v_start (own := RX7) [(0, .ref (lad L 306)), (1, .int a1), (2, .int a2), (3, .int a3)] (by decide) rfl (Nat.le_of_ble_eq_true rfl) rfl (fun p e s m args below meth c C hret hlk => ?_)
  unfold w_X7_above at h
  refine v_aload_n C dX7_above_0 rfl 0 rfl ?_
  refine v_iload_n C dX7_above_1 rfl 1 rfl ?_
  refine k_X7_looks C a1  h mM_X7_157 ⟨Nat.le_of_ble_eq_true rfl, Nat.le_of_ble_eq_true rfl⟩ (Nat.le_of_ble_eq_true rfl) dX7_above_2 (fun r2 σ1 h => ?_)
  refine v_istore C [(4, .int r2), (0, .ref (lad L 306)), (1, .int a1), (2, .int a2), (3, .int a3)] dX7_above_5 (by decide) rfl ?_
  refine v_iload C dX7_above_7 0 rfl ?_
  refine v_bipush C (v := (-5)) dX7_above_9 rfl ?_
  refine v_icmp_ne C (tgt := 16) dX7_above_11 (by decide) (fun hc => ?_) (fun hc => ?_)
  · replace h := h.2 hc
    refine v_iload_n C dX7_above_16 rfl 3 rfl ?_
    refine v_iconst C (v := 1) dX7_above_17 rfl ?_
    refine v_bipush C (v := 99) dX7_above_18 rfl ?_
    refine k_X7_in C a2 1 99  h mM_X7_35 ⟨Nat.le_of_ble_eq_true rfl, Nat.le_of_ble_eq_true rfl⟩ (Nat.le_of_ble_eq_true rfl) dX7_above_20 (fun r4 σ3 h => ?_)
    refine v_if_ne C (tgt := 29) dX7_above_23 (by decide) (fun hc => ?_) (fun hc => ?_)
    · replace h := h.2 hc
      refine v_iconst C (v := 0) dX7_above_29 rfl ?_
      refine v_istore C [(5, .int 0), (4, .int r2), (0, .ref (lad L 306)), (1, .int a1), (2, .int a2), (3, .int a3)] dX7_above_30 (by decide) rfl ?_
      refine v_iconst C (v := 0) dX7_above_32 rfl ?_
      refine v_istore C [(6, .int 0), (5, .int 0), (4, .int r2), (0, .ref (lad L 306)), (1, .int a1), (2, .int a2), (3, .int a3)] dX7_above_33 (by decide) rfl ?_
      obtain ⟨n13, h⟩ := h
      refine v_sub [3, 4, 5, 6, 2, 1, 0] rfl ?_
      exact b_X7_above_35 C hret hlk a1 a2 a3  K   n13 _ _ _ _  h
    · replace h := h.1 hc
      refine v_bipush C (v := (-2)) dX7_above_26 rfl ?_
      exact v_iret C dX7_above_28 hret hlk h
  · replace h := h.1 hc
    refine v_iconst C (v := (-1)) dX7_above_14 rfl ?_
    exact v_iret C dX7_above_15 hret hlk h
theorem hd_X7_above : yX7_above.cls ≠ "java/lang/invoke/MethodHandle" ∧ yX7_above.cls ≠ "java/lang/invoke/VarHandle" ∧ (parseMethodDescriptor yX7_above.desc).map (fun d => d.parameters.length) = some 3 := by decide +kernel
theorem k_X7_above {p : Program} {l : Launch} {e : Env} {R : Room} {s : State} {m : MethodId} {args : Array Value} {below : List Frame} {meth : Method} {c : Code} {nL cells slots : Nat} {Q : State → Prop} {A : Nat → Prop} {L : Ly} {own : String} {cc : ByteArray} {σ : Mem} {pc idx : Nat} {lv : List (Nat × Value)} {st : List Value} {K : Int32 → Mem → Prop} (C : Cx p R s m args meth c own cc nL cells slots A L) (a1 : Int32) (a2 : Int32) (a3 : Int32)  (h : w_X7_above a1 a2 a3 σ K) (hml : Cond.methodLink own idx yX7_above ∈ wA) (hR : rm_X7_above.frames + 1 ≤ R.frames ∧ 8 + (8 + 11) + rm_X7_above.locals ≤ R.locals) (hsum : (st.map fun v => v.category).sum ≤ 8) (d : decode cc pc = .ok (.invokevirtual idx, 3)) (kk : ∀ r σ1, K r σ1 → V p l e R s m args below meth c nL cells slots Q A L σ1 (pc + 3) lv (.int r :: st)) : V p l e R s m args below meth c nL cells slots Q A L σ pc lv (.int a3 :: .int a2 :: .int a1 :: .ref (lad L 306) :: st) := v_callVi C [.int a1, .int a2, .int a3] (fun sz => c_X7_above l L a1 a2 a3 σ _  h sz) mC_X7_above mZ_X7 hd_X7_above mI_X7_above mS_X7_above rfl rfl (c0 := 7) (ci := 7) (by decide) rfl rfl rfl kdn_306 hml hR rfl hsum d kk
-- ===== RX7.rank
abbrev rm_X7_rank : Room := { frames := 5, cells := 0, slots := 0, locals := 116 }
def w_X7_rank (a1 : Int32) (a2 : Int32) (a3 : Int32) (σ : Mem) (K : Int32 → Mem → Prop) : Prop := (w_X7_looks a1 σ (fun r2 σ1 => (br (r2 = (-5)) (K (-1) σ1) (w_X7_isLetter a2 σ1 (fun r4 σ3 => (br (r4 = 0) (K (-1) σ3) (w_X7_ahead r2 (a2 - 97) a3 σ3 (fun r6 σ5 => (K (1 + r6) σ5)))))))))
set_option maxHeartbeats 4000000 in
set_option maxRecDepth 100000 in
theorem c_X7_rank (l : Launch) (L : Ly) (a1 : Int32) (a2 : Int32) (a3 : Int32) (σ : Mem) (K : Int32 → Mem → Prop)  (h : w_X7_rank a1 a2 a3 σ K) (sz : Nat) : Met l yX7_rank (.code yX7_rank cX7_rank 5 (some .int) :: wA) rm_X7_rank (va_Pc [.ref (lad L 306), .int a1, .int a2, .int a3] (mB L sz σ)) (va_Qi K (mE L) (mA L sz)) 0 0 (mA L sz) := by
  refine v_start (own := RX7) [(0, .ref (lad L 306)), (1, .int a1), (2, .int a2), (3, .int a3)] (by decide) rfl (Nat.le_of_ble_eq_true rfl) rfl (fun p e s m args below meth c C hret hlk => ?_)
  unfold w_X7_rank at h
  refine v_aload_n C dX7_rank_0 rfl 0 rfl ?_
  refine v_iload_n C dX7_rank_1 rfl 1 rfl ?_
  refine k_X7_looks C a1  h mM_X7_157 ⟨Nat.le_of_ble_eq_true rfl, Nat.le_of_ble_eq_true rfl⟩ (Nat.le_of_ble_eq_true rfl) dX7_rank_2 (fun r2 σ1 h => ?_)
  refine v_istore C [(4, .int r2), (0, .ref (lad L 306)), (1, .int a1), (2, .int a2), (3, .int a3)] dX7_rank_5 (by decide) rfl ?_
  refine v_iload C dX7_rank_7 0 rfl ?_
  refine v_bipush C (v := (-5)) dX7_rank_9 rfl ?_
  refine v_icmp_eq C (tgt := 21) dX7_rank_11 (by decide) (fun hc => ?_) (fun hc => ?_)
  · replace h := h.1 hc
    refine v_iconst C (v := (-1)) dX7_rank_21 rfl ?_
    exact v_iret C dX7_rank_22 hret hlk h
  · replace h := h.2 hc
    refine v_iload_n C dX7_rank_14 rfl 3 rfl ?_
    refine k_X7_isLetter C a2  h mM_X7_76 ⟨Nat.le_of_ble_eq_true rfl, Nat.le_of_ble_eq_true rfl⟩ (Nat.le_of_ble_eq_true rfl) dX7_rank_15 (fun r4 σ3 h => ?_)
    refine v_if_ne C (tgt := 23) dX7_rank_18 (by decide) (fun hc => ?_) (fun hc => ?_)
    · replace h := h.2 hc
      refine v_iconst C (v := 1) dX7_rank_23 rfl ?_
      refine v_aload_n C dX7_rank_24 rfl 1 rfl ?_
      refine v_iload C dX7_rank_25 0 rfl ?_
      refine v_iload_n C dX7_rank_27 rfl 3 rfl ?_
      refine v_bipush C (v := 97) dX7_rank_28 rfl ?_
      refine v_isub C dX7_rank_30 ?_
      refine v_iload_n C dX7_rank_31 rfl 4 rfl ?_
      refine k_X7_ahead C r2 (a2 - 97) a3  h mM_X7_172 ⟨Nat.le_of_ble_eq_true rfl, Nat.le_of_ble_eq_true rfl⟩ (Nat.le_of_ble_eq_true rfl) dX7_rank_32 (fun r6 σ5 h => ?_)
      refine v_iadd C dX7_rank_35 ?_
      exact v_iret C dX7_rank_36 hret hlk h
    · replace h := h.1 hc
      refine v_iconst C (v := (-1)) dX7_rank_21 rfl ?_
      exact v_iret C dX7_rank_22 hret hlk h
theorem hd_X7_rank : yX7_rank.cls ≠ "java/lang/invoke/MethodHandle" ∧ yX7_rank.cls ≠ "java/lang/invoke/VarHandle" ∧ (parseMethodDescriptor yX7_rank.desc).map (fun d => d.parameters.length) = some 3 := by decide +kernel
theorem k_X7_rank {p : Program} {l : Launch} {e : Env} {R : Room} {s : State} {m : MethodId} {args : Array Value} {below : List Frame} {meth : Method} {c : Code} {nL cells slots : Nat} {Q : State → Prop} {A : Nat → Prop} {L : Ly} {own : String} {cc : ByteArray} {σ : Mem} {pc idx : Nat} {lv : List (Nat × Value)} {st : List Value} {K : Int32 → Mem → Prop} (C : Cx p R s m args meth c own cc nL cells slots A L) (a1 : Int32) (a2 : Int32) (a3 : Int32)  (h : w_X7_rank a1 a2 a3 σ K) (hml : Cond.methodLink own idx yX7_rank ∈ wA) (hR : rm_X7_rank.frames + 1 ≤ R.frames ∧ 8 + (5 + 11) + rm_X7_rank.locals ≤ R.locals) (hsum : (st.map fun v => v.category).sum ≤ 8) (d : decode cc pc = .ok (.invokevirtual idx, 3)) (kk : ∀ r σ1, K r σ1 → V p l e R s m args below meth c nL cells slots Q A L σ1 (pc + 3) lv (.int r :: st)) : V p l e R s m args below meth c nL cells slots Q A L σ pc lv (.int a3 :: .int a2 :: .int a1 :: .ref (lad L 306) :: st) := v_callVi C [.int a1, .int a2, .int a3] (fun sz => c_X7_rank l L a1 a2 a3 σ _  h sz) mC_X7_rank mZ_X7 hd_X7_rank mI_X7_rank mS_X7_rank rfl rfl (c0 := 7) (ci := 7) (by decide) rfl rfl rfl kdn_306 hml hR rfl hsum d kk
-- ===== RX7.alike
abbrev rm_X7_alike : Room := { frames := 5, cells := 0, slots := 0, locals := 116 }
def w_X7_alike_34 (a1 : Int32) (a2 : Int32) (K : Int32 → Mem → Prop)  : Nat → Int32 → Int32 → Int32 → Int32 → Mem → Prop
  | 0, _, _, _, _, _ => False
  | n + 1, x3, x4, x5, x6, σ => (br (26 ≤ x6) (K x5 σ) (w_X7_lower x3 x6 σ (fun r6 σ5 => (w_X7_upper x4 x6 σ5 (fun r8 σ7 => (br (r8 < r6) (∀ v9 : Int32, v9 = (x5 + 0) → (w_X7_alike_34 a1 a2 K  n x3 x4 v9 (x6 + 1) σ7)) (w_X7_lower x4 x6 σ7 (fun r11 σ10 => (w_X7_upper x3 x6 σ10 (fun r13 σ12 => (br (r13 < r11) (∀ v14 : Int32, v14 = (x5 + 0) → (w_X7_alike_34 a1 a2 K  n x3 x4 v14 (x6 + 1) σ12)) (∀ v15 : Int32, v15 = (x5 + 1) → (w_X7_alike_34 a1 a2 K  n x3 x4 v15 (x6 + 1) σ12)))))))))))))
set_option maxHeartbeats 4000000 in
set_option maxRecDepth 100000 in
theorem b_X7_alike_34 {p : Program} {l : Launch} {e : Env} {s : State} {m : MethodId} {args : Array Value} {below : List Frame} {meth : Method} {c : Code} {L : Ly} {sz : Nat} (C : Cx p rm_X7_alike s m args meth c RX7 cX7_alike 7 0 0 (mA L sz) L) (hret : meth.sig.returnType = (some .int)) (hlk : meth.locks = false) (a1 : Int32) (a2 : Int32)  (K : Int32 → Mem → Prop)  : ∀ (n : Nat) (x3 : Int32) (x4 : Int32) (x5 : Int32) (x6 : Int32) (σ : Mem), w_X7_alike_34 a1 a2 K  n x3 x4 x5 x6 σ → V p l e rm_X7_alike s m args below meth c 7 0 0 (MQ below (va_Qi K (mE L) (mA L sz)) args s 0 0 (mA L sz)) (mA L sz) L σ 34 [(0, .ref (lad L 306)), (1, .int a1), (2, .int a2), (3, .int x3), (4, .int x4), (5, .int x5), (6, .int x6)] [] := by
  intro n
  induction n with
  | zero => intro x3 x4 x5 x6 σ  h; exact h.elim
  | succ n ih =>
    intro x3 x4 x5 x6 σ  h
    rw [w_X7_alike_34] at h
    refine v_iload C dX7_alike_34 6 rfl ?_
    refine v_bipush C (v := 26) dX7_alike_36 rfl ?_
    refine v_icmp_ge C (tgt := 93) dX7_alike_38 (by decide) (fun hc => ?_) (fun hc => ?_)
    · replace h := h.1 hc
      refine v_iload C dX7_alike_93 5 rfl ?_
      exact v_iret C dX7_alike_95 hret hlk h
    · replace h := h.2 hc
      refine v_iload C dX7_alike_41 5 rfl ?_
      refine v_aload_n C dX7_alike_43 rfl 0 rfl ?_
      refine v_iload_n C dX7_alike_44 rfl 3 rfl ?_
      refine v_iload C dX7_alike_45 6 rfl ?_
      refine k_X7_lower C x3 x6  h mM_X7_169 ⟨Nat.le_of_ble_eq_true rfl, Nat.le_of_ble_eq_true rfl⟩ (Nat.le_of_ble_eq_true rfl) dX7_alike_47 (fun r6 σ5 h => ?_)
      refine v_aload_n C dX7_alike_50 rfl 0 rfl ?_
      refine v_iload C dX7_alike_51 4 rfl ?_
      refine v_iload C dX7_alike_53 6 rfl ?_
      refine k_X7_upper C x4 x6  h mM_X7_166 ⟨Nat.le_of_ble_eq_true rfl, Nat.le_of_ble_eq_true rfl⟩ (Nat.le_of_ble_eq_true rfl) dX7_alike_55 (fun r8 σ7 h => ?_)
      refine v_icmp_gt C (tgt := 83) dX7_alike_58 (by decide) (fun hc => ?_) (fun hc => ?_)
      · replace h := h.1 hc
        refine v_iconst C (v := 0) dX7_alike_83 rfl ?_
        refine v_iadd C dX7_alike_84 ?_
        refine v_nm (fun v9 ev9 => ?_)
        replace h := h v9 ev9
        refine v_istore C [(5, .int v9), (0, .ref (lad L 306)), (1, .int a1), (2, .int a2), (3, .int x3), (4, .int x4), (6, .int x6)] dX7_alike_85 (by decide) rfl ?_
        refine v_iinc C [(6, .int (x6 + 1)), (5, .int v9), (0, .ref (lad L 306)), (1, .int a1), (2, .int a2), (3, .int x3), (4, .int x4)] dX7_alike_87 6 rfl rfl (by decide) rfl ?_
        refine v_goto C (tgt := 34) dX7_alike_90 (by decide) ?_
        refine v_sub [2, 3, 4, 5, 6, 1, 0] rfl ?_
        exact ih _ _ _ _ _  h
      · replace h := h.2 hc
        refine v_aload_n C dX7_alike_61 rfl 0 rfl ?_
        refine v_iload C dX7_alike_62 4 rfl ?_
        refine v_iload C dX7_alike_64 6 rfl ?_
        refine k_X7_lower C x4 x6  h mM_X7_169 ⟨Nat.le_of_ble_eq_true rfl, Nat.le_of_ble_eq_true rfl⟩ (Nat.le_of_ble_eq_true rfl) dX7_alike_66 (fun r11 σ10 h => ?_)
        refine v_aload_n C dX7_alike_69 rfl 0 rfl ?_
        refine v_iload_n C dX7_alike_70 rfl 3 rfl ?_
        refine v_iload C dX7_alike_71 6 rfl ?_
        refine k_X7_upper C x3 x6  h mM_X7_166 ⟨Nat.le_of_ble_eq_true rfl, Nat.le_of_ble_eq_true rfl⟩ (Nat.le_of_ble_eq_true rfl) dX7_alike_73 (fun r13 σ12 h => ?_)
        refine v_icmp_gt C (tgt := 83) dX7_alike_76 (by decide) (fun hc => ?_) (fun hc => ?_)
        · replace h := h.1 hc
          refine v_iconst C (v := 0) dX7_alike_83 rfl ?_
          refine v_iadd C dX7_alike_84 ?_
          refine v_nm (fun v14 ev14 => ?_)
          replace h := h v14 ev14
          refine v_istore C [(5, .int v14), (0, .ref (lad L 306)), (1, .int a1), (2, .int a2), (3, .int x3), (4, .int x4), (6, .int x6)] dX7_alike_85 (by decide) rfl ?_
          refine v_iinc C [(6, .int (x6 + 1)), (5, .int v14), (0, .ref (lad L 306)), (1, .int a1), (2, .int a2), (3, .int x3), (4, .int x4)] dX7_alike_87 6 rfl rfl (by decide) rfl ?_
          refine v_goto C (tgt := 34) dX7_alike_90 (by decide) ?_
          refine v_sub [2, 3, 4, 5, 6, 1, 0] rfl ?_
          exact ih _ _ _ _ _  h
        · replace h := h.2 hc
          refine v_iconst C (v := 1) dX7_alike_79 rfl ?_
          refine v_goto C (tgt := 84) dX7_alike_80 (by decide) ?_
          refine v_iadd C dX7_alike_84 ?_
          refine v_nm (fun v15 ev15 => ?_)
          replace h := h v15 ev15
          refine v_istore C [(5, .int v15), (0, .ref (lad L 306)), (1, .int a1), (2, .int a2), (3, .int x3), (4, .int x4), (6, .int x6)] dX7_alike_85 (by decide) rfl ?_
          refine v_iinc C [(6, .int (x6 + 1)), (5, .int v15), (0, .ref (lad L 306)), (1, .int a1), (2, .int a2), (3, .int x3), (4, .int x4)] dX7_alike_87 6 rfl rfl (by decide) rfl ?_
          refine v_goto C (tgt := 34) dX7_alike_90 (by decide) ?_
          refine v_sub [2, 3, 4, 5, 6, 1, 0] rfl ?_
          exact ih _ _ _ _ _  h
def w_X7_alike (a1 : Int32) (a2 : Int32) (σ : Mem) (K : Int32 → Mem → Prop) : Prop := (w_X7_looks a1 σ (fun r2 σ1 => (w_X7_looks a2 σ1 (fun r4 σ3 => (br (r2 = (-5)) (K (-1) σ3) (br (r4 = (-5)) (K (-1) σ3) (∃ n16, w_X7_alike_34 a1 a2 K  n16 r2 r4 0 0 σ3)))))))
set_option maxHeartbeats 4000000 in
set_option maxRecDepth 100000 in
theorem c_X7_alike (l : Launch) (L : Ly) (a1 : Int32) (a2 : Int32) (σ : Mem) (K : Int32 → Mem → Prop)  (h : w_X7_alike a1 a2 σ K) (sz : Nat) : Met l yX7_alike (.code yX7_alike cX7_alike 7 (some .int) :: wA) rm_X7_alike (va_Pc [.ref (lad L 306), .int a1, .int a2] (mB L sz σ)) (va_Qi K (mE L) (mA L sz)) 0 0 (mA L sz) := by
  refine v_start (own := RX7) [(0, .ref (lad L 306)), (1, .int a1), (2, .int a2)] (by decide) rfl (Nat.le_of_ble_eq_true rfl) rfl (fun p e s m args below meth c C hret hlk => ?_)
  unfold w_X7_alike at h
  refine v_aload_n C dX7_alike_0 rfl 0 rfl ?_
  refine v_iload_n C dX7_alike_1 rfl 1 rfl ?_
  refine k_X7_looks C a1  h mM_X7_157 ⟨Nat.le_of_ble_eq_true rfl, Nat.le_of_ble_eq_true rfl⟩ (Nat.le_of_ble_eq_true rfl) dX7_alike_2 (fun r2 σ1 h => ?_)
  refine v_istore_n C [(3, .int r2), (0, .ref (lad L 306)), (1, .int a1), (2, .int a2)] dX7_alike_5 rfl (by decide) rfl ?_
  refine v_aload_n C dX7_alike_6 rfl 1 rfl ?_
  refine v_iload_n C dX7_alike_7 rfl 3 rfl ?_
  refine k_X7_looks C a2  h mM_X7_157 ⟨Nat.le_of_ble_eq_true rfl, Nat.le_of_ble_eq_true rfl⟩ (Nat.le_of_ble_eq_true rfl) dX7_alike_8 (fun r4 σ3 h => ?_)
  refine v_istore C [(4, .int r4), (3, .int r2), (0, .ref (lad L 306)), (1, .int a1), (2, .int a2)] dX7_alike_11 (by decide) rfl ?_
  refine v_iload_n C dX7_alike_13 rfl 1 rfl ?_
  refine v_bipush C (v := (-5)) dX7_alike_14 rfl ?_
  refine v_icmp_eq C (tgt := 26) dX7_alike_16 (by decide) (fun hc => ?_) (fun hc => ?_)
  · replace h := h.1 hc
    refine v_iconst C (v := (-1)) dX7_alike_26 rfl ?_
    exact v_iret C dX7_alike_27 hret hlk h
  · replace h := h.2 hc
    refine v_iload C dX7_alike_19 0 rfl ?_
    refine v_bipush C (v := (-5)) dX7_alike_21 rfl ?_
    refine v_icmp_ne C (tgt := 28) dX7_alike_23 (by decide) (fun hc => ?_) (fun hc => ?_)
    · replace h := h.2 hc
      refine v_iconst C (v := 0) dX7_alike_28 rfl ?_
      refine v_istore C [(5, .int 0), (4, .int r4), (3, .int r2), (0, .ref (lad L 306)), (1, .int a1), (2, .int a2)] dX7_alike_29 (by decide) rfl ?_
      refine v_iconst C (v := 0) dX7_alike_31 rfl ?_
      refine v_istore C [(6, .int 0), (5, .int 0), (4, .int r4), (3, .int r2), (0, .ref (lad L 306)), (1, .int a1), (2, .int a2)] dX7_alike_32 (by decide) rfl ?_
      obtain ⟨n16, h⟩ := h
      refine v_sub [4, 5, 6, 3, 2, 1, 0] rfl ?_
      exact b_X7_alike_34 C hret hlk a1 a2  K   n16 _ _ _ _ _  h
    · replace h := h.1 hc
      refine v_iconst C (v := (-1)) dX7_alike_26 rfl ?_
      exact v_iret C dX7_alike_27 hret hlk h
theorem hd_X7_alike : yX7_alike.cls ≠ "java/lang/invoke/MethodHandle" ∧ yX7_alike.cls ≠ "java/lang/invoke/VarHandle" ∧ (parseMethodDescriptor yX7_alike.desc).map (fun d => d.parameters.length) = some 2 := by decide +kernel
theorem k_X7_alike {p : Program} {l : Launch} {e : Env} {R : Room} {s : State} {m : MethodId} {args : Array Value} {below : List Frame} {meth : Method} {c : Code} {nL cells slots : Nat} {Q : State → Prop} {A : Nat → Prop} {L : Ly} {own : String} {cc : ByteArray} {σ : Mem} {pc idx : Nat} {lv : List (Nat × Value)} {st : List Value} {K : Int32 → Mem → Prop} (C : Cx p R s m args meth c own cc nL cells slots A L) (a1 : Int32) (a2 : Int32)  (h : w_X7_alike a1 a2 σ K) (hml : Cond.methodLink own idx yX7_alike ∈ wA) (hR : rm_X7_alike.frames + 1 ≤ R.frames ∧ 8 + (7 + 11) + rm_X7_alike.locals ≤ R.locals) (hsum : (st.map fun v => v.category).sum ≤ 8) (d : decode cc pc = .ok (.invokevirtual idx, 3)) (kk : ∀ r σ1, K r σ1 → V p l e R s m args below meth c nL cells slots Q A L σ1 (pc + 3) lv (.int r :: st)) : V p l e R s m args below meth c nL cells slots Q A L σ pc lv (.int a2 :: .int a1 :: .ref (lad L 306) :: st) := v_callVi C [.int a1, .int a2] (fun sz => c_X7_alike l L a1 a2 σ _  h sz) mC_X7_alike mZ_X7 hd_X7_alike mI_X7_alike mS_X7_alike rfl rfl (c0 := 7) (ci := 7) (by decide) rfl rfl rfl kdn_306 hml hR rfl hsum d kk
-- ===== RX7.wouldEvict
abbrev rm_X7_wouldEvict : Room := { frames := 4, cells := 0, slots := 0, locals := 89 }
def w_X7_wouldEvict (a1 : Int32) (a2 : Int32) (σ : Mem) (K : Int32 → Mem → Prop) : Prop := (w_X7_isSummary a1 σ (fun r2 σ1 => (br (r2 = 0) (K (-1) σ1) (w_X7_isLetter a2 σ1 (fun r4 σ3 => (br (r4 = 0) (K (-1) σ3) (w_X7_has a1 (a2 - 97) σ3 (fun r6 σ5 => (br (r6 = 0) (w_X7_counters a1 σ5 (fun r8 σ7 => (w_X7_of a1 0 σ7 (fun r10 σ9 => (br (r8 = r10) (w_X7_least a1 σ9 (fun r12 σ11 => (K (97 + r12) σ11))) (K (-5) σ9)))))) (K (-5) σ5))))))))))
set_option maxHeartbeats 4000000 in
set_option maxRecDepth 100000 in
theorem c_X7_wouldEvict (l : Launch) (L : Ly) (a1 : Int32) (a2 : Int32) (σ : Mem) (K : Int32 → Mem → Prop)  (h : w_X7_wouldEvict a1 a2 σ K) (sz : Nat) : Met l yX7_wouldEvict (.code yX7_wouldEvict cX7_wouldEvict 4 (some .int) :: wA) rm_X7_wouldEvict (va_Pc [.ref (lad L 306), .int a1, .int a2] (mB L sz σ)) (va_Qi K (mE L) (mA L sz)) 0 0 (mA L sz) := by
  refine v_start (own := RX7) [(0, .ref (lad L 306)), (1, .int a1), (2, .int a2)] (by decide) rfl (Nat.le_of_ble_eq_true rfl) rfl (fun p e s m args below meth c C hret hlk => ?_)
  unfold w_X7_wouldEvict at h
  refine v_iload_n C dX7_wouldEvict_0 rfl 1 rfl ?_
  refine k_X7_isSummary C a1  h mM_X7_72 ⟨Nat.le_of_ble_eq_true rfl, Nat.le_of_ble_eq_true rfl⟩ (Nat.le_of_ble_eq_true rfl) dX7_wouldEvict_1 (fun r2 σ1 h => ?_)
  refine v_if_eq C (tgt := 14) dX7_wouldEvict_4 (by decide) (fun hc => ?_) (fun hc => ?_)
  · replace h := h.1 hc
    refine v_iconst C (v := (-1)) dX7_wouldEvict_14 rfl ?_
    exact v_iret C dX7_wouldEvict_15 hret hlk h
  · replace h := h.2 hc
    refine v_iload_n C dX7_wouldEvict_7 rfl 2 rfl ?_
    refine k_X7_isLetter C a2  h mM_X7_76 ⟨Nat.le_of_ble_eq_true rfl, Nat.le_of_ble_eq_true rfl⟩ (Nat.le_of_ble_eq_true rfl) dX7_wouldEvict_8 (fun r4 σ3 h => ?_)
    refine v_if_ne C (tgt := 16) dX7_wouldEvict_11 (by decide) (fun hc => ?_) (fun hc => ?_)
    · replace h := h.2 hc
      refine v_aload_n C dX7_wouldEvict_16 rfl 0 rfl ?_
      refine v_iload_n C dX7_wouldEvict_17 rfl 1 rfl ?_
      refine v_iload_n C dX7_wouldEvict_18 rfl 2 rfl ?_
      refine v_bipush C (v := 97) dX7_wouldEvict_19 rfl ?_
      refine v_isub C dX7_wouldEvict_21 ?_
      refine k_X7_has C a1 (a2 - 97)  h mM_X7_43 ⟨Nat.le_of_ble_eq_true rfl, Nat.le_of_ble_eq_true rfl⟩ (Nat.le_of_ble_eq_true rfl) dX7_wouldEvict_22 (fun r6 σ5 h => ?_)
      refine v_if_ne C (tgt := 46) dX7_wouldEvict_25 (by decide) (fun hc => ?_) (fun hc => ?_)
      · replace h := h.2 hc
        refine v_iconst C (v := 0) dX7_wouldEvict_46 rfl ?_
        refine v_istore_n C [(3, .int 0), (0, .ref (lad L 306)), (1, .int a1), (2, .int a2)] dX7_wouldEvict_47 rfl (by decide) rfl ?_
        refine v_iload_n C dX7_wouldEvict_48 rfl 0 rfl ?_
        refine v_if_eq C (tgt := 63) dX7_wouldEvict_49 (by decide) (fun hc => ?_) (fun hc => ?_)
        · refine v_bipush C (v := (-5)) dX7_wouldEvict_63 rfl ?_
          exact v_iret C dX7_wouldEvict_65 hret hlk h
        · exact absurd hc (by decide)
      · replace h := h.1 hc
        refine v_aload_n C dX7_wouldEvict_28 rfl 0 rfl ?_
        refine v_iload_n C dX7_wouldEvict_29 rfl 1 rfl ?_
        refine k_X7_counters C a1  h mM_X7_65 ⟨Nat.le_of_ble_eq_true rfl, Nat.le_of_ble_eq_true rfl⟩ (Nat.le_of_ble_eq_true rfl) dX7_wouldEvict_30 (fun r8 σ7 h => ?_)
        refine v_aload_n C dX7_wouldEvict_33 rfl 0 rfl ?_
        refine v_iload_n C dX7_wouldEvict_34 rfl 1 rfl ?_
        refine v_iconst C (v := 0) dX7_wouldEvict_35 rfl ?_
        refine k_X7_of C a1 0  h mM_X7_47 ⟨Nat.le_of_ble_eq_true rfl, Nat.le_of_ble_eq_true rfl⟩ (Nat.le_of_ble_eq_true rfl) dX7_wouldEvict_36 (fun r10 σ9 h => ?_)
        refine v_icmp_ne C (tgt := 46) dX7_wouldEvict_39 (by decide) (fun hc => ?_) (fun hc => ?_)
        · replace h := h.2 hc
          refine v_iconst C (v := 0) dX7_wouldEvict_46 rfl ?_
          refine v_istore_n C [(3, .int 0), (0, .ref (lad L 306)), (1, .int a1), (2, .int a2)] dX7_wouldEvict_47 rfl (by decide) rfl ?_
          refine v_iload_n C dX7_wouldEvict_48 rfl 0 rfl ?_
          refine v_if_eq C (tgt := 63) dX7_wouldEvict_49 (by decide) (fun hc => ?_) (fun hc => ?_)
          · refine v_bipush C (v := (-5)) dX7_wouldEvict_63 rfl ?_
            exact v_iret C dX7_wouldEvict_65 hret hlk h
          · exact absurd hc (by decide)
        · replace h := h.1 hc
          refine v_iconst C (v := 1) dX7_wouldEvict_42 rfl ?_
          refine v_goto C (tgt := 47) dX7_wouldEvict_43 (by decide) ?_
          refine v_istore_n C [(3, .int 1), (0, .ref (lad L 306)), (1, .int a1), (2, .int a2)] dX7_wouldEvict_47 rfl (by decide) rfl ?_
          refine v_iload_n C dX7_wouldEvict_48 rfl 0 rfl ?_
          refine v_if_eq C (tgt := 63) dX7_wouldEvict_49 (by decide) (fun hc => ?_) (fun hc => ?_)
          · exact absurd hc (by decide)
          · refine v_bipush C (v := 97) dX7_wouldEvict_52 rfl ?_
            refine v_aload_n C dX7_wouldEvict_54 rfl 1 rfl ?_
            refine v_iload_n C dX7_wouldEvict_55 rfl 2 rfl ?_
            refine k_X7_least C a1  h mM_X7_55 ⟨Nat.le_of_ble_eq_true rfl, Nat.le_of_ble_eq_true rfl⟩ (Nat.le_of_ble_eq_true rfl) dX7_wouldEvict_56 (fun r12 σ11 h => ?_)
            refine v_iadd C dX7_wouldEvict_59 ?_
            refine v_goto C (tgt := 65) dX7_wouldEvict_60 (by decide) ?_
            exact v_iret C dX7_wouldEvict_65 hret hlk h
    · replace h := h.1 hc
      refine v_iconst C (v := (-1)) dX7_wouldEvict_14 rfl ?_
      exact v_iret C dX7_wouldEvict_15 hret hlk h
theorem hd_X7_wouldEvict : yX7_wouldEvict.cls ≠ "java/lang/invoke/MethodHandle" ∧ yX7_wouldEvict.cls ≠ "java/lang/invoke/VarHandle" ∧ (parseMethodDescriptor yX7_wouldEvict.desc).map (fun d => d.parameters.length) = some 2 := by decide +kernel
theorem k_X7_wouldEvict {p : Program} {l : Launch} {e : Env} {R : Room} {s : State} {m : MethodId} {args : Array Value} {below : List Frame} {meth : Method} {c : Code} {nL cells slots : Nat} {Q : State → Prop} {A : Nat → Prop} {L : Ly} {own : String} {cc : ByteArray} {σ : Mem} {pc idx : Nat} {lv : List (Nat × Value)} {st : List Value} {K : Int32 → Mem → Prop} (C : Cx p R s m args meth c own cc nL cells slots A L) (a1 : Int32) (a2 : Int32)  (h : w_X7_wouldEvict a1 a2 σ K) (hml : Cond.methodLink own idx yX7_wouldEvict ∈ wA) (hR : rm_X7_wouldEvict.frames + 1 ≤ R.frames ∧ 8 + (4 + 11) + rm_X7_wouldEvict.locals ≤ R.locals) (hsum : (st.map fun v => v.category).sum ≤ 8) (d : decode cc pc = .ok (.invokevirtual idx, 3)) (kk : ∀ r σ1, K r σ1 → V p l e R s m args below meth c nL cells slots Q A L σ1 (pc + 3) lv (.int r :: st)) : V p l e R s m args below meth c nL cells slots Q A L σ pc lv (.int a2 :: .int a1 :: .ref (lad L 306) :: st) := v_callVi C [.int a1, .int a2] (fun sz => c_X7_wouldEvict l L a1 a2 σ _  h sz) mC_X7_wouldEvict mZ_X7 hd_X7_wouldEvict mI_X7_wouldEvict mS_X7_wouldEvict rfl rfl (c0 := 7) (ci := 7) (by decide) rfl rfl rfl kdn_306 hml hR rfl hsum d kk
-- ===== RX7.block
abbrev rm_X7_block : Room := { frames := 3, cells := 0, slots := 0, locals := 66 }
def w_X7_block (a1 : Int32) (a2 : Int32) (σ : Mem) (K : Int32 → Mem → Prop) : Prop := (vp_in 1076 1244 ∧ (w_X7_in a1 0 ((σ 307 (ix 1076)) - 1) σ (fun r3 σ2 => (br (r3 = 0) (K (-1) σ2) (∀ v4 : Int32, v4 = (4 + a1) → (br (a2 = 0) (w_X7_of v4 3 σ2 (fun r16 σ15 => (K r16 σ15))) (br (a2 = 1) (w_X7_of v4 2 σ2 (fun r14 σ13 => (K r14 σ13))) (br (a2 = 2) (w_X7_counters v4 σ2 (fun r12 σ11 => (K r12 σ11))) (br (a2 = 3) (w_X7_of v4 1 σ2 (fun r10 σ9 => (K r10 σ9))) (K (-2) σ2))))))))))
set_option maxHeartbeats 4000000 in
set_option maxRecDepth 100000 in
theorem c_X7_block (l : Launch) (L : Ly) (a1 : Int32) (a2 : Int32) (σ : Mem) (K : Int32 → Mem → Prop)  (h : w_X7_block a1 a2 σ K) (sz : Nat) : Met l yX7_block (.code yX7_block cX7_block 4 (some .int) :: wA) rm_X7_block (va_Pc [.ref (lad L 306), .int a1, .int a2] (mB L sz σ)) (va_Qi K (mE L) (mA L sz)) 0 0 (mA L sz) := by
  refine v_start (own := RX7) [(0, .ref (lad L 306)), (1, .int a1), (2, .int a2)] (by decide) rfl (Nat.le_of_ble_eq_true rfl) rfl (fun p e s m args below meth c C hret hlk => ?_)
  unfold w_X7_block at h
  refine v_iload_n C dX7_block_0 rfl 1 rfl ?_
  refine v_iconst C (v := 0) dX7_block_1 rfl ?_
  refine v_aload_n C dX7_block_2 rfl 0 rfl ?_
  refine g_7_now C kdn_306 mF_X7_7 dX7_block_3 ?_
  refine v_sipush C (v := 1076) dX7_block_6 rfl ?_
  obtain ⟨hi1, h⟩ := h
  refine v_iald C (c0 := 24) (by decide) rfl kdn_307 hi1 dX7_block_9 ?_
  refine v_iconst C (v := 1) dX7_block_10 rfl ?_
  refine v_isub C dX7_block_11 ?_
  refine k_X7_in C a1 0 ((σ 307 (ix 1076)) - 1)  h mM_X7_35 ⟨Nat.le_of_ble_eq_true rfl, Nat.le_of_ble_eq_true rfl⟩ (Nat.le_of_ble_eq_true rfl) dX7_block_12 (fun r3 σ2 h => ?_)
  refine v_if_ne C (tgt := 20) dX7_block_15 (by decide) (fun hc => ?_) (fun hc => ?_)
  · replace h := h.2 hc
    refine v_iconst C (v := 4) dX7_block_20 rfl ?_
    refine v_iload_n C dX7_block_21 rfl 1 rfl ?_
    refine v_iadd C dX7_block_22 ?_
    refine v_nm (fun v4 ev4 => ?_)
    replace h := h v4 ev4
    refine v_istore_n C [(3, .int v4), (0, .ref (lad L 306)), (1, .int a1), (2, .int a2)] dX7_block_23 rfl (by decide) rfl ?_
    refine v_iload_n C dX7_block_24 rfl 3 rfl ?_
    by_cases hn5 : a2 = 0
    · replace h := h.1 hn5
      refine v_tabIn C (tgt := 56) (v := 0) dX7_block_25 hn5 (by decide) (by decide) rfl (by decide) ?_
      refine v_aload_n C dX7_block_56 rfl 1 rfl ?_
      refine v_iload_n C dX7_block_57 rfl 0 rfl ?_
      refine v_iconst C (v := 3) dX7_block_58 rfl ?_
      refine k_X7_of C v4 3  h mM_X7_47 ⟨Nat.le_of_ble_eq_true rfl, Nat.le_of_ble_eq_true rfl⟩ (Nat.le_of_ble_eq_true rfl) dX7_block_59 (fun r16 σ15 h => ?_)
      exact v_iret C dX7_block_62 hret hlk h
    · replace h := h.2 hn5
      by_cases hn6 : a2 = 1
      · replace h := h.1 hn6
        refine v_tabIn C (tgt := 63) (v := 1) dX7_block_25 hn6 (by decide) (by decide) rfl (by decide) ?_
        refine v_aload_n C dX7_block_63 rfl 1 rfl ?_
        refine v_iload_n C dX7_block_64 rfl 0 rfl ?_
        refine v_iconst C (v := 2) dX7_block_65 rfl ?_
        refine k_X7_of C v4 2  h mM_X7_47 ⟨Nat.le_of_ble_eq_true rfl, Nat.le_of_ble_eq_true rfl⟩ (Nat.le_of_ble_eq_true rfl) dX7_block_66 (fun r14 σ13 h => ?_)
        exact v_iret C dX7_block_69 hret hlk h
      · replace h := h.2 hn6
        by_cases hn7 : a2 = 2
        · replace h := h.1 hn7
          refine v_tabIn C (tgt := 70) (v := 2) dX7_block_25 hn7 (by decide) (by decide) rfl (by decide) ?_
          refine v_aload_n C dX7_block_70 rfl 1 rfl ?_
          refine v_iload_n C dX7_block_71 rfl 0 rfl ?_
          refine k_X7_counters C v4  h mM_X7_65 ⟨Nat.le_of_ble_eq_true rfl, Nat.le_of_ble_eq_true rfl⟩ (Nat.le_of_ble_eq_true rfl) dX7_block_72 (fun r12 σ11 h => ?_)
          exact v_iret C dX7_block_75 hret hlk h
        · replace h := h.2 hn7
          by_cases hn8 : a2 = 3
          · replace h := h.1 hn8
            refine v_tabIn C (tgt := 76) (v := 3) dX7_block_25 hn8 (by decide) (by decide) rfl (by decide) ?_
            refine v_aload_n C dX7_block_76 rfl 1 rfl ?_
            refine v_iload_n C dX7_block_77 rfl 0 rfl ?_
            refine v_iconst C (v := 1) dX7_block_78 rfl ?_
            refine k_X7_of C v4 1  h mM_X7_47 ⟨Nat.le_of_ble_eq_true rfl, Nat.le_of_ble_eq_true rfl⟩ (Nat.le_of_ble_eq_true rfl) dX7_block_79 (fun r10 σ9 h => ?_)
            exact v_iret C dX7_block_82 hret hlk h
          · replace h := h.2 hn8
            refine v_tabOut C (tgt := 83) dX7_block_25 (by have thn5 := lv_neT hn5 (a := 0) (by decide); have thn6 := lv_neT hn6 (a := 1) (by decide); have thn7 := lv_neT hn7 (a := 2) (by decide); have thn8 := lv_neT hn8 (a := 3) (by decide); omega) (by decide) ?_
            refine v_bipush C (v := (-2)) dX7_block_83 rfl ?_
            exact v_iret C dX7_block_85 hret hlk h
  · replace h := h.1 hc
    refine v_iconst C (v := (-1)) dX7_block_18 rfl ?_
    exact v_iret C dX7_block_19 hret hlk h
theorem hd_X7_block : yX7_block.cls ≠ "java/lang/invoke/MethodHandle" ∧ yX7_block.cls ≠ "java/lang/invoke/VarHandle" ∧ (parseMethodDescriptor yX7_block.desc).map (fun d => d.parameters.length) = some 2 := by decide +kernel
theorem k_X7_block {p : Program} {l : Launch} {e : Env} {R : Room} {s : State} {m : MethodId} {args : Array Value} {below : List Frame} {meth : Method} {c : Code} {nL cells slots : Nat} {Q : State → Prop} {A : Nat → Prop} {L : Ly} {own : String} {cc : ByteArray} {σ : Mem} {pc idx : Nat} {lv : List (Nat × Value)} {st : List Value} {K : Int32 → Mem → Prop} (C : Cx p R s m args meth c own cc nL cells slots A L) (a1 : Int32) (a2 : Int32)  (h : w_X7_block a1 a2 σ K) (hml : Cond.methodLink own idx yX7_block ∈ wA) (hR : rm_X7_block.frames + 1 ≤ R.frames ∧ 8 + (4 + 11) + rm_X7_block.locals ≤ R.locals) (hsum : (st.map fun v => v.category).sum ≤ 8) (d : decode cc pc = .ok (.invokevirtual idx, 3)) (kk : ∀ r σ1, K r σ1 → V p l e R s m args below meth c nL cells slots Q A L σ1 (pc + 3) lv (.int r :: st)) : V p l e R s m args below meth c nL cells slots Q A L σ pc lv (.int a2 :: .int a1 :: .ref (lad L 306) :: st) := v_callVi C [.int a1, .int a2] (fun sz => c_X7_block l L a1 a2 σ _  h sz) mC_X7_block mZ_X7 hd_X7_block mI_X7_block mS_X7_block rfl rfl (c0 := 7) (ci := 7) (by decide) rfl rfl rfl kdn_306 hml hR rfl hsum d kk
-- ===== RX7.event
abbrev rm_X7_event : Room := { frames := 1, cells := 0, slots := 0, locals := 22 }
def w_X7_event (a1 : Int32) (a2 : Int32) (σ : Mem) (K : Int32 → Mem → Prop) : Prop := (br (a1 < 0) (K (-2) σ) (w_X7_in a2 0 3 σ (fun r2 σ1 => (br (r2 = 0) (K (-2) σ1) (vp_in 1077 1244 ∧ (br ((σ1 307 (ix 1077)) ≤ a1) (K (-5) σ1) (vp_in 1077 1244 ∧ (vp_in ((1078 + (4 * (((σ1 307 (ix 1077)) - 1) - a1))) + a2) 1244 ∧ (K (σ1 307 (ix ((1078 + (4 * (((σ1 307 (ix 1077)) - 1) - a1))) + a2))) σ1)))))))))
set_option maxHeartbeats 4000000 in
set_option maxRecDepth 100000 in
theorem c_X7_event (l : Launch) (L : Ly) (a1 : Int32) (a2 : Int32) (σ : Mem) (K : Int32 → Mem → Prop)  (h : w_X7_event a1 a2 σ K) (sz : Nat) : Met l yX7_event (.code yX7_event cX7_event 3 (some .int) :: wA) rm_X7_event (va_Pc [.ref (lad L 306), .int a1, .int a2] (mB L sz σ)) (va_Qi K (mE L) (mA L sz)) 0 0 (mA L sz) := by
  refine v_start (own := RX7) [(0, .ref (lad L 306)), (1, .int a1), (2, .int a2)] (by decide) rfl (Nat.le_of_ble_eq_true rfl) rfl (fun p e s m args below meth c C hret hlk => ?_)
  unfold w_X7_event at h
  refine v_iload_n C dX7_event_0 rfl 1 rfl ?_
  refine v_if_lt C (tgt := 13) dX7_event_1 (by decide) (fun hc => ?_) (fun hc => ?_)
  · replace h := h.1 hc
    refine v_bipush C (v := (-2)) dX7_event_13 rfl ?_
    exact v_iret C dX7_event_15 hret hlk h
  · replace h := h.2 hc
    refine v_iload_n C dX7_event_4 rfl 2 rfl ?_
    refine v_iconst C (v := 0) dX7_event_5 rfl ?_
    refine v_iconst C (v := 3) dX7_event_6 rfl ?_
    refine k_X7_in C a2 0 3  h mM_X7_35 ⟨Nat.le_of_ble_eq_true rfl, Nat.le_of_ble_eq_true rfl⟩ (Nat.le_of_ble_eq_true rfl) dX7_event_7 (fun r2 σ1 h => ?_)
    refine v_if_ne C (tgt := 16) dX7_event_10 (by decide) (fun hc => ?_) (fun hc => ?_)
    · replace h := h.2 hc
      refine v_iload_n C dX7_event_16 rfl 1 rfl ?_
      refine v_aload_n C dX7_event_17 rfl 0 rfl ?_
      refine g_7_now C kdn_306 mF_X7_7 dX7_event_18 ?_
      refine v_sipush C (v := 1077) dX7_event_21 rfl ?_
      obtain ⟨hi3, h⟩ := h
      refine v_iald C (c0 := 24) (by decide) rfl kdn_307 hi3 dX7_event_24 ?_
      refine v_icmp_ge C (tgt := 56) dX7_event_25 (by decide) (fun hc => ?_) (fun hc => ?_)
      · replace h := h.1 hc
        refine v_bipush C (v := (-5)) dX7_event_56 rfl ?_
        exact v_iret C dX7_event_58 hret hlk h
      · replace h := h.2 hc
        refine v_aload_n C dX7_event_28 rfl 0 rfl ?_
        refine g_7_now C kdn_306 mF_X7_7 dX7_event_29 ?_
        refine v_sipush C (v := 1078) dX7_event_32 rfl ?_
        refine v_iconst C (v := 4) dX7_event_35 rfl ?_
        refine v_aload_n C dX7_event_36 rfl 0 rfl ?_
        refine g_7_now C kdn_306 mF_X7_7 dX7_event_37 ?_
        refine v_sipush C (v := 1077) dX7_event_40 rfl ?_
        obtain ⟨hi4, h⟩ := h
        refine v_iald C (c0 := 24) (by decide) rfl kdn_307 hi4 dX7_event_43 ?_
        refine v_iconst C (v := 1) dX7_event_44 rfl ?_
        refine v_isub C dX7_event_45 ?_
        refine v_iload_n C dX7_event_46 rfl 1 rfl ?_
        refine v_isub C dX7_event_47 ?_
        refine v_imul C dX7_event_48 ?_
        refine v_iadd C dX7_event_49 ?_
        refine v_iload_n C dX7_event_50 rfl 2 rfl ?_
        refine v_iadd C dX7_event_51 ?_
        obtain ⟨hi5, h⟩ := h
        refine v_iald C (c0 := 24) (by decide) rfl kdn_307 hi5 dX7_event_52 ?_
        refine v_goto C (tgt := 58) dX7_event_53 (by decide) ?_
        exact v_iret C dX7_event_58 hret hlk h
    · replace h := h.1 hc
      refine v_bipush C (v := (-2)) dX7_event_13 rfl ?_
      exact v_iret C dX7_event_15 hret hlk h
theorem hd_X7_event : yX7_event.cls ≠ "java/lang/invoke/MethodHandle" ∧ yX7_event.cls ≠ "java/lang/invoke/VarHandle" ∧ (parseMethodDescriptor yX7_event.desc).map (fun d => d.parameters.length) = some 2 := by decide +kernel
theorem k_X7_event {p : Program} {l : Launch} {e : Env} {R : Room} {s : State} {m : MethodId} {args : Array Value} {below : List Frame} {meth : Method} {c : Code} {nL cells slots : Nat} {Q : State → Prop} {A : Nat → Prop} {L : Ly} {own : String} {cc : ByteArray} {σ : Mem} {pc idx : Nat} {lv : List (Nat × Value)} {st : List Value} {K : Int32 → Mem → Prop} (C : Cx p R s m args meth c own cc nL cells slots A L) (a1 : Int32) (a2 : Int32)  (h : w_X7_event a1 a2 σ K) (hml : Cond.methodLink own idx yX7_event ∈ wA) (hR : rm_X7_event.frames + 1 ≤ R.frames ∧ 8 + (3 + 11) + rm_X7_event.locals ≤ R.locals) (hsum : (st.map fun v => v.category).sum ≤ 8) (d : decode cc pc = .ok (.invokevirtual idx, 3)) (kk : ∀ r σ1, K r σ1 → V p l e R s m args below meth c nL cells slots Q A L σ1 (pc + 3) lv (.int r :: st)) : V p l e R s m args below meth c nL cells slots Q A L σ pc lv (.int a2 :: .int a1 :: .ref (lad L 306) :: st) := v_callVi C [.int a1, .int a2] (fun sz => c_X7_event l L a1 a2 σ _  h sz) mC_X7_event mZ_X7 hd_X7_event mI_X7_event mS_X7_event rfl rfl (c0 := 7) (ci := 7) (by decide) rfl rfl rfl kdn_306 hml hR rfl hsum d kk
-- ===== RX7.count
abbrev rm_X7_count : Room := { frames := 2, cells := 0, slots := 0, locals := 42 }
def w_X7_count (a1 : Int32) (σ : Mem) (K : Int32 → Mem → Prop) : Prop := (br (a1 = 0) (vp_in (1072 + a1) 1244 ∧ (K (σ 307 (ix (1072 + a1))) σ)) (br (a1 = 1) (vp_in (1072 + a1) 1244 ∧ (K (σ 307 (ix (1072 + a1))) σ)) (br (a1 = 2) (vp_in (1072 + a1) 1244 ∧ (K (σ 307 (ix (1072 + a1))) σ)) (br (a1 = 3) (vp_in (1072 + a1) 1244 ∧ (K (σ 307 (ix (1072 + a1))) σ)) (br (a1 = 4) (vp_in (1072 + a1) 1244 ∧ (K (σ 307 (ix (1072 + a1))) σ)) (br (a1 = 5) (w_X7_present  σ (fun r10 σ9 => (w_X7_of r10 3 σ9 (fun r12 σ11 => (K r12 σ11))))) (br (a1 = 6) (K (σ 306 2) σ) (br (a1 = 7) (K (σ 306 5) σ) (K (-2) σ)))))))))
set_option maxHeartbeats 4000000 in
set_option maxRecDepth 100000 in
theorem c_X7_count (l : Launch) (L : Ly) (a1 : Int32) (σ : Mem) (K : Int32 → Mem → Prop)  (h : w_X7_count a1 σ K) (sz : Nat) : Met l yX7_count (.code yX7_count cX7_count 2 (some .int) :: wA) rm_X7_count (va_Pc [.ref (lad L 306), .int a1] (mB L sz σ)) (va_Qi K (mE L) (mA L sz)) 0 0 (mA L sz) := by
  refine v_start (own := RX7) [(0, .ref (lad L 306)), (1, .int a1)] (by decide) rfl (Nat.le_of_ble_eq_true rfl) rfl (fun p e s m args below meth c C hret hlk => ?_)
  unfold w_X7_count at h
  refine v_iload_n C dX7_count_0 rfl 1 rfl ?_
  by_cases hn1 : a1 = 0
  · replace h := h.1 hn1
    refine v_tabIn C (tgt := 48) (v := 0) dX7_count_1 hn1 (by decide) (by decide) rfl (by decide) ?_
    refine v_aload_n C dX7_count_48 rfl 0 rfl ?_
    refine g_7_now C kdn_306 mF_X7_7 dX7_count_49 ?_
    refine v_sipush C (v := 1072) dX7_count_52 rfl ?_
    refine v_iload_n C dX7_count_55 rfl 1 rfl ?_
    refine v_iadd C dX7_count_56 ?_
    obtain ⟨hi17, h⟩ := h
    refine v_iald C (c0 := 24) (by decide) rfl kdn_307 hi17 dX7_count_57 ?_
    exact v_iret C dX7_count_58 hret hlk h
  · replace h := h.2 hn1
    by_cases hn2 : a1 = 1
    · replace h := h.1 hn2
      refine v_tabIn C (tgt := 48) (v := 1) dX7_count_1 hn2 (by decide) (by decide) rfl (by decide) ?_
      refine v_aload_n C dX7_count_48 rfl 0 rfl ?_
      refine g_7_now C kdn_306 mF_X7_7 dX7_count_49 ?_
      refine v_sipush C (v := 1072) dX7_count_52 rfl ?_
      refine v_iload_n C dX7_count_55 rfl 1 rfl ?_
      refine v_iadd C dX7_count_56 ?_
      obtain ⟨hi16, h⟩ := h
      refine v_iald C (c0 := 24) (by decide) rfl kdn_307 hi16 dX7_count_57 ?_
      exact v_iret C dX7_count_58 hret hlk h
    · replace h := h.2 hn2
      by_cases hn3 : a1 = 2
      · replace h := h.1 hn3
        refine v_tabIn C (tgt := 48) (v := 2) dX7_count_1 hn3 (by decide) (by decide) rfl (by decide) ?_
        refine v_aload_n C dX7_count_48 rfl 0 rfl ?_
        refine g_7_now C kdn_306 mF_X7_7 dX7_count_49 ?_
        refine v_sipush C (v := 1072) dX7_count_52 rfl ?_
        refine v_iload_n C dX7_count_55 rfl 1 rfl ?_
        refine v_iadd C dX7_count_56 ?_
        obtain ⟨hi15, h⟩ := h
        refine v_iald C (c0 := 24) (by decide) rfl kdn_307 hi15 dX7_count_57 ?_
        exact v_iret C dX7_count_58 hret hlk h
      · replace h := h.2 hn3
        by_cases hn4 : a1 = 3
        · replace h := h.1 hn4
          refine v_tabIn C (tgt := 48) (v := 3) dX7_count_1 hn4 (by decide) (by decide) rfl (by decide) ?_
          refine v_aload_n C dX7_count_48 rfl 0 rfl ?_
          refine g_7_now C kdn_306 mF_X7_7 dX7_count_49 ?_
          refine v_sipush C (v := 1072) dX7_count_52 rfl ?_
          refine v_iload_n C dX7_count_55 rfl 1 rfl ?_
          refine v_iadd C dX7_count_56 ?_
          obtain ⟨hi14, h⟩ := h
          refine v_iald C (c0 := 24) (by decide) rfl kdn_307 hi14 dX7_count_57 ?_
          exact v_iret C dX7_count_58 hret hlk h
        · replace h := h.2 hn4
          by_cases hn5 : a1 = 4
          · replace h := h.1 hn5
            refine v_tabIn C (tgt := 48) (v := 4) dX7_count_1 hn5 (by decide) (by decide) rfl (by decide) ?_
            refine v_aload_n C dX7_count_48 rfl 0 rfl ?_
            refine g_7_now C kdn_306 mF_X7_7 dX7_count_49 ?_
            refine v_sipush C (v := 1072) dX7_count_52 rfl ?_
            refine v_iload_n C dX7_count_55 rfl 1 rfl ?_
            refine v_iadd C dX7_count_56 ?_
            obtain ⟨hi13, h⟩ := h
            refine v_iald C (c0 := 24) (by decide) rfl kdn_307 hi13 dX7_count_57 ?_
            exact v_iret C dX7_count_58 hret hlk h
          · replace h := h.2 hn5
            by_cases hn6 : a1 = 5
            · replace h := h.1 hn6
              refine v_tabIn C (tgt := 59) (v := 5) dX7_count_1 hn6 (by decide) (by decide) rfl (by decide) ?_
              refine v_aload_n C dX7_count_59 rfl 0 rfl ?_
              refine v_aload_n C dX7_count_60 rfl 0 rfl ?_
              refine k_X7_present C   h mM_X7_87 ⟨Nat.le_of_ble_eq_true rfl, Nat.le_of_ble_eq_true rfl⟩ (Nat.le_of_ble_eq_true rfl) dX7_count_61 (fun r10 σ9 h => ?_)
              refine v_iconst C (v := 3) dX7_count_64 rfl ?_
              refine k_X7_of C r10 3  h mM_X7_47 ⟨Nat.le_of_ble_eq_true rfl, Nat.le_of_ble_eq_true rfl⟩ (Nat.le_of_ble_eq_true rfl) dX7_count_65 (fun r12 σ11 h => ?_)
              exact v_iret C dX7_count_68 hret hlk h
            · replace h := h.2 hn6
              by_cases hn7 : a1 = 6
              · replace h := h.1 hn7
                refine v_tabIn C (tgt := 69) (v := 6) dX7_count_1 hn7 (by decide) (by decide) rfl (by decide) ?_
                refine v_aload_n C dX7_count_69 rfl 0 rfl ?_
                refine g_7_kept C kdn_306 mF_X7_39 dX7_count_70 ?_
                exact v_iret C dX7_count_73 hret hlk h
              · replace h := h.2 hn7
                by_cases hn8 : a1 = 7
                · replace h := h.1 hn8
                  refine v_tabIn C (tgt := 74) (v := 7) dX7_count_1 hn8 (by decide) (by decide) rfl (by decide) ?_
                  refine v_aload_n C dX7_count_74 rfl 0 rfl ?_
                  refine g_7_typed C kdn_306 mF_X7_103 dX7_count_75 ?_
                  exact v_iret C dX7_count_78 hret hlk h
                · replace h := h.2 hn8
                  refine v_tabOut C (tgt := 79) dX7_count_1 (by have thn1 := lv_neT hn1 (a := 0) (by decide); have thn2 := lv_neT hn2 (a := 1) (by decide); have thn3 := lv_neT hn3 (a := 2) (by decide); have thn4 := lv_neT hn4 (a := 3) (by decide); have thn5 := lv_neT hn5 (a := 4) (by decide); have thn6 := lv_neT hn6 (a := 5) (by decide); have thn7 := lv_neT hn7 (a := 6) (by decide); have thn8 := lv_neT hn8 (a := 7) (by decide); omega) (by decide) ?_
                  refine v_bipush C (v := (-2)) dX7_count_79 rfl ?_
                  exact v_iret C dX7_count_81 hret hlk h
theorem hd_X7_count : yX7_count.cls ≠ "java/lang/invoke/MethodHandle" ∧ yX7_count.cls ≠ "java/lang/invoke/VarHandle" ∧ (parseMethodDescriptor yX7_count.desc).map (fun d => d.parameters.length) = some 1 := by decide +kernel
theorem k_X7_count {p : Program} {l : Launch} {e : Env} {R : Room} {s : State} {m : MethodId} {args : Array Value} {below : List Frame} {meth : Method} {c : Code} {nL cells slots : Nat} {Q : State → Prop} {A : Nat → Prop} {L : Ly} {own : String} {cc : ByteArray} {σ : Mem} {pc idx : Nat} {lv : List (Nat × Value)} {st : List Value} {K : Int32 → Mem → Prop} (C : Cx p R s m args meth c own cc nL cells slots A L) (a1 : Int32)  (h : w_X7_count a1 σ K) (hml : Cond.methodLink own idx yX7_count ∈ wA) (hR : rm_X7_count.frames + 1 ≤ R.frames ∧ 8 + (2 + 11) + rm_X7_count.locals ≤ R.locals) (hsum : (st.map fun v => v.category).sum ≤ 8) (d : decode cc pc = .ok (.invokevirtual idx, 3)) (kk : ∀ r σ1, K r σ1 → V p l e R s m args below meth c nL cells slots Q A L σ1 (pc + 3) lv (.int r :: st)) : V p l e R s m args below meth c nL cells slots Q A L σ pc lv (.int a1 :: .ref (lad L 306) :: st) := v_callVi C [.int a1] (fun sz => c_X7_count l L a1 σ _  h sz) mC_X7_count mZ_X7 hd_X7_count mI_X7_count mS_X7_count rfl rfl (c0 := 7) (ci := 7) (by decide) rfl rfl rfl kdn_306 hml hR rfl hsum d kk
