-- ===== RX7.in
abbrev rm_X7_in : Room := { frames := 0, cells := 0, slots := 0, locals := 0 }
def w_X7_in (a1 : Int32) (a2 : Int32) (a3 : Int32) (σ : Mem) (K : Int32 → Mem → Prop) : Prop := (br (a1 < a2) (K 0 σ) (br (a3 < a1) (K 0 σ) (K 1 σ)))
set_option maxHeartbeats 4000000 in
set_option maxRecDepth 100000 in
theorem c_X7_in (l : Launch) (L : Ly) (a1 : Int32) (a2 : Int32) (a3 : Int32) (σ : Mem) (K : Int32 → Mem → Prop)  (h : w_X7_in a1 a2 a3 σ K) (sz : Nat) : Met l yX7_in (.code yX7_in cX7_in 3 (some .boolean) :: wA) rm_X7_in (va_Pc [.int a1, .int a2, .int a3] (mB L sz σ)) (va_Qi K (mE L) (mA L sz)) 0 0 (mA L sz) := by
  refine v_start (own := RX7) [(0, .int a1), (1, .int a2), (2, .int a3)] (by decide) rfl (Nat.le_of_ble_eq_true rfl) rfl (fun p e s m args below meth c C hret hlk => ?_)
  unfold w_X7_in at h
  refine v_iload_n C dX7_in_0 rfl 0 rfl ?_
  refine v_iload_n C dX7_in_1 rfl 1 rfl ?_
  refine v_icmp_lt C (tgt := 14) dX7_in_2 (by decide) (fun hc => ?_) (fun hc => ?_)
  · replace h := h.1 hc
    refine v_iconst C (v := 0) dX7_in_14 rfl ?_
    exact v_zret C dX7_in_15 hret hlk rfl h
  · replace h := h.2 hc
    refine v_iload_n C dX7_in_5 rfl 0 rfl ?_
    refine v_iload_n C dX7_in_6 rfl 2 rfl ?_
    refine v_icmp_gt C (tgt := 14) dX7_in_7 (by decide) (fun hc => ?_) (fun hc => ?_)
    · replace h := h.1 hc
      refine v_iconst C (v := 0) dX7_in_14 rfl ?_
      exact v_zret C dX7_in_15 hret hlk rfl h
    · replace h := h.2 hc
      refine v_iconst C (v := 1) dX7_in_10 rfl ?_
      refine v_goto C (tgt := 15) dX7_in_11 (by decide) ?_
      exact v_zret C dX7_in_15 hret hlk rfl h
theorem hd_X7_in : yX7_in.cls ≠ "java/lang/invoke/MethodHandle" ∧ yX7_in.cls ≠ "java/lang/invoke/VarHandle" ∧ (parseMethodDescriptor yX7_in.desc).map (fun d => d.parameters.length) = some 3 := by decide +kernel
theorem k_X7_in {p : Program} {l : Launch} {e : Env} {R : Room} {s : State} {m : MethodId} {args : Array Value} {below : List Frame} {meth : Method} {c : Code} {nL cells slots : Nat} {Q : State → Prop} {A : Nat → Prop} {L : Ly} {own : String} {cc : ByteArray} {σ : Mem} {pc idx : Nat} {lv : List (Nat × Value)} {st : List Value} {K : Int32 → Mem → Prop} (C : Cx p R s m args meth c own cc nL cells slots A L) (a1 : Int32) (a2 : Int32) (a3 : Int32)  (h : w_X7_in a1 a2 a3 σ K) (hml : Cond.methodLink own idx yX7_in ∈ wA) (hR : rm_X7_in.frames + 1 ≤ R.frames ∧ 8 + (3 + 11) + rm_X7_in.locals ≤ R.locals) (hsum : (st.map fun v => v.category).sum ≤ 8) (d : decode cc pc = .ok (.invokestatic idx, 3)) (kk : ∀ r σ1, K r σ1 → V p l e R s m args below meth c nL cells slots Q A L σ1 (pc + 3) lv (.int r :: st)) : V p l e R s m args below meth c nL cells slots Q A L σ pc lv (.int a3 :: .int a2 :: .int a1 :: st) := v_callSi C [.int a1, .int a2, .int a3] (fun sz => c_X7_in l L a1 a2 a3 σ _  h sz) mC_X7_in mZ_X7 hd_X7_in mT_X7_in rfl rfl hml hR rfl hsum d kk
-- ===== RX7.base
abbrev rm_X7_base : Room := { frames := 0, cells := 0, slots := 0, locals := 0 }
def w_X7_base (a1 : Int32) (σ : Mem) (K : Int32 → Mem → Prop) : Prop := (br (8 ≤ a1) (K 1110 σ) (K (134 * a1) σ))
set_option maxHeartbeats 4000000 in
set_option maxRecDepth 100000 in
theorem c_X7_base (l : Launch) (L : Ly) (a1 : Int32) (σ : Mem) (K : Int32 → Mem → Prop)  (h : w_X7_base a1 σ K) (sz : Nat) : Met l yX7_base (.code yX7_base cX7_base 1 (some .int) :: wA) rm_X7_base (va_Pc [.int a1] (mB L sz σ)) (va_Qi K (mE L) (mA L sz)) 0 0 (mA L sz) := by
  refine v_start (own := RX7) [(0, .int a1)] (by decide) rfl (Nat.le_of_ble_eq_true rfl) rfl (fun p e s m args below meth c C hret hlk => ?_)
  unfold w_X7_base at h
  refine v_iload_n C dX7_base_0 rfl 0 rfl ?_
  refine v_bipush C (v := 8) dX7_base_1 rfl ?_
  refine v_icmp_ge C (tgt := 14) dX7_base_3 (by decide) (fun hc => ?_) (fun hc => ?_)
  · replace h := h.1 hc
    refine v_sipush C (v := 1110) dX7_base_14 rfl ?_
    exact v_iret C dX7_base_17 hret hlk h
  · replace h := h.2 hc
    refine v_sipush C (v := 134) dX7_base_6 rfl ?_
    refine v_iload_n C dX7_base_9 rfl 0 rfl ?_
    refine v_imul C dX7_base_10 ?_
    refine v_goto C (tgt := 17) dX7_base_11 (by decide) ?_
    exact v_iret C dX7_base_17 hret hlk h
theorem hd_X7_base : yX7_base.cls ≠ "java/lang/invoke/MethodHandle" ∧ yX7_base.cls ≠ "java/lang/invoke/VarHandle" ∧ (parseMethodDescriptor yX7_base.desc).map (fun d => d.parameters.length) = some 1 := by decide +kernel
theorem k_X7_base {p : Program} {l : Launch} {e : Env} {R : Room} {s : State} {m : MethodId} {args : Array Value} {below : List Frame} {meth : Method} {c : Code} {nL cells slots : Nat} {Q : State → Prop} {A : Nat → Prop} {L : Ly} {own : String} {cc : ByteArray} {σ : Mem} {pc idx : Nat} {lv : List (Nat × Value)} {st : List Value} {K : Int32 → Mem → Prop} (C : Cx p R s m args meth c own cc nL cells slots A L) (a1 : Int32)  (h : w_X7_base a1 σ K) (hml : Cond.methodLink own idx yX7_base ∈ wA) (hR : rm_X7_base.frames + 1 ≤ R.frames ∧ 8 + (1 + 11) + rm_X7_base.locals ≤ R.locals) (hsum : (st.map fun v => v.category).sum ≤ 8) (d : decode cc pc = .ok (.invokestatic idx, 3)) (kk : ∀ r σ1, K r σ1 → V p l e R s m args below meth c nL cells slots Q A L σ1 (pc + 3) lv (.int r :: st)) : V p l e R s m args below meth c nL cells slots Q A L σ pc lv (.int a1 :: st) := v_callSi C [.int a1] (fun sz => c_X7_base l L a1 σ _  h sz) mC_X7_base mZ_X7 hd_X7_base mT_X7_base rfl rfl hml hR rfl hsum d kk
-- ===== RX7.of
abbrev rm_X7_of : Room := { frames := 1, cells := 0, slots := 0, locals := 20 }
def w_X7_of (a1 : Int32) (a2 : Int32) (σ : Mem) (K : Int32 → Mem → Prop) : Prop := (w_X7_base a1 σ (fun r2 σ1 => (vp_in (r2 + a2) 1244 ∧ (K (σ1 307 (ix (r2 + a2))) σ1))))
set_option maxHeartbeats 4000000 in
set_option maxRecDepth 100000 in
theorem c_X7_of (l : Launch) (L : Ly) (a1 : Int32) (a2 : Int32) (σ : Mem) (K : Int32 → Mem → Prop)  (h : w_X7_of a1 a2 σ K) (sz : Nat) : Met l yX7_of (.code yX7_of cX7_of 3 (some .int) :: wA) rm_X7_of (va_Pc [.ref (lad L 306), .int a1, .int a2] (mB L sz σ)) (va_Qi K (mE L) (mA L sz)) 0 0 (mA L sz) := by
  refine v_start (own := RX7) [(0, .ref (lad L 306)), (1, .int a1), (2, .int a2)] (by decide) rfl (Nat.le_of_ble_eq_true rfl) rfl (fun p e s m args below meth c C hret hlk => ?_)
  unfold w_X7_of at h
  refine v_aload_n C dX7_of_0 rfl 0 rfl ?_
  refine g_7_now C kdn_306 mF_X7_7 dX7_of_1 ?_
  refine v_iload_n C dX7_of_4 rfl 1 rfl ?_
  refine k_X7_base C a1  h mM_X7_27 ⟨Nat.le_of_ble_eq_true rfl, Nat.le_of_ble_eq_true rfl⟩ (Nat.le_of_ble_eq_true rfl) dX7_of_5 (fun r2 σ1 h => ?_)
  refine v_iload_n C dX7_of_8 rfl 2 rfl ?_
  refine v_iadd C dX7_of_9 ?_
  obtain ⟨hi3, h⟩ := h
  refine v_iald C (c0 := 24) (by decide) rfl kdn_307 hi3 dX7_of_10 ?_
  exact v_iret C dX7_of_11 hret hlk h
theorem hd_X7_of : yX7_of.cls ≠ "java/lang/invoke/MethodHandle" ∧ yX7_of.cls ≠ "java/lang/invoke/VarHandle" ∧ (parseMethodDescriptor yX7_of.desc).map (fun d => d.parameters.length) = some 2 := by decide +kernel
theorem k_X7_of {p : Program} {l : Launch} {e : Env} {R : Room} {s : State} {m : MethodId} {args : Array Value} {below : List Frame} {meth : Method} {c : Code} {nL cells slots : Nat} {Q : State → Prop} {A : Nat → Prop} {L : Ly} {own : String} {cc : ByteArray} {σ : Mem} {pc idx : Nat} {lv : List (Nat × Value)} {st : List Value} {K : Int32 → Mem → Prop} (C : Cx p R s m args meth c own cc nL cells slots A L) (a1 : Int32) (a2 : Int32)  (h : w_X7_of a1 a2 σ K) (hml : Cond.methodLink own idx yX7_of ∈ wA) (hR : rm_X7_of.frames + 1 ≤ R.frames ∧ 8 + (3 + 11) + rm_X7_of.locals ≤ R.locals) (hsum : (st.map fun v => v.category).sum ≤ 8) (d : decode cc pc = .ok (.invokevirtual idx, 3)) (kk : ∀ r σ1, K r σ1 → V p l e R s m args below meth c nL cells slots Q A L σ1 (pc + 3) lv (.int r :: st)) : V p l e R s m args below meth c nL cells slots Q A L σ pc lv (.int a2 :: .int a1 :: .ref (lad L 306) :: st) := v_callVi C [.int a1, .int a2] (fun sz => c_X7_of l L a1 a2 σ _  h sz) mC_X7_of mZ_X7 hd_X7_of mI_X7_of mS_X7_of rfl rfl (c0 := 7) (ci := 7) (by decide) rfl rfl rfl kdn_306 hml hR rfl hsum d kk
-- ===== RX7.puts
abbrev rm_X7_puts : Room := { frames := 1, cells := 0, slots := 0, locals := 20 }
def w_X7_puts (a1 : Int32) (a2 : Int32) (a3 : Int32) (σ : Mem) (K : Mem → Prop) : Prop := (w_X7_base a1 σ (fun r2 σ1 => (vp_in (r2 + a2) 1244 ∧ ∀ σ4 : Mem, σ4 = mu σ1 307 (ix (r2 + a2)) a3 → (K σ4))))
set_option maxHeartbeats 4000000 in
set_option maxRecDepth 100000 in
theorem c_X7_puts (l : Launch) (L : Ly) (a1 : Int32) (a2 : Int32) (a3 : Int32) (σ : Mem) (K : Mem → Prop)  (h : w_X7_puts a1 a2 a3 σ K) (sz : Nat) : Met l yX7_puts (.code yX7_puts cX7_puts 4 none :: wA) rm_X7_puts (va_Pc [.ref (lad L 306), .int a1, .int a2, .int a3] (mB L sz σ)) (va_Qv K (mE L) (mA L sz)) 0 0 (mA L sz) := by
  refine v_start (own := RX7) [(0, .ref (lad L 306)), (1, .int a1), (2, .int a2), (3, .int a3)] (by decide) rfl (Nat.le_of_ble_eq_true rfl) rfl (fun p e s m args below meth c C hret hlk => ?_)
  unfold w_X7_puts at h
  refine v_aload_n C dX7_puts_0 rfl 0 rfl ?_
  refine g_7_now C kdn_306 mF_X7_7 dX7_puts_1 ?_
  refine v_iload_n C dX7_puts_4 rfl 1 rfl ?_
  refine k_X7_base C a1  h mM_X7_27 ⟨Nat.le_of_ble_eq_true rfl, Nat.le_of_ble_eq_true rfl⟩ (Nat.le_of_ble_eq_true rfl) dX7_puts_5 (fun r2 σ1 h => ?_)
  refine v_iload_n C dX7_puts_8 rfl 2 rfl ?_
  refine v_iadd C dX7_puts_9 ?_
  refine v_iload_n C dX7_puts_10 rfl 3 rfl ?_
  obtain ⟨hi3, h⟩ := h
  refine v_iast C (c0 := 24) (by decide) (fun _ => rfl) kdn_307 hi3 dX7_puts_11 (fun σ4 eσ4 => ?_)
  replace h := h σ4 eσ4
  exact v_vret C dX7_puts_12 hret hlk h
theorem hd_X7_puts : yX7_puts.cls ≠ "java/lang/invoke/MethodHandle" ∧ yX7_puts.cls ≠ "java/lang/invoke/VarHandle" ∧ (parseMethodDescriptor yX7_puts.desc).map (fun d => d.parameters.length) = some 3 := by decide +kernel
theorem k_X7_puts {p : Program} {l : Launch} {e : Env} {R : Room} {s : State} {m : MethodId} {args : Array Value} {below : List Frame} {meth : Method} {c : Code} {nL cells slots : Nat} {Q : State → Prop} {A : Nat → Prop} {L : Ly} {own : String} {cc : ByteArray} {σ : Mem} {pc idx : Nat} {lv : List (Nat × Value)} {st : List Value} {K : Mem → Prop} (C : Cx p R s m args meth c own cc nL cells slots A L) (a1 : Int32) (a2 : Int32) (a3 : Int32)  (h : w_X7_puts a1 a2 a3 σ K) (hml : Cond.methodLink own idx yX7_puts ∈ wA) (hR : rm_X7_puts.frames + 1 ≤ R.frames ∧ 8 + (4 + 11) + rm_X7_puts.locals ≤ R.locals) (hsum : (st.map fun v => v.category).sum ≤ 8) (d : decode cc pc = .ok (.invokevirtual idx, 3)) (kk : ∀ σ1, K σ1 → V p l e R s m args below meth c nL cells slots Q A L σ1 (pc + 3) lv st) : V p l e R s m args below meth c nL cells slots Q A L σ pc lv (.int a3 :: .int a2 :: .int a1 :: .ref (lad L 306) :: st) := v_callVv C [.int a1, .int a2, .int a3] (fun sz => c_X7_puts l L a1 a2 a3 σ _  h sz) mC_X7_puts mZ_X7 hd_X7_puts mI_X7_puts mS_X7_puts rfl rfl (c0 := 7) (ci := 7) (by decide) rfl rfl rfl kdn_306 hml hR rfl hsum d kk
-- ===== RX7.its
abbrev rm_X7_its : Room := { frames := 1, cells := 0, slots := 0, locals := 20 }
def w_X7_its (a1 : Int32) (a2 : Int32) (a3 : Int32) (σ : Mem) (K : Int32 → Mem → Prop) : Prop := (w_X7_base a1 σ (fun r2 σ1 => (vp_in (((r2 + 4) + (5 * a2)) + a3) 1244 ∧ (K (σ1 307 (ix (((r2 + 4) + (5 * a2)) + a3))) σ1))))
set_option maxHeartbeats 4000000 in
set_option maxRecDepth 100000 in
theorem c_X7_its (l : Launch) (L : Ly) (a1 : Int32) (a2 : Int32) (a3 : Int32) (σ : Mem) (K : Int32 → Mem → Prop)  (h : w_X7_its a1 a2 a3 σ K) (sz : Nat) : Met l yX7_its (.code yX7_its cX7_its 4 (some .int) :: wA) rm_X7_its (va_Pc [.ref (lad L 306), .int a1, .int a2, .int a3] (mB L sz σ)) (va_Qi K (mE L) (mA L sz)) 0 0 (mA L sz) := by
  refine v_start (own := RX7) [(0, .ref (lad L 306)), (1, .int a1), (2, .int a2), (3, .int a3)] (by decide) rfl (Nat.le_of_ble_eq_true rfl) rfl (fun p e s m args below meth c C hret hlk => ?_)
  unfold w_X7_its at h
  refine v_aload_n C dX7_its_0 rfl 0 rfl ?_
  refine g_7_now C kdn_306 mF_X7_7 dX7_its_1 ?_
  refine v_iload_n C dX7_its_4 rfl 1 rfl ?_
  refine k_X7_base C a1  h mM_X7_27 ⟨Nat.le_of_ble_eq_true rfl, Nat.le_of_ble_eq_true rfl⟩ (Nat.le_of_ble_eq_true rfl) dX7_its_5 (fun r2 σ1 h => ?_)
  refine v_iconst C (v := 4) dX7_its_8 rfl ?_
  refine v_iadd C dX7_its_9 ?_
  refine v_iconst C (v := 5) dX7_its_10 rfl ?_
  refine v_iload_n C dX7_its_11 rfl 2 rfl ?_
  refine v_imul C dX7_its_12 ?_
  refine v_iadd C dX7_its_13 ?_
  refine v_iload_n C dX7_its_14 rfl 3 rfl ?_
  refine v_iadd C dX7_its_15 ?_
  obtain ⟨hi3, h⟩ := h
  refine v_iald C (c0 := 24) (by decide) rfl kdn_307 hi3 dX7_its_16 ?_
  exact v_iret C dX7_its_17 hret hlk h
theorem hd_X7_its : yX7_its.cls ≠ "java/lang/invoke/MethodHandle" ∧ yX7_its.cls ≠ "java/lang/invoke/VarHandle" ∧ (parseMethodDescriptor yX7_its.desc).map (fun d => d.parameters.length) = some 3 := by decide +kernel
theorem k_X7_its {p : Program} {l : Launch} {e : Env} {R : Room} {s : State} {m : MethodId} {args : Array Value} {below : List Frame} {meth : Method} {c : Code} {nL cells slots : Nat} {Q : State → Prop} {A : Nat → Prop} {L : Ly} {own : String} {cc : ByteArray} {σ : Mem} {pc idx : Nat} {lv : List (Nat × Value)} {st : List Value} {K : Int32 → Mem → Prop} (C : Cx p R s m args meth c own cc nL cells slots A L) (a1 : Int32) (a2 : Int32) (a3 : Int32)  (h : w_X7_its a1 a2 a3 σ K) (hml : Cond.methodLink own idx yX7_its ∈ wA) (hR : rm_X7_its.frames + 1 ≤ R.frames ∧ 8 + (4 + 11) + rm_X7_its.locals ≤ R.locals) (hsum : (st.map fun v => v.category).sum ≤ 8) (d : decode cc pc = .ok (.invokevirtual idx, 3)) (kk : ∀ r σ1, K r σ1 → V p l e R s m args below meth c nL cells slots Q A L σ1 (pc + 3) lv (.int r :: st)) : V p l e R s m args below meth c nL cells slots Q A L σ pc lv (.int a3 :: .int a2 :: .int a1 :: .ref (lad L 306) :: st) := v_callVi C [.int a1, .int a2, .int a3] (fun sz => c_X7_its l L a1 a2 a3 σ _  h sz) mC_X7_its mZ_X7 hd_X7_its mI_X7_its mS_X7_its rfl rfl (c0 := 7) (ci := 7) (by decide) rfl rfl rfl kdn_306 hml hR rfl hsum d kk
-- ===== RX7.gives
abbrev rm_X7_gives : Room := { frames := 1, cells := 0, slots := 0, locals := 20 }
def w_X7_gives (a1 : Int32) (a2 : Int32) (a3 : Int32) (a4 : Int32) (σ : Mem) (K : Mem → Prop) : Prop := (w_X7_base a1 σ (fun r2 σ1 => (vp_in (((r2 + 4) + (5 * a2)) + a3) 1244 ∧ ∀ σ4 : Mem, σ4 = mu σ1 307 (ix (((r2 + 4) + (5 * a2)) + a3)) a4 → (K σ4))))
set_option maxHeartbeats 4000000 in
set_option maxRecDepth 100000 in
theorem c_X7_gives (l : Launch) (L : Ly) (a1 : Int32) (a2 : Int32) (a3 : Int32) (a4 : Int32) (σ : Mem) (K : Mem → Prop)  (h : w_X7_gives a1 a2 a3 a4 σ K) (sz : Nat) : Met l yX7_gives (.code yX7_gives cX7_gives 5 none :: wA) rm_X7_gives (va_Pc [.ref (lad L 306), .int a1, .int a2, .int a3, .int a4] (mB L sz σ)) (va_Qv K (mE L) (mA L sz)) 0 0 (mA L sz) := by
  refine v_start (own := RX7) [(0, .ref (lad L 306)), (1, .int a1), (2, .int a2), (3, .int a3), (4, .int a4)] (by decide) rfl (Nat.le_of_ble_eq_true rfl) rfl (fun p e s m args below meth c C hret hlk => ?_)
  unfold w_X7_gives at h
  refine v_aload_n C dX7_gives_0 rfl 0 rfl ?_
  refine g_7_now C kdn_306 mF_X7_7 dX7_gives_1 ?_
  refine v_iload_n C dX7_gives_4 rfl 1 rfl ?_
  refine k_X7_base C a1  h mM_X7_27 ⟨Nat.le_of_ble_eq_true rfl, Nat.le_of_ble_eq_true rfl⟩ (Nat.le_of_ble_eq_true rfl) dX7_gives_5 (fun r2 σ1 h => ?_)
  refine v_iconst C (v := 4) dX7_gives_8 rfl ?_
  refine v_iadd C dX7_gives_9 ?_
  refine v_iconst C (v := 5) dX7_gives_10 rfl ?_
  refine v_iload_n C dX7_gives_11 rfl 2 rfl ?_
  refine v_imul C dX7_gives_12 ?_
  refine v_iadd C dX7_gives_13 ?_
  refine v_iload_n C dX7_gives_14 rfl 3 rfl ?_
  refine v_iadd C dX7_gives_15 ?_
  refine v_iload C dX7_gives_16 4 rfl ?_
  obtain ⟨hi3, h⟩ := h
  refine v_iast C (c0 := 24) (by decide) (fun _ => rfl) kdn_307 hi3 dX7_gives_18 (fun σ4 eσ4 => ?_)
  replace h := h σ4 eσ4
  exact v_vret C dX7_gives_19 hret hlk h
theorem hd_X7_gives : yX7_gives.cls ≠ "java/lang/invoke/MethodHandle" ∧ yX7_gives.cls ≠ "java/lang/invoke/VarHandle" ∧ (parseMethodDescriptor yX7_gives.desc).map (fun d => d.parameters.length) = some 4 := by decide +kernel
theorem k_X7_gives {p : Program} {l : Launch} {e : Env} {R : Room} {s : State} {m : MethodId} {args : Array Value} {below : List Frame} {meth : Method} {c : Code} {nL cells slots : Nat} {Q : State → Prop} {A : Nat → Prop} {L : Ly} {own : String} {cc : ByteArray} {σ : Mem} {pc idx : Nat} {lv : List (Nat × Value)} {st : List Value} {K : Mem → Prop} (C : Cx p R s m args meth c own cc nL cells slots A L) (a1 : Int32) (a2 : Int32) (a3 : Int32) (a4 : Int32)  (h : w_X7_gives a1 a2 a3 a4 σ K) (hml : Cond.methodLink own idx yX7_gives ∈ wA) (hR : rm_X7_gives.frames + 1 ≤ R.frames ∧ 8 + (5 + 11) + rm_X7_gives.locals ≤ R.locals) (hsum : (st.map fun v => v.category).sum ≤ 8) (d : decode cc pc = .ok (.invokevirtual idx, 3)) (kk : ∀ σ1, K σ1 → V p l e R s m args below meth c nL cells slots Q A L σ1 (pc + 3) lv st) : V p l e R s m args below meth c nL cells slots Q A L σ pc lv (.int a4 :: .int a3 :: .int a2 :: .int a1 :: .ref (lad L 306) :: st) := v_callVv C [.int a1, .int a2, .int a3, .int a4] (fun sz => c_X7_gives l L a1 a2 a3 a4 σ _  h sz) mC_X7_gives mZ_X7 hd_X7_gives mI_X7_gives mS_X7_gives rfl rfl (c0 := 7) (ci := 7) (by decide) rfl rfl rfl kdn_306 hml hR rfl hsum d kk
-- ===== RX7.has
abbrev rm_X7_has : Room := { frames := 2, cells := 0, slots := 0, locals := 43 }
def w_X7_has (a1 : Int32) (a2 : Int32) (σ : Mem) (K : Int32 → Mem → Prop) : Prop := (w_X7_its a1 a2 0 σ (fun r2 σ1 => (br (r2 = 1) (K 1 σ1) (K 0 σ1))))
set_option maxHeartbeats 4000000 in
set_option maxRecDepth 100000 in
theorem c_X7_has (l : Launch) (L : Ly) (a1 : Int32) (a2 : Int32) (σ : Mem) (K : Int32 → Mem → Prop)  (h : w_X7_has a1 a2 σ K) (sz : Nat) : Met l yX7_has (.code yX7_has cX7_has 3 (some .boolean) :: wA) rm_X7_has (va_Pc [.ref (lad L 306), .int a1, .int a2] (mB L sz σ)) (va_Qi K (mE L) (mA L sz)) 0 0 (mA L sz) := by
  refine v_start (own := RX7) [(0, .ref (lad L 306)), (1, .int a1), (2, .int a2)] (by decide) rfl (Nat.le_of_ble_eq_true rfl) rfl (fun p e s m args below meth c C hret hlk => ?_)
  unfold w_X7_has at h
  refine v_aload_n C dX7_has_0 rfl 0 rfl ?_
  refine v_iload_n C dX7_has_1 rfl 1 rfl ?_
  refine v_iload_n C dX7_has_2 rfl 2 rfl ?_
  refine v_iconst C (v := 0) dX7_has_3 rfl ?_
  refine k_X7_its C a1 a2 0  h mM_X7_31 ⟨Nat.le_of_ble_eq_true rfl, Nat.le_of_ble_eq_true rfl⟩ (Nat.le_of_ble_eq_true rfl) dX7_has_4 (fun r2 σ1 h => ?_)
  refine v_iconst C (v := 1) dX7_has_7 rfl ?_
  refine v_icmp_ne C (tgt := 15) dX7_has_8 (by decide) (fun hc => ?_) (fun hc => ?_)
  · replace h := h.2 hc
    refine v_iconst C (v := 0) dX7_has_15 rfl ?_
    exact v_zret C dX7_has_16 hret hlk rfl h
  · replace h := h.1 hc
    refine v_iconst C (v := 1) dX7_has_11 rfl ?_
    refine v_goto C (tgt := 16) dX7_has_12 (by decide) ?_
    exact v_zret C dX7_has_16 hret hlk rfl h
theorem hd_X7_has : yX7_has.cls ≠ "java/lang/invoke/MethodHandle" ∧ yX7_has.cls ≠ "java/lang/invoke/VarHandle" ∧ (parseMethodDescriptor yX7_has.desc).map (fun d => d.parameters.length) = some 2 := by decide +kernel
theorem k_X7_has {p : Program} {l : Launch} {e : Env} {R : Room} {s : State} {m : MethodId} {args : Array Value} {below : List Frame} {meth : Method} {c : Code} {nL cells slots : Nat} {Q : State → Prop} {A : Nat → Prop} {L : Ly} {own : String} {cc : ByteArray} {σ : Mem} {pc idx : Nat} {lv : List (Nat × Value)} {st : List Value} {K : Int32 → Mem → Prop} (C : Cx p R s m args meth c own cc nL cells slots A L) (a1 : Int32) (a2 : Int32)  (h : w_X7_has a1 a2 σ K) (hml : Cond.methodLink own idx yX7_has ∈ wA) (hR : rm_X7_has.frames + 1 ≤ R.frames ∧ 8 + (3 + 11) + rm_X7_has.locals ≤ R.locals) (hsum : (st.map fun v => v.category).sum ≤ 8) (d : decode cc pc = .ok (.invokevirtual idx, 3)) (kk : ∀ r σ1, K r σ1 → V p l e R s m args below meth c nL cells slots Q A L σ1 (pc + 3) lv (.int r :: st)) : V p l e R s m args below meth c nL cells slots Q A L σ pc lv (.int a2 :: .int a1 :: .ref (lad L 306) :: st) := v_callVi C [.int a1, .int a2] (fun sz => c_X7_has l L a1 a2 σ _  h sz) mC_X7_has mZ_X7 hd_X7_has mI_X7_has mS_X7_has rfl rfl (c0 := 7) (ci := 7) (by decide) rfl rfl rfl kdn_306 hml hR rfl hsum d kk
-- ===== RX7.isSummary
abbrev rm_X7_isSummary : Room := { frames := 1, cells := 0, slots := 0, locals := 22 }
def w_X7_isSummary (a1 : Int32) (σ : Mem) (K : Int32 → Mem → Prop) : Prop := (w_X7_in a1 0 3 σ (fun r2 σ1 => (narrow .boolean (.int r2) = .int r2 ∧ K r2 σ1)))
set_option maxHeartbeats 4000000 in
set_option maxRecDepth 100000 in
theorem c_X7_isSummary (l : Launch) (L : Ly) (a1 : Int32) (σ : Mem) (K : Int32 → Mem → Prop)  (h : w_X7_isSummary a1 σ K) (sz : Nat) : Met l yX7_isSummary (.code yX7_isSummary cX7_isSummary 1 (some .boolean) :: wA) rm_X7_isSummary (va_Pc [.int a1] (mB L sz σ)) (va_Qi K (mE L) (mA L sz)) 0 0 (mA L sz) := by
  refine v_start (own := RX7) [(0, .int a1)] (by decide) rfl (Nat.le_of_ble_eq_true rfl) rfl (fun p e s m args below meth c C hret hlk => ?_)
  unfold w_X7_isSummary at h
  refine v_iload_n C dX7_isSummary_0 rfl 0 rfl ?_
  refine v_iconst C (v := 0) dX7_isSummary_1 rfl ?_
  refine v_iconst C (v := 3) dX7_isSummary_2 rfl ?_
  refine k_X7_in C a1 0 3  h mM_X7_35 ⟨Nat.le_of_ble_eq_true rfl, Nat.le_of_ble_eq_true rfl⟩ (Nat.le_of_ble_eq_true rfl) dX7_isSummary_3 (fun r2 σ1 h => ?_)
  exact v_zret C dX7_isSummary_6 hret hlk h.1 h.2
theorem hd_X7_isSummary : yX7_isSummary.cls ≠ "java/lang/invoke/MethodHandle" ∧ yX7_isSummary.cls ≠ "java/lang/invoke/VarHandle" ∧ (parseMethodDescriptor yX7_isSummary.desc).map (fun d => d.parameters.length) = some 1 := by decide +kernel
theorem k_X7_isSummary {p : Program} {l : Launch} {e : Env} {R : Room} {s : State} {m : MethodId} {args : Array Value} {below : List Frame} {meth : Method} {c : Code} {nL cells slots : Nat} {Q : State → Prop} {A : Nat → Prop} {L : Ly} {own : String} {cc : ByteArray} {σ : Mem} {pc idx : Nat} {lv : List (Nat × Value)} {st : List Value} {K : Int32 → Mem → Prop} (C : Cx p R s m args meth c own cc nL cells slots A L) (a1 : Int32)  (h : w_X7_isSummary a1 σ K) (hml : Cond.methodLink own idx yX7_isSummary ∈ wA) (hR : rm_X7_isSummary.frames + 1 ≤ R.frames ∧ 8 + (1 + 11) + rm_X7_isSummary.locals ≤ R.locals) (hsum : (st.map fun v => v.category).sum ≤ 8) (d : decode cc pc = .ok (.invokestatic idx, 3)) (kk : ∀ r σ1, K r σ1 → V p l e R s m args below meth c nL cells slots Q A L σ1 (pc + 3) lv (.int r :: st)) : V p l e R s m args below meth c nL cells slots Q A L σ pc lv (.int a1 :: st) := v_callSi C [.int a1] (fun sz => c_X7_isSummary l L a1 σ _  h sz) mC_X7_isSummary mZ_X7 hd_X7_isSummary mT_X7_isSummary rfl rfl hml hR rfl hsum d kk
-- ===== RX7.isLetter
abbrev rm_X7_isLetter : Room := { frames := 0, cells := 0, slots := 0, locals := 0 }
def w_X7_isLetter (a1 : Int32) (σ : Mem) (K : Int32 → Mem → Prop) : Prop := (br (a1 < 97) (K 0 σ) (br (122 < a1) (K 0 σ) (K 1 σ)))
set_option maxHeartbeats 4000000 in
set_option maxRecDepth 100000 in
theorem c_X7_isLetter (l : Launch) (L : Ly) (a1 : Int32) (σ : Mem) (K : Int32 → Mem → Prop)  (h : w_X7_isLetter a1 σ K) (sz : Nat) : Met l yX7_isLetter (.code yX7_isLetter cX7_isLetter 1 (some .boolean) :: wA) rm_X7_isLetter (va_Pc [.int a1] (mB L sz σ)) (va_Qi K (mE L) (mA L sz)) 0 0 (mA L sz) := by
  refine v_start (own := RX7) [(0, .int a1)] (by decide) rfl (Nat.le_of_ble_eq_true rfl) rfl (fun p e s m args below meth c C hret hlk => ?_)
  unfold w_X7_isLetter at h
  refine v_iload_n C dX7_isLetter_0 rfl 0 rfl ?_
  refine v_bipush C (v := 97) dX7_isLetter_1 rfl ?_
  refine v_icmp_lt C (tgt := 16) dX7_isLetter_3 (by decide) (fun hc => ?_) (fun hc => ?_)
  · replace h := h.1 hc
    refine v_iconst C (v := 0) dX7_isLetter_16 rfl ?_
    exact v_zret C dX7_isLetter_17 hret hlk rfl h
  · replace h := h.2 hc
    refine v_iload_n C dX7_isLetter_6 rfl 0 rfl ?_
    refine v_bipush C (v := 122) dX7_isLetter_7 rfl ?_
    refine v_icmp_gt C (tgt := 16) dX7_isLetter_9 (by decide) (fun hc => ?_) (fun hc => ?_)
    · replace h := h.1 hc
      refine v_iconst C (v := 0) dX7_isLetter_16 rfl ?_
      exact v_zret C dX7_isLetter_17 hret hlk rfl h
    · replace h := h.2 hc
      refine v_iconst C (v := 1) dX7_isLetter_12 rfl ?_
      refine v_goto C (tgt := 17) dX7_isLetter_13 (by decide) ?_
      exact v_zret C dX7_isLetter_17 hret hlk rfl h
theorem hd_X7_isLetter : yX7_isLetter.cls ≠ "java/lang/invoke/MethodHandle" ∧ yX7_isLetter.cls ≠ "java/lang/invoke/VarHandle" ∧ (parseMethodDescriptor yX7_isLetter.desc).map (fun d => d.parameters.length) = some 1 := by decide +kernel
theorem k_X7_isLetter {p : Program} {l : Launch} {e : Env} {R : Room} {s : State} {m : MethodId} {args : Array Value} {below : List Frame} {meth : Method} {c : Code} {nL cells slots : Nat} {Q : State → Prop} {A : Nat → Prop} {L : Ly} {own : String} {cc : ByteArray} {σ : Mem} {pc idx : Nat} {lv : List (Nat × Value)} {st : List Value} {K : Int32 → Mem → Prop} (C : Cx p R s m args meth c own cc nL cells slots A L) (a1 : Int32)  (h : w_X7_isLetter a1 σ K) (hml : Cond.methodLink own idx yX7_isLetter ∈ wA) (hR : rm_X7_isLetter.frames + 1 ≤ R.frames ∧ 8 + (1 + 11) + rm_X7_isLetter.locals ≤ R.locals) (hsum : (st.map fun v => v.category).sum ≤ 8) (d : decode cc pc = .ok (.invokestatic idx, 3)) (kk : ∀ r σ1, K r σ1 → V p l e R s m args below meth c nL cells slots Q A L σ1 (pc + 3) lv (.int r :: st)) : V p l e R s m args below meth c nL cells slots Q A L σ pc lv (.int a1 :: st) := v_callSi C [.int a1] (fun sz => c_X7_isLetter l L a1 σ _  h sz) mC_X7_isLetter mZ_X7 hd_X7_isLetter mT_X7_isLetter rfl rfl hml hR rfl hsum d kk
-- ===== RX7.counters
abbrev rm_X7_counters : Room := { frames := 2, cells := 0, slots := 0, locals := 43 }
def w_X7_counters_4 (a1 : Int32) (K : Int32 → Mem → Prop)  : Nat → Int32 → Int32 → Mem → Prop
  | 0, _, _, _ => False
  | n + 1, x2, x3, σ => (br (26 ≤ x3) (K x2 σ) (w_X7_its a1 x3 0 σ (fun r2 σ1 => (∀ v3 : Int32, v3 = (x2 + r2) → (w_X7_counters_4 a1 K  n v3 (x3 + 1) σ1)))))
set_option maxHeartbeats 4000000 in
set_option maxRecDepth 100000 in
theorem b_X7_counters_4 {p : Program} {l : Launch} {e : Env} {s : State} {m : MethodId} {args : Array Value} {below : List Frame} {meth : Method} {c : Code} {L : Ly} {sz : Nat} (C : Cx p rm_X7_counters s m args meth c RX7 cX7_counters 4 0 0 (mA L sz) L) (hret : meth.sig.returnType = (some .int)) (hlk : meth.locks = false) (a1 : Int32)  (K : Int32 → Mem → Prop)  : ∀ (n : Nat) (x2 : Int32) (x3 : Int32) (σ : Mem), w_X7_counters_4 a1 K  n x2 x3 σ → V p l e rm_X7_counters s m args below meth c 4 0 0 (MQ below (va_Qi K (mE L) (mA L sz)) args s 0 0 (mA L sz)) (mA L sz) L σ 4 [(0, .ref (lad L 306)), (1, .int a1), (2, .int x2), (3, .int x3)] [] := by
  intro n
  induction n with
  | zero => intro x2 x3 σ  h; exact h.elim
  | succ n ih =>
    intro x2 x3 σ  h
    rw [w_X7_counters_4] at h
    refine v_iload_n C dX7_counters_4 rfl 3 rfl ?_
    refine v_bipush C (v := 26) dX7_counters_5 rfl ?_
    refine v_icmp_ge C (tgt := 26) dX7_counters_7 (by decide) (fun hc => ?_) (fun hc => ?_)
    · replace h := h.1 hc
      refine v_iload_n C dX7_counters_26 rfl 2 rfl ?_
      exact v_iret C dX7_counters_27 hret hlk h
    · replace h := h.2 hc
      refine v_iload_n C dX7_counters_10 rfl 2 rfl ?_
      refine v_aload_n C dX7_counters_11 rfl 0 rfl ?_
      refine v_iload_n C dX7_counters_12 rfl 1 rfl ?_
      refine v_iload_n C dX7_counters_13 rfl 3 rfl ?_
      refine v_iconst C (v := 0) dX7_counters_14 rfl ?_
      refine k_X7_its C a1 x3 0  h mM_X7_31 ⟨Nat.le_of_ble_eq_true rfl, Nat.le_of_ble_eq_true rfl⟩ (Nat.le_of_ble_eq_true rfl) dX7_counters_15 (fun r2 σ1 h => ?_)
      refine v_iadd C dX7_counters_18 ?_
      refine v_nm (fun v3 ev3 => ?_)
      replace h := h v3 ev3
      refine v_istore_n C [(2, .int v3), (0, .ref (lad L 306)), (1, .int a1), (3, .int x3)] dX7_counters_19 rfl (by decide) rfl ?_
      refine v_iinc C [(3, .int (x3 + 1)), (2, .int v3), (0, .ref (lad L 306)), (1, .int a1)] dX7_counters_20 3 rfl rfl (by decide) rfl ?_
      refine v_goto C (tgt := 4) dX7_counters_23 (by decide) ?_
      refine v_sub [2, 3, 1, 0] rfl ?_
      exact ih _ _ _  h
def w_X7_counters (a1 : Int32) (σ : Mem) (K : Int32 → Mem → Prop) : Prop := (∃ n4, w_X7_counters_4 a1 K  n4 0 0 σ)
set_option maxHeartbeats 4000000 in
set_option maxRecDepth 100000 in
theorem c_X7_counters (l : Launch) (L : Ly) (a1 : Int32) (σ : Mem) (K : Int32 → Mem → Prop)  (h : w_X7_counters a1 σ K) (sz : Nat) : Met l yX7_counters (.code yX7_counters cX7_counters 4 (some .int) :: wA) rm_X7_counters (va_Pc [.ref (lad L 306), .int a1] (mB L sz σ)) (va_Qi K (mE L) (mA L sz)) 0 0 (mA L sz) := by
  refine v_start (own := RX7) [(0, .ref (lad L 306)), (1, .int a1)] (by decide) rfl (Nat.le_of_ble_eq_true rfl) rfl (fun p e s m args below meth c C hret hlk => ?_)
  unfold w_X7_counters at h
  refine v_iconst C (v := 0) dX7_counters_0 rfl ?_
  refine v_istore_n C [(2, .int 0), (0, .ref (lad L 306)), (1, .int a1)] dX7_counters_1 rfl (by decide) rfl ?_
  refine v_iconst C (v := 0) dX7_counters_2 rfl ?_
  refine v_istore_n C [(3, .int 0), (2, .int 0), (0, .ref (lad L 306)), (1, .int a1)] dX7_counters_3 rfl (by decide) rfl ?_
  obtain ⟨n4, h⟩ := h
  refine v_sub [2, 3, 1, 0] rfl ?_
  exact b_X7_counters_4 C hret hlk a1  K   n4 _ _ _  h
theorem hd_X7_counters : yX7_counters.cls ≠ "java/lang/invoke/MethodHandle" ∧ yX7_counters.cls ≠ "java/lang/invoke/VarHandle" ∧ (parseMethodDescriptor yX7_counters.desc).map (fun d => d.parameters.length) = some 1 := by decide +kernel
theorem k_X7_counters {p : Program} {l : Launch} {e : Env} {R : Room} {s : State} {m : MethodId} {args : Array Value} {below : List Frame} {meth : Method} {c : Code} {nL cells slots : Nat} {Q : State → Prop} {A : Nat → Prop} {L : Ly} {own : String} {cc : ByteArray} {σ : Mem} {pc idx : Nat} {lv : List (Nat × Value)} {st : List Value} {K : Int32 → Mem → Prop} (C : Cx p R s m args meth c own cc nL cells slots A L) (a1 : Int32)  (h : w_X7_counters a1 σ K) (hml : Cond.methodLink own idx yX7_counters ∈ wA) (hR : rm_X7_counters.frames + 1 ≤ R.frames ∧ 8 + (4 + 11) + rm_X7_counters.locals ≤ R.locals) (hsum : (st.map fun v => v.category).sum ≤ 8) (d : decode cc pc = .ok (.invokevirtual idx, 3)) (kk : ∀ r σ1, K r σ1 → V p l e R s m args below meth c nL cells slots Q A L σ1 (pc + 3) lv (.int r :: st)) : V p l e R s m args below meth c nL cells slots Q A L σ pc lv (.int a1 :: .ref (lad L 306) :: st) := v_callVi C [.int a1] (fun sz => c_X7_counters l L a1 σ _  h sz) mC_X7_counters mZ_X7 hd_X7_counters mI_X7_counters mS_X7_counters rfl rfl (c0 := 7) (ci := 7) (by decide) rfl rfl rfl kdn_306 hml hR rfl hsum d kk
-- ===== RX7.record
abbrev rm_X7_record : Room := { frames := 0, cells := 0, slots := 0, locals := 0 }
def w_X7_record_51  (K : Mem → Prop)  : Nat → Int32 → Mem → Prop
  | 0, _, _ => False
  | n + 1, x1, σ => (br (1110 ≤ x1) (∀ σ1 : Mem, σ1 = mu σ 306 2 ((σ 306 2) + 1) → (K σ1)) (vp_in x1 1244 ∧ (vp_in ((1110 * (σ 306 2)) + x1) 4440 ∧ ∀ σ4 : Mem, σ4 = mu σ 308 (ix ((1110 * (σ 306 2)) + x1)) (σ 307 (ix x1)) → (w_X7_record_51  K  n (x1 + 1) σ4))))
set_option maxHeartbeats 4000000 in
set_option maxRecDepth 100000 in
theorem b_X7_record_51 {p : Program} {l : Launch} {e : Env} {s : State} {m : MethodId} {args : Array Value} {below : List Frame} {meth : Method} {c : Code} {L : Ly} {sz : Nat} (C : Cx p rm_X7_record s m args meth c RX7 cX7_record 2 0 0 (mA L sz) L) (hret : meth.sig.returnType = none) (hlk : meth.locks = false)   (K : Mem → Prop)  : ∀ (n : Nat) (x1 : Int32) (σ : Mem), w_X7_record_51  K  n x1 σ → V p l e rm_X7_record s m args below meth c 2 0 0 (MQ below (va_Qv K (mE L) (mA L sz)) args s 0 0 (mA L sz)) (mA L sz) L σ 51 [(0, .ref (lad L 306)), (1, .int x1)] [] := by
  intro n
  induction n with
  | zero => intro x1 σ  h; exact h.elim
  | succ n ih =>
    intro x1 σ  h
    rw [w_X7_record_51] at h
    refine v_iload_n C dX7_record_51 rfl 1 rfl ?_
    refine v_sipush C (v := 1110) dX7_record_52 rfl ?_
    refine v_icmp_ge C (tgt := 85) dX7_record_55 (by decide) (fun hc => ?_) (fun hc => ?_)
    · replace h := h.1 hc
      refine v_aload_n C dX7_record_85 rfl 0 rfl ?_
      refine v_dup C dX7_record_86 rfl ?_
      refine g_7_kept C kdn_306 mF_X7_39 dX7_record_87 ?_
      refine v_iconst C (v := 1) dX7_record_90 rfl ?_
      refine v_iadd C dX7_record_91 ?_
      refine p_7_kept C kdn_306 mF_X7_39 dX7_record_92 (fun σ1 eσ1 => ?_)
      replace h := h σ1 eσ1
      exact v_vret C dX7_record_95 hret hlk h
    · replace h := h.2 hc
      refine v_aload_n C dX7_record_58 rfl 0 rfl ?_
      refine g_7_history C kdn_306 mF_X7_13 dX7_record_59 ?_
      refine v_sipush C (v := 1110) dX7_record_62 rfl ?_
      refine v_aload_n C dX7_record_65 rfl 0 rfl ?_
      refine g_7_kept C kdn_306 mF_X7_39 dX7_record_66 ?_
      refine v_imul C dX7_record_69 ?_
      refine v_iload_n C dX7_record_70 rfl 1 rfl ?_
      refine v_iadd C dX7_record_71 ?_
      refine v_aload_n C dX7_record_72 rfl 0 rfl ?_
      refine g_7_now C kdn_306 mF_X7_7 dX7_record_73 ?_
      refine v_iload_n C dX7_record_76 rfl 1 rfl ?_
      obtain ⟨hi2, h⟩ := h
      refine v_iald C (c0 := 24) (by decide) rfl kdn_307 hi2 dX7_record_77 ?_
      obtain ⟨hi3, h⟩ := h
      refine v_iast C (c0 := 25) (by decide) (fun _ => rfl) kdn_308 hi3 dX7_record_78 (fun σ4 eσ4 => ?_)
      replace h := h σ4 eσ4
      refine v_iinc C [(1, .int (x1 + 1)), (0, .ref (lad L 306))] dX7_record_79 1 rfl rfl (by decide) rfl ?_
      refine v_goto C (tgt := 51) dX7_record_82 (by decide) ?_
      refine v_sub [1, 0] rfl ?_
      exact ih _ _  h
def w_X7_record_10  (K : Mem → Prop)  : Nat → Int32 → Mem → Prop
  | 0, _, _ => False
  | n + 1, x1, σ => (br (3330 ≤ x1) (∀ σ6 : Mem, σ6 = mu σ 306 2 ((σ 306 2) - 1) → (∃ n7, w_X7_record_51  K  n7 0 σ6)) (vp_in (x1 + 1110) 4440 ∧ (vp_in x1 4440 ∧ ∀ σ10 : Mem, σ10 = mu σ 308 (ix x1) (σ 308 (ix (x1 + 1110))) → (w_X7_record_10  K  n (x1 + 1) σ10))))
set_option maxHeartbeats 4000000 in
set_option maxRecDepth 100000 in
theorem b_X7_record_10 {p : Program} {l : Launch} {e : Env} {s : State} {m : MethodId} {args : Array Value} {below : List Frame} {meth : Method} {c : Code} {L : Ly} {sz : Nat} (C : Cx p rm_X7_record s m args meth c RX7 cX7_record 2 0 0 (mA L sz) L) (hret : meth.sig.returnType = none) (hlk : meth.locks = false)   (K : Mem → Prop)  : ∀ (n : Nat) (x1 : Int32) (σ : Mem), w_X7_record_10  K  n x1 σ → V p l e rm_X7_record s m args below meth c 2 0 0 (MQ below (va_Qv K (mE L) (mA L sz)) args s 0 0 (mA L sz)) (mA L sz) L σ 10 [(0, .ref (lad L 306)), (1, .int x1)] [] := by
  intro n
  induction n with
  | zero => intro x1 σ  h; exact h.elim
  | succ n ih =>
    intro x1 σ  h
    rw [w_X7_record_10] at h
    refine v_iload_n C dX7_record_10 rfl 1 rfl ?_
    refine v_sipush C (v := 3330) dX7_record_11 rfl ?_
    refine v_icmp_ge C (tgt := 39) dX7_record_14 (by decide) (fun hc => ?_) (fun hc => ?_)
    · replace h := h.1 hc
      refine v_aload_n C dX7_record_39 rfl 0 rfl ?_
      refine v_dup C dX7_record_40 rfl ?_
      refine g_7_kept C kdn_306 mF_X7_39 dX7_record_41 ?_
      refine v_iconst C (v := 1) dX7_record_44 rfl ?_
      refine v_isub C dX7_record_45 ?_
      refine p_7_kept C kdn_306 mF_X7_39 dX7_record_46 (fun σ6 eσ6 => ?_)
      replace h := h σ6 eσ6
      refine v_iconst C (v := 0) dX7_record_49 rfl ?_
      refine v_istore_n C [(1, .int 0), (0, .ref (lad L 306))] dX7_record_50 rfl (by decide) rfl ?_
      obtain ⟨n7, h⟩ := h
      refine v_sub [1, 0] rfl ?_
      exact b_X7_record_51 C hret hlk   K   n7 _ _  h
    · replace h := h.2 hc
      refine v_aload_n C dX7_record_17 rfl 0 rfl ?_
      refine g_7_history C kdn_306 mF_X7_13 dX7_record_18 ?_
      refine v_iload_n C dX7_record_21 rfl 1 rfl ?_
      refine v_aload_n C dX7_record_22 rfl 0 rfl ?_
      refine g_7_history C kdn_306 mF_X7_13 dX7_record_23 ?_
      refine v_iload_n C dX7_record_26 rfl 1 rfl ?_
      refine v_sipush C (v := 1110) dX7_record_27 rfl ?_
      refine v_iadd C dX7_record_30 ?_
      obtain ⟨hi8, h⟩ := h
      refine v_iald C (c0 := 25) (by decide) rfl kdn_308 hi8 dX7_record_31 ?_
      obtain ⟨hi9, h⟩ := h
      refine v_iast C (c0 := 25) (by decide) (fun _ => rfl) kdn_308 hi9 dX7_record_32 (fun σ10 eσ10 => ?_)
      replace h := h σ10 eσ10
      refine v_iinc C [(1, .int (x1 + 1)), (0, .ref (lad L 306))] dX7_record_33 1 rfl rfl (by decide) rfl ?_
      refine v_goto C (tgt := 10) dX7_record_36 (by decide) ?_
      refine v_sub [1, 0] rfl ?_
      exact ih _ _  h
def w_X7_record  (σ : Mem) (K : Mem → Prop) : Prop := (br ((σ 306 2) = 4) (∃ n11, w_X7_record_10  K  n11 0 σ) (∃ n5, w_X7_record_51  K  n5 0 σ))
set_option maxHeartbeats 4000000 in
set_option maxRecDepth 100000 in
theorem c_X7_record (l : Launch) (L : Ly)  (σ : Mem) (K : Mem → Prop)  (h : w_X7_record  σ K) (sz : Nat) : Met l yX7_record (.code yX7_record cX7_record 2 none :: wA) rm_X7_record (va_Pc [.ref (lad L 306)] (mB L sz σ)) (va_Qv K (mE L) (mA L sz)) 0 0 (mA L sz) := by
  refine v_start (own := RX7) [(0, .ref (lad L 306))] (by decide) rfl (Nat.le_of_ble_eq_true rfl) rfl (fun p e s m args below meth c C hret hlk => ?_)
  unfold w_X7_record at h
  refine v_aload_n C dX7_record_0 rfl 0 rfl ?_
  refine g_7_kept C kdn_306 mF_X7_39 dX7_record_1 ?_
  refine v_iconst C (v := 4) dX7_record_4 rfl ?_
  refine v_icmp_ne C (tgt := 49) dX7_record_5 (by decide) (fun hc => ?_) (fun hc => ?_)
  · replace h := h.2 hc
    refine v_iconst C (v := 0) dX7_record_49 rfl ?_
    refine v_istore_n C [(1, .int 0), (0, .ref (lad L 306))] dX7_record_50 rfl (by decide) rfl ?_
    obtain ⟨n5, h⟩ := h
    refine v_sub [1, 0] rfl ?_
    exact b_X7_record_51 C hret hlk   K   n5 _ _  h
  · replace h := h.1 hc
    refine v_iconst C (v := 0) dX7_record_8 rfl ?_
    refine v_istore_n C [(1, .int 0), (0, .ref (lad L 306))] dX7_record_9 rfl (by decide) rfl ?_
    obtain ⟨n11, h⟩ := h
    refine v_sub [1, 0] rfl ?_
    exact b_X7_record_10 C hret hlk   K   n11 _ _  h
theorem hd_X7_record : yX7_record.cls ≠ "java/lang/invoke/MethodHandle" ∧ yX7_record.cls ≠ "java/lang/invoke/VarHandle" ∧ (parseMethodDescriptor yX7_record.desc).map (fun d => d.parameters.length) = some 0 := by decide +kernel
theorem k_X7_record {p : Program} {l : Launch} {e : Env} {R : Room} {s : State} {m : MethodId} {args : Array Value} {below : List Frame} {meth : Method} {c : Code} {nL cells slots : Nat} {Q : State → Prop} {A : Nat → Prop} {L : Ly} {own : String} {cc : ByteArray} {σ : Mem} {pc idx : Nat} {lv : List (Nat × Value)} {st : List Value} {K : Mem → Prop} (C : Cx p R s m args meth c own cc nL cells slots A L)   (h : w_X7_record  σ K) (hml : Cond.methodLink own idx yX7_record ∈ wA) (hR : rm_X7_record.frames + 1 ≤ R.frames ∧ 8 + (2 + 11) + rm_X7_record.locals ≤ R.locals) (hsum : (st.map fun v => v.category).sum ≤ 8) (d : decode cc pc = .ok (.invokevirtual idx, 3)) (kk : ∀ σ1, K σ1 → V p l e R s m args below meth c nL cells slots Q A L σ1 (pc + 3) lv st) : V p l e R s m args below meth c nL cells slots Q A L σ pc lv (.ref (lad L 306) :: st) := v_callVv C [] (fun sz => c_X7_record l L  σ _  h sz) mC_X7_record mZ_X7 hd_X7_record mI_X7_record mS_X7_record rfl rfl (c0 := 7) (ci := 7) (by decide) rfl rfl rfl kdn_306 hml hR rfl hsum d kk
-- ===== RX7.tells
abbrev rm_X7_tells : Room := { frames := 0, cells := 0, slots := 0, locals := 0 }
def w_X7_tells_107 (a1 : Int32) (a2 : Int32) (a3 : Int32) (K : Mem → Prop)  (x4 : Int32) (s0 : Int32) (s1 : Int32) (σ : Mem) : Prop := (vp_in s1 1244 ∧ ∀ σ7 : Mem, σ7 = mu σ 307 (ix s1) s0 → (vp_in (x4 + 2) 1244 ∧ ∀ σ9 : Mem, σ9 = mu σ7 307 (ix (x4 + 2)) a3 → (vp_in 1072 1244 ∧ (vp_in (x4 + 3) 1244 ∧ ∀ σ12 : Mem, σ12 = mu σ9 307 (ix (x4 + 3)) (σ9 307 (ix 1072)) → (vp_in 1077 1244 ∧ (vp_in 1077 1244 ∧ ∀ σ15 : Mem, σ15 = mu σ12 307 (ix 1077) ((σ12 307 (ix 1077)) + 1) → (K σ15)))))))
set_option maxHeartbeats 4000000 in
set_option maxRecDepth 100000 in
theorem b_X7_tells_107 {p : Program} {l : Launch} {e : Env} {s : State} {m : MethodId} {args : Array Value} {below : List Frame} {meth : Method} {c : Code} {L : Ly} {sz : Nat} (C : Cx p rm_X7_tells s m args meth c RX7 cX7_tells 5 0 0 (mA L sz) L) (hret : meth.sig.returnType = none) (hlk : meth.locks = false) (a1 : Int32) (a2 : Int32) (a3 : Int32)  (K : Mem → Prop)  (x4 : Int32) (s0 : Int32) (s1 : Int32) (σ : Mem)  (h : w_X7_tells_107 a1 a2 a3 K  x4 s0 s1 σ) : V p l e rm_X7_tells s m args below meth c 5 0 0 (MQ below (va_Qv K (mE L) (mA L sz)) args s 0 0 (mA L sz)) (mA L sz) L σ 107 [(0, .ref (lad L 306)), (1, .int a1), (2, .int a2), (3, .int a3), (4, .int x4)] [.int s0, .int s1, .ref (lad L 307)] := by
  unfold w_X7_tells_107 at h
  obtain ⟨hi6, h⟩ := h
  refine v_iast C (c0 := 24) (by decide) (fun _ => rfl) kdn_307 hi6 dX7_tells_107 (fun σ7 eσ7 => ?_)
  replace h := h σ7 eσ7
  refine v_aload_n C dX7_tells_108 rfl 0 rfl ?_
  refine g_7_now C kdn_306 mF_X7_7 dX7_tells_109 ?_
  refine v_iload C dX7_tells_112 4 rfl ?_
  refine v_iconst C (v := 2) dX7_tells_114 rfl ?_
  refine v_iadd C dX7_tells_115 ?_
  refine v_iload_n C dX7_tells_116 rfl 3 rfl ?_
  obtain ⟨hi8, h⟩ := h
  refine v_iast C (c0 := 24) (by decide) (fun _ => rfl) kdn_307 hi8 dX7_tells_117 (fun σ9 eσ9 => ?_)
  replace h := h σ9 eσ9
  refine v_aload_n C dX7_tells_118 rfl 0 rfl ?_
  refine g_7_now C kdn_306 mF_X7_7 dX7_tells_119 ?_
  refine v_iload C dX7_tells_122 4 rfl ?_
  refine v_iconst C (v := 3) dX7_tells_124 rfl ?_
  refine v_iadd C dX7_tells_125 ?_
  refine v_aload_n C dX7_tells_126 rfl 0 rfl ?_
  refine g_7_now C kdn_306 mF_X7_7 dX7_tells_127 ?_
  refine v_sipush C (v := 1072) dX7_tells_130 rfl ?_
  obtain ⟨hi10, h⟩ := h
  refine v_iald C (c0 := 24) (by decide) rfl kdn_307 hi10 dX7_tells_133 ?_
  obtain ⟨hi11, h⟩ := h
  refine v_iast C (c0 := 24) (by decide) (fun _ => rfl) kdn_307 hi11 dX7_tells_134 (fun σ12 eσ12 => ?_)
  replace h := h σ12 eσ12
  refine v_aload_n C dX7_tells_135 rfl 0 rfl ?_
  refine g_7_now C kdn_306 mF_X7_7 dX7_tells_136 ?_
  refine v_sipush C (v := 1077) dX7_tells_139 rfl ?_
  refine v_dup2 C dX7_tells_142 rfl rfl ?_
  obtain ⟨hi13, h⟩ := h
  refine v_iald C (c0 := 24) (by decide) rfl kdn_307 hi13 dX7_tells_143 ?_
  refine v_iconst C (v := 1) dX7_tells_144 rfl ?_
  refine v_iadd C dX7_tells_145 ?_
  obtain ⟨hi14, h⟩ := h
  refine v_iast C (c0 := 24) (by decide) (fun _ => rfl) kdn_307 hi14 dX7_tells_146 (fun σ15 eσ15 => ?_)
  replace h := h σ15 eσ15
  exact v_vret C dX7_tells_147 hret hlk h
def w_X7_tells_65 (a1 : Int32) (a2 : Int32) (a3 : Int32) (K : Mem → Prop)   (σ : Mem) : Prop := (vp_in 1077 1244 ∧ (∀ v3 : Int32, v3 = (1078 + (4 * (σ 307 (ix 1077)))) → (vp_in v3 1244 ∧ ∀ σ5 : Mem, σ5 = mu σ 307 (ix v3) a1 → (br (4 ≤ a2) (w_X7_tells_107 a1 a2 a3 K  v3 4 (v3 + 1) σ5) (w_X7_tells_107 a1 a2 a3 K  v3 a2 (v3 + 1) σ5)))))
set_option maxHeartbeats 4000000 in
set_option maxRecDepth 100000 in
theorem b_X7_tells_65 {p : Program} {l : Launch} {e : Env} {s : State} {m : MethodId} {args : Array Value} {below : List Frame} {meth : Method} {c : Code} {L : Ly} {sz : Nat} (C : Cx p rm_X7_tells s m args meth c RX7 cX7_tells 5 0 0 (mA L sz) L) (hret : meth.sig.returnType = none) (hlk : meth.locks = false) (a1 : Int32) (a2 : Int32) (a3 : Int32)  (K : Mem → Prop)   (σ : Mem)  (h : w_X7_tells_65 a1 a2 a3 K   σ) : V p l e rm_X7_tells s m args below meth c 5 0 0 (MQ below (va_Qv K (mE L) (mA L sz)) args s 0 0 (mA L sz)) (mA L sz) L σ 65 [(0, .ref (lad L 306)), (1, .int a1), (2, .int a2), (3, .int a3)] [] := by
  unfold w_X7_tells_65 at h
  refine v_sipush C (v := 1078) dX7_tells_65 rfl ?_
  refine v_iconst C (v := 4) dX7_tells_68 rfl ?_
  refine v_aload_n C dX7_tells_69 rfl 0 rfl ?_
  refine g_7_now C kdn_306 mF_X7_7 dX7_tells_70 ?_
  refine v_sipush C (v := 1077) dX7_tells_73 rfl ?_
  obtain ⟨hi2, h⟩ := h
  refine v_iald C (c0 := 24) (by decide) rfl kdn_307 hi2 dX7_tells_76 ?_
  refine v_imul C dX7_tells_77 ?_
  refine v_iadd C dX7_tells_78 ?_
  refine v_nm (fun v3 ev3 => ?_)
  replace h := h v3 ev3
  refine v_istore C [(4, .int v3), (0, .ref (lad L 306)), (1, .int a1), (2, .int a2), (3, .int a3)] dX7_tells_79 (by decide) rfl ?_
  refine v_aload_n C dX7_tells_81 rfl 1 rfl ?_
  refine g_7_now C kdn_306 mF_X7_7 dX7_tells_82 ?_
  refine v_iload C dX7_tells_85 0 rfl ?_
  refine v_iload_n C dX7_tells_87 rfl 2 rfl ?_
  obtain ⟨hi4, h⟩ := h
  refine v_iast C (c0 := 24) (by decide) (fun _ => rfl) kdn_307 hi4 dX7_tells_88 (fun σ5 eσ5 => ?_)
  replace h := h σ5 eσ5
  refine v_aload_n C dX7_tells_89 rfl 1 rfl ?_
  refine g_7_now C kdn_306 mF_X7_7 dX7_tells_90 ?_
  refine v_iload C dX7_tells_93 0 rfl ?_
  refine v_iconst C (v := 1) dX7_tells_95 rfl ?_
  refine v_iadd C dX7_tells_96 ?_
  refine v_iload_n C dX7_tells_97 rfl 3 rfl ?_
  refine v_iconst C (v := 4) dX7_tells_98 rfl ?_
  refine v_icmp_ge C (tgt := 106) dX7_tells_99 (by decide) (fun hc => ?_) (fun hc => ?_)
  · replace h := h.1 hc
    refine v_iconst C (v := 4) dX7_tells_106 rfl ?_
    refine v_sub [1, 2, 3, 4, 0] rfl ?_
    exact b_X7_tells_107 C hret hlk a1 a2 a3  K   _ _ _ _  h
  · replace h := h.2 hc
    refine v_iload_n C dX7_tells_102 rfl 3 rfl ?_
    refine v_goto C (tgt := 107) dX7_tells_103 (by decide) ?_
    refine v_sub [1, 2, 3, 4, 0] rfl ?_
    exact b_X7_tells_107 C hret hlk a1 a2 a3  K   _ _ _ _  h
def w_X7_tells_16 (a1 : Int32) (a2 : Int32) (a3 : Int32) (K : Mem → Prop)  : Nat → Int32 → Mem → Prop
  | 0, _, _ => False
  | n + 1, x4, σ => (br (28 ≤ x4) (vp_in 1077 1244 ∧ (vp_in 1077 1244 ∧ ∀ σ18 : Mem, σ18 = mu σ 307 (ix 1077) ((σ 307 (ix 1077)) - 1) → (w_X7_tells_65 a1 a2 a3 K   σ18))) (vp_in ((1078 + x4) + 4) 1244 ∧ (vp_in (1078 + x4) 1244 ∧ ∀ σ21 : Mem, σ21 = mu σ 307 (ix (1078 + x4)) (σ 307 (ix ((1078 + x4) + 4))) → (w_X7_tells_16 a1 a2 a3 K  n (x4 + 1) σ21))))
set_option maxHeartbeats 4000000 in
set_option maxRecDepth 100000 in
theorem b_X7_tells_16 {p : Program} {l : Launch} {e : Env} {s : State} {m : MethodId} {args : Array Value} {below : List Frame} {meth : Method} {c : Code} {L : Ly} {sz : Nat} (C : Cx p rm_X7_tells s m args meth c RX7 cX7_tells 5 0 0 (mA L sz) L) (hret : meth.sig.returnType = none) (hlk : meth.locks = false) (a1 : Int32) (a2 : Int32) (a3 : Int32)  (K : Mem → Prop)  : ∀ (n : Nat) (x4 : Int32) (σ : Mem), w_X7_tells_16 a1 a2 a3 K  n x4 σ → V p l e rm_X7_tells s m args below meth c 5 0 0 (MQ below (va_Qv K (mE L) (mA L sz)) args s 0 0 (mA L sz)) (mA L sz) L σ 16 [(0, .ref (lad L 306)), (1, .int a1), (2, .int a2), (3, .int a3), (4, .int x4)] [] := by
  intro n
  induction n with
  | zero => intro x4 σ  h; exact h.elim
  | succ n ih =>
    intro x4 σ  h
    rw [w_X7_tells_16] at h
    refine v_iload C dX7_tells_16 4 rfl ?_
    refine v_bipush C (v := 28) dX7_tells_18 rfl ?_
    refine v_icmp_ge C (tgt := 53) dX7_tells_20 (by decide) (fun hc => ?_) (fun hc => ?_)
    · replace h := h.1 hc
      refine v_aload_n C dX7_tells_53 rfl 0 rfl ?_
      refine g_7_now C kdn_306 mF_X7_7 dX7_tells_54 ?_
      refine v_sipush C (v := 1077) dX7_tells_57 rfl ?_
      refine v_dup2 C dX7_tells_60 rfl rfl ?_
      obtain ⟨hi16, h⟩ := h
      refine v_iald C (c0 := 24) (by decide) rfl kdn_307 hi16 dX7_tells_61 ?_
      refine v_iconst C (v := 1) dX7_tells_62 rfl ?_
      refine v_isub C dX7_tells_63 ?_
      obtain ⟨hi17, h⟩ := h
      refine v_iast C (c0 := 24) (by decide) (fun _ => rfl) kdn_307 hi17 dX7_tells_64 (fun σ18 eσ18 => ?_)
      replace h := h σ18 eσ18
      refine v_sub [0, 1, 2, 3] rfl ?_
      exact b_X7_tells_65 C hret hlk a1 a2 a3  K    _  h
    · replace h := h.2 hc
      refine v_aload_n C dX7_tells_23 rfl 0 rfl ?_
      refine g_7_now C kdn_306 mF_X7_7 dX7_tells_24 ?_
      refine v_sipush C (v := 1078) dX7_tells_27 rfl ?_
      refine v_iload C dX7_tells_30 4 rfl ?_
      refine v_iadd C dX7_tells_32 ?_
      refine v_aload_n C dX7_tells_33 rfl 0 rfl ?_
      refine g_7_now C kdn_306 mF_X7_7 dX7_tells_34 ?_
      refine v_sipush C (v := 1078) dX7_tells_37 rfl ?_
      refine v_iload C dX7_tells_40 4 rfl ?_
      refine v_iadd C dX7_tells_42 ?_
      refine v_iconst C (v := 4) dX7_tells_43 rfl ?_
      refine v_iadd C dX7_tells_44 ?_
      obtain ⟨hi19, h⟩ := h
      refine v_iald C (c0 := 24) (by decide) rfl kdn_307 hi19 dX7_tells_45 ?_
      obtain ⟨hi20, h⟩ := h
      refine v_iast C (c0 := 24) (by decide) (fun _ => rfl) kdn_307 hi20 dX7_tells_46 (fun σ21 eσ21 => ?_)
      replace h := h σ21 eσ21
      refine v_iinc C [(4, .int (x4 + 1)), (0, .ref (lad L 306)), (1, .int a1), (2, .int a2), (3, .int a3)] dX7_tells_47 4 rfl rfl (by decide) rfl ?_
      refine v_goto C (tgt := 16) dX7_tells_50 (by decide) ?_
      refine v_sub [1, 2, 3, 4, 0] rfl ?_
      exact ih _ _  h
def w_X7_tells (a1 : Int32) (a2 : Int32) (a3 : Int32) (σ : Mem) (K : Mem → Prop) : Prop := (vp_in 1077 1244 ∧ (br ((σ 307 (ix 1077)) = 8) (∃ n22, w_X7_tells_16 a1 a2 a3 K  n22 0 σ) (w_X7_tells_65 a1 a2 a3 K   σ)))
set_option maxHeartbeats 4000000 in
set_option maxRecDepth 100000 in
theorem c_X7_tells (l : Launch) (L : Ly) (a1 : Int32) (a2 : Int32) (a3 : Int32) (σ : Mem) (K : Mem → Prop)  (h : w_X7_tells a1 a2 a3 σ K) (sz : Nat) : Met l yX7_tells (.code yX7_tells cX7_tells 5 none :: wA) rm_X7_tells (va_Pc [.ref (lad L 306), .int a1, .int a2, .int a3] (mB L sz σ)) (va_Qv K (mE L) (mA L sz)) 0 0 (mA L sz) := by
  refine v_start (own := RX7) [(0, .ref (lad L 306)), (1, .int a1), (2, .int a2), (3, .int a3)] (by decide) rfl (Nat.le_of_ble_eq_true rfl) rfl (fun p e s m args below meth c C hret hlk => ?_)
  unfold w_X7_tells at h
  refine v_aload_n C dX7_tells_0 rfl 0 rfl ?_
  refine g_7_now C kdn_306 mF_X7_7 dX7_tells_1 ?_
  refine v_sipush C (v := 1077) dX7_tells_4 rfl ?_
  obtain ⟨hi1, h⟩ := h
  refine v_iald C (c0 := 24) (by decide) rfl kdn_307 hi1 dX7_tells_7 ?_
  refine v_bipush C (v := 8) dX7_tells_8 rfl ?_
  refine v_icmp_ne C (tgt := 65) dX7_tells_10 (by decide) (fun hc => ?_) (fun hc => ?_)
  · replace h := h.2 hc
    refine v_sub [0, 1, 2, 3] rfl ?_
    exact b_X7_tells_65 C hret hlk a1 a2 a3  K    _  h
  · replace h := h.1 hc
    refine v_iconst C (v := 0) dX7_tells_13 rfl ?_
    refine v_istore C [(4, .int 0), (0, .ref (lad L 306)), (1, .int a1), (2, .int a2), (3, .int a3)] dX7_tells_14 (by decide) rfl ?_
    obtain ⟨n22, h⟩ := h
    refine v_sub [1, 2, 3, 4, 0] rfl ?_
    exact b_X7_tells_16 C hret hlk a1 a2 a3  K   n22 _ _  h
theorem hd_X7_tells : yX7_tells.cls ≠ "java/lang/invoke/MethodHandle" ∧ yX7_tells.cls ≠ "java/lang/invoke/VarHandle" ∧ (parseMethodDescriptor yX7_tells.desc).map (fun d => d.parameters.length) = some 3 := by decide +kernel
theorem k_X7_tells {p : Program} {l : Launch} {e : Env} {R : Room} {s : State} {m : MethodId} {args : Array Value} {below : List Frame} {meth : Method} {c : Code} {nL cells slots : Nat} {Q : State → Prop} {A : Nat → Prop} {L : Ly} {own : String} {cc : ByteArray} {σ : Mem} {pc idx : Nat} {lv : List (Nat × Value)} {st : List Value} {K : Mem → Prop} (C : Cx p R s m args meth c own cc nL cells slots A L) (a1 : Int32) (a2 : Int32) (a3 : Int32)  (h : w_X7_tells a1 a2 a3 σ K) (hml : Cond.methodLink own idx yX7_tells ∈ wA) (hR : rm_X7_tells.frames + 1 ≤ R.frames ∧ 8 + (5 + 11) + rm_X7_tells.locals ≤ R.locals) (hsum : (st.map fun v => v.category).sum ≤ 8) (d : decode cc pc = .ok (.invokevirtual idx, 3)) (kk : ∀ σ1, K σ1 → V p l e R s m args below meth c nL cells slots Q A L σ1 (pc + 3) lv st) : V p l e R s m args below meth c nL cells slots Q A L σ pc lv (.int a3 :: .int a2 :: .int a1 :: .ref (lad L 306) :: st) := v_callVv C [.int a1, .int a2, .int a3] (fun sz => c_X7_tells l L a1 a2 a3 σ _  h sz) mC_X7_tells mZ_X7 hd_X7_tells mI_X7_tells mS_X7_tells rfl rfl (c0 := 7) (ci := 7) (by decide) rfl rfl rfl kdn_306 hml hR rfl hsum d kk
-- ===== RX7.least
abbrev rm_X7_least : Room := { frames := 3, cells := 0, slots := 0, locals := 65 }
def w_X7_least_45 (a1 : Int32) (K : Int32 → Mem → Prop) (A5 : Int32 → Int32 → Mem → Prop) (x2 : Int32) (x3 : Int32) (s0 : Int32) (σ : Mem) : Prop := (br (0 < s0) (A5 x3 (x3 + 1) σ) (br (s0 = 0) (w_X7_its a1 x3 3 σ (fun r8 σ7 => (w_X7_its a1 x2 3 σ7 (fun r10 σ9 => (br (r10 ≤ r8) (A5 x2 (x3 + 1) σ9) (A5 x3 (x3 + 1) σ9)))))) (A5 x2 (x3 + 1) σ)))
set_option maxHeartbeats 4000000 in
set_option maxRecDepth 100000 in
theorem b_X7_least_45 {p : Program} {l : Launch} {e : Env} {s : State} {m : MethodId} {args : Array Value} {below : List Frame} {meth : Method} {c : Code} {L : Ly} {sz : Nat} (C : Cx p rm_X7_least s m args meth c RX7 cX7_least 5 0 0 (mA L sz) L) (hret : meth.sig.returnType = (some .int)) (hlk : meth.locks = false) (a1 : Int32)  (K : Int32 → Mem → Prop) (A5 : Int32 → Int32 → Mem → Prop) (hA5 : ∀ (x2 : Int32) (x3 : Int32) (σ : Mem), A5 x2 x3 σ → V p l e rm_X7_least s m args below meth c 5 0 0 (MQ below (va_Qi K (mE L) (mA L sz)) args s 0 0 (mA L sz)) (mA L sz) L σ 5 [(0, .ref (lad L 306)), (1, .int a1), (2, .int x2), (3, .int x3)] []) (x2 : Int32) (x3 : Int32) (s0 : Int32) (σ : Mem)  (h : w_X7_least_45 a1 K A5 x2 x3 s0 σ) : V p l e rm_X7_least s m args below meth c 5 0 0 (MQ below (va_Qi K (mE L) (mA L sz)) args s 0 0 (mA L sz)) (mA L sz) L σ 45 [(0, .ref (lad L 306)), (1, .int a1), (2, .int x2), (3, .int x3)] [.int s0] := by
  unfold w_X7_least_45 at h
  refine v_istore C [(4, .int s0), (0, .ref (lad L 306)), (1, .int a1), (2, .int x2), (3, .int x3)] dX7_least_45 (by decide) rfl ?_
  refine v_iload C dX7_least_47 0 rfl ?_
  refine v_if_gt C (tgt := 74) dX7_least_49 (by decide) (fun hc => ?_) (fun hc => ?_)
  · replace h := h.1 hc
    refine v_iload_n C dX7_least_74 rfl 4 rfl ?_
    refine v_goto C (tgt := 79) dX7_least_75 (by decide) ?_
    refine v_istore_n C [(2, .int x3), (4, .int s0), (0, .ref (lad L 306)), (1, .int a1), (3, .int x3)] dX7_least_79 rfl (by decide) rfl ?_
    refine v_iinc C [(3, .int (x3 + 1)), (2, .int x3), (4, .int s0), (0, .ref (lad L 306)), (1, .int a1)] dX7_least_80 4 rfl rfl (by decide) rfl ?_
    refine v_goto C (tgt := 5) dX7_least_83 (by decide) ?_
    refine v_sub [3, 4, 1, 0] rfl ?_
    exact hA5 _ _ _  h
  · replace h := h.2 hc
    refine v_iload C dX7_least_52 0 rfl ?_
    refine v_if_ne C (tgt := 78) dX7_least_54 (by decide) (fun hc => ?_) (fun hc => ?_)
    · replace h := h.2 hc
      refine v_iload_n C dX7_least_78 rfl 3 rfl ?_
      refine v_istore_n C [(2, .int x2), (4, .int s0), (0, .ref (lad L 306)), (1, .int a1), (3, .int x3)] dX7_least_79 rfl (by decide) rfl ?_
      refine v_iinc C [(3, .int (x3 + 1)), (2, .int x2), (4, .int s0), (0, .ref (lad L 306)), (1, .int a1)] dX7_least_80 4 rfl rfl (by decide) rfl ?_
      refine v_goto C (tgt := 5) dX7_least_83 (by decide) ?_
      refine v_sub [3, 4, 1, 0] rfl ?_
      exact hA5 _ _ _  h
    · replace h := h.1 hc
      refine v_aload_n C dX7_least_57 rfl 1 rfl ?_
      refine v_iload_n C dX7_least_58 rfl 2 rfl ?_
      refine v_iload_n C dX7_least_59 rfl 4 rfl ?_
      refine v_iconst C (v := 3) dX7_least_60 rfl ?_
      refine k_X7_its C a1 x3 3  h mM_X7_31 ⟨Nat.le_of_ble_eq_true rfl, Nat.le_of_ble_eq_true rfl⟩ (Nat.le_of_ble_eq_true rfl) dX7_least_61 (fun r8 σ7 h => ?_)
      refine v_aload_n C dX7_least_64 rfl 1 rfl ?_
      refine v_iload_n C dX7_least_65 rfl 2 rfl ?_
      refine v_iload_n C dX7_least_66 rfl 3 rfl ?_
      refine v_iconst C (v := 3) dX7_least_67 rfl ?_
      refine k_X7_its C a1 x2 3  h mM_X7_31 ⟨Nat.le_of_ble_eq_true rfl, Nat.le_of_ble_eq_true rfl⟩ (Nat.le_of_ble_eq_true rfl) dX7_least_68 (fun r10 σ9 h => ?_)
      refine v_icmp_ge C (tgt := 78) dX7_least_71 (by decide) (fun hc => ?_) (fun hc => ?_)
      · replace h := h.1 hc
        refine v_iload_n C dX7_least_78 rfl 3 rfl ?_
        refine v_istore_n C [(2, .int x2), (4, .int s0), (0, .ref (lad L 306)), (1, .int a1), (3, .int x3)] dX7_least_79 rfl (by decide) rfl ?_
        refine v_iinc C [(3, .int (x3 + 1)), (2, .int x2), (4, .int s0), (0, .ref (lad L 306)), (1, .int a1)] dX7_least_80 4 rfl rfl (by decide) rfl ?_
        refine v_goto C (tgt := 5) dX7_least_83 (by decide) ?_
        refine v_sub [3, 4, 1, 0] rfl ?_
        exact hA5 _ _ _  h
      · replace h := h.2 hc
        refine v_iload_n C dX7_least_74 rfl 4 rfl ?_
        refine v_goto C (tgt := 79) dX7_least_75 (by decide) ?_
        refine v_istore_n C [(2, .int x3), (4, .int s0), (0, .ref (lad L 306)), (1, .int a1), (3, .int x3)] dX7_least_79 rfl (by decide) rfl ?_
        refine v_iinc C [(3, .int (x3 + 1)), (2, .int x3), (4, .int s0), (0, .ref (lad L 306)), (1, .int a1)] dX7_least_80 4 rfl rfl (by decide) rfl ?_
        refine v_goto C (tgt := 5) dX7_least_83 (by decide) ?_
        refine v_sub [3, 4, 1, 0] rfl ?_
        exact hA5 _ _ _  h
def w_X7_least_5 (a1 : Int32) (K : Int32 → Mem → Prop)  : Nat → Int32 → Int32 → Mem → Prop
  | 0, _, _, _ => False
  | n + 1, x2, x3, σ => (br (26 ≤ x3) (K x2 σ) (w_X7_has a1 x3 σ (fun r2 σ1 => (br (r2 = 0) (w_X7_least_5 a1 K  n x2 (x3 + 1) σ1) (br (x2 = (-5)) (w_X7_least_45 a1 K (w_X7_least_5 a1 K  n) x2 x3 1 σ1) (w_X7_its a1 x2 1 σ1 (fun r4 σ3 => (w_X7_its a1 x3 1 σ3 (fun r6 σ5 => (w_X7_least_45 a1 K (w_X7_least_5 a1 K  n) x2 x3 (r4 - r6) σ5))))))))))
set_option maxHeartbeats 4000000 in
set_option maxRecDepth 100000 in
theorem b_X7_least_5 {p : Program} {l : Launch} {e : Env} {s : State} {m : MethodId} {args : Array Value} {below : List Frame} {meth : Method} {c : Code} {L : Ly} {sz : Nat} (C : Cx p rm_X7_least s m args meth c RX7 cX7_least 5 0 0 (mA L sz) L) (hret : meth.sig.returnType = (some .int)) (hlk : meth.locks = false) (a1 : Int32)  (K : Int32 → Mem → Prop)  : ∀ (n : Nat) (x2 : Int32) (x3 : Int32) (σ : Mem), w_X7_least_5 a1 K  n x2 x3 σ → V p l e rm_X7_least s m args below meth c 5 0 0 (MQ below (va_Qi K (mE L) (mA L sz)) args s 0 0 (mA L sz)) (mA L sz) L σ 5 [(0, .ref (lad L 306)), (1, .int a1), (2, .int x2), (3, .int x3)] [] := by
  intro n
  induction n with
  | zero => intro x2 x3 σ  h; exact h.elim
  | succ n ih =>
    intro x2 x3 σ  h
    rw [w_X7_least_5] at h
    refine v_iload_n C dX7_least_5 rfl 3 rfl ?_
    refine v_bipush C (v := 26) dX7_least_6 rfl ?_
    refine v_icmp_ge C (tgt := 86) dX7_least_8 (by decide) (fun hc => ?_) (fun hc => ?_)
    · replace h := h.1 hc
      refine v_iload_n C dX7_least_86 rfl 2 rfl ?_
      exact v_iret C dX7_least_87 hret hlk h
    · replace h := h.2 hc
      refine v_aload_n C dX7_least_11 rfl 0 rfl ?_
      refine v_iload_n C dX7_least_12 rfl 1 rfl ?_
      refine v_iload_n C dX7_least_13 rfl 3 rfl ?_
      refine k_X7_has C a1 x3  h mM_X7_43 ⟨Nat.le_of_ble_eq_true rfl, Nat.le_of_ble_eq_true rfl⟩ (Nat.le_of_ble_eq_true rfl) dX7_least_14 (fun r2 σ1 h => ?_)
      refine v_if_eq C (tgt := 80) dX7_least_17 (by decide) (fun hc => ?_) (fun hc => ?_)
      · replace h := h.1 hc
        refine v_iinc C [(3, .int (x3 + 1)), (0, .ref (lad L 306)), (1, .int a1), (2, .int x2)] dX7_least_80 3 rfl rfl (by decide) rfl ?_
        refine v_goto C (tgt := 5) dX7_least_83 (by decide) ?_
        refine v_sub [1, 2, 3, 0] rfl ?_
        exact ih _ _ _  h
      · replace h := h.2 hc
        refine v_iload_n C dX7_least_20 rfl 2 rfl ?_
        refine v_bipush C (v := (-5)) dX7_least_21 rfl ?_
        refine v_icmp_ne C (tgt := 30) dX7_least_23 (by decide) (fun hc => ?_) (fun hc => ?_)
        · replace h := h.2 hc
          refine v_aload_n C dX7_least_30 rfl 0 rfl ?_
          refine v_iload_n C dX7_least_31 rfl 1 rfl ?_
          refine v_iload_n C dX7_least_32 rfl 2 rfl ?_
          refine v_iconst C (v := 1) dX7_least_33 rfl ?_
          refine k_X7_its C a1 x2 1  h mM_X7_31 ⟨Nat.le_of_ble_eq_true rfl, Nat.le_of_ble_eq_true rfl⟩ (Nat.le_of_ble_eq_true rfl) dX7_least_34 (fun r4 σ3 h => ?_)
          refine v_aload_n C dX7_least_37 rfl 0 rfl ?_
          refine v_iload_n C dX7_least_38 rfl 1 rfl ?_
          refine v_iload_n C dX7_least_39 rfl 3 rfl ?_
          refine v_iconst C (v := 1) dX7_least_40 rfl ?_
          refine k_X7_its C a1 x3 1  h mM_X7_31 ⟨Nat.le_of_ble_eq_true rfl, Nat.le_of_ble_eq_true rfl⟩ (Nat.le_of_ble_eq_true rfl) dX7_least_41 (fun r6 σ5 h => ?_)
          refine v_isub C dX7_least_44 ?_
          refine v_sub [0, 1, 2, 3] rfl ?_
          exact b_X7_least_45 C hret hlk a1  K _ ih _ _ _ _  h
        · replace h := h.1 hc
          refine v_iconst C (v := 1) dX7_least_26 rfl ?_
          refine v_goto C (tgt := 45) dX7_least_27 (by decide) ?_
          refine v_sub [0, 1, 2, 3] rfl ?_
          exact b_X7_least_45 C hret hlk a1  K _ ih _ _ _ _  h
def w_X7_least (a1 : Int32) (σ : Mem) (K : Int32 → Mem → Prop) : Prop := (∃ n11, w_X7_least_5 a1 K  n11 (-5) 0 σ)
set_option maxHeartbeats 4000000 in
set_option maxRecDepth 100000 in
theorem c_X7_least (l : Launch) (L : Ly) (a1 : Int32) (σ : Mem) (K : Int32 → Mem → Prop)  (h : w_X7_least a1 σ K) (sz : Nat) : Met l yX7_least (.code yX7_least cX7_least 5 (some .int) :: wA) rm_X7_least (va_Pc [.ref (lad L 306), .int a1] (mB L sz σ)) (va_Qi K (mE L) (mA L sz)) 0 0 (mA L sz) := by
  refine v_start (own := RX7) [(0, .ref (lad L 306)), (1, .int a1)] (by decide) rfl (Nat.le_of_ble_eq_true rfl) rfl (fun p e s m args below meth c C hret hlk => ?_)
  unfold w_X7_least at h
  refine v_bipush C (v := (-5)) dX7_least_0 rfl ?_
  refine v_istore_n C [(2, .int (-5)), (0, .ref (lad L 306)), (1, .int a1)] dX7_least_2 rfl (by decide) rfl ?_
  refine v_iconst C (v := 0) dX7_least_3 rfl ?_
  refine v_istore_n C [(3, .int 0), (2, .int (-5)), (0, .ref (lad L 306)), (1, .int a1)] dX7_least_4 rfl (by decide) rfl ?_
  obtain ⟨n11, h⟩ := h
  refine v_sub [2, 3, 1, 0] rfl ?_
  exact b_X7_least_5 C hret hlk a1  K   n11 _ _ _  h
theorem hd_X7_least : yX7_least.cls ≠ "java/lang/invoke/MethodHandle" ∧ yX7_least.cls ≠ "java/lang/invoke/VarHandle" ∧ (parseMethodDescriptor yX7_least.desc).map (fun d => d.parameters.length) = some 1 := by decide +kernel
theorem k_X7_least {p : Program} {l : Launch} {e : Env} {R : Room} {s : State} {m : MethodId} {args : Array Value} {below : List Frame} {meth : Method} {c : Code} {nL cells slots : Nat} {Q : State → Prop} {A : Nat → Prop} {L : Ly} {own : String} {cc : ByteArray} {σ : Mem} {pc idx : Nat} {lv : List (Nat × Value)} {st : List Value} {K : Int32 → Mem → Prop} (C : Cx p R s m args meth c own cc nL cells slots A L) (a1 : Int32)  (h : w_X7_least a1 σ K) (hml : Cond.methodLink own idx yX7_least ∈ wA) (hR : rm_X7_least.frames + 1 ≤ R.frames ∧ 8 + (5 + 11) + rm_X7_least.locals ≤ R.locals) (hsum : (st.map fun v => v.category).sum ≤ 8) (d : decode cc pc = .ok (.invokevirtual idx, 3)) (kk : ∀ r σ1, K r σ1 → V p l e R s m args below meth c nL cells slots Q A L σ1 (pc + 3) lv (.int r :: st)) : V p l e R s m args below meth c nL cells slots Q A L σ pc lv (.int a1 :: .ref (lad L 306) :: st) := v_callVi C [.int a1] (fun sz => c_X7_least l L a1 σ _  h sz) mC_X7_least mZ_X7 hd_X7_least mI_X7_least mS_X7_least rfl rfl (c0 := 7) (ci := 7) (by decide) rfl rfl rfl kdn_306 hml hR rfl hsum d kk
-- ===== RX7.drops
abbrev rm_X7_drops : Room := { frames := 2, cells := 0, slots := 0, locals := 44 }
def w_X7_drops (a1 : Int32) (a2 : Int32) (σ : Mem) (K : Mem → Prop) : Prop := (w_X7_its a1 a2 1 σ (fun r2 σ1 => (w_X7_of a1 1 σ1 (fun r4 σ3 => (br (r2 ≤ r4) (w_X7_of a1 1 σ3 (fun r6 σ5 => (w_X7_puts a1 1 r6 σ5 (fun σ7 => (w_X7_gives a1 a2 0 0 σ7 (fun σ8 => (K σ8))))))) (w_X7_puts a1 1 r2 σ3 (fun σ9 => (w_X7_gives a1 a2 0 0 σ9 (fun σ10 => (K σ10))))))))))
set_option maxHeartbeats 4000000 in
set_option maxRecDepth 100000 in
theorem c_X7_drops (l : Launch) (L : Ly) (a1 : Int32) (a2 : Int32) (σ : Mem) (K : Mem → Prop)  (h : w_X7_drops a1 a2 σ K) (sz : Nat) : Met l yX7_drops (.code yX7_drops cX7_drops 4 none :: wA) rm_X7_drops (va_Pc [.ref (lad L 306), .int a1, .int a2] (mB L sz σ)) (va_Qv K (mE L) (mA L sz)) 0 0 (mA L sz) := by
  refine v_start (own := RX7) [(0, .ref (lad L 306)), (1, .int a1), (2, .int a2)] (by decide) rfl (Nat.le_of_ble_eq_true rfl) rfl (fun p e s m args below meth c C hret hlk => ?_)
  unfold w_X7_drops at h
  refine v_aload_n C dX7_drops_0 rfl 0 rfl ?_
  refine v_iload_n C dX7_drops_1 rfl 1 rfl ?_
  refine v_iload_n C dX7_drops_2 rfl 2 rfl ?_
  refine v_iconst C (v := 1) dX7_drops_3 rfl ?_
  refine k_X7_its C a1 a2 1  h mM_X7_31 ⟨Nat.le_of_ble_eq_true rfl, Nat.le_of_ble_eq_true rfl⟩ (Nat.le_of_ble_eq_true rfl) dX7_drops_4 (fun r2 σ1 h => ?_)
  refine v_istore_n C [(3, .int r2), (0, .ref (lad L 306)), (1, .int a1), (2, .int a2)] dX7_drops_7 rfl (by decide) rfl ?_
  refine v_aload_n C dX7_drops_8 rfl 1 rfl ?_
  refine v_iload_n C dX7_drops_9 rfl 2 rfl ?_
  refine v_iconst C (v := 1) dX7_drops_10 rfl ?_
  refine v_iload_n C dX7_drops_11 rfl 0 rfl ?_
  refine v_aload_n C dX7_drops_12 rfl 1 rfl ?_
  refine v_iload_n C dX7_drops_13 rfl 2 rfl ?_
  refine v_iconst C (v := 1) dX7_drops_14 rfl ?_
  refine k_X7_of C a1 1  h mM_X7_47 ⟨Nat.le_of_ble_eq_true rfl, Nat.le_of_ble_eq_true rfl⟩ (Nat.le_of_ble_eq_true rfl) dX7_drops_15 (fun r4 σ3 h => ?_)
  refine v_icmp_le C (tgt := 25) dX7_drops_18 (by decide) (fun hc => ?_) (fun hc => ?_)
  · replace h := h.1 hc
    refine v_aload_n C dX7_drops_25 rfl 1 rfl ?_
    refine v_iload_n C dX7_drops_26 rfl 2 rfl ?_
    refine v_iconst C (v := 1) dX7_drops_27 rfl ?_
    refine k_X7_of C a1 1  h mM_X7_47 ⟨Nat.le_of_ble_eq_true rfl, Nat.le_of_ble_eq_true rfl⟩ (Nat.le_of_ble_eq_true rfl) dX7_drops_28 (fun r6 σ5 h => ?_)
    refine k_X7_puts C a1 1 r6  h mM_X7_23 ⟨Nat.le_of_ble_eq_true rfl, Nat.le_of_ble_eq_true rfl⟩ (Nat.le_of_ble_eq_true rfl) dX7_drops_31 (fun σ7 h => ?_)
    refine v_aload_n C dX7_drops_34 rfl 1 rfl ?_
    refine v_iload_n C dX7_drops_35 rfl 2 rfl ?_
    refine v_iload_n C dX7_drops_36 rfl 3 rfl ?_
    refine v_iconst C (v := 0) dX7_drops_37 rfl ?_
    refine v_iconst C (v := 0) dX7_drops_38 rfl ?_
    refine k_X7_gives C a1 a2 0 0  h mM_X7_51 ⟨Nat.le_of_ble_eq_true rfl, Nat.le_of_ble_eq_true rfl⟩ (Nat.le_of_ble_eq_true rfl) dX7_drops_39 (fun σ8 h => ?_)
    exact v_vret C dX7_drops_42 hret hlk h
  · replace h := h.2 hc
    refine v_iload_n C dX7_drops_21 rfl 0 rfl ?_
    refine v_goto C (tgt := 31) dX7_drops_22 (by decide) ?_
    refine k_X7_puts C a1 1 r2  h mM_X7_23 ⟨Nat.le_of_ble_eq_true rfl, Nat.le_of_ble_eq_true rfl⟩ (Nat.le_of_ble_eq_true rfl) dX7_drops_31 (fun σ9 h => ?_)
    refine v_aload_n C dX7_drops_34 rfl 1 rfl ?_
    refine v_iload_n C dX7_drops_35 rfl 2 rfl ?_
    refine v_iload_n C dX7_drops_36 rfl 3 rfl ?_
    refine v_iconst C (v := 0) dX7_drops_37 rfl ?_
    refine v_iconst C (v := 0) dX7_drops_38 rfl ?_
    refine k_X7_gives C a1 a2 0 0  h mM_X7_51 ⟨Nat.le_of_ble_eq_true rfl, Nat.le_of_ble_eq_true rfl⟩ (Nat.le_of_ble_eq_true rfl) dX7_drops_39 (fun σ10 h => ?_)
    exact v_vret C dX7_drops_42 hret hlk h
theorem hd_X7_drops : yX7_drops.cls ≠ "java/lang/invoke/MethodHandle" ∧ yX7_drops.cls ≠ "java/lang/invoke/VarHandle" ∧ (parseMethodDescriptor yX7_drops.desc).map (fun d => d.parameters.length) = some 2 := by decide +kernel
theorem k_X7_drops {p : Program} {l : Launch} {e : Env} {R : Room} {s : State} {m : MethodId} {args : Array Value} {below : List Frame} {meth : Method} {c : Code} {nL cells slots : Nat} {Q : State → Prop} {A : Nat → Prop} {L : Ly} {own : String} {cc : ByteArray} {σ : Mem} {pc idx : Nat} {lv : List (Nat × Value)} {st : List Value} {K : Mem → Prop} (C : Cx p R s m args meth c own cc nL cells slots A L) (a1 : Int32) (a2 : Int32)  (h : w_X7_drops a1 a2 σ K) (hml : Cond.methodLink own idx yX7_drops ∈ wA) (hR : rm_X7_drops.frames + 1 ≤ R.frames ∧ 8 + (4 + 11) + rm_X7_drops.locals ≤ R.locals) (hsum : (st.map fun v => v.category).sum ≤ 8) (d : decode cc pc = .ok (.invokevirtual idx, 3)) (kk : ∀ σ1, K σ1 → V p l e R s m args below meth c nL cells slots Q A L σ1 (pc + 3) lv st) : V p l e R s m args below meth c nL cells slots Q A L σ pc lv (.int a2 :: .int a1 :: .ref (lad L 306) :: st) := v_callVv C [.int a1, .int a2] (fun sz => c_X7_drops l L a1 a2 σ _  h sz) mC_X7_drops mZ_X7 hd_X7_drops mI_X7_drops mS_X7_drops rfl rfl (c0 := 7) (ci := 7) (by decide) rfl rfl rfl kdn_306 hml hR rfl hsum d kk
-- ===== RX7.evicts
abbrev rm_X7_evicts : Room := { frames := 4, cells := 0, slots := 0, locals := 89 }
def w_X7_evicts (a1 : Int32) (σ : Mem) (K : Mem → Prop) : Prop := (w_X7_least a1 σ (fun r2 σ1 => (w_X7_drops a1 r2 σ1 (fun σ3 => (vp_in 1073 1244 ∧ (vp_in 1073 1244 ∧ ∀ σ6 : Mem, σ6 = mu σ3 307 (ix 1073) ((σ3 307 (ix 1073)) + 1) → (w_X7_tells 0 a1 (97 + r2) σ6 (fun σ7 => (K σ7)))))))))
set_option maxHeartbeats 4000000 in
set_option maxRecDepth 100000 in
theorem c_X7_evicts (l : Launch) (L : Ly) (a1 : Int32) (σ : Mem) (K : Mem → Prop)  (h : w_X7_evicts a1 σ K) (sz : Nat) : Met l yX7_evicts (.code yX7_evicts cX7_evicts 3 none :: wA) rm_X7_evicts (va_Pc [.ref (lad L 306), .int a1] (mB L sz σ)) (va_Qv K (mE L) (mA L sz)) 0 0 (mA L sz) := by
  refine v_start (own := RX7) [(0, .ref (lad L 306)), (1, .int a1)] (by decide) rfl (Nat.le_of_ble_eq_true rfl) rfl (fun p e s m args below meth c C hret hlk => ?_)
  unfold w_X7_evicts at h
  refine v_aload_n C dX7_evicts_0 rfl 0 rfl ?_
  refine v_iload_n C dX7_evicts_1 rfl 1 rfl ?_
  refine k_X7_least C a1  h mM_X7_55 ⟨Nat.le_of_ble_eq_true rfl, Nat.le_of_ble_eq_true rfl⟩ (Nat.le_of_ble_eq_true rfl) dX7_evicts_2 (fun r2 σ1 h => ?_)
  refine v_istore_n C [(2, .int r2), (0, .ref (lad L 306)), (1, .int a1)] dX7_evicts_5 rfl (by decide) rfl ?_
  refine v_aload_n C dX7_evicts_6 rfl 1 rfl ?_
  refine v_iload_n C dX7_evicts_7 rfl 2 rfl ?_
  refine v_iload_n C dX7_evicts_8 rfl 0 rfl ?_
  refine k_X7_drops C a1 r2  h mM_X7_58 ⟨Nat.le_of_ble_eq_true rfl, Nat.le_of_ble_eq_true rfl⟩ (Nat.le_of_ble_eq_true rfl) dX7_evicts_9 (fun σ3 h => ?_)
  refine v_aload_n C dX7_evicts_12 rfl 1 rfl ?_
  refine g_7_now C kdn_306 mF_X7_7 dX7_evicts_13 ?_
  refine v_sipush C (v := 1073) dX7_evicts_16 rfl ?_
  refine v_dup2 C dX7_evicts_19 rfl rfl ?_
  obtain ⟨hi4, h⟩ := h
  refine v_iald C (c0 := 24) (by decide) rfl kdn_307 hi4 dX7_evicts_20 ?_
  refine v_iconst C (v := 1) dX7_evicts_21 rfl ?_
  refine v_iadd C dX7_evicts_22 ?_
  obtain ⟨hi5, h⟩ := h
  refine v_iast C (c0 := 24) (by decide) (fun _ => rfl) kdn_307 hi5 dX7_evicts_23 (fun σ6 eσ6 => ?_)
  replace h := h σ6 eσ6
  refine v_aload_n C dX7_evicts_24 rfl 1 rfl ?_
  refine v_iconst C (v := 0) dX7_evicts_25 rfl ?_
  refine v_iload_n C dX7_evicts_26 rfl 2 rfl ?_
  refine v_bipush C (v := 97) dX7_evicts_27 rfl ?_
  refine v_iload_n C dX7_evicts_29 rfl 0 rfl ?_
  refine v_iadd C dX7_evicts_30 ?_
  refine k_X7_tells C 0 a1 (97 + r2)  h mM_X7_62 ⟨Nat.le_of_ble_eq_true rfl, Nat.le_of_ble_eq_true rfl⟩ (Nat.le_of_ble_eq_true rfl) dX7_evicts_31 (fun σ7 h => ?_)
  exact v_vret C dX7_evicts_34 hret hlk h
theorem hd_X7_evicts : yX7_evicts.cls ≠ "java/lang/invoke/MethodHandle" ∧ yX7_evicts.cls ≠ "java/lang/invoke/VarHandle" ∧ (parseMethodDescriptor yX7_evicts.desc).map (fun d => d.parameters.length) = some 1 := by decide +kernel
theorem k_X7_evicts {p : Program} {l : Launch} {e : Env} {R : Room} {s : State} {m : MethodId} {args : Array Value} {below : List Frame} {meth : Method} {c : Code} {nL cells slots : Nat} {Q : State → Prop} {A : Nat → Prop} {L : Ly} {own : String} {cc : ByteArray} {σ : Mem} {pc idx : Nat} {lv : List (Nat × Value)} {st : List Value} {K : Mem → Prop} (C : Cx p R s m args meth c own cc nL cells slots A L) (a1 : Int32)  (h : w_X7_evicts a1 σ K) (hml : Cond.methodLink own idx yX7_evicts ∈ wA) (hR : rm_X7_evicts.frames + 1 ≤ R.frames ∧ 8 + (3 + 11) + rm_X7_evicts.locals ≤ R.locals) (hsum : (st.map fun v => v.category).sum ≤ 8) (d : decode cc pc = .ok (.invokevirtual idx, 3)) (kk : ∀ σ1, K σ1 → V p l e R s m args below meth c nL cells slots Q A L σ1 (pc + 3) lv st) : V p l e R s m args below meth c nL cells slots Q A L σ pc lv (.int a1 :: .ref (lad L 306) :: st) := v_callVv C [.int a1] (fun sz => c_X7_evicts l L a1 σ _  h sz) mC_X7_evicts mZ_X7 hd_X7_evicts mI_X7_evicts mS_X7_evicts rfl rfl (c0 := 7) (ci := 7) (by decide) rfl rfl rfl kdn_306 hml hR rfl hsum d kk
-- ===== RX7.comes
abbrev rm_X7_comes : Room := { frames := 5, cells := 0, slots := 0, locals := 111 }
def w_X7_comes_103 (a1 : Int32) (a2 : Int32) (a3 : Int32) (K : Mem → Prop)   (σ : Mem) : Prop := (w_X7_gives a1 a2 0 1 σ (fun σ19 => (w_X7_of a1 1 σ19 (fun r21 σ20 => (w_X7_gives a1 a2 1 (r21 + a3) σ20 (fun σ22 => (w_X7_of a1 1 σ22 (fun r24 σ23 => (w_X7_gives a1 a2 2 r24 σ23 (fun σ25 => (vp_in 1072 1244 ∧ (w_X7_gives a1 a2 3 (σ25 307 (ix 1072)) σ25 (fun σ27 => (K σ27))))))))))))))
set_option maxHeartbeats 4000000 in
set_option maxRecDepth 100000 in
theorem b_X7_comes_103 {p : Program} {l : Launch} {e : Env} {s : State} {m : MethodId} {args : Array Value} {below : List Frame} {meth : Method} {c : Code} {L : Ly} {sz : Nat} (C : Cx p rm_X7_comes s m args meth c RX7 cX7_comes 4 0 0 (mA L sz) L) (hret : meth.sig.returnType = none) (hlk : meth.locks = false) (a1 : Int32) (a2 : Int32) (a3 : Int32)  (K : Mem → Prop)   (σ : Mem)  (h : w_X7_comes_103 a1 a2 a3 K   σ) : V p l e rm_X7_comes s m args below meth c 4 0 0 (MQ below (va_Qv K (mE L) (mA L sz)) args s 0 0 (mA L sz)) (mA L sz) L σ 103 [(0, .ref (lad L 306)), (1, .int a1), (2, .int a2), (3, .int a3)] [] := by
  unfold w_X7_comes_103 at h
  refine v_aload_n C dX7_comes_103 rfl 0 rfl ?_
  refine v_iload_n C dX7_comes_104 rfl 1 rfl ?_
  refine v_iload_n C dX7_comes_105 rfl 2 rfl ?_
  refine v_iconst C (v := 0) dX7_comes_106 rfl ?_
  refine v_iconst C (v := 1) dX7_comes_107 rfl ?_
  refine k_X7_gives C a1 a2 0 1  h mM_X7_51 ⟨Nat.le_of_ble_eq_true rfl, Nat.le_of_ble_eq_true rfl⟩ (Nat.le_of_ble_eq_true rfl) dX7_comes_108 (fun σ19 h => ?_)
  refine v_aload_n C dX7_comes_111 rfl 0 rfl ?_
  refine v_iload_n C dX7_comes_112 rfl 1 rfl ?_
  refine v_iload_n C dX7_comes_113 rfl 2 rfl ?_
  refine v_iconst C (v := 1) dX7_comes_114 rfl ?_
  refine v_aload_n C dX7_comes_115 rfl 0 rfl ?_
  refine v_iload_n C dX7_comes_116 rfl 1 rfl ?_
  refine v_iconst C (v := 1) dX7_comes_117 rfl ?_
  refine k_X7_of C a1 1  h mM_X7_47 ⟨Nat.le_of_ble_eq_true rfl, Nat.le_of_ble_eq_true rfl⟩ (Nat.le_of_ble_eq_true rfl) dX7_comes_118 (fun r21 σ20 h => ?_)
  refine v_iload_n C dX7_comes_121 rfl 3 rfl ?_
  refine v_iadd C dX7_comes_122 ?_
  refine k_X7_gives C a1 a2 1 (r21 + a3)  h mM_X7_51 ⟨Nat.le_of_ble_eq_true rfl, Nat.le_of_ble_eq_true rfl⟩ (Nat.le_of_ble_eq_true rfl) dX7_comes_123 (fun σ22 h => ?_)
  refine v_aload_n C dX7_comes_126 rfl 0 rfl ?_
  refine v_iload_n C dX7_comes_127 rfl 1 rfl ?_
  refine v_iload_n C dX7_comes_128 rfl 2 rfl ?_
  refine v_iconst C (v := 2) dX7_comes_129 rfl ?_
  refine v_aload_n C dX7_comes_130 rfl 0 rfl ?_
  refine v_iload_n C dX7_comes_131 rfl 1 rfl ?_
  refine v_iconst C (v := 1) dX7_comes_132 rfl ?_
  refine k_X7_of C a1 1  h mM_X7_47 ⟨Nat.le_of_ble_eq_true rfl, Nat.le_of_ble_eq_true rfl⟩ (Nat.le_of_ble_eq_true rfl) dX7_comes_133 (fun r24 σ23 h => ?_)
  refine k_X7_gives C a1 a2 2 r24  h mM_X7_51 ⟨Nat.le_of_ble_eq_true rfl, Nat.le_of_ble_eq_true rfl⟩ (Nat.le_of_ble_eq_true rfl) dX7_comes_136 (fun σ25 h => ?_)
  refine v_aload_n C dX7_comes_139 rfl 0 rfl ?_
  refine v_iload_n C dX7_comes_140 rfl 1 rfl ?_
  refine v_iload_n C dX7_comes_141 rfl 2 rfl ?_
  refine v_iconst C (v := 3) dX7_comes_142 rfl ?_
  refine v_aload_n C dX7_comes_143 rfl 0 rfl ?_
  refine g_7_now C kdn_306 mF_X7_7 dX7_comes_144 ?_
  refine v_sipush C (v := 1072) dX7_comes_147 rfl ?_
  obtain ⟨hi26, h⟩ := h
  refine v_iald C (c0 := 24) (by decide) rfl kdn_307 hi26 dX7_comes_150 ?_
  refine k_X7_gives C a1 a2 3 (σ25 307 (ix 1072))  h mM_X7_51 ⟨Nat.le_of_ble_eq_true rfl, Nat.le_of_ble_eq_true rfl⟩ (Nat.le_of_ble_eq_true rfl) dX7_comes_151 (fun σ27 h => ?_)
  exact v_vret C dX7_comes_154 hret hlk h
def w_X7_comes (a1 : Int32) (a2 : Int32) (a3 : Int32) (σ : Mem) (K : Mem → Prop) : Prop := (vp_in 1072 1244 ∧ (vp_in 1072 1244 ∧ ∀ σ3 : Mem, σ3 = mu σ 307 (ix 1072) ((σ 307 (ix 1072)) + 1) → (w_X7_of a1 2 σ3 (fun r5 σ4 => (w_X7_puts a1 2 (r5 + a3) σ4 (fun σ6 => (w_X7_of a1 3 σ6 (fun r8 σ7 => (w_X7_puts a1 3 (r8 + 1) σ7 (fun σ9 => (w_X7_its a1 a2 4 σ9 (fun r11 σ10 => (w_X7_gives a1 a2 4 (r11 + a3) σ10 (fun σ12 => (w_X7_has a1 a2 σ12 (fun r14 σ13 => (br (r14 = 0) (w_X7_counters a1 σ13 (fun r16 σ15 => (w_X7_of a1 0 σ15 (fun r18 σ17 => (br (r16 = r18) (w_X7_evicts a1 σ17 (fun σ28 => (w_X7_comes_103 a1 a2 a3 K   σ28))) (w_X7_comes_103 a1 a2 a3 K   σ17)))))) (w_X7_its a1 a2 1 σ13 (fun r30 σ29 => (w_X7_gives a1 a2 1 (r30 + a3) σ29 (fun σ31 => (vp_in 1072 1244 ∧ (w_X7_gives a1 a2 3 (σ31 307 (ix 1072)) σ31 (fun σ33 => (K σ33)))))))))))))))))))))))))
set_option maxHeartbeats 4000000 in
set_option maxRecDepth 100000 in
theorem c_X7_comes (l : Launch) (L : Ly) (a1 : Int32) (a2 : Int32) (a3 : Int32) (σ : Mem) (K : Mem → Prop)  (h : w_X7_comes a1 a2 a3 σ K) (sz : Nat) : Met l yX7_comes (.code yX7_comes cX7_comes 4 none :: wA) rm_X7_comes (va_Pc [.ref (lad L 306), .int a1, .int a2, .int a3] (mB L sz σ)) (va_Qv K (mE L) (mA L sz)) 0 0 (mA L sz) := by
  refine v_start (own := RX7) [(0, .ref (lad L 306)), (1, .int a1), (2, .int a2), (3, .int a3)] (by decide) rfl (Nat.le_of_ble_eq_true rfl) rfl (fun p e s m args below meth c C hret hlk => ?_)
  unfold w_X7_comes at h
  refine v_aload_n C dX7_comes_0 rfl 0 rfl ?_
  refine g_7_now C kdn_306 mF_X7_7 dX7_comes_1 ?_
  refine v_sipush C (v := 1072) dX7_comes_4 rfl ?_
  refine v_dup2 C dX7_comes_7 rfl rfl ?_
  obtain ⟨hi1, h⟩ := h
  refine v_iald C (c0 := 24) (by decide) rfl kdn_307 hi1 dX7_comes_8 ?_
  refine v_iconst C (v := 1) dX7_comes_9 rfl ?_
  refine v_iadd C dX7_comes_10 ?_
  obtain ⟨hi2, h⟩ := h
  refine v_iast C (c0 := 24) (by decide) (fun _ => rfl) kdn_307 hi2 dX7_comes_11 (fun σ3 eσ3 => ?_)
  replace h := h σ3 eσ3
  refine v_aload_n C dX7_comes_12 rfl 0 rfl ?_
  refine v_iload_n C dX7_comes_13 rfl 1 rfl ?_
  refine v_iconst C (v := 2) dX7_comes_14 rfl ?_
  refine v_aload_n C dX7_comes_15 rfl 0 rfl ?_
  refine v_iload_n C dX7_comes_16 rfl 1 rfl ?_
  refine v_iconst C (v := 2) dX7_comes_17 rfl ?_
  refine k_X7_of C a1 2  h mM_X7_47 ⟨Nat.le_of_ble_eq_true rfl, Nat.le_of_ble_eq_true rfl⟩ (Nat.le_of_ble_eq_true rfl) dX7_comes_18 (fun r5 σ4 h => ?_)
  refine v_iload_n C dX7_comes_21 rfl 3 rfl ?_
  refine v_iadd C dX7_comes_22 ?_
  refine k_X7_puts C a1 2 (r5 + a3)  h mM_X7_23 ⟨Nat.le_of_ble_eq_true rfl, Nat.le_of_ble_eq_true rfl⟩ (Nat.le_of_ble_eq_true rfl) dX7_comes_23 (fun σ6 h => ?_)
  refine v_aload_n C dX7_comes_26 rfl 0 rfl ?_
  refine v_iload_n C dX7_comes_27 rfl 1 rfl ?_
  refine v_iconst C (v := 3) dX7_comes_28 rfl ?_
  refine v_aload_n C dX7_comes_29 rfl 0 rfl ?_
  refine v_iload_n C dX7_comes_30 rfl 1 rfl ?_
  refine v_iconst C (v := 3) dX7_comes_31 rfl ?_
  refine k_X7_of C a1 3  h mM_X7_47 ⟨Nat.le_of_ble_eq_true rfl, Nat.le_of_ble_eq_true rfl⟩ (Nat.le_of_ble_eq_true rfl) dX7_comes_32 (fun r8 σ7 h => ?_)
  refine v_iconst C (v := 1) dX7_comes_35 rfl ?_
  refine v_iadd C dX7_comes_36 ?_
  refine k_X7_puts C a1 3 (r8 + 1)  h mM_X7_23 ⟨Nat.le_of_ble_eq_true rfl, Nat.le_of_ble_eq_true rfl⟩ (Nat.le_of_ble_eq_true rfl) dX7_comes_37 (fun σ9 h => ?_)
  refine v_aload_n C dX7_comes_40 rfl 0 rfl ?_
  refine v_iload_n C dX7_comes_41 rfl 1 rfl ?_
  refine v_iload_n C dX7_comes_42 rfl 2 rfl ?_
  refine v_iconst C (v := 4) dX7_comes_43 rfl ?_
  refine v_aload_n C dX7_comes_44 rfl 0 rfl ?_
  refine v_iload_n C dX7_comes_45 rfl 1 rfl ?_
  refine v_iload_n C dX7_comes_46 rfl 2 rfl ?_
  refine v_iconst C (v := 4) dX7_comes_47 rfl ?_
  refine k_X7_its C a1 a2 4  h mM_X7_31 ⟨Nat.le_of_ble_eq_true rfl, Nat.le_of_ble_eq_true rfl⟩ (Nat.le_of_ble_eq_true rfl) dX7_comes_48 (fun r11 σ10 h => ?_)
  refine v_iload_n C dX7_comes_51 rfl 3 rfl ?_
  refine v_iadd C dX7_comes_52 ?_
  refine k_X7_gives C a1 a2 4 (r11 + a3)  h mM_X7_51 ⟨Nat.le_of_ble_eq_true rfl, Nat.le_of_ble_eq_true rfl⟩ (Nat.le_of_ble_eq_true rfl) dX7_comes_53 (fun σ12 h => ?_)
  refine v_aload_n C dX7_comes_56 rfl 0 rfl ?_
  refine v_iload_n C dX7_comes_57 rfl 1 rfl ?_
  refine v_iload_n C dX7_comes_58 rfl 2 rfl ?_
  refine k_X7_has C a1 a2  h mM_X7_43 ⟨Nat.le_of_ble_eq_true rfl, Nat.le_of_ble_eq_true rfl⟩ (Nat.le_of_ble_eq_true rfl) dX7_comes_59 (fun r14 σ13 h => ?_)
  refine v_if_eq C (tgt := 84) dX7_comes_62 (by decide) (fun hc => ?_) (fun hc => ?_)
  · replace h := h.1 hc
    refine v_aload_n C dX7_comes_84 rfl 0 rfl ?_
    refine v_iload_n C dX7_comes_85 rfl 1 rfl ?_
    refine k_X7_counters C a1  h mM_X7_65 ⟨Nat.le_of_ble_eq_true rfl, Nat.le_of_ble_eq_true rfl⟩ (Nat.le_of_ble_eq_true rfl) dX7_comes_86 (fun r16 σ15 h => ?_)
    refine v_aload_n C dX7_comes_89 rfl 0 rfl ?_
    refine v_iload_n C dX7_comes_90 rfl 1 rfl ?_
    refine v_iconst C (v := 0) dX7_comes_91 rfl ?_
    refine k_X7_of C a1 0  h mM_X7_47 ⟨Nat.le_of_ble_eq_true rfl, Nat.le_of_ble_eq_true rfl⟩ (Nat.le_of_ble_eq_true rfl) dX7_comes_92 (fun r18 σ17 h => ?_)
    refine v_icmp_ne C (tgt := 103) dX7_comes_95 (by decide) (fun hc => ?_) (fun hc => ?_)
    · replace h := h.2 hc
      refine v_sub [0, 1, 2, 3] rfl ?_
      exact b_X7_comes_103 C hret hlk a1 a2 a3  K    _  h
    · replace h := h.1 hc
      refine v_aload_n C dX7_comes_98 rfl 0 rfl ?_
      refine v_iload_n C dX7_comes_99 rfl 1 rfl ?_
      refine k_X7_evicts C a1  h mM_X7_68 ⟨Nat.le_of_ble_eq_true rfl, Nat.le_of_ble_eq_true rfl⟩ (Nat.le_of_ble_eq_true rfl) dX7_comes_100 (fun σ28 h => ?_)
      refine v_sub [0, 1, 2, 3] rfl ?_
      exact b_X7_comes_103 C hret hlk a1 a2 a3  K    _  h
  · replace h := h.2 hc
    refine v_aload_n C dX7_comes_65 rfl 0 rfl ?_
    refine v_iload_n C dX7_comes_66 rfl 1 rfl ?_
    refine v_iload_n C dX7_comes_67 rfl 2 rfl ?_
    refine v_iconst C (v := 1) dX7_comes_68 rfl ?_
    refine v_aload_n C dX7_comes_69 rfl 0 rfl ?_
    refine v_iload_n C dX7_comes_70 rfl 1 rfl ?_
    refine v_iload_n C dX7_comes_71 rfl 2 rfl ?_
    refine v_iconst C (v := 1) dX7_comes_72 rfl ?_
    refine k_X7_its C a1 a2 1  h mM_X7_31 ⟨Nat.le_of_ble_eq_true rfl, Nat.le_of_ble_eq_true rfl⟩ (Nat.le_of_ble_eq_true rfl) dX7_comes_73 (fun r30 σ29 h => ?_)
    refine v_iload_n C dX7_comes_76 rfl 3 rfl ?_
    refine v_iadd C dX7_comes_77 ?_
    refine k_X7_gives C a1 a2 1 (r30 + a3)  h mM_X7_51 ⟨Nat.le_of_ble_eq_true rfl, Nat.le_of_ble_eq_true rfl⟩ (Nat.le_of_ble_eq_true rfl) dX7_comes_78 (fun σ31 h => ?_)
    refine v_goto C (tgt := 139) dX7_comes_81 (by decide) ?_
    refine v_aload_n C dX7_comes_139 rfl 0 rfl ?_
    refine v_iload_n C dX7_comes_140 rfl 1 rfl ?_
    refine v_iload_n C dX7_comes_141 rfl 2 rfl ?_
    refine v_iconst C (v := 3) dX7_comes_142 rfl ?_
    refine v_aload_n C dX7_comes_143 rfl 0 rfl ?_
    refine g_7_now C kdn_306 mF_X7_7 dX7_comes_144 ?_
    refine v_sipush C (v := 1072) dX7_comes_147 rfl ?_
    obtain ⟨hi32, h⟩ := h
    refine v_iald C (c0 := 24) (by decide) rfl kdn_307 hi32 dX7_comes_150 ?_
    refine k_X7_gives C a1 a2 3 (σ31 307 (ix 1072))  h mM_X7_51 ⟨Nat.le_of_ble_eq_true rfl, Nat.le_of_ble_eq_true rfl⟩ (Nat.le_of_ble_eq_true rfl) dX7_comes_151 (fun σ33 h => ?_)
    exact v_vret C dX7_comes_154 hret hlk h
theorem hd_X7_comes : yX7_comes.cls ≠ "java/lang/invoke/MethodHandle" ∧ yX7_comes.cls ≠ "java/lang/invoke/VarHandle" ∧ (parseMethodDescriptor yX7_comes.desc).map (fun d => d.parameters.length) = some 3 := by decide +kernel
theorem k_X7_comes {p : Program} {l : Launch} {e : Env} {R : Room} {s : State} {m : MethodId} {args : Array Value} {below : List Frame} {meth : Method} {c : Code} {nL cells slots : Nat} {Q : State → Prop} {A : Nat → Prop} {L : Ly} {own : String} {cc : ByteArray} {σ : Mem} {pc idx : Nat} {lv : List (Nat × Value)} {st : List Value} {K : Mem → Prop} (C : Cx p R s m args meth c own cc nL cells slots A L) (a1 : Int32) (a2 : Int32) (a3 : Int32)  (h : w_X7_comes a1 a2 a3 σ K) (hml : Cond.methodLink own idx yX7_comes ∈ wA) (hR : rm_X7_comes.frames + 1 ≤ R.frames ∧ 8 + (4 + 11) + rm_X7_comes.locals ≤ R.locals) (hsum : (st.map fun v => v.category).sum ≤ 8) (d : decode cc pc = .ok (.invokevirtual idx, 3)) (kk : ∀ σ1, K σ1 → V p l e R s m args below meth c nL cells slots Q A L σ1 (pc + 3) lv st) : V p l e R s m args below meth c nL cells slots Q A L σ pc lv (.int a3 :: .int a2 :: .int a1 :: .ref (lad L 306) :: st) := v_callVv C [.int a1, .int a2, .int a3] (fun sz => c_X7_comes l L a1 a2 a3 σ _  h sz) mC_X7_comes mZ_X7 hd_X7_comes mI_X7_comes mS_X7_comes rfl rfl (c0 := 7) (ci := 7) (by decide) rfl rfl rfl kdn_306 hml hR rfl hsum d kk
-- ===== RX7.empties
abbrev rm_X7_empties : Room := { frames := 2, cells := 0, slots := 0, locals := 43 }
def w_X7_empties_2 (a1 : Int32) (K : Mem → Prop)  : Nat → Int32 → Mem → Prop
  | 0, _, _ => False
  | n + 1, x2, σ => (br (134 ≤ x2) (K σ) (w_X7_puts a1 x2 0 σ (fun σ1 => (w_X7_empties_2 a1 K  n (x2 + 1) σ1))))
set_option maxHeartbeats 4000000 in
set_option maxRecDepth 100000 in
theorem b_X7_empties_2 {p : Program} {l : Launch} {e : Env} {s : State} {m : MethodId} {args : Array Value} {below : List Frame} {meth : Method} {c : Code} {L : Ly} {sz : Nat} (C : Cx p rm_X7_empties s m args meth c RX7 cX7_empties 3 0 0 (mA L sz) L) (hret : meth.sig.returnType = none) (hlk : meth.locks = false) (a1 : Int32)  (K : Mem → Prop)  : ∀ (n : Nat) (x2 : Int32) (σ : Mem), w_X7_empties_2 a1 K  n x2 σ → V p l e rm_X7_empties s m args below meth c 3 0 0 (MQ below (va_Qv K (mE L) (mA L sz)) args s 0 0 (mA L sz)) (mA L sz) L σ 2 [(0, .ref (lad L 306)), (1, .int a1), (2, .int x2)] [] := by
  intro n
  induction n with
  | zero => intro x2 σ  h; exact h.elim
  | succ n ih =>
    intro x2 σ  h
    rw [w_X7_empties_2] at h
    refine v_iload_n C dX7_empties_2 rfl 2 rfl ?_
    refine v_sipush C (v := 134) dX7_empties_3 rfl ?_
    refine v_icmp_ge C (tgt := 22) dX7_empties_6 (by decide) (fun hc => ?_) (fun hc => ?_)
    · replace h := h.1 hc
      exact v_vret C dX7_empties_22 hret hlk h
    · replace h := h.2 hc
      refine v_aload_n C dX7_empties_9 rfl 0 rfl ?_
      refine v_iload_n C dX7_empties_10 rfl 1 rfl ?_
      refine v_iload_n C dX7_empties_11 rfl 2 rfl ?_
      refine v_iconst C (v := 0) dX7_empties_12 rfl ?_
      refine k_X7_puts C a1 x2 0  h mM_X7_23 ⟨Nat.le_of_ble_eq_true rfl, Nat.le_of_ble_eq_true rfl⟩ (Nat.le_of_ble_eq_true rfl) dX7_empties_13 (fun σ1 h => ?_)
      refine v_iinc C [(2, .int (x2 + 1)), (0, .ref (lad L 306)), (1, .int a1)] dX7_empties_16 2 rfl rfl (by decide) rfl ?_
      refine v_goto C (tgt := 2) dX7_empties_19 (by decide) ?_
      refine v_sub [1, 2, 0] rfl ?_
      exact ih _ _  h
def w_X7_empties (a1 : Int32) (σ : Mem) (K : Mem → Prop) : Prop := (∃ n2, w_X7_empties_2 a1 K  n2 1 σ)
set_option maxHeartbeats 4000000 in
set_option maxRecDepth 100000 in
theorem c_X7_empties (l : Launch) (L : Ly) (a1 : Int32) (σ : Mem) (K : Mem → Prop)  (h : w_X7_empties a1 σ K) (sz : Nat) : Met l yX7_empties (.code yX7_empties cX7_empties 3 none :: wA) rm_X7_empties (va_Pc [.ref (lad L 306), .int a1] (mB L sz σ)) (va_Qv K (mE L) (mA L sz)) 0 0 (mA L sz) := by
  refine v_start (own := RX7) [(0, .ref (lad L 306)), (1, .int a1)] (by decide) rfl (Nat.le_of_ble_eq_true rfl) rfl (fun p e s m args below meth c C hret hlk => ?_)
  unfold w_X7_empties at h
  refine v_iconst C (v := 1) dX7_empties_0 rfl ?_
  refine v_istore_n C [(2, .int 1), (0, .ref (lad L 306)), (1, .int a1)] dX7_empties_1 rfl (by decide) rfl ?_
  obtain ⟨n2, h⟩ := h
  refine v_sub [1, 2, 0] rfl ?_
  exact b_X7_empties_2 C hret hlk a1  K   n2 _ _  h
theorem hd_X7_empties : yX7_empties.cls ≠ "java/lang/invoke/MethodHandle" ∧ yX7_empties.cls ≠ "java/lang/invoke/VarHandle" ∧ (parseMethodDescriptor yX7_empties.desc).map (fun d => d.parameters.length) = some 1 := by decide +kernel
theorem k_X7_empties {p : Program} {l : Launch} {e : Env} {R : Room} {s : State} {m : MethodId} {args : Array Value} {below : List Frame} {meth : Method} {c : Code} {nL cells slots : Nat} {Q : State → Prop} {A : Nat → Prop} {L : Ly} {own : String} {cc : ByteArray} {σ : Mem} {pc idx : Nat} {lv : List (Nat × Value)} {st : List Value} {K : Mem → Prop} (C : Cx p R s m args meth c own cc nL cells slots A L) (a1 : Int32)  (h : w_X7_empties a1 σ K) (hml : Cond.methodLink own idx yX7_empties ∈ wA) (hR : rm_X7_empties.frames + 1 ≤ R.frames ∧ 8 + (3 + 11) + rm_X7_empties.locals ≤ R.locals) (hsum : (st.map fun v => v.category).sum ≤ 8) (d : decode cc pc = .ok (.invokevirtual idx, 3)) (kk : ∀ σ1, K σ1 → V p l e R s m args below meth c nL cells slots Q A L σ1 (pc + 3) lv st) : V p l e R s m args below meth c nL cells slots Q A L σ pc lv (.int a1 :: .ref (lad L 306) :: st) := v_callVv C [.int a1] (fun sz => c_X7_empties l L a1 σ _  h sz) mC_X7_empties mZ_X7 hd_X7_empties mI_X7_empties mS_X7_empties rfl rfl (c0 := 7) (ci := 7) (by decide) rfl rfl rfl kdn_306 hml hR rfl hsum d kk
-- ===== RX7.copies
abbrev rm_X7_copies : Room := { frames := 2, cells := 0, slots := 0, locals := 43 }
def w_X7_copies_2 (a1 : Int32) (a2 : Int32) (K : Mem → Prop)  : Nat → Int32 → Mem → Prop
  | 0, _, _ => False
  | n + 1, x3, σ => (br (134 ≤ x3) (K σ) (w_X7_of a1 x3 σ (fun r2 σ1 => (w_X7_puts a2 x3 r2 σ1 (fun σ3 => (w_X7_copies_2 a1 a2 K  n (x3 + 1) σ3))))))
set_option maxHeartbeats 4000000 in
set_option maxRecDepth 100000 in
theorem b_X7_copies_2 {p : Program} {l : Launch} {e : Env} {s : State} {m : MethodId} {args : Array Value} {below : List Frame} {meth : Method} {c : Code} {L : Ly} {sz : Nat} (C : Cx p rm_X7_copies s m args meth c RX7 cX7_copies 4 0 0 (mA L sz) L) (hret : meth.sig.returnType = none) (hlk : meth.locks = false) (a1 : Int32) (a2 : Int32)  (K : Mem → Prop)  : ∀ (n : Nat) (x3 : Int32) (σ : Mem), w_X7_copies_2 a1 a2 K  n x3 σ → V p l e rm_X7_copies s m args below meth c 4 0 0 (MQ below (va_Qv K (mE L) (mA L sz)) args s 0 0 (mA L sz)) (mA L sz) L σ 2 [(0, .ref (lad L 306)), (1, .int a1), (2, .int a2), (3, .int x3)] [] := by
  intro n
  induction n with
  | zero => intro x3 σ  h; exact h.elim
  | succ n ih =>
    intro x3 σ  h
    rw [w_X7_copies_2] at h
    refine v_iload_n C dX7_copies_2 rfl 3 rfl ?_
    refine v_sipush C (v := 134) dX7_copies_3 rfl ?_
    refine v_icmp_ge C (tgt := 27) dX7_copies_6 (by decide) (fun hc => ?_) (fun hc => ?_)
    · replace h := h.1 hc
      exact v_vret C dX7_copies_27 hret hlk h
    · replace h := h.2 hc
      refine v_aload_n C dX7_copies_9 rfl 0 rfl ?_
      refine v_iload_n C dX7_copies_10 rfl 2 rfl ?_
      refine v_iload_n C dX7_copies_11 rfl 3 rfl ?_
      refine v_aload_n C dX7_copies_12 rfl 0 rfl ?_
      refine v_iload_n C dX7_copies_13 rfl 1 rfl ?_
      refine v_iload_n C dX7_copies_14 rfl 3 rfl ?_
      refine k_X7_of C a1 x3  h mM_X7_47 ⟨Nat.le_of_ble_eq_true rfl, Nat.le_of_ble_eq_true rfl⟩ (Nat.le_of_ble_eq_true rfl) dX7_copies_15 (fun r2 σ1 h => ?_)
      refine k_X7_puts C a2 x3 r2  h mM_X7_23 ⟨Nat.le_of_ble_eq_true rfl, Nat.le_of_ble_eq_true rfl⟩ (Nat.le_of_ble_eq_true rfl) dX7_copies_18 (fun σ3 h => ?_)
      refine v_iinc C [(3, .int (x3 + 1)), (0, .ref (lad L 306)), (1, .int a1), (2, .int a2)] dX7_copies_21 3 rfl rfl (by decide) rfl ?_
      refine v_goto C (tgt := 2) dX7_copies_24 (by decide) ?_
      refine v_sub [1, 2, 3, 0] rfl ?_
      exact ih _ _  h
def w_X7_copies (a1 : Int32) (a2 : Int32) (σ : Mem) (K : Mem → Prop) : Prop := (∃ n4, w_X7_copies_2 a1 a2 K  n4 0 σ)
set_option maxHeartbeats 4000000 in
set_option maxRecDepth 100000 in
theorem c_X7_copies (l : Launch) (L : Ly) (a1 : Int32) (a2 : Int32) (σ : Mem) (K : Mem → Prop)  (h : w_X7_copies a1 a2 σ K) (sz : Nat) : Met l yX7_copies (.code yX7_copies cX7_copies 4 none :: wA) rm_X7_copies (va_Pc [.ref (lad L 306), .int a1, .int a2] (mB L sz σ)) (va_Qv K (mE L) (mA L sz)) 0 0 (mA L sz) := by
  refine v_start (own := RX7) [(0, .ref (lad L 306)), (1, .int a1), (2, .int a2)] (by decide) rfl (Nat.le_of_ble_eq_true rfl) rfl (fun p e s m args below meth c C hret hlk => ?_)
  unfold w_X7_copies at h
  refine v_iconst C (v := 0) dX7_copies_0 rfl ?_
  refine v_istore_n C [(3, .int 0), (0, .ref (lad L 306)), (1, .int a1), (2, .int a2)] dX7_copies_1 rfl (by decide) rfl ?_
  obtain ⟨n4, h⟩ := h
  refine v_sub [1, 2, 3, 0] rfl ?_
  exact b_X7_copies_2 C hret hlk a1 a2  K   n4 _ _  h
theorem hd_X7_copies : yX7_copies.cls ≠ "java/lang/invoke/MethodHandle" ∧ yX7_copies.cls ≠ "java/lang/invoke/VarHandle" ∧ (parseMethodDescriptor yX7_copies.desc).map (fun d => d.parameters.length) = some 2 := by decide +kernel
theorem k_X7_copies {p : Program} {l : Launch} {e : Env} {R : Room} {s : State} {m : MethodId} {args : Array Value} {below : List Frame} {meth : Method} {c : Code} {nL cells slots : Nat} {Q : State → Prop} {A : Nat → Prop} {L : Ly} {own : String} {cc : ByteArray} {σ : Mem} {pc idx : Nat} {lv : List (Nat × Value)} {st : List Value} {K : Mem → Prop} (C : Cx p R s m args meth c own cc nL cells slots A L) (a1 : Int32) (a2 : Int32)  (h : w_X7_copies a1 a2 σ K) (hml : Cond.methodLink own idx yX7_copies ∈ wA) (hR : rm_X7_copies.frames + 1 ≤ R.frames ∧ 8 + (4 + 11) + rm_X7_copies.locals ≤ R.locals) (hsum : (st.map fun v => v.category).sum ≤ 8) (d : decode cc pc = .ok (.invokevirtual idx, 3)) (kk : ∀ σ1, K σ1 → V p l e R s m args below meth c nL cells slots Q A L σ1 (pc + 3) lv st) : V p l e R s m args below meth c nL cells slots Q A L σ pc lv (.int a2 :: .int a1 :: .ref (lad L 306) :: st) := v_callVv C [.int a1, .int a2] (fun sz => c_X7_copies l L a1 a2 σ _  h sz) mC_X7_copies mZ_X7 hd_X7_copies mI_X7_copies mS_X7_copies rfl rfl (c0 := 7) (ci := 7) (by decide) rfl rfl rfl kdn_306 hml hR rfl hsum d kk
-- ===== RX7.joins
abbrev rm_X7_joins : Room := { frames := 3, cells := 0, slots := 0, locals := 67 }
def w_X7_joins_258 (a1 : Int32) (a2 : Int32) (K : Int32 → Mem → Prop) (A237 : Int32 → Mem → Prop) : Nat → Int32 → Int32 → Int32 → Mem → Prop
  | 0, _, _, _, _ => False
  | n + 1, x3, x4, x5, σ => (br (26 ≤ x5) (w_X7_drops a1 x4 σ (fun σ15 => (A237 (x3 + 1) σ15))) (w_X7_has a1 x5 σ (fun r17 σ16 => (br (r17 = 0) (w_X7_joins_258 a1 a2 K A237 n x3 x4 (x5 + 1) σ16) (br (x4 = (-5)) (w_X7_joins_258 a1 a2 K A237 n x3 x5 (x5 + 1) σ16) (w_X7_its a1 x5 1 σ16 (fun r19 σ18 => (w_X7_its a1 x4 1 σ18 (fun r21 σ20 => (br (r21 < r19) (w_X7_joins_258 a1 a2 K A237 n x3 x4 (x5 + 1) σ20) (w_X7_joins_258 a1 a2 K A237 n x3 x5 (x5 + 1) σ20)))))))))))
set_option maxHeartbeats 4000000 in
set_option maxRecDepth 100000 in
theorem b_X7_joins_258 {p : Program} {l : Launch} {e : Env} {s : State} {m : MethodId} {args : Array Value} {below : List Frame} {meth : Method} {c : Code} {L : Ly} {sz : Nat} (C : Cx p rm_X7_joins s m args meth c RX7 cX7_joins 8 0 0 (mA L sz) L) (hret : meth.sig.returnType = (some .int)) (hlk : meth.locks = false) (a1 : Int32) (a2 : Int32)  (K : Int32 → Mem → Prop) (A237 : Int32 → Mem → Prop) (hA237 : ∀ (x3 : Int32) (σ : Mem), A237 x3 σ → V p l e rm_X7_joins s m args below meth c 8 0 0 (MQ below (va_Qi K (mE L) (mA L sz)) args s 0 0 (mA L sz)) (mA L sz) L σ 237 [(0, .ref (lad L 306)), (1, .int a1), (2, .int a2), (3, .int x3)] []) : ∀ (n : Nat) (x3 : Int32) (x4 : Int32) (x5 : Int32) (σ : Mem), w_X7_joins_258 a1 a2 K A237 n x3 x4 x5 σ → V p l e rm_X7_joins s m args below meth c 8 0 0 (MQ below (va_Qi K (mE L) (mA L sz)) args s 0 0 (mA L sz)) (mA L sz) L σ 258 [(0, .ref (lad L 306)), (1, .int a1), (2, .int a2), (3, .int x3), (4, .int x4), (5, .int x5)] [] := by
  intro n
  induction n with
  | zero => intro x3 x4 x5 σ  h; exact h.elim
  | succ n ih =>
    intro x3 x4 x5 σ  h
    rw [w_X7_joins_258] at h
    refine v_iload C dX7_joins_258 5 rfl ?_
    refine v_bipush C (v := 26) dX7_joins_260 rfl ?_
    refine v_icmp_ge C (tgt := 311) dX7_joins_262 (by decide) (fun hc => ?_) (fun hc => ?_)
    · replace h := h.1 hc
      refine v_aload_n C dX7_joins_311 rfl 0 rfl ?_
      refine v_iload_n C dX7_joins_312 rfl 1 rfl ?_
      refine v_iload C dX7_joins_313 4 rfl ?_
      refine k_X7_drops C a1 x4  h mM_X7_58 ⟨Nat.le_of_ble_eq_true rfl, Nat.le_of_ble_eq_true rfl⟩ (Nat.le_of_ble_eq_true rfl) dX7_joins_315 (fun σ15 h => ?_)
      refine v_iinc C [(3, .int (x3 + 1)), (0, .ref (lad L 306)), (1, .int a1), (2, .int a2), (4, .int x4), (5, .int x5)] dX7_joins_318 3 rfl rfl (by decide) rfl ?_
      refine v_goto C (tgt := 237) dX7_joins_321 (by decide) ?_
      refine v_sub [1, 2, 3, 0] rfl ?_
      exact hA237 _ _  h
    · replace h := h.2 hc
      refine v_aload_n C dX7_joins_265 rfl 0 rfl ?_
      refine v_iload_n C dX7_joins_266 rfl 1 rfl ?_
      refine v_iload C dX7_joins_267 5 rfl ?_
      refine k_X7_has C a1 x5  h mM_X7_43 ⟨Nat.le_of_ble_eq_true rfl, Nat.le_of_ble_eq_true rfl⟩ (Nat.le_of_ble_eq_true rfl) dX7_joins_269 (fun r17 σ16 h => ?_)
      refine v_if_eq C (tgt := 305) dX7_joins_272 (by decide) (fun hc => ?_) (fun hc => ?_)
      · replace h := h.1 hc
        refine v_iinc C [(5, .int (x5 + 1)), (0, .ref (lad L 306)), (1, .int a1), (2, .int a2), (3, .int x3), (4, .int x4)] dX7_joins_305 5 rfl rfl (by decide) rfl ?_
        refine v_goto C (tgt := 258) dX7_joins_308 (by decide) ?_
        refine v_sub [1, 2, 3, 4, 5, 0] rfl ?_
        exact ih _ _ _ _  h
      · replace h := h.2 hc
        refine v_iload C dX7_joins_275 4 rfl ?_
        refine v_bipush C (v := (-5)) dX7_joins_277 rfl ?_
        refine v_icmp_eq C (tgt := 301) dX7_joins_279 (by decide) (fun hc => ?_) (fun hc => ?_)
        · replace h := h.1 hc
          refine v_iload C dX7_joins_301 5 rfl ?_
          refine v_istore C [(4, .int x5), (0, .ref (lad L 306)), (1, .int a1), (2, .int a2), (3, .int x3), (5, .int x5)] dX7_joins_303 (by decide) rfl ?_
          refine v_iinc C [(5, .int (x5 + 1)), (4, .int x5), (0, .ref (lad L 306)), (1, .int a1), (2, .int a2), (3, .int x3)] dX7_joins_305 5 rfl rfl (by decide) rfl ?_
          refine v_goto C (tgt := 258) dX7_joins_308 (by decide) ?_
          refine v_sub [2, 3, 4, 5, 1, 0] rfl ?_
          exact ih _ _ _ _  h
        · replace h := h.2 hc
          refine v_aload_n C dX7_joins_282 rfl 0 rfl ?_
          refine v_iload_n C dX7_joins_283 rfl 1 rfl ?_
          refine v_iload C dX7_joins_284 5 rfl ?_
          refine v_iconst C (v := 1) dX7_joins_286 rfl ?_
          refine k_X7_its C a1 x5 1  h mM_X7_31 ⟨Nat.le_of_ble_eq_true rfl, Nat.le_of_ble_eq_true rfl⟩ (Nat.le_of_ble_eq_true rfl) dX7_joins_287 (fun r19 σ18 h => ?_)
          refine v_aload_n C dX7_joins_290 rfl 0 rfl ?_
          refine v_iload_n C dX7_joins_291 rfl 1 rfl ?_
          refine v_iload C dX7_joins_292 4 rfl ?_
          refine v_iconst C (v := 1) dX7_joins_294 rfl ?_
          refine k_X7_its C a1 x4 1  h mM_X7_31 ⟨Nat.le_of_ble_eq_true rfl, Nat.le_of_ble_eq_true rfl⟩ (Nat.le_of_ble_eq_true rfl) dX7_joins_295 (fun r21 σ20 h => ?_)
          refine v_icmp_gt C (tgt := 305) dX7_joins_298 (by decide) (fun hc => ?_) (fun hc => ?_)
          · replace h := h.1 hc
            refine v_iinc C [(5, .int (x5 + 1)), (0, .ref (lad L 306)), (1, .int a1), (2, .int a2), (3, .int x3), (4, .int x4)] dX7_joins_305 5 rfl rfl (by decide) rfl ?_
            refine v_goto C (tgt := 258) dX7_joins_308 (by decide) ?_
            refine v_sub [1, 2, 3, 4, 5, 0] rfl ?_
            exact ih _ _ _ _  h
          · replace h := h.2 hc
            refine v_iload C dX7_joins_301 5 rfl ?_
            refine v_istore C [(4, .int x5), (0, .ref (lad L 306)), (1, .int a1), (2, .int a2), (3, .int x3), (5, .int x5)] dX7_joins_303 (by decide) rfl ?_
            refine v_iinc C [(5, .int (x5 + 1)), (4, .int x5), (0, .ref (lad L 306)), (1, .int a1), (2, .int a2), (3, .int x3)] dX7_joins_305 5 rfl rfl (by decide) rfl ?_
            refine v_goto C (tgt := 258) dX7_joins_308 (by decide) ?_
            refine v_sub [2, 3, 4, 5, 1, 0] rfl ?_
            exact ih _ _ _ _  h
def w_X7_joins_237 (a1 : Int32) (a2 : Int32) (K : Int32 → Mem → Prop)  : Nat → Int32 → Mem → Prop
  | 0, _, _ => False
  | n + 1, x3, σ => (w_X7_counters a1 σ (fun r12 σ11 => (w_X7_of a1 0 σ11 (fun r14 σ13 => (br (r12 ≤ r14) (K x3 σ13) (∃ n22, w_X7_joins_258 a1 a2 K (w_X7_joins_237 a1 a2 K  n) n22 x3 (-5) 0 σ13))))))
set_option maxHeartbeats 4000000 in
set_option maxRecDepth 100000 in
theorem b_X7_joins_237 {p : Program} {l : Launch} {e : Env} {s : State} {m : MethodId} {args : Array Value} {below : List Frame} {meth : Method} {c : Code} {L : Ly} {sz : Nat} (C : Cx p rm_X7_joins s m args meth c RX7 cX7_joins 8 0 0 (mA L sz) L) (hret : meth.sig.returnType = (some .int)) (hlk : meth.locks = false) (a1 : Int32) (a2 : Int32)  (K : Int32 → Mem → Prop)  : ∀ (n : Nat) (x3 : Int32) (σ : Mem), w_X7_joins_237 a1 a2 K  n x3 σ → V p l e rm_X7_joins s m args below meth c 8 0 0 (MQ below (va_Qi K (mE L) (mA L sz)) args s 0 0 (mA L sz)) (mA L sz) L σ 237 [(0, .ref (lad L 306)), (1, .int a1), (2, .int a2), (3, .int x3)] [] := by
  intro n
  induction n with
  | zero => intro x3 σ  h; exact h.elim
  | succ n ih =>
    intro x3 σ  h
    rw [w_X7_joins_237] at h
    refine v_aload_n C dX7_joins_237 rfl 0 rfl ?_
    refine v_iload_n C dX7_joins_238 rfl 1 rfl ?_
    refine k_X7_counters C a1  h mM_X7_65 ⟨Nat.le_of_ble_eq_true rfl, Nat.le_of_ble_eq_true rfl⟩ (Nat.le_of_ble_eq_true rfl) dX7_joins_239 (fun r12 σ11 h => ?_)
    refine v_aload_n C dX7_joins_242 rfl 0 rfl ?_
    refine v_iload_n C dX7_joins_243 rfl 1 rfl ?_
    refine v_iconst C (v := 0) dX7_joins_244 rfl ?_
    refine k_X7_of C a1 0  h mM_X7_47 ⟨Nat.le_of_ble_eq_true rfl, Nat.le_of_ble_eq_true rfl⟩ (Nat.le_of_ble_eq_true rfl) dX7_joins_245 (fun r14 σ13 h => ?_)
    refine v_icmp_le C (tgt := 324) dX7_joins_248 (by decide) (fun hc => ?_) (fun hc => ?_)
    · replace h := h.1 hc
      refine v_iload_n C dX7_joins_324 rfl 3 rfl ?_
      exact v_iret C dX7_joins_325 hret hlk h
    · replace h := h.2 hc
      refine v_bipush C (v := (-5)) dX7_joins_251 rfl ?_
      refine v_istore C [(4, .int (-5)), (0, .ref (lad L 306)), (1, .int a1), (2, .int a2), (3, .int x3)] dX7_joins_253 (by decide) rfl ?_
      refine v_iconst C (v := 0) dX7_joins_255 rfl ?_
      refine v_istore C [(5, .int 0), (4, .int (-5)), (0, .ref (lad L 306)), (1, .int a1), (2, .int a2), (3, .int x3)] dX7_joins_256 (by decide) rfl ?_
      obtain ⟨n22, h⟩ := h
      refine v_sub [2, 3, 4, 5, 1, 0] rfl ?_
      exact b_X7_joins_258 C hret hlk a1 a2  K _ ih n22 _ _ _ _  h
def w_X7_joins_133 (a1 : Int32) (a2 : Int32) (K : Int32 → Mem → Prop) (A2 : Int32 → Mem → Prop) (x3 : Int32) (x6 : Int32) (x7 : Int32) (s0 : Int32) (s1 : Int32) (s2 : Int32) (s3 : Int32) (σ : Mem) : Prop := (w_X7_gives s3 s2 s1 s0 σ (fun σ38 => (w_X7_gives a1 x3 1 x6 σ38 (fun σ39 => (w_X7_gives a1 x3 2 x7 σ39 (fun σ40 => (vp_in 1072 1244 ∧ (w_X7_gives a1 x3 3 (σ40 307 (ix 1072)) σ40 (fun σ42 => (w_X7_its a1 x3 4 σ42 (fun r44 σ43 => (w_X7_its a2 x3 4 σ43 (fun r46 σ45 => (w_X7_gives a1 x3 4 (r44 + r46) σ45 (fun σ47 => (A2 (x3 + 1) σ47))))))))))))))))
set_option maxHeartbeats 4000000 in
set_option maxRecDepth 100000 in
theorem b_X7_joins_133 {p : Program} {l : Launch} {e : Env} {s : State} {m : MethodId} {args : Array Value} {below : List Frame} {meth : Method} {c : Code} {L : Ly} {sz : Nat} (C : Cx p rm_X7_joins s m args meth c RX7 cX7_joins 8 0 0 (mA L sz) L) (hret : meth.sig.returnType = (some .int)) (hlk : meth.locks = false) (a1 : Int32) (a2 : Int32)  (K : Int32 → Mem → Prop) (A2 : Int32 → Mem → Prop) (hA2 : ∀ (x3 : Int32) (σ : Mem), A2 x3 σ → V p l e rm_X7_joins s m args below meth c 8 0 0 (MQ below (va_Qi K (mE L) (mA L sz)) args s 0 0 (mA L sz)) (mA L sz) L σ 2 [(0, .ref (lad L 306)), (1, .int a1), (2, .int a2), (3, .int x3)] []) (x3 : Int32) (x6 : Int32) (x7 : Int32) (s0 : Int32) (s1 : Int32) (s2 : Int32) (s3 : Int32) (σ : Mem)  (h : w_X7_joins_133 a1 a2 K A2 x3 x6 x7 s0 s1 s2 s3 σ) : V p l e rm_X7_joins s m args below meth c 8 0 0 (MQ below (va_Qi K (mE L) (mA L sz)) args s 0 0 (mA L sz)) (mA L sz) L σ 133 [(0, .ref (lad L 306)), (1, .int a1), (2, .int a2), (3, .int x3), (6, .int x6), (7, .int x7)] [.int s0, .int s1, .int s2, .int s3, .ref (lad L 306)] := by
  unfold w_X7_joins_133 at h
  refine k_X7_gives C s3 s2 s1 s0  h mM_X7_51 ⟨Nat.le_of_ble_eq_true rfl, Nat.le_of_ble_eq_true rfl⟩ (Nat.le_of_ble_eq_true rfl) dX7_joins_133 (fun σ38 h => ?_)
  refine v_aload_n C dX7_joins_136 rfl 0 rfl ?_
  refine v_iload_n C dX7_joins_137 rfl 1 rfl ?_
  refine v_iload_n C dX7_joins_138 rfl 3 rfl ?_
  refine v_iconst C (v := 1) dX7_joins_139 rfl ?_
  refine v_iload C dX7_joins_140 4 rfl ?_
  refine k_X7_gives C a1 x3 1 x6  h mM_X7_51 ⟨Nat.le_of_ble_eq_true rfl, Nat.le_of_ble_eq_true rfl⟩ (Nat.le_of_ble_eq_true rfl) dX7_joins_142 (fun σ39 h => ?_)
  refine v_aload_n C dX7_joins_145 rfl 0 rfl ?_
  refine v_iload_n C dX7_joins_146 rfl 1 rfl ?_
  refine v_iload_n C dX7_joins_147 rfl 3 rfl ?_
  refine v_iconst C (v := 2) dX7_joins_148 rfl ?_
  refine v_iload C dX7_joins_149 5 rfl ?_
  refine k_X7_gives C a1 x3 2 x7  h mM_X7_51 ⟨Nat.le_of_ble_eq_true rfl, Nat.le_of_ble_eq_true rfl⟩ (Nat.le_of_ble_eq_true rfl) dX7_joins_151 (fun σ40 h => ?_)
  refine v_aload_n C dX7_joins_154 rfl 0 rfl ?_
  refine v_iload_n C dX7_joins_155 rfl 1 rfl ?_
  refine v_iload_n C dX7_joins_156 rfl 3 rfl ?_
  refine v_iconst C (v := 3) dX7_joins_157 rfl ?_
  refine v_aload_n C dX7_joins_158 rfl 0 rfl ?_
  refine g_7_now C kdn_306 mF_X7_7 dX7_joins_159 ?_
  refine v_sipush C (v := 1072) dX7_joins_162 rfl ?_
  obtain ⟨hi41, h⟩ := h
  refine v_iald C (c0 := 24) (by decide) rfl kdn_307 hi41 dX7_joins_165 ?_
  refine k_X7_gives C a1 x3 3 (σ40 307 (ix 1072))  h mM_X7_51 ⟨Nat.le_of_ble_eq_true rfl, Nat.le_of_ble_eq_true rfl⟩ (Nat.le_of_ble_eq_true rfl) dX7_joins_166 (fun σ42 h => ?_)
  refine v_aload_n C dX7_joins_169 rfl 0 rfl ?_
  refine v_iload_n C dX7_joins_170 rfl 1 rfl ?_
  refine v_iload_n C dX7_joins_171 rfl 3 rfl ?_
  refine v_iconst C (v := 4) dX7_joins_172 rfl ?_
  refine v_aload_n C dX7_joins_173 rfl 0 rfl ?_
  refine v_iload_n C dX7_joins_174 rfl 1 rfl ?_
  refine v_iload_n C dX7_joins_175 rfl 3 rfl ?_
  refine v_iconst C (v := 4) dX7_joins_176 rfl ?_
  refine k_X7_its C a1 x3 4  h mM_X7_31 ⟨Nat.le_of_ble_eq_true rfl, Nat.le_of_ble_eq_true rfl⟩ (Nat.le_of_ble_eq_true rfl) dX7_joins_177 (fun r44 σ43 h => ?_)
  refine v_aload_n C dX7_joins_180 rfl 0 rfl ?_
  refine v_iload_n C dX7_joins_181 rfl 2 rfl ?_
  refine v_iload_n C dX7_joins_182 rfl 3 rfl ?_
  refine v_iconst C (v := 4) dX7_joins_183 rfl ?_
  refine k_X7_its C a2 x3 4  h mM_X7_31 ⟨Nat.le_of_ble_eq_true rfl, Nat.le_of_ble_eq_true rfl⟩ (Nat.le_of_ble_eq_true rfl) dX7_joins_184 (fun r46 σ45 h => ?_)
  refine v_iadd C dX7_joins_187 ?_
  refine k_X7_gives C a1 x3 4 (r44 + r46)  h mM_X7_51 ⟨Nat.le_of_ble_eq_true rfl, Nat.le_of_ble_eq_true rfl⟩ (Nat.le_of_ble_eq_true rfl) dX7_joins_188 (fun σ47 h => ?_)
  refine v_iinc C [(3, .int (x3 + 1)), (0, .ref (lad L 306)), (1, .int a1), (2, .int a2), (6, .int x6), (7, .int x7)] dX7_joins_191 3 rfl rfl (by decide) rfl ?_
  refine v_goto C (tgt := 2) dX7_joins_194 (by decide) ?_
  refine v_sub [1, 2, 3, 0] rfl ?_
  exact hA2 _ _  h
def w_X7_joins_111 (a1 : Int32) (a2 : Int32) (K : Int32 → Mem → Prop) (A2 : Int32 → Mem → Prop) (x3 : Int32) (x4 : Int32) (x5 : Int32) (x6 : Int32) (s0 : Int32) (s1 : Int32) (σ : Mem) : Prop := (∀ v37 : Int32, v37 = (s1 + s0) → (br (x4 = 0) (br (x5 = 0) (w_X7_joins_133 a1 a2 K A2 x3 x6 v37 0 0 x3 a1 σ) (w_X7_joins_133 a1 a2 K A2 x3 x6 v37 1 0 x3 a1 σ)) (w_X7_joins_133 a1 a2 K A2 x3 x6 v37 1 0 x3 a1 σ)))
set_option maxHeartbeats 4000000 in
set_option maxRecDepth 100000 in
theorem b_X7_joins_111 {p : Program} {l : Launch} {e : Env} {s : State} {m : MethodId} {args : Array Value} {below : List Frame} {meth : Method} {c : Code} {L : Ly} {sz : Nat} (C : Cx p rm_X7_joins s m args meth c RX7 cX7_joins 8 0 0 (mA L sz) L) (hret : meth.sig.returnType = (some .int)) (hlk : meth.locks = false) (a1 : Int32) (a2 : Int32)  (K : Int32 → Mem → Prop) (A2 : Int32 → Mem → Prop) (hA2 : ∀ (x3 : Int32) (σ : Mem), A2 x3 σ → V p l e rm_X7_joins s m args below meth c 8 0 0 (MQ below (va_Qi K (mE L) (mA L sz)) args s 0 0 (mA L sz)) (mA L sz) L σ 2 [(0, .ref (lad L 306)), (1, .int a1), (2, .int a2), (3, .int x3)] []) (x3 : Int32) (x4 : Int32) (x5 : Int32) (x6 : Int32) (s0 : Int32) (s1 : Int32) (σ : Mem)  (h : w_X7_joins_111 a1 a2 K A2 x3 x4 x5 x6 s0 s1 σ) : V p l e rm_X7_joins s m args below meth c 8 0 0 (MQ below (va_Qi K (mE L) (mA L sz)) args s 0 0 (mA L sz)) (mA L sz) L σ 111 [(0, .ref (lad L 306)), (1, .int a1), (2, .int a2), (3, .int x3), (4, .int x4), (5, .int x5), (6, .int x6)] [.int s0, .int s1] := by
  unfold w_X7_joins_111 at h
  refine v_iadd C dX7_joins_111 ?_
  refine v_nm (fun v37 ev37 => ?_)
  replace h := h v37 ev37
  refine v_istore C [(7, .int v37), (0, .ref (lad L 306)), (1, .int a1), (2, .int a2), (3, .int x3), (4, .int x4), (5, .int x5), (6, .int x6)] dX7_joins_112 (by decide) rfl ?_
  refine v_aload_n C dX7_joins_114 rfl 1 rfl ?_
  refine v_iload_n C dX7_joins_115 rfl 2 rfl ?_
  refine v_iload_n C dX7_joins_116 rfl 4 rfl ?_
  refine v_iconst C (v := 0) dX7_joins_117 rfl ?_
  refine v_iload C dX7_joins_118 5 rfl ?_
  refine v_if_ne C (tgt := 128) dX7_joins_120 (by decide) (fun hc => ?_) (fun hc => ?_)
  · replace h := h.2 hc
    refine v_iconst C (v := 1) dX7_joins_128 rfl ?_
    refine v_goto C (tgt := 133) dX7_joins_129 (by decide) ?_
    refine v_sub [1, 2, 3, 4, 7, 0] rfl ?_
    exact b_X7_joins_133 C hret hlk a1 a2  K _ hA2 _ _ _ _ _ _ _ _  h
  · replace h := h.1 hc
    refine v_iload C dX7_joins_123 6 rfl ?_
    refine v_if_eq C (tgt := 132) dX7_joins_125 (by decide) (fun hc => ?_) (fun hc => ?_)
    · replace h := h.1 hc
      refine v_iconst C (v := 0) dX7_joins_132 rfl ?_
      refine v_sub [1, 2, 3, 4, 7, 0] rfl ?_
      exact b_X7_joins_133 C hret hlk a1 a2  K _ hA2 _ _ _ _ _ _ _ _  h
    · replace h := h.2 hc
      refine v_iconst C (v := 1) dX7_joins_128 rfl ?_
      refine v_goto C (tgt := 133) dX7_joins_129 (by decide) ?_
      refine v_sub [1, 2, 3, 4, 7, 0] rfl ?_
      exact b_X7_joins_133 C hret hlk a1 a2  K _ hA2 _ _ _ _ _ _ _ _  h
def w_X7_joins_66 (a1 : Int32) (a2 : Int32) (K : Int32 → Mem → Prop) (A2 : Int32 → Mem → Prop) (x3 : Int32) (x4 : Int32) (x5 : Int32) (s0 : Int32) (s1 : Int32) (σ : Mem) : Prop := (∀ v32 : Int32, v32 = (s1 + s0) → (br (x4 = 0) (w_X7_of a1 1 σ (fun r34 σ33 => (br (x5 = 0) (w_X7_of a2 1 σ33 (fun r36 σ35 => (w_X7_joins_111 a1 a2 K A2 x3 x4 x5 v32 r36 r34 σ35))) (w_X7_its a2 x3 2 σ33 (fun r49 σ48 => (w_X7_joins_111 a1 a2 K A2 x3 x4 x5 v32 r49 r34 σ48)))))) (w_X7_its a1 x3 2 σ (fun r51 σ50 => (br (x5 = 0) (w_X7_of a2 1 σ50 (fun r53 σ52 => (w_X7_joins_111 a1 a2 K A2 x3 x4 x5 v32 r53 r51 σ52))) (w_X7_its a2 x3 2 σ50 (fun r55 σ54 => (w_X7_joins_111 a1 a2 K A2 x3 x4 x5 v32 r55 r51 σ54))))))))
set_option maxHeartbeats 4000000 in
set_option maxRecDepth 100000 in
theorem b_X7_joins_66 {p : Program} {l : Launch} {e : Env} {s : State} {m : MethodId} {args : Array Value} {below : List Frame} {meth : Method} {c : Code} {L : Ly} {sz : Nat} (C : Cx p rm_X7_joins s m args meth c RX7 cX7_joins 8 0 0 (mA L sz) L) (hret : meth.sig.returnType = (some .int)) (hlk : meth.locks = false) (a1 : Int32) (a2 : Int32)  (K : Int32 → Mem → Prop) (A2 : Int32 → Mem → Prop) (hA2 : ∀ (x3 : Int32) (σ : Mem), A2 x3 σ → V p l e rm_X7_joins s m args below meth c 8 0 0 (MQ below (va_Qi K (mE L) (mA L sz)) args s 0 0 (mA L sz)) (mA L sz) L σ 2 [(0, .ref (lad L 306)), (1, .int a1), (2, .int a2), (3, .int x3)] []) (x3 : Int32) (x4 : Int32) (x5 : Int32) (s0 : Int32) (s1 : Int32) (σ : Mem)  (h : w_X7_joins_66 a1 a2 K A2 x3 x4 x5 s0 s1 σ) : V p l e rm_X7_joins s m args below meth c 8 0 0 (MQ below (va_Qi K (mE L) (mA L sz)) args s 0 0 (mA L sz)) (mA L sz) L σ 66 [(0, .ref (lad L 306)), (1, .int a1), (2, .int a2), (3, .int x3), (4, .int x4), (5, .int x5)] [.int s0, .int s1] := by
  unfold w_X7_joins_66 at h
  refine v_iadd C dX7_joins_66 ?_
  refine v_nm (fun v32 ev32 => ?_)
  replace h := h v32 ev32
  refine v_istore C [(6, .int v32), (0, .ref (lad L 306)), (1, .int a1), (2, .int a2), (3, .int x3), (4, .int x4), (5, .int x5)] dX7_joins_67 (by decide) rfl ?_
  refine v_iload C dX7_joins_69 5 rfl ?_
  refine v_if_eq C (tgt := 84) dX7_joins_71 (by decide) (fun hc => ?_) (fun hc => ?_)
  · replace h := h.1 hc
    refine v_aload_n C dX7_joins_84 rfl 1 rfl ?_
    refine v_iload_n C dX7_joins_85 rfl 2 rfl ?_
    refine v_iconst C (v := 1) dX7_joins_86 rfl ?_
    refine k_X7_of C a1 1  h mM_X7_47 ⟨Nat.le_of_ble_eq_true rfl, Nat.le_of_ble_eq_true rfl⟩ (Nat.le_of_ble_eq_true rfl) dX7_joins_87 (fun r34 σ33 h => ?_)
    refine v_iload C dX7_joins_90 6 rfl ?_
    refine v_if_eq C (tgt := 105) dX7_joins_92 (by decide) (fun hc => ?_) (fun hc => ?_)
    · replace h := h.1 hc
      refine v_aload_n C dX7_joins_105 rfl 1 rfl ?_
      refine v_iload_n C dX7_joins_106 rfl 3 rfl ?_
      refine v_iconst C (v := 1) dX7_joins_107 rfl ?_
      refine k_X7_of C a2 1  h mM_X7_47 ⟨Nat.le_of_ble_eq_true rfl, Nat.le_of_ble_eq_true rfl⟩ (Nat.le_of_ble_eq_true rfl) dX7_joins_108 (fun r36 σ35 h => ?_)
      refine v_sub [1, 2, 3, 4, 5, 6, 0] rfl ?_
      exact b_X7_joins_111 C hret hlk a1 a2  K _ hA2 _ _ _ _ _ _ _  h
    · replace h := h.2 hc
      refine v_aload_n C dX7_joins_95 rfl 1 rfl ?_
      refine v_iload_n C dX7_joins_96 rfl 3 rfl ?_
      refine v_iload_n C dX7_joins_97 rfl 4 rfl ?_
      refine v_iconst C (v := 2) dX7_joins_98 rfl ?_
      refine k_X7_its C a2 x3 2  h mM_X7_31 ⟨Nat.le_of_ble_eq_true rfl, Nat.le_of_ble_eq_true rfl⟩ (Nat.le_of_ble_eq_true rfl) dX7_joins_99 (fun r49 σ48 h => ?_)
      refine v_goto C (tgt := 111) dX7_joins_102 (by decide) ?_
      refine v_sub [1, 2, 3, 4, 5, 6, 0] rfl ?_
      exact b_X7_joins_111 C hret hlk a1 a2  K _ hA2 _ _ _ _ _ _ _  h
  · replace h := h.2 hc
    refine v_aload_n C dX7_joins_74 rfl 1 rfl ?_
    refine v_iload_n C dX7_joins_75 rfl 2 rfl ?_
    refine v_iload_n C dX7_joins_76 rfl 4 rfl ?_
    refine v_iconst C (v := 2) dX7_joins_77 rfl ?_
    refine k_X7_its C a1 x3 2  h mM_X7_31 ⟨Nat.le_of_ble_eq_true rfl, Nat.le_of_ble_eq_true rfl⟩ (Nat.le_of_ble_eq_true rfl) dX7_joins_78 (fun r51 σ50 h => ?_)
    refine v_goto C (tgt := 90) dX7_joins_81 (by decide) ?_
    refine v_iload C dX7_joins_90 6 rfl ?_
    refine v_if_eq C (tgt := 105) dX7_joins_92 (by decide) (fun hc => ?_) (fun hc => ?_)
    · replace h := h.1 hc
      refine v_aload_n C dX7_joins_105 rfl 1 rfl ?_
      refine v_iload_n C dX7_joins_106 rfl 3 rfl ?_
      refine v_iconst C (v := 1) dX7_joins_107 rfl ?_
      refine k_X7_of C a2 1  h mM_X7_47 ⟨Nat.le_of_ble_eq_true rfl, Nat.le_of_ble_eq_true rfl⟩ (Nat.le_of_ble_eq_true rfl) dX7_joins_108 (fun r53 σ52 h => ?_)
      refine v_sub [1, 2, 3, 4, 5, 6, 0] rfl ?_
      exact b_X7_joins_111 C hret hlk a1 a2  K _ hA2 _ _ _ _ _ _ _  h
    · replace h := h.2 hc
      refine v_aload_n C dX7_joins_95 rfl 1 rfl ?_
      refine v_iload_n C dX7_joins_96 rfl 3 rfl ?_
      refine v_iload_n C dX7_joins_97 rfl 4 rfl ?_
      refine v_iconst C (v := 2) dX7_joins_98 rfl ?_
      refine k_X7_its C a2 x3 2  h mM_X7_31 ⟨Nat.le_of_ble_eq_true rfl, Nat.le_of_ble_eq_true rfl⟩ (Nat.le_of_ble_eq_true rfl) dX7_joins_99 (fun r55 σ54 h => ?_)
      refine v_goto C (tgt := 111) dX7_joins_102 (by decide) ?_
      refine v_sub [1, 2, 3, 4, 5, 6, 0] rfl ?_
      exact b_X7_joins_111 C hret hlk a1 a2  K _ hA2 _ _ _ _ _ _ _  h
def w_X7_joins_2 (a1 : Int32) (a2 : Int32) (K : Int32 → Mem → Prop)  : Nat → Int32 → Mem → Prop
  | 0, _, _ => False
  | n + 1, x3, σ => (br (26 ≤ x3) (w_X7_of a1 1 σ (fun r2 σ1 => (w_X7_of a2 1 σ1 (fun r4 σ3 => (w_X7_puts a1 1 (r2 + r4) σ3 (fun σ5 => (w_X7_of a1 2 σ5 (fun r7 σ6 => (w_X7_of a2 2 σ6 (fun r9 σ8 => (w_X7_puts a1 2 (r7 + r9) σ8 (fun σ10 => (∃ n23, w_X7_joins_237 a1 a2 K  n23 0 σ10))))))))))))) (w_X7_has a1 x3 σ (fun r25 σ24 => (w_X7_has a2 x3 σ24 (fun r27 σ26 => (br (r25 = 0) (w_X7_of a1 1 σ26 (fun r29 σ28 => (br (r27 = 0) (w_X7_of a2 1 σ28 (fun r31 σ30 => (w_X7_joins_66 a1 a2 K (w_X7_joins_2 a1 a2 K  n) x3 r25 r27 r31 r29 σ30))) (w_X7_its a2 x3 1 σ28 (fun r57 σ56 => (w_X7_joins_66 a1 a2 K (w_X7_joins_2 a1 a2 K  n) x3 r25 r27 r57 r29 σ56)))))) (w_X7_its a1 x3 1 σ26 (fun r59 σ58 => (br (r27 = 0) (w_X7_of a2 1 σ58 (fun r61 σ60 => (w_X7_joins_66 a1 a2 K (w_X7_joins_2 a1 a2 K  n) x3 r25 r27 r61 r59 σ60))) (w_X7_its a2 x3 1 σ58 (fun r63 σ62 => (w_X7_joins_66 a1 a2 K (w_X7_joins_2 a1 a2 K  n) x3 r25 r27 r63 r59 σ62))))))))))))
set_option maxHeartbeats 4000000 in
set_option maxRecDepth 100000 in
theorem b_X7_joins_2 {p : Program} {l : Launch} {e : Env} {s : State} {m : MethodId} {args : Array Value} {below : List Frame} {meth : Method} {c : Code} {L : Ly} {sz : Nat} (C : Cx p rm_X7_joins s m args meth c RX7 cX7_joins 8 0 0 (mA L sz) L) (hret : meth.sig.returnType = (some .int)) (hlk : meth.locks = false) (a1 : Int32) (a2 : Int32)  (K : Int32 → Mem → Prop)  : ∀ (n : Nat) (x3 : Int32) (σ : Mem), w_X7_joins_2 a1 a2 K  n x3 σ → V p l e rm_X7_joins s m args below meth c 8 0 0 (MQ below (va_Qi K (mE L) (mA L sz)) args s 0 0 (mA L sz)) (mA L sz) L σ 2 [(0, .ref (lad L 306)), (1, .int a1), (2, .int a2), (3, .int x3)] [] := by
  intro n
  induction n with
  | zero => intro x3 σ  h; exact h.elim
  | succ n ih =>
    intro x3 σ  h
    rw [w_X7_joins_2] at h
    refine v_iload_n C dX7_joins_2 rfl 3 rfl ?_
    refine v_bipush C (v := 26) dX7_joins_3 rfl ?_
    refine v_icmp_ge C (tgt := 197) dX7_joins_5 (by decide) (fun hc => ?_) (fun hc => ?_)
    · replace h := h.1 hc
      refine v_aload_n C dX7_joins_197 rfl 0 rfl ?_
      refine v_iload_n C dX7_joins_198 rfl 1 rfl ?_
      refine v_iconst C (v := 1) dX7_joins_199 rfl ?_
      refine v_aload_n C dX7_joins_200 rfl 0 rfl ?_
      refine v_iload_n C dX7_joins_201 rfl 1 rfl ?_
      refine v_iconst C (v := 1) dX7_joins_202 rfl ?_
      refine k_X7_of C a1 1  h mM_X7_47 ⟨Nat.le_of_ble_eq_true rfl, Nat.le_of_ble_eq_true rfl⟩ (Nat.le_of_ble_eq_true rfl) dX7_joins_203 (fun r2 σ1 h => ?_)
      refine v_aload_n C dX7_joins_206 rfl 0 rfl ?_
      refine v_iload_n C dX7_joins_207 rfl 2 rfl ?_
      refine v_iconst C (v := 1) dX7_joins_208 rfl ?_
      refine k_X7_of C a2 1  h mM_X7_47 ⟨Nat.le_of_ble_eq_true rfl, Nat.le_of_ble_eq_true rfl⟩ (Nat.le_of_ble_eq_true rfl) dX7_joins_209 (fun r4 σ3 h => ?_)
      refine v_iadd C dX7_joins_212 ?_
      refine k_X7_puts C a1 1 (r2 + r4)  h mM_X7_23 ⟨Nat.le_of_ble_eq_true rfl, Nat.le_of_ble_eq_true rfl⟩ (Nat.le_of_ble_eq_true rfl) dX7_joins_213 (fun σ5 h => ?_)
      refine v_aload_n C dX7_joins_216 rfl 0 rfl ?_
      refine v_iload_n C dX7_joins_217 rfl 1 rfl ?_
      refine v_iconst C (v := 2) dX7_joins_218 rfl ?_
      refine v_aload_n C dX7_joins_219 rfl 0 rfl ?_
      refine v_iload_n C dX7_joins_220 rfl 1 rfl ?_
      refine v_iconst C (v := 2) dX7_joins_221 rfl ?_
      refine k_X7_of C a1 2  h mM_X7_47 ⟨Nat.le_of_ble_eq_true rfl, Nat.le_of_ble_eq_true rfl⟩ (Nat.le_of_ble_eq_true rfl) dX7_joins_222 (fun r7 σ6 h => ?_)
      refine v_aload_n C dX7_joins_225 rfl 0 rfl ?_
      refine v_iload_n C dX7_joins_226 rfl 2 rfl ?_
      refine v_iconst C (v := 2) dX7_joins_227 rfl ?_
      refine k_X7_of C a2 2  h mM_X7_47 ⟨Nat.le_of_ble_eq_true rfl, Nat.le_of_ble_eq_true rfl⟩ (Nat.le_of_ble_eq_true rfl) dX7_joins_228 (fun r9 σ8 h => ?_)
      refine v_iadd C dX7_joins_231 ?_
      refine k_X7_puts C a1 2 (r7 + r9)  h mM_X7_23 ⟨Nat.le_of_ble_eq_true rfl, Nat.le_of_ble_eq_true rfl⟩ (Nat.le_of_ble_eq_true rfl) dX7_joins_232 (fun σ10 h => ?_)
      refine v_iconst C (v := 0) dX7_joins_235 rfl ?_
      refine v_istore_n C [(3, .int 0), (0, .ref (lad L 306)), (1, .int a1), (2, .int a2)] dX7_joins_236 rfl (by decide) rfl ?_
      obtain ⟨n23, h⟩ := h
      refine v_sub [1, 2, 3, 0] rfl ?_
      exact b_X7_joins_237 C hret hlk a1 a2  K   n23 _ _  h
    · replace h := h.2 hc
      refine v_aload_n C dX7_joins_8 rfl 0 rfl ?_
      refine v_iload_n C dX7_joins_9 rfl 1 rfl ?_
      refine v_iload_n C dX7_joins_10 rfl 3 rfl ?_
      refine k_X7_has C a1 x3  h mM_X7_43 ⟨Nat.le_of_ble_eq_true rfl, Nat.le_of_ble_eq_true rfl⟩ (Nat.le_of_ble_eq_true rfl) dX7_joins_11 (fun r25 σ24 h => ?_)
      refine v_istore C [(4, .int r25), (0, .ref (lad L 306)), (1, .int a1), (2, .int a2), (3, .int x3)] dX7_joins_14 (by decide) rfl ?_
      refine v_aload_n C dX7_joins_16 rfl 1 rfl ?_
      refine v_iload_n C dX7_joins_17 rfl 3 rfl ?_
      refine v_iload_n C dX7_joins_18 rfl 4 rfl ?_
      refine k_X7_has C a2 x3  h mM_X7_43 ⟨Nat.le_of_ble_eq_true rfl, Nat.le_of_ble_eq_true rfl⟩ (Nat.le_of_ble_eq_true rfl) dX7_joins_19 (fun r27 σ26 h => ?_)
      refine v_istore C [(5, .int r27), (4, .int r25), (0, .ref (lad L 306)), (1, .int a1), (2, .int a2), (3, .int x3)] dX7_joins_22 (by decide) rfl ?_
      refine v_iload C dX7_joins_24 1 rfl ?_
      refine v_if_eq C (tgt := 39) dX7_joins_26 (by decide) (fun hc => ?_) (fun hc => ?_)
      · replace h := h.1 hc
        refine v_aload_n C dX7_joins_39 rfl 2 rfl ?_
        refine v_iload_n C dX7_joins_40 rfl 3 rfl ?_
        refine v_iconst C (v := 1) dX7_joins_41 rfl ?_
        refine k_X7_of C a1 1  h mM_X7_47 ⟨Nat.le_of_ble_eq_true rfl, Nat.le_of_ble_eq_true rfl⟩ (Nat.le_of_ble_eq_true rfl) dX7_joins_42 (fun r29 σ28 h => ?_)
        refine v_iload C dX7_joins_45 0 rfl ?_
        refine v_if_eq C (tgt := 60) dX7_joins_47 (by decide) (fun hc => ?_) (fun hc => ?_)
        · replace h := h.1 hc
          refine v_aload_n C dX7_joins_60 rfl 2 rfl ?_
          refine v_iload_n C dX7_joins_61 rfl 4 rfl ?_
          refine v_iconst C (v := 1) dX7_joins_62 rfl ?_
          refine k_X7_of C a2 1  h mM_X7_47 ⟨Nat.le_of_ble_eq_true rfl, Nat.le_of_ble_eq_true rfl⟩ (Nat.le_of_ble_eq_true rfl) dX7_joins_63 (fun r31 σ30 h => ?_)
          refine v_sub [2, 3, 4, 5, 1, 0] rfl ?_
          exact b_X7_joins_66 C hret hlk a1 a2  K _ ih _ _ _ _ _ _  h
        · replace h := h.2 hc
          refine v_aload_n C dX7_joins_50 rfl 2 rfl ?_
          refine v_iload_n C dX7_joins_51 rfl 4 rfl ?_
          refine v_iload_n C dX7_joins_52 rfl 5 rfl ?_
          refine v_iconst C (v := 1) dX7_joins_53 rfl ?_
          refine k_X7_its C a2 x3 1  h mM_X7_31 ⟨Nat.le_of_ble_eq_true rfl, Nat.le_of_ble_eq_true rfl⟩ (Nat.le_of_ble_eq_true rfl) dX7_joins_54 (fun r57 σ56 h => ?_)
          refine v_goto C (tgt := 66) dX7_joins_57 (by decide) ?_
          refine v_sub [2, 3, 4, 5, 1, 0] rfl ?_
          exact b_X7_joins_66 C hret hlk a1 a2  K _ ih _ _ _ _ _ _  h
      · replace h := h.2 hc
        refine v_aload_n C dX7_joins_29 rfl 2 rfl ?_
        refine v_iload_n C dX7_joins_30 rfl 3 rfl ?_
        refine v_iload_n C dX7_joins_31 rfl 5 rfl ?_
        refine v_iconst C (v := 1) dX7_joins_32 rfl ?_
        refine k_X7_its C a1 x3 1  h mM_X7_31 ⟨Nat.le_of_ble_eq_true rfl, Nat.le_of_ble_eq_true rfl⟩ (Nat.le_of_ble_eq_true rfl) dX7_joins_33 (fun r59 σ58 h => ?_)
        refine v_goto C (tgt := 45) dX7_joins_36 (by decide) ?_
        refine v_iload C dX7_joins_45 0 rfl ?_
        refine v_if_eq C (tgt := 60) dX7_joins_47 (by decide) (fun hc => ?_) (fun hc => ?_)
        · replace h := h.1 hc
          refine v_aload_n C dX7_joins_60 rfl 2 rfl ?_
          refine v_iload_n C dX7_joins_61 rfl 4 rfl ?_
          refine v_iconst C (v := 1) dX7_joins_62 rfl ?_
          refine k_X7_of C a2 1  h mM_X7_47 ⟨Nat.le_of_ble_eq_true rfl, Nat.le_of_ble_eq_true rfl⟩ (Nat.le_of_ble_eq_true rfl) dX7_joins_63 (fun r61 σ60 h => ?_)
          refine v_sub [2, 3, 4, 5, 1, 0] rfl ?_
          exact b_X7_joins_66 C hret hlk a1 a2  K _ ih _ _ _ _ _ _  h
        · replace h := h.2 hc
          refine v_aload_n C dX7_joins_50 rfl 2 rfl ?_
          refine v_iload_n C dX7_joins_51 rfl 4 rfl ?_
          refine v_iload_n C dX7_joins_52 rfl 5 rfl ?_
          refine v_iconst C (v := 1) dX7_joins_53 rfl ?_
          refine k_X7_its C a2 x3 1  h mM_X7_31 ⟨Nat.le_of_ble_eq_true rfl, Nat.le_of_ble_eq_true rfl⟩ (Nat.le_of_ble_eq_true rfl) dX7_joins_54 (fun r63 σ62 h => ?_)
          refine v_goto C (tgt := 66) dX7_joins_57 (by decide) ?_
          refine v_sub [2, 3, 4, 5, 1, 0] rfl ?_
          exact b_X7_joins_66 C hret hlk a1 a2  K _ ih _ _ _ _ _ _  h
def w_X7_joins (a1 : Int32) (a2 : Int32) (σ : Mem) (K : Int32 → Mem → Prop) : Prop := (∃ n64, w_X7_joins_2 a1 a2 K  n64 0 σ)
set_option maxHeartbeats 4000000 in
set_option maxRecDepth 100000 in
theorem c_X7_joins (l : Launch) (L : Ly) (a1 : Int32) (a2 : Int32) (σ : Mem) (K : Int32 → Mem → Prop)  (h : w_X7_joins a1 a2 σ K) (sz : Nat) : Met l yX7_joins (.code yX7_joins cX7_joins 8 (some .int) :: wA) rm_X7_joins (va_Pc [.ref (lad L 306), .int a1, .int a2] (mB L sz σ)) (va_Qi K (mE L) (mA L sz)) 0 0 (mA L sz) := by
  refine v_start (own := RX7) [(0, .ref (lad L 306)), (1, .int a1), (2, .int a2)] (by decide) rfl (Nat.le_of_ble_eq_true rfl) rfl (fun p e s m args below meth c C hret hlk => ?_)
  unfold w_X7_joins at h
  refine v_iconst C (v := 0) dX7_joins_0 rfl ?_
  refine v_istore_n C [(3, .int 0), (0, .ref (lad L 306)), (1, .int a1), (2, .int a2)] dX7_joins_1 rfl (by decide) rfl ?_
  obtain ⟨n64, h⟩ := h
  refine v_sub [1, 2, 3, 0] rfl ?_
  exact b_X7_joins_2 C hret hlk a1 a2  K   n64 _ _  h
theorem hd_X7_joins : yX7_joins.cls ≠ "java/lang/invoke/MethodHandle" ∧ yX7_joins.cls ≠ "java/lang/invoke/VarHandle" ∧ (parseMethodDescriptor yX7_joins.desc).map (fun d => d.parameters.length) = some 2 := by decide +kernel
theorem k_X7_joins {p : Program} {l : Launch} {e : Env} {R : Room} {s : State} {m : MethodId} {args : Array Value} {below : List Frame} {meth : Method} {c : Code} {nL cells slots : Nat} {Q : State → Prop} {A : Nat → Prop} {L : Ly} {own : String} {cc : ByteArray} {σ : Mem} {pc idx : Nat} {lv : List (Nat × Value)} {st : List Value} {K : Int32 → Mem → Prop} (C : Cx p R s m args meth c own cc nL cells slots A L) (a1 : Int32) (a2 : Int32)  (h : w_X7_joins a1 a2 σ K) (hml : Cond.methodLink own idx yX7_joins ∈ wA) (hR : rm_X7_joins.frames + 1 ≤ R.frames ∧ 8 + (8 + 11) + rm_X7_joins.locals ≤ R.locals) (hsum : (st.map fun v => v.category).sum ≤ 8) (d : decode cc pc = .ok (.invokevirtual idx, 3)) (kk : ∀ r σ1, K r σ1 → V p l e R s m args below meth c nL cells slots Q A L σ1 (pc + 3) lv (.int r :: st)) : V p l e R s m args below meth c nL cells slots Q A L σ pc lv (.int a2 :: .int a1 :: .ref (lad L 306) :: st) := v_callVi C [.int a1, .int a2] (fun sz => c_X7_joins l L a1 a2 σ _  h sz) mC_X7_joins mZ_X7 hd_X7_joins mI_X7_joins mS_X7_joins rfl rfl (c0 := 7) (ci := 7) (by decide) rfl rfl rfl kdn_306 hml hR rfl hsum d kk
