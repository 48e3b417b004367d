-- ===== RX4.put
abbrev rm_X4_put : Room := { frames := 0, cells := 0, slots := 0, locals := 0 }
def w_X4_put (a1 : Int32) (σ : Mem) (K : Mem → Prop) : Prop := (br (60 ≤ (σ 302 1)) (K σ) (vp_in (σ 302 1) 60 ∧ ∀ σ2 : Mem, σ2 = mu σ 303 (ix (σ 302 1)) (vp_nar .char a1) → (∀ σ3 : Mem, σ3 = mu σ2 302 1 ((σ2 302 1) + 1) → (K σ3))))
set_option maxHeartbeats 4000000 in
set_option maxRecDepth 100000 in
theorem c_X4_put (l : Launch) (L : Ly) (a1 : Int32) (σ : Mem) (K : Mem → Prop)  (h : w_X4_put a1 σ K) (sz : Nat) : Met l yX4_put (.code yX4_put cX4_put 2 none :: wA) rm_X4_put (va_Pc [.ref (lad L 302), .int a1] (mB L sz σ)) (va_Qv K (mE L) (mA L sz)) 0 0 (mA L sz) := by
  refine v_start (own := RX4) [(0, .ref (lad L 302)), (1, .int a1)] (by decide) rfl (Nat.le_of_ble_eq_true rfl) rfl (fun p e s m args below meth c C hret hlk => ?_)
  unfold w_X4_put at h
  refine v_aload_n C dX4_put_0 rfl 0 rfl ?_
  refine g_4_length C kdn_302 mF_X4_15 dX4_put_1 ?_
  refine v_bipush C (v := 60) dX4_put_4 rfl ?_
  refine v_icmp_ge C (tgt := 29) dX4_put_6 (by decide) (fun hc => ?_) (fun hc => ?_)
  · replace h := h.1 hc
    exact v_vret C dX4_put_29 hret hlk h
  · replace h := h.2 hc
    refine v_aload_n C dX4_put_9 rfl 0 rfl ?_
    refine g_4_signs C kdn_302 mF_X4_9 dX4_put_10 ?_
    refine v_aload_n C dX4_put_13 rfl 0 rfl ?_
    refine g_4_length C kdn_302 mF_X4_15 dX4_put_14 ?_
    refine v_iload_n C dX4_put_17 rfl 1 rfl ?_
    obtain ⟨hi1, h⟩ := h
    refine v_cast C (c0 := 23) (by decide) (fun _ => rfl) kdn_303 hi1 dX4_put_18 (fun σ2 eσ2 => ?_)
    replace h := h σ2 eσ2
    refine v_aload_n C dX4_put_19 rfl 0 rfl ?_
    refine v_dup C dX4_put_20 rfl ?_
    refine g_4_length C kdn_302 mF_X4_15 dX4_put_21 ?_
    refine v_iconst C (v := 1) dX4_put_24 rfl ?_
    refine v_iadd C dX4_put_25 ?_
    refine p_4_length C kdn_302 mF_X4_15 dX4_put_26 (fun σ3 eσ3 => ?_)
    replace h := h σ3 eσ3
    exact v_vret C dX4_put_29 hret hlk h
theorem hd_X4_put : yX4_put.cls ≠ "java/lang/invoke/MethodHandle" ∧ yX4_put.cls ≠ "java/lang/invoke/VarHandle" ∧ (parseMethodDescriptor yX4_put.desc).map (fun d => d.parameters.length) = some 1 := by decide +kernel
theorem k_X4_put {p : Program} {l : Launch} {e : Env} {R : Room} {s : State} {m : MethodId} {args : Array Value} {below : List Frame} {meth : Method} {c : Code} {nL cells slots : Nat} {Q : State → Prop} {A : Nat → Prop} {L : Ly} {own : String} {cc : ByteArray} {σ : Mem} {pc idx : Nat} {lv : List (Nat × Value)} {st : List Value} {K : Mem → Prop} (C : Cx p R s m args meth c own cc nL cells slots A L) (a1 : Int32)  (h : w_X4_put a1 σ K) (hml : Cond.methodLink own idx yX4_put ∈ wA) (hR : rm_X4_put.frames + 1 ≤ R.frames ∧ 8 + (2 + 11) + rm_X4_put.locals ≤ R.locals) (hsum : (st.map fun v => v.category).sum ≤ 8) (d : decode cc pc = .ok (.invokevirtual idx, 3)) (kk : ∀ σ1, K σ1 → V p l e R s m args below meth c nL cells slots Q A L σ1 (pc + 3) lv st) : V p l e R s m args below meth c nL cells slots Q A L σ pc lv (.int a1 :: .ref (lad L 302) :: st) := v_callVv C [.int a1] (fun sz => c_X4_put l L a1 σ _  h sz) mC_X4_put mZ_X4 hd_X4_put mI_X4_put mS_X4_put rfl rfl (c0 := 4) (ci := 4) (by decide) rfl rfl rfl kdn_302 hml hR rfl hsum d kk
-- ===== RX4.sign
abbrev rm_X4_sign : Room := { frames := 0, cells := 0, slots := 0, locals := 0 }
def w_X4_sign  (σ : Mem) (K : Int32 → Mem → Prop) : Prop := (br ((σ 302 1) ≤ (σ 302 8)) (K 0 σ) (vp_in (σ 302 8) 60 ∧ (narrow .char (.int (σ 303 (ix (σ 302 8)))) = .int (σ 303 (ix (σ 302 8))) ∧ K (σ 303 (ix (σ 302 8))) σ)))
set_option maxHeartbeats 4000000 in
set_option maxRecDepth 100000 in
theorem c_X4_sign (l : Launch) (L : Ly)  (σ : Mem) (K : Int32 → Mem → Prop)  (h : w_X4_sign  σ K) (sz : Nat) : Met l yX4_sign (.code yX4_sign cX4_sign 1 (some .char) :: wA) rm_X4_sign (va_Pc [.ref (lad L 302)] (mB L sz σ)) (va_Qi K (mE L) (mA L sz)) 0 0 (mA L sz) := by
  refine v_start (own := RX4) [(0, .ref (lad L 302))] (by decide) rfl (Nat.le_of_ble_eq_true rfl) rfl (fun p e s m args below meth c C hret hlk => ?_)
  unfold w_X4_sign at h
  refine v_aload_n C dX4_sign_0 rfl 0 rfl ?_
  refine g_4_at C kdn_302 mF_X4_38 dX4_sign_1 ?_
  refine v_aload_n C dX4_sign_4 rfl 0 rfl ?_
  refine g_4_length C kdn_302 mF_X4_15 dX4_sign_5 ?_
  refine v_icmp_ge C (tgt := 23) dX4_sign_8 (by decide) (fun hc => ?_) (fun hc => ?_)
  · replace h := h.1 hc
    refine v_iconst C (v := 0) dX4_sign_23 rfl ?_
    exact v_zret C dX4_sign_24 hret hlk rfl h
  · replace h := h.2 hc
    refine v_aload_n C dX4_sign_11 rfl 0 rfl ?_
    refine g_4_signs C kdn_302 mF_X4_9 dX4_sign_12 ?_
    refine v_aload_n C dX4_sign_15 rfl 0 rfl ?_
    refine g_4_at C kdn_302 mF_X4_38 dX4_sign_16 ?_
    obtain ⟨hi1, h⟩ := h
    refine v_cald C (c0 := 23) (by decide) rfl kdn_303 hi1 dX4_sign_19 ?_
    refine v_goto C (tgt := 24) dX4_sign_20 (by decide) ?_
    exact v_zret C dX4_sign_24 hret hlk h.1 h.2
theorem hd_X4_sign : yX4_sign.cls ≠ "java/lang/invoke/MethodHandle" ∧ yX4_sign.cls ≠ "java/lang/invoke/VarHandle" ∧ (parseMethodDescriptor yX4_sign.desc).map (fun d => d.parameters.length) = some 0 := by decide +kernel
theorem k_X4_sign {p : Program} {l : Launch} {e : Env} {R : Room} {s : State} {m : MethodId} {args : Array Value} {below : List Frame} {meth : Method} {c : Code} {nL cells slots : Nat} {Q : State → Prop} {A : Nat → Prop} {L : Ly} {own : String} {cc : ByteArray} {σ : Mem} {pc idx : Nat} {lv : List (Nat × Value)} {st : List Value} {K : Int32 → Mem → Prop} (C : Cx p R s m args meth c own cc nL cells slots A L)   (h : w_X4_sign  σ K) (hml : Cond.methodLink own idx yX4_sign ∈ wA) (hR : rm_X4_sign.frames + 1 ≤ R.frames ∧ 8 + (1 + 11) + rm_X4_sign.locals ≤ R.locals) (hsum : (st.map fun v => v.category).sum ≤ 8) (d : decode cc pc = .ok (.invokevirtual idx, 3)) (kk : ∀ r σ1, K r σ1 → V p l e R s m args below meth c nL cells slots Q A L σ1 (pc + 3) lv (.int r :: st)) : V p l e R s m args below meth c nL cells slots Q A L σ pc lv (.ref (lad L 302) :: st) := v_callVi C [] (fun sz => c_X4_sign l L  σ _  h sz) mC_X4_sign mZ_X4 hd_X4_sign mI_X4_sign mS_X4_sign rfl rfl (c0 := 4) (ci := 4) (by decide) rfl rfl rfl kdn_302 hml hR rfl hsum d kk
-- ===== RX4.isDigit
abbrev rm_X4_isDigit : Room := { frames := 1, cells := 0, slots := 0, locals := 20 }
def w_X4_isDigit  (σ : Mem) (K : Int32 → Mem → Prop) : Prop := (w_X4_sign  σ (fun r2 σ1 => (br (r2 < 48) (K 0 σ1) (w_X4_sign  σ1 (fun r4 σ3 => (br (57 < r4) (K 0 σ3) (K 1 σ3)))))))
set_option maxHeartbeats 4000000 in
set_option maxRecDepth 100000 in
theorem c_X4_isDigit (l : Launch) (L : Ly)  (σ : Mem) (K : Int32 → Mem → Prop)  (h : w_X4_isDigit  σ K) (sz : Nat) : Met l yX4_isDigit (.code yX4_isDigit cX4_isDigit 1 (some .boolean) :: wA) rm_X4_isDigit (va_Pc [.ref (lad L 302)] (mB L sz σ)) (va_Qi K (mE L) (mA L sz)) 0 0 (mA L sz) := by
  refine v_start (own := RX4) [(0, .ref (lad L 302))] (by decide) rfl (Nat.le_of_ble_eq_true rfl) rfl (fun p e s m args below meth c C hret hlk => ?_)
  unfold w_X4_isDigit at h
  refine v_aload_n C dX4_isDigit_0 rfl 0 rfl ?_
  refine k_X4_sign C   h mM_X4_41 ⟨Nat.le_of_ble_eq_true rfl, Nat.le_of_ble_eq_true rfl⟩ (Nat.le_of_ble_eq_true rfl) dX4_isDigit_1 (fun r2 σ1 h => ?_)
  refine v_bipush C (v := 48) dX4_isDigit_4 rfl ?_
  refine v_icmp_lt C (tgt := 22) dX4_isDigit_6 (by decide) (fun hc => ?_) (fun hc => ?_)
  · replace h := h.1 hc
    refine v_iconst C (v := 0) dX4_isDigit_22 rfl ?_
    exact v_zret C dX4_isDigit_23 hret hlk rfl h
  · replace h := h.2 hc
    refine v_aload_n C dX4_isDigit_9 rfl 0 rfl ?_
    refine k_X4_sign C   h mM_X4_41 ⟨Nat.le_of_ble_eq_true rfl, Nat.le_of_ble_eq_true rfl⟩ (Nat.le_of_ble_eq_true rfl) dX4_isDigit_10 (fun r4 σ3 h => ?_)
    refine v_bipush C (v := 57) dX4_isDigit_13 rfl ?_
    refine v_icmp_gt C (tgt := 22) dX4_isDigit_15 (by decide) (fun hc => ?_) (fun hc => ?_)
    · replace h := h.1 hc
      refine v_iconst C (v := 0) dX4_isDigit_22 rfl ?_
      exact v_zret C dX4_isDigit_23 hret hlk rfl h
    · replace h := h.2 hc
      refine v_iconst C (v := 1) dX4_isDigit_18 rfl ?_
      refine v_goto C (tgt := 23) dX4_isDigit_19 (by decide) ?_
      exact v_zret C dX4_isDigit_23 hret hlk rfl h
theorem hd_X4_isDigit : yX4_isDigit.cls ≠ "java/lang/invoke/MethodHandle" ∧ yX4_isDigit.cls ≠ "java/lang/invoke/VarHandle" ∧ (parseMethodDescriptor yX4_isDigit.desc).map (fun d => d.parameters.length) = some 0 := by decide +kernel
theorem k_X4_isDigit {p : Program} {l : Launch} {e : Env} {R : Room} {s : State} {m : MethodId} {args : Array Value} {below : List Frame} {meth : Method} {c : Code} {nL cells slots : Nat} {Q : State → Prop} {A : Nat → Prop} {L : Ly} {own : String} {cc : ByteArray} {σ : Mem} {pc idx : Nat} {lv : List (Nat × Value)} {st : List Value} {K : Int32 → Mem → Prop} (C : Cx p R s m args meth c own cc nL cells slots A L)   (h : w_X4_isDigit  σ K) (hml : Cond.methodLink own idx yX4_isDigit ∈ wA) (hR : rm_X4_isDigit.frames + 1 ≤ R.frames ∧ 8 + (1 + 11) + rm_X4_isDigit.locals ≤ R.locals) (hsum : (st.map fun v => v.category).sum ≤ 8) (d : decode cc pc = .ok (.invokevirtual idx, 3)) (kk : ∀ r σ1, K r σ1 → V p l e R s m args below meth c nL cells slots Q A L σ1 (pc + 3) lv (.int r :: st)) : V p l e R s m args below meth c nL cells slots Q A L σ pc lv (.ref (lad L 302) :: st) := v_callVi C [] (fun sz => c_X4_isDigit l L  σ _  h sz) mC_X4_isDigit mZ_X4 hd_X4_isDigit mI_X4_isDigit mS_X4_isDigit rfl rfl (c0 := 4) (ci := 4) (by decide) rfl rfl rfl kdn_302 hml hR rfl hsum d kk
-- ===== RX4.takeDigit
abbrev rm_X4_takeDigit : Room := { frames := 1, cells := 0, slots := 0, locals := 20 }
def w_X4_takeDigit  (σ : Mem) (K : Int32 → Mem → Prop) : Prop := (w_X4_sign  σ (fun r2 σ1 => (∀ v3 : Int32, v3 = (r2 - 48) → (∀ σ4 : Mem, σ4 = mu σ1 302 8 ((σ1 302 8) + 1) → (K v3 σ4)))))
set_option maxHeartbeats 4000000 in
set_option maxRecDepth 100000 in
theorem c_X4_takeDigit (l : Launch) (L : Ly)  (σ : Mem) (K : Int32 → Mem → Prop)  (h : w_X4_takeDigit  σ K) (sz : Nat) : Met l yX4_takeDigit (.code yX4_takeDigit cX4_takeDigit 2 (some .int) :: wA) rm_X4_takeDigit (va_Pc [.ref (lad L 302)] (mB L sz σ)) (va_Qi K (mE L) (mA L sz)) 0 0 (mA L sz) := by
  refine v_start (own := RX4) [(0, .ref (lad L 302))] (by decide) rfl (Nat.le_of_ble_eq_true rfl) rfl (fun p e s m args below meth c C hret hlk => ?_)
  unfold w_X4_takeDigit at h
  refine v_aload_n C dX4_takeDigit_0 rfl 0 rfl ?_
  refine k_X4_sign C   h mM_X4_41 ⟨Nat.le_of_ble_eq_true rfl, Nat.le_of_ble_eq_true rfl⟩ (Nat.le_of_ble_eq_true rfl) dX4_takeDigit_1 (fun r2 σ1 h => ?_)
  refine v_bipush C (v := 48) dX4_takeDigit_4 rfl ?_
  refine v_isub C dX4_takeDigit_6 ?_
  refine v_nm (fun v3 ev3 => ?_)
  replace h := h v3 ev3
  refine v_istore_n C [(1, .int v3), (0, .ref (lad L 302))] dX4_takeDigit_7 rfl (by decide) rfl ?_
  refine v_aload_n C dX4_takeDigit_8 rfl 1 rfl ?_
  refine v_dup C dX4_takeDigit_9 rfl ?_
  refine g_4_at C kdn_302 mF_X4_38 dX4_takeDigit_10 ?_
  refine v_iconst C (v := 1) dX4_takeDigit_13 rfl ?_
  refine v_iadd C dX4_takeDigit_14 ?_
  refine p_4_at C kdn_302 mF_X4_38 dX4_takeDigit_15 (fun σ4 eσ4 => ?_)
  replace h := h σ4 eσ4
  refine v_iload_n C dX4_takeDigit_18 rfl 0 rfl ?_
  exact v_iret C dX4_takeDigit_19 hret hlk h
theorem hd_X4_takeDigit : yX4_takeDigit.cls ≠ "java/lang/invoke/MethodHandle" ∧ yX4_takeDigit.cls ≠ "java/lang/invoke/VarHandle" ∧ (parseMethodDescriptor yX4_takeDigit.desc).map (fun d => d.parameters.length) = some 0 := by decide +kernel
theorem k_X4_takeDigit {p : Program} {l : Launch} {e : Env} {R : Room} {s : State} {m : MethodId} {args : Array Value} {below : List Frame} {meth : Method} {c : Code} {nL cells slots : Nat} {Q : State → Prop} {A : Nat → Prop} {L : Ly} {own : String} {cc : ByteArray} {σ : Mem} {pc idx : Nat} {lv : List (Nat × Value)} {st : List Value} {K : Int32 → Mem → Prop} (C : Cx p R s m args meth c own cc nL cells slots A L)   (h : w_X4_takeDigit  σ K) (hml : Cond.methodLink own idx yX4_takeDigit ∈ wA) (hR : rm_X4_takeDigit.frames + 1 ≤ R.frames ∧ 8 + (2 + 11) + rm_X4_takeDigit.locals ≤ R.locals) (hsum : (st.map fun v => v.category).sum ≤ 8) (d : decode cc pc = .ok (.invokevirtual idx, 3)) (kk : ∀ r σ1, K r σ1 → V p l e R s m args below meth c nL cells slots Q A L σ1 (pc + 3) lv (.int r :: st)) : V p l e R s m args below meth c nL cells slots Q A L σ pc lv (.ref (lad L 302) :: st) := v_callVi C [] (fun sz => c_X4_takeDigit l L  σ _  h sz) mC_X4_takeDigit mZ_X4 hd_X4_takeDigit mI_X4_takeDigit mS_X4_takeDigit rfl rfl (c0 := 4) (ci := 4) (by decide) rfl rfl rfl kdn_302 hml hR rfl hsum d kk
-- ===== RX6.letterIndex
abbrev rm_X6_letterIndex : Room := { frames := 0, cells := 0, slots := 0, locals := 0 }
def w_X6_letterIndex (a1 : Int32) (σ : Mem) (K : Int32 → Mem → Prop) : Prop := (br (a1 < 97) (K (-1) σ) (br (122 < a1) (K (-1) σ) (K (a1 - 97) σ)))
set_option maxHeartbeats 4000000 in
set_option maxRecDepth 100000 in
theorem c_X6_letterIndex (l : Launch) (L : Ly) (a1 : Int32) (σ : Mem) (K : Int32 → Mem → Prop)  (h : w_X6_letterIndex a1 σ K) (sz : Nat) : Met l yX6_letterIndex (.code yX6_letterIndex cX6_letterIndex 1 (some .int) :: wA) rm_X6_letterIndex (va_Pc [.int a1] (mB L sz σ)) (va_Qi K (mE L) (mA L sz)) 0 0 (mA L sz) := by
  refine v_start (own := RX6) [(0, .int a1)] (by decide) rfl (Nat.le_of_ble_eq_true rfl) rfl (fun p e s m args below meth c C hret hlk => ?_)
  unfold w_X6_letterIndex at h
  refine v_iload_n C dX6_letterIndex_0 rfl 0 rfl ?_
  refine v_bipush C (v := 97) dX6_letterIndex_1 rfl ?_
  refine v_icmp_lt C (tgt := 19) dX6_letterIndex_3 (by decide) (fun hc => ?_) (fun hc => ?_)
  · replace h := h.1 hc
    refine v_iconst C (v := (-1)) dX6_letterIndex_19 rfl ?_
    exact v_iret C dX6_letterIndex_20 hret hlk h
  · replace h := h.2 hc
    refine v_iload_n C dX6_letterIndex_6 rfl 0 rfl ?_
    refine v_bipush C (v := 122) dX6_letterIndex_7 rfl ?_
    refine v_icmp_gt C (tgt := 19) dX6_letterIndex_9 (by decide) (fun hc => ?_) (fun hc => ?_)
    · replace h := h.1 hc
      refine v_iconst C (v := (-1)) dX6_letterIndex_19 rfl ?_
      exact v_iret C dX6_letterIndex_20 hret hlk h
    · replace h := h.2 hc
      refine v_iload_n C dX6_letterIndex_12 rfl 0 rfl ?_
      refine v_bipush C (v := 97) dX6_letterIndex_13 rfl ?_
      refine v_isub C dX6_letterIndex_15 ?_
      refine v_goto C (tgt := 20) dX6_letterIndex_16 (by decide) ?_
      exact v_iret C dX6_letterIndex_20 hret hlk h
theorem hd_X6_letterIndex : yX6_letterIndex.cls ≠ "java/lang/invoke/MethodHandle" ∧ yX6_letterIndex.cls ≠ "java/lang/invoke/VarHandle" ∧ (parseMethodDescriptor yX6_letterIndex.desc).map (fun d => d.parameters.length) = some 1 := by decide +kernel
theorem k_X6_letterIndex {p : Program} {l : Launch} {e : Env} {R : Room} {s : State} {m : MethodId} {args : Array Value} {below : List Frame} {meth : Method} {c : Code} {nL cells slots : Nat} {Q : State → Prop} {A : Nat → Prop} {L : Ly} {own : String} {cc : ByteArray} {σ : Mem} {pc idx : Nat} {lv : List (Nat × Value)} {st : List Value} {K : Int32 → Mem → Prop} (C : Cx p R s m args meth c own cc nL cells slots A L) (a1 : Int32)  (h : w_X6_letterIndex a1 σ K) (hml : va_Nw (.methodLinkNest own idx yX6_letterIndex RX6) s) (hR : rm_X6_letterIndex.frames + 1 ≤ R.frames ∧ 8 + (1 + 11) + rm_X6_letterIndex.locals ≤ R.locals) (hsum : (st.map fun v => v.category).sum ≤ 8) (d : decode cc pc = .ok (.invokestatic idx, 3)) (kk : ∀ r σ1, K r σ1 → V p l e R s m args below meth c nL cells slots Q A L σ1 (pc + 3) lv (.int r :: st)) : V p l e R s m args below meth c nL cells slots Q A L σ pc lv (.int a1 :: st) := v_callNi C [.int a1] (fun sz => c_X6_letterIndex l L a1 σ _  h sz) mC_X6_letterIndex mZ_X6 hd_X6_letterIndex mT_X6_letterIndex rfl rfl hml hR rfl hsum d kk
theorem ks_X6_letterIndex {p : Program} {l : Launch} {e : Env} {R : Room} {s : State} {m : MethodId} {args : Array Value} {below : List Frame} {meth : Method} {c : Code} {nL cells slots : Nat} {Q : State → Prop} {A : Nat → Prop} {L : Ly} {own : String} {cc : ByteArray} {σ : Mem} {pc idx : Nat} {lv : List (Nat × Value)} {st : List Value} {K : Int32 → Mem → Prop} (C : Cx p R s m args meth c own cc nL cells slots A L) (a1 : Int32)  (h : w_X6_letterIndex a1 σ K) (hml : Cond.methodLink own idx yX6_letterIndex ∈ wA) (hR : rm_X6_letterIndex.frames + 1 ≤ R.frames ∧ 8 + (1 + 11) + rm_X6_letterIndex.locals ≤ R.locals) (hsum : (st.map fun v => v.category).sum ≤ 8) (d : decode cc pc = .ok (.invokestatic idx, 3)) (kk : ∀ r σ1, K r σ1 → V p l e R s m args below meth c nL cells slots Q A L σ1 (pc + 3) lv (.int r :: st)) : V p l e R s m args below meth c nL cells slots Q A L σ pc lv (.int a1 :: st) := v_callSi C [.int a1] (fun sz => c_X6_letterIndex l L a1 σ _  h sz) mC_X6_letterIndex mZ_X6 hd_X6_letterIndex mT_X6_letterIndex rfl rfl hml hR rfl hsum d kk
-- ===== RX4.readNumber
abbrev rm_X4_readNumber : Room := { frames := 2, cells := 0, slots := 0, locals := 41 }
def w_X4_readNumber  (σ : Mem) (K : Int32 → Mem → Prop) : Prop := (w_X4_takeDigit  σ (fun r2 σ1 => (br (r2 = 0) (K r2 σ1) (w_X4_isDigit  σ1 (fun r4 σ3 => (br (r4 = 0) (K r2 σ3) (w_X4_takeDigit  σ3 (fun r6 σ5 => (∀ v7 : Int32, v7 = ((r2 * 10) + r6) → (K v7 σ5))))))))))
set_option maxHeartbeats 4000000 in
set_option maxRecDepth 100000 in
theorem c_X4_readNumber (l : Launch) (L : Ly)  (σ : Mem) (K : Int32 → Mem → Prop)  (h : w_X4_readNumber  σ K) (sz : Nat) : Met l yX4_readNumber (.code yX4_readNumber cX4_readNumber 2 (some .int) :: wA) rm_X4_readNumber (va_Pc [.ref (lad L 302)] (mB L sz σ)) (va_Qi K (mE L) (mA L sz)) 0 0 (mA L sz) := by
  refine v_start (own := RX4) [(0, .ref (lad L 302))] (by decide) rfl (Nat.le_of_ble_eq_true rfl) rfl (fun p e s m args below meth c C hret hlk => ?_)
  unfold w_X4_readNumber at h
  refine v_aload_n C dX4_readNumber_0 rfl 0 rfl ?_
  refine k_X4_takeDigit C   h mM_X4_60 ⟨Nat.le_of_ble_eq_true rfl, Nat.le_of_ble_eq_true rfl⟩ (Nat.le_of_ble_eq_true rfl) dX4_readNumber_1 (fun r2 σ1 h => ?_)
  refine v_istore_n C [(1, .int r2), (0, .ref (lad L 302))] dX4_readNumber_4 rfl (by decide) rfl ?_
  refine v_iload_n C dX4_readNumber_5 rfl 0 rfl ?_
  refine v_if_eq C (tgt := 26) dX4_readNumber_6 (by decide) (fun hc => ?_) (fun hc => ?_)
  · replace h := h.1 hc
    refine v_iload_n C dX4_readNumber_26 rfl 0 rfl ?_
    exact v_iret C dX4_readNumber_27 hret hlk h
  · replace h := h.2 hc
    refine v_aload_n C dX4_readNumber_9 rfl 1 rfl ?_
    refine k_X4_isDigit C   h mM_X4_53 ⟨Nat.le_of_ble_eq_true rfl, Nat.le_of_ble_eq_true rfl⟩ (Nat.le_of_ble_eq_true rfl) dX4_readNumber_10 (fun r4 σ3 h => ?_)
    refine v_if_eq C (tgt := 26) dX4_readNumber_13 (by decide) (fun hc => ?_) (fun hc => ?_)
    · replace h := h.1 hc
      refine v_iload_n C dX4_readNumber_26 rfl 0 rfl ?_
      exact v_iret C dX4_readNumber_27 hret hlk h
    · replace h := h.2 hc
      refine v_iload_n C dX4_readNumber_16 rfl 0 rfl ?_
      refine v_bipush C (v := 10) dX4_readNumber_17 rfl ?_
      refine v_imul C dX4_readNumber_19 ?_
      refine v_aload_n C dX4_readNumber_20 rfl 1 rfl ?_
      refine k_X4_takeDigit C   h mM_X4_60 ⟨Nat.le_of_ble_eq_true rfl, Nat.le_of_ble_eq_true rfl⟩ (Nat.le_of_ble_eq_true rfl) dX4_readNumber_21 (fun r6 σ5 h => ?_)
      refine v_iadd C dX4_readNumber_24 ?_
      refine v_nm (fun v7 ev7 => ?_)
      replace h := h v7 ev7
      refine v_istore_n C [(1, .int v7), (0, .ref (lad L 302))] dX4_readNumber_25 rfl (by decide) rfl ?_
      refine v_iload_n C dX4_readNumber_26 rfl 0 rfl ?_
      exact v_iret C dX4_readNumber_27 hret hlk h
theorem hd_X4_readNumber : yX4_readNumber.cls ≠ "java/lang/invoke/MethodHandle" ∧ yX4_readNumber.cls ≠ "java/lang/invoke/VarHandle" ∧ (parseMethodDescriptor yX4_readNumber.desc).map (fun d => d.parameters.length) = some 0 := by decide +kernel
theorem k_X4_readNumber {p : Program} {l : Launch} {e : Env} {R : Room} {s : State} {m : MethodId} {args : Array Value} {below : List Frame} {meth : Method} {c : Code} {nL cells slots : Nat} {Q : State → Prop} {A : Nat → Prop} {L : Ly} {own : String} {cc : ByteArray} {σ : Mem} {pc idx : Nat} {lv : List (Nat × Value)} {st : List Value} {K : Int32 → Mem → Prop} (C : Cx p R s m args meth c own cc nL cells slots A L)   (h : w_X4_readNumber  σ K) (hml : Cond.methodLink own idx yX4_readNumber ∈ wA) (hR : rm_X4_readNumber.frames + 1 ≤ R.frames ∧ 8 + (2 + 11) + rm_X4_readNumber.locals ≤ R.locals) (hsum : (st.map fun v => v.category).sum ≤ 8) (d : decode cc pc = .ok (.invokevirtual idx, 3)) (kk : ∀ r σ1, K r σ1 → V p l e R s m args below meth c nL cells slots Q A L σ1 (pc + 3) lv (.int r :: st)) : V p l e R s m args below meth c nL cells slots Q A L σ pc lv (.ref (lad L 302) :: st) := v_callVi C [] (fun sz => c_X4_readNumber l L  σ _  h sz) mC_X4_readNumber mZ_X4 hd_X4_readNumber mI_X4_readNumber mS_X4_readNumber rfl rfl (c0 := 4) (ci := 4) (by decide) rfl rfl rfl kdn_302 hml hR rfl hsum d kk
-- ===== RX4.readWeight
abbrev rm_X4_readWeight : Room := { frames := 3, cells := 0, slots := 0, locals := 62 }
def w_X4_readWeight  (σ : Mem) (K : Int32 → Mem → Prop) : Prop := (w_X4_isDigit  σ (fun r2 σ1 => (br (r2 = 0) (K 1 σ1) (w_X4_sign  σ1 (fun r4 σ3 => (br (r4 = 48) (K 1 σ3) (w_X4_readNumber  σ3 (fun r6 σ5 => (K r6 σ5)))))))))
set_option maxHeartbeats 4000000 in
set_option maxRecDepth 100000 in
theorem c_X4_readWeight (l : Launch) (L : Ly)  (σ : Mem) (K : Int32 → Mem → Prop)  (h : w_X4_readWeight  σ K) (sz : Nat) : Met l yX4_readWeight (.code yX4_readWeight cX4_readWeight 1 (some .int) :: wA) rm_X4_readWeight (va_Pc [.ref (lad L 302)] (mB L sz σ)) (va_Qi K (mE L) (mA L sz)) 0 0 (mA L sz) := by
  refine v_start (own := RX4) [(0, .ref (lad L 302))] (by decide) rfl (Nat.le_of_ble_eq_true rfl) rfl (fun p e s m args below meth c C hret hlk => ?_)
  unfold w_X4_readWeight at h
  refine v_aload_n C dX4_readWeight_0 rfl 0 rfl ?_
  refine k_X4_isDigit C   h mM_X4_53 ⟨Nat.le_of_ble_eq_true rfl, Nat.le_of_ble_eq_true rfl⟩ (Nat.le_of_ble_eq_true rfl) dX4_readWeight_1 (fun r2 σ1 h => ?_)
  refine v_if_eq C (tgt := 23) dX4_readWeight_4 (by decide) (fun hc => ?_) (fun hc => ?_)
  · replace h := h.1 hc
    refine v_iconst C (v := 1) dX4_readWeight_23 rfl ?_
    exact v_iret C dX4_readWeight_24 hret hlk h
  · replace h := h.2 hc
    refine v_aload_n C dX4_readWeight_7 rfl 0 rfl ?_
    refine k_X4_sign C   h mM_X4_41 ⟨Nat.le_of_ble_eq_true rfl, Nat.le_of_ble_eq_true rfl⟩ (Nat.le_of_ble_eq_true rfl) dX4_readWeight_8 (fun r4 σ3 h => ?_)
    refine v_bipush C (v := 48) dX4_readWeight_11 rfl ?_
    refine v_icmp_eq C (tgt := 23) dX4_readWeight_13 (by decide) (fun hc => ?_) (fun hc => ?_)
    · replace h := h.1 hc
      refine v_iconst C (v := 1) dX4_readWeight_23 rfl ?_
      exact v_iret C dX4_readWeight_24 hret hlk h
    · replace h := h.2 hc
      refine v_aload_n C dX4_readWeight_16 rfl 0 rfl ?_
      refine k_X4_readNumber C   h mM_X4_57 ⟨Nat.le_of_ble_eq_true rfl, Nat.le_of_ble_eq_true rfl⟩ (Nat.le_of_ble_eq_true rfl) dX4_readWeight_17 (fun r6 σ5 h => ?_)
      refine v_goto C (tgt := 24) dX4_readWeight_20 (by decide) ?_
      exact v_iret C dX4_readWeight_24 hret hlk h
theorem hd_X4_readWeight : yX4_readWeight.cls ≠ "java/lang/invoke/MethodHandle" ∧ yX4_readWeight.cls ≠ "java/lang/invoke/VarHandle" ∧ (parseMethodDescriptor yX4_readWeight.desc).map (fun d => d.parameters.length) = some 0 := by decide +kernel
theorem k_X4_readWeight {p : Program} {l : Launch} {e : Env} {R : Room} {s : State} {m : MethodId} {args : Array Value} {below : List Frame} {meth : Method} {c : Code} {nL cells slots : Nat} {Q : State → Prop} {A : Nat → Prop} {L : Ly} {own : String} {cc : ByteArray} {σ : Mem} {pc idx : Nat} {lv : List (Nat × Value)} {st : List Value} {K : Int32 → Mem → Prop} (C : Cx p R s m args meth c own cc nL cells slots A L)   (h : w_X4_readWeight  σ K) (hml : Cond.methodLink own idx yX4_readWeight ∈ wA) (hR : rm_X4_readWeight.frames + 1 ≤ R.frames ∧ 8 + (1 + 11) + rm_X4_readWeight.locals ≤ R.locals) (hsum : (st.map fun v => v.category).sum ≤ 8) (d : decode cc pc = .ok (.invokevirtual idx, 3)) (kk : ∀ r σ1, K r σ1 → V p l e R s m args below meth c nL cells slots Q A L σ1 (pc + 3) lv (.int r :: st)) : V p l e R s m args below meth c nL cells slots Q A L σ pc lv (.ref (lad L 302) :: st) := v_callVi C [] (fun sz => c_X4_readWeight l L  σ _  h sz) mC_X4_readWeight mZ_X4 hd_X4_readWeight mI_X4_readWeight mS_X4_readWeight rfl rfl (c0 := 4) (ci := 4) (by decide) rfl rfl rfl kdn_302 hml hR rfl hsum d kk
-- ===== RX4.readArrivals
abbrev rm_X4_readArrivals : Room := { frames := 4, cells := 0, slots := 0, locals := 82 }
def w_X4_readArrivals_95  (K : Int32 → Mem → Prop) (A14 : Int32 → Int32 → Mem → Prop) (x2 : Int32) (s0 : Int32) (σ : Mem) : Prop := (br (s0 = 0) (A14 s0 (x2 + 1) σ) (w_X4_sign  σ (fun r16 σ15 => (br (r16 = 44) (∀ σ17 : Mem, σ17 = mu σ15 302 8 ((σ15 302 8) + 1) → (A14 s0 (x2 + 1) σ17)) (K (σ15 302 8) σ15)))))
set_option maxHeartbeats 4000000 in
set_option maxRecDepth 100000 in
theorem b_X4_readArrivals_95 {p : Program} {l : Launch} {e : Env} {s : State} {m : MethodId} {args : Array Value} {below : List Frame} {meth : Method} {c : Code} {L : Ly} {sz : Nat} (C : Cx p rm_X4_readArrivals s m args meth c RX4 cX4_readArrivals 4 0 0 (mA L sz) L) (hret : meth.sig.returnType = (some .int)) (hlk : meth.locks = false)   (K : Int32 → Mem → Prop) (A14 : Int32 → Int32 → Mem → Prop) (hA14 : ∀ (x1 : Int32) (x2 : Int32) (σ : Mem), A14 x1 x2 σ → V p l e rm_X4_readArrivals s m args below meth c 4 0 0 (MQ below (va_Qi K (mE L) (mA L sz)) args s 0 0 (mA L sz)) (mA L sz) L σ 14 [(0, .ref (lad L 302)), (1, .int x1), (2, .int x2)] []) (x2 : Int32) (s0 : Int32) (σ : Mem)  (h : w_X4_readArrivals_95  K A14 x2 s0 σ) : V p l e rm_X4_readArrivals s m args below meth c 4 0 0 (MQ below (va_Qi K (mE L) (mA L sz)) args s 0 0 (mA L sz)) (mA L sz) L σ 95 [(0, .ref (lad L 302)), (2, .int x2)] [.int s0] := by
  unfold w_X4_readArrivals_95 at h
  refine v_istore_n C [(1, .int s0), (0, .ref (lad L 302)), (2, .int x2)] dX4_readArrivals_95 rfl (by decide) rfl ?_
  refine v_iload_n C dX4_readArrivals_96 rfl 0 rfl ?_
  refine v_if_eq C (tgt := 124) dX4_readArrivals_97 (by decide) (fun hc => ?_) (fun hc => ?_)
  · replace h := h.1 hc
    refine v_iinc C [(2, .int (x2 + 1)), (1, .int s0), (0, .ref (lad L 302))] dX4_readArrivals_124 2 rfl rfl (by decide) rfl ?_
    refine v_goto C (tgt := 14) dX4_readArrivals_127 (by decide) ?_
    refine v_sub [2, 1, 0] rfl ?_
    exact hA14 _ _ _  h
  · replace h := h.2 hc
    refine v_aload_n C dX4_readArrivals_100 rfl 1 rfl ?_
    refine k_X4_sign C   h mM_X4_41 ⟨Nat.le_of_ble_eq_true rfl, Nat.le_of_ble_eq_true rfl⟩ (Nat.le_of_ble_eq_true rfl) dX4_readArrivals_101 (fun r16 σ15 h => ?_)
    refine v_bipush C (v := 44) dX4_readArrivals_104 rfl ?_
    refine v_icmp_eq C (tgt := 114) dX4_readArrivals_106 (by decide) (fun hc => ?_) (fun hc => ?_)
    · replace h := h.1 hc
      refine v_aload_n C dX4_readArrivals_114 rfl 1 rfl ?_
      refine v_dup C dX4_readArrivals_115 rfl ?_
      refine g_4_at C kdn_302 mF_X4_38 dX4_readArrivals_116 ?_
      refine v_iconst C (v := 1) dX4_readArrivals_119 rfl ?_
      refine v_iadd C dX4_readArrivals_120 ?_
      refine p_4_at C kdn_302 mF_X4_38 dX4_readArrivals_121 (fun σ17 eσ17 => ?_)
      replace h := h σ17 eσ17
      refine v_iinc C [(2, .int (x2 + 1)), (1, .int s0), (0, .ref (lad L 302))] dX4_readArrivals_124 2 rfl rfl (by decide) rfl ?_
      refine v_goto C (tgt := 14) dX4_readArrivals_127 (by decide) ?_
      refine v_sub [2, 1, 0] rfl ?_
      exact hA14 _ _ _  h
    · replace h := h.2 hc
      refine v_aload_n C dX4_readArrivals_109 rfl 1 rfl ?_
      refine g_4_at C kdn_302 mF_X4_38 dX4_readArrivals_110 ?_
      exact v_iret C dX4_readArrivals_113 hret hlk h
def w_X4_readArrivals_14  (K : Int32 → Mem → Prop)  : Nat → Int32 → Int32 → Mem → Prop
  | 0, _, _, _ => False
  | n + 1, x1, x2, σ => (br (60 ≤ x2) (K (-1) σ) (br (x1 = 0) (K (-1) σ) (w_X4_sign  σ (fun r4 σ3 => (w_X6_letterIndex r4 σ3 (fun r6 σ5 => (br (r6 = (-1)) (K (σ5 302 8) σ5) (∀ σ7 : Mem, σ7 = mu σ5 302 8 ((σ5 302 8) + 1) → (vp_in x2 60 ∧ ∀ σ9 : Mem, σ9 = mu σ7 304 (ix x2) r6 → (w_X4_readWeight  σ9 (fun r11 σ10 => (vp_in x2 60 ∧ ∀ σ13 : Mem, σ13 = mu σ10 305 (ix x2) r11 → (∀ σ14 : Mem, σ14 = mu σ13 302 4 ((σ13 302 4) + 1) → (br ((σ14 302 1) ≤ (σ14 302 8)) (w_X4_readArrivals_95  K (w_X4_readArrivals_14  K  n) x2 0 σ14) (w_X4_readArrivals_95  K (w_X4_readArrivals_14  K  n) x2 1 σ14)))))))))))))))
set_option maxHeartbeats 4000000 in
set_option maxRecDepth 100000 in
theorem b_X4_readArrivals_14 {p : Program} {l : Launch} {e : Env} {s : State} {m : MethodId} {args : Array Value} {below : List Frame} {meth : Method} {c : Code} {L : Ly} {sz : Nat} (C : Cx p rm_X4_readArrivals s m args meth c RX4 cX4_readArrivals 4 0 0 (mA L sz) L) (hret : meth.sig.returnType = (some .int)) (hlk : meth.locks = false)   (K : Int32 → Mem → Prop)  : ∀ (n : Nat) (x1 : Int32) (x2 : Int32) (σ : Mem), w_X4_readArrivals_14  K  n x1 x2 σ → V p l e rm_X4_readArrivals s m args below meth c 4 0 0 (MQ below (va_Qi K (mE L) (mA L sz)) args s 0 0 (mA L sz)) (mA L sz) L σ 14 [(0, .ref (lad L 302)), (1, .int x1), (2, .int x2)] [] := by
  intro n
  induction n with
  | zero => intro x1 x2 σ  h; exact h.elim
  | succ n ih =>
    intro x1 x2 σ  h
    rw [w_X4_readArrivals_14] at h
    refine v_iload_n C dX4_readArrivals_14 rfl 2 rfl ?_
    refine v_bipush C (v := 60) dX4_readArrivals_15 rfl ?_
    refine v_icmp_ge C (tgt := 130) dX4_readArrivals_17 (by decide) (fun hc => ?_) (fun hc => ?_)
    · replace h := h.1 hc
      refine v_iconst C (v := (-1)) dX4_readArrivals_130 rfl ?_
      exact v_iret C dX4_readArrivals_131 hret hlk h
    · replace h := h.2 hc
      refine v_iload_n C dX4_readArrivals_20 rfl 1 rfl ?_
      refine v_if_eq C (tgt := 130) dX4_readArrivals_21 (by decide) (fun hc => ?_) (fun hc => ?_)
      · replace h := h.1 hc
        refine v_iconst C (v := (-1)) dX4_readArrivals_130 rfl ?_
        exact v_iret C dX4_readArrivals_131 hret hlk h
      · replace h := h.2 hc
        refine v_aload_n C dX4_readArrivals_24 rfl 0 rfl ?_
        refine k_X4_sign C   h mM_X4_41 ⟨Nat.le_of_ble_eq_true rfl, Nat.le_of_ble_eq_true rfl⟩ (Nat.le_of_ble_eq_true rfl) dX4_readArrivals_25 (fun r4 σ3 h => ?_)
        refine k_X6_letterIndex C r4  h C.2.2.2.2.2.2.2.2.1.2.1 ⟨Nat.le_of_ble_eq_true rfl, Nat.le_of_ble_eq_true rfl⟩ (Nat.le_of_ble_eq_true rfl) dX4_readArrivals_28 (fun r6 σ5 h => ?_)
        refine v_istore_n C [(3, .int r6), (0, .ref (lad L 302)), (1, .int x1), (2, .int x2)] dX4_readArrivals_31 rfl (by decide) rfl ?_
        refine v_iload_n C dX4_readArrivals_32 rfl 0 rfl ?_
        refine v_iconst C (v := (-1)) dX4_readArrivals_33 rfl ?_
        refine v_icmp_ne C (tgt := 42) dX4_readArrivals_34 (by decide) (fun hc => ?_) (fun hc => ?_)
        · replace h := h.2 hc
          refine v_aload_n C dX4_readArrivals_42 rfl 1 rfl ?_
          refine v_dup C dX4_readArrivals_43 rfl ?_
          refine g_4_at C kdn_302 mF_X4_38 dX4_readArrivals_44 ?_
          refine v_iconst C (v := 1) dX4_readArrivals_47 rfl ?_
          refine v_iadd C dX4_readArrivals_48 ?_
          refine p_4_at C kdn_302 mF_X4_38 dX4_readArrivals_49 (fun σ7 eσ7 => ?_)
          replace h := h σ7 eσ7
          refine v_aload_n C dX4_readArrivals_52 rfl 1 rfl ?_
          refine g_4_letters C kdn_302 mF_X4_19 dX4_readArrivals_53 ?_
          refine v_iload_n C dX4_readArrivals_56 rfl 3 rfl ?_
          refine v_iload_n C dX4_readArrivals_57 rfl 0 rfl ?_
          obtain ⟨hi8, h⟩ := h
          refine v_iast C (c0 := 22) (by decide) (fun _ => rfl) kdn_304 hi8 dX4_readArrivals_58 (fun σ9 eσ9 => ?_)
          replace h := h σ9 eσ9
          refine v_aload_n C dX4_readArrivals_59 rfl 1 rfl ?_
          refine g_4_weights C kdn_302 mF_X4_23 dX4_readArrivals_60 ?_
          refine v_iload_n C dX4_readArrivals_63 rfl 3 rfl ?_
          refine v_aload_n C dX4_readArrivals_64 rfl 1 rfl ?_
          refine k_X4_readWeight C   h mM_X4_49 ⟨Nat.le_of_ble_eq_true rfl, Nat.le_of_ble_eq_true rfl⟩ (Nat.le_of_ble_eq_true rfl) dX4_readArrivals_65 (fun r11 σ10 h => ?_)
          obtain ⟨hi12, h⟩ := h
          refine v_iast C (c0 := 22) (by decide) (fun _ => rfl) kdn_305 hi12 dX4_readArrivals_68 (fun σ13 eσ13 => ?_)
          replace h := h σ13 eσ13
          refine v_aload_n C dX4_readArrivals_69 rfl 1 rfl ?_
          refine v_dup C dX4_readArrivals_70 rfl ?_
          refine g_4_arrivals C kdn_302 mF_X4_26 dX4_readArrivals_71 ?_
          refine v_iconst C (v := 1) dX4_readArrivals_74 rfl ?_
          refine v_iadd C dX4_readArrivals_75 ?_
          refine p_4_arrivals C kdn_302 mF_X4_26 dX4_readArrivals_76 (fun σ14 eσ14 => ?_)
          replace h := h σ14 eσ14
          refine v_aload_n C dX4_readArrivals_79 rfl 1 rfl ?_
          refine g_4_at C kdn_302 mF_X4_38 dX4_readArrivals_80 ?_
          refine v_aload_n C dX4_readArrivals_83 rfl 1 rfl ?_
          refine g_4_length C kdn_302 mF_X4_15 dX4_readArrivals_84 ?_
          refine v_icmp_ge C (tgt := 94) dX4_readArrivals_87 (by decide) (fun hc => ?_) (fun hc => ?_)
          · replace h := h.1 hc
            refine v_iconst C (v := 0) dX4_readArrivals_94 rfl ?_
            refine v_sub [1, 3] rfl ?_
            exact b_X4_readArrivals_95 C hret hlk   K _ ih _ _ _  h
          · replace h := h.2 hc
            refine v_iconst C (v := 1) dX4_readArrivals_90 rfl ?_
            refine v_goto C (tgt := 95) dX4_readArrivals_91 (by decide) ?_
            refine v_sub [1, 3] rfl ?_
            exact b_X4_readArrivals_95 C hret hlk   K _ ih _ _ _  h
        · replace h := h.1 hc
          refine v_aload_n C dX4_readArrivals_37 rfl 1 rfl ?_
          refine g_4_at C kdn_302 mF_X4_38 dX4_readArrivals_38 ?_
          exact v_iret C dX4_readArrivals_41 hret hlk h
def w_X4_readArrivals  (σ : Mem) (K : Int32 → Mem → Prop) : Prop := (∀ σ1 : Mem, σ1 = mu σ 302 8 0 → (∀ σ2 : Mem, σ2 = mu σ1 302 4 0 → (∃ n18, w_X4_readArrivals_14  K  n18 1 0 σ2)))
set_option maxHeartbeats 4000000 in
set_option maxRecDepth 100000 in
theorem c_X4_readArrivals (l : Launch) (L : Ly)  (σ : Mem) (K : Int32 → Mem → Prop)  (h : w_X4_readArrivals  σ K) (sz : Nat) : Met l yX4_readArrivals (.code yX4_readArrivals cX4_readArrivals 4 (some .int) :: wA) rm_X4_readArrivals (va_Pc [.ref (lad L 302)] (mB L sz σ)) (va_Qi K (mE L) (mA L sz)) 0 0 (mA L sz) := by
  refine v_start (own := RX4) [(0, .ref (lad L 302))] (by decide) rfl (Nat.le_of_ble_eq_true rfl) rfl (fun p e s m args below meth c C hret hlk => ?_)
  unfold w_X4_readArrivals at h
  refine v_aload_n C dX4_readArrivals_0 rfl 0 rfl ?_
  refine v_iconst C (v := 0) dX4_readArrivals_1 rfl ?_
  refine p_4_at C kdn_302 mF_X4_38 dX4_readArrivals_2 (fun σ1 eσ1 => ?_)
  replace h := h σ1 eσ1
  refine v_aload_n C dX4_readArrivals_5 rfl 0 rfl ?_
  refine v_iconst C (v := 0) dX4_readArrivals_6 rfl ?_
  refine p_4_arrivals C kdn_302 mF_X4_26 dX4_readArrivals_7 (fun σ2 eσ2 => ?_)
  replace h := h σ2 eσ2
  refine v_iconst C (v := 1) dX4_readArrivals_10 rfl ?_
  refine v_istore_n C [(1, .int 1), (0, .ref (lad L 302))] dX4_readArrivals_11 rfl (by decide) rfl ?_
  refine v_iconst C (v := 0) dX4_readArrivals_12 rfl ?_
  refine v_istore_n C [(2, .int 0), (1, .int 1), (0, .ref (lad L 302))] dX4_readArrivals_13 rfl (by decide) rfl ?_
  obtain ⟨n18, h⟩ := h
  refine v_sub [2, 1, 0] rfl ?_
  exact b_X4_readArrivals_14 C hret hlk   K   n18 _ _ _  h
theorem hd_X4_readArrivals : yX4_readArrivals.cls ≠ "java/lang/invoke/MethodHandle" ∧ yX4_readArrivals.cls ≠ "java/lang/invoke/VarHandle" ∧ (parseMethodDescriptor yX4_readArrivals.desc).map (fun d => d.parameters.length) = some 0 := by decide +kernel
theorem k_X4_readArrivals {p : Program} {l : Launch} {e : Env} {R : Room} {s : State} {m : MethodId} {args : Array Value} {below : List Frame} {meth : Method} {c : Code} {nL cells slots : Nat} {Q : State → Prop} {A : Nat → Prop} {L : Ly} {own : String} {cc : ByteArray} {σ : Mem} {pc idx : Nat} {lv : List (Nat × Value)} {st : List Value} {K : Int32 → Mem → Prop} (C : Cx p R s m args meth c own cc nL cells slots A L)   (h : w_X4_readArrivals  σ K) (hml : Cond.methodLink own idx yX4_readArrivals ∈ wA) (hR : rm_X4_readArrivals.frames + 1 ≤ R.frames ∧ 8 + (4 + 11) + rm_X4_readArrivals.locals ≤ R.locals) (hsum : (st.map fun v => v.category).sum ≤ 8) (d : decode cc pc = .ok (.invokevirtual idx, 3)) (kk : ∀ r σ1, K r σ1 → V p l e R s m args below meth c nL cells slots Q A L σ1 (pc + 3) lv (.int r :: st)) : V p l e R s m args below meth c nL cells slots Q A L σ pc lv (.ref (lad L 302) :: st) := v_callVi C [] (fun sz => c_X4_readArrivals l L  σ _  h sz) mC_X4_readArrivals mZ_X4 hd_X4_readArrivals mI_X4_readArrivals mS_X4_readArrivals rfl rfl (c0 := 4) (ci := 4) (by decide) rfl rfl rfl kdn_302 hml hR rfl hsum d kk
-- ===== RX4.totalWeight
abbrev rm_X4_totalWeight : Room := { frames := 0, cells := 0, slots := 0, locals := 0 }
def w_X4_totalWeight_4  (K : Int32 → Mem → Prop)  : Nat → Int32 → Int32 → Mem → Prop
  | 0, _, _, _ => False
  | n + 1, x1, x2, σ => (br ((σ 302 4) ≤ x2) (K x1 σ) (vp_in x2 60 ∧ (∀ v2 : Int32, v2 = (x1 + (σ 305 (ix x2))) → (w_X4_totalWeight_4  K  n v2 (x2 + 1) σ))))
set_option maxHeartbeats 4000000 in
set_option maxRecDepth 100000 in
theorem b_X4_totalWeight_4 {p : Program} {l : Launch} {e : Env} {s : State} {m : MethodId} {args : Array Value} {below : List Frame} {meth : Method} {c : Code} {L : Ly} {sz : Nat} (C : Cx p rm_X4_totalWeight s m args meth c RX4 cX4_totalWeight 3 0 0 (mA L sz) L) (hret : meth.sig.returnType = (some .int)) (hlk : meth.locks = false)   (K : Int32 → Mem → Prop)  : ∀ (n : Nat) (x1 : Int32) (x2 : Int32) (σ : Mem), w_X4_totalWeight_4  K  n x1 x2 σ → V p l e rm_X4_totalWeight s m args below meth c 3 0 0 (MQ below (va_Qi K (mE L) (mA L sz)) args s 0 0 (mA L sz)) (mA L sz) L σ 4 [(0, .ref (lad L 302)), (1, .int x1), (2, .int x2)] [] := by
  intro n
  induction n with
  | zero => intro x1 x2 σ  h; exact h.elim
  | succ n ih =>
    intro x1 x2 σ  h
    rw [w_X4_totalWeight_4] at h
    refine v_iload_n C dX4_totalWeight_4 rfl 2 rfl ?_
    refine v_aload_n C dX4_totalWeight_5 rfl 0 rfl ?_
    refine g_4_arrivals C kdn_302 mF_X4_26 dX4_totalWeight_6 ?_
    refine v_icmp_ge C (tgt := 27) dX4_totalWeight_9 (by decide) (fun hc => ?_) (fun hc => ?_)
    · replace h := h.1 hc
      refine v_iload_n C dX4_totalWeight_27 rfl 1 rfl ?_
      exact v_iret C dX4_totalWeight_28 hret hlk h
    · replace h := h.2 hc
      refine v_iload_n C dX4_totalWeight_12 rfl 1 rfl ?_
      refine v_aload_n C dX4_totalWeight_13 rfl 0 rfl ?_
      refine g_4_weights C kdn_302 mF_X4_23 dX4_totalWeight_14 ?_
      refine v_iload_n C dX4_totalWeight_17 rfl 2 rfl ?_
      obtain ⟨hi1, h⟩ := h
      refine v_iald C (c0 := 22) (by decide) rfl kdn_305 hi1 dX4_totalWeight_18 ?_
      refine v_iadd C dX4_totalWeight_19 ?_
      refine v_nm (fun v2 ev2 => ?_)
      replace h := h v2 ev2
      refine v_istore_n C [(1, .int v2), (0, .ref (lad L 302)), (2, .int x2)] dX4_totalWeight_20 rfl (by decide) rfl ?_
      refine v_iinc C [(2, .int (x2 + 1)), (1, .int v2), (0, .ref (lad L 302))] dX4_totalWeight_21 2 rfl rfl (by decide) rfl ?_
      refine v_goto C (tgt := 4) dX4_totalWeight_24 (by decide) ?_
      refine v_sub [2, 1, 0] rfl ?_
      exact ih _ _ _  h
def w_X4_totalWeight  (σ : Mem) (K : Int32 → Mem → Prop) : Prop := (∃ n3, w_X4_totalWeight_4  K  n3 0 0 σ)
set_option maxHeartbeats 4000000 in
set_option maxRecDepth 100000 in
theorem c_X4_totalWeight (l : Launch) (L : Ly)  (σ : Mem) (K : Int32 → Mem → Prop)  (h : w_X4_totalWeight  σ K) (sz : Nat) : Met l yX4_totalWeight (.code yX4_totalWeight cX4_totalWeight 3 (some .int) :: wA) rm_X4_totalWeight (va_Pc [.ref (lad L 302)] (mB L sz σ)) (va_Qi K (mE L) (mA L sz)) 0 0 (mA L sz) := by
  refine v_start (own := RX4) [(0, .ref (lad L 302))] (by decide) rfl (Nat.le_of_ble_eq_true rfl) rfl (fun p e s m args below meth c C hret hlk => ?_)
  unfold w_X4_totalWeight at h
  refine v_iconst C (v := 0) dX4_totalWeight_0 rfl ?_
  refine v_istore_n C [(1, .int 0), (0, .ref (lad L 302))] dX4_totalWeight_1 rfl (by decide) rfl ?_
  refine v_iconst C (v := 0) dX4_totalWeight_2 rfl ?_
  refine v_istore_n C [(2, .int 0), (1, .int 0), (0, .ref (lad L 302))] dX4_totalWeight_3 rfl (by decide) rfl ?_
  obtain ⟨n3, h⟩ := h
  refine v_sub [2, 1, 0] rfl ?_
  exact b_X4_totalWeight_4 C hret hlk   K   n3 _ _ _  h
theorem hd_X4_totalWeight : yX4_totalWeight.cls ≠ "java/lang/invoke/MethodHandle" ∧ yX4_totalWeight.cls ≠ "java/lang/invoke/VarHandle" ∧ (parseMethodDescriptor yX4_totalWeight.desc).map (fun d => d.parameters.length) = some 0 := by decide +kernel
theorem k_X4_totalWeight {p : Program} {l : Launch} {e : Env} {R : Room} {s : State} {m : MethodId} {args : Array Value} {below : List Frame} {meth : Method} {c : Code} {nL cells slots : Nat} {Q : State → Prop} {A : Nat → Prop} {L : Ly} {own : String} {cc : ByteArray} {σ : Mem} {pc idx : Nat} {lv : List (Nat × Value)} {st : List Value} {K : Int32 → Mem → Prop} (C : Cx p R s m args meth c own cc nL cells slots A L)   (h : w_X4_totalWeight  σ K) (hml : Cond.methodLink own idx yX4_totalWeight ∈ wA) (hR : rm_X4_totalWeight.frames + 1 ≤ R.frames ∧ 8 + (3 + 11) + rm_X4_totalWeight.locals ≤ R.locals) (hsum : (st.map fun v => v.category).sum ≤ 8) (d : decode cc pc = .ok (.invokevirtual idx, 3)) (kk : ∀ r σ1, K r σ1 → V p l e R s m args below meth c nL cells slots Q A L σ1 (pc + 3) lv (.int r :: st)) : V p l e R s m args below meth c nL cells slots Q A L σ pc lv (.ref (lad L 302) :: st) := v_callVi C [] (fun sz => c_X4_totalWeight l L  σ _  h sz) mC_X4_totalWeight mZ_X4 hd_X4_totalWeight mI_X4_totalWeight mS_X4_totalWeight rfl rfl (c0 := 4) (ci := 4) (by decide) rfl rfl rfl kdn_302 hml hR rfl hsum d kk
-- ===== RX4.beginsWith
abbrev rm_X4_beginsWith : Room := { frames := 4, cells := 0, slots := 0, locals := 85 }
def w_X4_beginsWith_25 (i1 : Nat) (a2 : Int32) (K : Int32 → Mem → Prop)  : Nat → Int32 → Int32 → Mem → Prop
  | 0, _, _, _ => False
  | n + 1, x3, x4, σ => (br (a2 ≤ x4) (narrow .boolean (.int x3) = .int x3 ∧ K x3 σ) (br (x3 = 0) (narrow .boolean (.int x3) = .int x3 ∧ K x3 σ) (vp_in x4 60 ∧ (w_J0_charAt_5068e i1 x4 σ (fun r5 σ4 => (br ((σ 303 (ix x4)) = r5) (w_X4_beginsWith_25 i1 a2 K  n 1 (x4 + 1) σ4) (w_X4_beginsWith_25 i1 a2 K  n 0 (x4 + 1) σ4)))))))
set_option maxHeartbeats 4000000 in
set_option maxRecDepth 100000 in
theorem b_X4_beginsWith_25 {p : Program} {l : Launch} {e : Env} {s : State} {m : MethodId} {args : Array Value} {below : List Frame} {meth : Method} {c : Code} {L : Ly} {sz : Nat} (C : Cx p rm_X4_beginsWith s m args meth c RX4 cX4_beginsWith 5 0 0 (mA L sz) L) (hret : meth.sig.returnType = (some .boolean)) (hlk : meth.locks = false) (i1 : Nat) (a2 : Int32) (hi1 : i1 < 4) (K : Int32 → Mem → Prop)  : ∀ (n : Nat) (x3 : Int32) (x4 : Int32) (σ : Mem), w_X4_beginsWith_25 i1 a2 K  n x3 x4 σ → V p l e rm_X4_beginsWith s m args below meth c 5 0 0 (MQ below (va_Qi K (mE L) (mA L sz)) args s 0 0 (mA L sz)) (mA L sz) L σ 25 [(0, .ref (lad L 302)), (1, .ref (lK L i1)), (2, .int a2), (3, .int x3), (4, .int x4)] [] := by
  intro n
  induction n with
  | zero => intro x3 x4 σ  h; exact h.elim
  | succ n ih =>
    intro x3 x4 σ  h
    rw [w_X4_beginsWith_25] at h
    refine v_iload C dX4_beginsWith_25 4 rfl ?_
    refine v_iload_n C dX4_beginsWith_27 rfl 2 rfl ?_
    refine v_icmp_ge C (tgt := 63) dX4_beginsWith_28 (by decide) (fun hc => ?_) (fun hc => ?_)
    · replace h := h.1 hc
      refine v_iload_n C dX4_beginsWith_63 rfl 3 rfl ?_
      exact v_zret C dX4_beginsWith_64 hret hlk h.1 h.2
    · replace h := h.2 hc
      refine v_iload_n C dX4_beginsWith_31 rfl 3 rfl ?_
      refine v_if_eq C (tgt := 63) dX4_beginsWith_32 (by decide) (fun hc => ?_) (fun hc => ?_)
      · replace h := h.1 hc
        refine v_iload_n C dX4_beginsWith_63 rfl 3 rfl ?_
        exact v_zret C dX4_beginsWith_64 hret hlk h.1 h.2
      · replace h := h.2 hc
        refine v_aload_n C dX4_beginsWith_35 rfl 0 rfl ?_
        refine g_4_signs C kdn_302 mF_X4_9 dX4_beginsWith_36 ?_
        refine v_iload C dX4_beginsWith_39 4 rfl ?_
        obtain ⟨hi3, h⟩ := h
        refine v_cald C (c0 := 23) (by decide) rfl kdn_303 hi3 dX4_beginsWith_41 ?_
        refine v_aload_n C dX4_beginsWith_42 rfl 1 rfl ?_
        refine v_iload C dX4_beginsWith_43 4 rfl ?_
        refine k_J0_charAt_5068e C i1 x4 hi1 h mM_X4_86 ⟨Nat.le_of_ble_eq_true rfl, Nat.le_of_ble_eq_true rfl⟩ (Nat.le_of_ble_eq_true rfl) dX4_beginsWith_45 (fun r5 σ4 h => ?_)
        refine v_icmp_ne C (tgt := 55) dX4_beginsWith_48 (by decide) (fun hc => ?_) (fun hc => ?_)
        · replace h := h.2 hc
          refine v_iconst C (v := 0) dX4_beginsWith_55 rfl ?_
          refine v_istore_n C [(3, .int 0), (0, .ref (lad L 302)), (1, .ref (lK L i1)), (2, .int a2), (4, .int x4)] dX4_beginsWith_56 rfl (by decide) rfl ?_
          refine v_iinc C [(4, .int (x4 + 1)), (3, .int 0), (0, .ref (lad L 302)), (1, .ref (lK L i1)), (2, .int a2)] dX4_beginsWith_57 4 rfl rfl (by decide) rfl ?_
          refine v_goto C (tgt := 25) dX4_beginsWith_60 (by decide) ?_
          refine v_sub [2, 3, 4, 1, 0] rfl ?_
          exact ih _ _ _  h
        · replace h := h.1 hc
          refine v_iconst C (v := 1) dX4_beginsWith_51 rfl ?_
          refine v_goto C (tgt := 56) dX4_beginsWith_52 (by decide) ?_
          refine v_istore_n C [(3, .int 1), (0, .ref (lad L 302)), (1, .ref (lK L i1)), (2, .int a2), (4, .int x4)] dX4_beginsWith_56 rfl (by decide) rfl ?_
          refine v_iinc C [(4, .int (x4 + 1)), (3, .int 1), (0, .ref (lad L 302)), (1, .ref (lK L i1)), (2, .int a2)] dX4_beginsWith_57 4 rfl rfl (by decide) rfl ?_
          refine v_goto C (tgt := 25) dX4_beginsWith_60 (by decide) ?_
          refine v_sub [2, 3, 4, 1, 0] rfl ?_
          exact ih _ _ _  h
def w_X4_beginsWith (i1 : Nat) (a2 : Int32) (σ : Mem) (K : Int32 → Mem → Prop) : Prop := (w_J0_length_8abf5 i1 σ (fun r2 σ1 => (br (r2 = a2) (br ((σ1 302 1) < a2) (∃ n7, w_X4_beginsWith_25 i1 a2 K  n7 0 0 σ1) (∃ n8, w_X4_beginsWith_25 i1 a2 K  n8 1 0 σ1)) (∃ n6, w_X4_beginsWith_25 i1 a2 K  n6 0 0 σ1))))
set_option maxHeartbeats 4000000 in
set_option maxRecDepth 100000 in
theorem c_X4_beginsWith (l : Launch) (L : Ly) (i1 : Nat) (a2 : Int32) (σ : Mem) (K : Int32 → Mem → Prop) (hi1 : i1 < 4) (h : w_X4_beginsWith i1 a2 σ K) (sz : Nat) : Met l yX4_beginsWith (.code yX4_beginsWith cX4_beginsWith 5 (some .boolean) :: wA) rm_X4_beginsWith (va_Pc [.ref (lad L 302), .ref (lK L i1), .int a2] (mB L sz σ)) (va_Qi K (mE L) (mA L sz)) 0 0 (mA L sz) := by
  refine v_start (own := RX4) [(0, .ref (lad L 302)), (1, .ref (lK L i1)), (2, .int a2)] (by decide) rfl (Nat.le_of_ble_eq_true rfl) rfl (fun p e s m args below meth c C hret hlk => ?_)
  unfold w_X4_beginsWith at h
  refine v_aload_n C dX4_beginsWith_0 rfl 1 rfl ?_
  refine k_J0_length_8abf5 C i1 hi1 h mM_X4_82 ⟨Nat.le_of_ble_eq_true rfl, Nat.le_of_ble_eq_true rfl⟩ (Nat.le_of_ble_eq_true rfl) dX4_beginsWith_1 (fun r2 σ1 h => ?_)
  refine v_iload_n C dX4_beginsWith_4 rfl 2 rfl ?_
  refine v_icmp_ne C (tgt := 20) dX4_beginsWith_5 (by decide) (fun hc => ?_) (fun hc => ?_)
  · replace h := h.2 hc
    refine v_iconst C (v := 0) dX4_beginsWith_20 rfl ?_
    refine v_istore_n C [(3, .int 0), (0, .ref (lad L 302)), (1, .ref (lK L i1)), (2, .int a2)] dX4_beginsWith_21 rfl (by decide) rfl ?_
    refine v_iconst C (v := 0) dX4_beginsWith_22 rfl ?_
    refine v_istore C [(4, .int 0), (3, .int 0), (0, .ref (lad L 302)), (1, .ref (lK L i1)), (2, .int a2)] dX4_beginsWith_23 (by decide) rfl ?_
    obtain ⟨n6, h⟩ := h
    refine v_sub [2, 3, 4, 1, 0] rfl ?_
    exact b_X4_beginsWith_25 C hret hlk i1 a2 hi1 K   n6 _ _ _  h
  · replace h := h.1 hc
    refine v_iload_n C dX4_beginsWith_8 rfl 2 rfl ?_
    refine v_aload_n C dX4_beginsWith_9 rfl 0 rfl ?_
    refine g_4_length C kdn_302 mF_X4_15 dX4_beginsWith_10 ?_
    refine v_icmp_gt C (tgt := 20) dX4_beginsWith_13 (by decide) (fun hc => ?_) (fun hc => ?_)
    · replace h := h.1 hc
      refine v_iconst C (v := 0) dX4_beginsWith_20 rfl ?_
      refine v_istore_n C [(3, .int 0), (0, .ref (lad L 302)), (1, .ref (lK L i1)), (2, .int a2)] dX4_beginsWith_21 rfl (by decide) rfl ?_
      refine v_iconst C (v := 0) dX4_beginsWith_22 rfl ?_
      refine v_istore C [(4, .int 0), (3, .int 0), (0, .ref (lad L 302)), (1, .ref (lK L i1)), (2, .int a2)] dX4_beginsWith_23 (by decide) rfl ?_
      obtain ⟨n7, h⟩ := h
      refine v_sub [2, 3, 4, 1, 0] rfl ?_
      exact b_X4_beginsWith_25 C hret hlk i1 a2 hi1 K   n7 _ _ _  h
    · replace h := h.2 hc
      refine v_iconst C (v := 1) dX4_beginsWith_16 rfl ?_
      refine v_goto C (tgt := 21) dX4_beginsWith_17 (by decide) ?_
      refine v_istore_n C [(3, .int 1), (0, .ref (lad L 302)), (1, .ref (lK L i1)), (2, .int a2)] dX4_beginsWith_21 rfl (by decide) rfl ?_
      refine v_iconst C (v := 0) dX4_beginsWith_22 rfl ?_
      refine v_istore C [(4, .int 0), (3, .int 1), (0, .ref (lad L 302)), (1, .ref (lK L i1)), (2, .int a2)] dX4_beginsWith_23 (by decide) rfl ?_
      obtain ⟨n8, h⟩ := h
      refine v_sub [2, 3, 4, 1, 0] rfl ?_
      exact b_X4_beginsWith_25 C hret hlk i1 a2 hi1 K   n8 _ _ _  h
theorem hd_X4_beginsWith : yX4_beginsWith.cls ≠ "java/lang/invoke/MethodHandle" ∧ yX4_beginsWith.cls ≠ "java/lang/invoke/VarHandle" ∧ (parseMethodDescriptor yX4_beginsWith.desc).map (fun d => d.parameters.length) = some 2 := by decide +kernel
theorem k_X4_beginsWith {p : Program} {l : Launch} {e : Env} {R : Room} {s : State} {m : MethodId} {args : Array Value} {below : List Frame} {meth : Method} {c : Code} {nL cells slots : Nat} {Q : State → Prop} {A : Nat → Prop} {L : Ly} {own : String} {cc : ByteArray} {σ : Mem} {pc idx : Nat} {lv : List (Nat × Value)} {st : List Value} {K : Int32 → Mem → Prop} (C : Cx p R s m args meth c own cc nL cells slots A L) (i1 : Nat) (a2 : Int32) (hi1 : i1 < 4) (h : w_X4_beginsWith i1 a2 σ K) (hml : Cond.methodLink own idx yX4_beginsWith ∈ wA) (hR : rm_X4_beginsWith.frames + 1 ≤ R.frames ∧ 8 + (5 + 11) + rm_X4_beginsWith.locals ≤ R.locals) (hsum : (st.map fun v => v.category).sum ≤ 8) (d : decode cc pc = .ok (.invokevirtual idx, 3)) (kk : ∀ r σ1, K r σ1 → V p l e R s m args below meth c nL cells slots Q A L σ1 (pc + 3) lv (.int r :: st)) : V p l e R s m args below meth c nL cells slots Q A L σ pc lv (.int a2 :: .ref (lK L i1) :: .ref (lad L 302) :: st) := v_callVi C [.ref (lK L i1), .int a2] (fun sz => c_X4_beginsWith l L i1 a2 σ _ hi1 h sz) mC_X4_beginsWith mZ_X4 hd_X4_beginsWith mI_X4_beginsWith mS_X4_beginsWith rfl rfl (c0 := 4) (ci := 4) (by decide) rfl rfl rfl kdn_302 hml hR rfl hsum d kk
-- ===== RX4.wordBefore
abbrev rm_X4_wordBefore : Room := { frames := 5, cells := 0, slots := 0, locals := 109 }
def w_X4_wordBefore (a1 : Int32) (σ : Mem) (K : Int32 → Mem → Prop) : Prop := (w_X4_beginsWith 0 a1 σ (fun r2 σ1 => (br (r2 = 0) (w_X4_beginsWith 1 a1 σ1 (fun r4 σ3 => (br (r4 = 0) (w_X4_beginsWith 2 a1 σ3 (fun r6 σ5 => (br (r6 = 0) (w_X4_beginsWith 3 a1 σ5 (fun r8 σ7 => (br (r8 = 0) (K 0 σ7) (K 4 σ7)))) (K 3 σ5)))) (K 2 σ3)))) (K 1 σ1))))
set_option maxHeartbeats 4000000 in
set_option maxRecDepth 100000 in
theorem c_X4_wordBefore (l : Launch) (L : Ly) (a1 : Int32) (σ : Mem) (K : Int32 → Mem → Prop)  (h : w_X4_wordBefore a1 σ K) (sz : Nat) : Met l yX4_wordBefore (.code yX4_wordBefore cX4_wordBefore 2 (some .int) :: wA) rm_X4_wordBefore (va_Pc [.ref (lad L 302), .int a1] (mB L sz σ)) (va_Qi K (mE L) (mA L sz)) 0 0 (mA L sz) := by
  refine v_start (own := RX4) [(0, .ref (lad L 302)), (1, .int a1)] (by decide) rfl (Nat.le_of_ble_eq_true rfl) rfl (fun p e s m args below meth c C hret hlk => ?_)
  unfold w_X4_wordBefore at h
  refine v_aload_n C dX4_wordBefore_0 rfl 0 rfl ?_
  refine v_ldcS70 C dX4_wordBefore_1 ?_
  refine v_iload_n C dX4_wordBefore_3 rfl 1 rfl ?_
  refine k_X4_beginsWith C 0 a1 (by decide) h mM_X4_72 ⟨Nat.le_of_ble_eq_true rfl, Nat.le_of_ble_eq_true rfl⟩ (Nat.le_of_ble_eq_true rfl) dX4_wordBefore_4 (fun r2 σ1 h => ?_)
  refine v_if_eq C (tgt := 12) dX4_wordBefore_7 (by decide) (fun hc => ?_) (fun hc => ?_)
  · replace h := h.1 hc
    refine v_aload_n C dX4_wordBefore_12 rfl 0 rfl ?_
    refine v_ldcS76 C dX4_wordBefore_13 ?_
    refine v_iload_n C dX4_wordBefore_15 rfl 1 rfl ?_
    refine k_X4_beginsWith C 1 a1 (by decide) h mM_X4_72 ⟨Nat.le_of_ble_eq_true rfl, Nat.le_of_ble_eq_true rfl⟩ (Nat.le_of_ble_eq_true rfl) dX4_wordBefore_16 (fun r4 σ3 h => ?_)
    refine v_if_eq C (tgt := 24) dX4_wordBefore_19 (by decide) (fun hc => ?_) (fun hc => ?_)
    · replace h := h.1 hc
      refine v_aload_n C dX4_wordBefore_24 rfl 0 rfl ?_
      refine v_ldcS78 C dX4_wordBefore_25 ?_
      refine v_iload_n C dX4_wordBefore_27 rfl 1 rfl ?_
      refine k_X4_beginsWith C 2 a1 (by decide) h mM_X4_72 ⟨Nat.le_of_ble_eq_true rfl, Nat.le_of_ble_eq_true rfl⟩ (Nat.le_of_ble_eq_true rfl) dX4_wordBefore_28 (fun r6 σ5 h => ?_)
      refine v_if_eq C (tgt := 36) dX4_wordBefore_31 (by decide) (fun hc => ?_) (fun hc => ?_)
      · replace h := h.1 hc
        refine v_aload_n C dX4_wordBefore_36 rfl 0 rfl ?_
        refine v_ldcS80 C dX4_wordBefore_37 ?_
        refine v_iload_n C dX4_wordBefore_39 rfl 1 rfl ?_
        refine k_X4_beginsWith C 3 a1 (by decide) h mM_X4_72 ⟨Nat.le_of_ble_eq_true rfl, Nat.le_of_ble_eq_true rfl⟩ (Nat.le_of_ble_eq_true rfl) dX4_wordBefore_40 (fun r8 σ7 h => ?_)
        refine v_if_eq C (tgt := 50) dX4_wordBefore_43 (by decide) (fun hc => ?_) (fun hc => ?_)
        · replace h := h.1 hc
          refine v_iconst C (v := 0) dX4_wordBefore_50 rfl ?_
          exact v_iret C dX4_wordBefore_51 hret hlk h
        · replace h := h.2 hc
          refine v_iconst C (v := 4) dX4_wordBefore_46 rfl ?_
          refine v_goto C (tgt := 51) dX4_wordBefore_47 (by decide) ?_
          exact v_iret C dX4_wordBefore_51 hret hlk h
      · replace h := h.2 hc
        refine v_iconst C (v := 3) dX4_wordBefore_34 rfl ?_
        exact v_iret C dX4_wordBefore_35 hret hlk h
    · replace h := h.2 hc
      refine v_iconst C (v := 2) dX4_wordBefore_22 rfl ?_
      exact v_iret C dX4_wordBefore_23 hret hlk h
  · replace h := h.2 hc
    refine v_iconst C (v := 1) dX4_wordBefore_10 rfl ?_
    exact v_iret C dX4_wordBefore_11 hret hlk h
theorem hd_X4_wordBefore : yX4_wordBefore.cls ≠ "java/lang/invoke/MethodHandle" ∧ yX4_wordBefore.cls ≠ "java/lang/invoke/VarHandle" ∧ (parseMethodDescriptor yX4_wordBefore.desc).map (fun d => d.parameters.length) = some 1 := by decide +kernel
theorem k_X4_wordBefore {p : Program} {l : Launch} {e : Env} {R : Room} {s : State} {m : MethodId} {args : Array Value} {below : List Frame} {meth : Method} {c : Code} {nL cells slots : Nat} {Q : State → Prop} {A : Nat → Prop} {L : Ly} {own : String} {cc : ByteArray} {σ : Mem} {pc idx : Nat} {lv : List (Nat × Value)} {st : List Value} {K : Int32 → Mem → Prop} (C : Cx p R s m args meth c own cc nL cells slots A L) (a1 : Int32)  (h : w_X4_wordBefore a1 σ K) (hml : Cond.methodLink own idx yX4_wordBefore ∈ wA) (hR : rm_X4_wordBefore.frames + 1 ≤ R.frames ∧ 8 + (2 + 11) + rm_X4_wordBefore.locals ≤ R.locals) (hsum : (st.map fun v => v.category).sum ≤ 8) (d : decode cc pc = .ok (.invokevirtual idx, 3)) (kk : ∀ r σ1, K r σ1 → V p l e R s m args below meth c nL cells slots Q A L σ1 (pc + 3) lv (.int r :: st)) : V p l e R s m args below meth c nL cells slots Q A L σ pc lv (.int a1 :: .ref (lad L 302) :: st) := v_callVi C [.int a1] (fun sz => c_X4_wordBefore l L a1 σ _  h sz) mC_X4_wordBefore mZ_X4 hd_X4_wordBefore mI_X4_wordBefore mS_X4_wordBefore rfl rfl (c0 := 4) (ci := 4) (by decide) rfl rfl rfl kdn_302 hml hR rfl hsum d kk
-- ===== RX4.readArgument
abbrev rm_X4_readArgument : Room := { frames := 3, cells := 0, slots := 0, locals := 62 }
def w_X4_readArgument  (σ : Mem) (K : Int32 → Mem → Prop) : Prop := (w_X4_sign  σ (fun r2 σ1 => (br (r2 = 32) (∀ σ3 : Mem, σ3 = mu σ1 302 8 ((σ1 302 8) + 1) → (w_X4_isDigit  σ3 (fun r5 σ4 => (br (r5 = 0) (K (-1) σ4) (w_X4_readNumber  σ4 (fun r7 σ6 => (K r7 σ6))))))) (K (-1) σ1))))
set_option maxHeartbeats 4000000 in
set_option maxRecDepth 100000 in
theorem c_X4_readArgument (l : Launch) (L : Ly)  (σ : Mem) (K : Int32 → Mem → Prop)  (h : w_X4_readArgument  σ K) (sz : Nat) : Met l yX4_readArgument (.code yX4_readArgument cX4_readArgument 1 (some .int) :: wA) rm_X4_readArgument (va_Pc [.ref (lad L 302)] (mB L sz σ)) (va_Qi K (mE L) (mA L sz)) 0 0 (mA L sz) := by
  refine v_start (own := RX4) [(0, .ref (lad L 302))] (by decide) rfl (Nat.le_of_ble_eq_true rfl) rfl (fun p e s m args below meth c C hret hlk => ?_)
  unfold w_X4_readArgument at h
  refine v_aload_n C dX4_readArgument_0 rfl 0 rfl ?_
  refine k_X4_sign C   h mM_X4_41 ⟨Nat.le_of_ble_eq_true rfl, Nat.le_of_ble_eq_true rfl⟩ (Nat.le_of_ble_eq_true rfl) dX4_readArgument_1 (fun r2 σ1 h => ?_)
  refine v_bipush C (v := 32) dX4_readArgument_4 rfl ?_
  refine v_icmp_eq C (tgt := 11) dX4_readArgument_6 (by decide) (fun hc => ?_) (fun hc => ?_)
  · replace h := h.1 hc
    refine v_aload_n C dX4_readArgument_11 rfl 0 rfl ?_
    refine v_dup C dX4_readArgument_12 rfl ?_
    refine g_4_at C kdn_302 mF_X4_38 dX4_readArgument_13 ?_
    refine v_iconst C (v := 1) dX4_readArgument_16 rfl ?_
    refine v_iadd C dX4_readArgument_17 ?_
    refine p_4_at C kdn_302 mF_X4_38 dX4_readArgument_18 (fun σ3 eσ3 => ?_)
    replace h := h σ3 eσ3
    refine v_aload_n C dX4_readArgument_21 rfl 0 rfl ?_
    refine k_X4_isDigit C   h mM_X4_53 ⟨Nat.le_of_ble_eq_true rfl, Nat.le_of_ble_eq_true rfl⟩ (Nat.le_of_ble_eq_true rfl) dX4_readArgument_22 (fun r5 σ4 h => ?_)
    refine v_if_eq C (tgt := 35) dX4_readArgument_25 (by decide) (fun hc => ?_) (fun hc => ?_)
    · replace h := h.1 hc
      refine v_iconst C (v := (-1)) dX4_readArgument_35 rfl ?_
      exact v_iret C dX4_readArgument_36 hret hlk h
    · replace h := h.2 hc
      refine v_aload_n C dX4_readArgument_28 rfl 0 rfl ?_
      refine k_X4_readNumber C   h mM_X4_57 ⟨Nat.le_of_ble_eq_true rfl, Nat.le_of_ble_eq_true rfl⟩ (Nat.le_of_ble_eq_true rfl) dX4_readArgument_29 (fun r7 σ6 h => ?_)
      refine v_goto C (tgt := 36) dX4_readArgument_32 (by decide) ?_
      exact v_iret C dX4_readArgument_36 hret hlk h
  · replace h := h.2 hc
    refine v_iconst C (v := (-1)) dX4_readArgument_9 rfl ?_
    exact v_iret C dX4_readArgument_10 hret hlk h
theorem hd_X4_readArgument : yX4_readArgument.cls ≠ "java/lang/invoke/MethodHandle" ∧ yX4_readArgument.cls ≠ "java/lang/invoke/VarHandle" ∧ (parseMethodDescriptor yX4_readArgument.desc).map (fun d => d.parameters.length) = some 0 := by decide +kernel
theorem k_X4_readArgument {p : Program} {l : Launch} {e : Env} {R : Room} {s : State} {m : MethodId} {args : Array Value} {below : List Frame} {meth : Method} {c : Code} {nL cells slots : Nat} {Q : State → Prop} {A : Nat → Prop} {L : Ly} {own : String} {cc : ByteArray} {σ : Mem} {pc idx : Nat} {lv : List (Nat × Value)} {st : List Value} {K : Int32 → Mem → Prop} (C : Cx p R s m args meth c own cc nL cells slots A L)   (h : w_X4_readArgument  σ K) (hml : Cond.methodLink own idx yX4_readArgument ∈ wA) (hR : rm_X4_readArgument.frames + 1 ≤ R.frames ∧ 8 + (1 + 11) + rm_X4_readArgument.locals ≤ R.locals) (hsum : (st.map fun v => v.category).sum ≤ 8) (d : decode cc pc = .ok (.invokevirtual idx, 3)) (kk : ∀ r σ1, K r σ1 → V p l e R s m args below meth c nL cells slots Q A L σ1 (pc + 3) lv (.int r :: st)) : V p l e R s m args below meth c nL cells slots Q A L σ pc lv (.ref (lad L 302) :: st) := v_callVi C [] (fun sz => c_X4_readArgument l L  σ _  h sz) mC_X4_readArgument mZ_X4 hd_X4_readArgument mI_X4_readArgument mS_X4_readArgument rfl rfl (c0 := 4) (ci := 4) (by decide) rfl rfl rfl kdn_302 hml hR rfl hsum d kk
-- ===== RX4.readCommand
abbrev rm_X4_readCommand : Room := { frames := 6, cells := 0, slots := 0, locals := 130 }
def w_X4_readCommand_40  (K : Int32 → Mem → Prop)   (σ : Mem) : Prop := (w_X4_wordBefore (σ 302 8) σ (fun r3 σ2 => (∀ σ4 : Mem, σ4 = mu σ2 302 5 r3 → (br ((σ4 302 5) = 0) (K 0 σ4) (w_X4_readArgument  σ4 (fun r6 σ5 => (∀ σ7 : Mem, σ7 = mu σ5 302 6 r6 → (br ((σ7 302 6) = (-1)) (K (σ7 302 8) σ7) (br ((σ7 302 5) = 4) (br ((σ7 302 1) ≤ (σ7 302 8)) (K (-1) σ7) (K (σ7 302 8) σ7)) (w_X4_readArgument  σ7 (fun r9 σ8 => (∀ σ10 : Mem, σ10 = mu σ8 302 7 r9 → (br ((σ10 302 7) = (-1)) (K (σ10 302 8) σ10) (br ((σ10 302 1) ≤ (σ10 302 8)) (K (-1) σ10) (K (σ10 302 8) σ10)))))))))))))))
set_option maxHeartbeats 4000000 in
set_option maxRecDepth 100000 in
theorem b_X4_readCommand_40 {p : Program} {l : Launch} {e : Env} {s : State} {m : MethodId} {args : Array Value} {below : List Frame} {meth : Method} {c : Code} {L : Ly} {sz : Nat} (C : Cx p rm_X4_readCommand s m args meth c RX4 cX4_readCommand 2 0 0 (mA L sz) L) (hret : meth.sig.returnType = (some .int)) (hlk : meth.locks = false)   (K : Int32 → Mem → Prop)   (σ : Mem)  (h : w_X4_readCommand_40  K   σ) : V p l e rm_X4_readCommand s m args below meth c 2 0 0 (MQ below (va_Qi K (mE L) (mA L sz)) args s 0 0 (mA L sz)) (mA L sz) L σ 40 [(0, .ref (lad L 302))] [] := by
  unfold w_X4_readCommand_40 at h
  refine v_aload_n C dX4_readCommand_40 rfl 0 rfl ?_
  refine v_aload_n C dX4_readCommand_41 rfl 0 rfl ?_
  refine v_aload_n C dX4_readCommand_42 rfl 0 rfl ?_
  refine g_4_at C kdn_302 mF_X4_38 dX4_readCommand_43 ?_
  refine k_X4_wordBefore C (σ 302 8)  h mM_X4_63 ⟨Nat.le_of_ble_eq_true rfl, Nat.le_of_ble_eq_true rfl⟩ (Nat.le_of_ble_eq_true rfl) dX4_readCommand_46 (fun r3 σ2 h => ?_)
  refine p_4_word C kdn_302 mF_X4_29 dX4_readCommand_49 (fun σ4 eσ4 => ?_)
  replace h := h σ4 eσ4
  refine v_aload_n C dX4_readCommand_52 rfl 0 rfl ?_
  refine g_4_word C kdn_302 mF_X4_29 dX4_readCommand_53 ?_
  refine v_if_ne C (tgt := 61) dX4_readCommand_56 (by decide) (fun hc => ?_) (fun hc => ?_)
  · replace h := h.2 hc
    refine v_aload_n C dX4_readCommand_61 rfl 0 rfl ?_
    refine v_aload_n C dX4_readCommand_62 rfl 0 rfl ?_
    refine k_X4_readArgument C   h mM_X4_67 ⟨Nat.le_of_ble_eq_true rfl, Nat.le_of_ble_eq_true rfl⟩ (Nat.le_of_ble_eq_true rfl) dX4_readCommand_63 (fun r6 σ5 h => ?_)
    refine p_4_firstNumber C kdn_302 mF_X4_32 dX4_readCommand_66 (fun σ7 eσ7 => ?_)
    replace h := h σ7 eσ7
    refine v_aload_n C dX4_readCommand_69 rfl 0 rfl ?_
    refine g_4_firstNumber C kdn_302 mF_X4_32 dX4_readCommand_70 ?_
    refine v_iconst C (v := (-1)) dX4_readCommand_73 rfl ?_
    refine v_icmp_ne C (tgt := 82) dX4_readCommand_74 (by decide) (fun hc => ?_) (fun hc => ?_)
    · replace h := h.2 hc
      refine v_aload_n C dX4_readCommand_82 rfl 0 rfl ?_
      refine g_4_word C kdn_302 mF_X4_29 dX4_readCommand_83 ?_
      refine v_iconst C (v := 4) dX4_readCommand_86 rfl ?_
      refine v_icmp_eq C (tgt := 111) dX4_readCommand_87 (by decide) (fun hc => ?_) (fun hc => ?_)
      · replace h := h.1 hc
        refine v_aload_n C dX4_readCommand_111 rfl 0 rfl ?_
        refine g_4_at C kdn_302 mF_X4_38 dX4_readCommand_112 ?_
        refine v_aload_n C dX4_readCommand_115 rfl 0 rfl ?_
        refine g_4_length C kdn_302 mF_X4_15 dX4_readCommand_116 ?_
        refine v_icmp_ge C (tgt := 129) dX4_readCommand_119 (by decide) (fun hc => ?_) (fun hc => ?_)
        · replace h := h.1 hc
          refine v_iconst C (v := (-1)) dX4_readCommand_129 rfl ?_
          exact v_iret C dX4_readCommand_130 hret hlk h
        · replace h := h.2 hc
          refine v_aload_n C dX4_readCommand_122 rfl 0 rfl ?_
          refine g_4_at C kdn_302 mF_X4_38 dX4_readCommand_123 ?_
          refine v_goto C (tgt := 130) dX4_readCommand_126 (by decide) ?_
          exact v_iret C dX4_readCommand_130 hret hlk h
      · replace h := h.2 hc
        refine v_aload_n C dX4_readCommand_90 rfl 0 rfl ?_
        refine v_aload_n C dX4_readCommand_91 rfl 0 rfl ?_
        refine k_X4_readArgument C   h mM_X4_67 ⟨Nat.le_of_ble_eq_true rfl, Nat.le_of_ble_eq_true rfl⟩ (Nat.le_of_ble_eq_true rfl) dX4_readCommand_92 (fun r9 σ8 h => ?_)
        refine p_4_secondNumber C kdn_302 mF_X4_35 dX4_readCommand_95 (fun σ10 eσ10 => ?_)
        replace h := h σ10 eσ10
        refine v_aload_n C dX4_readCommand_98 rfl 0 rfl ?_
        refine g_4_secondNumber C kdn_302 mF_X4_35 dX4_readCommand_99 ?_
        refine v_iconst C (v := (-1)) dX4_readCommand_102 rfl ?_
        refine v_icmp_ne C (tgt := 111) dX4_readCommand_103 (by decide) (fun hc => ?_) (fun hc => ?_)
        · replace h := h.2 hc
          refine v_aload_n C dX4_readCommand_111 rfl 0 rfl ?_
          refine g_4_at C kdn_302 mF_X4_38 dX4_readCommand_112 ?_
          refine v_aload_n C dX4_readCommand_115 rfl 0 rfl ?_
          refine g_4_length C kdn_302 mF_X4_15 dX4_readCommand_116 ?_
          refine v_icmp_ge C (tgt := 129) dX4_readCommand_119 (by decide) (fun hc => ?_) (fun hc => ?_)
          · replace h := h.1 hc
            refine v_iconst C (v := (-1)) dX4_readCommand_129 rfl ?_
            exact v_iret C dX4_readCommand_130 hret hlk h
          · replace h := h.2 hc
            refine v_aload_n C dX4_readCommand_122 rfl 0 rfl ?_
            refine g_4_at C kdn_302 mF_X4_38 dX4_readCommand_123 ?_
            refine v_goto C (tgt := 130) dX4_readCommand_126 (by decide) ?_
            exact v_iret C dX4_readCommand_130 hret hlk h
        · replace h := h.1 hc
          refine v_aload_n C dX4_readCommand_106 rfl 0 rfl ?_
          refine g_4_at C kdn_302 mF_X4_38 dX4_readCommand_107 ?_
          exact v_iret C dX4_readCommand_110 hret hlk h
    · replace h := h.1 hc
      refine v_aload_n C dX4_readCommand_77 rfl 0 rfl ?_
      refine g_4_at C kdn_302 mF_X4_38 dX4_readCommand_78 ?_
      exact v_iret C dX4_readCommand_81 hret hlk h
  · replace h := h.1 hc
    refine v_iconst C (v := 0) dX4_readCommand_59 rfl ?_
    exact v_iret C dX4_readCommand_60 hret hlk h
def w_X4_readCommand_7  (K : Int32 → Mem → Prop)  : Nat → Int32 → Mem → Prop
  | 0, _, _ => False
  | n + 1, x1, σ => (br (60 ≤ x1) (w_X4_readCommand_40  K   σ) (w_X4_sign  σ (fun r12 σ11 => (w_X6_letterIndex r12 σ11 (fun r14 σ13 => (br (r14 = (-1)) (w_X4_readCommand_40  K   σ13) (∀ σ15 : Mem, σ15 = mu σ13 302 8 ((σ13 302 8) + 1) → (w_X4_readCommand_7  K  n (x1 + 1) σ15))))))))
set_option maxHeartbeats 4000000 in
set_option maxRecDepth 100000 in
theorem b_X4_readCommand_7 {p : Program} {l : Launch} {e : Env} {s : State} {m : MethodId} {args : Array Value} {below : List Frame} {meth : Method} {c : Code} {L : Ly} {sz : Nat} (C : Cx p rm_X4_readCommand s m args meth c RX4 cX4_readCommand 2 0 0 (mA L sz) L) (hret : meth.sig.returnType = (some .int)) (hlk : meth.locks = false)   (K : Int32 → Mem → Prop)  : ∀ (n : Nat) (x1 : Int32) (σ : Mem), w_X4_readCommand_7  K  n x1 σ → V p l e rm_X4_readCommand s m args below meth c 2 0 0 (MQ below (va_Qi K (mE L) (mA L sz)) args s 0 0 (mA L sz)) (mA L sz) L σ 7 [(0, .ref (lad L 302)), (1, .int x1)] [] := by
  intro n
  induction n with
  | zero => intro x1 σ  h; exact h.elim
  | succ n ih =>
    intro x1 σ  h
    rw [w_X4_readCommand_7] at h
    refine v_iload_n C dX4_readCommand_7 rfl 1 rfl ?_
    refine v_bipush C (v := 60) dX4_readCommand_8 rfl ?_
    refine v_icmp_ge C (tgt := 40) dX4_readCommand_10 (by decide) (fun hc => ?_) (fun hc => ?_)
    · replace h := h.1 hc
      refine v_sub [0] rfl ?_
      exact b_X4_readCommand_40 C hret hlk   K    _  h
    · replace h := h.2 hc
      refine v_aload_n C dX4_readCommand_13 rfl 0 rfl ?_
      refine k_X4_sign C   h mM_X4_41 ⟨Nat.le_of_ble_eq_true rfl, Nat.le_of_ble_eq_true rfl⟩ (Nat.le_of_ble_eq_true rfl) dX4_readCommand_14 (fun r12 σ11 h => ?_)
      refine k_X6_letterIndex C r12  h C.2.2.2.2.2.2.2.2.1.2.1 ⟨Nat.le_of_ble_eq_true rfl, Nat.le_of_ble_eq_true rfl⟩ (Nat.le_of_ble_eq_true rfl) dX4_readCommand_17 (fun r14 σ13 h => ?_)
      refine v_iconst C (v := (-1)) dX4_readCommand_20 rfl ?_
      refine v_icmp_eq C (tgt := 40) dX4_readCommand_21 (by decide) (fun hc => ?_) (fun hc => ?_)
      · replace h := h.1 hc
        refine v_sub [0] rfl ?_
        exact b_X4_readCommand_40 C hret hlk   K    _  h
      · replace h := h.2 hc
        refine v_aload_n C dX4_readCommand_24 rfl 0 rfl ?_
        refine v_dup C dX4_readCommand_25 rfl ?_
        refine g_4_at C kdn_302 mF_X4_38 dX4_readCommand_26 ?_
        refine v_iconst C (v := 1) dX4_readCommand_29 rfl ?_
        refine v_iadd C dX4_readCommand_30 ?_
        refine p_4_at C kdn_302 mF_X4_38 dX4_readCommand_31 (fun σ15 eσ15 => ?_)
        replace h := h σ15 eσ15
        refine v_iinc C [(1, .int (x1 + 1)), (0, .ref (lad L 302))] dX4_readCommand_34 1 rfl rfl (by decide) rfl ?_
        refine v_goto C (tgt := 7) dX4_readCommand_37 (by decide) ?_
        refine v_sub [1, 0] rfl ?_
        exact ih _ _  h
def w_X4_readCommand  (σ : Mem) (K : Int32 → Mem → Prop) : Prop := (∀ σ1 : Mem, σ1 = mu σ 302 8 0 → (∃ n16, w_X4_readCommand_7  K  n16 0 σ1))
set_option maxHeartbeats 4000000 in
set_option maxRecDepth 100000 in
theorem c_X4_readCommand (l : Launch) (L : Ly)  (σ : Mem) (K : Int32 → Mem → Prop)  (h : w_X4_readCommand  σ K) (sz : Nat) : Met l yX4_readCommand (.code yX4_readCommand cX4_readCommand 2 (some .int) :: wA) rm_X4_readCommand (va_Pc [.ref (lad L 302)] (mB L sz σ)) (va_Qi K (mE L) (mA L sz)) 0 0 (mA L sz) := by
  refine v_start (own := RX4) [(0, .ref (lad L 302))] (by decide) rfl (Nat.le_of_ble_eq_true rfl) rfl (fun p e s m args below meth c C hret hlk => ?_)
  unfold w_X4_readCommand at h
  refine v_aload_n C dX4_readCommand_0 rfl 0 rfl ?_
  refine v_iconst C (v := 0) dX4_readCommand_1 rfl ?_
  refine p_4_at C kdn_302 mF_X4_38 dX4_readCommand_2 (fun σ1 eσ1 => ?_)
  replace h := h σ1 eσ1
  refine v_iconst C (v := 0) dX4_readCommand_5 rfl ?_
  refine v_istore_n C [(1, .int 0), (0, .ref (lad L 302))] dX4_readCommand_6 rfl (by decide) rfl ?_
  obtain ⟨n16, h⟩ := h
  refine v_sub [1, 0] rfl ?_
  exact b_X4_readCommand_7 C hret hlk   K   n16 _ _  h
theorem hd_X4_readCommand : yX4_readCommand.cls ≠ "java/lang/invoke/MethodHandle" ∧ yX4_readCommand.cls ≠ "java/lang/invoke/VarHandle" ∧ (parseMethodDescriptor yX4_readCommand.desc).map (fun d => d.parameters.length) = some 0 := by decide +kernel
theorem k_X4_readCommand {p : Program} {l : Launch} {e : Env} {R : Room} {s : State} {m : MethodId} {args : Array Value} {below : List Frame} {meth : Method} {c : Code} {nL cells slots : Nat} {Q : State → Prop} {A : Nat → Prop} {L : Ly} {own : String} {cc : ByteArray} {σ : Mem} {pc idx : Nat} {lv : List (Nat × Value)} {st : List Value} {K : Int32 → Mem → Prop} (C : Cx p R s m args meth c own cc nL cells slots A L)   (h : w_X4_readCommand  σ K) (hml : Cond.methodLink own idx yX4_readCommand ∈ wA) (hR : rm_X4_readCommand.frames + 1 ≤ R.frames ∧ 8 + (2 + 11) + rm_X4_readCommand.locals ≤ R.locals) (hsum : (st.map fun v => v.category).sum ≤ 8) (d : decode cc pc = .ok (.invokevirtual idx, 3)) (kk : ∀ r σ1, K r σ1 → V p l e R s m args below meth c nL cells slots Q A L σ1 (pc + 3) lv (.int r :: st)) : V p l e R s m args below meth c nL cells slots Q A L σ pc lv (.ref (lad L 302) :: st) := v_callVi C [] (fun sz => c_X4_readCommand l L  σ _  h sz) mC_X4_readCommand mZ_X4 hd_X4_readCommand mI_X4_readCommand mS_X4_readCommand rfl rfl (c0 := 4) (ci := 4) (by decide) rfl rfl rfl kdn_302 hml hR rfl hsum d kk
