/-! The String constants' own members, by hand. -/
section JS
variable {p : Program} {l : Launch} {e : Env} {R : Room} {s : State} {m : MethodId} {args : Array Value} {below : List Frame} {meth : Method} {c : Code} {nL cells slots : Nat} {Q : State → Prop} {A : Nat → Prop} {L : Ly} {own : String} {cc : ByteArray} {σ : Mem} {pc : Nat} {lv : List (Nat × Value)} {st : List Value}
theorem j_value (C : Cx p R s m args meth c own cc nL cells slots A L) {i : Nat} (hi : i < 4) (d : decode cc pc = .ok (.getfield 9, 3)) (hown : own = RJ0) (kk : V p l e R s m args below meth c nL cells slots Q A L σ (pc + 3) lv (.ref (lV L i) :: st)) : V p l e R s m args below meth c nL cells slots Q A L σ pc lv (.ref (lK L i) :: st) := by
  subst hown
  exact fun H locs ls hP hS hl => vk_getf C.1 C.2.1 (C.2.2.2.2.2.2.2.2.1.2.2.1.1 i hi).2.2.1 hS C.2.2.2.1 (C.2.2.2.2.1 _ mF_J0_9) (fun _ h => h) d (kk H locs ls hP hS hl)
theorem j_coder (C : Cx p R s m args meth c own cc nL cells slots A L) {i : Nat} (hi : i < 4) (d : decode cc pc = .ok (.getfield 15, 3)) (hown : own = RJ0) (kk : V p l e R s m args below meth c nL cells slots Q A L σ (pc + 3) lv (.int 0 :: st)) : V p l e R s m args below meth c nL cells slots Q A L σ pc lv (.ref (lK L i) :: st) := by
  subst hown
  exact fun H locs ls hP hS hl => vk_getf C.1 C.2.1 (C.2.2.2.2.2.2.2.2.1.2.2.1.1 i hi).2.1 hS C.2.2.2.1 (C.2.2.2.2.1 _ mF_J0_15) (fun _ h => h) d (kk H locs ls hP hS hl)
theorem j_compact (C : Cx p R s m args meth c own cc nL cells slots A L) (d : decode cc pc = .ok (.getstatic 38, 3)) (hown : own = RJ0) (kk : V p l e R s m args below meth c nL cells slots Q A L σ (pc + 3) lv (.int 1 :: st)) : V p l e R s m args below meth c nL cells slots Q A L σ pc lv st := by
  subst hown
  exact fun H locs ls hP hS hl => va_gets C.1 C.2.1 C.2.2.2.2.2.2.2.2.1.2.2.2.2.1 hS C.2.2.2.1 (C.2.2.2.2.1 _ mF_J0_38) (fun _ h => h) d (kk H locs ls hP hS hl)
theorem j_fmt (C : Cx p R s m args meth c own cc nL cells slots A L) (d : decode cc pc = .ok (.getstatic 1053, 3)) (hown : own = RJ0) (kk : ∀ v : Value, v.category = 1 → V p l e R s m args below meth c nL cells slots Q A L σ (pc + 3) lv (v :: st)) : V p l e R s m args below meth c nL cells slots Q A L σ pc lv st := by
  subst hown
  intro H locs ls hP hS hl
  rcases C.2.2.2.2.2.2.2.2.1.2.2.2.2.2 with z | ⟨t, z⟩
  · exact va_gets C.1 C.2.1 z hS C.2.2.2.1 (C.2.2.2.2.1 _ mF_J0_1053) (fun _ h => h) d (kk .null rfl H locs ls hP hS hl)
  · exact va_gets C.1 C.2.1 z hS C.2.2.2.1 (C.2.2.2.2.1 _ mF_J0_1053) (fun _ h => h) d (kk (.ref t) rfl H locs ls hP hS hl)
theorem j_len (C : Cx p R s m args meth c own cc nL cells slots A L) {i : Nat} (hi : i < 4) (d : decode cc pc = .ok (.arraylength, 1)) (kk : V p l e R s m args below meth c nL cells slots Q A L σ (pc + 1) lv (.int (nI (lS.getD i 0)) :: st)) : V p l e R s m args below meth c nL cells slots Q A L σ pc lv (.ref (lV L i) :: st) := fun H locs ls hP hS hl => va_tlen C.1 C.2.1 (C.2.2.2.2.2.2.2.2.1.2.2.1.1 i hi).2.2.2 hS rfl d (kk H locs ls hP hS hl)
theorem j_bald (C : Cx p R s m args meth c own cc nL cells slots A L) {i : Nat} {x : Int32} (hi : i < 4) (hin : vp_in x (lS.getD i 0)) (d : decode cc pc = .ok (.baload, 1)) (kk : V p l e R s m args below meth c nL cells slots Q A L σ (pc + 1) lv (.int ((bS.getD i []).getD (ix x) 0) :: st)) : V p l e R s m args below meth c nL cells slots Q A L σ pc lv (.int x :: .ref (lV L i) :: st) := fun H locs ls hP hS hl => va_tb C.1 C.2.1 (C.2.2.2.2.2.2.2.2.1.2.2.1.1 i hi).2.2.2 hS hin rfl d (kk H locs ls hP hS hl)
theorem v_callJi (C : Cx p R s m args meth c own cc nL cells slots A L) {st0 : List Value} {idx i maxL : Nat} {y : MethodName} {bytes : ByteArray} {ret : Option FieldType} {rm : Room} (as : List Value) {K : Int32 → Mem → Prop} (hM : ∀ sz, Met l y (.code y bytes maxL ret :: wA) rm (va_Pc (.ref (lK L i) :: as) (mB L sz σ)) (va_Qi K (mE L) (mA L sz)) 0 0 (mA L sz)) (hmc : Cond.code y bytes maxL ret ∈ wA) (hmz : Cond.initialized y.cls ∈ wA) (hd : y.cls ≠ "java/lang/invoke/MethodHandle" ∧ y.cls ≠ "java/lang/invoke/VarHandle" ∧ (parseMethodDescriptor y.desc).map (fun d => d.parameters.length) = some as.length) (hmi : Cond.instanceMethod y ∈ wA) (hms : Cond.selects y.cls y y ∈ wA) (hrc : rm.cells = 0) (hrs : rm.slots = 0) (hi : i < 4) (hy : y.cls = "java/lang/String") (hml : Cond.methodLink own idx y ∈ wA) (hR : rm.frames + 1 ≤ R.frames ∧ 8 + (maxL + 11) + rm.locals ≤ R.locals) (hst : st0 = as.reverse ++ .ref (lK L i) :: st) (hsum : (st.map fun v => v.category).sum ≤ 8) (d : decode cc pc = .ok (.invokevirtual idx, 3)) (kk : ∀ r σ1, K r σ1 → V p l e R s m args below meth c nL cells slots Q A L σ1 (pc + 3) lv (.int r :: st)) : V p l e R s m args below meth c nL cells slots Q A L σ pc lv st0 := by
  intro H locs ls hP hS hl
  subst hst
  refine va_calli (va_runV (C := y.cls) (As := as) (rest := st) ⟨C.1, C.2.1, C.2.2.1, C.2.2.2.1, C.2.2.2.2.1⟩ (hM H.size) ⟨callB_of as.length C.2.2.2.2.1 (fun w h => (List.mem_cons.mp h).elim (fun e => by rw [e]; exact gA _ hmc) (fun h => gA w h)) rfl hrc hrs (C.2.2.2.2.1 _ hmz) (C.2.2.2.2.1 _ hml) hd hR, C.2.2.2.2.1 _ hmi, C.2.2.2.2.1 _ hms⟩ ⟨mB_blind L H.size σ _, ?_, fun U hU hW => ⟨rfl, mB_call C hP hS U hU hW⟩⟩ rfl rfl hl.1 rfl (lv_room hsum) d C.2.2.2.2.2.2.2.2.2.1) hS (fun q _ h => mA_sub C hS.1 q h) (mA_sub C hS.1) (fun r u t H1 locs1 ht hvm hw hB hz1 hk1 hS1 => kk r u hw H1 locs1 ls (by rw [← ht]; exact hB) hS1 hl)
  rw [hy]
  exact vk_recv C.2.2.2.2.2.2.2.2.1.2.2.1 hi hS
end JS
theorem hd_J0_coder_7d493 : yJ0_coder_7d493.cls ≠ "java/lang/invoke/MethodHandle" ∧ yJ0_coder_7d493.cls ≠ "java/lang/invoke/VarHandle" ∧ (parseMethodDescriptor yJ0_coder_7d493.desc).map (fun d => d.parameters.length) = some 0 := by decide +kernel
abbrev rm_J0_coder_7d493 : Room := { frames := 0, cells := 0, slots := 0, locals := 0 }
set_option maxHeartbeats 4000000 in
set_option maxRecDepth 100000 in
theorem c_J0_coder_7d493 (l : Launch) (L : Ly) (i : Nat) (σ : Mem) (K : Int32 → Mem → Prop) (hi : i < 4) (h : K 0 σ) (sz : Nat) : Met l yJ0_coder_7d493 (.code yJ0_coder_7d493 cJ0_coder_7d493 1 (some .byte) :: wA) rm_J0_coder_7d493 (va_Pc [.ref (lK L i)] (mB L sz σ)) (va_Qi K (mE L) (mA L sz)) 0 0 (mA L sz) := by
  refine v_start (own := RJ0) [(0, .ref (lK L i))] (by decide) rfl (Nat.le_of_ble_eq_true rfl) rfl (fun p e s m args below meth c C hret hlk => ?_)
  refine j_compact C dJ0_coder_7d493_0 rfl ?_
  refine v_if_eq C (tgt := 13) dJ0_coder_7d493_3 (by decide) (fun hc => absurd hc (by decide)) (fun hc => ?_)
  refine v_aload_n C dJ0_coder_7d493_6 rfl 0 rfl ?_
  refine j_coder C hi dJ0_coder_7d493_7 rfl ?_
  refine v_goto C (tgt := 14) dJ0_coder_7d493_10 (by decide) ?_
  exact v_zret C dJ0_coder_7d493_14 hret hlk rfl h
theorem hd_J0_length_8abf5 : yJ0_length_8abf5.cls ≠ "java/lang/invoke/MethodHandle" ∧ yJ0_length_8abf5.cls ≠ "java/lang/invoke/VarHandle" ∧ (parseMethodDescriptor yJ0_length_8abf5.desc).map (fun d => d.parameters.length) = some 0 := by decide +kernel
def w_J0_length_8abf5 (i : Nat) (σ : Mem) (K : Int32 → Mem → Prop) : Prop := K (nI (lS.getD i 0)) σ
theorem j_sh0 : ∀ i, i < 4 → nI (lS.getD i 0) >>> ((0 : Int32) &&& 31) = nI (lS.getD i 0) := by decide +kernel
abbrev rm_J0_length_8abf5 : Room := { frames := 1, cells := 0, slots := 0, locals := 20 }
set_option maxHeartbeats 4000000 in
set_option maxRecDepth 100000 in
theorem c_J0_length_8abf5 (l : Launch) (L : Ly) (i : Nat) (σ : Mem) (K : Int32 → Mem → Prop) (hi : i < 4) (h : w_J0_length_8abf5 i σ K) (sz : Nat) : Met l yJ0_length_8abf5 (.code yJ0_length_8abf5 cJ0_length_8abf5 1 (some .int) :: wA) rm_J0_length_8abf5 (va_Pc [.ref (lK L i)] (mB L sz σ)) (va_Qi K (mE L) (mA L sz)) 0 0 (mA L sz) := by
  refine v_start (own := RJ0) [(0, .ref (lK L i))] (by decide) rfl (Nat.le_of_ble_eq_true rfl) rfl (fun p e s m args below meth c C hret hlk => ?_)
  unfold w_J0_length_8abf5 at h
  refine v_aload_n C dJ0_length_8abf5_0 rfl 0 rfl ?_
  refine j_value C hi dJ0_length_8abf5_1 rfl ?_
  refine j_len C hi dJ0_length_8abf5_4 ?_
  refine v_aload_n C dJ0_length_8abf5_5 rfl 0 rfl ?_
  refine v_callJi C (i := i) [] (fun sz => c_J0_coder_7d493 l L i σ (fun r s2 => r = 0 ∧ s2 = σ) hi ⟨rfl, rfl⟩ sz) mC_J0_coder_7d493 mZ_J0 hd_J0_coder_7d493 mI_J0_coder_7d493 mS_J0_coder_7d493 rfl rfl hi rfl mM_J0_335 ⟨Nat.le_of_ble_eq_true rfl, Nat.le_of_ble_eq_true rfl⟩ rfl (Nat.le_of_ble_eq_true rfl) dJ0_length_8abf5_6 (fun r s2 hr => ?_)
  obtain ⟨rfl, rfl⟩ := hr
  refine v_ishr C dJ0_length_8abf5_9 ?_
  rw [j_sh0 i hi]
  exact v_iret C dJ0_length_8abf5_10 hret hlk h
theorem hd_J0_isLatin1_aae02 : yJ0_isLatin1_aae02.cls ≠ "java/lang/invoke/MethodHandle" ∧ yJ0_isLatin1_aae02.cls ≠ "java/lang/invoke/VarHandle" ∧ (parseMethodDescriptor yJ0_isLatin1_aae02.desc).map (fun d => d.parameters.length) = some 0 := by decide +kernel
abbrev rm_J0_isLatin1_aae02 : Room := { frames := 0, cells := 0, slots := 0, locals := 0 }
set_option maxHeartbeats 4000000 in
set_option maxRecDepth 100000 in
theorem c_J0_isLatin1_aae02 (l : Launch) (L : Ly) (i : Nat) (σ : Mem) (K : Int32 → Mem → Prop) (hi : i < 4) (h : K 1 σ) (sz : Nat) : Met l yJ0_isLatin1_aae02 (.code yJ0_isLatin1_aae02 cJ0_isLatin1_aae02 1 (some .boolean) :: wA) rm_J0_isLatin1_aae02 (va_Pc [.ref (lK L i)] (mB L sz σ)) (va_Qi K (mE L) (mA L sz)) 0 0 (mA L sz) := by
  refine v_start (own := RJ0) [(0, .ref (lK L i))] (by decide) rfl (Nat.le_of_ble_eq_true rfl) rfl (fun p e s m args below meth c C hret hlk => ?_)
  refine j_compact C dJ0_isLatin1_aae02_0 rfl ?_
  refine v_if_eq C (tgt := 17) dJ0_isLatin1_aae02_3 (by decide) (fun hc => absurd hc (by decide)) (fun hc => ?_)
  refine v_aload_n C dJ0_isLatin1_aae02_6 rfl 0 rfl ?_
  refine j_coder C hi dJ0_isLatin1_aae02_7 rfl ?_
  refine v_if_ne C (tgt := 17) dJ0_isLatin1_aae02_10 (by decide) (fun hc => absurd rfl hc) (fun hc => ?_)
  refine v_iconst C (v := 1) dJ0_isLatin1_aae02_13 rfl ?_
  refine v_goto C (tgt := 18) dJ0_isLatin1_aae02_14 (by decide) ?_
  exact v_zret C dJ0_isLatin1_aae02_18 hret hlk rfl h
theorem hd_J3_checkIndex_8e157 : yJ3_checkIndex_8e157.cls ≠ "java/lang/invoke/MethodHandle" ∧ yJ3_checkIndex_8e157.cls ≠ "java/lang/invoke/VarHandle" ∧ (parseMethodDescriptor yJ3_checkIndex_8e157.desc).map (fun d => d.parameters.length) = some 3 := by decide +kernel
theorem j_l3 {a1 a2 : Int32} {v : Value} (hv : v.category = 1) : (lg_sl [.int a1, .int a2, v]).length ≤ 3 := by
  cases v <;> first | exact Nat.le_of_ble_eq_true rfl | cases hv
theorem j_v3 {a1 a2 : Int32} {v : Value} (hv : v.category = 1) : lv_args 0 [.int a1, .int a2, v] = [(0, .int a1), (1, .int a2), (2, v)] := by
  cases v <;> first | rfl | cases hv
abbrev rm_J3_checkIndex_8e157 : Room := { frames := 0, cells := 0, slots := 0, locals := 0 }
set_option maxHeartbeats 4000000 in
set_option maxRecDepth 100000 in
theorem c_J3_checkIndex_8e157 (l : Launch) (L : Ly) (a1 a2 : Int32) (v : Value) (σ : Mem) (K : Int32 → Mem → Prop) (hv : v.category = 1) (h : ¬ a1 < 0 ∧ a1 < a2 ∧ K a1 σ) (sz : Nat) : Met l yJ3_checkIndex_8e157 (.code yJ3_checkIndex_8e157 cJ3_checkIndex_8e157 3 (some .int) :: wA) rm_J3_checkIndex_8e157 (va_Pc [.int a1, .int a2, v] (mB L sz σ)) (va_Qi K (mE L) (mA L sz)) 0 0 (mA L sz) := by
  refine v_start (own := RJ3) [(0, .int a1), (1, .int a2), (2, v)] (by decide) rfl (j_l3 hv) (j_v3 hv) (fun p e s m args below meth c C hret hlk => ?_)
  refine v_iload_n C dJ3_checkIndex_8e157_0 rfl 0 rfl ?_
  refine v_if_lt C (tgt := 9) dJ3_checkIndex_8e157_1 (by decide) (fun hc => absurd hc h.1) (fun hc => ?_)
  refine v_iload_n C dJ3_checkIndex_8e157_4 rfl 0 rfl ?_
  refine v_iload_n C dJ3_checkIndex_8e157_5 rfl 1 rfl ?_
  refine v_icmp_lt C (tgt := 16) dJ3_checkIndex_8e157_6 (by decide) (fun hc => ?_) (fun hc => absurd h.2.1 hc)
  refine v_iload_n C dJ3_checkIndex_8e157_16 rfl 0 rfl ?_
  exact v_iret C dJ3_checkIndex_8e157_17 hret hlk h.2.2
theorem hd_J0_checkIndex_df160 : yJ0_checkIndex_df160.cls ≠ "java/lang/invoke/MethodHandle" ∧ yJ0_checkIndex_df160.cls ≠ "java/lang/invoke/VarHandle" ∧ (parseMethodDescriptor yJ0_checkIndex_df160.desc).map (fun d => d.parameters.length) = some 2 := by decide +kernel
abbrev rm_J0_checkIndex_df160 : Room := { frames := 1, cells := 0, slots := 0, locals := 22 }
set_option maxHeartbeats 4000000 in
set_option maxRecDepth 100000 in
theorem c_J0_checkIndex_df160 (l : Launch) (L : Ly) (a1 a2 : Int32) (σ : Mem) (K : Mem → Prop)  (h : ¬ a1 < 0 ∧ a1 < a2 ∧ K σ) (sz : Nat) : Met l yJ0_checkIndex_df160 (.code yJ0_checkIndex_df160 cJ0_checkIndex_df160 2 none :: wA) rm_J0_checkIndex_df160 (va_Pc [.int a1, .int a2] (mB L sz σ)) (va_Qv K (mE L) (mA L sz)) 0 0 (mA L sz) := by
  refine v_start (own := RJ0) [(0, .int a1), (1, .int a2)] (by decide) rfl (Nat.le_of_ble_eq_true rfl) rfl (fun p e s m args below meth c C hret hlk => ?_)
  refine v_iload_n C dJ0_checkIndex_df160_0 rfl 0 rfl ?_
  refine v_iload_n C dJ0_checkIndex_df160_1 rfl 1 rfl ?_
  refine j_fmt C dJ0_checkIndex_df160_2 rfl (fun v hv => ?_)
  refine v_callSi C [.int a1, .int a2, v] (fun sz => c_J3_checkIndex_8e157 l L a1 a2 v σ (fun r s2 => s2 = σ) hv ⟨h.1, h.2.1, rfl⟩ sz) mC_J3_checkIndex_8e157 mZ_J3 hd_J3_checkIndex_8e157 mT_J3_checkIndex_8e157 rfl rfl mM_J0_1059 ⟨Nat.le_of_ble_eq_true rfl, Nat.le_of_ble_eq_true rfl⟩ rfl (Nat.le_of_ble_eq_true rfl) dJ0_checkIndex_df160_5 (fun r s2 hr => ?_)
  subst hr
  refine v_pop C dJ0_checkIndex_df160_8 rfl ?_
  exact v_vret C dJ0_checkIndex_df160_9 hret hlk h.2.2
theorem hd_J1_charAt_3b067 : yJ1_charAt_3b067.cls ≠ "java/lang/invoke/MethodHandle" ∧ yJ1_charAt_3b067.cls ≠ "java/lang/invoke/VarHandle" ∧ (parseMethodDescriptor yJ1_charAt_3b067.desc).map (fun d => d.parameters.length) = some 2 := by decide +kernel
theorem j_ch : ∀ i, i < 4 → ∀ j, j < lS.getD i 0 → (Int32.toUInt32 ((bS.getD i []).getD j 0 &&& 255) % 65536).toInt32 = (bS.getD i []).getD j 0 ∧ narrow .char (.int ((bS.getD i []).getD j 0)) = .int ((bS.getD i []).getD j 0) := by decide +kernel
abbrev rm_J1_charAt_3b067 : Room := { frames := 2, cells := 0, slots := 0, locals := 43 }
set_option maxHeartbeats 4000000 in
set_option maxRecDepth 100000 in
theorem c_J1_charAt_3b067 (l : Launch) (L : Ly) (i : Nat) (a2 : Int32) (σ : Mem) (K : Int32 → Mem → Prop) (hi : i < 4) (h : vp_in a2 (lS.getD i 0) ∧ K ((bS.getD i []).getD (ix a2) 0) σ) (sz : Nat) : Met l yJ1_charAt_3b067 (.code yJ1_charAt_3b067 cJ1_charAt_3b067 2 (some .char) :: wA) rm_J1_charAt_3b067 (va_Pc [.ref (lV L i), .int a2] (mB L sz σ)) (va_Qi K (mE L) (mA L sz)) 0 0 (mA L sz) := by
  refine v_start (own := RJ1) [(0, .ref (lV L i)), (1, .int a2)] (by decide) rfl (Nat.le_of_ble_eq_true rfl) rfl (fun p e s m args below meth c C hret hlk => ?_)
  obtain ⟨hin, h⟩ := h
  have hj : ix a2 < lS.getD i 0 := ix_lt hin
  have hb : lS.getD i 0 < 2 ^ 31 := (show ∀ i, i < 4 → lS.getD i 0 < 2 ^ 31 by decide +kernel) i hi
  obtain ⟨j, hj2, ha2⟩ := vp_in_of hin hb
  refine v_iload_n C dJ1_charAt_3b067_0 rfl 1 rfl ?_
  refine v_aload_n C dJ1_charAt_3b067_1 rfl 0 rfl ?_
  refine j_len C hi dJ1_charAt_3b067_2 ?_
  refine v_callSv C [.int a2, .int (nI (lS.getD i 0))] (fun sz => c_J0_checkIndex_df160 l L a2 (nI (lS.getD i 0)) σ (fun s2 => s2 = σ) ⟨by rw [ha2]; exact nI_pos (by omega), by rw [ha2]; exact nI_lt hj2 hb, rfl⟩ sz) mC_J0_checkIndex_df160 mZ_J0 hd_J0_checkIndex_df160 mT_J0_checkIndex_df160 rfl rfl mM_J1_9 ⟨Nat.le_of_ble_eq_true rfl, Nat.le_of_ble_eq_true rfl⟩ rfl (Nat.le_of_ble_eq_true rfl) dJ1_charAt_3b067_3 (fun s2 hr => ?_)
  subst hr
  refine v_aload_n C dJ1_charAt_3b067_6 rfl 0 rfl ?_
  refine v_iload_n C dJ1_charAt_3b067_7 rfl 1 rfl ?_
  refine j_bald C hi hin dJ1_charAt_3b067_8 ?_
  refine v_sipush C (v := 255) dJ1_charAt_3b067_9 rfl ?_
  refine v_iand C dJ1_charAt_3b067_12 ?_
  refine v_i2c C dJ1_charAt_3b067_13 ?_
  obtain ⟨e1, e2⟩ := j_ch i hi _ hj
  rw [e1]
  exact v_zret C dJ1_charAt_3b067_14 hret hlk e2 h
theorem hd_J0_charAt_5068e : yJ0_charAt_5068e.cls ≠ "java/lang/invoke/MethodHandle" ∧ yJ0_charAt_5068e.cls ≠ "java/lang/invoke/VarHandle" ∧ (parseMethodDescriptor yJ0_charAt_5068e.desc).map (fun d => d.parameters.length) = some 1 := by decide +kernel
def w_J0_charAt_5068e (i : Nat) (a1 : Int32) (σ : Mem) (K : Int32 → Mem → Prop) : Prop := vp_in a1 (lS.getD i 0) ∧ K ((bS.getD i []).getD (ix a1) 0) σ
abbrev rm_J0_charAt_5068e : Room := { frames := 3, cells := 0, slots := 0, locals := 64 }
set_option maxHeartbeats 4000000 in
set_option maxRecDepth 100000 in
theorem c_J0_charAt_5068e (l : Launch) (L : Ly) (i : Nat) (a1 : Int32) (σ : Mem) (K : Int32 → Mem → Prop) (hi : i < 4) (h : w_J0_charAt_5068e i a1 σ K) (sz : Nat) : Met l yJ0_charAt_5068e (.code yJ0_charAt_5068e cJ0_charAt_5068e 2 (some .char) :: wA) rm_J0_charAt_5068e (va_Pc [.ref (lK L i), .int a1] (mB L sz σ)) (va_Qi K (mE L) (mA L sz)) 0 0 (mA L sz) := by
  refine v_start (own := RJ0) [(0, .ref (lK L i)), (1, .int a1)] (by decide) rfl (Nat.le_of_ble_eq_true rfl) rfl (fun p e s m args below meth c C hret hlk => ?_)
  obtain ⟨hin, h⟩ := h
  refine v_aload_n C dJ0_charAt_5068e_0 rfl 0 rfl ?_
  refine v_callJi C (i := i) [] (fun sz => c_J0_isLatin1_aae02 l L i σ (fun r s2 => r = 1 ∧ s2 = σ) hi ⟨rfl, rfl⟩ sz) mC_J0_isLatin1_aae02 mZ_J0 hd_J0_isLatin1_aae02 mI_J0_isLatin1_aae02 mS_J0_isLatin1_aae02 rfl rfl hi rfl mM_J0_492 ⟨Nat.le_of_ble_eq_true rfl, Nat.le_of_ble_eq_true rfl⟩ rfl (Nat.le_of_ble_eq_true rfl) dJ0_charAt_5068e_1 (fun r s2 hr => ?_)
  obtain ⟨rfl, rfl⟩ := hr
  refine v_if_eq C (tgt := 16) dJ0_charAt_5068e_4 (by decide) (fun hc => absurd hc (by decide)) (fun hc => ?_)
  refine v_aload_n C dJ0_charAt_5068e_7 rfl 0 rfl ?_
  refine j_value C hi dJ0_charAt_5068e_8 rfl ?_
  refine v_iload_n C dJ0_charAt_5068e_11 rfl 1 rfl ?_
  refine v_callSi C [.ref (lV L i), .int a1] (fun sz => c_J1_charAt_3b067 l L i a1 s2 (fun r s3 => r = (bS.getD i []).getD (ix a1) 0 ∧ s3 = s2) hi ⟨hin, rfl, rfl⟩ sz) mC_J1_charAt_3b067 mZ_J1 hd_J1_charAt_3b067 mT_J1_charAt_3b067 rfl rfl mM_J0_495 ⟨Nat.le_of_ble_eq_true rfl, Nat.le_of_ble_eq_true rfl⟩ rfl (Nat.le_of_ble_eq_true rfl) dJ0_charAt_5068e_12 (fun r s3 hr => ?_)
  obtain ⟨rfl, rfl⟩ := hr
  exact v_zret C dJ0_charAt_5068e_15 hret hlk (j_ch i hi _ (ix_lt hin)).2 h
theorem k_J0_length_8abf5 {p : Program} {l : Launch} {e : Env} {R : Room} {s : State} {m : MethodId} {args : Array Value} {below : List Frame} {meth : Method} {c : Code} {nL cells slots : Nat} {Q : State → Prop} {A : Nat → Prop} {L : Ly} {own : String} {cc : ByteArray} {σ : Mem} {pc idx : Nat} {lv : List (Nat × Value)} {st : List Value} {K : Int32 → Mem → Prop} (C : Cx p R s m args meth c own cc nL cells slots A L) (i : Nat) (hi : i < 4) (h : w_J0_length_8abf5 i σ K) (hml : Cond.methodLink own idx yJ0_length_8abf5 ∈ wA) (hR : rm_J0_length_8abf5.frames + 1 ≤ R.frames ∧ 8 + (1 + 11) + rm_J0_length_8abf5.locals ≤ R.locals) (hsum : (st.map fun v => v.category).sum ≤ 8) (d : decode cc pc = .ok (.invokevirtual idx, 3)) (kk : ∀ r σ1, K r σ1 → V p l e R s m args below meth c nL cells slots Q A L σ1 (pc + 3) lv (.int r :: st)) : V p l e R s m args below meth c nL cells slots Q A L σ pc lv (.ref (lK L i) :: st) := v_callJi C (i := i) [] (fun sz => c_J0_length_8abf5 l L i σ _ hi h sz) mC_J0_length_8abf5 mZ_J0 hd_J0_length_8abf5 mI_J0_length_8abf5 mS_J0_length_8abf5 rfl rfl hi rfl hml hR rfl hsum d kk
theorem k_J0_charAt_5068e {p : Program} {l : Launch} {e : Env} {R : Room} {s : State} {m : MethodId} {args : Array Value} {below : List Frame} {meth : Method} {c : Code} {nL cells slots : Nat} {Q : State → Prop} {A : Nat → Prop} {L : Ly} {own : String} {cc : ByteArray} {σ : Mem} {pc idx : Nat} {lv : List (Nat × Value)} {st : List Value} {K : Int32 → Mem → Prop} (C : Cx p R s m args meth c own cc nL cells slots A L) (i : Nat) (a1 : Int32) (hi : i < 4) (h : w_J0_charAt_5068e i a1 σ K) (hml : Cond.methodLink own idx yJ0_charAt_5068e ∈ wA) (hR : rm_J0_charAt_5068e.frames + 1 ≤ R.frames ∧ 8 + (2 + 11) + rm_J0_charAt_5068e.locals ≤ R.locals) (hsum : (st.map fun v => v.category).sum ≤ 8) (d : decode cc pc = .ok (.invokevirtual idx, 3)) (kk : ∀ r σ1, K r σ1 → V p l e R s m args below meth c nL cells slots Q A L σ1 (pc + 3) lv (.int r :: st)) : V p l e R s m args below meth c nL cells slots Q A L σ pc lv (.int a1 :: .ref (lK L i) :: st) := v_callJi C (i := i) [.int a1] (fun sz => c_J0_charAt_5068e l L i a1 σ _ hi h sz) mC_J0_charAt_5068e mZ_J0 hd_J0_charAt_5068e mI_J0_charAt_5068e mS_J0_charAt_5068e rfl rfl hi rfl hml hR rfl hsum d kk
