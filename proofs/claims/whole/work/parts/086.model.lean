section NN2
variable {p : Program} {l : Launch} {e : Env} {R : Room} {s : State} {m : MethodId} {args : Array Value} {below : List Frame} {meth : Method} {c : Code} {nL cells slots : Nat} {Q : State → Prop} {A : Nat → Prop} {L : Ly} {own : String} {cc : ByteArray} {ws ws' : va_W} {pc : Nat} {lv lv' : List (Nat × Value)} {st st0 : List Value}
theorem n_imul (C : Ck p s m args meth c own cc nL A L) {x y : Int32} (d : decode cc pc = .ok (.imul, 1)) (k : Nx p l e R s m args below meth c nL Q A L cells slots ws (pc + 1) lv (.int (x * y) :: st)) : Nx p l e R s m args below meth c nL Q A L cells slots ws pc lv (.int y :: .int x :: st) := fun H locs ls hP hD hS hl => lv_imul C.1 C.2.1 d (k H locs ls hP hD hS hl)
theorem n_perm (is : List Nat) (ws' : va_W) (h1 : is.filterMap (fun i => ws[i]?) = ws') (h2 : va_nd is = true) (h3 : is.map (fun i => ws[i]?) = ws'.map some) (k : Nx p l e R s m args below meth c nL Q A L cells slots ws' pc lv st) : Nx p l e R s m args below meth c nL Q A L cells slots ws pc lv st := fun H locs ls hP hD hS hl => k H locs ls (hP.sub is h1) (hD.sub is h2 h3) hS hl
theorem n_callS (C : Ck p s m args meth c own cc nL A L) {idx maxL : Nat} {y : MethodName} {bytes : ByteArray} {ret : Option FieldType} {rm : Room} (as : List Value) {r : Int32} (hM : ∀ sz, Met l y (.code y bytes maxL ret :: wA) rm (va_Pc as (cB L sz [])) (va_Qi (fun (x : Int32) (_ : Unit) => x = r) (cE L (va_A [] sz) (fun _ => [])) (va_A [] sz)) 0 0 (va_A [] sz)) (hmc : Cond.code y bytes maxL ret ∈ wA) (hmz : Cond.initialized y.cls ∈ wA) (hd : y.cls ≠ "java/lang/invoke/MethodHandle" ∧ y.cls ≠ "java/lang/invoke/VarHandle" ∧ (parseMethodDescriptor y.desc).map (fun d => d.parameters.length) = some as.length) (hmt : Cond.static y ∈ wA) (hrc : rm.cells = 0) (hrs : rm.slots = 0) (hml : Cond.methodLink own idx y ∈ wA) (hR : rm.frames + 1 ≤ R.frames ∧ 8 + (maxL + 11) + rm.locals ≤ R.locals) (hst : st0 = as.reverse ++ st) (hsum : (st.map fun v => v.category).sum ≤ 8) (hce : cells ≤ R.cells ∧ slots ≤ R.slots) (d : decode cc pc = .ok (.invokestatic idx, 3)) (k : Nx p l e R s m args below meth c nL Q A L cells slots ws (pc + 3) lv (.int r :: st)) : Nx p l e R s m args below meth c nL Q A L cells slots ws pc lv st0 := by
  intro H locs ls hP hD hS hl
  subst hst
  have hP0 : va_P (dd L) vwCl (ws ++ []) H := by rw [List.append_nil]; exact hP
  have hD0 : va_D A (ws ++ []) := by rw [List.append_nil]; exact hD
  refine va_calli (va_runS (As := as) (rest := st) ⟨C.1, C.2.1, C.2.2.1, C.2.2.2.1, C.2.2.2.2.1⟩ (hM H.size) ⟨callB_of as.length C.2.2.2.2.1 (fun w h => (List.mem_cons.mp h).elim (fun e => by rw [e]; exact gA _ hmc) (fun h => gA w h)) rfl hrc hrs (C.2.2.2.2.1 _ hmz) (C.2.2.2.2.1 _ hml) hd hR, C.2.2.2.2.1 _ hmt⟩ ⟨cB_blind L H.size _ _, fun U hU hW => ⟨rfl, n_callB C hP0 hD0 U hU hW⟩⟩ rfl rfl hl.1 rfl (lv_room hsum) d hce) hS (fun q _ h => n_callF C hD0 hS q h) (n_callF C hD0 hS) (fun x u t H1 locs1 ht hvm hw hB hz1 hk1 hS1 => ?_)
  obtain ⟨hP1, hD1⟩ := hB
  rw [ht] at hP1
  obtain ⟨hP2, hD2⟩ := va_joinE hP0 hD0 hk1 (n_callF C hD0 hS) hP1 hD1
  rw [List.append_nil] at hP2 hD2
  rw [hw]
  exact k H1 locs1 ls hP2 hD2 hS1 hl
theorem n_callV (C : Ck p s m args meth c own cc nL A L) {idx maxL h ci : Nat} {y : MethodName} {bytes : ByteArray} {rm : Room} {wc : va_W} {q : vw_C} {fs : List Value} (as : List Value) {S : Type} {post : S → Prop} {pw : S → va_W} (hM : ∀ sz, Met l y (.code y bytes maxL none :: wA) rm (va_Pc (.ref h :: as) (cB L sz wc)) (va_Qv post (cE L (va_A wc sz) pw) (va_A wc sz)) 0 0 (va_A wc sz)) (hmc : Cond.code y bytes maxL none ∈ wA) (hmz : Cond.initialized y.cls ∈ wA) (hd : y.cls ≠ "java/lang/invoke/MethodHandle" ∧ y.cls ≠ "java/lang/invoke/VarHandle" ∧ (parseMethodDescriptor y.desc).map (fun d => d.parameters.length) = some as.length) (hmi : Cond.instanceMethod y ∈ wA) (hms : Cond.selects y.cls y y ∈ wA) (hrc : rm.cells = 0) (hrs : rm.slots = 0) (hml : Cond.methodLink own idx y ∈ wA) (hR : rm.frames + 1 ≤ R.frames ∧ 8 + (maxL + 11) + rm.locals ≤ R.locals) (hst : st0 = as.reverse ++ .ref h :: st) (hsum : (st.map fun v => v.category).sum ≤ 8) (hcl : vwCl[ci]? = some q) (hq : q.1 = y.cls) (he : wc[0]? = some (h, .inr (ci, fs))) (hce : cells ≤ R.cells ∧ slots ≤ R.slots) (d : decode cc pc = .ok (.invokevirtual idx, 3)) (k : ∀ u, post u → Nx p l e R s m args below meth c nL Q A L cells slots (ws ++ pw u) (pc + 3) lv st) : Nx p l e R s m args below meth c nL Q A L cells slots (ws ++ wc) pc lv st0 := by
  intro H locs ls hP hD hS hl
  subst hst
  refine va_callv (va_runV (C := y.cls) (As := as) (rest := st) ⟨C.1, C.2.1, C.2.2.1, C.2.2.2.1, C.2.2.2.2.1⟩ (hM H.size) ⟨callB_of as.length C.2.2.2.2.1 (fun w h => (List.mem_cons.mp h).elim (fun e => by rw [e]; exact gA _ hmc) (fun h => gA w h)) rfl hrc hrs (C.2.2.2.2.1 _ hmz) (C.2.2.2.2.1 _ hml) hd hR, C.2.2.2.2.1 _ hmi, C.2.2.2.2.1 _ hms⟩ ⟨cB_blind L H.size _ _, ?_, fun U hU hW => ⟨rfl, n_callB C hP hD U hU hW⟩⟩ rfl rfl hl.1 rfl (lv_room hsum) d hce) hS (fun q _ h => n_callF C hD hS q h) (n_callF C hD hS) (fun u t H1 locs1 ht hvm hw hB hz1 hk1 hS1 => ?_)
  · rw [← hq]
    exact va_recv (q0 := ws.length) C.2.2.2.2.2.1 hP hcl (by rw [List.getElem?_append_right (Nat.le_refl _), Nat.sub_self]; exact he)
  · obtain ⟨hP1, hD1⟩ := hB
    rw [ht] at hP1
    obtain ⟨hP2, hD2⟩ := va_joinE hP hD hk1 (n_callF C hD hS) hP1 hD1
    exact k u hw H1 locs1 ls hP2 hD2 hS1 hl
end NN2
theorem n_iret {p : Program} {l : Launch} {e : Env} {R : Room} {s : State} {m : MethodId} {args : Array Value} {below : List Frame} {meth : Method} {c : Code} {nL : Nat} {A : Nat → Prop} {L : Ly} {own : String} {cc : ByteArray} {ws : va_W} {pc : Nat} {lv : List (Nat × Value)} {S : Type} {post : Int32 → S → Prop} {pw : S → va_W} {x : Int32} (C : Ck p s m args meth c own cc nL A L) (d : decode cc pc = .ok (.ireturn, 1)) (hr : meth.sig.returnType = some .int) (hlk : meth.locks = false) (u : S) (hu : post x u) (hw : ws = pw u) : Nx p l e R s m args below meth c nL (MQ below (va_Qi post (cE L A pw) A) args s 0 0 A) A L 0 0 ws pc lv [.int x] := by
  subst hw
  intro H locs ls hP hD hS hl
  exact W.iret C.1 C.2.1 hr (fun t ht hW => ⟨⟨x, u, rfl, hu, by rw [ht]; exact hP, hD⟩, hS.F ht⟩) hS.2.2 d hlk
def bse (a : Int32) : Int32 := if 8 ≤ a then 1110 else 134 * a
set_option maxHeartbeats 4000000 in
set_option maxRecDepth 100000 in
theorem j_base (l : Launch) (L : Ly) (a : Int32) (sz : Nat) : Met l yX7_base (.code yX7_base cX7_base 1 (some .int) :: wA) { frames := 0, cells := 0, slots := 0, locals := 0 } (va_Pc [.int a] (cB L sz [])) (va_Qi (fun (x : Int32) (_ : Unit) => x = bse a) (cE L (va_A [] sz) (fun _ => [])) (va_A [] sz)) 0 0 (va_A [] sz) := by
  refine n_start (own := RX7) [(0, .int a)] (by decide) rfl (Nat.le_of_ble_eq_true rfl) rfl (fun p e s m args below meth c C hret hlk hnm => ?_)
  refine n_iload_n C dX7_base_0 rfl 0 rfl ?_
  refine n_bipush C (v := 8) dX7_base_1 rfl ?_
  refine n_icmp_ge C (tgt := 14) dX7_base_3 (by decide) (fun q => ?_) (fun q => ?_)
  · refine n_sipush C (v := 1110) dX7_base_14 rfl ?_
    exact n_iret C dX7_base_17 hret hlk () (by unfold bse; rw [if_pos q]) rfl
  · refine n_sipush C (v := 134) dX7_base_6 rfl ?_
    refine n_iload_n C dX7_base_9 rfl 0 rfl ?_
    refine n_imul C dX7_base_10 ?_
    refine n_goto C (tgt := 17) dX7_base_11 (by decide) ?_
    exact n_iret C dX7_base_17 hret hlk () (by unfold bse; rw [if_neg q]) rfl
set_option maxHeartbeats 4000000 in
set_option maxRecDepth 100000 in
theorem j_puts (l : Launch) (L : Ly) (h qa k0 : Nat) (v1 v2 v3 v4 v5 v6 v7 v8 v9 v10 : Value) (f : Nat → Int32) (a b v : Int32) (hin : vp_in (bse a + b) 1244) (hk : (bse a + b).toNatClampNeg = k0) (sz : Nat) : Met l yX7_puts (.code yX7_puts cX7_puts 4 none :: wA) { frames := 1, cells := 0, slots := 0, locals := 20 } (va_Pc [.ref h, .int a, .int b, .int v] (cB L sz [(h, .inr (7, [.ref qa, v1, v2, v3, v4, v5, v6, v7, v8, v9, v10])), (qa, .inl (lA L 0, 1244, .inl f))])) (va_Qv (fun _ : Unit => True) (cE L (va_A [(h, .inr (7, [.ref qa, v1, v2, v3, v4, v5, v6, v7, v8, v9, v10])), (qa, .inl (lA L 0, 1244, .inl f))] sz) (fun _ => [(h, .inr (7, [.ref qa, v1, v2, v3, v4, v5, v6, v7, v8, v9, v10])), (qa, .inl (lA L 0, 1244, .inl (upd f k0 v)))])) (va_A [(h, .inr (7, [.ref qa, v1, v2, v3, v4, v5, v6, v7, v8, v9, v10])), (qa, .inl (lA L 0, 1244, .inl f))] sz)) 0 0 (va_A [(h, .inr (7, [.ref qa, v1, v2, v3, v4, v5, v6, v7, v8, v9, v10])), (qa, .inl (lA L 0, 1244, .inl f))] sz) := by
  refine n_start (own := RX7) [(0, .ref h), (1, .int a), (2, .int b), (3, .int v)] (by decide) rfl (Nat.le_of_ble_eq_true rfl) rfl (fun p e s m args below meth c C hret hlk hnm => ?_)
  refine n_aload_n C dX7_puts_0 rfl 0 rfl ?_
  refine n_get C (ci := 7) (N := 11) (j := 0) (Cm := RX7) (T := TX7) 0 rfl inlX7 (by decide) rfl rfl rfl mF_X7_7 dX7_puts_1 ?_
  refine n_iload_n C dX7_puts_4 rfl 1 rfl ?_
  refine n_callS C [.int a] (fun sz => j_base l L a sz) mC_X7_base mZ_X7 hd_X7_base mT_X7_base rfl rfl mM_X7_27 ⟨Nat.le_of_ble_eq_true rfl, Nat.le_of_ble_eq_true rfl⟩ rfl (Nat.le_of_ble_eq_true rfl) ⟨Nat.le_of_ble_eq_true rfl, Nat.le_of_ble_eq_true rfl⟩ dX7_puts_5 ?_
  refine n_iload_n C dX7_puts_8 rfl 2 rfl ?_
  refine n_iadd C dX7_puts_9 ?_
  refine n_iload_n C dX7_puts_10 rfl 3 rfl ?_
  refine n_iast C (k0 := k0) _ 1 rfl hin hk rfl dX7_puts_11 ?_
  exact n_ret C dX7_puts_12 hret hlk () trivial rfl ⟨Nat.le_refl _, Nat.le_refl _⟩
theorem model_now : (upd (upd (upd (upd (upd (upd (upd (upd (upd (upd (upd (fun _ => 0) 0 4) 134 4) 268 4) 402 4) 536 4) 670 4) 804 4) 938 4) 1110 4) 1075 1) 1076 1) = σ00 307 := by
  funext j
  rw [z_7]
  by_cases h : j = 1076 ∨ j = 1075 ∨ j = 1110 ∨ j = 938 ∨ j = 804 ∨ j = 670 ∨ j = 536 ∨ j = 402 ∨ j = 268 ∨ j = 134 ∨ j = 0
  · rcases h with rfl | rfl | rfl | rfl | rfl | rfl | rfl | rfl | rfl | rfl | rfl <;> rfl
  · simp only [upd]
    rw [if_neg (show ¬ j = 1076 by omega), if_neg (show ¬ j = 1075 by omega), if_neg (show ¬ j = 1110 by omega), if_neg (show ¬ j = 938 by omega), if_neg (show ¬ j = 804 by omega), if_neg (show ¬ j = 670 by omega), if_neg (show ¬ j = 536 by omega), if_neg (show ¬ j = 402 by omega), if_neg (show ¬ j = 268 by omega), if_neg (show ¬ j = 134 by omega), if_neg (show ¬ j = 0 by omega)]
    rw [if_neg (show ¬ j = 1110 by omega)]
    by_cases h2 : j < 1072
    · rw [if_pos h2, if_neg (by omega)]
    · rw [if_neg h2, if_neg (by omega), if_neg (by omega)]
abbrev rmi_X7 : Room := { frames := 2, cells := 4, slots := 6854, locals := 43 }
set_option maxHeartbeats 4000000 in
set_option maxRecDepth 100000 in
theorem i_X7 (l : Launch) (L : Ly) (h0 sz : Nat) : Met l yX7_init (.code yX7_init cX7_init 2 none :: wA) rmi_X7 (va_Pc [.ref h0] (cB L sz [(h0, .inr (7, [.null, .null, .int 0, .null, .int 0, .int 0, .null, .int 0, .int 0, .int 0, .int 0]))])) (va_Qv (fun ad : Nat → Nat => ad 306 = h0) (cE L (va_A [(h0, .inr (7, [.null, .null, .int 0, .null, .int 0, .int 0, .null, .int 0, .int 0, .int 0, .int 0]))] sz) (fun ad : Nat → Nat => cpM (lA L 0) (lA L 1) ad)) (va_A [(h0, .inr (7, [.null, .null, .int 0, .null, .int 0, .int 0, .null, .int 0, .int 0, .int 0, .int 0]))] sz)) 4 6854 (va_A [(h0, .inr (7, [.null, .null, .int 0, .null, .int 0, .int 0, .null, .int 0, .int 0, .int 0, .int 0]))] sz) := by
  refine n_start (own := RX7) [(0, .ref h0)] (by decide) rfl (Nat.le_of_ble_eq_true rfl) rfl (fun p e s m args below meth c C hret hlk hnm => ?_)
  refine n_aload_n C dX7_init_0 rfl 0 rfl ?_
  refine n_objInit C mM_X7_1 (Nat.le_of_ble_eq_true rfl) (Nat.le_of_ble_eq_true rfl) dX7_init_1 ?_
  refine n_aload_n C dX7_init_4 rfl 0 rfl ?_
  refine n_sipush C (v := 1244) dX7_init_5 rfl ?_
  refine n_newi C (N := 1244) (by decide) rfl (Nat.le_of_ble_eq_true rfl) (Nat.le_of_ble_eq_true rfl) (Nat.le_of_ble_eq_true rfl) dX7_init_8 (fun q0 => ?_)
  refine n_ws [(h0, .inr (7, [.null, .null, .int 0, .null, .int 0, .int 0, .null, .int 0, .int 0, .int 0, .int 0])), (q0, .inl (lA L 0, 1244, .inl (fun _ => 0)))] rfl ?_
  refine n_putF C (ci := 7) (N := 11) (j := 0) (Cm := RX7) (T := TX7) (ty0 := tyX7) [(h0, .inr (7, [.ref q0, .null, .int 0, .null, .int 0, .int 0, .null, .int 0, .int 0, .int 0, .int 0])), (q0, .inl (lA L 0, 1244, .inl (fun _ => 0)))] 0 rfl inlX7 tyX7_ok nmX7 (by decide) rfl rfl hnm rfl rfl (Nat.le_of_ble_eq_true rfl) rfl rfl mF_X7_7 dX7_init_10 ?_
  refine n_aload_n C dX7_init_13 rfl 0 rfl ?_
  refine n_sipush C (v := 4440) dX7_init_14 rfl ?_
  refine n_newi C (N := 4440) (by decide) rfl (Nat.le_of_ble_eq_true rfl) (Nat.le_of_ble_eq_true rfl) (Nat.le_of_ble_eq_true rfl) dX7_init_17 (fun q1 => ?_)
  refine n_ws [(h0, .inr (7, [.ref q0, .null, .int 0, .null, .int 0, .int 0, .null, .int 0, .int 0, .int 0, .int 0])), (q0, .inl (lA L 0, 1244, .inl (fun _ => 0))), (q1, .inl (lA L 0, 4440, .inl (fun _ => 0)))] rfl ?_
  refine n_putF C (ci := 7) (N := 11) (j := 1) (Cm := RX7) (T := TX7) (ty0 := tyX7) [(h0, .inr (7, [.ref q0, .ref q1, .int 0, .null, .int 0, .int 0, .null, .int 0, .int 0, .int 0, .int 0])), (q0, .inl (lA L 0, 1244, .inl (fun _ => 0))), (q1, .inl (lA L 0, 4440, .inl (fun _ => 0)))] 0 rfl inlX7 tyX7_ok nmX7 (by decide) rfl rfl hnm rfl rfl (Nat.le_of_ble_eq_true rfl) rfl rfl mF_X7_13 dX7_init_19 ?_
  refine n_aload_n C dX7_init_22 rfl 0 rfl ?_
  refine n_sipush C (v := 1110) dX7_init_23 rfl ?_
  refine n_newi C (N := 1110) (by decide) rfl (Nat.le_of_ble_eq_true rfl) (Nat.le_of_ble_eq_true rfl) (Nat.le_of_ble_eq_true rfl) dX7_init_26 (fun q2 => ?_)
  refine n_ws [(h0, .inr (7, [.ref q0, .ref q1, .int 0, .null, .int 0, .int 0, .null, .int 0, .int 0, .int 0, .int 0])), (q0, .inl (lA L 0, 1244, .inl (fun _ => 0))), (q1, .inl (lA L 0, 4440, .inl (fun _ => 0))), (q2, .inl (lA L 0, 1110, .inl (fun _ => 0)))] rfl ?_
  refine n_putF C (ci := 7) (N := 11) (j := 3) (Cm := RX7) (T := TX7) (ty0 := tyX7) [(h0, .inr (7, [.ref q0, .ref q1, .int 0, .ref q2, .int 0, .int 0, .null, .int 0, .int 0, .int 0, .int 0])), (q0, .inl (lA L 0, 1244, .inl (fun _ => 0))), (q1, .inl (lA L 0, 4440, .inl (fun _ => 0))), (q2, .inl (lA L 0, 1110, .inl (fun _ => 0)))] 0 rfl inlX7 tyX7_ok nmX7 (by decide) rfl rfl hnm rfl rfl (Nat.le_of_ble_eq_true rfl) rfl rfl mF_X7_16 dX7_init_28 ?_
  refine n_aload_n C dX7_init_31 rfl 0 rfl ?_
  refine n_bipush C (v := 60) dX7_init_32 rfl ?_
  refine n_newc C (N := 60) (by decide) rfl (Nat.le_of_ble_eq_true rfl) (Nat.le_of_ble_eq_true rfl) (Nat.le_of_ble_eq_true rfl) dX7_init_34 (fun q3 => ?_)
  refine n_ws [(h0, .inr (7, [.ref q0, .ref q1, .int 0, .ref q2, .int 0, .int 0, .null, .int 0, .int 0, .int 0, .int 0])), (q0, .inl (lA L 0, 1244, .inl (fun _ => 0))), (q1, .inl (lA L 0, 4440, .inl (fun _ => 0))), (q2, .inl (lA L 0, 1110, .inl (fun _ => 0))), (q3, .inl (lA L 1, 60, .inl (fun _ => 0)))] rfl ?_
  refine n_putF C (ci := 7) (N := 11) (j := 6) (Cm := RX7) (T := TX7) (ty0 := tyX7) [(h0, .inr (7, [.ref q0, .ref q1, .int 0, .ref q2, .int 0, .int 0, .ref q3, .int 0, .int 0, .int 0, .int 0])), (q0, .inl (lA L 0, 1244, .inl (fun _ => 0))), (q1, .inl (lA L 0, 4440, .inl (fun _ => 0))), (q2, .inl (lA L 0, 1110, .inl (fun _ => 0))), (q3, .inl (lA L 1, 60, .inl (fun _ => 0)))] 0 rfl inlX7 tyX7_ok nmX7 (by decide) rfl rfl hnm rfl rfl (Nat.le_of_ble_eq_true rfl) rfl rfl mF_X7_19 dX7_init_36 ?_
  refine n_perm [2, 3, 4, 0, 1] ([(q1, .inl (lA L 0, 4440, .inl (fun _ => 0))), (q2, .inl (lA L 0, 1110, .inl (fun _ => 0))), (q3, .inl (lA L 1, 60, .inl (fun _ => 0)))] ++ [(h0, .inr (7, [.ref q0, .ref q1, .int 0, .ref q2, .int 0, .int 0, .ref q3, .int 0, .int 0, .int 0, .int 0])), (q0, .inl (lA L 0, 1244, .inl (fun _ => 0)))]) rfl (by decide) rfl ?_
  refine n_iconst C (v := 0) dX7_init_39 rfl ?_
  refine n_istore_n C [(1, .int 0), (0, .ref h0)] dX7_init_40 rfl (by decide) rfl ?_
  refine n_iload_n C dX7_init_41 rfl 0 rfl ?_
  refine n_bipush C (v := 8) dX7_init_42 rfl ?_
  refine n_icmp_gt C (tgt := 60) dX7_init_44 (by decide) (fun q => absurd q (by decide)) (fun _ => ?_)
  refine n_aload_n C dX7_init_47 rfl 1 rfl ?_
  refine n_iload_n C dX7_init_48 rfl 0 rfl ?_
  refine n_iconst C (v := 0) dX7_init_49 rfl ?_
  refine n_iconst C (v := 4) dX7_init_50 rfl ?_
  refine n_callV C [.int 0, .int 0, .int 4] (fun sz => j_puts l L h0 q0 0 _ _ _ _ _ _ _ _ _ _ (fun _ => 0) 0 0 4 (by unfold vp_in; decide) (by decide) sz) mC_X7_puts mZ_X7 (by decide +kernel) mI_X7_puts mS_X7_puts rfl rfl mM_X7_23 ⟨Nat.le_of_ble_eq_true rfl, Nat.le_of_ble_eq_true rfl⟩ rfl (Nat.le_of_ble_eq_true rfl) (ci := 7) rfl rfl rfl ⟨Nat.le_of_ble_eq_true rfl, Nat.le_of_ble_eq_true rfl⟩ dX7_init_51 (fun _ _ => ?_)
  refine n_ws ([(q1, .inl (lA L 0, 4440, .inl (fun _ => 0))), (q2, .inl (lA L 0, 1110, .inl (fun _ => 0))), (q3, .inl (lA L 1, 60, .inl (fun _ => 0)))] ++ [(h0, .inr (7, [.ref q0, .ref q1, .int 0, .ref q2, .int 0, .int 0, .ref q3, .int 0, .int 0, .int 0, .int 0])), (q0, .inl (lA L 0, 1244, .inl (upd (fun _ => 0) 0 4)))]) rfl ?_
  refine n_iinc C (v := 1) [(1, .int 1), (0, .ref h0)] dX7_init_54 0 rfl rfl (by decide) rfl ?_
  refine n_goto C (tgt := 41) dX7_init_57 (by decide) ?_
  refine n_iload_n C dX7_init_41 rfl 0 rfl ?_
  refine n_bipush C (v := 8) dX7_init_42 rfl ?_
  refine n_icmp_gt C (tgt := 60) dX7_init_44 (by decide) (fun q => absurd q (by decide)) (fun _ => ?_)
  refine n_aload_n C dX7_init_47 rfl 1 rfl ?_
  refine n_iload_n C dX7_init_48 rfl 0 rfl ?_
  refine n_iconst C (v := 0) dX7_init_49 rfl ?_
  refine n_iconst C (v := 4) dX7_init_50 rfl ?_
  refine n_callV C [.int 1, .int 0, .int 4] (fun sz => j_puts l L h0 q0 134 _ _ _ _ _ _ _ _ _ _ (upd (fun _ => 0) 0 4) 1 0 4 (by unfold vp_in; decide) (by decide) sz) mC_X7_puts mZ_X7 (by decide +kernel) mI_X7_puts mS_X7_puts rfl rfl mM_X7_23 ⟨Nat.le_of_ble_eq_true rfl, Nat.le_of_ble_eq_true rfl⟩ rfl (Nat.le_of_ble_eq_true rfl) (ci := 7) rfl rfl rfl ⟨Nat.le_of_ble_eq_true rfl, Nat.le_of_ble_eq_true rfl⟩ dX7_init_51 (fun _ _ => ?_)
  refine n_ws ([(q1, .inl (lA L 0, 4440, .inl (fun _ => 0))), (q2, .inl (lA L 0, 1110, .inl (fun _ => 0))), (q3, .inl (lA L 1, 60, .inl (fun _ => 0)))] ++ [(h0, .inr (7, [.ref q0, .ref q1, .int 0, .ref q2, .int 0, .int 0, .ref q3, .int 0, .int 0, .int 0, .int 0])), (q0, .inl (lA L 0, 1244, .inl (upd (upd (fun _ => 0) 0 4) 134 4)))]) rfl ?_
  refine n_iinc C (v := 2) [(1, .int 2), (0, .ref h0)] dX7_init_54 0 rfl rfl (by decide) rfl ?_
  refine n_goto C (tgt := 41) dX7_init_57 (by decide) ?_
  refine n_iload_n C dX7_init_41 rfl 0 rfl ?_
  refine n_bipush C (v := 8) dX7_init_42 rfl ?_
  refine n_icmp_gt C (tgt := 60) dX7_init_44 (by decide) (fun q => absurd q (by decide)) (fun _ => ?_)
  refine n_aload_n C dX7_init_47 rfl 1 rfl ?_
  refine n_iload_n C dX7_init_48 rfl 0 rfl ?_
  refine n_iconst C (v := 0) dX7_init_49 rfl ?_
  refine n_iconst C (v := 4) dX7_init_50 rfl ?_
  refine n_callV C [.int 2, .int 0, .int 4] (fun sz => j_puts l L h0 q0 268 _ _ _ _ _ _ _ _ _ _ (upd (upd (fun _ => 0) 0 4) 134 4) 2 0 4 (by unfold vp_in; decide) (by decide) sz) mC_X7_puts mZ_X7 (by decide +kernel) mI_X7_puts mS_X7_puts rfl rfl mM_X7_23 ⟨Nat.le_of_ble_eq_true rfl, Nat.le_of_ble_eq_true rfl⟩ rfl (Nat.le_of_ble_eq_true rfl) (ci := 7) rfl rfl rfl ⟨Nat.le_of_ble_eq_true rfl, Nat.le_of_ble_eq_true rfl⟩ dX7_init_51 (fun _ _ => ?_)
  refine n_ws ([(q1, .inl (lA L 0, 4440, .inl (fun _ => 0))), (q2, .inl (lA L 0, 1110, .inl (fun _ => 0))), (q3, .inl (lA L 1, 60, .inl (fun _ => 0)))] ++ [(h0, .inr (7, [.ref q0, .ref q1, .int 0, .ref q2, .int 0, .int 0, .ref q3, .int 0, .int 0, .int 0, .int 0])), (q0, .inl (lA L 0, 1244, .inl (upd (upd (upd (fun _ => 0) 0 4) 134 4) 268 4)))]) rfl ?_
  refine n_iinc C (v := 3) [(1, .int 3), (0, .ref h0)] dX7_init_54 0 rfl rfl (by decide) rfl ?_
  refine n_goto C (tgt := 41) dX7_init_57 (by decide) ?_
  refine n_iload_n C dX7_init_41 rfl 0 rfl ?_
  refine n_bipush C (v := 8) dX7_init_42 rfl ?_
  refine n_icmp_gt C (tgt := 60) dX7_init_44 (by decide) (fun q => absurd q (by decide)) (fun _ => ?_)
  refine n_aload_n C dX7_init_47 rfl 1 rfl ?_
  refine n_iload_n C dX7_init_48 rfl 0 rfl ?_
  refine n_iconst C (v := 0) dX7_init_49 rfl ?_
  refine n_iconst C (v := 4) dX7_init_50 rfl ?_
  refine n_callV C [.int 3, .int 0, .int 4] (fun sz => j_puts l L h0 q0 402 _ _ _ _ _ _ _ _ _ _ (upd (upd (upd (fun _ => 0) 0 4) 134 4) 268 4) 3 0 4 (by unfold vp_in; decide) (by decide) sz) mC_X7_puts mZ_X7 (by decide +kernel) mI_X7_puts mS_X7_puts rfl rfl mM_X7_23 ⟨Nat.le_of_ble_eq_true rfl, Nat.le_of_ble_eq_true rfl⟩ rfl (Nat.le_of_ble_eq_true rfl) (ci := 7) rfl rfl rfl ⟨Nat.le_of_ble_eq_true rfl, Nat.le_of_ble_eq_true rfl⟩ dX7_init_51 (fun _ _ => ?_)
  refine n_ws ([(q1, .inl (lA L 0, 4440, .inl (fun _ => 0))), (q2, .inl (lA L 0, 1110, .inl (fun _ => 0))), (q3, .inl (lA L 1, 60, .inl (fun _ => 0)))] ++ [(h0, .inr (7, [.ref q0, .ref q1, .int 0, .ref q2, .int 0, .int 0, .ref q3, .int 0, .int 0, .int 0, .int 0])), (q0, .inl (lA L 0, 1244, .inl (upd (upd (upd (upd (fun _ => 0) 0 4) 134 4) 268 4) 402 4)))]) rfl ?_
  refine n_iinc C (v := 4) [(1, .int 4), (0, .ref h0)] dX7_init_54 0 rfl rfl (by decide) rfl ?_
  refine n_goto C (tgt := 41) dX7_init_57 (by decide) ?_
  refine n_iload_n C dX7_init_41 rfl 0 rfl ?_
  refine n_bipush C (v := 8) dX7_init_42 rfl ?_
  refine n_icmp_gt C (tgt := 60) dX7_init_44 (by decide) (fun q => absurd q (by decide)) (fun _ => ?_)
  refine n_aload_n C dX7_init_47 rfl 1 rfl ?_
  refine n_iload_n C dX7_init_48 rfl 0 rfl ?_
  refine n_iconst C (v := 0) dX7_init_49 rfl ?_
  refine n_iconst C (v := 4) dX7_init_50 rfl ?_
  refine n_callV C [.int 4, .int 0, .int 4] (fun sz => j_puts l L h0 q0 536 _ _ _ _ _ _ _ _ _ _ (upd (upd (upd (upd (fun _ => 0) 0 4) 134 4) 268 4) 402 4) 4 0 4 (by unfold vp_in; decide) (by decide) sz) mC_X7_puts mZ_X7 (by decide +kernel) mI_X7_puts mS_X7_puts rfl rfl mM_X7_23 ⟨Nat.le_of_ble_eq_true rfl, Nat.le_of_ble_eq_true rfl⟩ rfl (Nat.le_of_ble_eq_true rfl) (ci := 7) rfl rfl rfl ⟨Nat.le_of_ble_eq_true rfl, Nat.le_of_ble_eq_true rfl⟩ dX7_init_51 (fun _ _ => ?_)
  refine n_ws ([(q1, .inl (lA L 0, 4440, .inl (fun _ => 0))), (q2, .inl (lA L 0, 1110, .inl (fun _ => 0))), (q3, .inl (lA L 1, 60, .inl (fun _ => 0)))] ++ [(h0, .inr (7, [.ref q0, .ref q1, .int 0, .ref q2, .int 0, .int 0, .ref q3, .int 0, .int 0, .int 0, .int 0])), (q0, .inl (lA L 0, 1244, .inl (upd (upd (upd (upd (upd (fun _ => 0) 0 4) 134 4) 268 4) 402 4) 536 4)))]) rfl ?_
  refine n_iinc C (v := 5) [(1, .int 5), (0, .ref h0)] dX7_init_54 0 rfl rfl (by decide) rfl ?_
  refine n_goto C (tgt := 41) dX7_init_57 (by decide) ?_
  refine n_iload_n C dX7_init_41 rfl 0 rfl ?_
  refine n_bipush C (v := 8) dX7_init_42 rfl ?_
  refine n_icmp_gt C (tgt := 60) dX7_init_44 (by decide) (fun q => absurd q (by decide)) (fun _ => ?_)
  refine n_aload_n C dX7_init_47 rfl 1 rfl ?_
  refine n_iload_n C dX7_init_48 rfl 0 rfl ?_
  refine n_iconst C (v := 0) dX7_init_49 rfl ?_
  refine n_iconst C (v := 4) dX7_init_50 rfl ?_
  refine n_callV C [.int 5, .int 0, .int 4] (fun sz => j_puts l L h0 q0 670 _ _ _ _ _ _ _ _ _ _ (upd (upd (upd (upd (upd (fun _ => 0) 0 4) 134 4) 268 4) 402 4) 536 4) 5 0 4 (by unfold vp_in; decide) (by decide) sz) mC_X7_puts mZ_X7 (by decide +kernel) mI_X7_puts mS_X7_puts rfl rfl mM_X7_23 ⟨Nat.le_of_ble_eq_true rfl, Nat.le_of_ble_eq_true rfl⟩ rfl (Nat.le_of_ble_eq_true rfl) (ci := 7) rfl rfl rfl ⟨Nat.le_of_ble_eq_true rfl, Nat.le_of_ble_eq_true rfl⟩ dX7_init_51 (fun _ _ => ?_)
  refine n_ws ([(q1, .inl (lA L 0, 4440, .inl (fun _ => 0))), (q2, .inl (lA L 0, 1110, .inl (fun _ => 0))), (q3, .inl (lA L 1, 60, .inl (fun _ => 0)))] ++ [(h0, .inr (7, [.ref q0, .ref q1, .int 0, .ref q2, .int 0, .int 0, .ref q3, .int 0, .int 0, .int 0, .int 0])), (q0, .inl (lA L 0, 1244, .inl (upd (upd (upd (upd (upd (upd (fun _ => 0) 0 4) 134 4) 268 4) 402 4) 536 4) 670 4)))]) rfl ?_
  refine n_iinc C (v := 6) [(1, .int 6), (0, .ref h0)] dX7_init_54 0 rfl rfl (by decide) rfl ?_
  refine n_goto C (tgt := 41) dX7_init_57 (by decide) ?_
  refine n_iload_n C dX7_init_41 rfl 0 rfl ?_
  refine n_bipush C (v := 8) dX7_init_42 rfl ?_
  refine n_icmp_gt C (tgt := 60) dX7_init_44 (by decide) (fun q => absurd q (by decide)) (fun _ => ?_)
  refine n_aload_n C dX7_init_47 rfl 1 rfl ?_
  refine n_iload_n C dX7_init_48 rfl 0 rfl ?_
  refine n_iconst C (v := 0) dX7_init_49 rfl ?_
  refine n_iconst C (v := 4) dX7_init_50 rfl ?_
  refine n_callV C [.int 6, .int 0, .int 4] (fun sz => j_puts l L h0 q0 804 _ _ _ _ _ _ _ _ _ _ (upd (upd (upd (upd (upd (upd (fun _ => 0) 0 4) 134 4) 268 4) 402 4) 536 4) 670 4) 6 0 4 (by unfold vp_in; decide) (by decide) sz) mC_X7_puts mZ_X7 (by decide +kernel) mI_X7_puts mS_X7_puts rfl rfl mM_X7_23 ⟨Nat.le_of_ble_eq_true rfl, Nat.le_of_ble_eq_true rfl⟩ rfl (Nat.le_of_ble_eq_true rfl) (ci := 7) rfl rfl rfl ⟨Nat.le_of_ble_eq_true rfl, Nat.le_of_ble_eq_true rfl⟩ dX7_init_51 (fun _ _ => ?_)
  refine n_ws ([(q1, .inl (lA L 0, 4440, .inl (fun _ => 0))), (q2, .inl (lA L 0, 1110, .inl (fun _ => 0))), (q3, .inl (lA L 1, 60, .inl (fun _ => 0)))] ++ [(h0, .inr (7, [.ref q0, .ref q1, .int 0, .ref q2, .int 0, .int 0, .ref q3, .int 0, .int 0, .int 0, .int 0])), (q0, .inl (lA L 0, 1244, .inl (upd (upd (upd (upd (upd (upd (upd (fun _ => 0) 0 4) 134 4) 268 4) 402 4) 536 4) 670 4) 804 4)))]) rfl ?_
  refine n_iinc C (v := 7) [(1, .int 7), (0, .ref h0)] dX7_init_54 0 rfl rfl (by decide) rfl ?_
  refine n_goto C (tgt := 41) dX7_init_57 (by decide) ?_
  refine n_iload_n C dX7_init_41 rfl 0 rfl ?_
  refine n_bipush C (v := 8) dX7_init_42 rfl ?_
  refine n_icmp_gt C (tgt := 60) dX7_init_44 (by decide) (fun q => absurd q (by decide)) (fun _ => ?_)
  refine n_aload_n C dX7_init_47 rfl 1 rfl ?_
  refine n_iload_n C dX7_init_48 rfl 0 rfl ?_
  refine n_iconst C (v := 0) dX7_init_49 rfl ?_
  refine n_iconst C (v := 4) dX7_init_50 rfl ?_
  refine n_callV C [.int 7, .int 0, .int 4] (fun sz => j_puts l L h0 q0 938 _ _ _ _ _ _ _ _ _ _ (upd (upd (upd (upd (upd (upd (upd (fun _ => 0) 0 4) 134 4) 268 4) 402 4) 536 4) 670 4) 804 4) 7 0 4 (by unfold vp_in; decide) (by decide) sz) mC_X7_puts mZ_X7 (by decide +kernel) mI_X7_puts mS_X7_puts rfl rfl mM_X7_23 ⟨Nat.le_of_ble_eq_true rfl, Nat.le_of_ble_eq_true rfl⟩ rfl (Nat.le_of_ble_eq_true rfl) (ci := 7) rfl rfl rfl ⟨Nat.le_of_ble_eq_true rfl, Nat.le_of_ble_eq_true rfl⟩ dX7_init_51 (fun _ _ => ?_)
  refine n_ws ([(q1, .inl (lA L 0, 4440, .inl (fun _ => 0))), (q2, .inl (lA L 0, 1110, .inl (fun _ => 0))), (q3, .inl (lA L 1, 60, .inl (fun _ => 0)))] ++ [(h0, .inr (7, [.ref q0, .ref q1, .int 0, .ref q2, .int 0, .int 0, .ref q3, .int 0, .int 0, .int 0, .int 0])), (q0, .inl (lA L 0, 1244, .inl (upd (upd (upd (upd (upd (upd (upd (upd (fun _ => 0) 0 4) 134 4) 268 4) 402 4) 536 4) 670 4) 804 4) 938 4)))]) rfl ?_
  refine n_iinc C (v := 8) [(1, .int 8), (0, .ref h0)] dX7_init_54 0 rfl rfl (by decide) rfl ?_
  refine n_goto C (tgt := 41) dX7_init_57 (by decide) ?_
  refine n_iload_n C dX7_init_41 rfl 0 rfl ?_
  refine n_bipush C (v := 8) dX7_init_42 rfl ?_
  refine n_icmp_gt C (tgt := 60) dX7_init_44 (by decide) (fun q => absurd q (by decide)) (fun _ => ?_)
  refine n_aload_n C dX7_init_47 rfl 1 rfl ?_
  refine n_iload_n C dX7_init_48 rfl 0 rfl ?_
  refine n_iconst C (v := 0) dX7_init_49 rfl ?_
  refine n_iconst C (v := 4) dX7_init_50 rfl ?_
  refine n_callV C [.int 8, .int 0, .int 4] (fun sz => j_puts l L h0 q0 1110 _ _ _ _ _ _ _ _ _ _ (upd (upd (upd (upd (upd (upd (upd (upd (fun _ => 0) 0 4) 134 4) 268 4) 402 4) 536 4) 670 4) 804 4) 938 4) 8 0 4 (by unfold vp_in; decide) (by decide) sz) mC_X7_puts mZ_X7 (by decide +kernel) mI_X7_puts mS_X7_puts rfl rfl mM_X7_23 ⟨Nat.le_of_ble_eq_true rfl, Nat.le_of_ble_eq_true rfl⟩ rfl (Nat.le_of_ble_eq_true rfl) (ci := 7) rfl rfl rfl ⟨Nat.le_of_ble_eq_true rfl, Nat.le_of_ble_eq_true rfl⟩ dX7_init_51 (fun _ _ => ?_)
  refine n_ws ([(q1, .inl (lA L 0, 4440, .inl (fun _ => 0))), (q2, .inl (lA L 0, 1110, .inl (fun _ => 0))), (q3, .inl (lA L 1, 60, .inl (fun _ => 0)))] ++ [(h0, .inr (7, [.ref q0, .ref q1, .int 0, .ref q2, .int 0, .int 0, .ref q3, .int 0, .int 0, .int 0, .int 0])), (q0, .inl (lA L 0, 1244, .inl (upd (upd (upd (upd (upd (upd (upd (upd (upd (fun _ => 0) 0 4) 134 4) 268 4) 402 4) 536 4) 670 4) 804 4) 938 4) 1110 4)))]) rfl ?_
  refine n_iinc C (v := 9) [(1, .int 9), (0, .ref h0)] dX7_init_54 0 rfl rfl (by decide) rfl ?_
  refine n_goto C (tgt := 41) dX7_init_57 (by decide) ?_
  refine n_iload_n C dX7_init_41 rfl 0 rfl ?_
  refine n_bipush C (v := 8) dX7_init_42 rfl ?_
  refine n_icmp_gt C (tgt := 60) dX7_init_44 (by decide) (fun _ => ?_) (fun q => absurd (by decide) q)
  refine n_aload_n C dX7_init_60 rfl 1 rfl ?_
  refine n_get C (ci := 7) (N := 11) (j := 0) (Cm := RX7) (T := TX7) 3 rfl inlX7 (by decide) rfl rfl rfl mF_X7_7 dX7_init_61 ?_
  refine n_sipush C (v := 1075) dX7_init_64 rfl ?_
  refine n_iconst C (v := 1) dX7_init_67 rfl ?_
  refine n_iast C (k0 := 1075) ([(q1, .inl (lA L 0, 4440, .inl (fun _ => 0))), (q2, .inl (lA L 0, 1110, .inl (fun _ => 0))), (q3, .inl (lA L 1, 60, .inl (fun _ => 0)))] ++ [(h0, .inr (7, [.ref q0, .ref q1, .int 0, .ref q2, .int 0, .int 0, .ref q3, .int 0, .int 0, .int 0, .int 0])), (q0, .inl (lA L 0, 1244, .inl (upd (upd (upd (upd (upd (upd (upd (upd (upd (upd (fun _ => 0) 0 4) 134 4) 268 4) 402 4) 536 4) 670 4) 804 4) 938 4) 1110 4) 1075 1)))]) 4 rfl (by unfold vp_in; decide) (by decide) rfl dX7_init_68 ?_
  refine n_aload_n C dX7_init_69 rfl 1 rfl ?_
  refine n_get C (ci := 7) (N := 11) (j := 0) (Cm := RX7) (T := TX7) 3 rfl inlX7 (by decide) rfl rfl rfl mF_X7_7 dX7_init_70 ?_
  refine n_sipush C (v := 1076) dX7_init_73 rfl ?_
  refine n_iconst C (v := 1) dX7_init_76 rfl ?_
  refine n_iast C (k0 := 1076) ([(q1, .inl (lA L 0, 4440, .inl (fun _ => 0))), (q2, .inl (lA L 0, 1110, .inl (fun _ => 0))), (q3, .inl (lA L 1, 60, .inl (fun _ => 0)))] ++ [(h0, .inr (7, [.ref q0, .ref q1, .int 0, .ref q2, .int 0, .int 0, .ref q3, .int 0, .int 0, .int 0, .int 0])), (q0, .inl (lA L 0, 1244, .inl (upd (upd (upd (upd (upd (upd (upd (upd (upd (upd (upd (fun _ => 0) 0 4) 134 4) 268 4) 402 4) 536 4) 670 4) 804 4) 938 4) 1110 4) 1075 1) 1076 1)))]) 4 rfl (by unfold vp_in; decide) (by decide) rfl dX7_init_77 ?_
  refine n_perm [3, 4, 0, 1, 2] [(h0, .inr (7, [.ref q0, .ref q1, .int 0, .ref q2, .int 0, .int 0, .ref q3, .int 0, .int 0, .int 0, .int 0])), (q0, .inl (lA L 0, 1244, .inl (upd (upd (upd (upd (upd (upd (upd (upd (upd (upd (upd (fun _ => 0) 0 4) 134 4) 268 4) 402 4) 536 4) 670 4) 804 4) 938 4) 1110 4) 1075 1) 1076 1))), (q1, .inl (lA L 0, 4440, .inl (fun _ => 0))), (q2, .inl (lA L 0, 1110, .inl (fun _ => 0))), (q3, .inl (lA L 1, 60, .inl (fun _ => 0)))] rfl (by decide) rfl ?_
  rw [model_now]
  exact n_ret C dX7_init_78 hret hlk (adl 306 [h0, q0, q1, q2, q3]) rfl rfl ⟨Nat.le_of_ble_eq_true rfl, Nat.le_of_ble_eq_true rfl⟩
