/-! THE CLAIM OUT OF ONE WALK OF THE LAW'S BODY. Your part is whole_start (and what it stands on); all else here is the same for every law, but numbers. -/
def R_law : String := "FloorTopsLaw"
def lw_P (b : Addr) (xs : List Int32) (args : Array Value) (s : State) : Prop := args = #[.ref b] ∧ s.IntsAt b xs ∧ xs.length ≤ 2048 ∧ (Jvm.Cond.and given_1 narrow_1).before args s = true
def lw_Q (_ : Array Value) (s : State) (o : Outcome) (t : State) : Prop := o = .returned (some (.int 1)) ∧ Framed s o t [] 600000 7302250
def lw_Z (below : List Frame) (a : Array Value) (s : State) : State → Prop := fun t => ∃ o, t.status = .running ∧ Ended t below o ∧ lw_Q a s o t
/-- the law's own end, with 1 on the stack, nothing written that was there before, its room as the claim has it -/
theorem lw_ret {p : Program} {l : Launch} {e : Env} {s : State} {m : MethodId} {below : List Frame} {meth : Method} {c : Code} {b : Nat} (hx : p.tables.exec = Jvm.exec) (hb : c.code = code) (hr : meth.sig.returnType = ret) (hlocks : meth.locks = false) {pc : Nat} {H : Heap} {ls : Array Slot} (hdg : decode code pc = .ok (.ireturn, 1)) : W p l e room_1 s m #[Value.ref b] below meth c H [] 600000 7302250 (lw_Z below #[Value.ref b] s) (F0 m pc ls [.int 1]) := by
  intro T hT X
  obtain ⟨fs, hret, hrun, hended, hW, hframe⟩ := X.leave (v := some (.int 1)) (hlocks := hlocks) (fun h => by rw [hr] at h; cases h)
  have hmeth' : T.vm.method? m = some meth := X.method'
  refine ⟨T.setFrames fs, ?_, .returned (some (.int 1)), hrun, hended, rfl, ⟨_, rfl⟩, hW, hframe⟩
  jvm_step X.here [X.here.top, hx, hb, hdg, hmeth', hr, ret, narrow_b1]
  (try refine ⟨rfl, ?_⟩); (try refine ⟨rfl, ?_⟩)
  first | (intro acts; rw [hret _ acts rfl rfl rfl]) | rw [hret _ _ rfl rfl rfl]
  exact Steps.refl _
/-- what holds at the law's entry: the machine, the code, the tables' words (any of lw_tbl by 'hts w (by decide +kernel)'), the script of L ints xs at the cell b, what the Statement gives of the start (any of its parts by flat_of_before) -/
def lw_At (p : Program) (s : State) (m : MethodId) (meth : Method) (c : Code) (b L : Nat) (xs : Nat → Int32) : Prop :=
  p.tables.exec = Jvm.exec ∧ c.code = code ∧ meth.sig.returnType = ret ∧ c.maxLocals = 4 ∧ s.vm.findClass R_law = some m.cls ∧ (∀ w ∈ lw_tbl, w.before #[Value.ref b] s = true) ∧ va_X b L xs s s.heap ∧ b < s.heap.size ∧ meth.locks = false ∧ (Jvm.Cond.and given_1 narrow_1).before #[Value.ref b] s = true

theorem lp_sub {N : Nat} (hN : N ≤ 2048) : (Int32.ofNat N - 4).toInt = (N : Int) - 4 := by
  have h4 : (4 : Int32).toInt = 4 := by decide
  have h : (Int32.ofNat N).toInt = N := nI_toInt (n := N) (by omega)
  rw [Int32.toInt_sub, h, h4]
  apply Int.bmod_eq_of_le <;> omega

theorem lp_in {j N x : Nat} (hN : N ≤ 2048) (h : j + 4 ≤ N) (hx : x < 4) : vp_in (nI j + nI x) N := by
  rw [nI_add]
  exact vp_in_nI (by omega) (by omega)

set_option maxHeartbeats 4000000 in
set_option maxRecDepth 100000 in
theorem law_sw {p : Program} {l : Launch} {e : Env} {s : State} {m : MethodId} {args : Array Value} {below : List Frame} {meth : Method} {c : Code} {cells slots : Nat} {Q : State → Prop} {A : Nat → Prop} {L : Ly} {σ : Mem} {b N : Nat} {xs : Nat → Int32} (C : Cx p room_1 s m args meth c RL cL_law 4 cells slots A L) (hX : va_X b N xs s s.heap) (hbl : b < s.heap.size) (hbA : ¬ A b) {j : Nat} (hN : N ≤ 2048) (hj : j + 4 ≤ N) (hi : Inv σ) (back : ∀ σ2, Inv σ2 → V p l e room_1 s m args below meth c 4 cells slots Q A L σ2 933 (lw0 L b (nI j)) []) : V p l e room_1 s m args below meth c 4 cells slots Q A L σ 32 (lw0 L b (nI j)) [.int ((xs (nI j).toNatClampNeg) &&& 31)] := by
  have h1 : vp_in (nI j + 1) N := lp_in (x := 1) hN hj (by omega)
  have h2 : vp_in (nI j + 2) N := lp_in (x := 2) hN hj (by omega)
  have h3 : vp_in (nI j + 3) N := lp_in (x := 3) hN hj (by omega)
  by_cases q0 : (xs (nI j).toNatClampNeg) &&& 31 = 0
  · refine v_tabIn C (tgt := 148) (v := 0) dL_law_32 q0 (by decide) (by decide) rfl (by decide) ?_
    exact lc_arrive C hX hbl hbA h1 h2 h3 hi back
  by_cases q1 : (xs (nI j).toNatClampNeg) &&& 31 = 1
  · refine v_tabIn C (tgt := 193) (v := 1) dL_law_32 q1 (by decide) (by decide) rfl (by decide) ?_
    exact lc_feed C hX hbl hbA h1 h2 h3 hi back
  by_cases q2 : (xs (nI j).toNatClampNeg) &&& 31 = 2
  · refine v_tabIn C (tgt := 216) (v := 2) dL_law_32 q2 (by decide) (by decide) rfl (by decide) ?_
    exact lc_flow C hX hbl hbA h1 h2 h3 hi back
  by_cases q3 : (xs (nI j).toNatClampNeg) &&& 31 = 3
  · refine v_tabIn C (tgt := 251) (v := 3) dL_law_32 q3 (by decide) (by decide) rfl (by decide) ?_
    exact lc_flowAll C hX hbl hbA h1 h2 h3 hi back
  by_cases q4 : (xs (nI j).toNatClampNeg) &&& 31 = 4
  · refine v_tabIn C (tgt := 264) (v := 4) dL_law_32 q4 (by decide) (by decide) rfl (by decide) ?_
    exact lc_merge C hX hbl hbA h1 h2 h3 hi back
  by_cases q5 : (xs (nI j).toNatClampNeg) &&& 31 = 5
  · refine v_tabIn C (tgt := 297) (v := 5) dL_law_32 q5 (by decide) (by decide) rfl (by decide) ?_
    exact lc_copy C hX hbl hbA h1 h2 h3 hi back
  by_cases q6 : (xs (nI j).toNatClampNeg) &&& 31 = 6
  · refine v_tabIn C (tgt := 330) (v := 6) dL_law_32 q6 (by decide) (by decide) rfl (by decide) ?_
    exact lc_setSize C hX hbl hbA h1 h2 h3 hi back
  by_cases q7 : (xs (nI j).toNatClampNeg) &&& 31 = 7
  · refine v_tabIn C (tgt := 363) (v := 7) dL_law_32 q7 (by decide) (by decide) rfl (by decide) ?_
    exact lc_clear C hX hbl hbA h1 h2 h3 hi back
  by_cases q8 : (xs (nI j).toNatClampNeg) &&& 31 = 8
  · refine v_tabIn C (tgt := 386) (v := 8) dL_law_32 q8 (by decide) (by decide) rfl (by decide) ?_
    exact lc_type C hX hbl hbA h1 h2 h3 hi back
  by_cases q9 : (xs (nI j).toNatClampNeg) &&& 31 = 9
  · refine v_tabIn C (tgt := 411) (v := 9) dL_law_32 q9 (by decide) (by decide) rfl (by decide) ?_
    exact lc_clearText C hX hbl hbA h1 h2 h3 hi back
  by_cases q10 : (xs (nI j).toNatClampNeg) &&& 31 = 10
  · refine v_tabIn C (tgt := 424) (v := 10) dL_law_32 q10 (by decide) (by decide) rfl (by decide) ?_
    exact lc_perform C hX hbl hbA h1 h2 h3 hi back
  by_cases q11 : (xs (nI j).toNatClampNeg) &&& 31 = 11
  · refine v_tabIn C (tgt := 437) (v := 11) dL_law_32 q11 (by decide) (by decide) rfl (by decide) ?_
    exact lc_undo C hX hbl hbA h1 h2 h3 hi back
  by_cases q12 : (xs (nI j).toNatClampNeg) &&& 31 = 12
  · refine v_tabIn C (tgt := 450) (v := 12) dL_law_32 q12 (by decide) (by decide) rfl (by decide) ?_
    exact lc_keep C hX hbl hbA h1 h2 h3 hi back
  by_cases q13 : (xs (nI j).toNatClampNeg) &&& 31 = 13
  · refine v_tabIn C (tgt := 463) (v := 13) dL_law_32 q13 (by decide) (by decide) rfl (by decide) ?_
    exact lc_restore C hX hbl hbA h1 h2 h3 hi back
  by_cases q14 : (xs (nI j).toNatClampNeg) &&& 31 = 14
  · refine v_tabIn C (tgt := 476) (v := 14) dL_law_32 q14 (by decide) (by decide) rfl (by decide) ?_
    exact lc_summary C hX hbl hbA h1 h2 h3 hi back
  by_cases q15 : (xs (nI j).toNatClampNeg) &&& 31 = 15
  · refine v_tabIn C (tgt := 509) (v := 15) dL_law_32 q15 (by decide) (by decide) rfl (by decide) ?_
    exact lc_bound C hX hbl hbA h1 h2 h3 hi back
  by_cases q16 : (xs (nI j).toNatClampNeg) &&& 31 = 16
  · refine v_tabIn C (tgt := 554) (v := 16) dL_law_32 q16 (by decide) (by decide) rfl (by decide) ?_
    exact lc_top C hX hbl hbA h1 h2 h3 hi back
  by_cases q17 : (xs (nI j).toNatClampNeg) &&& 31 = 17
  · refine v_tabIn C (tgt := 597) (v := 17) dL_law_32 q17 (by decide) (by decide) rfl (by decide) ?_
    exact lc_first C hX hbl hbA h1 h2 h3 hi back
  by_cases q18 : (xs (nI j).toNatClampNeg) &&& 31 = 18
  · refine v_tabIn C (tgt := 656) (v := 18) dL_law_32 q18 (by decide) (by decide) rfl (by decide) ?_
    exact lc_above C hX hbl hbA h1 h2 h3 hi back
  by_cases q19 : (xs (nI j).toNatClampNeg) &&& 31 = 19
  · refine v_tabIn C (tgt := 715) (v := 19) dL_law_32 q19 (by decide) (by decide) rfl (by decide) ?_
    exact lc_rank C hX hbl hbA h1 h2 h3 hi back
  by_cases q20 : (xs (nI j).toNatClampNeg) &&& 31 = 20
  · refine v_tabIn C (tgt := 776) (v := 20) dL_law_32 q20 (by decide) (by decide) rfl (by decide) ?_
    exact lc_alike C hX hbl hbA h1 h2 h3 hi back
  by_cases q21 : (xs (nI j).toNatClampNeg) &&& 31 = 21
  · refine v_tabIn C (tgt := 809) (v := 21) dL_law_32 q21 (by decide) (by decide) rfl (by decide) ?_
    exact lc_wouldEvict C hX hbl hbA h1 h2 h3 hi back
  by_cases q22 : (xs (nI j).toNatClampNeg) &&& 31 = 22
  · refine v_tabIn C (tgt := 844) (v := 22) dL_law_32 q22 (by decide) (by decide) rfl (by decide) ?_
    exact lc_block C hX hbl hbA h1 h2 h3 hi back
  by_cases q23 : (xs (nI j).toNatClampNeg) &&& 31 = 23
  · refine v_tabIn C (tgt := 877) (v := 23) dL_law_32 q23 (by decide) (by decide) rfl (by decide) ?_
    exact lc_event C hX hbl hbA h1 h2 h3 hi back
  by_cases q24 : (xs (nI j).toNatClampNeg) &&& 31 = 24
  · refine v_tabIn C (tgt := 910) (v := 24) dL_law_32 q24 (by decide) (by decide) rfl (by decide) ?_
    exact lc_count C hX hbl hbA h1 h2 h3 hi back
  refine v_tabOut C (tgt := 933) dL_law_32 (by have t0 := lv_neT q0 (a := 0) (by decide); have t1 := lv_neT q1 (a := 1) (by decide); have t2 := lv_neT q2 (a := 2) (by decide); have t3 := lv_neT q3 (a := 3) (by decide); have t4 := lv_neT q4 (a := 4) (by decide); have t5 := lv_neT q5 (a := 5) (by decide); have t6 := lv_neT q6 (a := 6) (by decide); have t7 := lv_neT q7 (a := 7) (by decide); have t8 := lv_neT q8 (a := 8) (by decide); have t9 := lv_neT q9 (a := 9) (by decide); have t10 := lv_neT q10 (a := 10) (by decide); have t11 := lv_neT q11 (a := 11) (by decide); have t12 := lv_neT q12 (a := 12) (by decide); have t13 := lv_neT q13 (a := 13) (by decide); have t14 := lv_neT q14 (a := 14) (by decide); have t15 := lv_neT q15 (a := 15) (by decide); have t16 := lv_neT q16 (a := 16) (by decide); have t17 := lv_neT q17 (a := 17) (by decide); have t18 := lv_neT q18 (a := 18) (by decide); have t19 := lv_neT q19 (a := 19) (by decide); have t20 := lv_neT q20 (a := 20) (by decide); have t21 := lv_neT q21 (a := 21) (by decide); have t22 := lv_neT q22 (a := 22) (by decide); have t23 := lv_neT q23 (a := 23) (by decide); have t24 := lv_neT q24 (a := 24) (by decide); omega) (by decide) ?_
  exact back _ hi
set_option maxHeartbeats 4000000 in
set_option maxRecDepth 100000 in
/-- THE LAW'S LOOP -/
theorem law_loop {p : Program} {l : Launch} {e : Env} {s : State} {m : MethodId} {below : List Frame} {meth : Method} {c : Code} {A : Nat → Prop} {L : Ly} {b N : Nat} {xs : Nat → Int32} (C : Cx p room_1 s m #[Value.ref b] meth c RL cL_law 4 600000 7302250 A L) (hX : va_X b N xs s s.heap) (hbl : b < s.heap.size) (hAs : ∀ q, A q → s.heap.size ≤ q) (hN : N ≤ 2048) (hr : meth.sig.returnType = ret) (hlocks : meth.locks = false) : ∀ (f j : Nat) (σ : Mem), N ≤ j + f → j ≤ N → Inv σ → V p l e room_1 s m #[Value.ref b] below meth c 4 600000 7302250 (lw_Z below #[Value.ref b] s) A L σ 18 (lw0 L b (nI j)) [] := by
  have hbA : ¬ A b := fun h => Nat.not_le.mpr hbl (hAs b h)
  intro f
  induction f with
  | zero =>
    intro j σ h1 h2 hi
    have hj : j = N := by omega
    subst hj
    refine v_iload_n C dL_law_18 rfl 0 rfl ?_
    refine v_aload_n C dL_law_19 rfl 3 rfl ?_
    refine l_slen C hX hbl hbA dL_law_20 ?_
    refine v_iconst C (v := 4) dL_law_21 rfl ?_
    refine v_isub C dL_law_22 ?_
    refine v_icmp_gt C (tgt := 939) dL_law_23 (by decide) (fun _ => ?_) (fun q => ?_)
    · refine v_iconst C (v := 1) dL_law_939 rfl ?_
      intro H locs ls hP hS hl
      exact va_forget (fun q hq => hAs _ (hS.2.2 q hq)) (lw_ret C.1 C.2.1 hr hlocks dL_law_940)
    · refine absurd ?_ q
      rw [fa_lt, lp_sub hN, nI_toInt (by omega)]
      omega
  | succ f ih =>
    intro j σ h1 h2 hi
    refine v_iload_n C dL_law_18 rfl 0 rfl ?_
    refine v_aload_n C dL_law_19 rfl 3 rfl ?_
    refine l_slen C hX hbl hbA dL_law_20 ?_
    refine v_iconst C (v := 4) dL_law_21 rfl ?_
    refine v_isub C dL_law_22 ?_
    refine v_icmp_gt C (tgt := 939) dL_law_23 (by decide) (fun _ => ?_) (fun q => ?_)
    · refine v_iconst C (v := 1) dL_law_939 rfl ?_
      intro H locs ls hP hS hl
      exact va_forget (fun q hq => hAs _ (hS.2.2 q hq)) (lw_ret C.1 C.2.1 hr hlocks dL_law_940)
    · have hj : j + 4 ≤ N := by
        rw [fa_lt, lp_sub hN, nI_toInt (by omega)] at q
        omega
      refine v_aload_n C dL_law_26 rfl 3 rfl ?_
      refine v_iload_n C dL_law_27 rfl 0 rfl ?_
      refine l_sld C hX hbl hbA (vp_in_nI (by omega) (by omega)) dL_law_28 ?_
      refine v_bipush C (v := 31) dL_law_29 rfl ?_
      refine v_iand C dL_law_31 ?_
      refine law_sw C hX hbl hbA hN hj hi (fun σ2 hi2 => ?_)
      refine v_iinc C (v := nI (j + 4)) (lw0 L b (nI (j + 4))) dL_law_933 0 rfl (show nI j + nI 4 = nI (j + 4) from nI_add j 4) (by decide) rfl ?_
      refine v_goto C (tgt := 18) dL_law_936 (by decide) ?_
      exact ih (j + 4) σ2 (by omega) (by omega) hi2

