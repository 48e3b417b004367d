/-! Constructors: a world that grows. -/
def mY (U : State) : Prop := va_AO "FloorTops$State" U ∧ va_AO "FloorTops$Summary" U ∧ va_Nw (.methodLinkNest RX5 30 yX3_init RX6) U ∧ va_Nw (.methodLinkNest RX2 26 yX1_init RX6) U ∧ va_Nw (.methodLinkNest RX2 41 yX3_init RX6) U ∧ va_Nw (.methodLinkNest RX6 32 yX4_init RX6) U ∧ va_Nw (.methodLinkNest RX6 39 yX3_init RX6) U
theorem mY.warm {s U : State} (hW : s.WarmedH U.vm) (h : mY s) : mY U := by
  obtain ⟨h1, h2, h3, h4, h5, h6, h7⟩ := h
  exact ⟨h1.moved hW.alike, h2.moved hW.alike, h3.warmM hW, h4.warmM hW, h5.warmM hW, h6.warmM hW, h7.warmM hW⟩
theorem mY.same {u U : State} (hv : U.vm = u.vm) (h : mY u) : mY U := by
  obtain ⟨h1, h2, h3, h4, h5, h6, h7⟩ := h
  have hal : u.vm.Alike U.vm := by rw [hv]; exact Vm.Alike.refl _
  exact ⟨h1.moved hal, h2.moved hal, h3.same rfl hv.symm, h4.same rfl hv.symm, h5.same rfl hv.symm, h6.same rfl hv.symm, h7.same rfl hv.symm⟩
def cB (L : Ly) (sz : Nat) (w : va_W) (U : State) : Prop := U.heap.size = sz ∧ va_P (dd L) vwCl w U.heap ∧ va_K (dd L) vwCl (tysL L) U ∧ va_D (fun _ => True) w ∧ mY U
def cE (L : Ly) (A : Nat → Prop) {S : Type} (pw : S → va_W) (u : S) (t : State) : Prop := va_P (dd L) vwCl (pw u) t.heap ∧ va_D A (pw u)
theorem cB_blind (L : Ly) (sz : Nat) (w : va_W) (as : List Value) : FrameBlind (va_Pc as (cB L sz w)) := by
  intro a U g mk q
  obtain ⟨q0, q1, qP, qK, qD, qY⟩ := q
  exact ⟨q0, q1, qP, va_K.moved (u := U) (U := U.calling g mk a) (Vm.Alike.refl U.vm) qK, qD, qY.same rfl⟩
/-- what is fixed while a constructor runs -/
def Ck (p : Program) (s : State) (m : MethodId) (args : Array Value) (meth : Method) (c : Code) (own : String) (cc : ByteArray) (nL : Nat) (A : Nat → Prop) (L : Ly) : Prop :=
  p.tables.exec = Jvm.exec ∧ c.code = cc ∧ c.maxLocals = nL ∧ s.vm.findClass own = some m.cls ∧ (∀ w ∈ wA, w.before args s = true) ∧ va_K (dd L) vwCl (tysL L) s ∧ (∀ q, s.heap.size ≤ q → A q) ∧ mY s
def Nx (p : Program) (l : Launch) (e : Env) (R : Room) (s : State) (m : MethodId) (args : Array Value) (below : List Frame) (meth : Method) (c : Code) (nL : Nat) (Q : State → Prop) (A : Nat → Prop) (L : Ly) (cells slots : Nat) (ws : va_W) (pc : Nat) (lv : List (Nat × Value)) (st : List Value) : Prop :=
  ∀ (H : Heap) (locs : List Loc) (ls : Array Slot), va_P (dd L) vwCl ws H → va_D A ws → va_S A s.heap H locs → lv_has ls nL lv → W p l e R s m args below meth c H locs cells slots Q (F0 m pc ls st)
/-- behind a call: what the callee had at the end of the world comes back as w1 -/
theorem va_joinE {A0 : Nat → Prop} {D : va_G} {cl : List vw_C} {ws wc w1 : va_W} {H H1 : Heap} (hP : va_P D cl (ws ++ wc) H) (hD : va_D A0 (ws ++ wc)) (hk : ∀ q : Nat, q < H.size → ¬ va_A wc H.size q → H1[q]? = H[q]?) (hF : ∀ q, va_A wc H.size q → A0 q) (hP1 : va_P D cl w1 H1) (hD1 : va_D (va_A wc H.size) w1) : va_P D cl (ws ++ w1) H1 ∧ va_D A0 (ws ++ w1) := by
  have at1 : ∀ (k : Nat) (q : Nat × va_E), ws[k]? = some q → (ws ++ wc)[k]? = some q := fun k q h => by
    rw [List.getElem?_append_left (List.getElem?_eq_some_iff.mp h).1]; exact h
  have apart : ∀ (k : Nat) (q : Nat × va_E), ws[k]? = some q → q.1 < H.size ∧ ¬ va_A wc H.size q.1 := by
    intro k q hq
    have hl := (hP k q (at1 k q hq)).lt
    refine ⟨hl, fun h => ?_⟩
    rcases h with ⟨j, e, h⟩ | h
    · have hj : (ws ++ wc)[ws.length + j]? = some (q.1, e) := by
        rw [List.getElem?_append_right (by omega), Nat.add_sub_cancel_left]; exact h
      have := hD.1 k (ws.length + j) q (q.1, e) (at1 k q hq) hj rfl
      have hkl := (List.getElem?_eq_some_iff.mp hq).1
      omega
    · omega
  refine ⟨?_, ?_⟩
  · refine va_P.app (fun k q hq => ?_) hP1
    obtain ⟨a1, a2⟩ := apart k q hq
    exact (hP k q (at1 k q hq)).kept (hk q.1 a1 a2)
  · refine va_D.app ⟨fun i j p q hi hj e => hD.1 i j p q (at1 i p hi) (at1 j q hj) e, fun k q hq => hD.2 k q (at1 k q hq)⟩ (hD1.weaken (fun k q _ h => hF _ h)) ?_
    intro i j p q hi hj e
    exact (apart i p hi).2 (by rw [e]; exact hD1.2 j q hj)
section NN
variable {p : Program} {l : Launch} {e : Env} {R : Room} {s : State} {m : MethodId} {args : Array Value} {below : List Frame} {meth : Method} {c : Code} {nL cells slots : Nat} {Q : State → Prop} {A : Nat → Prop} {L : Ly} {own : String} {cc : ByteArray} {ws ws' : va_W} {pc : Nat} {lv lv' : List (Nat × Value)} {st st0 : List Value}
theorem n_sub (ks : List Nat) (h : lv_pick lv ks = lv') (k : Nx p l e R s m args below meth c nL Q A L cells slots ws pc lv' st) : Nx p l e R s m args below meth c nL Q A L cells slots ws pc lv st := fun H locs ls hP hD hS hl => k H locs ls hP hD hS (lv_sub hl ks h)
theorem n_iconst (C : Ck p s m args meth c own cc nL A L) {n : Int} {v : Int32} (d : decode cc pc = .ok (.iconst n, 1)) (hv : Int32.ofInt n = v) (k : Nx p l e R s m args below meth c nL Q A L cells slots ws (pc + 1) lv (.int v :: st)) : Nx p l e R s m args below meth c nL Q A L cells slots ws pc lv st := fun H locs ls hP hD hS hl => lv_iconst C.1 C.2.1 d hv (k H locs ls hP hD hS hl)
theorem n_bipush (C : Ck p s m args meth c own cc nL A L) {n : Int} {v : Int32} (d : decode cc pc = .ok (.bipush n, 2)) (hv : (Int8.ofInt n).toInt32 = v) (k : Nx p l e R s m args below meth c nL Q A L cells slots ws (pc + 2) lv (.int v :: st)) : Nx p l e R s m args below meth c nL Q A L cells slots ws pc lv st := fun H locs ls hP hD hS hl => lv_bipush C.1 C.2.1 d hv (k H locs ls hP hD hS hl)
theorem n_sipush (C : Ck p s m args meth c own cc nL A L) {n : Int} {v : Int32} (d : decode cc pc = .ok (.sipush n, 3)) (hv : (Int16.ofInt n).toInt32 = v) (k : Nx p l e R s m args below meth c nL Q A L cells slots ws (pc + 3) lv (.int v :: st)) : Nx p l e R s m args below meth c nL Q A L cells slots ws pc lv st := fun H locs ls hP hD hS hl => lv_sipush C.1 C.2.1 d hv (k H locs ls hP hD hS hl)
theorem n_iload_n (C : Ck p s m args meth c own cc nL A L) {q : Fin 4} {i : Nat} {x : Int32} (d : decode cc pc = .ok (.iload_n q, 1)) (hi : (q : Nat) = i) (j : Nat) (hj : lv[j]? = some (i, .int x)) (k : Nx p l e R s m args below meth c nL Q A L cells slots ws (pc + 1) lv (.int x :: st)) : Nx p l e R s m args below meth c nL Q A L cells slots ws pc lv st := fun H locs ls hP hD hS hl => lv_iload_n C.1 C.2.1 d hi (lv_at hl j hj) (k H locs ls hP hD hS hl)
theorem n_iload (C : Ck p s m args meth c own cc nL A L) {i : Nat} {x : Int32} (d : decode cc pc = .ok (.iload i, 2)) (j : Nat) (hj : lv[j]? = some (i, .int x)) (k : Nx p l e R s m args below meth c nL Q A L cells slots ws (pc + 2) lv (.int x :: st)) : Nx p l e R s m args below meth c nL Q A L cells slots ws pc lv st := fun H locs ls hP hD hS hl => lv_iload C.1 C.2.1 d (lv_at hl j hj) (k H locs ls hP hD hS hl)
theorem n_aload_n (C : Ck p s m args meth c own cc nL A L) {q : Fin 4} {i : Nat} {x : Nat} (d : decode cc pc = .ok (.aload_n q, 1)) (hi : (q : Nat) = i) (j : Nat) (hj : lv[j]? = some (i, .ref x)) (k : Nx p l e R s m args below meth c nL Q A L cells slots ws (pc + 1) lv (.ref x :: st)) : Nx p l e R s m args below meth c nL Q A L cells slots ws pc lv st := fun H locs ls hP hD hS hl => lv_aload_n C.1 C.2.1 d hi (lv_at hl j hj) (k H locs ls hP hD hS hl)
theorem n_aload (C : Ck p s m args meth c own cc nL A L) {i : Nat} {x : Nat} (d : decode cc pc = .ok (.aload i, 2)) (j : Nat) (hj : lv[j]? = some (i, .ref x)) (k : Nx p l e R s m args below meth c nL Q A L cells slots ws (pc + 2) lv (.ref x :: st)) : Nx p l e R s m args below meth c nL Q A L cells slots ws pc lv st := fun H locs ls hP hD hS hl => lv_aload C.1 C.2.1 d (lv_at hl j hj) (k H locs ls hP hD hS hl)
theorem n_istore_n (C : Ck p s m args meth c own cc nL A L) {q : Fin 4} {i : Nat} {x : Int32} (lv' : List (Nat × Value)) (d : decode cc pc = .ok (.istore_n q, 1)) (hi : (q : Nat) = i) (hn : i < nL) (hl' : (i, Value.int x) :: lv.filter (fun q => !(q.1 == i) && !(q.1 + 1 == i && q.2.category == 2)) = lv') (k : Nx p l e R s m args below meth c nL Q A L cells slots ws (pc + 1) lv' st) : Nx p l e R s m args below meth c nL Q A L cells slots ws pc lv (.int x :: st) := fun H locs _ hP hD hS hl => lv_istore_n C.1 C.2.1 d hi hl hn hl' (fun ls hl => k H locs ls hP hD hS hl)
theorem n_astore_n (C : Ck p s m args meth c own cc nL A L) {q : Fin 4} {i : Nat} {x : Nat} (lv' : List (Nat × Value)) (d : decode cc pc = .ok (.astore_n q, 1)) (hi : (q : Nat) = i) (hn : i < nL) (hl' : (i, Value.ref x) :: lv.filter (fun q => !(q.1 == i) && !(q.1 + 1 == i && q.2.category == 2)) = lv') (k : Nx p l e R s m args below meth c nL Q A L cells slots ws (pc + 1) lv' st) : Nx p l e R s m args below meth c nL Q A L cells slots ws pc lv (.ref x :: st) := fun H locs _ hP hD hS hl => lv_astore_n C.1 C.2.1 d hi hl hn hl' (fun ls hl => k H locs ls hP hD hS hl)
theorem n_iinc (C : Ck p s m args meth c own cc nL A L) {i : Nat} {n : Int} {x v : Int32} (lv' : List (Nat × Value)) (d : decode cc pc = .ok (.iinc i n, 3)) (j : Nat) (hj : lv[j]? = some (i, .int x)) (hv : x + Int32.ofInt n = v) (hn : i < nL) (hl' : (i, Value.int v) :: lv.filter (fun q => !(q.1 == i) && !(q.1 + 1 == i && q.2.category == 2)) = lv') (k : Nx p l e R s m args below meth c nL Q A L cells slots ws (pc + 3) lv' st) : Nx p l e R s m args below meth c nL Q A L cells slots ws pc lv st := fun H locs _ hP hD hS hl => lv_iinc C.1 C.2.1 d hl hj hv hn hl' (fun ls hl => k H locs ls hP hD hS hl)
theorem n_iadd (C : Ck p s m args meth c own cc nL A L) {x y : Int32} (d : decode cc pc = .ok (.iadd, 1)) (k : Nx p l e R s m args below meth c nL Q A L cells slots ws (pc + 1) lv (.int (x + y) :: st)) : Nx p l e R s m args below meth c nL Q A L cells slots ws pc lv (.int y :: .int x :: st) := fun H locs ls hP hD hS hl => lv_iadd C.1 C.2.1 d (k H locs ls hP hD hS hl)
theorem n_dup (C : Ck p s m args meth c own cc nL A L) {x : Value} (d : decode cc pc = .ok (.dup, 1)) (hx : x.category = 1) (k : Nx p l e R s m args below meth c nL Q A L cells slots ws (pc + 1) lv (x :: x :: st)) : Nx p l e R s m args below meth c nL Q A L cells slots ws pc lv (x :: st) := fun H locs ls hP hD hS hl => lv_dup C.1 C.2.1 d hx (k H locs ls hP hD hS hl)
theorem n_icmp_lt (C : Ck p s m args meth c own cc nL A L) {x y : Int32} {off : Int} {tgt : Nat} (d : decode cc pc = .ok (.if_icmp .lt off, 3)) (ht : (pc : Int) + off = (tgt : Int)) (kt : x < y → Nx p l e R s m args below meth c nL Q A L cells slots ws tgt lv st) (kf : ¬ x < y → Nx p l e R s m args below meth c nL Q A L cells slots ws (pc + 3) lv st) : Nx p l e R s m args below meth c nL Q A L cells slots ws pc lv (.int y :: .int x :: st) := fun H locs ls hP hD hS hl => lv_icmp_lt C.1 C.2.1 d ht (fun z => kt z H locs ls hP hD hS hl) (fun z => kf z H locs ls hP hD hS hl)
theorem n_icmp_ge (C : Ck p s m args meth c own cc nL A L) {x y : Int32} {off : Int} {tgt : Nat} (d : decode cc pc = .ok (.if_icmp .ge off, 3)) (ht : (pc : Int) + off = (tgt : Int)) (kt : y ≤ x → Nx p l e R s m args below meth c nL Q A L cells slots ws tgt lv st) (kf : ¬ y ≤ x → Nx p l e R s m args below meth c nL Q A L cells slots ws (pc + 3) lv st) : Nx p l e R s m args below meth c nL Q A L cells slots ws pc lv (.int y :: .int x :: st) := fun H locs ls hP hD hS hl => lv_icmp_ge C.1 C.2.1 d ht (fun z => kt z H locs ls hP hD hS hl) (fun z => kf z H locs ls hP hD hS hl)
theorem n_icmp_gt (C : Ck p s m args meth c own cc nL A L) {x y : Int32} {off : Int} {tgt : Nat} (d : decode cc pc = .ok (.if_icmp .gt off, 3)) (ht : (pc : Int) + off = (tgt : Int)) (kt : y < x → Nx p l e R s m args below meth c nL Q A L cells slots ws tgt lv st) (kf : ¬ y < x → Nx p l e R s m args below meth c nL Q A L cells slots ws (pc + 3) lv st) : Nx p l e R s m args below meth c nL Q A L cells slots ws pc lv (.int y :: .int x :: st) := fun H locs ls hP hD hS hl => lv_icmp_gt C.1 C.2.1 d ht (fun z => kt z H locs ls hP hD hS hl) (fun z => kf z H locs ls hP hD hS hl)
theorem n_goto (C : Ck p s m args meth c own cc nL A L) {off : Int} {tgt : Nat} (d : decode cc pc = .ok (.goto off, 3)) (ht : (pc : Int) + off = (tgt : Int)) (k : Nx p l e R s m args below meth c nL Q A L cells slots ws tgt lv st) : Nx p l e R s m args below meth c nL Q A L cells slots ws pc lv st := fun H locs ls hP hD hS hl => lv_goto C.1 C.2.1 d ht (k H locs ls hP hD hS hl)
theorem n_ws (ws' : va_W) (h : ws = ws') (k : Nx p l e R s m args below meth c nL Q A L cells slots ws' pc lv st) : Nx p l e R s m args below meth c nL Q A L cells slots ws pc lv st := by rw [h]; exact k
theorem n_objInit (C : Ck p s m args meth c own cc nL A L) {idx a : Nat} (hml : Cond.methodLink own idx objectInit ∈ wA) (hfr : 1 ≤ R.frames) (hlo : 12 ≤ R.locals) (d : decode cc pc = .ok (.invokespecial idx, 3)) (k : Nx p l e R s m args below meth c nL Q A L cells slots ws (pc + 3) lv []) : Nx p l e R s m args below meth c nL Q A L cells slots ws pc lv [.ref a] := by
  intro H locs ls hP hD hS hl
  refine W.objInit C.1 C.2.1 C.2.2.2.1 (C.2.2.2.2.1 _ hml) (C.2.2.2.2.1 _ mO_0) (C.2.2.2.2.1 _ mO_1) rfl (by rw [C.2.2.1]; exact hl.1) rfl d hfr (by show 2 * 0 + 0 + 12 ≤ R.locals; omega) ?_
  exact W.eq (g2 := F0 m (pc + 3) ls []) rfl (k H locs ls hP hD hS hl)
theorem n_new (C : Ck p s m args meth c own cc nL A L) {ci N idx : Nat} {Cm : String} {T : u_T} {ty : Nat → FieldType} (fs : List Value) (hcl : vwCl[ci]? = some (Cm, T, N)) (hin : ∀ w ∈ u_ws Cm T N, w ∈ wA) (hty : ∀ k, k < N → parseFieldDescriptor (T k).2.2.1 = some (ty k)) (hk : Cond.classLink own idx Cm ∈ wA) (hb : Cond.instantiable Cm N ∈ wA) (hz : Cond.initialized Cm ∈ wA) (hfs : ∀ j, j < N → defaultValue (ty j) = vp_V fs j) (hcells : cells + 1 ≤ R.cells) (hslots : slots + N ≤ R.slots) (d : decode cc pc = .ok (.new idx, 3)) (k : ∀ q : Nat, Nx p l e R s m args below meth c nL Q A L (cells + 1) (slots + N) (ws ++ [(q, .inr (ci, fs))]) (pc + 3) lv (.ref q :: st)) : Nx p l e R s m args below meth c nL Q A L cells slots ws pc lv st := by
  intro H locs ls hP hD hS hl
  exact va_new (ci := ci) (fs := fs) (C := Cm) (T := T) (N := N) C.1 C.2.1 C.2.2.2.2.1 hin ty hty C.2.2.2.1 (C.2.2.2.2.1 _ hk) (C.2.2.2.2.1 _ hb) (C.2.2.2.2.1 _ hz) C.2.2.2.2.2.1 hP hD hS C.2.2.2.2.2.2.1 hcl hfs hcells hslots d (fun q H1 hP1 hD1 hS1 => k q H1 locs ls hP1 hD1 hS1 hl)
theorem n_newi (C : Ck p s m args meth c own cc nL A L) {n : Int32} {N : Nat} (hn : ¬ n < 0) (hN : n.toNatClampNeg = N) (hby : N * 4 ≤ 536870912) (hcells : cells + 1 ≤ R.cells) (hslots : slots + N ≤ R.slots) (d : decode cc pc = .ok (.newarray .int, 2)) (k : ∀ q : Nat, Nx p l e R s m args below meth c nL Q A L (cells + 1) (slots + N) (ws ++ [(q, .inl (lA L 0, N, .inl (fun _ => 0)))]) (pc + 2) lv (.ref q :: st)) : Nx p l e R s m args below meth c nL Q A L cells slots ws pc lv (.int n :: st) := by
  intro H locs ls hP hD hS hl
  refine va_newa (atype := .int) (a0 := (N, .inl (fun _ => 0))) C.1 C.2.1 (C.2.2.2.2.1 _ mO_2) rfl C.2.2.2.2.2.1 hP hD hS C.2.2.2.2.2.2.1 (fun _ => rfl) hn hN hby hcells hslots d (fun q cA H1 hK1 hP1 hD1 hS1 => ?_)
  have e1 := va_nm_int (hK1.2 4 (cA, .int) rfl).2
  have e2 := va_nm_int (C.2.2.2.2.2.1.2 0 (lA L 0, .int) rfl).2
  have e : cA = lA L 0 := Option.some.inj (e1.symm.trans e2)
  subst e
  exact k q H1 locs ls hP1 hD1 hS1 hl
theorem n_newc (C : Ck p s m args meth c own cc nL A L) {n : Int32} {N : Nat} (hn : ¬ n < 0) (hN : n.toNatClampNeg = N) (hby : N * 2 ≤ 536870912) (hcells : cells + 1 ≤ R.cells) (hslots : slots + N ≤ R.slots) (d : decode cc pc = .ok (.newarray .char, 2)) (k : ∀ q : Nat, Nx p l e R s m args below meth c nL Q A L (cells + 1) (slots + N) (ws ++ [(q, .inl (lA L 1, N, .inl (fun _ => 0)))]) (pc + 2) lv (.ref q :: st)) : Nx p l e R s m args below meth c nL Q A L cells slots ws pc lv (.int n :: st) := by
  intro H locs ls hP hD hS hl
  refine va_newa (atype := .char) (a0 := (N, .inl (fun _ => 0))) C.1 C.2.1 (C.2.2.2.2.1 _ mO_3) rfl C.2.2.2.2.2.1 hP hD hS C.2.2.2.2.2.2.1 (fun _ => rfl) hn hN hby hcells hslots d (fun q cA H1 hK1 hP1 hD1 hS1 => ?_)
  have e1 := va_nm_char (hK1.2 4 (cA, .char) rfl).2
  have e2 := va_nm_char (C.2.2.2.2.2.1.2 1 (lA L 1, .char) rfl).2
  have e : cA = lA L 1 := Option.some.inj (e1.symm.trans e2)
  subst e
  exact k q H1 locs ls hP1 hD1 hS1 hl
theorem n_newq (C : Ck p s m args meth c own cc nL A L) {Cm : String} (t0 : Nat) {cQ : ClassId} {idx : Nat} {n : Int32} {N : Nat} (hao : va_AO Cm s) (ht : (tysL L)[t0]? = some (cQ, .object Cm)) (h4 : (tysL L).length = 4) (hk : Cond.classLink own idx Cm ∈ wA) (hn : ¬ n < 0) (hN : n.toNatClampNeg = N) (hby : N * 4 ≤ 536870912) (hcells : cells + 1 ≤ R.cells) (hslots : slots + N ≤ R.slots) (d : decode cc pc = .ok (.anewarray idx, 3)) (k : ∀ q : Nat, Nx p l e R s m args below meth c nL Q A L (cells + 1) (slots + N) (ws ++ [(q, .inl (cQ, N, .inr (.inr (.inr (.inr (fun _ => none))))))]) (pc + 3) lv (.ref q :: st)) : Nx p l e R s m args below meth c nL Q A L cells slots ws pc lv (.int n :: st) := by
  intro H locs ls hP hD hS hl
  refine va_newq (C := Cm) C.1 C.2.1 C.2.2.2.1 (C.2.2.2.2.1 _ hk) hao C.2.2.2.2.2.1 hP hD hS C.2.2.2.2.2.2.1 hn hN hby hcells hslots d (fun q cA H1 hK1 hP1 hD1 hS1 => ?_)
  have e1 := va_nmO (hK1.2 4 (cA, .object Cm) (by rw [← h4, List.getElem?_append_right (Nat.le_refl _), Nat.sub_self]; rfl)).2 rfl
  have e2 := va_nmO (C.2.2.2.2.2.1.2 t0 (cQ, .object Cm) ht).2 rfl
  have e : cA = cQ := Option.some.inj (e1.symm.trans e2)
  subst e
  exact k q H1 locs ls hP1 hD1 hS1 hl
theorem n_get (C : Ck p s m args meth c own cc nL A L) {ci N j idx a : Nat} {Cm ref : String} {T : u_T} {fs : List Value} {v : Value} (q0 : Nat) (hcl : vwCl[ci]? = some (Cm, T, N)) (hin : ∀ w ∈ u_ws Cm T N, w ∈ wA) (hj : j < N) (href : (T j).1 = ref) (he : ws[q0]? = some (a, .inr (ci, fs))) (hv : fs[j]? = some v) (hlink : Cond.fieldLink own idx ref (T j).2.1 (T j).2.2.1 ∈ wA) (d : decode cc pc = .ok (.getfield idx, 3)) (k : Nx p l e R s m args below meth c nL Q A L cells slots ws (pc + 3) lv (v :: st)) : Nx p l e R s m args below meth c nL Q A L cells slots ws pc lv (.ref a :: st) := by
  subst href
  exact fun H locs ls hP hD hS hl => va_get C.1 C.2.1 C.2.2.2.2.1 hin C.2.2.2.1 C.2.2.2.2.2.1 hP q0 he hcl j hj (C.2.2.2.2.1 _ hlink) (fun _ h => h) hv d (k H locs ls hP hD hS hl)
theorem n_put (C : Ck p s m args meth c own cc nL A L) {ci N j idx a : Nat} {Cm ref : String} {T : u_T} {ty0 : Nat → FieldType} {fs : List Value} {v : Value} (ws' : va_W) (q0 : Nat) (hcl : vwCl[ci]? = some (Cm, T, N)) (hin : ∀ w ∈ u_ws Cm T N, w ∈ wA) (hty : ∀ k, k < N → parseFieldDescriptor (T k).2.2.1 = some (ty0 k)) (hnm : ∀ a, a < N → ∀ b, b < N → a ≠ b → (T a).2.1 ≠ (T b).2.1) (hj : j < N) (href : (T j).1 = ref) (hfin : (T j).2.2.2 = false) (he : ws[q0]? = some (a, .inr (ci, fs))) (he2 : ws.set q0 (a, .inr (ci, fs.set j v)) = ws') (hl : j < fs.length) (hn : narrow (ty0 j) v = v) (hfit : fits (ty0 j) v = true) (hlink : Cond.fieldLink own idx ref (T j).2.1 (T j).2.2.1 ∈ wA) (d : decode cc pc = .ok (.putfield idx, 3)) (k : Nx p l e R s m args below meth c nL Q A L cells slots ws' (pc + 3) lv st) : Nx p l e R s m args below meth c nL Q A L cells slots ws pc lv (v :: .ref a :: st) := by
  subst href
  subst he2
  exact fun H locs ls hP hD hS hl2 => va_put (ty := ty0 j) C.1 C.2.1 C.2.2.2.2.1 hin ty0 hty hnm C.2.2.2.1 C.2.2.2.2.2.1 hP hD hS q0 he hcl j hj (C.2.2.2.2.1 _ hlink) (fun _ h => h) hfin (hty j hj) hn hfit hl d (fun H1 locs1 hP1 hD1 hS1 => k H1 locs1 ls hP1 hD1 hS1 hl2)
theorem n_putF (C : Ck p s m args meth c own cc nL A L) {ci N j idx a : Nat} {Cm : String} {T : u_T} {ty0 : Nat → FieldType} {fs : List Value} {v : Value} (ws' : va_W) (q0 : Nat) (hcl : vwCl[ci]? = some (Cm, T, N)) (hin : ∀ w ∈ u_ws Cm T N, w ∈ wA) (hty : ∀ k, k < N → parseFieldDescriptor (T k).2.2.1 = some (ty0 k)) (hnm : ∀ a, a < N → ∀ b, b < N → a ≠ b → (T a).2.1 ≠ (T b).2.1) (hj : j < N) (href : (T j).1 = own) (hfin : (T j).2.2.2 = true) (hini : meth.name = "<init>") (he : ws[q0]? = some (a, .inr (ci, fs))) (he2 : ws.set q0 (a, .inr (ci, fs.set j v)) = ws') (hl : j < fs.length) (hn : narrow (ty0 j) v = v) (hfit : fits (ty0 j) v = true) (hlink : Cond.fieldLink own idx (T j).1 (T j).2.1 (T j).2.2.1 ∈ wA) (d : decode cc pc = .ok (.putfield idx, 3)) (k : Nx p l e R s m args below meth c nL Q A L cells slots ws' (pc + 3) lv st) : Nx p l e R s m args below meth c nL Q A L cells slots ws pc lv (v :: .ref a :: st) := by
  subst he2
  exact fun H locs ls hP hD hS hl2 => va_putF (ty := ty0 j) C.1 C.2.1 C.2.2.2.2.1 hin ty0 hty hnm C.2.2.2.1 C.2.2.2.2.2.1 hP hD hS q0 he hcl j hj (C.2.2.2.2.1 _ hlink) (fun _ h => h) hfin hini href (hty j hj) hn hfit hl d (fun H1 locs1 hP1 hD1 hS1 => k H1 locs1 ls hP1 hD1 hS1 hl2)
theorem n_aast (C : Ck p s m args meth c own cc nL A L) {ci a n v k0 : Nat} {cA : ClassId} {r : vw_C} {vs : List Value} {f : Nat → Option Nat} {i : Int32} (ws' : va_W) (q0 t0 : Nat) (ha : ws[q0]? = some (a, .inl (cA, n, .inr (.inr (.inr (.inr f)))))) (ht : (tysL L)[t0]? = some (cA, .object r.1)) (hv : (v, .inr (ci, vs)) ∈ ws) (hc : vwCl[ci]? = some r) (hin : vp_in i n) (hi : i.toNatClampNeg = k0) (he2 : ws.set q0 (a, .inl (cA, n, .inr (.inr (.inr (.inr (va_up f k0 (some v))))))) = ws') (d : decode cc pc = .ok (.aastore, 1)) (k : Nx p l e R s m args below meth c nL Q A L cells slots ws' (pc + 1) lv st) : Nx p l e R s m args below meth c nL Q A L cells slots ws pc lv (.ref v :: .int i :: .ref a :: st) := by
  subst he2
  subst hi
  obtain ⟨qk, hqk⟩ := List.getElem?_of_mem hv
  exact fun H locs ls hP hD hS hl2 => va_astq C.1 C.2.1 C.2.2.2.2.2.1 hP hD hS q0 t0 qk ci ha ht hqk hc hin d (fun H1 locs1 hP1 hD1 hS1 => k H1 locs1 ls hP1 hD1 hS1 hl2)
theorem n_iast (C : Ck p s m args meth c own cc nL A L) {a n k0 : Nat} {f : Nat → Int32} {i x : Int32} (ws' : va_W) (q0 : Nat) (ha : ws[q0]? = some (a, .inl (lA L 0, n, .inl f))) (hin : vp_in i n) (hi : i.toNatClampNeg = k0) (he2 : ws.set q0 (a, .inl (lA L 0, n, .inl (upd f k0 x))) = ws') (d : decode cc pc = .ok (.iastore, 1)) (k : Nx p l e R s m args below meth c nL Q A L cells slots ws' (pc + 1) lv st) : Nx p l e R s m args below meth c nL Q A L cells slots ws pc lv (.int x :: .int i :: .ref a :: st) := by
  subst he2
  subst hi
  exact fun H locs ls hP hD hS hl2 => va_iast C.1 C.2.1 C.2.2.2.2.2.1 hP hD hS q0 0 ha rfl hin d (fun H1 locs1 hP1 hD1 hS1 => k H1 locs1 ls hP1 hD1 hS1 hl2)
theorem n_callF {wc : va_W} {H : Heap} {locs : List Loc} (C : Ck p s m args meth c own cc nL A L) (hD : va_D A (ws ++ wc)) (hS : va_S A s.heap H locs) : ∀ q, va_A wc H.size q → A q := by
  intro q h
  rcases h with ⟨k, e, h⟩ | h
  · refine hD.2 (ws.length + k) (q, e) ?_
    rw [List.getElem?_append_right (by omega), Nat.add_sub_cancel_left]; exact h
  · exact C.2.2.2.2.2.2.1 q (Nat.le_trans hS.1 h)
theorem n_callB {wc : va_W} {H : Heap} (C : Ck p s m args meth c own cc nL A L) (hP : va_P (dd L) vwCl (ws ++ wc) H) (hD : va_D A (ws ++ wc)) (U : State) (hU : U.heap = H) (hW : s.WarmedH U.vm) : cB L H.size wc U := by
  have at1 : ∀ (k : Nat) (q : Nat × va_E), wc[k]? = some q → (ws ++ wc)[ws.length + k]? = some q := fun k q h => by
    rw [List.getElem?_append_right (by omega), Nat.add_sub_cancel_left]; exact h
  refine ⟨by rw [hU], fun k q hk => by rw [hU]; exact hP _ q (at1 k q hk), va_K.moved hW.alike C.2.2.2.2.2.1, ⟨fun i j p q hi hj e => ?_, fun _ _ _ => trivial⟩, C.2.2.2.2.2.2.2.warm hW⟩
  have := hD.1 _ _ p q (at1 i p hi) (at1 j q hj) e
  omega
theorem n_callI (C : Ck p s m args meth c own cc nL A L) {idx maxL mc ms h : Nat} {y : MethodName} {bytes : ByteArray} {rm : Room} {e0 : va_E} {S : Type} {post : S → Prop} {pw : S → va_W} (hM : ∀ sz, Met l y (.code y bytes maxL none :: wA) rm (va_Pc [.ref h] (cB L sz [(h, e0)])) (va_Qv post (cE L (va_A [(h, e0)] sz) pw) (va_A [(h, e0)] sz)) mc ms (va_A [(h, e0)] sz)) (hmc : Cond.code y bytes maxL none ∈ wA) (hmz : Cond.initialized y.cls ∈ wA) (hd : y.cls ≠ "java/lang/invoke/MethodHandle" ∧ y.cls ≠ "java/lang/invoke/VarHandle" ∧ (parseMethodDescriptor y.desc).map (fun d => d.parameters.length) = some 0) (hmi : Cond.instanceMethod y ∈ wA) (hy : y.name = "<init>") (hrc : rm.cells = mc) (hrs : rm.slots = ms) (hml : Cond.methodLink own idx y ∈ wA) (hR : rm.frames + 1 ≤ R.frames ∧ 8 + (maxL + 11) + rm.locals ≤ R.locals) (hsum : (st.map fun v => v.category).sum ≤ 8) (hce : cells + mc ≤ R.cells ∧ slots + ms ≤ R.slots) (d : decode cc pc = .ok (.invokespecial idx, 3)) (k : ∀ u, post u → Nx p l e R s m args below meth c nL Q A L (cells + mc) (slots + ms) (ws ++ pw u) (pc + 3) lv st) : Nx p l e R s m args below meth c nL Q A L cells slots (ws ++ [(h, e0)]) pc lv (.ref h :: st) := by
  intro H locs ls hP hD hS hl
  refine va_callv (va_runI (As := []) (rest := st) ⟨C.1, C.2.1, C.2.2.1, C.2.2.2.1, C.2.2.2.2.1⟩ (hM H.size) ⟨callB_of 0 C.2.2.2.2.1 (fun w h => (List.mem_cons.mp h).elim (fun e => by rw [e]; exact gA _ hmc) (fun h => gA w h)) rfl hrc hrs (C.2.2.2.2.1 _ hmz) (C.2.2.2.2.1 _ hml) hd hR, hy, C.2.2.2.2.1 _ hmi⟩ ⟨cB_blind L H.size _ _, fun U hU hW => ⟨rfl, n_callB C hP hD U hU hW⟩⟩ rfl rfl hl.1 rfl (lv_room hsum) d hce) hS (fun q _ h => n_callF C hD hS q h) (n_callF C hD hS) (fun u t H1 locs1 ht hvm hw hB hz1 hk1 hS1 => ?_)
  obtain ⟨hP1, hD1⟩ := hB
  rw [ht] at hP1
  obtain ⟨hP2, hD2⟩ := va_joinE hP hD hk1 (n_callF C hD hS) hP1 hD1
  exact k u hw H1 locs1 ls hP2 hD2 hS1 hl
theorem n_callN (C : Ck p s m args meth c own cc nL A L) {idx maxL mc ms h : Nat} {host : String} {y : MethodName} {bytes : ByteArray} {rm : Room} {e0 : va_E} {S : Type} {post : S → Prop} {pw : S → va_W} (hM : ∀ sz, Met l y (.code y bytes maxL none :: wA) rm (va_Pc [.ref h] (cB L sz [(h, e0)])) (va_Qv post (cE L (va_A [(h, e0)] sz) pw) (va_A [(h, e0)] sz)) mc ms (va_A [(h, e0)] sz)) (hmc : Cond.code y bytes maxL none ∈ wA) (hmz : Cond.initialized y.cls ∈ wA) (hd : y.cls ≠ "java/lang/invoke/MethodHandle" ∧ y.cls ≠ "java/lang/invoke/VarHandle" ∧ (parseMethodDescriptor y.desc).map (fun d => d.parameters.length) = some 0) (hmi : Cond.instanceMethod y ∈ wA) (hy : y.name = "<init>") (hrc : rm.cells = mc) (hrs : rm.slots = ms) (hml : va_Nw (.methodLinkNest own idx y host) s) (hR : rm.frames + 1 ≤ R.frames ∧ 8 + (maxL + 11) + rm.locals ≤ R.locals) (hsum : (st.map fun v => v.category).sum ≤ 8) (hce : cells + mc ≤ R.cells ∧ slots + ms ≤ R.slots) (d : decode cc pc = .ok (.invokespecial idx, 3)) (k : ∀ u, post u → Nx p l e R s m args below meth c nL Q A L (cells + mc) (slots + ms) (ws ++ pw u) (pc + 3) lv st) : Nx p l e R s m args below meth c nL Q A L cells slots (ws ++ [(h, e0)]) pc lv (.ref h :: st) := by
  intro H locs ls hP hD hS hl
  refine va_callv (va_runIN (As := []) (rest := st) ⟨C.1, C.2.1, C.2.2.1, C.2.2.2.1, C.2.2.2.2.1⟩ (hM H.size) ⟨va_cnB 0 C.2.2.2.2.1 (fun w h => (List.mem_cons.mp h).elim (fun e => by rw [e]; exact gA _ hmc) (fun h => gA w h)) rfl hrc hrs hml (C.2.2.2.2.1 _ hmz) hd hR, hy, C.2.2.2.2.1 _ hmi⟩ ⟨cB_blind L H.size _ _, fun U hU hW => ⟨rfl, n_callB C hP hD U hU hW⟩⟩ rfl rfl hl.1 rfl (lv_room hsum) d hce) hS (fun q _ h => n_callF C hD hS q h) (n_callF C hD hS) (fun u t H1 locs1 ht hvm hw hB hz1 hk1 hS1 => ?_)
  obtain ⟨hP1, hD1⟩ := hB
  rw [ht] at hP1
  obtain ⟨hP2, hD2⟩ := va_joinE hP hD hk1 (n_callF C hD hS) hP1 hD1
  exact k u hw H1 locs1 ls hP2 hD2 hS1 hl
end NN
theorem n_ret {p : Program} {l : Launch} {e : Env} {R : Room} {s : State} {m : MethodId} {args : Array Value} {below : List Frame} {meth : Method} {c : Code} {nL cells slots mc ms : Nat} {A : Nat → Prop} {L : Ly} {own : String} {cc : ByteArray} {ws : va_W} {pc : Nat} {lv : List (Nat × Value)} {S : Type} {post : S → Prop} {pw : S → va_W} (C : Ck p s m args meth c own cc nL A L) (d : decode cc pc = .ok (.return_, 1)) (hr : meth.sig.returnType = none) (hlk : meth.locks = false) (u : S) (hu : post u) (hw : ws = pw u) (hc : cells ≤ mc ∧ slots ≤ ms) : Nx p l e R s m args below meth c nL (MQ below (va_Qv post (cE L A pw) A) args s mc ms A) A L cells slots ws pc lv [] := by
  subst hw
  intro H locs ls hP hD hS hl
  refine W.widen (k := mc) (n := ms) hc.1 hc.2 ?_
  exact W.vret C.1 C.2.1 hr (fun t ht hW => ⟨⟨u, rfl, hu, by rw [ht]; exact hP, hD⟩, hS.F ht⟩) hS.2.2 d hlk
theorem n_start {l : Launch} {y : MethodName} {own : String} {cc : ByteArray} {maxL mc ms : Nat} {ret : Option FieldType} {rm : Room} {L : Ly} {sz : Nat} {w : va_W} {as : List Value} {Qc : Array Value → State → Outcome → State → Prop} (lv0 : List (Nat × Value)) (hy : plainName y.cls = true) (hown : y.cls = own) (hlen : (lg_sl as).length ≤ maxL) (hlv : lv_args 0 as = lv0)
    (body : ∀ p e s m args below meth c, Ck p s m args meth c own cc maxL (va_A w sz) L → meth.sig.returnType = ret → meth.locks = false → meth.name = y.name → Nx p l e rm s m args below meth c maxL (MQ below Qc args s mc ms (va_A w sz)) (va_A w sz) L 0 0 w 0 lv0 []) : Met l y (.code y cc maxL ret :: wA) rm (va_Pc as (cB L sz w)) Qc mc ms (va_A w sz) := by
  refine Met.ofW (cc := cc) (maxL := maxL) (ret := ret) hy rfl ?_
  intro p e s m args below meth c s₁ B hml hv
  obtain ⟨rfl, hsz, hP, hK, hD, hY⟩ := hv
  have hts := atoms_spec (ws := .code y cc maxL ret :: wA) B.pre
  have hw : s.vm.findClass own = some m.cls := by rw [← hown]; exact findClass_of_methodNamed B.named
  subst hsz
  have hl := lv_entry as hlen
  rw [lg_entry_eq]
  rw [hlv] at hl
  exact body p e s m as.toArray below meth c ⟨B.exec, B.bytes, hml, hw, fun w h => hts w (List.mem_cons_of_mem _ h), hK, fun q h => Or.inr h, hY⟩ B.returns B.notSynchronized (name_of_methodNamed B.named B.method).1 s.heap [] _ hP hD.self va_S.rf hl
