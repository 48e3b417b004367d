-- ===== RX5.become
abbrev rm_X5_become : Room := { frames := 2, cells := 0, slots := 0, locals := 61 }
def w_X5_become_34 (k : Nat) (o1 : Nat) (K : Mem → Prop)  : Nat → Int32 → Mem → Prop
  | 0, _, _ => False
  | n + 1, x2, σ => (br (4 ≤ x2) (K σ) (vp_in x2 4 ∧ (vp_in x2 4 ∧ (w_X3_become (((k + 1) + 1) + 5 * ix x2) (((o1 + 1) + 1) + 5 * ix x2) σ (fun σ7 => (w_X5_become_34 k o1 K  n (x2 + 1) σ7))))))
set_option maxHeartbeats 4000000 in
set_option maxRecDepth 100000 in
theorem b_X5_become_34 {p : Program} {l : Launch} {e : Env} {s : State} {m : MethodId} {args : Array Value} {below : List Frame} {meth : Method} {c : Code} {L : Ly} {sz : Nat} (C : Cx p rm_X5_become s m args meth c RX5 cX5_become 3 0 0 (mA L sz) L) (hret : meth.sig.returnType = none) (hlk : meth.locks = false) (k : Nat) (o1 : Nat) (hk : kd k = 5) (ho1 : kd o1 = 5) (K : Mem → Prop)  : ∀ (n : Nat) (x2 : Int32) (σ : Mem), w_X5_become_34 k o1 K  n x2 σ → V p l e rm_X5_become s m args below meth c 3 0 0 (MQ below (va_Qv K (mE L) (mA L sz)) args s 0 0 (mA L sz)) (mA L sz) L σ 34 [(0, .ref (lad L k)), (1, .ref (lad L o1)), (2, .int x2)] [] := by
  intro n
  induction n with
  | zero => intro x2 σ  h; exact h.elim
  | succ n ih =>
    intro x2 σ  h
    rw [w_X5_become_34] at h
    refine v_iload_n C dX5_become_34 rfl 2 rfl ?_
    refine v_iconst C (v := 4) dX5_become_35 rfl ?_
    refine v_icmp_ge C (tgt := 60) dX5_become_36 (by decide) (fun hc => ?_) (fun hc => ?_)
    · replace h := h.1 hc
      exact v_vret C dX5_become_60 hret hlk h
    · replace h := h.2 hc
      refine v_aload_n C dX5_become_39 rfl 0 rfl ?_
      refine g_5_blocks C hk mF_X5_11 dX5_become_40 ?_
      refine v_iload_n C dX5_become_43 rfl 2 rfl ?_
      obtain ⟨hi5, h⟩ := h
      refine v_aald C (c0 := 11) (t0 := 3) (v := .ref (lad L (((k + 1) + 1) + 5 * ix x2))) (by decide) rfl rfl rfl (kd_5_1 hk) hi5 dX5_become_44 ?_
      refine v_aload_n C dX5_become_45 rfl 1 rfl ?_
      refine g_5_blocks C ho1 mF_X5_11 dX5_become_46 ?_
      refine v_iload_n C dX5_become_49 rfl 2 rfl ?_
      obtain ⟨hi6, h⟩ := h
      refine v_aald C (c0 := 11) (t0 := 3) (v := .ref (lad L (((o1 + 1) + 1) + 5 * ix x2))) (by decide) rfl rfl rfl (kd_5_1 ho1) hi6 dX5_become_50 ?_
      refine k_X3_become C (((k + 1) + 1) + 5 * ix x2) (((o1 + 1) + 1) + 5 * ix x2) (kd_el (kd_5_1 hk) hi5) (kd_el (kd_5_1 ho1) hi6) h mM_X5_48 ⟨Nat.le_of_ble_eq_true rfl, Nat.le_of_ble_eq_true rfl⟩ (Nat.le_of_ble_eq_true rfl) dX5_become_51 (fun σ7 h => ?_)
      refine v_iinc C [(2, .int (x2 + 1)), (0, .ref (lad L k)), (1, .ref (lad L o1))] dX5_become_54 2 rfl rfl (by decide) rfl ?_
      refine v_goto C (tgt := 34) dX5_become_57 (by decide) ?_
      refine v_sub [1, 2, 0] rfl ?_
      exact ih _ _  h
def w_X5_become (k : Nat) (o1 : Nat) (σ : Mem) (K : Mem → Prop) : Prop := (∀ σ1 : Mem, σ1 = mu σ k 1 (σ o1 1) → (∀ σ2 : Mem, σ2 = mu σ1 k 2 (σ1 o1 2) → (∀ σ3 : Mem, σ3 = mu σ2 k 3 (σ2 o1 3) → (∀ σ4 : Mem, σ4 = mu σ3 k 4 (σ3 o1 4) → (∃ n8, w_X5_become_34 k o1 K  n8 0 σ4)))))
set_option maxHeartbeats 4000000 in
set_option maxRecDepth 100000 in
theorem c_X5_become (l : Launch) (L : Ly) (k : Nat) (o1 : Nat) (σ : Mem) (K : Mem → Prop) (hk : kd k = 5) (ho1 : kd o1 = 5) (h : w_X5_become k o1 σ K) (sz : Nat) : Met l yX5_become (.code yX5_become cX5_become 3 none :: wA) rm_X5_become (va_Pc [.ref (lad L k), .ref (lad L o1)] (mB L sz σ)) (va_Qv K (mE L) (mA L sz)) 0 0 (mA L sz) := by
  refine v_start (own := RX5) [(0, .ref (lad L k)), (1, .ref (lad L o1))] (by decide) rfl (Nat.le_of_ble_eq_true rfl) rfl (fun p e s m args below meth c C hret hlk => ?_)
  unfold w_X5_become at h
  refine v_aload_n C dX5_become_0 rfl 0 rfl ?_
  refine v_aload_n C dX5_become_1 rfl 1 rfl ?_
  refine g_5_present C ho1 mF_X5_17 dX5_become_2 ?_
  refine p_5_present C hk mF_X5_17 dX5_become_5 (fun σ1 eσ1 => ?_)
  replace h := h σ1 eσ1
  refine v_aload_n C dX5_become_8 rfl 0 rfl ?_
  refine v_aload_n C dX5_become_9 rfl 1 rfl ?_
  refine g_5_kept C ho1 mF_X5_21 dX5_become_10 ?_
  refine p_5_kept C hk mF_X5_21 dX5_become_13 (fun σ2 eσ2 => ?_)
  replace h := h σ2 eσ2
  refine v_aload_n C dX5_become_16 rfl 0 rfl ?_
  refine v_aload_n C dX5_become_17 rfl 1 rfl ?_
  refine g_5_begun C ho1 mF_X5_24 dX5_become_18 ?_
  refine p_5_begun C hk mF_X5_24 dX5_become_21 (fun σ3 eσ3 => ?_)
  replace h := h σ3 eσ3
  refine v_aload_n C dX5_become_24 rfl 0 rfl ?_
  refine v_aload_n C dX5_become_25 rfl 1 rfl ?_
  refine g_5_arrivals C ho1 mF_X5_27 dX5_become_26 ?_
  refine p_5_arrivals C hk mF_X5_27 dX5_become_29 (fun σ4 eσ4 => ?_)
  replace h := h σ4 eσ4
  refine v_iconst C (v := 0) dX5_become_32 rfl ?_
  refine v_istore_n C [(2, .int 0), (0, .ref (lad L k)), (1, .ref (lad L o1))] dX5_become_33 rfl (by decide) rfl ?_
  obtain ⟨n8, h⟩ := h
  refine v_sub [1, 2, 0] rfl ?_
  exact b_X5_become_34 C hret hlk k o1 hk ho1 K   n8 _ _  h
theorem hd_X5_become : yX5_become.cls ≠ "java/lang/invoke/MethodHandle" ∧ yX5_become.cls ≠ "java/lang/invoke/VarHandle" ∧ (parseMethodDescriptor yX5_become.desc).map (fun d => d.parameters.length) = some 1 := by decide +kernel
theorem k_X5_become {p : Program} {l : Launch} {e : Env} {R : Room} {s : State} {m : MethodId} {args : Array Value} {below : List Frame} {meth : Method} {c : Code} {nL cells slots : Nat} {Q : State → Prop} {A : Nat → Prop} {L : Ly} {own : String} {cc : ByteArray} {σ : Mem} {pc idx : Nat} {lv : List (Nat × Value)} {st : List Value} {K : Mem → Prop} (C : Cx p R s m args meth c own cc nL cells slots A L) (k : Nat) (o1 : Nat) (hk : kd k = 5) (ho1 : kd o1 = 5) (h : w_X5_become k o1 σ K) (hml : Cond.methodLink own idx yX5_become ∈ wA) (hR : rm_X5_become.frames + 1 ≤ R.frames ∧ 8 + (3 + 11) + rm_X5_become.locals ≤ R.locals) (hsum : (st.map fun v => v.category).sum ≤ 8) (d : decode cc pc = .ok (.invokevirtual idx, 3)) (kk : ∀ σ1, K σ1 → V p l e R s m args below meth c nL cells slots Q A L σ1 (pc + 3) lv st) : V p l e R s m args below meth c nL cells slots Q A L σ pc lv (.ref (lad L o1) :: .ref (lad L k) :: st) := v_callVv C [.ref (lad L o1)] (fun sz => c_X5_become l L k o1 σ _ hk ho1 h sz) mC_X5_become mZ_X5 hd_X5_become mI_X5_become mS_X5_become rfl rfl (c0 := 5) (ci := 5) (by decide) rfl rfl rfl hk hml hR rfl hsum d kk
-- ===== RX1.become
abbrev rm_X1_become : Room := { frames := 1, cells := 0, slots := 0, locals := 40 }
def w_X1_become (k : Nat) (o1 : Nat) (σ : Mem) (K : Mem → Prop) : Prop := (∀ σ1 : Mem, σ1 = ms σ (k + 1) (va_cpy (σ (o1 + 1)) (σ (k + 1)) 0 0 8) → (∀ σ2 : Mem, σ2 = ms σ1 (k + 2) (va_cpy (σ1 (o1 + 2)) (σ1 (k + 2)) 0 0 8) → (∀ σ3 : Mem, σ3 = ms σ2 (k + 3) (va_cpy (σ2 (o1 + 3)) (σ2 (k + 3)) 0 0 8) → (∀ σ4 : Mem, σ4 = ms σ3 (k + 4) (va_cpy (σ3 (o1 + 4)) (σ3 (k + 4)) 0 0 8) → (∀ σ5 : Mem, σ5 = mu σ4 k 4 (σ4 o1 4) → (∀ σ6 : Mem, σ6 = mu σ5 k 5 (σ5 o1 5) → (K σ6)))))))
set_option maxHeartbeats 4000000 in
set_option maxRecDepth 100000 in
theorem c_X1_become (l : Launch) (L : Ly) (k : Nat) (o1 : Nat) (σ : Mem) (K : Mem → Prop) (hk : kd k = 1) (ho1 : kd o1 = 1) (h : w_X1_become k o1 σ K) (sz : Nat) : Met l yX1_become (.code yX1_become cX1_become 2 none :: wA) rm_X1_become (va_Pc [.ref (lad L k), .ref (lad L o1)] (mB L sz σ)) (va_Qv K (mE L) (mA L sz)) 0 0 (mA L sz) := by
  refine v_start (own := RX1) [(0, .ref (lad L k)), (1, .ref (lad L o1))] (by decide) rfl (Nat.le_of_ble_eq_true rfl) rfl (fun p e s m args below meth c C hret hlk => ?_)
  unfold w_X1_become at h
  refine v_aload_n C dX1_become_0 rfl 1 rfl ?_
  refine g_1_kinds C ho1 mF_X1_9 dX1_become_1 ?_
  refine v_iconst C (v := 0) dX1_become_4 rfl ?_
  refine v_aload_n C dX1_become_5 rfl 0 rfl ?_
  refine g_1_kinds C hk mF_X1_9 dX1_become_6 ?_
  refine v_iconst C (v := 0) dX1_become_9 rfl ?_
  refine v_bipush C (v := 8) dX1_become_10 rfl ?_
  refine v_copy C (c0 := 21) (by decide) (fun _ _ => rfl) (kd_1_1 ho1) (kd_1_1 hk) (x := 8) (by decide) (by decide) mM_X1_37 (by decide) (Nat.le_of_ble_eq_true rfl) dX1_become_12 (fun σ1 eσ1 => ?_)
  replace h := h σ1 eσ1
  refine v_aload_n C dX1_become_15 rfl 1 rfl ?_
  refine g_1_places C ho1 mF_X1_15 dX1_become_16 ?_
  refine v_iconst C (v := 0) dX1_become_19 rfl ?_
  refine v_aload_n C dX1_become_20 rfl 0 rfl ?_
  refine g_1_places C hk mF_X1_15 dX1_become_21 ?_
  refine v_iconst C (v := 0) dX1_become_24 rfl ?_
  refine v_bipush C (v := 8) dX1_become_25 rfl ?_
  refine v_copy C (c0 := 21) (by decide) (fun _ _ => rfl) (kd_1_2 ho1) (kd_1_2 hk) (x := 8) (by decide) (by decide) mM_X1_37 (by decide) (Nat.le_of_ble_eq_true rfl) dX1_become_27 (fun σ2 eσ2 => ?_)
  replace h := h σ2 eσ2
  refine v_aload_n C dX1_become_30 rfl 1 rfl ?_
  refine g_1_values C ho1 mF_X1_18 dX1_become_31 ?_
  refine v_iconst C (v := 0) dX1_become_34 rfl ?_
  refine v_aload_n C dX1_become_35 rfl 0 rfl ?_
  refine g_1_values C hk mF_X1_18 dX1_become_36 ?_
  refine v_iconst C (v := 0) dX1_become_39 rfl ?_
  refine v_bipush C (v := 8) dX1_become_40 rfl ?_
  refine v_copy C (c0 := 21) (by decide) (fun _ _ => rfl) (kd_1_3 ho1) (kd_1_3 hk) (x := 8) (by decide) (by decide) mM_X1_37 (by decide) (Nat.le_of_ble_eq_true rfl) dX1_become_42 (fun σ3 eσ3 => ?_)
  replace h := h σ3 eσ3
  refine v_aload_n C dX1_become_45 rfl 1 rfl ?_
  refine g_1_times C ho1 mF_X1_21 dX1_become_46 ?_
  refine v_iconst C (v := 0) dX1_become_49 rfl ?_
  refine v_aload_n C dX1_become_50 rfl 0 rfl ?_
  refine g_1_times C hk mF_X1_21 dX1_become_51 ?_
  refine v_iconst C (v := 0) dX1_become_54 rfl ?_
  refine v_bipush C (v := 8) dX1_become_55 rfl ?_
  refine v_copy C (c0 := 21) (by decide) (fun _ _ => rfl) (kd_1_4 ho1) (kd_1_4 hk) (x := 8) (by decide) (by decide) mM_X1_37 (by decide) (Nat.le_of_ble_eq_true rfl) dX1_become_57 (fun σ4 eσ4 => ?_)
  replace h := h σ4 eσ4
  refine v_aload_n C dX1_become_60 rfl 0 rfl ?_
  refine v_aload_n C dX1_become_61 rfl 1 rfl ?_
  refine g_1_next C ho1 mF_X1_24 dX1_become_62 ?_
  refine p_1_next C hk mF_X1_24 dX1_become_65 (fun σ5 eσ5 => ?_)
  replace h := h σ5 eσ5
  refine v_aload_n C dX1_become_68 rfl 0 rfl ?_
  refine v_aload_n C dX1_become_69 rfl 1 rfl ?_
  refine g_1_known C ho1 mF_X1_28 dX1_become_70 ?_
  refine p_1_known C hk mF_X1_28 dX1_become_73 (fun σ6 eσ6 => ?_)
  replace h := h σ6 eσ6
  exact v_vret C dX1_become_76 hret hlk h
theorem hd_X1_become : yX1_become.cls ≠ "java/lang/invoke/MethodHandle" ∧ yX1_become.cls ≠ "java/lang/invoke/VarHandle" ∧ (parseMethodDescriptor yX1_become.desc).map (fun d => d.parameters.length) = some 1 := by decide +kernel
theorem k_X1_become {p : Program} {l : Launch} {e : Env} {R : Room} {s : State} {m : MethodId} {args : Array Value} {below : List Frame} {meth : Method} {c : Code} {nL cells slots : Nat} {Q : State → Prop} {A : Nat → Prop} {L : Ly} {own : String} {cc : ByteArray} {σ : Mem} {pc idx : Nat} {lv : List (Nat × Value)} {st : List Value} {K : Mem → Prop} (C : Cx p R s m args meth c own cc nL cells slots A L) (k : Nat) (o1 : Nat) (hk : kd k = 1) (ho1 : kd o1 = 1) (h : w_X1_become k o1 σ K) (hml : Cond.methodLink own idx yX1_become ∈ wA) (hR : rm_X1_become.frames + 1 ≤ R.frames ∧ 8 + (2 + 11) + rm_X1_become.locals ≤ R.locals) (hsum : (st.map fun v => v.category).sum ≤ 8) (d : decode cc pc = .ok (.invokevirtual idx, 3)) (kk : ∀ σ1, K σ1 → V p l e R s m args below meth c nL cells slots Q A L σ1 (pc + 3) lv st) : V p l e R s m args below meth c nL cells slots Q A L σ pc lv (.ref (lad L o1) :: .ref (lad L k) :: st) := v_callVv C [.ref (lad L o1)] (fun sz => c_X1_become l L k o1 σ _ hk ho1 h sz) mC_X1_become mZ_X1 hd_X1_become mI_X1_become mS_X1_become rfl rfl (c0 := 1) (ci := 1) (by decide) rfl rfl rfl hk hml hR rfl hsum d kk
-- ===== RX1.note
abbrev rm_X1_note : Room := { frames := 1, cells := 0, slots := 0, locals := 21 }
def w_X1_note (k : Nat) (a1 : Int32) (a2 : Int32) (a3 : Int32) (a4 : Int32) (σ : Mem) (K : Mem → Prop) : Prop := (∀ v1 : Int32, v1 = ((σ k 4) &&& 7) → (vp_in v1 8 ∧ ∀ σ3 : Mem, σ3 = mu σ (k + 1) (ix v1) a1 → (vp_in v1 8 ∧ ∀ σ5 : Mem, σ5 = mu σ3 (k + 2) (ix v1) a2 → (vp_in v1 8 ∧ ∀ σ7 : Mem, σ7 = mu σ5 (k + 3) (ix v1) a3 → (vp_in v1 8 ∧ ∀ σ9 : Mem, σ9 = mu σ7 (k + 4) (ix v1) a4 → (∀ σ10 : Mem, σ10 = mu σ9 k 4 (((σ9 k 4) + 1) &&& 7) → (∀ σ11 : Mem, σ11 = mu σ10 k 5 (if 8 < ((σ10 k 5) + 1) then 8 else ((σ10 k 5) + 1)) → (K σ11))))))))
set_option maxHeartbeats 4000000 in
set_option maxRecDepth 100000 in
theorem c_X1_note (l : Launch) (L : Ly) (k : Nat) (a1 : Int32) (a2 : Int32) (a3 : Int32) (a4 : Int32) (σ : Mem) (K : Mem → Prop) (hk : kd k = 1) (h : w_X1_note k a1 a2 a3 a4 σ K) (sz : Nat) : Met l yX1_note (.code yX1_note cX1_note 6 none :: wA) rm_X1_note (va_Pc [.ref (lad L k), .int a1, .int a2, .int a3, .int a4] (mB L sz σ)) (va_Qv K (mE L) (mA L sz)) 0 0 (mA L sz) := by
  refine v_start (own := RX1) [(0, .ref (lad L k)), (1, .int a1), (2, .int a2), (3, .int a3), (4, .int a4)] (by decide) rfl (Nat.le_of_ble_eq_true rfl) rfl (fun p e s m args below meth c C hret hlk => ?_)
  unfold w_X1_note at h
  refine v_aload_n C dX1_note_0 rfl 0 rfl ?_
  refine g_1_next C hk mF_X1_24 dX1_note_1 ?_
  refine v_bipush C (v := 7) dX1_note_4 rfl ?_
  refine v_iand C dX1_note_6 ?_
  refine v_nm (fun v1 ev1 => ?_)
  replace h := h v1 ev1
  refine v_istore C [(5, .int v1), (0, .ref (lad L k)), (1, .int a1), (2, .int a2), (3, .int a3), (4, .int a4)] dX1_note_7 (by decide) rfl ?_
  refine v_aload_n C dX1_note_9 rfl 1 rfl ?_
  refine g_1_kinds C hk mF_X1_9 dX1_note_10 ?_
  refine v_iload C dX1_note_13 0 rfl ?_
  refine v_iload_n C dX1_note_15 rfl 2 rfl ?_
  obtain ⟨hi2, h⟩ := h
  refine v_iast C (c0 := 21) (by decide) (fun _ => rfl) (kd_1_1 hk) hi2 dX1_note_16 (fun σ3 eσ3 => ?_)
  replace h := h σ3 eσ3
  refine v_aload_n C dX1_note_17 rfl 1 rfl ?_
  refine g_1_places C hk mF_X1_15 dX1_note_18 ?_
  refine v_iload C dX1_note_21 0 rfl ?_
  refine v_iload_n C dX1_note_23 rfl 3 rfl ?_
  obtain ⟨hi4, h⟩ := h
  refine v_iast C (c0 := 21) (by decide) (fun _ => rfl) (kd_1_2 hk) hi4 dX1_note_24 (fun σ5 eσ5 => ?_)
  replace h := h σ5 eσ5
  refine v_aload_n C dX1_note_25 rfl 1 rfl ?_
  refine g_1_values C hk mF_X1_18 dX1_note_26 ?_
  refine v_iload C dX1_note_29 0 rfl ?_
  refine v_iload_n C dX1_note_31 rfl 4 rfl ?_
  obtain ⟨hi6, h⟩ := h
  refine v_iast C (c0 := 21) (by decide) (fun _ => rfl) (kd_1_3 hk) hi6 dX1_note_32 (fun σ7 eσ7 => ?_)
  replace h := h σ7 eσ7
  refine v_aload_n C dX1_note_33 rfl 1 rfl ?_
  refine g_1_times C hk mF_X1_21 dX1_note_34 ?_
  refine v_iload C dX1_note_37 0 rfl ?_
  refine v_iload C dX1_note_39 5 rfl ?_
  obtain ⟨hi8, h⟩ := h
  refine v_iast C (c0 := 21) (by decide) (fun _ => rfl) (kd_1_4 hk) hi8 dX1_note_41 (fun σ9 eσ9 => ?_)
  replace h := h σ9 eσ9
  refine v_aload_n C dX1_note_42 rfl 1 rfl ?_
  refine v_aload_n C dX1_note_43 rfl 1 rfl ?_
  refine g_1_next C hk mF_X1_24 dX1_note_44 ?_
  refine v_iconst C (v := 1) dX1_note_47 rfl ?_
  refine v_iadd C dX1_note_48 ?_
  refine v_bipush C (v := 7) dX1_note_49 rfl ?_
  refine v_iand C dX1_note_51 ?_
  refine p_1_next C hk mF_X1_24 dX1_note_52 (fun σ10 eσ10 => ?_)
  replace h := h σ10 eσ10
  refine v_aload_n C dX1_note_55 rfl 1 rfl ?_
  refine v_aload_n C dX1_note_56 rfl 1 rfl ?_
  refine g_1_known C hk mF_X1_28 dX1_note_57 ?_
  refine v_iconst C (v := 1) dX1_note_60 rfl ?_
  refine v_iadd C dX1_note_61 ?_
  refine v_bipush C (v := 8) dX1_note_62 rfl ?_
  refine v_mmin C mM_X1_31 (by decide) (Nat.le_of_ble_eq_true rfl) dX1_note_64 ?_
  refine p_1_known C hk mF_X1_28 dX1_note_67 (fun σ11 eσ11 => ?_)
  replace h := h σ11 eσ11
  exact v_vret C dX1_note_70 hret hlk h
theorem hd_X1_note : yX1_note.cls ≠ "java/lang/invoke/MethodHandle" ∧ yX1_note.cls ≠ "java/lang/invoke/VarHandle" ∧ (parseMethodDescriptor yX1_note.desc).map (fun d => d.parameters.length) = some 4 := by decide +kernel
theorem k_X1_note {p : Program} {l : Launch} {e : Env} {R : Room} {s : State} {m : MethodId} {args : Array Value} {below : List Frame} {meth : Method} {c : Code} {nL cells slots : Nat} {Q : State → Prop} {A : Nat → Prop} {L : Ly} {own : String} {cc : ByteArray} {σ : Mem} {pc idx : Nat} {lv : List (Nat × Value)} {st : List Value} {K : Mem → Prop} (C : Cx p R s m args meth c own cc nL cells slots A L) (k : Nat) (a1 : Int32) (a2 : Int32) (a3 : Int32) (a4 : Int32) (hk : kd k = 1) (h : w_X1_note k a1 a2 a3 a4 σ K) (hml : Cond.methodLink own idx yX1_note ∈ wA) (hR : rm_X1_note.frames + 1 ≤ R.frames ∧ 8 + (6 + 11) + rm_X1_note.locals ≤ R.locals) (hsum : (st.map fun v => v.category).sum ≤ 8) (d : decode cc pc = .ok (.invokevirtual idx, 3)) (kk : ∀ σ1, K σ1 → V p l e R s m args below meth c nL cells slots Q A L σ1 (pc + 3) lv st) : V p l e R s m args below meth c nL cells slots Q A L σ pc lv (.int a4 :: .int a3 :: .int a2 :: .int a1 :: .ref (lad L k) :: st) := v_callVv C [.int a1, .int a2, .int a3, .int a4] (fun sz => c_X1_note l L k a1 a2 a3 a4 σ _ hk h sz) mC_X1_note mZ_X1 hd_X1_note mI_X1_note mS_X1_note rfl rfl (c0 := 1) (ci := 1) (by decide) rfl rfl rfl hk hml hR rfl hsum d kk
-- ===== RX1.slotOf
abbrev rm_X1_slotOf : Room := { frames := 0, cells := 0, slots := 0, locals := 0 }
def w_X1_slotOf (k : Nat) (a1 : Int32) (σ : Mem) (K : Int32 → Mem → Prop) : Prop := (K ((((σ k 4) - 1) - a1) &&& 7) σ)
set_option maxHeartbeats 4000000 in
set_option maxRecDepth 100000 in
theorem c_X1_slotOf (l : Launch) (L : Ly) (k : Nat) (a1 : Int32) (σ : Mem) (K : Int32 → Mem → Prop) (hk : kd k = 1) (h : w_X1_slotOf k a1 σ K) (sz : Nat) : Met l yX1_slotOf (.code yX1_slotOf cX1_slotOf 2 (some .int) :: wA) rm_X1_slotOf (va_Pc [.ref (lad L k), .int a1] (mB L sz σ)) (va_Qi K (mE L) (mA L sz)) 0 0 (mA L sz) := by
  refine v_start (own := RX1) [(0, .ref (lad L k)), (1, .int a1)] (by decide) rfl (Nat.le_of_ble_eq_true rfl) rfl (fun p e s m args below meth c C hret hlk => ?_)
  unfold w_X1_slotOf at h
  refine v_aload_n C dX1_slotOf_0 rfl 0 rfl ?_
  refine g_1_next C hk mF_X1_24 dX1_slotOf_1 ?_
  refine v_iconst C (v := 1) dX1_slotOf_4 rfl ?_
  refine v_isub C dX1_slotOf_5 ?_
  refine v_iload_n C dX1_slotOf_6 rfl 1 rfl ?_
  refine v_isub C dX1_slotOf_7 ?_
  refine v_bipush C (v := 7) dX1_slotOf_8 rfl ?_
  refine v_iand C dX1_slotOf_10 ?_
  exact v_iret C dX1_slotOf_11 hret hlk h
theorem hd_X1_slotOf : yX1_slotOf.cls ≠ "java/lang/invoke/MethodHandle" ∧ yX1_slotOf.cls ≠ "java/lang/invoke/VarHandle" ∧ (parseMethodDescriptor yX1_slotOf.desc).map (fun d => d.parameters.length) = some 1 := by decide +kernel
theorem k_X1_slotOf {p : Program} {l : Launch} {e : Env} {R : Room} {s : State} {m : MethodId} {args : Array Value} {below : List Frame} {meth : Method} {c : Code} {nL cells slots : Nat} {Q : State → Prop} {A : Nat → Prop} {L : Ly} {own : String} {cc : ByteArray} {σ : Mem} {pc idx : Nat} {lv : List (Nat × Value)} {st : List Value} {K : Int32 → Mem → Prop} (C : Cx p R s m args meth c own cc nL cells slots A L) (k : Nat) (a1 : Int32) (hk : kd k = 1) (h : w_X1_slotOf k a1 σ K) (hml : Cond.methodLink own idx yX1_slotOf ∈ wA) (hR : rm_X1_slotOf.frames + 1 ≤ R.frames ∧ 8 + (2 + 11) + rm_X1_slotOf.locals ≤ R.locals) (hsum : (st.map fun v => v.category).sum ≤ 8) (d : decode cc pc = .ok (.invokevirtual idx, 3)) (kk : ∀ r σ1, K r σ1 → V p l e R s m args below meth c nL cells slots Q A L σ1 (pc + 3) lv (.int r :: st)) : V p l e R s m args below meth c nL cells slots Q A L σ pc lv (.int a1 :: .ref (lad L k) :: st) := v_callVi C [.int a1] (fun sz => c_X1_slotOf l L k a1 σ _ hk h sz) mC_X1_slotOf mZ_X1 hd_X1_slotOf mI_X1_slotOf mS_X1_slotOf rfl rfl (c0 := 1) (ci := 1) (by decide) rfl rfl rfl hk hml hR rfl hsum d kk
-- ===== RX5.presentBlock
abbrev rm_X5_presentBlock : Room := { frames := 0, cells := 0, slots := 0, locals := 0 }
def w_X5_presentBlock (k : Nat) (σ : Mem) (K : Nat → Mem → Prop) : Prop := (vp_in ((σ k 1) &&& 3) 4 ∧ (K (((k + 1) + 1) + 5 * ix ((σ k 1) &&& 3)) σ))
set_option maxHeartbeats 4000000 in
set_option maxRecDepth 100000 in
theorem c_X5_presentBlock (l : Launch) (L : Ly) (k : Nat) (σ : Mem) (K : Nat → Mem → Prop) (hk : kd k = 5) (h : w_X5_presentBlock k σ K) (sz : Nat) : Met l yX5_presentBlock (.code yX5_presentBlock cX5_presentBlock 1 (some (.object "FloorTops$Summary")) :: wA) rm_X5_presentBlock (va_Pc [.ref (lad L k)] (mB L sz σ)) (va_Qe (lad L) (mR K) (mE L) (mA L sz)) 0 0 (mA L sz) := by
  refine v_start (own := RX5) [(0, .ref (lad L k))] (by decide) rfl (Nat.le_of_ble_eq_true rfl) rfl (fun p e s m args below meth c C hret hlk => ?_)
  unfold w_X5_presentBlock at h
  refine v_aload_n C dX5_presentBlock_0 rfl 0 rfl ?_
  refine g_5_blocks C hk mF_X5_11 dX5_presentBlock_1 ?_
  refine v_aload_n C dX5_presentBlock_4 rfl 0 rfl ?_
  refine g_5_present C hk mF_X5_17 dX5_presentBlock_5 ?_
  refine v_iconst C (v := 3) dX5_presentBlock_8 rfl ?_
  refine v_iand C dX5_presentBlock_9 ?_
  obtain ⟨hi1, h⟩ := h
  refine v_aald C (c0 := 11) (t0 := 3) (v := .ref (lad L (((k + 1) + 1) + 5 * ix ((σ k 1) &&& 3)))) (by decide) rfl rfl rfl (kd_5_1 hk) hi1 dX5_presentBlock_10 ?_
  exact v_aret C (r := some (((k + 1) + 1) + 5 * ix ((σ k 1) &&& 3))) dX5_presentBlock_11 hret hlk rfl ⟨_, rfl, (kd_el (kd_5_1 hk) hi1), h⟩
theorem hd_X5_presentBlock : yX5_presentBlock.cls ≠ "java/lang/invoke/MethodHandle" ∧ yX5_presentBlock.cls ≠ "java/lang/invoke/VarHandle" ∧ (parseMethodDescriptor yX5_presentBlock.desc).map (fun d => d.parameters.length) = some 0 := by decide +kernel
theorem k_X5_presentBlock {p : Program} {l : Launch} {e : Env} {R : Room} {s : State} {m : MethodId} {args : Array Value} {below : List Frame} {meth : Method} {c : Code} {nL cells slots : Nat} {Q : State → Prop} {A : Nat → Prop} {L : Ly} {own : String} {cc : ByteArray} {σ : Mem} {pc idx : Nat} {lv : List (Nat × Value)} {st : List Value} {K : Nat → Mem → Prop} (C : Cx p R s m args meth c own cc nL cells slots A L) (k : Nat) (hk : kd k = 5) (h : w_X5_presentBlock k σ K) (hml : Cond.methodLink own idx yX5_presentBlock ∈ wA) (hR : rm_X5_presentBlock.frames + 1 ≤ R.frames ∧ 8 + (1 + 11) + rm_X5_presentBlock.locals ≤ R.locals) (hsum : (st.map fun v => v.category).sum ≤ 8) (d : decode cc pc = .ok (.invokevirtual idx, 3)) (kk : ∀ r σ1, mR K r σ1 → V p l e R s m args below meth c nL cells slots Q A L σ1 (pc + 3) lv (va_re (lad L) r :: st)) : V p l e R s m args below meth c nL cells slots Q A L σ pc lv (.ref (lad L k) :: st) := v_callVe C [] (fun sz => c_X5_presentBlock l L k σ _ hk h sz) mC_X5_presentBlock mZ_X5 hd_X5_presentBlock mI_X5_presentBlock mS_X5_presentBlock rfl rfl (c0 := 5) (ci := 5) (by decide) rfl rfl rfl hk hml hR rfl hsum d kk
-- ===== RX5.beginBlock
abbrev rm_X5_beginBlock : Room := { frames := 1, cells := 0, slots := 0, locals := 21 }
def w_X5_beginBlock (k : Nat) (σ : Mem) (K : Mem → Prop) : Prop := (∀ σ1 : Mem, σ1 = mu σ k 1 (((σ k 1) + 1) &&& 3) → (∀ σ2 : Mem, σ2 = mu σ1 k 2 (if 4 < ((σ1 k 2) + 1) then 4 else ((σ1 k 2) + 1)) → (∀ σ3 : Mem, σ3 = mu σ2 k 3 ((σ2 k 3) + 1) → (∀ σ4 : Mem, σ4 = mu σ3 k 4 0 → (w_X5_presentBlock k σ4 (fun r6 σ5 => (w_X3_wipe r6 σ5 (fun σ8 => (K σ8)))))))))
set_option maxHeartbeats 4000000 in
set_option maxRecDepth 100000 in
theorem c_X5_beginBlock (l : Launch) (L : Ly) (k : Nat) (σ : Mem) (K : Mem → Prop) (hk : kd k = 5) (h : w_X5_beginBlock k σ K) (sz : Nat) : Met l yX5_beginBlock (.code yX5_beginBlock cX5_beginBlock 1 none :: wA) rm_X5_beginBlock (va_Pc [.ref (lad L k)] (mB L sz σ)) (va_Qv K (mE L) (mA L sz)) 0 0 (mA L sz) := by
  refine v_start (own := RX5) [(0, .ref (lad L k))] (by decide) rfl (Nat.le_of_ble_eq_true rfl) rfl (fun p e s m args below meth c C hret hlk => ?_)
  unfold w_X5_beginBlock at h
  refine v_aload_n C dX5_beginBlock_0 rfl 0 rfl ?_
  refine v_aload_n C dX5_beginBlock_1 rfl 0 rfl ?_
  refine g_5_present C hk mF_X5_17 dX5_beginBlock_2 ?_
  refine v_iconst C (v := 1) dX5_beginBlock_5 rfl ?_
  refine v_iadd C dX5_beginBlock_6 ?_
  refine v_iconst C (v := 3) dX5_beginBlock_7 rfl ?_
  refine v_iand C dX5_beginBlock_8 ?_
  refine p_5_present C hk mF_X5_17 dX5_beginBlock_9 (fun σ1 eσ1 => ?_)
  replace h := h σ1 eσ1
  refine v_aload_n C dX5_beginBlock_12 rfl 0 rfl ?_
  refine v_aload_n C dX5_beginBlock_13 rfl 0 rfl ?_
  refine g_5_kept C hk mF_X5_21 dX5_beginBlock_14 ?_
  refine v_iconst C (v := 1) dX5_beginBlock_17 rfl ?_
  refine v_iadd C dX5_beginBlock_18 ?_
  refine v_iconst C (v := 4) dX5_beginBlock_19 rfl ?_
  refine v_mmin C mM_X5_31 (by decide) (Nat.le_of_ble_eq_true rfl) dX5_beginBlock_20 ?_
  refine p_5_kept C hk mF_X5_21 dX5_beginBlock_23 (fun σ2 eσ2 => ?_)
  replace h := h σ2 eσ2
  refine v_aload_n C dX5_beginBlock_26 rfl 0 rfl ?_
  refine v_dup C dX5_beginBlock_27 rfl ?_
  refine g_5_begun C hk mF_X5_24 dX5_beginBlock_28 ?_
  refine v_iconst C (v := 1) dX5_beginBlock_31 rfl ?_
  refine v_iadd C dX5_beginBlock_32 ?_
  refine p_5_begun C hk mF_X5_24 dX5_beginBlock_33 (fun σ3 eσ3 => ?_)
  replace h := h σ3 eσ3
  refine v_aload_n C dX5_beginBlock_36 rfl 0 rfl ?_
  refine v_iconst C (v := 0) dX5_beginBlock_37 rfl ?_
  refine p_5_arrivals C hk mF_X5_27 dX5_beginBlock_38 (fun σ4 eσ4 => ?_)
  replace h := h σ4 eσ4
  refine v_aload_n C dX5_beginBlock_41 rfl 0 rfl ?_
  refine k_X5_presentBlock C k hk h mM_X5_37 ⟨Nat.le_of_ble_eq_true rfl, Nat.le_of_ble_eq_true rfl⟩ (Nat.le_of_ble_eq_true rfl) dX5_beginBlock_42 (fun ror6 σ5 h => ?_)
  obtain ⟨r6, rfl, hk7, h⟩ := h
  refine v_re ?_
  refine k_X3_wipe C r6 hk7 h mM_X5_41 ⟨Nat.le_of_ble_eq_true rfl, Nat.le_of_ble_eq_true rfl⟩ (Nat.le_of_ble_eq_true rfl) dX5_beginBlock_45 (fun σ8 h => ?_)
  exact v_vret C dX5_beginBlock_48 hret hlk h
theorem hd_X5_beginBlock : yX5_beginBlock.cls ≠ "java/lang/invoke/MethodHandle" ∧ yX5_beginBlock.cls ≠ "java/lang/invoke/VarHandle" ∧ (parseMethodDescriptor yX5_beginBlock.desc).map (fun d => d.parameters.length) = some 0 := by decide +kernel
theorem k_X5_beginBlock {p : Program} {l : Launch} {e : Env} {R : Room} {s : State} {m : MethodId} {args : Array Value} {below : List Frame} {meth : Method} {c : Code} {nL cells slots : Nat} {Q : State → Prop} {A : Nat → Prop} {L : Ly} {own : String} {cc : ByteArray} {σ : Mem} {pc idx : Nat} {lv : List (Nat × Value)} {st : List Value} {K : Mem → Prop} (C : Cx p R s m args meth c own cc nL cells slots A L) (k : Nat) (hk : kd k = 5) (h : w_X5_beginBlock k σ K) (hml : Cond.methodLink own idx yX5_beginBlock ∈ wA) (hR : rm_X5_beginBlock.frames + 1 ≤ R.frames ∧ 8 + (1 + 11) + rm_X5_beginBlock.locals ≤ R.locals) (hsum : (st.map fun v => v.category).sum ≤ 8) (d : decode cc pc = .ok (.invokevirtual idx, 3)) (kk : ∀ σ1, K σ1 → V p l e R s m args below meth c nL cells slots Q A L σ1 (pc + 3) lv st) : V p l e R s m args below meth c nL cells slots Q A L σ pc lv (.ref (lad L k) :: st) := v_callVv C [] (fun sz => c_X5_beginBlock l L k σ _ hk h sz) mC_X5_beginBlock mZ_X5 hd_X5_beginBlock mI_X5_beginBlock mS_X5_beginBlock rfl rfl (c0 := 5) (ci := 5) (by decide) rfl rfl rfl hk hml hR rfl hsum d kk
-- ===== RX5.blockAt
abbrev rm_X5_blockAt : Room := { frames := 0, cells := 0, slots := 0, locals := 0 }
def w_X5_blockAt (k : Nat) (a1 : Int32) (σ : Mem) (K : Nat → Mem → Prop) : Prop := (vp_in (((((σ k 1) - (σ k 2)) + 1) + a1) &&& 3) 4 ∧ (K (((k + 1) + 1) + 5 * ix (((((σ k 1) - (σ k 2)) + 1) + a1) &&& 3)) σ))
set_option maxHeartbeats 4000000 in
set_option maxRecDepth 100000 in
theorem c_X5_blockAt (l : Launch) (L : Ly) (k : Nat) (a1 : Int32) (σ : Mem) (K : Nat → Mem → Prop) (hk : kd k = 5) (h : w_X5_blockAt k a1 σ K) (sz : Nat) : Met l yX5_blockAt (.code yX5_blockAt cX5_blockAt 2 (some (.object "FloorTops$Summary")) :: wA) rm_X5_blockAt (va_Pc [.ref (lad L k), .int a1] (mB L sz σ)) (va_Qe (lad L) (mR K) (mE L) (mA L sz)) 0 0 (mA L sz) := by
  refine v_start (own := RX5) [(0, .ref (lad L k)), (1, .int a1)] (by decide) rfl (Nat.le_of_ble_eq_true rfl) rfl (fun p e s m args below meth c C hret hlk => ?_)
  unfold w_X5_blockAt at h
  refine v_aload_n C dX5_blockAt_0 rfl 0 rfl ?_
  refine g_5_blocks C hk mF_X5_11 dX5_blockAt_1 ?_
  refine v_aload_n C dX5_blockAt_4 rfl 0 rfl ?_
  refine g_5_present C hk mF_X5_17 dX5_blockAt_5 ?_
  refine v_aload_n C dX5_blockAt_8 rfl 0 rfl ?_
  refine g_5_kept C hk mF_X5_21 dX5_blockAt_9 ?_
  refine v_isub C dX5_blockAt_12 ?_
  refine v_iconst C (v := 1) dX5_blockAt_13 rfl ?_
  refine v_iadd C dX5_blockAt_14 ?_
  refine v_iload_n C dX5_blockAt_15 rfl 1 rfl ?_
  refine v_iadd C dX5_blockAt_16 ?_
  refine v_iconst C (v := 3) dX5_blockAt_17 rfl ?_
  refine v_iand C dX5_blockAt_18 ?_
  obtain ⟨hi1, h⟩ := h
  refine v_aald C (c0 := 11) (t0 := 3) (v := .ref (lad L (((k + 1) + 1) + 5 * ix (((((σ k 1) - (σ k 2)) + 1) + a1) &&& 3)))) (by decide) rfl rfl rfl (kd_5_1 hk) hi1 dX5_blockAt_19 ?_
  exact v_aret C (r := some (((k + 1) + 1) + 5 * ix (((((σ k 1) - (σ k 2)) + 1) + a1) &&& 3))) dX5_blockAt_20 hret hlk rfl ⟨_, rfl, (kd_el (kd_5_1 hk) hi1), h⟩
theorem hd_X5_blockAt : yX5_blockAt.cls ≠ "java/lang/invoke/MethodHandle" ∧ yX5_blockAt.cls ≠ "java/lang/invoke/VarHandle" ∧ (parseMethodDescriptor yX5_blockAt.desc).map (fun d => d.parameters.length) = some 1 := by decide +kernel
theorem k_X5_blockAt {p : Program} {l : Launch} {e : Env} {R : Room} {s : State} {m : MethodId} {args : Array Value} {below : List Frame} {meth : Method} {c : Code} {nL cells slots : Nat} {Q : State → Prop} {A : Nat → Prop} {L : Ly} {own : String} {cc : ByteArray} {σ : Mem} {pc idx : Nat} {lv : List (Nat × Value)} {st : List Value} {K : Nat → Mem → Prop} (C : Cx p R s m args meth c own cc nL cells slots A L) (k : Nat) (a1 : Int32) (hk : kd k = 5) (h : w_X5_blockAt k a1 σ K) (hml : Cond.methodLink own idx yX5_blockAt ∈ wA) (hR : rm_X5_blockAt.frames + 1 ≤ R.frames ∧ 8 + (2 + 11) + rm_X5_blockAt.locals ≤ R.locals) (hsum : (st.map fun v => v.category).sum ≤ 8) (d : decode cc pc = .ok (.invokevirtual idx, 3)) (kk : ∀ r σ1, mR K r σ1 → V p l e R s m args below meth c nL cells slots Q A L σ1 (pc + 3) lv (va_re (lad L) r :: st)) : V p l e R s m args below meth c nL cells slots Q A L σ pc lv (.int a1 :: .ref (lad L k) :: st) := v_callVe C [.int a1] (fun sz => c_X5_blockAt l L k a1 σ _ hk h sz) mC_X5_blockAt mZ_X5 hd_X5_blockAt mI_X5_blockAt mS_X5_blockAt rfl rfl (c0 := 5) (ci := 5) (by decide) rfl rfl rfl hk hml hR rfl hsum d kk
-- ===== RX5.arrivalsOf
abbrev rm_X5_arrivalsOf : Room := { frames := 0, cells := 0, slots := 0, locals := 0 }
def w_X5_arrivalsOf (k : Nat) (a1 : Int32) (σ : Mem) (K : Int32 → Mem → Prop) : Prop := (br (a1 = ((σ k 2) - 1)) (K (σ k 4) σ) (K 8 σ))
set_option maxHeartbeats 4000000 in
set_option maxRecDepth 100000 in
theorem c_X5_arrivalsOf (l : Launch) (L : Ly) (k : Nat) (a1 : Int32) (σ : Mem) (K : Int32 → Mem → Prop) (hk : kd k = 5) (h : w_X5_arrivalsOf k a1 σ K) (sz : Nat) : Met l yX5_arrivalsOf (.code yX5_arrivalsOf cX5_arrivalsOf 2 (some .int) :: wA) rm_X5_arrivalsOf (va_Pc [.ref (lad L k), .int a1] (mB L sz σ)) (va_Qi K (mE L) (mA L sz)) 0 0 (mA L sz) := by
  refine v_start (own := RX5) [(0, .ref (lad L k)), (1, .int a1)] (by decide) rfl (Nat.le_of_ble_eq_true rfl) rfl (fun p e s m args below meth c C hret hlk => ?_)
  unfold w_X5_arrivalsOf at h
  refine v_iload_n C dX5_arrivalsOf_0 rfl 1 rfl ?_
  refine v_aload_n C dX5_arrivalsOf_1 rfl 0 rfl ?_
  refine g_5_kept C hk mF_X5_21 dX5_arrivalsOf_2 ?_
  refine v_iconst C (v := 1) dX5_arrivalsOf_5 rfl ?_
  refine v_isub C dX5_arrivalsOf_6 ?_
  refine v_icmp_ne C (tgt := 17) dX5_arrivalsOf_7 (by decide) (fun hc => ?_) (fun hc => ?_)
  · replace h := h.2 hc
    refine v_bipush C (v := 8) dX5_arrivalsOf_17 rfl ?_
    exact v_iret C dX5_arrivalsOf_19 hret hlk h
  · replace h := h.1 hc
    refine v_aload_n C dX5_arrivalsOf_10 rfl 0 rfl ?_
    refine g_5_arrivals C hk mF_X5_27 dX5_arrivalsOf_11 ?_
    refine v_goto C (tgt := 19) dX5_arrivalsOf_14 (by decide) ?_
    exact v_iret C dX5_arrivalsOf_19 hret hlk h
theorem hd_X5_arrivalsOf : yX5_arrivalsOf.cls ≠ "java/lang/invoke/MethodHandle" ∧ yX5_arrivalsOf.cls ≠ "java/lang/invoke/VarHandle" ∧ (parseMethodDescriptor yX5_arrivalsOf.desc).map (fun d => d.parameters.length) = some 1 := by decide +kernel
theorem k_X5_arrivalsOf {p : Program} {l : Launch} {e : Env} {R : Room} {s : State} {m : MethodId} {args : Array Value} {below : List Frame} {meth : Method} {c : Code} {nL cells slots : Nat} {Q : State → Prop} {A : Nat → Prop} {L : Ly} {own : String} {cc : ByteArray} {σ : Mem} {pc idx : Nat} {lv : List (Nat × Value)} {st : List Value} {K : Int32 → Mem → Prop} (C : Cx p R s m args meth c own cc nL cells slots A L) (k : Nat) (a1 : Int32) (hk : kd k = 5) (h : w_X5_arrivalsOf k a1 σ K) (hml : Cond.methodLink own idx yX5_arrivalsOf ∈ wA) (hR : rm_X5_arrivalsOf.frames + 1 ≤ R.frames ∧ 8 + (2 + 11) + rm_X5_arrivalsOf.locals ≤ R.locals) (hsum : (st.map fun v => v.category).sum ≤ 8) (d : decode cc pc = .ok (.invokevirtual idx, 3)) (kk : ∀ r σ1, K r σ1 → V p l e R s m args below meth c nL cells slots Q A L σ1 (pc + 3) lv (.int r :: st)) : V p l e R s m args below meth c nL cells slots Q A L σ pc lv (.int a1 :: .ref (lad L k) :: st) := v_callVi C [.int a1] (fun sz => c_X5_arrivalsOf l L k a1 σ _ hk h sz) mC_X5_arrivalsOf mZ_X5 hd_X5_arrivalsOf mI_X5_arrivalsOf mS_X5_arrivalsOf rfl rfl (c0 := 5) (ci := 5) (by decide) rfl rfl rfl hk hml hR rfl hsum d kk
-- ===== RX5.look
abbrev rm_X5_look : Room := { frames := 4, cells := 0, slots := 0, locals := 92 }
def w_X5_look_11 (k : Nat) (o1 : Nat) (a2 : Int32) (K : Mem → Prop)  : Nat → Int32 → Mem → Prop
  | 0, _, _ => False
  | n + 1, x3, σ => (br ((σ k 2) ≤ x3) (K σ) (w_X5_blockAt k x3 σ (fun r6 σ5 => (w_X3_absorb o1 r6 a2 σ5 (fun r9 σ8 => (w_X5_look_11 k o1 a2 K  n (x3 + 1) σ8))))))
set_option maxHeartbeats 4000000 in
set_option maxRecDepth 100000 in
theorem b_X5_look_11 {p : Program} {l : Launch} {e : Env} {s : State} {m : MethodId} {args : Array Value} {below : List Frame} {meth : Method} {c : Code} {L : Ly} {sz : Nat} (C : Cx p rm_X5_look s m args meth c RX5 cX5_look 4 0 0 (mA L sz) L) (hret : meth.sig.returnType = none) (hlk : meth.locks = false) (k : Nat) (o1 : Nat) (a2 : Int32) (hk : kd k = 5) (ho1 : kd o1 = 3) (K : Mem → Prop)  : ∀ (n : Nat) (x3 : Int32) (σ : Mem), w_X5_look_11 k o1 a2 K  n x3 σ → V p l e rm_X5_look s m args below meth c 4 0 0 (MQ below (va_Qv K (mE L) (mA L sz)) args s 0 0 (mA L sz)) (mA L sz) L σ 11 [(0, .ref (lad L k)), (1, .ref (lad L o1)), (2, .int a2), (3, .int x3)] [] := by
  intro n
  induction n with
  | zero => intro x3 σ  h; exact h.elim
  | succ n ih =>
    intro x3 σ  h
    rw [w_X5_look_11] at h
    refine v_iload_n C dX5_look_11 rfl 3 rfl ?_
    refine v_aload_n C dX5_look_12 rfl 0 rfl ?_
    refine g_5_kept C hk mF_X5_21 dX5_look_13 ?_
    refine v_icmp_ge C (tgt := 36) dX5_look_16 (by decide) (fun hc => ?_) (fun hc => ?_)
    · replace h := h.1 hc
      exact v_vret C dX5_look_36 hret hlk h
    · replace h := h.2 hc
      refine v_aload_n C dX5_look_19 rfl 1 rfl ?_
      refine v_aload_n C dX5_look_20 rfl 0 rfl ?_
      refine v_iload_n C dX5_look_21 rfl 3 rfl ?_
      refine k_X5_blockAt C k x3 hk h mM_X5_44 ⟨Nat.le_of_ble_eq_true rfl, Nat.le_of_ble_eq_true rfl⟩ (Nat.le_of_ble_eq_true rfl) dX5_look_22 (fun ror6 σ5 h => ?_)
      obtain ⟨r6, rfl, hk7, h⟩ := h
      refine v_re ?_
      refine v_iload_n C dX5_look_25 rfl 2 rfl ?_
      refine k_X3_absorb C o1 r6 a2 ho1 hk7 h mM_X5_52 ⟨Nat.le_of_ble_eq_true rfl, Nat.le_of_ble_eq_true rfl⟩ (Nat.le_of_ble_eq_true rfl) dX5_look_26 (fun r9 σ8 h => ?_)
      refine v_pop C dX5_look_29 rfl ?_
      refine v_iinc C [(3, .int (x3 + 1)), (0, .ref (lad L k)), (1, .ref (lad L o1)), (2, .int a2)] dX5_look_30 3 rfl rfl (by decide) rfl ?_
      refine v_goto C (tgt := 11) dX5_look_33 (by decide) ?_
      refine v_sub [1, 2, 3, 0] rfl ?_
      exact ih _ _  h
def w_X5_look (k : Nat) (o1 : Nat) (a2 : Int32) (σ : Mem) (K : Mem → Prop) : Prop := (w_X5_blockAt k 0 σ (fun r2 σ1 => (w_X3_become o1 r2 σ1 (fun σ4 => (∃ n10, w_X5_look_11 k o1 a2 K  n10 1 σ4)))))
set_option maxHeartbeats 4000000 in
set_option maxRecDepth 100000 in
theorem c_X5_look (l : Launch) (L : Ly) (k : Nat) (o1 : Nat) (a2 : Int32) (σ : Mem) (K : Mem → Prop) (hk : kd k = 5) (ho1 : kd o1 = 3) (h : w_X5_look k o1 a2 σ K) (sz : Nat) : Met l yX5_look (.code yX5_look cX5_look 4 none :: wA) rm_X5_look (va_Pc [.ref (lad L k), .ref (lad L o1), .int a2] (mB L sz σ)) (va_Qv K (mE L) (mA L sz)) 0 0 (mA L sz) := by
  refine v_start (own := RX5) [(0, .ref (lad L k)), (1, .ref (lad L o1)), (2, .int a2)] (by decide) rfl (Nat.le_of_ble_eq_true rfl) rfl (fun p e s m args below meth c C hret hlk => ?_)
  unfold w_X5_look at h
  refine v_aload_n C dX5_look_0 rfl 1 rfl ?_
  refine v_aload_n C dX5_look_1 rfl 0 rfl ?_
  refine v_iconst C (v := 0) dX5_look_2 rfl ?_
  refine k_X5_blockAt C k 0 hk h mM_X5_44 ⟨Nat.le_of_ble_eq_true rfl, Nat.le_of_ble_eq_true rfl⟩ (Nat.le_of_ble_eq_true rfl) dX5_look_3 (fun ror2 σ1 h => ?_)
  obtain ⟨r2, rfl, hk3, h⟩ := h
  refine v_re ?_
  refine k_X3_become C o1 r2 ho1 hk3 h mM_X5_48 ⟨Nat.le_of_ble_eq_true rfl, Nat.le_of_ble_eq_true rfl⟩ (Nat.le_of_ble_eq_true rfl) dX5_look_6 (fun σ4 h => ?_)
  refine v_iconst C (v := 1) dX5_look_9 rfl ?_
  refine v_istore_n C [(3, .int 1), (0, .ref (lad L k)), (1, .ref (lad L o1)), (2, .int a2)] dX5_look_10 rfl (by decide) rfl ?_
  obtain ⟨n10, h⟩ := h
  refine v_sub [1, 2, 3, 0] rfl ?_
  exact b_X5_look_11 C hret hlk k o1 a2 hk ho1 K   n10 _ _  h
theorem hd_X5_look : yX5_look.cls ≠ "java/lang/invoke/MethodHandle" ∧ yX5_look.cls ≠ "java/lang/invoke/VarHandle" ∧ (parseMethodDescriptor yX5_look.desc).map (fun d => d.parameters.length) = some 2 := by decide +kernel
theorem k_X5_look {p : Program} {l : Launch} {e : Env} {R : Room} {s : State} {m : MethodId} {args : Array Value} {below : List Frame} {meth : Method} {c : Code} {nL cells slots : Nat} {Q : State → Prop} {A : Nat → Prop} {L : Ly} {own : String} {cc : ByteArray} {σ : Mem} {pc idx : Nat} {lv : List (Nat × Value)} {st : List Value} {K : Mem → Prop} (C : Cx p R s m args meth c own cc nL cells slots A L) (k : Nat) (o1 : Nat) (a2 : Int32) (hk : kd k = 5) (ho1 : kd o1 = 3) (h : w_X5_look k o1 a2 σ K) (hml : Cond.methodLink own idx yX5_look ∈ wA) (hR : rm_X5_look.frames + 1 ≤ R.frames ∧ 8 + (4 + 11) + rm_X5_look.locals ≤ R.locals) (hsum : (st.map fun v => v.category).sum ≤ 8) (d : decode cc pc = .ok (.invokevirtual idx, 3)) (kk : ∀ σ1, K σ1 → V p l e R s m args below meth c nL cells slots Q A L σ1 (pc + 3) lv st) : V p l e R s m args below meth c nL cells slots Q A L σ pc lv (.int a2 :: .ref (lad L o1) :: .ref (lad L k) :: st) := v_callVv C [.ref (lad L o1), .int a2] (fun sz => c_X5_look l L k o1 a2 σ _ hk ho1 h sz) mC_X5_look mZ_X5 hd_X5_look mI_X5_look mS_X5_look rfl rfl (c0 := 5) (ci := 5) (by decide) rfl rfl rfl hk hml hR rfl hsum d kk
