/-! THE LAW: its 25 cases. -/
def cof (x : Int32) : Int32 := (x.toUInt32 % 65536).toInt32
theorem cof_c (x : Int32) : isCh (cof x) := by
  have e : cof x = nI ((x.toUInt32 % 65536).toNat) := by
    unfold cof nI
    exact congrArg UInt32.toInt32 (UInt32.ofNat_toNat (x := x.toUInt32 % 65536)).symm
  have hlt : (x.toUInt32 % 65536).toNat < 65536 := by
    rw [UInt32.toNat_mod]
    exact Nat.mod_lt _ (by decide)
  unfold isCh
  rw [e, nI_toInt (by omega)]
  omega
theorem cof_n (x : Int32) : vp_nar .char (cof x) = cof x := by
  rw [vp_nar_char]
  unfold cof
  have h : (x.toUInt32 % 65536).toUInt16.toUInt32 = x.toUInt32 % 65536 := by
    apply UInt32.toNat_inj.mp
    simp
  exact congrArg UInt32.toInt32 h
abbrev lw0 (L : Ly) (b : Nat) (i : Int32) : List (Nat × Value) := [(3, .int i), (2, .ref (lad L 306)), (1, .ref (lad L 299)), (0, .ref b)]
section LL
variable {p : Program} {l : Launch} {e : Env} {R : Room} {s : State} {m : MethodId} {args : Array Value} {below : List Frame} {meth : Method} {c : Code} {nL cells slots : Nat} {Q : State → Prop} {A : Nat → Prop} {L : Ly} {own : String} {cc : ByteArray} {σ : Mem} {pc : Nat} {lv lv' : List (Nat × Value)} {st : List Value} {b N : Nat} {xs : Nat → Int32}
theorem l_sld (C : Cx p R s m args meth c own cc nL cells slots A L) (hX : va_X b N xs s s.heap) (hbl : b < s.heap.size) (hbA : ¬ A b) {x : Int32} (hin : vp_in x N) (d : decode cc pc = .ok (.iaload, 1)) (k : V p l e R s m args below meth c nL cells slots Q A L σ (pc + 1) lv (.int (xs x.toNatClampNeg) :: st)) : V p l e R s m args below meth c nL cells slots Q A L σ pc lv (.int x :: .ref b :: st) := fun H locs ls hP hS hl => va_sld C.1 C.2.1 hX hbl hbA hS hin d (k H locs ls hP hS hl)
theorem l_slen (C : Cx p R s m args meth c own cc nL cells slots A L) (hX : va_X b N xs s s.heap) (hbl : b < s.heap.size) (hbA : ¬ A b) (d : decode cc pc = .ok (.arraylength, 1)) (k : V p l e R s m args below meth c nL cells slots Q A L σ (pc + 1) lv (.int (Int32.ofNat N) :: st)) : V p l e R s m args below meth c nL cells slots Q A L σ pc lv (.ref b :: st) := fun H locs ls hP hS hl => va_slen C.1 C.2.1 hX hbl hbA hS d (k H locs ls hP hS hl)
set_option maxHeartbeats 4000000 in
set_option maxRecDepth 100000 in
theorem lc_arrive (C : Cx p room_1 s m args meth c RL cL_law 4 cells slots A L) (hX : va_X b N xs s s.heap) (hbl : b < s.heap.size) (hbA : ¬ A b) {i : Int32} (h1 : vp_in (i + 1) N) (h2 : vp_in (i + 2) N) (h3 : vp_in (i + 3) N) (hi : Inv σ) (kk : ∀ σ2, Inv σ2 → V p l e room_1 s m args below meth c 4 cells slots Q A L σ2 933 (lw0 L b i) []) : V p l e room_1 s m args below meth c 4 cells slots Q A L σ 148 (lw0 L b i) [] := by
  refine v_aload_n C dL_law_148 rfl 2 rfl ?_
  refine v_aload_n C dL_law_149 rfl 3 rfl ?_
  refine v_iload_n C dL_law_150 rfl 0 rfl ?_
  refine v_iconst C (v := 1) dL_law_151 rfl ?_
  refine v_iadd C dL_law_152 ?_
  refine l_sld C hX hbl hbA h1 dL_law_153 ?_
  refine v_aload_n C dL_law_154 rfl 3 rfl ?_
  refine v_iload_n C dL_law_155 rfl 0 rfl ?_
  refine v_iconst C (v := 2) dL_law_156 rfl ?_
  refine v_iadd C dL_law_157 ?_
  refine l_sld C hX hbl hbA h2 dL_law_158 ?_
  refine v_i2c C dL_law_159 ?_
  refine v_aload_n C dL_law_160 rfl 3 rfl ?_
  refine v_iload_n C dL_law_161 rfl 0 rfl ?_
  refine v_iconst C (v := 3) dL_law_162 rfl ?_
  refine v_iadd C dL_law_163 ?_
  refine l_sld C hX hbl hbA h3 dL_law_164 ?_
  refine k_X6_arrive C (xs (i + 1).toNatClampNeg) (cof (xs (i + 2).toNatClampNeg)) (xs (i + 3).toNatClampNeg) (x_arrive (xs (i + 1).toNatClampNeg) (cof (xs (i + 2).toNatClampNeg)) (xs (i + 3).toNatClampNeg) hi) mM_L_13 ⟨Nat.le_of_ble_eq_true rfl, Nat.le_of_ble_eq_true rfl⟩ (Nat.le_of_ble_eq_true rfl) dL_law_165 (fun r1 σ1 h => ?_)
  refine v_aload_n C dL_law_168 rfl 1 rfl ?_
  refine v_aload_n C dL_law_169 rfl 3 rfl ?_
  refine v_iload_n C dL_law_170 rfl 0 rfl ?_
  refine v_iconst C (v := 1) dL_law_171 rfl ?_
  refine v_iadd C dL_law_172 ?_
  refine l_sld C hX hbl hbA h1 dL_law_173 ?_
  refine v_aload_n C dL_law_174 rfl 3 rfl ?_
  refine v_iload_n C dL_law_175 rfl 0 rfl ?_
  refine v_iconst C (v := 2) dL_law_176 rfl ?_
  refine v_iadd C dL_law_177 ?_
  refine l_sld C hX hbl hbA h2 dL_law_178 ?_
  refine v_i2c C dL_law_179 ?_
  refine v_aload_n C dL_law_180 rfl 3 rfl ?_
  refine v_iload_n C dL_law_181 rfl 0 rfl ?_
  refine v_iconst C (v := 3) dL_law_182 rfl ?_
  refine v_iadd C dL_law_183 ?_
  refine l_sld C hX hbl hbA h3 dL_law_184 ?_
  refine k_X7_arrive C (xs (i + 1).toNatClampNeg) (cof (xs (i + 2).toNatClampNeg)) (xs (i + 3).toNatClampNeg) h mM_L_17 ⟨Nat.le_of_ble_eq_true rfl, Nat.le_of_ble_eq_true rfl⟩ (Nat.le_of_ble_eq_true rfl) dL_law_185 (fun r2 σ2 h => ?_)
  exact v_icmp_eq C (tgt := 933) dL_law_188 (by decide) (fun _ => kk _ h.2) (fun q => absurd h.1 q)
set_option maxHeartbeats 4000000 in
set_option maxRecDepth 100000 in
theorem lc_feed (C : Cx p room_1 s m args meth c RL cL_law 4 cells slots A L) (hX : va_X b N xs s s.heap) (hbl : b < s.heap.size) (hbA : ¬ A b) {i : Int32} (h1 : vp_in (i + 1) N) (h2 : vp_in (i + 2) N) (h3 : vp_in (i + 3) N) (hi : Inv σ) (kk : ∀ σ2, Inv σ2 → V p l e room_1 s m args below meth c 4 cells slots Q A L σ2 933 (lw0 L b i) []) : V p l e room_1 s m args below meth c 4 cells slots Q A L σ 193 (lw0 L b i) [] := by
  refine v_aload_n C dL_law_193 rfl 2 rfl ?_
  refine v_aload_n C dL_law_194 rfl 3 rfl ?_
  refine v_iload_n C dL_law_195 rfl 0 rfl ?_
  refine v_iconst C (v := 1) dL_law_196 rfl ?_
  refine v_iadd C dL_law_197 ?_
  refine l_sld C hX hbl hbA h1 dL_law_198 ?_
  refine k_X6_feed C (xs (i + 1).toNatClampNeg) (x_feed (xs (i + 1).toNatClampNeg) hi) mM_L_18 ⟨Nat.le_of_ble_eq_true rfl, Nat.le_of_ble_eq_true rfl⟩ (Nat.le_of_ble_eq_true rfl) dL_law_199 (fun r1 σ1 h => ?_)
  refine v_aload_n C dL_law_202 rfl 1 rfl ?_
  refine v_aload_n C dL_law_203 rfl 3 rfl ?_
  refine v_iload_n C dL_law_204 rfl 0 rfl ?_
  refine v_iconst C (v := 1) dL_law_205 rfl ?_
  refine v_iadd C dL_law_206 ?_
  refine l_sld C hX hbl hbA h1 dL_law_207 ?_
  refine k_X7_feed C (xs (i + 1).toNatClampNeg) h mM_L_22 ⟨Nat.le_of_ble_eq_true rfl, Nat.le_of_ble_eq_true rfl⟩ (Nat.le_of_ble_eq_true rfl) dL_law_208 (fun r2 σ2 h => ?_)
  exact v_icmp_eq C (tgt := 933) dL_law_211 (by decide) (fun _ => kk _ h.2) (fun q => absurd h.1 q)
set_option maxHeartbeats 4000000 in
set_option maxRecDepth 100000 in
theorem lc_flow (C : Cx p room_1 s m args meth c RL cL_law 4 cells slots A L) (hX : va_X b N xs s s.heap) (hbl : b < s.heap.size) (hbA : ¬ A b) {i : Int32} (h1 : vp_in (i + 1) N) (h2 : vp_in (i + 2) N) (h3 : vp_in (i + 3) N) (hi : Inv σ) (kk : ∀ σ2, Inv σ2 → V p l e room_1 s m args below meth c 4 cells slots Q A L σ2 933 (lw0 L b i) []) : V p l e room_1 s m args below meth c 4 cells slots Q A L σ 216 (lw0 L b i) [] := by
  refine v_aload_n C dL_law_216 rfl 2 rfl ?_
  refine v_aload_n C dL_law_217 rfl 3 rfl ?_
  refine v_iload_n C dL_law_218 rfl 0 rfl ?_
  refine v_iconst C (v := 1) dL_law_219 rfl ?_
  refine v_iadd C dL_law_220 ?_
  refine l_sld C hX hbl hbA h1 dL_law_221 ?_
  refine v_i2c C dL_law_222 ?_
  refine v_aload_n C dL_law_223 rfl 3 rfl ?_
  refine v_iload_n C dL_law_224 rfl 0 rfl ?_
  refine v_iconst C (v := 2) dL_law_225 rfl ?_
  refine v_iadd C dL_law_226 ?_
  refine l_sld C hX hbl hbA h2 dL_law_227 ?_
  refine k_X6_flow C (cof (xs (i + 1).toNatClampNeg)) (xs (i + 2).toNatClampNeg) (x_flow (cof (xs (i + 1).toNatClampNeg)) (xs (i + 2).toNatClampNeg) hi) mM_L_23 ⟨Nat.le_of_ble_eq_true rfl, Nat.le_of_ble_eq_true rfl⟩ (Nat.le_of_ble_eq_true rfl) dL_law_228 (fun r1 σ1 h => ?_)
  refine v_aload_n C dL_law_231 rfl 1 rfl ?_
  refine v_aload_n C dL_law_232 rfl 3 rfl ?_
  refine v_iload_n C dL_law_233 rfl 0 rfl ?_
  refine v_iconst C (v := 1) dL_law_234 rfl ?_
  refine v_iadd C dL_law_235 ?_
  refine l_sld C hX hbl hbA h1 dL_law_236 ?_
  refine v_i2c C dL_law_237 ?_
  refine v_aload_n C dL_law_238 rfl 3 rfl ?_
  refine v_iload_n C dL_law_239 rfl 0 rfl ?_
  refine v_iconst C (v := 2) dL_law_240 rfl ?_
  refine v_iadd C dL_law_241 ?_
  refine l_sld C hX hbl hbA h2 dL_law_242 ?_
  refine k_X7_flow C (cof (xs (i + 1).toNatClampNeg)) (xs (i + 2).toNatClampNeg) h mM_L_27 ⟨Nat.le_of_ble_eq_true rfl, Nat.le_of_ble_eq_true rfl⟩ (Nat.le_of_ble_eq_true rfl) dL_law_243 (fun r2 σ2 h => ?_)
  exact v_icmp_eq C (tgt := 933) dL_law_246 (by decide) (fun _ => kk _ h.2) (fun q => absurd h.1 q)
set_option maxHeartbeats 4000000 in
set_option maxRecDepth 100000 in
theorem lc_flowAll (C : Cx p room_1 s m args meth c RL cL_law 4 cells slots A L) (hX : va_X b N xs s s.heap) (hbl : b < s.heap.size) (hbA : ¬ A b) {i : Int32} (h1 : vp_in (i + 1) N) (h2 : vp_in (i + 2) N) (h3 : vp_in (i + 3) N) (hi : Inv σ) (kk : ∀ σ2, Inv σ2 → V p l e room_1 s m args below meth c 4 cells slots Q A L σ2 933 (lw0 L b i) []) : V p l e room_1 s m args below meth c 4 cells slots Q A L σ 251 (lw0 L b i) [] := by
  refine v_aload_n C dL_law_251 rfl 2 rfl ?_
  refine k_X6_flowAll C  (x_flowAll hi) mM_L_28 ⟨Nat.le_of_ble_eq_true rfl, Nat.le_of_ble_eq_true rfl⟩ (Nat.le_of_ble_eq_true rfl) dL_law_252 (fun r1 σ1 h => ?_)
  refine v_aload_n C dL_law_255 rfl 1 rfl ?_
  refine k_X7_flowAll C  h mM_L_32 ⟨Nat.le_of_ble_eq_true rfl, Nat.le_of_ble_eq_true rfl⟩ (Nat.le_of_ble_eq_true rfl) dL_law_256 (fun r2 σ2 h => ?_)
  exact v_icmp_eq C (tgt := 933) dL_law_259 (by decide) (fun _ => kk _ h.2) (fun q => absurd h.1 q)
set_option maxHeartbeats 4000000 in
set_option maxRecDepth 100000 in
theorem lc_merge (C : Cx p room_1 s m args meth c RL cL_law 4 cells slots A L) (hX : va_X b N xs s s.heap) (hbl : b < s.heap.size) (hbA : ¬ A b) {i : Int32} (h1 : vp_in (i + 1) N) (h2 : vp_in (i + 2) N) (h3 : vp_in (i + 3) N) (hi : Inv σ) (kk : ∀ σ2, Inv σ2 → V p l e room_1 s m args below meth c 4 cells slots Q A L σ2 933 (lw0 L b i) []) : V p l e room_1 s m args below meth c 4 cells slots Q A L σ 264 (lw0 L b i) [] := by
  refine v_aload_n C dL_law_264 rfl 2 rfl ?_
  refine v_aload_n C dL_law_265 rfl 3 rfl ?_
  refine v_iload_n C dL_law_266 rfl 0 rfl ?_
  refine v_iconst C (v := 1) dL_law_267 rfl ?_
  refine v_iadd C dL_law_268 ?_
  refine l_sld C hX hbl hbA h1 dL_law_269 ?_
  refine v_aload_n C dL_law_270 rfl 3 rfl ?_
  refine v_iload_n C dL_law_271 rfl 0 rfl ?_
  refine v_iconst C (v := 2) dL_law_272 rfl ?_
  refine v_iadd C dL_law_273 ?_
  refine l_sld C hX hbl hbA h2 dL_law_274 ?_
  refine k_X6_merge C (xs (i + 1).toNatClampNeg) (xs (i + 2).toNatClampNeg) (x_merge (xs (i + 1).toNatClampNeg) (xs (i + 2).toNatClampNeg) hi) mM_L_33 ⟨Nat.le_of_ble_eq_true rfl, Nat.le_of_ble_eq_true rfl⟩ (Nat.le_of_ble_eq_true rfl) dL_law_275 (fun r1 σ1 h => ?_)
  refine v_aload_n C dL_law_278 rfl 1 rfl ?_
  refine v_aload_n C dL_law_279 rfl 3 rfl ?_
  refine v_iload_n C dL_law_280 rfl 0 rfl ?_
  refine v_iconst C (v := 1) dL_law_281 rfl ?_
  refine v_iadd C dL_law_282 ?_
  refine l_sld C hX hbl hbA h1 dL_law_283 ?_
  refine v_aload_n C dL_law_284 rfl 3 rfl ?_
  refine v_iload_n C dL_law_285 rfl 0 rfl ?_
  refine v_iconst C (v := 2) dL_law_286 rfl ?_
  refine v_iadd C dL_law_287 ?_
  refine l_sld C hX hbl hbA h2 dL_law_288 ?_
  refine k_X7_merge C (xs (i + 1).toNatClampNeg) (xs (i + 2).toNatClampNeg) h mM_L_37 ⟨Nat.le_of_ble_eq_true rfl, Nat.le_of_ble_eq_true rfl⟩ (Nat.le_of_ble_eq_true rfl) dL_law_289 (fun r2 σ2 h => ?_)
  exact v_icmp_eq C (tgt := 933) dL_law_292 (by decide) (fun _ => kk _ h.2) (fun q => absurd h.1 q)
set_option maxHeartbeats 4000000 in
set_option maxRecDepth 100000 in
theorem lc_copy (C : Cx p room_1 s m args meth c RL cL_law 4 cells slots A L) (hX : va_X b N xs s s.heap) (hbl : b < s.heap.size) (hbA : ¬ A b) {i : Int32} (h1 : vp_in (i + 1) N) (h2 : vp_in (i + 2) N) (h3 : vp_in (i + 3) N) (hi : Inv σ) (kk : ∀ σ2, Inv σ2 → V p l e room_1 s m args below meth c 4 cells slots Q A L σ2 933 (lw0 L b i) []) : V p l e room_1 s m args below meth c 4 cells slots Q A L σ 297 (lw0 L b i) [] := by
  refine v_aload_n C dL_law_297 rfl 2 rfl ?_
  refine v_aload_n C dL_law_298 rfl 3 rfl ?_
  refine v_iload_n C dL_law_299 rfl 0 rfl ?_
  refine v_iconst C (v := 1) dL_law_300 rfl ?_
  refine v_iadd C dL_law_301 ?_
  refine l_sld C hX hbl hbA h1 dL_law_302 ?_
  refine v_aload_n C dL_law_303 rfl 3 rfl ?_
  refine v_iload_n C dL_law_304 rfl 0 rfl ?_
  refine v_iconst C (v := 2) dL_law_305 rfl ?_
  refine v_iadd C dL_law_306 ?_
  refine l_sld C hX hbl hbA h2 dL_law_307 ?_
  refine k_X6_copy C (xs (i + 1).toNatClampNeg) (xs (i + 2).toNatClampNeg) (x_copy (xs (i + 1).toNatClampNeg) (xs (i + 2).toNatClampNeg) hi) mM_L_38 ⟨Nat.le_of_ble_eq_true rfl, Nat.le_of_ble_eq_true rfl⟩ (Nat.le_of_ble_eq_true rfl) dL_law_308 (fun r1 σ1 h => ?_)
  refine v_aload_n C dL_law_311 rfl 1 rfl ?_
  refine v_aload_n C dL_law_312 rfl 3 rfl ?_
  refine v_iload_n C dL_law_313 rfl 0 rfl ?_
  refine v_iconst C (v := 1) dL_law_314 rfl ?_
  refine v_iadd C dL_law_315 ?_
  refine l_sld C hX hbl hbA h1 dL_law_316 ?_
  refine v_aload_n C dL_law_317 rfl 3 rfl ?_
  refine v_iload_n C dL_law_318 rfl 0 rfl ?_
  refine v_iconst C (v := 2) dL_law_319 rfl ?_
  refine v_iadd C dL_law_320 ?_
  refine l_sld C hX hbl hbA h2 dL_law_321 ?_
  refine k_X7_copy C (xs (i + 1).toNatClampNeg) (xs (i + 2).toNatClampNeg) h mM_L_41 ⟨Nat.le_of_ble_eq_true rfl, Nat.le_of_ble_eq_true rfl⟩ (Nat.le_of_ble_eq_true rfl) dL_law_322 (fun r2 σ2 h => ?_)
  exact v_icmp_eq C (tgt := 933) dL_law_325 (by decide) (fun _ => kk _ h.2) (fun q => absurd h.1 q)
set_option maxHeartbeats 4000000 in
set_option maxRecDepth 100000 in
theorem lc_setSize (C : Cx p room_1 s m args meth c RL cL_law 4 cells slots A L) (hX : va_X b N xs s s.heap) (hbl : b < s.heap.size) (hbA : ¬ A b) {i : Int32} (h1 : vp_in (i + 1) N) (h2 : vp_in (i + 2) N) (h3 : vp_in (i + 3) N) (hi : Inv σ) (kk : ∀ σ2, Inv σ2 → V p l e room_1 s m args below meth c 4 cells slots Q A L σ2 933 (lw0 L b i) []) : V p l e room_1 s m args below meth c 4 cells slots Q A L σ 330 (lw0 L b i) [] := by
  refine v_aload_n C dL_law_330 rfl 2 rfl ?_
  refine v_aload_n C dL_law_331 rfl 3 rfl ?_
  refine v_iload_n C dL_law_332 rfl 0 rfl ?_
  refine v_iconst C (v := 1) dL_law_333 rfl ?_
  refine v_iadd C dL_law_334 ?_
  refine l_sld C hX hbl hbA h1 dL_law_335 ?_
  refine v_aload_n C dL_law_336 rfl 3 rfl ?_
  refine v_iload_n C dL_law_337 rfl 0 rfl ?_
  refine v_iconst C (v := 2) dL_law_338 rfl ?_
  refine v_iadd C dL_law_339 ?_
  refine l_sld C hX hbl hbA h2 dL_law_340 ?_
  refine k_X6_setSize C (xs (i + 1).toNatClampNeg) (xs (i + 2).toNatClampNeg) (x_setSize (xs (i + 1).toNatClampNeg) (xs (i + 2).toNatClampNeg) hi) mM_L_42 ⟨Nat.le_of_ble_eq_true rfl, Nat.le_of_ble_eq_true rfl⟩ (Nat.le_of_ble_eq_true rfl) dL_law_341 (fun r1 σ1 h => ?_)
  refine v_aload_n C dL_law_344 rfl 1 rfl ?_
  refine v_aload_n C dL_law_345 rfl 3 rfl ?_
  refine v_iload_n C dL_law_346 rfl 0 rfl ?_
  refine v_iconst C (v := 1) dL_law_347 rfl ?_
  refine v_iadd C dL_law_348 ?_
  refine l_sld C hX hbl hbA h1 dL_law_349 ?_
  refine v_aload_n C dL_law_350 rfl 3 rfl ?_
  refine v_iload_n C dL_law_351 rfl 0 rfl ?_
  refine v_iconst C (v := 2) dL_law_352 rfl ?_
  refine v_iadd C dL_law_353 ?_
  refine l_sld C hX hbl hbA h2 dL_law_354 ?_
  refine k_X7_setSize C (xs (i + 1).toNatClampNeg) (xs (i + 2).toNatClampNeg) h mM_L_45 ⟨Nat.le_of_ble_eq_true rfl, Nat.le_of_ble_eq_true rfl⟩ (Nat.le_of_ble_eq_true rfl) dL_law_355 (fun r2 σ2 h => ?_)
  exact v_icmp_eq C (tgt := 933) dL_law_358 (by decide) (fun _ => kk _ h.2) (fun q => absurd h.1 q)
set_option maxHeartbeats 4000000 in
set_option maxRecDepth 100000 in
theorem lc_clear (C : Cx p room_1 s m args meth c RL cL_law 4 cells slots A L) (hX : va_X b N xs s s.heap) (hbl : b < s.heap.size) (hbA : ¬ A b) {i : Int32} (h1 : vp_in (i + 1) N) (h2 : vp_in (i + 2) N) (h3 : vp_in (i + 3) N) (hi : Inv σ) (kk : ∀ σ2, Inv σ2 → V p l e room_1 s m args below meth c 4 cells slots Q A L σ2 933 (lw0 L b i) []) : V p l e room_1 s m args below meth c 4 cells slots Q A L σ 363 (lw0 L b i) [] := by
  refine v_aload_n C dL_law_363 rfl 2 rfl ?_
  refine v_aload_n C dL_law_364 rfl 3 rfl ?_
  refine v_iload_n C dL_law_365 rfl 0 rfl ?_
  refine v_iconst C (v := 1) dL_law_366 rfl ?_
  refine v_iadd C dL_law_367 ?_
  refine l_sld C hX hbl hbA h1 dL_law_368 ?_
  refine k_X6_clear C (xs (i + 1).toNatClampNeg) (x_clear (xs (i + 1).toNatClampNeg) hi) mM_L_46 ⟨Nat.le_of_ble_eq_true rfl, Nat.le_of_ble_eq_true rfl⟩ (Nat.le_of_ble_eq_true rfl) dL_law_369 (fun r1 σ1 h => ?_)
  refine v_aload_n C dL_law_372 rfl 1 rfl ?_
  refine v_aload_n C dL_law_373 rfl 3 rfl ?_
  refine v_iload_n C dL_law_374 rfl 0 rfl ?_
  refine v_iconst C (v := 1) dL_law_375 rfl ?_
  refine v_iadd C dL_law_376 ?_
  refine l_sld C hX hbl hbA h1 dL_law_377 ?_
  refine k_X7_clear C (xs (i + 1).toNatClampNeg) h mM_L_49 ⟨Nat.le_of_ble_eq_true rfl, Nat.le_of_ble_eq_true rfl⟩ (Nat.le_of_ble_eq_true rfl) dL_law_378 (fun r2 σ2 h => ?_)
  exact v_icmp_eq C (tgt := 933) dL_law_381 (by decide) (fun _ => kk _ h.2) (fun q => absurd h.1 q)
set_option maxHeartbeats 4000000 in
set_option maxRecDepth 100000 in
theorem lc_type (C : Cx p room_1 s m args meth c RL cL_law 4 cells slots A L) (hX : va_X b N xs s s.heap) (hbl : b < s.heap.size) (hbA : ¬ A b) {i : Int32} (h1 : vp_in (i + 1) N) (h2 : vp_in (i + 2) N) (h3 : vp_in (i + 3) N) (hi : Inv σ) (kk : ∀ σ2, Inv σ2 → V p l e room_1 s m args below meth c 4 cells slots Q A L σ2 933 (lw0 L b i) []) : V p l e room_1 s m args below meth c 4 cells slots Q A L σ 386 (lw0 L b i) [] := by
  refine v_aload_n C dL_law_386 rfl 2 rfl ?_
  refine v_aload_n C dL_law_387 rfl 3 rfl ?_
  refine v_iload_n C dL_law_388 rfl 0 rfl ?_
  refine v_iconst C (v := 1) dL_law_389 rfl ?_
  refine v_iadd C dL_law_390 ?_
  refine l_sld C hX hbl hbA h1 dL_law_391 ?_
  refine v_i2c C dL_law_392 ?_
  refine k_X6_type C (cof (xs (i + 1).toNatClampNeg)) (x_type (cof_n _) (cof_c _) hi) mM_L_50 ⟨Nat.le_of_ble_eq_true rfl, Nat.le_of_ble_eq_true rfl⟩ (Nat.le_of_ble_eq_true rfl) dL_law_393 (fun r1 σ1 h => ?_)
  refine v_aload_n C dL_law_396 rfl 1 rfl ?_
  refine v_aload_n C dL_law_397 rfl 3 rfl ?_
  refine v_iload_n C dL_law_398 rfl 0 rfl ?_
  refine v_iconst C (v := 1) dL_law_399 rfl ?_
  refine v_iadd C dL_law_400 ?_
  refine l_sld C hX hbl hbA h1 dL_law_401 ?_
  refine v_i2c C dL_law_402 ?_
  refine k_X7_type C (cof (xs (i + 1).toNatClampNeg)) h mM_L_54 ⟨Nat.le_of_ble_eq_true rfl, Nat.le_of_ble_eq_true rfl⟩ (Nat.le_of_ble_eq_true rfl) dL_law_403 (fun r2 σ2 h => ?_)
  exact v_icmp_eq C (tgt := 933) dL_law_406 (by decide) (fun _ => kk _ h.2) (fun q => absurd h.1 q)
set_option maxHeartbeats 4000000 in
set_option maxRecDepth 100000 in
theorem lc_clearText (C : Cx p room_1 s m args meth c RL cL_law 4 cells slots A L) (hX : va_X b N xs s s.heap) (hbl : b < s.heap.size) (hbA : ¬ A b) {i : Int32} (h1 : vp_in (i + 1) N) (h2 : vp_in (i + 2) N) (h3 : vp_in (i + 3) N) (hi : Inv σ) (kk : ∀ σ2, Inv σ2 → V p l e room_1 s m args below meth c 4 cells slots Q A L σ2 933 (lw0 L b i) []) : V p l e room_1 s m args below meth c 4 cells slots Q A L σ 411 (lw0 L b i) [] := by
  refine v_aload_n C dL_law_411 rfl 2 rfl ?_
  refine k_X6_clearText C  (x_clearText hi) mM_L_55 ⟨Nat.le_of_ble_eq_true rfl, Nat.le_of_ble_eq_true rfl⟩ (Nat.le_of_ble_eq_true rfl) dL_law_412 (fun r1 σ1 h => ?_)
  refine v_aload_n C dL_law_415 rfl 1 rfl ?_
  refine k_X7_clearText C  h mM_L_58 ⟨Nat.le_of_ble_eq_true rfl, Nat.le_of_ble_eq_true rfl⟩ (Nat.le_of_ble_eq_true rfl) dL_law_416 (fun r2 σ2 h => ?_)
  exact v_icmp_eq C (tgt := 933) dL_law_419 (by decide) (fun _ => kk _ h.2) (fun q => absurd h.1 q)
set_option maxHeartbeats 4000000 in
set_option maxRecDepth 100000 in
theorem lc_perform (C : Cx p room_1 s m args meth c RL cL_law 4 cells slots A L) (hX : va_X b N xs s s.heap) (hbl : b < s.heap.size) (hbA : ¬ A b) {i : Int32} (h1 : vp_in (i + 1) N) (h2 : vp_in (i + 2) N) (h3 : vp_in (i + 3) N) (hi : Inv σ) (kk : ∀ σ2, Inv σ2 → V p l e room_1 s m args below meth c 4 cells slots Q A L σ2 933 (lw0 L b i) []) : V p l e room_1 s m args below meth c 4 cells slots Q A L σ 424 (lw0 L b i) [] := by
  refine v_aload_n C dL_law_424 rfl 2 rfl ?_
  refine k_X6_perform C  (x_perform hi) mM_L_59 ⟨Nat.le_of_ble_eq_true rfl, Nat.le_of_ble_eq_true rfl⟩ (Nat.le_of_ble_eq_true rfl) dL_law_425 (fun r1 σ1 h => ?_)
  refine v_aload_n C dL_law_428 rfl 1 rfl ?_
  refine k_X7_perform C  h mM_L_62 ⟨Nat.le_of_ble_eq_true rfl, Nat.le_of_ble_eq_true rfl⟩ (Nat.le_of_ble_eq_true rfl) dL_law_429 (fun r2 σ2 h => ?_)
  exact v_icmp_eq C (tgt := 933) dL_law_432 (by decide) (fun _ => kk _ h.2) (fun q => absurd h.1 q)
set_option maxHeartbeats 4000000 in
set_option maxRecDepth 100000 in
theorem lc_undo (C : Cx p room_1 s m args meth c RL cL_law 4 cells slots A L) (hX : va_X b N xs s s.heap) (hbl : b < s.heap.size) (hbA : ¬ A b) {i : Int32} (h1 : vp_in (i + 1) N) (h2 : vp_in (i + 2) N) (h3 : vp_in (i + 3) N) (hi : Inv σ) (kk : ∀ σ2, Inv σ2 → V p l e room_1 s m args below meth c 4 cells slots Q A L σ2 933 (lw0 L b i) []) : V p l e room_1 s m args below meth c 4 cells slots Q A L σ 437 (lw0 L b i) [] := by
  refine v_aload_n C dL_law_437 rfl 2 rfl ?_
  refine k_X6_undo C  (x_undo hi) mM_L_63 ⟨Nat.le_of_ble_eq_true rfl, Nat.le_of_ble_eq_true rfl⟩ (Nat.le_of_ble_eq_true rfl) dL_law_438 (fun r1 σ1 h => ?_)
  refine v_aload_n C dL_law_441 rfl 1 rfl ?_
  refine k_X7_undo C  h mM_L_66 ⟨Nat.le_of_ble_eq_true rfl, Nat.le_of_ble_eq_true rfl⟩ (Nat.le_of_ble_eq_true rfl) dL_law_442 (fun r2 σ2 h => ?_)
  exact v_icmp_eq C (tgt := 933) dL_law_445 (by decide) (fun _ => kk _ h.2) (fun q => absurd h.1 q)
set_option maxHeartbeats 4000000 in
set_option maxRecDepth 100000 in
theorem lc_keep (C : Cx p room_1 s m args meth c RL cL_law 4 cells slots A L) (hX : va_X b N xs s s.heap) (hbl : b < s.heap.size) (hbA : ¬ A b) {i : Int32} (h1 : vp_in (i + 1) N) (h2 : vp_in (i + 2) N) (h3 : vp_in (i + 3) N) (hi : Inv σ) (kk : ∀ σ2, Inv σ2 → V p l e room_1 s m args below meth c 4 cells slots Q A L σ2 933 (lw0 L b i) []) : V p l e room_1 s m args below meth c 4 cells slots Q A L σ 450 (lw0 L b i) [] := by
  refine v_aload_n C dL_law_450 rfl 2 rfl ?_
  refine k_X6_keep C  (x_keep hi) mM_L_67 ⟨Nat.le_of_ble_eq_true rfl, Nat.le_of_ble_eq_true rfl⟩ (Nat.le_of_ble_eq_true rfl) dL_law_451 (fun r1 σ1 h => ?_)
  refine v_aload_n C dL_law_454 rfl 1 rfl ?_
  refine k_X7_keep C  h mM_L_70 ⟨Nat.le_of_ble_eq_true rfl, Nat.le_of_ble_eq_true rfl⟩ (Nat.le_of_ble_eq_true rfl) dL_law_455 (fun r2 σ2 h => ?_)
  exact v_icmp_eq C (tgt := 933) dL_law_458 (by decide) (fun _ => kk _ h.2) (fun q => absurd h.1 q)
set_option maxHeartbeats 4000000 in
set_option maxRecDepth 100000 in
theorem lc_restore (C : Cx p room_1 s m args meth c RL cL_law 4 cells slots A L) (hX : va_X b N xs s s.heap) (hbl : b < s.heap.size) (hbA : ¬ A b) {i : Int32} (h1 : vp_in (i + 1) N) (h2 : vp_in (i + 2) N) (h3 : vp_in (i + 3) N) (hi : Inv σ) (kk : ∀ σ2, Inv σ2 → V p l e room_1 s m args below meth c 4 cells slots Q A L σ2 933 (lw0 L b i) []) : V p l e room_1 s m args below meth c 4 cells slots Q A L σ 463 (lw0 L b i) [] := by
  refine v_aload_n C dL_law_463 rfl 2 rfl ?_
  refine k_X6_restore C  (x_restore hi) mM_L_71 ⟨Nat.le_of_ble_eq_true rfl, Nat.le_of_ble_eq_true rfl⟩ (Nat.le_of_ble_eq_true rfl) dL_law_464 (fun r1 σ1 h => ?_)
  refine v_aload_n C dL_law_467 rfl 1 rfl ?_
  refine k_X7_restore C  h mM_L_74 ⟨Nat.le_of_ble_eq_true rfl, Nat.le_of_ble_eq_true rfl⟩ (Nat.le_of_ble_eq_true rfl) dL_law_468 (fun r2 σ2 h => ?_)
  exact v_icmp_eq C (tgt := 933) dL_law_471 (by decide) (fun _ => kk _ h.2) (fun q => absurd h.1 q)
set_option maxHeartbeats 4000000 in
set_option maxRecDepth 100000 in
theorem lc_summary (C : Cx p room_1 s m args meth c RL cL_law 4 cells slots A L) (hX : va_X b N xs s s.heap) (hbl : b < s.heap.size) (hbA : ¬ A b) {i : Int32} (h1 : vp_in (i + 1) N) (h2 : vp_in (i + 2) N) (h3 : vp_in (i + 3) N) (hi : Inv σ) (kk : ∀ σ2, Inv σ2 → V p l e room_1 s m args below meth c 4 cells slots Q A L σ2 933 (lw0 L b i) []) : V p l e room_1 s m args below meth c 4 cells slots Q A L σ 476 (lw0 L b i) [] := by
  refine v_aload_n C dL_law_476 rfl 2 rfl ?_
  refine v_aload_n C dL_law_477 rfl 3 rfl ?_
  refine v_iload_n C dL_law_478 rfl 0 rfl ?_
  refine v_iconst C (v := 1) dL_law_479 rfl ?_
  refine v_iadd C dL_law_480 ?_
  refine l_sld C hX hbl hbA h1 dL_law_481 ?_
  refine v_aload_n C dL_law_482 rfl 3 rfl ?_
  refine v_iload_n C dL_law_483 rfl 0 rfl ?_
  refine v_iconst C (v := 2) dL_law_484 rfl ?_
  refine v_iadd C dL_law_485 ?_
  refine l_sld C hX hbl hbA h2 dL_law_486 ?_
  refine k_X6_summary C (xs (i + 1).toNatClampNeg) (xs (i + 2).toNatClampNeg) (x_summary (xs (i + 1).toNatClampNeg) (xs (i + 2).toNatClampNeg) hi) mM_L_75 ⟨Nat.le_of_ble_eq_true rfl, Nat.le_of_ble_eq_true rfl⟩ (Nat.le_of_ble_eq_true rfl) dL_law_487 (fun r1 σ1 h => ?_)
  refine v_aload_n C dL_law_490 rfl 1 rfl ?_
  refine v_aload_n C dL_law_491 rfl 3 rfl ?_
  refine v_iload_n C dL_law_492 rfl 0 rfl ?_
  refine v_iconst C (v := 1) dL_law_493 rfl ?_
  refine v_iadd C dL_law_494 ?_
  refine l_sld C hX hbl hbA h1 dL_law_495 ?_
  refine v_aload_n C dL_law_496 rfl 3 rfl ?_
  refine v_iload_n C dL_law_497 rfl 0 rfl ?_
  refine v_iconst C (v := 2) dL_law_498 rfl ?_
  refine v_iadd C dL_law_499 ?_
  refine l_sld C hX hbl hbA h2 dL_law_500 ?_
  refine k_X7_summary C (xs (i + 1).toNatClampNeg) (xs (i + 2).toNatClampNeg) h mM_L_78 ⟨Nat.le_of_ble_eq_true rfl, Nat.le_of_ble_eq_true rfl⟩ (Nat.le_of_ble_eq_true rfl) dL_law_501 (fun r2 σ2 h => ?_)
  exact v_icmp_eq C (tgt := 933) dL_law_504 (by decide) (fun _ => kk _ h.2) (fun q => absurd h.1 q)
set_option maxHeartbeats 4000000 in
set_option maxRecDepth 100000 in
theorem lc_bound (C : Cx p room_1 s m args meth c RL cL_law 4 cells slots A L) (hX : va_X b N xs s s.heap) (hbl : b < s.heap.size) (hbA : ¬ A b) {i : Int32} (h1 : vp_in (i + 1) N) (h2 : vp_in (i + 2) N) (h3 : vp_in (i + 3) N) (hi : Inv σ) (kk : ∀ σ2, Inv σ2 → V p l e room_1 s m args below meth c 4 cells slots Q A L σ2 933 (lw0 L b i) []) : V p l e room_1 s m args below meth c 4 cells slots Q A L σ 509 (lw0 L b i) [] := by
  refine v_aload_n C dL_law_509 rfl 2 rfl ?_
  refine v_aload_n C dL_law_510 rfl 3 rfl ?_
  refine v_iload_n C dL_law_511 rfl 0 rfl ?_
  refine v_iconst C (v := 1) dL_law_512 rfl ?_
  refine v_iadd C dL_law_513 ?_
  refine l_sld C hX hbl hbA h1 dL_law_514 ?_
  refine v_aload_n C dL_law_515 rfl 3 rfl ?_
  refine v_iload_n C dL_law_516 rfl 0 rfl ?_
  refine v_iconst C (v := 2) dL_law_517 rfl ?_
  refine v_iadd C dL_law_518 ?_
  refine l_sld C hX hbl hbA h2 dL_law_519 ?_
  refine v_i2c C dL_law_520 ?_
  refine v_aload_n C dL_law_521 rfl 3 rfl ?_
  refine v_iload_n C dL_law_522 rfl 0 rfl ?_
  refine v_iconst C (v := 3) dL_law_523 rfl ?_
  refine v_iadd C dL_law_524 ?_
  refine l_sld C hX hbl hbA h3 dL_law_525 ?_
  refine k_X6_bound C (xs (i + 1).toNatClampNeg) (cof (xs (i + 2).toNatClampNeg)) (xs (i + 3).toNatClampNeg) (x_bound (xs (i + 1).toNatClampNeg) (cof (xs (i + 2).toNatClampNeg)) (xs (i + 3).toNatClampNeg) hi) mM_L_79 ⟨Nat.le_of_ble_eq_true rfl, Nat.le_of_ble_eq_true rfl⟩ (Nat.le_of_ble_eq_true rfl) dL_law_526 (fun r1 σ1 h => ?_)
  refine v_aload_n C dL_law_529 rfl 1 rfl ?_
  refine v_aload_n C dL_law_530 rfl 3 rfl ?_
  refine v_iload_n C dL_law_531 rfl 0 rfl ?_
  refine v_iconst C (v := 1) dL_law_532 rfl ?_
  refine v_iadd C dL_law_533 ?_
  refine l_sld C hX hbl hbA h1 dL_law_534 ?_
  refine v_aload_n C dL_law_535 rfl 3 rfl ?_
  refine v_iload_n C dL_law_536 rfl 0 rfl ?_
  refine v_iconst C (v := 2) dL_law_537 rfl ?_
  refine v_iadd C dL_law_538 ?_
  refine l_sld C hX hbl hbA h2 dL_law_539 ?_
  refine v_i2c C dL_law_540 ?_
  refine v_aload_n C dL_law_541 rfl 3 rfl ?_
  refine v_iload_n C dL_law_542 rfl 0 rfl ?_
  refine v_iconst C (v := 3) dL_law_543 rfl ?_
  refine v_iadd C dL_law_544 ?_
  refine l_sld C hX hbl hbA h3 dL_law_545 ?_
  refine k_X7_bound C (xs (i + 1).toNatClampNeg) (cof (xs (i + 2).toNatClampNeg)) (xs (i + 3).toNatClampNeg) h mM_L_82 ⟨Nat.le_of_ble_eq_true rfl, Nat.le_of_ble_eq_true rfl⟩ (Nat.le_of_ble_eq_true rfl) dL_law_546 (fun r2 σ2 h => ?_)
  exact v_icmp_eq C (tgt := 933) dL_law_549 (by decide) (fun _ => kk _ h.2) (fun q => absurd h.1 q)
set_option maxHeartbeats 4000000 in
set_option maxRecDepth 100000 in
theorem lc_top (C : Cx p room_1 s m args meth c RL cL_law 4 cells slots A L) (hX : va_X b N xs s s.heap) (hbl : b < s.heap.size) (hbA : ¬ A b) {i : Int32} (h1 : vp_in (i + 1) N) (h2 : vp_in (i + 2) N) (h3 : vp_in (i + 3) N) (hi : Inv σ) (kk : ∀ σ2, Inv σ2 → V p l e room_1 s m args below meth c 4 cells slots Q A L σ2 933 (lw0 L b i) []) : V p l e room_1 s m args below meth c 4 cells slots Q A L σ 554 (lw0 L b i) [] := by
  refine v_aload_n C dL_law_554 rfl 2 rfl ?_
  refine v_aload_n C dL_law_555 rfl 3 rfl ?_
  refine v_iload_n C dL_law_556 rfl 0 rfl ?_
  refine v_iconst C (v := 1) dL_law_557 rfl ?_
  refine v_iadd C dL_law_558 ?_
  refine l_sld C hX hbl hbA h1 dL_law_559 ?_
  refine v_aload_n C dL_law_560 rfl 3 rfl ?_
  refine v_iload_n C dL_law_561 rfl 0 rfl ?_
  refine v_iconst C (v := 2) dL_law_562 rfl ?_
  refine v_iadd C dL_law_563 ?_
  refine l_sld C hX hbl hbA h2 dL_law_564 ?_
  refine v_aload_n C dL_law_565 rfl 3 rfl ?_
  refine v_iload_n C dL_law_566 rfl 0 rfl ?_
  refine v_iconst C (v := 3) dL_law_567 rfl ?_
  refine v_iadd C dL_law_568 ?_
  refine l_sld C hX hbl hbA h3 dL_law_569 ?_
  refine k_X6_top C (xs (i + 1).toNatClampNeg) (xs (i + 2).toNatClampNeg) (xs (i + 3).toNatClampNeg) (x_top (xs (i + 1).toNatClampNeg) (xs (i + 2).toNatClampNeg) (xs (i + 3).toNatClampNeg) hi) mM_L_83 ⟨Nat.le_of_ble_eq_true rfl, Nat.le_of_ble_eq_true rfl⟩ (Nat.le_of_ble_eq_true rfl) dL_law_570 (fun r1 σ1 h => ?_)
  refine v_aload_n C dL_law_573 rfl 1 rfl ?_
  refine v_aload_n C dL_law_574 rfl 3 rfl ?_
  refine v_iload_n C dL_law_575 rfl 0 rfl ?_
  refine v_iconst C (v := 1) dL_law_576 rfl ?_
  refine v_iadd C dL_law_577 ?_
  refine l_sld C hX hbl hbA h1 dL_law_578 ?_
  refine v_aload_n C dL_law_579 rfl 3 rfl ?_
  refine v_iload_n C dL_law_580 rfl 0 rfl ?_
  refine v_iconst C (v := 2) dL_law_581 rfl ?_
  refine v_iadd C dL_law_582 ?_
  refine l_sld C hX hbl hbA h2 dL_law_583 ?_
  refine v_aload_n C dL_law_584 rfl 3 rfl ?_
  refine v_iload_n C dL_law_585 rfl 0 rfl ?_
  refine v_iconst C (v := 3) dL_law_586 rfl ?_
  refine v_iadd C dL_law_587 ?_
  refine l_sld C hX hbl hbA h3 dL_law_588 ?_
  refine k_X7_top C (xs (i + 1).toNatClampNeg) (xs (i + 2).toNatClampNeg) (xs (i + 3).toNatClampNeg) h mM_L_87 ⟨Nat.le_of_ble_eq_true rfl, Nat.le_of_ble_eq_true rfl⟩ (Nat.le_of_ble_eq_true rfl) dL_law_589 (fun r2 σ2 h => ?_)
  exact v_icmp_eq C (tgt := 933) dL_law_592 (by decide) (fun _ => kk _ h.2) (fun q => absurd h.1 q)
set_option maxHeartbeats 4000000 in
set_option maxRecDepth 100000 in
theorem lc_first (C : Cx p room_1 s m args meth c RL cL_law 4 cells slots A L) (hX : va_X b N xs s s.heap) (hbl : b < s.heap.size) (hbA : ¬ A b) {i : Int32} (h1 : vp_in (i + 1) N) (h2 : vp_in (i + 2) N) (h3 : vp_in (i + 3) N) (hi : Inv σ) (kk : ∀ σ2, Inv σ2 → V p l e room_1 s m args below meth c 4 cells slots Q A L σ2 933 (lw0 L b i) []) : V p l e room_1 s m args below meth c 4 cells slots Q A L σ 597 (lw0 L b i) [] := by
  refine v_aload_n C dL_law_597 rfl 2 rfl ?_
  refine v_aload_n C dL_law_598 rfl 3 rfl ?_
  refine v_iload_n C dL_law_599 rfl 0 rfl ?_
  refine v_iconst C (v := 1) dL_law_600 rfl ?_
  refine v_iadd C dL_law_601 ?_
  refine l_sld C hX hbl hbA h1 dL_law_602 ?_
  refine v_aload_n C dL_law_603 rfl 3 rfl ?_
  refine v_iload_n C dL_law_604 rfl 0 rfl ?_
  refine v_iconst C (v := 2) dL_law_605 rfl ?_
  refine v_iadd C dL_law_606 ?_
  refine l_sld C hX hbl hbA h2 dL_law_607 ?_
  refine v_aload_n C dL_law_608 rfl 3 rfl ?_
  refine v_iload_n C dL_law_609 rfl 0 rfl ?_
  refine v_iconst C (v := 3) dL_law_610 rfl ?_
  refine v_iadd C dL_law_611 ?_
  refine l_sld C hX hbl hbA h3 dL_law_612 ?_
  refine v_if_eq C (tgt := 620) dL_law_613 (by decide) (fun hc => ?_) (fun hc => ?_)
  · refine v_iconst C (v := 0) dL_law_620 rfl ?_
    refine k_X6_first C (xs (i + 1).toNatClampNeg) (xs (i + 2).toNatClampNeg) 0 (x_first (xs (i + 1).toNatClampNeg) (xs (i + 2).toNatClampNeg) 0 hi) mM_L_88 ⟨Nat.le_of_ble_eq_true rfl, Nat.le_of_ble_eq_true rfl⟩ (Nat.le_of_ble_eq_true rfl) dL_law_621 (fun r1 σ1 h => ?_)
    refine v_aload_n C dL_law_624 rfl 1 rfl ?_
    refine v_aload_n C dL_law_625 rfl 3 rfl ?_
    refine v_iload_n C dL_law_626 rfl 0 rfl ?_
    refine v_iconst C (v := 1) dL_law_627 rfl ?_
    refine v_iadd C dL_law_628 ?_
    refine l_sld C hX hbl hbA h1 dL_law_629 ?_
    refine v_aload_n C dL_law_630 rfl 3 rfl ?_
    refine v_iload_n C dL_law_631 rfl 0 rfl ?_
    refine v_iconst C (v := 2) dL_law_632 rfl ?_
    refine v_iadd C dL_law_633 ?_
    refine l_sld C hX hbl hbA h2 dL_law_634 ?_
    refine v_aload_n C dL_law_635 rfl 3 rfl ?_
    refine v_iload_n C dL_law_636 rfl 0 rfl ?_
    refine v_iconst C (v := 3) dL_law_637 rfl ?_
    refine v_iadd C dL_law_638 ?_
    refine l_sld C hX hbl hbA h3 dL_law_639 ?_
    refine v_if_eq C (tgt := 647) dL_law_640 (by decide) (fun _ => ?_) (fun q => absurd hc q)
    refine v_iconst C (v := 0) dL_law_647 rfl ?_
    refine k_X7_first C (xs (i + 1).toNatClampNeg) (xs (i + 2).toNatClampNeg) 0 h mM_L_92 ⟨Nat.le_of_ble_eq_true rfl, Nat.le_of_ble_eq_true rfl⟩ (Nat.le_of_ble_eq_true rfl) dL_law_648 (fun r2 σ2 h => ?_)
    exact v_icmp_eq C (tgt := 933) dL_law_651 (by decide) (fun _ => kk _ h.2) (fun q => absurd h.1 q)
  · refine v_iconst C (v := 1) dL_law_616 rfl ?_
    refine v_goto C (tgt := 621) dL_law_617 (by decide) ?_
    refine k_X6_first C (xs (i + 1).toNatClampNeg) (xs (i + 2).toNatClampNeg) 1 (x_first (xs (i + 1).toNatClampNeg) (xs (i + 2).toNatClampNeg) 1 hi) mM_L_88 ⟨Nat.le_of_ble_eq_true rfl, Nat.le_of_ble_eq_true rfl⟩ (Nat.le_of_ble_eq_true rfl) dL_law_621 (fun r1 σ1 h => ?_)
    refine v_aload_n C dL_law_624 rfl 1 rfl ?_
    refine v_aload_n C dL_law_625 rfl 3 rfl ?_
    refine v_iload_n C dL_law_626 rfl 0 rfl ?_
    refine v_iconst C (v := 1) dL_law_627 rfl ?_
    refine v_iadd C dL_law_628 ?_
    refine l_sld C hX hbl hbA h1 dL_law_629 ?_
    refine v_aload_n C dL_law_630 rfl 3 rfl ?_
    refine v_iload_n C dL_law_631 rfl 0 rfl ?_
    refine v_iconst C (v := 2) dL_law_632 rfl ?_
    refine v_iadd C dL_law_633 ?_
    refine l_sld C hX hbl hbA h2 dL_law_634 ?_
    refine v_aload_n C dL_law_635 rfl 3 rfl ?_
    refine v_iload_n C dL_law_636 rfl 0 rfl ?_
    refine v_iconst C (v := 3) dL_law_637 rfl ?_
    refine v_iadd C dL_law_638 ?_
    refine l_sld C hX hbl hbA h3 dL_law_639 ?_
    refine v_if_eq C (tgt := 647) dL_law_640 (by decide) (fun q => absurd q hc) (fun _ => ?_)
    refine v_iconst C (v := 1) dL_law_643 rfl ?_
    refine v_goto C (tgt := 648) dL_law_644 (by decide) ?_
    refine k_X7_first C (xs (i + 1).toNatClampNeg) (xs (i + 2).toNatClampNeg) 1 h mM_L_92 ⟨Nat.le_of_ble_eq_true rfl, Nat.le_of_ble_eq_true rfl⟩ (Nat.le_of_ble_eq_true rfl) dL_law_648 (fun r2 σ2 h => ?_)
    exact v_icmp_eq C (tgt := 933) dL_law_651 (by decide) (fun _ => kk _ h.2) (fun q => absurd h.1 q)
set_option maxHeartbeats 4000000 in
set_option maxRecDepth 100000 in
theorem lc_above (C : Cx p room_1 s m args meth c RL cL_law 4 cells slots A L) (hX : va_X b N xs s s.heap) (hbl : b < s.heap.size) (hbA : ¬ A b) {i : Int32} (h1 : vp_in (i + 1) N) (h2 : vp_in (i + 2) N) (h3 : vp_in (i + 3) N) (hi : Inv σ) (kk : ∀ σ2, Inv σ2 → V p l e room_1 s m args below meth c 4 cells slots Q A L σ2 933 (lw0 L b i) []) : V p l e room_1 s m args below meth c 4 cells slots Q A L σ 656 (lw0 L b i) [] := by
  refine v_aload_n C dL_law_656 rfl 2 rfl ?_
  refine v_aload_n C dL_law_657 rfl 3 rfl ?_
  refine v_iload_n C dL_law_658 rfl 0 rfl ?_
  refine v_iconst C (v := 1) dL_law_659 rfl ?_
  refine v_iadd C dL_law_660 ?_
  refine l_sld C hX hbl hbA h1 dL_law_661 ?_
  refine v_aload_n C dL_law_662 rfl 3 rfl ?_
  refine v_iload_n C dL_law_663 rfl 0 rfl ?_
  refine v_iconst C (v := 2) dL_law_664 rfl ?_
  refine v_iadd C dL_law_665 ?_
  refine l_sld C hX hbl hbA h2 dL_law_666 ?_
  refine v_aload_n C dL_law_667 rfl 3 rfl ?_
  refine v_iload_n C dL_law_668 rfl 0 rfl ?_
  refine v_iconst C (v := 3) dL_law_669 rfl ?_
  refine v_iadd C dL_law_670 ?_
  refine l_sld C hX hbl hbA h3 dL_law_671 ?_
  refine v_if_eq C (tgt := 679) dL_law_672 (by decide) (fun hc => ?_) (fun hc => ?_)
  · refine v_iconst C (v := 0) dL_law_679 rfl ?_
    refine k_X6_above C (xs (i + 1).toNatClampNeg) (xs (i + 2).toNatClampNeg) 0 (x_above (xs (i + 1).toNatClampNeg) (xs (i + 2).toNatClampNeg) 0 hi) mM_L_93 ⟨Nat.le_of_ble_eq_true rfl, Nat.le_of_ble_eq_true rfl⟩ (Nat.le_of_ble_eq_true rfl) dL_law_680 (fun r1 σ1 h => ?_)
    refine v_aload_n C dL_law_683 rfl 1 rfl ?_
    refine v_aload_n C dL_law_684 rfl 3 rfl ?_
    refine v_iload_n C dL_law_685 rfl 0 rfl ?_
    refine v_iconst C (v := 1) dL_law_686 rfl ?_
    refine v_iadd C dL_law_687 ?_
    refine l_sld C hX hbl hbA h1 dL_law_688 ?_
    refine v_aload_n C dL_law_689 rfl 3 rfl ?_
    refine v_iload_n C dL_law_690 rfl 0 rfl ?_
    refine v_iconst C (v := 2) dL_law_691 rfl ?_
    refine v_iadd C dL_law_692 ?_
    refine l_sld C hX hbl hbA h2 dL_law_693 ?_
    refine v_aload_n C dL_law_694 rfl 3 rfl ?_
    refine v_iload_n C dL_law_695 rfl 0 rfl ?_
    refine v_iconst C (v := 3) dL_law_696 rfl ?_
    refine v_iadd C dL_law_697 ?_
    refine l_sld C hX hbl hbA h3 dL_law_698 ?_
    refine v_if_eq C (tgt := 706) dL_law_699 (by decide) (fun _ => ?_) (fun q => absurd hc q)
    refine v_iconst C (v := 0) dL_law_706 rfl ?_
    refine k_X7_above C (xs (i + 1).toNatClampNeg) (xs (i + 2).toNatClampNeg) 0 h mM_L_96 ⟨Nat.le_of_ble_eq_true rfl, Nat.le_of_ble_eq_true rfl⟩ (Nat.le_of_ble_eq_true rfl) dL_law_707 (fun r2 σ2 h => ?_)
    exact v_icmp_eq C (tgt := 933) dL_law_710 (by decide) (fun _ => kk _ h.2) (fun q => absurd h.1 q)
  · refine v_iconst C (v := 1) dL_law_675 rfl ?_
    refine v_goto C (tgt := 680) dL_law_676 (by decide) ?_
    refine k_X6_above C (xs (i + 1).toNatClampNeg) (xs (i + 2).toNatClampNeg) 1 (x_above (xs (i + 1).toNatClampNeg) (xs (i + 2).toNatClampNeg) 1 hi) mM_L_93 ⟨Nat.le_of_ble_eq_true rfl, Nat.le_of_ble_eq_true rfl⟩ (Nat.le_of_ble_eq_true rfl) dL_law_680 (fun r1 σ1 h => ?_)
    refine v_aload_n C dL_law_683 rfl 1 rfl ?_
    refine v_aload_n C dL_law_684 rfl 3 rfl ?_
    refine v_iload_n C dL_law_685 rfl 0 rfl ?_
    refine v_iconst C (v := 1) dL_law_686 rfl ?_
    refine v_iadd C dL_law_687 ?_
    refine l_sld C hX hbl hbA h1 dL_law_688 ?_
    refine v_aload_n C dL_law_689 rfl 3 rfl ?_
    refine v_iload_n C dL_law_690 rfl 0 rfl ?_
    refine v_iconst C (v := 2) dL_law_691 rfl ?_
    refine v_iadd C dL_law_692 ?_
    refine l_sld C hX hbl hbA h2 dL_law_693 ?_
    refine v_aload_n C dL_law_694 rfl 3 rfl ?_
    refine v_iload_n C dL_law_695 rfl 0 rfl ?_
    refine v_iconst C (v := 3) dL_law_696 rfl ?_
    refine v_iadd C dL_law_697 ?_
    refine l_sld C hX hbl hbA h3 dL_law_698 ?_
    refine v_if_eq C (tgt := 706) dL_law_699 (by decide) (fun q => absurd q hc) (fun _ => ?_)
    refine v_iconst C (v := 1) dL_law_702 rfl ?_
    refine v_goto C (tgt := 707) dL_law_703 (by decide) ?_
    refine k_X7_above C (xs (i + 1).toNatClampNeg) (xs (i + 2).toNatClampNeg) 1 h mM_L_96 ⟨Nat.le_of_ble_eq_true rfl, Nat.le_of_ble_eq_true rfl⟩ (Nat.le_of_ble_eq_true rfl) dL_law_707 (fun r2 σ2 h => ?_)
    exact v_icmp_eq C (tgt := 933) dL_law_710 (by decide) (fun _ => kk _ h.2) (fun q => absurd h.1 q)
set_option maxHeartbeats 4000000 in
set_option maxRecDepth 100000 in
theorem lc_rank (C : Cx p room_1 s m args meth c RL cL_law 4 cells slots A L) (hX : va_X b N xs s s.heap) (hbl : b < s.heap.size) (hbA : ¬ A b) {i : Int32} (h1 : vp_in (i + 1) N) (h2 : vp_in (i + 2) N) (h3 : vp_in (i + 3) N) (hi : Inv σ) (kk : ∀ σ2, Inv σ2 → V p l e room_1 s m args below meth c 4 cells slots Q A L σ2 933 (lw0 L b i) []) : V p l e room_1 s m args below meth c 4 cells slots Q A L σ 715 (lw0 L b i) [] := by
  refine v_aload_n C dL_law_715 rfl 2 rfl ?_
  refine v_aload_n C dL_law_716 rfl 3 rfl ?_
  refine v_iload_n C dL_law_717 rfl 0 rfl ?_
  refine v_iconst C (v := 1) dL_law_718 rfl ?_
  refine v_iadd C dL_law_719 ?_
  refine l_sld C hX hbl hbA h1 dL_law_720 ?_
  refine v_aload_n C dL_law_721 rfl 3 rfl ?_
  refine v_iload_n C dL_law_722 rfl 0 rfl ?_
  refine v_iconst C (v := 2) dL_law_723 rfl ?_
  refine v_iadd C dL_law_724 ?_
  refine l_sld C hX hbl hbA h2 dL_law_725 ?_
  refine v_i2c C dL_law_726 ?_
  refine v_aload_n C dL_law_727 rfl 3 rfl ?_
  refine v_iload_n C dL_law_728 rfl 0 rfl ?_
  refine v_iconst C (v := 3) dL_law_729 rfl ?_
  refine v_iadd C dL_law_730 ?_
  refine l_sld C hX hbl hbA h3 dL_law_731 ?_
  refine v_if_eq C (tgt := 739) dL_law_732 (by decide) (fun hc => ?_) (fun hc => ?_)
  · refine v_iconst C (v := 0) dL_law_739 rfl ?_
    refine k_X6_rank C (xs (i + 1).toNatClampNeg) (cof (xs (i + 2).toNatClampNeg)) 0 (x_rank (xs (i + 1).toNatClampNeg) (cof (xs (i + 2).toNatClampNeg)) 0 hi) mM_L_97 ⟨Nat.le_of_ble_eq_true rfl, Nat.le_of_ble_eq_true rfl⟩ (Nat.le_of_ble_eq_true rfl) dL_law_740 (fun r1 σ1 h => ?_)
    refine v_aload_n C dL_law_743 rfl 1 rfl ?_
    refine v_aload_n C dL_law_744 rfl 3 rfl ?_
    refine v_iload_n C dL_law_745 rfl 0 rfl ?_
    refine v_iconst C (v := 1) dL_law_746 rfl ?_
    refine v_iadd C dL_law_747 ?_
    refine l_sld C hX hbl hbA h1 dL_law_748 ?_
    refine v_aload_n C dL_law_749 rfl 3 rfl ?_
    refine v_iload_n C dL_law_750 rfl 0 rfl ?_
    refine v_iconst C (v := 2) dL_law_751 rfl ?_
    refine v_iadd C dL_law_752 ?_
    refine l_sld C hX hbl hbA h2 dL_law_753 ?_
    refine v_i2c C dL_law_754 ?_
    refine v_aload_n C dL_law_755 rfl 3 rfl ?_
    refine v_iload_n C dL_law_756 rfl 0 rfl ?_
    refine v_iconst C (v := 3) dL_law_757 rfl ?_
    refine v_iadd C dL_law_758 ?_
    refine l_sld C hX hbl hbA h3 dL_law_759 ?_
    refine v_if_eq C (tgt := 767) dL_law_760 (by decide) (fun _ => ?_) (fun q => absurd hc q)
    refine v_iconst C (v := 0) dL_law_767 rfl ?_
    refine k_X7_rank C (xs (i + 1).toNatClampNeg) (cof (xs (i + 2).toNatClampNeg)) 0 h mM_L_101 ⟨Nat.le_of_ble_eq_true rfl, Nat.le_of_ble_eq_true rfl⟩ (Nat.le_of_ble_eq_true rfl) dL_law_768 (fun r2 σ2 h => ?_)
    exact v_icmp_eq C (tgt := 933) dL_law_771 (by decide) (fun _ => kk _ h.2) (fun q => absurd h.1 q)
  · refine v_iconst C (v := 1) dL_law_735 rfl ?_
    refine v_goto C (tgt := 740) dL_law_736 (by decide) ?_
    refine k_X6_rank C (xs (i + 1).toNatClampNeg) (cof (xs (i + 2).toNatClampNeg)) 1 (x_rank (xs (i + 1).toNatClampNeg) (cof (xs (i + 2).toNatClampNeg)) 1 hi) mM_L_97 ⟨Nat.le_of_ble_eq_true rfl, Nat.le_of_ble_eq_true rfl⟩ (Nat.le_of_ble_eq_true rfl) dL_law_740 (fun r1 σ1 h => ?_)
    refine v_aload_n C dL_law_743 rfl 1 rfl ?_
    refine v_aload_n C dL_law_744 rfl 3 rfl ?_
    refine v_iload_n C dL_law_745 rfl 0 rfl ?_
    refine v_iconst C (v := 1) dL_law_746 rfl ?_
    refine v_iadd C dL_law_747 ?_
    refine l_sld C hX hbl hbA h1 dL_law_748 ?_
    refine v_aload_n C dL_law_749 rfl 3 rfl ?_
    refine v_iload_n C dL_law_750 rfl 0 rfl ?_
    refine v_iconst C (v := 2) dL_law_751 rfl ?_
    refine v_iadd C dL_law_752 ?_
    refine l_sld C hX hbl hbA h2 dL_law_753 ?_
    refine v_i2c C dL_law_754 ?_
    refine v_aload_n C dL_law_755 rfl 3 rfl ?_
    refine v_iload_n C dL_law_756 rfl 0 rfl ?_
    refine v_iconst C (v := 3) dL_law_757 rfl ?_
    refine v_iadd C dL_law_758 ?_
    refine l_sld C hX hbl hbA h3 dL_law_759 ?_
    refine v_if_eq C (tgt := 767) dL_law_760 (by decide) (fun q => absurd q hc) (fun _ => ?_)
    refine v_iconst C (v := 1) dL_law_763 rfl ?_
    refine v_goto C (tgt := 768) dL_law_764 (by decide) ?_
    refine k_X7_rank C (xs (i + 1).toNatClampNeg) (cof (xs (i + 2).toNatClampNeg)) 1 h mM_L_101 ⟨Nat.le_of_ble_eq_true rfl, Nat.le_of_ble_eq_true rfl⟩ (Nat.le_of_ble_eq_true rfl) dL_law_768 (fun r2 σ2 h => ?_)
    exact v_icmp_eq C (tgt := 933) dL_law_771 (by decide) (fun _ => kk _ h.2) (fun q => absurd h.1 q)
set_option maxHeartbeats 4000000 in
set_option maxRecDepth 100000 in
theorem lc_alike (C : Cx p room_1 s m args meth c RL cL_law 4 cells slots A L) (hX : va_X b N xs s s.heap) (hbl : b < s.heap.size) (hbA : ¬ A b) {i : Int32} (h1 : vp_in (i + 1) N) (h2 : vp_in (i + 2) N) (h3 : vp_in (i + 3) N) (hi : Inv σ) (kk : ∀ σ2, Inv σ2 → V p l e room_1 s m args below meth c 4 cells slots Q A L σ2 933 (lw0 L b i) []) : V p l e room_1 s m args below meth c 4 cells slots Q A L σ 776 (lw0 L b i) [] := by
  refine v_aload_n C dL_law_776 rfl 2 rfl ?_
  refine v_aload_n C dL_law_777 rfl 3 rfl ?_
  refine v_iload_n C dL_law_778 rfl 0 rfl ?_
  refine v_iconst C (v := 1) dL_law_779 rfl ?_
  refine v_iadd C dL_law_780 ?_
  refine l_sld C hX hbl hbA h1 dL_law_781 ?_
  refine v_aload_n C dL_law_782 rfl 3 rfl ?_
  refine v_iload_n C dL_law_783 rfl 0 rfl ?_
  refine v_iconst C (v := 2) dL_law_784 rfl ?_
  refine v_iadd C dL_law_785 ?_
  refine l_sld C hX hbl hbA h2 dL_law_786 ?_
  refine k_X6_alike C (xs (i + 1).toNatClampNeg) (xs (i + 2).toNatClampNeg) (x_alike (xs (i + 1).toNatClampNeg) (xs (i + 2).toNatClampNeg) hi) mM_L_102 ⟨Nat.le_of_ble_eq_true rfl, Nat.le_of_ble_eq_true rfl⟩ (Nat.le_of_ble_eq_true rfl) dL_law_787 (fun r1 σ1 h => ?_)
  refine v_aload_n C dL_law_790 rfl 1 rfl ?_
  refine v_aload_n C dL_law_791 rfl 3 rfl ?_
  refine v_iload_n C dL_law_792 rfl 0 rfl ?_
  refine v_iconst C (v := 1) dL_law_793 rfl ?_
  refine v_iadd C dL_law_794 ?_
  refine l_sld C hX hbl hbA h1 dL_law_795 ?_
  refine v_aload_n C dL_law_796 rfl 3 rfl ?_
  refine v_iload_n C dL_law_797 rfl 0 rfl ?_
  refine v_iconst C (v := 2) dL_law_798 rfl ?_
  refine v_iadd C dL_law_799 ?_
  refine l_sld C hX hbl hbA h2 dL_law_800 ?_
  refine k_X7_alike C (xs (i + 1).toNatClampNeg) (xs (i + 2).toNatClampNeg) h mM_L_105 ⟨Nat.le_of_ble_eq_true rfl, Nat.le_of_ble_eq_true rfl⟩ (Nat.le_of_ble_eq_true rfl) dL_law_801 (fun r2 σ2 h => ?_)
  exact v_icmp_eq C (tgt := 933) dL_law_804 (by decide) (fun _ => kk _ h.2) (fun q => absurd h.1 q)
set_option maxHeartbeats 4000000 in
set_option maxRecDepth 100000 in
theorem lc_wouldEvict (C : Cx p room_1 s m args meth c RL cL_law 4 cells slots A L) (hX : va_X b N xs s s.heap) (hbl : b < s.heap.size) (hbA : ¬ A b) {i : Int32} (h1 : vp_in (i + 1) N) (h2 : vp_in (i + 2) N) (h3 : vp_in (i + 3) N) (hi : Inv σ) (kk : ∀ σ2, Inv σ2 → V p l e room_1 s m args below meth c 4 cells slots Q A L σ2 933 (lw0 L b i) []) : V p l e room_1 s m args below meth c 4 cells slots Q A L σ 809 (lw0 L b i) [] := by
  refine v_aload_n C dL_law_809 rfl 2 rfl ?_
  refine v_aload_n C dL_law_810 rfl 3 rfl ?_
  refine v_iload_n C dL_law_811 rfl 0 rfl ?_
  refine v_iconst C (v := 1) dL_law_812 rfl ?_
  refine v_iadd C dL_law_813 ?_
  refine l_sld C hX hbl hbA h1 dL_law_814 ?_
  refine v_aload_n C dL_law_815 rfl 3 rfl ?_
  refine v_iload_n C dL_law_816 rfl 0 rfl ?_
  refine v_iconst C (v := 2) dL_law_817 rfl ?_
  refine v_iadd C dL_law_818 ?_
  refine l_sld C hX hbl hbA h2 dL_law_819 ?_
  refine v_i2c C dL_law_820 ?_
  refine k_X6_wouldEvict C (xs (i + 1).toNatClampNeg) (cof (xs (i + 2).toNatClampNeg)) (x_wouldEvict (xs (i + 1).toNatClampNeg) (cof (xs (i + 2).toNatClampNeg)) hi) mM_L_106 ⟨Nat.le_of_ble_eq_true rfl, Nat.le_of_ble_eq_true rfl⟩ (Nat.le_of_ble_eq_true rfl) dL_law_821 (fun r1 σ1 h => ?_)
  refine v_aload_n C dL_law_824 rfl 1 rfl ?_
  refine v_aload_n C dL_law_825 rfl 3 rfl ?_
  refine v_iload_n C dL_law_826 rfl 0 rfl ?_
  refine v_iconst C (v := 1) dL_law_827 rfl ?_
  refine v_iadd C dL_law_828 ?_
  refine l_sld C hX hbl hbA h1 dL_law_829 ?_
  refine v_aload_n C dL_law_830 rfl 3 rfl ?_
  refine v_iload_n C dL_law_831 rfl 0 rfl ?_
  refine v_iconst C (v := 2) dL_law_832 rfl ?_
  refine v_iadd C dL_law_833 ?_
  refine l_sld C hX hbl hbA h2 dL_law_834 ?_
  refine v_i2c C dL_law_835 ?_
  refine k_X7_wouldEvict C (xs (i + 1).toNatClampNeg) (cof (xs (i + 2).toNatClampNeg)) h mM_L_110 ⟨Nat.le_of_ble_eq_true rfl, Nat.le_of_ble_eq_true rfl⟩ (Nat.le_of_ble_eq_true rfl) dL_law_836 (fun r2 σ2 h => ?_)
  exact v_icmp_eq C (tgt := 933) dL_law_839 (by decide) (fun _ => kk _ h.2) (fun q => absurd h.1 q)
set_option maxHeartbeats 4000000 in
set_option maxRecDepth 100000 in
theorem lc_block (C : Cx p room_1 s m args meth c RL cL_law 4 cells slots A L) (hX : va_X b N xs s s.heap) (hbl : b < s.heap.size) (hbA : ¬ A b) {i : Int32} (h1 : vp_in (i + 1) N) (h2 : vp_in (i + 2) N) (h3 : vp_in (i + 3) N) (hi : Inv σ) (kk : ∀ σ2, Inv σ2 → V p l e room_1 s m args below meth c 4 cells slots Q A L σ2 933 (lw0 L b i) []) : V p l e room_1 s m args below meth c 4 cells slots Q A L σ 844 (lw0 L b i) [] := by
  refine v_aload_n C dL_law_844 rfl 2 rfl ?_
  refine v_aload_n C dL_law_845 rfl 3 rfl ?_
  refine v_iload_n C dL_law_846 rfl 0 rfl ?_
  refine v_iconst C (v := 1) dL_law_847 rfl ?_
  refine v_iadd C dL_law_848 ?_
  refine l_sld C hX hbl hbA h1 dL_law_849 ?_
  refine v_aload_n C dL_law_850 rfl 3 rfl ?_
  refine v_iload_n C dL_law_851 rfl 0 rfl ?_
  refine v_iconst C (v := 2) dL_law_852 rfl ?_
  refine v_iadd C dL_law_853 ?_
  refine l_sld C hX hbl hbA h2 dL_law_854 ?_
  refine k_X6_block C (xs (i + 1).toNatClampNeg) (xs (i + 2).toNatClampNeg) (x_block (xs (i + 1).toNatClampNeg) (xs (i + 2).toNatClampNeg) hi) mM_L_111 ⟨Nat.le_of_ble_eq_true rfl, Nat.le_of_ble_eq_true rfl⟩ (Nat.le_of_ble_eq_true rfl) dL_law_855 (fun r1 σ1 h => ?_)
  refine v_aload_n C dL_law_858 rfl 1 rfl ?_
  refine v_aload_n C dL_law_859 rfl 3 rfl ?_
  refine v_iload_n C dL_law_860 rfl 0 rfl ?_
  refine v_iconst C (v := 1) dL_law_861 rfl ?_
  refine v_iadd C dL_law_862 ?_
  refine l_sld C hX hbl hbA h1 dL_law_863 ?_
  refine v_aload_n C dL_law_864 rfl 3 rfl ?_
  refine v_iload_n C dL_law_865 rfl 0 rfl ?_
  refine v_iconst C (v := 2) dL_law_866 rfl ?_
  refine v_iadd C dL_law_867 ?_
  refine l_sld C hX hbl hbA h2 dL_law_868 ?_
  refine k_X7_block C (xs (i + 1).toNatClampNeg) (xs (i + 2).toNatClampNeg) h mM_L_114 ⟨Nat.le_of_ble_eq_true rfl, Nat.le_of_ble_eq_true rfl⟩ (Nat.le_of_ble_eq_true rfl) dL_law_869 (fun r2 σ2 h => ?_)
  exact v_icmp_eq C (tgt := 933) dL_law_872 (by decide) (fun _ => kk _ h.2) (fun q => absurd h.1 q)
set_option maxHeartbeats 4000000 in
set_option maxRecDepth 100000 in
theorem lc_event (C : Cx p room_1 s m args meth c RL cL_law 4 cells slots A L) (hX : va_X b N xs s s.heap) (hbl : b < s.heap.size) (hbA : ¬ A b) {i : Int32} (h1 : vp_in (i + 1) N) (h2 : vp_in (i + 2) N) (h3 : vp_in (i + 3) N) (hi : Inv σ) (kk : ∀ σ2, Inv σ2 → V p l e room_1 s m args below meth c 4 cells slots Q A L σ2 933 (lw0 L b i) []) : V p l e room_1 s m args below meth c 4 cells slots Q A L σ 877 (lw0 L b i) [] := by
  refine v_aload_n C dL_law_877 rfl 2 rfl ?_
  refine v_aload_n C dL_law_878 rfl 3 rfl ?_
  refine v_iload_n C dL_law_879 rfl 0 rfl ?_
  refine v_iconst C (v := 1) dL_law_880 rfl ?_
  refine v_iadd C dL_law_881 ?_
  refine l_sld C hX hbl hbA h1 dL_law_882 ?_
  refine v_aload_n C dL_law_883 rfl 3 rfl ?_
  refine v_iload_n C dL_law_884 rfl 0 rfl ?_
  refine v_iconst C (v := 2) dL_law_885 rfl ?_
  refine v_iadd C dL_law_886 ?_
  refine l_sld C hX hbl hbA h2 dL_law_887 ?_
  refine k_X6_event C (xs (i + 1).toNatClampNeg) (xs (i + 2).toNatClampNeg) (x_event (xs (i + 1).toNatClampNeg) (xs (i + 2).toNatClampNeg) hi) mM_L_115 ⟨Nat.le_of_ble_eq_true rfl, Nat.le_of_ble_eq_true rfl⟩ (Nat.le_of_ble_eq_true rfl) dL_law_888 (fun r1 σ1 h => ?_)
  refine v_aload_n C dL_law_891 rfl 1 rfl ?_
  refine v_aload_n C dL_law_892 rfl 3 rfl ?_
  refine v_iload_n C dL_law_893 rfl 0 rfl ?_
  refine v_iconst C (v := 1) dL_law_894 rfl ?_
  refine v_iadd C dL_law_895 ?_
  refine l_sld C hX hbl hbA h1 dL_law_896 ?_
  refine v_aload_n C dL_law_897 rfl 3 rfl ?_
  refine v_iload_n C dL_law_898 rfl 0 rfl ?_
  refine v_iconst C (v := 2) dL_law_899 rfl ?_
  refine v_iadd C dL_law_900 ?_
  refine l_sld C hX hbl hbA h2 dL_law_901 ?_
  refine k_X7_event C (xs (i + 1).toNatClampNeg) (xs (i + 2).toNatClampNeg) h mM_L_118 ⟨Nat.le_of_ble_eq_true rfl, Nat.le_of_ble_eq_true rfl⟩ (Nat.le_of_ble_eq_true rfl) dL_law_902 (fun r2 σ2 h => ?_)
  exact v_icmp_eq C (tgt := 933) dL_law_905 (by decide) (fun _ => kk _ h.2) (fun q => absurd h.1 q)
set_option maxHeartbeats 4000000 in
set_option maxRecDepth 100000 in
theorem lc_count (C : Cx p room_1 s m args meth c RL cL_law 4 cells slots A L) (hX : va_X b N xs s s.heap) (hbl : b < s.heap.size) (hbA : ¬ A b) {i : Int32} (h1 : vp_in (i + 1) N) (h2 : vp_in (i + 2) N) (h3 : vp_in (i + 3) N) (hi : Inv σ) (kk : ∀ σ2, Inv σ2 → V p l e room_1 s m args below meth c 4 cells slots Q A L σ2 933 (lw0 L b i) []) : V p l e room_1 s m args below meth c 4 cells slots Q A L σ 910 (lw0 L b i) [] := by
  refine v_aload_n C dL_law_910 rfl 2 rfl ?_
  refine v_aload_n C dL_law_911 rfl 3 rfl ?_
  refine v_iload_n C dL_law_912 rfl 0 rfl ?_
  refine v_iconst C (v := 1) dL_law_913 rfl ?_
  refine v_iadd C dL_law_914 ?_
  refine l_sld C hX hbl hbA h1 dL_law_915 ?_
  refine k_X6_count C (xs (i + 1).toNatClampNeg) (x_count (xs (i + 1).toNatClampNeg) hi) mM_L_119 ⟨Nat.le_of_ble_eq_true rfl, Nat.le_of_ble_eq_true rfl⟩ (Nat.le_of_ble_eq_true rfl) dL_law_916 (fun r1 σ1 h => ?_)
  refine v_aload_n C dL_law_919 rfl 1 rfl ?_
  refine v_aload_n C dL_law_920 rfl 3 rfl ?_
  refine v_iload_n C dL_law_921 rfl 0 rfl ?_
  refine v_iconst C (v := 1) dL_law_922 rfl ?_
  refine v_iadd C dL_law_923 ?_
  refine l_sld C hX hbl hbA h1 dL_law_924 ?_
  refine k_X7_count C (xs (i + 1).toNatClampNeg) h mM_L_122 ⟨Nat.le_of_ble_eq_true rfl, Nat.le_of_ble_eq_true rfl⟩ (Nat.le_of_ble_eq_true rfl) dL_law_925 (fun r2 σ2 h => ?_)
  exact v_icmp_eq C (tgt := 933) dL_law_928 (by decide) (fun _ => kk _ h.2) (fun q => absurd h.1 q)
end LL
