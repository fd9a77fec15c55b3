set_option maxHeartbeats 4000000 in
set_option maxRecDepth 100000 in
theorem op_points {p : Program} {l : Launch} {e : Env} {s : State} {m : MethodId} {args : Array Value} {below : List Frame} {meth : Method} {c : Code} {Q : State → Prop} {D : va_G} {cyI cO cyZ : ClassId} {aC aM : Nat → Nat} {A : Nat → Prop} {fa b L i : Nat} {xs : Nat → Int32} (C : Cx p s m args meth c code 4 RL D (ty3 cyI cO cyZ) fa A) (hX : va_X b L xs s s.heap) (hbl : b < s.heap.size) (hbA : ¬ A b) (hL : L ≤ 2048) (hi : i + 4 ≤ L) (NX : Nx p l e s m args below meth c Q D cyI cO cyZ aC aM A b i 778) : Nx p l e s m args below meth c Q D cyI cO cyZ aC aM A b i 144 := by
  intro n d md go ke ha wy ab be t m2 jd jn wm od ab2 be2 hh Dd sv hR hs H locs hW ls hl
  have h2 := hR.1.1
  have h6 := hR.1.2
  have hx := C.1
  have hb := C.2.1
  refine lv_aload_n hx hb dL_law_144 rfl (lv_at hl 2 rfl) ?_
  refine s_ld (k := 1) hx hb hX hbl hbA hW.2.2.2.2.2 (by omega) hL (lv_at hl 3 rfl) (lv_at hl 0 rfl) dL_law_145 dL_law_146 dL_law_147 (by decide) dL_law_148 dL_law_149 ?_
  refine l_callC (As := [.int (xs (i + 1))]) (rest := []) (st1 := [.int _]) C hW cC_0 (c_X4_points l D cyI cO cyZ aC fa n d md go ke ha wy ab be (nI sv) (xs (i + 1)) ) mv_yX4_points mw_83 rfl ⟨rfl, rfl, Nat.le_of_ble_eq_true rfl, Nat.le_of_ble_eq_true rfl⟩ rfl hl (Nat.le_of_ble_eq_true rfl) rfl rfl dL_law_150 ⟨Nat.le_of_ble_eq_true rfl, Nat.le_of_ble_eq_true rfl⟩ (fun H locs hW => ?_)
  refine lv_aload_n hx hb dL_law_153 rfl (lv_at hl 1 rfl) ?_
  refine s_ld (k := 1) hx hb hX hbl hbA hW.2.2.2.2.2 (by omega) hL (lv_at hl 3 rfl) (lv_at hl 0 rfl) dL_law_154 dL_law_155 dL_law_156 (by decide) dL_law_157 dL_law_158 ?_
  refine l_callM (As := [.int (xs (i + 1))]) (rest := [.int _]) (st1 := [.int _, .int _]) C hW cM_0 (c_X5_points l D cyI cO cyZ aM fa n t m2 jd jn wm od (nI sv) ab2 be2 hh (xs (i + 1)) ) mv_yX5_points mw_87 rfl ⟨rfl, rfl, Nat.le_of_ble_eq_true rfl, Nat.le_of_ble_eq_true rfl⟩ rfl hl (Nat.le_of_ble_eq_true rfl) rfl rfl dL_law_159 ⟨Nat.le_of_ble_eq_true rfl, Nat.le_of_ble_eq_true rfl⟩ (fun H locs hW => ?_)
  obtain ⟨E, E2, D2, hR2⟩ := eq_points hR (xs (i + 1))
  rw [← E2] at hW
  exact lv_icmp_eq (tgt := 778) hx hb dL_law_162 (by decide) (fun _ => NX _ _ _ _ _ _ _ _ _ _ _ _ _ _ _ _ _ _ D2 sv hR2 hs H locs hW ls hl) (fun c9 => absurd E c9)
set_option maxHeartbeats 4000000 in
set_option maxRecDepth 100000 in
theorem op_set {p : Program} {l : Launch} {e : Env} {s : State} {m : MethodId} {args : Array Value} {below : List Frame} {meth : Method} {c : Code} {Q : State → Prop} {D : va_G} {cyI cO cyZ : ClassId} {aC aM : Nat → Nat} {A : Nat → Prop} {fa b L i : Nat} {xs : Nat → Int32} (C : Cx p s m args meth c code 4 RL D (ty3 cyI cO cyZ) fa A) (hX : va_X b L xs s s.heap) (hbl : b < s.heap.size) (hbA : ¬ A b) (hL : L ≤ 2048) (hi : i + 4 ≤ L) (NX : Nx p l e s m args below meth c Q D cyI cO cyZ aC aM A b i 778) : Nx p l e s m args below meth c Q D cyI cO cyZ aC aM A b i 167 := by
  intro n d md go ke ha wy ab be t m2 jd jn wm od ab2 be2 hh Dd sv hR hs H locs hW ls hl
  have h2 := hR.1.1
  have h6 := hR.1.2
  have hx := C.1
  have hb := C.2.1
  refine lv_aload_n hx hb dL_law_167 rfl (lv_at hl 2 rfl) ?_
  refine s_ld (k := 1) hx hb hX hbl hbA hW.2.2.2.2.2 (by omega) hL (lv_at hl 3 rfl) (lv_at hl 0 rfl) dL_law_168 dL_law_169 dL_law_170 (by decide) dL_law_171 dL_law_172 ?_
  refine s_ld (k := 2) hx hb hX hbl hbA hW.2.2.2.2.2 (by omega) hL (lv_at hl 3 rfl) (lv_at hl 0 rfl) dL_law_173 dL_law_174 dL_law_175 (by decide) dL_law_176 dL_law_177 ?_
  refine s_ld (k := 3) hx hb hX hbl hbA hW.2.2.2.2.2 (by omega) hL (lv_at hl 3 rfl) (lv_at hl 0 rfl) dL_law_178 dL_law_179 dL_law_180 (by decide) dL_law_181 dL_law_182 ?_
  refine l_callC (As := [.int (xs (i + 1)), .int (xs (i + 2)), .int (xs (i + 3))]) (rest := []) (st1 := [.int _]) C hW cC_0 (c_X4_set l D cyI cO cyZ aC fa n d md go ke ha wy ab be (nI sv) (xs (i + 1)) (xs (i + 2)) (xs (i + 3)) h6) mv_yX4_set mw_94 rfl ⟨rfl, rfl, Nat.le_of_ble_eq_true rfl, Nat.le_of_ble_eq_true rfl⟩ rfl hl (Nat.le_of_ble_eq_true rfl) rfl rfl dL_law_183 ⟨Nat.le_of_ble_eq_true rfl, Nat.le_of_ble_eq_true rfl⟩ (fun H locs hW => ?_)
  refine lv_aload_n hx hb dL_law_186 rfl (lv_at hl 1 rfl) ?_
  refine s_ld (k := 1) hx hb hX hbl hbA hW.2.2.2.2.2 (by omega) hL (lv_at hl 3 rfl) (lv_at hl 0 rfl) dL_law_187 dL_law_188 dL_law_189 (by decide) dL_law_190 dL_law_191 ?_
  refine s_ld (k := 2) hx hb hX hbl hbA hW.2.2.2.2.2 (by omega) hL (lv_at hl 3 rfl) (lv_at hl 0 rfl) dL_law_192 dL_law_193 dL_law_194 (by decide) dL_law_195 dL_law_196 ?_
  refine s_ld (k := 3) hx hb hX hbl hbA hW.2.2.2.2.2 (by omega) hL (lv_at hl 3 rfl) (lv_at hl 0 rfl) dL_law_197 dL_law_198 dL_law_199 (by decide) dL_law_200 dL_law_201 ?_
  refine l_callM (As := [.int (xs (i + 1)), .int (xs (i + 2)), .int (xs (i + 3))]) (rest := [.int _]) (st1 := [.int _, .int _]) C hW cM_0 (c_X5_set l D cyI cO cyZ aM fa n t m2 jd jn wm od (nI sv) ab2 be2 hh (xs (i + 1)) (xs (i + 2)) (xs (i + 3)) h6 h2) mv_yX5_set mw_110 rfl ⟨rfl, rfl, Nat.le_of_ble_eq_true rfl, Nat.le_of_ble_eq_true rfl⟩ rfl hl (Nat.le_of_ble_eq_true rfl) rfl rfl dL_law_202 ⟨Nat.le_of_ble_eq_true rfl, Nat.le_of_ble_eq_true rfl⟩ (fun H locs hW => ?_)
  obtain ⟨D2, hR2⟩ := (eq_set hR (xs (i + 1)) (xs (i + 2)) (xs (i + 3))).2
  have E := (eq_set hR (xs (i + 1)) (xs (i + 2)) (xs (i + 3))).1
  exact lv_icmp_eq (tgt := 778) hx hb dL_law_205 (by decide) (fun _ => NX _ _ _ _ _ _ _ _ _ _ _ _ _ _ _ _ _ _ D2 sv hR2 hs H locs hW ls hl) (fun c9 => absurd E c9)
set_option maxHeartbeats 4000000 in
set_option maxRecDepth 100000 in
theorem op_get {p : Program} {l : Launch} {e : Env} {s : State} {m : MethodId} {args : Array Value} {below : List Frame} {meth : Method} {c : Code} {Q : State → Prop} {D : va_G} {cyI cO cyZ : ClassId} {aC aM : Nat → Nat} {A : Nat → Prop} {fa b L i : Nat} {xs : Nat → Int32} (C : Cx p s m args meth c code 4 RL D (ty3 cyI cO cyZ) fa A) (hX : va_X b L xs s s.heap) (hbl : b < s.heap.size) (hbA : ¬ A b) (hL : L ≤ 2048) (hi : i + 4 ≤ L) (NX : Nx p l e s m args below meth c Q D cyI cO cyZ aC aM A b i 778) : Nx p l e s m args below meth c Q D cyI cO cyZ aC aM A b i 210 := by
  intro n d md go ke ha wy ab be t m2 jd jn wm od ab2 be2 hh Dd sv hR hs H locs hW ls hl
  have h2 := hR.1.1
  have h6 := hR.1.2
  have hx := C.1
  have hb := C.2.1
  refine lv_aload_n hx hb dL_law_210 rfl (lv_at hl 2 rfl) ?_
  refine s_ld (k := 1) hx hb hX hbl hbA hW.2.2.2.2.2 (by omega) hL (lv_at hl 3 rfl) (lv_at hl 0 rfl) dL_law_211 dL_law_212 dL_law_213 (by decide) dL_law_214 dL_law_215 ?_
  refine s_ld (k := 2) hx hb hX hbl hbA hW.2.2.2.2.2 (by omega) hL (lv_at hl 3 rfl) (lv_at hl 0 rfl) dL_law_216 dL_law_217 dL_law_218 (by decide) dL_law_219 dL_law_220 ?_
  refine l_callC (As := [.int (xs (i + 1)), .int (xs (i + 2))]) (rest := []) (st1 := [.int _]) C hW cC_0 (c_X4_get l D cyI cO cyZ aC fa n d md go ke ha wy ab be (nI sv) (xs (i + 1)) (xs (i + 2)) h6) mv_yX4_get mw_118 rfl ⟨rfl, rfl, Nat.le_of_ble_eq_true rfl, Nat.le_of_ble_eq_true rfl⟩ rfl hl (Nat.le_of_ble_eq_true rfl) rfl rfl dL_law_221 ⟨Nat.le_of_ble_eq_true rfl, Nat.le_of_ble_eq_true rfl⟩ (fun H locs hW => ?_)
  refine lv_aload_n hx hb dL_law_224 rfl (lv_at hl 1 rfl) ?_
  refine s_ld (k := 1) hx hb hX hbl hbA hW.2.2.2.2.2 (by omega) hL (lv_at hl 3 rfl) (lv_at hl 0 rfl) dL_law_225 dL_law_226 dL_law_227 (by decide) dL_law_228 dL_law_229 ?_
  refine s_ld (k := 2) hx hb hX hbl hbA hW.2.2.2.2.2 (by omega) hL (lv_at hl 3 rfl) (lv_at hl 0 rfl) dL_law_230 dL_law_231 dL_law_232 (by decide) dL_law_233 dL_law_234 ?_
  refine l_callM (As := [.int (xs (i + 1)), .int (xs (i + 2))]) (rest := [.int _]) (st1 := [.int _, .int _]) C hW cM_0 (c_X5_get l D cyI cO cyZ aM fa n t m2 jd jn wm od (nI sv) ab2 be2 hh (xs (i + 1)) (xs (i + 2)) h6 h2) mv_yX5_get mw_122 rfl ⟨rfl, rfl, Nat.le_of_ble_eq_true rfl, Nat.le_of_ble_eq_true rfl⟩ rfl hl (Nat.le_of_ble_eq_true rfl) rfl rfl dL_law_235 ⟨Nat.le_of_ble_eq_true rfl, Nat.le_of_ble_eq_true rfl⟩ (fun H locs hW => ?_)
  have E := eq_get hR (xs (i + 1)) (xs (i + 2))
  exact lv_icmp_eq (tgt := 778) hx hb dL_law_238 (by decide) (fun _ => NX _ _ _ _ _ _ _ _ _ _ _ _ _ _ _ _ _ _ Dd sv hR hs H locs hW ls hl) (fun c9 => absurd E c9)
set_option maxHeartbeats 4000000 in
set_option maxRecDepth 100000 in
theorem op_is {p : Program} {l : Launch} {e : Env} {s : State} {m : MethodId} {args : Array Value} {below : List Frame} {meth : Method} {c : Code} {Q : State → Prop} {D : va_G} {cyI cO cyZ : ClassId} {aC aM : Nat → Nat} {A : Nat → Prop} {fa b L i : Nat} {xs : Nat → Int32} (C : Cx p s m args meth c code 4 RL D (ty3 cyI cO cyZ) fa A) (hX : va_X b L xs s s.heap) (hbl : b < s.heap.size) (hbA : ¬ A b) (hL : L ≤ 2048) (hi : i + 4 ≤ L) (NX : Nx p l e s m args below meth c Q D cyI cO cyZ aC aM A b i 778) : Nx p l e s m args below meth c Q D cyI cO cyZ aC aM A b i 243 := by
  intro n d md go ke ha wy ab be t m2 jd jn wm od ab2 be2 hh Dd sv hR hs H locs hW ls hl
  have h2 := hR.1.1
  have h6 := hR.1.2
  have hx := C.1
  have hb := C.2.1
  refine lv_aload_n hx hb dL_law_243 rfl (lv_at hl 2 rfl) ?_
  refine s_ld (k := 1) hx hb hX hbl hbA hW.2.2.2.2.2 (by omega) hL (lv_at hl 3 rfl) (lv_at hl 0 rfl) dL_law_244 dL_law_245 dL_law_246 (by decide) dL_law_247 dL_law_248 ?_
  refine l_callC (As := [.int (xs (i + 1))]) (rest := []) (st1 := [.int _]) C hW cC_0 (c_X4_is l D cyI cO cyZ aC fa n d md go ke ha wy ab be (nI sv) (xs (i + 1)) h6) mv_yX4_is mw_130 rfl ⟨rfl, rfl, Nat.le_of_ble_eq_true rfl, Nat.le_of_ble_eq_true rfl⟩ rfl hl (Nat.le_of_ble_eq_true rfl) rfl rfl dL_law_249 ⟨Nat.le_of_ble_eq_true rfl, Nat.le_of_ble_eq_true rfl⟩ (fun H locs hW => ?_)
  refine lv_aload_n hx hb dL_law_252 rfl (lv_at hl 1 rfl) ?_
  refine s_ld (k := 1) hx hb hX hbl hbA hW.2.2.2.2.2 (by omega) hL (lv_at hl 3 rfl) (lv_at hl 0 rfl) dL_law_253 dL_law_254 dL_law_255 (by decide) dL_law_256 dL_law_257 ?_
  refine l_callM (As := [.int (xs (i + 1))]) (rest := [.int _]) (st1 := [.int _, .int _]) C hW cM_0 (c_X5_is l D cyI cO cyZ aM fa n t m2 jd jn wm od (nI sv) ab2 be2 hh (xs (i + 1)) h6) mv_yX5_is mw_167 rfl ⟨rfl, rfl, Nat.le_of_ble_eq_true rfl, Nat.le_of_ble_eq_true rfl⟩ rfl hl (Nat.le_of_ble_eq_true rfl) rfl rfl dL_law_258 ⟨Nat.le_of_ble_eq_true rfl, Nat.le_of_ble_eq_true rfl⟩ (fun H locs hW => ?_)
  have E := eq_is hR (xs (i + 1))
  exact lv_icmp_eq (tgt := 778) hx hb dL_law_261 (by decide) (fun _ => NX _ _ _ _ _ _ _ _ _ _ _ _ _ _ _ _ _ _ Dd sv hR hs H locs hW ls hl) (fun c9 => absurd E c9)
set_option maxHeartbeats 4000000 in
set_option maxRecDepth 100000 in
theorem op_broken {p : Program} {l : Launch} {e : Env} {s : State} {m : MethodId} {args : Array Value} {below : List Frame} {meth : Method} {c : Code} {Q : State → Prop} {D : va_G} {cyI cO cyZ : ClassId} {aC aM : Nat → Nat} {A : Nat → Prop} {fa b L i : Nat} {xs : Nat → Int32} (C : Cx p s m args meth c code 4 RL D (ty3 cyI cO cyZ) fa A) (hX : va_X b L xs s s.heap) (hbl : b < s.heap.size) (hbA : ¬ A b) (hL : L ≤ 2048) (hi : i + 4 ≤ L) (NX : Nx p l e s m args below meth c Q D cyI cO cyZ aC aM A b i 778) : Nx p l e s m args below meth c Q D cyI cO cyZ aC aM A b i 266 := by
  intro n d md go ke ha wy ab be t m2 jd jn wm od ab2 be2 hh Dd sv hR hs H locs hW ls hl
  have h2 := hR.1.1
  have h6 := hR.1.2
  have hx := C.1
  have hb := C.2.1
  refine lv_aload_n hx hb dL_law_266 rfl (lv_at hl 2 rfl) ?_
  refine s_ld (k := 1) hx hb hX hbl hbA hW.2.2.2.2.2 (by omega) hL (lv_at hl 3 rfl) (lv_at hl 0 rfl) dL_law_267 dL_law_268 dL_law_269 (by decide) dL_law_270 dL_law_271 ?_
  refine l_callC (As := [.int (xs (i + 1))]) (rest := []) (st1 := [.int _]) C hW cC_0 (c_X4_broken l D cyI cO cyZ aC fa n d md go ke ha wy ab be (nI sv) (xs (i + 1)) h6) mv_yX4_broken mw_182 rfl ⟨rfl, rfl, Nat.le_of_ble_eq_true rfl, Nat.le_of_ble_eq_true rfl⟩ rfl hl (Nat.le_of_ble_eq_true rfl) rfl rfl dL_law_272 ⟨Nat.le_of_ble_eq_true rfl, Nat.le_of_ble_eq_true rfl⟩ (fun H locs hW => ?_)
  refine lv_aload_n hx hb dL_law_275 rfl (lv_at hl 1 rfl) ?_
  refine s_ld (k := 1) hx hb hX hbl hbA hW.2.2.2.2.2 (by omega) hL (lv_at hl 3 rfl) (lv_at hl 0 rfl) dL_law_276 dL_law_277 dL_law_278 (by decide) dL_law_279 dL_law_280 ?_
  refine l_callM (As := [.int (xs (i + 1))]) (rest := [.int _]) (st1 := [.int _, .int _]) C hW cM_0 (c_X5_broken l D cyI cO cyZ aM fa n t m2 jd jn wm od (nI sv) ab2 be2 hh (xs (i + 1)) h6) mv_yX5_broken mw_186 rfl ⟨rfl, rfl, Nat.le_of_ble_eq_true rfl, Nat.le_of_ble_eq_true rfl⟩ rfl hl (Nat.le_of_ble_eq_true rfl) rfl rfl dL_law_281 ⟨Nat.le_of_ble_eq_true rfl, Nat.le_of_ble_eq_true rfl⟩ (fun H locs hW => ?_)
  have E := eq_broken hR (xs (i + 1))
  exact lv_icmp_eq (tgt := 778) hx hb dL_law_284 (by decide) (fun _ => NX _ _ _ _ _ _ _ _ _ _ _ _ _ _ _ _ _ _ Dd sv hR hs H locs hW ls hl) (fun c9 => absurd E c9)
set_option maxHeartbeats 4000000 in
set_option maxRecDepth 100000 in
theorem op_mend {p : Program} {l : Launch} {e : Env} {s : State} {m : MethodId} {args : Array Value} {below : List Frame} {meth : Method} {c : Code} {Q : State → Prop} {D : va_G} {cyI cO cyZ : ClassId} {aC aM : Nat → Nat} {A : Nat → Prop} {fa b L i : Nat} {xs : Nat → Int32} (C : Cx p s m args meth c code 4 RL D (ty3 cyI cO cyZ) fa A) (hX : va_X b L xs s s.heap) (hbl : b < s.heap.size) (hbA : ¬ A b) (hL : L ≤ 2048) (hi : i + 4 ≤ L) (NX : Nx p l e s m args below meth c Q D cyI cO cyZ aC aM A b i 778) : Nx p l e s m args below meth c Q D cyI cO cyZ aC aM A b i 289 := by
  intro n d md go ke ha wy ab be t m2 jd jn wm od ab2 be2 hh Dd sv hR hs H locs hW ls hl
  have h2 := hR.1.1
  have h6 := hR.1.2
  have hx := C.1
  have hb := C.2.1
  refine lv_aload_n hx hb dL_law_289 rfl (lv_at hl 2 rfl) ?_
  refine l_callC (As := []) (rest := []) (st1 := [.int _]) C hW cC_0 (c_X4_mend l D cyI cO cyZ aC fa n d md go ke ha wy ab be (nI sv)  h6) mv_yX4_mend mw_190 rfl ⟨rfl, rfl, Nat.le_of_ble_eq_true rfl, Nat.le_of_ble_eq_true rfl⟩ rfl hl (Nat.le_of_ble_eq_true rfl) rfl rfl dL_law_290 ⟨Nat.le_of_ble_eq_true rfl, Nat.le_of_ble_eq_true rfl⟩ (fun H locs hW => ?_)
  refine lv_aload_n hx hb dL_law_293 rfl (lv_at hl 1 rfl) ?_
  refine l_callM (As := []) (rest := [.int _]) (st1 := [.int _, .int _]) C hW cM_0 (c_X5_mend l D cyI cO cyZ aM fa n t m2 jd jn wm od (nI sv) ab2 be2 hh  h6) mv_yX5_mend mw_214 rfl ⟨rfl, rfl, Nat.le_of_ble_eq_true rfl, Nat.le_of_ble_eq_true rfl⟩ rfl hl (Nat.le_of_ble_eq_true rfl) rfl rfl dL_law_294 ⟨Nat.le_of_ble_eq_true rfl, Nat.le_of_ble_eq_true rfl⟩ (fun H locs hW => ?_)
  obtain ⟨D2, hR2⟩ := (eq_mend hR md m2 (Or.inl ⟨rfl, rfl⟩)).2
  have E := (eq_mend hR md m2 (Or.inl ⟨rfl, rfl⟩)).1
  exact lv_icmp_eq (tgt := 778) hx hb dL_law_297 (by decide) (fun _ => NX _ _ _ _ _ _ _ _ _ _ _ _ _ _ _ _ _ _ D2 sv hR2 hs H locs hW ls hl) (fun c9 => absurd E c9)
set_option maxHeartbeats 4000000 in
set_option maxRecDepth 100000 in
theorem op_low {p : Program} {l : Launch} {e : Env} {s : State} {m : MethodId} {args : Array Value} {below : List Frame} {meth : Method} {c : Code} {Q : State → Prop} {D : va_G} {cyI cO cyZ : ClassId} {aC aM : Nat → Nat} {A : Nat → Prop} {fa b L i : Nat} {xs : Nat → Int32} (C : Cx p s m args meth c code 4 RL D (ty3 cyI cO cyZ) fa A) (hX : va_X b L xs s s.heap) (hbl : b < s.heap.size) (hbA : ¬ A b) (hL : L ≤ 2048) (hi : i + 4 ≤ L) (NX : Nx p l e s m args below meth c Q D cyI cO cyZ aC aM A b i 778) : Nx p l e s m args below meth c Q D cyI cO cyZ aC aM A b i 302 := by
  intro n d md go ke ha wy ab be t m2 jd jn wm od ab2 be2 hh Dd sv hR hs H locs hW ls hl
  have h2 := hR.1.1
  have h6 := hR.1.2
  have hx := C.1
  have hb := C.2.1
  refine lv_aload_n hx hb dL_law_302 rfl (lv_at hl 2 rfl) ?_
  refine s_ld (k := 1) hx hb hX hbl hbA hW.2.2.2.2.2 (by omega) hL (lv_at hl 3 rfl) (lv_at hl 0 rfl) dL_law_303 dL_law_304 dL_law_305 (by decide) dL_law_306 dL_law_307 ?_
  refine s_ld (k := 2) hx hb hX hbl hbA hW.2.2.2.2.2 (by omega) hL (lv_at hl 3 rfl) (lv_at hl 0 rfl) dL_law_308 dL_law_309 dL_law_310 (by decide) dL_law_311 dL_law_312 ?_
  refine l_callC (As := [.int (xs (i + 1)), .int (xs (i + 2))]) (rest := []) (st1 := [.int _]) C hW cC_0 (c_X4_low l D cyI cO cyZ aC fa n d md go ke ha wy ab be (nI sv) (xs (i + 1)) (xs (i + 2)) h6) mv_yX4_low mw_226 rfl ⟨rfl, rfl, Nat.le_of_ble_eq_true rfl, Nat.le_of_ble_eq_true rfl⟩ rfl hl (Nat.le_of_ble_eq_true rfl) rfl rfl dL_law_313 ⟨Nat.le_of_ble_eq_true rfl, Nat.le_of_ble_eq_true rfl⟩ (fun H locs hW => ?_)
  refine lv_aload_n hx hb dL_law_316 rfl (lv_at hl 1 rfl) ?_
  refine s_ld (k := 1) hx hb hX hbl hbA hW.2.2.2.2.2 (by omega) hL (lv_at hl 3 rfl) (lv_at hl 0 rfl) dL_law_317 dL_law_318 dL_law_319 (by decide) dL_law_320 dL_law_321 ?_
  refine s_ld (k := 2) hx hb hX hbl hbA hW.2.2.2.2.2 (by omega) hL (lv_at hl 3 rfl) (lv_at hl 0 rfl) dL_law_322 dL_law_323 dL_law_324 (by decide) dL_law_325 dL_law_326 ?_
  refine l_callM (As := [.int (xs (i + 1)), .int (xs (i + 2))]) (rest := [.int _]) (st1 := [.int _, .int _]) C hW cM_0 (c_X5_low l D cyI cO cyZ aM fa n t m2 jd jn wm od (nI sv) ab2 be2 hh (xs (i + 1)) (xs (i + 2)) h6 h2) mv_yX5_low mw_230 rfl ⟨rfl, rfl, Nat.le_of_ble_eq_true rfl, Nat.le_of_ble_eq_true rfl⟩ rfl hl (Nat.le_of_ble_eq_true rfl) rfl rfl dL_law_327 ⟨Nat.le_of_ble_eq_true rfl, Nat.le_of_ble_eq_true rfl⟩ (fun H locs hW => ?_)
  have E := eq_low hR md m2 (xs (i + 1)) (xs (i + 2))
  exact lv_icmp_eq (tgt := 778) hx hb dL_law_330 (by decide) (fun _ => NX _ _ _ _ _ _ _ _ _ _ _ _ _ _ _ _ _ _ Dd sv hR hs H locs hW ls hl) (fun c9 => absurd E c9)
set_option maxHeartbeats 4000000 in
set_option maxRecDepth 100000 in
theorem op_gap {p : Program} {l : Launch} {e : Env} {s : State} {m : MethodId} {args : Array Value} {below : List Frame} {meth : Method} {c : Code} {Q : State → Prop} {D : va_G} {cyI cO cyZ : ClassId} {aC aM : Nat → Nat} {A : Nat → Prop} {fa b L i : Nat} {xs : Nat → Int32} (C : Cx p s m args meth c code 4 RL D (ty3 cyI cO cyZ) fa A) (hX : va_X b L xs s s.heap) (hbl : b < s.heap.size) (hbA : ¬ A b) (hL : L ≤ 2048) (hi : i + 4 ≤ L) (NX : Nx p l e s m args below meth c Q D cyI cO cyZ aC aM A b i 778) : Nx p l e s m args below meth c Q D cyI cO cyZ aC aM A b i 335 := by
  intro n d md go ke ha wy ab be t m2 jd jn wm od ab2 be2 hh Dd sv hR hs H locs hW ls hl
  have h2 := hR.1.1
  have h6 := hR.1.2
  have hx := C.1
  have hb := C.2.1
  refine lv_aload_n hx hb dL_law_335 rfl (lv_at hl 2 rfl) ?_
  refine l_callC (As := []) (rest := []) (st1 := [.int _]) C hW cC_0 (c_X4_gap l D cyI cO cyZ aC fa n d md go ke ha wy ab be (nI sv)  h6) mv_yX4_gap mw_234 rfl ⟨rfl, rfl, Nat.le_of_ble_eq_true rfl, Nat.le_of_ble_eq_true rfl⟩ rfl hl (Nat.le_of_ble_eq_true rfl) rfl rfl dL_law_336 ⟨Nat.le_of_ble_eq_true rfl, Nat.le_of_ble_eq_true rfl⟩ (fun H locs hW => ?_)
  refine lv_aload_n hx hb dL_law_339 rfl (lv_at hl 1 rfl) ?_
  refine l_callM (As := []) (rest := [.int _]) (st1 := [.int _, .int _]) C hW cM_0 (c_X5_gap l D cyI cO cyZ aM fa n t m2 jd jn wm od (nI sv) ab2 be2 hh  h6) mv_yX5_gap mw_242 rfl ⟨rfl, rfl, Nat.le_of_ble_eq_true rfl, Nat.le_of_ble_eq_true rfl⟩ rfl hl (Nat.le_of_ble_eq_true rfl) rfl rfl dL_law_340 ⟨Nat.le_of_ble_eq_true rfl, Nat.le_of_ble_eq_true rfl⟩ (fun H locs hW => ?_)
  have E := eq_gap hR md m2
  exact lv_icmp_eq (tgt := 778) hx hb dL_law_343 (by decide) (fun _ => NX _ _ _ _ _ _ _ _ _ _ _ _ _ _ _ _ _ _ Dd sv hR hs H locs hW ls hl) (fun c9 => absurd E c9)
set_option maxHeartbeats 4000000 in
set_option maxRecDepth 100000 in
theorem op_groups {p : Program} {l : Launch} {e : Env} {s : State} {m : MethodId} {args : Array Value} {below : List Frame} {meth : Method} {c : Code} {Q : State → Prop} {D : va_G} {cyI cO cyZ : ClassId} {aC aM : Nat → Nat} {A : Nat → Prop} {fa b L i : Nat} {xs : Nat → Int32} (C : Cx p s m args meth c code 4 RL D (ty3 cyI cO cyZ) fa A) (hX : va_X b L xs s s.heap) (hbl : b < s.heap.size) (hbA : ¬ A b) (hL : L ≤ 2048) (hi : i + 4 ≤ L) (NX : Nx p l e s m args below meth c Q D cyI cO cyZ aC aM A b i 778) : Nx p l e s m args below meth c Q D cyI cO cyZ aC aM A b i 348 := by
  intro n d md go ke ha wy ab be t m2 jd jn wm od ab2 be2 hh Dd sv hR hs H locs hW ls hl
  have h2 := hR.1.1
  have h6 := hR.1.2
  have hx := C.1
  have hb := C.2.1
  refine lv_aload_n hx hb dL_law_348 rfl (lv_at hl 2 rfl) ?_
  refine s_ld (k := 1) hx hb hX hbl hbA hW.2.2.2.2.2 (by omega) hL (lv_at hl 3 rfl) (lv_at hl 0 rfl) dL_law_349 dL_law_350 dL_law_351 (by decide) dL_law_352 dL_law_353 ?_
  refine l_callC (As := [.int (xs (i + 1))]) (rest := []) (st1 := [.int _]) C hW cC_0 (c_X4_groups l D cyI cO cyZ aC fa n d md go ke ha wy ab be (nI sv) (xs (i + 1)) h6) mv_yX4_groups mw_246 rfl ⟨rfl, rfl, Nat.le_of_ble_eq_true rfl, Nat.le_of_ble_eq_true rfl⟩ rfl hl (Nat.le_of_ble_eq_true rfl) rfl rfl dL_law_354 ⟨Nat.le_of_ble_eq_true rfl, Nat.le_of_ble_eq_true rfl⟩ (fun H locs hW => ?_)
  refine lv_aload_n hx hb dL_law_357 rfl (lv_at hl 1 rfl) ?_
  refine s_ld (k := 1) hx hb hX hbl hbA hW.2.2.2.2.2 (by omega) hL (lv_at hl 3 rfl) (lv_at hl 0 rfl) dL_law_358 dL_law_359 dL_law_360 (by decide) dL_law_361 dL_law_362 ?_
  refine l_callM (As := [.int (xs (i + 1))]) (rest := [.int _]) (st1 := [.int _, .int _]) C hW cM_0 (c_X5_groups l D cyI cO cyZ aM fa n t m2 jd jn wm od (nI sv) ab2 be2 hh (xs (i + 1)) h6) mv_yX5_groups mw_258 rfl ⟨rfl, rfl, Nat.le_of_ble_eq_true rfl, Nat.le_of_ble_eq_true rfl⟩ rfl hl (Nat.le_of_ble_eq_true rfl) rfl rfl dL_law_363 ⟨Nat.le_of_ble_eq_true rfl, Nat.le_of_ble_eq_true rfl⟩ (fun H locs hW => ?_)
  have E := eq_groups hR md m2 (xs (i + 1))
  exact lv_icmp_eq (tgt := 778) hx hb dL_law_366 (by decide) (fun _ => NX _ _ _ _ _ _ _ _ _ _ _ _ _ _ _ _ _ _ Dd sv hR hs H locs hW ls hl) (fun c9 => absurd E c9)
set_option maxHeartbeats 4000000 in
set_option maxRecDepth 100000 in
theorem op_lower {p : Program} {l : Launch} {e : Env} {s : State} {m : MethodId} {args : Array Value} {below : List Frame} {meth : Method} {c : Code} {Q : State → Prop} {D : va_G} {cyI cO cyZ : ClassId} {aC aM : Nat → Nat} {A : Nat → Prop} {fa b L i : Nat} {xs : Nat → Int32} (C : Cx p s m args meth c code 4 RL D (ty3 cyI cO cyZ) fa A) (hX : va_X b L xs s s.heap) (hbl : b < s.heap.size) (hbA : ¬ A b) (hL : L ≤ 2048) (hi : i + 4 ≤ L) (NX : Nx p l e s m args below meth c Q D cyI cO cyZ aC aM A b i 778) : Nx p l e s m args below meth c Q D cyI cO cyZ aC aM A b i 371 := by
  intro n d md go ke ha wy ab be t m2 jd jn wm od ab2 be2 hh Dd sv hR hs H locs hW ls hl
  have h2 := hR.1.1
  have h6 := hR.1.2
  have hx := C.1
  have hb := C.2.1
  refine lv_aload_n hx hb dL_law_371 rfl (lv_at hl 2 rfl) ?_
  refine l_callC (As := []) (rest := []) (st1 := [.int _]) C hW cC_0 (c_X4_lower l D cyI cO cyZ aC fa n d md go ke ha wy ab be (nI sv)  h6) mv_yX4_lower mw_262 rfl ⟨rfl, rfl, Nat.le_of_ble_eq_true rfl, Nat.le_of_ble_eq_true rfl⟩ rfl hl (Nat.le_of_ble_eq_true rfl) rfl rfl dL_law_372 ⟨Nat.le_of_ble_eq_true rfl, Nat.le_of_ble_eq_true rfl⟩ (fun H locs hW => ?_)
  refine lv_aload_n hx hb dL_law_375 rfl (lv_at hl 1 rfl) ?_
  refine l_callM (As := []) (rest := [.int _]) (st1 := [.int _, .int _]) C hW cM_0 (c_X5_lower l D cyI cO cyZ aM fa n t m2 jd jn wm od (nI sv) ab2 be2 hh  h6) mv_yX5_lower mw_266 rfl ⟨rfl, rfl, Nat.le_of_ble_eq_true rfl, Nat.le_of_ble_eq_true rfl⟩ rfl hl (Nat.le_of_ble_eq_true rfl) rfl rfl dL_law_376 ⟨Nat.le_of_ble_eq_true rfl, Nat.le_of_ble_eq_true rfl⟩ (fun H locs hW => ?_)
  obtain ⟨D2, hR2⟩ := (eq_mend hR md m2 (Or.inr ⟨rfl, rfl⟩)).2
  have E := (eq_mend hR md m2 (Or.inr ⟨rfl, rfl⟩)).1
  exact lv_icmp_eq (tgt := 778) hx hb dL_law_379 (by decide) (fun _ => NX _ _ _ _ _ _ _ _ _ _ _ _ _ _ _ _ _ _ D2 sv hR2 hs H locs hW ls hl) (fun c9 => absurd E c9)
set_option maxHeartbeats 4000000 in
set_option maxRecDepth 100000 in
theorem op_codes {p : Program} {l : Launch} {e : Env} {s : State} {m : MethodId} {args : Array Value} {below : List Frame} {meth : Method} {c : Code} {Q : State → Prop} {D : va_G} {cyI cO cyZ : ClassId} {aC aM : Nat → Nat} {A : Nat → Prop} {fa b L i : Nat} {xs : Nat → Int32} (C : Cx p s m args meth c code 4 RL D (ty3 cyI cO cyZ) fa A) (hX : va_X b L xs s s.heap) (hbl : b < s.heap.size) (hbA : ¬ A b) (hL : L ≤ 2048) (hi : i + 4 ≤ L) (NX : Nx p l e s m args below meth c Q D cyI cO cyZ aC aM A b i 778) : Nx p l e s m args below meth c Q D cyI cO cyZ aC aM A b i 384 := by
  intro n d md go ke ha wy ab be t m2 jd jn wm od ab2 be2 hh Dd sv hR hs H locs hW ls hl
  have h2 := hR.1.1
  have h6 := hR.1.2
  have hx := C.1
  have hb := C.2.1
  refine lv_aload_n hx hb dL_law_384 rfl (lv_at hl 2 rfl) ?_
  refine l_callC (As := []) (rest := []) (st1 := [.int _]) C hW cC_0 (c_X4_codes l D cyI cO cyZ aC fa n d md go ke ha wy ab be (nI sv)  h6 h2) mv_yX4_codes mw_270 rfl ⟨rfl, rfl, Nat.le_of_ble_eq_true rfl, Nat.le_of_ble_eq_true rfl⟩ rfl hl (Nat.le_of_ble_eq_true rfl) rfl rfl dL_law_385 ⟨Nat.le_of_ble_eq_true rfl, Nat.le_of_ble_eq_true rfl⟩ (fun H locs hW => ?_)
  refine lv_aload_n hx hb dL_law_388 rfl (lv_at hl 1 rfl) ?_
  refine l_callM (As := []) (rest := [.int _]) (st1 := [.int _, .int _]) C hW cM_0 (c_X5_codes l D cyI cO cyZ aM fa n t m2 jd jn wm od (nI sv) ab2 be2 hh  h6 h2) mv_yX5_codes mw_278 rfl ⟨rfl, rfl, Nat.le_of_ble_eq_true rfl, Nat.le_of_ble_eq_true rfl⟩ rfl hl (Nat.le_of_ble_eq_true rfl) rfl rfl dL_law_389 ⟨Nat.le_of_ble_eq_true rfl, Nat.le_of_ble_eq_true rfl⟩ (fun H locs hW => ?_)
  have E : nI (cmV n) = nI (cmV n) := rfl
  exact lv_icmp_eq (tgt := 778) hx hb dL_law_392 (by decide) (fun _ => NX _ _ _ _ _ _ _ _ _ _ _ _ _ _ _ _ _ _ Dd sv hR hs H locs hW ls hl) (fun c9 => absurd E c9)
set_option maxHeartbeats 4000000 in
set_option maxRecDepth 100000 in
theorem op_joined {p : Program} {l : Launch} {e : Env} {s : State} {m : MethodId} {args : Array Value} {below : List Frame} {meth : Method} {c : Code} {Q : State → Prop} {D : va_G} {cyI cO cyZ : ClassId} {aC aM : Nat → Nat} {A : Nat → Prop} {fa b L i : Nat} {xs : Nat → Int32} (C : Cx p s m args meth c code 4 RL D (ty3 cyI cO cyZ) fa A) (hX : va_X b L xs s s.heap) (hbl : b < s.heap.size) (hbA : ¬ A b) (hL : L ≤ 2048) (hi : i + 4 ≤ L) (NX : Nx p l e s m args below meth c Q D cyI cO cyZ aC aM A b i 778) : Nx p l e s m args below meth c Q D cyI cO cyZ aC aM A b i 397 := by
  intro n d md go ke ha wy ab be t m2 jd jn wm od ab2 be2 hh Dd sv hR hs H locs hW ls hl
  have h2 := hR.1.1
  have h6 := hR.1.2
  have hx := C.1
  have hb := C.2.1
  refine lv_aload_n hx hb dL_law_397 rfl (lv_at hl 2 rfl) ?_
  refine s_ld (k := 1) hx hb hX hbl hbA hW.2.2.2.2.2 (by omega) hL (lv_at hl 3 rfl) (lv_at hl 0 rfl) dL_law_398 dL_law_399 dL_law_400 (by decide) dL_law_401 dL_law_402 ?_
  refine s_ld (k := 2) hx hb hX hbl hbA hW.2.2.2.2.2 (by omega) hL (lv_at hl 3 rfl) (lv_at hl 0 rfl) dL_law_403 dL_law_404 dL_law_405 (by decide) dL_law_406 dL_law_407 ?_
  refine s_ld (k := 3) hx hb hX hbl hbA hW.2.2.2.2.2 (by omega) hL (lv_at hl 3 rfl) (lv_at hl 0 rfl) dL_law_408 dL_law_409 dL_law_410 (by decide) dL_law_411 dL_law_412 ?_
  refine l_callC (As := [.int (xs (i + 1)), .int (xs (i + 2)), .int (xs (i + 3))]) (rest := []) (st1 := [.int _]) C hW cC_0 (c_X4_joined l D cyI cO cyZ aC fa n d md go ke ha wy ab be (nI sv) (xs (i + 1)) (xs (i + 2)) (xs (i + 3)) h6 h2) mv_yX4_joined mw_286 rfl ⟨rfl, rfl, Nat.le_of_ble_eq_true rfl, Nat.le_of_ble_eq_true rfl⟩ rfl hl (Nat.le_of_ble_eq_true rfl) rfl rfl dL_law_413 ⟨Nat.le_of_ble_eq_true rfl, Nat.le_of_ble_eq_true rfl⟩ (fun H locs hW => ?_)
  refine lv_aload_n hx hb dL_law_416 rfl (lv_at hl 1 rfl) ?_
  refine s_ld (k := 1) hx hb hX hbl hbA hW.2.2.2.2.2 (by omega) hL (lv_at hl 3 rfl) (lv_at hl 0 rfl) dL_law_417 dL_law_418 dL_law_419 (by decide) dL_law_420 dL_law_421 ?_
  refine s_ld (k := 2) hx hb hX hbl hbA hW.2.2.2.2.2 (by omega) hL (lv_at hl 3 rfl) (lv_at hl 0 rfl) dL_law_422 dL_law_423 dL_law_424 (by decide) dL_law_425 dL_law_426 ?_
  refine s_ld (k := 3) hx hb hX hbl hbA hW.2.2.2.2.2 (by omega) hL (lv_at hl 3 rfl) (lv_at hl 0 rfl) dL_law_427 dL_law_428 dL_law_429 (by decide) dL_law_430 dL_law_431 ?_
  refine l_callM (As := [.int (xs (i + 1)), .int (xs (i + 2)), .int (xs (i + 3))]) (rest := [.int _]) (st1 := [.int _, .int _]) C hW cM_0 (c_X5_joined l D cyI cO cyZ aM fa n t m2 jd jn wm od (nI sv) ab2 be2 hh (xs (i + 1)) (xs (i + 2)) (xs (i + 3)) h6 h2 (LfOK_all h2 h6)) mv_yX5_joined mw_311 rfl ⟨rfl, rfl, Nat.le_of_ble_eq_true rfl, Nat.le_of_ble_eq_true rfl⟩ rfl hl (Nat.le_of_ble_eq_true rfl) rfl rfl dL_law_432 ⟨Nat.le_of_ble_eq_true rfl, Nat.le_of_ble_eq_true rfl⟩ (fun H locs hW => ?_)
  have E := eq_joined hR go ke ha jd jn (xs (i + 1)) (xs (i + 2)) (xs (i + 3))
  exact lv_icmp_eq (tgt := 778) hx hb dL_law_435 (by decide) (fun _ => NX _ _ _ _ _ _ _ _ _ _ _ _ _ _ _ _ _ _ Dd sv hR hs H locs hW ls hl) (fun c9 => absurd E c9)
set_option maxHeartbeats 4000000 in
set_option maxRecDepth 100000 in
theorem op_way {p : Program} {l : Launch} {e : Env} {s : State} {m : MethodId} {args : Array Value} {below : List Frame} {meth : Method} {c : Code} {Q : State → Prop} {D : va_G} {cyI cO cyZ : ClassId} {aC aM : Nat → Nat} {A : Nat → Prop} {fa b L i : Nat} {xs : Nat → Int32} (C : Cx p s m args meth c code 4 RL D (ty3 cyI cO cyZ) fa A) (hX : va_X b L xs s s.heap) (hbl : b < s.heap.size) (hbA : ¬ A b) (hL : L ≤ 2048) (hi : i + 4 ≤ L) (NX : Nx p l e s m args below meth c Q D cyI cO cyZ aC aM A b i 778) : Nx p l e s m args below meth c Q D cyI cO cyZ aC aM A b i 440 := by
  intro n d md go ke ha wy ab be t m2 jd jn wm od ab2 be2 hh Dd sv hR hs H locs hW ls hl
  have h2 := hR.1.1
  have h6 := hR.1.2
  have hx := C.1
  have hb := C.2.1
  refine lv_aload_n hx hb dL_law_440 rfl (lv_at hl 2 rfl) ?_
  refine s_ld (k := 1) hx hb hX hbl hbA hW.2.2.2.2.2 (by omega) hL (lv_at hl 3 rfl) (lv_at hl 0 rfl) dL_law_441 dL_law_442 dL_law_443 (by decide) dL_law_444 dL_law_445 ?_
  refine s_ld (k := 2) hx hb hX hbl hbA hW.2.2.2.2.2 (by omega) hL (lv_at hl 3 rfl) (lv_at hl 0 rfl) dL_law_446 dL_law_447 dL_law_448 (by decide) dL_law_449 dL_law_450 ?_
  refine s_ld (k := 3) hx hb hX hbl hbA hW.2.2.2.2.2 (by omega) hL (lv_at hl 3 rfl) (lv_at hl 0 rfl) dL_law_451 dL_law_452 dL_law_453 (by decide) dL_law_454 dL_law_455 ?_
  refine l_callC (As := [.int (xs (i + 1)), .int (xs (i + 2)), .int (xs (i + 3))]) (rest := []) (st1 := [.int _]) C hW cC_0 (c_X4_way l D cyI cO cyZ aC fa n d md go ke ha wy ab be (nI sv) (xs (i + 1)) (xs (i + 2)) (xs (i + 3)) h6 h2) mv_yX4_way mw_331 rfl ⟨rfl, rfl, Nat.le_of_ble_eq_true rfl, Nat.le_of_ble_eq_true rfl⟩ rfl hl (Nat.le_of_ble_eq_true rfl) rfl rfl dL_law_456 ⟨Nat.le_of_ble_eq_true rfl, Nat.le_of_ble_eq_true rfl⟩ (fun H locs hW => ?_)
  refine lv_aload_n hx hb dL_law_459 rfl (lv_at hl 1 rfl) ?_
  refine s_ld (k := 1) hx hb hX hbl hbA hW.2.2.2.2.2 (by omega) hL (lv_at hl 3 rfl) (lv_at hl 0 rfl) dL_law_460 dL_law_461 dL_law_462 (by decide) dL_law_463 dL_law_464 ?_
  refine s_ld (k := 2) hx hb hX hbl hbA hW.2.2.2.2.2 (by omega) hL (lv_at hl 3 rfl) (lv_at hl 0 rfl) dL_law_465 dL_law_466 dL_law_467 (by decide) dL_law_468 dL_law_469 ?_
  refine s_ld (k := 3) hx hb hX hbl hbA hW.2.2.2.2.2 (by omega) hL (lv_at hl 3 rfl) (lv_at hl 0 rfl) dL_law_470 dL_law_471 dL_law_472 (by decide) dL_law_473 dL_law_474 ?_
  refine l_callM (As := [.int (xs (i + 1)), .int (xs (i + 2)), .int (xs (i + 3))]) (rest := [.int _]) (st1 := [.int _, .int _]) C hW cM_0 (c_X5_way l D cyI cO cyZ aM fa n t m2 jd jn wm od (nI sv) ab2 be2 hh (xs (i + 1)) (xs (i + 2)) (xs (i + 3)) h6 h2 (LfOK_all h2 h6)) mv_yX5_way mw_344 rfl ⟨rfl, rfl, Nat.le_of_ble_eq_true rfl, Nat.le_of_ble_eq_true rfl⟩ rfl hl (Nat.le_of_ble_eq_true rfl) rfl rfl dL_law_475 ⟨Nat.le_of_ble_eq_true rfl, Nat.le_of_ble_eq_true rfl⟩ (fun H locs hW => ?_)
  have E := eq_way hR ke ha wy jd jn wm (xs (i + 1)) (xs (i + 2)) (xs (i + 3))
  exact lv_icmp_eq (tgt := 778) hx hb dL_law_478 (by decide) (fun _ => NX _ _ _ _ _ _ _ _ _ _ _ _ _ _ _ _ _ _ Dd sv hR hs H locs hW ls hl) (fun c9 => absurd E c9)
set_option maxHeartbeats 4000000 in
set_option maxRecDepth 100000 in
theorem op_stretch {p : Program} {l : Launch} {e : Env} {s : State} {m : MethodId} {args : Array Value} {below : List Frame} {meth : Method} {c : Code} {Q : State → Prop} {D : va_G} {cyI cO cyZ : ClassId} {aC aM : Nat → Nat} {A : Nat → Prop} {fa b L i : Nat} {xs : Nat → Int32} (C : Cx p s m args meth c code 4 RL D (ty3 cyI cO cyZ) fa A) (hX : va_X b L xs s s.heap) (hbl : b < s.heap.size) (hbA : ¬ A b) (hL : L ≤ 2048) (hi : i + 4 ≤ L) (NX : Nx p l e s m args below meth c Q D cyI cO cyZ aC aM A b i 778) : Nx p l e s m args below meth c Q D cyI cO cyZ aC aM A b i 483 := by
  intro n d md go ke ha wy ab be t m2 jd jn wm od ab2 be2 hh Dd sv hR hs H locs hW ls hl
  have h2 := hR.1.1
  have h6 := hR.1.2
  have hx := C.1
  have hb := C.2.1
  refine lv_aload_n hx hb dL_law_483 rfl (lv_at hl 2 rfl) ?_
  refine s_ld (k := 1) hx hb hX hbl hbA hW.2.2.2.2.2 (by omega) hL (lv_at hl 3 rfl) (lv_at hl 0 rfl) dL_law_484 dL_law_485 dL_law_486 (by decide) dL_law_487 dL_law_488 ?_
  refine s_ld (k := 2) hx hb hX hbl hbA hW.2.2.2.2.2 (by omega) hL (lv_at hl 3 rfl) (lv_at hl 0 rfl) dL_law_489 dL_law_490 dL_law_491 (by decide) dL_law_492 dL_law_493 ?_
  refine l_callC (As := [.int (xs (i + 1)), .int (xs (i + 2))]) (rest := []) (st1 := [.long _]) C hW cC_0 (c_X4_stretch l D cyI cO cyZ aC fa n d md go ke ha wy ab be (nI sv) (xs (i + 1)) (xs (i + 2)) h6 h2) mv_yX4_stretch mw_353 rfl ⟨rfl, rfl, Nat.le_of_ble_eq_true rfl, Nat.le_of_ble_eq_true rfl⟩ rfl hl (Nat.le_of_ble_eq_true rfl) rfl rfl dL_law_494 ⟨Nat.le_of_ble_eq_true rfl, Nat.le_of_ble_eq_true rfl⟩ (fun H locs hW => ?_)
  refine lv_aload_n hx hb dL_law_497 rfl (lv_at hl 1 rfl) ?_
  refine s_ld (k := 1) hx hb hX hbl hbA hW.2.2.2.2.2 (by omega) hL (lv_at hl 3 rfl) (lv_at hl 0 rfl) dL_law_498 dL_law_499 dL_law_500 (by decide) dL_law_501 dL_law_502 ?_
  refine s_ld (k := 2) hx hb hX hbl hbA hW.2.2.2.2.2 (by omega) hL (lv_at hl 3 rfl) (lv_at hl 0 rfl) dL_law_503 dL_law_504 dL_law_505 (by decide) dL_law_506 dL_law_507 ?_
  refine l_callM (As := [.int (xs (i + 1)), .int (xs (i + 2))]) (rest := [.long _]) (st1 := [.long _, .long _]) C hW cM_0 (c_X5_stretch l D cyI cO cyZ aM fa n t m2 jd jn wm od (nI sv) ab2 be2 hh (xs (i + 1)) (xs (i + 2)) h6 h2 (LfOK_all h2 h6) (fun _ => (eq_stretch hR ke ha wy jd jn wm (xs (i + 1)) (xs (i + 2))).2)) mv_yX5_stretch mw_365 rfl ⟨rfl, rfl, Nat.le_of_ble_eq_true rfl, Nat.le_of_ble_eq_true rfl⟩ rfl hl (Nat.le_of_ble_eq_true rfl) rfl rfl dL_law_508 ⟨Nat.le_of_ble_eq_true rfl, Nat.le_of_ble_eq_true rfl⟩ (fun H locs hW => ?_)
  have E := (eq_stretch hR ke ha wy jd jn wm (xs (i + 1)) (xs (i + 2))).1
  refine W.lcmp hx hb dL_law_511 ?_
  exact lv_if_eq (tgt := 778) hx hb dL_law_512 (by decide) (fun _ => NX _ _ _ _ _ _ _ _ _ _ _ _ _ _ _ _ _ _ Dd sv hR hs H locs hW ls hl) (fun c9 => absurd (lg_same E) c9)
set_option maxHeartbeats 4000000 in
set_option maxRecDepth 100000 in
theorem op_spread {p : Program} {l : Launch} {e : Env} {s : State} {m : MethodId} {args : Array Value} {below : List Frame} {meth : Method} {c : Code} {Q : State → Prop} {D : va_G} {cyI cO cyZ : ClassId} {aC aM : Nat → Nat} {A : Nat → Prop} {fa b L i : Nat} {xs : Nat → Int32} (C : Cx p s m args meth c code 4 RL D (ty3 cyI cO cyZ) fa A) (hX : va_X b L xs s s.heap) (hbl : b < s.heap.size) (hbA : ¬ A b) (hL : L ≤ 2048) (hi : i + 4 ≤ L) (NX : Nx p l e s m args below meth c Q D cyI cO cyZ aC aM A b i 778) : Nx p l e s m args below meth c Q D cyI cO cyZ aC aM A b i 517 := by
  intro n d md go ke ha wy ab be t m2 jd jn wm od ab2 be2 hh Dd sv hR hs H locs hW ls hl
  have h2 := hR.1.1
  have h6 := hR.1.2
  have hx := C.1
  have hb := C.2.1
  refine lv_aload_n hx hb dL_law_517 rfl (lv_at hl 2 rfl) ?_
  refine s_ld (k := 1) hx hb hX hbl hbA hW.2.2.2.2.2 (by omega) hL (lv_at hl 3 rfl) (lv_at hl 0 rfl) dL_law_518 dL_law_519 dL_law_520 (by decide) dL_law_521 dL_law_522 ?_
  refine l_callC (As := [.int (xs (i + 1))]) (rest := []) (st1 := [.int _]) C hW cC_0 (c_X4_spread l D cyI cO cyZ aC fa n d md go ke ha wy ab be (nI sv) (xs (i + 1)) h6 h2) mv_yX4_spread mw_376 rfl ⟨rfl, rfl, Nat.le_of_ble_eq_true rfl, Nat.le_of_ble_eq_true rfl⟩ rfl hl (Nat.le_of_ble_eq_true rfl) rfl rfl dL_law_523 ⟨Nat.le_of_ble_eq_true rfl, Nat.le_of_ble_eq_true rfl⟩ (fun H locs hW => ?_)
  refine lv_aload_n hx hb dL_law_526 rfl (lv_at hl 1 rfl) ?_
  refine s_ld (k := 1) hx hb hX hbl hbA hW.2.2.2.2.2 (by omega) hL (lv_at hl 3 rfl) (lv_at hl 0 rfl) dL_law_527 dL_law_528 dL_law_529 (by decide) dL_law_530 dL_law_531 ?_
  refine l_callM (As := [.int (xs (i + 1))]) (rest := [.int _]) (st1 := [.int _, .int _]) C hW cM_0 (c_X5_spread l D cyI cO cyZ aM fa n t m2 jd jn wm od (nI sv) ab2 be2 hh (xs (i + 1)) h6 h2 (LfOK_all h2 h6)) mv_yX5_spread mw_384 rfl ⟨rfl, rfl, Nat.le_of_ble_eq_true rfl, Nat.le_of_ble_eq_true rfl⟩ rfl hl (Nat.le_of_ble_eq_true rfl) rfl rfl dL_law_532 ⟨Nat.le_of_ble_eq_true rfl, Nat.le_of_ble_eq_true rfl⟩ (fun H locs hW => ?_)
  have E := eq_spread hR ke ha wy jd jn wm (xs (i + 1))
  exact lv_icmp_eq (tgt := 778) hx hb dL_law_535 (by decide) (fun _ => NX _ _ _ _ _ _ _ _ _ _ _ _ _ _ _ _ _ _ Dd sv hR hs H locs hW ls hl) (fun c9 => absurd E c9)
set_option maxHeartbeats 4000000 in
set_option maxRecDepth 100000 in
theorem op_best {p : Program} {l : Launch} {e : Env} {s : State} {m : MethodId} {args : Array Value} {below : List Frame} {meth : Method} {c : Code} {Q : State → Prop} {D : va_G} {cyI cO cyZ : ClassId} {aC aM : Nat → Nat} {A : Nat → Prop} {fa b L i : Nat} {xs : Nat → Int32} (C : Cx p s m args meth c code 4 RL D (ty3 cyI cO cyZ) fa A) (hX : va_X b L xs s s.heap) (hbl : b < s.heap.size) (hbA : ¬ A b) (hL : L ≤ 2048) (hi : i + 4 ≤ L) (NX : Nx p l e s m args below meth c Q D cyI cO cyZ aC aM A b i 778) : Nx p l e s m args below meth c Q D cyI cO cyZ aC aM A b i 540 := by
  intro n d md go ke ha wy ab be t m2 jd jn wm od ab2 be2 hh Dd sv hR hs H locs hW ls hl
  have h2 := hR.1.1
  have h6 := hR.1.2
  have hx := C.1
  have hb := C.2.1
  refine lv_aload_n hx hb dL_law_540 rfl (lv_at hl 2 rfl) ?_
  refine s_ld (k := 1) hx hb hX hbl hbA hW.2.2.2.2.2 (by omega) hL (lv_at hl 3 rfl) (lv_at hl 0 rfl) dL_law_541 dL_law_542 dL_law_543 (by decide) dL_law_544 dL_law_545 ?_
  refine l_callC (As := [.int (xs (i + 1))]) (rest := []) (st1 := [.int _]) C hW cC_0 (c_X4_best l D cyI cO cyZ aC fa n d md go ke ha wy ab be (nI sv) (xs (i + 1)) h6 h2) mv_yX4_best mw_392 rfl ⟨rfl, rfl, Nat.le_of_ble_eq_true rfl, Nat.le_of_ble_eq_true rfl⟩ rfl hl (Nat.le_of_ble_eq_true rfl) rfl rfl dL_law_546 ⟨Nat.le_of_ble_eq_true rfl, Nat.le_of_ble_eq_true rfl⟩ (fun H locs hW => ?_)
  refine lv_aload_n hx hb dL_law_549 rfl (lv_at hl 1 rfl) ?_
  refine s_ld (k := 1) hx hb hX hbl hbA hW.2.2.2.2.2 (by omega) hL (lv_at hl 3 rfl) (lv_at hl 0 rfl) dL_law_550 dL_law_551 dL_law_552 (by decide) dL_law_553 dL_law_554 ?_
  refine l_callM (As := [.int (xs (i + 1))]) (rest := [.int _]) (st1 := [.int _, .int _]) C hW cM_0 (c_X5_best l D cyI cO cyZ aM fa n t m2 jd jn wm od (nI sv) ab2 be2 hh (xs (i + 1)) h6 h2 (LfOK_all h2 h6)) mv_yX5_best mw_408 rfl ⟨rfl, rfl, Nat.le_of_ble_eq_true rfl, Nat.le_of_ble_eq_true rfl⟩ rfl hl (Nat.le_of_ble_eq_true rfl) rfl rfl dL_law_555 ⟨Nat.le_of_ble_eq_true rfl, Nat.le_of_ble_eq_true rfl⟩ (fun H locs hW => ?_)
  obtain ⟨E, sv2, hs2, E2, E3⟩ := eq_best hR ab be ab2 be2 (go, ke, ha, wy) (jd, jn, wm) (xs (i + 1)) hs
  rw [E2, E3] at hW
  exact lv_icmp_eq (tgt := 778) hx hb dL_law_558 (by decide) (fun _ => NX _ _ _ _ _ _ _ _ _ _ _ _ _ _ _ _ _ _ Dd sv2 hR hs2 H locs hW ls hl) (fun c9 => absurd E c9)
set_option maxHeartbeats 4000000 in
set_option maxRecDepth 100000 in
theorem op_grow {p : Program} {l : Launch} {e : Env} {s : State} {m : MethodId} {args : Array Value} {below : List Frame} {meth : Method} {c : Code} {Q : State → Prop} {D : va_G} {cyI cO cyZ : ClassId} {aC aM : Nat → Nat} {A : Nat → Prop} {fa b L i : Nat} {xs : Nat → Int32} (C : Cx p s m args meth c code 4 RL D (ty3 cyI cO cyZ) fa A) (hX : va_X b L xs s s.heap) (hbl : b < s.heap.size) (hbA : ¬ A b) (hL : L ≤ 2048) (hi : i + 4 ≤ L) (NX : Nx p l e s m args below meth c Q D cyI cO cyZ aC aM A b i 778) : Nx p l e s m args below meth c Q D cyI cO cyZ aC aM A b i 563 := by
  intro n d md go ke ha wy ab be t m2 jd jn wm od ab2 be2 hh Dd sv hR hs H locs hW ls hl
  have h2 := hR.1.1
  have h6 := hR.1.2
  have hx := C.1
  have hb := C.2.1
  refine lv_aload_n hx hb dL_law_563 rfl (lv_at hl 2 rfl) ?_
  refine s_ld (k := 1) hx hb hX hbl hbA hW.2.2.2.2.2 (by omega) hL (lv_at hl 3 rfl) (lv_at hl 0 rfl) dL_law_564 dL_law_565 dL_law_566 (by decide) dL_law_567 dL_law_568 ?_
  refine l_callC (As := [.int (xs (i + 1))]) (rest := []) (st1 := [.int _]) C hW cC_0 (c_X4_grow l D cyI cO cyZ aC fa n d md go ke ha wy ab be (nI sv) (xs (i + 1)) h6 h2) mv_yX4_grow mw_413 rfl ⟨rfl, rfl, Nat.le_of_ble_eq_true rfl, Nat.le_of_ble_eq_true rfl⟩ rfl hl (Nat.le_of_ble_eq_true rfl) rfl rfl dL_law_569 ⟨Nat.le_of_ble_eq_true rfl, Nat.le_of_ble_eq_true rfl⟩ (fun H locs hW => ?_)
  refine lv_aload_n hx hb dL_law_572 rfl (lv_at hl 1 rfl) ?_
  refine s_ld (k := 1) hx hb hX hbl hbA hW.2.2.2.2.2 (by omega) hL (lv_at hl 3 rfl) (lv_at hl 0 rfl) dL_law_573 dL_law_574 dL_law_575 (by decide) dL_law_576 dL_law_577 ?_
  refine l_callM (As := [.int (xs (i + 1))]) (rest := [.int _]) (st1 := [.int _, .int _]) C hW cM_0 (c_X5_grow l D cyI cO cyZ aM fa n t m2 jd jn wm od (nI sv) ab2 be2 hh (xs (i + 1)) h6 h2 (LfOK_all h2 h6)) mv_yX5_grow mw_421 rfl ⟨rfl, rfl, Nat.le_of_ble_eq_true rfl, Nat.le_of_ble_eq_true rfl⟩ rfl hl (Nat.le_of_ble_eq_true rfl) rfl rfl dL_law_578 ⟨Nat.le_of_ble_eq_true rfl, Nat.le_of_ble_eq_true rfl⟩ (fun H locs hW => ?_)
  obtain ⟨D2, hR2⟩ := (eq_grow hR ke ha wy jd jn wm m2 (xs (i + 1))).2
  have E := (eq_grow hR ke ha wy jd jn wm m2 (xs (i + 1))).1
  exact lv_icmp_eq (tgt := 778) hx hb dL_law_581 (by decide) (fun _ => NX _ _ _ _ _ _ _ _ _ _ _ _ _ _ _ _ _ _ D2 sv hR2 hs H locs hW ls hl) (fun c9 => absurd E c9)
set_option maxHeartbeats 4000000 in
set_option maxRecDepth 100000 in
theorem op_weight {p : Program} {l : Launch} {e : Env} {s : State} {m : MethodId} {args : Array Value} {below : List Frame} {meth : Method} {c : Code} {Q : State → Prop} {D : va_G} {cyI cO cyZ : ClassId} {aC aM : Nat → Nat} {A : Nat → Prop} {fa b L i : Nat} {xs : Nat → Int32} (C : Cx p s m args meth c code 4 RL D (ty3 cyI cO cyZ) fa A) (hX : va_X b L xs s s.heap) (hbl : b < s.heap.size) (hbA : ¬ A b) (hL : L ≤ 2048) (hi : i + 4 ≤ L) (NX : Nx p l e s m args below meth c Q D cyI cO cyZ aC aM A b i 778) : Nx p l e s m args below meth c Q D cyI cO cyZ aC aM A b i 586 := by
  intro n d md go ke ha wy ab be t m2 jd jn wm od ab2 be2 hh Dd sv hR hs H locs hW ls hl
  have h2 := hR.1.1
  have h6 := hR.1.2
  have hx := C.1
  have hb := C.2.1
  refine lv_aload_n hx hb dL_law_586 rfl (lv_at hl 2 rfl) ?_
  refine s_ld (k := 1) hx hb hX hbl hbA hW.2.2.2.2.2 (by omega) hL (lv_at hl 3 rfl) (lv_at hl 0 rfl) dL_law_587 dL_law_588 dL_law_589 (by decide) dL_law_590 dL_law_591 ?_
  refine l_callC (As := [.int (xs (i + 1))]) (rest := []) (st1 := [.int _]) C hW cC_0 (c_X4_weight l D cyI cO cyZ aC fa n d md go ke ha wy ab be (nI sv) (xs (i + 1)) h6) mv_yX4_weight mw_425 rfl ⟨rfl, rfl, Nat.le_of_ble_eq_true rfl, Nat.le_of_ble_eq_true rfl⟩ rfl hl (Nat.le_of_ble_eq_true rfl) rfl rfl dL_law_592 ⟨Nat.le_of_ble_eq_true rfl, Nat.le_of_ble_eq_true rfl⟩ (fun H locs hW => ?_)
  refine lv_aload_n hx hb dL_law_595 rfl (lv_at hl 1 rfl) ?_
  refine s_ld (k := 1) hx hb hX hbl hbA hW.2.2.2.2.2 (by omega) hL (lv_at hl 3 rfl) (lv_at hl 0 rfl) dL_law_596 dL_law_597 dL_law_598 (by decide) dL_law_599 dL_law_600 ?_
  refine l_callM (As := [.int (xs (i + 1))]) (rest := [.int _]) (st1 := [.int _, .int _]) C hW cM_0 (c_X5_weight l D cyI cO cyZ aM fa n t m2 jd jn wm od (nI sv) ab2 be2 hh (xs (i + 1)) h6 h2) mv_yX5_weight mw_454 rfl ⟨rfl, rfl, Nat.le_of_ble_eq_true rfl, Nat.le_of_ble_eq_true rfl⟩ rfl hl (Nat.le_of_ble_eq_true rfl) rfl rfl dL_law_601 ⟨Nat.le_of_ble_eq_true rfl, Nat.le_of_ble_eq_true rfl⟩ (fun H locs hW => ?_)
  have E := eq_weight hR (xs (i + 1))
  exact lv_icmp_eq (tgt := 778) hx hb dL_law_604 (by decide) (fun _ => NX _ _ _ _ _ _ _ _ _ _ _ _ _ _ _ _ _ _ Dd sv hR hs H locs hW ls hl) (fun c9 => absurd E c9)
set_option maxHeartbeats 4000000 in
set_option maxRecDepth 100000 in
theorem op_parts {p : Program} {l : Launch} {e : Env} {s : State} {m : MethodId} {args : Array Value} {below : List Frame} {meth : Method} {c : Code} {Q : State → Prop} {D : va_G} {cyI cO cyZ : ClassId} {aC aM : Nat → Nat} {A : Nat → Prop} {fa b L i : Nat} {xs : Nat → Int32} (C : Cx p s m args meth c code 4 RL D (ty3 cyI cO cyZ) fa A) (hX : va_X b L xs s s.heap) (hbl : b < s.heap.size) (hbA : ¬ A b) (hL : L ≤ 2048) (hi : i + 4 ≤ L) (NX : Nx p l e s m args below meth c Q D cyI cO cyZ aC aM A b i 778) : Nx p l e s m args below meth c Q D cyI cO cyZ aC aM A b i 609 := by
  intro n d md go ke ha wy ab be t m2 jd jn wm od ab2 be2 hh Dd sv hR hs H locs hW ls hl
  have h2 := hR.1.1
  have h6 := hR.1.2
  have hx := C.1
  have hb := C.2.1
  refine lv_aload_n hx hb dL_law_609 rfl (lv_at hl 2 rfl) ?_
  refine l_callC (As := []) (rest := []) (st1 := [.int _]) C hW cC_0 (c_X4_parts l D cyI cO cyZ aC fa n d md go ke ha wy ab be (nI sv)  h6 h2) mv_yX4_parts mw_466 rfl ⟨rfl, rfl, Nat.le_of_ble_eq_true rfl, Nat.le_of_ble_eq_true rfl⟩ rfl hl (Nat.le_of_ble_eq_true rfl) rfl rfl dL_law_610 ⟨Nat.le_of_ble_eq_true rfl, Nat.le_of_ble_eq_true rfl⟩ (fun H locs hW => ?_)
  refine lv_aload_n hx hb dL_law_613 rfl (lv_at hl 1 rfl) ?_
  refine l_callM (As := []) (rest := [.int _]) (st1 := [.int _, .int _]) C hW cM_0 (c_X5_parts l D cyI cO cyZ aM fa n t m2 jd jn wm od (nI sv) ab2 be2 hh  h6 h2) mv_yX5_parts mw_475 rfl ⟨rfl, rfl, Nat.le_of_ble_eq_true rfl, Nat.le_of_ble_eq_true rfl⟩ rfl hl (Nat.le_of_ble_eq_true rfl) rfl rfl dL_law_614 ⟨Nat.le_of_ble_eq_true rfl, Nat.le_of_ble_eq_true rfl⟩ (fun H locs hW => ?_)
  have E := eq_parts hR
  exact lv_icmp_eq (tgt := 778) hx hb dL_law_617 (by decide) (fun _ => NX _ _ _ _ _ _ _ _ _ _ _ _ _ _ _ _ _ _ Dd sv hR hs H locs hW ls hl) (fun c9 => absurd E c9)
set_option maxHeartbeats 4000000 in
set_option maxRecDepth 100000 in
theorem op_rest {p : Program} {l : Launch} {e : Env} {s : State} {m : MethodId} {args : Array Value} {below : List Frame} {meth : Method} {c : Code} {Q : State → Prop} {D : va_G} {cyI cO cyZ : ClassId} {aC aM : Nat → Nat} {A : Nat → Prop} {fa b L i : Nat} {xs : Nat → Int32} (C : Cx p s m args meth c code 4 RL D (ty3 cyI cO cyZ) fa A) (hX : va_X b L xs s s.heap) (hbl : b < s.heap.size) (hbA : ¬ A b) (hL : L ≤ 2048) (hi : i + 4 ≤ L) (NX : Nx p l e s m args below meth c Q D cyI cO cyZ aC aM A b i 778) : Nx p l e s m args below meth c Q D cyI cO cyZ aC aM A b i 622 := by
  intro n d md go ke ha wy ab be t m2 jd jn wm od ab2 be2 hh Dd sv hR hs H locs hW ls hl
  have h2 := hR.1.1
  have h6 := hR.1.2
  have hx := C.1
  have hb := C.2.1
  refine lv_aload_n hx hb dL_law_622 rfl (lv_at hl 2 rfl) ?_
  refine s_ld (k := 1) hx hb hX hbl hbA hW.2.2.2.2.2 (by omega) hL (lv_at hl 3 rfl) (lv_at hl 0 rfl) dL_law_623 dL_law_624 dL_law_625 (by decide) dL_law_626 dL_law_627 ?_
  refine s_ld (k := 2) hx hb hX hbl hbA hW.2.2.2.2.2 (by omega) hL (lv_at hl 3 rfl) (lv_at hl 0 rfl) dL_law_628 dL_law_629 dL_law_630 (by decide) dL_law_631 dL_law_632 ?_
  refine l_callC (As := [.int (xs (i + 1)), .int (xs (i + 2))]) (rest := []) (st1 := [.int _]) C hW cC_0 (c_X4_rest l D cyI cO cyZ aC fa n d md go ke ha wy ab be (nI sv) (xs (i + 1)) (xs (i + 2)) h6 h2) mv_yX4_rest mw_479 rfl ⟨rfl, rfl, Nat.le_of_ble_eq_true rfl, Nat.le_of_ble_eq_true rfl⟩ rfl hl (Nat.le_of_ble_eq_true rfl) rfl rfl dL_law_633 ⟨Nat.le_of_ble_eq_true rfl, Nat.le_of_ble_eq_true rfl⟩ (fun H locs hW => ?_)
  refine lv_aload_n hx hb dL_law_636 rfl (lv_at hl 1 rfl) ?_
  refine s_ld (k := 1) hx hb hX hbl hbA hW.2.2.2.2.2 (by omega) hL (lv_at hl 3 rfl) (lv_at hl 0 rfl) dL_law_637 dL_law_638 dL_law_639 (by decide) dL_law_640 dL_law_641 ?_
  refine s_ld (k := 2) hx hb hX hbl hbA hW.2.2.2.2.2 (by omega) hL (lv_at hl 3 rfl) (lv_at hl 0 rfl) dL_law_642 dL_law_643 dL_law_644 (by decide) dL_law_645 dL_law_646 ?_
  refine l_callM (As := [.int (xs (i + 1)), .int (xs (i + 2))]) (rest := [.int _]) (st1 := [.int _, .int _]) C hW cM_0 (c_X5_rest l D cyI cO cyZ aM fa n t m2 jd jn wm od (nI sv) ab2 be2 hh (xs (i + 1)) (xs (i + 2)) h6 h2) mv_yX5_rest mw_487 rfl ⟨rfl, rfl, Nat.le_of_ble_eq_true rfl, Nat.le_of_ble_eq_true rfl⟩ rfl hl (Nat.le_of_ble_eq_true rfl) rfl rfl dL_law_647 ⟨Nat.le_of_ble_eq_true rfl, Nat.le_of_ble_eq_true rfl⟩ (fun H locs hW => ?_)
  have E := eq_rest hR (xs (i + 1)) (xs (i + 2))
  exact lv_icmp_eq (tgt := 778) hx hb dL_law_650 (by decide) (fun _ => NX _ _ _ _ _ _ _ _ _ _ _ _ _ _ _ _ _ _ Dd sv hR hs H locs hW ls hl) (fun c9 => absurd E c9)
set_option maxHeartbeats 4000000 in
set_option maxRecDepth 100000 in
theorem op_drawn {p : Program} {l : Launch} {e : Env} {s : State} {m : MethodId} {args : Array Value} {below : List Frame} {meth : Method} {c : Code} {Q : State → Prop} {D : va_G} {cyI cO cyZ : ClassId} {aC aM : Nat → Nat} {A : Nat → Prop} {fa b L i : Nat} {xs : Nat → Int32} (C : Cx p s m args meth c code 4 RL D (ty3 cyI cO cyZ) fa A) (hX : va_X b L xs s s.heap) (hbl : b < s.heap.size) (hbA : ¬ A b) (hL : L ≤ 2048) (hi : i + 4 ≤ L) (NX : Nx p l e s m args below meth c Q D cyI cO cyZ aC aM A b i 778) : Nx p l e s m args below meth c Q D cyI cO cyZ aC aM A b i 655 := by
  intro n d md go ke ha wy ab be t m2 jd jn wm od ab2 be2 hh Dd sv hR hs H locs hW ls hl
  have h2 := hR.1.1
  have h6 := hR.1.2
  have hx := C.1
  have hb := C.2.1
  refine lv_aload_n hx hb dL_law_655 rfl (lv_at hl 2 rfl) ?_
  refine s_ld (k := 1) hx hb hX hbl hbA hW.2.2.2.2.2 (by omega) hL (lv_at hl 3 rfl) (lv_at hl 0 rfl) dL_law_656 dL_law_657 dL_law_658 (by decide) dL_law_659 dL_law_660 ?_
  refine s_ld (k := 2) hx hb hX hbl hbA hW.2.2.2.2.2 (by omega) hL (lv_at hl 3 rfl) (lv_at hl 0 rfl) dL_law_661 dL_law_662 dL_law_663 (by decide) dL_law_664 dL_law_665 ?_
  refine s_ld (k := 3) hx hb hX hbl hbA hW.2.2.2.2.2 (by omega) hL (lv_at hl 3 rfl) (lv_at hl 0 rfl) dL_law_666 dL_law_667 dL_law_668 (by decide) dL_law_669 dL_law_670 ?_
  refine l_callC (As := [.int (xs (i + 1)), .int (xs (i + 2)), .int (xs (i + 3))]) (rest := []) (st1 := [.int _]) C hW cC_0 (c_X4_drawn l D cyI cO cyZ aC fa n d md go ke ha wy ab be (nI sv) (xs (i + 1)) (xs (i + 2)) (xs (i + 3)) h6) mv_yX4_drawn mw_491 rfl ⟨rfl, rfl, Nat.le_of_ble_eq_true rfl, Nat.le_of_ble_eq_true rfl⟩ rfl hl (Nat.le_of_ble_eq_true rfl) rfl rfl dL_law_671 ⟨Nat.le_of_ble_eq_true rfl, Nat.le_of_ble_eq_true rfl⟩ (fun H locs hW => ?_)
  refine lv_aload_n hx hb dL_law_674 rfl (lv_at hl 1 rfl) ?_
  refine s_ld (k := 1) hx hb hX hbl hbA hW.2.2.2.2.2 (by omega) hL (lv_at hl 3 rfl) (lv_at hl 0 rfl) dL_law_675 dL_law_676 dL_law_677 (by decide) dL_law_678 dL_law_679 ?_
  refine s_ld (k := 2) hx hb hX hbl hbA hW.2.2.2.2.2 (by omega) hL (lv_at hl 3 rfl) (lv_at hl 0 rfl) dL_law_680 dL_law_681 dL_law_682 (by decide) dL_law_683 dL_law_684 ?_
  refine s_ld (k := 3) hx hb hX hbl hbA hW.2.2.2.2.2 (by omega) hL (lv_at hl 3 rfl) (lv_at hl 0 rfl) dL_law_685 dL_law_686 dL_law_687 (by decide) dL_law_688 dL_law_689 ?_
  refine l_callM (As := [.int (xs (i + 1)), .int (xs (i + 2)), .int (xs (i + 3))]) (rest := [.int _]) (st1 := [.int _, .int _]) C hW cM_0 (c_X5_drawn l D cyI cO cyZ aM fa n t m2 jd jn wm od (nI sv) ab2 be2 hh (xs (i + 1)) (xs (i + 2)) (xs (i + 3)) h6 h2 (mdK_all h2 h6) (GoOK_all hR (xs (i + 3)))) mv_yX5_drawn mw_514 rfl ⟨rfl, rfl, Nat.le_of_ble_eq_true rfl, Nat.le_of_ble_eq_true rfl⟩ rfl hl (Nat.le_of_ble_eq_true rfl) rfl rfl dL_law_690 ⟨Nat.le_of_ble_eq_true rfl, Nat.le_of_ble_eq_true rfl⟩ (fun H locs hW => ?_)
  have E := eq_drawn hR od (xs (i + 1)) (xs (i + 2)) (xs (i + 3))
  exact lv_icmp_eq (tgt := 778) hx hb dL_law_693 (by decide) (fun _ => NX _ _ _ _ _ _ _ _ _ _ _ _ _ _ _ _ _ _ Dd sv hR hs H locs hW ls hl) (fun c9 => absurd E c9)
set_option maxHeartbeats 4000000 in
set_option maxRecDepth 100000 in
theorem op_goes {p : Program} {l : Launch} {e : Env} {s : State} {m : MethodId} {args : Array Value} {below : List Frame} {meth : Method} {c : Code} {Q : State → Prop} {D : va_G} {cyI cO cyZ : ClassId} {aC aM : Nat → Nat} {A : Nat → Prop} {fa b L i : Nat} {xs : Nat → Int32} (C : Cx p s m args meth c code 4 RL D (ty3 cyI cO cyZ) fa A) (hX : va_X b L xs s s.heap) (hbl : b < s.heap.size) (hbA : ¬ A b) (hL : L ≤ 2048) (hi : i + 4 ≤ L) (NX : Nx p l e s m args below meth c Q D cyI cO cyZ aC aM A b i 778) : Nx p l e s m args below meth c Q D cyI cO cyZ aC aM A b i 698 := by
  intro n d md go ke ha wy ab be t m2 jd jn wm od ab2 be2 hh Dd sv hR hs H locs hW ls hl
  have h2 := hR.1.1
  have h6 := hR.1.2
  have hx := C.1
  have hb := C.2.1
  refine lv_aload_n hx hb dL_law_698 rfl (lv_at hl 2 rfl) ?_
  refine s_ld (k := 1) hx hb hX hbl hbA hW.2.2.2.2.2 (by omega) hL (lv_at hl 3 rfl) (lv_at hl 0 rfl) dL_law_699 dL_law_700 dL_law_701 (by decide) dL_law_702 dL_law_703 ?_
  refine s_ld (k := 2) hx hb hX hbl hbA hW.2.2.2.2.2 (by omega) hL (lv_at hl 3 rfl) (lv_at hl 0 rfl) dL_law_704 dL_law_705 dL_law_706 (by decide) dL_law_707 dL_law_708 ?_
  refine s_ld (k := 3) hx hb hX hbl hbA hW.2.2.2.2.2 (by omega) hL (lv_at hl 3 rfl) (lv_at hl 0 rfl) dL_law_709 dL_law_710 dL_law_711 (by decide) dL_law_712 dL_law_713 ?_
  refine l_callC (As := [.int (xs (i + 1)), .int (xs (i + 2)), .int (xs (i + 3))]) (rest := []) (st1 := [.int _]) C hW cC_0 (c_X4_goes l D cyI cO cyZ aC fa n d md go ke ha wy ab be (nI sv) (xs (i + 1)) (xs (i + 2)) (xs (i + 3)) h6 h2) mv_yX4_goes mw_530 rfl ⟨rfl, rfl, Nat.le_of_ble_eq_true rfl, Nat.le_of_ble_eq_true rfl⟩ rfl hl (Nat.le_of_ble_eq_true rfl) rfl rfl dL_law_714 ⟨Nat.le_of_ble_eq_true rfl, Nat.le_of_ble_eq_true rfl⟩ (fun H locs hW => ?_)
  refine lv_aload_n hx hb dL_law_717 rfl (lv_at hl 1 rfl) ?_
  refine s_ld (k := 1) hx hb hX hbl hbA hW.2.2.2.2.2 (by omega) hL (lv_at hl 3 rfl) (lv_at hl 0 rfl) dL_law_718 dL_law_719 dL_law_720 (by decide) dL_law_721 dL_law_722 ?_
  refine s_ld (k := 2) hx hb hX hbl hbA hW.2.2.2.2.2 (by omega) hL (lv_at hl 3 rfl) (lv_at hl 0 rfl) dL_law_723 dL_law_724 dL_law_725 (by decide) dL_law_726 dL_law_727 ?_
  refine s_ld (k := 3) hx hb hX hbl hbA hW.2.2.2.2.2 (by omega) hL (lv_at hl 3 rfl) (lv_at hl 0 rfl) dL_law_728 dL_law_729 dL_law_730 (by decide) dL_law_731 dL_law_732 ?_
  refine l_callM (As := [.int (xs (i + 1)), .int (xs (i + 2)), .int (xs (i + 3))]) (rest := [.int _]) (st1 := [.int _, .int _]) C hW cM_0 (c_X5_goes l D cyI cO cyZ aM fa n t m2 jd jn wm od (nI sv) ab2 be2 hh (xs (i + 1)) (xs (i + 2)) (xs (i + 3)) h6 h2 (mdK_all h2 h6) (GoOK_all hR (xs (i + 3)))) mv_yX5_goes mw_543 rfl ⟨rfl, rfl, Nat.le_of_ble_eq_true rfl, Nat.le_of_ble_eq_true rfl⟩ rfl hl (Nat.le_of_ble_eq_true rfl) rfl rfl dL_law_733 ⟨Nat.le_of_ble_eq_true rfl, Nat.le_of_ble_eq_true rfl⟩ (fun H locs hW => ?_)
  have E := eq_goes hR (xs (i + 1)) (xs (i + 2)) (xs (i + 3))
  exact lv_icmp_eq (tgt := 778) hx hb dL_law_736 (by decide) (fun _ => NX _ _ _ _ _ _ _ _ _ _ _ _ _ _ _ _ _ _ Dd sv hR hs H locs hW ls hl) (fun c9 => absurd E c9)
set_option maxHeartbeats 4000000 in
set_option maxRecDepth 100000 in
theorem op_count {p : Program} {l : Launch} {e : Env} {s : State} {m : MethodId} {args : Array Value} {below : List Frame} {meth : Method} {c : Code} {Q : State → Prop} {D : va_G} {cyI cO cyZ : ClassId} {aC aM : Nat → Nat} {A : Nat → Prop} {fa b L i : Nat} {xs : Nat → Int32} (C : Cx p s m args meth c code 4 RL D (ty3 cyI cO cyZ) fa A) (hX : va_X b L xs s s.heap) (hbl : b < s.heap.size) (hbA : ¬ A b) (hL : L ≤ 2048) (hi : i + 4 ≤ L) (NX : Nx p l e s m args below meth c Q D cyI cO cyZ aC aM A b i 778) : Nx p l e s m args below meth c Q D cyI cO cyZ aC aM A b i 741 := by
  intro n d md go ke ha wy ab be t m2 jd jn wm od ab2 be2 hh Dd sv hR hs H locs hW ls hl
  have h2 := hR.1.1
  have h6 := hR.1.2
  have hx := C.1
  have hb := C.2.1
  refine lv_aload_n hx hb dL_law_741 rfl (lv_at hl 2 rfl) ?_
  refine s_ld (k := 1) hx hb hX hbl hbA hW.2.2.2.2.2 (by omega) hL (lv_at hl 3 rfl) (lv_at hl 0 rfl) dL_law_742 dL_law_743 dL_law_744 (by decide) dL_law_745 dL_law_746 ?_
  refine l_callC (As := [.int (xs (i + 1))]) (rest := []) (st1 := [.int _]) C hW cC_0 (c_X4_count l D cyI cO cyZ aC fa n d md go ke ha wy ab be (nI sv) (xs (i + 1)) h6) mv_yX4_count mw_547 rfl ⟨rfl, rfl, Nat.le_of_ble_eq_true rfl, Nat.le_of_ble_eq_true rfl⟩ rfl hl (Nat.le_of_ble_eq_true rfl) rfl rfl dL_law_747 ⟨Nat.le_of_ble_eq_true rfl, Nat.le_of_ble_eq_true rfl⟩ (fun H locs hW => ?_)
  refine lv_aload_n hx hb dL_law_750 rfl (lv_at hl 1 rfl) ?_
  refine s_ld (k := 1) hx hb hX hbl hbA hW.2.2.2.2.2 (by omega) hL (lv_at hl 3 rfl) (lv_at hl 0 rfl) dL_law_751 dL_law_752 dL_law_753 (by decide) dL_law_754 dL_law_755 ?_
  refine l_callM (As := [.int (xs (i + 1))]) (rest := [.int _]) (st1 := [.int _, .int _]) C hW cM_0 (c_X5_count l D cyI cO cyZ aM fa n t m2 jd jn wm od (nI sv) ab2 be2 hh (xs (i + 1)) h6) mv_yX5_count mw_551 rfl ⟨rfl, rfl, Nat.le_of_ble_eq_true rfl, Nat.le_of_ble_eq_true rfl⟩ rfl hl (Nat.le_of_ble_eq_true rfl) rfl rfl dL_law_756 ⟨Nat.le_of_ble_eq_true rfl, Nat.le_of_ble_eq_true rfl⟩ (fun H locs hW => ?_)
  have E := eq_count hR (nI sv) (xs (i + 1))
  exact lv_icmp_eq (tgt := 778) hx hb dL_law_759 (by decide) (fun _ => NX _ _ _ _ _ _ _ _ _ _ _ _ _ _ _ _ _ _ Dd sv hR hs H locs hW ls hl) (fun c9 => absurd E c9)
set_option maxHeartbeats 4000000 in
set_option maxRecDepth 100000 in
theorem op_digest {p : Program} {l : Launch} {e : Env} {s : State} {m : MethodId} {args : Array Value} {below : List Frame} {meth : Method} {c : Code} {Q : State → Prop} {D : va_G} {cyI cO cyZ : ClassId} {aC aM : Nat → Nat} {A : Nat → Prop} {fa b L i : Nat} {xs : Nat → Int32} (C : Cx p s m args meth c code 4 RL D (ty3 cyI cO cyZ) fa A) (hX : va_X b L xs s s.heap) (hbl : b < s.heap.size) (hbA : ¬ A b) (hL : L ≤ 2048) (hi : i + 4 ≤ L) (NX : Nx p l e s m args below meth c Q D cyI cO cyZ aC aM A b i 778) : Nx p l e s m args below meth c Q D cyI cO cyZ aC aM A b i 764 := by
  intro n d md go ke ha wy ab be t m2 jd jn wm od ab2 be2 hh Dd sv hR hs H locs hW ls hl
  have h2 := hR.1.1
  have h6 := hR.1.2
  have hx := C.1
  have hb := C.2.1
  refine lv_aload_n hx hb dL_law_764 rfl (lv_at hl 2 rfl) ?_
  refine l_callC (As := []) (rest := []) (st1 := [.long _]) C hW cC_0 (c_X4_digest l D cyI cO cyZ aC fa n d md go ke ha wy ab be (nI sv)  h6) mv_yX4_digest mw_555 rfl ⟨rfl, rfl, Nat.le_of_ble_eq_true rfl, Nat.le_of_ble_eq_true rfl⟩ rfl hl (Nat.le_of_ble_eq_true rfl) rfl rfl dL_law_765 ⟨Nat.le_of_ble_eq_true rfl, Nat.le_of_ble_eq_true rfl⟩ (fun H locs hW => ?_)
  refine lv_aload_n hx hb dL_law_768 rfl (lv_at hl 1 rfl) ?_
  refine l_callM (As := []) (rest := [.long _]) (st1 := [.long _, .long _]) C hW cM_0 (c_X5_digest l D cyI cO cyZ aM fa n t m2 jd jn wm od (nI sv) ab2 be2 hh  h6) mv_yX5_digest mw_564 rfl ⟨rfl, rfl, Nat.le_of_ble_eq_true rfl, Nat.le_of_ble_eq_true rfl⟩ rfl hl (Nat.le_of_ble_eq_true rfl) rfl rfl dL_law_769 ⟨Nat.le_of_ble_eq_true rfl, Nat.le_of_ble_eq_true rfl⟩ (fun H locs hW => ?_)
  have E := eq_digest hR md m2 (nI sv)
  refine W.lcmp hx hb dL_law_772 ?_
  exact lv_if_eq (tgt := 778) hx hb dL_law_773 (by decide) (fun _ => NX _ _ _ _ _ _ _ _ _ _ _ _ _ _ _ _ _ _ Dd sv hR hs H locs hW ls hl) (fun c9 => absurd (lg_same E) c9)
