/-! The law's sixteen branches. -/
section LB
variable {J : kx_E} {aX aM : Nat → Nat} {p : Program} {e : Env} {s : State} {m : MethodId} {below : List Frame} {meth : Method} {c : Code} {b L : Nat} {xs : Nat → Int32} {n : Nat} {σ τ : dx_V} {ch : q_C} {ru : q_R}
theorem lb_0 (X : lx_X J aX aM p s m meth c b L xs) (hL : L ≤ 2560) (hn : n + 5 ≤ L) (HX : xx ch ru σ) (HM : mm ch ru τ) (kk : ∀ (c' : q_C) (r' : q_R) (σ' τ' : dx_V), xx c' r' σ' → mm c' r' τ' → lx_G J aX aM p e s m below meth c b (nI n) 518 [] σ' τ') : lx_G J aX aM p e s m below meth c b (nI n) 112 [] σ τ := by
  refine lx_aload X 1 dLW_112 rfl ?_
  refine lx_arg (k := 1) (n := n) X hL (by omega) rfl dLW_113 dLW_114 dLW_115 dLW_116 dLW_117 (by decide) ?_
  refine lx_arg (k := 2) (n := n) X hL (by omega) rfl dLW_118 dLW_119 dLW_120 dLW_121 dLW_122 (by decide) ?_
  refine lx_cX (d := 8) (po := fun o σ' => o = some (cl_state ch ru (xs (n + 1)) (xs (n + 2))).1 ∧ xx (cl_state ch ru (xs (n + 1)) (xs (n + 2))).2.1 (cl_state ch ru (xs (n + 1)) (xs (n + 2))).2.2 σ') [.inl (xs (n + 1)), .inl (xs (n + 2))] [] X (by decide) dLW_123 cvLW_13 lkLW_13 rfl (Nat.le_of_ble_eq_true rfl) rfl (s_MC_state (d := 5) HX (fun σ' z => ⟨rfl, z⟩)) ?_
  rintro xσ1 σ1 ⟨hxσ1, HX1⟩
  obtain rfl := Option.some.inj hxσ1
  refine lx_aload X 2 dLW_126 rfl ?_
  refine lx_arg (k := 1) (n := n) X hL (by omega) rfl dLW_127 dLW_128 dLW_129 dLW_130 dLW_131 (by decide) ?_
  refine lx_arg (k := 2) (n := n) X hL (by omega) rfl dLW_132 dLW_133 dLW_134 dLW_135 dLW_136 (by decide) ?_
  refine lx_cM (d := 8) (po := fun o σ' => o = some (cl_state ch ru (xs (n + 1)) (xs (n + 2))).1 ∧ mm (cl_state ch ru (xs (n + 1)) (xs (n + 2))).2.1 (cl_state ch ru (xs (n + 1)) (xs (n + 2))).2.2 σ') [.inl (xs (n + 1)), .inl (xs (n + 2))] [.int (cl_state ch ru (xs (n + 1)) (xs (n + 2))).1] X (by decide) dLW_137 cvLW_17 lkLW_17 rfl (Nat.le_of_ble_eq_true rfl) rfl (t_state (d := 8) HM (fun σ' z => ⟨rfl, z⟩)) ?_
  rintro xτ1 τ1 ⟨hxτ1, HM1⟩
  obtain rfl := Option.some.inj hxτ1
  exact lx_cmp X dLW_140 (by decide) rfl (kk _ _ σ1 τ1 HX1 HM1)
theorem lb_1 (X : lx_X J aX aM p s m meth c b L xs) (hL : L ≤ 2560) (hn : n + 5 ≤ L) (HX : xx ch ru σ) (HM : mm ch ru τ) (kk : ∀ (c' : q_C) (r' : q_R) (σ' τ' : dx_V), xx c' r' σ' → mm c' r' τ' → lx_G J aX aM p e s m below meth c b (nI n) 518 [] σ' τ') : lx_G J aX aM p e s m below meth c b (nI n) 145 [] σ τ := by
  refine lx_aload X 1 dLW_145 rfl ?_
  refine lx_arg (k := 1) (n := n) X hL (by omega) rfl dLW_146 dLW_147 dLW_148 dLW_149 dLW_150 (by decide) ?_
  refine lx_cX (d := 8) (po := fun o σ' => o = some (cl_initial ch ru (xs (n + 1))).1 ∧ xx (cl_initial ch ru (xs (n + 1))).2.1 (cl_initial ch ru (xs (n + 1))).2.2 σ') [.inl (xs (n + 1))] [] X (by decide) dLW_151 cvLW_18 lkLW_18 rfl (Nat.le_of_ble_eq_true rfl) rfl (s_MC_initial (d := 6) HX (fun σ' z => ⟨rfl, z⟩)) ?_
  rintro xσ1 σ1 ⟨hxσ1, HX1⟩
  obtain rfl := Option.some.inj hxσ1
  refine lx_aload X 2 dLW_154 rfl ?_
  refine lx_arg (k := 1) (n := n) X hL (by omega) rfl dLW_155 dLW_156 dLW_157 dLW_158 dLW_159 (by decide) ?_
  refine lx_cM (d := 8) (po := fun o σ' => o = some (cl_initial ch ru (xs (n + 1))).1 ∧ mm (cl_initial ch ru (xs (n + 1))).2.1 (cl_initial ch ru (xs (n + 1))).2.2 σ') [.inl (xs (n + 1))] [.int (cl_initial ch ru (xs (n + 1))).1] X (by decide) dLW_160 cvLW_22 lkLW_22 rfl (Nat.le_of_ble_eq_true rfl) rfl (t_initial (d := 7) HM (fun σ' z => ⟨rfl, z⟩)) ?_
  rintro xτ1 τ1 ⟨hxτ1, HM1⟩
  obtain rfl := Option.some.inj hxτ1
  exact lx_cmp X dLW_163 (by decide) rfl (kk _ _ σ1 τ1 HX1 HM1)
theorem lb_2 (X : lx_X J aX aM p s m meth c b L xs) (hL : L ≤ 2560) (hn : n + 5 ≤ L) (HX : xx ch ru σ) (HM : mm ch ru τ) (kk : ∀ (c' : q_C) (r' : q_R) (σ' τ' : dx_V), xx c' r' σ' → mm c' r' τ' → lx_G J aX aM p e s m below meth c b (nI n) 518 [] σ' τ') : lx_G J aX aM p e s m below meth c b (nI n) 168 [] σ τ := by
  refine lx_aload X 1 dLW_168 rfl ?_
  refine lx_arg (k := 1) (n := n) X hL (by omega) rfl dLW_169 dLW_170 dLW_171 dLW_172 dLW_173 (by decide) ?_
  refine lx_arg (k := 2) (n := n) X hL (by omega) rfl dLW_174 dLW_175 dLW_176 dLW_177 dLW_178 (by decide) ?_
  refine lx_arg (k := 3) (n := n) X hL (by omega) rfl dLW_179 dLW_180 dLW_181 dLW_182 dLW_183 (by decide) ?_
  refine lx_cX (d := 8) (po := fun o σ' => o = some (cl_transition ch ru (xs (n + 1)) (xs (n + 2)) (xs (n + 3))).1 ∧ xx (cl_transition ch ru (xs (n + 1)) (xs (n + 2)) (xs (n + 3))).2.1 (cl_transition ch ru (xs (n + 1)) (xs (n + 2)) (xs (n + 3))).2.2 σ') [.inl (xs (n + 1)), .inl (xs (n + 2)), .inl (xs (n + 3))] [] X (by decide) dLW_184 cvLW_23 lkLW_23 rfl (Nat.le_of_ble_eq_true rfl) rfl (s_MC_transition (d := 5) HX (fun σ' z => ⟨rfl, z⟩)) ?_
  rintro xσ1 σ1 ⟨hxσ1, HX1⟩
  obtain rfl := Option.some.inj hxσ1
  refine lx_aload X 2 dLW_187 rfl ?_
  refine lx_arg (k := 1) (n := n) X hL (by omega) rfl dLW_188 dLW_189 dLW_190 dLW_191 dLW_192 (by decide) ?_
  refine lx_arg (k := 2) (n := n) X hL (by omega) rfl dLW_193 dLW_194 dLW_195 dLW_196 dLW_197 (by decide) ?_
  refine lx_arg (k := 3) (n := n) X hL (by omega) rfl dLW_198 dLW_199 dLW_200 dLW_201 dLW_202 (by decide) ?_
  refine lx_cM (d := 8) (po := fun o σ' => o = some (cl_transition ch ru (xs (n + 1)) (xs (n + 2)) (xs (n + 3))).1 ∧ mm (cl_transition ch ru (xs (n + 1)) (xs (n + 2)) (xs (n + 3))).2.1 (cl_transition ch ru (xs (n + 1)) (xs (n + 2)) (xs (n + 3))).2.2 σ') [.inl (xs (n + 1)), .inl (xs (n + 2)), .inl (xs (n + 3))] [.int (cl_transition ch ru (xs (n + 1)) (xs (n + 2)) (xs (n + 3))).1] X (by decide) dLW_203 cvLW_27 lkLW_27 rfl (Nat.le_of_ble_eq_true rfl) rfl (t_transition (d := 7) HM (fun σ' z => ⟨rfl, z⟩)) ?_
  rintro xτ1 τ1 ⟨hxτ1, HM1⟩
  obtain rfl := Option.some.inj hxτ1
  exact lx_cmp X dLW_206 (by decide) rfl (kk _ _ σ1 τ1 HX1 HM1)
theorem lb_3 (X : lx_X J aX aM p s m meth c b L xs) (hL : L ≤ 2560) (hn : n + 5 ≤ L) (HX : xx ch ru σ) (HM : mm ch ru τ) (kk : ∀ (c' : q_C) (r' : q_R) (σ' τ' : dx_V), xx c' r' σ' → mm c' r' τ' → lx_G J aX aM p e s m below meth c b (nI n) 518 [] σ' τ') : lx_G J aX aM p e s m below meth c b (nI n) 211 [] σ τ := by
  refine lx_aload X 1 dLW_211 rfl ?_
  refine lx_arg (k := 1) (n := n) X hL (by omega) rfl dLW_212 dLW_213 dLW_214 dLW_215 dLW_216 (by decide) ?_
  refine lx_arg (k := 2) (n := n) X hL (by omega) rfl dLW_217 dLW_218 dLW_219 dLW_220 dLW_221 (by decide) ?_
  refine lx_arg (k := 3) (n := n) X hL (by omega) rfl dLW_222 dLW_223 dLW_224 dLW_225 dLW_226 (by decide) ?_
  refine lx_arg (k := 4) (n := n) X hL (by omega) rfl dLW_227 dLW_228 dLW_229 dLW_230 dLW_231 (by decide) ?_
  refine lx_cX (d := 8) (po := fun o σ' => o = some (cl_guard ch ru (xs (n + 1)) (xs (n + 2)) (xs (n + 3)) (xs (n + 4))).1 ∧ xx (cl_guard ch ru (xs (n + 1)) (xs (n + 2)) (xs (n + 3)) (xs (n + 4))).2.1 (cl_guard ch ru (xs (n + 1)) (xs (n + 2)) (xs (n + 3)) (xs (n + 4))).2.2 σ') [.inl (xs (n + 1)), .inl (xs (n + 2)), .inl (xs (n + 3)), .inl (xs (n + 4))] [] X (by decide) dLW_232 cvLW_28 lkLW_28 rfl (Nat.le_of_ble_eq_true rfl) rfl (s_MC_guard (d := 5) HX (fun σ' z => ⟨rfl, z⟩)) ?_
  rintro xσ1 σ1 ⟨hxσ1, HX1⟩
  obtain rfl := Option.some.inj hxσ1
  refine lx_aload X 2 dLW_235 rfl ?_
  refine lx_arg (k := 1) (n := n) X hL (by omega) rfl dLW_236 dLW_237 dLW_238 dLW_239 dLW_240 (by decide) ?_
  refine lx_arg (k := 2) (n := n) X hL (by omega) rfl dLW_241 dLW_242 dLW_243 dLW_244 dLW_245 (by decide) ?_
  refine lx_arg (k := 3) (n := n) X hL (by omega) rfl dLW_246 dLW_247 dLW_248 dLW_249 dLW_250 (by decide) ?_
  refine lx_arg (k := 4) (n := n) X hL (by omega) rfl dLW_251 dLW_252 dLW_253 dLW_254 dLW_255 (by decide) ?_
  refine lx_cM (d := 8) (po := fun o σ' => o = some (cl_guard ch ru (xs (n + 1)) (xs (n + 2)) (xs (n + 3)) (xs (n + 4))).1 ∧ mm (cl_guard ch ru (xs (n + 1)) (xs (n + 2)) (xs (n + 3)) (xs (n + 4))).2.1 (cl_guard ch ru (xs (n + 1)) (xs (n + 2)) (xs (n + 3)) (xs (n + 4))).2.2 σ') [.inl (xs (n + 1)), .inl (xs (n + 2)), .inl (xs (n + 3)), .inl (xs (n + 4))] [.int (cl_guard ch ru (xs (n + 1)) (xs (n + 2)) (xs (n + 3)) (xs (n + 4))).1] X (by decide) dLW_256 cvLW_32 lkLW_32 rfl (Nat.le_of_ble_eq_true rfl) rfl (t_guard (d := 7) HM (fun σ' z => ⟨rfl, z⟩)) ?_
  rintro xτ1 τ1 ⟨hxτ1, HM1⟩
  obtain rfl := Option.some.inj hxτ1
  exact lx_cmp X dLW_259 (by decide) rfl (kk _ _ σ1 τ1 HX1 HM1)
theorem lb_4 (X : lx_X J aX aM p s m meth c b L xs) (hL : L ≤ 2560) (hn : n + 5 ≤ L) (HX : xx ch ru σ) (HM : mm ch ru τ) (kk : ∀ (c' : q_C) (r' : q_R) (σ' τ' : dx_V), xx c' r' σ' → mm c' r' τ' → lx_G J aX aM p e s m below meth c b (nI n) 518 [] σ' τ') : lx_G J aX aM p e s m below meth c b (nI n) 264 [] σ τ := by
  refine lx_aload X 1 dLW_264 rfl ?_
  refine lx_arg (k := 1) (n := n) X hL (by omega) rfl dLW_265 dLW_266 dLW_267 dLW_268 dLW_269 (by decide) ?_
  refine lx_arg (k := 2) (n := n) X hL (by omega) rfl dLW_270 dLW_271 dLW_272 dLW_273 dLW_274 (by decide) ?_
  refine lx_arg (k := 3) (n := n) X hL (by omega) rfl dLW_275 dLW_276 dLW_277 dLW_278 dLW_279 (by decide) ?_
  refine lx_arg (k := 4) (n := n) X hL (by omega) rfl dLW_280 dLW_281 dLW_282 dLW_283 dLW_284 (by decide) ?_
  refine lx_cX (d := 8) (po := fun o σ' => o = some (cl_action ch ru (xs (n + 1)) (xs (n + 2)) (xs (n + 3)) (xs (n + 4))).1 ∧ xx (cl_action ch ru (xs (n + 1)) (xs (n + 2)) (xs (n + 3)) (xs (n + 4))).2.1 (cl_action ch ru (xs (n + 1)) (xs (n + 2)) (xs (n + 3)) (xs (n + 4))).2.2 σ') [.inl (xs (n + 1)), .inl (xs (n + 2)), .inl (xs (n + 3)), .inl (xs (n + 4))] [] X (by decide) dLW_285 cvLW_33 lkLW_33 rfl (Nat.le_of_ble_eq_true rfl) rfl (s_MC_action (d := 5) HX (fun σ' z => ⟨rfl, z⟩)) ?_
  rintro xσ1 σ1 ⟨hxσ1, HX1⟩
  obtain rfl := Option.some.inj hxσ1
  refine lx_aload X 2 dLW_288 rfl ?_
  refine lx_arg (k := 1) (n := n) X hL (by omega) rfl dLW_289 dLW_290 dLW_291 dLW_292 dLW_293 (by decide) ?_
  refine lx_arg (k := 2) (n := n) X hL (by omega) rfl dLW_294 dLW_295 dLW_296 dLW_297 dLW_298 (by decide) ?_
  refine lx_arg (k := 3) (n := n) X hL (by omega) rfl dLW_299 dLW_300 dLW_301 dLW_302 dLW_303 (by decide) ?_
  refine lx_arg (k := 4) (n := n) X hL (by omega) rfl dLW_304 dLW_305 dLW_306 dLW_307 dLW_308 (by decide) ?_
  refine lx_cM (d := 8) (po := fun o σ' => o = some (cl_action ch ru (xs (n + 1)) (xs (n + 2)) (xs (n + 3)) (xs (n + 4))).1 ∧ mm (cl_action ch ru (xs (n + 1)) (xs (n + 2)) (xs (n + 3)) (xs (n + 4))).2.1 (cl_action ch ru (xs (n + 1)) (xs (n + 2)) (xs (n + 3)) (xs (n + 4))).2.2 σ') [.inl (xs (n + 1)), .inl (xs (n + 2)), .inl (xs (n + 3)), .inl (xs (n + 4))] [.int (cl_action ch ru (xs (n + 1)) (xs (n + 2)) (xs (n + 3)) (xs (n + 4))).1] X (by decide) dLW_309 cvLW_36 lkLW_36 rfl (Nat.le_of_ble_eq_true rfl) rfl (t_action (d := 7) HM (fun σ' z => ⟨rfl, z⟩)) ?_
  rintro xτ1 τ1 ⟨hxτ1, HM1⟩
  obtain rfl := Option.some.inj hxτ1
  exact lx_cmp X dLW_312 (by decide) rfl (kk _ _ σ1 τ1 HX1 HM1)
theorem lb_5 (X : lx_X J aX aM p s m meth c b L xs) (hL : L ≤ 2560) (hn : n + 5 ≤ L) (HX : xx ch ru σ) (HM : mm ch ru τ) (kk : ∀ (c' : q_C) (r' : q_R) (σ' τ' : dx_V), xx c' r' σ' → mm c' r' τ' → lx_G J aX aM p e s m below meth c b (nI n) 518 [] σ' τ') : lx_G J aX aM p e s m below meth c b (nI n) 317 [] σ τ := by
  refine lx_aload X 1 dLW_317 rfl ?_
  refine lx_cX (d := 8) (po := fun o σ' => o = some (cl_begin ch ru).1 ∧ xx (cl_begin ch ru).2.1 (cl_begin ch ru).2.2 σ') [] [] X (by decide) dLW_318 cvLW_37 lkLW_37 rfl (Nat.le_of_ble_eq_true rfl) rfl (s_MC_begin (d := 1) HX (fun σ' z => ⟨rfl, z⟩)) ?_
  rintro xσ1 σ1 ⟨hxσ1, HX1⟩
  obtain rfl := Option.some.inj hxσ1
  refine lx_aload X 2 dLW_321 rfl ?_
  refine lx_cM (d := 8) (po := fun o σ' => o = some (cl_begin ch ru).1 ∧ mm (cl_begin ch ru).2.1 (cl_begin ch ru).2.2 σ') [] [.int (cl_begin ch ru).1] X (by decide) dLW_322 cvLW_41 lkLW_41 rfl (Nat.le_of_ble_eq_true rfl) rfl (t_begin (d := 0) HM (fun σ' z => ⟨rfl, z⟩)) ?_
  rintro xτ1 τ1 ⟨hxτ1, HM1⟩
  obtain rfl := Option.some.inj hxτ1
  exact lx_cmp X dLW_325 (by decide) rfl (kk _ _ σ1 τ1 HX1 HM1)
theorem lb_6 (X : lx_X J aX aM p s m meth c b L xs) (hL : L ≤ 2560) (hn : n + 5 ≤ L) (HX : xx ch ru σ) (HM : mm ch ru τ) (kk : ∀ (c' : q_C) (r' : q_R) (σ' τ' : dx_V), xx c' r' σ' → mm c' r' τ' → lx_G J aX aM p e s m below meth c b (nI n) 518 [] σ' τ') : lx_G J aX aM p e s m below meth c b (nI n) 330 [] σ τ := by
  refine lx_aload X 1 dLW_330 rfl ?_
  refine lx_arg (k := 1) (n := n) X hL (by omega) rfl dLW_331 dLW_332 dLW_333 dLW_334 dLW_335 (by decide) ?_
  refine lx_cX (d := 8) (po := fun o σ' => o = some (cl_post ch ru (xs (n + 1))).1 ∧ xx (cl_post ch ru (xs (n + 1))).2.1 (cl_post ch ru (xs (n + 1))).2.2 σ') [.inl (xs (n + 1))] [] X (by decide) dLW_336 cvLW_42 lkLW_42 rfl (Nat.le_of_ble_eq_true rfl) rfl (s_MC_post (d := 7) HX (fun σ' z => ⟨rfl, z⟩)) ?_
  rintro xσ1 σ1 ⟨hxσ1, HX1⟩
  obtain rfl := Option.some.inj hxσ1
  refine lx_aload X 2 dLW_339 rfl ?_
  refine lx_arg (k := 1) (n := n) X hL (by omega) rfl dLW_340 dLW_341 dLW_342 dLW_343 dLW_344 (by decide) ?_
  refine lx_cM (d := 8) (po := fun o σ' => o = some (cl_post ch ru (xs (n + 1))).1 ∧ mm (cl_post ch ru (xs (n + 1))).2.1 (cl_post ch ru (xs (n + 1))).2.2 σ') [.inl (xs (n + 1))] [.int (cl_post ch ru (xs (n + 1))).1] X (by decide) dLW_345 cvLW_45 lkLW_45 rfl (Nat.le_of_ble_eq_true rfl) rfl (t_post (d := 7) HM (fun σ' z => ⟨rfl, z⟩)) ?_
  rintro xτ1 τ1 ⟨hxτ1, HM1⟩
  obtain rfl := Option.some.inj hxτ1
  exact lx_cmp X dLW_348 (by decide) rfl (kk _ _ σ1 τ1 HX1 HM1)
theorem lb_7 (X : lx_X J aX aM p s m meth c b L xs) (hL : L ≤ 2560) (hn : n + 5 ≤ L) (HX : xx ch ru σ) (HM : mm ch ru τ) (kk : ∀ (c' : q_C) (r' : q_R) (σ' τ' : dx_V), xx c' r' σ' → mm c' r' τ' → lx_G J aX aM p e s m below meth c b (nI n) 518 [] σ' τ') : lx_G J aX aM p e s m below meth c b (nI n) 353 [] σ τ := by
  refine lx_aload X 1 dLW_353 rfl ?_
  refine lx_cX (d := 8) (po := fun o σ' => o = some (cl_step ch ru).1 ∧ xx (cl_step ch ru).2.1 (cl_step ch ru).2.2 σ') [] [] X (by decide) dLW_354 cvLW_46 lkLW_46 rfl (Nat.le_of_ble_eq_true rfl) rfl (s_MC_step (d := 1) HX (fun σ' z => ⟨rfl, z⟩)) ?_
  rintro xσ1 σ1 ⟨hxσ1, HX1⟩
  obtain rfl := Option.some.inj hxσ1
  refine lx_aload X 2 dLW_357 rfl ?_
  refine lx_cM (d := 8) (po := fun o σ' => o = some (cl_step ch ru).1 ∧ mm (cl_step ch ru).2.1 (cl_step ch ru).2.2 σ') [] [.int (cl_step ch ru).1] X (by decide) dLW_358 cvLW_49 lkLW_49 rfl (Nat.le_of_ble_eq_true rfl) rfl (t_step (d := 0) HM (fun σ' z => ⟨rfl, z⟩)) ?_
  rintro xτ1 τ1 ⟨hxτ1, HM1⟩
  obtain rfl := Option.some.inj hxτ1
  exact lx_cmp X dLW_361 (by decide) rfl (kk _ _ σ1 τ1 HX1 HM1)
theorem lb_8 (X : lx_X J aX aM p s m meth c b L xs) (hL : L ≤ 2560) (hn : n + 5 ≤ L) (HX : xx ch ru σ) (HM : mm ch ru τ) (kk : ∀ (c' : q_C) (r' : q_R) (σ' τ' : dx_V), xx c' r' σ' → mm c' r' τ' → lx_G J aX aM p e s m below meth c b (nI n) 518 [] σ' τ') : lx_G J aX aM p e s m below meth c b (nI n) 366 [] σ τ := by
  refine lx_aload X 1 dLW_366 rfl ?_
  refine lx_arg (k := 1) (n := n) X hL (by omega) rfl dLW_367 dLW_368 dLW_369 dLW_370 dLW_371 (by decide) ?_
  refine lx_cX (d := 8) (po := fun o σ' => o = some (cl_tick ch ru (xs (n + 1))).1 ∧ xx (cl_tick ch ru (xs (n + 1))).2.1 (cl_tick ch ru (xs (n + 1))).2.2 σ') [.inl (xs (n + 1))] [] X (by decide) dLW_372 cvLW_50 lkLW_50 rfl (Nat.le_of_ble_eq_true rfl) rfl (s_MC_tick (d := 6) HX (fun σ' z => ⟨rfl, z⟩)) ?_
  rintro xσ1 σ1 ⟨hxσ1, HX1⟩
  obtain rfl := Option.some.inj hxσ1
  refine lx_aload X 2 dLW_375 rfl ?_
  refine lx_arg (k := 1) (n := n) X hL (by omega) rfl dLW_376 dLW_377 dLW_378 dLW_379 dLW_380 (by decide) ?_
  refine lx_cM (d := 8) (po := fun o σ' => o = some (cl_tick ch ru (xs (n + 1))).1 ∧ mm (cl_tick ch ru (xs (n + 1))).2.1 (cl_tick ch ru (xs (n + 1))).2.2 σ') [.inl (xs (n + 1))] [.int (cl_tick ch ru (xs (n + 1))).1] X (by decide) dLW_381 cvLW_54 lkLW_54 rfl (Nat.le_of_ble_eq_true rfl) rfl (t_tick (d := 7) HM (fun σ' z => ⟨rfl, z⟩)) ?_
  rintro xτ1 τ1 ⟨hxτ1, HM1⟩
  obtain rfl := Option.some.inj hxτ1
  exact lx_cmp X dLW_384 (by decide) rfl (kk _ _ σ1 τ1 HX1 HM1)
theorem lb_9 (X : lx_X J aX aM p s m meth c b L xs) (hL : L ≤ 2560) (hn : n + 5 ≤ L) (HX : xx ch ru σ) (HM : mm ch ru τ) (kk : ∀ (c' : q_C) (r' : q_R) (σ' τ' : dx_V), xx c' r' σ' → mm c' r' τ' → lx_G J aX aM p e s m below meth c b (nI n) 518 [] σ' τ') : lx_G J aX aM p e s m below meth c b (nI n) 389 [] σ τ := by
  refine lx_aload X 1 dLW_389 rfl ?_
  refine lx_cXv (d := 8) (po := fun o σ' => xx (cl_reset ch ru).2.1 (cl_reset ch ru).2.2 σ') [] [] X (by decide) dLW_390 cvLW_55 lkLW_55 rfl (Nat.le_of_ble_eq_true rfl) rfl (s_MC_reset (d := 8) HX (fun σ' z => z)) ?_
  intro σ1 HX1
  refine lx_aload X 2 dLW_393 rfl ?_
  refine lx_cMv (d := 8) (po := fun o σ' => mm (cl_reset ch ru).2.1 (cl_reset ch ru).2.2 σ') [] [] X (by decide) dLW_394 cvLW_58 lkLW_58 rfl (Nat.le_of_ble_eq_true rfl) rfl (t_reset (d := 8) HM (fun σ' z => z)) ?_
  intro τ1 HM1
  exact lx_goto X 518 dLW_397 (by decide) (kk _ _ σ1 τ1 HX1 HM1)
theorem lb_10 (X : lx_X J aX aM p s m meth c b L xs) (hL : L ≤ 2560) (hn : n + 5 ≤ L) (HX : xx ch ru σ) (HM : mm ch ru τ) (kk : ∀ (c' : q_C) (r' : q_R) (σ' τ' : dx_V), xx c' r' σ' → mm c' r' τ' → lx_G J aX aM p e s m below meth c b (nI n) 518 [] σ' τ') : lx_G J aX aM p e s m below meth c b (nI n) 400 [] σ τ := by
  refine lx_aload X 1 dLW_400 rfl ?_
  refine lx_cX (d := 8) (po := fun o σ' => o = some (cl_outcome ch ru).1 ∧ xx (cl_outcome ch ru).2.1 (cl_outcome ch ru).2.2 σ') [] [] X (by decide) dLW_401 cvLW_59 lkLW_59 rfl (Nat.le_of_ble_eq_true rfl) rfl (s_MC_outcome (d := 8) HX (fun σ' z => ⟨rfl, z⟩)) ?_
  rintro xσ1 σ1 ⟨hxσ1, HX1⟩
  obtain rfl := Option.some.inj hxσ1
  refine lx_aload X 2 dLW_404 rfl ?_
  refine lx_cM (d := 8) (po := fun o σ' => o = some (cl_outcome ch ru).1 ∧ mm (cl_outcome ch ru).2.1 (cl_outcome ch ru).2.2 σ') [] [.int (cl_outcome ch ru).1] X (by decide) dLW_405 cvLW_62 lkLW_62 rfl (Nat.le_of_ble_eq_true rfl) rfl (t_outcome (d := 8) HM (fun σ' z => ⟨rfl, z⟩)) ?_
  rintro xτ1 τ1 ⟨hxτ1, HM1⟩
  obtain rfl := Option.some.inj hxτ1
  exact lx_cmp X dLW_408 (by decide) rfl (kk _ _ σ1 τ1 HX1 HM1)
theorem lb_11 (X : lx_X J aX aM p s m meth c b L xs) (hL : L ≤ 2560) (hn : n + 5 ≤ L) (HX : xx ch ru σ) (HM : mm ch ru τ) (kk : ∀ (c' : q_C) (r' : q_R) (σ' τ' : dx_V), xx c' r' σ' → mm c' r' τ' → lx_G J aX aM p e s m below meth c b (nI n) 518 [] σ' τ') : lx_G J aX aM p e s m below meth c b (nI n) 413 [] σ τ := by
  refine lx_aload X 1 dLW_413 rfl ?_
  refine lx_cX (d := 8) (po := fun o σ' => o = some (cl_active ch ru).1 ∧ xx (cl_active ch ru).2.1 (cl_active ch ru).2.2 σ') [] [] X (by decide) dLW_414 cvLW_63 lkLW_63 rfl (Nat.le_of_ble_eq_true rfl) rfl (s_MC_active (d := 7) HX (fun σ' z => ⟨rfl, z⟩)) ?_
  rintro xσ1 σ1 ⟨hxσ1, HX1⟩
  obtain rfl := Option.some.inj hxσ1
  refine lx_aload X 2 dLW_417 rfl ?_
  refine lx_cM (d := 8) (po := fun o σ' => o = some (cl_active ch ru).1 ∧ mm (cl_active ch ru).2.1 (cl_active ch ru).2.2 σ') [] [.int (cl_active ch ru).1] X (by decide) dLW_418 cvLW_66 lkLW_66 rfl (Nat.le_of_ble_eq_true rfl) rfl (t_active (d := 8) HM (fun σ' z => ⟨rfl, z⟩)) ?_
  rintro xτ1 τ1 ⟨hxτ1, HM1⟩
  obtain rfl := Option.some.inj hxτ1
  exact lx_cmp X dLW_421 (by decide) rfl (kk _ _ σ1 τ1 HX1 HM1)
theorem lb_12 (X : lx_X J aX aM p s m meth c b L xs) (hL : L ≤ 2560) (hn : n + 5 ≤ L) (HX : xx ch ru σ) (HM : mm ch ru τ) (kk : ∀ (c' : q_C) (r' : q_R) (σ' τ' : dx_V), xx c' r' σ' → mm c' r' τ' → lx_G J aX aM p e s m below meth c b (nI n) 518 [] σ' τ') : lx_G J aX aM p e s m below meth c b (nI n) 426 [] σ τ := by
  refine lx_aload X 1 dLW_426 rfl ?_
  refine lx_arg (k := 1) (n := n) X hL (by omega) rfl dLW_427 dLW_428 dLW_429 dLW_430 dLW_431 (by decide) ?_
  refine lx_cX (d := 8) (po := fun o σ' => o = some (cl_remembered ch ru (xs (n + 1))).1 ∧ xx (cl_remembered ch ru (xs (n + 1))).2.1 (cl_remembered ch ru (xs (n + 1))).2.2 σ') [.inl (xs (n + 1))] [] X (by decide) dLW_432 cvLW_67 lkLW_67 rfl (Nat.le_of_ble_eq_true rfl) rfl (s_MC_remembered (d := 7) HX (fun σ' z => ⟨rfl, z⟩)) ?_
  rintro xσ1 σ1 ⟨hxσ1, HX1⟩
  obtain rfl := Option.some.inj hxσ1
  refine lx_aload X 2 dLW_435 rfl ?_
  refine lx_arg (k := 1) (n := n) X hL (by omega) rfl dLW_436 dLW_437 dLW_438 dLW_439 dLW_440 (by decide) ?_
  refine lx_cM (d := 8) (po := fun o σ' => o = some (cl_remembered ch ru (xs (n + 1))).1 ∧ mm (cl_remembered ch ru (xs (n + 1))).2.1 (cl_remembered ch ru (xs (n + 1))).2.2 σ') [.inl (xs (n + 1))] [.int (cl_remembered ch ru (xs (n + 1))).1] X (by decide) dLW_441 cvLW_70 lkLW_70 rfl (Nat.le_of_ble_eq_true rfl) rfl (t_remembered (d := 8) HM (fun σ' z => ⟨rfl, z⟩)) ?_
  rintro xτ1 τ1 ⟨hxτ1, HM1⟩
  obtain rfl := Option.some.inj hxτ1
  exact lx_cmp X dLW_444 (by decide) rfl (kk _ _ σ1 τ1 HX1 HM1)
theorem lb_13 (X : lx_X J aX aM p s m meth c b L xs) (hL : L ≤ 2560) (hn : n + 5 ≤ L) (HX : xx ch ru σ) (HM : mm ch ru τ) (kk : ∀ (c' : q_C) (r' : q_R) (σ' τ' : dx_V), xx c' r' σ' → mm c' r' τ' → lx_G J aX aM p e s m below meth c b (nI n) 518 [] σ' τ') : lx_G J aX aM p e s m below meth c b (nI n) 449 [] σ τ := by
  refine lx_aload X 1 dLW_449 rfl ?_
  refine lx_arg (k := 1) (n := n) X hL (by omega) rfl dLW_450 dLW_451 dLW_452 dLW_453 dLW_454 (by decide) ?_
  refine lx_cX (d := 8) (po := fun o σ' => o = some (cl_variable ch ru (xs (n + 1))).1 ∧ xx (cl_variable ch ru (xs (n + 1))).2.1 (cl_variable ch ru (xs (n + 1))).2.2 σ') [.inl (xs (n + 1))] [] X (by decide) dLW_455 cvLW_71 lkLW_71 rfl (Nat.le_of_ble_eq_true rfl) rfl (s_MC_variable (d := 7) HX (fun σ' z => ⟨rfl, z⟩)) ?_
  rintro xσ1 σ1 ⟨hxσ1, HX1⟩
  obtain rfl := Option.some.inj hxσ1
  refine lx_aload X 2 dLW_458 rfl ?_
  refine lx_arg (k := 1) (n := n) X hL (by omega) rfl dLW_459 dLW_460 dLW_461 dLW_462 dLW_463 (by decide) ?_
  refine lx_cM (d := 8) (po := fun o σ' => o = some (cl_variable ch ru (xs (n + 1))).1 ∧ mm (cl_variable ch ru (xs (n + 1))).2.1 (cl_variable ch ru (xs (n + 1))).2.2 σ') [.inl (xs (n + 1))] [.int (cl_variable ch ru (xs (n + 1))).1] X (by decide) dLW_464 cvLW_74 lkLW_74 rfl (Nat.le_of_ble_eq_true rfl) rfl (t_variable (d := 8) HM (fun σ' z => ⟨rfl, z⟩)) ?_
  rintro xτ1 τ1 ⟨hxτ1, HM1⟩
  obtain rfl := Option.some.inj hxτ1
  exact lx_cmp X dLW_467 (by decide) rfl (kk _ _ σ1 τ1 HX1 HM1)
theorem lb_14 (X : lx_X J aX aM p s m meth c b L xs) (hL : L ≤ 2560) (hn : n + 5 ≤ L) (HX : xx ch ru σ) (HM : mm ch ru τ) (kk : ∀ (c' : q_C) (r' : q_R) (σ' τ' : dx_V), xx c' r' σ' → mm c' r' τ' → lx_G J aX aM p e s m below meth c b (nI n) 518 [] σ' τ') : lx_G J aX aM p e s m below meth c b (nI n) 472 [] σ τ := by
  refine lx_aload X 1 dLW_472 rfl ?_
  refine lx_arg (k := 1) (n := n) X hL (by omega) rfl dLW_473 dLW_474 dLW_475 dLW_476 dLW_477 (by decide) ?_
  refine lx_cX (d := 8) (po := fun o σ' => o = some (cl_listed ch ru (xs (n + 1))).1 ∧ xx (cl_listed ch ru (xs (n + 1))).2.1 (cl_listed ch ru (xs (n + 1))).2.2 σ') [.inl (xs (n + 1))] [] X (by decide) dLW_478 cvLW_75 lkLW_75 rfl (Nat.le_of_ble_eq_true rfl) rfl (s_MC_listed (d := 7) HX (fun σ' z => ⟨rfl, z⟩)) ?_
  rintro xσ1 σ1 ⟨hxσ1, HX1⟩
  obtain rfl := Option.some.inj hxσ1
  refine lx_aload X 2 dLW_481 rfl ?_
  refine lx_arg (k := 1) (n := n) X hL (by omega) rfl dLW_482 dLW_483 dLW_484 dLW_485 dLW_486 (by decide) ?_
  refine lx_cM (d := 8) (po := fun o σ' => o = some (cl_listed ch ru (xs (n + 1))).1 ∧ mm (cl_listed ch ru (xs (n + 1))).2.1 (cl_listed ch ru (xs (n + 1))).2.2 σ') [.inl (xs (n + 1))] [.int (cl_listed ch ru (xs (n + 1))).1] X (by decide) dLW_487 cvLW_78 lkLW_78 rfl (Nat.le_of_ble_eq_true rfl) rfl (t_listed (d := 8) HM (fun σ' z => ⟨rfl, z⟩)) ?_
  rintro xτ1 τ1 ⟨hxτ1, HM1⟩
  obtain rfl := Option.some.inj hxτ1
  exact lx_cmp X dLW_490 (by decide) rfl (kk _ _ σ1 τ1 HX1 HM1)
theorem lb_15 (X : lx_X J aX aM p s m meth c b L xs) (hL : L ≤ 2560) (hn : n + 5 ≤ L) (HX : xx ch ru σ) (HM : mm ch ru τ) (kk : ∀ (c' : q_C) (r' : q_R) (σ' τ' : dx_V), xx c' r' σ' → mm c' r' τ' → lx_G J aX aM p e s m below meth c b (nI n) 518 [] σ' τ') : lx_G J aX aM p e s m below meth c b (nI n) 495 [] σ τ := by
  refine lx_aload X 1 dLW_495 rfl ?_
  refine lx_arg (k := 1) (n := n) X hL (by omega) rfl dLW_496 dLW_497 dLW_498 dLW_499 dLW_500 (by decide) ?_
  refine lx_cX (d := 8) (po := fun o σ' => o = some (cl_waiting ch ru (xs (n + 1))).1 ∧ xx (cl_waiting ch ru (xs (n + 1))).2.1 (cl_waiting ch ru (xs (n + 1))).2.2 σ') [.inl (xs (n + 1))] [] X (by decide) dLW_501 cvLW_79 lkLW_79 rfl (Nat.le_of_ble_eq_true rfl) rfl (s_MC_waiting (d := 7) HX (fun σ' z => ⟨rfl, z⟩)) ?_
  rintro xσ1 σ1 ⟨hxσ1, HX1⟩
  obtain rfl := Option.some.inj hxσ1
  refine lx_aload X 2 dLW_504 rfl ?_
  refine lx_arg (k := 1) (n := n) X hL (by omega) rfl dLW_505 dLW_506 dLW_507 dLW_508 dLW_509 (by decide) ?_
  refine lx_cM (d := 8) (po := fun o σ' => o = some (cl_waiting ch ru (xs (n + 1))).1 ∧ mm (cl_waiting ch ru (xs (n + 1))).2.1 (cl_waiting ch ru (xs (n + 1))).2.2 σ') [.inl (xs (n + 1))] [.int (cl_waiting ch ru (xs (n + 1))).1] X (by decide) dLW_510 cvLW_82 lkLW_82 rfl (Nat.le_of_ble_eq_true rfl) rfl (t_waiting (d := 8) HM (fun σ' z => ⟨rfl, z⟩)) ?_
  rintro xτ1 τ1 ⟨hxτ1, HM1⟩
  obtain rfl := Option.some.inj hxτ1
  exact lx_cmp X dLW_513 (by decide) rfl (kk _ _ σ1 τ1 HX1 HM1)
end LB
