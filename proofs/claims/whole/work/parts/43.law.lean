/-! THE CLAIM OUT OF ONE WALK OF THE LAW'S BODY. Your part is whole_start (and what it stands on); all else here is the same for every law, but numbers. -/
def R_law : String := "MicrostepChartLaw"
def lw_P (b : Addr) (xs : List Int32) (args : Array Value) (s : State) : Prop := args = #[.ref b] ∧ s.IntsAt b xs ∧ xs.length ≤ 2560 ∧ (Jvm.Cond.and given_1 narrow_1).before args s = true
def lw_Q (_ : Array Value) (s : State) (o : Outcome) (t : State) : Prop := o = .returned (some (.int 1)) ∧ Framed s o t [] 600000 7302250
def lw_Z (below : List Frame) (a : Array Value) (s : State) : State → Prop := fun t => ∃ o, t.status = .running ∧ Ended t below o ∧ lw_Q a s o t
/-- the law's own end, with 1 on the stack, nothing written that was there before, its room as the claim has it -/
theorem lw_ret {p : Program} {l : Launch} {e : Env} {s : State} {m : MethodId} {below : List Frame} {meth : Method} {c : Code} {b : Nat} (hx : p.tables.exec = Jvm.exec) (hb : c.code = code) (hr : meth.sig.returnType = ret) (hlocks : meth.locks = false) {pc : Nat} {H : Heap} {ls : Array Slot} (hdg : decode code pc = .ok (.ireturn, 1)) : W p l e room_1 s m #[Value.ref b] below meth c H [] 600000 7302250 (lw_Z below #[Value.ref b] s) (F0 m pc ls [.int 1]) := by
  intro T hT X
  obtain ⟨fs, hret, hrun, hended, hW, hframe⟩ := X.leave (v := some (.int 1)) (hlocks := hlocks) (fun h => by rw [hr] at h; cases h)
  have hmeth' : T.vm.method? m = some meth := X.method'
  refine ⟨T.setFrames fs, ?_, .returned (some (.int 1)), hrun, hended, rfl, ⟨_, rfl⟩, hW, hframe⟩
  jvm_step X.here [X.here.top, hx, hb, hdg, hmeth', hr, ret, narrow_b1]
  (try refine ⟨rfl, ?_⟩); (try refine ⟨rfl, ?_⟩)
  first | (intro acts; rw [hret _ acts rfl rfl rfl]) | rw [hret _ _ rfl rfl rfl]
  exact Steps.refl _
/-- what holds at the law's entry: the machine, the code, the tables' words (any of lw_tbl by 'hts w (by decide +kernel)'), the script of L ints xs at the cell b, what the Statement gives of the start (any of its parts by flat_of_before) -/
def lw_At (p : Program) (s : State) (m : MethodId) (meth : Method) (c : Code) (b L : Nat) (xs : Nat → Int32) : Prop :=
  p.tables.exec = Jvm.exec ∧ c.code = code ∧ meth.sig.returnType = ret ∧ c.maxLocals = 4 ∧ s.vm.findClass R_law = some m.cls ∧ (∀ w ∈ lw_tbl, w.before #[Value.ref b] s = true) ∧ va_X b L xs s s.heap ∧ b < s.heap.size ∧ meth.locks = false ∧ (Jvm.Cond.and given_1 narrow_1).before #[Value.ref b] s = true
theorem dLW_0 : decode code 0 = .ok (.new 7, 3) := by decide +kernel
theorem dLW_3 : decode code 3 = .ok (.dup, 1) := by decide +kernel
theorem dLW_4 : decode code 4 = .ok (.invokespecial 9, 3) := by decide +kernel
theorem dLW_7 : decode code 7 = .ok (.astore_n 1, 1) := by decide +kernel
theorem dLW_8 : decode code 8 = .ok (.new 10, 3) := by decide +kernel
theorem dLW_11 : decode code 11 = .ok (.dup, 1) := by decide +kernel
theorem dLW_12 : decode code 12 = .ok (.invokespecial 12, 3) := by decide +kernel
theorem dLW_15 : decode code 15 = .ok (.astore_n 2, 1) := by decide +kernel
theorem dLW_16 : decode code 16 = .ok (.iconst 0, 1) := by decide +kernel
theorem dLW_17 : decode code 17 = .ok (.istore_n 3, 1) := by decide +kernel
theorem dLW_18 : decode code 18 = .ok (.iload_n 3, 1) := by decide +kernel
theorem dLW_19 : decode code 19 = .ok (.aload_n 0, 1) := by decide +kernel
theorem dLW_20 : decode code 20 = .ok (.arraylength, 1) := by decide +kernel
theorem dLW_21 : decode code 21 = .ok (.iconst 5, 1) := by decide +kernel
theorem dLW_22 : decode code 22 = .ok (.isub, 1) := by decide +kernel
theorem dLW_23 : decode code 23 = .ok (.if_icmp .gt 501, 3) := by decide +kernel
theorem dLW_26 : decode code 26 = .ok (.aload_n 0, 1) := by decide +kernel
theorem dLW_27 : decode code 27 = .ok (.iload_n 3, 1) := by decide +kernel
theorem dLW_28 : decode code 28 = .ok (.iaload, 1) := by decide +kernel
theorem dLW_29 : decode code 29 = .ok (.bipush 15, 2) := by decide +kernel
theorem dLW_31 : decode code 31 = .ok (.iand, 1) := by decide +kernel
theorem dLW_32 : decode code 32 = .ok (.tableswitch 486 0 15 #[80, 113, 136, 179, 232, 285, 298, 321, 334, 357, 368, 381, 394, 417, 440, 463], 80) := by decide +kernel
theorem dLW_112 : decode code 112 = .ok (.aload_n 1, 1) := by decide +kernel
theorem dLW_113 : decode code 113 = .ok (.aload_n 0, 1) := by decide +kernel
theorem dLW_114 : decode code 114 = .ok (.iload_n 3, 1) := by decide +kernel
theorem dLW_115 : decode code 115 = .ok (.iconst 1, 1) := by decide +kernel
theorem dLW_116 : decode code 116 = .ok (.iadd, 1) := by decide +kernel
theorem dLW_117 : decode code 117 = .ok (.iaload, 1) := by decide +kernel
theorem dLW_118 : decode code 118 = .ok (.aload_n 0, 1) := by decide +kernel
theorem dLW_119 : decode code 119 = .ok (.iload_n 3, 1) := by decide +kernel
theorem dLW_120 : decode code 120 = .ok (.iconst 2, 1) := by decide +kernel
theorem dLW_121 : decode code 121 = .ok (.iadd, 1) := by decide +kernel
theorem dLW_122 : decode code 122 = .ok (.iaload, 1) := by decide +kernel
theorem dLW_123 : decode code 123 = .ok (.invokevirtual 13, 3) := by decide +kernel
theorem dLW_126 : decode code 126 = .ok (.aload_n 2, 1) := by decide +kernel
theorem dLW_127 : decode code 127 = .ok (.aload_n 0, 1) := by decide +kernel
theorem dLW_128 : decode code 128 = .ok (.iload_n 3, 1) := by decide +kernel
theorem dLW_129 : decode code 129 = .ok (.iconst 1, 1) := by decide +kernel
theorem dLW_130 : decode code 130 = .ok (.iadd, 1) := by decide +kernel
theorem dLW_131 : decode code 131 = .ok (.iaload, 1) := by decide +kernel
theorem dLW_132 : decode code 132 = .ok (.aload_n 0, 1) := by decide +kernel
theorem dLW_133 : decode code 133 = .ok (.iload_n 3, 1) := by decide +kernel
theorem dLW_134 : decode code 134 = .ok (.iconst 2, 1) := by decide +kernel
theorem dLW_135 : decode code 135 = .ok (.iadd, 1) := by decide +kernel
theorem dLW_136 : decode code 136 = .ok (.iaload, 1) := by decide +kernel
theorem dLW_137 : decode code 137 = .ok (.invokevirtual 17, 3) := by decide +kernel
theorem dLW_140 : decode code 140 = .ok (.if_icmp .eq 378, 3) := by decide +kernel
theorem dLW_143 : decode code 143 = .ok (.iconst 0, 1) := by decide +kernel
theorem dLW_144 : decode code 144 = .ok (.ireturn, 1) := by decide +kernel
theorem dLW_145 : decode code 145 = .ok (.aload_n 1, 1) := by decide +kernel
theorem dLW_146 : decode code 146 = .ok (.aload_n 0, 1) := by decide +kernel
theorem dLW_147 : decode code 147 = .ok (.iload_n 3, 1) := by decide +kernel
theorem dLW_148 : decode code 148 = .ok (.iconst 1, 1) := by decide +kernel
theorem dLW_149 : decode code 149 = .ok (.iadd, 1) := by decide +kernel
theorem dLW_150 : decode code 150 = .ok (.iaload, 1) := by decide +kernel
theorem dLW_151 : decode code 151 = .ok (.invokevirtual 18, 3) := by decide +kernel
theorem dLW_154 : decode code 154 = .ok (.aload_n 2, 1) := by decide +kernel
theorem dLW_155 : decode code 155 = .ok (.aload_n 0, 1) := by decide +kernel
theorem dLW_156 : decode code 156 = .ok (.iload_n 3, 1) := by decide +kernel
theorem dLW_157 : decode code 157 = .ok (.iconst 1, 1) := by decide +kernel
theorem dLW_158 : decode code 158 = .ok (.iadd, 1) := by decide +kernel
theorem dLW_159 : decode code 159 = .ok (.iaload, 1) := by decide +kernel
theorem dLW_160 : decode code 160 = .ok (.invokevirtual 22, 3) := by decide +kernel
theorem dLW_163 : decode code 163 = .ok (.if_icmp .eq 355, 3) := by decide +kernel
theorem dLW_166 : decode code 166 = .ok (.iconst 0, 1) := by decide +kernel
theorem dLW_167 : decode code 167 = .ok (.ireturn, 1) := by decide +kernel
theorem dLW_168 : decode code 168 = .ok (.aload_n 1, 1) := by decide +kernel
theorem dLW_169 : decode code 169 = .ok (.aload_n 0, 1) := by decide +kernel
theorem dLW_170 : decode code 170 = .ok (.iload_n 3, 1) := by decide +kernel
theorem dLW_171 : decode code 171 = .ok (.iconst 1, 1) := by decide +kernel
theorem dLW_172 : decode code 172 = .ok (.iadd, 1) := by decide +kernel
theorem dLW_173 : decode code 173 = .ok (.iaload, 1) := by decide +kernel
theorem dLW_174 : decode code 174 = .ok (.aload_n 0, 1) := by decide +kernel
theorem dLW_175 : decode code 175 = .ok (.iload_n 3, 1) := by decide +kernel
theorem dLW_176 : decode code 176 = .ok (.iconst 2, 1) := by decide +kernel
theorem dLW_177 : decode code 177 = .ok (.iadd, 1) := by decide +kernel
theorem dLW_178 : decode code 178 = .ok (.iaload, 1) := by decide +kernel
theorem dLW_179 : decode code 179 = .ok (.aload_n 0, 1) := by decide +kernel
theorem dLW_180 : decode code 180 = .ok (.iload_n 3, 1) := by decide +kernel
theorem dLW_181 : decode code 181 = .ok (.iconst 3, 1) := by decide +kernel
theorem dLW_182 : decode code 182 = .ok (.iadd, 1) := by decide +kernel
theorem dLW_183 : decode code 183 = .ok (.iaload, 1) := by decide +kernel
theorem dLW_184 : decode code 184 = .ok (.invokevirtual 23, 3) := by decide +kernel
theorem dLW_187 : decode code 187 = .ok (.aload_n 2, 1) := by decide +kernel
theorem dLW_188 : decode code 188 = .ok (.aload_n 0, 1) := by decide +kernel
theorem dLW_189 : decode code 189 = .ok (.iload_n 3, 1) := by decide +kernel
theorem dLW_190 : decode code 190 = .ok (.iconst 1, 1) := by decide +kernel
theorem dLW_191 : decode code 191 = .ok (.iadd, 1) := by decide +kernel
theorem dLW_192 : decode code 192 = .ok (.iaload, 1) := by decide +kernel
theorem dLW_193 : decode code 193 = .ok (.aload_n 0, 1) := by decide +kernel
theorem dLW_194 : decode code 194 = .ok (.iload_n 3, 1) := by decide +kernel
theorem dLW_195 : decode code 195 = .ok (.iconst 2, 1) := by decide +kernel
theorem dLW_196 : decode code 196 = .ok (.iadd, 1) := by decide +kernel
theorem dLW_197 : decode code 197 = .ok (.iaload, 1) := by decide +kernel
theorem dLW_198 : decode code 198 = .ok (.aload_n 0, 1) := by decide +kernel
theorem dLW_199 : decode code 199 = .ok (.iload_n 3, 1) := by decide +kernel
theorem dLW_200 : decode code 200 = .ok (.iconst 3, 1) := by decide +kernel
theorem dLW_201 : decode code 201 = .ok (.iadd, 1) := by decide +kernel
theorem dLW_202 : decode code 202 = .ok (.iaload, 1) := by decide +kernel
theorem dLW_203 : decode code 203 = .ok (.invokevirtual 27, 3) := by decide +kernel
theorem dLW_206 : decode code 206 = .ok (.if_icmp .eq 312, 3) := by decide +kernel
theorem dLW_209 : decode code 209 = .ok (.iconst 0, 1) := by decide +kernel
theorem dLW_210 : decode code 210 = .ok (.ireturn, 1) := by decide +kernel
theorem dLW_211 : decode code 211 = .ok (.aload_n 1, 1) := by decide +kernel
theorem dLW_212 : decode code 212 = .ok (.aload_n 0, 1) := by decide +kernel
theorem dLW_213 : decode code 213 = .ok (.iload_n 3, 1) := by decide +kernel
theorem dLW_214 : decode code 214 = .ok (.iconst 1, 1) := by decide +kernel
theorem dLW_215 : decode code 215 = .ok (.iadd, 1) := by decide +kernel
theorem dLW_216 : decode code 216 = .ok (.iaload, 1) := by decide +kernel
theorem dLW_217 : decode code 217 = .ok (.aload_n 0, 1) := by decide +kernel
theorem dLW_218 : decode code 218 = .ok (.iload_n 3, 1) := by decide +kernel
theorem dLW_219 : decode code 219 = .ok (.iconst 2, 1) := by decide +kernel
theorem dLW_220 : decode code 220 = .ok (.iadd, 1) := by decide +kernel
theorem dLW_221 : decode code 221 = .ok (.iaload, 1) := by decide +kernel
theorem dLW_222 : decode code 222 = .ok (.aload_n 0, 1) := by decide +kernel
theorem dLW_223 : decode code 223 = .ok (.iload_n 3, 1) := by decide +kernel
theorem dLW_224 : decode code 224 = .ok (.iconst 3, 1) := by decide +kernel
theorem dLW_225 : decode code 225 = .ok (.iadd, 1) := by decide +kernel
theorem dLW_226 : decode code 226 = .ok (.iaload, 1) := by decide +kernel
theorem dLW_227 : decode code 227 = .ok (.aload_n 0, 1) := by decide +kernel
theorem dLW_228 : decode code 228 = .ok (.iload_n 3, 1) := by decide +kernel
theorem dLW_229 : decode code 229 = .ok (.iconst 4, 1) := by decide +kernel
theorem dLW_230 : decode code 230 = .ok (.iadd, 1) := by decide +kernel
theorem dLW_231 : decode code 231 = .ok (.iaload, 1) := by decide +kernel
theorem dLW_232 : decode code 232 = .ok (.invokevirtual 28, 3) := by decide +kernel
theorem dLW_235 : decode code 235 = .ok (.aload_n 2, 1) := by decide +kernel
theorem dLW_236 : decode code 236 = .ok (.aload_n 0, 1) := by decide +kernel
theorem dLW_237 : decode code 237 = .ok (.iload_n 3, 1) := by decide +kernel
theorem dLW_238 : decode code 238 = .ok (.iconst 1, 1) := by decide +kernel
theorem dLW_239 : decode code 239 = .ok (.iadd, 1) := by decide +kernel
theorem dLW_240 : decode code 240 = .ok (.iaload, 1) := by decide +kernel
theorem dLW_241 : decode code 241 = .ok (.aload_n 0, 1) := by decide +kernel
theorem dLW_242 : decode code 242 = .ok (.iload_n 3, 1) := by decide +kernel
theorem dLW_243 : decode code 243 = .ok (.iconst 2, 1) := by decide +kernel
theorem dLW_244 : decode code 244 = .ok (.iadd, 1) := by decide +kernel
theorem dLW_245 : decode code 245 = .ok (.iaload, 1) := by decide +kernel
theorem dLW_246 : decode code 246 = .ok (.aload_n 0, 1) := by decide +kernel
theorem dLW_247 : decode code 247 = .ok (.iload_n 3, 1) := by decide +kernel
theorem dLW_248 : decode code 248 = .ok (.iconst 3, 1) := by decide +kernel
theorem dLW_249 : decode code 249 = .ok (.iadd, 1) := by decide +kernel
theorem dLW_250 : decode code 250 = .ok (.iaload, 1) := by decide +kernel
theorem dLW_251 : decode code 251 = .ok (.aload_n 0, 1) := by decide +kernel
theorem dLW_252 : decode code 252 = .ok (.iload_n 3, 1) := by decide +kernel
theorem dLW_253 : decode code 253 = .ok (.iconst 4, 1) := by decide +kernel
theorem dLW_254 : decode code 254 = .ok (.iadd, 1) := by decide +kernel
theorem dLW_255 : decode code 255 = .ok (.iaload, 1) := by decide +kernel
theorem dLW_256 : decode code 256 = .ok (.invokevirtual 32, 3) := by decide +kernel
theorem dLW_259 : decode code 259 = .ok (.if_icmp .eq 259, 3) := by decide +kernel
theorem dLW_262 : decode code 262 = .ok (.iconst 0, 1) := by decide +kernel
theorem dLW_263 : decode code 263 = .ok (.ireturn, 1) := by decide +kernel
theorem dLW_264 : decode code 264 = .ok (.aload_n 1, 1) := by decide +kernel
theorem dLW_265 : decode code 265 = .ok (.aload_n 0, 1) := by decide +kernel
theorem dLW_266 : decode code 266 = .ok (.iload_n 3, 1) := by decide +kernel
theorem dLW_267 : decode code 267 = .ok (.iconst 1, 1) := by decide +kernel
theorem dLW_268 : decode code 268 = .ok (.iadd, 1) := by decide +kernel
theorem dLW_269 : decode code 269 = .ok (.iaload, 1) := by decide +kernel
theorem dLW_270 : decode code 270 = .ok (.aload_n 0, 1) := by decide +kernel
theorem dLW_271 : decode code 271 = .ok (.iload_n 3, 1) := by decide +kernel
theorem dLW_272 : decode code 272 = .ok (.iconst 2, 1) := by decide +kernel
theorem dLW_273 : decode code 273 = .ok (.iadd, 1) := by decide +kernel
theorem dLW_274 : decode code 274 = .ok (.iaload, 1) := by decide +kernel
theorem dLW_275 : decode code 275 = .ok (.aload_n 0, 1) := by decide +kernel
theorem dLW_276 : decode code 276 = .ok (.iload_n 3, 1) := by decide +kernel
theorem dLW_277 : decode code 277 = .ok (.iconst 3, 1) := by decide +kernel
theorem dLW_278 : decode code 278 = .ok (.iadd, 1) := by decide +kernel
theorem dLW_279 : decode code 279 = .ok (.iaload, 1) := by decide +kernel
theorem dLW_280 : decode code 280 = .ok (.aload_n 0, 1) := by decide +kernel
theorem dLW_281 : decode code 281 = .ok (.iload_n 3, 1) := by decide +kernel
theorem dLW_282 : decode code 282 = .ok (.iconst 4, 1) := by decide +kernel
theorem dLW_283 : decode code 283 = .ok (.iadd, 1) := by decide +kernel
theorem dLW_284 : decode code 284 = .ok (.iaload, 1) := by decide +kernel
theorem dLW_285 : decode code 285 = .ok (.invokevirtual 33, 3) := by decide +kernel
theorem dLW_288 : decode code 288 = .ok (.aload_n 2, 1) := by decide +kernel
theorem dLW_289 : decode code 289 = .ok (.aload_n 0, 1) := by decide +kernel
theorem dLW_290 : decode code 290 = .ok (.iload_n 3, 1) := by decide +kernel
theorem dLW_291 : decode code 291 = .ok (.iconst 1, 1) := by decide +kernel
theorem dLW_292 : decode code 292 = .ok (.iadd, 1) := by decide +kernel
theorem dLW_293 : decode code 293 = .ok (.iaload, 1) := by decide +kernel
theorem dLW_294 : decode code 294 = .ok (.aload_n 0, 1) := by decide +kernel
theorem dLW_295 : decode code 295 = .ok (.iload_n 3, 1) := by decide +kernel
theorem dLW_296 : decode code 296 = .ok (.iconst 2, 1) := by decide +kernel
theorem dLW_297 : decode code 297 = .ok (.iadd, 1) := by decide +kernel
theorem dLW_298 : decode code 298 = .ok (.iaload, 1) := by decide +kernel
theorem dLW_299 : decode code 299 = .ok (.aload_n 0, 1) := by decide +kernel
theorem dLW_300 : decode code 300 = .ok (.iload_n 3, 1) := by decide +kernel
theorem dLW_301 : decode code 301 = .ok (.iconst 3, 1) := by decide +kernel
theorem dLW_302 : decode code 302 = .ok (.iadd, 1) := by decide +kernel
theorem dLW_303 : decode code 303 = .ok (.iaload, 1) := by decide +kernel
theorem dLW_304 : decode code 304 = .ok (.aload_n 0, 1) := by decide +kernel
theorem dLW_305 : decode code 305 = .ok (.iload_n 3, 1) := by decide +kernel
theorem dLW_306 : decode code 306 = .ok (.iconst 4, 1) := by decide +kernel
theorem dLW_307 : decode code 307 = .ok (.iadd, 1) := by decide +kernel
theorem dLW_308 : decode code 308 = .ok (.iaload, 1) := by decide +kernel
theorem dLW_309 : decode code 309 = .ok (.invokevirtual 36, 3) := by decide +kernel
theorem dLW_312 : decode code 312 = .ok (.if_icmp .eq 206, 3) := by decide +kernel
theorem dLW_315 : decode code 315 = .ok (.iconst 0, 1) := by decide +kernel
theorem dLW_316 : decode code 316 = .ok (.ireturn, 1) := by decide +kernel
theorem dLW_317 : decode code 317 = .ok (.aload_n 1, 1) := by decide +kernel
theorem dLW_318 : decode code 318 = .ok (.invokevirtual 37, 3) := by decide +kernel
theorem dLW_321 : decode code 321 = .ok (.aload_n 2, 1) := by decide +kernel
theorem dLW_322 : decode code 322 = .ok (.invokevirtual 41, 3) := by decide +kernel
theorem dLW_325 : decode code 325 = .ok (.if_icmp .eq 193, 3) := by decide +kernel
theorem dLW_328 : decode code 328 = .ok (.iconst 0, 1) := by decide +kernel
theorem dLW_329 : decode code 329 = .ok (.ireturn, 1) := by decide +kernel
theorem dLW_330 : decode code 330 = .ok (.aload_n 1, 1) := by decide +kernel
theorem dLW_331 : decode code 331 = .ok (.aload_n 0, 1) := by decide +kernel
theorem dLW_332 : decode code 332 = .ok (.iload_n 3, 1) := by decide +kernel
theorem dLW_333 : decode code 333 = .ok (.iconst 1, 1) := by decide +kernel
theorem dLW_334 : decode code 334 = .ok (.iadd, 1) := by decide +kernel
theorem dLW_335 : decode code 335 = .ok (.iaload, 1) := by decide +kernel
theorem dLW_336 : decode code 336 = .ok (.invokevirtual 42, 3) := by decide +kernel
theorem dLW_339 : decode code 339 = .ok (.aload_n 2, 1) := by decide +kernel
theorem dLW_340 : decode code 340 = .ok (.aload_n 0, 1) := by decide +kernel
theorem dLW_341 : decode code 341 = .ok (.iload_n 3, 1) := by decide +kernel
theorem dLW_342 : decode code 342 = .ok (.iconst 1, 1) := by decide +kernel
theorem dLW_343 : decode code 343 = .ok (.iadd, 1) := by decide +kernel
theorem dLW_344 : decode code 344 = .ok (.iaload, 1) := by decide +kernel
theorem dLW_345 : decode code 345 = .ok (.invokevirtual 45, 3) := by decide +kernel
theorem dLW_348 : decode code 348 = .ok (.if_icmp .eq 170, 3) := by decide +kernel
theorem dLW_351 : decode code 351 = .ok (.iconst 0, 1) := by decide +kernel
theorem dLW_352 : decode code 352 = .ok (.ireturn, 1) := by decide +kernel
theorem dLW_353 : decode code 353 = .ok (.aload_n 1, 1) := by decide +kernel
theorem dLW_354 : decode code 354 = .ok (.invokevirtual 46, 3) := by decide +kernel
theorem dLW_357 : decode code 357 = .ok (.aload_n 2, 1) := by decide +kernel
theorem dLW_358 : decode code 358 = .ok (.invokevirtual 49, 3) := by decide +kernel
theorem dLW_361 : decode code 361 = .ok (.if_icmp .eq 157, 3) := by decide +kernel
theorem dLW_364 : decode code 364 = .ok (.iconst 0, 1) := by decide +kernel
theorem dLW_365 : decode code 365 = .ok (.ireturn, 1) := by decide +kernel
theorem dLW_366 : decode code 366 = .ok (.aload_n 1, 1) := by decide +kernel
theorem dLW_367 : decode code 367 = .ok (.aload_n 0, 1) := by decide +kernel
theorem dLW_368 : decode code 368 = .ok (.iload_n 3, 1) := by decide +kernel
theorem dLW_369 : decode code 369 = .ok (.iconst 1, 1) := by decide +kernel
theorem dLW_370 : decode code 370 = .ok (.iadd, 1) := by decide +kernel
theorem dLW_371 : decode code 371 = .ok (.iaload, 1) := by decide +kernel
theorem dLW_372 : decode code 372 = .ok (.invokevirtual 50, 3) := by decide +kernel
theorem dLW_375 : decode code 375 = .ok (.aload_n 2, 1) := by decide +kernel
theorem dLW_376 : decode code 376 = .ok (.aload_n 0, 1) := by decide +kernel
theorem dLW_377 : decode code 377 = .ok (.iload_n 3, 1) := by decide +kernel
theorem dLW_378 : decode code 378 = .ok (.iconst 1, 1) := by decide +kernel
theorem dLW_379 : decode code 379 = .ok (.iadd, 1) := by decide +kernel
theorem dLW_380 : decode code 380 = .ok (.iaload, 1) := by decide +kernel
theorem dLW_381 : decode code 381 = .ok (.invokevirtual 54, 3) := by decide +kernel
theorem dLW_384 : decode code 384 = .ok (.if_icmp .eq 134, 3) := by decide +kernel
theorem dLW_387 : decode code 387 = .ok (.iconst 0, 1) := by decide +kernel
theorem dLW_388 : decode code 388 = .ok (.ireturn, 1) := by decide +kernel
theorem dLW_389 : decode code 389 = .ok (.aload_n 1, 1) := by decide +kernel
theorem dLW_390 : decode code 390 = .ok (.invokevirtual 55, 3) := by decide +kernel
theorem dLW_393 : decode code 393 = .ok (.aload_n 2, 1) := by decide +kernel
theorem dLW_394 : decode code 394 = .ok (.invokevirtual 58, 3) := by decide +kernel
theorem dLW_397 : decode code 397 = .ok (.goto 121, 3) := by decide +kernel
theorem dLW_400 : decode code 400 = .ok (.aload_n 1, 1) := by decide +kernel
theorem dLW_401 : decode code 401 = .ok (.invokevirtual 59, 3) := by decide +kernel
theorem dLW_404 : decode code 404 = .ok (.aload_n 2, 1) := by decide +kernel
theorem dLW_405 : decode code 405 = .ok (.invokevirtual 62, 3) := by decide +kernel
theorem dLW_408 : decode code 408 = .ok (.if_icmp .eq 110, 3) := by decide +kernel
theorem dLW_411 : decode code 411 = .ok (.iconst 0, 1) := by decide +kernel
theorem dLW_412 : decode code 412 = .ok (.ireturn, 1) := by decide +kernel
theorem dLW_413 : decode code 413 = .ok (.aload_n 1, 1) := by decide +kernel
theorem dLW_414 : decode code 414 = .ok (.invokevirtual 63, 3) := by decide +kernel
theorem dLW_417 : decode code 417 = .ok (.aload_n 2, 1) := by decide +kernel
theorem dLW_418 : decode code 418 = .ok (.invokevirtual 66, 3) := by decide +kernel
theorem dLW_421 : decode code 421 = .ok (.if_icmp .eq 97, 3) := by decide +kernel
theorem dLW_424 : decode code 424 = .ok (.iconst 0, 1) := by decide +kernel
theorem dLW_425 : decode code 425 = .ok (.ireturn, 1) := by decide +kernel
theorem dLW_426 : decode code 426 = .ok (.aload_n 1, 1) := by decide +kernel
theorem dLW_427 : decode code 427 = .ok (.aload_n 0, 1) := by decide +kernel
theorem dLW_428 : decode code 428 = .ok (.iload_n 3, 1) := by decide +kernel
theorem dLW_429 : decode code 429 = .ok (.iconst 1, 1) := by decide +kernel
theorem dLW_430 : decode code 430 = .ok (.iadd, 1) := by decide +kernel
theorem dLW_431 : decode code 431 = .ok (.iaload, 1) := by decide +kernel
theorem dLW_432 : decode code 432 = .ok (.invokevirtual 67, 3) := by decide +kernel
theorem dLW_435 : decode code 435 = .ok (.aload_n 2, 1) := by decide +kernel
theorem dLW_436 : decode code 436 = .ok (.aload_n 0, 1) := by decide +kernel
theorem dLW_437 : decode code 437 = .ok (.iload_n 3, 1) := by decide +kernel
theorem dLW_438 : decode code 438 = .ok (.iconst 1, 1) := by decide +kernel
theorem dLW_439 : decode code 439 = .ok (.iadd, 1) := by decide +kernel
theorem dLW_440 : decode code 440 = .ok (.iaload, 1) := by decide +kernel
theorem dLW_441 : decode code 441 = .ok (.invokevirtual 70, 3) := by decide +kernel
theorem dLW_444 : decode code 444 = .ok (.if_icmp .eq 74, 3) := by decide +kernel
theorem dLW_447 : decode code 447 = .ok (.iconst 0, 1) := by decide +kernel
theorem dLW_448 : decode code 448 = .ok (.ireturn, 1) := by decide +kernel
theorem dLW_449 : decode code 449 = .ok (.aload_n 1, 1) := by decide +kernel
theorem dLW_450 : decode code 450 = .ok (.aload_n 0, 1) := by decide +kernel
theorem dLW_451 : decode code 451 = .ok (.iload_n 3, 1) := by decide +kernel
theorem dLW_452 : decode code 452 = .ok (.iconst 1, 1) := by decide +kernel
theorem dLW_453 : decode code 453 = .ok (.iadd, 1) := by decide +kernel
theorem dLW_454 : decode code 454 = .ok (.iaload, 1) := by decide +kernel
theorem dLW_455 : decode code 455 = .ok (.invokevirtual 71, 3) := by decide +kernel
theorem dLW_458 : decode code 458 = .ok (.aload_n 2, 1) := by decide +kernel
theorem dLW_459 : decode code 459 = .ok (.aload_n 0, 1) := by decide +kernel
theorem dLW_460 : decode code 460 = .ok (.iload_n 3, 1) := by decide +kernel
theorem dLW_461 : decode code 461 = .ok (.iconst 1, 1) := by decide +kernel
theorem dLW_462 : decode code 462 = .ok (.iadd, 1) := by decide +kernel
theorem dLW_463 : decode code 463 = .ok (.iaload, 1) := by decide +kernel
theorem dLW_464 : decode code 464 = .ok (.invokevirtual 74, 3) := by decide +kernel
theorem dLW_467 : decode code 467 = .ok (.if_icmp .eq 51, 3) := by decide +kernel
theorem dLW_470 : decode code 470 = .ok (.iconst 0, 1) := by decide +kernel
theorem dLW_471 : decode code 471 = .ok (.ireturn, 1) := by decide +kernel
theorem dLW_472 : decode code 472 = .ok (.aload_n 1, 1) := by decide +kernel
theorem dLW_473 : decode code 473 = .ok (.aload_n 0, 1) := by decide +kernel
theorem dLW_474 : decode code 474 = .ok (.iload_n 3, 1) := by decide +kernel
theorem dLW_475 : decode code 475 = .ok (.iconst 1, 1) := by decide +kernel
theorem dLW_476 : decode code 476 = .ok (.iadd, 1) := by decide +kernel
theorem dLW_477 : decode code 477 = .ok (.iaload, 1) := by decide +kernel
theorem dLW_478 : decode code 478 = .ok (.invokevirtual 75, 3) := by decide +kernel
theorem dLW_481 : decode code 481 = .ok (.aload_n 2, 1) := by decide +kernel
theorem dLW_482 : decode code 482 = .ok (.aload_n 0, 1) := by decide +kernel
theorem dLW_483 : decode code 483 = .ok (.iload_n 3, 1) := by decide +kernel
theorem dLW_484 : decode code 484 = .ok (.iconst 1, 1) := by decide +kernel
theorem dLW_485 : decode code 485 = .ok (.iadd, 1) := by decide +kernel
theorem dLW_486 : decode code 486 = .ok (.iaload, 1) := by decide +kernel
theorem dLW_487 : decode code 487 = .ok (.invokevirtual 78, 3) := by decide +kernel
theorem dLW_490 : decode code 490 = .ok (.if_icmp .eq 28, 3) := by decide +kernel
theorem dLW_493 : decode code 493 = .ok (.iconst 0, 1) := by decide +kernel
theorem dLW_494 : decode code 494 = .ok (.ireturn, 1) := by decide +kernel
theorem dLW_495 : decode code 495 = .ok (.aload_n 1, 1) := by decide +kernel
theorem dLW_496 : decode code 496 = .ok (.aload_n 0, 1) := by decide +kernel
theorem dLW_497 : decode code 497 = .ok (.iload_n 3, 1) := by decide +kernel
theorem dLW_498 : decode code 498 = .ok (.iconst 1, 1) := by decide +kernel
theorem dLW_499 : decode code 499 = .ok (.iadd, 1) := by decide +kernel
theorem dLW_500 : decode code 500 = .ok (.iaload, 1) := by decide +kernel
theorem dLW_501 : decode code 501 = .ok (.invokevirtual 79, 3) := by decide +kernel
theorem dLW_504 : decode code 504 = .ok (.aload_n 2, 1) := by decide +kernel
theorem dLW_505 : decode code 505 = .ok (.aload_n 0, 1) := by decide +kernel
theorem dLW_506 : decode code 506 = .ok (.iload_n 3, 1) := by decide +kernel
theorem dLW_507 : decode code 507 = .ok (.iconst 1, 1) := by decide +kernel
theorem dLW_508 : decode code 508 = .ok (.iadd, 1) := by decide +kernel
theorem dLW_509 : decode code 509 = .ok (.iaload, 1) := by decide +kernel
theorem dLW_510 : decode code 510 = .ok (.invokevirtual 82, 3) := by decide +kernel
theorem dLW_513 : decode code 513 = .ok (.if_icmp .eq 5, 3) := by decide +kernel
theorem dLW_516 : decode code 516 = .ok (.iconst 0, 1) := by decide +kernel
theorem dLW_517 : decode code 517 = .ok (.ireturn, 1) := by decide +kernel
theorem dLW_518 : decode code 518 = .ok (.iinc 3 5, 3) := by decide +kernel
theorem dLW_521 : decode code 521 = .ok (.goto (-503), 3) := by decide +kernel
theorem dLW_524 : decode code 524 = .ok (.iconst 1, 1) := by decide +kernel
theorem dLW_525 : decode code 525 = .ok (.ireturn, 1) := by decide +kernel
theorem lkLW_13 : Cond.methodLink R_law 13 yMC_state ∈ dx_wA := (dx_in 348 (by decide +kernel) (by decide +kernel))
theorem cvLW_13 : dx_cv tX R_law 13 yMC_state cMC_state 3 (some .int) 2 0 := ⟨Or.inl lkLW_13, cbMC_state rfl, (dx_in 349 (by decide +kernel) (by decide +kernel)), (dx_in 350 (by decide +kernel) (by decide +kernel)), _, rfl, rfl⟩
theorem lkLW_18 : Cond.methodLink R_law 18 yMC_initial ∈ dx_wA := (dx_in 375 (by decide +kernel) (by decide +kernel))
theorem cvLW_18 : dx_cv tX R_law 18 yMC_initial cMC_initial 2 (some .boolean) 1 0 := ⟨Or.inl lkLW_18, cbMC_initial rfl, (dx_in 376 (by decide +kernel) (by decide +kernel)), (dx_in 377 (by decide +kernel) (by decide +kernel)), _, rfl, rfl⟩
theorem lkLW_23 : Cond.methodLink R_law 23 yMC_transition ∈ dx_wA := (dx_in 387 (by decide +kernel) (by decide +kernel))
theorem cvLW_23 : dx_cv tX R_law 23 yMC_transition cMC_transition 5 (some .int) 3 0 := ⟨Or.inl lkLW_23, cbMC_transition rfl, (dx_in 388 (by decide +kernel) (by decide +kernel)), (dx_in 389 (by decide +kernel) (by decide +kernel)), _, rfl, rfl⟩
theorem lkLW_28 : Cond.methodLink R_law 28 yMC_guard ∈ dx_wA := (dx_in 419 (by decide +kernel) (by decide +kernel))
theorem cvLW_28 : dx_cv tX R_law 28 yMC_guard cMC_guard 5 (some .boolean) 4 0 := ⟨Or.inl lkLW_28, cbMC_guard rfl, (dx_in 420 (by decide +kernel) (by decide +kernel)), (dx_in 421 (by decide +kernel) (by decide +kernel)), _, rfl, rfl⟩
theorem lkLW_33 : Cond.methodLink R_law 33 yMC_action ∈ dx_wA := (dx_in 438 (by decide +kernel) (by decide +kernel))
theorem cvLW_33 : dx_cv tX R_law 33 yMC_action cMC_action 5 (some .boolean) 4 0 := ⟨Or.inl lkLW_33, cbMC_action rfl, (dx_in 439 (by decide +kernel) (by decide +kernel)), (dx_in 440 (by decide +kernel) (by decide +kernel)), _, rfl, rfl⟩
theorem lkLW_37 : Cond.methodLink R_law 37 yMC_begin ∈ dx_wA := (dx_in 453 (by decide +kernel) (by decide +kernel))
theorem cvLW_37 : dx_cv tX R_law 37 yMC_begin cMC_begin 1 (some .int) 0 0 := ⟨Or.inl lkLW_37, cbMC_begin rfl, (dx_in 454 (by decide +kernel) (by decide +kernel)), (dx_in 455 (by decide +kernel) (by decide +kernel)), _, rfl, rfl⟩
theorem lkLW_42 : Cond.methodLink R_law 42 yMC_post ∈ dx_wA := (dx_in 626 (by decide +kernel) (by decide +kernel))
theorem cvLW_42 : dx_cv tX R_law 42 yMC_post cMC_post 2 (some .boolean) 1 0 := ⟨Or.inl lkLW_42, cbMC_post rfl, (dx_in 627 (by decide +kernel) (by decide +kernel)), (dx_in 628 (by decide +kernel) (by decide +kernel)), _, rfl, rfl⟩
theorem lkLW_46 : Cond.methodLink R_law 46 yMC_step ∈ dx_wA := (dx_in 632 (by decide +kernel) (by decide +kernel))
theorem cvLW_46 : dx_cv tX R_law 46 yMC_step cMC_step 1 (some .int) 0 0 := ⟨Or.inl lkLW_46, cbMC_step rfl, (dx_in 633 (by decide +kernel) (by decide +kernel)), (dx_in 634 (by decide +kernel) (by decide +kernel)), _, rfl, rfl⟩
theorem lkLW_50 : Cond.methodLink R_law 50 yMC_tick ∈ dx_wA := (dx_in 640 (by decide +kernel) (by decide +kernel))
theorem cvLW_50 : dx_cv tX R_law 50 yMC_tick cMC_tick 2 (some .int) 1 0 := ⟨Or.inl lkLW_50, cbMC_tick rfl, (dx_in 641 (by decide +kernel) (by decide +kernel)), (dx_in 642 (by decide +kernel) (by decide +kernel)), _, rfl, rfl⟩
theorem lkLW_55 : Cond.methodLink R_law 55 yMC_reset ∈ dx_wA := (dx_in 656 (by decide +kernel) (by decide +kernel))
theorem cvLW_55 : dx_cv tX R_law 55 yMC_reset cMC_reset 1 none 0 0 := ⟨Or.inl lkLW_55, cbMC_reset rfl, (dx_in 657 (by decide +kernel) (by decide +kernel)), (dx_in 658 (by decide +kernel) (by decide +kernel)), _, rfl, rfl⟩
theorem lkLW_59 : Cond.methodLink R_law 59 yMC_outcome ∈ dx_wA := (dx_in 660 (by decide +kernel) (by decide +kernel))
theorem cvLW_59 : dx_cv tX R_law 59 yMC_outcome cMC_outcome 1 (some .int) 0 0 := ⟨Or.inl lkLW_59, cbMC_outcome rfl, (dx_in 661 (by decide +kernel) (by decide +kernel)), (dx_in 662 (by decide +kernel) (by decide +kernel)), _, rfl, rfl⟩
theorem lkLW_63 : Cond.methodLink R_law 63 yMC_active ∈ dx_wA := (dx_in 664 (by decide +kernel) (by decide +kernel))
theorem cvLW_63 : dx_cv tX R_law 63 yMC_active cMC_active 1 (some .int) 0 0 := ⟨Or.inl lkLW_63, cbMC_active rfl, (dx_in 665 (by decide +kernel) (by decide +kernel)), (dx_in 666 (by decide +kernel) (by decide +kernel)), _, rfl, rfl⟩
theorem lkLW_67 : Cond.methodLink R_law 67 yMC_remembered ∈ dx_wA := (dx_in 668 (by decide +kernel) (by decide +kernel))
theorem cvLW_67 : dx_cv tX R_law 67 yMC_remembered cMC_remembered 2 (some .int) 1 0 := ⟨Or.inl lkLW_67, cbMC_remembered rfl, (dx_in 669 (by decide +kernel) (by decide +kernel)), (dx_in 670 (by decide +kernel) (by decide +kernel)), _, rfl, rfl⟩
theorem lkLW_71 : Cond.methodLink R_law 71 yMC_variable ∈ dx_wA := (dx_in 672 (by decide +kernel) (by decide +kernel))
theorem cvLW_71 : dx_cv tX R_law 71 yMC_variable cMC_variable 2 (some .int) 1 0 := ⟨Or.inl lkLW_71, cbMC_variable rfl, (dx_in 673 (by decide +kernel) (by decide +kernel)), (dx_in 674 (by decide +kernel) (by decide +kernel)), _, rfl, rfl⟩
theorem lkLW_75 : Cond.methodLink R_law 75 yMC_listed ∈ dx_wA := (dx_in 676 (by decide +kernel) (by decide +kernel))
theorem cvLW_75 : dx_cv tX R_law 75 yMC_listed cMC_listed 2 (some .int) 1 0 := ⟨Or.inl lkLW_75, cbMC_listed rfl, (dx_in 677 (by decide +kernel) (by decide +kernel)), (dx_in 678 (by decide +kernel) (by decide +kernel)), _, rfl, rfl⟩
theorem lkLW_79 : Cond.methodLink R_law 79 yMC_waiting ∈ dx_wA := (dx_in 684 (by decide +kernel) (by decide +kernel))
theorem cvLW_79 : dx_cv tX R_law 79 yMC_waiting cMC_waiting 2 (some .int) 1 0 := ⟨Or.inl lkLW_79, cbMC_waiting rfl, (dx_in 685 (by decide +kernel) (by decide +kernel)), (dx_in 686 (by decide +kernel) (by decide +kernel)), _, rfl, rfl⟩
theorem lkLW_17 : Cond.methodLink R_law 17 yMM_state ∈ dx_wA := (dx_in 813 (by decide +kernel) (by decide +kernel))
theorem cvLW_17 : dx_cv tM R_law 17 yMM_state cMM_state 4 (some .int) 2 9 := ⟨Or.inl lkLW_17, cbMM_state rfl, (dx_in 814 (by decide +kernel) (by decide +kernel)), (dx_in 815 (by decide +kernel) (by decide +kernel)), _, rfl, rfl⟩
theorem lkLW_22 : Cond.methodLink R_law 22 yMM_initial ∈ dx_wA := (dx_in 817 (by decide +kernel) (by decide +kernel))
theorem cvLW_22 : dx_cv tM R_law 22 yMM_initial cMM_initial 2 (some .boolean) 1 9 := ⟨Or.inl lkLW_22, cbMM_initial rfl, (dx_in 818 (by decide +kernel) (by decide +kernel)), (dx_in 819 (by decide +kernel) (by decide +kernel)), _, rfl, rfl⟩
theorem lkLW_27 : Cond.methodLink R_law 27 yMM_transition ∈ dx_wA := (dx_in 825 (by decide +kernel) (by decide +kernel))
theorem cvLW_27 : dx_cv tM R_law 27 yMM_transition cMM_transition 6 (some .int) 3 9 := ⟨Or.inl lkLW_27, cbMM_transition rfl, (dx_in 826 (by decide +kernel) (by decide +kernel)), (dx_in 827 (by decide +kernel) (by decide +kernel)), _, rfl, rfl⟩
theorem lkLW_32 : Cond.methodLink R_law 32 yMM_guard ∈ dx_wA := (dx_in 829 (by decide +kernel) (by decide +kernel))
theorem cvLW_32 : dx_cv tM R_law 32 yMM_guard cMM_guard 5 (some .boolean) 4 9 := ⟨Or.inl lkLW_32, cbMM_guard rfl, (dx_in 830 (by decide +kernel) (by decide +kernel)), (dx_in 831 (by decide +kernel) (by decide +kernel)), _, rfl, rfl⟩
theorem lkLW_36 : Cond.methodLink R_law 36 yMM_action ∈ dx_wA := (dx_in 833 (by decide +kernel) (by decide +kernel))
theorem cvLW_36 : dx_cv tM R_law 36 yMM_action cMM_action 7 (some .boolean) 4 9 := ⟨Or.inl lkLW_36, cbMM_action rfl, (dx_in 834 (by decide +kernel) (by decide +kernel)), (dx_in 835 (by decide +kernel) (by decide +kernel)), _, rfl, rfl⟩
theorem lkLW_41 : Cond.methodLink R_law 41 yMM_begin ∈ dx_wA := (dx_in 837 (by decide +kernel) (by decide +kernel))
theorem cvLW_41 : dx_cv tM R_law 41 yMM_begin cMM_begin 2 (some .int) 0 9 := ⟨Or.inl lkLW_41, cbMM_begin rfl, (dx_in 838 (by decide +kernel) (by decide +kernel)), (dx_in 839 (by decide +kernel) (by decide +kernel)), _, rfl, rfl⟩
theorem lkLW_45 : Cond.methodLink R_law 45 yMM_post ∈ dx_wA := (dx_in 961 (by decide +kernel) (by decide +kernel))
theorem cvLW_45 : dx_cv tM R_law 45 yMM_post cMM_post 2 (some .boolean) 1 9 := ⟨Or.inl lkLW_45, cbMM_post rfl, (dx_in 962 (by decide +kernel) (by decide +kernel)), (dx_in 963 (by decide +kernel) (by decide +kernel)), _, rfl, rfl⟩
theorem lkLW_49 : Cond.methodLink R_law 49 yMM_step ∈ dx_wA := (dx_in 965 (by decide +kernel) (by decide +kernel))
theorem cvLW_49 : dx_cv tM R_law 49 yMM_step cMM_step 3 (some .int) 0 9 := ⟨Or.inl lkLW_49, cbMM_step rfl, (dx_in 966 (by decide +kernel) (by decide +kernel)), (dx_in 967 (by decide +kernel) (by decide +kernel)), _, rfl, rfl⟩
theorem lkLW_54 : Cond.methodLink R_law 54 yMM_tick ∈ dx_wA := (dx_in 969 (by decide +kernel) (by decide +kernel))
theorem cvLW_54 : dx_cv tM R_law 54 yMM_tick cMM_tick 5 (some .int) 1 9 := ⟨Or.inl lkLW_54, cbMM_tick rfl, (dx_in 970 (by decide +kernel) (by decide +kernel)), (dx_in 971 (by decide +kernel) (by decide +kernel)), _, rfl, rfl⟩
theorem lkLW_58 : Cond.methodLink R_law 58 yMM_reset ∈ dx_wA := (dx_in 973 (by decide +kernel) (by decide +kernel))
theorem cvLW_58 : dx_cv tM R_law 58 yMM_reset cMM_reset 1 none 0 9 := ⟨Or.inl lkLW_58, cbMM_reset rfl, (dx_in 974 (by decide +kernel) (by decide +kernel)), (dx_in 975 (by decide +kernel) (by decide +kernel)), _, rfl, rfl⟩
theorem lkLW_62 : Cond.methodLink R_law 62 yMM_outcome ∈ dx_wA := (dx_in 977 (by decide +kernel) (by decide +kernel))
theorem cvLW_62 : dx_cv tM R_law 62 yMM_outcome cMM_outcome 1 (some .int) 0 9 := ⟨Or.inl lkLW_62, cbMM_outcome rfl, (dx_in 978 (by decide +kernel) (by decide +kernel)), (dx_in 979 (by decide +kernel) (by decide +kernel)), _, rfl, rfl⟩
theorem lkLW_66 : Cond.methodLink R_law 66 yMM_active ∈ dx_wA := (dx_in 981 (by decide +kernel) (by decide +kernel))
theorem cvLW_66 : dx_cv tM R_law 66 yMM_active cMM_active 3 (some .int) 0 9 := ⟨Or.inl lkLW_66, cbMM_active rfl, (dx_in 982 (by decide +kernel) (by decide +kernel)), (dx_in 983 (by decide +kernel) (by decide +kernel)), _, rfl, rfl⟩
theorem lkLW_70 : Cond.methodLink R_law 70 yMM_remembered ∈ dx_wA := (dx_in 985 (by decide +kernel) (by decide +kernel))
theorem cvLW_70 : dx_cv tM R_law 70 yMM_remembered cMM_remembered 2 (some .int) 1 9 := ⟨Or.inl lkLW_70, cbMM_remembered rfl, (dx_in 986 (by decide +kernel) (by decide +kernel)), (dx_in 987 (by decide +kernel) (by decide +kernel)), _, rfl, rfl⟩
theorem lkLW_74 : Cond.methodLink R_law 74 yMM_variable ∈ dx_wA := (dx_in 989 (by decide +kernel) (by decide +kernel))
theorem cvLW_74 : dx_cv tM R_law 74 yMM_variable cMM_variable 2 (some .int) 1 9 := ⟨Or.inl lkLW_74, cbMM_variable rfl, (dx_in 990 (by decide +kernel) (by decide +kernel)), (dx_in 991 (by decide +kernel) (by decide +kernel)), _, rfl, rfl⟩
theorem lkLW_78 : Cond.methodLink R_law 78 yMM_listed ∈ dx_wA := (dx_in 993 (by decide +kernel) (by decide +kernel))
theorem cvLW_78 : dx_cv tM R_law 78 yMM_listed cMM_listed 2 (some .int) 1 9 := ⟨Or.inl lkLW_78, cbMM_listed rfl, (dx_in 994 (by decide +kernel) (by decide +kernel)), (dx_in 995 (by decide +kernel) (by decide +kernel)), _, rfl, rfl⟩
theorem lkLW_82 : Cond.methodLink R_law 82 yMM_waiting ∈ dx_wA := (dx_in 997 (by decide +kernel) (by decide +kernel))
theorem cvLW_82 : dx_cv tM R_law 82 yMM_waiting cMM_waiting 2 (some .int) 1 9 := ⟨Or.inl lkLW_82, cbMM_waiting rfl, (dx_in 998 (by decide +kernel) (by decide +kernel)), (dx_in 999 (by decide +kernel) (by decide +kernel)), _, rfl, rfl⟩
