/-! THE CLAIM OUT OF ONE WALK OF THE LAW'S BODY. Your part is whole_start (and what it stands on); all else here is the same for every law, but numbers. -/
def R_law : String := "ModuleShelfLaw"
def lw_P (b : Addr) (xs : List Int32) (args : Array Value) (s : State) : Prop := args = #[.ref b] ∧ s.IntsAt b xs ∧ xs.length ≤ 2560 ∧ (Jvm.Cond.and given_1 narrow_1).before args s = true
def lw_Q (_ : Array Value) (s : State) (o : Outcome) (t : State) : Prop := o = .returned (some (.int 1)) ∧ Framed s o t [] 600000 7302250
def lw_Z (below : List Frame) (a : Array Value) (s : State) : State → Prop := fun t => ∃ o, t.status = .running ∧ Ended t below o ∧ lw_Q a s o t
/-- the law's own end, with 1 on the stack, nothing written that was there before, its room as the claim has it -/
theorem lw_ret {p : Program} {l : Launch} {e : Env} {s : State} {m : MethodId} {below : List Frame} {meth : Method} {c : Code} {b : Nat} (hx : p.tables.exec = Jvm.exec) (hb : c.code = code) (hr : meth.sig.returnType = ret) (hlocks : meth.locks = false) {pc : Nat} {H : Heap} {ls : Array Slot} (hdg : decode code pc = .ok (.ireturn, 1)) : W p l e room_1 s m #[Value.ref b] below meth c H [] 600000 7302250 (lw_Z below #[Value.ref b] s) (F0 m pc ls [.int 1]) := by
  intro T hT X
  obtain ⟨fs, hret, hrun, hended, hW, hframe⟩ := X.leave (v := some (.int 1)) (hlocks := hlocks) (fun h => by rw [hr] at h; cases h)
  have hmeth' : T.vm.method? m = some meth := X.method'
  refine ⟨T.setFrames fs, ?_, .returned (some (.int 1)), hrun, hended, rfl, ⟨_, rfl⟩, hW, hframe⟩
  jvm_step X.here [X.here.top, hx, hb, hdg, hmeth', hr, ret, narrow_b1]
  (try refine ⟨rfl, ?_⟩); (try refine ⟨rfl, ?_⟩)
  first | (intro acts; rw [hret _ acts rfl rfl rfl]) | rw [hret _ _ rfl rfl rfl]
  exact Steps.refl _
/-- what holds at the law's entry: the machine, the code, the tables' words (any of lw_tbl by 'hts w (by decide +kernel)'), the script of L ints xs at the cell b, what the Statement gives of the start (any of its parts by flat_of_before) -/
def lw_At (p : Program) (s : State) (m : MethodId) (meth : Method) (c : Code) (b L : Nat) (xs : Nat → Int32) : Prop :=
  p.tables.exec = Jvm.exec ∧ c.code = code ∧ meth.sig.returnType = ret ∧ c.maxLocals = 4 ∧ s.vm.findClass R_law = some m.cls ∧ (∀ w ∈ lw_tbl, w.before #[Value.ref b] s = true) ∧ va_X b L xs s s.heap ∧ b < s.heap.size ∧ meth.locks = false ∧ (Jvm.Cond.and given_1 narrow_1).before #[Value.ref b] s = true
theorem xd_W_law_0 : decode code 0 = .ok (.new 7, 3) := by decide +kernel
theorem xd_W_law_3 : decode code 3 = .ok (.dup, 1) := by decide +kernel
theorem xd_W_law_4 : decode code 4 = .ok (.invokespecial 9, 3) := by decide +kernel
theorem xd_W_law_7 : decode code 7 = .ok (.astore_n 1, 1) := by decide +kernel
theorem xd_W_law_8 : decode code 8 = .ok (.new 10, 3) := by decide +kernel
theorem xd_W_law_11 : decode code 11 = .ok (.dup, 1) := by decide +kernel
theorem xd_W_law_12 : decode code 12 = .ok (.invokespecial 12, 3) := by decide +kernel
theorem xd_W_law_15 : decode code 15 = .ok (.astore_n 2, 1) := by decide +kernel
theorem xd_W_law_16 : decode code 16 = .ok (.iconst 0, 1) := by decide +kernel
theorem xd_W_law_17 : decode code 17 = .ok (.istore_n 3, 1) := by decide +kernel
theorem xd_W_law_18 : decode code 18 = .ok (.iload_n 3, 1) := by decide +kernel
theorem xd_W_law_19 : decode code 19 = .ok (.aload_n 0, 1) := by decide +kernel
theorem xd_W_law_20 : decode code 20 = .ok (.arraylength, 1) := by decide +kernel
theorem xd_W_law_21 : decode code 21 = .ok (.iconst 5, 1) := by decide +kernel
theorem xd_W_law_22 : decode code 22 = .ok (.isub, 1) := by decide +kernel
theorem xd_W_law_23 : decode code 23 = .ok (.if_icmp .gt 503, 3) := by decide +kernel
theorem xd_W_law_26 : decode code 26 = .ok (.aload_n 0, 1) := by decide +kernel
theorem xd_W_law_27 : decode code 27 = .ok (.iload_n 3, 1) := by decide +kernel
theorem xd_W_law_28 : decode code 28 = .ok (.iaload, 1) := by decide +kernel
theorem xd_W_law_29 : decode code 29 = .ok (.bipush 15, 2) := by decide +kernel
theorem xd_W_law_31 : decode code 31 = .ok (.iand, 1) := by decide +kernel
theorem xd_W_law_32 : decode code 32 = .ok (.tableswitch 488 0 15 #[80, 103, 126, 169, 192, 205, 228, 251, 274, 327, 340, 353, 386, 409, 432, 465], 80) := by decide +kernel
theorem xd_W_law_112 : decode code 112 = .ok (.aload_n 1, 1) := by decide +kernel
theorem xd_W_law_113 : decode code 113 = .ok (.aload_n 0, 1) := by decide +kernel
theorem xd_W_law_114 : decode code 114 = .ok (.iload_n 3, 1) := by decide +kernel
theorem xd_W_law_115 : decode code 115 = .ok (.iconst 1, 1) := by decide +kernel
theorem xd_W_law_116 : decode code 116 = .ok (.iadd, 1) := by decide +kernel
theorem xd_W_law_117 : decode code 117 = .ok (.iaload, 1) := by decide +kernel
theorem xd_W_law_118 : decode code 118 = .ok (.invokevirtual 13, 3) := by decide +kernel
theorem xd_W_law_121 : decode code 121 = .ok (.aload_n 2, 1) := by decide +kernel
theorem xd_W_law_122 : decode code 122 = .ok (.aload_n 0, 1) := by decide +kernel
theorem xd_W_law_123 : decode code 123 = .ok (.iload_n 3, 1) := by decide +kernel
theorem xd_W_law_124 : decode code 124 = .ok (.iconst 1, 1) := by decide +kernel
theorem xd_W_law_125 : decode code 125 = .ok (.iadd, 1) := by decide +kernel
theorem xd_W_law_126 : decode code 126 = .ok (.iaload, 1) := by decide +kernel
theorem xd_W_law_127 : decode code 127 = .ok (.invokevirtual 17, 3) := by decide +kernel
theorem xd_W_law_130 : decode code 130 = .ok (.if_icmp .eq 390, 3) := by decide +kernel
theorem xd_W_law_133 : decode code 133 = .ok (.iconst 0, 1) := by decide +kernel
theorem xd_W_law_134 : decode code 134 = .ok (.ireturn, 1) := by decide +kernel
theorem xd_W_law_135 : decode code 135 = .ok (.aload_n 1, 1) := by decide +kernel
theorem xd_W_law_136 : decode code 136 = .ok (.aload_n 0, 1) := by decide +kernel
theorem xd_W_law_137 : decode code 137 = .ok (.iload_n 3, 1) := by decide +kernel
theorem xd_W_law_138 : decode code 138 = .ok (.iconst 1, 1) := by decide +kernel
theorem xd_W_law_139 : decode code 139 = .ok (.iadd, 1) := by decide +kernel
theorem xd_W_law_140 : decode code 140 = .ok (.iaload, 1) := by decide +kernel
theorem xd_W_law_141 : decode code 141 = .ok (.invokevirtual 18, 3) := by decide +kernel
theorem xd_W_law_144 : decode code 144 = .ok (.aload_n 2, 1) := by decide +kernel
theorem xd_W_law_145 : decode code 145 = .ok (.aload_n 0, 1) := by decide +kernel
theorem xd_W_law_146 : decode code 146 = .ok (.iload_n 3, 1) := by decide +kernel
theorem xd_W_law_147 : decode code 147 = .ok (.iconst 1, 1) := by decide +kernel
theorem xd_W_law_148 : decode code 148 = .ok (.iadd, 1) := by decide +kernel
theorem xd_W_law_149 : decode code 149 = .ok (.iaload, 1) := by decide +kernel
theorem xd_W_law_150 : decode code 150 = .ok (.invokevirtual 21, 3) := by decide +kernel
theorem xd_W_law_153 : decode code 153 = .ok (.if_icmp .eq 367, 3) := by decide +kernel
theorem xd_W_law_156 : decode code 156 = .ok (.iconst 0, 1) := by decide +kernel
theorem xd_W_law_157 : decode code 157 = .ok (.ireturn, 1) := by decide +kernel
theorem xd_W_law_158 : decode code 158 = .ok (.aload_n 1, 1) := by decide +kernel
theorem xd_W_law_159 : decode code 159 = .ok (.aload_n 0, 1) := by decide +kernel
theorem xd_W_law_160 : decode code 160 = .ok (.iload_n 3, 1) := by decide +kernel
theorem xd_W_law_161 : decode code 161 = .ok (.iconst 1, 1) := by decide +kernel
theorem xd_W_law_162 : decode code 162 = .ok (.iadd, 1) := by decide +kernel
theorem xd_W_law_163 : decode code 163 = .ok (.iaload, 1) := by decide +kernel
theorem xd_W_law_164 : decode code 164 = .ok (.aload_n 0, 1) := by decide +kernel
theorem xd_W_law_165 : decode code 165 = .ok (.iload_n 3, 1) := by decide +kernel
theorem xd_W_law_166 : decode code 166 = .ok (.iconst 2, 1) := by decide +kernel
theorem xd_W_law_167 : decode code 167 = .ok (.iadd, 1) := by decide +kernel
theorem xd_W_law_168 : decode code 168 = .ok (.iaload, 1) := by decide +kernel
theorem xd_W_law_169 : decode code 169 = .ok (.aload_n 0, 1) := by decide +kernel
theorem xd_W_law_170 : decode code 170 = .ok (.iload_n 3, 1) := by decide +kernel
theorem xd_W_law_171 : decode code 171 = .ok (.iconst 3, 1) := by decide +kernel
theorem xd_W_law_172 : decode code 172 = .ok (.iadd, 1) := by decide +kernel
theorem xd_W_law_173 : decode code 173 = .ok (.iaload, 1) := by decide +kernel
theorem xd_W_law_174 : decode code 174 = .ok (.invokevirtual 22, 3) := by decide +kernel
theorem xd_W_law_177 : decode code 177 = .ok (.aload_n 2, 1) := by decide +kernel
theorem xd_W_law_178 : decode code 178 = .ok (.aload_n 0, 1) := by decide +kernel
theorem xd_W_law_179 : decode code 179 = .ok (.iload_n 3, 1) := by decide +kernel
theorem xd_W_law_180 : decode code 180 = .ok (.iconst 1, 1) := by decide +kernel
theorem xd_W_law_181 : decode code 181 = .ok (.iadd, 1) := by decide +kernel
theorem xd_W_law_182 : decode code 182 = .ok (.iaload, 1) := by decide +kernel
theorem xd_W_law_183 : decode code 183 = .ok (.aload_n 0, 1) := by decide +kernel
theorem xd_W_law_184 : decode code 184 = .ok (.iload_n 3, 1) := by decide +kernel
theorem xd_W_law_185 : decode code 185 = .ok (.iconst 2, 1) := by decide +kernel
theorem xd_W_law_186 : decode code 186 = .ok (.iadd, 1) := by decide +kernel
theorem xd_W_law_187 : decode code 187 = .ok (.iaload, 1) := by decide +kernel
theorem xd_W_law_188 : decode code 188 = .ok (.aload_n 0, 1) := by decide +kernel
theorem xd_W_law_189 : decode code 189 = .ok (.iload_n 3, 1) := by decide +kernel
theorem xd_W_law_190 : decode code 190 = .ok (.iconst 3, 1) := by decide +kernel
theorem xd_W_law_191 : decode code 191 = .ok (.iadd, 1) := by decide +kernel
theorem xd_W_law_192 : decode code 192 = .ok (.iaload, 1) := by decide +kernel
theorem xd_W_law_193 : decode code 193 = .ok (.invokevirtual 26, 3) := by decide +kernel
theorem xd_W_law_196 : decode code 196 = .ok (.if_icmp .eq 324, 3) := by decide +kernel
theorem xd_W_law_199 : decode code 199 = .ok (.iconst 0, 1) := by decide +kernel
theorem xd_W_law_200 : decode code 200 = .ok (.ireturn, 1) := by decide +kernel
theorem xd_W_law_201 : decode code 201 = .ok (.aload_n 1, 1) := by decide +kernel
theorem xd_W_law_202 : decode code 202 = .ok (.aload_n 0, 1) := by decide +kernel
theorem xd_W_law_203 : decode code 203 = .ok (.iload_n 3, 1) := by decide +kernel
theorem xd_W_law_204 : decode code 204 = .ok (.iconst 1, 1) := by decide +kernel
theorem xd_W_law_205 : decode code 205 = .ok (.iadd, 1) := by decide +kernel
theorem xd_W_law_206 : decode code 206 = .ok (.iaload, 1) := by decide +kernel
theorem xd_W_law_207 : decode code 207 = .ok (.invokevirtual 27, 3) := by decide +kernel
theorem xd_W_law_210 : decode code 210 = .ok (.aload_n 2, 1) := by decide +kernel
theorem xd_W_law_211 : decode code 211 = .ok (.aload_n 0, 1) := by decide +kernel
theorem xd_W_law_212 : decode code 212 = .ok (.iload_n 3, 1) := by decide +kernel
theorem xd_W_law_213 : decode code 213 = .ok (.iconst 1, 1) := by decide +kernel
theorem xd_W_law_214 : decode code 214 = .ok (.iadd, 1) := by decide +kernel
theorem xd_W_law_215 : decode code 215 = .ok (.iaload, 1) := by decide +kernel
theorem xd_W_law_216 : decode code 216 = .ok (.invokevirtual 30, 3) := by decide +kernel
theorem xd_W_law_219 : decode code 219 = .ok (.if_icmp .eq 301, 3) := by decide +kernel
theorem xd_W_law_222 : decode code 222 = .ok (.iconst 0, 1) := by decide +kernel
theorem xd_W_law_223 : decode code 223 = .ok (.ireturn, 1) := by decide +kernel
theorem xd_W_law_224 : decode code 224 = .ok (.aload_n 1, 1) := by decide +kernel
theorem xd_W_law_225 : decode code 225 = .ok (.invokevirtual 31, 3) := by decide +kernel
theorem xd_W_law_228 : decode code 228 = .ok (.aload_n 2, 1) := by decide +kernel
theorem xd_W_law_229 : decode code 229 = .ok (.invokevirtual 35, 3) := by decide +kernel
theorem xd_W_law_232 : decode code 232 = .ok (.if_icmp .eq 288, 3) := by decide +kernel
theorem xd_W_law_235 : decode code 235 = .ok (.iconst 0, 1) := by decide +kernel
theorem xd_W_law_236 : decode code 236 = .ok (.ireturn, 1) := by decide +kernel
theorem xd_W_law_237 : decode code 237 = .ok (.aload_n 1, 1) := by decide +kernel
theorem xd_W_law_238 : decode code 238 = .ok (.aload_n 0, 1) := by decide +kernel
theorem xd_W_law_239 : decode code 239 = .ok (.iload_n 3, 1) := by decide +kernel
theorem xd_W_law_240 : decode code 240 = .ok (.iconst 1, 1) := by decide +kernel
theorem xd_W_law_241 : decode code 241 = .ok (.iadd, 1) := by decide +kernel
theorem xd_W_law_242 : decode code 242 = .ok (.iaload, 1) := by decide +kernel
theorem xd_W_law_243 : decode code 243 = .ok (.invokevirtual 36, 3) := by decide +kernel
theorem xd_W_law_246 : decode code 246 = .ok (.aload_n 2, 1) := by decide +kernel
theorem xd_W_law_247 : decode code 247 = .ok (.aload_n 0, 1) := by decide +kernel
theorem xd_W_law_248 : decode code 248 = .ok (.iload_n 3, 1) := by decide +kernel
theorem xd_W_law_249 : decode code 249 = .ok (.iconst 1, 1) := by decide +kernel
theorem xd_W_law_250 : decode code 250 = .ok (.iadd, 1) := by decide +kernel
theorem xd_W_law_251 : decode code 251 = .ok (.iaload, 1) := by decide +kernel
theorem xd_W_law_252 : decode code 252 = .ok (.invokevirtual 39, 3) := by decide +kernel
theorem xd_W_law_255 : decode code 255 = .ok (.if_icmp .eq 265, 3) := by decide +kernel
theorem xd_W_law_258 : decode code 258 = .ok (.iconst 0, 1) := by decide +kernel
theorem xd_W_law_259 : decode code 259 = .ok (.ireturn, 1) := by decide +kernel
theorem xd_W_law_260 : decode code 260 = .ok (.aload_n 1, 1) := by decide +kernel
theorem xd_W_law_261 : decode code 261 = .ok (.aload_n 0, 1) := by decide +kernel
theorem xd_W_law_262 : decode code 262 = .ok (.iload_n 3, 1) := by decide +kernel
theorem xd_W_law_263 : decode code 263 = .ok (.iconst 1, 1) := by decide +kernel
theorem xd_W_law_264 : decode code 264 = .ok (.iadd, 1) := by decide +kernel
theorem xd_W_law_265 : decode code 265 = .ok (.iaload, 1) := by decide +kernel
theorem xd_W_law_266 : decode code 266 = .ok (.invokevirtual 40, 3) := by decide +kernel
theorem xd_W_law_269 : decode code 269 = .ok (.aload_n 2, 1) := by decide +kernel
theorem xd_W_law_270 : decode code 270 = .ok (.aload_n 0, 1) := by decide +kernel
theorem xd_W_law_271 : decode code 271 = .ok (.iload_n 3, 1) := by decide +kernel
theorem xd_W_law_272 : decode code 272 = .ok (.iconst 1, 1) := by decide +kernel
theorem xd_W_law_273 : decode code 273 = .ok (.iadd, 1) := by decide +kernel
theorem xd_W_law_274 : decode code 274 = .ok (.iaload, 1) := by decide +kernel
theorem xd_W_law_275 : decode code 275 = .ok (.invokevirtual 43, 3) := by decide +kernel
theorem xd_W_law_278 : decode code 278 = .ok (.if_icmp .eq 242, 3) := by decide +kernel
theorem xd_W_law_281 : decode code 281 = .ok (.iconst 0, 1) := by decide +kernel
theorem xd_W_law_282 : decode code 282 = .ok (.ireturn, 1) := by decide +kernel
theorem xd_W_law_283 : decode code 283 = .ok (.aload_n 1, 1) := by decide +kernel
theorem xd_W_law_284 : decode code 284 = .ok (.aload_n 0, 1) := by decide +kernel
theorem xd_W_law_285 : decode code 285 = .ok (.iload_n 3, 1) := by decide +kernel
theorem xd_W_law_286 : decode code 286 = .ok (.iconst 1, 1) := by decide +kernel
theorem xd_W_law_287 : decode code 287 = .ok (.iadd, 1) := by decide +kernel
theorem xd_W_law_288 : decode code 288 = .ok (.iaload, 1) := by decide +kernel
theorem xd_W_law_289 : decode code 289 = .ok (.invokevirtual 44, 3) := by decide +kernel
theorem xd_W_law_292 : decode code 292 = .ok (.aload_n 2, 1) := by decide +kernel
theorem xd_W_law_293 : decode code 293 = .ok (.aload_n 0, 1) := by decide +kernel
theorem xd_W_law_294 : decode code 294 = .ok (.iload_n 3, 1) := by decide +kernel
theorem xd_W_law_295 : decode code 295 = .ok (.iconst 1, 1) := by decide +kernel
theorem xd_W_law_296 : decode code 296 = .ok (.iadd, 1) := by decide +kernel
theorem xd_W_law_297 : decode code 297 = .ok (.iaload, 1) := by decide +kernel
theorem xd_W_law_298 : decode code 298 = .ok (.invokevirtual 47, 3) := by decide +kernel
theorem xd_W_law_301 : decode code 301 = .ok (.if_icmp .eq 219, 3) := by decide +kernel
theorem xd_W_law_304 : decode code 304 = .ok (.iconst 0, 1) := by decide +kernel
theorem xd_W_law_305 : decode code 305 = .ok (.ireturn, 1) := by decide +kernel
theorem xd_W_law_306 : decode code 306 = .ok (.aload_n 1, 1) := by decide +kernel
theorem xd_W_law_307 : decode code 307 = .ok (.aload_n 0, 1) := by decide +kernel
theorem xd_W_law_308 : decode code 308 = .ok (.iload_n 3, 1) := by decide +kernel
theorem xd_W_law_309 : decode code 309 = .ok (.iconst 1, 1) := by decide +kernel
theorem xd_W_law_310 : decode code 310 = .ok (.iadd, 1) := by decide +kernel
theorem xd_W_law_311 : decode code 311 = .ok (.iaload, 1) := by decide +kernel
theorem xd_W_law_312 : decode code 312 = .ok (.aload_n 0, 1) := by decide +kernel
theorem xd_W_law_313 : decode code 313 = .ok (.iload_n 3, 1) := by decide +kernel
theorem xd_W_law_314 : decode code 314 = .ok (.iconst 2, 1) := by decide +kernel
theorem xd_W_law_315 : decode code 315 = .ok (.iadd, 1) := by decide +kernel
theorem xd_W_law_316 : decode code 316 = .ok (.iaload, 1) := by decide +kernel
theorem xd_W_law_317 : decode code 317 = .ok (.aload_n 0, 1) := by decide +kernel
theorem xd_W_law_318 : decode code 318 = .ok (.iload_n 3, 1) := by decide +kernel
theorem xd_W_law_319 : decode code 319 = .ok (.iconst 3, 1) := by decide +kernel
theorem xd_W_law_320 : decode code 320 = .ok (.iadd, 1) := by decide +kernel
theorem xd_W_law_321 : decode code 321 = .ok (.iaload, 1) := by decide +kernel
theorem xd_W_law_322 : decode code 322 = .ok (.aload_n 0, 1) := by decide +kernel
theorem xd_W_law_323 : decode code 323 = .ok (.iload_n 3, 1) := by decide +kernel
theorem xd_W_law_324 : decode code 324 = .ok (.iconst 4, 1) := by decide +kernel
theorem xd_W_law_325 : decode code 325 = .ok (.iadd, 1) := by decide +kernel
theorem xd_W_law_326 : decode code 326 = .ok (.iaload, 1) := by decide +kernel
theorem xd_W_law_327 : decode code 327 = .ok (.invokevirtual 48, 3) := by decide +kernel
theorem xd_W_law_330 : decode code 330 = .ok (.aload_n 2, 1) := by decide +kernel
theorem xd_W_law_331 : decode code 331 = .ok (.aload_n 0, 1) := by decide +kernel
theorem xd_W_law_332 : decode code 332 = .ok (.iload_n 3, 1) := by decide +kernel
theorem xd_W_law_333 : decode code 333 = .ok (.iconst 1, 1) := by decide +kernel
theorem xd_W_law_334 : decode code 334 = .ok (.iadd, 1) := by decide +kernel
theorem xd_W_law_335 : decode code 335 = .ok (.iaload, 1) := by decide +kernel
theorem xd_W_law_336 : decode code 336 = .ok (.aload_n 0, 1) := by decide +kernel
theorem xd_W_law_337 : decode code 337 = .ok (.iload_n 3, 1) := by decide +kernel
theorem xd_W_law_338 : decode code 338 = .ok (.iconst 2, 1) := by decide +kernel
theorem xd_W_law_339 : decode code 339 = .ok (.iadd, 1) := by decide +kernel
theorem xd_W_law_340 : decode code 340 = .ok (.iaload, 1) := by decide +kernel
theorem xd_W_law_341 : decode code 341 = .ok (.aload_n 0, 1) := by decide +kernel
theorem xd_W_law_342 : decode code 342 = .ok (.iload_n 3, 1) := by decide +kernel
theorem xd_W_law_343 : decode code 343 = .ok (.iconst 3, 1) := by decide +kernel
theorem xd_W_law_344 : decode code 344 = .ok (.iadd, 1) := by decide +kernel
theorem xd_W_law_345 : decode code 345 = .ok (.iaload, 1) := by decide +kernel
theorem xd_W_law_346 : decode code 346 = .ok (.aload_n 0, 1) := by decide +kernel
theorem xd_W_law_347 : decode code 347 = .ok (.iload_n 3, 1) := by decide +kernel
theorem xd_W_law_348 : decode code 348 = .ok (.iconst 4, 1) := by decide +kernel
theorem xd_W_law_349 : decode code 349 = .ok (.iadd, 1) := by decide +kernel
theorem xd_W_law_350 : decode code 350 = .ok (.iaload, 1) := by decide +kernel
theorem xd_W_law_351 : decode code 351 = .ok (.invokevirtual 52, 3) := by decide +kernel
theorem xd_W_law_354 : decode code 354 = .ok (.if_icmp .eq 166, 3) := by decide +kernel
theorem xd_W_law_357 : decode code 357 = .ok (.iconst 0, 1) := by decide +kernel
theorem xd_W_law_358 : decode code 358 = .ok (.ireturn, 1) := by decide +kernel
theorem xd_W_law_359 : decode code 359 = .ok (.aload_n 1, 1) := by decide +kernel
theorem xd_W_law_360 : decode code 360 = .ok (.invokevirtual 53, 3) := by decide +kernel
theorem xd_W_law_363 : decode code 363 = .ok (.aload_n 2, 1) := by decide +kernel
theorem xd_W_law_364 : decode code 364 = .ok (.invokevirtual 56, 3) := by decide +kernel
theorem xd_W_law_367 : decode code 367 = .ok (.if_icmp .eq 153, 3) := by decide +kernel
theorem xd_W_law_370 : decode code 370 = .ok (.iconst 0, 1) := by decide +kernel
theorem xd_W_law_371 : decode code 371 = .ok (.ireturn, 1) := by decide +kernel
theorem xd_W_law_372 : decode code 372 = .ok (.aload_n 1, 1) := by decide +kernel
theorem xd_W_law_373 : decode code 373 = .ok (.invokevirtual 57, 3) := by decide +kernel
theorem xd_W_law_376 : decode code 376 = .ok (.aload_n 2, 1) := by decide +kernel
theorem xd_W_law_377 : decode code 377 = .ok (.invokevirtual 60, 3) := by decide +kernel
theorem xd_W_law_380 : decode code 380 = .ok (.if_icmp .eq 140, 3) := by decide +kernel
theorem xd_W_law_383 : decode code 383 = .ok (.iconst 0, 1) := by decide +kernel
theorem xd_W_law_384 : decode code 384 = .ok (.ireturn, 1) := by decide +kernel
theorem xd_W_law_385 : decode code 385 = .ok (.aload_n 1, 1) := by decide +kernel
theorem xd_W_law_386 : decode code 386 = .ok (.aload_n 0, 1) := by decide +kernel
theorem xd_W_law_387 : decode code 387 = .ok (.iload_n 3, 1) := by decide +kernel
theorem xd_W_law_388 : decode code 388 = .ok (.iconst 1, 1) := by decide +kernel
theorem xd_W_law_389 : decode code 389 = .ok (.iadd, 1) := by decide +kernel
theorem xd_W_law_390 : decode code 390 = .ok (.iaload, 1) := by decide +kernel
theorem xd_W_law_391 : decode code 391 = .ok (.aload_n 0, 1) := by decide +kernel
theorem xd_W_law_392 : decode code 392 = .ok (.iload_n 3, 1) := by decide +kernel
theorem xd_W_law_393 : decode code 393 = .ok (.iconst 2, 1) := by decide +kernel
theorem xd_W_law_394 : decode code 394 = .ok (.iadd, 1) := by decide +kernel
theorem xd_W_law_395 : decode code 395 = .ok (.iaload, 1) := by decide +kernel
theorem xd_W_law_396 : decode code 396 = .ok (.invokevirtual 61, 3) := by decide +kernel
theorem xd_W_law_399 : decode code 399 = .ok (.aload_n 2, 1) := by decide +kernel
theorem xd_W_law_400 : decode code 400 = .ok (.aload_n 0, 1) := by decide +kernel
theorem xd_W_law_401 : decode code 401 = .ok (.iload_n 3, 1) := by decide +kernel
theorem xd_W_law_402 : decode code 402 = .ok (.iconst 1, 1) := by decide +kernel
theorem xd_W_law_403 : decode code 403 = .ok (.iadd, 1) := by decide +kernel
theorem xd_W_law_404 : decode code 404 = .ok (.iaload, 1) := by decide +kernel
theorem xd_W_law_405 : decode code 405 = .ok (.aload_n 0, 1) := by decide +kernel
theorem xd_W_law_406 : decode code 406 = .ok (.iload_n 3, 1) := by decide +kernel
theorem xd_W_law_407 : decode code 407 = .ok (.iconst 2, 1) := by decide +kernel
theorem xd_W_law_408 : decode code 408 = .ok (.iadd, 1) := by decide +kernel
theorem xd_W_law_409 : decode code 409 = .ok (.iaload, 1) := by decide +kernel
theorem xd_W_law_410 : decode code 410 = .ok (.invokevirtual 65, 3) := by decide +kernel
theorem xd_W_law_413 : decode code 413 = .ok (.if_icmp .eq 107, 3) := by decide +kernel
theorem xd_W_law_416 : decode code 416 = .ok (.iconst 0, 1) := by decide +kernel
theorem xd_W_law_417 : decode code 417 = .ok (.ireturn, 1) := by decide +kernel
theorem xd_W_law_418 : decode code 418 = .ok (.aload_n 1, 1) := by decide +kernel
theorem xd_W_law_419 : decode code 419 = .ok (.aload_n 0, 1) := by decide +kernel
theorem xd_W_law_420 : decode code 420 = .ok (.iload_n 3, 1) := by decide +kernel
theorem xd_W_law_421 : decode code 421 = .ok (.iconst 1, 1) := by decide +kernel
theorem xd_W_law_422 : decode code 422 = .ok (.iadd, 1) := by decide +kernel
theorem xd_W_law_423 : decode code 423 = .ok (.iaload, 1) := by decide +kernel
theorem xd_W_law_424 : decode code 424 = .ok (.invokevirtual 66, 3) := by decide +kernel
theorem xd_W_law_427 : decode code 427 = .ok (.aload_n 2, 1) := by decide +kernel
theorem xd_W_law_428 : decode code 428 = .ok (.aload_n 0, 1) := by decide +kernel
theorem xd_W_law_429 : decode code 429 = .ok (.iload_n 3, 1) := by decide +kernel
theorem xd_W_law_430 : decode code 430 = .ok (.iconst 1, 1) := by decide +kernel
theorem xd_W_law_431 : decode code 431 = .ok (.iadd, 1) := by decide +kernel
theorem xd_W_law_432 : decode code 432 = .ok (.iaload, 1) := by decide +kernel
theorem xd_W_law_433 : decode code 433 = .ok (.invokevirtual 69, 3) := by decide +kernel
theorem xd_W_law_436 : decode code 436 = .ok (.if_icmp .eq 84, 3) := by decide +kernel
theorem xd_W_law_439 : decode code 439 = .ok (.iconst 0, 1) := by decide +kernel
theorem xd_W_law_440 : decode code 440 = .ok (.ireturn, 1) := by decide +kernel
theorem xd_W_law_441 : decode code 441 = .ok (.aload_n 1, 1) := by decide +kernel
theorem xd_W_law_442 : decode code 442 = .ok (.aload_n 0, 1) := by decide +kernel
theorem xd_W_law_443 : decode code 443 = .ok (.iload_n 3, 1) := by decide +kernel
theorem xd_W_law_444 : decode code 444 = .ok (.iconst 1, 1) := by decide +kernel
theorem xd_W_law_445 : decode code 445 = .ok (.iadd, 1) := by decide +kernel
theorem xd_W_law_446 : decode code 446 = .ok (.iaload, 1) := by decide +kernel
theorem xd_W_law_447 : decode code 447 = .ok (.invokevirtual 70, 3) := by decide +kernel
theorem xd_W_law_450 : decode code 450 = .ok (.aload_n 2, 1) := by decide +kernel
theorem xd_W_law_451 : decode code 451 = .ok (.aload_n 0, 1) := by decide +kernel
theorem xd_W_law_452 : decode code 452 = .ok (.iload_n 3, 1) := by decide +kernel
theorem xd_W_law_453 : decode code 453 = .ok (.iconst 1, 1) := by decide +kernel
theorem xd_W_law_454 : decode code 454 = .ok (.iadd, 1) := by decide +kernel
theorem xd_W_law_455 : decode code 455 = .ok (.iaload, 1) := by decide +kernel
theorem xd_W_law_456 : decode code 456 = .ok (.invokevirtual 73, 3) := by decide +kernel
theorem xd_W_law_459 : decode code 459 = .ok (.if_icmp .eq 61, 3) := by decide +kernel
theorem xd_W_law_462 : decode code 462 = .ok (.iconst 0, 1) := by decide +kernel
theorem xd_W_law_463 : decode code 463 = .ok (.ireturn, 1) := by decide +kernel
theorem xd_W_law_464 : decode code 464 = .ok (.aload_n 1, 1) := by decide +kernel
theorem xd_W_law_465 : decode code 465 = .ok (.aload_n 0, 1) := by decide +kernel
theorem xd_W_law_466 : decode code 466 = .ok (.iload_n 3, 1) := by decide +kernel
theorem xd_W_law_467 : decode code 467 = .ok (.iconst 1, 1) := by decide +kernel
theorem xd_W_law_468 : decode code 468 = .ok (.iadd, 1) := by decide +kernel
theorem xd_W_law_469 : decode code 469 = .ok (.iaload, 1) := by decide +kernel
theorem xd_W_law_470 : decode code 470 = .ok (.aload_n 0, 1) := by decide +kernel
theorem xd_W_law_471 : decode code 471 = .ok (.iload_n 3, 1) := by decide +kernel
theorem xd_W_law_472 : decode code 472 = .ok (.iconst 2, 1) := by decide +kernel
theorem xd_W_law_473 : decode code 473 = .ok (.iadd, 1) := by decide +kernel
theorem xd_W_law_474 : decode code 474 = .ok (.iaload, 1) := by decide +kernel
theorem xd_W_law_475 : decode code 475 = .ok (.invokevirtual 74, 3) := by decide +kernel
theorem xd_W_law_478 : decode code 478 = .ok (.aload_n 2, 1) := by decide +kernel
theorem xd_W_law_479 : decode code 479 = .ok (.aload_n 0, 1) := by decide +kernel
theorem xd_W_law_480 : decode code 480 = .ok (.iload_n 3, 1) := by decide +kernel
theorem xd_W_law_481 : decode code 481 = .ok (.iconst 1, 1) := by decide +kernel
theorem xd_W_law_482 : decode code 482 = .ok (.iadd, 1) := by decide +kernel
theorem xd_W_law_483 : decode code 483 = .ok (.iaload, 1) := by decide +kernel
theorem xd_W_law_484 : decode code 484 = .ok (.aload_n 0, 1) := by decide +kernel
theorem xd_W_law_485 : decode code 485 = .ok (.iload_n 3, 1) := by decide +kernel
theorem xd_W_law_486 : decode code 486 = .ok (.iconst 2, 1) := by decide +kernel
theorem xd_W_law_487 : decode code 487 = .ok (.iadd, 1) := by decide +kernel
theorem xd_W_law_488 : decode code 488 = .ok (.iaload, 1) := by decide +kernel
theorem xd_W_law_489 : decode code 489 = .ok (.invokevirtual 77, 3) := by decide +kernel
theorem xd_W_law_492 : decode code 492 = .ok (.if_icmp .eq 28, 3) := by decide +kernel
theorem xd_W_law_495 : decode code 495 = .ok (.iconst 0, 1) := by decide +kernel
theorem xd_W_law_496 : decode code 496 = .ok (.ireturn, 1) := by decide +kernel
theorem xd_W_law_497 : decode code 497 = .ok (.aload_n 1, 1) := by decide +kernel
theorem xd_W_law_498 : decode code 498 = .ok (.aload_n 0, 1) := by decide +kernel
theorem xd_W_law_499 : decode code 499 = .ok (.iload_n 3, 1) := by decide +kernel
theorem xd_W_law_500 : decode code 500 = .ok (.iconst 1, 1) := by decide +kernel
theorem xd_W_law_501 : decode code 501 = .ok (.iadd, 1) := by decide +kernel
theorem xd_W_law_502 : decode code 502 = .ok (.iaload, 1) := by decide +kernel
theorem xd_W_law_503 : decode code 503 = .ok (.invokevirtual 78, 3) := by decide +kernel
theorem xd_W_law_506 : decode code 506 = .ok (.aload_n 2, 1) := by decide +kernel
theorem xd_W_law_507 : decode code 507 = .ok (.aload_n 0, 1) := by decide +kernel
theorem xd_W_law_508 : decode code 508 = .ok (.iload_n 3, 1) := by decide +kernel
theorem xd_W_law_509 : decode code 509 = .ok (.iconst 1, 1) := by decide +kernel
theorem xd_W_law_510 : decode code 510 = .ok (.iadd, 1) := by decide +kernel
theorem xd_W_law_511 : decode code 511 = .ok (.iaload, 1) := by decide +kernel
theorem xd_W_law_512 : decode code 512 = .ok (.invokevirtual 81, 3) := by decide +kernel
theorem xd_W_law_515 : decode code 515 = .ok (.if_icmp .eq 5, 3) := by decide +kernel
theorem xd_W_law_518 : decode code 518 = .ok (.iconst 0, 1) := by decide +kernel
theorem xd_W_law_519 : decode code 519 = .ok (.ireturn, 1) := by decide +kernel
theorem xd_W_law_520 : decode code 520 = .ok (.iinc 3 5, 3) := by decide +kernel
theorem xd_W_law_523 : decode code 523 = .ok (.goto (-505), 3) := by decide +kernel
theorem xd_W_law_526 : decode code 526 = .ok (.iconst 1, 1) := by decide +kernel
theorem xd_W_law_527 : decode code 527 = .ok (.ireturn, 1) := by decide +kernel
/-- what is known in the law's body -/
def wl_E (b Ln : Nat) (xs : Nat → Int32) : aw_K → Prop
  | (_, _, _, _, s, _, args, below, meth, _, Q, _, A, _) => va_X b Ln xs s s.heap ∧ b < s.heap.size ∧ args = #[Value.ref b] ∧ meth.sig.returnType = ret ∧ Q = lw_Z below #[Value.ref b] s ∧ (∀ q, A q → s.heap.size ≤ q)
section WLR
variable {l : Launch} {D : va_G} {tys : List (ClassId × FieldType)} {Zs : aw_T} {κ : aw_K} {b Ln : Nat} {xs : Nat → Int32}
variable {cells slots : Nat} {w : va_W} {L : List (Nat × Value)} {pc : Nat} {S : List Value}
theorem aw_sldL (C : aw_X0 l D tys Zs room_1 code 4 "ModuleShelfLaw" lw_tbl (wl_E b Ln xs) κ) {i : Int32} (hin : vp_in i Ln) (hd : decode code pc = .ok (.iaload, 1)) (kk : aw_J κ cells slots w L (pc + 1) (.int (xs i.toNatClampNeg) :: S)) : aw_J κ cells slots w L pc (.int i :: .ref b :: S) := by
  obtain ⟨p, l0, e, R, s, m, args, below, meth, c, Q, D0, A, nL⟩ := κ
  obtain ⟨rfl, rfl, rfl, rfl, hx, hb, hml, hown, hts, hKK, hA, hlk, hZ, hX, hbl, ha, hrt, hQ, hAq⟩ := C
  intro H locs ls hP hD hS hl
  exact va_sld hx hb hX hbl (fun h => absurd (hAq b h) (Nat.not_le.mpr hbl)) hS hin hd (kk H locs ls hP hD hS hl)
theorem aw_slenL (C : aw_X0 l D tys Zs room_1 code 4 "ModuleShelfLaw" lw_tbl (wl_E b Ln xs) κ) (hd : decode code pc = .ok (.arraylength, 1)) (kk : aw_J κ cells slots w L (pc + 1) (.int (Int32.ofNat Ln) :: S)) : aw_J κ cells slots w L pc (.ref b :: S) := by
  obtain ⟨p, l0, e, R, s, m, args, below, meth, c, Q, D0, A, nL⟩ := κ
  obtain ⟨rfl, rfl, rfl, rfl, hx, hb, hml, hown, hts, hKK, hA, hlk, hZ, hX, hbl, ha, hrt, hQ, hAq⟩ := C
  intro H locs ls hP hD hS hl
  exact va_slen hx hb hX hbl (fun h => absurd (hAq b h) (Nat.not_le.mpr hbl)) hS hd (kk H locs ls hP hD hS hl)
theorem aw_retL (C : aw_X0 l D tys Zs room_1 code 4 "ModuleShelfLaw" lw_tbl (wl_E b Ln xs) κ) (hd : decode code pc = .ok (.ireturn, 1)) : aw_J κ 600000 7302250 w L pc [.int 1] := by
  obtain ⟨p, l0, e, R, s, m, args, below, meth, c, Q, D0, A, nL⟩ := κ
  obtain ⟨rfl, rfl, rfl, rfl, hx, hb, hml, hown, hts, hKK, hA, hlk, hZ, hX, hbl, ha, hrt, hQ, hAq⟩ := C
  intro H locs ls hP hD hS hl
  subst hQ
  subst ha
  refine va_forget (fun q hq => hAq _ (hS.2.2 q hq)) ?_
  exact lw_ret hx hb hrt hlk hd
end WLR
theorem wl_in {t k Ln : Nat} (h : 5 * t + 5 ≤ Ln) (hL : Ln ≤ 2560) (hk : k < 5) : vp_in (nI (5 * t) + nI k) Ln := by
  rw [nI_add]
  exact vp_in_nI (by omega) (by omega)
theorem wl_in0 {t Ln : Nat} (h : 5 * t + 5 ≤ Ln) (hL : Ln ≤ 2560) : vp_in (nI (5 * t)) Ln := vp_in_nI (by omega) (by omega)
theorem wl_ge {t Ln : Nat} (hL : Ln ≤ 2560) (ht : 5 * t ≤ 3000) (h : ¬ Int32.ofNat Ln - 5 < nI (5 * t)) : 5 * t + 5 ≤ Ln := by
  have e1 : (Int32.ofNat Ln - 5).toInt = (Ln : Int) - 5 := by
    have := pk_sub_toInt (a := Ln) (b := 5) (by omega) (by omega)
    exact this
  have e2 : (nI (5 * t)).toInt = ((5 * t : Nat) : Int) := nI_toInt (by omega)
  rw [Int32.lt_iff_toInt_lt, e1, e2] at h
  omega
theorem rm_law {d m : Nat} (h : d < 2048 := by decide) (hm : m ≤ 21 := by decide) : aw_rm (rm_D d) room_1 m := ⟨rfl, rfl, h, by show 8 + (m + 11) + 40 * d ≤ 84000; omega⟩
def wl_mono (IV : Nat → aw_m → aw_m → Prop) : Prop := ∀ (t : Nat) (σ τ : aw_m), IV t σ τ → IV (t + 1) σ τ
def wl_begin (IV : Nat → aw_m → aw_m → Prop) : Prop := ∀ (t : Nat) (σ τ : aw_m) (a1 : Int32) , t < 600 → IV t σ τ → ∃ (r : Int32) (σ2 τ2 : aw_m), xm_S_begin σ a1 = some (r, σ2) ∧ xm_R_begin τ a1 = some (r, τ2) ∧ IV (t + 1) σ2 τ2
def wl_procedure (IV : Nat → aw_m → aw_m → Prop) : Prop := ∀ (t : Nat) (σ τ : aw_m) (a1 : Int32) , t < 600 → IV t σ τ → ∃ (r : Int32) (σ2 τ2 : aw_m), xm_S_procedure σ a1 = some (r, σ2) ∧ xm_R_procedure τ a1 = some (r, τ2) ∧ IV (t + 1) σ2 τ2
def wl_token (IV : Nat → aw_m → aw_m → Prop) : Prop := ∀ (t : Nat) (σ τ : aw_m) (a1 a2 a3 : Int32) , t < 600 → IV t σ τ → ∃ (r : Int32) (σ2 τ2 : aw_m), xm_S_token σ a1 a2 a3 = some (r, σ2) ∧ xm_R_token τ a1 a2 a3 = some (r, τ2) ∧ IV (t + 1) σ2 τ2
def wl_compile (IV : Nat → aw_m → aw_m → Prop) : Prop := ∀ (t : Nat) (σ τ : aw_m) (a1 : Int32) , t < 600 → IV t σ τ → ∃ (r : Int32) (σ2 τ2 : aw_m), xm_S_compile σ a1 = some (r, σ2) ∧ xm_R_compile τ a1 = some (r, τ2) ∧ IV (t + 1) σ2 τ2
def wl_place (IV : Nat → aw_m → aw_m → Prop) : Prop := ∀ (t : Nat) (σ τ : aw_m) , t < 600 → IV t σ τ → ∃ r : Int32, xm_S_place σ  = some r ∧ xm_R_place τ  = some r
def wl_remove (IV : Nat → aw_m → aw_m → Prop) : Prop := ∀ (t : Nat) (σ τ : aw_m) (a1 : Int32) , t < 600 → IV t σ τ → ∃ (r : Int32) (σ2 τ2 : aw_m), xm_S_remove σ a1 = some (r, σ2) ∧ xm_R_remove τ a1 = some (r, τ2) ∧ IV (t + 1) σ2 τ2
def wl_load (IV : Nat → aw_m → aw_m → Prop) : Prop := ∀ (t : Nat) (σ τ : aw_m) (a1 : Int32) , t < 600 → IV t σ τ → ∃ (r : Int32) (σ2 τ2 : aw_m), xm_S_load σ a1 = some (r, σ2) ∧ xm_R_load τ a1 = some (r, τ2) ∧ IV (t + 1) σ2 τ2
def wl_unload (IV : Nat → aw_m → aw_m → Prop) : Prop := ∀ (t : Nat) (σ τ : aw_m) (a1 : Int32) , t < 600 → IV t σ τ → ∃ (r : Int32) (σ2 τ2 : aw_m), xm_S_unload σ a1 = some (r, σ2) ∧ xm_R_unload τ a1 = some (r, τ2) ∧ IV (t + 1) σ2 τ2
def wl_run (IV : Nat → aw_m → aw_m → Prop) : Prop := ∀ (t : Nat) (σ τ : aw_m) (a1 a2 a3 a4 : Int32) , t < 600 → IV t σ τ → ∃ (r : Int32) (σ2 τ2 : aw_m), xm_S_run σ a1 a2 a3 a4 = some (r, σ2) ∧ xm_R_run τ a1 a2 a3 a4 = some (r, τ2) ∧ IV (t + 1) σ2 τ2
def wl_value (IV : Nat → aw_m → aw_m → Prop) : Prop := ∀ (t : Nat) (σ τ : aw_m) , t < 600 → IV t σ τ → ∃ r : Int32, xm_S_value σ  = some r ∧ xm_R_value τ  = some r
def wl_steps (IV : Nat → aw_m → aw_m → Prop) : Prop := ∀ (t : Nat) (σ τ : aw_m) , t < 600 → IV t σ τ → ∃ r : Int32, xm_S_steps σ  = some r ∧ xm_R_steps τ  = some r
def wl_variable (IV : Nat → aw_m → aw_m → Prop) : Prop := ∀ (t : Nat) (σ τ : aw_m) (a1 a2 : Int32) , t < 600 → IV t σ τ → ∃ r : Int32, xm_S_variable σ a1 a2 = some r ∧ xm_R_variable τ a1 a2 = some r
def wl_key (IV : Nat → aw_m → aw_m → Prop) : Prop := ∀ (t : Nat) (σ τ : aw_m) (a1 : Int32) , t < 600 → IV t σ τ → ∃ r : Int32, xm_S_key σ a1 = some r ∧ xm_R_key τ a1 = some r
def wl_loaded (IV : Nat → aw_m → aw_m → Prop) : Prop := ∀ (t : Nat) (σ τ : aw_m) (a1 : Int32) , t < 600 → IV t σ τ → ∃ r : Int32, xm_S_loaded σ a1 = some r ∧ xm_R_loaded τ a1 = some r
def wl_imported (IV : Nat → aw_m → aw_m → Prop) : Prop := ∀ (t : Nat) (σ τ : aw_m) (a1 a2 : Int32) , t < 600 → IV t σ τ → ∃ r : Int32, xm_S_imported σ a1 a2 = some r ∧ xm_R_imported τ a1 a2 = some r
def wl_count (IV : Nat → aw_m → aw_m → Prop) : Prop := ∀ (t : Nat) (σ τ : aw_m) (a1 : Int32) , t < 600 → IV t σ τ → ∃ r : Int32, xm_S_count σ a1 = some r ∧ xm_R_count τ a1 = some r
set_option maxHeartbeats 4000000 in
set_option maxRecDepth 100000 in
theorem wc_begin {l : Launch} {D : va_G} {ad ar : Nat → Nat} {ids : Nat → ClassId} {ps : Nat} {κ : aw_K} {b Ln : Nat} {xs : Nat → Int32} (IV : Nat → aw_m → aw_m → Prop) (hmo : wl_mono IV) (hs : wl_begin IV) (hL : Ln ≤ 2560) (C : aw_X0 l D (ty_z ids) (zs_T ps) room_1 code 4 "ModuleShelfLaw" lw_tbl (wl_E b Ln xs) κ) {t : Nat} (ht : 5 * t + 5 ≤ Ln) {σ τ : aw_m} (hI : IV t σ τ) (kk : ∀ σ2 τ2 : aw_m, IV (t + 1) σ2 τ2 → aw_J κ 164 5322 (cw_w ad ids σ2 ++ rw_w ar ids τ2) [(0, .ref b), (1, .ref (ad 0)), (2, .ref (ar 0)), (3, .int (nI (5 * t)))] 520 []) : aw_J κ 164 5322 (cw_w ad ids σ ++ rw_w ar ids τ) [(0, .ref b), (1, .ref (ad 0)), (2, .ref (ar 0)), (3, .int (nI (5 * t)))] 112 [] := by
  obtain ⟨r, σ2, τ2, hm1, hm2, hI2⟩ := hs t σ τ (xs (Int32.toNatClampNeg (nI (5 * t) + (1 : Int32)))) (by omega) hI
  refine aw_aload_n C 1 xd_W_law_112 rfl rfl ?_
  refine aw_aload_n C 0 xd_W_law_113 rfl rfl ?_
  refine aw_iload_n C 3 xd_W_law_114 rfl rfl ?_
  refine aw_iconst (v := (1 : Int32)) C xd_W_law_115 (by decide) ?_
  refine aw_iadd C xd_W_law_116 ?_
  refine aw_sldL C (wl_in (k := 1) ht hL (by decide)) xd_W_law_117 ?_
  refine aw_swap ?_
  refine aw_callVp (As := [.int (xs (Int32.toNatClampNeg (nI (5 * t) + (1 : Int32))))]) (rest := []) (b := ad 0) C (xc_S_begin σ (xs (Int32.toNatClampNeg (nI (5 * t) + (1 : Int32)))) _ hm1) rfl (gw_law (gw_V xg_S_begin ml_W_13 im_S_begin se_S_begin wi_S)) na_S_begin rm_law ⟨Nat.le_of_ble_eq_true rfl, Nat.le_of_ble_eq_true rfl⟩ 0 (at_S (rfl : kd_k 0 = 15)) rfl rfl (Nat.le_of_ble_eq_true rfl) xd_W_law_118 ?_
  refine aw_aload_n C 2 xd_W_law_121 rfl rfl ?_
  refine aw_aload_n C 0 xd_W_law_122 rfl rfl ?_
  refine aw_iload_n C 3 xd_W_law_123 rfl rfl ?_
  refine aw_iconst (v := (1 : Int32)) C xd_W_law_124 (by decide) ?_
  refine aw_iadd C xd_W_law_125 ?_
  refine aw_sldL C (wl_in (k := 1) ht hL (by decide)) xd_W_law_126 ?_
  refine aw_swap ?_
  refine aw_callVp (As := [.int (xs (Int32.toNatClampNeg (nI (5 * t) + (1 : Int32))))]) (rest := [.int r]) (b := ar 0) C (xc_R_begin τ (xs (Int32.toNatClampNeg (nI (5 * t) + (1 : Int32)))) _ hm2) rfl (gw_law (gw_V xg_R_begin ml_W_17 im_R_begin se_R_begin wi_R)) na_R_begin rm_law ⟨Nat.le_of_ble_eq_true rfl, Nat.le_of_ble_eq_true rfl⟩ 0 at_R rfl rfl (Nat.le_of_ble_eq_true rfl) xd_W_law_127 ?_
  refine aw_icmp_eq (tgt := 520) C xd_W_law_130 (by decide) (fun _ => ?_) (fun c_0 => absurd rfl c_0)
  exact kk σ2 τ2 hI2
set_option maxHeartbeats 4000000 in
set_option maxRecDepth 100000 in
theorem wc_procedure {l : Launch} {D : va_G} {ad ar : Nat → Nat} {ids : Nat → ClassId} {ps : Nat} {κ : aw_K} {b Ln : Nat} {xs : Nat → Int32} (IV : Nat → aw_m → aw_m → Prop) (hmo : wl_mono IV) (hs : wl_procedure IV) (hL : Ln ≤ 2560) (C : aw_X0 l D (ty_z ids) (zs_T ps) room_1 code 4 "ModuleShelfLaw" lw_tbl (wl_E b Ln xs) κ) {t : Nat} (ht : 5 * t + 5 ≤ Ln) {σ τ : aw_m} (hI : IV t σ τ) (kk : ∀ σ2 τ2 : aw_m, IV (t + 1) σ2 τ2 → aw_J κ 164 5322 (cw_w ad ids σ2 ++ rw_w ar ids τ2) [(0, .ref b), (1, .ref (ad 0)), (2, .ref (ar 0)), (3, .int (nI (5 * t)))] 520 []) : aw_J κ 164 5322 (cw_w ad ids σ ++ rw_w ar ids τ) [(0, .ref b), (1, .ref (ad 0)), (2, .ref (ar 0)), (3, .int (nI (5 * t)))] 135 [] := by
  obtain ⟨r, σ2, τ2, hm1, hm2, hI2⟩ := hs t σ τ (xs (Int32.toNatClampNeg (nI (5 * t) + (1 : Int32)))) (by omega) hI
  refine aw_aload_n C 1 xd_W_law_135 rfl rfl ?_
  refine aw_aload_n C 0 xd_W_law_136 rfl rfl ?_
  refine aw_iload_n C 3 xd_W_law_137 rfl rfl ?_
  refine aw_iconst (v := (1 : Int32)) C xd_W_law_138 (by decide) ?_
  refine aw_iadd C xd_W_law_139 ?_
  refine aw_sldL C (wl_in (k := 1) ht hL (by decide)) xd_W_law_140 ?_
  refine aw_swap ?_
  refine aw_callVp (As := [.int (xs (Int32.toNatClampNeg (nI (5 * t) + (1 : Int32))))]) (rest := []) (b := ad 0) C (xc_S_procedure σ (xs (Int32.toNatClampNeg (nI (5 * t) + (1 : Int32)))) _ hm1) rfl (gw_law (gw_V xg_S_procedure ml_W_18 im_S_procedure se_S_procedure wi_S)) na_S_procedure rm_law ⟨Nat.le_of_ble_eq_true rfl, Nat.le_of_ble_eq_true rfl⟩ 0 (at_S (rfl : kd_k 0 = 15)) rfl rfl (Nat.le_of_ble_eq_true rfl) xd_W_law_141 ?_
  refine aw_aload_n C 2 xd_W_law_144 rfl rfl ?_
  refine aw_aload_n C 0 xd_W_law_145 rfl rfl ?_
  refine aw_iload_n C 3 xd_W_law_146 rfl rfl ?_
  refine aw_iconst (v := (1 : Int32)) C xd_W_law_147 (by decide) ?_
  refine aw_iadd C xd_W_law_148 ?_
  refine aw_sldL C (wl_in (k := 1) ht hL (by decide)) xd_W_law_149 ?_
  refine aw_swap ?_
  refine aw_callVp (As := [.int (xs (Int32.toNatClampNeg (nI (5 * t) + (1 : Int32))))]) (rest := [.int r]) (b := ar 0) C (xc_R_procedure τ (xs (Int32.toNatClampNeg (nI (5 * t) + (1 : Int32)))) _ hm2) rfl (gw_law (gw_V xg_R_procedure ml_W_21 im_R_procedure se_R_procedure wi_R)) na_R_procedure rm_law ⟨Nat.le_of_ble_eq_true rfl, Nat.le_of_ble_eq_true rfl⟩ 0 at_R rfl rfl (Nat.le_of_ble_eq_true rfl) xd_W_law_150 ?_
  refine aw_icmp_eq (tgt := 520) C xd_W_law_153 (by decide) (fun _ => ?_) (fun c_0 => absurd rfl c_0)
  exact kk σ2 τ2 hI2
set_option maxHeartbeats 4000000 in
set_option maxRecDepth 100000 in
theorem wc_token {l : Launch} {D : va_G} {ad ar : Nat → Nat} {ids : Nat → ClassId} {ps : Nat} {κ : aw_K} {b Ln : Nat} {xs : Nat → Int32} (IV : Nat → aw_m → aw_m → Prop) (hmo : wl_mono IV) (hs : wl_token IV) (hL : Ln ≤ 2560) (C : aw_X0 l D (ty_z ids) (zs_T ps) room_1 code 4 "ModuleShelfLaw" lw_tbl (wl_E b Ln xs) κ) {t : Nat} (ht : 5 * t + 5 ≤ Ln) {σ τ : aw_m} (hI : IV t σ τ) (kk : ∀ σ2 τ2 : aw_m, IV (t + 1) σ2 τ2 → aw_J κ 164 5322 (cw_w ad ids σ2 ++ rw_w ar ids τ2) [(0, .ref b), (1, .ref (ad 0)), (2, .ref (ar 0)), (3, .int (nI (5 * t)))] 520 []) : aw_J κ 164 5322 (cw_w ad ids σ ++ rw_w ar ids τ) [(0, .ref b), (1, .ref (ad 0)), (2, .ref (ar 0)), (3, .int (nI (5 * t)))] 158 [] := by
  obtain ⟨r, σ2, τ2, hm1, hm2, hI2⟩ := hs t σ τ (xs (Int32.toNatClampNeg (nI (5 * t) + (1 : Int32)))) (xs (Int32.toNatClampNeg (nI (5 * t) + (2 : Int32)))) (xs (Int32.toNatClampNeg (nI (5 * t) + (3 : Int32)))) (by omega) hI
  refine aw_aload_n C 1 xd_W_law_158 rfl rfl ?_
  refine aw_aload_n C 0 xd_W_law_159 rfl rfl ?_
  refine aw_iload_n C 3 xd_W_law_160 rfl rfl ?_
  refine aw_iconst (v := (1 : Int32)) C xd_W_law_161 (by decide) ?_
  refine aw_iadd C xd_W_law_162 ?_
  refine aw_sldL C (wl_in (k := 1) ht hL (by decide)) xd_W_law_163 ?_
  refine aw_aload_n C 0 xd_W_law_164 rfl rfl ?_
  refine aw_iload_n C 3 xd_W_law_165 rfl rfl ?_
  refine aw_iconst (v := (2 : Int32)) C xd_W_law_166 (by decide) ?_
  refine aw_iadd C xd_W_law_167 ?_
  refine aw_sldL C (wl_in (k := 2) ht hL (by decide)) xd_W_law_168 ?_
  refine aw_aload_n C 0 xd_W_law_169 rfl rfl ?_
  refine aw_iload_n C 3 xd_W_law_170 rfl rfl ?_
  refine aw_iconst (v := (3 : Int32)) C xd_W_law_171 (by decide) ?_
  refine aw_iadd C xd_W_law_172 ?_
  refine aw_sldL C (wl_in (k := 3) ht hL (by decide)) xd_W_law_173 ?_
  refine aw_swap ?_
  refine aw_callVp (As := [.int (xs (Int32.toNatClampNeg (nI (5 * t) + (1 : Int32)))), .int (xs (Int32.toNatClampNeg (nI (5 * t) + (2 : Int32)))), .int (xs (Int32.toNatClampNeg (nI (5 * t) + (3 : Int32))))]) (rest := []) (b := ad 0) C (xc_S_token σ (xs (Int32.toNatClampNeg (nI (5 * t) + (1 : Int32)))) (xs (Int32.toNatClampNeg (nI (5 * t) + (2 : Int32)))) (xs (Int32.toNatClampNeg (nI (5 * t) + (3 : Int32)))) _ hm1) rfl (gw_law (gw_V xg_S_token ml_W_22 im_S_token se_S_token wi_S)) na_S_token rm_law ⟨Nat.le_of_ble_eq_true rfl, Nat.le_of_ble_eq_true rfl⟩ 0 (at_S (rfl : kd_k 0 = 15)) rfl rfl (Nat.le_of_ble_eq_true rfl) xd_W_law_174 ?_
  refine aw_aload_n C 2 xd_W_law_177 rfl rfl ?_
  refine aw_aload_n C 0 xd_W_law_178 rfl rfl ?_
  refine aw_iload_n C 3 xd_W_law_179 rfl rfl ?_
  refine aw_iconst (v := (1 : Int32)) C xd_W_law_180 (by decide) ?_
  refine aw_iadd C xd_W_law_181 ?_
  refine aw_sldL C (wl_in (k := 1) ht hL (by decide)) xd_W_law_182 ?_
  refine aw_aload_n C 0 xd_W_law_183 rfl rfl ?_
  refine aw_iload_n C 3 xd_W_law_184 rfl rfl ?_
  refine aw_iconst (v := (2 : Int32)) C xd_W_law_185 (by decide) ?_
  refine aw_iadd C xd_W_law_186 ?_
  refine aw_sldL C (wl_in (k := 2) ht hL (by decide)) xd_W_law_187 ?_
  refine aw_aload_n C 0 xd_W_law_188 rfl rfl ?_
  refine aw_iload_n C 3 xd_W_law_189 rfl rfl ?_
  refine aw_iconst (v := (3 : Int32)) C xd_W_law_190 (by decide) ?_
  refine aw_iadd C xd_W_law_191 ?_
  refine aw_sldL C (wl_in (k := 3) ht hL (by decide)) xd_W_law_192 ?_
  refine aw_swap ?_
  refine aw_callVp (As := [.int (xs (Int32.toNatClampNeg (nI (5 * t) + (1 : Int32)))), .int (xs (Int32.toNatClampNeg (nI (5 * t) + (2 : Int32)))), .int (xs (Int32.toNatClampNeg (nI (5 * t) + (3 : Int32))))]) (rest := [.int r]) (b := ar 0) C (xc_R_token τ (xs (Int32.toNatClampNeg (nI (5 * t) + (1 : Int32)))) (xs (Int32.toNatClampNeg (nI (5 * t) + (2 : Int32)))) (xs (Int32.toNatClampNeg (nI (5 * t) + (3 : Int32)))) _ hm2) rfl (gw_law (gw_V xg_R_token ml_W_26 im_R_token se_R_token wi_R)) na_R_token rm_law ⟨Nat.le_of_ble_eq_true rfl, Nat.le_of_ble_eq_true rfl⟩ 0 at_R rfl rfl (Nat.le_of_ble_eq_true rfl) xd_W_law_193 ?_
  refine aw_icmp_eq (tgt := 520) C xd_W_law_196 (by decide) (fun _ => ?_) (fun c_0 => absurd rfl c_0)
  exact kk σ2 τ2 hI2
set_option maxHeartbeats 4000000 in
set_option maxRecDepth 100000 in
theorem wc_compile {l : Launch} {D : va_G} {ad ar : Nat → Nat} {ids : Nat → ClassId} {ps : Nat} {κ : aw_K} {b Ln : Nat} {xs : Nat → Int32} (IV : Nat → aw_m → aw_m → Prop) (hmo : wl_mono IV) (hs : wl_compile IV) (hL : Ln ≤ 2560) (C : aw_X0 l D (ty_z ids) (zs_T ps) room_1 code 4 "ModuleShelfLaw" lw_tbl (wl_E b Ln xs) κ) {t : Nat} (ht : 5 * t + 5 ≤ Ln) {σ τ : aw_m} (hI : IV t σ τ) (kk : ∀ σ2 τ2 : aw_m, IV (t + 1) σ2 τ2 → aw_J κ 164 5322 (cw_w ad ids σ2 ++ rw_w ar ids τ2) [(0, .ref b), (1, .ref (ad 0)), (2, .ref (ar 0)), (3, .int (nI (5 * t)))] 520 []) : aw_J κ 164 5322 (cw_w ad ids σ ++ rw_w ar ids τ) [(0, .ref b), (1, .ref (ad 0)), (2, .ref (ar 0)), (3, .int (nI (5 * t)))] 201 [] := by
  obtain ⟨r, σ2, τ2, hm1, hm2, hI2⟩ := hs t σ τ (xs (Int32.toNatClampNeg (nI (5 * t) + (1 : Int32)))) (by omega) hI
  refine aw_aload_n C 1 xd_W_law_201 rfl rfl ?_
  refine aw_aload_n C 0 xd_W_law_202 rfl rfl ?_
  refine aw_iload_n C 3 xd_W_law_203 rfl rfl ?_
  refine aw_iconst (v := (1 : Int32)) C xd_W_law_204 (by decide) ?_
  refine aw_iadd C xd_W_law_205 ?_
  refine aw_sldL C (wl_in (k := 1) ht hL (by decide)) xd_W_law_206 ?_
  refine aw_swap ?_
  refine aw_callVp (As := [.int (xs (Int32.toNatClampNeg (nI (5 * t) + (1 : Int32))))]) (rest := []) (b := ad 0) C (xc_S_compile σ (xs (Int32.toNatClampNeg (nI (5 * t) + (1 : Int32)))) _ hm1) rfl (gw_law (gw_V xg_S_compile ml_W_27 im_S_compile se_S_compile wi_S)) na_S_compile rm_law ⟨Nat.le_of_ble_eq_true rfl, Nat.le_of_ble_eq_true rfl⟩ 0 (at_S (rfl : kd_k 0 = 15)) rfl rfl (Nat.le_of_ble_eq_true rfl) xd_W_law_207 ?_
  refine aw_aload_n C 2 xd_W_law_210 rfl rfl ?_
  refine aw_aload_n C 0 xd_W_law_211 rfl rfl ?_
  refine aw_iload_n C 3 xd_W_law_212 rfl rfl ?_
  refine aw_iconst (v := (1 : Int32)) C xd_W_law_213 (by decide) ?_
  refine aw_iadd C xd_W_law_214 ?_
  refine aw_sldL C (wl_in (k := 1) ht hL (by decide)) xd_W_law_215 ?_
  refine aw_swap ?_
  refine aw_callVp (As := [.int (xs (Int32.toNatClampNeg (nI (5 * t) + (1 : Int32))))]) (rest := [.int r]) (b := ar 0) C (xc_R_compile τ (xs (Int32.toNatClampNeg (nI (5 * t) + (1 : Int32)))) _ hm2) rfl (gw_law (gw_V xg_R_compile ml_W_30 im_R_compile se_R_compile wi_R)) na_R_compile rm_law ⟨Nat.le_of_ble_eq_true rfl, Nat.le_of_ble_eq_true rfl⟩ 0 at_R rfl rfl (Nat.le_of_ble_eq_true rfl) xd_W_law_216 ?_
  refine aw_icmp_eq (tgt := 520) C xd_W_law_219 (by decide) (fun _ => ?_) (fun c_0 => absurd rfl c_0)
  exact kk σ2 τ2 hI2
set_option maxHeartbeats 4000000 in
set_option maxRecDepth 100000 in
theorem wc_place {l : Launch} {D : va_G} {ad ar : Nat → Nat} {ids : Nat → ClassId} {ps : Nat} {κ : aw_K} {b Ln : Nat} {xs : Nat → Int32} (IV : Nat → aw_m → aw_m → Prop) (hmo : wl_mono IV) (hs : wl_place IV) (hL : Ln ≤ 2560) (C : aw_X0 l D (ty_z ids) (zs_T ps) room_1 code 4 "ModuleShelfLaw" lw_tbl (wl_E b Ln xs) κ) {t : Nat} (ht : 5 * t + 5 ≤ Ln) {σ τ : aw_m} (hI : IV t σ τ) (kk : ∀ σ2 τ2 : aw_m, IV (t + 1) σ2 τ2 → aw_J κ 164 5322 (cw_w ad ids σ2 ++ rw_w ar ids τ2) [(0, .ref b), (1, .ref (ad 0)), (2, .ref (ar 0)), (3, .int (nI (5 * t)))] 520 []) : aw_J κ 164 5322 (cw_w ad ids σ ++ rw_w ar ids τ) [(0, .ref b), (1, .ref (ad 0)), (2, .ref (ar 0)), (3, .int (nI (5 * t)))] 224 [] := by
  obtain ⟨r, hm1, hm2⟩ := hs t σ τ  (by omega) hI
  refine aw_aload_n C 1 xd_W_law_224 rfl rfl ?_
  refine aw_swap ?_
  refine aw_callVp (As := []) (rest := []) (b := ad 0) C (xc_S_place σ  _ hm1) rfl (gw_law (gw_V xg_S_place ml_W_31 im_S_place se_S_place wi_S)) na_S_place rm_law ⟨Nat.le_of_ble_eq_true rfl, Nat.le_of_ble_eq_true rfl⟩ 0 (at_S (rfl : kd_k 0 = 15)) rfl rfl (Nat.le_of_ble_eq_true rfl) xd_W_law_225 ?_
  refine aw_aload_n C 2 xd_W_law_228 rfl rfl ?_
  refine aw_swap ?_
  refine aw_callVp (As := []) (rest := [.int r]) (b := ar 0) C (xc_R_place τ  _ hm2) rfl (gw_law (gw_V xg_R_place ml_W_35 im_R_place se_R_place wi_R)) na_R_place rm_law ⟨Nat.le_of_ble_eq_true rfl, Nat.le_of_ble_eq_true rfl⟩ 0 at_R rfl rfl (Nat.le_of_ble_eq_true rfl) xd_W_law_229 ?_
  refine aw_icmp_eq (tgt := 520) C xd_W_law_232 (by decide) (fun _ => ?_) (fun c_0 => absurd rfl c_0)
  exact kk σ τ (hmo t σ τ hI)
set_option maxHeartbeats 4000000 in
set_option maxRecDepth 100000 in
theorem wc_remove {l : Launch} {D : va_G} {ad ar : Nat → Nat} {ids : Nat → ClassId} {ps : Nat} {κ : aw_K} {b Ln : Nat} {xs : Nat → Int32} (IV : Nat → aw_m → aw_m → Prop) (hmo : wl_mono IV) (hs : wl_remove IV) (hL : Ln ≤ 2560) (C : aw_X0 l D (ty_z ids) (zs_T ps) room_1 code 4 "ModuleShelfLaw" lw_tbl (wl_E b Ln xs) κ) {t : Nat} (ht : 5 * t + 5 ≤ Ln) {σ τ : aw_m} (hI : IV t σ τ) (kk : ∀ σ2 τ2 : aw_m, IV (t + 1) σ2 τ2 → aw_J κ 164 5322 (cw_w ad ids σ2 ++ rw_w ar ids τ2) [(0, .ref b), (1, .ref (ad 0)), (2, .ref (ar 0)), (3, .int (nI (5 * t)))] 520 []) : aw_J κ 164 5322 (cw_w ad ids σ ++ rw_w ar ids τ) [(0, .ref b), (1, .ref (ad 0)), (2, .ref (ar 0)), (3, .int (nI (5 * t)))] 237 [] := by
  obtain ⟨r, σ2, τ2, hm1, hm2, hI2⟩ := hs t σ τ (xs (Int32.toNatClampNeg (nI (5 * t) + (1 : Int32)))) (by omega) hI
  refine aw_aload_n C 1 xd_W_law_237 rfl rfl ?_
  refine aw_aload_n C 0 xd_W_law_238 rfl rfl ?_
  refine aw_iload_n C 3 xd_W_law_239 rfl rfl ?_
  refine aw_iconst (v := (1 : Int32)) C xd_W_law_240 (by decide) ?_
  refine aw_iadd C xd_W_law_241 ?_
  refine aw_sldL C (wl_in (k := 1) ht hL (by decide)) xd_W_law_242 ?_
  refine aw_swap ?_
  refine aw_callVp (As := [.int (xs (Int32.toNatClampNeg (nI (5 * t) + (1 : Int32))))]) (rest := []) (b := ad 0) C (xc_S_remove σ (xs (Int32.toNatClampNeg (nI (5 * t) + (1 : Int32)))) _ hm1) rfl (gw_law (gw_V xg_S_remove ml_W_36 im_S_remove se_S_remove wi_S)) na_S_remove rm_law ⟨Nat.le_of_ble_eq_true rfl, Nat.le_of_ble_eq_true rfl⟩ 0 (at_S (rfl : kd_k 0 = 15)) rfl rfl (Nat.le_of_ble_eq_true rfl) xd_W_law_243 ?_
  refine aw_aload_n C 2 xd_W_law_246 rfl rfl ?_
  refine aw_aload_n C 0 xd_W_law_247 rfl rfl ?_
  refine aw_iload_n C 3 xd_W_law_248 rfl rfl ?_
  refine aw_iconst (v := (1 : Int32)) C xd_W_law_249 (by decide) ?_
  refine aw_iadd C xd_W_law_250 ?_
  refine aw_sldL C (wl_in (k := 1) ht hL (by decide)) xd_W_law_251 ?_
  refine aw_swap ?_
  refine aw_callVp (As := [.int (xs (Int32.toNatClampNeg (nI (5 * t) + (1 : Int32))))]) (rest := [.int r]) (b := ar 0) C (xc_R_remove τ (xs (Int32.toNatClampNeg (nI (5 * t) + (1 : Int32)))) _ hm2) rfl (gw_law (gw_V xg_R_remove ml_W_39 im_R_remove se_R_remove wi_R)) na_R_remove rm_law ⟨Nat.le_of_ble_eq_true rfl, Nat.le_of_ble_eq_true rfl⟩ 0 at_R rfl rfl (Nat.le_of_ble_eq_true rfl) xd_W_law_252 ?_
  refine aw_icmp_eq (tgt := 520) C xd_W_law_255 (by decide) (fun _ => ?_) (fun c_0 => absurd rfl c_0)
  exact kk σ2 τ2 hI2
set_option maxHeartbeats 4000000 in
set_option maxRecDepth 100000 in
theorem wc_load {l : Launch} {D : va_G} {ad ar : Nat → Nat} {ids : Nat → ClassId} {ps : Nat} {κ : aw_K} {b Ln : Nat} {xs : Nat → Int32} (IV : Nat → aw_m → aw_m → Prop) (hmo : wl_mono IV) (hs : wl_load IV) (hL : Ln ≤ 2560) (C : aw_X0 l D (ty_z ids) (zs_T ps) room_1 code 4 "ModuleShelfLaw" lw_tbl (wl_E b Ln xs) κ) {t : Nat} (ht : 5 * t + 5 ≤ Ln) {σ τ : aw_m} (hI : IV t σ τ) (kk : ∀ σ2 τ2 : aw_m, IV (t + 1) σ2 τ2 → aw_J κ 164 5322 (cw_w ad ids σ2 ++ rw_w ar ids τ2) [(0, .ref b), (1, .ref (ad 0)), (2, .ref (ar 0)), (3, .int (nI (5 * t)))] 520 []) : aw_J κ 164 5322 (cw_w ad ids σ ++ rw_w ar ids τ) [(0, .ref b), (1, .ref (ad 0)), (2, .ref (ar 0)), (3, .int (nI (5 * t)))] 260 [] := by
  obtain ⟨r, σ2, τ2, hm1, hm2, hI2⟩ := hs t σ τ (xs (Int32.toNatClampNeg (nI (5 * t) + (1 : Int32)))) (by omega) hI
  refine aw_aload_n C 1 xd_W_law_260 rfl rfl ?_
  refine aw_aload_n C 0 xd_W_law_261 rfl rfl ?_
  refine aw_iload_n C 3 xd_W_law_262 rfl rfl ?_
  refine aw_iconst (v := (1 : Int32)) C xd_W_law_263 (by decide) ?_
  refine aw_iadd C xd_W_law_264 ?_
  refine aw_sldL C (wl_in (k := 1) ht hL (by decide)) xd_W_law_265 ?_
  refine aw_swap ?_
  refine aw_callVp (As := [.int (xs (Int32.toNatClampNeg (nI (5 * t) + (1 : Int32))))]) (rest := []) (b := ad 0) C (xc_S_load σ (xs (Int32.toNatClampNeg (nI (5 * t) + (1 : Int32)))) _ hm1) rfl (gw_law (gw_V xg_S_load ml_W_40 im_S_load se_S_load wi_S)) na_S_load rm_law ⟨Nat.le_of_ble_eq_true rfl, Nat.le_of_ble_eq_true rfl⟩ 0 (at_S (rfl : kd_k 0 = 15)) rfl rfl (Nat.le_of_ble_eq_true rfl) xd_W_law_266 ?_
  refine aw_aload_n C 2 xd_W_law_269 rfl rfl ?_
  refine aw_aload_n C 0 xd_W_law_270 rfl rfl ?_
  refine aw_iload_n C 3 xd_W_law_271 rfl rfl ?_
  refine aw_iconst (v := (1 : Int32)) C xd_W_law_272 (by decide) ?_
  refine aw_iadd C xd_W_law_273 ?_
  refine aw_sldL C (wl_in (k := 1) ht hL (by decide)) xd_W_law_274 ?_
  refine aw_swap ?_
  refine aw_callVp (As := [.int (xs (Int32.toNatClampNeg (nI (5 * t) + (1 : Int32))))]) (rest := [.int r]) (b := ar 0) C (xc_R_load τ (xs (Int32.toNatClampNeg (nI (5 * t) + (1 : Int32)))) _ hm2) rfl (gw_law (gw_V xg_R_load ml_W_43 im_R_load se_R_load wi_R)) na_R_load rm_law ⟨Nat.le_of_ble_eq_true rfl, Nat.le_of_ble_eq_true rfl⟩ 0 at_R rfl rfl (Nat.le_of_ble_eq_true rfl) xd_W_law_275 ?_
  refine aw_icmp_eq (tgt := 520) C xd_W_law_278 (by decide) (fun _ => ?_) (fun c_0 => absurd rfl c_0)
  exact kk σ2 τ2 hI2
set_option maxHeartbeats 4000000 in
set_option maxRecDepth 100000 in
theorem wc_unload {l : Launch} {D : va_G} {ad ar : Nat → Nat} {ids : Nat → ClassId} {ps : Nat} {κ : aw_K} {b Ln : Nat} {xs : Nat → Int32} (IV : Nat → aw_m → aw_m → Prop) (hmo : wl_mono IV) (hs : wl_unload IV) (hL : Ln ≤ 2560) (C : aw_X0 l D (ty_z ids) (zs_T ps) room_1 code 4 "ModuleShelfLaw" lw_tbl (wl_E b Ln xs) κ) {t : Nat} (ht : 5 * t + 5 ≤ Ln) {σ τ : aw_m} (hI : IV t σ τ) (kk : ∀ σ2 τ2 : aw_m, IV (t + 1) σ2 τ2 → aw_J κ 164 5322 (cw_w ad ids σ2 ++ rw_w ar ids τ2) [(0, .ref b), (1, .ref (ad 0)), (2, .ref (ar 0)), (3, .int (nI (5 * t)))] 520 []) : aw_J κ 164 5322 (cw_w ad ids σ ++ rw_w ar ids τ) [(0, .ref b), (1, .ref (ad 0)), (2, .ref (ar 0)), (3, .int (nI (5 * t)))] 283 [] := by
  obtain ⟨r, σ2, τ2, hm1, hm2, hI2⟩ := hs t σ τ (xs (Int32.toNatClampNeg (nI (5 * t) + (1 : Int32)))) (by omega) hI
  refine aw_aload_n C 1 xd_W_law_283 rfl rfl ?_
  refine aw_aload_n C 0 xd_W_law_284 rfl rfl ?_
  refine aw_iload_n C 3 xd_W_law_285 rfl rfl ?_
  refine aw_iconst (v := (1 : Int32)) C xd_W_law_286 (by decide) ?_
  refine aw_iadd C xd_W_law_287 ?_
  refine aw_sldL C (wl_in (k := 1) ht hL (by decide)) xd_W_law_288 ?_
  refine aw_swap ?_
  refine aw_callVp (As := [.int (xs (Int32.toNatClampNeg (nI (5 * t) + (1 : Int32))))]) (rest := []) (b := ad 0) C (xc_S_unload σ (xs (Int32.toNatClampNeg (nI (5 * t) + (1 : Int32)))) _ hm1) rfl (gw_law (gw_V xg_S_unload ml_W_44 im_S_unload se_S_unload wi_S)) na_S_unload rm_law ⟨Nat.le_of_ble_eq_true rfl, Nat.le_of_ble_eq_true rfl⟩ 0 (at_S (rfl : kd_k 0 = 15)) rfl rfl (Nat.le_of_ble_eq_true rfl) xd_W_law_289 ?_
  refine aw_aload_n C 2 xd_W_law_292 rfl rfl ?_
  refine aw_aload_n C 0 xd_W_law_293 rfl rfl ?_
  refine aw_iload_n C 3 xd_W_law_294 rfl rfl ?_
  refine aw_iconst (v := (1 : Int32)) C xd_W_law_295 (by decide) ?_
  refine aw_iadd C xd_W_law_296 ?_
  refine aw_sldL C (wl_in (k := 1) ht hL (by decide)) xd_W_law_297 ?_
  refine aw_swap ?_
  refine aw_callVp (As := [.int (xs (Int32.toNatClampNeg (nI (5 * t) + (1 : Int32))))]) (rest := [.int r]) (b := ar 0) C (xc_R_unload τ (xs (Int32.toNatClampNeg (nI (5 * t) + (1 : Int32)))) _ hm2) rfl (gw_law (gw_V xg_R_unload ml_W_47 im_R_unload se_R_unload wi_R)) na_R_unload rm_law ⟨Nat.le_of_ble_eq_true rfl, Nat.le_of_ble_eq_true rfl⟩ 0 at_R rfl rfl (Nat.le_of_ble_eq_true rfl) xd_W_law_298 ?_
  refine aw_icmp_eq (tgt := 520) C xd_W_law_301 (by decide) (fun _ => ?_) (fun c_0 => absurd rfl c_0)
  exact kk σ2 τ2 hI2
set_option maxHeartbeats 4000000 in
set_option maxRecDepth 100000 in
theorem wc_run {l : Launch} {D : va_G} {ad ar : Nat → Nat} {ids : Nat → ClassId} {ps : Nat} {κ : aw_K} {b Ln : Nat} {xs : Nat → Int32} (IV : Nat → aw_m → aw_m → Prop) (hmo : wl_mono IV) (hs : wl_run IV) (hL : Ln ≤ 2560) (C : aw_X0 l D (ty_z ids) (zs_T ps) room_1 code 4 "ModuleShelfLaw" lw_tbl (wl_E b Ln xs) κ) {t : Nat} (ht : 5 * t + 5 ≤ Ln) {σ τ : aw_m} (hI : IV t σ τ) (kk : ∀ σ2 τ2 : aw_m, IV (t + 1) σ2 τ2 → aw_J κ 164 5322 (cw_w ad ids σ2 ++ rw_w ar ids τ2) [(0, .ref b), (1, .ref (ad 0)), (2, .ref (ar 0)), (3, .int (nI (5 * t)))] 520 []) : aw_J κ 164 5322 (cw_w ad ids σ ++ rw_w ar ids τ) [(0, .ref b), (1, .ref (ad 0)), (2, .ref (ar 0)), (3, .int (nI (5 * t)))] 306 [] := by
  obtain ⟨r, σ2, τ2, hm1, hm2, hI2⟩ := hs t σ τ (xs (Int32.toNatClampNeg (nI (5 * t) + (1 : Int32)))) (xs (Int32.toNatClampNeg (nI (5 * t) + (2 : Int32)))) (xs (Int32.toNatClampNeg (nI (5 * t) + (3 : Int32)))) (xs (Int32.toNatClampNeg (nI (5 * t) + (4 : Int32)))) (by omega) hI
  refine aw_aload_n C 1 xd_W_law_306 rfl rfl ?_
  refine aw_aload_n C 0 xd_W_law_307 rfl rfl ?_
  refine aw_iload_n C 3 xd_W_law_308 rfl rfl ?_
  refine aw_iconst (v := (1 : Int32)) C xd_W_law_309 (by decide) ?_
  refine aw_iadd C xd_W_law_310 ?_
  refine aw_sldL C (wl_in (k := 1) ht hL (by decide)) xd_W_law_311 ?_
  refine aw_aload_n C 0 xd_W_law_312 rfl rfl ?_
  refine aw_iload_n C 3 xd_W_law_313 rfl rfl ?_
  refine aw_iconst (v := (2 : Int32)) C xd_W_law_314 (by decide) ?_
  refine aw_iadd C xd_W_law_315 ?_
  refine aw_sldL C (wl_in (k := 2) ht hL (by decide)) xd_W_law_316 ?_
  refine aw_aload_n C 0 xd_W_law_317 rfl rfl ?_
  refine aw_iload_n C 3 xd_W_law_318 rfl rfl ?_
  refine aw_iconst (v := (3 : Int32)) C xd_W_law_319 (by decide) ?_
  refine aw_iadd C xd_W_law_320 ?_
  refine aw_sldL C (wl_in (k := 3) ht hL (by decide)) xd_W_law_321 ?_
  refine aw_aload_n C 0 xd_W_law_322 rfl rfl ?_
  refine aw_iload_n C 3 xd_W_law_323 rfl rfl ?_
  refine aw_iconst (v := (4 : Int32)) C xd_W_law_324 (by decide) ?_
  refine aw_iadd C xd_W_law_325 ?_
  refine aw_sldL C (wl_in (k := 4) ht hL (by decide)) xd_W_law_326 ?_
  refine aw_swap ?_
  refine aw_callVp (As := [.int (xs (Int32.toNatClampNeg (nI (5 * t) + (1 : Int32)))), .int (xs (Int32.toNatClampNeg (nI (5 * t) + (2 : Int32)))), .int (xs (Int32.toNatClampNeg (nI (5 * t) + (3 : Int32)))), .int (xs (Int32.toNatClampNeg (nI (5 * t) + (4 : Int32))))]) (rest := []) (b := ad 0) C (xc_S_run σ (xs (Int32.toNatClampNeg (nI (5 * t) + (1 : Int32)))) (xs (Int32.toNatClampNeg (nI (5 * t) + (2 : Int32)))) (xs (Int32.toNatClampNeg (nI (5 * t) + (3 : Int32)))) (xs (Int32.toNatClampNeg (nI (5 * t) + (4 : Int32)))) _ hm1) rfl (gw_law (gw_V xg_S_run ml_W_48 im_S_run se_S_run wi_S)) na_S_run rm_law ⟨Nat.le_of_ble_eq_true rfl, Nat.le_of_ble_eq_true rfl⟩ 0 (at_S (rfl : kd_k 0 = 15)) rfl rfl (Nat.le_of_ble_eq_true rfl) xd_W_law_327 ?_
  refine aw_aload_n C 2 xd_W_law_330 rfl rfl ?_
  refine aw_aload_n C 0 xd_W_law_331 rfl rfl ?_
  refine aw_iload_n C 3 xd_W_law_332 rfl rfl ?_
  refine aw_iconst (v := (1 : Int32)) C xd_W_law_333 (by decide) ?_
  refine aw_iadd C xd_W_law_334 ?_
  refine aw_sldL C (wl_in (k := 1) ht hL (by decide)) xd_W_law_335 ?_
  refine aw_aload_n C 0 xd_W_law_336 rfl rfl ?_
  refine aw_iload_n C 3 xd_W_law_337 rfl rfl ?_
  refine aw_iconst (v := (2 : Int32)) C xd_W_law_338 (by decide) ?_
  refine aw_iadd C xd_W_law_339 ?_
  refine aw_sldL C (wl_in (k := 2) ht hL (by decide)) xd_W_law_340 ?_
  refine aw_aload_n C 0 xd_W_law_341 rfl rfl ?_
  refine aw_iload_n C 3 xd_W_law_342 rfl rfl ?_
  refine aw_iconst (v := (3 : Int32)) C xd_W_law_343 (by decide) ?_
  refine aw_iadd C xd_W_law_344 ?_
  refine aw_sldL C (wl_in (k := 3) ht hL (by decide)) xd_W_law_345 ?_
  refine aw_aload_n C 0 xd_W_law_346 rfl rfl ?_
  refine aw_iload_n C 3 xd_W_law_347 rfl rfl ?_
  refine aw_iconst (v := (4 : Int32)) C xd_W_law_348 (by decide) ?_
  refine aw_iadd C xd_W_law_349 ?_
  refine aw_sldL C (wl_in (k := 4) ht hL (by decide)) xd_W_law_350 ?_
  refine aw_swap ?_
  refine aw_callVp (As := [.int (xs (Int32.toNatClampNeg (nI (5 * t) + (1 : Int32)))), .int (xs (Int32.toNatClampNeg (nI (5 * t) + (2 : Int32)))), .int (xs (Int32.toNatClampNeg (nI (5 * t) + (3 : Int32)))), .int (xs (Int32.toNatClampNeg (nI (5 * t) + (4 : Int32))))]) (rest := [.int r]) (b := ar 0) C (xc_R_run τ (xs (Int32.toNatClampNeg (nI (5 * t) + (1 : Int32)))) (xs (Int32.toNatClampNeg (nI (5 * t) + (2 : Int32)))) (xs (Int32.toNatClampNeg (nI (5 * t) + (3 : Int32)))) (xs (Int32.toNatClampNeg (nI (5 * t) + (4 : Int32)))) _ hm2) rfl (gw_law (gw_V xg_R_run ml_W_52 im_R_run se_R_run wi_R)) na_R_run rm_law ⟨Nat.le_of_ble_eq_true rfl, Nat.le_of_ble_eq_true rfl⟩ 0 at_R rfl rfl (Nat.le_of_ble_eq_true rfl) xd_W_law_351 ?_
  refine aw_icmp_eq (tgt := 520) C xd_W_law_354 (by decide) (fun _ => ?_) (fun c_0 => absurd rfl c_0)
  exact kk σ2 τ2 hI2
set_option maxHeartbeats 4000000 in
set_option maxRecDepth 100000 in
theorem wc_value {l : Launch} {D : va_G} {ad ar : Nat → Nat} {ids : Nat → ClassId} {ps : Nat} {κ : aw_K} {b Ln : Nat} {xs : Nat → Int32} (IV : Nat → aw_m → aw_m → Prop) (hmo : wl_mono IV) (hs : wl_value IV) (hL : Ln ≤ 2560) (C : aw_X0 l D (ty_z ids) (zs_T ps) room_1 code 4 "ModuleShelfLaw" lw_tbl (wl_E b Ln xs) κ) {t : Nat} (ht : 5 * t + 5 ≤ Ln) {σ τ : aw_m} (hI : IV t σ τ) (kk : ∀ σ2 τ2 : aw_m, IV (t + 1) σ2 τ2 → aw_J κ 164 5322 (cw_w ad ids σ2 ++ rw_w ar ids τ2) [(0, .ref b), (1, .ref (ad 0)), (2, .ref (ar 0)), (3, .int (nI (5 * t)))] 520 []) : aw_J κ 164 5322 (cw_w ad ids σ ++ rw_w ar ids τ) [(0, .ref b), (1, .ref (ad 0)), (2, .ref (ar 0)), (3, .int (nI (5 * t)))] 359 [] := by
  obtain ⟨r, hm1, hm2⟩ := hs t σ τ  (by omega) hI
  refine aw_aload_n C 1 xd_W_law_359 rfl rfl ?_
  refine aw_swap ?_
  refine aw_callVp (As := []) (rest := []) (b := ad 0) C (xc_S_value σ  _ hm1) rfl (gw_law (gw_V xg_S_value ml_W_53 im_S_value se_S_value wi_S)) na_S_value rm_law ⟨Nat.le_of_ble_eq_true rfl, Nat.le_of_ble_eq_true rfl⟩ 0 (at_S (rfl : kd_k 0 = 15)) rfl rfl (Nat.le_of_ble_eq_true rfl) xd_W_law_360 ?_
  refine aw_aload_n C 2 xd_W_law_363 rfl rfl ?_
  refine aw_swap ?_
  refine aw_callVp (As := []) (rest := [.int r]) (b := ar 0) C (xc_R_value τ  _ hm2) rfl (gw_law (gw_V xg_R_value ml_W_56 im_R_value se_R_value wi_R)) na_R_value rm_law ⟨Nat.le_of_ble_eq_true rfl, Nat.le_of_ble_eq_true rfl⟩ 0 at_R rfl rfl (Nat.le_of_ble_eq_true rfl) xd_W_law_364 ?_
  refine aw_icmp_eq (tgt := 520) C xd_W_law_367 (by decide) (fun _ => ?_) (fun c_0 => absurd rfl c_0)
  exact kk σ τ (hmo t σ τ hI)
set_option maxHeartbeats 4000000 in
set_option maxRecDepth 100000 in
theorem wc_steps {l : Launch} {D : va_G} {ad ar : Nat → Nat} {ids : Nat → ClassId} {ps : Nat} {κ : aw_K} {b Ln : Nat} {xs : Nat → Int32} (IV : Nat → aw_m → aw_m → Prop) (hmo : wl_mono IV) (hs : wl_steps IV) (hL : Ln ≤ 2560) (C : aw_X0 l D (ty_z ids) (zs_T ps) room_1 code 4 "ModuleShelfLaw" lw_tbl (wl_E b Ln xs) κ) {t : Nat} (ht : 5 * t + 5 ≤ Ln) {σ τ : aw_m} (hI : IV t σ τ) (kk : ∀ σ2 τ2 : aw_m, IV (t + 1) σ2 τ2 → aw_J κ 164 5322 (cw_w ad ids σ2 ++ rw_w ar ids τ2) [(0, .ref b), (1, .ref (ad 0)), (2, .ref (ar 0)), (3, .int (nI (5 * t)))] 520 []) : aw_J κ 164 5322 (cw_w ad ids σ ++ rw_w ar ids τ) [(0, .ref b), (1, .ref (ad 0)), (2, .ref (ar 0)), (3, .int (nI (5 * t)))] 372 [] := by
  obtain ⟨r, hm1, hm2⟩ := hs t σ τ  (by omega) hI
  refine aw_aload_n C 1 xd_W_law_372 rfl rfl ?_
  refine aw_swap ?_
  refine aw_callVp (As := []) (rest := []) (b := ad 0) C (xc_S_steps σ  _ hm1) rfl (gw_law (gw_V xg_S_steps ml_W_57 im_S_steps se_S_steps wi_S)) na_S_steps rm_law ⟨Nat.le_of_ble_eq_true rfl, Nat.le_of_ble_eq_true rfl⟩ 0 (at_S (rfl : kd_k 0 = 15)) rfl rfl (Nat.le_of_ble_eq_true rfl) xd_W_law_373 ?_
  refine aw_aload_n C 2 xd_W_law_376 rfl rfl ?_
  refine aw_swap ?_
  refine aw_callVp (As := []) (rest := [.int r]) (b := ar 0) C (xc_R_steps τ  _ hm2) rfl (gw_law (gw_V xg_R_steps ml_W_60 im_R_steps se_R_steps wi_R)) na_R_steps rm_law ⟨Nat.le_of_ble_eq_true rfl, Nat.le_of_ble_eq_true rfl⟩ 0 at_R rfl rfl (Nat.le_of_ble_eq_true rfl) xd_W_law_377 ?_
  refine aw_icmp_eq (tgt := 520) C xd_W_law_380 (by decide) (fun _ => ?_) (fun c_0 => absurd rfl c_0)
  exact kk σ τ (hmo t σ τ hI)
set_option maxHeartbeats 4000000 in
set_option maxRecDepth 100000 in
theorem wc_variable {l : Launch} {D : va_G} {ad ar : Nat → Nat} {ids : Nat → ClassId} {ps : Nat} {κ : aw_K} {b Ln : Nat} {xs : Nat → Int32} (IV : Nat → aw_m → aw_m → Prop) (hmo : wl_mono IV) (hs : wl_variable IV) (hL : Ln ≤ 2560) (C : aw_X0 l D (ty_z ids) (zs_T ps) room_1 code 4 "ModuleShelfLaw" lw_tbl (wl_E b Ln xs) κ) {t : Nat} (ht : 5 * t + 5 ≤ Ln) {σ τ : aw_m} (hI : IV t σ τ) (kk : ∀ σ2 τ2 : aw_m, IV (t + 1) σ2 τ2 → aw_J κ 164 5322 (cw_w ad ids σ2 ++ rw_w ar ids τ2) [(0, .ref b), (1, .ref (ad 0)), (2, .ref (ar 0)), (3, .int (nI (5 * t)))] 520 []) : aw_J κ 164 5322 (cw_w ad ids σ ++ rw_w ar ids τ) [(0, .ref b), (1, .ref (ad 0)), (2, .ref (ar 0)), (3, .int (nI (5 * t)))] 385 [] := by
  obtain ⟨r, hm1, hm2⟩ := hs t σ τ (xs (Int32.toNatClampNeg (nI (5 * t) + (1 : Int32)))) (xs (Int32.toNatClampNeg (nI (5 * t) + (2 : Int32)))) (by omega) hI
  refine aw_aload_n C 1 xd_W_law_385 rfl rfl ?_
  refine aw_aload_n C 0 xd_W_law_386 rfl rfl ?_
  refine aw_iload_n C 3 xd_W_law_387 rfl rfl ?_
  refine aw_iconst (v := (1 : Int32)) C xd_W_law_388 (by decide) ?_
  refine aw_iadd C xd_W_law_389 ?_
  refine aw_sldL C (wl_in (k := 1) ht hL (by decide)) xd_W_law_390 ?_
  refine aw_aload_n C 0 xd_W_law_391 rfl rfl ?_
  refine aw_iload_n C 3 xd_W_law_392 rfl rfl ?_
  refine aw_iconst (v := (2 : Int32)) C xd_W_law_393 (by decide) ?_
  refine aw_iadd C xd_W_law_394 ?_
  refine aw_sldL C (wl_in (k := 2) ht hL (by decide)) xd_W_law_395 ?_
  refine aw_swap ?_
  refine aw_callVp (As := [.int (xs (Int32.toNatClampNeg (nI (5 * t) + (1 : Int32)))), .int (xs (Int32.toNatClampNeg (nI (5 * t) + (2 : Int32))))]) (rest := []) (b := ad 0) C (xc_S_variable σ (xs (Int32.toNatClampNeg (nI (5 * t) + (1 : Int32)))) (xs (Int32.toNatClampNeg (nI (5 * t) + (2 : Int32)))) _ hm1) rfl (gw_law (gw_V xg_S_variable ml_W_61 im_S_variable se_S_variable wi_S)) na_S_variable rm_law ⟨Nat.le_of_ble_eq_true rfl, Nat.le_of_ble_eq_true rfl⟩ 0 (at_S (rfl : kd_k 0 = 15)) rfl rfl (Nat.le_of_ble_eq_true rfl) xd_W_law_396 ?_
  refine aw_aload_n C 2 xd_W_law_399 rfl rfl ?_
  refine aw_aload_n C 0 xd_W_law_400 rfl rfl ?_
  refine aw_iload_n C 3 xd_W_law_401 rfl rfl ?_
  refine aw_iconst (v := (1 : Int32)) C xd_W_law_402 (by decide) ?_
  refine aw_iadd C xd_W_law_403 ?_
  refine aw_sldL C (wl_in (k := 1) ht hL (by decide)) xd_W_law_404 ?_
  refine aw_aload_n C 0 xd_W_law_405 rfl rfl ?_
  refine aw_iload_n C 3 xd_W_law_406 rfl rfl ?_
  refine aw_iconst (v := (2 : Int32)) C xd_W_law_407 (by decide) ?_
  refine aw_iadd C xd_W_law_408 ?_
  refine aw_sldL C (wl_in (k := 2) ht hL (by decide)) xd_W_law_409 ?_
  refine aw_swap ?_
  refine aw_callVp (As := [.int (xs (Int32.toNatClampNeg (nI (5 * t) + (1 : Int32)))), .int (xs (Int32.toNatClampNeg (nI (5 * t) + (2 : Int32))))]) (rest := [.int r]) (b := ar 0) C (xc_R_variable τ (xs (Int32.toNatClampNeg (nI (5 * t) + (1 : Int32)))) (xs (Int32.toNatClampNeg (nI (5 * t) + (2 : Int32)))) _ hm2) rfl (gw_law (gw_V xg_R_variable ml_W_65 im_R_variable se_R_variable wi_R)) na_R_variable rm_law ⟨Nat.le_of_ble_eq_true rfl, Nat.le_of_ble_eq_true rfl⟩ 0 at_R rfl rfl (Nat.le_of_ble_eq_true rfl) xd_W_law_410 ?_
  refine aw_icmp_eq (tgt := 520) C xd_W_law_413 (by decide) (fun _ => ?_) (fun c_0 => absurd rfl c_0)
  exact kk σ τ (hmo t σ τ hI)
set_option maxHeartbeats 4000000 in
set_option maxRecDepth 100000 in
theorem wc_key {l : Launch} {D : va_G} {ad ar : Nat → Nat} {ids : Nat → ClassId} {ps : Nat} {κ : aw_K} {b Ln : Nat} {xs : Nat → Int32} (IV : Nat → aw_m → aw_m → Prop) (hmo : wl_mono IV) (hs : wl_key IV) (hL : Ln ≤ 2560) (C : aw_X0 l D (ty_z ids) (zs_T ps) room_1 code 4 "ModuleShelfLaw" lw_tbl (wl_E b Ln xs) κ) {t : Nat} (ht : 5 * t + 5 ≤ Ln) {σ τ : aw_m} (hI : IV t σ τ) (kk : ∀ σ2 τ2 : aw_m, IV (t + 1) σ2 τ2 → aw_J κ 164 5322 (cw_w ad ids σ2 ++ rw_w ar ids τ2) [(0, .ref b), (1, .ref (ad 0)), (2, .ref (ar 0)), (3, .int (nI (5 * t)))] 520 []) : aw_J κ 164 5322 (cw_w ad ids σ ++ rw_w ar ids τ) [(0, .ref b), (1, .ref (ad 0)), (2, .ref (ar 0)), (3, .int (nI (5 * t)))] 418 [] := by
  obtain ⟨r, hm1, hm2⟩ := hs t σ τ (xs (Int32.toNatClampNeg (nI (5 * t) + (1 : Int32)))) (by omega) hI
  refine aw_aload_n C 1 xd_W_law_418 rfl rfl ?_
  refine aw_aload_n C 0 xd_W_law_419 rfl rfl ?_
  refine aw_iload_n C 3 xd_W_law_420 rfl rfl ?_
  refine aw_iconst (v := (1 : Int32)) C xd_W_law_421 (by decide) ?_
  refine aw_iadd C xd_W_law_422 ?_
  refine aw_sldL C (wl_in (k := 1) ht hL (by decide)) xd_W_law_423 ?_
  refine aw_swap ?_
  refine aw_callVp (As := [.int (xs (Int32.toNatClampNeg (nI (5 * t) + (1 : Int32))))]) (rest := []) (b := ad 0) C (xc_S_key σ (xs (Int32.toNatClampNeg (nI (5 * t) + (1 : Int32)))) _ hm1) rfl (gw_law (gw_V xg_S_key ml_W_66 im_S_key se_S_key wi_S)) na_S_key rm_law ⟨Nat.le_of_ble_eq_true rfl, Nat.le_of_ble_eq_true rfl⟩ 0 (at_S (rfl : kd_k 0 = 15)) rfl rfl (Nat.le_of_ble_eq_true rfl) xd_W_law_424 ?_
  refine aw_aload_n C 2 xd_W_law_427 rfl rfl ?_
  refine aw_aload_n C 0 xd_W_law_428 rfl rfl ?_
  refine aw_iload_n C 3 xd_W_law_429 rfl rfl ?_
  refine aw_iconst (v := (1 : Int32)) C xd_W_law_430 (by decide) ?_
  refine aw_iadd C xd_W_law_431 ?_
  refine aw_sldL C (wl_in (k := 1) ht hL (by decide)) xd_W_law_432 ?_
  refine aw_swap ?_
  refine aw_callVp (As := [.int (xs (Int32.toNatClampNeg (nI (5 * t) + (1 : Int32))))]) (rest := [.int r]) (b := ar 0) C (xc_R_key τ (xs (Int32.toNatClampNeg (nI (5 * t) + (1 : Int32)))) _ hm2) rfl (gw_law (gw_V xg_R_key ml_W_69 im_R_key se_R_key wi_R)) na_R_key rm_law ⟨Nat.le_of_ble_eq_true rfl, Nat.le_of_ble_eq_true rfl⟩ 0 at_R rfl rfl (Nat.le_of_ble_eq_true rfl) xd_W_law_433 ?_
  refine aw_icmp_eq (tgt := 520) C xd_W_law_436 (by decide) (fun _ => ?_) (fun c_0 => absurd rfl c_0)
  exact kk σ τ (hmo t σ τ hI)
set_option maxHeartbeats 4000000 in
set_option maxRecDepth 100000 in
theorem wc_loaded {l : Launch} {D : va_G} {ad ar : Nat → Nat} {ids : Nat → ClassId} {ps : Nat} {κ : aw_K} {b Ln : Nat} {xs : Nat → Int32} (IV : Nat → aw_m → aw_m → Prop) (hmo : wl_mono IV) (hs : wl_loaded IV) (hL : Ln ≤ 2560) (C : aw_X0 l D (ty_z ids) (zs_T ps) room_1 code 4 "ModuleShelfLaw" lw_tbl (wl_E b Ln xs) κ) {t : Nat} (ht : 5 * t + 5 ≤ Ln) {σ τ : aw_m} (hI : IV t σ τ) (kk : ∀ σ2 τ2 : aw_m, IV (t + 1) σ2 τ2 → aw_J κ 164 5322 (cw_w ad ids σ2 ++ rw_w ar ids τ2) [(0, .ref b), (1, .ref (ad 0)), (2, .ref (ar 0)), (3, .int (nI (5 * t)))] 520 []) : aw_J κ 164 5322 (cw_w ad ids σ ++ rw_w ar ids τ) [(0, .ref b), (1, .ref (ad 0)), (2, .ref (ar 0)), (3, .int (nI (5 * t)))] 441 [] := by
  obtain ⟨r, hm1, hm2⟩ := hs t σ τ (xs (Int32.toNatClampNeg (nI (5 * t) + (1 : Int32)))) (by omega) hI
  refine aw_aload_n C 1 xd_W_law_441 rfl rfl ?_
  refine aw_aload_n C 0 xd_W_law_442 rfl rfl ?_
  refine aw_iload_n C 3 xd_W_law_443 rfl rfl ?_
  refine aw_iconst (v := (1 : Int32)) C xd_W_law_444 (by decide) ?_
  refine aw_iadd C xd_W_law_445 ?_
  refine aw_sldL C (wl_in (k := 1) ht hL (by decide)) xd_W_law_446 ?_
  refine aw_swap ?_
  refine aw_callVp (As := [.int (xs (Int32.toNatClampNeg (nI (5 * t) + (1 : Int32))))]) (rest := []) (b := ad 0) C (xc_S_loaded σ (xs (Int32.toNatClampNeg (nI (5 * t) + (1 : Int32)))) _ hm1) rfl (gw_law (gw_V xg_S_loaded ml_W_70 im_S_loaded se_S_loaded wi_S)) na_S_loaded rm_law ⟨Nat.le_of_ble_eq_true rfl, Nat.le_of_ble_eq_true rfl⟩ 0 (at_S (rfl : kd_k 0 = 15)) rfl rfl (Nat.le_of_ble_eq_true rfl) xd_W_law_447 ?_
  refine aw_aload_n C 2 xd_W_law_450 rfl rfl ?_
  refine aw_aload_n C 0 xd_W_law_451 rfl rfl ?_
  refine aw_iload_n C 3 xd_W_law_452 rfl rfl ?_
  refine aw_iconst (v := (1 : Int32)) C xd_W_law_453 (by decide) ?_
  refine aw_iadd C xd_W_law_454 ?_
  refine aw_sldL C (wl_in (k := 1) ht hL (by decide)) xd_W_law_455 ?_
  refine aw_swap ?_
  refine aw_callVp (As := [.int (xs (Int32.toNatClampNeg (nI (5 * t) + (1 : Int32))))]) (rest := [.int r]) (b := ar 0) C (xc_R_loaded τ (xs (Int32.toNatClampNeg (nI (5 * t) + (1 : Int32)))) _ hm2) rfl (gw_law (gw_V xg_R_loaded ml_W_73 im_R_loaded se_R_loaded wi_R)) na_R_loaded rm_law ⟨Nat.le_of_ble_eq_true rfl, Nat.le_of_ble_eq_true rfl⟩ 0 at_R rfl rfl (Nat.le_of_ble_eq_true rfl) xd_W_law_456 ?_
  refine aw_icmp_eq (tgt := 520) C xd_W_law_459 (by decide) (fun _ => ?_) (fun c_0 => absurd rfl c_0)
  exact kk σ τ (hmo t σ τ hI)
set_option maxHeartbeats 4000000 in
set_option maxRecDepth 100000 in
theorem wc_imported {l : Launch} {D : va_G} {ad ar : Nat → Nat} {ids : Nat → ClassId} {ps : Nat} {κ : aw_K} {b Ln : Nat} {xs : Nat → Int32} (IV : Nat → aw_m → aw_m → Prop) (hmo : wl_mono IV) (hs : wl_imported IV) (hL : Ln ≤ 2560) (C : aw_X0 l D (ty_z ids) (zs_T ps) room_1 code 4 "ModuleShelfLaw" lw_tbl (wl_E b Ln xs) κ) {t : Nat} (ht : 5 * t + 5 ≤ Ln) {σ τ : aw_m} (hI : IV t σ τ) (kk : ∀ σ2 τ2 : aw_m, IV (t + 1) σ2 τ2 → aw_J κ 164 5322 (cw_w ad ids σ2 ++ rw_w ar ids τ2) [(0, .ref b), (1, .ref (ad 0)), (2, .ref (ar 0)), (3, .int (nI (5 * t)))] 520 []) : aw_J κ 164 5322 (cw_w ad ids σ ++ rw_w ar ids τ) [(0, .ref b), (1, .ref (ad 0)), (2, .ref (ar 0)), (3, .int (nI (5 * t)))] 464 [] := by
  obtain ⟨r, hm1, hm2⟩ := hs t σ τ (xs (Int32.toNatClampNeg (nI (5 * t) + (1 : Int32)))) (xs (Int32.toNatClampNeg (nI (5 * t) + (2 : Int32)))) (by omega) hI
  refine aw_aload_n C 1 xd_W_law_464 rfl rfl ?_
  refine aw_aload_n C 0 xd_W_law_465 rfl rfl ?_
  refine aw_iload_n C 3 xd_W_law_466 rfl rfl ?_
  refine aw_iconst (v := (1 : Int32)) C xd_W_law_467 (by decide) ?_
  refine aw_iadd C xd_W_law_468 ?_
  refine aw_sldL C (wl_in (k := 1) ht hL (by decide)) xd_W_law_469 ?_
  refine aw_aload_n C 0 xd_W_law_470 rfl rfl ?_
  refine aw_iload_n C 3 xd_W_law_471 rfl rfl ?_
  refine aw_iconst (v := (2 : Int32)) C xd_W_law_472 (by decide) ?_
  refine aw_iadd C xd_W_law_473 ?_
  refine aw_sldL C (wl_in (k := 2) ht hL (by decide)) xd_W_law_474 ?_
  refine aw_swap ?_
  refine aw_callVp (As := [.int (xs (Int32.toNatClampNeg (nI (5 * t) + (1 : Int32)))), .int (xs (Int32.toNatClampNeg (nI (5 * t) + (2 : Int32))))]) (rest := []) (b := ad 0) C (xc_S_imported σ (xs (Int32.toNatClampNeg (nI (5 * t) + (1 : Int32)))) (xs (Int32.toNatClampNeg (nI (5 * t) + (2 : Int32)))) _ hm1) rfl (gw_law (gw_V xg_S_imported ml_W_74 im_S_imported se_S_imported wi_S)) na_S_imported rm_law ⟨Nat.le_of_ble_eq_true rfl, Nat.le_of_ble_eq_true rfl⟩ 0 (at_S (rfl : kd_k 0 = 15)) rfl rfl (Nat.le_of_ble_eq_true rfl) xd_W_law_475 ?_
  refine aw_aload_n C 2 xd_W_law_478 rfl rfl ?_
  refine aw_aload_n C 0 xd_W_law_479 rfl rfl ?_
  refine aw_iload_n C 3 xd_W_law_480 rfl rfl ?_
  refine aw_iconst (v := (1 : Int32)) C xd_W_law_481 (by decide) ?_
  refine aw_iadd C xd_W_law_482 ?_
  refine aw_sldL C (wl_in (k := 1) ht hL (by decide)) xd_W_law_483 ?_
  refine aw_aload_n C 0 xd_W_law_484 rfl rfl ?_
  refine aw_iload_n C 3 xd_W_law_485 rfl rfl ?_
  refine aw_iconst (v := (2 : Int32)) C xd_W_law_486 (by decide) ?_
  refine aw_iadd C xd_W_law_487 ?_
  refine aw_sldL C (wl_in (k := 2) ht hL (by decide)) xd_W_law_488 ?_
  refine aw_swap ?_
  refine aw_callVp (As := [.int (xs (Int32.toNatClampNeg (nI (5 * t) + (1 : Int32)))), .int (xs (Int32.toNatClampNeg (nI (5 * t) + (2 : Int32))))]) (rest := [.int r]) (b := ar 0) C (xc_R_imported τ (xs (Int32.toNatClampNeg (nI (5 * t) + (1 : Int32)))) (xs (Int32.toNatClampNeg (nI (5 * t) + (2 : Int32)))) _ hm2) rfl (gw_law (gw_V xg_R_imported ml_W_77 im_R_imported se_R_imported wi_R)) na_R_imported rm_law ⟨Nat.le_of_ble_eq_true rfl, Nat.le_of_ble_eq_true rfl⟩ 0 at_R rfl rfl (Nat.le_of_ble_eq_true rfl) xd_W_law_489 ?_
  refine aw_icmp_eq (tgt := 520) C xd_W_law_492 (by decide) (fun _ => ?_) (fun c_0 => absurd rfl c_0)
  exact kk σ τ (hmo t σ τ hI)
set_option maxHeartbeats 4000000 in
set_option maxRecDepth 100000 in
theorem wc_count {l : Launch} {D : va_G} {ad ar : Nat → Nat} {ids : Nat → ClassId} {ps : Nat} {κ : aw_K} {b Ln : Nat} {xs : Nat → Int32} (IV : Nat → aw_m → aw_m → Prop) (hmo : wl_mono IV) (hs : wl_count IV) (hL : Ln ≤ 2560) (C : aw_X0 l D (ty_z ids) (zs_T ps) room_1 code 4 "ModuleShelfLaw" lw_tbl (wl_E b Ln xs) κ) {t : Nat} (ht : 5 * t + 5 ≤ Ln) {σ τ : aw_m} (hI : IV t σ τ) (kk : ∀ σ2 τ2 : aw_m, IV (t + 1) σ2 τ2 → aw_J κ 164 5322 (cw_w ad ids σ2 ++ rw_w ar ids τ2) [(0, .ref b), (1, .ref (ad 0)), (2, .ref (ar 0)), (3, .int (nI (5 * t)))] 520 []) : aw_J κ 164 5322 (cw_w ad ids σ ++ rw_w ar ids τ) [(0, .ref b), (1, .ref (ad 0)), (2, .ref (ar 0)), (3, .int (nI (5 * t)))] 497 [] := by
  obtain ⟨r, hm1, hm2⟩ := hs t σ τ (xs (Int32.toNatClampNeg (nI (5 * t) + (1 : Int32)))) (by omega) hI
  refine aw_aload_n C 1 xd_W_law_497 rfl rfl ?_
  refine aw_aload_n C 0 xd_W_law_498 rfl rfl ?_
  refine aw_iload_n C 3 xd_W_law_499 rfl rfl ?_
  refine aw_iconst (v := (1 : Int32)) C xd_W_law_500 (by decide) ?_
  refine aw_iadd C xd_W_law_501 ?_
  refine aw_sldL C (wl_in (k := 1) ht hL (by decide)) xd_W_law_502 ?_
  refine aw_swap ?_
  refine aw_callVp (As := [.int (xs (Int32.toNatClampNeg (nI (5 * t) + (1 : Int32))))]) (rest := []) (b := ad 0) C (xc_S_count σ (xs (Int32.toNatClampNeg (nI (5 * t) + (1 : Int32)))) _ hm1) rfl (gw_law (gw_V xg_S_count ml_W_78 im_S_count se_S_count wi_S)) na_S_count rm_law ⟨Nat.le_of_ble_eq_true rfl, Nat.le_of_ble_eq_true rfl⟩ 0 (at_S (rfl : kd_k 0 = 15)) rfl rfl (Nat.le_of_ble_eq_true rfl) xd_W_law_503 ?_
  refine aw_aload_n C 2 xd_W_law_506 rfl rfl ?_
  refine aw_aload_n C 0 xd_W_law_507 rfl rfl ?_
  refine aw_iload_n C 3 xd_W_law_508 rfl rfl ?_
  refine aw_iconst (v := (1 : Int32)) C xd_W_law_509 (by decide) ?_
  refine aw_iadd C xd_W_law_510 ?_
  refine aw_sldL C (wl_in (k := 1) ht hL (by decide)) xd_W_law_511 ?_
  refine aw_swap ?_
  refine aw_callVp (As := [.int (xs (Int32.toNatClampNeg (nI (5 * t) + (1 : Int32))))]) (rest := [.int r]) (b := ar 0) C (xc_R_count τ (xs (Int32.toNatClampNeg (nI (5 * t) + (1 : Int32)))) _ hm2) rfl (gw_law (gw_V xg_R_count ml_W_81 im_R_count se_R_count wi_R)) na_R_count rm_law ⟨Nat.le_of_ble_eq_true rfl, Nat.le_of_ble_eq_true rfl⟩ 0 at_R rfl rfl (Nat.le_of_ble_eq_true rfl) xd_W_law_512 ?_
  refine aw_icmp_eq (tgt := 520) C xd_W_law_515 (by decide) (fun _ => ?_) (fun c_0 => absurd rfl c_0)
  exact kk σ τ (hmo t σ τ hI)
def wl_sim (IV : Nat → aw_m → aw_m → Prop) : Prop := wl_mono IV ∧ wl_begin IV ∧ wl_procedure IV ∧ wl_token IV ∧ wl_compile IV ∧ wl_place IV ∧ wl_remove IV ∧ wl_load IV ∧ wl_unload IV ∧ wl_run IV ∧ wl_value IV ∧ wl_steps IV ∧ wl_variable IV ∧ wl_key IV ∧ wl_loaded IV ∧ wl_imported IV ∧ wl_count IV
set_option maxHeartbeats 4000000 in
set_option maxRecDepth 100000 in
theorem wl_loop {l : Launch} {D : va_G} {ad ar : Nat → Nat} {ids : Nat → ClassId} {ps : Nat} {κ : aw_K} {b Ln : Nat} {xs : Nat → Int32} (IV : Nat → aw_m → aw_m → Prop) (hs : wl_sim IV) (hL : Ln ≤ 2560) (C : aw_X0 l D (ty_z ids) (zs_T ps) room_1 code 4 "ModuleShelfLaw" lw_tbl (wl_E b Ln xs) κ) : ∀ (n t : Nat) (σ τ : aw_m), 5 * t ≤ Ln + 5 → Ln + 5 < 5 * (t + n) → IV t σ τ → aw_J κ 164 5322 (cw_w ad ids σ ++ rw_w ar ids τ) [(0, .ref b), (1, .ref (ad 0)), (2, .ref (ar 0)), (3, .int (nI (5 * t)))] 18 [] := by
  obtain ⟨hmo, s_begin, s_procedure, s_token, s_compile, s_place, s_remove, s_load, s_unload, s_run, s_value, s_steps, s_variable, s_key, s_loaded, s_imported, s_count⟩ := hs
  intro n
  induction n with
  | zero => intro t σ τ h1 h2; omega
  | succ n ih =>
    intro t σ τ h1 h2 hI
    have hnext : ∀ σ2 τ2 : aw_m, IV (t + 1) σ2 τ2 → 5 * t + 5 ≤ Ln → aw_J κ 164 5322 (cw_w ad ids σ2 ++ rw_w ar ids τ2) [(0, .ref b), (1, .ref (ad 0)), (2, .ref (ar 0)), (3, .int (nI (5 * t)))] 520 [] := by
      intro σ2 τ2 hI2 ht
      refine aw_iinc (j := 3) (v := nI (5 * (t + 1))) (L' := [(3, .int (nI (5 * (t + 1)))), (0, .ref b), (1, .ref (ad 0)), (2, .ref (ar 0))]) C xd_W_law_520 rfl (by show nI (5 * t) + nI 5 = _; rw [nI_add]; rfl) (by decide) rfl ?_
      refine aw_goto (tgt := 18) C xd_W_law_523 (by decide) ?_
      refine aw_loc (L' := [(0, .ref b), (1, .ref (ad 0)), (2, .ref (ar 0)), (3, .int (nI (5 * (t + 1))))]) C [1, 2, 3, 0] rfl ?_
      exact ih (t + 1) σ2 τ2 (by omega) (by omega) hI2
    refine aw_iload_n C 3 xd_W_law_18 rfl rfl ?_
    refine aw_aload_n C 0 xd_W_law_19 rfl rfl ?_
    refine aw_slenL C xd_W_law_20 ?_
    refine aw_iconst (v := (5 : Int32)) C xd_W_law_21 (by decide) ?_
    refine aw_isub C xd_W_law_22 ?_
    refine aw_icmp_gt (tgt := 526) C xd_W_law_23 (by decide) (fun c_23 => ?_) (fun c_23 => ?_)
    · refine aw_iconst (v := (1 : Int32)) C xd_W_law_526 (by decide) ?_
      refine aw_wid (c2 := 600000) (s2 := 7302250) (Nat.le_of_ble_eq_true rfl) (Nat.le_of_ble_eq_true rfl) ?_
      exact aw_retL C xd_W_law_527
    have ht := wl_ge hL (by omega) c_23
    refine aw_aload_n C 0 xd_W_law_26 rfl rfl ?_
    refine aw_iload_n C 3 xd_W_law_27 rfl rfl ?_
    refine aw_sldL C (wl_in0 ht hL) xd_W_law_28 ?_
    refine aw_bipush (v := (15 : Int32)) C xd_W_law_29 (by decide) ?_
    refine aw_iand C xd_W_law_31 ?_
    generalize xs (Int32.toNatClampNeg (nI (5 * t))) &&& (15 : Int32) = y
    by_cases c_0 : y = (0 : Int32)
    · refine aw_tabIn (off := 80) (tgt := 112) C xd_W_law_32 (by rw [c_0]; decide) (by rw [c_0]; decide) (by rw [c_0]; rfl) (by decide) ?_
      exact wc_begin IV hmo s_begin hL C ht hI (fun σ2 τ2 h => hnext σ2 τ2 h ht)
    by_cases c_1 : y = (1 : Int32)
    · refine aw_tabIn (off := 103) (tgt := 135) C xd_W_law_32 (by rw [c_1]; decide) (by rw [c_1]; decide) (by rw [c_1]; rfl) (by decide) ?_
      exact wc_procedure IV hmo s_procedure hL C ht hI (fun σ2 τ2 h => hnext σ2 τ2 h ht)
    by_cases c_2 : y = (2 : Int32)
    · refine aw_tabIn (off := 126) (tgt := 158) C xd_W_law_32 (by rw [c_2]; decide) (by rw [c_2]; decide) (by rw [c_2]; rfl) (by decide) ?_
      exact wc_token IV hmo s_token hL C ht hI (fun σ2 τ2 h => hnext σ2 τ2 h ht)
    by_cases c_3 : y = (3 : Int32)
    · refine aw_tabIn (off := 169) (tgt := 201) C xd_W_law_32 (by rw [c_3]; decide) (by rw [c_3]; decide) (by rw [c_3]; rfl) (by decide) ?_
      exact wc_compile IV hmo s_compile hL C ht hI (fun σ2 τ2 h => hnext σ2 τ2 h ht)
    by_cases c_4 : y = (4 : Int32)
    · refine aw_tabIn (off := 192) (tgt := 224) C xd_W_law_32 (by rw [c_4]; decide) (by rw [c_4]; decide) (by rw [c_4]; rfl) (by decide) ?_
      exact wc_place IV hmo s_place hL C ht hI (fun σ2 τ2 h => hnext σ2 τ2 h ht)
    by_cases c_5 : y = (5 : Int32)
    · refine aw_tabIn (off := 205) (tgt := 237) C xd_W_law_32 (by rw [c_5]; decide) (by rw [c_5]; decide) (by rw [c_5]; rfl) (by decide) ?_
      exact wc_remove IV hmo s_remove hL C ht hI (fun σ2 τ2 h => hnext σ2 τ2 h ht)
    by_cases c_6 : y = (6 : Int32)
    · refine aw_tabIn (off := 228) (tgt := 260) C xd_W_law_32 (by rw [c_6]; decide) (by rw [c_6]; decide) (by rw [c_6]; rfl) (by decide) ?_
      exact wc_load IV hmo s_load hL C ht hI (fun σ2 τ2 h => hnext σ2 τ2 h ht)
    by_cases c_7 : y = (7 : Int32)
    · refine aw_tabIn (off := 251) (tgt := 283) C xd_W_law_32 (by rw [c_7]; decide) (by rw [c_7]; decide) (by rw [c_7]; rfl) (by decide) ?_
      exact wc_unload IV hmo s_unload hL C ht hI (fun σ2 τ2 h => hnext σ2 τ2 h ht)
    by_cases c_8 : y = (8 : Int32)
    · refine aw_tabIn (off := 274) (tgt := 306) C xd_W_law_32 (by rw [c_8]; decide) (by rw [c_8]; decide) (by rw [c_8]; rfl) (by decide) ?_
      exact wc_run IV hmo s_run hL C ht hI (fun σ2 τ2 h => hnext σ2 τ2 h ht)
    by_cases c_9 : y = (9 : Int32)
    · refine aw_tabIn (off := 327) (tgt := 359) C xd_W_law_32 (by rw [c_9]; decide) (by rw [c_9]; decide) (by rw [c_9]; rfl) (by decide) ?_
      exact wc_value IV hmo s_value hL C ht hI (fun σ2 τ2 h => hnext σ2 τ2 h ht)
    by_cases c_10 : y = (10 : Int32)
    · refine aw_tabIn (off := 340) (tgt := 372) C xd_W_law_32 (by rw [c_10]; decide) (by rw [c_10]; decide) (by rw [c_10]; rfl) (by decide) ?_
      exact wc_steps IV hmo s_steps hL C ht hI (fun σ2 τ2 h => hnext σ2 τ2 h ht)
    by_cases c_11 : y = (11 : Int32)
    · refine aw_tabIn (off := 353) (tgt := 385) C xd_W_law_32 (by rw [c_11]; decide) (by rw [c_11]; decide) (by rw [c_11]; rfl) (by decide) ?_
      exact wc_variable IV hmo s_variable hL C ht hI (fun σ2 τ2 h => hnext σ2 τ2 h ht)
    by_cases c_12 : y = (12 : Int32)
    · refine aw_tabIn (off := 386) (tgt := 418) C xd_W_law_32 (by rw [c_12]; decide) (by rw [c_12]; decide) (by rw [c_12]; rfl) (by decide) ?_
      exact wc_key IV hmo s_key hL C ht hI (fun σ2 τ2 h => hnext σ2 τ2 h ht)
    by_cases c_13 : y = (13 : Int32)
    · refine aw_tabIn (off := 409) (tgt := 441) C xd_W_law_32 (by rw [c_13]; decide) (by rw [c_13]; decide) (by rw [c_13]; rfl) (by decide) ?_
      exact wc_loaded IV hmo s_loaded hL C ht hI (fun σ2 τ2 h => hnext σ2 τ2 h ht)
    by_cases c_14 : y = (14 : Int32)
    · refine aw_tabIn (off := 432) (tgt := 464) C xd_W_law_32 (by rw [c_14]; decide) (by rw [c_14]; decide) (by rw [c_14]; rfl) (by decide) ?_
      exact wc_imported IV hmo s_imported hL C ht hI (fun σ2 τ2 h => hnext σ2 τ2 h ht)
    by_cases c_15 : y = (15 : Int32)
    · refine aw_tabIn (off := 465) (tgt := 497) C xd_W_law_32 (by rw [c_15]; decide) (by rw [c_15]; decide) (by rw [c_15]; rfl) (by decide) ?_
      exact wc_count IV hmo s_count hL C ht hI (fun σ2 τ2 h => hnext σ2 τ2 h ht)
    have t_0 := lv_neT c_0 (a := 0) (by decide)
    have t_1 := lv_neT c_1 (a := 1) (by decide)
    have t_2 := lv_neT c_2 (a := 2) (by decide)
    have t_3 := lv_neT c_3 (a := 3) (by decide)
    have t_4 := lv_neT c_4 (a := 4) (by decide)
    have t_5 := lv_neT c_5 (a := 5) (by decide)
    have t_6 := lv_neT c_6 (a := 6) (by decide)
    have t_7 := lv_neT c_7 (a := 7) (by decide)
    have t_8 := lv_neT c_8 (a := 8) (by decide)
    have t_9 := lv_neT c_9 (a := 9) (by decide)
    have t_10 := lv_neT c_10 (a := 10) (by decide)
    have t_11 := lv_neT c_11 (a := 11) (by decide)
    have t_12 := lv_neT c_12 (a := 12) (by decide)
    have t_13 := lv_neT c_13 (a := 13) (by decide)
    have t_14 := lv_neT c_14 (a := 14) (by decide)
    have t_15 := lv_neT c_15 (a := 15) (by decide)
    refine aw_tabOut (tgt := 520) C xd_W_law_32 (by omega) (by decide) ?_
    exact hnext σ τ (hmo t σ τ hI) ht
