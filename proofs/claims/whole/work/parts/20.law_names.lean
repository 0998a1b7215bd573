/-! THE CLAIM OUT OF ONE WALK OF THE LAW'S BODY. Your part is whole_start (and what it stands on); all else here is the same for every law, but numbers. -/
def R_law : String := "SyntaxTreesLaw"
def lw_P (b : Addr) (xs : List Int32) (args : Array Value) (s : State) : Prop := args = #[.ref b] ∧ s.IntsAt b xs ∧ xs.length ≤ 2560 ∧ (Jvm.Cond.and given_1 narrow_1).before args s = true
def lw_Q (_ : Array Value) (s : State) (o : Outcome) (t : State) : Prop := o = .returned (some (.int 1)) ∧ Framed s o t [] 600000 7302249
def lw_Z (below : List Frame) (a : Array Value) (s : State) : State → Prop := fun t => ∃ o, t.status = .running ∧ Ended t below o ∧ lw_Q a s o t
/-- the law's own end, with 1 on the stack, nothing written that was there before, its room as the claim has it -/
theorem lw_ret {p : Program} {l : Launch} {e : Env} {s : State} {m : MethodId} {below : List Frame} {meth : Method} {c : Code} {b : Nat} (hx : p.tables.exec = Jvm.exec) (hb : c.code = code) (hr : meth.sig.returnType = ret) (hlocks : meth.locks = false) {pc : Nat} {H : Heap} {ls : Array Slot} (hdg : decode code pc = .ok (.ireturn, 1)) : W p l e room_1 s m #[Value.ref b] below meth c H [] 600000 7302249 (lw_Z below #[Value.ref b] s) (F0 m pc ls [.int 1]) := by
  intro T hT X
  obtain ⟨fs, hret, hrun, hended, hW, hframe⟩ := X.leave (v := some (.int 1)) (hlocks := hlocks) (fun h => by rw [hr] at h; cases h)
  have hmeth' : T.vm.method? m = some meth := X.method'
  refine ⟨T.setFrames fs, ?_, .returned (some (.int 1)), hrun, hended, rfl, ⟨_, rfl⟩, hW, hframe⟩
  jvm_step X.here [X.here.top, hx, hb, hdg, hmeth', hr, ret, narrow_b1]
  (try refine ⟨rfl, ?_⟩); (try refine ⟨rfl, ?_⟩)
  first | (intro acts; rw [hret _ acts rfl rfl rfl]) | rw [hret _ _ rfl rfl rfl]
  exact Steps.refl _
/-- what holds at the law's entry: the machine, the code, the tables' words (any of lw_tbl by 'hts w (by decide +kernel)'), the script of L ints xs at the cell b, what the Statement gives of the start (any of its parts by flat_of_before) -/
def lw_At (p : Program) (s : State) (m : MethodId) (meth : Method) (c : Code) (b L : Nat) (xs : Nat → Int32) : Prop :=
  p.tables.exec = Jvm.exec ∧ c.code = code ∧ meth.sig.returnType = ret ∧ c.maxLocals = 4 ∧ s.vm.findClass R_law = some m.cls ∧ (∀ w ∈ lw_tbl, w.before #[Value.ref b] s = true) ∧ va_X b L xs s s.heap ∧ b < s.heap.size ∧ meth.locks = false ∧ (Jvm.Cond.and given_1 narrow_1).before #[Value.ref b] s = true
def w_Law_law : List Cond := Cond.initialized "SyntaxTrees$Symbols" :: TBL
theorem law_in : ∀ w ∈ w_Law_law, w ∈ lw_tbl := fun w h => by
  rcases List.mem_cons.mp h with rfl | h
  · exact (tbl_in _ m_43).1
  · exact (tbl_in _ h).1
theorem d_Law_law_0 : decode code 0 = .ok (.new 7, 3) := by decide +kernel
theorem d_Law_law_3 : decode code 3 = .ok (.dup, 1) := by decide +kernel
theorem d_Law_law_4 : decode code 4 = .ok (.invokespecial 9, 3) := by decide +kernel
theorem d_Law_law_7 : decode code 7 = .ok (.astore_n 1, 1) := by decide +kernel
theorem d_Law_law_8 : decode code 8 = .ok (.new 10, 3) := by decide +kernel
theorem d_Law_law_11 : decode code 11 = .ok (.dup, 1) := by decide +kernel
theorem d_Law_law_12 : decode code 12 = .ok (.invokespecial 12, 3) := by decide +kernel
theorem d_Law_law_15 : decode code 15 = .ok (.astore_n 2, 1) := by decide +kernel
theorem d_Law_law_16 : decode code 16 = .ok (.iconst 0, 1) := by decide +kernel
theorem d_Law_law_17 : decode code 17 = .ok (.istore_n 3, 1) := by decide +kernel
theorem d_Law_law_18 : decode code 18 = .ok (.iload_n 3, 1) := by decide +kernel
theorem d_Law_law_19 : decode code 19 = .ok (.aload_n 0, 1) := by decide +kernel
theorem d_Law_law_20 : decode code 20 = .ok (.arraylength, 1) := by decide +kernel
theorem d_Law_law_21 : decode code 21 = .ok (.iconst 5, 1) := by decide +kernel
theorem d_Law_law_22 : decode code 22 = .ok (.isub, 1) := by decide +kernel
theorem d_Law_law_23 : decode code 23 = .ok (.if_icmp .gt 412, 3) := by decide +kernel
theorem d_Law_law_26 : decode code 26 = .ok (.aload_n 0, 1) := by decide +kernel
theorem d_Law_law_27 : decode code 27 = .ok (.iload_n 3, 1) := by decide +kernel
theorem d_Law_law_28 : decode code 28 = .ok (.iaload, 1) := by decide +kernel
theorem d_Law_law_29 : decode code 29 = .ok (.bipush 15, 2) := by decide +kernel
theorem d_Law_law_31 : decode code 31 = .ok (.iand, 1) := by decide +kernel
theorem d_Law_law_32 : decode code 32 = .ok (.tableswitch 397 0 12 #[68, 91, 114, 137, 150, 173, 186, 219, 272, 305, 338, 361, 384], 68) := by decide +kernel
theorem d_Law_law_100 : decode code 100 = .ok (.aload_n 1, 1) := by decide +kernel
theorem d_Law_law_101 : decode code 101 = .ok (.aload_n 0, 1) := by decide +kernel
theorem d_Law_law_102 : decode code 102 = .ok (.iload_n 3, 1) := by decide +kernel
theorem d_Law_law_103 : decode code 103 = .ok (.iconst 1, 1) := by decide +kernel
theorem d_Law_law_104 : decode code 104 = .ok (.iadd, 1) := by decide +kernel
theorem d_Law_law_105 : decode code 105 = .ok (.iaload, 1) := by decide +kernel
theorem d_Law_law_106 : decode code 106 = .ok (.invokevirtual 13, 3) := by decide +kernel
theorem d_Law_law_109 : decode code 109 = .ok (.aload_n 2, 1) := by decide +kernel
theorem d_Law_law_110 : decode code 110 = .ok (.aload_n 0, 1) := by decide +kernel
theorem d_Law_law_111 : decode code 111 = .ok (.iload_n 3, 1) := by decide +kernel
theorem d_Law_law_112 : decode code 112 = .ok (.iconst 1, 1) := by decide +kernel
theorem d_Law_law_113 : decode code 113 = .ok (.iadd, 1) := by decide +kernel
theorem d_Law_law_114 : decode code 114 = .ok (.iaload, 1) := by decide +kernel
theorem d_Law_law_115 : decode code 115 = .ok (.invokevirtual 17, 3) := by decide +kernel
theorem d_Law_law_118 : decode code 118 = .ok (.if_icmp .eq 311, 3) := by decide +kernel
theorem d_Law_law_121 : decode code 121 = .ok (.iconst 0, 1) := by decide +kernel
theorem d_Law_law_122 : decode code 122 = .ok (.ireturn, 1) := by decide +kernel
theorem d_Law_law_123 : decode code 123 = .ok (.aload_n 1, 1) := by decide +kernel
theorem d_Law_law_124 : decode code 124 = .ok (.aload_n 0, 1) := by decide +kernel
theorem d_Law_law_125 : decode code 125 = .ok (.iload_n 3, 1) := by decide +kernel
theorem d_Law_law_126 : decode code 126 = .ok (.iconst 1, 1) := by decide +kernel
theorem d_Law_law_127 : decode code 127 = .ok (.iadd, 1) := by decide +kernel
theorem d_Law_law_128 : decode code 128 = .ok (.iaload, 1) := by decide +kernel
theorem d_Law_law_129 : decode code 129 = .ok (.invokevirtual 18, 3) := by decide +kernel
theorem d_Law_law_132 : decode code 132 = .ok (.aload_n 2, 1) := by decide +kernel
theorem d_Law_law_133 : decode code 133 = .ok (.aload_n 0, 1) := by decide +kernel
theorem d_Law_law_134 : decode code 134 = .ok (.iload_n 3, 1) := by decide +kernel
theorem d_Law_law_135 : decode code 135 = .ok (.iconst 1, 1) := by decide +kernel
theorem d_Law_law_136 : decode code 136 = .ok (.iadd, 1) := by decide +kernel
theorem d_Law_law_137 : decode code 137 = .ok (.iaload, 1) := by decide +kernel
theorem d_Law_law_138 : decode code 138 = .ok (.invokevirtual 21, 3) := by decide +kernel
theorem d_Law_law_141 : decode code 141 = .ok (.if_icmp .eq 288, 3) := by decide +kernel
theorem d_Law_law_144 : decode code 144 = .ok (.iconst 0, 1) := by decide +kernel
theorem d_Law_law_145 : decode code 145 = .ok (.ireturn, 1) := by decide +kernel
theorem d_Law_law_146 : decode code 146 = .ok (.aload_n 1, 1) := by decide +kernel
theorem d_Law_law_147 : decode code 147 = .ok (.aload_n 0, 1) := by decide +kernel
theorem d_Law_law_148 : decode code 148 = .ok (.iload_n 3, 1) := by decide +kernel
theorem d_Law_law_149 : decode code 149 = .ok (.iconst 1, 1) := by decide +kernel
theorem d_Law_law_150 : decode code 150 = .ok (.iadd, 1) := by decide +kernel
theorem d_Law_law_151 : decode code 151 = .ok (.iaload, 1) := by decide +kernel
theorem d_Law_law_152 : decode code 152 = .ok (.invokevirtual 22, 3) := by decide +kernel
theorem d_Law_law_155 : decode code 155 = .ok (.aload_n 2, 1) := by decide +kernel
theorem d_Law_law_156 : decode code 156 = .ok (.aload_n 0, 1) := by decide +kernel
theorem d_Law_law_157 : decode code 157 = .ok (.iload_n 3, 1) := by decide +kernel
theorem d_Law_law_158 : decode code 158 = .ok (.iconst 1, 1) := by decide +kernel
theorem d_Law_law_159 : decode code 159 = .ok (.iadd, 1) := by decide +kernel
theorem d_Law_law_160 : decode code 160 = .ok (.iaload, 1) := by decide +kernel
theorem d_Law_law_161 : decode code 161 = .ok (.invokevirtual 25, 3) := by decide +kernel
theorem d_Law_law_164 : decode code 164 = .ok (.if_icmp .eq 265, 3) := by decide +kernel
theorem d_Law_law_167 : decode code 167 = .ok (.iconst 0, 1) := by decide +kernel
theorem d_Law_law_168 : decode code 168 = .ok (.ireturn, 1) := by decide +kernel
theorem d_Law_law_169 : decode code 169 = .ok (.aload_n 1, 1) := by decide +kernel
theorem d_Law_law_170 : decode code 170 = .ok (.invokevirtual 26, 3) := by decide +kernel
theorem d_Law_law_173 : decode code 173 = .ok (.aload_n 2, 1) := by decide +kernel
theorem d_Law_law_174 : decode code 174 = .ok (.invokevirtual 30, 3) := by decide +kernel
theorem d_Law_law_177 : decode code 177 = .ok (.if_icmp .eq 252, 3) := by decide +kernel
theorem d_Law_law_180 : decode code 180 = .ok (.iconst 0, 1) := by decide +kernel
theorem d_Law_law_181 : decode code 181 = .ok (.ireturn, 1) := by decide +kernel
theorem d_Law_law_182 : decode code 182 = .ok (.aload_n 1, 1) := by decide +kernel
theorem d_Law_law_183 : decode code 183 = .ok (.aload_n 0, 1) := by decide +kernel
theorem d_Law_law_184 : decode code 184 = .ok (.iload_n 3, 1) := by decide +kernel
theorem d_Law_law_185 : decode code 185 = .ok (.iconst 1, 1) := by decide +kernel
theorem d_Law_law_186 : decode code 186 = .ok (.iadd, 1) := by decide +kernel
theorem d_Law_law_187 : decode code 187 = .ok (.iaload, 1) := by decide +kernel
theorem d_Law_law_188 : decode code 188 = .ok (.invokevirtual 31, 3) := by decide +kernel
theorem d_Law_law_191 : decode code 191 = .ok (.aload_n 2, 1) := by decide +kernel
theorem d_Law_law_192 : decode code 192 = .ok (.aload_n 0, 1) := by decide +kernel
theorem d_Law_law_193 : decode code 193 = .ok (.iload_n 3, 1) := by decide +kernel
theorem d_Law_law_194 : decode code 194 = .ok (.iconst 1, 1) := by decide +kernel
theorem d_Law_law_195 : decode code 195 = .ok (.iadd, 1) := by decide +kernel
theorem d_Law_law_196 : decode code 196 = .ok (.iaload, 1) := by decide +kernel
theorem d_Law_law_197 : decode code 197 = .ok (.invokevirtual 34, 3) := by decide +kernel
theorem d_Law_law_200 : decode code 200 = .ok (.if_icmp .eq 229, 3) := by decide +kernel
theorem d_Law_law_203 : decode code 203 = .ok (.iconst 0, 1) := by decide +kernel
theorem d_Law_law_204 : decode code 204 = .ok (.ireturn, 1) := by decide +kernel
theorem d_Law_law_205 : decode code 205 = .ok (.aload_n 1, 1) := by decide +kernel
theorem d_Law_law_206 : decode code 206 = .ok (.invokevirtual 35, 3) := by decide +kernel
theorem d_Law_law_209 : decode code 209 = .ok (.aload_n 2, 1) := by decide +kernel
theorem d_Law_law_210 : decode code 210 = .ok (.invokevirtual 38, 3) := by decide +kernel
theorem d_Law_law_213 : decode code 213 = .ok (.if_icmp .eq 216, 3) := by decide +kernel
theorem d_Law_law_216 : decode code 216 = .ok (.iconst 0, 1) := by decide +kernel
theorem d_Law_law_217 : decode code 217 = .ok (.ireturn, 1) := by decide +kernel
theorem d_Law_law_218 : decode code 218 = .ok (.aload_n 1, 1) := by decide +kernel
theorem d_Law_law_219 : decode code 219 = .ok (.aload_n 0, 1) := by decide +kernel
theorem d_Law_law_220 : decode code 220 = .ok (.iload_n 3, 1) := by decide +kernel
theorem d_Law_law_221 : decode code 221 = .ok (.iconst 1, 1) := by decide +kernel
theorem d_Law_law_222 : decode code 222 = .ok (.iadd, 1) := by decide +kernel
theorem d_Law_law_223 : decode code 223 = .ok (.iaload, 1) := by decide +kernel
theorem d_Law_law_224 : decode code 224 = .ok (.aload_n 0, 1) := by decide +kernel
theorem d_Law_law_225 : decode code 225 = .ok (.iload_n 3, 1) := by decide +kernel
theorem d_Law_law_226 : decode code 226 = .ok (.iconst 2, 1) := by decide +kernel
theorem d_Law_law_227 : decode code 227 = .ok (.iadd, 1) := by decide +kernel
theorem d_Law_law_228 : decode code 228 = .ok (.iaload, 1) := by decide +kernel
theorem d_Law_law_229 : decode code 229 = .ok (.invokevirtual 39, 3) := by decide +kernel
theorem d_Law_law_232 : decode code 232 = .ok (.aload_n 2, 1) := by decide +kernel
theorem d_Law_law_233 : decode code 233 = .ok (.aload_n 0, 1) := by decide +kernel
theorem d_Law_law_234 : decode code 234 = .ok (.iload_n 3, 1) := by decide +kernel
theorem d_Law_law_235 : decode code 235 = .ok (.iconst 1, 1) := by decide +kernel
theorem d_Law_law_236 : decode code 236 = .ok (.iadd, 1) := by decide +kernel
theorem d_Law_law_237 : decode code 237 = .ok (.iaload, 1) := by decide +kernel
theorem d_Law_law_238 : decode code 238 = .ok (.aload_n 0, 1) := by decide +kernel
theorem d_Law_law_239 : decode code 239 = .ok (.iload_n 3, 1) := by decide +kernel
theorem d_Law_law_240 : decode code 240 = .ok (.iconst 2, 1) := by decide +kernel
theorem d_Law_law_241 : decode code 241 = .ok (.iadd, 1) := by decide +kernel
theorem d_Law_law_242 : decode code 242 = .ok (.iaload, 1) := by decide +kernel
theorem d_Law_law_243 : decode code 243 = .ok (.invokevirtual 43, 3) := by decide +kernel
theorem d_Law_law_246 : decode code 246 = .ok (.if_icmp .eq 183, 3) := by decide +kernel
theorem d_Law_law_249 : decode code 249 = .ok (.iconst 0, 1) := by decide +kernel
theorem d_Law_law_250 : decode code 250 = .ok (.ireturn, 1) := by decide +kernel
theorem d_Law_law_251 : decode code 251 = .ok (.aload_n 1, 1) := by decide +kernel
theorem d_Law_law_252 : decode code 252 = .ok (.aload_n 0, 1) := by decide +kernel
theorem d_Law_law_253 : decode code 253 = .ok (.iload_n 3, 1) := by decide +kernel
theorem d_Law_law_254 : decode code 254 = .ok (.iconst 1, 1) := by decide +kernel
theorem d_Law_law_255 : decode code 255 = .ok (.iadd, 1) := by decide +kernel
theorem d_Law_law_256 : decode code 256 = .ok (.iaload, 1) := by decide +kernel
theorem d_Law_law_257 : decode code 257 = .ok (.aload_n 0, 1) := by decide +kernel
theorem d_Law_law_258 : decode code 258 = .ok (.iload_n 3, 1) := by decide +kernel
theorem d_Law_law_259 : decode code 259 = .ok (.iconst 2, 1) := by decide +kernel
theorem d_Law_law_260 : decode code 260 = .ok (.iadd, 1) := by decide +kernel
theorem d_Law_law_261 : decode code 261 = .ok (.iaload, 1) := by decide +kernel
theorem d_Law_law_262 : decode code 262 = .ok (.aload_n 0, 1) := by decide +kernel
theorem d_Law_law_263 : decode code 263 = .ok (.iload_n 3, 1) := by decide +kernel
theorem d_Law_law_264 : decode code 264 = .ok (.iconst 3, 1) := by decide +kernel
theorem d_Law_law_265 : decode code 265 = .ok (.iadd, 1) := by decide +kernel
theorem d_Law_law_266 : decode code 266 = .ok (.iaload, 1) := by decide +kernel
theorem d_Law_law_267 : decode code 267 = .ok (.aload_n 0, 1) := by decide +kernel
theorem d_Law_law_268 : decode code 268 = .ok (.iload_n 3, 1) := by decide +kernel
theorem d_Law_law_269 : decode code 269 = .ok (.iconst 4, 1) := by decide +kernel
theorem d_Law_law_270 : decode code 270 = .ok (.iadd, 1) := by decide +kernel
theorem d_Law_law_271 : decode code 271 = .ok (.iaload, 1) := by decide +kernel
theorem d_Law_law_272 : decode code 272 = .ok (.invokevirtual 44, 3) := by decide +kernel
theorem d_Law_law_275 : decode code 275 = .ok (.aload_n 2, 1) := by decide +kernel
theorem d_Law_law_276 : decode code 276 = .ok (.aload_n 0, 1) := by decide +kernel
theorem d_Law_law_277 : decode code 277 = .ok (.iload_n 3, 1) := by decide +kernel
theorem d_Law_law_278 : decode code 278 = .ok (.iconst 1, 1) := by decide +kernel
theorem d_Law_law_279 : decode code 279 = .ok (.iadd, 1) := by decide +kernel
theorem d_Law_law_280 : decode code 280 = .ok (.iaload, 1) := by decide +kernel
theorem d_Law_law_281 : decode code 281 = .ok (.aload_n 0, 1) := by decide +kernel
theorem d_Law_law_282 : decode code 282 = .ok (.iload_n 3, 1) := by decide +kernel
theorem d_Law_law_283 : decode code 283 = .ok (.iconst 2, 1) := by decide +kernel
theorem d_Law_law_284 : decode code 284 = .ok (.iadd, 1) := by decide +kernel
theorem d_Law_law_285 : decode code 285 = .ok (.iaload, 1) := by decide +kernel
theorem d_Law_law_286 : decode code 286 = .ok (.aload_n 0, 1) := by decide +kernel
theorem d_Law_law_287 : decode code 287 = .ok (.iload_n 3, 1) := by decide +kernel
theorem d_Law_law_288 : decode code 288 = .ok (.iconst 3, 1) := by decide +kernel
theorem d_Law_law_289 : decode code 289 = .ok (.iadd, 1) := by decide +kernel
theorem d_Law_law_290 : decode code 290 = .ok (.iaload, 1) := by decide +kernel
theorem d_Law_law_291 : decode code 291 = .ok (.aload_n 0, 1) := by decide +kernel
theorem d_Law_law_292 : decode code 292 = .ok (.iload_n 3, 1) := by decide +kernel
theorem d_Law_law_293 : decode code 293 = .ok (.iconst 4, 1) := by decide +kernel
theorem d_Law_law_294 : decode code 294 = .ok (.iadd, 1) := by decide +kernel
theorem d_Law_law_295 : decode code 295 = .ok (.iaload, 1) := by decide +kernel
theorem d_Law_law_296 : decode code 296 = .ok (.invokevirtual 48, 3) := by decide +kernel
theorem d_Law_law_299 : decode code 299 = .ok (.if_icmp .eq 130, 3) := by decide +kernel
theorem d_Law_law_302 : decode code 302 = .ok (.iconst 0, 1) := by decide +kernel
theorem d_Law_law_303 : decode code 303 = .ok (.ireturn, 1) := by decide +kernel
theorem d_Law_law_304 : decode code 304 = .ok (.aload_n 1, 1) := by decide +kernel
theorem d_Law_law_305 : decode code 305 = .ok (.aload_n 0, 1) := by decide +kernel
theorem d_Law_law_306 : decode code 306 = .ok (.iload_n 3, 1) := by decide +kernel
theorem d_Law_law_307 : decode code 307 = .ok (.iconst 1, 1) := by decide +kernel
theorem d_Law_law_308 : decode code 308 = .ok (.iadd, 1) := by decide +kernel
theorem d_Law_law_309 : decode code 309 = .ok (.iaload, 1) := by decide +kernel
theorem d_Law_law_310 : decode code 310 = .ok (.aload_n 0, 1) := by decide +kernel
theorem d_Law_law_311 : decode code 311 = .ok (.iload_n 3, 1) := by decide +kernel
theorem d_Law_law_312 : decode code 312 = .ok (.iconst 2, 1) := by decide +kernel
theorem d_Law_law_313 : decode code 313 = .ok (.iadd, 1) := by decide +kernel
theorem d_Law_law_314 : decode code 314 = .ok (.iaload, 1) := by decide +kernel
theorem d_Law_law_315 : decode code 315 = .ok (.invokevirtual 49, 3) := by decide +kernel
theorem d_Law_law_318 : decode code 318 = .ok (.aload_n 2, 1) := by decide +kernel
theorem d_Law_law_319 : decode code 319 = .ok (.aload_n 0, 1) := by decide +kernel
theorem d_Law_law_320 : decode code 320 = .ok (.iload_n 3, 1) := by decide +kernel
theorem d_Law_law_321 : decode code 321 = .ok (.iconst 1, 1) := by decide +kernel
theorem d_Law_law_322 : decode code 322 = .ok (.iadd, 1) := by decide +kernel
theorem d_Law_law_323 : decode code 323 = .ok (.iaload, 1) := by decide +kernel
theorem d_Law_law_324 : decode code 324 = .ok (.aload_n 0, 1) := by decide +kernel
theorem d_Law_law_325 : decode code 325 = .ok (.iload_n 3, 1) := by decide +kernel
theorem d_Law_law_326 : decode code 326 = .ok (.iconst 2, 1) := by decide +kernel
theorem d_Law_law_327 : decode code 327 = .ok (.iadd, 1) := by decide +kernel
theorem d_Law_law_328 : decode code 328 = .ok (.iaload, 1) := by decide +kernel
theorem d_Law_law_329 : decode code 329 = .ok (.invokevirtual 52, 3) := by decide +kernel
theorem d_Law_law_332 : decode code 332 = .ok (.if_icmp .eq 97, 3) := by decide +kernel
theorem d_Law_law_335 : decode code 335 = .ok (.iconst 0, 1) := by decide +kernel
theorem d_Law_law_336 : decode code 336 = .ok (.ireturn, 1) := by decide +kernel
theorem d_Law_law_337 : decode code 337 = .ok (.aload_n 1, 1) := by decide +kernel
theorem d_Law_law_338 : decode code 338 = .ok (.aload_n 0, 1) := by decide +kernel
theorem d_Law_law_339 : decode code 339 = .ok (.iload_n 3, 1) := by decide +kernel
theorem d_Law_law_340 : decode code 340 = .ok (.iconst 1, 1) := by decide +kernel
theorem d_Law_law_341 : decode code 341 = .ok (.iadd, 1) := by decide +kernel
theorem d_Law_law_342 : decode code 342 = .ok (.iaload, 1) := by decide +kernel
theorem d_Law_law_343 : decode code 343 = .ok (.aload_n 0, 1) := by decide +kernel
theorem d_Law_law_344 : decode code 344 = .ok (.iload_n 3, 1) := by decide +kernel
theorem d_Law_law_345 : decode code 345 = .ok (.iconst 2, 1) := by decide +kernel
theorem d_Law_law_346 : decode code 346 = .ok (.iadd, 1) := by decide +kernel
theorem d_Law_law_347 : decode code 347 = .ok (.iaload, 1) := by decide +kernel
theorem d_Law_law_348 : decode code 348 = .ok (.invokevirtual 53, 3) := by decide +kernel
theorem d_Law_law_351 : decode code 351 = .ok (.aload_n 2, 1) := by decide +kernel
theorem d_Law_law_352 : decode code 352 = .ok (.aload_n 0, 1) := by decide +kernel
theorem d_Law_law_353 : decode code 353 = .ok (.iload_n 3, 1) := by decide +kernel
theorem d_Law_law_354 : decode code 354 = .ok (.iconst 1, 1) := by decide +kernel
theorem d_Law_law_355 : decode code 355 = .ok (.iadd, 1) := by decide +kernel
theorem d_Law_law_356 : decode code 356 = .ok (.iaload, 1) := by decide +kernel
theorem d_Law_law_357 : decode code 357 = .ok (.aload_n 0, 1) := by decide +kernel
theorem d_Law_law_358 : decode code 358 = .ok (.iload_n 3, 1) := by decide +kernel
theorem d_Law_law_359 : decode code 359 = .ok (.iconst 2, 1) := by decide +kernel
theorem d_Law_law_360 : decode code 360 = .ok (.iadd, 1) := by decide +kernel
theorem d_Law_law_361 : decode code 361 = .ok (.iaload, 1) := by decide +kernel
theorem d_Law_law_362 : decode code 362 = .ok (.invokevirtual 56, 3) := by decide +kernel
theorem d_Law_law_365 : decode code 365 = .ok (.if_icmp .eq 64, 3) := by decide +kernel
theorem d_Law_law_368 : decode code 368 = .ok (.iconst 0, 1) := by decide +kernel
theorem d_Law_law_369 : decode code 369 = .ok (.ireturn, 1) := by decide +kernel
theorem d_Law_law_370 : decode code 370 = .ok (.aload_n 1, 1) := by decide +kernel
theorem d_Law_law_371 : decode code 371 = .ok (.aload_n 0, 1) := by decide +kernel
theorem d_Law_law_372 : decode code 372 = .ok (.iload_n 3, 1) := by decide +kernel
theorem d_Law_law_373 : decode code 373 = .ok (.iconst 1, 1) := by decide +kernel
theorem d_Law_law_374 : decode code 374 = .ok (.iadd, 1) := by decide +kernel
theorem d_Law_law_375 : decode code 375 = .ok (.iaload, 1) := by decide +kernel
theorem d_Law_law_376 : decode code 376 = .ok (.invokevirtual 57, 3) := by decide +kernel
theorem d_Law_law_379 : decode code 379 = .ok (.aload_n 2, 1) := by decide +kernel
theorem d_Law_law_380 : decode code 380 = .ok (.aload_n 0, 1) := by decide +kernel
theorem d_Law_law_381 : decode code 381 = .ok (.iload_n 3, 1) := by decide +kernel
theorem d_Law_law_382 : decode code 382 = .ok (.iconst 1, 1) := by decide +kernel
theorem d_Law_law_383 : decode code 383 = .ok (.iadd, 1) := by decide +kernel
theorem d_Law_law_384 : decode code 384 = .ok (.iaload, 1) := by decide +kernel
theorem d_Law_law_385 : decode code 385 = .ok (.invokevirtual 60, 3) := by decide +kernel
theorem d_Law_law_388 : decode code 388 = .ok (.if_icmp .eq 41, 3) := by decide +kernel
theorem d_Law_law_391 : decode code 391 = .ok (.iconst 0, 1) := by decide +kernel
theorem d_Law_law_392 : decode code 392 = .ok (.ireturn, 1) := by decide +kernel
theorem d_Law_law_393 : decode code 393 = .ok (.aload_n 1, 1) := by decide +kernel
theorem d_Law_law_394 : decode code 394 = .ok (.aload_n 0, 1) := by decide +kernel
theorem d_Law_law_395 : decode code 395 = .ok (.iload_n 3, 1) := by decide +kernel
theorem d_Law_law_396 : decode code 396 = .ok (.iconst 1, 1) := by decide +kernel
theorem d_Law_law_397 : decode code 397 = .ok (.iadd, 1) := by decide +kernel
theorem d_Law_law_398 : decode code 398 = .ok (.iaload, 1) := by decide +kernel
theorem d_Law_law_399 : decode code 399 = .ok (.invokevirtual 61, 3) := by decide +kernel
theorem d_Law_law_402 : decode code 402 = .ok (.aload_n 2, 1) := by decide +kernel
theorem d_Law_law_403 : decode code 403 = .ok (.aload_n 0, 1) := by decide +kernel
theorem d_Law_law_404 : decode code 404 = .ok (.iload_n 3, 1) := by decide +kernel
theorem d_Law_law_405 : decode code 405 = .ok (.iconst 1, 1) := by decide +kernel
theorem d_Law_law_406 : decode code 406 = .ok (.iadd, 1) := by decide +kernel
theorem d_Law_law_407 : decode code 407 = .ok (.iaload, 1) := by decide +kernel
theorem d_Law_law_408 : decode code 408 = .ok (.invokevirtual 64, 3) := by decide +kernel
theorem d_Law_law_411 : decode code 411 = .ok (.if_icmp .eq 18, 3) := by decide +kernel
theorem d_Law_law_414 : decode code 414 = .ok (.iconst 0, 1) := by decide +kernel
theorem d_Law_law_415 : decode code 415 = .ok (.ireturn, 1) := by decide +kernel
theorem d_Law_law_416 : decode code 416 = .ok (.aload_n 1, 1) := by decide +kernel
theorem d_Law_law_417 : decode code 417 = .ok (.invokevirtual 65, 3) := by decide +kernel
theorem d_Law_law_420 : decode code 420 = .ok (.aload_n 2, 1) := by decide +kernel
theorem d_Law_law_421 : decode code 421 = .ok (.invokevirtual 68, 3) := by decide +kernel
theorem d_Law_law_424 : decode code 424 = .ok (.if_icmp .eq 5, 3) := by decide +kernel
theorem d_Law_law_427 : decode code 427 = .ok (.iconst 0, 1) := by decide +kernel
theorem d_Law_law_428 : decode code 428 = .ok (.ireturn, 1) := by decide +kernel
theorem d_Law_law_429 : decode code 429 = .ok (.iinc 3 5, 3) := by decide +kernel
theorem d_Law_law_432 : decode code 432 = .ok (.goto (-414), 3) := by decide +kernel
theorem d_Law_law_435 : decode code 435 = .ok (.iconst 1, 1) := by decide +kernel
theorem d_Law_law_436 : decode code 436 = .ok (.ireturn, 1) := by decide +kernel
