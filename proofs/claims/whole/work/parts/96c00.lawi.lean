/-! THE CLAIM OUT OF ONE WALK OF THE LAW'S BODY. Your part is whole_start (and what it stands on); all else here is the same for every law, but numbers. -/
def R_law : String := "StrataBaseLaw"
def lw_P (b : Addr) (xs : List Int32) (args : Array Value) (s : State) : Prop := args = #[.ref b] ∧ s.IntsAt b xs ∧ xs.length ≤ 3072 ∧ (Jvm.Cond.and given_1 narrow_1).before args s = true
def lw_Q (_ : Array Value) (s : State) (o : Outcome) (t : State) : Prop := o = .returned (some (.int 1)) ∧ Framed s o t [] 601024 7293034
def lw_Z (below : List Frame) (a : Array Value) (s : State) : State → Prop := fun t => ∃ o, t.status = .running ∧ Ended t below o ∧ lw_Q a s o t
/-- the law's own end, with 1 on the stack, nothing written that was there before, its room as the claim has it -/
theorem lw_ret {p : Program} {l : Launch} {e : Env} {s : State} {m : MethodId} {below : List Frame} {meth : Method} {c : Code} {b : Nat} (hx : p.tables.exec = Jvm.exec) (hb : c.code = code) (hr : meth.sig.returnType = ret) (hlocks : meth.locks = false) {pc : Nat} {H : Heap} {ls : Array Slot} (hdg : decode code pc = .ok (.ireturn, 1)) : W p l e room_1 s m #[Value.ref b] below meth c H [] 601024 7293034 (lw_Z below #[Value.ref b] s) (F0 m pc ls [.int 1]) := by
  intro T hT X
  obtain ⟨fs, hret, hrun, hended, hW, hframe⟩ := X.leave (v := some (.int 1)) (hlocks := hlocks) (fun h => by rw [hr] at h; cases h)
  have hmeth' : T.vm.method? m = some meth := X.method'
  refine ⟨T.setFrames fs, ?_, .returned (some (.int 1)), hrun, hended, rfl, ⟨_, rfl⟩, hW, hframe⟩
  jvm_step X.here [X.here.top, hx, hb, hdg, hmeth', hr, ret, narrow_b1]
  (try refine ⟨rfl, ?_⟩); (try refine ⟨rfl, ?_⟩)
  first | (intro acts; rw [hret _ acts rfl rfl rfl]) | rw [hret _ _ rfl rfl rfl]
  exact Steps.refl _
/-- what holds at the law's entry: the machine, the code, the tables' words (any of lw_tbl by 'hts w (by decide +kernel)'), the script of L ints xs at the cell b, what the Statement gives of the start (any of its parts by flat_of_before) -/
def lw_At (p : Program) (s : State) (m : MethodId) (meth : Method) (c : Code) (b L : Nat) (xs : Nat → Int32) : Prop :=
  p.tables.exec = Jvm.exec ∧ c.code = code ∧ meth.sig.returnType = ret ∧ c.maxLocals = 7 ∧ s.vm.findClass R_law = some m.cls ∧ (∀ w ∈ lw_tbl, w.before #[Value.ref b] s = true) ∧ va_X b L xs s s.heap ∧ b < s.heap.size ∧ meth.locks = false ∧ (Jvm.Cond.and given_1 narrow_1).before #[Value.ref b] s = true
abbrev cd_Lw_law : ByteArray := code
theorem dc_Lw_law_23 : decode cd_Lw_law 23 = .ok (.iload 4, 2) := by decide +kernel
theorem dc_Lw_law_25 : decode cd_Lw_law 25 = .ok (.aload_n 0, 1) := by decide +kernel
theorem dc_Lw_law_26 : decode cd_Lw_law 26 = .ok (.arraylength, 1) := by decide +kernel
theorem dc_Lw_law_27 : decode cd_Lw_law 27 = .ok (.bipush 6, 2) := by decide +kernel
theorem dc_Lw_law_29 : decode cd_Lw_law 29 = .ok (.isub, 1) := by decide +kernel
theorem dc_Lw_law_30 : decode cd_Lw_law 30 = .ok (.if_icmp .gt 687, 3) := by decide +kernel
theorem dc_Lw_law_33 : decode cd_Lw_law 33 = .ok (.aload_n 0, 1) := by decide +kernel
theorem dc_Lw_law_34 : decode cd_Lw_law 34 = .ok (.iload 4, 2) := by decide +kernel
theorem dc_Lw_law_36 : decode cd_Lw_law 36 = .ok (.iaload, 1) := by decide +kernel
theorem dc_Lw_law_37 : decode cd_Lw_law 37 = .ok (.bipush 15, 2) := by decide +kernel
theorem dc_Lw_law_39 : decode cd_Lw_law 39 = .ok (.iand, 1) := by decide +kernel
theorem dc_Lw_law_40 : decode cd_Lw_law 40 = .ok (.tableswitch 671 0 12 #[68, 172, 208, 221, 234, 278, 322, 335, 410, 478, 558, 602, 615], 68) := by decide +kernel
theorem dc_Lw_law_108 : decode cd_Lw_law 108 = .ok (.aload_n 1, 1) := by decide +kernel
theorem dc_Lw_law_109 : decode cd_Lw_law 109 = .ok (.aload_n 0, 1) := by decide +kernel
theorem dc_Lw_law_110 : decode cd_Lw_law 110 = .ok (.iload 4, 2) := by decide +kernel
theorem dc_Lw_law_112 : decode cd_Lw_law 112 = .ok (.iconst 1, 1) := by decide +kernel
theorem dc_Lw_law_113 : decode cd_Lw_law 113 = .ok (.iadd, 1) := by decide +kernel
theorem dc_Lw_law_114 : decode cd_Lw_law 114 = .ok (.iaload, 1) := by decide +kernel
theorem dc_Lw_law_115 : decode cd_Lw_law 115 = .ok (.aload_n 0, 1) := by decide +kernel
theorem dc_Lw_law_116 : decode cd_Lw_law 116 = .ok (.iload 4, 2) := by decide +kernel
theorem dc_Lw_law_118 : decode cd_Lw_law 118 = .ok (.iconst 2, 1) := by decide +kernel
theorem dc_Lw_law_119 : decode cd_Lw_law 119 = .ok (.iadd, 1) := by decide +kernel
theorem dc_Lw_law_120 : decode cd_Lw_law 120 = .ok (.iaload, 1) := by decide +kernel
theorem dc_Lw_law_121 : decode cd_Lw_law 121 = .ok (.aload_n 0, 1) := by decide +kernel
theorem dc_Lw_law_122 : decode cd_Lw_law 122 = .ok (.iload 4, 2) := by decide +kernel
theorem dc_Lw_law_124 : decode cd_Lw_law 124 = .ok (.iconst 3, 1) := by decide +kernel
theorem dc_Lw_law_125 : decode cd_Lw_law 125 = .ok (.iadd, 1) := by decide +kernel
theorem dc_Lw_law_126 : decode cd_Lw_law 126 = .ok (.iaload, 1) := by decide +kernel
theorem dc_Lw_law_127 : decode cd_Lw_law 127 = .ok (.aload_n 0, 1) := by decide +kernel
theorem dc_Lw_law_128 : decode cd_Lw_law 128 = .ok (.iload 4, 2) := by decide +kernel
theorem dc_Lw_law_130 : decode cd_Lw_law 130 = .ok (.iconst 4, 1) := by decide +kernel
theorem dc_Lw_law_131 : decode cd_Lw_law 131 = .ok (.iadd, 1) := by decide +kernel
theorem dc_Lw_law_132 : decode cd_Lw_law 132 = .ok (.iaload, 1) := by decide +kernel
theorem dc_Lw_law_133 : decode cd_Lw_law 133 = .ok (.aload_n 0, 1) := by decide +kernel
theorem dc_Lw_law_134 : decode cd_Lw_law 134 = .ok (.iload 4, 2) := by decide +kernel
theorem dc_Lw_law_136 : decode cd_Lw_law 136 = .ok (.iconst 5, 1) := by decide +kernel
theorem dc_Lw_law_137 : decode cd_Lw_law 137 = .ok (.iadd, 1) := by decide +kernel
theorem dc_Lw_law_138 : decode cd_Lw_law 138 = .ok (.iaload, 1) := by decide +kernel
theorem dc_Lw_law_139 : decode cd_Lw_law 139 = .ok (.aload_n 3, 1) := by decide +kernel
theorem dc_Lw_law_140 : decode cd_Lw_law 140 = .ok (.invokestatic 55, 3) := by decide +kernel
theorem dc_Lw_law_143 : decode cd_Lw_law 143 = .ok (.istore 5, 2) := by decide +kernel
theorem dc_Lw_law_145 : decode cd_Lw_law 145 = .ok (.aload_n 2, 1) := by decide +kernel
theorem dc_Lw_law_146 : decode cd_Lw_law 146 = .ok (.aload_n 0, 1) := by decide +kernel
theorem dc_Lw_law_147 : decode cd_Lw_law 147 = .ok (.iload 4, 2) := by decide +kernel
theorem dc_Lw_law_149 : decode cd_Lw_law 149 = .ok (.iconst 1, 1) := by decide +kernel
theorem dc_Lw_law_150 : decode cd_Lw_law 150 = .ok (.iadd, 1) := by decide +kernel
theorem dc_Lw_law_151 : decode cd_Lw_law 151 = .ok (.iaload, 1) := by decide +kernel
theorem dc_Lw_law_152 : decode cd_Lw_law 152 = .ok (.aload_n 0, 1) := by decide +kernel
theorem dc_Lw_law_153 : decode cd_Lw_law 153 = .ok (.iload 4, 2) := by decide +kernel
theorem dc_Lw_law_155 : decode cd_Lw_law 155 = .ok (.iconst 2, 1) := by decide +kernel
theorem dc_Lw_law_156 : decode cd_Lw_law 156 = .ok (.iadd, 1) := by decide +kernel
theorem dc_Lw_law_157 : decode cd_Lw_law 157 = .ok (.iaload, 1) := by decide +kernel
theorem dc_Lw_law_158 : decode cd_Lw_law 158 = .ok (.aload_n 0, 1) := by decide +kernel
theorem dc_Lw_law_159 : decode cd_Lw_law 159 = .ok (.iload 4, 2) := by decide +kernel
theorem dc_Lw_law_161 : decode cd_Lw_law 161 = .ok (.iconst 3, 1) := by decide +kernel
theorem dc_Lw_law_162 : decode cd_Lw_law 162 = .ok (.iadd, 1) := by decide +kernel
theorem dc_Lw_law_163 : decode cd_Lw_law 163 = .ok (.iaload, 1) := by decide +kernel
theorem dc_Lw_law_164 : decode cd_Lw_law 164 = .ok (.aload_n 0, 1) := by decide +kernel
theorem dc_Lw_law_165 : decode cd_Lw_law 165 = .ok (.iload 4, 2) := by decide +kernel
theorem dc_Lw_law_167 : decode cd_Lw_law 167 = .ok (.iconst 4, 1) := by decide +kernel
theorem dc_Lw_law_168 : decode cd_Lw_law 168 = .ok (.iadd, 1) := by decide +kernel
theorem dc_Lw_law_169 : decode cd_Lw_law 169 = .ok (.iaload, 1) := by decide +kernel
theorem dc_Lw_law_170 : decode cd_Lw_law 170 = .ok (.aload_n 0, 1) := by decide +kernel
theorem dc_Lw_law_171 : decode cd_Lw_law 171 = .ok (.iload 4, 2) := by decide +kernel
theorem dc_Lw_law_173 : decode cd_Lw_law 173 = .ok (.iconst 5, 1) := by decide +kernel
theorem dc_Lw_law_174 : decode cd_Lw_law 174 = .ok (.iadd, 1) := by decide +kernel
theorem dc_Lw_law_175 : decode cd_Lw_law 175 = .ok (.iaload, 1) := by decide +kernel
theorem dc_Lw_law_176 : decode cd_Lw_law 176 = .ok (.invokevirtual 60, 3) := by decide +kernel
theorem dc_Lw_law_179 : decode cd_Lw_law 179 = .ok (.istore 6, 2) := by decide +kernel
theorem dc_Lw_law_181 : decode cd_Lw_law 181 = .ok (.aload_n 2, 1) := by decide +kernel
theorem dc_Lw_law_182 : decode cd_Lw_law 182 = .ok (.invokevirtual 61, 3) := by decide +kernel
theorem dc_Lw_law_185 : decode cd_Lw_law 185 = .ok (.iload 5, 2) := by decide +kernel
theorem dc_Lw_law_187 : decode cd_Lw_law 187 = .ok (.if_icmp .eq 5, 3) := by decide +kernel
theorem dc_Lw_law_190 : decode cd_Lw_law 190 = .ok (.iconst 0, 1) := by decide +kernel
theorem dc_Lw_law_192 : decode cd_Lw_law 192 = .ok (.iload 5, 2) := by decide +kernel
theorem dc_Lw_law_194 : decode cd_Lw_law 194 = .ok (.ifCond .ne 15, 3) := by decide +kernel
theorem dc_Lw_law_197 : decode cd_Lw_law 197 = .ok (.aload_n 3, 1) := by decide +kernel
theorem dc_Lw_law_198 : decode cd_Lw_law 198 = .ok (.iconst 0, 1) := by decide +kernel
theorem dc_Lw_law_199 : decode cd_Lw_law 199 = .ok (.laload, 1) := by decide +kernel
theorem dc_Lw_law_200 : decode cd_Lw_law 200 = .ok (.iload 6, 2) := by decide +kernel
theorem dc_Lw_law_202 : decode cd_Lw_law 202 = .ok (.i2l, 1) := by decide +kernel
theorem dc_Lw_law_203 : decode cd_Lw_law 203 = .ok (.lcmp, 1) := by decide +kernel
theorem dc_Lw_law_204 : decode cd_Lw_law 204 = .ok (.ifCond .eq 5, 3) := by decide +kernel
theorem dc_Lw_law_207 : decode cd_Lw_law 207 = .ok (.iconst 0, 1) := by decide +kernel
theorem dc_Lw_law_209 : decode cd_Lw_law 209 = .ok (.goto 502, 3) := by decide +kernel
theorem dc_Lw_law_212 : decode cd_Lw_law 212 = .ok (.aload_n 1, 1) := by decide +kernel
theorem dc_Lw_law_213 : decode cd_Lw_law 213 = .ok (.aload_n 0, 1) := by decide +kernel
theorem dc_Lw_law_214 : decode cd_Lw_law 214 = .ok (.iload 4, 2) := by decide +kernel
theorem dc_Lw_law_216 : decode cd_Lw_law 216 = .ok (.iconst 1, 1) := by decide +kernel
theorem dc_Lw_law_217 : decode cd_Lw_law 217 = .ok (.iadd, 1) := by decide +kernel
theorem dc_Lw_law_218 : decode cd_Lw_law 218 = .ok (.iaload, 1) := by decide +kernel
theorem dc_Lw_law_219 : decode cd_Lw_law 219 = .ok (.invokestatic 64, 3) := by decide +kernel
theorem dc_Lw_law_222 : decode cd_Lw_law 222 = .ok (.istore 5, 2) := by decide +kernel
theorem dc_Lw_law_224 : decode cd_Lw_law 224 = .ok (.aload_n 2, 1) := by decide +kernel
theorem dc_Lw_law_225 : decode cd_Lw_law 225 = .ok (.aload_n 0, 1) := by decide +kernel
theorem dc_Lw_law_226 : decode cd_Lw_law 226 = .ok (.iload 4, 2) := by decide +kernel
theorem dc_Lw_law_228 : decode cd_Lw_law 228 = .ok (.iconst 1, 1) := by decide +kernel
theorem dc_Lw_law_229 : decode cd_Lw_law 229 = .ok (.iadd, 1) := by decide +kernel
theorem dc_Lw_law_230 : decode cd_Lw_law 230 = .ok (.iaload, 1) := by decide +kernel
theorem dc_Lw_law_231 : decode cd_Lw_law 231 = .ok (.invokevirtual 67, 3) := by decide +kernel
theorem dc_Lw_law_234 : decode cd_Lw_law 234 = .ok (.aload_n 2, 1) := by decide +kernel
theorem dc_Lw_law_235 : decode cd_Lw_law 235 = .ok (.invokevirtual 61, 3) := by decide +kernel
theorem dc_Lw_law_238 : decode cd_Lw_law 238 = .ok (.iload 5, 2) := by decide +kernel
theorem dc_Lw_law_240 : decode cd_Lw_law 240 = .ok (.if_icmp .eq 5, 3) := by decide +kernel
theorem dc_Lw_law_243 : decode cd_Lw_law 243 = .ok (.iconst 0, 1) := by decide +kernel
theorem dc_Lw_law_245 : decode cd_Lw_law 245 = .ok (.goto 466, 3) := by decide +kernel
theorem dc_Lw_law_248 : decode cd_Lw_law 248 = .ok (.aload_n 1, 1) := by decide +kernel
theorem dc_Lw_law_249 : decode cd_Lw_law 249 = .ok (.invokevirtual 68, 3) := by decide +kernel
theorem dc_Lw_law_252 : decode cd_Lw_law 252 = .ok (.aload_n 2, 1) := by decide +kernel
theorem dc_Lw_law_253 : decode cd_Lw_law 253 = .ok (.invokevirtual 71, 3) := by decide +kernel
theorem dc_Lw_law_256 : decode cd_Lw_law 256 = .ok (.if_icmp .eq 455, 3) := by decide +kernel
theorem dc_Lw_law_259 : decode cd_Lw_law 259 = .ok (.iconst 0, 1) := by decide +kernel
theorem dc_Lw_law_261 : decode cd_Lw_law 261 = .ok (.aload_n 1, 1) := by decide +kernel
theorem dc_Lw_law_262 : decode cd_Lw_law 262 = .ok (.invokevirtual 72, 3) := by decide +kernel
theorem dc_Lw_law_265 : decode cd_Lw_law 265 = .ok (.aload_n 2, 1) := by decide +kernel
theorem dc_Lw_law_266 : decode cd_Lw_law 266 = .ok (.invokevirtual 75, 3) := by decide +kernel
theorem dc_Lw_law_269 : decode cd_Lw_law 269 = .ok (.if_icmp .eq 442, 3) := by decide +kernel
theorem dc_Lw_law_272 : decode cd_Lw_law 272 = .ok (.iconst 0, 1) := by decide +kernel
theorem dc_Lw_law_274 : decode cd_Lw_law 274 = .ok (.aload_n 1, 1) := by decide +kernel
theorem dc_Lw_law_275 : decode cd_Lw_law 275 = .ok (.aload_n 3, 1) := by decide +kernel
theorem dc_Lw_law_276 : decode cd_Lw_law 276 = .ok (.invokestatic 76, 3) := by decide +kernel
theorem dc_Lw_law_279 : decode cd_Lw_law 279 = .ok (.istore 5, 2) := by decide +kernel
theorem dc_Lw_law_281 : decode cd_Lw_law 281 = .ok (.aload_n 2, 1) := by decide +kernel
theorem dc_Lw_law_282 : decode cd_Lw_law 282 = .ok (.invokevirtual 79, 3) := by decide +kernel
theorem dc_Lw_law_285 : decode cd_Lw_law 285 = .ok (.istore 6, 2) := by decide +kernel
theorem dc_Lw_law_287 : decode cd_Lw_law 287 = .ok (.aload_n 2, 1) := by decide +kernel
theorem dc_Lw_law_288 : decode cd_Lw_law 288 = .ok (.invokevirtual 61, 3) := by decide +kernel
theorem dc_Lw_law_291 : decode cd_Lw_law 291 = .ok (.iload 5, 2) := by decide +kernel
theorem dc_Lw_law_293 : decode cd_Lw_law 293 = .ok (.if_icmp .eq 5, 3) := by decide +kernel
theorem dc_Lw_law_296 : decode cd_Lw_law 296 = .ok (.iconst 0, 1) := by decide +kernel
theorem dc_Lw_law_298 : decode cd_Lw_law 298 = .ok (.iload 5, 2) := by decide +kernel
theorem dc_Lw_law_300 : decode cd_Lw_law 300 = .ok (.ifCond .ne 15, 3) := by decide +kernel
theorem dc_Lw_law_303 : decode cd_Lw_law 303 = .ok (.aload_n 3, 1) := by decide +kernel
theorem dc_Lw_law_304 : decode cd_Lw_law 304 = .ok (.iconst 0, 1) := by decide +kernel
theorem dc_Lw_law_305 : decode cd_Lw_law 305 = .ok (.laload, 1) := by decide +kernel
theorem dc_Lw_law_306 : decode cd_Lw_law 306 = .ok (.iload 6, 2) := by decide +kernel
theorem dc_Lw_law_308 : decode cd_Lw_law 308 = .ok (.i2l, 1) := by decide +kernel
theorem dc_Lw_law_309 : decode cd_Lw_law 309 = .ok (.lcmp, 1) := by decide +kernel
theorem dc_Lw_law_310 : decode cd_Lw_law 310 = .ok (.ifCond .eq 5, 3) := by decide +kernel
theorem dc_Lw_law_313 : decode cd_Lw_law 313 = .ok (.iconst 0, 1) := by decide +kernel
theorem dc_Lw_law_315 : decode cd_Lw_law 315 = .ok (.goto 396, 3) := by decide +kernel
theorem dc_Lw_law_318 : decode cd_Lw_law 318 = .ok (.aload_n 1, 1) := by decide +kernel
theorem dc_Lw_law_319 : decode cd_Lw_law 319 = .ok (.aload_n 3, 1) := by decide +kernel
theorem dc_Lw_law_320 : decode cd_Lw_law 320 = .ok (.invokestatic 80, 3) := by decide +kernel
theorem dc_Lw_law_323 : decode cd_Lw_law 323 = .ok (.istore 5, 2) := by decide +kernel
theorem dc_Lw_law_325 : decode cd_Lw_law 325 = .ok (.aload_n 2, 1) := by decide +kernel
theorem dc_Lw_law_326 : decode cd_Lw_law 326 = .ok (.invokevirtual 82, 3) := by decide +kernel
theorem dc_Lw_law_329 : decode cd_Lw_law 329 = .ok (.istore 6, 2) := by decide +kernel
theorem dc_Lw_law_331 : decode cd_Lw_law 331 = .ok (.aload_n 2, 1) := by decide +kernel
theorem dc_Lw_law_332 : decode cd_Lw_law 332 = .ok (.invokevirtual 61, 3) := by decide +kernel
theorem dc_Lw_law_335 : decode cd_Lw_law 335 = .ok (.iload 5, 2) := by decide +kernel
theorem dc_Lw_law_337 : decode cd_Lw_law 337 = .ok (.if_icmp .eq 5, 3) := by decide +kernel
theorem dc_Lw_law_340 : decode cd_Lw_law 340 = .ok (.iconst 0, 1) := by decide +kernel
theorem dc_Lw_law_342 : decode cd_Lw_law 342 = .ok (.iload 5, 2) := by decide +kernel
theorem dc_Lw_law_344 : decode cd_Lw_law 344 = .ok (.ifCond .ne 15, 3) := by decide +kernel
theorem dc_Lw_law_347 : decode cd_Lw_law 347 = .ok (.aload_n 3, 1) := by decide +kernel
theorem dc_Lw_law_348 : decode cd_Lw_law 348 = .ok (.iconst 0, 1) := by decide +kernel
theorem dc_Lw_law_349 : decode cd_Lw_law 349 = .ok (.laload, 1) := by decide +kernel
theorem dc_Lw_law_350 : decode cd_Lw_law 350 = .ok (.iload 6, 2) := by decide +kernel
theorem dc_Lw_law_352 : decode cd_Lw_law 352 = .ok (.i2l, 1) := by decide +kernel
theorem dc_Lw_law_353 : decode cd_Lw_law 353 = .ok (.lcmp, 1) := by decide +kernel
theorem dc_Lw_law_354 : decode cd_Lw_law 354 = .ok (.ifCond .eq 5, 3) := by decide +kernel
theorem dc_Lw_law_357 : decode cd_Lw_law 357 = .ok (.iconst 0, 1) := by decide +kernel
theorem dc_Lw_law_359 : decode cd_Lw_law 359 = .ok (.goto 352, 3) := by decide +kernel
theorem dc_Lw_law_362 : decode cd_Lw_law 362 = .ok (.aload_n 1, 1) := by decide +kernel
theorem dc_Lw_law_363 : decode cd_Lw_law 363 = .ok (.invokevirtual 83, 3) := by decide +kernel
theorem dc_Lw_law_366 : decode cd_Lw_law 366 = .ok (.aload_n 2, 1) := by decide +kernel
theorem dc_Lw_law_367 : decode cd_Lw_law 367 = .ok (.invokevirtual 86, 3) := by decide +kernel
theorem dc_Lw_law_370 : decode cd_Lw_law 370 = .ok (.if_icmp .eq 341, 3) := by decide +kernel
theorem dc_Lw_law_373 : decode cd_Lw_law 373 = .ok (.iconst 0, 1) := by decide +kernel
theorem dc_Lw_law_375 : decode cd_Lw_law 375 = .ok (.aload_n 1, 1) := by decide +kernel
theorem dc_Lw_law_376 : decode cd_Lw_law 376 = .ok (.aload_n 0, 1) := by decide +kernel
theorem dc_Lw_law_377 : decode cd_Lw_law 377 = .ok (.iload 4, 2) := by decide +kernel
theorem dc_Lw_law_379 : decode cd_Lw_law 379 = .ok (.iconst 1, 1) := by decide +kernel
theorem dc_Lw_law_380 : decode cd_Lw_law 380 = .ok (.iadd, 1) := by decide +kernel
theorem dc_Lw_law_381 : decode cd_Lw_law 381 = .ok (.iaload, 1) := by decide +kernel
theorem dc_Lw_law_382 : decode cd_Lw_law 382 = .ok (.aload_n 0, 1) := by decide +kernel
theorem dc_Lw_law_383 : decode cd_Lw_law 383 = .ok (.iload 4, 2) := by decide +kernel
theorem dc_Lw_law_385 : decode cd_Lw_law 385 = .ok (.iconst 2, 1) := by decide +kernel
theorem dc_Lw_law_386 : decode cd_Lw_law 386 = .ok (.iadd, 1) := by decide +kernel
theorem dc_Lw_law_387 : decode cd_Lw_law 387 = .ok (.iaload, 1) := by decide +kernel
theorem dc_Lw_law_388 : decode cd_Lw_law 388 = .ok (.aload_n 3, 1) := by decide +kernel
theorem dc_Lw_law_389 : decode cd_Lw_law 389 = .ok (.invokestatic 87, 3) := by decide +kernel
theorem dc_Lw_law_392 : decode cd_Lw_law 392 = .ok (.istore 5, 2) := by decide +kernel
theorem dc_Lw_law_394 : decode cd_Lw_law 394 = .ok (.aload_n 2, 1) := by decide +kernel
theorem dc_Lw_law_395 : decode cd_Lw_law 395 = .ok (.aload_n 0, 1) := by decide +kernel
theorem dc_Lw_law_396 : decode cd_Lw_law 396 = .ok (.iload 4, 2) := by decide +kernel
theorem dc_Lw_law_398 : decode cd_Lw_law 398 = .ok (.iconst 1, 1) := by decide +kernel
theorem dc_Lw_law_399 : decode cd_Lw_law 399 = .ok (.iadd, 1) := by decide +kernel
theorem dc_Lw_law_400 : decode cd_Lw_law 400 = .ok (.iaload, 1) := by decide +kernel
theorem dc_Lw_law_401 : decode cd_Lw_law 401 = .ok (.aload_n 0, 1) := by decide +kernel
theorem dc_Lw_law_402 : decode cd_Lw_law 402 = .ok (.iload 4, 2) := by decide +kernel
theorem dc_Lw_law_404 : decode cd_Lw_law 404 = .ok (.iconst 2, 1) := by decide +kernel
theorem dc_Lw_law_405 : decode cd_Lw_law 405 = .ok (.iadd, 1) := by decide +kernel
theorem dc_Lw_law_406 : decode cd_Lw_law 406 = .ok (.iaload, 1) := by decide +kernel
theorem dc_Lw_law_407 : decode cd_Lw_law 407 = .ok (.invokevirtual 90, 3) := by decide +kernel
theorem dc_Lw_law_410 : decode cd_Lw_law 410 = .ok (.istore 6, 2) := by decide +kernel
theorem dc_Lw_law_412 : decode cd_Lw_law 412 = .ok (.aload_n 2, 1) := by decide +kernel
theorem dc_Lw_law_413 : decode cd_Lw_law 413 = .ok (.invokevirtual 61, 3) := by decide +kernel
theorem dc_Lw_law_416 : decode cd_Lw_law 416 = .ok (.iload 5, 2) := by decide +kernel
theorem dc_Lw_law_418 : decode cd_Lw_law 418 = .ok (.if_icmp .eq 5, 3) := by decide +kernel
theorem dc_Lw_law_421 : decode cd_Lw_law 421 = .ok (.iconst 0, 1) := by decide +kernel
theorem dc_Lw_law_423 : decode cd_Lw_law 423 = .ok (.iload 5, 2) := by decide +kernel
theorem dc_Lw_law_425 : decode cd_Lw_law 425 = .ok (.ifCond .ne 22, 3) := by decide +kernel
theorem dc_Lw_law_428 : decode cd_Lw_law 428 = .ok (.aload_n 3, 1) := by decide +kernel
theorem dc_Lw_law_429 : decode cd_Lw_law 429 = .ok (.iconst 0, 1) := by decide +kernel
theorem dc_Lw_law_430 : decode cd_Lw_law 430 = .ok (.laload, 1) := by decide +kernel
theorem dc_Lw_law_431 : decode cd_Lw_law 431 = .ok (.iload 6, 2) := by decide +kernel
theorem dc_Lw_law_433 : decode cd_Lw_law 433 = .ok (.ifCond .eq 7, 3) := by decide +kernel
theorem dc_Lw_law_436 : decode cd_Lw_law 436 = .ok (.lconst 1, 1) := by decide +kernel
theorem dc_Lw_law_437 : decode cd_Lw_law 437 = .ok (.goto 4, 3) := by decide +kernel
theorem dc_Lw_law_440 : decode cd_Lw_law 440 = .ok (.lconst 0, 1) := by decide +kernel
theorem dc_Lw_law_441 : decode cd_Lw_law 441 = .ok (.lcmp, 1) := by decide +kernel
theorem dc_Lw_law_442 : decode cd_Lw_law 442 = .ok (.ifCond .eq 5, 3) := by decide +kernel
theorem dc_Lw_law_445 : decode cd_Lw_law 445 = .ok (.iconst 0, 1) := by decide +kernel
theorem dc_Lw_law_447 : decode cd_Lw_law 447 = .ok (.goto 264, 3) := by decide +kernel
theorem dc_Lw_law_450 : decode cd_Lw_law 450 = .ok (.aload_n 1, 1) := by decide +kernel
theorem dc_Lw_law_451 : decode cd_Lw_law 451 = .ok (.aload_n 0, 1) := by decide +kernel
theorem dc_Lw_law_452 : decode cd_Lw_law 452 = .ok (.iload 4, 2) := by decide +kernel
theorem dc_Lw_law_454 : decode cd_Lw_law 454 = .ok (.iconst 1, 1) := by decide +kernel
theorem dc_Lw_law_455 : decode cd_Lw_law 455 = .ok (.iadd, 1) := by decide +kernel
theorem dc_Lw_law_456 : decode cd_Lw_law 456 = .ok (.iaload, 1) := by decide +kernel
theorem dc_Lw_law_457 : decode cd_Lw_law 457 = .ok (.aload_n 0, 1) := by decide +kernel
theorem dc_Lw_law_458 : decode cd_Lw_law 458 = .ok (.iload 4, 2) := by decide +kernel
theorem dc_Lw_law_460 : decode cd_Lw_law 460 = .ok (.iconst 2, 1) := by decide +kernel
theorem dc_Lw_law_461 : decode cd_Lw_law 461 = .ok (.iadd, 1) := by decide +kernel
theorem dc_Lw_law_462 : decode cd_Lw_law 462 = .ok (.iaload, 1) := by decide +kernel
theorem dc_Lw_law_463 : decode cd_Lw_law 463 = .ok (.aload_n 3, 1) := by decide +kernel
theorem dc_Lw_law_464 : decode cd_Lw_law 464 = .ok (.invokestatic 91, 3) := by decide +kernel
theorem dc_Lw_law_467 : decode cd_Lw_law 467 = .ok (.istore 5, 2) := by decide +kernel
theorem dc_Lw_law_469 : decode cd_Lw_law 469 = .ok (.aload_n 2, 1) := by decide +kernel
theorem dc_Lw_law_470 : decode cd_Lw_law 470 = .ok (.aload_n 0, 1) := by decide +kernel
theorem dc_Lw_law_471 : decode cd_Lw_law 471 = .ok (.iload 4, 2) := by decide +kernel
theorem dc_Lw_law_473 : decode cd_Lw_law 473 = .ok (.iconst 1, 1) := by decide +kernel
theorem dc_Lw_law_474 : decode cd_Lw_law 474 = .ok (.iadd, 1) := by decide +kernel
theorem dc_Lw_law_475 : decode cd_Lw_law 475 = .ok (.iaload, 1) := by decide +kernel
theorem dc_Lw_law_476 : decode cd_Lw_law 476 = .ok (.aload_n 0, 1) := by decide +kernel
theorem dc_Lw_law_477 : decode cd_Lw_law 477 = .ok (.iload 4, 2) := by decide +kernel
theorem dc_Lw_law_479 : decode cd_Lw_law 479 = .ok (.iconst 2, 1) := by decide +kernel
theorem dc_Lw_law_480 : decode cd_Lw_law 480 = .ok (.iadd, 1) := by decide +kernel
theorem dc_Lw_law_481 : decode cd_Lw_law 481 = .ok (.iaload, 1) := by decide +kernel
theorem dc_Lw_law_482 : decode cd_Lw_law 482 = .ok (.invokevirtual 93, 3) := by decide +kernel
theorem dc_Lw_law_485 : decode cd_Lw_law 485 = .ok (.istore 6, 2) := by decide +kernel
theorem dc_Lw_law_487 : decode cd_Lw_law 487 = .ok (.aload_n 2, 1) := by decide +kernel
theorem dc_Lw_law_488 : decode cd_Lw_law 488 = .ok (.invokevirtual 61, 3) := by decide +kernel
theorem dc_Lw_law_491 : decode cd_Lw_law 491 = .ok (.iload 5, 2) := by decide +kernel
theorem dc_Lw_law_493 : decode cd_Lw_law 493 = .ok (.if_icmp .eq 5, 3) := by decide +kernel
theorem dc_Lw_law_496 : decode cd_Lw_law 496 = .ok (.iconst 0, 1) := by decide +kernel
theorem dc_Lw_law_498 : decode cd_Lw_law 498 = .ok (.iload 5, 2) := by decide +kernel
theorem dc_Lw_law_500 : decode cd_Lw_law 500 = .ok (.ifCond .ne 15, 3) := by decide +kernel
theorem dc_Lw_law_503 : decode cd_Lw_law 503 = .ok (.aload_n 3, 1) := by decide +kernel
theorem dc_Lw_law_504 : decode cd_Lw_law 504 = .ok (.iconst 0, 1) := by decide +kernel
theorem dc_Lw_law_505 : decode cd_Lw_law 505 = .ok (.laload, 1) := by decide +kernel
theorem dc_Lw_law_506 : decode cd_Lw_law 506 = .ok (.iload 6, 2) := by decide +kernel
theorem dc_Lw_law_508 : decode cd_Lw_law 508 = .ok (.i2l, 1) := by decide +kernel
theorem dc_Lw_law_509 : decode cd_Lw_law 509 = .ok (.lcmp, 1) := by decide +kernel
theorem dc_Lw_law_510 : decode cd_Lw_law 510 = .ok (.ifCond .eq 5, 3) := by decide +kernel
theorem dc_Lw_law_513 : decode cd_Lw_law 513 = .ok (.iconst 0, 1) := by decide +kernel
theorem dc_Lw_law_515 : decode cd_Lw_law 515 = .ok (.goto 196, 3) := by decide +kernel
theorem dc_Lw_law_518 : decode cd_Lw_law 518 = .ok (.aload_n 1, 1) := by decide +kernel
theorem dc_Lw_law_519 : decode cd_Lw_law 519 = .ok (.aload_n 0, 1) := by decide +kernel
theorem dc_Lw_law_520 : decode cd_Lw_law 520 = .ok (.iload 4, 2) := by decide +kernel
theorem dc_Lw_law_522 : decode cd_Lw_law 522 = .ok (.iconst 1, 1) := by decide +kernel
theorem dc_Lw_law_523 : decode cd_Lw_law 523 = .ok (.iadd, 1) := by decide +kernel
theorem dc_Lw_law_524 : decode cd_Lw_law 524 = .ok (.iaload, 1) := by decide +kernel
theorem dc_Lw_law_525 : decode cd_Lw_law 525 = .ok (.aload_n 0, 1) := by decide +kernel
theorem dc_Lw_law_526 : decode cd_Lw_law 526 = .ok (.iload 4, 2) := by decide +kernel
theorem dc_Lw_law_528 : decode cd_Lw_law 528 = .ok (.iconst 2, 1) := by decide +kernel
theorem dc_Lw_law_529 : decode cd_Lw_law 529 = .ok (.iadd, 1) := by decide +kernel
theorem dc_Lw_law_530 : decode cd_Lw_law 530 = .ok (.iaload, 1) := by decide +kernel
theorem dc_Lw_law_531 : decode cd_Lw_law 531 = .ok (.aload_n 0, 1) := by decide +kernel
theorem dc_Lw_law_532 : decode cd_Lw_law 532 = .ok (.iload 4, 2) := by decide +kernel
theorem dc_Lw_law_534 : decode cd_Lw_law 534 = .ok (.iconst 3, 1) := by decide +kernel
theorem dc_Lw_law_535 : decode cd_Lw_law 535 = .ok (.iadd, 1) := by decide +kernel
theorem dc_Lw_law_536 : decode cd_Lw_law 536 = .ok (.iaload, 1) := by decide +kernel
theorem dc_Lw_law_537 : decode cd_Lw_law 537 = .ok (.aload_n 3, 1) := by decide +kernel
theorem dc_Lw_law_538 : decode cd_Lw_law 538 = .ok (.invokestatic 94, 3) := by decide +kernel
theorem dc_Lw_law_541 : decode cd_Lw_law 541 = .ok (.istore 5, 2) := by decide +kernel
theorem dc_Lw_law_543 : decode cd_Lw_law 543 = .ok (.aload_n 2, 1) := by decide +kernel
theorem dc_Lw_law_544 : decode cd_Lw_law 544 = .ok (.aload_n 0, 1) := by decide +kernel
theorem dc_Lw_law_545 : decode cd_Lw_law 545 = .ok (.iload 4, 2) := by decide +kernel
theorem dc_Lw_law_547 : decode cd_Lw_law 547 = .ok (.iconst 1, 1) := by decide +kernel
theorem dc_Lw_law_548 : decode cd_Lw_law 548 = .ok (.iadd, 1) := by decide +kernel
theorem dc_Lw_law_549 : decode cd_Lw_law 549 = .ok (.iaload, 1) := by decide +kernel
theorem dc_Lw_law_550 : decode cd_Lw_law 550 = .ok (.aload_n 0, 1) := by decide +kernel
theorem dc_Lw_law_551 : decode cd_Lw_law 551 = .ok (.iload 4, 2) := by decide +kernel
theorem dc_Lw_law_553 : decode cd_Lw_law 553 = .ok (.iconst 2, 1) := by decide +kernel
theorem dc_Lw_law_554 : decode cd_Lw_law 554 = .ok (.iadd, 1) := by decide +kernel
theorem dc_Lw_law_555 : decode cd_Lw_law 555 = .ok (.iaload, 1) := by decide +kernel
theorem dc_Lw_law_556 : decode cd_Lw_law 556 = .ok (.aload_n 0, 1) := by decide +kernel
theorem dc_Lw_law_557 : decode cd_Lw_law 557 = .ok (.iload 4, 2) := by decide +kernel
theorem dc_Lw_law_559 : decode cd_Lw_law 559 = .ok (.iconst 3, 1) := by decide +kernel
theorem dc_Lw_law_560 : decode cd_Lw_law 560 = .ok (.iadd, 1) := by decide +kernel
theorem dc_Lw_law_561 : decode cd_Lw_law 561 = .ok (.iaload, 1) := by decide +kernel
theorem dc_Lw_law_562 : decode cd_Lw_law 562 = .ok (.invokevirtual 97, 3) := by decide +kernel
theorem dc_Lw_law_565 : decode cd_Lw_law 565 = .ok (.istore 6, 2) := by decide +kernel
theorem dc_Lw_law_567 : decode cd_Lw_law 567 = .ok (.aload_n 2, 1) := by decide +kernel
theorem dc_Lw_law_568 : decode cd_Lw_law 568 = .ok (.invokevirtual 61, 3) := by decide +kernel
theorem dc_Lw_law_571 : decode cd_Lw_law 571 = .ok (.iload 5, 2) := by decide +kernel
theorem dc_Lw_law_573 : decode cd_Lw_law 573 = .ok (.if_icmp .eq 5, 3) := by decide +kernel
theorem dc_Lw_law_576 : decode cd_Lw_law 576 = .ok (.iconst 0, 1) := by decide +kernel
theorem dc_Lw_law_578 : decode cd_Lw_law 578 = .ok (.iload 5, 2) := by decide +kernel
theorem dc_Lw_law_580 : decode cd_Lw_law 580 = .ok (.ifCond .ne 15, 3) := by decide +kernel
theorem dc_Lw_law_583 : decode cd_Lw_law 583 = .ok (.aload_n 3, 1) := by decide +kernel
theorem dc_Lw_law_584 : decode cd_Lw_law 584 = .ok (.iconst 0, 1) := by decide +kernel
theorem dc_Lw_law_585 : decode cd_Lw_law 585 = .ok (.laload, 1) := by decide +kernel
theorem dc_Lw_law_586 : decode cd_Lw_law 586 = .ok (.iload 6, 2) := by decide +kernel
theorem dc_Lw_law_588 : decode cd_Lw_law 588 = .ok (.i2l, 1) := by decide +kernel
theorem dc_Lw_law_589 : decode cd_Lw_law 589 = .ok (.lcmp, 1) := by decide +kernel
theorem dc_Lw_law_590 : decode cd_Lw_law 590 = .ok (.ifCond .eq 5, 3) := by decide +kernel
theorem dc_Lw_law_593 : decode cd_Lw_law 593 = .ok (.iconst 0, 1) := by decide +kernel
theorem dc_Lw_law_595 : decode cd_Lw_law 595 = .ok (.goto 116, 3) := by decide +kernel
theorem dc_Lw_law_598 : decode cd_Lw_law 598 = .ok (.aload_n 1, 1) := by decide +kernel
theorem dc_Lw_law_599 : decode cd_Lw_law 599 = .ok (.aload_n 3, 1) := by decide +kernel
theorem dc_Lw_law_600 : decode cd_Lw_law 600 = .ok (.invokestatic 98, 3) := by decide +kernel
theorem dc_Lw_law_603 : decode cd_Lw_law 603 = .ok (.istore 5, 2) := by decide +kernel
theorem dc_Lw_law_605 : decode cd_Lw_law 605 = .ok (.aload_n 2, 1) := by decide +kernel
theorem dc_Lw_law_606 : decode cd_Lw_law 606 = .ok (.invokevirtual 100, 3) := by decide +kernel
theorem dc_Lw_law_609 : decode cd_Lw_law 609 = .ok (.istore 6, 2) := by decide +kernel
theorem dc_Lw_law_611 : decode cd_Lw_law 611 = .ok (.aload_n 2, 1) := by decide +kernel
theorem dc_Lw_law_612 : decode cd_Lw_law 612 = .ok (.invokevirtual 61, 3) := by decide +kernel
theorem dc_Lw_law_615 : decode cd_Lw_law 615 = .ok (.iload 5, 2) := by decide +kernel
theorem dc_Lw_law_617 : decode cd_Lw_law 617 = .ok (.if_icmp .eq 5, 3) := by decide +kernel
theorem dc_Lw_law_620 : decode cd_Lw_law 620 = .ok (.iconst 0, 1) := by decide +kernel
theorem dc_Lw_law_622 : decode cd_Lw_law 622 = .ok (.iload 5, 2) := by decide +kernel
theorem dc_Lw_law_624 : decode cd_Lw_law 624 = .ok (.ifCond .ne 15, 3) := by decide +kernel
theorem dc_Lw_law_627 : decode cd_Lw_law 627 = .ok (.aload_n 3, 1) := by decide +kernel
theorem dc_Lw_law_628 : decode cd_Lw_law 628 = .ok (.iconst 0, 1) := by decide +kernel
theorem dc_Lw_law_629 : decode cd_Lw_law 629 = .ok (.laload, 1) := by decide +kernel
theorem dc_Lw_law_630 : decode cd_Lw_law 630 = .ok (.iload 6, 2) := by decide +kernel
theorem dc_Lw_law_632 : decode cd_Lw_law 632 = .ok (.i2l, 1) := by decide +kernel
theorem dc_Lw_law_633 : decode cd_Lw_law 633 = .ok (.lcmp, 1) := by decide +kernel
theorem dc_Lw_law_634 : decode cd_Lw_law 634 = .ok (.ifCond .eq 5, 3) := by decide +kernel
theorem dc_Lw_law_637 : decode cd_Lw_law 637 = .ok (.iconst 0, 1) := by decide +kernel
theorem dc_Lw_law_639 : decode cd_Lw_law 639 = .ok (.goto 72, 3) := by decide +kernel
theorem dc_Lw_law_642 : decode cd_Lw_law 642 = .ok (.aload_n 1, 1) := by decide +kernel
theorem dc_Lw_law_643 : decode cd_Lw_law 643 = .ok (.invokevirtual 101, 3) := by decide +kernel
theorem dc_Lw_law_646 : decode cd_Lw_law 646 = .ok (.aload_n 2, 1) := by decide +kernel
theorem dc_Lw_law_647 : decode cd_Lw_law 647 = .ok (.invokevirtual 104, 3) := by decide +kernel
theorem dc_Lw_law_650 : decode cd_Lw_law 650 = .ok (.if_icmp .eq 61, 3) := by decide +kernel
theorem dc_Lw_law_653 : decode cd_Lw_law 653 = .ok (.iconst 0, 1) := by decide +kernel
theorem dc_Lw_law_655 : decode cd_Lw_law 655 = .ok (.aload_n 1, 1) := by decide +kernel
theorem dc_Lw_law_656 : decode cd_Lw_law 656 = .ok (.aload_n 0, 1) := by decide +kernel
theorem dc_Lw_law_657 : decode cd_Lw_law 657 = .ok (.iload 4, 2) := by decide +kernel
theorem dc_Lw_law_659 : decode cd_Lw_law 659 = .ok (.iconst 1, 1) := by decide +kernel
theorem dc_Lw_law_660 : decode cd_Lw_law 660 = .ok (.iadd, 1) := by decide +kernel
theorem dc_Lw_law_661 : decode cd_Lw_law 661 = .ok (.iaload, 1) := by decide +kernel
theorem dc_Lw_law_662 : decode cd_Lw_law 662 = .ok (.aload_n 3, 1) := by decide +kernel
theorem dc_Lw_law_663 : decode cd_Lw_law 663 = .ok (.invokestatic 105, 3) := by decide +kernel
theorem dc_Lw_law_666 : decode cd_Lw_law 666 = .ok (.istore 5, 2) := by decide +kernel
theorem dc_Lw_law_668 : decode cd_Lw_law 668 = .ok (.aload_n 2, 1) := by decide +kernel
theorem dc_Lw_law_669 : decode cd_Lw_law 669 = .ok (.aload_n 0, 1) := by decide +kernel
theorem dc_Lw_law_670 : decode cd_Lw_law 670 = .ok (.iload 4, 2) := by decide +kernel
theorem dc_Lw_law_672 : decode cd_Lw_law 672 = .ok (.iconst 1, 1) := by decide +kernel
theorem dc_Lw_law_673 : decode cd_Lw_law 673 = .ok (.iadd, 1) := by decide +kernel
theorem dc_Lw_law_674 : decode cd_Lw_law 674 = .ok (.iaload, 1) := by decide +kernel
theorem dc_Lw_law_675 : decode cd_Lw_law 675 = .ok (.invokevirtual 108, 3) := by decide +kernel
theorem dc_Lw_law_678 : decode cd_Lw_law 678 = .ok (.istore 6, 2) := by decide +kernel
theorem dc_Lw_law_680 : decode cd_Lw_law 680 = .ok (.aload_n 2, 1) := by decide +kernel
theorem dc_Lw_law_681 : decode cd_Lw_law 681 = .ok (.invokevirtual 61, 3) := by decide +kernel
theorem dc_Lw_law_684 : decode cd_Lw_law 684 = .ok (.iload 5, 2) := by decide +kernel
theorem dc_Lw_law_686 : decode cd_Lw_law 686 = .ok (.if_icmp .eq 5, 3) := by decide +kernel
theorem dc_Lw_law_689 : decode cd_Lw_law 689 = .ok (.iconst 0, 1) := by decide +kernel
theorem dc_Lw_law_691 : decode cd_Lw_law 691 = .ok (.iload 5, 2) := by decide +kernel
theorem dc_Lw_law_693 : decode cd_Lw_law 693 = .ok (.ifCond .ne 15, 3) := by decide +kernel
theorem dc_Lw_law_696 : decode cd_Lw_law 696 = .ok (.aload_n 3, 1) := by decide +kernel
theorem dc_Lw_law_697 : decode cd_Lw_law 697 = .ok (.iconst 0, 1) := by decide +kernel
theorem dc_Lw_law_698 : decode cd_Lw_law 698 = .ok (.laload, 1) := by decide +kernel
theorem dc_Lw_law_699 : decode cd_Lw_law 699 = .ok (.iload 6, 2) := by decide +kernel
theorem dc_Lw_law_701 : decode cd_Lw_law 701 = .ok (.i2l, 1) := by decide +kernel
theorem dc_Lw_law_702 : decode cd_Lw_law 702 = .ok (.lcmp, 1) := by decide +kernel
theorem dc_Lw_law_703 : decode cd_Lw_law 703 = .ok (.ifCond .eq 5, 3) := by decide +kernel
theorem dc_Lw_law_706 : decode cd_Lw_law 706 = .ok (.iconst 0, 1) := by decide +kernel
theorem dc_Lw_law_708 : decode cd_Lw_law 708 = .ok (.goto 3, 3) := by decide +kernel
theorem dc_Lw_law_711 : decode cd_Lw_law 711 = .ok (.iinc 4 6, 3) := by decide +kernel
theorem dc_Lw_law_714 : decode cd_Lw_law 714 = .ok (.goto (-691), 3) := by decide +kernel
theorem dc_Lw_law_717 : decode cd_Lw_law 717 = .ok (.iconst 1, 1) := by decide +kernel
theorem dc_Lw_law_718 : decode cd_Lw_law 718 = .ok (.ireturn, 1) := by decide +kernel
/-! the law's loop: what holds at its head -/
set_option maxHeartbeats 4000000 in
set_option maxRecDepth 100000 in
def lwCs (t : Int32 × Int32 × Int32 × Int32 × Int32 × (Nat → Int32) × Nat × Int32 × Nat × Int32 × Int32 × Nat × ClassId × Nat × (Nat → Int32) × Nat × ClassId × Nat × (Nat → Int32) × Nat × ClassId × Nat × (Nat → Int32) × Nat × ClassId × Nat × (Nat → Int32) × Nat × ClassId × Nat × (Nat → Int32) × Nat × ClassId × Nat × (Nat → Int32) × Nat × ClassId × Nat × (Nat → Int32) × Nat × Int32 × Int32 × Nat × ClassId × Nat × (Nat → Int32) × Nat × ClassId × Nat × (Nat → Int32) × Nat × ClassId × Nat × (Nat → Int32) × Nat × ClassId × (Nat → Int32) × Nat × ClassId × (Nat → Int32) × Nat × Nat × Int32 × Int32 × Nat × ClassId × Nat × (Nat → Int32) × Nat × ClassId × Nat × (Nat → Int32) × Nat × ClassId × Nat × (Nat → Int32) × Nat × ClassId × Nat × (Nat → Int32) × Nat × ClassId × Nat × (Nat → Int32) × Nat × ClassId × Nat × (Nat → Int32) × Nat × ClassId × (Nat → Int64) × Nat × Int32 × Nat × Int32 × Int32 × Nat × ClassId × Nat × (Nat → Int32) × Nat × ClassId × Nat × (Nat → Int32) × Nat × ClassId × Nat × (Nat → Int32) × Nat × ClassId × Nat × (Nat → Int32) × Nat × ClassId × Nat × (Nat → Int32) × Nat × ClassId × Nat × (Nat → Int32) × Nat × ClassId × Nat × (Nat → Int32) × Nat × Int32 × Int32 × Nat × ClassId × Nat × (Nat → Int32) × Nat × ClassId × Nat × (Nat → Int32) × Nat × ClassId × Nat × (Nat → Int32) × Nat × ClassId × (Nat → Int32) × Nat × ClassId × (Nat → Int32) × Nat × Nat × Int32 × Int32 × Nat × ClassId × Nat × (Nat → Int32) × Nat × ClassId × Nat × (Nat → Int32) × Nat × ClassId × Nat × (Nat → Int32) × Nat × ClassId × Nat × (Nat → Int32) × Nat × ClassId × Nat × (Nat → Int32) × Nat × ClassId × Nat × (Nat → Int32) × Nat × ClassId × (Nat → Int64) × Int32 × Int32 × (Nat → Int32) × (Nat → Int32) × (Nat → Int32) × (Nat → Int32) × (Nat → Int32) × (Nat → Int32) × (Nat → Int32) × Int32 × Int32 × Int32 × Int32 × Int32 × Option Nat × Option Nat × Int32 × Int32 × Int32 × Int32 × Int32 × Int32 × Int32 × Int32 × (Nat → Int32) × (Nat → Int32) × Nat × ClassId × Nat × (Nat → Int32) × Option Nat × Int32 × Int32 × Int32 × Int32 × Int32 × (Nat → Int32) × Int32 × Int32 × (Nat → Int32) × (Nat → Int32) × Nat × ClassId × Nat × (Nat → Int32) × (Nat → Int32) × Int32 × Int32 × (Nat → Int32) × (Nat → Int32) × Nat × ClassId × Nat × (Nat → Int32) × (Nat → Int32) × (Nat → Int32) × (Nat → Int32) × Int32 × Int32 × Int32 × Int32 × (Nat → Int64) × (Nat → Int32) × (Nat → Int32) × (Nat → Int32) × (Nat → Int32) × (Nat → Int32) × (Nat → Int32) × (Nat → Int32) × (Nat → Int32) × (Nat → Int32) × Int32 × Option Nat × Int32 × Option Nat × Int32 × Int32 × Int32 × (Nat → Int32) × Int32 × Int32 × (Nat → Int32) × (Nat → Int64) × (Nat → Int32) × (Nat → Int32) × (Nat → Int32) × (Nat → Int32) × Nat × ClassId × Nat × (Nat → Int64) × Nat × Int32 × Int32 × Int32 × Nat × ClassId × (Nat → Int64) × Nat × ClassId × (Nat → Int64) × Nat × ClassId × (Nat → Int32) × Nat × Int32 × Int32 × Int32 × Nat × ClassId × (Nat → Int64) × Nat × ClassId × (Nat → Int64) × Nat × ClassId × (Nat → Int32) × (Nat → Int32) × (Nat → Int32) × (Nat → Int32) × (Nat → Int32) × (Nat → Int32) × (Nat → Int32) × (Nat → Int32) × (Nat → Int32) × (Nat → Int32) × (Nat → Int32) × (Nat → Int32) × (Nat → Int32) × (Nat → Int64) × (Nat → Int32) × (Nat → Int32) × (Nat → Nat → Int32) × (Nat → Nat → Int32) × Int32 × Int32 × Int32 × Int32 × Int32 × Int32 × Int32 × Int32 × Int32 × Int32 × Int32 × Int64 × Int32 × Int32 × Int32 × Int32 × Int32 × Int32 × Int32 × Int32 × Int32 × Int32 × Int32 × Int32 × Int32 × Int32 × Int32 × Int32 × (Nat → Int32) × (Nat → Int32) × (Nat → Int32) × (Nat → Int32) × (Nat → Int32) × (Nat → Int32) × (Nat → Int32) × (Nat → Int32) × (Nat → Int32) × (Nat → Int32) × (Nat → Int32) × (Nat → Int32) × (Nat → Int32) × (Nat → Int32) × (Nat → Int32) × (Nat → Int32) × (Nat → Int32) × (Nat → Int32) × (Nat → Int32) × (Nat → Int32) × (Nat → Int32) × (Nat → Int32) × (Nat → Int32) × (Nat → Int32) × (Nat → Int32) × (Nat → Int32) × (Nat → Int32) × (Nat → Int32) × (Nat → Int32) × (Nat → Int32) × (Nat → Int32) × (Nat → Int32) × (Nat → Int32) × (Nat → Int32) × (Nat → Int32) × (Nat → Int32) × (Nat → Int64) × Nat × Nat) : Nat := t.2.2.2.2.2.2.2.2.2.2.2.2.2.2.2.2.2.2.2.2.2.2.2.2.2.2.2.2.2.2.2.2.2.2.2.2.2.2.2.2.2.2.2.2.2.2.2.2.2.2.2.2.2.2.2.2.2.2.2.2.2.2.2.2.2.2.2.2.2.2.2.2.2.2.2.2.2.2.2.2.2.2.2.2.2.2.2.2.2.2.2.2.2.2.2.2.2.2.2.2.2.2.2.2.2.2.2.2.2.2.2.2.2.2.2.2.2.2.2.2.2.2.2.2.2.2.2.2.2.2.2.2.2.2.2.2.2.2.2.2.2.2.2.2.2.2.2.2.2.2.2.2.2.2.2.2.2.2.2.2.2.2.2.2.2.2.2.2.2.2.2.2.2.2.2.2.2.2.2.2.2.2.2.2.2.2.2.2.2.2.2.2.2.2.2.2.2.2.2.2.2.2.2.2.2.2.2.2.2.2.2.2.2.2.2.2.2.2.2.2.2.2.2.2.2.2.2.2.2.2.2.2.2.2.2.2.2.2.2.2.2.2.2.2.2.2.2.2.2.2.2.2.2.2.2.2.2.2.2.2.2.2.2.2.2.2.2.2.2.2.2.2.2.2.2.2.2.2.2.2.2.2.2.2.2.2.2.2.2.2.2.2.2.2.2.2.2.2.2.2.2.2.2.2.2.2.2.2.2.2.2.2.2.2.2.2.2.2.2.2.2.2.2.2.2.2.2.2.2.2.2.2.2.2.2.2.2.2.2.2.2.2.2.2.2.2.2.2.2.2.2.2.2.2.2.2.2.2.2.2.2.2.2.2.2.2.2.2.2.2.2.2.2.2.2.1
set_option maxHeartbeats 4000000 in
set_option maxRecDepth 100000 in
def lwSl (t : Int32 × Int32 × Int32 × Int32 × Int32 × (Nat → Int32) × Nat × Int32 × Nat × Int32 × Int32 × Nat × ClassId × Nat × (Nat → Int32) × Nat × ClassId × Nat × (Nat → Int32) × Nat × ClassId × Nat × (Nat → Int32) × Nat × ClassId × Nat × (Nat → Int32) × Nat × ClassId × Nat × (Nat → Int32) × Nat × ClassId × Nat × (Nat → Int32) × Nat × ClassId × Nat × (Nat → Int32) × Nat × Int32 × Int32 × Nat × ClassId × Nat × (Nat → Int32) × Nat × ClassId × Nat × (Nat → Int32) × Nat × ClassId × Nat × (Nat → Int32) × Nat × ClassId × (Nat → Int32) × Nat × ClassId × (Nat → Int32) × Nat × Nat × Int32 × Int32 × Nat × ClassId × Nat × (Nat → Int32) × Nat × ClassId × Nat × (Nat → Int32) × Nat × ClassId × Nat × (Nat → Int32) × Nat × ClassId × Nat × (Nat → Int32) × Nat × ClassId × Nat × (Nat → Int32) × Nat × ClassId × Nat × (Nat → Int32) × Nat × ClassId × (Nat → Int64) × Nat × Int32 × Nat × Int32 × Int32 × Nat × ClassId × Nat × (Nat → Int32) × Nat × ClassId × Nat × (Nat → Int32) × Nat × ClassId × Nat × (Nat → Int32) × Nat × ClassId × Nat × (Nat → Int32) × Nat × ClassId × Nat × (Nat → Int32) × Nat × ClassId × Nat × (Nat → Int32) × Nat × ClassId × Nat × (Nat → Int32) × Nat × Int32 × Int32 × Nat × ClassId × Nat × (Nat → Int32) × Nat × ClassId × Nat × (Nat → Int32) × Nat × ClassId × Nat × (Nat → Int32) × Nat × ClassId × (Nat → Int32) × Nat × ClassId × (Nat → Int32) × Nat × Nat × Int32 × Int32 × Nat × ClassId × Nat × (Nat → Int32) × Nat × ClassId × Nat × (Nat → Int32) × Nat × ClassId × Nat × (Nat → Int32) × Nat × ClassId × Nat × (Nat → Int32) × Nat × ClassId × Nat × (Nat → Int32) × Nat × ClassId × Nat × (Nat → Int32) × Nat × ClassId × (Nat → Int64) × Int32 × Int32 × (Nat → Int32) × (Nat → Int32) × (Nat → Int32) × (Nat → Int32) × (Nat → Int32) × (Nat → Int32) × (Nat → Int32) × Int32 × Int32 × Int32 × Int32 × Int32 × Option Nat × Option Nat × Int32 × Int32 × Int32 × Int32 × Int32 × Int32 × Int32 × Int32 × (Nat → Int32) × (Nat → Int32) × Nat × ClassId × Nat × (Nat → Int32) × Option Nat × Int32 × Int32 × Int32 × Int32 × Int32 × (Nat → Int32) × Int32 × Int32 × (Nat → Int32) × (Nat → Int32) × Nat × ClassId × Nat × (Nat → Int32) × (Nat → Int32) × Int32 × Int32 × (Nat → Int32) × (Nat → Int32) × Nat × ClassId × Nat × (Nat → Int32) × (Nat → Int32) × (Nat → Int32) × (Nat → Int32) × Int32 × Int32 × Int32 × Int32 × (Nat → Int64) × (Nat → Int32) × (Nat → Int32) × (Nat → Int32) × (Nat → Int32) × (Nat → Int32) × (Nat → Int32) × (Nat → Int32) × (Nat → Int32) × (Nat → Int32) × Int32 × Option Nat × Int32 × Option Nat × Int32 × Int32 × Int32 × (Nat → Int32) × Int32 × Int32 × (Nat → Int32) × (Nat → Int64) × (Nat → Int32) × (Nat → Int32) × (Nat → Int32) × (Nat → Int32) × Nat × ClassId × Nat × (Nat → Int64) × Nat × Int32 × Int32 × Int32 × Nat × ClassId × (Nat → Int64) × Nat × ClassId × (Nat → Int64) × Nat × ClassId × (Nat → Int32) × Nat × Int32 × Int32 × Int32 × Nat × ClassId × (Nat → Int64) × Nat × ClassId × (Nat → Int64) × Nat × ClassId × (Nat → Int32) × (Nat → Int32) × (Nat → Int32) × (Nat → Int32) × (Nat → Int32) × (Nat → Int32) × (Nat → Int32) × (Nat → Int32) × (Nat → Int32) × (Nat → Int32) × (Nat → Int32) × (Nat → Int32) × (Nat → Int32) × (Nat → Int64) × (Nat → Int32) × (Nat → Int32) × (Nat → Nat → Int32) × (Nat → Nat → Int32) × Int32 × Int32 × Int32 × Int32 × Int32 × Int32 × Int32 × Int32 × Int32 × Int32 × Int32 × Int64 × Int32 × Int32 × Int32 × Int32 × Int32 × Int32 × Int32 × Int32 × Int32 × Int32 × Int32 × Int32 × Int32 × Int32 × Int32 × Int32 × (Nat → Int32) × (Nat → Int32) × (Nat → Int32) × (Nat → Int32) × (Nat → Int32) × (Nat → Int32) × (Nat → Int32) × (Nat → Int32) × (Nat → Int32) × (Nat → Int32) × (Nat → Int32) × (Nat → Int32) × (Nat → Int32) × (Nat → Int32) × (Nat → Int32) × (Nat → Int32) × (Nat → Int32) × (Nat → Int32) × (Nat → Int32) × (Nat → Int32) × (Nat → Int32) × (Nat → Int32) × (Nat → Int32) × (Nat → Int32) × (Nat → Int32) × (Nat → Int32) × (Nat → Int32) × (Nat → Int32) × (Nat → Int32) × (Nat → Int32) × (Nat → Int32) × (Nat → Int32) × (Nat → Int32) × (Nat → Int32) × (Nat → Int32) × (Nat → Int32) × (Nat → Int64) × Nat × Nat) : Nat := t.2.2.2.2.2.2.2.2.2.2.2.2.2.2.2.2.2.2.2.2.2.2.2.2.2.2.2.2.2.2.2.2.2.2.2.2.2.2.2.2.2.2.2.2.2.2.2.2.2.2.2.2.2.2.2.2.2.2.2.2.2.2.2.2.2.2.2.2.2.2.2.2.2.2.2.2.2.2.2.2.2.2.2.2.2.2.2.2.2.2.2.2.2.2.2.2.2.2.2.2.2.2.2.2.2.2.2.2.2.2.2.2.2.2.2.2.2.2.2.2.2.2.2.2.2.2.2.2.2.2.2.2.2.2.2.2.2.2.2.2.2.2.2.2.2.2.2.2.2.2.2.2.2.2.2.2.2.2.2.2.2.2.2.2.2.2.2.2.2.2.2.2.2.2.2.2.2.2.2.2.2.2.2.2.2.2.2.2.2.2.2.2.2.2.2.2.2.2.2.2.2.2.2.2.2.2.2.2.2.2.2.2.2.2.2.2.2.2.2.2.2.2.2.2.2.2.2.2.2.2.2.2.2.2.2.2.2.2.2.2.2.2.2.2.2.2.2.2.2.2.2.2.2.2.2.2.2.2.2.2.2.2.2.2.2.2.2.2.2.2.2.2.2.2.2.2.2.2.2.2.2.2.2.2.2.2.2.2.2.2.2.2.2.2.2.2.2.2.2.2.2.2.2.2.2.2.2.2.2.2.2.2.2.2.2.2.2.2.2.2.2.2.2.2.2.2.2.2.2.2.2.2.2.2.2.2.2.2.2.2.2.2.2.2.2.2.2.2.2.2.2.2.2.2.2.2.2.2.2.2.2.2.2.2.2.2.2.2.2.2.2.2.2.2.2.2
set_option maxHeartbeats 4000000 in
set_option maxRecDepth 100000 in
def lwInv (dC : Nat → ClassId) (dI : Nat → Nat → Nat) (s : State) (A : Nat → Prop) (b : Nat) (n_question_first n_question_kinds n_question_predicates n_question_places n_question_sizes n_question_masks n_question_terms n_reader_variables_starts n_reader_variables_lengths n_reader_ownPredicates_starts n_reader_ownPredicates_lengths n_reader_sides_names_starts n_reader_sides_names_lengths n_reader_sides_values n_reader_sides_byRank n_reader_sides_ranks h0 tape_ question_ reader_ facts_ join_ question_first_ question_kinds_ question_predicates_ question_places_ question_sizes_ question_masks_ question_terms_ reader_variables_ reader_tokens_ reader_needed_ reader_ownPredicates_ reader_ownSizes_ reader_sides_ reader_variables_starts_ reader_variables_lengths_ reader_ownPredicates_starts_ reader_ownPredicates_lengths_ reader_sides_names_ reader_sides_values_ reader_sides_byRank_ reader_sides_ranks_ reader_sides_names_starts_ reader_sides_names_lengths_ facts_keys_ facts_stages_ facts_amounts_ facts_predicates_ facts_next_ facts_slots_ facts_oldest_ facts_newest_ facts_known_ facts_knownBefore_ join_values_ join_indexes_ join_steps_ join_indexes_shapes_ join_indexes_fixed_ join_indexes_firsts_ join_indexes_lasts_ join_indexes_froms_ join_indexes_tos_ mh0 m_tape_ m_text_ m_predFrom_ m_predLength_ m_predArity_ m_preds_ m_conNumber_ m_conValue_ m_conFrom_ m_cons_ m_clauses_ m_litCount_ m_litKind_ m_litPred_ m_litTerms_ m_varCount_ m_litPlace_ m_notPlace_ m_termPlace_ m_litArity_ m_varFrom_ m_varLength_ m_depends_ m_strata_ m_factPred_ m_factTerms_ m_factStage_ m_table_ m_sought_ m_values_ m_boundBy_ m_atoms_ m_at_ m_rowCells_ m_newCells_ m_newColumns_ out_ : Nat) (k_tape k_question_first k_question_kinds k_question_predicates k_question_places k_question_sizes k_question_masks k_question_terms k_reader_variables_starts k_reader_variables_lengths k_reader_needed k_reader_ownPredicates_starts k_reader_ownPredicates_lengths k_reader_ownSizes k_reader_sides_names_starts k_reader_sides_names_lengths k_reader_sides_values k_reader_sides_byRank k_reader_sides_ranks k_facts_keys k_facts_stages k_facts_amounts k_facts_predicates k_facts_next k_facts_slots k_facts_oldest k_facts_newest k_facts_known k_facts_knownBefore k_join_values k_join_indexes_shapes k_join_indexes_fixed k_join_indexes_firsts k_join_indexes_lasts k_join_indexes_froms k_join_indexes_tos k_join_steps k_m_tape k_m_text k_m_predFrom k_m_predLength k_m_predArity k_m_preds k_m_conNumber k_m_conValue k_m_conFrom k_m_cons k_m_clauses k_m_litCount k_m_litKind k_m_litPred k_m_litTerms k_m_varCount k_m_litPlace k_m_notPlace k_m_termPlace k_m_litArity k_m_varFrom k_m_varLength k_m_depends k_m_strata k_m_factPred k_m_factTerms k_m_factStage k_m_table k_m_sought k_m_values k_m_boundBy k_m_atoms k_m_at k_m_rowCells k_m_newCells k_m_newColumns k_out : ClassId) (sa st_a_roles st_a_variables : Nat → Nat) (st_k_roles st_k_variables : Nat → ClassId) : (Int32 × Int32 × Int32 × Int32 × Int32 × (Nat → Int32) × Nat × Int32 × Nat × Int32 × Int32 × Nat × ClassId × Nat × (Nat → Int32) × Nat × ClassId × Nat × (Nat → Int32) × Nat × ClassId × Nat × (Nat → Int32) × Nat × ClassId × Nat × (Nat → Int32) × Nat × ClassId × Nat × (Nat → Int32) × Nat × ClassId × Nat × (Nat → Int32) × Nat × ClassId × Nat × (Nat → Int32) × Nat × Int32 × Int32 × Nat × ClassId × Nat × (Nat → Int32) × Nat × ClassId × Nat × (Nat → Int32) × Nat × ClassId × Nat × (Nat → Int32) × Nat × ClassId × (Nat → Int32) × Nat × ClassId × (Nat → Int32) × Nat × Nat × Int32 × Int32 × Nat × ClassId × Nat × (Nat → Int32) × Nat × ClassId × Nat × (Nat → Int32) × Nat × ClassId × Nat × (Nat → Int32) × Nat × ClassId × Nat × (Nat → Int32) × Nat × ClassId × Nat × (Nat → Int32) × Nat × ClassId × Nat × (Nat → Int32) × Nat × ClassId × (Nat → Int64) × Nat × Int32 × Nat × Int32 × Int32 × Nat × ClassId × Nat × (Nat → Int32) × Nat × ClassId × Nat × (Nat → Int32) × Nat × ClassId × Nat × (Nat → Int32) × Nat × ClassId × Nat × (Nat → Int32) × Nat × ClassId × Nat × (Nat → Int32) × Nat × ClassId × Nat × (Nat → Int32) × Nat × ClassId × Nat × (Nat → Int32) × Nat × Int32 × Int32 × Nat × ClassId × Nat × (Nat → Int32) × Nat × ClassId × Nat × (Nat → Int32) × Nat × ClassId × Nat × (Nat → Int32) × Nat × ClassId × (Nat → Int32) × Nat × ClassId × (Nat → Int32) × Nat × Nat × Int32 × Int32 × Nat × ClassId × Nat × (Nat → Int32) × Nat × ClassId × Nat × (Nat → Int32) × Nat × ClassId × Nat × (Nat → Int32) × Nat × ClassId × Nat × (Nat → Int32) × Nat × ClassId × Nat × (Nat → Int32) × Nat × ClassId × Nat × (Nat → Int32) × Nat × ClassId × (Nat → Int64) × Int32 × Int32 × (Nat → Int32) × (Nat → Int32) × (Nat → Int32) × (Nat → Int32) × (Nat → Int32) × (Nat → Int32) × (Nat → Int32) × Int32 × Int32 × Int32 × Int32 × Int32 × Option Nat × Option Nat × Int32 × Int32 × Int32 × Int32 × Int32 × Int32 × Int32 × Int32 × (Nat → Int32) × (Nat → Int32) × Nat × ClassId × Nat × (Nat → Int32) × Option Nat × Int32 × Int32 × Int32 × Int32 × Int32 × (Nat → Int32) × Int32 × Int32 × (Nat → Int32) × (Nat → Int32) × Nat × ClassId × Nat × (Nat → Int32) × (Nat → Int32) × Int32 × Int32 × (Nat → Int32) × (Nat → Int32) × Nat × ClassId × Nat × (Nat → Int32) × (Nat → Int32) × (Nat → Int32) × (Nat → Int32) × Int32 × Int32 × Int32 × Int32 × (Nat → Int64) × (Nat → Int32) × (Nat → Int32) × (Nat → Int32) × (Nat → Int32) × (Nat → Int32) × (Nat → Int32) × (Nat → Int32) × (Nat → Int32) × (Nat → Int32) × Int32 × Option Nat × Int32 × Option Nat × Int32 × Int32 × Int32 × (Nat → Int32) × Int32 × Int32 × (Nat → Int32) × (Nat → Int64) × (Nat → Int32) × (Nat → Int32) × (Nat → Int32) × (Nat → Int32) × Nat × ClassId × Nat × (Nat → Int64) × Nat × Int32 × Int32 × Int32 × Nat × ClassId × (Nat → Int64) × Nat × ClassId × (Nat → Int64) × Nat × ClassId × (Nat → Int32) × Nat × Int32 × Int32 × Int32 × Nat × ClassId × (Nat → Int64) × Nat × ClassId × (Nat → Int64) × Nat × ClassId × (Nat → Int32) × (Nat → Int32) × (Nat → Int32) × (Nat → Int32) × (Nat → Int32) × (Nat → Int32) × (Nat → Int32) × (Nat → Int32) × (Nat → Int32) × (Nat → Int32) × (Nat → Int32) × (Nat → Int32) × (Nat → Int32) × (Nat → Int64) × (Nat → Int32) × (Nat → Int32) × (Nat → Nat → Int32) × (Nat → Nat → Int32) × Int32 × Int32 × Int32 × Int32 × Int32 × Int32 × Int32 × Int32 × Int32 × Int32 × Int32 × Int64 × Int32 × Int32 × Int32 × Int32 × Int32 × Int32 × Int32 × Int32 × Int32 × Int32 × Int32 × Int32 × Int32 × Int32 × Int32 × Int32 × (Nat → Int32) × (Nat → Int32) × (Nat → Int32) × (Nat → Int32) × (Nat → Int32) × (Nat → Int32) × (Nat → Int32) × (Nat → Int32) × (Nat → Int32) × (Nat → Int32) × (Nat → Int32) × (Nat → Int32) × (Nat → Int32) × (Nat → Int32) × (Nat → Int32) × (Nat → Int32) × (Nat → Int32) × (Nat → Int32) × (Nat → Int32) × (Nat → Int32) × (Nat → Int32) × (Nat → Int32) × (Nat → Int32) × (Nat → Int32) × (Nat → Int32) × (Nat → Int32) × (Nat → Int32) × (Nat → Int32) × (Nat → Int32) × (Nat → Int32) × (Nat → Int32) × (Nat → Int32) × (Nat → Int32) × (Nat → Int32) × (Nat → Int32) × (Nat → Int32) × (Nat → Int64) × Nat × Nat) → Heap → List Loc → Array Slot → Prop
  | (v940, v941, v942, v943, v944, v945, v946, v947, v948, v949, v950, v951, v952, v953, v954, v955, v956, v957, v958, v959, v960, v961, v962, v963, v964, v965, v966, v967, v968, v969, v970, v971, v972, v973, v974, v975, v976, v977, v978, v979, v980, v981, v982, v983, v984, v985, v986, v987, v988, v989, v990, v991, v992, v993, v994, v995, v996, v997, v998, v999, v1000, v1001, v1002, v1003, v1004, v1005, v1006, v1007, v1008, v1009, v1010, v1011, v1012, v1013, v1014, v1015, v1016, v1017, v1018, v1019, v1020, v1021, v1022, v1023, v1024, v1025, v1026, v1027, v1028, v1029, v1030, v1031, v1032, v1033, v1034, v1035, v1036, v1037, v1038, v1039, v1040, v1041, v1042, v1043, v1044, v1045, v1046, v1047, v1048, v1049, v1050, v1051, v1052, v1053, v1054, v1055, v1056, v1057, v1058, v1059, v1060, v1061, v1062, v1063, v1064, v1065, v1066, v1067, v1068, v1069, v1070, v1071, v1072, v1073, v1074, v1075, v1076, v1077, v1078, v1079, v1080, v1081, v1082, v1083, v1084, v1085, v1086, v1087, v1088, v1089, v1090, v1091, v1092, v1093, v1094, v1095, v1096, v1097, v1098, v1099, v1100, v1101, v1102, v1103, v1104, v1105, v1106, v1107, v1108, v1109, v1110, v1111, v1112, v1113, v1114, v1115, v1116, v1117, v1118, v1119, v1120, v1121, v1122, v1123, v1124, v1125, v1126, v1127, v1128, v1129, v1130, v1131, v1132, v1133, v1134, v1135, v1136, v1137, v1138, v1139, v1140, v1141, v1142, v1143, v1144, v1145, v1146, v1147, v1148, v1149, v1150, v1151, v1152, v1153, v1154, v1155, v1156, v1157, v1158, v1159, v1160, v1161, v1162, v1163, v1164, v1165, v1166, v1167, v1168, v1169, v1170, v1171, v1172, v1173, v1174, v1175, v1176, v1177, v1178, v1179, v1180, v1181, v1182, v1183, v1184, v1185, v1186, v1187, v1188, v1189, v1190, v1191, v1192, v1193, v1194, v1195, v1196, v1197, v1198, v1199, v1200, v1201, v1202, v1203, v1204, v1205, v1206, v1207, v1208, v1209, v1210, v1211, v1212, v1213, v1214, v1215, v1216, v1217, v1218, v1219, v1220, v1221, v1222, v1223, v1224, v1225, v1226, v1227, v1228, v1229, v1230, v1231, v1232, v1233, v1234, v1235, v1236, v1237, v1238, v1239, v1240, v1241, v1242, v1243, v1244, v1245, v1246, v1247, v1248, v1249, v1250, v1251, v1252, v1253, v1254, v1255, v1256, v1257, v1258, v1259, v1260, v1261, v1262, v1263, v1264, v1265, v1266, v1267, v1268, v1269, v1270, v1271, v1272, v1273, v1274, v1275, v1276, v1277, v1278, v1279, v1280, v1281, v1282, v1283, v1284, v1285, v1286, v1287, v1288, v1289, v1290, v1291, v1292, v1293, v1294, v1295, v1296, v1297, v1298, v1299, v1300, v1301, v1302, v1303, v1304, v1305, v1306, v1307, v1308, v1309, v1310, v1311, v1312, v1313, v1314, v1315, v1316), H, locs, ls => va_K (dC, dI) vwCl (([(k_tape, .byte), (v952, .int), (v956, .int), (v960, .int), (v964, .int), (v968, .int), (v972, .int), (v976, .int), (v983, .int), (v987, .int), (v991, .byte), (v995, .int), (v998, .int), (v1005, .int), (v1009, .int), (v1013, .byte), (v1017, .int), (v1021, .int), (v1025, .int), (v1029, .long), (v1037, .int), (v1041, .int), (v1045, .int), (v1049, .int), (v1053, .int), (v1057, .int), (v1061, .int), (v1068, .int), (v1072, .int), (v1076, .byte), (v1080, .int), (v1083, .int), (v1090, .int), (v1094, .int), (v1098, .byte), (v1102, .int), (v1106, .int), (v1110, .int), (v1114, .long), (k_question_first, .int), (k_question_kinds, .int), (k_question_predicates, .int), (k_question_places, .int), (k_question_sizes, .int), (k_question_masks, .int), (k_question_terms, .int), (k_reader_variables_starts, .int), (k_reader_variables_lengths, .int), (v1143, .byte), (k_reader_needed, .int), (k_reader_ownPredicates_starts, .int), (k_reader_ownPredicates_lengths, .int), (v1158, .byte), (k_reader_ownSizes, .int), (k_reader_sides_names_starts, .int), (k_reader_sides_names_lengths, .int), (v1167, .byte), (k_reader_sides_values, .int), (k_reader_sides_byRank, .int), (k_reader_sides_ranks, .int), (k_facts_keys, .long), (k_facts_stages, .int), (k_facts_amounts, .int), (k_facts_predicates, .int), (k_facts_next, .int), (k_facts_slots, .int), (k_facts_oldest, .int), (k_facts_newest, .int), (k_facts_known, .int), (k_facts_knownBefore, .int), (k_join_values, .int), (k_join_indexes_shapes, .int), (k_join_indexes_fixed, .long), (k_join_indexes_firsts, .int), (k_join_indexes_lasts, .int), (k_join_indexes_froms, .int), (k_join_indexes_tos, .int), (v1204, .long), (v1212, .long), (v1215, .long), (v1218, .int), (v1225, .long), (v1228, .long), (v1231, .int), (k_join_steps, .object "StrataBase$Step")] : List (ClassId × FieldType)) ++ ((fm (fun i9 => ((st_k_roles i9, .int) : ClassId × FieldType))) ++ ((fm (fun i9 => ((st_k_variables i9, .int) : ClassId × FieldType))) ++ ([(k_m_tape, .byte), (k_m_text, .byte), (k_m_predFrom, .int), (k_m_predLength, .int), (k_m_predArity, .int), (k_m_preds, .int), (k_m_conNumber, .boolean), (k_m_conValue, .int), (k_m_conFrom, .int), (k_m_cons, .int), (k_m_clauses, .int), (k_m_litCount, .int), (k_m_litKind, .int), (k_m_litPred, .int), (k_m_litTerms, .int), (k_m_varCount, .int), (k_m_litPlace, .int), (k_m_notPlace, .int), (k_m_termPlace, .int), (k_m_litArity, .int), (k_m_varFrom, .int), (k_m_varLength, .int), (k_m_depends, .boolean), (k_m_strata, .int), (k_m_factPred, .int), (k_m_factTerms, .int), (k_m_factStage, .int), (k_m_table, .int), (k_m_sought, .int), (k_m_values, .int), (k_m_boundBy, .int), (k_m_atoms, .int), (k_m_at, .int), (k_m_rowCells, .int), (k_m_newCells, .int), (k_m_newColumns, .int), (k_out, .long)] : List (ClassId × FieldType))))) s ∧ va_P (dC, dI) vwCl (([(h0, .inr (0, [.ref tape_, .int v941, .int v942, .ref v946, .ref v1031, .ref question_, .ref reader_, .ref facts_, .ref join_, .ref v1207, .ref v1220, .int v943, .int v944])), (tape_, .inl (k_tape, 65536, .inl v945)), (v946, .inr (7, [.ref v948, .ref v979, .ref v994, .ref v997, .ref v1000, .int v947, .ref v1028])), (v948, .inr (1, [.int v949, .ref v951, .ref v955, .ref v959, .ref v963, .ref v967, .ref v971, .ref v975, .int v950])), (v951, .inl (v952, v953, .inl v954)), (v955, .inl (v956, v957, .inl v958)), (v959, .inl (v960, v961, .inl v962)), (v963, .inl (v964, v965, .inl v966)), (v967, .inl (v968, v969, .inl v970)), (v971, .inl (v972, v973, .inl v974)), (v975, .inl (v976, v977, .inl v978)), (v979, .inr (6, [.int v980, .ref v982, .ref v986, .ref v990, .int v981])), (v982, .inl (v983, v984, .inl v985)), (v986, .inl (v987, v988, .inl v989)), (v990, .inl (v991, v992, .inl v993)), (v994, .inl (v995, 64, .inl v996)), (v997, .inl (v998, 64, .inl v999)), (v1000, .inr (2, [.ref v1001, .ref v1016, .ref v1020, .ref v1024])), (v1001, .inr (6, [.int v1002, .ref v1004, .ref v1008, .ref v1012, .int v1003])), (v1004, .inl (v1005, v1006, .inl v1007)), (v1008, .inl (v1009, v1010, .inl v1011)), (v1012, .inl (v1013, v1014, .inl v1015)), (v1016, .inl (v1017, v1018, .inl v1019)), (v1020, .inl (v1021, v1022, .inl v1023)), (v1024, .inl (v1025, v1026, .inl v1027)), (v1028, .inl (v1029, 64, .inr (.inl v1030))), (v1031, .inr (7, [.ref v1033, .ref v1064, .ref v1079, .ref v1082, .ref v1085, .int v1032, .ref v1113])), (v1033, .inr (1, [.int v1034, .ref v1036, .ref v1040, .ref v1044, .ref v1048, .ref v1052, .ref v1056, .ref v1060, .int v1035])), (v1036, .inl (v1037, v1038, .inl v1039)), (v1040, .inl (v1041, v1042, .inl v1043)), (v1044, .inl (v1045, v1046, .inl v1047)), (v1048, .inl (v1049, v1050, .inl v1051)), (v1052, .inl (v1053, v1054, .inl v1055)), (v1056, .inl (v1057, v1058, .inl v1059)), (v1060, .inl (v1061, v1062, .inl v1063)), (v1064, .inr (6, [.int v1065, .ref v1067, .ref v1071, .ref v1075, .int v1066])), (v1067, .inl (v1068, v1069, .inl v1070)), (v1071, .inl (v1072, v1073, .inl v1074)), (v1075, .inl (v1076, v1077, .inl v1078)), (v1079, .inl (v1080, 64, .inl v1081)), (v1082, .inl (v1083, 64, .inl v1084)), (v1085, .inr (2, [.ref v1086, .ref v1101, .ref v1105, .ref v1109])), (v1086, .inr (6, [.int v1087, .ref v1089, .ref v1093, .ref v1097, .int v1088])), (v1089, .inl (v1090, v1091, .inl v1092)), (v1093, .inl (v1094, v1095, .inl v1096)), (v1097, .inl (v1098, v1099, .inl v1100)), (v1101, .inl (v1102, v1103, .inl v1104)), (v1105, .inl (v1106, v1107, .inl v1108)), (v1109, .inl (v1110, v1111, .inl v1112)), (v1113, .inl (v1114, 64, .inr (.inl v1115))), (question_, .inr (1, [.int v1116, .ref question_first_, .ref question_kinds_, .ref question_predicates_, .ref question_places_, .ref question_sizes_, .ref question_masks_, .ref question_terms_, .int v1117])), (question_first_, .inl (k_question_first, n_question_first, .inl v1118)), (question_kinds_, .inl (k_question_kinds, n_question_kinds, .inl v1119)), (question_predicates_, .inl (k_question_predicates, n_question_predicates, .inl v1120)), (question_places_, .inl (k_question_places, n_question_places, .inl v1121)), (question_sizes_, .inl (k_question_sizes, n_question_sizes, .inl v1122)), (question_masks_, .inl (k_question_masks, n_question_masks, .inl v1123)), (question_terms_, .inl (k_question_terms, n_question_terms, .inl v1124)), (reader_, .inr (8, [.int v1125, .int v1126, .ref reader_variables_, .int v1127, .ref reader_tokens_, .int v1128, .int v1129, va_rf v1130, va_rf v1131, .int v1132, .int v1133, .int v1134, .int v1135, .int v1136, .int v1137, .ref reader_needed_, .ref reader_ownPredicates_, .ref reader_ownSizes_, .ref reader_sides_])), (reader_variables_, .inr (6, [.int v1138, .ref reader_variables_starts_, .ref reader_variables_lengths_, .ref v1142, .int v1139])), (reader_variables_starts_, .inl (k_reader_variables_starts, n_reader_variables_starts, .inl v1140)), (reader_variables_lengths_, .inl (k_reader_variables_lengths, n_reader_variables_lengths, .inl v1141)), (v1142, .inl (v1143, v1144, .inl v1145)), (reader_tokens_, .inr (11, [va_rf v1146, .int v1147, .int v1148, .int v1149, .int v1150, .int v1151])), (reader_needed_, .inl (k_reader_needed, 12, .inl v1152)), (reader_ownPredicates_, .inr (6, [.int v1153, .ref reader_ownPredicates_starts_, .ref reader_ownPredicates_lengths_, .ref v1157, .int v1154])), (reader_ownPredicates_starts_, .inl (k_reader_ownPredicates_starts, n_reader_ownPredicates_starts, .inl v1155)), (reader_ownPredicates_lengths_, .inl (k_reader_ownPredicates_lengths, n_reader_ownPredicates_lengths, .inl v1156)), (v1157, .inl (v1158, v1159, .inl v1160)), (reader_ownSizes_, .inl (k_reader_ownSizes, 12, .inl v1161)), (reader_sides_, .inr (2, [.ref reader_sides_names_, .ref reader_sides_values_, .ref reader_sides_byRank_, .ref reader_sides_ranks_])), (reader_sides_names_, .inr (6, [.int v1162, .ref reader_sides_names_starts_, .ref reader_sides_names_lengths_, .ref v1166, .int v1163])), (reader_sides_names_starts_, .inl (k_reader_sides_names_starts, n_reader_sides_names_starts, .inl v1164)), (reader_sides_names_lengths_, .inl (k_reader_sides_names_lengths, n_reader_sides_names_lengths, .inl v1165)), (v1166, .inl (v1167, v1168, .inl v1169)), (reader_sides_values_, .inl (k_reader_sides_values, n_reader_sides_values, .inl v1170)), (reader_sides_byRank_, .inl (k_reader_sides_byRank, n_reader_sides_byRank, .inl v1171)), (reader_sides_ranks_, .inl (k_reader_sides_ranks, n_reader_sides_ranks, .inl v1172)), (facts_, .inr (3, [.int v1173, .int v1174, .int v1175, .ref facts_keys_, .ref facts_stages_, .ref facts_amounts_, .ref facts_predicates_, .ref facts_next_, .ref facts_slots_, .ref facts_oldest_, .ref facts_newest_, .ref facts_known_, .ref facts_knownBefore_, .int v1176])), (facts_keys_, .inl (k_facts_keys, 20000, .inr (.inl v1177))), (facts_stages_, .inl (k_facts_stages, 20000, .inl v1178)), (facts_amounts_, .inl (k_facts_amounts, 64, .inl v1179)), (facts_predicates_, .inl (k_facts_predicates, 20000, .inl v1180)), (facts_next_, .inl (k_facts_next, 20000, .inl v1181)), (facts_slots_, .inl (k_facts_slots, 32768, .inl v1182)), (facts_oldest_, .inl (k_facts_oldest, 64, .inl v1183)), (facts_newest_, .inl (k_facts_newest, 64, .inl v1184)), (facts_known_, .inl (k_facts_known, 64, .inl v1185)), (facts_knownBefore_, .inl (k_facts_knownBefore, 64, .inl v1186)), (join_, .inr (5, [.ref join_values_, .ref facts_, .ref join_indexes_, .ref join_steps_, .int v1187, va_rf v1188, .int v1189, va_rf v1190, .int v1191, .int v1192, .int v1193])), (join_values_, .inl (k_join_values, 12, .inl v1194)), (join_indexes_, .inr (4, [.int v1195, .ref join_indexes_shapes_, .ref join_indexes_fixed_, .ref join_indexes_firsts_, .ref join_indexes_lasts_, .ref join_indexes_froms_, .ref join_indexes_tos_, .ref v1203, .int v1196])), (join_indexes_shapes_, .inl (k_join_indexes_shapes, 64, .inl v1197)), (join_indexes_fixed_, .inl (k_join_indexes_fixed, 64, .inr (.inl v1198))), (join_indexes_firsts_, .inl (k_join_indexes_firsts, 64, .inl v1199)), (join_indexes_lasts_, .inl (k_join_indexes_lasts, 64, .inl v1200)), (join_indexes_froms_, .inl (k_join_indexes_froms, 64, .inl v1201)), (join_indexes_tos_, .inl (k_join_indexes_tos, 64, .inl v1202)), (v1203, .inl (v1204, v1205, .inr (.inl v1206))), (v1207, .inr (9, [.int v1208, .int v1209, .int v1210, .ref v1211, .ref v1214, .ref v1217])), (v1211, .inl (v1212, 5000, .inr (.inl v1213))), (v1214, .inl (v1215, 5000, .inr (.inl v1216))), (v1217, .inl (v1218, 12, .inl v1219)), (v1220, .inr (9, [.int v1221, .int v1222, .int v1223, .ref v1224, .ref v1227, .ref v1230])), (v1224, .inl (v1225, 5000, .inr (.inl v1226))), (v1227, .inl (v1228, 5000, .inr (.inl v1229))), (v1230, .inl (v1231, 12, .inl v1232)), (join_steps_, .inl (k_join_steps, 12, .inr (.inr (.inr (.inr (fun i9 => some (sa i9)))))))] : va_W) ++ ((fm (fun i9 => ((sa i9, .inr (10, [.int (v1233 i9), .int (v1234 i9), .int (v1235 i9), .int (v1236 i9), .int (v1237 i9), .int (v1238 i9), .int (v1239 i9), .int (v1240 i9), .int (v1241 i9), .int (v1242 i9), .int (v1243 i9), .int (v1244 i9), .long (v1245 i9), .int (v1246 i9), .int (v1247 i9), .ref (st_a_roles i9), .ref (st_a_variables i9)])) : Nat × va_E))) ++ ((fm (fun i9 => ((st_a_roles i9, .inl (st_k_roles i9, 6, .inl (v1248 i9))) : Nat × va_E))) ++ ((fm (fun i9 => ((st_a_variables i9, .inl (st_k_variables i9, 6, .inl (v1249 i9))) : Nat × va_E))) ++ ([(mh0, .inr (12, [.int v1250, .ref m_tape_, .int v1251, .int v1252, .int v1253, .ref m_text_, .int v1254, .int v1255, .ref m_predFrom_, .ref m_predLength_, .ref m_predArity_, .ref m_preds_, .ref m_conNumber_, .ref m_conValue_, .ref m_conFrom_, .ref m_cons_, .ref m_clauses_, .ref m_litCount_, .ref m_litKind_, .ref m_litPred_, .ref m_litTerms_, .ref m_varCount_, .ref m_litPlace_, .ref m_notPlace_, .ref m_termPlace_, .ref m_litArity_, .ref m_varFrom_, .ref m_varLength_, .int v1256, .int v1257, .int v1258, .int v1259, .int v1260, .long v1261, .int v1262, .int v1263, .int v1264, .int v1265, .int v1266, .int v1267, .ref m_depends_, .ref m_strata_, .int v1268, .int v1269, .ref m_factPred_, .ref m_factTerms_, .ref m_factStage_, .int v1270, .int v1271, .ref m_table_, .ref m_sought_, .int v1272, .ref m_values_, .ref m_boundBy_, .ref m_atoms_, .ref m_at_, .int v1273, .ref m_rowCells_, .int v1274, .int v1275, .ref m_newCells_, .int v1276, .int v1277, .ref m_newColumns_])), (m_tape_, .inl (k_m_tape, 65536, .inl v1278)), (m_text_, .inl (k_m_text, 196608, .inl v1279)), (m_predFrom_, .inl (k_m_predFrom, 130, .inl v1280)), (m_predLength_, .inl (k_m_predLength, 130, .inl v1281)), (m_predArity_, .inl (k_m_predArity, 130, .inl v1282)), (m_preds_, .inl (k_m_preds, 2, .inl v1283)), (m_conNumber_, .inl (k_m_conNumber, 2200, .inl v1284)), (m_conValue_, .inl (k_m_conValue, 2200, .inl v1285)), (m_conFrom_, .inl (k_m_conFrom, 2200, .inl v1286)), (m_cons_, .inl (k_m_cons, 2, .inl v1287)), (m_clauses_, .inl (k_m_clauses, 2, .inl v1288)), (m_litCount_, .inl (k_m_litCount, 514, .inl v1289)), (m_litKind_, .inl (k_m_litKind, 6682, .inl v1290)), (m_litPred_, .inl (k_m_litPred, 6682, .inl v1291)), (m_litTerms_, .inl (k_m_litTerms, 40092, .inl v1292)), (m_varCount_, .inl (k_m_varCount, 514, .inl v1293)), (m_litPlace_, .inl (k_m_litPlace, 3341, .inl v1294)), (m_notPlace_, .inl (k_m_notPlace, 3341, .inl v1295)), (m_termPlace_, .inl (k_m_termPlace, 20046, .inl v1296)), (m_litArity_, .inl (k_m_litArity, 3341, .inl v1297)), (m_varFrom_, .inl (k_m_varFrom, 13, .inl v1298)), (m_varLength_, .inl (k_m_varLength, 13, .inl v1299)), (m_depends_, .inl (k_m_depends, 4096, .inl v1300)), (m_strata_, .inl (k_m_strata, 64, .inl v1301)), (m_factPred_, .inl (k_m_factPred, 20001, .inl v1302)), (m_factTerms_, .inl (k_m_factTerms, 120006, .inl v1303)), (m_factStage_, .inl (k_m_factStage, 20001, .inl v1304)), (m_table_, .inl (k_m_table, 65536, .inl v1305)), (m_sought_, .inl (k_m_sought, 6, .inl v1306)), (m_values_, .inl (k_m_values, 13, .inl v1307)), (m_boundBy_, .inl (k_m_boundBy, 13, .inl v1308)), (m_atoms_, .inl (k_m_atoms, 13, .inl v1309)), (m_at_, .inl (k_m_at, 14, .inl v1310)), (m_rowCells_, .inl (k_m_rowCells, 60012, .inl v1311)), (m_newCells_, .inl (k_m_newCells, 60012, .inl v1312)), (m_newColumns_, .inl (k_m_newColumns, 12, .inl v1313)), (out_, .inl (k_out, 1, .inr (.inl v1314)))] : va_W))))) H ∧ va_D A (([(h0, .inr (0, [.ref tape_, .int v941, .int v942, .ref v946, .ref v1031, .ref question_, .ref reader_, .ref facts_, .ref join_, .ref v1207, .ref v1220, .int v943, .int v944])), (tape_, .inl (k_tape, 65536, .inl v945)), (v946, .inr (7, [.ref v948, .ref v979, .ref v994, .ref v997, .ref v1000, .int v947, .ref v1028])), (v948, .inr (1, [.int v949, .ref v951, .ref v955, .ref v959, .ref v963, .ref v967, .ref v971, .ref v975, .int v950])), (v951, .inl (v952, v953, .inl v954)), (v955, .inl (v956, v957, .inl v958)), (v959, .inl (v960, v961, .inl v962)), (v963, .inl (v964, v965, .inl v966)), (v967, .inl (v968, v969, .inl v970)), (v971, .inl (v972, v973, .inl v974)), (v975, .inl (v976, v977, .inl v978)), (v979, .inr (6, [.int v980, .ref v982, .ref v986, .ref v990, .int v981])), (v982, .inl (v983, v984, .inl v985)), (v986, .inl (v987, v988, .inl v989)), (v990, .inl (v991, v992, .inl v993)), (v994, .inl (v995, 64, .inl v996)), (v997, .inl (v998, 64, .inl v999)), (v1000, .inr (2, [.ref v1001, .ref v1016, .ref v1020, .ref v1024])), (v1001, .inr (6, [.int v1002, .ref v1004, .ref v1008, .ref v1012, .int v1003])), (v1004, .inl (v1005, v1006, .inl v1007)), (v1008, .inl (v1009, v1010, .inl v1011)), (v1012, .inl (v1013, v1014, .inl v1015)), (v1016, .inl (v1017, v1018, .inl v1019)), (v1020, .inl (v1021, v1022, .inl v1023)), (v1024, .inl (v1025, v1026, .inl v1027)), (v1028, .inl (v1029, 64, .inr (.inl v1030))), (v1031, .inr (7, [.ref v1033, .ref v1064, .ref v1079, .ref v1082, .ref v1085, .int v1032, .ref v1113])), (v1033, .inr (1, [.int v1034, .ref v1036, .ref v1040, .ref v1044, .ref v1048, .ref v1052, .ref v1056, .ref v1060, .int v1035])), (v1036, .inl (v1037, v1038, .inl v1039)), (v1040, .inl (v1041, v1042, .inl v1043)), (v1044, .inl (v1045, v1046, .inl v1047)), (v1048, .inl (v1049, v1050, .inl v1051)), (v1052, .inl (v1053, v1054, .inl v1055)), (v1056, .inl (v1057, v1058, .inl v1059)), (v1060, .inl (v1061, v1062, .inl v1063)), (v1064, .inr (6, [.int v1065, .ref v1067, .ref v1071, .ref v1075, .int v1066])), (v1067, .inl (v1068, v1069, .inl v1070)), (v1071, .inl (v1072, v1073, .inl v1074)), (v1075, .inl (v1076, v1077, .inl v1078)), (v1079, .inl (v1080, 64, .inl v1081)), (v1082, .inl (v1083, 64, .inl v1084)), (v1085, .inr (2, [.ref v1086, .ref v1101, .ref v1105, .ref v1109])), (v1086, .inr (6, [.int v1087, .ref v1089, .ref v1093, .ref v1097, .int v1088])), (v1089, .inl (v1090, v1091, .inl v1092)), (v1093, .inl (v1094, v1095, .inl v1096)), (v1097, .inl (v1098, v1099, .inl v1100)), (v1101, .inl (v1102, v1103, .inl v1104)), (v1105, .inl (v1106, v1107, .inl v1108)), (v1109, .inl (v1110, v1111, .inl v1112)), (v1113, .inl (v1114, 64, .inr (.inl v1115))), (question_, .inr (1, [.int v1116, .ref question_first_, .ref question_kinds_, .ref question_predicates_, .ref question_places_, .ref question_sizes_, .ref question_masks_, .ref question_terms_, .int v1117])), (question_first_, .inl (k_question_first, n_question_first, .inl v1118)), (question_kinds_, .inl (k_question_kinds, n_question_kinds, .inl v1119)), (question_predicates_, .inl (k_question_predicates, n_question_predicates, .inl v1120)), (question_places_, .inl (k_question_places, n_question_places, .inl v1121)), (question_sizes_, .inl (k_question_sizes, n_question_sizes, .inl v1122)), (question_masks_, .inl (k_question_masks, n_question_masks, .inl v1123)), (question_terms_, .inl (k_question_terms, n_question_terms, .inl v1124)), (reader_, .inr (8, [.int v1125, .int v1126, .ref reader_variables_, .int v1127, .ref reader_tokens_, .int v1128, .int v1129, va_rf v1130, va_rf v1131, .int v1132, .int v1133, .int v1134, .int v1135, .int v1136, .int v1137, .ref reader_needed_, .ref reader_ownPredicates_, .ref reader_ownSizes_, .ref reader_sides_])), (reader_variables_, .inr (6, [.int v1138, .ref reader_variables_starts_, .ref reader_variables_lengths_, .ref v1142, .int v1139])), (reader_variables_starts_, .inl (k_reader_variables_starts, n_reader_variables_starts, .inl v1140)), (reader_variables_lengths_, .inl (k_reader_variables_lengths, n_reader_variables_lengths, .inl v1141)), (v1142, .inl (v1143, v1144, .inl v1145)), (reader_tokens_, .inr (11, [va_rf v1146, .int v1147, .int v1148, .int v1149, .int v1150, .int v1151])), (reader_needed_, .inl (k_reader_needed, 12, .inl v1152)), (reader_ownPredicates_, .inr (6, [.int v1153, .ref reader_ownPredicates_starts_, .ref reader_ownPredicates_lengths_, .ref v1157, .int v1154])), (reader_ownPredicates_starts_, .inl (k_reader_ownPredicates_starts, n_reader_ownPredicates_starts, .inl v1155)), (reader_ownPredicates_lengths_, .inl (k_reader_ownPredicates_lengths, n_reader_ownPredicates_lengths, .inl v1156)), (v1157, .inl (v1158, v1159, .inl v1160)), (reader_ownSizes_, .inl (k_reader_ownSizes, 12, .inl v1161)), (reader_sides_, .inr (2, [.ref reader_sides_names_, .ref reader_sides_values_, .ref reader_sides_byRank_, .ref reader_sides_ranks_])), (reader_sides_names_, .inr (6, [.int v1162, .ref reader_sides_names_starts_, .ref reader_sides_names_lengths_, .ref v1166, .int v1163])), (reader_sides_names_starts_, .inl (k_reader_sides_names_starts, n_reader_sides_names_starts, .inl v1164)), (reader_sides_names_lengths_, .inl (k_reader_sides_names_lengths, n_reader_sides_names_lengths, .inl v1165)), (v1166, .inl (v1167, v1168, .inl v1169)), (reader_sides_values_, .inl (k_reader_sides_values, n_reader_sides_values, .inl v1170)), (reader_sides_byRank_, .inl (k_reader_sides_byRank, n_reader_sides_byRank, .inl v1171)), (reader_sides_ranks_, .inl (k_reader_sides_ranks, n_reader_sides_ranks, .inl v1172)), (facts_, .inr (3, [.int v1173, .int v1174, .int v1175, .ref facts_keys_, .ref facts_stages_, .ref facts_amounts_, .ref facts_predicates_, .ref facts_next_, .ref facts_slots_, .ref facts_oldest_, .ref facts_newest_, .ref facts_known_, .ref facts_knownBefore_, .int v1176])), (facts_keys_, .inl (k_facts_keys, 20000, .inr (.inl v1177))), (facts_stages_, .inl (k_facts_stages, 20000, .inl v1178)), (facts_amounts_, .inl (k_facts_amounts, 64, .inl v1179)), (facts_predicates_, .inl (k_facts_predicates, 20000, .inl v1180)), (facts_next_, .inl (k_facts_next, 20000, .inl v1181)), (facts_slots_, .inl (k_facts_slots, 32768, .inl v1182)), (facts_oldest_, .inl (k_facts_oldest, 64, .inl v1183)), (facts_newest_, .inl (k_facts_newest, 64, .inl v1184)), (facts_known_, .inl (k_facts_known, 64, .inl v1185)), (facts_knownBefore_, .inl (k_facts_knownBefore, 64, .inl v1186)), (join_, .inr (5, [.ref join_values_, .ref facts_, .ref join_indexes_, .ref join_steps_, .int v1187, va_rf v1188, .int v1189, va_rf v1190, .int v1191, .int v1192, .int v1193])), (join_values_, .inl (k_join_values, 12, .inl v1194)), (join_indexes_, .inr (4, [.int v1195, .ref join_indexes_shapes_, .ref join_indexes_fixed_, .ref join_indexes_firsts_, .ref join_indexes_lasts_, .ref join_indexes_froms_, .ref join_indexes_tos_, .ref v1203, .int v1196])), (join_indexes_shapes_, .inl (k_join_indexes_shapes, 64, .inl v1197)), (join_indexes_fixed_, .inl (k_join_indexes_fixed, 64, .inr (.inl v1198))), (join_indexes_firsts_, .inl (k_join_indexes_firsts, 64, .inl v1199)), (join_indexes_lasts_, .inl (k_join_indexes_lasts, 64, .inl v1200)), (join_indexes_froms_, .inl (k_join_indexes_froms, 64, .inl v1201)), (join_indexes_tos_, .inl (k_join_indexes_tos, 64, .inl v1202)), (v1203, .inl (v1204, v1205, .inr (.inl v1206))), (v1207, .inr (9, [.int v1208, .int v1209, .int v1210, .ref v1211, .ref v1214, .ref v1217])), (v1211, .inl (v1212, 5000, .inr (.inl v1213))), (v1214, .inl (v1215, 5000, .inr (.inl v1216))), (v1217, .inl (v1218, 12, .inl v1219)), (v1220, .inr (9, [.int v1221, .int v1222, .int v1223, .ref v1224, .ref v1227, .ref v1230])), (v1224, .inl (v1225, 5000, .inr (.inl v1226))), (v1227, .inl (v1228, 5000, .inr (.inl v1229))), (v1230, .inl (v1231, 12, .inl v1232)), (join_steps_, .inl (k_join_steps, 12, .inr (.inr (.inr (.inr (fun i9 => some (sa i9)))))))] : va_W) ++ ((fm (fun i9 => ((sa i9, .inr (10, [.int (v1233 i9), .int (v1234 i9), .int (v1235 i9), .int (v1236 i9), .int (v1237 i9), .int (v1238 i9), .int (v1239 i9), .int (v1240 i9), .int (v1241 i9), .int (v1242 i9), .int (v1243 i9), .int (v1244 i9), .long (v1245 i9), .int (v1246 i9), .int (v1247 i9), .ref (st_a_roles i9), .ref (st_a_variables i9)])) : Nat × va_E))) ++ ((fm (fun i9 => ((st_a_roles i9, .inl (st_k_roles i9, 6, .inl (v1248 i9))) : Nat × va_E))) ++ ((fm (fun i9 => ((st_a_variables i9, .inl (st_k_variables i9, 6, .inl (v1249 i9))) : Nat × va_E))) ++ ([(mh0, .inr (12, [.int v1250, .ref m_tape_, .int v1251, .int v1252, .int v1253, .ref m_text_, .int v1254, .int v1255, .ref m_predFrom_, .ref m_predLength_, .ref m_predArity_, .ref m_preds_, .ref m_conNumber_, .ref m_conValue_, .ref m_conFrom_, .ref m_cons_, .ref m_clauses_, .ref m_litCount_, .ref m_litKind_, .ref m_litPred_, .ref m_litTerms_, .ref m_varCount_, .ref m_litPlace_, .ref m_notPlace_, .ref m_termPlace_, .ref m_litArity_, .ref m_varFrom_, .ref m_varLength_, .int v1256, .int v1257, .int v1258, .int v1259, .int v1260, .long v1261, .int v1262, .int v1263, .int v1264, .int v1265, .int v1266, .int v1267, .ref m_depends_, .ref m_strata_, .int v1268, .int v1269, .ref m_factPred_, .ref m_factTerms_, .ref m_factStage_, .int v1270, .int v1271, .ref m_table_, .ref m_sought_, .int v1272, .ref m_values_, .ref m_boundBy_, .ref m_atoms_, .ref m_at_, .int v1273, .ref m_rowCells_, .int v1274, .int v1275, .ref m_newCells_, .int v1276, .int v1277, .ref m_newColumns_])), (m_tape_, .inl (k_m_tape, 65536, .inl v1278)), (m_text_, .inl (k_m_text, 196608, .inl v1279)), (m_predFrom_, .inl (k_m_predFrom, 130, .inl v1280)), (m_predLength_, .inl (k_m_predLength, 130, .inl v1281)), (m_predArity_, .inl (k_m_predArity, 130, .inl v1282)), (m_preds_, .inl (k_m_preds, 2, .inl v1283)), (m_conNumber_, .inl (k_m_conNumber, 2200, .inl v1284)), (m_conValue_, .inl (k_m_conValue, 2200, .inl v1285)), (m_conFrom_, .inl (k_m_conFrom, 2200, .inl v1286)), (m_cons_, .inl (k_m_cons, 2, .inl v1287)), (m_clauses_, .inl (k_m_clauses, 2, .inl v1288)), (m_litCount_, .inl (k_m_litCount, 514, .inl v1289)), (m_litKind_, .inl (k_m_litKind, 6682, .inl v1290)), (m_litPred_, .inl (k_m_litPred, 6682, .inl v1291)), (m_litTerms_, .inl (k_m_litTerms, 40092, .inl v1292)), (m_varCount_, .inl (k_m_varCount, 514, .inl v1293)), (m_litPlace_, .inl (k_m_litPlace, 3341, .inl v1294)), (m_notPlace_, .inl (k_m_notPlace, 3341, .inl v1295)), (m_termPlace_, .inl (k_m_termPlace, 20046, .inl v1296)), (m_litArity_, .inl (k_m_litArity, 3341, .inl v1297)), (m_varFrom_, .inl (k_m_varFrom, 13, .inl v1298)), (m_varLength_, .inl (k_m_varLength, 13, .inl v1299)), (m_depends_, .inl (k_m_depends, 4096, .inl v1300)), (m_strata_, .inl (k_m_strata, 64, .inl v1301)), (m_factPred_, .inl (k_m_factPred, 20001, .inl v1302)), (m_factTerms_, .inl (k_m_factTerms, 120006, .inl v1303)), (m_factStage_, .inl (k_m_factStage, 20001, .inl v1304)), (m_table_, .inl (k_m_table, 65536, .inl v1305)), (m_sought_, .inl (k_m_sought, 6, .inl v1306)), (m_values_, .inl (k_m_values, 13, .inl v1307)), (m_boundBy_, .inl (k_m_boundBy, 13, .inl v1308)), (m_atoms_, .inl (k_m_atoms, 13, .inl v1309)), (m_at_, .inl (k_m_at, 14, .inl v1310)), (m_rowCells_, .inl (k_m_rowCells, 60012, .inl v1311)), (m_newCells_, .inl (k_m_newCells, 60012, .inl v1312)), (m_newColumns_, .inl (k_m_newColumns, 12, .inl v1313)), (out_, .inl (k_out, 1, .inr (.inl v1314)))] : va_W))))) ∧ va_S A s.heap H locs ∧ lv_has ls 7 [(4, .int v940), (3, .ref out_), (2, .ref mh0), (1, .ref h0), (0, .ref b)] ∧ v1315 ≤ 601024 ∧ v1316 ≤ 7293034
