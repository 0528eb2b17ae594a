/-! The law over both worlds, down to a pure statement. Written by program (wip/gen). -/
-- ===== end of PART A; then your names; then what follows =====
/-! THE CLAIM OUT OF ONE WALK OF THE LAW'S BODY. Your part is whole_start (and what it stands on); all else here is the same for every law, but numbers. -/
def R_law : String := "KindRoundsLaw"
def lw_P (b : Addr) (xs : List Int32) (args : Array Value) (s : State) : Prop := args = #[.ref b] ∧ s.IntsAt b xs ∧ xs.length ≤ 3072 ∧ (Jvm.Cond.and given_1 narrow_1).before args s = true
def lw_Q (_ : Array Value) (s : State) (o : Outcome) (t : State) : Prop := o = .returned (some (.int 1)) ∧ Framed s o t [] 600000 7302249
def lw_Z (below : List Frame) (a : Array Value) (s : State) : State → Prop := fun t => ∃ o, t.status = .running ∧ Ended t below o ∧ lw_Q a s o t
/-- the law's own end, with 1 on the stack, nothing written that was there before, its room as the claim has it -/
theorem lw_ret {p : Program} {l : Launch} {e : Env} {s : State} {m : MethodId} {below : List Frame} {meth : Method} {c : Code} {b : Nat} (hx : p.tables.exec = Jvm.exec) (hb : c.code = code) (hr : meth.sig.returnType = ret) (hlocks : meth.locks = false) {pc : Nat} {H : Heap} {ls : Array Slot} (hdg : decode code pc = .ok (.ireturn, 1)) : W p l e room_1 s m #[Value.ref b] below meth c H [] 600000 7302249 (lw_Z below #[Value.ref b] s) (F0 m pc ls [.int 1]) := by
  intro T hT X
  obtain ⟨fs, hret, hrun, hended, hW, hframe⟩ := X.leave (v := some (.int 1)) (hlocks := hlocks) (fun h => by rw [hr] at h; cases h)
  have hmeth' : T.vm.method? m = some meth := X.method'
  refine ⟨T.setFrames fs, ?_, .returned (some (.int 1)), hrun, hended, rfl, ⟨_, rfl⟩, hW, hframe⟩
  jvm_step X.here [X.here.top, hx, hb, hdg, hmeth', hr, ret, narrow_b1]
  (try refine ⟨rfl, ?_⟩); (try refine ⟨rfl, ?_⟩)
  first | (intro acts; rw [hret _ acts rfl rfl rfl]) | rw [hret _ _ rfl rfl rfl]
  exact Steps.refl _
/-- what holds at the law's entry: the machine, the code, the tables' words (any of lw_tbl by 'hts w (by decide +kernel)'), the script of L ints xs at the cell b, what the Statement gives of the start (any of its parts by flat_of_before) -/
def lw_At (p : Program) (s : State) (m : MethodId) (meth : Method) (c : Code) (b L : Nat) (xs : Nat → Int32) : Prop :=
  p.tables.exec = Jvm.exec ∧ c.code = code ∧ meth.sig.returnType = ret ∧ c.maxLocals = 4 ∧ s.vm.findClass R_law = some m.cls ∧ (∀ w ∈ lw_tbl, w.before #[Value.ref b] s = true) ∧ va_X b L xs s s.heap ∧ b < s.heap.size ∧ meth.locks = false ∧ (Jvm.Cond.and given_1 narrow_1).before #[Value.ref b] s = true
def pOK (F : Nat) (Rel : zS → zS → Prop) : Prop :=
  Rel σC0 σM0 ∧
  (∀ σ τ, Rel σ τ → ∀ a b c d e : Int32, ∃ r σ' τ', Q_feed F σ a b c d e = some (r, σ') ∧ Md_feed F τ a b c d e = some (r, τ') ∧ Rel σ' τ') ∧
  (∀ σ τ, Rel σ τ → ∀ a : Int32, ∃ r σ' τ', Q_cut F σ a = some (r, σ') ∧ Md_cut F τ a = some (r, τ') ∧ Rel σ' τ') ∧
  (∀ σ τ, Rel σ τ → ∃ r σ' τ', Q_read F σ = some (r, σ') ∧ Md_read F τ = some (r, τ') ∧ Rel σ' τ') ∧
  (∀ σ τ, Rel σ τ → ∃ r σ' τ', Q_place F σ = some (r, σ') ∧ Md_place F τ = some (r, τ') ∧ Rel σ' τ') ∧
  (∀ σ τ, Rel σ τ → ∀ a : Int32, ∃ r σ' τ', Q_side F σ a = some (r, σ') ∧ Md_side F τ a = some (r, τ') ∧ Rel σ' τ') ∧
  (∀ σ τ, Rel σ τ → ∀ a : Int32, ∃ r σ' τ', Q_out F σ a = some (r, σ') ∧ Md_out F τ a = some (r, τ') ∧ Rel σ' τ') ∧
  (∀ σ τ, Rel σ τ → ∀ a b : Int32, ∃ r σ' τ', Q_told F σ a b = some (r, σ') ∧ Md_told F τ a b = some (r, τ') ∧ Rel σ' τ') ∧
  (∀ σ τ, Rel σ τ → ∀ a b : Int32, ∃ r σ' τ', Q_kindOf F σ a b = some (r, σ') ∧ Md_kindOf F τ a b = some (r, τ') ∧ Rel σ' τ') ∧
  (∀ σ τ, Rel σ τ → ∃ r σ' τ', Q_groups F σ = some (r, σ') ∧ Md_groups F τ = some (r, τ') ∧ Rel σ' τ') ∧
  (∀ σ τ, Rel σ τ → ∀ a b : Int32, ∃ r σ' τ', Q_member F σ a b = some (r, σ') ∧ Md_member F τ a b = some (r, τ') ∧ Rel σ' τ') ∧
  (∀ σ τ, Rel σ τ → ∀ a b : Int32, ∃ r σ' τ', Q_needs F σ a b = some (r, σ') ∧ Md_needs F τ a b = some (r, τ') ∧ Rel σ' τ') ∧
  (∀ σ τ, Rel σ τ → ∃ r σ' τ', Q_kind F σ = some (r, σ') ∧ Md_kind F τ = some (r, τ') ∧ Rel σ' τ') ∧
  (∀ σ τ, Rel σ τ → ∃ r σ' τ', Q_plain F σ = some (r, σ') ∧ Md_plain F τ = some (r, τ') ∧ Rel σ' τ') ∧
  (∀ σ τ, Rel σ τ → ∃ r σ' τ', Q_same F σ = some (r, σ') ∧ Md_same F τ = some (r, τ') ∧ Rel σ' τ')
theorem d_law_0 : decode code 0 = .ok (.new 7, 3) := by decide +kernel
theorem d_law_3 : decode code 3 = .ok (.dup, 1) := by decide +kernel
theorem d_law_4 : decode code 4 = .ok (.invokespecial 9, 3) := by decide +kernel
theorem d_law_7 : decode code 7 = .ok (.astore_n 1, 1) := by decide +kernel
theorem d_law_8 : decode code 8 = .ok (.new 10, 3) := by decide +kernel
theorem d_law_11 : decode code 11 = .ok (.dup, 1) := by decide +kernel
theorem d_law_12 : decode code 12 = .ok (.invokespecial 12, 3) := by decide +kernel
theorem d_law_15 : decode code 15 = .ok (.astore_n 2, 1) := by decide +kernel
theorem d_law_16 : decode code 16 = .ok (.iconst 0, 1) := by decide +kernel
theorem d_law_17 : decode code 17 = .ok (.istore_n 3, 1) := by decide +kernel
theorem d_law_18 : decode code 18 = .ok (.iload_n 3, 1) := by decide +kernel
theorem d_law_19 : decode code 19 = .ok (.aload_n 0, 1) := by decide +kernel
theorem d_law_20 : decode code 20 = .ok (.arraylength, 1) := by decide +kernel
theorem d_law_21 : decode code 21 = .ok (.bipush 6, 2) := by decide +kernel
theorem d_law_23 : decode code 23 = .ok (.isub, 1) := by decide +kernel
theorem d_law_24 : decode code 24 = .ok (.if_icmp .gt 428, 3) := by decide +kernel
theorem d_law_27 : decode code 27 = .ok (.aload_n 0, 1) := by decide +kernel
theorem d_law_28 : decode code 28 = .ok (.iload_n 3, 1) := by decide +kernel
theorem d_law_29 : decode code 29 = .ok (.iaload, 1) := by decide +kernel
theorem d_law_30 : decode code 30 = .ok (.bipush 15, 2) := by decide +kernel
theorem d_law_32 : decode code 32 = .ok (.iand, 1) := by decide +kernel
theorem d_law_33 : decode code 33 = .ok (.tableswitch 413 0 13 #[71, 134, 157, 170, 183, 206, 229, 262, 295, 308, 341, 374, 387, 400], 71) := by decide +kernel
theorem d_law_104 : decode code 104 = .ok (.aload_n 1, 1) := by decide +kernel
theorem d_law_105 : decode code 105 = .ok (.aload_n 0, 1) := by decide +kernel
theorem d_law_106 : decode code 106 = .ok (.iload_n 3, 1) := by decide +kernel
theorem d_law_107 : decode code 107 = .ok (.iconst 1, 1) := by decide +kernel
theorem d_law_108 : decode code 108 = .ok (.iadd, 1) := by decide +kernel
theorem d_law_109 : decode code 109 = .ok (.iaload, 1) := by decide +kernel
theorem d_law_110 : decode code 110 = .ok (.aload_n 0, 1) := by decide +kernel
theorem d_law_111 : decode code 111 = .ok (.iload_n 3, 1) := by decide +kernel
theorem d_law_112 : decode code 112 = .ok (.iconst 2, 1) := by decide +kernel
theorem d_law_113 : decode code 113 = .ok (.iadd, 1) := by decide +kernel
theorem d_law_114 : decode code 114 = .ok (.iaload, 1) := by decide +kernel
theorem d_law_115 : decode code 115 = .ok (.aload_n 0, 1) := by decide +kernel
theorem d_law_116 : decode code 116 = .ok (.iload_n 3, 1) := by decide +kernel
theorem d_law_117 : decode code 117 = .ok (.iconst 3, 1) := by decide +kernel
theorem d_law_118 : decode code 118 = .ok (.iadd, 1) := by decide +kernel
theorem d_law_119 : decode code 119 = .ok (.iaload, 1) := by decide +kernel
theorem d_law_120 : decode code 120 = .ok (.aload_n 0, 1) := by decide +kernel
theorem d_law_121 : decode code 121 = .ok (.iload_n 3, 1) := by decide +kernel
theorem d_law_122 : decode code 122 = .ok (.iconst 4, 1) := by decide +kernel
theorem d_law_123 : decode code 123 = .ok (.iadd, 1) := by decide +kernel
theorem d_law_124 : decode code 124 = .ok (.iaload, 1) := by decide +kernel
theorem d_law_125 : decode code 125 = .ok (.aload_n 0, 1) := by decide +kernel
theorem d_law_126 : decode code 126 = .ok (.iload_n 3, 1) := by decide +kernel
theorem d_law_127 : decode code 127 = .ok (.iconst 5, 1) := by decide +kernel
theorem d_law_128 : decode code 128 = .ok (.iadd, 1) := by decide +kernel
theorem d_law_129 : decode code 129 = .ok (.iaload, 1) := by decide +kernel
theorem d_law_130 : decode code 130 = .ok (.invokevirtual 13, 3) := by decide +kernel
theorem d_law_133 : decode code 133 = .ok (.aload_n 2, 1) := by decide +kernel
theorem d_law_134 : decode code 134 = .ok (.aload_n 0, 1) := by decide +kernel
theorem d_law_135 : decode code 135 = .ok (.iload_n 3, 1) := by decide +kernel
theorem d_law_136 : decode code 136 = .ok (.iconst 1, 1) := by decide +kernel
theorem d_law_137 : decode code 137 = .ok (.iadd, 1) := by decide +kernel
theorem d_law_138 : decode code 138 = .ok (.iaload, 1) := by decide +kernel
theorem d_law_139 : decode code 139 = .ok (.aload_n 0, 1) := by decide +kernel
theorem d_law_140 : decode code 140 = .ok (.iload_n 3, 1) := by decide +kernel
theorem d_law_141 : decode code 141 = .ok (.iconst 2, 1) := by decide +kernel
theorem d_law_142 : decode code 142 = .ok (.iadd, 1) := by decide +kernel
theorem d_law_143 : decode code 143 = .ok (.iaload, 1) := by decide +kernel
theorem d_law_144 : decode code 144 = .ok (.aload_n 0, 1) := by decide +kernel
theorem d_law_145 : decode code 145 = .ok (.iload_n 3, 1) := by decide +kernel
theorem d_law_146 : decode code 146 = .ok (.iconst 3, 1) := by decide +kernel
theorem d_law_147 : decode code 147 = .ok (.iadd, 1) := by decide +kernel
theorem d_law_148 : decode code 148 = .ok (.iaload, 1) := by decide +kernel
theorem d_law_149 : decode code 149 = .ok (.aload_n 0, 1) := by decide +kernel
theorem d_law_150 : decode code 150 = .ok (.iload_n 3, 1) := by decide +kernel
theorem d_law_151 : decode code 151 = .ok (.iconst 4, 1) := by decide +kernel
theorem d_law_152 : decode code 152 = .ok (.iadd, 1) := by decide +kernel
theorem d_law_153 : decode code 153 = .ok (.iaload, 1) := by decide +kernel
theorem d_law_154 : decode code 154 = .ok (.aload_n 0, 1) := by decide +kernel
theorem d_law_155 : decode code 155 = .ok (.iload_n 3, 1) := by decide +kernel
theorem d_law_156 : decode code 156 = .ok (.iconst 5, 1) := by decide +kernel
theorem d_law_157 : decode code 157 = .ok (.iadd, 1) := by decide +kernel
theorem d_law_158 : decode code 158 = .ok (.iaload, 1) := by decide +kernel
theorem d_law_159 : decode code 159 = .ok (.invokevirtual 17, 3) := by decide +kernel
theorem d_law_162 : decode code 162 = .ok (.if_icmp .eq 284, 3) := by decide +kernel
theorem d_law_165 : decode code 165 = .ok (.iconst 0, 1) := by decide +kernel
theorem d_law_166 : decode code 166 = .ok (.ireturn, 1) := by decide +kernel
theorem d_law_167 : decode code 167 = .ok (.aload_n 1, 1) := by decide +kernel
theorem d_law_168 : decode code 168 = .ok (.aload_n 0, 1) := by decide +kernel
theorem d_law_169 : decode code 169 = .ok (.iload_n 3, 1) := by decide +kernel
theorem d_law_170 : decode code 170 = .ok (.iconst 1, 1) := by decide +kernel
theorem d_law_171 : decode code 171 = .ok (.iadd, 1) := by decide +kernel
theorem d_law_172 : decode code 172 = .ok (.iaload, 1) := by decide +kernel
theorem d_law_173 : decode code 173 = .ok (.invokevirtual 18, 3) := by decide +kernel
theorem d_law_176 : decode code 176 = .ok (.aload_n 2, 1) := by decide +kernel
theorem d_law_177 : decode code 177 = .ok (.aload_n 0, 1) := by decide +kernel
theorem d_law_178 : decode code 178 = .ok (.iload_n 3, 1) := by decide +kernel
theorem d_law_179 : decode code 179 = .ok (.iconst 1, 1) := by decide +kernel
theorem d_law_180 : decode code 180 = .ok (.iadd, 1) := by decide +kernel
theorem d_law_181 : decode code 181 = .ok (.iaload, 1) := by decide +kernel
theorem d_law_182 : decode code 182 = .ok (.invokevirtual 22, 3) := by decide +kernel
theorem d_law_185 : decode code 185 = .ok (.if_icmp .eq 261, 3) := by decide +kernel
theorem d_law_188 : decode code 188 = .ok (.iconst 0, 1) := by decide +kernel
theorem d_law_189 : decode code 189 = .ok (.ireturn, 1) := by decide +kernel
theorem d_law_190 : decode code 190 = .ok (.aload_n 1, 1) := by decide +kernel
theorem d_law_191 : decode code 191 = .ok (.invokevirtual 23, 3) := by decide +kernel
theorem d_law_194 : decode code 194 = .ok (.aload_n 2, 1) := by decide +kernel
theorem d_law_195 : decode code 195 = .ok (.invokevirtual 27, 3) := by decide +kernel
theorem d_law_198 : decode code 198 = .ok (.if_icmp .eq 248, 3) := by decide +kernel
theorem d_law_201 : decode code 201 = .ok (.iconst 0, 1) := by decide +kernel
theorem d_law_202 : decode code 202 = .ok (.ireturn, 1) := by decide +kernel
theorem d_law_203 : decode code 203 = .ok (.aload_n 1, 1) := by decide +kernel
theorem d_law_204 : decode code 204 = .ok (.invokevirtual 28, 3) := by decide +kernel
theorem d_law_207 : decode code 207 = .ok (.aload_n 2, 1) := by decide +kernel
theorem d_law_208 : decode code 208 = .ok (.invokevirtual 31, 3) := by decide +kernel
theorem d_law_211 : decode code 211 = .ok (.if_icmp .eq 235, 3) := by decide +kernel
theorem d_law_214 : decode code 214 = .ok (.iconst 0, 1) := by decide +kernel
theorem d_law_215 : decode code 215 = .ok (.ireturn, 1) := by decide +kernel
theorem d_law_216 : decode code 216 = .ok (.aload_n 1, 1) := by decide +kernel
theorem d_law_217 : decode code 217 = .ok (.aload_n 0, 1) := by decide +kernel
theorem d_law_218 : decode code 218 = .ok (.iload_n 3, 1) := by decide +kernel
theorem d_law_219 : decode code 219 = .ok (.iconst 1, 1) := by decide +kernel
theorem d_law_220 : decode code 220 = .ok (.iadd, 1) := by decide +kernel
theorem d_law_221 : decode code 221 = .ok (.iaload, 1) := by decide +kernel
theorem d_law_222 : decode code 222 = .ok (.invokevirtual 32, 3) := by decide +kernel
theorem d_law_225 : decode code 225 = .ok (.aload_n 2, 1) := by decide +kernel
theorem d_law_226 : decode code 226 = .ok (.aload_n 0, 1) := by decide +kernel
theorem d_law_227 : decode code 227 = .ok (.iload_n 3, 1) := by decide +kernel
theorem d_law_228 : decode code 228 = .ok (.iconst 1, 1) := by decide +kernel
theorem d_law_229 : decode code 229 = .ok (.iadd, 1) := by decide +kernel
theorem d_law_230 : decode code 230 = .ok (.iaload, 1) := by decide +kernel
theorem d_law_231 : decode code 231 = .ok (.invokevirtual 35, 3) := by decide +kernel
theorem d_law_234 : decode code 234 = .ok (.if_icmp .eq 212, 3) := by decide +kernel
theorem d_law_237 : decode code 237 = .ok (.iconst 0, 1) := by decide +kernel
theorem d_law_238 : decode code 238 = .ok (.ireturn, 1) := by decide +kernel
theorem d_law_239 : decode code 239 = .ok (.aload_n 1, 1) := by decide +kernel
theorem d_law_240 : decode code 240 = .ok (.aload_n 0, 1) := by decide +kernel
theorem d_law_241 : decode code 241 = .ok (.iload_n 3, 1) := by decide +kernel
theorem d_law_242 : decode code 242 = .ok (.iconst 1, 1) := by decide +kernel
theorem d_law_243 : decode code 243 = .ok (.iadd, 1) := by decide +kernel
theorem d_law_244 : decode code 244 = .ok (.iaload, 1) := by decide +kernel
theorem d_law_245 : decode code 245 = .ok (.invokevirtual 36, 3) := by decide +kernel
theorem d_law_248 : decode code 248 = .ok (.aload_n 2, 1) := by decide +kernel
theorem d_law_249 : decode code 249 = .ok (.aload_n 0, 1) := by decide +kernel
theorem d_law_250 : decode code 250 = .ok (.iload_n 3, 1) := by decide +kernel
theorem d_law_251 : decode code 251 = .ok (.iconst 1, 1) := by decide +kernel
theorem d_law_252 : decode code 252 = .ok (.iadd, 1) := by decide +kernel
theorem d_law_253 : decode code 253 = .ok (.iaload, 1) := by decide +kernel
theorem d_law_254 : decode code 254 = .ok (.invokevirtual 39, 3) := by decide +kernel
theorem d_law_257 : decode code 257 = .ok (.if_icmp .eq 189, 3) := by decide +kernel
theorem d_law_260 : decode code 260 = .ok (.iconst 0, 1) := by decide +kernel
theorem d_law_261 : decode code 261 = .ok (.ireturn, 1) := by decide +kernel
theorem d_law_262 : decode code 262 = .ok (.aload_n 1, 1) := by decide +kernel
theorem d_law_263 : decode code 263 = .ok (.aload_n 0, 1) := by decide +kernel
theorem d_law_264 : decode code 264 = .ok (.iload_n 3, 1) := by decide +kernel
theorem d_law_265 : decode code 265 = .ok (.iconst 1, 1) := by decide +kernel
theorem d_law_266 : decode code 266 = .ok (.iadd, 1) := by decide +kernel
theorem d_law_267 : decode code 267 = .ok (.iaload, 1) := by decide +kernel
theorem d_law_268 : decode code 268 = .ok (.aload_n 0, 1) := by decide +kernel
theorem d_law_269 : decode code 269 = .ok (.iload_n 3, 1) := by decide +kernel
theorem d_law_270 : decode code 270 = .ok (.iconst 2, 1) := by decide +kernel
theorem d_law_271 : decode code 271 = .ok (.iadd, 1) := by decide +kernel
theorem d_law_272 : decode code 272 = .ok (.iaload, 1) := by decide +kernel
theorem d_law_273 : decode code 273 = .ok (.invokevirtual 40, 3) := by decide +kernel
theorem d_law_276 : decode code 276 = .ok (.aload_n 2, 1) := by decide +kernel
theorem d_law_277 : decode code 277 = .ok (.aload_n 0, 1) := by decide +kernel
theorem d_law_278 : decode code 278 = .ok (.iload_n 3, 1) := by decide +kernel
theorem d_law_279 : decode code 279 = .ok (.iconst 1, 1) := by decide +kernel
theorem d_law_280 : decode code 280 = .ok (.iadd, 1) := by decide +kernel
theorem d_law_281 : decode code 281 = .ok (.iaload, 1) := by decide +kernel
theorem d_law_282 : decode code 282 = .ok (.aload_n 0, 1) := by decide +kernel
theorem d_law_283 : decode code 283 = .ok (.iload_n 3, 1) := by decide +kernel
theorem d_law_284 : decode code 284 = .ok (.iconst 2, 1) := by decide +kernel
theorem d_law_285 : decode code 285 = .ok (.iadd, 1) := by decide +kernel
theorem d_law_286 : decode code 286 = .ok (.iaload, 1) := by decide +kernel
theorem d_law_287 : decode code 287 = .ok (.invokevirtual 44, 3) := by decide +kernel
theorem d_law_290 : decode code 290 = .ok (.if_icmp .eq 156, 3) := by decide +kernel
theorem d_law_293 : decode code 293 = .ok (.iconst 0, 1) := by decide +kernel
theorem d_law_294 : decode code 294 = .ok (.ireturn, 1) := by decide +kernel
theorem d_law_295 : decode code 295 = .ok (.aload_n 1, 1) := by decide +kernel
theorem d_law_296 : decode code 296 = .ok (.aload_n 0, 1) := by decide +kernel
theorem d_law_297 : decode code 297 = .ok (.iload_n 3, 1) := by decide +kernel
theorem d_law_298 : decode code 298 = .ok (.iconst 1, 1) := by decide +kernel
theorem d_law_299 : decode code 299 = .ok (.iadd, 1) := by decide +kernel
theorem d_law_300 : decode code 300 = .ok (.iaload, 1) := by decide +kernel
theorem d_law_301 : decode code 301 = .ok (.aload_n 0, 1) := by decide +kernel
theorem d_law_302 : decode code 302 = .ok (.iload_n 3, 1) := by decide +kernel
theorem d_law_303 : decode code 303 = .ok (.iconst 2, 1) := by decide +kernel
theorem d_law_304 : decode code 304 = .ok (.iadd, 1) := by decide +kernel
theorem d_law_305 : decode code 305 = .ok (.iaload, 1) := by decide +kernel
theorem d_law_306 : decode code 306 = .ok (.invokevirtual 45, 3) := by decide +kernel
theorem d_law_309 : decode code 309 = .ok (.aload_n 2, 1) := by decide +kernel
theorem d_law_310 : decode code 310 = .ok (.aload_n 0, 1) := by decide +kernel
theorem d_law_311 : decode code 311 = .ok (.iload_n 3, 1) := by decide +kernel
theorem d_law_312 : decode code 312 = .ok (.iconst 1, 1) := by decide +kernel
theorem d_law_313 : decode code 313 = .ok (.iadd, 1) := by decide +kernel
theorem d_law_314 : decode code 314 = .ok (.iaload, 1) := by decide +kernel
theorem d_law_315 : decode code 315 = .ok (.aload_n 0, 1) := by decide +kernel
theorem d_law_316 : decode code 316 = .ok (.iload_n 3, 1) := by decide +kernel
theorem d_law_317 : decode code 317 = .ok (.iconst 2, 1) := by decide +kernel
theorem d_law_318 : decode code 318 = .ok (.iadd, 1) := by decide +kernel
theorem d_law_319 : decode code 319 = .ok (.iaload, 1) := by decide +kernel
theorem d_law_320 : decode code 320 = .ok (.invokevirtual 48, 3) := by decide +kernel
theorem d_law_323 : decode code 323 = .ok (.if_icmp .eq 123, 3) := by decide +kernel
theorem d_law_326 : decode code 326 = .ok (.iconst 0, 1) := by decide +kernel
theorem d_law_327 : decode code 327 = .ok (.ireturn, 1) := by decide +kernel
theorem d_law_328 : decode code 328 = .ok (.aload_n 1, 1) := by decide +kernel
theorem d_law_329 : decode code 329 = .ok (.invokevirtual 49, 3) := by decide +kernel
theorem d_law_332 : decode code 332 = .ok (.aload_n 2, 1) := by decide +kernel
theorem d_law_333 : decode code 333 = .ok (.invokevirtual 52, 3) := by decide +kernel
theorem d_law_336 : decode code 336 = .ok (.if_icmp .eq 110, 3) := by decide +kernel
theorem d_law_339 : decode code 339 = .ok (.iconst 0, 1) := by decide +kernel
theorem d_law_340 : decode code 340 = .ok (.ireturn, 1) := by decide +kernel
theorem d_law_341 : decode code 341 = .ok (.aload_n 1, 1) := by decide +kernel
theorem d_law_342 : decode code 342 = .ok (.aload_n 0, 1) := by decide +kernel
theorem d_law_343 : decode code 343 = .ok (.iload_n 3, 1) := by decide +kernel
theorem d_law_344 : decode code 344 = .ok (.iconst 1, 1) := by decide +kernel
theorem d_law_345 : decode code 345 = .ok (.iadd, 1) := by decide +kernel
theorem d_law_346 : decode code 346 = .ok (.iaload, 1) := by decide +kernel
theorem d_law_347 : decode code 347 = .ok (.aload_n 0, 1) := by decide +kernel
theorem d_law_348 : decode code 348 = .ok (.iload_n 3, 1) := by decide +kernel
theorem d_law_349 : decode code 349 = .ok (.iconst 2, 1) := by decide +kernel
theorem d_law_350 : decode code 350 = .ok (.iadd, 1) := by decide +kernel
theorem d_law_351 : decode code 351 = .ok (.iaload, 1) := by decide +kernel
theorem d_law_352 : decode code 352 = .ok (.invokevirtual 53, 3) := by decide +kernel
theorem d_law_355 : decode code 355 = .ok (.aload_n 2, 1) := by decide +kernel
theorem d_law_356 : decode code 356 = .ok (.aload_n 0, 1) := by decide +kernel
theorem d_law_357 : decode code 357 = .ok (.iload_n 3, 1) := by decide +kernel
theorem d_law_358 : decode code 358 = .ok (.iconst 1, 1) := by decide +kernel
theorem d_law_359 : decode code 359 = .ok (.iadd, 1) := by decide +kernel
theorem d_law_360 : decode code 360 = .ok (.iaload, 1) := by decide +kernel
theorem d_law_361 : decode code 361 = .ok (.aload_n 0, 1) := by decide +kernel
theorem d_law_362 : decode code 362 = .ok (.iload_n 3, 1) := by decide +kernel
theorem d_law_363 : decode code 363 = .ok (.iconst 2, 1) := by decide +kernel
theorem d_law_364 : decode code 364 = .ok (.iadd, 1) := by decide +kernel
theorem d_law_365 : decode code 365 = .ok (.iaload, 1) := by decide +kernel
theorem d_law_366 : decode code 366 = .ok (.invokevirtual 56, 3) := by decide +kernel
theorem d_law_369 : decode code 369 = .ok (.if_icmp .eq 77, 3) := by decide +kernel
theorem d_law_372 : decode code 372 = .ok (.iconst 0, 1) := by decide +kernel
theorem d_law_373 : decode code 373 = .ok (.ireturn, 1) := by decide +kernel
theorem d_law_374 : decode code 374 = .ok (.aload_n 1, 1) := by decide +kernel
theorem d_law_375 : decode code 375 = .ok (.aload_n 0, 1) := by decide +kernel
theorem d_law_376 : decode code 376 = .ok (.iload_n 3, 1) := by decide +kernel
theorem d_law_377 : decode code 377 = .ok (.iconst 1, 1) := by decide +kernel
theorem d_law_378 : decode code 378 = .ok (.iadd, 1) := by decide +kernel
theorem d_law_379 : decode code 379 = .ok (.iaload, 1) := by decide +kernel
theorem d_law_380 : decode code 380 = .ok (.aload_n 0, 1) := by decide +kernel
theorem d_law_381 : decode code 381 = .ok (.iload_n 3, 1) := by decide +kernel
theorem d_law_382 : decode code 382 = .ok (.iconst 2, 1) := by decide +kernel
theorem d_law_383 : decode code 383 = .ok (.iadd, 1) := by decide +kernel
theorem d_law_384 : decode code 384 = .ok (.iaload, 1) := by decide +kernel
theorem d_law_385 : decode code 385 = .ok (.invokevirtual 57, 3) := by decide +kernel
theorem d_law_388 : decode code 388 = .ok (.aload_n 2, 1) := by decide +kernel
theorem d_law_389 : decode code 389 = .ok (.aload_n 0, 1) := by decide +kernel
theorem d_law_390 : decode code 390 = .ok (.iload_n 3, 1) := by decide +kernel
theorem d_law_391 : decode code 391 = .ok (.iconst 1, 1) := by decide +kernel
theorem d_law_392 : decode code 392 = .ok (.iadd, 1) := by decide +kernel
theorem d_law_393 : decode code 393 = .ok (.iaload, 1) := by decide +kernel
theorem d_law_394 : decode code 394 = .ok (.aload_n 0, 1) := by decide +kernel
theorem d_law_395 : decode code 395 = .ok (.iload_n 3, 1) := by decide +kernel
theorem d_law_396 : decode code 396 = .ok (.iconst 2, 1) := by decide +kernel
theorem d_law_397 : decode code 397 = .ok (.iadd, 1) := by decide +kernel
theorem d_law_398 : decode code 398 = .ok (.iaload, 1) := by decide +kernel
theorem d_law_399 : decode code 399 = .ok (.invokevirtual 60, 3) := by decide +kernel
theorem d_law_402 : decode code 402 = .ok (.if_icmp .eq 44, 3) := by decide +kernel
theorem d_law_405 : decode code 405 = .ok (.iconst 0, 1) := by decide +kernel
theorem d_law_406 : decode code 406 = .ok (.ireturn, 1) := by decide +kernel
theorem d_law_407 : decode code 407 = .ok (.aload_n 1, 1) := by decide +kernel
theorem d_law_408 : decode code 408 = .ok (.invokevirtual 61, 3) := by decide +kernel
theorem d_law_411 : decode code 411 = .ok (.aload_n 2, 1) := by decide +kernel
theorem d_law_412 : decode code 412 = .ok (.invokevirtual 64, 3) := by decide +kernel
theorem d_law_415 : decode code 415 = .ok (.if_icmp .eq 31, 3) := by decide +kernel
theorem d_law_418 : decode code 418 = .ok (.iconst 0, 1) := by decide +kernel
theorem d_law_419 : decode code 419 = .ok (.ireturn, 1) := by decide +kernel
theorem d_law_420 : decode code 420 = .ok (.aload_n 1, 1) := by decide +kernel
theorem d_law_421 : decode code 421 = .ok (.invokevirtual 65, 3) := by decide +kernel
theorem d_law_424 : decode code 424 = .ok (.aload_n 2, 1) := by decide +kernel
theorem d_law_425 : decode code 425 = .ok (.invokevirtual 68, 3) := by decide +kernel
theorem d_law_428 : decode code 428 = .ok (.if_icmp .eq 18, 3) := by decide +kernel
theorem d_law_431 : decode code 431 = .ok (.iconst 0, 1) := by decide +kernel
theorem d_law_432 : decode code 432 = .ok (.ireturn, 1) := by decide +kernel
theorem d_law_433 : decode code 433 = .ok (.aload_n 1, 1) := by decide +kernel
theorem d_law_434 : decode code 434 = .ok (.invokevirtual 69, 3) := by decide +kernel
theorem d_law_437 : decode code 437 = .ok (.aload_n 2, 1) := by decide +kernel
theorem d_law_438 : decode code 438 = .ok (.invokevirtual 72, 3) := by decide +kernel
theorem d_law_441 : decode code 441 = .ok (.if_icmp .eq 5, 3) := by decide +kernel
theorem d_law_444 : decode code 444 = .ok (.iconst 0, 1) := by decide +kernel
theorem d_law_445 : decode code 445 = .ok (.ireturn, 1) := by decide +kernel
theorem d_law_446 : decode code 446 = .ok (.iinc 3 6, 3) := by decide +kernel
theorem d_law_449 : decode code 449 = .ok (.goto (-431), 3) := by decide +kernel
theorem d_law_452 : decode code 452 = .ok (.iconst 1, 1) := by decide +kernel
theorem d_law_453 : decode code 453 = .ok (.ireturn, 1) := by decide +kernel
set_option maxHeartbeats 4000000 in
set_option maxRecDepth 100000 in
theorem mL_0 : (Cond.methodLink "KindRoundsLaw" (13 : Nat) ({ cls := "KindRounds", name := "feed", desc := "(IIIII)I" } : Jvm.MethodName)) ∈ lw_good := good_in (List.mem_append_right _ (List.mem_append_right _ (List.mem_append_right _ (List.mem_append_left _ (List.mem_of_getElem? (i := 17) (l := tables_1_3) rfl))))) rfl
set_option maxHeartbeats 4000000 in
set_option maxRecDepth 100000 in
theorem mL_1 : (Cond.methodLink "KindRoundsLaw" (17 : Nat) ({ cls := "KindRoundsModel", name := "feed", desc := "(IIIII)I" } : Jvm.MethodName)) ∈ lw_good := good_in (List.mem_append_right _ (List.mem_append_right _ (List.mem_append_right _ (List.mem_append_right _ (List.mem_append_right _ (List.mem_append_right _ (List.mem_append_right _ (List.mem_append_left _ (List.mem_of_getElem? (i := 32) (l := tables_1_7) rfl))))))))) rfl
set_option maxHeartbeats 4000000 in
set_option maxRecDepth 100000 in
theorem mL_2 : (Cond.methodLink "KindRoundsLaw" (18 : Nat) ({ cls := "KindRounds", name := "cut", desc := "(I)I" } : Jvm.MethodName)) ∈ lw_good := good_in (List.mem_append_right _ (List.mem_append_right _ (List.mem_append_right _ (List.mem_append_left _ (List.mem_of_getElem? (i := 29) (l := tables_1_3) rfl))))) rfl
set_option maxHeartbeats 4000000 in
set_option maxRecDepth 100000 in
theorem mL_3 : (Cond.methodLink "KindRoundsLaw" (22 : Nat) ({ cls := "KindRoundsModel", name := "cut", desc := "(I)I" } : Jvm.MethodName)) ∈ lw_good := good_in (List.mem_append_right _ (List.mem_append_right _ (List.mem_append_right _ (List.mem_append_right _ (List.mem_append_right _ (List.mem_append_right _ (List.mem_append_right _ (List.mem_append_left _ (List.mem_of_getElem? (i := 36) (l := tables_1_7) rfl))))))))) rfl
set_option maxHeartbeats 4000000 in
set_option maxRecDepth 100000 in
theorem mL_4 : (Cond.methodLink "KindRoundsLaw" (23 : Nat) ({ cls := "KindRounds", name := "read", desc := "()I" } : Jvm.MethodName)) ∈ lw_good := good_in (List.mem_append_right _ (List.mem_append_right _ (List.mem_append_right _ (List.mem_append_left _ (List.mem_of_getElem? (i := 33) (l := tables_1_3) rfl))))) rfl
set_option maxHeartbeats 4000000 in
set_option maxRecDepth 100000 in
theorem mL_5 : (Cond.methodLink "KindRoundsLaw" (27 : Nat) ({ cls := "KindRoundsModel", name := "read", desc := "()I" } : Jvm.MethodName)) ∈ lw_good := good_in (List.mem_append_right _ (List.mem_append_right _ (List.mem_append_right _ (List.mem_append_right _ (List.mem_append_right _ (List.mem_append_right _ (List.mem_append_right _ (List.mem_append_left _ (List.mem_of_getElem? (i := 40) (l := tables_1_7) rfl))))))))) rfl
set_option maxHeartbeats 4000000 in
set_option maxRecDepth 100000 in
theorem mL_6 : (Cond.methodLink "KindRoundsLaw" (28 : Nat) ({ cls := "KindRounds", name := "place", desc := "()I" } : Jvm.MethodName)) ∈ lw_good := good_in (List.mem_append_right _ (List.mem_append_right _ (List.mem_append_right _ (List.mem_append_right _ (List.mem_append_right _ (List.mem_append_left _ (List.mem_of_getElem? (i := 53) (l := tables_1_5) rfl))))))) rfl
set_option maxHeartbeats 4000000 in
set_option maxRecDepth 100000 in
theorem mL_7 : (Cond.methodLink "KindRoundsLaw" (31 : Nat) ({ cls := "KindRoundsModel", name := "place", desc := "()I" } : Jvm.MethodName)) ∈ lw_good := good_in (List.mem_append_right _ (List.mem_append_right _ (List.mem_append_right _ (List.mem_append_right _ (List.mem_append_right _ (List.mem_append_right _ (List.mem_append_right _ (List.mem_append_right _ (List.mem_of_getElem? (i := 60) (l := tables_1_8) rfl))))))))) rfl
set_option maxHeartbeats 4000000 in
set_option maxRecDepth 100000 in
theorem mL_8 : (Cond.methodLink "KindRoundsLaw" (32 : Nat) ({ cls := "KindRounds", name := "side", desc := "(I)I" } : Jvm.MethodName)) ∈ lw_good := good_in (List.mem_append_right _ (List.mem_append_right _ (List.mem_append_right _ (List.mem_append_right _ (List.mem_append_right _ (List.mem_append_left _ (List.mem_of_getElem? (i := 57) (l := tables_1_5) rfl))))))) rfl
set_option maxHeartbeats 4000000 in
set_option maxRecDepth 100000 in
theorem mL_9 : (Cond.methodLink "KindRoundsLaw" (35 : Nat) ({ cls := "KindRoundsModel", name := "side", desc := "(I)I" } : Jvm.MethodName)) ∈ lw_good := good_in (List.mem_append_right _ (List.mem_append_right _ (List.mem_append_right _ (List.mem_append_right _ (List.mem_append_right _ (List.mem_append_right _ (List.mem_append_right _ (List.mem_append_right _ (List.mem_of_getElem? (i := 64) (l := tables_1_8) rfl))))))))) rfl
set_option maxHeartbeats 4000000 in
set_option maxRecDepth 100000 in
theorem mL_10 : (Cond.methodLink "KindRoundsLaw" (36 : Nat) ({ cls := "KindRounds", name := "out", desc := "(I)I" } : Jvm.MethodName)) ∈ lw_good := good_in (List.mem_append_right _ (List.mem_append_right _ (List.mem_append_right _ (List.mem_append_right _ (List.mem_append_right _ (List.mem_append_left _ (List.mem_of_getElem? (i := 66) (l := tables_1_5) rfl))))))) rfl
set_option maxHeartbeats 4000000 in
set_option maxRecDepth 100000 in
theorem mL_11 : (Cond.methodLink "KindRoundsLaw" (39 : Nat) ({ cls := "KindRoundsModel", name := "out", desc := "(I)I" } : Jvm.MethodName)) ∈ lw_good := good_in (List.mem_append_right _ (List.mem_append_right _ (List.mem_append_right _ (List.mem_append_right _ (List.mem_append_right _ (List.mem_append_right _ (List.mem_append_right _ (List.mem_append_right _ (List.mem_of_getElem? (i := 92) (l := tables_1_8) rfl))))))))) rfl
set_option maxHeartbeats 4000000 in
set_option maxRecDepth 100000 in
theorem mL_12 : (Cond.methodLink "KindRoundsLaw" (40 : Nat) ({ cls := "KindRounds", name := "told", desc := "(II)I" } : Jvm.MethodName)) ∈ lw_good := good_in (List.mem_append_right _ (List.mem_append_right _ (List.mem_append_right _ (List.mem_append_right _ (List.mem_append_right _ (List.mem_append_left _ (List.mem_of_getElem? (i := 70) (l := tables_1_5) rfl))))))) rfl
set_option maxHeartbeats 4000000 in
set_option maxRecDepth 100000 in
theorem mL_13 : (Cond.methodLink "KindRoundsLaw" (44 : Nat) ({ cls := "KindRoundsModel", name := "told", desc := "(II)I" } : Jvm.MethodName)) ∈ lw_good := good_in (List.mem_append_right _ (List.mem_append_right _ (List.mem_append_right _ (List.mem_append_right _ (List.mem_append_right _ (List.mem_append_right _ (List.mem_append_right _ (List.mem_append_right _ (List.mem_of_getElem? (i := 96) (l := tables_1_8) rfl))))))))) rfl
set_option maxHeartbeats 4000000 in
set_option maxRecDepth 100000 in
theorem mL_14 : (Cond.methodLink "KindRoundsLaw" (45 : Nat) ({ cls := "KindRounds", name := "kindOf", desc := "(II)I" } : Jvm.MethodName)) ∈ lw_good := good_in (List.mem_append_right _ (List.mem_append_right _ (List.mem_append_right _ (List.mem_append_right _ (List.mem_append_right _ (List.mem_append_left _ (List.mem_of_getElem? (i := 75) (l := tables_1_5) rfl))))))) rfl
set_option maxHeartbeats 4000000 in
set_option maxRecDepth 100000 in
theorem mL_15 : (Cond.methodLink "KindRoundsLaw" (48 : Nat) ({ cls := "KindRoundsModel", name := "kindOf", desc := "(II)I" } : Jvm.MethodName)) ∈ lw_good := good_in (List.mem_append_right _ (List.mem_append_right _ (List.mem_append_right _ (List.mem_append_right _ (List.mem_append_right _ (List.mem_append_right _ (List.mem_append_right _ (List.mem_append_right _ (List.mem_of_getElem? (i := 104) (l := tables_1_8) rfl))))))))) rfl
set_option maxHeartbeats 4000000 in
set_option maxRecDepth 100000 in
theorem mL_16 : (Cond.methodLink "KindRoundsLaw" (49 : Nat) ({ cls := "KindRounds", name := "groups", desc := "()I" } : Jvm.MethodName)) ∈ lw_good := good_in (List.mem_append_right _ (List.mem_append_right _ (List.mem_append_right _ (List.mem_append_right _ (List.mem_append_right _ (List.mem_append_left _ (List.mem_of_getElem? (i := 89) (l := tables_1_5) rfl))))))) rfl
set_option maxHeartbeats 4000000 in
set_option maxRecDepth 100000 in
theorem mL_17 : (Cond.methodLink "KindRoundsLaw" (52 : Nat) ({ cls := "KindRoundsModel", name := "groups", desc := "()I" } : Jvm.MethodName)) ∈ lw_good := good_in (List.mem_append_right _ (List.mem_append_right _ (List.mem_append_right _ (List.mem_append_right _ (List.mem_append_right _ (List.mem_append_right _ (List.mem_append_right _ (List.mem_append_right _ (List.mem_of_getElem? (i := 108) (l := tables_1_8) rfl))))))))) rfl
set_option maxHeartbeats 4000000 in
set_option maxRecDepth 100000 in
theorem mL_18 : (Cond.methodLink "KindRoundsLaw" (53 : Nat) ({ cls := "KindRounds", name := "member", desc := "(II)I" } : Jvm.MethodName)) ∈ lw_good := good_in (List.mem_append_right _ (List.mem_append_right _ (List.mem_append_right _ (List.mem_append_right _ (List.mem_append_right _ (List.mem_append_left _ (List.mem_of_getElem? (i := 93) (l := tables_1_5) rfl))))))) rfl
set_option maxHeartbeats 4000000 in
set_option maxRecDepth 100000 in
theorem mL_19 : (Cond.methodLink "KindRoundsLaw" (56 : Nat) ({ cls := "KindRoundsModel", name := "member", desc := "(II)I" } : Jvm.MethodName)) ∈ lw_good := good_in (List.mem_append_right _ (List.mem_append_right _ (List.mem_append_right _ (List.mem_append_right _ (List.mem_append_right _ (List.mem_append_right _ (List.mem_append_right _ (List.mem_append_right _ (List.mem_of_getElem? (i := 112) (l := tables_1_8) rfl))))))))) rfl
set_option maxHeartbeats 4000000 in
set_option maxRecDepth 100000 in
theorem mL_20 : (Cond.methodLink "KindRoundsLaw" (57 : Nat) ({ cls := "KindRounds", name := "needs", desc := "(II)I" } : Jvm.MethodName)) ∈ lw_good := good_in (List.mem_append_right _ (List.mem_append_right _ (List.mem_append_right _ (List.mem_append_right _ (List.mem_append_right _ (List.mem_append_left _ (List.mem_of_getElem? (i := 101) (l := tables_1_5) rfl))))))) rfl
set_option maxHeartbeats 4000000 in
set_option maxRecDepth 100000 in
theorem mL_21 : (Cond.methodLink "KindRoundsLaw" (60 : Nat) ({ cls := "KindRoundsModel", name := "needs", desc := "(II)I" } : Jvm.MethodName)) ∈ lw_good := good_in (List.mem_append_right _ (List.mem_append_right _ (List.mem_append_right _ (List.mem_append_right _ (List.mem_append_right _ (List.mem_append_right _ (List.mem_append_right _ (List.mem_append_right _ (List.mem_of_getElem? (i := 116) (l := tables_1_8) rfl))))))))) rfl
set_option maxHeartbeats 4000000 in
set_option maxRecDepth 100000 in
theorem mL_22 : (Cond.methodLink "KindRoundsLaw" (61 : Nat) ({ cls := "KindRounds", name := "kind", desc := "()I" } : Jvm.MethodName)) ∈ lw_good := good_in (List.mem_append_right _ (List.mem_append_right _ (List.mem_append_right _ (List.mem_append_right _ (List.mem_append_right _ (List.mem_append_left _ (List.mem_of_getElem? (i := 105) (l := tables_1_5) rfl))))))) rfl
set_option maxHeartbeats 4000000 in
set_option maxRecDepth 100000 in
theorem mL_23 : (Cond.methodLink "KindRoundsLaw" (64 : Nat) ({ cls := "KindRoundsModel", name := "kind", desc := "()I" } : Jvm.MethodName)) ∈ lw_good := good_in (List.mem_append_right _ (List.mem_append_right _ (List.mem_append_right _ (List.mem_append_right _ (List.mem_append_right _ (List.mem_append_right _ (List.mem_append_right _ (List.mem_append_right _ (List.mem_of_getElem? (i := 120) (l := tables_1_8) rfl))))))))) rfl
set_option maxHeartbeats 4000000 in
set_option maxRecDepth 100000 in
theorem mL_24 : (Cond.methodLink "KindRoundsLaw" (65 : Nat) ({ cls := "KindRounds", name := "plain", desc := "()I" } : Jvm.MethodName)) ∈ lw_good := good_in (List.mem_append_right _ (List.mem_append_right _ (List.mem_append_right _ (List.mem_append_right _ (List.mem_append_right _ (List.mem_append_left _ (List.mem_of_getElem? (i := 130) (l := tables_1_5) rfl))))))) rfl
set_option maxHeartbeats 4000000 in
set_option maxRecDepth 100000 in
theorem mL_25 : (Cond.methodLink "KindRoundsLaw" (68 : Nat) ({ cls := "KindRoundsModel", name := "plain", desc := "()I" } : Jvm.MethodName)) ∈ lw_good := good_in (List.mem_append_right _ (List.mem_append_right _ (List.mem_append_right _ (List.mem_append_right _ (List.mem_append_right _ (List.mem_append_right _ (List.mem_append_right _ (List.mem_append_right _ (List.mem_of_getElem? (i := 128) (l := tables_1_8) rfl))))))))) rfl
set_option maxHeartbeats 4000000 in
set_option maxRecDepth 100000 in
theorem mL_26 : (Cond.methodLink "KindRoundsLaw" (69 : Nat) ({ cls := "KindRounds", name := "same", desc := "()I" } : Jvm.MethodName)) ∈ lw_good := good_in (List.mem_append_right _ (List.mem_append_right _ (List.mem_append_right _ (List.mem_append_right _ (List.mem_append_right _ (List.mem_append_left _ (List.mem_of_getElem? (i := 187) (l := tables_1_5) rfl))))))) rfl
set_option maxHeartbeats 4000000 in
set_option maxRecDepth 100000 in
theorem mL_27 : (Cond.methodLink "KindRoundsLaw" (72 : Nat) ({ cls := "KindRoundsModel", name := "same", desc := "()I" } : Jvm.MethodName)) ∈ lw_good := good_in (List.mem_append_right _ (List.mem_append_right _ (List.mem_append_right _ (List.mem_append_right _ (List.mem_append_right _ (List.mem_append_right _ (List.mem_append_right _ (List.mem_append_right _ (List.mem_of_getElem? (i := 177) (l := tables_1_8) rfl))))))))) rfl
theorem kb_15 : (Int8.ofInt 15).toInt32 = (15 : Int32) := by decide
theorem sw_out0_13 {x : Int32} (h0 : ¬ x = (0 : Int32)) (h1 : ¬ x = (1 : Int32)) (h2 : ¬ x = (2 : Int32)) (h3 : ¬ x = (3 : Int32)) (h4 : ¬ x = (4 : Int32)) (h5 : ¬ x = (5 : Int32)) (h6 : ¬ x = (6 : Int32)) (h7 : ¬ x = (7 : Int32)) (h8 : ¬ x = (8 : Int32)) (h9 : ¬ x = (9 : Int32)) (h10 : ¬ x = (10 : Int32)) (h11 : ¬ x = (11 : Int32)) (h12 : ¬ x = (12 : Int32)) (h13 : ¬ x = (13 : Int32)) : x.toInt < 0 ∨ 13 < x.toInt := by
  have g0 : x.toInt ≠ 0 := fun h => h0 (Int32.toInt_inj.mp (h.trans (by decide)))
  have g1 : x.toInt ≠ 1 := fun h => h1 (Int32.toInt_inj.mp (h.trans (by decide)))
  have g2 : x.toInt ≠ 2 := fun h => h2 (Int32.toInt_inj.mp (h.trans (by decide)))
  have g3 : x.toInt ≠ 3 := fun h => h3 (Int32.toInt_inj.mp (h.trans (by decide)))
  have g4 : x.toInt ≠ 4 := fun h => h4 (Int32.toInt_inj.mp (h.trans (by decide)))
  have g5 : x.toInt ≠ 5 := fun h => h5 (Int32.toInt_inj.mp (h.trans (by decide)))
  have g6 : x.toInt ≠ 6 := fun h => h6 (Int32.toInt_inj.mp (h.trans (by decide)))
  have g7 : x.toInt ≠ 7 := fun h => h7 (Int32.toInt_inj.mp (h.trans (by decide)))
  have g8 : x.toInt ≠ 8 := fun h => h8 (Int32.toInt_inj.mp (h.trans (by decide)))
  have g9 : x.toInt ≠ 9 := fun h => h9 (Int32.toInt_inj.mp (h.trans (by decide)))
  have g10 : x.toInt ≠ 10 := fun h => h10 (Int32.toInt_inj.mp (h.trans (by decide)))
  have g11 : x.toInt ≠ 11 := fun h => h11 (Int32.toInt_inj.mp (h.trans (by decide)))
  have g12 : x.toInt ≠ 12 := fun h => h12 (Int32.toInt_inj.mp (h.trans (by decide)))
  have g13 : x.toInt ≠ 13 := fun h => h13 (Int32.toInt_inj.mp (h.trans (by decide)))
  omega
section JL
variable {D : va_G} {ad bd : Nat → Nat} {cA cB : Nat → ClassId} {p : Program} {l : Launch} {e : Env} {s : State} {m : MethodId} {below : List Frame} {meth : Method} {c : Code} {b L : Nat} {xs : Nat → Int32} {Q : State → Prop} {pc : Nat} {lv lv' : List (Nat × Value)} {st : List Value} {σ σ' τ τ' : zS}
def jC (D : va_G) (ad bd : Nat → Nat) (cA cB : Nat → ClassId) (p : Program) (s : State) (m : MethodId) (c : Code) (b L : Nat) (xs : Nat → Int32) : Prop :=
  p.tables.exec = Jvm.exec ∧ c.code = code ∧ c.maxLocals = 4 ∧ s.vm.findClass "KindRoundsLaw" = some m.cls ∧ (∀ w ∈ lw_good, w.before #[Value.ref b] s = true) ∧ nK s ∧ va_K D clC (tysC cA) s ∧ va_K D clM (tysM cB) s ∧ (∀ σ, va_D (owC ad) (wdC ad cA σ)) ∧ (∀ τ, va_D (owM bd) (wdM bd cB τ)) ∧ (∀ q, owC ad q → ¬ owM bd q) ∧ (∀ q, owC ad q → s.heap.size ≤ q) ∧ (∀ q, owM bd q → s.heap.size ≤ q) ∧ sXC ad s ∧ va_X b L xs s s.heap ∧ b < s.heap.size
def J (D : va_G) (ad bd : Nat → Nat) (cA cB : Nat → ClassId) (p : Program) (l : Launch) (e : Env) (s : State) (m : MethodId) (below : List Frame) (meth : Method) (c : Code) (b : Nat) (Q : State → Prop) (pc : Nat) (lv : List (Nat × Value)) (st : List Value) (σ τ : zS) : Prop :=
  ∀ (H : Heap) (locs : List Loc) (ls : Array Slot), va_P D clC (wdC ad cA σ) H → va_P D clM (wdM bd cB τ) H → va_S (fun q => s.heap.size ≤ q) s.heap H locs → lv_has ls 4 lv → W p l e room_1 s m #[Value.ref b] below meth c H locs 157 130507 Q (F0 m pc ls st)
theorem j_iload_n (C : jC D ad bd cA cB p s m c b L xs) {k0 : Fin 4} {i : Nat} {x : Int32} (hd : decode code pc = .ok (.iload_n k0, 1)) (hi : (k0 : Nat) = i) (j : Nat) (hj : lv[j]? = some (i, .int x)) (k : J D ad bd cA cB p l e s m below meth c b Q (pc + 1) lv (.int x :: st) σ τ) : J D ad bd cA cB p l e s m below meth c b Q pc lv st σ τ :=
  fun H locs ls h1 h2 hS hl => lv_iload_n C.1 C.2.1 hd hi (lv_at hl j hj) (k H locs ls h1 h2 hS hl)
theorem j_aload_n (C : jC D ad bd cA cB p s m c b L xs) {k0 : Fin 4} {i x : Nat} (hd : decode code pc = .ok (.aload_n k0, 1)) (hi : (k0 : Nat) = i) (j : Nat) (hj : lv[j]? = some (i, .ref x)) (k : J D ad bd cA cB p l e s m below meth c b Q (pc + 1) lv (.ref x :: st) σ τ) : J D ad bd cA cB p l e s m below meth c b Q pc lv st σ τ :=
  fun H locs ls h1 h2 hS hl => lv_aload_n C.1 C.2.1 hd hi (lv_at hl j hj) (k H locs ls h1 h2 hS hl)
theorem j_iconst (C : jC D ad bd cA cB p s m c b L xs) {n : Int} {v : Int32} (hd : decode code pc = .ok (.iconst n, 1)) (hv : Int32.ofInt n = v) (k : J D ad bd cA cB p l e s m below meth c b Q (pc + 1) lv (.int v :: st) σ τ) : J D ad bd cA cB p l e s m below meth c b Q pc lv st σ τ :=
  fun H locs ls h1 h2 hS hl => lv_iconst C.1 C.2.1 hd hv (k H locs ls h1 h2 hS hl)
theorem j_bipush (C : jC D ad bd cA cB p s m c b L xs) {n : Int} {v : Int32} (hd : decode code pc = .ok (.bipush n, 2)) (hv : (Int8.ofInt n).toInt32 = v) (k : J D ad bd cA cB p l e s m below meth c b Q (pc + 2) lv (.int v :: st) σ τ) : J D ad bd cA cB p l e s m below meth c b Q pc lv st σ τ :=
  fun H locs ls h1 h2 hS hl => lv_bipush C.1 C.2.1 hd hv (k H locs ls h1 h2 hS hl)
theorem j_iadd (C : jC D ad bd cA cB p s m c b L xs) {x y : Int32} (hd : decode code pc = .ok (.iadd, 1)) (k : J D ad bd cA cB p l e s m below meth c b Q (pc + 1) lv (.int (x + y) :: st) σ τ) : J D ad bd cA cB p l e s m below meth c b Q pc lv (.int y :: .int x :: st) σ τ :=
  fun H locs ls h1 h2 hS hl => lv_iadd C.1 C.2.1 hd (k H locs ls h1 h2 hS hl)
theorem j_isub (C : jC D ad bd cA cB p s m c b L xs) {x y : Int32} (hd : decode code pc = .ok (.isub, 1)) (k : J D ad bd cA cB p l e s m below meth c b Q (pc + 1) lv (.int (x - y) :: st) σ τ) : J D ad bd cA cB p l e s m below meth c b Q pc lv (.int y :: .int x :: st) σ τ :=
  fun H locs ls h1 h2 hS hl => lv_isub C.1 C.2.1 hd (k H locs ls h1 h2 hS hl)
theorem j_iand (C : jC D ad bd cA cB p s m c b L xs) {x y : Int32} (hd : decode code pc = .ok (.iand, 1)) (k : J D ad bd cA cB p l e s m below meth c b Q (pc + 1) lv (.int (x &&& y) :: st) σ τ) : J D ad bd cA cB p l e s m below meth c b Q pc lv (.int y :: .int x :: st) σ τ :=
  fun H locs ls h1 h2 hS hl => lv_iand C.1 C.2.1 hd (k H locs ls h1 h2 hS hl)
theorem j_goto (C : jC D ad bd cA cB p s m c b L xs) {off : Int} {tgt : Nat} (hd : decode code pc = .ok (.goto off, 3)) (ht : (pc : Int) + off = (tgt : Int)) (k : J D ad bd cA cB p l e s m below meth c b Q tgt lv st σ τ) : J D ad bd cA cB p l e s m below meth c b Q pc lv st σ τ :=
  fun H locs ls h1 h2 hS hl => lv_goto C.1 C.2.1 hd ht (k H locs ls h1 h2 hS hl)
theorem j_tableOut (C : jC D ad bd cA cB p s m c b L xs) {dflt lo hi : Int} {offs : Array Int} {len : Nat} {x : Int32} {tgt : Nat} (hd : decode code pc = .ok (.tableswitch dflt lo hi offs, len)) (h : x.toInt < lo ∨ hi < x.toInt) (ht : (pc : Int) + dflt = (tgt : Int)) (k : J D ad bd cA cB p l e s m below meth c b Q tgt lv st σ τ) : J D ad bd cA cB p l e s m below meth c b Q pc lv (.int x :: st) σ τ :=
  fun H locs ls h1 h2 hS hl => lv_tableOut C.1 C.2.1 hd h ht (k H locs ls h1 h2 hS hl)
theorem j_tableIn (C : jC D ad bd cA cB p s m c b L xs) {dflt lo hi : Int} {offs : Array Int} {len : Nat} {x : Int32} {off : Int} {tgt : Nat} (hd : decode code pc = .ok (.tableswitch dflt lo hi offs, len)) (g1 : ¬ x.toInt < lo) (g2 : ¬ hi < x.toInt) (ho : offs[(x.toInt - lo).toNat]? = some off) (ht : (pc : Int) + off = (tgt : Int)) (k : J D ad bd cA cB p l e s m below meth c b Q tgt lv st σ τ) : J D ad bd cA cB p l e s m below meth c b Q pc lv (.int x :: st) σ τ :=
  fun H locs ls h1 h2 hS hl => lv_tableIn C.1 C.2.1 hd g1 g2 ho ht (k H locs ls h1 h2 hS hl)
theorem j_sld (C : jC D ad bd cA cB p s m c b L xs) {i : Int32} (hin : vp_in i L) (hd : decode code pc = .ok (.iaload, 1)) (k : J D ad bd cA cB p l e s m below meth c b Q (pc + 1) lv (.int (xs i.toNatClampNeg) :: st) σ τ) : J D ad bd cA cB p l e s m below meth c b Q pc lv (.int i :: .ref b :: st) σ τ :=
  fun H locs ls h1 h2 hS hl => va_sld C.1 C.2.1 C.2.2.2.2.2.2.2.2.2.2.2.2.2.2.1 C.2.2.2.2.2.2.2.2.2.2.2.2.2.2.2 (Nat.not_le.mpr C.2.2.2.2.2.2.2.2.2.2.2.2.2.2.2) hS hin hd (k H locs ls h1 h2 hS hl)
theorem j_slen (C : jC D ad bd cA cB p s m c b L xs) (hd : decode code pc = .ok (.arraylength, 1)) (k : J D ad bd cA cB p l e s m below meth c b Q (pc + 1) lv (.int (Int32.ofNat L) :: st) σ τ) : J D ad bd cA cB p l e s m below meth c b Q pc lv (.ref b :: st) σ τ :=
  fun H locs ls h1 h2 hS hl => va_slen C.1 C.2.1 C.2.2.2.2.2.2.2.2.2.2.2.2.2.2.1 C.2.2.2.2.2.2.2.2.2.2.2.2.2.2.2 (Nat.not_le.mpr C.2.2.2.2.2.2.2.2.2.2.2.2.2.2.2) hS hd (k H locs ls h1 h2 hS hl)
theorem j_iinc (C : jC D ad bd cA cB p s m c b L xs) {i : Nat} {n : Int} {x v : Int32} (hd : decode code pc = .ok (.iinc i n, 3)) (j : Nat) (hj : lv[j]? = some (i, .int x)) (hv : x + Int32.ofInt n = v) (hn : i < 4) (ks : List Nat) (hl' : lv_pick (z_st1 i (.int v) lv) ks = lv') (k : J D ad bd cA cB p l e s m below meth c b Q (pc + 3) lv' st σ τ) : J D ad bd cA cB p l e s m below meth c b Q pc lv st σ τ :=
  fun H locs ls h1 h2 hS hl => lv_iinc C.1 C.2.1 hd hl hj hv hn rfl (fun ls' h' => k H locs ls' h1 h2 hS (lv_sub h' ks hl'))
theorem j_icmp_gt (C : jC D ad bd cA cB p s m c b L xs) {x y : Int32} {off : Int} {tgt : Nat} (hd : decode code pc = .ok (.if_icmp .gt off, 3)) (ht : (pc : Int) + off = (tgt : Int)) (kt : y < x → J D ad bd cA cB p l e s m below meth c b Q tgt lv st σ τ) (kf : ¬ y < x → J D ad bd cA cB p l e s m below meth c b Q (pc + 3) lv st σ τ) : J D ad bd cA cB p l e s m below meth c b Q pc lv (.int y :: .int x :: st) σ τ :=
  fun H locs ls h1 h2 hS hl => lv_icmp_gt C.1 C.2.1 hd ht (fun h => kt h H locs ls h1 h2 hS hl) (fun h => kf h H locs ls h1 h2 hS hl)
theorem j_icmp_eq (C : jC D ad bd cA cB p s m c b L xs) {x y : Int32} {off : Int} {tgt : Nat} (hd : decode code pc = .ok (.if_icmp .eq off, 3)) (ht : (pc : Int) + off = (tgt : Int)) (kt : x = y → J D ad bd cA cB p l e s m below meth c b Q tgt lv st σ τ) (kf : ¬ x = y → J D ad bd cA cB p l e s m below meth c b Q (pc + 3) lv st σ τ) : J D ad bd cA cB p l e s m below meth c b Q pc lv (.int y :: .int x :: st) σ τ :=
  fun H locs ls h1 h2 hS hl => lv_icmp_eq C.1 C.2.1 hd ht (fun h => kt h H locs ls h1 h2 hS hl) (fun h => kf h H locs ls h1 h2 hS hl)
theorem kept_other {D : va_G} {cl : List vw_C} {wd : zS → va_W} {n : Nat} {bd : Nat → Nat} {τ : zS} {A1 : Nat → Prop} {H H1 : Heap} (ha : ∀ σ, (wd σ).map (·.1) = (List.range n).map bd) (hdis : ∀ q, (∃ k, k < n ∧ q = bd k) → ¬ A1 q) (hk : ∀ q : Nat, q < H.size → ¬ A1 q → H1[q]? = H[q]?) (h : va_P D cl (wd τ) H) : va_P D cl (wd τ) H1 := by
  refine h.kept (fun k q hq => hk q.1 (h k q hq).lt (hdis q.1 ?_))
  have h1 : ((wd τ).map (·.1))[k]? = some q.1 := by rw [List.getElem?_map, hq]; rfl
  rw [ha τ, List.getElem?_map] at h1
  have hlt : k < n := by
    rcases Nat.lt_or_ge k n with g | g
    · exact g
    · rw [List.getElem?_eq_none (by simpa using g)] at h1
      cases h1
  rw [List.getElem?_range hlt] at h1
  exact ⟨k, hlt, (Option.some.inj h1).symm⟩
theorem j_callC (C : jC D ad bd cA cB p s m c b L xs) {y : MethodName} {c2 : ByteArray} {n2 rk n index : Nat} {C' : String} {T : u_T} {N : Nat} {fs As st0 : List Value} {r : Int32} (hM : kIC l D ad cA (sXC ad) y c2 n2 .int rk (.ref (ad 0) :: As) σ r σ') (hm : kMi y c2 n2 (some .int) n) (hlink : Cond.methodLink "KindRoundsLaw" index y ∈ lw_good) (hcls : y.cls = C') (hc : clC[0]? = some (C', T, N)) (he : (wdC ad cA σ)[0]? = some (ad 0, .inr (0, fs))) (hn : As.length = n) (hR : kR room_1 n2 rk) (hst : st0 = As.reverse ++ .ref (ad 0) :: st) (hroom : (st.map fun v => v.category).sum ≤ 8) (hd : decode code pc = .ok (.invokevirtual index, 3)) (k : J D ad bd cA cB p l e s m below meth c b Q (pc + 3) lv (.int r :: st) σ' τ) : J D ad bd cA cB p l e s m below meth c b Q pc lv st0 σ τ := by
  subst hst
  subst hcls
  intro H locs ls h1 h2 hS hl
  exact va_calli (va_runV (As := As) (rest := st) ⟨C.1, C.2.1, C.2.2.1, C.2.2.2.1, C.2.2.2.2.1⟩ hM ⟨callB_of n C.2.2.2.2.1 (good_cons hm.1.1) rfl rfl rfl (C.2.2.2.2.1 _ hm.1.2.1) (C.2.2.2.2.1 _ hlink) hm.1.2.2 hR, C.2.2.2.2.1 _ hm.2.1, C.2.2.2.2.1 _ hm.2.2⟩ ⟨kPre_blind sXC_P, va_recv C.2.2.2.2.2.2.1 h1 hc he, fun U hU hW => ⟨rfl, by rw [hU]; exact h1, va_K.moved hW.alike C.2.2.2.2.2.2.1, nK_warm hW C.2.2.2.2.2.1, (sXC_P s U [] C.2.2.2.2.2.2.2.2.2.2.2.2.2.1 ⟨by rw [hU]; exact hS.1, fun q g _ => by rw [hU]; exact hS.2.1 q g (Nat.not_le.mpr g), fun _ h => by cases h⟩ hW)⟩⟩ rfl hn hl.1 rfl (lv_room hroom) hd ⟨by decide, by decide⟩) hS (fun q _ h => C.2.2.2.2.2.2.2.2.2.2.2.1 q h) (fun q h => C.2.2.2.2.2.2.2.2.2.2.2.1 q h) (fun r2 u t H1 locs1 ht hvm hw hB hz1 hk1 hS1 => by obtain ⟨rfl, rfl⟩ := hw; exact k H1 locs1 ls (by rw [← ht]; exact hB.1) (kept_other (wdM_addr _ _) (fun q h hc => C.2.2.2.2.2.2.2.2.2.2.1 q hc h) hk1 h2) hS1 hl)
theorem j_callM (C : jC D ad bd cA cB p s m c b L xs) {y : MethodName} {c2 : ByteArray} {n2 rk n index : Nat} {C' : String} {T : u_T} {N : Nat} {fs As st0 : List Value} {r : Int32} (hM : kIM l D bd cB (xTr) y c2 n2 .int rk (.ref (bd 0) :: As) τ r τ') (hm : kMi y c2 n2 (some .int) n) (hlink : Cond.methodLink "KindRoundsLaw" index y ∈ lw_good) (hcls : y.cls = C') (hc : clC[12]? = some (C', T, N)) (he : (wdM bd cB τ)[0]? = some (bd 0, .inr (12, fs))) (hn : As.length = n) (hR : kR room_1 n2 rk) (hst : st0 = As.reverse ++ .ref (bd 0) :: st) (hroom : (st.map fun v => v.category).sum ≤ 8) (hd : decode code pc = .ok (.invokevirtual index, 3)) (k : J D ad bd cA cB p l e s m below meth c b Q (pc + 3) lv (.int r :: st) σ τ') : J D ad bd cA cB p l e s m below meth c b Q pc lv st0 σ τ := by
  subst hst
  subst hcls
  intro H locs ls h1 h2 hS hl
  exact va_calli (va_runV (As := As) (rest := st) ⟨C.1, C.2.1, C.2.2.1, C.2.2.2.1, C.2.2.2.2.1⟩ hM ⟨callB_of n C.2.2.2.2.1 (good_cons hm.1.1) rfl rfl rfl (C.2.2.2.2.1 _ hm.1.2.1) (C.2.2.2.2.1 _ hlink) hm.1.2.2 hR, C.2.2.2.2.1 _ hm.2.1, C.2.2.2.2.1 _ hm.2.2⟩ ⟨kPre_blind (xTr_P (A := owM bd)), va_recv C.2.2.2.2.2.2.2.1 h2 hc he, fun U hU hW => ⟨rfl, by rw [hU]; exact h2, va_K.moved hW.alike C.2.2.2.2.2.2.2.1, nK_warm hW C.2.2.2.2.2.1, trivial⟩⟩ rfl hn hl.1 rfl (lv_room hroom) hd ⟨by decide, by decide⟩) hS (fun q _ h => C.2.2.2.2.2.2.2.2.2.2.2.2.1 q h) (fun q h => C.2.2.2.2.2.2.2.2.2.2.2.2.1 q h) (fun r2 u t H1 locs1 ht hvm hw hB hz1 hk1 hS1 => by obtain ⟨rfl, rfl⟩ := hw; exact k H1 locs1 ls (kept_other (wdC_addr _ _) (fun q h hc => C.2.2.2.2.2.2.2.2.2.2.1 q h hc) hk1 h1) (by rw [← ht]; exact hB.1) hS1 hl)
theorem kR_law {nL rk : Nat} (h : rk ≤ 60) (h2 : nL ≤ 21) : kR room_1 nL rk := by
  unfold kR room_1
  dsimp only
  constructor <;> omega
theorem law_in {i k : Nat} (hL : L ≤ 3072) (h : i + 6 ≤ L) (hk : k < 6) : vp_in (nI i + nI k) L := by
  rw [nI_add]
  exact vp_in_nI (by omega) (by omega)
theorem j_lv (ks : List Nat) (h : lv_pick lv ks = lv') (k : J D ad bd cA cB p l e s m below meth c b Q pc lv' st σ τ) : J D ad bd cA cB p l e s m below meth c b Q pc lv st σ τ :=
  fun H locs ls h1 h2 hS hl => k H locs ls h1 h2 hS (lv_sub hl ks h)
theorem law_inc (i : Nat) : nI i + Int32.ofInt 6 = nI (i + 6) := by
  rw [show Int32.ofInt 6 = nI 6 from by decide, nI_add]
theorem law_le {i : Nat} (hL : L ≤ 3072) (hi : i ≤ L + 6) (h : ¬ Int32.ofNat L - 6 < nI i) : i + 6 ≤ L := by
  have e1 : (Int32.ofNat L - 6).toInt = (L : Int) - 6 := by
    have := pk_sub_toInt (a := L) (b := 6) (by omega) (by omega)
    exact this
  have e2 : (nI i).toInt = (i : Int) := nI_toInt (by omega)
  rw [Int32.lt_iff_toInt_lt, e1, e2] at h
  omega
set_option maxHeartbeats 8000000 in
set_option maxRecDepth 100000 in
theorem law_loop {F : Nat} {Rel : zS → zS → Prop} (hO : pOK F Rel) (hL : L ≤ 3072) (C : jC D ad bd cA cB p s m c b L xs) (hEnd : ∀ σ τ, J D ad bd cA cB p l e s m below meth c b Q 453 [(0, .ref b), (1, .ref (ad 0)), (2, .ref (bd 0))] [.int 1] σ τ) : ∀ (n i : Nat), i ≤ L + 6 → L + 6 < i + 6 * n → ∀ (σ τ : zS), Rel σ τ → J D ad bd cA cB p l e s m below meth c b Q 18 [(0, .ref b), (1, .ref (ad 0)), (2, .ref (bd 0)), (3, .int (nI i))] [] σ τ := by
  intro n
  induction n with
  | zero => intro i h1 h2; omega
  | succ n ih =>
    intro i hi hn σ τ hR
    refine j_iload_n (pc := 18) C d_law_18 rfl 3 rfl ?_
    refine j_aload_n (pc := 19) C d_law_19 rfl 0 rfl ?_
    refine j_slen (pc := 20) C d_law_20 ?_
    refine j_bipush (pc := 21) C d_law_21 kb_6 ?_
    refine j_isub (pc := 23) C d_law_23 ?_
    refine j_icmp_gt (pc := 24) (tgt := 452) C d_law_24 (by decide) (fun c1 => ?_) (fun c1 => ?_)
    · refine j_iconst (pc := 452) C d_law_452 ki_1 ?_
      exact j_lv [0, 1, 2] rfl (hEnd σ τ)
    · have hi6 : i + 6 ≤ L := law_le hL hi c1
      refine j_aload_n (pc := 27) C d_law_27 rfl 0 rfl ?_
      refine j_iload_n (pc := 28) C d_law_28 rfl 3 rfl ?_
      refine j_sld (pc := 29) C (vp_in_nI (by omega) (by omega)) d_law_29 ?_
      refine j_bipush (pc := 30) C d_law_30 kb_15 ?_
      refine j_iand (pc := 32) C d_law_32 ?_
      generalize hxe : xs (nI i).toNatClampNeg &&& 15 = x
      have back : ∀ σ τ, Rel σ τ → J D ad bd cA cB p l e s m below meth c b Q 446 [(0, .ref b), (1, .ref (ad 0)), (2, .ref (bd 0)), (3, .int (nI i))] [] σ τ := by
        intro σ τ hR
        refine j_iinc (pc := 446) (lv' := [(0, .ref b), (1, .ref (ad 0)), (2, .ref (bd 0)), (3, .int (nI (i + 6)))]) C d_law_446 3 rfl (law_inc i) (by decide) [1, 2, 3, 0] rfl ?_
        refine j_goto (pc := 449) (tgt := 18) C d_law_449 (by decide) ?_
        exact ih (i + 6) (by omega) (by omega) σ τ hR
      by_cases e0 : x = (0 : Int32)
      · refine j_tableIn (pc := 33) (off := 71) (tgt := 104) C d_law_33 (by rw [e0]; decide) (by rw [e0]; decide) (by rw [e0]; decide) (by decide) ?_
        obtain ⟨r, σ', τ', h1, h2, hR'⟩ := hO.2.1 σ τ hR (xs (nI i + (1 : Int32)).toNatClampNeg) (xs (nI i + (2 : Int32)).toNatClampNeg) (xs (nI i + (3 : Int32)).toNatClampNeg) (xs (nI i + (4 : Int32)).toNatClampNeg) (xs (nI i + (5 : Int32)).toNatClampNeg)
        refine j_aload_n (pc := 104) C d_law_104 rfl 1 rfl ?_
        refine j_aload_n (pc := 105) C d_law_105 rfl 0 rfl ?_
        refine j_iload_n (pc := 106) C d_law_106 rfl 3 rfl ?_
        refine j_iconst (pc := 107) C d_law_107 ki_1 ?_
        refine j_iadd (pc := 108) C d_law_108 ?_
        refine j_sld (pc := 109) C (law_in hL hi6 (k := 1) (by decide)) d_law_109 ?_
        refine j_aload_n (pc := 110) C d_law_110 rfl 0 rfl ?_
        refine j_iload_n (pc := 111) C d_law_111 rfl 3 rfl ?_
        refine j_iconst (pc := 112) C d_law_112 ki_2 ?_
        refine j_iadd (pc := 113) C d_law_113 ?_
        refine j_sld (pc := 114) C (law_in hL hi6 (k := 2) (by decide)) d_law_114 ?_
        refine j_aload_n (pc := 115) C d_law_115 rfl 0 rfl ?_
        refine j_iload_n (pc := 116) C d_law_116 rfl 3 rfl ?_
        refine j_iconst (pc := 117) C d_law_117 ki_3 ?_
        refine j_iadd (pc := 118) C d_law_118 ?_
        refine j_sld (pc := 119) C (law_in hL hi6 (k := 3) (by decide)) d_law_119 ?_
        refine j_aload_n (pc := 120) C d_law_120 rfl 0 rfl ?_
        refine j_iload_n (pc := 121) C d_law_121 rfl 3 rfl ?_
        refine j_iconst (pc := 122) C d_law_122 ki_4 ?_
        refine j_iadd (pc := 123) C d_law_123 ?_
        refine j_sld (pc := 124) C (law_in hL hi6 (k := 4) (by decide)) d_law_124 ?_
        refine j_aload_n (pc := 125) C d_law_125 rfl 0 rfl ?_
        refine j_iload_n (pc := 126) C d_law_126 rfl 3 rfl ?_
        refine j_iconst (pc := 127) C d_law_127 ki_5 ?_
        refine j_iadd (pc := 128) C d_law_128 ?_
        refine j_sld (pc := 129) C (law_in hL hi6 (k := 5) (by decide)) d_law_129 ?_
        refine j_callC (pc := 130) C (k_Q_feed C.2.2.2.2.2.2.2.2.1 h1) km_Q_feed mL_0 rfl rfl rfl rfl (kR_law (by decide) (by decide)) rfl (Nat.le_of_ble_eq_true rfl) d_law_130 ?_
        refine j_aload_n (pc := 133) C d_law_133 rfl 2 rfl ?_
        refine j_aload_n (pc := 134) C d_law_134 rfl 0 rfl ?_
        refine j_iload_n (pc := 135) C d_law_135 rfl 3 rfl ?_
        refine j_iconst (pc := 136) C d_law_136 ki_1 ?_
        refine j_iadd (pc := 137) C d_law_137 ?_
        refine j_sld (pc := 138) C (law_in hL hi6 (k := 1) (by decide)) d_law_138 ?_
        refine j_aload_n (pc := 139) C d_law_139 rfl 0 rfl ?_
        refine j_iload_n (pc := 140) C d_law_140 rfl 3 rfl ?_
        refine j_iconst (pc := 141) C d_law_141 ki_2 ?_
        refine j_iadd (pc := 142) C d_law_142 ?_
        refine j_sld (pc := 143) C (law_in hL hi6 (k := 2) (by decide)) d_law_143 ?_
        refine j_aload_n (pc := 144) C d_law_144 rfl 0 rfl ?_
        refine j_iload_n (pc := 145) C d_law_145 rfl 3 rfl ?_
        refine j_iconst (pc := 146) C d_law_146 ki_3 ?_
        refine j_iadd (pc := 147) C d_law_147 ?_
        refine j_sld (pc := 148) C (law_in hL hi6 (k := 3) (by decide)) d_law_148 ?_
        refine j_aload_n (pc := 149) C d_law_149 rfl 0 rfl ?_
        refine j_iload_n (pc := 150) C d_law_150 rfl 3 rfl ?_
        refine j_iconst (pc := 151) C d_law_151 ki_4 ?_
        refine j_iadd (pc := 152) C d_law_152 ?_
        refine j_sld (pc := 153) C (law_in hL hi6 (k := 4) (by decide)) d_law_153 ?_
        refine j_aload_n (pc := 154) C d_law_154 rfl 0 rfl ?_
        refine j_iload_n (pc := 155) C d_law_155 rfl 3 rfl ?_
        refine j_iconst (pc := 156) C d_law_156 ki_5 ?_
        refine j_iadd (pc := 157) C d_law_157 ?_
        refine j_sld (pc := 158) C (law_in hL hi6 (k := 5) (by decide)) d_law_158 ?_
        refine j_callM (pc := 159) C (k_Md_feed C.2.2.2.2.2.2.2.2.2.1 h2) kz_Md_feed mL_1 rfl rfl rfl rfl (kR_law (by decide) (by decide)) rfl (Nat.le_of_ble_eq_true rfl) d_law_159 ?_
        refine j_icmp_eq (pc := 162) (tgt := 446) C d_law_162 (by decide) (fun _ => ?_) (fun h => absurd rfl h)
        exact back σ' τ' hR'
      · skip
        by_cases e1 : x = (1 : Int32)
        · refine j_tableIn (pc := 33) (off := 134) (tgt := 167) C d_law_33 (by rw [e1]; decide) (by rw [e1]; decide) (by rw [e1]; decide) (by decide) ?_
          obtain ⟨r, σ', τ', h1, h2, hR'⟩ := hO.2.2.1 σ τ hR (xs (nI i + (1 : Int32)).toNatClampNeg)
          refine j_aload_n (pc := 167) C d_law_167 rfl 1 rfl ?_
          refine j_aload_n (pc := 168) C d_law_168 rfl 0 rfl ?_
          refine j_iload_n (pc := 169) C d_law_169 rfl 3 rfl ?_
          refine j_iconst (pc := 170) C d_law_170 ki_1 ?_
          refine j_iadd (pc := 171) C d_law_171 ?_
          refine j_sld (pc := 172) C (law_in hL hi6 (k := 1) (by decide)) d_law_172 ?_
          refine j_callC (pc := 173) C (k_Q_cut C.2.2.2.2.2.2.2.2.1 h1) km_Q_cut mL_2 rfl rfl rfl rfl (kR_law (by decide) (by decide)) rfl (Nat.le_of_ble_eq_true rfl) d_law_173 ?_
          refine j_aload_n (pc := 176) C d_law_176 rfl 2 rfl ?_
          refine j_aload_n (pc := 177) C d_law_177 rfl 0 rfl ?_
          refine j_iload_n (pc := 178) C d_law_178 rfl 3 rfl ?_
          refine j_iconst (pc := 179) C d_law_179 ki_1 ?_
          refine j_iadd (pc := 180) C d_law_180 ?_
          refine j_sld (pc := 181) C (law_in hL hi6 (k := 1) (by decide)) d_law_181 ?_
          refine j_callM (pc := 182) C (k_Md_cut C.2.2.2.2.2.2.2.2.2.1 h2) kz_Md_cut mL_3 rfl rfl rfl rfl (kR_law (by decide) (by decide)) rfl (Nat.le_of_ble_eq_true rfl) d_law_182 ?_
          refine j_icmp_eq (pc := 185) (tgt := 446) C d_law_185 (by decide) (fun _ => ?_) (fun h => absurd rfl h)
          exact back σ' τ' hR'
        · skip
          by_cases e2 : x = (2 : Int32)
          · refine j_tableIn (pc := 33) (off := 157) (tgt := 190) C d_law_33 (by rw [e2]; decide) (by rw [e2]; decide) (by rw [e2]; decide) (by decide) ?_
            obtain ⟨r, σ', τ', h1, h2, hR'⟩ := hO.2.2.2.1 σ τ hR 
            refine j_aload_n (pc := 190) C d_law_190 rfl 1 rfl ?_
            refine j_callC (pc := 191) C (k_Q_read C.2.2.2.2.2.2.2.2.1 h1) km_Q_read mL_4 rfl rfl rfl rfl (kR_law (by decide) (by decide)) rfl (Nat.le_of_ble_eq_true rfl) d_law_191 ?_
            refine j_aload_n (pc := 194) C d_law_194 rfl 2 rfl ?_
            refine j_callM (pc := 195) C (k_Md_read C.2.2.2.2.2.2.2.2.2.1 h2) kz_Md_read mL_5 rfl rfl rfl rfl (kR_law (by decide) (by decide)) rfl (Nat.le_of_ble_eq_true rfl) d_law_195 ?_
            refine j_icmp_eq (pc := 198) (tgt := 446) C d_law_198 (by decide) (fun _ => ?_) (fun h => absurd rfl h)
            exact back σ' τ' hR'
          · skip
            by_cases e3 : x = (3 : Int32)
            · refine j_tableIn (pc := 33) (off := 170) (tgt := 203) C d_law_33 (by rw [e3]; decide) (by rw [e3]; decide) (by rw [e3]; decide) (by decide) ?_
              obtain ⟨r, σ', τ', h1, h2, hR'⟩ := hO.2.2.2.2.1 σ τ hR 
              refine j_aload_n (pc := 203) C d_law_203 rfl 1 rfl ?_
              refine j_callC (pc := 204) C (k_Q_place C.2.2.2.2.2.2.2.2.1 h1) km_Q_place mL_6 rfl rfl rfl rfl (kR_law (by decide) (by decide)) rfl (Nat.le_of_ble_eq_true rfl) d_law_204 ?_
              refine j_aload_n (pc := 207) C d_law_207 rfl 2 rfl ?_
              refine j_callM (pc := 208) C (k_Md_place C.2.2.2.2.2.2.2.2.2.1 h2) kz_Md_place mL_7 rfl rfl rfl rfl (kR_law (by decide) (by decide)) rfl (Nat.le_of_ble_eq_true rfl) d_law_208 ?_
              refine j_icmp_eq (pc := 211) (tgt := 446) C d_law_211 (by decide) (fun _ => ?_) (fun h => absurd rfl h)
              exact back σ' τ' hR'
            · skip
              by_cases e4 : x = (4 : Int32)
              · refine j_tableIn (pc := 33) (off := 183) (tgt := 216) C d_law_33 (by rw [e4]; decide) (by rw [e4]; decide) (by rw [e4]; decide) (by decide) ?_
                obtain ⟨r, σ', τ', h1, h2, hR'⟩ := hO.2.2.2.2.2.1 σ τ hR (xs (nI i + (1 : Int32)).toNatClampNeg)
                refine j_aload_n (pc := 216) C d_law_216 rfl 1 rfl ?_
                refine j_aload_n (pc := 217) C d_law_217 rfl 0 rfl ?_
                refine j_iload_n (pc := 218) C d_law_218 rfl 3 rfl ?_
                refine j_iconst (pc := 219) C d_law_219 ki_1 ?_
                refine j_iadd (pc := 220) C d_law_220 ?_
                refine j_sld (pc := 221) C (law_in hL hi6 (k := 1) (by decide)) d_law_221 ?_
                refine j_callC (pc := 222) C (k_Q_side C.2.2.2.2.2.2.2.2.1 h1) km_Q_side mL_8 rfl rfl rfl rfl (kR_law (by decide) (by decide)) rfl (Nat.le_of_ble_eq_true rfl) d_law_222 ?_
                refine j_aload_n (pc := 225) C d_law_225 rfl 2 rfl ?_
                refine j_aload_n (pc := 226) C d_law_226 rfl 0 rfl ?_
                refine j_iload_n (pc := 227) C d_law_227 rfl 3 rfl ?_
                refine j_iconst (pc := 228) C d_law_228 ki_1 ?_
                refine j_iadd (pc := 229) C d_law_229 ?_
                refine j_sld (pc := 230) C (law_in hL hi6 (k := 1) (by decide)) d_law_230 ?_
                refine j_callM (pc := 231) C (k_Md_side C.2.2.2.2.2.2.2.2.2.1 h2) kz_Md_side mL_9 rfl rfl rfl rfl (kR_law (by decide) (by decide)) rfl (Nat.le_of_ble_eq_true rfl) d_law_231 ?_
                refine j_icmp_eq (pc := 234) (tgt := 446) C d_law_234 (by decide) (fun _ => ?_) (fun h => absurd rfl h)
                exact back σ' τ' hR'
              · skip
                by_cases e5 : x = (5 : Int32)
                · refine j_tableIn (pc := 33) (off := 206) (tgt := 239) C d_law_33 (by rw [e5]; decide) (by rw [e5]; decide) (by rw [e5]; decide) (by decide) ?_
                  obtain ⟨r, σ', τ', h1, h2, hR'⟩ := hO.2.2.2.2.2.2.1 σ τ hR (xs (nI i + (1 : Int32)).toNatClampNeg)
                  refine j_aload_n (pc := 239) C d_law_239 rfl 1 rfl ?_
                  refine j_aload_n (pc := 240) C d_law_240 rfl 0 rfl ?_
                  refine j_iload_n (pc := 241) C d_law_241 rfl 3 rfl ?_
                  refine j_iconst (pc := 242) C d_law_242 ki_1 ?_
                  refine j_iadd (pc := 243) C d_law_243 ?_
                  refine j_sld (pc := 244) C (law_in hL hi6 (k := 1) (by decide)) d_law_244 ?_
                  refine j_callC (pc := 245) C (k_Q_out C.2.2.2.2.2.2.2.2.1 h1) km_Q_out mL_10 rfl rfl rfl rfl (kR_law (by decide) (by decide)) rfl (Nat.le_of_ble_eq_true rfl) d_law_245 ?_
                  refine j_aload_n (pc := 248) C d_law_248 rfl 2 rfl ?_
                  refine j_aload_n (pc := 249) C d_law_249 rfl 0 rfl ?_
                  refine j_iload_n (pc := 250) C d_law_250 rfl 3 rfl ?_
                  refine j_iconst (pc := 251) C d_law_251 ki_1 ?_
                  refine j_iadd (pc := 252) C d_law_252 ?_
                  refine j_sld (pc := 253) C (law_in hL hi6 (k := 1) (by decide)) d_law_253 ?_
                  refine j_callM (pc := 254) C (k_Md_out C.2.2.2.2.2.2.2.2.2.1 h2) kz_Md_out mL_11 rfl rfl rfl rfl (kR_law (by decide) (by decide)) rfl (Nat.le_of_ble_eq_true rfl) d_law_254 ?_
                  refine j_icmp_eq (pc := 257) (tgt := 446) C d_law_257 (by decide) (fun _ => ?_) (fun h => absurd rfl h)
                  exact back σ' τ' hR'
                · skip
                  by_cases e6 : x = (6 : Int32)
                  · refine j_tableIn (pc := 33) (off := 229) (tgt := 262) C d_law_33 (by rw [e6]; decide) (by rw [e6]; decide) (by rw [e6]; decide) (by decide) ?_
                    obtain ⟨r, σ', τ', h1, h2, hR'⟩ := hO.2.2.2.2.2.2.2.1 σ τ hR (xs (nI i + (1 : Int32)).toNatClampNeg) (xs (nI i + (2 : Int32)).toNatClampNeg)
                    refine j_aload_n (pc := 262) C d_law_262 rfl 1 rfl ?_
                    refine j_aload_n (pc := 263) C d_law_263 rfl 0 rfl ?_
                    refine j_iload_n (pc := 264) C d_law_264 rfl 3 rfl ?_
                    refine j_iconst (pc := 265) C d_law_265 ki_1 ?_
                    refine j_iadd (pc := 266) C d_law_266 ?_
                    refine j_sld (pc := 267) C (law_in hL hi6 (k := 1) (by decide)) d_law_267 ?_
                    refine j_aload_n (pc := 268) C d_law_268 rfl 0 rfl ?_
                    refine j_iload_n (pc := 269) C d_law_269 rfl 3 rfl ?_
                    refine j_iconst (pc := 270) C d_law_270 ki_2 ?_
                    refine j_iadd (pc := 271) C d_law_271 ?_
                    refine j_sld (pc := 272) C (law_in hL hi6 (k := 2) (by decide)) d_law_272 ?_
                    refine j_callC (pc := 273) C (k_Q_told C.2.2.2.2.2.2.2.2.1 h1) km_Q_told mL_12 rfl rfl rfl rfl (kR_law (by decide) (by decide)) rfl (Nat.le_of_ble_eq_true rfl) d_law_273 ?_
                    refine j_aload_n (pc := 276) C d_law_276 rfl 2 rfl ?_
                    refine j_aload_n (pc := 277) C d_law_277 rfl 0 rfl ?_
                    refine j_iload_n (pc := 278) C d_law_278 rfl 3 rfl ?_
                    refine j_iconst (pc := 279) C d_law_279 ki_1 ?_
                    refine j_iadd (pc := 280) C d_law_280 ?_
                    refine j_sld (pc := 281) C (law_in hL hi6 (k := 1) (by decide)) d_law_281 ?_
                    refine j_aload_n (pc := 282) C d_law_282 rfl 0 rfl ?_
                    refine j_iload_n (pc := 283) C d_law_283 rfl 3 rfl ?_
                    refine j_iconst (pc := 284) C d_law_284 ki_2 ?_
                    refine j_iadd (pc := 285) C d_law_285 ?_
                    refine j_sld (pc := 286) C (law_in hL hi6 (k := 2) (by decide)) d_law_286 ?_
                    refine j_callM (pc := 287) C (k_Md_told C.2.2.2.2.2.2.2.2.2.1 h2) kz_Md_told mL_13 rfl rfl rfl rfl (kR_law (by decide) (by decide)) rfl (Nat.le_of_ble_eq_true rfl) d_law_287 ?_
                    refine j_icmp_eq (pc := 290) (tgt := 446) C d_law_290 (by decide) (fun _ => ?_) (fun h => absurd rfl h)
                    exact back σ' τ' hR'
                  · skip
                    by_cases e7 : x = (7 : Int32)
                    · refine j_tableIn (pc := 33) (off := 262) (tgt := 295) C d_law_33 (by rw [e7]; decide) (by rw [e7]; decide) (by rw [e7]; decide) (by decide) ?_
                      obtain ⟨r, σ', τ', h1, h2, hR'⟩ := hO.2.2.2.2.2.2.2.2.1 σ τ hR (xs (nI i + (1 : Int32)).toNatClampNeg) (xs (nI i + (2 : Int32)).toNatClampNeg)
                      refine j_aload_n (pc := 295) C d_law_295 rfl 1 rfl ?_
                      refine j_aload_n (pc := 296) C d_law_296 rfl 0 rfl ?_
                      refine j_iload_n (pc := 297) C d_law_297 rfl 3 rfl ?_
                      refine j_iconst (pc := 298) C d_law_298 ki_1 ?_
                      refine j_iadd (pc := 299) C d_law_299 ?_
                      refine j_sld (pc := 300) C (law_in hL hi6 (k := 1) (by decide)) d_law_300 ?_
                      refine j_aload_n (pc := 301) C d_law_301 rfl 0 rfl ?_
                      refine j_iload_n (pc := 302) C d_law_302 rfl 3 rfl ?_
                      refine j_iconst (pc := 303) C d_law_303 ki_2 ?_
                      refine j_iadd (pc := 304) C d_law_304 ?_
                      refine j_sld (pc := 305) C (law_in hL hi6 (k := 2) (by decide)) d_law_305 ?_
                      refine j_callC (pc := 306) C (k_Q_kindOf C.2.2.2.2.2.2.2.2.1 h1) km_Q_kindOf mL_14 rfl rfl rfl rfl (kR_law (by decide) (by decide)) rfl (Nat.le_of_ble_eq_true rfl) d_law_306 ?_
                      refine j_aload_n (pc := 309) C d_law_309 rfl 2 rfl ?_
                      refine j_aload_n (pc := 310) C d_law_310 rfl 0 rfl ?_
                      refine j_iload_n (pc := 311) C d_law_311 rfl 3 rfl ?_
                      refine j_iconst (pc := 312) C d_law_312 ki_1 ?_
                      refine j_iadd (pc := 313) C d_law_313 ?_
                      refine j_sld (pc := 314) C (law_in hL hi6 (k := 1) (by decide)) d_law_314 ?_
                      refine j_aload_n (pc := 315) C d_law_315 rfl 0 rfl ?_
                      refine j_iload_n (pc := 316) C d_law_316 rfl 3 rfl ?_
                      refine j_iconst (pc := 317) C d_law_317 ki_2 ?_
                      refine j_iadd (pc := 318) C d_law_318 ?_
                      refine j_sld (pc := 319) C (law_in hL hi6 (k := 2) (by decide)) d_law_319 ?_
                      refine j_callM (pc := 320) C (k_Md_kindOf C.2.2.2.2.2.2.2.2.2.1 h2) kz_Md_kindOf mL_15 rfl rfl rfl rfl (kR_law (by decide) (by decide)) rfl (Nat.le_of_ble_eq_true rfl) d_law_320 ?_
                      refine j_icmp_eq (pc := 323) (tgt := 446) C d_law_323 (by decide) (fun _ => ?_) (fun h => absurd rfl h)
                      exact back σ' τ' hR'
                    · skip
                      by_cases e8 : x = (8 : Int32)
                      · refine j_tableIn (pc := 33) (off := 295) (tgt := 328) C d_law_33 (by rw [e8]; decide) (by rw [e8]; decide) (by rw [e8]; decide) (by decide) ?_
                        obtain ⟨r, σ', τ', h1, h2, hR'⟩ := hO.2.2.2.2.2.2.2.2.2.1 σ τ hR 
                        refine j_aload_n (pc := 328) C d_law_328 rfl 1 rfl ?_
                        refine j_callC (pc := 329) C (k_Q_groups C.2.2.2.2.2.2.2.2.1 h1) km_Q_groups mL_16 rfl rfl rfl rfl (kR_law (by decide) (by decide)) rfl (Nat.le_of_ble_eq_true rfl) d_law_329 ?_
                        refine j_aload_n (pc := 332) C d_law_332 rfl 2 rfl ?_
                        refine j_callM (pc := 333) C (k_Md_groups C.2.2.2.2.2.2.2.2.2.1 h2) kz_Md_groups mL_17 rfl rfl rfl rfl (kR_law (by decide) (by decide)) rfl (Nat.le_of_ble_eq_true rfl) d_law_333 ?_
                        refine j_icmp_eq (pc := 336) (tgt := 446) C d_law_336 (by decide) (fun _ => ?_) (fun h => absurd rfl h)
                        exact back σ' τ' hR'
                      · skip
                        by_cases e9 : x = (9 : Int32)
                        · refine j_tableIn (pc := 33) (off := 308) (tgt := 341) C d_law_33 (by rw [e9]; decide) (by rw [e9]; decide) (by rw [e9]; decide) (by decide) ?_
                          obtain ⟨r, σ', τ', h1, h2, hR'⟩ := hO.2.2.2.2.2.2.2.2.2.2.1 σ τ hR (xs (nI i + (1 : Int32)).toNatClampNeg) (xs (nI i + (2 : Int32)).toNatClampNeg)
                          refine j_aload_n (pc := 341) C d_law_341 rfl 1 rfl ?_
                          refine j_aload_n (pc := 342) C d_law_342 rfl 0 rfl ?_
                          refine j_iload_n (pc := 343) C d_law_343 rfl 3 rfl ?_
                          refine j_iconst (pc := 344) C d_law_344 ki_1 ?_
                          refine j_iadd (pc := 345) C d_law_345 ?_
                          refine j_sld (pc := 346) C (law_in hL hi6 (k := 1) (by decide)) d_law_346 ?_
                          refine j_aload_n (pc := 347) C d_law_347 rfl 0 rfl ?_
                          refine j_iload_n (pc := 348) C d_law_348 rfl 3 rfl ?_
                          refine j_iconst (pc := 349) C d_law_349 ki_2 ?_
                          refine j_iadd (pc := 350) C d_law_350 ?_
                          refine j_sld (pc := 351) C (law_in hL hi6 (k := 2) (by decide)) d_law_351 ?_
                          refine j_callC (pc := 352) C (k_Q_member C.2.2.2.2.2.2.2.2.1 h1) km_Q_member mL_18 rfl rfl rfl rfl (kR_law (by decide) (by decide)) rfl (Nat.le_of_ble_eq_true rfl) d_law_352 ?_
                          refine j_aload_n (pc := 355) C d_law_355 rfl 2 rfl ?_
                          refine j_aload_n (pc := 356) C d_law_356 rfl 0 rfl ?_
                          refine j_iload_n (pc := 357) C d_law_357 rfl 3 rfl ?_
                          refine j_iconst (pc := 358) C d_law_358 ki_1 ?_
                          refine j_iadd (pc := 359) C d_law_359 ?_
                          refine j_sld (pc := 360) C (law_in hL hi6 (k := 1) (by decide)) d_law_360 ?_
                          refine j_aload_n (pc := 361) C d_law_361 rfl 0 rfl ?_
                          refine j_iload_n (pc := 362) C d_law_362 rfl 3 rfl ?_
                          refine j_iconst (pc := 363) C d_law_363 ki_2 ?_
                          refine j_iadd (pc := 364) C d_law_364 ?_
                          refine j_sld (pc := 365) C (law_in hL hi6 (k := 2) (by decide)) d_law_365 ?_
                          refine j_callM (pc := 366) C (k_Md_member C.2.2.2.2.2.2.2.2.2.1 h2) kz_Md_member mL_19 rfl rfl rfl rfl (kR_law (by decide) (by decide)) rfl (Nat.le_of_ble_eq_true rfl) d_law_366 ?_
                          refine j_icmp_eq (pc := 369) (tgt := 446) C d_law_369 (by decide) (fun _ => ?_) (fun h => absurd rfl h)
                          exact back σ' τ' hR'
                        · skip
                          by_cases e10 : x = (10 : Int32)
                          · refine j_tableIn (pc := 33) (off := 341) (tgt := 374) C d_law_33 (by rw [e10]; decide) (by rw [e10]; decide) (by rw [e10]; decide) (by decide) ?_
                            obtain ⟨r, σ', τ', h1, h2, hR'⟩ := hO.2.2.2.2.2.2.2.2.2.2.2.1 σ τ hR (xs (nI i + (1 : Int32)).toNatClampNeg) (xs (nI i + (2 : Int32)).toNatClampNeg)
                            refine j_aload_n (pc := 374) C d_law_374 rfl 1 rfl ?_
                            refine j_aload_n (pc := 375) C d_law_375 rfl 0 rfl ?_
                            refine j_iload_n (pc := 376) C d_law_376 rfl 3 rfl ?_
                            refine j_iconst (pc := 377) C d_law_377 ki_1 ?_
                            refine j_iadd (pc := 378) C d_law_378 ?_
                            refine j_sld (pc := 379) C (law_in hL hi6 (k := 1) (by decide)) d_law_379 ?_
                            refine j_aload_n (pc := 380) C d_law_380 rfl 0 rfl ?_
                            refine j_iload_n (pc := 381) C d_law_381 rfl 3 rfl ?_
                            refine j_iconst (pc := 382) C d_law_382 ki_2 ?_
                            refine j_iadd (pc := 383) C d_law_383 ?_
                            refine j_sld (pc := 384) C (law_in hL hi6 (k := 2) (by decide)) d_law_384 ?_
                            refine j_callC (pc := 385) C (k_Q_needs C.2.2.2.2.2.2.2.2.1 h1) km_Q_needs mL_20 rfl rfl rfl rfl (kR_law (by decide) (by decide)) rfl (Nat.le_of_ble_eq_true rfl) d_law_385 ?_
                            refine j_aload_n (pc := 388) C d_law_388 rfl 2 rfl ?_
                            refine j_aload_n (pc := 389) C d_law_389 rfl 0 rfl ?_
                            refine j_iload_n (pc := 390) C d_law_390 rfl 3 rfl ?_
                            refine j_iconst (pc := 391) C d_law_391 ki_1 ?_
                            refine j_iadd (pc := 392) C d_law_392 ?_
                            refine j_sld (pc := 393) C (law_in hL hi6 (k := 1) (by decide)) d_law_393 ?_
                            refine j_aload_n (pc := 394) C d_law_394 rfl 0 rfl ?_
                            refine j_iload_n (pc := 395) C d_law_395 rfl 3 rfl ?_
                            refine j_iconst (pc := 396) C d_law_396 ki_2 ?_
                            refine j_iadd (pc := 397) C d_law_397 ?_
                            refine j_sld (pc := 398) C (law_in hL hi6 (k := 2) (by decide)) d_law_398 ?_
                            refine j_callM (pc := 399) C (k_Md_needs C.2.2.2.2.2.2.2.2.2.1 h2) kz_Md_needs mL_21 rfl rfl rfl rfl (kR_law (by decide) (by decide)) rfl (Nat.le_of_ble_eq_true rfl) d_law_399 ?_
                            refine j_icmp_eq (pc := 402) (tgt := 446) C d_law_402 (by decide) (fun _ => ?_) (fun h => absurd rfl h)
                            exact back σ' τ' hR'
                          · skip
                            by_cases e11 : x = (11 : Int32)
                            · refine j_tableIn (pc := 33) (off := 374) (tgt := 407) C d_law_33 (by rw [e11]; decide) (by rw [e11]; decide) (by rw [e11]; decide) (by decide) ?_
                              obtain ⟨r, σ', τ', h1, h2, hR'⟩ := hO.2.2.2.2.2.2.2.2.2.2.2.2.1 σ τ hR 
                              refine j_aload_n (pc := 407) C d_law_407 rfl 1 rfl ?_
                              refine j_callC (pc := 408) C (k_Q_kind C.2.2.2.2.2.2.2.2.1 h1) km_Q_kind mL_22 rfl rfl rfl rfl (kR_law (by decide) (by decide)) rfl (Nat.le_of_ble_eq_true rfl) d_law_408 ?_
                              refine j_aload_n (pc := 411) C d_law_411 rfl 2 rfl ?_
                              refine j_callM (pc := 412) C (k_Md_kind C.2.2.2.2.2.2.2.2.2.1 h2) kz_Md_kind mL_23 rfl rfl rfl rfl (kR_law (by decide) (by decide)) rfl (Nat.le_of_ble_eq_true rfl) d_law_412 ?_
                              refine j_icmp_eq (pc := 415) (tgt := 446) C d_law_415 (by decide) (fun _ => ?_) (fun h => absurd rfl h)
                              exact back σ' τ' hR'
                            · skip
                              by_cases e12 : x = (12 : Int32)
                              · refine j_tableIn (pc := 33) (off := 387) (tgt := 420) C d_law_33 (by rw [e12]; decide) (by rw [e12]; decide) (by rw [e12]; decide) (by decide) ?_
                                obtain ⟨r, σ', τ', h1, h2, hR'⟩ := hO.2.2.2.2.2.2.2.2.2.2.2.2.2.1 σ τ hR 
                                refine j_aload_n (pc := 420) C d_law_420 rfl 1 rfl ?_
                                refine j_callC (pc := 421) C (k_Q_plain C.2.2.2.2.2.2.2.2.1 h1) km_Q_plain mL_24 rfl rfl rfl rfl (kR_law (by decide) (by decide)) rfl (Nat.le_of_ble_eq_true rfl) d_law_421 ?_
                                refine j_aload_n (pc := 424) C d_law_424 rfl 2 rfl ?_
                                refine j_callM (pc := 425) C (k_Md_plain C.2.2.2.2.2.2.2.2.2.1 h2) kz_Md_plain mL_25 rfl rfl rfl rfl (kR_law (by decide) (by decide)) rfl (Nat.le_of_ble_eq_true rfl) d_law_425 ?_
                                refine j_icmp_eq (pc := 428) (tgt := 446) C d_law_428 (by decide) (fun _ => ?_) (fun h => absurd rfl h)
                                exact back σ' τ' hR'
                              · skip
                                by_cases e13 : x = (13 : Int32)
                                · refine j_tableIn (pc := 33) (off := 400) (tgt := 433) C d_law_33 (by rw [e13]; decide) (by rw [e13]; decide) (by rw [e13]; decide) (by decide) ?_
                                  obtain ⟨r, σ', τ', h1, h2, hR'⟩ := hO.2.2.2.2.2.2.2.2.2.2.2.2.2.2 σ τ hR 
                                  refine j_aload_n (pc := 433) C d_law_433 rfl 1 rfl ?_
                                  refine j_callC (pc := 434) C (k_Q_same C.2.2.2.2.2.2.2.2.1 h1) km_Q_same mL_26 rfl rfl rfl rfl (kR_law (by decide) (by decide)) rfl (Nat.le_of_ble_eq_true rfl) d_law_434 ?_
                                  refine j_aload_n (pc := 437) C d_law_437 rfl 2 rfl ?_
                                  refine j_callM (pc := 438) C (k_Md_same C.2.2.2.2.2.2.2.2.2.1 h2) kz_Md_same mL_27 rfl rfl rfl rfl (kR_law (by decide) (by decide)) rfl (Nat.le_of_ble_eq_true rfl) d_law_438 ?_
                                  refine j_icmp_eq (pc := 441) (tgt := 446) C d_law_441 (by decide) (fun _ => ?_) (fun h => absurd rfl h)
                                  exact back σ' τ' hR'
                                · skip
                                  refine j_tableOut (pc := 33) (tgt := 446) C d_law_33 (sw_out0_13 e0 e1 e2 e3 e4 e5 e6 e7 e8 e9 e10 e11 e12 e13) (by decide) ?_
                                  exact back σ τ hR
end JL
