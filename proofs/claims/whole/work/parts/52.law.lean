/-! THE CLAIM OUT OF ONE WALK OF THE LAW'S BODY. Your part is whole_start (and what it stands on); all else here is the same for every law, but numbers. -/
def R_law : String := "PrimeKeysLaw"
def lw_P (b : Addr) (xs : List Int32) (args : Array Value) (s : State) : Prop := args = #[.ref b] ∧ s.IntsAt b xs ∧ xs.length ≤ 3072 ∧ (Jvm.Cond.and given_1 narrow_1).before args s = true
def lw_Q (_ : Array Value) (s : State) (o : Outcome) (t : State) : Prop := o = .returned (some (.int 1)) ∧ Framed s o t [] 601024 7293034
def lw_Z (below : List Frame) (a : Array Value) (s : State) : State → Prop := fun t => ∃ o, t.status = .running ∧ Ended t below o ∧ lw_Q a s o t
/-- the law's own end, with 1 on the stack, nothing written that was there before, its room as the claim has it -/
theorem lw_ret {p : Program} {l : Launch} {e : Env} {s : State} {m : MethodId} {below : List Frame} {meth : Method} {c : Code} {b : Nat} (hx : p.tables.exec = Jvm.exec) (hb : c.code = code) (hr : meth.sig.returnType = ret) (hlocks : meth.locks = false) {pc : Nat} {H : Heap} {ls : Array Slot} (hdg : decode code pc = .ok (.ireturn, 1)) : W p l e room_1 s m #[Value.ref b] below meth c H [] 601024 7293034 (lw_Z below #[Value.ref b] s) (F0 m pc ls [.int 1]) := by
  intro T hT X
  obtain ⟨fs, hret, hrun, hended, hW, hframe⟩ := X.leave (v := some (.int 1)) (hlocks := hlocks) (fun h => by rw [hr] at h; cases h)
  have hmeth' : T.vm.method? m = some meth := X.method'
  refine ⟨T.setFrames fs, ?_, .returned (some (.int 1)), hrun, hended, rfl, ⟨_, rfl⟩, hW, hframe⟩
  jvm_step X.here [X.here.top, hx, hb, hdg, hmeth', hr, ret, narrow_b1]
  (try refine ⟨rfl, ?_⟩); (try refine ⟨rfl, ?_⟩)
  first | (intro acts; rw [hret _ acts rfl rfl rfl]) | rw [hret _ _ rfl rfl rfl]
  exact Steps.refl _
/-- what holds at the law's entry: the machine, the code, the tables' words (any of lw_tbl by 'hts w (by decide +kernel)'), the script of L ints xs at the cell b, what the Statement gives of the start (any of its parts by flat_of_before) -/
def lw_At (p : Program) (s : State) (m : MethodId) (meth : Method) (c : Code) (b L : Nat) (xs : Nat → Int32) : Prop :=
  p.tables.exec = Jvm.exec ∧ c.code = code ∧ meth.sig.returnType = ret ∧ c.maxLocals = 7 ∧ s.vm.findClass R_law = some m.cls ∧ (∀ w ∈ lw_tbl, w.before #[Value.ref b] s = true) ∧ va_X b L xs s s.heap ∧ b < s.heap.size ∧ meth.locks = false ∧ (Jvm.Cond.and given_1 narrow_1).before #[Value.ref b] s = true
/-! THE LAW's body over the pure heap: rows over the script (.retAddr 7) -/
abbrev rm_La_law : Room := { frames := 11, cells := 601024, slots := 7293034, locals := 468 }
def SX (x : CX) (L : Nat) (xs : Nat → Int32) : Prop := va_X (x.2.2.2.2.1.2 7) L xs x.1.2.2.2.2 x.1.2.2.2.2.heap ∧ x.2.2.2.2.1.2 7 < x.1.2.2.2.2.heap.size ∧ ¬ x.2.2.1.2.2.1 (x.2.2.2.2.1.2 7)
def sdI (L : Nat) (xs : Nat → Int32) (i : Int32) : Option Int32 := if i < 0 ∨ L ≤ i.toNatClampNeg then none else some (xs i.toNatClampNeg)
section GL
variable {x : CX} {cc : ByteArray} {own : String} {N : Nat} {rm : Room} {cells slots pc : Nat} {h h' : HP} {lv lv' : List (Nat × Value)} {st : List Value}
theorem g_ialoadX (C : EV x cc own N rm) {L : Nat} {xs : Nat → Int32} (hX : SX x L xs) {i a : Int32} (e : sdI L xs i = some a) (d : decode cc pc = .ok (.iaload, 1)) (kk : GG x cells slots h (pc + 1) lv (.int a :: st)) : GG x cells slots h pc lv (.int i :: .retAddr 7 :: st) := by
  unfold sdI at e
  split at e
  · cases e
  · rename_i hc
    have ea := Option.some.inj e
    subst ea
    intro ad H locs ls h1 h2 h3 h4 hP hD hS hl
    obtain ⟨q1, q2, q3⟩ := hX
    have e7 : ad.2 7 = x.2.2.2.2.1.2 7 := by rw [h4.2.1]
    have go := va_sld C.hx C.hb q1 q2 q3 hS (i := i) hc d (kk ad H locs ls h1 (wfs_c wfv_i (wfs_t (wfs_t h2))) h3 h4 hP hD hS hl)
    rw [← e7] at go
    exact go
theorem g_alenX (C : EV x cc own N rm) {L : Nat} {xs : Nat → Int32} (hX : SX x L xs) (d : decode cc pc = .ok (.arraylength, 1)) (kk : GG x cells slots h (pc + 1) lv (.int (Int32.ofNat L) :: st)) : GG x cells slots h pc lv (.retAddr 7 :: st) := by
  intro ad H locs ls h1 h2 h3 h4 hP hD hS hl
  obtain ⟨q1, q2, q3⟩ := hX
  have e7 : ad.2 7 = x.2.2.2.2.1.2 7 := by rw [h4.2.1]
  have go := va_slen C.hx C.hb q1 q2 q3 hS d (kk ad H locs ls h1 (wfs_c wfv_i (wfs_t h2)) h3 h4 hP hD hS hl)
  rw [← e7] at go
  exact go
end GL
abbrev b_La_law : ByteArray := code
theorem d_La_law_0 : decode b_La_law 0 = .ok (.new 8, 3) := by decide +kernel
theorem d_La_law_3 : decode b_La_law 3 = .ok (.dup, 1) := by decide +kernel
theorem d_La_law_4 : decode b_La_law 4 = .ok (.invokespecial 49, 3) := by decide +kernel
theorem d_La_law_7 : decode b_La_law 7 = .ok (.astore_n 1, 1) := by decide +kernel
theorem d_La_law_8 : decode b_La_law 8 = .ok (.new 50, 3) := by decide +kernel
theorem d_La_law_11 : decode b_La_law 11 = .ok (.dup, 1) := by decide +kernel
theorem d_La_law_12 : decode b_La_law 12 = .ok (.invokespecial 52, 3) := by decide +kernel
theorem d_La_law_15 : decode b_La_law 15 = .ok (.astore_n 2, 1) := by decide +kernel
theorem d_La_law_16 : decode b_La_law 16 = .ok (.iconst 1, 1) := by decide +kernel
theorem d_La_law_17 : decode b_La_law 17 = .ok (.newarray .long, 2) := by decide +kernel
theorem d_La_law_19 : decode b_La_law 19 = .ok (.astore_n 3, 1) := by decide +kernel
theorem d_La_law_20 : decode b_La_law 20 = .ok (.iconst 0, 1) := by decide +kernel
theorem d_La_law_21 : decode b_La_law 21 = .ok (.istore 4, 2) := by decide +kernel
theorem d_La_law_23 : decode b_La_law 23 = .ok (.iload 4, 2) := by decide +kernel
theorem d_La_law_25 : decode b_La_law 25 = .ok (.aload_n 0, 1) := by decide +kernel
theorem d_La_law_26 : decode b_La_law 26 = .ok (.arraylength, 1) := by decide +kernel
theorem d_La_law_27 : decode b_La_law 27 = .ok (.bipush 6, 2) := by decide +kernel
theorem d_La_law_29 : decode b_La_law 29 = .ok (.isub, 1) := by decide +kernel
theorem d_La_law_30 : decode b_La_law 30 = .ok (.if_icmp .gt 614, 3) := by decide +kernel
theorem d_La_law_33 : decode b_La_law 33 = .ok (.aload_n 0, 1) := by decide +kernel
theorem d_La_law_34 : decode b_La_law 34 = .ok (.iload 4, 2) := by decide +kernel
theorem d_La_law_36 : decode b_La_law 36 = .ok (.iaload, 1) := by decide +kernel
theorem d_La_law_37 : decode b_La_law 37 = .ok (.bipush 15, 2) := by decide +kernel
theorem d_La_law_39 : decode b_La_law 39 = .ok (.iand, 1) := by decide +kernel
theorem d_La_law_40 : decode b_La_law 40 = .ok (.tableswitch 598 0 10 #[60, 164, 220, 264, 300, 336, 349, 405, 449, 517, 573], 60) := by decide +kernel
theorem d_La_law_100 : decode b_La_law 100 = .ok (.aload_n 1, 1) := by decide +kernel
theorem d_La_law_101 : decode b_La_law 101 = .ok (.aload_n 0, 1) := by decide +kernel
theorem d_La_law_102 : decode b_La_law 102 = .ok (.iload 4, 2) := by decide +kernel
theorem d_La_law_104 : decode b_La_law 104 = .ok (.iconst 1, 1) := by decide +kernel
theorem d_La_law_105 : decode b_La_law 105 = .ok (.iadd, 1) := by decide +kernel
theorem d_La_law_106 : decode b_La_law 106 = .ok (.iaload, 1) := by decide +kernel
theorem d_La_law_107 : decode b_La_law 107 = .ok (.aload_n 0, 1) := by decide +kernel
theorem d_La_law_108 : decode b_La_law 108 = .ok (.iload 4, 2) := by decide +kernel
theorem d_La_law_110 : decode b_La_law 110 = .ok (.iconst 2, 1) := by decide +kernel
theorem d_La_law_111 : decode b_La_law 111 = .ok (.iadd, 1) := by decide +kernel
theorem d_La_law_112 : decode b_La_law 112 = .ok (.iaload, 1) := by decide +kernel
theorem d_La_law_113 : decode b_La_law 113 = .ok (.aload_n 0, 1) := by decide +kernel
theorem d_La_law_114 : decode b_La_law 114 = .ok (.iload 4, 2) := by decide +kernel
theorem d_La_law_116 : decode b_La_law 116 = .ok (.iconst 3, 1) := by decide +kernel
theorem d_La_law_117 : decode b_La_law 117 = .ok (.iadd, 1) := by decide +kernel
theorem d_La_law_118 : decode b_La_law 118 = .ok (.iaload, 1) := by decide +kernel
theorem d_La_law_119 : decode b_La_law 119 = .ok (.aload_n 0, 1) := by decide +kernel
theorem d_La_law_120 : decode b_La_law 120 = .ok (.iload 4, 2) := by decide +kernel
theorem d_La_law_122 : decode b_La_law 122 = .ok (.iconst 4, 1) := by decide +kernel
theorem d_La_law_123 : decode b_La_law 123 = .ok (.iadd, 1) := by decide +kernel
theorem d_La_law_124 : decode b_La_law 124 = .ok (.iaload, 1) := by decide +kernel
theorem d_La_law_125 : decode b_La_law 125 = .ok (.aload_n 0, 1) := by decide +kernel
theorem d_La_law_126 : decode b_La_law 126 = .ok (.iload 4, 2) := by decide +kernel
theorem d_La_law_128 : decode b_La_law 128 = .ok (.iconst 5, 1) := by decide +kernel
theorem d_La_law_129 : decode b_La_law 129 = .ok (.iadd, 1) := by decide +kernel
theorem d_La_law_130 : decode b_La_law 130 = .ok (.iaload, 1) := by decide +kernel
theorem d_La_law_131 : decode b_La_law 131 = .ok (.aload_n 3, 1) := by decide +kernel
theorem d_La_law_132 : decode b_La_law 132 = .ok (.invokestatic 53, 3) := by decide +kernel
theorem d_La_law_135 : decode b_La_law 135 = .ok (.istore 5, 2) := by decide +kernel
theorem d_La_law_137 : decode b_La_law 137 = .ok (.aload_n 2, 1) := by decide +kernel
theorem d_La_law_138 : decode b_La_law 138 = .ok (.aload_n 0, 1) := by decide +kernel
theorem d_La_law_139 : decode b_La_law 139 = .ok (.iload 4, 2) := by decide +kernel
theorem d_La_law_141 : decode b_La_law 141 = .ok (.iconst 1, 1) := by decide +kernel
theorem d_La_law_142 : decode b_La_law 142 = .ok (.iadd, 1) := by decide +kernel
theorem d_La_law_143 : decode b_La_law 143 = .ok (.iaload, 1) := by decide +kernel
theorem d_La_law_144 : decode b_La_law 144 = .ok (.aload_n 0, 1) := by decide +kernel
theorem d_La_law_145 : decode b_La_law 145 = .ok (.iload 4, 2) := by decide +kernel
theorem d_La_law_147 : decode b_La_law 147 = .ok (.iconst 2, 1) := by decide +kernel
theorem d_La_law_148 : decode b_La_law 148 = .ok (.iadd, 1) := by decide +kernel
theorem d_La_law_149 : decode b_La_law 149 = .ok (.iaload, 1) := by decide +kernel
theorem d_La_law_150 : decode b_La_law 150 = .ok (.aload_n 0, 1) := by decide +kernel
theorem d_La_law_151 : decode b_La_law 151 = .ok (.iload 4, 2) := by decide +kernel
theorem d_La_law_153 : decode b_La_law 153 = .ok (.iconst 3, 1) := by decide +kernel
theorem d_La_law_154 : decode b_La_law 154 = .ok (.iadd, 1) := by decide +kernel
theorem d_La_law_155 : decode b_La_law 155 = .ok (.iaload, 1) := by decide +kernel
theorem d_La_law_156 : decode b_La_law 156 = .ok (.aload_n 0, 1) := by decide +kernel
theorem d_La_law_157 : decode b_La_law 157 = .ok (.iload 4, 2) := by decide +kernel
theorem d_La_law_159 : decode b_La_law 159 = .ok (.iconst 4, 1) := by decide +kernel
theorem d_La_law_160 : decode b_La_law 160 = .ok (.iadd, 1) := by decide +kernel
theorem d_La_law_161 : decode b_La_law 161 = .ok (.iaload, 1) := by decide +kernel
theorem d_La_law_162 : decode b_La_law 162 = .ok (.aload_n 0, 1) := by decide +kernel
theorem d_La_law_163 : decode b_La_law 163 = .ok (.iload 4, 2) := by decide +kernel
theorem d_La_law_165 : decode b_La_law 165 = .ok (.iconst 5, 1) := by decide +kernel
theorem d_La_law_166 : decode b_La_law 166 = .ok (.iadd, 1) := by decide +kernel
theorem d_La_law_167 : decode b_La_law 167 = .ok (.iaload, 1) := by decide +kernel
theorem d_La_law_168 : decode b_La_law 168 = .ok (.invokevirtual 58, 3) := by decide +kernel
theorem d_La_law_171 : decode b_La_law 171 = .ok (.istore 6, 2) := by decide +kernel
theorem d_La_law_173 : decode b_La_law 173 = .ok (.aload_n 2, 1) := by decide +kernel
theorem d_La_law_174 : decode b_La_law 174 = .ok (.invokevirtual 59, 3) := by decide +kernel
theorem d_La_law_177 : decode b_La_law 177 = .ok (.iload 5, 2) := by decide +kernel
theorem d_La_law_179 : decode b_La_law 179 = .ok (.if_icmp .eq 5, 3) := by decide +kernel
theorem d_La_law_182 : decode b_La_law 182 = .ok (.iconst 0, 1) := by decide +kernel
theorem d_La_law_183 : decode b_La_law 183 = .ok (.ireturn, 1) := by decide +kernel
theorem d_La_law_184 : decode b_La_law 184 = .ok (.iload 5, 2) := by decide +kernel
theorem d_La_law_186 : decode b_La_law 186 = .ok (.ifCond .ne 15, 3) := by decide +kernel
theorem d_La_law_189 : decode b_La_law 189 = .ok (.aload_n 3, 1) := by decide +kernel
theorem d_La_law_190 : decode b_La_law 190 = .ok (.iconst 0, 1) := by decide +kernel
theorem d_La_law_191 : decode b_La_law 191 = .ok (.laload, 1) := by decide +kernel
theorem d_La_law_192 : decode b_La_law 192 = .ok (.iload 6, 2) := by decide +kernel
theorem d_La_law_194 : decode b_La_law 194 = .ok (.i2l, 1) := by decide +kernel
theorem d_La_law_195 : decode b_La_law 195 = .ok (.lcmp, 1) := by decide +kernel
theorem d_La_law_196 : decode b_La_law 196 = .ok (.ifCond .eq 5, 3) := by decide +kernel
theorem d_La_law_199 : decode b_La_law 199 = .ok (.iconst 0, 1) := by decide +kernel
theorem d_La_law_200 : decode b_La_law 200 = .ok (.ireturn, 1) := by decide +kernel
theorem d_La_law_201 : decode b_La_law 201 = .ok (.goto 437, 3) := by decide +kernel
theorem d_La_law_204 : decode b_La_law 204 = .ok (.aload_n 1, 1) := by decide +kernel
theorem d_La_law_205 : decode b_La_law 205 = .ok (.aload_n 0, 1) := by decide +kernel
theorem d_La_law_206 : decode b_La_law 206 = .ok (.iload 4, 2) := by decide +kernel
theorem d_La_law_208 : decode b_La_law 208 = .ok (.iconst 1, 1) := by decide +kernel
theorem d_La_law_209 : decode b_La_law 209 = .ok (.iadd, 1) := by decide +kernel
theorem d_La_law_210 : decode b_La_law 210 = .ok (.iaload, 1) := by decide +kernel
theorem d_La_law_211 : decode b_La_law 211 = .ok (.aload_n 3, 1) := by decide +kernel
theorem d_La_law_212 : decode b_La_law 212 = .ok (.invokestatic 62, 3) := by decide +kernel
theorem d_La_law_215 : decode b_La_law 215 = .ok (.istore 5, 2) := by decide +kernel
theorem d_La_law_217 : decode b_La_law 217 = .ok (.aload_n 2, 1) := by decide +kernel
theorem d_La_law_218 : decode b_La_law 218 = .ok (.aload_n 0, 1) := by decide +kernel
theorem d_La_law_219 : decode b_La_law 219 = .ok (.iload 4, 2) := by decide +kernel
theorem d_La_law_221 : decode b_La_law 221 = .ok (.iconst 1, 1) := by decide +kernel
theorem d_La_law_222 : decode b_La_law 222 = .ok (.iadd, 1) := by decide +kernel
theorem d_La_law_223 : decode b_La_law 223 = .ok (.iaload, 1) := by decide +kernel
theorem d_La_law_224 : decode b_La_law 224 = .ok (.invokevirtual 65, 3) := by decide +kernel
theorem d_La_law_227 : decode b_La_law 227 = .ok (.istore 6, 2) := by decide +kernel
theorem d_La_law_229 : decode b_La_law 229 = .ok (.aload_n 2, 1) := by decide +kernel
theorem d_La_law_230 : decode b_La_law 230 = .ok (.invokevirtual 59, 3) := by decide +kernel
theorem d_La_law_233 : decode b_La_law 233 = .ok (.iload 5, 2) := by decide +kernel
theorem d_La_law_235 : decode b_La_law 235 = .ok (.if_icmp .eq 5, 3) := by decide +kernel
theorem d_La_law_238 : decode b_La_law 238 = .ok (.iconst 0, 1) := by decide +kernel
theorem d_La_law_239 : decode b_La_law 239 = .ok (.ireturn, 1) := by decide +kernel
theorem d_La_law_240 : decode b_La_law 240 = .ok (.iload 5, 2) := by decide +kernel
theorem d_La_law_242 : decode b_La_law 242 = .ok (.ifCond .ne 15, 3) := by decide +kernel
theorem d_La_law_245 : decode b_La_law 245 = .ok (.aload_n 3, 1) := by decide +kernel
theorem d_La_law_246 : decode b_La_law 246 = .ok (.iconst 0, 1) := by decide +kernel
theorem d_La_law_247 : decode b_La_law 247 = .ok (.laload, 1) := by decide +kernel
theorem d_La_law_248 : decode b_La_law 248 = .ok (.iload 6, 2) := by decide +kernel
theorem d_La_law_250 : decode b_La_law 250 = .ok (.i2l, 1) := by decide +kernel
theorem d_La_law_251 : decode b_La_law 251 = .ok (.lcmp, 1) := by decide +kernel
theorem d_La_law_252 : decode b_La_law 252 = .ok (.ifCond .eq 5, 3) := by decide +kernel
theorem d_La_law_255 : decode b_La_law 255 = .ok (.iconst 0, 1) := by decide +kernel
theorem d_La_law_256 : decode b_La_law 256 = .ok (.ireturn, 1) := by decide +kernel
theorem d_La_law_257 : decode b_La_law 257 = .ok (.goto 381, 3) := by decide +kernel
theorem d_La_law_260 : decode b_La_law 260 = .ok (.aload_n 1, 1) := by decide +kernel
theorem d_La_law_261 : decode b_La_law 261 = .ok (.aload_n 3, 1) := by decide +kernel
theorem d_La_law_262 : decode b_La_law 262 = .ok (.invokestatic 66, 3) := by decide +kernel
theorem d_La_law_265 : decode b_La_law 265 = .ok (.istore 5, 2) := by decide +kernel
theorem d_La_law_267 : decode b_La_law 267 = .ok (.aload_n 2, 1) := by decide +kernel
theorem d_La_law_268 : decode b_La_law 268 = .ok (.invokevirtual 69, 3) := by decide +kernel
theorem d_La_law_271 : decode b_La_law 271 = .ok (.istore 6, 2) := by decide +kernel
theorem d_La_law_273 : decode b_La_law 273 = .ok (.aload_n 2, 1) := by decide +kernel
theorem d_La_law_274 : decode b_La_law 274 = .ok (.invokevirtual 59, 3) := by decide +kernel
theorem d_La_law_277 : decode b_La_law 277 = .ok (.iload 5, 2) := by decide +kernel
theorem d_La_law_279 : decode b_La_law 279 = .ok (.if_icmp .eq 5, 3) := by decide +kernel
theorem d_La_law_282 : decode b_La_law 282 = .ok (.iconst 0, 1) := by decide +kernel
theorem d_La_law_283 : decode b_La_law 283 = .ok (.ireturn, 1) := by decide +kernel
theorem d_La_law_284 : decode b_La_law 284 = .ok (.iload 5, 2) := by decide +kernel
theorem d_La_law_286 : decode b_La_law 286 = .ok (.ifCond .ne 15, 3) := by decide +kernel
theorem d_La_law_289 : decode b_La_law 289 = .ok (.aload_n 3, 1) := by decide +kernel
theorem d_La_law_290 : decode b_La_law 290 = .ok (.iconst 0, 1) := by decide +kernel
theorem d_La_law_291 : decode b_La_law 291 = .ok (.laload, 1) := by decide +kernel
theorem d_La_law_292 : decode b_La_law 292 = .ok (.iload 6, 2) := by decide +kernel
theorem d_La_law_294 : decode b_La_law 294 = .ok (.i2l, 1) := by decide +kernel
theorem d_La_law_295 : decode b_La_law 295 = .ok (.lcmp, 1) := by decide +kernel
theorem d_La_law_296 : decode b_La_law 296 = .ok (.ifCond .eq 5, 3) := by decide +kernel
theorem d_La_law_299 : decode b_La_law 299 = .ok (.iconst 0, 1) := by decide +kernel
theorem d_La_law_300 : decode b_La_law 300 = .ok (.ireturn, 1) := by decide +kernel
theorem d_La_law_301 : decode b_La_law 301 = .ok (.goto 337, 3) := by decide +kernel
theorem d_La_law_304 : decode b_La_law 304 = .ok (.aload_n 1, 1) := by decide +kernel
theorem d_La_law_305 : decode b_La_law 305 = .ok (.aload_n 0, 1) := by decide +kernel
theorem d_La_law_306 : decode b_La_law 306 = .ok (.iload 4, 2) := by decide +kernel
theorem d_La_law_308 : decode b_La_law 308 = .ok (.iconst 1, 1) := by decide +kernel
theorem d_La_law_309 : decode b_La_law 309 = .ok (.iadd, 1) := by decide +kernel
theorem d_La_law_310 : decode b_La_law 310 = .ok (.iaload, 1) := by decide +kernel
theorem d_La_law_311 : decode b_La_law 311 = .ok (.invokestatic 70, 3) := by decide +kernel
theorem d_La_law_314 : decode b_La_law 314 = .ok (.istore 5, 2) := by decide +kernel
theorem d_La_law_316 : decode b_La_law 316 = .ok (.aload_n 2, 1) := by decide +kernel
theorem d_La_law_317 : decode b_La_law 317 = .ok (.aload_n 0, 1) := by decide +kernel
theorem d_La_law_318 : decode b_La_law 318 = .ok (.iload 4, 2) := by decide +kernel
theorem d_La_law_320 : decode b_La_law 320 = .ok (.iconst 1, 1) := by decide +kernel
theorem d_La_law_321 : decode b_La_law 321 = .ok (.iadd, 1) := by decide +kernel
theorem d_La_law_322 : decode b_La_law 322 = .ok (.iaload, 1) := by decide +kernel
theorem d_La_law_323 : decode b_La_law 323 = .ok (.invokevirtual 73, 3) := by decide +kernel
theorem d_La_law_326 : decode b_La_law 326 = .ok (.aload_n 2, 1) := by decide +kernel
theorem d_La_law_327 : decode b_La_law 327 = .ok (.invokevirtual 59, 3) := by decide +kernel
theorem d_La_law_330 : decode b_La_law 330 = .ok (.iload 5, 2) := by decide +kernel
theorem d_La_law_332 : decode b_La_law 332 = .ok (.if_icmp .eq 5, 3) := by decide +kernel
theorem d_La_law_335 : decode b_La_law 335 = .ok (.iconst 0, 1) := by decide +kernel
theorem d_La_law_336 : decode b_La_law 336 = .ok (.ireturn, 1) := by decide +kernel
theorem d_La_law_337 : decode b_La_law 337 = .ok (.goto 301, 3) := by decide +kernel
theorem d_La_law_340 : decode b_La_law 340 = .ok (.aload_n 1, 1) := by decide +kernel
theorem d_La_law_341 : decode b_La_law 341 = .ok (.aload_n 0, 1) := by decide +kernel
theorem d_La_law_342 : decode b_La_law 342 = .ok (.iload 4, 2) := by decide +kernel
theorem d_La_law_344 : decode b_La_law 344 = .ok (.iconst 1, 1) := by decide +kernel
theorem d_La_law_345 : decode b_La_law 345 = .ok (.iadd, 1) := by decide +kernel
theorem d_La_law_346 : decode b_La_law 346 = .ok (.iaload, 1) := by decide +kernel
theorem d_La_law_347 : decode b_La_law 347 = .ok (.invokestatic 74, 3) := by decide +kernel
theorem d_La_law_350 : decode b_La_law 350 = .ok (.istore 5, 2) := by decide +kernel
theorem d_La_law_352 : decode b_La_law 352 = .ok (.aload_n 2, 1) := by decide +kernel
theorem d_La_law_353 : decode b_La_law 353 = .ok (.aload_n 0, 1) := by decide +kernel
theorem d_La_law_354 : decode b_La_law 354 = .ok (.iload 4, 2) := by decide +kernel
theorem d_La_law_356 : decode b_La_law 356 = .ok (.iconst 1, 1) := by decide +kernel
theorem d_La_law_357 : decode b_La_law 357 = .ok (.iadd, 1) := by decide +kernel
theorem d_La_law_358 : decode b_La_law 358 = .ok (.iaload, 1) := by decide +kernel
theorem d_La_law_359 : decode b_La_law 359 = .ok (.invokevirtual 76, 3) := by decide +kernel
theorem d_La_law_362 : decode b_La_law 362 = .ok (.aload_n 2, 1) := by decide +kernel
theorem d_La_law_363 : decode b_La_law 363 = .ok (.invokevirtual 59, 3) := by decide +kernel
theorem d_La_law_366 : decode b_La_law 366 = .ok (.iload 5, 2) := by decide +kernel
theorem d_La_law_368 : decode b_La_law 368 = .ok (.if_icmp .eq 5, 3) := by decide +kernel
theorem d_La_law_371 : decode b_La_law 371 = .ok (.iconst 0, 1) := by decide +kernel
theorem d_La_law_372 : decode b_La_law 372 = .ok (.ireturn, 1) := by decide +kernel
theorem d_La_law_373 : decode b_La_law 373 = .ok (.goto 265, 3) := by decide +kernel
theorem d_La_law_376 : decode b_La_law 376 = .ok (.aload_n 1, 1) := by decide +kernel
theorem d_La_law_377 : decode b_La_law 377 = .ok (.invokevirtual 77, 3) := by decide +kernel
theorem d_La_law_380 : decode b_La_law 380 = .ok (.aload_n 2, 1) := by decide +kernel
theorem d_La_law_381 : decode b_La_law 381 = .ok (.invokevirtual 80, 3) := by decide +kernel
theorem d_La_law_384 : decode b_La_law 384 = .ok (.if_icmp .eq 254, 3) := by decide +kernel
theorem d_La_law_387 : decode b_La_law 387 = .ok (.iconst 0, 1) := by decide +kernel
theorem d_La_law_388 : decode b_La_law 388 = .ok (.ireturn, 1) := by decide +kernel
theorem d_La_law_389 : decode b_La_law 389 = .ok (.aload_n 1, 1) := by decide +kernel
theorem d_La_law_390 : decode b_La_law 390 = .ok (.aload_n 0, 1) := by decide +kernel
theorem d_La_law_391 : decode b_La_law 391 = .ok (.iload 4, 2) := by decide +kernel
theorem d_La_law_393 : decode b_La_law 393 = .ok (.iconst 1, 1) := by decide +kernel
theorem d_La_law_394 : decode b_La_law 394 = .ok (.iadd, 1) := by decide +kernel
theorem d_La_law_395 : decode b_La_law 395 = .ok (.iaload, 1) := by decide +kernel
theorem d_La_law_396 : decode b_La_law 396 = .ok (.aload_n 3, 1) := by decide +kernel
theorem d_La_law_397 : decode b_La_law 397 = .ok (.invokestatic 81, 3) := by decide +kernel
theorem d_La_law_400 : decode b_La_law 400 = .ok (.istore 5, 2) := by decide +kernel
theorem d_La_law_402 : decode b_La_law 402 = .ok (.aload_n 2, 1) := by decide +kernel
theorem d_La_law_403 : decode b_La_law 403 = .ok (.aload_n 0, 1) := by decide +kernel
theorem d_La_law_404 : decode b_La_law 404 = .ok (.iload 4, 2) := by decide +kernel
theorem d_La_law_406 : decode b_La_law 406 = .ok (.iconst 1, 1) := by decide +kernel
theorem d_La_law_407 : decode b_La_law 407 = .ok (.iadd, 1) := by decide +kernel
theorem d_La_law_408 : decode b_La_law 408 = .ok (.iaload, 1) := by decide +kernel
theorem d_La_law_409 : decode b_La_law 409 = .ok (.invokevirtual 83, 3) := by decide +kernel
theorem d_La_law_412 : decode b_La_law 412 = .ok (.istore 6, 2) := by decide +kernel
theorem d_La_law_414 : decode b_La_law 414 = .ok (.aload_n 2, 1) := by decide +kernel
theorem d_La_law_415 : decode b_La_law 415 = .ok (.invokevirtual 59, 3) := by decide +kernel
theorem d_La_law_418 : decode b_La_law 418 = .ok (.iload 5, 2) := by decide +kernel
theorem d_La_law_420 : decode b_La_law 420 = .ok (.if_icmp .eq 5, 3) := by decide +kernel
theorem d_La_law_423 : decode b_La_law 423 = .ok (.iconst 0, 1) := by decide +kernel
theorem d_La_law_424 : decode b_La_law 424 = .ok (.ireturn, 1) := by decide +kernel
theorem d_La_law_425 : decode b_La_law 425 = .ok (.iload 5, 2) := by decide +kernel
theorem d_La_law_427 : decode b_La_law 427 = .ok (.ifCond .ne 15, 3) := by decide +kernel
theorem d_La_law_430 : decode b_La_law 430 = .ok (.aload_n 3, 1) := by decide +kernel
theorem d_La_law_431 : decode b_La_law 431 = .ok (.iconst 0, 1) := by decide +kernel
theorem d_La_law_432 : decode b_La_law 432 = .ok (.laload, 1) := by decide +kernel
theorem d_La_law_433 : decode b_La_law 433 = .ok (.iload 6, 2) := by decide +kernel
theorem d_La_law_435 : decode b_La_law 435 = .ok (.i2l, 1) := by decide +kernel
theorem d_La_law_436 : decode b_La_law 436 = .ok (.lcmp, 1) := by decide +kernel
theorem d_La_law_437 : decode b_La_law 437 = .ok (.ifCond .eq 5, 3) := by decide +kernel
theorem d_La_law_440 : decode b_La_law 440 = .ok (.iconst 0, 1) := by decide +kernel
theorem d_La_law_441 : decode b_La_law 441 = .ok (.ireturn, 1) := by decide +kernel
theorem d_La_law_442 : decode b_La_law 442 = .ok (.goto 196, 3) := by decide +kernel
theorem d_La_law_445 : decode b_La_law 445 = .ok (.aload_n 1, 1) := by decide +kernel
theorem d_La_law_446 : decode b_La_law 446 = .ok (.aload_n 3, 1) := by decide +kernel
theorem d_La_law_447 : decode b_La_law 447 = .ok (.invokestatic 84, 3) := by decide +kernel
theorem d_La_law_450 : decode b_La_law 450 = .ok (.istore 5, 2) := by decide +kernel
theorem d_La_law_452 : decode b_La_law 452 = .ok (.aload_n 2, 1) := by decide +kernel
theorem d_La_law_453 : decode b_La_law 453 = .ok (.invokevirtual 86, 3) := by decide +kernel
theorem d_La_law_456 : decode b_La_law 456 = .ok (.istore 6, 2) := by decide +kernel
theorem d_La_law_458 : decode b_La_law 458 = .ok (.aload_n 2, 1) := by decide +kernel
theorem d_La_law_459 : decode b_La_law 459 = .ok (.invokevirtual 59, 3) := by decide +kernel
theorem d_La_law_462 : decode b_La_law 462 = .ok (.iload 5, 2) := by decide +kernel
theorem d_La_law_464 : decode b_La_law 464 = .ok (.if_icmp .eq 5, 3) := by decide +kernel
theorem d_La_law_467 : decode b_La_law 467 = .ok (.iconst 0, 1) := by decide +kernel
theorem d_La_law_468 : decode b_La_law 468 = .ok (.ireturn, 1) := by decide +kernel
theorem d_La_law_469 : decode b_La_law 469 = .ok (.iload 5, 2) := by decide +kernel
theorem d_La_law_471 : decode b_La_law 471 = .ok (.ifCond .ne 15, 3) := by decide +kernel
theorem d_La_law_474 : decode b_La_law 474 = .ok (.aload_n 3, 1) := by decide +kernel
theorem d_La_law_475 : decode b_La_law 475 = .ok (.iconst 0, 1) := by decide +kernel
theorem d_La_law_476 : decode b_La_law 476 = .ok (.laload, 1) := by decide +kernel
theorem d_La_law_477 : decode b_La_law 477 = .ok (.iload 6, 2) := by decide +kernel
theorem d_La_law_479 : decode b_La_law 479 = .ok (.i2l, 1) := by decide +kernel
theorem d_La_law_480 : decode b_La_law 480 = .ok (.lcmp, 1) := by decide +kernel
theorem d_La_law_481 : decode b_La_law 481 = .ok (.ifCond .eq 5, 3) := by decide +kernel
theorem d_La_law_484 : decode b_La_law 484 = .ok (.iconst 0, 1) := by decide +kernel
theorem d_La_law_485 : decode b_La_law 485 = .ok (.ireturn, 1) := by decide +kernel
theorem d_La_law_486 : decode b_La_law 486 = .ok (.goto 152, 3) := by decide +kernel
theorem d_La_law_489 : decode b_La_law 489 = .ok (.aload_n 1, 1) := by decide +kernel
theorem d_La_law_490 : decode b_La_law 490 = .ok (.aload_n 0, 1) := by decide +kernel
theorem d_La_law_491 : decode b_La_law 491 = .ok (.iload 4, 2) := by decide +kernel
theorem d_La_law_493 : decode b_La_law 493 = .ok (.iconst 1, 1) := by decide +kernel
theorem d_La_law_494 : decode b_La_law 494 = .ok (.iadd, 1) := by decide +kernel
theorem d_La_law_495 : decode b_La_law 495 = .ok (.iaload, 1) := by decide +kernel
theorem d_La_law_496 : decode b_La_law 496 = .ok (.aload_n 0, 1) := by decide +kernel
theorem d_La_law_497 : decode b_La_law 497 = .ok (.iload 4, 2) := by decide +kernel
theorem d_La_law_499 : decode b_La_law 499 = .ok (.iconst 2, 1) := by decide +kernel
theorem d_La_law_500 : decode b_La_law 500 = .ok (.iadd, 1) := by decide +kernel
theorem d_La_law_501 : decode b_La_law 501 = .ok (.iaload, 1) := by decide +kernel
theorem d_La_law_502 : decode b_La_law 502 = .ok (.aload_n 3, 1) := by decide +kernel
theorem d_La_law_503 : decode b_La_law 503 = .ok (.invokestatic 87, 3) := by decide +kernel
theorem d_La_law_506 : decode b_La_law 506 = .ok (.istore 5, 2) := by decide +kernel
theorem d_La_law_508 : decode b_La_law 508 = .ok (.aload_n 2, 1) := by decide +kernel
theorem d_La_law_509 : decode b_La_law 509 = .ok (.aload_n 0, 1) := by decide +kernel
theorem d_La_law_510 : decode b_La_law 510 = .ok (.iload 4, 2) := by decide +kernel
theorem d_La_law_512 : decode b_La_law 512 = .ok (.iconst 1, 1) := by decide +kernel
theorem d_La_law_513 : decode b_La_law 513 = .ok (.iadd, 1) := by decide +kernel
theorem d_La_law_514 : decode b_La_law 514 = .ok (.iaload, 1) := by decide +kernel
theorem d_La_law_515 : decode b_La_law 515 = .ok (.aload_n 0, 1) := by decide +kernel
theorem d_La_law_516 : decode b_La_law 516 = .ok (.iload 4, 2) := by decide +kernel
theorem d_La_law_518 : decode b_La_law 518 = .ok (.iconst 2, 1) := by decide +kernel
theorem d_La_law_519 : decode b_La_law 519 = .ok (.iadd, 1) := by decide +kernel
theorem d_La_law_520 : decode b_La_law 520 = .ok (.iaload, 1) := by decide +kernel
theorem d_La_law_521 : decode b_La_law 521 = .ok (.invokevirtual 90, 3) := by decide +kernel
theorem d_La_law_524 : decode b_La_law 524 = .ok (.istore 6, 2) := by decide +kernel
theorem d_La_law_526 : decode b_La_law 526 = .ok (.aload_n 2, 1) := by decide +kernel
theorem d_La_law_527 : decode b_La_law 527 = .ok (.invokevirtual 59, 3) := by decide +kernel
theorem d_La_law_530 : decode b_La_law 530 = .ok (.iload 5, 2) := by decide +kernel
theorem d_La_law_532 : decode b_La_law 532 = .ok (.if_icmp .eq 5, 3) := by decide +kernel
theorem d_La_law_535 : decode b_La_law 535 = .ok (.iconst 0, 1) := by decide +kernel
theorem d_La_law_536 : decode b_La_law 536 = .ok (.ireturn, 1) := by decide +kernel
theorem d_La_law_537 : decode b_La_law 537 = .ok (.iload 5, 2) := by decide +kernel
theorem d_La_law_539 : decode b_La_law 539 = .ok (.ifCond .ne 15, 3) := by decide +kernel
theorem d_La_law_542 : decode b_La_law 542 = .ok (.aload_n 3, 1) := by decide +kernel
theorem d_La_law_543 : decode b_La_law 543 = .ok (.iconst 0, 1) := by decide +kernel
theorem d_La_law_544 : decode b_La_law 544 = .ok (.laload, 1) := by decide +kernel
theorem d_La_law_545 : decode b_La_law 545 = .ok (.iload 6, 2) := by decide +kernel
theorem d_La_law_547 : decode b_La_law 547 = .ok (.i2l, 1) := by decide +kernel
theorem d_La_law_548 : decode b_La_law 548 = .ok (.lcmp, 1) := by decide +kernel
theorem d_La_law_549 : decode b_La_law 549 = .ok (.ifCond .eq 5, 3) := by decide +kernel
theorem d_La_law_552 : decode b_La_law 552 = .ok (.iconst 0, 1) := by decide +kernel
theorem d_La_law_553 : decode b_La_law 553 = .ok (.ireturn, 1) := by decide +kernel
theorem d_La_law_554 : decode b_La_law 554 = .ok (.goto 84, 3) := by decide +kernel
theorem d_La_law_557 : decode b_La_law 557 = .ok (.aload_n 1, 1) := by decide +kernel
theorem d_La_law_558 : decode b_La_law 558 = .ok (.aload_n 0, 1) := by decide +kernel
theorem d_La_law_559 : decode b_La_law 559 = .ok (.iload 4, 2) := by decide +kernel
theorem d_La_law_561 : decode b_La_law 561 = .ok (.iconst 1, 1) := by decide +kernel
theorem d_La_law_562 : decode b_La_law 562 = .ok (.iadd, 1) := by decide +kernel
theorem d_La_law_563 : decode b_La_law 563 = .ok (.iaload, 1) := by decide +kernel
theorem d_La_law_564 : decode b_La_law 564 = .ok (.aload_n 3, 1) := by decide +kernel
theorem d_La_law_565 : decode b_La_law 565 = .ok (.invokestatic 91, 3) := by decide +kernel
theorem d_La_law_568 : decode b_La_law 568 = .ok (.istore 5, 2) := by decide +kernel
theorem d_La_law_570 : decode b_La_law 570 = .ok (.aload_n 2, 1) := by decide +kernel
theorem d_La_law_571 : decode b_La_law 571 = .ok (.aload_n 0, 1) := by decide +kernel
theorem d_La_law_572 : decode b_La_law 572 = .ok (.iload 4, 2) := by decide +kernel
theorem d_La_law_574 : decode b_La_law 574 = .ok (.iconst 1, 1) := by decide +kernel
theorem d_La_law_575 : decode b_La_law 575 = .ok (.iadd, 1) := by decide +kernel
theorem d_La_law_576 : decode b_La_law 576 = .ok (.iaload, 1) := by decide +kernel
theorem d_La_law_577 : decode b_La_law 577 = .ok (.invokevirtual 93, 3) := by decide +kernel
theorem d_La_law_580 : decode b_La_law 580 = .ok (.istore 6, 2) := by decide +kernel
theorem d_La_law_582 : decode b_La_law 582 = .ok (.aload_n 2, 1) := by decide +kernel
theorem d_La_law_583 : decode b_La_law 583 = .ok (.invokevirtual 59, 3) := by decide +kernel
theorem d_La_law_586 : decode b_La_law 586 = .ok (.iload 5, 2) := by decide +kernel
theorem d_La_law_588 : decode b_La_law 588 = .ok (.if_icmp .eq 5, 3) := by decide +kernel
theorem d_La_law_591 : decode b_La_law 591 = .ok (.iconst 0, 1) := by decide +kernel
theorem d_La_law_592 : decode b_La_law 592 = .ok (.ireturn, 1) := by decide +kernel
theorem d_La_law_593 : decode b_La_law 593 = .ok (.iload 5, 2) := by decide +kernel
theorem d_La_law_595 : decode b_La_law 595 = .ok (.ifCond .ne 15, 3) := by decide +kernel
theorem d_La_law_598 : decode b_La_law 598 = .ok (.aload_n 3, 1) := by decide +kernel
theorem d_La_law_599 : decode b_La_law 599 = .ok (.iconst 0, 1) := by decide +kernel
theorem d_La_law_600 : decode b_La_law 600 = .ok (.laload, 1) := by decide +kernel
theorem d_La_law_601 : decode b_La_law 601 = .ok (.iload 6, 2) := by decide +kernel
theorem d_La_law_603 : decode b_La_law 603 = .ok (.i2l, 1) := by decide +kernel
theorem d_La_law_604 : decode b_La_law 604 = .ok (.lcmp, 1) := by decide +kernel
theorem d_La_law_605 : decode b_La_law 605 = .ok (.ifCond .eq 5, 3) := by decide +kernel
theorem d_La_law_608 : decode b_La_law 608 = .ok (.iconst 0, 1) := by decide +kernel
theorem d_La_law_609 : decode b_La_law 609 = .ok (.ireturn, 1) := by decide +kernel
theorem d_La_law_610 : decode b_La_law 610 = .ok (.goto 28, 3) := by decide +kernel
theorem d_La_law_613 : decode b_La_law 613 = .ok (.aload_n 1, 1) := by decide +kernel
theorem d_La_law_614 : decode b_La_law 614 = .ok (.aload_n 0, 1) := by decide +kernel
theorem d_La_law_615 : decode b_La_law 615 = .ok (.iload 4, 2) := by decide +kernel
theorem d_La_law_617 : decode b_La_law 617 = .ok (.iconst 1, 1) := by decide +kernel
theorem d_La_law_618 : decode b_La_law 618 = .ok (.iadd, 1) := by decide +kernel
theorem d_La_law_619 : decode b_La_law 619 = .ok (.iaload, 1) := by decide +kernel
theorem d_La_law_620 : decode b_La_law 620 = .ok (.invokevirtual 94, 3) := by decide +kernel
theorem d_La_law_623 : decode b_La_law 623 = .ok (.aload_n 2, 1) := by decide +kernel
theorem d_La_law_624 : decode b_La_law 624 = .ok (.aload_n 0, 1) := by decide +kernel
theorem d_La_law_625 : decode b_La_law 625 = .ok (.iload 4, 2) := by decide +kernel
theorem d_La_law_627 : decode b_La_law 627 = .ok (.iconst 1, 1) := by decide +kernel
theorem d_La_law_628 : decode b_La_law 628 = .ok (.iadd, 1) := by decide +kernel
theorem d_La_law_629 : decode b_La_law 629 = .ok (.iaload, 1) := by decide +kernel
theorem d_La_law_630 : decode b_La_law 630 = .ok (.invokevirtual 97, 3) := by decide +kernel
theorem d_La_law_633 : decode b_La_law 633 = .ok (.if_icmp .eq 5, 3) := by decide +kernel
theorem d_La_law_636 : decode b_La_law 636 = .ok (.iconst 0, 1) := by decide +kernel
theorem d_La_law_637 : decode b_La_law 637 = .ok (.ireturn, 1) := by decide +kernel
theorem d_La_law_638 : decode b_La_law 638 = .ok (.iinc 4 6, 3) := by decide +kernel
theorem d_La_law_641 : decode b_La_law 641 = .ok (.goto (-618), 3) := by decide +kernel
theorem d_La_law_644 : decode b_La_law 644 = .ok (.iconst 1, 1) := by decide +kernel
theorem d_La_law_645 : decode b_La_law 645 = .ok (.ireturn, 1) := by decide +kernel
theorem nc_La_8 : NC "PrimeKeysLaw" 8 7 17 [.null, .int 0, .null, .int 0, .null, .int 0, .null, .int 0, .int 0, .null, .null, .null, .null, .null, .null, .null, .null] := ⟨R_PK, F_PK, t_PK, rfl, u_PK, t_PK_ok, tb_1 (List.mem_of_getElem? (i := 22) (by decide +kernel)) rfl, tb_1 (List.mem_of_getElem? (i := 23) (by decide +kernel)) rfl, tb_1 (List.mem_of_getElem? (i := 1) (by decide +kernel)) rfl, by decide +kernel, by decide +kernel⟩
theorem nc_La_50 : NC "PrimeKeysLaw" 50 8 50 [.int 0, .null, .null, .null, .null, .int 0, .int 0, .int 0, .int 0, .null, .null, .null, .null, .null, .null, .null, .null, .null, .null, .null, .null, .null, .null, .int 0, .int 0, .null, .null, .null, .null, .null, .null, .null, .null, .null, .null, .null, .null, .null, .null, .null, .null, .null, .null, .null, .null, .null, .null, .null, .null, .null] := ⟨R_Rm, F_Rm, t_Rm, rfl, u_Rm, t_Rm_ok, tb_4 (List.mem_of_getElem? (i := 54) (by decide +kernel)) rfl, tb_4 (List.mem_of_getElem? (i := 55) (by decide +kernel)) rfl, tb_1 (List.mem_of_getElem? (i := 13) (by decide +kernel)) rfl, by decide +kernel, by decide +kernel⟩
theorem cd_La_52 : CD "PrimeKeysLaw" 52 y_Rm_new b_Rm_new 1 none 0 := ⟨tb_4 (List.mem_of_getElem? (i := 58) rfl) rfl, tb_1 (List.mem_of_getElem? (i := 13) (by decide +kernel)) rfl, tb_4 (List.mem_of_getElem? (i := 56) (by decide +kernel)) rfl, by decide +kernel⟩
theorem kw_in_Rm_new : Cond.instanceMethod y_Rm_new ∈ TB := tb_4 (List.mem_of_getElem? (i := 57) (by decide +kernel)) rfl
theorem cd_La_49 : CD "PrimeKeysLaw" 49 y_PK_new b_PK_new 1 none 0 := ⟨tb_1 (List.mem_of_getElem? (i := 26) rfl) rfl, tb_1 (List.mem_of_getElem? (i := 1) (by decide +kernel)) rfl, tb_1 (List.mem_of_getElem? (i := 24) (by decide +kernel)) rfl, by decide +kernel⟩
theorem kw_in_PK_new : Cond.instanceMethod y_PK_new ∈ TB := tb_1 (List.mem_of_getElem? (i := 25) (by decide +kernel)) rfl
theorem cd_La_59 : CD "PrimeKeysLaw" 59 y_Rm_thrown b_Rm_thrown 1 (some .int) 0 := ⟨tb_5 (List.mem_of_getElem? (i := 68) rfl) rfl, tb_1 (List.mem_of_getElem? (i := 13) (by decide +kernel)) rfl, tb_5 (List.mem_of_getElem? (i := 65) (by decide +kernel)) rfl, by decide +kernel⟩
theorem kw_in_Rm_thrown : Cond.instanceMethod y_Rm_thrown ∈ TB := tb_5 (List.mem_of_getElem? (i := 66) (by decide +kernel)) rfl
theorem kw_se_Rm_thrown : Cond.selects "PrimeKeysModel" y_Rm_thrown y_Rm_thrown ∈ TB := tb_5 (List.mem_of_getElem? (i := 67) (by decide +kernel)) rfl
theorem cd_La_58 : CD "PrimeKeysLaw" 58 y_Rm_feed b_Rm_feed 8 (some .int) 5 := ⟨tb_5 (List.mem_of_getElem? (i := 72) rfl) rfl, tb_1 (List.mem_of_getElem? (i := 13) (by decide +kernel)) rfl, tb_5 (List.mem_of_getElem? (i := 69) (by decide +kernel)) rfl, by decide +kernel⟩
theorem kw_in_Rm_feed : Cond.instanceMethod y_Rm_feed ∈ TB := tb_5 (List.mem_of_getElem? (i := 70) (by decide +kernel)) rfl
theorem kw_se_Rm_feed : Cond.selects "PrimeKeysModel" y_Rm_feed y_Rm_feed ∈ TB := tb_5 (List.mem_of_getElem? (i := 71) (by decide +kernel)) rfl
theorem cd_La_65 : CD "PrimeKeysLaw" 65 y_Rm_end b_Rm_end 2 (some .int) 1 := ⟨tb_5 (List.mem_of_getElem? (i := 81) rfl) rfl, tb_1 (List.mem_of_getElem? (i := 13) (by decide +kernel)) rfl, tb_5 (List.mem_of_getElem? (i := 78) (by decide +kernel)) rfl, by decide +kernel⟩
theorem kw_in_Rm_end : Cond.instanceMethod y_Rm_end ∈ TB := tb_5 (List.mem_of_getElem? (i := 79) (by decide +kernel)) rfl
theorem kw_se_Rm_end : Cond.selects "PrimeKeysModel" y_Rm_end y_Rm_end ∈ TB := tb_5 (List.mem_of_getElem? (i := 80) (by decide +kernel)) rfl
theorem cd_La_69 : CD "PrimeKeysLaw" 69 y_Rm_key b_Rm_key 2 (some .int) 0 := ⟨tb_5 (List.mem_of_getElem? (i := 85) rfl) rfl, tb_1 (List.mem_of_getElem? (i := 13) (by decide +kernel)) rfl, tb_5 (List.mem_of_getElem? (i := 82) (by decide +kernel)) rfl, by decide +kernel⟩
theorem kw_in_Rm_key : Cond.instanceMethod y_Rm_key ∈ TB := tb_5 (List.mem_of_getElem? (i := 83) (by decide +kernel)) rfl
theorem kw_se_Rm_key : Cond.selects "PrimeKeysModel" y_Rm_key y_Rm_key ∈ TB := tb_5 (List.mem_of_getElem? (i := 84) (by decide +kernel)) rfl
theorem cd_La_73 : CD "PrimeKeysLaw" 73 y_Rm_open b_Rm_open 2 none 1 := ⟨tb_5 (List.mem_of_getElem? (i := 95) rfl) rfl, tb_1 (List.mem_of_getElem? (i := 13) (by decide +kernel)) rfl, tb_5 (List.mem_of_getElem? (i := 92) (by decide +kernel)) rfl, by decide +kernel⟩
theorem kw_in_Rm_open : Cond.instanceMethod y_Rm_open ∈ TB := tb_5 (List.mem_of_getElem? (i := 93) (by decide +kernel)) rfl
theorem kw_se_Rm_open : Cond.selects "PrimeKeysModel" y_Rm_open y_Rm_open ∈ TB := tb_5 (List.mem_of_getElem? (i := 94) (by decide +kernel)) rfl
theorem cd_La_76 : CD "PrimeKeysLaw" 76 y_Rm_agree b_Rm_agree 2 none 1 := ⟨tb_5 (List.mem_of_getElem? (i := 151) rfl) rfl, tb_1 (List.mem_of_getElem? (i := 13) (by decide +kernel)) rfl, tb_5 (List.mem_of_getElem? (i := 148) (by decide +kernel)) rfl, by decide +kernel⟩
theorem kw_in_Rm_agree : Cond.instanceMethod y_Rm_agree ∈ TB := tb_5 (List.mem_of_getElem? (i := 149) (by decide +kernel)) rfl
theorem kw_se_Rm_agree : Cond.selects "PrimeKeysModel" y_Rm_agree y_Rm_agree ∈ TB := tb_5 (List.mem_of_getElem? (i := 150) (by decide +kernel)) rfl
theorem cd_La_80 : CD "PrimeKeysLaw" 80 y_Rm_message b_Rm_message 2 (some .int) 0 := ⟨tb_5 (List.mem_of_getElem? (i := 163) rfl) rfl, tb_1 (List.mem_of_getElem? (i := 13) (by decide +kernel)) rfl, tb_5 (List.mem_of_getElem? (i := 160) (by decide +kernel)) rfl, by decide +kernel⟩
theorem kw_in_Rm_message : Cond.instanceMethod y_Rm_message ∈ TB := tb_5 (List.mem_of_getElem? (i := 161) (by decide +kernel)) rfl
theorem kw_se_Rm_message : Cond.selects "PrimeKeysModel" y_Rm_message y_Rm_message ∈ TB := tb_5 (List.mem_of_getElem? (i := 162) (by decide +kernel)) rfl
theorem cd_La_77 : CD "PrimeKeysLaw" 77 y_PK_message b_PK_message 1 (some .int) 0 := ⟨tb_2 (List.mem_of_getElem? (i := 192) rfl) rfl, tb_1 (List.mem_of_getElem? (i := 1) (by decide +kernel)) rfl, tb_2 (List.mem_of_getElem? (i := 189) (by decide +kernel)) rfl, by decide +kernel⟩
theorem kw_in_PK_message : Cond.instanceMethod y_PK_message ∈ TB := tb_2 (List.mem_of_getElem? (i := 190) (by decide +kernel)) rfl
theorem kw_se_PK_message : Cond.selects "PrimeKeys" y_PK_message y_PK_message ∈ TB := tb_2 (List.mem_of_getElem? (i := 191) (by decide +kernel)) rfl
theorem cd_La_83 : CD "PrimeKeysLaw" 83 y_Rm_sign b_Rm_sign 4 (some .int) 1 := ⟨tb_5 (List.mem_of_getElem? (i := 167) rfl) rfl, tb_1 (List.mem_of_getElem? (i := 13) (by decide +kernel)) rfl, tb_5 (List.mem_of_getElem? (i := 164) (by decide +kernel)) rfl, by decide +kernel⟩
theorem kw_in_Rm_sign : Cond.instanceMethod y_Rm_sign ∈ TB := tb_5 (List.mem_of_getElem? (i := 165) (by decide +kernel)) rfl
theorem kw_se_Rm_sign : Cond.selects "PrimeKeysModel" y_Rm_sign y_Rm_sign ∈ TB := tb_5 (List.mem_of_getElem? (i := 166) (by decide +kernel)) rfl
theorem cd_La_86 : CD "PrimeKeysLaw" 86 y_Rm_verify b_Rm_verify 2 (some .int) 0 := ⟨tb_5 (List.mem_of_getElem? (i := 210) rfl) rfl, tb_1 (List.mem_of_getElem? (i := 13) (by decide +kernel)) rfl, tb_5 (List.mem_of_getElem? (i := 207) (by decide +kernel)) rfl, by decide +kernel⟩
theorem kw_in_Rm_verify : Cond.instanceMethod y_Rm_verify ∈ TB := tb_5 (List.mem_of_getElem? (i := 208) (by decide +kernel)) rfl
theorem kw_se_Rm_verify : Cond.selects "PrimeKeysModel" y_Rm_verify y_Rm_verify ∈ TB := tb_5 (List.mem_of_getElem? (i := 209) (by decide +kernel)) rfl
theorem cd_La_90 : CD "PrimeKeysLaw" 90 y_Rm_back b_Rm_back 4 (some .int) 2 := ⟨tb_5 (List.mem_of_getElem? (i := 226) rfl) rfl, tb_1 (List.mem_of_getElem? (i := 13) (by decide +kernel)) rfl, tb_5 (List.mem_of_getElem? (i := 223) (by decide +kernel)) rfl, by decide +kernel⟩
theorem kw_in_Rm_back : Cond.instanceMethod y_Rm_back ∈ TB := tb_5 (List.mem_of_getElem? (i := 224) (by decide +kernel)) rfl
theorem kw_se_Rm_back : Cond.selects "PrimeKeysModel" y_Rm_back y_Rm_back ∈ TB := tb_5 (List.mem_of_getElem? (i := 225) (by decide +kernel)) rfl
theorem cd_La_93 : CD "PrimeKeysLaw" 93 y_Rm_result b_Rm_result 2 (some .int) 1 := ⟨tb_5 (List.mem_of_getElem? (i := 230) rfl) rfl, tb_1 (List.mem_of_getElem? (i := 13) (by decide +kernel)) rfl, tb_5 (List.mem_of_getElem? (i := 227) (by decide +kernel)) rfl, by decide +kernel⟩
theorem kw_in_Rm_result : Cond.instanceMethod y_Rm_result ∈ TB := tb_5 (List.mem_of_getElem? (i := 228) (by decide +kernel)) rfl
theorem kw_se_Rm_result : Cond.selects "PrimeKeysModel" y_Rm_result y_Rm_result ∈ TB := tb_5 (List.mem_of_getElem? (i := 229) (by decide +kernel)) rfl
theorem cd_La_97 : CD "PrimeKeysLaw" 97 y_Rm_count b_Rm_count 2 (some .int) 1 := ⟨tb_5 (List.mem_of_getElem? (i := 234) rfl) rfl, tb_1 (List.mem_of_getElem? (i := 13) (by decide +kernel)) rfl, tb_5 (List.mem_of_getElem? (i := 231) (by decide +kernel)) rfl, by decide +kernel⟩
theorem kw_in_Rm_count : Cond.instanceMethod y_Rm_count ∈ TB := tb_5 (List.mem_of_getElem? (i := 232) (by decide +kernel)) rfl
theorem kw_se_Rm_count : Cond.selects "PrimeKeysModel" y_Rm_count y_Rm_count ∈ TB := tb_5 (List.mem_of_getElem? (i := 233) (by decide +kernel)) rfl
theorem cd_La_94 : CD "PrimeKeysLaw" 94 y_PK_count b_PK_count 2 (some .int) 1 := ⟨tb_2 (List.mem_of_getElem? (i := 196) rfl) rfl, tb_1 (List.mem_of_getElem? (i := 1) (by decide +kernel)) rfl, tb_2 (List.mem_of_getElem? (i := 193) (by decide +kernel)) rfl, by decide +kernel⟩
theorem kw_in_PK_count : Cond.instanceMethod y_PK_count ∈ TB := tb_2 (List.mem_of_getElem? (i := 194) (by decide +kernel)) rfl
theorem kw_se_PK_count : Cond.selects "PrimeKeys" y_PK_count y_PK_count ∈ TB := tb_2 (List.mem_of_getElem? (i := 195) (by decide +kernel)) rfl
def S_La (h : HP) : Option (HP × Nat × Nat × Nat) :=
  lt (h ++ [pO 7 [.null, .int 0, .null, .int 0, .null, .int 0, .null, .int 0, .int 0, .null, .null, .null, .null, .null, .null, .null, .null]]) fun h1 =>
  lt h.length fun k2 =>
  bnd (P_PK_new h1 k2) fun h3 =>
  lt (h3 ++ [pO 8 [.int 0, .null, .null, .null, .null, .int 0, .int 0, .int 0, .int 0, .null, .null, .null, .null, .null, .null, .null, .null, .null, .null, .null, .null, .null, .null, .int 0, .int 0, .null, .null, .null, .null, .null, .null, .null, .null, .null, .null, .null, .null, .null, .null, .null, .null, .null, .null, .null, .null, .null, .null, .null, .null, .null]]) fun h4 =>
  lt h3.length fun k5 =>
  bnd (P_Rm_new h4 k5) fun h6 =>
  lt (h6 ++ [pJ 1 (fun _ => 0)]) fun h7 =>
  lt h6.length fun k8 =>
  some (h7, k2, k5, k8)
set_option maxHeartbeats 4000000 in
set_option maxRecDepth 100000 in
theorem s_La {l : Launch} (htr : l.stackTraces = false) {x : CX} (C : EV x b_La_law "PrimeKeysLaw" 7 rm_La_law) (hXW : XW x.2.2.1.2.2.1 x.1.2.2.2.2) {L : Nat} {xs : Nat → Int32} (hX : SX x L xs) (hl0 : x.1.2.1 = l) (hAO : AO x.1.2.2.2.2) {h h' : HP} {a1 a2 a3 : Nat} (hr : S_La h = some (h', a1, a2, a3)) (kk : GG x 357 208226 h' 23 [(1, .ref a1), (2, .ref a2), (3, .ref a3), (4, .int 0), (0, .retAddr 7)] []) : GG x 0 0 h 0 [(0, .retAddr 7)] [] := by
  unfold S_La at hr
  obtain ⟨h1, eh1⟩ : ∃ z, z = h ++ [pO 7 [.null, .int 0, .null, .int 0, .null, .int 0, .null, .int 0, .int 0, .null, .null, .null, .null, .null, .null, .null, .null]] := ⟨_, rfl⟩
  have hr := of_lt eh1 hr
  obtain ⟨k2, ek2⟩ : ∃ z, z = h.length := ⟨_, rfl⟩
  have hr := of_lt ek2 hr
  refine g_newE C nc_La_8 eh1 ek2 (by decide) (by decide) d_La_law_0 ?_
  refine g_dup C d_La_law_3 rfl ?_
  obtain ⟨h3, eh3, hr⟩ := of_bnd hr
  refine g_callIX (pa := []) C hAO hl0 (c_PK_new eh3) cd_La_49 kw_in_PK_new rfl (by decide) rfl rfl (Nat.le_of_ble_eq_true rfl) d_La_law_4 ?_
  refine g_astore_n (lv' := [(1, .ref k2), (0, .retAddr 7)]) C d_La_law_7 rfl (by decide) rfl ?_
  obtain ⟨h4, eh4⟩ : ∃ z, z = h3 ++ [pO 8 [.int 0, .null, .null, .null, .null, .int 0, .int 0, .int 0, .int 0, .null, .null, .null, .null, .null, .null, .null, .null, .null, .null, .null, .null, .null, .null, .int 0, .int 0, .null, .null, .null, .null, .null, .null, .null, .null, .null, .null, .null, .null, .null, .null, .null, .null, .null, .null, .null, .null, .null, .null, .null, .null, .null]] := ⟨_, rfl⟩
  have hr := of_lt eh4 hr
  obtain ⟨k5, ek5⟩ : ∃ z, z = h3.length := ⟨_, rfl⟩
  have hr := of_lt ek5 hr
  refine g_newE C nc_La_50 eh4 ek5 (by decide) (by decide) d_La_law_8 ?_
  refine g_dup C d_La_law_11 rfl ?_
  obtain ⟨h6, eh6, hr⟩ := of_bnd hr
  refine g_callI (pa := []) C hl0 (c_Rm_new eh6) cd_La_52 kw_in_Rm_new rfl (by decide) rfl rfl (Nat.le_of_ble_eq_true rfl) d_La_law_12 ?_
  refine g_astore_n (lv' := [(2, .ref k5), (1, .ref k2), (0, .retAddr 7)]) C d_La_law_15 rfl (by decide) rfl ?_
  refine g_iconst (v := 1) C d_La_law_16 (by decide) ?_
  obtain ⟨h7, eh7⟩ : ∃ z, z = h6 ++ [pJ 1 (fun _ => 0)] := ⟨_, rfl⟩
  have hr := of_lt eh7 hr
  obtain ⟨k8, ek8⟩ : ∃ z, z = h6.length := ⟨_, rfl⟩
  have hr := of_lt ek8 hr
  refine g_newJE (n' := 1) C eh7 ek8 (by decide) (by decide) (by decide) (by decide) (by decide) d_La_law_17 ?_
  refine g_astore_n (lv' := [(3, .ref k8), (2, .ref k5), (1, .ref k2), (0, .retAddr 7)]) C d_La_law_19 rfl (by decide) rfl ?_
  refine g_iconst (v := 0) C d_La_law_20 (by decide) ?_
  refine g_istore (lv' := [(4, .int 0), (3, .ref k8), (2, .ref k5), (1, .ref k2), (0, .retAddr 7)]) C d_La_law_21 (by decide) rfl ?_
  cases hr
  refine g_lv [3, 2, 1, 0, 4] rfl ?_
  exact kk
def I_La_0 (L : Nat) (xs : Nat → Int32) (bu : Nat × Nat) (h : HP) (a1 a2 a3 : Nat) (a4 : Int32) : Option HP :=
  bnd (sdI L xs (a4 + 1)) fun v1 =>
  bnd (sdI L xs (a4 + 2)) fun v2 =>
  bnd (sdI L xs (a4 + 3)) fun v3 =>
  bnd (sdI L xs (a4 + 4)) fun v4 =>
  bnd (sdI L xs (a4 + 5)) fun v5 =>
  bnd2 (P_La_feed bu h a1 v1 v2 v3 v4 v5 a3) fun v7 h6 =>
  bnd (sdI L xs (a4 + 1)) fun v8 =>
  bnd (sdI L xs (a4 + 2)) fun v9 =>
  bnd (sdI L xs (a4 + 3)) fun v10 =>
  bnd (sdI L xs (a4 + 4)) fun v11 =>
  bnd (sdI L xs (a4 + 5)) fun v12 =>
  ob h6 a2 8 (
  bnd2 (P_Rm_feed h6 a2 v8 v9 v10 v11 v12) fun v14 h13 =>
  ob h13 a2 8 (
  bnd2 (P_Rm_thrown h13 a2) fun v16 h15 =>
  if v16 = v7 then
  if v7 = 0 then
  bnd (ldJ h15 a3 0) fun v17 =>
  if lg_cmp v17 (Int32.toInt64 v14) = 0 then
  some h15
  else
  none
  else
  some h15
  else
  none))
set_option maxHeartbeats 4000000 in
set_option maxRecDepth 100000 in
theorem i_La_0 {l : Launch} (htr : l.stackTraces = false) {x : CX} (C : EV x b_La_law "PrimeKeysLaw" 7 rm_La_law) (hXW : XW x.2.2.1.2.2.1 x.1.2.2.2.2) {L : Nat} {xs : Nat → Int32} (hX : SX x L xs) (hl0 : x.1.2.1 = l) {bu : Nat × Nat} {cells slots : Nat} (hb1 : 1 ≤ bu.1) (hb2 : 6 ≤ bu.2) (hc : cells + bu.1 ≤ 601024) (hs : slots + bu.2 ≤ 7293034) {h h' : HP} {a1 a2 a3 : Nat} {a4 : Int32} (hr : I_La_0 L xs bu h a1 a2 a3 a4 = some h') (kk : GG x (cells + bu.1) (slots + bu.2) h' 638 [(1, .ref a1), (2, .ref a2), (3, .ref a3), (4, .int a4), (0, .retAddr 7)] []) : GG x cells slots h 100 [(1, .ref a1), (2, .ref a2), (3, .ref a3), (4, .int a4), (0, .retAddr 7)] [] := by
  unfold I_La_0 at hr
  refine g_aload_n C 0 rfl d_La_law_100 rfl ?_
  refine g_aload_nT C 4 rfl d_La_law_101 rfl ?_
  refine g_iload C 3 rfl d_La_law_102 ?_
  refine g_iconst (v := 1) C d_La_law_104 (by decide) ?_
  refine g_iadd C d_La_law_105 ?_
  obtain ⟨v1, ev1, hr⟩ := of_bnd hr
  refine g_ialoadX C hX ev1 d_La_law_106 ?_
  refine g_aload_nT C 4 rfl d_La_law_107 rfl ?_
  refine g_iload C 3 rfl d_La_law_108 ?_
  refine g_iconst (v := 2) C d_La_law_110 (by decide) ?_
  refine g_iadd C d_La_law_111 ?_
  obtain ⟨v2, ev2, hr⟩ := of_bnd hr
  refine g_ialoadX C hX ev2 d_La_law_112 ?_
  refine g_aload_nT C 4 rfl d_La_law_113 rfl ?_
  refine g_iload C 3 rfl d_La_law_114 ?_
  refine g_iconst (v := 3) C d_La_law_116 (by decide) ?_
  refine g_iadd C d_La_law_117 ?_
  obtain ⟨v3, ev3, hr⟩ := of_bnd hr
  refine g_ialoadX C hX ev3 d_La_law_118 ?_
  refine g_aload_nT C 4 rfl d_La_law_119 rfl ?_
  refine g_iload C 3 rfl d_La_law_120 ?_
  refine g_iconst (v := 4) C d_La_law_122 (by decide) ?_
  refine g_iadd C d_La_law_123 ?_
  obtain ⟨v4, ev4, hr⟩ := of_bnd hr
  refine g_ialoadX C hX ev4 d_La_law_124 ?_
  refine g_aload_nT C 4 rfl d_La_law_125 rfl ?_
  refine g_iload C 3 rfl d_La_law_126 ?_
  refine g_iconst (v := 5) C d_La_law_128 (by decide) ?_
  refine g_iadd C d_La_law_129 ?_
  obtain ⟨v5, ev5, hr⟩ := of_bnd hr
  refine g_ialoadX C hX ev5 d_La_law_130 ?_
  refine g_aload_n C 2 rfl d_La_law_131 rfl ?_
  obtain ⟨v7, h6, eh6, hr⟩ := of_bnd2 hr
  refine g_callSW (pa := [.ref a1, .int v1, .int v2, .int v3, .int v4, .int v5, .ref a3]) C hXW hl0 (c_La_feed htr eh6) cdw_La_feed kw_st_La_feed ⟨Nat.le_of_ble_eq_true rfl, Nat.le_of_ble_eq_true rfl, show cells + bu.1 ≤ 601024 by omega, show slots + bu.2 ≤ 7293034 by omega⟩ rfl rfl (Nat.le_of_ble_eq_true rfl) d_La_law_132 ?_
  refine g_istore (lv' := [(5, .int v7), (1, .ref a1), (2, .ref a2), (3, .ref a3), (4, .int a4), (0, .retAddr 7)]) C d_La_law_135 (by decide) rfl ?_
  refine g_aload_n C 2 rfl d_La_law_137 rfl ?_
  refine g_aload_nT C 5 rfl d_La_law_138 rfl ?_
  refine g_iload C 4 rfl d_La_law_139 ?_
  refine g_iconst (v := 1) C d_La_law_141 (by decide) ?_
  refine g_iadd C d_La_law_142 ?_
  obtain ⟨v8, ev8, hr⟩ := of_bnd hr
  refine g_ialoadX C hX ev8 d_La_law_143 ?_
  refine g_aload_nT C 5 rfl d_La_law_144 rfl ?_
  refine g_iload C 4 rfl d_La_law_145 ?_
  refine g_iconst (v := 2) C d_La_law_147 (by decide) ?_
  refine g_iadd C d_La_law_148 ?_
  obtain ⟨v9, ev9, hr⟩ := of_bnd hr
  refine g_ialoadX C hX ev9 d_La_law_149 ?_
  refine g_aload_nT C 5 rfl d_La_law_150 rfl ?_
  refine g_iload C 4 rfl d_La_law_151 ?_
  refine g_iconst (v := 3) C d_La_law_153 (by decide) ?_
  refine g_iadd C d_La_law_154 ?_
  obtain ⟨v10, ev10, hr⟩ := of_bnd hr
  refine g_ialoadX C hX ev10 d_La_law_155 ?_
  refine g_aload_nT C 5 rfl d_La_law_156 rfl ?_
  refine g_iload C 4 rfl d_La_law_157 ?_
  refine g_iconst (v := 4) C d_La_law_159 (by decide) ?_
  refine g_iadd C d_La_law_160 ?_
  obtain ⟨v11, ev11, hr⟩ := of_bnd hr
  refine g_ialoadX C hX ev11 d_La_law_161 ?_
  refine g_aload_nT C 5 rfl d_La_law_162 rfl ?_
  refine g_iload C 4 rfl d_La_law_163 ?_
  refine g_iconst (v := 5) C d_La_law_165 (by decide) ?_
  refine g_iadd C d_La_law_166 ?_
  obtain ⟨v12, ev12, hr⟩ := of_bnd hr
  refine g_ialoadX C hX ev12 d_La_law_167 ?_
  obtain ⟨fsh13, hoh13, hr⟩ := of_ob hr
  obtain ⟨v14, h13, eh13, hr⟩ := of_bnd2 hr
  refine g_callV (pa := [.int v8, .int v9, .int v10, .int v11, .int v12]) C hl0 (c_Rm_feed eh13) cd_La_58 kw_in_Rm_feed kw_se_Rm_feed hoh13 rfl rfl ⟨by decide, by decide, Nat.le_trans (show cells + bu.1 + 0 ≤ 601024 by omega) (by decide), Nat.le_trans (show slots + bu.2 + 0 ≤ 7293034 by omega) (by decide)⟩ rfl rfl (Nat.le_of_ble_eq_true rfl) d_La_law_168 ?_
  refine g_istore (lv' := [(6, .int v14), (5, .int v7), (1, .ref a1), (2, .ref a2), (3, .ref a3), (4, .int a4), (0, .retAddr 7)]) C d_La_law_171 (by decide) rfl ?_
  refine g_aload_n C 3 rfl d_La_law_173 rfl ?_
  obtain ⟨fsh15, hoh15, hr⟩ := of_ob hr
  obtain ⟨v16, h15, eh15, hr⟩ := of_bnd2 hr
  refine g_callV (pa := []) C hl0 (c_Rm_thrown eh15) cd_La_59 kw_in_Rm_thrown kw_se_Rm_thrown hoh15 rfl rfl ⟨by decide, by decide, Nat.le_trans (show cells + bu.1 + 0 + 0 ≤ 601024 by omega) (by decide), Nat.le_trans (show slots + bu.2 + 0 + 0 ≤ 7293034 by omega) (by decide)⟩ rfl rfl (Nat.le_of_ble_eq_true rfl) d_La_law_174 ?_
  refine g_iload C 1 rfl d_La_law_177 ?_
  refine g_icmp_eq (tgt := 184) C d_La_law_179 (by decide) (fun z => ?_) (fun z => ?_)
  · have hr := of_if z hr
    refine g_iload C 1 rfl d_La_law_184 ?_
    refine g_if_ne (tgt := 201) C d_La_law_186 (by decide) (fun z => ?_) (fun z => ?_)
    · have hr := of_el z hr
      refine g_goto (tgt := 638) C d_La_law_201 (by decide) ?_
      cases hr
      refine g_lv [2, 3, 4, 5, 6] rfl ?_
      refine g_widen (k := cells + bu.1) (n := slots + bu.2) (show cells + bu.1 + 0 + 0 ≤ cells + bu.1 by omega) (show slots + bu.2 + 0 + 0 ≤ slots + bu.2 by omega) ?_
      exact kk
    · have hr := of_if z hr
      refine g_aload_n C 4 rfl d_La_law_189 rfl ?_
      refine g_iconst (v := 0) C d_La_law_190 (by decide) ?_
      obtain ⟨v17, ev17, hr⟩ := of_bnd hr
      refine g_laload C ev17 d_La_law_191 ?_
      refine g_iload C 0 rfl d_La_law_192 ?_
      refine g_i2l C d_La_law_194 ?_
      refine g_lcmp C d_La_law_195 ?_
      refine g_if_eq (tgt := 201) C d_La_law_196 (by decide) (fun z => ?_) (fun z => ?_)
      · have hr := of_if z hr
        refine g_goto (tgt := 638) C d_La_law_201 (by decide) ?_
        cases hr
        refine g_lv [2, 3, 4, 5, 6] rfl ?_
        refine g_widen (k := cells + bu.1) (n := slots + bu.2) (show cells + bu.1 + 0 + 0 ≤ cells + bu.1 by omega) (show slots + bu.2 + 0 + 0 ≤ slots + bu.2 by omega) ?_
        exact kk
      · have hr := of_el z hr
        refine g_iconst (v := 0) C d_La_law_199 (by decide) ?_
        cases hr
  · have hr := of_el z hr
    refine g_iconst (v := 0) C d_La_law_182 (by decide) ?_
    cases hr
def I_La_1 (L : Nat) (xs : Nat → Int32) (bu : Nat × Nat) (h : HP) (a1 a2 a3 : Nat) (a4 : Int32) : Option HP :=
  bnd (sdI L xs (a4 + 1)) fun v1 =>
  bnd2 (P_La_end h a1 v1 a3) fun v3 h2 =>
  bnd (sdI L xs (a4 + 1)) fun v4 =>
  ob h2 a2 8 (
  bnd2 (P_Rm_end h2 a2 v4) fun v6 h5 =>
  ob h5 a2 8 (
  bnd2 (P_Rm_thrown h5 a2) fun v8 h7 =>
  if v8 = v3 then
  if v3 = 0 then
  bnd (ldJ h7 a3 0) fun v9 =>
  if lg_cmp v9 (Int32.toInt64 v6) = 0 then
  some h7
  else
  none
  else
  some h7
  else
  none))
set_option maxHeartbeats 4000000 in
set_option maxRecDepth 100000 in
theorem i_La_1 {l : Launch} (htr : l.stackTraces = false) {x : CX} (C : EV x b_La_law "PrimeKeysLaw" 7 rm_La_law) (hXW : XW x.2.2.1.2.2.1 x.1.2.2.2.2) {L : Nat} {xs : Nat → Int32} (hX : SX x L xs) (hl0 : x.1.2.1 = l) {bu : Nat × Nat} {cells slots : Nat} (hb1 : 1 ≤ bu.1) (hb2 : 6 ≤ bu.2) (hc : cells + bu.1 ≤ 601024) (hs : slots + bu.2 ≤ 7293034) {h h' : HP} {a1 a2 a3 : Nat} {a4 : Int32} (hr : I_La_1 L xs bu h a1 a2 a3 a4 = some h') (kk : GG x (cells + bu.1) (slots + bu.2) h' 638 [(1, .ref a1), (2, .ref a2), (3, .ref a3), (4, .int a4), (0, .retAddr 7)] []) : GG x cells slots h 204 [(1, .ref a1), (2, .ref a2), (3, .ref a3), (4, .int a4), (0, .retAddr 7)] [] := by
  unfold I_La_1 at hr
  refine g_aload_n C 0 rfl d_La_law_204 rfl ?_
  refine g_aload_nT C 4 rfl d_La_law_205 rfl ?_
  refine g_iload C 3 rfl d_La_law_206 ?_
  refine g_iconst (v := 1) C d_La_law_208 (by decide) ?_
  refine g_iadd C d_La_law_209 ?_
  obtain ⟨v1, ev1, hr⟩ := of_bnd hr
  refine g_ialoadX C hX ev1 d_La_law_210 ?_
  refine g_aload_n C 2 rfl d_La_law_211 rfl ?_
  obtain ⟨v3, h2, eh2, hr⟩ := of_bnd2 hr
  refine g_callSW (pa := [.ref a1, .int v1, .ref a3]) C hXW hl0 (c_La_end htr eh2) cdw_La_end kw_st_La_end ⟨Nat.le_of_ble_eq_true rfl, Nat.le_of_ble_eq_true rfl, show cells + 1 ≤ 601024 by omega, show slots + 6 ≤ 7293034 by omega⟩ rfl rfl (Nat.le_of_ble_eq_true rfl) d_La_law_212 ?_
  refine g_istore (lv' := [(5, .int v3), (1, .ref a1), (2, .ref a2), (3, .ref a3), (4, .int a4), (0, .retAddr 7)]) C d_La_law_215 (by decide) rfl ?_
  refine g_aload_n C 2 rfl d_La_law_217 rfl ?_
  refine g_aload_nT C 5 rfl d_La_law_218 rfl ?_
  refine g_iload C 4 rfl d_La_law_219 ?_
  refine g_iconst (v := 1) C d_La_law_221 (by decide) ?_
  refine g_iadd C d_La_law_222 ?_
  obtain ⟨v4, ev4, hr⟩ := of_bnd hr
  refine g_ialoadX C hX ev4 d_La_law_223 ?_
  obtain ⟨fsh5, hoh5, hr⟩ := of_ob hr
  obtain ⟨v6, h5, eh5, hr⟩ := of_bnd2 hr
  refine g_callV (pa := [.int v4]) C hl0 (c_Rm_end eh5) cd_La_65 kw_in_Rm_end kw_se_Rm_end hoh5 rfl rfl ⟨by decide, by decide, Nat.le_trans (show cells + 1 + 0 ≤ 601024 by omega) (by decide), Nat.le_trans (show slots + 6 + 0 ≤ 7293034 by omega) (by decide)⟩ rfl rfl (Nat.le_of_ble_eq_true rfl) d_La_law_224 ?_
  refine g_istore (lv' := [(6, .int v6), (5, .int v3), (1, .ref a1), (2, .ref a2), (3, .ref a3), (4, .int a4), (0, .retAddr 7)]) C d_La_law_227 (by decide) rfl ?_
  refine g_aload_n C 3 rfl d_La_law_229 rfl ?_
  obtain ⟨fsh7, hoh7, hr⟩ := of_ob hr
  obtain ⟨v8, h7, eh7, hr⟩ := of_bnd2 hr
  refine g_callV (pa := []) C hl0 (c_Rm_thrown eh7) cd_La_59 kw_in_Rm_thrown kw_se_Rm_thrown hoh7 rfl rfl ⟨by decide, by decide, Nat.le_trans (show cells + 1 + 0 + 0 ≤ 601024 by omega) (by decide), Nat.le_trans (show slots + 6 + 0 + 0 ≤ 7293034 by omega) (by decide)⟩ rfl rfl (Nat.le_of_ble_eq_true rfl) d_La_law_230 ?_
  refine g_iload C 1 rfl d_La_law_233 ?_
  refine g_icmp_eq (tgt := 240) C d_La_law_235 (by decide) (fun z => ?_) (fun z => ?_)
  · have hr := of_if z hr
    refine g_iload C 1 rfl d_La_law_240 ?_
    refine g_if_ne (tgt := 257) C d_La_law_242 (by decide) (fun z => ?_) (fun z => ?_)
    · have hr := of_el z hr
      refine g_goto (tgt := 638) C d_La_law_257 (by decide) ?_
      cases hr
      refine g_lv [2, 3, 4, 5, 6] rfl ?_
      refine g_widen (k := cells + bu.1) (n := slots + bu.2) (show cells + 1 + 0 + 0 ≤ cells + bu.1 by omega) (show slots + 6 + 0 + 0 ≤ slots + bu.2 by omega) ?_
      exact kk
    · have hr := of_if z hr
      refine g_aload_n C 4 rfl d_La_law_245 rfl ?_
      refine g_iconst (v := 0) C d_La_law_246 (by decide) ?_
      obtain ⟨v9, ev9, hr⟩ := of_bnd hr
      refine g_laload C ev9 d_La_law_247 ?_
      refine g_iload C 0 rfl d_La_law_248 ?_
      refine g_i2l C d_La_law_250 ?_
      refine g_lcmp C d_La_law_251 ?_
      refine g_if_eq (tgt := 257) C d_La_law_252 (by decide) (fun z => ?_) (fun z => ?_)
      · have hr := of_if z hr
        refine g_goto (tgt := 638) C d_La_law_257 (by decide) ?_
        cases hr
        refine g_lv [2, 3, 4, 5, 6] rfl ?_
        refine g_widen (k := cells + bu.1) (n := slots + bu.2) (show cells + 1 + 0 + 0 ≤ cells + bu.1 by omega) (show slots + 6 + 0 + 0 ≤ slots + bu.2 by omega) ?_
        exact kk
      · have hr := of_el z hr
        refine g_iconst (v := 0) C d_La_law_255 (by decide) ?_
        cases hr
  · have hr := of_el z hr
    refine g_iconst (v := 0) C d_La_law_238 (by decide) ?_
    cases hr
def I_La_2 (L : Nat) (xs : Nat → Int32) (bu : Nat × Nat) (h : HP) (a1 a2 a3 : Nat) (a4 : Int32) : Option HP :=
  bnd2 (P_La_key h a1 a3) fun v2 h1 =>
  ob h1 a2 8 (
  bnd2 (P_Rm_key h1 a2) fun v4 h3 =>
  ob h3 a2 8 (
  bnd2 (P_Rm_thrown h3 a2) fun v6 h5 =>
  if v6 = v2 then
  if v2 = 0 then
  bnd (ldJ h5 a3 0) fun v7 =>
  if lg_cmp v7 (Int32.toInt64 v4) = 0 then
  some h5
  else
  none
  else
  some h5
  else
  none))
set_option maxHeartbeats 4000000 in
set_option maxRecDepth 100000 in
theorem i_La_2 {l : Launch} (htr : l.stackTraces = false) {x : CX} (C : EV x b_La_law "PrimeKeysLaw" 7 rm_La_law) (hXW : XW x.2.2.1.2.2.1 x.1.2.2.2.2) {L : Nat} {xs : Nat → Int32} (hX : SX x L xs) (hl0 : x.1.2.1 = l) {bu : Nat × Nat} {cells slots : Nat} (hb1 : 1 ≤ bu.1) (hb2 : 6 ≤ bu.2) (hc : cells + bu.1 ≤ 601024) (hs : slots + bu.2 ≤ 7293034) {h h' : HP} {a1 a2 a3 : Nat} {a4 : Int32} (hr : I_La_2 L xs bu h a1 a2 a3 a4 = some h') (kk : GG x (cells + bu.1) (slots + bu.2) h' 638 [(1, .ref a1), (2, .ref a2), (3, .ref a3), (4, .int a4), (0, .retAddr 7)] []) : GG x cells slots h 260 [(1, .ref a1), (2, .ref a2), (3, .ref a3), (4, .int a4), (0, .retAddr 7)] [] := by
  unfold I_La_2 at hr
  refine g_aload_n C 0 rfl d_La_law_260 rfl ?_
  refine g_aload_n C 2 rfl d_La_law_261 rfl ?_
  obtain ⟨v2, h1, eh1, hr⟩ := of_bnd2 hr
  refine g_callSW (pa := [.ref a1, .ref a3]) C hXW hl0 (c_La_key htr eh1) cdw_La_key kw_st_La_key ⟨Nat.le_of_ble_eq_true rfl, Nat.le_of_ble_eq_true rfl, show cells + 1 ≤ 601024 by omega, show slots + 6 ≤ 7293034 by omega⟩ rfl rfl (Nat.le_of_ble_eq_true rfl) d_La_law_262 ?_
  refine g_istore (lv' := [(5, .int v2), (1, .ref a1), (2, .ref a2), (3, .ref a3), (4, .int a4), (0, .retAddr 7)]) C d_La_law_265 (by decide) rfl ?_
  refine g_aload_n C 2 rfl d_La_law_267 rfl ?_
  obtain ⟨fsh3, hoh3, hr⟩ := of_ob hr
  obtain ⟨v4, h3, eh3, hr⟩ := of_bnd2 hr
  refine g_callV (pa := []) C hl0 (c_Rm_key eh3) cd_La_69 kw_in_Rm_key kw_se_Rm_key hoh3 rfl rfl ⟨by decide, by decide, Nat.le_trans (show cells + 1 + 0 ≤ 601024 by omega) (by decide), Nat.le_trans (show slots + 6 + 0 ≤ 7293034 by omega) (by decide)⟩ rfl rfl (Nat.le_of_ble_eq_true rfl) d_La_law_268 ?_
  refine g_istore (lv' := [(6, .int v4), (5, .int v2), (1, .ref a1), (2, .ref a2), (3, .ref a3), (4, .int a4), (0, .retAddr 7)]) C d_La_law_271 (by decide) rfl ?_
  refine g_aload_n C 3 rfl d_La_law_273 rfl ?_
  obtain ⟨fsh5, hoh5, hr⟩ := of_ob hr
  obtain ⟨v6, h5, eh5, hr⟩ := of_bnd2 hr
  refine g_callV (pa := []) C hl0 (c_Rm_thrown eh5) cd_La_59 kw_in_Rm_thrown kw_se_Rm_thrown hoh5 rfl rfl ⟨by decide, by decide, Nat.le_trans (show cells + 1 + 0 + 0 ≤ 601024 by omega) (by decide), Nat.le_trans (show slots + 6 + 0 + 0 ≤ 7293034 by omega) (by decide)⟩ rfl rfl (Nat.le_of_ble_eq_true rfl) d_La_law_274 ?_
  refine g_iload C 1 rfl d_La_law_277 ?_
  refine g_icmp_eq (tgt := 284) C d_La_law_279 (by decide) (fun z => ?_) (fun z => ?_)
  · have hr := of_if z hr
    refine g_iload C 1 rfl d_La_law_284 ?_
    refine g_if_ne (tgt := 301) C d_La_law_286 (by decide) (fun z => ?_) (fun z => ?_)
    · have hr := of_el z hr
      refine g_goto (tgt := 638) C d_La_law_301 (by decide) ?_
      cases hr
      refine g_lv [2, 3, 4, 5, 6] rfl ?_
      refine g_widen (k := cells + bu.1) (n := slots + bu.2) (show cells + 1 + 0 + 0 ≤ cells + bu.1 by omega) (show slots + 6 + 0 + 0 ≤ slots + bu.2 by omega) ?_
      exact kk
    · have hr := of_if z hr
      refine g_aload_n C 4 rfl d_La_law_289 rfl ?_
      refine g_iconst (v := 0) C d_La_law_290 (by decide) ?_
      obtain ⟨v7, ev7, hr⟩ := of_bnd hr
      refine g_laload C ev7 d_La_law_291 ?_
      refine g_iload C 0 rfl d_La_law_292 ?_
      refine g_i2l C d_La_law_294 ?_
      refine g_lcmp C d_La_law_295 ?_
      refine g_if_eq (tgt := 301) C d_La_law_296 (by decide) (fun z => ?_) (fun z => ?_)
      · have hr := of_if z hr
        refine g_goto (tgt := 638) C d_La_law_301 (by decide) ?_
        cases hr
        refine g_lv [2, 3, 4, 5, 6] rfl ?_
        refine g_widen (k := cells + bu.1) (n := slots + bu.2) (show cells + 1 + 0 + 0 ≤ cells + bu.1 by omega) (show slots + 6 + 0 + 0 ≤ slots + bu.2 by omega) ?_
        exact kk
      · have hr := of_el z hr
        refine g_iconst (v := 0) C d_La_law_299 (by decide) ?_
        cases hr
  · have hr := of_el z hr
    refine g_iconst (v := 0) C d_La_law_282 (by decide) ?_
    cases hr
def I_La_3 (L : Nat) (xs : Nat → Int32) (bu : Nat × Nat) (h : HP) (a1 a2 a3 : Nat) (a4 : Int32) : Option HP :=
  bnd (sdI L xs (a4 + 1)) fun v1 =>
  bnd2 (P_La_open h a1 v1) fun v3 h2 =>
  bnd (sdI L xs (a4 + 1)) fun v4 =>
  ob h2 a2 8 (
  bnd (P_Rm_open h2 a2 v4) fun h5 =>
  ob h5 a2 8 (
  bnd2 (P_Rm_thrown h5 a2) fun v7 h6 =>
  if v7 = v3 then
  some h6
  else
  none))
set_option maxHeartbeats 4000000 in
set_option maxRecDepth 100000 in
theorem i_La_3 {l : Launch} (htr : l.stackTraces = false) {x : CX} (C : EV x b_La_law "PrimeKeysLaw" 7 rm_La_law) (hXW : XW x.2.2.1.2.2.1 x.1.2.2.2.2) {L : Nat} {xs : Nat → Int32} (hX : SX x L xs) (hl0 : x.1.2.1 = l) {bu : Nat × Nat} {cells slots : Nat} (hb1 : 1 ≤ bu.1) (hb2 : 6 ≤ bu.2) (hc : cells + bu.1 ≤ 601024) (hs : slots + bu.2 ≤ 7293034) {h h' : HP} {a1 a2 a3 : Nat} {a4 : Int32} (hr : I_La_3 L xs bu h a1 a2 a3 a4 = some h') (kk : GG x (cells + bu.1) (slots + bu.2) h' 638 [(1, .ref a1), (2, .ref a2), (3, .ref a3), (4, .int a4), (0, .retAddr 7)] []) : GG x cells slots h 304 [(1, .ref a1), (2, .ref a2), (3, .ref a3), (4, .int a4), (0, .retAddr 7)] [] := by
  unfold I_La_3 at hr
  refine g_aload_n C 0 rfl d_La_law_304 rfl ?_
  refine g_aload_nT C 4 rfl d_La_law_305 rfl ?_
  refine g_iload C 3 rfl d_La_law_306 ?_
  refine g_iconst (v := 1) C d_La_law_308 (by decide) ?_
  refine g_iadd C d_La_law_309 ?_
  obtain ⟨v1, ev1, hr⟩ := of_bnd hr
  refine g_ialoadX C hX ev1 d_La_law_310 ?_
  obtain ⟨v3, h2, eh2, hr⟩ := of_bnd2 hr
  refine g_callSW (pa := [.ref a1, .int v1]) C hXW hl0 (c_La_open htr eh2) cdw_La_open kw_st_La_open ⟨Nat.le_of_ble_eq_true rfl, Nat.le_of_ble_eq_true rfl, show cells + 1 ≤ 601024 by omega, show slots + 6 ≤ 7293034 by omega⟩ rfl rfl (Nat.le_of_ble_eq_true rfl) d_La_law_311 ?_
  refine g_istore (lv' := [(5, .int v3), (1, .ref a1), (2, .ref a2), (3, .ref a3), (4, .int a4), (0, .retAddr 7)]) C d_La_law_314 (by decide) rfl ?_
  refine g_aload_n C 2 rfl d_La_law_316 rfl ?_
  refine g_aload_nT C 5 rfl d_La_law_317 rfl ?_
  refine g_iload C 4 rfl d_La_law_318 ?_
  refine g_iconst (v := 1) C d_La_law_320 (by decide) ?_
  refine g_iadd C d_La_law_321 ?_
  obtain ⟨v4, ev4, hr⟩ := of_bnd hr
  refine g_ialoadX C hX ev4 d_La_law_322 ?_
  obtain ⟨fsh5, hoh5, hr⟩ := of_ob hr
  obtain ⟨h5, eh5, hr⟩ := of_bnd hr
  refine g_callV (pa := [.int v4]) C hl0 (c_Rm_open eh5) cd_La_73 kw_in_Rm_open kw_se_Rm_open hoh5 rfl rfl ⟨by decide, by decide, Nat.le_trans (show cells + 1 + 0 ≤ 601024 by omega) (by decide), Nat.le_trans (show slots + 6 + 0 ≤ 7293034 by omega) (by decide)⟩ rfl rfl (Nat.le_of_ble_eq_true rfl) d_La_law_323 ?_
  refine g_aload_n C 2 rfl d_La_law_326 rfl ?_
  obtain ⟨fsh6, hoh6, hr⟩ := of_ob hr
  obtain ⟨v7, h6, eh6, hr⟩ := of_bnd2 hr
  refine g_callV (pa := []) C hl0 (c_Rm_thrown eh6) cd_La_59 kw_in_Rm_thrown kw_se_Rm_thrown hoh6 rfl rfl ⟨by decide, by decide, Nat.le_trans (show cells + 1 + 0 + 0 ≤ 601024 by omega) (by decide), Nat.le_trans (show slots + 6 + 0 + 0 ≤ 7293034 by omega) (by decide)⟩ rfl rfl (Nat.le_of_ble_eq_true rfl) d_La_law_327 ?_
  refine g_iload C 0 rfl d_La_law_330 ?_
  refine g_icmp_eq (tgt := 337) C d_La_law_332 (by decide) (fun z => ?_) (fun z => ?_)
  · have hr := of_if z hr
    refine g_goto (tgt := 638) C d_La_law_337 (by decide) ?_
    cases hr
    refine g_lv [1, 2, 3, 4, 5] rfl ?_
    refine g_widen (k := cells + bu.1) (n := slots + bu.2) (show cells + 1 + 0 + 0 ≤ cells + bu.1 by omega) (show slots + 6 + 0 + 0 ≤ slots + bu.2 by omega) ?_
    exact kk
  · have hr := of_el z hr
    refine g_iconst (v := 0) C d_La_law_335 (by decide) ?_
    cases hr
def I_La_4 (L : Nat) (xs : Nat → Int32) (bu : Nat × Nat) (h : HP) (a1 a2 a3 : Nat) (a4 : Int32) : Option HP :=
  bnd (sdI L xs (a4 + 1)) fun v1 =>
  bnd2 (P_La_agree h a1 v1) fun v3 h2 =>
  bnd (sdI L xs (a4 + 1)) fun v4 =>
  ob h2 a2 8 (
  bnd (P_Rm_agree h2 a2 v4) fun h5 =>
  ob h5 a2 8 (
  bnd2 (P_Rm_thrown h5 a2) fun v7 h6 =>
  if v7 = v3 then
  some h6
  else
  none))
set_option maxHeartbeats 4000000 in
set_option maxRecDepth 100000 in
theorem i_La_4 {l : Launch} (htr : l.stackTraces = false) {x : CX} (C : EV x b_La_law "PrimeKeysLaw" 7 rm_La_law) (hXW : XW x.2.2.1.2.2.1 x.1.2.2.2.2) {L : Nat} {xs : Nat → Int32} (hX : SX x L xs) (hl0 : x.1.2.1 = l) {bu : Nat × Nat} {cells slots : Nat} (hb1 : 1 ≤ bu.1) (hb2 : 6 ≤ bu.2) (hc : cells + bu.1 ≤ 601024) (hs : slots + bu.2 ≤ 7293034) {h h' : HP} {a1 a2 a3 : Nat} {a4 : Int32} (hr : I_La_4 L xs bu h a1 a2 a3 a4 = some h') (kk : GG x (cells + bu.1) (slots + bu.2) h' 638 [(1, .ref a1), (2, .ref a2), (3, .ref a3), (4, .int a4), (0, .retAddr 7)] []) : GG x cells slots h 340 [(1, .ref a1), (2, .ref a2), (3, .ref a3), (4, .int a4), (0, .retAddr 7)] [] := by
  unfold I_La_4 at hr
  refine g_aload_n C 0 rfl d_La_law_340 rfl ?_
  refine g_aload_nT C 4 rfl d_La_law_341 rfl ?_
  refine g_iload C 3 rfl d_La_law_342 ?_
  refine g_iconst (v := 1) C d_La_law_344 (by decide) ?_
  refine g_iadd C d_La_law_345 ?_
  obtain ⟨v1, ev1, hr⟩ := of_bnd hr
  refine g_ialoadX C hX ev1 d_La_law_346 ?_
  obtain ⟨v3, h2, eh2, hr⟩ := of_bnd2 hr
  refine g_callSW (pa := [.ref a1, .int v1]) C hXW hl0 (c_La_agree htr eh2) cdw_La_agree kw_st_La_agree ⟨Nat.le_of_ble_eq_true rfl, Nat.le_of_ble_eq_true rfl, show cells + 1 ≤ 601024 by omega, show slots + 6 ≤ 7293034 by omega⟩ rfl rfl (Nat.le_of_ble_eq_true rfl) d_La_law_347 ?_
  refine g_istore (lv' := [(5, .int v3), (1, .ref a1), (2, .ref a2), (3, .ref a3), (4, .int a4), (0, .retAddr 7)]) C d_La_law_350 (by decide) rfl ?_
  refine g_aload_n C 2 rfl d_La_law_352 rfl ?_
  refine g_aload_nT C 5 rfl d_La_law_353 rfl ?_
  refine g_iload C 4 rfl d_La_law_354 ?_
  refine g_iconst (v := 1) C d_La_law_356 (by decide) ?_
  refine g_iadd C d_La_law_357 ?_
  obtain ⟨v4, ev4, hr⟩ := of_bnd hr
  refine g_ialoadX C hX ev4 d_La_law_358 ?_
  obtain ⟨fsh5, hoh5, hr⟩ := of_ob hr
  obtain ⟨h5, eh5, hr⟩ := of_bnd hr
  refine g_callV (pa := [.int v4]) C hl0 (c_Rm_agree eh5) cd_La_76 kw_in_Rm_agree kw_se_Rm_agree hoh5 rfl rfl ⟨by decide, by decide, Nat.le_trans (show cells + 1 + 0 ≤ 601024 by omega) (by decide), Nat.le_trans (show slots + 6 + 0 ≤ 7293034 by omega) (by decide)⟩ rfl rfl (Nat.le_of_ble_eq_true rfl) d_La_law_359 ?_
  refine g_aload_n C 2 rfl d_La_law_362 rfl ?_
  obtain ⟨fsh6, hoh6, hr⟩ := of_ob hr
  obtain ⟨v7, h6, eh6, hr⟩ := of_bnd2 hr
  refine g_callV (pa := []) C hl0 (c_Rm_thrown eh6) cd_La_59 kw_in_Rm_thrown kw_se_Rm_thrown hoh6 rfl rfl ⟨by decide, by decide, Nat.le_trans (show cells + 1 + 0 + 0 ≤ 601024 by omega) (by decide), Nat.le_trans (show slots + 6 + 0 + 0 ≤ 7293034 by omega) (by decide)⟩ rfl rfl (Nat.le_of_ble_eq_true rfl) d_La_law_363 ?_
  refine g_iload C 0 rfl d_La_law_366 ?_
  refine g_icmp_eq (tgt := 373) C d_La_law_368 (by decide) (fun z => ?_) (fun z => ?_)
  · have hr := of_if z hr
    refine g_goto (tgt := 638) C d_La_law_373 (by decide) ?_
    cases hr
    refine g_lv [1, 2, 3, 4, 5] rfl ?_
    refine g_widen (k := cells + bu.1) (n := slots + bu.2) (show cells + 1 + 0 + 0 ≤ cells + bu.1 by omega) (show slots + 6 + 0 + 0 ≤ slots + bu.2 by omega) ?_
    exact kk
  · have hr := of_el z hr
    refine g_iconst (v := 0) C d_La_law_371 (by decide) ?_
    cases hr
def I_La_5 (L : Nat) (xs : Nat → Int32) (bu : Nat × Nat) (h : HP) (a1 a2 a3 : Nat) (a4 : Int32) : Option HP :=
  ob h a1 7 (
  bnd2 (P_PK_message h a1) fun v2 h1 =>
  ob h1 a2 8 (
  bnd2 (P_Rm_message h1 a2) fun v4 h3 =>
  if v2 = v4 then
  some h3
  else
  none))
set_option maxHeartbeats 4000000 in
set_option maxRecDepth 100000 in
theorem i_La_5 {l : Launch} (htr : l.stackTraces = false) {x : CX} (C : EV x b_La_law "PrimeKeysLaw" 7 rm_La_law) (hXW : XW x.2.2.1.2.2.1 x.1.2.2.2.2) {L : Nat} {xs : Nat → Int32} (hX : SX x L xs) (hl0 : x.1.2.1 = l) {bu : Nat × Nat} {cells slots : Nat} (hb1 : 1 ≤ bu.1) (hb2 : 6 ≤ bu.2) (hc : cells + bu.1 ≤ 601024) (hs : slots + bu.2 ≤ 7293034) {h h' : HP} {a1 a2 a3 : Nat} {a4 : Int32} (hr : I_La_5 L xs bu h a1 a2 a3 a4 = some h') (kk : GG x (cells + bu.1) (slots + bu.2) h' 638 [(1, .ref a1), (2, .ref a2), (3, .ref a3), (4, .int a4), (0, .retAddr 7)] []) : GG x cells slots h 376 [(1, .ref a1), (2, .ref a2), (3, .ref a3), (4, .int a4), (0, .retAddr 7)] [] := by
  unfold I_La_5 at hr
  refine g_aload_n C 0 rfl d_La_law_376 rfl ?_
  obtain ⟨fsh1, hoh1, hr⟩ := of_ob hr
  obtain ⟨v2, h1, eh1, hr⟩ := of_bnd2 hr
  refine g_callV (pa := []) C hl0 (c_PK_message eh1) cd_La_77 kw_in_PK_message kw_se_PK_message hoh1 rfl rfl ⟨by decide, by decide, Nat.le_trans (show cells + 0 ≤ 601024 by omega) (by decide), Nat.le_trans (show slots + 0 ≤ 7293034 by omega) (by decide)⟩ rfl rfl (Nat.le_of_ble_eq_true rfl) d_La_law_377 ?_
  refine g_aload_n C 1 rfl d_La_law_380 rfl ?_
  obtain ⟨fsh3, hoh3, hr⟩ := of_ob hr
  obtain ⟨v4, h3, eh3, hr⟩ := of_bnd2 hr
  refine g_callV (pa := []) C hl0 (c_Rm_message eh3) cd_La_80 kw_in_Rm_message kw_se_Rm_message hoh3 rfl rfl ⟨by decide, by decide, Nat.le_trans (show cells + 0 + 0 ≤ 601024 by omega) (by decide), Nat.le_trans (show slots + 0 + 0 ≤ 7293034 by omega) (by decide)⟩ rfl rfl (Nat.le_of_ble_eq_true rfl) d_La_law_381 ?_
  refine g_icmp_eq (tgt := 638) C d_La_law_384 (by decide) (fun z => ?_) (fun z => ?_)
  · have hr := of_if z hr
    cases hr
    refine g_lv [0, 1, 2, 3, 4] rfl ?_
    refine g_widen (k := cells + bu.1) (n := slots + bu.2) (show cells + 0 + 0 ≤ cells + bu.1 by omega) (show slots + 0 + 0 ≤ slots + bu.2 by omega) ?_
    exact kk
  · have hr := of_el z hr
    refine g_iconst (v := 0) C d_La_law_387 (by decide) ?_
    cases hr
def I_La_6 (L : Nat) (xs : Nat → Int32) (bu : Nat × Nat) (h : HP) (a1 a2 a3 : Nat) (a4 : Int32) : Option HP :=
  bnd (sdI L xs (a4 + 1)) fun v1 =>
  bnd2 (P_La_sign h a1 v1 a3) fun v3 h2 =>
  bnd (sdI L xs (a4 + 1)) fun v4 =>
  ob h2 a2 8 (
  bnd2 (P_Rm_sign h2 a2 v4) fun v6 h5 =>
  ob h5 a2 8 (
  bnd2 (P_Rm_thrown h5 a2) fun v8 h7 =>
  if v8 = v3 then
  if v3 = 0 then
  bnd (ldJ h7 a3 0) fun v9 =>
  if lg_cmp v9 (Int32.toInt64 v6) = 0 then
  some h7
  else
  none
  else
  some h7
  else
  none))
set_option maxHeartbeats 4000000 in
set_option maxRecDepth 100000 in
theorem i_La_6 {l : Launch} (htr : l.stackTraces = false) {x : CX} (C : EV x b_La_law "PrimeKeysLaw" 7 rm_La_law) (hXW : XW x.2.2.1.2.2.1 x.1.2.2.2.2) {L : Nat} {xs : Nat → Int32} (hX : SX x L xs) (hl0 : x.1.2.1 = l) {bu : Nat × Nat} {cells slots : Nat} (hb1 : 1 ≤ bu.1) (hb2 : 6 ≤ bu.2) (hc : cells + bu.1 ≤ 601024) (hs : slots + bu.2 ≤ 7293034) {h h' : HP} {a1 a2 a3 : Nat} {a4 : Int32} (hr : I_La_6 L xs bu h a1 a2 a3 a4 = some h') (kk : GG x (cells + bu.1) (slots + bu.2) h' 638 [(1, .ref a1), (2, .ref a2), (3, .ref a3), (4, .int a4), (0, .retAddr 7)] []) : GG x cells slots h 389 [(1, .ref a1), (2, .ref a2), (3, .ref a3), (4, .int a4), (0, .retAddr 7)] [] := by
  unfold I_La_6 at hr
  refine g_aload_n C 0 rfl d_La_law_389 rfl ?_
  refine g_aload_nT C 4 rfl d_La_law_390 rfl ?_
  refine g_iload C 3 rfl d_La_law_391 ?_
  refine g_iconst (v := 1) C d_La_law_393 (by decide) ?_
  refine g_iadd C d_La_law_394 ?_
  obtain ⟨v1, ev1, hr⟩ := of_bnd hr
  refine g_ialoadX C hX ev1 d_La_law_395 ?_
  refine g_aload_n C 2 rfl d_La_law_396 rfl ?_
  obtain ⟨v3, h2, eh2, hr⟩ := of_bnd2 hr
  refine g_callSW (pa := [.ref a1, .int v1, .ref a3]) C hXW hl0 (c_La_sign htr eh2) cdw_La_sign kw_st_La_sign ⟨Nat.le_of_ble_eq_true rfl, Nat.le_of_ble_eq_true rfl, show cells + 1 ≤ 601024 by omega, show slots + 6 ≤ 7293034 by omega⟩ rfl rfl (Nat.le_of_ble_eq_true rfl) d_La_law_397 ?_
  refine g_istore (lv' := [(5, .int v3), (1, .ref a1), (2, .ref a2), (3, .ref a3), (4, .int a4), (0, .retAddr 7)]) C d_La_law_400 (by decide) rfl ?_
  refine g_aload_n C 2 rfl d_La_law_402 rfl ?_
  refine g_aload_nT C 5 rfl d_La_law_403 rfl ?_
  refine g_iload C 4 rfl d_La_law_404 ?_
  refine g_iconst (v := 1) C d_La_law_406 (by decide) ?_
  refine g_iadd C d_La_law_407 ?_
  obtain ⟨v4, ev4, hr⟩ := of_bnd hr
  refine g_ialoadX C hX ev4 d_La_law_408 ?_
  obtain ⟨fsh5, hoh5, hr⟩ := of_ob hr
  obtain ⟨v6, h5, eh5, hr⟩ := of_bnd2 hr
  refine g_callV (pa := [.int v4]) C hl0 (c_Rm_sign eh5) cd_La_83 kw_in_Rm_sign kw_se_Rm_sign hoh5 rfl rfl ⟨by decide, by decide, Nat.le_trans (show cells + 1 + 0 ≤ 601024 by omega) (by decide), Nat.le_trans (show slots + 6 + 0 ≤ 7293034 by omega) (by decide)⟩ rfl rfl (Nat.le_of_ble_eq_true rfl) d_La_law_409 ?_
  refine g_istore (lv' := [(6, .int v6), (5, .int v3), (1, .ref a1), (2, .ref a2), (3, .ref a3), (4, .int a4), (0, .retAddr 7)]) C d_La_law_412 (by decide) rfl ?_
  refine g_aload_n C 3 rfl d_La_law_414 rfl ?_
  obtain ⟨fsh7, hoh7, hr⟩ := of_ob hr
  obtain ⟨v8, h7, eh7, hr⟩ := of_bnd2 hr
  refine g_callV (pa := []) C hl0 (c_Rm_thrown eh7) cd_La_59 kw_in_Rm_thrown kw_se_Rm_thrown hoh7 rfl rfl ⟨by decide, by decide, Nat.le_trans (show cells + 1 + 0 + 0 ≤ 601024 by omega) (by decide), Nat.le_trans (show slots + 6 + 0 + 0 ≤ 7293034 by omega) (by decide)⟩ rfl rfl (Nat.le_of_ble_eq_true rfl) d_La_law_415 ?_
  refine g_iload C 1 rfl d_La_law_418 ?_
  refine g_icmp_eq (tgt := 425) C d_La_law_420 (by decide) (fun z => ?_) (fun z => ?_)
  · have hr := of_if z hr
    refine g_iload C 1 rfl d_La_law_425 ?_
    refine g_if_ne (tgt := 442) C d_La_law_427 (by decide) (fun z => ?_) (fun z => ?_)
    · have hr := of_el z hr
      refine g_goto (tgt := 638) C d_La_law_442 (by decide) ?_
      cases hr
      refine g_lv [2, 3, 4, 5, 6] rfl ?_
      refine g_widen (k := cells + bu.1) (n := slots + bu.2) (show cells + 1 + 0 + 0 ≤ cells + bu.1 by omega) (show slots + 6 + 0 + 0 ≤ slots + bu.2 by omega) ?_
      exact kk
    · have hr := of_if z hr
      refine g_aload_n C 4 rfl d_La_law_430 rfl ?_
      refine g_iconst (v := 0) C d_La_law_431 (by decide) ?_
      obtain ⟨v9, ev9, hr⟩ := of_bnd hr
      refine g_laload C ev9 d_La_law_432 ?_
      refine g_iload C 0 rfl d_La_law_433 ?_
      refine g_i2l C d_La_law_435 ?_
      refine g_lcmp C d_La_law_436 ?_
      refine g_if_eq (tgt := 442) C d_La_law_437 (by decide) (fun z => ?_) (fun z => ?_)
      · have hr := of_if z hr
        refine g_goto (tgt := 638) C d_La_law_442 (by decide) ?_
        cases hr
        refine g_lv [2, 3, 4, 5, 6] rfl ?_
        refine g_widen (k := cells + bu.1) (n := slots + bu.2) (show cells + 1 + 0 + 0 ≤ cells + bu.1 by omega) (show slots + 6 + 0 + 0 ≤ slots + bu.2 by omega) ?_
        exact kk
      · have hr := of_el z hr
        refine g_iconst (v := 0) C d_La_law_440 (by decide) ?_
        cases hr
  · have hr := of_el z hr
    refine g_iconst (v := 0) C d_La_law_423 (by decide) ?_
    cases hr
def I_La_7 (L : Nat) (xs : Nat → Int32) (bu : Nat × Nat) (h : HP) (a1 a2 a3 : Nat) (a4 : Int32) : Option HP :=
  bnd2 (P_La_verify h a1 a3) fun v2 h1 =>
  ob h1 a2 8 (
  bnd2 (P_Rm_verify h1 a2) fun v4 h3 =>
  ob h3 a2 8 (
  bnd2 (P_Rm_thrown h3 a2) fun v6 h5 =>
  if v6 = v2 then
  if v2 = 0 then
  bnd (ldJ h5 a3 0) fun v7 =>
  if lg_cmp v7 (Int32.toInt64 v4) = 0 then
  some h5
  else
  none
  else
  some h5
  else
  none))
set_option maxHeartbeats 4000000 in
set_option maxRecDepth 100000 in
theorem i_La_7 {l : Launch} (htr : l.stackTraces = false) {x : CX} (C : EV x b_La_law "PrimeKeysLaw" 7 rm_La_law) (hXW : XW x.2.2.1.2.2.1 x.1.2.2.2.2) {L : Nat} {xs : Nat → Int32} (hX : SX x L xs) (hl0 : x.1.2.1 = l) {bu : Nat × Nat} {cells slots : Nat} (hb1 : 1 ≤ bu.1) (hb2 : 6 ≤ bu.2) (hc : cells + bu.1 ≤ 601024) (hs : slots + bu.2 ≤ 7293034) {h h' : HP} {a1 a2 a3 : Nat} {a4 : Int32} (hr : I_La_7 L xs bu h a1 a2 a3 a4 = some h') (kk : GG x (cells + bu.1) (slots + bu.2) h' 638 [(1, .ref a1), (2, .ref a2), (3, .ref a3), (4, .int a4), (0, .retAddr 7)] []) : GG x cells slots h 445 [(1, .ref a1), (2, .ref a2), (3, .ref a3), (4, .int a4), (0, .retAddr 7)] [] := by
  unfold I_La_7 at hr
  refine g_aload_n C 0 rfl d_La_law_445 rfl ?_
  refine g_aload_n C 2 rfl d_La_law_446 rfl ?_
  obtain ⟨v2, h1, eh1, hr⟩ := of_bnd2 hr
  refine g_callSW (pa := [.ref a1, .ref a3]) C hXW hl0 (c_La_verify htr eh1) cdw_La_verify kw_st_La_verify ⟨Nat.le_of_ble_eq_true rfl, Nat.le_of_ble_eq_true rfl, show cells + 1 ≤ 601024 by omega, show slots + 6 ≤ 7293034 by omega⟩ rfl rfl (Nat.le_of_ble_eq_true rfl) d_La_law_447 ?_
  refine g_istore (lv' := [(5, .int v2), (1, .ref a1), (2, .ref a2), (3, .ref a3), (4, .int a4), (0, .retAddr 7)]) C d_La_law_450 (by decide) rfl ?_
  refine g_aload_n C 2 rfl d_La_law_452 rfl ?_
  obtain ⟨fsh3, hoh3, hr⟩ := of_ob hr
  obtain ⟨v4, h3, eh3, hr⟩ := of_bnd2 hr
  refine g_callV (pa := []) C hl0 (c_Rm_verify eh3) cd_La_86 kw_in_Rm_verify kw_se_Rm_verify hoh3 rfl rfl ⟨by decide, by decide, Nat.le_trans (show cells + 1 + 0 ≤ 601024 by omega) (by decide), Nat.le_trans (show slots + 6 + 0 ≤ 7293034 by omega) (by decide)⟩ rfl rfl (Nat.le_of_ble_eq_true rfl) d_La_law_453 ?_
  refine g_istore (lv' := [(6, .int v4), (5, .int v2), (1, .ref a1), (2, .ref a2), (3, .ref a3), (4, .int a4), (0, .retAddr 7)]) C d_La_law_456 (by decide) rfl ?_
  refine g_aload_n C 3 rfl d_La_law_458 rfl ?_
  obtain ⟨fsh5, hoh5, hr⟩ := of_ob hr
  obtain ⟨v6, h5, eh5, hr⟩ := of_bnd2 hr
  refine g_callV (pa := []) C hl0 (c_Rm_thrown eh5) cd_La_59 kw_in_Rm_thrown kw_se_Rm_thrown hoh5 rfl rfl ⟨by decide, by decide, Nat.le_trans (show cells + 1 + 0 + 0 ≤ 601024 by omega) (by decide), Nat.le_trans (show slots + 6 + 0 + 0 ≤ 7293034 by omega) (by decide)⟩ rfl rfl (Nat.le_of_ble_eq_true rfl) d_La_law_459 ?_
  refine g_iload C 1 rfl d_La_law_462 ?_
  refine g_icmp_eq (tgt := 469) C d_La_law_464 (by decide) (fun z => ?_) (fun z => ?_)
  · have hr := of_if z hr
    refine g_iload C 1 rfl d_La_law_469 ?_
    refine g_if_ne (tgt := 486) C d_La_law_471 (by decide) (fun z => ?_) (fun z => ?_)
    · have hr := of_el z hr
      refine g_goto (tgt := 638) C d_La_law_486 (by decide) ?_
      cases hr
      refine g_lv [2, 3, 4, 5, 6] rfl ?_
      refine g_widen (k := cells + bu.1) (n := slots + bu.2) (show cells + 1 + 0 + 0 ≤ cells + bu.1 by omega) (show slots + 6 + 0 + 0 ≤ slots + bu.2 by omega) ?_
      exact kk
    · have hr := of_if z hr
      refine g_aload_n C 4 rfl d_La_law_474 rfl ?_
      refine g_iconst (v := 0) C d_La_law_475 (by decide) ?_
      obtain ⟨v7, ev7, hr⟩ := of_bnd hr
      refine g_laload C ev7 d_La_law_476 ?_
      refine g_iload C 0 rfl d_La_law_477 ?_
      refine g_i2l C d_La_law_479 ?_
      refine g_lcmp C d_La_law_480 ?_
      refine g_if_eq (tgt := 486) C d_La_law_481 (by decide) (fun z => ?_) (fun z => ?_)
      · have hr := of_if z hr
        refine g_goto (tgt := 638) C d_La_law_486 (by decide) ?_
        cases hr
        refine g_lv [2, 3, 4, 5, 6] rfl ?_
        refine g_widen (k := cells + bu.1) (n := slots + bu.2) (show cells + 1 + 0 + 0 ≤ cells + bu.1 by omega) (show slots + 6 + 0 + 0 ≤ slots + bu.2 by omega) ?_
        exact kk
      · have hr := of_el z hr
        refine g_iconst (v := 0) C d_La_law_484 (by decide) ?_
        cases hr
  · have hr := of_el z hr
    refine g_iconst (v := 0) C d_La_law_467 (by decide) ?_
    cases hr
def I_La_8 (L : Nat) (xs : Nat → Int32) (bu : Nat × Nat) (h : HP) (a1 a2 a3 : Nat) (a4 : Int32) : Option HP :=
  bnd (sdI L xs (a4 + 1)) fun v1 =>
  bnd (sdI L xs (a4 + 2)) fun v2 =>
  bnd2 (P_La_back bu h a1 v1 v2 a3) fun v4 h3 =>
  bnd (sdI L xs (a4 + 1)) fun v5 =>
  bnd (sdI L xs (a4 + 2)) fun v6 =>
  ob h3 a2 8 (
  bnd2 (P_Rm_back h3 a2 v5 v6) fun v8 h7 =>
  ob h7 a2 8 (
  bnd2 (P_Rm_thrown h7 a2) fun v10 h9 =>
  if v10 = v4 then
  if v4 = 0 then
  bnd (ldJ h9 a3 0) fun v11 =>
  if lg_cmp v11 (Int32.toInt64 v8) = 0 then
  some h9
  else
  none
  else
  some h9
  else
  none))
set_option maxHeartbeats 4000000 in
set_option maxRecDepth 100000 in
theorem i_La_8 {l : Launch} (htr : l.stackTraces = false) {x : CX} (C : EV x b_La_law "PrimeKeysLaw" 7 rm_La_law) (hXW : XW x.2.2.1.2.2.1 x.1.2.2.2.2) {L : Nat} {xs : Nat → Int32} (hX : SX x L xs) (hl0 : x.1.2.1 = l) {bu : Nat × Nat} {cells slots : Nat} (hb1 : 1 ≤ bu.1) (hb2 : 6 ≤ bu.2) (hc : cells + bu.1 ≤ 601024) (hs : slots + bu.2 ≤ 7293034) {h h' : HP} {a1 a2 a3 : Nat} {a4 : Int32} (hr : I_La_8 L xs bu h a1 a2 a3 a4 = some h') (kk : GG x (cells + bu.1) (slots + bu.2) h' 638 [(1, .ref a1), (2, .ref a2), (3, .ref a3), (4, .int a4), (0, .retAddr 7)] []) : GG x cells slots h 489 [(1, .ref a1), (2, .ref a2), (3, .ref a3), (4, .int a4), (0, .retAddr 7)] [] := by
  unfold I_La_8 at hr
  refine g_aload_n C 0 rfl d_La_law_489 rfl ?_
  refine g_aload_nT C 4 rfl d_La_law_490 rfl ?_
  refine g_iload C 3 rfl d_La_law_491 ?_
  refine g_iconst (v := 1) C d_La_law_493 (by decide) ?_
  refine g_iadd C d_La_law_494 ?_
  obtain ⟨v1, ev1, hr⟩ := of_bnd hr
  refine g_ialoadX C hX ev1 d_La_law_495 ?_
  refine g_aload_nT C 4 rfl d_La_law_496 rfl ?_
  refine g_iload C 3 rfl d_La_law_497 ?_
  refine g_iconst (v := 2) C d_La_law_499 (by decide) ?_
  refine g_iadd C d_La_law_500 ?_
  obtain ⟨v2, ev2, hr⟩ := of_bnd hr
  refine g_ialoadX C hX ev2 d_La_law_501 ?_
  refine g_aload_n C 2 rfl d_La_law_502 rfl ?_
  obtain ⟨v4, h3, eh3, hr⟩ := of_bnd2 hr
  refine g_callSW (pa := [.ref a1, .int v1, .int v2, .ref a3]) C hXW hl0 (c_La_back htr eh3) cdw_La_back kw_st_La_back ⟨Nat.le_of_ble_eq_true rfl, Nat.le_of_ble_eq_true rfl, show cells + bu.1 ≤ 601024 by omega, show slots + bu.2 ≤ 7293034 by omega⟩ rfl rfl (Nat.le_of_ble_eq_true rfl) d_La_law_503 ?_
  refine g_istore (lv' := [(5, .int v4), (1, .ref a1), (2, .ref a2), (3, .ref a3), (4, .int a4), (0, .retAddr 7)]) C d_La_law_506 (by decide) rfl ?_
  refine g_aload_n C 2 rfl d_La_law_508 rfl ?_
  refine g_aload_nT C 5 rfl d_La_law_509 rfl ?_
  refine g_iload C 4 rfl d_La_law_510 ?_
  refine g_iconst (v := 1) C d_La_law_512 (by decide) ?_
  refine g_iadd C d_La_law_513 ?_
  obtain ⟨v5, ev5, hr⟩ := of_bnd hr
  refine g_ialoadX C hX ev5 d_La_law_514 ?_
  refine g_aload_nT C 5 rfl d_La_law_515 rfl ?_
  refine g_iload C 4 rfl d_La_law_516 ?_
  refine g_iconst (v := 2) C d_La_law_518 (by decide) ?_
  refine g_iadd C d_La_law_519 ?_
  obtain ⟨v6, ev6, hr⟩ := of_bnd hr
  refine g_ialoadX C hX ev6 d_La_law_520 ?_
  obtain ⟨fsh7, hoh7, hr⟩ := of_ob hr
  obtain ⟨v8, h7, eh7, hr⟩ := of_bnd2 hr
  refine g_callV (pa := [.int v5, .int v6]) C hl0 (c_Rm_back eh7) cd_La_90 kw_in_Rm_back kw_se_Rm_back hoh7 rfl rfl ⟨by decide, by decide, Nat.le_trans (show cells + bu.1 + 0 ≤ 601024 by omega) (by decide), Nat.le_trans (show slots + bu.2 + 0 ≤ 7293034 by omega) (by decide)⟩ rfl rfl (Nat.le_of_ble_eq_true rfl) d_La_law_521 ?_
  refine g_istore (lv' := [(6, .int v8), (5, .int v4), (1, .ref a1), (2, .ref a2), (3, .ref a3), (4, .int a4), (0, .retAddr 7)]) C d_La_law_524 (by decide) rfl ?_
  refine g_aload_n C 3 rfl d_La_law_526 rfl ?_
  obtain ⟨fsh9, hoh9, hr⟩ := of_ob hr
  obtain ⟨v10, h9, eh9, hr⟩ := of_bnd2 hr
  refine g_callV (pa := []) C hl0 (c_Rm_thrown eh9) cd_La_59 kw_in_Rm_thrown kw_se_Rm_thrown hoh9 rfl rfl ⟨by decide, by decide, Nat.le_trans (show cells + bu.1 + 0 + 0 ≤ 601024 by omega) (by decide), Nat.le_trans (show slots + bu.2 + 0 + 0 ≤ 7293034 by omega) (by decide)⟩ rfl rfl (Nat.le_of_ble_eq_true rfl) d_La_law_527 ?_
  refine g_iload C 1 rfl d_La_law_530 ?_
  refine g_icmp_eq (tgt := 537) C d_La_law_532 (by decide) (fun z => ?_) (fun z => ?_)
  · have hr := of_if z hr
    refine g_iload C 1 rfl d_La_law_537 ?_
    refine g_if_ne (tgt := 554) C d_La_law_539 (by decide) (fun z => ?_) (fun z => ?_)
    · have hr := of_el z hr
      refine g_goto (tgt := 638) C d_La_law_554 (by decide) ?_
      cases hr
      refine g_lv [2, 3, 4, 5, 6] rfl ?_
      refine g_widen (k := cells + bu.1) (n := slots + bu.2) (show cells + bu.1 + 0 + 0 ≤ cells + bu.1 by omega) (show slots + bu.2 + 0 + 0 ≤ slots + bu.2 by omega) ?_
      exact kk
    · have hr := of_if z hr
      refine g_aload_n C 4 rfl d_La_law_542 rfl ?_
      refine g_iconst (v := 0) C d_La_law_543 (by decide) ?_
      obtain ⟨v11, ev11, hr⟩ := of_bnd hr
      refine g_laload C ev11 d_La_law_544 ?_
      refine g_iload C 0 rfl d_La_law_545 ?_
      refine g_i2l C d_La_law_547 ?_
      refine g_lcmp C d_La_law_548 ?_
      refine g_if_eq (tgt := 554) C d_La_law_549 (by decide) (fun z => ?_) (fun z => ?_)
      · have hr := of_if z hr
        refine g_goto (tgt := 638) C d_La_law_554 (by decide) ?_
        cases hr
        refine g_lv [2, 3, 4, 5, 6] rfl ?_
        refine g_widen (k := cells + bu.1) (n := slots + bu.2) (show cells + bu.1 + 0 + 0 ≤ cells + bu.1 by omega) (show slots + bu.2 + 0 + 0 ≤ slots + bu.2 by omega) ?_
        exact kk
      · have hr := of_el z hr
        refine g_iconst (v := 0) C d_La_law_552 (by decide) ?_
        cases hr
  · have hr := of_el z hr
    refine g_iconst (v := 0) C d_La_law_535 (by decide) ?_
    cases hr
def I_La_9 (L : Nat) (xs : Nat → Int32) (bu : Nat × Nat) (h : HP) (a1 a2 a3 : Nat) (a4 : Int32) : Option HP :=
  bnd (sdI L xs (a4 + 1)) fun v1 =>
  bnd2 (P_La_result h a1 v1 a3) fun v3 h2 =>
  bnd (sdI L xs (a4 + 1)) fun v4 =>
  ob h2 a2 8 (
  bnd2 (P_Rm_result h2 a2 v4) fun v6 h5 =>
  ob h5 a2 8 (
  bnd2 (P_Rm_thrown h5 a2) fun v8 h7 =>
  if v8 = v3 then
  if v3 = 0 then
  bnd (ldJ h7 a3 0) fun v9 =>
  if lg_cmp v9 (Int32.toInt64 v6) = 0 then
  some h7
  else
  none
  else
  some h7
  else
  none))
set_option maxHeartbeats 4000000 in
set_option maxRecDepth 100000 in
theorem i_La_9 {l : Launch} (htr : l.stackTraces = false) {x : CX} (C : EV x b_La_law "PrimeKeysLaw" 7 rm_La_law) (hXW : XW x.2.2.1.2.2.1 x.1.2.2.2.2) {L : Nat} {xs : Nat → Int32} (hX : SX x L xs) (hl0 : x.1.2.1 = l) {bu : Nat × Nat} {cells slots : Nat} (hb1 : 1 ≤ bu.1) (hb2 : 6 ≤ bu.2) (hc : cells + bu.1 ≤ 601024) (hs : slots + bu.2 ≤ 7293034) {h h' : HP} {a1 a2 a3 : Nat} {a4 : Int32} (hr : I_La_9 L xs bu h a1 a2 a3 a4 = some h') (kk : GG x (cells + bu.1) (slots + bu.2) h' 638 [(1, .ref a1), (2, .ref a2), (3, .ref a3), (4, .int a4), (0, .retAddr 7)] []) : GG x cells slots h 557 [(1, .ref a1), (2, .ref a2), (3, .ref a3), (4, .int a4), (0, .retAddr 7)] [] := by
  unfold I_La_9 at hr
  refine g_aload_n C 0 rfl d_La_law_557 rfl ?_
  refine g_aload_nT C 4 rfl d_La_law_558 rfl ?_
  refine g_iload C 3 rfl d_La_law_559 ?_
  refine g_iconst (v := 1) C d_La_law_561 (by decide) ?_
  refine g_iadd C d_La_law_562 ?_
  obtain ⟨v1, ev1, hr⟩ := of_bnd hr
  refine g_ialoadX C hX ev1 d_La_law_563 ?_
  refine g_aload_n C 2 rfl d_La_law_564 rfl ?_
  obtain ⟨v3, h2, eh2, hr⟩ := of_bnd2 hr
  refine g_callSW (pa := [.ref a1, .int v1, .ref a3]) C hXW hl0 (c_La_result htr eh2) cdw_La_result kw_st_La_result ⟨Nat.le_of_ble_eq_true rfl, Nat.le_of_ble_eq_true rfl, show cells + 1 ≤ 601024 by omega, show slots + 6 ≤ 7293034 by omega⟩ rfl rfl (Nat.le_of_ble_eq_true rfl) d_La_law_565 ?_
  refine g_istore (lv' := [(5, .int v3), (1, .ref a1), (2, .ref a2), (3, .ref a3), (4, .int a4), (0, .retAddr 7)]) C d_La_law_568 (by decide) rfl ?_
  refine g_aload_n C 2 rfl d_La_law_570 rfl ?_
  refine g_aload_nT C 5 rfl d_La_law_571 rfl ?_
  refine g_iload C 4 rfl d_La_law_572 ?_
  refine g_iconst (v := 1) C d_La_law_574 (by decide) ?_
  refine g_iadd C d_La_law_575 ?_
  obtain ⟨v4, ev4, hr⟩ := of_bnd hr
  refine g_ialoadX C hX ev4 d_La_law_576 ?_
  obtain ⟨fsh5, hoh5, hr⟩ := of_ob hr
  obtain ⟨v6, h5, eh5, hr⟩ := of_bnd2 hr
  refine g_callV (pa := [.int v4]) C hl0 (c_Rm_result eh5) cd_La_93 kw_in_Rm_result kw_se_Rm_result hoh5 rfl rfl ⟨by decide, by decide, Nat.le_trans (show cells + 1 + 0 ≤ 601024 by omega) (by decide), Nat.le_trans (show slots + 6 + 0 ≤ 7293034 by omega) (by decide)⟩ rfl rfl (Nat.le_of_ble_eq_true rfl) d_La_law_577 ?_
  refine g_istore (lv' := [(6, .int v6), (5, .int v3), (1, .ref a1), (2, .ref a2), (3, .ref a3), (4, .int a4), (0, .retAddr 7)]) C d_La_law_580 (by decide) rfl ?_
  refine g_aload_n C 3 rfl d_La_law_582 rfl ?_
  obtain ⟨fsh7, hoh7, hr⟩ := of_ob hr
  obtain ⟨v8, h7, eh7, hr⟩ := of_bnd2 hr
  refine g_callV (pa := []) C hl0 (c_Rm_thrown eh7) cd_La_59 kw_in_Rm_thrown kw_se_Rm_thrown hoh7 rfl rfl ⟨by decide, by decide, Nat.le_trans (show cells + 1 + 0 + 0 ≤ 601024 by omega) (by decide), Nat.le_trans (show slots + 6 + 0 + 0 ≤ 7293034 by omega) (by decide)⟩ rfl rfl (Nat.le_of_ble_eq_true rfl) d_La_law_583 ?_
  refine g_iload C 1 rfl d_La_law_586 ?_
  refine g_icmp_eq (tgt := 593) C d_La_law_588 (by decide) (fun z => ?_) (fun z => ?_)
  · have hr := of_if z hr
    refine g_iload C 1 rfl d_La_law_593 ?_
    refine g_if_ne (tgt := 610) C d_La_law_595 (by decide) (fun z => ?_) (fun z => ?_)
    · have hr := of_el z hr
      refine g_goto (tgt := 638) C d_La_law_610 (by decide) ?_
      cases hr
      refine g_lv [2, 3, 4, 5, 6] rfl ?_
      refine g_widen (k := cells + bu.1) (n := slots + bu.2) (show cells + 1 + 0 + 0 ≤ cells + bu.1 by omega) (show slots + 6 + 0 + 0 ≤ slots + bu.2 by omega) ?_
      exact kk
    · have hr := of_if z hr
      refine g_aload_n C 4 rfl d_La_law_598 rfl ?_
      refine g_iconst (v := 0) C d_La_law_599 (by decide) ?_
      obtain ⟨v9, ev9, hr⟩ := of_bnd hr
      refine g_laload C ev9 d_La_law_600 ?_
      refine g_iload C 0 rfl d_La_law_601 ?_
      refine g_i2l C d_La_law_603 ?_
      refine g_lcmp C d_La_law_604 ?_
      refine g_if_eq (tgt := 610) C d_La_law_605 (by decide) (fun z => ?_) (fun z => ?_)
      · have hr := of_if z hr
        refine g_goto (tgt := 638) C d_La_law_610 (by decide) ?_
        cases hr
        refine g_lv [2, 3, 4, 5, 6] rfl ?_
        refine g_widen (k := cells + bu.1) (n := slots + bu.2) (show cells + 1 + 0 + 0 ≤ cells + bu.1 by omega) (show slots + 6 + 0 + 0 ≤ slots + bu.2 by omega) ?_
        exact kk
      · have hr := of_el z hr
        refine g_iconst (v := 0) C d_La_law_608 (by decide) ?_
        cases hr
  · have hr := of_el z hr
    refine g_iconst (v := 0) C d_La_law_591 (by decide) ?_
    cases hr
def I_La_10 (L : Nat) (xs : Nat → Int32) (bu : Nat × Nat) (h : HP) (a1 a2 a3 : Nat) (a4 : Int32) : Option HP :=
  bnd (sdI L xs (a4 + 1)) fun v1 =>
  ob h a1 7 (
  bnd2 (P_PK_count h a1 v1) fun v3 h2 =>
  bnd (sdI L xs (a4 + 1)) fun v4 =>
  ob h2 a2 8 (
  bnd2 (P_Rm_count h2 a2 v4) fun v6 h5 =>
  if v3 = v6 then
  some h5
  else
  none))
set_option maxHeartbeats 4000000 in
set_option maxRecDepth 100000 in
theorem i_La_10 {l : Launch} (htr : l.stackTraces = false) {x : CX} (C : EV x b_La_law "PrimeKeysLaw" 7 rm_La_law) (hXW : XW x.2.2.1.2.2.1 x.1.2.2.2.2) {L : Nat} {xs : Nat → Int32} (hX : SX x L xs) (hl0 : x.1.2.1 = l) {bu : Nat × Nat} {cells slots : Nat} (hb1 : 1 ≤ bu.1) (hb2 : 6 ≤ bu.2) (hc : cells + bu.1 ≤ 601024) (hs : slots + bu.2 ≤ 7293034) {h h' : HP} {a1 a2 a3 : Nat} {a4 : Int32} (hr : I_La_10 L xs bu h a1 a2 a3 a4 = some h') (kk : GG x (cells + bu.1) (slots + bu.2) h' 638 [(1, .ref a1), (2, .ref a2), (3, .ref a3), (4, .int a4), (0, .retAddr 7)] []) : GG x cells slots h 613 [(1, .ref a1), (2, .ref a2), (3, .ref a3), (4, .int a4), (0, .retAddr 7)] [] := by
  unfold I_La_10 at hr
  refine g_aload_n C 0 rfl d_La_law_613 rfl ?_
  refine g_aload_nT C 4 rfl d_La_law_614 rfl ?_
  refine g_iload C 3 rfl d_La_law_615 ?_
  refine g_iconst (v := 1) C d_La_law_617 (by decide) ?_
  refine g_iadd C d_La_law_618 ?_
  obtain ⟨v1, ev1, hr⟩ := of_bnd hr
  refine g_ialoadX C hX ev1 d_La_law_619 ?_
  obtain ⟨fsh2, hoh2, hr⟩ := of_ob hr
  obtain ⟨v3, h2, eh2, hr⟩ := of_bnd2 hr
  refine g_callV (pa := [.int v1]) C hl0 (c_PK_count eh2) cd_La_94 kw_in_PK_count kw_se_PK_count hoh2 rfl rfl ⟨by decide, by decide, Nat.le_trans (show cells + 0 ≤ 601024 by omega) (by decide), Nat.le_trans (show slots + 0 ≤ 7293034 by omega) (by decide)⟩ rfl rfl (Nat.le_of_ble_eq_true rfl) d_La_law_620 ?_
  refine g_aload_n C 1 rfl d_La_law_623 rfl ?_
  refine g_aload_nT C 4 rfl d_La_law_624 rfl ?_
  refine g_iload C 3 rfl d_La_law_625 ?_
  refine g_iconst (v := 1) C d_La_law_627 (by decide) ?_
  refine g_iadd C d_La_law_628 ?_
  obtain ⟨v4, ev4, hr⟩ := of_bnd hr
  refine g_ialoadX C hX ev4 d_La_law_629 ?_
  obtain ⟨fsh5, hoh5, hr⟩ := of_ob hr
  obtain ⟨v6, h5, eh5, hr⟩ := of_bnd2 hr
  refine g_callV (pa := [.int v4]) C hl0 (c_Rm_count eh5) cd_La_97 kw_in_Rm_count kw_se_Rm_count hoh5 rfl rfl ⟨by decide, by decide, Nat.le_trans (show cells + 0 + 0 ≤ 601024 by omega) (by decide), Nat.le_trans (show slots + 0 + 0 ≤ 7293034 by omega) (by decide)⟩ rfl rfl (Nat.le_of_ble_eq_true rfl) d_La_law_630 ?_
  refine g_icmp_eq (tgt := 638) C d_La_law_633 (by decide) (fun z => ?_) (fun z => ?_)
  · have hr := of_if z hr
    cases hr
    refine g_lv [0, 1, 2, 3, 4] rfl ?_
    refine g_widen (k := cells + bu.1) (n := slots + bu.2) (show cells + 0 + 0 ≤ cells + bu.1 by omega) (show slots + 0 + 0 ≤ slots + bu.2 by omega) ?_
    exact kk
  · have hr := of_el z hr
    refine g_iconst (v := 0) C d_La_law_636 (by decide) ?_
    cases hr
def IT_La (L : Nat) (xs : Nat → Int32) (bu : Nat × Nat) (h : HP) (a1 a2 a3 : Nat) (a4 : Int32) : Option HP :=
  bnd (sdI L xs a4) fun v1 =>
  if v1 &&& 15 = 0 then I_La_0 L xs bu h a1 a2 a3 a4 else if v1 &&& 15 = 1 then I_La_1 L xs bu h a1 a2 a3 a4 else if v1 &&& 15 = 2 then I_La_2 L xs bu h a1 a2 a3 a4 else if v1 &&& 15 = 3 then I_La_3 L xs bu h a1 a2 a3 a4 else if v1 &&& 15 = 4 then I_La_4 L xs bu h a1 a2 a3 a4 else if v1 &&& 15 = 5 then I_La_5 L xs bu h a1 a2 a3 a4 else if v1 &&& 15 = 6 then I_La_6 L xs bu h a1 a2 a3 a4 else if v1 &&& 15 = 7 then I_La_7 L xs bu h a1 a2 a3 a4 else if v1 &&& 15 = 8 then I_La_8 L xs bu h a1 a2 a3 a4 else if v1 &&& 15 = 9 then I_La_9 L xs bu h a1 a2 a3 a4 else if v1 &&& 15 = 10 then I_La_10 L xs bu h a1 a2 a3 a4 else some h
set_option maxHeartbeats 4000000 in
set_option maxRecDepth 100000 in
theorem it_La {l : Launch} (htr : l.stackTraces = false) {x : CX} (C : EV x b_La_law "PrimeKeysLaw" 7 rm_La_law) (hXW : XW x.2.2.1.2.2.1 x.1.2.2.2.2) {L : Nat} {xs : Nat → Int32} (hX : SX x L xs) (hl0 : x.1.2.1 = l) {bu : Nat × Nat} {cells slots : Nat} (hb1 : 1 ≤ bu.1) (hb2 : 6 ≤ bu.2) (hc : cells + bu.1 ≤ 601024) (hs : slots + bu.2 ≤ 7293034) {h h' : HP} {a1 a2 a3 : Nat} {a4 : Int32} (hn : ¬ Int32.ofNat L - 6 < a4) (hr : IT_La L xs bu h a1 a2 a3 a4 = some h') (kk : GG x (cells + bu.1) (slots + bu.2) h' 23 [(1, .ref a1), (2, .ref a2), (3, .ref a3), (4, .int ((a4 + Int32.ofInt 6))), (0, .retAddr 7)] []) : GG x cells slots h 23 [(1, .ref a1), (2, .ref a2), (3, .ref a3), (4, .int a4), (0, .retAddr 7)] [] := by
  unfold IT_La at hr
  have k638 : GG x (cells + bu.1) (slots + bu.2) h' 638 [(1, .ref a1), (2, .ref a2), (3, .ref a3), (4, .int a4), (0, .retAddr 7)] [] := by
    refine g_iinc (lv' := [(4, .int (a4 + Int32.ofInt 6)), (1, .ref a1), (2, .ref a2), (3, .ref a3), (0, .retAddr 7)]) C 3 rfl d_La_law_638 rfl (by decide) rfl ?_
    refine g_goto (tgt := 23) C d_La_law_641 (by decide) ?_
    refine g_lv [1, 2, 3, 0, 4] rfl ?_
    exact kk
  refine g_iload C 3 rfl d_La_law_23 ?_
  refine g_aload_nT C 4 rfl d_La_law_25 rfl ?_
  refine g_alenX C hX d_La_law_26 ?_
  refine g_bipush (v := 6) C d_La_law_27 (by decide) ?_
  refine g_isub C d_La_law_29 ?_
  refine g_icmp_gt (tgt := 644) C d_La_law_30 (by decide) (fun z => absurd z hn) (fun z => ?_)
  refine g_aload_nT C 4 rfl d_La_law_33 rfl ?_
  refine g_iload C 3 rfl d_La_law_34 ?_
  obtain ⟨v1, ev1, hr⟩ := of_bnd hr
  refine g_ialoadX C hX ev1 d_La_law_36 ?_
  refine g_bipush (v := 15) C d_La_law_37 (by decide) ?_
  refine g_iand C d_La_law_39 ?_
  by_cases z0 : v1 &&& 15 = 0
  · have hr := of_if z0 hr
    refine g_tsIn (tgt := 100) C z0 d_La_law_40 (by decide) (by decide) rfl (by decide) ?_
    exact i_La_0 htr C hXW hX hl0 hb1 hb2 hc hs hr k638
  have hr := of_el z0 hr
  by_cases z1 : v1 &&& 15 = 1
  · have hr := of_if z1 hr
    refine g_tsIn (tgt := 204) C z1 d_La_law_40 (by decide) (by decide) rfl (by decide) ?_
    exact i_La_1 htr C hXW hX hl0 hb1 hb2 hc hs hr k638
  have hr := of_el z1 hr
  by_cases z2 : v1 &&& 15 = 2
  · have hr := of_if z2 hr
    refine g_tsIn (tgt := 260) C z2 d_La_law_40 (by decide) (by decide) rfl (by decide) ?_
    exact i_La_2 htr C hXW hX hl0 hb1 hb2 hc hs hr k638
  have hr := of_el z2 hr
  by_cases z3 : v1 &&& 15 = 3
  · have hr := of_if z3 hr
    refine g_tsIn (tgt := 304) C z3 d_La_law_40 (by decide) (by decide) rfl (by decide) ?_
    exact i_La_3 htr C hXW hX hl0 hb1 hb2 hc hs hr k638
  have hr := of_el z3 hr
  by_cases z4 : v1 &&& 15 = 4
  · have hr := of_if z4 hr
    refine g_tsIn (tgt := 340) C z4 d_La_law_40 (by decide) (by decide) rfl (by decide) ?_
    exact i_La_4 htr C hXW hX hl0 hb1 hb2 hc hs hr k638
  have hr := of_el z4 hr
  by_cases z5 : v1 &&& 15 = 5
  · have hr := of_if z5 hr
    refine g_tsIn (tgt := 376) C z5 d_La_law_40 (by decide) (by decide) rfl (by decide) ?_
    exact i_La_5 htr C hXW hX hl0 hb1 hb2 hc hs hr k638
  have hr := of_el z5 hr
  by_cases z6 : v1 &&& 15 = 6
  · have hr := of_if z6 hr
    refine g_tsIn (tgt := 389) C z6 d_La_law_40 (by decide) (by decide) rfl (by decide) ?_
    exact i_La_6 htr C hXW hX hl0 hb1 hb2 hc hs hr k638
  have hr := of_el z6 hr
  by_cases z7 : v1 &&& 15 = 7
  · have hr := of_if z7 hr
    refine g_tsIn (tgt := 445) C z7 d_La_law_40 (by decide) (by decide) rfl (by decide) ?_
    exact i_La_7 htr C hXW hX hl0 hb1 hb2 hc hs hr k638
  have hr := of_el z7 hr
  by_cases z8 : v1 &&& 15 = 8
  · have hr := of_if z8 hr
    refine g_tsIn (tgt := 489) C z8 d_La_law_40 (by decide) (by decide) rfl (by decide) ?_
    exact i_La_8 htr C hXW hX hl0 hb1 hb2 hc hs hr k638
  have hr := of_el z8 hr
  by_cases z9 : v1 &&& 15 = 9
  · have hr := of_if z9 hr
    refine g_tsIn (tgt := 557) C z9 d_La_law_40 (by decide) (by decide) rfl (by decide) ?_
    exact i_La_9 htr C hXW hX hl0 hb1 hb2 hc hs hr k638
  have hr := of_el z9 hr
  by_cases z10 : v1 &&& 15 = 10
  · have hr := of_if z10 hr
    refine g_tsIn (tgt := 613) C z10 d_La_law_40 (by decide) (by decide) rfl (by decide) ?_
    exact i_La_10 htr C hXW hX hl0 hb1 hb2 hc hs hr k638
  have hr := of_el z10 hr
  refine g_tsOut (tgt := 638) C d_La_law_40 (ts_out (n := 10) (by decide) (fun k hk => ?_)) (by decide) ?_
  · match k, hk with
    | 0, _ => exact z0
    | 1, _ => exact z1
    | 2, _ => exact z2
    | 3, _ => exact z3
    | 4, _ => exact z4
    | 5, _ => exact z5
    | 6, _ => exact z6
    | 7, _ => exact z7
    | 8, _ => exact z8
    | 9, _ => exact z9
    | 10, _ => exact z10
  · cases hr
    exact g_widen (Nat.le_add_right _ _) (Nat.le_add_right _ _) k638
def LL_La (L : Nat) (xs : Nat → Int32) (a1 a2 a3 : Nat) : List (Nat × Nat) → HP → Int32 → Option Unit
  | [], _, a4 => if Int32.ofNat L - 6 < a4 then some () else none
  | bu :: bs, h, a4 => if Int32.ofNat L - 6 < a4 then some () else gd (1 ≤ bu.1 ∧ 6 ≤ bu.2) (bnd (IT_La L xs bu h a1 a2 a3 a4) fun h' => LL_La L xs a1 a2 a3 bs h' (a4 + Int32.ofInt 6))
/-- the law's end: nothing written that was there, 1 given back -/
def CL (x : CX) : Prop := x.2.1.2.2.2.1.sig.returnType = ret ∧ x.2.1.2.2.2.1.locks = false ∧ x.2.2.1.2.2.1 = (fun q => x.1.2.2.2.2.heap.size ≤ q) ∧ x.2.2.2.2.2 = lw_Z x.2.1.2.2.1 x.2.1.2.1 x.1.2.2.2.2
theorem g_lawEnd {x : CX} (C : EV x b_La_law "PrimeKeysLaw" 7 rm_La_law) (E : CL x) {cells slots : Nat} (hc : cells ≤ 601024) (hs : slots ≤ 7293034) {h : HP} {lv : List (Nat × Value)} : GG x cells slots h 644 lv [] := by
  refine g_iconst (v := 1) C d_La_law_644 (by decide) ?_
  intro ad H locs ls h1 h2 h3 h4 hP hD hS hl
  refine W.widen hc hs ?_
  show W x.1.1 x.1.2.1 x.1.2.2.1 x.1.2.2.2.1 x.1.2.2.2.2 x.2.1.1 x.2.1.2.1 x.2.1.2.2.1 x.2.1.2.2.2.1 x.2.1.2.2.2.2 H locs 601024 7293034 x.2.2.2.2.2 (F0 x.2.1.1 645 ls [.int 1])
  obtain ⟨hr, hlocks, hA, hQ⟩ := E
  rw [hQ]
  intro T hT X
  obtain ⟨fs, hret, hrun, hended, hW, hframe⟩ := X.leave (v := some (.int 1)) (hlocks := hlocks) (fun h => by rw [hr] at h; cases h)
  have hmeth' : T.vm.method? x.2.1.1 = some x.2.1.2.2.2.1 := X.method'
  refine ⟨T.setFrames fs, ?_, .returned (some (.int 1)), hrun, hended, rfl, ⟨_, rfl⟩, hW, hframe.weaken (fun y hy hlt => ?_) (Nat.le_refl _) (Nat.le_refl _)⟩
  · jvm_step X.here [X.here.top, C.hx, C.hb, d_La_law_645, hmeth', hr, ret, narrow_b1]
    (try refine ⟨rfl, ?_⟩); (try refine ⟨rfl, ?_⟩)
    first | (intro acts; rw [hret _ acts rfl rfl rfl]) | rw [hret _ _ rfl rfl rfl]
    exact Steps.refl _
  · exfalso
    have := hS.2.2 y hy
    rw [hA] at this
    exact absurd this (Nat.not_le.mpr hlt)
theorem ll_La {l : Launch} (htr : l.stackTraces = false) {x : CX} (C : EV x b_La_law "PrimeKeysLaw" 7 rm_La_law) (hXW : XW x.2.2.1.2.2.1 x.1.2.2.2.2) {L : Nat} {xs : Nat → Int32} (hX : SX x L xs) (hl0 : x.1.2.1 = l) (E : CL x) {a1 a2 a3 : Nat} : ∀ (bs : List (Nat × Nat)) (cells slots : Nat) (h : HP) (a4 : Int32), LL_La L xs a1 a2 a3 bs h a4 = some () → cells + (bs.map (fun b => b.1)).sum ≤ 601024 → slots + (bs.map (fun b => b.2)).sum ≤ 7293034 → GG x cells slots h 23 [(1, .ref a1), (2, .ref a2), (3, .ref a3), (4, .int a4), (0, .retAddr 7)] [] := by
  have fin : ∀ (cells slots : Nat) (h : HP) (a4 : Int32), cells ≤ 601024 → slots ≤ 7293034 → Int32.ofNat L - 6 < a4 → GG x cells slots h 23 [(1, .ref a1), (2, .ref a2), (3, .ref a3), (4, .int a4), (0, .retAddr 7)] [] := by
    intro cells slots h a4 hc hs z
    refine g_iload C 3 rfl d_La_law_23 ?_
    refine g_aload_nT C 4 rfl d_La_law_25 rfl ?_
    refine g_alenX C hX d_La_law_26 ?_
    refine g_bipush (v := 6) C d_La_law_27 (by decide) ?_
    refine g_isub C d_La_law_29 ?_
    exact g_icmp_gt (tgt := 644) C d_La_law_30 (by decide) (fun _ => g_lawEnd C E hc hs) (fun z' => absurd z z')
  intro bs
  induction bs with
  | nil =>
    intro cells slots h a4 hr hc hs
    unfold LL_La at hr
    split at hr
    · rename_i z
      exact fin cells slots h a4 (by simpa using hc) (by simpa using hs) z
    · cases hr
  | cons bu bs ih =>
    intro cells slots h a4 hr hc hs
    unfold LL_La at hr
    simp only [List.map_cons, List.sum_cons] at hc hs
    split at hr
    · rename_i z
      exact fin cells slots h a4 (by omega) (by omega) z
    · rename_i z
      obtain ⟨⟨hb1, hb2⟩, hr⟩ := of_gd hr
      obtain ⟨h1, eh1, hr⟩ := of_bnd hr
      exact it_La htr C hXW hX hl0 hb1 hb2 (by omega) (by omega) z eh1 (ih _ _ h1 _ hr (by omega) (by omega))
