theorem g_newBE2 {x : CX} {cc : ByteArray} {own : String} {N : Nat} {rm : Room} {cells slots pc : Nat} {h h' : HP} {lv : List (Nat × Value)} {st : List Value} (C : EV x cc own N rm) {n : Int32} {n' k : Nat} (eh : h' = h ++ [pB n' (fun _ => 0)]) (ek : k = h.length) (hn : ¬ n < 0) (hN : n.toNatClampNeg = n') (hb : n' ≤ 536870912) (hc1 : cells + 1 ≤ rm.cells) (hs1 : slots + n' ≤ rm.slots) (d : decode cc pc = .ok (.newarray .byte, 2)) (kk : GG x (cells + 1) (slots + n') h' (pc + 2) lv (.ref k :: st)) : GG x cells slots h pc lv (.int n :: st) := by
  subst eh; subst ek
  intro ad H locs ls h1 h2 h3 h4 hP hD hS hl
  refine va_newa (a0 := (n', .inl (fun _ => 0))) (atype := .byte) (ty := .byte) C.hx C.hb (C.ht _ kw_cb) rfl C.hK hP hD hS C.hA (fun _ => rfl) hn hN (by show n' * 1 ≤ _; omega) (by rw [C.hR]; exact hc1) (by rw [C.hR]; exact hs1) d (fun q cA H1 hK1 hP1 hD1 hS1 => ?_)
  have et := ar_tag C (t := 0) (Or.inl rfl) rfl hK1
  subst et
  exact g_push (c := pB n' (fun _ => 0)) h1 (wfs_t h2) h3 h4 trivial hP1 hD1 hS1 hl kk
abbrev b_Rm_new : ByteArray := prog_12_method_1_code
abbrev y_Rm_new : MethodName := ⟨"PrimeKeysModel", "<init>", "()V"⟩
theorem d_Rm_new_0 : decode b_Rm_new 0 = .ok (.aload_n 0, 1) := by decide +kernel
theorem d_Rm_new_1 : decode b_Rm_new 1 = .ok (.invokespecial 1, 3) := by decide +kernel
theorem d_Rm_new_4 : decode b_Rm_new 4 = .ok (.aload_n 0, 1) := by decide +kernel
theorem d_Rm_new_5 : decode b_Rm_new 5 = .ok (.ldc 7, 2) := by decide +kernel
theorem d_Rm_new_7 : decode b_Rm_new 7 = .ok (.newarray .byte, 2) := by decide +kernel
theorem d_Rm_new_9 : decode b_Rm_new 9 = .ok (.putfield 8, 3) := by decide +kernel
theorem d_Rm_new_12 : decode b_Rm_new 12 = .ok (.aload_n 0, 1) := by decide +kernel
theorem d_Rm_new_13 : decode b_Rm_new 13 = .ok (.ldc 7, 2) := by decide +kernel
theorem d_Rm_new_15 : decode b_Rm_new 15 = .ok (.newarray .byte, 2) := by decide +kernel
theorem d_Rm_new_17 : decode b_Rm_new 17 = .ok (.putfield 14, 3) := by decide +kernel
theorem d_Rm_new_20 : decode b_Rm_new 20 = .ok (.aload_n 0, 1) := by decide +kernel
theorem d_Rm_new_21 : decode b_Rm_new 21 = .ok (.bipush 80, 2) := by decide +kernel
theorem d_Rm_new_23 : decode b_Rm_new 23 = .ok (.newarray .byte, 2) := by decide +kernel
theorem d_Rm_new_25 : decode b_Rm_new 25 = .ok (.putfield 17, 3) := by decide +kernel
theorem d_Rm_new_28 : decode b_Rm_new 28 = .ok (.aload_n 0, 1) := by decide +kernel
theorem d_Rm_new_29 : decode b_Rm_new 29 = .ok (.sipush 3200, 3) := by decide +kernel
theorem d_Rm_new_32 : decode b_Rm_new 32 = .ok (.newarray .byte, 2) := by decide +kernel
theorem d_Rm_new_34 : decode b_Rm_new 34 = .ok (.putfield 20, 3) := by decide +kernel
theorem d_Rm_new_37 : decode b_Rm_new 37 = .ok (.aload_n 0, 1) := by decide +kernel
theorem d_Rm_new_38 : decode b_Rm_new 38 = .ok (.bipush 6, 2) := by decide +kernel
theorem d_Rm_new_40 : decode b_Rm_new 40 = .ok (.newarray .int, 2) := by decide +kernel
theorem d_Rm_new_42 : decode b_Rm_new 42 = .ok (.putfield 23, 3) := by decide +kernel
theorem d_Rm_new_45 : decode b_Rm_new 45 = .ok (.aload_n 0, 1) := by decide +kernel
theorem d_Rm_new_46 : decode b_Rm_new 46 = .ok (.bipush 16, 2) := by decide +kernel
theorem d_Rm_new_48 : decode b_Rm_new 48 = .ok (.newarray .long, 2) := by decide +kernel
theorem d_Rm_new_50 : decode b_Rm_new 50 = .ok (.dup, 1) := by decide +kernel
theorem d_Rm_new_51 : decode b_Rm_new 51 = .ok (.iconst 0, 1) := by decide +kernel
theorem d_Rm_new_52 : decode b_Rm_new 52 = .ok (.ldc2_w 27, 3) := by decide +kernel
theorem d_Rm_new_55 : decode b_Rm_new 55 = .ok (.lastore, 1) := by decide +kernel
theorem d_Rm_new_56 : decode b_Rm_new 56 = .ok (.dup, 1) := by decide +kernel
theorem d_Rm_new_57 : decode b_Rm_new 57 = .ok (.iconst 1, 1) := by decide +kernel
theorem d_Rm_new_58 : decode b_Rm_new 58 = .ok (.ldc2_w 27, 3) := by decide +kernel
theorem d_Rm_new_61 : decode b_Rm_new 61 = .ok (.lastore, 1) := by decide +kernel
theorem d_Rm_new_62 : decode b_Rm_new 62 = .ok (.dup, 1) := by decide +kernel
theorem d_Rm_new_63 : decode b_Rm_new 63 = .ok (.iconst 2, 1) := by decide +kernel
theorem d_Rm_new_64 : decode b_Rm_new 64 = .ok (.ldc2_w 27, 3) := by decide +kernel
theorem d_Rm_new_67 : decode b_Rm_new 67 = .ok (.lastore, 1) := by decide +kernel
theorem d_Rm_new_68 : decode b_Rm_new 68 = .ok (.dup, 1) := by decide +kernel
theorem d_Rm_new_69 : decode b_Rm_new 69 = .ok (.iconst 3, 1) := by decide +kernel
theorem d_Rm_new_70 : decode b_Rm_new 70 = .ok (.ldc2_w 27, 3) := by decide +kernel
theorem d_Rm_new_73 : decode b_Rm_new 73 = .ok (.lastore, 1) := by decide +kernel
theorem d_Rm_new_74 : decode b_Rm_new 74 = .ok (.dup, 1) := by decide +kernel
theorem d_Rm_new_75 : decode b_Rm_new 75 = .ok (.iconst 4, 1) := by decide +kernel
theorem d_Rm_new_76 : decode b_Rm_new 76 = .ok (.ldc2_w 27, 3) := by decide +kernel
theorem d_Rm_new_79 : decode b_Rm_new 79 = .ok (.lastore, 1) := by decide +kernel
theorem d_Rm_new_80 : decode b_Rm_new 80 = .ok (.dup, 1) := by decide +kernel
theorem d_Rm_new_81 : decode b_Rm_new 81 = .ok (.iconst 5, 1) := by decide +kernel
theorem d_Rm_new_82 : decode b_Rm_new 82 = .ok (.ldc2_w 27, 3) := by decide +kernel
theorem d_Rm_new_85 : decode b_Rm_new 85 = .ok (.lastore, 1) := by decide +kernel
theorem d_Rm_new_86 : decode b_Rm_new 86 = .ok (.dup, 1) := by decide +kernel
theorem d_Rm_new_87 : decode b_Rm_new 87 = .ok (.bipush 6, 2) := by decide +kernel
theorem d_Rm_new_89 : decode b_Rm_new 89 = .ok (.lconst 0, 1) := by decide +kernel
theorem d_Rm_new_90 : decode b_Rm_new 90 = .ok (.lastore, 1) := by decide +kernel
theorem d_Rm_new_91 : decode b_Rm_new 91 = .ok (.dup, 1) := by decide +kernel
theorem d_Rm_new_92 : decode b_Rm_new 92 = .ok (.bipush 7, 2) := by decide +kernel
theorem d_Rm_new_94 : decode b_Rm_new 94 = .ok (.lconst 0, 1) := by decide +kernel
theorem d_Rm_new_95 : decode b_Rm_new 95 = .ok (.lastore, 1) := by decide +kernel
theorem d_Rm_new_96 : decode b_Rm_new 96 = .ok (.dup, 1) := by decide +kernel
theorem d_Rm_new_97 : decode b_Rm_new 97 = .ok (.bipush 8, 2) := by decide +kernel
theorem d_Rm_new_99 : decode b_Rm_new 99 = .ok (.lconst 0, 1) := by decide +kernel
theorem d_Rm_new_100 : decode b_Rm_new 100 = .ok (.lastore, 1) := by decide +kernel
theorem d_Rm_new_101 : decode b_Rm_new 101 = .ok (.dup, 1) := by decide +kernel
theorem d_Rm_new_102 : decode b_Rm_new 102 = .ok (.bipush 9, 2) := by decide +kernel
theorem d_Rm_new_104 : decode b_Rm_new 104 = .ok (.lconst 0, 1) := by decide +kernel
theorem d_Rm_new_105 : decode b_Rm_new 105 = .ok (.lastore, 1) := by decide +kernel
theorem d_Rm_new_106 : decode b_Rm_new 106 = .ok (.dup, 1) := by decide +kernel
theorem d_Rm_new_107 : decode b_Rm_new 107 = .ok (.bipush 10, 2) := by decide +kernel
theorem d_Rm_new_109 : decode b_Rm_new 109 = .ok (.lconst 0, 1) := by decide +kernel
theorem d_Rm_new_110 : decode b_Rm_new 110 = .ok (.lastore, 1) := by decide +kernel
theorem d_Rm_new_111 : decode b_Rm_new 111 = .ok (.dup, 1) := by decide +kernel
theorem d_Rm_new_112 : decode b_Rm_new 112 = .ok (.bipush 11, 2) := by decide +kernel
theorem d_Rm_new_114 : decode b_Rm_new 114 = .ok (.lconst 0, 1) := by decide +kernel
theorem d_Rm_new_115 : decode b_Rm_new 115 = .ok (.lastore, 1) := by decide +kernel
theorem d_Rm_new_116 : decode b_Rm_new 116 = .ok (.dup, 1) := by decide +kernel
theorem d_Rm_new_117 : decode b_Rm_new 117 = .ok (.bipush 12, 2) := by decide +kernel
theorem d_Rm_new_119 : decode b_Rm_new 119 = .ok (.lconst 1, 1) := by decide +kernel
theorem d_Rm_new_120 : decode b_Rm_new 120 = .ok (.lastore, 1) := by decide +kernel
theorem d_Rm_new_121 : decode b_Rm_new 121 = .ok (.dup, 1) := by decide +kernel
theorem d_Rm_new_122 : decode b_Rm_new 122 = .ok (.bipush 13, 2) := by decide +kernel
theorem d_Rm_new_124 : decode b_Rm_new 124 = .ok (.lconst 0, 1) := by decide +kernel
theorem d_Rm_new_125 : decode b_Rm_new 125 = .ok (.lastore, 1) := by decide +kernel
theorem d_Rm_new_126 : decode b_Rm_new 126 = .ok (.dup, 1) := by decide +kernel
theorem d_Rm_new_127 : decode b_Rm_new 127 = .ok (.bipush 14, 2) := by decide +kernel
theorem d_Rm_new_129 : decode b_Rm_new 129 = .ok (.ldc2_w 27, 3) := by decide +kernel
theorem d_Rm_new_132 : decode b_Rm_new 132 = .ok (.lastore, 1) := by decide +kernel
theorem d_Rm_new_133 : decode b_Rm_new 133 = .ok (.dup, 1) := by decide +kernel
theorem d_Rm_new_134 : decode b_Rm_new 134 = .ok (.bipush 15, 2) := by decide +kernel
theorem d_Rm_new_136 : decode b_Rm_new 136 = .ok (.ldc2_w 27, 3) := by decide +kernel
theorem d_Rm_new_139 : decode b_Rm_new 139 = .ok (.lastore, 1) := by decide +kernel
theorem d_Rm_new_140 : decode b_Rm_new 140 = .ok (.putfield 29, 3) := by decide +kernel
theorem d_Rm_new_143 : decode b_Rm_new 143 = .ok (.aload_n 0, 1) := by decide +kernel
theorem d_Rm_new_144 : decode b_Rm_new 144 = .ok (.bipush 16, 2) := by decide +kernel
theorem d_Rm_new_146 : decode b_Rm_new 146 = .ok (.newarray .long, 2) := by decide +kernel
theorem d_Rm_new_148 : decode b_Rm_new 148 = .ok (.dup, 1) := by decide +kernel
theorem d_Rm_new_149 : decode b_Rm_new 149 = .ok (.iconst 0, 1) := by decide +kernel
theorem d_Rm_new_150 : decode b_Rm_new 150 = .ok (.ldc2_w 33, 3) := by decide +kernel
theorem d_Rm_new_153 : decode b_Rm_new 153 = .ok (.lastore, 1) := by decide +kernel
theorem d_Rm_new_154 : decode b_Rm_new 154 = .ok (.dup, 1) := by decide +kernel
theorem d_Rm_new_155 : decode b_Rm_new 155 = .ok (.iconst 1, 1) := by decide +kernel
theorem d_Rm_new_156 : decode b_Rm_new 156 = .ok (.ldc2_w 35, 3) := by decide +kernel
theorem d_Rm_new_159 : decode b_Rm_new 159 = .ok (.lastore, 1) := by decide +kernel
theorem d_Rm_new_160 : decode b_Rm_new 160 = .ok (.dup, 1) := by decide +kernel
theorem d_Rm_new_161 : decode b_Rm_new 161 = .ok (.iconst 2, 1) := by decide +kernel
theorem d_Rm_new_162 : decode b_Rm_new 162 = .ok (.ldc2_w 37, 3) := by decide +kernel
theorem d_Rm_new_165 : decode b_Rm_new 165 = .ok (.lastore, 1) := by decide +kernel
theorem d_Rm_new_166 : decode b_Rm_new 166 = .ok (.dup, 1) := by decide +kernel
theorem d_Rm_new_167 : decode b_Rm_new 167 = .ok (.iconst 3, 1) := by decide +kernel
theorem d_Rm_new_168 : decode b_Rm_new 168 = .ok (.ldc2_w 39, 3) := by decide +kernel
theorem d_Rm_new_171 : decode b_Rm_new 171 = .ok (.lastore, 1) := by decide +kernel
theorem d_Rm_new_172 : decode b_Rm_new 172 = .ok (.dup, 1) := by decide +kernel
theorem d_Rm_new_173 : decode b_Rm_new 173 = .ok (.iconst 4, 1) := by decide +kernel
theorem d_Rm_new_174 : decode b_Rm_new 174 = .ok (.ldc2_w 41, 3) := by decide +kernel
theorem d_Rm_new_177 : decode b_Rm_new 177 = .ok (.lastore, 1) := by decide +kernel
theorem d_Rm_new_178 : decode b_Rm_new 178 = .ok (.dup, 1) := by decide +kernel
theorem d_Rm_new_179 : decode b_Rm_new 179 = .ok (.iconst 5, 1) := by decide +kernel
theorem d_Rm_new_180 : decode b_Rm_new 180 = .ok (.ldc2_w 43, 3) := by decide +kernel
theorem d_Rm_new_183 : decode b_Rm_new 183 = .ok (.lastore, 1) := by decide +kernel
theorem d_Rm_new_184 : decode b_Rm_new 184 = .ok (.dup, 1) := by decide +kernel
theorem d_Rm_new_185 : decode b_Rm_new 185 = .ok (.bipush 6, 2) := by decide +kernel
theorem d_Rm_new_187 : decode b_Rm_new 187 = .ok (.ldc2_w 45, 3) := by decide +kernel
theorem d_Rm_new_190 : decode b_Rm_new 190 = .ok (.lastore, 1) := by decide +kernel
theorem d_Rm_new_191 : decode b_Rm_new 191 = .ok (.dup, 1) := by decide +kernel
theorem d_Rm_new_192 : decode b_Rm_new 192 = .ok (.bipush 7, 2) := by decide +kernel
theorem d_Rm_new_194 : decode b_Rm_new 194 = .ok (.ldc2_w 47, 3) := by decide +kernel
theorem d_Rm_new_197 : decode b_Rm_new 197 = .ok (.lastore, 1) := by decide +kernel
theorem d_Rm_new_198 : decode b_Rm_new 198 = .ok (.dup, 1) := by decide +kernel
theorem d_Rm_new_199 : decode b_Rm_new 199 = .ok (.bipush 8, 2) := by decide +kernel
theorem d_Rm_new_201 : decode b_Rm_new 201 = .ok (.ldc2_w 27, 3) := by decide +kernel
theorem d_Rm_new_204 : decode b_Rm_new 204 = .ok (.lastore, 1) := by decide +kernel
theorem d_Rm_new_205 : decode b_Rm_new 205 = .ok (.dup, 1) := by decide +kernel
theorem d_Rm_new_206 : decode b_Rm_new 206 = .ok (.bipush 9, 2) := by decide +kernel
theorem d_Rm_new_208 : decode b_Rm_new 208 = .ok (.ldc2_w 27, 3) := by decide +kernel
theorem d_Rm_new_211 : decode b_Rm_new 211 = .ok (.lastore, 1) := by decide +kernel
theorem d_Rm_new_212 : decode b_Rm_new 212 = .ok (.dup, 1) := by decide +kernel
theorem d_Rm_new_213 : decode b_Rm_new 213 = .ok (.bipush 10, 2) := by decide +kernel
theorem d_Rm_new_215 : decode b_Rm_new 215 = .ok (.ldc2_w 27, 3) := by decide +kernel
theorem d_Rm_new_218 : decode b_Rm_new 218 = .ok (.lastore, 1) := by decide +kernel
theorem d_Rm_new_219 : decode b_Rm_new 219 = .ok (.dup, 1) := by decide +kernel
theorem d_Rm_new_220 : decode b_Rm_new 220 = .ok (.bipush 11, 2) := by decide +kernel
theorem d_Rm_new_222 : decode b_Rm_new 222 = .ok (.ldc2_w 27, 3) := by decide +kernel
theorem d_Rm_new_225 : decode b_Rm_new 225 = .ok (.lastore, 1) := by decide +kernel
theorem d_Rm_new_226 : decode b_Rm_new 226 = .ok (.dup, 1) := by decide +kernel
theorem d_Rm_new_227 : decode b_Rm_new 227 = .ok (.bipush 12, 2) := by decide +kernel
theorem d_Rm_new_229 : decode b_Rm_new 229 = .ok (.lconst 0, 1) := by decide +kernel
theorem d_Rm_new_230 : decode b_Rm_new 230 = .ok (.lastore, 1) := by decide +kernel
theorem d_Rm_new_231 : decode b_Rm_new 231 = .ok (.dup, 1) := by decide +kernel
theorem d_Rm_new_232 : decode b_Rm_new 232 = .ok (.bipush 13, 2) := by decide +kernel
theorem d_Rm_new_234 : decode b_Rm_new 234 = .ok (.lconst 0, 1) := by decide +kernel
theorem d_Rm_new_235 : decode b_Rm_new 235 = .ok (.lastore, 1) := by decide +kernel
theorem d_Rm_new_236 : decode b_Rm_new 236 = .ok (.dup, 1) := by decide +kernel
theorem d_Rm_new_237 : decode b_Rm_new 237 = .ok (.bipush 14, 2) := by decide +kernel
theorem d_Rm_new_239 : decode b_Rm_new 239 = .ok (.ldc2_w 27, 3) := by decide +kernel
theorem d_Rm_new_242 : decode b_Rm_new 242 = .ok (.lastore, 1) := by decide +kernel
theorem d_Rm_new_243 : decode b_Rm_new 243 = .ok (.dup, 1) := by decide +kernel
theorem d_Rm_new_244 : decode b_Rm_new 244 = .ok (.bipush 15, 2) := by decide +kernel
theorem d_Rm_new_246 : decode b_Rm_new 246 = .ok (.ldc2_w 27, 3) := by decide +kernel
theorem d_Rm_new_249 : decode b_Rm_new 249 = .ok (.lastore, 1) := by decide +kernel
theorem d_Rm_new_250 : decode b_Rm_new 250 = .ok (.putfield 49, 3) := by decide +kernel
theorem d_Rm_new_253 : decode b_Rm_new 253 = .ok (.aload_n 0, 1) := by decide +kernel
theorem d_Rm_new_254 : decode b_Rm_new 254 = .ok (.bipush 16, 2) := by decide +kernel
theorem d_Rm_new_256 : decode b_Rm_new 256 = .ok (.newarray .long, 2) := by decide +kernel
theorem d_Rm_new_258 : decode b_Rm_new 258 = .ok (.dup, 1) := by decide +kernel
theorem d_Rm_new_259 : decode b_Rm_new 259 = .ok (.iconst 0, 1) := by decide +kernel
theorem d_Rm_new_260 : decode b_Rm_new 260 = .ok (.ldc2_w 52, 3) := by decide +kernel
theorem d_Rm_new_263 : decode b_Rm_new 263 = .ok (.lastore, 1) := by decide +kernel
theorem d_Rm_new_264 : decode b_Rm_new 264 = .ok (.dup, 1) := by decide +kernel
theorem d_Rm_new_265 : decode b_Rm_new 265 = .ok (.iconst 1, 1) := by decide +kernel
theorem d_Rm_new_266 : decode b_Rm_new 266 = .ok (.ldc2_w 54, 3) := by decide +kernel
theorem d_Rm_new_269 : decode b_Rm_new 269 = .ok (.lastore, 1) := by decide +kernel
theorem d_Rm_new_270 : decode b_Rm_new 270 = .ok (.dup, 1) := by decide +kernel
theorem d_Rm_new_271 : decode b_Rm_new 271 = .ok (.iconst 2, 1) := by decide +kernel
theorem d_Rm_new_272 : decode b_Rm_new 272 = .ok (.ldc2_w 56, 3) := by decide +kernel
theorem d_Rm_new_275 : decode b_Rm_new 275 = .ok (.lastore, 1) := by decide +kernel
theorem d_Rm_new_276 : decode b_Rm_new 276 = .ok (.dup, 1) := by decide +kernel
theorem d_Rm_new_277 : decode b_Rm_new 277 = .ok (.iconst 3, 1) := by decide +kernel
theorem d_Rm_new_278 : decode b_Rm_new 278 = .ok (.ldc2_w 58, 3) := by decide +kernel
theorem d_Rm_new_281 : decode b_Rm_new 281 = .ok (.lastore, 1) := by decide +kernel
theorem d_Rm_new_282 : decode b_Rm_new 282 = .ok (.dup, 1) := by decide +kernel
theorem d_Rm_new_283 : decode b_Rm_new 283 = .ok (.iconst 4, 1) := by decide +kernel
theorem d_Rm_new_284 : decode b_Rm_new 284 = .ok (.ldc2_w 60, 3) := by decide +kernel
theorem d_Rm_new_287 : decode b_Rm_new 287 = .ok (.lastore, 1) := by decide +kernel
theorem d_Rm_new_288 : decode b_Rm_new 288 = .ok (.dup, 1) := by decide +kernel
theorem d_Rm_new_289 : decode b_Rm_new 289 = .ok (.iconst 5, 1) := by decide +kernel
theorem d_Rm_new_290 : decode b_Rm_new 290 = .ok (.ldc2_w 62, 3) := by decide +kernel
theorem d_Rm_new_293 : decode b_Rm_new 293 = .ok (.lastore, 1) := by decide +kernel
theorem d_Rm_new_294 : decode b_Rm_new 294 = .ok (.dup, 1) := by decide +kernel
theorem d_Rm_new_295 : decode b_Rm_new 295 = .ok (.bipush 6, 2) := by decide +kernel
theorem d_Rm_new_297 : decode b_Rm_new 297 = .ok (.ldc2_w 64, 3) := by decide +kernel
theorem d_Rm_new_300 : decode b_Rm_new 300 = .ok (.lastore, 1) := by decide +kernel
theorem d_Rm_new_301 : decode b_Rm_new 301 = .ok (.dup, 1) := by decide +kernel
theorem d_Rm_new_302 : decode b_Rm_new 302 = .ok (.bipush 7, 2) := by decide +kernel
theorem d_Rm_new_304 : decode b_Rm_new 304 = .ok (.ldc2_w 66, 3) := by decide +kernel
theorem d_Rm_new_307 : decode b_Rm_new 307 = .ok (.lastore, 1) := by decide +kernel
theorem d_Rm_new_308 : decode b_Rm_new 308 = .ok (.dup, 1) := by decide +kernel
theorem d_Rm_new_309 : decode b_Rm_new 309 = .ok (.bipush 8, 2) := by decide +kernel
theorem d_Rm_new_311 : decode b_Rm_new 311 = .ok (.ldc2_w 68, 3) := by decide +kernel
theorem d_Rm_new_314 : decode b_Rm_new 314 = .ok (.lastore, 1) := by decide +kernel
theorem d_Rm_new_315 : decode b_Rm_new 315 = .ok (.dup, 1) := by decide +kernel
theorem d_Rm_new_316 : decode b_Rm_new 316 = .ok (.bipush 9, 2) := by decide +kernel
theorem d_Rm_new_318 : decode b_Rm_new 318 = .ok (.ldc2_w 70, 3) := by decide +kernel
theorem d_Rm_new_321 : decode b_Rm_new 321 = .ok (.lastore, 1) := by decide +kernel
theorem d_Rm_new_322 : decode b_Rm_new 322 = .ok (.dup, 1) := by decide +kernel
theorem d_Rm_new_323 : decode b_Rm_new 323 = .ok (.bipush 10, 2) := by decide +kernel
theorem d_Rm_new_325 : decode b_Rm_new 325 = .ok (.ldc2_w 72, 3) := by decide +kernel
theorem d_Rm_new_328 : decode b_Rm_new 328 = .ok (.lastore, 1) := by decide +kernel
theorem d_Rm_new_329 : decode b_Rm_new 329 = .ok (.dup, 1) := by decide +kernel
theorem d_Rm_new_330 : decode b_Rm_new 330 = .ok (.bipush 11, 2) := by decide +kernel
theorem d_Rm_new_332 : decode b_Rm_new 332 = .ok (.ldc2_w 74, 3) := by decide +kernel
theorem d_Rm_new_335 : decode b_Rm_new 335 = .ok (.lastore, 1) := by decide +kernel
theorem d_Rm_new_336 : decode b_Rm_new 336 = .ok (.dup, 1) := by decide +kernel
theorem d_Rm_new_337 : decode b_Rm_new 337 = .ok (.bipush 12, 2) := by decide +kernel
theorem d_Rm_new_339 : decode b_Rm_new 339 = .ok (.ldc2_w 76, 3) := by decide +kernel
theorem d_Rm_new_342 : decode b_Rm_new 342 = .ok (.lastore, 1) := by decide +kernel
theorem d_Rm_new_343 : decode b_Rm_new 343 = .ok (.dup, 1) := by decide +kernel
theorem d_Rm_new_344 : decode b_Rm_new 344 = .ok (.bipush 13, 2) := by decide +kernel
theorem d_Rm_new_346 : decode b_Rm_new 346 = .ok (.ldc2_w 78, 3) := by decide +kernel
theorem d_Rm_new_349 : decode b_Rm_new 349 = .ok (.lastore, 1) := by decide +kernel
theorem d_Rm_new_350 : decode b_Rm_new 350 = .ok (.dup, 1) := by decide +kernel
theorem d_Rm_new_351 : decode b_Rm_new 351 = .ok (.bipush 14, 2) := by decide +kernel
theorem d_Rm_new_353 : decode b_Rm_new 353 = .ok (.ldc2_w 80, 3) := by decide +kernel
theorem d_Rm_new_356 : decode b_Rm_new 356 = .ok (.lastore, 1) := by decide +kernel
theorem d_Rm_new_357 : decode b_Rm_new 357 = .ok (.dup, 1) := by decide +kernel
theorem d_Rm_new_358 : decode b_Rm_new 358 = .ok (.bipush 15, 2) := by decide +kernel
theorem d_Rm_new_360 : decode b_Rm_new 360 = .ok (.ldc2_w 82, 3) := by decide +kernel
theorem d_Rm_new_363 : decode b_Rm_new 363 = .ok (.lastore, 1) := by decide +kernel
theorem d_Rm_new_364 : decode b_Rm_new 364 = .ok (.putfield 84, 3) := by decide +kernel
theorem d_Rm_new_367 : decode b_Rm_new 367 = .ok (.aload_n 0, 1) := by decide +kernel
theorem d_Rm_new_368 : decode b_Rm_new 368 = .ok (.bipush 16, 2) := by decide +kernel
theorem d_Rm_new_370 : decode b_Rm_new 370 = .ok (.newarray .long, 2) := by decide +kernel
theorem d_Rm_new_372 : decode b_Rm_new 372 = .ok (.dup, 1) := by decide +kernel
theorem d_Rm_new_373 : decode b_Rm_new 373 = .ok (.iconst 0, 1) := by decide +kernel
theorem d_Rm_new_374 : decode b_Rm_new 374 = .ok (.ldc2_w 87, 3) := by decide +kernel
theorem d_Rm_new_377 : decode b_Rm_new 377 = .ok (.lastore, 1) := by decide +kernel
theorem d_Rm_new_378 : decode b_Rm_new 378 = .ok (.dup, 1) := by decide +kernel
theorem d_Rm_new_379 : decode b_Rm_new 379 = .ok (.iconst 1, 1) := by decide +kernel
theorem d_Rm_new_380 : decode b_Rm_new 380 = .ok (.ldc2_w 89, 3) := by decide +kernel
theorem d_Rm_new_383 : decode b_Rm_new 383 = .ok (.lastore, 1) := by decide +kernel
theorem d_Rm_new_384 : decode b_Rm_new 384 = .ok (.dup, 1) := by decide +kernel
theorem d_Rm_new_385 : decode b_Rm_new 385 = .ok (.iconst 2, 1) := by decide +kernel
theorem d_Rm_new_386 : decode b_Rm_new 386 = .ok (.ldc2_w 91, 3) := by decide +kernel
theorem d_Rm_new_389 : decode b_Rm_new 389 = .ok (.lastore, 1) := by decide +kernel
theorem d_Rm_new_390 : decode b_Rm_new 390 = .ok (.dup, 1) := by decide +kernel
theorem d_Rm_new_391 : decode b_Rm_new 391 = .ok (.iconst 3, 1) := by decide +kernel
theorem d_Rm_new_392 : decode b_Rm_new 392 = .ok (.ldc2_w 93, 3) := by decide +kernel
theorem d_Rm_new_395 : decode b_Rm_new 395 = .ok (.lastore, 1) := by decide +kernel
theorem d_Rm_new_396 : decode b_Rm_new 396 = .ok (.dup, 1) := by decide +kernel
theorem d_Rm_new_397 : decode b_Rm_new 397 = .ok (.iconst 4, 1) := by decide +kernel
theorem d_Rm_new_398 : decode b_Rm_new 398 = .ok (.ldc2_w 95, 3) := by decide +kernel
theorem d_Rm_new_401 : decode b_Rm_new 401 = .ok (.lastore, 1) := by decide +kernel
theorem d_Rm_new_402 : decode b_Rm_new 402 = .ok (.dup, 1) := by decide +kernel
theorem d_Rm_new_403 : decode b_Rm_new 403 = .ok (.iconst 5, 1) := by decide +kernel
theorem d_Rm_new_404 : decode b_Rm_new 404 = .ok (.ldc2_w 97, 3) := by decide +kernel
theorem d_Rm_new_407 : decode b_Rm_new 407 = .ok (.lastore, 1) := by decide +kernel
theorem d_Rm_new_408 : decode b_Rm_new 408 = .ok (.dup, 1) := by decide +kernel
theorem d_Rm_new_409 : decode b_Rm_new 409 = .ok (.bipush 6, 2) := by decide +kernel
theorem d_Rm_new_411 : decode b_Rm_new 411 = .ok (.ldc2_w 99, 3) := by decide +kernel
theorem d_Rm_new_414 : decode b_Rm_new 414 = .ok (.lastore, 1) := by decide +kernel
theorem d_Rm_new_415 : decode b_Rm_new 415 = .ok (.dup, 1) := by decide +kernel
theorem d_Rm_new_416 : decode b_Rm_new 416 = .ok (.bipush 7, 2) := by decide +kernel
theorem d_Rm_new_418 : decode b_Rm_new 418 = .ok (.ldc2_w 101, 3) := by decide +kernel
theorem d_Rm_new_421 : decode b_Rm_new 421 = .ok (.lastore, 1) := by decide +kernel
theorem d_Rm_new_422 : decode b_Rm_new 422 = .ok (.dup, 1) := by decide +kernel
theorem d_Rm_new_423 : decode b_Rm_new 423 = .ok (.bipush 8, 2) := by decide +kernel
theorem d_Rm_new_425 : decode b_Rm_new 425 = .ok (.ldc2_w 103, 3) := by decide +kernel
theorem d_Rm_new_428 : decode b_Rm_new 428 = .ok (.lastore, 1) := by decide +kernel
theorem d_Rm_new_429 : decode b_Rm_new 429 = .ok (.dup, 1) := by decide +kernel
theorem d_Rm_new_430 : decode b_Rm_new 430 = .ok (.bipush 9, 2) := by decide +kernel
theorem d_Rm_new_432 : decode b_Rm_new 432 = .ok (.ldc2_w 105, 3) := by decide +kernel
theorem d_Rm_new_435 : decode b_Rm_new 435 = .ok (.lastore, 1) := by decide +kernel
theorem d_Rm_new_436 : decode b_Rm_new 436 = .ok (.dup, 1) := by decide +kernel
theorem d_Rm_new_437 : decode b_Rm_new 437 = .ok (.bipush 10, 2) := by decide +kernel
theorem d_Rm_new_439 : decode b_Rm_new 439 = .ok (.ldc2_w 107, 3) := by decide +kernel
theorem d_Rm_new_442 : decode b_Rm_new 442 = .ok (.lastore, 1) := by decide +kernel
theorem d_Rm_new_443 : decode b_Rm_new 443 = .ok (.dup, 1) := by decide +kernel
theorem d_Rm_new_444 : decode b_Rm_new 444 = .ok (.bipush 11, 2) := by decide +kernel
theorem d_Rm_new_446 : decode b_Rm_new 446 = .ok (.ldc2_w 109, 3) := by decide +kernel
theorem d_Rm_new_449 : decode b_Rm_new 449 = .ok (.lastore, 1) := by decide +kernel
theorem d_Rm_new_450 : decode b_Rm_new 450 = .ok (.dup, 1) := by decide +kernel
theorem d_Rm_new_451 : decode b_Rm_new 451 = .ok (.bipush 12, 2) := by decide +kernel
theorem d_Rm_new_453 : decode b_Rm_new 453 = .ok (.ldc2_w 111, 3) := by decide +kernel
theorem d_Rm_new_456 : decode b_Rm_new 456 = .ok (.lastore, 1) := by decide +kernel
theorem d_Rm_new_457 : decode b_Rm_new 457 = .ok (.dup, 1) := by decide +kernel
theorem d_Rm_new_458 : decode b_Rm_new 458 = .ok (.bipush 13, 2) := by decide +kernel
theorem d_Rm_new_460 : decode b_Rm_new 460 = .ok (.ldc2_w 113, 3) := by decide +kernel
theorem d_Rm_new_463 : decode b_Rm_new 463 = .ok (.lastore, 1) := by decide +kernel
theorem d_Rm_new_464 : decode b_Rm_new 464 = .ok (.dup, 1) := by decide +kernel
theorem d_Rm_new_465 : decode b_Rm_new 465 = .ok (.bipush 14, 2) := by decide +kernel
theorem d_Rm_new_467 : decode b_Rm_new 467 = .ok (.ldc2_w 115, 3) := by decide +kernel
theorem d_Rm_new_470 : decode b_Rm_new 470 = .ok (.lastore, 1) := by decide +kernel
theorem d_Rm_new_471 : decode b_Rm_new 471 = .ok (.dup, 1) := by decide +kernel
theorem d_Rm_new_472 : decode b_Rm_new 472 = .ok (.bipush 15, 2) := by decide +kernel
theorem d_Rm_new_474 : decode b_Rm_new 474 = .ok (.ldc2_w 117, 3) := by decide +kernel
theorem d_Rm_new_477 : decode b_Rm_new 477 = .ok (.lastore, 1) := by decide +kernel
theorem d_Rm_new_478 : decode b_Rm_new 478 = .ok (.putfield 119, 3) := by decide +kernel
theorem d_Rm_new_481 : decode b_Rm_new 481 = .ok (.aload_n 0, 1) := by decide +kernel
theorem d_Rm_new_482 : decode b_Rm_new 482 = .ok (.bipush 16, 2) := by decide +kernel
theorem d_Rm_new_484 : decode b_Rm_new 484 = .ok (.newarray .long, 2) := by decide +kernel
theorem d_Rm_new_486 : decode b_Rm_new 486 = .ok (.dup, 1) := by decide +kernel
theorem d_Rm_new_487 : decode b_Rm_new 487 = .ok (.iconst 0, 1) := by decide +kernel
theorem d_Rm_new_488 : decode b_Rm_new 488 = .ok (.ldc2_w 122, 3) := by decide +kernel
theorem d_Rm_new_491 : decode b_Rm_new 491 = .ok (.lastore, 1) := by decide +kernel
theorem d_Rm_new_492 : decode b_Rm_new 492 = .ok (.dup, 1) := by decide +kernel
theorem d_Rm_new_493 : decode b_Rm_new 493 = .ok (.iconst 1, 1) := by decide +kernel
theorem d_Rm_new_494 : decode b_Rm_new 494 = .ok (.ldc2_w 124, 3) := by decide +kernel
theorem d_Rm_new_497 : decode b_Rm_new 497 = .ok (.lastore, 1) := by decide +kernel
theorem d_Rm_new_498 : decode b_Rm_new 498 = .ok (.dup, 1) := by decide +kernel
theorem d_Rm_new_499 : decode b_Rm_new 499 = .ok (.iconst 2, 1) := by decide +kernel
theorem d_Rm_new_500 : decode b_Rm_new 500 = .ok (.ldc2_w 126, 3) := by decide +kernel
theorem d_Rm_new_503 : decode b_Rm_new 503 = .ok (.lastore, 1) := by decide +kernel
theorem d_Rm_new_504 : decode b_Rm_new 504 = .ok (.dup, 1) := by decide +kernel
theorem d_Rm_new_505 : decode b_Rm_new 505 = .ok (.iconst 3, 1) := by decide +kernel
theorem d_Rm_new_506 : decode b_Rm_new 506 = .ok (.ldc2_w 128, 3) := by decide +kernel
theorem d_Rm_new_509 : decode b_Rm_new 509 = .ok (.lastore, 1) := by decide +kernel
theorem d_Rm_new_510 : decode b_Rm_new 510 = .ok (.dup, 1) := by decide +kernel
theorem d_Rm_new_511 : decode b_Rm_new 511 = .ok (.iconst 4, 1) := by decide +kernel
theorem d_Rm_new_512 : decode b_Rm_new 512 = .ok (.ldc2_w 130, 3) := by decide +kernel
theorem d_Rm_new_515 : decode b_Rm_new 515 = .ok (.lastore, 1) := by decide +kernel
theorem d_Rm_new_516 : decode b_Rm_new 516 = .ok (.dup, 1) := by decide +kernel
theorem d_Rm_new_517 : decode b_Rm_new 517 = .ok (.iconst 5, 1) := by decide +kernel
theorem d_Rm_new_518 : decode b_Rm_new 518 = .ok (.ldc2_w 132, 3) := by decide +kernel
theorem d_Rm_new_521 : decode b_Rm_new 521 = .ok (.lastore, 1) := by decide +kernel
theorem d_Rm_new_522 : decode b_Rm_new 522 = .ok (.dup, 1) := by decide +kernel
theorem d_Rm_new_523 : decode b_Rm_new 523 = .ok (.bipush 6, 2) := by decide +kernel
theorem d_Rm_new_525 : decode b_Rm_new 525 = .ok (.ldc2_w 134, 3) := by decide +kernel
theorem d_Rm_new_528 : decode b_Rm_new 528 = .ok (.lastore, 1) := by decide +kernel
theorem d_Rm_new_529 : decode b_Rm_new 529 = .ok (.dup, 1) := by decide +kernel
theorem d_Rm_new_530 : decode b_Rm_new 530 = .ok (.bipush 7, 2) := by decide +kernel
theorem d_Rm_new_532 : decode b_Rm_new 532 = .ok (.ldc2_w 136, 3) := by decide +kernel
theorem d_Rm_new_535 : decode b_Rm_new 535 = .ok (.lastore, 1) := by decide +kernel
theorem d_Rm_new_536 : decode b_Rm_new 536 = .ok (.dup, 1) := by decide +kernel
theorem d_Rm_new_537 : decode b_Rm_new 537 = .ok (.bipush 8, 2) := by decide +kernel
theorem d_Rm_new_539 : decode b_Rm_new 539 = .ok (.ldc2_w 138, 3) := by decide +kernel
theorem d_Rm_new_542 : decode b_Rm_new 542 = .ok (.lastore, 1) := by decide +kernel
theorem d_Rm_new_543 : decode b_Rm_new 543 = .ok (.dup, 1) := by decide +kernel
theorem d_Rm_new_544 : decode b_Rm_new 544 = .ok (.bipush 9, 2) := by decide +kernel
theorem d_Rm_new_546 : decode b_Rm_new 546 = .ok (.ldc2_w 140, 3) := by decide +kernel
theorem d_Rm_new_549 : decode b_Rm_new 549 = .ok (.lastore, 1) := by decide +kernel
theorem d_Rm_new_550 : decode b_Rm_new 550 = .ok (.dup, 1) := by decide +kernel
theorem d_Rm_new_551 : decode b_Rm_new 551 = .ok (.bipush 10, 2) := by decide +kernel
theorem d_Rm_new_553 : decode b_Rm_new 553 = .ok (.ldc2_w 142, 3) := by decide +kernel
theorem d_Rm_new_556 : decode b_Rm_new 556 = .ok (.lastore, 1) := by decide +kernel
theorem d_Rm_new_557 : decode b_Rm_new 557 = .ok (.dup, 1) := by decide +kernel
theorem d_Rm_new_558 : decode b_Rm_new 558 = .ok (.bipush 11, 2) := by decide +kernel
theorem d_Rm_new_560 : decode b_Rm_new 560 = .ok (.ldc2_w 144, 3) := by decide +kernel
theorem d_Rm_new_563 : decode b_Rm_new 563 = .ok (.lastore, 1) := by decide +kernel
theorem d_Rm_new_564 : decode b_Rm_new 564 = .ok (.dup, 1) := by decide +kernel
theorem d_Rm_new_565 : decode b_Rm_new 565 = .ok (.bipush 12, 2) := by decide +kernel
theorem d_Rm_new_567 : decode b_Rm_new 567 = .ok (.ldc2_w 146, 3) := by decide +kernel
theorem d_Rm_new_570 : decode b_Rm_new 570 = .ok (.lastore, 1) := by decide +kernel
theorem d_Rm_new_571 : decode b_Rm_new 571 = .ok (.dup, 1) := by decide +kernel
theorem d_Rm_new_572 : decode b_Rm_new 572 = .ok (.bipush 13, 2) := by decide +kernel
theorem d_Rm_new_574 : decode b_Rm_new 574 = .ok (.ldc2_w 148, 3) := by decide +kernel
theorem d_Rm_new_577 : decode b_Rm_new 577 = .ok (.lastore, 1) := by decide +kernel
theorem d_Rm_new_578 : decode b_Rm_new 578 = .ok (.dup, 1) := by decide +kernel
theorem d_Rm_new_579 : decode b_Rm_new 579 = .ok (.bipush 14, 2) := by decide +kernel
theorem d_Rm_new_581 : decode b_Rm_new 581 = .ok (.ldc2_w 150, 3) := by decide +kernel
theorem d_Rm_new_584 : decode b_Rm_new 584 = .ok (.lastore, 1) := by decide +kernel
theorem d_Rm_new_585 : decode b_Rm_new 585 = .ok (.dup, 1) := by decide +kernel
theorem d_Rm_new_586 : decode b_Rm_new 586 = .ok (.bipush 15, 2) := by decide +kernel
theorem d_Rm_new_588 : decode b_Rm_new 588 = .ok (.ldc2_w 152, 3) := by decide +kernel
theorem d_Rm_new_591 : decode b_Rm_new 591 = .ok (.lastore, 1) := by decide +kernel
theorem d_Rm_new_592 : decode b_Rm_new 592 = .ok (.putfield 154, 3) := by decide +kernel
theorem d_Rm_new_595 : decode b_Rm_new 595 = .ok (.aload_n 0, 1) := by decide +kernel
theorem d_Rm_new_596 : decode b_Rm_new 596 = .ok (.sipush 256, 3) := by decide +kernel
theorem d_Rm_new_599 : decode b_Rm_new 599 = .ok (.newarray .long, 2) := by decide +kernel
theorem d_Rm_new_601 : decode b_Rm_new 601 = .ok (.putfield 157, 3) := by decide +kernel
theorem d_Rm_new_604 : decode b_Rm_new 604 = .ok (.aload_n 0, 1) := by decide +kernel
theorem d_Rm_new_605 : decode b_Rm_new 605 = .ok (.sipush 256, 3) := by decide +kernel
theorem d_Rm_new_608 : decode b_Rm_new 608 = .ok (.newarray .long, 2) := by decide +kernel
theorem d_Rm_new_610 : decode b_Rm_new 610 = .ok (.putfield 160, 3) := by decide +kernel
theorem d_Rm_new_613 : decode b_Rm_new 613 = .ok (.aload_n 0, 1) := by decide +kernel
theorem d_Rm_new_614 : decode b_Rm_new 614 = .ok (.bipush 16, 2) := by decide +kernel
theorem d_Rm_new_616 : decode b_Rm_new 616 = .ok (.newarray .long, 2) := by decide +kernel
theorem d_Rm_new_618 : decode b_Rm_new 618 = .ok (.putfield 163, 3) := by decide +kernel
theorem d_Rm_new_621 : decode b_Rm_new 621 = .ok (.aload_n 0, 1) := by decide +kernel
theorem d_Rm_new_622 : decode b_Rm_new 622 = .ok (.bipush 16, 2) := by decide +kernel
theorem d_Rm_new_624 : decode b_Rm_new 624 = .ok (.newarray .long, 2) := by decide +kernel
theorem d_Rm_new_626 : decode b_Rm_new 626 = .ok (.putfield 166, 3) := by decide +kernel
theorem d_Rm_new_629 : decode b_Rm_new 629 = .ok (.aload_n 0, 1) := by decide +kernel
theorem d_Rm_new_630 : decode b_Rm_new 630 = .ok (.bipush 16, 2) := by decide +kernel
theorem d_Rm_new_632 : decode b_Rm_new 632 = .ok (.newarray .long, 2) := by decide +kernel
theorem d_Rm_new_634 : decode b_Rm_new 634 = .ok (.putfield 169, 3) := by decide +kernel
theorem d_Rm_new_637 : decode b_Rm_new 637 = .ok (.aload_n 0, 1) := by decide +kernel
theorem d_Rm_new_638 : decode b_Rm_new 638 = .ok (.bipush 16, 2) := by decide +kernel
theorem d_Rm_new_640 : decode b_Rm_new 640 = .ok (.newarray .long, 2) := by decide +kernel
theorem d_Rm_new_642 : decode b_Rm_new 642 = .ok (.putfield 172, 3) := by decide +kernel
theorem d_Rm_new_645 : decode b_Rm_new 645 = .ok (.aload_n 0, 1) := by decide +kernel
theorem d_Rm_new_646 : decode b_Rm_new 646 = .ok (.bipush 16, 2) := by decide +kernel
theorem d_Rm_new_648 : decode b_Rm_new 648 = .ok (.newarray .long, 2) := by decide +kernel
theorem d_Rm_new_650 : decode b_Rm_new 650 = .ok (.putfield 175, 3) := by decide +kernel
theorem d_Rm_new_653 : decode b_Rm_new 653 = .ok (.aload_n 0, 1) := by decide +kernel
theorem d_Rm_new_654 : decode b_Rm_new 654 = .ok (.bipush 16, 2) := by decide +kernel
theorem d_Rm_new_656 : decode b_Rm_new 656 = .ok (.newarray .long, 2) := by decide +kernel
theorem d_Rm_new_658 : decode b_Rm_new 658 = .ok (.putfield 178, 3) := by decide +kernel
theorem d_Rm_new_661 : decode b_Rm_new 661 = .ok (.aload_n 0, 1) := by decide +kernel
theorem d_Rm_new_662 : decode b_Rm_new 662 = .ok (.bipush 16, 2) := by decide +kernel
theorem d_Rm_new_664 : decode b_Rm_new 664 = .ok (.newarray .long, 2) := by decide +kernel
theorem d_Rm_new_666 : decode b_Rm_new 666 = .ok (.putfield 181, 3) := by decide +kernel
theorem d_Rm_new_669 : decode b_Rm_new 669 = .ok (.aload_n 0, 1) := by decide +kernel
theorem d_Rm_new_670 : decode b_Rm_new 670 = .ok (.bipush 16, 2) := by decide +kernel
theorem d_Rm_new_672 : decode b_Rm_new 672 = .ok (.newarray .long, 2) := by decide +kernel
theorem d_Rm_new_674 : decode b_Rm_new 674 = .ok (.putfield 184, 3) := by decide +kernel
theorem d_Rm_new_677 : decode b_Rm_new 677 = .ok (.aload_n 0, 1) := by decide +kernel
theorem d_Rm_new_678 : decode b_Rm_new 678 = .ok (.bipush 16, 2) := by decide +kernel
theorem d_Rm_new_680 : decode b_Rm_new 680 = .ok (.newarray .long, 2) := by decide +kernel
theorem d_Rm_new_682 : decode b_Rm_new 682 = .ok (.putfield 187, 3) := by decide +kernel
theorem d_Rm_new_685 : decode b_Rm_new 685 = .ok (.aload_n 0, 1) := by decide +kernel
theorem d_Rm_new_686 : decode b_Rm_new 686 = .ok (.bipush 16, 2) := by decide +kernel
theorem d_Rm_new_688 : decode b_Rm_new 688 = .ok (.newarray .long, 2) := by decide +kernel
theorem d_Rm_new_690 : decode b_Rm_new 690 = .ok (.putfield 190, 3) := by decide +kernel
theorem d_Rm_new_693 : decode b_Rm_new 693 = .ok (.aload_n 0, 1) := by decide +kernel
theorem d_Rm_new_694 : decode b_Rm_new 694 = .ok (.bipush 16, 2) := by decide +kernel
theorem d_Rm_new_696 : decode b_Rm_new 696 = .ok (.newarray .long, 2) := by decide +kernel
theorem d_Rm_new_698 : decode b_Rm_new 698 = .ok (.putfield 193, 3) := by decide +kernel
theorem d_Rm_new_701 : decode b_Rm_new 701 = .ok (.aload_n 0, 1) := by decide +kernel
theorem d_Rm_new_702 : decode b_Rm_new 702 = .ok (.bipush 16, 2) := by decide +kernel
theorem d_Rm_new_704 : decode b_Rm_new 704 = .ok (.newarray .long, 2) := by decide +kernel
theorem d_Rm_new_706 : decode b_Rm_new 706 = .ok (.putfield 196, 3) := by decide +kernel
theorem d_Rm_new_709 : decode b_Rm_new 709 = .ok (.aload_n 0, 1) := by decide +kernel
theorem d_Rm_new_710 : decode b_Rm_new 710 = .ok (.bipush 16, 2) := by decide +kernel
theorem d_Rm_new_712 : decode b_Rm_new 712 = .ok (.newarray .long, 2) := by decide +kernel
theorem d_Rm_new_714 : decode b_Rm_new 714 = .ok (.putfield 199, 3) := by decide +kernel
theorem d_Rm_new_717 : decode b_Rm_new 717 = .ok (.aload_n 0, 1) := by decide +kernel
theorem d_Rm_new_718 : decode b_Rm_new 718 = .ok (.bipush 16, 2) := by decide +kernel
theorem d_Rm_new_720 : decode b_Rm_new 720 = .ok (.newarray .long, 2) := by decide +kernel
theorem d_Rm_new_722 : decode b_Rm_new 722 = .ok (.putfield 202, 3) := by decide +kernel
theorem d_Rm_new_725 : decode b_Rm_new 725 = .ok (.aload_n 0, 1) := by decide +kernel
theorem d_Rm_new_726 : decode b_Rm_new 726 = .ok (.bipush 32, 2) := by decide +kernel
theorem d_Rm_new_728 : decode b_Rm_new 728 = .ok (.newarray .byte, 2) := by decide +kernel
theorem d_Rm_new_730 : decode b_Rm_new 730 = .ok (.putfield 205, 3) := by decide +kernel
theorem d_Rm_new_733 : decode b_Rm_new 733 = .ok (.aload_n 0, 1) := by decide +kernel
theorem d_Rm_new_734 : decode b_Rm_new 734 = .ok (.bipush 32, 2) := by decide +kernel
theorem d_Rm_new_736 : decode b_Rm_new 736 = .ok (.newarray .byte, 2) := by decide +kernel
theorem d_Rm_new_738 : decode b_Rm_new 738 = .ok (.putfield 208, 3) := by decide +kernel
theorem d_Rm_new_741 : decode b_Rm_new 741 = .ok (.aload_n 0, 1) := by decide +kernel
theorem d_Rm_new_742 : decode b_Rm_new 742 = .ok (.sipush 256, 3) := by decide +kernel
theorem d_Rm_new_745 : decode b_Rm_new 745 = .ok (.newarray .byte, 2) := by decide +kernel
theorem d_Rm_new_747 : decode b_Rm_new 747 = .ok (.putfield 211, 3) := by decide +kernel
theorem d_Rm_new_750 : decode b_Rm_new 750 = .ok (.aload_n 0, 1) := by decide +kernel
theorem d_Rm_new_751 : decode b_Rm_new 751 = .ok (.ldc 214, 2) := by decide +kernel
theorem d_Rm_new_753 : decode b_Rm_new 753 = .ok (.newarray .byte, 2) := by decide +kernel
theorem d_Rm_new_755 : decode b_Rm_new 755 = .ok (.putfield 215, 3) := by decide +kernel
theorem d_Rm_new_758 : decode b_Rm_new 758 = .ok (.aload_n 0, 1) := by decide +kernel
theorem d_Rm_new_759 : decode b_Rm_new 759 = .ok (.bipush 32, 2) := by decide +kernel
theorem d_Rm_new_761 : decode b_Rm_new 761 = .ok (.newarray .long, 2) := by decide +kernel
theorem d_Rm_new_763 : decode b_Rm_new 763 = .ok (.putfield 218, 3) := by decide +kernel
theorem d_Rm_new_766 : decode b_Rm_new 766 = .ok (.aload_n 0, 1) := by decide +kernel
theorem d_Rm_new_767 : decode b_Rm_new 767 = .ok (.bipush 18, 2) := by decide +kernel
theorem d_Rm_new_769 : decode b_Rm_new 769 = .ok (.newarray .long, 2) := by decide +kernel
theorem d_Rm_new_771 : decode b_Rm_new 771 = .ok (.putfield 221, 3) := by decide +kernel
theorem d_Rm_new_774 : decode b_Rm_new 774 = .ok (.aload_n 0, 1) := by decide +kernel
theorem d_Rm_new_775 : decode b_Rm_new 775 = .ok (.bipush 16, 2) := by decide +kernel
theorem d_Rm_new_777 : decode b_Rm_new 777 = .ok (.newarray .long, 2) := by decide +kernel
theorem d_Rm_new_779 : decode b_Rm_new 779 = .ok (.putfield 224, 3) := by decide +kernel
theorem d_Rm_new_782 : decode b_Rm_new 782 = .ok (.aload_n 0, 1) := by decide +kernel
theorem d_Rm_new_783 : decode b_Rm_new 783 = .ok (.bipush 16, 2) := by decide +kernel
theorem d_Rm_new_785 : decode b_Rm_new 785 = .ok (.newarray .long, 2) := by decide +kernel
theorem d_Rm_new_787 : decode b_Rm_new 787 = .ok (.putfield 227, 3) := by decide +kernel
theorem d_Rm_new_790 : decode b_Rm_new 790 = .ok (.aload_n 0, 1) := by decide +kernel
theorem d_Rm_new_791 : decode b_Rm_new 791 = .ok (.bipush 17, 2) := by decide +kernel
theorem d_Rm_new_793 : decode b_Rm_new 793 = .ok (.newarray .long, 2) := by decide +kernel
theorem d_Rm_new_795 : decode b_Rm_new 795 = .ok (.putfield 230, 3) := by decide +kernel
theorem d_Rm_new_798 : decode b_Rm_new 798 = .ok (.aload_n 0, 1) := by decide +kernel
theorem d_Rm_new_799 : decode b_Rm_new 799 = .ok (.bipush 17, 2) := by decide +kernel
theorem d_Rm_new_801 : decode b_Rm_new 801 = .ok (.newarray .long, 2) := by decide +kernel
theorem d_Rm_new_803 : decode b_Rm_new 803 = .ok (.putfield 233, 3) := by decide +kernel
theorem d_Rm_new_806 : decode b_Rm_new 806 = .ok (.aload_n 0, 1) := by decide +kernel
theorem d_Rm_new_807 : decode b_Rm_new 807 = .ok (.bipush 80, 2) := by decide +kernel
theorem d_Rm_new_809 : decode b_Rm_new 809 = .ok (.newarray .long, 2) := by decide +kernel
theorem d_Rm_new_811 : decode b_Rm_new 811 = .ok (.putfield 236, 3) := by decide +kernel
theorem d_Rm_new_814 : decode b_Rm_new 814 = .ok (.aload_n 0, 1) := by decide +kernel
theorem d_Rm_new_815 : decode b_Rm_new 815 = .ok (.bipush 8, 2) := by decide +kernel
theorem d_Rm_new_817 : decode b_Rm_new 817 = .ok (.newarray .long, 2) := by decide +kernel
theorem d_Rm_new_819 : decode b_Rm_new 819 = .ok (.putfield 239, 3) := by decide +kernel
theorem d_Rm_new_822 : decode b_Rm_new 822 = .ok (.aload_n 0, 1) := by decide +kernel
theorem d_Rm_new_823 : decode b_Rm_new 823 = .ok (.bipush 64, 2) := by decide +kernel
theorem d_Rm_new_825 : decode b_Rm_new 825 = .ok (.newarray .int, 2) := by decide +kernel
theorem d_Rm_new_827 : decode b_Rm_new 827 = .ok (.putfield 242, 3) := by decide +kernel
theorem d_Rm_new_830 : decode b_Rm_new 830 = .ok (.aload_n 0, 1) := by decide +kernel
theorem d_Rm_new_831 : decode b_Rm_new 831 = .ok (.bipush 8, 2) := by decide +kernel
theorem d_Rm_new_833 : decode b_Rm_new 833 = .ok (.newarray .int, 2) := by decide +kernel
theorem d_Rm_new_835 : decode b_Rm_new 835 = .ok (.putfield 245, 3) := by decide +kernel
theorem d_Rm_new_838 : decode b_Rm_new 838 = .ok (.aload_n 0, 1) := by decide +kernel
theorem d_Rm_new_839 : decode b_Rm_new 839 = .ok (.bipush 8, 2) := by decide +kernel
theorem d_Rm_new_841 : decode b_Rm_new 841 = .ok (.newarray .long, 2) := by decide +kernel
theorem d_Rm_new_843 : decode b_Rm_new 843 = .ok (.putfield 248, 3) := by decide +kernel
theorem d_Rm_new_846 : decode b_Rm_new 846 = .ok (.aload_n 0, 1) := by decide +kernel
theorem d_Rm_new_847 : decode b_Rm_new 847 = .ok (.bipush 8, 2) := by decide +kernel
theorem d_Rm_new_849 : decode b_Rm_new 849 = .ok (.newarray .long, 2) := by decide +kernel
theorem d_Rm_new_851 : decode b_Rm_new 851 = .ok (.putfield 251, 3) := by decide +kernel
theorem d_Rm_new_854 : decode b_Rm_new 854 = .ok (.aload_n 0, 1) := by decide +kernel
theorem d_Rm_new_855 : decode b_Rm_new 855 = .ok (.bipush 32, 2) := by decide +kernel
theorem d_Rm_new_857 : decode b_Rm_new 857 = .ok (.newarray .byte, 2) := by decide +kernel
theorem d_Rm_new_859 : decode b_Rm_new 859 = .ok (.putfield 254, 3) := by decide +kernel
theorem d_Rm_new_862 : decode b_Rm_new 862 = .ok (.aload_n 0, 1) := by decide +kernel
theorem d_Rm_new_863 : decode b_Rm_new 863 = .ok (.invokevirtual 257, 3) := by decide +kernel
theorem d_Rm_new_866 : decode b_Rm_new 866 = .ok (.aload_n 0, 1) := by decide +kernel
theorem d_Rm_new_867 : decode b_Rm_new 867 = .ok (.getfield 157, 3) := by decide +kernel
theorem d_Rm_new_870 : decode b_Rm_new 870 = .ok (.aload_n 0, 1) := by decide +kernel
theorem d_Rm_new_871 : decode b_Rm_new 871 = .ok (.getfield 29, 3) := by decide +kernel
theorem d_Rm_new_874 : decode b_Rm_new 874 = .ok (.aload_n 0, 1) := by decide +kernel
theorem d_Rm_new_875 : decode b_Rm_new 875 = .ok (.getfield 181, 3) := by decide +kernel
theorem d_Rm_new_878 : decode b_Rm_new 878 = .ok (.invokestatic 260, 3) := by decide +kernel
theorem d_Rm_new_881 : decode b_Rm_new 881 = .ok (.aload_n 0, 1) := by decide +kernel
theorem d_Rm_new_882 : decode b_Rm_new 882 = .ok (.getfield 160, 3) := by decide +kernel
theorem d_Rm_new_885 : decode b_Rm_new 885 = .ok (.aload_n 0, 1) := by decide +kernel
theorem d_Rm_new_886 : decode b_Rm_new 886 = .ok (.getfield 49, 3) := by decide +kernel
theorem d_Rm_new_889 : decode b_Rm_new 889 = .ok (.aload_n 0, 1) := by decide +kernel
theorem d_Rm_new_890 : decode b_Rm_new 890 = .ok (.getfield 181, 3) := by decide +kernel
theorem d_Rm_new_893 : decode b_Rm_new 893 = .ok (.invokestatic 260, 3) := by decide +kernel
theorem d_Rm_new_896 : decode b_Rm_new 896 = .ok (.return_, 1) := by decide +kernel
theorem fp_Rm_8 : FP "PrimeKeysModel" 8 8 1 (.array .byte) true := ⟨R_Rm, F_Rm, 50, t_Rm, rfl, u_Rm, by decide, rfl, tb_4 (List.mem_of_getElem? (i := 155) (by decide +kernel)) rfl, t_Rm_ok, n_Rm, rfl, by decide +kernel⟩
theorem fp_Rm_14 : FP "PrimeKeysModel" 14 8 2 (.array .byte) true := ⟨R_Rm, F_Rm, 50, t_Rm, rfl, u_Rm, by decide, rfl, tb_4 (List.mem_of_getElem? (i := 156) (by decide +kernel)) rfl, t_Rm_ok, n_Rm, rfl, by decide +kernel⟩
theorem fp_Rm_17 : FP "PrimeKeysModel" 17 8 3 (.array .byte) true := ⟨R_Rm, F_Rm, 50, t_Rm, rfl, u_Rm, by decide, rfl, tb_4 (List.mem_of_getElem? (i := 157) (by decide +kernel)) rfl, t_Rm_ok, n_Rm, rfl, by decide +kernel⟩
theorem fp_Rm_20 : FP "PrimeKeysModel" 20 8 4 (.array .byte) true := ⟨R_Rm, F_Rm, 50, t_Rm, rfl, u_Rm, by decide, rfl, tb_4 (List.mem_of_getElem? (i := 158) (by decide +kernel)) rfl, t_Rm_ok, n_Rm, rfl, by decide +kernel⟩
theorem fp_Rm_23 : FP "PrimeKeysModel" 23 8 9 (.array .int) true := ⟨R_Rm, F_Rm, 50, t_Rm, rfl, u_Rm, by decide, rfl, tb_4 (List.mem_of_getElem? (i := 163) (by decide +kernel)) rfl, t_Rm_ok, n_Rm, rfl, by decide +kernel⟩
theorem fp_Rm_29 : FP "PrimeKeysModel" 29 8 10 (.array .long) true := ⟨R_Rm, F_Rm, 50, t_Rm, rfl, u_Rm, by decide, rfl, tb_4 (List.mem_of_getElem? (i := 164) (by decide +kernel)) rfl, t_Rm_ok, n_Rm, rfl, by decide +kernel⟩
theorem fp_Rm_49 : FP "PrimeKeysModel" 49 8 11 (.array .long) true := ⟨R_Rm, F_Rm, 50, t_Rm, rfl, u_Rm, by decide, rfl, tb_4 (List.mem_of_getElem? (i := 165) (by decide +kernel)) rfl, t_Rm_ok, n_Rm, rfl, by decide +kernel⟩
theorem fp_Rm_84 : FP "PrimeKeysModel" 84 8 12 (.array .long) true := ⟨R_Rm, F_Rm, 50, t_Rm, rfl, u_Rm, by decide, rfl, tb_4 (List.mem_of_getElem? (i := 166) (by decide +kernel)) rfl, t_Rm_ok, n_Rm, rfl, by decide +kernel⟩
theorem fp_Rm_119 : FP "PrimeKeysModel" 119 8 13 (.array .long) true := ⟨R_Rm, F_Rm, 50, t_Rm, rfl, u_Rm, by decide, rfl, tb_4 (List.mem_of_getElem? (i := 167) (by decide +kernel)) rfl, t_Rm_ok, n_Rm, rfl, by decide +kernel⟩
theorem fp_Rm_154 : FP "PrimeKeysModel" 154 8 14 (.array .long) true := ⟨R_Rm, F_Rm, 50, t_Rm, rfl, u_Rm, by decide, rfl, tb_4 (List.mem_of_getElem? (i := 168) (by decide +kernel)) rfl, t_Rm_ok, n_Rm, rfl, by decide +kernel⟩
theorem fp_Rm_157 : FP "PrimeKeysModel" 157 8 15 (.array .long) true := ⟨R_Rm, F_Rm, 50, t_Rm, rfl, u_Rm, by decide, rfl, tb_4 (List.mem_of_getElem? (i := 169) (by decide +kernel)) rfl, t_Rm_ok, n_Rm, rfl, by decide +kernel⟩
theorem fp_Rm_160 : FP "PrimeKeysModel" 160 8 16 (.array .long) true := ⟨R_Rm, F_Rm, 50, t_Rm, rfl, u_Rm, by decide, rfl, tb_4 (List.mem_of_getElem? (i := 170) (by decide +kernel)) rfl, t_Rm_ok, n_Rm, rfl, by decide +kernel⟩
theorem fp_Rm_163 : FP "PrimeKeysModel" 163 8 17 (.array .long) true := ⟨R_Rm, F_Rm, 50, t_Rm, rfl, u_Rm, by decide, rfl, tb_4 (List.mem_of_getElem? (i := 171) (by decide +kernel)) rfl, t_Rm_ok, n_Rm, rfl, by decide +kernel⟩
theorem fp_Rm_166 : FP "PrimeKeysModel" 166 8 18 (.array .long) true := ⟨R_Rm, F_Rm, 50, t_Rm, rfl, u_Rm, by decide, rfl, tb_4 (List.mem_of_getElem? (i := 172) (by decide +kernel)) rfl, t_Rm_ok, n_Rm, rfl, by decide +kernel⟩
theorem fp_Rm_169 : FP "PrimeKeysModel" 169 8 19 (.array .long) true := ⟨R_Rm, F_Rm, 50, t_Rm, rfl, u_Rm, by decide, rfl, tb_4 (List.mem_of_getElem? (i := 173) (by decide +kernel)) rfl, t_Rm_ok, n_Rm, rfl, by decide +kernel⟩
theorem fp_Rm_172 : FP "PrimeKeysModel" 172 8 20 (.array .long) true := ⟨R_Rm, F_Rm, 50, t_Rm, rfl, u_Rm, by decide, rfl, tb_4 (List.mem_of_getElem? (i := 174) (by decide +kernel)) rfl, t_Rm_ok, n_Rm, rfl, by decide +kernel⟩
theorem fp_Rm_175 : FP "PrimeKeysModel" 175 8 21 (.array .long) true := ⟨R_Rm, F_Rm, 50, t_Rm, rfl, u_Rm, by decide, rfl, tb_4 (List.mem_of_getElem? (i := 175) (by decide +kernel)) rfl, t_Rm_ok, n_Rm, rfl, by decide +kernel⟩
theorem fp_Rm_178 : FP "PrimeKeysModel" 178 8 22 (.array .long) true := ⟨R_Rm, F_Rm, 50, t_Rm, rfl, u_Rm, by decide, rfl, tb_4 (List.mem_of_getElem? (i := 176) (by decide +kernel)) rfl, t_Rm_ok, n_Rm, rfl, by decide +kernel⟩
theorem fp_Rm_181 : FP "PrimeKeysModel" 181 8 25 (.array .long) true := ⟨R_Rm, F_Rm, 50, t_Rm, rfl, u_Rm, by decide, rfl, tb_4 (List.mem_of_getElem? (i := 179) (by decide +kernel)) rfl, t_Rm_ok, n_Rm, rfl, by decide +kernel⟩
theorem fp_Rm_184 : FP "PrimeKeysModel" 184 8 26 (.array .long) true := ⟨R_Rm, F_Rm, 50, t_Rm, rfl, u_Rm, by decide, rfl, tb_4 (List.mem_of_getElem? (i := 180) (by decide +kernel)) rfl, t_Rm_ok, n_Rm, rfl, by decide +kernel⟩
theorem fp_Rm_187 : FP "PrimeKeysModel" 187 8 27 (.array .long) true := ⟨R_Rm, F_Rm, 50, t_Rm, rfl, u_Rm, by decide, rfl, tb_4 (List.mem_of_getElem? (i := 181) (by decide +kernel)) rfl, t_Rm_ok, n_Rm, rfl, by decide +kernel⟩
theorem fp_Rm_190 : FP "PrimeKeysModel" 190 8 28 (.array .long) true := ⟨R_Rm, F_Rm, 50, t_Rm, rfl, u_Rm, by decide, rfl, tb_4 (List.mem_of_getElem? (i := 182) (by decide +kernel)) rfl, t_Rm_ok, n_Rm, rfl, by decide +kernel⟩
theorem fp_Rm_193 : FP "PrimeKeysModel" 193 8 29 (.array .long) true := ⟨R_Rm, F_Rm, 50, t_Rm, rfl, u_Rm, by decide, rfl, tb_4 (List.mem_of_getElem? (i := 183) (by decide +kernel)) rfl, t_Rm_ok, n_Rm, rfl, by decide +kernel⟩
theorem fp_Rm_196 : FP "PrimeKeysModel" 196 8 30 (.array .long) true := ⟨R_Rm, F_Rm, 50, t_Rm, rfl, u_Rm, by decide, rfl, tb_4 (List.mem_of_getElem? (i := 184) (by decide +kernel)) rfl, t_Rm_ok, n_Rm, rfl, by decide +kernel⟩
theorem fp_Rm_199 : FP "PrimeKeysModel" 199 8 31 (.array .long) true := ⟨R_Rm, F_Rm, 50, t_Rm, rfl, u_Rm, by decide, rfl, tb_4 (List.mem_of_getElem? (i := 185) (by decide +kernel)) rfl, t_Rm_ok, n_Rm, rfl, by decide +kernel⟩
theorem fp_Rm_202 : FP "PrimeKeysModel" 202 8 32 (.array .long) true := ⟨R_Rm, F_Rm, 50, t_Rm, rfl, u_Rm, by decide, rfl, tb_4 (List.mem_of_getElem? (i := 186) (by decide +kernel)) rfl, t_Rm_ok, n_Rm, rfl, by decide +kernel⟩
theorem fp_Rm_205 : FP "PrimeKeysModel" 205 8 33 (.array .byte) true := ⟨R_Rm, F_Rm, 50, t_Rm, rfl, u_Rm, by decide, rfl, tb_4 (List.mem_of_getElem? (i := 187) (by decide +kernel)) rfl, t_Rm_ok, n_Rm, rfl, by decide +kernel⟩
theorem fp_Rm_208 : FP "PrimeKeysModel" 208 8 34 (.array .byte) true := ⟨R_Rm, F_Rm, 50, t_Rm, rfl, u_Rm, by decide, rfl, tb_4 (List.mem_of_getElem? (i := 188) (by decide +kernel)) rfl, t_Rm_ok, n_Rm, rfl, by decide +kernel⟩
theorem fp_Rm_211 : FP "PrimeKeysModel" 211 8 35 (.array .byte) true := ⟨R_Rm, F_Rm, 50, t_Rm, rfl, u_Rm, by decide, rfl, tb_4 (List.mem_of_getElem? (i := 189) (by decide +kernel)) rfl, t_Rm_ok, n_Rm, rfl, by decide +kernel⟩
theorem fp_Rm_215 : FP "PrimeKeysModel" 215 8 36 (.array .byte) true := ⟨R_Rm, F_Rm, 50, t_Rm, rfl, u_Rm, by decide, rfl, tb_4 (List.mem_of_getElem? (i := 190) (by decide +kernel)) rfl, t_Rm_ok, n_Rm, rfl, by decide +kernel⟩
theorem fp_Rm_218 : FP "PrimeKeysModel" 218 8 37 (.array .long) true := ⟨R_Rm, F_Rm, 50, t_Rm, rfl, u_Rm, by decide, rfl, tb_4 (List.mem_of_getElem? (i := 191) (by decide +kernel)) rfl, t_Rm_ok, n_Rm, rfl, by decide +kernel⟩
theorem fp_Rm_221 : FP "PrimeKeysModel" 221 8 38 (.array .long) true := ⟨R_Rm, F_Rm, 50, t_Rm, rfl, u_Rm, by decide, rfl, tb_4 (List.mem_of_getElem? (i := 192) (by decide +kernel)) rfl, t_Rm_ok, n_Rm, rfl, by decide +kernel⟩
theorem fp_Rm_224 : FP "PrimeKeysModel" 224 8 39 (.array .long) true := ⟨R_Rm, F_Rm, 50, t_Rm, rfl, u_Rm, by decide, rfl, tb_4 (List.mem_of_getElem? (i := 193) (by decide +kernel)) rfl, t_Rm_ok, n_Rm, rfl, by decide +kernel⟩
theorem fp_Rm_227 : FP "PrimeKeysModel" 227 8 40 (.array .long) true := ⟨R_Rm, F_Rm, 50, t_Rm, rfl, u_Rm, by decide, rfl, tb_4 (List.mem_of_getElem? (i := 194) (by decide +kernel)) rfl, t_Rm_ok, n_Rm, rfl, by decide +kernel⟩
theorem fp_Rm_230 : FP "PrimeKeysModel" 230 8 41 (.array .long) true := ⟨R_Rm, F_Rm, 50, t_Rm, rfl, u_Rm, by decide, rfl, tb_4 (List.mem_of_getElem? (i := 195) (by decide +kernel)) rfl, t_Rm_ok, n_Rm, rfl, by decide +kernel⟩
theorem fp_Rm_233 : FP "PrimeKeysModel" 233 8 42 (.array .long) true := ⟨R_Rm, F_Rm, 50, t_Rm, rfl, u_Rm, by decide, rfl, tb_4 (List.mem_of_getElem? (i := 196) (by decide +kernel)) rfl, t_Rm_ok, n_Rm, rfl, by decide +kernel⟩
theorem fp_Rm_236 : FP "PrimeKeysModel" 236 8 43 (.array .long) true := ⟨R_Rm, F_Rm, 50, t_Rm, rfl, u_Rm, by decide, rfl, tb_4 (List.mem_of_getElem? (i := 197) (by decide +kernel)) rfl, t_Rm_ok, n_Rm, rfl, by decide +kernel⟩
theorem fp_Rm_239 : FP "PrimeKeysModel" 239 8 44 (.array .long) true := ⟨R_Rm, F_Rm, 50, t_Rm, rfl, u_Rm, by decide, rfl, tb_4 (List.mem_of_getElem? (i := 198) (by decide +kernel)) rfl, t_Rm_ok, n_Rm, rfl, by decide +kernel⟩
theorem fp_Rm_242 : FP "PrimeKeysModel" 242 8 45 (.array .int) true := ⟨R_Rm, F_Rm, 50, t_Rm, rfl, u_Rm, by decide, rfl, tb_4 (List.mem_of_getElem? (i := 199) (by decide +kernel)) rfl, t_Rm_ok, n_Rm, rfl, by decide +kernel⟩
theorem fp_Rm_245 : FP "PrimeKeysModel" 245 8 46 (.array .int) true := ⟨R_Rm, F_Rm, 50, t_Rm, rfl, u_Rm, by decide, rfl, tb_4 (List.mem_of_getElem? (i := 200) (by decide +kernel)) rfl, t_Rm_ok, n_Rm, rfl, by decide +kernel⟩
theorem fp_Rm_248 : FP "PrimeKeysModel" 248 8 47 (.array .long) true := ⟨R_Rm, F_Rm, 50, t_Rm, rfl, u_Rm, by decide, rfl, tb_4 (List.mem_of_getElem? (i := 201) (by decide +kernel)) rfl, t_Rm_ok, n_Rm, rfl, by decide +kernel⟩
theorem fp_Rm_251 : FP "PrimeKeysModel" 251 8 48 (.array .long) true := ⟨R_Rm, F_Rm, 50, t_Rm, rfl, u_Rm, by decide, rfl, tb_4 (List.mem_of_getElem? (i := 202) (by decide +kernel)) rfl, t_Rm_ok, n_Rm, rfl, by decide +kernel⟩
theorem fp_Rm_254 : FP "PrimeKeysModel" 254 8 49 (.array .byte) true := ⟨R_Rm, F_Rm, 50, t_Rm, rfl, u_Rm, by decide, rfl, tb_4 (List.mem_of_getElem? (i := 203) (by decide +kernel)) rfl, t_Rm_ok, n_Rm, rfl, by decide +kernel⟩
theorem kw_31 : Cond.methodLink "PrimeKeysModel" 1 Lib.objectInit ∈ TB := tb_4 (List.mem_of_getElem? (i := 59) (by decide +kernel)) rfl
theorem kw_32 : Cond.constantLong "PrimeKeysModel" 33 9553 ∈ TB := tb_4 (List.mem_of_getElem? (i := 62) (by decide +kernel)) rfl
theorem kw_33 : Cond.constantLong "PrimeKeysModel" 35 64611 ∈ TB := tb_4 (List.mem_of_getElem? (i := 63) (by decide +kernel)) rfl
theorem kw_34 : Cond.constantLong "PrimeKeysModel" 37 51906 ∈ TB := tb_4 (List.mem_of_getElem? (i := 64) (by decide +kernel)) rfl
theorem kw_35 : Cond.constantLong "PrimeKeysModel" 39 62393 ∈ TB := tb_4 (List.mem_of_getElem? (i := 65) (by decide +kernel)) rfl
theorem kw_36 : Cond.constantLong "PrimeKeysModel" 41 40580 ∈ TB := tb_4 (List.mem_of_getElem? (i := 66) (by decide +kernel)) rfl
theorem kw_37 : Cond.constantLong "PrimeKeysModel" 43 42775 ∈ TB := tb_4 (List.mem_of_getElem? (i := 67) (by decide +kernel)) rfl
theorem kw_38 : Cond.constantLong "PrimeKeysModel" 45 64173 ∈ TB := tb_4 (List.mem_of_getElem? (i := 68) (by decide +kernel)) rfl
theorem kw_39 : Cond.constantLong "PrimeKeysModel" 47 48358 ∈ TB := tb_4 (List.mem_of_getElem? (i := 69) (by decide +kernel)) rfl
theorem kw_40 : Cond.constantLong "PrimeKeysModel" 52 24651 ∈ TB := tb_4 (List.mem_of_getElem? (i := 70) (by decide +kernel)) rfl
theorem kw_41 : Cond.constantLong "PrimeKeysModel" 54 10194 ∈ TB := tb_4 (List.mem_of_getElem? (i := 71) (by decide +kernel)) rfl
theorem kw_42 : Cond.constantLong "PrimeKeysModel" 56 15422 ∈ TB := tb_4 (List.mem_of_getElem? (i := 72) (by decide +kernel)) rfl
theorem kw_43 : Cond.constantLong "PrimeKeysModel" 58 15310 ∈ TB := tb_4 (List.mem_of_getElem? (i := 73) (by decide +kernel)) rfl
theorem kw_44 : Cond.constantLong "PrimeKeysModel" 60 45302 ∈ TB := tb_4 (List.mem_of_getElem? (i := 74) (by decide +kernel)) rfl
theorem kw_45 : Cond.constantLong "PrimeKeysModel" 62 52307 ∈ TB := tb_4 (List.mem_of_getElem? (i := 75) (by decide +kernel)) rfl
theorem kw_46 : Cond.constantLong "PrimeKeysModel" 64 1712 ∈ TB := tb_4 (List.mem_of_getElem? (i := 76) (by decide +kernel)) rfl
theorem kw_47 : Cond.constantLong "PrimeKeysModel" 66 25885 ∈ TB := tb_4 (List.mem_of_getElem? (i := 77) (by decide +kernel)) rfl
theorem kw_48 : Cond.constantLong "PrimeKeysModel" 68 34492 ∈ TB := tb_4 (List.mem_of_getElem? (i := 78) (by decide +kernel)) rfl
theorem kw_49 : Cond.constantLong "PrimeKeysModel" 70 30360 ∈ TB := tb_4 (List.mem_of_getElem? (i := 79) (by decide +kernel)) rfl
theorem kw_50 : Cond.constantLong "PrimeKeysModel" 72 48469 ∈ TB := tb_4 (List.mem_of_getElem? (i := 80) (by decide +kernel)) rfl
theorem kw_51 : Cond.constantLong "PrimeKeysModel" 74 46059 ∈ TB := tb_4 (List.mem_of_getElem? (i := 81) (by decide +kernel)) rfl
theorem kw_52 : Cond.constantLong "PrimeKeysModel" 76 37863 ∈ TB := tb_4 (List.mem_of_getElem? (i := 82) (by decide +kernel)) rfl
theorem kw_53 : Cond.constantLong "PrimeKeysModel" 78 43578 ∈ TB := tb_4 (List.mem_of_getElem? (i := 83) (by decide +kernel)) rfl
theorem kw_54 : Cond.constantLong "PrimeKeysModel" 80 13784 ∈ TB := tb_4 (List.mem_of_getElem? (i := 84) (by decide +kernel)) rfl
theorem kw_55 : Cond.constantLong "PrimeKeysModel" 82 23238 ∈ TB := tb_4 (List.mem_of_getElem? (i := 85) (by decide +kernel)) rfl
theorem kw_56 : Cond.constantLong "PrimeKeysModel" 87 49814 ∈ TB := tb_4 (List.mem_of_getElem? (i := 86) (by decide +kernel)) rfl
theorem kw_57 : Cond.constantLong "PrimeKeysModel" 89 55448 ∈ TB := tb_4 (List.mem_of_getElem? (i := 87) (by decide +kernel)) rfl
theorem kw_58 : Cond.constantLong "PrimeKeysModel" 91 14661 ∈ TB := tb_4 (List.mem_of_getElem? (i := 88) (by decide +kernel)) rfl
theorem kw_59 : Cond.constantLong "PrimeKeysModel" 93 62625 ∈ TB := tb_4 (List.mem_of_getElem? (i := 89) (by decide +kernel)) rfl
theorem kw_60 : Cond.constantLong "PrimeKeysModel" 95 13216 ∈ TB := tb_4 (List.mem_of_getElem? (i := 90) (by decide +kernel)) rfl
theorem kw_61 : Cond.constantLong "PrimeKeysModel" 97 11755 ∈ TB := tb_4 (List.mem_of_getElem? (i := 91) (by decide +kernel)) rfl
theorem kw_62 : Cond.constantLong "PrimeKeysModel" 99 32129 ∈ TB := tb_4 (List.mem_of_getElem? (i := 92) (by decide +kernel)) rfl
theorem kw_63 : Cond.constantLong "PrimeKeysModel" 101 30467 ∈ TB := tb_4 (List.mem_of_getElem? (i := 93) (by decide +kernel)) rfl
theorem kw_64 : Cond.constantLong "PrimeKeysModel" 103 16626 ∈ TB := tb_4 (List.mem_of_getElem? (i := 94) (by decide +kernel)) rfl
theorem kw_65 : Cond.constantLong "PrimeKeysModel" 105 25508 ∈ TB := tb_4 (List.mem_of_getElem? (i := 95) (by decide +kernel)) rfl
theorem kw_66 : Cond.constantLong "PrimeKeysModel" 107 59109 ∈ TB := tb_4 (List.mem_of_getElem? (i := 96) (by decide +kernel)) rfl
theorem kw_67 : Cond.constantLong "PrimeKeysModel" 109 63676 ∈ TB := tb_4 (List.mem_of_getElem? (i := 97) (by decide +kernel)) rfl
theorem kw_68 : Cond.constantLong "PrimeKeysModel" 111 16967 ∈ TB := tb_4 (List.mem_of_getElem? (i := 98) (by decide +kernel)) rfl
theorem kw_69 : Cond.constantLong "PrimeKeysModel" 113 57644 ∈ TB := tb_4 (List.mem_of_getElem? (i := 99) (by decide +kernel)) rfl
theorem kw_70 : Cond.constantLong "PrimeKeysModel" 115 53746 ∈ TB := tb_4 (List.mem_of_getElem? (i := 100) (by decide +kernel)) rfl
theorem kw_71 : Cond.constantLong "PrimeKeysModel" 117 27415 ∈ TB := tb_4 (List.mem_of_getElem? (i := 101) (by decide +kernel)) rfl
theorem kw_72 : Cond.constantLong "PrimeKeysModel" 122 20981 ∈ TB := tb_4 (List.mem_of_getElem? (i := 102) (by decide +kernel)) rfl
theorem kw_73 : Cond.constantLong "PrimeKeysModel" 124 14271 ∈ TB := tb_4 (List.mem_of_getElem? (i := 103) (by decide +kernel)) rfl
theorem kw_74 : Cond.constantLong "PrimeKeysModel" 126 16488 ∈ TB := tb_4 (List.mem_of_getElem? (i := 104) (by decide +kernel)) rfl
theorem kw_75 : Cond.constantLong "PrimeKeysModel" 128 52150 ∈ TB := tb_4 (List.mem_of_getElem? (i := 105) (by decide +kernel)) rfl
theorem kw_76 : Cond.constantLong "PrimeKeysModel" 130 24270 ∈ TB := tb_4 (List.mem_of_getElem? (i := 106) (by decide +kernel)) rfl
theorem kw_77 : Cond.constantLong "PrimeKeysModel" 132 27441 ∈ TB := tb_4 (List.mem_of_getElem? (i := 107) (by decide +kernel)) rfl
theorem kw_78 : Cond.constantLong "PrimeKeysModel" 134 13143 ∈ TB := tb_4 (List.mem_of_getElem? (i := 108) (by decide +kernel)) rfl
theorem kw_79 : Cond.constantLong "PrimeKeysModel" 136 11214 ∈ TB := tb_4 (List.mem_of_getElem? (i := 109) (by decide +kernel)) rfl
theorem kw_80 : Cond.constantLong "PrimeKeysModel" 138 40470 ∈ TB := tb_4 (List.mem_of_getElem? (i := 110) (by decide +kernel)) rfl
theorem kw_81 : Cond.constantLong "PrimeKeysModel" 140 31759 ∈ TB := tb_4 (List.mem_of_getElem? (i := 111) (by decide +kernel)) rfl
theorem kw_82 : Cond.constantLong "PrimeKeysModel" 142 60234 ∈ TB := tb_4 (List.mem_of_getElem? (i := 112) (by decide +kernel)) rfl
theorem kw_83 : Cond.constantLong "PrimeKeysModel" 144 36583 ∈ TB := tb_4 (List.mem_of_getElem? (i := 113) (by decide +kernel)) rfl
theorem kw_84 : Cond.constantLong "PrimeKeysModel" 146 32667 ∈ TB := tb_4 (List.mem_of_getElem? (i := 114) (by decide +kernel)) rfl
theorem kw_85 : Cond.constantLong "PrimeKeysModel" 148 65050 ∈ TB := tb_4 (List.mem_of_getElem? (i := 115) (by decide +kernel)) rfl
theorem kw_86 : Cond.constantLong "PrimeKeysModel" 150 17122 ∈ TB := tb_4 (List.mem_of_getElem? (i := 116) (by decide +kernel)) rfl
theorem kw_87 : Cond.constantLong "PrimeKeysModel" 152 20451 ∈ TB := tb_4 (List.mem_of_getElem? (i := 117) (by decide +kernel)) rfl
theorem kw_88 : Cond.constant "PrimeKeysModel" 214 65600 ∈ TB := tb_4 (List.mem_of_getElem? (i := 118) (by decide +kernel)) rfl
theorem cd_Rm_260 : CD "PrimeKeysModel" 260 y_Rm_remainders b_Rm_remainders 5 none 3 := ⟨tb_4 (List.mem_of_getElem? (i := 141) rfl) rfl, tb_1 (List.mem_of_getElem? (i := 13) (by decide +kernel)) rfl, tb_4 (List.mem_of_getElem? (i := 139) (by decide +kernel)) rfl, by decide +kernel⟩
theorem kw_st_Rm_remainders : Cond.static y_Rm_remainders ∈ TB := tb_4 (List.mem_of_getElem? (i := 140) (by decide +kernel)) rfl
theorem cd_Rm_257 : CD "PrimeKeysModel" 257 y_Rm_constants b_Rm_constants 3 none 0 := ⟨tb_4 (List.mem_of_getElem? (i := 122) rfl) rfl, tb_1 (List.mem_of_getElem? (i := 13) (by decide +kernel)) rfl, tb_4 (List.mem_of_getElem? (i := 119) (by decide +kernel)) rfl, by decide +kernel⟩
theorem kw_in_Rm_constants : Cond.instanceMethod y_Rm_constants ∈ TB := tb_4 (List.mem_of_getElem? (i := 121) (by decide +kernel)) rfl
theorem kw_se_Rm_constants : Cond.selects "PrimeKeysModel" y_Rm_constants y_Rm_constants ∈ TB := tb_p (q := (y_Rm_constants, 50)) (by decide +kernel)
abbrev rm_Rm_new : Room := { frames := 4, cells := 43, slots := 201418, locals := 114 }
def P_Rm_new (h : HP) (p0 : Nat) : Option (HP) :=
  lt (h ++ [pB 65536 (fun _ => 0)]) fun h1 =>
  lt h.length fun k2 =>
  bnd (pV h1 p0 8 1 (.ref k2)) fun h3 =>
  lt (h3 ++ [pB 65536 (fun _ => 0)]) fun h4 =>
  lt h3.length fun k5 =>
  bnd (pV h4 p0 8 2 (.ref k5)) fun h6 =>
  lt (h6 ++ [pB 80 (fun _ => 0)]) fun h7 =>
  lt h6.length fun k8 =>
  bnd (pV h7 p0 8 3 (.ref k8)) fun h9 =>
  lt (h9 ++ [pB 3200 (fun _ => 0)]) fun h10 =>
  lt h9.length fun k11 =>
  bnd (pV h10 p0 8 4 (.ref k11)) fun h12 =>
  lt (h12 ++ [pI 6 (fun _ => 0)]) fun h13 =>
  lt h12.length fun k14 =>
  bnd (pV h13 p0 8 9 (.ref k14)) fun h15 =>
  lt (h15 ++ [pJ 16 (fun _ => 0)]) fun h16 =>
  lt h15.length fun k17 =>
  bnd (stJ h16 k17 0 65535) fun h18 =>
  bnd (stJ h18 k17 1 65535) fun h19 =>
  bnd (stJ h19 k17 2 65535) fun h20 =>
  bnd (stJ h20 k17 3 65535) fun h21 =>
  bnd (stJ h21 k17 4 65535) fun h22 =>
  bnd (stJ h22 k17 5 65535) fun h23 =>
  bnd (stJ h23 k17 6 0) fun h24 =>
  bnd (stJ h24 k17 7 0) fun h25 =>
  bnd (stJ h25 k17 8 0) fun h26 =>
  bnd (stJ h26 k17 9 0) fun h27 =>
  bnd (stJ h27 k17 10 0) fun h28 =>
  bnd (stJ h28 k17 11 0) fun h29 =>
  bnd (stJ h29 k17 12 1) fun h30 =>
  bnd (stJ h30 k17 13 0) fun h31 =>
  bnd (stJ h31 k17 14 65535) fun h32 =>
  bnd (stJ h32 k17 15 65535) fun h33 =>
  bnd (pV h33 p0 8 10 (.ref k17)) fun h34 =>
  lt (h34 ++ [pJ 16 (fun _ => 0)]) fun h35 =>
  lt h34.length fun k36 =>
  bnd (stJ h35 k36 0 9553) fun h37 =>
  bnd (stJ h37 k36 1 64611) fun h38 =>
  bnd (stJ h38 k36 2 51906) fun h39 =>
  bnd (stJ h39 k36 3 62393) fun h40 =>
  bnd (stJ h40 k36 4 40580) fun h41 =>
  bnd (stJ h41 k36 5 42775) fun h42 =>
  bnd (stJ h42 k36 6 64173) fun h43 =>
  bnd (stJ h43 k36 7 48358) fun h44 =>
  bnd (stJ h44 k36 8 65535) fun h45 =>
  bnd (stJ h45 k36 9 65535) fun h46 =>
  bnd (stJ h46 k36 10 65535) fun h47 =>
  bnd (stJ h47 k36 11 65535) fun h48 =>
  bnd (stJ h48 k36 12 0) fun h49 =>
  bnd (stJ h49 k36 13 0) fun h50 =>
  bnd (stJ h50 k36 14 65535) fun h51 =>
  bnd (stJ h51 k36 15 65535) fun h52 =>
  bnd (pV h52 p0 8 11 (.ref k36)) fun h53 =>
  lt (h53 ++ [pJ 16 (fun _ => 0)]) fun h54 =>
  lt h53.length fun k55 =>
  bnd (stJ h54 k55 0 24651) fun h56 =>
  bnd (stJ h56 k55 1 10194) fun h57 =>
  bnd (stJ h57 k55 2 15422) fun h58 =>
  bnd (stJ h58 k55 3 15310) fun h59 =>
  bnd (stJ h59 k55 4 45302) fun h60 =>
  bnd (stJ h60 k55 5 52307) fun h61 =>
  bnd (stJ h61 k55 6 1712) fun h62 =>
  bnd (stJ h62 k55 7 25885) fun h63 =>
  bnd (stJ h63 k55 8 34492) fun h64 =>
  bnd (stJ h64 k55 9 30360) fun h65 =>
  bnd (stJ h65 k55 10 48469) fun h66 =>
  bnd (stJ h66 k55 11 46059) fun h67 =>
  bnd (stJ h67 k55 12 37863) fun h68 =>
  bnd (stJ h68 k55 13 43578) fun h69 =>
  bnd (stJ h69 k55 14 13784) fun h70 =>
  bnd (stJ h70 k55 15 23238) fun h71 =>
  bnd (pV h71 p0 8 12 (.ref k55)) fun h72 =>
  lt (h72 ++ [pJ 16 (fun _ => 0)]) fun h73 =>
  lt h72.length fun k74 =>
  bnd (stJ h73 k74 0 49814) fun h75 =>
  bnd (stJ h75 k74 1 55448) fun h76 =>
  bnd (stJ h76 k74 2 14661) fun h77 =>
  bnd (stJ h77 k74 3 62625) fun h78 =>
  bnd (stJ h78 k74 4 13216) fun h79 =>
  bnd (stJ h79 k74 5 11755) fun h80 =>
  bnd (stJ h80 k74 6 32129) fun h81 =>
  bnd (stJ h81 k74 7 30467) fun h82 =>
  bnd (stJ h82 k74 8 16626) fun h83 =>
  bnd (stJ h83 k74 9 25508) fun h84 =>
  bnd (stJ h84 k74 10 59109) fun h85 =>
  bnd (stJ h85 k74 11 63676) fun h86 =>
  bnd (stJ h86 k74 12 16967) fun h87 =>
  bnd (stJ h87 k74 13 57644) fun h88 =>
  bnd (stJ h88 k74 14 53746) fun h89 =>
  bnd (stJ h89 k74 15 27415) fun h90 =>
  bnd (pV h90 p0 8 13 (.ref k74)) fun h91 =>
  lt (h91 ++ [pJ 16 (fun _ => 0)]) fun h92 =>
  lt h91.length fun k93 =>
  bnd (stJ h92 k93 0 20981) fun h94 =>
  bnd (stJ h94 k93 1 14271) fun h95 =>
  bnd (stJ h95 k93 2 16488) fun h96 =>
  bnd (stJ h96 k93 3 52150) fun h97 =>
  bnd (stJ h97 k93 4 24270) fun h98 =>
  bnd (stJ h98 k93 5 27441) fun h99 =>
  bnd (stJ h99 k93 6 13143) fun h100 =>
  bnd (stJ h100 k93 7 11214) fun h101 =>
  bnd (stJ h101 k93 8 40470) fun h102 =>
  bnd (stJ h102 k93 9 31759) fun h103 =>
  bnd (stJ h103 k93 10 60234) fun h104 =>
  bnd (stJ h104 k93 11 36583) fun h105 =>
  bnd (stJ h105 k93 12 32667) fun h106 =>
  bnd (stJ h106 k93 13 65050) fun h107 =>
  bnd (stJ h107 k93 14 17122) fun h108 =>
  bnd (stJ h108 k93 15 20451) fun h109 =>
  bnd (pV h109 p0 8 14 (.ref k93)) fun h110 =>
  lt (h110 ++ [pJ 256 (fun _ => 0)]) fun h111 =>
  lt h110.length fun k112 =>
  bnd (pV h111 p0 8 15 (.ref k112)) fun h113 =>
  lt (h113 ++ [pJ 256 (fun _ => 0)]) fun h114 =>
  lt h113.length fun k115 =>
  bnd (pV h114 p0 8 16 (.ref k115)) fun h116 =>
  lt (h116 ++ [pJ 16 (fun _ => 0)]) fun h117 =>
  lt h116.length fun k118 =>
  bnd (pV h117 p0 8 17 (.ref k118)) fun h119 =>
  lt (h119 ++ [pJ 16 (fun _ => 0)]) fun h120 =>
  lt h119.length fun k121 =>
  bnd (pV h120 p0 8 18 (.ref k121)) fun h122 =>
  lt (h122 ++ [pJ 16 (fun _ => 0)]) fun h123 =>
  lt h122.length fun k124 =>
  bnd (pV h123 p0 8 19 (.ref k124)) fun h125 =>
  lt (h125 ++ [pJ 16 (fun _ => 0)]) fun h126 =>
  lt h125.length fun k127 =>
  bnd (pV h126 p0 8 20 (.ref k127)) fun h128 =>
  lt (h128 ++ [pJ 16 (fun _ => 0)]) fun h129 =>
  lt h128.length fun k130 =>
  bnd (pV h129 p0 8 21 (.ref k130)) fun h131 =>
  lt (h131 ++ [pJ 16 (fun _ => 0)]) fun h132 =>
  lt h131.length fun k133 =>
  bnd (pV h132 p0 8 22 (.ref k133)) fun h134 =>
  lt (h134 ++ [pJ 16 (fun _ => 0)]) fun h135 =>
  lt h134.length fun k136 =>
  bnd (pV h135 p0 8 25 (.ref k136)) fun h137 =>
  lt (h137 ++ [pJ 16 (fun _ => 0)]) fun h138 =>
  lt h137.length fun k139 =>
  bnd (pV h138 p0 8 26 (.ref k139)) fun h140 =>
  lt (h140 ++ [pJ 16 (fun _ => 0)]) fun h141 =>
  lt h140.length fun k142 =>
  bnd (pV h141 p0 8 27 (.ref k142)) fun h143 =>
  lt (h143 ++ [pJ 16 (fun _ => 0)]) fun h144 =>
  lt h143.length fun k145 =>
  bnd (pV h144 p0 8 28 (.ref k145)) fun h146 =>
  lt (h146 ++ [pJ 16 (fun _ => 0)]) fun h147 =>
  lt h146.length fun k148 =>
  bnd (pV h147 p0 8 29 (.ref k148)) fun h149 =>
  lt (h149 ++ [pJ 16 (fun _ => 0)]) fun h150 =>
  lt h149.length fun k151 =>
  bnd (pV h150 p0 8 30 (.ref k151)) fun h152 =>
  lt (h152 ++ [pJ 16 (fun _ => 0)]) fun h153 =>
  lt h152.length fun k154 =>
  bnd (pV h153 p0 8 31 (.ref k154)) fun h155 =>
  lt (h155 ++ [pJ 16 (fun _ => 0)]) fun h156 =>
  lt h155.length fun k157 =>
  bnd (pV h156 p0 8 32 (.ref k157)) fun h158 =>
  lt (h158 ++ [pB 32 (fun _ => 0)]) fun h159 =>
  lt h158.length fun k160 =>
  bnd (pV h159 p0 8 33 (.ref k160)) fun h161 =>
  lt (h161 ++ [pB 32 (fun _ => 0)]) fun h162 =>
  lt h161.length fun k163 =>
  bnd (pV h162 p0 8 34 (.ref k163)) fun h164 =>
  lt (h164 ++ [pB 256 (fun _ => 0)]) fun h165 =>
  lt h164.length fun k166 =>
  bnd (pV h165 p0 8 35 (.ref k166)) fun h167 =>
  lt (h167 ++ [pB 65600 (fun _ => 0)]) fun h168 =>
  lt h167.length fun k169 =>
  bnd (pV h168 p0 8 36 (.ref k169)) fun h170 =>
  lt (h170 ++ [pJ 32 (fun _ => 0)]) fun h171 =>
  lt h170.length fun k172 =>
  bnd (pV h171 p0 8 37 (.ref k172)) fun h173 =>
  lt (h173 ++ [pJ 18 (fun _ => 0)]) fun h174 =>
  lt h173.length fun k175 =>
  bnd (pV h174 p0 8 38 (.ref k175)) fun h176 =>
  lt (h176 ++ [pJ 16 (fun _ => 0)]) fun h177 =>
  lt h176.length fun k178 =>
  bnd (pV h177 p0 8 39 (.ref k178)) fun h179 =>
  lt (h179 ++ [pJ 16 (fun _ => 0)]) fun h180 =>
  lt h179.length fun k181 =>
  bnd (pV h180 p0 8 40 (.ref k181)) fun h182 =>
  lt (h182 ++ [pJ 17 (fun _ => 0)]) fun h183 =>
  lt h182.length fun k184 =>
  bnd (pV h183 p0 8 41 (.ref k184)) fun h185 =>
  lt (h185 ++ [pJ 17 (fun _ => 0)]) fun h186 =>
  lt h185.length fun k187 =>
  bnd (pV h186 p0 8 42 (.ref k187)) fun h188 =>
  lt (h188 ++ [pJ 80 (fun _ => 0)]) fun h189 =>
  lt h188.length fun k190 =>
  bnd (pV h189 p0 8 43 (.ref k190)) fun h191 =>
  lt (h191 ++ [pJ 8 (fun _ => 0)]) fun h192 =>
  lt h191.length fun k193 =>
  bnd (pV h192 p0 8 44 (.ref k193)) fun h194 =>
  lt (h194 ++ [pI 64 (fun _ => 0)]) fun h195 =>
  lt h194.length fun k196 =>
  bnd (pV h195 p0 8 45 (.ref k196)) fun h197 =>
  lt (h197 ++ [pI 8 (fun _ => 0)]) fun h198 =>
  lt h197.length fun k199 =>
  bnd (pV h198 p0 8 46 (.ref k199)) fun h200 =>
  lt (h200 ++ [pJ 8 (fun _ => 0)]) fun h201 =>
  lt h200.length fun k202 =>
  bnd (pV h201 p0 8 47 (.ref k202)) fun h203 =>
  lt (h203 ++ [pJ 8 (fun _ => 0)]) fun h204 =>
  lt h203.length fun k205 =>
  bnd (pV h204 p0 8 48 (.ref k205)) fun h206 =>
  lt (h206 ++ [pB 32 (fun _ => 0)]) fun h207 =>
  lt h206.length fun k208 =>
  bnd (pV h207 p0 8 49 (.ref k208)) fun h209 =>
  ob h209 p0 8 (
  bnd (P_Rm_constants h209 p0) fun h210 =>
  bnd (gR h210 p0 8 15) fun k211 =>
  bnd (gR h210 p0 8 10) fun k212 =>
  bnd (gR h210 p0 8 25) fun k213 =>
  bnd (P_Rm_remainders h210 k211 k212 k213) fun h214 =>
  bnd (gR h214 p0 8 16) fun k215 =>
  bnd (gR h214 p0 8 11) fun k216 =>
  bnd (gR h214 p0 8 25) fun k217 =>
  bnd (P_Rm_remainders h214 k215 k216 k217) fun h218 =>
  some h218)
set_option maxHeartbeats 4000000 in
set_option maxRecDepth 100000 in
theorem c_Rm_new {l : Launch} {h h' : HP} {p0 : _} (hr : P_Rm_new h p0 = some h') : MP l y_Rm_new (Cond.code y_Rm_new b_Rm_new 1 none :: TB) rm_Rm_new h [.ref p0] none h' := by
  refine MP_intro (cc := b_Rm_new) (by decide) (Nat.le_of_ble_eq_true rfl) (fun x hl0 C T hin => ?_)
  unfold P_Rm_new at hr
  show GG x 0 0 h 0 [(0, .ref p0)] []
  refine g_aload_n C 0 rfl d_Rm_new_0 rfl ?_
  refine g_objInit C kw_31 kw_oi kw_oc (by decide) (Nat.le_of_ble_eq_true rfl) d_Rm_new_1 ?_
  refine g_aload_n C 0 rfl d_Rm_new_4 rfl ?_
  refine g_ldc (v := 65536) C d_Rm_new_5 kw_21 ?_
  obtain ⟨h1, eh1⟩ : ∃ z, z = h ++ [pB 65536 (fun _ => 0)] := ⟨_, rfl⟩
  have hr := of_lt eh1 hr
  obtain ⟨k2, ek2⟩ : ∃ z, z = h.length := ⟨_, rfl⟩
  have hr := of_lt ek2 hr
  refine g_newBE (n' := 65536) C eh1 ek2 (by decide) (by decide) (by decide) (by decide) (by decide) d_Rm_new_7 ?_
  obtain ⟨h3, eh3, hr⟩ := of_bnd hr
  refine g_putF C fp_Rm_8 hin rfl eh3 (fun _ => rfl) (fun _ => rfl) d_Rm_new_9 ?_
  refine g_aload_n C 0 rfl d_Rm_new_12 rfl ?_
  refine g_ldc (v := 65536) C d_Rm_new_13 kw_21 ?_
  obtain ⟨h4, eh4⟩ : ∃ z, z = h3 ++ [pB 65536 (fun _ => 0)] := ⟨_, rfl⟩
  have hr := of_lt eh4 hr
  obtain ⟨k5, ek5⟩ : ∃ z, z = h3.length := ⟨_, rfl⟩
  have hr := of_lt ek5 hr
  refine g_newBE (n' := 65536) C eh4 ek5 (by decide) (by decide) (by decide) (by decide) (by decide) d_Rm_new_15 ?_
  obtain ⟨h6, eh6, hr⟩ := of_bnd hr
  refine g_putF C fp_Rm_14 hin rfl eh6 (fun _ => rfl) (fun _ => rfl) d_Rm_new_17 ?_
  refine g_aload_n C 0 rfl d_Rm_new_20 rfl ?_
  refine g_bipush (v := 80) C d_Rm_new_21 (by decide) ?_
  obtain ⟨h7, eh7⟩ : ∃ z, z = h6 ++ [pB 80 (fun _ => 0)] := ⟨_, rfl⟩
  have hr := of_lt eh7 hr
  obtain ⟨k8, ek8⟩ : ∃ z, z = h6.length := ⟨_, rfl⟩
  have hr := of_lt ek8 hr
  refine g_newBE (n' := 80) C eh7 ek8 (by decide) (by decide) (by decide) (by decide) (by decide) d_Rm_new_23 ?_
  obtain ⟨h9, eh9, hr⟩ := of_bnd hr
  refine g_putF C fp_Rm_17 hin rfl eh9 (fun _ => rfl) (fun _ => rfl) d_Rm_new_25 ?_
  refine g_aload_n C 0 rfl d_Rm_new_28 rfl ?_
  refine g_sipush (v := 3200) C d_Rm_new_29 (by decide) ?_
  obtain ⟨h10, eh10⟩ : ∃ z, z = h9 ++ [pB 3200 (fun _ => 0)] := ⟨_, rfl⟩
  have hr := of_lt eh10 hr
  obtain ⟨k11, ek11⟩ : ∃ z, z = h9.length := ⟨_, rfl⟩
  have hr := of_lt ek11 hr
  refine g_newBE (n' := 3200) C eh10 ek11 (by decide) (by decide) (by decide) (by decide) (by decide) d_Rm_new_32 ?_
  obtain ⟨h12, eh12, hr⟩ := of_bnd hr
  refine g_putF C fp_Rm_20 hin rfl eh12 (fun _ => rfl) (fun _ => rfl) d_Rm_new_34 ?_
  refine g_aload_n C 0 rfl d_Rm_new_37 rfl ?_
  refine g_bipush (v := 6) C d_Rm_new_38 (by decide) ?_
  obtain ⟨h13, eh13⟩ : ∃ z, z = h12 ++ [pI 6 (fun _ => 0)] := ⟨_, rfl⟩
  have hr := of_lt eh13 hr
  obtain ⟨k14, ek14⟩ : ∃ z, z = h12.length := ⟨_, rfl⟩
  have hr := of_lt ek14 hr
  refine g_newIE (n' := 6) C eh13 ek14 (by decide) (by decide) (by decide) (by decide) (by decide) d_Rm_new_40 ?_
  obtain ⟨h15, eh15, hr⟩ := of_bnd hr
  refine g_putF C fp_Rm_23 hin rfl eh15 (fun _ => rfl) (fun _ => rfl) d_Rm_new_42 ?_
  refine g_aload_n C 0 rfl d_Rm_new_45 rfl ?_
  refine g_bipush (v := 16) C d_Rm_new_46 (by decide) ?_
  obtain ⟨h16, eh16⟩ : ∃ z, z = h15 ++ [pJ 16 (fun _ => 0)] := ⟨_, rfl⟩
  have hr := of_lt eh16 hr
  obtain ⟨k17, ek17⟩ : ∃ z, z = h15.length := ⟨_, rfl⟩
  have hr := of_lt ek17 hr
  refine g_newJE (n' := 16) C eh16 ek17 (by decide) (by decide) (by decide) (by decide) (by decide) d_Rm_new_48 ?_
  refine g_dup C d_Rm_new_50 rfl ?_
  refine g_iconst (v := 0) C d_Rm_new_51 (by decide) ?_
  refine g_ldc2 (v := 65535) C d_Rm_new_52 kw_17 ?_
  obtain ⟨h18, eh18, hr⟩ := of_bnd hr
  refine g_lastore C eh18 d_Rm_new_55 ?_
  refine g_dup C d_Rm_new_56 rfl ?_
  refine g_iconst (v := 1) C d_Rm_new_57 (by decide) ?_
  refine g_ldc2 (v := 65535) C d_Rm_new_58 kw_17 ?_
  obtain ⟨h19, eh19, hr⟩ := of_bnd hr
  refine g_lastore C eh19 d_Rm_new_61 ?_
  refine g_dup C d_Rm_new_62 rfl ?_
  refine g_iconst (v := 2) C d_Rm_new_63 (by decide) ?_
  refine g_ldc2 (v := 65535) C d_Rm_new_64 kw_17 ?_
  obtain ⟨h20, eh20, hr⟩ := of_bnd hr
  refine g_lastore C eh20 d_Rm_new_67 ?_
  refine g_dup C d_Rm_new_68 rfl ?_
  refine g_iconst (v := 3) C d_Rm_new_69 (by decide) ?_
  refine g_ldc2 (v := 65535) C d_Rm_new_70 kw_17 ?_
  obtain ⟨h21, eh21, hr⟩ := of_bnd hr
  refine g_lastore C eh21 d_Rm_new_73 ?_
  refine g_dup C d_Rm_new_74 rfl ?_
  refine g_iconst (v := 4) C d_Rm_new_75 (by decide) ?_
  refine g_ldc2 (v := 65535) C d_Rm_new_76 kw_17 ?_
  obtain ⟨h22, eh22, hr⟩ := of_bnd hr
  refine g_lastore C eh22 d_Rm_new_79 ?_
  refine g_dup C d_Rm_new_80 rfl ?_
  refine g_iconst (v := 5) C d_Rm_new_81 (by decide) ?_
  refine g_ldc2 (v := 65535) C d_Rm_new_82 kw_17 ?_
  obtain ⟨h23, eh23, hr⟩ := of_bnd hr
  refine g_lastore C eh23 d_Rm_new_85 ?_
  refine g_dup C d_Rm_new_86 rfl ?_
  refine g_bipush (v := 6) C d_Rm_new_87 (by decide) ?_
  refine g_lconst (v := 0) C d_Rm_new_89 (by decide) ?_
  obtain ⟨h24, eh24, hr⟩ := of_bnd hr
  refine g_lastore C eh24 d_Rm_new_90 ?_
  refine g_dup C d_Rm_new_91 rfl ?_
  refine g_bipush (v := 7) C d_Rm_new_92 (by decide) ?_
  refine g_lconst (v := 0) C d_Rm_new_94 (by decide) ?_
  obtain ⟨h25, eh25, hr⟩ := of_bnd hr
  refine g_lastore C eh25 d_Rm_new_95 ?_
  refine g_dup C d_Rm_new_96 rfl ?_
  refine g_bipush (v := 8) C d_Rm_new_97 (by decide) ?_
  refine g_lconst (v := 0) C d_Rm_new_99 (by decide) ?_
  obtain ⟨h26, eh26, hr⟩ := of_bnd hr
  refine g_lastore C eh26 d_Rm_new_100 ?_
  refine g_dup C d_Rm_new_101 rfl ?_
  refine g_bipush (v := 9) C d_Rm_new_102 (by decide) ?_
  refine g_lconst (v := 0) C d_Rm_new_104 (by decide) ?_
  obtain ⟨h27, eh27, hr⟩ := of_bnd hr
  refine g_lastore C eh27 d_Rm_new_105 ?_
  refine g_dup C d_Rm_new_106 rfl ?_
  refine g_bipush (v := 10) C d_Rm_new_107 (by decide) ?_
  refine g_lconst (v := 0) C d_Rm_new_109 (by decide) ?_
  obtain ⟨h28, eh28, hr⟩ := of_bnd hr
  refine g_lastore C eh28 d_Rm_new_110 ?_
  refine g_dup C d_Rm_new_111 rfl ?_
  refine g_bipush (v := 11) C d_Rm_new_112 (by decide) ?_
  refine g_lconst (v := 0) C d_Rm_new_114 (by decide) ?_
  obtain ⟨h29, eh29, hr⟩ := of_bnd hr
  refine g_lastore C eh29 d_Rm_new_115 ?_
  refine g_dup C d_Rm_new_116 rfl ?_
  refine g_bipush (v := 12) C d_Rm_new_117 (by decide) ?_
  refine g_lconst (v := 1) C d_Rm_new_119 (by decide) ?_
  obtain ⟨h30, eh30, hr⟩ := of_bnd hr
  refine g_lastore C eh30 d_Rm_new_120 ?_
  refine g_dup C d_Rm_new_121 rfl ?_
  refine g_bipush (v := 13) C d_Rm_new_122 (by decide) ?_
  refine g_lconst (v := 0) C d_Rm_new_124 (by decide) ?_
  obtain ⟨h31, eh31, hr⟩ := of_bnd hr
  refine g_lastore C eh31 d_Rm_new_125 ?_
  refine g_dup C d_Rm_new_126 rfl ?_
  refine g_bipush (v := 14) C d_Rm_new_127 (by decide) ?_
  refine g_ldc2 (v := 65535) C d_Rm_new_129 kw_17 ?_
  obtain ⟨h32, eh32, hr⟩ := of_bnd hr
  refine g_lastore C eh32 d_Rm_new_132 ?_
  refine g_dup C d_Rm_new_133 rfl ?_
  refine g_bipush (v := 15) C d_Rm_new_134 (by decide) ?_
  refine g_ldc2 (v := 65535) C d_Rm_new_136 kw_17 ?_
  obtain ⟨h33, eh33, hr⟩ := of_bnd hr
  refine g_lastore C eh33 d_Rm_new_139 ?_
  obtain ⟨h34, eh34, hr⟩ := of_bnd hr
  refine g_putF C fp_Rm_29 hin rfl eh34 (fun _ => rfl) (fun _ => rfl) d_Rm_new_140 ?_
  refine g_aload_n C 0 rfl d_Rm_new_143 rfl ?_
  refine g_bipush (v := 16) C d_Rm_new_144 (by decide) ?_
  obtain ⟨h35, eh35⟩ : ∃ z, z = h34 ++ [pJ 16 (fun _ => 0)] := ⟨_, rfl⟩
  have hr := of_lt eh35 hr
  obtain ⟨k36, ek36⟩ : ∃ z, z = h34.length := ⟨_, rfl⟩
  have hr := of_lt ek36 hr
  refine g_newJE (n' := 16) C eh35 ek36 (by decide) (by decide) (by decide) (by decide) (by decide) d_Rm_new_146 ?_
  refine g_dup C d_Rm_new_148 rfl ?_
  refine g_iconst (v := 0) C d_Rm_new_149 (by decide) ?_
  refine g_ldc2 (v := 9553) C d_Rm_new_150 kw_32 ?_
  obtain ⟨h37, eh37, hr⟩ := of_bnd hr
  refine g_lastore C eh37 d_Rm_new_153 ?_
  refine g_dup C d_Rm_new_154 rfl ?_
  refine g_iconst (v := 1) C d_Rm_new_155 (by decide) ?_
  refine g_ldc2 (v := 64611) C d_Rm_new_156 kw_33 ?_
  obtain ⟨h38, eh38, hr⟩ := of_bnd hr
  refine g_lastore C eh38 d_Rm_new_159 ?_
  refine g_dup C d_Rm_new_160 rfl ?_
  refine g_iconst (v := 2) C d_Rm_new_161 (by decide) ?_
  refine g_ldc2 (v := 51906) C d_Rm_new_162 kw_34 ?_
  obtain ⟨h39, eh39, hr⟩ := of_bnd hr
  refine g_lastore C eh39 d_Rm_new_165 ?_
  refine g_dup C d_Rm_new_166 rfl ?_
  refine g_iconst (v := 3) C d_Rm_new_167 (by decide) ?_
  refine g_ldc2 (v := 62393) C d_Rm_new_168 kw_35 ?_
  obtain ⟨h40, eh40, hr⟩ := of_bnd hr
  refine g_lastore C eh40 d_Rm_new_171 ?_
  refine g_dup C d_Rm_new_172 rfl ?_
  refine g_iconst (v := 4) C d_Rm_new_173 (by decide) ?_
  refine g_ldc2 (v := 40580) C d_Rm_new_174 kw_36 ?_
  obtain ⟨h41, eh41, hr⟩ := of_bnd hr
  refine g_lastore C eh41 d_Rm_new_177 ?_
  refine g_dup C d_Rm_new_178 rfl ?_
  refine g_iconst (v := 5) C d_Rm_new_179 (by decide) ?_
  refine g_ldc2 (v := 42775) C d_Rm_new_180 kw_37 ?_
  obtain ⟨h42, eh42, hr⟩ := of_bnd hr
  refine g_lastore C eh42 d_Rm_new_183 ?_
  refine g_dup C d_Rm_new_184 rfl ?_
  refine g_bipush (v := 6) C d_Rm_new_185 (by decide) ?_
  refine g_ldc2 (v := 64173) C d_Rm_new_187 kw_38 ?_
  obtain ⟨h43, eh43, hr⟩ := of_bnd hr
  refine g_lastore C eh43 d_Rm_new_190 ?_
  refine g_dup C d_Rm_new_191 rfl ?_
  refine g_bipush (v := 7) C d_Rm_new_192 (by decide) ?_
  refine g_ldc2 (v := 48358) C d_Rm_new_194 kw_39 ?_
  obtain ⟨h44, eh44, hr⟩ := of_bnd hr
  refine g_lastore C eh44 d_Rm_new_197 ?_
  refine g_dup C d_Rm_new_198 rfl ?_
  refine g_bipush (v := 8) C d_Rm_new_199 (by decide) ?_
  refine g_ldc2 (v := 65535) C d_Rm_new_201 kw_17 ?_
  obtain ⟨h45, eh45, hr⟩ := of_bnd hr
  refine g_lastore C eh45 d_Rm_new_204 ?_
  refine g_dup C d_Rm_new_205 rfl ?_
  refine g_bipush (v := 9) C d_Rm_new_206 (by decide) ?_
  refine g_ldc2 (v := 65535) C d_Rm_new_208 kw_17 ?_
  obtain ⟨h46, eh46, hr⟩ := of_bnd hr
  refine g_lastore C eh46 d_Rm_new_211 ?_
  refine g_dup C d_Rm_new_212 rfl ?_
  refine g_bipush (v := 10) C d_Rm_new_213 (by decide) ?_
  refine g_ldc2 (v := 65535) C d_Rm_new_215 kw_17 ?_
  obtain ⟨h47, eh47, hr⟩ := of_bnd hr
  refine g_lastore C eh47 d_Rm_new_218 ?_
  refine g_dup C d_Rm_new_219 rfl ?_
  refine g_bipush (v := 11) C d_Rm_new_220 (by decide) ?_
  refine g_ldc2 (v := 65535) C d_Rm_new_222 kw_17 ?_
  obtain ⟨h48, eh48, hr⟩ := of_bnd hr
  refine g_lastore C eh48 d_Rm_new_225 ?_
  refine g_dup C d_Rm_new_226 rfl ?_
  refine g_bipush (v := 12) C d_Rm_new_227 (by decide) ?_
  refine g_lconst (v := 0) C d_Rm_new_229 (by decide) ?_
  obtain ⟨h49, eh49, hr⟩ := of_bnd hr
  refine g_lastore C eh49 d_Rm_new_230 ?_
  refine g_dup C d_Rm_new_231 rfl ?_
  refine g_bipush (v := 13) C d_Rm_new_232 (by decide) ?_
  refine g_lconst (v := 0) C d_Rm_new_234 (by decide) ?_
  obtain ⟨h50, eh50, hr⟩ := of_bnd hr
  refine g_lastore C eh50 d_Rm_new_235 ?_
  refine g_dup C d_Rm_new_236 rfl ?_
  refine g_bipush (v := 14) C d_Rm_new_237 (by decide) ?_
  refine g_ldc2 (v := 65535) C d_Rm_new_239 kw_17 ?_
  obtain ⟨h51, eh51, hr⟩ := of_bnd hr
  refine g_lastore C eh51 d_Rm_new_242 ?_
  refine g_dup C d_Rm_new_243 rfl ?_
  refine g_bipush (v := 15) C d_Rm_new_244 (by decide) ?_
  refine g_ldc2 (v := 65535) C d_Rm_new_246 kw_17 ?_
  obtain ⟨h52, eh52, hr⟩ := of_bnd hr
  refine g_lastore C eh52 d_Rm_new_249 ?_
  obtain ⟨h53, eh53, hr⟩ := of_bnd hr
  refine g_putF C fp_Rm_49 hin rfl eh53 (fun _ => rfl) (fun _ => rfl) d_Rm_new_250 ?_
  refine g_aload_n C 0 rfl d_Rm_new_253 rfl ?_
  refine g_bipush (v := 16) C d_Rm_new_254 (by decide) ?_
  obtain ⟨h54, eh54⟩ : ∃ z, z = h53 ++ [pJ 16 (fun _ => 0)] := ⟨_, rfl⟩
  have hr := of_lt eh54 hr
  obtain ⟨k55, ek55⟩ : ∃ z, z = h53.length := ⟨_, rfl⟩
  have hr := of_lt ek55 hr
  refine g_newJE (n' := 16) C eh54 ek55 (by decide) (by decide) (by decide) (by decide) (by decide) d_Rm_new_256 ?_
  refine g_dup C d_Rm_new_258 rfl ?_
  refine g_iconst (v := 0) C d_Rm_new_259 (by decide) ?_
  refine g_ldc2 (v := 24651) C d_Rm_new_260 kw_40 ?_
  obtain ⟨h56, eh56, hr⟩ := of_bnd hr
  refine g_lastore C eh56 d_Rm_new_263 ?_
  refine g_dup C d_Rm_new_264 rfl ?_
  refine g_iconst (v := 1) C d_Rm_new_265 (by decide) ?_
  refine g_ldc2 (v := 10194) C d_Rm_new_266 kw_41 ?_
  obtain ⟨h57, eh57, hr⟩ := of_bnd hr
  refine g_lastore C eh57 d_Rm_new_269 ?_
  refine g_dup C d_Rm_new_270 rfl ?_
  refine g_iconst (v := 2) C d_Rm_new_271 (by decide) ?_
  refine g_ldc2 (v := 15422) C d_Rm_new_272 kw_42 ?_
  obtain ⟨h58, eh58, hr⟩ := of_bnd hr
  refine g_lastore C eh58 d_Rm_new_275 ?_
  refine g_dup C d_Rm_new_276 rfl ?_
  refine g_iconst (v := 3) C d_Rm_new_277 (by decide) ?_
  refine g_ldc2 (v := 15310) C d_Rm_new_278 kw_43 ?_
  obtain ⟨h59, eh59, hr⟩ := of_bnd hr
  refine g_lastore C eh59 d_Rm_new_281 ?_
  refine g_dup C d_Rm_new_282 rfl ?_
  refine g_iconst (v := 4) C d_Rm_new_283 (by decide) ?_
  refine g_ldc2 (v := 45302) C d_Rm_new_284 kw_44 ?_
  obtain ⟨h60, eh60, hr⟩ := of_bnd hr
  refine g_lastore C eh60 d_Rm_new_287 ?_
  refine g_dup C d_Rm_new_288 rfl ?_
  refine g_iconst (v := 5) C d_Rm_new_289 (by decide) ?_
  refine g_ldc2 (v := 52307) C d_Rm_new_290 kw_45 ?_
  obtain ⟨h61, eh61, hr⟩ := of_bnd hr
  refine g_lastore C eh61 d_Rm_new_293 ?_
  refine g_dup C d_Rm_new_294 rfl ?_
  refine g_bipush (v := 6) C d_Rm_new_295 (by decide) ?_
  refine g_ldc2 (v := 1712) C d_Rm_new_297 kw_46 ?_
  obtain ⟨h62, eh62, hr⟩ := of_bnd hr
  refine g_lastore C eh62 d_Rm_new_300 ?_
  refine g_dup C d_Rm_new_301 rfl ?_
  refine g_bipush (v := 7) C d_Rm_new_302 (by decide) ?_
  refine g_ldc2 (v := 25885) C d_Rm_new_304 kw_47 ?_
  obtain ⟨h63, eh63, hr⟩ := of_bnd hr
  refine g_lastore C eh63 d_Rm_new_307 ?_
  refine g_dup C d_Rm_new_308 rfl ?_
  refine g_bipush (v := 8) C d_Rm_new_309 (by decide) ?_
  refine g_ldc2 (v := 34492) C d_Rm_new_311 kw_48 ?_
  obtain ⟨h64, eh64, hr⟩ := of_bnd hr
  refine g_lastore C eh64 d_Rm_new_314 ?_
  refine g_dup C d_Rm_new_315 rfl ?_
  refine g_bipush (v := 9) C d_Rm_new_316 (by decide) ?_
  refine g_ldc2 (v := 30360) C d_Rm_new_318 kw_49 ?_
  obtain ⟨h65, eh65, hr⟩ := of_bnd hr
  refine g_lastore C eh65 d_Rm_new_321 ?_
  refine g_dup C d_Rm_new_322 rfl ?_
  refine g_bipush (v := 10) C d_Rm_new_323 (by decide) ?_
  refine g_ldc2 (v := 48469) C d_Rm_new_325 kw_50 ?_
  obtain ⟨h66, eh66, hr⟩ := of_bnd hr
  refine g_lastore C eh66 d_Rm_new_328 ?_
  refine g_dup C d_Rm_new_329 rfl ?_
  refine g_bipush (v := 11) C d_Rm_new_330 (by decide) ?_
  refine g_ldc2 (v := 46059) C d_Rm_new_332 kw_51 ?_
  obtain ⟨h67, eh67, hr⟩ := of_bnd hr
  refine g_lastore C eh67 d_Rm_new_335 ?_
  refine g_dup C d_Rm_new_336 rfl ?_
  refine g_bipush (v := 12) C d_Rm_new_337 (by decide) ?_
  refine g_ldc2 (v := 37863) C d_Rm_new_339 kw_52 ?_
  obtain ⟨h68, eh68, hr⟩ := of_bnd hr
  refine g_lastore C eh68 d_Rm_new_342 ?_
  refine g_dup C d_Rm_new_343 rfl ?_
  refine g_bipush (v := 13) C d_Rm_new_344 (by decide) ?_
  refine g_ldc2 (v := 43578) C d_Rm_new_346 kw_53 ?_
  obtain ⟨h69, eh69, hr⟩ := of_bnd hr
  refine g_lastore C eh69 d_Rm_new_349 ?_
  refine g_dup C d_Rm_new_350 rfl ?_
  refine g_bipush (v := 14) C d_Rm_new_351 (by decide) ?_
  refine g_ldc2 (v := 13784) C d_Rm_new_353 kw_54 ?_
  obtain ⟨h70, eh70, hr⟩ := of_bnd hr
  refine g_lastore C eh70 d_Rm_new_356 ?_
  refine g_dup C d_Rm_new_357 rfl ?_
  refine g_bipush (v := 15) C d_Rm_new_358 (by decide) ?_
  refine g_ldc2 (v := 23238) C d_Rm_new_360 kw_55 ?_
  obtain ⟨h71, eh71, hr⟩ := of_bnd hr
  refine g_lastore C eh71 d_Rm_new_363 ?_
  obtain ⟨h72, eh72, hr⟩ := of_bnd hr
  refine g_putF C fp_Rm_84 hin rfl eh72 (fun _ => rfl) (fun _ => rfl) d_Rm_new_364 ?_
  refine g_aload_n C 0 rfl d_Rm_new_367 rfl ?_
  refine g_bipush (v := 16) C d_Rm_new_368 (by decide) ?_
  obtain ⟨h73, eh73⟩ : ∃ z, z = h72 ++ [pJ 16 (fun _ => 0)] := ⟨_, rfl⟩
  have hr := of_lt eh73 hr
  obtain ⟨k74, ek74⟩ : ∃ z, z = h72.length := ⟨_, rfl⟩
  have hr := of_lt ek74 hr
  refine g_newJE (n' := 16) C eh73 ek74 (by decide) (by decide) (by decide) (by decide) (by decide) d_Rm_new_370 ?_
  refine g_dup C d_Rm_new_372 rfl ?_
  refine g_iconst (v := 0) C d_Rm_new_373 (by decide) ?_
  refine g_ldc2 (v := 49814) C d_Rm_new_374 kw_56 ?_
  obtain ⟨h75, eh75, hr⟩ := of_bnd hr
  refine g_lastore C eh75 d_Rm_new_377 ?_
  refine g_dup C d_Rm_new_378 rfl ?_
  refine g_iconst (v := 1) C d_Rm_new_379 (by decide) ?_
  refine g_ldc2 (v := 55448) C d_Rm_new_380 kw_57 ?_
  obtain ⟨h76, eh76, hr⟩ := of_bnd hr
  refine g_lastore C eh76 d_Rm_new_383 ?_
  refine g_dup C d_Rm_new_384 rfl ?_
  refine g_iconst (v := 2) C d_Rm_new_385 (by decide) ?_
  refine g_ldc2 (v := 14661) C d_Rm_new_386 kw_58 ?_
  obtain ⟨h77, eh77, hr⟩ := of_bnd hr
  refine g_lastore C eh77 d_Rm_new_389 ?_
  refine g_dup C d_Rm_new_390 rfl ?_
  refine g_iconst (v := 3) C d_Rm_new_391 (by decide) ?_
  refine g_ldc2 (v := 62625) C d_Rm_new_392 kw_59 ?_
  obtain ⟨h78, eh78, hr⟩ := of_bnd hr
  refine g_lastore C eh78 d_Rm_new_395 ?_
  refine g_dup C d_Rm_new_396 rfl ?_
  refine g_iconst (v := 4) C d_Rm_new_397 (by decide) ?_
  refine g_ldc2 (v := 13216) C d_Rm_new_398 kw_60 ?_
  obtain ⟨h79, eh79, hr⟩ := of_bnd hr
  refine g_lastore C eh79 d_Rm_new_401 ?_
  refine g_dup C d_Rm_new_402 rfl ?_
  refine g_iconst (v := 5) C d_Rm_new_403 (by decide) ?_
  refine g_ldc2 (v := 11755) C d_Rm_new_404 kw_61 ?_
  obtain ⟨h80, eh80, hr⟩ := of_bnd hr
  refine g_lastore C eh80 d_Rm_new_407 ?_
  refine g_dup C d_Rm_new_408 rfl ?_
  refine g_bipush (v := 6) C d_Rm_new_409 (by decide) ?_
  refine g_ldc2 (v := 32129) C d_Rm_new_411 kw_62 ?_
  obtain ⟨h81, eh81, hr⟩ := of_bnd hr
  refine g_lastore C eh81 d_Rm_new_414 ?_
  refine g_dup C d_Rm_new_415 rfl ?_
  refine g_bipush (v := 7) C d_Rm_new_416 (by decide) ?_
  refine g_ldc2 (v := 30467) C d_Rm_new_418 kw_63 ?_
  obtain ⟨h82, eh82, hr⟩ := of_bnd hr
  refine g_lastore C eh82 d_Rm_new_421 ?_
  refine g_dup C d_Rm_new_422 rfl ?_
  refine g_bipush (v := 8) C d_Rm_new_423 (by decide) ?_
  refine g_ldc2 (v := 16626) C d_Rm_new_425 kw_64 ?_
  obtain ⟨h83, eh83, hr⟩ := of_bnd hr
  refine g_lastore C eh83 d_Rm_new_428 ?_
  refine g_dup C d_Rm_new_429 rfl ?_
  refine g_bipush (v := 9) C d_Rm_new_430 (by decide) ?_
  refine g_ldc2 (v := 25508) C d_Rm_new_432 kw_65 ?_
  obtain ⟨h84, eh84, hr⟩ := of_bnd hr
  refine g_lastore C eh84 d_Rm_new_435 ?_
  refine g_dup C d_Rm_new_436 rfl ?_
  refine g_bipush (v := 10) C d_Rm_new_437 (by decide) ?_
  refine g_ldc2 (v := 59109) C d_Rm_new_439 kw_66 ?_
  obtain ⟨h85, eh85, hr⟩ := of_bnd hr
  refine g_lastore C eh85 d_Rm_new_442 ?_
  refine g_dup C d_Rm_new_443 rfl ?_
  refine g_bipush (v := 11) C d_Rm_new_444 (by decide) ?_
  refine g_ldc2 (v := 63676) C d_Rm_new_446 kw_67 ?_
  obtain ⟨h86, eh86, hr⟩ := of_bnd hr
  refine g_lastore C eh86 d_Rm_new_449 ?_
  refine g_dup C d_Rm_new_450 rfl ?_
  refine g_bipush (v := 12) C d_Rm_new_451 (by decide) ?_
  refine g_ldc2 (v := 16967) C d_Rm_new_453 kw_68 ?_
  obtain ⟨h87, eh87, hr⟩ := of_bnd hr
  refine g_lastore C eh87 d_Rm_new_456 ?_
  refine g_dup C d_Rm_new_457 rfl ?_
  refine g_bipush (v := 13) C d_Rm_new_458 (by decide) ?_
  refine g_ldc2 (v := 57644) C d_Rm_new_460 kw_69 ?_
  obtain ⟨h88, eh88, hr⟩ := of_bnd hr
  refine g_lastore C eh88 d_Rm_new_463 ?_
  refine g_dup C d_Rm_new_464 rfl ?_
  refine g_bipush (v := 14) C d_Rm_new_465 (by decide) ?_
  refine g_ldc2 (v := 53746) C d_Rm_new_467 kw_70 ?_
  obtain ⟨h89, eh89, hr⟩ := of_bnd hr
  refine g_lastore C eh89 d_Rm_new_470 ?_
  refine g_dup C d_Rm_new_471 rfl ?_
  refine g_bipush (v := 15) C d_Rm_new_472 (by decide) ?_
  refine g_ldc2 (v := 27415) C d_Rm_new_474 kw_71 ?_
  obtain ⟨h90, eh90, hr⟩ := of_bnd hr
  refine g_lastore C eh90 d_Rm_new_477 ?_
  obtain ⟨h91, eh91, hr⟩ := of_bnd hr
  refine g_putF C fp_Rm_119 hin rfl eh91 (fun _ => rfl) (fun _ => rfl) d_Rm_new_478 ?_
  refine g_aload_n C 0 rfl d_Rm_new_481 rfl ?_
  refine g_bipush (v := 16) C d_Rm_new_482 (by decide) ?_
  obtain ⟨h92, eh92⟩ : ∃ z, z = h91 ++ [pJ 16 (fun _ => 0)] := ⟨_, rfl⟩
  have hr := of_lt eh92 hr
  obtain ⟨k93, ek93⟩ : ∃ z, z = h91.length := ⟨_, rfl⟩
  have hr := of_lt ek93 hr
  refine g_newJE (n' := 16) C eh92 ek93 (by decide) (by decide) (by decide) (by decide) (by decide) d_Rm_new_484 ?_
  refine g_dup C d_Rm_new_486 rfl ?_
  refine g_iconst (v := 0) C d_Rm_new_487 (by decide) ?_
  refine g_ldc2 (v := 20981) C d_Rm_new_488 kw_72 ?_
  obtain ⟨h94, eh94, hr⟩ := of_bnd hr
  refine g_lastore C eh94 d_Rm_new_491 ?_
  refine g_dup C d_Rm_new_492 rfl ?_
  refine g_iconst (v := 1) C d_Rm_new_493 (by decide) ?_
  refine g_ldc2 (v := 14271) C d_Rm_new_494 kw_73 ?_
  obtain ⟨h95, eh95, hr⟩ := of_bnd hr
  refine g_lastore C eh95 d_Rm_new_497 ?_
  refine g_dup C d_Rm_new_498 rfl ?_
  refine g_iconst (v := 2) C d_Rm_new_499 (by decide) ?_
  refine g_ldc2 (v := 16488) C d_Rm_new_500 kw_74 ?_
  obtain ⟨h96, eh96, hr⟩ := of_bnd hr
  refine g_lastore C eh96 d_Rm_new_503 ?_
  refine g_dup C d_Rm_new_504 rfl ?_
  refine g_iconst (v := 3) C d_Rm_new_505 (by decide) ?_
  refine g_ldc2 (v := 52150) C d_Rm_new_506 kw_75 ?_
  obtain ⟨h97, eh97, hr⟩ := of_bnd hr
  refine g_lastore C eh97 d_Rm_new_509 ?_
  refine g_dup C d_Rm_new_510 rfl ?_
  refine g_iconst (v := 4) C d_Rm_new_511 (by decide) ?_
  refine g_ldc2 (v := 24270) C d_Rm_new_512 kw_76 ?_
  obtain ⟨h98, eh98, hr⟩ := of_bnd hr
  refine g_lastore C eh98 d_Rm_new_515 ?_
  refine g_dup C d_Rm_new_516 rfl ?_
  refine g_iconst (v := 5) C d_Rm_new_517 (by decide) ?_
  refine g_ldc2 (v := 27441) C d_Rm_new_518 kw_77 ?_
  obtain ⟨h99, eh99, hr⟩ := of_bnd hr
  refine g_lastore C eh99 d_Rm_new_521 ?_
  refine g_dup C d_Rm_new_522 rfl ?_
  refine g_bipush (v := 6) C d_Rm_new_523 (by decide) ?_
  refine g_ldc2 (v := 13143) C d_Rm_new_525 kw_78 ?_
  obtain ⟨h100, eh100, hr⟩ := of_bnd hr
  refine g_lastore C eh100 d_Rm_new_528 ?_
  refine g_dup C d_Rm_new_529 rfl ?_
  refine g_bipush (v := 7) C d_Rm_new_530 (by decide) ?_
  refine g_ldc2 (v := 11214) C d_Rm_new_532 kw_79 ?_
  obtain ⟨h101, eh101, hr⟩ := of_bnd hr
  refine g_lastore C eh101 d_Rm_new_535 ?_
  refine g_dup C d_Rm_new_536 rfl ?_
  refine g_bipush (v := 8) C d_Rm_new_537 (by decide) ?_
  refine g_ldc2 (v := 40470) C d_Rm_new_539 kw_80 ?_
  obtain ⟨h102, eh102, hr⟩ := of_bnd hr
  refine g_lastore C eh102 d_Rm_new_542 ?_
  refine g_dup C d_Rm_new_543 rfl ?_
  refine g_bipush (v := 9) C d_Rm_new_544 (by decide) ?_
  refine g_ldc2 (v := 31759) C d_Rm_new_546 kw_81 ?_
  obtain ⟨h103, eh103, hr⟩ := of_bnd hr
  refine g_lastore C eh103 d_Rm_new_549 ?_
  refine g_dup C d_Rm_new_550 rfl ?_
  refine g_bipush (v := 10) C d_Rm_new_551 (by decide) ?_
  refine g_ldc2 (v := 60234) C d_Rm_new_553 kw_82 ?_
  obtain ⟨h104, eh104, hr⟩ := of_bnd hr
  refine g_lastore C eh104 d_Rm_new_556 ?_
  refine g_dup C d_Rm_new_557 rfl ?_
  refine g_bipush (v := 11) C d_Rm_new_558 (by decide) ?_
  refine g_ldc2 (v := 36583) C d_Rm_new_560 kw_83 ?_
  obtain ⟨h105, eh105, hr⟩ := of_bnd hr
  refine g_lastore C eh105 d_Rm_new_563 ?_
  refine g_dup C d_Rm_new_564 rfl ?_
  refine g_bipush (v := 12) C d_Rm_new_565 (by decide) ?_
  refine g_ldc2 (v := 32667) C d_Rm_new_567 kw_84 ?_
  obtain ⟨h106, eh106, hr⟩ := of_bnd hr
  refine g_lastore C eh106 d_Rm_new_570 ?_
  refine g_dup C d_Rm_new_571 rfl ?_
  refine g_bipush (v := 13) C d_Rm_new_572 (by decide) ?_
  refine g_ldc2 (v := 65050) C d_Rm_new_574 kw_85 ?_
  obtain ⟨h107, eh107, hr⟩ := of_bnd hr
  refine g_lastore C eh107 d_Rm_new_577 ?_
  refine g_dup C d_Rm_new_578 rfl ?_
  refine g_bipush (v := 14) C d_Rm_new_579 (by decide) ?_
  refine g_ldc2 (v := 17122) C d_Rm_new_581 kw_86 ?_
  obtain ⟨h108, eh108, hr⟩ := of_bnd hr
  refine g_lastore C eh108 d_Rm_new_584 ?_
  refine g_dup C d_Rm_new_585 rfl ?_
  refine g_bipush (v := 15) C d_Rm_new_586 (by decide) ?_
  refine g_ldc2 (v := 20451) C d_Rm_new_588 kw_87 ?_
  obtain ⟨h109, eh109, hr⟩ := of_bnd hr
  refine g_lastore C eh109 d_Rm_new_591 ?_
  obtain ⟨h110, eh110, hr⟩ := of_bnd hr
  refine g_putF C fp_Rm_154 hin rfl eh110 (fun _ => rfl) (fun _ => rfl) d_Rm_new_592 ?_
  refine g_aload_n C 0 rfl d_Rm_new_595 rfl ?_
  refine g_sipush (v := 256) C d_Rm_new_596 (by decide) ?_
  obtain ⟨h111, eh111⟩ : ∃ z, z = h110 ++ [pJ 256 (fun _ => 0)] := ⟨_, rfl⟩
  have hr := of_lt eh111 hr
  obtain ⟨k112, ek112⟩ : ∃ z, z = h110.length := ⟨_, rfl⟩
  have hr := of_lt ek112 hr
  refine g_newJE (n' := 256) C eh111 ek112 (by decide) (by decide) (by decide) (by decide) (by decide) d_Rm_new_599 ?_
  obtain ⟨h113, eh113, hr⟩ := of_bnd hr
  refine g_putF C fp_Rm_157 hin rfl eh113 (fun _ => rfl) (fun _ => rfl) d_Rm_new_601 ?_
  refine g_aload_n C 0 rfl d_Rm_new_604 rfl ?_
  refine g_sipush (v := 256) C d_Rm_new_605 (by decide) ?_
  obtain ⟨h114, eh114⟩ : ∃ z, z = h113 ++ [pJ 256 (fun _ => 0)] := ⟨_, rfl⟩
  have hr := of_lt eh114 hr
  obtain ⟨k115, ek115⟩ : ∃ z, z = h113.length := ⟨_, rfl⟩
  have hr := of_lt ek115 hr
  refine g_newJE (n' := 256) C eh114 ek115 (by decide) (by decide) (by decide) (by decide) (by decide) d_Rm_new_608 ?_
  obtain ⟨h116, eh116, hr⟩ := of_bnd hr
  refine g_putF C fp_Rm_160 hin rfl eh116 (fun _ => rfl) (fun _ => rfl) d_Rm_new_610 ?_
  refine g_aload_n C 0 rfl d_Rm_new_613 rfl ?_
  refine g_bipush (v := 16) C d_Rm_new_614 (by decide) ?_
  obtain ⟨h117, eh117⟩ : ∃ z, z = h116 ++ [pJ 16 (fun _ => 0)] := ⟨_, rfl⟩
  have hr := of_lt eh117 hr
  obtain ⟨k118, ek118⟩ : ∃ z, z = h116.length := ⟨_, rfl⟩
  have hr := of_lt ek118 hr
  refine g_newJE (n' := 16) C eh117 ek118 (by decide) (by decide) (by decide) (by decide) (by decide) d_Rm_new_616 ?_
  obtain ⟨h119, eh119, hr⟩ := of_bnd hr
  refine g_putF C fp_Rm_163 hin rfl eh119 (fun _ => rfl) (fun _ => rfl) d_Rm_new_618 ?_
  refine g_aload_n C 0 rfl d_Rm_new_621 rfl ?_
  refine g_bipush (v := 16) C d_Rm_new_622 (by decide) ?_
  obtain ⟨h120, eh120⟩ : ∃ z, z = h119 ++ [pJ 16 (fun _ => 0)] := ⟨_, rfl⟩
  have hr := of_lt eh120 hr
  obtain ⟨k121, ek121⟩ : ∃ z, z = h119.length := ⟨_, rfl⟩
  have hr := of_lt ek121 hr
  refine g_newJE (n' := 16) C eh120 ek121 (by decide) (by decide) (by decide) (by decide) (by decide) d_Rm_new_624 ?_
  obtain ⟨h122, eh122, hr⟩ := of_bnd hr
  refine g_putF C fp_Rm_166 hin rfl eh122 (fun _ => rfl) (fun _ => rfl) d_Rm_new_626 ?_
  refine g_aload_n C 0 rfl d_Rm_new_629 rfl ?_
  refine g_bipush (v := 16) C d_Rm_new_630 (by decide) ?_
  obtain ⟨h123, eh123⟩ : ∃ z, z = h122 ++ [pJ 16 (fun _ => 0)] := ⟨_, rfl⟩
  have hr := of_lt eh123 hr
  obtain ⟨k124, ek124⟩ : ∃ z, z = h122.length := ⟨_, rfl⟩
  have hr := of_lt ek124 hr
  refine g_newJE (n' := 16) C eh123 ek124 (by decide) (by decide) (by decide) (by decide) (by decide) d_Rm_new_632 ?_
  obtain ⟨h125, eh125, hr⟩ := of_bnd hr
  refine g_putF C fp_Rm_169 hin rfl eh125 (fun _ => rfl) (fun _ => rfl) d_Rm_new_634 ?_
  refine g_aload_n C 0 rfl d_Rm_new_637 rfl ?_
  refine g_bipush (v := 16) C d_Rm_new_638 (by decide) ?_
  obtain ⟨h126, eh126⟩ : ∃ z, z = h125 ++ [pJ 16 (fun _ => 0)] := ⟨_, rfl⟩
  have hr := of_lt eh126 hr
  obtain ⟨k127, ek127⟩ : ∃ z, z = h125.length := ⟨_, rfl⟩
  have hr := of_lt ek127 hr
  refine g_newJE (n' := 16) C eh126 ek127 (by decide) (by decide) (by decide) (by decide) (by decide) d_Rm_new_640 ?_
  obtain ⟨h128, eh128, hr⟩ := of_bnd hr
  refine g_putF C fp_Rm_172 hin rfl eh128 (fun _ => rfl) (fun _ => rfl) d_Rm_new_642 ?_
  refine g_aload_n C 0 rfl d_Rm_new_645 rfl ?_
  refine g_bipush (v := 16) C d_Rm_new_646 (by decide) ?_
  obtain ⟨h129, eh129⟩ : ∃ z, z = h128 ++ [pJ 16 (fun _ => 0)] := ⟨_, rfl⟩
  have hr := of_lt eh129 hr
  obtain ⟨k130, ek130⟩ : ∃ z, z = h128.length := ⟨_, rfl⟩
  have hr := of_lt ek130 hr
  refine g_newJE (n' := 16) C eh129 ek130 (by decide) (by decide) (by decide) (by decide) (by decide) d_Rm_new_648 ?_
  obtain ⟨h131, eh131, hr⟩ := of_bnd hr
  refine g_putF C fp_Rm_175 hin rfl eh131 (fun _ => rfl) (fun _ => rfl) d_Rm_new_650 ?_
  refine g_aload_n C 0 rfl d_Rm_new_653 rfl ?_
  refine g_bipush (v := 16) C d_Rm_new_654 (by decide) ?_
  obtain ⟨h132, eh132⟩ : ∃ z, z = h131 ++ [pJ 16 (fun _ => 0)] := ⟨_, rfl⟩
  have hr := of_lt eh132 hr
  obtain ⟨k133, ek133⟩ : ∃ z, z = h131.length := ⟨_, rfl⟩
  have hr := of_lt ek133 hr
  refine g_newJE (n' := 16) C eh132 ek133 (by decide) (by decide) (by decide) (by decide) (by decide) d_Rm_new_656 ?_
  obtain ⟨h134, eh134, hr⟩ := of_bnd hr
  refine g_putF C fp_Rm_178 hin rfl eh134 (fun _ => rfl) (fun _ => rfl) d_Rm_new_658 ?_
  refine g_aload_n C 0 rfl d_Rm_new_661 rfl ?_
  refine g_bipush (v := 16) C d_Rm_new_662 (by decide) ?_
  obtain ⟨h135, eh135⟩ : ∃ z, z = h134 ++ [pJ 16 (fun _ => 0)] := ⟨_, rfl⟩
  have hr := of_lt eh135 hr
  obtain ⟨k136, ek136⟩ : ∃ z, z = h134.length := ⟨_, rfl⟩
  have hr := of_lt ek136 hr
  refine g_newJE (n' := 16) C eh135 ek136 (by decide) (by decide) (by decide) (by decide) (by decide) d_Rm_new_664 ?_
  obtain ⟨h137, eh137, hr⟩ := of_bnd hr
  refine g_putF C fp_Rm_181 hin rfl eh137 (fun _ => rfl) (fun _ => rfl) d_Rm_new_666 ?_
  refine g_aload_n C 0 rfl d_Rm_new_669 rfl ?_
  refine g_bipush (v := 16) C d_Rm_new_670 (by decide) ?_
  obtain ⟨h138, eh138⟩ : ∃ z, z = h137 ++ [pJ 16 (fun _ => 0)] := ⟨_, rfl⟩
  have hr := of_lt eh138 hr
  obtain ⟨k139, ek139⟩ : ∃ z, z = h137.length := ⟨_, rfl⟩
  have hr := of_lt ek139 hr
  refine g_newJE (n' := 16) C eh138 ek139 (by decide) (by decide) (by decide) (by decide) (by decide) d_Rm_new_672 ?_
  obtain ⟨h140, eh140, hr⟩ := of_bnd hr
  refine g_putF C fp_Rm_184 hin rfl eh140 (fun _ => rfl) (fun _ => rfl) d_Rm_new_674 ?_
  refine g_aload_n C 0 rfl d_Rm_new_677 rfl ?_
  refine g_bipush (v := 16) C d_Rm_new_678 (by decide) ?_
  obtain ⟨h141, eh141⟩ : ∃ z, z = h140 ++ [pJ 16 (fun _ => 0)] := ⟨_, rfl⟩
  have hr := of_lt eh141 hr
  obtain ⟨k142, ek142⟩ : ∃ z, z = h140.length := ⟨_, rfl⟩
  have hr := of_lt ek142 hr
  refine g_newJE (n' := 16) C eh141 ek142 (by decide) (by decide) (by decide) (by decide) (by decide) d_Rm_new_680 ?_
  obtain ⟨h143, eh143, hr⟩ := of_bnd hr
  refine g_putF C fp_Rm_187 hin rfl eh143 (fun _ => rfl) (fun _ => rfl) d_Rm_new_682 ?_
  refine g_aload_n C 0 rfl d_Rm_new_685 rfl ?_
  refine g_bipush (v := 16) C d_Rm_new_686 (by decide) ?_
  obtain ⟨h144, eh144⟩ : ∃ z, z = h143 ++ [pJ 16 (fun _ => 0)] := ⟨_, rfl⟩
  have hr := of_lt eh144 hr
  obtain ⟨k145, ek145⟩ : ∃ z, z = h143.length := ⟨_, rfl⟩
  have hr := of_lt ek145 hr
  refine g_newJE (n' := 16) C eh144 ek145 (by decide) (by decide) (by decide) (by decide) (by decide) d_Rm_new_688 ?_
  obtain ⟨h146, eh146, hr⟩ := of_bnd hr
  refine g_putF C fp_Rm_190 hin rfl eh146 (fun _ => rfl) (fun _ => rfl) d_Rm_new_690 ?_
  refine g_aload_n C 0 rfl d_Rm_new_693 rfl ?_
  refine g_bipush (v := 16) C d_Rm_new_694 (by decide) ?_
  obtain ⟨h147, eh147⟩ : ∃ z, z = h146 ++ [pJ 16 (fun _ => 0)] := ⟨_, rfl⟩
  have hr := of_lt eh147 hr
  obtain ⟨k148, ek148⟩ : ∃ z, z = h146.length := ⟨_, rfl⟩
  have hr := of_lt ek148 hr
  refine g_newJE (n' := 16) C eh147 ek148 (by decide) (by decide) (by decide) (by decide) (by decide) d_Rm_new_696 ?_
  obtain ⟨h149, eh149, hr⟩ := of_bnd hr
  refine g_putF C fp_Rm_193 hin rfl eh149 (fun _ => rfl) (fun _ => rfl) d_Rm_new_698 ?_
  refine g_aload_n C 0 rfl d_Rm_new_701 rfl ?_
  refine g_bipush (v := 16) C d_Rm_new_702 (by decide) ?_
  obtain ⟨h150, eh150⟩ : ∃ z, z = h149 ++ [pJ 16 (fun _ => 0)] := ⟨_, rfl⟩
  have hr := of_lt eh150 hr
  obtain ⟨k151, ek151⟩ : ∃ z, z = h149.length := ⟨_, rfl⟩
  have hr := of_lt ek151 hr
  refine g_newJE (n' := 16) C eh150 ek151 (by decide) (by decide) (by decide) (by decide) (by decide) d_Rm_new_704 ?_
  obtain ⟨h152, eh152, hr⟩ := of_bnd hr
  refine g_putF C fp_Rm_196 hin rfl eh152 (fun _ => rfl) (fun _ => rfl) d_Rm_new_706 ?_
  refine g_aload_n C 0 rfl d_Rm_new_709 rfl ?_
  refine g_bipush (v := 16) C d_Rm_new_710 (by decide) ?_
  obtain ⟨h153, eh153⟩ : ∃ z, z = h152 ++ [pJ 16 (fun _ => 0)] := ⟨_, rfl⟩
  have hr := of_lt eh153 hr
  obtain ⟨k154, ek154⟩ : ∃ z, z = h152.length := ⟨_, rfl⟩
  have hr := of_lt ek154 hr
  refine g_newJE (n' := 16) C eh153 ek154 (by decide) (by decide) (by decide) (by decide) (by decide) d_Rm_new_712 ?_
  obtain ⟨h155, eh155, hr⟩ := of_bnd hr
  refine g_putF C fp_Rm_199 hin rfl eh155 (fun _ => rfl) (fun _ => rfl) d_Rm_new_714 ?_
  refine g_aload_n C 0 rfl d_Rm_new_717 rfl ?_
  refine g_bipush (v := 16) C d_Rm_new_718 (by decide) ?_
  obtain ⟨h156, eh156⟩ : ∃ z, z = h155 ++ [pJ 16 (fun _ => 0)] := ⟨_, rfl⟩
  have hr := of_lt eh156 hr
  obtain ⟨k157, ek157⟩ : ∃ z, z = h155.length := ⟨_, rfl⟩
  have hr := of_lt ek157 hr
  refine g_newJE (n' := 16) C eh156 ek157 (by decide) (by decide) (by decide) (by decide) (by decide) d_Rm_new_720 ?_
  obtain ⟨h158, eh158, hr⟩ := of_bnd hr
  refine g_putF C fp_Rm_202 hin rfl eh158 (fun _ => rfl) (fun _ => rfl) d_Rm_new_722 ?_
  refine g_aload_n C 0 rfl d_Rm_new_725 rfl ?_
  refine g_bipush (v := 32) C d_Rm_new_726 (by decide) ?_
  obtain ⟨h159, eh159⟩ : ∃ z, z = h158 ++ [pB 32 (fun _ => 0)] := ⟨_, rfl⟩
  have hr := of_lt eh159 hr
  obtain ⟨k160, ek160⟩ : ∃ z, z = h158.length := ⟨_, rfl⟩
  have hr := of_lt ek160 hr
  refine g_newBE (n' := 32) C eh159 ek160 (by decide) (by decide) (by decide) (by decide) (by decide) d_Rm_new_728 ?_
  obtain ⟨h161, eh161, hr⟩ := of_bnd hr
  refine g_putF C fp_Rm_205 hin rfl eh161 (fun _ => rfl) (fun _ => rfl) d_Rm_new_730 ?_
  refine g_aload_n C 0 rfl d_Rm_new_733 rfl ?_
  refine g_bipush (v := 32) C d_Rm_new_734 (by decide) ?_
  obtain ⟨h162, eh162⟩ : ∃ z, z = h161 ++ [pB 32 (fun _ => 0)] := ⟨_, rfl⟩
  have hr := of_lt eh162 hr
  obtain ⟨k163, ek163⟩ : ∃ z, z = h161.length := ⟨_, rfl⟩
  have hr := of_lt ek163 hr
  refine g_newBE (n' := 32) C eh162 ek163 (by decide) (by decide) (by decide) (by decide) (by decide) d_Rm_new_736 ?_
  obtain ⟨h164, eh164, hr⟩ := of_bnd hr
  refine g_putF C fp_Rm_208 hin rfl eh164 (fun _ => rfl) (fun _ => rfl) d_Rm_new_738 ?_
  refine g_aload_n C 0 rfl d_Rm_new_741 rfl ?_
  refine g_sipush (v := 256) C d_Rm_new_742 (by decide) ?_
  obtain ⟨h165, eh165⟩ : ∃ z, z = h164 ++ [pB 256 (fun _ => 0)] := ⟨_, rfl⟩
  have hr := of_lt eh165 hr
  obtain ⟨k166, ek166⟩ : ∃ z, z = h164.length := ⟨_, rfl⟩
  have hr := of_lt ek166 hr
  refine g_newBE (n' := 256) C eh165 ek166 (by decide) (by decide) (by decide) (by decide) (by decide) d_Rm_new_745 ?_
  obtain ⟨h167, eh167, hr⟩ := of_bnd hr
  refine g_putF C fp_Rm_211 hin rfl eh167 (fun _ => rfl) (fun _ => rfl) d_Rm_new_747 ?_
  refine g_aload_n C 0 rfl d_Rm_new_750 rfl ?_
  refine g_ldc (v := 65600) C d_Rm_new_751 kw_88 ?_
  obtain ⟨h168, eh168⟩ : ∃ z, z = h167 ++ [pB 65600 (fun _ => 0)] := ⟨_, rfl⟩
  have hr := of_lt eh168 hr
  obtain ⟨k169, ek169⟩ : ∃ z, z = h167.length := ⟨_, rfl⟩
  have hr := of_lt ek169 hr
  refine g_newBE2 (n' := 65600) C eh168 ek169 (by decide) (by decide) (by decide) (by decide) (by decide) d_Rm_new_753 ?_
  obtain ⟨h170, eh170, hr⟩ := of_bnd hr
  refine g_putF C fp_Rm_215 hin rfl eh170 (fun _ => rfl) (fun _ => rfl) d_Rm_new_755 ?_
  refine g_aload_n C 0 rfl d_Rm_new_758 rfl ?_
  refine g_bipush (v := 32) C d_Rm_new_759 (by decide) ?_
  obtain ⟨h171, eh171⟩ : ∃ z, z = h170 ++ [pJ 32 (fun _ => 0)] := ⟨_, rfl⟩
  have hr := of_lt eh171 hr
  obtain ⟨k172, ek172⟩ : ∃ z, z = h170.length := ⟨_, rfl⟩
  have hr := of_lt ek172 hr
  refine g_newJE (n' := 32) C eh171 ek172 (by decide) (by decide) (by decide) (by decide) (by decide) d_Rm_new_761 ?_
  obtain ⟨h173, eh173, hr⟩ := of_bnd hr
  refine g_putF C fp_Rm_218 hin rfl eh173 (fun _ => rfl) (fun _ => rfl) d_Rm_new_763 ?_
  refine g_aload_n C 0 rfl d_Rm_new_766 rfl ?_
  refine g_bipush (v := 18) C d_Rm_new_767 (by decide) ?_
  obtain ⟨h174, eh174⟩ : ∃ z, z = h173 ++ [pJ 18 (fun _ => 0)] := ⟨_, rfl⟩
  have hr := of_lt eh174 hr
  obtain ⟨k175, ek175⟩ : ∃ z, z = h173.length := ⟨_, rfl⟩
  have hr := of_lt ek175 hr
  refine g_newJE (n' := 18) C eh174 ek175 (by decide) (by decide) (by decide) (by decide) (by decide) d_Rm_new_769 ?_
  obtain ⟨h176, eh176, hr⟩ := of_bnd hr
  refine g_putF C fp_Rm_221 hin rfl eh176 (fun _ => rfl) (fun _ => rfl) d_Rm_new_771 ?_
  refine g_aload_n C 0 rfl d_Rm_new_774 rfl ?_
  refine g_bipush (v := 16) C d_Rm_new_775 (by decide) ?_
  obtain ⟨h177, eh177⟩ : ∃ z, z = h176 ++ [pJ 16 (fun _ => 0)] := ⟨_, rfl⟩
  have hr := of_lt eh177 hr
  obtain ⟨k178, ek178⟩ : ∃ z, z = h176.length := ⟨_, rfl⟩
  have hr := of_lt ek178 hr
  refine g_newJE (n' := 16) C eh177 ek178 (by decide) (by decide) (by decide) (by decide) (by decide) d_Rm_new_777 ?_
  obtain ⟨h179, eh179, hr⟩ := of_bnd hr
  refine g_putF C fp_Rm_224 hin rfl eh179 (fun _ => rfl) (fun _ => rfl) d_Rm_new_779 ?_
  refine g_aload_n C 0 rfl d_Rm_new_782 rfl ?_
  refine g_bipush (v := 16) C d_Rm_new_783 (by decide) ?_
  obtain ⟨h180, eh180⟩ : ∃ z, z = h179 ++ [pJ 16 (fun _ => 0)] := ⟨_, rfl⟩
  have hr := of_lt eh180 hr
  obtain ⟨k181, ek181⟩ : ∃ z, z = h179.length := ⟨_, rfl⟩
  have hr := of_lt ek181 hr
  refine g_newJE (n' := 16) C eh180 ek181 (by decide) (by decide) (by decide) (by decide) (by decide) d_Rm_new_785 ?_
  obtain ⟨h182, eh182, hr⟩ := of_bnd hr
  refine g_putF C fp_Rm_227 hin rfl eh182 (fun _ => rfl) (fun _ => rfl) d_Rm_new_787 ?_
  refine g_aload_n C 0 rfl d_Rm_new_790 rfl ?_
  refine g_bipush (v := 17) C d_Rm_new_791 (by decide) ?_
  obtain ⟨h183, eh183⟩ : ∃ z, z = h182 ++ [pJ 17 (fun _ => 0)] := ⟨_, rfl⟩
  have hr := of_lt eh183 hr
  obtain ⟨k184, ek184⟩ : ∃ z, z = h182.length := ⟨_, rfl⟩
  have hr := of_lt ek184 hr
  refine g_newJE (n' := 17) C eh183 ek184 (by decide) (by decide) (by decide) (by decide) (by decide) d_Rm_new_793 ?_
  obtain ⟨h185, eh185, hr⟩ := of_bnd hr
  refine g_putF C fp_Rm_230 hin rfl eh185 (fun _ => rfl) (fun _ => rfl) d_Rm_new_795 ?_
  refine g_aload_n C 0 rfl d_Rm_new_798 rfl ?_
  refine g_bipush (v := 17) C d_Rm_new_799 (by decide) ?_
  obtain ⟨h186, eh186⟩ : ∃ z, z = h185 ++ [pJ 17 (fun _ => 0)] := ⟨_, rfl⟩
  have hr := of_lt eh186 hr
  obtain ⟨k187, ek187⟩ : ∃ z, z = h185.length := ⟨_, rfl⟩
  have hr := of_lt ek187 hr
  refine g_newJE (n' := 17) C eh186 ek187 (by decide) (by decide) (by decide) (by decide) (by decide) d_Rm_new_801 ?_
  obtain ⟨h188, eh188, hr⟩ := of_bnd hr
  refine g_putF C fp_Rm_233 hin rfl eh188 (fun _ => rfl) (fun _ => rfl) d_Rm_new_803 ?_
  refine g_aload_n C 0 rfl d_Rm_new_806 rfl ?_
  refine g_bipush (v := 80) C d_Rm_new_807 (by decide) ?_
  obtain ⟨h189, eh189⟩ : ∃ z, z = h188 ++ [pJ 80 (fun _ => 0)] := ⟨_, rfl⟩
  have hr := of_lt eh189 hr
  obtain ⟨k190, ek190⟩ : ∃ z, z = h188.length := ⟨_, rfl⟩
  have hr := of_lt ek190 hr
  refine g_newJE (n' := 80) C eh189 ek190 (by decide) (by decide) (by decide) (by decide) (by decide) d_Rm_new_809 ?_
  obtain ⟨h191, eh191, hr⟩ := of_bnd hr
  refine g_putF C fp_Rm_236 hin rfl eh191 (fun _ => rfl) (fun _ => rfl) d_Rm_new_811 ?_
  refine g_aload_n C 0 rfl d_Rm_new_814 rfl ?_
  refine g_bipush (v := 8) C d_Rm_new_815 (by decide) ?_
  obtain ⟨h192, eh192⟩ : ∃ z, z = h191 ++ [pJ 8 (fun _ => 0)] := ⟨_, rfl⟩
  have hr := of_lt eh192 hr
  obtain ⟨k193, ek193⟩ : ∃ z, z = h191.length := ⟨_, rfl⟩
  have hr := of_lt ek193 hr
  refine g_newJE (n' := 8) C eh192 ek193 (by decide) (by decide) (by decide) (by decide) (by decide) d_Rm_new_817 ?_
  obtain ⟨h194, eh194, hr⟩ := of_bnd hr
  refine g_putF C fp_Rm_239 hin rfl eh194 (fun _ => rfl) (fun _ => rfl) d_Rm_new_819 ?_
  refine g_aload_n C 0 rfl d_Rm_new_822 rfl ?_
  refine g_bipush (v := 64) C d_Rm_new_823 (by decide) ?_
  obtain ⟨h195, eh195⟩ : ∃ z, z = h194 ++ [pI 64 (fun _ => 0)] := ⟨_, rfl⟩
  have hr := of_lt eh195 hr
  obtain ⟨k196, ek196⟩ : ∃ z, z = h194.length := ⟨_, rfl⟩
  have hr := of_lt ek196 hr
  refine g_newIE (n' := 64) C eh195 ek196 (by decide) (by decide) (by decide) (by decide) (by decide) d_Rm_new_825 ?_
  obtain ⟨h197, eh197, hr⟩ := of_bnd hr
  refine g_putF C fp_Rm_242 hin rfl eh197 (fun _ => rfl) (fun _ => rfl) d_Rm_new_827 ?_
  refine g_aload_n C 0 rfl d_Rm_new_830 rfl ?_
  refine g_bipush (v := 8) C d_Rm_new_831 (by decide) ?_
  obtain ⟨h198, eh198⟩ : ∃ z, z = h197 ++ [pI 8 (fun _ => 0)] := ⟨_, rfl⟩
  have hr := of_lt eh198 hr
  obtain ⟨k199, ek199⟩ : ∃ z, z = h197.length := ⟨_, rfl⟩
  have hr := of_lt ek199 hr
  refine g_newIE (n' := 8) C eh198 ek199 (by decide) (by decide) (by decide) (by decide) (by decide) d_Rm_new_833 ?_
  obtain ⟨h200, eh200, hr⟩ := of_bnd hr
  refine g_putF C fp_Rm_245 hin rfl eh200 (fun _ => rfl) (fun _ => rfl) d_Rm_new_835 ?_
  refine g_aload_n C 0 rfl d_Rm_new_838 rfl ?_
  refine g_bipush (v := 8) C d_Rm_new_839 (by decide) ?_
  obtain ⟨h201, eh201⟩ : ∃ z, z = h200 ++ [pJ 8 (fun _ => 0)] := ⟨_, rfl⟩
  have hr := of_lt eh201 hr
  obtain ⟨k202, ek202⟩ : ∃ z, z = h200.length := ⟨_, rfl⟩
  have hr := of_lt ek202 hr
  refine g_newJE (n' := 8) C eh201 ek202 (by decide) (by decide) (by decide) (by decide) (by decide) d_Rm_new_841 ?_
  obtain ⟨h203, eh203, hr⟩ := of_bnd hr
  refine g_putF C fp_Rm_248 hin rfl eh203 (fun _ => rfl) (fun _ => rfl) d_Rm_new_843 ?_
  refine g_aload_n C 0 rfl d_Rm_new_846 rfl ?_
  refine g_bipush (v := 8) C d_Rm_new_847 (by decide) ?_
  obtain ⟨h204, eh204⟩ : ∃ z, z = h203 ++ [pJ 8 (fun _ => 0)] := ⟨_, rfl⟩
  have hr := of_lt eh204 hr
  obtain ⟨k205, ek205⟩ : ∃ z, z = h203.length := ⟨_, rfl⟩
  have hr := of_lt ek205 hr
  refine g_newJE (n' := 8) C eh204 ek205 (by decide) (by decide) (by decide) (by decide) (by decide) d_Rm_new_849 ?_
  obtain ⟨h206, eh206, hr⟩ := of_bnd hr
  refine g_putF C fp_Rm_251 hin rfl eh206 (fun _ => rfl) (fun _ => rfl) d_Rm_new_851 ?_
  refine g_aload_n C 0 rfl d_Rm_new_854 rfl ?_
  refine g_bipush (v := 32) C d_Rm_new_855 (by decide) ?_
  obtain ⟨h207, eh207⟩ : ∃ z, z = h206 ++ [pB 32 (fun _ => 0)] := ⟨_, rfl⟩
  have hr := of_lt eh207 hr
  obtain ⟨k208, ek208⟩ : ∃ z, z = h206.length := ⟨_, rfl⟩
  have hr := of_lt ek208 hr
  refine g_newBE (n' := 32) C eh207 ek208 (by decide) (by decide) (by decide) (by decide) (by decide) d_Rm_new_857 ?_
  obtain ⟨h209, eh209, hr⟩ := of_bnd hr
  refine g_putF C fp_Rm_254 hin rfl eh209 (fun _ => rfl) (fun _ => rfl) d_Rm_new_859 ?_
  refine g_aload_n C 0 rfl d_Rm_new_862 rfl ?_
  obtain ⟨fsh210, hoh210, hr⟩ := of_ob hr
  obtain ⟨h210, eh210, hr⟩ := of_bnd hr
  refine g_callV (pa := []) C hl0 (c_Rm_constants eh210) cd_Rm_257 kw_in_Rm_constants kw_se_Rm_constants hoh210 rfl rfl (by decide) rfl rfl (Nat.le_of_ble_eq_true rfl) d_Rm_new_863 ?_
  refine g_aload_n C 0 rfl d_Rm_new_866 rfl ?_
  obtain ⟨k211, ek211, hr⟩ := of_bnd hr
  refine g_getR C fl_Rm_157 ek211 d_Rm_new_867 ?_
  refine g_aload_n C 0 rfl d_Rm_new_870 rfl ?_
  obtain ⟨k212, ek212, hr⟩ := of_bnd hr
  refine g_getR C fl_Rm_29 ek212 d_Rm_new_871 ?_
  refine g_aload_n C 0 rfl d_Rm_new_874 rfl ?_
  obtain ⟨k213, ek213, hr⟩ := of_bnd hr
  refine g_getR C fl_Rm_181 ek213 d_Rm_new_875 ?_
  obtain ⟨h214, eh214, hr⟩ := of_bnd hr
  refine g_callS (pa := [.ref k211, .ref k212, .ref k213]) C hl0 (c_Rm_remainders eh214) cd_Rm_260 kw_st_Rm_remainders (by decide) rfl rfl (Nat.le_of_ble_eq_true rfl) d_Rm_new_878 ?_
  refine g_aload_n C 0 rfl d_Rm_new_881 rfl ?_
  obtain ⟨k215, ek215, hr⟩ := of_bnd hr
  refine g_getR C fl_Rm_160 ek215 d_Rm_new_882 ?_
  refine g_aload_n C 0 rfl d_Rm_new_885 rfl ?_
  obtain ⟨k216, ek216, hr⟩ := of_bnd hr
  refine g_getR C fl_Rm_49 ek216 d_Rm_new_886 ?_
  refine g_aload_n C 0 rfl d_Rm_new_889 rfl ?_
  obtain ⟨k217, ek217, hr⟩ := of_bnd hr
  refine g_getR C fl_Rm_181 ek217 d_Rm_new_890 ?_
  obtain ⟨h218, eh218, hr⟩ := of_bnd hr
  refine g_callS (pa := [.ref k215, .ref k216, .ref k217]) C hl0 (c_Rm_remainders eh218) cd_Rm_260 kw_st_Rm_remainders (by decide) rfl rfl (Nat.le_of_ble_eq_true rfl) d_Rm_new_893 ?_
  cases hr
  exact g_vreturn C T (by decide) (by decide) d_Rm_new_896
