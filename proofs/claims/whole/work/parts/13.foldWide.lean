abbrev b_Mo_foldWide : ByteArray := prog_4_method_14_code
abbrev y_Mo_foldWide : MethodName := ⟨"PrimeKeys$Modulus", "foldWide", "([J)V"⟩
theorem d_Mo_foldWide_0 : decode b_Mo_foldWide 0 = .ok (.aload_n 0, 1) := by decide +kernel
theorem d_Mo_foldWide_1 : decode b_Mo_foldWide 1 = .ok (.getfield 11, 3) := by decide +kernel
theorem d_Mo_foldWide_4 : decode b_Mo_foldWide 4 = .ok (.iconst 0, 1) := by decide +kernel
theorem d_Mo_foldWide_5 : decode b_Mo_foldWide 5 = .ok (.laload, 1) := by decide +kernel
theorem d_Mo_foldWide_6 : decode b_Mo_foldWide 6 = .ok (.lstore_n 2, 1) := by decide +kernel
theorem d_Mo_foldWide_7 : decode b_Mo_foldWide 7 = .ok (.aload_n 0, 1) := by decide +kernel
theorem d_Mo_foldWide_8 : decode b_Mo_foldWide 8 = .ok (.getfield 11, 3) := by decide +kernel
theorem d_Mo_foldWide_11 : decode b_Mo_foldWide 11 = .ok (.iconst 1, 1) := by decide +kernel
theorem d_Mo_foldWide_12 : decode b_Mo_foldWide 12 = .ok (.laload, 1) := by decide +kernel
theorem d_Mo_foldWide_13 : decode b_Mo_foldWide 13 = .ok (.lstore 4, 2) := by decide +kernel
theorem d_Mo_foldWide_15 : decode b_Mo_foldWide 15 = .ok (.aload_n 0, 1) := by decide +kernel
theorem d_Mo_foldWide_16 : decode b_Mo_foldWide 16 = .ok (.getfield 11, 3) := by decide +kernel
theorem d_Mo_foldWide_19 : decode b_Mo_foldWide 19 = .ok (.iconst 2, 1) := by decide +kernel
theorem d_Mo_foldWide_20 : decode b_Mo_foldWide 20 = .ok (.laload, 1) := by decide +kernel
theorem d_Mo_foldWide_21 : decode b_Mo_foldWide 21 = .ok (.lstore 6, 2) := by decide +kernel
theorem d_Mo_foldWide_23 : decode b_Mo_foldWide 23 = .ok (.aload_n 0, 1) := by decide +kernel
theorem d_Mo_foldWide_24 : decode b_Mo_foldWide 24 = .ok (.getfield 11, 3) := by decide +kernel
theorem d_Mo_foldWide_27 : decode b_Mo_foldWide 27 = .ok (.iconst 3, 1) := by decide +kernel
theorem d_Mo_foldWide_28 : decode b_Mo_foldWide 28 = .ok (.laload, 1) := by decide +kernel
theorem d_Mo_foldWide_29 : decode b_Mo_foldWide 29 = .ok (.lstore 8, 2) := by decide +kernel
theorem d_Mo_foldWide_31 : decode b_Mo_foldWide 31 = .ok (.aload_n 0, 1) := by decide +kernel
theorem d_Mo_foldWide_32 : decode b_Mo_foldWide 32 = .ok (.getfield 11, 3) := by decide +kernel
theorem d_Mo_foldWide_35 : decode b_Mo_foldWide 35 = .ok (.iconst 4, 1) := by decide +kernel
theorem d_Mo_foldWide_36 : decode b_Mo_foldWide 36 = .ok (.laload, 1) := by decide +kernel
theorem d_Mo_foldWide_37 : decode b_Mo_foldWide 37 = .ok (.lstore 10, 2) := by decide +kernel
theorem d_Mo_foldWide_39 : decode b_Mo_foldWide 39 = .ok (.aload_n 0, 1) := by decide +kernel
theorem d_Mo_foldWide_40 : decode b_Mo_foldWide 40 = .ok (.getfield 11, 3) := by decide +kernel
theorem d_Mo_foldWide_43 : decode b_Mo_foldWide 43 = .ok (.iconst 5, 1) := by decide +kernel
theorem d_Mo_foldWide_44 : decode b_Mo_foldWide 44 = .ok (.laload, 1) := by decide +kernel
theorem d_Mo_foldWide_45 : decode b_Mo_foldWide 45 = .ok (.lstore 12, 2) := by decide +kernel
theorem d_Mo_foldWide_47 : decode b_Mo_foldWide 47 = .ok (.aload_n 0, 1) := by decide +kernel
theorem d_Mo_foldWide_48 : decode b_Mo_foldWide 48 = .ok (.getfield 11, 3) := by decide +kernel
theorem d_Mo_foldWide_51 : decode b_Mo_foldWide 51 = .ok (.bipush 6, 2) := by decide +kernel
theorem d_Mo_foldWide_53 : decode b_Mo_foldWide 53 = .ok (.laload, 1) := by decide +kernel
theorem d_Mo_foldWide_54 : decode b_Mo_foldWide 54 = .ok (.lstore 14, 2) := by decide +kernel
theorem d_Mo_foldWide_56 : decode b_Mo_foldWide 56 = .ok (.aload_n 0, 1) := by decide +kernel
theorem d_Mo_foldWide_57 : decode b_Mo_foldWide 57 = .ok (.getfield 11, 3) := by decide +kernel
theorem d_Mo_foldWide_60 : decode b_Mo_foldWide 60 = .ok (.bipush 7, 2) := by decide +kernel
theorem d_Mo_foldWide_62 : decode b_Mo_foldWide 62 = .ok (.laload, 1) := by decide +kernel
theorem d_Mo_foldWide_63 : decode b_Mo_foldWide 63 = .ok (.lstore 16, 2) := by decide +kernel
theorem d_Mo_foldWide_65 : decode b_Mo_foldWide 65 = .ok (.aload_n 0, 1) := by decide +kernel
theorem d_Mo_foldWide_66 : decode b_Mo_foldWide 66 = .ok (.getfield 11, 3) := by decide +kernel
theorem d_Mo_foldWide_69 : decode b_Mo_foldWide 69 = .ok (.bipush 8, 2) := by decide +kernel
theorem d_Mo_foldWide_71 : decode b_Mo_foldWide 71 = .ok (.laload, 1) := by decide +kernel
theorem d_Mo_foldWide_72 : decode b_Mo_foldWide 72 = .ok (.lstore 18, 2) := by decide +kernel
theorem d_Mo_foldWide_74 : decode b_Mo_foldWide 74 = .ok (.aload_n 0, 1) := by decide +kernel
theorem d_Mo_foldWide_75 : decode b_Mo_foldWide 75 = .ok (.getfield 54, 3) := by decide +kernel
theorem d_Mo_foldWide_78 : decode b_Mo_foldWide 78 = .ok (.lstore 20, 2) := by decide +kernel
theorem d_Mo_foldWide_80 : decode b_Mo_foldWide 80 = .ok (.aload_n 0, 1) := by decide +kernel
theorem d_Mo_foldWide_81 : decode b_Mo_foldWide 81 = .ok (.getfield 29, 3) := by decide +kernel
theorem d_Mo_foldWide_84 : decode b_Mo_foldWide 84 = .ok (.iconst 0, 1) := by decide +kernel
theorem d_Mo_foldWide_85 : decode b_Mo_foldWide 85 = .ok (.laload, 1) := by decide +kernel
theorem d_Mo_foldWide_86 : decode b_Mo_foldWide 86 = .ok (.lstore 22, 2) := by decide +kernel
theorem d_Mo_foldWide_88 : decode b_Mo_foldWide 88 = .ok (.lload 22, 2) := by decide +kernel
theorem d_Mo_foldWide_90 : decode b_Mo_foldWide 90 = .ok (.lload 20, 2) := by decide +kernel
theorem d_Mo_foldWide_92 : decode b_Mo_foldWide 92 = .ok (.lmul, 1) := by decide +kernel
theorem d_Mo_foldWide_93 : decode b_Mo_foldWide 93 = .ok (.ldc2_w 52, 3) := by decide +kernel
theorem d_Mo_foldWide_96 : decode b_Mo_foldWide 96 = .ok (.land, 1) := by decide +kernel
theorem d_Mo_foldWide_97 : decode b_Mo_foldWide 97 = .ok (.lstore 24, 2) := by decide +kernel
theorem d_Mo_foldWide_99 : decode b_Mo_foldWide 99 = .ok (.lload 22, 2) := by decide +kernel
theorem d_Mo_foldWide_101 : decode b_Mo_foldWide 101 = .ok (.lload 24, 2) := by decide +kernel
theorem d_Mo_foldWide_103 : decode b_Mo_foldWide 103 = .ok (.lload_n 2, 1) := by decide +kernel
theorem d_Mo_foldWide_104 : decode b_Mo_foldWide 104 = .ok (.lmul, 1) := by decide +kernel
theorem d_Mo_foldWide_105 : decode b_Mo_foldWide 105 = .ok (.ladd, 1) := by decide +kernel
theorem d_Mo_foldWide_106 : decode b_Mo_foldWide 106 = .ok (.bipush 29, 2) := by decide +kernel
theorem d_Mo_foldWide_108 : decode b_Mo_foldWide 108 = .ok (.lshr, 1) := by decide +kernel
theorem d_Mo_foldWide_109 : decode b_Mo_foldWide 109 = .ok (.aload_n 0, 1) := by decide +kernel
theorem d_Mo_foldWide_110 : decode b_Mo_foldWide 110 = .ok (.getfield 29, 3) := by decide +kernel
theorem d_Mo_foldWide_113 : decode b_Mo_foldWide 113 = .ok (.iconst 1, 1) := by decide +kernel
theorem d_Mo_foldWide_114 : decode b_Mo_foldWide 114 = .ok (.laload, 1) := by decide +kernel
theorem d_Mo_foldWide_115 : decode b_Mo_foldWide 115 = .ok (.ladd, 1) := by decide +kernel
theorem d_Mo_foldWide_116 : decode b_Mo_foldWide 116 = .ok (.lload 24, 2) := by decide +kernel
theorem d_Mo_foldWide_118 : decode b_Mo_foldWide 118 = .ok (.lload 4, 2) := by decide +kernel
theorem d_Mo_foldWide_120 : decode b_Mo_foldWide 120 = .ok (.lmul, 1) := by decide +kernel
theorem d_Mo_foldWide_121 : decode b_Mo_foldWide 121 = .ok (.ladd, 1) := by decide +kernel
theorem d_Mo_foldWide_122 : decode b_Mo_foldWide 122 = .ok (.lstore 22, 2) := by decide +kernel
theorem d_Mo_foldWide_124 : decode b_Mo_foldWide 124 = .ok (.lload 22, 2) := by decide +kernel
theorem d_Mo_foldWide_126 : decode b_Mo_foldWide 126 = .ok (.lload 20, 2) := by decide +kernel
theorem d_Mo_foldWide_128 : decode b_Mo_foldWide 128 = .ok (.lmul, 1) := by decide +kernel
theorem d_Mo_foldWide_129 : decode b_Mo_foldWide 129 = .ok (.ldc2_w 52, 3) := by decide +kernel
theorem d_Mo_foldWide_132 : decode b_Mo_foldWide 132 = .ok (.land, 1) := by decide +kernel
theorem d_Mo_foldWide_133 : decode b_Mo_foldWide 133 = .ok (.lstore 26, 2) := by decide +kernel
theorem d_Mo_foldWide_135 : decode b_Mo_foldWide 135 = .ok (.lload 22, 2) := by decide +kernel
theorem d_Mo_foldWide_137 : decode b_Mo_foldWide 137 = .ok (.lload 26, 2) := by decide +kernel
theorem d_Mo_foldWide_139 : decode b_Mo_foldWide 139 = .ok (.lload_n 2, 1) := by decide +kernel
theorem d_Mo_foldWide_140 : decode b_Mo_foldWide 140 = .ok (.lmul, 1) := by decide +kernel
theorem d_Mo_foldWide_141 : decode b_Mo_foldWide 141 = .ok (.ladd, 1) := by decide +kernel
theorem d_Mo_foldWide_142 : decode b_Mo_foldWide 142 = .ok (.bipush 29, 2) := by decide +kernel
theorem d_Mo_foldWide_144 : decode b_Mo_foldWide 144 = .ok (.lshr, 1) := by decide +kernel
theorem d_Mo_foldWide_145 : decode b_Mo_foldWide 145 = .ok (.aload_n 0, 1) := by decide +kernel
theorem d_Mo_foldWide_146 : decode b_Mo_foldWide 146 = .ok (.getfield 29, 3) := by decide +kernel
theorem d_Mo_foldWide_149 : decode b_Mo_foldWide 149 = .ok (.iconst 2, 1) := by decide +kernel
theorem d_Mo_foldWide_150 : decode b_Mo_foldWide 150 = .ok (.laload, 1) := by decide +kernel
theorem d_Mo_foldWide_151 : decode b_Mo_foldWide 151 = .ok (.ladd, 1) := by decide +kernel
theorem d_Mo_foldWide_152 : decode b_Mo_foldWide 152 = .ok (.lload 24, 2) := by decide +kernel
theorem d_Mo_foldWide_154 : decode b_Mo_foldWide 154 = .ok (.lload 6, 2) := by decide +kernel
theorem d_Mo_foldWide_156 : decode b_Mo_foldWide 156 = .ok (.lmul, 1) := by decide +kernel
theorem d_Mo_foldWide_157 : decode b_Mo_foldWide 157 = .ok (.ladd, 1) := by decide +kernel
theorem d_Mo_foldWide_158 : decode b_Mo_foldWide 158 = .ok (.lload 26, 2) := by decide +kernel
theorem d_Mo_foldWide_160 : decode b_Mo_foldWide 160 = .ok (.lload 4, 2) := by decide +kernel
theorem d_Mo_foldWide_162 : decode b_Mo_foldWide 162 = .ok (.lmul, 1) := by decide +kernel
theorem d_Mo_foldWide_163 : decode b_Mo_foldWide 163 = .ok (.ladd, 1) := by decide +kernel
theorem d_Mo_foldWide_164 : decode b_Mo_foldWide 164 = .ok (.lstore 22, 2) := by decide +kernel
theorem d_Mo_foldWide_166 : decode b_Mo_foldWide 166 = .ok (.lload 22, 2) := by decide +kernel
theorem d_Mo_foldWide_168 : decode b_Mo_foldWide 168 = .ok (.lload 20, 2) := by decide +kernel
theorem d_Mo_foldWide_170 : decode b_Mo_foldWide 170 = .ok (.lmul, 1) := by decide +kernel
theorem d_Mo_foldWide_171 : decode b_Mo_foldWide 171 = .ok (.ldc2_w 52, 3) := by decide +kernel
theorem d_Mo_foldWide_174 : decode b_Mo_foldWide 174 = .ok (.land, 1) := by decide +kernel
theorem d_Mo_foldWide_175 : decode b_Mo_foldWide 175 = .ok (.lstore 28, 2) := by decide +kernel
theorem d_Mo_foldWide_177 : decode b_Mo_foldWide 177 = .ok (.lload 22, 2) := by decide +kernel
theorem d_Mo_foldWide_179 : decode b_Mo_foldWide 179 = .ok (.lload 28, 2) := by decide +kernel
theorem d_Mo_foldWide_181 : decode b_Mo_foldWide 181 = .ok (.lload_n 2, 1) := by decide +kernel
theorem d_Mo_foldWide_182 : decode b_Mo_foldWide 182 = .ok (.lmul, 1) := by decide +kernel
theorem d_Mo_foldWide_183 : decode b_Mo_foldWide 183 = .ok (.ladd, 1) := by decide +kernel
theorem d_Mo_foldWide_184 : decode b_Mo_foldWide 184 = .ok (.bipush 29, 2) := by decide +kernel
theorem d_Mo_foldWide_186 : decode b_Mo_foldWide 186 = .ok (.lshr, 1) := by decide +kernel
theorem d_Mo_foldWide_187 : decode b_Mo_foldWide 187 = .ok (.aload_n 0, 1) := by decide +kernel
theorem d_Mo_foldWide_188 : decode b_Mo_foldWide 188 = .ok (.getfield 29, 3) := by decide +kernel
theorem d_Mo_foldWide_191 : decode b_Mo_foldWide 191 = .ok (.iconst 3, 1) := by decide +kernel
theorem d_Mo_foldWide_192 : decode b_Mo_foldWide 192 = .ok (.laload, 1) := by decide +kernel
theorem d_Mo_foldWide_193 : decode b_Mo_foldWide 193 = .ok (.ladd, 1) := by decide +kernel
theorem d_Mo_foldWide_194 : decode b_Mo_foldWide 194 = .ok (.lload 24, 2) := by decide +kernel
theorem d_Mo_foldWide_196 : decode b_Mo_foldWide 196 = .ok (.lload 8, 2) := by decide +kernel
theorem d_Mo_foldWide_198 : decode b_Mo_foldWide 198 = .ok (.lmul, 1) := by decide +kernel
theorem d_Mo_foldWide_199 : decode b_Mo_foldWide 199 = .ok (.ladd, 1) := by decide +kernel
theorem d_Mo_foldWide_200 : decode b_Mo_foldWide 200 = .ok (.lload 26, 2) := by decide +kernel
theorem d_Mo_foldWide_202 : decode b_Mo_foldWide 202 = .ok (.lload 6, 2) := by decide +kernel
theorem d_Mo_foldWide_204 : decode b_Mo_foldWide 204 = .ok (.lmul, 1) := by decide +kernel
theorem d_Mo_foldWide_205 : decode b_Mo_foldWide 205 = .ok (.ladd, 1) := by decide +kernel
theorem d_Mo_foldWide_206 : decode b_Mo_foldWide 206 = .ok (.lload 28, 2) := by decide +kernel
theorem d_Mo_foldWide_208 : decode b_Mo_foldWide 208 = .ok (.lload 4, 2) := by decide +kernel
theorem d_Mo_foldWide_210 : decode b_Mo_foldWide 210 = .ok (.lmul, 1) := by decide +kernel
theorem d_Mo_foldWide_211 : decode b_Mo_foldWide 211 = .ok (.ladd, 1) := by decide +kernel
theorem d_Mo_foldWide_212 : decode b_Mo_foldWide 212 = .ok (.lstore 22, 2) := by decide +kernel
theorem d_Mo_foldWide_214 : decode b_Mo_foldWide 214 = .ok (.lload 22, 2) := by decide +kernel
theorem d_Mo_foldWide_216 : decode b_Mo_foldWide 216 = .ok (.lload 20, 2) := by decide +kernel
theorem d_Mo_foldWide_218 : decode b_Mo_foldWide 218 = .ok (.lmul, 1) := by decide +kernel
theorem d_Mo_foldWide_219 : decode b_Mo_foldWide 219 = .ok (.ldc2_w 52, 3) := by decide +kernel
theorem d_Mo_foldWide_222 : decode b_Mo_foldWide 222 = .ok (.land, 1) := by decide +kernel
theorem d_Mo_foldWide_223 : decode b_Mo_foldWide 223 = .ok (.lstore 30, 2) := by decide +kernel
theorem d_Mo_foldWide_225 : decode b_Mo_foldWide 225 = .ok (.lload 22, 2) := by decide +kernel
theorem d_Mo_foldWide_227 : decode b_Mo_foldWide 227 = .ok (.lload 30, 2) := by decide +kernel
theorem d_Mo_foldWide_229 : decode b_Mo_foldWide 229 = .ok (.lload_n 2, 1) := by decide +kernel
theorem d_Mo_foldWide_230 : decode b_Mo_foldWide 230 = .ok (.lmul, 1) := by decide +kernel
theorem d_Mo_foldWide_231 : decode b_Mo_foldWide 231 = .ok (.ladd, 1) := by decide +kernel
theorem d_Mo_foldWide_232 : decode b_Mo_foldWide 232 = .ok (.bipush 29, 2) := by decide +kernel
theorem d_Mo_foldWide_234 : decode b_Mo_foldWide 234 = .ok (.lshr, 1) := by decide +kernel
theorem d_Mo_foldWide_235 : decode b_Mo_foldWide 235 = .ok (.aload_n 0, 1) := by decide +kernel
theorem d_Mo_foldWide_236 : decode b_Mo_foldWide 236 = .ok (.getfield 29, 3) := by decide +kernel
theorem d_Mo_foldWide_239 : decode b_Mo_foldWide 239 = .ok (.iconst 4, 1) := by decide +kernel
theorem d_Mo_foldWide_240 : decode b_Mo_foldWide 240 = .ok (.laload, 1) := by decide +kernel
theorem d_Mo_foldWide_241 : decode b_Mo_foldWide 241 = .ok (.ladd, 1) := by decide +kernel
theorem d_Mo_foldWide_242 : decode b_Mo_foldWide 242 = .ok (.lload 24, 2) := by decide +kernel
theorem d_Mo_foldWide_244 : decode b_Mo_foldWide 244 = .ok (.lload 10, 2) := by decide +kernel
theorem d_Mo_foldWide_246 : decode b_Mo_foldWide 246 = .ok (.lmul, 1) := by decide +kernel
theorem d_Mo_foldWide_247 : decode b_Mo_foldWide 247 = .ok (.ladd, 1) := by decide +kernel
theorem d_Mo_foldWide_248 : decode b_Mo_foldWide 248 = .ok (.lload 26, 2) := by decide +kernel
theorem d_Mo_foldWide_250 : decode b_Mo_foldWide 250 = .ok (.lload 8, 2) := by decide +kernel
theorem d_Mo_foldWide_252 : decode b_Mo_foldWide 252 = .ok (.lmul, 1) := by decide +kernel
theorem d_Mo_foldWide_253 : decode b_Mo_foldWide 253 = .ok (.ladd, 1) := by decide +kernel
theorem d_Mo_foldWide_254 : decode b_Mo_foldWide 254 = .ok (.lload 28, 2) := by decide +kernel
theorem d_Mo_foldWide_256 : decode b_Mo_foldWide 256 = .ok (.lload 6, 2) := by decide +kernel
theorem d_Mo_foldWide_258 : decode b_Mo_foldWide 258 = .ok (.lmul, 1) := by decide +kernel
theorem d_Mo_foldWide_259 : decode b_Mo_foldWide 259 = .ok (.ladd, 1) := by decide +kernel
theorem d_Mo_foldWide_260 : decode b_Mo_foldWide 260 = .ok (.lload 30, 2) := by decide +kernel
theorem d_Mo_foldWide_262 : decode b_Mo_foldWide 262 = .ok (.lload 4, 2) := by decide +kernel
theorem d_Mo_foldWide_264 : decode b_Mo_foldWide 264 = .ok (.lmul, 1) := by decide +kernel
theorem d_Mo_foldWide_265 : decode b_Mo_foldWide 265 = .ok (.ladd, 1) := by decide +kernel
theorem d_Mo_foldWide_266 : decode b_Mo_foldWide 266 = .ok (.lstore 22, 2) := by decide +kernel
theorem d_Mo_foldWide_268 : decode b_Mo_foldWide 268 = .ok (.lload 22, 2) := by decide +kernel
theorem d_Mo_foldWide_270 : decode b_Mo_foldWide 270 = .ok (.lload 20, 2) := by decide +kernel
theorem d_Mo_foldWide_272 : decode b_Mo_foldWide 272 = .ok (.lmul, 1) := by decide +kernel
theorem d_Mo_foldWide_273 : decode b_Mo_foldWide 273 = .ok (.ldc2_w 52, 3) := by decide +kernel
theorem d_Mo_foldWide_276 : decode b_Mo_foldWide 276 = .ok (.land, 1) := by decide +kernel
theorem d_Mo_foldWide_277 : decode b_Mo_foldWide 277 = .ok (.lstore 32, 2) := by decide +kernel
theorem d_Mo_foldWide_279 : decode b_Mo_foldWide 279 = .ok (.lload 22, 2) := by decide +kernel
theorem d_Mo_foldWide_281 : decode b_Mo_foldWide 281 = .ok (.lload 32, 2) := by decide +kernel
theorem d_Mo_foldWide_283 : decode b_Mo_foldWide 283 = .ok (.lload_n 2, 1) := by decide +kernel
theorem d_Mo_foldWide_284 : decode b_Mo_foldWide 284 = .ok (.lmul, 1) := by decide +kernel
theorem d_Mo_foldWide_285 : decode b_Mo_foldWide 285 = .ok (.ladd, 1) := by decide +kernel
theorem d_Mo_foldWide_286 : decode b_Mo_foldWide 286 = .ok (.bipush 29, 2) := by decide +kernel
theorem d_Mo_foldWide_288 : decode b_Mo_foldWide 288 = .ok (.lshr, 1) := by decide +kernel
theorem d_Mo_foldWide_289 : decode b_Mo_foldWide 289 = .ok (.aload_n 0, 1) := by decide +kernel
theorem d_Mo_foldWide_290 : decode b_Mo_foldWide 290 = .ok (.getfield 29, 3) := by decide +kernel
theorem d_Mo_foldWide_293 : decode b_Mo_foldWide 293 = .ok (.iconst 5, 1) := by decide +kernel
theorem d_Mo_foldWide_294 : decode b_Mo_foldWide 294 = .ok (.laload, 1) := by decide +kernel
theorem d_Mo_foldWide_295 : decode b_Mo_foldWide 295 = .ok (.ladd, 1) := by decide +kernel
theorem d_Mo_foldWide_296 : decode b_Mo_foldWide 296 = .ok (.lload 24, 2) := by decide +kernel
theorem d_Mo_foldWide_298 : decode b_Mo_foldWide 298 = .ok (.lload 12, 2) := by decide +kernel
theorem d_Mo_foldWide_300 : decode b_Mo_foldWide 300 = .ok (.lmul, 1) := by decide +kernel
theorem d_Mo_foldWide_301 : decode b_Mo_foldWide 301 = .ok (.ladd, 1) := by decide +kernel
theorem d_Mo_foldWide_302 : decode b_Mo_foldWide 302 = .ok (.lload 26, 2) := by decide +kernel
theorem d_Mo_foldWide_304 : decode b_Mo_foldWide 304 = .ok (.lload 10, 2) := by decide +kernel
theorem d_Mo_foldWide_306 : decode b_Mo_foldWide 306 = .ok (.lmul, 1) := by decide +kernel
theorem d_Mo_foldWide_307 : decode b_Mo_foldWide 307 = .ok (.ladd, 1) := by decide +kernel
theorem d_Mo_foldWide_308 : decode b_Mo_foldWide 308 = .ok (.lload 28, 2) := by decide +kernel
theorem d_Mo_foldWide_310 : decode b_Mo_foldWide 310 = .ok (.lload 8, 2) := by decide +kernel
theorem d_Mo_foldWide_312 : decode b_Mo_foldWide 312 = .ok (.lmul, 1) := by decide +kernel
theorem d_Mo_foldWide_313 : decode b_Mo_foldWide 313 = .ok (.ladd, 1) := by decide +kernel
theorem d_Mo_foldWide_314 : decode b_Mo_foldWide 314 = .ok (.lload 30, 2) := by decide +kernel
theorem d_Mo_foldWide_316 : decode b_Mo_foldWide 316 = .ok (.lload 6, 2) := by decide +kernel
theorem d_Mo_foldWide_318 : decode b_Mo_foldWide 318 = .ok (.lmul, 1) := by decide +kernel
theorem d_Mo_foldWide_319 : decode b_Mo_foldWide 319 = .ok (.ladd, 1) := by decide +kernel
theorem d_Mo_foldWide_320 : decode b_Mo_foldWide 320 = .ok (.lload 32, 2) := by decide +kernel
theorem d_Mo_foldWide_322 : decode b_Mo_foldWide 322 = .ok (.lload 4, 2) := by decide +kernel
theorem d_Mo_foldWide_324 : decode b_Mo_foldWide 324 = .ok (.lmul, 1) := by decide +kernel
theorem d_Mo_foldWide_325 : decode b_Mo_foldWide 325 = .ok (.ladd, 1) := by decide +kernel
theorem d_Mo_foldWide_326 : decode b_Mo_foldWide 326 = .ok (.lstore 22, 2) := by decide +kernel
theorem d_Mo_foldWide_328 : decode b_Mo_foldWide 328 = .ok (.lload 22, 2) := by decide +kernel
theorem d_Mo_foldWide_330 : decode b_Mo_foldWide 330 = .ok (.lload 20, 2) := by decide +kernel
theorem d_Mo_foldWide_332 : decode b_Mo_foldWide 332 = .ok (.lmul, 1) := by decide +kernel
theorem d_Mo_foldWide_333 : decode b_Mo_foldWide 333 = .ok (.ldc2_w 52, 3) := by decide +kernel
theorem d_Mo_foldWide_336 : decode b_Mo_foldWide 336 = .ok (.land, 1) := by decide +kernel
theorem d_Mo_foldWide_337 : decode b_Mo_foldWide 337 = .ok (.lstore 34, 2) := by decide +kernel
theorem d_Mo_foldWide_339 : decode b_Mo_foldWide 339 = .ok (.lload 22, 2) := by decide +kernel
theorem d_Mo_foldWide_341 : decode b_Mo_foldWide 341 = .ok (.lload 34, 2) := by decide +kernel
theorem d_Mo_foldWide_343 : decode b_Mo_foldWide 343 = .ok (.lload_n 2, 1) := by decide +kernel
theorem d_Mo_foldWide_344 : decode b_Mo_foldWide 344 = .ok (.lmul, 1) := by decide +kernel
theorem d_Mo_foldWide_345 : decode b_Mo_foldWide 345 = .ok (.ladd, 1) := by decide +kernel
theorem d_Mo_foldWide_346 : decode b_Mo_foldWide 346 = .ok (.bipush 29, 2) := by decide +kernel
theorem d_Mo_foldWide_348 : decode b_Mo_foldWide 348 = .ok (.lshr, 1) := by decide +kernel
theorem d_Mo_foldWide_349 : decode b_Mo_foldWide 349 = .ok (.aload_n 0, 1) := by decide +kernel
theorem d_Mo_foldWide_350 : decode b_Mo_foldWide 350 = .ok (.getfield 29, 3) := by decide +kernel
theorem d_Mo_foldWide_353 : decode b_Mo_foldWide 353 = .ok (.bipush 6, 2) := by decide +kernel
theorem d_Mo_foldWide_355 : decode b_Mo_foldWide 355 = .ok (.laload, 1) := by decide +kernel
theorem d_Mo_foldWide_356 : decode b_Mo_foldWide 356 = .ok (.ladd, 1) := by decide +kernel
theorem d_Mo_foldWide_357 : decode b_Mo_foldWide 357 = .ok (.lload 24, 2) := by decide +kernel
theorem d_Mo_foldWide_359 : decode b_Mo_foldWide 359 = .ok (.lload 14, 2) := by decide +kernel
theorem d_Mo_foldWide_361 : decode b_Mo_foldWide 361 = .ok (.lmul, 1) := by decide +kernel
theorem d_Mo_foldWide_362 : decode b_Mo_foldWide 362 = .ok (.ladd, 1) := by decide +kernel
theorem d_Mo_foldWide_363 : decode b_Mo_foldWide 363 = .ok (.lload 26, 2) := by decide +kernel
theorem d_Mo_foldWide_365 : decode b_Mo_foldWide 365 = .ok (.lload 12, 2) := by decide +kernel
theorem d_Mo_foldWide_367 : decode b_Mo_foldWide 367 = .ok (.lmul, 1) := by decide +kernel
theorem d_Mo_foldWide_368 : decode b_Mo_foldWide 368 = .ok (.ladd, 1) := by decide +kernel
theorem d_Mo_foldWide_369 : decode b_Mo_foldWide 369 = .ok (.lload 28, 2) := by decide +kernel
theorem d_Mo_foldWide_371 : decode b_Mo_foldWide 371 = .ok (.lload 10, 2) := by decide +kernel
theorem d_Mo_foldWide_373 : decode b_Mo_foldWide 373 = .ok (.lmul, 1) := by decide +kernel
theorem d_Mo_foldWide_374 : decode b_Mo_foldWide 374 = .ok (.ladd, 1) := by decide +kernel
theorem d_Mo_foldWide_375 : decode b_Mo_foldWide 375 = .ok (.lload 30, 2) := by decide +kernel
theorem d_Mo_foldWide_377 : decode b_Mo_foldWide 377 = .ok (.lload 8, 2) := by decide +kernel
theorem d_Mo_foldWide_379 : decode b_Mo_foldWide 379 = .ok (.lmul, 1) := by decide +kernel
theorem d_Mo_foldWide_380 : decode b_Mo_foldWide 380 = .ok (.ladd, 1) := by decide +kernel
theorem d_Mo_foldWide_381 : decode b_Mo_foldWide 381 = .ok (.lload 32, 2) := by decide +kernel
theorem d_Mo_foldWide_383 : decode b_Mo_foldWide 383 = .ok (.lload 6, 2) := by decide +kernel
theorem d_Mo_foldWide_385 : decode b_Mo_foldWide 385 = .ok (.lmul, 1) := by decide +kernel
theorem d_Mo_foldWide_386 : decode b_Mo_foldWide 386 = .ok (.ladd, 1) := by decide +kernel
theorem d_Mo_foldWide_387 : decode b_Mo_foldWide 387 = .ok (.lload 34, 2) := by decide +kernel
theorem d_Mo_foldWide_389 : decode b_Mo_foldWide 389 = .ok (.lload 4, 2) := by decide +kernel
theorem d_Mo_foldWide_391 : decode b_Mo_foldWide 391 = .ok (.lmul, 1) := by decide +kernel
theorem d_Mo_foldWide_392 : decode b_Mo_foldWide 392 = .ok (.ladd, 1) := by decide +kernel
theorem d_Mo_foldWide_393 : decode b_Mo_foldWide 393 = .ok (.lstore 22, 2) := by decide +kernel
theorem d_Mo_foldWide_395 : decode b_Mo_foldWide 395 = .ok (.lload 22, 2) := by decide +kernel
theorem d_Mo_foldWide_397 : decode b_Mo_foldWide 397 = .ok (.lload 20, 2) := by decide +kernel
theorem d_Mo_foldWide_399 : decode b_Mo_foldWide 399 = .ok (.lmul, 1) := by decide +kernel
theorem d_Mo_foldWide_400 : decode b_Mo_foldWide 400 = .ok (.ldc2_w 52, 3) := by decide +kernel
theorem d_Mo_foldWide_403 : decode b_Mo_foldWide 403 = .ok (.land, 1) := by decide +kernel
theorem d_Mo_foldWide_404 : decode b_Mo_foldWide 404 = .ok (.lstore 36, 2) := by decide +kernel
theorem d_Mo_foldWide_406 : decode b_Mo_foldWide 406 = .ok (.lload 22, 2) := by decide +kernel
theorem d_Mo_foldWide_408 : decode b_Mo_foldWide 408 = .ok (.lload 36, 2) := by decide +kernel
theorem d_Mo_foldWide_410 : decode b_Mo_foldWide 410 = .ok (.lload_n 2, 1) := by decide +kernel
theorem d_Mo_foldWide_411 : decode b_Mo_foldWide 411 = .ok (.lmul, 1) := by decide +kernel
theorem d_Mo_foldWide_412 : decode b_Mo_foldWide 412 = .ok (.ladd, 1) := by decide +kernel
theorem d_Mo_foldWide_413 : decode b_Mo_foldWide 413 = .ok (.bipush 29, 2) := by decide +kernel
theorem d_Mo_foldWide_415 : decode b_Mo_foldWide 415 = .ok (.lshr, 1) := by decide +kernel
theorem d_Mo_foldWide_416 : decode b_Mo_foldWide 416 = .ok (.aload_n 0, 1) := by decide +kernel
theorem d_Mo_foldWide_417 : decode b_Mo_foldWide 417 = .ok (.getfield 29, 3) := by decide +kernel
theorem d_Mo_foldWide_420 : decode b_Mo_foldWide 420 = .ok (.bipush 7, 2) := by decide +kernel
theorem d_Mo_foldWide_422 : decode b_Mo_foldWide 422 = .ok (.laload, 1) := by decide +kernel
theorem d_Mo_foldWide_423 : decode b_Mo_foldWide 423 = .ok (.ladd, 1) := by decide +kernel
theorem d_Mo_foldWide_424 : decode b_Mo_foldWide 424 = .ok (.lload 24, 2) := by decide +kernel
theorem d_Mo_foldWide_426 : decode b_Mo_foldWide 426 = .ok (.lload 16, 2) := by decide +kernel
theorem d_Mo_foldWide_428 : decode b_Mo_foldWide 428 = .ok (.lmul, 1) := by decide +kernel
theorem d_Mo_foldWide_429 : decode b_Mo_foldWide 429 = .ok (.ladd, 1) := by decide +kernel
theorem d_Mo_foldWide_430 : decode b_Mo_foldWide 430 = .ok (.lload 26, 2) := by decide +kernel
theorem d_Mo_foldWide_432 : decode b_Mo_foldWide 432 = .ok (.lload 14, 2) := by decide +kernel
theorem d_Mo_foldWide_434 : decode b_Mo_foldWide 434 = .ok (.lmul, 1) := by decide +kernel
theorem d_Mo_foldWide_435 : decode b_Mo_foldWide 435 = .ok (.ladd, 1) := by decide +kernel
theorem d_Mo_foldWide_436 : decode b_Mo_foldWide 436 = .ok (.lload 28, 2) := by decide +kernel
theorem d_Mo_foldWide_438 : decode b_Mo_foldWide 438 = .ok (.lload 12, 2) := by decide +kernel
theorem d_Mo_foldWide_440 : decode b_Mo_foldWide 440 = .ok (.lmul, 1) := by decide +kernel
theorem d_Mo_foldWide_441 : decode b_Mo_foldWide 441 = .ok (.ladd, 1) := by decide +kernel
theorem d_Mo_foldWide_442 : decode b_Mo_foldWide 442 = .ok (.lload 30, 2) := by decide +kernel
theorem d_Mo_foldWide_444 : decode b_Mo_foldWide 444 = .ok (.lload 10, 2) := by decide +kernel
theorem d_Mo_foldWide_446 : decode b_Mo_foldWide 446 = .ok (.lmul, 1) := by decide +kernel
theorem d_Mo_foldWide_447 : decode b_Mo_foldWide 447 = .ok (.ladd, 1) := by decide +kernel
theorem d_Mo_foldWide_448 : decode b_Mo_foldWide 448 = .ok (.lload 32, 2) := by decide +kernel
theorem d_Mo_foldWide_450 : decode b_Mo_foldWide 450 = .ok (.lload 8, 2) := by decide +kernel
theorem d_Mo_foldWide_452 : decode b_Mo_foldWide 452 = .ok (.lmul, 1) := by decide +kernel
theorem d_Mo_foldWide_453 : decode b_Mo_foldWide 453 = .ok (.ladd, 1) := by decide +kernel
theorem d_Mo_foldWide_454 : decode b_Mo_foldWide 454 = .ok (.lload 34, 2) := by decide +kernel
theorem d_Mo_foldWide_456 : decode b_Mo_foldWide 456 = .ok (.lload 6, 2) := by decide +kernel
theorem d_Mo_foldWide_458 : decode b_Mo_foldWide 458 = .ok (.lmul, 1) := by decide +kernel
theorem d_Mo_foldWide_459 : decode b_Mo_foldWide 459 = .ok (.ladd, 1) := by decide +kernel
theorem d_Mo_foldWide_460 : decode b_Mo_foldWide 460 = .ok (.lload 36, 2) := by decide +kernel
theorem d_Mo_foldWide_462 : decode b_Mo_foldWide 462 = .ok (.lload 4, 2) := by decide +kernel
theorem d_Mo_foldWide_464 : decode b_Mo_foldWide 464 = .ok (.lmul, 1) := by decide +kernel
theorem d_Mo_foldWide_465 : decode b_Mo_foldWide 465 = .ok (.ladd, 1) := by decide +kernel
theorem d_Mo_foldWide_466 : decode b_Mo_foldWide 466 = .ok (.lstore 22, 2) := by decide +kernel
theorem d_Mo_foldWide_468 : decode b_Mo_foldWide 468 = .ok (.lload 22, 2) := by decide +kernel
theorem d_Mo_foldWide_470 : decode b_Mo_foldWide 470 = .ok (.lload 20, 2) := by decide +kernel
theorem d_Mo_foldWide_472 : decode b_Mo_foldWide 472 = .ok (.lmul, 1) := by decide +kernel
theorem d_Mo_foldWide_473 : decode b_Mo_foldWide 473 = .ok (.ldc2_w 52, 3) := by decide +kernel
theorem d_Mo_foldWide_476 : decode b_Mo_foldWide 476 = .ok (.land, 1) := by decide +kernel
theorem d_Mo_foldWide_477 : decode b_Mo_foldWide 477 = .ok (.lstore 38, 2) := by decide +kernel
theorem d_Mo_foldWide_479 : decode b_Mo_foldWide 479 = .ok (.lload 22, 2) := by decide +kernel
theorem d_Mo_foldWide_481 : decode b_Mo_foldWide 481 = .ok (.lload 38, 2) := by decide +kernel
theorem d_Mo_foldWide_483 : decode b_Mo_foldWide 483 = .ok (.lload_n 2, 1) := by decide +kernel
theorem d_Mo_foldWide_484 : decode b_Mo_foldWide 484 = .ok (.lmul, 1) := by decide +kernel
theorem d_Mo_foldWide_485 : decode b_Mo_foldWide 485 = .ok (.ladd, 1) := by decide +kernel
theorem d_Mo_foldWide_486 : decode b_Mo_foldWide 486 = .ok (.bipush 29, 2) := by decide +kernel
theorem d_Mo_foldWide_488 : decode b_Mo_foldWide 488 = .ok (.lshr, 1) := by decide +kernel
theorem d_Mo_foldWide_489 : decode b_Mo_foldWide 489 = .ok (.aload_n 0, 1) := by decide +kernel
theorem d_Mo_foldWide_490 : decode b_Mo_foldWide 490 = .ok (.getfield 29, 3) := by decide +kernel
theorem d_Mo_foldWide_493 : decode b_Mo_foldWide 493 = .ok (.bipush 8, 2) := by decide +kernel
theorem d_Mo_foldWide_495 : decode b_Mo_foldWide 495 = .ok (.laload, 1) := by decide +kernel
theorem d_Mo_foldWide_496 : decode b_Mo_foldWide 496 = .ok (.ladd, 1) := by decide +kernel
theorem d_Mo_foldWide_497 : decode b_Mo_foldWide 497 = .ok (.lload 24, 2) := by decide +kernel
theorem d_Mo_foldWide_499 : decode b_Mo_foldWide 499 = .ok (.lload 18, 2) := by decide +kernel
theorem d_Mo_foldWide_501 : decode b_Mo_foldWide 501 = .ok (.lmul, 1) := by decide +kernel
theorem d_Mo_foldWide_502 : decode b_Mo_foldWide 502 = .ok (.ladd, 1) := by decide +kernel
theorem d_Mo_foldWide_503 : decode b_Mo_foldWide 503 = .ok (.lload 26, 2) := by decide +kernel
theorem d_Mo_foldWide_505 : decode b_Mo_foldWide 505 = .ok (.lload 16, 2) := by decide +kernel
theorem d_Mo_foldWide_507 : decode b_Mo_foldWide 507 = .ok (.lmul, 1) := by decide +kernel
theorem d_Mo_foldWide_508 : decode b_Mo_foldWide 508 = .ok (.ladd, 1) := by decide +kernel
theorem d_Mo_foldWide_509 : decode b_Mo_foldWide 509 = .ok (.lload 28, 2) := by decide +kernel
theorem d_Mo_foldWide_511 : decode b_Mo_foldWide 511 = .ok (.lload 14, 2) := by decide +kernel
theorem d_Mo_foldWide_513 : decode b_Mo_foldWide 513 = .ok (.lmul, 1) := by decide +kernel
theorem d_Mo_foldWide_514 : decode b_Mo_foldWide 514 = .ok (.ladd, 1) := by decide +kernel
theorem d_Mo_foldWide_515 : decode b_Mo_foldWide 515 = .ok (.lload 30, 2) := by decide +kernel
theorem d_Mo_foldWide_517 : decode b_Mo_foldWide 517 = .ok (.lload 12, 2) := by decide +kernel
theorem d_Mo_foldWide_519 : decode b_Mo_foldWide 519 = .ok (.lmul, 1) := by decide +kernel
theorem d_Mo_foldWide_520 : decode b_Mo_foldWide 520 = .ok (.ladd, 1) := by decide +kernel
theorem d_Mo_foldWide_521 : decode b_Mo_foldWide 521 = .ok (.lload 32, 2) := by decide +kernel
theorem d_Mo_foldWide_523 : decode b_Mo_foldWide 523 = .ok (.lload 10, 2) := by decide +kernel
theorem d_Mo_foldWide_525 : decode b_Mo_foldWide 525 = .ok (.lmul, 1) := by decide +kernel
theorem d_Mo_foldWide_526 : decode b_Mo_foldWide 526 = .ok (.ladd, 1) := by decide +kernel
theorem d_Mo_foldWide_527 : decode b_Mo_foldWide 527 = .ok (.lload 34, 2) := by decide +kernel
theorem d_Mo_foldWide_529 : decode b_Mo_foldWide 529 = .ok (.lload 8, 2) := by decide +kernel
theorem d_Mo_foldWide_531 : decode b_Mo_foldWide 531 = .ok (.lmul, 1) := by decide +kernel
theorem d_Mo_foldWide_532 : decode b_Mo_foldWide 532 = .ok (.ladd, 1) := by decide +kernel
theorem d_Mo_foldWide_533 : decode b_Mo_foldWide 533 = .ok (.lload 36, 2) := by decide +kernel
theorem d_Mo_foldWide_535 : decode b_Mo_foldWide 535 = .ok (.lload 6, 2) := by decide +kernel
theorem d_Mo_foldWide_537 : decode b_Mo_foldWide 537 = .ok (.lmul, 1) := by decide +kernel
theorem d_Mo_foldWide_538 : decode b_Mo_foldWide 538 = .ok (.ladd, 1) := by decide +kernel
theorem d_Mo_foldWide_539 : decode b_Mo_foldWide 539 = .ok (.lload 38, 2) := by decide +kernel
theorem d_Mo_foldWide_541 : decode b_Mo_foldWide 541 = .ok (.lload 4, 2) := by decide +kernel
theorem d_Mo_foldWide_543 : decode b_Mo_foldWide 543 = .ok (.lmul, 1) := by decide +kernel
theorem d_Mo_foldWide_544 : decode b_Mo_foldWide 544 = .ok (.ladd, 1) := by decide +kernel
theorem d_Mo_foldWide_545 : decode b_Mo_foldWide 545 = .ok (.lstore 22, 2) := by decide +kernel
theorem d_Mo_foldWide_547 : decode b_Mo_foldWide 547 = .ok (.lload 22, 2) := by decide +kernel
theorem d_Mo_foldWide_549 : decode b_Mo_foldWide 549 = .ok (.lload 20, 2) := by decide +kernel
theorem d_Mo_foldWide_551 : decode b_Mo_foldWide 551 = .ok (.lmul, 1) := by decide +kernel
theorem d_Mo_foldWide_552 : decode b_Mo_foldWide 552 = .ok (.ldc2_w 52, 3) := by decide +kernel
theorem d_Mo_foldWide_555 : decode b_Mo_foldWide 555 = .ok (.land, 1) := by decide +kernel
theorem d_Mo_foldWide_556 : decode b_Mo_foldWide 556 = .ok (.lstore 40, 2) := by decide +kernel
theorem d_Mo_foldWide_558 : decode b_Mo_foldWide 558 = .ok (.lload 22, 2) := by decide +kernel
theorem d_Mo_foldWide_560 : decode b_Mo_foldWide 560 = .ok (.lload 40, 2) := by decide +kernel
theorem d_Mo_foldWide_562 : decode b_Mo_foldWide 562 = .ok (.lload_n 2, 1) := by decide +kernel
theorem d_Mo_foldWide_563 : decode b_Mo_foldWide 563 = .ok (.lmul, 1) := by decide +kernel
theorem d_Mo_foldWide_564 : decode b_Mo_foldWide 564 = .ok (.ladd, 1) := by decide +kernel
theorem d_Mo_foldWide_565 : decode b_Mo_foldWide 565 = .ok (.bipush 29, 2) := by decide +kernel
theorem d_Mo_foldWide_567 : decode b_Mo_foldWide 567 = .ok (.lshr, 1) := by decide +kernel
theorem d_Mo_foldWide_568 : decode b_Mo_foldWide 568 = .ok (.aload_n 0, 1) := by decide +kernel
theorem d_Mo_foldWide_569 : decode b_Mo_foldWide 569 = .ok (.getfield 29, 3) := by decide +kernel
theorem d_Mo_foldWide_572 : decode b_Mo_foldWide 572 = .ok (.bipush 9, 2) := by decide +kernel
theorem d_Mo_foldWide_574 : decode b_Mo_foldWide 574 = .ok (.laload, 1) := by decide +kernel
theorem d_Mo_foldWide_575 : decode b_Mo_foldWide 575 = .ok (.ladd, 1) := by decide +kernel
theorem d_Mo_foldWide_576 : decode b_Mo_foldWide 576 = .ok (.lload 26, 2) := by decide +kernel
theorem d_Mo_foldWide_578 : decode b_Mo_foldWide 578 = .ok (.lload 18, 2) := by decide +kernel
theorem d_Mo_foldWide_580 : decode b_Mo_foldWide 580 = .ok (.lmul, 1) := by decide +kernel
theorem d_Mo_foldWide_581 : decode b_Mo_foldWide 581 = .ok (.ladd, 1) := by decide +kernel
theorem d_Mo_foldWide_582 : decode b_Mo_foldWide 582 = .ok (.lload 28, 2) := by decide +kernel
theorem d_Mo_foldWide_584 : decode b_Mo_foldWide 584 = .ok (.lload 16, 2) := by decide +kernel
theorem d_Mo_foldWide_586 : decode b_Mo_foldWide 586 = .ok (.lmul, 1) := by decide +kernel
theorem d_Mo_foldWide_587 : decode b_Mo_foldWide 587 = .ok (.ladd, 1) := by decide +kernel
theorem d_Mo_foldWide_588 : decode b_Mo_foldWide 588 = .ok (.lload 30, 2) := by decide +kernel
theorem d_Mo_foldWide_590 : decode b_Mo_foldWide 590 = .ok (.lload 14, 2) := by decide +kernel
theorem d_Mo_foldWide_592 : decode b_Mo_foldWide 592 = .ok (.lmul, 1) := by decide +kernel
theorem d_Mo_foldWide_593 : decode b_Mo_foldWide 593 = .ok (.ladd, 1) := by decide +kernel
theorem d_Mo_foldWide_594 : decode b_Mo_foldWide 594 = .ok (.lload 32, 2) := by decide +kernel
theorem d_Mo_foldWide_596 : decode b_Mo_foldWide 596 = .ok (.lload 12, 2) := by decide +kernel
theorem d_Mo_foldWide_598 : decode b_Mo_foldWide 598 = .ok (.lmul, 1) := by decide +kernel
theorem d_Mo_foldWide_599 : decode b_Mo_foldWide 599 = .ok (.ladd, 1) := by decide +kernel
theorem d_Mo_foldWide_600 : decode b_Mo_foldWide 600 = .ok (.lload 34, 2) := by decide +kernel
theorem d_Mo_foldWide_602 : decode b_Mo_foldWide 602 = .ok (.lload 10, 2) := by decide +kernel
theorem d_Mo_foldWide_604 : decode b_Mo_foldWide 604 = .ok (.lmul, 1) := by decide +kernel
theorem d_Mo_foldWide_605 : decode b_Mo_foldWide 605 = .ok (.ladd, 1) := by decide +kernel
theorem d_Mo_foldWide_606 : decode b_Mo_foldWide 606 = .ok (.lload 36, 2) := by decide +kernel
theorem d_Mo_foldWide_608 : decode b_Mo_foldWide 608 = .ok (.lload 8, 2) := by decide +kernel
theorem d_Mo_foldWide_610 : decode b_Mo_foldWide 610 = .ok (.lmul, 1) := by decide +kernel
theorem d_Mo_foldWide_611 : decode b_Mo_foldWide 611 = .ok (.ladd, 1) := by decide +kernel
theorem d_Mo_foldWide_612 : decode b_Mo_foldWide 612 = .ok (.lload 38, 2) := by decide +kernel
theorem d_Mo_foldWide_614 : decode b_Mo_foldWide 614 = .ok (.lload 6, 2) := by decide +kernel
theorem d_Mo_foldWide_616 : decode b_Mo_foldWide 616 = .ok (.lmul, 1) := by decide +kernel
theorem d_Mo_foldWide_617 : decode b_Mo_foldWide 617 = .ok (.ladd, 1) := by decide +kernel
theorem d_Mo_foldWide_618 : decode b_Mo_foldWide 618 = .ok (.lload 40, 2) := by decide +kernel
theorem d_Mo_foldWide_620 : decode b_Mo_foldWide 620 = .ok (.lload 4, 2) := by decide +kernel
theorem d_Mo_foldWide_622 : decode b_Mo_foldWide 622 = .ok (.lmul, 1) := by decide +kernel
theorem d_Mo_foldWide_623 : decode b_Mo_foldWide 623 = .ok (.ladd, 1) := by decide +kernel
theorem d_Mo_foldWide_624 : decode b_Mo_foldWide 624 = .ok (.lstore 22, 2) := by decide +kernel
theorem d_Mo_foldWide_626 : decode b_Mo_foldWide 626 = .ok (.aload_n 1, 1) := by decide +kernel
theorem d_Mo_foldWide_627 : decode b_Mo_foldWide 627 = .ok (.iconst 0, 1) := by decide +kernel
theorem d_Mo_foldWide_628 : decode b_Mo_foldWide 628 = .ok (.lload 22, 2) := by decide +kernel
theorem d_Mo_foldWide_630 : decode b_Mo_foldWide 630 = .ok (.ldc2_w 52, 3) := by decide +kernel
theorem d_Mo_foldWide_633 : decode b_Mo_foldWide 633 = .ok (.land, 1) := by decide +kernel
theorem d_Mo_foldWide_634 : decode b_Mo_foldWide 634 = .ok (.lastore, 1) := by decide +kernel
theorem d_Mo_foldWide_635 : decode b_Mo_foldWide 635 = .ok (.lload 22, 2) := by decide +kernel
theorem d_Mo_foldWide_637 : decode b_Mo_foldWide 637 = .ok (.bipush 29, 2) := by decide +kernel
theorem d_Mo_foldWide_639 : decode b_Mo_foldWide 639 = .ok (.lshr, 1) := by decide +kernel
theorem d_Mo_foldWide_640 : decode b_Mo_foldWide 640 = .ok (.aload_n 0, 1) := by decide +kernel
theorem d_Mo_foldWide_641 : decode b_Mo_foldWide 641 = .ok (.getfield 29, 3) := by decide +kernel
theorem d_Mo_foldWide_644 : decode b_Mo_foldWide 644 = .ok (.bipush 10, 2) := by decide +kernel
theorem d_Mo_foldWide_646 : decode b_Mo_foldWide 646 = .ok (.laload, 1) := by decide +kernel
theorem d_Mo_foldWide_647 : decode b_Mo_foldWide 647 = .ok (.ladd, 1) := by decide +kernel
theorem d_Mo_foldWide_648 : decode b_Mo_foldWide 648 = .ok (.lload 28, 2) := by decide +kernel
theorem d_Mo_foldWide_650 : decode b_Mo_foldWide 650 = .ok (.lload 18, 2) := by decide +kernel
theorem d_Mo_foldWide_652 : decode b_Mo_foldWide 652 = .ok (.lmul, 1) := by decide +kernel
theorem d_Mo_foldWide_653 : decode b_Mo_foldWide 653 = .ok (.ladd, 1) := by decide +kernel
theorem d_Mo_foldWide_654 : decode b_Mo_foldWide 654 = .ok (.lload 30, 2) := by decide +kernel
theorem d_Mo_foldWide_656 : decode b_Mo_foldWide 656 = .ok (.lload 16, 2) := by decide +kernel
theorem d_Mo_foldWide_658 : decode b_Mo_foldWide 658 = .ok (.lmul, 1) := by decide +kernel
theorem d_Mo_foldWide_659 : decode b_Mo_foldWide 659 = .ok (.ladd, 1) := by decide +kernel
theorem d_Mo_foldWide_660 : decode b_Mo_foldWide 660 = .ok (.lload 32, 2) := by decide +kernel
theorem d_Mo_foldWide_662 : decode b_Mo_foldWide 662 = .ok (.lload 14, 2) := by decide +kernel
theorem d_Mo_foldWide_664 : decode b_Mo_foldWide 664 = .ok (.lmul, 1) := by decide +kernel
theorem d_Mo_foldWide_665 : decode b_Mo_foldWide 665 = .ok (.ladd, 1) := by decide +kernel
theorem d_Mo_foldWide_666 : decode b_Mo_foldWide 666 = .ok (.lload 34, 2) := by decide +kernel
theorem d_Mo_foldWide_668 : decode b_Mo_foldWide 668 = .ok (.lload 12, 2) := by decide +kernel
theorem d_Mo_foldWide_670 : decode b_Mo_foldWide 670 = .ok (.lmul, 1) := by decide +kernel
theorem d_Mo_foldWide_671 : decode b_Mo_foldWide 671 = .ok (.ladd, 1) := by decide +kernel
theorem d_Mo_foldWide_672 : decode b_Mo_foldWide 672 = .ok (.lload 36, 2) := by decide +kernel
theorem d_Mo_foldWide_674 : decode b_Mo_foldWide 674 = .ok (.lload 10, 2) := by decide +kernel
theorem d_Mo_foldWide_676 : decode b_Mo_foldWide 676 = .ok (.lmul, 1) := by decide +kernel
theorem d_Mo_foldWide_677 : decode b_Mo_foldWide 677 = .ok (.ladd, 1) := by decide +kernel
theorem d_Mo_foldWide_678 : decode b_Mo_foldWide 678 = .ok (.lload 38, 2) := by decide +kernel
theorem d_Mo_foldWide_680 : decode b_Mo_foldWide 680 = .ok (.lload 8, 2) := by decide +kernel
theorem d_Mo_foldWide_682 : decode b_Mo_foldWide 682 = .ok (.lmul, 1) := by decide +kernel
theorem d_Mo_foldWide_683 : decode b_Mo_foldWide 683 = .ok (.ladd, 1) := by decide +kernel
theorem d_Mo_foldWide_684 : decode b_Mo_foldWide 684 = .ok (.lload 40, 2) := by decide +kernel
theorem d_Mo_foldWide_686 : decode b_Mo_foldWide 686 = .ok (.lload 6, 2) := by decide +kernel
theorem d_Mo_foldWide_688 : decode b_Mo_foldWide 688 = .ok (.lmul, 1) := by decide +kernel
theorem d_Mo_foldWide_689 : decode b_Mo_foldWide 689 = .ok (.ladd, 1) := by decide +kernel
theorem d_Mo_foldWide_690 : decode b_Mo_foldWide 690 = .ok (.lstore 22, 2) := by decide +kernel
theorem d_Mo_foldWide_692 : decode b_Mo_foldWide 692 = .ok (.aload_n 1, 1) := by decide +kernel
theorem d_Mo_foldWide_693 : decode b_Mo_foldWide 693 = .ok (.iconst 1, 1) := by decide +kernel
theorem d_Mo_foldWide_694 : decode b_Mo_foldWide 694 = .ok (.lload 22, 2) := by decide +kernel
theorem d_Mo_foldWide_696 : decode b_Mo_foldWide 696 = .ok (.ldc2_w 52, 3) := by decide +kernel
theorem d_Mo_foldWide_699 : decode b_Mo_foldWide 699 = .ok (.land, 1) := by decide +kernel
theorem d_Mo_foldWide_700 : decode b_Mo_foldWide 700 = .ok (.lastore, 1) := by decide +kernel
theorem d_Mo_foldWide_701 : decode b_Mo_foldWide 701 = .ok (.lload 22, 2) := by decide +kernel
theorem d_Mo_foldWide_703 : decode b_Mo_foldWide 703 = .ok (.bipush 29, 2) := by decide +kernel
theorem d_Mo_foldWide_705 : decode b_Mo_foldWide 705 = .ok (.lshr, 1) := by decide +kernel
theorem d_Mo_foldWide_706 : decode b_Mo_foldWide 706 = .ok (.aload_n 0, 1) := by decide +kernel
theorem d_Mo_foldWide_707 : decode b_Mo_foldWide 707 = .ok (.getfield 29, 3) := by decide +kernel
theorem d_Mo_foldWide_710 : decode b_Mo_foldWide 710 = .ok (.bipush 11, 2) := by decide +kernel
theorem d_Mo_foldWide_712 : decode b_Mo_foldWide 712 = .ok (.laload, 1) := by decide +kernel
theorem d_Mo_foldWide_713 : decode b_Mo_foldWide 713 = .ok (.ladd, 1) := by decide +kernel
theorem d_Mo_foldWide_714 : decode b_Mo_foldWide 714 = .ok (.lload 30, 2) := by decide +kernel
theorem d_Mo_foldWide_716 : decode b_Mo_foldWide 716 = .ok (.lload 18, 2) := by decide +kernel
theorem d_Mo_foldWide_718 : decode b_Mo_foldWide 718 = .ok (.lmul, 1) := by decide +kernel
theorem d_Mo_foldWide_719 : decode b_Mo_foldWide 719 = .ok (.ladd, 1) := by decide +kernel
theorem d_Mo_foldWide_720 : decode b_Mo_foldWide 720 = .ok (.lload 32, 2) := by decide +kernel
theorem d_Mo_foldWide_722 : decode b_Mo_foldWide 722 = .ok (.lload 16, 2) := by decide +kernel
theorem d_Mo_foldWide_724 : decode b_Mo_foldWide 724 = .ok (.lmul, 1) := by decide +kernel
theorem d_Mo_foldWide_725 : decode b_Mo_foldWide 725 = .ok (.ladd, 1) := by decide +kernel
theorem d_Mo_foldWide_726 : decode b_Mo_foldWide 726 = .ok (.lload 34, 2) := by decide +kernel
theorem d_Mo_foldWide_728 : decode b_Mo_foldWide 728 = .ok (.lload 14, 2) := by decide +kernel
theorem d_Mo_foldWide_730 : decode b_Mo_foldWide 730 = .ok (.lmul, 1) := by decide +kernel
theorem d_Mo_foldWide_731 : decode b_Mo_foldWide 731 = .ok (.ladd, 1) := by decide +kernel
theorem d_Mo_foldWide_732 : decode b_Mo_foldWide 732 = .ok (.lload 36, 2) := by decide +kernel
theorem d_Mo_foldWide_734 : decode b_Mo_foldWide 734 = .ok (.lload 12, 2) := by decide +kernel
theorem d_Mo_foldWide_736 : decode b_Mo_foldWide 736 = .ok (.lmul, 1) := by decide +kernel
theorem d_Mo_foldWide_737 : decode b_Mo_foldWide 737 = .ok (.ladd, 1) := by decide +kernel
theorem d_Mo_foldWide_738 : decode b_Mo_foldWide 738 = .ok (.lload 38, 2) := by decide +kernel
theorem d_Mo_foldWide_740 : decode b_Mo_foldWide 740 = .ok (.lload 10, 2) := by decide +kernel
theorem d_Mo_foldWide_742 : decode b_Mo_foldWide 742 = .ok (.lmul, 1) := by decide +kernel
theorem d_Mo_foldWide_743 : decode b_Mo_foldWide 743 = .ok (.ladd, 1) := by decide +kernel
theorem d_Mo_foldWide_744 : decode b_Mo_foldWide 744 = .ok (.lload 40, 2) := by decide +kernel
theorem d_Mo_foldWide_746 : decode b_Mo_foldWide 746 = .ok (.lload 8, 2) := by decide +kernel
theorem d_Mo_foldWide_748 : decode b_Mo_foldWide 748 = .ok (.lmul, 1) := by decide +kernel
theorem d_Mo_foldWide_749 : decode b_Mo_foldWide 749 = .ok (.ladd, 1) := by decide +kernel
theorem d_Mo_foldWide_750 : decode b_Mo_foldWide 750 = .ok (.lstore 22, 2) := by decide +kernel
theorem d_Mo_foldWide_752 : decode b_Mo_foldWide 752 = .ok (.aload_n 1, 1) := by decide +kernel
theorem d_Mo_foldWide_753 : decode b_Mo_foldWide 753 = .ok (.iconst 2, 1) := by decide +kernel
theorem d_Mo_foldWide_754 : decode b_Mo_foldWide 754 = .ok (.lload 22, 2) := by decide +kernel
theorem d_Mo_foldWide_756 : decode b_Mo_foldWide 756 = .ok (.ldc2_w 52, 3) := by decide +kernel
theorem d_Mo_foldWide_759 : decode b_Mo_foldWide 759 = .ok (.land, 1) := by decide +kernel
theorem d_Mo_foldWide_760 : decode b_Mo_foldWide 760 = .ok (.lastore, 1) := by decide +kernel
theorem d_Mo_foldWide_761 : decode b_Mo_foldWide 761 = .ok (.lload 22, 2) := by decide +kernel
theorem d_Mo_foldWide_763 : decode b_Mo_foldWide 763 = .ok (.bipush 29, 2) := by decide +kernel
theorem d_Mo_foldWide_765 : decode b_Mo_foldWide 765 = .ok (.lshr, 1) := by decide +kernel
theorem d_Mo_foldWide_766 : decode b_Mo_foldWide 766 = .ok (.aload_n 0, 1) := by decide +kernel
theorem d_Mo_foldWide_767 : decode b_Mo_foldWide 767 = .ok (.getfield 29, 3) := by decide +kernel
theorem d_Mo_foldWide_770 : decode b_Mo_foldWide 770 = .ok (.bipush 12, 2) := by decide +kernel
theorem d_Mo_foldWide_772 : decode b_Mo_foldWide 772 = .ok (.laload, 1) := by decide +kernel
theorem d_Mo_foldWide_773 : decode b_Mo_foldWide 773 = .ok (.ladd, 1) := by decide +kernel
theorem d_Mo_foldWide_774 : decode b_Mo_foldWide 774 = .ok (.lload 32, 2) := by decide +kernel
theorem d_Mo_foldWide_776 : decode b_Mo_foldWide 776 = .ok (.lload 18, 2) := by decide +kernel
theorem d_Mo_foldWide_778 : decode b_Mo_foldWide 778 = .ok (.lmul, 1) := by decide +kernel
theorem d_Mo_foldWide_779 : decode b_Mo_foldWide 779 = .ok (.ladd, 1) := by decide +kernel
theorem d_Mo_foldWide_780 : decode b_Mo_foldWide 780 = .ok (.lload 34, 2) := by decide +kernel
theorem d_Mo_foldWide_782 : decode b_Mo_foldWide 782 = .ok (.lload 16, 2) := by decide +kernel
theorem d_Mo_foldWide_784 : decode b_Mo_foldWide 784 = .ok (.lmul, 1) := by decide +kernel
theorem d_Mo_foldWide_785 : decode b_Mo_foldWide 785 = .ok (.ladd, 1) := by decide +kernel
theorem d_Mo_foldWide_786 : decode b_Mo_foldWide 786 = .ok (.lload 36, 2) := by decide +kernel
theorem d_Mo_foldWide_788 : decode b_Mo_foldWide 788 = .ok (.lload 14, 2) := by decide +kernel
theorem d_Mo_foldWide_790 : decode b_Mo_foldWide 790 = .ok (.lmul, 1) := by decide +kernel
theorem d_Mo_foldWide_791 : decode b_Mo_foldWide 791 = .ok (.ladd, 1) := by decide +kernel
theorem d_Mo_foldWide_792 : decode b_Mo_foldWide 792 = .ok (.lload 38, 2) := by decide +kernel
theorem d_Mo_foldWide_794 : decode b_Mo_foldWide 794 = .ok (.lload 12, 2) := by decide +kernel
theorem d_Mo_foldWide_796 : decode b_Mo_foldWide 796 = .ok (.lmul, 1) := by decide +kernel
theorem d_Mo_foldWide_797 : decode b_Mo_foldWide 797 = .ok (.ladd, 1) := by decide +kernel
theorem d_Mo_foldWide_798 : decode b_Mo_foldWide 798 = .ok (.lload 40, 2) := by decide +kernel
theorem d_Mo_foldWide_800 : decode b_Mo_foldWide 800 = .ok (.lload 10, 2) := by decide +kernel
theorem d_Mo_foldWide_802 : decode b_Mo_foldWide 802 = .ok (.lmul, 1) := by decide +kernel
theorem d_Mo_foldWide_803 : decode b_Mo_foldWide 803 = .ok (.ladd, 1) := by decide +kernel
theorem d_Mo_foldWide_804 : decode b_Mo_foldWide 804 = .ok (.lstore 22, 2) := by decide +kernel
theorem d_Mo_foldWide_806 : decode b_Mo_foldWide 806 = .ok (.aload_n 1, 1) := by decide +kernel
theorem d_Mo_foldWide_807 : decode b_Mo_foldWide 807 = .ok (.iconst 3, 1) := by decide +kernel
theorem d_Mo_foldWide_808 : decode b_Mo_foldWide 808 = .ok (.lload 22, 2) := by decide +kernel
theorem d_Mo_foldWide_810 : decode b_Mo_foldWide 810 = .ok (.ldc2_w 52, 3) := by decide +kernel
theorem d_Mo_foldWide_813 : decode b_Mo_foldWide 813 = .ok (.land, 1) := by decide +kernel
theorem d_Mo_foldWide_814 : decode b_Mo_foldWide 814 = .ok (.lastore, 1) := by decide +kernel
theorem d_Mo_foldWide_815 : decode b_Mo_foldWide 815 = .ok (.lload 22, 2) := by decide +kernel
theorem d_Mo_foldWide_817 : decode b_Mo_foldWide 817 = .ok (.bipush 29, 2) := by decide +kernel
theorem d_Mo_foldWide_819 : decode b_Mo_foldWide 819 = .ok (.lshr, 1) := by decide +kernel
theorem d_Mo_foldWide_820 : decode b_Mo_foldWide 820 = .ok (.aload_n 0, 1) := by decide +kernel
theorem d_Mo_foldWide_821 : decode b_Mo_foldWide 821 = .ok (.getfield 29, 3) := by decide +kernel
theorem d_Mo_foldWide_824 : decode b_Mo_foldWide 824 = .ok (.bipush 13, 2) := by decide +kernel
theorem d_Mo_foldWide_826 : decode b_Mo_foldWide 826 = .ok (.laload, 1) := by decide +kernel
theorem d_Mo_foldWide_827 : decode b_Mo_foldWide 827 = .ok (.ladd, 1) := by decide +kernel
theorem d_Mo_foldWide_828 : decode b_Mo_foldWide 828 = .ok (.lload 34, 2) := by decide +kernel
theorem d_Mo_foldWide_830 : decode b_Mo_foldWide 830 = .ok (.lload 18, 2) := by decide +kernel
theorem d_Mo_foldWide_832 : decode b_Mo_foldWide 832 = .ok (.lmul, 1) := by decide +kernel
theorem d_Mo_foldWide_833 : decode b_Mo_foldWide 833 = .ok (.ladd, 1) := by decide +kernel
theorem d_Mo_foldWide_834 : decode b_Mo_foldWide 834 = .ok (.lload 36, 2) := by decide +kernel
theorem d_Mo_foldWide_836 : decode b_Mo_foldWide 836 = .ok (.lload 16, 2) := by decide +kernel
theorem d_Mo_foldWide_838 : decode b_Mo_foldWide 838 = .ok (.lmul, 1) := by decide +kernel
theorem d_Mo_foldWide_839 : decode b_Mo_foldWide 839 = .ok (.ladd, 1) := by decide +kernel
theorem d_Mo_foldWide_840 : decode b_Mo_foldWide 840 = .ok (.lload 38, 2) := by decide +kernel
theorem d_Mo_foldWide_842 : decode b_Mo_foldWide 842 = .ok (.lload 14, 2) := by decide +kernel
theorem d_Mo_foldWide_844 : decode b_Mo_foldWide 844 = .ok (.lmul, 1) := by decide +kernel
theorem d_Mo_foldWide_845 : decode b_Mo_foldWide 845 = .ok (.ladd, 1) := by decide +kernel
theorem d_Mo_foldWide_846 : decode b_Mo_foldWide 846 = .ok (.lload 40, 2) := by decide +kernel
theorem d_Mo_foldWide_848 : decode b_Mo_foldWide 848 = .ok (.lload 12, 2) := by decide +kernel
theorem d_Mo_foldWide_850 : decode b_Mo_foldWide 850 = .ok (.lmul, 1) := by decide +kernel
theorem d_Mo_foldWide_851 : decode b_Mo_foldWide 851 = .ok (.ladd, 1) := by decide +kernel
theorem d_Mo_foldWide_852 : decode b_Mo_foldWide 852 = .ok (.lstore 22, 2) := by decide +kernel
theorem d_Mo_foldWide_854 : decode b_Mo_foldWide 854 = .ok (.aload_n 1, 1) := by decide +kernel
theorem d_Mo_foldWide_855 : decode b_Mo_foldWide 855 = .ok (.iconst 4, 1) := by decide +kernel
theorem d_Mo_foldWide_856 : decode b_Mo_foldWide 856 = .ok (.lload 22, 2) := by decide +kernel
theorem d_Mo_foldWide_858 : decode b_Mo_foldWide 858 = .ok (.ldc2_w 52, 3) := by decide +kernel
theorem d_Mo_foldWide_861 : decode b_Mo_foldWide 861 = .ok (.land, 1) := by decide +kernel
theorem d_Mo_foldWide_862 : decode b_Mo_foldWide 862 = .ok (.lastore, 1) := by decide +kernel
theorem d_Mo_foldWide_863 : decode b_Mo_foldWide 863 = .ok (.lload 22, 2) := by decide +kernel
theorem d_Mo_foldWide_865 : decode b_Mo_foldWide 865 = .ok (.bipush 29, 2) := by decide +kernel
theorem d_Mo_foldWide_867 : decode b_Mo_foldWide 867 = .ok (.lshr, 1) := by decide +kernel
theorem d_Mo_foldWide_868 : decode b_Mo_foldWide 868 = .ok (.aload_n 0, 1) := by decide +kernel
theorem d_Mo_foldWide_869 : decode b_Mo_foldWide 869 = .ok (.getfield 29, 3) := by decide +kernel
theorem d_Mo_foldWide_872 : decode b_Mo_foldWide 872 = .ok (.bipush 14, 2) := by decide +kernel
theorem d_Mo_foldWide_874 : decode b_Mo_foldWide 874 = .ok (.laload, 1) := by decide +kernel
theorem d_Mo_foldWide_875 : decode b_Mo_foldWide 875 = .ok (.ladd, 1) := by decide +kernel
theorem d_Mo_foldWide_876 : decode b_Mo_foldWide 876 = .ok (.lload 36, 2) := by decide +kernel
theorem d_Mo_foldWide_878 : decode b_Mo_foldWide 878 = .ok (.lload 18, 2) := by decide +kernel
theorem d_Mo_foldWide_880 : decode b_Mo_foldWide 880 = .ok (.lmul, 1) := by decide +kernel
theorem d_Mo_foldWide_881 : decode b_Mo_foldWide 881 = .ok (.ladd, 1) := by decide +kernel
theorem d_Mo_foldWide_882 : decode b_Mo_foldWide 882 = .ok (.lload 38, 2) := by decide +kernel
theorem d_Mo_foldWide_884 : decode b_Mo_foldWide 884 = .ok (.lload 16, 2) := by decide +kernel
theorem d_Mo_foldWide_886 : decode b_Mo_foldWide 886 = .ok (.lmul, 1) := by decide +kernel
theorem d_Mo_foldWide_887 : decode b_Mo_foldWide 887 = .ok (.ladd, 1) := by decide +kernel
theorem d_Mo_foldWide_888 : decode b_Mo_foldWide 888 = .ok (.lload 40, 2) := by decide +kernel
theorem d_Mo_foldWide_890 : decode b_Mo_foldWide 890 = .ok (.lload 14, 2) := by decide +kernel
theorem d_Mo_foldWide_892 : decode b_Mo_foldWide 892 = .ok (.lmul, 1) := by decide +kernel
theorem d_Mo_foldWide_893 : decode b_Mo_foldWide 893 = .ok (.ladd, 1) := by decide +kernel
theorem d_Mo_foldWide_894 : decode b_Mo_foldWide 894 = .ok (.lstore 22, 2) := by decide +kernel
theorem d_Mo_foldWide_896 : decode b_Mo_foldWide 896 = .ok (.aload_n 1, 1) := by decide +kernel
theorem d_Mo_foldWide_897 : decode b_Mo_foldWide 897 = .ok (.iconst 5, 1) := by decide +kernel
theorem d_Mo_foldWide_898 : decode b_Mo_foldWide 898 = .ok (.lload 22, 2) := by decide +kernel
theorem d_Mo_foldWide_900 : decode b_Mo_foldWide 900 = .ok (.ldc2_w 52, 3) := by decide +kernel
theorem d_Mo_foldWide_903 : decode b_Mo_foldWide 903 = .ok (.land, 1) := by decide +kernel
theorem d_Mo_foldWide_904 : decode b_Mo_foldWide 904 = .ok (.lastore, 1) := by decide +kernel
theorem d_Mo_foldWide_905 : decode b_Mo_foldWide 905 = .ok (.lload 22, 2) := by decide +kernel
theorem d_Mo_foldWide_907 : decode b_Mo_foldWide 907 = .ok (.bipush 29, 2) := by decide +kernel
theorem d_Mo_foldWide_909 : decode b_Mo_foldWide 909 = .ok (.lshr, 1) := by decide +kernel
theorem d_Mo_foldWide_910 : decode b_Mo_foldWide 910 = .ok (.aload_n 0, 1) := by decide +kernel
theorem d_Mo_foldWide_911 : decode b_Mo_foldWide 911 = .ok (.getfield 29, 3) := by decide +kernel
theorem d_Mo_foldWide_914 : decode b_Mo_foldWide 914 = .ok (.bipush 15, 2) := by decide +kernel
theorem d_Mo_foldWide_916 : decode b_Mo_foldWide 916 = .ok (.laload, 1) := by decide +kernel
theorem d_Mo_foldWide_917 : decode b_Mo_foldWide 917 = .ok (.ladd, 1) := by decide +kernel
theorem d_Mo_foldWide_918 : decode b_Mo_foldWide 918 = .ok (.lload 38, 2) := by decide +kernel
theorem d_Mo_foldWide_920 : decode b_Mo_foldWide 920 = .ok (.lload 18, 2) := by decide +kernel
theorem d_Mo_foldWide_922 : decode b_Mo_foldWide 922 = .ok (.lmul, 1) := by decide +kernel
theorem d_Mo_foldWide_923 : decode b_Mo_foldWide 923 = .ok (.ladd, 1) := by decide +kernel
theorem d_Mo_foldWide_924 : decode b_Mo_foldWide 924 = .ok (.lload 40, 2) := by decide +kernel
theorem d_Mo_foldWide_926 : decode b_Mo_foldWide 926 = .ok (.lload 16, 2) := by decide +kernel
theorem d_Mo_foldWide_928 : decode b_Mo_foldWide 928 = .ok (.lmul, 1) := by decide +kernel
theorem d_Mo_foldWide_929 : decode b_Mo_foldWide 929 = .ok (.ladd, 1) := by decide +kernel
theorem d_Mo_foldWide_930 : decode b_Mo_foldWide 930 = .ok (.lstore 22, 2) := by decide +kernel
theorem d_Mo_foldWide_932 : decode b_Mo_foldWide 932 = .ok (.aload_n 1, 1) := by decide +kernel
theorem d_Mo_foldWide_933 : decode b_Mo_foldWide 933 = .ok (.bipush 6, 2) := by decide +kernel
theorem d_Mo_foldWide_935 : decode b_Mo_foldWide 935 = .ok (.lload 22, 2) := by decide +kernel
theorem d_Mo_foldWide_937 : decode b_Mo_foldWide 937 = .ok (.ldc2_w 52, 3) := by decide +kernel
theorem d_Mo_foldWide_940 : decode b_Mo_foldWide 940 = .ok (.land, 1) := by decide +kernel
theorem d_Mo_foldWide_941 : decode b_Mo_foldWide 941 = .ok (.lastore, 1) := by decide +kernel
theorem d_Mo_foldWide_942 : decode b_Mo_foldWide 942 = .ok (.lload 22, 2) := by decide +kernel
theorem d_Mo_foldWide_944 : decode b_Mo_foldWide 944 = .ok (.bipush 29, 2) := by decide +kernel
theorem d_Mo_foldWide_946 : decode b_Mo_foldWide 946 = .ok (.lshr, 1) := by decide +kernel
theorem d_Mo_foldWide_947 : decode b_Mo_foldWide 947 = .ok (.aload_n 0, 1) := by decide +kernel
theorem d_Mo_foldWide_948 : decode b_Mo_foldWide 948 = .ok (.getfield 29, 3) := by decide +kernel
theorem d_Mo_foldWide_951 : decode b_Mo_foldWide 951 = .ok (.bipush 16, 2) := by decide +kernel
theorem d_Mo_foldWide_953 : decode b_Mo_foldWide 953 = .ok (.laload, 1) := by decide +kernel
theorem d_Mo_foldWide_954 : decode b_Mo_foldWide 954 = .ok (.ladd, 1) := by decide +kernel
theorem d_Mo_foldWide_955 : decode b_Mo_foldWide 955 = .ok (.lload 40, 2) := by decide +kernel
theorem d_Mo_foldWide_957 : decode b_Mo_foldWide 957 = .ok (.lload 18, 2) := by decide +kernel
theorem d_Mo_foldWide_959 : decode b_Mo_foldWide 959 = .ok (.lmul, 1) := by decide +kernel
theorem d_Mo_foldWide_960 : decode b_Mo_foldWide 960 = .ok (.ladd, 1) := by decide +kernel
theorem d_Mo_foldWide_961 : decode b_Mo_foldWide 961 = .ok (.lstore 22, 2) := by decide +kernel
theorem d_Mo_foldWide_963 : decode b_Mo_foldWide 963 = .ok (.aload_n 1, 1) := by decide +kernel
theorem d_Mo_foldWide_964 : decode b_Mo_foldWide 964 = .ok (.bipush 7, 2) := by decide +kernel
theorem d_Mo_foldWide_966 : decode b_Mo_foldWide 966 = .ok (.lload 22, 2) := by decide +kernel
theorem d_Mo_foldWide_968 : decode b_Mo_foldWide 968 = .ok (.ldc2_w 52, 3) := by decide +kernel
theorem d_Mo_foldWide_971 : decode b_Mo_foldWide 971 = .ok (.land, 1) := by decide +kernel
theorem d_Mo_foldWide_972 : decode b_Mo_foldWide 972 = .ok (.lastore, 1) := by decide +kernel
theorem d_Mo_foldWide_973 : decode b_Mo_foldWide 973 = .ok (.aload_n 1, 1) := by decide +kernel
theorem d_Mo_foldWide_974 : decode b_Mo_foldWide 974 = .ok (.bipush 8, 2) := by decide +kernel
theorem d_Mo_foldWide_976 : decode b_Mo_foldWide 976 = .ok (.lload 22, 2) := by decide +kernel
theorem d_Mo_foldWide_978 : decode b_Mo_foldWide 978 = .ok (.bipush 29, 2) := by decide +kernel
theorem d_Mo_foldWide_980 : decode b_Mo_foldWide 980 = .ok (.lshr, 1) := by decide +kernel
theorem d_Mo_foldWide_981 : decode b_Mo_foldWide 981 = .ok (.lastore, 1) := by decide +kernel
theorem d_Mo_foldWide_982 : decode b_Mo_foldWide 982 = .ok (.return_, 1) := by decide +kernel
theorem fl_Mo_54 : FL "PrimeKeys$Modulus" 54 1 5 := ⟨R_Mo, F_Mo, 9, rfl, u_Mo, by decide, rfl, tb_1 (List.mem_of_getElem? (i := 109) (by decide +kernel)) rfl⟩
abbrev rm_Mo_foldWide : Room := { frames := 0, cells := 0, slots := 0, locals := 0 }
def P_Mo_foldWide (h : HP) (p0 : Nat) (p1 : Nat) : Option (HP) :=
  bnd (gR h p0 1 0) fun k1 =>
  bnd (ldJ h k1 0) fun v2 =>
  bnd (gR h p0 1 0) fun k3 =>
  bnd (ldJ h k3 1) fun v4 =>
  bnd (gR h p0 1 0) fun k5 =>
  bnd (ldJ h k5 2) fun v6 =>
  bnd (gR h p0 1 0) fun k7 =>
  bnd (ldJ h k7 3) fun v8 =>
  bnd (gR h p0 1 0) fun k9 =>
  bnd (ldJ h k9 4) fun v10 =>
  bnd (gR h p0 1 0) fun k11 =>
  bnd (ldJ h k11 5) fun v12 =>
  bnd (gR h p0 1 0) fun k13 =>
  bnd (ldJ h k13 6) fun v14 =>
  bnd (gR h p0 1 0) fun k15 =>
  bnd (ldJ h k15 7) fun v16 =>
  bnd (gR h p0 1 0) fun k17 =>
  bnd (ldJ h k17 8) fun v18 =>
  bnd (gJ h p0 1 5) fun v19 =>
  bnd (gR h p0 1 6) fun k20 =>
  bnd (ldJ h k20 0) fun v21 =>
  lt ((v21 * v19) &&& 536870911) fun x22 =>
  bnd (gR h p0 1 6) fun k23 =>
  bnd (ldJ h k23 1) fun v24 =>
  lt ((((v21 + (x22 * v2)) >>> (Int32.toInt64 29 &&& 63)) + v24) + (x22 * v4)) fun x25 =>
  lt ((x25 * v19) &&& 536870911) fun x26 =>
  bnd (gR h p0 1 6) fun k27 =>
  bnd (ldJ h k27 2) fun v28 =>
  lt (((((x25 + (x26 * v2)) >>> (Int32.toInt64 29 &&& 63)) + v28) + (x22 * v6)) + (x26 * v4)) fun x29 =>
  lt ((x29 * v19) &&& 536870911) fun x30 =>
  bnd (gR h p0 1 6) fun k31 =>
  bnd (ldJ h k31 3) fun v32 =>
  lt ((((((x29 + (x30 * v2)) >>> (Int32.toInt64 29 &&& 63)) + v32) + (x22 * v8)) + (x26 * v6)) + (x30 * v4)) fun x33 =>
  lt ((x33 * v19) &&& 536870911) fun x34 =>
  bnd (gR h p0 1 6) fun k35 =>
  bnd (ldJ h k35 4) fun v36 =>
  lt (((((((x33 + (x34 * v2)) >>> (Int32.toInt64 29 &&& 63)) + v36) + (x22 * v10)) + (x26 * v8)) + (x30 * v6)) + (x34 * v4)) fun x37 =>
  lt ((x37 * v19) &&& 536870911) fun x38 =>
  bnd (gR h p0 1 6) fun k39 =>
  bnd (ldJ h k39 5) fun v40 =>
  lt ((((((((x37 + (x38 * v2)) >>> (Int32.toInt64 29 &&& 63)) + v40) + (x22 * v12)) + (x26 * v10)) + (x30 * v8)) + (x34 * v6)) + (x38 * v4)) fun x41 =>
  lt ((x41 * v19) &&& 536870911) fun x42 =>
  bnd (gR h p0 1 6) fun k43 =>
  bnd (ldJ h k43 6) fun v44 =>
  lt (((((((((x41 + (x42 * v2)) >>> (Int32.toInt64 29 &&& 63)) + v44) + (x22 * v14)) + (x26 * v12)) + (x30 * v10)) + (x34 * v8)) + (x38 * v6)) + (x42 * v4)) fun x45 =>
  lt ((x45 * v19) &&& 536870911) fun x46 =>
  bnd (gR h p0 1 6) fun k47 =>
  bnd (ldJ h k47 7) fun v48 =>
  lt ((((((((((x45 + (x46 * v2)) >>> (Int32.toInt64 29 &&& 63)) + v48) + (x22 * v16)) + (x26 * v14)) + (x30 * v12)) + (x34 * v10)) + (x38 * v8)) + (x42 * v6)) + (x46 * v4)) fun x49 =>
  lt ((x49 * v19) &&& 536870911) fun x50 =>
  bnd (gR h p0 1 6) fun k51 =>
  bnd (ldJ h k51 8) fun v52 =>
  lt (((((((((((x49 + (x50 * v2)) >>> (Int32.toInt64 29 &&& 63)) + v52) + (x22 * v18)) + (x26 * v16)) + (x30 * v14)) + (x34 * v12)) + (x38 * v10)) + (x42 * v8)) + (x46 * v6)) + (x50 * v4)) fun x53 =>
  lt ((x53 * v19) &&& 536870911) fun x54 =>
  bnd (gR h p0 1 6) fun k55 =>
  bnd (ldJ h k55 9) fun v56 =>
  lt (((((((((((x53 + (x54 * v2)) >>> (Int32.toInt64 29 &&& 63)) + v56) + (x26 * v18)) + (x30 * v16)) + (x34 * v14)) + (x38 * v12)) + (x42 * v10)) + (x46 * v8)) + (x50 * v6)) + (x54 * v4)) fun x57 =>
  bnd (stJ h p1 0 (x57 &&& 536870911)) fun h58 =>
  bnd (gR h58 p0 1 6) fun k59 =>
  bnd (ldJ h58 k59 10) fun v60 =>
  lt (((((((((x57 >>> (Int32.toInt64 29 &&& 63)) + v60) + (x30 * v18)) + (x34 * v16)) + (x38 * v14)) + (x42 * v12)) + (x46 * v10)) + (x50 * v8)) + (x54 * v6)) fun x61 =>
  bnd (stJ h58 p1 1 (x61 &&& 536870911)) fun h62 =>
  bnd (gR h62 p0 1 6) fun k63 =>
  bnd (ldJ h62 k63 11) fun v64 =>
  lt ((((((((x61 >>> (Int32.toInt64 29 &&& 63)) + v64) + (x34 * v18)) + (x38 * v16)) + (x42 * v14)) + (x46 * v12)) + (x50 * v10)) + (x54 * v8)) fun x65 =>
  bnd (stJ h62 p1 2 (x65 &&& 536870911)) fun h66 =>
  bnd (gR h66 p0 1 6) fun k67 =>
  bnd (ldJ h66 k67 12) fun v68 =>
  lt (((((((x65 >>> (Int32.toInt64 29 &&& 63)) + v68) + (x38 * v18)) + (x42 * v16)) + (x46 * v14)) + (x50 * v12)) + (x54 * v10)) fun x69 =>
  bnd (stJ h66 p1 3 (x69 &&& 536870911)) fun h70 =>
  bnd (gR h70 p0 1 6) fun k71 =>
  bnd (ldJ h70 k71 13) fun v72 =>
  lt ((((((x69 >>> (Int32.toInt64 29 &&& 63)) + v72) + (x42 * v18)) + (x46 * v16)) + (x50 * v14)) + (x54 * v12)) fun x73 =>
  bnd (stJ h70 p1 4 (x73 &&& 536870911)) fun h74 =>
  bnd (gR h74 p0 1 6) fun k75 =>
  bnd (ldJ h74 k75 14) fun v76 =>
  lt (((((x73 >>> (Int32.toInt64 29 &&& 63)) + v76) + (x46 * v18)) + (x50 * v16)) + (x54 * v14)) fun x77 =>
  bnd (stJ h74 p1 5 (x77 &&& 536870911)) fun h78 =>
  bnd (gR h78 p0 1 6) fun k79 =>
  bnd (ldJ h78 k79 15) fun v80 =>
  lt ((((x77 >>> (Int32.toInt64 29 &&& 63)) + v80) + (x50 * v18)) + (x54 * v16)) fun x81 =>
  bnd (stJ h78 p1 6 (x81 &&& 536870911)) fun h82 =>
  bnd (gR h82 p0 1 6) fun k83 =>
  bnd (ldJ h82 k83 16) fun v84 =>
  lt (((x81 >>> (Int32.toInt64 29 &&& 63)) + v84) + (x54 * v18)) fun x85 =>
  bnd (stJ h82 p1 7 (x85 &&& 536870911)) fun h86 =>
  bnd (stJ h86 p1 8 (x85 >>> (Int32.toInt64 29 &&& 63))) fun h87 =>
  some h87
set_option maxHeartbeats 4000000 in
set_option maxRecDepth 100000 in
theorem c_Mo_foldWide {l : Launch} {h h' : HP} {p0 p1 : _} (hr : P_Mo_foldWide h p0 p1 = some h') : MP l y_Mo_foldWide (Cond.code y_Mo_foldWide b_Mo_foldWide 42 none :: TB) rm_Mo_foldWide h [.ref p0, .ref p1] none h' := by
  refine MP_intro (cc := b_Mo_foldWide) (by decide) (Nat.le_of_ble_eq_true rfl) (fun x hl0 C T hin => ?_)
  unfold P_Mo_foldWide at hr
  show GG x 0 0 h 0 [(0, .ref p0), (1, .ref p1)] []
  refine g_aload_n C 0 rfl d_Mo_foldWide_0 rfl ?_
  obtain ⟨k1, ek1, hr⟩ := of_bnd hr
  refine g_getR C fl_Mo_11 ek1 d_Mo_foldWide_1 ?_
  refine g_iconst (v := 0) C d_Mo_foldWide_4 (by decide) ?_
  obtain ⟨v2, ev2, hr⟩ := of_bnd hr
  refine g_laload C ev2 d_Mo_foldWide_5 ?_
  refine g_lstore_n (lv' := [(2, .long v2), (0, .ref p0), (1, .ref p1)]) C d_Mo_foldWide_6 rfl (by decide) rfl ?_
  refine g_aload_n C 1 rfl d_Mo_foldWide_7 rfl ?_
  obtain ⟨k3, ek3, hr⟩ := of_bnd hr
  refine g_getR C fl_Mo_11 ek3 d_Mo_foldWide_8 ?_
  refine g_iconst (v := 1) C d_Mo_foldWide_11 (by decide) ?_
  obtain ⟨v4, ev4, hr⟩ := of_bnd hr
  refine g_laload C ev4 d_Mo_foldWide_12 ?_
  refine g_lstore (lv' := [(4, .long v4), (2, .long v2), (0, .ref p0), (1, .ref p1)]) C d_Mo_foldWide_13 (by decide) rfl ?_
  refine g_aload_n C 2 rfl d_Mo_foldWide_15 rfl ?_
  obtain ⟨k5, ek5, hr⟩ := of_bnd hr
  refine g_getR C fl_Mo_11 ek5 d_Mo_foldWide_16 ?_
  refine g_iconst (v := 2) C d_Mo_foldWide_19 (by decide) ?_
  obtain ⟨v6, ev6, hr⟩ := of_bnd hr
  refine g_laload C ev6 d_Mo_foldWide_20 ?_
  refine g_lstore (lv' := [(6, .long v6), (4, .long v4), (2, .long v2), (0, .ref p0), (1, .ref p1)]) C d_Mo_foldWide_21 (by decide) rfl ?_
  refine g_aload_n C 3 rfl d_Mo_foldWide_23 rfl ?_
  obtain ⟨k7, ek7, hr⟩ := of_bnd hr
  refine g_getR C fl_Mo_11 ek7 d_Mo_foldWide_24 ?_
  refine g_iconst (v := 3) C d_Mo_foldWide_27 (by decide) ?_
  obtain ⟨v8, ev8, hr⟩ := of_bnd hr
  refine g_laload C ev8 d_Mo_foldWide_28 ?_
  refine g_lstore (lv' := [(8, .long v8), (6, .long v6), (4, .long v4), (2, .long v2), (0, .ref p0), (1, .ref p1)]) C d_Mo_foldWide_29 (by decide) rfl ?_
  refine g_aload_n C 4 rfl d_Mo_foldWide_31 rfl ?_
  obtain ⟨k9, ek9, hr⟩ := of_bnd hr
  refine g_getR C fl_Mo_11 ek9 d_Mo_foldWide_32 ?_
  refine g_iconst (v := 4) C d_Mo_foldWide_35 (by decide) ?_
  obtain ⟨v10, ev10, hr⟩ := of_bnd hr
  refine g_laload C ev10 d_Mo_foldWide_36 ?_
  refine g_lstore (lv' := [(10, .long v10), (8, .long v8), (6, .long v6), (4, .long v4), (2, .long v2), (0, .ref p0), (1, .ref p1)]) C d_Mo_foldWide_37 (by decide) rfl ?_
  refine g_aload_n C 5 rfl d_Mo_foldWide_39 rfl ?_
  obtain ⟨k11, ek11, hr⟩ := of_bnd hr
  refine g_getR C fl_Mo_11 ek11 d_Mo_foldWide_40 ?_
  refine g_iconst (v := 5) C d_Mo_foldWide_43 (by decide) ?_
  obtain ⟨v12, ev12, hr⟩ := of_bnd hr
  refine g_laload C ev12 d_Mo_foldWide_44 ?_
  refine g_lstore (lv' := [(12, .long v12), (10, .long v10), (8, .long v8), (6, .long v6), (4, .long v4), (2, .long v2), (0, .ref p0), (1, .ref p1)]) C d_Mo_foldWide_45 (by decide) rfl ?_
  refine g_aload_n C 6 rfl d_Mo_foldWide_47 rfl ?_
  obtain ⟨k13, ek13, hr⟩ := of_bnd hr
  refine g_getR C fl_Mo_11 ek13 d_Mo_foldWide_48 ?_
  refine g_bipush (v := 6) C d_Mo_foldWide_51 (by decide) ?_
  obtain ⟨v14, ev14, hr⟩ := of_bnd hr
  refine g_laload C ev14 d_Mo_foldWide_53 ?_
  refine g_lstore (lv' := [(14, .long v14), (12, .long v12), (10, .long v10), (8, .long v8), (6, .long v6), (4, .long v4), (2, .long v2), (0, .ref p0), (1, .ref p1)]) C d_Mo_foldWide_54 (by decide) rfl ?_
  refine g_aload_n C 7 rfl d_Mo_foldWide_56 rfl ?_
  obtain ⟨k15, ek15, hr⟩ := of_bnd hr
  refine g_getR C fl_Mo_11 ek15 d_Mo_foldWide_57 ?_
  refine g_bipush (v := 7) C d_Mo_foldWide_60 (by decide) ?_
  obtain ⟨v16, ev16, hr⟩ := of_bnd hr
  refine g_laload C ev16 d_Mo_foldWide_62 ?_
  refine g_lstore (lv' := [(16, .long v16), (14, .long v14), (12, .long v12), (10, .long v10), (8, .long v8), (6, .long v6), (4, .long v4), (2, .long v2), (0, .ref p0), (1, .ref p1)]) C d_Mo_foldWide_63 (by decide) rfl ?_
  refine g_aload_n C 8 rfl d_Mo_foldWide_65 rfl ?_
  obtain ⟨k17, ek17, hr⟩ := of_bnd hr
  refine g_getR C fl_Mo_11 ek17 d_Mo_foldWide_66 ?_
  refine g_bipush (v := 8) C d_Mo_foldWide_69 (by decide) ?_
  obtain ⟨v18, ev18, hr⟩ := of_bnd hr
  refine g_laload C ev18 d_Mo_foldWide_71 ?_
  refine g_lstore (lv' := [(18, .long v18), (16, .long v16), (14, .long v14), (12, .long v12), (10, .long v10), (8, .long v8), (6, .long v6), (4, .long v4), (2, .long v2), (0, .ref p0), (1, .ref p1)]) C d_Mo_foldWide_72 (by decide) rfl ?_
  refine g_aload_n C 9 rfl d_Mo_foldWide_74 rfl ?_
  obtain ⟨v19, ev19, hr⟩ := of_bnd hr
  refine g_getJ C fl_Mo_54 ev19 d_Mo_foldWide_75 ?_
  refine g_lstore (lv' := [(20, .long v19), (18, .long v18), (16, .long v16), (14, .long v14), (12, .long v12), (10, .long v10), (8, .long v8), (6, .long v6), (4, .long v4), (2, .long v2), (0, .ref p0), (1, .ref p1)]) C d_Mo_foldWide_78 (by decide) rfl ?_
  refine g_aload_n C 10 rfl d_Mo_foldWide_80 rfl ?_
  obtain ⟨k20, ek20, hr⟩ := of_bnd hr
  refine g_getR C fl_Mo_29 ek20 d_Mo_foldWide_81 ?_
  refine g_iconst (v := 0) C d_Mo_foldWide_84 (by decide) ?_
  obtain ⟨v21, ev21, hr⟩ := of_bnd hr
  refine g_laload C ev21 d_Mo_foldWide_85 ?_
  refine g_lstore (lv' := [(22, .long v21), (20, .long v19), (18, .long v18), (16, .long v16), (14, .long v14), (12, .long v12), (10, .long v10), (8, .long v8), (6, .long v6), (4, .long v4), (2, .long v2), (0, .ref p0), (1, .ref p1)]) C d_Mo_foldWide_86 (by decide) rfl ?_
  refine g_lload C 0 rfl d_Mo_foldWide_88 ?_
  refine g_lload C 1 rfl d_Mo_foldWide_90 ?_
  refine g_lmul C d_Mo_foldWide_92 ?_
  refine g_ldc2 (v := 536870911) C d_Mo_foldWide_93 kw_2 ?_
  refine g_land C d_Mo_foldWide_96 ?_
  refine g_topl (fun x22 ex22 => ?_)
  have hr := of_lt ex22 hr
  refine g_lstore (lv' := [(24, .long x22), (22, .long v21), (20, .long v19), (18, .long v18), (16, .long v16), (14, .long v14), (12, .long v12), (10, .long v10), (8, .long v8), (6, .long v6), (4, .long v4), (2, .long v2), (0, .ref p0), (1, .ref p1)]) C d_Mo_foldWide_97 (by decide) rfl ?_
  refine g_lload C 1 rfl d_Mo_foldWide_99 ?_
  refine g_lload C 0 rfl d_Mo_foldWide_101 ?_
  refine g_lload_n C 11 rfl d_Mo_foldWide_103 rfl ?_
  refine g_lmul C d_Mo_foldWide_104 ?_
  refine g_ladd C d_Mo_foldWide_105 ?_
  refine g_bipush (v := 29) C d_Mo_foldWide_106 (by decide) ?_
  refine g_lshr C d_Mo_foldWide_108 ?_
  refine g_aload_n C 12 rfl d_Mo_foldWide_109 rfl ?_
  obtain ⟨k23, ek23, hr⟩ := of_bnd hr
  refine g_getR C fl_Mo_29 ek23 d_Mo_foldWide_110 ?_
  refine g_iconst (v := 1) C d_Mo_foldWide_113 (by decide) ?_
  obtain ⟨v24, ev24, hr⟩ := of_bnd hr
  refine g_laload C ev24 d_Mo_foldWide_114 ?_
  refine g_ladd C d_Mo_foldWide_115 ?_
  refine g_lload C 0 rfl d_Mo_foldWide_116 ?_
  refine g_lload C 10 rfl d_Mo_foldWide_118 ?_
  refine g_lmul C d_Mo_foldWide_120 ?_
  refine g_ladd C d_Mo_foldWide_121 ?_
  refine g_topl (fun x25 ex25 => ?_)
  have hr := of_lt ex25 hr
  refine g_lstore (lv' := [(22, .long x25), (24, .long x22), (20, .long v19), (18, .long v18), (16, .long v16), (14, .long v14), (12, .long v12), (10, .long v10), (8, .long v8), (6, .long v6), (4, .long v4), (2, .long v2), (0, .ref p0), (1, .ref p1)]) C d_Mo_foldWide_122 (by decide) rfl ?_
  refine g_lload C 0 rfl d_Mo_foldWide_124 ?_
  refine g_lload C 2 rfl d_Mo_foldWide_126 ?_
  refine g_lmul C d_Mo_foldWide_128 ?_
  refine g_ldc2 (v := 536870911) C d_Mo_foldWide_129 kw_2 ?_
  refine g_land C d_Mo_foldWide_132 ?_
  refine g_topl (fun x26 ex26 => ?_)
  have hr := of_lt ex26 hr
  refine g_lstore (lv' := [(26, .long x26), (22, .long x25), (24, .long x22), (20, .long v19), (18, .long v18), (16, .long v16), (14, .long v14), (12, .long v12), (10, .long v10), (8, .long v8), (6, .long v6), (4, .long v4), (2, .long v2), (0, .ref p0), (1, .ref p1)]) C d_Mo_foldWide_133 (by decide) rfl ?_
  refine g_lload C 1 rfl d_Mo_foldWide_135 ?_
  refine g_lload C 0 rfl d_Mo_foldWide_137 ?_
  refine g_lload_n C 12 rfl d_Mo_foldWide_139 rfl ?_
  refine g_lmul C d_Mo_foldWide_140 ?_
  refine g_ladd C d_Mo_foldWide_141 ?_
  refine g_bipush (v := 29) C d_Mo_foldWide_142 (by decide) ?_
  refine g_lshr C d_Mo_foldWide_144 ?_
  refine g_aload_n C 13 rfl d_Mo_foldWide_145 rfl ?_
  obtain ⟨k27, ek27, hr⟩ := of_bnd hr
  refine g_getR C fl_Mo_29 ek27 d_Mo_foldWide_146 ?_
  refine g_iconst (v := 2) C d_Mo_foldWide_149 (by decide) ?_
  obtain ⟨v28, ev28, hr⟩ := of_bnd hr
  refine g_laload C ev28 d_Mo_foldWide_150 ?_
  refine g_ladd C d_Mo_foldWide_151 ?_
  refine g_lload C 2 rfl d_Mo_foldWide_152 ?_
  refine g_lload C 10 rfl d_Mo_foldWide_154 ?_
  refine g_lmul C d_Mo_foldWide_156 ?_
  refine g_ladd C d_Mo_foldWide_157 ?_
  refine g_lload C 0 rfl d_Mo_foldWide_158 ?_
  refine g_lload C 11 rfl d_Mo_foldWide_160 ?_
  refine g_lmul C d_Mo_foldWide_162 ?_
  refine g_ladd C d_Mo_foldWide_163 ?_
  refine g_topl (fun x29 ex29 => ?_)
  have hr := of_lt ex29 hr
  refine g_lstore (lv' := [(22, .long x29), (26, .long x26), (24, .long x22), (20, .long v19), (18, .long v18), (16, .long v16), (14, .long v14), (12, .long v12), (10, .long v10), (8, .long v8), (6, .long v6), (4, .long v4), (2, .long v2), (0, .ref p0), (1, .ref p1)]) C d_Mo_foldWide_164 (by decide) rfl ?_
  refine g_lload C 0 rfl d_Mo_foldWide_166 ?_
  refine g_lload C 3 rfl d_Mo_foldWide_168 ?_
  refine g_lmul C d_Mo_foldWide_170 ?_
  refine g_ldc2 (v := 536870911) C d_Mo_foldWide_171 kw_2 ?_
  refine g_land C d_Mo_foldWide_174 ?_
  refine g_topl (fun x30 ex30 => ?_)
  have hr := of_lt ex30 hr
  refine g_lstore (lv' := [(28, .long x30), (22, .long x29), (26, .long x26), (24, .long x22), (20, .long v19), (18, .long v18), (16, .long v16), (14, .long v14), (12, .long v12), (10, .long v10), (8, .long v8), (6, .long v6), (4, .long v4), (2, .long v2), (0, .ref p0), (1, .ref p1)]) C d_Mo_foldWide_175 (by decide) rfl ?_
  refine g_lload C 1 rfl d_Mo_foldWide_177 ?_
  refine g_lload C 0 rfl d_Mo_foldWide_179 ?_
  refine g_lload_n C 13 rfl d_Mo_foldWide_181 rfl ?_
  refine g_lmul C d_Mo_foldWide_182 ?_
  refine g_ladd C d_Mo_foldWide_183 ?_
  refine g_bipush (v := 29) C d_Mo_foldWide_184 (by decide) ?_
  refine g_lshr C d_Mo_foldWide_186 ?_
  refine g_aload_n C 14 rfl d_Mo_foldWide_187 rfl ?_
  obtain ⟨k31, ek31, hr⟩ := of_bnd hr
  refine g_getR C fl_Mo_29 ek31 d_Mo_foldWide_188 ?_
  refine g_iconst (v := 3) C d_Mo_foldWide_191 (by decide) ?_
  obtain ⟨v32, ev32, hr⟩ := of_bnd hr
  refine g_laload C ev32 d_Mo_foldWide_192 ?_
  refine g_ladd C d_Mo_foldWide_193 ?_
  refine g_lload C 3 rfl d_Mo_foldWide_194 ?_
  refine g_lload C 10 rfl d_Mo_foldWide_196 ?_
  refine g_lmul C d_Mo_foldWide_198 ?_
  refine g_ladd C d_Mo_foldWide_199 ?_
  refine g_lload C 2 rfl d_Mo_foldWide_200 ?_
  refine g_lload C 11 rfl d_Mo_foldWide_202 ?_
  refine g_lmul C d_Mo_foldWide_204 ?_
  refine g_ladd C d_Mo_foldWide_205 ?_
  refine g_lload C 0 rfl d_Mo_foldWide_206 ?_
  refine g_lload C 12 rfl d_Mo_foldWide_208 ?_
  refine g_lmul C d_Mo_foldWide_210 ?_
  refine g_ladd C d_Mo_foldWide_211 ?_
  refine g_topl (fun x33 ex33 => ?_)
  have hr := of_lt ex33 hr
  refine g_lstore (lv' := [(22, .long x33), (28, .long x30), (26, .long x26), (24, .long x22), (20, .long v19), (18, .long v18), (16, .long v16), (14, .long v14), (12, .long v12), (10, .long v10), (8, .long v8), (6, .long v6), (4, .long v4), (2, .long v2), (0, .ref p0), (1, .ref p1)]) C d_Mo_foldWide_212 (by decide) rfl ?_
  refine g_lload C 0 rfl d_Mo_foldWide_214 ?_
  refine g_lload C 4 rfl d_Mo_foldWide_216 ?_
  refine g_lmul C d_Mo_foldWide_218 ?_
  refine g_ldc2 (v := 536870911) C d_Mo_foldWide_219 kw_2 ?_
  refine g_land C d_Mo_foldWide_222 ?_
  refine g_topl (fun x34 ex34 => ?_)
  have hr := of_lt ex34 hr
  refine g_lstore (lv' := [(30, .long x34), (22, .long x33), (28, .long x30), (26, .long x26), (24, .long x22), (20, .long v19), (18, .long v18), (16, .long v16), (14, .long v14), (12, .long v12), (10, .long v10), (8, .long v8), (6, .long v6), (4, .long v4), (2, .long v2), (0, .ref p0), (1, .ref p1)]) C d_Mo_foldWide_223 (by decide) rfl ?_
  refine g_lload C 1 rfl d_Mo_foldWide_225 ?_
  refine g_lload C 0 rfl d_Mo_foldWide_227 ?_
  refine g_lload_n C 14 rfl d_Mo_foldWide_229 rfl ?_
  refine g_lmul C d_Mo_foldWide_230 ?_
  refine g_ladd C d_Mo_foldWide_231 ?_
  refine g_bipush (v := 29) C d_Mo_foldWide_232 (by decide) ?_
  refine g_lshr C d_Mo_foldWide_234 ?_
  refine g_aload_n C 15 rfl d_Mo_foldWide_235 rfl ?_
  obtain ⟨k35, ek35, hr⟩ := of_bnd hr
  refine g_getR C fl_Mo_29 ek35 d_Mo_foldWide_236 ?_
  refine g_iconst (v := 4) C d_Mo_foldWide_239 (by decide) ?_
  obtain ⟨v36, ev36, hr⟩ := of_bnd hr
  refine g_laload C ev36 d_Mo_foldWide_240 ?_
  refine g_ladd C d_Mo_foldWide_241 ?_
  refine g_lload C 4 rfl d_Mo_foldWide_242 ?_
  refine g_lload C 10 rfl d_Mo_foldWide_244 ?_
  refine g_lmul C d_Mo_foldWide_246 ?_
  refine g_ladd C d_Mo_foldWide_247 ?_
  refine g_lload C 3 rfl d_Mo_foldWide_248 ?_
  refine g_lload C 11 rfl d_Mo_foldWide_250 ?_
  refine g_lmul C d_Mo_foldWide_252 ?_
  refine g_ladd C d_Mo_foldWide_253 ?_
  refine g_lload C 2 rfl d_Mo_foldWide_254 ?_
  refine g_lload C 12 rfl d_Mo_foldWide_256 ?_
  refine g_lmul C d_Mo_foldWide_258 ?_
  refine g_ladd C d_Mo_foldWide_259 ?_
  refine g_lload C 0 rfl d_Mo_foldWide_260 ?_
  refine g_lload C 13 rfl d_Mo_foldWide_262 ?_
  refine g_lmul C d_Mo_foldWide_264 ?_
  refine g_ladd C d_Mo_foldWide_265 ?_
  refine g_topl (fun x37 ex37 => ?_)
  have hr := of_lt ex37 hr
  refine g_lstore (lv' := [(22, .long x37), (30, .long x34), (28, .long x30), (26, .long x26), (24, .long x22), (20, .long v19), (18, .long v18), (16, .long v16), (14, .long v14), (12, .long v12), (10, .long v10), (8, .long v8), (6, .long v6), (4, .long v4), (2, .long v2), (0, .ref p0), (1, .ref p1)]) C d_Mo_foldWide_266 (by decide) rfl ?_
  refine g_lload C 0 rfl d_Mo_foldWide_268 ?_
  refine g_lload C 5 rfl d_Mo_foldWide_270 ?_
  refine g_lmul C d_Mo_foldWide_272 ?_
  refine g_ldc2 (v := 536870911) C d_Mo_foldWide_273 kw_2 ?_
  refine g_land C d_Mo_foldWide_276 ?_
  refine g_topl (fun x38 ex38 => ?_)
  have hr := of_lt ex38 hr
  refine g_lstore (lv' := [(32, .long x38), (22, .long x37), (30, .long x34), (28, .long x30), (26, .long x26), (24, .long x22), (20, .long v19), (18, .long v18), (16, .long v16), (14, .long v14), (12, .long v12), (10, .long v10), (8, .long v8), (6, .long v6), (4, .long v4), (2, .long v2), (0, .ref p0), (1, .ref p1)]) C d_Mo_foldWide_277 (by decide) rfl ?_
  refine g_lload C 1 rfl d_Mo_foldWide_279 ?_
  refine g_lload C 0 rfl d_Mo_foldWide_281 ?_
  refine g_lload_n C 15 rfl d_Mo_foldWide_283 rfl ?_
  refine g_lmul C d_Mo_foldWide_284 ?_
  refine g_ladd C d_Mo_foldWide_285 ?_
  refine g_bipush (v := 29) C d_Mo_foldWide_286 (by decide) ?_
  refine g_lshr C d_Mo_foldWide_288 ?_
  refine g_aload_n C 16 rfl d_Mo_foldWide_289 rfl ?_
  obtain ⟨k39, ek39, hr⟩ := of_bnd hr
  refine g_getR C fl_Mo_29 ek39 d_Mo_foldWide_290 ?_
  refine g_iconst (v := 5) C d_Mo_foldWide_293 (by decide) ?_
  obtain ⟨v40, ev40, hr⟩ := of_bnd hr
  refine g_laload C ev40 d_Mo_foldWide_294 ?_
  refine g_ladd C d_Mo_foldWide_295 ?_
  refine g_lload C 5 rfl d_Mo_foldWide_296 ?_
  refine g_lload C 10 rfl d_Mo_foldWide_298 ?_
  refine g_lmul C d_Mo_foldWide_300 ?_
  refine g_ladd C d_Mo_foldWide_301 ?_
  refine g_lload C 4 rfl d_Mo_foldWide_302 ?_
  refine g_lload C 11 rfl d_Mo_foldWide_304 ?_
  refine g_lmul C d_Mo_foldWide_306 ?_
  refine g_ladd C d_Mo_foldWide_307 ?_
  refine g_lload C 3 rfl d_Mo_foldWide_308 ?_
  refine g_lload C 12 rfl d_Mo_foldWide_310 ?_
  refine g_lmul C d_Mo_foldWide_312 ?_
  refine g_ladd C d_Mo_foldWide_313 ?_
  refine g_lload C 2 rfl d_Mo_foldWide_314 ?_
  refine g_lload C 13 rfl d_Mo_foldWide_316 ?_
  refine g_lmul C d_Mo_foldWide_318 ?_
  refine g_ladd C d_Mo_foldWide_319 ?_
  refine g_lload C 0 rfl d_Mo_foldWide_320 ?_
  refine g_lload C 14 rfl d_Mo_foldWide_322 ?_
  refine g_lmul C d_Mo_foldWide_324 ?_
  refine g_ladd C d_Mo_foldWide_325 ?_
  refine g_topl (fun x41 ex41 => ?_)
  have hr := of_lt ex41 hr
  refine g_lstore (lv' := [(22, .long x41), (32, .long x38), (30, .long x34), (28, .long x30), (26, .long x26), (24, .long x22), (20, .long v19), (18, .long v18), (16, .long v16), (14, .long v14), (12, .long v12), (10, .long v10), (8, .long v8), (6, .long v6), (4, .long v4), (2, .long v2), (0, .ref p0), (1, .ref p1)]) C d_Mo_foldWide_326 (by decide) rfl ?_
  refine g_lload C 0 rfl d_Mo_foldWide_328 ?_
  refine g_lload C 6 rfl d_Mo_foldWide_330 ?_
  refine g_lmul C d_Mo_foldWide_332 ?_
  refine g_ldc2 (v := 536870911) C d_Mo_foldWide_333 kw_2 ?_
  refine g_land C d_Mo_foldWide_336 ?_
  refine g_topl (fun x42 ex42 => ?_)
  have hr := of_lt ex42 hr
  refine g_lstore (lv' := [(34, .long x42), (22, .long x41), (32, .long x38), (30, .long x34), (28, .long x30), (26, .long x26), (24, .long x22), (20, .long v19), (18, .long v18), (16, .long v16), (14, .long v14), (12, .long v12), (10, .long v10), (8, .long v8), (6, .long v6), (4, .long v4), (2, .long v2), (0, .ref p0), (1, .ref p1)]) C d_Mo_foldWide_337 (by decide) rfl ?_
  refine g_lload C 1 rfl d_Mo_foldWide_339 ?_
  refine g_lload C 0 rfl d_Mo_foldWide_341 ?_
  refine g_lload_n C 16 rfl d_Mo_foldWide_343 rfl ?_
  refine g_lmul C d_Mo_foldWide_344 ?_
  refine g_ladd C d_Mo_foldWide_345 ?_
  refine g_bipush (v := 29) C d_Mo_foldWide_346 (by decide) ?_
  refine g_lshr C d_Mo_foldWide_348 ?_
  refine g_aload_n C 17 rfl d_Mo_foldWide_349 rfl ?_
  obtain ⟨k43, ek43, hr⟩ := of_bnd hr
  refine g_getR C fl_Mo_29 ek43 d_Mo_foldWide_350 ?_
  refine g_bipush (v := 6) C d_Mo_foldWide_353 (by decide) ?_
  obtain ⟨v44, ev44, hr⟩ := of_bnd hr
  refine g_laload C ev44 d_Mo_foldWide_355 ?_
  refine g_ladd C d_Mo_foldWide_356 ?_
  refine g_lload C 6 rfl d_Mo_foldWide_357 ?_
  refine g_lload C 10 rfl d_Mo_foldWide_359 ?_
  refine g_lmul C d_Mo_foldWide_361 ?_
  refine g_ladd C d_Mo_foldWide_362 ?_
  refine g_lload C 5 rfl d_Mo_foldWide_363 ?_
  refine g_lload C 11 rfl d_Mo_foldWide_365 ?_
  refine g_lmul C d_Mo_foldWide_367 ?_
  refine g_ladd C d_Mo_foldWide_368 ?_
  refine g_lload C 4 rfl d_Mo_foldWide_369 ?_
  refine g_lload C 12 rfl d_Mo_foldWide_371 ?_
  refine g_lmul C d_Mo_foldWide_373 ?_
  refine g_ladd C d_Mo_foldWide_374 ?_
  refine g_lload C 3 rfl d_Mo_foldWide_375 ?_
  refine g_lload C 13 rfl d_Mo_foldWide_377 ?_
  refine g_lmul C d_Mo_foldWide_379 ?_
  refine g_ladd C d_Mo_foldWide_380 ?_
  refine g_lload C 2 rfl d_Mo_foldWide_381 ?_
  refine g_lload C 14 rfl d_Mo_foldWide_383 ?_
  refine g_lmul C d_Mo_foldWide_385 ?_
  refine g_ladd C d_Mo_foldWide_386 ?_
  refine g_lload C 0 rfl d_Mo_foldWide_387 ?_
  refine g_lload C 15 rfl d_Mo_foldWide_389 ?_
  refine g_lmul C d_Mo_foldWide_391 ?_
  refine g_ladd C d_Mo_foldWide_392 ?_
  refine g_topl (fun x45 ex45 => ?_)
  have hr := of_lt ex45 hr
  refine g_lstore (lv' := [(22, .long x45), (34, .long x42), (32, .long x38), (30, .long x34), (28, .long x30), (26, .long x26), (24, .long x22), (20, .long v19), (18, .long v18), (16, .long v16), (14, .long v14), (12, .long v12), (10, .long v10), (8, .long v8), (6, .long v6), (4, .long v4), (2, .long v2), (0, .ref p0), (1, .ref p1)]) C d_Mo_foldWide_393 (by decide) rfl ?_
  refine g_lload C 0 rfl d_Mo_foldWide_395 ?_
  refine g_lload C 7 rfl d_Mo_foldWide_397 ?_
  refine g_lmul C d_Mo_foldWide_399 ?_
  refine g_ldc2 (v := 536870911) C d_Mo_foldWide_400 kw_2 ?_
  refine g_land C d_Mo_foldWide_403 ?_
  refine g_topl (fun x46 ex46 => ?_)
  have hr := of_lt ex46 hr
  refine g_lstore (lv' := [(36, .long x46), (22, .long x45), (34, .long x42), (32, .long x38), (30, .long x34), (28, .long x30), (26, .long x26), (24, .long x22), (20, .long v19), (18, .long v18), (16, .long v16), (14, .long v14), (12, .long v12), (10, .long v10), (8, .long v8), (6, .long v6), (4, .long v4), (2, .long v2), (0, .ref p0), (1, .ref p1)]) C d_Mo_foldWide_404 (by decide) rfl ?_
  refine g_lload C 1 rfl d_Mo_foldWide_406 ?_
  refine g_lload C 0 rfl d_Mo_foldWide_408 ?_
  refine g_lload_n C 17 rfl d_Mo_foldWide_410 rfl ?_
  refine g_lmul C d_Mo_foldWide_411 ?_
  refine g_ladd C d_Mo_foldWide_412 ?_
  refine g_bipush (v := 29) C d_Mo_foldWide_413 (by decide) ?_
  refine g_lshr C d_Mo_foldWide_415 ?_
  refine g_aload_n C 18 rfl d_Mo_foldWide_416 rfl ?_
  obtain ⟨k47, ek47, hr⟩ := of_bnd hr
  refine g_getR C fl_Mo_29 ek47 d_Mo_foldWide_417 ?_
  refine g_bipush (v := 7) C d_Mo_foldWide_420 (by decide) ?_
  obtain ⟨v48, ev48, hr⟩ := of_bnd hr
  refine g_laload C ev48 d_Mo_foldWide_422 ?_
  refine g_ladd C d_Mo_foldWide_423 ?_
  refine g_lload C 7 rfl d_Mo_foldWide_424 ?_
  refine g_lload C 10 rfl d_Mo_foldWide_426 ?_
  refine g_lmul C d_Mo_foldWide_428 ?_
  refine g_ladd C d_Mo_foldWide_429 ?_
  refine g_lload C 6 rfl d_Mo_foldWide_430 ?_
  refine g_lload C 11 rfl d_Mo_foldWide_432 ?_
  refine g_lmul C d_Mo_foldWide_434 ?_
  refine g_ladd C d_Mo_foldWide_435 ?_
  refine g_lload C 5 rfl d_Mo_foldWide_436 ?_
  refine g_lload C 12 rfl d_Mo_foldWide_438 ?_
  refine g_lmul C d_Mo_foldWide_440 ?_
  refine g_ladd C d_Mo_foldWide_441 ?_
  refine g_lload C 4 rfl d_Mo_foldWide_442 ?_
  refine g_lload C 13 rfl d_Mo_foldWide_444 ?_
  refine g_lmul C d_Mo_foldWide_446 ?_
  refine g_ladd C d_Mo_foldWide_447 ?_
  refine g_lload C 3 rfl d_Mo_foldWide_448 ?_
  refine g_lload C 14 rfl d_Mo_foldWide_450 ?_
  refine g_lmul C d_Mo_foldWide_452 ?_
  refine g_ladd C d_Mo_foldWide_453 ?_
  refine g_lload C 2 rfl d_Mo_foldWide_454 ?_
  refine g_lload C 15 rfl d_Mo_foldWide_456 ?_
  refine g_lmul C d_Mo_foldWide_458 ?_
  refine g_ladd C d_Mo_foldWide_459 ?_
  refine g_lload C 0 rfl d_Mo_foldWide_460 ?_
  refine g_lload C 16 rfl d_Mo_foldWide_462 ?_
  refine g_lmul C d_Mo_foldWide_464 ?_
  refine g_ladd C d_Mo_foldWide_465 ?_
  refine g_topl (fun x49 ex49 => ?_)
  have hr := of_lt ex49 hr
  refine g_lstore (lv' := [(22, .long x49), (36, .long x46), (34, .long x42), (32, .long x38), (30, .long x34), (28, .long x30), (26, .long x26), (24, .long x22), (20, .long v19), (18, .long v18), (16, .long v16), (14, .long v14), (12, .long v12), (10, .long v10), (8, .long v8), (6, .long v6), (4, .long v4), (2, .long v2), (0, .ref p0), (1, .ref p1)]) C d_Mo_foldWide_466 (by decide) rfl ?_
  refine g_lload C 0 rfl d_Mo_foldWide_468 ?_
  refine g_lload C 8 rfl d_Mo_foldWide_470 ?_
  refine g_lmul C d_Mo_foldWide_472 ?_
  refine g_ldc2 (v := 536870911) C d_Mo_foldWide_473 kw_2 ?_
  refine g_land C d_Mo_foldWide_476 ?_
  refine g_topl (fun x50 ex50 => ?_)
  have hr := of_lt ex50 hr
  refine g_lstore (lv' := [(38, .long x50), (22, .long x49), (36, .long x46), (34, .long x42), (32, .long x38), (30, .long x34), (28, .long x30), (26, .long x26), (24, .long x22), (20, .long v19), (18, .long v18), (16, .long v16), (14, .long v14), (12, .long v12), (10, .long v10), (8, .long v8), (6, .long v6), (4, .long v4), (2, .long v2), (0, .ref p0), (1, .ref p1)]) C d_Mo_foldWide_477 (by decide) rfl ?_
  refine g_lload C 1 rfl d_Mo_foldWide_479 ?_
  refine g_lload C 0 rfl d_Mo_foldWide_481 ?_
  refine g_lload_n C 18 rfl d_Mo_foldWide_483 rfl ?_
  refine g_lmul C d_Mo_foldWide_484 ?_
  refine g_ladd C d_Mo_foldWide_485 ?_
  refine g_bipush (v := 29) C d_Mo_foldWide_486 (by decide) ?_
  refine g_lshr C d_Mo_foldWide_488 ?_
  refine g_aload_n C 19 rfl d_Mo_foldWide_489 rfl ?_
  obtain ⟨k51, ek51, hr⟩ := of_bnd hr
  refine g_getR C fl_Mo_29 ek51 d_Mo_foldWide_490 ?_
  refine g_bipush (v := 8) C d_Mo_foldWide_493 (by decide) ?_
  obtain ⟨v52, ev52, hr⟩ := of_bnd hr
  refine g_laload C ev52 d_Mo_foldWide_495 ?_
  refine g_ladd C d_Mo_foldWide_496 ?_
  refine g_lload C 8 rfl d_Mo_foldWide_497 ?_
  refine g_lload C 10 rfl d_Mo_foldWide_499 ?_
  refine g_lmul C d_Mo_foldWide_501 ?_
  refine g_ladd C d_Mo_foldWide_502 ?_
  refine g_lload C 7 rfl d_Mo_foldWide_503 ?_
  refine g_lload C 11 rfl d_Mo_foldWide_505 ?_
  refine g_lmul C d_Mo_foldWide_507 ?_
  refine g_ladd C d_Mo_foldWide_508 ?_
  refine g_lload C 6 rfl d_Mo_foldWide_509 ?_
  refine g_lload C 12 rfl d_Mo_foldWide_511 ?_
  refine g_lmul C d_Mo_foldWide_513 ?_
  refine g_ladd C d_Mo_foldWide_514 ?_
  refine g_lload C 5 rfl d_Mo_foldWide_515 ?_
  refine g_lload C 13 rfl d_Mo_foldWide_517 ?_
  refine g_lmul C d_Mo_foldWide_519 ?_
  refine g_ladd C d_Mo_foldWide_520 ?_
  refine g_lload C 4 rfl d_Mo_foldWide_521 ?_
  refine g_lload C 14 rfl d_Mo_foldWide_523 ?_
  refine g_lmul C d_Mo_foldWide_525 ?_
  refine g_ladd C d_Mo_foldWide_526 ?_
  refine g_lload C 3 rfl d_Mo_foldWide_527 ?_
  refine g_lload C 15 rfl d_Mo_foldWide_529 ?_
  refine g_lmul C d_Mo_foldWide_531 ?_
  refine g_ladd C d_Mo_foldWide_532 ?_
  refine g_lload C 2 rfl d_Mo_foldWide_533 ?_
  refine g_lload C 16 rfl d_Mo_foldWide_535 ?_
  refine g_lmul C d_Mo_foldWide_537 ?_
  refine g_ladd C d_Mo_foldWide_538 ?_
  refine g_lload C 0 rfl d_Mo_foldWide_539 ?_
  refine g_lload C 17 rfl d_Mo_foldWide_541 ?_
  refine g_lmul C d_Mo_foldWide_543 ?_
  refine g_ladd C d_Mo_foldWide_544 ?_
  refine g_topl (fun x53 ex53 => ?_)
  have hr := of_lt ex53 hr
  refine g_lstore (lv' := [(22, .long x53), (38, .long x50), (36, .long x46), (34, .long x42), (32, .long x38), (30, .long x34), (28, .long x30), (26, .long x26), (24, .long x22), (20, .long v19), (18, .long v18), (16, .long v16), (14, .long v14), (12, .long v12), (10, .long v10), (8, .long v8), (6, .long v6), (4, .long v4), (2, .long v2), (0, .ref p0), (1, .ref p1)]) C d_Mo_foldWide_545 (by decide) rfl ?_
  refine g_lload C 0 rfl d_Mo_foldWide_547 ?_
  refine g_lload C 9 rfl d_Mo_foldWide_549 ?_
  refine g_lmul C d_Mo_foldWide_551 ?_
  refine g_ldc2 (v := 536870911) C d_Mo_foldWide_552 kw_2 ?_
  refine g_land C d_Mo_foldWide_555 ?_
  refine g_topl (fun x54 ex54 => ?_)
  have hr := of_lt ex54 hr
  refine g_lstore (lv' := [(40, .long x54), (22, .long x53), (38, .long x50), (36, .long x46), (34, .long x42), (32, .long x38), (30, .long x34), (28, .long x30), (26, .long x26), (24, .long x22), (20, .long v19), (18, .long v18), (16, .long v16), (14, .long v14), (12, .long v12), (10, .long v10), (8, .long v8), (6, .long v6), (4, .long v4), (2, .long v2), (0, .ref p0), (1, .ref p1)]) C d_Mo_foldWide_556 (by decide) rfl ?_
  refine g_lload C 1 rfl d_Mo_foldWide_558 ?_
  refine g_lload C 0 rfl d_Mo_foldWide_560 ?_
  refine g_lload_n C 19 rfl d_Mo_foldWide_562 rfl ?_
  refine g_lmul C d_Mo_foldWide_563 ?_
  refine g_ladd C d_Mo_foldWide_564 ?_
  refine g_bipush (v := 29) C d_Mo_foldWide_565 (by decide) ?_
  refine g_lshr C d_Mo_foldWide_567 ?_
  refine g_aload_n C 20 rfl d_Mo_foldWide_568 rfl ?_
  obtain ⟨k55, ek55, hr⟩ := of_bnd hr
  refine g_getR C fl_Mo_29 ek55 d_Mo_foldWide_569 ?_
  refine g_bipush (v := 9) C d_Mo_foldWide_572 (by decide) ?_
  obtain ⟨v56, ev56, hr⟩ := of_bnd hr
  refine g_laload C ev56 d_Mo_foldWide_574 ?_
  refine g_ladd C d_Mo_foldWide_575 ?_
  refine g_lload C 8 rfl d_Mo_foldWide_576 ?_
  refine g_lload C 11 rfl d_Mo_foldWide_578 ?_
  refine g_lmul C d_Mo_foldWide_580 ?_
  refine g_ladd C d_Mo_foldWide_581 ?_
  refine g_lload C 7 rfl d_Mo_foldWide_582 ?_
  refine g_lload C 12 rfl d_Mo_foldWide_584 ?_
  refine g_lmul C d_Mo_foldWide_586 ?_
  refine g_ladd C d_Mo_foldWide_587 ?_
  refine g_lload C 6 rfl d_Mo_foldWide_588 ?_
  refine g_lload C 13 rfl d_Mo_foldWide_590 ?_
  refine g_lmul C d_Mo_foldWide_592 ?_
  refine g_ladd C d_Mo_foldWide_593 ?_
  refine g_lload C 5 rfl d_Mo_foldWide_594 ?_
  refine g_lload C 14 rfl d_Mo_foldWide_596 ?_
  refine g_lmul C d_Mo_foldWide_598 ?_
  refine g_ladd C d_Mo_foldWide_599 ?_
  refine g_lload C 4 rfl d_Mo_foldWide_600 ?_
  refine g_lload C 15 rfl d_Mo_foldWide_602 ?_
  refine g_lmul C d_Mo_foldWide_604 ?_
  refine g_ladd C d_Mo_foldWide_605 ?_
  refine g_lload C 3 rfl d_Mo_foldWide_606 ?_
  refine g_lload C 16 rfl d_Mo_foldWide_608 ?_
  refine g_lmul C d_Mo_foldWide_610 ?_
  refine g_ladd C d_Mo_foldWide_611 ?_
  refine g_lload C 2 rfl d_Mo_foldWide_612 ?_
  refine g_lload C 17 rfl d_Mo_foldWide_614 ?_
  refine g_lmul C d_Mo_foldWide_616 ?_
  refine g_ladd C d_Mo_foldWide_617 ?_
  refine g_lload C 0 rfl d_Mo_foldWide_618 ?_
  refine g_lload C 18 rfl d_Mo_foldWide_620 ?_
  refine g_lmul C d_Mo_foldWide_622 ?_
  refine g_ladd C d_Mo_foldWide_623 ?_
  refine g_topl (fun x57 ex57 => ?_)
  have hr := of_lt ex57 hr
  refine g_lstore (lv' := [(22, .long x57), (40, .long x54), (38, .long x50), (36, .long x46), (34, .long x42), (32, .long x38), (30, .long x34), (28, .long x30), (26, .long x26), (24, .long x22), (20, .long v19), (18, .long v18), (16, .long v16), (14, .long v14), (12, .long v12), (10, .long v10), (8, .long v8), (6, .long v6), (4, .long v4), (2, .long v2), (0, .ref p0), (1, .ref p1)]) C d_Mo_foldWide_624 (by decide) rfl ?_
  refine g_aload_n C 21 rfl d_Mo_foldWide_626 rfl ?_
  refine g_iconst (v := 0) C d_Mo_foldWide_627 (by decide) ?_
  refine g_lload C 0 rfl d_Mo_foldWide_628 ?_
  refine g_ldc2 (v := 536870911) C d_Mo_foldWide_630 kw_2 ?_
  refine g_land C d_Mo_foldWide_633 ?_
  obtain ⟨h58, eh58, hr⟩ := of_bnd hr
  refine g_lastore C eh58 d_Mo_foldWide_634 ?_
  refine g_lload C 0 rfl d_Mo_foldWide_635 ?_
  refine g_bipush (v := 29) C d_Mo_foldWide_637 (by decide) ?_
  refine g_lshr C d_Mo_foldWide_639 ?_
  refine g_aload_n C 20 rfl d_Mo_foldWide_640 rfl ?_
  obtain ⟨k59, ek59, hr⟩ := of_bnd hr
  refine g_getR C fl_Mo_29 ek59 d_Mo_foldWide_641 ?_
  refine g_bipush (v := 10) C d_Mo_foldWide_644 (by decide) ?_
  obtain ⟨v60, ev60, hr⟩ := of_bnd hr
  refine g_laload C ev60 d_Mo_foldWide_646 ?_
  refine g_ladd C d_Mo_foldWide_647 ?_
  refine g_lload C 7 rfl d_Mo_foldWide_648 ?_
  refine g_lload C 11 rfl d_Mo_foldWide_650 ?_
  refine g_lmul C d_Mo_foldWide_652 ?_
  refine g_ladd C d_Mo_foldWide_653 ?_
  refine g_lload C 6 rfl d_Mo_foldWide_654 ?_
  refine g_lload C 12 rfl d_Mo_foldWide_656 ?_
  refine g_lmul C d_Mo_foldWide_658 ?_
  refine g_ladd C d_Mo_foldWide_659 ?_
  refine g_lload C 5 rfl d_Mo_foldWide_660 ?_
  refine g_lload C 13 rfl d_Mo_foldWide_662 ?_
  refine g_lmul C d_Mo_foldWide_664 ?_
  refine g_ladd C d_Mo_foldWide_665 ?_
  refine g_lload C 4 rfl d_Mo_foldWide_666 ?_
  refine g_lload C 14 rfl d_Mo_foldWide_668 ?_
  refine g_lmul C d_Mo_foldWide_670 ?_
  refine g_ladd C d_Mo_foldWide_671 ?_
  refine g_lload C 3 rfl d_Mo_foldWide_672 ?_
  refine g_lload C 15 rfl d_Mo_foldWide_674 ?_
  refine g_lmul C d_Mo_foldWide_676 ?_
  refine g_ladd C d_Mo_foldWide_677 ?_
  refine g_lload C 2 rfl d_Mo_foldWide_678 ?_
  refine g_lload C 16 rfl d_Mo_foldWide_680 ?_
  refine g_lmul C d_Mo_foldWide_682 ?_
  refine g_ladd C d_Mo_foldWide_683 ?_
  refine g_lload C 1 rfl d_Mo_foldWide_684 ?_
  refine g_lload C 17 rfl d_Mo_foldWide_686 ?_
  refine g_lmul C d_Mo_foldWide_688 ?_
  refine g_ladd C d_Mo_foldWide_689 ?_
  refine g_topl (fun x61 ex61 => ?_)
  have hr := of_lt ex61 hr
  refine g_lstore (lv' := [(22, .long x61), (40, .long x54), (38, .long x50), (36, .long x46), (34, .long x42), (32, .long x38), (30, .long x34), (28, .long x30), (26, .long x26), (24, .long x22), (20, .long v19), (18, .long v18), (16, .long v16), (14, .long v14), (12, .long v12), (10, .long v10), (8, .long v8), (6, .long v6), (4, .long v4), (2, .long v2), (0, .ref p0), (1, .ref p1)]) C d_Mo_foldWide_690 (by decide) rfl ?_
  refine g_aload_n C 21 rfl d_Mo_foldWide_692 rfl ?_
  refine g_iconst (v := 1) C d_Mo_foldWide_693 (by decide) ?_
  refine g_lload C 0 rfl d_Mo_foldWide_694 ?_
  refine g_ldc2 (v := 536870911) C d_Mo_foldWide_696 kw_2 ?_
  refine g_land C d_Mo_foldWide_699 ?_
  obtain ⟨h62, eh62, hr⟩ := of_bnd hr
  refine g_lastore C eh62 d_Mo_foldWide_700 ?_
  refine g_lload C 0 rfl d_Mo_foldWide_701 ?_
  refine g_bipush (v := 29) C d_Mo_foldWide_703 (by decide) ?_
  refine g_lshr C d_Mo_foldWide_705 ?_
  refine g_aload_n C 20 rfl d_Mo_foldWide_706 rfl ?_
  obtain ⟨k63, ek63, hr⟩ := of_bnd hr
  refine g_getR C fl_Mo_29 ek63 d_Mo_foldWide_707 ?_
  refine g_bipush (v := 11) C d_Mo_foldWide_710 (by decide) ?_
  obtain ⟨v64, ev64, hr⟩ := of_bnd hr
  refine g_laload C ev64 d_Mo_foldWide_712 ?_
  refine g_ladd C d_Mo_foldWide_713 ?_
  refine g_lload C 6 rfl d_Mo_foldWide_714 ?_
  refine g_lload C 11 rfl d_Mo_foldWide_716 ?_
  refine g_lmul C d_Mo_foldWide_718 ?_
  refine g_ladd C d_Mo_foldWide_719 ?_
  refine g_lload C 5 rfl d_Mo_foldWide_720 ?_
  refine g_lload C 12 rfl d_Mo_foldWide_722 ?_
  refine g_lmul C d_Mo_foldWide_724 ?_
  refine g_ladd C d_Mo_foldWide_725 ?_
  refine g_lload C 4 rfl d_Mo_foldWide_726 ?_
  refine g_lload C 13 rfl d_Mo_foldWide_728 ?_
  refine g_lmul C d_Mo_foldWide_730 ?_
  refine g_ladd C d_Mo_foldWide_731 ?_
  refine g_lload C 3 rfl d_Mo_foldWide_732 ?_
  refine g_lload C 14 rfl d_Mo_foldWide_734 ?_
  refine g_lmul C d_Mo_foldWide_736 ?_
  refine g_ladd C d_Mo_foldWide_737 ?_
  refine g_lload C 2 rfl d_Mo_foldWide_738 ?_
  refine g_lload C 15 rfl d_Mo_foldWide_740 ?_
  refine g_lmul C d_Mo_foldWide_742 ?_
  refine g_ladd C d_Mo_foldWide_743 ?_
  refine g_lload C 1 rfl d_Mo_foldWide_744 ?_
  refine g_lload C 16 rfl d_Mo_foldWide_746 ?_
  refine g_lmul C d_Mo_foldWide_748 ?_
  refine g_ladd C d_Mo_foldWide_749 ?_
  refine g_topl (fun x65 ex65 => ?_)
  have hr := of_lt ex65 hr
  refine g_lstore (lv' := [(22, .long x65), (40, .long x54), (38, .long x50), (36, .long x46), (34, .long x42), (32, .long x38), (30, .long x34), (28, .long x30), (26, .long x26), (24, .long x22), (20, .long v19), (18, .long v18), (16, .long v16), (14, .long v14), (12, .long v12), (10, .long v10), (8, .long v8), (6, .long v6), (4, .long v4), (2, .long v2), (0, .ref p0), (1, .ref p1)]) C d_Mo_foldWide_750 (by decide) rfl ?_
  refine g_aload_n C 21 rfl d_Mo_foldWide_752 rfl ?_
  refine g_iconst (v := 2) C d_Mo_foldWide_753 (by decide) ?_
  refine g_lload C 0 rfl d_Mo_foldWide_754 ?_
  refine g_ldc2 (v := 536870911) C d_Mo_foldWide_756 kw_2 ?_
  refine g_land C d_Mo_foldWide_759 ?_
  obtain ⟨h66, eh66, hr⟩ := of_bnd hr
  refine g_lastore C eh66 d_Mo_foldWide_760 ?_
  refine g_lload C 0 rfl d_Mo_foldWide_761 ?_
  refine g_bipush (v := 29) C d_Mo_foldWide_763 (by decide) ?_
  refine g_lshr C d_Mo_foldWide_765 ?_
  refine g_aload_n C 20 rfl d_Mo_foldWide_766 rfl ?_
  obtain ⟨k67, ek67, hr⟩ := of_bnd hr
  refine g_getR C fl_Mo_29 ek67 d_Mo_foldWide_767 ?_
  refine g_bipush (v := 12) C d_Mo_foldWide_770 (by decide) ?_
  obtain ⟨v68, ev68, hr⟩ := of_bnd hr
  refine g_laload C ev68 d_Mo_foldWide_772 ?_
  refine g_ladd C d_Mo_foldWide_773 ?_
  refine g_lload C 5 rfl d_Mo_foldWide_774 ?_
  refine g_lload C 11 rfl d_Mo_foldWide_776 ?_
  refine g_lmul C d_Mo_foldWide_778 ?_
  refine g_ladd C d_Mo_foldWide_779 ?_
  refine g_lload C 4 rfl d_Mo_foldWide_780 ?_
  refine g_lload C 12 rfl d_Mo_foldWide_782 ?_
  refine g_lmul C d_Mo_foldWide_784 ?_
  refine g_ladd C d_Mo_foldWide_785 ?_
  refine g_lload C 3 rfl d_Mo_foldWide_786 ?_
  refine g_lload C 13 rfl d_Mo_foldWide_788 ?_
  refine g_lmul C d_Mo_foldWide_790 ?_
  refine g_ladd C d_Mo_foldWide_791 ?_
  refine g_lload C 2 rfl d_Mo_foldWide_792 ?_
  refine g_lload C 14 rfl d_Mo_foldWide_794 ?_
  refine g_lmul C d_Mo_foldWide_796 ?_
  refine g_ladd C d_Mo_foldWide_797 ?_
  refine g_lload C 1 rfl d_Mo_foldWide_798 ?_
  refine g_lload C 15 rfl d_Mo_foldWide_800 ?_
  refine g_lmul C d_Mo_foldWide_802 ?_
  refine g_ladd C d_Mo_foldWide_803 ?_
  refine g_topl (fun x69 ex69 => ?_)
  have hr := of_lt ex69 hr
  refine g_lstore (lv' := [(22, .long x69), (40, .long x54), (38, .long x50), (36, .long x46), (34, .long x42), (32, .long x38), (30, .long x34), (28, .long x30), (26, .long x26), (24, .long x22), (20, .long v19), (18, .long v18), (16, .long v16), (14, .long v14), (12, .long v12), (10, .long v10), (8, .long v8), (6, .long v6), (4, .long v4), (2, .long v2), (0, .ref p0), (1, .ref p1)]) C d_Mo_foldWide_804 (by decide) rfl ?_
  refine g_aload_n C 21 rfl d_Mo_foldWide_806 rfl ?_
  refine g_iconst (v := 3) C d_Mo_foldWide_807 (by decide) ?_
  refine g_lload C 0 rfl d_Mo_foldWide_808 ?_
  refine g_ldc2 (v := 536870911) C d_Mo_foldWide_810 kw_2 ?_
  refine g_land C d_Mo_foldWide_813 ?_
  obtain ⟨h70, eh70, hr⟩ := of_bnd hr
  refine g_lastore C eh70 d_Mo_foldWide_814 ?_
  refine g_lload C 0 rfl d_Mo_foldWide_815 ?_
  refine g_bipush (v := 29) C d_Mo_foldWide_817 (by decide) ?_
  refine g_lshr C d_Mo_foldWide_819 ?_
  refine g_aload_n C 20 rfl d_Mo_foldWide_820 rfl ?_
  obtain ⟨k71, ek71, hr⟩ := of_bnd hr
  refine g_getR C fl_Mo_29 ek71 d_Mo_foldWide_821 ?_
  refine g_bipush (v := 13) C d_Mo_foldWide_824 (by decide) ?_
  obtain ⟨v72, ev72, hr⟩ := of_bnd hr
  refine g_laload C ev72 d_Mo_foldWide_826 ?_
  refine g_ladd C d_Mo_foldWide_827 ?_
  refine g_lload C 4 rfl d_Mo_foldWide_828 ?_
  refine g_lload C 11 rfl d_Mo_foldWide_830 ?_
  refine g_lmul C d_Mo_foldWide_832 ?_
  refine g_ladd C d_Mo_foldWide_833 ?_
  refine g_lload C 3 rfl d_Mo_foldWide_834 ?_
  refine g_lload C 12 rfl d_Mo_foldWide_836 ?_
  refine g_lmul C d_Mo_foldWide_838 ?_
  refine g_ladd C d_Mo_foldWide_839 ?_
  refine g_lload C 2 rfl d_Mo_foldWide_840 ?_
  refine g_lload C 13 rfl d_Mo_foldWide_842 ?_
  refine g_lmul C d_Mo_foldWide_844 ?_
  refine g_ladd C d_Mo_foldWide_845 ?_
  refine g_lload C 1 rfl d_Mo_foldWide_846 ?_
  refine g_lload C 14 rfl d_Mo_foldWide_848 ?_
  refine g_lmul C d_Mo_foldWide_850 ?_
  refine g_ladd C d_Mo_foldWide_851 ?_
  refine g_topl (fun x73 ex73 => ?_)
  have hr := of_lt ex73 hr
  refine g_lstore (lv' := [(22, .long x73), (40, .long x54), (38, .long x50), (36, .long x46), (34, .long x42), (32, .long x38), (30, .long x34), (28, .long x30), (26, .long x26), (24, .long x22), (20, .long v19), (18, .long v18), (16, .long v16), (14, .long v14), (12, .long v12), (10, .long v10), (8, .long v8), (6, .long v6), (4, .long v4), (2, .long v2), (0, .ref p0), (1, .ref p1)]) C d_Mo_foldWide_852 (by decide) rfl ?_
  refine g_aload_n C 21 rfl d_Mo_foldWide_854 rfl ?_
  refine g_iconst (v := 4) C d_Mo_foldWide_855 (by decide) ?_
  refine g_lload C 0 rfl d_Mo_foldWide_856 ?_
  refine g_ldc2 (v := 536870911) C d_Mo_foldWide_858 kw_2 ?_
  refine g_land C d_Mo_foldWide_861 ?_
  obtain ⟨h74, eh74, hr⟩ := of_bnd hr
  refine g_lastore C eh74 d_Mo_foldWide_862 ?_
  refine g_lload C 0 rfl d_Mo_foldWide_863 ?_
  refine g_bipush (v := 29) C d_Mo_foldWide_865 (by decide) ?_
  refine g_lshr C d_Mo_foldWide_867 ?_
  refine g_aload_n C 20 rfl d_Mo_foldWide_868 rfl ?_
  obtain ⟨k75, ek75, hr⟩ := of_bnd hr
  refine g_getR C fl_Mo_29 ek75 d_Mo_foldWide_869 ?_
  refine g_bipush (v := 14) C d_Mo_foldWide_872 (by decide) ?_
  obtain ⟨v76, ev76, hr⟩ := of_bnd hr
  refine g_laload C ev76 d_Mo_foldWide_874 ?_
  refine g_ladd C d_Mo_foldWide_875 ?_
  refine g_lload C 3 rfl d_Mo_foldWide_876 ?_
  refine g_lload C 11 rfl d_Mo_foldWide_878 ?_
  refine g_lmul C d_Mo_foldWide_880 ?_
  refine g_ladd C d_Mo_foldWide_881 ?_
  refine g_lload C 2 rfl d_Mo_foldWide_882 ?_
  refine g_lload C 12 rfl d_Mo_foldWide_884 ?_
  refine g_lmul C d_Mo_foldWide_886 ?_
  refine g_ladd C d_Mo_foldWide_887 ?_
  refine g_lload C 1 rfl d_Mo_foldWide_888 ?_
  refine g_lload C 13 rfl d_Mo_foldWide_890 ?_
  refine g_lmul C d_Mo_foldWide_892 ?_
  refine g_ladd C d_Mo_foldWide_893 ?_
  refine g_topl (fun x77 ex77 => ?_)
  have hr := of_lt ex77 hr
  refine g_lstore (lv' := [(22, .long x77), (40, .long x54), (38, .long x50), (36, .long x46), (34, .long x42), (32, .long x38), (30, .long x34), (28, .long x30), (26, .long x26), (24, .long x22), (20, .long v19), (18, .long v18), (16, .long v16), (14, .long v14), (12, .long v12), (10, .long v10), (8, .long v8), (6, .long v6), (4, .long v4), (2, .long v2), (0, .ref p0), (1, .ref p1)]) C d_Mo_foldWide_894 (by decide) rfl ?_
  refine g_aload_n C 21 rfl d_Mo_foldWide_896 rfl ?_
  refine g_iconst (v := 5) C d_Mo_foldWide_897 (by decide) ?_
  refine g_lload C 0 rfl d_Mo_foldWide_898 ?_
  refine g_ldc2 (v := 536870911) C d_Mo_foldWide_900 kw_2 ?_
  refine g_land C d_Mo_foldWide_903 ?_
  obtain ⟨h78, eh78, hr⟩ := of_bnd hr
  refine g_lastore C eh78 d_Mo_foldWide_904 ?_
  refine g_lload C 0 rfl d_Mo_foldWide_905 ?_
  refine g_bipush (v := 29) C d_Mo_foldWide_907 (by decide) ?_
  refine g_lshr C d_Mo_foldWide_909 ?_
  refine g_aload_n C 20 rfl d_Mo_foldWide_910 rfl ?_
  obtain ⟨k79, ek79, hr⟩ := of_bnd hr
  refine g_getR C fl_Mo_29 ek79 d_Mo_foldWide_911 ?_
  refine g_bipush (v := 15) C d_Mo_foldWide_914 (by decide) ?_
  obtain ⟨v80, ev80, hr⟩ := of_bnd hr
  refine g_laload C ev80 d_Mo_foldWide_916 ?_
  refine g_ladd C d_Mo_foldWide_917 ?_
  refine g_lload C 2 rfl d_Mo_foldWide_918 ?_
  refine g_lload C 11 rfl d_Mo_foldWide_920 ?_
  refine g_lmul C d_Mo_foldWide_922 ?_
  refine g_ladd C d_Mo_foldWide_923 ?_
  refine g_lload C 1 rfl d_Mo_foldWide_924 ?_
  refine g_lload C 12 rfl d_Mo_foldWide_926 ?_
  refine g_lmul C d_Mo_foldWide_928 ?_
  refine g_ladd C d_Mo_foldWide_929 ?_
  refine g_topl (fun x81 ex81 => ?_)
  have hr := of_lt ex81 hr
  refine g_lstore (lv' := [(22, .long x81), (40, .long x54), (38, .long x50), (36, .long x46), (34, .long x42), (32, .long x38), (30, .long x34), (28, .long x30), (26, .long x26), (24, .long x22), (20, .long v19), (18, .long v18), (16, .long v16), (14, .long v14), (12, .long v12), (10, .long v10), (8, .long v8), (6, .long v6), (4, .long v4), (2, .long v2), (0, .ref p0), (1, .ref p1)]) C d_Mo_foldWide_930 (by decide) rfl ?_
  refine g_aload_n C 21 rfl d_Mo_foldWide_932 rfl ?_
  refine g_bipush (v := 6) C d_Mo_foldWide_933 (by decide) ?_
  refine g_lload C 0 rfl d_Mo_foldWide_935 ?_
  refine g_ldc2 (v := 536870911) C d_Mo_foldWide_937 kw_2 ?_
  refine g_land C d_Mo_foldWide_940 ?_
  obtain ⟨h82, eh82, hr⟩ := of_bnd hr
  refine g_lastore C eh82 d_Mo_foldWide_941 ?_
  refine g_lload C 0 rfl d_Mo_foldWide_942 ?_
  refine g_bipush (v := 29) C d_Mo_foldWide_944 (by decide) ?_
  refine g_lshr C d_Mo_foldWide_946 ?_
  refine g_aload_n C 20 rfl d_Mo_foldWide_947 rfl ?_
  obtain ⟨k83, ek83, hr⟩ := of_bnd hr
  refine g_getR C fl_Mo_29 ek83 d_Mo_foldWide_948 ?_
  refine g_bipush (v := 16) C d_Mo_foldWide_951 (by decide) ?_
  obtain ⟨v84, ev84, hr⟩ := of_bnd hr
  refine g_laload C ev84 d_Mo_foldWide_953 ?_
  refine g_ladd C d_Mo_foldWide_954 ?_
  refine g_lload C 1 rfl d_Mo_foldWide_955 ?_
  refine g_lload C 11 rfl d_Mo_foldWide_957 ?_
  refine g_lmul C d_Mo_foldWide_959 ?_
  refine g_ladd C d_Mo_foldWide_960 ?_
  refine g_topl (fun x85 ex85 => ?_)
  have hr := of_lt ex85 hr
  refine g_lstore (lv' := [(22, .long x85), (40, .long x54), (38, .long x50), (36, .long x46), (34, .long x42), (32, .long x38), (30, .long x34), (28, .long x30), (26, .long x26), (24, .long x22), (20, .long v19), (18, .long v18), (16, .long v16), (14, .long v14), (12, .long v12), (10, .long v10), (8, .long v8), (6, .long v6), (4, .long v4), (2, .long v2), (0, .ref p0), (1, .ref p1)]) C d_Mo_foldWide_961 (by decide) rfl ?_
  refine g_aload_n C 21 rfl d_Mo_foldWide_963 rfl ?_
  refine g_bipush (v := 7) C d_Mo_foldWide_964 (by decide) ?_
  refine g_lload C 0 rfl d_Mo_foldWide_966 ?_
  refine g_ldc2 (v := 536870911) C d_Mo_foldWide_968 kw_2 ?_
  refine g_land C d_Mo_foldWide_971 ?_
  obtain ⟨h86, eh86, hr⟩ := of_bnd hr
  refine g_lastore C eh86 d_Mo_foldWide_972 ?_
  refine g_aload_n C 21 rfl d_Mo_foldWide_973 rfl ?_
  refine g_bipush (v := 8) C d_Mo_foldWide_974 (by decide) ?_
  refine g_lload C 0 rfl d_Mo_foldWide_976 ?_
  refine g_bipush (v := 29) C d_Mo_foldWide_978 (by decide) ?_
  refine g_lshr C d_Mo_foldWide_980 ?_
  obtain ⟨h87, eh87, hr⟩ := of_bnd hr
  refine g_lastore C eh87 d_Mo_foldWide_981 ?_
  cases hr
  exact g_vreturn C T (by decide) (by decide) d_Mo_foldWide_982
