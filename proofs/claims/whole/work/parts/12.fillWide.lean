abbrev b_Mo_fillWide : ByteArray := prog_4_method_13_code
abbrev y_Mo_fillWide : MethodName := ⟨"PrimeKeys$Modulus", "fillWide", "([J[J)V"⟩
theorem d_Mo_fillWide_0 : decode b_Mo_fillWide 0 = .ok (.aload_n 1, 1) := by decide +kernel
theorem d_Mo_fillWide_1 : decode b_Mo_fillWide 1 = .ok (.iconst 0, 1) := by decide +kernel
theorem d_Mo_fillWide_2 : decode b_Mo_fillWide 2 = .ok (.laload, 1) := by decide +kernel
theorem d_Mo_fillWide_3 : decode b_Mo_fillWide 3 = .ok (.lstore_n 3, 1) := by decide +kernel
theorem d_Mo_fillWide_4 : decode b_Mo_fillWide 4 = .ok (.aload_n 1, 1) := by decide +kernel
theorem d_Mo_fillWide_5 : decode b_Mo_fillWide 5 = .ok (.iconst 1, 1) := by decide +kernel
theorem d_Mo_fillWide_6 : decode b_Mo_fillWide 6 = .ok (.laload, 1) := by decide +kernel
theorem d_Mo_fillWide_7 : decode b_Mo_fillWide 7 = .ok (.lstore 5, 2) := by decide +kernel
theorem d_Mo_fillWide_9 : decode b_Mo_fillWide 9 = .ok (.aload_n 1, 1) := by decide +kernel
theorem d_Mo_fillWide_10 : decode b_Mo_fillWide 10 = .ok (.iconst 2, 1) := by decide +kernel
theorem d_Mo_fillWide_11 : decode b_Mo_fillWide 11 = .ok (.laload, 1) := by decide +kernel
theorem d_Mo_fillWide_12 : decode b_Mo_fillWide 12 = .ok (.lstore 7, 2) := by decide +kernel
theorem d_Mo_fillWide_14 : decode b_Mo_fillWide 14 = .ok (.aload_n 1, 1) := by decide +kernel
theorem d_Mo_fillWide_15 : decode b_Mo_fillWide 15 = .ok (.iconst 3, 1) := by decide +kernel
theorem d_Mo_fillWide_16 : decode b_Mo_fillWide 16 = .ok (.laload, 1) := by decide +kernel
theorem d_Mo_fillWide_17 : decode b_Mo_fillWide 17 = .ok (.lstore 9, 2) := by decide +kernel
theorem d_Mo_fillWide_19 : decode b_Mo_fillWide 19 = .ok (.aload_n 1, 1) := by decide +kernel
theorem d_Mo_fillWide_20 : decode b_Mo_fillWide 20 = .ok (.iconst 4, 1) := by decide +kernel
theorem d_Mo_fillWide_21 : decode b_Mo_fillWide 21 = .ok (.laload, 1) := by decide +kernel
theorem d_Mo_fillWide_22 : decode b_Mo_fillWide 22 = .ok (.lstore 11, 2) := by decide +kernel
theorem d_Mo_fillWide_24 : decode b_Mo_fillWide 24 = .ok (.aload_n 1, 1) := by decide +kernel
theorem d_Mo_fillWide_25 : decode b_Mo_fillWide 25 = .ok (.iconst 5, 1) := by decide +kernel
theorem d_Mo_fillWide_26 : decode b_Mo_fillWide 26 = .ok (.laload, 1) := by decide +kernel
theorem d_Mo_fillWide_27 : decode b_Mo_fillWide 27 = .ok (.lstore 13, 2) := by decide +kernel
theorem d_Mo_fillWide_29 : decode b_Mo_fillWide 29 = .ok (.aload_n 1, 1) := by decide +kernel
theorem d_Mo_fillWide_30 : decode b_Mo_fillWide 30 = .ok (.bipush 6, 2) := by decide +kernel
theorem d_Mo_fillWide_32 : decode b_Mo_fillWide 32 = .ok (.laload, 1) := by decide +kernel
theorem d_Mo_fillWide_33 : decode b_Mo_fillWide 33 = .ok (.lstore 15, 2) := by decide +kernel
theorem d_Mo_fillWide_35 : decode b_Mo_fillWide 35 = .ok (.aload_n 1, 1) := by decide +kernel
theorem d_Mo_fillWide_36 : decode b_Mo_fillWide 36 = .ok (.bipush 7, 2) := by decide +kernel
theorem d_Mo_fillWide_38 : decode b_Mo_fillWide 38 = .ok (.laload, 1) := by decide +kernel
theorem d_Mo_fillWide_39 : decode b_Mo_fillWide 39 = .ok (.lstore 17, 2) := by decide +kernel
theorem d_Mo_fillWide_41 : decode b_Mo_fillWide 41 = .ok (.aload_n 1, 1) := by decide +kernel
theorem d_Mo_fillWide_42 : decode b_Mo_fillWide 42 = .ok (.bipush 8, 2) := by decide +kernel
theorem d_Mo_fillWide_44 : decode b_Mo_fillWide 44 = .ok (.laload, 1) := by decide +kernel
theorem d_Mo_fillWide_45 : decode b_Mo_fillWide 45 = .ok (.lstore 19, 2) := by decide +kernel
theorem d_Mo_fillWide_47 : decode b_Mo_fillWide 47 = .ok (.aload_n 2, 1) := by decide +kernel
theorem d_Mo_fillWide_48 : decode b_Mo_fillWide 48 = .ok (.iconst 0, 1) := by decide +kernel
theorem d_Mo_fillWide_49 : decode b_Mo_fillWide 49 = .ok (.laload, 1) := by decide +kernel
theorem d_Mo_fillWide_50 : decode b_Mo_fillWide 50 = .ok (.lstore 21, 2) := by decide +kernel
theorem d_Mo_fillWide_52 : decode b_Mo_fillWide 52 = .ok (.aload_n 2, 1) := by decide +kernel
theorem d_Mo_fillWide_53 : decode b_Mo_fillWide 53 = .ok (.iconst 1, 1) := by decide +kernel
theorem d_Mo_fillWide_54 : decode b_Mo_fillWide 54 = .ok (.laload, 1) := by decide +kernel
theorem d_Mo_fillWide_55 : decode b_Mo_fillWide 55 = .ok (.lstore 23, 2) := by decide +kernel
theorem d_Mo_fillWide_57 : decode b_Mo_fillWide 57 = .ok (.aload_n 2, 1) := by decide +kernel
theorem d_Mo_fillWide_58 : decode b_Mo_fillWide 58 = .ok (.iconst 2, 1) := by decide +kernel
theorem d_Mo_fillWide_59 : decode b_Mo_fillWide 59 = .ok (.laload, 1) := by decide +kernel
theorem d_Mo_fillWide_60 : decode b_Mo_fillWide 60 = .ok (.lstore 25, 2) := by decide +kernel
theorem d_Mo_fillWide_62 : decode b_Mo_fillWide 62 = .ok (.aload_n 2, 1) := by decide +kernel
theorem d_Mo_fillWide_63 : decode b_Mo_fillWide 63 = .ok (.iconst 3, 1) := by decide +kernel
theorem d_Mo_fillWide_64 : decode b_Mo_fillWide 64 = .ok (.laload, 1) := by decide +kernel
theorem d_Mo_fillWide_65 : decode b_Mo_fillWide 65 = .ok (.lstore 27, 2) := by decide +kernel
theorem d_Mo_fillWide_67 : decode b_Mo_fillWide 67 = .ok (.aload_n 2, 1) := by decide +kernel
theorem d_Mo_fillWide_68 : decode b_Mo_fillWide 68 = .ok (.iconst 4, 1) := by decide +kernel
theorem d_Mo_fillWide_69 : decode b_Mo_fillWide 69 = .ok (.laload, 1) := by decide +kernel
theorem d_Mo_fillWide_70 : decode b_Mo_fillWide 70 = .ok (.lstore 29, 2) := by decide +kernel
theorem d_Mo_fillWide_72 : decode b_Mo_fillWide 72 = .ok (.aload_n 2, 1) := by decide +kernel
theorem d_Mo_fillWide_73 : decode b_Mo_fillWide 73 = .ok (.iconst 5, 1) := by decide +kernel
theorem d_Mo_fillWide_74 : decode b_Mo_fillWide 74 = .ok (.laload, 1) := by decide +kernel
theorem d_Mo_fillWide_75 : decode b_Mo_fillWide 75 = .ok (.lstore 31, 2) := by decide +kernel
theorem d_Mo_fillWide_77 : decode b_Mo_fillWide 77 = .ok (.aload_n 2, 1) := by decide +kernel
theorem d_Mo_fillWide_78 : decode b_Mo_fillWide 78 = .ok (.bipush 6, 2) := by decide +kernel
theorem d_Mo_fillWide_80 : decode b_Mo_fillWide 80 = .ok (.laload, 1) := by decide +kernel
theorem d_Mo_fillWide_81 : decode b_Mo_fillWide 81 = .ok (.lstore 33, 2) := by decide +kernel
theorem d_Mo_fillWide_83 : decode b_Mo_fillWide 83 = .ok (.aload_n 2, 1) := by decide +kernel
theorem d_Mo_fillWide_84 : decode b_Mo_fillWide 84 = .ok (.bipush 7, 2) := by decide +kernel
theorem d_Mo_fillWide_86 : decode b_Mo_fillWide 86 = .ok (.laload, 1) := by decide +kernel
theorem d_Mo_fillWide_87 : decode b_Mo_fillWide 87 = .ok (.lstore 35, 2) := by decide +kernel
theorem d_Mo_fillWide_89 : decode b_Mo_fillWide 89 = .ok (.aload_n 2, 1) := by decide +kernel
theorem d_Mo_fillWide_90 : decode b_Mo_fillWide 90 = .ok (.bipush 8, 2) := by decide +kernel
theorem d_Mo_fillWide_92 : decode b_Mo_fillWide 92 = .ok (.laload, 1) := by decide +kernel
theorem d_Mo_fillWide_93 : decode b_Mo_fillWide 93 = .ok (.lstore 37, 2) := by decide +kernel
theorem d_Mo_fillWide_95 : decode b_Mo_fillWide 95 = .ok (.aload_n 0, 1) := by decide +kernel
theorem d_Mo_fillWide_96 : decode b_Mo_fillWide 96 = .ok (.getfield 29, 3) := by decide +kernel
theorem d_Mo_fillWide_99 : decode b_Mo_fillWide 99 = .ok (.iconst 0, 1) := by decide +kernel
theorem d_Mo_fillWide_100 : decode b_Mo_fillWide 100 = .ok (.lload_n 3, 1) := by decide +kernel
theorem d_Mo_fillWide_101 : decode b_Mo_fillWide 101 = .ok (.lload 21, 2) := by decide +kernel
theorem d_Mo_fillWide_103 : decode b_Mo_fillWide 103 = .ok (.lmul, 1) := by decide +kernel
theorem d_Mo_fillWide_104 : decode b_Mo_fillWide 104 = .ok (.lastore, 1) := by decide +kernel
theorem d_Mo_fillWide_105 : decode b_Mo_fillWide 105 = .ok (.aload_n 0, 1) := by decide +kernel
theorem d_Mo_fillWide_106 : decode b_Mo_fillWide 106 = .ok (.getfield 29, 3) := by decide +kernel
theorem d_Mo_fillWide_109 : decode b_Mo_fillWide 109 = .ok (.iconst 1, 1) := by decide +kernel
theorem d_Mo_fillWide_110 : decode b_Mo_fillWide 110 = .ok (.lload_n 3, 1) := by decide +kernel
theorem d_Mo_fillWide_111 : decode b_Mo_fillWide 111 = .ok (.lload 23, 2) := by decide +kernel
theorem d_Mo_fillWide_113 : decode b_Mo_fillWide 113 = .ok (.lmul, 1) := by decide +kernel
theorem d_Mo_fillWide_114 : decode b_Mo_fillWide 114 = .ok (.lload 5, 2) := by decide +kernel
theorem d_Mo_fillWide_116 : decode b_Mo_fillWide 116 = .ok (.lload 21, 2) := by decide +kernel
theorem d_Mo_fillWide_118 : decode b_Mo_fillWide 118 = .ok (.lmul, 1) := by decide +kernel
theorem d_Mo_fillWide_119 : decode b_Mo_fillWide 119 = .ok (.ladd, 1) := by decide +kernel
theorem d_Mo_fillWide_120 : decode b_Mo_fillWide 120 = .ok (.lastore, 1) := by decide +kernel
theorem d_Mo_fillWide_121 : decode b_Mo_fillWide 121 = .ok (.aload_n 0, 1) := by decide +kernel
theorem d_Mo_fillWide_122 : decode b_Mo_fillWide 122 = .ok (.getfield 29, 3) := by decide +kernel
theorem d_Mo_fillWide_125 : decode b_Mo_fillWide 125 = .ok (.iconst 2, 1) := by decide +kernel
theorem d_Mo_fillWide_126 : decode b_Mo_fillWide 126 = .ok (.lload_n 3, 1) := by decide +kernel
theorem d_Mo_fillWide_127 : decode b_Mo_fillWide 127 = .ok (.lload 25, 2) := by decide +kernel
theorem d_Mo_fillWide_129 : decode b_Mo_fillWide 129 = .ok (.lmul, 1) := by decide +kernel
theorem d_Mo_fillWide_130 : decode b_Mo_fillWide 130 = .ok (.lload 5, 2) := by decide +kernel
theorem d_Mo_fillWide_132 : decode b_Mo_fillWide 132 = .ok (.lload 23, 2) := by decide +kernel
theorem d_Mo_fillWide_134 : decode b_Mo_fillWide 134 = .ok (.lmul, 1) := by decide +kernel
theorem d_Mo_fillWide_135 : decode b_Mo_fillWide 135 = .ok (.ladd, 1) := by decide +kernel
theorem d_Mo_fillWide_136 : decode b_Mo_fillWide 136 = .ok (.lload 7, 2) := by decide +kernel
theorem d_Mo_fillWide_138 : decode b_Mo_fillWide 138 = .ok (.lload 21, 2) := by decide +kernel
theorem d_Mo_fillWide_140 : decode b_Mo_fillWide 140 = .ok (.lmul, 1) := by decide +kernel
theorem d_Mo_fillWide_141 : decode b_Mo_fillWide 141 = .ok (.ladd, 1) := by decide +kernel
theorem d_Mo_fillWide_142 : decode b_Mo_fillWide 142 = .ok (.lastore, 1) := by decide +kernel
theorem d_Mo_fillWide_143 : decode b_Mo_fillWide 143 = .ok (.aload_n 0, 1) := by decide +kernel
theorem d_Mo_fillWide_144 : decode b_Mo_fillWide 144 = .ok (.getfield 29, 3) := by decide +kernel
theorem d_Mo_fillWide_147 : decode b_Mo_fillWide 147 = .ok (.iconst 3, 1) := by decide +kernel
theorem d_Mo_fillWide_148 : decode b_Mo_fillWide 148 = .ok (.lload_n 3, 1) := by decide +kernel
theorem d_Mo_fillWide_149 : decode b_Mo_fillWide 149 = .ok (.lload 27, 2) := by decide +kernel
theorem d_Mo_fillWide_151 : decode b_Mo_fillWide 151 = .ok (.lmul, 1) := by decide +kernel
theorem d_Mo_fillWide_152 : decode b_Mo_fillWide 152 = .ok (.lload 5, 2) := by decide +kernel
theorem d_Mo_fillWide_154 : decode b_Mo_fillWide 154 = .ok (.lload 25, 2) := by decide +kernel
theorem d_Mo_fillWide_156 : decode b_Mo_fillWide 156 = .ok (.lmul, 1) := by decide +kernel
theorem d_Mo_fillWide_157 : decode b_Mo_fillWide 157 = .ok (.ladd, 1) := by decide +kernel
theorem d_Mo_fillWide_158 : decode b_Mo_fillWide 158 = .ok (.lload 7, 2) := by decide +kernel
theorem d_Mo_fillWide_160 : decode b_Mo_fillWide 160 = .ok (.lload 23, 2) := by decide +kernel
theorem d_Mo_fillWide_162 : decode b_Mo_fillWide 162 = .ok (.lmul, 1) := by decide +kernel
theorem d_Mo_fillWide_163 : decode b_Mo_fillWide 163 = .ok (.ladd, 1) := by decide +kernel
theorem d_Mo_fillWide_164 : decode b_Mo_fillWide 164 = .ok (.lload 9, 2) := by decide +kernel
theorem d_Mo_fillWide_166 : decode b_Mo_fillWide 166 = .ok (.lload 21, 2) := by decide +kernel
theorem d_Mo_fillWide_168 : decode b_Mo_fillWide 168 = .ok (.lmul, 1) := by decide +kernel
theorem d_Mo_fillWide_169 : decode b_Mo_fillWide 169 = .ok (.ladd, 1) := by decide +kernel
theorem d_Mo_fillWide_170 : decode b_Mo_fillWide 170 = .ok (.lastore, 1) := by decide +kernel
theorem d_Mo_fillWide_171 : decode b_Mo_fillWide 171 = .ok (.aload_n 0, 1) := by decide +kernel
theorem d_Mo_fillWide_172 : decode b_Mo_fillWide 172 = .ok (.getfield 29, 3) := by decide +kernel
theorem d_Mo_fillWide_175 : decode b_Mo_fillWide 175 = .ok (.iconst 4, 1) := by decide +kernel
theorem d_Mo_fillWide_176 : decode b_Mo_fillWide 176 = .ok (.lload_n 3, 1) := by decide +kernel
theorem d_Mo_fillWide_177 : decode b_Mo_fillWide 177 = .ok (.lload 29, 2) := by decide +kernel
theorem d_Mo_fillWide_179 : decode b_Mo_fillWide 179 = .ok (.lmul, 1) := by decide +kernel
theorem d_Mo_fillWide_180 : decode b_Mo_fillWide 180 = .ok (.lload 5, 2) := by decide +kernel
theorem d_Mo_fillWide_182 : decode b_Mo_fillWide 182 = .ok (.lload 27, 2) := by decide +kernel
theorem d_Mo_fillWide_184 : decode b_Mo_fillWide 184 = .ok (.lmul, 1) := by decide +kernel
theorem d_Mo_fillWide_185 : decode b_Mo_fillWide 185 = .ok (.ladd, 1) := by decide +kernel
theorem d_Mo_fillWide_186 : decode b_Mo_fillWide 186 = .ok (.lload 7, 2) := by decide +kernel
theorem d_Mo_fillWide_188 : decode b_Mo_fillWide 188 = .ok (.lload 25, 2) := by decide +kernel
theorem d_Mo_fillWide_190 : decode b_Mo_fillWide 190 = .ok (.lmul, 1) := by decide +kernel
theorem d_Mo_fillWide_191 : decode b_Mo_fillWide 191 = .ok (.ladd, 1) := by decide +kernel
theorem d_Mo_fillWide_192 : decode b_Mo_fillWide 192 = .ok (.lload 9, 2) := by decide +kernel
theorem d_Mo_fillWide_194 : decode b_Mo_fillWide 194 = .ok (.lload 23, 2) := by decide +kernel
theorem d_Mo_fillWide_196 : decode b_Mo_fillWide 196 = .ok (.lmul, 1) := by decide +kernel
theorem d_Mo_fillWide_197 : decode b_Mo_fillWide 197 = .ok (.ladd, 1) := by decide +kernel
theorem d_Mo_fillWide_198 : decode b_Mo_fillWide 198 = .ok (.lload 11, 2) := by decide +kernel
theorem d_Mo_fillWide_200 : decode b_Mo_fillWide 200 = .ok (.lload 21, 2) := by decide +kernel
theorem d_Mo_fillWide_202 : decode b_Mo_fillWide 202 = .ok (.lmul, 1) := by decide +kernel
theorem d_Mo_fillWide_203 : decode b_Mo_fillWide 203 = .ok (.ladd, 1) := by decide +kernel
theorem d_Mo_fillWide_204 : decode b_Mo_fillWide 204 = .ok (.lastore, 1) := by decide +kernel
theorem d_Mo_fillWide_205 : decode b_Mo_fillWide 205 = .ok (.aload_n 0, 1) := by decide +kernel
theorem d_Mo_fillWide_206 : decode b_Mo_fillWide 206 = .ok (.getfield 29, 3) := by decide +kernel
theorem d_Mo_fillWide_209 : decode b_Mo_fillWide 209 = .ok (.iconst 5, 1) := by decide +kernel
theorem d_Mo_fillWide_210 : decode b_Mo_fillWide 210 = .ok (.lload_n 3, 1) := by decide +kernel
theorem d_Mo_fillWide_211 : decode b_Mo_fillWide 211 = .ok (.lload 31, 2) := by decide +kernel
theorem d_Mo_fillWide_213 : decode b_Mo_fillWide 213 = .ok (.lmul, 1) := by decide +kernel
theorem d_Mo_fillWide_214 : decode b_Mo_fillWide 214 = .ok (.lload 5, 2) := by decide +kernel
theorem d_Mo_fillWide_216 : decode b_Mo_fillWide 216 = .ok (.lload 29, 2) := by decide +kernel
theorem d_Mo_fillWide_218 : decode b_Mo_fillWide 218 = .ok (.lmul, 1) := by decide +kernel
theorem d_Mo_fillWide_219 : decode b_Mo_fillWide 219 = .ok (.ladd, 1) := by decide +kernel
theorem d_Mo_fillWide_220 : decode b_Mo_fillWide 220 = .ok (.lload 7, 2) := by decide +kernel
theorem d_Mo_fillWide_222 : decode b_Mo_fillWide 222 = .ok (.lload 27, 2) := by decide +kernel
theorem d_Mo_fillWide_224 : decode b_Mo_fillWide 224 = .ok (.lmul, 1) := by decide +kernel
theorem d_Mo_fillWide_225 : decode b_Mo_fillWide 225 = .ok (.ladd, 1) := by decide +kernel
theorem d_Mo_fillWide_226 : decode b_Mo_fillWide 226 = .ok (.lload 9, 2) := by decide +kernel
theorem d_Mo_fillWide_228 : decode b_Mo_fillWide 228 = .ok (.lload 25, 2) := by decide +kernel
theorem d_Mo_fillWide_230 : decode b_Mo_fillWide 230 = .ok (.lmul, 1) := by decide +kernel
theorem d_Mo_fillWide_231 : decode b_Mo_fillWide 231 = .ok (.ladd, 1) := by decide +kernel
theorem d_Mo_fillWide_232 : decode b_Mo_fillWide 232 = .ok (.lload 11, 2) := by decide +kernel
theorem d_Mo_fillWide_234 : decode b_Mo_fillWide 234 = .ok (.lload 23, 2) := by decide +kernel
theorem d_Mo_fillWide_236 : decode b_Mo_fillWide 236 = .ok (.lmul, 1) := by decide +kernel
theorem d_Mo_fillWide_237 : decode b_Mo_fillWide 237 = .ok (.ladd, 1) := by decide +kernel
theorem d_Mo_fillWide_238 : decode b_Mo_fillWide 238 = .ok (.lload 13, 2) := by decide +kernel
theorem d_Mo_fillWide_240 : decode b_Mo_fillWide 240 = .ok (.lload 21, 2) := by decide +kernel
theorem d_Mo_fillWide_242 : decode b_Mo_fillWide 242 = .ok (.lmul, 1) := by decide +kernel
theorem d_Mo_fillWide_243 : decode b_Mo_fillWide 243 = .ok (.ladd, 1) := by decide +kernel
theorem d_Mo_fillWide_244 : decode b_Mo_fillWide 244 = .ok (.lastore, 1) := by decide +kernel
theorem d_Mo_fillWide_245 : decode b_Mo_fillWide 245 = .ok (.aload_n 0, 1) := by decide +kernel
theorem d_Mo_fillWide_246 : decode b_Mo_fillWide 246 = .ok (.getfield 29, 3) := by decide +kernel
theorem d_Mo_fillWide_249 : decode b_Mo_fillWide 249 = .ok (.bipush 6, 2) := by decide +kernel
theorem d_Mo_fillWide_251 : decode b_Mo_fillWide 251 = .ok (.lload_n 3, 1) := by decide +kernel
theorem d_Mo_fillWide_252 : decode b_Mo_fillWide 252 = .ok (.lload 33, 2) := by decide +kernel
theorem d_Mo_fillWide_254 : decode b_Mo_fillWide 254 = .ok (.lmul, 1) := by decide +kernel
theorem d_Mo_fillWide_255 : decode b_Mo_fillWide 255 = .ok (.lload 5, 2) := by decide +kernel
theorem d_Mo_fillWide_257 : decode b_Mo_fillWide 257 = .ok (.lload 31, 2) := by decide +kernel
theorem d_Mo_fillWide_259 : decode b_Mo_fillWide 259 = .ok (.lmul, 1) := by decide +kernel
theorem d_Mo_fillWide_260 : decode b_Mo_fillWide 260 = .ok (.ladd, 1) := by decide +kernel
theorem d_Mo_fillWide_261 : decode b_Mo_fillWide 261 = .ok (.lload 7, 2) := by decide +kernel
theorem d_Mo_fillWide_263 : decode b_Mo_fillWide 263 = .ok (.lload 29, 2) := by decide +kernel
theorem d_Mo_fillWide_265 : decode b_Mo_fillWide 265 = .ok (.lmul, 1) := by decide +kernel
theorem d_Mo_fillWide_266 : decode b_Mo_fillWide 266 = .ok (.ladd, 1) := by decide +kernel
theorem d_Mo_fillWide_267 : decode b_Mo_fillWide 267 = .ok (.lload 9, 2) := by decide +kernel
theorem d_Mo_fillWide_269 : decode b_Mo_fillWide 269 = .ok (.lload 27, 2) := by decide +kernel
theorem d_Mo_fillWide_271 : decode b_Mo_fillWide 271 = .ok (.lmul, 1) := by decide +kernel
theorem d_Mo_fillWide_272 : decode b_Mo_fillWide 272 = .ok (.ladd, 1) := by decide +kernel
theorem d_Mo_fillWide_273 : decode b_Mo_fillWide 273 = .ok (.lload 11, 2) := by decide +kernel
theorem d_Mo_fillWide_275 : decode b_Mo_fillWide 275 = .ok (.lload 25, 2) := by decide +kernel
theorem d_Mo_fillWide_277 : decode b_Mo_fillWide 277 = .ok (.lmul, 1) := by decide +kernel
theorem d_Mo_fillWide_278 : decode b_Mo_fillWide 278 = .ok (.ladd, 1) := by decide +kernel
theorem d_Mo_fillWide_279 : decode b_Mo_fillWide 279 = .ok (.lload 13, 2) := by decide +kernel
theorem d_Mo_fillWide_281 : decode b_Mo_fillWide 281 = .ok (.lload 23, 2) := by decide +kernel
theorem d_Mo_fillWide_283 : decode b_Mo_fillWide 283 = .ok (.lmul, 1) := by decide +kernel
theorem d_Mo_fillWide_284 : decode b_Mo_fillWide 284 = .ok (.ladd, 1) := by decide +kernel
theorem d_Mo_fillWide_285 : decode b_Mo_fillWide 285 = .ok (.lload 15, 2) := by decide +kernel
theorem d_Mo_fillWide_287 : decode b_Mo_fillWide 287 = .ok (.lload 21, 2) := by decide +kernel
theorem d_Mo_fillWide_289 : decode b_Mo_fillWide 289 = .ok (.lmul, 1) := by decide +kernel
theorem d_Mo_fillWide_290 : decode b_Mo_fillWide 290 = .ok (.ladd, 1) := by decide +kernel
theorem d_Mo_fillWide_291 : decode b_Mo_fillWide 291 = .ok (.lastore, 1) := by decide +kernel
theorem d_Mo_fillWide_292 : decode b_Mo_fillWide 292 = .ok (.aload_n 0, 1) := by decide +kernel
theorem d_Mo_fillWide_293 : decode b_Mo_fillWide 293 = .ok (.getfield 29, 3) := by decide +kernel
theorem d_Mo_fillWide_296 : decode b_Mo_fillWide 296 = .ok (.bipush 7, 2) := by decide +kernel
theorem d_Mo_fillWide_298 : decode b_Mo_fillWide 298 = .ok (.lload_n 3, 1) := by decide +kernel
theorem d_Mo_fillWide_299 : decode b_Mo_fillWide 299 = .ok (.lload 35, 2) := by decide +kernel
theorem d_Mo_fillWide_301 : decode b_Mo_fillWide 301 = .ok (.lmul, 1) := by decide +kernel
theorem d_Mo_fillWide_302 : decode b_Mo_fillWide 302 = .ok (.lload 5, 2) := by decide +kernel
theorem d_Mo_fillWide_304 : decode b_Mo_fillWide 304 = .ok (.lload 33, 2) := by decide +kernel
theorem d_Mo_fillWide_306 : decode b_Mo_fillWide 306 = .ok (.lmul, 1) := by decide +kernel
theorem d_Mo_fillWide_307 : decode b_Mo_fillWide 307 = .ok (.ladd, 1) := by decide +kernel
theorem d_Mo_fillWide_308 : decode b_Mo_fillWide 308 = .ok (.lload 7, 2) := by decide +kernel
theorem d_Mo_fillWide_310 : decode b_Mo_fillWide 310 = .ok (.lload 31, 2) := by decide +kernel
theorem d_Mo_fillWide_312 : decode b_Mo_fillWide 312 = .ok (.lmul, 1) := by decide +kernel
theorem d_Mo_fillWide_313 : decode b_Mo_fillWide 313 = .ok (.ladd, 1) := by decide +kernel
theorem d_Mo_fillWide_314 : decode b_Mo_fillWide 314 = .ok (.lload 9, 2) := by decide +kernel
theorem d_Mo_fillWide_316 : decode b_Mo_fillWide 316 = .ok (.lload 29, 2) := by decide +kernel
theorem d_Mo_fillWide_318 : decode b_Mo_fillWide 318 = .ok (.lmul, 1) := by decide +kernel
theorem d_Mo_fillWide_319 : decode b_Mo_fillWide 319 = .ok (.ladd, 1) := by decide +kernel
theorem d_Mo_fillWide_320 : decode b_Mo_fillWide 320 = .ok (.lload 11, 2) := by decide +kernel
theorem d_Mo_fillWide_322 : decode b_Mo_fillWide 322 = .ok (.lload 27, 2) := by decide +kernel
theorem d_Mo_fillWide_324 : decode b_Mo_fillWide 324 = .ok (.lmul, 1) := by decide +kernel
theorem d_Mo_fillWide_325 : decode b_Mo_fillWide 325 = .ok (.ladd, 1) := by decide +kernel
theorem d_Mo_fillWide_326 : decode b_Mo_fillWide 326 = .ok (.lload 13, 2) := by decide +kernel
theorem d_Mo_fillWide_328 : decode b_Mo_fillWide 328 = .ok (.lload 25, 2) := by decide +kernel
theorem d_Mo_fillWide_330 : decode b_Mo_fillWide 330 = .ok (.lmul, 1) := by decide +kernel
theorem d_Mo_fillWide_331 : decode b_Mo_fillWide 331 = .ok (.ladd, 1) := by decide +kernel
theorem d_Mo_fillWide_332 : decode b_Mo_fillWide 332 = .ok (.lload 15, 2) := by decide +kernel
theorem d_Mo_fillWide_334 : decode b_Mo_fillWide 334 = .ok (.lload 23, 2) := by decide +kernel
theorem d_Mo_fillWide_336 : decode b_Mo_fillWide 336 = .ok (.lmul, 1) := by decide +kernel
theorem d_Mo_fillWide_337 : decode b_Mo_fillWide 337 = .ok (.ladd, 1) := by decide +kernel
theorem d_Mo_fillWide_338 : decode b_Mo_fillWide 338 = .ok (.lload 17, 2) := by decide +kernel
theorem d_Mo_fillWide_340 : decode b_Mo_fillWide 340 = .ok (.lload 21, 2) := by decide +kernel
theorem d_Mo_fillWide_342 : decode b_Mo_fillWide 342 = .ok (.lmul, 1) := by decide +kernel
theorem d_Mo_fillWide_343 : decode b_Mo_fillWide 343 = .ok (.ladd, 1) := by decide +kernel
theorem d_Mo_fillWide_344 : decode b_Mo_fillWide 344 = .ok (.lastore, 1) := by decide +kernel
theorem d_Mo_fillWide_345 : decode b_Mo_fillWide 345 = .ok (.aload_n 0, 1) := by decide +kernel
theorem d_Mo_fillWide_346 : decode b_Mo_fillWide 346 = .ok (.getfield 29, 3) := by decide +kernel
theorem d_Mo_fillWide_349 : decode b_Mo_fillWide 349 = .ok (.bipush 8, 2) := by decide +kernel
theorem d_Mo_fillWide_351 : decode b_Mo_fillWide 351 = .ok (.lload_n 3, 1) := by decide +kernel
theorem d_Mo_fillWide_352 : decode b_Mo_fillWide 352 = .ok (.lload 37, 2) := by decide +kernel
theorem d_Mo_fillWide_354 : decode b_Mo_fillWide 354 = .ok (.lmul, 1) := by decide +kernel
theorem d_Mo_fillWide_355 : decode b_Mo_fillWide 355 = .ok (.lload 5, 2) := by decide +kernel
theorem d_Mo_fillWide_357 : decode b_Mo_fillWide 357 = .ok (.lload 35, 2) := by decide +kernel
theorem d_Mo_fillWide_359 : decode b_Mo_fillWide 359 = .ok (.lmul, 1) := by decide +kernel
theorem d_Mo_fillWide_360 : decode b_Mo_fillWide 360 = .ok (.ladd, 1) := by decide +kernel
theorem d_Mo_fillWide_361 : decode b_Mo_fillWide 361 = .ok (.lload 7, 2) := by decide +kernel
theorem d_Mo_fillWide_363 : decode b_Mo_fillWide 363 = .ok (.lload 33, 2) := by decide +kernel
theorem d_Mo_fillWide_365 : decode b_Mo_fillWide 365 = .ok (.lmul, 1) := by decide +kernel
theorem d_Mo_fillWide_366 : decode b_Mo_fillWide 366 = .ok (.ladd, 1) := by decide +kernel
theorem d_Mo_fillWide_367 : decode b_Mo_fillWide 367 = .ok (.lload 9, 2) := by decide +kernel
theorem d_Mo_fillWide_369 : decode b_Mo_fillWide 369 = .ok (.lload 31, 2) := by decide +kernel
theorem d_Mo_fillWide_371 : decode b_Mo_fillWide 371 = .ok (.lmul, 1) := by decide +kernel
theorem d_Mo_fillWide_372 : decode b_Mo_fillWide 372 = .ok (.ladd, 1) := by decide +kernel
theorem d_Mo_fillWide_373 : decode b_Mo_fillWide 373 = .ok (.lload 11, 2) := by decide +kernel
theorem d_Mo_fillWide_375 : decode b_Mo_fillWide 375 = .ok (.lload 29, 2) := by decide +kernel
theorem d_Mo_fillWide_377 : decode b_Mo_fillWide 377 = .ok (.lmul, 1) := by decide +kernel
theorem d_Mo_fillWide_378 : decode b_Mo_fillWide 378 = .ok (.ladd, 1) := by decide +kernel
theorem d_Mo_fillWide_379 : decode b_Mo_fillWide 379 = .ok (.lload 13, 2) := by decide +kernel
theorem d_Mo_fillWide_381 : decode b_Mo_fillWide 381 = .ok (.lload 27, 2) := by decide +kernel
theorem d_Mo_fillWide_383 : decode b_Mo_fillWide 383 = .ok (.lmul, 1) := by decide +kernel
theorem d_Mo_fillWide_384 : decode b_Mo_fillWide 384 = .ok (.ladd, 1) := by decide +kernel
theorem d_Mo_fillWide_385 : decode b_Mo_fillWide 385 = .ok (.lload 15, 2) := by decide +kernel
theorem d_Mo_fillWide_387 : decode b_Mo_fillWide 387 = .ok (.lload 25, 2) := by decide +kernel
theorem d_Mo_fillWide_389 : decode b_Mo_fillWide 389 = .ok (.lmul, 1) := by decide +kernel
theorem d_Mo_fillWide_390 : decode b_Mo_fillWide 390 = .ok (.ladd, 1) := by decide +kernel
theorem d_Mo_fillWide_391 : decode b_Mo_fillWide 391 = .ok (.lload 17, 2) := by decide +kernel
theorem d_Mo_fillWide_393 : decode b_Mo_fillWide 393 = .ok (.lload 23, 2) := by decide +kernel
theorem d_Mo_fillWide_395 : decode b_Mo_fillWide 395 = .ok (.lmul, 1) := by decide +kernel
theorem d_Mo_fillWide_396 : decode b_Mo_fillWide 396 = .ok (.ladd, 1) := by decide +kernel
theorem d_Mo_fillWide_397 : decode b_Mo_fillWide 397 = .ok (.lload 19, 2) := by decide +kernel
theorem d_Mo_fillWide_399 : decode b_Mo_fillWide 399 = .ok (.lload 21, 2) := by decide +kernel
theorem d_Mo_fillWide_401 : decode b_Mo_fillWide 401 = .ok (.lmul, 1) := by decide +kernel
theorem d_Mo_fillWide_402 : decode b_Mo_fillWide 402 = .ok (.ladd, 1) := by decide +kernel
theorem d_Mo_fillWide_403 : decode b_Mo_fillWide 403 = .ok (.lastore, 1) := by decide +kernel
theorem d_Mo_fillWide_404 : decode b_Mo_fillWide 404 = .ok (.aload_n 0, 1) := by decide +kernel
theorem d_Mo_fillWide_405 : decode b_Mo_fillWide 405 = .ok (.getfield 29, 3) := by decide +kernel
theorem d_Mo_fillWide_408 : decode b_Mo_fillWide 408 = .ok (.bipush 9, 2) := by decide +kernel
theorem d_Mo_fillWide_410 : decode b_Mo_fillWide 410 = .ok (.lload 5, 2) := by decide +kernel
theorem d_Mo_fillWide_412 : decode b_Mo_fillWide 412 = .ok (.lload 37, 2) := by decide +kernel
theorem d_Mo_fillWide_414 : decode b_Mo_fillWide 414 = .ok (.lmul, 1) := by decide +kernel
theorem d_Mo_fillWide_415 : decode b_Mo_fillWide 415 = .ok (.lload 7, 2) := by decide +kernel
theorem d_Mo_fillWide_417 : decode b_Mo_fillWide 417 = .ok (.lload 35, 2) := by decide +kernel
theorem d_Mo_fillWide_419 : decode b_Mo_fillWide 419 = .ok (.lmul, 1) := by decide +kernel
theorem d_Mo_fillWide_420 : decode b_Mo_fillWide 420 = .ok (.ladd, 1) := by decide +kernel
theorem d_Mo_fillWide_421 : decode b_Mo_fillWide 421 = .ok (.lload 9, 2) := by decide +kernel
theorem d_Mo_fillWide_423 : decode b_Mo_fillWide 423 = .ok (.lload 33, 2) := by decide +kernel
theorem d_Mo_fillWide_425 : decode b_Mo_fillWide 425 = .ok (.lmul, 1) := by decide +kernel
theorem d_Mo_fillWide_426 : decode b_Mo_fillWide 426 = .ok (.ladd, 1) := by decide +kernel
theorem d_Mo_fillWide_427 : decode b_Mo_fillWide 427 = .ok (.lload 11, 2) := by decide +kernel
theorem d_Mo_fillWide_429 : decode b_Mo_fillWide 429 = .ok (.lload 31, 2) := by decide +kernel
theorem d_Mo_fillWide_431 : decode b_Mo_fillWide 431 = .ok (.lmul, 1) := by decide +kernel
theorem d_Mo_fillWide_432 : decode b_Mo_fillWide 432 = .ok (.ladd, 1) := by decide +kernel
theorem d_Mo_fillWide_433 : decode b_Mo_fillWide 433 = .ok (.lload 13, 2) := by decide +kernel
theorem d_Mo_fillWide_435 : decode b_Mo_fillWide 435 = .ok (.lload 29, 2) := by decide +kernel
theorem d_Mo_fillWide_437 : decode b_Mo_fillWide 437 = .ok (.lmul, 1) := by decide +kernel
theorem d_Mo_fillWide_438 : decode b_Mo_fillWide 438 = .ok (.ladd, 1) := by decide +kernel
theorem d_Mo_fillWide_439 : decode b_Mo_fillWide 439 = .ok (.lload 15, 2) := by decide +kernel
theorem d_Mo_fillWide_441 : decode b_Mo_fillWide 441 = .ok (.lload 27, 2) := by decide +kernel
theorem d_Mo_fillWide_443 : decode b_Mo_fillWide 443 = .ok (.lmul, 1) := by decide +kernel
theorem d_Mo_fillWide_444 : decode b_Mo_fillWide 444 = .ok (.ladd, 1) := by decide +kernel
theorem d_Mo_fillWide_445 : decode b_Mo_fillWide 445 = .ok (.lload 17, 2) := by decide +kernel
theorem d_Mo_fillWide_447 : decode b_Mo_fillWide 447 = .ok (.lload 25, 2) := by decide +kernel
theorem d_Mo_fillWide_449 : decode b_Mo_fillWide 449 = .ok (.lmul, 1) := by decide +kernel
theorem d_Mo_fillWide_450 : decode b_Mo_fillWide 450 = .ok (.ladd, 1) := by decide +kernel
theorem d_Mo_fillWide_451 : decode b_Mo_fillWide 451 = .ok (.lload 19, 2) := by decide +kernel
theorem d_Mo_fillWide_453 : decode b_Mo_fillWide 453 = .ok (.lload 23, 2) := by decide +kernel
theorem d_Mo_fillWide_455 : decode b_Mo_fillWide 455 = .ok (.lmul, 1) := by decide +kernel
theorem d_Mo_fillWide_456 : decode b_Mo_fillWide 456 = .ok (.ladd, 1) := by decide +kernel
theorem d_Mo_fillWide_457 : decode b_Mo_fillWide 457 = .ok (.lastore, 1) := by decide +kernel
theorem d_Mo_fillWide_458 : decode b_Mo_fillWide 458 = .ok (.aload_n 0, 1) := by decide +kernel
theorem d_Mo_fillWide_459 : decode b_Mo_fillWide 459 = .ok (.getfield 29, 3) := by decide +kernel
theorem d_Mo_fillWide_462 : decode b_Mo_fillWide 462 = .ok (.bipush 10, 2) := by decide +kernel
theorem d_Mo_fillWide_464 : decode b_Mo_fillWide 464 = .ok (.lload 7, 2) := by decide +kernel
theorem d_Mo_fillWide_466 : decode b_Mo_fillWide 466 = .ok (.lload 37, 2) := by decide +kernel
theorem d_Mo_fillWide_468 : decode b_Mo_fillWide 468 = .ok (.lmul, 1) := by decide +kernel
theorem d_Mo_fillWide_469 : decode b_Mo_fillWide 469 = .ok (.lload 9, 2) := by decide +kernel
theorem d_Mo_fillWide_471 : decode b_Mo_fillWide 471 = .ok (.lload 35, 2) := by decide +kernel
theorem d_Mo_fillWide_473 : decode b_Mo_fillWide 473 = .ok (.lmul, 1) := by decide +kernel
theorem d_Mo_fillWide_474 : decode b_Mo_fillWide 474 = .ok (.ladd, 1) := by decide +kernel
theorem d_Mo_fillWide_475 : decode b_Mo_fillWide 475 = .ok (.lload 11, 2) := by decide +kernel
theorem d_Mo_fillWide_477 : decode b_Mo_fillWide 477 = .ok (.lload 33, 2) := by decide +kernel
theorem d_Mo_fillWide_479 : decode b_Mo_fillWide 479 = .ok (.lmul, 1) := by decide +kernel
theorem d_Mo_fillWide_480 : decode b_Mo_fillWide 480 = .ok (.ladd, 1) := by decide +kernel
theorem d_Mo_fillWide_481 : decode b_Mo_fillWide 481 = .ok (.lload 13, 2) := by decide +kernel
theorem d_Mo_fillWide_483 : decode b_Mo_fillWide 483 = .ok (.lload 31, 2) := by decide +kernel
theorem d_Mo_fillWide_485 : decode b_Mo_fillWide 485 = .ok (.lmul, 1) := by decide +kernel
theorem d_Mo_fillWide_486 : decode b_Mo_fillWide 486 = .ok (.ladd, 1) := by decide +kernel
theorem d_Mo_fillWide_487 : decode b_Mo_fillWide 487 = .ok (.lload 15, 2) := by decide +kernel
theorem d_Mo_fillWide_489 : decode b_Mo_fillWide 489 = .ok (.lload 29, 2) := by decide +kernel
theorem d_Mo_fillWide_491 : decode b_Mo_fillWide 491 = .ok (.lmul, 1) := by decide +kernel
theorem d_Mo_fillWide_492 : decode b_Mo_fillWide 492 = .ok (.ladd, 1) := by decide +kernel
theorem d_Mo_fillWide_493 : decode b_Mo_fillWide 493 = .ok (.lload 17, 2) := by decide +kernel
theorem d_Mo_fillWide_495 : decode b_Mo_fillWide 495 = .ok (.lload 27, 2) := by decide +kernel
theorem d_Mo_fillWide_497 : decode b_Mo_fillWide 497 = .ok (.lmul, 1) := by decide +kernel
theorem d_Mo_fillWide_498 : decode b_Mo_fillWide 498 = .ok (.ladd, 1) := by decide +kernel
theorem d_Mo_fillWide_499 : decode b_Mo_fillWide 499 = .ok (.lload 19, 2) := by decide +kernel
theorem d_Mo_fillWide_501 : decode b_Mo_fillWide 501 = .ok (.lload 25, 2) := by decide +kernel
theorem d_Mo_fillWide_503 : decode b_Mo_fillWide 503 = .ok (.lmul, 1) := by decide +kernel
theorem d_Mo_fillWide_504 : decode b_Mo_fillWide 504 = .ok (.ladd, 1) := by decide +kernel
theorem d_Mo_fillWide_505 : decode b_Mo_fillWide 505 = .ok (.lastore, 1) := by decide +kernel
theorem d_Mo_fillWide_506 : decode b_Mo_fillWide 506 = .ok (.aload_n 0, 1) := by decide +kernel
theorem d_Mo_fillWide_507 : decode b_Mo_fillWide 507 = .ok (.getfield 29, 3) := by decide +kernel
theorem d_Mo_fillWide_510 : decode b_Mo_fillWide 510 = .ok (.bipush 11, 2) := by decide +kernel
theorem d_Mo_fillWide_512 : decode b_Mo_fillWide 512 = .ok (.lload 9, 2) := by decide +kernel
theorem d_Mo_fillWide_514 : decode b_Mo_fillWide 514 = .ok (.lload 37, 2) := by decide +kernel
theorem d_Mo_fillWide_516 : decode b_Mo_fillWide 516 = .ok (.lmul, 1) := by decide +kernel
theorem d_Mo_fillWide_517 : decode b_Mo_fillWide 517 = .ok (.lload 11, 2) := by decide +kernel
theorem d_Mo_fillWide_519 : decode b_Mo_fillWide 519 = .ok (.lload 35, 2) := by decide +kernel
theorem d_Mo_fillWide_521 : decode b_Mo_fillWide 521 = .ok (.lmul, 1) := by decide +kernel
theorem d_Mo_fillWide_522 : decode b_Mo_fillWide 522 = .ok (.ladd, 1) := by decide +kernel
theorem d_Mo_fillWide_523 : decode b_Mo_fillWide 523 = .ok (.lload 13, 2) := by decide +kernel
theorem d_Mo_fillWide_525 : decode b_Mo_fillWide 525 = .ok (.lload 33, 2) := by decide +kernel
theorem d_Mo_fillWide_527 : decode b_Mo_fillWide 527 = .ok (.lmul, 1) := by decide +kernel
theorem d_Mo_fillWide_528 : decode b_Mo_fillWide 528 = .ok (.ladd, 1) := by decide +kernel
theorem d_Mo_fillWide_529 : decode b_Mo_fillWide 529 = .ok (.lload 15, 2) := by decide +kernel
theorem d_Mo_fillWide_531 : decode b_Mo_fillWide 531 = .ok (.lload 31, 2) := by decide +kernel
theorem d_Mo_fillWide_533 : decode b_Mo_fillWide 533 = .ok (.lmul, 1) := by decide +kernel
theorem d_Mo_fillWide_534 : decode b_Mo_fillWide 534 = .ok (.ladd, 1) := by decide +kernel
theorem d_Mo_fillWide_535 : decode b_Mo_fillWide 535 = .ok (.lload 17, 2) := by decide +kernel
theorem d_Mo_fillWide_537 : decode b_Mo_fillWide 537 = .ok (.lload 29, 2) := by decide +kernel
theorem d_Mo_fillWide_539 : decode b_Mo_fillWide 539 = .ok (.lmul, 1) := by decide +kernel
theorem d_Mo_fillWide_540 : decode b_Mo_fillWide 540 = .ok (.ladd, 1) := by decide +kernel
theorem d_Mo_fillWide_541 : decode b_Mo_fillWide 541 = .ok (.lload 19, 2) := by decide +kernel
theorem d_Mo_fillWide_543 : decode b_Mo_fillWide 543 = .ok (.lload 27, 2) := by decide +kernel
theorem d_Mo_fillWide_545 : decode b_Mo_fillWide 545 = .ok (.lmul, 1) := by decide +kernel
theorem d_Mo_fillWide_546 : decode b_Mo_fillWide 546 = .ok (.ladd, 1) := by decide +kernel
theorem d_Mo_fillWide_547 : decode b_Mo_fillWide 547 = .ok (.lastore, 1) := by decide +kernel
theorem d_Mo_fillWide_548 : decode b_Mo_fillWide 548 = .ok (.aload_n 0, 1) := by decide +kernel
theorem d_Mo_fillWide_549 : decode b_Mo_fillWide 549 = .ok (.getfield 29, 3) := by decide +kernel
theorem d_Mo_fillWide_552 : decode b_Mo_fillWide 552 = .ok (.bipush 12, 2) := by decide +kernel
theorem d_Mo_fillWide_554 : decode b_Mo_fillWide 554 = .ok (.lload 11, 2) := by decide +kernel
theorem d_Mo_fillWide_556 : decode b_Mo_fillWide 556 = .ok (.lload 37, 2) := by decide +kernel
theorem d_Mo_fillWide_558 : decode b_Mo_fillWide 558 = .ok (.lmul, 1) := by decide +kernel
theorem d_Mo_fillWide_559 : decode b_Mo_fillWide 559 = .ok (.lload 13, 2) := by decide +kernel
theorem d_Mo_fillWide_561 : decode b_Mo_fillWide 561 = .ok (.lload 35, 2) := by decide +kernel
theorem d_Mo_fillWide_563 : decode b_Mo_fillWide 563 = .ok (.lmul, 1) := by decide +kernel
theorem d_Mo_fillWide_564 : decode b_Mo_fillWide 564 = .ok (.ladd, 1) := by decide +kernel
theorem d_Mo_fillWide_565 : decode b_Mo_fillWide 565 = .ok (.lload 15, 2) := by decide +kernel
theorem d_Mo_fillWide_567 : decode b_Mo_fillWide 567 = .ok (.lload 33, 2) := by decide +kernel
theorem d_Mo_fillWide_569 : decode b_Mo_fillWide 569 = .ok (.lmul, 1) := by decide +kernel
theorem d_Mo_fillWide_570 : decode b_Mo_fillWide 570 = .ok (.ladd, 1) := by decide +kernel
theorem d_Mo_fillWide_571 : decode b_Mo_fillWide 571 = .ok (.lload 17, 2) := by decide +kernel
theorem d_Mo_fillWide_573 : decode b_Mo_fillWide 573 = .ok (.lload 31, 2) := by decide +kernel
theorem d_Mo_fillWide_575 : decode b_Mo_fillWide 575 = .ok (.lmul, 1) := by decide +kernel
theorem d_Mo_fillWide_576 : decode b_Mo_fillWide 576 = .ok (.ladd, 1) := by decide +kernel
theorem d_Mo_fillWide_577 : decode b_Mo_fillWide 577 = .ok (.lload 19, 2) := by decide +kernel
theorem d_Mo_fillWide_579 : decode b_Mo_fillWide 579 = .ok (.lload 29, 2) := by decide +kernel
theorem d_Mo_fillWide_581 : decode b_Mo_fillWide 581 = .ok (.lmul, 1) := by decide +kernel
theorem d_Mo_fillWide_582 : decode b_Mo_fillWide 582 = .ok (.ladd, 1) := by decide +kernel
theorem d_Mo_fillWide_583 : decode b_Mo_fillWide 583 = .ok (.lastore, 1) := by decide +kernel
theorem d_Mo_fillWide_584 : decode b_Mo_fillWide 584 = .ok (.aload_n 0, 1) := by decide +kernel
theorem d_Mo_fillWide_585 : decode b_Mo_fillWide 585 = .ok (.getfield 29, 3) := by decide +kernel
theorem d_Mo_fillWide_588 : decode b_Mo_fillWide 588 = .ok (.bipush 13, 2) := by decide +kernel
theorem d_Mo_fillWide_590 : decode b_Mo_fillWide 590 = .ok (.lload 13, 2) := by decide +kernel
theorem d_Mo_fillWide_592 : decode b_Mo_fillWide 592 = .ok (.lload 37, 2) := by decide +kernel
theorem d_Mo_fillWide_594 : decode b_Mo_fillWide 594 = .ok (.lmul, 1) := by decide +kernel
theorem d_Mo_fillWide_595 : decode b_Mo_fillWide 595 = .ok (.lload 15, 2) := by decide +kernel
theorem d_Mo_fillWide_597 : decode b_Mo_fillWide 597 = .ok (.lload 35, 2) := by decide +kernel
theorem d_Mo_fillWide_599 : decode b_Mo_fillWide 599 = .ok (.lmul, 1) := by decide +kernel
theorem d_Mo_fillWide_600 : decode b_Mo_fillWide 600 = .ok (.ladd, 1) := by decide +kernel
theorem d_Mo_fillWide_601 : decode b_Mo_fillWide 601 = .ok (.lload 17, 2) := by decide +kernel
theorem d_Mo_fillWide_603 : decode b_Mo_fillWide 603 = .ok (.lload 33, 2) := by decide +kernel
theorem d_Mo_fillWide_605 : decode b_Mo_fillWide 605 = .ok (.lmul, 1) := by decide +kernel
theorem d_Mo_fillWide_606 : decode b_Mo_fillWide 606 = .ok (.ladd, 1) := by decide +kernel
theorem d_Mo_fillWide_607 : decode b_Mo_fillWide 607 = .ok (.lload 19, 2) := by decide +kernel
theorem d_Mo_fillWide_609 : decode b_Mo_fillWide 609 = .ok (.lload 31, 2) := by decide +kernel
theorem d_Mo_fillWide_611 : decode b_Mo_fillWide 611 = .ok (.lmul, 1) := by decide +kernel
theorem d_Mo_fillWide_612 : decode b_Mo_fillWide 612 = .ok (.ladd, 1) := by decide +kernel
theorem d_Mo_fillWide_613 : decode b_Mo_fillWide 613 = .ok (.lastore, 1) := by decide +kernel
theorem d_Mo_fillWide_614 : decode b_Mo_fillWide 614 = .ok (.aload_n 0, 1) := by decide +kernel
theorem d_Mo_fillWide_615 : decode b_Mo_fillWide 615 = .ok (.getfield 29, 3) := by decide +kernel
theorem d_Mo_fillWide_618 : decode b_Mo_fillWide 618 = .ok (.bipush 14, 2) := by decide +kernel
theorem d_Mo_fillWide_620 : decode b_Mo_fillWide 620 = .ok (.lload 15, 2) := by decide +kernel
theorem d_Mo_fillWide_622 : decode b_Mo_fillWide 622 = .ok (.lload 37, 2) := by decide +kernel
theorem d_Mo_fillWide_624 : decode b_Mo_fillWide 624 = .ok (.lmul, 1) := by decide +kernel
theorem d_Mo_fillWide_625 : decode b_Mo_fillWide 625 = .ok (.lload 17, 2) := by decide +kernel
theorem d_Mo_fillWide_627 : decode b_Mo_fillWide 627 = .ok (.lload 35, 2) := by decide +kernel
theorem d_Mo_fillWide_629 : decode b_Mo_fillWide 629 = .ok (.lmul, 1) := by decide +kernel
theorem d_Mo_fillWide_630 : decode b_Mo_fillWide 630 = .ok (.ladd, 1) := by decide +kernel
theorem d_Mo_fillWide_631 : decode b_Mo_fillWide 631 = .ok (.lload 19, 2) := by decide +kernel
theorem d_Mo_fillWide_633 : decode b_Mo_fillWide 633 = .ok (.lload 33, 2) := by decide +kernel
theorem d_Mo_fillWide_635 : decode b_Mo_fillWide 635 = .ok (.lmul, 1) := by decide +kernel
theorem d_Mo_fillWide_636 : decode b_Mo_fillWide 636 = .ok (.ladd, 1) := by decide +kernel
theorem d_Mo_fillWide_637 : decode b_Mo_fillWide 637 = .ok (.lastore, 1) := by decide +kernel
theorem d_Mo_fillWide_638 : decode b_Mo_fillWide 638 = .ok (.aload_n 0, 1) := by decide +kernel
theorem d_Mo_fillWide_639 : decode b_Mo_fillWide 639 = .ok (.getfield 29, 3) := by decide +kernel
theorem d_Mo_fillWide_642 : decode b_Mo_fillWide 642 = .ok (.bipush 15, 2) := by decide +kernel
theorem d_Mo_fillWide_644 : decode b_Mo_fillWide 644 = .ok (.lload 17, 2) := by decide +kernel
theorem d_Mo_fillWide_646 : decode b_Mo_fillWide 646 = .ok (.lload 37, 2) := by decide +kernel
theorem d_Mo_fillWide_648 : decode b_Mo_fillWide 648 = .ok (.lmul, 1) := by decide +kernel
theorem d_Mo_fillWide_649 : decode b_Mo_fillWide 649 = .ok (.lload 19, 2) := by decide +kernel
theorem d_Mo_fillWide_651 : decode b_Mo_fillWide 651 = .ok (.lload 35, 2) := by decide +kernel
theorem d_Mo_fillWide_653 : decode b_Mo_fillWide 653 = .ok (.lmul, 1) := by decide +kernel
theorem d_Mo_fillWide_654 : decode b_Mo_fillWide 654 = .ok (.ladd, 1) := by decide +kernel
theorem d_Mo_fillWide_655 : decode b_Mo_fillWide 655 = .ok (.lastore, 1) := by decide +kernel
theorem d_Mo_fillWide_656 : decode b_Mo_fillWide 656 = .ok (.aload_n 0, 1) := by decide +kernel
theorem d_Mo_fillWide_657 : decode b_Mo_fillWide 657 = .ok (.getfield 29, 3) := by decide +kernel
theorem d_Mo_fillWide_660 : decode b_Mo_fillWide 660 = .ok (.bipush 16, 2) := by decide +kernel
theorem d_Mo_fillWide_662 : decode b_Mo_fillWide 662 = .ok (.lload 19, 2) := by decide +kernel
theorem d_Mo_fillWide_664 : decode b_Mo_fillWide 664 = .ok (.lload 37, 2) := by decide +kernel
theorem d_Mo_fillWide_666 : decode b_Mo_fillWide 666 = .ok (.lmul, 1) := by decide +kernel
theorem d_Mo_fillWide_667 : decode b_Mo_fillWide 667 = .ok (.lastore, 1) := by decide +kernel
theorem d_Mo_fillWide_668 : decode b_Mo_fillWide 668 = .ok (.return_, 1) := by decide +kernel
theorem fl_Mo_29 : FL "PrimeKeys$Modulus" 29 1 6 := ⟨R_Mo, F_Mo, 9, rfl, u_Mo, by decide, rfl, tb_1 (List.mem_of_getElem? (i := 110) (by decide +kernel)) rfl⟩
abbrev rm_Mo_fillWide : Room := { frames := 0, cells := 0, slots := 0, locals := 0 }
def P_Mo_fillWide (h : HP) (p0 : Nat) (p1 : Nat) (p2 : Nat) : Option (HP) :=
  bnd (ldJ h p1 0) fun v1 =>
  bnd (ldJ h p1 1) fun v2 =>
  bnd (ldJ h p1 2) fun v3 =>
  bnd (ldJ h p1 3) fun v4 =>
  bnd (ldJ h p1 4) fun v5 =>
  bnd (ldJ h p1 5) fun v6 =>
  bnd (ldJ h p1 6) fun v7 =>
  bnd (ldJ h p1 7) fun v8 =>
  bnd (ldJ h p1 8) fun v9 =>
  bnd (ldJ h p2 0) fun v10 =>
  bnd (ldJ h p2 1) fun v11 =>
  bnd (ldJ h p2 2) fun v12 =>
  bnd (ldJ h p2 3) fun v13 =>
  bnd (ldJ h p2 4) fun v14 =>
  bnd (ldJ h p2 5) fun v15 =>
  bnd (ldJ h p2 6) fun v16 =>
  bnd (ldJ h p2 7) fun v17 =>
  bnd (ldJ h p2 8) fun v18 =>
  bnd (gR h p0 1 6) fun k19 =>
  bnd (stJ h k19 0 (v1 * v10)) fun h20 =>
  bnd (gR h20 p0 1 6) fun k21 =>
  bnd (stJ h20 k21 1 ((v1 * v11) + (v2 * v10))) fun h22 =>
  bnd (gR h22 p0 1 6) fun k23 =>
  bnd (stJ h22 k23 2 (((v1 * v12) + (v2 * v11)) + (v3 * v10))) fun h24 =>
  bnd (gR h24 p0 1 6) fun k25 =>
  bnd (stJ h24 k25 3 ((((v1 * v13) + (v2 * v12)) + (v3 * v11)) + (v4 * v10))) fun h26 =>
  bnd (gR h26 p0 1 6) fun k27 =>
  bnd (stJ h26 k27 4 (((((v1 * v14) + (v2 * v13)) + (v3 * v12)) + (v4 * v11)) + (v5 * v10))) fun h28 =>
  bnd (gR h28 p0 1 6) fun k29 =>
  bnd (stJ h28 k29 5 ((((((v1 * v15) + (v2 * v14)) + (v3 * v13)) + (v4 * v12)) + (v5 * v11)) + (v6 * v10))) fun h30 =>
  bnd (gR h30 p0 1 6) fun k31 =>
  bnd (stJ h30 k31 6 (((((((v1 * v16) + (v2 * v15)) + (v3 * v14)) + (v4 * v13)) + (v5 * v12)) + (v6 * v11)) + (v7 * v10))) fun h32 =>
  bnd (gR h32 p0 1 6) fun k33 =>
  bnd (stJ h32 k33 7 ((((((((v1 * v17) + (v2 * v16)) + (v3 * v15)) + (v4 * v14)) + (v5 * v13)) + (v6 * v12)) + (v7 * v11)) + (v8 * v10))) fun h34 =>
  bnd (gR h34 p0 1 6) fun k35 =>
  bnd (stJ h34 k35 8 (((((((((v1 * v18) + (v2 * v17)) + (v3 * v16)) + (v4 * v15)) + (v5 * v14)) + (v6 * v13)) + (v7 * v12)) + (v8 * v11)) + (v9 * v10))) fun h36 =>
  bnd (gR h36 p0 1 6) fun k37 =>
  bnd (stJ h36 k37 9 ((((((((v2 * v18) + (v3 * v17)) + (v4 * v16)) + (v5 * v15)) + (v6 * v14)) + (v7 * v13)) + (v8 * v12)) + (v9 * v11))) fun h38 =>
  bnd (gR h38 p0 1 6) fun k39 =>
  bnd (stJ h38 k39 10 (((((((v3 * v18) + (v4 * v17)) + (v5 * v16)) + (v6 * v15)) + (v7 * v14)) + (v8 * v13)) + (v9 * v12))) fun h40 =>
  bnd (gR h40 p0 1 6) fun k41 =>
  bnd (stJ h40 k41 11 ((((((v4 * v18) + (v5 * v17)) + (v6 * v16)) + (v7 * v15)) + (v8 * v14)) + (v9 * v13))) fun h42 =>
  bnd (gR h42 p0 1 6) fun k43 =>
  bnd (stJ h42 k43 12 (((((v5 * v18) + (v6 * v17)) + (v7 * v16)) + (v8 * v15)) + (v9 * v14))) fun h44 =>
  bnd (gR h44 p0 1 6) fun k45 =>
  bnd (stJ h44 k45 13 ((((v6 * v18) + (v7 * v17)) + (v8 * v16)) + (v9 * v15))) fun h46 =>
  bnd (gR h46 p0 1 6) fun k47 =>
  bnd (stJ h46 k47 14 (((v7 * v18) + (v8 * v17)) + (v9 * v16))) fun h48 =>
  bnd (gR h48 p0 1 6) fun k49 =>
  bnd (stJ h48 k49 15 ((v8 * v18) + (v9 * v17))) fun h50 =>
  bnd (gR h50 p0 1 6) fun k51 =>
  bnd (stJ h50 k51 16 (v9 * v18)) fun h52 =>
  some h52
set_option maxHeartbeats 4000000 in
set_option maxRecDepth 100000 in
theorem c_Mo_fillWide {l : Launch} {h h' : HP} {p0 p1 p2 : _} (hr : P_Mo_fillWide h p0 p1 p2 = some h') : MP l y_Mo_fillWide (Cond.code y_Mo_fillWide b_Mo_fillWide 39 none :: TB) rm_Mo_fillWide h [.ref p0, .ref p1, .ref p2] none h' := by
  refine MP_intro (cc := b_Mo_fillWide) (by decide) (Nat.le_of_ble_eq_true rfl) (fun x hl0 C T hin => ?_)
  unfold P_Mo_fillWide at hr
  show GG x 0 0 h 0 [(0, .ref p0), (1, .ref p1), (2, .ref p2)] []
  refine g_aload_n C 1 rfl d_Mo_fillWide_0 rfl ?_
  refine g_iconst (v := 0) C d_Mo_fillWide_1 (by decide) ?_
  obtain ⟨v1, ev1, hr⟩ := of_bnd hr
  refine g_laload C ev1 d_Mo_fillWide_2 ?_
  refine g_lstore_n (lv' := [(3, .long v1), (0, .ref p0), (1, .ref p1), (2, .ref p2)]) C d_Mo_fillWide_3 rfl (by decide) rfl ?_
  refine g_aload_n C 2 rfl d_Mo_fillWide_4 rfl ?_
  refine g_iconst (v := 1) C d_Mo_fillWide_5 (by decide) ?_
  obtain ⟨v2, ev2, hr⟩ := of_bnd hr
  refine g_laload C ev2 d_Mo_fillWide_6 ?_
  refine g_lstore (lv' := [(5, .long v2), (3, .long v1), (0, .ref p0), (1, .ref p1), (2, .ref p2)]) C d_Mo_fillWide_7 (by decide) rfl ?_
  refine g_aload_n C 3 rfl d_Mo_fillWide_9 rfl ?_
  refine g_iconst (v := 2) C d_Mo_fillWide_10 (by decide) ?_
  obtain ⟨v3, ev3, hr⟩ := of_bnd hr
  refine g_laload C ev3 d_Mo_fillWide_11 ?_
  refine g_lstore (lv' := [(7, .long v3), (5, .long v2), (3, .long v1), (0, .ref p0), (1, .ref p1), (2, .ref p2)]) C d_Mo_fillWide_12 (by decide) rfl ?_
  refine g_aload_n C 4 rfl d_Mo_fillWide_14 rfl ?_
  refine g_iconst (v := 3) C d_Mo_fillWide_15 (by decide) ?_
  obtain ⟨v4, ev4, hr⟩ := of_bnd hr
  refine g_laload C ev4 d_Mo_fillWide_16 ?_
  refine g_lstore (lv' := [(9, .long v4), (7, .long v3), (5, .long v2), (3, .long v1), (0, .ref p0), (1, .ref p1), (2, .ref p2)]) C d_Mo_fillWide_17 (by decide) rfl ?_
  refine g_aload_n C 5 rfl d_Mo_fillWide_19 rfl ?_
  refine g_iconst (v := 4) C d_Mo_fillWide_20 (by decide) ?_
  obtain ⟨v5, ev5, hr⟩ := of_bnd hr
  refine g_laload C ev5 d_Mo_fillWide_21 ?_
  refine g_lstore (lv' := [(11, .long v5), (9, .long v4), (7, .long v3), (5, .long v2), (3, .long v1), (0, .ref p0), (1, .ref p1), (2, .ref p2)]) C d_Mo_fillWide_22 (by decide) rfl ?_
  refine g_aload_n C 6 rfl d_Mo_fillWide_24 rfl ?_
  refine g_iconst (v := 5) C d_Mo_fillWide_25 (by decide) ?_
  obtain ⟨v6, ev6, hr⟩ := of_bnd hr
  refine g_laload C ev6 d_Mo_fillWide_26 ?_
  refine g_lstore (lv' := [(13, .long v6), (11, .long v5), (9, .long v4), (7, .long v3), (5, .long v2), (3, .long v1), (0, .ref p0), (1, .ref p1), (2, .ref p2)]) C d_Mo_fillWide_27 (by decide) rfl ?_
  refine g_aload_n C 7 rfl d_Mo_fillWide_29 rfl ?_
  refine g_bipush (v := 6) C d_Mo_fillWide_30 (by decide) ?_
  obtain ⟨v7, ev7, hr⟩ := of_bnd hr
  refine g_laload C ev7 d_Mo_fillWide_32 ?_
  refine g_lstore (lv' := [(15, .long v7), (13, .long v6), (11, .long v5), (9, .long v4), (7, .long v3), (5, .long v2), (3, .long v1), (0, .ref p0), (1, .ref p1), (2, .ref p2)]) C d_Mo_fillWide_33 (by decide) rfl ?_
  refine g_aload_n C 8 rfl d_Mo_fillWide_35 rfl ?_
  refine g_bipush (v := 7) C d_Mo_fillWide_36 (by decide) ?_
  obtain ⟨v8, ev8, hr⟩ := of_bnd hr
  refine g_laload C ev8 d_Mo_fillWide_38 ?_
  refine g_lstore (lv' := [(17, .long v8), (15, .long v7), (13, .long v6), (11, .long v5), (9, .long v4), (7, .long v3), (5, .long v2), (3, .long v1), (0, .ref p0), (1, .ref p1), (2, .ref p2)]) C d_Mo_fillWide_39 (by decide) rfl ?_
  refine g_aload_n C 9 rfl d_Mo_fillWide_41 rfl ?_
  refine g_bipush (v := 8) C d_Mo_fillWide_42 (by decide) ?_
  obtain ⟨v9, ev9, hr⟩ := of_bnd hr
  refine g_laload C ev9 d_Mo_fillWide_44 ?_
  refine g_lstore (lv' := [(19, .long v9), (17, .long v8), (15, .long v7), (13, .long v6), (11, .long v5), (9, .long v4), (7, .long v3), (5, .long v2), (3, .long v1), (0, .ref p0), (1, .ref p1), (2, .ref p2)]) C d_Mo_fillWide_45 (by decide) rfl ?_
  refine g_aload_n C 11 rfl d_Mo_fillWide_47 rfl ?_
  refine g_iconst (v := 0) C d_Mo_fillWide_48 (by decide) ?_
  obtain ⟨v10, ev10, hr⟩ := of_bnd hr
  refine g_laload C ev10 d_Mo_fillWide_49 ?_
  refine g_lstore (lv' := [(21, .long v10), (19, .long v9), (17, .long v8), (15, .long v7), (13, .long v6), (11, .long v5), (9, .long v4), (7, .long v3), (5, .long v2), (3, .long v1), (0, .ref p0), (1, .ref p1), (2, .ref p2)]) C d_Mo_fillWide_50 (by decide) rfl ?_
  refine g_aload_n C 12 rfl d_Mo_fillWide_52 rfl ?_
  refine g_iconst (v := 1) C d_Mo_fillWide_53 (by decide) ?_
  obtain ⟨v11, ev11, hr⟩ := of_bnd hr
  refine g_laload C ev11 d_Mo_fillWide_54 ?_
  refine g_lstore (lv' := [(23, .long v11), (21, .long v10), (19, .long v9), (17, .long v8), (15, .long v7), (13, .long v6), (11, .long v5), (9, .long v4), (7, .long v3), (5, .long v2), (3, .long v1), (0, .ref p0), (1, .ref p1), (2, .ref p2)]) C d_Mo_fillWide_55 (by decide) rfl ?_
  refine g_aload_n C 13 rfl d_Mo_fillWide_57 rfl ?_
  refine g_iconst (v := 2) C d_Mo_fillWide_58 (by decide) ?_
  obtain ⟨v12, ev12, hr⟩ := of_bnd hr
  refine g_laload C ev12 d_Mo_fillWide_59 ?_
  refine g_lstore (lv' := [(25, .long v12), (23, .long v11), (21, .long v10), (19, .long v9), (17, .long v8), (15, .long v7), (13, .long v6), (11, .long v5), (9, .long v4), (7, .long v3), (5, .long v2), (3, .long v1), (0, .ref p0), (1, .ref p1), (2, .ref p2)]) C d_Mo_fillWide_60 (by decide) rfl ?_
  refine g_aload_n C 14 rfl d_Mo_fillWide_62 rfl ?_
  refine g_iconst (v := 3) C d_Mo_fillWide_63 (by decide) ?_
  obtain ⟨v13, ev13, hr⟩ := of_bnd hr
  refine g_laload C ev13 d_Mo_fillWide_64 ?_
  refine g_lstore (lv' := [(27, .long v13), (25, .long v12), (23, .long v11), (21, .long v10), (19, .long v9), (17, .long v8), (15, .long v7), (13, .long v6), (11, .long v5), (9, .long v4), (7, .long v3), (5, .long v2), (3, .long v1), (0, .ref p0), (1, .ref p1), (2, .ref p2)]) C d_Mo_fillWide_65 (by decide) rfl ?_
  refine g_aload_n C 15 rfl d_Mo_fillWide_67 rfl ?_
  refine g_iconst (v := 4) C d_Mo_fillWide_68 (by decide) ?_
  obtain ⟨v14, ev14, hr⟩ := of_bnd hr
  refine g_laload C ev14 d_Mo_fillWide_69 ?_
  refine g_lstore (lv' := [(29, .long v14), (27, .long v13), (25, .long v12), (23, .long v11), (21, .long v10), (19, .long v9), (17, .long v8), (15, .long v7), (13, .long v6), (11, .long v5), (9, .long v4), (7, .long v3), (5, .long v2), (3, .long v1), (0, .ref p0), (1, .ref p1), (2, .ref p2)]) C d_Mo_fillWide_70 (by decide) rfl ?_
  refine g_aload_n C 16 rfl d_Mo_fillWide_72 rfl ?_
  refine g_iconst (v := 5) C d_Mo_fillWide_73 (by decide) ?_
  obtain ⟨v15, ev15, hr⟩ := of_bnd hr
  refine g_laload C ev15 d_Mo_fillWide_74 ?_
  refine g_lstore (lv' := [(31, .long v15), (29, .long v14), (27, .long v13), (25, .long v12), (23, .long v11), (21, .long v10), (19, .long v9), (17, .long v8), (15, .long v7), (13, .long v6), (11, .long v5), (9, .long v4), (7, .long v3), (5, .long v2), (3, .long v1), (0, .ref p0), (1, .ref p1), (2, .ref p2)]) C d_Mo_fillWide_75 (by decide) rfl ?_
  refine g_aload_n C 17 rfl d_Mo_fillWide_77 rfl ?_
  refine g_bipush (v := 6) C d_Mo_fillWide_78 (by decide) ?_
  obtain ⟨v16, ev16, hr⟩ := of_bnd hr
  refine g_laload C ev16 d_Mo_fillWide_80 ?_
  refine g_lstore (lv' := [(33, .long v16), (31, .long v15), (29, .long v14), (27, .long v13), (25, .long v12), (23, .long v11), (21, .long v10), (19, .long v9), (17, .long v8), (15, .long v7), (13, .long v6), (11, .long v5), (9, .long v4), (7, .long v3), (5, .long v2), (3, .long v1), (0, .ref p0), (1, .ref p1), (2, .ref p2)]) C d_Mo_fillWide_81 (by decide) rfl ?_
  refine g_aload_n C 18 rfl d_Mo_fillWide_83 rfl ?_
  refine g_bipush (v := 7) C d_Mo_fillWide_84 (by decide) ?_
  obtain ⟨v17, ev17, hr⟩ := of_bnd hr
  refine g_laload C ev17 d_Mo_fillWide_86 ?_
  refine g_lstore (lv' := [(35, .long v17), (33, .long v16), (31, .long v15), (29, .long v14), (27, .long v13), (25, .long v12), (23, .long v11), (21, .long v10), (19, .long v9), (17, .long v8), (15, .long v7), (13, .long v6), (11, .long v5), (9, .long v4), (7, .long v3), (5, .long v2), (3, .long v1), (0, .ref p0), (1, .ref p1), (2, .ref p2)]) C d_Mo_fillWide_87 (by decide) rfl ?_
  refine g_aload_n C 19 rfl d_Mo_fillWide_89 rfl ?_
  refine g_bipush (v := 8) C d_Mo_fillWide_90 (by decide) ?_
  obtain ⟨v18, ev18, hr⟩ := of_bnd hr
  refine g_laload C ev18 d_Mo_fillWide_92 ?_
  refine g_lstore (lv' := [(37, .long v18), (35, .long v17), (33, .long v16), (31, .long v15), (29, .long v14), (27, .long v13), (25, .long v12), (23, .long v11), (21, .long v10), (19, .long v9), (17, .long v8), (15, .long v7), (13, .long v6), (11, .long v5), (9, .long v4), (7, .long v3), (5, .long v2), (3, .long v1), (0, .ref p0), (1, .ref p1), (2, .ref p2)]) C d_Mo_fillWide_93 (by decide) rfl ?_
  refine g_aload_n C 18 rfl d_Mo_fillWide_95 rfl ?_
  obtain ⟨k19, ek19, hr⟩ := of_bnd hr
  refine g_getR C fl_Mo_29 ek19 d_Mo_fillWide_96 ?_
  refine g_iconst (v := 0) C d_Mo_fillWide_99 (by decide) ?_
  refine g_lload_n C 17 rfl d_Mo_fillWide_100 rfl ?_
  refine g_lload C 8 rfl d_Mo_fillWide_101 ?_
  refine g_lmul C d_Mo_fillWide_103 ?_
  obtain ⟨h20, eh20, hr⟩ := of_bnd hr
  refine g_lastore C eh20 d_Mo_fillWide_104 ?_
  refine g_aload_n C 18 rfl d_Mo_fillWide_105 rfl ?_
  obtain ⟨k21, ek21, hr⟩ := of_bnd hr
  refine g_getR C fl_Mo_29 ek21 d_Mo_fillWide_106 ?_
  refine g_iconst (v := 1) C d_Mo_fillWide_109 (by decide) ?_
  refine g_lload_n C 17 rfl d_Mo_fillWide_110 rfl ?_
  refine g_lload C 7 rfl d_Mo_fillWide_111 ?_
  refine g_lmul C d_Mo_fillWide_113 ?_
  refine g_lload C 16 rfl d_Mo_fillWide_114 ?_
  refine g_lload C 8 rfl d_Mo_fillWide_116 ?_
  refine g_lmul C d_Mo_fillWide_118 ?_
  refine g_ladd C d_Mo_fillWide_119 ?_
  obtain ⟨h22, eh22, hr⟩ := of_bnd hr
  refine g_lastore C eh22 d_Mo_fillWide_120 ?_
  refine g_aload_n C 18 rfl d_Mo_fillWide_121 rfl ?_
  obtain ⟨k23, ek23, hr⟩ := of_bnd hr
  refine g_getR C fl_Mo_29 ek23 d_Mo_fillWide_122 ?_
  refine g_iconst (v := 2) C d_Mo_fillWide_125 (by decide) ?_
  refine g_lload_n C 17 rfl d_Mo_fillWide_126 rfl ?_
  refine g_lload C 6 rfl d_Mo_fillWide_127 ?_
  refine g_lmul C d_Mo_fillWide_129 ?_
  refine g_lload C 16 rfl d_Mo_fillWide_130 ?_
  refine g_lload C 7 rfl d_Mo_fillWide_132 ?_
  refine g_lmul C d_Mo_fillWide_134 ?_
  refine g_ladd C d_Mo_fillWide_135 ?_
  refine g_lload C 15 rfl d_Mo_fillWide_136 ?_
  refine g_lload C 8 rfl d_Mo_fillWide_138 ?_
  refine g_lmul C d_Mo_fillWide_140 ?_
  refine g_ladd C d_Mo_fillWide_141 ?_
  obtain ⟨h24, eh24, hr⟩ := of_bnd hr
  refine g_lastore C eh24 d_Mo_fillWide_142 ?_
  refine g_aload_n C 18 rfl d_Mo_fillWide_143 rfl ?_
  obtain ⟨k25, ek25, hr⟩ := of_bnd hr
  refine g_getR C fl_Mo_29 ek25 d_Mo_fillWide_144 ?_
  refine g_iconst (v := 3) C d_Mo_fillWide_147 (by decide) ?_
  refine g_lload_n C 17 rfl d_Mo_fillWide_148 rfl ?_
  refine g_lload C 5 rfl d_Mo_fillWide_149 ?_
  refine g_lmul C d_Mo_fillWide_151 ?_
  refine g_lload C 16 rfl d_Mo_fillWide_152 ?_
  refine g_lload C 6 rfl d_Mo_fillWide_154 ?_
  refine g_lmul C d_Mo_fillWide_156 ?_
  refine g_ladd C d_Mo_fillWide_157 ?_
  refine g_lload C 15 rfl d_Mo_fillWide_158 ?_
  refine g_lload C 7 rfl d_Mo_fillWide_160 ?_
  refine g_lmul C d_Mo_fillWide_162 ?_
  refine g_ladd C d_Mo_fillWide_163 ?_
  refine g_lload C 14 rfl d_Mo_fillWide_164 ?_
  refine g_lload C 8 rfl d_Mo_fillWide_166 ?_
  refine g_lmul C d_Mo_fillWide_168 ?_
  refine g_ladd C d_Mo_fillWide_169 ?_
  obtain ⟨h26, eh26, hr⟩ := of_bnd hr
  refine g_lastore C eh26 d_Mo_fillWide_170 ?_
  refine g_aload_n C 18 rfl d_Mo_fillWide_171 rfl ?_
  obtain ⟨k27, ek27, hr⟩ := of_bnd hr
  refine g_getR C fl_Mo_29 ek27 d_Mo_fillWide_172 ?_
  refine g_iconst (v := 4) C d_Mo_fillWide_175 (by decide) ?_
  refine g_lload_n C 17 rfl d_Mo_fillWide_176 rfl ?_
  refine g_lload C 4 rfl d_Mo_fillWide_177 ?_
  refine g_lmul C d_Mo_fillWide_179 ?_
  refine g_lload C 16 rfl d_Mo_fillWide_180 ?_
  refine g_lload C 5 rfl d_Mo_fillWide_182 ?_
  refine g_lmul C d_Mo_fillWide_184 ?_
  refine g_ladd C d_Mo_fillWide_185 ?_
  refine g_lload C 15 rfl d_Mo_fillWide_186 ?_
  refine g_lload C 6 rfl d_Mo_fillWide_188 ?_
  refine g_lmul C d_Mo_fillWide_190 ?_
  refine g_ladd C d_Mo_fillWide_191 ?_
  refine g_lload C 14 rfl d_Mo_fillWide_192 ?_
  refine g_lload C 7 rfl d_Mo_fillWide_194 ?_
  refine g_lmul C d_Mo_fillWide_196 ?_
  refine g_ladd C d_Mo_fillWide_197 ?_
  refine g_lload C 13 rfl d_Mo_fillWide_198 ?_
  refine g_lload C 8 rfl d_Mo_fillWide_200 ?_
  refine g_lmul C d_Mo_fillWide_202 ?_
  refine g_ladd C d_Mo_fillWide_203 ?_
  obtain ⟨h28, eh28, hr⟩ := of_bnd hr
  refine g_lastore C eh28 d_Mo_fillWide_204 ?_
  refine g_aload_n C 18 rfl d_Mo_fillWide_205 rfl ?_
  obtain ⟨k29, ek29, hr⟩ := of_bnd hr
  refine g_getR C fl_Mo_29 ek29 d_Mo_fillWide_206 ?_
  refine g_iconst (v := 5) C d_Mo_fillWide_209 (by decide) ?_
  refine g_lload_n C 17 rfl d_Mo_fillWide_210 rfl ?_
  refine g_lload C 3 rfl d_Mo_fillWide_211 ?_
  refine g_lmul C d_Mo_fillWide_213 ?_
  refine g_lload C 16 rfl d_Mo_fillWide_214 ?_
  refine g_lload C 4 rfl d_Mo_fillWide_216 ?_
  refine g_lmul C d_Mo_fillWide_218 ?_
  refine g_ladd C d_Mo_fillWide_219 ?_
  refine g_lload C 15 rfl d_Mo_fillWide_220 ?_
  refine g_lload C 5 rfl d_Mo_fillWide_222 ?_
  refine g_lmul C d_Mo_fillWide_224 ?_
  refine g_ladd C d_Mo_fillWide_225 ?_
  refine g_lload C 14 rfl d_Mo_fillWide_226 ?_
  refine g_lload C 6 rfl d_Mo_fillWide_228 ?_
  refine g_lmul C d_Mo_fillWide_230 ?_
  refine g_ladd C d_Mo_fillWide_231 ?_
  refine g_lload C 13 rfl d_Mo_fillWide_232 ?_
  refine g_lload C 7 rfl d_Mo_fillWide_234 ?_
  refine g_lmul C d_Mo_fillWide_236 ?_
  refine g_ladd C d_Mo_fillWide_237 ?_
  refine g_lload C 12 rfl d_Mo_fillWide_238 ?_
  refine g_lload C 8 rfl d_Mo_fillWide_240 ?_
  refine g_lmul C d_Mo_fillWide_242 ?_
  refine g_ladd C d_Mo_fillWide_243 ?_
  obtain ⟨h30, eh30, hr⟩ := of_bnd hr
  refine g_lastore C eh30 d_Mo_fillWide_244 ?_
  refine g_aload_n C 18 rfl d_Mo_fillWide_245 rfl ?_
  obtain ⟨k31, ek31, hr⟩ := of_bnd hr
  refine g_getR C fl_Mo_29 ek31 d_Mo_fillWide_246 ?_
  refine g_bipush (v := 6) C d_Mo_fillWide_249 (by decide) ?_
  refine g_lload_n C 17 rfl d_Mo_fillWide_251 rfl ?_
  refine g_lload C 2 rfl d_Mo_fillWide_252 ?_
  refine g_lmul C d_Mo_fillWide_254 ?_
  refine g_lload C 16 rfl d_Mo_fillWide_255 ?_
  refine g_lload C 3 rfl d_Mo_fillWide_257 ?_
  refine g_lmul C d_Mo_fillWide_259 ?_
  refine g_ladd C d_Mo_fillWide_260 ?_
  refine g_lload C 15 rfl d_Mo_fillWide_261 ?_
  refine g_lload C 4 rfl d_Mo_fillWide_263 ?_
  refine g_lmul C d_Mo_fillWide_265 ?_
  refine g_ladd C d_Mo_fillWide_266 ?_
  refine g_lload C 14 rfl d_Mo_fillWide_267 ?_
  refine g_lload C 5 rfl d_Mo_fillWide_269 ?_
  refine g_lmul C d_Mo_fillWide_271 ?_
  refine g_ladd C d_Mo_fillWide_272 ?_
  refine g_lload C 13 rfl d_Mo_fillWide_273 ?_
  refine g_lload C 6 rfl d_Mo_fillWide_275 ?_
  refine g_lmul C d_Mo_fillWide_277 ?_
  refine g_ladd C d_Mo_fillWide_278 ?_
  refine g_lload C 12 rfl d_Mo_fillWide_279 ?_
  refine g_lload C 7 rfl d_Mo_fillWide_281 ?_
  refine g_lmul C d_Mo_fillWide_283 ?_
  refine g_ladd C d_Mo_fillWide_284 ?_
  refine g_lload C 11 rfl d_Mo_fillWide_285 ?_
  refine g_lload C 8 rfl d_Mo_fillWide_287 ?_
  refine g_lmul C d_Mo_fillWide_289 ?_
  refine g_ladd C d_Mo_fillWide_290 ?_
  obtain ⟨h32, eh32, hr⟩ := of_bnd hr
  refine g_lastore C eh32 d_Mo_fillWide_291 ?_
  refine g_aload_n C 18 rfl d_Mo_fillWide_292 rfl ?_
  obtain ⟨k33, ek33, hr⟩ := of_bnd hr
  refine g_getR C fl_Mo_29 ek33 d_Mo_fillWide_293 ?_
  refine g_bipush (v := 7) C d_Mo_fillWide_296 (by decide) ?_
  refine g_lload_n C 17 rfl d_Mo_fillWide_298 rfl ?_
  refine g_lload C 1 rfl d_Mo_fillWide_299 ?_
  refine g_lmul C d_Mo_fillWide_301 ?_
  refine g_lload C 16 rfl d_Mo_fillWide_302 ?_
  refine g_lload C 2 rfl d_Mo_fillWide_304 ?_
  refine g_lmul C d_Mo_fillWide_306 ?_
  refine g_ladd C d_Mo_fillWide_307 ?_
  refine g_lload C 15 rfl d_Mo_fillWide_308 ?_
  refine g_lload C 3 rfl d_Mo_fillWide_310 ?_
  refine g_lmul C d_Mo_fillWide_312 ?_
  refine g_ladd C d_Mo_fillWide_313 ?_
  refine g_lload C 14 rfl d_Mo_fillWide_314 ?_
  refine g_lload C 4 rfl d_Mo_fillWide_316 ?_
  refine g_lmul C d_Mo_fillWide_318 ?_
  refine g_ladd C d_Mo_fillWide_319 ?_
  refine g_lload C 13 rfl d_Mo_fillWide_320 ?_
  refine g_lload C 5 rfl d_Mo_fillWide_322 ?_
  refine g_lmul C d_Mo_fillWide_324 ?_
  refine g_ladd C d_Mo_fillWide_325 ?_
  refine g_lload C 12 rfl d_Mo_fillWide_326 ?_
  refine g_lload C 6 rfl d_Mo_fillWide_328 ?_
  refine g_lmul C d_Mo_fillWide_330 ?_
  refine g_ladd C d_Mo_fillWide_331 ?_
  refine g_lload C 11 rfl d_Mo_fillWide_332 ?_
  refine g_lload C 7 rfl d_Mo_fillWide_334 ?_
  refine g_lmul C d_Mo_fillWide_336 ?_
  refine g_ladd C d_Mo_fillWide_337 ?_
  refine g_lload C 10 rfl d_Mo_fillWide_338 ?_
  refine g_lload C 8 rfl d_Mo_fillWide_340 ?_
  refine g_lmul C d_Mo_fillWide_342 ?_
  refine g_ladd C d_Mo_fillWide_343 ?_
  obtain ⟨h34, eh34, hr⟩ := of_bnd hr
  refine g_lastore C eh34 d_Mo_fillWide_344 ?_
  refine g_aload_n C 18 rfl d_Mo_fillWide_345 rfl ?_
  obtain ⟨k35, ek35, hr⟩ := of_bnd hr
  refine g_getR C fl_Mo_29 ek35 d_Mo_fillWide_346 ?_
  refine g_bipush (v := 8) C d_Mo_fillWide_349 (by decide) ?_
  refine g_lload_n C 17 rfl d_Mo_fillWide_351 rfl ?_
  refine g_lload C 0 rfl d_Mo_fillWide_352 ?_
  refine g_lmul C d_Mo_fillWide_354 ?_
  refine g_lload C 16 rfl d_Mo_fillWide_355 ?_
  refine g_lload C 1 rfl d_Mo_fillWide_357 ?_
  refine g_lmul C d_Mo_fillWide_359 ?_
  refine g_ladd C d_Mo_fillWide_360 ?_
  refine g_lload C 15 rfl d_Mo_fillWide_361 ?_
  refine g_lload C 2 rfl d_Mo_fillWide_363 ?_
  refine g_lmul C d_Mo_fillWide_365 ?_
  refine g_ladd C d_Mo_fillWide_366 ?_
  refine g_lload C 14 rfl d_Mo_fillWide_367 ?_
  refine g_lload C 3 rfl d_Mo_fillWide_369 ?_
  refine g_lmul C d_Mo_fillWide_371 ?_
  refine g_ladd C d_Mo_fillWide_372 ?_
  refine g_lload C 13 rfl d_Mo_fillWide_373 ?_
  refine g_lload C 4 rfl d_Mo_fillWide_375 ?_
  refine g_lmul C d_Mo_fillWide_377 ?_
  refine g_ladd C d_Mo_fillWide_378 ?_
  refine g_lload C 12 rfl d_Mo_fillWide_379 ?_
  refine g_lload C 5 rfl d_Mo_fillWide_381 ?_
  refine g_lmul C d_Mo_fillWide_383 ?_
  refine g_ladd C d_Mo_fillWide_384 ?_
  refine g_lload C 11 rfl d_Mo_fillWide_385 ?_
  refine g_lload C 6 rfl d_Mo_fillWide_387 ?_
  refine g_lmul C d_Mo_fillWide_389 ?_
  refine g_ladd C d_Mo_fillWide_390 ?_
  refine g_lload C 10 rfl d_Mo_fillWide_391 ?_
  refine g_lload C 7 rfl d_Mo_fillWide_393 ?_
  refine g_lmul C d_Mo_fillWide_395 ?_
  refine g_ladd C d_Mo_fillWide_396 ?_
  refine g_lload C 9 rfl d_Mo_fillWide_397 ?_
  refine g_lload C 8 rfl d_Mo_fillWide_399 ?_
  refine g_lmul C d_Mo_fillWide_401 ?_
  refine g_ladd C d_Mo_fillWide_402 ?_
  obtain ⟨h36, eh36, hr⟩ := of_bnd hr
  refine g_lastore C eh36 d_Mo_fillWide_403 ?_
  refine g_aload_n C 18 rfl d_Mo_fillWide_404 rfl ?_
  obtain ⟨k37, ek37, hr⟩ := of_bnd hr
  refine g_getR C fl_Mo_29 ek37 d_Mo_fillWide_405 ?_
  refine g_bipush (v := 9) C d_Mo_fillWide_408 (by decide) ?_
  refine g_lload C 16 rfl d_Mo_fillWide_410 ?_
  refine g_lload C 0 rfl d_Mo_fillWide_412 ?_
  refine g_lmul C d_Mo_fillWide_414 ?_
  refine g_lload C 15 rfl d_Mo_fillWide_415 ?_
  refine g_lload C 1 rfl d_Mo_fillWide_417 ?_
  refine g_lmul C d_Mo_fillWide_419 ?_
  refine g_ladd C d_Mo_fillWide_420 ?_
  refine g_lload C 14 rfl d_Mo_fillWide_421 ?_
  refine g_lload C 2 rfl d_Mo_fillWide_423 ?_
  refine g_lmul C d_Mo_fillWide_425 ?_
  refine g_ladd C d_Mo_fillWide_426 ?_
  refine g_lload C 13 rfl d_Mo_fillWide_427 ?_
  refine g_lload C 3 rfl d_Mo_fillWide_429 ?_
  refine g_lmul C d_Mo_fillWide_431 ?_
  refine g_ladd C d_Mo_fillWide_432 ?_
  refine g_lload C 12 rfl d_Mo_fillWide_433 ?_
  refine g_lload C 4 rfl d_Mo_fillWide_435 ?_
  refine g_lmul C d_Mo_fillWide_437 ?_
  refine g_ladd C d_Mo_fillWide_438 ?_
  refine g_lload C 11 rfl d_Mo_fillWide_439 ?_
  refine g_lload C 5 rfl d_Mo_fillWide_441 ?_
  refine g_lmul C d_Mo_fillWide_443 ?_
  refine g_ladd C d_Mo_fillWide_444 ?_
  refine g_lload C 10 rfl d_Mo_fillWide_445 ?_
  refine g_lload C 6 rfl d_Mo_fillWide_447 ?_
  refine g_lmul C d_Mo_fillWide_449 ?_
  refine g_ladd C d_Mo_fillWide_450 ?_
  refine g_lload C 9 rfl d_Mo_fillWide_451 ?_
  refine g_lload C 7 rfl d_Mo_fillWide_453 ?_
  refine g_lmul C d_Mo_fillWide_455 ?_
  refine g_ladd C d_Mo_fillWide_456 ?_
  obtain ⟨h38, eh38, hr⟩ := of_bnd hr
  refine g_lastore C eh38 d_Mo_fillWide_457 ?_
  refine g_aload_n C 18 rfl d_Mo_fillWide_458 rfl ?_
  obtain ⟨k39, ek39, hr⟩ := of_bnd hr
  refine g_getR C fl_Mo_29 ek39 d_Mo_fillWide_459 ?_
  refine g_bipush (v := 10) C d_Mo_fillWide_462 (by decide) ?_
  refine g_lload C 15 rfl d_Mo_fillWide_464 ?_
  refine g_lload C 0 rfl d_Mo_fillWide_466 ?_
  refine g_lmul C d_Mo_fillWide_468 ?_
  refine g_lload C 14 rfl d_Mo_fillWide_469 ?_
  refine g_lload C 1 rfl d_Mo_fillWide_471 ?_
  refine g_lmul C d_Mo_fillWide_473 ?_
  refine g_ladd C d_Mo_fillWide_474 ?_
  refine g_lload C 13 rfl d_Mo_fillWide_475 ?_
  refine g_lload C 2 rfl d_Mo_fillWide_477 ?_
  refine g_lmul C d_Mo_fillWide_479 ?_
  refine g_ladd C d_Mo_fillWide_480 ?_
  refine g_lload C 12 rfl d_Mo_fillWide_481 ?_
  refine g_lload C 3 rfl d_Mo_fillWide_483 ?_
  refine g_lmul C d_Mo_fillWide_485 ?_
  refine g_ladd C d_Mo_fillWide_486 ?_
  refine g_lload C 11 rfl d_Mo_fillWide_487 ?_
  refine g_lload C 4 rfl d_Mo_fillWide_489 ?_
  refine g_lmul C d_Mo_fillWide_491 ?_
  refine g_ladd C d_Mo_fillWide_492 ?_
  refine g_lload C 10 rfl d_Mo_fillWide_493 ?_
  refine g_lload C 5 rfl d_Mo_fillWide_495 ?_
  refine g_lmul C d_Mo_fillWide_497 ?_
  refine g_ladd C d_Mo_fillWide_498 ?_
  refine g_lload C 9 rfl d_Mo_fillWide_499 ?_
  refine g_lload C 6 rfl d_Mo_fillWide_501 ?_
  refine g_lmul C d_Mo_fillWide_503 ?_
  refine g_ladd C d_Mo_fillWide_504 ?_
  obtain ⟨h40, eh40, hr⟩ := of_bnd hr
  refine g_lastore C eh40 d_Mo_fillWide_505 ?_
  refine g_aload_n C 18 rfl d_Mo_fillWide_506 rfl ?_
  obtain ⟨k41, ek41, hr⟩ := of_bnd hr
  refine g_getR C fl_Mo_29 ek41 d_Mo_fillWide_507 ?_
  refine g_bipush (v := 11) C d_Mo_fillWide_510 (by decide) ?_
  refine g_lload C 14 rfl d_Mo_fillWide_512 ?_
  refine g_lload C 0 rfl d_Mo_fillWide_514 ?_
  refine g_lmul C d_Mo_fillWide_516 ?_
  refine g_lload C 13 rfl d_Mo_fillWide_517 ?_
  refine g_lload C 1 rfl d_Mo_fillWide_519 ?_
  refine g_lmul C d_Mo_fillWide_521 ?_
  refine g_ladd C d_Mo_fillWide_522 ?_
  refine g_lload C 12 rfl d_Mo_fillWide_523 ?_
  refine g_lload C 2 rfl d_Mo_fillWide_525 ?_
  refine g_lmul C d_Mo_fillWide_527 ?_
  refine g_ladd C d_Mo_fillWide_528 ?_
  refine g_lload C 11 rfl d_Mo_fillWide_529 ?_
  refine g_lload C 3 rfl d_Mo_fillWide_531 ?_
  refine g_lmul C d_Mo_fillWide_533 ?_
  refine g_ladd C d_Mo_fillWide_534 ?_
  refine g_lload C 10 rfl d_Mo_fillWide_535 ?_
  refine g_lload C 4 rfl d_Mo_fillWide_537 ?_
  refine g_lmul C d_Mo_fillWide_539 ?_
  refine g_ladd C d_Mo_fillWide_540 ?_
  refine g_lload C 9 rfl d_Mo_fillWide_541 ?_
  refine g_lload C 5 rfl d_Mo_fillWide_543 ?_
  refine g_lmul C d_Mo_fillWide_545 ?_
  refine g_ladd C d_Mo_fillWide_546 ?_
  obtain ⟨h42, eh42, hr⟩ := of_bnd hr
  refine g_lastore C eh42 d_Mo_fillWide_547 ?_
  refine g_aload_n C 18 rfl d_Mo_fillWide_548 rfl ?_
  obtain ⟨k43, ek43, hr⟩ := of_bnd hr
  refine g_getR C fl_Mo_29 ek43 d_Mo_fillWide_549 ?_
  refine g_bipush (v := 12) C d_Mo_fillWide_552 (by decide) ?_
  refine g_lload C 13 rfl d_Mo_fillWide_554 ?_
  refine g_lload C 0 rfl d_Mo_fillWide_556 ?_
  refine g_lmul C d_Mo_fillWide_558 ?_
  refine g_lload C 12 rfl d_Mo_fillWide_559 ?_
  refine g_lload C 1 rfl d_Mo_fillWide_561 ?_
  refine g_lmul C d_Mo_fillWide_563 ?_
  refine g_ladd C d_Mo_fillWide_564 ?_
  refine g_lload C 11 rfl d_Mo_fillWide_565 ?_
  refine g_lload C 2 rfl d_Mo_fillWide_567 ?_
  refine g_lmul C d_Mo_fillWide_569 ?_
  refine g_ladd C d_Mo_fillWide_570 ?_
  refine g_lload C 10 rfl d_Mo_fillWide_571 ?_
  refine g_lload C 3 rfl d_Mo_fillWide_573 ?_
  refine g_lmul C d_Mo_fillWide_575 ?_
  refine g_ladd C d_Mo_fillWide_576 ?_
  refine g_lload C 9 rfl d_Mo_fillWide_577 ?_
  refine g_lload C 4 rfl d_Mo_fillWide_579 ?_
  refine g_lmul C d_Mo_fillWide_581 ?_
  refine g_ladd C d_Mo_fillWide_582 ?_
  obtain ⟨h44, eh44, hr⟩ := of_bnd hr
  refine g_lastore C eh44 d_Mo_fillWide_583 ?_
  refine g_aload_n C 18 rfl d_Mo_fillWide_584 rfl ?_
  obtain ⟨k45, ek45, hr⟩ := of_bnd hr
  refine g_getR C fl_Mo_29 ek45 d_Mo_fillWide_585 ?_
  refine g_bipush (v := 13) C d_Mo_fillWide_588 (by decide) ?_
  refine g_lload C 12 rfl d_Mo_fillWide_590 ?_
  refine g_lload C 0 rfl d_Mo_fillWide_592 ?_
  refine g_lmul C d_Mo_fillWide_594 ?_
  refine g_lload C 11 rfl d_Mo_fillWide_595 ?_
  refine g_lload C 1 rfl d_Mo_fillWide_597 ?_
  refine g_lmul C d_Mo_fillWide_599 ?_
  refine g_ladd C d_Mo_fillWide_600 ?_
  refine g_lload C 10 rfl d_Mo_fillWide_601 ?_
  refine g_lload C 2 rfl d_Mo_fillWide_603 ?_
  refine g_lmul C d_Mo_fillWide_605 ?_
  refine g_ladd C d_Mo_fillWide_606 ?_
  refine g_lload C 9 rfl d_Mo_fillWide_607 ?_
  refine g_lload C 3 rfl d_Mo_fillWide_609 ?_
  refine g_lmul C d_Mo_fillWide_611 ?_
  refine g_ladd C d_Mo_fillWide_612 ?_
  obtain ⟨h46, eh46, hr⟩ := of_bnd hr
  refine g_lastore C eh46 d_Mo_fillWide_613 ?_
  refine g_aload_n C 18 rfl d_Mo_fillWide_614 rfl ?_
  obtain ⟨k47, ek47, hr⟩ := of_bnd hr
  refine g_getR C fl_Mo_29 ek47 d_Mo_fillWide_615 ?_
  refine g_bipush (v := 14) C d_Mo_fillWide_618 (by decide) ?_
  refine g_lload C 11 rfl d_Mo_fillWide_620 ?_
  refine g_lload C 0 rfl d_Mo_fillWide_622 ?_
  refine g_lmul C d_Mo_fillWide_624 ?_
  refine g_lload C 10 rfl d_Mo_fillWide_625 ?_
  refine g_lload C 1 rfl d_Mo_fillWide_627 ?_
  refine g_lmul C d_Mo_fillWide_629 ?_
  refine g_ladd C d_Mo_fillWide_630 ?_
  refine g_lload C 9 rfl d_Mo_fillWide_631 ?_
  refine g_lload C 2 rfl d_Mo_fillWide_633 ?_
  refine g_lmul C d_Mo_fillWide_635 ?_
  refine g_ladd C d_Mo_fillWide_636 ?_
  obtain ⟨h48, eh48, hr⟩ := of_bnd hr
  refine g_lastore C eh48 d_Mo_fillWide_637 ?_
  refine g_aload_n C 18 rfl d_Mo_fillWide_638 rfl ?_
  obtain ⟨k49, ek49, hr⟩ := of_bnd hr
  refine g_getR C fl_Mo_29 ek49 d_Mo_fillWide_639 ?_
  refine g_bipush (v := 15) C d_Mo_fillWide_642 (by decide) ?_
  refine g_lload C 10 rfl d_Mo_fillWide_644 ?_
  refine g_lload C 0 rfl d_Mo_fillWide_646 ?_
  refine g_lmul C d_Mo_fillWide_648 ?_
  refine g_lload C 9 rfl d_Mo_fillWide_649 ?_
  refine g_lload C 1 rfl d_Mo_fillWide_651 ?_
  refine g_lmul C d_Mo_fillWide_653 ?_
  refine g_ladd C d_Mo_fillWide_654 ?_
  obtain ⟨h50, eh50, hr⟩ := of_bnd hr
  refine g_lastore C eh50 d_Mo_fillWide_655 ?_
  refine g_aload_n C 18 rfl d_Mo_fillWide_656 rfl ?_
  obtain ⟨k51, ek51, hr⟩ := of_bnd hr
  refine g_getR C fl_Mo_29 ek51 d_Mo_fillWide_657 ?_
  refine g_bipush (v := 16) C d_Mo_fillWide_660 (by decide) ?_
  refine g_lload C 9 rfl d_Mo_fillWide_662 ?_
  refine g_lload C 0 rfl d_Mo_fillWide_664 ?_
  refine g_lmul C d_Mo_fillWide_666 ?_
  obtain ⟨h52, eh52, hr⟩ := of_bnd hr
  refine g_lastore C eh52 d_Mo_fillWide_667 ?_
  cases hr
  exact g_vreturn C T (by decide) (by decide) d_Mo_fillWide_668
