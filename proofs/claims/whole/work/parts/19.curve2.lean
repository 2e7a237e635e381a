abbrev b_Cu_addApart : ByteArray := prog_2_method_11_code
abbrev y_Cu_addApart : MethodName := ⟨"PrimeKeys$Curve", "addApart", "(LPrimeKeys$Point;LPrimeKeys$Point;LPrimeKeys$Point;)V"⟩
theorem d_Cu_addApart_0 : decode b_Cu_addApart 0 = .ok (.aload_n 0, 1) := by decide +kernel
theorem d_Cu_addApart_1 : decode b_Cu_addApart 1 = .ok (.getfield 45, 3) := by decide +kernel
theorem d_Cu_addApart_4 : decode b_Cu_addApart 4 = .ok (.iconst 0, 1) := by decide +kernel
theorem d_Cu_addApart_5 : decode b_Cu_addApart 5 = .ok (.aaload, 1) := by decide +kernel
theorem d_Cu_addApart_6 : decode b_Cu_addApart 6 = .ok (.astore 4, 2) := by decide +kernel
theorem d_Cu_addApart_8 : decode b_Cu_addApart 8 = .ok (.aload_n 0, 1) := by decide +kernel
theorem d_Cu_addApart_9 : decode b_Cu_addApart 9 = .ok (.getfield 45, 3) := by decide +kernel
theorem d_Cu_addApart_12 : decode b_Cu_addApart 12 = .ok (.iconst 1, 1) := by decide +kernel
theorem d_Cu_addApart_13 : decode b_Cu_addApart 13 = .ok (.aaload, 1) := by decide +kernel
theorem d_Cu_addApart_14 : decode b_Cu_addApart 14 = .ok (.astore 5, 2) := by decide +kernel
theorem d_Cu_addApart_16 : decode b_Cu_addApart 16 = .ok (.aload_n 0, 1) := by decide +kernel
theorem d_Cu_addApart_17 : decode b_Cu_addApart 17 = .ok (.getfield 45, 3) := by decide +kernel
theorem d_Cu_addApart_20 : decode b_Cu_addApart 20 = .ok (.iconst 2, 1) := by decide +kernel
theorem d_Cu_addApart_21 : decode b_Cu_addApart 21 = .ok (.aaload, 1) := by decide +kernel
theorem d_Cu_addApart_22 : decode b_Cu_addApart 22 = .ok (.astore 6, 2) := by decide +kernel
theorem d_Cu_addApart_24 : decode b_Cu_addApart 24 = .ok (.aload_n 0, 1) := by decide +kernel
theorem d_Cu_addApart_25 : decode b_Cu_addApart 25 = .ok (.getfield 45, 3) := by decide +kernel
theorem d_Cu_addApart_28 : decode b_Cu_addApart 28 = .ok (.iconst 3, 1) := by decide +kernel
theorem d_Cu_addApart_29 : decode b_Cu_addApart 29 = .ok (.aaload, 1) := by decide +kernel
theorem d_Cu_addApart_30 : decode b_Cu_addApart 30 = .ok (.astore 7, 2) := by decide +kernel
theorem d_Cu_addApart_32 : decode b_Cu_addApart 32 = .ok (.aload_n 0, 1) := by decide +kernel
theorem d_Cu_addApart_33 : decode b_Cu_addApart 33 = .ok (.getfield 45, 3) := by decide +kernel
theorem d_Cu_addApart_36 : decode b_Cu_addApart 36 = .ok (.iconst 4, 1) := by decide +kernel
theorem d_Cu_addApart_37 : decode b_Cu_addApart 37 = .ok (.aaload, 1) := by decide +kernel
theorem d_Cu_addApart_38 : decode b_Cu_addApart 38 = .ok (.astore 8, 2) := by decide +kernel
theorem d_Cu_addApart_40 : decode b_Cu_addApart 40 = .ok (.aload_n 0, 1) := by decide +kernel
theorem d_Cu_addApart_41 : decode b_Cu_addApart 41 = .ok (.getfield 24, 3) := by decide +kernel
theorem d_Cu_addApart_44 : decode b_Cu_addApart 44 = .ok (.aload 5, 2) := by decide +kernel
theorem d_Cu_addApart_46 : decode b_Cu_addApart 46 = .ok (.aload 4, 2) := by decide +kernel
theorem d_Cu_addApart_48 : decode b_Cu_addApart 48 = .ok (.aload 5, 2) := by decide +kernel
theorem d_Cu_addApart_50 : decode b_Cu_addApart 50 = .ok (.invokevirtual 123, 3) := by decide +kernel
theorem d_Cu_addApart_53 : decode b_Cu_addApart 53 = .ok (.aload_n 0, 1) := by decide +kernel
theorem d_Cu_addApart_54 : decode b_Cu_addApart 54 = .ok (.getfield 24, 3) := by decide +kernel
theorem d_Cu_addApart_57 : decode b_Cu_addApart 57 = .ok (.aload 7, 2) := by decide +kernel
theorem d_Cu_addApart_59 : decode b_Cu_addApart 59 = .ok (.aload 6, 2) := by decide +kernel
theorem d_Cu_addApart_61 : decode b_Cu_addApart 61 = .ok (.aload 7, 2) := by decide +kernel
theorem d_Cu_addApart_63 : decode b_Cu_addApart 63 = .ok (.invokevirtual 123, 3) := by decide +kernel
theorem d_Cu_addApart_66 : decode b_Cu_addApart 66 = .ok (.aload_n 0, 1) := by decide +kernel
theorem d_Cu_addApart_67 : decode b_Cu_addApart 67 = .ok (.getfield 24, 3) := by decide +kernel
theorem d_Cu_addApart_70 : decode b_Cu_addApart 70 = .ok (.aload_n 1, 1) := by decide +kernel
theorem d_Cu_addApart_71 : decode b_Cu_addApart 71 = .ok (.getfield 106, 3) := by decide +kernel
theorem d_Cu_addApart_74 : decode b_Cu_addApart 74 = .ok (.aload_n 2, 1) := by decide +kernel
theorem d_Cu_addApart_75 : decode b_Cu_addApart 75 = .ok (.getfield 106, 3) := by decide +kernel
theorem d_Cu_addApart_78 : decode b_Cu_addApart 78 = .ok (.aload 8, 2) := by decide +kernel
theorem d_Cu_addApart_80 : decode b_Cu_addApart 80 = .ok (.invokevirtual 112, 3) := by decide +kernel
theorem d_Cu_addApart_83 : decode b_Cu_addApart 83 = .ok (.aload_n 0, 1) := by decide +kernel
theorem d_Cu_addApart_84 : decode b_Cu_addApart 84 = .ok (.getfield 24, 3) := by decide +kernel
theorem d_Cu_addApart_87 : decode b_Cu_addApart 87 = .ok (.aload 8, 2) := by decide +kernel
theorem d_Cu_addApart_89 : decode b_Cu_addApart 89 = .ok (.aload 5, 2) := by decide +kernel
theorem d_Cu_addApart_91 : decode b_Cu_addApart 91 = .ok (.aload_n 3, 1) := by decide +kernel
theorem d_Cu_addApart_92 : decode b_Cu_addApart 92 = .ok (.getfield 106, 3) := by decide +kernel
theorem d_Cu_addApart_95 : decode b_Cu_addApart 95 = .ok (.invokevirtual 112, 3) := by decide +kernel
theorem d_Cu_addApart_98 : decode b_Cu_addApart 98 = .ok (.aload_n 0, 1) := by decide +kernel
theorem d_Cu_addApart_99 : decode b_Cu_addApart 99 = .ok (.getfield 24, 3) := by decide +kernel
theorem d_Cu_addApart_102 : decode b_Cu_addApart 102 = .ok (.aload 5, 2) := by decide +kernel
theorem d_Cu_addApart_104 : decode b_Cu_addApart 104 = .ok (.aload 5, 2) := by decide +kernel
theorem d_Cu_addApart_106 : decode b_Cu_addApart 106 = .ok (.aload 8, 2) := by decide +kernel
theorem d_Cu_addApart_108 : decode b_Cu_addApart 108 = .ok (.invokevirtual 112, 3) := by decide +kernel
theorem d_Cu_addApart_111 : decode b_Cu_addApart 111 = .ok (.aload_n 0, 1) := by decide +kernel
theorem d_Cu_addApart_112 : decode b_Cu_addApart 112 = .ok (.getfield 24, 3) := by decide +kernel
theorem d_Cu_addApart_115 : decode b_Cu_addApart 115 = .ok (.aload 4, 2) := by decide +kernel
theorem d_Cu_addApart_117 : decode b_Cu_addApart 117 = .ok (.aload 8, 2) := by decide +kernel
theorem d_Cu_addApart_119 : decode b_Cu_addApart 119 = .ok (.aload 4, 2) := by decide +kernel
theorem d_Cu_addApart_121 : decode b_Cu_addApart 121 = .ok (.invokevirtual 112, 3) := by decide +kernel
theorem d_Cu_addApart_124 : decode b_Cu_addApart 124 = .ok (.aload_n 0, 1) := by decide +kernel
theorem d_Cu_addApart_125 : decode b_Cu_addApart 125 = .ok (.getfield 24, 3) := by decide +kernel
theorem d_Cu_addApart_128 : decode b_Cu_addApart 128 = .ok (.aload 8, 2) := by decide +kernel
theorem d_Cu_addApart_130 : decode b_Cu_addApart 130 = .ok (.aload 5, 2) := by decide +kernel
theorem d_Cu_addApart_132 : decode b_Cu_addApart 132 = .ok (.aload 5, 2) := by decide +kernel
theorem d_Cu_addApart_134 : decode b_Cu_addApart 134 = .ok (.invokevirtual 112, 3) := by decide +kernel
theorem d_Cu_addApart_137 : decode b_Cu_addApart 137 = .ok (.aload_n 0, 1) := by decide +kernel
theorem d_Cu_addApart_138 : decode b_Cu_addApart 138 = .ok (.getfield 24, 3) := by decide +kernel
theorem d_Cu_addApart_141 : decode b_Cu_addApart 141 = .ok (.aload 6, 2) := by decide +kernel
theorem d_Cu_addApart_143 : decode b_Cu_addApart 143 = .ok (.aload 5, 2) := by decide +kernel
theorem d_Cu_addApart_145 : decode b_Cu_addApart 145 = .ok (.aload 6, 2) := by decide +kernel
theorem d_Cu_addApart_147 : decode b_Cu_addApart 147 = .ok (.invokevirtual 112, 3) := by decide +kernel
theorem d_Cu_addApart_150 : decode b_Cu_addApart 150 = .ok (.aload_n 0, 1) := by decide +kernel
theorem d_Cu_addApart_151 : decode b_Cu_addApart 151 = .ok (.getfield 24, 3) := by decide +kernel
theorem d_Cu_addApart_154 : decode b_Cu_addApart 154 = .ok (.aload 7, 2) := by decide +kernel
theorem d_Cu_addApart_156 : decode b_Cu_addApart 156 = .ok (.aload 7, 2) := by decide +kernel
theorem d_Cu_addApart_158 : decode b_Cu_addApart 158 = .ok (.aload_n 3, 1) := by decide +kernel
theorem d_Cu_addApart_159 : decode b_Cu_addApart 159 = .ok (.getfield 63, 3) := by decide +kernel
theorem d_Cu_addApart_162 : decode b_Cu_addApart 162 = .ok (.invokevirtual 112, 3) := by decide +kernel
theorem d_Cu_addApart_165 : decode b_Cu_addApart 165 = .ok (.aload_n 0, 1) := by decide +kernel
theorem d_Cu_addApart_166 : decode b_Cu_addApart 166 = .ok (.getfield 24, 3) := by decide +kernel
theorem d_Cu_addApart_169 : decode b_Cu_addApart 169 = .ok (.aload_n 3, 1) := by decide +kernel
theorem d_Cu_addApart_170 : decode b_Cu_addApart 170 = .ok (.getfield 63, 3) := by decide +kernel
theorem d_Cu_addApart_173 : decode b_Cu_addApart 173 = .ok (.aload 5, 2) := by decide +kernel
theorem d_Cu_addApart_175 : decode b_Cu_addApart 175 = .ok (.aload_n 3, 1) := by decide +kernel
theorem d_Cu_addApart_176 : decode b_Cu_addApart 176 = .ok (.getfield 63, 3) := by decide +kernel
theorem d_Cu_addApart_179 : decode b_Cu_addApart 179 = .ok (.invokevirtual 123, 3) := by decide +kernel
theorem d_Cu_addApart_182 : decode b_Cu_addApart 182 = .ok (.aload_n 0, 1) := by decide +kernel
theorem d_Cu_addApart_183 : decode b_Cu_addApart 183 = .ok (.getfield 24, 3) := by decide +kernel
theorem d_Cu_addApart_186 : decode b_Cu_addApart 186 = .ok (.aload_n 3, 1) := by decide +kernel
theorem d_Cu_addApart_187 : decode b_Cu_addApart 187 = .ok (.getfield 63, 3) := by decide +kernel
theorem d_Cu_addApart_190 : decode b_Cu_addApart 190 = .ok (.aload 4, 2) := by decide +kernel
theorem d_Cu_addApart_192 : decode b_Cu_addApart 192 = .ok (.aload_n 3, 1) := by decide +kernel
theorem d_Cu_addApart_193 : decode b_Cu_addApart 193 = .ok (.getfield 63, 3) := by decide +kernel
theorem d_Cu_addApart_196 : decode b_Cu_addApart 196 = .ok (.invokevirtual 123, 3) := by decide +kernel
theorem d_Cu_addApart_199 : decode b_Cu_addApart 199 = .ok (.aload_n 0, 1) := by decide +kernel
theorem d_Cu_addApart_200 : decode b_Cu_addApart 200 = .ok (.getfield 24, 3) := by decide +kernel
theorem d_Cu_addApart_203 : decode b_Cu_addApart 203 = .ok (.aload_n 3, 1) := by decide +kernel
theorem d_Cu_addApart_204 : decode b_Cu_addApart 204 = .ok (.getfield 63, 3) := by decide +kernel
theorem d_Cu_addApart_207 : decode b_Cu_addApart 207 = .ok (.aload 4, 2) := by decide +kernel
theorem d_Cu_addApart_209 : decode b_Cu_addApart 209 = .ok (.aload_n 3, 1) := by decide +kernel
theorem d_Cu_addApart_210 : decode b_Cu_addApart 210 = .ok (.getfield 63, 3) := by decide +kernel
theorem d_Cu_addApart_213 : decode b_Cu_addApart 213 = .ok (.invokevirtual 123, 3) := by decide +kernel
theorem d_Cu_addApart_216 : decode b_Cu_addApart 216 = .ok (.aload_n 0, 1) := by decide +kernel
theorem d_Cu_addApart_217 : decode b_Cu_addApart 217 = .ok (.getfield 24, 3) := by decide +kernel
theorem d_Cu_addApart_220 : decode b_Cu_addApart 220 = .ok (.aload 4, 2) := by decide +kernel
theorem d_Cu_addApart_222 : decode b_Cu_addApart 222 = .ok (.aload_n 3, 1) := by decide +kernel
theorem d_Cu_addApart_223 : decode b_Cu_addApart 223 = .ok (.getfield 63, 3) := by decide +kernel
theorem d_Cu_addApart_226 : decode b_Cu_addApart 226 = .ok (.aload 8, 2) := by decide +kernel
theorem d_Cu_addApart_228 : decode b_Cu_addApart 228 = .ok (.invokevirtual 123, 3) := by decide +kernel
theorem d_Cu_addApart_231 : decode b_Cu_addApart 231 = .ok (.aload_n 0, 1) := by decide +kernel
theorem d_Cu_addApart_232 : decode b_Cu_addApart 232 = .ok (.getfield 24, 3) := by decide +kernel
theorem d_Cu_addApart_235 : decode b_Cu_addApart 235 = .ok (.aload 7, 2) := by decide +kernel
theorem d_Cu_addApart_237 : decode b_Cu_addApart 237 = .ok (.aload 8, 2) := by decide +kernel
theorem d_Cu_addApart_239 : decode b_Cu_addApart 239 = .ok (.aload 8, 2) := by decide +kernel
theorem d_Cu_addApart_241 : decode b_Cu_addApart 241 = .ok (.invokevirtual 112, 3) := by decide +kernel
theorem d_Cu_addApart_244 : decode b_Cu_addApart 244 = .ok (.aload_n 0, 1) := by decide +kernel
theorem d_Cu_addApart_245 : decode b_Cu_addApart 245 = .ok (.getfield 24, 3) := by decide +kernel
theorem d_Cu_addApart_248 : decode b_Cu_addApart 248 = .ok (.aload 8, 2) := by decide +kernel
theorem d_Cu_addApart_250 : decode b_Cu_addApart 250 = .ok (.aload 6, 2) := by decide +kernel
theorem d_Cu_addApart_252 : decode b_Cu_addApart 252 = .ok (.aload_n 3, 1) := by decide +kernel
theorem d_Cu_addApart_253 : decode b_Cu_addApart 253 = .ok (.getfield 69, 3) := by decide +kernel
theorem d_Cu_addApart_256 : decode b_Cu_addApart 256 = .ok (.invokevirtual 123, 3) := by decide +kernel
theorem d_Cu_addApart_259 : decode b_Cu_addApart 259 = .ok (.return_, 1) := by decide +kernel
abbrev rm_Cu_addApart : Room := { frames := 3, cells := 0, slots := 0, locals := 84 }
def P_Cu_addApart (h : HP) (p0 : Nat) (p1 : Nat) (p2 : Nat) (p3 : Nat) : Option (HP) :=
  bnd (gR h p0 0 5) fun k1 =>
  bnd (ldR h k1 5 0) fun k2 =>
  bnd (gR h p0 0 5) fun k3 =>
  bnd (ldR h k3 5 1) fun k4 =>
  bnd (gR h p0 0 5) fun k5 =>
  bnd (ldR h k5 5 2) fun k6 =>
  bnd (gR h p0 0 5) fun k7 =>
  bnd (ldR h k7 5 3) fun k8 =>
  bnd (gR h p0 0 5) fun k9 =>
  bnd (ldR h k9 5 4) fun k10 =>
  bnd (gR h p0 0 1) fun k11 =>
  ob h k11 1 (
  bnd (P_Mo_subtract h k11 k4 k2 k4) fun h12 =>
  bnd (gR h12 p0 0 1) fun k13 =>
  ob h12 k13 1 (
  bnd (P_Mo_subtract h12 k13 k8 k6 k8) fun h14 =>
  bnd (gR h14 p0 0 1) fun k15 =>
  bnd (gR h14 p1 3 2) fun k16 =>
  bnd (gR h14 p2 3 2) fun k17 =>
  ob h14 k15 1 (
  bnd (P_Mo_multiply h14 k15 k16 k17 k10) fun h18 =>
  bnd (gR h18 p0 0 1) fun k19 =>
  bnd (gR h18 p3 3 2) fun k20 =>
  ob h18 k19 1 (
  bnd (P_Mo_multiply h18 k19 k10 k4 k20) fun h21 =>
  bnd (gR h21 p0 0 1) fun k22 =>
  ob h21 k22 1 (
  bnd (P_Mo_multiply h21 k22 k4 k4 k10) fun h23 =>
  bnd (gR h23 p0 0 1) fun k24 =>
  ob h23 k24 1 (
  bnd (P_Mo_multiply h23 k24 k2 k10 k2) fun h25 =>
  bnd (gR h25 p0 0 1) fun k26 =>
  ob h25 k26 1 (
  bnd (P_Mo_multiply h25 k26 k10 k4 k4) fun h27 =>
  bnd (gR h27 p0 0 1) fun k28 =>
  ob h27 k28 1 (
  bnd (P_Mo_multiply h27 k28 k6 k4 k6) fun h29 =>
  bnd (gR h29 p0 0 1) fun k30 =>
  bnd (gR h29 p3 3 0) fun k31 =>
  ob h29 k30 1 (
  bnd (P_Mo_multiply h29 k30 k8 k8 k31) fun h32 =>
  bnd (gR h32 p0 0 1) fun k33 =>
  bnd (gR h32 p3 3 0) fun k34 =>
  bnd (gR h32 p3 3 0) fun k35 =>
  ob h32 k33 1 (
  bnd (P_Mo_subtract h32 k33 k34 k4 k35) fun h36 =>
  bnd (gR h36 p0 0 1) fun k37 =>
  bnd (gR h36 p3 3 0) fun k38 =>
  bnd (gR h36 p3 3 0) fun k39 =>
  ob h36 k37 1 (
  bnd (P_Mo_subtract h36 k37 k38 k2 k39) fun h40 =>
  bnd (gR h40 p0 0 1) fun k41 =>
  bnd (gR h40 p3 3 0) fun k42 =>
  bnd (gR h40 p3 3 0) fun k43 =>
  ob h40 k41 1 (
  bnd (P_Mo_subtract h40 k41 k42 k2 k43) fun h44 =>
  bnd (gR h44 p0 0 1) fun k45 =>
  bnd (gR h44 p3 3 0) fun k46 =>
  ob h44 k45 1 (
  bnd (P_Mo_subtract h44 k45 k2 k46 k10) fun h47 =>
  bnd (gR h47 p0 0 1) fun k48 =>
  ob h47 k48 1 (
  bnd (P_Mo_multiply h47 k48 k8 k10 k10) fun h49 =>
  bnd (gR h49 p0 0 1) fun k50 =>
  bnd (gR h49 p3 3 1) fun k51 =>
  ob h49 k50 1 (
  bnd (P_Mo_subtract h49 k50 k10 k6 k51) fun h52 =>
  some h52)))))))))))))))
set_option maxHeartbeats 4000000 in
set_option maxRecDepth 100000 in
theorem c_Cu_addApart {l : Launch} {h h' : HP} {p0 p1 p2 p3 : _} (hr : P_Cu_addApart h p0 p1 p2 p3 = some h') : MP l y_Cu_addApart (Cond.code y_Cu_addApart b_Cu_addApart 9 none :: TB) rm_Cu_addApart h [.ref p0, .ref p1, .ref p2, .ref p3] none h' := by
  refine MP_intro (cc := b_Cu_addApart) (by decide) (Nat.le_of_ble_eq_true rfl) (fun x hl0 C T hin => ?_)
  unfold P_Cu_addApart at hr
  show GG x 0 0 h 0 [(0, .ref p0), (1, .ref p1), (2, .ref p2), (3, .ref p3)] []
  refine g_aload_n C 0 rfl d_Cu_addApart_0 rfl ?_
  obtain ⟨k1, ek1, hr⟩ := of_bnd hr
  refine g_getR C fl_Cu_45 ek1 d_Cu_addApart_1 ?_
  refine g_iconst (v := 0) C d_Cu_addApart_4 (by decide) ?_
  obtain ⟨k2, ek2, hr⟩ := of_bnd hr
  refine g_aaload C (by decide) ek2 d_Cu_addApart_5 ?_
  refine g_astore (lv' := [(4, .ref k2), (0, .ref p0), (1, .ref p1), (2, .ref p2), (3, .ref p3)]) C d_Cu_addApart_6 (by decide) rfl ?_
  refine g_aload_n C 1 rfl d_Cu_addApart_8 rfl ?_
  obtain ⟨k3, ek3, hr⟩ := of_bnd hr
  refine g_getR C fl_Cu_45 ek3 d_Cu_addApart_9 ?_
  refine g_iconst (v := 1) C d_Cu_addApart_12 (by decide) ?_
  obtain ⟨k4, ek4, hr⟩ := of_bnd hr
  refine g_aaload C (by decide) ek4 d_Cu_addApart_13 ?_
  refine g_astore (lv' := [(5, .ref k4), (4, .ref k2), (0, .ref p0), (1, .ref p1), (2, .ref p2), (3, .ref p3)]) C d_Cu_addApart_14 (by decide) rfl ?_
  refine g_aload_n C 2 rfl d_Cu_addApart_16 rfl ?_
  obtain ⟨k5, ek5, hr⟩ := of_bnd hr
  refine g_getR C fl_Cu_45 ek5 d_Cu_addApart_17 ?_
  refine g_iconst (v := 2) C d_Cu_addApart_20 (by decide) ?_
  obtain ⟨k6, ek6, hr⟩ := of_bnd hr
  refine g_aaload C (by decide) ek6 d_Cu_addApart_21 ?_
  refine g_astore (lv' := [(6, .ref k6), (5, .ref k4), (4, .ref k2), (0, .ref p0), (1, .ref p1), (2, .ref p2), (3, .ref p3)]) C d_Cu_addApart_22 (by decide) rfl ?_
  refine g_aload_n C 3 rfl d_Cu_addApart_24 rfl ?_
  obtain ⟨k7, ek7, hr⟩ := of_bnd hr
  refine g_getR C fl_Cu_45 ek7 d_Cu_addApart_25 ?_
  refine g_iconst (v := 3) C d_Cu_addApart_28 (by decide) ?_
  obtain ⟨k8, ek8, hr⟩ := of_bnd hr
  refine g_aaload C (by decide) ek8 d_Cu_addApart_29 ?_
  refine g_astore (lv' := [(7, .ref k8), (6, .ref k6), (5, .ref k4), (4, .ref k2), (0, .ref p0), (1, .ref p1), (2, .ref p2), (3, .ref p3)]) C d_Cu_addApart_30 (by decide) rfl ?_
  refine g_aload_n C 4 rfl d_Cu_addApart_32 rfl ?_
  obtain ⟨k9, ek9, hr⟩ := of_bnd hr
  refine g_getR C fl_Cu_45 ek9 d_Cu_addApart_33 ?_
  refine g_iconst (v := 4) C d_Cu_addApart_36 (by decide) ?_
  obtain ⟨k10, ek10, hr⟩ := of_bnd hr
  refine g_aaload C (by decide) ek10 d_Cu_addApart_37 ?_
  refine g_astore (lv' := [(8, .ref k10), (7, .ref k8), (6, .ref k6), (5, .ref k4), (4, .ref k2), (0, .ref p0), (1, .ref p1), (2, .ref p2), (3, .ref p3)]) C d_Cu_addApart_38 (by decide) rfl ?_
  refine g_aload_n C 5 rfl d_Cu_addApart_40 rfl ?_
  obtain ⟨k11, ek11, hr⟩ := of_bnd hr
  refine g_getR C fl_Cu_24 ek11 d_Cu_addApart_41 ?_
  refine g_aload C 3 rfl d_Cu_addApart_44 ?_
  refine g_aload C 4 rfl d_Cu_addApart_46 ?_
  refine g_aload C 3 rfl d_Cu_addApart_48 ?_
  obtain ⟨fsh12, hoh12, hr⟩ := of_ob hr
  obtain ⟨h12, eh12, hr⟩ := of_bnd hr
  refine g_callV (pa := [.ref k4, .ref k2, .ref k4]) C hl0 (c_Mo_subtract eh12) cd_Cu_123 kw_in_Mo_subtract kw_se_Mo_subtract hoh12 rfl rfl (by decide) rfl rfl (Nat.le_of_ble_eq_true rfl) d_Cu_addApart_50 ?_
  refine g_aload_n C 5 rfl d_Cu_addApart_53 rfl ?_
  obtain ⟨k13, ek13, hr⟩ := of_bnd hr
  refine g_getR C fl_Cu_24 ek13 d_Cu_addApart_54 ?_
  refine g_aload C 1 rfl d_Cu_addApart_57 ?_
  refine g_aload C 2 rfl d_Cu_addApart_59 ?_
  refine g_aload C 1 rfl d_Cu_addApart_61 ?_
  obtain ⟨fsh14, hoh14, hr⟩ := of_ob hr
  obtain ⟨h14, eh14, hr⟩ := of_bnd hr
  refine g_callV (pa := [.ref k8, .ref k6, .ref k8]) C hl0 (c_Mo_subtract eh14) cd_Cu_123 kw_in_Mo_subtract kw_se_Mo_subtract hoh14 rfl rfl (by decide) rfl rfl (Nat.le_of_ble_eq_true rfl) d_Cu_addApart_63 ?_
  refine g_aload_n C 5 rfl d_Cu_addApart_66 rfl ?_
  obtain ⟨k15, ek15, hr⟩ := of_bnd hr
  refine g_getR C fl_Cu_24 ek15 d_Cu_addApart_67 ?_
  refine g_aload_n C 6 rfl d_Cu_addApart_70 rfl ?_
  obtain ⟨k16, ek16, hr⟩ := of_bnd hr
  refine g_getR C fl_Cu_106 ek16 d_Cu_addApart_71 ?_
  refine g_aload_n C 7 rfl d_Cu_addApart_74 rfl ?_
  obtain ⟨k17, ek17, hr⟩ := of_bnd hr
  refine g_getR C fl_Cu_106 ek17 d_Cu_addApart_75 ?_
  refine g_aload C 0 rfl d_Cu_addApart_78 ?_
  obtain ⟨fsh18, hoh18, hr⟩ := of_ob hr
  obtain ⟨h18, eh18, hr⟩ := of_bnd hr
  refine g_callV (pa := [.ref k16, .ref k17, .ref k10]) C hl0 (c_Mo_multiply eh18) cd_Cu_112 kw_in_Mo_multiply kw_se_Mo_multiply hoh18 rfl rfl (by decide) rfl rfl (Nat.le_of_ble_eq_true rfl) d_Cu_addApart_80 ?_
  refine g_aload_n C 5 rfl d_Cu_addApart_83 rfl ?_
  obtain ⟨k19, ek19, hr⟩ := of_bnd hr
  refine g_getR C fl_Cu_24 ek19 d_Cu_addApart_84 ?_
  refine g_aload C 0 rfl d_Cu_addApart_87 ?_
  refine g_aload C 3 rfl d_Cu_addApart_89 ?_
  refine g_aload_n C 8 rfl d_Cu_addApart_91 rfl ?_
  obtain ⟨k20, ek20, hr⟩ := of_bnd hr
  refine g_getR C fl_Cu_106 ek20 d_Cu_addApart_92 ?_
  obtain ⟨fsh21, hoh21, hr⟩ := of_ob hr
  obtain ⟨h21, eh21, hr⟩ := of_bnd hr
  refine g_callV (pa := [.ref k10, .ref k4, .ref k20]) C hl0 (c_Mo_multiply eh21) cd_Cu_112 kw_in_Mo_multiply kw_se_Mo_multiply hoh21 rfl rfl (by decide) rfl rfl (Nat.le_of_ble_eq_true rfl) d_Cu_addApart_95 ?_
  refine g_aload_n C 5 rfl d_Cu_addApart_98 rfl ?_
  obtain ⟨k22, ek22, hr⟩ := of_bnd hr
  refine g_getR C fl_Cu_24 ek22 d_Cu_addApart_99 ?_
  refine g_aload C 3 rfl d_Cu_addApart_102 ?_
  refine g_aload C 3 rfl d_Cu_addApart_104 ?_
  refine g_aload C 0 rfl d_Cu_addApart_106 ?_
  obtain ⟨fsh23, hoh23, hr⟩ := of_ob hr
  obtain ⟨h23, eh23, hr⟩ := of_bnd hr
  refine g_callV (pa := [.ref k4, .ref k4, .ref k10]) C hl0 (c_Mo_multiply eh23) cd_Cu_112 kw_in_Mo_multiply kw_se_Mo_multiply hoh23 rfl rfl (by decide) rfl rfl (Nat.le_of_ble_eq_true rfl) d_Cu_addApart_108 ?_
  refine g_aload_n C 5 rfl d_Cu_addApart_111 rfl ?_
  obtain ⟨k24, ek24, hr⟩ := of_bnd hr
  refine g_getR C fl_Cu_24 ek24 d_Cu_addApart_112 ?_
  refine g_aload C 4 rfl d_Cu_addApart_115 ?_
  refine g_aload C 0 rfl d_Cu_addApart_117 ?_
  refine g_aload C 4 rfl d_Cu_addApart_119 ?_
  obtain ⟨fsh25, hoh25, hr⟩ := of_ob hr
  obtain ⟨h25, eh25, hr⟩ := of_bnd hr
  refine g_callV (pa := [.ref k2, .ref k10, .ref k2]) C hl0 (c_Mo_multiply eh25) cd_Cu_112 kw_in_Mo_multiply kw_se_Mo_multiply hoh25 rfl rfl (by decide) rfl rfl (Nat.le_of_ble_eq_true rfl) d_Cu_addApart_121 ?_
  refine g_aload_n C 5 rfl d_Cu_addApart_124 rfl ?_
  obtain ⟨k26, ek26, hr⟩ := of_bnd hr
  refine g_getR C fl_Cu_24 ek26 d_Cu_addApart_125 ?_
  refine g_aload C 0 rfl d_Cu_addApart_128 ?_
  refine g_aload C 3 rfl d_Cu_addApart_130 ?_
  refine g_aload C 3 rfl d_Cu_addApart_132 ?_
  obtain ⟨fsh27, hoh27, hr⟩ := of_ob hr
  obtain ⟨h27, eh27, hr⟩ := of_bnd hr
  refine g_callV (pa := [.ref k10, .ref k4, .ref k4]) C hl0 (c_Mo_multiply eh27) cd_Cu_112 kw_in_Mo_multiply kw_se_Mo_multiply hoh27 rfl rfl (by decide) rfl rfl (Nat.le_of_ble_eq_true rfl) d_Cu_addApart_134 ?_
  refine g_aload_n C 5 rfl d_Cu_addApart_137 rfl ?_
  obtain ⟨k28, ek28, hr⟩ := of_bnd hr
  refine g_getR C fl_Cu_24 ek28 d_Cu_addApart_138 ?_
  refine g_aload C 2 rfl d_Cu_addApart_141 ?_
  refine g_aload C 3 rfl d_Cu_addApart_143 ?_
  refine g_aload C 2 rfl d_Cu_addApart_145 ?_
  obtain ⟨fsh29, hoh29, hr⟩ := of_ob hr
  obtain ⟨h29, eh29, hr⟩ := of_bnd hr
  refine g_callV (pa := [.ref k6, .ref k4, .ref k6]) C hl0 (c_Mo_multiply eh29) cd_Cu_112 kw_in_Mo_multiply kw_se_Mo_multiply hoh29 rfl rfl (by decide) rfl rfl (Nat.le_of_ble_eq_true rfl) d_Cu_addApart_147 ?_
  refine g_aload_n C 5 rfl d_Cu_addApart_150 rfl ?_
  obtain ⟨k30, ek30, hr⟩ := of_bnd hr
  refine g_getR C fl_Cu_24 ek30 d_Cu_addApart_151 ?_
  refine g_aload C 1 rfl d_Cu_addApart_154 ?_
  refine g_aload C 1 rfl d_Cu_addApart_156 ?_
  refine g_aload_n C 8 rfl d_Cu_addApart_158 rfl ?_
  obtain ⟨k31, ek31, hr⟩ := of_bnd hr
  refine g_getR C fl_Cu_63 ek31 d_Cu_addApart_159 ?_
  obtain ⟨fsh32, hoh32, hr⟩ := of_ob hr
  obtain ⟨h32, eh32, hr⟩ := of_bnd hr
  refine g_callV (pa := [.ref k8, .ref k8, .ref k31]) C hl0 (c_Mo_multiply eh32) cd_Cu_112 kw_in_Mo_multiply kw_se_Mo_multiply hoh32 rfl rfl (by decide) rfl rfl (Nat.le_of_ble_eq_true rfl) d_Cu_addApart_162 ?_
  refine g_aload_n C 5 rfl d_Cu_addApart_165 rfl ?_
  obtain ⟨k33, ek33, hr⟩ := of_bnd hr
  refine g_getR C fl_Cu_24 ek33 d_Cu_addApart_166 ?_
  refine g_aload_n C 8 rfl d_Cu_addApart_169 rfl ?_
  obtain ⟨k34, ek34, hr⟩ := of_bnd hr
  refine g_getR C fl_Cu_63 ek34 d_Cu_addApart_170 ?_
  refine g_aload C 3 rfl d_Cu_addApart_173 ?_
  refine g_aload_n C 8 rfl d_Cu_addApart_175 rfl ?_
  obtain ⟨k35, ek35, hr⟩ := of_bnd hr
  refine g_getR C fl_Cu_63 ek35 d_Cu_addApart_176 ?_
  obtain ⟨fsh36, hoh36, hr⟩ := of_ob hr
  obtain ⟨h36, eh36, hr⟩ := of_bnd hr
  refine g_callV (pa := [.ref k34, .ref k4, .ref k35]) C hl0 (c_Mo_subtract eh36) cd_Cu_123 kw_in_Mo_subtract kw_se_Mo_subtract hoh36 rfl rfl (by decide) rfl rfl (Nat.le_of_ble_eq_true rfl) d_Cu_addApart_179 ?_
  refine g_aload_n C 5 rfl d_Cu_addApart_182 rfl ?_
  obtain ⟨k37, ek37, hr⟩ := of_bnd hr
  refine g_getR C fl_Cu_24 ek37 d_Cu_addApart_183 ?_
  refine g_aload_n C 8 rfl d_Cu_addApart_186 rfl ?_
  obtain ⟨k38, ek38, hr⟩ := of_bnd hr
  refine g_getR C fl_Cu_63 ek38 d_Cu_addApart_187 ?_
  refine g_aload C 4 rfl d_Cu_addApart_190 ?_
  refine g_aload_n C 8 rfl d_Cu_addApart_192 rfl ?_
  obtain ⟨k39, ek39, hr⟩ := of_bnd hr
  refine g_getR C fl_Cu_63 ek39 d_Cu_addApart_193 ?_
  obtain ⟨fsh40, hoh40, hr⟩ := of_ob hr
  obtain ⟨h40, eh40, hr⟩ := of_bnd hr
  refine g_callV (pa := [.ref k38, .ref k2, .ref k39]) C hl0 (c_Mo_subtract eh40) cd_Cu_123 kw_in_Mo_subtract kw_se_Mo_subtract hoh40 rfl rfl (by decide) rfl rfl (Nat.le_of_ble_eq_true rfl) d_Cu_addApart_196 ?_
  refine g_aload_n C 5 rfl d_Cu_addApart_199 rfl ?_
  obtain ⟨k41, ek41, hr⟩ := of_bnd hr
  refine g_getR C fl_Cu_24 ek41 d_Cu_addApart_200 ?_
  refine g_aload_n C 8 rfl d_Cu_addApart_203 rfl ?_
  obtain ⟨k42, ek42, hr⟩ := of_bnd hr
  refine g_getR C fl_Cu_63 ek42 d_Cu_addApart_204 ?_
  refine g_aload C 4 rfl d_Cu_addApart_207 ?_
  refine g_aload_n C 8 rfl d_Cu_addApart_209 rfl ?_
  obtain ⟨k43, ek43, hr⟩ := of_bnd hr
  refine g_getR C fl_Cu_63 ek43 d_Cu_addApart_210 ?_
  obtain ⟨fsh44, hoh44, hr⟩ := of_ob hr
  obtain ⟨h44, eh44, hr⟩ := of_bnd hr
  refine g_callV (pa := [.ref k42, .ref k2, .ref k43]) C hl0 (c_Mo_subtract eh44) cd_Cu_123 kw_in_Mo_subtract kw_se_Mo_subtract hoh44 rfl rfl (by decide) rfl rfl (Nat.le_of_ble_eq_true rfl) d_Cu_addApart_213 ?_
  refine g_aload_n C 5 rfl d_Cu_addApart_216 rfl ?_
  obtain ⟨k45, ek45, hr⟩ := of_bnd hr
  refine g_getR C fl_Cu_24 ek45 d_Cu_addApart_217 ?_
  refine g_aload C 4 rfl d_Cu_addApart_220 ?_
  refine g_aload_n C 8 rfl d_Cu_addApart_222 rfl ?_
  obtain ⟨k46, ek46, hr⟩ := of_bnd hr
  refine g_getR C fl_Cu_63 ek46 d_Cu_addApart_223 ?_
  refine g_aload C 0 rfl d_Cu_addApart_226 ?_
  obtain ⟨fsh47, hoh47, hr⟩ := of_ob hr
  obtain ⟨h47, eh47, hr⟩ := of_bnd hr
  refine g_callV (pa := [.ref k2, .ref k46, .ref k10]) C hl0 (c_Mo_subtract eh47) cd_Cu_123 kw_in_Mo_subtract kw_se_Mo_subtract hoh47 rfl rfl (by decide) rfl rfl (Nat.le_of_ble_eq_true rfl) d_Cu_addApart_228 ?_
  refine g_aload_n C 5 rfl d_Cu_addApart_231 rfl ?_
  obtain ⟨k48, ek48, hr⟩ := of_bnd hr
  refine g_getR C fl_Cu_24 ek48 d_Cu_addApart_232 ?_
  refine g_aload C 1 rfl d_Cu_addApart_235 ?_
  refine g_aload C 0 rfl d_Cu_addApart_237 ?_
  refine g_aload C 0 rfl d_Cu_addApart_239 ?_
  obtain ⟨fsh49, hoh49, hr⟩ := of_ob hr
  obtain ⟨h49, eh49, hr⟩ := of_bnd hr
  refine g_callV (pa := [.ref k8, .ref k10, .ref k10]) C hl0 (c_Mo_multiply eh49) cd_Cu_112 kw_in_Mo_multiply kw_se_Mo_multiply hoh49 rfl rfl (by decide) rfl rfl (Nat.le_of_ble_eq_true rfl) d_Cu_addApart_241 ?_
  refine g_aload_n C 5 rfl d_Cu_addApart_244 rfl ?_
  obtain ⟨k50, ek50, hr⟩ := of_bnd hr
  refine g_getR C fl_Cu_24 ek50 d_Cu_addApart_245 ?_
  refine g_aload C 0 rfl d_Cu_addApart_248 ?_
  refine g_aload C 2 rfl d_Cu_addApart_250 ?_
  refine g_aload_n C 8 rfl d_Cu_addApart_252 rfl ?_
  obtain ⟨k51, ek51, hr⟩ := of_bnd hr
  refine g_getR C fl_Cu_69 ek51 d_Cu_addApart_253 ?_
  obtain ⟨fsh52, hoh52, hr⟩ := of_ob hr
  obtain ⟨h52, eh52, hr⟩ := of_bnd hr
  refine g_callV (pa := [.ref k10, .ref k6, .ref k51]) C hl0 (c_Mo_subtract eh52) cd_Cu_123 kw_in_Mo_subtract kw_se_Mo_subtract hoh52 rfl rfl (by decide) rfl rfl (Nat.le_of_ble_eq_true rfl) d_Cu_addApart_256 ?_
  cases hr
  exact g_vreturn C T (by decide) (by decide) d_Cu_addApart_259
abbrev b_Cu_add : ByteArray := prog_2_method_10_code
abbrev y_Cu_add : MethodName := ⟨"PrimeKeys$Curve", "add", "(LPrimeKeys$Point;LPrimeKeys$Point;LPrimeKeys$Point;)V"⟩
theorem d_Cu_add_0 : decode b_Cu_add 0 = .ok (.aload_n 2, 1) := by decide +kernel
theorem d_Cu_add_1 : decode b_Cu_add 1 = .ok (.invokevirtual 132, 3) := by decide +kernel
theorem d_Cu_add_4 : decode b_Cu_add 4 = .ok (.ifCond .eq 9, 3) := by decide +kernel
theorem d_Cu_add_7 : decode b_Cu_add 7 = .ok (.aload_n 3, 1) := by decide +kernel
theorem d_Cu_add_8 : decode b_Cu_add 8 = .ok (.aload_n 1, 1) := by decide +kernel
theorem d_Cu_add_9 : decode b_Cu_add 9 = .ok (.invokevirtual 136, 3) := by decide +kernel
theorem d_Cu_add_12 : decode b_Cu_add 12 = .ok (.return_, 1) := by decide +kernel
theorem d_Cu_add_13 : decode b_Cu_add 13 = .ok (.aload_n 1, 1) := by decide +kernel
theorem d_Cu_add_14 : decode b_Cu_add 14 = .ok (.invokevirtual 132, 3) := by decide +kernel
theorem d_Cu_add_17 : decode b_Cu_add 17 = .ok (.ifCond .eq 9, 3) := by decide +kernel
theorem d_Cu_add_20 : decode b_Cu_add 20 = .ok (.aload_n 3, 1) := by decide +kernel
theorem d_Cu_add_21 : decode b_Cu_add 21 = .ok (.aload_n 2, 1) := by decide +kernel
theorem d_Cu_add_22 : decode b_Cu_add 22 = .ok (.invokevirtual 136, 3) := by decide +kernel
theorem d_Cu_add_25 : decode b_Cu_add 25 = .ok (.return_, 1) := by decide +kernel
theorem d_Cu_add_26 : decode b_Cu_add 26 = .ok (.aload_n 0, 1) := by decide +kernel
theorem d_Cu_add_27 : decode b_Cu_add 27 = .ok (.getfield 45, 3) := by decide +kernel
theorem d_Cu_add_30 : decode b_Cu_add 30 = .ok (.iconst 0, 1) := by decide +kernel
theorem d_Cu_add_31 : decode b_Cu_add 31 = .ok (.aaload, 1) := by decide +kernel
theorem d_Cu_add_32 : decode b_Cu_add 32 = .ok (.astore 4, 2) := by decide +kernel
theorem d_Cu_add_34 : decode b_Cu_add 34 = .ok (.aload_n 0, 1) := by decide +kernel
theorem d_Cu_add_35 : decode b_Cu_add 35 = .ok (.getfield 45, 3) := by decide +kernel
theorem d_Cu_add_38 : decode b_Cu_add 38 = .ok (.iconst 1, 1) := by decide +kernel
theorem d_Cu_add_39 : decode b_Cu_add 39 = .ok (.aaload, 1) := by decide +kernel
theorem d_Cu_add_40 : decode b_Cu_add 40 = .ok (.astore 5, 2) := by decide +kernel
theorem d_Cu_add_42 : decode b_Cu_add 42 = .ok (.aload_n 0, 1) := by decide +kernel
theorem d_Cu_add_43 : decode b_Cu_add 43 = .ok (.getfield 45, 3) := by decide +kernel
theorem d_Cu_add_46 : decode b_Cu_add 46 = .ok (.iconst 2, 1) := by decide +kernel
theorem d_Cu_add_47 : decode b_Cu_add 47 = .ok (.aaload, 1) := by decide +kernel
theorem d_Cu_add_48 : decode b_Cu_add 48 = .ok (.astore 6, 2) := by decide +kernel
theorem d_Cu_add_50 : decode b_Cu_add 50 = .ok (.aload_n 0, 1) := by decide +kernel
theorem d_Cu_add_51 : decode b_Cu_add 51 = .ok (.getfield 45, 3) := by decide +kernel
theorem d_Cu_add_54 : decode b_Cu_add 54 = .ok (.iconst 3, 1) := by decide +kernel
theorem d_Cu_add_55 : decode b_Cu_add 55 = .ok (.aaload, 1) := by decide +kernel
theorem d_Cu_add_56 : decode b_Cu_add 56 = .ok (.astore 7, 2) := by decide +kernel
theorem d_Cu_add_58 : decode b_Cu_add 58 = .ok (.aload_n 0, 1) := by decide +kernel
theorem d_Cu_add_59 : decode b_Cu_add 59 = .ok (.getfield 45, 3) := by decide +kernel
theorem d_Cu_add_62 : decode b_Cu_add 62 = .ok (.iconst 4, 1) := by decide +kernel
theorem d_Cu_add_63 : decode b_Cu_add 63 = .ok (.aaload, 1) := by decide +kernel
theorem d_Cu_add_64 : decode b_Cu_add 64 = .ok (.astore 8, 2) := by decide +kernel
theorem d_Cu_add_66 : decode b_Cu_add 66 = .ok (.aload_n 0, 1) := by decide +kernel
theorem d_Cu_add_67 : decode b_Cu_add 67 = .ok (.getfield 24, 3) := by decide +kernel
theorem d_Cu_add_70 : decode b_Cu_add 70 = .ok (.aload_n 2, 1) := by decide +kernel
theorem d_Cu_add_71 : decode b_Cu_add 71 = .ok (.getfield 106, 3) := by decide +kernel
theorem d_Cu_add_74 : decode b_Cu_add 74 = .ok (.aload_n 2, 1) := by decide +kernel
theorem d_Cu_add_75 : decode b_Cu_add 75 = .ok (.getfield 106, 3) := by decide +kernel
theorem d_Cu_add_78 : decode b_Cu_add 78 = .ok (.aload 8, 2) := by decide +kernel
theorem d_Cu_add_80 : decode b_Cu_add 80 = .ok (.invokevirtual 112, 3) := by decide +kernel
theorem d_Cu_add_83 : decode b_Cu_add 83 = .ok (.aload_n 0, 1) := by decide +kernel
theorem d_Cu_add_84 : decode b_Cu_add 84 = .ok (.getfield 24, 3) := by decide +kernel
theorem d_Cu_add_87 : decode b_Cu_add 87 = .ok (.aload_n 1, 1) := by decide +kernel
theorem d_Cu_add_88 : decode b_Cu_add 88 = .ok (.getfield 63, 3) := by decide +kernel
theorem d_Cu_add_91 : decode b_Cu_add 91 = .ok (.aload 8, 2) := by decide +kernel
theorem d_Cu_add_93 : decode b_Cu_add 93 = .ok (.aload 4, 2) := by decide +kernel
theorem d_Cu_add_95 : decode b_Cu_add 95 = .ok (.invokevirtual 112, 3) := by decide +kernel
theorem d_Cu_add_98 : decode b_Cu_add 98 = .ok (.aload_n 0, 1) := by decide +kernel
theorem d_Cu_add_99 : decode b_Cu_add 99 = .ok (.getfield 24, 3) := by decide +kernel
theorem d_Cu_add_102 : decode b_Cu_add 102 = .ok (.aload 8, 2) := by decide +kernel
theorem d_Cu_add_104 : decode b_Cu_add 104 = .ok (.aload_n 2, 1) := by decide +kernel
theorem d_Cu_add_105 : decode b_Cu_add 105 = .ok (.getfield 106, 3) := by decide +kernel
theorem d_Cu_add_108 : decode b_Cu_add 108 = .ok (.aload 8, 2) := by decide +kernel
theorem d_Cu_add_110 : decode b_Cu_add 110 = .ok (.invokevirtual 112, 3) := by decide +kernel
theorem d_Cu_add_113 : decode b_Cu_add 113 = .ok (.aload_n 0, 1) := by decide +kernel
theorem d_Cu_add_114 : decode b_Cu_add 114 = .ok (.getfield 24, 3) := by decide +kernel
theorem d_Cu_add_117 : decode b_Cu_add 117 = .ok (.aload_n 1, 1) := by decide +kernel
theorem d_Cu_add_118 : decode b_Cu_add 118 = .ok (.getfield 69, 3) := by decide +kernel
theorem d_Cu_add_121 : decode b_Cu_add 121 = .ok (.aload 8, 2) := by decide +kernel
theorem d_Cu_add_123 : decode b_Cu_add 123 = .ok (.aload 6, 2) := by decide +kernel
theorem d_Cu_add_125 : decode b_Cu_add 125 = .ok (.invokevirtual 112, 3) := by decide +kernel
theorem d_Cu_add_128 : decode b_Cu_add 128 = .ok (.aload_n 0, 1) := by decide +kernel
theorem d_Cu_add_129 : decode b_Cu_add 129 = .ok (.getfield 24, 3) := by decide +kernel
theorem d_Cu_add_132 : decode b_Cu_add 132 = .ok (.aload_n 1, 1) := by decide +kernel
theorem d_Cu_add_133 : decode b_Cu_add 133 = .ok (.getfield 106, 3) := by decide +kernel
theorem d_Cu_add_136 : decode b_Cu_add 136 = .ok (.aload_n 1, 1) := by decide +kernel
theorem d_Cu_add_137 : decode b_Cu_add 137 = .ok (.getfield 106, 3) := by decide +kernel
theorem d_Cu_add_140 : decode b_Cu_add 140 = .ok (.aload 8, 2) := by decide +kernel
theorem d_Cu_add_142 : decode b_Cu_add 142 = .ok (.invokevirtual 112, 3) := by decide +kernel
theorem d_Cu_add_145 : decode b_Cu_add 145 = .ok (.aload_n 0, 1) := by decide +kernel
theorem d_Cu_add_146 : decode b_Cu_add 146 = .ok (.getfield 24, 3) := by decide +kernel
theorem d_Cu_add_149 : decode b_Cu_add 149 = .ok (.aload_n 2, 1) := by decide +kernel
theorem d_Cu_add_150 : decode b_Cu_add 150 = .ok (.getfield 63, 3) := by decide +kernel
theorem d_Cu_add_153 : decode b_Cu_add 153 = .ok (.aload 8, 2) := by decide +kernel
theorem d_Cu_add_155 : decode b_Cu_add 155 = .ok (.aload 5, 2) := by decide +kernel
theorem d_Cu_add_157 : decode b_Cu_add 157 = .ok (.invokevirtual 112, 3) := by decide +kernel
theorem d_Cu_add_160 : decode b_Cu_add 160 = .ok (.aload_n 0, 1) := by decide +kernel
theorem d_Cu_add_161 : decode b_Cu_add 161 = .ok (.getfield 24, 3) := by decide +kernel
theorem d_Cu_add_164 : decode b_Cu_add 164 = .ok (.aload 8, 2) := by decide +kernel
theorem d_Cu_add_166 : decode b_Cu_add 166 = .ok (.aload_n 1, 1) := by decide +kernel
theorem d_Cu_add_167 : decode b_Cu_add 167 = .ok (.getfield 106, 3) := by decide +kernel
theorem d_Cu_add_170 : decode b_Cu_add 170 = .ok (.aload 8, 2) := by decide +kernel
theorem d_Cu_add_172 : decode b_Cu_add 172 = .ok (.invokevirtual 112, 3) := by decide +kernel
theorem d_Cu_add_175 : decode b_Cu_add 175 = .ok (.aload_n 0, 1) := by decide +kernel
theorem d_Cu_add_176 : decode b_Cu_add 176 = .ok (.getfield 24, 3) := by decide +kernel
theorem d_Cu_add_179 : decode b_Cu_add 179 = .ok (.aload_n 2, 1) := by decide +kernel
theorem d_Cu_add_180 : decode b_Cu_add 180 = .ok (.getfield 69, 3) := by decide +kernel
theorem d_Cu_add_183 : decode b_Cu_add 183 = .ok (.aload 8, 2) := by decide +kernel
theorem d_Cu_add_185 : decode b_Cu_add 185 = .ok (.aload 7, 2) := by decide +kernel
theorem d_Cu_add_187 : decode b_Cu_add 187 = .ok (.invokevirtual 112, 3) := by decide +kernel
theorem d_Cu_add_190 : decode b_Cu_add 190 = .ok (.aload 4, 2) := by decide +kernel
theorem d_Cu_add_192 : decode b_Cu_add 192 = .ok (.aload 5, 2) := by decide +kernel
theorem d_Cu_add_194 : decode b_Cu_add 194 = .ok (.invokestatic 128, 3) := by decide +kernel
theorem d_Cu_add_197 : decode b_Cu_add 197 = .ok (.ifCond .ne 13, 3) := by decide +kernel
theorem d_Cu_add_200 : decode b_Cu_add 200 = .ok (.aload_n 0, 1) := by decide +kernel
theorem d_Cu_add_201 : decode b_Cu_add 201 = .ok (.aload_n 1, 1) := by decide +kernel
theorem d_Cu_add_202 : decode b_Cu_add 202 = .ok (.aload_n 2, 1) := by decide +kernel
theorem d_Cu_add_203 : decode b_Cu_add 203 = .ok (.aload_n 3, 1) := by decide +kernel
theorem d_Cu_add_204 : decode b_Cu_add 204 = .ok (.invokevirtual 139, 3) := by decide +kernel
theorem d_Cu_add_207 : decode b_Cu_add 207 = .ok (.goto 26, 3) := by decide +kernel
theorem d_Cu_add_210 : decode b_Cu_add 210 = .ok (.aload 6, 2) := by decide +kernel
theorem d_Cu_add_212 : decode b_Cu_add 212 = .ok (.aload 7, 2) := by decide +kernel
theorem d_Cu_add_214 : decode b_Cu_add 214 = .ok (.invokestatic 128, 3) := by decide +kernel
theorem d_Cu_add_217 : decode b_Cu_add 217 = .ok (.ifCond .eq 12, 3) := by decide +kernel
theorem d_Cu_add_220 : decode b_Cu_add 220 = .ok (.aload_n 0, 1) := by decide +kernel
theorem d_Cu_add_221 : decode b_Cu_add 221 = .ok (.aload_n 1, 1) := by decide +kernel
theorem d_Cu_add_222 : decode b_Cu_add 222 = .ok (.aload_n 3, 1) := by decide +kernel
theorem d_Cu_add_223 : decode b_Cu_add 223 = .ok (.invokevirtual 94, 3) := by decide +kernel
theorem d_Cu_add_226 : decode b_Cu_add 226 = .ok (.goto 7, 3) := by decide +kernel
theorem d_Cu_add_229 : decode b_Cu_add 229 = .ok (.aload_n 3, 1) := by decide +kernel
theorem d_Cu_add_230 : decode b_Cu_add 230 = .ok (.invokevirtual 91, 3) := by decide +kernel
theorem d_Cu_add_233 : decode b_Cu_add 233 = .ok (.return_, 1) := by decide +kernel
theorem cd_Cu_91 : CD "PrimeKeys$Curve" 91 y_Po_setNeutral b_Po_setNeutral 1 none 0 := ⟨tb_1 (List.mem_of_getElem? (i := 230) rfl) rfl, tb_1 (List.mem_of_getElem? (i := 9) (by decide +kernel)) rfl, tb_1 (List.mem_of_getElem? (i := 227) (by decide +kernel)) rfl, by decide +kernel⟩
theorem kw_in_Po_setNeutral : Cond.instanceMethod y_Po_setNeutral ∈ TB := tb_1 (List.mem_of_getElem? (i := 228) (by decide +kernel)) rfl
theorem kw_se_Po_setNeutral : Cond.selects "PrimeKeys$Point" y_Po_setNeutral y_Po_setNeutral ∈ TB := tb_1 (List.mem_of_getElem? (i := 229) (by decide +kernel)) rfl
theorem cd_Cu_94 : CD "PrimeKeys$Curve" 94 y_Cu_twice b_Cu_twice 8 none 2 := ⟨tb_1 (List.mem_of_getElem? (i := 193) rfl) rfl, tb_1 (List.mem_of_getElem? (i := 3) (by decide +kernel)) rfl, tb_1 (List.mem_of_getElem? (i := 190) (by decide +kernel)) rfl, by decide +kernel⟩
theorem kw_in_Cu_twice : Cond.instanceMethod y_Cu_twice ∈ TB := tb_1 (List.mem_of_getElem? (i := 192) (by decide +kernel)) rfl
theorem kw_se_Cu_twice : Cond.selects "PrimeKeys$Curve" y_Cu_twice y_Cu_twice ∈ TB := tb_p (q := (y_Cu_twice, 6)) (by decide +kernel)
theorem cd_Cu_128 : CD "PrimeKeys$Curve" 128 y_Li_areSame b_Li_areSame 5 (some .boolean) 2 := ⟨tb_1 (List.mem_of_getElem? (i := 222) rfl) rfl, tb_1 (List.mem_of_getElem? (i := 5) (by decide +kernel)) rfl, tb_1 (List.mem_of_getElem? (i := 220) (by decide +kernel)) rfl, by decide +kernel⟩
theorem kw_st_Li_areSame : Cond.static y_Li_areSame ∈ TB := tb_1 (List.mem_of_getElem? (i := 221) (by decide +kernel)) rfl
theorem cd_Cu_139 : CD "PrimeKeys$Curve" 139 y_Cu_addApart b_Cu_addApart 9 none 3 := ⟨tb_1 (List.mem_of_getElem? (i := 226) rfl) rfl, tb_1 (List.mem_of_getElem? (i := 3) (by decide +kernel)) rfl, tb_1 (List.mem_of_getElem? (i := 223) (by decide +kernel)) rfl, by decide +kernel⟩
theorem kw_in_Cu_addApart : Cond.instanceMethod y_Cu_addApart ∈ TB := tb_1 (List.mem_of_getElem? (i := 225) (by decide +kernel)) rfl
theorem kw_se_Cu_addApart : Cond.selects "PrimeKeys$Curve" y_Cu_addApart y_Cu_addApart ∈ TB := tb_p (q := (y_Cu_addApart, 6)) (by decide +kernel)
theorem cd_Cu_136 : CD "PrimeKeys$Curve" 136 y_Po_set b_Po_set 2 none 1 := ⟨tb_1 (List.mem_of_getElem? (i := 218) rfl) rfl, tb_1 (List.mem_of_getElem? (i := 9) (by decide +kernel)) rfl, tb_1 (List.mem_of_getElem? (i := 215) (by decide +kernel)) rfl, by decide +kernel⟩
theorem kw_in_Po_set : Cond.instanceMethod y_Po_set ∈ TB := tb_1 (List.mem_of_getElem? (i := 216) (by decide +kernel)) rfl
theorem kw_se_Po_set : Cond.selects "PrimeKeys$Point" y_Po_set y_Po_set ∈ TB := tb_1 (List.mem_of_getElem? (i := 217) (by decide +kernel)) rfl
theorem cd_Cu_132 : CD "PrimeKeys$Curve" 132 y_Po_isNeutral b_Po_isNeutral 1 (some .boolean) 0 := ⟨tb_1 (List.mem_of_getElem? (i := 211) rfl) rfl, tb_1 (List.mem_of_getElem? (i := 9) (by decide +kernel)) rfl, tb_1 (List.mem_of_getElem? (i := 208) (by decide +kernel)) rfl, by decide +kernel⟩
theorem kw_in_Po_isNeutral : Cond.instanceMethod y_Po_isNeutral ∈ TB := tb_1 (List.mem_of_getElem? (i := 209) (by decide +kernel)) rfl
theorem kw_se_Po_isNeutral : Cond.selects "PrimeKeys$Point" y_Po_isNeutral y_Po_isNeutral ∈ TB := tb_1 (List.mem_of_getElem? (i := 210) (by decide +kernel)) rfl
abbrev rm_Cu_add : Room := { frames := 4, cells := 0, slots := 0, locals := 112 }
def B_Cu_add_233 (h : HP) : Option (HP) :=
  some h
set_option maxHeartbeats 4000000 in
set_option maxRecDepth 100000 in
theorem bk_Cu_add_233 {l : Launch} {x : CX} {h0 h' : HP} (C : EV x b_Cu_add "PrimeKeys$Curve" 9 rm_Cu_add) (T : CT x (none) rm_Cu_add h0 none h') (hl0 : x.1.2.1 = l) (h : HP) (hr : B_Cu_add_233 h = some h') : GG x 0 0 h 233 [] [] := by
  unfold B_Cu_add_233 at hr
  cases hr
  exact g_vreturn C T (by decide) (by decide) d_Cu_add_233
def P_Cu_add (h : HP) (p0 : Nat) (p1 : Nat) (p2 : Nat) (p3 : Nat) : Option (HP) :=
  ob h p2 3 (
  bnd2 (P_Po_isNeutral h p2) fun v2 h1 =>
  if v2 = 0 then
  ob h1 p1 3 (
  bnd2 (P_Po_isNeutral h1 p1) fun v4 h3 =>
  if v4 = 0 then
  bnd (gR h3 p0 0 5) fun k5 =>
  bnd (ldR h3 k5 5 0) fun k6 =>
  bnd (gR h3 p0 0 5) fun k7 =>
  bnd (ldR h3 k7 5 1) fun k8 =>
  bnd (gR h3 p0 0 5) fun k9 =>
  bnd (ldR h3 k9 5 2) fun k10 =>
  bnd (gR h3 p0 0 5) fun k11 =>
  bnd (ldR h3 k11 5 3) fun k12 =>
  bnd (gR h3 p0 0 5) fun k13 =>
  bnd (ldR h3 k13 5 4) fun k14 =>
  bnd (gR h3 p0 0 1) fun k15 =>
  bnd (gR h3 p2 3 2) fun k16 =>
  bnd (gR h3 p2 3 2) fun k17 =>
  ob h3 k15 1 (
  bnd (P_Mo_multiply h3 k15 k16 k17 k14) fun h18 =>
  bnd (gR h18 p0 0 1) fun k19 =>
  bnd (gR h18 p1 3 0) fun k20 =>
  ob h18 k19 1 (
  bnd (P_Mo_multiply h18 k19 k20 k14 k6) fun h21 =>
  bnd (gR h21 p0 0 1) fun k22 =>
  bnd (gR h21 p2 3 2) fun k23 =>
  ob h21 k22 1 (
  bnd (P_Mo_multiply h21 k22 k14 k23 k14) fun h24 =>
  bnd (gR h24 p0 0 1) fun k25 =>
  bnd (gR h24 p1 3 1) fun k26 =>
  ob h24 k25 1 (
  bnd (P_Mo_multiply h24 k25 k26 k14 k10) fun h27 =>
  bnd (gR h27 p0 0 1) fun k28 =>
  bnd (gR h27 p1 3 2) fun k29 =>
  bnd (gR h27 p1 3 2) fun k30 =>
  ob h27 k28 1 (
  bnd (P_Mo_multiply h27 k28 k29 k30 k14) fun h31 =>
  bnd (gR h31 p0 0 1) fun k32 =>
  bnd (gR h31 p2 3 0) fun k33 =>
  ob h31 k32 1 (
  bnd (P_Mo_multiply h31 k32 k33 k14 k8) fun h34 =>
  bnd (gR h34 p0 0 1) fun k35 =>
  bnd (gR h34 p1 3 2) fun k36 =>
  ob h34 k35 1 (
  bnd (P_Mo_multiply h34 k35 k14 k36 k14) fun h37 =>
  bnd (gR h37 p0 0 1) fun k38 =>
  bnd (gR h37 p2 3 1) fun k39 =>
  ob h37 k38 1 (
  bnd (P_Mo_multiply h37 k38 k39 k14 k12) fun h40 =>
  bnd2 (P_Li_areSame h40 k6 k8) fun v42 h41 =>
  if v42 = 0 then
  ob h41 p0 0 (
  bnd (P_Cu_addApart h41 p0 p1 p2 p3) fun h47 =>
  B_Cu_add_233 h47)
  else
  bnd2 (P_Li_areSame h41 k10 k12) fun v44 h43 =>
  if v44 = 0 then
  ob h43 p3 3 (
  bnd (P_Po_setNeutral h43 p3) fun h45 =>
  B_Cu_add_233 h45)
  else
  ob h43 p0 0 (
  bnd (P_Cu_twice h43 p0 p1 p3) fun h46 =>
  B_Cu_add_233 h46)))))))))
  else
  ob h3 p3 3 (
  bnd (P_Po_set h3 p3 p2) fun h48 =>
  some h48))
  else
  ob h1 p3 3 (
  bnd (P_Po_set h1 p3 p1) fun h49 =>
  some h49))
set_option maxHeartbeats 4000000 in
set_option maxRecDepth 100000 in
theorem c_Cu_add {l : Launch} {h h' : HP} {p0 p1 p2 p3 : _} (hr : P_Cu_add h p0 p1 p2 p3 = some h') : MP l y_Cu_add (Cond.code y_Cu_add b_Cu_add 9 none :: TB) rm_Cu_add h [.ref p0, .ref p1, .ref p2, .ref p3] none h' := by
  refine MP_intro (cc := b_Cu_add) (by decide) (Nat.le_of_ble_eq_true rfl) (fun x hl0 C T hin => ?_)
  unfold P_Cu_add at hr
  show GG x 0 0 h 0 [(0, .ref p0), (1, .ref p1), (2, .ref p2), (3, .ref p3)] []
  refine g_aload_n C 2 rfl d_Cu_add_0 rfl ?_
  obtain ⟨fsh1, hoh1, hr⟩ := of_ob hr
  obtain ⟨v2, h1, eh1, hr⟩ := of_bnd2 hr
  refine g_callV (pa := []) C hl0 (c_Po_isNeutral eh1) cd_Cu_132 kw_in_Po_isNeutral kw_se_Po_isNeutral hoh1 rfl rfl (by decide) rfl rfl (Nat.le_of_ble_eq_true rfl) d_Cu_add_1 ?_
  refine g_if_eq (tgt := 13) C d_Cu_add_4 (by decide) (fun z => ?_) (fun z => ?_)
  · have hr := of_if z hr
    refine g_aload_n C 1 rfl d_Cu_add_13 rfl ?_
    obtain ⟨fsh3, hoh3, hr⟩ := of_ob hr
    obtain ⟨v4, h3, eh3, hr⟩ := of_bnd2 hr
    refine g_callV (pa := []) C hl0 (c_Po_isNeutral eh3) cd_Cu_132 kw_in_Po_isNeutral kw_se_Po_isNeutral hoh3 rfl rfl (by decide) rfl rfl (Nat.le_of_ble_eq_true rfl) d_Cu_add_14 ?_
    refine g_if_eq (tgt := 26) C d_Cu_add_17 (by decide) (fun z => ?_) (fun z => ?_)
    · have hr := of_if z hr
      refine g_aload_n C 0 rfl d_Cu_add_26 rfl ?_
      obtain ⟨k5, ek5, hr⟩ := of_bnd hr
      refine g_getR C fl_Cu_45 ek5 d_Cu_add_27 ?_
      refine g_iconst (v := 0) C d_Cu_add_30 (by decide) ?_
      obtain ⟨k6, ek6, hr⟩ := of_bnd hr
      refine g_aaload C (by decide) ek6 d_Cu_add_31 ?_
      refine g_astore (lv' := [(4, .ref k6), (0, .ref p0), (1, .ref p1), (2, .ref p2), (3, .ref p3)]) C d_Cu_add_32 (by decide) rfl ?_
      refine g_aload_n C 1 rfl d_Cu_add_34 rfl ?_
      obtain ⟨k7, ek7, hr⟩ := of_bnd hr
      refine g_getR C fl_Cu_45 ek7 d_Cu_add_35 ?_
      refine g_iconst (v := 1) C d_Cu_add_38 (by decide) ?_
      obtain ⟨k8, ek8, hr⟩ := of_bnd hr
      refine g_aaload C (by decide) ek8 d_Cu_add_39 ?_
      refine g_astore (lv' := [(5, .ref k8), (4, .ref k6), (0, .ref p0), (1, .ref p1), (2, .ref p2), (3, .ref p3)]) C d_Cu_add_40 (by decide) rfl ?_
      refine g_aload_n C 2 rfl d_Cu_add_42 rfl ?_
      obtain ⟨k9, ek9, hr⟩ := of_bnd hr
      refine g_getR C fl_Cu_45 ek9 d_Cu_add_43 ?_
      refine g_iconst (v := 2) C d_Cu_add_46 (by decide) ?_
      obtain ⟨k10, ek10, hr⟩ := of_bnd hr
      refine g_aaload C (by decide) ek10 d_Cu_add_47 ?_
      refine g_astore (lv' := [(6, .ref k10), (5, .ref k8), (4, .ref k6), (0, .ref p0), (1, .ref p1), (2, .ref p2), (3, .ref p3)]) C d_Cu_add_48 (by decide) rfl ?_
      refine g_aload_n C 3 rfl d_Cu_add_50 rfl ?_
      obtain ⟨k11, ek11, hr⟩ := of_bnd hr
      refine g_getR C fl_Cu_45 ek11 d_Cu_add_51 ?_
      refine g_iconst (v := 3) C d_Cu_add_54 (by decide) ?_
      obtain ⟨k12, ek12, hr⟩ := of_bnd hr
      refine g_aaload C (by decide) ek12 d_Cu_add_55 ?_
      refine g_astore (lv' := [(7, .ref k12), (6, .ref k10), (5, .ref k8), (4, .ref k6), (0, .ref p0), (1, .ref p1), (2, .ref p2), (3, .ref p3)]) C d_Cu_add_56 (by decide) rfl ?_
      refine g_aload_n C 4 rfl d_Cu_add_58 rfl ?_
      obtain ⟨k13, ek13, hr⟩ := of_bnd hr
      refine g_getR C fl_Cu_45 ek13 d_Cu_add_59 ?_
      refine g_iconst (v := 4) C d_Cu_add_62 (by decide) ?_
      obtain ⟨k14, ek14, hr⟩ := of_bnd hr
      refine g_aaload C (by decide) ek14 d_Cu_add_63 ?_
      refine g_astore (lv' := [(8, .ref k14), (7, .ref k12), (6, .ref k10), (5, .ref k8), (4, .ref k6), (0, .ref p0), (1, .ref p1), (2, .ref p2), (3, .ref p3)]) C d_Cu_add_64 (by decide) rfl ?_
      refine g_aload_n C 5 rfl d_Cu_add_66 rfl ?_
      obtain ⟨k15, ek15, hr⟩ := of_bnd hr
      refine g_getR C fl_Cu_24 ek15 d_Cu_add_67 ?_
      refine g_aload_n C 7 rfl d_Cu_add_70 rfl ?_
      obtain ⟨k16, ek16, hr⟩ := of_bnd hr
      refine g_getR C fl_Cu_106 ek16 d_Cu_add_71 ?_
      refine g_aload_n C 7 rfl d_Cu_add_74 rfl ?_
      obtain ⟨k17, ek17, hr⟩ := of_bnd hr
      refine g_getR C fl_Cu_106 ek17 d_Cu_add_75 ?_
      refine g_aload C 0 rfl d_Cu_add_78 ?_
      obtain ⟨fsh18, hoh18, hr⟩ := of_ob hr
      obtain ⟨h18, eh18, hr⟩ := of_bnd hr
      refine g_callV (pa := [.ref k16, .ref k17, .ref k14]) C hl0 (c_Mo_multiply eh18) cd_Cu_112 kw_in_Mo_multiply kw_se_Mo_multiply hoh18 rfl rfl (by decide) rfl rfl (Nat.le_of_ble_eq_true rfl) d_Cu_add_80 ?_
      refine g_aload_n C 5 rfl d_Cu_add_83 rfl ?_
      obtain ⟨k19, ek19, hr⟩ := of_bnd hr
      refine g_getR C fl_Cu_24 ek19 d_Cu_add_84 ?_
      refine g_aload_n C 6 rfl d_Cu_add_87 rfl ?_
      obtain ⟨k20, ek20, hr⟩ := of_bnd hr
      refine g_getR C fl_Cu_63 ek20 d_Cu_add_88 ?_
      refine g_aload C 0 rfl d_Cu_add_91 ?_
      refine g_aload C 4 rfl d_Cu_add_93 ?_
      obtain ⟨fsh21, hoh21, hr⟩ := of_ob hr
      obtain ⟨h21, eh21, hr⟩ := of_bnd hr
      refine g_callV (pa := [.ref k20, .ref k14, .ref k6]) C hl0 (c_Mo_multiply eh21) cd_Cu_112 kw_in_Mo_multiply kw_se_Mo_multiply hoh21 rfl rfl (by decide) rfl rfl (Nat.le_of_ble_eq_true rfl) d_Cu_add_95 ?_
      refine g_aload_n C 5 rfl d_Cu_add_98 rfl ?_
      obtain ⟨k22, ek22, hr⟩ := of_bnd hr
      refine g_getR C fl_Cu_24 ek22 d_Cu_add_99 ?_
      refine g_aload C 0 rfl d_Cu_add_102 ?_
      refine g_aload_n C 7 rfl d_Cu_add_104 rfl ?_
      obtain ⟨k23, ek23, hr⟩ := of_bnd hr
      refine g_getR C fl_Cu_106 ek23 d_Cu_add_105 ?_
      refine g_aload C 0 rfl d_Cu_add_108 ?_
      obtain ⟨fsh24, hoh24, hr⟩ := of_ob hr
      obtain ⟨h24, eh24, hr⟩ := of_bnd hr
      refine g_callV (pa := [.ref k14, .ref k23, .ref k14]) C hl0 (c_Mo_multiply eh24) cd_Cu_112 kw_in_Mo_multiply kw_se_Mo_multiply hoh24 rfl rfl (by decide) rfl rfl (Nat.le_of_ble_eq_true rfl) d_Cu_add_110 ?_
      refine g_aload_n C 5 rfl d_Cu_add_113 rfl ?_
      obtain ⟨k25, ek25, hr⟩ := of_bnd hr
      refine g_getR C fl_Cu_24 ek25 d_Cu_add_114 ?_
      refine g_aload_n C 6 rfl d_Cu_add_117 rfl ?_
      obtain ⟨k26, ek26, hr⟩ := of_bnd hr
      refine g_getR C fl_Cu_69 ek26 d_Cu_add_118 ?_
      refine g_aload C 0 rfl d_Cu_add_121 ?_
      refine g_aload C 2 rfl d_Cu_add_123 ?_
      obtain ⟨fsh27, hoh27, hr⟩ := of_ob hr
      obtain ⟨h27, eh27, hr⟩ := of_bnd hr
      refine g_callV (pa := [.ref k26, .ref k14, .ref k10]) C hl0 (c_Mo_multiply eh27) cd_Cu_112 kw_in_Mo_multiply kw_se_Mo_multiply hoh27 rfl rfl (by decide) rfl rfl (Nat.le_of_ble_eq_true rfl) d_Cu_add_125 ?_
      refine g_aload_n C 5 rfl d_Cu_add_128 rfl ?_
      obtain ⟨k28, ek28, hr⟩ := of_bnd hr
      refine g_getR C fl_Cu_24 ek28 d_Cu_add_129 ?_
      refine g_aload_n C 6 rfl d_Cu_add_132 rfl ?_
      obtain ⟨k29, ek29, hr⟩ := of_bnd hr
      refine g_getR C fl_Cu_106 ek29 d_Cu_add_133 ?_
      refine g_aload_n C 6 rfl d_Cu_add_136 rfl ?_
      obtain ⟨k30, ek30, hr⟩ := of_bnd hr
      refine g_getR C fl_Cu_106 ek30 d_Cu_add_137 ?_
      refine g_aload C 0 rfl d_Cu_add_140 ?_
      obtain ⟨fsh31, hoh31, hr⟩ := of_ob hr
      obtain ⟨h31, eh31, hr⟩ := of_bnd hr
      refine g_callV (pa := [.ref k29, .ref k30, .ref k14]) C hl0 (c_Mo_multiply eh31) cd_Cu_112 kw_in_Mo_multiply kw_se_Mo_multiply hoh31 rfl rfl (by decide) rfl rfl (Nat.le_of_ble_eq_true rfl) d_Cu_add_142 ?_
      refine g_aload_n C 5 rfl d_Cu_add_145 rfl ?_
      obtain ⟨k32, ek32, hr⟩ := of_bnd hr
      refine g_getR C fl_Cu_24 ek32 d_Cu_add_146 ?_
      refine g_aload_n C 7 rfl d_Cu_add_149 rfl ?_
      obtain ⟨k33, ek33, hr⟩ := of_bnd hr
      refine g_getR C fl_Cu_63 ek33 d_Cu_add_150 ?_
      refine g_aload C 0 rfl d_Cu_add_153 ?_
      refine g_aload C 3 rfl d_Cu_add_155 ?_
      obtain ⟨fsh34, hoh34, hr⟩ := of_ob hr
      obtain ⟨h34, eh34, hr⟩ := of_bnd hr
      refine g_callV (pa := [.ref k33, .ref k14, .ref k8]) C hl0 (c_Mo_multiply eh34) cd_Cu_112 kw_in_Mo_multiply kw_se_Mo_multiply hoh34 rfl rfl (by decide) rfl rfl (Nat.le_of_ble_eq_true rfl) d_Cu_add_157 ?_
      refine g_aload_n C 5 rfl d_Cu_add_160 rfl ?_
      obtain ⟨k35, ek35, hr⟩ := of_bnd hr
      refine g_getR C fl_Cu_24 ek35 d_Cu_add_161 ?_
      refine g_aload C 0 rfl d_Cu_add_164 ?_
      refine g_aload_n C 6 rfl d_Cu_add_166 rfl ?_
      obtain ⟨k36, ek36, hr⟩ := of_bnd hr
      refine g_getR C fl_Cu_106 ek36 d_Cu_add_167 ?_
      refine g_aload C 0 rfl d_Cu_add_170 ?_
      obtain ⟨fsh37, hoh37, hr⟩ := of_ob hr
      obtain ⟨h37, eh37, hr⟩ := of_bnd hr
      refine g_callV (pa := [.ref k14, .ref k36, .ref k14]) C hl0 (c_Mo_multiply eh37) cd_Cu_112 kw_in_Mo_multiply kw_se_Mo_multiply hoh37 rfl rfl (by decide) rfl rfl (Nat.le_of_ble_eq_true rfl) d_Cu_add_172 ?_
      refine g_aload_n C 5 rfl d_Cu_add_175 rfl ?_
      obtain ⟨k38, ek38, hr⟩ := of_bnd hr
      refine g_getR C fl_Cu_24 ek38 d_Cu_add_176 ?_
      refine g_aload_n C 7 rfl d_Cu_add_179 rfl ?_
      obtain ⟨k39, ek39, hr⟩ := of_bnd hr
      refine g_getR C fl_Cu_69 ek39 d_Cu_add_180 ?_
      refine g_aload C 0 rfl d_Cu_add_183 ?_
      refine g_aload C 1 rfl d_Cu_add_185 ?_
      obtain ⟨fsh40, hoh40, hr⟩ := of_ob hr
      obtain ⟨h40, eh40, hr⟩ := of_bnd hr
      refine g_callV (pa := [.ref k39, .ref k14, .ref k12]) C hl0 (c_Mo_multiply eh40) cd_Cu_112 kw_in_Mo_multiply kw_se_Mo_multiply hoh40 rfl rfl (by decide) rfl rfl (Nat.le_of_ble_eq_true rfl) d_Cu_add_187 ?_
      refine g_aload C 4 rfl d_Cu_add_190 ?_
      refine g_aload C 3 rfl d_Cu_add_192 ?_
      obtain ⟨v42, h41, eh41, hr⟩ := of_bnd2 hr
      refine g_callS (pa := [.ref k6, .ref k8]) C hl0 (c_Li_areSame eh41) cd_Cu_128 kw_st_Li_areSame (by decide) rfl rfl (Nat.le_of_ble_eq_true rfl) d_Cu_add_194 ?_
      refine g_if_ne (tgt := 210) C d_Cu_add_197 (by decide) (fun z => ?_) (fun z => ?_)
      · have hr := of_el z hr
        refine g_aload C 2 rfl d_Cu_add_210 ?_
        refine g_aload C 1 rfl d_Cu_add_212 ?_
        obtain ⟨v44, h43, eh43, hr⟩ := of_bnd2 hr
        refine g_callS (pa := [.ref k10, .ref k12]) C hl0 (c_Li_areSame eh43) cd_Cu_128 kw_st_Li_areSame (by decide) rfl rfl (Nat.le_of_ble_eq_true rfl) d_Cu_add_214 ?_
        refine g_if_eq (tgt := 229) C d_Cu_add_217 (by decide) (fun z => ?_) (fun z => ?_)
        · have hr := of_if z hr
          refine g_aload_n C 8 rfl d_Cu_add_229 rfl ?_
          obtain ⟨fsh45, hoh45, hr⟩ := of_ob hr
          obtain ⟨h45, eh45, hr⟩ := of_bnd hr
          refine g_callV (pa := []) C hl0 (c_Po_setNeutral eh45) cd_Cu_91 kw_in_Po_setNeutral kw_se_Po_setNeutral hoh45 rfl rfl (by decide) rfl rfl (Nat.le_of_ble_eq_true rfl) d_Cu_add_230 ?_
          refine g_lv [] rfl ?_
          exact bk_Cu_add_233 C T hl0 h45 hr
        · have hr := of_el z hr
          refine g_aload_n C 5 rfl d_Cu_add_220 rfl ?_
          refine g_aload_n C 6 rfl d_Cu_add_221 rfl ?_
          refine g_aload_n C 8 rfl d_Cu_add_222 rfl ?_
          obtain ⟨fsh46, hoh46, hr⟩ := of_ob hr
          obtain ⟨h46, eh46, hr⟩ := of_bnd hr
          refine g_callV (pa := [.ref p1, .ref p3]) C hl0 (c_Cu_twice eh46) cd_Cu_94 kw_in_Cu_twice kw_se_Cu_twice hoh46 rfl rfl (by decide) rfl rfl (Nat.le_of_ble_eq_true rfl) d_Cu_add_223 ?_
          refine g_goto (tgt := 233) C d_Cu_add_226 (by decide) ?_
          refine g_lv [] rfl ?_
          exact bk_Cu_add_233 C T hl0 h46 hr
      · have hr := of_if z hr
        refine g_aload_n C 5 rfl d_Cu_add_200 rfl ?_
        refine g_aload_n C 6 rfl d_Cu_add_201 rfl ?_
        refine g_aload_n C 7 rfl d_Cu_add_202 rfl ?_
        refine g_aload_n C 8 rfl d_Cu_add_203 rfl ?_
        obtain ⟨fsh47, hoh47, hr⟩ := of_ob hr
        obtain ⟨h47, eh47, hr⟩ := of_bnd hr
        refine g_callV (pa := [.ref p1, .ref p2, .ref p3]) C hl0 (c_Cu_addApart eh47) cd_Cu_139 kw_in_Cu_addApart kw_se_Cu_addApart hoh47 rfl rfl (by decide) rfl rfl (Nat.le_of_ble_eq_true rfl) d_Cu_add_204 ?_
        refine g_goto (tgt := 233) C d_Cu_add_207 (by decide) ?_
        refine g_lv [] rfl ?_
        exact bk_Cu_add_233 C T hl0 h47 hr
    · have hr := of_el z hr
      refine g_aload_n C 3 rfl d_Cu_add_20 rfl ?_
      refine g_aload_n C 2 rfl d_Cu_add_21 rfl ?_
      obtain ⟨fsh48, hoh48, hr⟩ := of_ob hr
      obtain ⟨h48, eh48, hr⟩ := of_bnd hr
      refine g_callV (pa := [.ref p2]) C hl0 (c_Po_set eh48) cd_Cu_136 kw_in_Po_set kw_se_Po_set hoh48 rfl rfl (by decide) rfl rfl (Nat.le_of_ble_eq_true rfl) d_Cu_add_22 ?_
      cases hr
      exact g_vreturn C T (by decide) (by decide) d_Cu_add_25
  · have hr := of_el z hr
    refine g_aload_n C 3 rfl d_Cu_add_7 rfl ?_
    refine g_aload_n C 1 rfl d_Cu_add_8 rfl ?_
    obtain ⟨fsh49, hoh49, hr⟩ := of_ob hr
    obtain ⟨h49, eh49, hr⟩ := of_bnd hr
    refine g_callV (pa := [.ref p1]) C hl0 (c_Po_set eh49) cd_Cu_136 kw_in_Po_set kw_se_Po_set hoh49 rfl rfl (by decide) rfl rfl (Nat.le_of_ble_eq_true rfl) d_Cu_add_9 ?_
    cases hr
    exact g_vreturn C T (by decide) (by decide) d_Cu_add_12
abbrev b_Cu_fillMultiples : ByteArray := prog_2_method_7_code
abbrev y_Cu_fillMultiples : MethodName := ⟨"PrimeKeys$Curve", "fillMultiples", "([LPrimeKeys$Point;)V"⟩
theorem d_Cu_fillMultiples_0 : decode b_Cu_fillMultiples 0 = .ok (.iconst 2, 1) := by decide +kernel
theorem d_Cu_fillMultiples_1 : decode b_Cu_fillMultiples 1 = .ok (.istore_n 2, 1) := by decide +kernel
theorem d_Cu_fillMultiples_2 : decode b_Cu_fillMultiples 2 = .ok (.iload_n 2, 1) := by decide +kernel
theorem d_Cu_fillMultiples_3 : decode b_Cu_fillMultiples 3 = .ok (.bipush 16, 2) := by decide +kernel
theorem d_Cu_fillMultiples_5 : decode b_Cu_fillMultiples 5 = .ok (.if_icmp .ge 45, 3) := by decide +kernel
theorem d_Cu_fillMultiples_8 : decode b_Cu_fillMultiples 8 = .ok (.iload_n 2, 1) := by decide +kernel
theorem d_Cu_fillMultiples_9 : decode b_Cu_fillMultiples 9 = .ok (.iconst 2, 1) := by decide +kernel
theorem d_Cu_fillMultiples_10 : decode b_Cu_fillMultiples 10 = .ok (.irem, 1) := by decide +kernel
theorem d_Cu_fillMultiples_11 : decode b_Cu_fillMultiples 11 = .ok (.ifCond .ne 18, 3) := by decide +kernel
theorem d_Cu_fillMultiples_14 : decode b_Cu_fillMultiples 14 = .ok (.aload_n 0, 1) := by decide +kernel
theorem d_Cu_fillMultiples_15 : decode b_Cu_fillMultiples 15 = .ok (.aload_n 1, 1) := by decide +kernel
theorem d_Cu_fillMultiples_16 : decode b_Cu_fillMultiples 16 = .ok (.iload_n 2, 1) := by decide +kernel
theorem d_Cu_fillMultiples_17 : decode b_Cu_fillMultiples 17 = .ok (.iconst 2, 1) := by decide +kernel
theorem d_Cu_fillMultiples_18 : decode b_Cu_fillMultiples 18 = .ok (.idiv, 1) := by decide +kernel
theorem d_Cu_fillMultiples_19 : decode b_Cu_fillMultiples 19 = .ok (.aaload, 1) := by decide +kernel
theorem d_Cu_fillMultiples_20 : decode b_Cu_fillMultiples 20 = .ok (.aload_n 1, 1) := by decide +kernel
theorem d_Cu_fillMultiples_21 : decode b_Cu_fillMultiples 21 = .ok (.iload_n 2, 1) := by decide +kernel
theorem d_Cu_fillMultiples_22 : decode b_Cu_fillMultiples 22 = .ok (.aaload, 1) := by decide +kernel
theorem d_Cu_fillMultiples_23 : decode b_Cu_fillMultiples 23 = .ok (.invokevirtual 94, 3) := by decide +kernel
theorem d_Cu_fillMultiples_26 : decode b_Cu_fillMultiples 26 = .ok (.goto 18, 3) := by decide +kernel
theorem d_Cu_fillMultiples_29 : decode b_Cu_fillMultiples 29 = .ok (.aload_n 0, 1) := by decide +kernel
theorem d_Cu_fillMultiples_30 : decode b_Cu_fillMultiples 30 = .ok (.aload_n 1, 1) := by decide +kernel
theorem d_Cu_fillMultiples_31 : decode b_Cu_fillMultiples 31 = .ok (.iload_n 2, 1) := by decide +kernel
theorem d_Cu_fillMultiples_32 : decode b_Cu_fillMultiples 32 = .ok (.iconst 1, 1) := by decide +kernel
theorem d_Cu_fillMultiples_33 : decode b_Cu_fillMultiples 33 = .ok (.isub, 1) := by decide +kernel
theorem d_Cu_fillMultiples_34 : decode b_Cu_fillMultiples 34 = .ok (.aaload, 1) := by decide +kernel
theorem d_Cu_fillMultiples_35 : decode b_Cu_fillMultiples 35 = .ok (.aload_n 1, 1) := by decide +kernel
theorem d_Cu_fillMultiples_36 : decode b_Cu_fillMultiples 36 = .ok (.iconst 1, 1) := by decide +kernel
theorem d_Cu_fillMultiples_37 : decode b_Cu_fillMultiples 37 = .ok (.aaload, 1) := by decide +kernel
theorem d_Cu_fillMultiples_38 : decode b_Cu_fillMultiples 38 = .ok (.aload_n 1, 1) := by decide +kernel
theorem d_Cu_fillMultiples_39 : decode b_Cu_fillMultiples 39 = .ok (.iload_n 2, 1) := by decide +kernel
theorem d_Cu_fillMultiples_40 : decode b_Cu_fillMultiples 40 = .ok (.aaload, 1) := by decide +kernel
theorem d_Cu_fillMultiples_41 : decode b_Cu_fillMultiples 41 = .ok (.invokevirtual 102, 3) := by decide +kernel
theorem d_Cu_fillMultiples_44 : decode b_Cu_fillMultiples 44 = .ok (.iinc 2 1, 3) := by decide +kernel
theorem d_Cu_fillMultiples_47 : decode b_Cu_fillMultiples 47 = .ok (.goto (-45), 3) := by decide +kernel
theorem d_Cu_fillMultiples_50 : decode b_Cu_fillMultiples 50 = .ok (.return_, 1) := by decide +kernel
theorem cd_Cu_102 : CD "PrimeKeys$Curve" 102 y_Cu_add b_Cu_add 9 none 3 := ⟨tb_1 (List.mem_of_getElem? (i := 207) rfl) rfl, tb_1 (List.mem_of_getElem? (i := 3) (by decide +kernel)) rfl, tb_1 (List.mem_of_getElem? (i := 204) (by decide +kernel)) rfl, by decide +kernel⟩
theorem kw_in_Cu_add : Cond.instanceMethod y_Cu_add ∈ TB := tb_1 (List.mem_of_getElem? (i := 206) (by decide +kernel)) rfl
theorem kw_se_Cu_add : Cond.selects "PrimeKeys$Curve" y_Cu_add y_Cu_add ∈ TB := tb_p (q := (y_Cu_add, 6)) (by decide +kernel)
abbrev rm_Cu_fillMultiples : Room := { frames := 5, cells := 0, slots := 0, locals := 140 }
def B_Cu_fillMultiples_44 (K2 : HP → Nat → Nat → Int32 → Option (HP)) (h : HP) (a0 : Nat) (a1 : Nat) (a2 : Int32) : Option (HP) :=
  lt (a2 + Int32.ofInt 1) fun x5 =>
  K2 h a0 a1 x5
set_option maxHeartbeats 4000000 in
set_option maxRecDepth 100000 in
theorem bk_Cu_fillMultiples_44 {l : Launch} {x : CX} {h0 h' : HP} (C : EV x b_Cu_fillMultiples "PrimeKeys$Curve" 3 rm_Cu_fillMultiples) (T : CT x (none) rm_Cu_fillMultiples h0 none h') (hl0 : x.1.2.1 = l) (K2 : HP → Nat → Nat → Int32 → Option (HP)) (hK2 : ∀ (h : HP) (a0 : Nat) (a1 : Nat) (a2 : Int32), K2 h a0 a1 a2 = some h' → GG x 0 0 h 2 [(0, .ref a0), (1, .ref a1), (2, .int a2)] []) (h : HP) (a0 : Nat) (a1 : Nat) (a2 : Int32) (hr : B_Cu_fillMultiples_44 K2 h a0 a1 a2 = some h') : GG x 0 0 h 44 [(0, .ref a0), (1, .ref a1), (2, .int a2)] [] := by
  unfold B_Cu_fillMultiples_44 at hr
  obtain ⟨x5, ex5⟩ : ∃ z, z = a2 + Int32.ofInt 1 := ⟨_, rfl⟩
  have hr := of_lt ex5 hr
  refine g_iinc (lv' := [(2, .int x5), (0, .ref a0), (1, .ref a1)]) C 2 rfl d_Cu_fillMultiples_44 ex5.symm (by decide) rfl ?_
  refine g_goto (tgt := 2) C d_Cu_fillMultiples_47 (by decide) ?_
  refine g_lv [1, 2, 0] rfl ?_
  exact hK2 h a0 a1 x5 hr
def B_Cu_fillMultiples_2 (K2 : HP → Nat → Nat → Int32 → Option (HP)) (h : HP) (a0 : Nat) (a1 : Nat) (a2 : Int32) : Option (HP) :=
  if 16 ≤ a2 then
  some h
  else
  if a2 - a2 / 2 * 2 = 0 then
  bnd (ldR h a1 3 (a2 / 2)) fun k6 =>
  bnd (ldR h a1 3 a2) fun k7 =>
  ob h a0 0 (
  bnd (P_Cu_twice h a0 k6 k7) fun h8 =>
  B_Cu_fillMultiples_44 K2 h8 a0 a1 a2)
  else
  bnd (ldR h a1 3 (a2 - 1)) fun k1 =>
  bnd (ldR h a1 3 1) fun k2 =>
  bnd (ldR h a1 3 a2) fun k3 =>
  ob h a0 0 (
  bnd (P_Cu_add h a0 k1 k2 k3) fun h4 =>
  B_Cu_fillMultiples_44 K2 h4 a0 a1 a2)
set_option maxHeartbeats 4000000 in
set_option maxRecDepth 100000 in
theorem bk_Cu_fillMultiples_2 {l : Launch} {x : CX} {h0 h' : HP} (C : EV x b_Cu_fillMultiples "PrimeKeys$Curve" 3 rm_Cu_fillMultiples) (T : CT x (none) rm_Cu_fillMultiples h0 none h') (hl0 : x.1.2.1 = l) (K2 : HP → Nat → Nat → Int32 → Option (HP)) (hK2 : ∀ (h : HP) (a0 : Nat) (a1 : Nat) (a2 : Int32), K2 h a0 a1 a2 = some h' → GG x 0 0 h 2 [(0, .ref a0), (1, .ref a1), (2, .int a2)] []) (h : HP) (a0 : Nat) (a1 : Nat) (a2 : Int32) (hr : B_Cu_fillMultiples_2 K2 h a0 a1 a2 = some h') : GG x 0 0 h 2 [(0, .ref a0), (1, .ref a1), (2, .int a2)] [] := by
  unfold B_Cu_fillMultiples_2 at hr
  refine g_iload_n C 2 rfl d_Cu_fillMultiples_2 rfl ?_
  refine g_bipush (v := 16) C d_Cu_fillMultiples_3 (by decide) ?_
  refine g_icmp_ge (tgt := 50) C d_Cu_fillMultiples_5 (by decide) (fun z => ?_) (fun z => ?_)
  · have hr := of_if z hr
    cases hr
    exact g_vreturn C T (by decide) (by decide) d_Cu_fillMultiples_50
  · have hr := of_el z hr
    refine g_iload_n C 2 rfl d_Cu_fillMultiples_8 rfl ?_
    refine g_iconst (v := 2) C d_Cu_fillMultiples_9 (by decide) ?_
    refine g_irem C d_Cu_fillMultiples_10 (by decide) ?_
    refine g_if_ne (tgt := 29) C d_Cu_fillMultiples_11 (by decide) (fun z => ?_) (fun z => ?_)
    · have hr := of_el z hr
      refine g_aload_n C 0 rfl d_Cu_fillMultiples_29 rfl ?_
      refine g_aload_n C 1 rfl d_Cu_fillMultiples_30 rfl ?_
      refine g_iload_n C 2 rfl d_Cu_fillMultiples_31 rfl ?_
      refine g_iconst (v := 1) C d_Cu_fillMultiples_32 (by decide) ?_
      refine g_isub C d_Cu_fillMultiples_33 ?_
      obtain ⟨k1, ek1, hr⟩ := of_bnd hr
      refine g_aaload C (by decide) ek1 d_Cu_fillMultiples_34 ?_
      refine g_aload_n C 1 rfl d_Cu_fillMultiples_35 rfl ?_
      refine g_iconst (v := 1) C d_Cu_fillMultiples_36 (by decide) ?_
      obtain ⟨k2, ek2, hr⟩ := of_bnd hr
      refine g_aaload C (by decide) ek2 d_Cu_fillMultiples_37 ?_
      refine g_aload_n C 1 rfl d_Cu_fillMultiples_38 rfl ?_
      refine g_iload_n C 2 rfl d_Cu_fillMultiples_39 rfl ?_
      obtain ⟨k3, ek3, hr⟩ := of_bnd hr
      refine g_aaload C (by decide) ek3 d_Cu_fillMultiples_40 ?_
      obtain ⟨fsh4, hoh4, hr⟩ := of_ob hr
      obtain ⟨h4, eh4, hr⟩ := of_bnd hr
      refine g_callV (pa := [.ref k1, .ref k2, .ref k3]) C hl0 (c_Cu_add eh4) cd_Cu_102 kw_in_Cu_add kw_se_Cu_add hoh4 rfl rfl (by decide) rfl rfl (Nat.le_of_ble_eq_true rfl) d_Cu_fillMultiples_41 ?_
      exact bk_Cu_fillMultiples_44 C T hl0 K2 hK2 h4 a0 a1 a2 hr
    · have hr := of_if z hr
      refine g_aload_n C 0 rfl d_Cu_fillMultiples_14 rfl ?_
      refine g_aload_n C 1 rfl d_Cu_fillMultiples_15 rfl ?_
      refine g_iload_n C 2 rfl d_Cu_fillMultiples_16 rfl ?_
      refine g_iconst (v := 2) C d_Cu_fillMultiples_17 (by decide) ?_
      refine g_idiv C d_Cu_fillMultiples_18 (by decide) ?_
      obtain ⟨k6, ek6, hr⟩ := of_bnd hr
      refine g_aaload C (by decide) ek6 d_Cu_fillMultiples_19 ?_
      refine g_aload_n C 1 rfl d_Cu_fillMultiples_20 rfl ?_
      refine g_iload_n C 2 rfl d_Cu_fillMultiples_21 rfl ?_
      obtain ⟨k7, ek7, hr⟩ := of_bnd hr
      refine g_aaload C (by decide) ek7 d_Cu_fillMultiples_22 ?_
      obtain ⟨fsh8, hoh8, hr⟩ := of_ob hr
      obtain ⟨h8, eh8, hr⟩ := of_bnd hr
      refine g_callV (pa := [.ref k6, .ref k7]) C hl0 (c_Cu_twice eh8) cd_Cu_94 kw_in_Cu_twice kw_se_Cu_twice hoh8 rfl rfl (by decide) rfl rfl (Nat.le_of_ble_eq_true rfl) d_Cu_fillMultiples_23 ?_
      refine g_goto (tgt := 44) C d_Cu_fillMultiples_26 (by decide) ?_
      exact bk_Cu_fillMultiples_44 C T hl0 K2 hK2 h8 a0 a1 a2 hr
def L_Cu_fillMultiples_2 : Nat → HP → Nat → Nat → Int32 → Option (HP)
  | 0, _, _, _, _ => none
  | f + 1, h, a0, a1, a2 => B_Cu_fillMultiples_2 (L_Cu_fillMultiples_2 f) h a0 a1 a2
theorem lp_Cu_fillMultiples_2 {l : Launch} {x : CX} {h0 h' : HP} (C : EV x b_Cu_fillMultiples "PrimeKeys$Curve" 3 rm_Cu_fillMultiples) (T : CT x (none) rm_Cu_fillMultiples h0 none h') (hl0 : x.1.2.1 = l) : ∀ (f : Nat) (h : HP) (a0 : Nat) (a1 : Nat) (a2 : Int32), L_Cu_fillMultiples_2 f h a0 a1 a2 = some h' → GG x 0 0 h 2 [(0, .ref a0), (1, .ref a1), (2, .int a2)] [] := by
  intro f
  induction f with
  | zero => intro h a0 a1 a2 hr; have hr : (none : Option (HP)) = some h' := hr; cases hr
  | succ f ih => intro h a0 a1 a2 hr; exact bk_Cu_fillMultiples_2 C T hl0 (L_Cu_fillMultiples_2 f) ih h a0 a1 a2 hr
def P_Cu_fillMultiples (h : HP) (p0 : Nat) (p1 : Nat) : Option (HP) :=
  L_Cu_fillMultiples_2 FU h p0 p1 2
set_option maxHeartbeats 4000000 in
set_option maxRecDepth 100000 in
theorem c_Cu_fillMultiples {l : Launch} {h h' : HP} {p0 p1 : _} (hr : P_Cu_fillMultiples h p0 p1 = some h') : MP l y_Cu_fillMultiples (Cond.code y_Cu_fillMultiples b_Cu_fillMultiples 3 none :: TB) rm_Cu_fillMultiples h [.ref p0, .ref p1] none h' := by
  refine MP_intro (cc := b_Cu_fillMultiples) (by decide) (Nat.le_of_ble_eq_true rfl) (fun x hl0 C T hin => ?_)
  unfold P_Cu_fillMultiples at hr
  show GG x 0 0 h 0 [(0, .ref p0), (1, .ref p1)] []
  refine g_iconst (v := 2) C d_Cu_fillMultiples_0 (by decide) ?_
  refine g_istore_n (lv' := [(2, .int 2), (0, .ref p0), (1, .ref p1)]) C d_Cu_fillMultiples_1 rfl (by decide) rfl ?_
  refine g_lv [1, 2, 0] rfl ?_
  exact lp_Cu_fillMultiples_2 C T hl0 FU h p0 p1 2 hr
abbrev b_Cu_isOnCurve : ByteArray := prog_2_method_6_code
abbrev y_Cu_isOnCurve : MethodName := ⟨"PrimeKeys$Curve", "isOnCurve", "(LPrimeKeys$Point;)Z"⟩
theorem d_Cu_isOnCurve_0 : decode b_Cu_isOnCurve 0 = .ok (.aload_n 0, 1) := by decide +kernel
theorem d_Cu_isOnCurve_1 : decode b_Cu_isOnCurve 1 = .ok (.getfield 45, 3) := by decide +kernel
theorem d_Cu_isOnCurve_4 : decode b_Cu_isOnCurve 4 = .ok (.iconst 0, 1) := by decide +kernel
theorem d_Cu_isOnCurve_5 : decode b_Cu_isOnCurve 5 = .ok (.aaload, 1) := by decide +kernel
theorem d_Cu_isOnCurve_6 : decode b_Cu_isOnCurve 6 = .ok (.astore_n 2, 1) := by decide +kernel
theorem d_Cu_isOnCurve_7 : decode b_Cu_isOnCurve 7 = .ok (.aload_n 0, 1) := by decide +kernel
theorem d_Cu_isOnCurve_8 : decode b_Cu_isOnCurve 8 = .ok (.getfield 45, 3) := by decide +kernel
theorem d_Cu_isOnCurve_11 : decode b_Cu_isOnCurve 11 = .ok (.iconst 1, 1) := by decide +kernel
theorem d_Cu_isOnCurve_12 : decode b_Cu_isOnCurve 12 = .ok (.aaload, 1) := by decide +kernel
theorem d_Cu_isOnCurve_13 : decode b_Cu_isOnCurve 13 = .ok (.astore_n 3, 1) := by decide +kernel
theorem d_Cu_isOnCurve_14 : decode b_Cu_isOnCurve 14 = .ok (.aload_n 0, 1) := by decide +kernel
theorem d_Cu_isOnCurve_15 : decode b_Cu_isOnCurve 15 = .ok (.getfield 24, 3) := by decide +kernel
theorem d_Cu_isOnCurve_18 : decode b_Cu_isOnCurve 18 = .ok (.aload_n 1, 1) := by decide +kernel
theorem d_Cu_isOnCurve_19 : decode b_Cu_isOnCurve 19 = .ok (.getfield 69, 3) := by decide +kernel
theorem d_Cu_isOnCurve_22 : decode b_Cu_isOnCurve 22 = .ok (.aload_n 1, 1) := by decide +kernel
theorem d_Cu_isOnCurve_23 : decode b_Cu_isOnCurve 23 = .ok (.getfield 69, 3) := by decide +kernel
theorem d_Cu_isOnCurve_26 : decode b_Cu_isOnCurve 26 = .ok (.aload_n 2, 1) := by decide +kernel
theorem d_Cu_isOnCurve_27 : decode b_Cu_isOnCurve 27 = .ok (.invokevirtual 112, 3) := by decide +kernel
theorem d_Cu_isOnCurve_30 : decode b_Cu_isOnCurve 30 = .ok (.aload_n 0, 1) := by decide +kernel
theorem d_Cu_isOnCurve_31 : decode b_Cu_isOnCurve 31 = .ok (.getfield 24, 3) := by decide +kernel
theorem d_Cu_isOnCurve_34 : decode b_Cu_isOnCurve 34 = .ok (.aload_n 1, 1) := by decide +kernel
theorem d_Cu_isOnCurve_35 : decode b_Cu_isOnCurve 35 = .ok (.getfield 63, 3) := by decide +kernel
theorem d_Cu_isOnCurve_38 : decode b_Cu_isOnCurve 38 = .ok (.aload_n 1, 1) := by decide +kernel
theorem d_Cu_isOnCurve_39 : decode b_Cu_isOnCurve 39 = .ok (.getfield 63, 3) := by decide +kernel
theorem d_Cu_isOnCurve_42 : decode b_Cu_isOnCurve 42 = .ok (.aload_n 3, 1) := by decide +kernel
theorem d_Cu_isOnCurve_43 : decode b_Cu_isOnCurve 43 = .ok (.invokevirtual 112, 3) := by decide +kernel
theorem d_Cu_isOnCurve_46 : decode b_Cu_isOnCurve 46 = .ok (.iconst 0, 1) := by decide +kernel
theorem d_Cu_isOnCurve_47 : decode b_Cu_isOnCurve 47 = .ok (.istore 4, 2) := by decide +kernel
theorem d_Cu_isOnCurve_49 : decode b_Cu_isOnCurve 49 = .ok (.iload 4, 2) := by decide +kernel
theorem d_Cu_isOnCurve_51 : decode b_Cu_isOnCurve 51 = .ok (.iconst 3, 1) := by decide +kernel
theorem d_Cu_isOnCurve_52 : decode b_Cu_isOnCurve 52 = .ok (.if_icmp .ge 22, 3) := by decide +kernel
theorem d_Cu_isOnCurve_55 : decode b_Cu_isOnCurve 55 = .ok (.aload_n 0, 1) := by decide +kernel
theorem d_Cu_isOnCurve_56 : decode b_Cu_isOnCurve 56 = .ok (.getfield 24, 3) := by decide +kernel
theorem d_Cu_isOnCurve_59 : decode b_Cu_isOnCurve 59 = .ok (.aload_n 3, 1) := by decide +kernel
theorem d_Cu_isOnCurve_60 : decode b_Cu_isOnCurve 60 = .ok (.aload_n 1, 1) := by decide +kernel
theorem d_Cu_isOnCurve_61 : decode b_Cu_isOnCurve 61 = .ok (.getfield 106, 3) := by decide +kernel
theorem d_Cu_isOnCurve_64 : decode b_Cu_isOnCurve 64 = .ok (.aload_n 3, 1) := by decide +kernel
theorem d_Cu_isOnCurve_65 : decode b_Cu_isOnCurve 65 = .ok (.invokevirtual 123, 3) := by decide +kernel
theorem d_Cu_isOnCurve_68 : decode b_Cu_isOnCurve 68 = .ok (.iinc 4 1, 3) := by decide +kernel
theorem d_Cu_isOnCurve_71 : decode b_Cu_isOnCurve 71 = .ok (.goto (-22), 3) := by decide +kernel
theorem d_Cu_isOnCurve_74 : decode b_Cu_isOnCurve 74 = .ok (.aload_n 0, 1) := by decide +kernel
theorem d_Cu_isOnCurve_75 : decode b_Cu_isOnCurve 75 = .ok (.getfield 24, 3) := by decide +kernel
theorem d_Cu_isOnCurve_78 : decode b_Cu_isOnCurve 78 = .ok (.aload_n 3, 1) := by decide +kernel
theorem d_Cu_isOnCurve_79 : decode b_Cu_isOnCurve 79 = .ok (.aload_n 1, 1) := by decide +kernel
theorem d_Cu_isOnCurve_80 : decode b_Cu_isOnCurve 80 = .ok (.getfield 63, 3) := by decide +kernel
theorem d_Cu_isOnCurve_83 : decode b_Cu_isOnCurve 83 = .ok (.aload_n 3, 1) := by decide +kernel
theorem d_Cu_isOnCurve_84 : decode b_Cu_isOnCurve 84 = .ok (.invokevirtual 112, 3) := by decide +kernel
theorem d_Cu_isOnCurve_87 : decode b_Cu_isOnCurve 87 = .ok (.aload_n 0, 1) := by decide +kernel
theorem d_Cu_isOnCurve_88 : decode b_Cu_isOnCurve 88 = .ok (.getfield 24, 3) := by decide +kernel
theorem d_Cu_isOnCurve_91 : decode b_Cu_isOnCurve 91 = .ok (.aload_n 3, 1) := by decide +kernel
theorem d_Cu_isOnCurve_92 : decode b_Cu_isOnCurve 92 = .ok (.aload_n 0, 1) := by decide +kernel
theorem d_Cu_isOnCurve_93 : decode b_Cu_isOnCurve 93 = .ok (.getfield 30, 3) := by decide +kernel
theorem d_Cu_isOnCurve_96 : decode b_Cu_isOnCurve 96 = .ok (.aload_n 3, 1) := by decide +kernel
theorem d_Cu_isOnCurve_97 : decode b_Cu_isOnCurve 97 = .ok (.invokevirtual 126, 3) := by decide +kernel
theorem d_Cu_isOnCurve_100 : decode b_Cu_isOnCurve 100 = .ok (.aload_n 2, 1) := by decide +kernel
theorem d_Cu_isOnCurve_101 : decode b_Cu_isOnCurve 101 = .ok (.aload_n 3, 1) := by decide +kernel
theorem d_Cu_isOnCurve_102 : decode b_Cu_isOnCurve 102 = .ok (.invokestatic 128, 3) := by decide +kernel
theorem d_Cu_isOnCurve_105 : decode b_Cu_isOnCurve 105 = .ok (.ireturn, 1) := by decide +kernel
theorem fl_Cu_30 : FL "PrimeKeys$Curve" 30 0 2 := ⟨R_Cu, F_Cu, 6, rfl, u_Cu, by decide, rfl, tb_1 (List.mem_of_getElem? (i := 236) (by decide +kernel)) rfl⟩
abbrev rm_Cu_isOnCurve : Room := { frames := 3, cells := 0, slots := 0, locals := 84 }
def B_Cu_isOnCurve_49 (K49 : HP → Nat → Nat → Nat → Nat → Int32 → Option (Int32 × HP)) (h : HP) (a0 : Nat) (a1 : Nat) (a2 : Nat) (a3 : Nat) (a4 : Int32) : Option (Int32 × HP) :=
  if 3 ≤ a4 then
  bnd (gR h a0 0 1) fun k13 =>
  bnd (gR h a1 3 0) fun k14 =>
  ob h k13 1 (
  bnd (P_Mo_multiply h k13 a3 k14 a3) fun h15 =>
  bnd (gR h15 a0 0 1) fun k16 =>
  bnd (gR h15 a0 0 2) fun k17 =>
  ob h15 k16 1 (
  bnd (P_Mo_add h15 k16 a3 k17 a3) fun h18 =>
  bnd2 (P_Li_areSame h18 a2 a3) fun v20 h19 =>
  gd (v20 = 0 ∨ v20 = 1) (some (v20, h19))))
  else
  bnd (gR h a0 0 1) fun k21 =>
  bnd (gR h a1 3 2) fun k22 =>
  ob h k21 1 (
  bnd (P_Mo_subtract h k21 a3 k22 a3) fun h23 =>
  lt (a4 + Int32.ofInt 1) fun x24 =>
  K49 h23 a0 a1 a2 a3 x24)
set_option maxHeartbeats 4000000 in
set_option maxRecDepth 100000 in
theorem bk_Cu_isOnCurve_49 {l : Launch} {x : CX} {h0 h' : HP} {r' : Int32} (C : EV x b_Cu_isOnCurve "PrimeKeys$Curve" 5 rm_Cu_isOnCurve) (T : CT x (some .boolean) rm_Cu_isOnCurve h0 (some (.int r')) h') (hl0 : x.1.2.1 = l) (K49 : HP → Nat → Nat → Nat → Nat → Int32 → Option (Int32 × HP)) (hK49 : ∀ (h : HP) (a0 : Nat) (a1 : Nat) (a2 : Nat) (a3 : Nat) (a4 : Int32), K49 h a0 a1 a2 a3 a4 = some (r', h') → GG x 0 0 h 49 [(0, .ref a0), (1, .ref a1), (2, .ref a2), (3, .ref a3), (4, .int a4)] []) (h : HP) (a0 : Nat) (a1 : Nat) (a2 : Nat) (a3 : Nat) (a4 : Int32) (hr : B_Cu_isOnCurve_49 K49 h a0 a1 a2 a3 a4 = some (r', h')) : GG x 0 0 h 49 [(0, .ref a0), (1, .ref a1), (2, .ref a2), (3, .ref a3), (4, .int a4)] [] := by
  unfold B_Cu_isOnCurve_49 at hr
  refine g_iload C 4 rfl d_Cu_isOnCurve_49 ?_
  refine g_iconst (v := 3) C d_Cu_isOnCurve_51 (by decide) ?_
  refine g_icmp_ge (tgt := 74) C d_Cu_isOnCurve_52 (by decide) (fun z => ?_) (fun z => ?_)
  · have hr := of_if z hr
    refine g_aload_n C 0 rfl d_Cu_isOnCurve_74 rfl ?_
    obtain ⟨k13, ek13, hr⟩ := of_bnd hr
    refine g_getR C fl_Cu_24 ek13 d_Cu_isOnCurve_75 ?_
    refine g_aload_n C 3 rfl d_Cu_isOnCurve_78 rfl ?_
    refine g_aload_n C 1 rfl d_Cu_isOnCurve_79 rfl ?_
    obtain ⟨k14, ek14, hr⟩ := of_bnd hr
    refine g_getR C fl_Cu_63 ek14 d_Cu_isOnCurve_80 ?_
    refine g_aload_n C 3 rfl d_Cu_isOnCurve_83 rfl ?_
    obtain ⟨fsh15, hoh15, hr⟩ := of_ob hr
    obtain ⟨h15, eh15, hr⟩ := of_bnd hr
    refine g_callV (pa := [.ref a3, .ref k14, .ref a3]) C hl0 (c_Mo_multiply eh15) cd_Cu_112 kw_in_Mo_multiply kw_se_Mo_multiply hoh15 rfl rfl (by decide) rfl rfl (Nat.le_of_ble_eq_true rfl) d_Cu_isOnCurve_84 ?_
    refine g_aload_n C 0 rfl d_Cu_isOnCurve_87 rfl ?_
    obtain ⟨k16, ek16, hr⟩ := of_bnd hr
    refine g_getR C fl_Cu_24 ek16 d_Cu_isOnCurve_88 ?_
    refine g_aload_n C 3 rfl d_Cu_isOnCurve_91 rfl ?_
    refine g_aload_n C 0 rfl d_Cu_isOnCurve_92 rfl ?_
    obtain ⟨k17, ek17, hr⟩ := of_bnd hr
    refine g_getR C fl_Cu_30 ek17 d_Cu_isOnCurve_93 ?_
    refine g_aload_n C 3 rfl d_Cu_isOnCurve_96 rfl ?_
    obtain ⟨fsh18, hoh18, hr⟩ := of_ob hr
    obtain ⟨h18, eh18, hr⟩ := of_bnd hr
    refine g_callV (pa := [.ref a3, .ref k17, .ref a3]) C hl0 (c_Mo_add eh18) cd_Cu_126 kw_in_Mo_add kw_se_Mo_add hoh18 rfl rfl (by decide) rfl rfl (Nat.le_of_ble_eq_true rfl) d_Cu_isOnCurve_97 ?_
    refine g_aload_n C 2 rfl d_Cu_isOnCurve_100 rfl ?_
    refine g_aload_n C 3 rfl d_Cu_isOnCurve_101 rfl ?_
    obtain ⟨v20, h19, eh19, hr⟩ := of_bnd2 hr
    refine g_callS (pa := [.ref a2, .ref a3]) C hl0 (c_Li_areSame eh19) cd_Cu_128 kw_st_Li_areSame (by decide) rfl rfl (Nat.le_of_ble_eq_true rfl) d_Cu_isOnCurve_102 ?_
    obtain ⟨hz, hr⟩ := of_gd hr
    cases hr
    exact g_ireturn C T (nar_z hz) (by decide) (by decide) d_Cu_isOnCurve_105
  · have hr := of_el z hr
    refine g_aload_n C 0 rfl d_Cu_isOnCurve_55 rfl ?_
    obtain ⟨k21, ek21, hr⟩ := of_bnd hr
    refine g_getR C fl_Cu_24 ek21 d_Cu_isOnCurve_56 ?_
    refine g_aload_n C 3 rfl d_Cu_isOnCurve_59 rfl ?_
    refine g_aload_n C 1 rfl d_Cu_isOnCurve_60 rfl ?_
    obtain ⟨k22, ek22, hr⟩ := of_bnd hr
    refine g_getR C fl_Cu_106 ek22 d_Cu_isOnCurve_61 ?_
    refine g_aload_n C 3 rfl d_Cu_isOnCurve_64 rfl ?_
    obtain ⟨fsh23, hoh23, hr⟩ := of_ob hr
    obtain ⟨h23, eh23, hr⟩ := of_bnd hr
    refine g_callV (pa := [.ref a3, .ref k22, .ref a3]) C hl0 (c_Mo_subtract eh23) cd_Cu_123 kw_in_Mo_subtract kw_se_Mo_subtract hoh23 rfl rfl (by decide) rfl rfl (Nat.le_of_ble_eq_true rfl) d_Cu_isOnCurve_65 ?_
    obtain ⟨x24, ex24⟩ : ∃ z, z = a4 + Int32.ofInt 1 := ⟨_, rfl⟩
    have hr := of_lt ex24 hr
    refine g_iinc (lv' := [(4, .int x24), (0, .ref a0), (1, .ref a1), (2, .ref a2), (3, .ref a3)]) C 4 rfl d_Cu_isOnCurve_68 ex24.symm (by decide) rfl ?_
    refine g_goto (tgt := 49) C d_Cu_isOnCurve_71 (by decide) ?_
    refine g_lv [1, 2, 3, 4, 0] rfl ?_
    exact hK49 h23 a0 a1 a2 a3 x24 hr
def L_Cu_isOnCurve_49 : Nat → HP → Nat → Nat → Nat → Nat → Int32 → Option (Int32 × HP)
  | 0, _, _, _, _, _, _ => none
  | f + 1, h, a0, a1, a2, a3, a4 => B_Cu_isOnCurve_49 (L_Cu_isOnCurve_49 f) h a0 a1 a2 a3 a4
theorem lp_Cu_isOnCurve_49 {l : Launch} {x : CX} {h0 h' : HP} {r' : Int32} (C : EV x b_Cu_isOnCurve "PrimeKeys$Curve" 5 rm_Cu_isOnCurve) (T : CT x (some .boolean) rm_Cu_isOnCurve h0 (some (.int r')) h') (hl0 : x.1.2.1 = l) : ∀ (f : Nat) (h : HP) (a0 : Nat) (a1 : Nat) (a2 : Nat) (a3 : Nat) (a4 : Int32), L_Cu_isOnCurve_49 f h a0 a1 a2 a3 a4 = some (r', h') → GG x 0 0 h 49 [(0, .ref a0), (1, .ref a1), (2, .ref a2), (3, .ref a3), (4, .int a4)] [] := by
  intro f
  induction f with
  | zero => intro h a0 a1 a2 a3 a4 hr; have hr : (none : Option (Int32 × HP)) = some (r', h') := hr; cases hr
  | succ f ih => intro h a0 a1 a2 a3 a4 hr; exact bk_Cu_isOnCurve_49 C T hl0 (L_Cu_isOnCurve_49 f) ih h a0 a1 a2 a3 a4 hr
def P_Cu_isOnCurve (h : HP) (p0 : Nat) (p1 : Nat) : Option (Int32 × HP) :=
  bnd (gR h p0 0 5) fun k1 =>
  bnd (ldR h k1 5 0) fun k2 =>
  bnd (gR h p0 0 5) fun k3 =>
  bnd (ldR h k3 5 1) fun k4 =>
  bnd (gR h p0 0 1) fun k5 =>
  bnd (gR h p1 3 1) fun k6 =>
  bnd (gR h p1 3 1) fun k7 =>
  ob h k5 1 (
  bnd (P_Mo_multiply h k5 k6 k7 k2) fun h8 =>
  bnd (gR h8 p0 0 1) fun k9 =>
  bnd (gR h8 p1 3 0) fun k10 =>
  bnd (gR h8 p1 3 0) fun k11 =>
  ob h8 k9 1 (
  bnd (P_Mo_multiply h8 k9 k10 k11 k4) fun h12 =>
  L_Cu_isOnCurve_49 FU h12 p0 p1 k2 k4 0))
set_option maxHeartbeats 4000000 in
set_option maxRecDepth 100000 in
theorem c_Cu_isOnCurve {l : Launch} {h h' : HP} {p0 p1 : _} {r' : Int32} (hr : P_Cu_isOnCurve h p0 p1 = some (r', h')) : MP l y_Cu_isOnCurve (Cond.code y_Cu_isOnCurve b_Cu_isOnCurve 5 (some .boolean) :: TB) rm_Cu_isOnCurve h [.ref p0, .ref p1] (some (.int r')) h' := by
  refine MP_intro (cc := b_Cu_isOnCurve) (by decide) (Nat.le_of_ble_eq_true rfl) (fun x hl0 C T hin => ?_)
  unfold P_Cu_isOnCurve at hr
  show GG x 0 0 h 0 [(0, .ref p0), (1, .ref p1)] []
  refine g_aload_n C 0 rfl d_Cu_isOnCurve_0 rfl ?_
  obtain ⟨k1, ek1, hr⟩ := of_bnd hr
  refine g_getR C fl_Cu_45 ek1 d_Cu_isOnCurve_1 ?_
  refine g_iconst (v := 0) C d_Cu_isOnCurve_4 (by decide) ?_
  obtain ⟨k2, ek2, hr⟩ := of_bnd hr
  refine g_aaload C (by decide) ek2 d_Cu_isOnCurve_5 ?_
  refine g_astore_n (lv' := [(2, .ref k2), (0, .ref p0), (1, .ref p1)]) C d_Cu_isOnCurve_6 rfl (by decide) rfl ?_
  refine g_aload_n C 1 rfl d_Cu_isOnCurve_7 rfl ?_
  obtain ⟨k3, ek3, hr⟩ := of_bnd hr
  refine g_getR C fl_Cu_45 ek3 d_Cu_isOnCurve_8 ?_
  refine g_iconst (v := 1) C d_Cu_isOnCurve_11 (by decide) ?_
  obtain ⟨k4, ek4, hr⟩ := of_bnd hr
  refine g_aaload C (by decide) ek4 d_Cu_isOnCurve_12 ?_
  refine g_astore_n (lv' := [(3, .ref k4), (2, .ref k2), (0, .ref p0), (1, .ref p1)]) C d_Cu_isOnCurve_13 rfl (by decide) rfl ?_
  refine g_aload_n C 2 rfl d_Cu_isOnCurve_14 rfl ?_
  obtain ⟨k5, ek5, hr⟩ := of_bnd hr
  refine g_getR C fl_Cu_24 ek5 d_Cu_isOnCurve_15 ?_
  refine g_aload_n C 3 rfl d_Cu_isOnCurve_18 rfl ?_
  obtain ⟨k6, ek6, hr⟩ := of_bnd hr
  refine g_getR C fl_Cu_69 ek6 d_Cu_isOnCurve_19 ?_
  refine g_aload_n C 3 rfl d_Cu_isOnCurve_22 rfl ?_
  obtain ⟨k7, ek7, hr⟩ := of_bnd hr
  refine g_getR C fl_Cu_69 ek7 d_Cu_isOnCurve_23 ?_
  refine g_aload_n C 1 rfl d_Cu_isOnCurve_26 rfl ?_
  obtain ⟨fsh8, hoh8, hr⟩ := of_ob hr
  obtain ⟨h8, eh8, hr⟩ := of_bnd hr
  refine g_callV (pa := [.ref k6, .ref k7, .ref k2]) C hl0 (c_Mo_multiply eh8) cd_Cu_112 kw_in_Mo_multiply kw_se_Mo_multiply hoh8 rfl rfl (by decide) rfl rfl (Nat.le_of_ble_eq_true rfl) d_Cu_isOnCurve_27 ?_
  refine g_aload_n C 2 rfl d_Cu_isOnCurve_30 rfl ?_
  obtain ⟨k9, ek9, hr⟩ := of_bnd hr
  refine g_getR C fl_Cu_24 ek9 d_Cu_isOnCurve_31 ?_
  refine g_aload_n C 3 rfl d_Cu_isOnCurve_34 rfl ?_
  obtain ⟨k10, ek10, hr⟩ := of_bnd hr
  refine g_getR C fl_Cu_63 ek10 d_Cu_isOnCurve_35 ?_
  refine g_aload_n C 3 rfl d_Cu_isOnCurve_38 rfl ?_
  obtain ⟨k11, ek11, hr⟩ := of_bnd hr
  refine g_getR C fl_Cu_63 ek11 d_Cu_isOnCurve_39 ?_
  refine g_aload_n C 0 rfl d_Cu_isOnCurve_42 rfl ?_
  obtain ⟨fsh12, hoh12, hr⟩ := of_ob hr
  obtain ⟨h12, eh12, hr⟩ := of_bnd hr
  refine g_callV (pa := [.ref k10, .ref k11, .ref k4]) C hl0 (c_Mo_multiply eh12) cd_Cu_112 kw_in_Mo_multiply kw_se_Mo_multiply hoh12 rfl rfl (by decide) rfl rfl (Nat.le_of_ble_eq_true rfl) d_Cu_isOnCurve_43 ?_
  refine g_iconst (v := 0) C d_Cu_isOnCurve_46 (by decide) ?_
  refine g_istore (lv' := [(4, .int 0), (3, .ref k4), (2, .ref k2), (0, .ref p0), (1, .ref p1)]) C d_Cu_isOnCurve_47 (by decide) rfl ?_
  refine g_lv [3, 4, 2, 1, 0] rfl ?_
  exact lp_Cu_isOnCurve_49 C T hl0 FU h12 p0 p1 k2 k4 0 hr
abbrev b_Cu_readAffine : ByteArray := prog_2_method_4_code
abbrev y_Cu_readAffine : MethodName := ⟨"PrimeKeys$Curve", "readAffine", "(LPrimeKeys$Point;[J[J)V"⟩
theorem d_Cu_readAffine_0 : decode b_Cu_readAffine 0 = .ok (.aload_n 0, 1) := by decide +kernel
theorem d_Cu_readAffine_1 : decode b_Cu_readAffine 1 = .ok (.getfield 45, 3) := by decide +kernel
theorem d_Cu_readAffine_4 : decode b_Cu_readAffine 4 = .ok (.iconst 0, 1) := by decide +kernel
theorem d_Cu_readAffine_5 : decode b_Cu_readAffine 5 = .ok (.aaload, 1) := by decide +kernel
theorem d_Cu_readAffine_6 : decode b_Cu_readAffine 6 = .ok (.astore 4, 2) := by decide +kernel
theorem d_Cu_readAffine_8 : decode b_Cu_readAffine 8 = .ok (.aload_n 0, 1) := by decide +kernel
theorem d_Cu_readAffine_9 : decode b_Cu_readAffine 9 = .ok (.getfield 45, 3) := by decide +kernel
theorem d_Cu_readAffine_12 : decode b_Cu_readAffine 12 = .ok (.iconst 1, 1) := by decide +kernel
theorem d_Cu_readAffine_13 : decode b_Cu_readAffine 13 = .ok (.aaload, 1) := by decide +kernel
theorem d_Cu_readAffine_14 : decode b_Cu_readAffine 14 = .ok (.astore 5, 2) := by decide +kernel
theorem d_Cu_readAffine_16 : decode b_Cu_readAffine 16 = .ok (.aload_n 0, 1) := by decide +kernel
theorem d_Cu_readAffine_17 : decode b_Cu_readAffine 17 = .ok (.getfield 24, 3) := by decide +kernel
theorem d_Cu_readAffine_20 : decode b_Cu_readAffine 20 = .ok (.aload_n 1, 1) := by decide +kernel
theorem d_Cu_readAffine_21 : decode b_Cu_readAffine 21 = .ok (.getfield 106, 3) := by decide +kernel
theorem d_Cu_readAffine_24 : decode b_Cu_readAffine 24 = .ok (.aload 4, 2) := by decide +kernel
theorem d_Cu_readAffine_26 : decode b_Cu_readAffine 26 = .ok (.invokevirtual 109, 3) := by decide +kernel
theorem d_Cu_readAffine_29 : decode b_Cu_readAffine 29 = .ok (.aload_n 0, 1) := by decide +kernel
theorem d_Cu_readAffine_30 : decode b_Cu_readAffine 30 = .ok (.getfield 24, 3) := by decide +kernel
theorem d_Cu_readAffine_33 : decode b_Cu_readAffine 33 = .ok (.aload 4, 2) := by decide +kernel
theorem d_Cu_readAffine_35 : decode b_Cu_readAffine 35 = .ok (.aload 4, 2) := by decide +kernel
theorem d_Cu_readAffine_37 : decode b_Cu_readAffine 37 = .ok (.aload 5, 2) := by decide +kernel
theorem d_Cu_readAffine_39 : decode b_Cu_readAffine 39 = .ok (.invokevirtual 112, 3) := by decide +kernel
theorem d_Cu_readAffine_42 : decode b_Cu_readAffine 42 = .ok (.aload_n 0, 1) := by decide +kernel
theorem d_Cu_readAffine_43 : decode b_Cu_readAffine 43 = .ok (.getfield 24, 3) := by decide +kernel
theorem d_Cu_readAffine_46 : decode b_Cu_readAffine 46 = .ok (.aload_n 1, 1) := by decide +kernel
theorem d_Cu_readAffine_47 : decode b_Cu_readAffine 47 = .ok (.getfield 63, 3) := by decide +kernel
theorem d_Cu_readAffine_50 : decode b_Cu_readAffine 50 = .ok (.aload 5, 2) := by decide +kernel
theorem d_Cu_readAffine_52 : decode b_Cu_readAffine 52 = .ok (.aload_n 2, 1) := by decide +kernel
theorem d_Cu_readAffine_53 : decode b_Cu_readAffine 53 = .ok (.invokevirtual 112, 3) := by decide +kernel
theorem d_Cu_readAffine_56 : decode b_Cu_readAffine 56 = .ok (.aload_n 0, 1) := by decide +kernel
theorem d_Cu_readAffine_57 : decode b_Cu_readAffine 57 = .ok (.getfield 24, 3) := by decide +kernel
theorem d_Cu_readAffine_60 : decode b_Cu_readAffine 60 = .ok (.aload 5, 2) := by decide +kernel
theorem d_Cu_readAffine_62 : decode b_Cu_readAffine 62 = .ok (.aload 4, 2) := by decide +kernel
theorem d_Cu_readAffine_64 : decode b_Cu_readAffine 64 = .ok (.aload 5, 2) := by decide +kernel
theorem d_Cu_readAffine_66 : decode b_Cu_readAffine 66 = .ok (.invokevirtual 112, 3) := by decide +kernel
theorem d_Cu_readAffine_69 : decode b_Cu_readAffine 69 = .ok (.aload_n 0, 1) := by decide +kernel
theorem d_Cu_readAffine_70 : decode b_Cu_readAffine 70 = .ok (.getfield 24, 3) := by decide +kernel
theorem d_Cu_readAffine_73 : decode b_Cu_readAffine 73 = .ok (.aload_n 1, 1) := by decide +kernel
theorem d_Cu_readAffine_74 : decode b_Cu_readAffine 74 = .ok (.getfield 69, 3) := by decide +kernel
theorem d_Cu_readAffine_77 : decode b_Cu_readAffine 77 = .ok (.aload 5, 2) := by decide +kernel
theorem d_Cu_readAffine_79 : decode b_Cu_readAffine 79 = .ok (.aload_n 3, 1) := by decide +kernel
theorem d_Cu_readAffine_80 : decode b_Cu_readAffine 80 = .ok (.invokevirtual 112, 3) := by decide +kernel
theorem d_Cu_readAffine_83 : decode b_Cu_readAffine 83 = .ok (.aload_n 0, 1) := by decide +kernel
theorem d_Cu_readAffine_84 : decode b_Cu_readAffine 84 = .ok (.getfield 24, 3) := by decide +kernel
theorem d_Cu_readAffine_87 : decode b_Cu_readAffine 87 = .ok (.aload_n 2, 1) := by decide +kernel
theorem d_Cu_readAffine_88 : decode b_Cu_readAffine 88 = .ok (.aload_n 2, 1) := by decide +kernel
theorem d_Cu_readAffine_89 : decode b_Cu_readAffine 89 = .ok (.invokevirtual 116, 3) := by decide +kernel
theorem d_Cu_readAffine_92 : decode b_Cu_readAffine 92 = .ok (.aload_n 0, 1) := by decide +kernel
theorem d_Cu_readAffine_93 : decode b_Cu_readAffine 93 = .ok (.getfield 24, 3) := by decide +kernel
theorem d_Cu_readAffine_96 : decode b_Cu_readAffine 96 = .ok (.aload_n 3, 1) := by decide +kernel
theorem d_Cu_readAffine_97 : decode b_Cu_readAffine 97 = .ok (.aload_n 3, 1) := by decide +kernel
theorem d_Cu_readAffine_98 : decode b_Cu_readAffine 98 = .ok (.invokevirtual 116, 3) := by decide +kernel
theorem d_Cu_readAffine_101 : decode b_Cu_readAffine 101 = .ok (.return_, 1) := by decide +kernel
theorem cd_Cu_116 : CD "PrimeKeys$Curve" 116 y_Mo_leaveForm b_Mo_leaveForm 3 none 2 := ⟨tb_3 (List.mem_of_getElem? (i := 136) rfl) rfl, tb_1 (List.mem_of_getElem? (i := 4) (by decide +kernel)) rfl, tb_3 (List.mem_of_getElem? (i := 133) (by decide +kernel)) rfl, by decide +kernel⟩
theorem kw_in_Mo_leaveForm : Cond.instanceMethod y_Mo_leaveForm ∈ TB := tb_3 (List.mem_of_getElem? (i := 134) (by decide +kernel)) rfl
theorem kw_se_Mo_leaveForm : Cond.selects "PrimeKeys$Modulus" y_Mo_leaveForm y_Mo_leaveForm ∈ TB := tb_3 (List.mem_of_getElem? (i := 135) (by decide +kernel)) rfl
theorem cd_Cu_109 : CD "PrimeKeys$Curve" 109 y_Mo_invert b_Mo_invert 4 none 2 := ⟨tb_3 (List.mem_of_getElem? (i := 132) rfl) rfl, tb_1 (List.mem_of_getElem? (i := 4) (by decide +kernel)) rfl, tb_3 (List.mem_of_getElem? (i := 129) (by decide +kernel)) rfl, by decide +kernel⟩
theorem kw_in_Mo_invert : Cond.instanceMethod y_Mo_invert ∈ TB := tb_3 (List.mem_of_getElem? (i := 130) (by decide +kernel)) rfl
theorem kw_se_Mo_invert : Cond.selects "PrimeKeys$Modulus" y_Mo_invert y_Mo_invert ∈ TB := tb_3 (List.mem_of_getElem? (i := 131) (by decide +kernel)) rfl
abbrev rm_Cu_readAffine : Room := { frames := 4, cells := 0, slots := 0, locals := 107 }
def P_Cu_readAffine (h : HP) (p0 : Nat) (p1 : Nat) (p2 : Nat) (p3 : Nat) : Option (HP) :=
  bnd (gR h p0 0 5) fun k1 =>
  bnd (ldR h k1 5 0) fun k2 =>
  bnd (gR h p0 0 5) fun k3 =>
  bnd (ldR h k3 5 1) fun k4 =>
  bnd (gR h p0 0 1) fun k5 =>
  bnd (gR h p1 3 2) fun k6 =>
  ob h k5 1 (
  bnd (P_Mo_invert h k5 k6 k2) fun h7 =>
  bnd (gR h7 p0 0 1) fun k8 =>
  ob h7 k8 1 (
  bnd (P_Mo_multiply h7 k8 k2 k2 k4) fun h9 =>
  bnd (gR h9 p0 0 1) fun k10 =>
  bnd (gR h9 p1 3 0) fun k11 =>
  ob h9 k10 1 (
  bnd (P_Mo_multiply h9 k10 k11 k4 p2) fun h12 =>
  bnd (gR h12 p0 0 1) fun k13 =>
  ob h12 k13 1 (
  bnd (P_Mo_multiply h12 k13 k4 k2 k4) fun h14 =>
  bnd (gR h14 p0 0 1) fun k15 =>
  bnd (gR h14 p1 3 1) fun k16 =>
  ob h14 k15 1 (
  bnd (P_Mo_multiply h14 k15 k16 k4 p3) fun h17 =>
  bnd (gR h17 p0 0 1) fun k18 =>
  ob h17 k18 1 (
  bnd (P_Mo_leaveForm h17 k18 p2 p2) fun h19 =>
  bnd (gR h19 p0 0 1) fun k20 =>
  ob h19 k20 1 (
  bnd (P_Mo_leaveForm h19 k20 p3 p3) fun h21 =>
  some h21)))))))
set_option maxHeartbeats 4000000 in
set_option maxRecDepth 100000 in
theorem c_Cu_readAffine {l : Launch} {h h' : HP} {p0 p1 p2 p3 : _} (hr : P_Cu_readAffine h p0 p1 p2 p3 = some h') : MP l y_Cu_readAffine (Cond.code y_Cu_readAffine b_Cu_readAffine 6 none :: TB) rm_Cu_readAffine h [.ref p0, .ref p1, .ref p2, .ref p3] none h' := by
  refine MP_intro (cc := b_Cu_readAffine) (by decide) (Nat.le_of_ble_eq_true rfl) (fun x hl0 C T hin => ?_)
  unfold P_Cu_readAffine at hr
  show GG x 0 0 h 0 [(0, .ref p0), (1, .ref p1), (2, .ref p2), (3, .ref p3)] []
  refine g_aload_n C 0 rfl d_Cu_readAffine_0 rfl ?_
  obtain ⟨k1, ek1, hr⟩ := of_bnd hr
  refine g_getR C fl_Cu_45 ek1 d_Cu_readAffine_1 ?_
  refine g_iconst (v := 0) C d_Cu_readAffine_4 (by decide) ?_
  obtain ⟨k2, ek2, hr⟩ := of_bnd hr
  refine g_aaload C (by decide) ek2 d_Cu_readAffine_5 ?_
  refine g_astore (lv' := [(4, .ref k2), (0, .ref p0), (1, .ref p1), (2, .ref p2), (3, .ref p3)]) C d_Cu_readAffine_6 (by decide) rfl ?_
  refine g_aload_n C 1 rfl d_Cu_readAffine_8 rfl ?_
  obtain ⟨k3, ek3, hr⟩ := of_bnd hr
  refine g_getR C fl_Cu_45 ek3 d_Cu_readAffine_9 ?_
  refine g_iconst (v := 1) C d_Cu_readAffine_12 (by decide) ?_
  obtain ⟨k4, ek4, hr⟩ := of_bnd hr
  refine g_aaload C (by decide) ek4 d_Cu_readAffine_13 ?_
  refine g_astore (lv' := [(5, .ref k4), (4, .ref k2), (0, .ref p0), (1, .ref p1), (2, .ref p2), (3, .ref p3)]) C d_Cu_readAffine_14 (by decide) rfl ?_
  refine g_aload_n C 2 rfl d_Cu_readAffine_16 rfl ?_
  obtain ⟨k5, ek5, hr⟩ := of_bnd hr
  refine g_getR C fl_Cu_24 ek5 d_Cu_readAffine_17 ?_
  refine g_aload_n C 3 rfl d_Cu_readAffine_20 rfl ?_
  obtain ⟨k6, ek6, hr⟩ := of_bnd hr
  refine g_getR C fl_Cu_106 ek6 d_Cu_readAffine_21 ?_
  refine g_aload C 1 rfl d_Cu_readAffine_24 ?_
  obtain ⟨fsh7, hoh7, hr⟩ := of_ob hr
  obtain ⟨h7, eh7, hr⟩ := of_bnd hr
  refine g_callV (pa := [.ref k6, .ref k2]) C hl0 (c_Mo_invert eh7) cd_Cu_109 kw_in_Mo_invert kw_se_Mo_invert hoh7 rfl rfl (by decide) rfl rfl (Nat.le_of_ble_eq_true rfl) d_Cu_readAffine_26 ?_
  refine g_aload_n C 2 rfl d_Cu_readAffine_29 rfl ?_
  obtain ⟨k8, ek8, hr⟩ := of_bnd hr
  refine g_getR C fl_Cu_24 ek8 d_Cu_readAffine_30 ?_
  refine g_aload C 1 rfl d_Cu_readAffine_33 ?_
  refine g_aload C 1 rfl d_Cu_readAffine_35 ?_
  refine g_aload C 0 rfl d_Cu_readAffine_37 ?_
  obtain ⟨fsh9, hoh9, hr⟩ := of_ob hr
  obtain ⟨h9, eh9, hr⟩ := of_bnd hr
  refine g_callV (pa := [.ref k2, .ref k2, .ref k4]) C hl0 (c_Mo_multiply eh9) cd_Cu_112 kw_in_Mo_multiply kw_se_Mo_multiply hoh9 rfl rfl (by decide) rfl rfl (Nat.le_of_ble_eq_true rfl) d_Cu_readAffine_39 ?_
  refine g_aload_n C 2 rfl d_Cu_readAffine_42 rfl ?_
  obtain ⟨k10, ek10, hr⟩ := of_bnd hr
  refine g_getR C fl_Cu_24 ek10 d_Cu_readAffine_43 ?_
  refine g_aload_n C 3 rfl d_Cu_readAffine_46 rfl ?_
  obtain ⟨k11, ek11, hr⟩ := of_bnd hr
  refine g_getR C fl_Cu_63 ek11 d_Cu_readAffine_47 ?_
  refine g_aload C 0 rfl d_Cu_readAffine_50 ?_
  refine g_aload_n C 4 rfl d_Cu_readAffine_52 rfl ?_
  obtain ⟨fsh12, hoh12, hr⟩ := of_ob hr
  obtain ⟨h12, eh12, hr⟩ := of_bnd hr
  refine g_callV (pa := [.ref k11, .ref k4, .ref p2]) C hl0 (c_Mo_multiply eh12) cd_Cu_112 kw_in_Mo_multiply kw_se_Mo_multiply hoh12 rfl rfl (by decide) rfl rfl (Nat.le_of_ble_eq_true rfl) d_Cu_readAffine_53 ?_
  refine g_aload_n C 2 rfl d_Cu_readAffine_56 rfl ?_
  obtain ⟨k13, ek13, hr⟩ := of_bnd hr
  refine g_getR C fl_Cu_24 ek13 d_Cu_readAffine_57 ?_
  refine g_aload C 0 rfl d_Cu_readAffine_60 ?_
  refine g_aload C 1 rfl d_Cu_readAffine_62 ?_
  refine g_aload C 0 rfl d_Cu_readAffine_64 ?_
  obtain ⟨fsh14, hoh14, hr⟩ := of_ob hr
  obtain ⟨h14, eh14, hr⟩ := of_bnd hr
  refine g_callV (pa := [.ref k4, .ref k2, .ref k4]) C hl0 (c_Mo_multiply eh14) cd_Cu_112 kw_in_Mo_multiply kw_se_Mo_multiply hoh14 rfl rfl (by decide) rfl rfl (Nat.le_of_ble_eq_true rfl) d_Cu_readAffine_66 ?_
  refine g_aload_n C 2 rfl d_Cu_readAffine_69 rfl ?_
  obtain ⟨k15, ek15, hr⟩ := of_bnd hr
  refine g_getR C fl_Cu_24 ek15 d_Cu_readAffine_70 ?_
  refine g_aload_n C 3 rfl d_Cu_readAffine_73 rfl ?_
  obtain ⟨k16, ek16, hr⟩ := of_bnd hr
  refine g_getR C fl_Cu_69 ek16 d_Cu_readAffine_74 ?_
  refine g_aload C 0 rfl d_Cu_readAffine_77 ?_
  refine g_aload_n C 5 rfl d_Cu_readAffine_79 rfl ?_
  obtain ⟨fsh17, hoh17, hr⟩ := of_ob hr
  obtain ⟨h17, eh17, hr⟩ := of_bnd hr
  refine g_callV (pa := [.ref k16, .ref k4, .ref p3]) C hl0 (c_Mo_multiply eh17) cd_Cu_112 kw_in_Mo_multiply kw_se_Mo_multiply hoh17 rfl rfl (by decide) rfl rfl (Nat.le_of_ble_eq_true rfl) d_Cu_readAffine_80 ?_
  refine g_aload_n C 2 rfl d_Cu_readAffine_83 rfl ?_
  obtain ⟨k18, ek18, hr⟩ := of_bnd hr
  refine g_getR C fl_Cu_24 ek18 d_Cu_readAffine_84 ?_
  refine g_aload_n C 4 rfl d_Cu_readAffine_87 rfl ?_
  refine g_aload_n C 4 rfl d_Cu_readAffine_88 rfl ?_
  obtain ⟨fsh19, hoh19, hr⟩ := of_ob hr
  obtain ⟨h19, eh19, hr⟩ := of_bnd hr
  refine g_callV (pa := [.ref p2, .ref p2]) C hl0 (c_Mo_leaveForm eh19) cd_Cu_116 kw_in_Mo_leaveForm kw_se_Mo_leaveForm hoh19 rfl rfl (by decide) rfl rfl (Nat.le_of_ble_eq_true rfl) d_Cu_readAffine_89 ?_
  refine g_aload_n C 2 rfl d_Cu_readAffine_92 rfl ?_
  obtain ⟨k20, ek20, hr⟩ := of_bnd hr
  refine g_getR C fl_Cu_24 ek20 d_Cu_readAffine_93 ?_
  refine g_aload_n C 5 rfl d_Cu_readAffine_96 rfl ?_
  refine g_aload_n C 5 rfl d_Cu_readAffine_97 rfl ?_
  obtain ⟨fsh21, hoh21, hr⟩ := of_ob hr
  obtain ⟨h21, eh21, hr⟩ := of_bnd hr
  refine g_callV (pa := [.ref p3, .ref p3]) C hl0 (c_Mo_leaveForm eh21) cd_Cu_116 kw_in_Mo_leaveForm kw_se_Mo_leaveForm hoh21 rfl rfl (by decide) rfl rfl (Nat.le_of_ble_eq_true rfl) d_Cu_readAffine_98 ?_
  cases hr
  exact g_vreturn C T (by decide) (by decide) d_Cu_readAffine_101
abbrev b_Cu_takesOther : ByteArray := prog_2_method_2_code
abbrev y_Cu_takesOther : MethodName := ⟨"PrimeKeys$Curve", "takesOther", "([B)Z"⟩
theorem d_Cu_takesOther_0 : decode b_Cu_takesOther 0 = .ok (.aload_n 0, 1) := by decide +kernel
theorem d_Cu_takesOther_1 : decode b_Cu_takesOther 1 = .ok (.getfield 40, 3) := by decide +kernel
theorem d_Cu_takesOther_4 : decode b_Cu_takesOther 4 = .ok (.iconst 1, 1) := by decide +kernel
theorem d_Cu_takesOther_5 : decode b_Cu_takesOther 5 = .ok (.aaload, 1) := by decide +kernel
theorem d_Cu_takesOther_6 : decode b_Cu_takesOther 6 = .ok (.astore_n 2, 1) := by decide +kernel
theorem d_Cu_takesOther_7 : decode b_Cu_takesOther 7 = .ok (.aload_n 1, 1) := by decide +kernel
theorem d_Cu_takesOther_8 : decode b_Cu_takesOther 8 = .ok (.iconst 1, 1) := by decide +kernel
theorem d_Cu_takesOther_9 : decode b_Cu_takesOther 9 = .ok (.aload_n 2, 1) := by decide +kernel
theorem d_Cu_takesOther_10 : decode b_Cu_takesOther 10 = .ok (.getfield 63, 3) := by decide +kernel
theorem d_Cu_takesOther_13 : decode b_Cu_takesOther 13 = .ok (.invokestatic 79, 3) := by decide +kernel
theorem d_Cu_takesOther_16 : decode b_Cu_takesOther 16 = .ok (.aload_n 1, 1) := by decide +kernel
theorem d_Cu_takesOther_17 : decode b_Cu_takesOther 17 = .ok (.bipush 33, 2) := by decide +kernel
theorem d_Cu_takesOther_19 : decode b_Cu_takesOther 19 = .ok (.aload_n 2, 1) := by decide +kernel
theorem d_Cu_takesOther_20 : decode b_Cu_takesOther 20 = .ok (.getfield 69, 3) := by decide +kernel
theorem d_Cu_takesOther_23 : decode b_Cu_takesOther 23 = .ok (.invokestatic 79, 3) := by decide +kernel
theorem d_Cu_takesOther_26 : decode b_Cu_takesOther 26 = .ok (.aload_n 1, 1) := by decide +kernel
theorem d_Cu_takesOther_27 : decode b_Cu_takesOther 27 = .ok (.iconst 0, 1) := by decide +kernel
theorem d_Cu_takesOther_28 : decode b_Cu_takesOther 28 = .ok (.baload, 1) := by decide +kernel
theorem d_Cu_takesOther_29 : decode b_Cu_takesOther 29 = .ok (.iconst 4, 1) := by decide +kernel
theorem d_Cu_takesOther_30 : decode b_Cu_takesOther 30 = .ok (.if_icmp .ne 31, 3) := by decide +kernel
theorem d_Cu_takesOther_33 : decode b_Cu_takesOther 33 = .ok (.aload_n 0, 1) := by decide +kernel
theorem d_Cu_takesOther_34 : decode b_Cu_takesOther 34 = .ok (.getfield 24, 3) := by decide +kernel
theorem d_Cu_takesOther_37 : decode b_Cu_takesOther 37 = .ok (.aload_n 2, 1) := by decide +kernel
theorem d_Cu_takesOther_38 : decode b_Cu_takesOther 38 = .ok (.getfield 63, 3) := by decide +kernel
theorem d_Cu_takesOther_41 : decode b_Cu_takesOther 41 = .ok (.invokevirtual 83, 3) := by decide +kernel
theorem d_Cu_takesOther_44 : decode b_Cu_takesOther 44 = .ok (.ifCond .eq 17, 3) := by decide +kernel
theorem d_Cu_takesOther_47 : decode b_Cu_takesOther 47 = .ok (.aload_n 0, 1) := by decide +kernel
theorem d_Cu_takesOther_48 : decode b_Cu_takesOther 48 = .ok (.getfield 24, 3) := by decide +kernel
theorem d_Cu_takesOther_51 : decode b_Cu_takesOther 51 = .ok (.aload_n 2, 1) := by decide +kernel
theorem d_Cu_takesOther_52 : decode b_Cu_takesOther 52 = .ok (.getfield 69, 3) := by decide +kernel
theorem d_Cu_takesOther_55 : decode b_Cu_takesOther 55 = .ok (.invokevirtual 83, 3) := by decide +kernel
theorem d_Cu_takesOther_58 : decode b_Cu_takesOther 58 = .ok (.ifCond .ne 5, 3) := by decide +kernel
theorem d_Cu_takesOther_61 : decode b_Cu_takesOther 61 = .ok (.iconst 0, 1) := by decide +kernel
theorem d_Cu_takesOther_62 : decode b_Cu_takesOther 62 = .ok (.ireturn, 1) := by decide +kernel
theorem d_Cu_takesOther_63 : decode b_Cu_takesOther 63 = .ok (.aload_n 0, 1) := by decide +kernel
theorem d_Cu_takesOther_64 : decode b_Cu_takesOther 64 = .ok (.aload_n 2, 1) := by decide +kernel
theorem d_Cu_takesOther_65 : decode b_Cu_takesOther 65 = .ok (.invokevirtual 72, 3) := by decide +kernel
theorem d_Cu_takesOther_68 : decode b_Cu_takesOther 68 = .ok (.aload_n 0, 1) := by decide +kernel
theorem d_Cu_takesOther_69 : decode b_Cu_takesOther 69 = .ok (.aload_n 2, 1) := by decide +kernel
theorem d_Cu_takesOther_70 : decode b_Cu_takesOther 70 = .ok (.invokevirtual 87, 3) := by decide +kernel
theorem d_Cu_takesOther_73 : decode b_Cu_takesOther 73 = .ok (.ifCond .ne 5, 3) := by decide +kernel
theorem d_Cu_takesOther_76 : decode b_Cu_takesOther 76 = .ok (.iconst 0, 1) := by decide +kernel
theorem d_Cu_takesOther_77 : decode b_Cu_takesOther 77 = .ok (.ireturn, 1) := by decide +kernel
theorem d_Cu_takesOther_78 : decode b_Cu_takesOther 78 = .ok (.aload_n 0, 1) := by decide +kernel
theorem d_Cu_takesOther_79 : decode b_Cu_takesOther 79 = .ok (.aload_n 0, 1) := by decide +kernel
theorem d_Cu_takesOther_80 : decode b_Cu_takesOther 80 = .ok (.getfield 40, 3) := by decide +kernel
theorem d_Cu_takesOther_83 : decode b_Cu_takesOther 83 = .ok (.invokevirtual 75, 3) := by decide +kernel
theorem d_Cu_takesOther_86 : decode b_Cu_takesOther 86 = .ok (.iconst 1, 1) := by decide +kernel
theorem d_Cu_takesOther_87 : decode b_Cu_takesOther 87 = .ok (.ireturn, 1) := by decide +kernel
theorem fl_Cu_40 : FL "PrimeKeys$Curve" 40 0 4 := ⟨R_Cu, F_Cu, 6, rfl, u_Cu, by decide, rfl, tb_1 (List.mem_of_getElem? (i := 238) (by decide +kernel)) rfl⟩
theorem cd_Cu_75 : CD "PrimeKeys$Curve" 75 y_Cu_fillMultiples b_Cu_fillMultiples 3 none 1 := ⟨tb_1 (List.mem_of_getElem? (i := 189) rfl) rfl, tb_1 (List.mem_of_getElem? (i := 3) (by decide +kernel)) rfl, tb_1 (List.mem_of_getElem? (i := 186) (by decide +kernel)) rfl, by decide +kernel⟩
theorem kw_in_Cu_fillMultiples : Cond.instanceMethod y_Cu_fillMultiples ∈ TB := tb_1 (List.mem_of_getElem? (i := 188) (by decide +kernel)) rfl
theorem kw_se_Cu_fillMultiples : Cond.selects "PrimeKeys$Curve" y_Cu_fillMultiples y_Cu_fillMultiples ∈ TB := tb_p (q := (y_Cu_fillMultiples, 6)) (by decide +kernel)
theorem cd_Cu_87 : CD "PrimeKeys$Curve" 87 y_Cu_isOnCurve b_Cu_isOnCurve 5 (some .boolean) 1 := ⟨tb_3 (List.mem_of_getElem? (i := 156) rfl) rfl, tb_1 (List.mem_of_getElem? (i := 3) (by decide +kernel)) rfl, tb_3 (List.mem_of_getElem? (i := 153) (by decide +kernel)) rfl, by decide +kernel⟩
theorem kw_in_Cu_isOnCurve : Cond.instanceMethod y_Cu_isOnCurve ∈ TB := tb_3 (List.mem_of_getElem? (i := 155) (by decide +kernel)) rfl
theorem kw_se_Cu_isOnCurve : Cond.selects "PrimeKeys$Curve" y_Cu_isOnCurve y_Cu_isOnCurve ∈ TB := tb_p (q := (y_Cu_isOnCurve, 6)) (by decide +kernel)
theorem cd_Cu_72 : CD "PrimeKeys$Curve" 72 y_Cu_enterForm b_Cu_enterForm 2 none 1 := ⟨tb_1 (List.mem_of_getElem? (i := 181) rfl) rfl, tb_1 (List.mem_of_getElem? (i := 3) (by decide +kernel)) rfl, tb_1 (List.mem_of_getElem? (i := 178) (by decide +kernel)) rfl, by decide +kernel⟩
theorem kw_in_Cu_enterForm : Cond.instanceMethod y_Cu_enterForm ∈ TB := tb_1 (List.mem_of_getElem? (i := 180) (by decide +kernel)) rfl
theorem kw_se_Cu_enterForm : Cond.selects "PrimeKeys$Curve" y_Cu_enterForm y_Cu_enterForm ∈ TB := tb_p (q := (y_Cu_enterForm, 6)) (by decide +kernel)
theorem cd_Cu_83 : CD "PrimeKeys$Curve" 83 y_Mo_isAbove b_Mo_isAbove 2 (some .boolean) 1 := ⟨tb_3 (List.mem_of_getElem? (i := 87) rfl) rfl, tb_1 (List.mem_of_getElem? (i := 4) (by decide +kernel)) rfl, tb_3 (List.mem_of_getElem? (i := 152) (by decide +kernel)) rfl, by decide +kernel⟩
theorem kw_in_Mo_isAbove : Cond.instanceMethod y_Mo_isAbove ∈ TB := tb_3 (List.mem_of_getElem? (i := 85) (by decide +kernel)) rfl
theorem kw_se_Mo_isAbove : Cond.selects "PrimeKeys$Modulus" y_Mo_isAbove y_Mo_isAbove ∈ TB := tb_3 (List.mem_of_getElem? (i := 86) (by decide +kernel)) rfl
theorem cd_Cu_79 : CD "PrimeKeys$Curve" 79 y_Li_read b_Li_read 8 none 3 := ⟨tb_1 (List.mem_of_getElem? (i := 78) rfl) rfl, tb_1 (List.mem_of_getElem? (i := 5) (by decide +kernel)) rfl, tb_3 (List.mem_of_getElem? (i := 151) (by decide +kernel)) rfl, by decide +kernel⟩
abbrev rm_Cu_takesOther : Room := { frames := 6, cells := 0, slots := 0, locals := 162 }
def B_Cu_takesOther_61 (h : HP) : Option (Int32 × HP) :=
  some (0, h)
set_option maxHeartbeats 4000000 in
set_option maxRecDepth 100000 in
theorem bk_Cu_takesOther_61 {l : Launch} {x : CX} {h0 h' : HP} {r' : Int32} (C : EV x b_Cu_takesOther "PrimeKeys$Curve" 3 rm_Cu_takesOther) (T : CT x (some .boolean) rm_Cu_takesOther h0 (some (.int r')) h') (hl0 : x.1.2.1 = l) (h : HP) (hr : B_Cu_takesOther_61 h = some (r', h')) : GG x 0 0 h 61 [] [] := by
  unfold B_Cu_takesOther_61 at hr
  refine g_iconst (v := 0) C d_Cu_takesOther_61 (by decide) ?_
  cases hr
  exact g_ireturn C T rfl (by decide) (by decide) d_Cu_takesOther_62
def P_Cu_takesOther (h : HP) (p0 : Nat) (p1 : Nat) : Option (Int32 × HP) :=
  bnd (gR h p0 0 4) fun k1 =>
  bnd (ldR h k1 3 1) fun k2 =>
  bnd (gR h k2 3 0) fun k3 =>
  bnd (P_Li_read h p1 1 k3) fun h4 =>
  bnd (gR h4 k2 3 1) fun k5 =>
  bnd (P_Li_read h4 p1 33 k5) fun h6 =>
  bnd (ldB h6 p1 0) fun v7 =>
  if v7 = 4 then
  bnd (gR h6 p0 0 1) fun k8 =>
  bnd (gR h6 k2 3 0) fun k9 =>
  ob h6 k8 1 (
  bnd2 (P_Mo_isAbove h6 k8 k9) fun v11 h10 =>
  if v11 = 0 then
  B_Cu_takesOther_61 h10
  else
  bnd (gR h10 p0 0 1) fun k12 =>
  bnd (gR h10 k2 3 1) fun k13 =>
  ob h10 k12 1 (
  bnd2 (P_Mo_isAbove h10 k12 k13) fun v15 h14 =>
  if v15 = 0 then
  B_Cu_takesOther_61 h14
  else
  ob h14 p0 0 (
  bnd (P_Cu_enterForm h14 p0 k2) fun h16 =>
  ob h16 p0 0 (
  bnd2 (P_Cu_isOnCurve h16 p0 k2) fun v18 h17 =>
  if v18 = 0 then
  some (0, h17)
  else
  bnd (gR h17 p0 0 4) fun k19 =>
  ob h17 p0 0 (
  bnd (P_Cu_fillMultiples h17 p0 k19) fun h20 =>
  some (1, h20))))))
  else
  B_Cu_takesOther_61 h6
set_option maxHeartbeats 4000000 in
set_option maxRecDepth 100000 in
theorem c_Cu_takesOther {l : Launch} {h h' : HP} {p0 p1 : _} {r' : Int32} (hr : P_Cu_takesOther h p0 p1 = some (r', h')) : MP l y_Cu_takesOther (Cond.code y_Cu_takesOther b_Cu_takesOther 3 (some .boolean) :: TB) rm_Cu_takesOther h [.ref p0, .ref p1] (some (.int r')) h' := by
  refine MP_intro (cc := b_Cu_takesOther) (by decide) (Nat.le_of_ble_eq_true rfl) (fun x hl0 C T hin => ?_)
  unfold P_Cu_takesOther at hr
  show GG x 0 0 h 0 [(0, .ref p0), (1, .ref p1)] []
  refine g_aload_n C 0 rfl d_Cu_takesOther_0 rfl ?_
  obtain ⟨k1, ek1, hr⟩ := of_bnd hr
  refine g_getR C fl_Cu_40 ek1 d_Cu_takesOther_1 ?_
  refine g_iconst (v := 1) C d_Cu_takesOther_4 (by decide) ?_
  obtain ⟨k2, ek2, hr⟩ := of_bnd hr
  refine g_aaload C (by decide) ek2 d_Cu_takesOther_5 ?_
  refine g_astore_n (lv' := [(2, .ref k2), (0, .ref p0), (1, .ref p1)]) C d_Cu_takesOther_6 rfl (by decide) rfl ?_
  refine g_aload_n C 2 rfl d_Cu_takesOther_7 rfl ?_
  refine g_iconst (v := 1) C d_Cu_takesOther_8 (by decide) ?_
  refine g_aload_n C 0 rfl d_Cu_takesOther_9 rfl ?_
  obtain ⟨k3, ek3, hr⟩ := of_bnd hr
  refine g_getR C fl_Cu_63 ek3 d_Cu_takesOther_10 ?_
  obtain ⟨h4, eh4, hr⟩ := of_bnd hr
  refine g_callS (pa := [.ref p1, .int 1, .ref k3]) C hl0 (c_Li_read eh4) cd_Cu_79 kw_st_Li_read (by decide) rfl rfl (Nat.le_of_ble_eq_true rfl) d_Cu_takesOther_13 ?_
  refine g_aload_n C 2 rfl d_Cu_takesOther_16 rfl ?_
  refine g_bipush (v := 33) C d_Cu_takesOther_17 (by decide) ?_
  refine g_aload_n C 0 rfl d_Cu_takesOther_19 rfl ?_
  obtain ⟨k5, ek5, hr⟩ := of_bnd hr
  refine g_getR C fl_Cu_69 ek5 d_Cu_takesOther_20 ?_
  obtain ⟨h6, eh6, hr⟩ := of_bnd hr
  refine g_callS (pa := [.ref p1, .int 33, .ref k5]) C hl0 (c_Li_read eh6) cd_Cu_79 kw_st_Li_read (by decide) rfl rfl (Nat.le_of_ble_eq_true rfl) d_Cu_takesOther_23 ?_
  refine g_aload_n C 2 rfl d_Cu_takesOther_26 rfl ?_
  refine g_iconst (v := 0) C d_Cu_takesOther_27 (by decide) ?_
  obtain ⟨v7, ev7, hr⟩ := of_bnd hr
  refine g_baload C ev7 d_Cu_takesOther_28 ?_
  refine g_iconst (v := 4) C d_Cu_takesOther_29 (by decide) ?_
  refine g_icmp_ne (tgt := 61) C d_Cu_takesOther_30 (by decide) (fun z => ?_) (fun z => ?_)
  · have hr := of_el z hr
    refine g_lv [] rfl ?_
    exact bk_Cu_takesOther_61 C T hl0 h6 hr
  · have hr := of_if z hr
    refine g_aload_n C 1 rfl d_Cu_takesOther_33 rfl ?_
    obtain ⟨k8, ek8, hr⟩ := of_bnd hr
    refine g_getR C fl_Cu_24 ek8 d_Cu_takesOther_34 ?_
    refine g_aload_n C 0 rfl d_Cu_takesOther_37 rfl ?_
    obtain ⟨k9, ek9, hr⟩ := of_bnd hr
    refine g_getR C fl_Cu_63 ek9 d_Cu_takesOther_38 ?_
    obtain ⟨fsh10, hoh10, hr⟩ := of_ob hr
    obtain ⟨v11, h10, eh10, hr⟩ := of_bnd2 hr
    refine g_callV (pa := [.ref k9]) C hl0 (c_Mo_isAbove eh10) cd_Cu_83 kw_in_Mo_isAbove kw_se_Mo_isAbove hoh10 rfl rfl (by decide) rfl rfl (Nat.le_of_ble_eq_true rfl) d_Cu_takesOther_41 ?_
    refine g_if_eq (tgt := 61) C d_Cu_takesOther_44 (by decide) (fun z => ?_) (fun z => ?_)
    · have hr := of_if z hr
      refine g_lv [] rfl ?_
      exact bk_Cu_takesOther_61 C T hl0 h10 hr
    · have hr := of_el z hr
      refine g_aload_n C 1 rfl d_Cu_takesOther_47 rfl ?_
      obtain ⟨k12, ek12, hr⟩ := of_bnd hr
      refine g_getR C fl_Cu_24 ek12 d_Cu_takesOther_48 ?_
      refine g_aload_n C 0 rfl d_Cu_takesOther_51 rfl ?_
      obtain ⟨k13, ek13, hr⟩ := of_bnd hr
      refine g_getR C fl_Cu_69 ek13 d_Cu_takesOther_52 ?_
      obtain ⟨fsh14, hoh14, hr⟩ := of_ob hr
      obtain ⟨v15, h14, eh14, hr⟩ := of_bnd2 hr
      refine g_callV (pa := [.ref k13]) C hl0 (c_Mo_isAbove eh14) cd_Cu_83 kw_in_Mo_isAbove kw_se_Mo_isAbove hoh14 rfl rfl (by decide) rfl rfl (Nat.le_of_ble_eq_true rfl) d_Cu_takesOther_55 ?_
      refine g_if_ne (tgt := 63) C d_Cu_takesOther_58 (by decide) (fun z => ?_) (fun z => ?_)
      · have hr := of_el z hr
        refine g_aload_n C 1 rfl d_Cu_takesOther_63 rfl ?_
        refine g_aload_n C 0 rfl d_Cu_takesOther_64 rfl ?_
        obtain ⟨fsh16, hoh16, hr⟩ := of_ob hr
        obtain ⟨h16, eh16, hr⟩ := of_bnd hr
        refine g_callV (pa := [.ref k2]) C hl0 (c_Cu_enterForm eh16) cd_Cu_72 kw_in_Cu_enterForm kw_se_Cu_enterForm hoh16 rfl rfl (by decide) rfl rfl (Nat.le_of_ble_eq_true rfl) d_Cu_takesOther_65 ?_
        refine g_aload_n C 1 rfl d_Cu_takesOther_68 rfl ?_
        refine g_aload_n C 0 rfl d_Cu_takesOther_69 rfl ?_
        obtain ⟨fsh17, hoh17, hr⟩ := of_ob hr
        obtain ⟨v18, h17, eh17, hr⟩ := of_bnd2 hr
        refine g_callV (pa := [.ref k2]) C hl0 (c_Cu_isOnCurve eh17) cd_Cu_87 kw_in_Cu_isOnCurve kw_se_Cu_isOnCurve hoh17 rfl rfl (by decide) rfl rfl (Nat.le_of_ble_eq_true rfl) d_Cu_takesOther_70 ?_
        refine g_if_ne (tgt := 78) C d_Cu_takesOther_73 (by decide) (fun z => ?_) (fun z => ?_)
        · have hr := of_el z hr
          refine g_aload_n C 1 rfl d_Cu_takesOther_78 rfl ?_
          refine g_aload_n C 1 rfl d_Cu_takesOther_79 rfl ?_
          obtain ⟨k19, ek19, hr⟩ := of_bnd hr
          refine g_getR C fl_Cu_40 ek19 d_Cu_takesOther_80 ?_
          obtain ⟨fsh20, hoh20, hr⟩ := of_ob hr
          obtain ⟨h20, eh20, hr⟩ := of_bnd hr
          refine g_callV (pa := [.ref k19]) C hl0 (c_Cu_fillMultiples eh20) cd_Cu_75 kw_in_Cu_fillMultiples kw_se_Cu_fillMultiples hoh20 rfl rfl (by decide) rfl rfl (Nat.le_of_ble_eq_true rfl) d_Cu_takesOther_83 ?_
          refine g_iconst (v := 1) C d_Cu_takesOther_86 (by decide) ?_
          cases hr
          exact g_ireturn C T rfl (by decide) (by decide) d_Cu_takesOther_87
        · have hr := of_if z hr
          refine g_iconst (v := 0) C d_Cu_takesOther_76 (by decide) ?_
          cases hr
          exact g_ireturn C T rfl (by decide) (by decide) d_Cu_takesOther_77
      · have hr := of_if z hr
        refine g_lv [] rfl ?_
        exact bk_Cu_takesOther_61 C T hl0 h14 hr
abbrev b_Cu_sumOfTimes : ByteArray := prog_2_method_3_code
abbrev y_Cu_sumOfTimes : MethodName := ⟨"PrimeKeys$Curve", "sumOfTimes", "([B[BLPrimeKeys$Point;)V"⟩
theorem d_Cu_sumOfTimes_0 : decode b_Cu_sumOfTimes 0 = .ok (.aload_n 3, 1) := by decide +kernel
theorem d_Cu_sumOfTimes_1 : decode b_Cu_sumOfTimes 1 = .ok (.invokevirtual 91, 3) := by decide +kernel
theorem d_Cu_sumOfTimes_4 : decode b_Cu_sumOfTimes 4 = .ok (.iconst 0, 1) := by decide +kernel
theorem d_Cu_sumOfTimes_5 : decode b_Cu_sumOfTimes 5 = .ok (.istore 4, 2) := by decide +kernel
theorem d_Cu_sumOfTimes_7 : decode b_Cu_sumOfTimes 7 = .ok (.iload 4, 2) := by decide +kernel
theorem d_Cu_sumOfTimes_9 : decode b_Cu_sumOfTimes 9 = .ok (.bipush 64, 2) := by decide +kernel
theorem d_Cu_sumOfTimes_11 : decode b_Cu_sumOfTimes 11 = .ok (.if_icmp .ge 66, 3) := by decide +kernel
theorem d_Cu_sumOfTimes_14 : decode b_Cu_sumOfTimes 14 = .ok (.iconst 0, 1) := by decide +kernel
theorem d_Cu_sumOfTimes_15 : decode b_Cu_sumOfTimes 15 = .ok (.istore 5, 2) := by decide +kernel
theorem d_Cu_sumOfTimes_17 : decode b_Cu_sumOfTimes 17 = .ok (.iload 5, 2) := by decide +kernel
theorem d_Cu_sumOfTimes_19 : decode b_Cu_sumOfTimes 19 = .ok (.iconst 4, 1) := by decide +kernel
theorem d_Cu_sumOfTimes_20 : decode b_Cu_sumOfTimes 20 = .ok (.if_icmp .ge 15, 3) := by decide +kernel
theorem d_Cu_sumOfTimes_23 : decode b_Cu_sumOfTimes 23 = .ok (.aload_n 0, 1) := by decide +kernel
theorem d_Cu_sumOfTimes_24 : decode b_Cu_sumOfTimes 24 = .ok (.aload_n 3, 1) := by decide +kernel
theorem d_Cu_sumOfTimes_25 : decode b_Cu_sumOfTimes 25 = .ok (.aload_n 3, 1) := by decide +kernel
theorem d_Cu_sumOfTimes_26 : decode b_Cu_sumOfTimes 26 = .ok (.invokevirtual 94, 3) := by decide +kernel
theorem d_Cu_sumOfTimes_29 : decode b_Cu_sumOfTimes 29 = .ok (.iinc 5 1, 3) := by decide +kernel
theorem d_Cu_sumOfTimes_32 : decode b_Cu_sumOfTimes 32 = .ok (.goto (-15), 3) := by decide +kernel
theorem d_Cu_sumOfTimes_35 : decode b_Cu_sumOfTimes 35 = .ok (.aload_n 0, 1) := by decide +kernel
theorem d_Cu_sumOfTimes_36 : decode b_Cu_sumOfTimes 36 = .ok (.aload_n 3, 1) := by decide +kernel
theorem d_Cu_sumOfTimes_37 : decode b_Cu_sumOfTimes 37 = .ok (.aload_n 0, 1) := by decide +kernel
theorem d_Cu_sumOfTimes_38 : decode b_Cu_sumOfTimes 38 = .ok (.getfield 36, 3) := by decide +kernel
theorem d_Cu_sumOfTimes_41 : decode b_Cu_sumOfTimes 41 = .ok (.aload_n 0, 1) := by decide +kernel
theorem d_Cu_sumOfTimes_42 : decode b_Cu_sumOfTimes 42 = .ok (.aload_n 1, 1) := by decide +kernel
theorem d_Cu_sumOfTimes_43 : decode b_Cu_sumOfTimes 43 = .ok (.iload 4, 2) := by decide +kernel
theorem d_Cu_sumOfTimes_45 : decode b_Cu_sumOfTimes 45 = .ok (.invokevirtual 98, 3) := by decide +kernel
theorem d_Cu_sumOfTimes_48 : decode b_Cu_sumOfTimes 48 = .ok (.aaload, 1) := by decide +kernel
theorem d_Cu_sumOfTimes_49 : decode b_Cu_sumOfTimes 49 = .ok (.aload_n 3, 1) := by decide +kernel
theorem d_Cu_sumOfTimes_50 : decode b_Cu_sumOfTimes 50 = .ok (.invokevirtual 102, 3) := by decide +kernel
theorem d_Cu_sumOfTimes_53 : decode b_Cu_sumOfTimes 53 = .ok (.aload_n 0, 1) := by decide +kernel
theorem d_Cu_sumOfTimes_54 : decode b_Cu_sumOfTimes 54 = .ok (.aload_n 3, 1) := by decide +kernel
theorem d_Cu_sumOfTimes_55 : decode b_Cu_sumOfTimes 55 = .ok (.aload_n 0, 1) := by decide +kernel
theorem d_Cu_sumOfTimes_56 : decode b_Cu_sumOfTimes 56 = .ok (.getfield 40, 3) := by decide +kernel
theorem d_Cu_sumOfTimes_59 : decode b_Cu_sumOfTimes 59 = .ok (.aload_n 0, 1) := by decide +kernel
theorem d_Cu_sumOfTimes_60 : decode b_Cu_sumOfTimes 60 = .ok (.aload_n 2, 1) := by decide +kernel
theorem d_Cu_sumOfTimes_61 : decode b_Cu_sumOfTimes 61 = .ok (.iload 4, 2) := by decide +kernel
theorem d_Cu_sumOfTimes_63 : decode b_Cu_sumOfTimes 63 = .ok (.invokevirtual 98, 3) := by decide +kernel
theorem d_Cu_sumOfTimes_66 : decode b_Cu_sumOfTimes 66 = .ok (.aaload, 1) := by decide +kernel
theorem d_Cu_sumOfTimes_67 : decode b_Cu_sumOfTimes 67 = .ok (.aload_n 3, 1) := by decide +kernel
theorem d_Cu_sumOfTimes_68 : decode b_Cu_sumOfTimes 68 = .ok (.invokevirtual 102, 3) := by decide +kernel
theorem d_Cu_sumOfTimes_71 : decode b_Cu_sumOfTimes 71 = .ok (.iinc 4 1, 3) := by decide +kernel
theorem d_Cu_sumOfTimes_74 : decode b_Cu_sumOfTimes 74 = .ok (.goto (-67), 3) := by decide +kernel
theorem d_Cu_sumOfTimes_77 : decode b_Cu_sumOfTimes 77 = .ok (.return_, 1) := by decide +kernel
theorem fl_Cu_36 : FL "PrimeKeys$Curve" 36 0 3 := ⟨R_Cu, F_Cu, 6, rfl, u_Cu, by decide, rfl, tb_1 (List.mem_of_getElem? (i := 237) (by decide +kernel)) rfl⟩
theorem cd_Cu_98 : CD "PrimeKeys$Curve" 98 y_Cu_digit b_Cu_digit 3 (some .int) 2 := ⟨tb_3 (List.mem_of_getElem? (i := 124) rfl) rfl, tb_1 (List.mem_of_getElem? (i := 3) (by decide +kernel)) rfl, tb_3 (List.mem_of_getElem? (i := 121) (by decide +kernel)) rfl, by decide +kernel⟩
theorem kw_in_Cu_digit : Cond.instanceMethod y_Cu_digit ∈ TB := tb_3 (List.mem_of_getElem? (i := 123) (by decide +kernel)) rfl
theorem kw_se_Cu_digit : Cond.selects "PrimeKeys$Curve" y_Cu_digit y_Cu_digit ∈ TB := tb_p (q := (y_Cu_digit, 6)) (by decide +kernel)
abbrev rm_Cu_sumOfTimes : Room := { frames := 5, cells := 0, slots := 0, locals := 140 }
def B_Cu_sumOfTimes_17 (K7 : HP → Nat → Nat → Nat → Nat → Int32 → Option (HP)) (K17 : HP → Nat → Nat → Nat → Nat → Int32 → Int32 → Option (HP)) (h : HP) (a0 : Nat) (a1 : Nat) (a2 : Nat) (a3 : Nat) (a4 : Int32) (a5 : Int32) : Option (HP) :=
  if 4 ≤ a5 then
  bnd (gR h a0 0 3) fun k2 =>
  ob h a0 0 (
  bnd2 (P_Cu_digit h a0 a1 a4) fun v4 h3 =>
  bnd (ldR h3 k2 3 v4) fun k5 =>
  ob h3 a0 0 (
  bnd (P_Cu_add h3 a0 a3 k5 a3) fun h6 =>
  bnd (gR h6 a0 0 4) fun k7 =>
  ob h6 a0 0 (
  bnd2 (P_Cu_digit h6 a0 a2 a4) fun v9 h8 =>
  bnd (ldR h8 k7 3 v9) fun k10 =>
  ob h8 a0 0 (
  bnd (P_Cu_add h8 a0 a3 k10 a3) fun h11 =>
  lt (a4 + Int32.ofInt 1) fun x12 =>
  K7 h11 a0 a1 a2 a3 x12))))
  else
  ob h a0 0 (
  bnd (P_Cu_twice h a0 a3 a3) fun h13 =>
  lt (a5 + Int32.ofInt 1) fun x14 =>
  K17 h13 a0 a1 a2 a3 a4 x14)
set_option maxHeartbeats 4000000 in
set_option maxRecDepth 100000 in
theorem bk_Cu_sumOfTimes_17 {l : Launch} {x : CX} {h0 h' : HP} (C : EV x b_Cu_sumOfTimes "PrimeKeys$Curve" 6 rm_Cu_sumOfTimes) (T : CT x (none) rm_Cu_sumOfTimes h0 none h') (hl0 : x.1.2.1 = l) (K7 : HP → Nat → Nat → Nat → Nat → Int32 → Option (HP)) (K17 : HP → Nat → Nat → Nat → Nat → Int32 → Int32 → Option (HP)) (hK7 : ∀ (h : HP) (a0 : Nat) (a1 : Nat) (a2 : Nat) (a3 : Nat) (a4 : Int32), K7 h a0 a1 a2 a3 a4 = some h' → GG x 0 0 h 7 [(0, .ref a0), (1, .ref a1), (2, .ref a2), (3, .ref a3), (4, .int a4)] []) (hK17 : ∀ (h : HP) (a0 : Nat) (a1 : Nat) (a2 : Nat) (a3 : Nat) (a4 : Int32) (a5 : Int32), K17 h a0 a1 a2 a3 a4 a5 = some h' → GG x 0 0 h 17 [(0, .ref a0), (1, .ref a1), (2, .ref a2), (3, .ref a3), (4, .int a4), (5, .int a5)] []) (h : HP) (a0 : Nat) (a1 : Nat) (a2 : Nat) (a3 : Nat) (a4 : Int32) (a5 : Int32) (hr : B_Cu_sumOfTimes_17 K7 K17 h a0 a1 a2 a3 a4 a5 = some h') : GG x 0 0 h 17 [(0, .ref a0), (1, .ref a1), (2, .ref a2), (3, .ref a3), (4, .int a4), (5, .int a5)] [] := by
  unfold B_Cu_sumOfTimes_17 at hr
  refine g_iload C 5 rfl d_Cu_sumOfTimes_17 ?_
  refine g_iconst (v := 4) C d_Cu_sumOfTimes_19 (by decide) ?_
  refine g_icmp_ge (tgt := 35) C d_Cu_sumOfTimes_20 (by decide) (fun z => ?_) (fun z => ?_)
  · have hr := of_if z hr
    refine g_aload_n C 0 rfl d_Cu_sumOfTimes_35 rfl ?_
    refine g_aload_n C 3 rfl d_Cu_sumOfTimes_36 rfl ?_
    refine g_aload_n C 0 rfl d_Cu_sumOfTimes_37 rfl ?_
    obtain ⟨k2, ek2, hr⟩ := of_bnd hr
    refine g_getR C fl_Cu_36 ek2 d_Cu_sumOfTimes_38 ?_
    refine g_aload_n C 0 rfl d_Cu_sumOfTimes_41 rfl ?_
    refine g_aload_n C 1 rfl d_Cu_sumOfTimes_42 rfl ?_
    refine g_iload C 4 rfl d_Cu_sumOfTimes_43 ?_
    obtain ⟨fsh3, hoh3, hr⟩ := of_ob hr
    obtain ⟨v4, h3, eh3, hr⟩ := of_bnd2 hr
    refine g_callV (pa := [.ref a1, .int a4]) C hl0 (c_Cu_digit eh3) cd_Cu_98 kw_in_Cu_digit kw_se_Cu_digit hoh3 rfl rfl (by decide) rfl rfl (Nat.le_of_ble_eq_true rfl) d_Cu_sumOfTimes_45 ?_
    obtain ⟨k5, ek5, hr⟩ := of_bnd hr
    refine g_aaload C (by decide) ek5 d_Cu_sumOfTimes_48 ?_
    refine g_aload_n C 3 rfl d_Cu_sumOfTimes_49 rfl ?_
    obtain ⟨fsh6, hoh6, hr⟩ := of_ob hr
    obtain ⟨h6, eh6, hr⟩ := of_bnd hr
    refine g_callV (pa := [.ref a3, .ref k5, .ref a3]) C hl0 (c_Cu_add eh6) cd_Cu_102 kw_in_Cu_add kw_se_Cu_add hoh6 rfl rfl (by decide) rfl rfl (Nat.le_of_ble_eq_true rfl) d_Cu_sumOfTimes_50 ?_
    refine g_aload_n C 0 rfl d_Cu_sumOfTimes_53 rfl ?_
    refine g_aload_n C 3 rfl d_Cu_sumOfTimes_54 rfl ?_
    refine g_aload_n C 0 rfl d_Cu_sumOfTimes_55 rfl ?_
    obtain ⟨k7, ek7, hr⟩ := of_bnd hr
    refine g_getR C fl_Cu_40 ek7 d_Cu_sumOfTimes_56 ?_
    refine g_aload_n C 0 rfl d_Cu_sumOfTimes_59 rfl ?_
    refine g_aload_n C 2 rfl d_Cu_sumOfTimes_60 rfl ?_
    refine g_iload C 4 rfl d_Cu_sumOfTimes_61 ?_
    obtain ⟨fsh8, hoh8, hr⟩ := of_ob hr
    obtain ⟨v9, h8, eh8, hr⟩ := of_bnd2 hr
    refine g_callV (pa := [.ref a2, .int a4]) C hl0 (c_Cu_digit eh8) cd_Cu_98 kw_in_Cu_digit kw_se_Cu_digit hoh8 rfl rfl (by decide) rfl rfl (Nat.le_of_ble_eq_true rfl) d_Cu_sumOfTimes_63 ?_
    obtain ⟨k10, ek10, hr⟩ := of_bnd hr
    refine g_aaload C (by decide) ek10 d_Cu_sumOfTimes_66 ?_
    refine g_aload_n C 3 rfl d_Cu_sumOfTimes_67 rfl ?_
    obtain ⟨fsh11, hoh11, hr⟩ := of_ob hr
    obtain ⟨h11, eh11, hr⟩ := of_bnd hr
    refine g_callV (pa := [.ref a3, .ref k10, .ref a3]) C hl0 (c_Cu_add eh11) cd_Cu_102 kw_in_Cu_add kw_se_Cu_add hoh11 rfl rfl (by decide) rfl rfl (Nat.le_of_ble_eq_true rfl) d_Cu_sumOfTimes_68 ?_
    obtain ⟨x12, ex12⟩ : ∃ z, z = a4 + Int32.ofInt 1 := ⟨_, rfl⟩
    have hr := of_lt ex12 hr
    refine g_iinc (lv' := [(4, .int x12), (0, .ref a0), (1, .ref a1), (2, .ref a2), (3, .ref a3), (5, .int a5)]) C 4 rfl d_Cu_sumOfTimes_71 ex12.symm (by decide) rfl ?_
    refine g_goto (tgt := 7) C d_Cu_sumOfTimes_74 (by decide) ?_
    refine g_lv [1, 2, 3, 4, 0] rfl ?_
    exact hK7 h11 a0 a1 a2 a3 x12 hr
  · have hr := of_el z hr
    refine g_aload_n C 0 rfl d_Cu_sumOfTimes_23 rfl ?_
    refine g_aload_n C 3 rfl d_Cu_sumOfTimes_24 rfl ?_
    refine g_aload_n C 3 rfl d_Cu_sumOfTimes_25 rfl ?_
    obtain ⟨fsh13, hoh13, hr⟩ := of_ob hr
    obtain ⟨h13, eh13, hr⟩ := of_bnd hr
    refine g_callV (pa := [.ref a3, .ref a3]) C hl0 (c_Cu_twice eh13) cd_Cu_94 kw_in_Cu_twice kw_se_Cu_twice hoh13 rfl rfl (by decide) rfl rfl (Nat.le_of_ble_eq_true rfl) d_Cu_sumOfTimes_26 ?_
    obtain ⟨x14, ex14⟩ : ∃ z, z = a5 + Int32.ofInt 1 := ⟨_, rfl⟩
    have hr := of_lt ex14 hr
    refine g_iinc (lv' := [(5, .int x14), (0, .ref a0), (1, .ref a1), (2, .ref a2), (3, .ref a3), (4, .int a4)]) C 5 rfl d_Cu_sumOfTimes_29 ex14.symm (by decide) rfl ?_
    refine g_goto (tgt := 17) C d_Cu_sumOfTimes_32 (by decide) ?_
    refine g_lv [1, 2, 3, 4, 5, 0] rfl ?_
    exact hK17 h13 a0 a1 a2 a3 a4 x14 hr
def L_Cu_sumOfTimes_17 (K7 : HP → Nat → Nat → Nat → Nat → Int32 → Option (HP)) : Nat → HP → Nat → Nat → Nat → Nat → Int32 → Int32 → Option (HP)
  | 0, _, _, _, _, _, _, _ => none
  | f + 1, h, a0, a1, a2, a3, a4, a5 => B_Cu_sumOfTimes_17 K7 (L_Cu_sumOfTimes_17 K7 f) h a0 a1 a2 a3 a4 a5
theorem lp_Cu_sumOfTimes_17 {l : Launch} {x : CX} {h0 h' : HP} (C : EV x b_Cu_sumOfTimes "PrimeKeys$Curve" 6 rm_Cu_sumOfTimes) (T : CT x (none) rm_Cu_sumOfTimes h0 none h') (hl0 : x.1.2.1 = l) (K7 : HP → Nat → Nat → Nat → Nat → Int32 → Option (HP)) (hK7 : ∀ (h : HP) (a0 : Nat) (a1 : Nat) (a2 : Nat) (a3 : Nat) (a4 : Int32), K7 h a0 a1 a2 a3 a4 = some h' → GG x 0 0 h 7 [(0, .ref a0), (1, .ref a1), (2, .ref a2), (3, .ref a3), (4, .int a4)] []) : ∀ (f : Nat) (h : HP) (a0 : Nat) (a1 : Nat) (a2 : Nat) (a3 : Nat) (a4 : Int32) (a5 : Int32), L_Cu_sumOfTimes_17 K7 f h a0 a1 a2 a3 a4 a5 = some h' → GG x 0 0 h 17 [(0, .ref a0), (1, .ref a1), (2, .ref a2), (3, .ref a3), (4, .int a4), (5, .int a5)] [] := by
  intro f
  induction f with
  | zero => intro h a0 a1 a2 a3 a4 a5 hr; have hr : (none : Option (HP)) = some h' := hr; cases hr
  | succ f ih => intro h a0 a1 a2 a3 a4 a5 hr; exact bk_Cu_sumOfTimes_17 C T hl0 K7 (L_Cu_sumOfTimes_17 K7 f) hK7 ih h a0 a1 a2 a3 a4 a5 hr
def B_Cu_sumOfTimes_7 (K7 : HP → Nat → Nat → Nat → Nat → Int32 → Option (HP)) (h : HP) (a0 : Nat) (a1 : Nat) (a2 : Nat) (a3 : Nat) (a4 : Int32) : Option (HP) :=
  if 64 ≤ a4 then
  some h
  else
  L_Cu_sumOfTimes_17 K7 FU h a0 a1 a2 a3 a4 0
set_option maxHeartbeats 4000000 in
set_option maxRecDepth 100000 in
theorem bk_Cu_sumOfTimes_7 {l : Launch} {x : CX} {h0 h' : HP} (C : EV x b_Cu_sumOfTimes "PrimeKeys$Curve" 6 rm_Cu_sumOfTimes) (T : CT x (none) rm_Cu_sumOfTimes h0 none h') (hl0 : x.1.2.1 = l) (K7 : HP → Nat → Nat → Nat → Nat → Int32 → Option (HP)) (hK7 : ∀ (h : HP) (a0 : Nat) (a1 : Nat) (a2 : Nat) (a3 : Nat) (a4 : Int32), K7 h a0 a1 a2 a3 a4 = some h' → GG x 0 0 h 7 [(0, .ref a0), (1, .ref a1), (2, .ref a2), (3, .ref a3), (4, .int a4)] []) (h : HP) (a0 : Nat) (a1 : Nat) (a2 : Nat) (a3 : Nat) (a4 : Int32) (hr : B_Cu_sumOfTimes_7 K7 h a0 a1 a2 a3 a4 = some h') : GG x 0 0 h 7 [(0, .ref a0), (1, .ref a1), (2, .ref a2), (3, .ref a3), (4, .int a4)] [] := by
  unfold B_Cu_sumOfTimes_7 at hr
  refine g_iload C 4 rfl d_Cu_sumOfTimes_7 ?_
  refine g_bipush (v := 64) C d_Cu_sumOfTimes_9 (by decide) ?_
  refine g_icmp_ge (tgt := 77) C d_Cu_sumOfTimes_11 (by decide) (fun z => ?_) (fun z => ?_)
  · have hr := of_if z hr
    cases hr
    exact g_vreturn C T (by decide) (by decide) d_Cu_sumOfTimes_77
  · have hr := of_el z hr
    refine g_iconst (v := 0) C d_Cu_sumOfTimes_14 (by decide) ?_
    refine g_istore (lv' := [(5, .int 0), (0, .ref a0), (1, .ref a1), (2, .ref a2), (3, .ref a3), (4, .int a4)]) C d_Cu_sumOfTimes_15 (by decide) rfl ?_
    refine g_lv [1, 2, 3, 4, 5, 0] rfl ?_
    exact lp_Cu_sumOfTimes_17 C T hl0 K7 hK7 FU h a0 a1 a2 a3 a4 0 hr
def L_Cu_sumOfTimes_7 : Nat → HP → Nat → Nat → Nat → Nat → Int32 → Option (HP)
  | 0, _, _, _, _, _, _ => none
  | f + 1, h, a0, a1, a2, a3, a4 => B_Cu_sumOfTimes_7 (L_Cu_sumOfTimes_7 f) h a0 a1 a2 a3 a4
theorem lp_Cu_sumOfTimes_7 {l : Launch} {x : CX} {h0 h' : HP} (C : EV x b_Cu_sumOfTimes "PrimeKeys$Curve" 6 rm_Cu_sumOfTimes) (T : CT x (none) rm_Cu_sumOfTimes h0 none h') (hl0 : x.1.2.1 = l) : ∀ (f : Nat) (h : HP) (a0 : Nat) (a1 : Nat) (a2 : Nat) (a3 : Nat) (a4 : Int32), L_Cu_sumOfTimes_7 f h a0 a1 a2 a3 a4 = some h' → GG x 0 0 h 7 [(0, .ref a0), (1, .ref a1), (2, .ref a2), (3, .ref a3), (4, .int a4)] [] := by
  intro f
  induction f with
  | zero => intro h a0 a1 a2 a3 a4 hr; have hr : (none : Option (HP)) = some h' := hr; cases hr
  | succ f ih => intro h a0 a1 a2 a3 a4 hr; exact bk_Cu_sumOfTimes_7 C T hl0 (L_Cu_sumOfTimes_7 f) ih h a0 a1 a2 a3 a4 hr
def P_Cu_sumOfTimes (h : HP) (p0 : Nat) (p1 : Nat) (p2 : Nat) (p3 : Nat) : Option (HP) :=
  ob h p3 3 (
  bnd (P_Po_setNeutral h p3) fun h1 =>
  L_Cu_sumOfTimes_7 FU h1 p0 p1 p2 p3 0)
set_option maxHeartbeats 4000000 in
set_option maxRecDepth 100000 in
theorem c_Cu_sumOfTimes {l : Launch} {h h' : HP} {p0 p1 p2 p3 : _} (hr : P_Cu_sumOfTimes h p0 p1 p2 p3 = some h') : MP l y_Cu_sumOfTimes (Cond.code y_Cu_sumOfTimes b_Cu_sumOfTimes 6 none :: TB) rm_Cu_sumOfTimes h [.ref p0, .ref p1, .ref p2, .ref p3] none h' := by
  refine MP_intro (cc := b_Cu_sumOfTimes) (by decide) (Nat.le_of_ble_eq_true rfl) (fun x hl0 C T hin => ?_)
  unfold P_Cu_sumOfTimes at hr
  show GG x 0 0 h 0 [(0, .ref p0), (1, .ref p1), (2, .ref p2), (3, .ref p3)] []
  refine g_aload_n C 3 rfl d_Cu_sumOfTimes_0 rfl ?_
  obtain ⟨fsh1, hoh1, hr⟩ := of_ob hr
  obtain ⟨h1, eh1, hr⟩ := of_bnd hr
  refine g_callV (pa := []) C hl0 (c_Po_setNeutral eh1) cd_Cu_91 kw_in_Po_setNeutral kw_se_Po_setNeutral hoh1 rfl rfl (by decide) rfl rfl (Nat.le_of_ble_eq_true rfl) d_Cu_sumOfTimes_1 ?_
  refine g_iconst (v := 0) C d_Cu_sumOfTimes_4 (by decide) ?_
  refine g_istore (lv' := [(4, .int 0), (0, .ref p0), (1, .ref p1), (2, .ref p2), (3, .ref p3)]) C d_Cu_sumOfTimes_5 (by decide) rfl ?_
  refine g_lv [1, 2, 3, 4, 0] rfl ?_
  exact lp_Cu_sumOfTimes_7 C T hl0 FU h1 p0 p1 p2 p3 0 hr
