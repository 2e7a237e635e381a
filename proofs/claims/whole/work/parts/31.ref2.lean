abbrev b_Rm_reduce : ByteArray := prog_12_method_13_code
abbrev y_Rm_reduce : MethodName := ⟨"PrimeKeysModel", "reduce", "([J[J[J)V"⟩
theorem d_Rm_reduce_0 : decode b_Rm_reduce 0 = .ok (.iconst 0, 1) := by decide +kernel
theorem d_Rm_reduce_1 : decode b_Rm_reduce 1 = .ok (.istore 4, 2) := by decide +kernel
theorem d_Rm_reduce_3 : decode b_Rm_reduce 3 = .ok (.iload 4, 2) := by decide +kernel
theorem d_Rm_reduce_5 : decode b_Rm_reduce 5 = .ok (.bipush 16, 2) := by decide +kernel
theorem d_Rm_reduce_7 : decode b_Rm_reduce 7 = .ok (.if_icmp .ge 69, 3) := by decide +kernel
theorem d_Rm_reduce_10 : decode b_Rm_reduce 10 = .ok (.aload_n 0, 1) := by decide +kernel
theorem d_Rm_reduce_11 : decode b_Rm_reduce 11 = .ok (.getfield 218, 3) := by decide +kernel
theorem d_Rm_reduce_14 : decode b_Rm_reduce 14 = .ok (.iload 4, 2) := by decide +kernel
theorem d_Rm_reduce_16 : decode b_Rm_reduce 16 = .ok (.laload, 1) := by decide +kernel
theorem d_Rm_reduce_17 : decode b_Rm_reduce 17 = .ok (.lstore 5, 2) := by decide +kernel
theorem d_Rm_reduce_19 : decode b_Rm_reduce 19 = .ok (.iconst 0, 1) := by decide +kernel
theorem d_Rm_reduce_20 : decode b_Rm_reduce 20 = .ok (.istore 7, 2) := by decide +kernel
theorem d_Rm_reduce_22 : decode b_Rm_reduce 22 = .ok (.iload 7, 2) := by decide +kernel
theorem d_Rm_reduce_24 : decode b_Rm_reduce 24 = .ok (.bipush 16, 2) := by decide +kernel
theorem d_Rm_reduce_26 : decode b_Rm_reduce 26 = .ok (.if_icmp .ge 35, 3) := by decide +kernel
theorem d_Rm_reduce_29 : decode b_Rm_reduce 29 = .ok (.lload 5, 2) := by decide +kernel
theorem d_Rm_reduce_31 : decode b_Rm_reduce 31 = .ok (.aload_n 0, 1) := by decide +kernel
theorem d_Rm_reduce_32 : decode b_Rm_reduce 32 = .ok (.getfield 218, 3) := by decide +kernel
theorem d_Rm_reduce_35 : decode b_Rm_reduce 35 = .ok (.bipush 16, 2) := by decide +kernel
theorem d_Rm_reduce_37 : decode b_Rm_reduce 37 = .ok (.iload 7, 2) := by decide +kernel
theorem d_Rm_reduce_39 : decode b_Rm_reduce 39 = .ok (.iadd, 1) := by decide +kernel
theorem d_Rm_reduce_40 : decode b_Rm_reduce 40 = .ok (.laload, 1) := by decide +kernel
theorem d_Rm_reduce_41 : decode b_Rm_reduce 41 = .ok (.aload_n 3, 1) := by decide +kernel
theorem d_Rm_reduce_42 : decode b_Rm_reduce 42 = .ok (.bipush 16, 2) := by decide +kernel
theorem d_Rm_reduce_44 : decode b_Rm_reduce 44 = .ok (.iload 7, 2) := by decide +kernel
theorem d_Rm_reduce_46 : decode b_Rm_reduce 46 = .ok (.imul, 1) := by decide +kernel
theorem d_Rm_reduce_47 : decode b_Rm_reduce 47 = .ok (.iload 4, 2) := by decide +kernel
theorem d_Rm_reduce_49 : decode b_Rm_reduce 49 = .ok (.iadd, 1) := by decide +kernel
theorem d_Rm_reduce_50 : decode b_Rm_reduce 50 = .ok (.laload, 1) := by decide +kernel
theorem d_Rm_reduce_51 : decode b_Rm_reduce 51 = .ok (.lmul, 1) := by decide +kernel
theorem d_Rm_reduce_52 : decode b_Rm_reduce 52 = .ok (.ladd, 1) := by decide +kernel
theorem d_Rm_reduce_53 : decode b_Rm_reduce 53 = .ok (.lstore 5, 2) := by decide +kernel
theorem d_Rm_reduce_55 : decode b_Rm_reduce 55 = .ok (.iinc 7 1, 3) := by decide +kernel
theorem d_Rm_reduce_58 : decode b_Rm_reduce 58 = .ok (.goto (-36), 3) := by decide +kernel
theorem d_Rm_reduce_61 : decode b_Rm_reduce 61 = .ok (.aload_n 0, 1) := by decide +kernel
theorem d_Rm_reduce_62 : decode b_Rm_reduce 62 = .ok (.getfield 221, 3) := by decide +kernel
theorem d_Rm_reduce_65 : decode b_Rm_reduce 65 = .ok (.iload 4, 2) := by decide +kernel
theorem d_Rm_reduce_67 : decode b_Rm_reduce 67 = .ok (.lload 5, 2) := by decide +kernel
theorem d_Rm_reduce_69 : decode b_Rm_reduce 69 = .ok (.lastore, 1) := by decide +kernel
theorem d_Rm_reduce_70 : decode b_Rm_reduce 70 = .ok (.iinc 4 1, 3) := by decide +kernel
theorem d_Rm_reduce_73 : decode b_Rm_reduce 73 = .ok (.goto (-70), 3) := by decide +kernel
theorem d_Rm_reduce_76 : decode b_Rm_reduce 76 = .ok (.lconst 1, 1) := by decide +kernel
theorem d_Rm_reduce_77 : decode b_Rm_reduce 77 = .ok (.lstore 4, 2) := by decide +kernel
theorem d_Rm_reduce_79 : decode b_Rm_reduce 79 = .ok (.iconst 0, 1) := by decide +kernel
theorem d_Rm_reduce_80 : decode b_Rm_reduce 80 = .ok (.istore 6, 2) := by decide +kernel
theorem d_Rm_reduce_82 : decode b_Rm_reduce 82 = .ok (.iload 6, 2) := by decide +kernel
theorem d_Rm_reduce_84 : decode b_Rm_reduce 84 = .ok (.bipush 9, 2) := by decide +kernel
theorem d_Rm_reduce_86 : decode b_Rm_reduce 86 = .ok (.if_icmp .ge 104, 3) := by decide +kernel
theorem d_Rm_reduce_89 : decode b_Rm_reduce 89 = .ok (.lload 4, 2) := by decide +kernel
theorem d_Rm_reduce_91 : decode b_Rm_reduce 91 = .ok (.lconst 0, 1) := by decide +kernel
theorem d_Rm_reduce_92 : decode b_Rm_reduce 92 = .ok (.lcmp, 1) := by decide +kernel
theorem d_Rm_reduce_93 : decode b_Rm_reduce 93 = .ok (.ifCond .le 97, 3) := by decide +kernel
theorem d_Rm_reduce_96 : decode b_Rm_reduce 96 = .ok (.lconst 0, 1) := by decide +kernel
theorem d_Rm_reduce_97 : decode b_Rm_reduce 97 = .ok (.lstore 7, 2) := by decide +kernel
theorem d_Rm_reduce_99 : decode b_Rm_reduce 99 = .ok (.iconst 0, 1) := by decide +kernel
theorem d_Rm_reduce_100 : decode b_Rm_reduce 100 = .ok (.istore 9, 2) := by decide +kernel
theorem d_Rm_reduce_102 : decode b_Rm_reduce 102 = .ok (.iload 9, 2) := by decide +kernel
theorem d_Rm_reduce_104 : decode b_Rm_reduce 104 = .ok (.bipush 16, 2) := by decide +kernel
theorem d_Rm_reduce_106 : decode b_Rm_reduce 106 = .ok (.if_icmp .ge 41, 3) := by decide +kernel
theorem d_Rm_reduce_109 : decode b_Rm_reduce 109 = .ok (.lload 7, 2) := by decide +kernel
theorem d_Rm_reduce_111 : decode b_Rm_reduce 111 = .ok (.aload_n 0, 1) := by decide +kernel
theorem d_Rm_reduce_112 : decode b_Rm_reduce 112 = .ok (.getfield 221, 3) := by decide +kernel
theorem d_Rm_reduce_115 : decode b_Rm_reduce 115 = .ok (.iload 9, 2) := by decide +kernel
theorem d_Rm_reduce_117 : decode b_Rm_reduce 117 = .ok (.laload, 1) := by decide +kernel
theorem d_Rm_reduce_118 : decode b_Rm_reduce 118 = .ok (.ladd, 1) := by decide +kernel
theorem d_Rm_reduce_119 : decode b_Rm_reduce 119 = .ok (.lstore 7, 2) := by decide +kernel
theorem d_Rm_reduce_121 : decode b_Rm_reduce 121 = .ok (.aload_n 0, 1) := by decide +kernel
theorem d_Rm_reduce_122 : decode b_Rm_reduce 122 = .ok (.getfield 221, 3) := by decide +kernel
theorem d_Rm_reduce_125 : decode b_Rm_reduce 125 = .ok (.iload 9, 2) := by decide +kernel
theorem d_Rm_reduce_127 : decode b_Rm_reduce 127 = .ok (.lload 7, 2) := by decide +kernel
theorem d_Rm_reduce_129 : decode b_Rm_reduce 129 = .ok (.ldc2_w 27, 3) := by decide +kernel
theorem d_Rm_reduce_132 : decode b_Rm_reduce 132 = .ok (.land, 1) := by decide +kernel
theorem d_Rm_reduce_133 : decode b_Rm_reduce 133 = .ok (.lastore, 1) := by decide +kernel
theorem d_Rm_reduce_134 : decode b_Rm_reduce 134 = .ok (.lload 7, 2) := by decide +kernel
theorem d_Rm_reduce_136 : decode b_Rm_reduce 136 = .ok (.bipush 16, 2) := by decide +kernel
theorem d_Rm_reduce_138 : decode b_Rm_reduce 138 = .ok (.lshr, 1) := by decide +kernel
theorem d_Rm_reduce_139 : decode b_Rm_reduce 139 = .ok (.lstore 7, 2) := by decide +kernel
theorem d_Rm_reduce_141 : decode b_Rm_reduce 141 = .ok (.iinc 9 1, 3) := by decide +kernel
theorem d_Rm_reduce_144 : decode b_Rm_reduce 144 = .ok (.goto (-42), 3) := by decide +kernel
theorem d_Rm_reduce_147 : decode b_Rm_reduce 147 = .ok (.lload 7, 2) := by decide +kernel
theorem d_Rm_reduce_149 : decode b_Rm_reduce 149 = .ok (.lstore 4, 2) := by decide +kernel
theorem d_Rm_reduce_151 : decode b_Rm_reduce 151 = .ok (.iconst 0, 1) := by decide +kernel
theorem d_Rm_reduce_152 : decode b_Rm_reduce 152 = .ok (.istore 9, 2) := by decide +kernel
theorem d_Rm_reduce_154 : decode b_Rm_reduce 154 = .ok (.iload 9, 2) := by decide +kernel
theorem d_Rm_reduce_156 : decode b_Rm_reduce 156 = .ok (.bipush 16, 2) := by decide +kernel
theorem d_Rm_reduce_158 : decode b_Rm_reduce 158 = .ok (.if_icmp .ge 26, 3) := by decide +kernel
theorem d_Rm_reduce_161 : decode b_Rm_reduce 161 = .ok (.aload_n 0, 1) := by decide +kernel
theorem d_Rm_reduce_162 : decode b_Rm_reduce 162 = .ok (.getfield 221, 3) := by decide +kernel
theorem d_Rm_reduce_165 : decode b_Rm_reduce 165 = .ok (.iload 9, 2) := by decide +kernel
theorem d_Rm_reduce_167 : decode b_Rm_reduce 167 = .ok (.dup2, 1) := by decide +kernel
theorem d_Rm_reduce_168 : decode b_Rm_reduce 168 = .ok (.laload, 1) := by decide +kernel
theorem d_Rm_reduce_169 : decode b_Rm_reduce 169 = .ok (.lload 4, 2) := by decide +kernel
theorem d_Rm_reduce_171 : decode b_Rm_reduce 171 = .ok (.aload_n 3, 1) := by decide +kernel
theorem d_Rm_reduce_172 : decode b_Rm_reduce 172 = .ok (.iload 9, 2) := by decide +kernel
theorem d_Rm_reduce_174 : decode b_Rm_reduce 174 = .ok (.laload, 1) := by decide +kernel
theorem d_Rm_reduce_175 : decode b_Rm_reduce 175 = .ok (.lmul, 1) := by decide +kernel
theorem d_Rm_reduce_176 : decode b_Rm_reduce 176 = .ok (.ladd, 1) := by decide +kernel
theorem d_Rm_reduce_177 : decode b_Rm_reduce 177 = .ok (.lastore, 1) := by decide +kernel
theorem d_Rm_reduce_178 : decode b_Rm_reduce 178 = .ok (.iinc 9 1, 3) := by decide +kernel
theorem d_Rm_reduce_181 : decode b_Rm_reduce 181 = .ok (.goto (-27), 3) := by decide +kernel
theorem d_Rm_reduce_184 : decode b_Rm_reduce 184 = .ok (.iinc 6 1, 3) := by decide +kernel
theorem d_Rm_reduce_187 : decode b_Rm_reduce 187 = .ok (.goto (-105), 3) := by decide +kernel
theorem d_Rm_reduce_190 : decode b_Rm_reduce 190 = .ok (.iconst 0, 1) := by decide +kernel
theorem d_Rm_reduce_191 : decode b_Rm_reduce 191 = .ok (.istore 6, 2) := by decide +kernel
theorem d_Rm_reduce_193 : decode b_Rm_reduce 193 = .ok (.iload 6, 2) := by decide +kernel
theorem d_Rm_reduce_195 : decode b_Rm_reduce 195 = .ok (.bipush 16, 2) := by decide +kernel
theorem d_Rm_reduce_197 : decode b_Rm_reduce 197 = .ok (.if_icmp .ge 20, 3) := by decide +kernel
theorem d_Rm_reduce_200 : decode b_Rm_reduce 200 = .ok (.aload_n 1, 1) := by decide +kernel
theorem d_Rm_reduce_201 : decode b_Rm_reduce 201 = .ok (.iload 6, 2) := by decide +kernel
theorem d_Rm_reduce_203 : decode b_Rm_reduce 203 = .ok (.aload_n 0, 1) := by decide +kernel
theorem d_Rm_reduce_204 : decode b_Rm_reduce 204 = .ok (.getfield 221, 3) := by decide +kernel
theorem d_Rm_reduce_207 : decode b_Rm_reduce 207 = .ok (.iload 6, 2) := by decide +kernel
theorem d_Rm_reduce_209 : decode b_Rm_reduce 209 = .ok (.laload, 1) := by decide +kernel
theorem d_Rm_reduce_210 : decode b_Rm_reduce 210 = .ok (.lastore, 1) := by decide +kernel
theorem d_Rm_reduce_211 : decode b_Rm_reduce 211 = .ok (.iinc 6 1, 3) := by decide +kernel
theorem d_Rm_reduce_214 : decode b_Rm_reduce 214 = .ok (.goto (-21), 3) := by decide +kernel
theorem d_Rm_reduce_217 : decode b_Rm_reduce 217 = .ok (.iconst 0, 1) := by decide +kernel
theorem d_Rm_reduce_218 : decode b_Rm_reduce 218 = .ok (.istore 6, 2) := by decide +kernel
theorem d_Rm_reduce_220 : decode b_Rm_reduce 220 = .ok (.iload 6, 2) := by decide +kernel
theorem d_Rm_reduce_222 : decode b_Rm_reduce 222 = .ok (.bipush 16, 2) := by decide +kernel
theorem d_Rm_reduce_224 : decode b_Rm_reduce 224 = .ok (.if_icmp .ge 23, 3) := by decide +kernel
theorem d_Rm_reduce_227 : decode b_Rm_reduce 227 = .ok (.aload_n 1, 1) := by decide +kernel
theorem d_Rm_reduce_228 : decode b_Rm_reduce 228 = .ok (.aload_n 2, 1) := by decide +kernel
theorem d_Rm_reduce_229 : decode b_Rm_reduce 229 = .ok (.invokestatic 268, 3) := by decide +kernel
theorem d_Rm_reduce_232 : decode b_Rm_reduce 232 = .ok (.ifCond .ne 15, 3) := by decide +kernel
theorem d_Rm_reduce_235 : decode b_Rm_reduce 235 = .ok (.aload_n 1, 1) := by decide +kernel
theorem d_Rm_reduce_236 : decode b_Rm_reduce 236 = .ok (.aload_n 1, 1) := by decide +kernel
theorem d_Rm_reduce_237 : decode b_Rm_reduce 237 = .ok (.aload_n 2, 1) := by decide +kernel
theorem d_Rm_reduce_238 : decode b_Rm_reduce 238 = .ok (.invokestatic 272, 3) := by decide +kernel
theorem d_Rm_reduce_241 : decode b_Rm_reduce 241 = .ok (.iinc 6 1, 3) := by decide +kernel
theorem d_Rm_reduce_244 : decode b_Rm_reduce 244 = .ok (.goto (-24), 3) := by decide +kernel
theorem d_Rm_reduce_247 : decode b_Rm_reduce 247 = .ok (.return_, 1) := by decide +kernel
theorem fl_Rm_221 : FL "PrimeKeysModel" 221 8 38 := ⟨R_Rm, F_Rm, 50, rfl, u_Rm, by decide, rfl, tb_4 (List.mem_of_getElem? (i := 192) (by decide +kernel)) rfl⟩
theorem fl_Rm_218 : FL "PrimeKeysModel" 218 8 37 := ⟨R_Rm, F_Rm, 50, rfl, u_Rm, by decide, rfl, tb_4 (List.mem_of_getElem? (i := 191) (by decide +kernel)) rfl⟩
abbrev rm_Rm_reduce : Room := { frames := 1, cells := 0, slots := 0, locals := 27 }
def B_Rm_reduce_247 (K3 : HP → Nat → Nat → Nat → Nat → Int32 → Option (HP)) (K82 : HP → Nat → Nat → Nat → Nat → Int64 → Int32 → Option (HP)) (K193 : HP → Nat → Nat → Nat → Int32 → Option (HP)) (K220 : HP → Nat → Nat → Int32 → Option (HP)) (h : HP) : Option (HP) :=
  some h
set_option maxHeartbeats 4000000 in
set_option maxRecDepth 100000 in
theorem bk_Rm_reduce_247 {l : Launch} {x : CX} {h0 h' : HP} (C : EV x b_Rm_reduce "PrimeKeysModel" 10 rm_Rm_reduce) (T : CT x (none) rm_Rm_reduce h0 none h') (hl0 : x.1.2.1 = l) (K3 : HP → Nat → Nat → Nat → Nat → Int32 → Option (HP)) (K82 : HP → Nat → Nat → Nat → Nat → Int64 → Int32 → Option (HP)) (K193 : HP → Nat → Nat → Nat → Int32 → Option (HP)) (K220 : HP → Nat → Nat → Int32 → Option (HP)) (hK3 : ∀ (h : HP) (a0 : Nat) (a1 : Nat) (a2 : Nat) (a3 : Nat) (a4 : Int32), K3 h a0 a1 a2 a3 a4 = some h' → GG x 0 0 h 3 [(0, .ref a0), (1, .ref a1), (2, .ref a2), (3, .ref a3), (4, .int a4)] []) (hK82 : ∀ (h : HP) (a0 : Nat) (a1 : Nat) (a2 : Nat) (a3 : Nat) (a4 : Int64) (a6 : Int32), K82 h a0 a1 a2 a3 a4 a6 = some h' → GG x 0 0 h 82 [(0, .ref a0), (1, .ref a1), (2, .ref a2), (3, .ref a3), (4, .long a4), (6, .int a6)] []) (hK193 : ∀ (h : HP) (a0 : Nat) (a1 : Nat) (a2 : Nat) (a6 : Int32), K193 h a0 a1 a2 a6 = some h' → GG x 0 0 h 193 [(0, .ref a0), (1, .ref a1), (2, .ref a2), (6, .int a6)] []) (hK220 : ∀ (h : HP) (a1 : Nat) (a2 : Nat) (a6 : Int32), K220 h a1 a2 a6 = some h' → GG x 0 0 h 220 [(1, .ref a1), (2, .ref a2), (6, .int a6)] []) (h : HP) (hr : B_Rm_reduce_247 K3 K82 K193 K220 h = some h') : GG x 0 0 h 247 [] [] := by
  unfold B_Rm_reduce_247 at hr
  cases hr
  exact g_vreturn C T (by decide) (by decide) d_Rm_reduce_247
def B_Rm_reduce_220 (K3 : HP → Nat → Nat → Nat → Nat → Int32 → Option (HP)) (K82 : HP → Nat → Nat → Nat → Nat → Int64 → Int32 → Option (HP)) (K193 : HP → Nat → Nat → Nat → Int32 → Option (HP)) (K220 : HP → Nat → Nat → Int32 → Option (HP)) (h : HP) (a1 : Nat) (a2 : Nat) (a6 : Int32) : Option (HP) :=
  if 16 ≤ a6 then
  B_Rm_reduce_247 K3 K82 K193 K220 h
  else
  bnd2 (P_Rm_below h a1 a2) fun v2 h1 =>
  if v2 = 0 then
  bnd (P_Rm_less h1 a1 a1 a2) fun h3 =>
  lt (a6 + Int32.ofInt 1) fun x4 =>
  K220 h3 a1 a2 x4
  else
  B_Rm_reduce_247 K3 K82 K193 K220 h1
set_option maxHeartbeats 4000000 in
set_option maxRecDepth 100000 in
theorem bk_Rm_reduce_220 {l : Launch} {x : CX} {h0 h' : HP} (C : EV x b_Rm_reduce "PrimeKeysModel" 10 rm_Rm_reduce) (T : CT x (none) rm_Rm_reduce h0 none h') (hl0 : x.1.2.1 = l) (K3 : HP → Nat → Nat → Nat → Nat → Int32 → Option (HP)) (K82 : HP → Nat → Nat → Nat → Nat → Int64 → Int32 → Option (HP)) (K193 : HP → Nat → Nat → Nat → Int32 → Option (HP)) (K220 : HP → Nat → Nat → Int32 → Option (HP)) (hK3 : ∀ (h : HP) (a0 : Nat) (a1 : Nat) (a2 : Nat) (a3 : Nat) (a4 : Int32), K3 h a0 a1 a2 a3 a4 = some h' → GG x 0 0 h 3 [(0, .ref a0), (1, .ref a1), (2, .ref a2), (3, .ref a3), (4, .int a4)] []) (hK82 : ∀ (h : HP) (a0 : Nat) (a1 : Nat) (a2 : Nat) (a3 : Nat) (a4 : Int64) (a6 : Int32), K82 h a0 a1 a2 a3 a4 a6 = some h' → GG x 0 0 h 82 [(0, .ref a0), (1, .ref a1), (2, .ref a2), (3, .ref a3), (4, .long a4), (6, .int a6)] []) (hK193 : ∀ (h : HP) (a0 : Nat) (a1 : Nat) (a2 : Nat) (a6 : Int32), K193 h a0 a1 a2 a6 = some h' → GG x 0 0 h 193 [(0, .ref a0), (1, .ref a1), (2, .ref a2), (6, .int a6)] []) (hK220 : ∀ (h : HP) (a1 : Nat) (a2 : Nat) (a6 : Int32), K220 h a1 a2 a6 = some h' → GG x 0 0 h 220 [(1, .ref a1), (2, .ref a2), (6, .int a6)] []) (h : HP) (a1 : Nat) (a2 : Nat) (a6 : Int32) (hr : B_Rm_reduce_220 K3 K82 K193 K220 h a1 a2 a6 = some h') : GG x 0 0 h 220 [(1, .ref a1), (2, .ref a2), (6, .int a6)] [] := by
  unfold B_Rm_reduce_220 at hr
  refine g_iload C 2 rfl d_Rm_reduce_220 ?_
  refine g_bipush (v := 16) C d_Rm_reduce_222 (by decide) ?_
  refine g_icmp_ge (tgt := 247) C d_Rm_reduce_224 (by decide) (fun z => ?_) (fun z => ?_)
  · have hr := of_if z hr
    refine g_lv [] rfl ?_
    exact bk_Rm_reduce_247 C T hl0 K3 K82 K193 K220 hK3 hK82 hK193 hK220 h hr
  · have hr := of_el z hr
    refine g_aload_n C 0 rfl d_Rm_reduce_227 rfl ?_
    refine g_aload_n C 1 rfl d_Rm_reduce_228 rfl ?_
    obtain ⟨v2, h1, eh1, hr⟩ := of_bnd2 hr
    refine g_callS (pa := [.ref a1, .ref a2]) C hl0 (c_Rm_below eh1) cd_Rm_268 kw_st_Rm_below (by decide) rfl rfl (Nat.le_of_ble_eq_true rfl) d_Rm_reduce_229 ?_
    refine g_if_ne (tgt := 247) C d_Rm_reduce_232 (by decide) (fun z => ?_) (fun z => ?_)
    · have hr := of_el z hr
      refine g_lv [] rfl ?_
      exact bk_Rm_reduce_247 C T hl0 K3 K82 K193 K220 hK3 hK82 hK193 hK220 h1 hr
    · have hr := of_if z hr
      refine g_aload_n C 0 rfl d_Rm_reduce_235 rfl ?_
      refine g_aload_n C 0 rfl d_Rm_reduce_236 rfl ?_
      refine g_aload_n C 1 rfl d_Rm_reduce_237 rfl ?_
      obtain ⟨h3, eh3, hr⟩ := of_bnd hr
      refine g_callS (pa := [.ref a1, .ref a1, .ref a2]) C hl0 (c_Rm_less eh3) cd_Rm_272 kw_st_Rm_less (by decide) rfl rfl (Nat.le_of_ble_eq_true rfl) d_Rm_reduce_238 ?_
      obtain ⟨x4, ex4⟩ : ∃ z, z = a6 + Int32.ofInt 1 := ⟨_, rfl⟩
      have hr := of_lt ex4 hr
      refine g_iinc (lv' := [(6, .int x4), (1, .ref a1), (2, .ref a2)]) C 2 rfl d_Rm_reduce_241 ex4.symm (by decide) rfl ?_
      refine g_goto (tgt := 220) C d_Rm_reduce_244 (by decide) ?_
      refine g_lv [1, 2, 0] rfl ?_
      exact hK220 h3 a1 a2 x4 hr
def L_Rm_reduce_220 (K3 : HP → Nat → Nat → Nat → Nat → Int32 → Option (HP)) (K82 : HP → Nat → Nat → Nat → Nat → Int64 → Int32 → Option (HP)) (K193 : HP → Nat → Nat → Nat → Int32 → Option (HP)) : Nat → HP → Nat → Nat → Int32 → Option (HP)
  | 0, _, _, _, _ => none
  | f + 1, h, a1, a2, a6 => B_Rm_reduce_220 K3 K82 K193 (L_Rm_reduce_220 K3 K82 K193 f) h a1 a2 a6
theorem lp_Rm_reduce_220 {l : Launch} {x : CX} {h0 h' : HP} (C : EV x b_Rm_reduce "PrimeKeysModel" 10 rm_Rm_reduce) (T : CT x (none) rm_Rm_reduce h0 none h') (hl0 : x.1.2.1 = l) (K3 : HP → Nat → Nat → Nat → Nat → Int32 → Option (HP)) (K82 : HP → Nat → Nat → Nat → Nat → Int64 → Int32 → Option (HP)) (K193 : HP → Nat → Nat → Nat → Int32 → Option (HP)) (hK3 : ∀ (h : HP) (a0 : Nat) (a1 : Nat) (a2 : Nat) (a3 : Nat) (a4 : Int32), K3 h a0 a1 a2 a3 a4 = some h' → GG x 0 0 h 3 [(0, .ref a0), (1, .ref a1), (2, .ref a2), (3, .ref a3), (4, .int a4)] []) (hK82 : ∀ (h : HP) (a0 : Nat) (a1 : Nat) (a2 : Nat) (a3 : Nat) (a4 : Int64) (a6 : Int32), K82 h a0 a1 a2 a3 a4 a6 = some h' → GG x 0 0 h 82 [(0, .ref a0), (1, .ref a1), (2, .ref a2), (3, .ref a3), (4, .long a4), (6, .int a6)] []) (hK193 : ∀ (h : HP) (a0 : Nat) (a1 : Nat) (a2 : Nat) (a6 : Int32), K193 h a0 a1 a2 a6 = some h' → GG x 0 0 h 193 [(0, .ref a0), (1, .ref a1), (2, .ref a2), (6, .int a6)] []) : ∀ (f : Nat) (h : HP) (a1 : Nat) (a2 : Nat) (a6 : Int32), L_Rm_reduce_220 K3 K82 K193 f h a1 a2 a6 = some h' → GG x 0 0 h 220 [(1, .ref a1), (2, .ref a2), (6, .int a6)] [] := by
  intro f
  induction f with
  | zero => intro h a1 a2 a6 hr; have hr : (none : Option (HP)) = some h' := hr; cases hr
  | succ f ih => intro h a1 a2 a6 hr; exact bk_Rm_reduce_220 C T hl0 K3 K82 K193 (L_Rm_reduce_220 K3 K82 K193 f) hK3 hK82 hK193 ih h a1 a2 a6 hr
def B_Rm_reduce_193 (K3 : HP → Nat → Nat → Nat → Nat → Int32 → Option (HP)) (K82 : HP → Nat → Nat → Nat → Nat → Int64 → Int32 → Option (HP)) (K193 : HP → Nat → Nat → Nat → Int32 → Option (HP)) (h : HP) (a0 : Nat) (a1 : Nat) (a2 : Nat) (a6 : Int32) : Option (HP) :=
  if 16 ≤ a6 then
  L_Rm_reduce_220 K3 K82 K193 FU h a1 a2 0
  else
  bnd (gR h a0 8 38) fun k5 =>
  bnd (ldJ h k5 a6) fun v6 =>
  bnd (stJ h a1 a6 v6) fun h7 =>
  lt (a6 + Int32.ofInt 1) fun x8 =>
  K193 h7 a0 a1 a2 x8
set_option maxHeartbeats 4000000 in
set_option maxRecDepth 100000 in
theorem bk_Rm_reduce_193 {l : Launch} {x : CX} {h0 h' : HP} (C : EV x b_Rm_reduce "PrimeKeysModel" 10 rm_Rm_reduce) (T : CT x (none) rm_Rm_reduce h0 none h') (hl0 : x.1.2.1 = l) (K3 : HP → Nat → Nat → Nat → Nat → Int32 → Option (HP)) (K82 : HP → Nat → Nat → Nat → Nat → Int64 → Int32 → Option (HP)) (K193 : HP → Nat → Nat → Nat → Int32 → Option (HP)) (hK3 : ∀ (h : HP) (a0 : Nat) (a1 : Nat) (a2 : Nat) (a3 : Nat) (a4 : Int32), K3 h a0 a1 a2 a3 a4 = some h' → GG x 0 0 h 3 [(0, .ref a0), (1, .ref a1), (2, .ref a2), (3, .ref a3), (4, .int a4)] []) (hK82 : ∀ (h : HP) (a0 : Nat) (a1 : Nat) (a2 : Nat) (a3 : Nat) (a4 : Int64) (a6 : Int32), K82 h a0 a1 a2 a3 a4 a6 = some h' → GG x 0 0 h 82 [(0, .ref a0), (1, .ref a1), (2, .ref a2), (3, .ref a3), (4, .long a4), (6, .int a6)] []) (hK193 : ∀ (h : HP) (a0 : Nat) (a1 : Nat) (a2 : Nat) (a6 : Int32), K193 h a0 a1 a2 a6 = some h' → GG x 0 0 h 193 [(0, .ref a0), (1, .ref a1), (2, .ref a2), (6, .int a6)] []) (h : HP) (a0 : Nat) (a1 : Nat) (a2 : Nat) (a6 : Int32) (hr : B_Rm_reduce_193 K3 K82 K193 h a0 a1 a2 a6 = some h') : GG x 0 0 h 193 [(0, .ref a0), (1, .ref a1), (2, .ref a2), (6, .int a6)] [] := by
  unfold B_Rm_reduce_193 at hr
  refine g_iload C 3 rfl d_Rm_reduce_193 ?_
  refine g_bipush (v := 16) C d_Rm_reduce_195 (by decide) ?_
  refine g_icmp_ge (tgt := 217) C d_Rm_reduce_197 (by decide) (fun z => ?_) (fun z => ?_)
  · have hr := of_if z hr
    refine g_iconst (v := 0) C d_Rm_reduce_217 (by decide) ?_
    refine g_istore (lv' := [(6, .int 0), (0, .ref a0), (1, .ref a1), (2, .ref a2)]) C d_Rm_reduce_218 (by decide) rfl ?_
    refine g_lv [2, 3, 0] rfl ?_
    exact lp_Rm_reduce_220 C T hl0 K3 K82 K193 hK3 hK82 hK193 FU h a1 a2 0 hr
  · have hr := of_el z hr
    refine g_aload_n C 1 rfl d_Rm_reduce_200 rfl ?_
    refine g_iload C 3 rfl d_Rm_reduce_201 ?_
    refine g_aload_n C 0 rfl d_Rm_reduce_203 rfl ?_
    obtain ⟨k5, ek5, hr⟩ := of_bnd hr
    refine g_getR C fl_Rm_221 ek5 d_Rm_reduce_204 ?_
    refine g_iload C 3 rfl d_Rm_reduce_207 ?_
    obtain ⟨v6, ev6, hr⟩ := of_bnd hr
    refine g_laload C ev6 d_Rm_reduce_209 ?_
    obtain ⟨h7, eh7, hr⟩ := of_bnd hr
    refine g_lastore C eh7 d_Rm_reduce_210 ?_
    obtain ⟨x8, ex8⟩ : ∃ z, z = a6 + Int32.ofInt 1 := ⟨_, rfl⟩
    have hr := of_lt ex8 hr
    refine g_iinc (lv' := [(6, .int x8), (0, .ref a0), (1, .ref a1), (2, .ref a2)]) C 3 rfl d_Rm_reduce_211 ex8.symm (by decide) rfl ?_
    refine g_goto (tgt := 193) C d_Rm_reduce_214 (by decide) ?_
    refine g_lv [1, 2, 3, 0] rfl ?_
    exact hK193 h7 a0 a1 a2 x8 hr
def L_Rm_reduce_193 (K3 : HP → Nat → Nat → Nat → Nat → Int32 → Option (HP)) (K82 : HP → Nat → Nat → Nat → Nat → Int64 → Int32 → Option (HP)) : Nat → HP → Nat → Nat → Nat → Int32 → Option (HP)
  | 0, _, _, _, _, _ => none
  | f + 1, h, a0, a1, a2, a6 => B_Rm_reduce_193 K3 K82 (L_Rm_reduce_193 K3 K82 f) h a0 a1 a2 a6
theorem lp_Rm_reduce_193 {l : Launch} {x : CX} {h0 h' : HP} (C : EV x b_Rm_reduce "PrimeKeysModel" 10 rm_Rm_reduce) (T : CT x (none) rm_Rm_reduce h0 none h') (hl0 : x.1.2.1 = l) (K3 : HP → Nat → Nat → Nat → Nat → Int32 → Option (HP)) (K82 : HP → Nat → Nat → Nat → Nat → Int64 → Int32 → Option (HP)) (hK3 : ∀ (h : HP) (a0 : Nat) (a1 : Nat) (a2 : Nat) (a3 : Nat) (a4 : Int32), K3 h a0 a1 a2 a3 a4 = some h' → GG x 0 0 h 3 [(0, .ref a0), (1, .ref a1), (2, .ref a2), (3, .ref a3), (4, .int a4)] []) (hK82 : ∀ (h : HP) (a0 : Nat) (a1 : Nat) (a2 : Nat) (a3 : Nat) (a4 : Int64) (a6 : Int32), K82 h a0 a1 a2 a3 a4 a6 = some h' → GG x 0 0 h 82 [(0, .ref a0), (1, .ref a1), (2, .ref a2), (3, .ref a3), (4, .long a4), (6, .int a6)] []) : ∀ (f : Nat) (h : HP) (a0 : Nat) (a1 : Nat) (a2 : Nat) (a6 : Int32), L_Rm_reduce_193 K3 K82 f h a0 a1 a2 a6 = some h' → GG x 0 0 h 193 [(0, .ref a0), (1, .ref a1), (2, .ref a2), (6, .int a6)] [] := by
  intro f
  induction f with
  | zero => intro h a0 a1 a2 a6 hr; have hr : (none : Option (HP)) = some h' := hr; cases hr
  | succ f ih => intro h a0 a1 a2 a6 hr; exact bk_Rm_reduce_193 C T hl0 K3 K82 (L_Rm_reduce_193 K3 K82 f) hK3 hK82 ih h a0 a1 a2 a6 hr
def B_Rm_reduce_190 (K3 : HP → Nat → Nat → Nat → Nat → Int32 → Option (HP)) (K82 : HP → Nat → Nat → Nat → Nat → Int64 → Int32 → Option (HP)) (h : HP) (a0 : Nat) (a1 : Nat) (a2 : Nat) : Option (HP) :=
  L_Rm_reduce_193 K3 K82 FU h a0 a1 a2 0
set_option maxHeartbeats 4000000 in
set_option maxRecDepth 100000 in
theorem bk_Rm_reduce_190 {l : Launch} {x : CX} {h0 h' : HP} (C : EV x b_Rm_reduce "PrimeKeysModel" 10 rm_Rm_reduce) (T : CT x (none) rm_Rm_reduce h0 none h') (hl0 : x.1.2.1 = l) (K3 : HP → Nat → Nat → Nat → Nat → Int32 → Option (HP)) (K82 : HP → Nat → Nat → Nat → Nat → Int64 → Int32 → Option (HP)) (hK3 : ∀ (h : HP) (a0 : Nat) (a1 : Nat) (a2 : Nat) (a3 : Nat) (a4 : Int32), K3 h a0 a1 a2 a3 a4 = some h' → GG x 0 0 h 3 [(0, .ref a0), (1, .ref a1), (2, .ref a2), (3, .ref a3), (4, .int a4)] []) (hK82 : ∀ (h : HP) (a0 : Nat) (a1 : Nat) (a2 : Nat) (a3 : Nat) (a4 : Int64) (a6 : Int32), K82 h a0 a1 a2 a3 a4 a6 = some h' → GG x 0 0 h 82 [(0, .ref a0), (1, .ref a1), (2, .ref a2), (3, .ref a3), (4, .long a4), (6, .int a6)] []) (h : HP) (a0 : Nat) (a1 : Nat) (a2 : Nat) (hr : B_Rm_reduce_190 K3 K82 h a0 a1 a2 = some h') : GG x 0 0 h 190 [(0, .ref a0), (1, .ref a1), (2, .ref a2)] [] := by
  unfold B_Rm_reduce_190 at hr
  refine g_iconst (v := 0) C d_Rm_reduce_190 (by decide) ?_
  refine g_istore (lv' := [(6, .int 0), (0, .ref a0), (1, .ref a1), (2, .ref a2)]) C d_Rm_reduce_191 (by decide) rfl ?_
  refine g_lv [1, 2, 3, 0] rfl ?_
  exact lp_Rm_reduce_193 C T hl0 K3 K82 hK3 hK82 FU h a0 a1 a2 0 hr
def B_Rm_reduce_154 (K3 : HP → Nat → Nat → Nat → Nat → Int32 → Option (HP)) (K82 : HP → Nat → Nat → Nat → Nat → Int64 → Int32 → Option (HP)) (K102 : HP → Nat → Nat → Nat → Nat → Int32 → Int64 → Int32 → Option (HP)) (K154 : HP → Nat → Nat → Nat → Nat → Int64 → Int32 → Int32 → Option (HP)) (h : HP) (a0 : Nat) (a1 : Nat) (a2 : Nat) (a3 : Nat) (a4 : Int64) (a6 : Int32) (a9 : Int32) : Option (HP) :=
  if 16 ≤ a9 then
  lt (a6 + Int32.ofInt 1) fun x9 =>
  K82 h a0 a1 a2 a3 a4 x9
  else
  bnd (gR h a0 8 38) fun k10 =>
  bnd (ldJ h k10 a9) fun v11 =>
  bnd (ldJ h a3 a9) fun v12 =>
  bnd (stJ h k10 a9 (v11 + (a4 * v12))) fun h13 =>
  lt (a9 + Int32.ofInt 1) fun x14 =>
  K154 h13 a0 a1 a2 a3 a4 a6 x14
set_option maxHeartbeats 4000000 in
set_option maxRecDepth 100000 in
theorem bk_Rm_reduce_154 {l : Launch} {x : CX} {h0 h' : HP} (C : EV x b_Rm_reduce "PrimeKeysModel" 10 rm_Rm_reduce) (T : CT x (none) rm_Rm_reduce h0 none h') (hl0 : x.1.2.1 = l) (K3 : HP → Nat → Nat → Nat → Nat → Int32 → Option (HP)) (K82 : HP → Nat → Nat → Nat → Nat → Int64 → Int32 → Option (HP)) (K102 : HP → Nat → Nat → Nat → Nat → Int32 → Int64 → Int32 → Option (HP)) (K154 : HP → Nat → Nat → Nat → Nat → Int64 → Int32 → Int32 → Option (HP)) (hK3 : ∀ (h : HP) (a0 : Nat) (a1 : Nat) (a2 : Nat) (a3 : Nat) (a4 : Int32), K3 h a0 a1 a2 a3 a4 = some h' → GG x 0 0 h 3 [(0, .ref a0), (1, .ref a1), (2, .ref a2), (3, .ref a3), (4, .int a4)] []) (hK82 : ∀ (h : HP) (a0 : Nat) (a1 : Nat) (a2 : Nat) (a3 : Nat) (a4 : Int64) (a6 : Int32), K82 h a0 a1 a2 a3 a4 a6 = some h' → GG x 0 0 h 82 [(0, .ref a0), (1, .ref a1), (2, .ref a2), (3, .ref a3), (4, .long a4), (6, .int a6)] []) (hK102 : ∀ (h : HP) (a0 : Nat) (a1 : Nat) (a2 : Nat) (a3 : Nat) (a6 : Int32) (a7 : Int64) (a9 : Int32), K102 h a0 a1 a2 a3 a6 a7 a9 = some h' → GG x 0 0 h 102 [(0, .ref a0), (1, .ref a1), (2, .ref a2), (3, .ref a3), (6, .int a6), (7, .long a7), (9, .int a9)] []) (hK154 : ∀ (h : HP) (a0 : Nat) (a1 : Nat) (a2 : Nat) (a3 : Nat) (a4 : Int64) (a6 : Int32) (a9 : Int32), K154 h a0 a1 a2 a3 a4 a6 a9 = some h' → GG x 0 0 h 154 [(0, .ref a0), (1, .ref a1), (2, .ref a2), (3, .ref a3), (4, .long a4), (6, .int a6), (9, .int a9)] []) (h : HP) (a0 : Nat) (a1 : Nat) (a2 : Nat) (a3 : Nat) (a4 : Int64) (a6 : Int32) (a9 : Int32) (hr : B_Rm_reduce_154 K3 K82 K102 K154 h a0 a1 a2 a3 a4 a6 a9 = some h') : GG x 0 0 h 154 [(0, .ref a0), (1, .ref a1), (2, .ref a2), (3, .ref a3), (4, .long a4), (6, .int a6), (9, .int a9)] [] := by
  unfold B_Rm_reduce_154 at hr
  refine g_iload C 6 rfl d_Rm_reduce_154 ?_
  refine g_bipush (v := 16) C d_Rm_reduce_156 (by decide) ?_
  refine g_icmp_ge (tgt := 184) C d_Rm_reduce_158 (by decide) (fun z => ?_) (fun z => ?_)
  · have hr := of_if z hr
    obtain ⟨x9, ex9⟩ : ∃ z, z = a6 + Int32.ofInt 1 := ⟨_, rfl⟩
    have hr := of_lt ex9 hr
    refine g_iinc (lv' := [(6, .int x9), (0, .ref a0), (1, .ref a1), (2, .ref a2), (3, .ref a3), (4, .long a4), (9, .int a9)]) C 5 rfl d_Rm_reduce_184 ex9.symm (by decide) rfl ?_
    refine g_goto (tgt := 82) C d_Rm_reduce_187 (by decide) ?_
    refine g_lv [1, 2, 3, 4, 5, 0] rfl ?_
    exact hK82 h a0 a1 a2 a3 a4 x9 hr
  · have hr := of_el z hr
    refine g_aload_n C 0 rfl d_Rm_reduce_161 rfl ?_
    obtain ⟨k10, ek10, hr⟩ := of_bnd hr
    refine g_getR C fl_Rm_221 ek10 d_Rm_reduce_162 ?_
    refine g_iload C 6 rfl d_Rm_reduce_165 ?_
    refine g_dup2_11 C d_Rm_reduce_167 rfl rfl ?_
    obtain ⟨v11, ev11, hr⟩ := of_bnd hr
    refine g_laload C ev11 d_Rm_reduce_168 ?_
    refine g_lload C 4 rfl d_Rm_reduce_169 ?_
    refine g_aload_n C 3 rfl d_Rm_reduce_171 rfl ?_
    refine g_iload C 6 rfl d_Rm_reduce_172 ?_
    obtain ⟨v12, ev12, hr⟩ := of_bnd hr
    refine g_laload C ev12 d_Rm_reduce_174 ?_
    refine g_lmul C d_Rm_reduce_175 ?_
    refine g_ladd C d_Rm_reduce_176 ?_
    obtain ⟨h13, eh13, hr⟩ := of_bnd hr
    refine g_lastore C eh13 d_Rm_reduce_177 ?_
    obtain ⟨x14, ex14⟩ : ∃ z, z = a9 + Int32.ofInt 1 := ⟨_, rfl⟩
    have hr := of_lt ex14 hr
    refine g_iinc (lv' := [(9, .int x14), (0, .ref a0), (1, .ref a1), (2, .ref a2), (3, .ref a3), (4, .long a4), (6, .int a6)]) C 6 rfl d_Rm_reduce_178 ex14.symm (by decide) rfl ?_
    refine g_goto (tgt := 154) C d_Rm_reduce_181 (by decide) ?_
    refine g_lv [1, 2, 3, 4, 5, 6, 0] rfl ?_
    exact hK154 h13 a0 a1 a2 a3 a4 a6 x14 hr
def L_Rm_reduce_154 (K3 : HP → Nat → Nat → Nat → Nat → Int32 → Option (HP)) (K82 : HP → Nat → Nat → Nat → Nat → Int64 → Int32 → Option (HP)) (K102 : HP → Nat → Nat → Nat → Nat → Int32 → Int64 → Int32 → Option (HP)) : Nat → HP → Nat → Nat → Nat → Nat → Int64 → Int32 → Int32 → Option (HP)
  | 0, _, _, _, _, _, _, _, _ => none
  | f + 1, h, a0, a1, a2, a3, a4, a6, a9 => B_Rm_reduce_154 K3 K82 K102 (L_Rm_reduce_154 K3 K82 K102 f) h a0 a1 a2 a3 a4 a6 a9
theorem lp_Rm_reduce_154 {l : Launch} {x : CX} {h0 h' : HP} (C : EV x b_Rm_reduce "PrimeKeysModel" 10 rm_Rm_reduce) (T : CT x (none) rm_Rm_reduce h0 none h') (hl0 : x.1.2.1 = l) (K3 : HP → Nat → Nat → Nat → Nat → Int32 → Option (HP)) (K82 : HP → Nat → Nat → Nat → Nat → Int64 → Int32 → Option (HP)) (K102 : HP → Nat → Nat → Nat → Nat → Int32 → Int64 → Int32 → Option (HP)) (hK3 : ∀ (h : HP) (a0 : Nat) (a1 : Nat) (a2 : Nat) (a3 : Nat) (a4 : Int32), K3 h a0 a1 a2 a3 a4 = some h' → GG x 0 0 h 3 [(0, .ref a0), (1, .ref a1), (2, .ref a2), (3, .ref a3), (4, .int a4)] []) (hK82 : ∀ (h : HP) (a0 : Nat) (a1 : Nat) (a2 : Nat) (a3 : Nat) (a4 : Int64) (a6 : Int32), K82 h a0 a1 a2 a3 a4 a6 = some h' → GG x 0 0 h 82 [(0, .ref a0), (1, .ref a1), (2, .ref a2), (3, .ref a3), (4, .long a4), (6, .int a6)] []) (hK102 : ∀ (h : HP) (a0 : Nat) (a1 : Nat) (a2 : Nat) (a3 : Nat) (a6 : Int32) (a7 : Int64) (a9 : Int32), K102 h a0 a1 a2 a3 a6 a7 a9 = some h' → GG x 0 0 h 102 [(0, .ref a0), (1, .ref a1), (2, .ref a2), (3, .ref a3), (6, .int a6), (7, .long a7), (9, .int a9)] []) : ∀ (f : Nat) (h : HP) (a0 : Nat) (a1 : Nat) (a2 : Nat) (a3 : Nat) (a4 : Int64) (a6 : Int32) (a9 : Int32), L_Rm_reduce_154 K3 K82 K102 f h a0 a1 a2 a3 a4 a6 a9 = some h' → GG x 0 0 h 154 [(0, .ref a0), (1, .ref a1), (2, .ref a2), (3, .ref a3), (4, .long a4), (6, .int a6), (9, .int a9)] [] := by
  intro f
  induction f with
  | zero => intro h a0 a1 a2 a3 a4 a6 a9 hr; have hr : (none : Option (HP)) = some h' := hr; cases hr
  | succ f ih => intro h a0 a1 a2 a3 a4 a6 a9 hr; exact bk_Rm_reduce_154 C T hl0 K3 K82 K102 (L_Rm_reduce_154 K3 K82 K102 f) hK3 hK82 hK102 ih h a0 a1 a2 a3 a4 a6 a9 hr
def B_Rm_reduce_102 (K3 : HP → Nat → Nat → Nat → Nat → Int32 → Option (HP)) (K82 : HP → Nat → Nat → Nat → Nat → Int64 → Int32 → Option (HP)) (K102 : HP → Nat → Nat → Nat → Nat → Int32 → Int64 → Int32 → Option (HP)) (h : HP) (a0 : Nat) (a1 : Nat) (a2 : Nat) (a3 : Nat) (a6 : Int32) (a7 : Int64) (a9 : Int32) : Option (HP) :=
  if 16 ≤ a9 then
  L_Rm_reduce_154 K3 K82 K102 FU h a0 a1 a2 a3 a7 a6 0
  else
  bnd (gR h a0 8 38) fun k15 =>
  bnd (ldJ h k15 a9) fun v16 =>
  lt (a7 + v16) fun x17 =>
  bnd (gR h a0 8 38) fun k18 =>
  bnd (stJ h k18 a9 (x17 &&& 65535)) fun h19 =>
  lt (x17 >>> (Int32.toInt64 16 &&& 63)) fun x20 =>
  lt (a9 + Int32.ofInt 1) fun x21 =>
  K102 h19 a0 a1 a2 a3 a6 x20 x21
set_option maxHeartbeats 4000000 in
set_option maxRecDepth 100000 in
theorem bk_Rm_reduce_102 {l : Launch} {x : CX} {h0 h' : HP} (C : EV x b_Rm_reduce "PrimeKeysModel" 10 rm_Rm_reduce) (T : CT x (none) rm_Rm_reduce h0 none h') (hl0 : x.1.2.1 = l) (K3 : HP → Nat → Nat → Nat → Nat → Int32 → Option (HP)) (K82 : HP → Nat → Nat → Nat → Nat → Int64 → Int32 → Option (HP)) (K102 : HP → Nat → Nat → Nat → Nat → Int32 → Int64 → Int32 → Option (HP)) (hK3 : ∀ (h : HP) (a0 : Nat) (a1 : Nat) (a2 : Nat) (a3 : Nat) (a4 : Int32), K3 h a0 a1 a2 a3 a4 = some h' → GG x 0 0 h 3 [(0, .ref a0), (1, .ref a1), (2, .ref a2), (3, .ref a3), (4, .int a4)] []) (hK82 : ∀ (h : HP) (a0 : Nat) (a1 : Nat) (a2 : Nat) (a3 : Nat) (a4 : Int64) (a6 : Int32), K82 h a0 a1 a2 a3 a4 a6 = some h' → GG x 0 0 h 82 [(0, .ref a0), (1, .ref a1), (2, .ref a2), (3, .ref a3), (4, .long a4), (6, .int a6)] []) (hK102 : ∀ (h : HP) (a0 : Nat) (a1 : Nat) (a2 : Nat) (a3 : Nat) (a6 : Int32) (a7 : Int64) (a9 : Int32), K102 h a0 a1 a2 a3 a6 a7 a9 = some h' → GG x 0 0 h 102 [(0, .ref a0), (1, .ref a1), (2, .ref a2), (3, .ref a3), (6, .int a6), (7, .long a7), (9, .int a9)] []) (h : HP) (a0 : Nat) (a1 : Nat) (a2 : Nat) (a3 : Nat) (a6 : Int32) (a7 : Int64) (a9 : Int32) (hr : B_Rm_reduce_102 K3 K82 K102 h a0 a1 a2 a3 a6 a7 a9 = some h') : GG x 0 0 h 102 [(0, .ref a0), (1, .ref a1), (2, .ref a2), (3, .ref a3), (6, .int a6), (7, .long a7), (9, .int a9)] [] := by
  unfold B_Rm_reduce_102 at hr
  refine g_iload C 6 rfl d_Rm_reduce_102 ?_
  refine g_bipush (v := 16) C d_Rm_reduce_104 (by decide) ?_
  refine g_icmp_ge (tgt := 147) C d_Rm_reduce_106 (by decide) (fun z => ?_) (fun z => ?_)
  · have hr := of_if z hr
    refine g_lload C 5 rfl d_Rm_reduce_147 ?_
    refine g_lstore (lv' := [(4, .long a7), (0, .ref a0), (1, .ref a1), (2, .ref a2), (3, .ref a3), (6, .int a6), (7, .long a7), (9, .int a9)]) C d_Rm_reduce_149 (by decide) rfl ?_
    refine g_iconst (v := 0) C d_Rm_reduce_151 (by decide) ?_
    refine g_istore (lv' := [(9, .int 0), (4, .long a7), (0, .ref a0), (1, .ref a1), (2, .ref a2), (3, .ref a3), (6, .int a6), (7, .long a7)]) C d_Rm_reduce_152 (by decide) rfl ?_
    refine g_lv [2, 3, 4, 5, 1, 6, 0] rfl ?_
    exact lp_Rm_reduce_154 C T hl0 K3 K82 K102 hK3 hK82 hK102 FU h a0 a1 a2 a3 a7 a6 0 hr
  · have hr := of_el z hr
    refine g_lload C 5 rfl d_Rm_reduce_109 ?_
    refine g_aload_n C 0 rfl d_Rm_reduce_111 rfl ?_
    obtain ⟨k15, ek15, hr⟩ := of_bnd hr
    refine g_getR C fl_Rm_221 ek15 d_Rm_reduce_112 ?_
    refine g_iload C 6 rfl d_Rm_reduce_115 ?_
    obtain ⟨v16, ev16, hr⟩ := of_bnd hr
    refine g_laload C ev16 d_Rm_reduce_117 ?_
    refine g_ladd C d_Rm_reduce_118 ?_
    refine g_topl (fun x17 ex17 => ?_)
    have hr := of_lt ex17 hr
    refine g_lstore (lv' := [(7, .long x17), (0, .ref a0), (1, .ref a1), (2, .ref a2), (3, .ref a3), (6, .int a6), (9, .int a9)]) C d_Rm_reduce_119 (by decide) rfl ?_
    refine g_aload_n C 1 rfl d_Rm_reduce_121 rfl ?_
    obtain ⟨k18, ek18, hr⟩ := of_bnd hr
    refine g_getR C fl_Rm_221 ek18 d_Rm_reduce_122 ?_
    refine g_iload C 6 rfl d_Rm_reduce_125 ?_
    refine g_lload C 0 rfl d_Rm_reduce_127 ?_
    refine g_ldc2 (v := 65535) C d_Rm_reduce_129 kw_17 ?_
    refine g_land C d_Rm_reduce_132 ?_
    obtain ⟨h19, eh19, hr⟩ := of_bnd hr
    refine g_lastore C eh19 d_Rm_reduce_133 ?_
    refine g_lload C 0 rfl d_Rm_reduce_134 ?_
    refine g_bipush (v := 16) C d_Rm_reduce_136 (by decide) ?_
    refine g_lshr C d_Rm_reduce_138 ?_
    refine g_topl (fun x20 ex20 => ?_)
    have hr := of_lt ex20 hr
    refine g_lstore (lv' := [(7, .long x20), (0, .ref a0), (1, .ref a1), (2, .ref a2), (3, .ref a3), (6, .int a6), (9, .int a9)]) C d_Rm_reduce_139 (by decide) rfl ?_
    obtain ⟨x21, ex21⟩ : ∃ z, z = a9 + Int32.ofInt 1 := ⟨_, rfl⟩
    have hr := of_lt ex21 hr
    refine g_iinc (lv' := [(9, .int x21), (7, .long x20), (0, .ref a0), (1, .ref a1), (2, .ref a2), (3, .ref a3), (6, .int a6)]) C 6 rfl d_Rm_reduce_141 ex21.symm (by decide) rfl ?_
    refine g_goto (tgt := 102) C d_Rm_reduce_144 (by decide) ?_
    refine g_lv [2, 3, 4, 5, 6, 1, 0] rfl ?_
    exact hK102 h19 a0 a1 a2 a3 a6 x20 x21 hr
def L_Rm_reduce_102 (K3 : HP → Nat → Nat → Nat → Nat → Int32 → Option (HP)) (K82 : HP → Nat → Nat → Nat → Nat → Int64 → Int32 → Option (HP)) : Nat → HP → Nat → Nat → Nat → Nat → Int32 → Int64 → Int32 → Option (HP)
  | 0, _, _, _, _, _, _, _, _ => none
  | f + 1, h, a0, a1, a2, a3, a6, a7, a9 => B_Rm_reduce_102 K3 K82 (L_Rm_reduce_102 K3 K82 f) h a0 a1 a2 a3 a6 a7 a9
theorem lp_Rm_reduce_102 {l : Launch} {x : CX} {h0 h' : HP} (C : EV x b_Rm_reduce "PrimeKeysModel" 10 rm_Rm_reduce) (T : CT x (none) rm_Rm_reduce h0 none h') (hl0 : x.1.2.1 = l) (K3 : HP → Nat → Nat → Nat → Nat → Int32 → Option (HP)) (K82 : HP → Nat → Nat → Nat → Nat → Int64 → Int32 → Option (HP)) (hK3 : ∀ (h : HP) (a0 : Nat) (a1 : Nat) (a2 : Nat) (a3 : Nat) (a4 : Int32), K3 h a0 a1 a2 a3 a4 = some h' → GG x 0 0 h 3 [(0, .ref a0), (1, .ref a1), (2, .ref a2), (3, .ref a3), (4, .int a4)] []) (hK82 : ∀ (h : HP) (a0 : Nat) (a1 : Nat) (a2 : Nat) (a3 : Nat) (a4 : Int64) (a6 : Int32), K82 h a0 a1 a2 a3 a4 a6 = some h' → GG x 0 0 h 82 [(0, .ref a0), (1, .ref a1), (2, .ref a2), (3, .ref a3), (4, .long a4), (6, .int a6)] []) : ∀ (f : Nat) (h : HP) (a0 : Nat) (a1 : Nat) (a2 : Nat) (a3 : Nat) (a6 : Int32) (a7 : Int64) (a9 : Int32), L_Rm_reduce_102 K3 K82 f h a0 a1 a2 a3 a6 a7 a9 = some h' → GG x 0 0 h 102 [(0, .ref a0), (1, .ref a1), (2, .ref a2), (3, .ref a3), (6, .int a6), (7, .long a7), (9, .int a9)] [] := by
  intro f
  induction f with
  | zero => intro h a0 a1 a2 a3 a6 a7 a9 hr; have hr : (none : Option (HP)) = some h' := hr; cases hr
  | succ f ih => intro h a0 a1 a2 a3 a6 a7 a9 hr; exact bk_Rm_reduce_102 C T hl0 K3 K82 (L_Rm_reduce_102 K3 K82 f) hK3 hK82 ih h a0 a1 a2 a3 a6 a7 a9 hr
def B_Rm_reduce_82 (K3 : HP → Nat → Nat → Nat → Nat → Int32 → Option (HP)) (K82 : HP → Nat → Nat → Nat → Nat → Int64 → Int32 → Option (HP)) (h : HP) (a0 : Nat) (a1 : Nat) (a2 : Nat) (a3 : Nat) (a4 : Int64) (a6 : Int32) : Option (HP) :=
  if 9 ≤ a6 then
  B_Rm_reduce_190 K3 K82 h a0 a1 a2
  else
  if lg_cmp a4 0 ≤ 0 then
  B_Rm_reduce_190 K3 K82 h a0 a1 a2
  else
  L_Rm_reduce_102 K3 K82 FU h a0 a1 a2 a3 a6 0 0
set_option maxHeartbeats 4000000 in
set_option maxRecDepth 100000 in
theorem bk_Rm_reduce_82 {l : Launch} {x : CX} {h0 h' : HP} (C : EV x b_Rm_reduce "PrimeKeysModel" 10 rm_Rm_reduce) (T : CT x (none) rm_Rm_reduce h0 none h') (hl0 : x.1.2.1 = l) (K3 : HP → Nat → Nat → Nat → Nat → Int32 → Option (HP)) (K82 : HP → Nat → Nat → Nat → Nat → Int64 → Int32 → Option (HP)) (hK3 : ∀ (h : HP) (a0 : Nat) (a1 : Nat) (a2 : Nat) (a3 : Nat) (a4 : Int32), K3 h a0 a1 a2 a3 a4 = some h' → GG x 0 0 h 3 [(0, .ref a0), (1, .ref a1), (2, .ref a2), (3, .ref a3), (4, .int a4)] []) (hK82 : ∀ (h : HP) (a0 : Nat) (a1 : Nat) (a2 : Nat) (a3 : Nat) (a4 : Int64) (a6 : Int32), K82 h a0 a1 a2 a3 a4 a6 = some h' → GG x 0 0 h 82 [(0, .ref a0), (1, .ref a1), (2, .ref a2), (3, .ref a3), (4, .long a4), (6, .int a6)] []) (h : HP) (a0 : Nat) (a1 : Nat) (a2 : Nat) (a3 : Nat) (a4 : Int64) (a6 : Int32) (hr : B_Rm_reduce_82 K3 K82 h a0 a1 a2 a3 a4 a6 = some h') : GG x 0 0 h 82 [(0, .ref a0), (1, .ref a1), (2, .ref a2), (3, .ref a3), (4, .long a4), (6, .int a6)] [] := by
  unfold B_Rm_reduce_82 at hr
  refine g_iload C 5 rfl d_Rm_reduce_82 ?_
  refine g_bipush (v := 9) C d_Rm_reduce_84 (by decide) ?_
  refine g_icmp_ge (tgt := 190) C d_Rm_reduce_86 (by decide) (fun z => ?_) (fun z => ?_)
  · have hr := of_if z hr
    refine g_lv [0, 1, 2] rfl ?_
    exact bk_Rm_reduce_190 C T hl0 K3 K82 hK3 hK82 h a0 a1 a2 hr
  · have hr := of_el z hr
    refine g_lload C 4 rfl d_Rm_reduce_89 ?_
    refine g_lconst (v := 0) C d_Rm_reduce_91 (by decide) ?_
    refine g_lcmp C d_Rm_reduce_92 ?_
    refine g_if_le (tgt := 190) C d_Rm_reduce_93 (by decide) (fun z => ?_) (fun z => ?_)
    · have hr := of_if z hr
      refine g_lv [0, 1, 2] rfl ?_
      exact bk_Rm_reduce_190 C T hl0 K3 K82 hK3 hK82 h a0 a1 a2 hr
    · have hr := of_el z hr
      refine g_lconst (v := 0) C d_Rm_reduce_96 (by decide) ?_
      refine g_lstore (lv' := [(7, .long 0), (0, .ref a0), (1, .ref a1), (2, .ref a2), (3, .ref a3), (4, .long a4), (6, .int a6)]) C d_Rm_reduce_97 (by decide) rfl ?_
      refine g_iconst (v := 0) C d_Rm_reduce_99 (by decide) ?_
      refine g_istore (lv' := [(9, .int 0), (7, .long 0), (0, .ref a0), (1, .ref a1), (2, .ref a2), (3, .ref a3), (4, .long a4), (6, .int a6)]) C d_Rm_reduce_100 (by decide) rfl ?_
      refine g_lv [2, 3, 4, 5, 7, 1, 0] rfl ?_
      exact lp_Rm_reduce_102 C T hl0 K3 K82 hK3 hK82 FU h a0 a1 a2 a3 a6 0 0 hr
def L_Rm_reduce_82 (K3 : HP → Nat → Nat → Nat → Nat → Int32 → Option (HP)) : Nat → HP → Nat → Nat → Nat → Nat → Int64 → Int32 → Option (HP)
  | 0, _, _, _, _, _, _, _ => none
  | f + 1, h, a0, a1, a2, a3, a4, a6 => B_Rm_reduce_82 K3 (L_Rm_reduce_82 K3 f) h a0 a1 a2 a3 a4 a6
theorem lp_Rm_reduce_82 {l : Launch} {x : CX} {h0 h' : HP} (C : EV x b_Rm_reduce "PrimeKeysModel" 10 rm_Rm_reduce) (T : CT x (none) rm_Rm_reduce h0 none h') (hl0 : x.1.2.1 = l) (K3 : HP → Nat → Nat → Nat → Nat → Int32 → Option (HP)) (hK3 : ∀ (h : HP) (a0 : Nat) (a1 : Nat) (a2 : Nat) (a3 : Nat) (a4 : Int32), K3 h a0 a1 a2 a3 a4 = some h' → GG x 0 0 h 3 [(0, .ref a0), (1, .ref a1), (2, .ref a2), (3, .ref a3), (4, .int a4)] []) : ∀ (f : Nat) (h : HP) (a0 : Nat) (a1 : Nat) (a2 : Nat) (a3 : Nat) (a4 : Int64) (a6 : Int32), L_Rm_reduce_82 K3 f h a0 a1 a2 a3 a4 a6 = some h' → GG x 0 0 h 82 [(0, .ref a0), (1, .ref a1), (2, .ref a2), (3, .ref a3), (4, .long a4), (6, .int a6)] [] := by
  intro f
  induction f with
  | zero => intro h a0 a1 a2 a3 a4 a6 hr; have hr : (none : Option (HP)) = some h' := hr; cases hr
  | succ f ih => intro h a0 a1 a2 a3 a4 a6 hr; exact bk_Rm_reduce_82 C T hl0 K3 (L_Rm_reduce_82 K3 f) hK3 ih h a0 a1 a2 a3 a4 a6 hr
def B_Rm_reduce_22 (K3 : HP → Nat → Nat → Nat → Nat → Int32 → Option (HP)) (K22 : HP → Nat → Nat → Nat → Nat → Int32 → Int64 → Int32 → Option (HP)) (h : HP) (a0 : Nat) (a1 : Nat) (a2 : Nat) (a3 : Nat) (a4 : Int32) (a5 : Int64) (a7 : Int32) : Option (HP) :=
  if 16 ≤ a7 then
  bnd (gR h a0 8 38) fun k24 =>
  bnd (stJ h k24 a4 a5) fun h25 =>
  lt (a4 + Int32.ofInt 1) fun x26 =>
  K3 h25 a0 a1 a2 a3 x26
  else
  bnd (gR h a0 8 37) fun k27 =>
  bnd (ldJ h k27 (16 + a7)) fun v28 =>
  bnd (ldJ h a3 ((16 * a7) + a4)) fun v29 =>
  lt (a5 + (v28 * v29)) fun x30 =>
  lt (a7 + Int32.ofInt 1) fun x31 =>
  K22 h a0 a1 a2 a3 a4 x30 x31
set_option maxHeartbeats 4000000 in
set_option maxRecDepth 100000 in
theorem bk_Rm_reduce_22 {l : Launch} {x : CX} {h0 h' : HP} (C : EV x b_Rm_reduce "PrimeKeysModel" 10 rm_Rm_reduce) (T : CT x (none) rm_Rm_reduce h0 none h') (hl0 : x.1.2.1 = l) (K3 : HP → Nat → Nat → Nat → Nat → Int32 → Option (HP)) (K22 : HP → Nat → Nat → Nat → Nat → Int32 → Int64 → Int32 → Option (HP)) (hK3 : ∀ (h : HP) (a0 : Nat) (a1 : Nat) (a2 : Nat) (a3 : Nat) (a4 : Int32), K3 h a0 a1 a2 a3 a4 = some h' → GG x 0 0 h 3 [(0, .ref a0), (1, .ref a1), (2, .ref a2), (3, .ref a3), (4, .int a4)] []) (hK22 : ∀ (h : HP) (a0 : Nat) (a1 : Nat) (a2 : Nat) (a3 : Nat) (a4 : Int32) (a5 : Int64) (a7 : Int32), K22 h a0 a1 a2 a3 a4 a5 a7 = some h' → GG x 0 0 h 22 [(0, .ref a0), (1, .ref a1), (2, .ref a2), (3, .ref a3), (4, .int a4), (5, .long a5), (7, .int a7)] []) (h : HP) (a0 : Nat) (a1 : Nat) (a2 : Nat) (a3 : Nat) (a4 : Int32) (a5 : Int64) (a7 : Int32) (hr : B_Rm_reduce_22 K3 K22 h a0 a1 a2 a3 a4 a5 a7 = some h') : GG x 0 0 h 22 [(0, .ref a0), (1, .ref a1), (2, .ref a2), (3, .ref a3), (4, .int a4), (5, .long a5), (7, .int a7)] [] := by
  unfold B_Rm_reduce_22 at hr
  refine g_iload C 6 rfl d_Rm_reduce_22 ?_
  refine g_bipush (v := 16) C d_Rm_reduce_24 (by decide) ?_
  refine g_icmp_ge (tgt := 61) C d_Rm_reduce_26 (by decide) (fun z => ?_) (fun z => ?_)
  · have hr := of_if z hr
    refine g_aload_n C 0 rfl d_Rm_reduce_61 rfl ?_
    obtain ⟨k24, ek24, hr⟩ := of_bnd hr
    refine g_getR C fl_Rm_221 ek24 d_Rm_reduce_62 ?_
    refine g_iload C 4 rfl d_Rm_reduce_65 ?_
    refine g_lload C 5 rfl d_Rm_reduce_67 ?_
    obtain ⟨h25, eh25, hr⟩ := of_bnd hr
    refine g_lastore C eh25 d_Rm_reduce_69 ?_
    obtain ⟨x26, ex26⟩ : ∃ z, z = a4 + Int32.ofInt 1 := ⟨_, rfl⟩
    have hr := of_lt ex26 hr
    refine g_iinc (lv' := [(4, .int x26), (0, .ref a0), (1, .ref a1), (2, .ref a2), (3, .ref a3), (5, .long a5), (7, .int a7)]) C 4 rfl d_Rm_reduce_70 ex26.symm (by decide) rfl ?_
    refine g_goto (tgt := 3) C d_Rm_reduce_73 (by decide) ?_
    refine g_lv [1, 2, 3, 4, 0] rfl ?_
    exact hK3 h25 a0 a1 a2 a3 x26 hr
  · have hr := of_el z hr
    refine g_lload C 5 rfl d_Rm_reduce_29 ?_
    refine g_aload_n C 0 rfl d_Rm_reduce_31 rfl ?_
    obtain ⟨k27, ek27, hr⟩ := of_bnd hr
    refine g_getR C fl_Rm_218 ek27 d_Rm_reduce_32 ?_
    refine g_bipush (v := 16) C d_Rm_reduce_35 (by decide) ?_
    refine g_iload C 6 rfl d_Rm_reduce_37 ?_
    refine g_iadd C d_Rm_reduce_39 ?_
    obtain ⟨v28, ev28, hr⟩ := of_bnd hr
    refine g_laload C ev28 d_Rm_reduce_40 ?_
    refine g_aload_n C 3 rfl d_Rm_reduce_41 rfl ?_
    refine g_bipush (v := 16) C d_Rm_reduce_42 (by decide) ?_
    refine g_iload C 6 rfl d_Rm_reduce_44 ?_
    refine g_imul C d_Rm_reduce_46 ?_
    refine g_iload C 4 rfl d_Rm_reduce_47 ?_
    refine g_iadd C d_Rm_reduce_49 ?_
    obtain ⟨v29, ev29, hr⟩ := of_bnd hr
    refine g_laload C ev29 d_Rm_reduce_50 ?_
    refine g_lmul C d_Rm_reduce_51 ?_
    refine g_ladd C d_Rm_reduce_52 ?_
    refine g_topl (fun x30 ex30 => ?_)
    have hr := of_lt ex30 hr
    refine g_lstore (lv' := [(5, .long x30), (0, .ref a0), (1, .ref a1), (2, .ref a2), (3, .ref a3), (4, .int a4), (7, .int a7)]) C d_Rm_reduce_53 (by decide) rfl ?_
    obtain ⟨x31, ex31⟩ : ∃ z, z = a7 + Int32.ofInt 1 := ⟨_, rfl⟩
    have hr := of_lt ex31 hr
    refine g_iinc (lv' := [(7, .int x31), (5, .long x30), (0, .ref a0), (1, .ref a1), (2, .ref a2), (3, .ref a3), (4, .int a4)]) C 6 rfl d_Rm_reduce_55 ex31.symm (by decide) rfl ?_
    refine g_goto (tgt := 22) C d_Rm_reduce_58 (by decide) ?_
    refine g_lv [2, 3, 4, 5, 6, 1, 0] rfl ?_
    exact hK22 h a0 a1 a2 a3 a4 x30 x31 hr
def L_Rm_reduce_22 (K3 : HP → Nat → Nat → Nat → Nat → Int32 → Option (HP)) : Nat → HP → Nat → Nat → Nat → Nat → Int32 → Int64 → Int32 → Option (HP)
  | 0, _, _, _, _, _, _, _, _ => none
  | f + 1, h, a0, a1, a2, a3, a4, a5, a7 => B_Rm_reduce_22 K3 (L_Rm_reduce_22 K3 f) h a0 a1 a2 a3 a4 a5 a7
theorem lp_Rm_reduce_22 {l : Launch} {x : CX} {h0 h' : HP} (C : EV x b_Rm_reduce "PrimeKeysModel" 10 rm_Rm_reduce) (T : CT x (none) rm_Rm_reduce h0 none h') (hl0 : x.1.2.1 = l) (K3 : HP → Nat → Nat → Nat → Nat → Int32 → Option (HP)) (hK3 : ∀ (h : HP) (a0 : Nat) (a1 : Nat) (a2 : Nat) (a3 : Nat) (a4 : Int32), K3 h a0 a1 a2 a3 a4 = some h' → GG x 0 0 h 3 [(0, .ref a0), (1, .ref a1), (2, .ref a2), (3, .ref a3), (4, .int a4)] []) : ∀ (f : Nat) (h : HP) (a0 : Nat) (a1 : Nat) (a2 : Nat) (a3 : Nat) (a4 : Int32) (a5 : Int64) (a7 : Int32), L_Rm_reduce_22 K3 f h a0 a1 a2 a3 a4 a5 a7 = some h' → GG x 0 0 h 22 [(0, .ref a0), (1, .ref a1), (2, .ref a2), (3, .ref a3), (4, .int a4), (5, .long a5), (7, .int a7)] [] := by
  intro f
  induction f with
  | zero => intro h a0 a1 a2 a3 a4 a5 a7 hr; have hr : (none : Option (HP)) = some h' := hr; cases hr
  | succ f ih => intro h a0 a1 a2 a3 a4 a5 a7 hr; exact bk_Rm_reduce_22 C T hl0 K3 (L_Rm_reduce_22 K3 f) hK3 ih h a0 a1 a2 a3 a4 a5 a7 hr
def B_Rm_reduce_3 (K3 : HP → Nat → Nat → Nat → Nat → Int32 → Option (HP)) (h : HP) (a0 : Nat) (a1 : Nat) (a2 : Nat) (a3 : Nat) (a4 : Int32) : Option (HP) :=
  if 16 ≤ a4 then
  L_Rm_reduce_82 K3 FU h a0 a1 a2 a3 1 0
  else
  bnd (gR h a0 8 37) fun k22 =>
  bnd (ldJ h k22 a4) fun v23 =>
  L_Rm_reduce_22 K3 FU h a0 a1 a2 a3 a4 v23 0
set_option maxHeartbeats 4000000 in
set_option maxRecDepth 100000 in
theorem bk_Rm_reduce_3 {l : Launch} {x : CX} {h0 h' : HP} (C : EV x b_Rm_reduce "PrimeKeysModel" 10 rm_Rm_reduce) (T : CT x (none) rm_Rm_reduce h0 none h') (hl0 : x.1.2.1 = l) (K3 : HP → Nat → Nat → Nat → Nat → Int32 → Option (HP)) (hK3 : ∀ (h : HP) (a0 : Nat) (a1 : Nat) (a2 : Nat) (a3 : Nat) (a4 : Int32), K3 h a0 a1 a2 a3 a4 = some h' → GG x 0 0 h 3 [(0, .ref a0), (1, .ref a1), (2, .ref a2), (3, .ref a3), (4, .int a4)] []) (h : HP) (a0 : Nat) (a1 : Nat) (a2 : Nat) (a3 : Nat) (a4 : Int32) (hr : B_Rm_reduce_3 K3 h a0 a1 a2 a3 a4 = some h') : GG x 0 0 h 3 [(0, .ref a0), (1, .ref a1), (2, .ref a2), (3, .ref a3), (4, .int a4)] [] := by
  unfold B_Rm_reduce_3 at hr
  refine g_iload C 4 rfl d_Rm_reduce_3 ?_
  refine g_bipush (v := 16) C d_Rm_reduce_5 (by decide) ?_
  refine g_icmp_ge (tgt := 76) C d_Rm_reduce_7 (by decide) (fun z => ?_) (fun z => ?_)
  · have hr := of_if z hr
    refine g_lconst (v := 1) C d_Rm_reduce_76 (by decide) ?_
    refine g_lstore (lv' := [(4, .long 1), (0, .ref a0), (1, .ref a1), (2, .ref a2), (3, .ref a3)]) C d_Rm_reduce_77 (by decide) rfl ?_
    refine g_iconst (v := 0) C d_Rm_reduce_79 (by decide) ?_
    refine g_istore (lv' := [(6, .int 0), (4, .long 1), (0, .ref a0), (1, .ref a1), (2, .ref a2), (3, .ref a3)]) C d_Rm_reduce_80 (by decide) rfl ?_
    refine g_lv [2, 3, 4, 5, 1, 0] rfl ?_
    exact lp_Rm_reduce_82 C T hl0 K3 hK3 FU h a0 a1 a2 a3 1 0 hr
  · have hr := of_el z hr
    refine g_aload_n C 0 rfl d_Rm_reduce_10 rfl ?_
    obtain ⟨k22, ek22, hr⟩ := of_bnd hr
    refine g_getR C fl_Rm_218 ek22 d_Rm_reduce_11 ?_
    refine g_iload C 4 rfl d_Rm_reduce_14 ?_
    obtain ⟨v23, ev23, hr⟩ := of_bnd hr
    refine g_laload C ev23 d_Rm_reduce_16 ?_
    refine g_lstore (lv' := [(5, .long v23), (0, .ref a0), (1, .ref a1), (2, .ref a2), (3, .ref a3), (4, .int a4)]) C d_Rm_reduce_17 (by decide) rfl ?_
    refine g_iconst (v := 0) C d_Rm_reduce_19 (by decide) ?_
    refine g_istore (lv' := [(7, .int 0), (5, .long v23), (0, .ref a0), (1, .ref a1), (2, .ref a2), (3, .ref a3), (4, .int a4)]) C d_Rm_reduce_20 (by decide) rfl ?_
    refine g_lv [2, 3, 4, 5, 6, 1, 0] rfl ?_
    exact lp_Rm_reduce_22 C T hl0 K3 hK3 FU h a0 a1 a2 a3 a4 v23 0 hr
def L_Rm_reduce_3 : Nat → HP → Nat → Nat → Nat → Nat → Int32 → Option (HP)
  | 0, _, _, _, _, _, _ => none
  | f + 1, h, a0, a1, a2, a3, a4 => B_Rm_reduce_3 (L_Rm_reduce_3 f) h a0 a1 a2 a3 a4
theorem lp_Rm_reduce_3 {l : Launch} {x : CX} {h0 h' : HP} (C : EV x b_Rm_reduce "PrimeKeysModel" 10 rm_Rm_reduce) (T : CT x (none) rm_Rm_reduce h0 none h') (hl0 : x.1.2.1 = l) : ∀ (f : Nat) (h : HP) (a0 : Nat) (a1 : Nat) (a2 : Nat) (a3 : Nat) (a4 : Int32), L_Rm_reduce_3 f h a0 a1 a2 a3 a4 = some h' → GG x 0 0 h 3 [(0, .ref a0), (1, .ref a1), (2, .ref a2), (3, .ref a3), (4, .int a4)] [] := by
  intro f
  induction f with
  | zero => intro h a0 a1 a2 a3 a4 hr; have hr : (none : Option (HP)) = some h' := hr; cases hr
  | succ f ih => intro h a0 a1 a2 a3 a4 hr; exact bk_Rm_reduce_3 C T hl0 (L_Rm_reduce_3 f) ih h a0 a1 a2 a3 a4 hr
def P_Rm_reduce (h : HP) (p0 : Nat) (p1 : Nat) (p2 : Nat) (p3 : Nat) : Option (HP) :=
  L_Rm_reduce_3 FU h p0 p1 p2 p3 0
set_option maxHeartbeats 4000000 in
set_option maxRecDepth 100000 in
theorem c_Rm_reduce {l : Launch} {h h' : HP} {p0 p1 p2 p3 : _} (hr : P_Rm_reduce h p0 p1 p2 p3 = some h') : MP l y_Rm_reduce (Cond.code y_Rm_reduce b_Rm_reduce 10 none :: TB) rm_Rm_reduce h [.ref p0, .ref p1, .ref p2, .ref p3] none h' := by
  refine MP_intro (cc := b_Rm_reduce) (by decide) (Nat.le_of_ble_eq_true rfl) (fun x hl0 C T hin => ?_)
  unfold P_Rm_reduce at hr
  show GG x 0 0 h 0 [(0, .ref p0), (1, .ref p1), (2, .ref p2), (3, .ref p3)] []
  refine g_iconst (v := 0) C d_Rm_reduce_0 (by decide) ?_
  refine g_istore (lv' := [(4, .int 0), (0, .ref p0), (1, .ref p1), (2, .ref p2), (3, .ref p3)]) C d_Rm_reduce_1 (by decide) rfl ?_
  refine g_lv [1, 2, 3, 4, 0] rfl ?_
  exact lp_Rm_reduce_3 C T hl0 FU h p0 p1 p2 p3 0 hr
abbrev b_Rm_times : ByteArray := prog_12_method_14_code
abbrev y_Rm_times : MethodName := ⟨"PrimeKeysModel", "times", "([J[J[J[J[J)V"⟩
theorem d_Rm_times_0 : decode b_Rm_times 0 = .ok (.iconst 0, 1) := by decide +kernel
theorem d_Rm_times_1 : decode b_Rm_times 1 = .ok (.istore 6, 2) := by decide +kernel
theorem d_Rm_times_3 : decode b_Rm_times 3 = .ok (.iload 6, 2) := by decide +kernel
theorem d_Rm_times_5 : decode b_Rm_times 5 = .ok (.bipush 32, 2) := by decide +kernel
theorem d_Rm_times_7 : decode b_Rm_times 7 = .ok (.if_icmp .ge 17, 3) := by decide +kernel
theorem d_Rm_times_10 : decode b_Rm_times 10 = .ok (.aload_n 0, 1) := by decide +kernel
theorem d_Rm_times_11 : decode b_Rm_times 11 = .ok (.getfield 218, 3) := by decide +kernel
theorem d_Rm_times_14 : decode b_Rm_times 14 = .ok (.iload 6, 2) := by decide +kernel
theorem d_Rm_times_16 : decode b_Rm_times 16 = .ok (.lconst 0, 1) := by decide +kernel
theorem d_Rm_times_17 : decode b_Rm_times 17 = .ok (.lastore, 1) := by decide +kernel
theorem d_Rm_times_18 : decode b_Rm_times 18 = .ok (.iinc 6 1, 3) := by decide +kernel
theorem d_Rm_times_21 : decode b_Rm_times 21 = .ok (.goto (-18), 3) := by decide +kernel
theorem d_Rm_times_24 : decode b_Rm_times 24 = .ok (.iconst 0, 1) := by decide +kernel
theorem d_Rm_times_25 : decode b_Rm_times 25 = .ok (.istore 6, 2) := by decide +kernel
theorem d_Rm_times_27 : decode b_Rm_times 27 = .ok (.iload 6, 2) := by decide +kernel
theorem d_Rm_times_29 : decode b_Rm_times 29 = .ok (.bipush 16, 2) := by decide +kernel
theorem d_Rm_times_31 : decode b_Rm_times 31 = .ok (.if_icmp .ge 88, 3) := by decide +kernel
theorem d_Rm_times_34 : decode b_Rm_times 34 = .ok (.lconst 0, 1) := by decide +kernel
theorem d_Rm_times_35 : decode b_Rm_times 35 = .ok (.lstore 7, 2) := by decide +kernel
theorem d_Rm_times_37 : decode b_Rm_times 37 = .ok (.iconst 0, 1) := by decide +kernel
theorem d_Rm_times_38 : decode b_Rm_times 38 = .ok (.istore 9, 2) := by decide +kernel
theorem d_Rm_times_40 : decode b_Rm_times 40 = .ok (.iload 9, 2) := by decide +kernel
theorem d_Rm_times_42 : decode b_Rm_times 42 = .ok (.bipush 16, 2) := by decide +kernel
theorem d_Rm_times_44 : decode b_Rm_times 44 = .ok (.if_icmp .ge 57, 3) := by decide +kernel
theorem d_Rm_times_47 : decode b_Rm_times 47 = .ok (.lload 7, 2) := by decide +kernel
theorem d_Rm_times_49 : decode b_Rm_times 49 = .ok (.aload_n 0, 1) := by decide +kernel
theorem d_Rm_times_50 : decode b_Rm_times 50 = .ok (.getfield 218, 3) := by decide +kernel
theorem d_Rm_times_53 : decode b_Rm_times 53 = .ok (.iload 6, 2) := by decide +kernel
theorem d_Rm_times_55 : decode b_Rm_times 55 = .ok (.iload 9, 2) := by decide +kernel
theorem d_Rm_times_57 : decode b_Rm_times 57 = .ok (.iadd, 1) := by decide +kernel
theorem d_Rm_times_58 : decode b_Rm_times 58 = .ok (.laload, 1) := by decide +kernel
theorem d_Rm_times_59 : decode b_Rm_times 59 = .ok (.aload_n 2, 1) := by decide +kernel
theorem d_Rm_times_60 : decode b_Rm_times 60 = .ok (.iload 6, 2) := by decide +kernel
theorem d_Rm_times_62 : decode b_Rm_times 62 = .ok (.laload, 1) := by decide +kernel
theorem d_Rm_times_63 : decode b_Rm_times 63 = .ok (.aload_n 3, 1) := by decide +kernel
theorem d_Rm_times_64 : decode b_Rm_times 64 = .ok (.iload 9, 2) := by decide +kernel
theorem d_Rm_times_66 : decode b_Rm_times 66 = .ok (.laload, 1) := by decide +kernel
theorem d_Rm_times_67 : decode b_Rm_times 67 = .ok (.lmul, 1) := by decide +kernel
theorem d_Rm_times_68 : decode b_Rm_times 68 = .ok (.ladd, 1) := by decide +kernel
theorem d_Rm_times_69 : decode b_Rm_times 69 = .ok (.ladd, 1) := by decide +kernel
theorem d_Rm_times_70 : decode b_Rm_times 70 = .ok (.lstore 7, 2) := by decide +kernel
theorem d_Rm_times_72 : decode b_Rm_times 72 = .ok (.aload_n 0, 1) := by decide +kernel
theorem d_Rm_times_73 : decode b_Rm_times 73 = .ok (.getfield 218, 3) := by decide +kernel
theorem d_Rm_times_76 : decode b_Rm_times 76 = .ok (.iload 6, 2) := by decide +kernel
theorem d_Rm_times_78 : decode b_Rm_times 78 = .ok (.iload 9, 2) := by decide +kernel
theorem d_Rm_times_80 : decode b_Rm_times 80 = .ok (.iadd, 1) := by decide +kernel
theorem d_Rm_times_81 : decode b_Rm_times 81 = .ok (.lload 7, 2) := by decide +kernel
theorem d_Rm_times_83 : decode b_Rm_times 83 = .ok (.ldc2_w 27, 3) := by decide +kernel
theorem d_Rm_times_86 : decode b_Rm_times 86 = .ok (.land, 1) := by decide +kernel
theorem d_Rm_times_87 : decode b_Rm_times 87 = .ok (.lastore, 1) := by decide +kernel
theorem d_Rm_times_88 : decode b_Rm_times 88 = .ok (.lload 7, 2) := by decide +kernel
theorem d_Rm_times_90 : decode b_Rm_times 90 = .ok (.bipush 16, 2) := by decide +kernel
theorem d_Rm_times_92 : decode b_Rm_times 92 = .ok (.lshr, 1) := by decide +kernel
theorem d_Rm_times_93 : decode b_Rm_times 93 = .ok (.lstore 7, 2) := by decide +kernel
theorem d_Rm_times_95 : decode b_Rm_times 95 = .ok (.iinc 9 1, 3) := by decide +kernel
theorem d_Rm_times_98 : decode b_Rm_times 98 = .ok (.goto (-58), 3) := by decide +kernel
theorem d_Rm_times_101 : decode b_Rm_times 101 = .ok (.aload_n 0, 1) := by decide +kernel
theorem d_Rm_times_102 : decode b_Rm_times 102 = .ok (.getfield 218, 3) := by decide +kernel
theorem d_Rm_times_105 : decode b_Rm_times 105 = .ok (.iload 6, 2) := by decide +kernel
theorem d_Rm_times_107 : decode b_Rm_times 107 = .ok (.bipush 16, 2) := by decide +kernel
theorem d_Rm_times_109 : decode b_Rm_times 109 = .ok (.iadd, 1) := by decide +kernel
theorem d_Rm_times_110 : decode b_Rm_times 110 = .ok (.lload 7, 2) := by decide +kernel
theorem d_Rm_times_112 : decode b_Rm_times 112 = .ok (.lastore, 1) := by decide +kernel
theorem d_Rm_times_113 : decode b_Rm_times 113 = .ok (.iinc 6 1, 3) := by decide +kernel
theorem d_Rm_times_116 : decode b_Rm_times 116 = .ok (.goto (-89), 3) := by decide +kernel
theorem d_Rm_times_119 : decode b_Rm_times 119 = .ok (.aload_n 0, 1) := by decide +kernel
theorem d_Rm_times_120 : decode b_Rm_times 120 = .ok (.aload_n 1, 1) := by decide +kernel
theorem d_Rm_times_121 : decode b_Rm_times 121 = .ok (.aload 4, 2) := by decide +kernel
theorem d_Rm_times_123 : decode b_Rm_times 123 = .ok (.aload 5, 2) := by decide +kernel
theorem d_Rm_times_125 : decode b_Rm_times 125 = .ok (.invokevirtual 283, 3) := by decide +kernel
theorem d_Rm_times_128 : decode b_Rm_times 128 = .ok (.return_, 1) := by decide +kernel
theorem cd_Rm_283 : CD "PrimeKeysModel" 283 y_Rm_reduce b_Rm_reduce 10 none 3 := ⟨tb_5 (List.mem_of_getElem? (i := 125) rfl) rfl, tb_1 (List.mem_of_getElem? (i := 13) (by decide +kernel)) rfl, tb_5 (List.mem_of_getElem? (i := 122) (by decide +kernel)) rfl, by decide +kernel⟩
theorem kw_in_Rm_reduce : Cond.instanceMethod y_Rm_reduce ∈ TB := tb_5 (List.mem_of_getElem? (i := 124) (by decide +kernel)) rfl
theorem kw_se_Rm_reduce : Cond.selects "PrimeKeysModel" y_Rm_reduce y_Rm_reduce ∈ TB := tb_p (q := (y_Rm_reduce, 50)) (by decide +kernel)
abbrev rm_Rm_times : Room := { frames := 2, cells := 0, slots := 0, locals := 56 }
def B_Rm_times_40 (K3 : HP → Nat → Nat → Nat → Nat → Nat → Nat → Int32 → Option (HP)) (K27 : HP → Nat → Nat → Nat → Nat → Nat → Nat → Int32 → Option (HP)) (K40 : HP → Nat → Nat → Nat → Nat → Nat → Nat → Int32 → Int64 → Int32 → Option (HP)) (h : HP) (a0 : Nat) (a1 : Nat) (a2 : Nat) (a3 : Nat) (a4 : Nat) (a5 : Nat) (a6 : Int32) (a7 : Int64) (a9 : Int32) : Option (HP) :=
  if 16 ≤ a9 then
  bnd (gR h a0 8 37) fun k2 =>
  bnd (stJ h k2 (a6 + 16) a7) fun h3 =>
  lt (a6 + Int32.ofInt 1) fun x4 =>
  K27 h3 a0 a1 a2 a3 a4 a5 x4
  else
  bnd (gR h a0 8 37) fun k5 =>
  bnd (ldJ h k5 (a6 + a9)) fun v6 =>
  bnd (ldJ h a2 a6) fun v7 =>
  bnd (ldJ h a3 a9) fun v8 =>
  lt (a7 + (v6 + (v7 * v8))) fun x9 =>
  bnd (gR h a0 8 37) fun k10 =>
  bnd (stJ h k10 (a6 + a9) (x9 &&& 65535)) fun h11 =>
  lt (x9 >>> (Int32.toInt64 16 &&& 63)) fun x12 =>
  lt (a9 + Int32.ofInt 1) fun x13 =>
  K40 h11 a0 a1 a2 a3 a4 a5 a6 x12 x13
set_option maxHeartbeats 4000000 in
set_option maxRecDepth 100000 in
theorem bk_Rm_times_40 {l : Launch} {x : CX} {h0 h' : HP} (C : EV x b_Rm_times "PrimeKeysModel" 10 rm_Rm_times) (T : CT x (none) rm_Rm_times h0 none h') (hl0 : x.1.2.1 = l) (K3 : HP → Nat → Nat → Nat → Nat → Nat → Nat → Int32 → Option (HP)) (K27 : HP → Nat → Nat → Nat → Nat → Nat → Nat → Int32 → Option (HP)) (K40 : HP → Nat → Nat → Nat → Nat → Nat → Nat → Int32 → Int64 → Int32 → Option (HP)) (hK3 : ∀ (h : HP) (a0 : Nat) (a1 : Nat) (a2 : Nat) (a3 : Nat) (a4 : Nat) (a5 : Nat) (a6 : Int32), K3 h a0 a1 a2 a3 a4 a5 a6 = some h' → GG x 0 0 h 3 [(0, .ref a0), (1, .ref a1), (2, .ref a2), (3, .ref a3), (4, .ref a4), (5, .ref a5), (6, .int a6)] []) (hK27 : ∀ (h : HP) (a0 : Nat) (a1 : Nat) (a2 : Nat) (a3 : Nat) (a4 : Nat) (a5 : Nat) (a6 : Int32), K27 h a0 a1 a2 a3 a4 a5 a6 = some h' → GG x 0 0 h 27 [(0, .ref a0), (1, .ref a1), (2, .ref a2), (3, .ref a3), (4, .ref a4), (5, .ref a5), (6, .int a6)] []) (hK40 : ∀ (h : HP) (a0 : Nat) (a1 : Nat) (a2 : Nat) (a3 : Nat) (a4 : Nat) (a5 : Nat) (a6 : Int32) (a7 : Int64) (a9 : Int32), K40 h a0 a1 a2 a3 a4 a5 a6 a7 a9 = some h' → GG x 0 0 h 40 [(0, .ref a0), (1, .ref a1), (2, .ref a2), (3, .ref a3), (4, .ref a4), (5, .ref a5), (6, .int a6), (7, .long a7), (9, .int a9)] []) (h : HP) (a0 : Nat) (a1 : Nat) (a2 : Nat) (a3 : Nat) (a4 : Nat) (a5 : Nat) (a6 : Int32) (a7 : Int64) (a9 : Int32) (hr : B_Rm_times_40 K3 K27 K40 h a0 a1 a2 a3 a4 a5 a6 a7 a9 = some h') : GG x 0 0 h 40 [(0, .ref a0), (1, .ref a1), (2, .ref a2), (3, .ref a3), (4, .ref a4), (5, .ref a5), (6, .int a6), (7, .long a7), (9, .int a9)] [] := by
  unfold B_Rm_times_40 at hr
  refine g_iload C 8 rfl d_Rm_times_40 ?_
  refine g_bipush (v := 16) C d_Rm_times_42 (by decide) ?_
  refine g_icmp_ge (tgt := 101) C d_Rm_times_44 (by decide) (fun z => ?_) (fun z => ?_)
  · have hr := of_if z hr
    refine g_aload_n C 0 rfl d_Rm_times_101 rfl ?_
    obtain ⟨k2, ek2, hr⟩ := of_bnd hr
    refine g_getR C fl_Rm_218 ek2 d_Rm_times_102 ?_
    refine g_iload C 6 rfl d_Rm_times_105 ?_
    refine g_bipush (v := 16) C d_Rm_times_107 (by decide) ?_
    refine g_iadd C d_Rm_times_109 ?_
    refine g_lload C 7 rfl d_Rm_times_110 ?_
    obtain ⟨h3, eh3, hr⟩ := of_bnd hr
    refine g_lastore C eh3 d_Rm_times_112 ?_
    obtain ⟨x4, ex4⟩ : ∃ z, z = a6 + Int32.ofInt 1 := ⟨_, rfl⟩
    have hr := of_lt ex4 hr
    refine g_iinc (lv' := [(6, .int x4), (0, .ref a0), (1, .ref a1), (2, .ref a2), (3, .ref a3), (4, .ref a4), (5, .ref a5), (7, .long a7), (9, .int a9)]) C 6 rfl d_Rm_times_113 ex4.symm (by decide) rfl ?_
    refine g_goto (tgt := 27) C d_Rm_times_116 (by decide) ?_
    refine g_lv [1, 2, 3, 4, 5, 6, 0] rfl ?_
    exact hK27 h3 a0 a1 a2 a3 a4 a5 x4 hr
  · have hr := of_el z hr
    refine g_lload C 7 rfl d_Rm_times_47 ?_
    refine g_aload_n C 0 rfl d_Rm_times_49 rfl ?_
    obtain ⟨k5, ek5, hr⟩ := of_bnd hr
    refine g_getR C fl_Rm_218 ek5 d_Rm_times_50 ?_
    refine g_iload C 6 rfl d_Rm_times_53 ?_
    refine g_iload C 8 rfl d_Rm_times_55 ?_
    refine g_iadd C d_Rm_times_57 ?_
    obtain ⟨v6, ev6, hr⟩ := of_bnd hr
    refine g_laload C ev6 d_Rm_times_58 ?_
    refine g_aload_n C 2 rfl d_Rm_times_59 rfl ?_
    refine g_iload C 6 rfl d_Rm_times_60 ?_
    obtain ⟨v7, ev7, hr⟩ := of_bnd hr
    refine g_laload C ev7 d_Rm_times_62 ?_
    refine g_aload_n C 3 rfl d_Rm_times_63 rfl ?_
    refine g_iload C 8 rfl d_Rm_times_64 ?_
    obtain ⟨v8, ev8, hr⟩ := of_bnd hr
    refine g_laload C ev8 d_Rm_times_66 ?_
    refine g_lmul C d_Rm_times_67 ?_
    refine g_ladd C d_Rm_times_68 ?_
    refine g_ladd C d_Rm_times_69 ?_
    refine g_topl (fun x9 ex9 => ?_)
    have hr := of_lt ex9 hr
    refine g_lstore (lv' := [(7, .long x9), (0, .ref a0), (1, .ref a1), (2, .ref a2), (3, .ref a3), (4, .ref a4), (5, .ref a5), (6, .int a6), (9, .int a9)]) C d_Rm_times_70 (by decide) rfl ?_
    refine g_aload_n C 1 rfl d_Rm_times_72 rfl ?_
    obtain ⟨k10, ek10, hr⟩ := of_bnd hr
    refine g_getR C fl_Rm_218 ek10 d_Rm_times_73 ?_
    refine g_iload C 7 rfl d_Rm_times_76 ?_
    refine g_iload C 8 rfl d_Rm_times_78 ?_
    refine g_iadd C d_Rm_times_80 ?_
    refine g_lload C 0 rfl d_Rm_times_81 ?_
    refine g_ldc2 (v := 65535) C d_Rm_times_83 kw_17 ?_
    refine g_land C d_Rm_times_86 ?_
    obtain ⟨h11, eh11, hr⟩ := of_bnd hr
    refine g_lastore C eh11 d_Rm_times_87 ?_
    refine g_lload C 0 rfl d_Rm_times_88 ?_
    refine g_bipush (v := 16) C d_Rm_times_90 (by decide) ?_
    refine g_lshr C d_Rm_times_92 ?_
    refine g_topl (fun x12 ex12 => ?_)
    have hr := of_lt ex12 hr
    refine g_lstore (lv' := [(7, .long x12), (0, .ref a0), (1, .ref a1), (2, .ref a2), (3, .ref a3), (4, .ref a4), (5, .ref a5), (6, .int a6), (9, .int a9)]) C d_Rm_times_93 (by decide) rfl ?_
    obtain ⟨x13, ex13⟩ : ∃ z, z = a9 + Int32.ofInt 1 := ⟨_, rfl⟩
    have hr := of_lt ex13 hr
    refine g_iinc (lv' := [(9, .int x13), (7, .long x12), (0, .ref a0), (1, .ref a1), (2, .ref a2), (3, .ref a3), (4, .ref a4), (5, .ref a5), (6, .int a6)]) C 8 rfl d_Rm_times_95 ex13.symm (by decide) rfl ?_
    refine g_goto (tgt := 40) C d_Rm_times_98 (by decide) ?_
    refine g_lv [2, 3, 4, 5, 6, 7, 8, 1, 0] rfl ?_
    exact hK40 h11 a0 a1 a2 a3 a4 a5 a6 x12 x13 hr
def L_Rm_times_40 (K3 : HP → Nat → Nat → Nat → Nat → Nat → Nat → Int32 → Option (HP)) (K27 : HP → Nat → Nat → Nat → Nat → Nat → Nat → Int32 → Option (HP)) : Nat → HP → Nat → Nat → Nat → Nat → Nat → Nat → Int32 → Int64 → Int32 → Option (HP)
  | 0, _, _, _, _, _, _, _, _, _, _ => none
  | f + 1, h, a0, a1, a2, a3, a4, a5, a6, a7, a9 => B_Rm_times_40 K3 K27 (L_Rm_times_40 K3 K27 f) h a0 a1 a2 a3 a4 a5 a6 a7 a9
theorem lp_Rm_times_40 {l : Launch} {x : CX} {h0 h' : HP} (C : EV x b_Rm_times "PrimeKeysModel" 10 rm_Rm_times) (T : CT x (none) rm_Rm_times h0 none h') (hl0 : x.1.2.1 = l) (K3 : HP → Nat → Nat → Nat → Nat → Nat → Nat → Int32 → Option (HP)) (K27 : HP → Nat → Nat → Nat → Nat → Nat → Nat → Int32 → Option (HP)) (hK3 : ∀ (h : HP) (a0 : Nat) (a1 : Nat) (a2 : Nat) (a3 : Nat) (a4 : Nat) (a5 : Nat) (a6 : Int32), K3 h a0 a1 a2 a3 a4 a5 a6 = some h' → GG x 0 0 h 3 [(0, .ref a0), (1, .ref a1), (2, .ref a2), (3, .ref a3), (4, .ref a4), (5, .ref a5), (6, .int a6)] []) (hK27 : ∀ (h : HP) (a0 : Nat) (a1 : Nat) (a2 : Nat) (a3 : Nat) (a4 : Nat) (a5 : Nat) (a6 : Int32), K27 h a0 a1 a2 a3 a4 a5 a6 = some h' → GG x 0 0 h 27 [(0, .ref a0), (1, .ref a1), (2, .ref a2), (3, .ref a3), (4, .ref a4), (5, .ref a5), (6, .int a6)] []) : ∀ (f : Nat) (h : HP) (a0 : Nat) (a1 : Nat) (a2 : Nat) (a3 : Nat) (a4 : Nat) (a5 : Nat) (a6 : Int32) (a7 : Int64) (a9 : Int32), L_Rm_times_40 K3 K27 f h a0 a1 a2 a3 a4 a5 a6 a7 a9 = some h' → GG x 0 0 h 40 [(0, .ref a0), (1, .ref a1), (2, .ref a2), (3, .ref a3), (4, .ref a4), (5, .ref a5), (6, .int a6), (7, .long a7), (9, .int a9)] [] := by
  intro f
  induction f with
  | zero => intro h a0 a1 a2 a3 a4 a5 a6 a7 a9 hr; have hr : (none : Option (HP)) = some h' := hr; cases hr
  | succ f ih => intro h a0 a1 a2 a3 a4 a5 a6 a7 a9 hr; exact bk_Rm_times_40 C T hl0 K3 K27 (L_Rm_times_40 K3 K27 f) hK3 hK27 ih h a0 a1 a2 a3 a4 a5 a6 a7 a9 hr
def B_Rm_times_27 (K3 : HP → Nat → Nat → Nat → Nat → Nat → Nat → Int32 → Option (HP)) (K27 : HP → Nat → Nat → Nat → Nat → Nat → Nat → Int32 → Option (HP)) (h : HP) (a0 : Nat) (a1 : Nat) (a2 : Nat) (a3 : Nat) (a4 : Nat) (a5 : Nat) (a6 : Int32) : Option (HP) :=
  if 16 ≤ a6 then
  ob h a0 8 (
  bnd (P_Rm_reduce h a0 a1 a4 a5) fun h1 =>
  some h1)
  else
  L_Rm_times_40 K3 K27 FU h a0 a1 a2 a3 a4 a5 a6 0 0
set_option maxHeartbeats 4000000 in
set_option maxRecDepth 100000 in
theorem bk_Rm_times_27 {l : Launch} {x : CX} {h0 h' : HP} (C : EV x b_Rm_times "PrimeKeysModel" 10 rm_Rm_times) (T : CT x (none) rm_Rm_times h0 none h') (hl0 : x.1.2.1 = l) (K3 : HP → Nat → Nat → Nat → Nat → Nat → Nat → Int32 → Option (HP)) (K27 : HP → Nat → Nat → Nat → Nat → Nat → Nat → Int32 → Option (HP)) (hK3 : ∀ (h : HP) (a0 : Nat) (a1 : Nat) (a2 : Nat) (a3 : Nat) (a4 : Nat) (a5 : Nat) (a6 : Int32), K3 h a0 a1 a2 a3 a4 a5 a6 = some h' → GG x 0 0 h 3 [(0, .ref a0), (1, .ref a1), (2, .ref a2), (3, .ref a3), (4, .ref a4), (5, .ref a5), (6, .int a6)] []) (hK27 : ∀ (h : HP) (a0 : Nat) (a1 : Nat) (a2 : Nat) (a3 : Nat) (a4 : Nat) (a5 : Nat) (a6 : Int32), K27 h a0 a1 a2 a3 a4 a5 a6 = some h' → GG x 0 0 h 27 [(0, .ref a0), (1, .ref a1), (2, .ref a2), (3, .ref a3), (4, .ref a4), (5, .ref a5), (6, .int a6)] []) (h : HP) (a0 : Nat) (a1 : Nat) (a2 : Nat) (a3 : Nat) (a4 : Nat) (a5 : Nat) (a6 : Int32) (hr : B_Rm_times_27 K3 K27 h a0 a1 a2 a3 a4 a5 a6 = some h') : GG x 0 0 h 27 [(0, .ref a0), (1, .ref a1), (2, .ref a2), (3, .ref a3), (4, .ref a4), (5, .ref a5), (6, .int a6)] [] := by
  unfold B_Rm_times_27 at hr
  refine g_iload C 6 rfl d_Rm_times_27 ?_
  refine g_bipush (v := 16) C d_Rm_times_29 (by decide) ?_
  refine g_icmp_ge (tgt := 119) C d_Rm_times_31 (by decide) (fun z => ?_) (fun z => ?_)
  · have hr := of_if z hr
    refine g_aload_n C 0 rfl d_Rm_times_119 rfl ?_
    refine g_aload_n C 1 rfl d_Rm_times_120 rfl ?_
    refine g_aload C 4 rfl d_Rm_times_121 ?_
    refine g_aload C 5 rfl d_Rm_times_123 ?_
    obtain ⟨fsh1, hoh1, hr⟩ := of_ob hr
    obtain ⟨h1, eh1, hr⟩ := of_bnd hr
    refine g_callV (pa := [.ref a1, .ref a4, .ref a5]) C hl0 (c_Rm_reduce eh1) cd_Rm_283 kw_in_Rm_reduce kw_se_Rm_reduce hoh1 rfl rfl (by decide) rfl rfl (Nat.le_of_ble_eq_true rfl) d_Rm_times_125 ?_
    cases hr
    exact g_vreturn C T (by decide) (by decide) d_Rm_times_128
  · have hr := of_el z hr
    refine g_lconst (v := 0) C d_Rm_times_34 (by decide) ?_
    refine g_lstore (lv' := [(7, .long 0), (0, .ref a0), (1, .ref a1), (2, .ref a2), (3, .ref a3), (4, .ref a4), (5, .ref a5), (6, .int a6)]) C d_Rm_times_35 (by decide) rfl ?_
    refine g_iconst (v := 0) C d_Rm_times_37 (by decide) ?_
    refine g_istore (lv' := [(9, .int 0), (7, .long 0), (0, .ref a0), (1, .ref a1), (2, .ref a2), (3, .ref a3), (4, .ref a4), (5, .ref a5), (6, .int a6)]) C d_Rm_times_38 (by decide) rfl ?_
    refine g_lv [2, 3, 4, 5, 6, 7, 8, 1, 0] rfl ?_
    exact lp_Rm_times_40 C T hl0 K3 K27 hK3 hK27 FU h a0 a1 a2 a3 a4 a5 a6 0 0 hr
def L_Rm_times_27 (K3 : HP → Nat → Nat → Nat → Nat → Nat → Nat → Int32 → Option (HP)) : Nat → HP → Nat → Nat → Nat → Nat → Nat → Nat → Int32 → Option (HP)
  | 0, _, _, _, _, _, _, _, _ => none
  | f + 1, h, a0, a1, a2, a3, a4, a5, a6 => B_Rm_times_27 K3 (L_Rm_times_27 K3 f) h a0 a1 a2 a3 a4 a5 a6
theorem lp_Rm_times_27 {l : Launch} {x : CX} {h0 h' : HP} (C : EV x b_Rm_times "PrimeKeysModel" 10 rm_Rm_times) (T : CT x (none) rm_Rm_times h0 none h') (hl0 : x.1.2.1 = l) (K3 : HP → Nat → Nat → Nat → Nat → Nat → Nat → Int32 → Option (HP)) (hK3 : ∀ (h : HP) (a0 : Nat) (a1 : Nat) (a2 : Nat) (a3 : Nat) (a4 : Nat) (a5 : Nat) (a6 : Int32), K3 h a0 a1 a2 a3 a4 a5 a6 = some h' → GG x 0 0 h 3 [(0, .ref a0), (1, .ref a1), (2, .ref a2), (3, .ref a3), (4, .ref a4), (5, .ref a5), (6, .int a6)] []) : ∀ (f : Nat) (h : HP) (a0 : Nat) (a1 : Nat) (a2 : Nat) (a3 : Nat) (a4 : Nat) (a5 : Nat) (a6 : Int32), L_Rm_times_27 K3 f h a0 a1 a2 a3 a4 a5 a6 = some h' → GG x 0 0 h 27 [(0, .ref a0), (1, .ref a1), (2, .ref a2), (3, .ref a3), (4, .ref a4), (5, .ref a5), (6, .int a6)] [] := by
  intro f
  induction f with
  | zero => intro h a0 a1 a2 a3 a4 a5 a6 hr; have hr : (none : Option (HP)) = some h' := hr; cases hr
  | succ f ih => intro h a0 a1 a2 a3 a4 a5 a6 hr; exact bk_Rm_times_27 C T hl0 K3 (L_Rm_times_27 K3 f) hK3 ih h a0 a1 a2 a3 a4 a5 a6 hr
def B_Rm_times_3 (K3 : HP → Nat → Nat → Nat → Nat → Nat → Nat → Int32 → Option (HP)) (h : HP) (a0 : Nat) (a1 : Nat) (a2 : Nat) (a3 : Nat) (a4 : Nat) (a5 : Nat) (a6 : Int32) : Option (HP) :=
  if 32 ≤ a6 then
  L_Rm_times_27 K3 FU h a0 a1 a2 a3 a4 a5 0
  else
  bnd (gR h a0 8 37) fun k14 =>
  bnd (stJ h k14 a6 0) fun h15 =>
  lt (a6 + Int32.ofInt 1) fun x16 =>
  K3 h15 a0 a1 a2 a3 a4 a5 x16
set_option maxHeartbeats 4000000 in
set_option maxRecDepth 100000 in
theorem bk_Rm_times_3 {l : Launch} {x : CX} {h0 h' : HP} (C : EV x b_Rm_times "PrimeKeysModel" 10 rm_Rm_times) (T : CT x (none) rm_Rm_times h0 none h') (hl0 : x.1.2.1 = l) (K3 : HP → Nat → Nat → Nat → Nat → Nat → Nat → Int32 → Option (HP)) (hK3 : ∀ (h : HP) (a0 : Nat) (a1 : Nat) (a2 : Nat) (a3 : Nat) (a4 : Nat) (a5 : Nat) (a6 : Int32), K3 h a0 a1 a2 a3 a4 a5 a6 = some h' → GG x 0 0 h 3 [(0, .ref a0), (1, .ref a1), (2, .ref a2), (3, .ref a3), (4, .ref a4), (5, .ref a5), (6, .int a6)] []) (h : HP) (a0 : Nat) (a1 : Nat) (a2 : Nat) (a3 : Nat) (a4 : Nat) (a5 : Nat) (a6 : Int32) (hr : B_Rm_times_3 K3 h a0 a1 a2 a3 a4 a5 a6 = some h') : GG x 0 0 h 3 [(0, .ref a0), (1, .ref a1), (2, .ref a2), (3, .ref a3), (4, .ref a4), (5, .ref a5), (6, .int a6)] [] := by
  unfold B_Rm_times_3 at hr
  refine g_iload C 6 rfl d_Rm_times_3 ?_
  refine g_bipush (v := 32) C d_Rm_times_5 (by decide) ?_
  refine g_icmp_ge (tgt := 24) C d_Rm_times_7 (by decide) (fun z => ?_) (fun z => ?_)
  · have hr := of_if z hr
    refine g_iconst (v := 0) C d_Rm_times_24 (by decide) ?_
    refine g_istore (lv' := [(6, .int 0), (0, .ref a0), (1, .ref a1), (2, .ref a2), (3, .ref a3), (4, .ref a4), (5, .ref a5)]) C d_Rm_times_25 (by decide) rfl ?_
    refine g_lv [1, 2, 3, 4, 5, 6, 0] rfl ?_
    exact lp_Rm_times_27 C T hl0 K3 hK3 FU h a0 a1 a2 a3 a4 a5 0 hr
  · have hr := of_el z hr
    refine g_aload_n C 0 rfl d_Rm_times_10 rfl ?_
    obtain ⟨k14, ek14, hr⟩ := of_bnd hr
    refine g_getR C fl_Rm_218 ek14 d_Rm_times_11 ?_
    refine g_iload C 6 rfl d_Rm_times_14 ?_
    refine g_lconst (v := 0) C d_Rm_times_16 (by decide) ?_
    obtain ⟨h15, eh15, hr⟩ := of_bnd hr
    refine g_lastore C eh15 d_Rm_times_17 ?_
    obtain ⟨x16, ex16⟩ : ∃ z, z = a6 + Int32.ofInt 1 := ⟨_, rfl⟩
    have hr := of_lt ex16 hr
    refine g_iinc (lv' := [(6, .int x16), (0, .ref a0), (1, .ref a1), (2, .ref a2), (3, .ref a3), (4, .ref a4), (5, .ref a5)]) C 6 rfl d_Rm_times_18 ex16.symm (by decide) rfl ?_
    refine g_goto (tgt := 3) C d_Rm_times_21 (by decide) ?_
    refine g_lv [1, 2, 3, 4, 5, 6, 0] rfl ?_
    exact hK3 h15 a0 a1 a2 a3 a4 a5 x16 hr
def L_Rm_times_3 : Nat → HP → Nat → Nat → Nat → Nat → Nat → Nat → Int32 → Option (HP)
  | 0, _, _, _, _, _, _, _, _ => none
  | f + 1, h, a0, a1, a2, a3, a4, a5, a6 => B_Rm_times_3 (L_Rm_times_3 f) h a0 a1 a2 a3 a4 a5 a6
theorem lp_Rm_times_3 {l : Launch} {x : CX} {h0 h' : HP} (C : EV x b_Rm_times "PrimeKeysModel" 10 rm_Rm_times) (T : CT x (none) rm_Rm_times h0 none h') (hl0 : x.1.2.1 = l) : ∀ (f : Nat) (h : HP) (a0 : Nat) (a1 : Nat) (a2 : Nat) (a3 : Nat) (a4 : Nat) (a5 : Nat) (a6 : Int32), L_Rm_times_3 f h a0 a1 a2 a3 a4 a5 a6 = some h' → GG x 0 0 h 3 [(0, .ref a0), (1, .ref a1), (2, .ref a2), (3, .ref a3), (4, .ref a4), (5, .ref a5), (6, .int a6)] [] := by
  intro f
  induction f with
  | zero => intro h a0 a1 a2 a3 a4 a5 a6 hr; have hr : (none : Option (HP)) = some h' := hr; cases hr
  | succ f ih => intro h a0 a1 a2 a3 a4 a5 a6 hr; exact bk_Rm_times_3 C T hl0 (L_Rm_times_3 f) ih h a0 a1 a2 a3 a4 a5 a6 hr
def P_Rm_times (h : HP) (p0 : Nat) (p1 : Nat) (p2 : Nat) (p3 : Nat) (p4 : Nat) (p5 : Nat) : Option (HP) :=
  L_Rm_times_3 FU h p0 p1 p2 p3 p4 p5 0
set_option maxHeartbeats 4000000 in
set_option maxRecDepth 100000 in
theorem c_Rm_times {l : Launch} {h h' : HP} {p0 p1 p2 p3 p4 p5 : _} (hr : P_Rm_times h p0 p1 p2 p3 p4 p5 = some h') : MP l y_Rm_times (Cond.code y_Rm_times b_Rm_times 10 none :: TB) rm_Rm_times h [.ref p0, .ref p1, .ref p2, .ref p3, .ref p4, .ref p5] none h' := by
  refine MP_intro (cc := b_Rm_times) (by decide) (Nat.le_of_ble_eq_true rfl) (fun x hl0 C T hin => ?_)
  unfold P_Rm_times at hr
  show GG x 0 0 h 0 [(0, .ref p0), (1, .ref p1), (2, .ref p2), (3, .ref p3), (4, .ref p4), (5, .ref p5)] []
  refine g_iconst (v := 0) C d_Rm_times_0 (by decide) ?_
  refine g_istore (lv' := [(6, .int 0), (0, .ref p0), (1, .ref p1), (2, .ref p2), (3, .ref p3), (4, .ref p4), (5, .ref p5)]) C d_Rm_times_1 (by decide) rfl ?_
  refine g_lv [1, 2, 3, 4, 5, 6, 0] rfl ?_
  exact lp_Rm_times_3 C T hl0 FU h p0 p1 p2 p3 p4 p5 0 hr
abbrev b_Rm_half : ByteArray := prog_12_method_15_code
abbrev y_Rm_half : MethodName := ⟨"PrimeKeysModel", "half", "([J[J)V"⟩
theorem d_Rm_half_0 : decode b_Rm_half 0 = .ok (.aload_n 0, 1) := by decide +kernel
theorem d_Rm_half_1 : decode b_Rm_half 1 = .ok (.iconst 0, 1) := by decide +kernel
theorem d_Rm_half_2 : decode b_Rm_half 2 = .ok (.laload, 1) := by decide +kernel
theorem d_Rm_half_3 : decode b_Rm_half 3 = .ok (.lconst 1, 1) := by decide +kernel
theorem d_Rm_half_4 : decode b_Rm_half 4 = .ok (.land, 1) := by decide +kernel
theorem d_Rm_half_5 : decode b_Rm_half 5 = .ok (.lconst 1, 1) := by decide +kernel
theorem d_Rm_half_6 : decode b_Rm_half 6 = .ok (.lcmp, 1) := by decide +kernel
theorem d_Rm_half_7 : decode b_Rm_half 7 = .ok (.ifCond .ne 55, 3) := by decide +kernel
theorem d_Rm_half_10 : decode b_Rm_half 10 = .ok (.lconst 0, 1) := by decide +kernel
theorem d_Rm_half_11 : decode b_Rm_half 11 = .ok (.lstore_n 2, 1) := by decide +kernel
theorem d_Rm_half_12 : decode b_Rm_half 12 = .ok (.iconst 0, 1) := by decide +kernel
theorem d_Rm_half_13 : decode b_Rm_half 13 = .ok (.istore 4, 2) := by decide +kernel
theorem d_Rm_half_15 : decode b_Rm_half 15 = .ok (.iload 4, 2) := by decide +kernel
theorem d_Rm_half_17 : decode b_Rm_half 17 = .ok (.bipush 16, 2) := by decide +kernel
theorem d_Rm_half_19 : decode b_Rm_half 19 = .ok (.if_icmp .ge 35, 3) := by decide +kernel
theorem d_Rm_half_22 : decode b_Rm_half 22 = .ok (.lload_n 2, 1) := by decide +kernel
theorem d_Rm_half_23 : decode b_Rm_half 23 = .ok (.aload_n 0, 1) := by decide +kernel
theorem d_Rm_half_24 : decode b_Rm_half 24 = .ok (.iload 4, 2) := by decide +kernel
theorem d_Rm_half_26 : decode b_Rm_half 26 = .ok (.laload, 1) := by decide +kernel
theorem d_Rm_half_27 : decode b_Rm_half 27 = .ok (.aload_n 1, 1) := by decide +kernel
theorem d_Rm_half_28 : decode b_Rm_half 28 = .ok (.iload 4, 2) := by decide +kernel
theorem d_Rm_half_30 : decode b_Rm_half 30 = .ok (.laload, 1) := by decide +kernel
theorem d_Rm_half_31 : decode b_Rm_half 31 = .ok (.ladd, 1) := by decide +kernel
theorem d_Rm_half_32 : decode b_Rm_half 32 = .ok (.ladd, 1) := by decide +kernel
theorem d_Rm_half_33 : decode b_Rm_half 33 = .ok (.lstore_n 2, 1) := by decide +kernel
theorem d_Rm_half_34 : decode b_Rm_half 34 = .ok (.aload_n 0, 1) := by decide +kernel
theorem d_Rm_half_35 : decode b_Rm_half 35 = .ok (.iload 4, 2) := by decide +kernel
theorem d_Rm_half_37 : decode b_Rm_half 37 = .ok (.lload_n 2, 1) := by decide +kernel
theorem d_Rm_half_38 : decode b_Rm_half 38 = .ok (.ldc2_w 27, 3) := by decide +kernel
theorem d_Rm_half_41 : decode b_Rm_half 41 = .ok (.land, 1) := by decide +kernel
theorem d_Rm_half_42 : decode b_Rm_half 42 = .ok (.lastore, 1) := by decide +kernel
theorem d_Rm_half_43 : decode b_Rm_half 43 = .ok (.lload_n 2, 1) := by decide +kernel
theorem d_Rm_half_44 : decode b_Rm_half 44 = .ok (.bipush 16, 2) := by decide +kernel
theorem d_Rm_half_46 : decode b_Rm_half 46 = .ok (.lshr, 1) := by decide +kernel
theorem d_Rm_half_47 : decode b_Rm_half 47 = .ok (.lstore_n 2, 1) := by decide +kernel
theorem d_Rm_half_48 : decode b_Rm_half 48 = .ok (.iinc 4 1, 3) := by decide +kernel
theorem d_Rm_half_51 : decode b_Rm_half 51 = .ok (.goto (-36), 3) := by decide +kernel
theorem d_Rm_half_54 : decode b_Rm_half 54 = .ok (.aload_n 0, 1) := by decide +kernel
theorem d_Rm_half_55 : decode b_Rm_half 55 = .ok (.bipush 16, 2) := by decide +kernel
theorem d_Rm_half_57 : decode b_Rm_half 57 = .ok (.dup2, 1) := by decide +kernel
theorem d_Rm_half_58 : decode b_Rm_half 58 = .ok (.laload, 1) := by decide +kernel
theorem d_Rm_half_59 : decode b_Rm_half 59 = .ok (.lload_n 2, 1) := by decide +kernel
theorem d_Rm_half_60 : decode b_Rm_half 60 = .ok (.ladd, 1) := by decide +kernel
theorem d_Rm_half_61 : decode b_Rm_half 61 = .ok (.lastore, 1) := by decide +kernel
theorem d_Rm_half_62 : decode b_Rm_half 62 = .ok (.iconst 0, 1) := by decide +kernel
theorem d_Rm_half_63 : decode b_Rm_half 63 = .ok (.istore_n 2, 1) := by decide +kernel
theorem d_Rm_half_64 : decode b_Rm_half 64 = .ok (.iload_n 2, 1) := by decide +kernel
theorem d_Rm_half_65 : decode b_Rm_half 65 = .ok (.bipush 16, 2) := by decide +kernel
theorem d_Rm_half_67 : decode b_Rm_half 67 = .ok (.if_icmp .ge 28, 3) := by decide +kernel
theorem d_Rm_half_70 : decode b_Rm_half 70 = .ok (.aload_n 0, 1) := by decide +kernel
theorem d_Rm_half_71 : decode b_Rm_half 71 = .ok (.iload_n 2, 1) := by decide +kernel
theorem d_Rm_half_72 : decode b_Rm_half 72 = .ok (.aload_n 0, 1) := by decide +kernel
theorem d_Rm_half_73 : decode b_Rm_half 73 = .ok (.iload_n 2, 1) := by decide +kernel
theorem d_Rm_half_74 : decode b_Rm_half 74 = .ok (.laload, 1) := by decide +kernel
theorem d_Rm_half_75 : decode b_Rm_half 75 = .ok (.iconst 1, 1) := by decide +kernel
theorem d_Rm_half_76 : decode b_Rm_half 76 = .ok (.lshr, 1) := by decide +kernel
theorem d_Rm_half_77 : decode b_Rm_half 77 = .ok (.aload_n 0, 1) := by decide +kernel
theorem d_Rm_half_78 : decode b_Rm_half 78 = .ok (.iload_n 2, 1) := by decide +kernel
theorem d_Rm_half_79 : decode b_Rm_half 79 = .ok (.iconst 1, 1) := by decide +kernel
theorem d_Rm_half_80 : decode b_Rm_half 80 = .ok (.iadd, 1) := by decide +kernel
theorem d_Rm_half_81 : decode b_Rm_half 81 = .ok (.laload, 1) := by decide +kernel
theorem d_Rm_half_82 : decode b_Rm_half 82 = .ok (.lconst 1, 1) := by decide +kernel
theorem d_Rm_half_83 : decode b_Rm_half 83 = .ok (.land, 1) := by decide +kernel
theorem d_Rm_half_84 : decode b_Rm_half 84 = .ok (.bipush 15, 2) := by decide +kernel
theorem d_Rm_half_86 : decode b_Rm_half 86 = .ok (.lshl, 1) := by decide +kernel
theorem d_Rm_half_87 : decode b_Rm_half 87 = .ok (.lor, 1) := by decide +kernel
theorem d_Rm_half_88 : decode b_Rm_half 88 = .ok (.lastore, 1) := by decide +kernel
theorem d_Rm_half_89 : decode b_Rm_half 89 = .ok (.iinc 2 1, 3) := by decide +kernel
theorem d_Rm_half_92 : decode b_Rm_half 92 = .ok (.goto (-28), 3) := by decide +kernel
theorem d_Rm_half_95 : decode b_Rm_half 95 = .ok (.aload_n 0, 1) := by decide +kernel
theorem d_Rm_half_96 : decode b_Rm_half 96 = .ok (.bipush 16, 2) := by decide +kernel
theorem d_Rm_half_98 : decode b_Rm_half 98 = .ok (.dup2, 1) := by decide +kernel
theorem d_Rm_half_99 : decode b_Rm_half 99 = .ok (.laload, 1) := by decide +kernel
theorem d_Rm_half_100 : decode b_Rm_half 100 = .ok (.iconst 1, 1) := by decide +kernel
theorem d_Rm_half_101 : decode b_Rm_half 101 = .ok (.lshr, 1) := by decide +kernel
theorem d_Rm_half_102 : decode b_Rm_half 102 = .ok (.lastore, 1) := by decide +kernel
theorem d_Rm_half_103 : decode b_Rm_half 103 = .ok (.return_, 1) := by decide +kernel
abbrev rm_Rm_half : Room := { frames := 0, cells := 0, slots := 0, locals := 0 }
def B_Rm_half_64 (K64 : HP → Nat → Int32 → Option (HP)) (h : HP) (a0 : Nat) (a2 : Int32) : Option (HP) :=
  if 16 ≤ a2 then
  bnd (ldJ h a0 16) fun v2 =>
  bnd (stJ h a0 16 (v2 >>> (Int32.toInt64 1 &&& 63))) fun h3 =>
  some h3
  else
  bnd (ldJ h a0 a2) fun v4 =>
  bnd (ldJ h a0 (a2 + 1)) fun v5 =>
  bnd (stJ h a0 a2 ((v4 >>> (Int32.toInt64 1 &&& 63)) ||| ((v5 &&& 1) <<< (Int32.toInt64 15 &&& 63)))) fun h6 =>
  lt (a2 + Int32.ofInt 1) fun x7 =>
  K64 h6 a0 x7
set_option maxHeartbeats 4000000 in
set_option maxRecDepth 100000 in
theorem bk_Rm_half_64 {l : Launch} {x : CX} {h0 h' : HP} (C : EV x b_Rm_half "PrimeKeysModel" 5 rm_Rm_half) (T : CT x (none) rm_Rm_half h0 none h') (hl0 : x.1.2.1 = l) (K64 : HP → Nat → Int32 → Option (HP)) (hK64 : ∀ (h : HP) (a0 : Nat) (a2 : Int32), K64 h a0 a2 = some h' → GG x 0 0 h 64 [(0, .ref a0), (2, .int a2)] []) (h : HP) (a0 : Nat) (a2 : Int32) (hr : B_Rm_half_64 K64 h a0 a2 = some h') : GG x 0 0 h 64 [(0, .ref a0), (2, .int a2)] [] := by
  unfold B_Rm_half_64 at hr
  refine g_iload_n C 1 rfl d_Rm_half_64 rfl ?_
  refine g_bipush (v := 16) C d_Rm_half_65 (by decide) ?_
  refine g_icmp_ge (tgt := 95) C d_Rm_half_67 (by decide) (fun z => ?_) (fun z => ?_)
  · have hr := of_if z hr
    refine g_aload_n C 0 rfl d_Rm_half_95 rfl ?_
    refine g_bipush (v := 16) C d_Rm_half_96 (by decide) ?_
    refine g_dup2_11 C d_Rm_half_98 rfl rfl ?_
    obtain ⟨v2, ev2, hr⟩ := of_bnd hr
    refine g_laload C ev2 d_Rm_half_99 ?_
    refine g_iconst (v := 1) C d_Rm_half_100 (by decide) ?_
    refine g_lshr C d_Rm_half_101 ?_
    obtain ⟨h3, eh3, hr⟩ := of_bnd hr
    refine g_lastore C eh3 d_Rm_half_102 ?_
    cases hr
    exact g_vreturn C T (by decide) (by decide) d_Rm_half_103
  · have hr := of_el z hr
    refine g_aload_n C 0 rfl d_Rm_half_70 rfl ?_
    refine g_iload_n C 1 rfl d_Rm_half_71 rfl ?_
    refine g_aload_n C 0 rfl d_Rm_half_72 rfl ?_
    refine g_iload_n C 1 rfl d_Rm_half_73 rfl ?_
    obtain ⟨v4, ev4, hr⟩ := of_bnd hr
    refine g_laload C ev4 d_Rm_half_74 ?_
    refine g_iconst (v := 1) C d_Rm_half_75 (by decide) ?_
    refine g_lshr C d_Rm_half_76 ?_
    refine g_aload_n C 0 rfl d_Rm_half_77 rfl ?_
    refine g_iload_n C 1 rfl d_Rm_half_78 rfl ?_
    refine g_iconst (v := 1) C d_Rm_half_79 (by decide) ?_
    refine g_iadd C d_Rm_half_80 ?_
    obtain ⟨v5, ev5, hr⟩ := of_bnd hr
    refine g_laload C ev5 d_Rm_half_81 ?_
    refine g_lconst (v := 1) C d_Rm_half_82 (by decide) ?_
    refine g_land C d_Rm_half_83 ?_
    refine g_bipush (v := 15) C d_Rm_half_84 (by decide) ?_
    refine g_lshl C d_Rm_half_86 ?_
    refine g_lor C d_Rm_half_87 ?_
    obtain ⟨h6, eh6, hr⟩ := of_bnd hr
    refine g_lastore C eh6 d_Rm_half_88 ?_
    obtain ⟨x7, ex7⟩ : ∃ z, z = a2 + Int32.ofInt 1 := ⟨_, rfl⟩
    have hr := of_lt ex7 hr
    refine g_iinc (lv' := [(2, .int x7), (0, .ref a0)]) C 1 rfl d_Rm_half_89 ex7.symm (by decide) rfl ?_
    refine g_goto (tgt := 64) C d_Rm_half_92 (by decide) ?_
    refine g_lv [1, 0] rfl ?_
    exact hK64 h6 a0 x7 hr
def L_Rm_half_64 : Nat → HP → Nat → Int32 → Option (HP)
  | 0, _, _, _ => none
  | f + 1, h, a0, a2 => B_Rm_half_64 (L_Rm_half_64 f) h a0 a2
theorem lp_Rm_half_64 {l : Launch} {x : CX} {h0 h' : HP} (C : EV x b_Rm_half "PrimeKeysModel" 5 rm_Rm_half) (T : CT x (none) rm_Rm_half h0 none h') (hl0 : x.1.2.1 = l) : ∀ (f : Nat) (h : HP) (a0 : Nat) (a2 : Int32), L_Rm_half_64 f h a0 a2 = some h' → GG x 0 0 h 64 [(0, .ref a0), (2, .int a2)] [] := by
  intro f
  induction f with
  | zero => intro h a0 a2 hr; have hr : (none : Option (HP)) = some h' := hr; cases hr
  | succ f ih => intro h a0 a2 hr; exact bk_Rm_half_64 C T hl0 (L_Rm_half_64 f) ih h a0 a2 hr
def B_Rm_half_62 (h : HP) (a0 : Nat) : Option (HP) :=
  L_Rm_half_64 FU h a0 0
set_option maxHeartbeats 4000000 in
set_option maxRecDepth 100000 in
theorem bk_Rm_half_62 {l : Launch} {x : CX} {h0 h' : HP} (C : EV x b_Rm_half "PrimeKeysModel" 5 rm_Rm_half) (T : CT x (none) rm_Rm_half h0 none h') (hl0 : x.1.2.1 = l) (h : HP) (a0 : Nat) (hr : B_Rm_half_62 h a0 = some h') : GG x 0 0 h 62 [(0, .ref a0)] [] := by
  unfold B_Rm_half_62 at hr
  refine g_iconst (v := 0) C d_Rm_half_62 (by decide) ?_
  refine g_istore_n (lv' := [(2, .int 0), (0, .ref a0)]) C d_Rm_half_63 rfl (by decide) rfl ?_
  refine g_lv [1, 0] rfl ?_
  exact lp_Rm_half_64 C T hl0 FU h a0 0 hr
def B_Rm_half_15 (K15 : HP → Nat → Nat → Int64 → Int32 → Option (HP)) (h : HP) (a0 : Nat) (a1 : Nat) (a2 : Int64) (a4 : Int32) : Option (HP) :=
  if 16 ≤ a4 then
  bnd (ldJ h a0 16) fun v8 =>
  bnd (stJ h a0 16 (v8 + a2)) fun h9 =>
  B_Rm_half_62 h9 a0
  else
  bnd (ldJ h a0 a4) fun v10 =>
  bnd (ldJ h a1 a4) fun v11 =>
  lt (a2 + (v10 + v11)) fun x12 =>
  bnd (stJ h a0 a4 (x12 &&& 65535)) fun h13 =>
  lt (x12 >>> (Int32.toInt64 16 &&& 63)) fun x14 =>
  lt (a4 + Int32.ofInt 1) fun x15 =>
  K15 h13 a0 a1 x14 x15
set_option maxHeartbeats 4000000 in
set_option maxRecDepth 100000 in
theorem bk_Rm_half_15 {l : Launch} {x : CX} {h0 h' : HP} (C : EV x b_Rm_half "PrimeKeysModel" 5 rm_Rm_half) (T : CT x (none) rm_Rm_half h0 none h') (hl0 : x.1.2.1 = l) (K15 : HP → Nat → Nat → Int64 → Int32 → Option (HP)) (hK15 : ∀ (h : HP) (a0 : Nat) (a1 : Nat) (a2 : Int64) (a4 : Int32), K15 h a0 a1 a2 a4 = some h' → GG x 0 0 h 15 [(0, .ref a0), (1, .ref a1), (2, .long a2), (4, .int a4)] []) (h : HP) (a0 : Nat) (a1 : Nat) (a2 : Int64) (a4 : Int32) (hr : B_Rm_half_15 K15 h a0 a1 a2 a4 = some h') : GG x 0 0 h 15 [(0, .ref a0), (1, .ref a1), (2, .long a2), (4, .int a4)] [] := by
  unfold B_Rm_half_15 at hr
  refine g_iload C 3 rfl d_Rm_half_15 ?_
  refine g_bipush (v := 16) C d_Rm_half_17 (by decide) ?_
  refine g_icmp_ge (tgt := 54) C d_Rm_half_19 (by decide) (fun z => ?_) (fun z => ?_)
  · have hr := of_if z hr
    refine g_aload_n C 0 rfl d_Rm_half_54 rfl ?_
    refine g_bipush (v := 16) C d_Rm_half_55 (by decide) ?_
    refine g_dup2_11 C d_Rm_half_57 rfl rfl ?_
    obtain ⟨v8, ev8, hr⟩ := of_bnd hr
    refine g_laload C ev8 d_Rm_half_58 ?_
    refine g_lload_n C 2 rfl d_Rm_half_59 rfl ?_
    refine g_ladd C d_Rm_half_60 ?_
    obtain ⟨h9, eh9, hr⟩ := of_bnd hr
    refine g_lastore C eh9 d_Rm_half_61 ?_
    refine g_lv [0] rfl ?_
    exact bk_Rm_half_62 C T hl0 h9 a0 hr
  · have hr := of_el z hr
    refine g_lload_n C 2 rfl d_Rm_half_22 rfl ?_
    refine g_aload_n C 0 rfl d_Rm_half_23 rfl ?_
    refine g_iload C 3 rfl d_Rm_half_24 ?_
    obtain ⟨v10, ev10, hr⟩ := of_bnd hr
    refine g_laload C ev10 d_Rm_half_26 ?_
    refine g_aload_n C 1 rfl d_Rm_half_27 rfl ?_
    refine g_iload C 3 rfl d_Rm_half_28 ?_
    obtain ⟨v11, ev11, hr⟩ := of_bnd hr
    refine g_laload C ev11 d_Rm_half_30 ?_
    refine g_ladd C d_Rm_half_31 ?_
    refine g_ladd C d_Rm_half_32 ?_
    refine g_topl (fun x12 ex12 => ?_)
    have hr := of_lt ex12 hr
    refine g_lstore_n (lv' := [(2, .long x12), (0, .ref a0), (1, .ref a1), (4, .int a4)]) C d_Rm_half_33 rfl (by decide) rfl ?_
    refine g_aload_n C 1 rfl d_Rm_half_34 rfl ?_
    refine g_iload C 3 rfl d_Rm_half_35 ?_
    refine g_lload_n C 0 rfl d_Rm_half_37 rfl ?_
    refine g_ldc2 (v := 65535) C d_Rm_half_38 kw_17 ?_
    refine g_land C d_Rm_half_41 ?_
    obtain ⟨h13, eh13, hr⟩ := of_bnd hr
    refine g_lastore C eh13 d_Rm_half_42 ?_
    refine g_lload_n C 0 rfl d_Rm_half_43 rfl ?_
    refine g_bipush (v := 16) C d_Rm_half_44 (by decide) ?_
    refine g_lshr C d_Rm_half_46 ?_
    refine g_topl (fun x14 ex14 => ?_)
    have hr := of_lt ex14 hr
    refine g_lstore_n (lv' := [(2, .long x14), (0, .ref a0), (1, .ref a1), (4, .int a4)]) C d_Rm_half_47 rfl (by decide) rfl ?_
    obtain ⟨x15, ex15⟩ : ∃ z, z = a4 + Int32.ofInt 1 := ⟨_, rfl⟩
    have hr := of_lt ex15 hr
    refine g_iinc (lv' := [(4, .int x15), (2, .long x14), (0, .ref a0), (1, .ref a1)]) C 3 rfl d_Rm_half_48 ex15.symm (by decide) rfl ?_
    refine g_goto (tgt := 15) C d_Rm_half_51 (by decide) ?_
    refine g_lv [2, 3, 1, 0] rfl ?_
    exact hK15 h13 a0 a1 x14 x15 hr
def L_Rm_half_15 : Nat → HP → Nat → Nat → Int64 → Int32 → Option (HP)
  | 0, _, _, _, _, _ => none
  | f + 1, h, a0, a1, a2, a4 => B_Rm_half_15 (L_Rm_half_15 f) h a0 a1 a2 a4
theorem lp_Rm_half_15 {l : Launch} {x : CX} {h0 h' : HP} (C : EV x b_Rm_half "PrimeKeysModel" 5 rm_Rm_half) (T : CT x (none) rm_Rm_half h0 none h') (hl0 : x.1.2.1 = l) : ∀ (f : Nat) (h : HP) (a0 : Nat) (a1 : Nat) (a2 : Int64) (a4 : Int32), L_Rm_half_15 f h a0 a1 a2 a4 = some h' → GG x 0 0 h 15 [(0, .ref a0), (1, .ref a1), (2, .long a2), (4, .int a4)] [] := by
  intro f
  induction f with
  | zero => intro h a0 a1 a2 a4 hr; have hr : (none : Option (HP)) = some h' := hr; cases hr
  | succ f ih => intro h a0 a1 a2 a4 hr; exact bk_Rm_half_15 C T hl0 (L_Rm_half_15 f) ih h a0 a1 a2 a4 hr
def P_Rm_half (h : HP) (p0 : Nat) (p1 : Nat) : Option (HP) :=
  bnd (ldJ h p0 0) fun v1 =>
  if lg_cmp (v1 &&& 1) 1 = 0 then
  L_Rm_half_15 FU h p0 p1 0 0
  else
  B_Rm_half_62 h p0
set_option maxHeartbeats 4000000 in
set_option maxRecDepth 100000 in
theorem c_Rm_half {l : Launch} {h h' : HP} {p0 p1 : _} (hr : P_Rm_half h p0 p1 = some h') : MP l y_Rm_half (Cond.code y_Rm_half b_Rm_half 5 none :: TB) rm_Rm_half h [.ref p0, .ref p1] none h' := by
  refine MP_intro (cc := b_Rm_half) (by decide) (Nat.le_of_ble_eq_true rfl) (fun x hl0 C T hin => ?_)
  unfold P_Rm_half at hr
  show GG x 0 0 h 0 [(0, .ref p0), (1, .ref p1)] []
  refine g_aload_n C 0 rfl d_Rm_half_0 rfl ?_
  refine g_iconst (v := 0) C d_Rm_half_1 (by decide) ?_
  obtain ⟨v1, ev1, hr⟩ := of_bnd hr
  refine g_laload C ev1 d_Rm_half_2 ?_
  refine g_lconst (v := 1) C d_Rm_half_3 (by decide) ?_
  refine g_land C d_Rm_half_4 ?_
  refine g_lconst (v := 1) C d_Rm_half_5 (by decide) ?_
  refine g_lcmp C d_Rm_half_6 ?_
  refine g_if_ne (tgt := 62) C d_Rm_half_7 (by decide) (fun z => ?_) (fun z => ?_)
  · have hr := of_el z hr
    refine g_lv [0] rfl ?_
    exact bk_Rm_half_62 C T hl0 h p0 hr
  · have hr := of_if z hr
    refine g_lconst (v := 0) C d_Rm_half_10 (by decide) ?_
    refine g_lstore_n (lv' := [(2, .long 0), (0, .ref p0), (1, .ref p1)]) C d_Rm_half_11 rfl (by decide) rfl ?_
    refine g_iconst (v := 0) C d_Rm_half_12 (by decide) ?_
    refine g_istore (lv' := [(4, .int 0), (2, .long 0), (0, .ref p0), (1, .ref p1)]) C d_Rm_half_13 (by decide) rfl ?_
    refine g_lv [2, 3, 1, 0] rfl ?_
    exact lp_Rm_half_15 C T hl0 FU h p0 p1 0 0 hr
abbrev b_Rm_halve : ByteArray := prog_12_method_16_code
abbrev y_Rm_halve : MethodName := ⟨"PrimeKeysModel", "halve", "([J)V"⟩
theorem d_Rm_halve_0 : decode b_Rm_halve 0 = .ok (.iconst 0, 1) := by decide +kernel
theorem d_Rm_halve_1 : decode b_Rm_halve 1 = .ok (.istore_n 1, 1) := by decide +kernel
theorem d_Rm_halve_2 : decode b_Rm_halve 2 = .ok (.iload_n 1, 1) := by decide +kernel
theorem d_Rm_halve_3 : decode b_Rm_halve 3 = .ok (.bipush 16, 2) := by decide +kernel
theorem d_Rm_halve_5 : decode b_Rm_halve 5 = .ok (.if_icmp .ge 38, 3) := by decide +kernel
theorem d_Rm_halve_8 : decode b_Rm_halve 8 = .ok (.aload_n 0, 1) := by decide +kernel
theorem d_Rm_halve_9 : decode b_Rm_halve 9 = .ok (.iload_n 1, 1) := by decide +kernel
theorem d_Rm_halve_10 : decode b_Rm_halve 10 = .ok (.aload_n 0, 1) := by decide +kernel
theorem d_Rm_halve_11 : decode b_Rm_halve 11 = .ok (.iload_n 1, 1) := by decide +kernel
theorem d_Rm_halve_12 : decode b_Rm_halve 12 = .ok (.laload, 1) := by decide +kernel
theorem d_Rm_halve_13 : decode b_Rm_halve 13 = .ok (.iconst 1, 1) := by decide +kernel
theorem d_Rm_halve_14 : decode b_Rm_halve 14 = .ok (.lshr, 1) := by decide +kernel
theorem d_Rm_halve_15 : decode b_Rm_halve 15 = .ok (.iload_n 1, 1) := by decide +kernel
theorem d_Rm_halve_16 : decode b_Rm_halve 16 = .ok (.bipush 15, 2) := by decide +kernel
theorem d_Rm_halve_18 : decode b_Rm_halve 18 = .ok (.if_icmp .ge 16, 3) := by decide +kernel
theorem d_Rm_halve_21 : decode b_Rm_halve 21 = .ok (.aload_n 0, 1) := by decide +kernel
theorem d_Rm_halve_22 : decode b_Rm_halve 22 = .ok (.iload_n 1, 1) := by decide +kernel
theorem d_Rm_halve_23 : decode b_Rm_halve 23 = .ok (.iconst 1, 1) := by decide +kernel
theorem d_Rm_halve_24 : decode b_Rm_halve 24 = .ok (.iadd, 1) := by decide +kernel
theorem d_Rm_halve_25 : decode b_Rm_halve 25 = .ok (.laload, 1) := by decide +kernel
theorem d_Rm_halve_26 : decode b_Rm_halve 26 = .ok (.lconst 1, 1) := by decide +kernel
theorem d_Rm_halve_27 : decode b_Rm_halve 27 = .ok (.land, 1) := by decide +kernel
theorem d_Rm_halve_28 : decode b_Rm_halve 28 = .ok (.bipush 15, 2) := by decide +kernel
theorem d_Rm_halve_30 : decode b_Rm_halve 30 = .ok (.lshl, 1) := by decide +kernel
theorem d_Rm_halve_31 : decode b_Rm_halve 31 = .ok (.goto 4, 3) := by decide +kernel
theorem d_Rm_halve_34 : decode b_Rm_halve 34 = .ok (.lconst 0, 1) := by decide +kernel
theorem d_Rm_halve_35 : decode b_Rm_halve 35 = .ok (.lor, 1) := by decide +kernel
theorem d_Rm_halve_36 : decode b_Rm_halve 36 = .ok (.lastore, 1) := by decide +kernel
theorem d_Rm_halve_37 : decode b_Rm_halve 37 = .ok (.iinc 1 1, 3) := by decide +kernel
theorem d_Rm_halve_40 : decode b_Rm_halve 40 = .ok (.goto (-38), 3) := by decide +kernel
theorem d_Rm_halve_43 : decode b_Rm_halve 43 = .ok (.return_, 1) := by decide +kernel
abbrev rm_Rm_halve : Room := { frames := 0, cells := 0, slots := 0, locals := 0 }
def B_Rm_halve_2 (K2 : HP → Nat → Int32 → Option (HP)) (h : HP) (a0 : Nat) (a1 : Int32) : Option (HP) :=
  if 16 ≤ a1 then
  some h
  else
  bnd (ldJ h a0 a1) fun v1 =>
  if 15 ≤ a1 then
  bnd (stJ h a0 a1 ((v1 >>> (Int32.toInt64 1 &&& 63)) ||| 0)) fun h2 =>
  lt (a1 + Int32.ofInt 1) fun x3 =>
  K2 h2 a0 x3
  else
  bnd (ldJ h a0 (a1 + 1)) fun v4 =>
  bnd (stJ h a0 a1 ((v1 >>> (Int32.toInt64 1 &&& 63)) ||| ((v4 &&& 1) <<< (Int32.toInt64 15 &&& 63)))) fun h5 =>
  lt (a1 + Int32.ofInt 1) fun x6 =>
  K2 h5 a0 x6
set_option maxHeartbeats 4000000 in
set_option maxRecDepth 100000 in
theorem bk_Rm_halve_2 {l : Launch} {x : CX} {h0 h' : HP} (C : EV x b_Rm_halve "PrimeKeysModel" 2 rm_Rm_halve) (T : CT x (none) rm_Rm_halve h0 none h') (hl0 : x.1.2.1 = l) (K2 : HP → Nat → Int32 → Option (HP)) (hK2 : ∀ (h : HP) (a0 : Nat) (a1 : Int32), K2 h a0 a1 = some h' → GG x 0 0 h 2 [(0, .ref a0), (1, .int a1)] []) (h : HP) (a0 : Nat) (a1 : Int32) (hr : B_Rm_halve_2 K2 h a0 a1 = some h') : GG x 0 0 h 2 [(0, .ref a0), (1, .int a1)] [] := by
  unfold B_Rm_halve_2 at hr
  refine g_iload_n C 1 rfl d_Rm_halve_2 rfl ?_
  refine g_bipush (v := 16) C d_Rm_halve_3 (by decide) ?_
  refine g_icmp_ge (tgt := 43) C d_Rm_halve_5 (by decide) (fun z => ?_) (fun z => ?_)
  · have hr := of_if z hr
    cases hr
    exact g_vreturn C T (by decide) (by decide) d_Rm_halve_43
  · have hr := of_el z hr
    refine g_aload_n C 0 rfl d_Rm_halve_8 rfl ?_
    refine g_iload_n C 1 rfl d_Rm_halve_9 rfl ?_
    refine g_aload_n C 0 rfl d_Rm_halve_10 rfl ?_
    refine g_iload_n C 1 rfl d_Rm_halve_11 rfl ?_
    obtain ⟨v1, ev1, hr⟩ := of_bnd hr
    refine g_laload C ev1 d_Rm_halve_12 ?_
    refine g_iconst (v := 1) C d_Rm_halve_13 (by decide) ?_
    refine g_lshr C d_Rm_halve_14 ?_
    refine g_iload_n C 1 rfl d_Rm_halve_15 rfl ?_
    refine g_bipush (v := 15) C d_Rm_halve_16 (by decide) ?_
    refine g_icmp_ge (tgt := 34) C d_Rm_halve_18 (by decide) (fun z => ?_) (fun z => ?_)
    · have hr := of_if z hr
      refine g_lconst (v := 0) C d_Rm_halve_34 (by decide) ?_
      refine g_lor C d_Rm_halve_35 ?_
      obtain ⟨h2, eh2, hr⟩ := of_bnd hr
      refine g_lastore C eh2 d_Rm_halve_36 ?_
      obtain ⟨x3, ex3⟩ : ∃ z, z = a1 + Int32.ofInt 1 := ⟨_, rfl⟩
      have hr := of_lt ex3 hr
      refine g_iinc (lv' := [(1, .int x3), (0, .ref a0)]) C 1 rfl d_Rm_halve_37 ex3.symm (by decide) rfl ?_
      refine g_goto (tgt := 2) C d_Rm_halve_40 (by decide) ?_
      refine g_lv [1, 0] rfl ?_
      exact hK2 h2 a0 x3 hr
    · have hr := of_el z hr
      refine g_aload_n C 0 rfl d_Rm_halve_21 rfl ?_
      refine g_iload_n C 1 rfl d_Rm_halve_22 rfl ?_
      refine g_iconst (v := 1) C d_Rm_halve_23 (by decide) ?_
      refine g_iadd C d_Rm_halve_24 ?_
      obtain ⟨v4, ev4, hr⟩ := of_bnd hr
      refine g_laload C ev4 d_Rm_halve_25 ?_
      refine g_lconst (v := 1) C d_Rm_halve_26 (by decide) ?_
      refine g_land C d_Rm_halve_27 ?_
      refine g_bipush (v := 15) C d_Rm_halve_28 (by decide) ?_
      refine g_lshl C d_Rm_halve_30 ?_
      refine g_goto (tgt := 35) C d_Rm_halve_31 (by decide) ?_
      refine g_lor C d_Rm_halve_35 ?_
      obtain ⟨h5, eh5, hr⟩ := of_bnd hr
      refine g_lastore C eh5 d_Rm_halve_36 ?_
      obtain ⟨x6, ex6⟩ : ∃ z, z = a1 + Int32.ofInt 1 := ⟨_, rfl⟩
      have hr := of_lt ex6 hr
      refine g_iinc (lv' := [(1, .int x6), (0, .ref a0)]) C 1 rfl d_Rm_halve_37 ex6.symm (by decide) rfl ?_
      refine g_goto (tgt := 2) C d_Rm_halve_40 (by decide) ?_
      refine g_lv [1, 0] rfl ?_
      exact hK2 h5 a0 x6 hr
def L_Rm_halve_2 : Nat → HP → Nat → Int32 → Option (HP)
  | 0, _, _, _ => none
  | f + 1, h, a0, a1 => B_Rm_halve_2 (L_Rm_halve_2 f) h a0 a1
theorem lp_Rm_halve_2 {l : Launch} {x : CX} {h0 h' : HP} (C : EV x b_Rm_halve "PrimeKeysModel" 2 rm_Rm_halve) (T : CT x (none) rm_Rm_halve h0 none h') (hl0 : x.1.2.1 = l) : ∀ (f : Nat) (h : HP) (a0 : Nat) (a1 : Int32), L_Rm_halve_2 f h a0 a1 = some h' → GG x 0 0 h 2 [(0, .ref a0), (1, .int a1)] [] := by
  intro f
  induction f with
  | zero => intro h a0 a1 hr; have hr : (none : Option (HP)) = some h' := hr; cases hr
  | succ f ih => intro h a0 a1 hr; exact bk_Rm_halve_2 C T hl0 (L_Rm_halve_2 f) ih h a0 a1 hr
def P_Rm_halve (h : HP) (p0 : Nat) : Option (HP) :=
  L_Rm_halve_2 FU h p0 0
set_option maxHeartbeats 4000000 in
set_option maxRecDepth 100000 in
theorem c_Rm_halve {l : Launch} {h h' : HP} {p0 : _} (hr : P_Rm_halve h p0 = some h') : MP l y_Rm_halve (Cond.code y_Rm_halve b_Rm_halve 2 none :: TB) rm_Rm_halve h [.ref p0] none h' := by
  refine MP_intro (cc := b_Rm_halve) (by decide) (Nat.le_of_ble_eq_true rfl) (fun x hl0 C T hin => ?_)
  unfold P_Rm_halve at hr
  show GG x 0 0 h 0 [(0, .ref p0)] []
  refine g_iconst (v := 0) C d_Rm_halve_0 (by decide) ?_
  refine g_istore_n (lv' := [(1, .int 0), (0, .ref p0)]) C d_Rm_halve_1 rfl (by decide) rfl ?_
  refine g_lv [1, 0] rfl ?_
  exact lp_Rm_halve_2 C T hl0 FU h p0 0 hr
abbrev b_Rm_one : ByteArray := prog_12_method_17_code
abbrev y_Rm_one : MethodName := ⟨"PrimeKeysModel", "one", "([J)Z"⟩
theorem d_Rm_one_0 : decode b_Rm_one 0 = .ok (.aload_n 0, 1) := by decide +kernel
theorem d_Rm_one_1 : decode b_Rm_one 1 = .ok (.iconst 0, 1) := by decide +kernel
theorem d_Rm_one_2 : decode b_Rm_one 2 = .ok (.laload, 1) := by decide +kernel
theorem d_Rm_one_3 : decode b_Rm_one 3 = .ok (.lconst 1, 1) := by decide +kernel
theorem d_Rm_one_4 : decode b_Rm_one 4 = .ok (.lcmp, 1) := by decide +kernel
theorem d_Rm_one_5 : decode b_Rm_one 5 = .ok (.ifCond .eq 5, 3) := by decide +kernel
theorem d_Rm_one_8 : decode b_Rm_one 8 = .ok (.iconst 0, 1) := by decide +kernel
theorem d_Rm_one_9 : decode b_Rm_one 9 = .ok (.ireturn, 1) := by decide +kernel
theorem d_Rm_one_10 : decode b_Rm_one 10 = .ok (.iconst 1, 1) := by decide +kernel
theorem d_Rm_one_11 : decode b_Rm_one 11 = .ok (.istore_n 1, 1) := by decide +kernel
theorem d_Rm_one_12 : decode b_Rm_one 12 = .ok (.iload_n 1, 1) := by decide +kernel
theorem d_Rm_one_13 : decode b_Rm_one 13 = .ok (.bipush 16, 2) := by decide +kernel
theorem d_Rm_one_15 : decode b_Rm_one 15 = .ok (.if_icmp .ge 19, 3) := by decide +kernel
theorem d_Rm_one_18 : decode b_Rm_one 18 = .ok (.aload_n 0, 1) := by decide +kernel
theorem d_Rm_one_19 : decode b_Rm_one 19 = .ok (.iload_n 1, 1) := by decide +kernel
theorem d_Rm_one_20 : decode b_Rm_one 20 = .ok (.laload, 1) := by decide +kernel
theorem d_Rm_one_21 : decode b_Rm_one 21 = .ok (.lconst 0, 1) := by decide +kernel
theorem d_Rm_one_22 : decode b_Rm_one 22 = .ok (.lcmp, 1) := by decide +kernel
theorem d_Rm_one_23 : decode b_Rm_one 23 = .ok (.ifCond .eq 5, 3) := by decide +kernel
theorem d_Rm_one_26 : decode b_Rm_one 26 = .ok (.iconst 0, 1) := by decide +kernel
theorem d_Rm_one_27 : decode b_Rm_one 27 = .ok (.ireturn, 1) := by decide +kernel
theorem d_Rm_one_28 : decode b_Rm_one 28 = .ok (.iinc 1 1, 3) := by decide +kernel
theorem d_Rm_one_31 : decode b_Rm_one 31 = .ok (.goto (-19), 3) := by decide +kernel
theorem d_Rm_one_34 : decode b_Rm_one 34 = .ok (.iconst 1, 1) := by decide +kernel
theorem d_Rm_one_35 : decode b_Rm_one 35 = .ok (.ireturn, 1) := by decide +kernel
abbrev rm_Rm_one : Room := { frames := 0, cells := 0, slots := 0, locals := 0 }
def B_Rm_one_12 (K12 : HP → Nat → Int32 → Option (Int32 × HP)) (h : HP) (a0 : Nat) (a1 : Int32) : Option (Int32 × HP) :=
  if 16 ≤ a1 then
  some (1, h)
  else
  bnd (ldJ h a0 a1) fun v2 =>
  if lg_cmp v2 0 = 0 then
  lt (a1 + Int32.ofInt 1) fun x3 =>
  K12 h a0 x3
  else
  some (0, h)
set_option maxHeartbeats 4000000 in
set_option maxRecDepth 100000 in
theorem bk_Rm_one_12 {l : Launch} {x : CX} {h0 h' : HP} {r' : Int32} (C : EV x b_Rm_one "PrimeKeysModel" 2 rm_Rm_one) (T : CT x (some .boolean) rm_Rm_one h0 (some (.int r')) h') (hl0 : x.1.2.1 = l) (K12 : HP → Nat → Int32 → Option (Int32 × HP)) (hK12 : ∀ (h : HP) (a0 : Nat) (a1 : Int32), K12 h a0 a1 = some (r', h') → GG x 0 0 h 12 [(0, .ref a0), (1, .int a1)] []) (h : HP) (a0 : Nat) (a1 : Int32) (hr : B_Rm_one_12 K12 h a0 a1 = some (r', h')) : GG x 0 0 h 12 [(0, .ref a0), (1, .int a1)] [] := by
  unfold B_Rm_one_12 at hr
  refine g_iload_n C 1 rfl d_Rm_one_12 rfl ?_
  refine g_bipush (v := 16) C d_Rm_one_13 (by decide) ?_
  refine g_icmp_ge (tgt := 34) C d_Rm_one_15 (by decide) (fun z => ?_) (fun z => ?_)
  · have hr := of_if z hr
    refine g_iconst (v := 1) C d_Rm_one_34 (by decide) ?_
    cases hr
    exact g_ireturn C T rfl (by decide) (by decide) d_Rm_one_35
  · have hr := of_el z hr
    refine g_aload_n C 0 rfl d_Rm_one_18 rfl ?_
    refine g_iload_n C 1 rfl d_Rm_one_19 rfl ?_
    obtain ⟨v2, ev2, hr⟩ := of_bnd hr
    refine g_laload C ev2 d_Rm_one_20 ?_
    refine g_lconst (v := 0) C d_Rm_one_21 (by decide) ?_
    refine g_lcmp C d_Rm_one_22 ?_
    refine g_if_eq (tgt := 28) C d_Rm_one_23 (by decide) (fun z => ?_) (fun z => ?_)
    · have hr := of_if z hr
      obtain ⟨x3, ex3⟩ : ∃ z, z = a1 + Int32.ofInt 1 := ⟨_, rfl⟩
      have hr := of_lt ex3 hr
      refine g_iinc (lv' := [(1, .int x3), (0, .ref a0)]) C 1 rfl d_Rm_one_28 ex3.symm (by decide) rfl ?_
      refine g_goto (tgt := 12) C d_Rm_one_31 (by decide) ?_
      refine g_lv [1, 0] rfl ?_
      exact hK12 h a0 x3 hr
    · have hr := of_el z hr
      refine g_iconst (v := 0) C d_Rm_one_26 (by decide) ?_
      cases hr
      exact g_ireturn C T rfl (by decide) (by decide) d_Rm_one_27
def L_Rm_one_12 : Nat → HP → Nat → Int32 → Option (Int32 × HP)
  | 0, _, _, _ => none
  | f + 1, h, a0, a1 => B_Rm_one_12 (L_Rm_one_12 f) h a0 a1
theorem lp_Rm_one_12 {l : Launch} {x : CX} {h0 h' : HP} {r' : Int32} (C : EV x b_Rm_one "PrimeKeysModel" 2 rm_Rm_one) (T : CT x (some .boolean) rm_Rm_one h0 (some (.int r')) h') (hl0 : x.1.2.1 = l) : ∀ (f : Nat) (h : HP) (a0 : Nat) (a1 : Int32), L_Rm_one_12 f h a0 a1 = some (r', h') → GG x 0 0 h 12 [(0, .ref a0), (1, .int a1)] [] := by
  intro f
  induction f with
  | zero => intro h a0 a1 hr; have hr : (none : Option (Int32 × HP)) = some (r', h') := hr; cases hr
  | succ f ih => intro h a0 a1 hr; exact bk_Rm_one_12 C T hl0 (L_Rm_one_12 f) ih h a0 a1 hr
def P_Rm_one (h : HP) (p0 : Nat) : Option (Int32 × HP) :=
  bnd (ldJ h p0 0) fun v1 =>
  if lg_cmp v1 1 = 0 then
  L_Rm_one_12 FU h p0 1
  else
  some (0, h)
set_option maxHeartbeats 4000000 in
set_option maxRecDepth 100000 in
theorem c_Rm_one {l : Launch} {h h' : HP} {p0 : _} {r' : Int32} (hr : P_Rm_one h p0 = some (r', h')) : MP l y_Rm_one (Cond.code y_Rm_one b_Rm_one 2 (some .boolean) :: TB) rm_Rm_one h [.ref p0] (some (.int r')) h' := by
  refine MP_intro (cc := b_Rm_one) (by decide) (Nat.le_of_ble_eq_true rfl) (fun x hl0 C T hin => ?_)
  unfold P_Rm_one at hr
  show GG x 0 0 h 0 [(0, .ref p0)] []
  refine g_aload_n C 0 rfl d_Rm_one_0 rfl ?_
  refine g_iconst (v := 0) C d_Rm_one_1 (by decide) ?_
  obtain ⟨v1, ev1, hr⟩ := of_bnd hr
  refine g_laload C ev1 d_Rm_one_2 ?_
  refine g_lconst (v := 1) C d_Rm_one_3 (by decide) ?_
  refine g_lcmp C d_Rm_one_4 ?_
  refine g_if_eq (tgt := 10) C d_Rm_one_5 (by decide) (fun z => ?_) (fun z => ?_)
  · have hr := of_if z hr
    refine g_iconst (v := 1) C d_Rm_one_10 (by decide) ?_
    refine g_istore_n (lv' := [(1, .int 1), (0, .ref p0)]) C d_Rm_one_11 rfl (by decide) rfl ?_
    refine g_lv [1, 0] rfl ?_
    exact lp_Rm_one_12 C T hl0 FU h p0 1 hr
  · have hr := of_el z hr
    refine g_iconst (v := 0) C d_Rm_one_8 (by decide) ?_
    cases hr
    exact g_ireturn C T rfl (by decide) (by decide) d_Rm_one_9
abbrev b_Rm_inverse : ByteArray := prog_12_method_18_code
abbrev y_Rm_inverse : MethodName := ⟨"PrimeKeysModel", "inverse", "([J[J[J)V"⟩
theorem d_Rm_inverse_0 : decode b_Rm_inverse 0 = .ok (.aload_n 0, 1) := by decide +kernel
theorem d_Rm_inverse_1 : decode b_Rm_inverse 1 = .ok (.getfield 224, 3) := by decide +kernel
theorem d_Rm_inverse_4 : decode b_Rm_inverse 4 = .ok (.aload_n 2, 1) := by decide +kernel
theorem d_Rm_inverse_5 : decode b_Rm_inverse 5 = .ok (.invokestatic 286, 3) := by decide +kernel
theorem d_Rm_inverse_8 : decode b_Rm_inverse 8 = .ok (.aload_n 0, 1) := by decide +kernel
theorem d_Rm_inverse_9 : decode b_Rm_inverse 9 = .ok (.getfield 227, 3) := by decide +kernel
theorem d_Rm_inverse_12 : decode b_Rm_inverse 12 = .ok (.aload_n 3, 1) := by decide +kernel
theorem d_Rm_inverse_13 : decode b_Rm_inverse 13 = .ok (.invokestatic 286, 3) := by decide +kernel
theorem d_Rm_inverse_16 : decode b_Rm_inverse 16 = .ok (.aload_n 0, 1) := by decide +kernel
theorem d_Rm_inverse_17 : decode b_Rm_inverse 17 = .ok (.getfield 230, 3) := by decide +kernel
theorem d_Rm_inverse_20 : decode b_Rm_inverse 20 = .ok (.iconst 1, 1) := by decide +kernel
theorem d_Rm_inverse_21 : decode b_Rm_inverse 21 = .ok (.invokestatic 275, 3) := by decide +kernel
theorem d_Rm_inverse_24 : decode b_Rm_inverse 24 = .ok (.aload_n 0, 1) := by decide +kernel
theorem d_Rm_inverse_25 : decode b_Rm_inverse 25 = .ok (.getfield 233, 3) := by decide +kernel
theorem d_Rm_inverse_28 : decode b_Rm_inverse 28 = .ok (.iconst 0, 1) := by decide +kernel
theorem d_Rm_inverse_29 : decode b_Rm_inverse 29 = .ok (.invokestatic 275, 3) := by decide +kernel
theorem d_Rm_inverse_32 : decode b_Rm_inverse 32 = .ok (.aload_n 0, 1) := by decide +kernel
theorem d_Rm_inverse_33 : decode b_Rm_inverse 33 = .ok (.getfield 230, 3) := by decide +kernel
theorem d_Rm_inverse_36 : decode b_Rm_inverse 36 = .ok (.bipush 16, 2) := by decide +kernel
theorem d_Rm_inverse_38 : decode b_Rm_inverse 38 = .ok (.lconst 0, 1) := by decide +kernel
theorem d_Rm_inverse_39 : decode b_Rm_inverse 39 = .ok (.lastore, 1) := by decide +kernel
theorem d_Rm_inverse_40 : decode b_Rm_inverse 40 = .ok (.aload_n 0, 1) := by decide +kernel
theorem d_Rm_inverse_41 : decode b_Rm_inverse 41 = .ok (.getfield 233, 3) := by decide +kernel
theorem d_Rm_inverse_44 : decode b_Rm_inverse 44 = .ok (.bipush 16, 2) := by decide +kernel
theorem d_Rm_inverse_46 : decode b_Rm_inverse 46 = .ok (.lconst 0, 1) := by decide +kernel
theorem d_Rm_inverse_47 : decode b_Rm_inverse 47 = .ok (.lastore, 1) := by decide +kernel
theorem d_Rm_inverse_48 : decode b_Rm_inverse 48 = .ok (.iconst 0, 1) := by decide +kernel
theorem d_Rm_inverse_49 : decode b_Rm_inverse 49 = .ok (.istore 4, 2) := by decide +kernel
theorem d_Rm_inverse_51 : decode b_Rm_inverse 51 = .ok (.iload 4, 2) := by decide +kernel
theorem d_Rm_inverse_53 : decode b_Rm_inverse 53 = .ok (.sipush 1100, 3) := by decide +kernel
theorem d_Rm_inverse_56 : decode b_Rm_inverse 56 = .ok (.if_icmp .ge 177, 3) := by decide +kernel
theorem d_Rm_inverse_59 : decode b_Rm_inverse 59 = .ok (.aload_n 2, 1) := by decide +kernel
theorem d_Rm_inverse_60 : decode b_Rm_inverse 60 = .ok (.invokestatic 290, 3) := by decide +kernel
theorem d_Rm_inverse_63 : decode b_Rm_inverse 63 = .ok (.ifCond .ne 170, 3) := by decide +kernel
theorem d_Rm_inverse_66 : decode b_Rm_inverse 66 = .ok (.aload_n 0, 1) := by decide +kernel
theorem d_Rm_inverse_67 : decode b_Rm_inverse 67 = .ok (.getfield 224, 3) := by decide +kernel
theorem d_Rm_inverse_70 : decode b_Rm_inverse 70 = .ok (.invokestatic 294, 3) := by decide +kernel
theorem d_Rm_inverse_73 : decode b_Rm_inverse 73 = .ok (.ifCond .ne 160, 3) := by decide +kernel
theorem d_Rm_inverse_76 : decode b_Rm_inverse 76 = .ok (.aload_n 0, 1) := by decide +kernel
theorem d_Rm_inverse_77 : decode b_Rm_inverse 77 = .ok (.getfield 227, 3) := by decide +kernel
theorem d_Rm_inverse_80 : decode b_Rm_inverse 80 = .ok (.invokestatic 294, 3) := by decide +kernel
theorem d_Rm_inverse_83 : decode b_Rm_inverse 83 = .ok (.ifCond .ne 150, 3) := by decide +kernel
theorem d_Rm_inverse_86 : decode b_Rm_inverse 86 = .ok (.aload_n 0, 1) := by decide +kernel
theorem d_Rm_inverse_87 : decode b_Rm_inverse 87 = .ok (.getfield 224, 3) := by decide +kernel
theorem d_Rm_inverse_90 : decode b_Rm_inverse 90 = .ok (.iconst 0, 1) := by decide +kernel
theorem d_Rm_inverse_91 : decode b_Rm_inverse 91 = .ok (.laload, 1) := by decide +kernel
theorem d_Rm_inverse_92 : decode b_Rm_inverse 92 = .ok (.lconst 1, 1) := by decide +kernel
theorem d_Rm_inverse_93 : decode b_Rm_inverse 93 = .ok (.land, 1) := by decide +kernel
theorem d_Rm_inverse_94 : decode b_Rm_inverse 94 = .ok (.lconst 0, 1) := by decide +kernel
theorem d_Rm_inverse_95 : decode b_Rm_inverse 95 = .ok (.lcmp, 1) := by decide +kernel
theorem d_Rm_inverse_96 : decode b_Rm_inverse 96 = .ok (.ifCond .ne 21, 3) := by decide +kernel
theorem d_Rm_inverse_99 : decode b_Rm_inverse 99 = .ok (.aload_n 0, 1) := by decide +kernel
theorem d_Rm_inverse_100 : decode b_Rm_inverse 100 = .ok (.getfield 224, 3) := by decide +kernel
theorem d_Rm_inverse_103 : decode b_Rm_inverse 103 = .ok (.invokestatic 297, 3) := by decide +kernel
theorem d_Rm_inverse_106 : decode b_Rm_inverse 106 = .ok (.aload_n 0, 1) := by decide +kernel
theorem d_Rm_inverse_107 : decode b_Rm_inverse 107 = .ok (.getfield 230, 3) := by decide +kernel
theorem d_Rm_inverse_110 : decode b_Rm_inverse 110 = .ok (.aload_n 3, 1) := by decide +kernel
theorem d_Rm_inverse_111 : decode b_Rm_inverse 111 = .ok (.invokestatic 301, 3) := by decide +kernel
theorem d_Rm_inverse_114 : decode b_Rm_inverse 114 = .ok (.goto 113, 3) := by decide +kernel
theorem d_Rm_inverse_117 : decode b_Rm_inverse 117 = .ok (.aload_n 0, 1) := by decide +kernel
theorem d_Rm_inverse_118 : decode b_Rm_inverse 118 = .ok (.getfield 227, 3) := by decide +kernel
theorem d_Rm_inverse_121 : decode b_Rm_inverse 121 = .ok (.iconst 0, 1) := by decide +kernel
theorem d_Rm_inverse_122 : decode b_Rm_inverse 122 = .ok (.laload, 1) := by decide +kernel
theorem d_Rm_inverse_123 : decode b_Rm_inverse 123 = .ok (.lconst 1, 1) := by decide +kernel
theorem d_Rm_inverse_124 : decode b_Rm_inverse 124 = .ok (.land, 1) := by decide +kernel
theorem d_Rm_inverse_125 : decode b_Rm_inverse 125 = .ok (.lconst 0, 1) := by decide +kernel
theorem d_Rm_inverse_126 : decode b_Rm_inverse 126 = .ok (.lcmp, 1) := by decide +kernel
theorem d_Rm_inverse_127 : decode b_Rm_inverse 127 = .ok (.ifCond .ne 21, 3) := by decide +kernel
theorem d_Rm_inverse_130 : decode b_Rm_inverse 130 = .ok (.aload_n 0, 1) := by decide +kernel
theorem d_Rm_inverse_131 : decode b_Rm_inverse 131 = .ok (.getfield 227, 3) := by decide +kernel
theorem d_Rm_inverse_134 : decode b_Rm_inverse 134 = .ok (.invokestatic 297, 3) := by decide +kernel
theorem d_Rm_inverse_137 : decode b_Rm_inverse 137 = .ok (.aload_n 0, 1) := by decide +kernel
theorem d_Rm_inverse_138 : decode b_Rm_inverse 138 = .ok (.getfield 233, 3) := by decide +kernel
theorem d_Rm_inverse_141 : decode b_Rm_inverse 141 = .ok (.aload_n 3, 1) := by decide +kernel
theorem d_Rm_inverse_142 : decode b_Rm_inverse 142 = .ok (.invokestatic 301, 3) := by decide +kernel
theorem d_Rm_inverse_145 : decode b_Rm_inverse 145 = .ok (.goto 82, 3) := by decide +kernel
theorem d_Rm_inverse_148 : decode b_Rm_inverse 148 = .ok (.aload_n 0, 1) := by decide +kernel
theorem d_Rm_inverse_149 : decode b_Rm_inverse 149 = .ok (.getfield 224, 3) := by decide +kernel
theorem d_Rm_inverse_152 : decode b_Rm_inverse 152 = .ok (.aload_n 0, 1) := by decide +kernel
theorem d_Rm_inverse_153 : decode b_Rm_inverse 153 = .ok (.getfield 227, 3) := by decide +kernel
theorem d_Rm_inverse_156 : decode b_Rm_inverse 156 = .ok (.invokestatic 268, 3) := by decide +kernel
theorem d_Rm_inverse_159 : decode b_Rm_inverse 159 = .ok (.ifCond .eq 37, 3) := by decide +kernel
theorem d_Rm_inverse_162 : decode b_Rm_inverse 162 = .ok (.aload_n 0, 1) := by decide +kernel
theorem d_Rm_inverse_163 : decode b_Rm_inverse 163 = .ok (.getfield 227, 3) := by decide +kernel
theorem d_Rm_inverse_166 : decode b_Rm_inverse 166 = .ok (.aload_n 0, 1) := by decide +kernel
theorem d_Rm_inverse_167 : decode b_Rm_inverse 167 = .ok (.getfield 227, 3) := by decide +kernel
theorem d_Rm_inverse_170 : decode b_Rm_inverse 170 = .ok (.aload_n 0, 1) := by decide +kernel
theorem d_Rm_inverse_171 : decode b_Rm_inverse 171 = .ok (.getfield 224, 3) := by decide +kernel
theorem d_Rm_inverse_174 : decode b_Rm_inverse 174 = .ok (.invokestatic 272, 3) := by decide +kernel
theorem d_Rm_inverse_177 : decode b_Rm_inverse 177 = .ok (.aload_n 0, 1) := by decide +kernel
theorem d_Rm_inverse_178 : decode b_Rm_inverse 178 = .ok (.getfield 233, 3) := by decide +kernel
theorem d_Rm_inverse_181 : decode b_Rm_inverse 181 = .ok (.aload_n 0, 1) := by decide +kernel
theorem d_Rm_inverse_182 : decode b_Rm_inverse 182 = .ok (.getfield 233, 3) := by decide +kernel
theorem d_Rm_inverse_185 : decode b_Rm_inverse 185 = .ok (.aload_n 0, 1) := by decide +kernel
theorem d_Rm_inverse_186 : decode b_Rm_inverse 186 = .ok (.getfield 230, 3) := by decide +kernel
theorem d_Rm_inverse_189 : decode b_Rm_inverse 189 = .ok (.aload_n 3, 1) := by decide +kernel
theorem d_Rm_inverse_190 : decode b_Rm_inverse 190 = .ok (.invokestatic 304, 3) := by decide +kernel
theorem d_Rm_inverse_193 : decode b_Rm_inverse 193 = .ok (.goto 34, 3) := by decide +kernel
theorem d_Rm_inverse_196 : decode b_Rm_inverse 196 = .ok (.aload_n 0, 1) := by decide +kernel
theorem d_Rm_inverse_197 : decode b_Rm_inverse 197 = .ok (.getfield 224, 3) := by decide +kernel
theorem d_Rm_inverse_200 : decode b_Rm_inverse 200 = .ok (.aload_n 0, 1) := by decide +kernel
theorem d_Rm_inverse_201 : decode b_Rm_inverse 201 = .ok (.getfield 224, 3) := by decide +kernel
theorem d_Rm_inverse_204 : decode b_Rm_inverse 204 = .ok (.aload_n 0, 1) := by decide +kernel
theorem d_Rm_inverse_205 : decode b_Rm_inverse 205 = .ok (.getfield 227, 3) := by decide +kernel
theorem d_Rm_inverse_208 : decode b_Rm_inverse 208 = .ok (.invokestatic 272, 3) := by decide +kernel
theorem d_Rm_inverse_211 : decode b_Rm_inverse 211 = .ok (.aload_n 0, 1) := by decide +kernel
theorem d_Rm_inverse_212 : decode b_Rm_inverse 212 = .ok (.getfield 230, 3) := by decide +kernel
theorem d_Rm_inverse_215 : decode b_Rm_inverse 215 = .ok (.aload_n 0, 1) := by decide +kernel
theorem d_Rm_inverse_216 : decode b_Rm_inverse 216 = .ok (.getfield 230, 3) := by decide +kernel
theorem d_Rm_inverse_219 : decode b_Rm_inverse 219 = .ok (.aload_n 0, 1) := by decide +kernel
theorem d_Rm_inverse_220 : decode b_Rm_inverse 220 = .ok (.getfield 233, 3) := by decide +kernel
theorem d_Rm_inverse_223 : decode b_Rm_inverse 223 = .ok (.aload_n 3, 1) := by decide +kernel
theorem d_Rm_inverse_224 : decode b_Rm_inverse 224 = .ok (.invokestatic 304, 3) := by decide +kernel
theorem d_Rm_inverse_227 : decode b_Rm_inverse 227 = .ok (.iinc 4 1, 3) := by decide +kernel
theorem d_Rm_inverse_230 : decode b_Rm_inverse 230 = .ok (.goto (-179), 3) := by decide +kernel
theorem d_Rm_inverse_233 : decode b_Rm_inverse 233 = .ok (.aload_n 2, 1) := by decide +kernel
theorem d_Rm_inverse_234 : decode b_Rm_inverse 234 = .ok (.invokestatic 290, 3) := by decide +kernel
theorem d_Rm_inverse_237 : decode b_Rm_inverse 237 = .ok (.ifCond .eq 11, 3) := by decide +kernel
theorem d_Rm_inverse_240 : decode b_Rm_inverse 240 = .ok (.aload_n 1, 1) := by decide +kernel
theorem d_Rm_inverse_241 : decode b_Rm_inverse 241 = .ok (.iconst 0, 1) := by decide +kernel
theorem d_Rm_inverse_242 : decode b_Rm_inverse 242 = .ok (.invokestatic 275, 3) := by decide +kernel
theorem d_Rm_inverse_245 : decode b_Rm_inverse 245 = .ok (.goto 28, 3) := by decide +kernel
theorem d_Rm_inverse_248 : decode b_Rm_inverse 248 = .ok (.aload_n 1, 1) := by decide +kernel
theorem d_Rm_inverse_249 : decode b_Rm_inverse 249 = .ok (.aload_n 0, 1) := by decide +kernel
theorem d_Rm_inverse_250 : decode b_Rm_inverse 250 = .ok (.getfield 224, 3) := by decide +kernel
theorem d_Rm_inverse_253 : decode b_Rm_inverse 253 = .ok (.invokestatic 294, 3) := by decide +kernel
theorem d_Rm_inverse_256 : decode b_Rm_inverse 256 = .ok (.ifCond .eq 10, 3) := by decide +kernel
theorem d_Rm_inverse_259 : decode b_Rm_inverse 259 = .ok (.aload_n 0, 1) := by decide +kernel
theorem d_Rm_inverse_260 : decode b_Rm_inverse 260 = .ok (.getfield 230, 3) := by decide +kernel
theorem d_Rm_inverse_263 : decode b_Rm_inverse 263 = .ok (.goto 7, 3) := by decide +kernel
theorem d_Rm_inverse_266 : decode b_Rm_inverse 266 = .ok (.aload_n 0, 1) := by decide +kernel
theorem d_Rm_inverse_267 : decode b_Rm_inverse 267 = .ok (.getfield 233, 3) := by decide +kernel
theorem d_Rm_inverse_270 : decode b_Rm_inverse 270 = .ok (.invokestatic 286, 3) := by decide +kernel
theorem d_Rm_inverse_273 : decode b_Rm_inverse 273 = .ok (.return_, 1) := by decide +kernel
theorem fl_Rm_224 : FL "PrimeKeysModel" 224 8 39 := ⟨R_Rm, F_Rm, 50, rfl, u_Rm, by decide, rfl, tb_4 (List.mem_of_getElem? (i := 193) (by decide +kernel)) rfl⟩
theorem fl_Rm_227 : FL "PrimeKeysModel" 227 8 40 := ⟨R_Rm, F_Rm, 50, rfl, u_Rm, by decide, rfl, tb_4 (List.mem_of_getElem? (i := 194) (by decide +kernel)) rfl⟩
theorem fl_Rm_230 : FL "PrimeKeysModel" 230 8 41 := ⟨R_Rm, F_Rm, 50, rfl, u_Rm, by decide, rfl, tb_4 (List.mem_of_getElem? (i := 195) (by decide +kernel)) rfl⟩
theorem fl_Rm_233 : FL "PrimeKeysModel" 233 8 42 := ⟨R_Rm, F_Rm, 50, rfl, u_Rm, by decide, rfl, tb_4 (List.mem_of_getElem? (i := 196) (by decide +kernel)) rfl⟩
theorem cd_Rm_286 : CD "PrimeKeysModel" 286 y_Rm_copy b_Rm_copy 3 none 2 := ⟨tb_5 (List.mem_of_getElem? (i := 106) rfl) rfl, tb_1 (List.mem_of_getElem? (i := 13) (by decide +kernel)) rfl, tb_5 (List.mem_of_getElem? (i := 104) (by decide +kernel)) rfl, by decide +kernel⟩
theorem kw_st_Rm_copy : Cond.static y_Rm_copy ∈ TB := tb_5 (List.mem_of_getElem? (i := 105) (by decide +kernel)) rfl
theorem cd_Rm_294 : CD "PrimeKeysModel" 294 y_Rm_one b_Rm_one 2 (some .boolean) 1 := ⟨tb_5 (List.mem_of_getElem? (i := 135) rfl) rfl, tb_1 (List.mem_of_getElem? (i := 13) (by decide +kernel)) rfl, tb_5 (List.mem_of_getElem? (i := 133) (by decide +kernel)) rfl, by decide +kernel⟩
theorem kw_st_Rm_one : Cond.static y_Rm_one ∈ TB := tb_5 (List.mem_of_getElem? (i := 134) (by decide +kernel)) rfl
theorem cd_Rm_290 : CD "PrimeKeysModel" 290 y_Rm_zero b_Rm_zero 2 (some .boolean) 1 := ⟨tb_5 (List.mem_of_getElem? (i := 91) rfl) rfl, tb_1 (List.mem_of_getElem? (i := 13) (by decide +kernel)) rfl, tb_5 (List.mem_of_getElem? (i := 89) (by decide +kernel)) rfl, by decide +kernel⟩
theorem kw_st_Rm_zero : Cond.static y_Rm_zero ∈ TB := tb_5 (List.mem_of_getElem? (i := 90) (by decide +kernel)) rfl
theorem cd_Rm_304 : CD "PrimeKeysModel" 304 y_Rm_minus b_Rm_minus 9 none 4 := ⟨tb_5 (List.mem_of_getElem? (i := 128) rfl) rfl, tb_1 (List.mem_of_getElem? (i := 13) (by decide +kernel)) rfl, tb_5 (List.mem_of_getElem? (i := 126) (by decide +kernel)) rfl, by decide +kernel⟩
theorem kw_st_Rm_minus : Cond.static y_Rm_minus ∈ TB := tb_5 (List.mem_of_getElem? (i := 127) (by decide +kernel)) rfl
theorem cd_Rm_301 : CD "PrimeKeysModel" 301 y_Rm_half b_Rm_half 5 none 2 := ⟨tb_5 (List.mem_of_getElem? (i := 141) rfl) rfl, tb_1 (List.mem_of_getElem? (i := 13) (by decide +kernel)) rfl, tb_5 (List.mem_of_getElem? (i := 139) (by decide +kernel)) rfl, by decide +kernel⟩
theorem kw_st_Rm_half : Cond.static y_Rm_half ∈ TB := tb_5 (List.mem_of_getElem? (i := 140) (by decide +kernel)) rfl
theorem cd_Rm_297 : CD "PrimeKeysModel" 297 y_Rm_halve b_Rm_halve 2 none 1 := ⟨tb_5 (List.mem_of_getElem? (i := 138) rfl) rfl, tb_1 (List.mem_of_getElem? (i := 13) (by decide +kernel)) rfl, tb_5 (List.mem_of_getElem? (i := 136) (by decide +kernel)) rfl, by decide +kernel⟩
theorem kw_st_Rm_halve : Cond.static y_Rm_halve ∈ TB := tb_5 (List.mem_of_getElem? (i := 137) (by decide +kernel)) rfl
abbrev rm_Rm_inverse : Room := { frames := 1, cells := 0, slots := 0, locals := 28 }
def B_Rm_inverse_273 (K51 : HP → Nat → Nat → Nat → Nat → Int32 → Option (HP)) (h : HP) : Option (HP) :=
  some h
set_option maxHeartbeats 4000000 in
set_option maxRecDepth 100000 in
theorem bk_Rm_inverse_273 {l : Launch} {x : CX} {h0 h' : HP} (C : EV x b_Rm_inverse "PrimeKeysModel" 5 rm_Rm_inverse) (T : CT x (none) rm_Rm_inverse h0 none h') (hl0 : x.1.2.1 = l) (K51 : HP → Nat → Nat → Nat → Nat → Int32 → Option (HP)) (hK51 : ∀ (h : HP) (a0 : Nat) (a1 : Nat) (a2 : Nat) (a3 : Nat) (a4 : Int32), K51 h a0 a1 a2 a3 a4 = some h' → GG x 0 0 h 51 [(0, .ref a0), (1, .ref a1), (2, .ref a2), (3, .ref a3), (4, .int a4)] []) (h : HP) (hr : B_Rm_inverse_273 K51 h = some h') : GG x 0 0 h 273 [] [] := by
  unfold B_Rm_inverse_273 at hr
  cases hr
  exact g_vreturn C T (by decide) (by decide) d_Rm_inverse_273
def B_Rm_inverse_233 (K51 : HP → Nat → Nat → Nat → Nat → Int32 → Option (HP)) (h : HP) (a0 : Nat) (a1 : Nat) (a2 : Nat) : Option (HP) :=
  bnd2 (P_Rm_zero h a2) fun v14 h13 =>
  if v14 = 0 then
  bnd (gR h13 a0 8 39) fun k15 =>
  bnd2 (P_Rm_one h13 k15) fun v17 h16 =>
  if v17 = 0 then
  bnd (gR h16 a0 8 42) fun k18 =>
  bnd (P_Rm_copy h16 a1 k18) fun h19 =>
  B_Rm_inverse_273 K51 h19
  else
  bnd (gR h16 a0 8 41) fun k20 =>
  bnd (P_Rm_copy h16 a1 k20) fun h21 =>
  B_Rm_inverse_273 K51 h21
  else
  bnd (P_Rm_set h13 a1 0) fun h22 =>
  B_Rm_inverse_273 K51 h22
set_option maxHeartbeats 4000000 in
set_option maxRecDepth 100000 in
theorem bk_Rm_inverse_233 {l : Launch} {x : CX} {h0 h' : HP} (C : EV x b_Rm_inverse "PrimeKeysModel" 5 rm_Rm_inverse) (T : CT x (none) rm_Rm_inverse h0 none h') (hl0 : x.1.2.1 = l) (K51 : HP → Nat → Nat → Nat → Nat → Int32 → Option (HP)) (hK51 : ∀ (h : HP) (a0 : Nat) (a1 : Nat) (a2 : Nat) (a3 : Nat) (a4 : Int32), K51 h a0 a1 a2 a3 a4 = some h' → GG x 0 0 h 51 [(0, .ref a0), (1, .ref a1), (2, .ref a2), (3, .ref a3), (4, .int a4)] []) (h : HP) (a0 : Nat) (a1 : Nat) (a2 : Nat) (hr : B_Rm_inverse_233 K51 h a0 a1 a2 = some h') : GG x 0 0 h 233 [(0, .ref a0), (1, .ref a1), (2, .ref a2)] [] := by
  unfold B_Rm_inverse_233 at hr
  refine g_aload_n C 2 rfl d_Rm_inverse_233 rfl ?_
  obtain ⟨v14, h13, eh13, hr⟩ := of_bnd2 hr
  refine g_callS (pa := [.ref a2]) C hl0 (c_Rm_zero eh13) cd_Rm_290 kw_st_Rm_zero (by decide) rfl rfl (Nat.le_of_ble_eq_true rfl) d_Rm_inverse_234 ?_
  refine g_if_eq (tgt := 248) C d_Rm_inverse_237 (by decide) (fun z => ?_) (fun z => ?_)
  · have hr := of_if z hr
    refine g_aload_n C 1 rfl d_Rm_inverse_248 rfl ?_
    refine g_aload_n C 0 rfl d_Rm_inverse_249 rfl ?_
    obtain ⟨k15, ek15, hr⟩ := of_bnd hr
    refine g_getR C fl_Rm_224 ek15 d_Rm_inverse_250 ?_
    obtain ⟨v17, h16, eh16, hr⟩ := of_bnd2 hr
    refine g_callS (pa := [.ref k15]) C hl0 (c_Rm_one eh16) cd_Rm_294 kw_st_Rm_one (by decide) rfl rfl (Nat.le_of_ble_eq_true rfl) d_Rm_inverse_253 ?_
    refine g_if_eq (tgt := 266) C d_Rm_inverse_256 (by decide) (fun z => ?_) (fun z => ?_)
    · have hr := of_if z hr
      refine g_aload_n C 0 rfl d_Rm_inverse_266 rfl ?_
      obtain ⟨k18, ek18, hr⟩ := of_bnd hr
      refine g_getR C fl_Rm_233 ek18 d_Rm_inverse_267 ?_
      obtain ⟨h19, eh19, hr⟩ := of_bnd hr
      refine g_callS (pa := [.ref a1, .ref k18]) C hl0 (c_Rm_copy eh19) cd_Rm_286 kw_st_Rm_copy (by decide) rfl rfl (Nat.le_of_ble_eq_true rfl) d_Rm_inverse_270 ?_
      refine g_lv [] rfl ?_
      exact bk_Rm_inverse_273 C T hl0 K51 hK51 h19 hr
    · have hr := of_el z hr
      refine g_aload_n C 0 rfl d_Rm_inverse_259 rfl ?_
      obtain ⟨k20, ek20, hr⟩ := of_bnd hr
      refine g_getR C fl_Rm_230 ek20 d_Rm_inverse_260 ?_
      refine g_goto (tgt := 270) C d_Rm_inverse_263 (by decide) ?_
      obtain ⟨h21, eh21, hr⟩ := of_bnd hr
      refine g_callS (pa := [.ref a1, .ref k20]) C hl0 (c_Rm_copy eh21) cd_Rm_286 kw_st_Rm_copy (by decide) rfl rfl (Nat.le_of_ble_eq_true rfl) d_Rm_inverse_270 ?_
      refine g_lv [] rfl ?_
      exact bk_Rm_inverse_273 C T hl0 K51 hK51 h21 hr
  · have hr := of_el z hr
    refine g_aload_n C 1 rfl d_Rm_inverse_240 rfl ?_
    refine g_iconst (v := 0) C d_Rm_inverse_241 (by decide) ?_
    obtain ⟨h22, eh22, hr⟩ := of_bnd hr
    refine g_callS (pa := [.ref a1, .int 0]) C hl0 (c_Rm_set eh22) cd_Rm_275 kw_st_Rm_set (by decide) rfl rfl (Nat.le_of_ble_eq_true rfl) d_Rm_inverse_242 ?_
    refine g_goto (tgt := 273) C d_Rm_inverse_245 (by decide) ?_
    refine g_lv [] rfl ?_
    exact bk_Rm_inverse_273 C T hl0 K51 hK51 h22 hr
def B_Rm_inverse_227 (K51 : HP → Nat → Nat → Nat → Nat → Int32 → Option (HP)) (h : HP) (a0 : Nat) (a1 : Nat) (a2 : Nat) (a3 : Nat) (a4 : Int32) : Option (HP) :=
  lt (a4 + Int32.ofInt 1) fun x47 =>
  K51 h a0 a1 a2 a3 x47
set_option maxHeartbeats 4000000 in
set_option maxRecDepth 100000 in
theorem bk_Rm_inverse_227 {l : Launch} {x : CX} {h0 h' : HP} (C : EV x b_Rm_inverse "PrimeKeysModel" 5 rm_Rm_inverse) (T : CT x (none) rm_Rm_inverse h0 none h') (hl0 : x.1.2.1 = l) (K51 : HP → Nat → Nat → Nat → Nat → Int32 → Option (HP)) (hK51 : ∀ (h : HP) (a0 : Nat) (a1 : Nat) (a2 : Nat) (a3 : Nat) (a4 : Int32), K51 h a0 a1 a2 a3 a4 = some h' → GG x 0 0 h 51 [(0, .ref a0), (1, .ref a1), (2, .ref a2), (3, .ref a3), (4, .int a4)] []) (h : HP) (a0 : Nat) (a1 : Nat) (a2 : Nat) (a3 : Nat) (a4 : Int32) (hr : B_Rm_inverse_227 K51 h a0 a1 a2 a3 a4 = some h') : GG x 0 0 h 227 [(0, .ref a0), (1, .ref a1), (2, .ref a2), (3, .ref a3), (4, .int a4)] [] := by
  unfold B_Rm_inverse_227 at hr
  obtain ⟨x47, ex47⟩ : ∃ z, z = a4 + Int32.ofInt 1 := ⟨_, rfl⟩
  have hr := of_lt ex47 hr
  refine g_iinc (lv' := [(4, .int x47), (0, .ref a0), (1, .ref a1), (2, .ref a2), (3, .ref a3)]) C 4 rfl d_Rm_inverse_227 ex47.symm (by decide) rfl ?_
  refine g_goto (tgt := 51) C d_Rm_inverse_230 (by decide) ?_
  refine g_lv [1, 2, 3, 4, 0] rfl ?_
  exact hK51 h a0 a1 a2 a3 x47 hr
def B_Rm_inverse_51 (K51 : HP → Nat → Nat → Nat → Nat → Int32 → Option (HP)) (h : HP) (a0 : Nat) (a1 : Nat) (a2 : Nat) (a3 : Nat) (a4 : Int32) : Option (HP) :=
  if 1100 ≤ a4 then
  B_Rm_inverse_233 K51 h a0 a1 a2
  else
  bnd2 (P_Rm_zero h a2) fun v24 h23 =>
  if v24 = 0 then
  bnd (gR h23 a0 8 39) fun k25 =>
  bnd2 (P_Rm_one h23 k25) fun v27 h26 =>
  if v27 = 0 then
  bnd (gR h26 a0 8 40) fun k28 =>
  bnd2 (P_Rm_one h26 k28) fun v30 h29 =>
  if v30 = 0 then
  bnd (gR h29 a0 8 39) fun k31 =>
  bnd (ldJ h29 k31 0) fun v32 =>
  if lg_cmp (v32 &&& 1) 0 = 0 then
  bnd (gR h29 a0 8 39) fun k60 =>
  bnd (P_Rm_halve h29 k60) fun h61 =>
  bnd (gR h61 a0 8 41) fun k62 =>
  bnd (P_Rm_half h61 k62 a3) fun h63 =>
  B_Rm_inverse_227 K51 h63 a0 a1 a2 a3 a4
  else
  bnd (gR h29 a0 8 40) fun k33 =>
  bnd (ldJ h29 k33 0) fun v34 =>
  if lg_cmp (v34 &&& 1) 0 = 0 then
  bnd (gR h29 a0 8 40) fun k56 =>
  bnd (P_Rm_halve h29 k56) fun h57 =>
  bnd (gR h57 a0 8 42) fun k58 =>
  bnd (P_Rm_half h57 k58 a3) fun h59 =>
  B_Rm_inverse_227 K51 h59 a0 a1 a2 a3 a4
  else
  bnd (gR h29 a0 8 39) fun k35 =>
  bnd (gR h29 a0 8 40) fun k36 =>
  bnd2 (P_Rm_below h29 k35 k36) fun v38 h37 =>
  if v38 = 0 then
  bnd (gR h37 a0 8 39) fun k39 =>
  bnd (gR h37 a0 8 39) fun k40 =>
  bnd (gR h37 a0 8 40) fun k41 =>
  bnd (P_Rm_less h37 k39 k40 k41) fun h42 =>
  bnd (gR h42 a0 8 41) fun k43 =>
  bnd (gR h42 a0 8 41) fun k44 =>
  bnd (gR h42 a0 8 42) fun k45 =>
  bnd (P_Rm_minus h42 k43 k44 k45 a3) fun h46 =>
  B_Rm_inverse_227 K51 h46 a0 a1 a2 a3 a4
  else
  bnd (gR h37 a0 8 40) fun k48 =>
  bnd (gR h37 a0 8 40) fun k49 =>
  bnd (gR h37 a0 8 39) fun k50 =>
  bnd (P_Rm_less h37 k48 k49 k50) fun h51 =>
  bnd (gR h51 a0 8 42) fun k52 =>
  bnd (gR h51 a0 8 42) fun k53 =>
  bnd (gR h51 a0 8 41) fun k54 =>
  bnd (P_Rm_minus h51 k52 k53 k54 a3) fun h55 =>
  B_Rm_inverse_227 K51 h55 a0 a1 a2 a3 a4
  else
  B_Rm_inverse_233 K51 h29 a0 a1 a2
  else
  B_Rm_inverse_233 K51 h26 a0 a1 a2
  else
  B_Rm_inverse_233 K51 h23 a0 a1 a2
set_option maxHeartbeats 4000000 in
set_option maxRecDepth 100000 in
theorem bk_Rm_inverse_51 {l : Launch} {x : CX} {h0 h' : HP} (C : EV x b_Rm_inverse "PrimeKeysModel" 5 rm_Rm_inverse) (T : CT x (none) rm_Rm_inverse h0 none h') (hl0 : x.1.2.1 = l) (K51 : HP → Nat → Nat → Nat → Nat → Int32 → Option (HP)) (hK51 : ∀ (h : HP) (a0 : Nat) (a1 : Nat) (a2 : Nat) (a3 : Nat) (a4 : Int32), K51 h a0 a1 a2 a3 a4 = some h' → GG x 0 0 h 51 [(0, .ref a0), (1, .ref a1), (2, .ref a2), (3, .ref a3), (4, .int a4)] []) (h : HP) (a0 : Nat) (a1 : Nat) (a2 : Nat) (a3 : Nat) (a4 : Int32) (hr : B_Rm_inverse_51 K51 h a0 a1 a2 a3 a4 = some h') : GG x 0 0 h 51 [(0, .ref a0), (1, .ref a1), (2, .ref a2), (3, .ref a3), (4, .int a4)] [] := by
  unfold B_Rm_inverse_51 at hr
  refine g_iload C 4 rfl d_Rm_inverse_51 ?_
  refine g_sipush (v := 1100) C d_Rm_inverse_53 (by decide) ?_
  refine g_icmp_ge (tgt := 233) C d_Rm_inverse_56 (by decide) (fun z => ?_) (fun z => ?_)
  · have hr := of_if z hr
    refine g_lv [0, 1, 2] rfl ?_
    exact bk_Rm_inverse_233 C T hl0 K51 hK51 h a0 a1 a2 hr
  · have hr := of_el z hr
    refine g_aload_n C 2 rfl d_Rm_inverse_59 rfl ?_
    obtain ⟨v24, h23, eh23, hr⟩ := of_bnd2 hr
    refine g_callS (pa := [.ref a2]) C hl0 (c_Rm_zero eh23) cd_Rm_290 kw_st_Rm_zero (by decide) rfl rfl (Nat.le_of_ble_eq_true rfl) d_Rm_inverse_60 ?_
    refine g_if_ne (tgt := 233) C d_Rm_inverse_63 (by decide) (fun z => ?_) (fun z => ?_)
    · have hr := of_el z hr
      refine g_lv [0, 1, 2] rfl ?_
      exact bk_Rm_inverse_233 C T hl0 K51 hK51 h23 a0 a1 a2 hr
    · have hr := of_if z hr
      refine g_aload_n C 0 rfl d_Rm_inverse_66 rfl ?_
      obtain ⟨k25, ek25, hr⟩ := of_bnd hr
      refine g_getR C fl_Rm_224 ek25 d_Rm_inverse_67 ?_
      obtain ⟨v27, h26, eh26, hr⟩ := of_bnd2 hr
      refine g_callS (pa := [.ref k25]) C hl0 (c_Rm_one eh26) cd_Rm_294 kw_st_Rm_one (by decide) rfl rfl (Nat.le_of_ble_eq_true rfl) d_Rm_inverse_70 ?_
      refine g_if_ne (tgt := 233) C d_Rm_inverse_73 (by decide) (fun z => ?_) (fun z => ?_)
      · have hr := of_el z hr
        refine g_lv [0, 1, 2] rfl ?_
        exact bk_Rm_inverse_233 C T hl0 K51 hK51 h26 a0 a1 a2 hr
      · have hr := of_if z hr
        refine g_aload_n C 0 rfl d_Rm_inverse_76 rfl ?_
        obtain ⟨k28, ek28, hr⟩ := of_bnd hr
        refine g_getR C fl_Rm_227 ek28 d_Rm_inverse_77 ?_
        obtain ⟨v30, h29, eh29, hr⟩ := of_bnd2 hr
        refine g_callS (pa := [.ref k28]) C hl0 (c_Rm_one eh29) cd_Rm_294 kw_st_Rm_one (by decide) rfl rfl (Nat.le_of_ble_eq_true rfl) d_Rm_inverse_80 ?_
        refine g_if_ne (tgt := 233) C d_Rm_inverse_83 (by decide) (fun z => ?_) (fun z => ?_)
        · have hr := of_el z hr
          refine g_lv [0, 1, 2] rfl ?_
          exact bk_Rm_inverse_233 C T hl0 K51 hK51 h29 a0 a1 a2 hr
        · have hr := of_if z hr
          refine g_aload_n C 0 rfl d_Rm_inverse_86 rfl ?_
          obtain ⟨k31, ek31, hr⟩ := of_bnd hr
          refine g_getR C fl_Rm_224 ek31 d_Rm_inverse_87 ?_
          refine g_iconst (v := 0) C d_Rm_inverse_90 (by decide) ?_
          obtain ⟨v32, ev32, hr⟩ := of_bnd hr
          refine g_laload C ev32 d_Rm_inverse_91 ?_
          refine g_lconst (v := 1) C d_Rm_inverse_92 (by decide) ?_
          refine g_land C d_Rm_inverse_93 ?_
          refine g_lconst (v := 0) C d_Rm_inverse_94 (by decide) ?_
          refine g_lcmp C d_Rm_inverse_95 ?_
          refine g_if_ne (tgt := 117) C d_Rm_inverse_96 (by decide) (fun z => ?_) (fun z => ?_)
          · have hr := of_el z hr
            refine g_aload_n C 0 rfl d_Rm_inverse_117 rfl ?_
            obtain ⟨k33, ek33, hr⟩ := of_bnd hr
            refine g_getR C fl_Rm_227 ek33 d_Rm_inverse_118 ?_
            refine g_iconst (v := 0) C d_Rm_inverse_121 (by decide) ?_
            obtain ⟨v34, ev34, hr⟩ := of_bnd hr
            refine g_laload C ev34 d_Rm_inverse_122 ?_
            refine g_lconst (v := 1) C d_Rm_inverse_123 (by decide) ?_
            refine g_land C d_Rm_inverse_124 ?_
            refine g_lconst (v := 0) C d_Rm_inverse_125 (by decide) ?_
            refine g_lcmp C d_Rm_inverse_126 ?_
            refine g_if_ne (tgt := 148) C d_Rm_inverse_127 (by decide) (fun z => ?_) (fun z => ?_)
            · have hr := of_el z hr
              refine g_aload_n C 0 rfl d_Rm_inverse_148 rfl ?_
              obtain ⟨k35, ek35, hr⟩ := of_bnd hr
              refine g_getR C fl_Rm_224 ek35 d_Rm_inverse_149 ?_
              refine g_aload_n C 0 rfl d_Rm_inverse_152 rfl ?_
              obtain ⟨k36, ek36, hr⟩ := of_bnd hr
              refine g_getR C fl_Rm_227 ek36 d_Rm_inverse_153 ?_
              obtain ⟨v38, h37, eh37, hr⟩ := of_bnd2 hr
              refine g_callS (pa := [.ref k35, .ref k36]) C hl0 (c_Rm_below eh37) cd_Rm_268 kw_st_Rm_below (by decide) rfl rfl (Nat.le_of_ble_eq_true rfl) d_Rm_inverse_156 ?_
              refine g_if_eq (tgt := 196) C d_Rm_inverse_159 (by decide) (fun z => ?_) (fun z => ?_)
              · have hr := of_if z hr
                refine g_aload_n C 0 rfl d_Rm_inverse_196 rfl ?_
                obtain ⟨k39, ek39, hr⟩ := of_bnd hr
                refine g_getR C fl_Rm_224 ek39 d_Rm_inverse_197 ?_
                refine g_aload_n C 0 rfl d_Rm_inverse_200 rfl ?_
                obtain ⟨k40, ek40, hr⟩ := of_bnd hr
                refine g_getR C fl_Rm_224 ek40 d_Rm_inverse_201 ?_
                refine g_aload_n C 0 rfl d_Rm_inverse_204 rfl ?_
                obtain ⟨k41, ek41, hr⟩ := of_bnd hr
                refine g_getR C fl_Rm_227 ek41 d_Rm_inverse_205 ?_
                obtain ⟨h42, eh42, hr⟩ := of_bnd hr
                refine g_callS (pa := [.ref k39, .ref k40, .ref k41]) C hl0 (c_Rm_less eh42) cd_Rm_272 kw_st_Rm_less (by decide) rfl rfl (Nat.le_of_ble_eq_true rfl) d_Rm_inverse_208 ?_
                refine g_aload_n C 0 rfl d_Rm_inverse_211 rfl ?_
                obtain ⟨k43, ek43, hr⟩ := of_bnd hr
                refine g_getR C fl_Rm_230 ek43 d_Rm_inverse_212 ?_
                refine g_aload_n C 0 rfl d_Rm_inverse_215 rfl ?_
                obtain ⟨k44, ek44, hr⟩ := of_bnd hr
                refine g_getR C fl_Rm_230 ek44 d_Rm_inverse_216 ?_
                refine g_aload_n C 0 rfl d_Rm_inverse_219 rfl ?_
                obtain ⟨k45, ek45, hr⟩ := of_bnd hr
                refine g_getR C fl_Rm_233 ek45 d_Rm_inverse_220 ?_
                refine g_aload_n C 3 rfl d_Rm_inverse_223 rfl ?_
                obtain ⟨h46, eh46, hr⟩ := of_bnd hr
                refine g_callS (pa := [.ref k43, .ref k44, .ref k45, .ref a3]) C hl0 (c_Rm_minus eh46) cd_Rm_304 kw_st_Rm_minus (by decide) rfl rfl (Nat.le_of_ble_eq_true rfl) d_Rm_inverse_224 ?_
                exact bk_Rm_inverse_227 C T hl0 K51 hK51 h46 a0 a1 a2 a3 a4 hr
              · have hr := of_el z hr
                refine g_aload_n C 0 rfl d_Rm_inverse_162 rfl ?_
                obtain ⟨k48, ek48, hr⟩ := of_bnd hr
                refine g_getR C fl_Rm_227 ek48 d_Rm_inverse_163 ?_
                refine g_aload_n C 0 rfl d_Rm_inverse_166 rfl ?_
                obtain ⟨k49, ek49, hr⟩ := of_bnd hr
                refine g_getR C fl_Rm_227 ek49 d_Rm_inverse_167 ?_
                refine g_aload_n C 0 rfl d_Rm_inverse_170 rfl ?_
                obtain ⟨k50, ek50, hr⟩ := of_bnd hr
                refine g_getR C fl_Rm_224 ek50 d_Rm_inverse_171 ?_
                obtain ⟨h51, eh51, hr⟩ := of_bnd hr
                refine g_callS (pa := [.ref k48, .ref k49, .ref k50]) C hl0 (c_Rm_less eh51) cd_Rm_272 kw_st_Rm_less (by decide) rfl rfl (Nat.le_of_ble_eq_true rfl) d_Rm_inverse_174 ?_
                refine g_aload_n C 0 rfl d_Rm_inverse_177 rfl ?_
                obtain ⟨k52, ek52, hr⟩ := of_bnd hr
                refine g_getR C fl_Rm_233 ek52 d_Rm_inverse_178 ?_
                refine g_aload_n C 0 rfl d_Rm_inverse_181 rfl ?_
                obtain ⟨k53, ek53, hr⟩ := of_bnd hr
                refine g_getR C fl_Rm_233 ek53 d_Rm_inverse_182 ?_
                refine g_aload_n C 0 rfl d_Rm_inverse_185 rfl ?_
                obtain ⟨k54, ek54, hr⟩ := of_bnd hr
                refine g_getR C fl_Rm_230 ek54 d_Rm_inverse_186 ?_
                refine g_aload_n C 3 rfl d_Rm_inverse_189 rfl ?_
                obtain ⟨h55, eh55, hr⟩ := of_bnd hr
                refine g_callS (pa := [.ref k52, .ref k53, .ref k54, .ref a3]) C hl0 (c_Rm_minus eh55) cd_Rm_304 kw_st_Rm_minus (by decide) rfl rfl (Nat.le_of_ble_eq_true rfl) d_Rm_inverse_190 ?_
                refine g_goto (tgt := 227) C d_Rm_inverse_193 (by decide) ?_
                exact bk_Rm_inverse_227 C T hl0 K51 hK51 h55 a0 a1 a2 a3 a4 hr
            · have hr := of_if z hr
              refine g_aload_n C 0 rfl d_Rm_inverse_130 rfl ?_
              obtain ⟨k56, ek56, hr⟩ := of_bnd hr
              refine g_getR C fl_Rm_227 ek56 d_Rm_inverse_131 ?_
              obtain ⟨h57, eh57, hr⟩ := of_bnd hr
              refine g_callS (pa := [.ref k56]) C hl0 (c_Rm_halve eh57) cd_Rm_297 kw_st_Rm_halve (by decide) rfl rfl (Nat.le_of_ble_eq_true rfl) d_Rm_inverse_134 ?_
              refine g_aload_n C 0 rfl d_Rm_inverse_137 rfl ?_
              obtain ⟨k58, ek58, hr⟩ := of_bnd hr
              refine g_getR C fl_Rm_233 ek58 d_Rm_inverse_138 ?_
              refine g_aload_n C 3 rfl d_Rm_inverse_141 rfl ?_
              obtain ⟨h59, eh59, hr⟩ := of_bnd hr
              refine g_callS (pa := [.ref k58, .ref a3]) C hl0 (c_Rm_half eh59) cd_Rm_301 kw_st_Rm_half (by decide) rfl rfl (Nat.le_of_ble_eq_true rfl) d_Rm_inverse_142 ?_
              refine g_goto (tgt := 227) C d_Rm_inverse_145 (by decide) ?_
              exact bk_Rm_inverse_227 C T hl0 K51 hK51 h59 a0 a1 a2 a3 a4 hr
          · have hr := of_if z hr
            refine g_aload_n C 0 rfl d_Rm_inverse_99 rfl ?_
            obtain ⟨k60, ek60, hr⟩ := of_bnd hr
            refine g_getR C fl_Rm_224 ek60 d_Rm_inverse_100 ?_
            obtain ⟨h61, eh61, hr⟩ := of_bnd hr
            refine g_callS (pa := [.ref k60]) C hl0 (c_Rm_halve eh61) cd_Rm_297 kw_st_Rm_halve (by decide) rfl rfl (Nat.le_of_ble_eq_true rfl) d_Rm_inverse_103 ?_
            refine g_aload_n C 0 rfl d_Rm_inverse_106 rfl ?_
            obtain ⟨k62, ek62, hr⟩ := of_bnd hr
            refine g_getR C fl_Rm_230 ek62 d_Rm_inverse_107 ?_
            refine g_aload_n C 3 rfl d_Rm_inverse_110 rfl ?_
            obtain ⟨h63, eh63, hr⟩ := of_bnd hr
            refine g_callS (pa := [.ref k62, .ref a3]) C hl0 (c_Rm_half eh63) cd_Rm_301 kw_st_Rm_half (by decide) rfl rfl (Nat.le_of_ble_eq_true rfl) d_Rm_inverse_111 ?_
            refine g_goto (tgt := 227) C d_Rm_inverse_114 (by decide) ?_
            exact bk_Rm_inverse_227 C T hl0 K51 hK51 h63 a0 a1 a2 a3 a4 hr
def L_Rm_inverse_51 : Nat → HP → Nat → Nat → Nat → Nat → Int32 → Option (HP)
  | 0, _, _, _, _, _, _ => none
  | f + 1, h, a0, a1, a2, a3, a4 => B_Rm_inverse_51 (L_Rm_inverse_51 f) h a0 a1 a2 a3 a4
theorem lp_Rm_inverse_51 {l : Launch} {x : CX} {h0 h' : HP} (C : EV x b_Rm_inverse "PrimeKeysModel" 5 rm_Rm_inverse) (T : CT x (none) rm_Rm_inverse h0 none h') (hl0 : x.1.2.1 = l) : ∀ (f : Nat) (h : HP) (a0 : Nat) (a1 : Nat) (a2 : Nat) (a3 : Nat) (a4 : Int32), L_Rm_inverse_51 f h a0 a1 a2 a3 a4 = some h' → GG x 0 0 h 51 [(0, .ref a0), (1, .ref a1), (2, .ref a2), (3, .ref a3), (4, .int a4)] [] := by
  intro f
  induction f with
  | zero => intro h a0 a1 a2 a3 a4 hr; have hr : (none : Option (HP)) = some h' := hr; cases hr
  | succ f ih => intro h a0 a1 a2 a3 a4 hr; exact bk_Rm_inverse_51 C T hl0 (L_Rm_inverse_51 f) ih h a0 a1 a2 a3 a4 hr
def P_Rm_inverse (h : HP) (p0 : Nat) (p1 : Nat) (p2 : Nat) (p3 : Nat) : Option (HP) :=
  bnd (gR h p0 8 39) fun k1 =>
  bnd (P_Rm_copy h k1 p2) fun h2 =>
  bnd (gR h2 p0 8 40) fun k3 =>
  bnd (P_Rm_copy h2 k3 p3) fun h4 =>
  bnd (gR h4 p0 8 41) fun k5 =>
  bnd (P_Rm_set h4 k5 1) fun h6 =>
  bnd (gR h6 p0 8 42) fun k7 =>
  bnd (P_Rm_set h6 k7 0) fun h8 =>
  bnd (gR h8 p0 8 41) fun k9 =>
  bnd (stJ h8 k9 16 0) fun h10 =>
  bnd (gR h10 p0 8 42) fun k11 =>
  bnd (stJ h10 k11 16 0) fun h12 =>
  L_Rm_inverse_51 FU h12 p0 p1 p2 p3 0
set_option maxHeartbeats 4000000 in
set_option maxRecDepth 100000 in
theorem c_Rm_inverse {l : Launch} {h h' : HP} {p0 p1 p2 p3 : _} (hr : P_Rm_inverse h p0 p1 p2 p3 = some h') : MP l y_Rm_inverse (Cond.code y_Rm_inverse b_Rm_inverse 5 none :: TB) rm_Rm_inverse h [.ref p0, .ref p1, .ref p2, .ref p3] none h' := by
  refine MP_intro (cc := b_Rm_inverse) (by decide) (Nat.le_of_ble_eq_true rfl) (fun x hl0 C T hin => ?_)
  unfold P_Rm_inverse at hr
  show GG x 0 0 h 0 [(0, .ref p0), (1, .ref p1), (2, .ref p2), (3, .ref p3)] []
  refine g_aload_n C 0 rfl d_Rm_inverse_0 rfl ?_
  obtain ⟨k1, ek1, hr⟩ := of_bnd hr
  refine g_getR C fl_Rm_224 ek1 d_Rm_inverse_1 ?_
  refine g_aload_n C 2 rfl d_Rm_inverse_4 rfl ?_
  obtain ⟨h2, eh2, hr⟩ := of_bnd hr
  refine g_callS (pa := [.ref k1, .ref p2]) C hl0 (c_Rm_copy eh2) cd_Rm_286 kw_st_Rm_copy (by decide) rfl rfl (Nat.le_of_ble_eq_true rfl) d_Rm_inverse_5 ?_
  refine g_aload_n C 0 rfl d_Rm_inverse_8 rfl ?_
  obtain ⟨k3, ek3, hr⟩ := of_bnd hr
  refine g_getR C fl_Rm_227 ek3 d_Rm_inverse_9 ?_
  refine g_aload_n C 3 rfl d_Rm_inverse_12 rfl ?_
  obtain ⟨h4, eh4, hr⟩ := of_bnd hr
  refine g_callS (pa := [.ref k3, .ref p3]) C hl0 (c_Rm_copy eh4) cd_Rm_286 kw_st_Rm_copy (by decide) rfl rfl (Nat.le_of_ble_eq_true rfl) d_Rm_inverse_13 ?_
  refine g_aload_n C 0 rfl d_Rm_inverse_16 rfl ?_
  obtain ⟨k5, ek5, hr⟩ := of_bnd hr
  refine g_getR C fl_Rm_230 ek5 d_Rm_inverse_17 ?_
  refine g_iconst (v := 1) C d_Rm_inverse_20 (by decide) ?_
  obtain ⟨h6, eh6, hr⟩ := of_bnd hr
  refine g_callS (pa := [.ref k5, .int 1]) C hl0 (c_Rm_set eh6) cd_Rm_275 kw_st_Rm_set (by decide) rfl rfl (Nat.le_of_ble_eq_true rfl) d_Rm_inverse_21 ?_
  refine g_aload_n C 0 rfl d_Rm_inverse_24 rfl ?_
  obtain ⟨k7, ek7, hr⟩ := of_bnd hr
  refine g_getR C fl_Rm_233 ek7 d_Rm_inverse_25 ?_
  refine g_iconst (v := 0) C d_Rm_inverse_28 (by decide) ?_
  obtain ⟨h8, eh8, hr⟩ := of_bnd hr
  refine g_callS (pa := [.ref k7, .int 0]) C hl0 (c_Rm_set eh8) cd_Rm_275 kw_st_Rm_set (by decide) rfl rfl (Nat.le_of_ble_eq_true rfl) d_Rm_inverse_29 ?_
  refine g_aload_n C 0 rfl d_Rm_inverse_32 rfl ?_
  obtain ⟨k9, ek9, hr⟩ := of_bnd hr
  refine g_getR C fl_Rm_230 ek9 d_Rm_inverse_33 ?_
  refine g_bipush (v := 16) C d_Rm_inverse_36 (by decide) ?_
  refine g_lconst (v := 0) C d_Rm_inverse_38 (by decide) ?_
  obtain ⟨h10, eh10, hr⟩ := of_bnd hr
  refine g_lastore C eh10 d_Rm_inverse_39 ?_
  refine g_aload_n C 0 rfl d_Rm_inverse_40 rfl ?_
  obtain ⟨k11, ek11, hr⟩ := of_bnd hr
  refine g_getR C fl_Rm_233 ek11 d_Rm_inverse_41 ?_
  refine g_bipush (v := 16) C d_Rm_inverse_44 (by decide) ?_
  refine g_lconst (v := 0) C d_Rm_inverse_46 (by decide) ?_
  obtain ⟨h12, eh12, hr⟩ := of_bnd hr
  refine g_lastore C eh12 d_Rm_inverse_47 ?_
  refine g_iconst (v := 0) C d_Rm_inverse_48 (by decide) ?_
  refine g_istore (lv' := [(4, .int 0), (0, .ref p0), (1, .ref p1), (2, .ref p2), (3, .ref p3)]) C d_Rm_inverse_49 (by decide) rfl ?_
  refine g_lv [1, 2, 3, 4, 0] rfl ?_
  exact lp_Rm_inverse_51 C T hl0 FU h12 p0 p1 p2 p3 0 hr
abbrev b_Rm_bit : ByteArray := prog_12_method_19_code
abbrev y_Rm_bit : MethodName := ⟨"PrimeKeysModel", "bit", "([JI)I"⟩
theorem d_Rm_bit_0 : decode b_Rm_bit 0 = .ok (.aload_n 0, 1) := by decide +kernel
theorem d_Rm_bit_1 : decode b_Rm_bit 1 = .ok (.iload_n 1, 1) := by decide +kernel
theorem d_Rm_bit_2 : decode b_Rm_bit 2 = .ok (.iconst 4, 1) := by decide +kernel
theorem d_Rm_bit_3 : decode b_Rm_bit 3 = .ok (.ishr, 1) := by decide +kernel
theorem d_Rm_bit_4 : decode b_Rm_bit 4 = .ok (.laload, 1) := by decide +kernel
theorem d_Rm_bit_5 : decode b_Rm_bit 5 = .ok (.iload_n 1, 1) := by decide +kernel
theorem d_Rm_bit_6 : decode b_Rm_bit 6 = .ok (.bipush 15, 2) := by decide +kernel
theorem d_Rm_bit_8 : decode b_Rm_bit 8 = .ok (.iand, 1) := by decide +kernel
theorem d_Rm_bit_9 : decode b_Rm_bit 9 = .ok (.lshr, 1) := by decide +kernel
theorem d_Rm_bit_10 : decode b_Rm_bit 10 = .ok (.lconst 1, 1) := by decide +kernel
theorem d_Rm_bit_11 : decode b_Rm_bit 11 = .ok (.land, 1) := by decide +kernel
theorem d_Rm_bit_12 : decode b_Rm_bit 12 = .ok (.l2i, 1) := by decide +kernel
theorem d_Rm_bit_13 : decode b_Rm_bit 13 = .ok (.ireturn, 1) := by decide +kernel
abbrev rm_Rm_bit : Room := { frames := 0, cells := 0, slots := 0, locals := 0 }
def P_Rm_bit (h : HP) (p0 : Nat) (p1 : Int32) : Option (Int32 × HP) :=
  bnd (ldJ h p0 (p1 >>> (4 &&& 31))) fun v1 =>
  some (Int64.toInt32 ((v1 >>> (Int32.toInt64 (p1 &&& 15) &&& 63)) &&& 1), h)
set_option maxHeartbeats 4000000 in
set_option maxRecDepth 100000 in
theorem c_Rm_bit {l : Launch} {h h' : HP} {p0 p1 : _} {r' : Int32} (hr : P_Rm_bit h p0 p1 = some (r', h')) : MP l y_Rm_bit (Cond.code y_Rm_bit b_Rm_bit 2 (some .int) :: TB) rm_Rm_bit h [.ref p0, .int p1] (some (.int r')) h' := by
  refine MP_intro (cc := b_Rm_bit) (by decide) (Nat.le_of_ble_eq_true rfl) (fun x hl0 C T hin => ?_)
  unfold P_Rm_bit at hr
  show GG x 0 0 h 0 [(0, .ref p0), (1, .int p1)] []
  refine g_aload_n C 0 rfl d_Rm_bit_0 rfl ?_
  refine g_iload_n C 1 rfl d_Rm_bit_1 rfl ?_
  refine g_iconst (v := 4) C d_Rm_bit_2 (by decide) ?_
  refine g_ishr C d_Rm_bit_3 ?_
  obtain ⟨v1, ev1, hr⟩ := of_bnd hr
  refine g_laload C ev1 d_Rm_bit_4 ?_
  refine g_iload_n C 1 rfl d_Rm_bit_5 rfl ?_
  refine g_bipush (v := 15) C d_Rm_bit_6 (by decide) ?_
  refine g_iand C d_Rm_bit_8 ?_
  refine g_lshr C d_Rm_bit_9 ?_
  refine g_lconst (v := 1) C d_Rm_bit_10 (by decide) ?_
  refine g_land C d_Rm_bit_11 ?_
  refine g_l2i C d_Rm_bit_12 ?_
  cases hr
  exact g_ireturn C T rfl (by decide) (by decide) d_Rm_bit_13
