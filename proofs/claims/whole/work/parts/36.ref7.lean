abbrev b_Rm_get : ByteArray := prog_12_method_50_code
abbrev y_Rm_get : MethodName := ⟨"PrimeKeysModel", "get", "(I)I"⟩
theorem d_Rm_get_0 : decode b_Rm_get 0 = .ok (.iload_n 1, 1) := by decide +kernel
theorem d_Rm_get_1 : decode b_Rm_get 1 = .ok (.iconst 2, 1) := by decide +kernel
theorem d_Rm_get_2 : decode b_Rm_get 2 = .ok (.iadd, 1) := by decide +kernel
theorem d_Rm_get_3 : decode b_Rm_get 3 = .ok (.aload_n 0, 1) := by decide +kernel
theorem d_Rm_get_4 : decode b_Rm_get 4 = .ok (.getfield 389, 3) := by decide +kernel
theorem d_Rm_get_7 : decode b_Rm_get 7 = .ok (.if_icmp .gt 13, 3) := by decide +kernel
theorem d_Rm_get_10 : decode b_Rm_get 10 = .ok (.aload_n 0, 1) := by decide +kernel
theorem d_Rm_get_11 : decode b_Rm_get 11 = .ok (.getfield 8, 3) := by decide +kernel
theorem d_Rm_get_14 : decode b_Rm_get 14 = .ok (.iload_n 1, 1) := by decide +kernel
theorem d_Rm_get_15 : decode b_Rm_get 15 = .ok (.baload, 1) := by decide +kernel
theorem d_Rm_get_16 : decode b_Rm_get 16 = .ok (.iconst 2, 1) := by decide +kernel
theorem d_Rm_get_17 : decode b_Rm_get 17 = .ok (.if_icmp .eq 5, 3) := by decide +kernel
theorem d_Rm_get_20 : decode b_Rm_get 20 = .ok (.iconst (-1), 1) := by decide +kernel
theorem d_Rm_get_21 : decode b_Rm_get 21 = .ok (.ireturn, 1) := by decide +kernel
theorem d_Rm_get_22 : decode b_Rm_get 22 = .ok (.aload_n 0, 1) := by decide +kernel
theorem d_Rm_get_23 : decode b_Rm_get 23 = .ok (.getfield 8, 3) := by decide +kernel
theorem d_Rm_get_26 : decode b_Rm_get 26 = .ok (.iload_n 1, 1) := by decide +kernel
theorem d_Rm_get_27 : decode b_Rm_get 27 = .ok (.iconst 1, 1) := by decide +kernel
theorem d_Rm_get_28 : decode b_Rm_get 28 = .ok (.iadd, 1) := by decide +kernel
theorem d_Rm_get_29 : decode b_Rm_get 29 = .ok (.baload, 1) := by decide +kernel
theorem d_Rm_get_30 : decode b_Rm_get 30 = .ok (.istore_n 2, 1) := by decide +kernel
theorem d_Rm_get_31 : decode b_Rm_get 31 = .ok (.iload_n 2, 1) := by decide +kernel
theorem d_Rm_get_32 : decode b_Rm_get 32 = .ok (.iconst 1, 1) := by decide +kernel
theorem d_Rm_get_33 : decode b_Rm_get 33 = .ok (.if_icmp .lt 32, 3) := by decide +kernel
theorem d_Rm_get_36 : decode b_Rm_get 36 = .ok (.iload_n 2, 1) := by decide +kernel
theorem d_Rm_get_37 : decode b_Rm_get 37 = .ok (.bipush 33, 2) := by decide +kernel
theorem d_Rm_get_39 : decode b_Rm_get 39 = .ok (.if_icmp .gt 26, 3) := by decide +kernel
theorem d_Rm_get_42 : decode b_Rm_get 42 = .ok (.iload_n 1, 1) := by decide +kernel
theorem d_Rm_get_43 : decode b_Rm_get 43 = .ok (.iconst 2, 1) := by decide +kernel
theorem d_Rm_get_44 : decode b_Rm_get 44 = .ok (.iadd, 1) := by decide +kernel
theorem d_Rm_get_45 : decode b_Rm_get 45 = .ok (.iload_n 2, 1) := by decide +kernel
theorem d_Rm_get_46 : decode b_Rm_get 46 = .ok (.iadd, 1) := by decide +kernel
theorem d_Rm_get_47 : decode b_Rm_get 47 = .ok (.aload_n 0, 1) := by decide +kernel
theorem d_Rm_get_48 : decode b_Rm_get 48 = .ok (.getfield 389, 3) := by decide +kernel
theorem d_Rm_get_51 : decode b_Rm_get 51 = .ok (.if_icmp .gt 14, 3) := by decide +kernel
theorem d_Rm_get_54 : decode b_Rm_get 54 = .ok (.aload_n 0, 1) := by decide +kernel
theorem d_Rm_get_55 : decode b_Rm_get 55 = .ok (.getfield 8, 3) := by decide +kernel
theorem d_Rm_get_58 : decode b_Rm_get 58 = .ok (.iload_n 1, 1) := by decide +kernel
theorem d_Rm_get_59 : decode b_Rm_get 59 = .ok (.iconst 2, 1) := by decide +kernel
theorem d_Rm_get_60 : decode b_Rm_get 60 = .ok (.iadd, 1) := by decide +kernel
theorem d_Rm_get_61 : decode b_Rm_get 61 = .ok (.baload, 1) := by decide +kernel
theorem d_Rm_get_62 : decode b_Rm_get 62 = .ok (.ifCond .ge 5, 3) := by decide +kernel
theorem d_Rm_get_65 : decode b_Rm_get 65 = .ok (.iconst (-1), 1) := by decide +kernel
theorem d_Rm_get_66 : decode b_Rm_get 66 = .ok (.ireturn, 1) := by decide +kernel
theorem d_Rm_get_67 : decode b_Rm_get 67 = .ok (.aload_n 0, 1) := by decide +kernel
theorem d_Rm_get_68 : decode b_Rm_get 68 = .ok (.getfield 8, 3) := by decide +kernel
theorem d_Rm_get_71 : decode b_Rm_get 71 = .ok (.iload_n 1, 1) := by decide +kernel
theorem d_Rm_get_72 : decode b_Rm_get 72 = .ok (.iconst 2, 1) := by decide +kernel
theorem d_Rm_get_73 : decode b_Rm_get 73 = .ok (.iadd, 1) := by decide +kernel
theorem d_Rm_get_74 : decode b_Rm_get 74 = .ok (.baload, 1) := by decide +kernel
theorem d_Rm_get_75 : decode b_Rm_get 75 = .ok (.ifCond .ne 21, 3) := by decide +kernel
theorem d_Rm_get_78 : decode b_Rm_get 78 = .ok (.iload_n 2, 1) := by decide +kernel
theorem d_Rm_get_79 : decode b_Rm_get 79 = .ok (.iconst 1, 1) := by decide +kernel
theorem d_Rm_get_80 : decode b_Rm_get 80 = .ok (.if_icmp .le 16, 3) := by decide +kernel
theorem d_Rm_get_83 : decode b_Rm_get 83 = .ok (.aload_n 0, 1) := by decide +kernel
theorem d_Rm_get_84 : decode b_Rm_get 84 = .ok (.getfield 8, 3) := by decide +kernel
theorem d_Rm_get_87 : decode b_Rm_get 87 = .ok (.iload_n 1, 1) := by decide +kernel
theorem d_Rm_get_88 : decode b_Rm_get 88 = .ok (.iconst 3, 1) := by decide +kernel
theorem d_Rm_get_89 : decode b_Rm_get 89 = .ok (.iadd, 1) := by decide +kernel
theorem d_Rm_get_90 : decode b_Rm_get 90 = .ok (.baload, 1) := by decide +kernel
theorem d_Rm_get_91 : decode b_Rm_get 91 = .ok (.ifCond .lt 5, 3) := by decide +kernel
theorem d_Rm_get_94 : decode b_Rm_get 94 = .ok (.iconst (-1), 1) := by decide +kernel
theorem d_Rm_get_95 : decode b_Rm_get 95 = .ok (.ireturn, 1) := by decide +kernel
theorem d_Rm_get_96 : decode b_Rm_get 96 = .ok (.iconst 0, 1) := by decide +kernel
theorem d_Rm_get_97 : decode b_Rm_get 97 = .ok (.istore_n 3, 1) := by decide +kernel
theorem d_Rm_get_98 : decode b_Rm_get 98 = .ok (.iload_n 3, 1) := by decide +kernel
theorem d_Rm_get_99 : decode b_Rm_get 99 = .ok (.bipush 32, 2) := by decide +kernel
theorem d_Rm_get_101 : decode b_Rm_get 101 = .ok (.if_icmp .ge 42, 3) := by decide +kernel
theorem d_Rm_get_104 : decode b_Rm_get 104 = .ok (.aload_n 0, 1) := by decide +kernel
theorem d_Rm_get_105 : decode b_Rm_get 105 = .ok (.getfield 215, 3) := by decide +kernel
theorem d_Rm_get_108 : decode b_Rm_get 108 = .ok (.iload_n 3, 1) := by decide +kernel
theorem d_Rm_get_109 : decode b_Rm_get 109 = .ok (.iload_n 3, 1) := by decide +kernel
theorem d_Rm_get_110 : decode b_Rm_get 110 = .ok (.bipush 32, 2) := by decide +kernel
theorem d_Rm_get_112 : decode b_Rm_get 112 = .ok (.iload_n 2, 1) := by decide +kernel
theorem d_Rm_get_113 : decode b_Rm_get 113 = .ok (.isub, 1) := by decide +kernel
theorem d_Rm_get_114 : decode b_Rm_get 114 = .ok (.if_icmp .ge 7, 3) := by decide +kernel
theorem d_Rm_get_117 : decode b_Rm_get 117 = .ok (.iconst 0, 1) := by decide +kernel
theorem d_Rm_get_118 : decode b_Rm_get 118 = .ok (.goto 18, 3) := by decide +kernel
theorem d_Rm_get_121 : decode b_Rm_get 121 = .ok (.aload_n 0, 1) := by decide +kernel
theorem d_Rm_get_122 : decode b_Rm_get 122 = .ok (.getfield 8, 3) := by decide +kernel
theorem d_Rm_get_125 : decode b_Rm_get 125 = .ok (.iload_n 1, 1) := by decide +kernel
theorem d_Rm_get_126 : decode b_Rm_get 126 = .ok (.iconst 2, 1) := by decide +kernel
theorem d_Rm_get_127 : decode b_Rm_get 127 = .ok (.iadd, 1) := by decide +kernel
theorem d_Rm_get_128 : decode b_Rm_get 128 = .ok (.iload_n 2, 1) := by decide +kernel
theorem d_Rm_get_129 : decode b_Rm_get 129 = .ok (.iadd, 1) := by decide +kernel
theorem d_Rm_get_130 : decode b_Rm_get 130 = .ok (.bipush 32, 2) := by decide +kernel
theorem d_Rm_get_132 : decode b_Rm_get 132 = .ok (.isub, 1) := by decide +kernel
theorem d_Rm_get_133 : decode b_Rm_get 133 = .ok (.iload_n 3, 1) := by decide +kernel
theorem d_Rm_get_134 : decode b_Rm_get 134 = .ok (.iadd, 1) := by decide +kernel
theorem d_Rm_get_135 : decode b_Rm_get 135 = .ok (.baload, 1) := by decide +kernel
theorem d_Rm_get_136 : decode b_Rm_get 136 = .ok (.bastore, 1) := by decide +kernel
theorem d_Rm_get_137 : decode b_Rm_get 137 = .ok (.iinc 3 1, 3) := by decide +kernel
theorem d_Rm_get_140 : decode b_Rm_get 140 = .ok (.goto (-42), 3) := by decide +kernel
theorem d_Rm_get_143 : decode b_Rm_get 143 = .ok (.aload_n 0, 1) := by decide +kernel
theorem d_Rm_get_144 : decode b_Rm_get 144 = .ok (.getfield 187, 3) := by decide +kernel
theorem d_Rm_get_147 : decode b_Rm_get 147 = .ok (.aload_n 0, 1) := by decide +kernel
theorem d_Rm_get_148 : decode b_Rm_get 148 = .ok (.getfield 215, 3) := by decide +kernel
theorem d_Rm_get_151 : decode b_Rm_get 151 = .ok (.iconst 0, 1) := by decide +kernel
theorem d_Rm_get_152 : decode b_Rm_get 152 = .ok (.invokestatic 372, 3) := by decide +kernel
theorem d_Rm_get_155 : decode b_Rm_get 155 = .ok (.iload_n 2, 1) := by decide +kernel
theorem d_Rm_get_156 : decode b_Rm_get 156 = .ok (.bipush 33, 2) := by decide +kernel
theorem d_Rm_get_158 : decode b_Rm_get 158 = .ok (.if_icmp .ne 37, 3) := by decide +kernel
theorem d_Rm_get_161 : decode b_Rm_get 161 = .ok (.aload_n 0, 1) := by decide +kernel
theorem d_Rm_get_162 : decode b_Rm_get 162 = .ok (.getfield 8, 3) := by decide +kernel
theorem d_Rm_get_165 : decode b_Rm_get 165 = .ok (.iload_n 1, 1) := by decide +kernel
theorem d_Rm_get_166 : decode b_Rm_get 166 = .ok (.iconst 2, 1) := by decide +kernel
theorem d_Rm_get_167 : decode b_Rm_get 167 = .ok (.iadd, 1) := by decide +kernel
theorem d_Rm_get_168 : decode b_Rm_get 168 = .ok (.baload, 1) := by decide +kernel
theorem d_Rm_get_169 : decode b_Rm_get 169 = .ok (.ifCond .eq 26, 3) := by decide +kernel
theorem d_Rm_get_172 : decode b_Rm_get 172 = .ok (.iconst 0, 1) := by decide +kernel
theorem d_Rm_get_173 : decode b_Rm_get 173 = .ok (.istore_n 3, 1) := by decide +kernel
theorem d_Rm_get_174 : decode b_Rm_get 174 = .ok (.iload_n 3, 1) := by decide +kernel
theorem d_Rm_get_175 : decode b_Rm_get 175 = .ok (.bipush 16, 2) := by decide +kernel
theorem d_Rm_get_177 : decode b_Rm_get 177 = .ok (.if_icmp .ge 18, 3) := by decide +kernel
theorem d_Rm_get_180 : decode b_Rm_get 180 = .ok (.aload_n 0, 1) := by decide +kernel
theorem d_Rm_get_181 : decode b_Rm_get 181 = .ok (.getfield 187, 3) := by decide +kernel
theorem d_Rm_get_184 : decode b_Rm_get 184 = .ok (.iload_n 3, 1) := by decide +kernel
theorem d_Rm_get_185 : decode b_Rm_get 185 = .ok (.ldc2_w 27, 3) := by decide +kernel
theorem d_Rm_get_188 : decode b_Rm_get 188 = .ok (.lastore, 1) := by decide +kernel
theorem d_Rm_get_189 : decode b_Rm_get 189 = .ok (.iinc 3 1, 3) := by decide +kernel
theorem d_Rm_get_192 : decode b_Rm_get 192 = .ok (.goto (-18), 3) := by decide +kernel
theorem d_Rm_get_195 : decode b_Rm_get 195 = .ok (.iload_n 1, 1) := by decide +kernel
theorem d_Rm_get_196 : decode b_Rm_get 196 = .ok (.iconst 2, 1) := by decide +kernel
theorem d_Rm_get_197 : decode b_Rm_get 197 = .ok (.iadd, 1) := by decide +kernel
theorem d_Rm_get_198 : decode b_Rm_get 198 = .ok (.iload_n 2, 1) := by decide +kernel
theorem d_Rm_get_199 : decode b_Rm_get 199 = .ok (.iadd, 1) := by decide +kernel
theorem d_Rm_get_200 : decode b_Rm_get 200 = .ok (.ireturn, 1) := by decide +kernel
abbrev rm_Rm_get : Room := { frames := 1, cells := 0, slots := 0, locals := 23 }
def B_Rm_get_20 (h : HP) : Option (Int32 × HP) :=
  some ((-1), h)
set_option maxHeartbeats 4000000 in
set_option maxRecDepth 100000 in
theorem bk_Rm_get_20 {l : Launch} {x : CX} {h0 h' : HP} {r' : Int32} (C : EV x b_Rm_get "PrimeKeysModel" 4 rm_Rm_get) (T : CT x (some .int) rm_Rm_get h0 (some (.int r')) h') (hl0 : x.1.2.1 = l) (h : HP) (hr : B_Rm_get_20 h = some (r', h')) : GG x 0 0 h 20 [] [] := by
  unfold B_Rm_get_20 at hr
  refine g_iconst (v := (-1)) C d_Rm_get_20 (by decide) ?_
  cases hr
  exact g_ireturn C T rfl (by decide) (by decide) d_Rm_get_21
def B_Rm_get_65 (h : HP) : Option (Int32 × HP) :=
  some ((-1), h)
set_option maxHeartbeats 4000000 in
set_option maxRecDepth 100000 in
theorem bk_Rm_get_65 {l : Launch} {x : CX} {h0 h' : HP} {r' : Int32} (C : EV x b_Rm_get "PrimeKeysModel" 4 rm_Rm_get) (T : CT x (some .int) rm_Rm_get h0 (some (.int r')) h') (hl0 : x.1.2.1 = l) (h : HP) (hr : B_Rm_get_65 h = some (r', h')) : GG x 0 0 h 65 [] [] := by
  unfold B_Rm_get_65 at hr
  refine g_iconst (v := (-1)) C d_Rm_get_65 (by decide) ?_
  cases hr
  exact g_ireturn C T rfl (by decide) (by decide) d_Rm_get_66
def B_Rm_get_195 (K98 : HP → Nat → Int32 → Int32 → Int32 → Option (Int32 × HP)) (h : HP) (a1 : Int32) (a2 : Int32) : Option (Int32 × HP) :=
  some ((a1 + 2) + a2, h)
set_option maxHeartbeats 4000000 in
set_option maxRecDepth 100000 in
theorem bk_Rm_get_195 {l : Launch} {x : CX} {h0 h' : HP} {r' : Int32} (C : EV x b_Rm_get "PrimeKeysModel" 4 rm_Rm_get) (T : CT x (some .int) rm_Rm_get h0 (some (.int r')) h') (hl0 : x.1.2.1 = l) (K98 : HP → Nat → Int32 → Int32 → Int32 → Option (Int32 × HP)) (hK98 : ∀ (h : HP) (a0 : Nat) (a1 : Int32) (a2 : Int32) (a3 : Int32), K98 h a0 a1 a2 a3 = some (r', h') → GG x 0 0 h 98 [(0, .ref a0), (1, .int a1), (2, .int a2), (3, .int a3)] []) (h : HP) (a1 : Int32) (a2 : Int32) (hr : B_Rm_get_195 K98 h a1 a2 = some (r', h')) : GG x 0 0 h 195 [(1, .int a1), (2, .int a2)] [] := by
  unfold B_Rm_get_195 at hr
  refine g_iload_n C 0 rfl d_Rm_get_195 rfl ?_
  refine g_iconst (v := 2) C d_Rm_get_196 (by decide) ?_
  refine g_iadd C d_Rm_get_197 ?_
  refine g_iload_n C 1 rfl d_Rm_get_198 rfl ?_
  refine g_iadd C d_Rm_get_199 ?_
  cases hr
  exact g_ireturn C T rfl (by decide) (by decide) d_Rm_get_200
def B_Rm_get_174 (K98 : HP → Nat → Int32 → Int32 → Int32 → Option (Int32 × HP)) (K174 : HP → Nat → Int32 → Int32 → Int32 → Option (Int32 × HP)) (h : HP) (a0 : Nat) (a1 : Int32) (a2 : Int32) (a3 : Int32) : Option (Int32 × HP) :=
  if 16 ≤ a3 then
  B_Rm_get_195 K98 h a1 a2
  else
  bnd (gR h a0 8 27) fun k16 =>
  bnd (stJ h k16 a3 65535) fun h17 =>
  lt (a3 + Int32.ofInt 1) fun x18 =>
  K174 h17 a0 a1 a2 x18
set_option maxHeartbeats 4000000 in
set_option maxRecDepth 100000 in
theorem bk_Rm_get_174 {l : Launch} {x : CX} {h0 h' : HP} {r' : Int32} (C : EV x b_Rm_get "PrimeKeysModel" 4 rm_Rm_get) (T : CT x (some .int) rm_Rm_get h0 (some (.int r')) h') (hl0 : x.1.2.1 = l) (K98 : HP → Nat → Int32 → Int32 → Int32 → Option (Int32 × HP)) (K174 : HP → Nat → Int32 → Int32 → Int32 → Option (Int32 × HP)) (hK98 : ∀ (h : HP) (a0 : Nat) (a1 : Int32) (a2 : Int32) (a3 : Int32), K98 h a0 a1 a2 a3 = some (r', h') → GG x 0 0 h 98 [(0, .ref a0), (1, .int a1), (2, .int a2), (3, .int a3)] []) (hK174 : ∀ (h : HP) (a0 : Nat) (a1 : Int32) (a2 : Int32) (a3 : Int32), K174 h a0 a1 a2 a3 = some (r', h') → GG x 0 0 h 174 [(0, .ref a0), (1, .int a1), (2, .int a2), (3, .int a3)] []) (h : HP) (a0 : Nat) (a1 : Int32) (a2 : Int32) (a3 : Int32) (hr : B_Rm_get_174 K98 K174 h a0 a1 a2 a3 = some (r', h')) : GG x 0 0 h 174 [(0, .ref a0), (1, .int a1), (2, .int a2), (3, .int a3)] [] := by
  unfold B_Rm_get_174 at hr
  refine g_iload_n C 3 rfl d_Rm_get_174 rfl ?_
  refine g_bipush (v := 16) C d_Rm_get_175 (by decide) ?_
  refine g_icmp_ge (tgt := 195) C d_Rm_get_177 (by decide) (fun z => ?_) (fun z => ?_)
  · have hr := of_if z hr
    refine g_lv [1, 2] rfl ?_
    exact bk_Rm_get_195 C T hl0 K98 hK98 h a1 a2 hr
  · have hr := of_el z hr
    refine g_aload_n C 0 rfl d_Rm_get_180 rfl ?_
    obtain ⟨k16, ek16, hr⟩ := of_bnd hr
    refine g_getR C fl_Rm_187 ek16 d_Rm_get_181 ?_
    refine g_iload_n C 3 rfl d_Rm_get_184 rfl ?_
    refine g_ldc2 (v := 65535) C d_Rm_get_185 kw_17 ?_
    obtain ⟨h17, eh17, hr⟩ := of_bnd hr
    refine g_lastore C eh17 d_Rm_get_188 ?_
    obtain ⟨x18, ex18⟩ : ∃ z, z = a3 + Int32.ofInt 1 := ⟨_, rfl⟩
    have hr := of_lt ex18 hr
    refine g_iinc (lv' := [(3, .int x18), (0, .ref a0), (1, .int a1), (2, .int a2)]) C 3 rfl d_Rm_get_189 ex18.symm (by decide) rfl ?_
    refine g_goto (tgt := 174) C d_Rm_get_192 (by decide) ?_
    refine g_lv [1, 2, 3, 0] rfl ?_
    exact hK174 h17 a0 a1 a2 x18 hr
def L_Rm_get_174 (K98 : HP → Nat → Int32 → Int32 → Int32 → Option (Int32 × HP)) : Nat → HP → Nat → Int32 → Int32 → Int32 → Option (Int32 × HP)
  | 0, _, _, _, _, _ => none
  | f + 1, h, a0, a1, a2, a3 => B_Rm_get_174 K98 (L_Rm_get_174 K98 f) h a0 a1 a2 a3
theorem lp_Rm_get_174 {l : Launch} {x : CX} {h0 h' : HP} {r' : Int32} (C : EV x b_Rm_get "PrimeKeysModel" 4 rm_Rm_get) (T : CT x (some .int) rm_Rm_get h0 (some (.int r')) h') (hl0 : x.1.2.1 = l) (K98 : HP → Nat → Int32 → Int32 → Int32 → Option (Int32 × HP)) (hK98 : ∀ (h : HP) (a0 : Nat) (a1 : Int32) (a2 : Int32) (a3 : Int32), K98 h a0 a1 a2 a3 = some (r', h') → GG x 0 0 h 98 [(0, .ref a0), (1, .int a1), (2, .int a2), (3, .int a3)] []) : ∀ (f : Nat) (h : HP) (a0 : Nat) (a1 : Int32) (a2 : Int32) (a3 : Int32), L_Rm_get_174 K98 f h a0 a1 a2 a3 = some (r', h') → GG x 0 0 h 174 [(0, .ref a0), (1, .int a1), (2, .int a2), (3, .int a3)] [] := by
  intro f
  induction f with
  | zero => intro h a0 a1 a2 a3 hr; have hr : (none : Option (Int32 × HP)) = some (r', h') := hr; cases hr
  | succ f ih => intro h a0 a1 a2 a3 hr; exact bk_Rm_get_174 C T hl0 K98 (L_Rm_get_174 K98 f) hK98 ih h a0 a1 a2 a3 hr
def B_Rm_get_98 (K98 : HP → Nat → Int32 → Int32 → Int32 → Option (Int32 × HP)) (h : HP) (a0 : Nat) (a1 : Int32) (a2 : Int32) (a3 : Int32) : Option (Int32 × HP) :=
  if 32 ≤ a3 then
  bnd (gR h a0 8 27) fun k11 =>
  bnd (gR h a0 8 36) fun k12 =>
  bnd (P_Rm_load h k11 k12 0) fun h13 =>
  if a2 = 33 then
  bnd (gR h13 a0 8 1) fun k14 =>
  bnd (ldB h13 k14 (a1 + 2)) fun v15 =>
  if v15 = 0 then
  B_Rm_get_195 K98 h13 a1 a2
  else
  L_Rm_get_174 K98 FU h13 a0 a1 a2 0
  else
  B_Rm_get_195 K98 h13 a1 a2
  else
  bnd (gR h a0 8 36) fun k19 =>
  if 32 - a2 ≤ a3 then
  bnd (gR h a0 8 1) fun k20 =>
  bnd (ldB h k20 ((((a1 + 2) + a2) - 32) + a3)) fun v21 =>
  bnd (stB h k19 a3 v21) fun h22 =>
  lt (a3 + Int32.ofInt 1) fun x23 =>
  K98 h22 a0 a1 a2 x23
  else
  bnd (stB h k19 a3 0) fun h24 =>
  lt (a3 + Int32.ofInt 1) fun x25 =>
  K98 h24 a0 a1 a2 x25
set_option maxHeartbeats 4000000 in
set_option maxRecDepth 100000 in
theorem bk_Rm_get_98 {l : Launch} {x : CX} {h0 h' : HP} {r' : Int32} (C : EV x b_Rm_get "PrimeKeysModel" 4 rm_Rm_get) (T : CT x (some .int) rm_Rm_get h0 (some (.int r')) h') (hl0 : x.1.2.1 = l) (K98 : HP → Nat → Int32 → Int32 → Int32 → Option (Int32 × HP)) (hK98 : ∀ (h : HP) (a0 : Nat) (a1 : Int32) (a2 : Int32) (a3 : Int32), K98 h a0 a1 a2 a3 = some (r', h') → GG x 0 0 h 98 [(0, .ref a0), (1, .int a1), (2, .int a2), (3, .int a3)] []) (h : HP) (a0 : Nat) (a1 : Int32) (a2 : Int32) (a3 : Int32) (hr : B_Rm_get_98 K98 h a0 a1 a2 a3 = some (r', h')) : GG x 0 0 h 98 [(0, .ref a0), (1, .int a1), (2, .int a2), (3, .int a3)] [] := by
  unfold B_Rm_get_98 at hr
  refine g_iload_n C 3 rfl d_Rm_get_98 rfl ?_
  refine g_bipush (v := 32) C d_Rm_get_99 (by decide) ?_
  refine g_icmp_ge (tgt := 143) C d_Rm_get_101 (by decide) (fun z => ?_) (fun z => ?_)
  · have hr := of_if z hr
    refine g_aload_n C 0 rfl d_Rm_get_143 rfl ?_
    obtain ⟨k11, ek11, hr⟩ := of_bnd hr
    refine g_getR C fl_Rm_187 ek11 d_Rm_get_144 ?_
    refine g_aload_n C 0 rfl d_Rm_get_147 rfl ?_
    obtain ⟨k12, ek12, hr⟩ := of_bnd hr
    refine g_getR C fl_Rm_215 ek12 d_Rm_get_148 ?_
    refine g_iconst (v := 0) C d_Rm_get_151 (by decide) ?_
    obtain ⟨h13, eh13, hr⟩ := of_bnd hr
    refine g_callS (pa := [.ref k11, .ref k12, .int 0]) C hl0 (c_Rm_load eh13) cd_Rm_372 kw_st_Rm_load (by decide) rfl rfl (Nat.le_of_ble_eq_true rfl) d_Rm_get_152 ?_
    refine g_iload_n C 2 rfl d_Rm_get_155 rfl ?_
    refine g_bipush (v := 33) C d_Rm_get_156 (by decide) ?_
    refine g_icmp_ne (tgt := 195) C d_Rm_get_158 (by decide) (fun z => ?_) (fun z => ?_)
    · have hr := of_el z hr
      refine g_lv [1, 2] rfl ?_
      exact bk_Rm_get_195 C T hl0 K98 hK98 h13 a1 a2 hr
    · have hr := of_if z hr
      refine g_aload_n C 0 rfl d_Rm_get_161 rfl ?_
      obtain ⟨k14, ek14, hr⟩ := of_bnd hr
      refine g_getR C fl_Rm_8 ek14 d_Rm_get_162 ?_
      refine g_iload_n C 1 rfl d_Rm_get_165 rfl ?_
      refine g_iconst (v := 2) C d_Rm_get_166 (by decide) ?_
      refine g_iadd C d_Rm_get_167 ?_
      obtain ⟨v15, ev15, hr⟩ := of_bnd hr
      refine g_baload C ev15 d_Rm_get_168 ?_
      refine g_if_eq (tgt := 195) C d_Rm_get_169 (by decide) (fun z => ?_) (fun z => ?_)
      · have hr := of_if z hr
        refine g_lv [1, 2] rfl ?_
        exact bk_Rm_get_195 C T hl0 K98 hK98 h13 a1 a2 hr
      · have hr := of_el z hr
        refine g_iconst (v := 0) C d_Rm_get_172 (by decide) ?_
        refine g_istore_n (lv' := [(3, .int 0), (0, .ref a0), (1, .int a1), (2, .int a2)]) C d_Rm_get_173 rfl (by decide) rfl ?_
        refine g_lv [1, 2, 3, 0] rfl ?_
        exact lp_Rm_get_174 C T hl0 K98 hK98 FU h13 a0 a1 a2 0 hr
  · have hr := of_el z hr
    refine g_aload_n C 0 rfl d_Rm_get_104 rfl ?_
    obtain ⟨k19, ek19, hr⟩ := of_bnd hr
    refine g_getR C fl_Rm_215 ek19 d_Rm_get_105 ?_
    refine g_iload_n C 3 rfl d_Rm_get_108 rfl ?_
    refine g_iload_n C 3 rfl d_Rm_get_109 rfl ?_
    refine g_bipush (v := 32) C d_Rm_get_110 (by decide) ?_
    refine g_iload_n C 2 rfl d_Rm_get_112 rfl ?_
    refine g_isub C d_Rm_get_113 ?_
    refine g_icmp_ge (tgt := 121) C d_Rm_get_114 (by decide) (fun z => ?_) (fun z => ?_)
    · have hr := of_if z hr
      refine g_aload_n C 0 rfl d_Rm_get_121 rfl ?_
      obtain ⟨k20, ek20, hr⟩ := of_bnd hr
      refine g_getR C fl_Rm_8 ek20 d_Rm_get_122 ?_
      refine g_iload_n C 1 rfl d_Rm_get_125 rfl ?_
      refine g_iconst (v := 2) C d_Rm_get_126 (by decide) ?_
      refine g_iadd C d_Rm_get_127 ?_
      refine g_iload_n C 2 rfl d_Rm_get_128 rfl ?_
      refine g_iadd C d_Rm_get_129 ?_
      refine g_bipush (v := 32) C d_Rm_get_130 (by decide) ?_
      refine g_isub C d_Rm_get_132 ?_
      refine g_iload_n C 3 rfl d_Rm_get_133 rfl ?_
      refine g_iadd C d_Rm_get_134 ?_
      obtain ⟨v21, ev21, hr⟩ := of_bnd hr
      refine g_baload C ev21 d_Rm_get_135 ?_
      obtain ⟨h22, eh22, hr⟩ := of_bnd hr
      refine g_bastore C eh22 d_Rm_get_136 ?_
      obtain ⟨x23, ex23⟩ : ∃ z, z = a3 + Int32.ofInt 1 := ⟨_, rfl⟩
      have hr := of_lt ex23 hr
      refine g_iinc (lv' := [(3, .int x23), (0, .ref a0), (1, .int a1), (2, .int a2)]) C 3 rfl d_Rm_get_137 ex23.symm (by decide) rfl ?_
      refine g_goto (tgt := 98) C d_Rm_get_140 (by decide) ?_
      refine g_lv [1, 2, 3, 0] rfl ?_
      exact hK98 h22 a0 a1 a2 x23 hr
    · have hr := of_el z hr
      refine g_iconst (v := 0) C d_Rm_get_117 (by decide) ?_
      refine g_goto (tgt := 136) C d_Rm_get_118 (by decide) ?_
      obtain ⟨h24, eh24, hr⟩ := of_bnd hr
      refine g_bastore C eh24 d_Rm_get_136 ?_
      obtain ⟨x25, ex25⟩ : ∃ z, z = a3 + Int32.ofInt 1 := ⟨_, rfl⟩
      have hr := of_lt ex25 hr
      refine g_iinc (lv' := [(3, .int x25), (0, .ref a0), (1, .int a1), (2, .int a2)]) C 3 rfl d_Rm_get_137 ex25.symm (by decide) rfl ?_
      refine g_goto (tgt := 98) C d_Rm_get_140 (by decide) ?_
      refine g_lv [1, 2, 3, 0] rfl ?_
      exact hK98 h24 a0 a1 a2 x25 hr
def L_Rm_get_98 : Nat → HP → Nat → Int32 → Int32 → Int32 → Option (Int32 × HP)
  | 0, _, _, _, _, _ => none
  | f + 1, h, a0, a1, a2, a3 => B_Rm_get_98 (L_Rm_get_98 f) h a0 a1 a2 a3
theorem lp_Rm_get_98 {l : Launch} {x : CX} {h0 h' : HP} {r' : Int32} (C : EV x b_Rm_get "PrimeKeysModel" 4 rm_Rm_get) (T : CT x (some .int) rm_Rm_get h0 (some (.int r')) h') (hl0 : x.1.2.1 = l) : ∀ (f : Nat) (h : HP) (a0 : Nat) (a1 : Int32) (a2 : Int32) (a3 : Int32), L_Rm_get_98 f h a0 a1 a2 a3 = some (r', h') → GG x 0 0 h 98 [(0, .ref a0), (1, .int a1), (2, .int a2), (3, .int a3)] [] := by
  intro f
  induction f with
  | zero => intro h a0 a1 a2 a3 hr; have hr : (none : Option (Int32 × HP)) = some (r', h') := hr; cases hr
  | succ f ih => intro h a0 a1 a2 a3 hr; exact bk_Rm_get_98 C T hl0 (L_Rm_get_98 f) ih h a0 a1 a2 a3 hr
def B_Rm_get_96 (h : HP) (a0 : Nat) (a1 : Int32) (a2 : Int32) : Option (Int32 × HP) :=
  L_Rm_get_98 FU h a0 a1 a2 0
set_option maxHeartbeats 4000000 in
set_option maxRecDepth 100000 in
theorem bk_Rm_get_96 {l : Launch} {x : CX} {h0 h' : HP} {r' : Int32} (C : EV x b_Rm_get "PrimeKeysModel" 4 rm_Rm_get) (T : CT x (some .int) rm_Rm_get h0 (some (.int r')) h') (hl0 : x.1.2.1 = l) (h : HP) (a0 : Nat) (a1 : Int32) (a2 : Int32) (hr : B_Rm_get_96 h a0 a1 a2 = some (r', h')) : GG x 0 0 h 96 [(0, .ref a0), (1, .int a1), (2, .int a2)] [] := by
  unfold B_Rm_get_96 at hr
  refine g_iconst (v := 0) C d_Rm_get_96 (by decide) ?_
  refine g_istore_n (lv' := [(3, .int 0), (0, .ref a0), (1, .int a1), (2, .int a2)]) C d_Rm_get_97 rfl (by decide) rfl ?_
  refine g_lv [1, 2, 3, 0] rfl ?_
  exact lp_Rm_get_98 C T hl0 FU h a0 a1 a2 0 hr
def P_Rm_get (h : HP) (p0 : Nat) (p1 : Int32) : Option (Int32 × HP) :=
  bnd (gI h p0 8 5) fun v1 =>
  if v1 < p1 + 2 then
  B_Rm_get_20 h
  else
  bnd (gR h p0 8 1) fun k2 =>
  bnd (ldB h k2 p1) fun v3 =>
  if v3 = 2 then
  bnd (gR h p0 8 1) fun k4 =>
  bnd (ldB h k4 (p1 + 1)) fun v5 =>
  if v5 < 1 then
  B_Rm_get_65 h
  else
  if 33 < v5 then
  B_Rm_get_65 h
  else
  bnd (gI h p0 8 5) fun v6 =>
  if v6 < (p1 + 2) + v5 then
  B_Rm_get_65 h
  else
  bnd (gR h p0 8 1) fun k7 =>
  bnd (ldB h k7 (p1 + 2)) fun v8 =>
  if 0 ≤ v8 then
  bnd (gR h p0 8 1) fun k9 =>
  bnd (ldB h k9 (p1 + 2)) fun v10 =>
  if v10 = 0 then
  if v5 ≤ 1 then
  B_Rm_get_96 h p0 p1 v5
  else
  bnd (gR h p0 8 1) fun k26 =>
  bnd (ldB h k26 (p1 + 3)) fun v27 =>
  if v27 < 0 then
  B_Rm_get_96 h p0 p1 v5
  else
  some ((-1), h)
  else
  B_Rm_get_96 h p0 p1 v5
  else
  B_Rm_get_65 h
  else
  B_Rm_get_20 h
set_option maxHeartbeats 4000000 in
set_option maxRecDepth 100000 in
theorem c_Rm_get {l : Launch} {h h' : HP} {p0 p1 : _} {r' : Int32} (hr : P_Rm_get h p0 p1 = some (r', h')) : MP l y_Rm_get (Cond.code y_Rm_get b_Rm_get 4 (some .int) :: TB) rm_Rm_get h [.ref p0, .int p1] (some (.int r')) h' := by
  refine MP_intro (cc := b_Rm_get) (by decide) (Nat.le_of_ble_eq_true rfl) (fun x hl0 C T hin => ?_)
  unfold P_Rm_get at hr
  show GG x 0 0 h 0 [(0, .ref p0), (1, .int p1)] []
  refine g_iload_n C 1 rfl d_Rm_get_0 rfl ?_
  refine g_iconst (v := 2) C d_Rm_get_1 (by decide) ?_
  refine g_iadd C d_Rm_get_2 ?_
  refine g_aload_n C 0 rfl d_Rm_get_3 rfl ?_
  obtain ⟨v1, ev1, hr⟩ := of_bnd hr
  refine g_getI C fl_Rm_389 ev1 d_Rm_get_4 ?_
  refine g_icmp_gt (tgt := 20) C d_Rm_get_7 (by decide) (fun z => ?_) (fun z => ?_)
  · have hr := of_if z hr
    refine g_lv [] rfl ?_
    exact bk_Rm_get_20 C T hl0 h hr
  · have hr := of_el z hr
    refine g_aload_n C 0 rfl d_Rm_get_10 rfl ?_
    obtain ⟨k2, ek2, hr⟩ := of_bnd hr
    refine g_getR C fl_Rm_8 ek2 d_Rm_get_11 ?_
    refine g_iload_n C 1 rfl d_Rm_get_14 rfl ?_
    obtain ⟨v3, ev3, hr⟩ := of_bnd hr
    refine g_baload C ev3 d_Rm_get_15 ?_
    refine g_iconst (v := 2) C d_Rm_get_16 (by decide) ?_
    refine g_icmp_eq (tgt := 22) C d_Rm_get_17 (by decide) (fun z => ?_) (fun z => ?_)
    · have hr := of_if z hr
      refine g_aload_n C 0 rfl d_Rm_get_22 rfl ?_
      obtain ⟨k4, ek4, hr⟩ := of_bnd hr
      refine g_getR C fl_Rm_8 ek4 d_Rm_get_23 ?_
      refine g_iload_n C 1 rfl d_Rm_get_26 rfl ?_
      refine g_iconst (v := 1) C d_Rm_get_27 (by decide) ?_
      refine g_iadd C d_Rm_get_28 ?_
      obtain ⟨v5, ev5, hr⟩ := of_bnd hr
      refine g_baload C ev5 d_Rm_get_29 ?_
      refine g_istore_n (lv' := [(2, .int v5), (0, .ref p0), (1, .int p1)]) C d_Rm_get_30 rfl (by decide) rfl ?_
      refine g_iload_n C 0 rfl d_Rm_get_31 rfl ?_
      refine g_iconst (v := 1) C d_Rm_get_32 (by decide) ?_
      refine g_icmp_lt (tgt := 65) C d_Rm_get_33 (by decide) (fun z => ?_) (fun z => ?_)
      · have hr := of_if z hr
        refine g_lv [] rfl ?_
        exact bk_Rm_get_65 C T hl0 h hr
      · have hr := of_el z hr
        refine g_iload_n C 0 rfl d_Rm_get_36 rfl ?_
        refine g_bipush (v := 33) C d_Rm_get_37 (by decide) ?_
        refine g_icmp_gt (tgt := 65) C d_Rm_get_39 (by decide) (fun z => ?_) (fun z => ?_)
        · have hr := of_if z hr
          refine g_lv [] rfl ?_
          exact bk_Rm_get_65 C T hl0 h hr
        · have hr := of_el z hr
          refine g_iload_n C 2 rfl d_Rm_get_42 rfl ?_
          refine g_iconst (v := 2) C d_Rm_get_43 (by decide) ?_
          refine g_iadd C d_Rm_get_44 ?_
          refine g_iload_n C 0 rfl d_Rm_get_45 rfl ?_
          refine g_iadd C d_Rm_get_46 ?_
          refine g_aload_n C 1 rfl d_Rm_get_47 rfl ?_
          obtain ⟨v6, ev6, hr⟩ := of_bnd hr
          refine g_getI C fl_Rm_389 ev6 d_Rm_get_48 ?_
          refine g_icmp_gt (tgt := 65) C d_Rm_get_51 (by decide) (fun z => ?_) (fun z => ?_)
          · have hr := of_if z hr
            refine g_lv [] rfl ?_
            exact bk_Rm_get_65 C T hl0 h hr
          · have hr := of_el z hr
            refine g_aload_n C 1 rfl d_Rm_get_54 rfl ?_
            obtain ⟨k7, ek7, hr⟩ := of_bnd hr
            refine g_getR C fl_Rm_8 ek7 d_Rm_get_55 ?_
            refine g_iload_n C 2 rfl d_Rm_get_58 rfl ?_
            refine g_iconst (v := 2) C d_Rm_get_59 (by decide) ?_
            refine g_iadd C d_Rm_get_60 ?_
            obtain ⟨v8, ev8, hr⟩ := of_bnd hr
            refine g_baload C ev8 d_Rm_get_61 ?_
            refine g_if_ge (tgt := 67) C d_Rm_get_62 (by decide) (fun z => ?_) (fun z => ?_)
            · have hr := of_if z hr
              refine g_aload_n C 1 rfl d_Rm_get_67 rfl ?_
              obtain ⟨k9, ek9, hr⟩ := of_bnd hr
              refine g_getR C fl_Rm_8 ek9 d_Rm_get_68 ?_
              refine g_iload_n C 2 rfl d_Rm_get_71 rfl ?_
              refine g_iconst (v := 2) C d_Rm_get_72 (by decide) ?_
              refine g_iadd C d_Rm_get_73 ?_
              obtain ⟨v10, ev10, hr⟩ := of_bnd hr
              refine g_baload C ev10 d_Rm_get_74 ?_
              refine g_if_ne (tgt := 96) C d_Rm_get_75 (by decide) (fun z => ?_) (fun z => ?_)
              · have hr := of_el z hr
                refine g_lv [1, 2, 0] rfl ?_
                exact bk_Rm_get_96 C T hl0 h p0 p1 v5 hr
              · have hr := of_if z hr
                refine g_iload_n C 0 rfl d_Rm_get_78 rfl ?_
                refine g_iconst (v := 1) C d_Rm_get_79 (by decide) ?_
                refine g_icmp_le (tgt := 96) C d_Rm_get_80 (by decide) (fun z => ?_) (fun z => ?_)
                · have hr := of_if z hr
                  refine g_lv [1, 2, 0] rfl ?_
                  exact bk_Rm_get_96 C T hl0 h p0 p1 v5 hr
                · have hr := of_el z hr
                  refine g_aload_n C 1 rfl d_Rm_get_83 rfl ?_
                  obtain ⟨k26, ek26, hr⟩ := of_bnd hr
                  refine g_getR C fl_Rm_8 ek26 d_Rm_get_84 ?_
                  refine g_iload_n C 2 rfl d_Rm_get_87 rfl ?_
                  refine g_iconst (v := 3) C d_Rm_get_88 (by decide) ?_
                  refine g_iadd C d_Rm_get_89 ?_
                  obtain ⟨v27, ev27, hr⟩ := of_bnd hr
                  refine g_baload C ev27 d_Rm_get_90 ?_
                  refine g_if_lt (tgt := 96) C d_Rm_get_91 (by decide) (fun z => ?_) (fun z => ?_)
                  · have hr := of_if z hr
                    refine g_lv [1, 2, 0] rfl ?_
                    exact bk_Rm_get_96 C T hl0 h p0 p1 v5 hr
                  · have hr := of_el z hr
                    refine g_iconst (v := (-1)) C d_Rm_get_94 (by decide) ?_
                    cases hr
                    exact g_ireturn C T rfl (by decide) (by decide) d_Rm_get_95
            · have hr := of_el z hr
              refine g_lv [] rfl ?_
              exact bk_Rm_get_65 C T hl0 h hr
    · have hr := of_el z hr
      refine g_lv [] rfl ?_
      exact bk_Rm_get_20 C T hl0 h hr
abbrev b_Rm_ranged : ByteArray := prog_12_method_51_code
abbrev y_Rm_ranged : MethodName := ⟨"PrimeKeysModel", "ranged", "([J)Z"⟩
theorem d_Rm_ranged_0 : decode b_Rm_ranged 0 = .ok (.aload_n 1, 1) := by decide +kernel
theorem d_Rm_ranged_1 : decode b_Rm_ranged 1 = .ok (.invokestatic 290, 3) := by decide +kernel
theorem d_Rm_ranged_4 : decode b_Rm_ranged 4 = .ok (.ifCond .ne 18, 3) := by decide +kernel
theorem d_Rm_ranged_7 : decode b_Rm_ranged 7 = .ok (.aload_n 1, 1) := by decide +kernel
theorem d_Rm_ranged_8 : decode b_Rm_ranged 8 = .ok (.aload_n 0, 1) := by decide +kernel
theorem d_Rm_ranged_9 : decode b_Rm_ranged 9 = .ok (.getfield 49, 3) := by decide +kernel
theorem d_Rm_ranged_12 : decode b_Rm_ranged 12 = .ok (.invokestatic 268, 3) := by decide +kernel
theorem d_Rm_ranged_15 : decode b_Rm_ranged 15 = .ok (.ifCond .eq 7, 3) := by decide +kernel
theorem d_Rm_ranged_18 : decode b_Rm_ranged 18 = .ok (.iconst 1, 1) := by decide +kernel
theorem d_Rm_ranged_19 : decode b_Rm_ranged 19 = .ok (.goto 4, 3) := by decide +kernel
theorem d_Rm_ranged_22 : decode b_Rm_ranged 22 = .ok (.iconst 0, 1) := by decide +kernel
theorem d_Rm_ranged_23 : decode b_Rm_ranged 23 = .ok (.ireturn, 1) := by decide +kernel
abbrev rm_Rm_ranged : Room := { frames := 1, cells := 0, slots := 0, locals := 22 }
def B_Rm_ranged_22 (h : HP) : Option (Int32 × HP) :=
  some (0, h)
set_option maxHeartbeats 4000000 in
set_option maxRecDepth 100000 in
theorem bk_Rm_ranged_22 {l : Launch} {x : CX} {h0 h' : HP} {r' : Int32} (C : EV x b_Rm_ranged "PrimeKeysModel" 2 rm_Rm_ranged) (T : CT x (some .boolean) rm_Rm_ranged h0 (some (.int r')) h') (hl0 : x.1.2.1 = l) (h : HP) (hr : B_Rm_ranged_22 h = some (r', h')) : GG x 0 0 h 22 [] [] := by
  unfold B_Rm_ranged_22 at hr
  refine g_iconst (v := 0) C d_Rm_ranged_22 (by decide) ?_
  cases hr
  exact g_ireturn C T rfl (by decide) (by decide) d_Rm_ranged_23
def P_Rm_ranged (h : HP) (p0 : Nat) (p1 : Nat) : Option (Int32 × HP) :=
  bnd2 (P_Rm_zero h p1) fun v2 h1 =>
  if v2 = 0 then
  bnd (gR h1 p0 8 11) fun k3 =>
  bnd2 (P_Rm_below h1 p1 k3) fun v5 h4 =>
  if v5 = 0 then
  B_Rm_ranged_22 h4
  else
  some (1, h4)
  else
  B_Rm_ranged_22 h1
set_option maxHeartbeats 4000000 in
set_option maxRecDepth 100000 in
theorem c_Rm_ranged {l : Launch} {h h' : HP} {p0 p1 : _} {r' : Int32} (hr : P_Rm_ranged h p0 p1 = some (r', h')) : MP l y_Rm_ranged (Cond.code y_Rm_ranged b_Rm_ranged 2 (some .boolean) :: TB) rm_Rm_ranged h [.ref p0, .ref p1] (some (.int r')) h' := by
  refine MP_intro (cc := b_Rm_ranged) (by decide) (Nat.le_of_ble_eq_true rfl) (fun x hl0 C T hin => ?_)
  unfold P_Rm_ranged at hr
  show GG x 0 0 h 0 [(0, .ref p0), (1, .ref p1)] []
  refine g_aload_n C 1 rfl d_Rm_ranged_0 rfl ?_
  obtain ⟨v2, h1, eh1, hr⟩ := of_bnd2 hr
  refine g_callS (pa := [.ref p1]) C hl0 (c_Rm_zero eh1) cd_Rm_290 kw_st_Rm_zero (by decide) rfl rfl (Nat.le_of_ble_eq_true rfl) d_Rm_ranged_1 ?_
  refine g_if_ne (tgt := 22) C d_Rm_ranged_4 (by decide) (fun z => ?_) (fun z => ?_)
  · have hr := of_el z hr
    refine g_lv [] rfl ?_
    exact bk_Rm_ranged_22 C T hl0 h1 hr
  · have hr := of_if z hr
    refine g_aload_n C 1 rfl d_Rm_ranged_7 rfl ?_
    refine g_aload_n C 0 rfl d_Rm_ranged_8 rfl ?_
    obtain ⟨k3, ek3, hr⟩ := of_bnd hr
    refine g_getR C fl_Rm_49 ek3 d_Rm_ranged_9 ?_
    obtain ⟨v5, h4, eh4, hr⟩ := of_bnd2 hr
    refine g_callS (pa := [.ref p1, .ref k3]) C hl0 (c_Rm_below eh4) cd_Rm_268 kw_st_Rm_below (by decide) rfl rfl (Nat.le_of_ble_eq_true rfl) d_Rm_ranged_12 ?_
    refine g_if_eq (tgt := 22) C d_Rm_ranged_15 (by decide) (fun z => ?_) (fun z => ?_)
    · have hr := of_if z hr
      refine g_lv [] rfl ?_
      exact bk_Rm_ranged_22 C T hl0 h4 hr
    · have hr := of_el z hr
      refine g_iconst (v := 1) C d_Rm_ranged_18 (by decide) ?_
      refine g_goto (tgt := 23) C d_Rm_ranged_19 (by decide) ?_
      cases hr
      exact g_ireturn C T rfl (by decide) (by decide) d_Rm_ranged_23
abbrev b_Rm_verified : ByteArray := prog_12_method_52_code
abbrev y_Rm_verified : MethodName := ⟨"PrimeKeysModel", "verified", "()I"⟩
theorem d_Rm_verified_0 : decode b_Rm_verified 0 = .ok (.aload_n 0, 1) := by decide +kernel
theorem d_Rm_verified_1 : decode b_Rm_verified 1 = .ok (.getfield 389, 3) := by decide +kernel
theorem d_Rm_verified_4 : decode b_Rm_verified 4 = .ok (.bipush 67, 2) := by decide +kernel
theorem d_Rm_verified_6 : decode b_Rm_verified 6 = .ok (.if_icmp .lt 44, 3) := by decide +kernel
theorem d_Rm_verified_9 : decode b_Rm_verified 9 = .ok (.aload_n 0, 1) := by decide +kernel
theorem d_Rm_verified_10 : decode b_Rm_verified 10 = .ok (.getfield 8, 3) := by decide +kernel
theorem d_Rm_verified_13 : decode b_Rm_verified 13 = .ok (.bipush 65, 2) := by decide +kernel
theorem d_Rm_verified_15 : decode b_Rm_verified 15 = .ok (.baload, 1) := by decide +kernel
theorem d_Rm_verified_16 : decode b_Rm_verified 16 = .ok (.bipush 48, 2) := by decide +kernel
theorem d_Rm_verified_18 : decode b_Rm_verified 18 = .ok (.if_icmp .ne 32, 3) := by decide +kernel
theorem d_Rm_verified_21 : decode b_Rm_verified 21 = .ok (.aload_n 0, 1) := by decide +kernel
theorem d_Rm_verified_22 : decode b_Rm_verified 22 = .ok (.getfield 8, 3) := by decide +kernel
theorem d_Rm_verified_25 : decode b_Rm_verified 25 = .ok (.bipush 66, 2) := by decide +kernel
theorem d_Rm_verified_27 : decode b_Rm_verified 27 = .ok (.baload, 1) := by decide +kernel
theorem d_Rm_verified_28 : decode b_Rm_verified 28 = .ok (.aload_n 0, 1) := by decide +kernel
theorem d_Rm_verified_29 : decode b_Rm_verified 29 = .ok (.getfield 389, 3) := by decide +kernel
theorem d_Rm_verified_32 : decode b_Rm_verified 32 = .ok (.bipush 67, 2) := by decide +kernel
theorem d_Rm_verified_34 : decode b_Rm_verified 34 = .ok (.isub, 1) := by decide +kernel
theorem d_Rm_verified_35 : decode b_Rm_verified 35 = .ok (.if_icmp .ne 15, 3) := by decide +kernel
theorem d_Rm_verified_38 : decode b_Rm_verified 38 = .ok (.aload_n 0, 1) := by decide +kernel
theorem d_Rm_verified_39 : decode b_Rm_verified 39 = .ok (.getfield 389, 3) := by decide +kernel
theorem d_Rm_verified_42 : decode b_Rm_verified 42 = .ok (.bipush 67, 2) := by decide +kernel
theorem d_Rm_verified_44 : decode b_Rm_verified 44 = .ok (.isub, 1) := by decide +kernel
theorem d_Rm_verified_45 : decode b_Rm_verified 45 = .ok (.bipush 127, 2) := by decide +kernel
theorem d_Rm_verified_47 : decode b_Rm_verified 47 = .ok (.if_icmp .le 5, 3) := by decide +kernel
theorem d_Rm_verified_50 : decode b_Rm_verified 50 = .ok (.iconst 1, 1) := by decide +kernel
theorem d_Rm_verified_51 : decode b_Rm_verified 51 = .ok (.ireturn, 1) := by decide +kernel
theorem d_Rm_verified_52 : decode b_Rm_verified 52 = .ok (.aload_n 0, 1) := by decide +kernel
theorem d_Rm_verified_53 : decode b_Rm_verified 53 = .ok (.bipush 67, 2) := by decide +kernel
theorem d_Rm_verified_55 : decode b_Rm_verified 55 = .ok (.invokevirtual 426, 3) := by decide +kernel
theorem d_Rm_verified_58 : decode b_Rm_verified 58 = .ok (.istore_n 1, 1) := by decide +kernel
theorem d_Rm_verified_59 : decode b_Rm_verified 59 = .ok (.iload_n 1, 1) := by decide +kernel
theorem d_Rm_verified_60 : decode b_Rm_verified 60 = .ok (.ifCond .ge 5, 3) := by decide +kernel
theorem d_Rm_verified_63 : decode b_Rm_verified 63 = .ok (.iconst 1, 1) := by decide +kernel
theorem d_Rm_verified_64 : decode b_Rm_verified 64 = .ok (.ireturn, 1) := by decide +kernel
theorem d_Rm_verified_65 : decode b_Rm_verified 65 = .ok (.aload_n 0, 1) := by decide +kernel
theorem d_Rm_verified_66 : decode b_Rm_verified 66 = .ok (.getfield 193, 3) := by decide +kernel
theorem d_Rm_verified_69 : decode b_Rm_verified 69 = .ok (.aload_n 0, 1) := by decide +kernel
theorem d_Rm_verified_70 : decode b_Rm_verified 70 = .ok (.getfield 187, 3) := by decide +kernel
theorem d_Rm_verified_73 : decode b_Rm_verified 73 = .ok (.invokestatic 286, 3) := by decide +kernel
theorem d_Rm_verified_76 : decode b_Rm_verified 76 = .ok (.aload_n 0, 1) := by decide +kernel
theorem d_Rm_verified_77 : decode b_Rm_verified 77 = .ok (.iload_n 1, 1) := by decide +kernel
theorem d_Rm_verified_78 : decode b_Rm_verified 78 = .ok (.invokevirtual 426, 3) := by decide +kernel
theorem d_Rm_verified_81 : decode b_Rm_verified 81 = .ok (.istore_n 1, 1) := by decide +kernel
theorem d_Rm_verified_82 : decode b_Rm_verified 82 = .ok (.iload_n 1, 1) := by decide +kernel
theorem d_Rm_verified_83 : decode b_Rm_verified 83 = .ok (.aload_n 0, 1) := by decide +kernel
theorem d_Rm_verified_84 : decode b_Rm_verified 84 = .ok (.getfield 389, 3) := by decide +kernel
theorem d_Rm_verified_87 : decode b_Rm_verified 87 = .ok (.if_icmp .eq 5, 3) := by decide +kernel
theorem d_Rm_verified_90 : decode b_Rm_verified 90 = .ok (.iconst 1, 1) := by decide +kernel
theorem d_Rm_verified_91 : decode b_Rm_verified 91 = .ok (.ireturn, 1) := by decide +kernel
theorem d_Rm_verified_92 : decode b_Rm_verified 92 = .ok (.aload_n 0, 1) := by decide +kernel
theorem d_Rm_verified_93 : decode b_Rm_verified 93 = .ok (.getfield 196, 3) := by decide +kernel
theorem d_Rm_verified_96 : decode b_Rm_verified 96 = .ok (.aload_n 0, 1) := by decide +kernel
theorem d_Rm_verified_97 : decode b_Rm_verified 97 = .ok (.getfield 187, 3) := by decide +kernel
theorem d_Rm_verified_100 : decode b_Rm_verified 100 = .ok (.invokestatic 286, 3) := by decide +kernel
theorem d_Rm_verified_103 : decode b_Rm_verified 103 = .ok (.aload_n 0, 1) := by decide +kernel
theorem d_Rm_verified_104 : decode b_Rm_verified 104 = .ok (.aload_n 0, 1) := by decide +kernel
theorem d_Rm_verified_105 : decode b_Rm_verified 105 = .ok (.getfield 193, 3) := by decide +kernel
theorem d_Rm_verified_108 : decode b_Rm_verified 108 = .ok (.invokevirtual 429, 3) := by decide +kernel
theorem d_Rm_verified_111 : decode b_Rm_verified 111 = .ok (.ifCond .eq 14, 3) := by decide +kernel
theorem d_Rm_verified_114 : decode b_Rm_verified 114 = .ok (.aload_n 0, 1) := by decide +kernel
theorem d_Rm_verified_115 : decode b_Rm_verified 115 = .ok (.aload_n 0, 1) := by decide +kernel
theorem d_Rm_verified_116 : decode b_Rm_verified 116 = .ok (.getfield 196, 3) := by decide +kernel
theorem d_Rm_verified_119 : decode b_Rm_verified 119 = .ok (.invokevirtual 429, 3) := by decide +kernel
theorem d_Rm_verified_122 : decode b_Rm_verified 122 = .ok (.ifCond .ne 5, 3) := by decide +kernel
theorem d_Rm_verified_125 : decode b_Rm_verified 125 = .ok (.iconst 2, 1) := by decide +kernel
theorem d_Rm_verified_126 : decode b_Rm_verified 126 = .ok (.ireturn, 1) := by decide +kernel
theorem d_Rm_verified_127 : decode b_Rm_verified 127 = .ok (.aload_n 0, 1) := by decide +kernel
theorem d_Rm_verified_128 : decode b_Rm_verified 128 = .ok (.invokevirtual 410, 3) := by decide +kernel
theorem d_Rm_verified_131 : decode b_Rm_verified 131 = .ok (.ifCond .ne 5, 3) := by decide +kernel
theorem d_Rm_verified_134 : decode b_Rm_verified 134 = .ok (.iconst 3, 1) := by decide +kernel
theorem d_Rm_verified_135 : decode b_Rm_verified 135 = .ok (.ireturn, 1) := by decide +kernel
theorem d_Rm_verified_136 : decode b_Rm_verified 136 = .ok (.aload_n 0, 1) := by decide +kernel
theorem d_Rm_verified_137 : decode b_Rm_verified 137 = .ok (.invokevirtual 413, 3) := by decide +kernel
theorem d_Rm_verified_140 : decode b_Rm_verified 140 = .ok (.aload_n 0, 1) := by decide +kernel
theorem d_Rm_verified_141 : decode b_Rm_verified 141 = .ok (.aload_n 0, 1) := by decide +kernel
theorem d_Rm_verified_142 : decode b_Rm_verified 142 = .ok (.getfield 202, 3) := by decide +kernel
theorem d_Rm_verified_145 : decode b_Rm_verified 145 = .ok (.aload_n 0, 1) := by decide +kernel
theorem d_Rm_verified_146 : decode b_Rm_verified 146 = .ok (.getfield 196, 3) := by decide +kernel
theorem d_Rm_verified_149 : decode b_Rm_verified 149 = .ok (.aload_n 0, 1) := by decide +kernel
theorem d_Rm_verified_150 : decode b_Rm_verified 150 = .ok (.getfield 49, 3) := by decide +kernel
theorem d_Rm_verified_153 : decode b_Rm_verified 153 = .ok (.invokevirtual 352, 3) := by decide +kernel
theorem d_Rm_verified_156 : decode b_Rm_verified 156 = .ok (.aload_n 0, 1) := by decide +kernel
theorem d_Rm_verified_157 : decode b_Rm_verified 157 = .ok (.aload_n 0, 1) := by decide +kernel
theorem d_Rm_verified_158 : decode b_Rm_verified 158 = .ok (.getfield 199, 3) := by decide +kernel
theorem d_Rm_verified_161 : decode b_Rm_verified 161 = .ok (.aload_n 0, 1) := by decide +kernel
theorem d_Rm_verified_162 : decode b_Rm_verified 162 = .ok (.getfield 193, 3) := by decide +kernel
theorem d_Rm_verified_165 : decode b_Rm_verified 165 = .ok (.aload_n 0, 1) := by decide +kernel
theorem d_Rm_verified_166 : decode b_Rm_verified 166 = .ok (.getfield 202, 3) := by decide +kernel
theorem d_Rm_verified_169 : decode b_Rm_verified 169 = .ok (.aload_n 0, 1) := by decide +kernel
theorem d_Rm_verified_170 : decode b_Rm_verified 170 = .ok (.getfield 49, 3) := by decide +kernel
theorem d_Rm_verified_173 : decode b_Rm_verified 173 = .ok (.aload_n 0, 1) := by decide +kernel
theorem d_Rm_verified_174 : decode b_Rm_verified 174 = .ok (.getfield 160, 3) := by decide +kernel
theorem d_Rm_verified_177 : decode b_Rm_verified 177 = .ok (.invokevirtual 338, 3) := by decide +kernel
theorem d_Rm_verified_180 : decode b_Rm_verified 180 = .ok (.aload_n 0, 1) := by decide +kernel
theorem d_Rm_verified_181 : decode b_Rm_verified 181 = .ok (.aload_n 0, 1) := by decide +kernel
theorem d_Rm_verified_182 : decode b_Rm_verified 182 = .ok (.getfield 199, 3) := by decide +kernel
theorem d_Rm_verified_185 : decode b_Rm_verified 185 = .ok (.invokevirtual 362, 3) := by decide +kernel
theorem d_Rm_verified_188 : decode b_Rm_verified 188 = .ok (.aload_n 0, 1) := by decide +kernel
theorem d_Rm_verified_189 : decode b_Rm_verified 189 = .ok (.aload_n 0, 1) := by decide +kernel
theorem d_Rm_verified_190 : decode b_Rm_verified 190 = .ok (.getfield 199, 3) := by decide +kernel
theorem d_Rm_verified_193 : decode b_Rm_verified 193 = .ok (.aload_n 0, 1) := by decide +kernel
theorem d_Rm_verified_194 : decode b_Rm_verified 194 = .ok (.getfield 190, 3) := by decide +kernel
theorem d_Rm_verified_197 : decode b_Rm_verified 197 = .ok (.aload_n 0, 1) := by decide +kernel
theorem d_Rm_verified_198 : decode b_Rm_verified 198 = .ok (.getfield 202, 3) := by decide +kernel
theorem d_Rm_verified_201 : decode b_Rm_verified 201 = .ok (.aload_n 0, 1) := by decide +kernel
theorem d_Rm_verified_202 : decode b_Rm_verified 202 = .ok (.getfield 49, 3) := by decide +kernel
theorem d_Rm_verified_205 : decode b_Rm_verified 205 = .ok (.aload_n 0, 1) := by decide +kernel
theorem d_Rm_verified_206 : decode b_Rm_verified 206 = .ok (.getfield 160, 3) := by decide +kernel
theorem d_Rm_verified_209 : decode b_Rm_verified 209 = .ok (.invokevirtual 338, 3) := by decide +kernel
theorem d_Rm_verified_212 : decode b_Rm_verified 212 = .ok (.aload_n 0, 1) := by decide +kernel
theorem d_Rm_verified_213 : decode b_Rm_verified 213 = .ok (.getfield 190, 3) := by decide +kernel
theorem d_Rm_verified_216 : decode b_Rm_verified 216 = .ok (.aload_n 0, 1) := by decide +kernel
theorem d_Rm_verified_217 : decode b_Rm_verified 217 = .ok (.getfield 163, 3) := by decide +kernel
theorem d_Rm_verified_220 : decode b_Rm_verified 220 = .ok (.invokestatic 286, 3) := by decide +kernel
theorem d_Rm_verified_223 : decode b_Rm_verified 223 = .ok (.aload_n 0, 1) := by decide +kernel
theorem d_Rm_verified_224 : decode b_Rm_verified 224 = .ok (.getfield 202, 3) := by decide +kernel
theorem d_Rm_verified_227 : decode b_Rm_verified 227 = .ok (.aload_n 0, 1) := by decide +kernel
theorem d_Rm_verified_228 : decode b_Rm_verified 228 = .ok (.getfield 166, 3) := by decide +kernel
theorem d_Rm_verified_231 : decode b_Rm_verified 231 = .ok (.invokestatic 286, 3) := by decide +kernel
theorem d_Rm_verified_234 : decode b_Rm_verified 234 = .ok (.aload_n 0, 1) := by decide +kernel
theorem d_Rm_verified_235 : decode b_Rm_verified 235 = .ok (.getfield 349, 3) := by decide +kernel
theorem d_Rm_verified_238 : decode b_Rm_verified 238 = .ok (.istore_n 2, 1) := by decide +kernel
theorem d_Rm_verified_239 : decode b_Rm_verified 239 = .ok (.aload_n 0, 1) := by decide +kernel
theorem d_Rm_verified_240 : decode b_Rm_verified 240 = .ok (.aload_n 0, 1) := by decide +kernel
theorem d_Rm_verified_241 : decode b_Rm_verified 241 = .ok (.getfield 199, 3) := by decide +kernel
theorem d_Rm_verified_244 : decode b_Rm_verified 244 = .ok (.invokevirtual 386, 3) := by decide +kernel
theorem d_Rm_verified_247 : decode b_Rm_verified 247 = .ok (.aload_n 0, 1) := by decide +kernel
theorem d_Rm_verified_248 : decode b_Rm_verified 248 = .ok (.getfield 169, 3) := by decide +kernel
theorem d_Rm_verified_251 : decode b_Rm_verified 251 = .ok (.aload_n 0, 1) := by decide +kernel
theorem d_Rm_verified_252 : decode b_Rm_verified 252 = .ok (.getfield 190, 3) := by decide +kernel
theorem d_Rm_verified_255 : decode b_Rm_verified 255 = .ok (.invokestatic 286, 3) := by decide +kernel
theorem d_Rm_verified_258 : decode b_Rm_verified 258 = .ok (.aload_n 0, 1) := by decide +kernel
theorem d_Rm_verified_259 : decode b_Rm_verified 259 = .ok (.getfield 172, 3) := by decide +kernel
theorem d_Rm_verified_262 : decode b_Rm_verified 262 = .ok (.aload_n 0, 1) := by decide +kernel
theorem d_Rm_verified_263 : decode b_Rm_verified 263 = .ok (.getfield 202, 3) := by decide +kernel
theorem d_Rm_verified_266 : decode b_Rm_verified 266 = .ok (.invokestatic 286, 3) := by decide +kernel
theorem d_Rm_verified_269 : decode b_Rm_verified 269 = .ok (.aload_n 0, 1) := by decide +kernel
theorem d_Rm_verified_270 : decode b_Rm_verified 270 = .ok (.iload_n 2, 1) := by decide +kernel
theorem d_Rm_verified_271 : decode b_Rm_verified 271 = .ok (.putfield 345, 3) := by decide +kernel
theorem d_Rm_verified_274 : decode b_Rm_verified 274 = .ok (.aload_n 0, 1) := by decide +kernel
theorem d_Rm_verified_275 : decode b_Rm_verified 275 = .ok (.invokevirtual 355, 3) := by decide +kernel
theorem d_Rm_verified_278 : decode b_Rm_verified 278 = .ok (.aload_n 0, 1) := by decide +kernel
theorem d_Rm_verified_279 : decode b_Rm_verified 279 = .ok (.iconst 0, 1) := by decide +kernel
theorem d_Rm_verified_280 : decode b_Rm_verified 280 = .ok (.putfield 345, 3) := by decide +kernel
theorem d_Rm_verified_283 : decode b_Rm_verified 283 = .ok (.aload_n 0, 1) := by decide +kernel
theorem d_Rm_verified_284 : decode b_Rm_verified 284 = .ok (.getfield 349, 3) := by decide +kernel
theorem d_Rm_verified_287 : decode b_Rm_verified 287 = .ok (.ifCond .eq 5, 3) := by decide +kernel
theorem d_Rm_verified_290 : decode b_Rm_verified 290 = .ok (.iconst 4, 1) := by decide +kernel
theorem d_Rm_verified_291 : decode b_Rm_verified 291 = .ok (.ireturn, 1) := by decide +kernel
theorem d_Rm_verified_292 : decode b_Rm_verified 292 = .ok (.aload_n 0, 1) := by decide +kernel
theorem d_Rm_verified_293 : decode b_Rm_verified 293 = .ok (.getfield 163, 3) := by decide +kernel
theorem d_Rm_verified_296 : decode b_Rm_verified 296 = .ok (.aload_n 0, 1) := by decide +kernel
theorem d_Rm_verified_297 : decode b_Rm_verified 297 = .ok (.getfield 49, 3) := by decide +kernel
theorem d_Rm_verified_300 : decode b_Rm_verified 300 = .ok (.invokestatic 268, 3) := by decide +kernel
theorem d_Rm_verified_303 : decode b_Rm_verified 303 = .ok (.ifCond .ne 18, 3) := by decide +kernel
theorem d_Rm_verified_306 : decode b_Rm_verified 306 = .ok (.aload_n 0, 1) := by decide +kernel
theorem d_Rm_verified_307 : decode b_Rm_verified 307 = .ok (.getfield 163, 3) := by decide +kernel
theorem d_Rm_verified_310 : decode b_Rm_verified 310 = .ok (.aload_n 0, 1) := by decide +kernel
theorem d_Rm_verified_311 : decode b_Rm_verified 311 = .ok (.getfield 163, 3) := by decide +kernel
theorem d_Rm_verified_314 : decode b_Rm_verified 314 = .ok (.aload_n 0, 1) := by decide +kernel
theorem d_Rm_verified_315 : decode b_Rm_verified 315 = .ok (.getfield 49, 3) := by decide +kernel
theorem d_Rm_verified_318 : decode b_Rm_verified 318 = .ok (.invokestatic 272, 3) := by decide +kernel
theorem d_Rm_verified_321 : decode b_Rm_verified 321 = .ok (.aload_n 0, 1) := by decide +kernel
theorem d_Rm_verified_322 : decode b_Rm_verified 322 = .ok (.getfield 163, 3) := by decide +kernel
theorem d_Rm_verified_325 : decode b_Rm_verified 325 = .ok (.aload_n 0, 1) := by decide +kernel
theorem d_Rm_verified_326 : decode b_Rm_verified 326 = .ok (.getfield 193, 3) := by decide +kernel
theorem d_Rm_verified_329 : decode b_Rm_verified 329 = .ok (.invokestatic 342, 3) := by decide +kernel
theorem d_Rm_verified_332 : decode b_Rm_verified 332 = .ok (.ifCond .eq 7, 3) := by decide +kernel
theorem d_Rm_verified_335 : decode b_Rm_verified 335 = .ok (.iconst 0, 1) := by decide +kernel
theorem d_Rm_verified_336 : decode b_Rm_verified 336 = .ok (.goto 4, 3) := by decide +kernel
theorem d_Rm_verified_339 : decode b_Rm_verified 339 = .ok (.iconst 4, 1) := by decide +kernel
theorem d_Rm_verified_340 : decode b_Rm_verified 340 = .ok (.ireturn, 1) := by decide +kernel
theorem cd_Rm_429 : CD "PrimeKeysModel" 429 y_Rm_ranged b_Rm_ranged 2 (some .boolean) 1 := ⟨tb_5 (List.mem_of_getElem? (i := 222) rfl) rfl, tb_1 (List.mem_of_getElem? (i := 13) (by decide +kernel)) rfl, tb_5 (List.mem_of_getElem? (i := 219) (by decide +kernel)) rfl, by decide +kernel⟩
theorem kw_in_Rm_ranged : Cond.instanceMethod y_Rm_ranged ∈ TB := tb_5 (List.mem_of_getElem? (i := 221) (by decide +kernel)) rfl
theorem kw_se_Rm_ranged : Cond.selects "PrimeKeysModel" y_Rm_ranged y_Rm_ranged ∈ TB := tb_p (q := (y_Rm_ranged, 50)) (by decide +kernel)
theorem cd_Rm_426 : CD "PrimeKeysModel" 426 y_Rm_get b_Rm_get 4 (some .int) 1 := ⟨tb_5 (List.mem_of_getElem? (i := 218) rfl) rfl, tb_1 (List.mem_of_getElem? (i := 13) (by decide +kernel)) rfl, tb_5 (List.mem_of_getElem? (i := 215) (by decide +kernel)) rfl, by decide +kernel⟩
theorem kw_in_Rm_get : Cond.instanceMethod y_Rm_get ∈ TB := tb_5 (List.mem_of_getElem? (i := 217) (by decide +kernel)) rfl
theorem kw_se_Rm_get : Cond.selects "PrimeKeysModel" y_Rm_get y_Rm_get ∈ TB := tb_p (q := (y_Rm_get, 50)) (by decide +kernel)
abbrev rm_Rm_verified : Room := { frames := 6, cells := 0, slots := 0, locals := 148 }
def B_Rm_verified_50 (h : HP) : Option (Int32 × HP) :=
  some (1, h)
set_option maxHeartbeats 4000000 in
set_option maxRecDepth 100000 in
theorem bk_Rm_verified_50 {l : Launch} {x : CX} {h0 h' : HP} {r' : Int32} (C : EV x b_Rm_verified "PrimeKeysModel" 3 rm_Rm_verified) (T : CT x (some .int) rm_Rm_verified h0 (some (.int r')) h') (hl0 : x.1.2.1 = l) (h : HP) (hr : B_Rm_verified_50 h = some (r', h')) : GG x 0 0 h 50 [] [] := by
  unfold B_Rm_verified_50 at hr
  refine g_iconst (v := 1) C d_Rm_verified_50 (by decide) ?_
  cases hr
  exact g_ireturn C T rfl (by decide) (by decide) d_Rm_verified_51
def B_Rm_verified_125 (h : HP) : Option (Int32 × HP) :=
  some (2, h)
set_option maxHeartbeats 4000000 in
set_option maxRecDepth 100000 in
theorem bk_Rm_verified_125 {l : Launch} {x : CX} {h0 h' : HP} {r' : Int32} (C : EV x b_Rm_verified "PrimeKeysModel" 3 rm_Rm_verified) (T : CT x (some .int) rm_Rm_verified h0 (some (.int r')) h') (hl0 : x.1.2.1 = l) (h : HP) (hr : B_Rm_verified_125 h = some (r', h')) : GG x 0 0 h 125 [] [] := by
  unfold B_Rm_verified_125 at hr
  refine g_iconst (v := 2) C d_Rm_verified_125 (by decide) ?_
  cases hr
  exact g_ireturn C T rfl (by decide) (by decide) d_Rm_verified_126
def B_Rm_verified_321 (h : HP) (a0 : Nat) : Option (Int32 × HP) :=
  bnd (gR h a0 8 17) fun k69 =>
  bnd (gR h a0 8 29) fun k70 =>
  bnd2 (P_Rm_alike h k69 k70) fun v72 h71 =>
  if v72 = 0 then
  some (4, h71)
  else
  some (0, h71)
set_option maxHeartbeats 4000000 in
set_option maxRecDepth 100000 in
theorem bk_Rm_verified_321 {l : Launch} {x : CX} {h0 h' : HP} {r' : Int32} (C : EV x b_Rm_verified "PrimeKeysModel" 3 rm_Rm_verified) (T : CT x (some .int) rm_Rm_verified h0 (some (.int r')) h') (hl0 : x.1.2.1 = l) (h : HP) (a0 : Nat) (hr : B_Rm_verified_321 h a0 = some (r', h')) : GG x 0 0 h 321 [(0, .ref a0)] [] := by
  unfold B_Rm_verified_321 at hr
  refine g_aload_n C 0 rfl d_Rm_verified_321 rfl ?_
  obtain ⟨k69, ek69, hr⟩ := of_bnd hr
  refine g_getR C fl_Rm_163 ek69 d_Rm_verified_322 ?_
  refine g_aload_n C 0 rfl d_Rm_verified_325 rfl ?_
  obtain ⟨k70, ek70, hr⟩ := of_bnd hr
  refine g_getR C fl_Rm_193 ek70 d_Rm_verified_326 ?_
  obtain ⟨v72, h71, eh71, hr⟩ := of_bnd2 hr
  refine g_callS (pa := [.ref k69, .ref k70]) C hl0 (c_Rm_alike eh71) cd_Rm_342 kw_st_Rm_alike (by decide) rfl rfl (Nat.le_of_ble_eq_true rfl) d_Rm_verified_329 ?_
  refine g_if_eq (tgt := 339) C d_Rm_verified_332 (by decide) (fun z => ?_) (fun z => ?_)
  · have hr := of_if z hr
    refine g_iconst (v := 4) C d_Rm_verified_339 (by decide) ?_
    cases hr
    exact g_ireturn C T rfl (by decide) (by decide) d_Rm_verified_340
  · have hr := of_el z hr
    refine g_iconst (v := 0) C d_Rm_verified_335 (by decide) ?_
    refine g_goto (tgt := 340) C d_Rm_verified_336 (by decide) ?_
    cases hr
    exact g_ireturn C T rfl (by decide) (by decide) d_Rm_verified_340
def P_Rm_verified (h : HP) (p0 : Nat) : Option (Int32 × HP) :=
  bnd (gI h p0 8 5) fun v1 =>
  if v1 < 67 then
  B_Rm_verified_50 h
  else
  bnd (gR h p0 8 1) fun k2 =>
  bnd (ldB h k2 65) fun v3 =>
  if v3 = 48 then
  bnd (gR h p0 8 1) fun k4 =>
  bnd (ldB h k4 66) fun v5 =>
  bnd (gI h p0 8 5) fun v6 =>
  if v5 = v6 - 67 then
  bnd (gI h p0 8 5) fun v7 =>
  if v7 - 67 ≤ 127 then
  ob h p0 8 (
  bnd2 (P_Rm_get h p0 67) fun v9 h8 =>
  if 0 ≤ v9 then
  bnd (gR h8 p0 8 29) fun k10 =>
  bnd (gR h8 p0 8 27) fun k11 =>
  bnd (P_Rm_copy h8 k10 k11) fun h12 =>
  ob h12 p0 8 (
  bnd2 (P_Rm_get h12 p0 v9) fun v14 h13 =>
  bnd (gI h13 p0 8 5) fun v15 =>
  if v14 = v15 then
  bnd (gR h13 p0 8 30) fun k16 =>
  bnd (gR h13 p0 8 27) fun k17 =>
  bnd (P_Rm_copy h13 k16 k17) fun h18 =>
  bnd (gR h18 p0 8 29) fun k19 =>
  ob h18 p0 8 (
  bnd2 (P_Rm_ranged h18 p0 k19) fun v21 h20 =>
  if v21 = 0 then
  B_Rm_verified_125 h20
  else
  bnd (gR h20 p0 8 30) fun k22 =>
  ob h20 p0 8 (
  bnd2 (P_Rm_ranged h20 p0 k22) fun v24 h23 =>
  if v24 = 0 then
  B_Rm_verified_125 h23
  else
  ob h23 p0 8 (
  bnd2 (P_Rm_taken h23 p0) fun v26 h25 =>
  if v26 = 0 then
  some (3, h25)
  else
  ob h25 p0 8 (
  bnd (P_Rm_hashed h25 p0) fun h27 =>
  bnd (gR h27 p0 8 32) fun k28 =>
  bnd (gR h27 p0 8 30) fun k29 =>
  bnd (gR h27 p0 8 11) fun k30 =>
  ob h27 p0 8 (
  bnd (P_Rm_inverse h27 p0 k28 k29 k30) fun h31 =>
  bnd (gR h31 p0 8 31) fun k32 =>
  bnd (gR h31 p0 8 29) fun k33 =>
  bnd (gR h31 p0 8 32) fun k34 =>
  bnd (gR h31 p0 8 11) fun k35 =>
  bnd (gR h31 p0 8 16) fun k36 =>
  ob h31 p0 8 (
  bnd (P_Rm_times h31 p0 k32 k33 k34 k35 k36) fun h37 =>
  bnd (gR h37 p0 8 31) fun k38 =>
  ob h37 p0 8 (
  bnd (P_Rm_multiply h37 p0 k38) fun h39 =>
  bnd (gR h39 p0 8 31) fun k40 =>
  bnd (gR h39 p0 8 28) fun k41 =>
  bnd (gR h39 p0 8 32) fun k42 =>
  bnd (gR h39 p0 8 11) fun k43 =>
  bnd (gR h39 p0 8 16) fun k44 =>
  ob h39 p0 8 (
  bnd (P_Rm_times h39 p0 k40 k41 k42 k43 k44) fun h45 =>
  bnd (gR h45 p0 8 28) fun k46 =>
  bnd (gR h45 p0 8 17) fun k47 =>
  bnd (P_Rm_copy h45 k46 k47) fun h48 =>
  bnd (gR h48 p0 8 32) fun k49 =>
  bnd (gR h48 p0 8 18) fun k50 =>
  bnd (P_Rm_copy h48 k49 k50) fun h51 =>
  bnd (gI h51 p0 8 23) fun v52 =>
  bnd (gR h51 p0 8 31) fun k53 =>
  ob h51 p0 8 (
  bnd (P_Rm_fromBase h51 p0 k53) fun h54 =>
  bnd (gR h54 p0 8 19) fun k55 =>
  bnd (gR h54 p0 8 28) fun k56 =>
  bnd (P_Rm_copy h54 k55 k56) fun h57 =>
  bnd (gR h57 p0 8 20) fun k58 =>
  bnd (gR h57 p0 8 32) fun k59 =>
  bnd (P_Rm_copy h57 k58 k59) fun h60 =>
  bnd (pZ h60 p0 8 24 v52) fun h61 =>
  ob h61 p0 8 (
  bnd (P_Rm_add h61 p0) fun h62 =>
  bnd (pZ h62 p0 8 24 0) fun h63 =>
  bnd (gI h63 p0 8 23) fun v64 =>
  if v64 = 0 then
  bnd (gR h63 p0 8 17) fun k65 =>
  bnd (gR h63 p0 8 11) fun k66 =>
  bnd2 (P_Rm_below h63 k65 k66) fun v68 h67 =>
  if v68 = 0 then
  bnd (gR h67 p0 8 17) fun k73 =>
  bnd (gR h67 p0 8 17) fun k74 =>
  bnd (gR h67 p0 8 11) fun k75 =>
  bnd (P_Rm_less h67 k73 k74 k75) fun h76 =>
  B_Rm_verified_321 h76 p0
  else
  B_Rm_verified_321 h67 p0
  else
  some (4, h63)))))))))))
  else
  some (1, h13))
  else
  some (1, h8))
  else
  B_Rm_verified_50 h
  else
  B_Rm_verified_50 h
  else
  B_Rm_verified_50 h
set_option maxHeartbeats 4000000 in
set_option maxRecDepth 100000 in
theorem c_Rm_verified {l : Launch} {h h' : HP} {p0 : _} {r' : Int32} (hr : P_Rm_verified h p0 = some (r', h')) : MP l y_Rm_verified (Cond.code y_Rm_verified b_Rm_verified 3 (some .int) :: TB) rm_Rm_verified h [.ref p0] (some (.int r')) h' := by
  refine MP_intro (cc := b_Rm_verified) (by decide) (Nat.le_of_ble_eq_true rfl) (fun x hl0 C T hin => ?_)
  unfold P_Rm_verified at hr
  show GG x 0 0 h 0 [(0, .ref p0)] []
  refine g_aload_n C 0 rfl d_Rm_verified_0 rfl ?_
  obtain ⟨v1, ev1, hr⟩ := of_bnd hr
  refine g_getI C fl_Rm_389 ev1 d_Rm_verified_1 ?_
  refine g_bipush (v := 67) C d_Rm_verified_4 (by decide) ?_
  refine g_icmp_lt (tgt := 50) C d_Rm_verified_6 (by decide) (fun z => ?_) (fun z => ?_)
  · have hr := of_if z hr
    refine g_lv [] rfl ?_
    exact bk_Rm_verified_50 C T hl0 h hr
  · have hr := of_el z hr
    refine g_aload_n C 0 rfl d_Rm_verified_9 rfl ?_
    obtain ⟨k2, ek2, hr⟩ := of_bnd hr
    refine g_getR C fl_Rm_8 ek2 d_Rm_verified_10 ?_
    refine g_bipush (v := 65) C d_Rm_verified_13 (by decide) ?_
    obtain ⟨v3, ev3, hr⟩ := of_bnd hr
    refine g_baload C ev3 d_Rm_verified_15 ?_
    refine g_bipush (v := 48) C d_Rm_verified_16 (by decide) ?_
    refine g_icmp_ne (tgt := 50) C d_Rm_verified_18 (by decide) (fun z => ?_) (fun z => ?_)
    · have hr := of_el z hr
      refine g_lv [] rfl ?_
      exact bk_Rm_verified_50 C T hl0 h hr
    · have hr := of_if z hr
      refine g_aload_n C 0 rfl d_Rm_verified_21 rfl ?_
      obtain ⟨k4, ek4, hr⟩ := of_bnd hr
      refine g_getR C fl_Rm_8 ek4 d_Rm_verified_22 ?_
      refine g_bipush (v := 66) C d_Rm_verified_25 (by decide) ?_
      obtain ⟨v5, ev5, hr⟩ := of_bnd hr
      refine g_baload C ev5 d_Rm_verified_27 ?_
      refine g_aload_n C 0 rfl d_Rm_verified_28 rfl ?_
      obtain ⟨v6, ev6, hr⟩ := of_bnd hr
      refine g_getI C fl_Rm_389 ev6 d_Rm_verified_29 ?_
      refine g_bipush (v := 67) C d_Rm_verified_32 (by decide) ?_
      refine g_isub C d_Rm_verified_34 ?_
      refine g_icmp_ne (tgt := 50) C d_Rm_verified_35 (by decide) (fun z => ?_) (fun z => ?_)
      · have hr := of_el z hr
        refine g_lv [] rfl ?_
        exact bk_Rm_verified_50 C T hl0 h hr
      · have hr := of_if z hr
        refine g_aload_n C 0 rfl d_Rm_verified_38 rfl ?_
        obtain ⟨v7, ev7, hr⟩ := of_bnd hr
        refine g_getI C fl_Rm_389 ev7 d_Rm_verified_39 ?_
        refine g_bipush (v := 67) C d_Rm_verified_42 (by decide) ?_
        refine g_isub C d_Rm_verified_44 ?_
        refine g_bipush (v := 127) C d_Rm_verified_45 (by decide) ?_
        refine g_icmp_le (tgt := 52) C d_Rm_verified_47 (by decide) (fun z => ?_) (fun z => ?_)
        · have hr := of_if z hr
          refine g_aload_n C 0 rfl d_Rm_verified_52 rfl ?_
          refine g_bipush (v := 67) C d_Rm_verified_53 (by decide) ?_
          obtain ⟨fsh8, hoh8, hr⟩ := of_ob hr
          obtain ⟨v9, h8, eh8, hr⟩ := of_bnd2 hr
          refine g_callV (pa := [.int 67]) C hl0 (c_Rm_get eh8) cd_Rm_426 kw_in_Rm_get kw_se_Rm_get hoh8 rfl rfl (by decide) rfl rfl (Nat.le_of_ble_eq_true rfl) d_Rm_verified_55 ?_
          refine g_istore_n (lv' := [(1, .int v9), (0, .ref p0)]) C d_Rm_verified_58 rfl (by decide) rfl ?_
          refine g_iload_n C 0 rfl d_Rm_verified_59 rfl ?_
          refine g_if_ge (tgt := 65) C d_Rm_verified_60 (by decide) (fun z => ?_) (fun z => ?_)
          · have hr := of_if z hr
            refine g_aload_n C 1 rfl d_Rm_verified_65 rfl ?_
            obtain ⟨k10, ek10, hr⟩ := of_bnd hr
            refine g_getR C fl_Rm_193 ek10 d_Rm_verified_66 ?_
            refine g_aload_n C 1 rfl d_Rm_verified_69 rfl ?_
            obtain ⟨k11, ek11, hr⟩ := of_bnd hr
            refine g_getR C fl_Rm_187 ek11 d_Rm_verified_70 ?_
            obtain ⟨h12, eh12, hr⟩ := of_bnd hr
            refine g_callS (pa := [.ref k10, .ref k11]) C hl0 (c_Rm_copy eh12) cd_Rm_286 kw_st_Rm_copy (by decide) rfl rfl (Nat.le_of_ble_eq_true rfl) d_Rm_verified_73 ?_
            refine g_aload_n C 1 rfl d_Rm_verified_76 rfl ?_
            refine g_iload_n C 0 rfl d_Rm_verified_77 rfl ?_
            obtain ⟨fsh13, hoh13, hr⟩ := of_ob hr
            obtain ⟨v14, h13, eh13, hr⟩ := of_bnd2 hr
            refine g_callV (pa := [.int v9]) C hl0 (c_Rm_get eh13) cd_Rm_426 kw_in_Rm_get kw_se_Rm_get hoh13 rfl rfl (by decide) rfl rfl (Nat.le_of_ble_eq_true rfl) d_Rm_verified_78 ?_
            refine g_istore_n (lv' := [(1, .int v14), (0, .ref p0)]) C d_Rm_verified_81 rfl (by decide) rfl ?_
            refine g_iload_n C 0 rfl d_Rm_verified_82 rfl ?_
            refine g_aload_n C 1 rfl d_Rm_verified_83 rfl ?_
            obtain ⟨v15, ev15, hr⟩ := of_bnd hr
            refine g_getI C fl_Rm_389 ev15 d_Rm_verified_84 ?_
            refine g_icmp_eq (tgt := 92) C d_Rm_verified_87 (by decide) (fun z => ?_) (fun z => ?_)
            · have hr := of_if z hr
              refine g_aload_n C 1 rfl d_Rm_verified_92 rfl ?_
              obtain ⟨k16, ek16, hr⟩ := of_bnd hr
              refine g_getR C fl_Rm_196 ek16 d_Rm_verified_93 ?_
              refine g_aload_n C 1 rfl d_Rm_verified_96 rfl ?_
              obtain ⟨k17, ek17, hr⟩ := of_bnd hr
              refine g_getR C fl_Rm_187 ek17 d_Rm_verified_97 ?_
              obtain ⟨h18, eh18, hr⟩ := of_bnd hr
              refine g_callS (pa := [.ref k16, .ref k17]) C hl0 (c_Rm_copy eh18) cd_Rm_286 kw_st_Rm_copy (by decide) rfl rfl (Nat.le_of_ble_eq_true rfl) d_Rm_verified_100 ?_
              refine g_aload_n C 1 rfl d_Rm_verified_103 rfl ?_
              refine g_aload_n C 1 rfl d_Rm_verified_104 rfl ?_
              obtain ⟨k19, ek19, hr⟩ := of_bnd hr
              refine g_getR C fl_Rm_193 ek19 d_Rm_verified_105 ?_
              obtain ⟨fsh20, hoh20, hr⟩ := of_ob hr
              obtain ⟨v21, h20, eh20, hr⟩ := of_bnd2 hr
              refine g_callV (pa := [.ref k19]) C hl0 (c_Rm_ranged eh20) cd_Rm_429 kw_in_Rm_ranged kw_se_Rm_ranged hoh20 rfl rfl (by decide) rfl rfl (Nat.le_of_ble_eq_true rfl) d_Rm_verified_108 ?_
              refine g_if_eq (tgt := 125) C d_Rm_verified_111 (by decide) (fun z => ?_) (fun z => ?_)
              · have hr := of_if z hr
                refine g_lv [] rfl ?_
                exact bk_Rm_verified_125 C T hl0 h20 hr
              · have hr := of_el z hr
                refine g_aload_n C 1 rfl d_Rm_verified_114 rfl ?_
                refine g_aload_n C 1 rfl d_Rm_verified_115 rfl ?_
                obtain ⟨k22, ek22, hr⟩ := of_bnd hr
                refine g_getR C fl_Rm_196 ek22 d_Rm_verified_116 ?_
                obtain ⟨fsh23, hoh23, hr⟩ := of_ob hr
                obtain ⟨v24, h23, eh23, hr⟩ := of_bnd2 hr
                refine g_callV (pa := [.ref k22]) C hl0 (c_Rm_ranged eh23) cd_Rm_429 kw_in_Rm_ranged kw_se_Rm_ranged hoh23 rfl rfl (by decide) rfl rfl (Nat.le_of_ble_eq_true rfl) d_Rm_verified_119 ?_
                refine g_if_ne (tgt := 127) C d_Rm_verified_122 (by decide) (fun z => ?_) (fun z => ?_)
                · have hr := of_el z hr
                  refine g_aload_n C 1 rfl d_Rm_verified_127 rfl ?_
                  obtain ⟨fsh25, hoh25, hr⟩ := of_ob hr
                  obtain ⟨v26, h25, eh25, hr⟩ := of_bnd2 hr
                  refine g_callV (pa := []) C hl0 (c_Rm_taken eh25) cd_Rm_410 kw_in_Rm_taken kw_se_Rm_taken hoh25 rfl rfl (by decide) rfl rfl (Nat.le_of_ble_eq_true rfl) d_Rm_verified_128 ?_
                  refine g_if_ne (tgt := 136) C d_Rm_verified_131 (by decide) (fun z => ?_) (fun z => ?_)
                  · have hr := of_el z hr
                    refine g_aload_n C 1 rfl d_Rm_verified_136 rfl ?_
                    obtain ⟨fsh27, hoh27, hr⟩ := of_ob hr
                    obtain ⟨h27, eh27, hr⟩ := of_bnd hr
                    refine g_callV (pa := []) C hl0 (c_Rm_hashed eh27) cd_Rm_413 kw_in_Rm_hashed kw_se_Rm_hashed hoh27 rfl rfl (by decide) rfl rfl (Nat.le_of_ble_eq_true rfl) d_Rm_verified_137 ?_
                    refine g_aload_n C 1 rfl d_Rm_verified_140 rfl ?_
                    refine g_aload_n C 1 rfl d_Rm_verified_141 rfl ?_
                    obtain ⟨k28, ek28, hr⟩ := of_bnd hr
                    refine g_getR C fl_Rm_202 ek28 d_Rm_verified_142 ?_
                    refine g_aload_n C 1 rfl d_Rm_verified_145 rfl ?_
                    obtain ⟨k29, ek29, hr⟩ := of_bnd hr
                    refine g_getR C fl_Rm_196 ek29 d_Rm_verified_146 ?_
                    refine g_aload_n C 1 rfl d_Rm_verified_149 rfl ?_
                    obtain ⟨k30, ek30, hr⟩ := of_bnd hr
                    refine g_getR C fl_Rm_49 ek30 d_Rm_verified_150 ?_
                    obtain ⟨fsh31, hoh31, hr⟩ := of_ob hr
                    obtain ⟨h31, eh31, hr⟩ := of_bnd hr
                    refine g_callV (pa := [.ref k28, .ref k29, .ref k30]) C hl0 (c_Rm_inverse eh31) cd_Rm_352 kw_in_Rm_inverse kw_se_Rm_inverse hoh31 rfl rfl (by decide) rfl rfl (Nat.le_of_ble_eq_true rfl) d_Rm_verified_153 ?_
                    refine g_aload_n C 1 rfl d_Rm_verified_156 rfl ?_
                    refine g_aload_n C 1 rfl d_Rm_verified_157 rfl ?_
                    obtain ⟨k32, ek32, hr⟩ := of_bnd hr
                    refine g_getR C fl_Rm_199 ek32 d_Rm_verified_158 ?_
                    refine g_aload_n C 1 rfl d_Rm_verified_161 rfl ?_
                    obtain ⟨k33, ek33, hr⟩ := of_bnd hr
                    refine g_getR C fl_Rm_193 ek33 d_Rm_verified_162 ?_
                    refine g_aload_n C 1 rfl d_Rm_verified_165 rfl ?_
                    obtain ⟨k34, ek34, hr⟩ := of_bnd hr
                    refine g_getR C fl_Rm_202 ek34 d_Rm_verified_166 ?_
                    refine g_aload_n C 1 rfl d_Rm_verified_169 rfl ?_
                    obtain ⟨k35, ek35, hr⟩ := of_bnd hr
                    refine g_getR C fl_Rm_49 ek35 d_Rm_verified_170 ?_
                    refine g_aload_n C 1 rfl d_Rm_verified_173 rfl ?_
                    obtain ⟨k36, ek36, hr⟩ := of_bnd hr
                    refine g_getR C fl_Rm_160 ek36 d_Rm_verified_174 ?_
                    obtain ⟨fsh37, hoh37, hr⟩ := of_ob hr
                    obtain ⟨h37, eh37, hr⟩ := of_bnd hr
                    refine g_callV (pa := [.ref k32, .ref k33, .ref k34, .ref k35, .ref k36]) C hl0 (c_Rm_times eh37) cd_Rm_338 kw_in_Rm_times kw_se_Rm_times hoh37 rfl rfl (by decide) rfl rfl (Nat.le_of_ble_eq_true rfl) d_Rm_verified_177 ?_
                    refine g_aload_n C 1 rfl d_Rm_verified_180 rfl ?_
                    refine g_aload_n C 1 rfl d_Rm_verified_181 rfl ?_
                    obtain ⟨k38, ek38, hr⟩ := of_bnd hr
                    refine g_getR C fl_Rm_199 ek38 d_Rm_verified_182 ?_
                    obtain ⟨fsh39, hoh39, hr⟩ := of_ob hr
                    obtain ⟨h39, eh39, hr⟩ := of_bnd hr
                    refine g_callV (pa := [.ref k38]) C hl0 (c_Rm_multiply eh39) cd_Rm_362 kw_in_Rm_multiply kw_se_Rm_multiply hoh39 rfl rfl (by decide) rfl rfl (Nat.le_of_ble_eq_true rfl) d_Rm_verified_185 ?_
                    refine g_aload_n C 1 rfl d_Rm_verified_188 rfl ?_
                    refine g_aload_n C 1 rfl d_Rm_verified_189 rfl ?_
                    obtain ⟨k40, ek40, hr⟩ := of_bnd hr
                    refine g_getR C fl_Rm_199 ek40 d_Rm_verified_190 ?_
                    refine g_aload_n C 1 rfl d_Rm_verified_193 rfl ?_
                    obtain ⟨k41, ek41, hr⟩ := of_bnd hr
                    refine g_getR C fl_Rm_190 ek41 d_Rm_verified_194 ?_
                    refine g_aload_n C 1 rfl d_Rm_verified_197 rfl ?_
                    obtain ⟨k42, ek42, hr⟩ := of_bnd hr
                    refine g_getR C fl_Rm_202 ek42 d_Rm_verified_198 ?_
                    refine g_aload_n C 1 rfl d_Rm_verified_201 rfl ?_
                    obtain ⟨k43, ek43, hr⟩ := of_bnd hr
                    refine g_getR C fl_Rm_49 ek43 d_Rm_verified_202 ?_
                    refine g_aload_n C 1 rfl d_Rm_verified_205 rfl ?_
                    obtain ⟨k44, ek44, hr⟩ := of_bnd hr
                    refine g_getR C fl_Rm_160 ek44 d_Rm_verified_206 ?_
                    obtain ⟨fsh45, hoh45, hr⟩ := of_ob hr
                    obtain ⟨h45, eh45, hr⟩ := of_bnd hr
                    refine g_callV (pa := [.ref k40, .ref k41, .ref k42, .ref k43, .ref k44]) C hl0 (c_Rm_times eh45) cd_Rm_338 kw_in_Rm_times kw_se_Rm_times hoh45 rfl rfl (by decide) rfl rfl (Nat.le_of_ble_eq_true rfl) d_Rm_verified_209 ?_
                    refine g_aload_n C 1 rfl d_Rm_verified_212 rfl ?_
                    obtain ⟨k46, ek46, hr⟩ := of_bnd hr
                    refine g_getR C fl_Rm_190 ek46 d_Rm_verified_213 ?_
                    refine g_aload_n C 1 rfl d_Rm_verified_216 rfl ?_
                    obtain ⟨k47, ek47, hr⟩ := of_bnd hr
                    refine g_getR C fl_Rm_163 ek47 d_Rm_verified_217 ?_
                    obtain ⟨h48, eh48, hr⟩ := of_bnd hr
                    refine g_callS (pa := [.ref k46, .ref k47]) C hl0 (c_Rm_copy eh48) cd_Rm_286 kw_st_Rm_copy (by decide) rfl rfl (Nat.le_of_ble_eq_true rfl) d_Rm_verified_220 ?_
                    refine g_aload_n C 1 rfl d_Rm_verified_223 rfl ?_
                    obtain ⟨k49, ek49, hr⟩ := of_bnd hr
                    refine g_getR C fl_Rm_202 ek49 d_Rm_verified_224 ?_
                    refine g_aload_n C 1 rfl d_Rm_verified_227 rfl ?_
                    obtain ⟨k50, ek50, hr⟩ := of_bnd hr
                    refine g_getR C fl_Rm_166 ek50 d_Rm_verified_228 ?_
                    obtain ⟨h51, eh51, hr⟩ := of_bnd hr
                    refine g_callS (pa := [.ref k49, .ref k50]) C hl0 (c_Rm_copy eh51) cd_Rm_286 kw_st_Rm_copy (by decide) rfl rfl (Nat.le_of_ble_eq_true rfl) d_Rm_verified_231 ?_
                    refine g_aload_n C 1 rfl d_Rm_verified_234 rfl ?_
                    obtain ⟨v52, ev52, hr⟩ := of_bnd hr
                    refine g_getI C fl_Rm_349 ev52 d_Rm_verified_235 ?_
                    refine g_istore_n (lv' := [(2, .int v52), (1, .int v14), (0, .ref p0)]) C d_Rm_verified_238 rfl (by decide) rfl ?_
                    refine g_aload_n C 2 rfl d_Rm_verified_239 rfl ?_
                    refine g_aload_n C 2 rfl d_Rm_verified_240 rfl ?_
                    obtain ⟨k53, ek53, hr⟩ := of_bnd hr
                    refine g_getR C fl_Rm_199 ek53 d_Rm_verified_241 ?_
                    obtain ⟨fsh54, hoh54, hr⟩ := of_ob hr
                    obtain ⟨h54, eh54, hr⟩ := of_bnd hr
                    refine g_callV (pa := [.ref k53]) C hl0 (c_Rm_fromBase eh54) cd_Rm_386 kw_in_Rm_fromBase kw_se_Rm_fromBase hoh54 rfl rfl (by decide) rfl rfl (Nat.le_of_ble_eq_true rfl) d_Rm_verified_244 ?_
                    refine g_aload_n C 2 rfl d_Rm_verified_247 rfl ?_
                    obtain ⟨k55, ek55, hr⟩ := of_bnd hr
                    refine g_getR C fl_Rm_169 ek55 d_Rm_verified_248 ?_
                    refine g_aload_n C 2 rfl d_Rm_verified_251 rfl ?_
                    obtain ⟨k56, ek56, hr⟩ := of_bnd hr
                    refine g_getR C fl_Rm_190 ek56 d_Rm_verified_252 ?_
                    obtain ⟨h57, eh57, hr⟩ := of_bnd hr
                    refine g_callS (pa := [.ref k55, .ref k56]) C hl0 (c_Rm_copy eh57) cd_Rm_286 kw_st_Rm_copy (by decide) rfl rfl (Nat.le_of_ble_eq_true rfl) d_Rm_verified_255 ?_
                    refine g_aload_n C 2 rfl d_Rm_verified_258 rfl ?_
                    obtain ⟨k58, ek58, hr⟩ := of_bnd hr
                    refine g_getR C fl_Rm_172 ek58 d_Rm_verified_259 ?_
                    refine g_aload_n C 2 rfl d_Rm_verified_262 rfl ?_
                    obtain ⟨k59, ek59, hr⟩ := of_bnd hr
                    refine g_getR C fl_Rm_202 ek59 d_Rm_verified_263 ?_
                    obtain ⟨h60, eh60, hr⟩ := of_bnd hr
                    refine g_callS (pa := [.ref k58, .ref k59]) C hl0 (c_Rm_copy eh60) cd_Rm_286 kw_st_Rm_copy (by decide) rfl rfl (Nat.le_of_ble_eq_true rfl) d_Rm_verified_266 ?_
                    refine g_aload_n C 2 rfl d_Rm_verified_269 rfl ?_
                    refine g_iload_n C 0 rfl d_Rm_verified_270 rfl ?_
                    obtain ⟨h61, eh61, hr⟩ := of_bnd hr
                    refine g_putZ C fp_Rm_345 eh61 d_Rm_verified_271 ?_
                    refine g_aload_n C 2 rfl d_Rm_verified_274 rfl ?_
                    obtain ⟨fsh62, hoh62, hr⟩ := of_ob hr
                    obtain ⟨h62, eh62, hr⟩ := of_bnd hr
                    refine g_callV (pa := []) C hl0 (c_Rm_add eh62) cd_Rm_355 kw_in_Rm_add kw_se_Rm_add hoh62 rfl rfl (by decide) rfl rfl (Nat.le_of_ble_eq_true rfl) d_Rm_verified_275 ?_
                    refine g_aload_n C 2 rfl d_Rm_verified_278 rfl ?_
                    refine g_iconst (v := 0) C d_Rm_verified_279 (by decide) ?_
                    obtain ⟨h63, eh63, hr⟩ := of_bnd hr
                    refine g_putZ C fp_Rm_345 eh63 d_Rm_verified_280 ?_
                    refine g_aload_n C 2 rfl d_Rm_verified_283 rfl ?_
                    obtain ⟨v64, ev64, hr⟩ := of_bnd hr
                    refine g_getI C fl_Rm_349 ev64 d_Rm_verified_284 ?_
                    refine g_if_eq (tgt := 292) C d_Rm_verified_287 (by decide) (fun z => ?_) (fun z => ?_)
                    · have hr := of_if z hr
                      refine g_aload_n C 2 rfl d_Rm_verified_292 rfl ?_
                      obtain ⟨k65, ek65, hr⟩ := of_bnd hr
                      refine g_getR C fl_Rm_163 ek65 d_Rm_verified_293 ?_
                      refine g_aload_n C 2 rfl d_Rm_verified_296 rfl ?_
                      obtain ⟨k66, ek66, hr⟩ := of_bnd hr
                      refine g_getR C fl_Rm_49 ek66 d_Rm_verified_297 ?_
                      obtain ⟨v68, h67, eh67, hr⟩ := of_bnd2 hr
                      refine g_callS (pa := [.ref k65, .ref k66]) C hl0 (c_Rm_below eh67) cd_Rm_268 kw_st_Rm_below (by decide) rfl rfl (Nat.le_of_ble_eq_true rfl) d_Rm_verified_300 ?_
                      refine g_if_ne (tgt := 321) C d_Rm_verified_303 (by decide) (fun z => ?_) (fun z => ?_)
                      · have hr := of_el z hr
                        refine g_lv [2] rfl ?_
                        exact bk_Rm_verified_321 C T hl0 h67 p0 hr
                      · have hr := of_if z hr
                        refine g_aload_n C 2 rfl d_Rm_verified_306 rfl ?_
                        obtain ⟨k73, ek73, hr⟩ := of_bnd hr
                        refine g_getR C fl_Rm_163 ek73 d_Rm_verified_307 ?_
                        refine g_aload_n C 2 rfl d_Rm_verified_310 rfl ?_
                        obtain ⟨k74, ek74, hr⟩ := of_bnd hr
                        refine g_getR C fl_Rm_163 ek74 d_Rm_verified_311 ?_
                        refine g_aload_n C 2 rfl d_Rm_verified_314 rfl ?_
                        obtain ⟨k75, ek75, hr⟩ := of_bnd hr
                        refine g_getR C fl_Rm_49 ek75 d_Rm_verified_315 ?_
                        obtain ⟨h76, eh76, hr⟩ := of_bnd hr
                        refine g_callS (pa := [.ref k73, .ref k74, .ref k75]) C hl0 (c_Rm_less eh76) cd_Rm_272 kw_st_Rm_less (by decide) rfl rfl (Nat.le_of_ble_eq_true rfl) d_Rm_verified_318 ?_
                        refine g_lv [2] rfl ?_
                        exact bk_Rm_verified_321 C T hl0 h76 p0 hr
                    · have hr := of_el z hr
                      refine g_iconst (v := 4) C d_Rm_verified_290 (by decide) ?_
                      cases hr
                      exact g_ireturn C T rfl (by decide) (by decide) d_Rm_verified_291
                  · have hr := of_if z hr
                    refine g_iconst (v := 3) C d_Rm_verified_134 (by decide) ?_
                    cases hr
                    exact g_ireturn C T rfl (by decide) (by decide) d_Rm_verified_135
                · have hr := of_if z hr
                  refine g_lv [] rfl ?_
                  exact bk_Rm_verified_125 C T hl0 h23 hr
            · have hr := of_el z hr
              refine g_iconst (v := 1) C d_Rm_verified_90 (by decide) ?_
              cases hr
              exact g_ireturn C T rfl (by decide) (by decide) d_Rm_verified_91
          · have hr := of_el z hr
            refine g_iconst (v := 1) C d_Rm_verified_63 (by decide) ?_
            cases hr
            exact g_ireturn C T rfl (by decide) (by decide) d_Rm_verified_64
        · have hr := of_el z hr
          refine g_lv [] rfl ?_
          exact bk_Rm_verified_50 C T hl0 h hr
abbrev b_Rm_verify : ByteArray := prog_12_method_53_code
abbrev y_Rm_verify : MethodName := ⟨"PrimeKeysModel", "verify", "()I"⟩
theorem d_Rm_verify_0 : decode b_Rm_verify 0 = .ok (.aload_n 0, 1) := by decide +kernel
theorem d_Rm_verify_1 : decode b_Rm_verify 1 = .ok (.iconst 0, 1) := by decide +kernel
theorem d_Rm_verify_2 : decode b_Rm_verify 2 = .ok (.putfield 264, 3) := by decide +kernel
theorem d_Rm_verify_5 : decode b_Rm_verify 5 = .ok (.aload_n 0, 1) := by decide +kernel
theorem d_Rm_verify_6 : decode b_Rm_verify 6 = .ok (.getfield 389, 3) := by decide +kernel
theorem d_Rm_verify_9 : decode b_Rm_verify 9 = .ok (.bipush 65, 2) := by decide +kernel
theorem d_Rm_verify_11 : decode b_Rm_verify 11 = .ok (.if_icmp .ge 9, 3) := by decide +kernel
theorem d_Rm_verify_14 : decode b_Rm_verify 14 = .ok (.aload_n 0, 1) := by decide +kernel
theorem d_Rm_verify_15 : decode b_Rm_verify 15 = .ok (.iconst 1, 1) := by decide +kernel
theorem d_Rm_verify_16 : decode b_Rm_verify 16 = .ok (.invokevirtual 393, 3) := by decide +kernel
theorem d_Rm_verify_19 : decode b_Rm_verify 19 = .ok (.ireturn, 1) := by decide +kernel
theorem d_Rm_verify_20 : decode b_Rm_verify 20 = .ok (.aload_n 0, 1) := by decide +kernel
theorem d_Rm_verify_21 : decode b_Rm_verify 21 = .ok (.invokevirtual 432, 3) := by decide +kernel
theorem d_Rm_verify_24 : decode b_Rm_verify 24 = .ok (.istore_n 1, 1) := by decide +kernel
theorem d_Rm_verify_25 : decode b_Rm_verify 25 = .ok (.aload_n 0, 1) := by decide +kernel
theorem d_Rm_verify_26 : decode b_Rm_verify 26 = .ok (.iconst 0, 1) := by decide +kernel
theorem d_Rm_verify_27 : decode b_Rm_verify 27 = .ok (.putfield 389, 3) := by decide +kernel
theorem d_Rm_verify_30 : decode b_Rm_verify 30 = .ok (.aload_n 0, 1) := by decide +kernel
theorem d_Rm_verify_31 : decode b_Rm_verify 31 = .ok (.getfield 23, 3) := by decide +kernel
theorem d_Rm_verify_34 : decode b_Rm_verify 34 = .ok (.iconst 1, 1) := by decide +kernel
theorem d_Rm_verify_35 : decode b_Rm_verify 35 = .ok (.iload_n 1, 1) := by decide +kernel
theorem d_Rm_verify_36 : decode b_Rm_verify 36 = .ok (.iadd, 1) := by decide +kernel
theorem d_Rm_verify_37 : decode b_Rm_verify 37 = .ok (.dup2, 1) := by decide +kernel
theorem d_Rm_verify_38 : decode b_Rm_verify 38 = .ok (.iaload, 1) := by decide +kernel
theorem d_Rm_verify_39 : decode b_Rm_verify 39 = .ok (.iconst 1, 1) := by decide +kernel
theorem d_Rm_verify_40 : decode b_Rm_verify 40 = .ok (.iadd, 1) := by decide +kernel
theorem d_Rm_verify_41 : decode b_Rm_verify 41 = .ok (.iastore, 1) := by decide +kernel
theorem d_Rm_verify_42 : decode b_Rm_verify 42 = .ok (.iload_n 1, 1) := by decide +kernel
theorem d_Rm_verify_43 : decode b_Rm_verify 43 = .ok (.ireturn, 1) := by decide +kernel
theorem cd_Rm_432 : CD "PrimeKeysModel" 432 y_Rm_verified b_Rm_verified 3 (some .int) 0 := ⟨tb_5 (List.mem_of_getElem? (i := 214) rfl) rfl, tb_1 (List.mem_of_getElem? (i := 13) (by decide +kernel)) rfl, tb_5 (List.mem_of_getElem? (i := 211) (by decide +kernel)) rfl, by decide +kernel⟩
theorem kw_in_Rm_verified : Cond.instanceMethod y_Rm_verified ∈ TB := tb_5 (List.mem_of_getElem? (i := 213) (by decide +kernel)) rfl
theorem kw_se_Rm_verified : Cond.selects "PrimeKeysModel" y_Rm_verified y_Rm_verified ∈ TB := tb_p (q := (y_Rm_verified, 50)) (by decide +kernel)
abbrev rm_Rm_verify : Room := { frames := 7, cells := 0, slots := 0, locals := 170 }
def P_Rm_verify (h : HP) (p0 : Nat) : Option (Int32 × HP) :=
  bnd (pV h p0 8 0 (.int 0)) fun h1 =>
  bnd (gI h1 p0 8 5) fun v2 =>
  if 65 ≤ v2 then
  ob h1 p0 8 (
  bnd2 (P_Rm_verified h1 p0) fun v4 h3 =>
  bnd (pV h3 p0 8 5 (.int 0)) fun h5 =>
  bnd (gR h5 p0 8 9) fun k6 =>
  bnd (ldI h5 k6 (1 + v4)) fun v7 =>
  bnd (stI h5 k6 (1 + v4) (v7 + 1)) fun h8 =>
  some (v4, h8))
  else
  ob h1 p0 8 (
  bnd2 (P_Rm_fail h1 p0 1) fun v10 h9 =>
  some (v10, h9))
set_option maxHeartbeats 4000000 in
set_option maxRecDepth 100000 in
theorem c_Rm_verify {l : Launch} {h h' : HP} {p0 : _} {r' : Int32} (hr : P_Rm_verify h p0 = some (r', h')) : MP l y_Rm_verify (Cond.code y_Rm_verify b_Rm_verify 2 (some .int) :: TB) rm_Rm_verify h [.ref p0] (some (.int r')) h' := by
  refine MP_intro (cc := b_Rm_verify) (by decide) (Nat.le_of_ble_eq_true rfl) (fun x hl0 C T hin => ?_)
  unfold P_Rm_verify at hr
  show GG x 0 0 h 0 [(0, .ref p0)] []
  refine g_aload_n C 0 rfl d_Rm_verify_0 rfl ?_
  refine g_iconst (v := 0) C d_Rm_verify_1 (by decide) ?_
  obtain ⟨h1, eh1, hr⟩ := of_bnd hr
  refine g_putI C fp_Rm_264 eh1 d_Rm_verify_2 ?_
  refine g_aload_n C 0 rfl d_Rm_verify_5 rfl ?_
  obtain ⟨v2, ev2, hr⟩ := of_bnd hr
  refine g_getI C fl_Rm_389 ev2 d_Rm_verify_6 ?_
  refine g_bipush (v := 65) C d_Rm_verify_9 (by decide) ?_
  refine g_icmp_ge (tgt := 20) C d_Rm_verify_11 (by decide) (fun z => ?_) (fun z => ?_)
  · have hr := of_if z hr
    refine g_aload_n C 0 rfl d_Rm_verify_20 rfl ?_
    obtain ⟨fsh3, hoh3, hr⟩ := of_ob hr
    obtain ⟨v4, h3, eh3, hr⟩ := of_bnd2 hr
    refine g_callV (pa := []) C hl0 (c_Rm_verified eh3) cd_Rm_432 kw_in_Rm_verified kw_se_Rm_verified hoh3 rfl rfl (by decide) rfl rfl (Nat.le_of_ble_eq_true rfl) d_Rm_verify_21 ?_
    refine g_istore_n (lv' := [(1, .int v4), (0, .ref p0)]) C d_Rm_verify_24 rfl (by decide) rfl ?_
    refine g_aload_n C 1 rfl d_Rm_verify_25 rfl ?_
    refine g_iconst (v := 0) C d_Rm_verify_26 (by decide) ?_
    obtain ⟨h5, eh5, hr⟩ := of_bnd hr
    refine g_putI C fp_Rm_389 eh5 d_Rm_verify_27 ?_
    refine g_aload_n C 1 rfl d_Rm_verify_30 rfl ?_
    obtain ⟨k6, ek6, hr⟩ := of_bnd hr
    refine g_getR C fl_Rm_23 ek6 d_Rm_verify_31 ?_
    refine g_iconst (v := 1) C d_Rm_verify_34 (by decide) ?_
    refine g_iload_n C 0 rfl d_Rm_verify_35 rfl ?_
    refine g_iadd C d_Rm_verify_36 ?_
    refine g_dup2_11 C d_Rm_verify_37 rfl rfl ?_
    obtain ⟨v7, ev7, hr⟩ := of_bnd hr
    refine g_iaload C ev7 d_Rm_verify_38 ?_
    refine g_iconst (v := 1) C d_Rm_verify_39 (by decide) ?_
    refine g_iadd C d_Rm_verify_40 ?_
    obtain ⟨h8, eh8, hr⟩ := of_bnd hr
    refine g_iastore C eh8 d_Rm_verify_41 ?_
    refine g_iload_n C 0 rfl d_Rm_verify_42 rfl ?_
    cases hr
    exact g_ireturn C T rfl (by decide) (by decide) d_Rm_verify_43
  · have hr := of_el z hr
    refine g_aload_n C 0 rfl d_Rm_verify_14 rfl ?_
    refine g_iconst (v := 1) C d_Rm_verify_15 (by decide) ?_
    obtain ⟨fsh9, hoh9, hr⟩ := of_ob hr
    obtain ⟨v10, h9, eh9, hr⟩ := of_bnd2 hr
    refine g_callV (pa := [.int 1]) C hl0 (c_Rm_fail eh9) cd_Rm_393 kw_in_Rm_fail kw_se_Rm_fail hoh9 rfl rfl (by decide) rfl rfl (Nat.le_of_ble_eq_true rfl) d_Rm_verify_16 ?_
    cases hr
    exact g_ireturn C T rfl (by decide) (by decide) d_Rm_verify_19
abbrev b_Rm_back : ByteArray := prog_12_method_54_code
abbrev y_Rm_back : MethodName := ⟨"PrimeKeysModel", "back", "(II)I"⟩
theorem d_Rm_back_0 : decode b_Rm_back 0 = .ok (.aload_n 0, 1) := by decide +kernel
theorem d_Rm_back_1 : decode b_Rm_back 1 = .ok (.iconst 0, 1) := by decide +kernel
theorem d_Rm_back_2 : decode b_Rm_back 2 = .ok (.putfield 264, 3) := by decide +kernel
theorem d_Rm_back_5 : decode b_Rm_back 5 = .ok (.iload_n 1, 1) := by decide +kernel
theorem d_Rm_back_6 : decode b_Rm_back 6 = .ok (.iconst (-1), 1) := by decide +kernel
theorem d_Rm_back_7 : decode b_Rm_back 7 = .ok (.if_icmp .lt 11, 3) := by decide +kernel
theorem d_Rm_back_10 : decode b_Rm_back 10 = .ok (.iload_n 1, 1) := by decide +kernel
theorem d_Rm_back_11 : decode b_Rm_back 11 = .ok (.aload_n 0, 1) := by decide +kernel
theorem d_Rm_back_12 : decode b_Rm_back 12 = .ok (.getfield 403, 3) := by decide +kernel
theorem d_Rm_back_15 : decode b_Rm_back 15 = .ok (.if_icmp .lt 9, 3) := by decide +kernel
theorem d_Rm_back_18 : decode b_Rm_back 18 = .ok (.aload_n 0, 1) := by decide +kernel
theorem d_Rm_back_19 : decode b_Rm_back 19 = .ok (.iconst 1, 1) := by decide +kernel
theorem d_Rm_back_20 : decode b_Rm_back 20 = .ok (.invokevirtual 393, 3) := by decide +kernel
theorem d_Rm_back_23 : decode b_Rm_back 23 = .ok (.ireturn, 1) := by decide +kernel
theorem d_Rm_back_24 : decode b_Rm_back 24 = .ok (.aload_n 0, 1) := by decide +kernel
theorem d_Rm_back_25 : decode b_Rm_back 25 = .ok (.getfield 389, 3) := by decide +kernel
theorem d_Rm_back_28 : decode b_Rm_back 28 = .ok (.aload_n 0, 1) := by decide +kernel
theorem d_Rm_back_29 : decode b_Rm_back 29 = .ok (.getfield 403, 3) := by decide +kernel
theorem d_Rm_back_32 : decode b_Rm_back 32 = .ok (.iadd, 1) := by decide +kernel
theorem d_Rm_back_33 : decode b_Rm_back 33 = .ok (.ldc 7, 2) := by decide +kernel
theorem d_Rm_back_35 : decode b_Rm_back 35 = .ok (.if_icmp .le 9, 3) := by decide +kernel
theorem d_Rm_back_38 : decode b_Rm_back 38 = .ok (.aload_n 0, 1) := by decide +kernel
theorem d_Rm_back_39 : decode b_Rm_back 39 = .ok (.iconst 2, 1) := by decide +kernel
theorem d_Rm_back_40 : decode b_Rm_back 40 = .ok (.invokevirtual 393, 3) := by decide +kernel
theorem d_Rm_back_43 : decode b_Rm_back 43 = .ok (.ireturn, 1) := by decide +kernel
theorem d_Rm_back_44 : decode b_Rm_back 44 = .ok (.iconst 0, 1) := by decide +kernel
theorem d_Rm_back_45 : decode b_Rm_back 45 = .ok (.istore_n 3, 1) := by decide +kernel
theorem d_Rm_back_46 : decode b_Rm_back 46 = .ok (.iload_n 3, 1) := by decide +kernel
theorem d_Rm_back_47 : decode b_Rm_back 47 = .ok (.aload_n 0, 1) := by decide +kernel
theorem d_Rm_back_48 : decode b_Rm_back 48 = .ok (.getfield 403, 3) := by decide +kernel
theorem d_Rm_back_51 : decode b_Rm_back 51 = .ok (.if_icmp .ge 38, 3) := by decide +kernel
theorem d_Rm_back_54 : decode b_Rm_back 54 = .ok (.aload_n 0, 1) := by decide +kernel
theorem d_Rm_back_55 : decode b_Rm_back 55 = .ok (.getfield 8, 3) := by decide +kernel
theorem d_Rm_back_58 : decode b_Rm_back 58 = .ok (.aload_n 0, 1) := by decide +kernel
theorem d_Rm_back_59 : decode b_Rm_back 59 = .ok (.getfield 389, 3) := by decide +kernel
theorem d_Rm_back_62 : decode b_Rm_back 62 = .ok (.iload_n 3, 1) := by decide +kernel
theorem d_Rm_back_63 : decode b_Rm_back 63 = .ok (.iadd, 1) := by decide +kernel
theorem d_Rm_back_64 : decode b_Rm_back 64 = .ok (.aload_n 0, 1) := by decide +kernel
theorem d_Rm_back_65 : decode b_Rm_back 65 = .ok (.getfield 17, 3) := by decide +kernel
theorem d_Rm_back_68 : decode b_Rm_back 68 = .ok (.iload_n 3, 1) := by decide +kernel
theorem d_Rm_back_69 : decode b_Rm_back 69 = .ok (.baload, 1) := by decide +kernel
theorem d_Rm_back_70 : decode b_Rm_back 70 = .ok (.iload_n 3, 1) := by decide +kernel
theorem d_Rm_back_71 : decode b_Rm_back 71 = .ok (.iload_n 1, 1) := by decide +kernel
theorem d_Rm_back_72 : decode b_Rm_back 72 = .ok (.if_icmp .ne 7, 3) := by decide +kernel
theorem d_Rm_back_75 : decode b_Rm_back 75 = .ok (.iload_n 2, 1) := by decide +kernel
theorem d_Rm_back_76 : decode b_Rm_back 76 = .ok (.goto 4, 3) := by decide +kernel
theorem d_Rm_back_79 : decode b_Rm_back 79 = .ok (.iconst 0, 1) := by decide +kernel
theorem d_Rm_back_80 : decode b_Rm_back 80 = .ok (.ixor, 1) := by decide +kernel
theorem d_Rm_back_81 : decode b_Rm_back 81 = .ok (.i2b, 1) := by decide +kernel
theorem d_Rm_back_82 : decode b_Rm_back 82 = .ok (.bastore, 1) := by decide +kernel
theorem d_Rm_back_83 : decode b_Rm_back 83 = .ok (.iinc 3 1, 3) := by decide +kernel
theorem d_Rm_back_86 : decode b_Rm_back 86 = .ok (.goto (-40), 3) := by decide +kernel
theorem d_Rm_back_89 : decode b_Rm_back 89 = .ok (.aload_n 0, 1) := by decide +kernel
theorem d_Rm_back_90 : decode b_Rm_back 90 = .ok (.dup, 1) := by decide +kernel
theorem d_Rm_back_91 : decode b_Rm_back 91 = .ok (.getfield 389, 3) := by decide +kernel
theorem d_Rm_back_94 : decode b_Rm_back 94 = .ok (.aload_n 0, 1) := by decide +kernel
theorem d_Rm_back_95 : decode b_Rm_back 95 = .ok (.getfield 403, 3) := by decide +kernel
theorem d_Rm_back_98 : decode b_Rm_back 98 = .ok (.iadd, 1) := by decide +kernel
theorem d_Rm_back_99 : decode b_Rm_back 99 = .ok (.putfield 389, 3) := by decide +kernel
theorem d_Rm_back_102 : decode b_Rm_back 102 = .ok (.aload_n 0, 1) := by decide +kernel
theorem d_Rm_back_103 : decode b_Rm_back 103 = .ok (.getfield 389, 3) := by decide +kernel
theorem d_Rm_back_106 : decode b_Rm_back 106 = .ok (.ireturn, 1) := by decide +kernel
theorem kw_21 : Cond.constant "PrimeKeysModel" 7 65536 ∈ TB := tb_4 (List.mem_of_getElem? (i := 60) (by decide +kernel)) rfl
abbrev rm_Rm_back : Room := { frames := 1, cells := 0, slots := 0, locals := 21 }
def B_Rm_back_18 (h : HP) (a0 : Nat) : Option (Int32 × HP) :=
  ob h a0 8 (
  bnd2 (P_Rm_fail h a0 1) fun v3 h2 =>
  some (v3, h2))
set_option maxHeartbeats 4000000 in
set_option maxRecDepth 100000 in
theorem bk_Rm_back_18 {l : Launch} {x : CX} {h0 h' : HP} {r' : Int32} (C : EV x b_Rm_back "PrimeKeysModel" 4 rm_Rm_back) (T : CT x (some .int) rm_Rm_back h0 (some (.int r')) h') (hl0 : x.1.2.1 = l) (h : HP) (a0 : Nat) (hr : B_Rm_back_18 h a0 = some (r', h')) : GG x 0 0 h 18 [(0, .ref a0)] [] := by
  unfold B_Rm_back_18 at hr
  refine g_aload_n C 0 rfl d_Rm_back_18 rfl ?_
  refine g_iconst (v := 1) C d_Rm_back_19 (by decide) ?_
  obtain ⟨fsh2, hoh2, hr⟩ := of_ob hr
  obtain ⟨v3, h2, eh2, hr⟩ := of_bnd2 hr
  refine g_callV (pa := [.int 1]) C hl0 (c_Rm_fail eh2) cd_Rm_393 kw_in_Rm_fail kw_se_Rm_fail hoh2 rfl rfl (by decide) rfl rfl (Nat.le_of_ble_eq_true rfl) d_Rm_back_20 ?_
  cases hr
  exact g_ireturn C T rfl (by decide) (by decide) d_Rm_back_23
def B_Rm_back_46 (K46 : HP → Nat → Int32 → Int32 → Int32 → Option (Int32 × HP)) (h : HP) (a0 : Nat) (a1 : Int32) (a2 : Int32) (a3 : Int32) : Option (Int32 × HP) :=
  bnd (gI h a0 8 7) fun v7 =>
  if v7 ≤ a3 then
  bnd (gI h a0 8 5) fun v8 =>
  bnd (gI h a0 8 7) fun v9 =>
  bnd (pV h a0 8 5 (.int (v8 + v9))) fun h10 =>
  bnd (gI h10 a0 8 5) fun v11 =>
  some (v11, h10)
  else
  bnd (gR h a0 8 1) fun k12 =>
  bnd (gI h a0 8 5) fun v13 =>
  bnd (gR h a0 8 3) fun k14 =>
  bnd (ldB h k14 a3) fun v15 =>
  if a3 = a1 then
  bnd (stB h k12 (v13 + a3) ((Int32.toInt8 (v15 ^^^ a2)).toInt32)) fun h18 =>
  lt (a3 + Int32.ofInt 1) fun x19 =>
  K46 h18 a0 a1 a2 x19
  else
  bnd (stB h k12 (v13 + a3) ((Int32.toInt8 (v15 ^^^ 0)).toInt32)) fun h16 =>
  lt (a3 + Int32.ofInt 1) fun x17 =>
  K46 h16 a0 a1 a2 x17
set_option maxHeartbeats 4000000 in
set_option maxRecDepth 100000 in
theorem bk_Rm_back_46 {l : Launch} {x : CX} {h0 h' : HP} {r' : Int32} (C : EV x b_Rm_back "PrimeKeysModel" 4 rm_Rm_back) (T : CT x (some .int) rm_Rm_back h0 (some (.int r')) h') (hl0 : x.1.2.1 = l) (K46 : HP → Nat → Int32 → Int32 → Int32 → Option (Int32 × HP)) (hK46 : ∀ (h : HP) (a0 : Nat) (a1 : Int32) (a2 : Int32) (a3 : Int32), K46 h a0 a1 a2 a3 = some (r', h') → GG x 0 0 h 46 [(0, .ref a0), (1, .int a1), (2, .int a2), (3, .int a3)] []) (h : HP) (a0 : Nat) (a1 : Int32) (a2 : Int32) (a3 : Int32) (hr : B_Rm_back_46 K46 h a0 a1 a2 a3 = some (r', h')) : GG x 0 0 h 46 [(0, .ref a0), (1, .int a1), (2, .int a2), (3, .int a3)] [] := by
  unfold B_Rm_back_46 at hr
  refine g_iload_n C 3 rfl d_Rm_back_46 rfl ?_
  refine g_aload_n C 0 rfl d_Rm_back_47 rfl ?_
  obtain ⟨v7, ev7, hr⟩ := of_bnd hr
  refine g_getI C fl_Rm_403 ev7 d_Rm_back_48 ?_
  refine g_icmp_ge (tgt := 89) C d_Rm_back_51 (by decide) (fun z => ?_) (fun z => ?_)
  · have hr := of_if z hr
    refine g_aload_n C 0 rfl d_Rm_back_89 rfl ?_
    refine g_dup C d_Rm_back_90 rfl ?_
    obtain ⟨v8, ev8, hr⟩ := of_bnd hr
    refine g_getI C fl_Rm_389 ev8 d_Rm_back_91 ?_
    refine g_aload_n C 0 rfl d_Rm_back_94 rfl ?_
    obtain ⟨v9, ev9, hr⟩ := of_bnd hr
    refine g_getI C fl_Rm_403 ev9 d_Rm_back_95 ?_
    refine g_iadd C d_Rm_back_98 ?_
    obtain ⟨h10, eh10, hr⟩ := of_bnd hr
    refine g_putI C fp_Rm_389 eh10 d_Rm_back_99 ?_
    refine g_aload_n C 0 rfl d_Rm_back_102 rfl ?_
    obtain ⟨v11, ev11, hr⟩ := of_bnd hr
    refine g_getI C fl_Rm_389 ev11 d_Rm_back_103 ?_
    cases hr
    exact g_ireturn C T rfl (by decide) (by decide) d_Rm_back_106
  · have hr := of_el z hr
    refine g_aload_n C 0 rfl d_Rm_back_54 rfl ?_
    obtain ⟨k12, ek12, hr⟩ := of_bnd hr
    refine g_getR C fl_Rm_8 ek12 d_Rm_back_55 ?_
    refine g_aload_n C 0 rfl d_Rm_back_58 rfl ?_
    obtain ⟨v13, ev13, hr⟩ := of_bnd hr
    refine g_getI C fl_Rm_389 ev13 d_Rm_back_59 ?_
    refine g_iload_n C 3 rfl d_Rm_back_62 rfl ?_
    refine g_iadd C d_Rm_back_63 ?_
    refine g_aload_n C 0 rfl d_Rm_back_64 rfl ?_
    obtain ⟨k14, ek14, hr⟩ := of_bnd hr
    refine g_getR C fl_Rm_17 ek14 d_Rm_back_65 ?_
    refine g_iload_n C 3 rfl d_Rm_back_68 rfl ?_
    obtain ⟨v15, ev15, hr⟩ := of_bnd hr
    refine g_baload C ev15 d_Rm_back_69 ?_
    refine g_iload_n C 3 rfl d_Rm_back_70 rfl ?_
    refine g_iload_n C 1 rfl d_Rm_back_71 rfl ?_
    refine g_icmp_ne (tgt := 79) C d_Rm_back_72 (by decide) (fun z => ?_) (fun z => ?_)
    · have hr := of_el z hr
      refine g_iconst (v := 0) C d_Rm_back_79 (by decide) ?_
      refine g_ixor C d_Rm_back_80 ?_
      refine g_i2b C d_Rm_back_81 ?_
      obtain ⟨h16, eh16, hr⟩ := of_bnd hr
      refine g_bastore C eh16 d_Rm_back_82 ?_
      obtain ⟨x17, ex17⟩ : ∃ z, z = a3 + Int32.ofInt 1 := ⟨_, rfl⟩
      have hr := of_lt ex17 hr
      refine g_iinc (lv' := [(3, .int x17), (0, .ref a0), (1, .int a1), (2, .int a2)]) C 3 rfl d_Rm_back_83 ex17.symm (by decide) rfl ?_
      refine g_goto (tgt := 46) C d_Rm_back_86 (by decide) ?_
      refine g_lv [1, 2, 3, 0] rfl ?_
      exact hK46 h16 a0 a1 a2 x17 hr
    · have hr := of_if z hr
      refine g_iload_n C 2 rfl d_Rm_back_75 rfl ?_
      refine g_goto (tgt := 80) C d_Rm_back_76 (by decide) ?_
      refine g_ixor C d_Rm_back_80 ?_
      refine g_i2b C d_Rm_back_81 ?_
      obtain ⟨h18, eh18, hr⟩ := of_bnd hr
      refine g_bastore C eh18 d_Rm_back_82 ?_
      obtain ⟨x19, ex19⟩ : ∃ z, z = a3 + Int32.ofInt 1 := ⟨_, rfl⟩
      have hr := of_lt ex19 hr
      refine g_iinc (lv' := [(3, .int x19), (0, .ref a0), (1, .int a1), (2, .int a2)]) C 3 rfl d_Rm_back_83 ex19.symm (by decide) rfl ?_
      refine g_goto (tgt := 46) C d_Rm_back_86 (by decide) ?_
      refine g_lv [1, 2, 3, 0] rfl ?_
      exact hK46 h18 a0 a1 a2 x19 hr
def L_Rm_back_46 : Nat → HP → Nat → Int32 → Int32 → Int32 → Option (Int32 × HP)
  | 0, _, _, _, _, _ => none
  | f + 1, h, a0, a1, a2, a3 => B_Rm_back_46 (L_Rm_back_46 f) h a0 a1 a2 a3
theorem lp_Rm_back_46 {l : Launch} {x : CX} {h0 h' : HP} {r' : Int32} (C : EV x b_Rm_back "PrimeKeysModel" 4 rm_Rm_back) (T : CT x (some .int) rm_Rm_back h0 (some (.int r')) h') (hl0 : x.1.2.1 = l) : ∀ (f : Nat) (h : HP) (a0 : Nat) (a1 : Int32) (a2 : Int32) (a3 : Int32), L_Rm_back_46 f h a0 a1 a2 a3 = some (r', h') → GG x 0 0 h 46 [(0, .ref a0), (1, .int a1), (2, .int a2), (3, .int a3)] [] := by
  intro f
  induction f with
  | zero => intro h a0 a1 a2 a3 hr; have hr : (none : Option (Int32 × HP)) = some (r', h') := hr; cases hr
  | succ f ih => intro h a0 a1 a2 a3 hr; exact bk_Rm_back_46 C T hl0 (L_Rm_back_46 f) ih h a0 a1 a2 a3 hr
def P_Rm_back (h : HP) (p0 : Nat) (p1 : Int32) (p2 : Int32) : Option (Int32 × HP) :=
  bnd (pV h p0 8 0 (.int 0)) fun h1 =>
  if p1 < (-1) then
  B_Rm_back_18 h1 p0
  else
  bnd (gI h1 p0 8 7) fun v4 =>
  if p1 < v4 then
  bnd (gI h1 p0 8 5) fun v5 =>
  bnd (gI h1 p0 8 7) fun v6 =>
  if v5 + v6 ≤ 65536 then
  L_Rm_back_46 FU h1 p0 p1 p2 0
  else
  ob h1 p0 8 (
  bnd2 (P_Rm_fail h1 p0 2) fun v21 h20 =>
  some (v21, h20))
  else
  B_Rm_back_18 h1 p0
set_option maxHeartbeats 4000000 in
set_option maxRecDepth 100000 in
theorem c_Rm_back {l : Launch} {h h' : HP} {p0 p1 p2 : _} {r' : Int32} (hr : P_Rm_back h p0 p1 p2 = some (r', h')) : MP l y_Rm_back (Cond.code y_Rm_back b_Rm_back 4 (some .int) :: TB) rm_Rm_back h [.ref p0, .int p1, .int p2] (some (.int r')) h' := by
  refine MP_intro (cc := b_Rm_back) (by decide) (Nat.le_of_ble_eq_true rfl) (fun x hl0 C T hin => ?_)
  unfold P_Rm_back at hr
  show GG x 0 0 h 0 [(0, .ref p0), (1, .int p1), (2, .int p2)] []
  refine g_aload_n C 0 rfl d_Rm_back_0 rfl ?_
  refine g_iconst (v := 0) C d_Rm_back_1 (by decide) ?_
  obtain ⟨h1, eh1, hr⟩ := of_bnd hr
  refine g_putI C fp_Rm_264 eh1 d_Rm_back_2 ?_
  refine g_iload_n C 1 rfl d_Rm_back_5 rfl ?_
  refine g_iconst (v := (-1)) C d_Rm_back_6 (by decide) ?_
  refine g_icmp_lt (tgt := 18) C d_Rm_back_7 (by decide) (fun z => ?_) (fun z => ?_)
  · have hr := of_if z hr
    refine g_lv [0] rfl ?_
    exact bk_Rm_back_18 C T hl0 h1 p0 hr
  · have hr := of_el z hr
    refine g_iload_n C 1 rfl d_Rm_back_10 rfl ?_
    refine g_aload_n C 0 rfl d_Rm_back_11 rfl ?_
    obtain ⟨v4, ev4, hr⟩ := of_bnd hr
    refine g_getI C fl_Rm_403 ev4 d_Rm_back_12 ?_
    refine g_icmp_lt (tgt := 24) C d_Rm_back_15 (by decide) (fun z => ?_) (fun z => ?_)
    · have hr := of_if z hr
      refine g_aload_n C 0 rfl d_Rm_back_24 rfl ?_
      obtain ⟨v5, ev5, hr⟩ := of_bnd hr
      refine g_getI C fl_Rm_389 ev5 d_Rm_back_25 ?_
      refine g_aload_n C 0 rfl d_Rm_back_28 rfl ?_
      obtain ⟨v6, ev6, hr⟩ := of_bnd hr
      refine g_getI C fl_Rm_403 ev6 d_Rm_back_29 ?_
      refine g_iadd C d_Rm_back_32 ?_
      refine g_ldc (v := 65536) C d_Rm_back_33 kw_21 ?_
      refine g_icmp_le (tgt := 44) C d_Rm_back_35 (by decide) (fun z => ?_) (fun z => ?_)
      · have hr := of_if z hr
        refine g_iconst (v := 0) C d_Rm_back_44 (by decide) ?_
        refine g_istore_n (lv' := [(3, .int 0), (0, .ref p0), (1, .int p1), (2, .int p2)]) C d_Rm_back_45 rfl (by decide) rfl ?_
        refine g_lv [1, 2, 3, 0] rfl ?_
        exact lp_Rm_back_46 C T hl0 FU h1 p0 p1 p2 0 hr
      · have hr := of_el z hr
        refine g_aload_n C 0 rfl d_Rm_back_38 rfl ?_
        refine g_iconst (v := 2) C d_Rm_back_39 (by decide) ?_
        obtain ⟨fsh20, hoh20, hr⟩ := of_ob hr
        obtain ⟨v21, h20, eh20, hr⟩ := of_bnd2 hr
        refine g_callV (pa := [.int 2]) C hl0 (c_Rm_fail eh20) cd_Rm_393 kw_in_Rm_fail kw_se_Rm_fail hoh20 rfl rfl (by decide) rfl rfl (Nat.le_of_ble_eq_true rfl) d_Rm_back_40 ?_
        cases hr
        exact g_ireturn C T rfl (by decide) (by decide) d_Rm_back_43
    · have hr := of_el z hr
      refine g_lv [0] rfl ?_
      exact bk_Rm_back_18 C T hl0 h1 p0 hr
abbrev b_Rm_result : ByteArray := prog_12_method_55_code
abbrev y_Rm_result : MethodName := ⟨"PrimeKeysModel", "result", "(I)I"⟩
theorem d_Rm_result_0 : decode b_Rm_result 0 = .ok (.aload_n 0, 1) := by decide +kernel
theorem d_Rm_result_1 : decode b_Rm_result 1 = .ok (.iconst 0, 1) := by decide +kernel
theorem d_Rm_result_2 : decode b_Rm_result 2 = .ok (.putfield 264, 3) := by decide +kernel
theorem d_Rm_result_5 : decode b_Rm_result 5 = .ok (.iload_n 1, 1) := by decide +kernel
theorem d_Rm_result_6 : decode b_Rm_result 6 = .ok (.ifCond .lt 11, 3) := by decide +kernel
theorem d_Rm_result_9 : decode b_Rm_result 9 = .ok (.iload_n 1, 1) := by decide +kernel
theorem d_Rm_result_10 : decode b_Rm_result 10 = .ok (.aload_n 0, 1) := by decide +kernel
theorem d_Rm_result_11 : decode b_Rm_result 11 = .ok (.getfield 403, 3) := by decide +kernel
theorem d_Rm_result_14 : decode b_Rm_result 14 = .ok (.if_icmp .lt 9, 3) := by decide +kernel
theorem d_Rm_result_17 : decode b_Rm_result 17 = .ok (.aload_n 0, 1) := by decide +kernel
theorem d_Rm_result_18 : decode b_Rm_result 18 = .ok (.iconst 1, 1) := by decide +kernel
theorem d_Rm_result_19 : decode b_Rm_result 19 = .ok (.invokevirtual 393, 3) := by decide +kernel
theorem d_Rm_result_22 : decode b_Rm_result 22 = .ok (.ireturn, 1) := by decide +kernel
theorem d_Rm_result_23 : decode b_Rm_result 23 = .ok (.aload_n 0, 1) := by decide +kernel
theorem d_Rm_result_24 : decode b_Rm_result 24 = .ok (.getfield 17, 3) := by decide +kernel
theorem d_Rm_result_27 : decode b_Rm_result 27 = .ok (.iload_n 1, 1) := by decide +kernel
theorem d_Rm_result_28 : decode b_Rm_result 28 = .ok (.baload, 1) := by decide +kernel
theorem d_Rm_result_29 : decode b_Rm_result 29 = .ok (.sipush 255, 3) := by decide +kernel
theorem d_Rm_result_32 : decode b_Rm_result 32 = .ok (.iand, 1) := by decide +kernel
theorem d_Rm_result_33 : decode b_Rm_result 33 = .ok (.ireturn, 1) := by decide +kernel
abbrev rm_Rm_result : Room := { frames := 1, cells := 0, slots := 0, locals := 21 }
def B_Rm_result_17 (h : HP) (a0 : Nat) : Option (Int32 × HP) :=
  ob h a0 8 (
  bnd2 (P_Rm_fail h a0 1) fun v3 h2 =>
  some (v3, h2))
set_option maxHeartbeats 4000000 in
set_option maxRecDepth 100000 in
theorem bk_Rm_result_17 {l : Launch} {x : CX} {h0 h' : HP} {r' : Int32} (C : EV x b_Rm_result "PrimeKeysModel" 2 rm_Rm_result) (T : CT x (some .int) rm_Rm_result h0 (some (.int r')) h') (hl0 : x.1.2.1 = l) (h : HP) (a0 : Nat) (hr : B_Rm_result_17 h a0 = some (r', h')) : GG x 0 0 h 17 [(0, .ref a0)] [] := by
  unfold B_Rm_result_17 at hr
  refine g_aload_n C 0 rfl d_Rm_result_17 rfl ?_
  refine g_iconst (v := 1) C d_Rm_result_18 (by decide) ?_
  obtain ⟨fsh2, hoh2, hr⟩ := of_ob hr
  obtain ⟨v3, h2, eh2, hr⟩ := of_bnd2 hr
  refine g_callV (pa := [.int 1]) C hl0 (c_Rm_fail eh2) cd_Rm_393 kw_in_Rm_fail kw_se_Rm_fail hoh2 rfl rfl (by decide) rfl rfl (Nat.le_of_ble_eq_true rfl) d_Rm_result_19 ?_
  cases hr
  exact g_ireturn C T rfl (by decide) (by decide) d_Rm_result_22
def P_Rm_result (h : HP) (p0 : Nat) (p1 : Int32) : Option (Int32 × HP) :=
  bnd (pV h p0 8 0 (.int 0)) fun h1 =>
  if p1 < 0 then
  B_Rm_result_17 h1 p0
  else
  bnd (gI h1 p0 8 7) fun v4 =>
  if p1 < v4 then
  bnd (gR h1 p0 8 3) fun k5 =>
  bnd (ldB h1 k5 p1) fun v6 =>
  some (v6 &&& 255, h1)
  else
  B_Rm_result_17 h1 p0
set_option maxHeartbeats 4000000 in
set_option maxRecDepth 100000 in
theorem c_Rm_result {l : Launch} {h h' : HP} {p0 p1 : _} {r' : Int32} (hr : P_Rm_result h p0 p1 = some (r', h')) : MP l y_Rm_result (Cond.code y_Rm_result b_Rm_result 2 (some .int) :: TB) rm_Rm_result h [.ref p0, .int p1] (some (.int r')) h' := by
  refine MP_intro (cc := b_Rm_result) (by decide) (Nat.le_of_ble_eq_true rfl) (fun x hl0 C T hin => ?_)
  unfold P_Rm_result at hr
  show GG x 0 0 h 0 [(0, .ref p0), (1, .int p1)] []
  refine g_aload_n C 0 rfl d_Rm_result_0 rfl ?_
  refine g_iconst (v := 0) C d_Rm_result_1 (by decide) ?_
  obtain ⟨h1, eh1, hr⟩ := of_bnd hr
  refine g_putI C fp_Rm_264 eh1 d_Rm_result_2 ?_
  refine g_iload_n C 1 rfl d_Rm_result_5 rfl ?_
  refine g_if_lt (tgt := 17) C d_Rm_result_6 (by decide) (fun z => ?_) (fun z => ?_)
  · have hr := of_if z hr
    refine g_lv [0] rfl ?_
    exact bk_Rm_result_17 C T hl0 h1 p0 hr
  · have hr := of_el z hr
    refine g_iload_n C 1 rfl d_Rm_result_9 rfl ?_
    refine g_aload_n C 0 rfl d_Rm_result_10 rfl ?_
    obtain ⟨v4, ev4, hr⟩ := of_bnd hr
    refine g_getI C fl_Rm_403 ev4 d_Rm_result_11 ?_
    refine g_icmp_lt (tgt := 23) C d_Rm_result_14 (by decide) (fun z => ?_) (fun z => ?_)
    · have hr := of_if z hr
      refine g_aload_n C 0 rfl d_Rm_result_23 rfl ?_
      obtain ⟨k5, ek5, hr⟩ := of_bnd hr
      refine g_getR C fl_Rm_17 ek5 d_Rm_result_24 ?_
      refine g_iload_n C 1 rfl d_Rm_result_27 rfl ?_
      obtain ⟨v6, ev6, hr⟩ := of_bnd hr
      refine g_baload C ev6 d_Rm_result_28 ?_
      refine g_sipush (v := 255) C d_Rm_result_29 (by decide) ?_
      refine g_iand C d_Rm_result_32 ?_
      cases hr
      exact g_ireturn C T rfl (by decide) (by decide) d_Rm_result_33
    · have hr := of_el z hr
      refine g_lv [0] rfl ?_
      exact bk_Rm_result_17 C T hl0 h1 p0 hr
