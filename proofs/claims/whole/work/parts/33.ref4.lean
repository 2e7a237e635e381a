abbrev b_Rm_turned : ByteArray := prog_12_method_25_code
abbrev y_Rm_turned : MethodName := ⟨"PrimeKeysModel", "turned", "(II)I"⟩
theorem d_Rm_turned_0 : decode b_Rm_turned 0 = .ok (.iload_n 0, 1) := by decide +kernel
theorem d_Rm_turned_1 : decode b_Rm_turned 1 = .ok (.iload_n 1, 1) := by decide +kernel
theorem d_Rm_turned_2 : decode b_Rm_turned 2 = .ok (.iushr, 1) := by decide +kernel
theorem d_Rm_turned_3 : decode b_Rm_turned 3 = .ok (.iload_n 0, 1) := by decide +kernel
theorem d_Rm_turned_4 : decode b_Rm_turned 4 = .ok (.bipush 32, 2) := by decide +kernel
theorem d_Rm_turned_6 : decode b_Rm_turned 6 = .ok (.iload_n 1, 1) := by decide +kernel
theorem d_Rm_turned_7 : decode b_Rm_turned 7 = .ok (.isub, 1) := by decide +kernel
theorem d_Rm_turned_8 : decode b_Rm_turned 8 = .ok (.ishl, 1) := by decide +kernel
theorem d_Rm_turned_9 : decode b_Rm_turned 9 = .ok (.ior, 1) := by decide +kernel
theorem d_Rm_turned_10 : decode b_Rm_turned 10 = .ok (.ireturn, 1) := by decide +kernel
abbrev rm_Rm_turned : Room := { frames := 0, cells := 0, slots := 0, locals := 0 }
def P_Rm_turned (h : HP) (p0 : Int32) (p1 : Int32) : Option (Int32 × HP) :=
  some (((p0.toUInt32 >>> (Int32.toUInt32 p1 &&& Int32.toUInt32 31)).toInt32) ||| (p0 <<< ((32 - p1) &&& 31)), h)
set_option maxHeartbeats 4000000 in
set_option maxRecDepth 100000 in
theorem c_Rm_turned {l : Launch} {h h' : HP} {p0 p1 : _} {r' : Int32} (hr : P_Rm_turned h p0 p1 = some (r', h')) : MP l y_Rm_turned (Cond.code y_Rm_turned b_Rm_turned 2 (some .int) :: TB) rm_Rm_turned h [.int p0, .int p1] (some (.int r')) h' := by
  refine MP_intro (cc := b_Rm_turned) (by decide) (Nat.le_of_ble_eq_true rfl) (fun x hl0 C T hin => ?_)
  unfold P_Rm_turned at hr
  show GG x 0 0 h 0 [(0, .int p0), (1, .int p1)] []
  refine g_iload_n C 0 rfl d_Rm_turned_0 rfl ?_
  refine g_iload_n C 1 rfl d_Rm_turned_1 rfl ?_
  refine g_iushr C d_Rm_turned_2 ?_
  refine g_iload_n C 0 rfl d_Rm_turned_3 rfl ?_
  refine g_bipush (v := 32) C d_Rm_turned_4 (by decide) ?_
  refine g_iload_n C 1 rfl d_Rm_turned_6 rfl ?_
  refine g_isub C d_Rm_turned_7 ?_
  refine g_ishl C d_Rm_turned_8 ?_
  refine g_ior C d_Rm_turned_9 ?_
  cases hr
  exact g_ireturn C T rfl (by decide) (by decide) d_Rm_turned_10
abbrev b_Rm_padded : ByteArray := prog_12_method_26_code
abbrev y_Rm_padded : MethodName := ⟨"PrimeKeysModel", "padded", "([BIII)I"⟩
theorem d_Rm_padded_0 : decode b_Rm_padded 0 = .ok (.iload_n 2, 1) := by decide +kernel
theorem d_Rm_padded_1 : decode b_Rm_padded 1 = .ok (.iload_n 1, 1) := by decide +kernel
theorem d_Rm_padded_2 : decode b_Rm_padded 2 = .ok (.if_icmp .ge 11, 3) := by decide +kernel
theorem d_Rm_padded_5 : decode b_Rm_padded 5 = .ok (.aload_n 0, 1) := by decide +kernel
theorem d_Rm_padded_6 : decode b_Rm_padded 6 = .ok (.iload_n 2, 1) := by decide +kernel
theorem d_Rm_padded_7 : decode b_Rm_padded 7 = .ok (.baload, 1) := by decide +kernel
theorem d_Rm_padded_8 : decode b_Rm_padded 8 = .ok (.sipush 255, 3) := by decide +kernel
theorem d_Rm_padded_11 : decode b_Rm_padded 11 = .ok (.iand, 1) := by decide +kernel
theorem d_Rm_padded_12 : decode b_Rm_padded 12 = .ok (.ireturn, 1) := by decide +kernel
theorem d_Rm_padded_13 : decode b_Rm_padded 13 = .ok (.iload_n 2, 1) := by decide +kernel
theorem d_Rm_padded_14 : decode b_Rm_padded 14 = .ok (.iload_n 1, 1) := by decide +kernel
theorem d_Rm_padded_15 : decode b_Rm_padded 15 = .ok (.if_icmp .ne 7, 3) := by decide +kernel
theorem d_Rm_padded_18 : decode b_Rm_padded 18 = .ok (.sipush 128, 3) := by decide +kernel
theorem d_Rm_padded_21 : decode b_Rm_padded 21 = .ok (.ireturn, 1) := by decide +kernel
theorem d_Rm_padded_22 : decode b_Rm_padded 22 = .ok (.iload_n 2, 1) := by decide +kernel
theorem d_Rm_padded_23 : decode b_Rm_padded 23 = .ok (.iload_n 3, 1) := by decide +kernel
theorem d_Rm_padded_24 : decode b_Rm_padded 24 = .ok (.bipush 8, 2) := by decide +kernel
theorem d_Rm_padded_26 : decode b_Rm_padded 26 = .ok (.isub, 1) := by decide +kernel
theorem d_Rm_padded_27 : decode b_Rm_padded 27 = .ok (.if_icmp .ge 7, 3) := by decide +kernel
theorem d_Rm_padded_30 : decode b_Rm_padded 30 = .ok (.iconst 0, 1) := by decide +kernel
theorem d_Rm_padded_31 : decode b_Rm_padded 31 = .ok (.goto 23, 3) := by decide +kernel
theorem d_Rm_padded_34 : decode b_Rm_padded 34 = .ok (.ldc2_w 325, 3) := by decide +kernel
theorem d_Rm_padded_37 : decode b_Rm_padded 37 = .ok (.iload_n 1, 1) := by decide +kernel
theorem d_Rm_padded_38 : decode b_Rm_padded 38 = .ok (.i2l, 1) := by decide +kernel
theorem d_Rm_padded_39 : decode b_Rm_padded 39 = .ok (.lmul, 1) := by decide +kernel
theorem d_Rm_padded_40 : decode b_Rm_padded 40 = .ok (.bipush 8, 2) := by decide +kernel
theorem d_Rm_padded_42 : decode b_Rm_padded 42 = .ok (.iload_n 3, 1) := by decide +kernel
theorem d_Rm_padded_43 : decode b_Rm_padded 43 = .ok (.iconst 1, 1) := by decide +kernel
theorem d_Rm_padded_44 : decode b_Rm_padded 44 = .ok (.isub, 1) := by decide +kernel
theorem d_Rm_padded_45 : decode b_Rm_padded 45 = .ok (.iload_n 2, 1) := by decide +kernel
theorem d_Rm_padded_46 : decode b_Rm_padded 46 = .ok (.isub, 1) := by decide +kernel
theorem d_Rm_padded_47 : decode b_Rm_padded 47 = .ok (.imul, 1) := by decide +kernel
theorem d_Rm_padded_48 : decode b_Rm_padded 48 = .ok (.lushr, 1) := by decide +kernel
theorem d_Rm_padded_49 : decode b_Rm_padded 49 = .ok (.l2i, 1) := by decide +kernel
theorem d_Rm_padded_50 : decode b_Rm_padded 50 = .ok (.sipush 255, 3) := by decide +kernel
theorem d_Rm_padded_53 : decode b_Rm_padded 53 = .ok (.iand, 1) := by decide +kernel
theorem d_Rm_padded_54 : decode b_Rm_padded 54 = .ok (.ireturn, 1) := by decide +kernel
theorem kw_19 : Cond.constantLong "PrimeKeysModel" 325 8 ∈ TB := tb_5 (List.mem_of_getElem? (i := 179) (by decide +kernel)) rfl
abbrev rm_Rm_padded : Room := { frames := 0, cells := 0, slots := 0, locals := 0 }
def P_Rm_padded (h : HP) (p0 : Nat) (p1 : Int32) (p2 : Int32) (p3 : Int32) : Option (Int32 × HP) :=
  if p1 ≤ p2 then
  if p2 = p1 then
  some (128, h)
  else
  if p3 - 8 ≤ p2 then
  some ((Int64.toInt32 (((8 * (Int32.toInt64 p1)).toUInt64 >>> ((Int32.toInt64 (8 * ((p3 - 1) - p2))).toUInt64 &&& Int64.toUInt64 63)).toInt64)) &&& 255, h)
  else
  some (0, h)
  else
  bnd (ldB h p0 p2) fun v1 =>
  some (v1 &&& 255, h)
set_option maxHeartbeats 4000000 in
set_option maxRecDepth 100000 in
theorem c_Rm_padded {l : Launch} {h h' : HP} {p0 p1 p2 p3 : _} {r' : Int32} (hr : P_Rm_padded h p0 p1 p2 p3 = some (r', h')) : MP l y_Rm_padded (Cond.code y_Rm_padded b_Rm_padded 4 (some .int) :: TB) rm_Rm_padded h [.ref p0, .int p1, .int p2, .int p3] (some (.int r')) h' := by
  refine MP_intro (cc := b_Rm_padded) (by decide) (Nat.le_of_ble_eq_true rfl) (fun x hl0 C T hin => ?_)
  unfold P_Rm_padded at hr
  show GG x 0 0 h 0 [(0, .ref p0), (1, .int p1), (2, .int p2), (3, .int p3)] []
  refine g_iload_n C 2 rfl d_Rm_padded_0 rfl ?_
  refine g_iload_n C 1 rfl d_Rm_padded_1 rfl ?_
  refine g_icmp_ge (tgt := 13) C d_Rm_padded_2 (by decide) (fun z => ?_) (fun z => ?_)
  · have hr := of_if z hr
    refine g_iload_n C 2 rfl d_Rm_padded_13 rfl ?_
    refine g_iload_n C 1 rfl d_Rm_padded_14 rfl ?_
    refine g_icmp_ne (tgt := 22) C d_Rm_padded_15 (by decide) (fun z => ?_) (fun z => ?_)
    · have hr := of_el z hr
      refine g_iload_n C 2 rfl d_Rm_padded_22 rfl ?_
      refine g_iload_n C 3 rfl d_Rm_padded_23 rfl ?_
      refine g_bipush (v := 8) C d_Rm_padded_24 (by decide) ?_
      refine g_isub C d_Rm_padded_26 ?_
      refine g_icmp_ge (tgt := 34) C d_Rm_padded_27 (by decide) (fun z => ?_) (fun z => ?_)
      · have hr := of_if z hr
        refine g_ldc2 (v := 8) C d_Rm_padded_34 kw_19 ?_
        refine g_iload_n C 1 rfl d_Rm_padded_37 rfl ?_
        refine g_i2l C d_Rm_padded_38 ?_
        refine g_lmul C d_Rm_padded_39 ?_
        refine g_bipush (v := 8) C d_Rm_padded_40 (by decide) ?_
        refine g_iload_n C 3 rfl d_Rm_padded_42 rfl ?_
        refine g_iconst (v := 1) C d_Rm_padded_43 (by decide) ?_
        refine g_isub C d_Rm_padded_44 ?_
        refine g_iload_n C 2 rfl d_Rm_padded_45 rfl ?_
        refine g_isub C d_Rm_padded_46 ?_
        refine g_imul C d_Rm_padded_47 ?_
        refine g_lushr C d_Rm_padded_48 ?_
        refine g_l2i C d_Rm_padded_49 ?_
        refine g_sipush (v := 255) C d_Rm_padded_50 (by decide) ?_
        refine g_iand C d_Rm_padded_53 ?_
        cases hr
        exact g_ireturn C T rfl (by decide) (by decide) d_Rm_padded_54
      · have hr := of_el z hr
        refine g_iconst (v := 0) C d_Rm_padded_30 (by decide) ?_
        refine g_goto (tgt := 54) C d_Rm_padded_31 (by decide) ?_
        cases hr
        exact g_ireturn C T rfl (by decide) (by decide) d_Rm_padded_54
    · have hr := of_if z hr
      refine g_sipush (v := 128) C d_Rm_padded_18 (by decide) ?_
      cases hr
      exact g_ireturn C T rfl (by decide) (by decide) d_Rm_padded_21
  · have hr := of_el z hr
    refine g_aload_n C 0 rfl d_Rm_padded_5 rfl ?_
    refine g_iload_n C 2 rfl d_Rm_padded_6 rfl ?_
    obtain ⟨v1, ev1, hr⟩ := of_bnd hr
    refine g_baload C ev1 d_Rm_padded_7 ?_
    refine g_sipush (v := 255) C d_Rm_padded_8 (by decide) ?_
    refine g_iand C d_Rm_padded_11 ?_
    cases hr
    exact g_ireturn C T rfl (by decide) (by decide) d_Rm_padded_12
abbrev b_Rm_over : ByteArray := prog_12_method_28_code
abbrev y_Rm_over : MethodName := ⟨"PrimeKeysModel", "over", "()V"⟩
theorem d_Rm_over_0 : decode b_Rm_over 0 = .ok (.bipush 16, 2) := by decide +kernel
theorem d_Rm_over_2 : decode b_Rm_over 2 = .ok (.istore_n 1, 1) := by decide +kernel
theorem d_Rm_over_3 : decode b_Rm_over 3 = .ok (.iload_n 1, 1) := by decide +kernel
theorem d_Rm_over_4 : decode b_Rm_over 4 = .ok (.bipush 64, 2) := by decide +kernel
theorem d_Rm_over_6 : decode b_Rm_over 6 = .ok (.if_icmp .ge 90, 3) := by decide +kernel
theorem d_Rm_over_9 : decode b_Rm_over 9 = .ok (.aload_n 0, 1) := by decide +kernel
theorem d_Rm_over_10 : decode b_Rm_over 10 = .ok (.getfield 242, 3) := by decide +kernel
theorem d_Rm_over_13 : decode b_Rm_over 13 = .ok (.iload_n 1, 1) := by decide +kernel
theorem d_Rm_over_14 : decode b_Rm_over 14 = .ok (.bipush 15, 2) := by decide +kernel
theorem d_Rm_over_16 : decode b_Rm_over 16 = .ok (.isub, 1) := by decide +kernel
theorem d_Rm_over_17 : decode b_Rm_over 17 = .ok (.iaload, 1) := by decide +kernel
theorem d_Rm_over_18 : decode b_Rm_over 18 = .ok (.istore_n 2, 1) := by decide +kernel
theorem d_Rm_over_19 : decode b_Rm_over 19 = .ok (.aload_n 0, 1) := by decide +kernel
theorem d_Rm_over_20 : decode b_Rm_over 20 = .ok (.getfield 242, 3) := by decide +kernel
theorem d_Rm_over_23 : decode b_Rm_over 23 = .ok (.iload_n 1, 1) := by decide +kernel
theorem d_Rm_over_24 : decode b_Rm_over 24 = .ok (.iconst 2, 1) := by decide +kernel
theorem d_Rm_over_25 : decode b_Rm_over 25 = .ok (.isub, 1) := by decide +kernel
theorem d_Rm_over_26 : decode b_Rm_over 26 = .ok (.iaload, 1) := by decide +kernel
theorem d_Rm_over_27 : decode b_Rm_over 27 = .ok (.istore_n 3, 1) := by decide +kernel
theorem d_Rm_over_28 : decode b_Rm_over 28 = .ok (.aload_n 0, 1) := by decide +kernel
theorem d_Rm_over_29 : decode b_Rm_over 29 = .ok (.getfield 242, 3) := by decide +kernel
theorem d_Rm_over_32 : decode b_Rm_over 32 = .ok (.iload_n 1, 1) := by decide +kernel
theorem d_Rm_over_33 : decode b_Rm_over 33 = .ok (.aload_n 0, 1) := by decide +kernel
theorem d_Rm_over_34 : decode b_Rm_over 34 = .ok (.getfield 242, 3) := by decide +kernel
theorem d_Rm_over_37 : decode b_Rm_over 37 = .ok (.iload_n 1, 1) := by decide +kernel
theorem d_Rm_over_38 : decode b_Rm_over 38 = .ok (.bipush 16, 2) := by decide +kernel
theorem d_Rm_over_40 : decode b_Rm_over 40 = .ok (.isub, 1) := by decide +kernel
theorem d_Rm_over_41 : decode b_Rm_over 41 = .ok (.iaload, 1) := by decide +kernel
theorem d_Rm_over_42 : decode b_Rm_over 42 = .ok (.iload_n 2, 1) := by decide +kernel
theorem d_Rm_over_43 : decode b_Rm_over 43 = .ok (.bipush 7, 2) := by decide +kernel
theorem d_Rm_over_45 : decode b_Rm_over 45 = .ok (.invokestatic 334, 3) := by decide +kernel
theorem d_Rm_over_48 : decode b_Rm_over 48 = .ok (.iload_n 2, 1) := by decide +kernel
theorem d_Rm_over_49 : decode b_Rm_over 49 = .ok (.bipush 18, 2) := by decide +kernel
theorem d_Rm_over_51 : decode b_Rm_over 51 = .ok (.invokestatic 334, 3) := by decide +kernel
theorem d_Rm_over_54 : decode b_Rm_over 54 = .ok (.ixor, 1) := by decide +kernel
theorem d_Rm_over_55 : decode b_Rm_over 55 = .ok (.iload_n 2, 1) := by decide +kernel
theorem d_Rm_over_56 : decode b_Rm_over 56 = .ok (.iconst 3, 1) := by decide +kernel
theorem d_Rm_over_57 : decode b_Rm_over 57 = .ok (.iushr, 1) := by decide +kernel
theorem d_Rm_over_58 : decode b_Rm_over 58 = .ok (.ixor, 1) := by decide +kernel
theorem d_Rm_over_59 : decode b_Rm_over 59 = .ok (.iadd, 1) := by decide +kernel
theorem d_Rm_over_60 : decode b_Rm_over 60 = .ok (.aload_n 0, 1) := by decide +kernel
theorem d_Rm_over_61 : decode b_Rm_over 61 = .ok (.getfield 242, 3) := by decide +kernel
theorem d_Rm_over_64 : decode b_Rm_over 64 = .ok (.iload_n 1, 1) := by decide +kernel
theorem d_Rm_over_65 : decode b_Rm_over 65 = .ok (.bipush 7, 2) := by decide +kernel
theorem d_Rm_over_67 : decode b_Rm_over 67 = .ok (.isub, 1) := by decide +kernel
theorem d_Rm_over_68 : decode b_Rm_over 68 = .ok (.iaload, 1) := by decide +kernel
theorem d_Rm_over_69 : decode b_Rm_over 69 = .ok (.iadd, 1) := by decide +kernel
theorem d_Rm_over_70 : decode b_Rm_over 70 = .ok (.iload_n 3, 1) := by decide +kernel
theorem d_Rm_over_71 : decode b_Rm_over 71 = .ok (.bipush 17, 2) := by decide +kernel
theorem d_Rm_over_73 : decode b_Rm_over 73 = .ok (.invokestatic 334, 3) := by decide +kernel
theorem d_Rm_over_76 : decode b_Rm_over 76 = .ok (.iload_n 3, 1) := by decide +kernel
theorem d_Rm_over_77 : decode b_Rm_over 77 = .ok (.bipush 19, 2) := by decide +kernel
theorem d_Rm_over_79 : decode b_Rm_over 79 = .ok (.invokestatic 334, 3) := by decide +kernel
theorem d_Rm_over_82 : decode b_Rm_over 82 = .ok (.ixor, 1) := by decide +kernel
theorem d_Rm_over_83 : decode b_Rm_over 83 = .ok (.iload_n 3, 1) := by decide +kernel
theorem d_Rm_over_84 : decode b_Rm_over 84 = .ok (.bipush 10, 2) := by decide +kernel
theorem d_Rm_over_86 : decode b_Rm_over 86 = .ok (.iushr, 1) := by decide +kernel
theorem d_Rm_over_87 : decode b_Rm_over 87 = .ok (.ixor, 1) := by decide +kernel
theorem d_Rm_over_88 : decode b_Rm_over 88 = .ok (.iadd, 1) := by decide +kernel
theorem d_Rm_over_89 : decode b_Rm_over 89 = .ok (.iastore, 1) := by decide +kernel
theorem d_Rm_over_90 : decode b_Rm_over 90 = .ok (.iinc 1 1, 3) := by decide +kernel
theorem d_Rm_over_93 : decode b_Rm_over 93 = .ok (.goto (-90), 3) := by decide +kernel
theorem d_Rm_over_96 : decode b_Rm_over 96 = .ok (.aload_n 0, 1) := by decide +kernel
theorem d_Rm_over_97 : decode b_Rm_over 97 = .ok (.getfield 245, 3) := by decide +kernel
theorem d_Rm_over_100 : decode b_Rm_over 100 = .ok (.iconst 0, 1) := by decide +kernel
theorem d_Rm_over_101 : decode b_Rm_over 101 = .ok (.iaload, 1) := by decide +kernel
theorem d_Rm_over_102 : decode b_Rm_over 102 = .ok (.istore_n 1, 1) := by decide +kernel
theorem d_Rm_over_103 : decode b_Rm_over 103 = .ok (.aload_n 0, 1) := by decide +kernel
theorem d_Rm_over_104 : decode b_Rm_over 104 = .ok (.getfield 245, 3) := by decide +kernel
theorem d_Rm_over_107 : decode b_Rm_over 107 = .ok (.iconst 1, 1) := by decide +kernel
theorem d_Rm_over_108 : decode b_Rm_over 108 = .ok (.iaload, 1) := by decide +kernel
theorem d_Rm_over_109 : decode b_Rm_over 109 = .ok (.istore_n 2, 1) := by decide +kernel
theorem d_Rm_over_110 : decode b_Rm_over 110 = .ok (.aload_n 0, 1) := by decide +kernel
theorem d_Rm_over_111 : decode b_Rm_over 111 = .ok (.getfield 245, 3) := by decide +kernel
theorem d_Rm_over_114 : decode b_Rm_over 114 = .ok (.iconst 2, 1) := by decide +kernel
theorem d_Rm_over_115 : decode b_Rm_over 115 = .ok (.iaload, 1) := by decide +kernel
theorem d_Rm_over_116 : decode b_Rm_over 116 = .ok (.istore_n 3, 1) := by decide +kernel
theorem d_Rm_over_117 : decode b_Rm_over 117 = .ok (.aload_n 0, 1) := by decide +kernel
theorem d_Rm_over_118 : decode b_Rm_over 118 = .ok (.getfield 245, 3) := by decide +kernel
theorem d_Rm_over_121 : decode b_Rm_over 121 = .ok (.iconst 3, 1) := by decide +kernel
theorem d_Rm_over_122 : decode b_Rm_over 122 = .ok (.iaload, 1) := by decide +kernel
theorem d_Rm_over_123 : decode b_Rm_over 123 = .ok (.istore 4, 2) := by decide +kernel
theorem d_Rm_over_125 : decode b_Rm_over 125 = .ok (.aload_n 0, 1) := by decide +kernel
theorem d_Rm_over_126 : decode b_Rm_over 126 = .ok (.getfield 245, 3) := by decide +kernel
theorem d_Rm_over_129 : decode b_Rm_over 129 = .ok (.iconst 4, 1) := by decide +kernel
theorem d_Rm_over_130 : decode b_Rm_over 130 = .ok (.iaload, 1) := by decide +kernel
theorem d_Rm_over_131 : decode b_Rm_over 131 = .ok (.istore 5, 2) := by decide +kernel
theorem d_Rm_over_133 : decode b_Rm_over 133 = .ok (.aload_n 0, 1) := by decide +kernel
theorem d_Rm_over_134 : decode b_Rm_over 134 = .ok (.getfield 245, 3) := by decide +kernel
theorem d_Rm_over_137 : decode b_Rm_over 137 = .ok (.iconst 5, 1) := by decide +kernel
theorem d_Rm_over_138 : decode b_Rm_over 138 = .ok (.iaload, 1) := by decide +kernel
theorem d_Rm_over_139 : decode b_Rm_over 139 = .ok (.istore 6, 2) := by decide +kernel
theorem d_Rm_over_141 : decode b_Rm_over 141 = .ok (.aload_n 0, 1) := by decide +kernel
theorem d_Rm_over_142 : decode b_Rm_over 142 = .ok (.getfield 245, 3) := by decide +kernel
theorem d_Rm_over_145 : decode b_Rm_over 145 = .ok (.bipush 6, 2) := by decide +kernel
theorem d_Rm_over_147 : decode b_Rm_over 147 = .ok (.iaload, 1) := by decide +kernel
theorem d_Rm_over_148 : decode b_Rm_over 148 = .ok (.istore 7, 2) := by decide +kernel
theorem d_Rm_over_150 : decode b_Rm_over 150 = .ok (.aload_n 0, 1) := by decide +kernel
theorem d_Rm_over_151 : decode b_Rm_over 151 = .ok (.getfield 245, 3) := by decide +kernel
theorem d_Rm_over_154 : decode b_Rm_over 154 = .ok (.bipush 7, 2) := by decide +kernel
theorem d_Rm_over_156 : decode b_Rm_over 156 = .ok (.iaload, 1) := by decide +kernel
theorem d_Rm_over_157 : decode b_Rm_over 157 = .ok (.istore 8, 2) := by decide +kernel
theorem d_Rm_over_159 : decode b_Rm_over 159 = .ok (.iconst 0, 1) := by decide +kernel
theorem d_Rm_over_160 : decode b_Rm_over 160 = .ok (.istore 9, 2) := by decide +kernel
theorem d_Rm_over_162 : decode b_Rm_over 162 = .ok (.iload 9, 2) := by decide +kernel
theorem d_Rm_over_164 : decode b_Rm_over 164 = .ok (.bipush 64, 2) := by decide +kernel
theorem d_Rm_over_166 : decode b_Rm_over 166 = .ok (.if_icmp .ge 136, 3) := by decide +kernel
theorem d_Rm_over_169 : decode b_Rm_over 169 = .ok (.iload 8, 2) := by decide +kernel
theorem d_Rm_over_171 : decode b_Rm_over 171 = .ok (.iload 5, 2) := by decide +kernel
theorem d_Rm_over_173 : decode b_Rm_over 173 = .ok (.bipush 6, 2) := by decide +kernel
theorem d_Rm_over_175 : decode b_Rm_over 175 = .ok (.invokestatic 334, 3) := by decide +kernel
theorem d_Rm_over_178 : decode b_Rm_over 178 = .ok (.iload 5, 2) := by decide +kernel
theorem d_Rm_over_180 : decode b_Rm_over 180 = .ok (.bipush 11, 2) := by decide +kernel
theorem d_Rm_over_182 : decode b_Rm_over 182 = .ok (.invokestatic 334, 3) := by decide +kernel
theorem d_Rm_over_185 : decode b_Rm_over 185 = .ok (.ixor, 1) := by decide +kernel
theorem d_Rm_over_186 : decode b_Rm_over 186 = .ok (.iload 5, 2) := by decide +kernel
theorem d_Rm_over_188 : decode b_Rm_over 188 = .ok (.bipush 25, 2) := by decide +kernel
theorem d_Rm_over_190 : decode b_Rm_over 190 = .ok (.invokestatic 334, 3) := by decide +kernel
theorem d_Rm_over_193 : decode b_Rm_over 193 = .ok (.ixor, 1) := by decide +kernel
theorem d_Rm_over_194 : decode b_Rm_over 194 = .ok (.iadd, 1) := by decide +kernel
theorem d_Rm_over_195 : decode b_Rm_over 195 = .ok (.iload 5, 2) := by decide +kernel
theorem d_Rm_over_197 : decode b_Rm_over 197 = .ok (.iload 6, 2) := by decide +kernel
theorem d_Rm_over_199 : decode b_Rm_over 199 = .ok (.iand, 1) := by decide +kernel
theorem d_Rm_over_200 : decode b_Rm_over 200 = .ok (.iload 5, 2) := by decide +kernel
theorem d_Rm_over_202 : decode b_Rm_over 202 = .ok (.iconst (-1), 1) := by decide +kernel
theorem d_Rm_over_203 : decode b_Rm_over 203 = .ok (.ixor, 1) := by decide +kernel
theorem d_Rm_over_204 : decode b_Rm_over 204 = .ok (.iload 7, 2) := by decide +kernel
theorem d_Rm_over_206 : decode b_Rm_over 206 = .ok (.iand, 1) := by decide +kernel
theorem d_Rm_over_207 : decode b_Rm_over 207 = .ok (.ixor, 1) := by decide +kernel
theorem d_Rm_over_208 : decode b_Rm_over 208 = .ok (.iadd, 1) := by decide +kernel
theorem d_Rm_over_209 : decode b_Rm_over 209 = .ok (.aload_n 0, 1) := by decide +kernel
theorem d_Rm_over_210 : decode b_Rm_over 210 = .ok (.getfield 236, 3) := by decide +kernel
theorem d_Rm_over_213 : decode b_Rm_over 213 = .ok (.iload 9, 2) := by decide +kernel
theorem d_Rm_over_215 : decode b_Rm_over 215 = .ok (.laload, 1) := by decide +kernel
theorem d_Rm_over_216 : decode b_Rm_over 216 = .ok (.bipush 32, 2) := by decide +kernel
theorem d_Rm_over_218 : decode b_Rm_over 218 = .ok (.lushr, 1) := by decide +kernel
theorem d_Rm_over_219 : decode b_Rm_over 219 = .ok (.l2i, 1) := by decide +kernel
theorem d_Rm_over_220 : decode b_Rm_over 220 = .ok (.iadd, 1) := by decide +kernel
theorem d_Rm_over_221 : decode b_Rm_over 221 = .ok (.aload_n 0, 1) := by decide +kernel
theorem d_Rm_over_222 : decode b_Rm_over 222 = .ok (.getfield 242, 3) := by decide +kernel
theorem d_Rm_over_225 : decode b_Rm_over 225 = .ok (.iload 9, 2) := by decide +kernel
theorem d_Rm_over_227 : decode b_Rm_over 227 = .ok (.iaload, 1) := by decide +kernel
theorem d_Rm_over_228 : decode b_Rm_over 228 = .ok (.iadd, 1) := by decide +kernel
theorem d_Rm_over_229 : decode b_Rm_over 229 = .ok (.istore 10, 2) := by decide +kernel
theorem d_Rm_over_231 : decode b_Rm_over 231 = .ok (.iload_n 1, 1) := by decide +kernel
theorem d_Rm_over_232 : decode b_Rm_over 232 = .ok (.iconst 2, 1) := by decide +kernel
theorem d_Rm_over_233 : decode b_Rm_over 233 = .ok (.invokestatic 334, 3) := by decide +kernel
theorem d_Rm_over_236 : decode b_Rm_over 236 = .ok (.iload_n 1, 1) := by decide +kernel
theorem d_Rm_over_237 : decode b_Rm_over 237 = .ok (.bipush 13, 2) := by decide +kernel
theorem d_Rm_over_239 : decode b_Rm_over 239 = .ok (.invokestatic 334, 3) := by decide +kernel
theorem d_Rm_over_242 : decode b_Rm_over 242 = .ok (.ixor, 1) := by decide +kernel
theorem d_Rm_over_243 : decode b_Rm_over 243 = .ok (.iload_n 1, 1) := by decide +kernel
theorem d_Rm_over_244 : decode b_Rm_over 244 = .ok (.bipush 22, 2) := by decide +kernel
theorem d_Rm_over_246 : decode b_Rm_over 246 = .ok (.invokestatic 334, 3) := by decide +kernel
theorem d_Rm_over_249 : decode b_Rm_over 249 = .ok (.ixor, 1) := by decide +kernel
theorem d_Rm_over_250 : decode b_Rm_over 250 = .ok (.iload_n 1, 1) := by decide +kernel
theorem d_Rm_over_251 : decode b_Rm_over 251 = .ok (.iload_n 2, 1) := by decide +kernel
theorem d_Rm_over_252 : decode b_Rm_over 252 = .ok (.iand, 1) := by decide +kernel
theorem d_Rm_over_253 : decode b_Rm_over 253 = .ok (.iload_n 1, 1) := by decide +kernel
theorem d_Rm_over_254 : decode b_Rm_over 254 = .ok (.iload_n 3, 1) := by decide +kernel
theorem d_Rm_over_255 : decode b_Rm_over 255 = .ok (.iand, 1) := by decide +kernel
theorem d_Rm_over_256 : decode b_Rm_over 256 = .ok (.ixor, 1) := by decide +kernel
theorem d_Rm_over_257 : decode b_Rm_over 257 = .ok (.iload_n 2, 1) := by decide +kernel
theorem d_Rm_over_258 : decode b_Rm_over 258 = .ok (.iload_n 3, 1) := by decide +kernel
theorem d_Rm_over_259 : decode b_Rm_over 259 = .ok (.iand, 1) := by decide +kernel
theorem d_Rm_over_260 : decode b_Rm_over 260 = .ok (.ixor, 1) := by decide +kernel
theorem d_Rm_over_261 : decode b_Rm_over 261 = .ok (.iadd, 1) := by decide +kernel
theorem d_Rm_over_262 : decode b_Rm_over 262 = .ok (.istore 11, 2) := by decide +kernel
theorem d_Rm_over_264 : decode b_Rm_over 264 = .ok (.iload 7, 2) := by decide +kernel
theorem d_Rm_over_266 : decode b_Rm_over 266 = .ok (.istore 8, 2) := by decide +kernel
theorem d_Rm_over_268 : decode b_Rm_over 268 = .ok (.iload 6, 2) := by decide +kernel
theorem d_Rm_over_270 : decode b_Rm_over 270 = .ok (.istore 7, 2) := by decide +kernel
theorem d_Rm_over_272 : decode b_Rm_over 272 = .ok (.iload 5, 2) := by decide +kernel
theorem d_Rm_over_274 : decode b_Rm_over 274 = .ok (.istore 6, 2) := by decide +kernel
theorem d_Rm_over_276 : decode b_Rm_over 276 = .ok (.iload 4, 2) := by decide +kernel
theorem d_Rm_over_278 : decode b_Rm_over 278 = .ok (.iload 10, 2) := by decide +kernel
theorem d_Rm_over_280 : decode b_Rm_over 280 = .ok (.iadd, 1) := by decide +kernel
theorem d_Rm_over_281 : decode b_Rm_over 281 = .ok (.istore 5, 2) := by decide +kernel
theorem d_Rm_over_283 : decode b_Rm_over 283 = .ok (.iload_n 3, 1) := by decide +kernel
theorem d_Rm_over_284 : decode b_Rm_over 284 = .ok (.istore 4, 2) := by decide +kernel
theorem d_Rm_over_286 : decode b_Rm_over 286 = .ok (.iload_n 2, 1) := by decide +kernel
theorem d_Rm_over_287 : decode b_Rm_over 287 = .ok (.istore_n 3, 1) := by decide +kernel
theorem d_Rm_over_288 : decode b_Rm_over 288 = .ok (.iload_n 1, 1) := by decide +kernel
theorem d_Rm_over_289 : decode b_Rm_over 289 = .ok (.istore_n 2, 1) := by decide +kernel
theorem d_Rm_over_290 : decode b_Rm_over 290 = .ok (.iload 10, 2) := by decide +kernel
theorem d_Rm_over_292 : decode b_Rm_over 292 = .ok (.iload 11, 2) := by decide +kernel
theorem d_Rm_over_294 : decode b_Rm_over 294 = .ok (.iadd, 1) := by decide +kernel
theorem d_Rm_over_295 : decode b_Rm_over 295 = .ok (.istore_n 1, 1) := by decide +kernel
theorem d_Rm_over_296 : decode b_Rm_over 296 = .ok (.iinc 9 1, 3) := by decide +kernel
theorem d_Rm_over_299 : decode b_Rm_over 299 = .ok (.goto (-137), 3) := by decide +kernel
theorem d_Rm_over_302 : decode b_Rm_over 302 = .ok (.aload_n 0, 1) := by decide +kernel
theorem d_Rm_over_303 : decode b_Rm_over 303 = .ok (.getfield 245, 3) := by decide +kernel
theorem d_Rm_over_306 : decode b_Rm_over 306 = .ok (.iconst 0, 1) := by decide +kernel
theorem d_Rm_over_307 : decode b_Rm_over 307 = .ok (.dup2, 1) := by decide +kernel
theorem d_Rm_over_308 : decode b_Rm_over 308 = .ok (.iaload, 1) := by decide +kernel
theorem d_Rm_over_309 : decode b_Rm_over 309 = .ok (.iload_n 1, 1) := by decide +kernel
theorem d_Rm_over_310 : decode b_Rm_over 310 = .ok (.iadd, 1) := by decide +kernel
theorem d_Rm_over_311 : decode b_Rm_over 311 = .ok (.iastore, 1) := by decide +kernel
theorem d_Rm_over_312 : decode b_Rm_over 312 = .ok (.aload_n 0, 1) := by decide +kernel
theorem d_Rm_over_313 : decode b_Rm_over 313 = .ok (.getfield 245, 3) := by decide +kernel
theorem d_Rm_over_316 : decode b_Rm_over 316 = .ok (.iconst 1, 1) := by decide +kernel
theorem d_Rm_over_317 : decode b_Rm_over 317 = .ok (.dup2, 1) := by decide +kernel
theorem d_Rm_over_318 : decode b_Rm_over 318 = .ok (.iaload, 1) := by decide +kernel
theorem d_Rm_over_319 : decode b_Rm_over 319 = .ok (.iload_n 2, 1) := by decide +kernel
theorem d_Rm_over_320 : decode b_Rm_over 320 = .ok (.iadd, 1) := by decide +kernel
theorem d_Rm_over_321 : decode b_Rm_over 321 = .ok (.iastore, 1) := by decide +kernel
theorem d_Rm_over_322 : decode b_Rm_over 322 = .ok (.aload_n 0, 1) := by decide +kernel
theorem d_Rm_over_323 : decode b_Rm_over 323 = .ok (.getfield 245, 3) := by decide +kernel
theorem d_Rm_over_326 : decode b_Rm_over 326 = .ok (.iconst 2, 1) := by decide +kernel
theorem d_Rm_over_327 : decode b_Rm_over 327 = .ok (.dup2, 1) := by decide +kernel
theorem d_Rm_over_328 : decode b_Rm_over 328 = .ok (.iaload, 1) := by decide +kernel
theorem d_Rm_over_329 : decode b_Rm_over 329 = .ok (.iload_n 3, 1) := by decide +kernel
theorem d_Rm_over_330 : decode b_Rm_over 330 = .ok (.iadd, 1) := by decide +kernel
theorem d_Rm_over_331 : decode b_Rm_over 331 = .ok (.iastore, 1) := by decide +kernel
theorem d_Rm_over_332 : decode b_Rm_over 332 = .ok (.aload_n 0, 1) := by decide +kernel
theorem d_Rm_over_333 : decode b_Rm_over 333 = .ok (.getfield 245, 3) := by decide +kernel
theorem d_Rm_over_336 : decode b_Rm_over 336 = .ok (.iconst 3, 1) := by decide +kernel
theorem d_Rm_over_337 : decode b_Rm_over 337 = .ok (.dup2, 1) := by decide +kernel
theorem d_Rm_over_338 : decode b_Rm_over 338 = .ok (.iaload, 1) := by decide +kernel
theorem d_Rm_over_339 : decode b_Rm_over 339 = .ok (.iload 4, 2) := by decide +kernel
theorem d_Rm_over_341 : decode b_Rm_over 341 = .ok (.iadd, 1) := by decide +kernel
theorem d_Rm_over_342 : decode b_Rm_over 342 = .ok (.iastore, 1) := by decide +kernel
theorem d_Rm_over_343 : decode b_Rm_over 343 = .ok (.aload_n 0, 1) := by decide +kernel
theorem d_Rm_over_344 : decode b_Rm_over 344 = .ok (.getfield 245, 3) := by decide +kernel
theorem d_Rm_over_347 : decode b_Rm_over 347 = .ok (.iconst 4, 1) := by decide +kernel
theorem d_Rm_over_348 : decode b_Rm_over 348 = .ok (.dup2, 1) := by decide +kernel
theorem d_Rm_over_349 : decode b_Rm_over 349 = .ok (.iaload, 1) := by decide +kernel
theorem d_Rm_over_350 : decode b_Rm_over 350 = .ok (.iload 5, 2) := by decide +kernel
theorem d_Rm_over_352 : decode b_Rm_over 352 = .ok (.iadd, 1) := by decide +kernel
theorem d_Rm_over_353 : decode b_Rm_over 353 = .ok (.iastore, 1) := by decide +kernel
theorem d_Rm_over_354 : decode b_Rm_over 354 = .ok (.aload_n 0, 1) := by decide +kernel
theorem d_Rm_over_355 : decode b_Rm_over 355 = .ok (.getfield 245, 3) := by decide +kernel
theorem d_Rm_over_358 : decode b_Rm_over 358 = .ok (.iconst 5, 1) := by decide +kernel
theorem d_Rm_over_359 : decode b_Rm_over 359 = .ok (.dup2, 1) := by decide +kernel
theorem d_Rm_over_360 : decode b_Rm_over 360 = .ok (.iaload, 1) := by decide +kernel
theorem d_Rm_over_361 : decode b_Rm_over 361 = .ok (.iload 6, 2) := by decide +kernel
theorem d_Rm_over_363 : decode b_Rm_over 363 = .ok (.iadd, 1) := by decide +kernel
theorem d_Rm_over_364 : decode b_Rm_over 364 = .ok (.iastore, 1) := by decide +kernel
theorem d_Rm_over_365 : decode b_Rm_over 365 = .ok (.aload_n 0, 1) := by decide +kernel
theorem d_Rm_over_366 : decode b_Rm_over 366 = .ok (.getfield 245, 3) := by decide +kernel
theorem d_Rm_over_369 : decode b_Rm_over 369 = .ok (.bipush 6, 2) := by decide +kernel
theorem d_Rm_over_371 : decode b_Rm_over 371 = .ok (.dup2, 1) := by decide +kernel
theorem d_Rm_over_372 : decode b_Rm_over 372 = .ok (.iaload, 1) := by decide +kernel
theorem d_Rm_over_373 : decode b_Rm_over 373 = .ok (.iload 7, 2) := by decide +kernel
theorem d_Rm_over_375 : decode b_Rm_over 375 = .ok (.iadd, 1) := by decide +kernel
theorem d_Rm_over_376 : decode b_Rm_over 376 = .ok (.iastore, 1) := by decide +kernel
theorem d_Rm_over_377 : decode b_Rm_over 377 = .ok (.aload_n 0, 1) := by decide +kernel
theorem d_Rm_over_378 : decode b_Rm_over 378 = .ok (.getfield 245, 3) := by decide +kernel
theorem d_Rm_over_381 : decode b_Rm_over 381 = .ok (.bipush 7, 2) := by decide +kernel
theorem d_Rm_over_383 : decode b_Rm_over 383 = .ok (.dup2, 1) := by decide +kernel
theorem d_Rm_over_384 : decode b_Rm_over 384 = .ok (.iaload, 1) := by decide +kernel
theorem d_Rm_over_385 : decode b_Rm_over 385 = .ok (.iload 8, 2) := by decide +kernel
theorem d_Rm_over_387 : decode b_Rm_over 387 = .ok (.iadd, 1) := by decide +kernel
theorem d_Rm_over_388 : decode b_Rm_over 388 = .ok (.iastore, 1) := by decide +kernel
theorem d_Rm_over_389 : decode b_Rm_over 389 = .ok (.return_, 1) := by decide +kernel
theorem fl_Rm_245 : FL "PrimeKeysModel" 245 8 46 := ⟨R_Rm, F_Rm, 50, rfl, u_Rm, by decide, rfl, tb_4 (List.mem_of_getElem? (i := 200) (by decide +kernel)) rfl⟩
theorem fl_Rm_242 : FL "PrimeKeysModel" 242 8 45 := ⟨R_Rm, F_Rm, 50, rfl, u_Rm, by decide, rfl, tb_4 (List.mem_of_getElem? (i := 199) (by decide +kernel)) rfl⟩
theorem cd_Rm_334 : CD "PrimeKeysModel" 334 y_Rm_turned b_Rm_turned 2 (some .int) 2 := ⟨tb_5 (List.mem_of_getElem? (i := 186) rfl) rfl, tb_1 (List.mem_of_getElem? (i := 13) (by decide +kernel)) rfl, tb_5 (List.mem_of_getElem? (i := 184) (by decide +kernel)) rfl, by decide +kernel⟩
theorem kw_st_Rm_turned : Cond.static y_Rm_turned ∈ TB := tb_5 (List.mem_of_getElem? (i := 185) (by decide +kernel)) rfl
abbrev rm_Rm_over : Room := { frames := 1, cells := 0, slots := 0, locals := 21 }
def B_Rm_over_162 (K3 : HP → Nat → Int32 → Option (HP)) (K162 : HP → Nat → Int32 → Int32 → Int32 → Int32 → Int32 → Int32 → Int32 → Int32 → Int32 → Option (HP)) (h : HP) (a0 : Nat) (a1 : Int32) (a2 : Int32) (a3 : Int32) (a4 : Int32) (a5 : Int32) (a6 : Int32) (a7 : Int32) (a8 : Int32) (a9 : Int32) : Option (HP) :=
  if 64 ≤ a9 then
  bnd (gR h a0 8 46) fun k17 =>
  bnd (ldI h k17 0) fun v18 =>
  bnd (stI h k17 0 (v18 + a1)) fun h19 =>
  bnd (gR h19 a0 8 46) fun k20 =>
  bnd (ldI h19 k20 1) fun v21 =>
  bnd (stI h19 k20 1 (v21 + a2)) fun h22 =>
  bnd (gR h22 a0 8 46) fun k23 =>
  bnd (ldI h22 k23 2) fun v24 =>
  bnd (stI h22 k23 2 (v24 + a3)) fun h25 =>
  bnd (gR h25 a0 8 46) fun k26 =>
  bnd (ldI h25 k26 3) fun v27 =>
  bnd (stI h25 k26 3 (v27 + a4)) fun h28 =>
  bnd (gR h28 a0 8 46) fun k29 =>
  bnd (ldI h28 k29 4) fun v30 =>
  bnd (stI h28 k29 4 (v30 + a5)) fun h31 =>
  bnd (gR h31 a0 8 46) fun k32 =>
  bnd (ldI h31 k32 5) fun v33 =>
  bnd (stI h31 k32 5 (v33 + a6)) fun h34 =>
  bnd (gR h34 a0 8 46) fun k35 =>
  bnd (ldI h34 k35 6) fun v36 =>
  bnd (stI h34 k35 6 (v36 + a7)) fun h37 =>
  bnd (gR h37 a0 8 46) fun k38 =>
  bnd (ldI h37 k38 7) fun v39 =>
  bnd (stI h37 k38 7 (v39 + a8)) fun h40 =>
  some h40
  else
  bnd2 (P_Rm_turned h a5 6) fun v42 h41 =>
  bnd2 (P_Rm_turned h41 a5 11) fun v44 h43 =>
  bnd2 (P_Rm_turned h43 a5 25) fun v46 h45 =>
  bnd (gR h45 a0 8 43) fun k47 =>
  bnd (ldJ h45 k47 a9) fun v48 =>
  bnd (gR h45 a0 8 45) fun k49 =>
  bnd (ldI h45 k49 a9) fun v50 =>
  lt ((((a8 + ((v42 ^^^ v44) ^^^ v46)) + ((a5 &&& a6) ^^^ ((a5 ^^^ ((-1))) &&& a7))) + (Int64.toInt32 ((v48.toUInt64 >>> ((Int32.toInt64 32).toUInt64 &&& Int64.toUInt64 63)).toInt64))) + v50) fun x51 =>
  bnd2 (P_Rm_turned h45 a1 2) fun v53 h52 =>
  bnd2 (P_Rm_turned h52 a1 13) fun v55 h54 =>
  bnd2 (P_Rm_turned h54 a1 22) fun v57 h56 =>
  lt (((v53 ^^^ v55) ^^^ v57) + (((a1 &&& a2) ^^^ (a1 &&& a3)) ^^^ (a2 &&& a3))) fun x58 =>
  lt (a4 + x51) fun x59 =>
  lt (x51 + x58) fun x60 =>
  lt (a9 + Int32.ofInt 1) fun x61 =>
  K162 h56 a0 x60 a1 a2 a3 x59 a5 a6 a7 x61
set_option maxHeartbeats 4000000 in
set_option maxRecDepth 100000 in
theorem bk_Rm_over_162 {l : Launch} {x : CX} {h0 h' : HP} (C : EV x b_Rm_over "PrimeKeysModel" 12 rm_Rm_over) (T : CT x (none) rm_Rm_over h0 none h') (hl0 : x.1.2.1 = l) (K3 : HP → Nat → Int32 → Option (HP)) (K162 : HP → Nat → Int32 → Int32 → Int32 → Int32 → Int32 → Int32 → Int32 → Int32 → Int32 → Option (HP)) (hK3 : ∀ (h : HP) (a0 : Nat) (a1 : Int32), K3 h a0 a1 = some h' → GG x 0 0 h 3 [(0, .ref a0), (1, .int a1)] []) (hK162 : ∀ (h : HP) (a0 : Nat) (a1 : Int32) (a2 : Int32) (a3 : Int32) (a4 : Int32) (a5 : Int32) (a6 : Int32) (a7 : Int32) (a8 : Int32) (a9 : Int32), K162 h a0 a1 a2 a3 a4 a5 a6 a7 a8 a9 = some h' → GG x 0 0 h 162 [(0, .ref a0), (1, .int a1), (2, .int a2), (3, .int a3), (4, .int a4), (5, .int a5), (6, .int a6), (7, .int a7), (8, .int a8), (9, .int a9)] []) (h : HP) (a0 : Nat) (a1 : Int32) (a2 : Int32) (a3 : Int32) (a4 : Int32) (a5 : Int32) (a6 : Int32) (a7 : Int32) (a8 : Int32) (a9 : Int32) (hr : B_Rm_over_162 K3 K162 h a0 a1 a2 a3 a4 a5 a6 a7 a8 a9 = some h') : GG x 0 0 h 162 [(0, .ref a0), (1, .int a1), (2, .int a2), (3, .int a3), (4, .int a4), (5, .int a5), (6, .int a6), (7, .int a7), (8, .int a8), (9, .int a9)] [] := by
  unfold B_Rm_over_162 at hr
  refine g_iload C 9 rfl d_Rm_over_162 ?_
  refine g_bipush (v := 64) C d_Rm_over_164 (by decide) ?_
  refine g_icmp_ge (tgt := 302) C d_Rm_over_166 (by decide) (fun z => ?_) (fun z => ?_)
  · have hr := of_if z hr
    refine g_aload_n C 0 rfl d_Rm_over_302 rfl ?_
    obtain ⟨k17, ek17, hr⟩ := of_bnd hr
    refine g_getR C fl_Rm_245 ek17 d_Rm_over_303 ?_
    refine g_iconst (v := 0) C d_Rm_over_306 (by decide) ?_
    refine g_dup2_11 C d_Rm_over_307 rfl rfl ?_
    obtain ⟨v18, ev18, hr⟩ := of_bnd hr
    refine g_iaload C ev18 d_Rm_over_308 ?_
    refine g_iload_n C 1 rfl d_Rm_over_309 rfl ?_
    refine g_iadd C d_Rm_over_310 ?_
    obtain ⟨h19, eh19, hr⟩ := of_bnd hr
    refine g_iastore C eh19 d_Rm_over_311 ?_
    refine g_aload_n C 0 rfl d_Rm_over_312 rfl ?_
    obtain ⟨k20, ek20, hr⟩ := of_bnd hr
    refine g_getR C fl_Rm_245 ek20 d_Rm_over_313 ?_
    refine g_iconst (v := 1) C d_Rm_over_316 (by decide) ?_
    refine g_dup2_11 C d_Rm_over_317 rfl rfl ?_
    obtain ⟨v21, ev21, hr⟩ := of_bnd hr
    refine g_iaload C ev21 d_Rm_over_318 ?_
    refine g_iload_n C 2 rfl d_Rm_over_319 rfl ?_
    refine g_iadd C d_Rm_over_320 ?_
    obtain ⟨h22, eh22, hr⟩ := of_bnd hr
    refine g_iastore C eh22 d_Rm_over_321 ?_
    refine g_aload_n C 0 rfl d_Rm_over_322 rfl ?_
    obtain ⟨k23, ek23, hr⟩ := of_bnd hr
    refine g_getR C fl_Rm_245 ek23 d_Rm_over_323 ?_
    refine g_iconst (v := 2) C d_Rm_over_326 (by decide) ?_
    refine g_dup2_11 C d_Rm_over_327 rfl rfl ?_
    obtain ⟨v24, ev24, hr⟩ := of_bnd hr
    refine g_iaload C ev24 d_Rm_over_328 ?_
    refine g_iload_n C 3 rfl d_Rm_over_329 rfl ?_
    refine g_iadd C d_Rm_over_330 ?_
    obtain ⟨h25, eh25, hr⟩ := of_bnd hr
    refine g_iastore C eh25 d_Rm_over_331 ?_
    refine g_aload_n C 0 rfl d_Rm_over_332 rfl ?_
    obtain ⟨k26, ek26, hr⟩ := of_bnd hr
    refine g_getR C fl_Rm_245 ek26 d_Rm_over_333 ?_
    refine g_iconst (v := 3) C d_Rm_over_336 (by decide) ?_
    refine g_dup2_11 C d_Rm_over_337 rfl rfl ?_
    obtain ⟨v27, ev27, hr⟩ := of_bnd hr
    refine g_iaload C ev27 d_Rm_over_338 ?_
    refine g_iload C 4 rfl d_Rm_over_339 ?_
    refine g_iadd C d_Rm_over_341 ?_
    obtain ⟨h28, eh28, hr⟩ := of_bnd hr
    refine g_iastore C eh28 d_Rm_over_342 ?_
    refine g_aload_n C 0 rfl d_Rm_over_343 rfl ?_
    obtain ⟨k29, ek29, hr⟩ := of_bnd hr
    refine g_getR C fl_Rm_245 ek29 d_Rm_over_344 ?_
    refine g_iconst (v := 4) C d_Rm_over_347 (by decide) ?_
    refine g_dup2_11 C d_Rm_over_348 rfl rfl ?_
    obtain ⟨v30, ev30, hr⟩ := of_bnd hr
    refine g_iaload C ev30 d_Rm_over_349 ?_
    refine g_iload C 5 rfl d_Rm_over_350 ?_
    refine g_iadd C d_Rm_over_352 ?_
    obtain ⟨h31, eh31, hr⟩ := of_bnd hr
    refine g_iastore C eh31 d_Rm_over_353 ?_
    refine g_aload_n C 0 rfl d_Rm_over_354 rfl ?_
    obtain ⟨k32, ek32, hr⟩ := of_bnd hr
    refine g_getR C fl_Rm_245 ek32 d_Rm_over_355 ?_
    refine g_iconst (v := 5) C d_Rm_over_358 (by decide) ?_
    refine g_dup2_11 C d_Rm_over_359 rfl rfl ?_
    obtain ⟨v33, ev33, hr⟩ := of_bnd hr
    refine g_iaload C ev33 d_Rm_over_360 ?_
    refine g_iload C 6 rfl d_Rm_over_361 ?_
    refine g_iadd C d_Rm_over_363 ?_
    obtain ⟨h34, eh34, hr⟩ := of_bnd hr
    refine g_iastore C eh34 d_Rm_over_364 ?_
    refine g_aload_n C 0 rfl d_Rm_over_365 rfl ?_
    obtain ⟨k35, ek35, hr⟩ := of_bnd hr
    refine g_getR C fl_Rm_245 ek35 d_Rm_over_366 ?_
    refine g_bipush (v := 6) C d_Rm_over_369 (by decide) ?_
    refine g_dup2_11 C d_Rm_over_371 rfl rfl ?_
    obtain ⟨v36, ev36, hr⟩ := of_bnd hr
    refine g_iaload C ev36 d_Rm_over_372 ?_
    refine g_iload C 7 rfl d_Rm_over_373 ?_
    refine g_iadd C d_Rm_over_375 ?_
    obtain ⟨h37, eh37, hr⟩ := of_bnd hr
    refine g_iastore C eh37 d_Rm_over_376 ?_
    refine g_aload_n C 0 rfl d_Rm_over_377 rfl ?_
    obtain ⟨k38, ek38, hr⟩ := of_bnd hr
    refine g_getR C fl_Rm_245 ek38 d_Rm_over_378 ?_
    refine g_bipush (v := 7) C d_Rm_over_381 (by decide) ?_
    refine g_dup2_11 C d_Rm_over_383 rfl rfl ?_
    obtain ⟨v39, ev39, hr⟩ := of_bnd hr
    refine g_iaload C ev39 d_Rm_over_384 ?_
    refine g_iload C 8 rfl d_Rm_over_385 ?_
    refine g_iadd C d_Rm_over_387 ?_
    obtain ⟨h40, eh40, hr⟩ := of_bnd hr
    refine g_iastore C eh40 d_Rm_over_388 ?_
    cases hr
    exact g_vreturn C T (by decide) (by decide) d_Rm_over_389
  · have hr := of_el z hr
    refine g_iload C 8 rfl d_Rm_over_169 ?_
    refine g_iload C 5 rfl d_Rm_over_171 ?_
    refine g_bipush (v := 6) C d_Rm_over_173 (by decide) ?_
    obtain ⟨v42, h41, eh41, hr⟩ := of_bnd2 hr
    refine g_callS (pa := [.int a5, .int 6]) C hl0 (c_Rm_turned eh41) cd_Rm_334 kw_st_Rm_turned (by decide) rfl rfl (Nat.le_of_ble_eq_true rfl) d_Rm_over_175 ?_
    refine g_iload C 5 rfl d_Rm_over_178 ?_
    refine g_bipush (v := 11) C d_Rm_over_180 (by decide) ?_
    obtain ⟨v44, h43, eh43, hr⟩ := of_bnd2 hr
    refine g_callS (pa := [.int a5, .int 11]) C hl0 (c_Rm_turned eh43) cd_Rm_334 kw_st_Rm_turned (by decide) rfl rfl (Nat.le_of_ble_eq_true rfl) d_Rm_over_182 ?_
    refine g_ixor C d_Rm_over_185 ?_
    refine g_iload C 5 rfl d_Rm_over_186 ?_
    refine g_bipush (v := 25) C d_Rm_over_188 (by decide) ?_
    obtain ⟨v46, h45, eh45, hr⟩ := of_bnd2 hr
    refine g_callS (pa := [.int a5, .int 25]) C hl0 (c_Rm_turned eh45) cd_Rm_334 kw_st_Rm_turned (by decide) rfl rfl (Nat.le_of_ble_eq_true rfl) d_Rm_over_190 ?_
    refine g_ixor C d_Rm_over_193 ?_
    refine g_iadd C d_Rm_over_194 ?_
    refine g_iload C 5 rfl d_Rm_over_195 ?_
    refine g_iload C 6 rfl d_Rm_over_197 ?_
    refine g_iand C d_Rm_over_199 ?_
    refine g_iload C 5 rfl d_Rm_over_200 ?_
    refine g_iconst (v := (-1)) C d_Rm_over_202 (by decide) ?_
    refine g_ixor C d_Rm_over_203 ?_
    refine g_iload C 7 rfl d_Rm_over_204 ?_
    refine g_iand C d_Rm_over_206 ?_
    refine g_ixor C d_Rm_over_207 ?_
    refine g_iadd C d_Rm_over_208 ?_
    refine g_aload_n C 0 rfl d_Rm_over_209 rfl ?_
    obtain ⟨k47, ek47, hr⟩ := of_bnd hr
    refine g_getR C fl_Rm_236 ek47 d_Rm_over_210 ?_
    refine g_iload C 9 rfl d_Rm_over_213 ?_
    obtain ⟨v48, ev48, hr⟩ := of_bnd hr
    refine g_laload C ev48 d_Rm_over_215 ?_
    refine g_bipush (v := 32) C d_Rm_over_216 (by decide) ?_
    refine g_lushr C d_Rm_over_218 ?_
    refine g_l2i C d_Rm_over_219 ?_
    refine g_iadd C d_Rm_over_220 ?_
    refine g_aload_n C 0 rfl d_Rm_over_221 rfl ?_
    obtain ⟨k49, ek49, hr⟩ := of_bnd hr
    refine g_getR C fl_Rm_242 ek49 d_Rm_over_222 ?_
    refine g_iload C 9 rfl d_Rm_over_225 ?_
    obtain ⟨v50, ev50, hr⟩ := of_bnd hr
    refine g_iaload C ev50 d_Rm_over_227 ?_
    refine g_iadd C d_Rm_over_228 ?_
    refine g_topi (fun x51 ex51 => ?_)
    have hr := of_lt ex51 hr
    refine g_istore (lv' := [(10, .int x51), (0, .ref a0), (1, .int a1), (2, .int a2), (3, .int a3), (4, .int a4), (5, .int a5), (6, .int a6), (7, .int a7), (8, .int a8), (9, .int a9)]) C d_Rm_over_229 (by decide) rfl ?_
    refine g_iload_n C 2 rfl d_Rm_over_231 rfl ?_
    refine g_iconst (v := 2) C d_Rm_over_232 (by decide) ?_
    obtain ⟨v53, h52, eh52, hr⟩ := of_bnd2 hr
    refine g_callS (pa := [.int a1, .int 2]) C hl0 (c_Rm_turned eh52) cd_Rm_334 kw_st_Rm_turned (by decide) rfl rfl (Nat.le_of_ble_eq_true rfl) d_Rm_over_233 ?_
    refine g_iload_n C 2 rfl d_Rm_over_236 rfl ?_
    refine g_bipush (v := 13) C d_Rm_over_237 (by decide) ?_
    obtain ⟨v55, h54, eh54, hr⟩ := of_bnd2 hr
    refine g_callS (pa := [.int a1, .int 13]) C hl0 (c_Rm_turned eh54) cd_Rm_334 kw_st_Rm_turned (by decide) rfl rfl (Nat.le_of_ble_eq_true rfl) d_Rm_over_239 ?_
    refine g_ixor C d_Rm_over_242 ?_
    refine g_iload_n C 2 rfl d_Rm_over_243 rfl ?_
    refine g_bipush (v := 22) C d_Rm_over_244 (by decide) ?_
    obtain ⟨v57, h56, eh56, hr⟩ := of_bnd2 hr
    refine g_callS (pa := [.int a1, .int 22]) C hl0 (c_Rm_turned eh56) cd_Rm_334 kw_st_Rm_turned (by decide) rfl rfl (Nat.le_of_ble_eq_true rfl) d_Rm_over_246 ?_
    refine g_ixor C d_Rm_over_249 ?_
    refine g_iload_n C 2 rfl d_Rm_over_250 rfl ?_
    refine g_iload_n C 3 rfl d_Rm_over_251 rfl ?_
    refine g_iand C d_Rm_over_252 ?_
    refine g_iload_n C 2 rfl d_Rm_over_253 rfl ?_
    refine g_iload_n C 4 rfl d_Rm_over_254 rfl ?_
    refine g_iand C d_Rm_over_255 ?_
    refine g_ixor C d_Rm_over_256 ?_
    refine g_iload_n C 3 rfl d_Rm_over_257 rfl ?_
    refine g_iload_n C 4 rfl d_Rm_over_258 rfl ?_
    refine g_iand C d_Rm_over_259 ?_
    refine g_ixor C d_Rm_over_260 ?_
    refine g_iadd C d_Rm_over_261 ?_
    refine g_topi (fun x58 ex58 => ?_)
    have hr := of_lt ex58 hr
    refine g_istore (lv' := [(11, .int x58), (10, .int x51), (0, .ref a0), (1, .int a1), (2, .int a2), (3, .int a3), (4, .int a4), (5, .int a5), (6, .int a6), (7, .int a7), (8, .int a8), (9, .int a9)]) C d_Rm_over_262 (by decide) rfl ?_
    refine g_iload C 9 rfl d_Rm_over_264 ?_
    refine g_istore (lv' := [(8, .int a7), (11, .int x58), (10, .int x51), (0, .ref a0), (1, .int a1), (2, .int a2), (3, .int a3), (4, .int a4), (5, .int a5), (6, .int a6), (7, .int a7), (9, .int a9)]) C d_Rm_over_266 (by decide) rfl ?_
    refine g_iload C 9 rfl d_Rm_over_268 ?_
    refine g_istore (lv' := [(7, .int a6), (8, .int a7), (11, .int x58), (10, .int x51), (0, .ref a0), (1, .int a1), (2, .int a2), (3, .int a3), (4, .int a4), (5, .int a5), (6, .int a6), (9, .int a9)]) C d_Rm_over_270 (by decide) rfl ?_
    refine g_iload C 9 rfl d_Rm_over_272 ?_
    refine g_istore (lv' := [(6, .int a5), (7, .int a6), (8, .int a7), (11, .int x58), (10, .int x51), (0, .ref a0), (1, .int a1), (2, .int a2), (3, .int a3), (4, .int a4), (5, .int a5), (9, .int a9)]) C d_Rm_over_274 (by decide) rfl ?_
    refine g_iload C 9 rfl d_Rm_over_276 ?_
    refine g_iload C 4 rfl d_Rm_over_278 ?_
    refine g_iadd C d_Rm_over_280 ?_
    refine g_topi (fun x59 ex59 => ?_)
    have hr := of_lt ex59 hr
    refine g_istore (lv' := [(5, .int x59), (6, .int a5), (7, .int a6), (8, .int a7), (11, .int x58), (10, .int x51), (0, .ref a0), (1, .int a1), (2, .int a2), (3, .int a3), (4, .int a4), (9, .int a9)]) C d_Rm_over_281 (by decide) rfl ?_
    refine g_iload_n C 9 rfl d_Rm_over_283 rfl ?_
    refine g_istore (lv' := [(4, .int a3), (5, .int x59), (6, .int a5), (7, .int a6), (8, .int a7), (11, .int x58), (10, .int x51), (0, .ref a0), (1, .int a1), (2, .int a2), (3, .int a3), (9, .int a9)]) C d_Rm_over_284 (by decide) rfl ?_
    refine g_iload_n C 9 rfl d_Rm_over_286 rfl ?_
    refine g_istore_n (lv' := [(3, .int a2), (4, .int a3), (5, .int x59), (6, .int a5), (7, .int a6), (8, .int a7), (11, .int x58), (10, .int x51), (0, .ref a0), (1, .int a1), (2, .int a2), (9, .int a9)]) C d_Rm_over_287 rfl (by decide) rfl ?_
    refine g_iload_n C 9 rfl d_Rm_over_288 rfl ?_
    refine g_istore_n (lv' := [(2, .int a1), (3, .int a2), (4, .int a3), (5, .int x59), (6, .int a5), (7, .int a6), (8, .int a7), (11, .int x58), (10, .int x51), (0, .ref a0), (1, .int a1), (9, .int a9)]) C d_Rm_over_289 rfl (by decide) rfl ?_
    refine g_iload C 8 rfl d_Rm_over_290 ?_
    refine g_iload C 7 rfl d_Rm_over_292 ?_
    refine g_iadd C d_Rm_over_294 ?_
    refine g_topi (fun x60 ex60 => ?_)
    have hr := of_lt ex60 hr
    refine g_istore_n (lv' := [(1, .int x60), (2, .int a1), (3, .int a2), (4, .int a3), (5, .int x59), (6, .int a5), (7, .int a6), (8, .int a7), (11, .int x58), (10, .int x51), (0, .ref a0), (9, .int a9)]) C d_Rm_over_295 rfl (by decide) rfl ?_
    obtain ⟨x61, ex61⟩ : ∃ z, z = a9 + Int32.ofInt 1 := ⟨_, rfl⟩
    have hr := of_lt ex61 hr
    refine g_iinc (lv' := [(9, .int x61), (1, .int x60), (2, .int a1), (3, .int a2), (4, .int a3), (5, .int x59), (6, .int a5), (7, .int a6), (8, .int a7), (11, .int x58), (10, .int x51), (0, .ref a0)]) C 11 rfl d_Rm_over_296 ex61.symm (by decide) rfl ?_
    refine g_goto (tgt := 162) C d_Rm_over_299 (by decide) ?_
    refine g_lv [11, 1, 2, 3, 4, 5, 6, 7, 8, 0] rfl ?_
    exact hK162 h56 a0 x60 a1 a2 a3 x59 a5 a6 a7 x61 hr
def L_Rm_over_162 (K3 : HP → Nat → Int32 → Option (HP)) : Nat → HP → Nat → Int32 → Int32 → Int32 → Int32 → Int32 → Int32 → Int32 → Int32 → Int32 → Option (HP)
  | 0, _, _, _, _, _, _, _, _, _, _, _ => none
  | f + 1, h, a0, a1, a2, a3, a4, a5, a6, a7, a8, a9 => B_Rm_over_162 K3 (L_Rm_over_162 K3 f) h a0 a1 a2 a3 a4 a5 a6 a7 a8 a9
theorem lp_Rm_over_162 {l : Launch} {x : CX} {h0 h' : HP} (C : EV x b_Rm_over "PrimeKeysModel" 12 rm_Rm_over) (T : CT x (none) rm_Rm_over h0 none h') (hl0 : x.1.2.1 = l) (K3 : HP → Nat → Int32 → Option (HP)) (hK3 : ∀ (h : HP) (a0 : Nat) (a1 : Int32), K3 h a0 a1 = some h' → GG x 0 0 h 3 [(0, .ref a0), (1, .int a1)] []) : ∀ (f : Nat) (h : HP) (a0 : Nat) (a1 : Int32) (a2 : Int32) (a3 : Int32) (a4 : Int32) (a5 : Int32) (a6 : Int32) (a7 : Int32) (a8 : Int32) (a9 : Int32), L_Rm_over_162 K3 f h a0 a1 a2 a3 a4 a5 a6 a7 a8 a9 = some h' → GG x 0 0 h 162 [(0, .ref a0), (1, .int a1), (2, .int a2), (3, .int a3), (4, .int a4), (5, .int a5), (6, .int a6), (7, .int a7), (8, .int a8), (9, .int a9)] [] := by
  intro f
  induction f with
  | zero => intro h a0 a1 a2 a3 a4 a5 a6 a7 a8 a9 hr; have hr : (none : Option (HP)) = some h' := hr; cases hr
  | succ f ih => intro h a0 a1 a2 a3 a4 a5 a6 a7 a8 a9 hr; exact bk_Rm_over_162 C T hl0 K3 (L_Rm_over_162 K3 f) hK3 ih h a0 a1 a2 a3 a4 a5 a6 a7 a8 a9 hr
def B_Rm_over_3 (K3 : HP → Nat → Int32 → Option (HP)) (h : HP) (a0 : Nat) (a1 : Int32) : Option (HP) :=
  if 64 ≤ a1 then
  bnd (gR h a0 8 46) fun k1 =>
  bnd (ldI h k1 0) fun v2 =>
  bnd (gR h a0 8 46) fun k3 =>
  bnd (ldI h k3 1) fun v4 =>
  bnd (gR h a0 8 46) fun k5 =>
  bnd (ldI h k5 2) fun v6 =>
  bnd (gR h a0 8 46) fun k7 =>
  bnd (ldI h k7 3) fun v8 =>
  bnd (gR h a0 8 46) fun k9 =>
  bnd (ldI h k9 4) fun v10 =>
  bnd (gR h a0 8 46) fun k11 =>
  bnd (ldI h k11 5) fun v12 =>
  bnd (gR h a0 8 46) fun k13 =>
  bnd (ldI h k13 6) fun v14 =>
  bnd (gR h a0 8 46) fun k15 =>
  bnd (ldI h k15 7) fun v16 =>
  L_Rm_over_162 K3 FU h a0 v2 v4 v6 v8 v10 v12 v14 v16 0
  else
  bnd (gR h a0 8 45) fun k62 =>
  bnd (ldI h k62 (a1 - 15)) fun v63 =>
  bnd (gR h a0 8 45) fun k64 =>
  bnd (ldI h k64 (a1 - 2)) fun v65 =>
  bnd (gR h a0 8 45) fun k66 =>
  bnd (gR h a0 8 45) fun k67 =>
  bnd (ldI h k67 (a1 - 16)) fun v68 =>
  bnd2 (P_Rm_turned h v63 7) fun v70 h69 =>
  bnd2 (P_Rm_turned h69 v63 18) fun v72 h71 =>
  bnd (gR h71 a0 8 45) fun k73 =>
  bnd (ldI h71 k73 (a1 - 7)) fun v74 =>
  bnd2 (P_Rm_turned h71 v65 17) fun v76 h75 =>
  bnd2 (P_Rm_turned h75 v65 19) fun v78 h77 =>
  bnd (stI h77 k66 a1 (((v68 + ((v70 ^^^ v72) ^^^ ((v63.toUInt32 >>> (Int32.toUInt32 3 &&& Int32.toUInt32 31)).toInt32))) + v74) + ((v76 ^^^ v78) ^^^ ((v65.toUInt32 >>> (Int32.toUInt32 10 &&& Int32.toUInt32 31)).toInt32)))) fun h79 =>
  lt (a1 + Int32.ofInt 1) fun x80 =>
  K3 h79 a0 x80
set_option maxHeartbeats 4000000 in
set_option maxRecDepth 100000 in
theorem bk_Rm_over_3 {l : Launch} {x : CX} {h0 h' : HP} (C : EV x b_Rm_over "PrimeKeysModel" 12 rm_Rm_over) (T : CT x (none) rm_Rm_over h0 none h') (hl0 : x.1.2.1 = l) (K3 : HP → Nat → Int32 → Option (HP)) (hK3 : ∀ (h : HP) (a0 : Nat) (a1 : Int32), K3 h a0 a1 = some h' → GG x 0 0 h 3 [(0, .ref a0), (1, .int a1)] []) (h : HP) (a0 : Nat) (a1 : Int32) (hr : B_Rm_over_3 K3 h a0 a1 = some h') : GG x 0 0 h 3 [(0, .ref a0), (1, .int a1)] [] := by
  unfold B_Rm_over_3 at hr
  refine g_iload_n C 1 rfl d_Rm_over_3 rfl ?_
  refine g_bipush (v := 64) C d_Rm_over_4 (by decide) ?_
  refine g_icmp_ge (tgt := 96) C d_Rm_over_6 (by decide) (fun z => ?_) (fun z => ?_)
  · have hr := of_if z hr
    refine g_aload_n C 0 rfl d_Rm_over_96 rfl ?_
    obtain ⟨k1, ek1, hr⟩ := of_bnd hr
    refine g_getR C fl_Rm_245 ek1 d_Rm_over_97 ?_
    refine g_iconst (v := 0) C d_Rm_over_100 (by decide) ?_
    obtain ⟨v2, ev2, hr⟩ := of_bnd hr
    refine g_iaload C ev2 d_Rm_over_101 ?_
    refine g_istore_n (lv' := [(1, .int v2), (0, .ref a0)]) C d_Rm_over_102 rfl (by decide) rfl ?_
    refine g_aload_n C 1 rfl d_Rm_over_103 rfl ?_
    obtain ⟨k3, ek3, hr⟩ := of_bnd hr
    refine g_getR C fl_Rm_245 ek3 d_Rm_over_104 ?_
    refine g_iconst (v := 1) C d_Rm_over_107 (by decide) ?_
    obtain ⟨v4, ev4, hr⟩ := of_bnd hr
    refine g_iaload C ev4 d_Rm_over_108 ?_
    refine g_istore_n (lv' := [(2, .int v4), (1, .int v2), (0, .ref a0)]) C d_Rm_over_109 rfl (by decide) rfl ?_
    refine g_aload_n C 2 rfl d_Rm_over_110 rfl ?_
    obtain ⟨k5, ek5, hr⟩ := of_bnd hr
    refine g_getR C fl_Rm_245 ek5 d_Rm_over_111 ?_
    refine g_iconst (v := 2) C d_Rm_over_114 (by decide) ?_
    obtain ⟨v6, ev6, hr⟩ := of_bnd hr
    refine g_iaload C ev6 d_Rm_over_115 ?_
    refine g_istore_n (lv' := [(3, .int v6), (2, .int v4), (1, .int v2), (0, .ref a0)]) C d_Rm_over_116 rfl (by decide) rfl ?_
    refine g_aload_n C 3 rfl d_Rm_over_117 rfl ?_
    obtain ⟨k7, ek7, hr⟩ := of_bnd hr
    refine g_getR C fl_Rm_245 ek7 d_Rm_over_118 ?_
    refine g_iconst (v := 3) C d_Rm_over_121 (by decide) ?_
    obtain ⟨v8, ev8, hr⟩ := of_bnd hr
    refine g_iaload C ev8 d_Rm_over_122 ?_
    refine g_istore (lv' := [(4, .int v8), (3, .int v6), (2, .int v4), (1, .int v2), (0, .ref a0)]) C d_Rm_over_123 (by decide) rfl ?_
    refine g_aload_n C 4 rfl d_Rm_over_125 rfl ?_
    obtain ⟨k9, ek9, hr⟩ := of_bnd hr
    refine g_getR C fl_Rm_245 ek9 d_Rm_over_126 ?_
    refine g_iconst (v := 4) C d_Rm_over_129 (by decide) ?_
    obtain ⟨v10, ev10, hr⟩ := of_bnd hr
    refine g_iaload C ev10 d_Rm_over_130 ?_
    refine g_istore (lv' := [(5, .int v10), (4, .int v8), (3, .int v6), (2, .int v4), (1, .int v2), (0, .ref a0)]) C d_Rm_over_131 (by decide) rfl ?_
    refine g_aload_n C 5 rfl d_Rm_over_133 rfl ?_
    obtain ⟨k11, ek11, hr⟩ := of_bnd hr
    refine g_getR C fl_Rm_245 ek11 d_Rm_over_134 ?_
    refine g_iconst (v := 5) C d_Rm_over_137 (by decide) ?_
    obtain ⟨v12, ev12, hr⟩ := of_bnd hr
    refine g_iaload C ev12 d_Rm_over_138 ?_
    refine g_istore (lv' := [(6, .int v12), (5, .int v10), (4, .int v8), (3, .int v6), (2, .int v4), (1, .int v2), (0, .ref a0)]) C d_Rm_over_139 (by decide) rfl ?_
    refine g_aload_n C 6 rfl d_Rm_over_141 rfl ?_
    obtain ⟨k13, ek13, hr⟩ := of_bnd hr
    refine g_getR C fl_Rm_245 ek13 d_Rm_over_142 ?_
    refine g_bipush (v := 6) C d_Rm_over_145 (by decide) ?_
    obtain ⟨v14, ev14, hr⟩ := of_bnd hr
    refine g_iaload C ev14 d_Rm_over_147 ?_
    refine g_istore (lv' := [(7, .int v14), (6, .int v12), (5, .int v10), (4, .int v8), (3, .int v6), (2, .int v4), (1, .int v2), (0, .ref a0)]) C d_Rm_over_148 (by decide) rfl ?_
    refine g_aload_n C 7 rfl d_Rm_over_150 rfl ?_
    obtain ⟨k15, ek15, hr⟩ := of_bnd hr
    refine g_getR C fl_Rm_245 ek15 d_Rm_over_151 ?_
    refine g_bipush (v := 7) C d_Rm_over_154 (by decide) ?_
    obtain ⟨v16, ev16, hr⟩ := of_bnd hr
    refine g_iaload C ev16 d_Rm_over_156 ?_
    refine g_istore (lv' := [(8, .int v16), (7, .int v14), (6, .int v12), (5, .int v10), (4, .int v8), (3, .int v6), (2, .int v4), (1, .int v2), (0, .ref a0)]) C d_Rm_over_157 (by decide) rfl ?_
    refine g_iconst (v := 0) C d_Rm_over_159 (by decide) ?_
    refine g_istore (lv' := [(9, .int 0), (8, .int v16), (7, .int v14), (6, .int v12), (5, .int v10), (4, .int v8), (3, .int v6), (2, .int v4), (1, .int v2), (0, .ref a0)]) C d_Rm_over_160 (by decide) rfl ?_
    refine g_lv [9, 8, 7, 6, 5, 4, 3, 2, 1, 0] rfl ?_
    exact lp_Rm_over_162 C T hl0 K3 hK3 FU h a0 v2 v4 v6 v8 v10 v12 v14 v16 0 hr
  · have hr := of_el z hr
    refine g_aload_n C 0 rfl d_Rm_over_9 rfl ?_
    obtain ⟨k62, ek62, hr⟩ := of_bnd hr
    refine g_getR C fl_Rm_242 ek62 d_Rm_over_10 ?_
    refine g_iload_n C 1 rfl d_Rm_over_13 rfl ?_
    refine g_bipush (v := 15) C d_Rm_over_14 (by decide) ?_
    refine g_isub C d_Rm_over_16 ?_
    obtain ⟨v63, ev63, hr⟩ := of_bnd hr
    refine g_iaload C ev63 d_Rm_over_17 ?_
    refine g_istore_n (lv' := [(2, .int v63), (0, .ref a0), (1, .int a1)]) C d_Rm_over_18 rfl (by decide) rfl ?_
    refine g_aload_n C 1 rfl d_Rm_over_19 rfl ?_
    obtain ⟨k64, ek64, hr⟩ := of_bnd hr
    refine g_getR C fl_Rm_242 ek64 d_Rm_over_20 ?_
    refine g_iload_n C 2 rfl d_Rm_over_23 rfl ?_
    refine g_iconst (v := 2) C d_Rm_over_24 (by decide) ?_
    refine g_isub C d_Rm_over_25 ?_
    obtain ⟨v65, ev65, hr⟩ := of_bnd hr
    refine g_iaload C ev65 d_Rm_over_26 ?_
    refine g_istore_n (lv' := [(3, .int v65), (2, .int v63), (0, .ref a0), (1, .int a1)]) C d_Rm_over_27 rfl (by decide) rfl ?_
    refine g_aload_n C 2 rfl d_Rm_over_28 rfl ?_
    obtain ⟨k66, ek66, hr⟩ := of_bnd hr
    refine g_getR C fl_Rm_242 ek66 d_Rm_over_29 ?_
    refine g_iload_n C 3 rfl d_Rm_over_32 rfl ?_
    refine g_aload_n C 2 rfl d_Rm_over_33 rfl ?_
    obtain ⟨k67, ek67, hr⟩ := of_bnd hr
    refine g_getR C fl_Rm_242 ek67 d_Rm_over_34 ?_
    refine g_iload_n C 3 rfl d_Rm_over_37 rfl ?_
    refine g_bipush (v := 16) C d_Rm_over_38 (by decide) ?_
    refine g_isub C d_Rm_over_40 ?_
    obtain ⟨v68, ev68, hr⟩ := of_bnd hr
    refine g_iaload C ev68 d_Rm_over_41 ?_
    refine g_iload_n C 1 rfl d_Rm_over_42 rfl ?_
    refine g_bipush (v := 7) C d_Rm_over_43 (by decide) ?_
    obtain ⟨v70, h69, eh69, hr⟩ := of_bnd2 hr
    refine g_callS (pa := [.int v63, .int 7]) C hl0 (c_Rm_turned eh69) cd_Rm_334 kw_st_Rm_turned (by decide) rfl rfl (Nat.le_of_ble_eq_true rfl) d_Rm_over_45 ?_
    refine g_iload_n C 1 rfl d_Rm_over_48 rfl ?_
    refine g_bipush (v := 18) C d_Rm_over_49 (by decide) ?_
    obtain ⟨v72, h71, eh71, hr⟩ := of_bnd2 hr
    refine g_callS (pa := [.int v63, .int 18]) C hl0 (c_Rm_turned eh71) cd_Rm_334 kw_st_Rm_turned (by decide) rfl rfl (Nat.le_of_ble_eq_true rfl) d_Rm_over_51 ?_
    refine g_ixor C d_Rm_over_54 ?_
    refine g_iload_n C 1 rfl d_Rm_over_55 rfl ?_
    refine g_iconst (v := 3) C d_Rm_over_56 (by decide) ?_
    refine g_iushr C d_Rm_over_57 ?_
    refine g_ixor C d_Rm_over_58 ?_
    refine g_iadd C d_Rm_over_59 ?_
    refine g_aload_n C 2 rfl d_Rm_over_60 rfl ?_
    obtain ⟨k73, ek73, hr⟩ := of_bnd hr
    refine g_getR C fl_Rm_242 ek73 d_Rm_over_61 ?_
    refine g_iload_n C 3 rfl d_Rm_over_64 rfl ?_
    refine g_bipush (v := 7) C d_Rm_over_65 (by decide) ?_
    refine g_isub C d_Rm_over_67 ?_
    obtain ⟨v74, ev74, hr⟩ := of_bnd hr
    refine g_iaload C ev74 d_Rm_over_68 ?_
    refine g_iadd C d_Rm_over_69 ?_
    refine g_iload_n C 0 rfl d_Rm_over_70 rfl ?_
    refine g_bipush (v := 17) C d_Rm_over_71 (by decide) ?_
    obtain ⟨v76, h75, eh75, hr⟩ := of_bnd2 hr
    refine g_callS (pa := [.int v65, .int 17]) C hl0 (c_Rm_turned eh75) cd_Rm_334 kw_st_Rm_turned (by decide) rfl rfl (Nat.le_of_ble_eq_true rfl) d_Rm_over_73 ?_
    refine g_iload_n C 0 rfl d_Rm_over_76 rfl ?_
    refine g_bipush (v := 19) C d_Rm_over_77 (by decide) ?_
    obtain ⟨v78, h77, eh77, hr⟩ := of_bnd2 hr
    refine g_callS (pa := [.int v65, .int 19]) C hl0 (c_Rm_turned eh77) cd_Rm_334 kw_st_Rm_turned (by decide) rfl rfl (Nat.le_of_ble_eq_true rfl) d_Rm_over_79 ?_
    refine g_ixor C d_Rm_over_82 ?_
    refine g_iload_n C 0 rfl d_Rm_over_83 rfl ?_
    refine g_bipush (v := 10) C d_Rm_over_84 (by decide) ?_
    refine g_iushr C d_Rm_over_86 ?_
    refine g_ixor C d_Rm_over_87 ?_
    refine g_iadd C d_Rm_over_88 ?_
    obtain ⟨h79, eh79, hr⟩ := of_bnd hr
    refine g_iastore C eh79 d_Rm_over_89 ?_
    obtain ⟨x80, ex80⟩ : ∃ z, z = a1 + Int32.ofInt 1 := ⟨_, rfl⟩
    have hr := of_lt ex80 hr
    refine g_iinc (lv' := [(1, .int x80), (3, .int v65), (2, .int v63), (0, .ref a0)]) C 3 rfl d_Rm_over_90 ex80.symm (by decide) rfl ?_
    refine g_goto (tgt := 3) C d_Rm_over_93 (by decide) ?_
    refine g_lv [3, 0] rfl ?_
    exact hK3 h79 a0 x80 hr
def L_Rm_over_3 : Nat → HP → Nat → Int32 → Option (HP)
  | 0, _, _, _ => none
  | f + 1, h, a0, a1 => B_Rm_over_3 (L_Rm_over_3 f) h a0 a1
theorem lp_Rm_over_3 {l : Launch} {x : CX} {h0 h' : HP} (C : EV x b_Rm_over "PrimeKeysModel" 12 rm_Rm_over) (T : CT x (none) rm_Rm_over h0 none h') (hl0 : x.1.2.1 = l) : ∀ (f : Nat) (h : HP) (a0 : Nat) (a1 : Int32), L_Rm_over_3 f h a0 a1 = some h' → GG x 0 0 h 3 [(0, .ref a0), (1, .int a1)] [] := by
  intro f
  induction f with
  | zero => intro h a0 a1 hr; have hr : (none : Option (HP)) = some h' := hr; cases hr
  | succ f ih => intro h a0 a1 hr; exact bk_Rm_over_3 C T hl0 (L_Rm_over_3 f) ih h a0 a1 hr
def P_Rm_over (h : HP) (p0 : Nat) : Option (HP) :=
  L_Rm_over_3 FU h p0 16
set_option maxHeartbeats 4000000 in
set_option maxRecDepth 100000 in
theorem c_Rm_over {l : Launch} {h h' : HP} {p0 : _} (hr : P_Rm_over h p0 = some h') : MP l y_Rm_over (Cond.code y_Rm_over b_Rm_over 12 none :: TB) rm_Rm_over h [.ref p0] none h' := by
  refine MP_intro (cc := b_Rm_over) (by decide) (Nat.le_of_ble_eq_true rfl) (fun x hl0 C T hin => ?_)
  unfold P_Rm_over at hr
  show GG x 0 0 h 0 [(0, .ref p0)] []
  refine g_bipush (v := 16) C d_Rm_over_0 (by decide) ?_
  refine g_istore_n (lv' := [(1, .int 16), (0, .ref p0)]) C d_Rm_over_2 rfl (by decide) rfl ?_
  refine g_lv [1, 0] rfl ?_
  exact lp_Rm_over_3 C T hl0 FU h p0 16 hr
abbrev b_Rm_hash : ByteArray := prog_12_method_27_code
abbrev y_Rm_hash : MethodName := ⟨"PrimeKeysModel", "hash", "([BI)V"⟩
theorem d_Rm_hash_0 : decode b_Rm_hash 0 = .ok (.iload_n 2, 1) := by decide +kernel
theorem d_Rm_hash_1 : decode b_Rm_hash 1 = .ok (.bipush 9, 2) := by decide +kernel
theorem d_Rm_hash_3 : decode b_Rm_hash 3 = .ok (.iadd, 1) := by decide +kernel
theorem d_Rm_hash_4 : decode b_Rm_hash 4 = .ok (.bipush 63, 2) := by decide +kernel
theorem d_Rm_hash_6 : decode b_Rm_hash 6 = .ok (.iadd, 1) := by decide +kernel
theorem d_Rm_hash_7 : decode b_Rm_hash 7 = .ok (.bipush 64, 2) := by decide +kernel
theorem d_Rm_hash_9 : decode b_Rm_hash 9 = .ok (.idiv, 1) := by decide +kernel
theorem d_Rm_hash_10 : decode b_Rm_hash 10 = .ok (.bipush 64, 2) := by decide +kernel
theorem d_Rm_hash_12 : decode b_Rm_hash 12 = .ok (.imul, 1) := by decide +kernel
theorem d_Rm_hash_13 : decode b_Rm_hash 13 = .ok (.istore_n 3, 1) := by decide +kernel
theorem d_Rm_hash_14 : decode b_Rm_hash 14 = .ok (.iconst 0, 1) := by decide +kernel
theorem d_Rm_hash_15 : decode b_Rm_hash 15 = .ok (.istore 4, 2) := by decide +kernel
theorem d_Rm_hash_17 : decode b_Rm_hash 17 = .ok (.iload 4, 2) := by decide +kernel
theorem d_Rm_hash_19 : decode b_Rm_hash 19 = .ok (.bipush 8, 2) := by decide +kernel
theorem d_Rm_hash_21 : decode b_Rm_hash 21 = .ok (.if_icmp .ge 27, 3) := by decide +kernel
theorem d_Rm_hash_24 : decode b_Rm_hash 24 = .ok (.aload_n 0, 1) := by decide +kernel
theorem d_Rm_hash_25 : decode b_Rm_hash 25 = .ok (.getfield 245, 3) := by decide +kernel
theorem d_Rm_hash_28 : decode b_Rm_hash 28 = .ok (.iload 4, 2) := by decide +kernel
theorem d_Rm_hash_30 : decode b_Rm_hash 30 = .ok (.aload_n 0, 1) := by decide +kernel
theorem d_Rm_hash_31 : decode b_Rm_hash 31 = .ok (.getfield 239, 3) := by decide +kernel
theorem d_Rm_hash_34 : decode b_Rm_hash 34 = .ok (.iload 4, 2) := by decide +kernel
theorem d_Rm_hash_36 : decode b_Rm_hash 36 = .ok (.laload, 1) := by decide +kernel
theorem d_Rm_hash_37 : decode b_Rm_hash 37 = .ok (.bipush 32, 2) := by decide +kernel
theorem d_Rm_hash_39 : decode b_Rm_hash 39 = .ok (.lushr, 1) := by decide +kernel
theorem d_Rm_hash_40 : decode b_Rm_hash 40 = .ok (.l2i, 1) := by decide +kernel
theorem d_Rm_hash_41 : decode b_Rm_hash 41 = .ok (.iastore, 1) := by decide +kernel
theorem d_Rm_hash_42 : decode b_Rm_hash 42 = .ok (.iinc 4 1, 3) := by decide +kernel
theorem d_Rm_hash_45 : decode b_Rm_hash 45 = .ok (.goto (-28), 3) := by decide +kernel
theorem d_Rm_hash_48 : decode b_Rm_hash 48 = .ok (.iconst 0, 1) := by decide +kernel
theorem d_Rm_hash_49 : decode b_Rm_hash 49 = .ok (.istore 4, 2) := by decide +kernel
theorem d_Rm_hash_51 : decode b_Rm_hash 51 = .ok (.iload 4, 2) := by decide +kernel
theorem d_Rm_hash_53 : decode b_Rm_hash 53 = .ok (.iload_n 3, 1) := by decide +kernel
theorem d_Rm_hash_54 : decode b_Rm_hash 54 = .ok (.if_icmp .ge 86, 3) := by decide +kernel
theorem d_Rm_hash_57 : decode b_Rm_hash 57 = .ok (.iconst 0, 1) := by decide +kernel
theorem d_Rm_hash_58 : decode b_Rm_hash 58 = .ok (.istore 5, 2) := by decide +kernel
theorem d_Rm_hash_60 : decode b_Rm_hash 60 = .ok (.iload 5, 2) := by decide +kernel
theorem d_Rm_hash_62 : decode b_Rm_hash 62 = .ok (.bipush 16, 2) := by decide +kernel
theorem d_Rm_hash_64 : decode b_Rm_hash 64 = .ok (.if_icmp .ge 66, 3) := by decide +kernel
theorem d_Rm_hash_67 : decode b_Rm_hash 67 = .ok (.aload_n 0, 1) := by decide +kernel
theorem d_Rm_hash_68 : decode b_Rm_hash 68 = .ok (.getfield 242, 3) := by decide +kernel
theorem d_Rm_hash_71 : decode b_Rm_hash 71 = .ok (.iload 5, 2) := by decide +kernel
theorem d_Rm_hash_73 : decode b_Rm_hash 73 = .ok (.iconst 0, 1) := by decide +kernel
theorem d_Rm_hash_74 : decode b_Rm_hash 74 = .ok (.iastore, 1) := by decide +kernel
theorem d_Rm_hash_75 : decode b_Rm_hash 75 = .ok (.iconst 0, 1) := by decide +kernel
theorem d_Rm_hash_76 : decode b_Rm_hash 76 = .ok (.istore 6, 2) := by decide +kernel
theorem d_Rm_hash_78 : decode b_Rm_hash 78 = .ok (.iload 6, 2) := by decide +kernel
theorem d_Rm_hash_80 : decode b_Rm_hash 80 = .ok (.iconst 4, 1) := by decide +kernel
theorem d_Rm_hash_81 : decode b_Rm_hash 81 = .ok (.if_icmp .ge 43, 3) := by decide +kernel
theorem d_Rm_hash_84 : decode b_Rm_hash 84 = .ok (.aload_n 0, 1) := by decide +kernel
theorem d_Rm_hash_85 : decode b_Rm_hash 85 = .ok (.getfield 242, 3) := by decide +kernel
theorem d_Rm_hash_88 : decode b_Rm_hash 88 = .ok (.iload 5, 2) := by decide +kernel
theorem d_Rm_hash_90 : decode b_Rm_hash 90 = .ok (.aload_n 0, 1) := by decide +kernel
theorem d_Rm_hash_91 : decode b_Rm_hash 91 = .ok (.getfield 242, 3) := by decide +kernel
theorem d_Rm_hash_94 : decode b_Rm_hash 94 = .ok (.iload 5, 2) := by decide +kernel
theorem d_Rm_hash_96 : decode b_Rm_hash 96 = .ok (.iaload, 1) := by decide +kernel
theorem d_Rm_hash_97 : decode b_Rm_hash 97 = .ok (.bipush 8, 2) := by decide +kernel
theorem d_Rm_hash_99 : decode b_Rm_hash 99 = .ok (.ishl, 1) := by decide +kernel
theorem d_Rm_hash_100 : decode b_Rm_hash 100 = .ok (.aload_n 1, 1) := by decide +kernel
theorem d_Rm_hash_101 : decode b_Rm_hash 101 = .ok (.iload_n 2, 1) := by decide +kernel
theorem d_Rm_hash_102 : decode b_Rm_hash 102 = .ok (.iload 4, 2) := by decide +kernel
theorem d_Rm_hash_104 : decode b_Rm_hash 104 = .ok (.iconst 4, 1) := by decide +kernel
theorem d_Rm_hash_105 : decode b_Rm_hash 105 = .ok (.iload 5, 2) := by decide +kernel
theorem d_Rm_hash_107 : decode b_Rm_hash 107 = .ok (.imul, 1) := by decide +kernel
theorem d_Rm_hash_108 : decode b_Rm_hash 108 = .ok (.iadd, 1) := by decide +kernel
theorem d_Rm_hash_109 : decode b_Rm_hash 109 = .ok (.iload 6, 2) := by decide +kernel
theorem d_Rm_hash_111 : decode b_Rm_hash 111 = .ok (.iadd, 1) := by decide +kernel
theorem d_Rm_hash_112 : decode b_Rm_hash 112 = .ok (.iload_n 3, 1) := by decide +kernel
theorem d_Rm_hash_113 : decode b_Rm_hash 113 = .ok (.invokestatic 327, 3) := by decide +kernel
theorem d_Rm_hash_116 : decode b_Rm_hash 116 = .ok (.ior, 1) := by decide +kernel
theorem d_Rm_hash_117 : decode b_Rm_hash 117 = .ok (.iastore, 1) := by decide +kernel
theorem d_Rm_hash_118 : decode b_Rm_hash 118 = .ok (.iinc 6 1, 3) := by decide +kernel
theorem d_Rm_hash_121 : decode b_Rm_hash 121 = .ok (.goto (-43), 3) := by decide +kernel
theorem d_Rm_hash_124 : decode b_Rm_hash 124 = .ok (.iinc 5 1, 3) := by decide +kernel
theorem d_Rm_hash_127 : decode b_Rm_hash 127 = .ok (.goto (-67), 3) := by decide +kernel
theorem d_Rm_hash_130 : decode b_Rm_hash 130 = .ok (.aload_n 0, 1) := by decide +kernel
theorem d_Rm_hash_131 : decode b_Rm_hash 131 = .ok (.invokevirtual 331, 3) := by decide +kernel
theorem d_Rm_hash_134 : decode b_Rm_hash 134 = .ok (.iinc 4 64, 3) := by decide +kernel
theorem d_Rm_hash_137 : decode b_Rm_hash 137 = .ok (.goto (-86), 3) := by decide +kernel
theorem d_Rm_hash_140 : decode b_Rm_hash 140 = .ok (.iconst 0, 1) := by decide +kernel
theorem d_Rm_hash_141 : decode b_Rm_hash 141 = .ok (.istore 4, 2) := by decide +kernel
theorem d_Rm_hash_143 : decode b_Rm_hash 143 = .ok (.iload 4, 2) := by decide +kernel
theorem d_Rm_hash_145 : decode b_Rm_hash 145 = .ok (.bipush 32, 2) := by decide +kernel
theorem d_Rm_hash_147 : decode b_Rm_hash 147 = .ok (.if_icmp .ge 37, 3) := by decide +kernel
theorem d_Rm_hash_150 : decode b_Rm_hash 150 = .ok (.aload_n 0, 1) := by decide +kernel
theorem d_Rm_hash_151 : decode b_Rm_hash 151 = .ok (.getfield 254, 3) := by decide +kernel
theorem d_Rm_hash_154 : decode b_Rm_hash 154 = .ok (.iload 4, 2) := by decide +kernel
theorem d_Rm_hash_156 : decode b_Rm_hash 156 = .ok (.aload_n 0, 1) := by decide +kernel
theorem d_Rm_hash_157 : decode b_Rm_hash 157 = .ok (.getfield 245, 3) := by decide +kernel
theorem d_Rm_hash_160 : decode b_Rm_hash 160 = .ok (.iload 4, 2) := by decide +kernel
theorem d_Rm_hash_162 : decode b_Rm_hash 162 = .ok (.iconst 4, 1) := by decide +kernel
theorem d_Rm_hash_163 : decode b_Rm_hash 163 = .ok (.idiv, 1) := by decide +kernel
theorem d_Rm_hash_164 : decode b_Rm_hash 164 = .ok (.iaload, 1) := by decide +kernel
theorem d_Rm_hash_165 : decode b_Rm_hash 165 = .ok (.bipush 24, 2) := by decide +kernel
theorem d_Rm_hash_167 : decode b_Rm_hash 167 = .ok (.bipush 8, 2) := by decide +kernel
theorem d_Rm_hash_169 : decode b_Rm_hash 169 = .ok (.iload 4, 2) := by decide +kernel
theorem d_Rm_hash_171 : decode b_Rm_hash 171 = .ok (.iconst 4, 1) := by decide +kernel
theorem d_Rm_hash_172 : decode b_Rm_hash 172 = .ok (.irem, 1) := by decide +kernel
theorem d_Rm_hash_173 : decode b_Rm_hash 173 = .ok (.imul, 1) := by decide +kernel
theorem d_Rm_hash_174 : decode b_Rm_hash 174 = .ok (.isub, 1) := by decide +kernel
theorem d_Rm_hash_175 : decode b_Rm_hash 175 = .ok (.iushr, 1) := by decide +kernel
theorem d_Rm_hash_176 : decode b_Rm_hash 176 = .ok (.i2b, 1) := by decide +kernel
theorem d_Rm_hash_177 : decode b_Rm_hash 177 = .ok (.bastore, 1) := by decide +kernel
theorem d_Rm_hash_178 : decode b_Rm_hash 178 = .ok (.iinc 4 1, 3) := by decide +kernel
theorem d_Rm_hash_181 : decode b_Rm_hash 181 = .ok (.goto (-38), 3) := by decide +kernel
theorem d_Rm_hash_184 : decode b_Rm_hash 184 = .ok (.return_, 1) := by decide +kernel
theorem fl_Rm_254 : FL "PrimeKeysModel" 254 8 49 := ⟨R_Rm, F_Rm, 50, rfl, u_Rm, by decide, rfl, tb_4 (List.mem_of_getElem? (i := 203) (by decide +kernel)) rfl⟩
theorem cd_Rm_331 : CD "PrimeKeysModel" 331 y_Rm_over b_Rm_over 12 none 0 := ⟨tb_5 (List.mem_of_getElem? (i := 183) rfl) rfl, tb_1 (List.mem_of_getElem? (i := 13) (by decide +kernel)) rfl, tb_5 (List.mem_of_getElem? (i := 180) (by decide +kernel)) rfl, by decide +kernel⟩
theorem kw_in_Rm_over : Cond.instanceMethod y_Rm_over ∈ TB := tb_5 (List.mem_of_getElem? (i := 182) (by decide +kernel)) rfl
theorem kw_se_Rm_over : Cond.selects "PrimeKeysModel" y_Rm_over y_Rm_over ∈ TB := tb_p (q := (y_Rm_over, 50)) (by decide +kernel)
theorem cd_Rm_327 : CD "PrimeKeysModel" 327 y_Rm_padded b_Rm_padded 4 (some .int) 4 := ⟨tb_5 (List.mem_of_getElem? (i := 178) rfl) rfl, tb_1 (List.mem_of_getElem? (i := 13) (by decide +kernel)) rfl, tb_5 (List.mem_of_getElem? (i := 176) (by decide +kernel)) rfl, by decide +kernel⟩
theorem kw_st_Rm_padded : Cond.static y_Rm_padded ∈ TB := tb_5 (List.mem_of_getElem? (i := 177) (by decide +kernel)) rfl
abbrev rm_Rm_hash : Room := { frames := 2, cells := 0, slots := 0, locals := 52 }
def B_Rm_hash_143 (K17 : HP → Nat → Nat → Int32 → Int32 → Int32 → Option (HP)) (K51 : HP → Nat → Nat → Int32 → Int32 → Int32 → Option (HP)) (K143 : HP → Nat → Int32 → Option (HP)) (h : HP) (a0 : Nat) (a4 : Int32) : Option (HP) :=
  if 32 ≤ a4 then
  some h
  else
  bnd (gR h a0 8 49) fun k2 =>
  bnd (gR h a0 8 46) fun k3 =>
  bnd (ldI h k3 (a4 / 4)) fun v4 =>
  bnd (stB h k2 a4 ((Int32.toInt8 ((v4.toUInt32 >>> (Int32.toUInt32 (24 - (8 * (a4 - a4 / 4 * 4))) &&& Int32.toUInt32 31)).toInt32)).toInt32)) fun h5 =>
  lt (a4 + Int32.ofInt 1) fun x6 =>
  K143 h5 a0 x6
set_option maxHeartbeats 4000000 in
set_option maxRecDepth 100000 in
theorem bk_Rm_hash_143 {l : Launch} {x : CX} {h0 h' : HP} (C : EV x b_Rm_hash "PrimeKeysModel" 7 rm_Rm_hash) (T : CT x (none) rm_Rm_hash h0 none h') (hl0 : x.1.2.1 = l) (K17 : HP → Nat → Nat → Int32 → Int32 → Int32 → Option (HP)) (K51 : HP → Nat → Nat → Int32 → Int32 → Int32 → Option (HP)) (K143 : HP → Nat → Int32 → Option (HP)) (hK17 : ∀ (h : HP) (a0 : Nat) (a1 : Nat) (a2 : Int32) (a3 : Int32) (a4 : Int32), K17 h a0 a1 a2 a3 a4 = some h' → GG x 0 0 h 17 [(0, .ref a0), (1, .ref a1), (2, .int a2), (3, .int a3), (4, .int a4)] []) (hK51 : ∀ (h : HP) (a0 : Nat) (a1 : Nat) (a2 : Int32) (a3 : Int32) (a4 : Int32), K51 h a0 a1 a2 a3 a4 = some h' → GG x 0 0 h 51 [(0, .ref a0), (1, .ref a1), (2, .int a2), (3, .int a3), (4, .int a4)] []) (hK143 : ∀ (h : HP) (a0 : Nat) (a4 : Int32), K143 h a0 a4 = some h' → GG x 0 0 h 143 [(0, .ref a0), (4, .int a4)] []) (h : HP) (a0 : Nat) (a4 : Int32) (hr : B_Rm_hash_143 K17 K51 K143 h a0 a4 = some h') : GG x 0 0 h 143 [(0, .ref a0), (4, .int a4)] [] := by
  unfold B_Rm_hash_143 at hr
  refine g_iload C 1 rfl d_Rm_hash_143 ?_
  refine g_bipush (v := 32) C d_Rm_hash_145 (by decide) ?_
  refine g_icmp_ge (tgt := 184) C d_Rm_hash_147 (by decide) (fun z => ?_) (fun z => ?_)
  · have hr := of_if z hr
    cases hr
    exact g_vreturn C T (by decide) (by decide) d_Rm_hash_184
  · have hr := of_el z hr
    refine g_aload_n C 0 rfl d_Rm_hash_150 rfl ?_
    obtain ⟨k2, ek2, hr⟩ := of_bnd hr
    refine g_getR C fl_Rm_254 ek2 d_Rm_hash_151 ?_
    refine g_iload C 1 rfl d_Rm_hash_154 ?_
    refine g_aload_n C 0 rfl d_Rm_hash_156 rfl ?_
    obtain ⟨k3, ek3, hr⟩ := of_bnd hr
    refine g_getR C fl_Rm_245 ek3 d_Rm_hash_157 ?_
    refine g_iload C 1 rfl d_Rm_hash_160 ?_
    refine g_iconst (v := 4) C d_Rm_hash_162 (by decide) ?_
    refine g_idiv C d_Rm_hash_163 (by decide) ?_
    obtain ⟨v4, ev4, hr⟩ := of_bnd hr
    refine g_iaload C ev4 d_Rm_hash_164 ?_
    refine g_bipush (v := 24) C d_Rm_hash_165 (by decide) ?_
    refine g_bipush (v := 8) C d_Rm_hash_167 (by decide) ?_
    refine g_iload C 1 rfl d_Rm_hash_169 ?_
    refine g_iconst (v := 4) C d_Rm_hash_171 (by decide) ?_
    refine g_irem C d_Rm_hash_172 (by decide) ?_
    refine g_imul C d_Rm_hash_173 ?_
    refine g_isub C d_Rm_hash_174 ?_
    refine g_iushr C d_Rm_hash_175 ?_
    refine g_i2b C d_Rm_hash_176 ?_
    obtain ⟨h5, eh5, hr⟩ := of_bnd hr
    refine g_bastore C eh5 d_Rm_hash_177 ?_
    obtain ⟨x6, ex6⟩ : ∃ z, z = a4 + Int32.ofInt 1 := ⟨_, rfl⟩
    have hr := of_lt ex6 hr
    refine g_iinc (lv' := [(4, .int x6), (0, .ref a0)]) C 1 rfl d_Rm_hash_178 ex6.symm (by decide) rfl ?_
    refine g_goto (tgt := 143) C d_Rm_hash_181 (by decide) ?_
    refine g_lv [1, 0] rfl ?_
    exact hK143 h5 a0 x6 hr
def L_Rm_hash_143 (K17 : HP → Nat → Nat → Int32 → Int32 → Int32 → Option (HP)) (K51 : HP → Nat → Nat → Int32 → Int32 → Int32 → Option (HP)) : Nat → HP → Nat → Int32 → Option (HP)
  | 0, _, _, _ => none
  | f + 1, h, a0, a4 => B_Rm_hash_143 K17 K51 (L_Rm_hash_143 K17 K51 f) h a0 a4
theorem lp_Rm_hash_143 {l : Launch} {x : CX} {h0 h' : HP} (C : EV x b_Rm_hash "PrimeKeysModel" 7 rm_Rm_hash) (T : CT x (none) rm_Rm_hash h0 none h') (hl0 : x.1.2.1 = l) (K17 : HP → Nat → Nat → Int32 → Int32 → Int32 → Option (HP)) (K51 : HP → Nat → Nat → Int32 → Int32 → Int32 → Option (HP)) (hK17 : ∀ (h : HP) (a0 : Nat) (a1 : Nat) (a2 : Int32) (a3 : Int32) (a4 : Int32), K17 h a0 a1 a2 a3 a4 = some h' → GG x 0 0 h 17 [(0, .ref a0), (1, .ref a1), (2, .int a2), (3, .int a3), (4, .int a4)] []) (hK51 : ∀ (h : HP) (a0 : Nat) (a1 : Nat) (a2 : Int32) (a3 : Int32) (a4 : Int32), K51 h a0 a1 a2 a3 a4 = some h' → GG x 0 0 h 51 [(0, .ref a0), (1, .ref a1), (2, .int a2), (3, .int a3), (4, .int a4)] []) : ∀ (f : Nat) (h : HP) (a0 : Nat) (a4 : Int32), L_Rm_hash_143 K17 K51 f h a0 a4 = some h' → GG x 0 0 h 143 [(0, .ref a0), (4, .int a4)] [] := by
  intro f
  induction f with
  | zero => intro h a0 a4 hr; have hr : (none : Option (HP)) = some h' := hr; cases hr
  | succ f ih => intro h a0 a4 hr; exact bk_Rm_hash_143 C T hl0 K17 K51 (L_Rm_hash_143 K17 K51 f) hK17 hK51 ih h a0 a4 hr
def B_Rm_hash_78 (K17 : HP → Nat → Nat → Int32 → Int32 → Int32 → Option (HP)) (K51 : HP → Nat → Nat → Int32 → Int32 → Int32 → Option (HP)) (K60 : HP → Nat → Nat → Int32 → Int32 → Int32 → Int32 → Option (HP)) (K78 : HP → Nat → Nat → Int32 → Int32 → Int32 → Int32 → Int32 → Option (HP)) (h : HP) (a0 : Nat) (a1 : Nat) (a2 : Int32) (a3 : Int32) (a4 : Int32) (a5 : Int32) (a6 : Int32) : Option (HP) :=
  if 4 ≤ a6 then
  lt (a5 + Int32.ofInt 1) fun x11 =>
  K60 h a0 a1 a2 a3 a4 x11
  else
  bnd (gR h a0 8 45) fun k12 =>
  bnd (gR h a0 8 45) fun k13 =>
  bnd (ldI h k13 a5) fun v14 =>
  bnd2 (P_Rm_padded h a1 a2 ((a4 + (4 * a5)) + a6) a3) fun v16 h15 =>
  bnd (stI h15 k12 a5 ((v14 <<< (8 &&& 31)) ||| v16)) fun h17 =>
  lt (a6 + Int32.ofInt 1) fun x18 =>
  K78 h17 a0 a1 a2 a3 a4 a5 x18
set_option maxHeartbeats 4000000 in
set_option maxRecDepth 100000 in
theorem bk_Rm_hash_78 {l : Launch} {x : CX} {h0 h' : HP} (C : EV x b_Rm_hash "PrimeKeysModel" 7 rm_Rm_hash) (T : CT x (none) rm_Rm_hash h0 none h') (hl0 : x.1.2.1 = l) (K17 : HP → Nat → Nat → Int32 → Int32 → Int32 → Option (HP)) (K51 : HP → Nat → Nat → Int32 → Int32 → Int32 → Option (HP)) (K60 : HP → Nat → Nat → Int32 → Int32 → Int32 → Int32 → Option (HP)) (K78 : HP → Nat → Nat → Int32 → Int32 → Int32 → Int32 → Int32 → Option (HP)) (hK17 : ∀ (h : HP) (a0 : Nat) (a1 : Nat) (a2 : Int32) (a3 : Int32) (a4 : Int32), K17 h a0 a1 a2 a3 a4 = some h' → GG x 0 0 h 17 [(0, .ref a0), (1, .ref a1), (2, .int a2), (3, .int a3), (4, .int a4)] []) (hK51 : ∀ (h : HP) (a0 : Nat) (a1 : Nat) (a2 : Int32) (a3 : Int32) (a4 : Int32), K51 h a0 a1 a2 a3 a4 = some h' → GG x 0 0 h 51 [(0, .ref a0), (1, .ref a1), (2, .int a2), (3, .int a3), (4, .int a4)] []) (hK60 : ∀ (h : HP) (a0 : Nat) (a1 : Nat) (a2 : Int32) (a3 : Int32) (a4 : Int32) (a5 : Int32), K60 h a0 a1 a2 a3 a4 a5 = some h' → GG x 0 0 h 60 [(0, .ref a0), (1, .ref a1), (2, .int a2), (3, .int a3), (4, .int a4), (5, .int a5)] []) (hK78 : ∀ (h : HP) (a0 : Nat) (a1 : Nat) (a2 : Int32) (a3 : Int32) (a4 : Int32) (a5 : Int32) (a6 : Int32), K78 h a0 a1 a2 a3 a4 a5 a6 = some h' → GG x 0 0 h 78 [(0, .ref a0), (1, .ref a1), (2, .int a2), (3, .int a3), (4, .int a4), (5, .int a5), (6, .int a6)] []) (h : HP) (a0 : Nat) (a1 : Nat) (a2 : Int32) (a3 : Int32) (a4 : Int32) (a5 : Int32) (a6 : Int32) (hr : B_Rm_hash_78 K17 K51 K60 K78 h a0 a1 a2 a3 a4 a5 a6 = some h') : GG x 0 0 h 78 [(0, .ref a0), (1, .ref a1), (2, .int a2), (3, .int a3), (4, .int a4), (5, .int a5), (6, .int a6)] [] := by
  unfold B_Rm_hash_78 at hr
  refine g_iload C 6 rfl d_Rm_hash_78 ?_
  refine g_iconst (v := 4) C d_Rm_hash_80 (by decide) ?_
  refine g_icmp_ge (tgt := 124) C d_Rm_hash_81 (by decide) (fun z => ?_) (fun z => ?_)
  · have hr := of_if z hr
    obtain ⟨x11, ex11⟩ : ∃ z, z = a5 + Int32.ofInt 1 := ⟨_, rfl⟩
    have hr := of_lt ex11 hr
    refine g_iinc (lv' := [(5, .int x11), (0, .ref a0), (1, .ref a1), (2, .int a2), (3, .int a3), (4, .int a4), (6, .int a6)]) C 5 rfl d_Rm_hash_124 ex11.symm (by decide) rfl ?_
    refine g_goto (tgt := 60) C d_Rm_hash_127 (by decide) ?_
    refine g_lv [1, 2, 3, 4, 5, 0] rfl ?_
    exact hK60 h a0 a1 a2 a3 a4 x11 hr
  · have hr := of_el z hr
    refine g_aload_n C 0 rfl d_Rm_hash_84 rfl ?_
    obtain ⟨k12, ek12, hr⟩ := of_bnd hr
    refine g_getR C fl_Rm_242 ek12 d_Rm_hash_85 ?_
    refine g_iload C 5 rfl d_Rm_hash_88 ?_
    refine g_aload_n C 0 rfl d_Rm_hash_90 rfl ?_
    obtain ⟨k13, ek13, hr⟩ := of_bnd hr
    refine g_getR C fl_Rm_242 ek13 d_Rm_hash_91 ?_
    refine g_iload C 5 rfl d_Rm_hash_94 ?_
    obtain ⟨v14, ev14, hr⟩ := of_bnd hr
    refine g_iaload C ev14 d_Rm_hash_96 ?_
    refine g_bipush (v := 8) C d_Rm_hash_97 (by decide) ?_
    refine g_ishl C d_Rm_hash_99 ?_
    refine g_aload_n C 1 rfl d_Rm_hash_100 rfl ?_
    refine g_iload_n C 2 rfl d_Rm_hash_101 rfl ?_
    refine g_iload C 4 rfl d_Rm_hash_102 ?_
    refine g_iconst (v := 4) C d_Rm_hash_104 (by decide) ?_
    refine g_iload C 5 rfl d_Rm_hash_105 ?_
    refine g_imul C d_Rm_hash_107 ?_
    refine g_iadd C d_Rm_hash_108 ?_
    refine g_iload C 6 rfl d_Rm_hash_109 ?_
    refine g_iadd C d_Rm_hash_111 ?_
    refine g_iload_n C 3 rfl d_Rm_hash_112 rfl ?_
    obtain ⟨v16, h15, eh15, hr⟩ := of_bnd2 hr
    refine g_callS (pa := [.ref a1, .int a2, .int ((a4 + (4 * a5)) + a6), .int a3]) C hl0 (c_Rm_padded eh15) cd_Rm_327 kw_st_Rm_padded (by decide) rfl rfl (Nat.le_of_ble_eq_true rfl) d_Rm_hash_113 ?_
    refine g_ior C d_Rm_hash_116 ?_
    obtain ⟨h17, eh17, hr⟩ := of_bnd hr
    refine g_iastore C eh17 d_Rm_hash_117 ?_
    obtain ⟨x18, ex18⟩ : ∃ z, z = a6 + Int32.ofInt 1 := ⟨_, rfl⟩
    have hr := of_lt ex18 hr
    refine g_iinc (lv' := [(6, .int x18), (0, .ref a0), (1, .ref a1), (2, .int a2), (3, .int a3), (4, .int a4), (5, .int a5)]) C 6 rfl d_Rm_hash_118 ex18.symm (by decide) rfl ?_
    refine g_goto (tgt := 78) C d_Rm_hash_121 (by decide) ?_
    refine g_lv [1, 2, 3, 4, 5, 6, 0] rfl ?_
    exact hK78 h17 a0 a1 a2 a3 a4 a5 x18 hr
def L_Rm_hash_78 (K17 : HP → Nat → Nat → Int32 → Int32 → Int32 → Option (HP)) (K51 : HP → Nat → Nat → Int32 → Int32 → Int32 → Option (HP)) (K60 : HP → Nat → Nat → Int32 → Int32 → Int32 → Int32 → Option (HP)) : Nat → HP → Nat → Nat → Int32 → Int32 → Int32 → Int32 → Int32 → Option (HP)
  | 0, _, _, _, _, _, _, _, _ => none
  | f + 1, h, a0, a1, a2, a3, a4, a5, a6 => B_Rm_hash_78 K17 K51 K60 (L_Rm_hash_78 K17 K51 K60 f) h a0 a1 a2 a3 a4 a5 a6
theorem lp_Rm_hash_78 {l : Launch} {x : CX} {h0 h' : HP} (C : EV x b_Rm_hash "PrimeKeysModel" 7 rm_Rm_hash) (T : CT x (none) rm_Rm_hash h0 none h') (hl0 : x.1.2.1 = l) (K17 : HP → Nat → Nat → Int32 → Int32 → Int32 → Option (HP)) (K51 : HP → Nat → Nat → Int32 → Int32 → Int32 → Option (HP)) (K60 : HP → Nat → Nat → Int32 → Int32 → Int32 → Int32 → Option (HP)) (hK17 : ∀ (h : HP) (a0 : Nat) (a1 : Nat) (a2 : Int32) (a3 : Int32) (a4 : Int32), K17 h a0 a1 a2 a3 a4 = some h' → GG x 0 0 h 17 [(0, .ref a0), (1, .ref a1), (2, .int a2), (3, .int a3), (4, .int a4)] []) (hK51 : ∀ (h : HP) (a0 : Nat) (a1 : Nat) (a2 : Int32) (a3 : Int32) (a4 : Int32), K51 h a0 a1 a2 a3 a4 = some h' → GG x 0 0 h 51 [(0, .ref a0), (1, .ref a1), (2, .int a2), (3, .int a3), (4, .int a4)] []) (hK60 : ∀ (h : HP) (a0 : Nat) (a1 : Nat) (a2 : Int32) (a3 : Int32) (a4 : Int32) (a5 : Int32), K60 h a0 a1 a2 a3 a4 a5 = some h' → GG x 0 0 h 60 [(0, .ref a0), (1, .ref a1), (2, .int a2), (3, .int a3), (4, .int a4), (5, .int a5)] []) : ∀ (f : Nat) (h : HP) (a0 : Nat) (a1 : Nat) (a2 : Int32) (a3 : Int32) (a4 : Int32) (a5 : Int32) (a6 : Int32), L_Rm_hash_78 K17 K51 K60 f h a0 a1 a2 a3 a4 a5 a6 = some h' → GG x 0 0 h 78 [(0, .ref a0), (1, .ref a1), (2, .int a2), (3, .int a3), (4, .int a4), (5, .int a5), (6, .int a6)] [] := by
  intro f
  induction f with
  | zero => intro h a0 a1 a2 a3 a4 a5 a6 hr; have hr : (none : Option (HP)) = some h' := hr; cases hr
  | succ f ih => intro h a0 a1 a2 a3 a4 a5 a6 hr; exact bk_Rm_hash_78 C T hl0 K17 K51 K60 (L_Rm_hash_78 K17 K51 K60 f) hK17 hK51 hK60 ih h a0 a1 a2 a3 a4 a5 a6 hr
def B_Rm_hash_60 (K17 : HP → Nat → Nat → Int32 → Int32 → Int32 → Option (HP)) (K51 : HP → Nat → Nat → Int32 → Int32 → Int32 → Option (HP)) (K60 : HP → Nat → Nat → Int32 → Int32 → Int32 → Int32 → Option (HP)) (h : HP) (a0 : Nat) (a1 : Nat) (a2 : Int32) (a3 : Int32) (a4 : Int32) (a5 : Int32) : Option (HP) :=
  if 16 ≤ a5 then
  ob h a0 8 (
  bnd (P_Rm_over h a0) fun h7 =>
  lt (a4 + Int32.ofInt 64) fun x8 =>
  K51 h7 a0 a1 a2 a3 x8)
  else
  bnd (gR h a0 8 45) fun k9 =>
  bnd (stI h k9 a5 0) fun h10 =>
  L_Rm_hash_78 K17 K51 K60 FU h10 a0 a1 a2 a3 a4 a5 0
set_option maxHeartbeats 4000000 in
set_option maxRecDepth 100000 in
theorem bk_Rm_hash_60 {l : Launch} {x : CX} {h0 h' : HP} (C : EV x b_Rm_hash "PrimeKeysModel" 7 rm_Rm_hash) (T : CT x (none) rm_Rm_hash h0 none h') (hl0 : x.1.2.1 = l) (K17 : HP → Nat → Nat → Int32 → Int32 → Int32 → Option (HP)) (K51 : HP → Nat → Nat → Int32 → Int32 → Int32 → Option (HP)) (K60 : HP → Nat → Nat → Int32 → Int32 → Int32 → Int32 → Option (HP)) (hK17 : ∀ (h : HP) (a0 : Nat) (a1 : Nat) (a2 : Int32) (a3 : Int32) (a4 : Int32), K17 h a0 a1 a2 a3 a4 = some h' → GG x 0 0 h 17 [(0, .ref a0), (1, .ref a1), (2, .int a2), (3, .int a3), (4, .int a4)] []) (hK51 : ∀ (h : HP) (a0 : Nat) (a1 : Nat) (a2 : Int32) (a3 : Int32) (a4 : Int32), K51 h a0 a1 a2 a3 a4 = some h' → GG x 0 0 h 51 [(0, .ref a0), (1, .ref a1), (2, .int a2), (3, .int a3), (4, .int a4)] []) (hK60 : ∀ (h : HP) (a0 : Nat) (a1 : Nat) (a2 : Int32) (a3 : Int32) (a4 : Int32) (a5 : Int32), K60 h a0 a1 a2 a3 a4 a5 = some h' → GG x 0 0 h 60 [(0, .ref a0), (1, .ref a1), (2, .int a2), (3, .int a3), (4, .int a4), (5, .int a5)] []) (h : HP) (a0 : Nat) (a1 : Nat) (a2 : Int32) (a3 : Int32) (a4 : Int32) (a5 : Int32) (hr : B_Rm_hash_60 K17 K51 K60 h a0 a1 a2 a3 a4 a5 = some h') : GG x 0 0 h 60 [(0, .ref a0), (1, .ref a1), (2, .int a2), (3, .int a3), (4, .int a4), (5, .int a5)] [] := by
  unfold B_Rm_hash_60 at hr
  refine g_iload C 5 rfl d_Rm_hash_60 ?_
  refine g_bipush (v := 16) C d_Rm_hash_62 (by decide) ?_
  refine g_icmp_ge (tgt := 130) C d_Rm_hash_64 (by decide) (fun z => ?_) (fun z => ?_)
  · have hr := of_if z hr
    refine g_aload_n C 0 rfl d_Rm_hash_130 rfl ?_
    obtain ⟨fsh7, hoh7, hr⟩ := of_ob hr
    obtain ⟨h7, eh7, hr⟩ := of_bnd hr
    refine g_callV (pa := []) C hl0 (c_Rm_over eh7) cd_Rm_331 kw_in_Rm_over kw_se_Rm_over hoh7 rfl rfl (by decide) rfl rfl (Nat.le_of_ble_eq_true rfl) d_Rm_hash_131 ?_
    obtain ⟨x8, ex8⟩ : ∃ z, z = a4 + Int32.ofInt 64 := ⟨_, rfl⟩
    have hr := of_lt ex8 hr
    refine g_iinc (lv' := [(4, .int x8), (0, .ref a0), (1, .ref a1), (2, .int a2), (3, .int a3), (5, .int a5)]) C 4 rfl d_Rm_hash_134 ex8.symm (by decide) rfl ?_
    refine g_goto (tgt := 51) C d_Rm_hash_137 (by decide) ?_
    refine g_lv [1, 2, 3, 4, 0] rfl ?_
    exact hK51 h7 a0 a1 a2 a3 x8 hr
  · have hr := of_el z hr
    refine g_aload_n C 0 rfl d_Rm_hash_67 rfl ?_
    obtain ⟨k9, ek9, hr⟩ := of_bnd hr
    refine g_getR C fl_Rm_242 ek9 d_Rm_hash_68 ?_
    refine g_iload C 5 rfl d_Rm_hash_71 ?_
    refine g_iconst (v := 0) C d_Rm_hash_73 (by decide) ?_
    obtain ⟨h10, eh10, hr⟩ := of_bnd hr
    refine g_iastore C eh10 d_Rm_hash_74 ?_
    refine g_iconst (v := 0) C d_Rm_hash_75 (by decide) ?_
    refine g_istore (lv' := [(6, .int 0), (0, .ref a0), (1, .ref a1), (2, .int a2), (3, .int a3), (4, .int a4), (5, .int a5)]) C d_Rm_hash_76 (by decide) rfl ?_
    refine g_lv [1, 2, 3, 4, 5, 6, 0] rfl ?_
    exact lp_Rm_hash_78 C T hl0 K17 K51 K60 hK17 hK51 hK60 FU h10 a0 a1 a2 a3 a4 a5 0 hr
def L_Rm_hash_60 (K17 : HP → Nat → Nat → Int32 → Int32 → Int32 → Option (HP)) (K51 : HP → Nat → Nat → Int32 → Int32 → Int32 → Option (HP)) : Nat → HP → Nat → Nat → Int32 → Int32 → Int32 → Int32 → Option (HP)
  | 0, _, _, _, _, _, _, _ => none
  | f + 1, h, a0, a1, a2, a3, a4, a5 => B_Rm_hash_60 K17 K51 (L_Rm_hash_60 K17 K51 f) h a0 a1 a2 a3 a4 a5
theorem lp_Rm_hash_60 {l : Launch} {x : CX} {h0 h' : HP} (C : EV x b_Rm_hash "PrimeKeysModel" 7 rm_Rm_hash) (T : CT x (none) rm_Rm_hash h0 none h') (hl0 : x.1.2.1 = l) (K17 : HP → Nat → Nat → Int32 → Int32 → Int32 → Option (HP)) (K51 : HP → Nat → Nat → Int32 → Int32 → Int32 → Option (HP)) (hK17 : ∀ (h : HP) (a0 : Nat) (a1 : Nat) (a2 : Int32) (a3 : Int32) (a4 : Int32), K17 h a0 a1 a2 a3 a4 = some h' → GG x 0 0 h 17 [(0, .ref a0), (1, .ref a1), (2, .int a2), (3, .int a3), (4, .int a4)] []) (hK51 : ∀ (h : HP) (a0 : Nat) (a1 : Nat) (a2 : Int32) (a3 : Int32) (a4 : Int32), K51 h a0 a1 a2 a3 a4 = some h' → GG x 0 0 h 51 [(0, .ref a0), (1, .ref a1), (2, .int a2), (3, .int a3), (4, .int a4)] []) : ∀ (f : Nat) (h : HP) (a0 : Nat) (a1 : Nat) (a2 : Int32) (a3 : Int32) (a4 : Int32) (a5 : Int32), L_Rm_hash_60 K17 K51 f h a0 a1 a2 a3 a4 a5 = some h' → GG x 0 0 h 60 [(0, .ref a0), (1, .ref a1), (2, .int a2), (3, .int a3), (4, .int a4), (5, .int a5)] [] := by
  intro f
  induction f with
  | zero => intro h a0 a1 a2 a3 a4 a5 hr; have hr : (none : Option (HP)) = some h' := hr; cases hr
  | succ f ih => intro h a0 a1 a2 a3 a4 a5 hr; exact bk_Rm_hash_60 C T hl0 K17 K51 (L_Rm_hash_60 K17 K51 f) hK17 hK51 ih h a0 a1 a2 a3 a4 a5 hr
def B_Rm_hash_51 (K17 : HP → Nat → Nat → Int32 → Int32 → Int32 → Option (HP)) (K51 : HP → Nat → Nat → Int32 → Int32 → Int32 → Option (HP)) (h : HP) (a0 : Nat) (a1 : Nat) (a2 : Int32) (a3 : Int32) (a4 : Int32) : Option (HP) :=
  if a3 ≤ a4 then
  L_Rm_hash_143 K17 K51 FU h a0 0
  else
  L_Rm_hash_60 K17 K51 FU h a0 a1 a2 a3 a4 0
set_option maxHeartbeats 4000000 in
set_option maxRecDepth 100000 in
theorem bk_Rm_hash_51 {l : Launch} {x : CX} {h0 h' : HP} (C : EV x b_Rm_hash "PrimeKeysModel" 7 rm_Rm_hash) (T : CT x (none) rm_Rm_hash h0 none h') (hl0 : x.1.2.1 = l) (K17 : HP → Nat → Nat → Int32 → Int32 → Int32 → Option (HP)) (K51 : HP → Nat → Nat → Int32 → Int32 → Int32 → Option (HP)) (hK17 : ∀ (h : HP) (a0 : Nat) (a1 : Nat) (a2 : Int32) (a3 : Int32) (a4 : Int32), K17 h a0 a1 a2 a3 a4 = some h' → GG x 0 0 h 17 [(0, .ref a0), (1, .ref a1), (2, .int a2), (3, .int a3), (4, .int a4)] []) (hK51 : ∀ (h : HP) (a0 : Nat) (a1 : Nat) (a2 : Int32) (a3 : Int32) (a4 : Int32), K51 h a0 a1 a2 a3 a4 = some h' → GG x 0 0 h 51 [(0, .ref a0), (1, .ref a1), (2, .int a2), (3, .int a3), (4, .int a4)] []) (h : HP) (a0 : Nat) (a1 : Nat) (a2 : Int32) (a3 : Int32) (a4 : Int32) (hr : B_Rm_hash_51 K17 K51 h a0 a1 a2 a3 a4 = some h') : GG x 0 0 h 51 [(0, .ref a0), (1, .ref a1), (2, .int a2), (3, .int a3), (4, .int a4)] [] := by
  unfold B_Rm_hash_51 at hr
  refine g_iload C 4 rfl d_Rm_hash_51 ?_
  refine g_iload_n C 3 rfl d_Rm_hash_53 rfl ?_
  refine g_icmp_ge (tgt := 140) C d_Rm_hash_54 (by decide) (fun z => ?_) (fun z => ?_)
  · have hr := of_if z hr
    refine g_iconst (v := 0) C d_Rm_hash_140 (by decide) ?_
    refine g_istore (lv' := [(4, .int 0), (0, .ref a0), (1, .ref a1), (2, .int a2), (3, .int a3)]) C d_Rm_hash_141 (by decide) rfl ?_
    refine g_lv [1, 0] rfl ?_
    exact lp_Rm_hash_143 C T hl0 K17 K51 hK17 hK51 FU h a0 0 hr
  · have hr := of_el z hr
    refine g_iconst (v := 0) C d_Rm_hash_57 (by decide) ?_
    refine g_istore (lv' := [(5, .int 0), (0, .ref a0), (1, .ref a1), (2, .int a2), (3, .int a3), (4, .int a4)]) C d_Rm_hash_58 (by decide) rfl ?_
    refine g_lv [1, 2, 3, 4, 5, 0] rfl ?_
    exact lp_Rm_hash_60 C T hl0 K17 K51 hK17 hK51 FU h a0 a1 a2 a3 a4 0 hr
def L_Rm_hash_51 (K17 : HP → Nat → Nat → Int32 → Int32 → Int32 → Option (HP)) : Nat → HP → Nat → Nat → Int32 → Int32 → Int32 → Option (HP)
  | 0, _, _, _, _, _, _ => none
  | f + 1, h, a0, a1, a2, a3, a4 => B_Rm_hash_51 K17 (L_Rm_hash_51 K17 f) h a0 a1 a2 a3 a4
theorem lp_Rm_hash_51 {l : Launch} {x : CX} {h0 h' : HP} (C : EV x b_Rm_hash "PrimeKeysModel" 7 rm_Rm_hash) (T : CT x (none) rm_Rm_hash h0 none h') (hl0 : x.1.2.1 = l) (K17 : HP → Nat → Nat → Int32 → Int32 → Int32 → Option (HP)) (hK17 : ∀ (h : HP) (a0 : Nat) (a1 : Nat) (a2 : Int32) (a3 : Int32) (a4 : Int32), K17 h a0 a1 a2 a3 a4 = some h' → GG x 0 0 h 17 [(0, .ref a0), (1, .ref a1), (2, .int a2), (3, .int a3), (4, .int a4)] []) : ∀ (f : Nat) (h : HP) (a0 : Nat) (a1 : Nat) (a2 : Int32) (a3 : Int32) (a4 : Int32), L_Rm_hash_51 K17 f h a0 a1 a2 a3 a4 = some h' → GG x 0 0 h 51 [(0, .ref a0), (1, .ref a1), (2, .int a2), (3, .int a3), (4, .int a4)] [] := by
  intro f
  induction f with
  | zero => intro h a0 a1 a2 a3 a4 hr; have hr : (none : Option (HP)) = some h' := hr; cases hr
  | succ f ih => intro h a0 a1 a2 a3 a4 hr; exact bk_Rm_hash_51 C T hl0 K17 (L_Rm_hash_51 K17 f) hK17 ih h a0 a1 a2 a3 a4 hr
def B_Rm_hash_17 (K17 : HP → Nat → Nat → Int32 → Int32 → Int32 → Option (HP)) (h : HP) (a0 : Nat) (a1 : Nat) (a2 : Int32) (a3 : Int32) (a4 : Int32) : Option (HP) :=
  if 8 ≤ a4 then
  L_Rm_hash_51 K17 FU h a0 a1 a2 a3 0
  else
  bnd (gR h a0 8 46) fun k19 =>
  bnd (gR h a0 8 44) fun k20 =>
  bnd (ldJ h k20 a4) fun v21 =>
  bnd (stI h k19 a4 (Int64.toInt32 ((v21.toUInt64 >>> ((Int32.toInt64 32).toUInt64 &&& Int64.toUInt64 63)).toInt64))) fun h22 =>
  lt (a4 + Int32.ofInt 1) fun x23 =>
  K17 h22 a0 a1 a2 a3 x23
set_option maxHeartbeats 4000000 in
set_option maxRecDepth 100000 in
theorem bk_Rm_hash_17 {l : Launch} {x : CX} {h0 h' : HP} (C : EV x b_Rm_hash "PrimeKeysModel" 7 rm_Rm_hash) (T : CT x (none) rm_Rm_hash h0 none h') (hl0 : x.1.2.1 = l) (K17 : HP → Nat → Nat → Int32 → Int32 → Int32 → Option (HP)) (hK17 : ∀ (h : HP) (a0 : Nat) (a1 : Nat) (a2 : Int32) (a3 : Int32) (a4 : Int32), K17 h a0 a1 a2 a3 a4 = some h' → GG x 0 0 h 17 [(0, .ref a0), (1, .ref a1), (2, .int a2), (3, .int a3), (4, .int a4)] []) (h : HP) (a0 : Nat) (a1 : Nat) (a2 : Int32) (a3 : Int32) (a4 : Int32) (hr : B_Rm_hash_17 K17 h a0 a1 a2 a3 a4 = some h') : GG x 0 0 h 17 [(0, .ref a0), (1, .ref a1), (2, .int a2), (3, .int a3), (4, .int a4)] [] := by
  unfold B_Rm_hash_17 at hr
  refine g_iload C 4 rfl d_Rm_hash_17 ?_
  refine g_bipush (v := 8) C d_Rm_hash_19 (by decide) ?_
  refine g_icmp_ge (tgt := 48) C d_Rm_hash_21 (by decide) (fun z => ?_) (fun z => ?_)
  · have hr := of_if z hr
    refine g_iconst (v := 0) C d_Rm_hash_48 (by decide) ?_
    refine g_istore (lv' := [(4, .int 0), (0, .ref a0), (1, .ref a1), (2, .int a2), (3, .int a3)]) C d_Rm_hash_49 (by decide) rfl ?_
    refine g_lv [1, 2, 3, 4, 0] rfl ?_
    exact lp_Rm_hash_51 C T hl0 K17 hK17 FU h a0 a1 a2 a3 0 hr
  · have hr := of_el z hr
    refine g_aload_n C 0 rfl d_Rm_hash_24 rfl ?_
    obtain ⟨k19, ek19, hr⟩ := of_bnd hr
    refine g_getR C fl_Rm_245 ek19 d_Rm_hash_25 ?_
    refine g_iload C 4 rfl d_Rm_hash_28 ?_
    refine g_aload_n C 0 rfl d_Rm_hash_30 rfl ?_
    obtain ⟨k20, ek20, hr⟩ := of_bnd hr
    refine g_getR C fl_Rm_239 ek20 d_Rm_hash_31 ?_
    refine g_iload C 4 rfl d_Rm_hash_34 ?_
    obtain ⟨v21, ev21, hr⟩ := of_bnd hr
    refine g_laload C ev21 d_Rm_hash_36 ?_
    refine g_bipush (v := 32) C d_Rm_hash_37 (by decide) ?_
    refine g_lushr C d_Rm_hash_39 ?_
    refine g_l2i C d_Rm_hash_40 ?_
    obtain ⟨h22, eh22, hr⟩ := of_bnd hr
    refine g_iastore C eh22 d_Rm_hash_41 ?_
    obtain ⟨x23, ex23⟩ : ∃ z, z = a4 + Int32.ofInt 1 := ⟨_, rfl⟩
    have hr := of_lt ex23 hr
    refine g_iinc (lv' := [(4, .int x23), (0, .ref a0), (1, .ref a1), (2, .int a2), (3, .int a3)]) C 4 rfl d_Rm_hash_42 ex23.symm (by decide) rfl ?_
    refine g_goto (tgt := 17) C d_Rm_hash_45 (by decide) ?_
    refine g_lv [1, 2, 3, 4, 0] rfl ?_
    exact hK17 h22 a0 a1 a2 a3 x23 hr
def L_Rm_hash_17 : Nat → HP → Nat → Nat → Int32 → Int32 → Int32 → Option (HP)
  | 0, _, _, _, _, _, _ => none
  | f + 1, h, a0, a1, a2, a3, a4 => B_Rm_hash_17 (L_Rm_hash_17 f) h a0 a1 a2 a3 a4
theorem lp_Rm_hash_17 {l : Launch} {x : CX} {h0 h' : HP} (C : EV x b_Rm_hash "PrimeKeysModel" 7 rm_Rm_hash) (T : CT x (none) rm_Rm_hash h0 none h') (hl0 : x.1.2.1 = l) : ∀ (f : Nat) (h : HP) (a0 : Nat) (a1 : Nat) (a2 : Int32) (a3 : Int32) (a4 : Int32), L_Rm_hash_17 f h a0 a1 a2 a3 a4 = some h' → GG x 0 0 h 17 [(0, .ref a0), (1, .ref a1), (2, .int a2), (3, .int a3), (4, .int a4)] [] := by
  intro f
  induction f with
  | zero => intro h a0 a1 a2 a3 a4 hr; have hr : (none : Option (HP)) = some h' := hr; cases hr
  | succ f ih => intro h a0 a1 a2 a3 a4 hr; exact bk_Rm_hash_17 C T hl0 (L_Rm_hash_17 f) ih h a0 a1 a2 a3 a4 hr
def P_Rm_hash (h : HP) (p0 : Nat) (p1 : Nat) (p2 : Int32) : Option (HP) :=
  lt ((((p2 + 9) + 63) / 64) * 64) fun x1 =>
  L_Rm_hash_17 FU h p0 p1 p2 x1 0
set_option maxHeartbeats 4000000 in
set_option maxRecDepth 100000 in
theorem c_Rm_hash {l : Launch} {h h' : HP} {p0 p1 p2 : _} (hr : P_Rm_hash h p0 p1 p2 = some h') : MP l y_Rm_hash (Cond.code y_Rm_hash b_Rm_hash 7 none :: TB) rm_Rm_hash h [.ref p0, .ref p1, .int p2] none h' := by
  refine MP_intro (cc := b_Rm_hash) (by decide) (Nat.le_of_ble_eq_true rfl) (fun x hl0 C T hin => ?_)
  unfold P_Rm_hash at hr
  show GG x 0 0 h 0 [(0, .ref p0), (1, .ref p1), (2, .int p2)] []
  refine g_iload_n C 2 rfl d_Rm_hash_0 rfl ?_
  refine g_bipush (v := 9) C d_Rm_hash_1 (by decide) ?_
  refine g_iadd C d_Rm_hash_3 ?_
  refine g_bipush (v := 63) C d_Rm_hash_4 (by decide) ?_
  refine g_iadd C d_Rm_hash_6 ?_
  refine g_bipush (v := 64) C d_Rm_hash_7 (by decide) ?_
  refine g_idiv C d_Rm_hash_9 (by decide) ?_
  refine g_bipush (v := 64) C d_Rm_hash_10 (by decide) ?_
  refine g_imul C d_Rm_hash_12 ?_
  refine g_topi (fun x1 ex1 => ?_)
  have hr := of_lt ex1 hr
  refine g_istore_n (lv' := [(3, .int x1), (0, .ref p0), (1, .ref p1), (2, .int p2)]) C d_Rm_hash_13 rfl (by decide) rfl ?_
  refine g_iconst (v := 0) C d_Rm_hash_14 (by decide) ?_
  refine g_istore (lv' := [(4, .int 0), (3, .int x1), (0, .ref p0), (1, .ref p1), (2, .int p2)]) C d_Rm_hash_15 (by decide) rfl ?_
  refine g_lv [2, 3, 4, 1, 0] rfl ?_
  exact lp_Rm_hash_17 C T hl0 FU h p0 p1 p2 x1 0 hr
abbrev b_Rm_load : ByteArray := prog_12_method_29_code
abbrev y_Rm_load : MethodName := ⟨"PrimeKeysModel", "load", "([J[BI)V"⟩
theorem d_Rm_load_0 : decode b_Rm_load 0 = .ok (.iconst 0, 1) := by decide +kernel
theorem d_Rm_load_1 : decode b_Rm_load 1 = .ok (.istore_n 3, 1) := by decide +kernel
theorem d_Rm_load_2 : decode b_Rm_load 2 = .ok (.iload_n 3, 1) := by decide +kernel
theorem d_Rm_load_3 : decode b_Rm_load 3 = .ok (.bipush 16, 2) := by decide +kernel
theorem d_Rm_load_5 : decode b_Rm_load 5 = .ok (.if_icmp .ge 45, 3) := by decide +kernel
theorem d_Rm_load_8 : decode b_Rm_load 8 = .ok (.aload_n 0, 1) := by decide +kernel
theorem d_Rm_load_9 : decode b_Rm_load 9 = .ok (.iload_n 3, 1) := by decide +kernel
theorem d_Rm_load_10 : decode b_Rm_load 10 = .ok (.aload_n 1, 1) := by decide +kernel
theorem d_Rm_load_11 : decode b_Rm_load 11 = .ok (.iload_n 2, 1) := by decide +kernel
theorem d_Rm_load_12 : decode b_Rm_load 12 = .ok (.bipush 30, 2) := by decide +kernel
theorem d_Rm_load_14 : decode b_Rm_load 14 = .ok (.iadd, 1) := by decide +kernel
theorem d_Rm_load_15 : decode b_Rm_load 15 = .ok (.iconst 2, 1) := by decide +kernel
theorem d_Rm_load_16 : decode b_Rm_load 16 = .ok (.iload_n 3, 1) := by decide +kernel
theorem d_Rm_load_17 : decode b_Rm_load 17 = .ok (.imul, 1) := by decide +kernel
theorem d_Rm_load_18 : decode b_Rm_load 18 = .ok (.isub, 1) := by decide +kernel
theorem d_Rm_load_19 : decode b_Rm_load 19 = .ok (.baload, 1) := by decide +kernel
theorem d_Rm_load_20 : decode b_Rm_load 20 = .ok (.sipush 255, 3) := by decide +kernel
theorem d_Rm_load_23 : decode b_Rm_load 23 = .ok (.iand, 1) := by decide +kernel
theorem d_Rm_load_24 : decode b_Rm_load 24 = .ok (.bipush 8, 2) := by decide +kernel
theorem d_Rm_load_26 : decode b_Rm_load 26 = .ok (.ishl, 1) := by decide +kernel
theorem d_Rm_load_27 : decode b_Rm_load 27 = .ok (.aload_n 1, 1) := by decide +kernel
theorem d_Rm_load_28 : decode b_Rm_load 28 = .ok (.iload_n 2, 1) := by decide +kernel
theorem d_Rm_load_29 : decode b_Rm_load 29 = .ok (.bipush 31, 2) := by decide +kernel
theorem d_Rm_load_31 : decode b_Rm_load 31 = .ok (.iadd, 1) := by decide +kernel
theorem d_Rm_load_32 : decode b_Rm_load 32 = .ok (.iconst 2, 1) := by decide +kernel
theorem d_Rm_load_33 : decode b_Rm_load 33 = .ok (.iload_n 3, 1) := by decide +kernel
theorem d_Rm_load_34 : decode b_Rm_load 34 = .ok (.imul, 1) := by decide +kernel
theorem d_Rm_load_35 : decode b_Rm_load 35 = .ok (.isub, 1) := by decide +kernel
theorem d_Rm_load_36 : decode b_Rm_load 36 = .ok (.baload, 1) := by decide +kernel
theorem d_Rm_load_37 : decode b_Rm_load 37 = .ok (.sipush 255, 3) := by decide +kernel
theorem d_Rm_load_40 : decode b_Rm_load 40 = .ok (.iand, 1) := by decide +kernel
theorem d_Rm_load_41 : decode b_Rm_load 41 = .ok (.ior, 1) := by decide +kernel
theorem d_Rm_load_42 : decode b_Rm_load 42 = .ok (.i2l, 1) := by decide +kernel
theorem d_Rm_load_43 : decode b_Rm_load 43 = .ok (.lastore, 1) := by decide +kernel
theorem d_Rm_load_44 : decode b_Rm_load 44 = .ok (.iinc 3 1, 3) := by decide +kernel
theorem d_Rm_load_47 : decode b_Rm_load 47 = .ok (.goto (-45), 3) := by decide +kernel
theorem d_Rm_load_50 : decode b_Rm_load 50 = .ok (.return_, 1) := by decide +kernel
abbrev rm_Rm_load : Room := { frames := 0, cells := 0, slots := 0, locals := 0 }
def B_Rm_load_2 (K2 : HP → Nat → Nat → Int32 → Int32 → Option (HP)) (h : HP) (a0 : Nat) (a1 : Nat) (a2 : Int32) (a3 : Int32) : Option (HP) :=
  if 16 ≤ a3 then
  some h
  else
  bnd (ldB h a1 ((a2 + 30) - (2 * a3))) fun v1 =>
  bnd (ldB h a1 ((a2 + 31) - (2 * a3))) fun v2 =>
  bnd (stJ h a0 a3 (Int32.toInt64 (((v1 &&& 255) <<< (8 &&& 31)) ||| (v2 &&& 255)))) fun h3 =>
  lt (a3 + Int32.ofInt 1) fun x4 =>
  K2 h3 a0 a1 a2 x4
set_option maxHeartbeats 4000000 in
set_option maxRecDepth 100000 in
theorem bk_Rm_load_2 {l : Launch} {x : CX} {h0 h' : HP} (C : EV x b_Rm_load "PrimeKeysModel" 4 rm_Rm_load) (T : CT x (none) rm_Rm_load h0 none h') (hl0 : x.1.2.1 = l) (K2 : HP → Nat → Nat → Int32 → Int32 → Option (HP)) (hK2 : ∀ (h : HP) (a0 : Nat) (a1 : Nat) (a2 : Int32) (a3 : Int32), K2 h a0 a1 a2 a3 = some h' → GG x 0 0 h 2 [(0, .ref a0), (1, .ref a1), (2, .int a2), (3, .int a3)] []) (h : HP) (a0 : Nat) (a1 : Nat) (a2 : Int32) (a3 : Int32) (hr : B_Rm_load_2 K2 h a0 a1 a2 a3 = some h') : GG x 0 0 h 2 [(0, .ref a0), (1, .ref a1), (2, .int a2), (3, .int a3)] [] := by
  unfold B_Rm_load_2 at hr
  refine g_iload_n C 3 rfl d_Rm_load_2 rfl ?_
  refine g_bipush (v := 16) C d_Rm_load_3 (by decide) ?_
  refine g_icmp_ge (tgt := 50) C d_Rm_load_5 (by decide) (fun z => ?_) (fun z => ?_)
  · have hr := of_if z hr
    cases hr
    exact g_vreturn C T (by decide) (by decide) d_Rm_load_50
  · have hr := of_el z hr
    refine g_aload_n C 0 rfl d_Rm_load_8 rfl ?_
    refine g_iload_n C 3 rfl d_Rm_load_9 rfl ?_
    refine g_aload_n C 1 rfl d_Rm_load_10 rfl ?_
    refine g_iload_n C 2 rfl d_Rm_load_11 rfl ?_
    refine g_bipush (v := 30) C d_Rm_load_12 (by decide) ?_
    refine g_iadd C d_Rm_load_14 ?_
    refine g_iconst (v := 2) C d_Rm_load_15 (by decide) ?_
    refine g_iload_n C 3 rfl d_Rm_load_16 rfl ?_
    refine g_imul C d_Rm_load_17 ?_
    refine g_isub C d_Rm_load_18 ?_
    obtain ⟨v1, ev1, hr⟩ := of_bnd hr
    refine g_baload C ev1 d_Rm_load_19 ?_
    refine g_sipush (v := 255) C d_Rm_load_20 (by decide) ?_
    refine g_iand C d_Rm_load_23 ?_
    refine g_bipush (v := 8) C d_Rm_load_24 (by decide) ?_
    refine g_ishl C d_Rm_load_26 ?_
    refine g_aload_n C 1 rfl d_Rm_load_27 rfl ?_
    refine g_iload_n C 2 rfl d_Rm_load_28 rfl ?_
    refine g_bipush (v := 31) C d_Rm_load_29 (by decide) ?_
    refine g_iadd C d_Rm_load_31 ?_
    refine g_iconst (v := 2) C d_Rm_load_32 (by decide) ?_
    refine g_iload_n C 3 rfl d_Rm_load_33 rfl ?_
    refine g_imul C d_Rm_load_34 ?_
    refine g_isub C d_Rm_load_35 ?_
    obtain ⟨v2, ev2, hr⟩ := of_bnd hr
    refine g_baload C ev2 d_Rm_load_36 ?_
    refine g_sipush (v := 255) C d_Rm_load_37 (by decide) ?_
    refine g_iand C d_Rm_load_40 ?_
    refine g_ior C d_Rm_load_41 ?_
    refine g_i2l C d_Rm_load_42 ?_
    obtain ⟨h3, eh3, hr⟩ := of_bnd hr
    refine g_lastore C eh3 d_Rm_load_43 ?_
    obtain ⟨x4, ex4⟩ : ∃ z, z = a3 + Int32.ofInt 1 := ⟨_, rfl⟩
    have hr := of_lt ex4 hr
    refine g_iinc (lv' := [(3, .int x4), (0, .ref a0), (1, .ref a1), (2, .int a2)]) C 3 rfl d_Rm_load_44 ex4.symm (by decide) rfl ?_
    refine g_goto (tgt := 2) C d_Rm_load_47 (by decide) ?_
    refine g_lv [1, 2, 3, 0] rfl ?_
    exact hK2 h3 a0 a1 a2 x4 hr
def L_Rm_load_2 : Nat → HP → Nat → Nat → Int32 → Int32 → Option (HP)
  | 0, _, _, _, _, _ => none
  | f + 1, h, a0, a1, a2, a3 => B_Rm_load_2 (L_Rm_load_2 f) h a0 a1 a2 a3
theorem lp_Rm_load_2 {l : Launch} {x : CX} {h0 h' : HP} (C : EV x b_Rm_load "PrimeKeysModel" 4 rm_Rm_load) (T : CT x (none) rm_Rm_load h0 none h') (hl0 : x.1.2.1 = l) : ∀ (f : Nat) (h : HP) (a0 : Nat) (a1 : Nat) (a2 : Int32) (a3 : Int32), L_Rm_load_2 f h a0 a1 a2 a3 = some h' → GG x 0 0 h 2 [(0, .ref a0), (1, .ref a1), (2, .int a2), (3, .int a3)] [] := by
  intro f
  induction f with
  | zero => intro h a0 a1 a2 a3 hr; have hr : (none : Option (HP)) = some h' := hr; cases hr
  | succ f ih => intro h a0 a1 a2 a3 hr; exact bk_Rm_load_2 C T hl0 (L_Rm_load_2 f) ih h a0 a1 a2 a3 hr
def P_Rm_load (h : HP) (p0 : Nat) (p1 : Nat) (p2 : Int32) : Option (HP) :=
  L_Rm_load_2 FU h p0 p1 p2 0
set_option maxHeartbeats 4000000 in
set_option maxRecDepth 100000 in
theorem c_Rm_load {l : Launch} {h h' : HP} {p0 p1 p2 : _} (hr : P_Rm_load h p0 p1 p2 = some h') : MP l y_Rm_load (Cond.code y_Rm_load b_Rm_load 4 none :: TB) rm_Rm_load h [.ref p0, .ref p1, .int p2] none h' := by
  refine MP_intro (cc := b_Rm_load) (by decide) (Nat.le_of_ble_eq_true rfl) (fun x hl0 C T hin => ?_)
  unfold P_Rm_load at hr
  show GG x 0 0 h 0 [(0, .ref p0), (1, .ref p1), (2, .int p2)] []
  refine g_iconst (v := 0) C d_Rm_load_0 (by decide) ?_
  refine g_istore_n (lv' := [(3, .int 0), (0, .ref p0), (1, .ref p1), (2, .int p2)]) C d_Rm_load_1 rfl (by decide) rfl ?_
  refine g_lv [1, 2, 3, 0] rfl ?_
  exact lp_Rm_load_2 C T hl0 FU h p0 p1 p2 0 hr
abbrev b_Rm_store : ByteArray := prog_12_method_30_code
abbrev y_Rm_store : MethodName := ⟨"PrimeKeysModel", "store", "([BI[J)V"⟩
theorem d_Rm_store_0 : decode b_Rm_store 0 = .ok (.iconst 0, 1) := by decide +kernel
theorem d_Rm_store_1 : decode b_Rm_store 1 = .ok (.istore_n 3, 1) := by decide +kernel
theorem d_Rm_store_2 : decode b_Rm_store 2 = .ok (.iload_n 3, 1) := by decide +kernel
theorem d_Rm_store_3 : decode b_Rm_store 3 = .ok (.bipush 32, 2) := by decide +kernel
theorem d_Rm_store_5 : decode b_Rm_store 5 = .ok (.if_icmp .ge 33, 3) := by decide +kernel
theorem d_Rm_store_8 : decode b_Rm_store 8 = .ok (.aload_n 0, 1) := by decide +kernel
theorem d_Rm_store_9 : decode b_Rm_store 9 = .ok (.iload_n 1, 1) := by decide +kernel
theorem d_Rm_store_10 : decode b_Rm_store 10 = .ok (.iload_n 3, 1) := by decide +kernel
theorem d_Rm_store_11 : decode b_Rm_store 11 = .ok (.iadd, 1) := by decide +kernel
theorem d_Rm_store_12 : decode b_Rm_store 12 = .ok (.aload_n 2, 1) := by decide +kernel
theorem d_Rm_store_13 : decode b_Rm_store 13 = .ok (.bipush 15, 2) := by decide +kernel
theorem d_Rm_store_15 : decode b_Rm_store 15 = .ok (.iload_n 3, 1) := by decide +kernel
theorem d_Rm_store_16 : decode b_Rm_store 16 = .ok (.iconst 2, 1) := by decide +kernel
theorem d_Rm_store_17 : decode b_Rm_store 17 = .ok (.idiv, 1) := by decide +kernel
theorem d_Rm_store_18 : decode b_Rm_store 18 = .ok (.isub, 1) := by decide +kernel
theorem d_Rm_store_19 : decode b_Rm_store 19 = .ok (.laload, 1) := by decide +kernel
theorem d_Rm_store_20 : decode b_Rm_store 20 = .ok (.bipush 8, 2) := by decide +kernel
theorem d_Rm_store_22 : decode b_Rm_store 22 = .ok (.iconst 1, 1) := by decide +kernel
theorem d_Rm_store_23 : decode b_Rm_store 23 = .ok (.iload_n 3, 1) := by decide +kernel
theorem d_Rm_store_24 : decode b_Rm_store 24 = .ok (.iconst 2, 1) := by decide +kernel
theorem d_Rm_store_25 : decode b_Rm_store 25 = .ok (.irem, 1) := by decide +kernel
theorem d_Rm_store_26 : decode b_Rm_store 26 = .ok (.isub, 1) := by decide +kernel
theorem d_Rm_store_27 : decode b_Rm_store 27 = .ok (.imul, 1) := by decide +kernel
theorem d_Rm_store_28 : decode b_Rm_store 28 = .ok (.lshr, 1) := by decide +kernel
theorem d_Rm_store_29 : decode b_Rm_store 29 = .ok (.l2i, 1) := by decide +kernel
theorem d_Rm_store_30 : decode b_Rm_store 30 = .ok (.i2b, 1) := by decide +kernel
theorem d_Rm_store_31 : decode b_Rm_store 31 = .ok (.bastore, 1) := by decide +kernel
theorem d_Rm_store_32 : decode b_Rm_store 32 = .ok (.iinc 3 1, 3) := by decide +kernel
theorem d_Rm_store_35 : decode b_Rm_store 35 = .ok (.goto (-33), 3) := by decide +kernel
theorem d_Rm_store_38 : decode b_Rm_store 38 = .ok (.return_, 1) := by decide +kernel
abbrev rm_Rm_store : Room := { frames := 0, cells := 0, slots := 0, locals := 0 }
def B_Rm_store_2 (K2 : HP → Nat → Int32 → Nat → Int32 → Option (HP)) (h : HP) (a0 : Nat) (a1 : Int32) (a2 : Nat) (a3 : Int32) : Option (HP) :=
  if 32 ≤ a3 then
  some h
  else
  bnd (ldJ h a2 (15 - (a3 / 2))) fun v1 =>
  bnd (stB h a0 (a1 + a3) ((Int32.toInt8 (Int64.toInt32 (v1 >>> (Int32.toInt64 (8 * (1 - (a3 - a3 / 2 * 2))) &&& 63)))).toInt32)) fun h2 =>
  lt (a3 + Int32.ofInt 1) fun x3 =>
  K2 h2 a0 a1 a2 x3
set_option maxHeartbeats 4000000 in
set_option maxRecDepth 100000 in
theorem bk_Rm_store_2 {l : Launch} {x : CX} {h0 h' : HP} (C : EV x b_Rm_store "PrimeKeysModel" 4 rm_Rm_store) (T : CT x (none) rm_Rm_store h0 none h') (hl0 : x.1.2.1 = l) (K2 : HP → Nat → Int32 → Nat → Int32 → Option (HP)) (hK2 : ∀ (h : HP) (a0 : Nat) (a1 : Int32) (a2 : Nat) (a3 : Int32), K2 h a0 a1 a2 a3 = some h' → GG x 0 0 h 2 [(0, .ref a0), (1, .int a1), (2, .ref a2), (3, .int a3)] []) (h : HP) (a0 : Nat) (a1 : Int32) (a2 : Nat) (a3 : Int32) (hr : B_Rm_store_2 K2 h a0 a1 a2 a3 = some h') : GG x 0 0 h 2 [(0, .ref a0), (1, .int a1), (2, .ref a2), (3, .int a3)] [] := by
  unfold B_Rm_store_2 at hr
  refine g_iload_n C 3 rfl d_Rm_store_2 rfl ?_
  refine g_bipush (v := 32) C d_Rm_store_3 (by decide) ?_
  refine g_icmp_ge (tgt := 38) C d_Rm_store_5 (by decide) (fun z => ?_) (fun z => ?_)
  · have hr := of_if z hr
    cases hr
    exact g_vreturn C T (by decide) (by decide) d_Rm_store_38
  · have hr := of_el z hr
    refine g_aload_n C 0 rfl d_Rm_store_8 rfl ?_
    refine g_iload_n C 1 rfl d_Rm_store_9 rfl ?_
    refine g_iload_n C 3 rfl d_Rm_store_10 rfl ?_
    refine g_iadd C d_Rm_store_11 ?_
    refine g_aload_n C 2 rfl d_Rm_store_12 rfl ?_
    refine g_bipush (v := 15) C d_Rm_store_13 (by decide) ?_
    refine g_iload_n C 3 rfl d_Rm_store_15 rfl ?_
    refine g_iconst (v := 2) C d_Rm_store_16 (by decide) ?_
    refine g_idiv C d_Rm_store_17 (by decide) ?_
    refine g_isub C d_Rm_store_18 ?_
    obtain ⟨v1, ev1, hr⟩ := of_bnd hr
    refine g_laload C ev1 d_Rm_store_19 ?_
    refine g_bipush (v := 8) C d_Rm_store_20 (by decide) ?_
    refine g_iconst (v := 1) C d_Rm_store_22 (by decide) ?_
    refine g_iload_n C 3 rfl d_Rm_store_23 rfl ?_
    refine g_iconst (v := 2) C d_Rm_store_24 (by decide) ?_
    refine g_irem C d_Rm_store_25 (by decide) ?_
    refine g_isub C d_Rm_store_26 ?_
    refine g_imul C d_Rm_store_27 ?_
    refine g_lshr C d_Rm_store_28 ?_
    refine g_l2i C d_Rm_store_29 ?_
    refine g_i2b C d_Rm_store_30 ?_
    obtain ⟨h2, eh2, hr⟩ := of_bnd hr
    refine g_bastore C eh2 d_Rm_store_31 ?_
    obtain ⟨x3, ex3⟩ : ∃ z, z = a3 + Int32.ofInt 1 := ⟨_, rfl⟩
    have hr := of_lt ex3 hr
    refine g_iinc (lv' := [(3, .int x3), (0, .ref a0), (1, .int a1), (2, .ref a2)]) C 3 rfl d_Rm_store_32 ex3.symm (by decide) rfl ?_
    refine g_goto (tgt := 2) C d_Rm_store_35 (by decide) ?_
    refine g_lv [1, 2, 3, 0] rfl ?_
    exact hK2 h2 a0 a1 a2 x3 hr
def L_Rm_store_2 : Nat → HP → Nat → Int32 → Nat → Int32 → Option (HP)
  | 0, _, _, _, _, _ => none
  | f + 1, h, a0, a1, a2, a3 => B_Rm_store_2 (L_Rm_store_2 f) h a0 a1 a2 a3
theorem lp_Rm_store_2 {l : Launch} {x : CX} {h0 h' : HP} (C : EV x b_Rm_store "PrimeKeysModel" 4 rm_Rm_store) (T : CT x (none) rm_Rm_store h0 none h') (hl0 : x.1.2.1 = l) : ∀ (f : Nat) (h : HP) (a0 : Nat) (a1 : Int32) (a2 : Nat) (a3 : Int32), L_Rm_store_2 f h a0 a1 a2 a3 = some h' → GG x 0 0 h 2 [(0, .ref a0), (1, .int a1), (2, .ref a2), (3, .int a3)] [] := by
  intro f
  induction f with
  | zero => intro h a0 a1 a2 a3 hr; have hr : (none : Option (HP)) = some h' := hr; cases hr
  | succ f ih => intro h a0 a1 a2 a3 hr; exact bk_Rm_store_2 C T hl0 (L_Rm_store_2 f) ih h a0 a1 a2 a3 hr
def P_Rm_store (h : HP) (p0 : Nat) (p1 : Int32) (p2 : Nat) : Option (HP) :=
  L_Rm_store_2 FU h p0 p1 p2 0
set_option maxHeartbeats 4000000 in
set_option maxRecDepth 100000 in
theorem c_Rm_store {l : Launch} {h h' : HP} {p0 p1 p2 : _} (hr : P_Rm_store h p0 p1 p2 = some h') : MP l y_Rm_store (Cond.code y_Rm_store b_Rm_store 4 none :: TB) rm_Rm_store h [.ref p0, .int p1, .ref p2] none h' := by
  refine MP_intro (cc := b_Rm_store) (by decide) (Nat.le_of_ble_eq_true rfl) (fun x hl0 C T hin => ?_)
  unfold P_Rm_store at hr
  show GG x 0 0 h 0 [(0, .ref p0), (1, .int p1), (2, .ref p2)] []
  refine g_iconst (v := 0) C d_Rm_store_0 (by decide) ?_
  refine g_istore_n (lv' := [(3, .int 0), (0, .ref p0), (1, .int p1), (2, .ref p2)]) C d_Rm_store_1 rfl (by decide) rfl ?_
  refine g_lv [1, 2, 3, 0] rfl ?_
  exact lp_Rm_store_2 C T hl0 FU h p0 p1 p2 0 hr
