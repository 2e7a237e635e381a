abbrev b_Cu_new : ByteArray := prog_2_method_1_code
abbrev y_Cu_new : MethodName := ⟨"PrimeKeys$Curve", "<init>", "()V"⟩
theorem d_Cu_new_0 : decode b_Cu_new 0 = .ok (.aload_n 0, 1) := by decide +kernel
theorem d_Cu_new_1 : decode b_Cu_new 1 = .ok (.invokespecial 3, 3) := by decide +kernel
theorem d_Cu_new_4 : decode b_Cu_new 4 = .ok (.aload_n 0, 1) := by decide +kernel
theorem d_Cu_new_5 : decode b_Cu_new 5 = .ok (.bipush 32, 2) := by decide +kernel
theorem d_Cu_new_7 : decode b_Cu_new 7 = .ok (.newarray .byte, 2) := by decide +kernel
theorem d_Cu_new_9 : decode b_Cu_new 9 = .ok (.putfield 9, 3) := by decide +kernel
theorem d_Cu_new_12 : decode b_Cu_new 12 = .ok (.aload_n 0, 1) := by decide +kernel
theorem d_Cu_new_13 : decode b_Cu_new 13 = .ok (.new 15, 3) := by decide +kernel
theorem d_Cu_new_16 : decode b_Cu_new 16 = .ok (.dup, 1) := by decide +kernel
theorem d_Cu_new_17 : decode b_Cu_new 17 = .ok (.getstatic 17, 3) := by decide +kernel
theorem d_Cu_new_20 : decode b_Cu_new 20 = .ok (.invokespecial 21, 3) := by decide +kernel
theorem d_Cu_new_23 : decode b_Cu_new 23 = .ok (.putfield 24, 3) := by decide +kernel
theorem d_Cu_new_26 : decode b_Cu_new 26 = .ok (.aload_n 0, 1) := by decide +kernel
theorem d_Cu_new_27 : decode b_Cu_new 27 = .ok (.bipush 9, 2) := by decide +kernel
theorem d_Cu_new_29 : decode b_Cu_new 29 = .ok (.newarray .long, 2) := by decide +kernel
theorem d_Cu_new_31 : decode b_Cu_new 31 = .ok (.putfield 30, 3) := by decide +kernel
theorem d_Cu_new_34 : decode b_Cu_new 34 = .ok (.aload_n 0, 1) := by decide +kernel
theorem d_Cu_new_35 : decode b_Cu_new 35 = .ok (.bipush 16, 2) := by decide +kernel
theorem d_Cu_new_37 : decode b_Cu_new 37 = .ok (.anewarray 34, 3) := by decide +kernel
theorem d_Cu_new_40 : decode b_Cu_new 40 = .ok (.putfield 36, 3) := by decide +kernel
theorem d_Cu_new_43 : decode b_Cu_new 43 = .ok (.aload_n 0, 1) := by decide +kernel
theorem d_Cu_new_44 : decode b_Cu_new 44 = .ok (.bipush 16, 2) := by decide +kernel
theorem d_Cu_new_46 : decode b_Cu_new 46 = .ok (.anewarray 34, 3) := by decide +kernel
theorem d_Cu_new_49 : decode b_Cu_new 49 = .ok (.putfield 40, 3) := by decide +kernel
theorem d_Cu_new_52 : decode b_Cu_new 52 = .ok (.aload_n 0, 1) := by decide +kernel
theorem d_Cu_new_53 : decode b_Cu_new 53 = .ok (.iconst 5, 1) := by decide +kernel
theorem d_Cu_new_54 : decode b_Cu_new 54 = .ok (.bipush 9, 2) := by decide +kernel
theorem d_Cu_new_56 : decode b_Cu_new 56 = .ok (.multianewarray 43 2, 4) := by decide +kernel
theorem d_Cu_new_60 : decode b_Cu_new 60 = .ok (.putfield 45, 3) := by decide +kernel
theorem d_Cu_new_63 : decode b_Cu_new 63 = .ok (.iconst 0, 1) := by decide +kernel
theorem d_Cu_new_64 : decode b_Cu_new 64 = .ok (.istore_n 1, 1) := by decide +kernel
theorem d_Cu_new_65 : decode b_Cu_new 65 = .ok (.iload_n 1, 1) := by decide +kernel
theorem d_Cu_new_66 : decode b_Cu_new 66 = .ok (.bipush 16, 2) := by decide +kernel
theorem d_Cu_new_68 : decode b_Cu_new 68 = .ok (.if_icmp .ge 35, 3) := by decide +kernel
theorem d_Cu_new_71 : decode b_Cu_new 71 = .ok (.aload_n 0, 1) := by decide +kernel
theorem d_Cu_new_72 : decode b_Cu_new 72 = .ok (.getfield 36, 3) := by decide +kernel
theorem d_Cu_new_75 : decode b_Cu_new 75 = .ok (.iload_n 1, 1) := by decide +kernel
theorem d_Cu_new_76 : decode b_Cu_new 76 = .ok (.new 34, 3) := by decide +kernel
theorem d_Cu_new_79 : decode b_Cu_new 79 = .ok (.dup, 1) := by decide +kernel
theorem d_Cu_new_80 : decode b_Cu_new 80 = .ok (.invokespecial 48, 3) := by decide +kernel
theorem d_Cu_new_83 : decode b_Cu_new 83 = .ok (.aastore, 1) := by decide +kernel
theorem d_Cu_new_84 : decode b_Cu_new 84 = .ok (.aload_n 0, 1) := by decide +kernel
theorem d_Cu_new_85 : decode b_Cu_new 85 = .ok (.getfield 40, 3) := by decide +kernel
theorem d_Cu_new_88 : decode b_Cu_new 88 = .ok (.iload_n 1, 1) := by decide +kernel
theorem d_Cu_new_89 : decode b_Cu_new 89 = .ok (.new 34, 3) := by decide +kernel
theorem d_Cu_new_92 : decode b_Cu_new 92 = .ok (.dup, 1) := by decide +kernel
theorem d_Cu_new_93 : decode b_Cu_new 93 = .ok (.invokespecial 48, 3) := by decide +kernel
theorem d_Cu_new_96 : decode b_Cu_new 96 = .ok (.aastore, 1) := by decide +kernel
theorem d_Cu_new_97 : decode b_Cu_new 97 = .ok (.iinc 1 1, 3) := by decide +kernel
theorem d_Cu_new_100 : decode b_Cu_new 100 = .ok (.goto (-35), 3) := by decide +kernel
theorem d_Cu_new_103 : decode b_Cu_new 103 = .ok (.getstatic 49, 3) := by decide +kernel
theorem d_Cu_new_106 : decode b_Cu_new 106 = .ok (.aload_n 0, 1) := by decide +kernel
theorem d_Cu_new_107 : decode b_Cu_new 107 = .ok (.getfield 30, 3) := by decide +kernel
theorem d_Cu_new_110 : decode b_Cu_new 110 = .ok (.invokestatic 52, 3) := by decide +kernel
theorem d_Cu_new_113 : decode b_Cu_new 113 = .ok (.aload_n 0, 1) := by decide +kernel
theorem d_Cu_new_114 : decode b_Cu_new 114 = .ok (.getfield 24, 3) := by decide +kernel
theorem d_Cu_new_117 : decode b_Cu_new 117 = .ok (.aload_n 0, 1) := by decide +kernel
theorem d_Cu_new_118 : decode b_Cu_new 118 = .ok (.getfield 30, 3) := by decide +kernel
theorem d_Cu_new_121 : decode b_Cu_new 121 = .ok (.aload_n 0, 1) := by decide +kernel
theorem d_Cu_new_122 : decode b_Cu_new 122 = .ok (.getfield 30, 3) := by decide +kernel
theorem d_Cu_new_125 : decode b_Cu_new 125 = .ok (.invokevirtual 56, 3) := by decide +kernel
theorem d_Cu_new_128 : decode b_Cu_new 128 = .ok (.aload_n 0, 1) := by decide +kernel
theorem d_Cu_new_129 : decode b_Cu_new 129 = .ok (.getfield 36, 3) := by decide +kernel
theorem d_Cu_new_132 : decode b_Cu_new 132 = .ok (.iconst 1, 1) := by decide +kernel
theorem d_Cu_new_133 : decode b_Cu_new 133 = .ok (.aaload, 1) := by decide +kernel
theorem d_Cu_new_134 : decode b_Cu_new 134 = .ok (.astore_n 1, 1) := by decide +kernel
theorem d_Cu_new_135 : decode b_Cu_new 135 = .ok (.getstatic 60, 3) := by decide +kernel
theorem d_Cu_new_138 : decode b_Cu_new 138 = .ok (.aload_n 1, 1) := by decide +kernel
theorem d_Cu_new_139 : decode b_Cu_new 139 = .ok (.getfield 63, 3) := by decide +kernel
theorem d_Cu_new_142 : decode b_Cu_new 142 = .ok (.invokestatic 52, 3) := by decide +kernel
theorem d_Cu_new_145 : decode b_Cu_new 145 = .ok (.getstatic 66, 3) := by decide +kernel
theorem d_Cu_new_148 : decode b_Cu_new 148 = .ok (.aload_n 1, 1) := by decide +kernel
theorem d_Cu_new_149 : decode b_Cu_new 149 = .ok (.getfield 69, 3) := by decide +kernel
theorem d_Cu_new_152 : decode b_Cu_new 152 = .ok (.invokestatic 52, 3) := by decide +kernel
theorem d_Cu_new_155 : decode b_Cu_new 155 = .ok (.aload_n 0, 1) := by decide +kernel
theorem d_Cu_new_156 : decode b_Cu_new 156 = .ok (.aload_n 1, 1) := by decide +kernel
theorem d_Cu_new_157 : decode b_Cu_new 157 = .ok (.invokevirtual 72, 3) := by decide +kernel
theorem d_Cu_new_160 : decode b_Cu_new 160 = .ok (.aload_n 0, 1) := by decide +kernel
theorem d_Cu_new_161 : decode b_Cu_new 161 = .ok (.aload_n 0, 1) := by decide +kernel
theorem d_Cu_new_162 : decode b_Cu_new 162 = .ok (.getfield 36, 3) := by decide +kernel
theorem d_Cu_new_165 : decode b_Cu_new 165 = .ok (.invokevirtual 75, 3) := by decide +kernel
theorem d_Cu_new_168 : decode b_Cu_new 168 = .ok (.return_, 1) := by decide +kernel
theorem fp_Cu_9 : FP "PrimeKeys$Curve" 9 0 0 (.array .byte) true := ⟨R_Cu, F_Cu, 6, t_Cu, rfl, u_Cu, by decide, rfl, tb_1 (List.mem_of_getElem? (i := 232) (by decide +kernel)) rfl, t_Cu_ok, n_Cu, rfl, by decide +kernel⟩
theorem fp_Cu_24 : FP "PrimeKeys$Curve" 24 0 1 (.object "PrimeKeys$Modulus") true := ⟨R_Cu, F_Cu, 6, t_Cu, rfl, u_Cu, by decide, rfl, tb_1 (List.mem_of_getElem? (i := 235) (by decide +kernel)) rfl, t_Cu_ok, n_Cu, rfl, by decide +kernel⟩
theorem fp_Cu_30 : FP "PrimeKeys$Curve" 30 0 2 (.array .long) true := ⟨R_Cu, F_Cu, 6, t_Cu, rfl, u_Cu, by decide, rfl, tb_1 (List.mem_of_getElem? (i := 236) (by decide +kernel)) rfl, t_Cu_ok, n_Cu, rfl, by decide +kernel⟩
theorem fp_Cu_36 : FP "PrimeKeys$Curve" 36 0 3 (.array (.object "PrimeKeys$Point")) true := ⟨R_Cu, F_Cu, 6, t_Cu, rfl, u_Cu, by decide, rfl, tb_1 (List.mem_of_getElem? (i := 237) (by decide +kernel)) rfl, t_Cu_ok, n_Cu, rfl, by decide +kernel⟩
theorem fp_Cu_40 : FP "PrimeKeys$Curve" 40 0 4 (.array (.object "PrimeKeys$Point")) true := ⟨R_Cu, F_Cu, 6, t_Cu, rfl, u_Cu, by decide, rfl, tb_1 (List.mem_of_getElem? (i := 238) (by decide +kernel)) rfl, t_Cu_ok, n_Cu, rfl, by decide +kernel⟩
theorem fp_Cu_45 : FP "PrimeKeys$Curve" 45 0 5 (.array (.array .long)) true := ⟨R_Cu, F_Cu, 6, t_Cu, rfl, u_Cu, by decide, rfl, tb_1 (List.mem_of_getElem? (i := 239) (by decide +kernel)) rfl, t_Cu_ok, n_Cu, rfl, by decide +kernel⟩
theorem nc_Cu_15 : NC "PrimeKeys$Curve" 15 1 9 [.null, .null, .null, .null, .null, .long 0, .null, .null, .null] := ⟨R_Mo, F_Mo, t_Mo, rfl, u_Mo, t_Mo_ok, tb_1 (List.mem_of_getElem? (i := 62) (by decide +kernel)) rfl, tb_1 (List.mem_of_getElem? (i := 63) (by decide +kernel)) rfl, tb_1 (List.mem_of_getElem? (i := 4) (by decide +kernel)) rfl, by decide +kernel, by decide +kernel⟩
theorem nc_Cu_34 : NC "PrimeKeys$Curve" 34 3 3 [.null, .null, .null] := ⟨R_Po, F_Po, t_Po, rfl, u_Po, t_Po_ok, tb_1 (List.mem_of_getElem? (i := 133) (by decide +kernel)) rfl, tb_1 (List.mem_of_getElem? (i := 137) (by decide +kernel)) rfl, tb_1 (List.mem_of_getElem? (i := 9) (by decide +kernel)) rfl, by decide +kernel, by decide +kernel⟩
theorem kw_22 : Cond.methodLink "PrimeKeys$Curve" 3 Lib.objectInit ∈ TB := tb_1 (List.mem_of_getElem? (i := 61) (by decide +kernel)) rfl
theorem kw_23 : Cond.fieldLink "PrimeKeys$Curve" 17 (stC 2) (stN 2) "[I" ∈ TB := tb_1 (List.mem_of_getElem? (i := 64) (by decide +kernel)) rfl
theorem kw_24 : Cond.classLink "PrimeKeys$Curve" 34 "PrimeKeys$Point" ∈ TB := tb_1 (List.mem_of_getElem? (i := 133) (by decide +kernel)) rfl
theorem kw_25 : Cond.classLink "PrimeKeys$Curve" 43 ("[" ++ (FieldType.array .long).toString) ∈ TB := tb_1 (List.mem_of_getElem? (i := 135) (by decide +kernel)) rfl
theorem kw_26 : Cond.fieldLink "PrimeKeys$Curve" 49 (stC 3) (stN 3) "[I" ∈ TB := tb_1 (List.mem_of_getElem? (i := 155) (by decide +kernel)) rfl
theorem kw_27 : Cond.fieldLink "PrimeKeys$Curve" 60 (stC 4) (stN 4) "[I" ∈ TB := tb_1 (List.mem_of_getElem? (i := 174) (by decide +kernel)) rfl
theorem kw_28 : Cond.fieldLink "PrimeKeys$Curve" 66 (stC 5) (stN 5) "[I" ∈ TB := tb_1 (List.mem_of_getElem? (i := 176) (by decide +kernel)) rfl
theorem cd_Cu_52 : CD "PrimeKeys$Curve" 52 y_Li_readWords b_Li_readWords 4 none 2 := ⟨tb_1 (List.mem_of_getElem? (i := 72) rfl) rfl, tb_1 (List.mem_of_getElem? (i := 5) (by decide +kernel)) rfl, tb_1 (List.mem_of_getElem? (i := 157) (by decide +kernel)) rfl, by decide +kernel⟩
theorem cd_Cu_48 : CDN "PrimeKeys$Curve" 48 y_Po_new "PrimeKeys" b_Po_new 1 none 0 := ⟨tb_1 (List.mem_of_getElem? (i := 140) rfl) rfl, tb_1 (List.mem_of_getElem? (i := 9) (by decide +kernel)) rfl, by decide, by decide +kernel⟩
theorem cd_Cu_21 : CD "PrimeKeys$Curve" 21 y_Mo_new b_Mo_new 5 none 1 := ⟨tb_1 (List.mem_of_getElem? (i := 68) rfl) rfl, tb_1 (List.mem_of_getElem? (i := 4) (by decide +kernel)) rfl, tb_1 (List.mem_of_getElem? (i := 66) (by decide +kernel)) rfl, by decide +kernel⟩
abbrev rm_Cu_new : Room := { frames := 6, cells := 159, slots := 1360, locals := 162 }
def B_Cu_new_65 (K65 : HP → Nat → Int32 → Option (HP)) (h : HP) (a0 : Nat) (a1 : Int32) : Option (HP) :=
  if 16 ≤ a1 then
  bnd (gR h a0 0 2) fun k20 =>
  bnd (P_Li_readWords h 3 k20) fun h21 =>
  bnd (gR h21 a0 0 1) fun k22 =>
  bnd (gR h21 a0 0 2) fun k23 =>
  bnd (gR h21 a0 0 2) fun k24 =>
  ob h21 k22 1 (
  bnd (P_Mo_enterForm h21 k22 k23 k24) fun h25 =>
  bnd (gR h25 a0 0 3) fun k26 =>
  bnd (ldR h25 k26 3 1) fun k27 =>
  bnd (gR h25 k27 3 0) fun k28 =>
  bnd (P_Li_readWords h25 4 k28) fun h29 =>
  bnd (gR h29 k27 3 1) fun k30 =>
  bnd (P_Li_readWords h29 5 k30) fun h31 =>
  ob h31 a0 0 (
  bnd (P_Cu_enterForm h31 a0 k27) fun h32 =>
  bnd (gR h32 a0 0 3) fun k33 =>
  ob h32 a0 0 (
  bnd (P_Cu_fillMultiples h32 a0 k33) fun h34 =>
  some h34)))
  else
  bnd (gR h a0 0 3) fun k35 =>
  lt (h ++ [pO 3 [.null, .null, .null]]) fun h36 =>
  lt h.length fun k37 =>
  bnd (P_Po_new h36 k37) fun h38 =>
  bnd (stP h38 k35 a1 k37) fun h39 =>
  bnd (gR h39 a0 0 4) fun k40 =>
  lt (h39 ++ [pO 3 [.null, .null, .null]]) fun h41 =>
  lt h39.length fun k42 =>
  bnd (P_Po_new h41 k42) fun h43 =>
  bnd (stP h43 k40 a1 k42) fun h44 =>
  lt (a1 + Int32.ofInt 1) fun x45 =>
  K65 h44 a0 x45
set_option maxHeartbeats 4000000 in
set_option maxRecDepth 100000 in
theorem bk_Cu_new_65 {l : Launch} {x : CX} {h0 h' : HP} (C : EV x b_Cu_new "PrimeKeys$Curve" 2 rm_Cu_new) (T : CT x (none) rm_Cu_new h0 none h') (hl0 : x.1.2.1 = l) (hin : x.2.1.2.2.2.1.name = "<init>") (hAO : AO x.1.2.2.2.2) (K65 : HP → Nat → Int32 → Option (HP)) (f cells slots : Nat) (hc : cells + 8 * (f + 1) ≤ 156) (hs : slots + 60 * (f + 1) ≤ 1264) (hK65 : ∀ (c9 s9 : Nat), c9 + 8 * f ≤ 156 → s9 + 60 * f ≤ 1264 → ∀ (h : HP) (a0 : Nat) (a1 : Int32), K65 h a0 a1 = some h' → GG x c9 s9 h 65 [(0, .ref a0), (1, .int a1)] []) (h : HP) (a0 : Nat) (a1 : Int32) (hr : B_Cu_new_65 K65 h a0 a1 = some h') : GG x cells slots h 65 [(0, .ref a0), (1, .int a1)] [] := by
  unfold B_Cu_new_65 at hr
  refine g_iload_n C 1 rfl d_Cu_new_65 rfl ?_
  refine g_bipush (v := 16) C d_Cu_new_66 (by decide) ?_
  refine g_icmp_ge (tgt := 103) C d_Cu_new_68 (by decide) (fun z => ?_) (fun z => ?_)
  · have hr := of_if z hr
    refine g_widen (k := 156) (n := 1264) (show cells ≤ 156 by omega) (show slots ≤ 1264 by omega) ?_
    refine g_gets (t := 3) C (by decide) kw_26 d_Cu_new_103 ?_
    refine g_aload_n C 0 rfl d_Cu_new_106 rfl ?_
    obtain ⟨k20, ek20, hr⟩ := of_bnd hr
    refine g_getR C fl_Cu_30 ek20 d_Cu_new_107 ?_
    obtain ⟨h21, eh21, hr⟩ := of_bnd hr
    refine g_callS (pa := [.retAddr 3, .ref k20]) C hl0 (c_Li_readWords eh21) cd_Cu_52 kw_st_Li_readWords (by decide) rfl rfl (Nat.le_of_ble_eq_true rfl) d_Cu_new_110 ?_
    refine g_aload_n C 0 rfl d_Cu_new_113 rfl ?_
    obtain ⟨k22, ek22, hr⟩ := of_bnd hr
    refine g_getR C fl_Cu_24 ek22 d_Cu_new_114 ?_
    refine g_aload_n C 0 rfl d_Cu_new_117 rfl ?_
    obtain ⟨k23, ek23, hr⟩ := of_bnd hr
    refine g_getR C fl_Cu_30 ek23 d_Cu_new_118 ?_
    refine g_aload_n C 0 rfl d_Cu_new_121 rfl ?_
    obtain ⟨k24, ek24, hr⟩ := of_bnd hr
    refine g_getR C fl_Cu_30 ek24 d_Cu_new_122 ?_
    obtain ⟨fsh25, hoh25, hr⟩ := of_ob hr
    obtain ⟨h25, eh25, hr⟩ := of_bnd hr
    refine g_callV (pa := [.ref k23, .ref k24]) C hl0 (c_Mo_enterForm eh25) cd_Cu_56 kw_in_Mo_enterForm kw_se_Mo_enterForm hoh25 rfl rfl (by decide) rfl rfl (Nat.le_of_ble_eq_true rfl) d_Cu_new_125 ?_
    refine g_aload_n C 0 rfl d_Cu_new_128 rfl ?_
    obtain ⟨k26, ek26, hr⟩ := of_bnd hr
    refine g_getR C fl_Cu_36 ek26 d_Cu_new_129 ?_
    refine g_iconst (v := 1) C d_Cu_new_132 (by decide) ?_
    obtain ⟨k27, ek27, hr⟩ := of_bnd hr
    refine g_aaload C (by decide) ek27 d_Cu_new_133 ?_
    refine g_astore_n (lv' := [(1, .ref k27), (0, .ref a0)]) C d_Cu_new_134 rfl (by decide) rfl ?_
    refine g_gets (t := 4) C (by decide) kw_27 d_Cu_new_135 ?_
    refine g_aload_n C 0 rfl d_Cu_new_138 rfl ?_
    obtain ⟨k28, ek28, hr⟩ := of_bnd hr
    refine g_getR C fl_Cu_63 ek28 d_Cu_new_139 ?_
    obtain ⟨h29, eh29, hr⟩ := of_bnd hr
    refine g_callS (pa := [.retAddr 4, .ref k28]) C hl0 (c_Li_readWords eh29) cd_Cu_52 kw_st_Li_readWords (by decide) rfl rfl (Nat.le_of_ble_eq_true rfl) d_Cu_new_142 ?_
    refine g_gets (t := 5) C (by decide) kw_28 d_Cu_new_145 ?_
    refine g_aload_n C 0 rfl d_Cu_new_148 rfl ?_
    obtain ⟨k30, ek30, hr⟩ := of_bnd hr
    refine g_getR C fl_Cu_69 ek30 d_Cu_new_149 ?_
    obtain ⟨h31, eh31, hr⟩ := of_bnd hr
    refine g_callS (pa := [.retAddr 5, .ref k30]) C hl0 (c_Li_readWords eh31) cd_Cu_52 kw_st_Li_readWords (by decide) rfl rfl (Nat.le_of_ble_eq_true rfl) d_Cu_new_152 ?_
    refine g_aload_n C 1 rfl d_Cu_new_155 rfl ?_
    refine g_aload_n C 0 rfl d_Cu_new_156 rfl ?_
    obtain ⟨fsh32, hoh32, hr⟩ := of_ob hr
    obtain ⟨h32, eh32, hr⟩ := of_bnd hr
    refine g_callV (pa := [.ref k27]) C hl0 (c_Cu_enterForm eh32) cd_Cu_72 kw_in_Cu_enterForm kw_se_Cu_enterForm hoh32 rfl rfl (by decide) rfl rfl (Nat.le_of_ble_eq_true rfl) d_Cu_new_157 ?_
    refine g_aload_n C 1 rfl d_Cu_new_160 rfl ?_
    refine g_aload_n C 1 rfl d_Cu_new_161 rfl ?_
    obtain ⟨k33, ek33, hr⟩ := of_bnd hr
    refine g_getR C fl_Cu_36 ek33 d_Cu_new_162 ?_
    obtain ⟨fsh34, hoh34, hr⟩ := of_ob hr
    obtain ⟨h34, eh34, hr⟩ := of_bnd hr
    refine g_callV (pa := [.ref k33]) C hl0 (c_Cu_fillMultiples eh34) cd_Cu_75 kw_in_Cu_fillMultiples kw_se_Cu_fillMultiples hoh34 rfl rfl (by decide) rfl rfl (Nat.le_of_ble_eq_true rfl) d_Cu_new_165 ?_
    cases hr
    exact g_vreturn C T (by decide) (by decide) d_Cu_new_168
  · have hr := of_el z hr
    refine g_aload_n C 0 rfl d_Cu_new_71 rfl ?_
    obtain ⟨k35, ek35, hr⟩ := of_bnd hr
    refine g_getR C fl_Cu_36 ek35 d_Cu_new_72 ?_
    refine g_iload_n C 1 rfl d_Cu_new_75 rfl ?_
    obtain ⟨h36, eh36⟩ : ∃ z, z = h ++ [pO 3 [.null, .null, .null]] := ⟨_, rfl⟩
    have hr := of_lt eh36 hr
    obtain ⟨k37, ek37⟩ : ∃ z, z = h.length := ⟨_, rfl⟩
    have hr := of_lt ek37 hr
    refine g_newE C nc_Cu_34 eh36 ek37 (Nat.le_trans (show cells + 1 ≤ 156 by omega) (by decide)) (Nat.le_trans (show slots + 3 ≤ 1264 by omega) (by decide)) d_Cu_new_76 ?_
    refine g_dup C d_Cu_new_79 rfl ?_
    obtain ⟨h38, eh38, hr⟩ := of_bnd hr
    refine g_callIN (pa := []) C hl0 (c_Po_new eh38) cd_Cu_48 kw_in_Po_new rfl ⟨by decide, by decide, Nat.le_trans (show cells + 1 + 3 ≤ 156 by omega) (by decide), Nat.le_trans (show slots + 3 + 27 ≤ 1264 by omega) (by decide)⟩ rfl rfl (Nat.le_of_ble_eq_true rfl) d_Cu_new_80 ?_
    obtain ⟨h39, eh39, hr⟩ := of_bnd hr
    refine g_aastore C eh39 d_Cu_new_83 ?_
    refine g_aload_n C 0 rfl d_Cu_new_84 rfl ?_
    obtain ⟨k40, ek40, hr⟩ := of_bnd hr
    refine g_getR C fl_Cu_40 ek40 d_Cu_new_85 ?_
    refine g_iload_n C 1 rfl d_Cu_new_88 rfl ?_
    obtain ⟨h41, eh41⟩ : ∃ z, z = h39 ++ [pO 3 [.null, .null, .null]] := ⟨_, rfl⟩
    have hr := of_lt eh41 hr
    obtain ⟨k42, ek42⟩ : ∃ z, z = h39.length := ⟨_, rfl⟩
    have hr := of_lt ek42 hr
    refine g_newE C nc_Cu_34 eh41 ek42 (Nat.le_trans (show cells + 1 + 3 + 1 ≤ 156 by omega) (by decide)) (Nat.le_trans (show slots + 3 + 27 + 3 ≤ 1264 by omega) (by decide)) d_Cu_new_89 ?_
    refine g_dup C d_Cu_new_92 rfl ?_
    obtain ⟨h43, eh43, hr⟩ := of_bnd hr
    refine g_callIN (pa := []) C hl0 (c_Po_new eh43) cd_Cu_48 kw_in_Po_new rfl ⟨by decide, by decide, Nat.le_trans (show cells + 1 + 3 + 1 + 3 ≤ 156 by omega) (by decide), Nat.le_trans (show slots + 3 + 27 + 3 + 27 ≤ 1264 by omega) (by decide)⟩ rfl rfl (Nat.le_of_ble_eq_true rfl) d_Cu_new_93 ?_
    obtain ⟨h44, eh44, hr⟩ := of_bnd hr
    refine g_aastore C eh44 d_Cu_new_96 ?_
    obtain ⟨x45, ex45⟩ : ∃ z, z = a1 + Int32.ofInt 1 := ⟨_, rfl⟩
    have hr := of_lt ex45 hr
    refine g_iinc (lv' := [(1, .int x45), (0, .ref a0)]) C 1 rfl d_Cu_new_97 ex45.symm (by decide) rfl ?_
    refine g_goto (tgt := 65) C d_Cu_new_100 (by decide) ?_
    refine g_lv [1, 0] rfl ?_
    exact hK65 _ _ (show cells + 1 + 3 + 1 + 3 + 8 * f ≤ 156 by omega) (show slots + 3 + 27 + 3 + 27 + 60 * f ≤ 1264 by omega) h44 a0 x45 hr
def L_Cu_new_65 : Nat → HP → Nat → Int32 → Option (HP)
  | 0, _, _, _ => none
  | f + 1, h, a0, a1 => B_Cu_new_65 (L_Cu_new_65 f) h a0 a1
theorem lp_Cu_new_65 {l : Launch} {x : CX} {h0 h' : HP} (C : EV x b_Cu_new "PrimeKeys$Curve" 2 rm_Cu_new) (T : CT x (none) rm_Cu_new h0 none h') (hl0 : x.1.2.1 = l) (hin : x.2.1.2.2.2.1.name = "<init>") (hAO : AO x.1.2.2.2.2) : ∀ (f cells slots : Nat), cells + 8 * f ≤ 156 → slots + 60 * f ≤ 1264 → ∀ (h : HP) (a0 : Nat) (a1 : Int32), L_Cu_new_65 f h a0 a1 = some h' → GG x cells slots h 65 [(0, .ref a0), (1, .int a1)] [] := by
  intro f
  induction f with
  | zero => intro cells slots hc hs h a0 a1 hr; have hr : (none : Option (HP)) = some h' := hr; cases hr
  | succ f ih => intro cells slots hc hs h a0 a1 hr; exact bk_Cu_new_65 C T hl0 hin hAO (L_Cu_new_65 f) f cells slots hc hs ih h a0 a1 hr
def P_Cu_new (h : HP) (p0 : Nat) : Option (HP) :=
  lt (h ++ [pB 32 (fun _ => 0)]) fun h1 =>
  lt h.length fun k2 =>
  bnd (pV h1 p0 0 0 (.ref k2)) fun h3 =>
  lt (h3 ++ [pO 1 [.null, .null, .null, .null, .null, .long 0, .null, .null, .null]]) fun h4 =>
  lt h3.length fun k5 =>
  bnd (P_Mo_new h4 k5 2) fun h6 =>
  bnd (pV h6 p0 0 1 (.ref k5)) fun h7 =>
  lt (h7 ++ [pJ 9 (fun _ => 0)]) fun h8 =>
  lt h7.length fun k9 =>
  bnd (pV h8 p0 0 2 (.ref k9)) fun h10 =>
  lt (h10 ++ [pR 3 16 (fun _ => none)]) fun h11 =>
  lt h10.length fun k12 =>
  bnd (pV h11 p0 0 3 (.ref k12)) fun h13 =>
  lt (h13 ++ [pR 3 16 (fun _ => none)]) fun h14 =>
  lt h13.length fun k15 =>
  bnd (pV h14 p0 0 4 (.ref k15)) fun h16 =>
  lt (mn2 h16 5 5 (pJ 9 (fun _ => 0))) fun h17 =>
  lt h16.length fun k18 =>
  bnd (pV h17 p0 0 5 (.ref k18)) fun h19 =>
  L_Cu_new_65 17 h19 p0 0
set_option maxHeartbeats 4000000 in
set_option maxRecDepth 100000 in
theorem c_Cu_new {l : Launch} {h h' : HP} {p0 : _} (hr : P_Cu_new h p0 = some h') : MPX l y_Cu_new (Cond.code y_Cu_new b_Cu_new 2 none :: TB) rm_Cu_new h [.ref p0] none h' := by
  refine MPX_intro (cc := b_Cu_new) (by decide) (Nat.le_of_ble_eq_true rfl) (fun x hl0 C T hin hAO => ?_)
  unfold P_Cu_new at hr
  show GG x 0 0 h 0 [(0, .ref p0)] []
  refine g_aload_n C 0 rfl d_Cu_new_0 rfl ?_
  refine g_objInit C kw_22 kw_oi kw_oc (by decide) (Nat.le_of_ble_eq_true rfl) d_Cu_new_1 ?_
  refine g_aload_n C 0 rfl d_Cu_new_4 rfl ?_
  refine g_bipush (v := 32) C d_Cu_new_5 (by decide) ?_
  obtain ⟨h1, eh1⟩ : ∃ z, z = h ++ [pB 32 (fun _ => 0)] := ⟨_, rfl⟩
  have hr := of_lt eh1 hr
  obtain ⟨k2, ek2⟩ : ∃ z, z = h.length := ⟨_, rfl⟩
  have hr := of_lt ek2 hr
  refine g_newBE (n' := 32) C eh1 ek2 (by decide) (by decide) (by decide) (by decide) (by decide) d_Cu_new_7 ?_
  obtain ⟨h3, eh3, hr⟩ := of_bnd hr
  refine g_putF C fp_Cu_9 hin rfl eh3 (fun _ => rfl) (fun _ => rfl) d_Cu_new_9 ?_
  refine g_aload_n C 0 rfl d_Cu_new_12 rfl ?_
  obtain ⟨h4, eh4⟩ : ∃ z, z = h3 ++ [pO 1 [.null, .null, .null, .null, .null, .long 0, .null, .null, .null]] := ⟨_, rfl⟩
  have hr := of_lt eh4 hr
  obtain ⟨k5, ek5⟩ : ∃ z, z = h3.length := ⟨_, rfl⟩
  have hr := of_lt ek5 hr
  refine g_newE C nc_Cu_15 eh4 ek5 (by decide) (by decide) d_Cu_new_13 ?_
  refine g_dup C d_Cu_new_16 rfl ?_
  refine g_gets (t := 2) C (by decide) kw_23 d_Cu_new_17 ?_
  obtain ⟨h6, eh6, hr⟩ := of_bnd hr
  refine g_callI (pa := [.retAddr 2]) C hl0 (c_Mo_new eh6) cd_Cu_21 kw_in_Mo_new rfl (by decide) rfl rfl (Nat.le_of_ble_eq_true rfl) d_Cu_new_20 ?_
  obtain ⟨h7, eh7, hr⟩ := of_bnd hr
  refine g_putF C fp_Cu_24 hin rfl eh7 (fun _ => rfl) (fun _ => rfl) d_Cu_new_23 ?_
  refine g_aload_n C 0 rfl d_Cu_new_26 rfl ?_
  refine g_bipush (v := 9) C d_Cu_new_27 (by decide) ?_
  obtain ⟨h8, eh8⟩ : ∃ z, z = h7 ++ [pJ 9 (fun _ => 0)] := ⟨_, rfl⟩
  have hr := of_lt eh8 hr
  obtain ⟨k9, ek9⟩ : ∃ z, z = h7.length := ⟨_, rfl⟩
  have hr := of_lt ek9 hr
  refine g_newJE (n' := 9) C eh8 ek9 (by decide) (by decide) (by decide) (by decide) (by decide) d_Cu_new_29 ?_
  obtain ⟨h10, eh10, hr⟩ := of_bnd hr
  refine g_putF C fp_Cu_30 hin rfl eh10 (fun _ => rfl) (fun _ => rfl) d_Cu_new_31 ?_
  refine g_aload_n C 0 rfl d_Cu_new_34 rfl ?_
  refine g_bipush (v := 16) C d_Cu_new_35 (by decide) ?_
  obtain ⟨h11, eh11⟩ : ∃ z, z = h10 ++ [pR 3 16 (fun _ => none)] := ⟨_, rfl⟩
  have hr := of_lt eh11 hr
  obtain ⟨k12, ek12⟩ : ∃ z, z = h10.length := ⟨_, rfl⟩
  have hr := of_lt ek12 hr
  refine g_anewE (n' := 16) C hAO kw_24 eh11 ek12 (by decide) (by decide) (by decide) (by decide) (by decide) d_Cu_new_37 ?_
  obtain ⟨h13, eh13, hr⟩ := of_bnd hr
  refine g_putF C fp_Cu_36 hin rfl eh13 (fun _ => rfl) (fun _ => rfl) d_Cu_new_40 ?_
  refine g_aload_n C 0 rfl d_Cu_new_43 rfl ?_
  refine g_bipush (v := 16) C d_Cu_new_44 (by decide) ?_
  obtain ⟨h14, eh14⟩ : ∃ z, z = h13 ++ [pR 3 16 (fun _ => none)] := ⟨_, rfl⟩
  have hr := of_lt eh14 hr
  obtain ⟨k15, ek15⟩ : ∃ z, z = h13.length := ⟨_, rfl⟩
  have hr := of_lt ek15 hr
  refine g_anewE (n' := 16) C hAO kw_24 eh14 ek15 (by decide) (by decide) (by decide) (by decide) (by decide) d_Cu_new_46 ?_
  obtain ⟨h16, eh16, hr⟩ := of_bnd hr
  refine g_putF C fp_Cu_40 hin rfl eh16 (fun _ => rfl) (fun _ => rfl) d_Cu_new_49 ?_
  refine g_aload_n C 0 rfl d_Cu_new_52 rfl ?_
  refine g_iconst (v := 5) C d_Cu_new_53 (by decide) ?_
  refine g_bipush (v := 9) C d_Cu_new_54 (by decide) ?_
  obtain ⟨h17, eh17⟩ : ∃ z, z = mn2 h16 5 5 (pJ 9 (fun _ => 0)) := ⟨_, rfl⟩
  have hr := of_lt eh17 hr
  obtain ⟨k18, ek18⟩ : ∃ z, z = h16.length := ⟨_, rfl⟩
  have hr := of_lt ek18 hr
  refine g_mnaE (n' := 5) (m' := 9) (M' := 45) (t := 5) (u := 2) (ty := .long) C hAO (Or.inr ⟨rfl, rfl, rfl, rfl⟩) kw_25 kw_cj eh17 ek18 (by decide) (by decide) (by decide) (by decide) (by decide) (by decide) (by decide) d_Cu_new_56 ?_
  obtain ⟨h19, eh19, hr⟩ := of_bnd hr
  refine g_putF C fp_Cu_45 hin rfl eh19 (fun _ => rfl) (fun _ => rfl) d_Cu_new_60 ?_
  refine g_iconst (v := 0) C d_Cu_new_63 (by decide) ?_
  refine g_istore_n (lv' := [(1, .int 0), (0, .ref p0)]) C d_Cu_new_64 rfl (by decide) rfl ?_
  refine g_lv [1, 0] rfl ?_
  exact lp_Cu_new_65 C T hl0 hin hAO 17 20 244 (by decide) (by decide) h19 p0 0 hr
abbrev b_PK_new : ByteArray := prog_1_method_1_code
abbrev y_PK_new : MethodName := ⟨"PrimeKeys", "<init>", "()V"⟩
theorem d_PK_new_0 : decode b_PK_new 0 = .ok (.aload_n 0, 1) := by decide +kernel
theorem d_PK_new_1 : decode b_PK_new 1 = .ok (.invokespecial 3, 3) := by decide +kernel
theorem d_PK_new_4 : decode b_PK_new 4 = .ok (.aload_n 0, 1) := by decide +kernel
theorem d_PK_new_5 : decode b_PK_new 5 = .ok (.sipush 1024, 3) := by decide +kernel
theorem d_PK_new_8 : decode b_PK_new 8 = .ok (.newarray .byte, 2) := by decide +kernel
theorem d_PK_new_10 : decode b_PK_new 10 = .ok (.putfield 9, 3) := by decide +kernel
theorem d_PK_new_13 : decode b_PK_new 13 = .ok (.aload_n 0, 1) := by decide +kernel
theorem d_PK_new_14 : decode b_PK_new 14 = .ok (.iconst 0, 1) := by decide +kernel
theorem d_PK_new_15 : decode b_PK_new 15 = .ok (.putfield 13, 3) := by decide +kernel
theorem d_PK_new_18 : decode b_PK_new 18 = .ok (.aload_n 0, 1) := by decide +kernel
theorem d_PK_new_19 : decode b_PK_new 19 = .ok (.bipush 100, 2) := by decide +kernel
theorem d_PK_new_21 : decode b_PK_new 21 = .ok (.bipush 32, 2) := by decide +kernel
theorem d_PK_new_23 : decode b_PK_new 23 = .ok (.multianewarray 17 2, 4) := by decide +kernel
theorem d_PK_new_27 : decode b_PK_new 27 = .ok (.putfield 19, 3) := by decide +kernel
theorem d_PK_new_30 : decode b_PK_new 30 = .ok (.aload_n 0, 1) := by decide +kernel
theorem d_PK_new_31 : decode b_PK_new 31 = .ok (.iconst 0, 1) := by decide +kernel
theorem d_PK_new_32 : decode b_PK_new 32 = .ok (.putfield 22, 3) := by decide +kernel
theorem d_PK_new_35 : decode b_PK_new 35 = .ok (.aload_n 0, 1) := by decide +kernel
theorem d_PK_new_36 : decode b_PK_new 36 = .ok (.bipush 32, 2) := by decide +kernel
theorem d_PK_new_38 : decode b_PK_new 38 = .ok (.newarray .byte, 2) := by decide +kernel
theorem d_PK_new_40 : decode b_PK_new 40 = .ok (.putfield 25, 3) := by decide +kernel
theorem d_PK_new_43 : decode b_PK_new 43 = .ok (.aload_n 0, 1) := by decide +kernel
theorem d_PK_new_44 : decode b_PK_new 44 = .ok (.iconst 0, 1) := by decide +kernel
theorem d_PK_new_45 : decode b_PK_new 45 = .ok (.putfield 28, 3) := by decide +kernel
theorem d_PK_new_48 : decode b_PK_new 48 = .ok (.aload_n 0, 1) := by decide +kernel
theorem d_PK_new_49 : decode b_PK_new 49 = .ok (.bipush 72, 2) := by decide +kernel
theorem d_PK_new_51 : decode b_PK_new 51 = .ok (.newarray .byte, 2) := by decide +kernel
theorem d_PK_new_53 : decode b_PK_new 53 = .ok (.putfield 33, 3) := by decide +kernel
theorem d_PK_new_56 : decode b_PK_new 56 = .ok (.aload_n 0, 1) := by decide +kernel
theorem d_PK_new_57 : decode b_PK_new 57 = .ok (.iconst 0, 1) := by decide +kernel
theorem d_PK_new_58 : decode b_PK_new 58 = .ok (.putfield 36, 3) := by decide +kernel
theorem d_PK_new_61 : decode b_PK_new 61 = .ok (.aload_n 0, 1) := by decide +kernel
theorem d_PK_new_62 : decode b_PK_new 62 = .ok (.iconst 0, 1) := by decide +kernel
theorem d_PK_new_63 : decode b_PK_new 63 = .ok (.putfield 39, 3) := by decide +kernel
theorem d_PK_new_66 : decode b_PK_new 66 = .ok (.aload_n 0, 1) := by decide +kernel
theorem d_PK_new_67 : decode b_PK_new 67 = .ok (.iconst 5, 1) := by decide +kernel
theorem d_PK_new_68 : decode b_PK_new 68 = .ok (.newarray .int, 2) := by decide +kernel
theorem d_PK_new_70 : decode b_PK_new 70 = .ok (.putfield 42, 3) := by decide +kernel
theorem d_PK_new_73 : decode b_PK_new 73 = .ok (.aload_n 0, 1) := by decide +kernel
theorem d_PK_new_74 : decode b_PK_new 74 = .ok (.new 46, 3) := by decide +kernel
theorem d_PK_new_77 : decode b_PK_new 77 = .ok (.dup, 1) := by decide +kernel
theorem d_PK_new_78 : decode b_PK_new 78 = .ok (.invokespecial 48, 3) := by decide +kernel
theorem d_PK_new_81 : decode b_PK_new 81 = .ok (.putfield 49, 3) := by decide +kernel
theorem d_PK_new_84 : decode b_PK_new 84 = .ok (.aload_n 0, 1) := by decide +kernel
theorem d_PK_new_85 : decode b_PK_new 85 = .ok (.new 53, 3) := by decide +kernel
theorem d_PK_new_88 : decode b_PK_new 88 = .ok (.dup, 1) := by decide +kernel
theorem d_PK_new_89 : decode b_PK_new 89 = .ok (.invokespecial 55, 3) := by decide +kernel
theorem d_PK_new_92 : decode b_PK_new 92 = .ok (.putfield 56, 3) := by decide +kernel
theorem d_PK_new_95 : decode b_PK_new 95 = .ok (.aload_n 0, 1) := by decide +kernel
theorem d_PK_new_96 : decode b_PK_new 96 = .ok (.new 60, 3) := by decide +kernel
theorem d_PK_new_99 : decode b_PK_new 99 = .ok (.dup, 1) := by decide +kernel
theorem d_PK_new_100 : decode b_PK_new 100 = .ok (.invokespecial 62, 3) := by decide +kernel
theorem d_PK_new_103 : decode b_PK_new 103 = .ok (.putfield 63, 3) := by decide +kernel
theorem d_PK_new_106 : decode b_PK_new 106 = .ok (.aload_n 0, 1) := by decide +kernel
theorem d_PK_new_107 : decode b_PK_new 107 = .ok (.new 31, 3) := by decide +kernel
theorem d_PK_new_110 : decode b_PK_new 110 = .ok (.dup, 1) := by decide +kernel
theorem d_PK_new_111 : decode b_PK_new 111 = .ok (.invokespecial 67, 3) := by decide +kernel
theorem d_PK_new_114 : decode b_PK_new 114 = .ok (.putfield 68, 3) := by decide +kernel
theorem d_PK_new_117 : decode b_PK_new 117 = .ok (.aload_n 0, 1) := by decide +kernel
theorem d_PK_new_118 : decode b_PK_new 118 = .ok (.new 72, 3) := by decide +kernel
theorem d_PK_new_121 : decode b_PK_new 121 = .ok (.dup, 1) := by decide +kernel
theorem d_PK_new_122 : decode b_PK_new 122 = .ok (.invokespecial 74, 3) := by decide +kernel
theorem d_PK_new_125 : decode b_PK_new 125 = .ok (.putfield 75, 3) := by decide +kernel
theorem d_PK_new_128 : decode b_PK_new 128 = .ok (.aload_n 0, 1) := by decide +kernel
theorem d_PK_new_129 : decode b_PK_new 129 = .ok (.bipush 9, 2) := by decide +kernel
theorem d_PK_new_131 : decode b_PK_new 131 = .ok (.newarray .long, 2) := by decide +kernel
theorem d_PK_new_133 : decode b_PK_new 133 = .ok (.putfield 81, 3) := by decide +kernel
theorem d_PK_new_136 : decode b_PK_new 136 = .ok (.aload_n 0, 1) := by decide +kernel
theorem d_PK_new_137 : decode b_PK_new 137 = .ok (.bipush 9, 2) := by decide +kernel
theorem d_PK_new_139 : decode b_PK_new 139 = .ok (.newarray .long, 2) := by decide +kernel
theorem d_PK_new_141 : decode b_PK_new 141 = .ok (.putfield 85, 3) := by decide +kernel
theorem d_PK_new_144 : decode b_PK_new 144 = .ok (.aload_n 0, 1) := by decide +kernel
theorem d_PK_new_145 : decode b_PK_new 145 = .ok (.getfield 49, 3) := by decide +kernel
theorem d_PK_new_148 : decode b_PK_new 148 = .ok (.aload_n 0, 1) := by decide +kernel
theorem d_PK_new_149 : decode b_PK_new 149 = .ok (.getfield 9, 3) := by decide +kernel
theorem d_PK_new_152 : decode b_PK_new 152 = .ok (.aload_n 0, 1) := by decide +kernel
theorem d_PK_new_153 : decode b_PK_new 153 = .ok (.getfield 13, 3) := by decide +kernel
theorem d_PK_new_156 : decode b_PK_new 156 = .ok (.aload_n 0, 1) := by decide +kernel
theorem d_PK_new_157 : decode b_PK_new 157 = .ok (.getfield 25, 3) := by decide +kernel
theorem d_PK_new_160 : decode b_PK_new 160 = .ok (.invokevirtual 88, 3) := by decide +kernel
theorem d_PK_new_163 : decode b_PK_new 163 = .ok (.return_, 1) := by decide +kernel
theorem fl_PK_49 : FL "PrimeKeys" 49 7 10 := ⟨R_PK, F_PK, 17, rfl, u_PK, by decide, rfl, tb_2 (List.mem_of_getElem? (i := 147) (by decide +kernel)) rfl⟩
theorem fl_PK_9 : FL "PrimeKeys" 9 7 0 := ⟨R_PK, F_PK, 17, rfl, u_PK, by decide, rfl, tb_2 (List.mem_of_getElem? (i := 137) (by decide +kernel)) rfl⟩
theorem fl_PK_13 : FL "PrimeKeys" 13 7 1 := ⟨R_PK, F_PK, 17, rfl, u_PK, by decide, rfl, tb_2 (List.mem_of_getElem? (i := 138) (by decide +kernel)) rfl⟩
theorem fl_PK_25 : FL "PrimeKeys" 25 7 4 := ⟨R_PK, F_PK, 17, rfl, u_PK, by decide, rfl, tb_2 (List.mem_of_getElem? (i := 141) (by decide +kernel)) rfl⟩
theorem fp_PK_9 : FP "PrimeKeys" 9 7 0 (.array .byte) false := ⟨R_PK, F_PK, 17, t_PK, rfl, u_PK, by decide, rfl, tb_2 (List.mem_of_getElem? (i := 137) (by decide +kernel)) rfl, t_PK_ok, n_PK, rfl, by decide +kernel⟩
theorem fp_PK_13 : FP "PrimeKeys" 13 7 1 .int false := ⟨R_PK, F_PK, 17, t_PK, rfl, u_PK, by decide, rfl, tb_2 (List.mem_of_getElem? (i := 138) (by decide +kernel)) rfl, t_PK_ok, n_PK, rfl, by decide +kernel⟩
theorem fp_PK_19 : FP "PrimeKeys" 19 7 2 (.array (.array .byte)) true := ⟨R_PK, F_PK, 17, t_PK, rfl, u_PK, by decide, rfl, tb_2 (List.mem_of_getElem? (i := 139) (by decide +kernel)) rfl, t_PK_ok, n_PK, rfl, by decide +kernel⟩
theorem fp_PK_22 : FP "PrimeKeys" 22 7 3 .int false := ⟨R_PK, F_PK, 17, t_PK, rfl, u_PK, by decide, rfl, tb_2 (List.mem_of_getElem? (i := 140) (by decide +kernel)) rfl, t_PK_ok, n_PK, rfl, by decide +kernel⟩
theorem fp_PK_25 : FP "PrimeKeys" 25 7 4 (.array .byte) true := ⟨R_PK, F_PK, 17, t_PK, rfl, u_PK, by decide, rfl, tb_2 (List.mem_of_getElem? (i := 141) (by decide +kernel)) rfl, t_PK_ok, n_PK, rfl, by decide +kernel⟩
theorem fp_PK_28 : FP "PrimeKeys" 28 7 5 .int false := ⟨R_PK, F_PK, 17, t_PK, rfl, u_PK, by decide, rfl, tb_2 (List.mem_of_getElem? (i := 142) (by decide +kernel)) rfl, t_PK_ok, n_PK, rfl, by decide +kernel⟩
theorem fp_PK_33 : FP "PrimeKeys" 33 7 6 (.array .byte) true := ⟨R_PK, F_PK, 17, t_PK, rfl, u_PK, by decide, rfl, tb_2 (List.mem_of_getElem? (i := 143) (by decide +kernel)) rfl, t_PK_ok, n_PK, rfl, by decide +kernel⟩
theorem fp_PK_36 : FP "PrimeKeys" 36 7 7 .int false := ⟨R_PK, F_PK, 17, t_PK, rfl, u_PK, by decide, rfl, tb_2 (List.mem_of_getElem? (i := 144) (by decide +kernel)) rfl, t_PK_ok, n_PK, rfl, by decide +kernel⟩
theorem fp_PK_39 : FP "PrimeKeys" 39 7 8 .int false := ⟨R_PK, F_PK, 17, t_PK, rfl, u_PK, by decide, rfl, tb_2 (List.mem_of_getElem? (i := 145) (by decide +kernel)) rfl, t_PK_ok, n_PK, rfl, by decide +kernel⟩
theorem fp_PK_42 : FP "PrimeKeys" 42 7 9 (.array .int) true := ⟨R_PK, F_PK, 17, t_PK, rfl, u_PK, by decide, rfl, tb_2 (List.mem_of_getElem? (i := 146) (by decide +kernel)) rfl, t_PK_ok, n_PK, rfl, by decide +kernel⟩
theorem fp_PK_49 : FP "PrimeKeys" 49 7 10 (.object "PrimeKeys$Sha256") true := ⟨R_PK, F_PK, 17, t_PK, rfl, u_PK, by decide, rfl, tb_2 (List.mem_of_getElem? (i := 147) (by decide +kernel)) rfl, t_PK_ok, n_PK, rfl, by decide +kernel⟩
theorem fp_PK_56 : FP "PrimeKeys" 56 7 11 (.object "PrimeKeys$Curve") true := ⟨R_PK, F_PK, 17, t_PK, rfl, u_PK, by decide, rfl, tb_2 (List.mem_of_getElem? (i := 148) (by decide +kernel)) rfl, t_PK_ok, n_PK, rfl, by decide +kernel⟩
theorem fp_PK_63 : FP "PrimeKeys" 63 7 12 (.object "PrimeKeys$Signer") true := ⟨R_PK, F_PK, 17, t_PK, rfl, u_PK, by decide, rfl, tb_2 (List.mem_of_getElem? (i := 149) (by decide +kernel)) rfl, t_PK_ok, n_PK, rfl, by decide +kernel⟩
theorem fp_PK_68 : FP "PrimeKeys" 68 7 13 (.object "PrimeKeys$Signature") true := ⟨R_PK, F_PK, 17, t_PK, rfl, u_PK, by decide, rfl, tb_2 (List.mem_of_getElem? (i := 150) (by decide +kernel)) rfl, t_PK_ok, n_PK, rfl, by decide +kernel⟩
theorem fp_PK_75 : FP "PrimeKeys" 75 7 14 (.object "PrimeKeys$Point") true := ⟨R_PK, F_PK, 17, t_PK, rfl, u_PK, by decide, rfl, tb_2 (List.mem_of_getElem? (i := 151) (by decide +kernel)) rfl, t_PK_ok, n_PK, rfl, by decide +kernel⟩
theorem fp_PK_81 : FP "PrimeKeys" 81 7 15 (.array .long) true := ⟨R_PK, F_PK, 17, t_PK, rfl, u_PK, by decide, rfl, tb_2 (List.mem_of_getElem? (i := 152) (by decide +kernel)) rfl, t_PK_ok, n_PK, rfl, by decide +kernel⟩
theorem fp_PK_85 : FP "PrimeKeys" 85 7 16 (.array .long) true := ⟨R_PK, F_PK, 17, t_PK, rfl, u_PK, by decide, rfl, tb_2 (List.mem_of_getElem? (i := 153) (by decide +kernel)) rfl, t_PK_ok, n_PK, rfl, by decide +kernel⟩
theorem nc_PK_46 : NC "PrimeKeys" 46 4 5 [.null, .null, .null, .int 0, .int 0] := ⟨R_Sh, F_Sh, t_Sh, rfl, u_Sh, t_Sh_ok, tb_1 (List.mem_of_getElem? (i := 32) (by decide +kernel)) rfl, tb_1 (List.mem_of_getElem? (i := 33) (by decide +kernel)) rfl, tb_1 (List.mem_of_getElem? (i := 2) (by decide +kernel)) rfl, by decide +kernel, by decide +kernel⟩
theorem nc_PK_53 : NC "PrimeKeys" 53 0 6 [.null, .null, .null, .null, .null, .null] := ⟨R_Cu, F_Cu, t_Cu, rfl, u_Cu, t_Cu_ok, tb_1 (List.mem_of_getElem? (i := 56) (by decide +kernel)) rfl, tb_1 (List.mem_of_getElem? (i := 57) (by decide +kernel)) rfl, tb_1 (List.mem_of_getElem? (i := 3) (by decide +kernel)) rfl, by decide +kernel, by decide +kernel⟩
theorem nc_PK_60 : NC "PrimeKeys" 60 6 11 [.null, .null, .null, .null, .null, .null, .null, .null, .null, .null, .null] := ⟨R_Si, F_Si, t_Si, rfl, u_Si, t_Si_ok, tb_2 (List.mem_of_getElem? (i := 13) (by decide +kernel)) rfl, tb_2 (List.mem_of_getElem? (i := 14) (by decide +kernel)) rfl, tb_1 (List.mem_of_getElem? (i := 10) (by decide +kernel)) rfl, by decide +kernel, by decide +kernel⟩
theorem nc_PK_31 : NC "PrimeKeys" 31 5 2 [.null, .null] := ⟨R_Sg, F_Sg, t_Sg, rfl, u_Sg, t_Sg_ok, tb_2 (List.mem_of_getElem? (i := 86) (by decide +kernel)) rfl, tb_2 (List.mem_of_getElem? (i := 87) (by decide +kernel)) rfl, tb_1 (List.mem_of_getElem? (i := 12) (by decide +kernel)) rfl, by decide +kernel, by decide +kernel⟩
theorem nc_PK_72 : NC "PrimeKeys" 72 3 3 [.null, .null, .null] := ⟨R_Po, F_Po, t_Po, rfl, u_Po, t_Po_ok, tb_2 (List.mem_of_getElem? (i := 101) (by decide +kernel)) rfl, tb_1 (List.mem_of_getElem? (i := 137) (by decide +kernel)) rfl, tb_1 (List.mem_of_getElem? (i := 9) (by decide +kernel)) rfl, by decide +kernel, by decide +kernel⟩
theorem kw_29 : Cond.methodLink "PrimeKeys" 3 Lib.objectInit ∈ TB := tb_1 (List.mem_of_getElem? (i := 27) (by decide +kernel)) rfl
theorem kw_30 : Cond.classLink "PrimeKeys" 17 ("[" ++ (FieldType.array .byte).toString) ∈ TB := tb_1 (List.mem_of_getElem? (i := 30) (by decide +kernel)) rfl
theorem cd_PK_88 : CD "PrimeKeys" 88 y_Sh_digest b_Sh_digest 4 none 3 := ⟨tb_2 (List.mem_of_getElem? (i := 106) rfl) rfl, tb_1 (List.mem_of_getElem? (i := 2) (by decide +kernel)) rfl, tb_2 (List.mem_of_getElem? (i := 103) (by decide +kernel)) rfl, by decide +kernel⟩
theorem kw_in_Sh_digest : Cond.instanceMethod y_Sh_digest ∈ TB := tb_2 (List.mem_of_getElem? (i := 104) (by decide +kernel)) rfl
theorem kw_se_Sh_digest : Cond.selects "PrimeKeys$Sha256" y_Sh_digest y_Sh_digest ∈ TB := tb_2 (List.mem_of_getElem? (i := 105) (by decide +kernel)) rfl
theorem cd_PK_74 : CDN "PrimeKeys" 74 y_Po_new "PrimeKeys" b_Po_new 1 none 0 := ⟨tb_1 (List.mem_of_getElem? (i := 140) rfl) rfl, tb_1 (List.mem_of_getElem? (i := 9) (by decide +kernel)) rfl, by decide, by decide +kernel⟩
theorem cd_PK_67 : CDN "PrimeKeys" 67 y_Sg_new "PrimeKeys" b_Sg_new 1 none 0 := ⟨tb_2 (List.mem_of_getElem? (i := 90) rfl) rfl, tb_1 (List.mem_of_getElem? (i := 12) (by decide +kernel)) rfl, by decide, by decide +kernel⟩
theorem kw_in_Sg_new : Cond.instanceMethod y_Sg_new ∈ TB := tb_2 (List.mem_of_getElem? (i := 89) (by decide +kernel)) rfl
theorem cd_PK_62 : CDN "PrimeKeys" 62 y_Si_new "PrimeKeys" b_Si_new 1 none 0 := ⟨tb_2 (List.mem_of_getElem? (i := 17) rfl) rfl, tb_1 (List.mem_of_getElem? (i := 10) (by decide +kernel)) rfl, by decide, by decide +kernel⟩
theorem kw_in_Si_new : Cond.instanceMethod y_Si_new ∈ TB := tb_2 (List.mem_of_getElem? (i := 16) (by decide +kernel)) rfl
theorem cd_PK_55 : CD "PrimeKeys" 55 y_Cu_new b_Cu_new 2 none 0 := ⟨tb_1 (List.mem_of_getElem? (i := 60) rfl) rfl, tb_1 (List.mem_of_getElem? (i := 3) (by decide +kernel)) rfl, tb_1 (List.mem_of_getElem? (i := 58) (by decide +kernel)) rfl, by decide +kernel⟩
theorem kw_in_Cu_new : Cond.instanceMethod y_Cu_new ∈ TB := tb_1 (List.mem_of_getElem? (i := 59) (by decide +kernel)) rfl
theorem cd_PK_48 : CDN "PrimeKeys" 48 y_Sh_new "PrimeKeys" b_Sh_new 1 none 0 := ⟨tb_1 (List.mem_of_getElem? (i := 36) rfl) rfl, tb_1 (List.mem_of_getElem? (i := 2) (by decide +kernel)) rfl, by decide, by decide +kernel⟩
abbrev rm_PK_new : Room := { frames := 7, cells := 311, slots := 6740, locals := 183 }
def P_PK_new (h : HP) (p0 : Nat) : Option (HP) :=
  lt (h ++ [pB 1024 (fun _ => 0)]) fun h1 =>
  lt h.length fun k2 =>
  bnd (pV h1 p0 7 0 (.ref k2)) fun h3 =>
  bnd (pV h3 p0 7 1 (.int 0)) fun h4 =>
  lt (mn2 h4 4 100 (pB 32 (fun _ => 0))) fun h5 =>
  lt h4.length fun k6 =>
  bnd (pV h5 p0 7 2 (.ref k6)) fun h7 =>
  bnd (pV h7 p0 7 3 (.int 0)) fun h8 =>
  lt (h8 ++ [pB 32 (fun _ => 0)]) fun h9 =>
  lt h8.length fun k10 =>
  bnd (pV h9 p0 7 4 (.ref k10)) fun h11 =>
  bnd (pV h11 p0 7 5 (.int 0)) fun h12 =>
  lt (h12 ++ [pB 72 (fun _ => 0)]) fun h13 =>
  lt h12.length fun k14 =>
  bnd (pV h13 p0 7 6 (.ref k14)) fun h15 =>
  bnd (pV h15 p0 7 7 (.int 0)) fun h16 =>
  bnd (pV h16 p0 7 8 (.int 0)) fun h17 =>
  lt (h17 ++ [pI 5 (fun _ => 0)]) fun h18 =>
  lt h17.length fun k19 =>
  bnd (pV h18 p0 7 9 (.ref k19)) fun h20 =>
  lt (h20 ++ [pO 4 [.null, .null, .null, .int 0, .int 0]]) fun h21 =>
  lt h20.length fun k22 =>
  bnd (P_Sh_new h21 k22) fun h23 =>
  bnd (pV h23 p0 7 10 (.ref k22)) fun h24 =>
  lt (h24 ++ [pO 0 [.null, .null, .null, .null, .null, .null]]) fun h25 =>
  lt h24.length fun k26 =>
  bnd (P_Cu_new h25 k26) fun h27 =>
  bnd (pV h27 p0 7 11 (.ref k26)) fun h28 =>
  lt (h28 ++ [pO 6 [.null, .null, .null, .null, .null, .null, .null, .null, .null, .null, .null]]) fun h29 =>
  lt h28.length fun k30 =>
  bnd (P_Si_new h29 k30) fun h31 =>
  bnd (pV h31 p0 7 12 (.ref k30)) fun h32 =>
  lt (h32 ++ [pO 5 [.null, .null]]) fun h33 =>
  lt h32.length fun k34 =>
  bnd (P_Sg_new h33 k34) fun h35 =>
  bnd (pV h35 p0 7 13 (.ref k34)) fun h36 =>
  lt (h36 ++ [pO 3 [.null, .null, .null]]) fun h37 =>
  lt h36.length fun k38 =>
  bnd (P_Po_new h37 k38) fun h39 =>
  bnd (pV h39 p0 7 14 (.ref k38)) fun h40 =>
  lt (h40 ++ [pJ 9 (fun _ => 0)]) fun h41 =>
  lt h40.length fun k42 =>
  bnd (pV h41 p0 7 15 (.ref k42)) fun h43 =>
  lt (h43 ++ [pJ 9 (fun _ => 0)]) fun h44 =>
  lt h43.length fun k45 =>
  bnd (pV h44 p0 7 16 (.ref k45)) fun h46 =>
  bnd (gR h46 p0 7 10) fun k47 =>
  bnd (gR h46 p0 7 0) fun k48 =>
  bnd (gI h46 p0 7 1) fun v49 =>
  bnd (gR h46 p0 7 4) fun k50 =>
  ob h46 k47 4 (
  bnd (P_Sh_digest h46 k47 k48 v49 k50) fun h51 =>
  some h51)
set_option maxHeartbeats 4000000 in
set_option maxRecDepth 100000 in
theorem c_PK_new {l : Launch} {h h' : HP} {p0 : _} (hr : P_PK_new h p0 = some h') : MPX l y_PK_new (Cond.code y_PK_new b_PK_new 1 none :: TB) rm_PK_new h [.ref p0] none h' := by
  refine MPX_intro (cc := b_PK_new) (by decide) (Nat.le_of_ble_eq_true rfl) (fun x hl0 C T hin hAO => ?_)
  unfold P_PK_new at hr
  show GG x 0 0 h 0 [(0, .ref p0)] []
  refine g_aload_n C 0 rfl d_PK_new_0 rfl ?_
  refine g_objInit C kw_29 kw_oi kw_oc (by decide) (Nat.le_of_ble_eq_true rfl) d_PK_new_1 ?_
  refine g_aload_n C 0 rfl d_PK_new_4 rfl ?_
  refine g_sipush (v := 1024) C d_PK_new_5 (by decide) ?_
  obtain ⟨h1, eh1⟩ : ∃ z, z = h ++ [pB 1024 (fun _ => 0)] := ⟨_, rfl⟩
  have hr := of_lt eh1 hr
  obtain ⟨k2, ek2⟩ : ∃ z, z = h.length := ⟨_, rfl⟩
  have hr := of_lt ek2 hr
  refine g_newBE (n' := 1024) C eh1 ek2 (by decide) (by decide) (by decide) (by decide) (by decide) d_PK_new_8 ?_
  obtain ⟨h3, eh3, hr⟩ := of_bnd hr
  refine g_putR C fp_PK_9 eh3 (fun _ => rfl) (fun _ => rfl) d_PK_new_10 ?_
  refine g_aload_n C 0 rfl d_PK_new_13 rfl ?_
  refine g_iconst (v := 0) C d_PK_new_14 (by decide) ?_
  obtain ⟨h4, eh4, hr⟩ := of_bnd hr
  refine g_putI C fp_PK_13 eh4 d_PK_new_15 ?_
  refine g_aload_n C 0 rfl d_PK_new_18 rfl ?_
  refine g_bipush (v := 100) C d_PK_new_19 (by decide) ?_
  refine g_bipush (v := 32) C d_PK_new_21 (by decide) ?_
  obtain ⟨h5, eh5⟩ : ∃ z, z = mn2 h4 4 100 (pB 32 (fun _ => 0)) := ⟨_, rfl⟩
  have hr := of_lt eh5 hr
  obtain ⟨k6, ek6⟩ : ∃ z, z = h4.length := ⟨_, rfl⟩
  have hr := of_lt ek6 hr
  refine g_mnaE (n' := 100) (m' := 32) (M' := 3200) (t := 4) (u := 0) (ty := .byte) C hAO (Or.inl ⟨rfl, rfl, rfl, rfl⟩) kw_30 kw_cb eh5 ek6 (by decide) (by decide) (by decide) (by decide) (by decide) (by decide) (by decide) d_PK_new_23 ?_
  obtain ⟨h7, eh7, hr⟩ := of_bnd hr
  refine g_putF C fp_PK_19 hin rfl eh7 (fun _ => rfl) (fun _ => rfl) d_PK_new_27 ?_
  refine g_aload_n C 0 rfl d_PK_new_30 rfl ?_
  refine g_iconst (v := 0) C d_PK_new_31 (by decide) ?_
  obtain ⟨h8, eh8, hr⟩ := of_bnd hr
  refine g_putI C fp_PK_22 eh8 d_PK_new_32 ?_
  refine g_aload_n C 0 rfl d_PK_new_35 rfl ?_
  refine g_bipush (v := 32) C d_PK_new_36 (by decide) ?_
  obtain ⟨h9, eh9⟩ : ∃ z, z = h8 ++ [pB 32 (fun _ => 0)] := ⟨_, rfl⟩
  have hr := of_lt eh9 hr
  obtain ⟨k10, ek10⟩ : ∃ z, z = h8.length := ⟨_, rfl⟩
  have hr := of_lt ek10 hr
  refine g_newBE (n' := 32) C eh9 ek10 (by decide) (by decide) (by decide) (by decide) (by decide) d_PK_new_38 ?_
  obtain ⟨h11, eh11, hr⟩ := of_bnd hr
  refine g_putF C fp_PK_25 hin rfl eh11 (fun _ => rfl) (fun _ => rfl) d_PK_new_40 ?_
  refine g_aload_n C 0 rfl d_PK_new_43 rfl ?_
  refine g_iconst (v := 0) C d_PK_new_44 (by decide) ?_
  obtain ⟨h12, eh12, hr⟩ := of_bnd hr
  refine g_putI C fp_PK_28 eh12 d_PK_new_45 ?_
  refine g_aload_n C 0 rfl d_PK_new_48 rfl ?_
  refine g_bipush (v := 72) C d_PK_new_49 (by decide) ?_
  obtain ⟨h13, eh13⟩ : ∃ z, z = h12 ++ [pB 72 (fun _ => 0)] := ⟨_, rfl⟩
  have hr := of_lt eh13 hr
  obtain ⟨k14, ek14⟩ : ∃ z, z = h12.length := ⟨_, rfl⟩
  have hr := of_lt ek14 hr
  refine g_newBE (n' := 72) C eh13 ek14 (by decide) (by decide) (by decide) (by decide) (by decide) d_PK_new_51 ?_
  obtain ⟨h15, eh15, hr⟩ := of_bnd hr
  refine g_putF C fp_PK_33 hin rfl eh15 (fun _ => rfl) (fun _ => rfl) d_PK_new_53 ?_
  refine g_aload_n C 0 rfl d_PK_new_56 rfl ?_
  refine g_iconst (v := 0) C d_PK_new_57 (by decide) ?_
  obtain ⟨h16, eh16, hr⟩ := of_bnd hr
  refine g_putI C fp_PK_36 eh16 d_PK_new_58 ?_
  refine g_aload_n C 0 rfl d_PK_new_61 rfl ?_
  refine g_iconst (v := 0) C d_PK_new_62 (by decide) ?_
  obtain ⟨h17, eh17, hr⟩ := of_bnd hr
  refine g_putI C fp_PK_39 eh17 d_PK_new_63 ?_
  refine g_aload_n C 0 rfl d_PK_new_66 rfl ?_
  refine g_iconst (v := 5) C d_PK_new_67 (by decide) ?_
  obtain ⟨h18, eh18⟩ : ∃ z, z = h17 ++ [pI 5 (fun _ => 0)] := ⟨_, rfl⟩
  have hr := of_lt eh18 hr
  obtain ⟨k19, ek19⟩ : ∃ z, z = h17.length := ⟨_, rfl⟩
  have hr := of_lt ek19 hr
  refine g_newIE (n' := 5) C eh18 ek19 (by decide) (by decide) (by decide) (by decide) (by decide) d_PK_new_68 ?_
  obtain ⟨h20, eh20, hr⟩ := of_bnd hr
  refine g_putF C fp_PK_42 hin rfl eh20 (fun _ => rfl) (fun _ => rfl) d_PK_new_70 ?_
  refine g_aload_n C 0 rfl d_PK_new_73 rfl ?_
  obtain ⟨h21, eh21⟩ : ∃ z, z = h20 ++ [pO 4 [.null, .null, .null, .int 0, .int 0]] := ⟨_, rfl⟩
  have hr := of_lt eh21 hr
  obtain ⟨k22, ek22⟩ : ∃ z, z = h20.length := ⟨_, rfl⟩
  have hr := of_lt ek22 hr
  refine g_newE C nc_PK_46 eh21 ek22 (by decide) (by decide) d_PK_new_74 ?_
  refine g_dup C d_PK_new_77 rfl ?_
  obtain ⟨h23, eh23, hr⟩ := of_bnd hr
  refine g_callIN (pa := []) C hl0 (c_Sh_new eh23) cd_PK_48 kw_in_Sh_new rfl (by decide) rfl rfl (Nat.le_of_ble_eq_true rfl) d_PK_new_78 ?_
  obtain ⟨h24, eh24, hr⟩ := of_bnd hr
  refine g_putF C fp_PK_49 hin rfl eh24 (fun _ => rfl) (fun _ => rfl) d_PK_new_81 ?_
  refine g_aload_n C 0 rfl d_PK_new_84 rfl ?_
  obtain ⟨h25, eh25⟩ : ∃ z, z = h24 ++ [pO 0 [.null, .null, .null, .null, .null, .null]] := ⟨_, rfl⟩
  have hr := of_lt eh25 hr
  obtain ⟨k26, ek26⟩ : ∃ z, z = h24.length := ⟨_, rfl⟩
  have hr := of_lt ek26 hr
  refine g_newE C nc_PK_53 eh25 ek26 (by decide) (by decide) d_PK_new_85 ?_
  refine g_dup C d_PK_new_88 rfl ?_
  obtain ⟨h27, eh27, hr⟩ := of_bnd hr
  refine g_callIX (pa := []) C hAO hl0 (c_Cu_new eh27) cd_PK_55 kw_in_Cu_new rfl (by decide) rfl rfl (Nat.le_of_ble_eq_true rfl) d_PK_new_89 ?_
  obtain ⟨h28, eh28, hr⟩ := of_bnd hr
  refine g_putF C fp_PK_56 hin rfl eh28 (fun _ => rfl) (fun _ => rfl) d_PK_new_92 ?_
  refine g_aload_n C 0 rfl d_PK_new_95 rfl ?_
  obtain ⟨h29, eh29⟩ : ∃ z, z = h28 ++ [pO 6 [.null, .null, .null, .null, .null, .null, .null, .null, .null, .null, .null]] := ⟨_, rfl⟩
  have hr := of_lt eh29 hr
  obtain ⟨k30, ek30⟩ : ∃ z, z = h28.length := ⟨_, rfl⟩
  have hr := of_lt ek30 hr
  refine g_newE C nc_PK_60 eh29 ek30 (by decide) (by decide) d_PK_new_96 ?_
  refine g_dup C d_PK_new_99 rfl ?_
  obtain ⟨h31, eh31, hr⟩ := of_bnd hr
  refine g_callIN (pa := []) C hl0 (c_Si_new eh31) cd_PK_62 kw_in_Si_new rfl (by decide) rfl rfl (Nat.le_of_ble_eq_true rfl) d_PK_new_100 ?_
  obtain ⟨h32, eh32, hr⟩ := of_bnd hr
  refine g_putF C fp_PK_63 hin rfl eh32 (fun _ => rfl) (fun _ => rfl) d_PK_new_103 ?_
  refine g_aload_n C 0 rfl d_PK_new_106 rfl ?_
  obtain ⟨h33, eh33⟩ : ∃ z, z = h32 ++ [pO 5 [.null, .null]] := ⟨_, rfl⟩
  have hr := of_lt eh33 hr
  obtain ⟨k34, ek34⟩ : ∃ z, z = h32.length := ⟨_, rfl⟩
  have hr := of_lt ek34 hr
  refine g_newE C nc_PK_31 eh33 ek34 (by decide) (by decide) d_PK_new_107 ?_
  refine g_dup C d_PK_new_110 rfl ?_
  obtain ⟨h35, eh35, hr⟩ := of_bnd hr
  refine g_callIN (pa := []) C hl0 (c_Sg_new eh35) cd_PK_67 kw_in_Sg_new rfl (by decide) rfl rfl (Nat.le_of_ble_eq_true rfl) d_PK_new_111 ?_
  obtain ⟨h36, eh36, hr⟩ := of_bnd hr
  refine g_putF C fp_PK_68 hin rfl eh36 (fun _ => rfl) (fun _ => rfl) d_PK_new_114 ?_
  refine g_aload_n C 0 rfl d_PK_new_117 rfl ?_
  obtain ⟨h37, eh37⟩ : ∃ z, z = h36 ++ [pO 3 [.null, .null, .null]] := ⟨_, rfl⟩
  have hr := of_lt eh37 hr
  obtain ⟨k38, ek38⟩ : ∃ z, z = h36.length := ⟨_, rfl⟩
  have hr := of_lt ek38 hr
  refine g_newE C nc_PK_72 eh37 ek38 (by decide) (by decide) d_PK_new_118 ?_
  refine g_dup C d_PK_new_121 rfl ?_
  obtain ⟨h39, eh39, hr⟩ := of_bnd hr
  refine g_callIN (pa := []) C hl0 (c_Po_new eh39) cd_PK_74 kw_in_Po_new rfl (by decide) rfl rfl (Nat.le_of_ble_eq_true rfl) d_PK_new_122 ?_
  obtain ⟨h40, eh40, hr⟩ := of_bnd hr
  refine g_putF C fp_PK_75 hin rfl eh40 (fun _ => rfl) (fun _ => rfl) d_PK_new_125 ?_
  refine g_aload_n C 0 rfl d_PK_new_128 rfl ?_
  refine g_bipush (v := 9) C d_PK_new_129 (by decide) ?_
  obtain ⟨h41, eh41⟩ : ∃ z, z = h40 ++ [pJ 9 (fun _ => 0)] := ⟨_, rfl⟩
  have hr := of_lt eh41 hr
  obtain ⟨k42, ek42⟩ : ∃ z, z = h40.length := ⟨_, rfl⟩
  have hr := of_lt ek42 hr
  refine g_newJE (n' := 9) C eh41 ek42 (by decide) (by decide) (by decide) (by decide) (by decide) d_PK_new_131 ?_
  obtain ⟨h43, eh43, hr⟩ := of_bnd hr
  refine g_putF C fp_PK_81 hin rfl eh43 (fun _ => rfl) (fun _ => rfl) d_PK_new_133 ?_
  refine g_aload_n C 0 rfl d_PK_new_136 rfl ?_
  refine g_bipush (v := 9) C d_PK_new_137 (by decide) ?_
  obtain ⟨h44, eh44⟩ : ∃ z, z = h43 ++ [pJ 9 (fun _ => 0)] := ⟨_, rfl⟩
  have hr := of_lt eh44 hr
  obtain ⟨k45, ek45⟩ : ∃ z, z = h43.length := ⟨_, rfl⟩
  have hr := of_lt ek45 hr
  refine g_newJE (n' := 9) C eh44 ek45 (by decide) (by decide) (by decide) (by decide) (by decide) d_PK_new_139 ?_
  obtain ⟨h46, eh46, hr⟩ := of_bnd hr
  refine g_putF C fp_PK_85 hin rfl eh46 (fun _ => rfl) (fun _ => rfl) d_PK_new_141 ?_
  refine g_aload_n C 0 rfl d_PK_new_144 rfl ?_
  obtain ⟨k47, ek47, hr⟩ := of_bnd hr
  refine g_getR C fl_PK_49 ek47 d_PK_new_145 ?_
  refine g_aload_n C 0 rfl d_PK_new_148 rfl ?_
  obtain ⟨k48, ek48, hr⟩ := of_bnd hr
  refine g_getR C fl_PK_9 ek48 d_PK_new_149 ?_
  refine g_aload_n C 0 rfl d_PK_new_152 rfl ?_
  obtain ⟨v49, ev49, hr⟩ := of_bnd hr
  refine g_getI C fl_PK_13 ev49 d_PK_new_153 ?_
  refine g_aload_n C 0 rfl d_PK_new_156 rfl ?_
  obtain ⟨k50, ek50, hr⟩ := of_bnd hr
  refine g_getR C fl_PK_25 ek50 d_PK_new_157 ?_
  obtain ⟨fsh51, hoh51, hr⟩ := of_ob hr
  obtain ⟨h51, eh51, hr⟩ := of_bnd hr
  refine g_callV (pa := [.ref k48, .int v49, .ref k50]) C hl0 (c_Sh_digest eh51) cd_PK_88 kw_in_Sh_digest kw_se_Sh_digest hoh51 rfl rfl (by decide) rfl rfl (Nat.le_of_ble_eq_true rfl) d_PK_new_160 ?_
  cases hr
  exact g_vreturn C T (by decide) (by decide) d_PK_new_163
