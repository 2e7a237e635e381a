abbrev b_Rm_onCurve : ByteArray := prog_12_method_31_code
abbrev y_Rm_onCurve : MethodName := ⟨"PrimeKeysModel", "onCurve", "()Z"⟩
theorem d_Rm_onCurve_0 : decode b_Rm_onCurve 0 = .ok (.aload_n 0, 1) := by decide +kernel
theorem d_Rm_onCurve_1 : decode b_Rm_onCurve 1 = .ok (.getfield 169, 3) := by decide +kernel
theorem d_Rm_onCurve_4 : decode b_Rm_onCurve 4 = .ok (.aload_n 0, 1) := by decide +kernel
theorem d_Rm_onCurve_5 : decode b_Rm_onCurve 5 = .ok (.getfield 29, 3) := by decide +kernel
theorem d_Rm_onCurve_8 : decode b_Rm_onCurve 8 = .ok (.invokestatic 268, 3) := by decide +kernel
theorem d_Rm_onCurve_11 : decode b_Rm_onCurve 11 = .ok (.ifCond .eq 17, 3) := by decide +kernel
theorem d_Rm_onCurve_14 : decode b_Rm_onCurve 14 = .ok (.aload_n 0, 1) := by decide +kernel
theorem d_Rm_onCurve_15 : decode b_Rm_onCurve 15 = .ok (.getfield 172, 3) := by decide +kernel
theorem d_Rm_onCurve_18 : decode b_Rm_onCurve 18 = .ok (.aload_n 0, 1) := by decide +kernel
theorem d_Rm_onCurve_19 : decode b_Rm_onCurve 19 = .ok (.getfield 29, 3) := by decide +kernel
theorem d_Rm_onCurve_22 : decode b_Rm_onCurve 22 = .ok (.invokestatic 268, 3) := by decide +kernel
theorem d_Rm_onCurve_25 : decode b_Rm_onCurve 25 = .ok (.ifCond .ne 5, 3) := by decide +kernel
theorem d_Rm_onCurve_28 : decode b_Rm_onCurve 28 = .ok (.iconst 0, 1) := by decide +kernel
theorem d_Rm_onCurve_29 : decode b_Rm_onCurve 29 = .ok (.ireturn, 1) := by decide +kernel
theorem d_Rm_onCurve_30 : decode b_Rm_onCurve 30 = .ok (.aload_n 0, 1) := by decide +kernel
theorem d_Rm_onCurve_31 : decode b_Rm_onCurve 31 = .ok (.aload_n 0, 1) := by decide +kernel
theorem d_Rm_onCurve_32 : decode b_Rm_onCurve 32 = .ok (.getfield 181, 3) := by decide +kernel
theorem d_Rm_onCurve_35 : decode b_Rm_onCurve 35 = .ok (.aload_n 0, 1) := by decide +kernel
theorem d_Rm_onCurve_36 : decode b_Rm_onCurve 36 = .ok (.getfield 169, 3) := by decide +kernel
theorem d_Rm_onCurve_39 : decode b_Rm_onCurve 39 = .ok (.aload_n 0, 1) := by decide +kernel
theorem d_Rm_onCurve_40 : decode b_Rm_onCurve 40 = .ok (.getfield 169, 3) := by decide +kernel
theorem d_Rm_onCurve_43 : decode b_Rm_onCurve 43 = .ok (.aload_n 0, 1) := by decide +kernel
theorem d_Rm_onCurve_44 : decode b_Rm_onCurve 44 = .ok (.getfield 29, 3) := by decide +kernel
theorem d_Rm_onCurve_47 : decode b_Rm_onCurve 47 = .ok (.aload_n 0, 1) := by decide +kernel
theorem d_Rm_onCurve_48 : decode b_Rm_onCurve 48 = .ok (.getfield 157, 3) := by decide +kernel
theorem d_Rm_onCurve_51 : decode b_Rm_onCurve 51 = .ok (.invokevirtual 338, 3) := by decide +kernel
theorem d_Rm_onCurve_54 : decode b_Rm_onCurve 54 = .ok (.aload_n 0, 1) := by decide +kernel
theorem d_Rm_onCurve_55 : decode b_Rm_onCurve 55 = .ok (.aload_n 0, 1) := by decide +kernel
theorem d_Rm_onCurve_56 : decode b_Rm_onCurve 56 = .ok (.getfield 181, 3) := by decide +kernel
theorem d_Rm_onCurve_59 : decode b_Rm_onCurve 59 = .ok (.aload_n 0, 1) := by decide +kernel
theorem d_Rm_onCurve_60 : decode b_Rm_onCurve 60 = .ok (.getfield 181, 3) := by decide +kernel
theorem d_Rm_onCurve_63 : decode b_Rm_onCurve 63 = .ok (.aload_n 0, 1) := by decide +kernel
theorem d_Rm_onCurve_64 : decode b_Rm_onCurve 64 = .ok (.getfield 169, 3) := by decide +kernel
theorem d_Rm_onCurve_67 : decode b_Rm_onCurve 67 = .ok (.aload_n 0, 1) := by decide +kernel
theorem d_Rm_onCurve_68 : decode b_Rm_onCurve 68 = .ok (.getfield 29, 3) := by decide +kernel
theorem d_Rm_onCurve_71 : decode b_Rm_onCurve 71 = .ok (.aload_n 0, 1) := by decide +kernel
theorem d_Rm_onCurve_72 : decode b_Rm_onCurve 72 = .ok (.getfield 157, 3) := by decide +kernel
theorem d_Rm_onCurve_75 : decode b_Rm_onCurve 75 = .ok (.invokevirtual 338, 3) := by decide +kernel
theorem d_Rm_onCurve_78 : decode b_Rm_onCurve 78 = .ok (.iconst 0, 1) := by decide +kernel
theorem d_Rm_onCurve_79 : decode b_Rm_onCurve 79 = .ok (.istore_n 1, 1) := by decide +kernel
theorem d_Rm_onCurve_80 : decode b_Rm_onCurve 80 = .ok (.iload_n 1, 1) := by decide +kernel
theorem d_Rm_onCurve_81 : decode b_Rm_onCurve 81 = .ok (.iconst 3, 1) := by decide +kernel
theorem d_Rm_onCurve_82 : decode b_Rm_onCurve 82 = .ok (.if_icmp .ge 28, 3) := by decide +kernel
theorem d_Rm_onCurve_85 : decode b_Rm_onCurve 85 = .ok (.aload_n 0, 1) := by decide +kernel
theorem d_Rm_onCurve_86 : decode b_Rm_onCurve 86 = .ok (.getfield 181, 3) := by decide +kernel
theorem d_Rm_onCurve_89 : decode b_Rm_onCurve 89 = .ok (.aload_n 0, 1) := by decide +kernel
theorem d_Rm_onCurve_90 : decode b_Rm_onCurve 90 = .ok (.getfield 181, 3) := by decide +kernel
theorem d_Rm_onCurve_93 : decode b_Rm_onCurve 93 = .ok (.aload_n 0, 1) := by decide +kernel
theorem d_Rm_onCurve_94 : decode b_Rm_onCurve 94 = .ok (.getfield 169, 3) := by decide +kernel
theorem d_Rm_onCurve_97 : decode b_Rm_onCurve 97 = .ok (.aload_n 0, 1) := by decide +kernel
theorem d_Rm_onCurve_98 : decode b_Rm_onCurve 98 = .ok (.getfield 29, 3) := by decide +kernel
theorem d_Rm_onCurve_101 : decode b_Rm_onCurve 101 = .ok (.invokestatic 304, 3) := by decide +kernel
theorem d_Rm_onCurve_104 : decode b_Rm_onCurve 104 = .ok (.iinc 1 1, 3) := by decide +kernel
theorem d_Rm_onCurve_107 : decode b_Rm_onCurve 107 = .ok (.goto (-27), 3) := by decide +kernel
theorem d_Rm_onCurve_110 : decode b_Rm_onCurve 110 = .ok (.aload_n 0, 1) := by decide +kernel
theorem d_Rm_onCurve_111 : decode b_Rm_onCurve 111 = .ok (.getfield 181, 3) := by decide +kernel
theorem d_Rm_onCurve_114 : decode b_Rm_onCurve 114 = .ok (.aload_n 0, 1) := by decide +kernel
theorem d_Rm_onCurve_115 : decode b_Rm_onCurve 115 = .ok (.getfield 181, 3) := by decide +kernel
theorem d_Rm_onCurve_118 : decode b_Rm_onCurve 118 = .ok (.aload_n 0, 1) := by decide +kernel
theorem d_Rm_onCurve_119 : decode b_Rm_onCurve 119 = .ok (.getfield 84, 3) := by decide +kernel
theorem d_Rm_onCurve_122 : decode b_Rm_onCurve 122 = .ok (.aload_n 0, 1) := by decide +kernel
theorem d_Rm_onCurve_123 : decode b_Rm_onCurve 123 = .ok (.getfield 29, 3) := by decide +kernel
theorem d_Rm_onCurve_126 : decode b_Rm_onCurve 126 = .ok (.invokestatic 279, 3) := by decide +kernel
theorem d_Rm_onCurve_129 : decode b_Rm_onCurve 129 = .ok (.aload_n 0, 1) := by decide +kernel
theorem d_Rm_onCurve_130 : decode b_Rm_onCurve 130 = .ok (.aload_n 0, 1) := by decide +kernel
theorem d_Rm_onCurve_131 : decode b_Rm_onCurve 131 = .ok (.getfield 184, 3) := by decide +kernel
theorem d_Rm_onCurve_134 : decode b_Rm_onCurve 134 = .ok (.aload_n 0, 1) := by decide +kernel
theorem d_Rm_onCurve_135 : decode b_Rm_onCurve 135 = .ok (.getfield 172, 3) := by decide +kernel
theorem d_Rm_onCurve_138 : decode b_Rm_onCurve 138 = .ok (.aload_n 0, 1) := by decide +kernel
theorem d_Rm_onCurve_139 : decode b_Rm_onCurve 139 = .ok (.getfield 172, 3) := by decide +kernel
theorem d_Rm_onCurve_142 : decode b_Rm_onCurve 142 = .ok (.aload_n 0, 1) := by decide +kernel
theorem d_Rm_onCurve_143 : decode b_Rm_onCurve 143 = .ok (.getfield 29, 3) := by decide +kernel
theorem d_Rm_onCurve_146 : decode b_Rm_onCurve 146 = .ok (.aload_n 0, 1) := by decide +kernel
theorem d_Rm_onCurve_147 : decode b_Rm_onCurve 147 = .ok (.getfield 157, 3) := by decide +kernel
theorem d_Rm_onCurve_150 : decode b_Rm_onCurve 150 = .ok (.invokevirtual 338, 3) := by decide +kernel
theorem d_Rm_onCurve_153 : decode b_Rm_onCurve 153 = .ok (.aload_n 0, 1) := by decide +kernel
theorem d_Rm_onCurve_154 : decode b_Rm_onCurve 154 = .ok (.getfield 181, 3) := by decide +kernel
theorem d_Rm_onCurve_157 : decode b_Rm_onCurve 157 = .ok (.aload_n 0, 1) := by decide +kernel
theorem d_Rm_onCurve_158 : decode b_Rm_onCurve 158 = .ok (.getfield 184, 3) := by decide +kernel
theorem d_Rm_onCurve_161 : decode b_Rm_onCurve 161 = .ok (.invokestatic 342, 3) := by decide +kernel
theorem d_Rm_onCurve_164 : decode b_Rm_onCurve 164 = .ok (.ireturn, 1) := by decide +kernel
theorem fl_Rm_169 : FL "PrimeKeysModel" 169 8 19 := ⟨R_Rm, F_Rm, 50, rfl, u_Rm, by decide, rfl, tb_4 (List.mem_of_getElem? (i := 173) (by decide +kernel)) rfl⟩
theorem fl_Rm_29 : FL "PrimeKeysModel" 29 8 10 := ⟨R_Rm, F_Rm, 50, rfl, u_Rm, by decide, rfl, tb_4 (List.mem_of_getElem? (i := 164) (by decide +kernel)) rfl⟩
theorem fl_Rm_172 : FL "PrimeKeysModel" 172 8 20 := ⟨R_Rm, F_Rm, 50, rfl, u_Rm, by decide, rfl, tb_4 (List.mem_of_getElem? (i := 174) (by decide +kernel)) rfl⟩
theorem fl_Rm_181 : FL "PrimeKeysModel" 181 8 25 := ⟨R_Rm, F_Rm, 50, rfl, u_Rm, by decide, rfl, tb_4 (List.mem_of_getElem? (i := 179) (by decide +kernel)) rfl⟩
theorem fl_Rm_157 : FL "PrimeKeysModel" 157 8 15 := ⟨R_Rm, F_Rm, 50, rfl, u_Rm, by decide, rfl, tb_4 (List.mem_of_getElem? (i := 169) (by decide +kernel)) rfl⟩
theorem fl_Rm_84 : FL "PrimeKeysModel" 84 8 12 := ⟨R_Rm, F_Rm, 50, rfl, u_Rm, by decide, rfl, tb_4 (List.mem_of_getElem? (i := 166) (by decide +kernel)) rfl⟩
theorem fl_Rm_184 : FL "PrimeKeysModel" 184 8 26 := ⟨R_Rm, F_Rm, 50, rfl, u_Rm, by decide, rfl, tb_4 (List.mem_of_getElem? (i := 180) (by decide +kernel)) rfl⟩
theorem cd_Rm_342 : CD "PrimeKeysModel" 342 y_Rm_alike b_Rm_alike 3 (some .boolean) 2 := ⟨tb_5 (List.mem_of_getElem? (i := 117) rfl) rfl, tb_1 (List.mem_of_getElem? (i := 13) (by decide +kernel)) rfl, tb_5 (List.mem_of_getElem? (i := 115) (by decide +kernel)) rfl, by decide +kernel⟩
theorem kw_st_Rm_alike : Cond.static y_Rm_alike ∈ TB := tb_5 (List.mem_of_getElem? (i := 116) (by decide +kernel)) rfl
theorem cd_Rm_338 : CD "PrimeKeysModel" 338 y_Rm_times b_Rm_times 10 none 5 := ⟨tb_5 (List.mem_of_getElem? (i := 121) rfl) rfl, tb_1 (List.mem_of_getElem? (i := 13) (by decide +kernel)) rfl, tb_5 (List.mem_of_getElem? (i := 118) (by decide +kernel)) rfl, by decide +kernel⟩
theorem kw_in_Rm_times : Cond.instanceMethod y_Rm_times ∈ TB := tb_5 (List.mem_of_getElem? (i := 120) (by decide +kernel)) rfl
theorem kw_se_Rm_times : Cond.selects "PrimeKeysModel" y_Rm_times y_Rm_times ∈ TB := tb_p (q := (y_Rm_times, 50)) (by decide +kernel)
abbrev rm_Rm_onCurve : Room := { frames := 3, cells := 0, slots := 0, locals := 85 }
def B_Rm_onCurve_28 (h : HP) : Option (Int32 × HP) :=
  some (0, h)
set_option maxHeartbeats 4000000 in
set_option maxRecDepth 100000 in
theorem bk_Rm_onCurve_28 {l : Launch} {x : CX} {h0 h' : HP} {r' : Int32} (C : EV x b_Rm_onCurve "PrimeKeysModel" 2 rm_Rm_onCurve) (T : CT x (some .boolean) rm_Rm_onCurve h0 (some (.int r')) h') (hl0 : x.1.2.1 = l) (h : HP) (hr : B_Rm_onCurve_28 h = some (r', h')) : GG x 0 0 h 28 [] [] := by
  unfold B_Rm_onCurve_28 at hr
  refine g_iconst (v := 0) C d_Rm_onCurve_28 (by decide) ?_
  cases hr
  exact g_ireturn C T rfl (by decide) (by decide) d_Rm_onCurve_29
def B_Rm_onCurve_80 (K80 : HP → Nat → Int32 → Option (Int32 × HP)) (h : HP) (a0 : Nat) (a1 : Int32) : Option (Int32 × HP) :=
  if 3 ≤ a1 then
  bnd (gR h a0 8 25) fun k21 =>
  bnd (gR h a0 8 25) fun k22 =>
  bnd (gR h a0 8 12) fun k23 =>
  bnd (gR h a0 8 10) fun k24 =>
  bnd (P_Rm_plus h k21 k22 k23 k24) fun h25 =>
  bnd (gR h25 a0 8 26) fun k26 =>
  bnd (gR h25 a0 8 20) fun k27 =>
  bnd (gR h25 a0 8 20) fun k28 =>
  bnd (gR h25 a0 8 10) fun k29 =>
  bnd (gR h25 a0 8 15) fun k30 =>
  ob h25 a0 8 (
  bnd (P_Rm_times h25 a0 k26 k27 k28 k29 k30) fun h31 =>
  bnd (gR h31 a0 8 25) fun k32 =>
  bnd (gR h31 a0 8 26) fun k33 =>
  bnd2 (P_Rm_alike h31 k32 k33) fun v35 h34 =>
  gd (v35 = 0 ∨ v35 = 1) (some (v35, h34)))
  else
  bnd (gR h a0 8 25) fun k36 =>
  bnd (gR h a0 8 25) fun k37 =>
  bnd (gR h a0 8 19) fun k38 =>
  bnd (gR h a0 8 10) fun k39 =>
  bnd (P_Rm_minus h k36 k37 k38 k39) fun h40 =>
  lt (a1 + Int32.ofInt 1) fun x41 =>
  K80 h40 a0 x41
set_option maxHeartbeats 4000000 in
set_option maxRecDepth 100000 in
theorem bk_Rm_onCurve_80 {l : Launch} {x : CX} {h0 h' : HP} {r' : Int32} (C : EV x b_Rm_onCurve "PrimeKeysModel" 2 rm_Rm_onCurve) (T : CT x (some .boolean) rm_Rm_onCurve h0 (some (.int r')) h') (hl0 : x.1.2.1 = l) (K80 : HP → Nat → Int32 → Option (Int32 × HP)) (hK80 : ∀ (h : HP) (a0 : Nat) (a1 : Int32), K80 h a0 a1 = some (r', h') → GG x 0 0 h 80 [(0, .ref a0), (1, .int a1)] []) (h : HP) (a0 : Nat) (a1 : Int32) (hr : B_Rm_onCurve_80 K80 h a0 a1 = some (r', h')) : GG x 0 0 h 80 [(0, .ref a0), (1, .int a1)] [] := by
  unfold B_Rm_onCurve_80 at hr
  refine g_iload_n C 1 rfl d_Rm_onCurve_80 rfl ?_
  refine g_iconst (v := 3) C d_Rm_onCurve_81 (by decide) ?_
  refine g_icmp_ge (tgt := 110) C d_Rm_onCurve_82 (by decide) (fun z => ?_) (fun z => ?_)
  · have hr := of_if z hr
    refine g_aload_n C 0 rfl d_Rm_onCurve_110 rfl ?_
    obtain ⟨k21, ek21, hr⟩ := of_bnd hr
    refine g_getR C fl_Rm_181 ek21 d_Rm_onCurve_111 ?_
    refine g_aload_n C 0 rfl d_Rm_onCurve_114 rfl ?_
    obtain ⟨k22, ek22, hr⟩ := of_bnd hr
    refine g_getR C fl_Rm_181 ek22 d_Rm_onCurve_115 ?_
    refine g_aload_n C 0 rfl d_Rm_onCurve_118 rfl ?_
    obtain ⟨k23, ek23, hr⟩ := of_bnd hr
    refine g_getR C fl_Rm_84 ek23 d_Rm_onCurve_119 ?_
    refine g_aload_n C 0 rfl d_Rm_onCurve_122 rfl ?_
    obtain ⟨k24, ek24, hr⟩ := of_bnd hr
    refine g_getR C fl_Rm_29 ek24 d_Rm_onCurve_123 ?_
    obtain ⟨h25, eh25, hr⟩ := of_bnd hr
    refine g_callS (pa := [.ref k21, .ref k22, .ref k23, .ref k24]) C hl0 (c_Rm_plus eh25) cd_Rm_279 kw_st_Rm_plus (by decide) rfl rfl (Nat.le_of_ble_eq_true rfl) d_Rm_onCurve_126 ?_
    refine g_aload_n C 0 rfl d_Rm_onCurve_129 rfl ?_
    refine g_aload_n C 0 rfl d_Rm_onCurve_130 rfl ?_
    obtain ⟨k26, ek26, hr⟩ := of_bnd hr
    refine g_getR C fl_Rm_184 ek26 d_Rm_onCurve_131 ?_
    refine g_aload_n C 0 rfl d_Rm_onCurve_134 rfl ?_
    obtain ⟨k27, ek27, hr⟩ := of_bnd hr
    refine g_getR C fl_Rm_172 ek27 d_Rm_onCurve_135 ?_
    refine g_aload_n C 0 rfl d_Rm_onCurve_138 rfl ?_
    obtain ⟨k28, ek28, hr⟩ := of_bnd hr
    refine g_getR C fl_Rm_172 ek28 d_Rm_onCurve_139 ?_
    refine g_aload_n C 0 rfl d_Rm_onCurve_142 rfl ?_
    obtain ⟨k29, ek29, hr⟩ := of_bnd hr
    refine g_getR C fl_Rm_29 ek29 d_Rm_onCurve_143 ?_
    refine g_aload_n C 0 rfl d_Rm_onCurve_146 rfl ?_
    obtain ⟨k30, ek30, hr⟩ := of_bnd hr
    refine g_getR C fl_Rm_157 ek30 d_Rm_onCurve_147 ?_
    obtain ⟨fsh31, hoh31, hr⟩ := of_ob hr
    obtain ⟨h31, eh31, hr⟩ := of_bnd hr
    refine g_callV (pa := [.ref k26, .ref k27, .ref k28, .ref k29, .ref k30]) C hl0 (c_Rm_times eh31) cd_Rm_338 kw_in_Rm_times kw_se_Rm_times hoh31 rfl rfl (by decide) rfl rfl (Nat.le_of_ble_eq_true rfl) d_Rm_onCurve_150 ?_
    refine g_aload_n C 0 rfl d_Rm_onCurve_153 rfl ?_
    obtain ⟨k32, ek32, hr⟩ := of_bnd hr
    refine g_getR C fl_Rm_181 ek32 d_Rm_onCurve_154 ?_
    refine g_aload_n C 0 rfl d_Rm_onCurve_157 rfl ?_
    obtain ⟨k33, ek33, hr⟩ := of_bnd hr
    refine g_getR C fl_Rm_184 ek33 d_Rm_onCurve_158 ?_
    obtain ⟨v35, h34, eh34, hr⟩ := of_bnd2 hr
    refine g_callS (pa := [.ref k32, .ref k33]) C hl0 (c_Rm_alike eh34) cd_Rm_342 kw_st_Rm_alike (by decide) rfl rfl (Nat.le_of_ble_eq_true rfl) d_Rm_onCurve_161 ?_
    obtain ⟨hz, hr⟩ := of_gd hr
    cases hr
    exact g_ireturn C T (nar_z hz) (by decide) (by decide) d_Rm_onCurve_164
  · have hr := of_el z hr
    refine g_aload_n C 0 rfl d_Rm_onCurve_85 rfl ?_
    obtain ⟨k36, ek36, hr⟩ := of_bnd hr
    refine g_getR C fl_Rm_181 ek36 d_Rm_onCurve_86 ?_
    refine g_aload_n C 0 rfl d_Rm_onCurve_89 rfl ?_
    obtain ⟨k37, ek37, hr⟩ := of_bnd hr
    refine g_getR C fl_Rm_181 ek37 d_Rm_onCurve_90 ?_
    refine g_aload_n C 0 rfl d_Rm_onCurve_93 rfl ?_
    obtain ⟨k38, ek38, hr⟩ := of_bnd hr
    refine g_getR C fl_Rm_169 ek38 d_Rm_onCurve_94 ?_
    refine g_aload_n C 0 rfl d_Rm_onCurve_97 rfl ?_
    obtain ⟨k39, ek39, hr⟩ := of_bnd hr
    refine g_getR C fl_Rm_29 ek39 d_Rm_onCurve_98 ?_
    obtain ⟨h40, eh40, hr⟩ := of_bnd hr
    refine g_callS (pa := [.ref k36, .ref k37, .ref k38, .ref k39]) C hl0 (c_Rm_minus eh40) cd_Rm_304 kw_st_Rm_minus (by decide) rfl rfl (Nat.le_of_ble_eq_true rfl) d_Rm_onCurve_101 ?_
    obtain ⟨x41, ex41⟩ : ∃ z, z = a1 + Int32.ofInt 1 := ⟨_, rfl⟩
    have hr := of_lt ex41 hr
    refine g_iinc (lv' := [(1, .int x41), (0, .ref a0)]) C 1 rfl d_Rm_onCurve_104 ex41.symm (by decide) rfl ?_
    refine g_goto (tgt := 80) C d_Rm_onCurve_107 (by decide) ?_
    refine g_lv [1, 0] rfl ?_
    exact hK80 h40 a0 x41 hr
def L_Rm_onCurve_80 : Nat → HP → Nat → Int32 → Option (Int32 × HP)
  | 0, _, _, _ => none
  | f + 1, h, a0, a1 => B_Rm_onCurve_80 (L_Rm_onCurve_80 f) h a0 a1
theorem lp_Rm_onCurve_80 {l : Launch} {x : CX} {h0 h' : HP} {r' : Int32} (C : EV x b_Rm_onCurve "PrimeKeysModel" 2 rm_Rm_onCurve) (T : CT x (some .boolean) rm_Rm_onCurve h0 (some (.int r')) h') (hl0 : x.1.2.1 = l) : ∀ (f : Nat) (h : HP) (a0 : Nat) (a1 : Int32), L_Rm_onCurve_80 f h a0 a1 = some (r', h') → GG x 0 0 h 80 [(0, .ref a0), (1, .int a1)] [] := by
  intro f
  induction f with
  | zero => intro h a0 a1 hr; have hr : (none : Option (Int32 × HP)) = some (r', h') := hr; cases hr
  | succ f ih => intro h a0 a1 hr; exact bk_Rm_onCurve_80 C T hl0 (L_Rm_onCurve_80 f) ih h a0 a1 hr
def P_Rm_onCurve (h : HP) (p0 : Nat) : Option (Int32 × HP) :=
  bnd (gR h p0 8 19) fun k1 =>
  bnd (gR h p0 8 10) fun k2 =>
  bnd2 (P_Rm_below h k1 k2) fun v4 h3 =>
  if v4 = 0 then
  B_Rm_onCurve_28 h3
  else
  bnd (gR h3 p0 8 20) fun k5 =>
  bnd (gR h3 p0 8 10) fun k6 =>
  bnd2 (P_Rm_below h3 k5 k6) fun v8 h7 =>
  if v8 = 0 then
  B_Rm_onCurve_28 h7
  else
  bnd (gR h7 p0 8 25) fun k9 =>
  bnd (gR h7 p0 8 19) fun k10 =>
  bnd (gR h7 p0 8 19) fun k11 =>
  bnd (gR h7 p0 8 10) fun k12 =>
  bnd (gR h7 p0 8 15) fun k13 =>
  ob h7 p0 8 (
  bnd (P_Rm_times h7 p0 k9 k10 k11 k12 k13) fun h14 =>
  bnd (gR h14 p0 8 25) fun k15 =>
  bnd (gR h14 p0 8 25) fun k16 =>
  bnd (gR h14 p0 8 19) fun k17 =>
  bnd (gR h14 p0 8 10) fun k18 =>
  bnd (gR h14 p0 8 15) fun k19 =>
  ob h14 p0 8 (
  bnd (P_Rm_times h14 p0 k15 k16 k17 k18 k19) fun h20 =>
  L_Rm_onCurve_80 FU h20 p0 0))
set_option maxHeartbeats 4000000 in
set_option maxRecDepth 100000 in
theorem c_Rm_onCurve {l : Launch} {h h' : HP} {p0 : _} {r' : Int32} (hr : P_Rm_onCurve h p0 = some (r', h')) : MP l y_Rm_onCurve (Cond.code y_Rm_onCurve b_Rm_onCurve 2 (some .boolean) :: TB) rm_Rm_onCurve h [.ref p0] (some (.int r')) h' := by
  refine MP_intro (cc := b_Rm_onCurve) (by decide) (Nat.le_of_ble_eq_true rfl) (fun x hl0 C T hin => ?_)
  unfold P_Rm_onCurve at hr
  show GG x 0 0 h 0 [(0, .ref p0)] []
  refine g_aload_n C 0 rfl d_Rm_onCurve_0 rfl ?_
  obtain ⟨k1, ek1, hr⟩ := of_bnd hr
  refine g_getR C fl_Rm_169 ek1 d_Rm_onCurve_1 ?_
  refine g_aload_n C 0 rfl d_Rm_onCurve_4 rfl ?_
  obtain ⟨k2, ek2, hr⟩ := of_bnd hr
  refine g_getR C fl_Rm_29 ek2 d_Rm_onCurve_5 ?_
  obtain ⟨v4, h3, eh3, hr⟩ := of_bnd2 hr
  refine g_callS (pa := [.ref k1, .ref k2]) C hl0 (c_Rm_below eh3) cd_Rm_268 kw_st_Rm_below (by decide) rfl rfl (Nat.le_of_ble_eq_true rfl) d_Rm_onCurve_8 ?_
  refine g_if_eq (tgt := 28) C d_Rm_onCurve_11 (by decide) (fun z => ?_) (fun z => ?_)
  · have hr := of_if z hr
    refine g_lv [] rfl ?_
    exact bk_Rm_onCurve_28 C T hl0 h3 hr
  · have hr := of_el z hr
    refine g_aload_n C 0 rfl d_Rm_onCurve_14 rfl ?_
    obtain ⟨k5, ek5, hr⟩ := of_bnd hr
    refine g_getR C fl_Rm_172 ek5 d_Rm_onCurve_15 ?_
    refine g_aload_n C 0 rfl d_Rm_onCurve_18 rfl ?_
    obtain ⟨k6, ek6, hr⟩ := of_bnd hr
    refine g_getR C fl_Rm_29 ek6 d_Rm_onCurve_19 ?_
    obtain ⟨v8, h7, eh7, hr⟩ := of_bnd2 hr
    refine g_callS (pa := [.ref k5, .ref k6]) C hl0 (c_Rm_below eh7) cd_Rm_268 kw_st_Rm_below (by decide) rfl rfl (Nat.le_of_ble_eq_true rfl) d_Rm_onCurve_22 ?_
    refine g_if_ne (tgt := 30) C d_Rm_onCurve_25 (by decide) (fun z => ?_) (fun z => ?_)
    · have hr := of_el z hr
      refine g_aload_n C 0 rfl d_Rm_onCurve_30 rfl ?_
      refine g_aload_n C 0 rfl d_Rm_onCurve_31 rfl ?_
      obtain ⟨k9, ek9, hr⟩ := of_bnd hr
      refine g_getR C fl_Rm_181 ek9 d_Rm_onCurve_32 ?_
      refine g_aload_n C 0 rfl d_Rm_onCurve_35 rfl ?_
      obtain ⟨k10, ek10, hr⟩ := of_bnd hr
      refine g_getR C fl_Rm_169 ek10 d_Rm_onCurve_36 ?_
      refine g_aload_n C 0 rfl d_Rm_onCurve_39 rfl ?_
      obtain ⟨k11, ek11, hr⟩ := of_bnd hr
      refine g_getR C fl_Rm_169 ek11 d_Rm_onCurve_40 ?_
      refine g_aload_n C 0 rfl d_Rm_onCurve_43 rfl ?_
      obtain ⟨k12, ek12, hr⟩ := of_bnd hr
      refine g_getR C fl_Rm_29 ek12 d_Rm_onCurve_44 ?_
      refine g_aload_n C 0 rfl d_Rm_onCurve_47 rfl ?_
      obtain ⟨k13, ek13, hr⟩ := of_bnd hr
      refine g_getR C fl_Rm_157 ek13 d_Rm_onCurve_48 ?_
      obtain ⟨fsh14, hoh14, hr⟩ := of_ob hr
      obtain ⟨h14, eh14, hr⟩ := of_bnd hr
      refine g_callV (pa := [.ref k9, .ref k10, .ref k11, .ref k12, .ref k13]) C hl0 (c_Rm_times eh14) cd_Rm_338 kw_in_Rm_times kw_se_Rm_times hoh14 rfl rfl (by decide) rfl rfl (Nat.le_of_ble_eq_true rfl) d_Rm_onCurve_51 ?_
      refine g_aload_n C 0 rfl d_Rm_onCurve_54 rfl ?_
      refine g_aload_n C 0 rfl d_Rm_onCurve_55 rfl ?_
      obtain ⟨k15, ek15, hr⟩ := of_bnd hr
      refine g_getR C fl_Rm_181 ek15 d_Rm_onCurve_56 ?_
      refine g_aload_n C 0 rfl d_Rm_onCurve_59 rfl ?_
      obtain ⟨k16, ek16, hr⟩ := of_bnd hr
      refine g_getR C fl_Rm_181 ek16 d_Rm_onCurve_60 ?_
      refine g_aload_n C 0 rfl d_Rm_onCurve_63 rfl ?_
      obtain ⟨k17, ek17, hr⟩ := of_bnd hr
      refine g_getR C fl_Rm_169 ek17 d_Rm_onCurve_64 ?_
      refine g_aload_n C 0 rfl d_Rm_onCurve_67 rfl ?_
      obtain ⟨k18, ek18, hr⟩ := of_bnd hr
      refine g_getR C fl_Rm_29 ek18 d_Rm_onCurve_68 ?_
      refine g_aload_n C 0 rfl d_Rm_onCurve_71 rfl ?_
      obtain ⟨k19, ek19, hr⟩ := of_bnd hr
      refine g_getR C fl_Rm_157 ek19 d_Rm_onCurve_72 ?_
      obtain ⟨fsh20, hoh20, hr⟩ := of_ob hr
      obtain ⟨h20, eh20, hr⟩ := of_bnd hr
      refine g_callV (pa := [.ref k15, .ref k16, .ref k17, .ref k18, .ref k19]) C hl0 (c_Rm_times eh20) cd_Rm_338 kw_in_Rm_times kw_se_Rm_times hoh20 rfl rfl (by decide) rfl rfl (Nat.le_of_ble_eq_true rfl) d_Rm_onCurve_75 ?_
      refine g_iconst (v := 0) C d_Rm_onCurve_78 (by decide) ?_
      refine g_istore_n (lv' := [(1, .int 0), (0, .ref p0)]) C d_Rm_onCurve_79 rfl (by decide) rfl ?_
      refine g_lv [1, 0] rfl ?_
      exact lp_Rm_onCurve_80 C T hl0 FU h20 p0 0 hr
    · have hr := of_if z hr
      refine g_lv [] rfl ?_
      exact bk_Rm_onCurve_28 C T hl0 h7 hr
abbrev b_Rm_add : ByteArray := prog_12_method_32_code
abbrev y_Rm_add : MethodName := ⟨"PrimeKeysModel", "add", "()V"⟩
theorem d_Rm_add_0 : decode b_Rm_add 0 = .ok (.aload_n 0, 1) := by decide +kernel
theorem d_Rm_add_1 : decode b_Rm_add 1 = .ok (.getfield 345, 3) := by decide +kernel
theorem d_Rm_add_4 : decode b_Rm_add 4 = .ok (.ifCond .eq 4, 3) := by decide +kernel
theorem d_Rm_add_7 : decode b_Rm_add 7 = .ok (.return_, 1) := by decide +kernel
theorem d_Rm_add_8 : decode b_Rm_add 8 = .ok (.aload_n 0, 1) := by decide +kernel
theorem d_Rm_add_9 : decode b_Rm_add 9 = .ok (.getfield 349, 3) := by decide +kernel
theorem d_Rm_add_12 : decode b_Rm_add 12 = .ok (.ifCond .eq 31, 3) := by decide +kernel
theorem d_Rm_add_15 : decode b_Rm_add 15 = .ok (.aload_n 0, 1) := by decide +kernel
theorem d_Rm_add_16 : decode b_Rm_add 16 = .ok (.getfield 163, 3) := by decide +kernel
theorem d_Rm_add_19 : decode b_Rm_add 19 = .ok (.aload_n 0, 1) := by decide +kernel
theorem d_Rm_add_20 : decode b_Rm_add 20 = .ok (.getfield 169, 3) := by decide +kernel
theorem d_Rm_add_23 : decode b_Rm_add 23 = .ok (.invokestatic 286, 3) := by decide +kernel
theorem d_Rm_add_26 : decode b_Rm_add 26 = .ok (.aload_n 0, 1) := by decide +kernel
theorem d_Rm_add_27 : decode b_Rm_add 27 = .ok (.getfield 166, 3) := by decide +kernel
theorem d_Rm_add_30 : decode b_Rm_add 30 = .ok (.aload_n 0, 1) := by decide +kernel
theorem d_Rm_add_31 : decode b_Rm_add 31 = .ok (.getfield 172, 3) := by decide +kernel
theorem d_Rm_add_34 : decode b_Rm_add 34 = .ok (.invokestatic 286, 3) := by decide +kernel
theorem d_Rm_add_37 : decode b_Rm_add 37 = .ok (.aload_n 0, 1) := by decide +kernel
theorem d_Rm_add_38 : decode b_Rm_add 38 = .ok (.iconst 0, 1) := by decide +kernel
theorem d_Rm_add_39 : decode b_Rm_add 39 = .ok (.putfield 349, 3) := by decide +kernel
theorem d_Rm_add_42 : decode b_Rm_add 42 = .ok (.return_, 1) := by decide +kernel
theorem d_Rm_add_43 : decode b_Rm_add 43 = .ok (.aload_n 0, 1) := by decide +kernel
theorem d_Rm_add_44 : decode b_Rm_add 44 = .ok (.getfield 163, 3) := by decide +kernel
theorem d_Rm_add_47 : decode b_Rm_add 47 = .ok (.aload_n 0, 1) := by decide +kernel
theorem d_Rm_add_48 : decode b_Rm_add 48 = .ok (.getfield 169, 3) := by decide +kernel
theorem d_Rm_add_51 : decode b_Rm_add 51 = .ok (.invokestatic 342, 3) := by decide +kernel
theorem d_Rm_add_54 : decode b_Rm_add 54 = .ok (.ifCond .eq 23, 3) := by decide +kernel
theorem d_Rm_add_57 : decode b_Rm_add 57 = .ok (.aload_n 0, 1) := by decide +kernel
theorem d_Rm_add_58 : decode b_Rm_add 58 = .ok (.getfield 166, 3) := by decide +kernel
theorem d_Rm_add_61 : decode b_Rm_add 61 = .ok (.aload_n 0, 1) := by decide +kernel
theorem d_Rm_add_62 : decode b_Rm_add 62 = .ok (.getfield 172, 3) := by decide +kernel
theorem d_Rm_add_65 : decode b_Rm_add 65 = .ok (.invokestatic 342, 3) := by decide +kernel
theorem d_Rm_add_68 : decode b_Rm_add 68 = .ok (.ifCond .ne 9, 3) := by decide +kernel
theorem d_Rm_add_71 : decode b_Rm_add 71 = .ok (.aload_n 0, 1) := by decide +kernel
theorem d_Rm_add_72 : decode b_Rm_add 72 = .ok (.iconst 1, 1) := by decide +kernel
theorem d_Rm_add_73 : decode b_Rm_add 73 = .ok (.putfield 349, 3) := by decide +kernel
theorem d_Rm_add_76 : decode b_Rm_add 76 = .ok (.return_, 1) := by decide +kernel
theorem d_Rm_add_77 : decode b_Rm_add 77 = .ok (.aload_n 0, 1) := by decide +kernel
theorem d_Rm_add_78 : decode b_Rm_add 78 = .ok (.getfield 163, 3) := by decide +kernel
theorem d_Rm_add_81 : decode b_Rm_add 81 = .ok (.aload_n 0, 1) := by decide +kernel
theorem d_Rm_add_82 : decode b_Rm_add 82 = .ok (.getfield 169, 3) := by decide +kernel
theorem d_Rm_add_85 : decode b_Rm_add 85 = .ok (.invokestatic 342, 3) := by decide +kernel
theorem d_Rm_add_88 : decode b_Rm_add 88 = .ok (.ifCond .eq 114, 3) := by decide +kernel
theorem d_Rm_add_91 : decode b_Rm_add 91 = .ok (.aload_n 0, 1) := by decide +kernel
theorem d_Rm_add_92 : decode b_Rm_add 92 = .ok (.aload_n 0, 1) := by decide +kernel
theorem d_Rm_add_93 : decode b_Rm_add 93 = .ok (.getfield 181, 3) := by decide +kernel
theorem d_Rm_add_96 : decode b_Rm_add 96 = .ok (.aload_n 0, 1) := by decide +kernel
theorem d_Rm_add_97 : decode b_Rm_add 97 = .ok (.getfield 163, 3) := by decide +kernel
theorem d_Rm_add_100 : decode b_Rm_add 100 = .ok (.aload_n 0, 1) := by decide +kernel
theorem d_Rm_add_101 : decode b_Rm_add 101 = .ok (.getfield 163, 3) := by decide +kernel
theorem d_Rm_add_104 : decode b_Rm_add 104 = .ok (.aload_n 0, 1) := by decide +kernel
theorem d_Rm_add_105 : decode b_Rm_add 105 = .ok (.getfield 29, 3) := by decide +kernel
theorem d_Rm_add_108 : decode b_Rm_add 108 = .ok (.aload_n 0, 1) := by decide +kernel
theorem d_Rm_add_109 : decode b_Rm_add 109 = .ok (.getfield 157, 3) := by decide +kernel
theorem d_Rm_add_112 : decode b_Rm_add 112 = .ok (.invokevirtual 338, 3) := by decide +kernel
theorem d_Rm_add_115 : decode b_Rm_add 115 = .ok (.aload_n 0, 1) := by decide +kernel
theorem d_Rm_add_116 : decode b_Rm_add 116 = .ok (.getfield 184, 3) := by decide +kernel
theorem d_Rm_add_119 : decode b_Rm_add 119 = .ok (.iconst 1, 1) := by decide +kernel
theorem d_Rm_add_120 : decode b_Rm_add 120 = .ok (.invokestatic 275, 3) := by decide +kernel
theorem d_Rm_add_123 : decode b_Rm_add 123 = .ok (.aload_n 0, 1) := by decide +kernel
theorem d_Rm_add_124 : decode b_Rm_add 124 = .ok (.getfield 181, 3) := by decide +kernel
theorem d_Rm_add_127 : decode b_Rm_add 127 = .ok (.aload_n 0, 1) := by decide +kernel
theorem d_Rm_add_128 : decode b_Rm_add 128 = .ok (.getfield 181, 3) := by decide +kernel
theorem d_Rm_add_131 : decode b_Rm_add 131 = .ok (.aload_n 0, 1) := by decide +kernel
theorem d_Rm_add_132 : decode b_Rm_add 132 = .ok (.getfield 184, 3) := by decide +kernel
theorem d_Rm_add_135 : decode b_Rm_add 135 = .ok (.aload_n 0, 1) := by decide +kernel
theorem d_Rm_add_136 : decode b_Rm_add 136 = .ok (.getfield 29, 3) := by decide +kernel
theorem d_Rm_add_139 : decode b_Rm_add 139 = .ok (.invokestatic 304, 3) := by decide +kernel
theorem d_Rm_add_142 : decode b_Rm_add 142 = .ok (.aload_n 0, 1) := by decide +kernel
theorem d_Rm_add_143 : decode b_Rm_add 143 = .ok (.getfield 184, 3) := by decide +kernel
theorem d_Rm_add_146 : decode b_Rm_add 146 = .ok (.aload_n 0, 1) := by decide +kernel
theorem d_Rm_add_147 : decode b_Rm_add 147 = .ok (.getfield 181, 3) := by decide +kernel
theorem d_Rm_add_150 : decode b_Rm_add 150 = .ok (.aload_n 0, 1) := by decide +kernel
theorem d_Rm_add_151 : decode b_Rm_add 151 = .ok (.getfield 181, 3) := by decide +kernel
theorem d_Rm_add_154 : decode b_Rm_add 154 = .ok (.aload_n 0, 1) := by decide +kernel
theorem d_Rm_add_155 : decode b_Rm_add 155 = .ok (.getfield 29, 3) := by decide +kernel
theorem d_Rm_add_158 : decode b_Rm_add 158 = .ok (.invokestatic 279, 3) := by decide +kernel
theorem d_Rm_add_161 : decode b_Rm_add 161 = .ok (.aload_n 0, 1) := by decide +kernel
theorem d_Rm_add_162 : decode b_Rm_add 162 = .ok (.getfield 181, 3) := by decide +kernel
theorem d_Rm_add_165 : decode b_Rm_add 165 = .ok (.aload_n 0, 1) := by decide +kernel
theorem d_Rm_add_166 : decode b_Rm_add 166 = .ok (.getfield 181, 3) := by decide +kernel
theorem d_Rm_add_169 : decode b_Rm_add 169 = .ok (.aload_n 0, 1) := by decide +kernel
theorem d_Rm_add_170 : decode b_Rm_add 170 = .ok (.getfield 184, 3) := by decide +kernel
theorem d_Rm_add_173 : decode b_Rm_add 173 = .ok (.aload_n 0, 1) := by decide +kernel
theorem d_Rm_add_174 : decode b_Rm_add 174 = .ok (.getfield 29, 3) := by decide +kernel
theorem d_Rm_add_177 : decode b_Rm_add 177 = .ok (.invokestatic 279, 3) := by decide +kernel
theorem d_Rm_add_180 : decode b_Rm_add 180 = .ok (.aload_n 0, 1) := by decide +kernel
theorem d_Rm_add_181 : decode b_Rm_add 181 = .ok (.getfield 184, 3) := by decide +kernel
theorem d_Rm_add_184 : decode b_Rm_add 184 = .ok (.aload_n 0, 1) := by decide +kernel
theorem d_Rm_add_185 : decode b_Rm_add 185 = .ok (.getfield 166, 3) := by decide +kernel
theorem d_Rm_add_188 : decode b_Rm_add 188 = .ok (.aload_n 0, 1) := by decide +kernel
theorem d_Rm_add_189 : decode b_Rm_add 189 = .ok (.getfield 166, 3) := by decide +kernel
theorem d_Rm_add_192 : decode b_Rm_add 192 = .ok (.aload_n 0, 1) := by decide +kernel
theorem d_Rm_add_193 : decode b_Rm_add 193 = .ok (.getfield 29, 3) := by decide +kernel
theorem d_Rm_add_196 : decode b_Rm_add 196 = .ok (.invokestatic 279, 3) := by decide +kernel
theorem d_Rm_add_199 : decode b_Rm_add 199 = .ok (.goto 41, 3) := by decide +kernel
theorem d_Rm_add_202 : decode b_Rm_add 202 = .ok (.aload_n 0, 1) := by decide +kernel
theorem d_Rm_add_203 : decode b_Rm_add 203 = .ok (.getfield 181, 3) := by decide +kernel
theorem d_Rm_add_206 : decode b_Rm_add 206 = .ok (.aload_n 0, 1) := by decide +kernel
theorem d_Rm_add_207 : decode b_Rm_add 207 = .ok (.getfield 172, 3) := by decide +kernel
theorem d_Rm_add_210 : decode b_Rm_add 210 = .ok (.aload_n 0, 1) := by decide +kernel
theorem d_Rm_add_211 : decode b_Rm_add 211 = .ok (.getfield 166, 3) := by decide +kernel
theorem d_Rm_add_214 : decode b_Rm_add 214 = .ok (.aload_n 0, 1) := by decide +kernel
theorem d_Rm_add_215 : decode b_Rm_add 215 = .ok (.getfield 29, 3) := by decide +kernel
theorem d_Rm_add_218 : decode b_Rm_add 218 = .ok (.invokestatic 304, 3) := by decide +kernel
theorem d_Rm_add_221 : decode b_Rm_add 221 = .ok (.aload_n 0, 1) := by decide +kernel
theorem d_Rm_add_222 : decode b_Rm_add 222 = .ok (.getfield 184, 3) := by decide +kernel
theorem d_Rm_add_225 : decode b_Rm_add 225 = .ok (.aload_n 0, 1) := by decide +kernel
theorem d_Rm_add_226 : decode b_Rm_add 226 = .ok (.getfield 169, 3) := by decide +kernel
theorem d_Rm_add_229 : decode b_Rm_add 229 = .ok (.aload_n 0, 1) := by decide +kernel
theorem d_Rm_add_230 : decode b_Rm_add 230 = .ok (.getfield 163, 3) := by decide +kernel
theorem d_Rm_add_233 : decode b_Rm_add 233 = .ok (.aload_n 0, 1) := by decide +kernel
theorem d_Rm_add_234 : decode b_Rm_add 234 = .ok (.getfield 29, 3) := by decide +kernel
theorem d_Rm_add_237 : decode b_Rm_add 237 = .ok (.invokestatic 304, 3) := by decide +kernel
theorem d_Rm_add_240 : decode b_Rm_add 240 = .ok (.aload_n 0, 1) := by decide +kernel
theorem d_Rm_add_241 : decode b_Rm_add 241 = .ok (.aload_n 0, 1) := by decide +kernel
theorem d_Rm_add_242 : decode b_Rm_add 242 = .ok (.getfield 187, 3) := by decide +kernel
theorem d_Rm_add_245 : decode b_Rm_add 245 = .ok (.aload_n 0, 1) := by decide +kernel
theorem d_Rm_add_246 : decode b_Rm_add 246 = .ok (.getfield 184, 3) := by decide +kernel
theorem d_Rm_add_249 : decode b_Rm_add 249 = .ok (.aload_n 0, 1) := by decide +kernel
theorem d_Rm_add_250 : decode b_Rm_add 250 = .ok (.getfield 29, 3) := by decide +kernel
theorem d_Rm_add_253 : decode b_Rm_add 253 = .ok (.invokevirtual 352, 3) := by decide +kernel
theorem d_Rm_add_256 : decode b_Rm_add 256 = .ok (.aload_n 0, 1) := by decide +kernel
theorem d_Rm_add_257 : decode b_Rm_add 257 = .ok (.aload_n 0, 1) := by decide +kernel
theorem d_Rm_add_258 : decode b_Rm_add 258 = .ok (.getfield 181, 3) := by decide +kernel
theorem d_Rm_add_261 : decode b_Rm_add 261 = .ok (.aload_n 0, 1) := by decide +kernel
theorem d_Rm_add_262 : decode b_Rm_add 262 = .ok (.getfield 181, 3) := by decide +kernel
theorem d_Rm_add_265 : decode b_Rm_add 265 = .ok (.aload_n 0, 1) := by decide +kernel
theorem d_Rm_add_266 : decode b_Rm_add 266 = .ok (.getfield 187, 3) := by decide +kernel
theorem d_Rm_add_269 : decode b_Rm_add 269 = .ok (.aload_n 0, 1) := by decide +kernel
theorem d_Rm_add_270 : decode b_Rm_add 270 = .ok (.getfield 29, 3) := by decide +kernel
theorem d_Rm_add_273 : decode b_Rm_add 273 = .ok (.aload_n 0, 1) := by decide +kernel
theorem d_Rm_add_274 : decode b_Rm_add 274 = .ok (.getfield 157, 3) := by decide +kernel
theorem d_Rm_add_277 : decode b_Rm_add 277 = .ok (.invokevirtual 338, 3) := by decide +kernel
theorem d_Rm_add_280 : decode b_Rm_add 280 = .ok (.aload_n 0, 1) := by decide +kernel
theorem d_Rm_add_281 : decode b_Rm_add 281 = .ok (.aload_n 0, 1) := by decide +kernel
theorem d_Rm_add_282 : decode b_Rm_add 282 = .ok (.getfield 184, 3) := by decide +kernel
theorem d_Rm_add_285 : decode b_Rm_add 285 = .ok (.aload_n 0, 1) := by decide +kernel
theorem d_Rm_add_286 : decode b_Rm_add 286 = .ok (.getfield 181, 3) := by decide +kernel
theorem d_Rm_add_289 : decode b_Rm_add 289 = .ok (.aload_n 0, 1) := by decide +kernel
theorem d_Rm_add_290 : decode b_Rm_add 290 = .ok (.getfield 181, 3) := by decide +kernel
theorem d_Rm_add_293 : decode b_Rm_add 293 = .ok (.aload_n 0, 1) := by decide +kernel
theorem d_Rm_add_294 : decode b_Rm_add 294 = .ok (.getfield 29, 3) := by decide +kernel
theorem d_Rm_add_297 : decode b_Rm_add 297 = .ok (.aload_n 0, 1) := by decide +kernel
theorem d_Rm_add_298 : decode b_Rm_add 298 = .ok (.getfield 157, 3) := by decide +kernel
theorem d_Rm_add_301 : decode b_Rm_add 301 = .ok (.invokevirtual 338, 3) := by decide +kernel
theorem d_Rm_add_304 : decode b_Rm_add 304 = .ok (.aload_n 0, 1) := by decide +kernel
theorem d_Rm_add_305 : decode b_Rm_add 305 = .ok (.getfield 184, 3) := by decide +kernel
theorem d_Rm_add_308 : decode b_Rm_add 308 = .ok (.aload_n 0, 1) := by decide +kernel
theorem d_Rm_add_309 : decode b_Rm_add 309 = .ok (.getfield 184, 3) := by decide +kernel
theorem d_Rm_add_312 : decode b_Rm_add 312 = .ok (.aload_n 0, 1) := by decide +kernel
theorem d_Rm_add_313 : decode b_Rm_add 313 = .ok (.getfield 163, 3) := by decide +kernel
theorem d_Rm_add_316 : decode b_Rm_add 316 = .ok (.aload_n 0, 1) := by decide +kernel
theorem d_Rm_add_317 : decode b_Rm_add 317 = .ok (.getfield 29, 3) := by decide +kernel
theorem d_Rm_add_320 : decode b_Rm_add 320 = .ok (.invokestatic 304, 3) := by decide +kernel
theorem d_Rm_add_323 : decode b_Rm_add 323 = .ok (.aload_n 0, 1) := by decide +kernel
theorem d_Rm_add_324 : decode b_Rm_add 324 = .ok (.getfield 184, 3) := by decide +kernel
theorem d_Rm_add_327 : decode b_Rm_add 327 = .ok (.aload_n 0, 1) := by decide +kernel
theorem d_Rm_add_328 : decode b_Rm_add 328 = .ok (.getfield 184, 3) := by decide +kernel
theorem d_Rm_add_331 : decode b_Rm_add 331 = .ok (.aload_n 0, 1) := by decide +kernel
theorem d_Rm_add_332 : decode b_Rm_add 332 = .ok (.getfield 169, 3) := by decide +kernel
theorem d_Rm_add_335 : decode b_Rm_add 335 = .ok (.aload_n 0, 1) := by decide +kernel
theorem d_Rm_add_336 : decode b_Rm_add 336 = .ok (.getfield 29, 3) := by decide +kernel
theorem d_Rm_add_339 : decode b_Rm_add 339 = .ok (.invokestatic 304, 3) := by decide +kernel
theorem d_Rm_add_342 : decode b_Rm_add 342 = .ok (.aload_n 0, 1) := by decide +kernel
theorem d_Rm_add_343 : decode b_Rm_add 343 = .ok (.getfield 187, 3) := by decide +kernel
theorem d_Rm_add_346 : decode b_Rm_add 346 = .ok (.aload_n 0, 1) := by decide +kernel
theorem d_Rm_add_347 : decode b_Rm_add 347 = .ok (.getfield 163, 3) := by decide +kernel
theorem d_Rm_add_350 : decode b_Rm_add 350 = .ok (.aload_n 0, 1) := by decide +kernel
theorem d_Rm_add_351 : decode b_Rm_add 351 = .ok (.getfield 184, 3) := by decide +kernel
theorem d_Rm_add_354 : decode b_Rm_add 354 = .ok (.aload_n 0, 1) := by decide +kernel
theorem d_Rm_add_355 : decode b_Rm_add 355 = .ok (.getfield 29, 3) := by decide +kernel
theorem d_Rm_add_358 : decode b_Rm_add 358 = .ok (.invokestatic 304, 3) := by decide +kernel
theorem d_Rm_add_361 : decode b_Rm_add 361 = .ok (.aload_n 0, 1) := by decide +kernel
theorem d_Rm_add_362 : decode b_Rm_add 362 = .ok (.aload_n 0, 1) := by decide +kernel
theorem d_Rm_add_363 : decode b_Rm_add 363 = .ok (.getfield 187, 3) := by decide +kernel
theorem d_Rm_add_366 : decode b_Rm_add 366 = .ok (.aload_n 0, 1) := by decide +kernel
theorem d_Rm_add_367 : decode b_Rm_add 367 = .ok (.getfield 181, 3) := by decide +kernel
theorem d_Rm_add_370 : decode b_Rm_add 370 = .ok (.aload_n 0, 1) := by decide +kernel
theorem d_Rm_add_371 : decode b_Rm_add 371 = .ok (.getfield 187, 3) := by decide +kernel
theorem d_Rm_add_374 : decode b_Rm_add 374 = .ok (.aload_n 0, 1) := by decide +kernel
theorem d_Rm_add_375 : decode b_Rm_add 375 = .ok (.getfield 29, 3) := by decide +kernel
theorem d_Rm_add_378 : decode b_Rm_add 378 = .ok (.aload_n 0, 1) := by decide +kernel
theorem d_Rm_add_379 : decode b_Rm_add 379 = .ok (.getfield 157, 3) := by decide +kernel
theorem d_Rm_add_382 : decode b_Rm_add 382 = .ok (.invokevirtual 338, 3) := by decide +kernel
theorem d_Rm_add_385 : decode b_Rm_add 385 = .ok (.aload_n 0, 1) := by decide +kernel
theorem d_Rm_add_386 : decode b_Rm_add 386 = .ok (.getfield 166, 3) := by decide +kernel
theorem d_Rm_add_389 : decode b_Rm_add 389 = .ok (.aload_n 0, 1) := by decide +kernel
theorem d_Rm_add_390 : decode b_Rm_add 390 = .ok (.getfield 187, 3) := by decide +kernel
theorem d_Rm_add_393 : decode b_Rm_add 393 = .ok (.aload_n 0, 1) := by decide +kernel
theorem d_Rm_add_394 : decode b_Rm_add 394 = .ok (.getfield 166, 3) := by decide +kernel
theorem d_Rm_add_397 : decode b_Rm_add 397 = .ok (.aload_n 0, 1) := by decide +kernel
theorem d_Rm_add_398 : decode b_Rm_add 398 = .ok (.getfield 29, 3) := by decide +kernel
theorem d_Rm_add_401 : decode b_Rm_add 401 = .ok (.invokestatic 304, 3) := by decide +kernel
theorem d_Rm_add_404 : decode b_Rm_add 404 = .ok (.aload_n 0, 1) := by decide +kernel
theorem d_Rm_add_405 : decode b_Rm_add 405 = .ok (.getfield 163, 3) := by decide +kernel
theorem d_Rm_add_408 : decode b_Rm_add 408 = .ok (.aload_n 0, 1) := by decide +kernel
theorem d_Rm_add_409 : decode b_Rm_add 409 = .ok (.getfield 184, 3) := by decide +kernel
theorem d_Rm_add_412 : decode b_Rm_add 412 = .ok (.invokestatic 286, 3) := by decide +kernel
theorem d_Rm_add_415 : decode b_Rm_add 415 = .ok (.return_, 1) := by decide +kernel
theorem fl_Rm_345 : FL "PrimeKeysModel" 345 8 24 := ⟨R_Rm, F_Rm, 50, rfl, u_Rm, by decide, rfl, tb_4 (List.mem_of_getElem? (i := 178) (by decide +kernel)) rfl⟩
theorem fl_Rm_349 : FL "PrimeKeysModel" 349 8 23 := ⟨R_Rm, F_Rm, 50, rfl, u_Rm, by decide, rfl, tb_4 (List.mem_of_getElem? (i := 177) (by decide +kernel)) rfl⟩
theorem fl_Rm_163 : FL "PrimeKeysModel" 163 8 17 := ⟨R_Rm, F_Rm, 50, rfl, u_Rm, by decide, rfl, tb_4 (List.mem_of_getElem? (i := 171) (by decide +kernel)) rfl⟩
theorem fl_Rm_166 : FL "PrimeKeysModel" 166 8 18 := ⟨R_Rm, F_Rm, 50, rfl, u_Rm, by decide, rfl, tb_4 (List.mem_of_getElem? (i := 172) (by decide +kernel)) rfl⟩
theorem fl_Rm_187 : FL "PrimeKeysModel" 187 8 27 := ⟨R_Rm, F_Rm, 50, rfl, u_Rm, by decide, rfl, tb_4 (List.mem_of_getElem? (i := 181) (by decide +kernel)) rfl⟩
theorem fp_Rm_349 : FP "PrimeKeysModel" 349 8 23 .boolean false := ⟨R_Rm, F_Rm, 50, t_Rm, rfl, u_Rm, by decide, rfl, tb_4 (List.mem_of_getElem? (i := 177) (by decide +kernel)) rfl, t_Rm_ok, n_Rm, rfl, by decide +kernel⟩
theorem cd_Rm_352 : CD "PrimeKeysModel" 352 y_Rm_inverse b_Rm_inverse 5 none 3 := ⟨tb_5 (List.mem_of_getElem? (i := 132) rfl) rfl, tb_1 (List.mem_of_getElem? (i := 13) (by decide +kernel)) rfl, tb_5 (List.mem_of_getElem? (i := 129) (by decide +kernel)) rfl, by decide +kernel⟩
theorem kw_in_Rm_inverse : Cond.instanceMethod y_Rm_inverse ∈ TB := tb_5 (List.mem_of_getElem? (i := 131) (by decide +kernel)) rfl
theorem kw_se_Rm_inverse : Cond.selects "PrimeKeysModel" y_Rm_inverse y_Rm_inverse ∈ TB := tb_p (q := (y_Rm_inverse, 50)) (by decide +kernel)
abbrev rm_Rm_add : Room := { frames := 3, cells := 0, slots := 0, locals := 85 }
def B_Rm_add_240 (h : HP) (a0 : Nat) : Option (HP) :=
  bnd (gR h a0 8 27) fun k21 =>
  bnd (gR h a0 8 26) fun k22 =>
  bnd (gR h a0 8 10) fun k23 =>
  ob h a0 8 (
  bnd (P_Rm_inverse h a0 k21 k22 k23) fun h24 =>
  bnd (gR h24 a0 8 25) fun k25 =>
  bnd (gR h24 a0 8 25) fun k26 =>
  bnd (gR h24 a0 8 27) fun k27 =>
  bnd (gR h24 a0 8 10) fun k28 =>
  bnd (gR h24 a0 8 15) fun k29 =>
  ob h24 a0 8 (
  bnd (P_Rm_times h24 a0 k25 k26 k27 k28 k29) fun h30 =>
  bnd (gR h30 a0 8 26) fun k31 =>
  bnd (gR h30 a0 8 25) fun k32 =>
  bnd (gR h30 a0 8 25) fun k33 =>
  bnd (gR h30 a0 8 10) fun k34 =>
  bnd (gR h30 a0 8 15) fun k35 =>
  ob h30 a0 8 (
  bnd (P_Rm_times h30 a0 k31 k32 k33 k34 k35) fun h36 =>
  bnd (gR h36 a0 8 26) fun k37 =>
  bnd (gR h36 a0 8 26) fun k38 =>
  bnd (gR h36 a0 8 17) fun k39 =>
  bnd (gR h36 a0 8 10) fun k40 =>
  bnd (P_Rm_minus h36 k37 k38 k39 k40) fun h41 =>
  bnd (gR h41 a0 8 26) fun k42 =>
  bnd (gR h41 a0 8 26) fun k43 =>
  bnd (gR h41 a0 8 19) fun k44 =>
  bnd (gR h41 a0 8 10) fun k45 =>
  bnd (P_Rm_minus h41 k42 k43 k44 k45) fun h46 =>
  bnd (gR h46 a0 8 27) fun k47 =>
  bnd (gR h46 a0 8 17) fun k48 =>
  bnd (gR h46 a0 8 26) fun k49 =>
  bnd (gR h46 a0 8 10) fun k50 =>
  bnd (P_Rm_minus h46 k47 k48 k49 k50) fun h51 =>
  bnd (gR h51 a0 8 27) fun k52 =>
  bnd (gR h51 a0 8 25) fun k53 =>
  bnd (gR h51 a0 8 27) fun k54 =>
  bnd (gR h51 a0 8 10) fun k55 =>
  bnd (gR h51 a0 8 15) fun k56 =>
  ob h51 a0 8 (
  bnd (P_Rm_times h51 a0 k52 k53 k54 k55 k56) fun h57 =>
  bnd (gR h57 a0 8 18) fun k58 =>
  bnd (gR h57 a0 8 27) fun k59 =>
  bnd (gR h57 a0 8 18) fun k60 =>
  bnd (gR h57 a0 8 10) fun k61 =>
  bnd (P_Rm_minus h57 k58 k59 k60 k61) fun h62 =>
  bnd (gR h62 a0 8 17) fun k63 =>
  bnd (gR h62 a0 8 26) fun k64 =>
  bnd (P_Rm_copy h62 k63 k64) fun h65 =>
  some h65))))
set_option maxHeartbeats 4000000 in
set_option maxRecDepth 100000 in
theorem bk_Rm_add_240 {l : Launch} {x : CX} {h0 h' : HP} (C : EV x b_Rm_add "PrimeKeysModel" 1 rm_Rm_add) (T : CT x (none) rm_Rm_add h0 none h') (hl0 : x.1.2.1 = l) (h : HP) (a0 : Nat) (hr : B_Rm_add_240 h a0 = some h') : GG x 0 0 h 240 [(0, .ref a0)] [] := by
  unfold B_Rm_add_240 at hr
  refine g_aload_n C 0 rfl d_Rm_add_240 rfl ?_
  refine g_aload_n C 0 rfl d_Rm_add_241 rfl ?_
  obtain ⟨k21, ek21, hr⟩ := of_bnd hr
  refine g_getR C fl_Rm_187 ek21 d_Rm_add_242 ?_
  refine g_aload_n C 0 rfl d_Rm_add_245 rfl ?_
  obtain ⟨k22, ek22, hr⟩ := of_bnd hr
  refine g_getR C fl_Rm_184 ek22 d_Rm_add_246 ?_
  refine g_aload_n C 0 rfl d_Rm_add_249 rfl ?_
  obtain ⟨k23, ek23, hr⟩ := of_bnd hr
  refine g_getR C fl_Rm_29 ek23 d_Rm_add_250 ?_
  obtain ⟨fsh24, hoh24, hr⟩ := of_ob hr
  obtain ⟨h24, eh24, hr⟩ := of_bnd hr
  refine g_callV (pa := [.ref k21, .ref k22, .ref k23]) C hl0 (c_Rm_inverse eh24) cd_Rm_352 kw_in_Rm_inverse kw_se_Rm_inverse hoh24 rfl rfl (by decide) rfl rfl (Nat.le_of_ble_eq_true rfl) d_Rm_add_253 ?_
  refine g_aload_n C 0 rfl d_Rm_add_256 rfl ?_
  refine g_aload_n C 0 rfl d_Rm_add_257 rfl ?_
  obtain ⟨k25, ek25, hr⟩ := of_bnd hr
  refine g_getR C fl_Rm_181 ek25 d_Rm_add_258 ?_
  refine g_aload_n C 0 rfl d_Rm_add_261 rfl ?_
  obtain ⟨k26, ek26, hr⟩ := of_bnd hr
  refine g_getR C fl_Rm_181 ek26 d_Rm_add_262 ?_
  refine g_aload_n C 0 rfl d_Rm_add_265 rfl ?_
  obtain ⟨k27, ek27, hr⟩ := of_bnd hr
  refine g_getR C fl_Rm_187 ek27 d_Rm_add_266 ?_
  refine g_aload_n C 0 rfl d_Rm_add_269 rfl ?_
  obtain ⟨k28, ek28, hr⟩ := of_bnd hr
  refine g_getR C fl_Rm_29 ek28 d_Rm_add_270 ?_
  refine g_aload_n C 0 rfl d_Rm_add_273 rfl ?_
  obtain ⟨k29, ek29, hr⟩ := of_bnd hr
  refine g_getR C fl_Rm_157 ek29 d_Rm_add_274 ?_
  obtain ⟨fsh30, hoh30, hr⟩ := of_ob hr
  obtain ⟨h30, eh30, hr⟩ := of_bnd hr
  refine g_callV (pa := [.ref k25, .ref k26, .ref k27, .ref k28, .ref k29]) C hl0 (c_Rm_times eh30) cd_Rm_338 kw_in_Rm_times kw_se_Rm_times hoh30 rfl rfl (by decide) rfl rfl (Nat.le_of_ble_eq_true rfl) d_Rm_add_277 ?_
  refine g_aload_n C 0 rfl d_Rm_add_280 rfl ?_
  refine g_aload_n C 0 rfl d_Rm_add_281 rfl ?_
  obtain ⟨k31, ek31, hr⟩ := of_bnd hr
  refine g_getR C fl_Rm_184 ek31 d_Rm_add_282 ?_
  refine g_aload_n C 0 rfl d_Rm_add_285 rfl ?_
  obtain ⟨k32, ek32, hr⟩ := of_bnd hr
  refine g_getR C fl_Rm_181 ek32 d_Rm_add_286 ?_
  refine g_aload_n C 0 rfl d_Rm_add_289 rfl ?_
  obtain ⟨k33, ek33, hr⟩ := of_bnd hr
  refine g_getR C fl_Rm_181 ek33 d_Rm_add_290 ?_
  refine g_aload_n C 0 rfl d_Rm_add_293 rfl ?_
  obtain ⟨k34, ek34, hr⟩ := of_bnd hr
  refine g_getR C fl_Rm_29 ek34 d_Rm_add_294 ?_
  refine g_aload_n C 0 rfl d_Rm_add_297 rfl ?_
  obtain ⟨k35, ek35, hr⟩ := of_bnd hr
  refine g_getR C fl_Rm_157 ek35 d_Rm_add_298 ?_
  obtain ⟨fsh36, hoh36, hr⟩ := of_ob hr
  obtain ⟨h36, eh36, hr⟩ := of_bnd hr
  refine g_callV (pa := [.ref k31, .ref k32, .ref k33, .ref k34, .ref k35]) C hl0 (c_Rm_times eh36) cd_Rm_338 kw_in_Rm_times kw_se_Rm_times hoh36 rfl rfl (by decide) rfl rfl (Nat.le_of_ble_eq_true rfl) d_Rm_add_301 ?_
  refine g_aload_n C 0 rfl d_Rm_add_304 rfl ?_
  obtain ⟨k37, ek37, hr⟩ := of_bnd hr
  refine g_getR C fl_Rm_184 ek37 d_Rm_add_305 ?_
  refine g_aload_n C 0 rfl d_Rm_add_308 rfl ?_
  obtain ⟨k38, ek38, hr⟩ := of_bnd hr
  refine g_getR C fl_Rm_184 ek38 d_Rm_add_309 ?_
  refine g_aload_n C 0 rfl d_Rm_add_312 rfl ?_
  obtain ⟨k39, ek39, hr⟩ := of_bnd hr
  refine g_getR C fl_Rm_163 ek39 d_Rm_add_313 ?_
  refine g_aload_n C 0 rfl d_Rm_add_316 rfl ?_
  obtain ⟨k40, ek40, hr⟩ := of_bnd hr
  refine g_getR C fl_Rm_29 ek40 d_Rm_add_317 ?_
  obtain ⟨h41, eh41, hr⟩ := of_bnd hr
  refine g_callS (pa := [.ref k37, .ref k38, .ref k39, .ref k40]) C hl0 (c_Rm_minus eh41) cd_Rm_304 kw_st_Rm_minus (by decide) rfl rfl (Nat.le_of_ble_eq_true rfl) d_Rm_add_320 ?_
  refine g_aload_n C 0 rfl d_Rm_add_323 rfl ?_
  obtain ⟨k42, ek42, hr⟩ := of_bnd hr
  refine g_getR C fl_Rm_184 ek42 d_Rm_add_324 ?_
  refine g_aload_n C 0 rfl d_Rm_add_327 rfl ?_
  obtain ⟨k43, ek43, hr⟩ := of_bnd hr
  refine g_getR C fl_Rm_184 ek43 d_Rm_add_328 ?_
  refine g_aload_n C 0 rfl d_Rm_add_331 rfl ?_
  obtain ⟨k44, ek44, hr⟩ := of_bnd hr
  refine g_getR C fl_Rm_169 ek44 d_Rm_add_332 ?_
  refine g_aload_n C 0 rfl d_Rm_add_335 rfl ?_
  obtain ⟨k45, ek45, hr⟩ := of_bnd hr
  refine g_getR C fl_Rm_29 ek45 d_Rm_add_336 ?_
  obtain ⟨h46, eh46, hr⟩ := of_bnd hr
  refine g_callS (pa := [.ref k42, .ref k43, .ref k44, .ref k45]) C hl0 (c_Rm_minus eh46) cd_Rm_304 kw_st_Rm_minus (by decide) rfl rfl (Nat.le_of_ble_eq_true rfl) d_Rm_add_339 ?_
  refine g_aload_n C 0 rfl d_Rm_add_342 rfl ?_
  obtain ⟨k47, ek47, hr⟩ := of_bnd hr
  refine g_getR C fl_Rm_187 ek47 d_Rm_add_343 ?_
  refine g_aload_n C 0 rfl d_Rm_add_346 rfl ?_
  obtain ⟨k48, ek48, hr⟩ := of_bnd hr
  refine g_getR C fl_Rm_163 ek48 d_Rm_add_347 ?_
  refine g_aload_n C 0 rfl d_Rm_add_350 rfl ?_
  obtain ⟨k49, ek49, hr⟩ := of_bnd hr
  refine g_getR C fl_Rm_184 ek49 d_Rm_add_351 ?_
  refine g_aload_n C 0 rfl d_Rm_add_354 rfl ?_
  obtain ⟨k50, ek50, hr⟩ := of_bnd hr
  refine g_getR C fl_Rm_29 ek50 d_Rm_add_355 ?_
  obtain ⟨h51, eh51, hr⟩ := of_bnd hr
  refine g_callS (pa := [.ref k47, .ref k48, .ref k49, .ref k50]) C hl0 (c_Rm_minus eh51) cd_Rm_304 kw_st_Rm_minus (by decide) rfl rfl (Nat.le_of_ble_eq_true rfl) d_Rm_add_358 ?_
  refine g_aload_n C 0 rfl d_Rm_add_361 rfl ?_
  refine g_aload_n C 0 rfl d_Rm_add_362 rfl ?_
  obtain ⟨k52, ek52, hr⟩ := of_bnd hr
  refine g_getR C fl_Rm_187 ek52 d_Rm_add_363 ?_
  refine g_aload_n C 0 rfl d_Rm_add_366 rfl ?_
  obtain ⟨k53, ek53, hr⟩ := of_bnd hr
  refine g_getR C fl_Rm_181 ek53 d_Rm_add_367 ?_
  refine g_aload_n C 0 rfl d_Rm_add_370 rfl ?_
  obtain ⟨k54, ek54, hr⟩ := of_bnd hr
  refine g_getR C fl_Rm_187 ek54 d_Rm_add_371 ?_
  refine g_aload_n C 0 rfl d_Rm_add_374 rfl ?_
  obtain ⟨k55, ek55, hr⟩ := of_bnd hr
  refine g_getR C fl_Rm_29 ek55 d_Rm_add_375 ?_
  refine g_aload_n C 0 rfl d_Rm_add_378 rfl ?_
  obtain ⟨k56, ek56, hr⟩ := of_bnd hr
  refine g_getR C fl_Rm_157 ek56 d_Rm_add_379 ?_
  obtain ⟨fsh57, hoh57, hr⟩ := of_ob hr
  obtain ⟨h57, eh57, hr⟩ := of_bnd hr
  refine g_callV (pa := [.ref k52, .ref k53, .ref k54, .ref k55, .ref k56]) C hl0 (c_Rm_times eh57) cd_Rm_338 kw_in_Rm_times kw_se_Rm_times hoh57 rfl rfl (by decide) rfl rfl (Nat.le_of_ble_eq_true rfl) d_Rm_add_382 ?_
  refine g_aload_n C 0 rfl d_Rm_add_385 rfl ?_
  obtain ⟨k58, ek58, hr⟩ := of_bnd hr
  refine g_getR C fl_Rm_166 ek58 d_Rm_add_386 ?_
  refine g_aload_n C 0 rfl d_Rm_add_389 rfl ?_
  obtain ⟨k59, ek59, hr⟩ := of_bnd hr
  refine g_getR C fl_Rm_187 ek59 d_Rm_add_390 ?_
  refine g_aload_n C 0 rfl d_Rm_add_393 rfl ?_
  obtain ⟨k60, ek60, hr⟩ := of_bnd hr
  refine g_getR C fl_Rm_166 ek60 d_Rm_add_394 ?_
  refine g_aload_n C 0 rfl d_Rm_add_397 rfl ?_
  obtain ⟨k61, ek61, hr⟩ := of_bnd hr
  refine g_getR C fl_Rm_29 ek61 d_Rm_add_398 ?_
  obtain ⟨h62, eh62, hr⟩ := of_bnd hr
  refine g_callS (pa := [.ref k58, .ref k59, .ref k60, .ref k61]) C hl0 (c_Rm_minus eh62) cd_Rm_304 kw_st_Rm_minus (by decide) rfl rfl (Nat.le_of_ble_eq_true rfl) d_Rm_add_401 ?_
  refine g_aload_n C 0 rfl d_Rm_add_404 rfl ?_
  obtain ⟨k63, ek63, hr⟩ := of_bnd hr
  refine g_getR C fl_Rm_163 ek63 d_Rm_add_405 ?_
  refine g_aload_n C 0 rfl d_Rm_add_408 rfl ?_
  obtain ⟨k64, ek64, hr⟩ := of_bnd hr
  refine g_getR C fl_Rm_184 ek64 d_Rm_add_409 ?_
  obtain ⟨h65, eh65, hr⟩ := of_bnd hr
  refine g_callS (pa := [.ref k63, .ref k64]) C hl0 (c_Rm_copy eh65) cd_Rm_286 kw_st_Rm_copy (by decide) rfl rfl (Nat.le_of_ble_eq_true rfl) d_Rm_add_412 ?_
  cases hr
  exact g_vreturn C T (by decide) (by decide) d_Rm_add_415
def B_Rm_add_77 (h : HP) (a0 : Nat) : Option (HP) :=
  bnd (gR h a0 8 17) fun k7 =>
  bnd (gR h a0 8 19) fun k8 =>
  bnd2 (P_Rm_alike h k7 k8) fun v10 h9 =>
  if v10 = 0 then
  bnd (gR h9 a0 8 25) fun k11 =>
  bnd (gR h9 a0 8 20) fun k12 =>
  bnd (gR h9 a0 8 18) fun k13 =>
  bnd (gR h9 a0 8 10) fun k14 =>
  bnd (P_Rm_minus h9 k11 k12 k13 k14) fun h15 =>
  bnd (gR h15 a0 8 26) fun k16 =>
  bnd (gR h15 a0 8 19) fun k17 =>
  bnd (gR h15 a0 8 17) fun k18 =>
  bnd (gR h15 a0 8 10) fun k19 =>
  bnd (P_Rm_minus h15 k16 k17 k18 k19) fun h20 =>
  B_Rm_add_240 h20 a0
  else
  bnd (gR h9 a0 8 25) fun k66 =>
  bnd (gR h9 a0 8 17) fun k67 =>
  bnd (gR h9 a0 8 17) fun k68 =>
  bnd (gR h9 a0 8 10) fun k69 =>
  bnd (gR h9 a0 8 15) fun k70 =>
  ob h9 a0 8 (
  bnd (P_Rm_times h9 a0 k66 k67 k68 k69 k70) fun h71 =>
  bnd (gR h71 a0 8 26) fun k72 =>
  bnd (P_Rm_set h71 k72 1) fun h73 =>
  bnd (gR h73 a0 8 25) fun k74 =>
  bnd (gR h73 a0 8 25) fun k75 =>
  bnd (gR h73 a0 8 26) fun k76 =>
  bnd (gR h73 a0 8 10) fun k77 =>
  bnd (P_Rm_minus h73 k74 k75 k76 k77) fun h78 =>
  bnd (gR h78 a0 8 26) fun k79 =>
  bnd (gR h78 a0 8 25) fun k80 =>
  bnd (gR h78 a0 8 25) fun k81 =>
  bnd (gR h78 a0 8 10) fun k82 =>
  bnd (P_Rm_plus h78 k79 k80 k81 k82) fun h83 =>
  bnd (gR h83 a0 8 25) fun k84 =>
  bnd (gR h83 a0 8 25) fun k85 =>
  bnd (gR h83 a0 8 26) fun k86 =>
  bnd (gR h83 a0 8 10) fun k87 =>
  bnd (P_Rm_plus h83 k84 k85 k86 k87) fun h88 =>
  bnd (gR h88 a0 8 26) fun k89 =>
  bnd (gR h88 a0 8 18) fun k90 =>
  bnd (gR h88 a0 8 18) fun k91 =>
  bnd (gR h88 a0 8 10) fun k92 =>
  bnd (P_Rm_plus h88 k89 k90 k91 k92) fun h93 =>
  B_Rm_add_240 h93 a0)
set_option maxHeartbeats 4000000 in
set_option maxRecDepth 100000 in
theorem bk_Rm_add_77 {l : Launch} {x : CX} {h0 h' : HP} (C : EV x b_Rm_add "PrimeKeysModel" 1 rm_Rm_add) (T : CT x (none) rm_Rm_add h0 none h') (hl0 : x.1.2.1 = l) (h : HP) (a0 : Nat) (hr : B_Rm_add_77 h a0 = some h') : GG x 0 0 h 77 [(0, .ref a0)] [] := by
  unfold B_Rm_add_77 at hr
  refine g_aload_n C 0 rfl d_Rm_add_77 rfl ?_
  obtain ⟨k7, ek7, hr⟩ := of_bnd hr
  refine g_getR C fl_Rm_163 ek7 d_Rm_add_78 ?_
  refine g_aload_n C 0 rfl d_Rm_add_81 rfl ?_
  obtain ⟨k8, ek8, hr⟩ := of_bnd hr
  refine g_getR C fl_Rm_169 ek8 d_Rm_add_82 ?_
  obtain ⟨v10, h9, eh9, hr⟩ := of_bnd2 hr
  refine g_callS (pa := [.ref k7, .ref k8]) C hl0 (c_Rm_alike eh9) cd_Rm_342 kw_st_Rm_alike (by decide) rfl rfl (Nat.le_of_ble_eq_true rfl) d_Rm_add_85 ?_
  refine g_if_eq (tgt := 202) C d_Rm_add_88 (by decide) (fun z => ?_) (fun z => ?_)
  · have hr := of_if z hr
    refine g_aload_n C 0 rfl d_Rm_add_202 rfl ?_
    obtain ⟨k11, ek11, hr⟩ := of_bnd hr
    refine g_getR C fl_Rm_181 ek11 d_Rm_add_203 ?_
    refine g_aload_n C 0 rfl d_Rm_add_206 rfl ?_
    obtain ⟨k12, ek12, hr⟩ := of_bnd hr
    refine g_getR C fl_Rm_172 ek12 d_Rm_add_207 ?_
    refine g_aload_n C 0 rfl d_Rm_add_210 rfl ?_
    obtain ⟨k13, ek13, hr⟩ := of_bnd hr
    refine g_getR C fl_Rm_166 ek13 d_Rm_add_211 ?_
    refine g_aload_n C 0 rfl d_Rm_add_214 rfl ?_
    obtain ⟨k14, ek14, hr⟩ := of_bnd hr
    refine g_getR C fl_Rm_29 ek14 d_Rm_add_215 ?_
    obtain ⟨h15, eh15, hr⟩ := of_bnd hr
    refine g_callS (pa := [.ref k11, .ref k12, .ref k13, .ref k14]) C hl0 (c_Rm_minus eh15) cd_Rm_304 kw_st_Rm_minus (by decide) rfl rfl (Nat.le_of_ble_eq_true rfl) d_Rm_add_218 ?_
    refine g_aload_n C 0 rfl d_Rm_add_221 rfl ?_
    obtain ⟨k16, ek16, hr⟩ := of_bnd hr
    refine g_getR C fl_Rm_184 ek16 d_Rm_add_222 ?_
    refine g_aload_n C 0 rfl d_Rm_add_225 rfl ?_
    obtain ⟨k17, ek17, hr⟩ := of_bnd hr
    refine g_getR C fl_Rm_169 ek17 d_Rm_add_226 ?_
    refine g_aload_n C 0 rfl d_Rm_add_229 rfl ?_
    obtain ⟨k18, ek18, hr⟩ := of_bnd hr
    refine g_getR C fl_Rm_163 ek18 d_Rm_add_230 ?_
    refine g_aload_n C 0 rfl d_Rm_add_233 rfl ?_
    obtain ⟨k19, ek19, hr⟩ := of_bnd hr
    refine g_getR C fl_Rm_29 ek19 d_Rm_add_234 ?_
    obtain ⟨h20, eh20, hr⟩ := of_bnd hr
    refine g_callS (pa := [.ref k16, .ref k17, .ref k18, .ref k19]) C hl0 (c_Rm_minus eh20) cd_Rm_304 kw_st_Rm_minus (by decide) rfl rfl (Nat.le_of_ble_eq_true rfl) d_Rm_add_237 ?_
    exact bk_Rm_add_240 C T hl0 h20 a0 hr
  · have hr := of_el z hr
    refine g_aload_n C 0 rfl d_Rm_add_91 rfl ?_
    refine g_aload_n C 0 rfl d_Rm_add_92 rfl ?_
    obtain ⟨k66, ek66, hr⟩ := of_bnd hr
    refine g_getR C fl_Rm_181 ek66 d_Rm_add_93 ?_
    refine g_aload_n C 0 rfl d_Rm_add_96 rfl ?_
    obtain ⟨k67, ek67, hr⟩ := of_bnd hr
    refine g_getR C fl_Rm_163 ek67 d_Rm_add_97 ?_
    refine g_aload_n C 0 rfl d_Rm_add_100 rfl ?_
    obtain ⟨k68, ek68, hr⟩ := of_bnd hr
    refine g_getR C fl_Rm_163 ek68 d_Rm_add_101 ?_
    refine g_aload_n C 0 rfl d_Rm_add_104 rfl ?_
    obtain ⟨k69, ek69, hr⟩ := of_bnd hr
    refine g_getR C fl_Rm_29 ek69 d_Rm_add_105 ?_
    refine g_aload_n C 0 rfl d_Rm_add_108 rfl ?_
    obtain ⟨k70, ek70, hr⟩ := of_bnd hr
    refine g_getR C fl_Rm_157 ek70 d_Rm_add_109 ?_
    obtain ⟨fsh71, hoh71, hr⟩ := of_ob hr
    obtain ⟨h71, eh71, hr⟩ := of_bnd hr
    refine g_callV (pa := [.ref k66, .ref k67, .ref k68, .ref k69, .ref k70]) C hl0 (c_Rm_times eh71) cd_Rm_338 kw_in_Rm_times kw_se_Rm_times hoh71 rfl rfl (by decide) rfl rfl (Nat.le_of_ble_eq_true rfl) d_Rm_add_112 ?_
    refine g_aload_n C 0 rfl d_Rm_add_115 rfl ?_
    obtain ⟨k72, ek72, hr⟩ := of_bnd hr
    refine g_getR C fl_Rm_184 ek72 d_Rm_add_116 ?_
    refine g_iconst (v := 1) C d_Rm_add_119 (by decide) ?_
    obtain ⟨h73, eh73, hr⟩ := of_bnd hr
    refine g_callS (pa := [.ref k72, .int 1]) C hl0 (c_Rm_set eh73) cd_Rm_275 kw_st_Rm_set (by decide) rfl rfl (Nat.le_of_ble_eq_true rfl) d_Rm_add_120 ?_
    refine g_aload_n C 0 rfl d_Rm_add_123 rfl ?_
    obtain ⟨k74, ek74, hr⟩ := of_bnd hr
    refine g_getR C fl_Rm_181 ek74 d_Rm_add_124 ?_
    refine g_aload_n C 0 rfl d_Rm_add_127 rfl ?_
    obtain ⟨k75, ek75, hr⟩ := of_bnd hr
    refine g_getR C fl_Rm_181 ek75 d_Rm_add_128 ?_
    refine g_aload_n C 0 rfl d_Rm_add_131 rfl ?_
    obtain ⟨k76, ek76, hr⟩ := of_bnd hr
    refine g_getR C fl_Rm_184 ek76 d_Rm_add_132 ?_
    refine g_aload_n C 0 rfl d_Rm_add_135 rfl ?_
    obtain ⟨k77, ek77, hr⟩ := of_bnd hr
    refine g_getR C fl_Rm_29 ek77 d_Rm_add_136 ?_
    obtain ⟨h78, eh78, hr⟩ := of_bnd hr
    refine g_callS (pa := [.ref k74, .ref k75, .ref k76, .ref k77]) C hl0 (c_Rm_minus eh78) cd_Rm_304 kw_st_Rm_minus (by decide) rfl rfl (Nat.le_of_ble_eq_true rfl) d_Rm_add_139 ?_
    refine g_aload_n C 0 rfl d_Rm_add_142 rfl ?_
    obtain ⟨k79, ek79, hr⟩ := of_bnd hr
    refine g_getR C fl_Rm_184 ek79 d_Rm_add_143 ?_
    refine g_aload_n C 0 rfl d_Rm_add_146 rfl ?_
    obtain ⟨k80, ek80, hr⟩ := of_bnd hr
    refine g_getR C fl_Rm_181 ek80 d_Rm_add_147 ?_
    refine g_aload_n C 0 rfl d_Rm_add_150 rfl ?_
    obtain ⟨k81, ek81, hr⟩ := of_bnd hr
    refine g_getR C fl_Rm_181 ek81 d_Rm_add_151 ?_
    refine g_aload_n C 0 rfl d_Rm_add_154 rfl ?_
    obtain ⟨k82, ek82, hr⟩ := of_bnd hr
    refine g_getR C fl_Rm_29 ek82 d_Rm_add_155 ?_
    obtain ⟨h83, eh83, hr⟩ := of_bnd hr
    refine g_callS (pa := [.ref k79, .ref k80, .ref k81, .ref k82]) C hl0 (c_Rm_plus eh83) cd_Rm_279 kw_st_Rm_plus (by decide) rfl rfl (Nat.le_of_ble_eq_true rfl) d_Rm_add_158 ?_
    refine g_aload_n C 0 rfl d_Rm_add_161 rfl ?_
    obtain ⟨k84, ek84, hr⟩ := of_bnd hr
    refine g_getR C fl_Rm_181 ek84 d_Rm_add_162 ?_
    refine g_aload_n C 0 rfl d_Rm_add_165 rfl ?_
    obtain ⟨k85, ek85, hr⟩ := of_bnd hr
    refine g_getR C fl_Rm_181 ek85 d_Rm_add_166 ?_
    refine g_aload_n C 0 rfl d_Rm_add_169 rfl ?_
    obtain ⟨k86, ek86, hr⟩ := of_bnd hr
    refine g_getR C fl_Rm_184 ek86 d_Rm_add_170 ?_
    refine g_aload_n C 0 rfl d_Rm_add_173 rfl ?_
    obtain ⟨k87, ek87, hr⟩ := of_bnd hr
    refine g_getR C fl_Rm_29 ek87 d_Rm_add_174 ?_
    obtain ⟨h88, eh88, hr⟩ := of_bnd hr
    refine g_callS (pa := [.ref k84, .ref k85, .ref k86, .ref k87]) C hl0 (c_Rm_plus eh88) cd_Rm_279 kw_st_Rm_plus (by decide) rfl rfl (Nat.le_of_ble_eq_true rfl) d_Rm_add_177 ?_
    refine g_aload_n C 0 rfl d_Rm_add_180 rfl ?_
    obtain ⟨k89, ek89, hr⟩ := of_bnd hr
    refine g_getR C fl_Rm_184 ek89 d_Rm_add_181 ?_
    refine g_aload_n C 0 rfl d_Rm_add_184 rfl ?_
    obtain ⟨k90, ek90, hr⟩ := of_bnd hr
    refine g_getR C fl_Rm_166 ek90 d_Rm_add_185 ?_
    refine g_aload_n C 0 rfl d_Rm_add_188 rfl ?_
    obtain ⟨k91, ek91, hr⟩ := of_bnd hr
    refine g_getR C fl_Rm_166 ek91 d_Rm_add_189 ?_
    refine g_aload_n C 0 rfl d_Rm_add_192 rfl ?_
    obtain ⟨k92, ek92, hr⟩ := of_bnd hr
    refine g_getR C fl_Rm_29 ek92 d_Rm_add_193 ?_
    obtain ⟨h93, eh93, hr⟩ := of_bnd hr
    refine g_callS (pa := [.ref k89, .ref k90, .ref k91, .ref k92]) C hl0 (c_Rm_plus eh93) cd_Rm_279 kw_st_Rm_plus (by decide) rfl rfl (Nat.le_of_ble_eq_true rfl) d_Rm_add_196 ?_
    refine g_goto (tgt := 240) C d_Rm_add_199 (by decide) ?_
    exact bk_Rm_add_240 C T hl0 h93 a0 hr
def P_Rm_add (h : HP) (p0 : Nat) : Option (HP) :=
  bnd (gI h p0 8 24) fun v1 =>
  if v1 = 0 then
  bnd (gI h p0 8 23) fun v2 =>
  if v2 = 0 then
  bnd (gR h p0 8 17) fun k3 =>
  bnd (gR h p0 8 19) fun k4 =>
  bnd2 (P_Rm_alike h k3 k4) fun v6 h5 =>
  if v6 = 0 then
  B_Rm_add_77 h5 p0
  else
  bnd (gR h5 p0 8 18) fun k94 =>
  bnd (gR h5 p0 8 20) fun k95 =>
  bnd2 (P_Rm_alike h5 k94 k95) fun v97 h96 =>
  if v97 = 0 then
  bnd (pZ h96 p0 8 23 1) fun h98 =>
  some h98
  else
  B_Rm_add_77 h96 p0
  else
  bnd (gR h p0 8 17) fun k99 =>
  bnd (gR h p0 8 19) fun k100 =>
  bnd (P_Rm_copy h k99 k100) fun h101 =>
  bnd (gR h101 p0 8 18) fun k102 =>
  bnd (gR h101 p0 8 20) fun k103 =>
  bnd (P_Rm_copy h101 k102 k103) fun h104 =>
  bnd (pZ h104 p0 8 23 0) fun h105 =>
  some h105
  else
  some h
set_option maxHeartbeats 4000000 in
set_option maxRecDepth 100000 in
theorem c_Rm_add {l : Launch} {h h' : HP} {p0 : _} (hr : P_Rm_add h p0 = some h') : MP l y_Rm_add (Cond.code y_Rm_add b_Rm_add 1 none :: TB) rm_Rm_add h [.ref p0] none h' := by
  refine MP_intro (cc := b_Rm_add) (by decide) (Nat.le_of_ble_eq_true rfl) (fun x hl0 C T hin => ?_)
  unfold P_Rm_add at hr
  show GG x 0 0 h 0 [(0, .ref p0)] []
  refine g_aload_n C 0 rfl d_Rm_add_0 rfl ?_
  obtain ⟨v1, ev1, hr⟩ := of_bnd hr
  refine g_getI C fl_Rm_345 ev1 d_Rm_add_1 ?_
  refine g_if_eq (tgt := 8) C d_Rm_add_4 (by decide) (fun z => ?_) (fun z => ?_)
  · have hr := of_if z hr
    refine g_aload_n C 0 rfl d_Rm_add_8 rfl ?_
    obtain ⟨v2, ev2, hr⟩ := of_bnd hr
    refine g_getI C fl_Rm_349 ev2 d_Rm_add_9 ?_
    refine g_if_eq (tgt := 43) C d_Rm_add_12 (by decide) (fun z => ?_) (fun z => ?_)
    · have hr := of_if z hr
      refine g_aload_n C 0 rfl d_Rm_add_43 rfl ?_
      obtain ⟨k3, ek3, hr⟩ := of_bnd hr
      refine g_getR C fl_Rm_163 ek3 d_Rm_add_44 ?_
      refine g_aload_n C 0 rfl d_Rm_add_47 rfl ?_
      obtain ⟨k4, ek4, hr⟩ := of_bnd hr
      refine g_getR C fl_Rm_169 ek4 d_Rm_add_48 ?_
      obtain ⟨v6, h5, eh5, hr⟩ := of_bnd2 hr
      refine g_callS (pa := [.ref k3, .ref k4]) C hl0 (c_Rm_alike eh5) cd_Rm_342 kw_st_Rm_alike (by decide) rfl rfl (Nat.le_of_ble_eq_true rfl) d_Rm_add_51 ?_
      refine g_if_eq (tgt := 77) C d_Rm_add_54 (by decide) (fun z => ?_) (fun z => ?_)
      · have hr := of_if z hr
        exact bk_Rm_add_77 C T hl0 h5 p0 hr
      · have hr := of_el z hr
        refine g_aload_n C 0 rfl d_Rm_add_57 rfl ?_
        obtain ⟨k94, ek94, hr⟩ := of_bnd hr
        refine g_getR C fl_Rm_166 ek94 d_Rm_add_58 ?_
        refine g_aload_n C 0 rfl d_Rm_add_61 rfl ?_
        obtain ⟨k95, ek95, hr⟩ := of_bnd hr
        refine g_getR C fl_Rm_172 ek95 d_Rm_add_62 ?_
        obtain ⟨v97, h96, eh96, hr⟩ := of_bnd2 hr
        refine g_callS (pa := [.ref k94, .ref k95]) C hl0 (c_Rm_alike eh96) cd_Rm_342 kw_st_Rm_alike (by decide) rfl rfl (Nat.le_of_ble_eq_true rfl) d_Rm_add_65 ?_
        refine g_if_ne (tgt := 77) C d_Rm_add_68 (by decide) (fun z => ?_) (fun z => ?_)
        · have hr := of_el z hr
          exact bk_Rm_add_77 C T hl0 h96 p0 hr
        · have hr := of_if z hr
          refine g_aload_n C 0 rfl d_Rm_add_71 rfl ?_
          refine g_iconst (v := 1) C d_Rm_add_72 (by decide) ?_
          obtain ⟨h98, eh98, hr⟩ := of_bnd hr
          refine g_putZ C fp_Rm_349 eh98 d_Rm_add_73 ?_
          cases hr
          exact g_vreturn C T (by decide) (by decide) d_Rm_add_76
    · have hr := of_el z hr
      refine g_aload_n C 0 rfl d_Rm_add_15 rfl ?_
      obtain ⟨k99, ek99, hr⟩ := of_bnd hr
      refine g_getR C fl_Rm_163 ek99 d_Rm_add_16 ?_
      refine g_aload_n C 0 rfl d_Rm_add_19 rfl ?_
      obtain ⟨k100, ek100, hr⟩ := of_bnd hr
      refine g_getR C fl_Rm_169 ek100 d_Rm_add_20 ?_
      obtain ⟨h101, eh101, hr⟩ := of_bnd hr
      refine g_callS (pa := [.ref k99, .ref k100]) C hl0 (c_Rm_copy eh101) cd_Rm_286 kw_st_Rm_copy (by decide) rfl rfl (Nat.le_of_ble_eq_true rfl) d_Rm_add_23 ?_
      refine g_aload_n C 0 rfl d_Rm_add_26 rfl ?_
      obtain ⟨k102, ek102, hr⟩ := of_bnd hr
      refine g_getR C fl_Rm_166 ek102 d_Rm_add_27 ?_
      refine g_aload_n C 0 rfl d_Rm_add_30 rfl ?_
      obtain ⟨k103, ek103, hr⟩ := of_bnd hr
      refine g_getR C fl_Rm_172 ek103 d_Rm_add_31 ?_
      obtain ⟨h104, eh104, hr⟩ := of_bnd hr
      refine g_callS (pa := [.ref k102, .ref k103]) C hl0 (c_Rm_copy eh104) cd_Rm_286 kw_st_Rm_copy (by decide) rfl rfl (Nat.le_of_ble_eq_true rfl) d_Rm_add_34 ?_
      refine g_aload_n C 0 rfl d_Rm_add_37 rfl ?_
      refine g_iconst (v := 0) C d_Rm_add_38 (by decide) ?_
      obtain ⟨h105, eh105, hr⟩ := of_bnd hr
      refine g_putZ C fp_Rm_349 eh105 d_Rm_add_39 ?_
      cases hr
      exact g_vreturn C T (by decide) (by decide) d_Rm_add_42
  · have hr := of_el z hr
    cases hr
    exact g_vreturn C T (by decide) (by decide) d_Rm_add_7
abbrev b_Rm_multiply : ByteArray := prog_12_method_33_code
abbrev y_Rm_multiply : MethodName := ⟨"PrimeKeysModel", "multiply", "([J)V"⟩
theorem d_Rm_multiply_0 : decode b_Rm_multiply 0 = .ok (.aload_n 0, 1) := by decide +kernel
theorem d_Rm_multiply_1 : decode b_Rm_multiply 1 = .ok (.getfield 175, 3) := by decide +kernel
theorem d_Rm_multiply_4 : decode b_Rm_multiply 4 = .ok (.aload_n 0, 1) := by decide +kernel
theorem d_Rm_multiply_5 : decode b_Rm_multiply 5 = .ok (.getfield 169, 3) := by decide +kernel
theorem d_Rm_multiply_8 : decode b_Rm_multiply 8 = .ok (.invokestatic 286, 3) := by decide +kernel
theorem d_Rm_multiply_11 : decode b_Rm_multiply 11 = .ok (.aload_n 0, 1) := by decide +kernel
theorem d_Rm_multiply_12 : decode b_Rm_multiply 12 = .ok (.getfield 178, 3) := by decide +kernel
theorem d_Rm_multiply_15 : decode b_Rm_multiply 15 = .ok (.aload_n 0, 1) := by decide +kernel
theorem d_Rm_multiply_16 : decode b_Rm_multiply 16 = .ok (.getfield 172, 3) := by decide +kernel
theorem d_Rm_multiply_19 : decode b_Rm_multiply 19 = .ok (.invokestatic 286, 3) := by decide +kernel
theorem d_Rm_multiply_22 : decode b_Rm_multiply 22 = .ok (.aload_n 0, 1) := by decide +kernel
theorem d_Rm_multiply_23 : decode b_Rm_multiply 23 = .ok (.iconst 1, 1) := by decide +kernel
theorem d_Rm_multiply_24 : decode b_Rm_multiply 24 = .ok (.putfield 349, 3) := by decide +kernel
theorem d_Rm_multiply_27 : decode b_Rm_multiply 27 = .ok (.sipush 255, 3) := by decide +kernel
theorem d_Rm_multiply_30 : decode b_Rm_multiply 30 = .ok (.istore_n 2, 1) := by decide +kernel
theorem d_Rm_multiply_31 : decode b_Rm_multiply 31 = .ok (.iload_n 2, 1) := by decide +kernel
theorem d_Rm_multiply_32 : decode b_Rm_multiply 32 = .ok (.ifCond .lt 85, 3) := by decide +kernel
theorem d_Rm_multiply_35 : decode b_Rm_multiply 35 = .ok (.aload_n 0, 1) := by decide +kernel
theorem d_Rm_multiply_36 : decode b_Rm_multiply 36 = .ok (.getfield 169, 3) := by decide +kernel
theorem d_Rm_multiply_39 : decode b_Rm_multiply 39 = .ok (.aload_n 0, 1) := by decide +kernel
theorem d_Rm_multiply_40 : decode b_Rm_multiply 40 = .ok (.getfield 163, 3) := by decide +kernel
theorem d_Rm_multiply_43 : decode b_Rm_multiply 43 = .ok (.invokestatic 286, 3) := by decide +kernel
theorem d_Rm_multiply_46 : decode b_Rm_multiply 46 = .ok (.aload_n 0, 1) := by decide +kernel
theorem d_Rm_multiply_47 : decode b_Rm_multiply 47 = .ok (.getfield 172, 3) := by decide +kernel
theorem d_Rm_multiply_50 : decode b_Rm_multiply 50 = .ok (.aload_n 0, 1) := by decide +kernel
theorem d_Rm_multiply_51 : decode b_Rm_multiply 51 = .ok (.getfield 166, 3) := by decide +kernel
theorem d_Rm_multiply_54 : decode b_Rm_multiply 54 = .ok (.invokestatic 286, 3) := by decide +kernel
theorem d_Rm_multiply_57 : decode b_Rm_multiply 57 = .ok (.aload_n 0, 1) := by decide +kernel
theorem d_Rm_multiply_58 : decode b_Rm_multiply 58 = .ok (.aload_n 0, 1) := by decide +kernel
theorem d_Rm_multiply_59 : decode b_Rm_multiply 59 = .ok (.getfield 349, 3) := by decide +kernel
theorem d_Rm_multiply_62 : decode b_Rm_multiply 62 = .ok (.putfield 345, 3) := by decide +kernel
theorem d_Rm_multiply_65 : decode b_Rm_multiply 65 = .ok (.aload_n 0, 1) := by decide +kernel
theorem d_Rm_multiply_66 : decode b_Rm_multiply 66 = .ok (.invokevirtual 355, 3) := by decide +kernel
theorem d_Rm_multiply_69 : decode b_Rm_multiply 69 = .ok (.aload_n 1, 1) := by decide +kernel
theorem d_Rm_multiply_70 : decode b_Rm_multiply 70 = .ok (.iload_n 2, 1) := by decide +kernel
theorem d_Rm_multiply_71 : decode b_Rm_multiply 71 = .ok (.invokestatic 358, 3) := by decide +kernel
theorem d_Rm_multiply_74 : decode b_Rm_multiply 74 = .ok (.ifCond .ne 6, 3) := by decide +kernel
theorem d_Rm_multiply_77 : decode b_Rm_multiply 77 = .ok (.goto 34, 3) := by decide +kernel
theorem d_Rm_multiply_80 : decode b_Rm_multiply 80 = .ok (.aload_n 0, 1) := by decide +kernel
theorem d_Rm_multiply_81 : decode b_Rm_multiply 81 = .ok (.getfield 169, 3) := by decide +kernel
theorem d_Rm_multiply_84 : decode b_Rm_multiply 84 = .ok (.aload_n 0, 1) := by decide +kernel
theorem d_Rm_multiply_85 : decode b_Rm_multiply 85 = .ok (.getfield 175, 3) := by decide +kernel
theorem d_Rm_multiply_88 : decode b_Rm_multiply 88 = .ok (.invokestatic 286, 3) := by decide +kernel
theorem d_Rm_multiply_91 : decode b_Rm_multiply 91 = .ok (.aload_n 0, 1) := by decide +kernel
theorem d_Rm_multiply_92 : decode b_Rm_multiply 92 = .ok (.getfield 172, 3) := by decide +kernel
theorem d_Rm_multiply_95 : decode b_Rm_multiply 95 = .ok (.aload_n 0, 1) := by decide +kernel
theorem d_Rm_multiply_96 : decode b_Rm_multiply 96 = .ok (.getfield 178, 3) := by decide +kernel
theorem d_Rm_multiply_99 : decode b_Rm_multiply 99 = .ok (.invokestatic 286, 3) := by decide +kernel
theorem d_Rm_multiply_102 : decode b_Rm_multiply 102 = .ok (.aload_n 0, 1) := by decide +kernel
theorem d_Rm_multiply_103 : decode b_Rm_multiply 103 = .ok (.iconst 0, 1) := by decide +kernel
theorem d_Rm_multiply_104 : decode b_Rm_multiply 104 = .ok (.putfield 345, 3) := by decide +kernel
theorem d_Rm_multiply_107 : decode b_Rm_multiply 107 = .ok (.aload_n 0, 1) := by decide +kernel
theorem d_Rm_multiply_108 : decode b_Rm_multiply 108 = .ok (.invokevirtual 355, 3) := by decide +kernel
theorem d_Rm_multiply_111 : decode b_Rm_multiply 111 = .ok (.iinc 2 (-1), 3) := by decide +kernel
theorem d_Rm_multiply_114 : decode b_Rm_multiply 114 = .ok (.goto (-83), 3) := by decide +kernel
theorem d_Rm_multiply_117 : decode b_Rm_multiply 117 = .ok (.aload_n 0, 1) := by decide +kernel
theorem d_Rm_multiply_118 : decode b_Rm_multiply 118 = .ok (.getfield 169, 3) := by decide +kernel
theorem d_Rm_multiply_121 : decode b_Rm_multiply 121 = .ok (.aload_n 0, 1) := by decide +kernel
theorem d_Rm_multiply_122 : decode b_Rm_multiply 122 = .ok (.getfield 175, 3) := by decide +kernel
theorem d_Rm_multiply_125 : decode b_Rm_multiply 125 = .ok (.invokestatic 286, 3) := by decide +kernel
theorem d_Rm_multiply_128 : decode b_Rm_multiply 128 = .ok (.aload_n 0, 1) := by decide +kernel
theorem d_Rm_multiply_129 : decode b_Rm_multiply 129 = .ok (.getfield 172, 3) := by decide +kernel
theorem d_Rm_multiply_132 : decode b_Rm_multiply 132 = .ok (.aload_n 0, 1) := by decide +kernel
theorem d_Rm_multiply_133 : decode b_Rm_multiply 133 = .ok (.getfield 178, 3) := by decide +kernel
theorem d_Rm_multiply_136 : decode b_Rm_multiply 136 = .ok (.invokestatic 286, 3) := by decide +kernel
theorem d_Rm_multiply_139 : decode b_Rm_multiply 139 = .ok (.aload_n 0, 1) := by decide +kernel
theorem d_Rm_multiply_140 : decode b_Rm_multiply 140 = .ok (.iconst 0, 1) := by decide +kernel
theorem d_Rm_multiply_141 : decode b_Rm_multiply 141 = .ok (.putfield 345, 3) := by decide +kernel
theorem d_Rm_multiply_144 : decode b_Rm_multiply 144 = .ok (.return_, 1) := by decide +kernel
theorem fl_Rm_175 : FL "PrimeKeysModel" 175 8 21 := ⟨R_Rm, F_Rm, 50, rfl, u_Rm, by decide, rfl, tb_4 (List.mem_of_getElem? (i := 175) (by decide +kernel)) rfl⟩
theorem fl_Rm_178 : FL "PrimeKeysModel" 178 8 22 := ⟨R_Rm, F_Rm, 50, rfl, u_Rm, by decide, rfl, tb_4 (List.mem_of_getElem? (i := 176) (by decide +kernel)) rfl⟩
theorem fp_Rm_345 : FP "PrimeKeysModel" 345 8 24 .boolean false := ⟨R_Rm, F_Rm, 50, t_Rm, rfl, u_Rm, by decide, rfl, tb_4 (List.mem_of_getElem? (i := 178) (by decide +kernel)) rfl, t_Rm_ok, n_Rm, rfl, by decide +kernel⟩
theorem cd_Rm_355 : CD "PrimeKeysModel" 355 y_Rm_add b_Rm_add 1 none 0 := ⟨tb_5 (List.mem_of_getElem? (i := 114) rfl) rfl, tb_1 (List.mem_of_getElem? (i := 13) (by decide +kernel)) rfl, tb_5 (List.mem_of_getElem? (i := 111) (by decide +kernel)) rfl, by decide +kernel⟩
theorem kw_in_Rm_add : Cond.instanceMethod y_Rm_add ∈ TB := tb_5 (List.mem_of_getElem? (i := 113) (by decide +kernel)) rfl
theorem kw_se_Rm_add : Cond.selects "PrimeKeysModel" y_Rm_add y_Rm_add ∈ TB := tb_p (q := (y_Rm_add, 50)) (by decide +kernel)
theorem cd_Rm_358 : CD "PrimeKeysModel" 358 y_Rm_bit b_Rm_bit 2 (some .int) 2 := ⟨tb_5 (List.mem_of_getElem? (i := 144) rfl) rfl, tb_1 (List.mem_of_getElem? (i := 13) (by decide +kernel)) rfl, tb_5 (List.mem_of_getElem? (i := 142) (by decide +kernel)) rfl, by decide +kernel⟩
theorem kw_st_Rm_bit : Cond.static y_Rm_bit ∈ TB := tb_5 (List.mem_of_getElem? (i := 143) (by decide +kernel)) rfl
abbrev rm_Rm_multiply : Room := { frames := 4, cells := 0, slots := 0, locals := 105 }
def B_Rm_multiply_111 (K31 : HP → Nat → Nat → Int32 → Option (HP)) (h : HP) (a0 : Nat) (a1 : Nat) (a2 : Int32) : Option (HP) :=
  lt (a2 + Int32.ofInt (-1)) fun x34 =>
  K31 h a0 a1 x34
set_option maxHeartbeats 4000000 in
set_option maxRecDepth 100000 in
theorem bk_Rm_multiply_111 {l : Launch} {x : CX} {h0 h' : HP} (C : EV x b_Rm_multiply "PrimeKeysModel" 3 rm_Rm_multiply) (T : CT x (none) rm_Rm_multiply h0 none h') (hl0 : x.1.2.1 = l) (K31 : HP → Nat → Nat → Int32 → Option (HP)) (hK31 : ∀ (h : HP) (a0 : Nat) (a1 : Nat) (a2 : Int32), K31 h a0 a1 a2 = some h' → GG x 0 0 h 31 [(0, .ref a0), (1, .ref a1), (2, .int a2)] []) (h : HP) (a0 : Nat) (a1 : Nat) (a2 : Int32) (hr : B_Rm_multiply_111 K31 h a0 a1 a2 = some h') : GG x 0 0 h 111 [(0, .ref a0), (1, .ref a1), (2, .int a2)] [] := by
  unfold B_Rm_multiply_111 at hr
  obtain ⟨x34, ex34⟩ : ∃ z, z = a2 + Int32.ofInt (-1) := ⟨_, rfl⟩
  have hr := of_lt ex34 hr
  refine g_iinc (lv' := [(2, .int x34), (0, .ref a0), (1, .ref a1)]) C 2 rfl d_Rm_multiply_111 ex34.symm (by decide) rfl ?_
  refine g_goto (tgt := 31) C d_Rm_multiply_114 (by decide) ?_
  refine g_lv [1, 2, 0] rfl ?_
  exact hK31 h a0 a1 x34 hr
def B_Rm_multiply_31 (K31 : HP → Nat → Nat → Int32 → Option (HP)) (h : HP) (a0 : Nat) (a1 : Nat) (a2 : Int32) : Option (HP) :=
  if a2 < 0 then
  bnd (gR h a0 8 19) fun k8 =>
  bnd (gR h a0 8 21) fun k9 =>
  bnd (P_Rm_copy h k8 k9) fun h10 =>
  bnd (gR h10 a0 8 20) fun k11 =>
  bnd (gR h10 a0 8 22) fun k12 =>
  bnd (P_Rm_copy h10 k11 k12) fun h13 =>
  bnd (pZ h13 a0 8 24 0) fun h14 =>
  some h14
  else
  bnd (gR h a0 8 19) fun k15 =>
  bnd (gR h a0 8 17) fun k16 =>
  bnd (P_Rm_copy h k15 k16) fun h17 =>
  bnd (gR h17 a0 8 20) fun k18 =>
  bnd (gR h17 a0 8 18) fun k19 =>
  bnd (P_Rm_copy h17 k18 k19) fun h20 =>
  bnd (gI h20 a0 8 23) fun v21 =>
  bnd (pZ h20 a0 8 24 v21) fun h22 =>
  ob h22 a0 8 (
  bnd (P_Rm_add h22 a0) fun h23 =>
  bnd2 (P_Rm_bit h23 a1 a2) fun v25 h24 =>
  if v25 = 0 then
  B_Rm_multiply_111 K31 h24 a0 a1 a2
  else
  bnd (gR h24 a0 8 19) fun k26 =>
  bnd (gR h24 a0 8 21) fun k27 =>
  bnd (P_Rm_copy h24 k26 k27) fun h28 =>
  bnd (gR h28 a0 8 20) fun k29 =>
  bnd (gR h28 a0 8 22) fun k30 =>
  bnd (P_Rm_copy h28 k29 k30) fun h31 =>
  bnd (pZ h31 a0 8 24 0) fun h32 =>
  ob h32 a0 8 (
  bnd (P_Rm_add h32 a0) fun h33 =>
  B_Rm_multiply_111 K31 h33 a0 a1 a2))
set_option maxHeartbeats 4000000 in
set_option maxRecDepth 100000 in
theorem bk_Rm_multiply_31 {l : Launch} {x : CX} {h0 h' : HP} (C : EV x b_Rm_multiply "PrimeKeysModel" 3 rm_Rm_multiply) (T : CT x (none) rm_Rm_multiply h0 none h') (hl0 : x.1.2.1 = l) (K31 : HP → Nat → Nat → Int32 → Option (HP)) (hK31 : ∀ (h : HP) (a0 : Nat) (a1 : Nat) (a2 : Int32), K31 h a0 a1 a2 = some h' → GG x 0 0 h 31 [(0, .ref a0), (1, .ref a1), (2, .int a2)] []) (h : HP) (a0 : Nat) (a1 : Nat) (a2 : Int32) (hr : B_Rm_multiply_31 K31 h a0 a1 a2 = some h') : GG x 0 0 h 31 [(0, .ref a0), (1, .ref a1), (2, .int a2)] [] := by
  unfold B_Rm_multiply_31 at hr
  refine g_iload_n C 2 rfl d_Rm_multiply_31 rfl ?_
  refine g_if_lt (tgt := 117) C d_Rm_multiply_32 (by decide) (fun z => ?_) (fun z => ?_)
  · have hr := of_if z hr
    refine g_aload_n C 0 rfl d_Rm_multiply_117 rfl ?_
    obtain ⟨k8, ek8, hr⟩ := of_bnd hr
    refine g_getR C fl_Rm_169 ek8 d_Rm_multiply_118 ?_
    refine g_aload_n C 0 rfl d_Rm_multiply_121 rfl ?_
    obtain ⟨k9, ek9, hr⟩ := of_bnd hr
    refine g_getR C fl_Rm_175 ek9 d_Rm_multiply_122 ?_
    obtain ⟨h10, eh10, hr⟩ := of_bnd hr
    refine g_callS (pa := [.ref k8, .ref k9]) C hl0 (c_Rm_copy eh10) cd_Rm_286 kw_st_Rm_copy (by decide) rfl rfl (Nat.le_of_ble_eq_true rfl) d_Rm_multiply_125 ?_
    refine g_aload_n C 0 rfl d_Rm_multiply_128 rfl ?_
    obtain ⟨k11, ek11, hr⟩ := of_bnd hr
    refine g_getR C fl_Rm_172 ek11 d_Rm_multiply_129 ?_
    refine g_aload_n C 0 rfl d_Rm_multiply_132 rfl ?_
    obtain ⟨k12, ek12, hr⟩ := of_bnd hr
    refine g_getR C fl_Rm_178 ek12 d_Rm_multiply_133 ?_
    obtain ⟨h13, eh13, hr⟩ := of_bnd hr
    refine g_callS (pa := [.ref k11, .ref k12]) C hl0 (c_Rm_copy eh13) cd_Rm_286 kw_st_Rm_copy (by decide) rfl rfl (Nat.le_of_ble_eq_true rfl) d_Rm_multiply_136 ?_
    refine g_aload_n C 0 rfl d_Rm_multiply_139 rfl ?_
    refine g_iconst (v := 0) C d_Rm_multiply_140 (by decide) ?_
    obtain ⟨h14, eh14, hr⟩ := of_bnd hr
    refine g_putZ C fp_Rm_345 eh14 d_Rm_multiply_141 ?_
    cases hr
    exact g_vreturn C T (by decide) (by decide) d_Rm_multiply_144
  · have hr := of_el z hr
    refine g_aload_n C 0 rfl d_Rm_multiply_35 rfl ?_
    obtain ⟨k15, ek15, hr⟩ := of_bnd hr
    refine g_getR C fl_Rm_169 ek15 d_Rm_multiply_36 ?_
    refine g_aload_n C 0 rfl d_Rm_multiply_39 rfl ?_
    obtain ⟨k16, ek16, hr⟩ := of_bnd hr
    refine g_getR C fl_Rm_163 ek16 d_Rm_multiply_40 ?_
    obtain ⟨h17, eh17, hr⟩ := of_bnd hr
    refine g_callS (pa := [.ref k15, .ref k16]) C hl0 (c_Rm_copy eh17) cd_Rm_286 kw_st_Rm_copy (by decide) rfl rfl (Nat.le_of_ble_eq_true rfl) d_Rm_multiply_43 ?_
    refine g_aload_n C 0 rfl d_Rm_multiply_46 rfl ?_
    obtain ⟨k18, ek18, hr⟩ := of_bnd hr
    refine g_getR C fl_Rm_172 ek18 d_Rm_multiply_47 ?_
    refine g_aload_n C 0 rfl d_Rm_multiply_50 rfl ?_
    obtain ⟨k19, ek19, hr⟩ := of_bnd hr
    refine g_getR C fl_Rm_166 ek19 d_Rm_multiply_51 ?_
    obtain ⟨h20, eh20, hr⟩ := of_bnd hr
    refine g_callS (pa := [.ref k18, .ref k19]) C hl0 (c_Rm_copy eh20) cd_Rm_286 kw_st_Rm_copy (by decide) rfl rfl (Nat.le_of_ble_eq_true rfl) d_Rm_multiply_54 ?_
    refine g_aload_n C 0 rfl d_Rm_multiply_57 rfl ?_
    refine g_aload_n C 0 rfl d_Rm_multiply_58 rfl ?_
    obtain ⟨v21, ev21, hr⟩ := of_bnd hr
    refine g_getI C fl_Rm_349 ev21 d_Rm_multiply_59 ?_
    obtain ⟨h22, eh22, hr⟩ := of_bnd hr
    refine g_putZ C fp_Rm_345 eh22 d_Rm_multiply_62 ?_
    refine g_aload_n C 0 rfl d_Rm_multiply_65 rfl ?_
    obtain ⟨fsh23, hoh23, hr⟩ := of_ob hr
    obtain ⟨h23, eh23, hr⟩ := of_bnd hr
    refine g_callV (pa := []) C hl0 (c_Rm_add eh23) cd_Rm_355 kw_in_Rm_add kw_se_Rm_add hoh23 rfl rfl (by decide) rfl rfl (Nat.le_of_ble_eq_true rfl) d_Rm_multiply_66 ?_
    refine g_aload_n C 1 rfl d_Rm_multiply_69 rfl ?_
    refine g_iload_n C 2 rfl d_Rm_multiply_70 rfl ?_
    obtain ⟨v25, h24, eh24, hr⟩ := of_bnd2 hr
    refine g_callS (pa := [.ref a1, .int a2]) C hl0 (c_Rm_bit eh24) cd_Rm_358 kw_st_Rm_bit (by decide) rfl rfl (Nat.le_of_ble_eq_true rfl) d_Rm_multiply_71 ?_
    refine g_if_ne (tgt := 80) C d_Rm_multiply_74 (by decide) (fun z => ?_) (fun z => ?_)
    · have hr := of_el z hr
      refine g_aload_n C 0 rfl d_Rm_multiply_80 rfl ?_
      obtain ⟨k26, ek26, hr⟩ := of_bnd hr
      refine g_getR C fl_Rm_169 ek26 d_Rm_multiply_81 ?_
      refine g_aload_n C 0 rfl d_Rm_multiply_84 rfl ?_
      obtain ⟨k27, ek27, hr⟩ := of_bnd hr
      refine g_getR C fl_Rm_175 ek27 d_Rm_multiply_85 ?_
      obtain ⟨h28, eh28, hr⟩ := of_bnd hr
      refine g_callS (pa := [.ref k26, .ref k27]) C hl0 (c_Rm_copy eh28) cd_Rm_286 kw_st_Rm_copy (by decide) rfl rfl (Nat.le_of_ble_eq_true rfl) d_Rm_multiply_88 ?_
      refine g_aload_n C 0 rfl d_Rm_multiply_91 rfl ?_
      obtain ⟨k29, ek29, hr⟩ := of_bnd hr
      refine g_getR C fl_Rm_172 ek29 d_Rm_multiply_92 ?_
      refine g_aload_n C 0 rfl d_Rm_multiply_95 rfl ?_
      obtain ⟨k30, ek30, hr⟩ := of_bnd hr
      refine g_getR C fl_Rm_178 ek30 d_Rm_multiply_96 ?_
      obtain ⟨h31, eh31, hr⟩ := of_bnd hr
      refine g_callS (pa := [.ref k29, .ref k30]) C hl0 (c_Rm_copy eh31) cd_Rm_286 kw_st_Rm_copy (by decide) rfl rfl (Nat.le_of_ble_eq_true rfl) d_Rm_multiply_99 ?_
      refine g_aload_n C 0 rfl d_Rm_multiply_102 rfl ?_
      refine g_iconst (v := 0) C d_Rm_multiply_103 (by decide) ?_
      obtain ⟨h32, eh32, hr⟩ := of_bnd hr
      refine g_putZ C fp_Rm_345 eh32 d_Rm_multiply_104 ?_
      refine g_aload_n C 0 rfl d_Rm_multiply_107 rfl ?_
      obtain ⟨fsh33, hoh33, hr⟩ := of_ob hr
      obtain ⟨h33, eh33, hr⟩ := of_bnd hr
      refine g_callV (pa := []) C hl0 (c_Rm_add eh33) cd_Rm_355 kw_in_Rm_add kw_se_Rm_add hoh33 rfl rfl (by decide) rfl rfl (Nat.le_of_ble_eq_true rfl) d_Rm_multiply_108 ?_
      exact bk_Rm_multiply_111 C T hl0 K31 hK31 h33 a0 a1 a2 hr
    · have hr := of_if z hr
      refine g_goto (tgt := 111) C d_Rm_multiply_77 (by decide) ?_
      exact bk_Rm_multiply_111 C T hl0 K31 hK31 h24 a0 a1 a2 hr
def L_Rm_multiply_31 : Nat → HP → Nat → Nat → Int32 → Option (HP)
  | 0, _, _, _, _ => none
  | f + 1, h, a0, a1, a2 => B_Rm_multiply_31 (L_Rm_multiply_31 f) h a0 a1 a2
theorem lp_Rm_multiply_31 {l : Launch} {x : CX} {h0 h' : HP} (C : EV x b_Rm_multiply "PrimeKeysModel" 3 rm_Rm_multiply) (T : CT x (none) rm_Rm_multiply h0 none h') (hl0 : x.1.2.1 = l) : ∀ (f : Nat) (h : HP) (a0 : Nat) (a1 : Nat) (a2 : Int32), L_Rm_multiply_31 f h a0 a1 a2 = some h' → GG x 0 0 h 31 [(0, .ref a0), (1, .ref a1), (2, .int a2)] [] := by
  intro f
  induction f with
  | zero => intro h a0 a1 a2 hr; have hr : (none : Option (HP)) = some h' := hr; cases hr
  | succ f ih => intro h a0 a1 a2 hr; exact bk_Rm_multiply_31 C T hl0 (L_Rm_multiply_31 f) ih h a0 a1 a2 hr
def P_Rm_multiply (h : HP) (p0 : Nat) (p1 : Nat) : Option (HP) :=
  bnd (gR h p0 8 21) fun k1 =>
  bnd (gR h p0 8 19) fun k2 =>
  bnd (P_Rm_copy h k1 k2) fun h3 =>
  bnd (gR h3 p0 8 22) fun k4 =>
  bnd (gR h3 p0 8 20) fun k5 =>
  bnd (P_Rm_copy h3 k4 k5) fun h6 =>
  bnd (pZ h6 p0 8 23 1) fun h7 =>
  L_Rm_multiply_31 FU h7 p0 p1 255
set_option maxHeartbeats 4000000 in
set_option maxRecDepth 100000 in
theorem c_Rm_multiply {l : Launch} {h h' : HP} {p0 p1 : _} (hr : P_Rm_multiply h p0 p1 = some h') : MP l y_Rm_multiply (Cond.code y_Rm_multiply b_Rm_multiply 3 none :: TB) rm_Rm_multiply h [.ref p0, .ref p1] none h' := by
  refine MP_intro (cc := b_Rm_multiply) (by decide) (Nat.le_of_ble_eq_true rfl) (fun x hl0 C T hin => ?_)
  unfold P_Rm_multiply at hr
  show GG x 0 0 h 0 [(0, .ref p0), (1, .ref p1)] []
  refine g_aload_n C 0 rfl d_Rm_multiply_0 rfl ?_
  obtain ⟨k1, ek1, hr⟩ := of_bnd hr
  refine g_getR C fl_Rm_175 ek1 d_Rm_multiply_1 ?_
  refine g_aload_n C 0 rfl d_Rm_multiply_4 rfl ?_
  obtain ⟨k2, ek2, hr⟩ := of_bnd hr
  refine g_getR C fl_Rm_169 ek2 d_Rm_multiply_5 ?_
  obtain ⟨h3, eh3, hr⟩ := of_bnd hr
  refine g_callS (pa := [.ref k1, .ref k2]) C hl0 (c_Rm_copy eh3) cd_Rm_286 kw_st_Rm_copy (by decide) rfl rfl (Nat.le_of_ble_eq_true rfl) d_Rm_multiply_8 ?_
  refine g_aload_n C 0 rfl d_Rm_multiply_11 rfl ?_
  obtain ⟨k4, ek4, hr⟩ := of_bnd hr
  refine g_getR C fl_Rm_178 ek4 d_Rm_multiply_12 ?_
  refine g_aload_n C 0 rfl d_Rm_multiply_15 rfl ?_
  obtain ⟨k5, ek5, hr⟩ := of_bnd hr
  refine g_getR C fl_Rm_172 ek5 d_Rm_multiply_16 ?_
  obtain ⟨h6, eh6, hr⟩ := of_bnd hr
  refine g_callS (pa := [.ref k4, .ref k5]) C hl0 (c_Rm_copy eh6) cd_Rm_286 kw_st_Rm_copy (by decide) rfl rfl (Nat.le_of_ble_eq_true rfl) d_Rm_multiply_19 ?_
  refine g_aload_n C 0 rfl d_Rm_multiply_22 rfl ?_
  refine g_iconst (v := 1) C d_Rm_multiply_23 (by decide) ?_
  obtain ⟨h7, eh7, hr⟩ := of_bnd hr
  refine g_putZ C fp_Rm_349 eh7 d_Rm_multiply_24 ?_
  refine g_sipush (v := 255) C d_Rm_multiply_27 (by decide) ?_
  refine g_istore_n (lv' := [(2, .int 255), (0, .ref p0), (1, .ref p1)]) C d_Rm_multiply_30 rfl (by decide) rfl ?_
  refine g_lv [1, 2, 0] rfl ?_
  exact lp_Rm_multiply_31 C T hl0 FU h7 p0 p1 255 hr
abbrev b_Rm_fromBase : ByteArray := prog_12_method_34_code
abbrev y_Rm_fromBase : MethodName := ⟨"PrimeKeysModel", "fromBase", "([J)V"⟩
theorem d_Rm_fromBase_0 : decode b_Rm_fromBase 0 = .ok (.aload_n 0, 1) := by decide +kernel
theorem d_Rm_fromBase_1 : decode b_Rm_fromBase 1 = .ok (.getfield 169, 3) := by decide +kernel
theorem d_Rm_fromBase_4 : decode b_Rm_fromBase 4 = .ok (.aload_n 0, 1) := by decide +kernel
theorem d_Rm_fromBase_5 : decode b_Rm_fromBase 5 = .ok (.getfield 119, 3) := by decide +kernel
theorem d_Rm_fromBase_8 : decode b_Rm_fromBase 8 = .ok (.invokestatic 286, 3) := by decide +kernel
theorem d_Rm_fromBase_11 : decode b_Rm_fromBase 11 = .ok (.aload_n 0, 1) := by decide +kernel
theorem d_Rm_fromBase_12 : decode b_Rm_fromBase 12 = .ok (.getfield 172, 3) := by decide +kernel
theorem d_Rm_fromBase_15 : decode b_Rm_fromBase 15 = .ok (.aload_n 0, 1) := by decide +kernel
theorem d_Rm_fromBase_16 : decode b_Rm_fromBase 16 = .ok (.getfield 154, 3) := by decide +kernel
theorem d_Rm_fromBase_19 : decode b_Rm_fromBase 19 = .ok (.invokestatic 286, 3) := by decide +kernel
theorem d_Rm_fromBase_22 : decode b_Rm_fromBase 22 = .ok (.aload_n 0, 1) := by decide +kernel
theorem d_Rm_fromBase_23 : decode b_Rm_fromBase 23 = .ok (.aload_n 1, 1) := by decide +kernel
theorem d_Rm_fromBase_24 : decode b_Rm_fromBase 24 = .ok (.invokevirtual 362, 3) := by decide +kernel
theorem d_Rm_fromBase_27 : decode b_Rm_fromBase 27 = .ok (.return_, 1) := by decide +kernel
theorem fl_Rm_119 : FL "PrimeKeysModel" 119 8 13 := ⟨R_Rm, F_Rm, 50, rfl, u_Rm, by decide, rfl, tb_4 (List.mem_of_getElem? (i := 167) (by decide +kernel)) rfl⟩
theorem fl_Rm_154 : FL "PrimeKeysModel" 154 8 14 := ⟨R_Rm, F_Rm, 50, rfl, u_Rm, by decide, rfl, tb_4 (List.mem_of_getElem? (i := 168) (by decide +kernel)) rfl⟩
theorem cd_Rm_362 : CD "PrimeKeysModel" 362 y_Rm_multiply b_Rm_multiply 3 none 1 := ⟨tb_5 (List.mem_of_getElem? (i := 110) rfl) rfl, tb_1 (List.mem_of_getElem? (i := 13) (by decide +kernel)) rfl, tb_5 (List.mem_of_getElem? (i := 107) (by decide +kernel)) rfl, by decide +kernel⟩
theorem kw_in_Rm_multiply : Cond.instanceMethod y_Rm_multiply ∈ TB := tb_5 (List.mem_of_getElem? (i := 109) (by decide +kernel)) rfl
theorem kw_se_Rm_multiply : Cond.selects "PrimeKeysModel" y_Rm_multiply y_Rm_multiply ∈ TB := tb_p (q := (y_Rm_multiply, 50)) (by decide +kernel)
abbrev rm_Rm_fromBase : Room := { frames := 5, cells := 0, slots := 0, locals := 127 }
def P_Rm_fromBase (h : HP) (p0 : Nat) (p1 : Nat) : Option (HP) :=
  bnd (gR h p0 8 19) fun k1 =>
  bnd (gR h p0 8 13) fun k2 =>
  bnd (P_Rm_copy h k1 k2) fun h3 =>
  bnd (gR h3 p0 8 20) fun k4 =>
  bnd (gR h3 p0 8 14) fun k5 =>
  bnd (P_Rm_copy h3 k4 k5) fun h6 =>
  ob h6 p0 8 (
  bnd (P_Rm_multiply h6 p0 p1) fun h7 =>
  some h7)
set_option maxHeartbeats 4000000 in
set_option maxRecDepth 100000 in
theorem c_Rm_fromBase {l : Launch} {h h' : HP} {p0 p1 : _} (hr : P_Rm_fromBase h p0 p1 = some h') : MP l y_Rm_fromBase (Cond.code y_Rm_fromBase b_Rm_fromBase 2 none :: TB) rm_Rm_fromBase h [.ref p0, .ref p1] none h' := by
  refine MP_intro (cc := b_Rm_fromBase) (by decide) (Nat.le_of_ble_eq_true rfl) (fun x hl0 C T hin => ?_)
  unfold P_Rm_fromBase at hr
  show GG x 0 0 h 0 [(0, .ref p0), (1, .ref p1)] []
  refine g_aload_n C 0 rfl d_Rm_fromBase_0 rfl ?_
  obtain ⟨k1, ek1, hr⟩ := of_bnd hr
  refine g_getR C fl_Rm_169 ek1 d_Rm_fromBase_1 ?_
  refine g_aload_n C 0 rfl d_Rm_fromBase_4 rfl ?_
  obtain ⟨k2, ek2, hr⟩ := of_bnd hr
  refine g_getR C fl_Rm_119 ek2 d_Rm_fromBase_5 ?_
  obtain ⟨h3, eh3, hr⟩ := of_bnd hr
  refine g_callS (pa := [.ref k1, .ref k2]) C hl0 (c_Rm_copy eh3) cd_Rm_286 kw_st_Rm_copy (by decide) rfl rfl (Nat.le_of_ble_eq_true rfl) d_Rm_fromBase_8 ?_
  refine g_aload_n C 0 rfl d_Rm_fromBase_11 rfl ?_
  obtain ⟨k4, ek4, hr⟩ := of_bnd hr
  refine g_getR C fl_Rm_172 ek4 d_Rm_fromBase_12 ?_
  refine g_aload_n C 0 rfl d_Rm_fromBase_15 rfl ?_
  obtain ⟨k5, ek5, hr⟩ := of_bnd hr
  refine g_getR C fl_Rm_154 ek5 d_Rm_fromBase_16 ?_
  obtain ⟨h6, eh6, hr⟩ := of_bnd hr
  refine g_callS (pa := [.ref k4, .ref k5]) C hl0 (c_Rm_copy eh6) cd_Rm_286 kw_st_Rm_copy (by decide) rfl rfl (Nat.le_of_ble_eq_true rfl) d_Rm_fromBase_19 ?_
  refine g_aload_n C 0 rfl d_Rm_fromBase_22 rfl ?_
  refine g_aload_n C 1 rfl d_Rm_fromBase_23 rfl ?_
  obtain ⟨fsh7, hoh7, hr⟩ := of_ob hr
  obtain ⟨h7, eh7, hr⟩ := of_bnd hr
  refine g_callV (pa := [.ref p1]) C hl0 (c_Rm_multiply eh7) cd_Rm_362 kw_in_Rm_multiply kw_se_Rm_multiply hoh7 rfl rfl (by decide) rfl rfl (Nat.le_of_ble_eq_true rfl) d_Rm_fromBase_24 ?_
  cases hr
  exact g_vreturn C T (by decide) (by decide) d_Rm_fromBase_27
abbrev b_Rm_hashed : ByteArray := prog_12_method_35_code
abbrev y_Rm_hashed : MethodName := ⟨"PrimeKeysModel", "hashed", "()V"⟩
theorem d_Rm_hashed_0 : decode b_Rm_hashed 0 = .ok (.aload_n 0, 1) := by decide +kernel
theorem d_Rm_hashed_1 : decode b_Rm_hashed 1 = .ok (.aload_n 0, 1) := by decide +kernel
theorem d_Rm_hashed_2 : decode b_Rm_hashed 2 = .ok (.getfield 14, 3) := by decide +kernel
theorem d_Rm_hashed_5 : decode b_Rm_hashed 5 = .ok (.aload_n 0, 1) := by decide +kernel
theorem d_Rm_hashed_6 : decode b_Rm_hashed 6 = .ok (.getfield 365, 3) := by decide +kernel
theorem d_Rm_hashed_9 : decode b_Rm_hashed 9 = .ok (.invokevirtual 368, 3) := by decide +kernel
theorem d_Rm_hashed_12 : decode b_Rm_hashed 12 = .ok (.aload_n 0, 1) := by decide +kernel
theorem d_Rm_hashed_13 : decode b_Rm_hashed 13 = .ok (.getfield 190, 3) := by decide +kernel
theorem d_Rm_hashed_16 : decode b_Rm_hashed 16 = .ok (.aload_n 0, 1) := by decide +kernel
theorem d_Rm_hashed_17 : decode b_Rm_hashed 17 = .ok (.getfield 254, 3) := by decide +kernel
theorem d_Rm_hashed_20 : decode b_Rm_hashed 20 = .ok (.iconst 0, 1) := by decide +kernel
theorem d_Rm_hashed_21 : decode b_Rm_hashed 21 = .ok (.invokestatic 372, 3) := by decide +kernel
theorem d_Rm_hashed_24 : decode b_Rm_hashed 24 = .ok (.aload_n 0, 1) := by decide +kernel
theorem d_Rm_hashed_25 : decode b_Rm_hashed 25 = .ok (.getfield 190, 3) := by decide +kernel
theorem d_Rm_hashed_28 : decode b_Rm_hashed 28 = .ok (.aload_n 0, 1) := by decide +kernel
theorem d_Rm_hashed_29 : decode b_Rm_hashed 29 = .ok (.getfield 49, 3) := by decide +kernel
theorem d_Rm_hashed_32 : decode b_Rm_hashed 32 = .ok (.invokestatic 268, 3) := by decide +kernel
theorem d_Rm_hashed_35 : decode b_Rm_hashed 35 = .ok (.ifCond .ne 18, 3) := by decide +kernel
theorem d_Rm_hashed_38 : decode b_Rm_hashed 38 = .ok (.aload_n 0, 1) := by decide +kernel
theorem d_Rm_hashed_39 : decode b_Rm_hashed 39 = .ok (.getfield 190, 3) := by decide +kernel
theorem d_Rm_hashed_42 : decode b_Rm_hashed 42 = .ok (.aload_n 0, 1) := by decide +kernel
theorem d_Rm_hashed_43 : decode b_Rm_hashed 43 = .ok (.getfield 190, 3) := by decide +kernel
theorem d_Rm_hashed_46 : decode b_Rm_hashed 46 = .ok (.aload_n 0, 1) := by decide +kernel
theorem d_Rm_hashed_47 : decode b_Rm_hashed 47 = .ok (.getfield 49, 3) := by decide +kernel
theorem d_Rm_hashed_50 : decode b_Rm_hashed 50 = .ok (.invokestatic 272, 3) := by decide +kernel
theorem d_Rm_hashed_53 : decode b_Rm_hashed 53 = .ok (.return_, 1) := by decide +kernel
theorem fl_Rm_14 : FL "PrimeKeysModel" 14 8 2 := ⟨R_Rm, F_Rm, 50, rfl, u_Rm, by decide, rfl, tb_4 (List.mem_of_getElem? (i := 156) (by decide +kernel)) rfl⟩
theorem fl_Rm_365 : FL "PrimeKeysModel" 365 8 6 := ⟨R_Rm, F_Rm, 50, rfl, u_Rm, by decide, rfl, tb_4 (List.mem_of_getElem? (i := 160) (by decide +kernel)) rfl⟩
theorem fl_Rm_190 : FL "PrimeKeysModel" 190 8 28 := ⟨R_Rm, F_Rm, 50, rfl, u_Rm, by decide, rfl, tb_4 (List.mem_of_getElem? (i := 182) (by decide +kernel)) rfl⟩
theorem fl_Rm_49 : FL "PrimeKeysModel" 49 8 11 := ⟨R_Rm, F_Rm, 50, rfl, u_Rm, by decide, rfl, tb_4 (List.mem_of_getElem? (i := 165) (by decide +kernel)) rfl⟩
theorem cd_Rm_372 : CD "PrimeKeysModel" 372 y_Rm_load b_Rm_load 4 none 3 := ⟨tb_5 (List.mem_of_getElem? (i := 88) rfl) rfl, tb_1 (List.mem_of_getElem? (i := 13) (by decide +kernel)) rfl, tb_5 (List.mem_of_getElem? (i := 86) (by decide +kernel)) rfl, by decide +kernel⟩
theorem kw_st_Rm_load : Cond.static y_Rm_load ∈ TB := tb_5 (List.mem_of_getElem? (i := 87) (by decide +kernel)) rfl
theorem cd_Rm_368 : CD "PrimeKeysModel" 368 y_Rm_hash b_Rm_hash 7 none 2 := ⟨tb_5 (List.mem_of_getElem? (i := 175) rfl) rfl, tb_1 (List.mem_of_getElem? (i := 13) (by decide +kernel)) rfl, tb_5 (List.mem_of_getElem? (i := 172) (by decide +kernel)) rfl, by decide +kernel⟩
theorem kw_in_Rm_hash : Cond.instanceMethod y_Rm_hash ∈ TB := tb_5 (List.mem_of_getElem? (i := 174) (by decide +kernel)) rfl
theorem kw_se_Rm_hash : Cond.selects "PrimeKeysModel" y_Rm_hash y_Rm_hash ∈ TB := tb_p (q := (y_Rm_hash, 50)) (by decide +kernel)
abbrev rm_Rm_hashed : Room := { frames := 3, cells := 0, slots := 0, locals := 78 }
def B_Rm_hashed_53 (h : HP) : Option (HP) :=
  some h
set_option maxHeartbeats 4000000 in
set_option maxRecDepth 100000 in
theorem bk_Rm_hashed_53 {l : Launch} {x : CX} {h0 h' : HP} (C : EV x b_Rm_hashed "PrimeKeysModel" 1 rm_Rm_hashed) (T : CT x (none) rm_Rm_hashed h0 none h') (hl0 : x.1.2.1 = l) (h : HP) (hr : B_Rm_hashed_53 h = some h') : GG x 0 0 h 53 [] [] := by
  unfold B_Rm_hashed_53 at hr
  cases hr
  exact g_vreturn C T (by decide) (by decide) d_Rm_hashed_53
def P_Rm_hashed (h : HP) (p0 : Nat) : Option (HP) :=
  bnd (gR h p0 8 2) fun k1 =>
  bnd (gI h p0 8 6) fun v2 =>
  ob h p0 8 (
  bnd (P_Rm_hash h p0 k1 v2) fun h3 =>
  bnd (gR h3 p0 8 28) fun k4 =>
  bnd (gR h3 p0 8 49) fun k5 =>
  bnd (P_Rm_load h3 k4 k5 0) fun h6 =>
  bnd (gR h6 p0 8 28) fun k7 =>
  bnd (gR h6 p0 8 11) fun k8 =>
  bnd2 (P_Rm_below h6 k7 k8) fun v10 h9 =>
  if v10 = 0 then
  bnd (gR h9 p0 8 28) fun k11 =>
  bnd (gR h9 p0 8 28) fun k12 =>
  bnd (gR h9 p0 8 11) fun k13 =>
  bnd (P_Rm_less h9 k11 k12 k13) fun h14 =>
  B_Rm_hashed_53 h14
  else
  B_Rm_hashed_53 h9)
set_option maxHeartbeats 4000000 in
set_option maxRecDepth 100000 in
theorem c_Rm_hashed {l : Launch} {h h' : HP} {p0 : _} (hr : P_Rm_hashed h p0 = some h') : MP l y_Rm_hashed (Cond.code y_Rm_hashed b_Rm_hashed 1 none :: TB) rm_Rm_hashed h [.ref p0] none h' := by
  refine MP_intro (cc := b_Rm_hashed) (by decide) (Nat.le_of_ble_eq_true rfl) (fun x hl0 C T hin => ?_)
  unfold P_Rm_hashed at hr
  show GG x 0 0 h 0 [(0, .ref p0)] []
  refine g_aload_n C 0 rfl d_Rm_hashed_0 rfl ?_
  refine g_aload_n C 0 rfl d_Rm_hashed_1 rfl ?_
  obtain ⟨k1, ek1, hr⟩ := of_bnd hr
  refine g_getR C fl_Rm_14 ek1 d_Rm_hashed_2 ?_
  refine g_aload_n C 0 rfl d_Rm_hashed_5 rfl ?_
  obtain ⟨v2, ev2, hr⟩ := of_bnd hr
  refine g_getI C fl_Rm_365 ev2 d_Rm_hashed_6 ?_
  obtain ⟨fsh3, hoh3, hr⟩ := of_ob hr
  obtain ⟨h3, eh3, hr⟩ := of_bnd hr
  refine g_callV (pa := [.ref k1, .int v2]) C hl0 (c_Rm_hash eh3) cd_Rm_368 kw_in_Rm_hash kw_se_Rm_hash hoh3 rfl rfl (by decide) rfl rfl (Nat.le_of_ble_eq_true rfl) d_Rm_hashed_9 ?_
  refine g_aload_n C 0 rfl d_Rm_hashed_12 rfl ?_
  obtain ⟨k4, ek4, hr⟩ := of_bnd hr
  refine g_getR C fl_Rm_190 ek4 d_Rm_hashed_13 ?_
  refine g_aload_n C 0 rfl d_Rm_hashed_16 rfl ?_
  obtain ⟨k5, ek5, hr⟩ := of_bnd hr
  refine g_getR C fl_Rm_254 ek5 d_Rm_hashed_17 ?_
  refine g_iconst (v := 0) C d_Rm_hashed_20 (by decide) ?_
  obtain ⟨h6, eh6, hr⟩ := of_bnd hr
  refine g_callS (pa := [.ref k4, .ref k5, .int 0]) C hl0 (c_Rm_load eh6) cd_Rm_372 kw_st_Rm_load (by decide) rfl rfl (Nat.le_of_ble_eq_true rfl) d_Rm_hashed_21 ?_
  refine g_aload_n C 0 rfl d_Rm_hashed_24 rfl ?_
  obtain ⟨k7, ek7, hr⟩ := of_bnd hr
  refine g_getR C fl_Rm_190 ek7 d_Rm_hashed_25 ?_
  refine g_aload_n C 0 rfl d_Rm_hashed_28 rfl ?_
  obtain ⟨k8, ek8, hr⟩ := of_bnd hr
  refine g_getR C fl_Rm_49 ek8 d_Rm_hashed_29 ?_
  obtain ⟨v10, h9, eh9, hr⟩ := of_bnd2 hr
  refine g_callS (pa := [.ref k7, .ref k8]) C hl0 (c_Rm_below eh9) cd_Rm_268 kw_st_Rm_below (by decide) rfl rfl (Nat.le_of_ble_eq_true rfl) d_Rm_hashed_32 ?_
  refine g_if_ne (tgt := 53) C d_Rm_hashed_35 (by decide) (fun z => ?_) (fun z => ?_)
  · have hr := of_el z hr
    refine g_lv [] rfl ?_
    exact bk_Rm_hashed_53 C T hl0 h9 hr
  · have hr := of_if z hr
    refine g_aload_n C 0 rfl d_Rm_hashed_38 rfl ?_
    obtain ⟨k11, ek11, hr⟩ := of_bnd hr
    refine g_getR C fl_Rm_190 ek11 d_Rm_hashed_39 ?_
    refine g_aload_n C 0 rfl d_Rm_hashed_42 rfl ?_
    obtain ⟨k12, ek12, hr⟩ := of_bnd hr
    refine g_getR C fl_Rm_190 ek12 d_Rm_hashed_43 ?_
    refine g_aload_n C 0 rfl d_Rm_hashed_46 rfl ?_
    obtain ⟨k13, ek13, hr⟩ := of_bnd hr
    refine g_getR C fl_Rm_49 ek13 d_Rm_hashed_47 ?_
    obtain ⟨h14, eh14, hr⟩ := of_bnd hr
    refine g_callS (pa := [.ref k11, .ref k12, .ref k13]) C hl0 (c_Rm_less eh14) cd_Rm_272 kw_st_Rm_less (by decide) rfl rfl (Nat.le_of_ble_eq_true rfl) d_Rm_hashed_50 ?_
    refine g_lv [] rfl ?_
    exact bk_Rm_hashed_53 C T hl0 h14 hr
abbrev b_Rm_keyed : ByteArray := prog_12_method_36_code
abbrev y_Rm_keyed : MethodName := ⟨"PrimeKeysModel", "keyed", "([BI)V"⟩
theorem d_Rm_keyed_0 : decode b_Rm_keyed 0 = .ok (.iconst 0, 1) := by decide +kernel
theorem d_Rm_keyed_1 : decode b_Rm_keyed 1 = .ok (.istore_n 3, 1) := by decide +kernel
theorem d_Rm_keyed_2 : decode b_Rm_keyed 2 = .ok (.iload_n 3, 1) := by decide +kernel
theorem d_Rm_keyed_3 : decode b_Rm_keyed 3 = .ok (.bipush 64, 2) := by decide +kernel
theorem d_Rm_keyed_5 : decode b_Rm_keyed 5 = .ok (.if_icmp .ge 35, 3) := by decide +kernel
theorem d_Rm_keyed_8 : decode b_Rm_keyed 8 = .ok (.aload_n 0, 1) := by decide +kernel
theorem d_Rm_keyed_9 : decode b_Rm_keyed 9 = .ok (.getfield 215, 3) := by decide +kernel
theorem d_Rm_keyed_12 : decode b_Rm_keyed 12 = .ok (.iload_n 3, 1) := by decide +kernel
theorem d_Rm_keyed_13 : decode b_Rm_keyed 13 = .ok (.iload_n 3, 1) := by decide +kernel
theorem d_Rm_keyed_14 : decode b_Rm_keyed 14 = .ok (.bipush 32, 2) := by decide +kernel
theorem d_Rm_keyed_16 : decode b_Rm_keyed 16 = .ok (.if_icmp .ge 12, 3) := by decide +kernel
theorem d_Rm_keyed_19 : decode b_Rm_keyed 19 = .ok (.aload_n 0, 1) := by decide +kernel
theorem d_Rm_keyed_20 : decode b_Rm_keyed 20 = .ok (.getfield 205, 3) := by decide +kernel
theorem d_Rm_keyed_23 : decode b_Rm_keyed 23 = .ok (.iload_n 3, 1) := by decide +kernel
theorem d_Rm_keyed_24 : decode b_Rm_keyed 24 = .ok (.baload, 1) := by decide +kernel
theorem d_Rm_keyed_25 : decode b_Rm_keyed 25 = .ok (.goto 4, 3) := by decide +kernel
theorem d_Rm_keyed_28 : decode b_Rm_keyed 28 = .ok (.iconst 0, 1) := by decide +kernel
theorem d_Rm_keyed_29 : decode b_Rm_keyed 29 = .ok (.bipush 54, 2) := by decide +kernel
theorem d_Rm_keyed_31 : decode b_Rm_keyed 31 = .ok (.ixor, 1) := by decide +kernel
theorem d_Rm_keyed_32 : decode b_Rm_keyed 32 = .ok (.i2b, 1) := by decide +kernel
theorem d_Rm_keyed_33 : decode b_Rm_keyed 33 = .ok (.bastore, 1) := by decide +kernel
theorem d_Rm_keyed_34 : decode b_Rm_keyed 34 = .ok (.iinc 3 1, 3) := by decide +kernel
theorem d_Rm_keyed_37 : decode b_Rm_keyed 37 = .ok (.goto (-35), 3) := by decide +kernel
theorem d_Rm_keyed_40 : decode b_Rm_keyed 40 = .ok (.iconst 0, 1) := by decide +kernel
theorem d_Rm_keyed_41 : decode b_Rm_keyed 41 = .ok (.istore_n 3, 1) := by decide +kernel
theorem d_Rm_keyed_42 : decode b_Rm_keyed 42 = .ok (.iload_n 3, 1) := by decide +kernel
theorem d_Rm_keyed_43 : decode b_Rm_keyed 43 = .ok (.iload_n 2, 1) := by decide +kernel
theorem d_Rm_keyed_44 : decode b_Rm_keyed 44 = .ok (.if_icmp .ge 24, 3) := by decide +kernel
theorem d_Rm_keyed_47 : decode b_Rm_keyed 47 = .ok (.aload_n 0, 1) := by decide +kernel
theorem d_Rm_keyed_48 : decode b_Rm_keyed 48 = .ok (.getfield 215, 3) := by decide +kernel
theorem d_Rm_keyed_51 : decode b_Rm_keyed 51 = .ok (.bipush 64, 2) := by decide +kernel
theorem d_Rm_keyed_53 : decode b_Rm_keyed 53 = .ok (.iload_n 3, 1) := by decide +kernel
theorem d_Rm_keyed_54 : decode b_Rm_keyed 54 = .ok (.iadd, 1) := by decide +kernel
theorem d_Rm_keyed_55 : decode b_Rm_keyed 55 = .ok (.aload_n 0, 1) := by decide +kernel
theorem d_Rm_keyed_56 : decode b_Rm_keyed 56 = .ok (.getfield 211, 3) := by decide +kernel
theorem d_Rm_keyed_59 : decode b_Rm_keyed 59 = .ok (.iload_n 3, 1) := by decide +kernel
theorem d_Rm_keyed_60 : decode b_Rm_keyed 60 = .ok (.baload, 1) := by decide +kernel
theorem d_Rm_keyed_61 : decode b_Rm_keyed 61 = .ok (.bastore, 1) := by decide +kernel
theorem d_Rm_keyed_62 : decode b_Rm_keyed 62 = .ok (.iinc 3 1, 3) := by decide +kernel
theorem d_Rm_keyed_65 : decode b_Rm_keyed 65 = .ok (.goto (-23), 3) := by decide +kernel
theorem d_Rm_keyed_68 : decode b_Rm_keyed 68 = .ok (.aload_n 0, 1) := by decide +kernel
theorem d_Rm_keyed_69 : decode b_Rm_keyed 69 = .ok (.aload_n 0, 1) := by decide +kernel
theorem d_Rm_keyed_70 : decode b_Rm_keyed 70 = .ok (.getfield 215, 3) := by decide +kernel
theorem d_Rm_keyed_73 : decode b_Rm_keyed 73 = .ok (.bipush 64, 2) := by decide +kernel
theorem d_Rm_keyed_75 : decode b_Rm_keyed 75 = .ok (.iload_n 2, 1) := by decide +kernel
theorem d_Rm_keyed_76 : decode b_Rm_keyed 76 = .ok (.iadd, 1) := by decide +kernel
theorem d_Rm_keyed_77 : decode b_Rm_keyed 77 = .ok (.invokevirtual 368, 3) := by decide +kernel
theorem d_Rm_keyed_80 : decode b_Rm_keyed 80 = .ok (.iconst 0, 1) := by decide +kernel
theorem d_Rm_keyed_81 : decode b_Rm_keyed 81 = .ok (.istore_n 3, 1) := by decide +kernel
theorem d_Rm_keyed_82 : decode b_Rm_keyed 82 = .ok (.iload_n 3, 1) := by decide +kernel
theorem d_Rm_keyed_83 : decode b_Rm_keyed 83 = .ok (.bipush 64, 2) := by decide +kernel
theorem d_Rm_keyed_85 : decode b_Rm_keyed 85 = .ok (.if_icmp .ge 35, 3) := by decide +kernel
theorem d_Rm_keyed_88 : decode b_Rm_keyed 88 = .ok (.aload_n 0, 1) := by decide +kernel
theorem d_Rm_keyed_89 : decode b_Rm_keyed 89 = .ok (.getfield 215, 3) := by decide +kernel
theorem d_Rm_keyed_92 : decode b_Rm_keyed 92 = .ok (.iload_n 3, 1) := by decide +kernel
theorem d_Rm_keyed_93 : decode b_Rm_keyed 93 = .ok (.iload_n 3, 1) := by decide +kernel
theorem d_Rm_keyed_94 : decode b_Rm_keyed 94 = .ok (.bipush 32, 2) := by decide +kernel
theorem d_Rm_keyed_96 : decode b_Rm_keyed 96 = .ok (.if_icmp .ge 12, 3) := by decide +kernel
theorem d_Rm_keyed_99 : decode b_Rm_keyed 99 = .ok (.aload_n 0, 1) := by decide +kernel
theorem d_Rm_keyed_100 : decode b_Rm_keyed 100 = .ok (.getfield 205, 3) := by decide +kernel
theorem d_Rm_keyed_103 : decode b_Rm_keyed 103 = .ok (.iload_n 3, 1) := by decide +kernel
theorem d_Rm_keyed_104 : decode b_Rm_keyed 104 = .ok (.baload, 1) := by decide +kernel
theorem d_Rm_keyed_105 : decode b_Rm_keyed 105 = .ok (.goto 4, 3) := by decide +kernel
theorem d_Rm_keyed_108 : decode b_Rm_keyed 108 = .ok (.iconst 0, 1) := by decide +kernel
theorem d_Rm_keyed_109 : decode b_Rm_keyed 109 = .ok (.bipush 92, 2) := by decide +kernel
theorem d_Rm_keyed_111 : decode b_Rm_keyed 111 = .ok (.ixor, 1) := by decide +kernel
theorem d_Rm_keyed_112 : decode b_Rm_keyed 112 = .ok (.i2b, 1) := by decide +kernel
theorem d_Rm_keyed_113 : decode b_Rm_keyed 113 = .ok (.bastore, 1) := by decide +kernel
theorem d_Rm_keyed_114 : decode b_Rm_keyed 114 = .ok (.iinc 3 1, 3) := by decide +kernel
theorem d_Rm_keyed_117 : decode b_Rm_keyed 117 = .ok (.goto (-35), 3) := by decide +kernel
theorem d_Rm_keyed_120 : decode b_Rm_keyed 120 = .ok (.iconst 0, 1) := by decide +kernel
theorem d_Rm_keyed_121 : decode b_Rm_keyed 121 = .ok (.istore_n 3, 1) := by decide +kernel
theorem d_Rm_keyed_122 : decode b_Rm_keyed 122 = .ok (.iload_n 3, 1) := by decide +kernel
theorem d_Rm_keyed_123 : decode b_Rm_keyed 123 = .ok (.bipush 32, 2) := by decide +kernel
theorem d_Rm_keyed_125 : decode b_Rm_keyed 125 = .ok (.if_icmp .ge 24, 3) := by decide +kernel
theorem d_Rm_keyed_128 : decode b_Rm_keyed 128 = .ok (.aload_n 0, 1) := by decide +kernel
theorem d_Rm_keyed_129 : decode b_Rm_keyed 129 = .ok (.getfield 215, 3) := by decide +kernel
theorem d_Rm_keyed_132 : decode b_Rm_keyed 132 = .ok (.bipush 64, 2) := by decide +kernel
theorem d_Rm_keyed_134 : decode b_Rm_keyed 134 = .ok (.iload_n 3, 1) := by decide +kernel
theorem d_Rm_keyed_135 : decode b_Rm_keyed 135 = .ok (.iadd, 1) := by decide +kernel
theorem d_Rm_keyed_136 : decode b_Rm_keyed 136 = .ok (.aload_n 0, 1) := by decide +kernel
theorem d_Rm_keyed_137 : decode b_Rm_keyed 137 = .ok (.getfield 254, 3) := by decide +kernel
theorem d_Rm_keyed_140 : decode b_Rm_keyed 140 = .ok (.iload_n 3, 1) := by decide +kernel
theorem d_Rm_keyed_141 : decode b_Rm_keyed 141 = .ok (.baload, 1) := by decide +kernel
theorem d_Rm_keyed_142 : decode b_Rm_keyed 142 = .ok (.bastore, 1) := by decide +kernel
theorem d_Rm_keyed_143 : decode b_Rm_keyed 143 = .ok (.iinc 3 1, 3) := by decide +kernel
theorem d_Rm_keyed_146 : decode b_Rm_keyed 146 = .ok (.goto (-24), 3) := by decide +kernel
theorem d_Rm_keyed_149 : decode b_Rm_keyed 149 = .ok (.aload_n 0, 1) := by decide +kernel
theorem d_Rm_keyed_150 : decode b_Rm_keyed 150 = .ok (.aload_n 0, 1) := by decide +kernel
theorem d_Rm_keyed_151 : decode b_Rm_keyed 151 = .ok (.getfield 215, 3) := by decide +kernel
theorem d_Rm_keyed_154 : decode b_Rm_keyed 154 = .ok (.bipush 96, 2) := by decide +kernel
theorem d_Rm_keyed_156 : decode b_Rm_keyed 156 = .ok (.invokevirtual 368, 3) := by decide +kernel
theorem d_Rm_keyed_159 : decode b_Rm_keyed 159 = .ok (.iconst 0, 1) := by decide +kernel
theorem d_Rm_keyed_160 : decode b_Rm_keyed 160 = .ok (.istore_n 3, 1) := by decide +kernel
theorem d_Rm_keyed_161 : decode b_Rm_keyed 161 = .ok (.iload_n 3, 1) := by decide +kernel
theorem d_Rm_keyed_162 : decode b_Rm_keyed 162 = .ok (.bipush 32, 2) := by decide +kernel
theorem d_Rm_keyed_164 : decode b_Rm_keyed 164 = .ok (.if_icmp .ge 18, 3) := by decide +kernel
theorem d_Rm_keyed_167 : decode b_Rm_keyed 167 = .ok (.aload_n 1, 1) := by decide +kernel
theorem d_Rm_keyed_168 : decode b_Rm_keyed 168 = .ok (.iload_n 3, 1) := by decide +kernel
theorem d_Rm_keyed_169 : decode b_Rm_keyed 169 = .ok (.aload_n 0, 1) := by decide +kernel
theorem d_Rm_keyed_170 : decode b_Rm_keyed 170 = .ok (.getfield 254, 3) := by decide +kernel
theorem d_Rm_keyed_173 : decode b_Rm_keyed 173 = .ok (.iload_n 3, 1) := by decide +kernel
theorem d_Rm_keyed_174 : decode b_Rm_keyed 174 = .ok (.baload, 1) := by decide +kernel
theorem d_Rm_keyed_175 : decode b_Rm_keyed 175 = .ok (.bastore, 1) := by decide +kernel
theorem d_Rm_keyed_176 : decode b_Rm_keyed 176 = .ok (.iinc 3 1, 3) := by decide +kernel
theorem d_Rm_keyed_179 : decode b_Rm_keyed 179 = .ok (.goto (-18), 3) := by decide +kernel
theorem d_Rm_keyed_182 : decode b_Rm_keyed 182 = .ok (.return_, 1) := by decide +kernel
theorem fl_Rm_215 : FL "PrimeKeysModel" 215 8 36 := ⟨R_Rm, F_Rm, 50, rfl, u_Rm, by decide, rfl, tb_4 (List.mem_of_getElem? (i := 190) (by decide +kernel)) rfl⟩
theorem fl_Rm_205 : FL "PrimeKeysModel" 205 8 33 := ⟨R_Rm, F_Rm, 50, rfl, u_Rm, by decide, rfl, tb_4 (List.mem_of_getElem? (i := 187) (by decide +kernel)) rfl⟩
theorem fl_Rm_211 : FL "PrimeKeysModel" 211 8 35 := ⟨R_Rm, F_Rm, 50, rfl, u_Rm, by decide, rfl, tb_4 (List.mem_of_getElem? (i := 189) (by decide +kernel)) rfl⟩
abbrev rm_Rm_keyed : Room := { frames := 3, cells := 0, slots := 0, locals := 78 }
def B_Rm_keyed_161 (K2 : HP → Nat → Nat → Int32 → Int32 → Option (HP)) (K42 : HP → Nat → Nat → Int32 → Int32 → Option (HP)) (K82 : HP → Nat → Nat → Int32 → Option (HP)) (K122 : HP → Nat → Nat → Int32 → Option (HP)) (K161 : HP → Nat → Nat → Int32 → Option (HP)) (h : HP) (a0 : Nat) (a1 : Nat) (a3 : Int32) : Option (HP) :=
  if 32 ≤ a3 then
  some h
  else
  bnd (gR h a0 8 49) fun k5 =>
  bnd (ldB h k5 a3) fun v6 =>
  bnd (stB h a1 a3 v6) fun h7 =>
  lt (a3 + Int32.ofInt 1) fun x8 =>
  K161 h7 a0 a1 x8
set_option maxHeartbeats 4000000 in
set_option maxRecDepth 100000 in
theorem bk_Rm_keyed_161 {l : Launch} {x : CX} {h0 h' : HP} (C : EV x b_Rm_keyed "PrimeKeysModel" 4 rm_Rm_keyed) (T : CT x (none) rm_Rm_keyed h0 none h') (hl0 : x.1.2.1 = l) (K2 : HP → Nat → Nat → Int32 → Int32 → Option (HP)) (K42 : HP → Nat → Nat → Int32 → Int32 → Option (HP)) (K82 : HP → Nat → Nat → Int32 → Option (HP)) (K122 : HP → Nat → Nat → Int32 → Option (HP)) (K161 : HP → Nat → Nat → Int32 → Option (HP)) (hK2 : ∀ (h : HP) (a0 : Nat) (a1 : Nat) (a2 : Int32) (a3 : Int32), K2 h a0 a1 a2 a3 = some h' → GG x 0 0 h 2 [(0, .ref a0), (1, .ref a1), (2, .int a2), (3, .int a3)] []) (hK42 : ∀ (h : HP) (a0 : Nat) (a1 : Nat) (a2 : Int32) (a3 : Int32), K42 h a0 a1 a2 a3 = some h' → GG x 0 0 h 42 [(0, .ref a0), (1, .ref a1), (2, .int a2), (3, .int a3)] []) (hK82 : ∀ (h : HP) (a0 : Nat) (a1 : Nat) (a3 : Int32), K82 h a0 a1 a3 = some h' → GG x 0 0 h 82 [(0, .ref a0), (1, .ref a1), (3, .int a3)] []) (hK122 : ∀ (h : HP) (a0 : Nat) (a1 : Nat) (a3 : Int32), K122 h a0 a1 a3 = some h' → GG x 0 0 h 122 [(0, .ref a0), (1, .ref a1), (3, .int a3)] []) (hK161 : ∀ (h : HP) (a0 : Nat) (a1 : Nat) (a3 : Int32), K161 h a0 a1 a3 = some h' → GG x 0 0 h 161 [(0, .ref a0), (1, .ref a1), (3, .int a3)] []) (h : HP) (a0 : Nat) (a1 : Nat) (a3 : Int32) (hr : B_Rm_keyed_161 K2 K42 K82 K122 K161 h a0 a1 a3 = some h') : GG x 0 0 h 161 [(0, .ref a0), (1, .ref a1), (3, .int a3)] [] := by
  unfold B_Rm_keyed_161 at hr
  refine g_iload_n C 2 rfl d_Rm_keyed_161 rfl ?_
  refine g_bipush (v := 32) C d_Rm_keyed_162 (by decide) ?_
  refine g_icmp_ge (tgt := 182) C d_Rm_keyed_164 (by decide) (fun z => ?_) (fun z => ?_)
  · have hr := of_if z hr
    cases hr
    exact g_vreturn C T (by decide) (by decide) d_Rm_keyed_182
  · have hr := of_el z hr
    refine g_aload_n C 1 rfl d_Rm_keyed_167 rfl ?_
    refine g_iload_n C 2 rfl d_Rm_keyed_168 rfl ?_
    refine g_aload_n C 0 rfl d_Rm_keyed_169 rfl ?_
    obtain ⟨k5, ek5, hr⟩ := of_bnd hr
    refine g_getR C fl_Rm_254 ek5 d_Rm_keyed_170 ?_
    refine g_iload_n C 2 rfl d_Rm_keyed_173 rfl ?_
    obtain ⟨v6, ev6, hr⟩ := of_bnd hr
    refine g_baload C ev6 d_Rm_keyed_174 ?_
    obtain ⟨h7, eh7, hr⟩ := of_bnd hr
    refine g_bastore C eh7 d_Rm_keyed_175 ?_
    obtain ⟨x8, ex8⟩ : ∃ z, z = a3 + Int32.ofInt 1 := ⟨_, rfl⟩
    have hr := of_lt ex8 hr
    refine g_iinc (lv' := [(3, .int x8), (0, .ref a0), (1, .ref a1)]) C 2 rfl d_Rm_keyed_176 ex8.symm (by decide) rfl ?_
    refine g_goto (tgt := 161) C d_Rm_keyed_179 (by decide) ?_
    refine g_lv [1, 2, 0] rfl ?_
    exact hK161 h7 a0 a1 x8 hr
def L_Rm_keyed_161 (K2 : HP → Nat → Nat → Int32 → Int32 → Option (HP)) (K42 : HP → Nat → Nat → Int32 → Int32 → Option (HP)) (K82 : HP → Nat → Nat → Int32 → Option (HP)) (K122 : HP → Nat → Nat → Int32 → Option (HP)) : Nat → HP → Nat → Nat → Int32 → Option (HP)
  | 0, _, _, _, _ => none
  | f + 1, h, a0, a1, a3 => B_Rm_keyed_161 K2 K42 K82 K122 (L_Rm_keyed_161 K2 K42 K82 K122 f) h a0 a1 a3
theorem lp_Rm_keyed_161 {l : Launch} {x : CX} {h0 h' : HP} (C : EV x b_Rm_keyed "PrimeKeysModel" 4 rm_Rm_keyed) (T : CT x (none) rm_Rm_keyed h0 none h') (hl0 : x.1.2.1 = l) (K2 : HP → Nat → Nat → Int32 → Int32 → Option (HP)) (K42 : HP → Nat → Nat → Int32 → Int32 → Option (HP)) (K82 : HP → Nat → Nat → Int32 → Option (HP)) (K122 : HP → Nat → Nat → Int32 → Option (HP)) (hK2 : ∀ (h : HP) (a0 : Nat) (a1 : Nat) (a2 : Int32) (a3 : Int32), K2 h a0 a1 a2 a3 = some h' → GG x 0 0 h 2 [(0, .ref a0), (1, .ref a1), (2, .int a2), (3, .int a3)] []) (hK42 : ∀ (h : HP) (a0 : Nat) (a1 : Nat) (a2 : Int32) (a3 : Int32), K42 h a0 a1 a2 a3 = some h' → GG x 0 0 h 42 [(0, .ref a0), (1, .ref a1), (2, .int a2), (3, .int a3)] []) (hK82 : ∀ (h : HP) (a0 : Nat) (a1 : Nat) (a3 : Int32), K82 h a0 a1 a3 = some h' → GG x 0 0 h 82 [(0, .ref a0), (1, .ref a1), (3, .int a3)] []) (hK122 : ∀ (h : HP) (a0 : Nat) (a1 : Nat) (a3 : Int32), K122 h a0 a1 a3 = some h' → GG x 0 0 h 122 [(0, .ref a0), (1, .ref a1), (3, .int a3)] []) : ∀ (f : Nat) (h : HP) (a0 : Nat) (a1 : Nat) (a3 : Int32), L_Rm_keyed_161 K2 K42 K82 K122 f h a0 a1 a3 = some h' → GG x 0 0 h 161 [(0, .ref a0), (1, .ref a1), (3, .int a3)] [] := by
  intro f
  induction f with
  | zero => intro h a0 a1 a3 hr; have hr : (none : Option (HP)) = some h' := hr; cases hr
  | succ f ih => intro h a0 a1 a3 hr; exact bk_Rm_keyed_161 C T hl0 K2 K42 K82 K122 (L_Rm_keyed_161 K2 K42 K82 K122 f) hK2 hK42 hK82 hK122 ih h a0 a1 a3 hr
def B_Rm_keyed_122 (K2 : HP → Nat → Nat → Int32 → Int32 → Option (HP)) (K42 : HP → Nat → Nat → Int32 → Int32 → Option (HP)) (K82 : HP → Nat → Nat → Int32 → Option (HP)) (K122 : HP → Nat → Nat → Int32 → Option (HP)) (h : HP) (a0 : Nat) (a1 : Nat) (a3 : Int32) : Option (HP) :=
  if 32 ≤ a3 then
  bnd (gR h a0 8 36) fun k3 =>
  ob h a0 8 (
  bnd (P_Rm_hash h a0 k3 96) fun h4 =>
  L_Rm_keyed_161 K2 K42 K82 K122 FU h4 a0 a1 0)
  else
  bnd (gR h a0 8 36) fun k9 =>
  bnd (gR h a0 8 49) fun k10 =>
  bnd (ldB h k10 a3) fun v11 =>
  bnd (stB h k9 (64 + a3) v11) fun h12 =>
  lt (a3 + Int32.ofInt 1) fun x13 =>
  K122 h12 a0 a1 x13
set_option maxHeartbeats 4000000 in
set_option maxRecDepth 100000 in
theorem bk_Rm_keyed_122 {l : Launch} {x : CX} {h0 h' : HP} (C : EV x b_Rm_keyed "PrimeKeysModel" 4 rm_Rm_keyed) (T : CT x (none) rm_Rm_keyed h0 none h') (hl0 : x.1.2.1 = l) (K2 : HP → Nat → Nat → Int32 → Int32 → Option (HP)) (K42 : HP → Nat → Nat → Int32 → Int32 → Option (HP)) (K82 : HP → Nat → Nat → Int32 → Option (HP)) (K122 : HP → Nat → Nat → Int32 → Option (HP)) (hK2 : ∀ (h : HP) (a0 : Nat) (a1 : Nat) (a2 : Int32) (a3 : Int32), K2 h a0 a1 a2 a3 = some h' → GG x 0 0 h 2 [(0, .ref a0), (1, .ref a1), (2, .int a2), (3, .int a3)] []) (hK42 : ∀ (h : HP) (a0 : Nat) (a1 : Nat) (a2 : Int32) (a3 : Int32), K42 h a0 a1 a2 a3 = some h' → GG x 0 0 h 42 [(0, .ref a0), (1, .ref a1), (2, .int a2), (3, .int a3)] []) (hK82 : ∀ (h : HP) (a0 : Nat) (a1 : Nat) (a3 : Int32), K82 h a0 a1 a3 = some h' → GG x 0 0 h 82 [(0, .ref a0), (1, .ref a1), (3, .int a3)] []) (hK122 : ∀ (h : HP) (a0 : Nat) (a1 : Nat) (a3 : Int32), K122 h a0 a1 a3 = some h' → GG x 0 0 h 122 [(0, .ref a0), (1, .ref a1), (3, .int a3)] []) (h : HP) (a0 : Nat) (a1 : Nat) (a3 : Int32) (hr : B_Rm_keyed_122 K2 K42 K82 K122 h a0 a1 a3 = some h') : GG x 0 0 h 122 [(0, .ref a0), (1, .ref a1), (3, .int a3)] [] := by
  unfold B_Rm_keyed_122 at hr
  refine g_iload_n C 2 rfl d_Rm_keyed_122 rfl ?_
  refine g_bipush (v := 32) C d_Rm_keyed_123 (by decide) ?_
  refine g_icmp_ge (tgt := 149) C d_Rm_keyed_125 (by decide) (fun z => ?_) (fun z => ?_)
  · have hr := of_if z hr
    refine g_aload_n C 0 rfl d_Rm_keyed_149 rfl ?_
    refine g_aload_n C 0 rfl d_Rm_keyed_150 rfl ?_
    obtain ⟨k3, ek3, hr⟩ := of_bnd hr
    refine g_getR C fl_Rm_215 ek3 d_Rm_keyed_151 ?_
    refine g_bipush (v := 96) C d_Rm_keyed_154 (by decide) ?_
    obtain ⟨fsh4, hoh4, hr⟩ := of_ob hr
    obtain ⟨h4, eh4, hr⟩ := of_bnd hr
    refine g_callV (pa := [.ref k3, .int 96]) C hl0 (c_Rm_hash eh4) cd_Rm_368 kw_in_Rm_hash kw_se_Rm_hash hoh4 rfl rfl (by decide) rfl rfl (Nat.le_of_ble_eq_true rfl) d_Rm_keyed_156 ?_
    refine g_iconst (v := 0) C d_Rm_keyed_159 (by decide) ?_
    refine g_istore_n (lv' := [(3, .int 0), (0, .ref a0), (1, .ref a1)]) C d_Rm_keyed_160 rfl (by decide) rfl ?_
    refine g_lv [1, 2, 0] rfl ?_
    exact lp_Rm_keyed_161 C T hl0 K2 K42 K82 K122 hK2 hK42 hK82 hK122 FU h4 a0 a1 0 hr
  · have hr := of_el z hr
    refine g_aload_n C 0 rfl d_Rm_keyed_128 rfl ?_
    obtain ⟨k9, ek9, hr⟩ := of_bnd hr
    refine g_getR C fl_Rm_215 ek9 d_Rm_keyed_129 ?_
    refine g_bipush (v := 64) C d_Rm_keyed_132 (by decide) ?_
    refine g_iload_n C 2 rfl d_Rm_keyed_134 rfl ?_
    refine g_iadd C d_Rm_keyed_135 ?_
    refine g_aload_n C 0 rfl d_Rm_keyed_136 rfl ?_
    obtain ⟨k10, ek10, hr⟩ := of_bnd hr
    refine g_getR C fl_Rm_254 ek10 d_Rm_keyed_137 ?_
    refine g_iload_n C 2 rfl d_Rm_keyed_140 rfl ?_
    obtain ⟨v11, ev11, hr⟩ := of_bnd hr
    refine g_baload C ev11 d_Rm_keyed_141 ?_
    obtain ⟨h12, eh12, hr⟩ := of_bnd hr
    refine g_bastore C eh12 d_Rm_keyed_142 ?_
    obtain ⟨x13, ex13⟩ : ∃ z, z = a3 + Int32.ofInt 1 := ⟨_, rfl⟩
    have hr := of_lt ex13 hr
    refine g_iinc (lv' := [(3, .int x13), (0, .ref a0), (1, .ref a1)]) C 2 rfl d_Rm_keyed_143 ex13.symm (by decide) rfl ?_
    refine g_goto (tgt := 122) C d_Rm_keyed_146 (by decide) ?_
    refine g_lv [1, 2, 0] rfl ?_
    exact hK122 h12 a0 a1 x13 hr
def L_Rm_keyed_122 (K2 : HP → Nat → Nat → Int32 → Int32 → Option (HP)) (K42 : HP → Nat → Nat → Int32 → Int32 → Option (HP)) (K82 : HP → Nat → Nat → Int32 → Option (HP)) : Nat → HP → Nat → Nat → Int32 → Option (HP)
  | 0, _, _, _, _ => none
  | f + 1, h, a0, a1, a3 => B_Rm_keyed_122 K2 K42 K82 (L_Rm_keyed_122 K2 K42 K82 f) h a0 a1 a3
theorem lp_Rm_keyed_122 {l : Launch} {x : CX} {h0 h' : HP} (C : EV x b_Rm_keyed "PrimeKeysModel" 4 rm_Rm_keyed) (T : CT x (none) rm_Rm_keyed h0 none h') (hl0 : x.1.2.1 = l) (K2 : HP → Nat → Nat → Int32 → Int32 → Option (HP)) (K42 : HP → Nat → Nat → Int32 → Int32 → Option (HP)) (K82 : HP → Nat → Nat → Int32 → Option (HP)) (hK2 : ∀ (h : HP) (a0 : Nat) (a1 : Nat) (a2 : Int32) (a3 : Int32), K2 h a0 a1 a2 a3 = some h' → GG x 0 0 h 2 [(0, .ref a0), (1, .ref a1), (2, .int a2), (3, .int a3)] []) (hK42 : ∀ (h : HP) (a0 : Nat) (a1 : Nat) (a2 : Int32) (a3 : Int32), K42 h a0 a1 a2 a3 = some h' → GG x 0 0 h 42 [(0, .ref a0), (1, .ref a1), (2, .int a2), (3, .int a3)] []) (hK82 : ∀ (h : HP) (a0 : Nat) (a1 : Nat) (a3 : Int32), K82 h a0 a1 a3 = some h' → GG x 0 0 h 82 [(0, .ref a0), (1, .ref a1), (3, .int a3)] []) : ∀ (f : Nat) (h : HP) (a0 : Nat) (a1 : Nat) (a3 : Int32), L_Rm_keyed_122 K2 K42 K82 f h a0 a1 a3 = some h' → GG x 0 0 h 122 [(0, .ref a0), (1, .ref a1), (3, .int a3)] [] := by
  intro f
  induction f with
  | zero => intro h a0 a1 a3 hr; have hr : (none : Option (HP)) = some h' := hr; cases hr
  | succ f ih => intro h a0 a1 a3 hr; exact bk_Rm_keyed_122 C T hl0 K2 K42 K82 (L_Rm_keyed_122 K2 K42 K82 f) hK2 hK42 hK82 ih h a0 a1 a3 hr
def B_Rm_keyed_82 (K2 : HP → Nat → Nat → Int32 → Int32 → Option (HP)) (K42 : HP → Nat → Nat → Int32 → Int32 → Option (HP)) (K82 : HP → Nat → Nat → Int32 → Option (HP)) (h : HP) (a0 : Nat) (a1 : Nat) (a3 : Int32) : Option (HP) :=
  if 64 ≤ a3 then
  L_Rm_keyed_122 K2 K42 K82 FU h a0 a1 0
  else
  bnd (gR h a0 8 36) fun k14 =>
  if 32 ≤ a3 then
  bnd (stB h k14 a3 ((Int32.toInt8 (0 ^^^ 92)).toInt32)) fun h15 =>
  lt (a3 + Int32.ofInt 1) fun x16 =>
  K82 h15 a0 a1 x16
  else
  bnd (gR h a0 8 33) fun k17 =>
  bnd (ldB h k17 a3) fun v18 =>
  bnd (stB h k14 a3 ((Int32.toInt8 (v18 ^^^ 92)).toInt32)) fun h19 =>
  lt (a3 + Int32.ofInt 1) fun x20 =>
  K82 h19 a0 a1 x20
set_option maxHeartbeats 4000000 in
set_option maxRecDepth 100000 in
theorem bk_Rm_keyed_82 {l : Launch} {x : CX} {h0 h' : HP} (C : EV x b_Rm_keyed "PrimeKeysModel" 4 rm_Rm_keyed) (T : CT x (none) rm_Rm_keyed h0 none h') (hl0 : x.1.2.1 = l) (K2 : HP → Nat → Nat → Int32 → Int32 → Option (HP)) (K42 : HP → Nat → Nat → Int32 → Int32 → Option (HP)) (K82 : HP → Nat → Nat → Int32 → Option (HP)) (hK2 : ∀ (h : HP) (a0 : Nat) (a1 : Nat) (a2 : Int32) (a3 : Int32), K2 h a0 a1 a2 a3 = some h' → GG x 0 0 h 2 [(0, .ref a0), (1, .ref a1), (2, .int a2), (3, .int a3)] []) (hK42 : ∀ (h : HP) (a0 : Nat) (a1 : Nat) (a2 : Int32) (a3 : Int32), K42 h a0 a1 a2 a3 = some h' → GG x 0 0 h 42 [(0, .ref a0), (1, .ref a1), (2, .int a2), (3, .int a3)] []) (hK82 : ∀ (h : HP) (a0 : Nat) (a1 : Nat) (a3 : Int32), K82 h a0 a1 a3 = some h' → GG x 0 0 h 82 [(0, .ref a0), (1, .ref a1), (3, .int a3)] []) (h : HP) (a0 : Nat) (a1 : Nat) (a3 : Int32) (hr : B_Rm_keyed_82 K2 K42 K82 h a0 a1 a3 = some h') : GG x 0 0 h 82 [(0, .ref a0), (1, .ref a1), (3, .int a3)] [] := by
  unfold B_Rm_keyed_82 at hr
  refine g_iload_n C 2 rfl d_Rm_keyed_82 rfl ?_
  refine g_bipush (v := 64) C d_Rm_keyed_83 (by decide) ?_
  refine g_icmp_ge (tgt := 120) C d_Rm_keyed_85 (by decide) (fun z => ?_) (fun z => ?_)
  · have hr := of_if z hr
    refine g_iconst (v := 0) C d_Rm_keyed_120 (by decide) ?_
    refine g_istore_n (lv' := [(3, .int 0), (0, .ref a0), (1, .ref a1)]) C d_Rm_keyed_121 rfl (by decide) rfl ?_
    refine g_lv [1, 2, 0] rfl ?_
    exact lp_Rm_keyed_122 C T hl0 K2 K42 K82 hK2 hK42 hK82 FU h a0 a1 0 hr
  · have hr := of_el z hr
    refine g_aload_n C 0 rfl d_Rm_keyed_88 rfl ?_
    obtain ⟨k14, ek14, hr⟩ := of_bnd hr
    refine g_getR C fl_Rm_215 ek14 d_Rm_keyed_89 ?_
    refine g_iload_n C 2 rfl d_Rm_keyed_92 rfl ?_
    refine g_iload_n C 2 rfl d_Rm_keyed_93 rfl ?_
    refine g_bipush (v := 32) C d_Rm_keyed_94 (by decide) ?_
    refine g_icmp_ge (tgt := 108) C d_Rm_keyed_96 (by decide) (fun z => ?_) (fun z => ?_)
    · have hr := of_if z hr
      refine g_iconst (v := 0) C d_Rm_keyed_108 (by decide) ?_
      refine g_bipush (v := 92) C d_Rm_keyed_109 (by decide) ?_
      refine g_ixor C d_Rm_keyed_111 ?_
      refine g_i2b C d_Rm_keyed_112 ?_
      obtain ⟨h15, eh15, hr⟩ := of_bnd hr
      refine g_bastore C eh15 d_Rm_keyed_113 ?_
      obtain ⟨x16, ex16⟩ : ∃ z, z = a3 + Int32.ofInt 1 := ⟨_, rfl⟩
      have hr := of_lt ex16 hr
      refine g_iinc (lv' := [(3, .int x16), (0, .ref a0), (1, .ref a1)]) C 2 rfl d_Rm_keyed_114 ex16.symm (by decide) rfl ?_
      refine g_goto (tgt := 82) C d_Rm_keyed_117 (by decide) ?_
      refine g_lv [1, 2, 0] rfl ?_
      exact hK82 h15 a0 a1 x16 hr
    · have hr := of_el z hr
      refine g_aload_n C 0 rfl d_Rm_keyed_99 rfl ?_
      obtain ⟨k17, ek17, hr⟩ := of_bnd hr
      refine g_getR C fl_Rm_205 ek17 d_Rm_keyed_100 ?_
      refine g_iload_n C 2 rfl d_Rm_keyed_103 rfl ?_
      obtain ⟨v18, ev18, hr⟩ := of_bnd hr
      refine g_baload C ev18 d_Rm_keyed_104 ?_
      refine g_goto (tgt := 109) C d_Rm_keyed_105 (by decide) ?_
      refine g_bipush (v := 92) C d_Rm_keyed_109 (by decide) ?_
      refine g_ixor C d_Rm_keyed_111 ?_
      refine g_i2b C d_Rm_keyed_112 ?_
      obtain ⟨h19, eh19, hr⟩ := of_bnd hr
      refine g_bastore C eh19 d_Rm_keyed_113 ?_
      obtain ⟨x20, ex20⟩ : ∃ z, z = a3 + Int32.ofInt 1 := ⟨_, rfl⟩
      have hr := of_lt ex20 hr
      refine g_iinc (lv' := [(3, .int x20), (0, .ref a0), (1, .ref a1)]) C 2 rfl d_Rm_keyed_114 ex20.symm (by decide) rfl ?_
      refine g_goto (tgt := 82) C d_Rm_keyed_117 (by decide) ?_
      refine g_lv [1, 2, 0] rfl ?_
      exact hK82 h19 a0 a1 x20 hr
def L_Rm_keyed_82 (K2 : HP → Nat → Nat → Int32 → Int32 → Option (HP)) (K42 : HP → Nat → Nat → Int32 → Int32 → Option (HP)) : Nat → HP → Nat → Nat → Int32 → Option (HP)
  | 0, _, _, _, _ => none
  | f + 1, h, a0, a1, a3 => B_Rm_keyed_82 K2 K42 (L_Rm_keyed_82 K2 K42 f) h a0 a1 a3
theorem lp_Rm_keyed_82 {l : Launch} {x : CX} {h0 h' : HP} (C : EV x b_Rm_keyed "PrimeKeysModel" 4 rm_Rm_keyed) (T : CT x (none) rm_Rm_keyed h0 none h') (hl0 : x.1.2.1 = l) (K2 : HP → Nat → Nat → Int32 → Int32 → Option (HP)) (K42 : HP → Nat → Nat → Int32 → Int32 → Option (HP)) (hK2 : ∀ (h : HP) (a0 : Nat) (a1 : Nat) (a2 : Int32) (a3 : Int32), K2 h a0 a1 a2 a3 = some h' → GG x 0 0 h 2 [(0, .ref a0), (1, .ref a1), (2, .int a2), (3, .int a3)] []) (hK42 : ∀ (h : HP) (a0 : Nat) (a1 : Nat) (a2 : Int32) (a3 : Int32), K42 h a0 a1 a2 a3 = some h' → GG x 0 0 h 42 [(0, .ref a0), (1, .ref a1), (2, .int a2), (3, .int a3)] []) : ∀ (f : Nat) (h : HP) (a0 : Nat) (a1 : Nat) (a3 : Int32), L_Rm_keyed_82 K2 K42 f h a0 a1 a3 = some h' → GG x 0 0 h 82 [(0, .ref a0), (1, .ref a1), (3, .int a3)] [] := by
  intro f
  induction f with
  | zero => intro h a0 a1 a3 hr; have hr : (none : Option (HP)) = some h' := hr; cases hr
  | succ f ih => intro h a0 a1 a3 hr; exact bk_Rm_keyed_82 C T hl0 K2 K42 (L_Rm_keyed_82 K2 K42 f) hK2 hK42 ih h a0 a1 a3 hr
def B_Rm_keyed_42 (K2 : HP → Nat → Nat → Int32 → Int32 → Option (HP)) (K42 : HP → Nat → Nat → Int32 → Int32 → Option (HP)) (h : HP) (a0 : Nat) (a1 : Nat) (a2 : Int32) (a3 : Int32) : Option (HP) :=
  if a2 ≤ a3 then
  bnd (gR h a0 8 36) fun k1 =>
  ob h a0 8 (
  bnd (P_Rm_hash h a0 k1 (64 + a2)) fun h2 =>
  L_Rm_keyed_82 K2 K42 FU h2 a0 a1 0)
  else
  bnd (gR h a0 8 36) fun k21 =>
  bnd (gR h a0 8 35) fun k22 =>
  bnd (ldB h k22 a3) fun v23 =>
  bnd (stB h k21 (64 + a3) v23) fun h24 =>
  lt (a3 + Int32.ofInt 1) fun x25 =>
  K42 h24 a0 a1 a2 x25
set_option maxHeartbeats 4000000 in
set_option maxRecDepth 100000 in
theorem bk_Rm_keyed_42 {l : Launch} {x : CX} {h0 h' : HP} (C : EV x b_Rm_keyed "PrimeKeysModel" 4 rm_Rm_keyed) (T : CT x (none) rm_Rm_keyed h0 none h') (hl0 : x.1.2.1 = l) (K2 : HP → Nat → Nat → Int32 → Int32 → Option (HP)) (K42 : HP → Nat → Nat → Int32 → Int32 → Option (HP)) (hK2 : ∀ (h : HP) (a0 : Nat) (a1 : Nat) (a2 : Int32) (a3 : Int32), K2 h a0 a1 a2 a3 = some h' → GG x 0 0 h 2 [(0, .ref a0), (1, .ref a1), (2, .int a2), (3, .int a3)] []) (hK42 : ∀ (h : HP) (a0 : Nat) (a1 : Nat) (a2 : Int32) (a3 : Int32), K42 h a0 a1 a2 a3 = some h' → GG x 0 0 h 42 [(0, .ref a0), (1, .ref a1), (2, .int a2), (3, .int a3)] []) (h : HP) (a0 : Nat) (a1 : Nat) (a2 : Int32) (a3 : Int32) (hr : B_Rm_keyed_42 K2 K42 h a0 a1 a2 a3 = some h') : GG x 0 0 h 42 [(0, .ref a0), (1, .ref a1), (2, .int a2), (3, .int a3)] [] := by
  unfold B_Rm_keyed_42 at hr
  refine g_iload_n C 3 rfl d_Rm_keyed_42 rfl ?_
  refine g_iload_n C 2 rfl d_Rm_keyed_43 rfl ?_
  refine g_icmp_ge (tgt := 68) C d_Rm_keyed_44 (by decide) (fun z => ?_) (fun z => ?_)
  · have hr := of_if z hr
    refine g_aload_n C 0 rfl d_Rm_keyed_68 rfl ?_
    refine g_aload_n C 0 rfl d_Rm_keyed_69 rfl ?_
    obtain ⟨k1, ek1, hr⟩ := of_bnd hr
    refine g_getR C fl_Rm_215 ek1 d_Rm_keyed_70 ?_
    refine g_bipush (v := 64) C d_Rm_keyed_73 (by decide) ?_
    refine g_iload_n C 2 rfl d_Rm_keyed_75 rfl ?_
    refine g_iadd C d_Rm_keyed_76 ?_
    obtain ⟨fsh2, hoh2, hr⟩ := of_ob hr
    obtain ⟨h2, eh2, hr⟩ := of_bnd hr
    refine g_callV (pa := [.ref k1, .int (64 + a2)]) C hl0 (c_Rm_hash eh2) cd_Rm_368 kw_in_Rm_hash kw_se_Rm_hash hoh2 rfl rfl (by decide) rfl rfl (Nat.le_of_ble_eq_true rfl) d_Rm_keyed_77 ?_
    refine g_iconst (v := 0) C d_Rm_keyed_80 (by decide) ?_
    refine g_istore_n (lv' := [(3, .int 0), (0, .ref a0), (1, .ref a1), (2, .int a2)]) C d_Rm_keyed_81 rfl (by decide) rfl ?_
    refine g_lv [1, 2, 0] rfl ?_
    exact lp_Rm_keyed_82 C T hl0 K2 K42 hK2 hK42 FU h2 a0 a1 0 hr
  · have hr := of_el z hr
    refine g_aload_n C 0 rfl d_Rm_keyed_47 rfl ?_
    obtain ⟨k21, ek21, hr⟩ := of_bnd hr
    refine g_getR C fl_Rm_215 ek21 d_Rm_keyed_48 ?_
    refine g_bipush (v := 64) C d_Rm_keyed_51 (by decide) ?_
    refine g_iload_n C 3 rfl d_Rm_keyed_53 rfl ?_
    refine g_iadd C d_Rm_keyed_54 ?_
    refine g_aload_n C 0 rfl d_Rm_keyed_55 rfl ?_
    obtain ⟨k22, ek22, hr⟩ := of_bnd hr
    refine g_getR C fl_Rm_211 ek22 d_Rm_keyed_56 ?_
    refine g_iload_n C 3 rfl d_Rm_keyed_59 rfl ?_
    obtain ⟨v23, ev23, hr⟩ := of_bnd hr
    refine g_baload C ev23 d_Rm_keyed_60 ?_
    obtain ⟨h24, eh24, hr⟩ := of_bnd hr
    refine g_bastore C eh24 d_Rm_keyed_61 ?_
    obtain ⟨x25, ex25⟩ : ∃ z, z = a3 + Int32.ofInt 1 := ⟨_, rfl⟩
    have hr := of_lt ex25 hr
    refine g_iinc (lv' := [(3, .int x25), (0, .ref a0), (1, .ref a1), (2, .int a2)]) C 3 rfl d_Rm_keyed_62 ex25.symm (by decide) rfl ?_
    refine g_goto (tgt := 42) C d_Rm_keyed_65 (by decide) ?_
    refine g_lv [1, 2, 3, 0] rfl ?_
    exact hK42 h24 a0 a1 a2 x25 hr
def L_Rm_keyed_42 (K2 : HP → Nat → Nat → Int32 → Int32 → Option (HP)) : Nat → HP → Nat → Nat → Int32 → Int32 → Option (HP)
  | 0, _, _, _, _, _ => none
  | f + 1, h, a0, a1, a2, a3 => B_Rm_keyed_42 K2 (L_Rm_keyed_42 K2 f) h a0 a1 a2 a3
theorem lp_Rm_keyed_42 {l : Launch} {x : CX} {h0 h' : HP} (C : EV x b_Rm_keyed "PrimeKeysModel" 4 rm_Rm_keyed) (T : CT x (none) rm_Rm_keyed h0 none h') (hl0 : x.1.2.1 = l) (K2 : HP → Nat → Nat → Int32 → Int32 → Option (HP)) (hK2 : ∀ (h : HP) (a0 : Nat) (a1 : Nat) (a2 : Int32) (a3 : Int32), K2 h a0 a1 a2 a3 = some h' → GG x 0 0 h 2 [(0, .ref a0), (1, .ref a1), (2, .int a2), (3, .int a3)] []) : ∀ (f : Nat) (h : HP) (a0 : Nat) (a1 : Nat) (a2 : Int32) (a3 : Int32), L_Rm_keyed_42 K2 f h a0 a1 a2 a3 = some h' → GG x 0 0 h 42 [(0, .ref a0), (1, .ref a1), (2, .int a2), (3, .int a3)] [] := by
  intro f
  induction f with
  | zero => intro h a0 a1 a2 a3 hr; have hr : (none : Option (HP)) = some h' := hr; cases hr
  | succ f ih => intro h a0 a1 a2 a3 hr; exact bk_Rm_keyed_42 C T hl0 K2 (L_Rm_keyed_42 K2 f) hK2 ih h a0 a1 a2 a3 hr
def B_Rm_keyed_2 (K2 : HP → Nat → Nat → Int32 → Int32 → Option (HP)) (h : HP) (a0 : Nat) (a1 : Nat) (a2 : Int32) (a3 : Int32) : Option (HP) :=
  if 64 ≤ a3 then
  L_Rm_keyed_42 K2 FU h a0 a1 a2 0
  else
  bnd (gR h a0 8 36) fun k26 =>
  if 32 ≤ a3 then
  bnd (stB h k26 a3 ((Int32.toInt8 (0 ^^^ 54)).toInt32)) fun h27 =>
  lt (a3 + Int32.ofInt 1) fun x28 =>
  K2 h27 a0 a1 a2 x28
  else
  bnd (gR h a0 8 33) fun k29 =>
  bnd (ldB h k29 a3) fun v30 =>
  bnd (stB h k26 a3 ((Int32.toInt8 (v30 ^^^ 54)).toInt32)) fun h31 =>
  lt (a3 + Int32.ofInt 1) fun x32 =>
  K2 h31 a0 a1 a2 x32
set_option maxHeartbeats 4000000 in
set_option maxRecDepth 100000 in
theorem bk_Rm_keyed_2 {l : Launch} {x : CX} {h0 h' : HP} (C : EV x b_Rm_keyed "PrimeKeysModel" 4 rm_Rm_keyed) (T : CT x (none) rm_Rm_keyed h0 none h') (hl0 : x.1.2.1 = l) (K2 : HP → Nat → Nat → Int32 → Int32 → Option (HP)) (hK2 : ∀ (h : HP) (a0 : Nat) (a1 : Nat) (a2 : Int32) (a3 : Int32), K2 h a0 a1 a2 a3 = some h' → GG x 0 0 h 2 [(0, .ref a0), (1, .ref a1), (2, .int a2), (3, .int a3)] []) (h : HP) (a0 : Nat) (a1 : Nat) (a2 : Int32) (a3 : Int32) (hr : B_Rm_keyed_2 K2 h a0 a1 a2 a3 = some h') : GG x 0 0 h 2 [(0, .ref a0), (1, .ref a1), (2, .int a2), (3, .int a3)] [] := by
  unfold B_Rm_keyed_2 at hr
  refine g_iload_n C 3 rfl d_Rm_keyed_2 rfl ?_
  refine g_bipush (v := 64) C d_Rm_keyed_3 (by decide) ?_
  refine g_icmp_ge (tgt := 40) C d_Rm_keyed_5 (by decide) (fun z => ?_) (fun z => ?_)
  · have hr := of_if z hr
    refine g_iconst (v := 0) C d_Rm_keyed_40 (by decide) ?_
    refine g_istore_n (lv' := [(3, .int 0), (0, .ref a0), (1, .ref a1), (2, .int a2)]) C d_Rm_keyed_41 rfl (by decide) rfl ?_
    refine g_lv [1, 2, 3, 0] rfl ?_
    exact lp_Rm_keyed_42 C T hl0 K2 hK2 FU h a0 a1 a2 0 hr
  · have hr := of_el z hr
    refine g_aload_n C 0 rfl d_Rm_keyed_8 rfl ?_
    obtain ⟨k26, ek26, hr⟩ := of_bnd hr
    refine g_getR C fl_Rm_215 ek26 d_Rm_keyed_9 ?_
    refine g_iload_n C 3 rfl d_Rm_keyed_12 rfl ?_
    refine g_iload_n C 3 rfl d_Rm_keyed_13 rfl ?_
    refine g_bipush (v := 32) C d_Rm_keyed_14 (by decide) ?_
    refine g_icmp_ge (tgt := 28) C d_Rm_keyed_16 (by decide) (fun z => ?_) (fun z => ?_)
    · have hr := of_if z hr
      refine g_iconst (v := 0) C d_Rm_keyed_28 (by decide) ?_
      refine g_bipush (v := 54) C d_Rm_keyed_29 (by decide) ?_
      refine g_ixor C d_Rm_keyed_31 ?_
      refine g_i2b C d_Rm_keyed_32 ?_
      obtain ⟨h27, eh27, hr⟩ := of_bnd hr
      refine g_bastore C eh27 d_Rm_keyed_33 ?_
      obtain ⟨x28, ex28⟩ : ∃ z, z = a3 + Int32.ofInt 1 := ⟨_, rfl⟩
      have hr := of_lt ex28 hr
      refine g_iinc (lv' := [(3, .int x28), (0, .ref a0), (1, .ref a1), (2, .int a2)]) C 3 rfl d_Rm_keyed_34 ex28.symm (by decide) rfl ?_
      refine g_goto (tgt := 2) C d_Rm_keyed_37 (by decide) ?_
      refine g_lv [1, 2, 3, 0] rfl ?_
      exact hK2 h27 a0 a1 a2 x28 hr
    · have hr := of_el z hr
      refine g_aload_n C 0 rfl d_Rm_keyed_19 rfl ?_
      obtain ⟨k29, ek29, hr⟩ := of_bnd hr
      refine g_getR C fl_Rm_205 ek29 d_Rm_keyed_20 ?_
      refine g_iload_n C 3 rfl d_Rm_keyed_23 rfl ?_
      obtain ⟨v30, ev30, hr⟩ := of_bnd hr
      refine g_baload C ev30 d_Rm_keyed_24 ?_
      refine g_goto (tgt := 29) C d_Rm_keyed_25 (by decide) ?_
      refine g_bipush (v := 54) C d_Rm_keyed_29 (by decide) ?_
      refine g_ixor C d_Rm_keyed_31 ?_
      refine g_i2b C d_Rm_keyed_32 ?_
      obtain ⟨h31, eh31, hr⟩ := of_bnd hr
      refine g_bastore C eh31 d_Rm_keyed_33 ?_
      obtain ⟨x32, ex32⟩ : ∃ z, z = a3 + Int32.ofInt 1 := ⟨_, rfl⟩
      have hr := of_lt ex32 hr
      refine g_iinc (lv' := [(3, .int x32), (0, .ref a0), (1, .ref a1), (2, .int a2)]) C 3 rfl d_Rm_keyed_34 ex32.symm (by decide) rfl ?_
      refine g_goto (tgt := 2) C d_Rm_keyed_37 (by decide) ?_
      refine g_lv [1, 2, 3, 0] rfl ?_
      exact hK2 h31 a0 a1 a2 x32 hr
def L_Rm_keyed_2 : Nat → HP → Nat → Nat → Int32 → Int32 → Option (HP)
  | 0, _, _, _, _, _ => none
  | f + 1, h, a0, a1, a2, a3 => B_Rm_keyed_2 (L_Rm_keyed_2 f) h a0 a1 a2 a3
theorem lp_Rm_keyed_2 {l : Launch} {x : CX} {h0 h' : HP} (C : EV x b_Rm_keyed "PrimeKeysModel" 4 rm_Rm_keyed) (T : CT x (none) rm_Rm_keyed h0 none h') (hl0 : x.1.2.1 = l) : ∀ (f : Nat) (h : HP) (a0 : Nat) (a1 : Nat) (a2 : Int32) (a3 : Int32), L_Rm_keyed_2 f h a0 a1 a2 a3 = some h' → GG x 0 0 h 2 [(0, .ref a0), (1, .ref a1), (2, .int a2), (3, .int a3)] [] := by
  intro f
  induction f with
  | zero => intro h a0 a1 a2 a3 hr; have hr : (none : Option (HP)) = some h' := hr; cases hr
  | succ f ih => intro h a0 a1 a2 a3 hr; exact bk_Rm_keyed_2 C T hl0 (L_Rm_keyed_2 f) ih h a0 a1 a2 a3 hr
def P_Rm_keyed (h : HP) (p0 : Nat) (p1 : Nat) (p2 : Int32) : Option (HP) :=
  L_Rm_keyed_2 FU h p0 p1 p2 0
set_option maxHeartbeats 4000000 in
set_option maxRecDepth 100000 in
theorem c_Rm_keyed {l : Launch} {h h' : HP} {p0 p1 p2 : _} (hr : P_Rm_keyed h p0 p1 p2 = some h') : MP l y_Rm_keyed (Cond.code y_Rm_keyed b_Rm_keyed 4 none :: TB) rm_Rm_keyed h [.ref p0, .ref p1, .int p2] none h' := by
  refine MP_intro (cc := b_Rm_keyed) (by decide) (Nat.le_of_ble_eq_true rfl) (fun x hl0 C T hin => ?_)
  unfold P_Rm_keyed at hr
  show GG x 0 0 h 0 [(0, .ref p0), (1, .ref p1), (2, .int p2)] []
  refine g_iconst (v := 0) C d_Rm_keyed_0 (by decide) ?_
  refine g_istore_n (lv' := [(3, .int 0), (0, .ref p0), (1, .ref p1), (2, .int p2)]) C d_Rm_keyed_1 rfl (by decide) rfl ?_
  refine g_lv [1, 2, 3, 0] rfl ?_
  exact lp_Rm_keyed_2 C T hl0 FU h p0 p1 p2 0 hr
abbrev b_Rm_draw : ByteArray := prog_12_method_38_code
abbrev y_Rm_draw : MethodName := ⟨"PrimeKeysModel", "draw", "()V"⟩
theorem d_Rm_draw_0 : decode b_Rm_draw 0 = .ok (.iconst 0, 1) := by decide +kernel
theorem d_Rm_draw_1 : decode b_Rm_draw 1 = .ok (.istore_n 1, 1) := by decide +kernel
theorem d_Rm_draw_2 : decode b_Rm_draw 2 = .ok (.iload_n 1, 1) := by decide +kernel
theorem d_Rm_draw_3 : decode b_Rm_draw 3 = .ok (.bipush 32, 2) := by decide +kernel
theorem d_Rm_draw_5 : decode b_Rm_draw 5 = .ok (.if_icmp .ge 21, 3) := by decide +kernel
theorem d_Rm_draw_8 : decode b_Rm_draw 8 = .ok (.aload_n 0, 1) := by decide +kernel
theorem d_Rm_draw_9 : decode b_Rm_draw 9 = .ok (.getfield 211, 3) := by decide +kernel
theorem d_Rm_draw_12 : decode b_Rm_draw 12 = .ok (.iload_n 1, 1) := by decide +kernel
theorem d_Rm_draw_13 : decode b_Rm_draw 13 = .ok (.aload_n 0, 1) := by decide +kernel
theorem d_Rm_draw_14 : decode b_Rm_draw 14 = .ok (.getfield 208, 3) := by decide +kernel
theorem d_Rm_draw_17 : decode b_Rm_draw 17 = .ok (.iload_n 1, 1) := by decide +kernel
theorem d_Rm_draw_18 : decode b_Rm_draw 18 = .ok (.baload, 1) := by decide +kernel
theorem d_Rm_draw_19 : decode b_Rm_draw 19 = .ok (.bastore, 1) := by decide +kernel
theorem d_Rm_draw_20 : decode b_Rm_draw 20 = .ok (.iinc 1 1, 3) := by decide +kernel
theorem d_Rm_draw_23 : decode b_Rm_draw 23 = .ok (.goto (-21), 3) := by decide +kernel
theorem d_Rm_draw_26 : decode b_Rm_draw 26 = .ok (.aload_n 0, 1) := by decide +kernel
theorem d_Rm_draw_27 : decode b_Rm_draw 27 = .ok (.aload_n 0, 1) := by decide +kernel
theorem d_Rm_draw_28 : decode b_Rm_draw 28 = .ok (.getfield 208, 3) := by decide +kernel
theorem d_Rm_draw_31 : decode b_Rm_draw 31 = .ok (.bipush 32, 2) := by decide +kernel
theorem d_Rm_draw_33 : decode b_Rm_draw 33 = .ok (.invokevirtual 380, 3) := by decide +kernel
theorem d_Rm_draw_36 : decode b_Rm_draw 36 = .ok (.return_, 1) := by decide +kernel
theorem fl_Rm_208 : FL "PrimeKeysModel" 208 8 34 := ⟨R_Rm, F_Rm, 50, rfl, u_Rm, by decide, rfl, tb_4 (List.mem_of_getElem? (i := 188) (by decide +kernel)) rfl⟩
theorem cd_Rm_380 : CD "PrimeKeysModel" 380 y_Rm_keyed b_Rm_keyed 4 none 2 := ⟨tb_5 (List.mem_of_getElem? (i := 194) rfl) rfl, tb_1 (List.mem_of_getElem? (i := 13) (by decide +kernel)) rfl, tb_5 (List.mem_of_getElem? (i := 191) (by decide +kernel)) rfl, by decide +kernel⟩
theorem kw_in_Rm_keyed : Cond.instanceMethod y_Rm_keyed ∈ TB := tb_5 (List.mem_of_getElem? (i := 193) (by decide +kernel)) rfl
theorem kw_se_Rm_keyed : Cond.selects "PrimeKeysModel" y_Rm_keyed y_Rm_keyed ∈ TB := tb_p (q := (y_Rm_keyed, 50)) (by decide +kernel)
abbrev rm_Rm_draw : Room := { frames := 4, cells := 0, slots := 0, locals := 101 }
def B_Rm_draw_2 (K2 : HP → Nat → Int32 → Option (HP)) (h : HP) (a0 : Nat) (a1 : Int32) : Option (HP) :=
  if 32 ≤ a1 then
  bnd (gR h a0 8 34) fun k1 =>
  ob h a0 8 (
  bnd (P_Rm_keyed h a0 k1 32) fun h2 =>
  some h2)
  else
  bnd (gR h a0 8 35) fun k3 =>
  bnd (gR h a0 8 34) fun k4 =>
  bnd (ldB h k4 a1) fun v5 =>
  bnd (stB h k3 a1 v5) fun h6 =>
  lt (a1 + Int32.ofInt 1) fun x7 =>
  K2 h6 a0 x7
set_option maxHeartbeats 4000000 in
set_option maxRecDepth 100000 in
theorem bk_Rm_draw_2 {l : Launch} {x : CX} {h0 h' : HP} (C : EV x b_Rm_draw "PrimeKeysModel" 2 rm_Rm_draw) (T : CT x (none) rm_Rm_draw h0 none h') (hl0 : x.1.2.1 = l) (K2 : HP → Nat → Int32 → Option (HP)) (hK2 : ∀ (h : HP) (a0 : Nat) (a1 : Int32), K2 h a0 a1 = some h' → GG x 0 0 h 2 [(0, .ref a0), (1, .int a1)] []) (h : HP) (a0 : Nat) (a1 : Int32) (hr : B_Rm_draw_2 K2 h a0 a1 = some h') : GG x 0 0 h 2 [(0, .ref a0), (1, .int a1)] [] := by
  unfold B_Rm_draw_2 at hr
  refine g_iload_n C 1 rfl d_Rm_draw_2 rfl ?_
  refine g_bipush (v := 32) C d_Rm_draw_3 (by decide) ?_
  refine g_icmp_ge (tgt := 26) C d_Rm_draw_5 (by decide) (fun z => ?_) (fun z => ?_)
  · have hr := of_if z hr
    refine g_aload_n C 0 rfl d_Rm_draw_26 rfl ?_
    refine g_aload_n C 0 rfl d_Rm_draw_27 rfl ?_
    obtain ⟨k1, ek1, hr⟩ := of_bnd hr
    refine g_getR C fl_Rm_208 ek1 d_Rm_draw_28 ?_
    refine g_bipush (v := 32) C d_Rm_draw_31 (by decide) ?_
    obtain ⟨fsh2, hoh2, hr⟩ := of_ob hr
    obtain ⟨h2, eh2, hr⟩ := of_bnd hr
    refine g_callV (pa := [.ref k1, .int 32]) C hl0 (c_Rm_keyed eh2) cd_Rm_380 kw_in_Rm_keyed kw_se_Rm_keyed hoh2 rfl rfl (by decide) rfl rfl (Nat.le_of_ble_eq_true rfl) d_Rm_draw_33 ?_
    cases hr
    exact g_vreturn C T (by decide) (by decide) d_Rm_draw_36
  · have hr := of_el z hr
    refine g_aload_n C 0 rfl d_Rm_draw_8 rfl ?_
    obtain ⟨k3, ek3, hr⟩ := of_bnd hr
    refine g_getR C fl_Rm_211 ek3 d_Rm_draw_9 ?_
    refine g_iload_n C 1 rfl d_Rm_draw_12 rfl ?_
    refine g_aload_n C 0 rfl d_Rm_draw_13 rfl ?_
    obtain ⟨k4, ek4, hr⟩ := of_bnd hr
    refine g_getR C fl_Rm_208 ek4 d_Rm_draw_14 ?_
    refine g_iload_n C 1 rfl d_Rm_draw_17 rfl ?_
    obtain ⟨v5, ev5, hr⟩ := of_bnd hr
    refine g_baload C ev5 d_Rm_draw_18 ?_
    obtain ⟨h6, eh6, hr⟩ := of_bnd hr
    refine g_bastore C eh6 d_Rm_draw_19 ?_
    obtain ⟨x7, ex7⟩ : ∃ z, z = a1 + Int32.ofInt 1 := ⟨_, rfl⟩
    have hr := of_lt ex7 hr
    refine g_iinc (lv' := [(1, .int x7), (0, .ref a0)]) C 1 rfl d_Rm_draw_20 ex7.symm (by decide) rfl ?_
    refine g_goto (tgt := 2) C d_Rm_draw_23 (by decide) ?_
    refine g_lv [1, 0] rfl ?_
    exact hK2 h6 a0 x7 hr
def L_Rm_draw_2 : Nat → HP → Nat → Int32 → Option (HP)
  | 0, _, _, _ => none
  | f + 1, h, a0, a1 => B_Rm_draw_2 (L_Rm_draw_2 f) h a0 a1
theorem lp_Rm_draw_2 {l : Launch} {x : CX} {h0 h' : HP} (C : EV x b_Rm_draw "PrimeKeysModel" 2 rm_Rm_draw) (T : CT x (none) rm_Rm_draw h0 none h') (hl0 : x.1.2.1 = l) : ∀ (f : Nat) (h : HP) (a0 : Nat) (a1 : Int32), L_Rm_draw_2 f h a0 a1 = some h' → GG x 0 0 h 2 [(0, .ref a0), (1, .int a1)] [] := by
  intro f
  induction f with
  | zero => intro h a0 a1 hr; have hr : (none : Option (HP)) = some h' := hr; cases hr
  | succ f ih => intro h a0 a1 hr; exact bk_Rm_draw_2 C T hl0 (L_Rm_draw_2 f) ih h a0 a1 hr
def P_Rm_draw (h : HP) (p0 : Nat) : Option (HP) :=
  L_Rm_draw_2 FU h p0 0
set_option maxHeartbeats 4000000 in
set_option maxRecDepth 100000 in
theorem c_Rm_draw {l : Launch} {h h' : HP} {p0 : _} (hr : P_Rm_draw h p0 = some h') : MP l y_Rm_draw (Cond.code y_Rm_draw b_Rm_draw 2 none :: TB) rm_Rm_draw h [.ref p0] none h' := by
  refine MP_intro (cc := b_Rm_draw) (by decide) (Nat.le_of_ble_eq_true rfl) (fun x hl0 C T hin => ?_)
  unfold P_Rm_draw at hr
  show GG x 0 0 h 0 [(0, .ref p0)] []
  refine g_iconst (v := 0) C d_Rm_draw_0 (by decide) ?_
  refine g_istore_n (lv' := [(1, .int 0), (0, .ref p0)]) C d_Rm_draw_1 rfl (by decide) rfl ?_
  refine g_lv [1, 0] rfl ?_
  exact lp_Rm_draw_2 C T hl0 FU h p0 0 hr
abbrev b_Rm_link : ByteArray := prog_12_method_37_code
abbrev y_Rm_link : MethodName := ⟨"PrimeKeysModel", "link", "(IZI)V"⟩
theorem d_Rm_link_0 : decode b_Rm_link 0 = .ok (.iconst 0, 1) := by decide +kernel
theorem d_Rm_link_1 : decode b_Rm_link 1 = .ok (.istore 4, 2) := by decide +kernel
theorem d_Rm_link_3 : decode b_Rm_link 3 = .ok (.iload 4, 2) := by decide +kernel
theorem d_Rm_link_5 : decode b_Rm_link 5 = .ok (.bipush 32, 2) := by decide +kernel
theorem d_Rm_link_7 : decode b_Rm_link 7 = .ok (.if_icmp .ge 23, 3) := by decide +kernel
theorem d_Rm_link_10 : decode b_Rm_link 10 = .ok (.aload_n 0, 1) := by decide +kernel
theorem d_Rm_link_11 : decode b_Rm_link 11 = .ok (.getfield 211, 3) := by decide +kernel
theorem d_Rm_link_14 : decode b_Rm_link 14 = .ok (.iload 4, 2) := by decide +kernel
theorem d_Rm_link_16 : decode b_Rm_link 16 = .ok (.aload_n 0, 1) := by decide +kernel
theorem d_Rm_link_17 : decode b_Rm_link 17 = .ok (.getfield 208, 3) := by decide +kernel
theorem d_Rm_link_20 : decode b_Rm_link 20 = .ok (.iload 4, 2) := by decide +kernel
theorem d_Rm_link_22 : decode b_Rm_link 22 = .ok (.baload, 1) := by decide +kernel
theorem d_Rm_link_23 : decode b_Rm_link 23 = .ok (.bastore, 1) := by decide +kernel
theorem d_Rm_link_24 : decode b_Rm_link 24 = .ok (.iinc 4 1, 3) := by decide +kernel
theorem d_Rm_link_27 : decode b_Rm_link 27 = .ok (.goto (-24), 3) := by decide +kernel
theorem d_Rm_link_30 : decode b_Rm_link 30 = .ok (.aload_n 0, 1) := by decide +kernel
theorem d_Rm_link_31 : decode b_Rm_link 31 = .ok (.getfield 211, 3) := by decide +kernel
theorem d_Rm_link_34 : decode b_Rm_link 34 = .ok (.bipush 32, 2) := by decide +kernel
theorem d_Rm_link_36 : decode b_Rm_link 36 = .ok (.iload_n 1, 1) := by decide +kernel
theorem d_Rm_link_37 : decode b_Rm_link 37 = .ok (.i2b, 1) := by decide +kernel
theorem d_Rm_link_38 : decode b_Rm_link 38 = .ok (.bastore, 1) := by decide +kernel
theorem d_Rm_link_39 : decode b_Rm_link 39 = .ok (.iload_n 2, 1) := by decide +kernel
theorem d_Rm_link_40 : decode b_Rm_link 40 = .ok (.ifCond .eq 54, 3) := by decide +kernel
theorem d_Rm_link_43 : decode b_Rm_link 43 = .ok (.iconst 0, 1) := by decide +kernel
theorem d_Rm_link_44 : decode b_Rm_link 44 = .ok (.istore 4, 2) := by decide +kernel
theorem d_Rm_link_46 : decode b_Rm_link 46 = .ok (.iload 4, 2) := by decide +kernel
theorem d_Rm_link_48 : decode b_Rm_link 48 = .ok (.bipush 32, 2) := by decide +kernel
theorem d_Rm_link_50 : decode b_Rm_link 50 = .ok (.if_icmp .ge 31, 3) := by decide +kernel
theorem d_Rm_link_53 : decode b_Rm_link 53 = .ok (.aload_n 0, 1) := by decide +kernel
theorem d_Rm_link_54 : decode b_Rm_link 54 = .ok (.getfield 211, 3) := by decide +kernel
theorem d_Rm_link_57 : decode b_Rm_link 57 = .ok (.bipush 33, 2) := by decide +kernel
theorem d_Rm_link_59 : decode b_Rm_link 59 = .ok (.iload 4, 2) := by decide +kernel
theorem d_Rm_link_61 : decode b_Rm_link 61 = .ok (.iadd, 1) := by decide +kernel
theorem d_Rm_link_62 : decode b_Rm_link 62 = .ok (.aload_n 0, 1) := by decide +kernel
theorem d_Rm_link_63 : decode b_Rm_link 63 = .ok (.getfield 20, 3) := by decide +kernel
theorem d_Rm_link_66 : decode b_Rm_link 66 = .ok (.bipush 32, 2) := by decide +kernel
theorem d_Rm_link_68 : decode b_Rm_link 68 = .ok (.iload_n 3, 1) := by decide +kernel
theorem d_Rm_link_69 : decode b_Rm_link 69 = .ok (.imul, 1) := by decide +kernel
theorem d_Rm_link_70 : decode b_Rm_link 70 = .ok (.iload 4, 2) := by decide +kernel
theorem d_Rm_link_72 : decode b_Rm_link 72 = .ok (.iadd, 1) := by decide +kernel
theorem d_Rm_link_73 : decode b_Rm_link 73 = .ok (.baload, 1) := by decide +kernel
theorem d_Rm_link_74 : decode b_Rm_link 74 = .ok (.bastore, 1) := by decide +kernel
theorem d_Rm_link_75 : decode b_Rm_link 75 = .ok (.iinc 4 1, 3) := by decide +kernel
theorem d_Rm_link_78 : decode b_Rm_link 78 = .ok (.goto (-32), 3) := by decide +kernel
theorem d_Rm_link_81 : decode b_Rm_link 81 = .ok (.aload_n 0, 1) := by decide +kernel
theorem d_Rm_link_82 : decode b_Rm_link 82 = .ok (.getfield 211, 3) := by decide +kernel
theorem d_Rm_link_85 : decode b_Rm_link 85 = .ok (.bipush 65, 2) := by decide +kernel
theorem d_Rm_link_87 : decode b_Rm_link 87 = .ok (.aload_n 0, 1) := by decide +kernel
theorem d_Rm_link_88 : decode b_Rm_link 88 = .ok (.getfield 190, 3) := by decide +kernel
theorem d_Rm_link_91 : decode b_Rm_link 91 = .ok (.invokestatic 376, 3) := by decide +kernel
theorem d_Rm_link_94 : decode b_Rm_link 94 = .ok (.aload_n 0, 1) := by decide +kernel
theorem d_Rm_link_95 : decode b_Rm_link 95 = .ok (.aload_n 0, 1) := by decide +kernel
theorem d_Rm_link_96 : decode b_Rm_link 96 = .ok (.getfield 205, 3) := by decide +kernel
theorem d_Rm_link_99 : decode b_Rm_link 99 = .ok (.iload_n 2, 1) := by decide +kernel
theorem d_Rm_link_100 : decode b_Rm_link 100 = .ok (.ifCond .eq 8, 3) := by decide +kernel
theorem d_Rm_link_103 : decode b_Rm_link 103 = .ok (.bipush 97, 2) := by decide +kernel
theorem d_Rm_link_105 : decode b_Rm_link 105 = .ok (.goto 5, 3) := by decide +kernel
theorem d_Rm_link_108 : decode b_Rm_link 108 = .ok (.bipush 33, 2) := by decide +kernel
theorem d_Rm_link_110 : decode b_Rm_link 110 = .ok (.invokevirtual 380, 3) := by decide +kernel
theorem d_Rm_link_113 : decode b_Rm_link 113 = .ok (.aload_n 0, 1) := by decide +kernel
theorem d_Rm_link_114 : decode b_Rm_link 114 = .ok (.invokevirtual 383, 3) := by decide +kernel
theorem d_Rm_link_117 : decode b_Rm_link 117 = .ok (.return_, 1) := by decide +kernel
theorem fl_Rm_20 : FL "PrimeKeysModel" 20 8 4 := ⟨R_Rm, F_Rm, 50, rfl, u_Rm, by decide, rfl, tb_4 (List.mem_of_getElem? (i := 158) (by decide +kernel)) rfl⟩
theorem cd_Rm_383 : CD "PrimeKeysModel" 383 y_Rm_draw b_Rm_draw 2 none 0 := ⟨tb_5 (List.mem_of_getElem? (i := 198) rfl) rfl, tb_1 (List.mem_of_getElem? (i := 13) (by decide +kernel)) rfl, tb_5 (List.mem_of_getElem? (i := 195) (by decide +kernel)) rfl, by decide +kernel⟩
theorem kw_in_Rm_draw : Cond.instanceMethod y_Rm_draw ∈ TB := tb_5 (List.mem_of_getElem? (i := 197) (by decide +kernel)) rfl
theorem kw_se_Rm_draw : Cond.selects "PrimeKeysModel" y_Rm_draw y_Rm_draw ∈ TB := tb_p (q := (y_Rm_draw, 50)) (by decide +kernel)
theorem cd_Rm_376 : CD "PrimeKeysModel" 376 y_Rm_store b_Rm_store 4 none 3 := ⟨tb_5 (List.mem_of_getElem? (i := 147) rfl) rfl, tb_1 (List.mem_of_getElem? (i := 13) (by decide +kernel)) rfl, tb_5 (List.mem_of_getElem? (i := 145) (by decide +kernel)) rfl, by decide +kernel⟩
theorem kw_st_Rm_store : Cond.static y_Rm_store ∈ TB := tb_5 (List.mem_of_getElem? (i := 146) (by decide +kernel)) rfl
abbrev rm_Rm_link : Room := { frames := 5, cells := 0, slots := 0, locals := 122 }
def B_Rm_link_94 (K3 : HP → Nat → Int32 → Int32 → Int32 → Int32 → Option (HP)) (h : HP) (a0 : Nat) (a2 : Int32) : Option (HP) :=
  bnd (gR h a0 8 33) fun k3 =>
  if a2 = 0 then
  ob h a0 8 (
  bnd (P_Rm_keyed h a0 k3 33) fun h4 =>
  ob h4 a0 8 (
  bnd (P_Rm_draw h4 a0) fun h5 =>
  some h5))
  else
  ob h a0 8 (
  bnd (P_Rm_keyed h a0 k3 97) fun h6 =>
  ob h6 a0 8 (
  bnd (P_Rm_draw h6 a0) fun h7 =>
  some h7))
set_option maxHeartbeats 4000000 in
set_option maxRecDepth 100000 in
theorem bk_Rm_link_94 {l : Launch} {x : CX} {h0 h' : HP} (C : EV x b_Rm_link "PrimeKeysModel" 5 rm_Rm_link) (T : CT x (none) rm_Rm_link h0 none h') (hl0 : x.1.2.1 = l) (K3 : HP → Nat → Int32 → Int32 → Int32 → Int32 → Option (HP)) (hK3 : ∀ (h : HP) (a0 : Nat) (a1 : Int32) (a2 : Int32) (a3 : Int32) (a4 : Int32), K3 h a0 a1 a2 a3 a4 = some h' → GG x 0 0 h 3 [(0, .ref a0), (1, .int a1), (2, .int a2), (3, .int a3), (4, .int a4)] []) (h : HP) (a0 : Nat) (a2 : Int32) (hr : B_Rm_link_94 K3 h a0 a2 = some h') : GG x 0 0 h 94 [(0, .ref a0), (2, .int a2)] [] := by
  unfold B_Rm_link_94 at hr
  refine g_aload_n C 0 rfl d_Rm_link_94 rfl ?_
  refine g_aload_n C 0 rfl d_Rm_link_95 rfl ?_
  obtain ⟨k3, ek3, hr⟩ := of_bnd hr
  refine g_getR C fl_Rm_205 ek3 d_Rm_link_96 ?_
  refine g_iload_n C 1 rfl d_Rm_link_99 rfl ?_
  refine g_if_eq (tgt := 108) C d_Rm_link_100 (by decide) (fun z => ?_) (fun z => ?_)
  · have hr := of_if z hr
    refine g_bipush (v := 33) C d_Rm_link_108 (by decide) ?_
    obtain ⟨fsh4, hoh4, hr⟩ := of_ob hr
    obtain ⟨h4, eh4, hr⟩ := of_bnd hr
    refine g_callV (pa := [.ref k3, .int 33]) C hl0 (c_Rm_keyed eh4) cd_Rm_380 kw_in_Rm_keyed kw_se_Rm_keyed hoh4 rfl rfl (by decide) rfl rfl (Nat.le_of_ble_eq_true rfl) d_Rm_link_110 ?_
    refine g_aload_n C 0 rfl d_Rm_link_113 rfl ?_
    obtain ⟨fsh5, hoh5, hr⟩ := of_ob hr
    obtain ⟨h5, eh5, hr⟩ := of_bnd hr
    refine g_callV (pa := []) C hl0 (c_Rm_draw eh5) cd_Rm_383 kw_in_Rm_draw kw_se_Rm_draw hoh5 rfl rfl (by decide) rfl rfl (Nat.le_of_ble_eq_true rfl) d_Rm_link_114 ?_
    cases hr
    exact g_vreturn C T (by decide) (by decide) d_Rm_link_117
  · have hr := of_el z hr
    refine g_bipush (v := 97) C d_Rm_link_103 (by decide) ?_
    refine g_goto (tgt := 110) C d_Rm_link_105 (by decide) ?_
    obtain ⟨fsh6, hoh6, hr⟩ := of_ob hr
    obtain ⟨h6, eh6, hr⟩ := of_bnd hr
    refine g_callV (pa := [.ref k3, .int 97]) C hl0 (c_Rm_keyed eh6) cd_Rm_380 kw_in_Rm_keyed kw_se_Rm_keyed hoh6 rfl rfl (by decide) rfl rfl (Nat.le_of_ble_eq_true rfl) d_Rm_link_110 ?_
    refine g_aload_n C 0 rfl d_Rm_link_113 rfl ?_
    obtain ⟨fsh7, hoh7, hr⟩ := of_ob hr
    obtain ⟨h7, eh7, hr⟩ := of_bnd hr
    refine g_callV (pa := []) C hl0 (c_Rm_draw eh7) cd_Rm_383 kw_in_Rm_draw kw_se_Rm_draw hoh7 rfl rfl (by decide) rfl rfl (Nat.le_of_ble_eq_true rfl) d_Rm_link_114 ?_
    cases hr
    exact g_vreturn C T (by decide) (by decide) d_Rm_link_117
def B_Rm_link_46 (K3 : HP → Nat → Int32 → Int32 → Int32 → Int32 → Option (HP)) (K46 : HP → Nat → Int32 → Int32 → Int32 → Option (HP)) (h : HP) (a0 : Nat) (a2 : Int32) (a3 : Int32) (a4 : Int32) : Option (HP) :=
  if 32 ≤ a4 then
  bnd (gR h a0 8 35) fun k8 =>
  bnd (gR h a0 8 28) fun k9 =>
  bnd (P_Rm_store h k8 65 k9) fun h10 =>
  B_Rm_link_94 K3 h10 a0 a2
  else
  bnd (gR h a0 8 35) fun k11 =>
  bnd (gR h a0 8 4) fun k12 =>
  bnd (ldB h k12 ((32 * a3) + a4)) fun v13 =>
  bnd (stB h k11 (33 + a4) v13) fun h14 =>
  lt (a4 + Int32.ofInt 1) fun x15 =>
  K46 h14 a0 a2 a3 x15
set_option maxHeartbeats 4000000 in
set_option maxRecDepth 100000 in
theorem bk_Rm_link_46 {l : Launch} {x : CX} {h0 h' : HP} (C : EV x b_Rm_link "PrimeKeysModel" 5 rm_Rm_link) (T : CT x (none) rm_Rm_link h0 none h') (hl0 : x.1.2.1 = l) (K3 : HP → Nat → Int32 → Int32 → Int32 → Int32 → Option (HP)) (K46 : HP → Nat → Int32 → Int32 → Int32 → Option (HP)) (hK3 : ∀ (h : HP) (a0 : Nat) (a1 : Int32) (a2 : Int32) (a3 : Int32) (a4 : Int32), K3 h a0 a1 a2 a3 a4 = some h' → GG x 0 0 h 3 [(0, .ref a0), (1, .int a1), (2, .int a2), (3, .int a3), (4, .int a4)] []) (hK46 : ∀ (h : HP) (a0 : Nat) (a2 : Int32) (a3 : Int32) (a4 : Int32), K46 h a0 a2 a3 a4 = some h' → GG x 0 0 h 46 [(0, .ref a0), (2, .int a2), (3, .int a3), (4, .int a4)] []) (h : HP) (a0 : Nat) (a2 : Int32) (a3 : Int32) (a4 : Int32) (hr : B_Rm_link_46 K3 K46 h a0 a2 a3 a4 = some h') : GG x 0 0 h 46 [(0, .ref a0), (2, .int a2), (3, .int a3), (4, .int a4)] [] := by
  unfold B_Rm_link_46 at hr
  refine g_iload C 3 rfl d_Rm_link_46 ?_
  refine g_bipush (v := 32) C d_Rm_link_48 (by decide) ?_
  refine g_icmp_ge (tgt := 81) C d_Rm_link_50 (by decide) (fun z => ?_) (fun z => ?_)
  · have hr := of_if z hr
    refine g_aload_n C 0 rfl d_Rm_link_81 rfl ?_
    obtain ⟨k8, ek8, hr⟩ := of_bnd hr
    refine g_getR C fl_Rm_211 ek8 d_Rm_link_82 ?_
    refine g_bipush (v := 65) C d_Rm_link_85 (by decide) ?_
    refine g_aload_n C 0 rfl d_Rm_link_87 rfl ?_
    obtain ⟨k9, ek9, hr⟩ := of_bnd hr
    refine g_getR C fl_Rm_190 ek9 d_Rm_link_88 ?_
    obtain ⟨h10, eh10, hr⟩ := of_bnd hr
    refine g_callS (pa := [.ref k8, .int 65, .ref k9]) C hl0 (c_Rm_store eh10) cd_Rm_376 kw_st_Rm_store (by decide) rfl rfl (Nat.le_of_ble_eq_true rfl) d_Rm_link_91 ?_
    refine g_lv [0, 1] rfl ?_
    exact bk_Rm_link_94 C T hl0 K3 hK3 h10 a0 a2 hr
  · have hr := of_el z hr
    refine g_aload_n C 0 rfl d_Rm_link_53 rfl ?_
    obtain ⟨k11, ek11, hr⟩ := of_bnd hr
    refine g_getR C fl_Rm_211 ek11 d_Rm_link_54 ?_
    refine g_bipush (v := 33) C d_Rm_link_57 (by decide) ?_
    refine g_iload C 3 rfl d_Rm_link_59 ?_
    refine g_iadd C d_Rm_link_61 ?_
    refine g_aload_n C 0 rfl d_Rm_link_62 rfl ?_
    obtain ⟨k12, ek12, hr⟩ := of_bnd hr
    refine g_getR C fl_Rm_20 ek12 d_Rm_link_63 ?_
    refine g_bipush (v := 32) C d_Rm_link_66 (by decide) ?_
    refine g_iload_n C 2 rfl d_Rm_link_68 rfl ?_
    refine g_imul C d_Rm_link_69 ?_
    refine g_iload C 3 rfl d_Rm_link_70 ?_
    refine g_iadd C d_Rm_link_72 ?_
    obtain ⟨v13, ev13, hr⟩ := of_bnd hr
    refine g_baload C ev13 d_Rm_link_73 ?_
    obtain ⟨h14, eh14, hr⟩ := of_bnd hr
    refine g_bastore C eh14 d_Rm_link_74 ?_
    obtain ⟨x15, ex15⟩ : ∃ z, z = a4 + Int32.ofInt 1 := ⟨_, rfl⟩
    have hr := of_lt ex15 hr
    refine g_iinc (lv' := [(4, .int x15), (0, .ref a0), (2, .int a2), (3, .int a3)]) C 3 rfl d_Rm_link_75 ex15.symm (by decide) rfl ?_
    refine g_goto (tgt := 46) C d_Rm_link_78 (by decide) ?_
    refine g_lv [1, 2, 3, 0] rfl ?_
    exact hK46 h14 a0 a2 a3 x15 hr
def L_Rm_link_46 (K3 : HP → Nat → Int32 → Int32 → Int32 → Int32 → Option (HP)) : Nat → HP → Nat → Int32 → Int32 → Int32 → Option (HP)
  | 0, _, _, _, _, _ => none
  | f + 1, h, a0, a2, a3, a4 => B_Rm_link_46 K3 (L_Rm_link_46 K3 f) h a0 a2 a3 a4
theorem lp_Rm_link_46 {l : Launch} {x : CX} {h0 h' : HP} (C : EV x b_Rm_link "PrimeKeysModel" 5 rm_Rm_link) (T : CT x (none) rm_Rm_link h0 none h') (hl0 : x.1.2.1 = l) (K3 : HP → Nat → Int32 → Int32 → Int32 → Int32 → Option (HP)) (hK3 : ∀ (h : HP) (a0 : Nat) (a1 : Int32) (a2 : Int32) (a3 : Int32) (a4 : Int32), K3 h a0 a1 a2 a3 a4 = some h' → GG x 0 0 h 3 [(0, .ref a0), (1, .int a1), (2, .int a2), (3, .int a3), (4, .int a4)] []) : ∀ (f : Nat) (h : HP) (a0 : Nat) (a2 : Int32) (a3 : Int32) (a4 : Int32), L_Rm_link_46 K3 f h a0 a2 a3 a4 = some h' → GG x 0 0 h 46 [(0, .ref a0), (2, .int a2), (3, .int a3), (4, .int a4)] [] := by
  intro f
  induction f with
  | zero => intro h a0 a2 a3 a4 hr; have hr : (none : Option (HP)) = some h' := hr; cases hr
  | succ f ih => intro h a0 a2 a3 a4 hr; exact bk_Rm_link_46 C T hl0 K3 (L_Rm_link_46 K3 f) hK3 ih h a0 a2 a3 a4 hr
def B_Rm_link_3 (K3 : HP → Nat → Int32 → Int32 → Int32 → Int32 → Option (HP)) (h : HP) (a0 : Nat) (a1 : Int32) (a2 : Int32) (a3 : Int32) (a4 : Int32) : Option (HP) :=
  if 32 ≤ a4 then
  bnd (gR h a0 8 35) fun k1 =>
  bnd (stB h k1 32 ((Int32.toInt8 a1).toInt32)) fun h2 =>
  if a2 = 0 then
  B_Rm_link_94 K3 h2 a0 a2
  else
  L_Rm_link_46 K3 FU h2 a0 a2 a3 0
  else
  bnd (gR h a0 8 35) fun k16 =>
  bnd (gR h a0 8 34) fun k17 =>
  bnd (ldB h k17 a4) fun v18 =>
  bnd (stB h k16 a4 v18) fun h19 =>
  lt (a4 + Int32.ofInt 1) fun x20 =>
  K3 h19 a0 a1 a2 a3 x20
set_option maxHeartbeats 4000000 in
set_option maxRecDepth 100000 in
theorem bk_Rm_link_3 {l : Launch} {x : CX} {h0 h' : HP} (C : EV x b_Rm_link "PrimeKeysModel" 5 rm_Rm_link) (T : CT x (none) rm_Rm_link h0 none h') (hl0 : x.1.2.1 = l) (K3 : HP → Nat → Int32 → Int32 → Int32 → Int32 → Option (HP)) (hK3 : ∀ (h : HP) (a0 : Nat) (a1 : Int32) (a2 : Int32) (a3 : Int32) (a4 : Int32), K3 h a0 a1 a2 a3 a4 = some h' → GG x 0 0 h 3 [(0, .ref a0), (1, .int a1), (2, .int a2), (3, .int a3), (4, .int a4)] []) (h : HP) (a0 : Nat) (a1 : Int32) (a2 : Int32) (a3 : Int32) (a4 : Int32) (hr : B_Rm_link_3 K3 h a0 a1 a2 a3 a4 = some h') : GG x 0 0 h 3 [(0, .ref a0), (1, .int a1), (2, .int a2), (3, .int a3), (4, .int a4)] [] := by
  unfold B_Rm_link_3 at hr
  refine g_iload C 4 rfl d_Rm_link_3 ?_
  refine g_bipush (v := 32) C d_Rm_link_5 (by decide) ?_
  refine g_icmp_ge (tgt := 30) C d_Rm_link_7 (by decide) (fun z => ?_) (fun z => ?_)
  · have hr := of_if z hr
    refine g_aload_n C 0 rfl d_Rm_link_30 rfl ?_
    obtain ⟨k1, ek1, hr⟩ := of_bnd hr
    refine g_getR C fl_Rm_211 ek1 d_Rm_link_31 ?_
    refine g_bipush (v := 32) C d_Rm_link_34 (by decide) ?_
    refine g_iload_n C 1 rfl d_Rm_link_36 rfl ?_
    refine g_i2b C d_Rm_link_37 ?_
    obtain ⟨h2, eh2, hr⟩ := of_bnd hr
    refine g_bastore C eh2 d_Rm_link_38 ?_
    refine g_iload_n C 2 rfl d_Rm_link_39 rfl ?_
    refine g_if_eq (tgt := 94) C d_Rm_link_40 (by decide) (fun z => ?_) (fun z => ?_)
    · have hr := of_if z hr
      refine g_lv [0, 2] rfl ?_
      exact bk_Rm_link_94 C T hl0 K3 hK3 h2 a0 a2 hr
    · have hr := of_el z hr
      refine g_iconst (v := 0) C d_Rm_link_43 (by decide) ?_
      refine g_istore (lv' := [(4, .int 0), (0, .ref a0), (1, .int a1), (2, .int a2), (3, .int a3)]) C d_Rm_link_44 (by decide) rfl ?_
      refine g_lv [1, 3, 4, 0] rfl ?_
      exact lp_Rm_link_46 C T hl0 K3 hK3 FU h2 a0 a2 a3 0 hr
  · have hr := of_el z hr
    refine g_aload_n C 0 rfl d_Rm_link_10 rfl ?_
    obtain ⟨k16, ek16, hr⟩ := of_bnd hr
    refine g_getR C fl_Rm_211 ek16 d_Rm_link_11 ?_
    refine g_iload C 4 rfl d_Rm_link_14 ?_
    refine g_aload_n C 0 rfl d_Rm_link_16 rfl ?_
    obtain ⟨k17, ek17, hr⟩ := of_bnd hr
    refine g_getR C fl_Rm_208 ek17 d_Rm_link_17 ?_
    refine g_iload C 4 rfl d_Rm_link_20 ?_
    obtain ⟨v18, ev18, hr⟩ := of_bnd hr
    refine g_baload C ev18 d_Rm_link_22 ?_
    obtain ⟨h19, eh19, hr⟩ := of_bnd hr
    refine g_bastore C eh19 d_Rm_link_23 ?_
    obtain ⟨x20, ex20⟩ : ∃ z, z = a4 + Int32.ofInt 1 := ⟨_, rfl⟩
    have hr := of_lt ex20 hr
    refine g_iinc (lv' := [(4, .int x20), (0, .ref a0), (1, .int a1), (2, .int a2), (3, .int a3)]) C 4 rfl d_Rm_link_24 ex20.symm (by decide) rfl ?_
    refine g_goto (tgt := 3) C d_Rm_link_27 (by decide) ?_
    refine g_lv [1, 2, 3, 4, 0] rfl ?_
    exact hK3 h19 a0 a1 a2 a3 x20 hr
def L_Rm_link_3 : Nat → HP → Nat → Int32 → Int32 → Int32 → Int32 → Option (HP)
  | 0, _, _, _, _, _, _ => none
  | f + 1, h, a0, a1, a2, a3, a4 => B_Rm_link_3 (L_Rm_link_3 f) h a0 a1 a2 a3 a4
theorem lp_Rm_link_3 {l : Launch} {x : CX} {h0 h' : HP} (C : EV x b_Rm_link "PrimeKeysModel" 5 rm_Rm_link) (T : CT x (none) rm_Rm_link h0 none h') (hl0 : x.1.2.1 = l) : ∀ (f : Nat) (h : HP) (a0 : Nat) (a1 : Int32) (a2 : Int32) (a3 : Int32) (a4 : Int32), L_Rm_link_3 f h a0 a1 a2 a3 a4 = some h' → GG x 0 0 h 3 [(0, .ref a0), (1, .int a1), (2, .int a2), (3, .int a3), (4, .int a4)] [] := by
  intro f
  induction f with
  | zero => intro h a0 a1 a2 a3 a4 hr; have hr : (none : Option (HP)) = some h' := hr; cases hr
  | succ f ih => intro h a0 a1 a2 a3 a4 hr; exact bk_Rm_link_3 C T hl0 (L_Rm_link_3 f) ih h a0 a1 a2 a3 a4 hr
def P_Rm_link (h : HP) (p0 : Nat) (p1 : Int32) (p2 : Int32) (p3 : Int32) : Option (HP) :=
  L_Rm_link_3 FU h p0 p1 p2 p3 0
set_option maxHeartbeats 4000000 in
set_option maxRecDepth 100000 in
theorem c_Rm_link {l : Launch} {h h' : HP} {p0 p1 p2 p3 : _} (hr : P_Rm_link h p0 p1 p2 p3 = some h') : MP l y_Rm_link (Cond.code y_Rm_link b_Rm_link 5 none :: TB) rm_Rm_link h [.ref p0, .int p1, .int p2, .int p3] none h' := by
  refine MP_intro (cc := b_Rm_link) (by decide) (Nat.le_of_ble_eq_true rfl) (fun x hl0 C T hin => ?_)
  unfold P_Rm_link at hr
  show GG x 0 0 h 0 [(0, .ref p0), (1, .int p1), (2, .int p2), (3, .int p3)] []
  refine g_iconst (v := 0) C d_Rm_link_0 (by decide) ?_
  refine g_istore (lv' := [(4, .int 0), (0, .ref p0), (1, .int p1), (2, .int p2), (3, .int p3)]) C d_Rm_link_1 (by decide) rfl ?_
  refine g_lv [1, 2, 3, 4, 0] rfl ?_
  exact lp_Rm_link_3 C T hl0 FU h p0 p1 p2 p3 0 hr
abbrev b_Rm_signed : ByteArray := prog_12_method_39_code
abbrev y_Rm_signed : MethodName := ⟨"PrimeKeysModel", "signed", "(I)Z"⟩
theorem d_Rm_signed_0 : decode b_Rm_signed 0 = .ok (.aload_n 0, 1) := by decide +kernel
theorem d_Rm_signed_1 : decode b_Rm_signed 1 = .ok (.getfield 199, 3) := by decide +kernel
theorem d_Rm_signed_4 : decode b_Rm_signed 4 = .ok (.aload_n 0, 1) := by decide +kernel
theorem d_Rm_signed_5 : decode b_Rm_signed 5 = .ok (.getfield 208, 3) := by decide +kernel
theorem d_Rm_signed_8 : decode b_Rm_signed 8 = .ok (.iconst 0, 1) := by decide +kernel
theorem d_Rm_signed_9 : decode b_Rm_signed 9 = .ok (.invokestatic 372, 3) := by decide +kernel
theorem d_Rm_signed_12 : decode b_Rm_signed 12 = .ok (.aload_n 0, 1) := by decide +kernel
theorem d_Rm_signed_13 : decode b_Rm_signed 13 = .ok (.getfield 199, 3) := by decide +kernel
theorem d_Rm_signed_16 : decode b_Rm_signed 16 = .ok (.invokestatic 290, 3) := by decide +kernel
theorem d_Rm_signed_19 : decode b_Rm_signed 19 = .ok (.ifCond .ne 17, 3) := by decide +kernel
theorem d_Rm_signed_22 : decode b_Rm_signed 22 = .ok (.aload_n 0, 1) := by decide +kernel
theorem d_Rm_signed_23 : decode b_Rm_signed 23 = .ok (.getfield 199, 3) := by decide +kernel
theorem d_Rm_signed_26 : decode b_Rm_signed 26 = .ok (.aload_n 0, 1) := by decide +kernel
theorem d_Rm_signed_27 : decode b_Rm_signed 27 = .ok (.getfield 49, 3) := by decide +kernel
theorem d_Rm_signed_30 : decode b_Rm_signed 30 = .ok (.invokestatic 268, 3) := by decide +kernel
theorem d_Rm_signed_33 : decode b_Rm_signed 33 = .ok (.ifCond .ne 5, 3) := by decide +kernel
theorem d_Rm_signed_36 : decode b_Rm_signed 36 = .ok (.iconst 0, 1) := by decide +kernel
theorem d_Rm_signed_37 : decode b_Rm_signed 37 = .ok (.ireturn, 1) := by decide +kernel
theorem d_Rm_signed_38 : decode b_Rm_signed 38 = .ok (.aload_n 0, 1) := by decide +kernel
theorem d_Rm_signed_39 : decode b_Rm_signed 39 = .ok (.aload_n 0, 1) := by decide +kernel
theorem d_Rm_signed_40 : decode b_Rm_signed 40 = .ok (.getfield 199, 3) := by decide +kernel
theorem d_Rm_signed_43 : decode b_Rm_signed 43 = .ok (.invokevirtual 386, 3) := by decide +kernel
theorem d_Rm_signed_46 : decode b_Rm_signed 46 = .ok (.aload_n 0, 1) := by decide +kernel
theorem d_Rm_signed_47 : decode b_Rm_signed 47 = .ok (.getfield 193, 3) := by decide +kernel
theorem d_Rm_signed_50 : decode b_Rm_signed 50 = .ok (.aload_n 0, 1) := by decide +kernel
theorem d_Rm_signed_51 : decode b_Rm_signed 51 = .ok (.getfield 163, 3) := by decide +kernel
theorem d_Rm_signed_54 : decode b_Rm_signed 54 = .ok (.invokestatic 286, 3) := by decide +kernel
theorem d_Rm_signed_57 : decode b_Rm_signed 57 = .ok (.aload_n 0, 1) := by decide +kernel
theorem d_Rm_signed_58 : decode b_Rm_signed 58 = .ok (.getfield 193, 3) := by decide +kernel
theorem d_Rm_signed_61 : decode b_Rm_signed 61 = .ok (.aload_n 0, 1) := by decide +kernel
theorem d_Rm_signed_62 : decode b_Rm_signed 62 = .ok (.getfield 49, 3) := by decide +kernel
theorem d_Rm_signed_65 : decode b_Rm_signed 65 = .ok (.invokestatic 268, 3) := by decide +kernel
theorem d_Rm_signed_68 : decode b_Rm_signed 68 = .ok (.ifCond .ne 18, 3) := by decide +kernel
theorem d_Rm_signed_71 : decode b_Rm_signed 71 = .ok (.aload_n 0, 1) := by decide +kernel
theorem d_Rm_signed_72 : decode b_Rm_signed 72 = .ok (.getfield 193, 3) := by decide +kernel
theorem d_Rm_signed_75 : decode b_Rm_signed 75 = .ok (.aload_n 0, 1) := by decide +kernel
theorem d_Rm_signed_76 : decode b_Rm_signed 76 = .ok (.getfield 193, 3) := by decide +kernel
theorem d_Rm_signed_79 : decode b_Rm_signed 79 = .ok (.aload_n 0, 1) := by decide +kernel
theorem d_Rm_signed_80 : decode b_Rm_signed 80 = .ok (.getfield 49, 3) := by decide +kernel
theorem d_Rm_signed_83 : decode b_Rm_signed 83 = .ok (.invokestatic 272, 3) := by decide +kernel
theorem d_Rm_signed_86 : decode b_Rm_signed 86 = .ok (.aload_n 0, 1) := by decide +kernel
theorem d_Rm_signed_87 : decode b_Rm_signed 87 = .ok (.getfield 202, 3) := by decide +kernel
theorem d_Rm_signed_90 : decode b_Rm_signed 90 = .ok (.aload_n 0, 1) := by decide +kernel
theorem d_Rm_signed_91 : decode b_Rm_signed 91 = .ok (.getfield 20, 3) := by decide +kernel
theorem d_Rm_signed_94 : decode b_Rm_signed 94 = .ok (.bipush 32, 2) := by decide +kernel
theorem d_Rm_signed_96 : decode b_Rm_signed 96 = .ok (.iload_n 1, 1) := by decide +kernel
theorem d_Rm_signed_97 : decode b_Rm_signed 97 = .ok (.imul, 1) := by decide +kernel
theorem d_Rm_signed_98 : decode b_Rm_signed 98 = .ok (.invokestatic 372, 3) := by decide +kernel
theorem d_Rm_signed_101 : decode b_Rm_signed 101 = .ok (.aload_n 0, 1) := by decide +kernel
theorem d_Rm_signed_102 : decode b_Rm_signed 102 = .ok (.aload_n 0, 1) := by decide +kernel
theorem d_Rm_signed_103 : decode b_Rm_signed 103 = .ok (.getfield 202, 3) := by decide +kernel
theorem d_Rm_signed_106 : decode b_Rm_signed 106 = .ok (.aload_n 0, 1) := by decide +kernel
theorem d_Rm_signed_107 : decode b_Rm_signed 107 = .ok (.getfield 202, 3) := by decide +kernel
theorem d_Rm_signed_110 : decode b_Rm_signed 110 = .ok (.aload_n 0, 1) := by decide +kernel
theorem d_Rm_signed_111 : decode b_Rm_signed 111 = .ok (.getfield 193, 3) := by decide +kernel
theorem d_Rm_signed_114 : decode b_Rm_signed 114 = .ok (.aload_n 0, 1) := by decide +kernel
theorem d_Rm_signed_115 : decode b_Rm_signed 115 = .ok (.getfield 49, 3) := by decide +kernel
theorem d_Rm_signed_118 : decode b_Rm_signed 118 = .ok (.aload_n 0, 1) := by decide +kernel
theorem d_Rm_signed_119 : decode b_Rm_signed 119 = .ok (.getfield 160, 3) := by decide +kernel
theorem d_Rm_signed_122 : decode b_Rm_signed 122 = .ok (.invokevirtual 338, 3) := by decide +kernel
theorem d_Rm_signed_125 : decode b_Rm_signed 125 = .ok (.aload_n 0, 1) := by decide +kernel
theorem d_Rm_signed_126 : decode b_Rm_signed 126 = .ok (.getfield 202, 3) := by decide +kernel
theorem d_Rm_signed_129 : decode b_Rm_signed 129 = .ok (.aload_n 0, 1) := by decide +kernel
theorem d_Rm_signed_130 : decode b_Rm_signed 130 = .ok (.getfield 202, 3) := by decide +kernel
theorem d_Rm_signed_133 : decode b_Rm_signed 133 = .ok (.aload_n 0, 1) := by decide +kernel
theorem d_Rm_signed_134 : decode b_Rm_signed 134 = .ok (.getfield 190, 3) := by decide +kernel
theorem d_Rm_signed_137 : decode b_Rm_signed 137 = .ok (.aload_n 0, 1) := by decide +kernel
theorem d_Rm_signed_138 : decode b_Rm_signed 138 = .ok (.getfield 49, 3) := by decide +kernel
theorem d_Rm_signed_141 : decode b_Rm_signed 141 = .ok (.invokestatic 279, 3) := by decide +kernel
theorem d_Rm_signed_144 : decode b_Rm_signed 144 = .ok (.aload_n 0, 1) := by decide +kernel
theorem d_Rm_signed_145 : decode b_Rm_signed 145 = .ok (.aload_n 0, 1) := by decide +kernel
theorem d_Rm_signed_146 : decode b_Rm_signed 146 = .ok (.getfield 187, 3) := by decide +kernel
theorem d_Rm_signed_149 : decode b_Rm_signed 149 = .ok (.aload_n 0, 1) := by decide +kernel
theorem d_Rm_signed_150 : decode b_Rm_signed 150 = .ok (.getfield 199, 3) := by decide +kernel
theorem d_Rm_signed_153 : decode b_Rm_signed 153 = .ok (.aload_n 0, 1) := by decide +kernel
theorem d_Rm_signed_154 : decode b_Rm_signed 154 = .ok (.getfield 49, 3) := by decide +kernel
theorem d_Rm_signed_157 : decode b_Rm_signed 157 = .ok (.invokevirtual 352, 3) := by decide +kernel
theorem d_Rm_signed_160 : decode b_Rm_signed 160 = .ok (.aload_n 0, 1) := by decide +kernel
theorem d_Rm_signed_161 : decode b_Rm_signed 161 = .ok (.aload_n 0, 1) := by decide +kernel
theorem d_Rm_signed_162 : decode b_Rm_signed 162 = .ok (.getfield 196, 3) := by decide +kernel
theorem d_Rm_signed_165 : decode b_Rm_signed 165 = .ok (.aload_n 0, 1) := by decide +kernel
theorem d_Rm_signed_166 : decode b_Rm_signed 166 = .ok (.getfield 202, 3) := by decide +kernel
theorem d_Rm_signed_169 : decode b_Rm_signed 169 = .ok (.aload_n 0, 1) := by decide +kernel
theorem d_Rm_signed_170 : decode b_Rm_signed 170 = .ok (.getfield 187, 3) := by decide +kernel
theorem d_Rm_signed_173 : decode b_Rm_signed 173 = .ok (.aload_n 0, 1) := by decide +kernel
theorem d_Rm_signed_174 : decode b_Rm_signed 174 = .ok (.getfield 49, 3) := by decide +kernel
theorem d_Rm_signed_177 : decode b_Rm_signed 177 = .ok (.aload_n 0, 1) := by decide +kernel
theorem d_Rm_signed_178 : decode b_Rm_signed 178 = .ok (.getfield 160, 3) := by decide +kernel
theorem d_Rm_signed_181 : decode b_Rm_signed 181 = .ok (.invokevirtual 338, 3) := by decide +kernel
theorem d_Rm_signed_184 : decode b_Rm_signed 184 = .ok (.aload_n 0, 1) := by decide +kernel
theorem d_Rm_signed_185 : decode b_Rm_signed 185 = .ok (.getfield 193, 3) := by decide +kernel
theorem d_Rm_signed_188 : decode b_Rm_signed 188 = .ok (.invokestatic 290, 3) := by decide +kernel
theorem d_Rm_signed_191 : decode b_Rm_signed 191 = .ok (.ifCond .ne 17, 3) := by decide +kernel
theorem d_Rm_signed_194 : decode b_Rm_signed 194 = .ok (.aload_n 0, 1) := by decide +kernel
theorem d_Rm_signed_195 : decode b_Rm_signed 195 = .ok (.getfield 196, 3) := by decide +kernel
theorem d_Rm_signed_198 : decode b_Rm_signed 198 = .ok (.invokestatic 290, 3) := by decide +kernel
theorem d_Rm_signed_201 : decode b_Rm_signed 201 = .ok (.ifCond .ne 7, 3) := by decide +kernel
theorem d_Rm_signed_204 : decode b_Rm_signed 204 = .ok (.iconst 1, 1) := by decide +kernel
theorem d_Rm_signed_205 : decode b_Rm_signed 205 = .ok (.goto 4, 3) := by decide +kernel
theorem d_Rm_signed_208 : decode b_Rm_signed 208 = .ok (.iconst 0, 1) := by decide +kernel
theorem d_Rm_signed_209 : decode b_Rm_signed 209 = .ok (.ireturn, 1) := by decide +kernel
theorem fl_Rm_199 : FL "PrimeKeysModel" 199 8 31 := ⟨R_Rm, F_Rm, 50, rfl, u_Rm, by decide, rfl, tb_4 (List.mem_of_getElem? (i := 185) (by decide +kernel)) rfl⟩
theorem fl_Rm_193 : FL "PrimeKeysModel" 193 8 29 := ⟨R_Rm, F_Rm, 50, rfl, u_Rm, by decide, rfl, tb_4 (List.mem_of_getElem? (i := 183) (by decide +kernel)) rfl⟩
theorem fl_Rm_202 : FL "PrimeKeysModel" 202 8 32 := ⟨R_Rm, F_Rm, 50, rfl, u_Rm, by decide, rfl, tb_4 (List.mem_of_getElem? (i := 186) (by decide +kernel)) rfl⟩
theorem fl_Rm_160 : FL "PrimeKeysModel" 160 8 16 := ⟨R_Rm, F_Rm, 50, rfl, u_Rm, by decide, rfl, tb_4 (List.mem_of_getElem? (i := 170) (by decide +kernel)) rfl⟩
theorem fl_Rm_196 : FL "PrimeKeysModel" 196 8 30 := ⟨R_Rm, F_Rm, 50, rfl, u_Rm, by decide, rfl, tb_4 (List.mem_of_getElem? (i := 184) (by decide +kernel)) rfl⟩
theorem cd_Rm_386 : CD "PrimeKeysModel" 386 y_Rm_fromBase b_Rm_fromBase 2 none 1 := ⟨tb_5 (List.mem_of_getElem? (i := 103) rfl) rfl, tb_1 (List.mem_of_getElem? (i := 13) (by decide +kernel)) rfl, tb_5 (List.mem_of_getElem? (i := 100) (by decide +kernel)) rfl, by decide +kernel⟩
theorem kw_in_Rm_fromBase : Cond.instanceMethod y_Rm_fromBase ∈ TB := tb_5 (List.mem_of_getElem? (i := 102) (by decide +kernel)) rfl
theorem kw_se_Rm_fromBase : Cond.selects "PrimeKeysModel" y_Rm_fromBase y_Rm_fromBase ∈ TB := tb_p (q := (y_Rm_fromBase, 50)) (by decide +kernel)
abbrev rm_Rm_signed : Room := { frames := 6, cells := 0, slots := 0, locals := 148 }
def B_Rm_signed_36 (h : HP) : Option (Int32 × HP) :=
  some (0, h)
set_option maxHeartbeats 4000000 in
set_option maxRecDepth 100000 in
theorem bk_Rm_signed_36 {l : Launch} {x : CX} {h0 h' : HP} {r' : Int32} (C : EV x b_Rm_signed "PrimeKeysModel" 2 rm_Rm_signed) (T : CT x (some .boolean) rm_Rm_signed h0 (some (.int r')) h') (hl0 : x.1.2.1 = l) (h : HP) (hr : B_Rm_signed_36 h = some (r', h')) : GG x 0 0 h 36 [] [] := by
  unfold B_Rm_signed_36 at hr
  refine g_iconst (v := 0) C d_Rm_signed_36 (by decide) ?_
  cases hr
  exact g_ireturn C T rfl (by decide) (by decide) d_Rm_signed_37
def B_Rm_signed_208 (h : HP) : Option (Int32 × HP) :=
  some (0, h)
set_option maxHeartbeats 4000000 in
set_option maxRecDepth 100000 in
theorem bk_Rm_signed_208 {l : Launch} {x : CX} {h0 h' : HP} {r' : Int32} (C : EV x b_Rm_signed "PrimeKeysModel" 2 rm_Rm_signed) (T : CT x (some .boolean) rm_Rm_signed h0 (some (.int r')) h') (hl0 : x.1.2.1 = l) (h : HP) (hr : B_Rm_signed_208 h = some (r', h')) : GG x 0 0 h 208 [] [] := by
  unfold B_Rm_signed_208 at hr
  refine g_iconst (v := 0) C d_Rm_signed_208 (by decide) ?_
  cases hr
  exact g_ireturn C T rfl (by decide) (by decide) d_Rm_signed_209
def B_Rm_signed_86 (h : HP) (a0 : Nat) (a1 : Int32) : Option (Int32 × HP) :=
  bnd (gR h a0 8 32) fun k20 =>
  bnd (gR h a0 8 4) fun k21 =>
  bnd (P_Rm_load h k20 k21 (32 * a1)) fun h22 =>
  bnd (gR h22 a0 8 32) fun k23 =>
  bnd (gR h22 a0 8 32) fun k24 =>
  bnd (gR h22 a0 8 29) fun k25 =>
  bnd (gR h22 a0 8 11) fun k26 =>
  bnd (gR h22 a0 8 16) fun k27 =>
  ob h22 a0 8 (
  bnd (P_Rm_times h22 a0 k23 k24 k25 k26 k27) fun h28 =>
  bnd (gR h28 a0 8 32) fun k29 =>
  bnd (gR h28 a0 8 32) fun k30 =>
  bnd (gR h28 a0 8 28) fun k31 =>
  bnd (gR h28 a0 8 11) fun k32 =>
  bnd (P_Rm_plus h28 k29 k30 k31 k32) fun h33 =>
  bnd (gR h33 a0 8 27) fun k34 =>
  bnd (gR h33 a0 8 31) fun k35 =>
  bnd (gR h33 a0 8 11) fun k36 =>
  ob h33 a0 8 (
  bnd (P_Rm_inverse h33 a0 k34 k35 k36) fun h37 =>
  bnd (gR h37 a0 8 30) fun k38 =>
  bnd (gR h37 a0 8 32) fun k39 =>
  bnd (gR h37 a0 8 27) fun k40 =>
  bnd (gR h37 a0 8 11) fun k41 =>
  bnd (gR h37 a0 8 16) fun k42 =>
  ob h37 a0 8 (
  bnd (P_Rm_times h37 a0 k38 k39 k40 k41 k42) fun h43 =>
  bnd (gR h43 a0 8 29) fun k44 =>
  bnd2 (P_Rm_zero h43 k44) fun v46 h45 =>
  if v46 = 0 then
  bnd (gR h45 a0 8 30) fun k47 =>
  bnd2 (P_Rm_zero h45 k47) fun v49 h48 =>
  if v49 = 0 then
  some (1, h48)
  else
  B_Rm_signed_208 h48
  else
  B_Rm_signed_208 h45)))
set_option maxHeartbeats 4000000 in
set_option maxRecDepth 100000 in
theorem bk_Rm_signed_86 {l : Launch} {x : CX} {h0 h' : HP} {r' : Int32} (C : EV x b_Rm_signed "PrimeKeysModel" 2 rm_Rm_signed) (T : CT x (some .boolean) rm_Rm_signed h0 (some (.int r')) h') (hl0 : x.1.2.1 = l) (h : HP) (a0 : Nat) (a1 : Int32) (hr : B_Rm_signed_86 h a0 a1 = some (r', h')) : GG x 0 0 h 86 [(0, .ref a0), (1, .int a1)] [] := by
  unfold B_Rm_signed_86 at hr
  refine g_aload_n C 0 rfl d_Rm_signed_86 rfl ?_
  obtain ⟨k20, ek20, hr⟩ := of_bnd hr
  refine g_getR C fl_Rm_202 ek20 d_Rm_signed_87 ?_
  refine g_aload_n C 0 rfl d_Rm_signed_90 rfl ?_
  obtain ⟨k21, ek21, hr⟩ := of_bnd hr
  refine g_getR C fl_Rm_20 ek21 d_Rm_signed_91 ?_
  refine g_bipush (v := 32) C d_Rm_signed_94 (by decide) ?_
  refine g_iload_n C 1 rfl d_Rm_signed_96 rfl ?_
  refine g_imul C d_Rm_signed_97 ?_
  obtain ⟨h22, eh22, hr⟩ := of_bnd hr
  refine g_callS (pa := [.ref k20, .ref k21, .int (32 * a1)]) C hl0 (c_Rm_load eh22) cd_Rm_372 kw_st_Rm_load (by decide) rfl rfl (Nat.le_of_ble_eq_true rfl) d_Rm_signed_98 ?_
  refine g_aload_n C 0 rfl d_Rm_signed_101 rfl ?_
  refine g_aload_n C 0 rfl d_Rm_signed_102 rfl ?_
  obtain ⟨k23, ek23, hr⟩ := of_bnd hr
  refine g_getR C fl_Rm_202 ek23 d_Rm_signed_103 ?_
  refine g_aload_n C 0 rfl d_Rm_signed_106 rfl ?_
  obtain ⟨k24, ek24, hr⟩ := of_bnd hr
  refine g_getR C fl_Rm_202 ek24 d_Rm_signed_107 ?_
  refine g_aload_n C 0 rfl d_Rm_signed_110 rfl ?_
  obtain ⟨k25, ek25, hr⟩ := of_bnd hr
  refine g_getR C fl_Rm_193 ek25 d_Rm_signed_111 ?_
  refine g_aload_n C 0 rfl d_Rm_signed_114 rfl ?_
  obtain ⟨k26, ek26, hr⟩ := of_bnd hr
  refine g_getR C fl_Rm_49 ek26 d_Rm_signed_115 ?_
  refine g_aload_n C 0 rfl d_Rm_signed_118 rfl ?_
  obtain ⟨k27, ek27, hr⟩ := of_bnd hr
  refine g_getR C fl_Rm_160 ek27 d_Rm_signed_119 ?_
  obtain ⟨fsh28, hoh28, hr⟩ := of_ob hr
  obtain ⟨h28, eh28, hr⟩ := of_bnd hr
  refine g_callV (pa := [.ref k23, .ref k24, .ref k25, .ref k26, .ref k27]) C hl0 (c_Rm_times eh28) cd_Rm_338 kw_in_Rm_times kw_se_Rm_times hoh28 rfl rfl (by decide) rfl rfl (Nat.le_of_ble_eq_true rfl) d_Rm_signed_122 ?_
  refine g_aload_n C 0 rfl d_Rm_signed_125 rfl ?_
  obtain ⟨k29, ek29, hr⟩ := of_bnd hr
  refine g_getR C fl_Rm_202 ek29 d_Rm_signed_126 ?_
  refine g_aload_n C 0 rfl d_Rm_signed_129 rfl ?_
  obtain ⟨k30, ek30, hr⟩ := of_bnd hr
  refine g_getR C fl_Rm_202 ek30 d_Rm_signed_130 ?_
  refine g_aload_n C 0 rfl d_Rm_signed_133 rfl ?_
  obtain ⟨k31, ek31, hr⟩ := of_bnd hr
  refine g_getR C fl_Rm_190 ek31 d_Rm_signed_134 ?_
  refine g_aload_n C 0 rfl d_Rm_signed_137 rfl ?_
  obtain ⟨k32, ek32, hr⟩ := of_bnd hr
  refine g_getR C fl_Rm_49 ek32 d_Rm_signed_138 ?_
  obtain ⟨h33, eh33, hr⟩ := of_bnd hr
  refine g_callS (pa := [.ref k29, .ref k30, .ref k31, .ref k32]) C hl0 (c_Rm_plus eh33) cd_Rm_279 kw_st_Rm_plus (by decide) rfl rfl (Nat.le_of_ble_eq_true rfl) d_Rm_signed_141 ?_
  refine g_aload_n C 0 rfl d_Rm_signed_144 rfl ?_
  refine g_aload_n C 0 rfl d_Rm_signed_145 rfl ?_
  obtain ⟨k34, ek34, hr⟩ := of_bnd hr
  refine g_getR C fl_Rm_187 ek34 d_Rm_signed_146 ?_
  refine g_aload_n C 0 rfl d_Rm_signed_149 rfl ?_
  obtain ⟨k35, ek35, hr⟩ := of_bnd hr
  refine g_getR C fl_Rm_199 ek35 d_Rm_signed_150 ?_
  refine g_aload_n C 0 rfl d_Rm_signed_153 rfl ?_
  obtain ⟨k36, ek36, hr⟩ := of_bnd hr
  refine g_getR C fl_Rm_49 ek36 d_Rm_signed_154 ?_
  obtain ⟨fsh37, hoh37, hr⟩ := of_ob hr
  obtain ⟨h37, eh37, hr⟩ := of_bnd hr
  refine g_callV (pa := [.ref k34, .ref k35, .ref k36]) C hl0 (c_Rm_inverse eh37) cd_Rm_352 kw_in_Rm_inverse kw_se_Rm_inverse hoh37 rfl rfl (by decide) rfl rfl (Nat.le_of_ble_eq_true rfl) d_Rm_signed_157 ?_
  refine g_aload_n C 0 rfl d_Rm_signed_160 rfl ?_
  refine g_aload_n C 0 rfl d_Rm_signed_161 rfl ?_
  obtain ⟨k38, ek38, hr⟩ := of_bnd hr
  refine g_getR C fl_Rm_196 ek38 d_Rm_signed_162 ?_
  refine g_aload_n C 0 rfl d_Rm_signed_165 rfl ?_
  obtain ⟨k39, ek39, hr⟩ := of_bnd hr
  refine g_getR C fl_Rm_202 ek39 d_Rm_signed_166 ?_
  refine g_aload_n C 0 rfl d_Rm_signed_169 rfl ?_
  obtain ⟨k40, ek40, hr⟩ := of_bnd hr
  refine g_getR C fl_Rm_187 ek40 d_Rm_signed_170 ?_
  refine g_aload_n C 0 rfl d_Rm_signed_173 rfl ?_
  obtain ⟨k41, ek41, hr⟩ := of_bnd hr
  refine g_getR C fl_Rm_49 ek41 d_Rm_signed_174 ?_
  refine g_aload_n C 0 rfl d_Rm_signed_177 rfl ?_
  obtain ⟨k42, ek42, hr⟩ := of_bnd hr
  refine g_getR C fl_Rm_160 ek42 d_Rm_signed_178 ?_
  obtain ⟨fsh43, hoh43, hr⟩ := of_ob hr
  obtain ⟨h43, eh43, hr⟩ := of_bnd hr
  refine g_callV (pa := [.ref k38, .ref k39, .ref k40, .ref k41, .ref k42]) C hl0 (c_Rm_times eh43) cd_Rm_338 kw_in_Rm_times kw_se_Rm_times hoh43 rfl rfl (by decide) rfl rfl (Nat.le_of_ble_eq_true rfl) d_Rm_signed_181 ?_
  refine g_aload_n C 0 rfl d_Rm_signed_184 rfl ?_
  obtain ⟨k44, ek44, hr⟩ := of_bnd hr
  refine g_getR C fl_Rm_193 ek44 d_Rm_signed_185 ?_
  obtain ⟨v46, h45, eh45, hr⟩ := of_bnd2 hr
  refine g_callS (pa := [.ref k44]) C hl0 (c_Rm_zero eh45) cd_Rm_290 kw_st_Rm_zero (by decide) rfl rfl (Nat.le_of_ble_eq_true rfl) d_Rm_signed_188 ?_
  refine g_if_ne (tgt := 208) C d_Rm_signed_191 (by decide) (fun z => ?_) (fun z => ?_)
  · have hr := of_el z hr
    refine g_lv [] rfl ?_
    exact bk_Rm_signed_208 C T hl0 h45 hr
  · have hr := of_if z hr
    refine g_aload_n C 0 rfl d_Rm_signed_194 rfl ?_
    obtain ⟨k47, ek47, hr⟩ := of_bnd hr
    refine g_getR C fl_Rm_196 ek47 d_Rm_signed_195 ?_
    obtain ⟨v49, h48, eh48, hr⟩ := of_bnd2 hr
    refine g_callS (pa := [.ref k47]) C hl0 (c_Rm_zero eh48) cd_Rm_290 kw_st_Rm_zero (by decide) rfl rfl (Nat.le_of_ble_eq_true rfl) d_Rm_signed_198 ?_
    refine g_if_ne (tgt := 208) C d_Rm_signed_201 (by decide) (fun z => ?_) (fun z => ?_)
    · have hr := of_el z hr
      refine g_lv [] rfl ?_
      exact bk_Rm_signed_208 C T hl0 h48 hr
    · have hr := of_if z hr
      refine g_iconst (v := 1) C d_Rm_signed_204 (by decide) ?_
      refine g_goto (tgt := 209) C d_Rm_signed_205 (by decide) ?_
      cases hr
      exact g_ireturn C T rfl (by decide) (by decide) d_Rm_signed_209
def P_Rm_signed (h : HP) (p0 : Nat) (p1 : Int32) : Option (Int32 × HP) :=
  bnd (gR h p0 8 31) fun k1 =>
  bnd (gR h p0 8 34) fun k2 =>
  bnd (P_Rm_load h k1 k2 0) fun h3 =>
  bnd (gR h3 p0 8 31) fun k4 =>
  bnd2 (P_Rm_zero h3 k4) fun v6 h5 =>
  if v6 = 0 then
  bnd (gR h5 p0 8 31) fun k7 =>
  bnd (gR h5 p0 8 11) fun k8 =>
  bnd2 (P_Rm_below h5 k7 k8) fun v10 h9 =>
  if v10 = 0 then
  B_Rm_signed_36 h9
  else
  bnd (gR h9 p0 8 31) fun k11 =>
  ob h9 p0 8 (
  bnd (P_Rm_fromBase h9 p0 k11) fun h12 =>
  bnd (gR h12 p0 8 29) fun k13 =>
  bnd (gR h12 p0 8 17) fun k14 =>
  bnd (P_Rm_copy h12 k13 k14) fun h15 =>
  bnd (gR h15 p0 8 29) fun k16 =>
  bnd (gR h15 p0 8 11) fun k17 =>
  bnd2 (P_Rm_below h15 k16 k17) fun v19 h18 =>
  if v19 = 0 then
  bnd (gR h18 p0 8 29) fun k50 =>
  bnd (gR h18 p0 8 29) fun k51 =>
  bnd (gR h18 p0 8 11) fun k52 =>
  bnd (P_Rm_less h18 k50 k51 k52) fun h53 =>
  B_Rm_signed_86 h53 p0 p1
  else
  B_Rm_signed_86 h18 p0 p1)
  else
  B_Rm_signed_36 h5
set_option maxHeartbeats 4000000 in
set_option maxRecDepth 100000 in
theorem c_Rm_signed {l : Launch} {h h' : HP} {p0 p1 : _} {r' : Int32} (hr : P_Rm_signed h p0 p1 = some (r', h')) : MP l y_Rm_signed (Cond.code y_Rm_signed b_Rm_signed 2 (some .boolean) :: TB) rm_Rm_signed h [.ref p0, .int p1] (some (.int r')) h' := by
  refine MP_intro (cc := b_Rm_signed) (by decide) (Nat.le_of_ble_eq_true rfl) (fun x hl0 C T hin => ?_)
  unfold P_Rm_signed at hr
  show GG x 0 0 h 0 [(0, .ref p0), (1, .int p1)] []
  refine g_aload_n C 0 rfl d_Rm_signed_0 rfl ?_
  obtain ⟨k1, ek1, hr⟩ := of_bnd hr
  refine g_getR C fl_Rm_199 ek1 d_Rm_signed_1 ?_
  refine g_aload_n C 0 rfl d_Rm_signed_4 rfl ?_
  obtain ⟨k2, ek2, hr⟩ := of_bnd hr
  refine g_getR C fl_Rm_208 ek2 d_Rm_signed_5 ?_
  refine g_iconst (v := 0) C d_Rm_signed_8 (by decide) ?_
  obtain ⟨h3, eh3, hr⟩ := of_bnd hr
  refine g_callS (pa := [.ref k1, .ref k2, .int 0]) C hl0 (c_Rm_load eh3) cd_Rm_372 kw_st_Rm_load (by decide) rfl rfl (Nat.le_of_ble_eq_true rfl) d_Rm_signed_9 ?_
  refine g_aload_n C 0 rfl d_Rm_signed_12 rfl ?_
  obtain ⟨k4, ek4, hr⟩ := of_bnd hr
  refine g_getR C fl_Rm_199 ek4 d_Rm_signed_13 ?_
  obtain ⟨v6, h5, eh5, hr⟩ := of_bnd2 hr
  refine g_callS (pa := [.ref k4]) C hl0 (c_Rm_zero eh5) cd_Rm_290 kw_st_Rm_zero (by decide) rfl rfl (Nat.le_of_ble_eq_true rfl) d_Rm_signed_16 ?_
  refine g_if_ne (tgt := 36) C d_Rm_signed_19 (by decide) (fun z => ?_) (fun z => ?_)
  · have hr := of_el z hr
    refine g_lv [] rfl ?_
    exact bk_Rm_signed_36 C T hl0 h5 hr
  · have hr := of_if z hr
    refine g_aload_n C 0 rfl d_Rm_signed_22 rfl ?_
    obtain ⟨k7, ek7, hr⟩ := of_bnd hr
    refine g_getR C fl_Rm_199 ek7 d_Rm_signed_23 ?_
    refine g_aload_n C 0 rfl d_Rm_signed_26 rfl ?_
    obtain ⟨k8, ek8, hr⟩ := of_bnd hr
    refine g_getR C fl_Rm_49 ek8 d_Rm_signed_27 ?_
    obtain ⟨v10, h9, eh9, hr⟩ := of_bnd2 hr
    refine g_callS (pa := [.ref k7, .ref k8]) C hl0 (c_Rm_below eh9) cd_Rm_268 kw_st_Rm_below (by decide) rfl rfl (Nat.le_of_ble_eq_true rfl) d_Rm_signed_30 ?_
    refine g_if_ne (tgt := 38) C d_Rm_signed_33 (by decide) (fun z => ?_) (fun z => ?_)
    · have hr := of_el z hr
      refine g_aload_n C 0 rfl d_Rm_signed_38 rfl ?_
      refine g_aload_n C 0 rfl d_Rm_signed_39 rfl ?_
      obtain ⟨k11, ek11, hr⟩ := of_bnd hr
      refine g_getR C fl_Rm_199 ek11 d_Rm_signed_40 ?_
      obtain ⟨fsh12, hoh12, hr⟩ := of_ob hr
      obtain ⟨h12, eh12, hr⟩ := of_bnd hr
      refine g_callV (pa := [.ref k11]) C hl0 (c_Rm_fromBase eh12) cd_Rm_386 kw_in_Rm_fromBase kw_se_Rm_fromBase hoh12 rfl rfl (by decide) rfl rfl (Nat.le_of_ble_eq_true rfl) d_Rm_signed_43 ?_
      refine g_aload_n C 0 rfl d_Rm_signed_46 rfl ?_
      obtain ⟨k13, ek13, hr⟩ := of_bnd hr
      refine g_getR C fl_Rm_193 ek13 d_Rm_signed_47 ?_
      refine g_aload_n C 0 rfl d_Rm_signed_50 rfl ?_
      obtain ⟨k14, ek14, hr⟩ := of_bnd hr
      refine g_getR C fl_Rm_163 ek14 d_Rm_signed_51 ?_
      obtain ⟨h15, eh15, hr⟩ := of_bnd hr
      refine g_callS (pa := [.ref k13, .ref k14]) C hl0 (c_Rm_copy eh15) cd_Rm_286 kw_st_Rm_copy (by decide) rfl rfl (Nat.le_of_ble_eq_true rfl) d_Rm_signed_54 ?_
      refine g_aload_n C 0 rfl d_Rm_signed_57 rfl ?_
      obtain ⟨k16, ek16, hr⟩ := of_bnd hr
      refine g_getR C fl_Rm_193 ek16 d_Rm_signed_58 ?_
      refine g_aload_n C 0 rfl d_Rm_signed_61 rfl ?_
      obtain ⟨k17, ek17, hr⟩ := of_bnd hr
      refine g_getR C fl_Rm_49 ek17 d_Rm_signed_62 ?_
      obtain ⟨v19, h18, eh18, hr⟩ := of_bnd2 hr
      refine g_callS (pa := [.ref k16, .ref k17]) C hl0 (c_Rm_below eh18) cd_Rm_268 kw_st_Rm_below (by decide) rfl rfl (Nat.le_of_ble_eq_true rfl) d_Rm_signed_65 ?_
      refine g_if_ne (tgt := 86) C d_Rm_signed_68 (by decide) (fun z => ?_) (fun z => ?_)
      · have hr := of_el z hr
        exact bk_Rm_signed_86 C T hl0 h18 p0 p1 hr
      · have hr := of_if z hr
        refine g_aload_n C 0 rfl d_Rm_signed_71 rfl ?_
        obtain ⟨k50, ek50, hr⟩ := of_bnd hr
        refine g_getR C fl_Rm_193 ek50 d_Rm_signed_72 ?_
        refine g_aload_n C 0 rfl d_Rm_signed_75 rfl ?_
        obtain ⟨k51, ek51, hr⟩ := of_bnd hr
        refine g_getR C fl_Rm_193 ek51 d_Rm_signed_76 ?_
        refine g_aload_n C 0 rfl d_Rm_signed_79 rfl ?_
        obtain ⟨k52, ek52, hr⟩ := of_bnd hr
        refine g_getR C fl_Rm_49 ek52 d_Rm_signed_80 ?_
        obtain ⟨h53, eh53, hr⟩ := of_bnd hr
        refine g_callS (pa := [.ref k50, .ref k51, .ref k52]) C hl0 (c_Rm_less eh53) cd_Rm_272 kw_st_Rm_less (by decide) rfl rfl (Nat.le_of_ble_eq_true rfl) d_Rm_signed_83 ?_
        exact bk_Rm_signed_86 C T hl0 h53 p0 p1 hr
    · have hr := of_if z hr
      refine g_lv [] rfl ?_
      exact bk_Rm_signed_36 C T hl0 h9 hr
