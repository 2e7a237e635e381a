abbrev b_Cu_enterForm : ByteArray := prog_2_method_5_code
abbrev y_Cu_enterForm : MethodName := ⟨"PrimeKeys$Curve", "enterForm", "(LPrimeKeys$Point;)V"⟩
theorem d_Cu_enterForm_0 : decode b_Cu_enterForm 0 = .ok (.aload_n 0, 1) := by decide +kernel
theorem d_Cu_enterForm_1 : decode b_Cu_enterForm 1 = .ok (.getfield 24, 3) := by decide +kernel
theorem d_Cu_enterForm_4 : decode b_Cu_enterForm 4 = .ok (.aload_n 1, 1) := by decide +kernel
theorem d_Cu_enterForm_5 : decode b_Cu_enterForm 5 = .ok (.getfield 63, 3) := by decide +kernel
theorem d_Cu_enterForm_8 : decode b_Cu_enterForm 8 = .ok (.aload_n 1, 1) := by decide +kernel
theorem d_Cu_enterForm_9 : decode b_Cu_enterForm 9 = .ok (.getfield 63, 3) := by decide +kernel
theorem d_Cu_enterForm_12 : decode b_Cu_enterForm 12 = .ok (.invokevirtual 56, 3) := by decide +kernel
theorem d_Cu_enterForm_15 : decode b_Cu_enterForm 15 = .ok (.aload_n 0, 1) := by decide +kernel
theorem d_Cu_enterForm_16 : decode b_Cu_enterForm 16 = .ok (.getfield 24, 3) := by decide +kernel
theorem d_Cu_enterForm_19 : decode b_Cu_enterForm 19 = .ok (.aload_n 1, 1) := by decide +kernel
theorem d_Cu_enterForm_20 : decode b_Cu_enterForm 20 = .ok (.getfield 69, 3) := by decide +kernel
theorem d_Cu_enterForm_23 : decode b_Cu_enterForm 23 = .ok (.aload_n 1, 1) := by decide +kernel
theorem d_Cu_enterForm_24 : decode b_Cu_enterForm 24 = .ok (.getfield 69, 3) := by decide +kernel
theorem d_Cu_enterForm_27 : decode b_Cu_enterForm 27 = .ok (.invokevirtual 56, 3) := by decide +kernel
theorem d_Cu_enterForm_30 : decode b_Cu_enterForm 30 = .ok (.aload_n 0, 1) := by decide +kernel
theorem d_Cu_enterForm_31 : decode b_Cu_enterForm 31 = .ok (.getfield 24, 3) := by decide +kernel
theorem d_Cu_enterForm_34 : decode b_Cu_enterForm 34 = .ok (.aload_n 1, 1) := by decide +kernel
theorem d_Cu_enterForm_35 : decode b_Cu_enterForm 35 = .ok (.getfield 106, 3) := by decide +kernel
theorem d_Cu_enterForm_38 : decode b_Cu_enterForm 38 = .ok (.invokevirtual 119, 3) := by decide +kernel
theorem d_Cu_enterForm_41 : decode b_Cu_enterForm 41 = .ok (.return_, 1) := by decide +kernel
theorem fl_Cu_24 : FL "PrimeKeys$Curve" 24 0 1 := ⟨R_Cu, F_Cu, 6, rfl, u_Cu, by decide, rfl, tb_1 (List.mem_of_getElem? (i := 235) (by decide +kernel)) rfl⟩
theorem fl_Cu_63 : FL "PrimeKeys$Curve" 63 3 0 := ⟨R_Po, F_Po, 3, rfl, u_Po, by decide, rfl, tb_1 (List.mem_of_getElem? (i := 143) (by decide +kernel)) rfl⟩
theorem fl_Cu_69 : FL "PrimeKeys$Curve" 69 3 1 := ⟨R_Po, F_Po, 3, rfl, u_Po, by decide, rfl, tb_1 (List.mem_of_getElem? (i := 145) (by decide +kernel)) rfl⟩
theorem fl_Cu_106 : FL "PrimeKeys$Curve" 106 3 2 := ⟨R_Po, F_Po, 3, rfl, u_Po, by decide, rfl, tb_1 (List.mem_of_getElem? (i := 147) (by decide +kernel)) rfl⟩
theorem cd_Cu_119 : CD "PrimeKeys$Curve" 119 y_Mo_copyOne b_Mo_copyOne 2 none 1 := ⟨tb_1 (List.mem_of_getElem? (i := 185) rfl) rfl, tb_1 (List.mem_of_getElem? (i := 4) (by decide +kernel)) rfl, tb_1 (List.mem_of_getElem? (i := 182) (by decide +kernel)) rfl, by decide +kernel⟩
theorem kw_in_Mo_copyOne : Cond.instanceMethod y_Mo_copyOne ∈ TB := tb_1 (List.mem_of_getElem? (i := 183) (by decide +kernel)) rfl
theorem kw_se_Mo_copyOne : Cond.selects "PrimeKeys$Modulus" y_Mo_copyOne y_Mo_copyOne ∈ TB := tb_1 (List.mem_of_getElem? (i := 184) (by decide +kernel)) rfl
theorem cd_Cu_56 : CD "PrimeKeys$Curve" 56 y_Mo_enterForm b_Mo_enterForm 3 none 2 := ⟨tb_1 (List.mem_of_getElem? (i := 161) rfl) rfl, tb_1 (List.mem_of_getElem? (i := 4) (by decide +kernel)) rfl, tb_1 (List.mem_of_getElem? (i := 158) (by decide +kernel)) rfl, by decide +kernel⟩
theorem kw_in_Mo_enterForm : Cond.instanceMethod y_Mo_enterForm ∈ TB := tb_1 (List.mem_of_getElem? (i := 159) (by decide +kernel)) rfl
theorem kw_se_Mo_enterForm : Cond.selects "PrimeKeys$Modulus" y_Mo_enterForm y_Mo_enterForm ∈ TB := tb_1 (List.mem_of_getElem? (i := 160) (by decide +kernel)) rfl
abbrev rm_Cu_enterForm : Room := { frames := 4, cells := 0, slots := 0, locals := 106 }
def P_Cu_enterForm (h : HP) (p0 : Nat) (p1 : Nat) : Option (HP) :=
  bnd (gR h p0 0 1) fun k1 =>
  bnd (gR h p1 3 0) fun k2 =>
  bnd (gR h p1 3 0) fun k3 =>
  ob h k1 1 (
  bnd (P_Mo_enterForm h k1 k2 k3) fun h4 =>
  bnd (gR h4 p0 0 1) fun k5 =>
  bnd (gR h4 p1 3 1) fun k6 =>
  bnd (gR h4 p1 3 1) fun k7 =>
  ob h4 k5 1 (
  bnd (P_Mo_enterForm h4 k5 k6 k7) fun h8 =>
  bnd (gR h8 p0 0 1) fun k9 =>
  bnd (gR h8 p1 3 2) fun k10 =>
  ob h8 k9 1 (
  bnd (P_Mo_copyOne h8 k9 k10) fun h11 =>
  some h11)))
set_option maxHeartbeats 4000000 in
set_option maxRecDepth 100000 in
theorem c_Cu_enterForm {l : Launch} {h h' : HP} {p0 p1 : _} (hr : P_Cu_enterForm h p0 p1 = some h') : MP l y_Cu_enterForm (Cond.code y_Cu_enterForm b_Cu_enterForm 2 none :: TB) rm_Cu_enterForm h [.ref p0, .ref p1] none h' := by
  refine MP_intro (cc := b_Cu_enterForm) (by decide) (Nat.le_of_ble_eq_true rfl) (fun x hl0 C T hin => ?_)
  unfold P_Cu_enterForm at hr
  show GG x 0 0 h 0 [(0, .ref p0), (1, .ref p1)] []
  refine g_aload_n C 0 rfl d_Cu_enterForm_0 rfl ?_
  obtain ⟨k1, ek1, hr⟩ := of_bnd hr
  refine g_getR C fl_Cu_24 ek1 d_Cu_enterForm_1 ?_
  refine g_aload_n C 1 rfl d_Cu_enterForm_4 rfl ?_
  obtain ⟨k2, ek2, hr⟩ := of_bnd hr
  refine g_getR C fl_Cu_63 ek2 d_Cu_enterForm_5 ?_
  refine g_aload_n C 1 rfl d_Cu_enterForm_8 rfl ?_
  obtain ⟨k3, ek3, hr⟩ := of_bnd hr
  refine g_getR C fl_Cu_63 ek3 d_Cu_enterForm_9 ?_
  obtain ⟨fsh4, hoh4, hr⟩ := of_ob hr
  obtain ⟨h4, eh4, hr⟩ := of_bnd hr
  refine g_callV (pa := [.ref k2, .ref k3]) C hl0 (c_Mo_enterForm eh4) cd_Cu_56 kw_in_Mo_enterForm kw_se_Mo_enterForm hoh4 rfl rfl (by decide) rfl rfl (Nat.le_of_ble_eq_true rfl) d_Cu_enterForm_12 ?_
  refine g_aload_n C 0 rfl d_Cu_enterForm_15 rfl ?_
  obtain ⟨k5, ek5, hr⟩ := of_bnd hr
  refine g_getR C fl_Cu_24 ek5 d_Cu_enterForm_16 ?_
  refine g_aload_n C 1 rfl d_Cu_enterForm_19 rfl ?_
  obtain ⟨k6, ek6, hr⟩ := of_bnd hr
  refine g_getR C fl_Cu_69 ek6 d_Cu_enterForm_20 ?_
  refine g_aload_n C 1 rfl d_Cu_enterForm_23 rfl ?_
  obtain ⟨k7, ek7, hr⟩ := of_bnd hr
  refine g_getR C fl_Cu_69 ek7 d_Cu_enterForm_24 ?_
  obtain ⟨fsh8, hoh8, hr⟩ := of_ob hr
  obtain ⟨h8, eh8, hr⟩ := of_bnd hr
  refine g_callV (pa := [.ref k6, .ref k7]) C hl0 (c_Mo_enterForm eh8) cd_Cu_56 kw_in_Mo_enterForm kw_se_Mo_enterForm hoh8 rfl rfl (by decide) rfl rfl (Nat.le_of_ble_eq_true rfl) d_Cu_enterForm_27 ?_
  refine g_aload_n C 0 rfl d_Cu_enterForm_30 rfl ?_
  obtain ⟨k9, ek9, hr⟩ := of_bnd hr
  refine g_getR C fl_Cu_24 ek9 d_Cu_enterForm_31 ?_
  refine g_aload_n C 1 rfl d_Cu_enterForm_34 rfl ?_
  obtain ⟨k10, ek10, hr⟩ := of_bnd hr
  refine g_getR C fl_Cu_106 ek10 d_Cu_enterForm_35 ?_
  obtain ⟨fsh11, hoh11, hr⟩ := of_ob hr
  obtain ⟨h11, eh11, hr⟩ := of_bnd hr
  refine g_callV (pa := [.ref k10]) C hl0 (c_Mo_copyOne eh11) cd_Cu_119 kw_in_Mo_copyOne kw_se_Mo_copyOne hoh11 rfl rfl (by decide) rfl rfl (Nat.le_of_ble_eq_true rfl) d_Cu_enterForm_38 ?_
  cases hr
  exact g_vreturn C T (by decide) (by decide) d_Cu_enterForm_41
abbrev b_Cu_digit : ByteArray := prog_2_method_8_code
abbrev y_Cu_digit : MethodName := ⟨"PrimeKeys$Curve", "digit", "([BI)I"⟩
theorem d_Cu_digit_0 : decode b_Cu_digit 0 = .ok (.iload_n 2, 1) := by decide +kernel
theorem d_Cu_digit_1 : decode b_Cu_digit 1 = .ok (.iconst 2, 1) := by decide +kernel
theorem d_Cu_digit_2 : decode b_Cu_digit 2 = .ok (.irem, 1) := by decide +kernel
theorem d_Cu_digit_3 : decode b_Cu_digit 3 = .ok (.ifCond .ne 16, 3) := by decide +kernel
theorem d_Cu_digit_6 : decode b_Cu_digit 6 = .ok (.aload_n 1, 1) := by decide +kernel
theorem d_Cu_digit_7 : decode b_Cu_digit 7 = .ok (.iload_n 2, 1) := by decide +kernel
theorem d_Cu_digit_8 : decode b_Cu_digit 8 = .ok (.iconst 2, 1) := by decide +kernel
theorem d_Cu_digit_9 : decode b_Cu_digit 9 = .ok (.idiv, 1) := by decide +kernel
theorem d_Cu_digit_10 : decode b_Cu_digit 10 = .ok (.baload, 1) := by decide +kernel
theorem d_Cu_digit_11 : decode b_Cu_digit 11 = .ok (.iconst 4, 1) := by decide +kernel
theorem d_Cu_digit_12 : decode b_Cu_digit 12 = .ok (.ishr, 1) := by decide +kernel
theorem d_Cu_digit_13 : decode b_Cu_digit 13 = .ok (.bipush 15, 2) := by decide +kernel
theorem d_Cu_digit_15 : decode b_Cu_digit 15 = .ok (.iand, 1) := by decide +kernel
theorem d_Cu_digit_16 : decode b_Cu_digit 16 = .ok (.goto 11, 3) := by decide +kernel
theorem d_Cu_digit_19 : decode b_Cu_digit 19 = .ok (.aload_n 1, 1) := by decide +kernel
theorem d_Cu_digit_20 : decode b_Cu_digit 20 = .ok (.iload_n 2, 1) := by decide +kernel
theorem d_Cu_digit_21 : decode b_Cu_digit 21 = .ok (.iconst 2, 1) := by decide +kernel
theorem d_Cu_digit_22 : decode b_Cu_digit 22 = .ok (.idiv, 1) := by decide +kernel
theorem d_Cu_digit_23 : decode b_Cu_digit 23 = .ok (.baload, 1) := by decide +kernel
theorem d_Cu_digit_24 : decode b_Cu_digit 24 = .ok (.bipush 15, 2) := by decide +kernel
theorem d_Cu_digit_26 : decode b_Cu_digit 26 = .ok (.iand, 1) := by decide +kernel
theorem d_Cu_digit_27 : decode b_Cu_digit 27 = .ok (.ireturn, 1) := by decide +kernel
abbrev rm_Cu_digit : Room := { frames := 0, cells := 0, slots := 0, locals := 0 }
def P_Cu_digit (h : HP) (p0 : Nat) (p1 : Nat) (p2 : Int32) : Option (Int32 × HP) :=
  if p2 - p2 / 2 * 2 = 0 then
  bnd (ldB h p1 (p2 / 2)) fun v2 =>
  some ((v2 >>> (4 &&& 31)) &&& 15, h)
  else
  bnd (ldB h p1 (p2 / 2)) fun v1 =>
  some (v1 &&& 15, h)
set_option maxHeartbeats 4000000 in
set_option maxRecDepth 100000 in
theorem c_Cu_digit {l : Launch} {h h' : HP} {p0 p1 p2 : _} {r' : Int32} (hr : P_Cu_digit h p0 p1 p2 = some (r', h')) : MP l y_Cu_digit (Cond.code y_Cu_digit b_Cu_digit 3 (some .int) :: TB) rm_Cu_digit h [.ref p0, .ref p1, .int p2] (some (.int r')) h' := by
  refine MP_intro (cc := b_Cu_digit) (by decide) (Nat.le_of_ble_eq_true rfl) (fun x hl0 C T hin => ?_)
  unfold P_Cu_digit at hr
  show GG x 0 0 h 0 [(0, .ref p0), (1, .ref p1), (2, .int p2)] []
  refine g_iload_n C 2 rfl d_Cu_digit_0 rfl ?_
  refine g_iconst (v := 2) C d_Cu_digit_1 (by decide) ?_
  refine g_irem C d_Cu_digit_2 (by decide) ?_
  refine g_if_ne (tgt := 19) C d_Cu_digit_3 (by decide) (fun z => ?_) (fun z => ?_)
  · have hr := of_el z hr
    refine g_aload_n C 1 rfl d_Cu_digit_19 rfl ?_
    refine g_iload_n C 2 rfl d_Cu_digit_20 rfl ?_
    refine g_iconst (v := 2) C d_Cu_digit_21 (by decide) ?_
    refine g_idiv C d_Cu_digit_22 (by decide) ?_
    obtain ⟨v1, ev1, hr⟩ := of_bnd hr
    refine g_baload C ev1 d_Cu_digit_23 ?_
    refine g_bipush (v := 15) C d_Cu_digit_24 (by decide) ?_
    refine g_iand C d_Cu_digit_26 ?_
    cases hr
    exact g_ireturn C T rfl (by decide) (by decide) d_Cu_digit_27
  · have hr := of_if z hr
    refine g_aload_n C 1 rfl d_Cu_digit_6 rfl ?_
    refine g_iload_n C 2 rfl d_Cu_digit_7 rfl ?_
    refine g_iconst (v := 2) C d_Cu_digit_8 (by decide) ?_
    refine g_idiv C d_Cu_digit_9 (by decide) ?_
    obtain ⟨v2, ev2, hr⟩ := of_bnd hr
    refine g_baload C ev2 d_Cu_digit_10 ?_
    refine g_iconst (v := 4) C d_Cu_digit_11 (by decide) ?_
    refine g_ishr C d_Cu_digit_12 ?_
    refine g_bipush (v := 15) C d_Cu_digit_13 (by decide) ?_
    refine g_iand C d_Cu_digit_15 ?_
    refine g_goto (tgt := 27) C d_Cu_digit_16 (by decide) ?_
    cases hr
    exact g_ireturn C T rfl (by decide) (by decide) d_Cu_digit_27
abbrev b_Cu_twice : ByteArray := prog_2_method_9_code
abbrev y_Cu_twice : MethodName := ⟨"PrimeKeys$Curve", "twice", "(LPrimeKeys$Point;LPrimeKeys$Point;)V"⟩
theorem d_Cu_twice_0 : decode b_Cu_twice 0 = .ok (.aload_n 0, 1) := by decide +kernel
theorem d_Cu_twice_1 : decode b_Cu_twice 1 = .ok (.getfield 45, 3) := by decide +kernel
theorem d_Cu_twice_4 : decode b_Cu_twice 4 = .ok (.iconst 0, 1) := by decide +kernel
theorem d_Cu_twice_5 : decode b_Cu_twice 5 = .ok (.aaload, 1) := by decide +kernel
theorem d_Cu_twice_6 : decode b_Cu_twice 6 = .ok (.astore_n 3, 1) := by decide +kernel
theorem d_Cu_twice_7 : decode b_Cu_twice 7 = .ok (.aload_n 0, 1) := by decide +kernel
theorem d_Cu_twice_8 : decode b_Cu_twice 8 = .ok (.getfield 45, 3) := by decide +kernel
theorem d_Cu_twice_11 : decode b_Cu_twice 11 = .ok (.iconst 1, 1) := by decide +kernel
theorem d_Cu_twice_12 : decode b_Cu_twice 12 = .ok (.aaload, 1) := by decide +kernel
theorem d_Cu_twice_13 : decode b_Cu_twice 13 = .ok (.astore 4, 2) := by decide +kernel
theorem d_Cu_twice_15 : decode b_Cu_twice 15 = .ok (.aload_n 0, 1) := by decide +kernel
theorem d_Cu_twice_16 : decode b_Cu_twice 16 = .ok (.getfield 45, 3) := by decide +kernel
theorem d_Cu_twice_19 : decode b_Cu_twice 19 = .ok (.iconst 2, 1) := by decide +kernel
theorem d_Cu_twice_20 : decode b_Cu_twice 20 = .ok (.aaload, 1) := by decide +kernel
theorem d_Cu_twice_21 : decode b_Cu_twice 21 = .ok (.astore 5, 2) := by decide +kernel
theorem d_Cu_twice_23 : decode b_Cu_twice 23 = .ok (.aload_n 0, 1) := by decide +kernel
theorem d_Cu_twice_24 : decode b_Cu_twice 24 = .ok (.getfield 45, 3) := by decide +kernel
theorem d_Cu_twice_27 : decode b_Cu_twice 27 = .ok (.iconst 3, 1) := by decide +kernel
theorem d_Cu_twice_28 : decode b_Cu_twice 28 = .ok (.aaload, 1) := by decide +kernel
theorem d_Cu_twice_29 : decode b_Cu_twice 29 = .ok (.astore 6, 2) := by decide +kernel
theorem d_Cu_twice_31 : decode b_Cu_twice 31 = .ok (.aload_n 0, 1) := by decide +kernel
theorem d_Cu_twice_32 : decode b_Cu_twice 32 = .ok (.getfield 45, 3) := by decide +kernel
theorem d_Cu_twice_35 : decode b_Cu_twice 35 = .ok (.iconst 4, 1) := by decide +kernel
theorem d_Cu_twice_36 : decode b_Cu_twice 36 = .ok (.aaload, 1) := by decide +kernel
theorem d_Cu_twice_37 : decode b_Cu_twice 37 = .ok (.astore 7, 2) := by decide +kernel
theorem d_Cu_twice_39 : decode b_Cu_twice 39 = .ok (.aload_n 0, 1) := by decide +kernel
theorem d_Cu_twice_40 : decode b_Cu_twice 40 = .ok (.getfield 24, 3) := by decide +kernel
theorem d_Cu_twice_43 : decode b_Cu_twice 43 = .ok (.aload_n 1, 1) := by decide +kernel
theorem d_Cu_twice_44 : decode b_Cu_twice 44 = .ok (.getfield 106, 3) := by decide +kernel
theorem d_Cu_twice_47 : decode b_Cu_twice 47 = .ok (.aload_n 1, 1) := by decide +kernel
theorem d_Cu_twice_48 : decode b_Cu_twice 48 = .ok (.getfield 106, 3) := by decide +kernel
theorem d_Cu_twice_51 : decode b_Cu_twice 51 = .ok (.aload_n 3, 1) := by decide +kernel
theorem d_Cu_twice_52 : decode b_Cu_twice 52 = .ok (.invokevirtual 112, 3) := by decide +kernel
theorem d_Cu_twice_55 : decode b_Cu_twice 55 = .ok (.aload_n 0, 1) := by decide +kernel
theorem d_Cu_twice_56 : decode b_Cu_twice 56 = .ok (.getfield 24, 3) := by decide +kernel
theorem d_Cu_twice_59 : decode b_Cu_twice 59 = .ok (.aload_n 1, 1) := by decide +kernel
theorem d_Cu_twice_60 : decode b_Cu_twice 60 = .ok (.getfield 69, 3) := by decide +kernel
theorem d_Cu_twice_63 : decode b_Cu_twice 63 = .ok (.aload_n 1, 1) := by decide +kernel
theorem d_Cu_twice_64 : decode b_Cu_twice 64 = .ok (.getfield 69, 3) := by decide +kernel
theorem d_Cu_twice_67 : decode b_Cu_twice 67 = .ok (.aload 4, 2) := by decide +kernel
theorem d_Cu_twice_69 : decode b_Cu_twice 69 = .ok (.invokevirtual 112, 3) := by decide +kernel
theorem d_Cu_twice_72 : decode b_Cu_twice 72 = .ok (.aload_n 0, 1) := by decide +kernel
theorem d_Cu_twice_73 : decode b_Cu_twice 73 = .ok (.getfield 24, 3) := by decide +kernel
theorem d_Cu_twice_76 : decode b_Cu_twice 76 = .ok (.aload_n 1, 1) := by decide +kernel
theorem d_Cu_twice_77 : decode b_Cu_twice 77 = .ok (.getfield 63, 3) := by decide +kernel
theorem d_Cu_twice_80 : decode b_Cu_twice 80 = .ok (.aload 4, 2) := by decide +kernel
theorem d_Cu_twice_82 : decode b_Cu_twice 82 = .ok (.aload 5, 2) := by decide +kernel
theorem d_Cu_twice_84 : decode b_Cu_twice 84 = .ok (.invokevirtual 112, 3) := by decide +kernel
theorem d_Cu_twice_87 : decode b_Cu_twice 87 = .ok (.aload_n 0, 1) := by decide +kernel
theorem d_Cu_twice_88 : decode b_Cu_twice 88 = .ok (.getfield 24, 3) := by decide +kernel
theorem d_Cu_twice_91 : decode b_Cu_twice 91 = .ok (.aload_n 1, 1) := by decide +kernel
theorem d_Cu_twice_92 : decode b_Cu_twice 92 = .ok (.getfield 63, 3) := by decide +kernel
theorem d_Cu_twice_95 : decode b_Cu_twice 95 = .ok (.aload_n 3, 1) := by decide +kernel
theorem d_Cu_twice_96 : decode b_Cu_twice 96 = .ok (.aload 7, 2) := by decide +kernel
theorem d_Cu_twice_98 : decode b_Cu_twice 98 = .ok (.invokevirtual 123, 3) := by decide +kernel
theorem d_Cu_twice_101 : decode b_Cu_twice 101 = .ok (.aload_n 0, 1) := by decide +kernel
theorem d_Cu_twice_102 : decode b_Cu_twice 102 = .ok (.getfield 24, 3) := by decide +kernel
theorem d_Cu_twice_105 : decode b_Cu_twice 105 = .ok (.aload_n 1, 1) := by decide +kernel
theorem d_Cu_twice_106 : decode b_Cu_twice 106 = .ok (.getfield 63, 3) := by decide +kernel
theorem d_Cu_twice_109 : decode b_Cu_twice 109 = .ok (.aload_n 3, 1) := by decide +kernel
theorem d_Cu_twice_110 : decode b_Cu_twice 110 = .ok (.aload 6, 2) := by decide +kernel
theorem d_Cu_twice_112 : decode b_Cu_twice 112 = .ok (.invokevirtual 126, 3) := by decide +kernel
theorem d_Cu_twice_115 : decode b_Cu_twice 115 = .ok (.aload_n 0, 1) := by decide +kernel
theorem d_Cu_twice_116 : decode b_Cu_twice 116 = .ok (.getfield 24, 3) := by decide +kernel
theorem d_Cu_twice_119 : decode b_Cu_twice 119 = .ok (.aload 6, 2) := by decide +kernel
theorem d_Cu_twice_121 : decode b_Cu_twice 121 = .ok (.aload 7, 2) := by decide +kernel
theorem d_Cu_twice_123 : decode b_Cu_twice 123 = .ok (.aload 7, 2) := by decide +kernel
theorem d_Cu_twice_125 : decode b_Cu_twice 125 = .ok (.invokevirtual 112, 3) := by decide +kernel
theorem d_Cu_twice_128 : decode b_Cu_twice 128 = .ok (.aload_n 0, 1) := by decide +kernel
theorem d_Cu_twice_129 : decode b_Cu_twice 129 = .ok (.getfield 24, 3) := by decide +kernel
theorem d_Cu_twice_132 : decode b_Cu_twice 132 = .ok (.aload 7, 2) := by decide +kernel
theorem d_Cu_twice_134 : decode b_Cu_twice 134 = .ok (.aload 7, 2) := by decide +kernel
theorem d_Cu_twice_136 : decode b_Cu_twice 136 = .ok (.aload 6, 2) := by decide +kernel
theorem d_Cu_twice_138 : decode b_Cu_twice 138 = .ok (.invokevirtual 126, 3) := by decide +kernel
theorem d_Cu_twice_141 : decode b_Cu_twice 141 = .ok (.aload_n 0, 1) := by decide +kernel
theorem d_Cu_twice_142 : decode b_Cu_twice 142 = .ok (.getfield 24, 3) := by decide +kernel
theorem d_Cu_twice_145 : decode b_Cu_twice 145 = .ok (.aload 6, 2) := by decide +kernel
theorem d_Cu_twice_147 : decode b_Cu_twice 147 = .ok (.aload 7, 2) := by decide +kernel
theorem d_Cu_twice_149 : decode b_Cu_twice 149 = .ok (.aload 6, 2) := by decide +kernel
theorem d_Cu_twice_151 : decode b_Cu_twice 151 = .ok (.invokevirtual 126, 3) := by decide +kernel
theorem d_Cu_twice_154 : decode b_Cu_twice 154 = .ok (.aload_n 0, 1) := by decide +kernel
theorem d_Cu_twice_155 : decode b_Cu_twice 155 = .ok (.getfield 24, 3) := by decide +kernel
theorem d_Cu_twice_158 : decode b_Cu_twice 158 = .ok (.aload_n 1, 1) := by decide +kernel
theorem d_Cu_twice_159 : decode b_Cu_twice 159 = .ok (.getfield 69, 3) := by decide +kernel
theorem d_Cu_twice_162 : decode b_Cu_twice 162 = .ok (.aload_n 1, 1) := by decide +kernel
theorem d_Cu_twice_163 : decode b_Cu_twice 163 = .ok (.getfield 106, 3) := by decide +kernel
theorem d_Cu_twice_166 : decode b_Cu_twice 166 = .ok (.aload 7, 2) := by decide +kernel
theorem d_Cu_twice_168 : decode b_Cu_twice 168 = .ok (.invokevirtual 112, 3) := by decide +kernel
theorem d_Cu_twice_171 : decode b_Cu_twice 171 = .ok (.aload_n 0, 1) := by decide +kernel
theorem d_Cu_twice_172 : decode b_Cu_twice 172 = .ok (.getfield 24, 3) := by decide +kernel
theorem d_Cu_twice_175 : decode b_Cu_twice 175 = .ok (.aload 7, 2) := by decide +kernel
theorem d_Cu_twice_177 : decode b_Cu_twice 177 = .ok (.aload 7, 2) := by decide +kernel
theorem d_Cu_twice_179 : decode b_Cu_twice 179 = .ok (.aload_n 2, 1) := by decide +kernel
theorem d_Cu_twice_180 : decode b_Cu_twice 180 = .ok (.getfield 106, 3) := by decide +kernel
theorem d_Cu_twice_183 : decode b_Cu_twice 183 = .ok (.invokevirtual 126, 3) := by decide +kernel
theorem d_Cu_twice_186 : decode b_Cu_twice 186 = .ok (.aload_n 0, 1) := by decide +kernel
theorem d_Cu_twice_187 : decode b_Cu_twice 187 = .ok (.getfield 24, 3) := by decide +kernel
theorem d_Cu_twice_190 : decode b_Cu_twice 190 = .ok (.aload 5, 2) := by decide +kernel
theorem d_Cu_twice_192 : decode b_Cu_twice 192 = .ok (.aload 5, 2) := by decide +kernel
theorem d_Cu_twice_194 : decode b_Cu_twice 194 = .ok (.aload 5, 2) := by decide +kernel
theorem d_Cu_twice_196 : decode b_Cu_twice 196 = .ok (.invokevirtual 126, 3) := by decide +kernel
theorem d_Cu_twice_199 : decode b_Cu_twice 199 = .ok (.aload_n 0, 1) := by decide +kernel
theorem d_Cu_twice_200 : decode b_Cu_twice 200 = .ok (.getfield 24, 3) := by decide +kernel
theorem d_Cu_twice_203 : decode b_Cu_twice 203 = .ok (.aload 5, 2) := by decide +kernel
theorem d_Cu_twice_205 : decode b_Cu_twice 205 = .ok (.aload 5, 2) := by decide +kernel
theorem d_Cu_twice_207 : decode b_Cu_twice 207 = .ok (.aload 5, 2) := by decide +kernel
theorem d_Cu_twice_209 : decode b_Cu_twice 209 = .ok (.invokevirtual 126, 3) := by decide +kernel
theorem d_Cu_twice_212 : decode b_Cu_twice 212 = .ok (.aload_n 0, 1) := by decide +kernel
theorem d_Cu_twice_213 : decode b_Cu_twice 213 = .ok (.getfield 24, 3) := by decide +kernel
theorem d_Cu_twice_216 : decode b_Cu_twice 216 = .ok (.aload 6, 2) := by decide +kernel
theorem d_Cu_twice_218 : decode b_Cu_twice 218 = .ok (.aload 6, 2) := by decide +kernel
theorem d_Cu_twice_220 : decode b_Cu_twice 220 = .ok (.aload_n 2, 1) := by decide +kernel
theorem d_Cu_twice_221 : decode b_Cu_twice 221 = .ok (.getfield 63, 3) := by decide +kernel
theorem d_Cu_twice_224 : decode b_Cu_twice 224 = .ok (.invokevirtual 112, 3) := by decide +kernel
theorem d_Cu_twice_227 : decode b_Cu_twice 227 = .ok (.aload_n 0, 1) := by decide +kernel
theorem d_Cu_twice_228 : decode b_Cu_twice 228 = .ok (.getfield 24, 3) := by decide +kernel
theorem d_Cu_twice_231 : decode b_Cu_twice 231 = .ok (.aload_n 2, 1) := by decide +kernel
theorem d_Cu_twice_232 : decode b_Cu_twice 232 = .ok (.getfield 63, 3) := by decide +kernel
theorem d_Cu_twice_235 : decode b_Cu_twice 235 = .ok (.aload 5, 2) := by decide +kernel
theorem d_Cu_twice_237 : decode b_Cu_twice 237 = .ok (.aload_n 2, 1) := by decide +kernel
theorem d_Cu_twice_238 : decode b_Cu_twice 238 = .ok (.getfield 63, 3) := by decide +kernel
theorem d_Cu_twice_241 : decode b_Cu_twice 241 = .ok (.invokevirtual 123, 3) := by decide +kernel
theorem d_Cu_twice_244 : decode b_Cu_twice 244 = .ok (.aload_n 0, 1) := by decide +kernel
theorem d_Cu_twice_245 : decode b_Cu_twice 245 = .ok (.getfield 24, 3) := by decide +kernel
theorem d_Cu_twice_248 : decode b_Cu_twice 248 = .ok (.aload_n 2, 1) := by decide +kernel
theorem d_Cu_twice_249 : decode b_Cu_twice 249 = .ok (.getfield 63, 3) := by decide +kernel
theorem d_Cu_twice_252 : decode b_Cu_twice 252 = .ok (.aload 5, 2) := by decide +kernel
theorem d_Cu_twice_254 : decode b_Cu_twice 254 = .ok (.aload_n 2, 1) := by decide +kernel
theorem d_Cu_twice_255 : decode b_Cu_twice 255 = .ok (.getfield 63, 3) := by decide +kernel
theorem d_Cu_twice_258 : decode b_Cu_twice 258 = .ok (.invokevirtual 123, 3) := by decide +kernel
theorem d_Cu_twice_261 : decode b_Cu_twice 261 = .ok (.aload_n 0, 1) := by decide +kernel
theorem d_Cu_twice_262 : decode b_Cu_twice 262 = .ok (.getfield 24, 3) := by decide +kernel
theorem d_Cu_twice_265 : decode b_Cu_twice 265 = .ok (.aload 5, 2) := by decide +kernel
theorem d_Cu_twice_267 : decode b_Cu_twice 267 = .ok (.aload_n 2, 1) := by decide +kernel
theorem d_Cu_twice_268 : decode b_Cu_twice 268 = .ok (.getfield 63, 3) := by decide +kernel
theorem d_Cu_twice_271 : decode b_Cu_twice 271 = .ok (.aload 7, 2) := by decide +kernel
theorem d_Cu_twice_273 : decode b_Cu_twice 273 = .ok (.invokevirtual 123, 3) := by decide +kernel
theorem d_Cu_twice_276 : decode b_Cu_twice 276 = .ok (.aload_n 0, 1) := by decide +kernel
theorem d_Cu_twice_277 : decode b_Cu_twice 277 = .ok (.getfield 24, 3) := by decide +kernel
theorem d_Cu_twice_280 : decode b_Cu_twice 280 = .ok (.aload 6, 2) := by decide +kernel
theorem d_Cu_twice_282 : decode b_Cu_twice 282 = .ok (.aload 7, 2) := by decide +kernel
theorem d_Cu_twice_284 : decode b_Cu_twice 284 = .ok (.aload 7, 2) := by decide +kernel
theorem d_Cu_twice_286 : decode b_Cu_twice 286 = .ok (.invokevirtual 112, 3) := by decide +kernel
theorem d_Cu_twice_289 : decode b_Cu_twice 289 = .ok (.aload_n 0, 1) := by decide +kernel
theorem d_Cu_twice_290 : decode b_Cu_twice 290 = .ok (.getfield 24, 3) := by decide +kernel
theorem d_Cu_twice_293 : decode b_Cu_twice 293 = .ok (.aload 4, 2) := by decide +kernel
theorem d_Cu_twice_295 : decode b_Cu_twice 295 = .ok (.aload 4, 2) := by decide +kernel
theorem d_Cu_twice_297 : decode b_Cu_twice 297 = .ok (.aload 4, 2) := by decide +kernel
theorem d_Cu_twice_299 : decode b_Cu_twice 299 = .ok (.invokevirtual 126, 3) := by decide +kernel
theorem d_Cu_twice_302 : decode b_Cu_twice 302 = .ok (.aload_n 0, 1) := by decide +kernel
theorem d_Cu_twice_303 : decode b_Cu_twice 303 = .ok (.getfield 24, 3) := by decide +kernel
theorem d_Cu_twice_306 : decode b_Cu_twice 306 = .ok (.aload 4, 2) := by decide +kernel
theorem d_Cu_twice_308 : decode b_Cu_twice 308 = .ok (.aload 4, 2) := by decide +kernel
theorem d_Cu_twice_310 : decode b_Cu_twice 310 = .ok (.aload 4, 2) := by decide +kernel
theorem d_Cu_twice_312 : decode b_Cu_twice 312 = .ok (.invokevirtual 112, 3) := by decide +kernel
theorem d_Cu_twice_315 : decode b_Cu_twice 315 = .ok (.aload_n 0, 1) := by decide +kernel
theorem d_Cu_twice_316 : decode b_Cu_twice 316 = .ok (.getfield 24, 3) := by decide +kernel
theorem d_Cu_twice_319 : decode b_Cu_twice 319 = .ok (.aload 4, 2) := by decide +kernel
theorem d_Cu_twice_321 : decode b_Cu_twice 321 = .ok (.aload 4, 2) := by decide +kernel
theorem d_Cu_twice_323 : decode b_Cu_twice 323 = .ok (.aload 4, 2) := by decide +kernel
theorem d_Cu_twice_325 : decode b_Cu_twice 325 = .ok (.invokevirtual 126, 3) := by decide +kernel
theorem d_Cu_twice_328 : decode b_Cu_twice 328 = .ok (.aload_n 0, 1) := by decide +kernel
theorem d_Cu_twice_329 : decode b_Cu_twice 329 = .ok (.getfield 24, 3) := by decide +kernel
theorem d_Cu_twice_332 : decode b_Cu_twice 332 = .ok (.aload 7, 2) := by decide +kernel
theorem d_Cu_twice_334 : decode b_Cu_twice 334 = .ok (.aload 4, 2) := by decide +kernel
theorem d_Cu_twice_336 : decode b_Cu_twice 336 = .ok (.aload_n 2, 1) := by decide +kernel
theorem d_Cu_twice_337 : decode b_Cu_twice 337 = .ok (.getfield 69, 3) := by decide +kernel
theorem d_Cu_twice_340 : decode b_Cu_twice 340 = .ok (.invokevirtual 123, 3) := by decide +kernel
theorem d_Cu_twice_343 : decode b_Cu_twice 343 = .ok (.return_, 1) := by decide +kernel
theorem fl_Cu_45 : FL "PrimeKeys$Curve" 45 0 5 := ⟨R_Cu, F_Cu, 6, rfl, u_Cu, by decide, rfl, tb_1 (List.mem_of_getElem? (i := 239) (by decide +kernel)) rfl⟩
theorem cd_Cu_123 : CD "PrimeKeys$Curve" 123 y_Mo_subtract b_Mo_subtract 7 none 3 := ⟨tb_1 (List.mem_of_getElem? (i := 198) rfl) rfl, tb_1 (List.mem_of_getElem? (i := 4) (by decide +kernel)) rfl, tb_1 (List.mem_of_getElem? (i := 195) (by decide +kernel)) rfl, by decide +kernel⟩
theorem kw_in_Mo_subtract : Cond.instanceMethod y_Mo_subtract ∈ TB := tb_1 (List.mem_of_getElem? (i := 196) (by decide +kernel)) rfl
theorem kw_se_Mo_subtract : Cond.selects "PrimeKeys$Modulus" y_Mo_subtract y_Mo_subtract ∈ TB := tb_1 (List.mem_of_getElem? (i := 197) (by decide +kernel)) rfl
theorem cd_Cu_126 : CD "PrimeKeys$Curve" 126 y_Mo_add b_Mo_add 7 none 3 := ⟨tb_1 (List.mem_of_getElem? (i := 93) rfl) rfl, tb_1 (List.mem_of_getElem? (i := 4) (by decide +kernel)) rfl, tb_1 (List.mem_of_getElem? (i := 203) (by decide +kernel)) rfl, by decide +kernel⟩
theorem cd_Cu_112 : CD "PrimeKeys$Curve" 112 y_Mo_multiply b_Mo_multiply 4 none 3 := ⟨tb_1 (List.mem_of_getElem? (i := 165) rfl) rfl, tb_1 (List.mem_of_getElem? (i := 4) (by decide +kernel)) rfl, tb_1 (List.mem_of_getElem? (i := 194) (by decide +kernel)) rfl, by decide +kernel⟩
abbrev rm_Cu_twice : Room := { frames := 3, cells := 0, slots := 0, locals := 84 }
def P_Cu_twice (h : HP) (p0 : Nat) (p1 : Nat) (p2 : Nat) : Option (HP) :=
  bnd (gR h p0 0 5) fun k1 =>
  bnd (ldR h k1 5 0) fun k2 =>
  bnd (gR h p0 0 5) fun k3 =>
  bnd (ldR h k3 5 1) fun k4 =>
  bnd (gR h p0 0 5) fun k5 =>
  bnd (ldR h k5 5 2) fun k6 =>
  bnd (gR h p0 0 5) fun k7 =>
  bnd (ldR h k7 5 3) fun k8 =>
  bnd (gR h p0 0 5) fun k9 =>
  bnd (ldR h k9 5 4) fun k10 =>
  bnd (gR h p0 0 1) fun k11 =>
  bnd (gR h p1 3 2) fun k12 =>
  bnd (gR h p1 3 2) fun k13 =>
  ob h k11 1 (
  bnd (P_Mo_multiply h k11 k12 k13 k2) fun h14 =>
  bnd (gR h14 p0 0 1) fun k15 =>
  bnd (gR h14 p1 3 1) fun k16 =>
  bnd (gR h14 p1 3 1) fun k17 =>
  ob h14 k15 1 (
  bnd (P_Mo_multiply h14 k15 k16 k17 k4) fun h18 =>
  bnd (gR h18 p0 0 1) fun k19 =>
  bnd (gR h18 p1 3 0) fun k20 =>
  ob h18 k19 1 (
  bnd (P_Mo_multiply h18 k19 k20 k4 k6) fun h21 =>
  bnd (gR h21 p0 0 1) fun k22 =>
  bnd (gR h21 p1 3 0) fun k23 =>
  ob h21 k22 1 (
  bnd (P_Mo_subtract h21 k22 k23 k2 k10) fun h24 =>
  bnd (gR h24 p0 0 1) fun k25 =>
  bnd (gR h24 p1 3 0) fun k26 =>
  ob h24 k25 1 (
  bnd (P_Mo_add h24 k25 k26 k2 k8) fun h27 =>
  bnd (gR h27 p0 0 1) fun k28 =>
  ob h27 k28 1 (
  bnd (P_Mo_multiply h27 k28 k8 k10 k10) fun h29 =>
  bnd (gR h29 p0 0 1) fun k30 =>
  ob h29 k30 1 (
  bnd (P_Mo_add h29 k30 k10 k10 k8) fun h31 =>
  bnd (gR h31 p0 0 1) fun k32 =>
  ob h31 k32 1 (
  bnd (P_Mo_add h31 k32 k8 k10 k8) fun h33 =>
  bnd (gR h33 p0 0 1) fun k34 =>
  bnd (gR h33 p1 3 1) fun k35 =>
  bnd (gR h33 p1 3 2) fun k36 =>
  ob h33 k34 1 (
  bnd (P_Mo_multiply h33 k34 k35 k36 k10) fun h37 =>
  bnd (gR h37 p0 0 1) fun k38 =>
  bnd (gR h37 p2 3 2) fun k39 =>
  ob h37 k38 1 (
  bnd (P_Mo_add h37 k38 k10 k10 k39) fun h40 =>
  bnd (gR h40 p0 0 1) fun k41 =>
  ob h40 k41 1 (
  bnd (P_Mo_add h40 k41 k6 k6 k6) fun h42 =>
  bnd (gR h42 p0 0 1) fun k43 =>
  ob h42 k43 1 (
  bnd (P_Mo_add h42 k43 k6 k6 k6) fun h44 =>
  bnd (gR h44 p0 0 1) fun k45 =>
  bnd (gR h44 p2 3 0) fun k46 =>
  ob h44 k45 1 (
  bnd (P_Mo_multiply h44 k45 k8 k8 k46) fun h47 =>
  bnd (gR h47 p0 0 1) fun k48 =>
  bnd (gR h47 p2 3 0) fun k49 =>
  bnd (gR h47 p2 3 0) fun k50 =>
  ob h47 k48 1 (
  bnd (P_Mo_subtract h47 k48 k49 k6 k50) fun h51 =>
  bnd (gR h51 p0 0 1) fun k52 =>
  bnd (gR h51 p2 3 0) fun k53 =>
  bnd (gR h51 p2 3 0) fun k54 =>
  ob h51 k52 1 (
  bnd (P_Mo_subtract h51 k52 k53 k6 k54) fun h55 =>
  bnd (gR h55 p0 0 1) fun k56 =>
  bnd (gR h55 p2 3 0) fun k57 =>
  ob h55 k56 1 (
  bnd (P_Mo_subtract h55 k56 k6 k57 k10) fun h58 =>
  bnd (gR h58 p0 0 1) fun k59 =>
  ob h58 k59 1 (
  bnd (P_Mo_multiply h58 k59 k8 k10 k10) fun h60 =>
  bnd (gR h60 p0 0 1) fun k61 =>
  ob h60 k61 1 (
  bnd (P_Mo_add h60 k61 k4 k4 k4) fun h62 =>
  bnd (gR h62 p0 0 1) fun k63 =>
  ob h62 k63 1 (
  bnd (P_Mo_multiply h62 k63 k4 k4 k4) fun h64 =>
  bnd (gR h64 p0 0 1) fun k65 =>
  ob h64 k65 1 (
  bnd (P_Mo_add h64 k65 k4 k4 k4) fun h66 =>
  bnd (gR h66 p0 0 1) fun k67 =>
  bnd (gR h66 p2 3 1) fun k68 =>
  ob h66 k67 1 (
  bnd (P_Mo_subtract h66 k67 k10 k4 k68) fun h69 =>
  some h69)))))))))))))))))))))
set_option maxHeartbeats 4000000 in
set_option maxRecDepth 100000 in
theorem c_Cu_twice {l : Launch} {h h' : HP} {p0 p1 p2 : _} (hr : P_Cu_twice h p0 p1 p2 = some h') : MP l y_Cu_twice (Cond.code y_Cu_twice b_Cu_twice 8 none :: TB) rm_Cu_twice h [.ref p0, .ref p1, .ref p2] none h' := by
  refine MP_intro (cc := b_Cu_twice) (by decide) (Nat.le_of_ble_eq_true rfl) (fun x hl0 C T hin => ?_)
  unfold P_Cu_twice at hr
  show GG x 0 0 h 0 [(0, .ref p0), (1, .ref p1), (2, .ref p2)] []
  refine g_aload_n C 0 rfl d_Cu_twice_0 rfl ?_
  obtain ⟨k1, ek1, hr⟩ := of_bnd hr
  refine g_getR C fl_Cu_45 ek1 d_Cu_twice_1 ?_
  refine g_iconst (v := 0) C d_Cu_twice_4 (by decide) ?_
  obtain ⟨k2, ek2, hr⟩ := of_bnd hr
  refine g_aaload C (by decide) ek2 d_Cu_twice_5 ?_
  refine g_astore_n (lv' := [(3, .ref k2), (0, .ref p0), (1, .ref p1), (2, .ref p2)]) C d_Cu_twice_6 rfl (by decide) rfl ?_
  refine g_aload_n C 1 rfl d_Cu_twice_7 rfl ?_
  obtain ⟨k3, ek3, hr⟩ := of_bnd hr
  refine g_getR C fl_Cu_45 ek3 d_Cu_twice_8 ?_
  refine g_iconst (v := 1) C d_Cu_twice_11 (by decide) ?_
  obtain ⟨k4, ek4, hr⟩ := of_bnd hr
  refine g_aaload C (by decide) ek4 d_Cu_twice_12 ?_
  refine g_astore (lv' := [(4, .ref k4), (3, .ref k2), (0, .ref p0), (1, .ref p1), (2, .ref p2)]) C d_Cu_twice_13 (by decide) rfl ?_
  refine g_aload_n C 2 rfl d_Cu_twice_15 rfl ?_
  obtain ⟨k5, ek5, hr⟩ := of_bnd hr
  refine g_getR C fl_Cu_45 ek5 d_Cu_twice_16 ?_
  refine g_iconst (v := 2) C d_Cu_twice_19 (by decide) ?_
  obtain ⟨k6, ek6, hr⟩ := of_bnd hr
  refine g_aaload C (by decide) ek6 d_Cu_twice_20 ?_
  refine g_astore (lv' := [(5, .ref k6), (4, .ref k4), (3, .ref k2), (0, .ref p0), (1, .ref p1), (2, .ref p2)]) C d_Cu_twice_21 (by decide) rfl ?_
  refine g_aload_n C 3 rfl d_Cu_twice_23 rfl ?_
  obtain ⟨k7, ek7, hr⟩ := of_bnd hr
  refine g_getR C fl_Cu_45 ek7 d_Cu_twice_24 ?_
  refine g_iconst (v := 3) C d_Cu_twice_27 (by decide) ?_
  obtain ⟨k8, ek8, hr⟩ := of_bnd hr
  refine g_aaload C (by decide) ek8 d_Cu_twice_28 ?_
  refine g_astore (lv' := [(6, .ref k8), (5, .ref k6), (4, .ref k4), (3, .ref k2), (0, .ref p0), (1, .ref p1), (2, .ref p2)]) C d_Cu_twice_29 (by decide) rfl ?_
  refine g_aload_n C 4 rfl d_Cu_twice_31 rfl ?_
  obtain ⟨k9, ek9, hr⟩ := of_bnd hr
  refine g_getR C fl_Cu_45 ek9 d_Cu_twice_32 ?_
  refine g_iconst (v := 4) C d_Cu_twice_35 (by decide) ?_
  obtain ⟨k10, ek10, hr⟩ := of_bnd hr
  refine g_aaload C (by decide) ek10 d_Cu_twice_36 ?_
  refine g_astore (lv' := [(7, .ref k10), (6, .ref k8), (5, .ref k6), (4, .ref k4), (3, .ref k2), (0, .ref p0), (1, .ref p1), (2, .ref p2)]) C d_Cu_twice_37 (by decide) rfl ?_
  refine g_aload_n C 5 rfl d_Cu_twice_39 rfl ?_
  obtain ⟨k11, ek11, hr⟩ := of_bnd hr
  refine g_getR C fl_Cu_24 ek11 d_Cu_twice_40 ?_
  refine g_aload_n C 6 rfl d_Cu_twice_43 rfl ?_
  obtain ⟨k12, ek12, hr⟩ := of_bnd hr
  refine g_getR C fl_Cu_106 ek12 d_Cu_twice_44 ?_
  refine g_aload_n C 6 rfl d_Cu_twice_47 rfl ?_
  obtain ⟨k13, ek13, hr⟩ := of_bnd hr
  refine g_getR C fl_Cu_106 ek13 d_Cu_twice_48 ?_
  refine g_aload_n C 4 rfl d_Cu_twice_51 rfl ?_
  obtain ⟨fsh14, hoh14, hr⟩ := of_ob hr
  obtain ⟨h14, eh14, hr⟩ := of_bnd hr
  refine g_callV (pa := [.ref k12, .ref k13, .ref k2]) C hl0 (c_Mo_multiply eh14) cd_Cu_112 kw_in_Mo_multiply kw_se_Mo_multiply hoh14 rfl rfl (by decide) rfl rfl (Nat.le_of_ble_eq_true rfl) d_Cu_twice_52 ?_
  refine g_aload_n C 5 rfl d_Cu_twice_55 rfl ?_
  obtain ⟨k15, ek15, hr⟩ := of_bnd hr
  refine g_getR C fl_Cu_24 ek15 d_Cu_twice_56 ?_
  refine g_aload_n C 6 rfl d_Cu_twice_59 rfl ?_
  obtain ⟨k16, ek16, hr⟩ := of_bnd hr
  refine g_getR C fl_Cu_69 ek16 d_Cu_twice_60 ?_
  refine g_aload_n C 6 rfl d_Cu_twice_63 rfl ?_
  obtain ⟨k17, ek17, hr⟩ := of_bnd hr
  refine g_getR C fl_Cu_69 ek17 d_Cu_twice_64 ?_
  refine g_aload C 3 rfl d_Cu_twice_67 ?_
  obtain ⟨fsh18, hoh18, hr⟩ := of_ob hr
  obtain ⟨h18, eh18, hr⟩ := of_bnd hr
  refine g_callV (pa := [.ref k16, .ref k17, .ref k4]) C hl0 (c_Mo_multiply eh18) cd_Cu_112 kw_in_Mo_multiply kw_se_Mo_multiply hoh18 rfl rfl (by decide) rfl rfl (Nat.le_of_ble_eq_true rfl) d_Cu_twice_69 ?_
  refine g_aload_n C 5 rfl d_Cu_twice_72 rfl ?_
  obtain ⟨k19, ek19, hr⟩ := of_bnd hr
  refine g_getR C fl_Cu_24 ek19 d_Cu_twice_73 ?_
  refine g_aload_n C 6 rfl d_Cu_twice_76 rfl ?_
  obtain ⟨k20, ek20, hr⟩ := of_bnd hr
  refine g_getR C fl_Cu_63 ek20 d_Cu_twice_77 ?_
  refine g_aload C 3 rfl d_Cu_twice_80 ?_
  refine g_aload C 2 rfl d_Cu_twice_82 ?_
  obtain ⟨fsh21, hoh21, hr⟩ := of_ob hr
  obtain ⟨h21, eh21, hr⟩ := of_bnd hr
  refine g_callV (pa := [.ref k20, .ref k4, .ref k6]) C hl0 (c_Mo_multiply eh21) cd_Cu_112 kw_in_Mo_multiply kw_se_Mo_multiply hoh21 rfl rfl (by decide) rfl rfl (Nat.le_of_ble_eq_true rfl) d_Cu_twice_84 ?_
  refine g_aload_n C 5 rfl d_Cu_twice_87 rfl ?_
  obtain ⟨k22, ek22, hr⟩ := of_bnd hr
  refine g_getR C fl_Cu_24 ek22 d_Cu_twice_88 ?_
  refine g_aload_n C 6 rfl d_Cu_twice_91 rfl ?_
  obtain ⟨k23, ek23, hr⟩ := of_bnd hr
  refine g_getR C fl_Cu_63 ek23 d_Cu_twice_92 ?_
  refine g_aload_n C 4 rfl d_Cu_twice_95 rfl ?_
  refine g_aload C 0 rfl d_Cu_twice_96 ?_
  obtain ⟨fsh24, hoh24, hr⟩ := of_ob hr
  obtain ⟨h24, eh24, hr⟩ := of_bnd hr
  refine g_callV (pa := [.ref k23, .ref k2, .ref k10]) C hl0 (c_Mo_subtract eh24) cd_Cu_123 kw_in_Mo_subtract kw_se_Mo_subtract hoh24 rfl rfl (by decide) rfl rfl (Nat.le_of_ble_eq_true rfl) d_Cu_twice_98 ?_
  refine g_aload_n C 5 rfl d_Cu_twice_101 rfl ?_
  obtain ⟨k25, ek25, hr⟩ := of_bnd hr
  refine g_getR C fl_Cu_24 ek25 d_Cu_twice_102 ?_
  refine g_aload_n C 6 rfl d_Cu_twice_105 rfl ?_
  obtain ⟨k26, ek26, hr⟩ := of_bnd hr
  refine g_getR C fl_Cu_63 ek26 d_Cu_twice_106 ?_
  refine g_aload_n C 4 rfl d_Cu_twice_109 rfl ?_
  refine g_aload C 1 rfl d_Cu_twice_110 ?_
  obtain ⟨fsh27, hoh27, hr⟩ := of_ob hr
  obtain ⟨h27, eh27, hr⟩ := of_bnd hr
  refine g_callV (pa := [.ref k26, .ref k2, .ref k8]) C hl0 (c_Mo_add eh27) cd_Cu_126 kw_in_Mo_add kw_se_Mo_add hoh27 rfl rfl (by decide) rfl rfl (Nat.le_of_ble_eq_true rfl) d_Cu_twice_112 ?_
  refine g_aload_n C 5 rfl d_Cu_twice_115 rfl ?_
  obtain ⟨k28, ek28, hr⟩ := of_bnd hr
  refine g_getR C fl_Cu_24 ek28 d_Cu_twice_116 ?_
  refine g_aload C 1 rfl d_Cu_twice_119 ?_
  refine g_aload C 0 rfl d_Cu_twice_121 ?_
  refine g_aload C 0 rfl d_Cu_twice_123 ?_
  obtain ⟨fsh29, hoh29, hr⟩ := of_ob hr
  obtain ⟨h29, eh29, hr⟩ := of_bnd hr
  refine g_callV (pa := [.ref k8, .ref k10, .ref k10]) C hl0 (c_Mo_multiply eh29) cd_Cu_112 kw_in_Mo_multiply kw_se_Mo_multiply hoh29 rfl rfl (by decide) rfl rfl (Nat.le_of_ble_eq_true rfl) d_Cu_twice_125 ?_
  refine g_aload_n C 5 rfl d_Cu_twice_128 rfl ?_
  obtain ⟨k30, ek30, hr⟩ := of_bnd hr
  refine g_getR C fl_Cu_24 ek30 d_Cu_twice_129 ?_
  refine g_aload C 0 rfl d_Cu_twice_132 ?_
  refine g_aload C 0 rfl d_Cu_twice_134 ?_
  refine g_aload C 1 rfl d_Cu_twice_136 ?_
  obtain ⟨fsh31, hoh31, hr⟩ := of_ob hr
  obtain ⟨h31, eh31, hr⟩ := of_bnd hr
  refine g_callV (pa := [.ref k10, .ref k10, .ref k8]) C hl0 (c_Mo_add eh31) cd_Cu_126 kw_in_Mo_add kw_se_Mo_add hoh31 rfl rfl (by decide) rfl rfl (Nat.le_of_ble_eq_true rfl) d_Cu_twice_138 ?_
  refine g_aload_n C 5 rfl d_Cu_twice_141 rfl ?_
  obtain ⟨k32, ek32, hr⟩ := of_bnd hr
  refine g_getR C fl_Cu_24 ek32 d_Cu_twice_142 ?_
  refine g_aload C 1 rfl d_Cu_twice_145 ?_
  refine g_aload C 0 rfl d_Cu_twice_147 ?_
  refine g_aload C 1 rfl d_Cu_twice_149 ?_
  obtain ⟨fsh33, hoh33, hr⟩ := of_ob hr
  obtain ⟨h33, eh33, hr⟩ := of_bnd hr
  refine g_callV (pa := [.ref k8, .ref k10, .ref k8]) C hl0 (c_Mo_add eh33) cd_Cu_126 kw_in_Mo_add kw_se_Mo_add hoh33 rfl rfl (by decide) rfl rfl (Nat.le_of_ble_eq_true rfl) d_Cu_twice_151 ?_
  refine g_aload_n C 5 rfl d_Cu_twice_154 rfl ?_
  obtain ⟨k34, ek34, hr⟩ := of_bnd hr
  refine g_getR C fl_Cu_24 ek34 d_Cu_twice_155 ?_
  refine g_aload_n C 6 rfl d_Cu_twice_158 rfl ?_
  obtain ⟨k35, ek35, hr⟩ := of_bnd hr
  refine g_getR C fl_Cu_69 ek35 d_Cu_twice_159 ?_
  refine g_aload_n C 6 rfl d_Cu_twice_162 rfl ?_
  obtain ⟨k36, ek36, hr⟩ := of_bnd hr
  refine g_getR C fl_Cu_106 ek36 d_Cu_twice_163 ?_
  refine g_aload C 0 rfl d_Cu_twice_166 ?_
  obtain ⟨fsh37, hoh37, hr⟩ := of_ob hr
  obtain ⟨h37, eh37, hr⟩ := of_bnd hr
  refine g_callV (pa := [.ref k35, .ref k36, .ref k10]) C hl0 (c_Mo_multiply eh37) cd_Cu_112 kw_in_Mo_multiply kw_se_Mo_multiply hoh37 rfl rfl (by decide) rfl rfl (Nat.le_of_ble_eq_true rfl) d_Cu_twice_168 ?_
  refine g_aload_n C 5 rfl d_Cu_twice_171 rfl ?_
  obtain ⟨k38, ek38, hr⟩ := of_bnd hr
  refine g_getR C fl_Cu_24 ek38 d_Cu_twice_172 ?_
  refine g_aload C 0 rfl d_Cu_twice_175 ?_
  refine g_aload C 0 rfl d_Cu_twice_177 ?_
  refine g_aload_n C 7 rfl d_Cu_twice_179 rfl ?_
  obtain ⟨k39, ek39, hr⟩ := of_bnd hr
  refine g_getR C fl_Cu_106 ek39 d_Cu_twice_180 ?_
  obtain ⟨fsh40, hoh40, hr⟩ := of_ob hr
  obtain ⟨h40, eh40, hr⟩ := of_bnd hr
  refine g_callV (pa := [.ref k10, .ref k10, .ref k39]) C hl0 (c_Mo_add eh40) cd_Cu_126 kw_in_Mo_add kw_se_Mo_add hoh40 rfl rfl (by decide) rfl rfl (Nat.le_of_ble_eq_true rfl) d_Cu_twice_183 ?_
  refine g_aload_n C 5 rfl d_Cu_twice_186 rfl ?_
  obtain ⟨k41, ek41, hr⟩ := of_bnd hr
  refine g_getR C fl_Cu_24 ek41 d_Cu_twice_187 ?_
  refine g_aload C 2 rfl d_Cu_twice_190 ?_
  refine g_aload C 2 rfl d_Cu_twice_192 ?_
  refine g_aload C 2 rfl d_Cu_twice_194 ?_
  obtain ⟨fsh42, hoh42, hr⟩ := of_ob hr
  obtain ⟨h42, eh42, hr⟩ := of_bnd hr
  refine g_callV (pa := [.ref k6, .ref k6, .ref k6]) C hl0 (c_Mo_add eh42) cd_Cu_126 kw_in_Mo_add kw_se_Mo_add hoh42 rfl rfl (by decide) rfl rfl (Nat.le_of_ble_eq_true rfl) d_Cu_twice_196 ?_
  refine g_aload_n C 5 rfl d_Cu_twice_199 rfl ?_
  obtain ⟨k43, ek43, hr⟩ := of_bnd hr
  refine g_getR C fl_Cu_24 ek43 d_Cu_twice_200 ?_
  refine g_aload C 2 rfl d_Cu_twice_203 ?_
  refine g_aload C 2 rfl d_Cu_twice_205 ?_
  refine g_aload C 2 rfl d_Cu_twice_207 ?_
  obtain ⟨fsh44, hoh44, hr⟩ := of_ob hr
  obtain ⟨h44, eh44, hr⟩ := of_bnd hr
  refine g_callV (pa := [.ref k6, .ref k6, .ref k6]) C hl0 (c_Mo_add eh44) cd_Cu_126 kw_in_Mo_add kw_se_Mo_add hoh44 rfl rfl (by decide) rfl rfl (Nat.le_of_ble_eq_true rfl) d_Cu_twice_209 ?_
  refine g_aload_n C 5 rfl d_Cu_twice_212 rfl ?_
  obtain ⟨k45, ek45, hr⟩ := of_bnd hr
  refine g_getR C fl_Cu_24 ek45 d_Cu_twice_213 ?_
  refine g_aload C 1 rfl d_Cu_twice_216 ?_
  refine g_aload C 1 rfl d_Cu_twice_218 ?_
  refine g_aload_n C 7 rfl d_Cu_twice_220 rfl ?_
  obtain ⟨k46, ek46, hr⟩ := of_bnd hr
  refine g_getR C fl_Cu_63 ek46 d_Cu_twice_221 ?_
  obtain ⟨fsh47, hoh47, hr⟩ := of_ob hr
  obtain ⟨h47, eh47, hr⟩ := of_bnd hr
  refine g_callV (pa := [.ref k8, .ref k8, .ref k46]) C hl0 (c_Mo_multiply eh47) cd_Cu_112 kw_in_Mo_multiply kw_se_Mo_multiply hoh47 rfl rfl (by decide) rfl rfl (Nat.le_of_ble_eq_true rfl) d_Cu_twice_224 ?_
  refine g_aload_n C 5 rfl d_Cu_twice_227 rfl ?_
  obtain ⟨k48, ek48, hr⟩ := of_bnd hr
  refine g_getR C fl_Cu_24 ek48 d_Cu_twice_228 ?_
  refine g_aload_n C 7 rfl d_Cu_twice_231 rfl ?_
  obtain ⟨k49, ek49, hr⟩ := of_bnd hr
  refine g_getR C fl_Cu_63 ek49 d_Cu_twice_232 ?_
  refine g_aload C 2 rfl d_Cu_twice_235 ?_
  refine g_aload_n C 7 rfl d_Cu_twice_237 rfl ?_
  obtain ⟨k50, ek50, hr⟩ := of_bnd hr
  refine g_getR C fl_Cu_63 ek50 d_Cu_twice_238 ?_
  obtain ⟨fsh51, hoh51, hr⟩ := of_ob hr
  obtain ⟨h51, eh51, hr⟩ := of_bnd hr
  refine g_callV (pa := [.ref k49, .ref k6, .ref k50]) C hl0 (c_Mo_subtract eh51) cd_Cu_123 kw_in_Mo_subtract kw_se_Mo_subtract hoh51 rfl rfl (by decide) rfl rfl (Nat.le_of_ble_eq_true rfl) d_Cu_twice_241 ?_
  refine g_aload_n C 5 rfl d_Cu_twice_244 rfl ?_
  obtain ⟨k52, ek52, hr⟩ := of_bnd hr
  refine g_getR C fl_Cu_24 ek52 d_Cu_twice_245 ?_
  refine g_aload_n C 7 rfl d_Cu_twice_248 rfl ?_
  obtain ⟨k53, ek53, hr⟩ := of_bnd hr
  refine g_getR C fl_Cu_63 ek53 d_Cu_twice_249 ?_
  refine g_aload C 2 rfl d_Cu_twice_252 ?_
  refine g_aload_n C 7 rfl d_Cu_twice_254 rfl ?_
  obtain ⟨k54, ek54, hr⟩ := of_bnd hr
  refine g_getR C fl_Cu_63 ek54 d_Cu_twice_255 ?_
  obtain ⟨fsh55, hoh55, hr⟩ := of_ob hr
  obtain ⟨h55, eh55, hr⟩ := of_bnd hr
  refine g_callV (pa := [.ref k53, .ref k6, .ref k54]) C hl0 (c_Mo_subtract eh55) cd_Cu_123 kw_in_Mo_subtract kw_se_Mo_subtract hoh55 rfl rfl (by decide) rfl rfl (Nat.le_of_ble_eq_true rfl) d_Cu_twice_258 ?_
  refine g_aload_n C 5 rfl d_Cu_twice_261 rfl ?_
  obtain ⟨k56, ek56, hr⟩ := of_bnd hr
  refine g_getR C fl_Cu_24 ek56 d_Cu_twice_262 ?_
  refine g_aload C 2 rfl d_Cu_twice_265 ?_
  refine g_aload_n C 7 rfl d_Cu_twice_267 rfl ?_
  obtain ⟨k57, ek57, hr⟩ := of_bnd hr
  refine g_getR C fl_Cu_63 ek57 d_Cu_twice_268 ?_
  refine g_aload C 0 rfl d_Cu_twice_271 ?_
  obtain ⟨fsh58, hoh58, hr⟩ := of_ob hr
  obtain ⟨h58, eh58, hr⟩ := of_bnd hr
  refine g_callV (pa := [.ref k6, .ref k57, .ref k10]) C hl0 (c_Mo_subtract eh58) cd_Cu_123 kw_in_Mo_subtract kw_se_Mo_subtract hoh58 rfl rfl (by decide) rfl rfl (Nat.le_of_ble_eq_true rfl) d_Cu_twice_273 ?_
  refine g_aload_n C 5 rfl d_Cu_twice_276 rfl ?_
  obtain ⟨k59, ek59, hr⟩ := of_bnd hr
  refine g_getR C fl_Cu_24 ek59 d_Cu_twice_277 ?_
  refine g_aload C 1 rfl d_Cu_twice_280 ?_
  refine g_aload C 0 rfl d_Cu_twice_282 ?_
  refine g_aload C 0 rfl d_Cu_twice_284 ?_
  obtain ⟨fsh60, hoh60, hr⟩ := of_ob hr
  obtain ⟨h60, eh60, hr⟩ := of_bnd hr
  refine g_callV (pa := [.ref k8, .ref k10, .ref k10]) C hl0 (c_Mo_multiply eh60) cd_Cu_112 kw_in_Mo_multiply kw_se_Mo_multiply hoh60 rfl rfl (by decide) rfl rfl (Nat.le_of_ble_eq_true rfl) d_Cu_twice_286 ?_
  refine g_aload_n C 5 rfl d_Cu_twice_289 rfl ?_
  obtain ⟨k61, ek61, hr⟩ := of_bnd hr
  refine g_getR C fl_Cu_24 ek61 d_Cu_twice_290 ?_
  refine g_aload C 3 rfl d_Cu_twice_293 ?_
  refine g_aload C 3 rfl d_Cu_twice_295 ?_
  refine g_aload C 3 rfl d_Cu_twice_297 ?_
  obtain ⟨fsh62, hoh62, hr⟩ := of_ob hr
  obtain ⟨h62, eh62, hr⟩ := of_bnd hr
  refine g_callV (pa := [.ref k4, .ref k4, .ref k4]) C hl0 (c_Mo_add eh62) cd_Cu_126 kw_in_Mo_add kw_se_Mo_add hoh62 rfl rfl (by decide) rfl rfl (Nat.le_of_ble_eq_true rfl) d_Cu_twice_299 ?_
  refine g_aload_n C 5 rfl d_Cu_twice_302 rfl ?_
  obtain ⟨k63, ek63, hr⟩ := of_bnd hr
  refine g_getR C fl_Cu_24 ek63 d_Cu_twice_303 ?_
  refine g_aload C 3 rfl d_Cu_twice_306 ?_
  refine g_aload C 3 rfl d_Cu_twice_308 ?_
  refine g_aload C 3 rfl d_Cu_twice_310 ?_
  obtain ⟨fsh64, hoh64, hr⟩ := of_ob hr
  obtain ⟨h64, eh64, hr⟩ := of_bnd hr
  refine g_callV (pa := [.ref k4, .ref k4, .ref k4]) C hl0 (c_Mo_multiply eh64) cd_Cu_112 kw_in_Mo_multiply kw_se_Mo_multiply hoh64 rfl rfl (by decide) rfl rfl (Nat.le_of_ble_eq_true rfl) d_Cu_twice_312 ?_
  refine g_aload_n C 5 rfl d_Cu_twice_315 rfl ?_
  obtain ⟨k65, ek65, hr⟩ := of_bnd hr
  refine g_getR C fl_Cu_24 ek65 d_Cu_twice_316 ?_
  refine g_aload C 3 rfl d_Cu_twice_319 ?_
  refine g_aload C 3 rfl d_Cu_twice_321 ?_
  refine g_aload C 3 rfl d_Cu_twice_323 ?_
  obtain ⟨fsh66, hoh66, hr⟩ := of_ob hr
  obtain ⟨h66, eh66, hr⟩ := of_bnd hr
  refine g_callV (pa := [.ref k4, .ref k4, .ref k4]) C hl0 (c_Mo_add eh66) cd_Cu_126 kw_in_Mo_add kw_se_Mo_add hoh66 rfl rfl (by decide) rfl rfl (Nat.le_of_ble_eq_true rfl) d_Cu_twice_325 ?_
  refine g_aload_n C 5 rfl d_Cu_twice_328 rfl ?_
  obtain ⟨k67, ek67, hr⟩ := of_bnd hr
  refine g_getR C fl_Cu_24 ek67 d_Cu_twice_329 ?_
  refine g_aload C 0 rfl d_Cu_twice_332 ?_
  refine g_aload C 3 rfl d_Cu_twice_334 ?_
  refine g_aload_n C 7 rfl d_Cu_twice_336 rfl ?_
  obtain ⟨k68, ek68, hr⟩ := of_bnd hr
  refine g_getR C fl_Cu_69 ek68 d_Cu_twice_337 ?_
  obtain ⟨fsh69, hoh69, hr⟩ := of_ob hr
  obtain ⟨h69, eh69, hr⟩ := of_bnd hr
  refine g_callV (pa := [.ref k10, .ref k4, .ref k68]) C hl0 (c_Mo_subtract eh69) cd_Cu_123 kw_in_Mo_subtract kw_se_Mo_subtract hoh69 rfl rfl (by decide) rfl rfl (Nat.le_of_ble_eq_true rfl) d_Cu_twice_340 ?_
  cases hr
  exact g_vreturn C T (by decide) (by decide) d_Cu_twice_343
