abbrev b_Mo_multiply : ByteArray := prog_4_method_9_code
abbrev y_Mo_multiply : MethodName := ⟨"PrimeKeys$Modulus", "multiply", "([J[J[J)V"⟩
theorem d_Mo_multiply_0 : decode b_Mo_multiply 0 = .ok (.aload_n 0, 1) := by decide +kernel
theorem d_Mo_multiply_1 : decode b_Mo_multiply 1 = .ok (.aload_n 1, 1) := by decide +kernel
theorem d_Mo_multiply_2 : decode b_Mo_multiply 2 = .ok (.aload_n 2, 1) := by decide +kernel
theorem d_Mo_multiply_3 : decode b_Mo_multiply 3 = .ok (.invokevirtual 78, 3) := by decide +kernel
theorem d_Mo_multiply_6 : decode b_Mo_multiply 6 = .ok (.aload_n 0, 1) := by decide +kernel
theorem d_Mo_multiply_7 : decode b_Mo_multiply 7 = .ok (.aload_n 3, 1) := by decide +kernel
theorem d_Mo_multiply_8 : decode b_Mo_multiply 8 = .ok (.invokevirtual 81, 3) := by decide +kernel
theorem d_Mo_multiply_11 : decode b_Mo_multiply 11 = .ok (.aload_n 0, 1) := by decide +kernel
theorem d_Mo_multiply_12 : decode b_Mo_multiply 12 = .ok (.aload_n 3, 1) := by decide +kernel
theorem d_Mo_multiply_13 : decode b_Mo_multiply 13 = .ok (.invokevirtual 71, 3) := by decide +kernel
theorem d_Mo_multiply_16 : decode b_Mo_multiply 16 = .ok (.return_, 1) := by decide +kernel
theorem cd_Mo_81 : CD "PrimeKeys$Modulus" 81 y_Mo_foldWide b_Mo_foldWide 42 none 1 := ⟨tb_1 (List.mem_of_getElem? (i := 173) rfl) rfl, tb_1 (List.mem_of_getElem? (i := 4) (by decide +kernel)) rfl, tb_1 (List.mem_of_getElem? (i := 170) (by decide +kernel)) rfl, by decide +kernel⟩
theorem kw_in_Mo_foldWide : Cond.instanceMethod y_Mo_foldWide ∈ TB := tb_1 (List.mem_of_getElem? (i := 172) (by decide +kernel)) rfl
theorem kw_se_Mo_foldWide : Cond.selects "PrimeKeys$Modulus" y_Mo_foldWide y_Mo_foldWide ∈ TB := tb_p (q := (y_Mo_foldWide, 9)) (by decide +kernel)
theorem cd_Mo_78 : CD "PrimeKeys$Modulus" 78 y_Mo_fillWide b_Mo_fillWide 39 none 2 := ⟨tb_1 (List.mem_of_getElem? (i := 169) rfl) rfl, tb_1 (List.mem_of_getElem? (i := 4) (by decide +kernel)) rfl, tb_1 (List.mem_of_getElem? (i := 166) (by decide +kernel)) rfl, by decide +kernel⟩
theorem kw_in_Mo_fillWide : Cond.instanceMethod y_Mo_fillWide ∈ TB := tb_1 (List.mem_of_getElem? (i := 168) (by decide +kernel)) rfl
theorem kw_se_Mo_fillWide : Cond.selects "PrimeKeys$Modulus" y_Mo_fillWide y_Mo_fillWide ∈ TB := tb_p (q := (y_Mo_fillWide, 9)) (by decide +kernel)
abbrev rm_Mo_multiply : Room := { frames := 2, cells := 0, slots := 0, locals := 61 }
def P_Mo_multiply (h : HP) (p0 : Nat) (p1 : Nat) (p2 : Nat) (p3 : Nat) : Option (HP) :=
  ob h p0 1 (
  bnd (P_Mo_fillWide h p0 p1 p2) fun h1 =>
  ob h1 p0 1 (
  bnd (P_Mo_foldWide h1 p0 p3) fun h2 =>
  ob h2 p0 1 (
  bnd (P_Mo_reduceOnce h2 p0 p3) fun h3 =>
  some h3)))
set_option maxHeartbeats 4000000 in
set_option maxRecDepth 100000 in
theorem c_Mo_multiply {l : Launch} {h h' : HP} {p0 p1 p2 p3 : _} (hr : P_Mo_multiply h p0 p1 p2 p3 = some h') : MP l y_Mo_multiply (Cond.code y_Mo_multiply b_Mo_multiply 4 none :: TB) rm_Mo_multiply h [.ref p0, .ref p1, .ref p2, .ref p3] none h' := by
  refine MP_intro (cc := b_Mo_multiply) (by decide) (Nat.le_of_ble_eq_true rfl) (fun x hl0 C T hin => ?_)
  unfold P_Mo_multiply at hr
  show GG x 0 0 h 0 [(0, .ref p0), (1, .ref p1), (2, .ref p2), (3, .ref p3)] []
  refine g_aload_n C 0 rfl d_Mo_multiply_0 rfl ?_
  refine g_aload_n C 1 rfl d_Mo_multiply_1 rfl ?_
  refine g_aload_n C 2 rfl d_Mo_multiply_2 rfl ?_
  obtain ⟨fsh1, hoh1, hr⟩ := of_ob hr
  obtain ⟨h1, eh1, hr⟩ := of_bnd hr
  refine g_callV (pa := [.ref p1, .ref p2]) C hl0 (c_Mo_fillWide eh1) cd_Mo_78 kw_in_Mo_fillWide kw_se_Mo_fillWide hoh1 rfl rfl (by decide) rfl rfl (Nat.le_of_ble_eq_true rfl) d_Mo_multiply_3 ?_
  refine g_aload_n C 0 rfl d_Mo_multiply_6 rfl ?_
  refine g_aload_n C 3 rfl d_Mo_multiply_7 rfl ?_
  obtain ⟨fsh2, hoh2, hr⟩ := of_ob hr
  obtain ⟨h2, eh2, hr⟩ := of_bnd hr
  refine g_callV (pa := [.ref p3]) C hl0 (c_Mo_foldWide eh2) cd_Mo_81 kw_in_Mo_foldWide kw_se_Mo_foldWide hoh2 rfl rfl (by decide) rfl rfl (Nat.le_of_ble_eq_true rfl) d_Mo_multiply_8 ?_
  refine g_aload_n C 0 rfl d_Mo_multiply_11 rfl ?_
  refine g_aload_n C 3 rfl d_Mo_multiply_12 rfl ?_
  obtain ⟨fsh3, hoh3, hr⟩ := of_ob hr
  obtain ⟨h3, eh3, hr⟩ := of_bnd hr
  refine g_callV (pa := [.ref p3]) C hl0 (c_Mo_reduceOnce eh3) cd_Mo_71 kw_in_Mo_reduceOnce kw_se_Mo_reduceOnce hoh3 rfl rfl (by decide) rfl rfl (Nat.le_of_ble_eq_true rfl) d_Mo_multiply_13 ?_
  cases hr
  exact g_vreturn C T (by decide) (by decide) d_Mo_multiply_16
abbrev b_Mo_copyOne : ByteArray := prog_4_method_2_code
abbrev y_Mo_copyOne : MethodName := ⟨"PrimeKeys$Modulus", "copyOne", "([J)V"⟩
theorem d_Mo_copyOne_0 : decode b_Mo_copyOne 0 = .ok (.aload_n 0, 1) := by decide +kernel
theorem d_Mo_copyOne_1 : decode b_Mo_copyOne 1 = .ok (.getfield 23, 3) := by decide +kernel
theorem d_Mo_copyOne_4 : decode b_Mo_copyOne 4 = .ok (.aload_n 1, 1) := by decide +kernel
theorem d_Mo_copyOne_5 : decode b_Mo_copyOne 5 = .ok (.invokestatic 42, 3) := by decide +kernel
theorem d_Mo_copyOne_8 : decode b_Mo_copyOne 8 = .ok (.return_, 1) := by decide +kernel
theorem fl_Mo_23 : FL "PrimeKeys$Modulus" 23 1 3 := ⟨R_Mo, F_Mo, 9, rfl, u_Mo, by decide, rfl, tb_1 (List.mem_of_getElem? (i := 107) (by decide +kernel)) rfl⟩
theorem cd_Mo_42 : CD "PrimeKeys$Modulus" 42 y_Li_copy b_Li_copy 2 none 2 := ⟨tb_1 (List.mem_of_getElem? (i := 85) rfl) rfl, tb_1 (List.mem_of_getElem? (i := 5) (by decide +kernel)) rfl, tb_1 (List.mem_of_getElem? (i := 83) (by decide +kernel)) rfl, by decide +kernel⟩
theorem kw_st_Li_copy : Cond.static y_Li_copy ∈ TB := tb_1 (List.mem_of_getElem? (i := 84) (by decide +kernel)) rfl
abbrev rm_Mo_copyOne : Room := { frames := 2, cells := 0, slots := 0, locals := 47 }
def P_Mo_copyOne (h : HP) (p0 : Nat) (p1 : Nat) : Option (HP) :=
  bnd (gR h p0 1 3) fun k1 =>
  bnd (P_Li_copy h k1 p1) fun h2 =>
  some h2
set_option maxHeartbeats 4000000 in
set_option maxRecDepth 100000 in
theorem c_Mo_copyOne {l : Launch} {h h' : HP} {p0 p1 : _} (hr : P_Mo_copyOne h p0 p1 = some h') : MP l y_Mo_copyOne (Cond.code y_Mo_copyOne b_Mo_copyOne 2 none :: TB) rm_Mo_copyOne h [.ref p0, .ref p1] none h' := by
  refine MP_intro (cc := b_Mo_copyOne) (by decide) (Nat.le_of_ble_eq_true rfl) (fun x hl0 C T hin => ?_)
  unfold P_Mo_copyOne at hr
  show GG x 0 0 h 0 [(0, .ref p0), (1, .ref p1)] []
  refine g_aload_n C 0 rfl d_Mo_copyOne_0 rfl ?_
  obtain ⟨k1, ek1, hr⟩ := of_bnd hr
  refine g_getR C fl_Mo_23 ek1 d_Mo_copyOne_1 ?_
  refine g_aload_n C 1 rfl d_Mo_copyOne_4 rfl ?_
  obtain ⟨h2, eh2, hr⟩ := of_bnd hr
  refine g_callS (pa := [.ref k1, .ref p1]) C hl0 (c_Li_copy eh2) cd_Mo_42 kw_st_Li_copy (by decide) rfl rfl (Nat.le_of_ble_eq_true rfl) d_Mo_copyOne_5 ?_
  cases hr
  exact g_vreturn C T (by decide) (by decide) d_Mo_copyOne_8
abbrev b_Mo_enterForm : ByteArray := prog_4_method_3_code
abbrev y_Mo_enterForm : MethodName := ⟨"PrimeKeys$Modulus", "enterForm", "([J[J)V"⟩
theorem d_Mo_enterForm_0 : decode b_Mo_enterForm 0 = .ok (.aload_n 0, 1) := by decide +kernel
theorem d_Mo_enterForm_1 : decode b_Mo_enterForm 1 = .ok (.aload_n 1, 1) := by decide +kernel
theorem d_Mo_enterForm_2 : decode b_Mo_enterForm 2 = .ok (.aload_n 0, 1) := by decide +kernel
theorem d_Mo_enterForm_3 : decode b_Mo_enterForm 3 = .ok (.getfield 26, 3) := by decide +kernel
theorem d_Mo_enterForm_6 : decode b_Mo_enterForm 6 = .ok (.aload_n 2, 1) := by decide +kernel
theorem d_Mo_enterForm_7 : decode b_Mo_enterForm 7 = .ok (.invokevirtual 58, 3) := by decide +kernel
theorem d_Mo_enterForm_10 : decode b_Mo_enterForm 10 = .ok (.return_, 1) := by decide +kernel
theorem fl_Mo_26 : FL "PrimeKeys$Modulus" 26 1 4 := ⟨R_Mo, F_Mo, 9, rfl, u_Mo, by decide, rfl, tb_1 (List.mem_of_getElem? (i := 108) (by decide +kernel)) rfl⟩
theorem cd_Mo_58 : CD "PrimeKeys$Modulus" 58 y_Mo_multiply b_Mo_multiply 4 none 3 := ⟨tb_1 (List.mem_of_getElem? (i := 165) rfl) rfl, tb_1 (List.mem_of_getElem? (i := 4) (by decide +kernel)) rfl, tb_1 (List.mem_of_getElem? (i := 162) (by decide +kernel)) rfl, by decide +kernel⟩
theorem kw_in_Mo_multiply : Cond.instanceMethod y_Mo_multiply ∈ TB := tb_1 (List.mem_of_getElem? (i := 163) (by decide +kernel)) rfl
theorem kw_se_Mo_multiply : Cond.selects "PrimeKeys$Modulus" y_Mo_multiply y_Mo_multiply ∈ TB := tb_1 (List.mem_of_getElem? (i := 164) (by decide +kernel)) rfl
abbrev rm_Mo_enterForm : Room := { frames := 3, cells := 0, slots := 0, locals := 84 }
def P_Mo_enterForm (h : HP) (p0 : Nat) (p1 : Nat) (p2 : Nat) : Option (HP) :=
  bnd (gR h p0 1 4) fun k1 =>
  ob h p0 1 (
  bnd (P_Mo_multiply h p0 p1 k1 p2) fun h2 =>
  some h2)
set_option maxHeartbeats 4000000 in
set_option maxRecDepth 100000 in
theorem c_Mo_enterForm {l : Launch} {h h' : HP} {p0 p1 p2 : _} (hr : P_Mo_enterForm h p0 p1 p2 = some h') : MP l y_Mo_enterForm (Cond.code y_Mo_enterForm b_Mo_enterForm 3 none :: TB) rm_Mo_enterForm h [.ref p0, .ref p1, .ref p2] none h' := by
  refine MP_intro (cc := b_Mo_enterForm) (by decide) (Nat.le_of_ble_eq_true rfl) (fun x hl0 C T hin => ?_)
  unfold P_Mo_enterForm at hr
  show GG x 0 0 h 0 [(0, .ref p0), (1, .ref p1), (2, .ref p2)] []
  refine g_aload_n C 0 rfl d_Mo_enterForm_0 rfl ?_
  refine g_aload_n C 1 rfl d_Mo_enterForm_1 rfl ?_
  refine g_aload_n C 0 rfl d_Mo_enterForm_2 rfl ?_
  obtain ⟨k1, ek1, hr⟩ := of_bnd hr
  refine g_getR C fl_Mo_26 ek1 d_Mo_enterForm_3 ?_
  refine g_aload_n C 2 rfl d_Mo_enterForm_6 rfl ?_
  obtain ⟨fsh2, hoh2, hr⟩ := of_ob hr
  obtain ⟨h2, eh2, hr⟩ := of_bnd hr
  refine g_callV (pa := [.ref p1, .ref k1, .ref p2]) C hl0 (c_Mo_multiply eh2) cd_Mo_58 kw_in_Mo_multiply kw_se_Mo_multiply hoh2 rfl rfl (by decide) rfl rfl (Nat.le_of_ble_eq_true rfl) d_Mo_enterForm_7 ?_
  cases hr
  exact g_vreturn C T (by decide) (by decide) d_Mo_enterForm_10
abbrev b_Mo_leaveForm : ByteArray := prog_4_method_4_code
abbrev y_Mo_leaveForm : MethodName := ⟨"PrimeKeys$Modulus", "leaveForm", "([J[J)V"⟩
theorem d_Mo_leaveForm_0 : decode b_Mo_leaveForm 0 = .ok (.aload_n 0, 1) := by decide +kernel
theorem d_Mo_leaveForm_1 : decode b_Mo_leaveForm 1 = .ok (.aload_n 1, 1) := by decide +kernel
theorem d_Mo_leaveForm_2 : decode b_Mo_leaveForm 2 = .ok (.aload_n 0, 1) := by decide +kernel
theorem d_Mo_leaveForm_3 : decode b_Mo_leaveForm 3 = .ok (.getfield 20, 3) := by decide +kernel
theorem d_Mo_leaveForm_6 : decode b_Mo_leaveForm 6 = .ok (.aload_n 2, 1) := by decide +kernel
theorem d_Mo_leaveForm_7 : decode b_Mo_leaveForm 7 = .ok (.invokevirtual 58, 3) := by decide +kernel
theorem d_Mo_leaveForm_10 : decode b_Mo_leaveForm 10 = .ok (.return_, 1) := by decide +kernel
theorem fl_Mo_20 : FL "PrimeKeys$Modulus" 20 1 2 := ⟨R_Mo, F_Mo, 9, rfl, u_Mo, by decide, rfl, tb_1 (List.mem_of_getElem? (i := 106) (by decide +kernel)) rfl⟩
abbrev rm_Mo_leaveForm : Room := { frames := 3, cells := 0, slots := 0, locals := 84 }
def P_Mo_leaveForm (h : HP) (p0 : Nat) (p1 : Nat) (p2 : Nat) : Option (HP) :=
  bnd (gR h p0 1 2) fun k1 =>
  ob h p0 1 (
  bnd (P_Mo_multiply h p0 p1 k1 p2) fun h2 =>
  some h2)
set_option maxHeartbeats 4000000 in
set_option maxRecDepth 100000 in
theorem c_Mo_leaveForm {l : Launch} {h h' : HP} {p0 p1 p2 : _} (hr : P_Mo_leaveForm h p0 p1 p2 = some h') : MP l y_Mo_leaveForm (Cond.code y_Mo_leaveForm b_Mo_leaveForm 3 none :: TB) rm_Mo_leaveForm h [.ref p0, .ref p1, .ref p2] none h' := by
  refine MP_intro (cc := b_Mo_leaveForm) (by decide) (Nat.le_of_ble_eq_true rfl) (fun x hl0 C T hin => ?_)
  unfold P_Mo_leaveForm at hr
  show GG x 0 0 h 0 [(0, .ref p0), (1, .ref p1), (2, .ref p2)] []
  refine g_aload_n C 0 rfl d_Mo_leaveForm_0 rfl ?_
  refine g_aload_n C 1 rfl d_Mo_leaveForm_1 rfl ?_
  refine g_aload_n C 0 rfl d_Mo_leaveForm_2 rfl ?_
  obtain ⟨k1, ek1, hr⟩ := of_bnd hr
  refine g_getR C fl_Mo_20 ek1 d_Mo_leaveForm_3 ?_
  refine g_aload_n C 2 rfl d_Mo_leaveForm_6 rfl ?_
  obtain ⟨fsh2, hoh2, hr⟩ := of_ob hr
  obtain ⟨h2, eh2, hr⟩ := of_bnd hr
  refine g_callV (pa := [.ref p1, .ref k1, .ref p2]) C hl0 (c_Mo_multiply eh2) cd_Mo_58 kw_in_Mo_multiply kw_se_Mo_multiply hoh2 rfl rfl (by decide) rfl rfl (Nat.le_of_ble_eq_true rfl) d_Mo_leaveForm_7 ?_
  cases hr
  exact g_vreturn C T (by decide) (by decide) d_Mo_leaveForm_10
abbrev b_Mo_isAbove : ByteArray := prog_4_method_5_code
abbrev y_Mo_isAbove : MethodName := ⟨"PrimeKeys$Modulus", "isAbove", "([J)Z"⟩
theorem d_Mo_isAbove_0 : decode b_Mo_isAbove 0 = .ok (.aload_n 0, 1) := by decide +kernel
theorem d_Mo_isAbove_1 : decode b_Mo_isAbove 1 = .ok (.aload_n 1, 1) := by decide +kernel
theorem d_Mo_isAbove_2 : decode b_Mo_isAbove 2 = .ok (.invokevirtual 61, 3) := by decide +kernel
theorem d_Mo_isAbove_5 : decode b_Mo_isAbove 5 = .ok (.lconst 0, 1) := by decide +kernel
theorem d_Mo_isAbove_6 : decode b_Mo_isAbove 6 = .ok (.lcmp, 1) := by decide +kernel
theorem d_Mo_isAbove_7 : decode b_Mo_isAbove 7 = .ok (.ifCond .ge 7, 3) := by decide +kernel
theorem d_Mo_isAbove_10 : decode b_Mo_isAbove 10 = .ok (.iconst 1, 1) := by decide +kernel
theorem d_Mo_isAbove_11 : decode b_Mo_isAbove 11 = .ok (.goto 4, 3) := by decide +kernel
theorem d_Mo_isAbove_14 : decode b_Mo_isAbove 14 = .ok (.iconst 0, 1) := by decide +kernel
theorem d_Mo_isAbove_15 : decode b_Mo_isAbove 15 = .ok (.ireturn, 1) := by decide +kernel
abbrev rm_Mo_isAbove : Room := { frames := 1, cells := 0, slots := 0, locals := 24 }
def P_Mo_isAbove (h : HP) (p0 : Nat) (p1 : Nat) : Option (Int32 × HP) :=
  ob h p0 1 (
  bnd2 (P_Mo_lessPrime h p0 p1) fun v2 h1 =>
  if 0 ≤ lg_cmp v2 0 then
  some (0, h1)
  else
  some (1, h1))
set_option maxHeartbeats 4000000 in
set_option maxRecDepth 100000 in
theorem c_Mo_isAbove {l : Launch} {h h' : HP} {p0 p1 : _} {r' : Int32} (hr : P_Mo_isAbove h p0 p1 = some (r', h')) : MP l y_Mo_isAbove (Cond.code y_Mo_isAbove b_Mo_isAbove 2 (some .boolean) :: TB) rm_Mo_isAbove h [.ref p0, .ref p1] (some (.int r')) h' := by
  refine MP_intro (cc := b_Mo_isAbove) (by decide) (Nat.le_of_ble_eq_true rfl) (fun x hl0 C T hin => ?_)
  unfold P_Mo_isAbove at hr
  show GG x 0 0 h 0 [(0, .ref p0), (1, .ref p1)] []
  refine g_aload_n C 0 rfl d_Mo_isAbove_0 rfl ?_
  refine g_aload_n C 1 rfl d_Mo_isAbove_1 rfl ?_
  obtain ⟨fsh1, hoh1, hr⟩ := of_ob hr
  obtain ⟨v2, h1, eh1, hr⟩ := of_bnd2 hr
  refine g_callV (pa := [.ref p1]) C hl0 (c_Mo_lessPrime eh1) cd_Mo_61 kw_in_Mo_lessPrime kw_se_Mo_lessPrime hoh1 rfl rfl (by decide) rfl rfl (Nat.le_of_ble_eq_true rfl) d_Mo_isAbove_2 ?_
  refine g_lconst (v := 0) C d_Mo_isAbove_5 (by decide) ?_
  refine g_lcmp C d_Mo_isAbove_6 ?_
  refine g_if_ge (tgt := 14) C d_Mo_isAbove_7 (by decide) (fun z => ?_) (fun z => ?_)
  · have hr := of_if z hr
    refine g_iconst (v := 0) C d_Mo_isAbove_14 (by decide) ?_
    cases hr
    exact g_ireturn C T rfl (by decide) (by decide) d_Mo_isAbove_15
  · have hr := of_el z hr
    refine g_iconst (v := 1) C d_Mo_isAbove_10 (by decide) ?_
    refine g_goto (tgt := 15) C d_Mo_isAbove_11 (by decide) ?_
    cases hr
    exact g_ireturn C T rfl (by decide) (by decide) d_Mo_isAbove_15
abbrev b_Mo_invert : ByteArray := prog_4_method_10_code
abbrev y_Mo_invert : MethodName := ⟨"PrimeKeys$Modulus", "invert", "([J[J)V"⟩
theorem d_Mo_invert_0 : decode b_Mo_invert 0 = .ok (.aload_n 0, 1) := by decide +kernel
theorem d_Mo_invert_1 : decode b_Mo_invert 1 = .ok (.getfield 23, 3) := by decide +kernel
theorem d_Mo_invert_4 : decode b_Mo_invert 4 = .ok (.aload_n 0, 1) := by decide +kernel
theorem d_Mo_invert_5 : decode b_Mo_invert 5 = .ok (.getfield 35, 3) := by decide +kernel
theorem d_Mo_invert_8 : decode b_Mo_invert 8 = .ok (.invokestatic 42, 3) := by decide +kernel
theorem d_Mo_invert_11 : decode b_Mo_invert 11 = .ok (.sipush 255, 3) := by decide +kernel
theorem d_Mo_invert_14 : decode b_Mo_invert 14 = .ok (.istore_n 3, 1) := by decide +kernel
theorem d_Mo_invert_15 : decode b_Mo_invert 15 = .ok (.iload_n 3, 1) := by decide +kernel
theorem d_Mo_invert_16 : decode b_Mo_invert 16 = .ok (.ifCond .lt 59, 3) := by decide +kernel
theorem d_Mo_invert_19 : decode b_Mo_invert 19 = .ok (.aload_n 0, 1) := by decide +kernel
theorem d_Mo_invert_20 : decode b_Mo_invert 20 = .ok (.aload_n 0, 1) := by decide +kernel
theorem d_Mo_invert_21 : decode b_Mo_invert 21 = .ok (.getfield 35, 3) := by decide +kernel
theorem d_Mo_invert_24 : decode b_Mo_invert 24 = .ok (.aload_n 0, 1) := by decide +kernel
theorem d_Mo_invert_25 : decode b_Mo_invert 25 = .ok (.getfield 35, 3) := by decide +kernel
theorem d_Mo_invert_28 : decode b_Mo_invert 28 = .ok (.aload_n 0, 1) := by decide +kernel
theorem d_Mo_invert_29 : decode b_Mo_invert 29 = .ok (.getfield 35, 3) := by decide +kernel
theorem d_Mo_invert_32 : decode b_Mo_invert 32 = .ok (.invokevirtual 58, 3) := by decide +kernel
theorem d_Mo_invert_35 : decode b_Mo_invert 35 = .ok (.aload_n 0, 1) := by decide +kernel
theorem d_Mo_invert_36 : decode b_Mo_invert 36 = .ok (.getfield 17, 3) := by decide +kernel
theorem d_Mo_invert_39 : decode b_Mo_invert 39 = .ok (.iload_n 3, 1) := by decide +kernel
theorem d_Mo_invert_40 : decode b_Mo_invert 40 = .ok (.bipush 29, 2) := by decide +kernel
theorem d_Mo_invert_42 : decode b_Mo_invert 42 = .ok (.idiv, 1) := by decide +kernel
theorem d_Mo_invert_43 : decode b_Mo_invert 43 = .ok (.laload, 1) := by decide +kernel
theorem d_Mo_invert_44 : decode b_Mo_invert 44 = .ok (.iload_n 3, 1) := by decide +kernel
theorem d_Mo_invert_45 : decode b_Mo_invert 45 = .ok (.bipush 29, 2) := by decide +kernel
theorem d_Mo_invert_47 : decode b_Mo_invert 47 = .ok (.irem, 1) := by decide +kernel
theorem d_Mo_invert_48 : decode b_Mo_invert 48 = .ok (.lshr, 1) := by decide +kernel
theorem d_Mo_invert_49 : decode b_Mo_invert 49 = .ok (.lconst 1, 1) := by decide +kernel
theorem d_Mo_invert_50 : decode b_Mo_invert 50 = .ok (.land, 1) := by decide +kernel
theorem d_Mo_invert_51 : decode b_Mo_invert 51 = .ok (.lconst 1, 1) := by decide +kernel
theorem d_Mo_invert_52 : decode b_Mo_invert 52 = .ok (.lcmp, 1) := by decide +kernel
theorem d_Mo_invert_53 : decode b_Mo_invert 53 = .ok (.ifCond .ne 16, 3) := by decide +kernel
theorem d_Mo_invert_56 : decode b_Mo_invert 56 = .ok (.aload_n 0, 1) := by decide +kernel
theorem d_Mo_invert_57 : decode b_Mo_invert 57 = .ok (.aload_n 0, 1) := by decide +kernel
theorem d_Mo_invert_58 : decode b_Mo_invert 58 = .ok (.getfield 35, 3) := by decide +kernel
theorem d_Mo_invert_61 : decode b_Mo_invert 61 = .ok (.aload_n 1, 1) := by decide +kernel
theorem d_Mo_invert_62 : decode b_Mo_invert 62 = .ok (.aload_n 0, 1) := by decide +kernel
theorem d_Mo_invert_63 : decode b_Mo_invert 63 = .ok (.getfield 35, 3) := by decide +kernel
theorem d_Mo_invert_66 : decode b_Mo_invert 66 = .ok (.invokevirtual 58, 3) := by decide +kernel
theorem d_Mo_invert_69 : decode b_Mo_invert 69 = .ok (.iinc 3 (-1), 3) := by decide +kernel
theorem d_Mo_invert_72 : decode b_Mo_invert 72 = .ok (.goto (-57), 3) := by decide +kernel
theorem d_Mo_invert_75 : decode b_Mo_invert 75 = .ok (.aload_n 0, 1) := by decide +kernel
theorem d_Mo_invert_76 : decode b_Mo_invert 76 = .ok (.getfield 35, 3) := by decide +kernel
theorem d_Mo_invert_79 : decode b_Mo_invert 79 = .ok (.aload_n 2, 1) := by decide +kernel
theorem d_Mo_invert_80 : decode b_Mo_invert 80 = .ok (.invokestatic 42, 3) := by decide +kernel
theorem d_Mo_invert_83 : decode b_Mo_invert 83 = .ok (.return_, 1) := by decide +kernel
theorem fl_Mo_35 : FL "PrimeKeys$Modulus" 35 1 8 := ⟨R_Mo, F_Mo, 9, rfl, u_Mo, by decide, rfl, tb_1 (List.mem_of_getElem? (i := 112) (by decide +kernel)) rfl⟩
theorem fl_Mo_17 : FL "PrimeKeys$Modulus" 17 1 1 := ⟨R_Mo, F_Mo, 9, rfl, u_Mo, by decide, rfl, tb_1 (List.mem_of_getElem? (i := 105) (by decide +kernel)) rfl⟩
abbrev rm_Mo_invert : Room := { frames := 3, cells := 0, slots := 0, locals := 84 }
def B_Mo_invert_69 (K15 : HP → Nat → Nat → Nat → Int32 → Option (HP)) (h : HP) (a0 : Nat) (a1 : Nat) (a2 : Nat) (a3 : Int32) : Option (HP) :=
  lt (a3 + Int32.ofInt (-1)) fun x12 =>
  K15 h a0 a1 a2 x12
set_option maxHeartbeats 4000000 in
set_option maxRecDepth 100000 in
theorem bk_Mo_invert_69 {l : Launch} {x : CX} {h0 h' : HP} (C : EV x b_Mo_invert "PrimeKeys$Modulus" 4 rm_Mo_invert) (T : CT x (none) rm_Mo_invert h0 none h') (hl0 : x.1.2.1 = l) (K15 : HP → Nat → Nat → Nat → Int32 → Option (HP)) (hK15 : ∀ (h : HP) (a0 : Nat) (a1 : Nat) (a2 : Nat) (a3 : Int32), K15 h a0 a1 a2 a3 = some h' → GG x 0 0 h 15 [(0, .ref a0), (1, .ref a1), (2, .ref a2), (3, .int a3)] []) (h : HP) (a0 : Nat) (a1 : Nat) (a2 : Nat) (a3 : Int32) (hr : B_Mo_invert_69 K15 h a0 a1 a2 a3 = some h') : GG x 0 0 h 69 [(0, .ref a0), (1, .ref a1), (2, .ref a2), (3, .int a3)] [] := by
  unfold B_Mo_invert_69 at hr
  obtain ⟨x12, ex12⟩ : ∃ z, z = a3 + Int32.ofInt (-1) := ⟨_, rfl⟩
  have hr := of_lt ex12 hr
  refine g_iinc (lv' := [(3, .int x12), (0, .ref a0), (1, .ref a1), (2, .ref a2)]) C 3 rfl d_Mo_invert_69 ex12.symm (by decide) rfl ?_
  refine g_goto (tgt := 15) C d_Mo_invert_72 (by decide) ?_
  refine g_lv [1, 2, 3, 0] rfl ?_
  exact hK15 h a0 a1 a2 x12 hr
def B_Mo_invert_15 (K15 : HP → Nat → Nat → Nat → Int32 → Option (HP)) (h : HP) (a0 : Nat) (a1 : Nat) (a2 : Nat) (a3 : Int32) : Option (HP) :=
  if a3 < 0 then
  bnd (gR h a0 1 8) fun k4 =>
  bnd (P_Li_copy h k4 a2) fun h5 =>
  some h5
  else
  bnd (gR h a0 1 8) fun k6 =>
  bnd (gR h a0 1 8) fun k7 =>
  bnd (gR h a0 1 8) fun k8 =>
  ob h a0 1 (
  bnd (P_Mo_multiply h a0 k6 k7 k8) fun h9 =>
  bnd (gR h9 a0 1 1) fun k10 =>
  bnd (ldJ h9 k10 (a3 / 29)) fun v11 =>
  if lg_cmp ((v11 >>> (Int32.toInt64 (a3 - a3 / 29 * 29) &&& 63)) &&& 1) 1 = 0 then
  bnd (gR h9 a0 1 8) fun k13 =>
  bnd (gR h9 a0 1 8) fun k14 =>
  ob h9 a0 1 (
  bnd (P_Mo_multiply h9 a0 k13 a1 k14) fun h15 =>
  B_Mo_invert_69 K15 h15 a0 a1 a2 a3)
  else
  B_Mo_invert_69 K15 h9 a0 a1 a2 a3)
set_option maxHeartbeats 4000000 in
set_option maxRecDepth 100000 in
theorem bk_Mo_invert_15 {l : Launch} {x : CX} {h0 h' : HP} (C : EV x b_Mo_invert "PrimeKeys$Modulus" 4 rm_Mo_invert) (T : CT x (none) rm_Mo_invert h0 none h') (hl0 : x.1.2.1 = l) (K15 : HP → Nat → Nat → Nat → Int32 → Option (HP)) (hK15 : ∀ (h : HP) (a0 : Nat) (a1 : Nat) (a2 : Nat) (a3 : Int32), K15 h a0 a1 a2 a3 = some h' → GG x 0 0 h 15 [(0, .ref a0), (1, .ref a1), (2, .ref a2), (3, .int a3)] []) (h : HP) (a0 : Nat) (a1 : Nat) (a2 : Nat) (a3 : Int32) (hr : B_Mo_invert_15 K15 h a0 a1 a2 a3 = some h') : GG x 0 0 h 15 [(0, .ref a0), (1, .ref a1), (2, .ref a2), (3, .int a3)] [] := by
  unfold B_Mo_invert_15 at hr
  refine g_iload_n C 3 rfl d_Mo_invert_15 rfl ?_
  refine g_if_lt (tgt := 75) C d_Mo_invert_16 (by decide) (fun z => ?_) (fun z => ?_)
  · have hr := of_if z hr
    refine g_aload_n C 0 rfl d_Mo_invert_75 rfl ?_
    obtain ⟨k4, ek4, hr⟩ := of_bnd hr
    refine g_getR C fl_Mo_35 ek4 d_Mo_invert_76 ?_
    refine g_aload_n C 2 rfl d_Mo_invert_79 rfl ?_
    obtain ⟨h5, eh5, hr⟩ := of_bnd hr
    refine g_callS (pa := [.ref k4, .ref a2]) C hl0 (c_Li_copy eh5) cd_Mo_42 kw_st_Li_copy (by decide) rfl rfl (Nat.le_of_ble_eq_true rfl) d_Mo_invert_80 ?_
    cases hr
    exact g_vreturn C T (by decide) (by decide) d_Mo_invert_83
  · have hr := of_el z hr
    refine g_aload_n C 0 rfl d_Mo_invert_19 rfl ?_
    refine g_aload_n C 0 rfl d_Mo_invert_20 rfl ?_
    obtain ⟨k6, ek6, hr⟩ := of_bnd hr
    refine g_getR C fl_Mo_35 ek6 d_Mo_invert_21 ?_
    refine g_aload_n C 0 rfl d_Mo_invert_24 rfl ?_
    obtain ⟨k7, ek7, hr⟩ := of_bnd hr
    refine g_getR C fl_Mo_35 ek7 d_Mo_invert_25 ?_
    refine g_aload_n C 0 rfl d_Mo_invert_28 rfl ?_
    obtain ⟨k8, ek8, hr⟩ := of_bnd hr
    refine g_getR C fl_Mo_35 ek8 d_Mo_invert_29 ?_
    obtain ⟨fsh9, hoh9, hr⟩ := of_ob hr
    obtain ⟨h9, eh9, hr⟩ := of_bnd hr
    refine g_callV (pa := [.ref k6, .ref k7, .ref k8]) C hl0 (c_Mo_multiply eh9) cd_Mo_58 kw_in_Mo_multiply kw_se_Mo_multiply hoh9 rfl rfl (by decide) rfl rfl (Nat.le_of_ble_eq_true rfl) d_Mo_invert_32 ?_
    refine g_aload_n C 0 rfl d_Mo_invert_35 rfl ?_
    obtain ⟨k10, ek10, hr⟩ := of_bnd hr
    refine g_getR C fl_Mo_17 ek10 d_Mo_invert_36 ?_
    refine g_iload_n C 3 rfl d_Mo_invert_39 rfl ?_
    refine g_bipush (v := 29) C d_Mo_invert_40 (by decide) ?_
    refine g_idiv C d_Mo_invert_42 (by decide) ?_
    obtain ⟨v11, ev11, hr⟩ := of_bnd hr
    refine g_laload C ev11 d_Mo_invert_43 ?_
    refine g_iload_n C 3 rfl d_Mo_invert_44 rfl ?_
    refine g_bipush (v := 29) C d_Mo_invert_45 (by decide) ?_
    refine g_irem C d_Mo_invert_47 (by decide) ?_
    refine g_lshr C d_Mo_invert_48 ?_
    refine g_lconst (v := 1) C d_Mo_invert_49 (by decide) ?_
    refine g_land C d_Mo_invert_50 ?_
    refine g_lconst (v := 1) C d_Mo_invert_51 (by decide) ?_
    refine g_lcmp C d_Mo_invert_52 ?_
    refine g_if_ne (tgt := 69) C d_Mo_invert_53 (by decide) (fun z => ?_) (fun z => ?_)
    · have hr := of_el z hr
      exact bk_Mo_invert_69 C T hl0 K15 hK15 h9 a0 a1 a2 a3 hr
    · have hr := of_if z hr
      refine g_aload_n C 0 rfl d_Mo_invert_56 rfl ?_
      refine g_aload_n C 0 rfl d_Mo_invert_57 rfl ?_
      obtain ⟨k13, ek13, hr⟩ := of_bnd hr
      refine g_getR C fl_Mo_35 ek13 d_Mo_invert_58 ?_
      refine g_aload_n C 1 rfl d_Mo_invert_61 rfl ?_
      refine g_aload_n C 0 rfl d_Mo_invert_62 rfl ?_
      obtain ⟨k14, ek14, hr⟩ := of_bnd hr
      refine g_getR C fl_Mo_35 ek14 d_Mo_invert_63 ?_
      obtain ⟨fsh15, hoh15, hr⟩ := of_ob hr
      obtain ⟨h15, eh15, hr⟩ := of_bnd hr
      refine g_callV (pa := [.ref k13, .ref a1, .ref k14]) C hl0 (c_Mo_multiply eh15) cd_Mo_58 kw_in_Mo_multiply kw_se_Mo_multiply hoh15 rfl rfl (by decide) rfl rfl (Nat.le_of_ble_eq_true rfl) d_Mo_invert_66 ?_
      exact bk_Mo_invert_69 C T hl0 K15 hK15 h15 a0 a1 a2 a3 hr
def L_Mo_invert_15 : Nat → HP → Nat → Nat → Nat → Int32 → Option (HP)
  | 0, _, _, _, _, _ => none
  | f + 1, h, a0, a1, a2, a3 => B_Mo_invert_15 (L_Mo_invert_15 f) h a0 a1 a2 a3
theorem lp_Mo_invert_15 {l : Launch} {x : CX} {h0 h' : HP} (C : EV x b_Mo_invert "PrimeKeys$Modulus" 4 rm_Mo_invert) (T : CT x (none) rm_Mo_invert h0 none h') (hl0 : x.1.2.1 = l) : ∀ (f : Nat) (h : HP) (a0 : Nat) (a1 : Nat) (a2 : Nat) (a3 : Int32), L_Mo_invert_15 f h a0 a1 a2 a3 = some h' → GG x 0 0 h 15 [(0, .ref a0), (1, .ref a1), (2, .ref a2), (3, .int a3)] [] := by
  intro f
  induction f with
  | zero => intro h a0 a1 a2 a3 hr; have hr : (none : Option (HP)) = some h' := hr; cases hr
  | succ f ih => intro h a0 a1 a2 a3 hr; exact bk_Mo_invert_15 C T hl0 (L_Mo_invert_15 f) ih h a0 a1 a2 a3 hr
def P_Mo_invert (h : HP) (p0 : Nat) (p1 : Nat) (p2 : Nat) : Option (HP) :=
  bnd (gR h p0 1 3) fun k1 =>
  bnd (gR h p0 1 8) fun k2 =>
  bnd (P_Li_copy h k1 k2) fun h3 =>
  L_Mo_invert_15 FU h3 p0 p1 p2 255
set_option maxHeartbeats 4000000 in
set_option maxRecDepth 100000 in
theorem c_Mo_invert {l : Launch} {h h' : HP} {p0 p1 p2 : _} (hr : P_Mo_invert h p0 p1 p2 = some h') : MP l y_Mo_invert (Cond.code y_Mo_invert b_Mo_invert 4 none :: TB) rm_Mo_invert h [.ref p0, .ref p1, .ref p2] none h' := by
  refine MP_intro (cc := b_Mo_invert) (by decide) (Nat.le_of_ble_eq_true rfl) (fun x hl0 C T hin => ?_)
  unfold P_Mo_invert at hr
  show GG x 0 0 h 0 [(0, .ref p0), (1, .ref p1), (2, .ref p2)] []
  refine g_aload_n C 0 rfl d_Mo_invert_0 rfl ?_
  obtain ⟨k1, ek1, hr⟩ := of_bnd hr
  refine g_getR C fl_Mo_23 ek1 d_Mo_invert_1 ?_
  refine g_aload_n C 0 rfl d_Mo_invert_4 rfl ?_
  obtain ⟨k2, ek2, hr⟩ := of_bnd hr
  refine g_getR C fl_Mo_35 ek2 d_Mo_invert_5 ?_
  obtain ⟨h3, eh3, hr⟩ := of_bnd hr
  refine g_callS (pa := [.ref k1, .ref k2]) C hl0 (c_Li_copy eh3) cd_Mo_42 kw_st_Li_copy (by decide) rfl rfl (Nat.le_of_ble_eq_true rfl) d_Mo_invert_8 ?_
  refine g_sipush (v := 255) C d_Mo_invert_11 (by decide) ?_
  refine g_istore_n (lv' := [(3, .int 255), (0, .ref p0), (1, .ref p1), (2, .ref p2)]) C d_Mo_invert_14 rfl (by decide) rfl ?_
  refine g_lv [1, 2, 3, 0] rfl ?_
  exact lp_Mo_invert_15 C T hl0 FU h3 p0 p1 p2 255 hr
abbrev b_Mo_new : ByteArray := prog_4_method_1_code
abbrev y_Mo_new : MethodName := ⟨"PrimeKeys$Modulus", "<init>", "([I)V"⟩
theorem d_Mo_new_0 : decode b_Mo_new 0 = .ok (.aload_n 0, 1) := by decide +kernel
theorem d_Mo_new_1 : decode b_Mo_new 1 = .ok (.invokespecial 5, 3) := by decide +kernel
theorem d_Mo_new_4 : decode b_Mo_new 4 = .ok (.aload_n 0, 1) := by decide +kernel
theorem d_Mo_new_5 : decode b_Mo_new 5 = .ok (.bipush 9, 2) := by decide +kernel
theorem d_Mo_new_7 : decode b_Mo_new 7 = .ok (.newarray .long, 2) := by decide +kernel
theorem d_Mo_new_9 : decode b_Mo_new 9 = .ok (.putfield 11, 3) := by decide +kernel
theorem d_Mo_new_12 : decode b_Mo_new 12 = .ok (.aload_n 0, 1) := by decide +kernel
theorem d_Mo_new_13 : decode b_Mo_new 13 = .ok (.bipush 9, 2) := by decide +kernel
theorem d_Mo_new_15 : decode b_Mo_new 15 = .ok (.newarray .long, 2) := by decide +kernel
theorem d_Mo_new_17 : decode b_Mo_new 17 = .ok (.putfield 17, 3) := by decide +kernel
theorem d_Mo_new_20 : decode b_Mo_new 20 = .ok (.aload_n 0, 1) := by decide +kernel
theorem d_Mo_new_21 : decode b_Mo_new 21 = .ok (.bipush 9, 2) := by decide +kernel
theorem d_Mo_new_23 : decode b_Mo_new 23 = .ok (.newarray .long, 2) := by decide +kernel
theorem d_Mo_new_25 : decode b_Mo_new 25 = .ok (.putfield 20, 3) := by decide +kernel
theorem d_Mo_new_28 : decode b_Mo_new 28 = .ok (.aload_n 0, 1) := by decide +kernel
theorem d_Mo_new_29 : decode b_Mo_new 29 = .ok (.bipush 9, 2) := by decide +kernel
theorem d_Mo_new_31 : decode b_Mo_new 31 = .ok (.newarray .long, 2) := by decide +kernel
theorem d_Mo_new_33 : decode b_Mo_new 33 = .ok (.putfield 23, 3) := by decide +kernel
theorem d_Mo_new_36 : decode b_Mo_new 36 = .ok (.aload_n 0, 1) := by decide +kernel
theorem d_Mo_new_37 : decode b_Mo_new 37 = .ok (.bipush 9, 2) := by decide +kernel
theorem d_Mo_new_39 : decode b_Mo_new 39 = .ok (.newarray .long, 2) := by decide +kernel
theorem d_Mo_new_41 : decode b_Mo_new 41 = .ok (.putfield 26, 3) := by decide +kernel
theorem d_Mo_new_44 : decode b_Mo_new 44 = .ok (.aload_n 0, 1) := by decide +kernel
theorem d_Mo_new_45 : decode b_Mo_new 45 = .ok (.bipush 17, 2) := by decide +kernel
theorem d_Mo_new_47 : decode b_Mo_new 47 = .ok (.newarray .long, 2) := by decide +kernel
theorem d_Mo_new_49 : decode b_Mo_new 49 = .ok (.putfield 29, 3) := by decide +kernel
theorem d_Mo_new_52 : decode b_Mo_new 52 = .ok (.aload_n 0, 1) := by decide +kernel
theorem d_Mo_new_53 : decode b_Mo_new 53 = .ok (.bipush 9, 2) := by decide +kernel
theorem d_Mo_new_55 : decode b_Mo_new 55 = .ok (.newarray .long, 2) := by decide +kernel
theorem d_Mo_new_57 : decode b_Mo_new 57 = .ok (.putfield 32, 3) := by decide +kernel
theorem d_Mo_new_60 : decode b_Mo_new 60 = .ok (.aload_n 0, 1) := by decide +kernel
theorem d_Mo_new_61 : decode b_Mo_new 61 = .ok (.bipush 9, 2) := by decide +kernel
theorem d_Mo_new_63 : decode b_Mo_new 63 = .ok (.newarray .long, 2) := by decide +kernel
theorem d_Mo_new_65 : decode b_Mo_new 65 = .ok (.putfield 35, 3) := by decide +kernel
theorem d_Mo_new_68 : decode b_Mo_new 68 = .ok (.aload_n 1, 1) := by decide +kernel
theorem d_Mo_new_69 : decode b_Mo_new 69 = .ok (.aload_n 0, 1) := by decide +kernel
theorem d_Mo_new_70 : decode b_Mo_new 70 = .ok (.getfield 11, 3) := by decide +kernel
theorem d_Mo_new_73 : decode b_Mo_new 73 = .ok (.invokestatic 38, 3) := by decide +kernel
theorem d_Mo_new_76 : decode b_Mo_new 76 = .ok (.aload_n 0, 1) := by decide +kernel
theorem d_Mo_new_77 : decode b_Mo_new 77 = .ok (.getfield 11, 3) := by decide +kernel
theorem d_Mo_new_80 : decode b_Mo_new 80 = .ok (.aload_n 0, 1) := by decide +kernel
theorem d_Mo_new_81 : decode b_Mo_new 81 = .ok (.getfield 17, 3) := by decide +kernel
theorem d_Mo_new_84 : decode b_Mo_new 84 = .ok (.invokestatic 42, 3) := by decide +kernel
theorem d_Mo_new_87 : decode b_Mo_new 87 = .ok (.aload_n 0, 1) := by decide +kernel
theorem d_Mo_new_88 : decode b_Mo_new 88 = .ok (.getfield 17, 3) := by decide +kernel
theorem d_Mo_new_91 : decode b_Mo_new 91 = .ok (.iconst 0, 1) := by decide +kernel
theorem d_Mo_new_92 : decode b_Mo_new 92 = .ok (.dup2, 1) := by decide +kernel
theorem d_Mo_new_93 : decode b_Mo_new 93 = .ok (.laload, 1) := by decide +kernel
theorem d_Mo_new_94 : decode b_Mo_new 94 = .ok (.ldc2_w 46, 3) := by decide +kernel
theorem d_Mo_new_97 : decode b_Mo_new 97 = .ok (.lsub, 1) := by decide +kernel
theorem d_Mo_new_98 : decode b_Mo_new 98 = .ok (.lastore, 1) := by decide +kernel
theorem d_Mo_new_99 : decode b_Mo_new 99 = .ok (.aload_n 0, 1) := by decide +kernel
theorem d_Mo_new_100 : decode b_Mo_new 100 = .ok (.getfield 20, 3) := by decide +kernel
theorem d_Mo_new_103 : decode b_Mo_new 103 = .ok (.iconst 0, 1) := by decide +kernel
theorem d_Mo_new_104 : decode b_Mo_new 104 = .ok (.lconst 1, 1) := by decide +kernel
theorem d_Mo_new_105 : decode b_Mo_new 105 = .ok (.lastore, 1) := by decide +kernel
theorem d_Mo_new_106 : decode b_Mo_new 106 = .ok (.aload_n 0, 1) := by decide +kernel
theorem d_Mo_new_107 : decode b_Mo_new 107 = .ok (.getfield 20, 3) := by decide +kernel
theorem d_Mo_new_110 : decode b_Mo_new 110 = .ok (.aload_n 0, 1) := by decide +kernel
theorem d_Mo_new_111 : decode b_Mo_new 111 = .ok (.getfield 23, 3) := by decide +kernel
theorem d_Mo_new_114 : decode b_Mo_new 114 = .ok (.invokestatic 42, 3) := by decide +kernel
theorem d_Mo_new_117 : decode b_Mo_new 117 = .ok (.iconst 0, 1) := by decide +kernel
theorem d_Mo_new_118 : decode b_Mo_new 118 = .ok (.istore_n 2, 1) := by decide +kernel
theorem d_Mo_new_119 : decode b_Mo_new 119 = .ok (.iload_n 2, 1) := by decide +kernel
theorem d_Mo_new_120 : decode b_Mo_new 120 = .ok (.sipush 261, 3) := by decide +kernel
theorem d_Mo_new_123 : decode b_Mo_new 123 = .ok (.if_icmp .ge 25, 3) := by decide +kernel
theorem d_Mo_new_126 : decode b_Mo_new 126 = .ok (.aload_n 0, 1) := by decide +kernel
theorem d_Mo_new_127 : decode b_Mo_new 127 = .ok (.aload_n 0, 1) := by decide +kernel
theorem d_Mo_new_128 : decode b_Mo_new 128 = .ok (.getfield 23, 3) := by decide +kernel
theorem d_Mo_new_131 : decode b_Mo_new 131 = .ok (.aload_n 0, 1) := by decide +kernel
theorem d_Mo_new_132 : decode b_Mo_new 132 = .ok (.getfield 23, 3) := by decide +kernel
theorem d_Mo_new_135 : decode b_Mo_new 135 = .ok (.aload_n 0, 1) := by decide +kernel
theorem d_Mo_new_136 : decode b_Mo_new 136 = .ok (.getfield 23, 3) := by decide +kernel
theorem d_Mo_new_139 : decode b_Mo_new 139 = .ok (.invokevirtual 48, 3) := by decide +kernel
theorem d_Mo_new_142 : decode b_Mo_new 142 = .ok (.iinc 2 1, 3) := by decide +kernel
theorem d_Mo_new_145 : decode b_Mo_new 145 = .ok (.goto (-26), 3) := by decide +kernel
theorem d_Mo_new_148 : decode b_Mo_new 148 = .ok (.aload_n 0, 1) := by decide +kernel
theorem d_Mo_new_149 : decode b_Mo_new 149 = .ok (.getfield 23, 3) := by decide +kernel
theorem d_Mo_new_152 : decode b_Mo_new 152 = .ok (.aload_n 0, 1) := by decide +kernel
theorem d_Mo_new_153 : decode b_Mo_new 153 = .ok (.getfield 26, 3) := by decide +kernel
theorem d_Mo_new_156 : decode b_Mo_new 156 = .ok (.invokestatic 42, 3) := by decide +kernel
theorem d_Mo_new_159 : decode b_Mo_new 159 = .ok (.iconst 0, 1) := by decide +kernel
theorem d_Mo_new_160 : decode b_Mo_new 160 = .ok (.istore_n 2, 1) := by decide +kernel
theorem d_Mo_new_161 : decode b_Mo_new 161 = .ok (.iload_n 2, 1) := by decide +kernel
theorem d_Mo_new_162 : decode b_Mo_new 162 = .ok (.sipush 261, 3) := by decide +kernel
theorem d_Mo_new_165 : decode b_Mo_new 165 = .ok (.if_icmp .ge 25, 3) := by decide +kernel
theorem d_Mo_new_168 : decode b_Mo_new 168 = .ok (.aload_n 0, 1) := by decide +kernel
theorem d_Mo_new_169 : decode b_Mo_new 169 = .ok (.aload_n 0, 1) := by decide +kernel
theorem d_Mo_new_170 : decode b_Mo_new 170 = .ok (.getfield 26, 3) := by decide +kernel
theorem d_Mo_new_173 : decode b_Mo_new 173 = .ok (.aload_n 0, 1) := by decide +kernel
theorem d_Mo_new_174 : decode b_Mo_new 174 = .ok (.getfield 26, 3) := by decide +kernel
theorem d_Mo_new_177 : decode b_Mo_new 177 = .ok (.aload_n 0, 1) := by decide +kernel
theorem d_Mo_new_178 : decode b_Mo_new 178 = .ok (.getfield 26, 3) := by decide +kernel
theorem d_Mo_new_181 : decode b_Mo_new 181 = .ok (.invokevirtual 48, 3) := by decide +kernel
theorem d_Mo_new_184 : decode b_Mo_new 184 = .ok (.iinc 2 1, 3) := by decide +kernel
theorem d_Mo_new_187 : decode b_Mo_new 187 = .ok (.goto (-26), 3) := by decide +kernel
theorem d_Mo_new_190 : decode b_Mo_new 190 = .ok (.lconst 1, 1) := by decide +kernel
theorem d_Mo_new_191 : decode b_Mo_new 191 = .ok (.lstore_n 2, 1) := by decide +kernel
theorem d_Mo_new_192 : decode b_Mo_new 192 = .ok (.iconst 0, 1) := by decide +kernel
theorem d_Mo_new_193 : decode b_Mo_new 193 = .ok (.istore 4, 2) := by decide +kernel
theorem d_Mo_new_195 : decode b_Mo_new 195 = .ok (.iload 4, 2) := by decide +kernel
theorem d_Mo_new_197 : decode b_Mo_new 197 = .ok (.iconst 5, 1) := by decide +kernel
theorem d_Mo_new_198 : decode b_Mo_new 198 = .ok (.if_icmp .ge 24, 3) := by decide +kernel
theorem d_Mo_new_201 : decode b_Mo_new 201 = .ok (.lload_n 2, 1) := by decide +kernel
theorem d_Mo_new_202 : decode b_Mo_new 202 = .ok (.ldc2_w 46, 3) := by decide +kernel
theorem d_Mo_new_205 : decode b_Mo_new 205 = .ok (.aload_n 0, 1) := by decide +kernel
theorem d_Mo_new_206 : decode b_Mo_new 206 = .ok (.getfield 11, 3) := by decide +kernel
theorem d_Mo_new_209 : decode b_Mo_new 209 = .ok (.iconst 0, 1) := by decide +kernel
theorem d_Mo_new_210 : decode b_Mo_new 210 = .ok (.laload, 1) := by decide +kernel
theorem d_Mo_new_211 : decode b_Mo_new 211 = .ok (.lload_n 2, 1) := by decide +kernel
theorem d_Mo_new_212 : decode b_Mo_new 212 = .ok (.lmul, 1) := by decide +kernel
theorem d_Mo_new_213 : decode b_Mo_new 213 = .ok (.lsub, 1) := by decide +kernel
theorem d_Mo_new_214 : decode b_Mo_new 214 = .ok (.lmul, 1) := by decide +kernel
theorem d_Mo_new_215 : decode b_Mo_new 215 = .ok (.lstore_n 2, 1) := by decide +kernel
theorem d_Mo_new_216 : decode b_Mo_new 216 = .ok (.iinc 4 1, 3) := by decide +kernel
theorem d_Mo_new_219 : decode b_Mo_new 219 = .ok (.goto (-24), 3) := by decide +kernel
theorem d_Mo_new_222 : decode b_Mo_new 222 = .ok (.aload_n 0, 1) := by decide +kernel
theorem d_Mo_new_223 : decode b_Mo_new 223 = .ok (.lload_n 2, 1) := by decide +kernel
theorem d_Mo_new_224 : decode b_Mo_new 224 = .ok (.lneg, 1) := by decide +kernel
theorem d_Mo_new_225 : decode b_Mo_new 225 = .ok (.ldc2_w 52, 3) := by decide +kernel
theorem d_Mo_new_228 : decode b_Mo_new 228 = .ok (.land, 1) := by decide +kernel
theorem d_Mo_new_229 : decode b_Mo_new 229 = .ok (.putfield 54, 3) := by decide +kernel
theorem d_Mo_new_232 : decode b_Mo_new 232 = .ok (.return_, 1) := by decide +kernel
theorem fp_Mo_11 : FP "PrimeKeys$Modulus" 11 1 0 (.array .long) true := ⟨R_Mo, F_Mo, 9, t_Mo, rfl, u_Mo, by decide, rfl, tb_1 (List.mem_of_getElem? (i := 104) (by decide +kernel)) rfl, t_Mo_ok, n_Mo, rfl, by decide +kernel⟩
theorem fp_Mo_17 : FP "PrimeKeys$Modulus" 17 1 1 (.array .long) true := ⟨R_Mo, F_Mo, 9, t_Mo, rfl, u_Mo, by decide, rfl, tb_1 (List.mem_of_getElem? (i := 105) (by decide +kernel)) rfl, t_Mo_ok, n_Mo, rfl, by decide +kernel⟩
theorem fp_Mo_20 : FP "PrimeKeys$Modulus" 20 1 2 (.array .long) true := ⟨R_Mo, F_Mo, 9, t_Mo, rfl, u_Mo, by decide, rfl, tb_1 (List.mem_of_getElem? (i := 106) (by decide +kernel)) rfl, t_Mo_ok, n_Mo, rfl, by decide +kernel⟩
theorem fp_Mo_23 : FP "PrimeKeys$Modulus" 23 1 3 (.array .long) true := ⟨R_Mo, F_Mo, 9, t_Mo, rfl, u_Mo, by decide, rfl, tb_1 (List.mem_of_getElem? (i := 107) (by decide +kernel)) rfl, t_Mo_ok, n_Mo, rfl, by decide +kernel⟩
theorem fp_Mo_26 : FP "PrimeKeys$Modulus" 26 1 4 (.array .long) true := ⟨R_Mo, F_Mo, 9, t_Mo, rfl, u_Mo, by decide, rfl, tb_1 (List.mem_of_getElem? (i := 108) (by decide +kernel)) rfl, t_Mo_ok, n_Mo, rfl, by decide +kernel⟩
theorem fp_Mo_29 : FP "PrimeKeys$Modulus" 29 1 6 (.array .long) true := ⟨R_Mo, F_Mo, 9, t_Mo, rfl, u_Mo, by decide, rfl, tb_1 (List.mem_of_getElem? (i := 110) (by decide +kernel)) rfl, t_Mo_ok, n_Mo, rfl, by decide +kernel⟩
theorem fp_Mo_32 : FP "PrimeKeys$Modulus" 32 1 7 (.array .long) true := ⟨R_Mo, F_Mo, 9, t_Mo, rfl, u_Mo, by decide, rfl, tb_1 (List.mem_of_getElem? (i := 111) (by decide +kernel)) rfl, t_Mo_ok, n_Mo, rfl, by decide +kernel⟩
theorem fp_Mo_35 : FP "PrimeKeys$Modulus" 35 1 8 (.array .long) true := ⟨R_Mo, F_Mo, 9, t_Mo, rfl, u_Mo, by decide, rfl, tb_1 (List.mem_of_getElem? (i := 112) (by decide +kernel)) rfl, t_Mo_ok, n_Mo, rfl, by decide +kernel⟩
theorem fp_Mo_54 : FP "PrimeKeys$Modulus" 54 1 5 .long true := ⟨R_Mo, F_Mo, 9, t_Mo, rfl, u_Mo, by decide, rfl, tb_1 (List.mem_of_getElem? (i := 109) (by decide +kernel)) rfl, t_Mo_ok, n_Mo, rfl, by decide +kernel⟩
theorem kw_4 : Cond.methodLink "PrimeKeys$Modulus" 5 Lib.objectInit ∈ TB := tb_1 (List.mem_of_getElem? (i := 69) (by decide +kernel)) rfl
theorem kw_5 : Cond.constantLong "PrimeKeys$Modulus" 46 2 ∈ TB := tb_1 (List.mem_of_getElem? (i := 89) (by decide +kernel)) rfl
theorem cd_Mo_48 : CD "PrimeKeys$Modulus" 48 y_Mo_add b_Mo_add 7 none 3 := ⟨tb_1 (List.mem_of_getElem? (i := 93) rfl) rfl, tb_1 (List.mem_of_getElem? (i := 4) (by decide +kernel)) rfl, tb_1 (List.mem_of_getElem? (i := 90) (by decide +kernel)) rfl, by decide +kernel⟩
theorem kw_in_Mo_add : Cond.instanceMethod y_Mo_add ∈ TB := tb_1 (List.mem_of_getElem? (i := 91) (by decide +kernel)) rfl
theorem kw_se_Mo_add : Cond.selects "PrimeKeys$Modulus" y_Mo_add y_Mo_add ∈ TB := tb_1 (List.mem_of_getElem? (i := 92) (by decide +kernel)) rfl
theorem cd_Mo_38 : CD "PrimeKeys$Modulus" 38 y_Li_readWords b_Li_readWords 4 none 2 := ⟨tb_1 (List.mem_of_getElem? (i := 72) rfl) rfl, tb_1 (List.mem_of_getElem? (i := 5) (by decide +kernel)) rfl, tb_1 (List.mem_of_getElem? (i := 70) (by decide +kernel)) rfl, by decide +kernel⟩
theorem kw_st_Li_readWords : Cond.static y_Li_readWords ∈ TB := tb_1 (List.mem_of_getElem? (i := 71) (by decide +kernel)) rfl
abbrev rm_Mo_new : Room := { frames := 3, cells := 9, slots := 112, locals := 74 }
def B_Mo_new_195 (K119 : HP → Nat → Int32 → Option (HP)) (K161 : HP → Nat → Int32 → Option (HP)) (K195 : HP → Nat → Int64 → Int32 → Option (HP)) (h : HP) (a0 : Nat) (a2 : Int64) (a4 : Int32) : Option (HP) :=
  if 5 ≤ a4 then
  bnd (pV h a0 1 5 (.long ((-a2) &&& 536870911))) fun h41 =>
  some h41
  else
  bnd (gR h a0 1 0) fun k42 =>
  bnd (ldJ h k42 0) fun v43 =>
  lt (a2 * (2 - (v43 * a2))) fun x44 =>
  lt (a4 + Int32.ofInt 1) fun x45 =>
  K195 h a0 x44 x45
set_option maxHeartbeats 4000000 in
set_option maxRecDepth 100000 in
theorem bk_Mo_new_195 {l : Launch} {x : CX} {h0 h' : HP} (C : EV x b_Mo_new "PrimeKeys$Modulus" 5 rm_Mo_new) (T : CT x (none) rm_Mo_new h0 none h') (hl0 : x.1.2.1 = l) (hin : x.2.1.2.2.2.1.name = "<init>") (K119 : HP → Nat → Int32 → Option (HP)) (K161 : HP → Nat → Int32 → Option (HP)) (K195 : HP → Nat → Int64 → Int32 → Option (HP)) (hK119 : ∀ (h : HP) (a0 : Nat) (a2 : Int32), K119 h a0 a2 = some h' → GG x 9 112 h 119 [(0, .ref a0), (2, .int a2)] []) (hK161 : ∀ (h : HP) (a0 : Nat) (a2 : Int32), K161 h a0 a2 = some h' → GG x 9 112 h 161 [(0, .ref a0), (2, .int a2)] []) (hK195 : ∀ (h : HP) (a0 : Nat) (a2 : Int64) (a4 : Int32), K195 h a0 a2 a4 = some h' → GG x 9 112 h 195 [(0, .ref a0), (2, .long a2), (4, .int a4)] []) (h : HP) (a0 : Nat) (a2 : Int64) (a4 : Int32) (hr : B_Mo_new_195 K119 K161 K195 h a0 a2 a4 = some h') : GG x 9 112 h 195 [(0, .ref a0), (2, .long a2), (4, .int a4)] [] := by
  unfold B_Mo_new_195 at hr
  refine g_iload C 2 rfl d_Mo_new_195 ?_
  refine g_iconst (v := 5) C d_Mo_new_197 (by decide) ?_
  refine g_icmp_ge (tgt := 222) C d_Mo_new_198 (by decide) (fun z => ?_) (fun z => ?_)
  · have hr := of_if z hr
    refine g_aload_n C 0 rfl d_Mo_new_222 rfl ?_
    refine g_lload_n C 1 rfl d_Mo_new_223 rfl ?_
    refine g_lneg C d_Mo_new_224 ?_
    refine g_ldc2 (v := 536870911) C d_Mo_new_225 kw_2 ?_
    refine g_land C d_Mo_new_228 ?_
    obtain ⟨h41, eh41, hr⟩ := of_bnd hr
    refine g_putF C fp_Mo_54 hin rfl eh41 (fun _ => rfl) (fun _ => rfl) d_Mo_new_229 ?_
    cases hr
    exact g_vreturn C T (by decide) (by decide) d_Mo_new_232
  · have hr := of_el z hr
    refine g_lload_n C 1 rfl d_Mo_new_201 rfl ?_
    refine g_ldc2 (v := 2) C d_Mo_new_202 kw_5 ?_
    refine g_aload_n C 0 rfl d_Mo_new_205 rfl ?_
    obtain ⟨k42, ek42, hr⟩ := of_bnd hr
    refine g_getR C fl_Mo_11 ek42 d_Mo_new_206 ?_
    refine g_iconst (v := 0) C d_Mo_new_209 (by decide) ?_
    obtain ⟨v43, ev43, hr⟩ := of_bnd hr
    refine g_laload C ev43 d_Mo_new_210 ?_
    refine g_lload_n C 1 rfl d_Mo_new_211 rfl ?_
    refine g_lmul C d_Mo_new_212 ?_
    refine g_lsub C d_Mo_new_213 ?_
    refine g_lmul C d_Mo_new_214 ?_
    refine g_topl (fun x44 ex44 => ?_)
    have hr := of_lt ex44 hr
    refine g_lstore_n (lv' := [(2, .long x44), (0, .ref a0), (4, .int a4)]) C d_Mo_new_215 rfl (by decide) rfl ?_
    obtain ⟨x45, ex45⟩ : ∃ z, z = a4 + Int32.ofInt 1 := ⟨_, rfl⟩
    have hr := of_lt ex45 hr
    refine g_iinc (lv' := [(4, .int x45), (2, .long x44), (0, .ref a0)]) C 2 rfl d_Mo_new_216 ex45.symm (by decide) rfl ?_
    refine g_goto (tgt := 195) C d_Mo_new_219 (by decide) ?_
    refine g_lv [2, 1, 0] rfl ?_
    exact hK195 h a0 x44 x45 hr
def L_Mo_new_195 (K119 : HP → Nat → Int32 → Option (HP)) (K161 : HP → Nat → Int32 → Option (HP)) : Nat → HP → Nat → Int64 → Int32 → Option (HP)
  | 0, _, _, _, _ => none
  | f + 1, h, a0, a2, a4 => B_Mo_new_195 K119 K161 (L_Mo_new_195 K119 K161 f) h a0 a2 a4
theorem lp_Mo_new_195 {l : Launch} {x : CX} {h0 h' : HP} (C : EV x b_Mo_new "PrimeKeys$Modulus" 5 rm_Mo_new) (T : CT x (none) rm_Mo_new h0 none h') (hl0 : x.1.2.1 = l) (hin : x.2.1.2.2.2.1.name = "<init>") (K119 : HP → Nat → Int32 → Option (HP)) (K161 : HP → Nat → Int32 → Option (HP)) (hK119 : ∀ (h : HP) (a0 : Nat) (a2 : Int32), K119 h a0 a2 = some h' → GG x 9 112 h 119 [(0, .ref a0), (2, .int a2)] []) (hK161 : ∀ (h : HP) (a0 : Nat) (a2 : Int32), K161 h a0 a2 = some h' → GG x 9 112 h 161 [(0, .ref a0), (2, .int a2)] []) : ∀ (f : Nat) (h : HP) (a0 : Nat) (a2 : Int64) (a4 : Int32), L_Mo_new_195 K119 K161 f h a0 a2 a4 = some h' → GG x 9 112 h 195 [(0, .ref a0), (2, .long a2), (4, .int a4)] [] := by
  intro f
  induction f with
  | zero => intro h a0 a2 a4 hr; have hr : (none : Option (HP)) = some h' := hr; cases hr
  | succ f ih => intro h a0 a2 a4 hr; exact bk_Mo_new_195 C T hl0 hin K119 K161 (L_Mo_new_195 K119 K161 f) hK119 hK161 ih h a0 a2 a4 hr
def B_Mo_new_161 (K119 : HP → Nat → Int32 → Option (HP)) (K161 : HP → Nat → Int32 → Option (HP)) (h : HP) (a0 : Nat) (a2 : Int32) : Option (HP) :=
  if 261 ≤ a2 then
  L_Mo_new_195 K119 K161 FU h a0 1 0
  else
  bnd (gR h a0 1 4) fun k46 =>
  bnd (gR h a0 1 4) fun k47 =>
  bnd (gR h a0 1 4) fun k48 =>
  ob h a0 1 (
  bnd (P_Mo_add h a0 k46 k47 k48) fun h49 =>
  lt (a2 + Int32.ofInt 1) fun x50 =>
  K161 h49 a0 x50)
set_option maxHeartbeats 4000000 in
set_option maxRecDepth 100000 in
theorem bk_Mo_new_161 {l : Launch} {x : CX} {h0 h' : HP} (C : EV x b_Mo_new "PrimeKeys$Modulus" 5 rm_Mo_new) (T : CT x (none) rm_Mo_new h0 none h') (hl0 : x.1.2.1 = l) (hin : x.2.1.2.2.2.1.name = "<init>") (K119 : HP → Nat → Int32 → Option (HP)) (K161 : HP → Nat → Int32 → Option (HP)) (hK119 : ∀ (h : HP) (a0 : Nat) (a2 : Int32), K119 h a0 a2 = some h' → GG x 9 112 h 119 [(0, .ref a0), (2, .int a2)] []) (hK161 : ∀ (h : HP) (a0 : Nat) (a2 : Int32), K161 h a0 a2 = some h' → GG x 9 112 h 161 [(0, .ref a0), (2, .int a2)] []) (h : HP) (a0 : Nat) (a2 : Int32) (hr : B_Mo_new_161 K119 K161 h a0 a2 = some h') : GG x 9 112 h 161 [(0, .ref a0), (2, .int a2)] [] := by
  unfold B_Mo_new_161 at hr
  refine g_iload_n C 1 rfl d_Mo_new_161 rfl ?_
  refine g_sipush (v := 261) C d_Mo_new_162 (by decide) ?_
  refine g_icmp_ge (tgt := 190) C d_Mo_new_165 (by decide) (fun z => ?_) (fun z => ?_)
  · have hr := of_if z hr
    refine g_lconst (v := 1) C d_Mo_new_190 (by decide) ?_
    refine g_lstore_n (lv' := [(2, .long 1), (0, .ref a0)]) C d_Mo_new_191 rfl (by decide) rfl ?_
    refine g_iconst (v := 0) C d_Mo_new_192 (by decide) ?_
    refine g_istore (lv' := [(4, .int 0), (2, .long 1), (0, .ref a0)]) C d_Mo_new_193 (by decide) rfl ?_
    refine g_lv [2, 1, 0] rfl ?_
    exact lp_Mo_new_195 C T hl0 hin K119 K161 hK119 hK161 FU h a0 1 0 hr
  · have hr := of_el z hr
    refine g_aload_n C 0 rfl d_Mo_new_168 rfl ?_
    refine g_aload_n C 0 rfl d_Mo_new_169 rfl ?_
    obtain ⟨k46, ek46, hr⟩ := of_bnd hr
    refine g_getR C fl_Mo_26 ek46 d_Mo_new_170 ?_
    refine g_aload_n C 0 rfl d_Mo_new_173 rfl ?_
    obtain ⟨k47, ek47, hr⟩ := of_bnd hr
    refine g_getR C fl_Mo_26 ek47 d_Mo_new_174 ?_
    refine g_aload_n C 0 rfl d_Mo_new_177 rfl ?_
    obtain ⟨k48, ek48, hr⟩ := of_bnd hr
    refine g_getR C fl_Mo_26 ek48 d_Mo_new_178 ?_
    obtain ⟨fsh49, hoh49, hr⟩ := of_ob hr
    obtain ⟨h49, eh49, hr⟩ := of_bnd hr
    refine g_callV (pa := [.ref k46, .ref k47, .ref k48]) C hl0 (c_Mo_add eh49) cd_Mo_48 kw_in_Mo_add kw_se_Mo_add hoh49 rfl rfl (by decide) rfl rfl (Nat.le_of_ble_eq_true rfl) d_Mo_new_181 ?_
    obtain ⟨x50, ex50⟩ : ∃ z, z = a2 + Int32.ofInt 1 := ⟨_, rfl⟩
    have hr := of_lt ex50 hr
    refine g_iinc (lv' := [(2, .int x50), (0, .ref a0)]) C 1 rfl d_Mo_new_184 ex50.symm (by decide) rfl ?_
    refine g_goto (tgt := 161) C d_Mo_new_187 (by decide) ?_
    refine g_lv [1, 0] rfl ?_
    exact hK161 h49 a0 x50 hr
def L_Mo_new_161 (K119 : HP → Nat → Int32 → Option (HP)) : Nat → HP → Nat → Int32 → Option (HP)
  | 0, _, _, _ => none
  | f + 1, h, a0, a2 => B_Mo_new_161 K119 (L_Mo_new_161 K119 f) h a0 a2
theorem lp_Mo_new_161 {l : Launch} {x : CX} {h0 h' : HP} (C : EV x b_Mo_new "PrimeKeys$Modulus" 5 rm_Mo_new) (T : CT x (none) rm_Mo_new h0 none h') (hl0 : x.1.2.1 = l) (hin : x.2.1.2.2.2.1.name = "<init>") (K119 : HP → Nat → Int32 → Option (HP)) (hK119 : ∀ (h : HP) (a0 : Nat) (a2 : Int32), K119 h a0 a2 = some h' → GG x 9 112 h 119 [(0, .ref a0), (2, .int a2)] []) : ∀ (f : Nat) (h : HP) (a0 : Nat) (a2 : Int32), L_Mo_new_161 K119 f h a0 a2 = some h' → GG x 9 112 h 161 [(0, .ref a0), (2, .int a2)] [] := by
  intro f
  induction f with
  | zero => intro h a0 a2 hr; have hr : (none : Option (HP)) = some h' := hr; cases hr
  | succ f ih => intro h a0 a2 hr; exact bk_Mo_new_161 C T hl0 hin K119 (L_Mo_new_161 K119 f) hK119 ih h a0 a2 hr
def B_Mo_new_119 (K119 : HP → Nat → Int32 → Option (HP)) (h : HP) (a0 : Nat) (a2 : Int32) : Option (HP) :=
  if 261 ≤ a2 then
  bnd (gR h a0 1 3) fun k38 =>
  bnd (gR h a0 1 4) fun k39 =>
  bnd (P_Li_copy h k38 k39) fun h40 =>
  L_Mo_new_161 K119 FU h40 a0 0
  else
  bnd (gR h a0 1 3) fun k51 =>
  bnd (gR h a0 1 3) fun k52 =>
  bnd (gR h a0 1 3) fun k53 =>
  ob h a0 1 (
  bnd (P_Mo_add h a0 k51 k52 k53) fun h54 =>
  lt (a2 + Int32.ofInt 1) fun x55 =>
  K119 h54 a0 x55)
set_option maxHeartbeats 4000000 in
set_option maxRecDepth 100000 in
theorem bk_Mo_new_119 {l : Launch} {x : CX} {h0 h' : HP} (C : EV x b_Mo_new "PrimeKeys$Modulus" 5 rm_Mo_new) (T : CT x (none) rm_Mo_new h0 none h') (hl0 : x.1.2.1 = l) (hin : x.2.1.2.2.2.1.name = "<init>") (K119 : HP → Nat → Int32 → Option (HP)) (hK119 : ∀ (h : HP) (a0 : Nat) (a2 : Int32), K119 h a0 a2 = some h' → GG x 9 112 h 119 [(0, .ref a0), (2, .int a2)] []) (h : HP) (a0 : Nat) (a2 : Int32) (hr : B_Mo_new_119 K119 h a0 a2 = some h') : GG x 9 112 h 119 [(0, .ref a0), (2, .int a2)] [] := by
  unfold B_Mo_new_119 at hr
  refine g_iload_n C 1 rfl d_Mo_new_119 rfl ?_
  refine g_sipush (v := 261) C d_Mo_new_120 (by decide) ?_
  refine g_icmp_ge (tgt := 148) C d_Mo_new_123 (by decide) (fun z => ?_) (fun z => ?_)
  · have hr := of_if z hr
    refine g_aload_n C 0 rfl d_Mo_new_148 rfl ?_
    obtain ⟨k38, ek38, hr⟩ := of_bnd hr
    refine g_getR C fl_Mo_23 ek38 d_Mo_new_149 ?_
    refine g_aload_n C 0 rfl d_Mo_new_152 rfl ?_
    obtain ⟨k39, ek39, hr⟩ := of_bnd hr
    refine g_getR C fl_Mo_26 ek39 d_Mo_new_153 ?_
    obtain ⟨h40, eh40, hr⟩ := of_bnd hr
    refine g_callS (pa := [.ref k38, .ref k39]) C hl0 (c_Li_copy eh40) cd_Mo_42 kw_st_Li_copy (by decide) rfl rfl (Nat.le_of_ble_eq_true rfl) d_Mo_new_156 ?_
    refine g_iconst (v := 0) C d_Mo_new_159 (by decide) ?_
    refine g_istore_n (lv' := [(2, .int 0), (0, .ref a0)]) C d_Mo_new_160 rfl (by decide) rfl ?_
    refine g_lv [1, 0] rfl ?_
    exact lp_Mo_new_161 C T hl0 hin K119 hK119 FU h40 a0 0 hr
  · have hr := of_el z hr
    refine g_aload_n C 0 rfl d_Mo_new_126 rfl ?_
    refine g_aload_n C 0 rfl d_Mo_new_127 rfl ?_
    obtain ⟨k51, ek51, hr⟩ := of_bnd hr
    refine g_getR C fl_Mo_23 ek51 d_Mo_new_128 ?_
    refine g_aload_n C 0 rfl d_Mo_new_131 rfl ?_
    obtain ⟨k52, ek52, hr⟩ := of_bnd hr
    refine g_getR C fl_Mo_23 ek52 d_Mo_new_132 ?_
    refine g_aload_n C 0 rfl d_Mo_new_135 rfl ?_
    obtain ⟨k53, ek53, hr⟩ := of_bnd hr
    refine g_getR C fl_Mo_23 ek53 d_Mo_new_136 ?_
    obtain ⟨fsh54, hoh54, hr⟩ := of_ob hr
    obtain ⟨h54, eh54, hr⟩ := of_bnd hr
    refine g_callV (pa := [.ref k51, .ref k52, .ref k53]) C hl0 (c_Mo_add eh54) cd_Mo_48 kw_in_Mo_add kw_se_Mo_add hoh54 rfl rfl (by decide) rfl rfl (Nat.le_of_ble_eq_true rfl) d_Mo_new_139 ?_
    obtain ⟨x55, ex55⟩ : ∃ z, z = a2 + Int32.ofInt 1 := ⟨_, rfl⟩
    have hr := of_lt ex55 hr
    refine g_iinc (lv' := [(2, .int x55), (0, .ref a0)]) C 1 rfl d_Mo_new_142 ex55.symm (by decide) rfl ?_
    refine g_goto (tgt := 119) C d_Mo_new_145 (by decide) ?_
    refine g_lv [1, 0] rfl ?_
    exact hK119 h54 a0 x55 hr
def L_Mo_new_119 : Nat → HP → Nat → Int32 → Option (HP)
  | 0, _, _, _ => none
  | f + 1, h, a0, a2 => B_Mo_new_119 (L_Mo_new_119 f) h a0 a2
theorem lp_Mo_new_119 {l : Launch} {x : CX} {h0 h' : HP} (C : EV x b_Mo_new "PrimeKeys$Modulus" 5 rm_Mo_new) (T : CT x (none) rm_Mo_new h0 none h') (hl0 : x.1.2.1 = l) (hin : x.2.1.2.2.2.1.name = "<init>") : ∀ (f : Nat) (h : HP) (a0 : Nat) (a2 : Int32), L_Mo_new_119 f h a0 a2 = some h' → GG x 9 112 h 119 [(0, .ref a0), (2, .int a2)] [] := by
  intro f
  induction f with
  | zero => intro h a0 a2 hr; have hr : (none : Option (HP)) = some h' := hr; cases hr
  | succ f ih => intro h a0 a2 hr; exact bk_Mo_new_119 C T hl0 hin (L_Mo_new_119 f) ih h a0 a2 hr
def P_Mo_new (h : HP) (p0 : Nat) (p1 : Nat) : Option (HP) :=
  lt (h ++ [pJ 9 (fun _ => 0)]) fun h1 =>
  lt h.length fun k2 =>
  bnd (pV h1 p0 1 0 (.ref k2)) fun h3 =>
  lt (h3 ++ [pJ 9 (fun _ => 0)]) fun h4 =>
  lt h3.length fun k5 =>
  bnd (pV h4 p0 1 1 (.ref k5)) fun h6 =>
  lt (h6 ++ [pJ 9 (fun _ => 0)]) fun h7 =>
  lt h6.length fun k8 =>
  bnd (pV h7 p0 1 2 (.ref k8)) fun h9 =>
  lt (h9 ++ [pJ 9 (fun _ => 0)]) fun h10 =>
  lt h9.length fun k11 =>
  bnd (pV h10 p0 1 3 (.ref k11)) fun h12 =>
  lt (h12 ++ [pJ 9 (fun _ => 0)]) fun h13 =>
  lt h12.length fun k14 =>
  bnd (pV h13 p0 1 4 (.ref k14)) fun h15 =>
  lt (h15 ++ [pJ 17 (fun _ => 0)]) fun h16 =>
  lt h15.length fun k17 =>
  bnd (pV h16 p0 1 6 (.ref k17)) fun h18 =>
  lt (h18 ++ [pJ 9 (fun _ => 0)]) fun h19 =>
  lt h18.length fun k20 =>
  bnd (pV h19 p0 1 7 (.ref k20)) fun h21 =>
  lt (h21 ++ [pJ 9 (fun _ => 0)]) fun h22 =>
  lt h21.length fun k23 =>
  bnd (pV h22 p0 1 8 (.ref k23)) fun h24 =>
  bnd (gR h24 p0 1 0) fun k25 =>
  bnd (P_Li_readWords h24 p1 k25) fun h26 =>
  bnd (gR h26 p0 1 0) fun k27 =>
  bnd (gR h26 p0 1 1) fun k28 =>
  bnd (P_Li_copy h26 k27 k28) fun h29 =>
  bnd (gR h29 p0 1 1) fun k30 =>
  bnd (ldJ h29 k30 0) fun v31 =>
  bnd (stJ h29 k30 0 (v31 - 2)) fun h32 =>
  bnd (gR h32 p0 1 2) fun k33 =>
  bnd (stJ h32 k33 0 1) fun h34 =>
  bnd (gR h34 p0 1 2) fun k35 =>
  bnd (gR h34 p0 1 3) fun k36 =>
  bnd (P_Li_copy h34 k35 k36) fun h37 =>
  L_Mo_new_119 FU h37 p0 0
set_option maxHeartbeats 4000000 in
set_option maxRecDepth 100000 in
theorem c_Mo_new {l : Launch} {h h' : HP} {p0 p1 : _} (hr : P_Mo_new h p0 p1 = some h') : MP l y_Mo_new (Cond.code y_Mo_new b_Mo_new 5 none :: TB) rm_Mo_new h [.ref p0, .retAddr p1] none h' := by
  refine MP_intro (cc := b_Mo_new) (by decide) (Nat.le_of_ble_eq_true rfl) (fun x hl0 C T hin => ?_)
  unfold P_Mo_new at hr
  show GG x 0 0 h 0 [(0, .ref p0), (1, .retAddr p1)] []
  refine g_aload_n C 0 rfl d_Mo_new_0 rfl ?_
  refine g_objInit C kw_4 kw_oi kw_oc (by decide) (Nat.le_of_ble_eq_true rfl) d_Mo_new_1 ?_
  refine g_aload_n C 0 rfl d_Mo_new_4 rfl ?_
  refine g_bipush (v := 9) C d_Mo_new_5 (by decide) ?_
  obtain ⟨h1, eh1⟩ : ∃ z, z = h ++ [pJ 9 (fun _ => 0)] := ⟨_, rfl⟩
  have hr := of_lt eh1 hr
  obtain ⟨k2, ek2⟩ : ∃ z, z = h.length := ⟨_, rfl⟩
  have hr := of_lt ek2 hr
  refine g_newJE (n' := 9) C eh1 ek2 (by decide) (by decide) (by decide) (by decide) (by decide) d_Mo_new_7 ?_
  obtain ⟨h3, eh3, hr⟩ := of_bnd hr
  refine g_putF C fp_Mo_11 hin rfl eh3 (fun _ => rfl) (fun _ => rfl) d_Mo_new_9 ?_
  refine g_aload_n C 0 rfl d_Mo_new_12 rfl ?_
  refine g_bipush (v := 9) C d_Mo_new_13 (by decide) ?_
  obtain ⟨h4, eh4⟩ : ∃ z, z = h3 ++ [pJ 9 (fun _ => 0)] := ⟨_, rfl⟩
  have hr := of_lt eh4 hr
  obtain ⟨k5, ek5⟩ : ∃ z, z = h3.length := ⟨_, rfl⟩
  have hr := of_lt ek5 hr
  refine g_newJE (n' := 9) C eh4 ek5 (by decide) (by decide) (by decide) (by decide) (by decide) d_Mo_new_15 ?_
  obtain ⟨h6, eh6, hr⟩ := of_bnd hr
  refine g_putF C fp_Mo_17 hin rfl eh6 (fun _ => rfl) (fun _ => rfl) d_Mo_new_17 ?_
  refine g_aload_n C 0 rfl d_Mo_new_20 rfl ?_
  refine g_bipush (v := 9) C d_Mo_new_21 (by decide) ?_
  obtain ⟨h7, eh7⟩ : ∃ z, z = h6 ++ [pJ 9 (fun _ => 0)] := ⟨_, rfl⟩
  have hr := of_lt eh7 hr
  obtain ⟨k8, ek8⟩ : ∃ z, z = h6.length := ⟨_, rfl⟩
  have hr := of_lt ek8 hr
  refine g_newJE (n' := 9) C eh7 ek8 (by decide) (by decide) (by decide) (by decide) (by decide) d_Mo_new_23 ?_
  obtain ⟨h9, eh9, hr⟩ := of_bnd hr
  refine g_putF C fp_Mo_20 hin rfl eh9 (fun _ => rfl) (fun _ => rfl) d_Mo_new_25 ?_
  refine g_aload_n C 0 rfl d_Mo_new_28 rfl ?_
  refine g_bipush (v := 9) C d_Mo_new_29 (by decide) ?_
  obtain ⟨h10, eh10⟩ : ∃ z, z = h9 ++ [pJ 9 (fun _ => 0)] := ⟨_, rfl⟩
  have hr := of_lt eh10 hr
  obtain ⟨k11, ek11⟩ : ∃ z, z = h9.length := ⟨_, rfl⟩
  have hr := of_lt ek11 hr
  refine g_newJE (n' := 9) C eh10 ek11 (by decide) (by decide) (by decide) (by decide) (by decide) d_Mo_new_31 ?_
  obtain ⟨h12, eh12, hr⟩ := of_bnd hr
  refine g_putF C fp_Mo_23 hin rfl eh12 (fun _ => rfl) (fun _ => rfl) d_Mo_new_33 ?_
  refine g_aload_n C 0 rfl d_Mo_new_36 rfl ?_
  refine g_bipush (v := 9) C d_Mo_new_37 (by decide) ?_
  obtain ⟨h13, eh13⟩ : ∃ z, z = h12 ++ [pJ 9 (fun _ => 0)] := ⟨_, rfl⟩
  have hr := of_lt eh13 hr
  obtain ⟨k14, ek14⟩ : ∃ z, z = h12.length := ⟨_, rfl⟩
  have hr := of_lt ek14 hr
  refine g_newJE (n' := 9) C eh13 ek14 (by decide) (by decide) (by decide) (by decide) (by decide) d_Mo_new_39 ?_
  obtain ⟨h15, eh15, hr⟩ := of_bnd hr
  refine g_putF C fp_Mo_26 hin rfl eh15 (fun _ => rfl) (fun _ => rfl) d_Mo_new_41 ?_
  refine g_aload_n C 0 rfl d_Mo_new_44 rfl ?_
  refine g_bipush (v := 17) C d_Mo_new_45 (by decide) ?_
  obtain ⟨h16, eh16⟩ : ∃ z, z = h15 ++ [pJ 17 (fun _ => 0)] := ⟨_, rfl⟩
  have hr := of_lt eh16 hr
  obtain ⟨k17, ek17⟩ : ∃ z, z = h15.length := ⟨_, rfl⟩
  have hr := of_lt ek17 hr
  refine g_newJE (n' := 17) C eh16 ek17 (by decide) (by decide) (by decide) (by decide) (by decide) d_Mo_new_47 ?_
  obtain ⟨h18, eh18, hr⟩ := of_bnd hr
  refine g_putF C fp_Mo_29 hin rfl eh18 (fun _ => rfl) (fun _ => rfl) d_Mo_new_49 ?_
  refine g_aload_n C 0 rfl d_Mo_new_52 rfl ?_
  refine g_bipush (v := 9) C d_Mo_new_53 (by decide) ?_
  obtain ⟨h19, eh19⟩ : ∃ z, z = h18 ++ [pJ 9 (fun _ => 0)] := ⟨_, rfl⟩
  have hr := of_lt eh19 hr
  obtain ⟨k20, ek20⟩ : ∃ z, z = h18.length := ⟨_, rfl⟩
  have hr := of_lt ek20 hr
  refine g_newJE (n' := 9) C eh19 ek20 (by decide) (by decide) (by decide) (by decide) (by decide) d_Mo_new_55 ?_
  obtain ⟨h21, eh21, hr⟩ := of_bnd hr
  refine g_putF C fp_Mo_32 hin rfl eh21 (fun _ => rfl) (fun _ => rfl) d_Mo_new_57 ?_
  refine g_aload_n C 0 rfl d_Mo_new_60 rfl ?_
  refine g_bipush (v := 9) C d_Mo_new_61 (by decide) ?_
  obtain ⟨h22, eh22⟩ : ∃ z, z = h21 ++ [pJ 9 (fun _ => 0)] := ⟨_, rfl⟩
  have hr := of_lt eh22 hr
  obtain ⟨k23, ek23⟩ : ∃ z, z = h21.length := ⟨_, rfl⟩
  have hr := of_lt ek23 hr
  refine g_newJE (n' := 9) C eh22 ek23 (by decide) (by decide) (by decide) (by decide) (by decide) d_Mo_new_63 ?_
  obtain ⟨h24, eh24, hr⟩ := of_bnd hr
  refine g_putF C fp_Mo_35 hin rfl eh24 (fun _ => rfl) (fun _ => rfl) d_Mo_new_65 ?_
  refine g_aload_nT C 1 rfl d_Mo_new_68 rfl ?_
  refine g_aload_n C 0 rfl d_Mo_new_69 rfl ?_
  obtain ⟨k25, ek25, hr⟩ := of_bnd hr
  refine g_getR C fl_Mo_11 ek25 d_Mo_new_70 ?_
  obtain ⟨h26, eh26, hr⟩ := of_bnd hr
  refine g_callS (pa := [.retAddr p1, .ref k25]) C hl0 (c_Li_readWords eh26) cd_Mo_38 kw_st_Li_readWords (by decide) rfl rfl (Nat.le_of_ble_eq_true rfl) d_Mo_new_73 ?_
  refine g_aload_n C 0 rfl d_Mo_new_76 rfl ?_
  obtain ⟨k27, ek27, hr⟩ := of_bnd hr
  refine g_getR C fl_Mo_11 ek27 d_Mo_new_77 ?_
  refine g_aload_n C 0 rfl d_Mo_new_80 rfl ?_
  obtain ⟨k28, ek28, hr⟩ := of_bnd hr
  refine g_getR C fl_Mo_17 ek28 d_Mo_new_81 ?_
  obtain ⟨h29, eh29, hr⟩ := of_bnd hr
  refine g_callS (pa := [.ref k27, .ref k28]) C hl0 (c_Li_copy eh29) cd_Mo_42 kw_st_Li_copy (by decide) rfl rfl (Nat.le_of_ble_eq_true rfl) d_Mo_new_84 ?_
  refine g_aload_n C 0 rfl d_Mo_new_87 rfl ?_
  obtain ⟨k30, ek30, hr⟩ := of_bnd hr
  refine g_getR C fl_Mo_17 ek30 d_Mo_new_88 ?_
  refine g_iconst (v := 0) C d_Mo_new_91 (by decide) ?_
  refine g_dup2_11 C d_Mo_new_92 rfl rfl ?_
  obtain ⟨v31, ev31, hr⟩ := of_bnd hr
  refine g_laload C ev31 d_Mo_new_93 ?_
  refine g_ldc2 (v := 2) C d_Mo_new_94 kw_5 ?_
  refine g_lsub C d_Mo_new_97 ?_
  obtain ⟨h32, eh32, hr⟩ := of_bnd hr
  refine g_lastore C eh32 d_Mo_new_98 ?_
  refine g_aload_n C 0 rfl d_Mo_new_99 rfl ?_
  obtain ⟨k33, ek33, hr⟩ := of_bnd hr
  refine g_getR C fl_Mo_20 ek33 d_Mo_new_100 ?_
  refine g_iconst (v := 0) C d_Mo_new_103 (by decide) ?_
  refine g_lconst (v := 1) C d_Mo_new_104 (by decide) ?_
  obtain ⟨h34, eh34, hr⟩ := of_bnd hr
  refine g_lastore C eh34 d_Mo_new_105 ?_
  refine g_aload_n C 0 rfl d_Mo_new_106 rfl ?_
  obtain ⟨k35, ek35, hr⟩ := of_bnd hr
  refine g_getR C fl_Mo_20 ek35 d_Mo_new_107 ?_
  refine g_aload_n C 0 rfl d_Mo_new_110 rfl ?_
  obtain ⟨k36, ek36, hr⟩ := of_bnd hr
  refine g_getR C fl_Mo_23 ek36 d_Mo_new_111 ?_
  obtain ⟨h37, eh37, hr⟩ := of_bnd hr
  refine g_callS (pa := [.ref k35, .ref k36]) C hl0 (c_Li_copy eh37) cd_Mo_42 kw_st_Li_copy (by decide) rfl rfl (Nat.le_of_ble_eq_true rfl) d_Mo_new_114 ?_
  refine g_iconst (v := 0) C d_Mo_new_117 (by decide) ?_
  refine g_istore_n (lv' := [(2, .int 0), (0, .ref p0), (1, .retAddr p1)]) C d_Mo_new_118 rfl (by decide) rfl ?_
  refine g_lv [1, 0] rfl ?_
  exact lp_Mo_new_119 C T hl0 hin FU h37 p0 0 hr
