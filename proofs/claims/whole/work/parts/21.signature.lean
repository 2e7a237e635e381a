abbrev b_Sg_new : ByteArray := prog_8_method_1_code
abbrev y_Sg_new : MethodName := ⟨"PrimeKeys$Signature", "<init>", "()V"⟩
theorem d_Sg_new_0 : decode b_Sg_new 0 = .ok (.aload_n 0, 1) := by decide +kernel
theorem d_Sg_new_1 : decode b_Sg_new 1 = .ok (.invokespecial 1, 3) := by decide +kernel
theorem d_Sg_new_4 : decode b_Sg_new 4 = .ok (.aload_n 0, 1) := by decide +kernel
theorem d_Sg_new_5 : decode b_Sg_new 5 = .ok (.bipush 33, 2) := by decide +kernel
theorem d_Sg_new_7 : decode b_Sg_new 7 = .ok (.newarray .byte, 2) := by decide +kernel
theorem d_Sg_new_9 : decode b_Sg_new 9 = .ok (.putfield 9, 3) := by decide +kernel
theorem d_Sg_new_12 : decode b_Sg_new 12 = .ok (.aload_n 0, 1) := by decide +kernel
theorem d_Sg_new_13 : decode b_Sg_new 13 = .ok (.bipush 33, 2) := by decide +kernel
theorem d_Sg_new_15 : decode b_Sg_new 15 = .ok (.newarray .byte, 2) := by decide +kernel
theorem d_Sg_new_17 : decode b_Sg_new 17 = .ok (.putfield 13, 3) := by decide +kernel
theorem d_Sg_new_20 : decode b_Sg_new 20 = .ok (.return_, 1) := by decide +kernel
theorem fp_Sg_9 : FP "PrimeKeys$Signature" 9 5 0 (.array .byte) true := ⟨R_Sg, F_Sg, 2, t_Sg, rfl, u_Sg, by decide, rfl, tb_2 (List.mem_of_getElem? (i := 92) (by decide +kernel)) rfl, t_Sg_ok, n_Sg, rfl, by decide +kernel⟩
theorem fp_Sg_13 : FP "PrimeKeys$Signature" 13 5 1 (.array .byte) true := ⟨R_Sg, F_Sg, 2, t_Sg, rfl, u_Sg, by decide, rfl, tb_2 (List.mem_of_getElem? (i := 94) (by decide +kernel)) rfl, t_Sg_ok, n_Sg, rfl, by decide +kernel⟩
theorem kw_13 : Cond.methodLink "PrimeKeys$Signature" 1 Lib.objectInit ∈ TB := tb_2 (List.mem_of_getElem? (i := 91) (by decide +kernel)) rfl
abbrev rm_Sg_new : Room := { frames := 1, cells := 2, slots := 66, locals := 20 }
def P_Sg_new (h : HP) (p0 : Nat) : Option (HP) :=
  lt (h ++ [pB 33 (fun _ => 0)]) fun h1 =>
  lt h.length fun k2 =>
  bnd (pV h1 p0 5 0 (.ref k2)) fun h3 =>
  lt (h3 ++ [pB 33 (fun _ => 0)]) fun h4 =>
  lt h3.length fun k5 =>
  bnd (pV h4 p0 5 1 (.ref k5)) fun h6 =>
  some h6
set_option maxHeartbeats 4000000 in
set_option maxRecDepth 100000 in
theorem c_Sg_new {l : Launch} {h h' : HP} {p0 : _} (hr : P_Sg_new h p0 = some h') : MP l y_Sg_new (Cond.code y_Sg_new b_Sg_new 1 none :: TB) rm_Sg_new h [.ref p0] none h' := by
  refine MP_intro (cc := b_Sg_new) (by decide) (Nat.le_of_ble_eq_true rfl) (fun x hl0 C T hin => ?_)
  unfold P_Sg_new at hr
  show GG x 0 0 h 0 [(0, .ref p0)] []
  refine g_aload_n C 0 rfl d_Sg_new_0 rfl ?_
  refine g_objInit C kw_13 kw_oi kw_oc (by decide) (Nat.le_of_ble_eq_true rfl) d_Sg_new_1 ?_
  refine g_aload_n C 0 rfl d_Sg_new_4 rfl ?_
  refine g_bipush (v := 33) C d_Sg_new_5 (by decide) ?_
  obtain ⟨h1, eh1⟩ : ∃ z, z = h ++ [pB 33 (fun _ => 0)] := ⟨_, rfl⟩
  have hr := of_lt eh1 hr
  obtain ⟨k2, ek2⟩ : ∃ z, z = h.length := ⟨_, rfl⟩
  have hr := of_lt ek2 hr
  refine g_newBE (n' := 33) C eh1 ek2 (by decide) (by decide) (by decide) (by decide) (by decide) d_Sg_new_7 ?_
  obtain ⟨h3, eh3, hr⟩ := of_bnd hr
  refine g_putF C fp_Sg_9 hin rfl eh3 (fun _ => rfl) (fun _ => rfl) d_Sg_new_9 ?_
  refine g_aload_n C 0 rfl d_Sg_new_12 rfl ?_
  refine g_bipush (v := 33) C d_Sg_new_13 (by decide) ?_
  obtain ⟨h4, eh4⟩ : ∃ z, z = h3 ++ [pB 33 (fun _ => 0)] := ⟨_, rfl⟩
  have hr := of_lt eh4 hr
  obtain ⟨k5, ek5⟩ : ∃ z, z = h3.length := ⟨_, rfl⟩
  have hr := of_lt ek5 hr
  refine g_newBE (n' := 33) C eh4 ek5 (by decide) (by decide) (by decide) (by decide) (by decide) d_Sg_new_15 ?_
  obtain ⟨h6, eh6, hr⟩ := of_bnd hr
  refine g_putF C fp_Sg_13 hin rfl eh6 (fun _ => rfl) (fun _ => rfl) d_Sg_new_17 ?_
  cases hr
  exact g_vreturn C T (by decide) (by decide) d_Sg_new_20
abbrev b_Sg_setZero : ByteArray := prog_8_method_2_code
abbrev y_Sg_setZero : MethodName := ⟨"PrimeKeys$Signature", "setZero", "()V"⟩
theorem d_Sg_setZero_0 : decode b_Sg_setZero 0 = .ok (.aload_n 0, 1) := by decide +kernel
theorem d_Sg_setZero_1 : decode b_Sg_setZero 1 = .ok (.getfield 9, 3) := by decide +kernel
theorem d_Sg_setZero_4 : decode b_Sg_setZero 4 = .ok (.iconst 0, 1) := by decide +kernel
theorem d_Sg_setZero_5 : decode b_Sg_setZero 5 = .ok (.invokestatic 16, 3) := by decide +kernel
theorem d_Sg_setZero_8 : decode b_Sg_setZero 8 = .ok (.aload_n 0, 1) := by decide +kernel
theorem d_Sg_setZero_9 : decode b_Sg_setZero 9 = .ok (.getfield 13, 3) := by decide +kernel
theorem d_Sg_setZero_12 : decode b_Sg_setZero 12 = .ok (.iconst 0, 1) := by decide +kernel
theorem d_Sg_setZero_13 : decode b_Sg_setZero 13 = .ok (.invokestatic 16, 3) := by decide +kernel
theorem d_Sg_setZero_16 : decode b_Sg_setZero 16 = .ok (.return_, 1) := by decide +kernel
theorem fl_Sg_9 : FL "PrimeKeys$Signature" 9 5 0 := ⟨R_Sg, F_Sg, 2, rfl, u_Sg, by decide, rfl, tb_2 (List.mem_of_getElem? (i := 92) (by decide +kernel)) rfl⟩
theorem fl_Sg_13 : FL "PrimeKeys$Signature" 13 5 1 := ⟨R_Sg, F_Sg, 2, rfl, u_Sg, by decide, rfl, tb_2 (List.mem_of_getElem? (i := 94) (by decide +kernel)) rfl⟩
theorem cd_Sg_16 : CD "PrimeKeys$Signature" 16 y_Ar_fill_B b_Ar_fill_B 4 none 2 := ⟨tb_3 (List.mem_of_getElem? (i := 180) rfl) rfl, tb_1 (List.mem_of_getElem? (i := 7) (by decide +kernel)) rfl, tb_3 (List.mem_of_getElem? (i := 201) (by decide +kernel)) rfl, by decide +kernel⟩
abbrev rm_Sg_setZero : Room := { frames := 1, cells := 0, slots := 0, locals := 23 }
def P_Sg_setZero (h : HP) (p0 : Nat) : Option (HP) :=
  bnd (gR h p0 5 0) fun k1 =>
  bnd (P_Ar_fill_B h k1 0) fun h2 =>
  bnd (gR h2 p0 5 1) fun k3 =>
  bnd (P_Ar_fill_B h2 k3 0) fun h4 =>
  some h4
set_option maxHeartbeats 4000000 in
set_option maxRecDepth 100000 in
theorem c_Sg_setZero {l : Launch} {h h' : HP} {p0 : _} (hr : P_Sg_setZero h p0 = some h') : MP l y_Sg_setZero (Cond.code y_Sg_setZero b_Sg_setZero 1 none :: TB) rm_Sg_setZero h [.ref p0] none h' := by
  refine MP_intro (cc := b_Sg_setZero) (by decide) (Nat.le_of_ble_eq_true rfl) (fun x hl0 C T hin => ?_)
  unfold P_Sg_setZero at hr
  show GG x 0 0 h 0 [(0, .ref p0)] []
  refine g_aload_n C 0 rfl d_Sg_setZero_0 rfl ?_
  obtain ⟨k1, ek1, hr⟩ := of_bnd hr
  refine g_getR C fl_Sg_9 ek1 d_Sg_setZero_1 ?_
  refine g_iconst (v := 0) C d_Sg_setZero_4 (by decide) ?_
  obtain ⟨h2, eh2, hr⟩ := of_bnd hr
  refine g_callS (pa := [.ref k1, .int 0]) C hl0 (c_Ar_fill_B eh2) cd_Sg_16 kw_st_Ar_fill_B (by decide) rfl rfl (Nat.le_of_ble_eq_true rfl) d_Sg_setZero_5 ?_
  refine g_aload_n C 0 rfl d_Sg_setZero_8 rfl ?_
  obtain ⟨k3, ek3, hr⟩ := of_bnd hr
  refine g_getR C fl_Sg_13 ek3 d_Sg_setZero_9 ?_
  refine g_iconst (v := 0) C d_Sg_setZero_12 (by decide) ?_
  obtain ⟨h4, eh4, hr⟩ := of_bnd hr
  refine g_callS (pa := [.ref k3, .int 0]) C hl0 (c_Ar_fill_B eh4) cd_Sg_16 kw_st_Ar_fill_B (by decide) rfl rfl (Nat.le_of_ble_eq_true rfl) d_Sg_setZero_13 ?_
  cases hr
  exact g_vreturn C T (by decide) (by decide) d_Sg_setZero_16
abbrev b_Sg_fits : ByteArray := prog_8_method_3_code
abbrev y_Sg_fits : MethodName := ⟨"PrimeKeys$Signature", "fits", "()Z"⟩
theorem d_Sg_fits_0 : decode b_Sg_fits 0 = .ok (.aload_n 0, 1) := by decide +kernel
theorem d_Sg_fits_1 : decode b_Sg_fits 1 = .ok (.getfield 9, 3) := by decide +kernel
theorem d_Sg_fits_4 : decode b_Sg_fits 4 = .ok (.iconst 0, 1) := by decide +kernel
theorem d_Sg_fits_5 : decode b_Sg_fits 5 = .ok (.baload, 1) := by decide +kernel
theorem d_Sg_fits_6 : decode b_Sg_fits 6 = .ok (.ifCond .ne 16, 3) := by decide +kernel
theorem d_Sg_fits_9 : decode b_Sg_fits 9 = .ok (.aload_n 0, 1) := by decide +kernel
theorem d_Sg_fits_10 : decode b_Sg_fits 10 = .ok (.getfield 13, 3) := by decide +kernel
theorem d_Sg_fits_13 : decode b_Sg_fits 13 = .ok (.iconst 0, 1) := by decide +kernel
theorem d_Sg_fits_14 : decode b_Sg_fits 14 = .ok (.baload, 1) := by decide +kernel
theorem d_Sg_fits_15 : decode b_Sg_fits 15 = .ok (.ifCond .ne 7, 3) := by decide +kernel
theorem d_Sg_fits_18 : decode b_Sg_fits 18 = .ok (.iconst 1, 1) := by decide +kernel
theorem d_Sg_fits_19 : decode b_Sg_fits 19 = .ok (.goto 4, 3) := by decide +kernel
theorem d_Sg_fits_22 : decode b_Sg_fits 22 = .ok (.iconst 0, 1) := by decide +kernel
theorem d_Sg_fits_23 : decode b_Sg_fits 23 = .ok (.ireturn, 1) := by decide +kernel
abbrev rm_Sg_fits : Room := { frames := 0, cells := 0, slots := 0, locals := 0 }
def B_Sg_fits_22 (h : HP) : Option (Int32 × HP) :=
  some (0, h)
set_option maxHeartbeats 4000000 in
set_option maxRecDepth 100000 in
theorem bk_Sg_fits_22 {l : Launch} {x : CX} {h0 h' : HP} {r' : Int32} (C : EV x b_Sg_fits "PrimeKeys$Signature" 1 rm_Sg_fits) (T : CT x (some .boolean) rm_Sg_fits h0 (some (.int r')) h') (hl0 : x.1.2.1 = l) (h : HP) (hr : B_Sg_fits_22 h = some (r', h')) : GG x 0 0 h 22 [] [] := by
  unfold B_Sg_fits_22 at hr
  refine g_iconst (v := 0) C d_Sg_fits_22 (by decide) ?_
  cases hr
  exact g_ireturn C T rfl (by decide) (by decide) d_Sg_fits_23
def P_Sg_fits (h : HP) (p0 : Nat) : Option (Int32 × HP) :=
  bnd (gR h p0 5 0) fun k1 =>
  bnd (ldB h k1 0) fun v2 =>
  if v2 = 0 then
  bnd (gR h p0 5 1) fun k3 =>
  bnd (ldB h k3 0) fun v4 =>
  if v4 = 0 then
  some (1, h)
  else
  B_Sg_fits_22 h
  else
  B_Sg_fits_22 h
set_option maxHeartbeats 4000000 in
set_option maxRecDepth 100000 in
theorem c_Sg_fits {l : Launch} {h h' : HP} {p0 : _} {r' : Int32} (hr : P_Sg_fits h p0 = some (r', h')) : MP l y_Sg_fits (Cond.code y_Sg_fits b_Sg_fits 1 (some .boolean) :: TB) rm_Sg_fits h [.ref p0] (some (.int r')) h' := by
  refine MP_intro (cc := b_Sg_fits) (by decide) (Nat.le_of_ble_eq_true rfl) (fun x hl0 C T hin => ?_)
  unfold P_Sg_fits at hr
  show GG x 0 0 h 0 [(0, .ref p0)] []
  refine g_aload_n C 0 rfl d_Sg_fits_0 rfl ?_
  obtain ⟨k1, ek1, hr⟩ := of_bnd hr
  refine g_getR C fl_Sg_9 ek1 d_Sg_fits_1 ?_
  refine g_iconst (v := 0) C d_Sg_fits_4 (by decide) ?_
  obtain ⟨v2, ev2, hr⟩ := of_bnd hr
  refine g_baload C ev2 d_Sg_fits_5 ?_
  refine g_if_ne (tgt := 22) C d_Sg_fits_6 (by decide) (fun z => ?_) (fun z => ?_)
  · have hr := of_el z hr
    refine g_lv [] rfl ?_
    exact bk_Sg_fits_22 C T hl0 h hr
  · have hr := of_if z hr
    refine g_aload_n C 0 rfl d_Sg_fits_9 rfl ?_
    obtain ⟨k3, ek3, hr⟩ := of_bnd hr
    refine g_getR C fl_Sg_13 ek3 d_Sg_fits_10 ?_
    refine g_iconst (v := 0) C d_Sg_fits_13 (by decide) ?_
    obtain ⟨v4, ev4, hr⟩ := of_bnd hr
    refine g_baload C ev4 d_Sg_fits_14 ?_
    refine g_if_ne (tgt := 22) C d_Sg_fits_15 (by decide) (fun z => ?_) (fun z => ?_)
    · have hr := of_el z hr
      refine g_lv [] rfl ?_
      exact bk_Sg_fits_22 C T hl0 h hr
    · have hr := of_if z hr
      refine g_iconst (v := 1) C d_Sg_fits_18 (by decide) ?_
      refine g_goto (tgt := 23) C d_Sg_fits_19 (by decide) ?_
      cases hr
      exact g_ireturn C T rfl (by decide) (by decide) d_Sg_fits_23
abbrev b_Sg_readNumber : ByteArray := prog_8_method_6_code
abbrev y_Sg_readNumber : MethodName := ⟨"PrimeKeys$Signature", "readNumber", "([BII[B)I"⟩
theorem d_Sg_readNumber_0 : decode b_Sg_readNumber 0 = .ok (.iload_n 3, 1) := by decide +kernel
theorem d_Sg_readNumber_1 : decode b_Sg_readNumber 1 = .ok (.iload_n 2, 1) := by decide +kernel
theorem d_Sg_readNumber_2 : decode b_Sg_readNumber 2 = .ok (.isub, 1) := by decide +kernel
theorem d_Sg_readNumber_3 : decode b_Sg_readNumber 3 = .ok (.iconst 2, 1) := by decide +kernel
theorem d_Sg_readNumber_4 : decode b_Sg_readNumber 4 = .ok (.if_icmp .lt 10, 3) := by decide +kernel
theorem d_Sg_readNumber_7 : decode b_Sg_readNumber 7 = .ok (.aload_n 1, 1) := by decide +kernel
theorem d_Sg_readNumber_8 : decode b_Sg_readNumber 8 = .ok (.iload_n 2, 1) := by decide +kernel
theorem d_Sg_readNumber_9 : decode b_Sg_readNumber 9 = .ok (.baload, 1) := by decide +kernel
theorem d_Sg_readNumber_10 : decode b_Sg_readNumber 10 = .ok (.iconst 2, 1) := by decide +kernel
theorem d_Sg_readNumber_11 : decode b_Sg_readNumber 11 = .ok (.if_icmp .eq 5, 3) := by decide +kernel
theorem d_Sg_readNumber_14 : decode b_Sg_readNumber 14 = .ok (.iconst (-1), 1) := by decide +kernel
theorem d_Sg_readNumber_15 : decode b_Sg_readNumber 15 = .ok (.ireturn, 1) := by decide +kernel
theorem d_Sg_readNumber_16 : decode b_Sg_readNumber 16 = .ok (.aload_n 1, 1) := by decide +kernel
theorem d_Sg_readNumber_17 : decode b_Sg_readNumber 17 = .ok (.iload_n 2, 1) := by decide +kernel
theorem d_Sg_readNumber_18 : decode b_Sg_readNumber 18 = .ok (.iconst 1, 1) := by decide +kernel
theorem d_Sg_readNumber_19 : decode b_Sg_readNumber 19 = .ok (.iadd, 1) := by decide +kernel
theorem d_Sg_readNumber_20 : decode b_Sg_readNumber 20 = .ok (.baload, 1) := by decide +kernel
theorem d_Sg_readNumber_21 : decode b_Sg_readNumber 21 = .ok (.istore 5, 2) := by decide +kernel
theorem d_Sg_readNumber_23 : decode b_Sg_readNumber 23 = .ok (.iload_n 2, 1) := by decide +kernel
theorem d_Sg_readNumber_24 : decode b_Sg_readNumber 24 = .ok (.iconst 2, 1) := by decide +kernel
theorem d_Sg_readNumber_25 : decode b_Sg_readNumber 25 = .ok (.iadd, 1) := by decide +kernel
theorem d_Sg_readNumber_26 : decode b_Sg_readNumber 26 = .ok (.istore 6, 2) := by decide +kernel
theorem d_Sg_readNumber_28 : decode b_Sg_readNumber 28 = .ok (.iload 5, 2) := by decide +kernel
theorem d_Sg_readNumber_30 : decode b_Sg_readNumber 30 = .ok (.iconst 1, 1) := by decide +kernel
theorem d_Sg_readNumber_31 : decode b_Sg_readNumber 31 = .ok (.if_icmp .lt 26, 3) := by decide +kernel
theorem d_Sg_readNumber_34 : decode b_Sg_readNumber 34 = .ok (.iload 5, 2) := by decide +kernel
theorem d_Sg_readNumber_36 : decode b_Sg_readNumber 36 = .ok (.bipush 33, 2) := by decide +kernel
theorem d_Sg_readNumber_38 : decode b_Sg_readNumber 38 = .ok (.if_icmp .gt 19, 3) := by decide +kernel
theorem d_Sg_readNumber_41 : decode b_Sg_readNumber 41 = .ok (.iload 5, 2) := by decide +kernel
theorem d_Sg_readNumber_43 : decode b_Sg_readNumber 43 = .ok (.iload_n 3, 1) := by decide +kernel
theorem d_Sg_readNumber_44 : decode b_Sg_readNumber 44 = .ok (.iload 6, 2) := by decide +kernel
theorem d_Sg_readNumber_46 : decode b_Sg_readNumber 46 = .ok (.isub, 1) := by decide +kernel
theorem d_Sg_readNumber_47 : decode b_Sg_readNumber 47 = .ok (.if_icmp .gt 10, 3) := by decide +kernel
theorem d_Sg_readNumber_50 : decode b_Sg_readNumber 50 = .ok (.aload_n 1, 1) := by decide +kernel
theorem d_Sg_readNumber_51 : decode b_Sg_readNumber 51 = .ok (.iload 6, 2) := by decide +kernel
theorem d_Sg_readNumber_53 : decode b_Sg_readNumber 53 = .ok (.baload, 1) := by decide +kernel
theorem d_Sg_readNumber_54 : decode b_Sg_readNumber 54 = .ok (.ifCond .ge 5, 3) := by decide +kernel
theorem d_Sg_readNumber_57 : decode b_Sg_readNumber 57 = .ok (.iconst (-1), 1) := by decide +kernel
theorem d_Sg_readNumber_58 : decode b_Sg_readNumber 58 = .ok (.ireturn, 1) := by decide +kernel
theorem d_Sg_readNumber_59 : decode b_Sg_readNumber 59 = .ok (.aload_n 1, 1) := by decide +kernel
theorem d_Sg_readNumber_60 : decode b_Sg_readNumber 60 = .ok (.iload 6, 2) := by decide +kernel
theorem d_Sg_readNumber_62 : decode b_Sg_readNumber 62 = .ok (.baload, 1) := by decide +kernel
theorem d_Sg_readNumber_63 : decode b_Sg_readNumber 63 = .ok (.ifCond .ne 20, 3) := by decide +kernel
theorem d_Sg_readNumber_66 : decode b_Sg_readNumber 66 = .ok (.iload 5, 2) := by decide +kernel
theorem d_Sg_readNumber_68 : decode b_Sg_readNumber 68 = .ok (.iconst 1, 1) := by decide +kernel
theorem d_Sg_readNumber_69 : decode b_Sg_readNumber 69 = .ok (.if_icmp .le 14, 3) := by decide +kernel
theorem d_Sg_readNumber_72 : decode b_Sg_readNumber 72 = .ok (.aload_n 1, 1) := by decide +kernel
theorem d_Sg_readNumber_73 : decode b_Sg_readNumber 73 = .ok (.iload 6, 2) := by decide +kernel
theorem d_Sg_readNumber_75 : decode b_Sg_readNumber 75 = .ok (.iconst 1, 1) := by decide +kernel
theorem d_Sg_readNumber_76 : decode b_Sg_readNumber 76 = .ok (.iadd, 1) := by decide +kernel
theorem d_Sg_readNumber_77 : decode b_Sg_readNumber 77 = .ok (.baload, 1) := by decide +kernel
theorem d_Sg_readNumber_78 : decode b_Sg_readNumber 78 = .ok (.ifCond .lt 5, 3) := by decide +kernel
theorem d_Sg_readNumber_81 : decode b_Sg_readNumber 81 = .ok (.iconst (-1), 1) := by decide +kernel
theorem d_Sg_readNumber_82 : decode b_Sg_readNumber 82 = .ok (.ireturn, 1) := by decide +kernel
theorem d_Sg_readNumber_83 : decode b_Sg_readNumber 83 = .ok (.aload 4, 2) := by decide +kernel
theorem d_Sg_readNumber_85 : decode b_Sg_readNumber 85 = .ok (.iconst 0, 1) := by decide +kernel
theorem d_Sg_readNumber_86 : decode b_Sg_readNumber 86 = .ok (.invokestatic 16, 3) := by decide +kernel
theorem d_Sg_readNumber_89 : decode b_Sg_readNumber 89 = .ok (.aload_n 1, 1) := by decide +kernel
theorem d_Sg_readNumber_90 : decode b_Sg_readNumber 90 = .ok (.iload 6, 2) := by decide +kernel
theorem d_Sg_readNumber_92 : decode b_Sg_readNumber 92 = .ok (.aload 4, 2) := by decide +kernel
theorem d_Sg_readNumber_94 : decode b_Sg_readNumber 94 = .ok (.bipush 33, 2) := by decide +kernel
theorem d_Sg_readNumber_96 : decode b_Sg_readNumber 96 = .ok (.iload 5, 2) := by decide +kernel
theorem d_Sg_readNumber_98 : decode b_Sg_readNumber 98 = .ok (.isub, 1) := by decide +kernel
theorem d_Sg_readNumber_99 : decode b_Sg_readNumber 99 = .ok (.iload 5, 2) := by decide +kernel
theorem d_Sg_readNumber_101 : decode b_Sg_readNumber 101 = .ok (.invokestatic 30, 3) := by decide +kernel
theorem d_Sg_readNumber_104 : decode b_Sg_readNumber 104 = .ok (.iload 6, 2) := by decide +kernel
theorem d_Sg_readNumber_106 : decode b_Sg_readNumber 106 = .ok (.iload 5, 2) := by decide +kernel
theorem d_Sg_readNumber_108 : decode b_Sg_readNumber 108 = .ok (.iadd, 1) := by decide +kernel
theorem d_Sg_readNumber_109 : decode b_Sg_readNumber 109 = .ok (.ireturn, 1) := by decide +kernel
theorem kw_14 : Cond.methodLink "PrimeKeys$Signature" 30 arraycopyName ∈ TB := tb_3 (List.mem_of_getElem? (i := 234) (by decide +kernel)) rfl
abbrev rm_Sg_readNumber : Room := { frames := 1, cells := 0, slots := 0, locals := 26 }
def B_Sg_readNumber_14 (h : HP) : Option (Int32 × HP) :=
  some ((-1), h)
set_option maxHeartbeats 4000000 in
set_option maxRecDepth 100000 in
theorem bk_Sg_readNumber_14 {l : Launch} {x : CX} {h0 h' : HP} {r' : Int32} (C : EV x b_Sg_readNumber "PrimeKeys$Signature" 7 rm_Sg_readNumber) (T : CT x (some .int) rm_Sg_readNumber h0 (some (.int r')) h') (hl0 : x.1.2.1 = l) (h : HP) (hr : B_Sg_readNumber_14 h = some (r', h')) : GG x 0 0 h 14 [] [] := by
  unfold B_Sg_readNumber_14 at hr
  refine g_iconst (v := (-1)) C d_Sg_readNumber_14 (by decide) ?_
  cases hr
  exact g_ireturn C T rfl (by decide) (by decide) d_Sg_readNumber_15
def B_Sg_readNumber_57 (h : HP) : Option (Int32 × HP) :=
  some ((-1), h)
set_option maxHeartbeats 4000000 in
set_option maxRecDepth 100000 in
theorem bk_Sg_readNumber_57 {l : Launch} {x : CX} {h0 h' : HP} {r' : Int32} (C : EV x b_Sg_readNumber "PrimeKeys$Signature" 7 rm_Sg_readNumber) (T : CT x (some .int) rm_Sg_readNumber h0 (some (.int r')) h') (hl0 : x.1.2.1 = l) (h : HP) (hr : B_Sg_readNumber_57 h = some (r', h')) : GG x 0 0 h 57 [] [] := by
  unfold B_Sg_readNumber_57 at hr
  refine g_iconst (v := (-1)) C d_Sg_readNumber_57 (by decide) ?_
  cases hr
  exact g_ireturn C T rfl (by decide) (by decide) d_Sg_readNumber_58
def B_Sg_readNumber_83 (h : HP) (a1 : Nat) (a4 : Nat) (a5 : Int32) (a6 : Int32) : Option (Int32 × HP) :=
  bnd (P_Ar_fill_B h a4 0) fun h6 =>
  bnd (cpB h6 a1 a6 a4 (33 - a5) a5) fun h7 =>
  some (a6 + a5, h7)
set_option maxHeartbeats 4000000 in
set_option maxRecDepth 100000 in
theorem bk_Sg_readNumber_83 {l : Launch} {x : CX} {h0 h' : HP} {r' : Int32} (C : EV x b_Sg_readNumber "PrimeKeys$Signature" 7 rm_Sg_readNumber) (T : CT x (some .int) rm_Sg_readNumber h0 (some (.int r')) h') (hl0 : x.1.2.1 = l) (h : HP) (a1 : Nat) (a4 : Nat) (a5 : Int32) (a6 : Int32) (hr : B_Sg_readNumber_83 h a1 a4 a5 a6 = some (r', h')) : GG x 0 0 h 83 [(1, .ref a1), (4, .ref a4), (5, .int a5), (6, .int a6)] [] := by
  unfold B_Sg_readNumber_83 at hr
  refine g_aload C 1 rfl d_Sg_readNumber_83 ?_
  refine g_iconst (v := 0) C d_Sg_readNumber_85 (by decide) ?_
  obtain ⟨h6, eh6, hr⟩ := of_bnd hr
  refine g_callS (pa := [.ref a4, .int 0]) C hl0 (c_Ar_fill_B eh6) cd_Sg_16 kw_st_Ar_fill_B (by decide) rfl rfl (Nat.le_of_ble_eq_true rfl) d_Sg_readNumber_86 ?_
  refine g_aload_n C 0 rfl d_Sg_readNumber_89 rfl ?_
  refine g_iload C 3 rfl d_Sg_readNumber_90 ?_
  refine g_aload C 1 rfl d_Sg_readNumber_92 ?_
  refine g_bipush (v := 33) C d_Sg_readNumber_94 (by decide) ?_
  refine g_iload C 2 rfl d_Sg_readNumber_96 ?_
  refine g_isub C d_Sg_readNumber_98 ?_
  refine g_iload C 2 rfl d_Sg_readNumber_99 ?_
  obtain ⟨h7, eh7, hr⟩ := of_bnd hr
  refine g_copyB C eh7 kw_14 (Nat.le_of_ble_eq_true rfl) (Nat.le_of_ble_eq_true rfl) d_Sg_readNumber_101 ?_
  refine g_iload C 3 rfl d_Sg_readNumber_104 ?_
  refine g_iload C 2 rfl d_Sg_readNumber_106 ?_
  refine g_iadd C d_Sg_readNumber_108 ?_
  cases hr
  exact g_ireturn C T rfl (by decide) (by decide) d_Sg_readNumber_109
def P_Sg_readNumber (h : HP) (p0 : Nat) (p1 : Nat) (p2 : Int32) (p3 : Int32) (p4 : Nat) : Option (Int32 × HP) :=
  if p3 - p2 < 2 then
  B_Sg_readNumber_14 h
  else
  bnd (ldB h p1 p2) fun v1 =>
  if v1 = 2 then
  bnd (ldB h p1 (p2 + 1)) fun v2 =>
  lt (p2 + 2) fun x3 =>
  if v2 < 1 then
  B_Sg_readNumber_57 h
  else
  if 33 < v2 then
  B_Sg_readNumber_57 h
  else
  if p3 - x3 < v2 then
  B_Sg_readNumber_57 h
  else
  bnd (ldB h p1 x3) fun v4 =>
  if 0 ≤ v4 then
  bnd (ldB h p1 x3) fun v5 =>
  if v5 = 0 then
  if v2 ≤ 1 then
  B_Sg_readNumber_83 h p1 p4 v2 x3
  else
  bnd (ldB h p1 (x3 + 1)) fun v8 =>
  if v8 < 0 then
  B_Sg_readNumber_83 h p1 p4 v2 x3
  else
  some ((-1), h)
  else
  B_Sg_readNumber_83 h p1 p4 v2 x3
  else
  B_Sg_readNumber_57 h
  else
  B_Sg_readNumber_14 h
set_option maxHeartbeats 4000000 in
set_option maxRecDepth 100000 in
theorem c_Sg_readNumber {l : Launch} {h h' : HP} {p0 p1 p2 p3 p4 : _} {r' : Int32} (hr : P_Sg_readNumber h p0 p1 p2 p3 p4 = some (r', h')) : MP l y_Sg_readNumber (Cond.code y_Sg_readNumber b_Sg_readNumber 7 (some .int) :: TB) rm_Sg_readNumber h [.ref p0, .ref p1, .int p2, .int p3, .ref p4] (some (.int r')) h' := by
  refine MP_intro (cc := b_Sg_readNumber) (by decide) (Nat.le_of_ble_eq_true rfl) (fun x hl0 C T hin => ?_)
  unfold P_Sg_readNumber at hr
  show GG x 0 0 h 0 [(0, .ref p0), (1, .ref p1), (2, .int p2), (3, .int p3), (4, .ref p4)] []
  refine g_iload_n C 3 rfl d_Sg_readNumber_0 rfl ?_
  refine g_iload_n C 2 rfl d_Sg_readNumber_1 rfl ?_
  refine g_isub C d_Sg_readNumber_2 ?_
  refine g_iconst (v := 2) C d_Sg_readNumber_3 (by decide) ?_
  refine g_icmp_lt (tgt := 14) C d_Sg_readNumber_4 (by decide) (fun z => ?_) (fun z => ?_)
  · have hr := of_if z hr
    refine g_lv [] rfl ?_
    exact bk_Sg_readNumber_14 C T hl0 h hr
  · have hr := of_el z hr
    refine g_aload_n C 1 rfl d_Sg_readNumber_7 rfl ?_
    refine g_iload_n C 2 rfl d_Sg_readNumber_8 rfl ?_
    obtain ⟨v1, ev1, hr⟩ := of_bnd hr
    refine g_baload C ev1 d_Sg_readNumber_9 ?_
    refine g_iconst (v := 2) C d_Sg_readNumber_10 (by decide) ?_
    refine g_icmp_eq (tgt := 16) C d_Sg_readNumber_11 (by decide) (fun z => ?_) (fun z => ?_)
    · have hr := of_if z hr
      refine g_aload_n C 1 rfl d_Sg_readNumber_16 rfl ?_
      refine g_iload_n C 2 rfl d_Sg_readNumber_17 rfl ?_
      refine g_iconst (v := 1) C d_Sg_readNumber_18 (by decide) ?_
      refine g_iadd C d_Sg_readNumber_19 ?_
      obtain ⟨v2, ev2, hr⟩ := of_bnd hr
      refine g_baload C ev2 d_Sg_readNumber_20 ?_
      refine g_istore (lv' := [(5, .int v2), (0, .ref p0), (1, .ref p1), (2, .int p2), (3, .int p3), (4, .ref p4)]) C d_Sg_readNumber_21 (by decide) rfl ?_
      refine g_iload_n C 3 rfl d_Sg_readNumber_23 rfl ?_
      refine g_iconst (v := 2) C d_Sg_readNumber_24 (by decide) ?_
      refine g_iadd C d_Sg_readNumber_25 ?_
      refine g_topi (fun x3 ex3 => ?_)
      have hr := of_lt ex3 hr
      refine g_istore (lv' := [(6, .int x3), (5, .int v2), (0, .ref p0), (1, .ref p1), (2, .int p2), (3, .int p3), (4, .ref p4)]) C d_Sg_readNumber_26 (by decide) rfl ?_
      refine g_iload C 1 rfl d_Sg_readNumber_28 ?_
      refine g_iconst (v := 1) C d_Sg_readNumber_30 (by decide) ?_
      refine g_icmp_lt (tgt := 57) C d_Sg_readNumber_31 (by decide) (fun z => ?_) (fun z => ?_)
      · have hr := of_if z hr
        refine g_lv [] rfl ?_
        exact bk_Sg_readNumber_57 C T hl0 h hr
      · have hr := of_el z hr
        refine g_iload C 1 rfl d_Sg_readNumber_34 ?_
        refine g_bipush (v := 33) C d_Sg_readNumber_36 (by decide) ?_
        refine g_icmp_gt (tgt := 57) C d_Sg_readNumber_38 (by decide) (fun z => ?_) (fun z => ?_)
        · have hr := of_if z hr
          refine g_lv [] rfl ?_
          exact bk_Sg_readNumber_57 C T hl0 h hr
        · have hr := of_el z hr
          refine g_iload C 1 rfl d_Sg_readNumber_41 ?_
          refine g_iload_n C 5 rfl d_Sg_readNumber_43 rfl ?_
          refine g_iload C 0 rfl d_Sg_readNumber_44 ?_
          refine g_isub C d_Sg_readNumber_46 ?_
          refine g_icmp_gt (tgt := 57) C d_Sg_readNumber_47 (by decide) (fun z => ?_) (fun z => ?_)
          · have hr := of_if z hr
            refine g_lv [] rfl ?_
            exact bk_Sg_readNumber_57 C T hl0 h hr
          · have hr := of_el z hr
            refine g_aload_n C 3 rfl d_Sg_readNumber_50 rfl ?_
            refine g_iload C 0 rfl d_Sg_readNumber_51 ?_
            obtain ⟨v4, ev4, hr⟩ := of_bnd hr
            refine g_baload C ev4 d_Sg_readNumber_53 ?_
            refine g_if_ge (tgt := 59) C d_Sg_readNumber_54 (by decide) (fun z => ?_) (fun z => ?_)
            · have hr := of_if z hr
              refine g_aload_n C 3 rfl d_Sg_readNumber_59 rfl ?_
              refine g_iload C 0 rfl d_Sg_readNumber_60 ?_
              obtain ⟨v5, ev5, hr⟩ := of_bnd hr
              refine g_baload C ev5 d_Sg_readNumber_62 ?_
              refine g_if_ne (tgt := 83) C d_Sg_readNumber_63 (by decide) (fun z => ?_) (fun z => ?_)
              · have hr := of_el z hr
                refine g_lv [3, 6, 1, 0] rfl ?_
                exact bk_Sg_readNumber_83 C T hl0 h p1 p4 v2 x3 hr
              · have hr := of_if z hr
                refine g_iload C 1 rfl d_Sg_readNumber_66 ?_
                refine g_iconst (v := 1) C d_Sg_readNumber_68 (by decide) ?_
                refine g_icmp_le (tgt := 83) C d_Sg_readNumber_69 (by decide) (fun z => ?_) (fun z => ?_)
                · have hr := of_if z hr
                  refine g_lv [3, 6, 1, 0] rfl ?_
                  exact bk_Sg_readNumber_83 C T hl0 h p1 p4 v2 x3 hr
                · have hr := of_el z hr
                  refine g_aload_n C 3 rfl d_Sg_readNumber_72 rfl ?_
                  refine g_iload C 0 rfl d_Sg_readNumber_73 ?_
                  refine g_iconst (v := 1) C d_Sg_readNumber_75 (by decide) ?_
                  refine g_iadd C d_Sg_readNumber_76 ?_
                  obtain ⟨v8, ev8, hr⟩ := of_bnd hr
                  refine g_baload C ev8 d_Sg_readNumber_77 ?_
                  refine g_if_lt (tgt := 83) C d_Sg_readNumber_78 (by decide) (fun z => ?_) (fun z => ?_)
                  · have hr := of_if z hr
                    refine g_lv [3, 6, 1, 0] rfl ?_
                    exact bk_Sg_readNumber_83 C T hl0 h p1 p4 v2 x3 hr
                  · have hr := of_el z hr
                    refine g_iconst (v := (-1)) C d_Sg_readNumber_81 (by decide) ?_
                    cases hr
                    exact g_ireturn C T rfl (by decide) (by decide) d_Sg_readNumber_82
            · have hr := of_el z hr
              refine g_lv [] rfl ?_
              exact bk_Sg_readNumber_57 C T hl0 h hr
    · have hr := of_el z hr
      refine g_lv [] rfl ?_
      exact bk_Sg_readNumber_14 C T hl0 h hr
abbrev b_Sg_read : ByteArray := prog_8_method_4_code
abbrev y_Sg_read : MethodName := ⟨"PrimeKeys$Signature", "read", "([BII)Z"⟩
theorem d_Sg_read_0 : decode b_Sg_read 0 = .ok (.iload_n 3, 1) := by decide +kernel
theorem d_Sg_read_1 : decode b_Sg_read 1 = .ok (.iload_n 2, 1) := by decide +kernel
theorem d_Sg_read_2 : decode b_Sg_read 2 = .ok (.isub, 1) := by decide +kernel
theorem d_Sg_read_3 : decode b_Sg_read 3 = .ok (.iconst 2, 1) := by decide +kernel
theorem d_Sg_read_4 : decode b_Sg_read 4 = .ok (.isub, 1) := by decide +kernel
theorem d_Sg_read_5 : decode b_Sg_read 5 = .ok (.istore 4, 2) := by decide +kernel
theorem d_Sg_read_7 : decode b_Sg_read 7 = .ok (.iload 4, 2) := by decide +kernel
theorem d_Sg_read_9 : decode b_Sg_read 9 = .ok (.ifCond .lt 29, 3) := by decide +kernel
theorem d_Sg_read_12 : decode b_Sg_read 12 = .ok (.iload 4, 2) := by decide +kernel
theorem d_Sg_read_14 : decode b_Sg_read 14 = .ok (.sipush 128, 3) := by decide +kernel
theorem d_Sg_read_17 : decode b_Sg_read 17 = .ok (.if_icmp .ge 21, 3) := by decide +kernel
theorem d_Sg_read_20 : decode b_Sg_read 20 = .ok (.aload_n 1, 1) := by decide +kernel
theorem d_Sg_read_21 : decode b_Sg_read 21 = .ok (.iload_n 2, 1) := by decide +kernel
theorem d_Sg_read_22 : decode b_Sg_read 22 = .ok (.baload, 1) := by decide +kernel
theorem d_Sg_read_23 : decode b_Sg_read 23 = .ok (.bipush 48, 2) := by decide +kernel
theorem d_Sg_read_25 : decode b_Sg_read 25 = .ok (.if_icmp .ne 13, 3) := by decide +kernel
theorem d_Sg_read_28 : decode b_Sg_read 28 = .ok (.aload_n 1, 1) := by decide +kernel
theorem d_Sg_read_29 : decode b_Sg_read 29 = .ok (.iload_n 2, 1) := by decide +kernel
theorem d_Sg_read_30 : decode b_Sg_read 30 = .ok (.iconst 1, 1) := by decide +kernel
theorem d_Sg_read_31 : decode b_Sg_read 31 = .ok (.iadd, 1) := by decide +kernel
theorem d_Sg_read_32 : decode b_Sg_read 32 = .ok (.baload, 1) := by decide +kernel
theorem d_Sg_read_33 : decode b_Sg_read 33 = .ok (.iload 4, 2) := by decide +kernel
theorem d_Sg_read_35 : decode b_Sg_read 35 = .ok (.if_icmp .eq 5, 3) := by decide +kernel
theorem d_Sg_read_38 : decode b_Sg_read 38 = .ok (.iconst 0, 1) := by decide +kernel
theorem d_Sg_read_39 : decode b_Sg_read 39 = .ok (.ireturn, 1) := by decide +kernel
theorem d_Sg_read_40 : decode b_Sg_read 40 = .ok (.aload_n 0, 1) := by decide +kernel
theorem d_Sg_read_41 : decode b_Sg_read 41 = .ok (.aload_n 1, 1) := by decide +kernel
theorem d_Sg_read_42 : decode b_Sg_read 42 = .ok (.iload_n 2, 1) := by decide +kernel
theorem d_Sg_read_43 : decode b_Sg_read 43 = .ok (.iconst 2, 1) := by decide +kernel
theorem d_Sg_read_44 : decode b_Sg_read 44 = .ok (.iadd, 1) := by decide +kernel
theorem d_Sg_read_45 : decode b_Sg_read 45 = .ok (.iload_n 3, 1) := by decide +kernel
theorem d_Sg_read_46 : decode b_Sg_read 46 = .ok (.aload_n 0, 1) := by decide +kernel
theorem d_Sg_read_47 : decode b_Sg_read 47 = .ok (.getfield 9, 3) := by decide +kernel
theorem d_Sg_read_50 : decode b_Sg_read 50 = .ok (.invokevirtual 22, 3) := by decide +kernel
theorem d_Sg_read_53 : decode b_Sg_read 53 = .ok (.istore 5, 2) := by decide +kernel
theorem d_Sg_read_55 : decode b_Sg_read 55 = .ok (.iload 5, 2) := by decide +kernel
theorem d_Sg_read_57 : decode b_Sg_read 57 = .ok (.ifCond .lt 23, 3) := by decide +kernel
theorem d_Sg_read_60 : decode b_Sg_read 60 = .ok (.aload_n 0, 1) := by decide +kernel
theorem d_Sg_read_61 : decode b_Sg_read 61 = .ok (.aload_n 1, 1) := by decide +kernel
theorem d_Sg_read_62 : decode b_Sg_read 62 = .ok (.iload 5, 2) := by decide +kernel
theorem d_Sg_read_64 : decode b_Sg_read 64 = .ok (.iload_n 3, 1) := by decide +kernel
theorem d_Sg_read_65 : decode b_Sg_read 65 = .ok (.aload_n 0, 1) := by decide +kernel
theorem d_Sg_read_66 : decode b_Sg_read 66 = .ok (.getfield 13, 3) := by decide +kernel
theorem d_Sg_read_69 : decode b_Sg_read 69 = .ok (.invokevirtual 22, 3) := by decide +kernel
theorem d_Sg_read_72 : decode b_Sg_read 72 = .ok (.iload_n 3, 1) := by decide +kernel
theorem d_Sg_read_73 : decode b_Sg_read 73 = .ok (.if_icmp .ne 7, 3) := by decide +kernel
theorem d_Sg_read_76 : decode b_Sg_read 76 = .ok (.iconst 1, 1) := by decide +kernel
theorem d_Sg_read_77 : decode b_Sg_read 77 = .ok (.goto 4, 3) := by decide +kernel
theorem d_Sg_read_80 : decode b_Sg_read 80 = .ok (.iconst 0, 1) := by decide +kernel
theorem d_Sg_read_81 : decode b_Sg_read 81 = .ok (.ireturn, 1) := by decide +kernel
theorem cd_Sg_22 : CD "PrimeKeys$Signature" 22 y_Sg_readNumber b_Sg_readNumber 7 (some .int) 4 := ⟨tb_4 (List.mem_of_getElem? (i := 9) rfl) rfl, tb_1 (List.mem_of_getElem? (i := 12) (by decide +kernel)) rfl, tb_4 (List.mem_of_getElem? (i := 6) (by decide +kernel)) rfl, by decide +kernel⟩
theorem kw_in_Sg_readNumber : Cond.instanceMethod y_Sg_readNumber ∈ TB := tb_4 (List.mem_of_getElem? (i := 8) (by decide +kernel)) rfl
theorem kw_se_Sg_readNumber : Cond.selects "PrimeKeys$Signature" y_Sg_readNumber y_Sg_readNumber ∈ TB := tb_p (q := (y_Sg_readNumber, 2)) (by decide +kernel)
abbrev rm_Sg_read : Room := { frames := 2, cells := 0, slots := 0, locals := 52 }
def B_Sg_read_38 (h : HP) : Option (Int32 × HP) :=
  some (0, h)
set_option maxHeartbeats 4000000 in
set_option maxRecDepth 100000 in
theorem bk_Sg_read_38 {l : Launch} {x : CX} {h0 h' : HP} {r' : Int32} (C : EV x b_Sg_read "PrimeKeys$Signature" 6 rm_Sg_read) (T : CT x (some .boolean) rm_Sg_read h0 (some (.int r')) h') (hl0 : x.1.2.1 = l) (h : HP) (hr : B_Sg_read_38 h = some (r', h')) : GG x 0 0 h 38 [] [] := by
  unfold B_Sg_read_38 at hr
  refine g_iconst (v := 0) C d_Sg_read_38 (by decide) ?_
  cases hr
  exact g_ireturn C T rfl (by decide) (by decide) d_Sg_read_39
def B_Sg_read_80 (h : HP) : Option (Int32 × HP) :=
  some (0, h)
set_option maxHeartbeats 4000000 in
set_option maxRecDepth 100000 in
theorem bk_Sg_read_80 {l : Launch} {x : CX} {h0 h' : HP} {r' : Int32} (C : EV x b_Sg_read "PrimeKeys$Signature" 6 rm_Sg_read) (T : CT x (some .boolean) rm_Sg_read h0 (some (.int r')) h') (hl0 : x.1.2.1 = l) (h : HP) (hr : B_Sg_read_80 h = some (r', h')) : GG x 0 0 h 80 [] [] := by
  unfold B_Sg_read_80 at hr
  refine g_iconst (v := 0) C d_Sg_read_80 (by decide) ?_
  cases hr
  exact g_ireturn C T rfl (by decide) (by decide) d_Sg_read_81
def P_Sg_read (h : HP) (p0 : Nat) (p1 : Nat) (p2 : Int32) (p3 : Int32) : Option (Int32 × HP) :=
  lt ((p3 - p2) - 2) fun x1 =>
  if x1 < 0 then
  B_Sg_read_38 h
  else
  if 128 ≤ x1 then
  B_Sg_read_38 h
  else
  bnd (ldB h p1 p2) fun v2 =>
  if v2 = 48 then
  bnd (ldB h p1 (p2 + 1)) fun v3 =>
  if v3 = x1 then
  bnd (gR h p0 5 0) fun k4 =>
  ob h p0 5 (
  bnd2 (P_Sg_readNumber h p0 p1 (p2 + 2) p3 k4) fun v6 h5 =>
  if v6 < 0 then
  B_Sg_read_80 h5
  else
  bnd (gR h5 p0 5 1) fun k7 =>
  ob h5 p0 5 (
  bnd2 (P_Sg_readNumber h5 p0 p1 v6 p3 k7) fun v9 h8 =>
  if v9 = p3 then
  some (1, h8)
  else
  B_Sg_read_80 h8))
  else
  B_Sg_read_38 h
  else
  B_Sg_read_38 h
set_option maxHeartbeats 4000000 in
set_option maxRecDepth 100000 in
theorem c_Sg_read {l : Launch} {h h' : HP} {p0 p1 p2 p3 : _} {r' : Int32} (hr : P_Sg_read h p0 p1 p2 p3 = some (r', h')) : MP l y_Sg_read (Cond.code y_Sg_read b_Sg_read 6 (some .boolean) :: TB) rm_Sg_read h [.ref p0, .ref p1, .int p2, .int p3] (some (.int r')) h' := by
  refine MP_intro (cc := b_Sg_read) (by decide) (Nat.le_of_ble_eq_true rfl) (fun x hl0 C T hin => ?_)
  unfold P_Sg_read at hr
  show GG x 0 0 h 0 [(0, .ref p0), (1, .ref p1), (2, .int p2), (3, .int p3)] []
  refine g_iload_n C 3 rfl d_Sg_read_0 rfl ?_
  refine g_iload_n C 2 rfl d_Sg_read_1 rfl ?_
  refine g_isub C d_Sg_read_2 ?_
  refine g_iconst (v := 2) C d_Sg_read_3 (by decide) ?_
  refine g_isub C d_Sg_read_4 ?_
  refine g_topi (fun x1 ex1 => ?_)
  have hr := of_lt ex1 hr
  refine g_istore (lv' := [(4, .int x1), (0, .ref p0), (1, .ref p1), (2, .int p2), (3, .int p3)]) C d_Sg_read_5 (by decide) rfl ?_
  refine g_iload C 0 rfl d_Sg_read_7 ?_
  refine g_if_lt (tgt := 38) C d_Sg_read_9 (by decide) (fun z => ?_) (fun z => ?_)
  · have hr := of_if z hr
    refine g_lv [] rfl ?_
    exact bk_Sg_read_38 C T hl0 h hr
  · have hr := of_el z hr
    refine g_iload C 0 rfl d_Sg_read_12 ?_
    refine g_sipush (v := 128) C d_Sg_read_14 (by decide) ?_
    refine g_icmp_ge (tgt := 38) C d_Sg_read_17 (by decide) (fun z => ?_) (fun z => ?_)
    · have hr := of_if z hr
      refine g_lv [] rfl ?_
      exact bk_Sg_read_38 C T hl0 h hr
    · have hr := of_el z hr
      refine g_aload_n C 2 rfl d_Sg_read_20 rfl ?_
      refine g_iload_n C 3 rfl d_Sg_read_21 rfl ?_
      obtain ⟨v2, ev2, hr⟩ := of_bnd hr
      refine g_baload C ev2 d_Sg_read_22 ?_
      refine g_bipush (v := 48) C d_Sg_read_23 (by decide) ?_
      refine g_icmp_ne (tgt := 38) C d_Sg_read_25 (by decide) (fun z => ?_) (fun z => ?_)
      · have hr := of_el z hr
        refine g_lv [] rfl ?_
        exact bk_Sg_read_38 C T hl0 h hr
      · have hr := of_if z hr
        refine g_aload_n C 2 rfl d_Sg_read_28 rfl ?_
        refine g_iload_n C 3 rfl d_Sg_read_29 rfl ?_
        refine g_iconst (v := 1) C d_Sg_read_30 (by decide) ?_
        refine g_iadd C d_Sg_read_31 ?_
        obtain ⟨v3, ev3, hr⟩ := of_bnd hr
        refine g_baload C ev3 d_Sg_read_32 ?_
        refine g_iload C 0 rfl d_Sg_read_33 ?_
        refine g_icmp_eq (tgt := 40) C d_Sg_read_35 (by decide) (fun z => ?_) (fun z => ?_)
        · have hr := of_if z hr
          refine g_aload_n C 1 rfl d_Sg_read_40 rfl ?_
          refine g_aload_n C 2 rfl d_Sg_read_41 rfl ?_
          refine g_iload_n C 3 rfl d_Sg_read_42 rfl ?_
          refine g_iconst (v := 2) C d_Sg_read_43 (by decide) ?_
          refine g_iadd C d_Sg_read_44 ?_
          refine g_iload_n C 4 rfl d_Sg_read_45 rfl ?_
          refine g_aload_n C 1 rfl d_Sg_read_46 rfl ?_
          obtain ⟨k4, ek4, hr⟩ := of_bnd hr
          refine g_getR C fl_Sg_9 ek4 d_Sg_read_47 ?_
          obtain ⟨fsh5, hoh5, hr⟩ := of_ob hr
          obtain ⟨v6, h5, eh5, hr⟩ := of_bnd2 hr
          refine g_callV (pa := [.ref p1, .int (p2 + 2), .int p3, .ref k4]) C hl0 (c_Sg_readNumber eh5) cd_Sg_22 kw_in_Sg_readNumber kw_se_Sg_readNumber hoh5 rfl rfl (by decide) rfl rfl (Nat.le_of_ble_eq_true rfl) d_Sg_read_50 ?_
          refine g_istore (lv' := [(5, .int v6), (4, .int x1), (0, .ref p0), (1, .ref p1), (2, .int p2), (3, .int p3)]) C d_Sg_read_53 (by decide) rfl ?_
          refine g_iload C 0 rfl d_Sg_read_55 ?_
          refine g_if_lt (tgt := 80) C d_Sg_read_57 (by decide) (fun z => ?_) (fun z => ?_)
          · have hr := of_if z hr
            refine g_lv [] rfl ?_
            exact bk_Sg_read_80 C T hl0 h5 hr
          · have hr := of_el z hr
            refine g_aload_n C 2 rfl d_Sg_read_60 rfl ?_
            refine g_aload_n C 3 rfl d_Sg_read_61 rfl ?_
            refine g_iload C 0 rfl d_Sg_read_62 ?_
            refine g_iload_n C 5 rfl d_Sg_read_64 rfl ?_
            refine g_aload_n C 2 rfl d_Sg_read_65 rfl ?_
            obtain ⟨k7, ek7, hr⟩ := of_bnd hr
            refine g_getR C fl_Sg_13 ek7 d_Sg_read_66 ?_
            obtain ⟨fsh8, hoh8, hr⟩ := of_ob hr
            obtain ⟨v9, h8, eh8, hr⟩ := of_bnd2 hr
            refine g_callV (pa := [.ref p1, .int v6, .int p3, .ref k7]) C hl0 (c_Sg_readNumber eh8) cd_Sg_22 kw_in_Sg_readNumber kw_se_Sg_readNumber hoh8 rfl rfl (by decide) rfl rfl (Nat.le_of_ble_eq_true rfl) d_Sg_read_69 ?_
            refine g_iload_n C 5 rfl d_Sg_read_72 rfl ?_
            refine g_icmp_ne (tgt := 80) C d_Sg_read_73 (by decide) (fun z => ?_) (fun z => ?_)
            · have hr := of_el z hr
              refine g_lv [] rfl ?_
              exact bk_Sg_read_80 C T hl0 h8 hr
            · have hr := of_if z hr
              refine g_iconst (v := 1) C d_Sg_read_76 (by decide) ?_
              refine g_goto (tgt := 81) C d_Sg_read_77 (by decide) ?_
              cases hr
              exact g_ireturn C T rfl (by decide) (by decide) d_Sg_read_81
        · have hr := of_el z hr
          refine g_lv [] rfl ?_
          exact bk_Sg_read_38 C T hl0 h hr
abbrev b_Sg_writeNumber : ByteArray := prog_8_method_7_code
abbrev y_Sg_writeNumber : MethodName := ⟨"PrimeKeys$Signature", "writeNumber", "([B[BI)I"⟩
theorem d_Sg_writeNumber_0 : decode b_Sg_writeNumber 0 = .ok (.iconst 0, 1) := by decide +kernel
theorem d_Sg_writeNumber_1 : decode b_Sg_writeNumber 1 = .ok (.istore 4, 2) := by decide +kernel
theorem d_Sg_writeNumber_3 : decode b_Sg_writeNumber 3 = .ok (.iload 4, 2) := by decide +kernel
theorem d_Sg_writeNumber_5 : decode b_Sg_writeNumber 5 = .ok (.bipush 32, 2) := by decide +kernel
theorem d_Sg_writeNumber_7 : decode b_Sg_writeNumber 7 = .ok (.if_icmp .ge 16, 3) := by decide +kernel
theorem d_Sg_writeNumber_10 : decode b_Sg_writeNumber 10 = .ok (.aload_n 1, 1) := by decide +kernel
theorem d_Sg_writeNumber_11 : decode b_Sg_writeNumber 11 = .ok (.iload 4, 2) := by decide +kernel
theorem d_Sg_writeNumber_13 : decode b_Sg_writeNumber 13 = .ok (.baload, 1) := by decide +kernel
theorem d_Sg_writeNumber_14 : decode b_Sg_writeNumber 14 = .ok (.ifCond .ne 9, 3) := by decide +kernel
theorem d_Sg_writeNumber_17 : decode b_Sg_writeNumber 17 = .ok (.iinc 4 1, 3) := by decide +kernel
theorem d_Sg_writeNumber_20 : decode b_Sg_writeNumber 20 = .ok (.goto (-17), 3) := by decide +kernel
theorem d_Sg_writeNumber_23 : decode b_Sg_writeNumber 23 = .ok (.iload 4, 2) := by decide +kernel
theorem d_Sg_writeNumber_25 : decode b_Sg_writeNumber 25 = .ok (.ifCond .le 13, 3) := by decide +kernel
theorem d_Sg_writeNumber_28 : decode b_Sg_writeNumber 28 = .ok (.aload_n 1, 1) := by decide +kernel
theorem d_Sg_writeNumber_29 : decode b_Sg_writeNumber 29 = .ok (.iload 4, 2) := by decide +kernel
theorem d_Sg_writeNumber_31 : decode b_Sg_writeNumber 31 = .ok (.baload, 1) := by decide +kernel
theorem d_Sg_writeNumber_32 : decode b_Sg_writeNumber 32 = .ok (.ifCond .ge 6, 3) := by decide +kernel
theorem d_Sg_writeNumber_35 : decode b_Sg_writeNumber 35 = .ok (.iinc 4 (-1), 3) := by decide +kernel
theorem d_Sg_writeNumber_38 : decode b_Sg_writeNumber 38 = .ok (.bipush 33, 2) := by decide +kernel
theorem d_Sg_writeNumber_40 : decode b_Sg_writeNumber 40 = .ok (.iload 4, 2) := by decide +kernel
theorem d_Sg_writeNumber_42 : decode b_Sg_writeNumber 42 = .ok (.isub, 1) := by decide +kernel
theorem d_Sg_writeNumber_43 : decode b_Sg_writeNumber 43 = .ok (.istore 5, 2) := by decide +kernel
theorem d_Sg_writeNumber_45 : decode b_Sg_writeNumber 45 = .ok (.aload_n 2, 1) := by decide +kernel
theorem d_Sg_writeNumber_46 : decode b_Sg_writeNumber 46 = .ok (.iload_n 3, 1) := by decide +kernel
theorem d_Sg_writeNumber_47 : decode b_Sg_writeNumber 47 = .ok (.iconst 2, 1) := by decide +kernel
theorem d_Sg_writeNumber_48 : decode b_Sg_writeNumber 48 = .ok (.bastore, 1) := by decide +kernel
theorem d_Sg_writeNumber_49 : decode b_Sg_writeNumber 49 = .ok (.aload_n 2, 1) := by decide +kernel
theorem d_Sg_writeNumber_50 : decode b_Sg_writeNumber 50 = .ok (.iload_n 3, 1) := by decide +kernel
theorem d_Sg_writeNumber_51 : decode b_Sg_writeNumber 51 = .ok (.iconst 1, 1) := by decide +kernel
theorem d_Sg_writeNumber_52 : decode b_Sg_writeNumber 52 = .ok (.iadd, 1) := by decide +kernel
theorem d_Sg_writeNumber_53 : decode b_Sg_writeNumber 53 = .ok (.iload 5, 2) := by decide +kernel
theorem d_Sg_writeNumber_55 : decode b_Sg_writeNumber 55 = .ok (.i2b, 1) := by decide +kernel
theorem d_Sg_writeNumber_56 : decode b_Sg_writeNumber 56 = .ok (.bastore, 1) := by decide +kernel
theorem d_Sg_writeNumber_57 : decode b_Sg_writeNumber 57 = .ok (.aload_n 1, 1) := by decide +kernel
theorem d_Sg_writeNumber_58 : decode b_Sg_writeNumber 58 = .ok (.iload 4, 2) := by decide +kernel
theorem d_Sg_writeNumber_60 : decode b_Sg_writeNumber 60 = .ok (.aload_n 2, 1) := by decide +kernel
theorem d_Sg_writeNumber_61 : decode b_Sg_writeNumber 61 = .ok (.iload_n 3, 1) := by decide +kernel
theorem d_Sg_writeNumber_62 : decode b_Sg_writeNumber 62 = .ok (.iconst 2, 1) := by decide +kernel
theorem d_Sg_writeNumber_63 : decode b_Sg_writeNumber 63 = .ok (.iadd, 1) := by decide +kernel
theorem d_Sg_writeNumber_64 : decode b_Sg_writeNumber 64 = .ok (.iload 5, 2) := by decide +kernel
theorem d_Sg_writeNumber_66 : decode b_Sg_writeNumber 66 = .ok (.invokestatic 30, 3) := by decide +kernel
theorem d_Sg_writeNumber_69 : decode b_Sg_writeNumber 69 = .ok (.iload_n 3, 1) := by decide +kernel
theorem d_Sg_writeNumber_70 : decode b_Sg_writeNumber 70 = .ok (.iconst 2, 1) := by decide +kernel
theorem d_Sg_writeNumber_71 : decode b_Sg_writeNumber 71 = .ok (.iadd, 1) := by decide +kernel
theorem d_Sg_writeNumber_72 : decode b_Sg_writeNumber 72 = .ok (.iload 5, 2) := by decide +kernel
theorem d_Sg_writeNumber_74 : decode b_Sg_writeNumber 74 = .ok (.iadd, 1) := by decide +kernel
theorem d_Sg_writeNumber_75 : decode b_Sg_writeNumber 75 = .ok (.ireturn, 1) := by decide +kernel
abbrev rm_Sg_writeNumber : Room := { frames := 1, cells := 0, slots := 0, locals := 26 }
def B_Sg_writeNumber_38 (K3 : HP → Nat → Nat → Int32 → Int32 → Option (Int32 × HP)) (h : HP) (a1 : Nat) (a2 : Nat) (a3 : Int32) (a4 : Int32) : Option (Int32 × HP) :=
  lt (33 - a4) fun x1 =>
  bnd (stB h a2 a3 2) fun h2 =>
  bnd (stB h2 a2 (a3 + 1) ((Int32.toInt8 x1).toInt32)) fun h3 =>
  bnd (cpB h3 a1 a4 a2 (a3 + 2) x1) fun h4 =>
  some ((a3 + 2) + x1, h4)
set_option maxHeartbeats 4000000 in
set_option maxRecDepth 100000 in
theorem bk_Sg_writeNumber_38 {l : Launch} {x : CX} {h0 h' : HP} {r' : Int32} (C : EV x b_Sg_writeNumber "PrimeKeys$Signature" 6 rm_Sg_writeNumber) (T : CT x (some .int) rm_Sg_writeNumber h0 (some (.int r')) h') (hl0 : x.1.2.1 = l) (K3 : HP → Nat → Nat → Int32 → Int32 → Option (Int32 × HP)) (hK3 : ∀ (h : HP) (a1 : Nat) (a2 : Nat) (a3 : Int32) (a4 : Int32), K3 h a1 a2 a3 a4 = some (r', h') → GG x 0 0 h 3 [(1, .ref a1), (2, .ref a2), (3, .int a3), (4, .int a4)] []) (h : HP) (a1 : Nat) (a2 : Nat) (a3 : Int32) (a4 : Int32) (hr : B_Sg_writeNumber_38 K3 h a1 a2 a3 a4 = some (r', h')) : GG x 0 0 h 38 [(1, .ref a1), (2, .ref a2), (3, .int a3), (4, .int a4)] [] := by
  unfold B_Sg_writeNumber_38 at hr
  refine g_bipush (v := 33) C d_Sg_writeNumber_38 (by decide) ?_
  refine g_iload C 3 rfl d_Sg_writeNumber_40 ?_
  refine g_isub C d_Sg_writeNumber_42 ?_
  refine g_topi (fun x1 ex1 => ?_)
  have hr := of_lt ex1 hr
  refine g_istore (lv' := [(5, .int x1), (1, .ref a1), (2, .ref a2), (3, .int a3), (4, .int a4)]) C d_Sg_writeNumber_43 (by decide) rfl ?_
  refine g_aload_n C 2 rfl d_Sg_writeNumber_45 rfl ?_
  refine g_iload_n C 3 rfl d_Sg_writeNumber_46 rfl ?_
  refine g_iconst (v := 2) C d_Sg_writeNumber_47 (by decide) ?_
  obtain ⟨h2, eh2, hr⟩ := of_bnd hr
  refine g_bastore C eh2 d_Sg_writeNumber_48 ?_
  refine g_aload_n C 2 rfl d_Sg_writeNumber_49 rfl ?_
  refine g_iload_n C 3 rfl d_Sg_writeNumber_50 rfl ?_
  refine g_iconst (v := 1) C d_Sg_writeNumber_51 (by decide) ?_
  refine g_iadd C d_Sg_writeNumber_52 ?_
  refine g_iload C 0 rfl d_Sg_writeNumber_53 ?_
  refine g_i2b C d_Sg_writeNumber_55 ?_
  obtain ⟨h3, eh3, hr⟩ := of_bnd hr
  refine g_bastore C eh3 d_Sg_writeNumber_56 ?_
  refine g_aload_n C 1 rfl d_Sg_writeNumber_57 rfl ?_
  refine g_iload C 4 rfl d_Sg_writeNumber_58 ?_
  refine g_aload_n C 2 rfl d_Sg_writeNumber_60 rfl ?_
  refine g_iload_n C 3 rfl d_Sg_writeNumber_61 rfl ?_
  refine g_iconst (v := 2) C d_Sg_writeNumber_62 (by decide) ?_
  refine g_iadd C d_Sg_writeNumber_63 ?_
  refine g_iload C 0 rfl d_Sg_writeNumber_64 ?_
  obtain ⟨h4, eh4, hr⟩ := of_bnd hr
  refine g_copyB C eh4 kw_14 (Nat.le_of_ble_eq_true rfl) (Nat.le_of_ble_eq_true rfl) d_Sg_writeNumber_66 ?_
  refine g_iload_n C 3 rfl d_Sg_writeNumber_69 rfl ?_
  refine g_iconst (v := 2) C d_Sg_writeNumber_70 (by decide) ?_
  refine g_iadd C d_Sg_writeNumber_71 ?_
  refine g_iload C 0 rfl d_Sg_writeNumber_72 ?_
  refine g_iadd C d_Sg_writeNumber_74 ?_
  cases hr
  exact g_ireturn C T rfl (by decide) (by decide) d_Sg_writeNumber_75
def B_Sg_writeNumber_23 (K3 : HP → Nat → Nat → Int32 → Int32 → Option (Int32 × HP)) (h : HP) (a1 : Nat) (a2 : Nat) (a3 : Int32) (a4 : Int32) : Option (Int32 × HP) :=
  if a4 ≤ 0 then
  B_Sg_writeNumber_38 K3 h a1 a2 a3 a4
  else
  bnd (ldB h a1 a4) fun v5 =>
  if 0 ≤ v5 then
  B_Sg_writeNumber_38 K3 h a1 a2 a3 a4
  else
  lt (a4 + Int32.ofInt (-1)) fun x6 =>
  B_Sg_writeNumber_38 K3 h a1 a2 a3 x6
set_option maxHeartbeats 4000000 in
set_option maxRecDepth 100000 in
theorem bk_Sg_writeNumber_23 {l : Launch} {x : CX} {h0 h' : HP} {r' : Int32} (C : EV x b_Sg_writeNumber "PrimeKeys$Signature" 6 rm_Sg_writeNumber) (T : CT x (some .int) rm_Sg_writeNumber h0 (some (.int r')) h') (hl0 : x.1.2.1 = l) (K3 : HP → Nat → Nat → Int32 → Int32 → Option (Int32 × HP)) (hK3 : ∀ (h : HP) (a1 : Nat) (a2 : Nat) (a3 : Int32) (a4 : Int32), K3 h a1 a2 a3 a4 = some (r', h') → GG x 0 0 h 3 [(1, .ref a1), (2, .ref a2), (3, .int a3), (4, .int a4)] []) (h : HP) (a1 : Nat) (a2 : Nat) (a3 : Int32) (a4 : Int32) (hr : B_Sg_writeNumber_23 K3 h a1 a2 a3 a4 = some (r', h')) : GG x 0 0 h 23 [(1, .ref a1), (2, .ref a2), (3, .int a3), (4, .int a4)] [] := by
  unfold B_Sg_writeNumber_23 at hr
  refine g_iload C 3 rfl d_Sg_writeNumber_23 ?_
  refine g_if_le (tgt := 38) C d_Sg_writeNumber_25 (by decide) (fun z => ?_) (fun z => ?_)
  · have hr := of_if z hr
    exact bk_Sg_writeNumber_38 C T hl0 K3 hK3 h a1 a2 a3 a4 hr
  · have hr := of_el z hr
    refine g_aload_n C 0 rfl d_Sg_writeNumber_28 rfl ?_
    refine g_iload C 3 rfl d_Sg_writeNumber_29 ?_
    obtain ⟨v5, ev5, hr⟩ := of_bnd hr
    refine g_baload C ev5 d_Sg_writeNumber_31 ?_
    refine g_if_ge (tgt := 38) C d_Sg_writeNumber_32 (by decide) (fun z => ?_) (fun z => ?_)
    · have hr := of_if z hr
      exact bk_Sg_writeNumber_38 C T hl0 K3 hK3 h a1 a2 a3 a4 hr
    · have hr := of_el z hr
      obtain ⟨x6, ex6⟩ : ∃ z, z = a4 + Int32.ofInt (-1) := ⟨_, rfl⟩
      have hr := of_lt ex6 hr
      refine g_iinc (lv' := [(4, .int x6), (1, .ref a1), (2, .ref a2), (3, .int a3)]) C 3 rfl d_Sg_writeNumber_35 ex6.symm (by decide) rfl ?_
      refine g_lv [1, 2, 3, 0] rfl ?_
      exact bk_Sg_writeNumber_38 C T hl0 K3 hK3 h a1 a2 a3 x6 hr
def B_Sg_writeNumber_3 (K3 : HP → Nat → Nat → Int32 → Int32 → Option (Int32 × HP)) (h : HP) (a1 : Nat) (a2 : Nat) (a3 : Int32) (a4 : Int32) : Option (Int32 × HP) :=
  if 32 ≤ a4 then
  B_Sg_writeNumber_23 K3 h a1 a2 a3 a4
  else
  bnd (ldB h a1 a4) fun v7 =>
  if v7 = 0 then
  lt (a4 + Int32.ofInt 1) fun x8 =>
  K3 h a1 a2 a3 x8
  else
  B_Sg_writeNumber_23 K3 h a1 a2 a3 a4
set_option maxHeartbeats 4000000 in
set_option maxRecDepth 100000 in
theorem bk_Sg_writeNumber_3 {l : Launch} {x : CX} {h0 h' : HP} {r' : Int32} (C : EV x b_Sg_writeNumber "PrimeKeys$Signature" 6 rm_Sg_writeNumber) (T : CT x (some .int) rm_Sg_writeNumber h0 (some (.int r')) h') (hl0 : x.1.2.1 = l) (K3 : HP → Nat → Nat → Int32 → Int32 → Option (Int32 × HP)) (hK3 : ∀ (h : HP) (a1 : Nat) (a2 : Nat) (a3 : Int32) (a4 : Int32), K3 h a1 a2 a3 a4 = some (r', h') → GG x 0 0 h 3 [(1, .ref a1), (2, .ref a2), (3, .int a3), (4, .int a4)] []) (h : HP) (a1 : Nat) (a2 : Nat) (a3 : Int32) (a4 : Int32) (hr : B_Sg_writeNumber_3 K3 h a1 a2 a3 a4 = some (r', h')) : GG x 0 0 h 3 [(1, .ref a1), (2, .ref a2), (3, .int a3), (4, .int a4)] [] := by
  unfold B_Sg_writeNumber_3 at hr
  refine g_iload C 3 rfl d_Sg_writeNumber_3 ?_
  refine g_bipush (v := 32) C d_Sg_writeNumber_5 (by decide) ?_
  refine g_icmp_ge (tgt := 23) C d_Sg_writeNumber_7 (by decide) (fun z => ?_) (fun z => ?_)
  · have hr := of_if z hr
    exact bk_Sg_writeNumber_23 C T hl0 K3 hK3 h a1 a2 a3 a4 hr
  · have hr := of_el z hr
    refine g_aload_n C 0 rfl d_Sg_writeNumber_10 rfl ?_
    refine g_iload C 3 rfl d_Sg_writeNumber_11 ?_
    obtain ⟨v7, ev7, hr⟩ := of_bnd hr
    refine g_baload C ev7 d_Sg_writeNumber_13 ?_
    refine g_if_ne (tgt := 23) C d_Sg_writeNumber_14 (by decide) (fun z => ?_) (fun z => ?_)
    · have hr := of_el z hr
      exact bk_Sg_writeNumber_23 C T hl0 K3 hK3 h a1 a2 a3 a4 hr
    · have hr := of_if z hr
      obtain ⟨x8, ex8⟩ : ∃ z, z = a4 + Int32.ofInt 1 := ⟨_, rfl⟩
      have hr := of_lt ex8 hr
      refine g_iinc (lv' := [(4, .int x8), (1, .ref a1), (2, .ref a2), (3, .int a3)]) C 3 rfl d_Sg_writeNumber_17 ex8.symm (by decide) rfl ?_
      refine g_goto (tgt := 3) C d_Sg_writeNumber_20 (by decide) ?_
      refine g_lv [1, 2, 3, 0] rfl ?_
      exact hK3 h a1 a2 a3 x8 hr
def L_Sg_writeNumber_3 : Nat → HP → Nat → Nat → Int32 → Int32 → Option (Int32 × HP)
  | 0, _, _, _, _, _ => none
  | f + 1, h, a1, a2, a3, a4 => B_Sg_writeNumber_3 (L_Sg_writeNumber_3 f) h a1 a2 a3 a4
theorem lp_Sg_writeNumber_3 {l : Launch} {x : CX} {h0 h' : HP} {r' : Int32} (C : EV x b_Sg_writeNumber "PrimeKeys$Signature" 6 rm_Sg_writeNumber) (T : CT x (some .int) rm_Sg_writeNumber h0 (some (.int r')) h') (hl0 : x.1.2.1 = l) : ∀ (f : Nat) (h : HP) (a1 : Nat) (a2 : Nat) (a3 : Int32) (a4 : Int32), L_Sg_writeNumber_3 f h a1 a2 a3 a4 = some (r', h') → GG x 0 0 h 3 [(1, .ref a1), (2, .ref a2), (3, .int a3), (4, .int a4)] [] := by
  intro f
  induction f with
  | zero => intro h a1 a2 a3 a4 hr; have hr : (none : Option (Int32 × HP)) = some (r', h') := hr; cases hr
  | succ f ih => intro h a1 a2 a3 a4 hr; exact bk_Sg_writeNumber_3 C T hl0 (L_Sg_writeNumber_3 f) ih h a1 a2 a3 a4 hr
def P_Sg_writeNumber (h : HP) (p0 : Nat) (p1 : Nat) (p2 : Nat) (p3 : Int32) : Option (Int32 × HP) :=
  L_Sg_writeNumber_3 FU h p1 p2 p3 0
set_option maxHeartbeats 4000000 in
set_option maxRecDepth 100000 in
theorem c_Sg_writeNumber {l : Launch} {h h' : HP} {p0 p1 p2 p3 : _} {r' : Int32} (hr : P_Sg_writeNumber h p0 p1 p2 p3 = some (r', h')) : MP l y_Sg_writeNumber (Cond.code y_Sg_writeNumber b_Sg_writeNumber 6 (some .int) :: TB) rm_Sg_writeNumber h [.ref p0, .ref p1, .ref p2, .int p3] (some (.int r')) h' := by
  refine MP_intro (cc := b_Sg_writeNumber) (by decide) (Nat.le_of_ble_eq_true rfl) (fun x hl0 C T hin => ?_)
  unfold P_Sg_writeNumber at hr
  show GG x 0 0 h 0 [(0, .ref p0), (1, .ref p1), (2, .ref p2), (3, .int p3)] []
  refine g_iconst (v := 0) C d_Sg_writeNumber_0 (by decide) ?_
  refine g_istore (lv' := [(4, .int 0), (0, .ref p0), (1, .ref p1), (2, .ref p2), (3, .int p3)]) C d_Sg_writeNumber_1 (by decide) rfl ?_
  refine g_lv [2, 3, 4, 0] rfl ?_
  exact lp_Sg_writeNumber_3 C T hl0 FU h p1 p2 p3 0 hr
abbrev b_Sg_write : ByteArray := prog_8_method_5_code
abbrev y_Sg_write : MethodName := ⟨"PrimeKeys$Signature", "write", "([B)I"⟩
theorem d_Sg_write_0 : decode b_Sg_write 0 = .ok (.aload_n 0, 1) := by decide +kernel
theorem d_Sg_write_1 : decode b_Sg_write 1 = .ok (.aload_n 0, 1) := by decide +kernel
theorem d_Sg_write_2 : decode b_Sg_write 2 = .ok (.getfield 9, 3) := by decide +kernel
theorem d_Sg_write_5 : decode b_Sg_write 5 = .ok (.aload_n 1, 1) := by decide +kernel
theorem d_Sg_write_6 : decode b_Sg_write 6 = .ok (.iconst 2, 1) := by decide +kernel
theorem d_Sg_write_7 : decode b_Sg_write 7 = .ok (.invokevirtual 26, 3) := by decide +kernel
theorem d_Sg_write_10 : decode b_Sg_write 10 = .ok (.istore_n 2, 1) := by decide +kernel
theorem d_Sg_write_11 : decode b_Sg_write 11 = .ok (.aload_n 0, 1) := by decide +kernel
theorem d_Sg_write_12 : decode b_Sg_write 12 = .ok (.aload_n 0, 1) := by decide +kernel
theorem d_Sg_write_13 : decode b_Sg_write 13 = .ok (.getfield 13, 3) := by decide +kernel
theorem d_Sg_write_16 : decode b_Sg_write 16 = .ok (.aload_n 1, 1) := by decide +kernel
theorem d_Sg_write_17 : decode b_Sg_write 17 = .ok (.iload_n 2, 1) := by decide +kernel
theorem d_Sg_write_18 : decode b_Sg_write 18 = .ok (.invokevirtual 26, 3) := by decide +kernel
theorem d_Sg_write_21 : decode b_Sg_write 21 = .ok (.istore_n 3, 1) := by decide +kernel
theorem d_Sg_write_22 : decode b_Sg_write 22 = .ok (.aload_n 1, 1) := by decide +kernel
theorem d_Sg_write_23 : decode b_Sg_write 23 = .ok (.iconst 0, 1) := by decide +kernel
theorem d_Sg_write_24 : decode b_Sg_write 24 = .ok (.bipush 48, 2) := by decide +kernel
theorem d_Sg_write_26 : decode b_Sg_write 26 = .ok (.bastore, 1) := by decide +kernel
theorem d_Sg_write_27 : decode b_Sg_write 27 = .ok (.aload_n 1, 1) := by decide +kernel
theorem d_Sg_write_28 : decode b_Sg_write 28 = .ok (.iconst 1, 1) := by decide +kernel
theorem d_Sg_write_29 : decode b_Sg_write 29 = .ok (.iload_n 3, 1) := by decide +kernel
theorem d_Sg_write_30 : decode b_Sg_write 30 = .ok (.iconst 2, 1) := by decide +kernel
theorem d_Sg_write_31 : decode b_Sg_write 31 = .ok (.isub, 1) := by decide +kernel
theorem d_Sg_write_32 : decode b_Sg_write 32 = .ok (.i2b, 1) := by decide +kernel
theorem d_Sg_write_33 : decode b_Sg_write 33 = .ok (.bastore, 1) := by decide +kernel
theorem d_Sg_write_34 : decode b_Sg_write 34 = .ok (.iload_n 3, 1) := by decide +kernel
theorem d_Sg_write_35 : decode b_Sg_write 35 = .ok (.ireturn, 1) := by decide +kernel
theorem cd_Sg_26 : CD "PrimeKeys$Signature" 26 y_Sg_writeNumber b_Sg_writeNumber 6 (some .int) 3 := ⟨tb_3 (List.mem_of_getElem? (i := 233) rfl) rfl, tb_1 (List.mem_of_getElem? (i := 12) (by decide +kernel)) rfl, tb_3 (List.mem_of_getElem? (i := 230) (by decide +kernel)) rfl, by decide +kernel⟩
theorem kw_in_Sg_writeNumber : Cond.instanceMethod y_Sg_writeNumber ∈ TB := tb_3 (List.mem_of_getElem? (i := 232) (by decide +kernel)) rfl
theorem kw_se_Sg_writeNumber : Cond.selects "PrimeKeys$Signature" y_Sg_writeNumber y_Sg_writeNumber ∈ TB := tb_p (q := (y_Sg_writeNumber, 2)) (by decide +kernel)
abbrev rm_Sg_write : Room := { frames := 2, cells := 0, slots := 0, locals := 51 }
def P_Sg_write (h : HP) (p0 : Nat) (p1 : Nat) : Option (Int32 × HP) :=
  bnd (gR h p0 5 0) fun k1 =>
  ob h p0 5 (
  bnd2 (P_Sg_writeNumber h p0 k1 p1 2) fun v3 h2 =>
  bnd (gR h2 p0 5 1) fun k4 =>
  ob h2 p0 5 (
  bnd2 (P_Sg_writeNumber h2 p0 k4 p1 v3) fun v6 h5 =>
  bnd (stB h5 p1 0 48) fun h7 =>
  bnd (stB h7 p1 1 ((Int32.toInt8 (v6 - 2)).toInt32)) fun h8 =>
  some (v6, h8)))
set_option maxHeartbeats 4000000 in
set_option maxRecDepth 100000 in
theorem c_Sg_write {l : Launch} {h h' : HP} {p0 p1 : _} {r' : Int32} (hr : P_Sg_write h p0 p1 = some (r', h')) : MP l y_Sg_write (Cond.code y_Sg_write b_Sg_write 4 (some .int) :: TB) rm_Sg_write h [.ref p0, .ref p1] (some (.int r')) h' := by
  refine MP_intro (cc := b_Sg_write) (by decide) (Nat.le_of_ble_eq_true rfl) (fun x hl0 C T hin => ?_)
  unfold P_Sg_write at hr
  show GG x 0 0 h 0 [(0, .ref p0), (1, .ref p1)] []
  refine g_aload_n C 0 rfl d_Sg_write_0 rfl ?_
  refine g_aload_n C 0 rfl d_Sg_write_1 rfl ?_
  obtain ⟨k1, ek1, hr⟩ := of_bnd hr
  refine g_getR C fl_Sg_9 ek1 d_Sg_write_2 ?_
  refine g_aload_n C 1 rfl d_Sg_write_5 rfl ?_
  refine g_iconst (v := 2) C d_Sg_write_6 (by decide) ?_
  obtain ⟨fsh2, hoh2, hr⟩ := of_ob hr
  obtain ⟨v3, h2, eh2, hr⟩ := of_bnd2 hr
  refine g_callV (pa := [.ref k1, .ref p1, .int 2]) C hl0 (c_Sg_writeNumber eh2) cd_Sg_26 kw_in_Sg_writeNumber kw_se_Sg_writeNumber hoh2 rfl rfl (by decide) rfl rfl (Nat.le_of_ble_eq_true rfl) d_Sg_write_7 ?_
  refine g_istore_n (lv' := [(2, .int v3), (0, .ref p0), (1, .ref p1)]) C d_Sg_write_10 rfl (by decide) rfl ?_
  refine g_aload_n C 1 rfl d_Sg_write_11 rfl ?_
  refine g_aload_n C 1 rfl d_Sg_write_12 rfl ?_
  obtain ⟨k4, ek4, hr⟩ := of_bnd hr
  refine g_getR C fl_Sg_13 ek4 d_Sg_write_13 ?_
  refine g_aload_n C 2 rfl d_Sg_write_16 rfl ?_
  refine g_iload_n C 0 rfl d_Sg_write_17 rfl ?_
  obtain ⟨fsh5, hoh5, hr⟩ := of_ob hr
  obtain ⟨v6, h5, eh5, hr⟩ := of_bnd2 hr
  refine g_callV (pa := [.ref k4, .ref p1, .int v3]) C hl0 (c_Sg_writeNumber eh5) cd_Sg_26 kw_in_Sg_writeNumber kw_se_Sg_writeNumber hoh5 rfl rfl (by decide) rfl rfl (Nat.le_of_ble_eq_true rfl) d_Sg_write_18 ?_
  refine g_istore_n (lv' := [(3, .int v6), (2, .int v3), (0, .ref p0), (1, .ref p1)]) C d_Sg_write_21 rfl (by decide) rfl ?_
  refine g_aload_n C 3 rfl d_Sg_write_22 rfl ?_
  refine g_iconst (v := 0) C d_Sg_write_23 (by decide) ?_
  refine g_bipush (v := 48) C d_Sg_write_24 (by decide) ?_
  obtain ⟨h7, eh7, hr⟩ := of_bnd hr
  refine g_bastore C eh7 d_Sg_write_26 ?_
  refine g_aload_n C 3 rfl d_Sg_write_27 rfl ?_
  refine g_iconst (v := 1) C d_Sg_write_28 (by decide) ?_
  refine g_iload_n C 0 rfl d_Sg_write_29 rfl ?_
  refine g_iconst (v := 2) C d_Sg_write_30 (by decide) ?_
  refine g_isub C d_Sg_write_31 ?_
  refine g_i2b C d_Sg_write_32 ?_
  obtain ⟨h8, eh8, hr⟩ := of_bnd hr
  refine g_bastore C eh8 d_Sg_write_33 ?_
  refine g_iload_n C 0 rfl d_Sg_write_34 rfl ?_
  cases hr
  exact g_ireturn C T rfl (by decide) (by decide) d_Sg_write_35
