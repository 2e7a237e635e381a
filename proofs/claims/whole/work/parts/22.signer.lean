abbrev b_Si_new : ByteArray := prog_9_method_1_code
abbrev y_Si_new : MethodName := ⟨"PrimeKeys$Signer", "<init>", "()V"⟩
theorem d_Si_new_0 : decode b_Si_new 0 = .ok (.aload_n 0, 1) := by decide +kernel
theorem d_Si_new_1 : decode b_Si_new 1 = .ok (.invokespecial 3, 3) := by decide +kernel
theorem d_Si_new_4 : decode b_Si_new 4 = .ok (.aload_n 0, 1) := by decide +kernel
theorem d_Si_new_5 : decode b_Si_new 5 = .ok (.new 9, 3) := by decide +kernel
theorem d_Si_new_8 : decode b_Si_new 8 = .ok (.dup, 1) := by decide +kernel
theorem d_Si_new_9 : decode b_Si_new 9 = .ok (.getstatic 11, 3) := by decide +kernel
theorem d_Si_new_12 : decode b_Si_new 12 = .ok (.invokespecial 17, 3) := by decide +kernel
theorem d_Si_new_15 : decode b_Si_new 15 = .ok (.putfield 20, 3) := by decide +kernel
theorem d_Si_new_18 : decode b_Si_new 18 = .ok (.aload_n 0, 1) := by decide +kernel
theorem d_Si_new_19 : decode b_Si_new 19 = .ok (.new 24, 3) := by decide +kernel
theorem d_Si_new_22 : decode b_Si_new 22 = .ok (.dup, 1) := by decide +kernel
theorem d_Si_new_23 : decode b_Si_new 23 = .ok (.invokespecial 26, 3) := by decide +kernel
theorem d_Si_new_26 : decode b_Si_new 26 = .ok (.putfield 27, 3) := by decide +kernel
theorem d_Si_new_29 : decode b_Si_new 29 = .ok (.aload_n 0, 1) := by decide +kernel
theorem d_Si_new_30 : decode b_Si_new 30 = .ok (.new 31, 3) := by decide +kernel
theorem d_Si_new_33 : decode b_Si_new 33 = .ok (.dup, 1) := by decide +kernel
theorem d_Si_new_34 : decode b_Si_new 34 = .ok (.invokespecial 33, 3) := by decide +kernel
theorem d_Si_new_37 : decode b_Si_new 37 = .ok (.putfield 34, 3) := by decide +kernel
theorem d_Si_new_40 : decode b_Si_new 40 = .ok (.aload_n 0, 1) := by decide +kernel
theorem d_Si_new_41 : decode b_Si_new 41 = .ok (.bipush 9, 2) := by decide +kernel
theorem d_Si_new_43 : decode b_Si_new 43 = .ok (.newarray .long, 2) := by decide +kernel
theorem d_Si_new_45 : decode b_Si_new 45 = .ok (.putfield 40, 3) := by decide +kernel
theorem d_Si_new_48 : decode b_Si_new 48 = .ok (.aload_n 0, 1) := by decide +kernel
theorem d_Si_new_49 : decode b_Si_new 49 = .ok (.bipush 9, 2) := by decide +kernel
theorem d_Si_new_51 : decode b_Si_new 51 = .ok (.newarray .long, 2) := by decide +kernel
theorem d_Si_new_53 : decode b_Si_new 53 = .ok (.putfield 44, 3) := by decide +kernel
theorem d_Si_new_56 : decode b_Si_new 56 = .ok (.aload_n 0, 1) := by decide +kernel
theorem d_Si_new_57 : decode b_Si_new 57 = .ok (.bipush 9, 2) := by decide +kernel
theorem d_Si_new_59 : decode b_Si_new 59 = .ok (.newarray .long, 2) := by decide +kernel
theorem d_Si_new_61 : decode b_Si_new 61 = .ok (.putfield 47, 3) := by decide +kernel
theorem d_Si_new_64 : decode b_Si_new 64 = .ok (.aload_n 0, 1) := by decide +kernel
theorem d_Si_new_65 : decode b_Si_new 65 = .ok (.bipush 9, 2) := by decide +kernel
theorem d_Si_new_67 : decode b_Si_new 67 = .ok (.newarray .long, 2) := by decide +kernel
theorem d_Si_new_69 : decode b_Si_new 69 = .ok (.putfield 50, 3) := by decide +kernel
theorem d_Si_new_72 : decode b_Si_new 72 = .ok (.aload_n 0, 1) := by decide +kernel
theorem d_Si_new_73 : decode b_Si_new 73 = .ok (.bipush 9, 2) := by decide +kernel
theorem d_Si_new_75 : decode b_Si_new 75 = .ok (.newarray .long, 2) := by decide +kernel
theorem d_Si_new_77 : decode b_Si_new 77 = .ok (.putfield 53, 3) := by decide +kernel
theorem d_Si_new_80 : decode b_Si_new 80 = .ok (.aload_n 0, 1) := by decide +kernel
theorem d_Si_new_81 : decode b_Si_new 81 = .ok (.bipush 9, 2) := by decide +kernel
theorem d_Si_new_83 : decode b_Si_new 83 = .ok (.newarray .long, 2) := by decide +kernel
theorem d_Si_new_85 : decode b_Si_new 85 = .ok (.putfield 56, 3) := by decide +kernel
theorem d_Si_new_88 : decode b_Si_new 88 = .ok (.aload_n 0, 1) := by decide +kernel
theorem d_Si_new_89 : decode b_Si_new 89 = .ok (.bipush 32, 2) := by decide +kernel
theorem d_Si_new_91 : decode b_Si_new 91 = .ok (.newarray .byte, 2) := by decide +kernel
theorem d_Si_new_93 : decode b_Si_new 93 = .ok (.putfield 59, 3) := by decide +kernel
theorem d_Si_new_96 : decode b_Si_new 96 = .ok (.aload_n 0, 1) := by decide +kernel
theorem d_Si_new_97 : decode b_Si_new 97 = .ok (.bipush 32, 2) := by decide +kernel
theorem d_Si_new_99 : decode b_Si_new 99 = .ok (.newarray .byte, 2) := by decide +kernel
theorem d_Si_new_101 : decode b_Si_new 101 = .ok (.putfield 63, 3) := by decide +kernel
theorem d_Si_new_104 : decode b_Si_new 104 = .ok (.return_, 1) := by decide +kernel
theorem fp_Si_20 : FP "PrimeKeys$Signer" 20 6 0 (.object "PrimeKeys$Modulus") true := ⟨R_Si, F_Si, 11, t_Si, rfl, u_Si, by decide, rfl, tb_2 (List.mem_of_getElem? (i := 52) (by decide +kernel)) rfl, t_Si_ok, n_Si, rfl, by decide +kernel⟩
theorem fp_Si_27 : FP "PrimeKeys$Signer" 27 6 1 (.object "PrimeKeys$Nonces") true := ⟨R_Si, F_Si, 11, t_Si, rfl, u_Si, by decide, rfl, tb_2 (List.mem_of_getElem? (i := 53) (by decide +kernel)) rfl, t_Si_ok, n_Si, rfl, by decide +kernel⟩
theorem fp_Si_34 : FP "PrimeKeys$Signer" 34 6 2 (.object "PrimeKeys$Point") true := ⟨R_Si, F_Si, 11, t_Si, rfl, u_Si, by decide, rfl, tb_2 (List.mem_of_getElem? (i := 54) (by decide +kernel)) rfl, t_Si_ok, n_Si, rfl, by decide +kernel⟩
theorem fp_Si_40 : FP "PrimeKeys$Signer" 40 6 3 (.array .long) true := ⟨R_Si, F_Si, 11, t_Si, rfl, u_Si, by decide, rfl, tb_2 (List.mem_of_getElem? (i := 55) (by decide +kernel)) rfl, t_Si_ok, n_Si, rfl, by decide +kernel⟩
theorem fp_Si_44 : FP "PrimeKeys$Signer" 44 6 4 (.array .long) true := ⟨R_Si, F_Si, 11, t_Si, rfl, u_Si, by decide, rfl, tb_2 (List.mem_of_getElem? (i := 56) (by decide +kernel)) rfl, t_Si_ok, n_Si, rfl, by decide +kernel⟩
theorem fp_Si_47 : FP "PrimeKeys$Signer" 47 6 5 (.array .long) true := ⟨R_Si, F_Si, 11, t_Si, rfl, u_Si, by decide, rfl, tb_2 (List.mem_of_getElem? (i := 57) (by decide +kernel)) rfl, t_Si_ok, n_Si, rfl, by decide +kernel⟩
theorem fp_Si_50 : FP "PrimeKeys$Signer" 50 6 6 (.array .long) true := ⟨R_Si, F_Si, 11, t_Si, rfl, u_Si, by decide, rfl, tb_2 (List.mem_of_getElem? (i := 58) (by decide +kernel)) rfl, t_Si_ok, n_Si, rfl, by decide +kernel⟩
theorem fp_Si_53 : FP "PrimeKeys$Signer" 53 6 7 (.array .long) true := ⟨R_Si, F_Si, 11, t_Si, rfl, u_Si, by decide, rfl, tb_2 (List.mem_of_getElem? (i := 59) (by decide +kernel)) rfl, t_Si_ok, n_Si, rfl, by decide +kernel⟩
theorem fp_Si_56 : FP "PrimeKeys$Signer" 56 6 8 (.array .long) true := ⟨R_Si, F_Si, 11, t_Si, rfl, u_Si, by decide, rfl, tb_2 (List.mem_of_getElem? (i := 60) (by decide +kernel)) rfl, t_Si_ok, n_Si, rfl, by decide +kernel⟩
theorem fp_Si_59 : FP "PrimeKeys$Signer" 59 6 9 (.array .byte) true := ⟨R_Si, F_Si, 11, t_Si, rfl, u_Si, by decide, rfl, tb_2 (List.mem_of_getElem? (i := 61) (by decide +kernel)) rfl, t_Si_ok, n_Si, rfl, by decide +kernel⟩
theorem fp_Si_63 : FP "PrimeKeys$Signer" 63 6 10 (.array .byte) true := ⟨R_Si, F_Si, 11, t_Si, rfl, u_Si, by decide, rfl, tb_2 (List.mem_of_getElem? (i := 62) (by decide +kernel)) rfl, t_Si_ok, n_Si, rfl, by decide +kernel⟩
theorem nc_Si_9 : NC "PrimeKeys$Signer" 9 1 9 [.null, .null, .null, .null, .null, .long 0, .null, .null, .null] := ⟨R_Mo, F_Mo, t_Mo, rfl, u_Mo, t_Mo_ok, tb_2 (List.mem_of_getElem? (i := 19) (by decide +kernel)) rfl, tb_1 (List.mem_of_getElem? (i := 63) (by decide +kernel)) rfl, tb_1 (List.mem_of_getElem? (i := 4) (by decide +kernel)) rfl, by decide +kernel, by decide +kernel⟩
theorem nc_Si_24 : NC "PrimeKeys$Signer" 24 2 6 [.null, .null, .null, .null, .null, .null] := ⟨R_No, F_No, t_No, rfl, u_No, t_No_ok, tb_2 (List.mem_of_getElem? (i := 23) (by decide +kernel)) rfl, tb_2 (List.mem_of_getElem? (i := 24) (by decide +kernel)) rfl, tb_1 (List.mem_of_getElem? (i := 11) (by decide +kernel)) rfl, by decide +kernel, by decide +kernel⟩
theorem nc_Si_31 : NC "PrimeKeys$Signer" 31 3 3 [.null, .null, .null] := ⟨R_Po, F_Po, t_Po, rfl, u_Po, t_Po_ok, tb_2 (List.mem_of_getElem? (i := 50) (by decide +kernel)) rfl, tb_1 (List.mem_of_getElem? (i := 137) (by decide +kernel)) rfl, tb_1 (List.mem_of_getElem? (i := 9) (by decide +kernel)) rfl, by decide +kernel, by decide +kernel⟩
theorem kw_15 : Cond.methodLink "PrimeKeys$Signer" 3 Lib.objectInit ∈ TB := tb_2 (List.mem_of_getElem? (i := 18) (by decide +kernel)) rfl
theorem kw_16 : Cond.fieldLink "PrimeKeys$Signer" 11 (stC 6) (stN 6) "[I" ∈ TB := tb_2 (List.mem_of_getElem? (i := 20) (by decide +kernel)) rfl
theorem cd_Si_33 : CDN "PrimeKeys$Signer" 33 y_Po_new "PrimeKeys" b_Po_new 1 none 0 := ⟨tb_1 (List.mem_of_getElem? (i := 140) rfl) rfl, tb_1 (List.mem_of_getElem? (i := 9) (by decide +kernel)) rfl, by decide, by decide +kernel⟩
theorem kw_in_Po_new : Cond.instanceMethod y_Po_new ∈ TB := tb_1 (List.mem_of_getElem? (i := 139) (by decide +kernel)) rfl
theorem cd_Si_26 : CDN "PrimeKeys$Signer" 26 y_No_new "PrimeKeys" b_No_new 1 none 0 := ⟨tb_2 (List.mem_of_getElem? (i := 27) rfl) rfl, tb_1 (List.mem_of_getElem? (i := 11) (by decide +kernel)) rfl, by decide, by decide +kernel⟩
theorem kw_in_No_new : Cond.instanceMethod y_No_new ∈ TB := tb_2 (List.mem_of_getElem? (i := 26) (by decide +kernel)) rfl
theorem cd_Si_17 : CD "PrimeKeys$Signer" 17 y_Mo_new b_Mo_new 5 none 1 := ⟨tb_1 (List.mem_of_getElem? (i := 68) rfl) rfl, tb_1 (List.mem_of_getElem? (i := 4) (by decide +kernel)) rfl, tb_2 (List.mem_of_getElem? (i := 22) (by decide +kernel)) rfl, by decide +kernel⟩
theorem kw_in_Mo_new : Cond.instanceMethod y_Mo_new ∈ TB := tb_1 (List.mem_of_getElem? (i := 67) (by decide +kernel)) rfl
abbrev rm_Si_new : Room := { frames := 4, cells := 32, slots := 673, locals := 98 }
def P_Si_new (h : HP) (p0 : Nat) : Option (HP) :=
  lt (h ++ [pO 1 [.null, .null, .null, .null, .null, .long 0, .null, .null, .null]]) fun h1 =>
  lt h.length fun k2 =>
  bnd (P_Mo_new h1 k2 6) fun h3 =>
  bnd (pV h3 p0 6 0 (.ref k2)) fun h4 =>
  lt (h4 ++ [pO 2 [.null, .null, .null, .null, .null, .null]]) fun h5 =>
  lt h4.length fun k6 =>
  bnd (P_No_new h5 k6) fun h7 =>
  bnd (pV h7 p0 6 1 (.ref k6)) fun h8 =>
  lt (h8 ++ [pO 3 [.null, .null, .null]]) fun h9 =>
  lt h8.length fun k10 =>
  bnd (P_Po_new h9 k10) fun h11 =>
  bnd (pV h11 p0 6 2 (.ref k10)) fun h12 =>
  lt (h12 ++ [pJ 9 (fun _ => 0)]) fun h13 =>
  lt h12.length fun k14 =>
  bnd (pV h13 p0 6 3 (.ref k14)) fun h15 =>
  lt (h15 ++ [pJ 9 (fun _ => 0)]) fun h16 =>
  lt h15.length fun k17 =>
  bnd (pV h16 p0 6 4 (.ref k17)) fun h18 =>
  lt (h18 ++ [pJ 9 (fun _ => 0)]) fun h19 =>
  lt h18.length fun k20 =>
  bnd (pV h19 p0 6 5 (.ref k20)) fun h21 =>
  lt (h21 ++ [pJ 9 (fun _ => 0)]) fun h22 =>
  lt h21.length fun k23 =>
  bnd (pV h22 p0 6 6 (.ref k23)) fun h24 =>
  lt (h24 ++ [pJ 9 (fun _ => 0)]) fun h25 =>
  lt h24.length fun k26 =>
  bnd (pV h25 p0 6 7 (.ref k26)) fun h27 =>
  lt (h27 ++ [pJ 9 (fun _ => 0)]) fun h28 =>
  lt h27.length fun k29 =>
  bnd (pV h28 p0 6 8 (.ref k29)) fun h30 =>
  lt (h30 ++ [pB 32 (fun _ => 0)]) fun h31 =>
  lt h30.length fun k32 =>
  bnd (pV h31 p0 6 9 (.ref k32)) fun h33 =>
  lt (h33 ++ [pB 32 (fun _ => 0)]) fun h34 =>
  lt h33.length fun k35 =>
  bnd (pV h34 p0 6 10 (.ref k35)) fun h36 =>
  some h36
set_option maxHeartbeats 4000000 in
set_option maxRecDepth 100000 in
theorem c_Si_new {l : Launch} {h h' : HP} {p0 : _} (hr : P_Si_new h p0 = some h') : MP l y_Si_new (Cond.code y_Si_new b_Si_new 1 none :: TB) rm_Si_new h [.ref p0] none h' := by
  refine MP_intro (cc := b_Si_new) (by decide) (Nat.le_of_ble_eq_true rfl) (fun x hl0 C T hin => ?_)
  unfold P_Si_new at hr
  show GG x 0 0 h 0 [(0, .ref p0)] []
  refine g_aload_n C 0 rfl d_Si_new_0 rfl ?_
  refine g_objInit C kw_15 kw_oi kw_oc (by decide) (Nat.le_of_ble_eq_true rfl) d_Si_new_1 ?_
  refine g_aload_n C 0 rfl d_Si_new_4 rfl ?_
  obtain ⟨h1, eh1⟩ : ∃ z, z = h ++ [pO 1 [.null, .null, .null, .null, .null, .long 0, .null, .null, .null]] := ⟨_, rfl⟩
  have hr := of_lt eh1 hr
  obtain ⟨k2, ek2⟩ : ∃ z, z = h.length := ⟨_, rfl⟩
  have hr := of_lt ek2 hr
  refine g_newE C nc_Si_9 eh1 ek2 (by decide) (by decide) d_Si_new_5 ?_
  refine g_dup C d_Si_new_8 rfl ?_
  refine g_gets (t := 6) C (by decide) kw_16 d_Si_new_9 ?_
  obtain ⟨h3, eh3, hr⟩ := of_bnd hr
  refine g_callI (pa := [.retAddr 6]) C hl0 (c_Mo_new eh3) cd_Si_17 kw_in_Mo_new rfl (by decide) rfl rfl (Nat.le_of_ble_eq_true rfl) d_Si_new_12 ?_
  obtain ⟨h4, eh4, hr⟩ := of_bnd hr
  refine g_putF C fp_Si_20 hin rfl eh4 (fun _ => rfl) (fun _ => rfl) d_Si_new_15 ?_
  refine g_aload_n C 0 rfl d_Si_new_18 rfl ?_
  obtain ⟨h5, eh5⟩ : ∃ z, z = h4 ++ [pO 2 [.null, .null, .null, .null, .null, .null]] := ⟨_, rfl⟩
  have hr := of_lt eh5 hr
  obtain ⟨k6, ek6⟩ : ∃ z, z = h4.length := ⟨_, rfl⟩
  have hr := of_lt ek6 hr
  refine g_newE C nc_Si_24 eh5 ek6 (by decide) (by decide) d_Si_new_19 ?_
  refine g_dup C d_Si_new_22 rfl ?_
  obtain ⟨h7, eh7, hr⟩ := of_bnd hr
  refine g_callIN (pa := []) C hl0 (c_No_new eh7) cd_Si_26 kw_in_No_new rfl (by decide) rfl rfl (Nat.le_of_ble_eq_true rfl) d_Si_new_23 ?_
  obtain ⟨h8, eh8, hr⟩ := of_bnd hr
  refine g_putF C fp_Si_27 hin rfl eh8 (fun _ => rfl) (fun _ => rfl) d_Si_new_26 ?_
  refine g_aload_n C 0 rfl d_Si_new_29 rfl ?_
  obtain ⟨h9, eh9⟩ : ∃ z, z = h8 ++ [pO 3 [.null, .null, .null]] := ⟨_, rfl⟩
  have hr := of_lt eh9 hr
  obtain ⟨k10, ek10⟩ : ∃ z, z = h8.length := ⟨_, rfl⟩
  have hr := of_lt ek10 hr
  refine g_newE C nc_Si_31 eh9 ek10 (by decide) (by decide) d_Si_new_30 ?_
  refine g_dup C d_Si_new_33 rfl ?_
  obtain ⟨h11, eh11, hr⟩ := of_bnd hr
  refine g_callIN (pa := []) C hl0 (c_Po_new eh11) cd_Si_33 kw_in_Po_new rfl (by decide) rfl rfl (Nat.le_of_ble_eq_true rfl) d_Si_new_34 ?_
  obtain ⟨h12, eh12, hr⟩ := of_bnd hr
  refine g_putF C fp_Si_34 hin rfl eh12 (fun _ => rfl) (fun _ => rfl) d_Si_new_37 ?_
  refine g_aload_n C 0 rfl d_Si_new_40 rfl ?_
  refine g_bipush (v := 9) C d_Si_new_41 (by decide) ?_
  obtain ⟨h13, eh13⟩ : ∃ z, z = h12 ++ [pJ 9 (fun _ => 0)] := ⟨_, rfl⟩
  have hr := of_lt eh13 hr
  obtain ⟨k14, ek14⟩ : ∃ z, z = h12.length := ⟨_, rfl⟩
  have hr := of_lt ek14 hr
  refine g_newJE (n' := 9) C eh13 ek14 (by decide) (by decide) (by decide) (by decide) (by decide) d_Si_new_43 ?_
  obtain ⟨h15, eh15, hr⟩ := of_bnd hr
  refine g_putF C fp_Si_40 hin rfl eh15 (fun _ => rfl) (fun _ => rfl) d_Si_new_45 ?_
  refine g_aload_n C 0 rfl d_Si_new_48 rfl ?_
  refine g_bipush (v := 9) C d_Si_new_49 (by decide) ?_
  obtain ⟨h16, eh16⟩ : ∃ z, z = h15 ++ [pJ 9 (fun _ => 0)] := ⟨_, rfl⟩
  have hr := of_lt eh16 hr
  obtain ⟨k17, ek17⟩ : ∃ z, z = h15.length := ⟨_, rfl⟩
  have hr := of_lt ek17 hr
  refine g_newJE (n' := 9) C eh16 ek17 (by decide) (by decide) (by decide) (by decide) (by decide) d_Si_new_51 ?_
  obtain ⟨h18, eh18, hr⟩ := of_bnd hr
  refine g_putF C fp_Si_44 hin rfl eh18 (fun _ => rfl) (fun _ => rfl) d_Si_new_53 ?_
  refine g_aload_n C 0 rfl d_Si_new_56 rfl ?_
  refine g_bipush (v := 9) C d_Si_new_57 (by decide) ?_
  obtain ⟨h19, eh19⟩ : ∃ z, z = h18 ++ [pJ 9 (fun _ => 0)] := ⟨_, rfl⟩
  have hr := of_lt eh19 hr
  obtain ⟨k20, ek20⟩ : ∃ z, z = h18.length := ⟨_, rfl⟩
  have hr := of_lt ek20 hr
  refine g_newJE (n' := 9) C eh19 ek20 (by decide) (by decide) (by decide) (by decide) (by decide) d_Si_new_59 ?_
  obtain ⟨h21, eh21, hr⟩ := of_bnd hr
  refine g_putF C fp_Si_47 hin rfl eh21 (fun _ => rfl) (fun _ => rfl) d_Si_new_61 ?_
  refine g_aload_n C 0 rfl d_Si_new_64 rfl ?_
  refine g_bipush (v := 9) C d_Si_new_65 (by decide) ?_
  obtain ⟨h22, eh22⟩ : ∃ z, z = h21 ++ [pJ 9 (fun _ => 0)] := ⟨_, rfl⟩
  have hr := of_lt eh22 hr
  obtain ⟨k23, ek23⟩ : ∃ z, z = h21.length := ⟨_, rfl⟩
  have hr := of_lt ek23 hr
  refine g_newJE (n' := 9) C eh22 ek23 (by decide) (by decide) (by decide) (by decide) (by decide) d_Si_new_67 ?_
  obtain ⟨h24, eh24, hr⟩ := of_bnd hr
  refine g_putF C fp_Si_50 hin rfl eh24 (fun _ => rfl) (fun _ => rfl) d_Si_new_69 ?_
  refine g_aload_n C 0 rfl d_Si_new_72 rfl ?_
  refine g_bipush (v := 9) C d_Si_new_73 (by decide) ?_
  obtain ⟨h25, eh25⟩ : ∃ z, z = h24 ++ [pJ 9 (fun _ => 0)] := ⟨_, rfl⟩
  have hr := of_lt eh25 hr
  obtain ⟨k26, ek26⟩ : ∃ z, z = h24.length := ⟨_, rfl⟩
  have hr := of_lt ek26 hr
  refine g_newJE (n' := 9) C eh25 ek26 (by decide) (by decide) (by decide) (by decide) (by decide) d_Si_new_75 ?_
  obtain ⟨h27, eh27, hr⟩ := of_bnd hr
  refine g_putF C fp_Si_53 hin rfl eh27 (fun _ => rfl) (fun _ => rfl) d_Si_new_77 ?_
  refine g_aload_n C 0 rfl d_Si_new_80 rfl ?_
  refine g_bipush (v := 9) C d_Si_new_81 (by decide) ?_
  obtain ⟨h28, eh28⟩ : ∃ z, z = h27 ++ [pJ 9 (fun _ => 0)] := ⟨_, rfl⟩
  have hr := of_lt eh28 hr
  obtain ⟨k29, ek29⟩ : ∃ z, z = h27.length := ⟨_, rfl⟩
  have hr := of_lt ek29 hr
  refine g_newJE (n' := 9) C eh28 ek29 (by decide) (by decide) (by decide) (by decide) (by decide) d_Si_new_83 ?_
  obtain ⟨h30, eh30, hr⟩ := of_bnd hr
  refine g_putF C fp_Si_56 hin rfl eh30 (fun _ => rfl) (fun _ => rfl) d_Si_new_85 ?_
  refine g_aload_n C 0 rfl d_Si_new_88 rfl ?_
  refine g_bipush (v := 32) C d_Si_new_89 (by decide) ?_
  obtain ⟨h31, eh31⟩ : ∃ z, z = h30 ++ [pB 32 (fun _ => 0)] := ⟨_, rfl⟩
  have hr := of_lt eh31 hr
  obtain ⟨k32, ek32⟩ : ∃ z, z = h30.length := ⟨_, rfl⟩
  have hr := of_lt ek32 hr
  refine g_newBE (n' := 32) C eh31 ek32 (by decide) (by decide) (by decide) (by decide) (by decide) d_Si_new_91 ?_
  obtain ⟨h33, eh33, hr⟩ := of_bnd hr
  refine g_putF C fp_Si_59 hin rfl eh33 (fun _ => rfl) (fun _ => rfl) d_Si_new_93 ?_
  refine g_aload_n C 0 rfl d_Si_new_96 rfl ?_
  refine g_bipush (v := 32) C d_Si_new_97 (by decide) ?_
  obtain ⟨h34, eh34⟩ : ∃ z, z = h33 ++ [pB 32 (fun _ => 0)] := ⟨_, rfl⟩
  have hr := of_lt eh34 hr
  obtain ⟨k35, ek35⟩ : ∃ z, z = h33.length := ⟨_, rfl⟩
  have hr := of_lt ek35 hr
  refine g_newBE (n' := 32) C eh34 ek35 (by decide) (by decide) (by decide) (by decide) (by decide) d_Si_new_99 ?_
  obtain ⟨h36, eh36, hr⟩ := of_bnd hr
  refine g_putF C fp_Si_63 hin rfl eh36 (fun _ => rfl) (fun _ => rfl) d_Si_new_101 ?_
  cases hr
  exact g_vreturn C T (by decide) (by decide) d_Si_new_104
abbrev b_Si_readReduced : ByteArray := prog_9_method_6_code
abbrev y_Si_readReduced : MethodName := ⟨"PrimeKeys$Signer", "readReduced", "([B)V"⟩
theorem d_Si_readReduced_0 : decode b_Si_readReduced 0 = .ok (.aload_n 1, 1) := by decide +kernel
theorem d_Si_readReduced_1 : decode b_Si_readReduced 1 = .ok (.iconst 0, 1) := by decide +kernel
theorem d_Si_readReduced_2 : decode b_Si_readReduced 2 = .ok (.aload_n 0, 1) := by decide +kernel
theorem d_Si_readReduced_3 : decode b_Si_readReduced 3 = .ok (.getfield 47, 3) := by decide +kernel
theorem d_Si_readReduced_6 : decode b_Si_readReduced 6 = .ok (.invokestatic 66, 3) := by decide +kernel
theorem d_Si_readReduced_9 : decode b_Si_readReduced 9 = .ok (.aload_n 0, 1) := by decide +kernel
theorem d_Si_readReduced_10 : decode b_Si_readReduced 10 = .ok (.getfield 20, 3) := by decide +kernel
theorem d_Si_readReduced_13 : decode b_Si_readReduced 13 = .ok (.aload_n 0, 1) := by decide +kernel
theorem d_Si_readReduced_14 : decode b_Si_readReduced 14 = .ok (.getfield 47, 3) := by decide +kernel
theorem d_Si_readReduced_17 : decode b_Si_readReduced 17 = .ok (.invokevirtual 146, 3) := by decide +kernel
theorem d_Si_readReduced_20 : decode b_Si_readReduced 20 = .ok (.return_, 1) := by decide +kernel
theorem fl_Si_47 : FL "PrimeKeys$Signer" 47 6 5 := ⟨R_Si, F_Si, 11, rfl, u_Si, by decide, rfl, tb_2 (List.mem_of_getElem? (i := 57) (by decide +kernel)) rfl⟩
theorem fl_Si_20 : FL "PrimeKeys$Signer" 20 6 0 := ⟨R_Si, F_Si, 11, rfl, u_Si, by decide, rfl, tb_2 (List.mem_of_getElem? (i := 52) (by decide +kernel)) rfl⟩
theorem cd_Si_146 : CD "PrimeKeys$Signer" 146 y_Mo_reduceOnce b_Mo_reduceOnce 2 none 1 := ⟨tb_1 (List.mem_of_getElem? (i := 98) rfl) rfl, tb_1 (List.mem_of_getElem? (i := 4) (by decide +kernel)) rfl, tb_3 (List.mem_of_getElem? (i := 172) (by decide +kernel)) rfl, by decide +kernel⟩
theorem cd_Si_66 : CD "PrimeKeys$Signer" 66 y_Li_read b_Li_read 8 none 3 := ⟨tb_1 (List.mem_of_getElem? (i := 78) rfl) rfl, tb_1 (List.mem_of_getElem? (i := 5) (by decide +kernel)) rfl, tb_3 (List.mem_of_getElem? (i := 83) (by decide +kernel)) rfl, by decide +kernel⟩
abbrev rm_Si_readReduced : Room := { frames := 2, cells := 0, slots := 0, locals := 51 }
def P_Si_readReduced (h : HP) (p0 : Nat) (p1 : Nat) : Option (HP) :=
  bnd (gR h p0 6 5) fun k1 =>
  bnd (P_Li_read h p1 0 k1) fun h2 =>
  bnd (gR h2 p0 6 0) fun k3 =>
  bnd (gR h2 p0 6 5) fun k4 =>
  ob h2 k3 1 (
  bnd (P_Mo_reduceOnce h2 k3 k4) fun h5 =>
  some h5)
set_option maxHeartbeats 4000000 in
set_option maxRecDepth 100000 in
theorem c_Si_readReduced {l : Launch} {h h' : HP} {p0 p1 : _} (hr : P_Si_readReduced h p0 p1 = some h') : MP l y_Si_readReduced (Cond.code y_Si_readReduced b_Si_readReduced 2 none :: TB) rm_Si_readReduced h [.ref p0, .ref p1] none h' := by
  refine MP_intro (cc := b_Si_readReduced) (by decide) (Nat.le_of_ble_eq_true rfl) (fun x hl0 C T hin => ?_)
  unfold P_Si_readReduced at hr
  show GG x 0 0 h 0 [(0, .ref p0), (1, .ref p1)] []
  refine g_aload_n C 1 rfl d_Si_readReduced_0 rfl ?_
  refine g_iconst (v := 0) C d_Si_readReduced_1 (by decide) ?_
  refine g_aload_n C 0 rfl d_Si_readReduced_2 rfl ?_
  obtain ⟨k1, ek1, hr⟩ := of_bnd hr
  refine g_getR C fl_Si_47 ek1 d_Si_readReduced_3 ?_
  obtain ⟨h2, eh2, hr⟩ := of_bnd hr
  refine g_callS (pa := [.ref p1, .int 0, .ref k1]) C hl0 (c_Li_read eh2) cd_Si_66 kw_st_Li_read (by decide) rfl rfl (Nat.le_of_ble_eq_true rfl) d_Si_readReduced_6 ?_
  refine g_aload_n C 0 rfl d_Si_readReduced_9 rfl ?_
  obtain ⟨k3, ek3, hr⟩ := of_bnd hr
  refine g_getR C fl_Si_20 ek3 d_Si_readReduced_10 ?_
  refine g_aload_n C 0 rfl d_Si_readReduced_13 rfl ?_
  obtain ⟨k4, ek4, hr⟩ := of_bnd hr
  refine g_getR C fl_Si_47 ek4 d_Si_readReduced_14 ?_
  obtain ⟨fsh5, hoh5, hr⟩ := of_ob hr
  obtain ⟨h5, eh5, hr⟩ := of_bnd hr
  refine g_callV (pa := [.ref k4]) C hl0 (c_Mo_reduceOnce eh5) cd_Si_146 kw_in_Mo_reduceOnce kw_se_Mo_reduceOnce hoh5 rfl rfl (by decide) rfl rfl (Nat.le_of_ble_eq_true rfl) d_Si_readReduced_17 ?_
  cases hr
  exact g_vreturn C T (by decide) (by decide) d_Si_readReduced_20
abbrev b_Si_readReducedX : ByteArray := prog_9_method_7_code
abbrev y_Si_readReducedX : MethodName := ⟨"PrimeKeys$Signer", "readReducedX", "(LPrimeKeys$Curve;)V"⟩
theorem d_Si_readReducedX_0 : decode b_Si_readReducedX 0 = .ok (.aload_n 1, 1) := by decide +kernel
theorem d_Si_readReducedX_1 : decode b_Si_readReducedX 1 = .ok (.aload_n 0, 1) := by decide +kernel
theorem d_Si_readReducedX_2 : decode b_Si_readReducedX 2 = .ok (.getfield 34, 3) := by decide +kernel
theorem d_Si_readReducedX_5 : decode b_Si_readReducedX 5 = .ok (.aload_n 0, 1) := by decide +kernel
theorem d_Si_readReducedX_6 : decode b_Si_readReducedX 6 = .ok (.getfield 50, 3) := by decide +kernel
theorem d_Si_readReducedX_9 : decode b_Si_readReducedX 9 = .ok (.aload_n 0, 1) := by decide +kernel
theorem d_Si_readReducedX_10 : decode b_Si_readReducedX 10 = .ok (.getfield 53, 3) := by decide +kernel
theorem d_Si_readReducedX_13 : decode b_Si_readReducedX 13 = .ok (.invokevirtual 150, 3) := by decide +kernel
theorem d_Si_readReducedX_16 : decode b_Si_readReducedX 16 = .ok (.aload_n 0, 1) := by decide +kernel
theorem d_Si_readReducedX_17 : decode b_Si_readReducedX 17 = .ok (.getfield 50, 3) := by decide +kernel
theorem d_Si_readReducedX_20 : decode b_Si_readReducedX 20 = .ok (.aload_n 0, 1) := by decide +kernel
theorem d_Si_readReducedX_21 : decode b_Si_readReducedX 21 = .ok (.getfield 40, 3) := by decide +kernel
theorem d_Si_readReducedX_24 : decode b_Si_readReducedX 24 = .ok (.invokestatic 154, 3) := by decide +kernel
theorem d_Si_readReducedX_27 : decode b_Si_readReducedX 27 = .ok (.aload_n 0, 1) := by decide +kernel
theorem d_Si_readReducedX_28 : decode b_Si_readReducedX 28 = .ok (.getfield 20, 3) := by decide +kernel
theorem d_Si_readReducedX_31 : decode b_Si_readReducedX 31 = .ok (.aload_n 0, 1) := by decide +kernel
theorem d_Si_readReducedX_32 : decode b_Si_readReducedX 32 = .ok (.getfield 40, 3) := by decide +kernel
theorem d_Si_readReducedX_35 : decode b_Si_readReducedX 35 = .ok (.invokevirtual 146, 3) := by decide +kernel
theorem d_Si_readReducedX_38 : decode b_Si_readReducedX 38 = .ok (.return_, 1) := by decide +kernel
theorem fl_Si_34 : FL "PrimeKeys$Signer" 34 6 2 := ⟨R_Si, F_Si, 11, rfl, u_Si, by decide, rfl, tb_2 (List.mem_of_getElem? (i := 54) (by decide +kernel)) rfl⟩
theorem fl_Si_50 : FL "PrimeKeys$Signer" 50 6 6 := ⟨R_Si, F_Si, 11, rfl, u_Si, by decide, rfl, tb_2 (List.mem_of_getElem? (i := 58) (by decide +kernel)) rfl⟩
theorem fl_Si_53 : FL "PrimeKeys$Signer" 53 6 7 := ⟨R_Si, F_Si, 11, rfl, u_Si, by decide, rfl, tb_2 (List.mem_of_getElem? (i := 59) (by decide +kernel)) rfl⟩
theorem fl_Si_40 : FL "PrimeKeys$Signer" 40 6 3 := ⟨R_Si, F_Si, 11, rfl, u_Si, by decide, rfl, tb_2 (List.mem_of_getElem? (i := 55) (by decide +kernel)) rfl⟩
theorem cd_Si_154 : CD "PrimeKeys$Signer" 154 y_Li_copy b_Li_copy 2 none 2 := ⟨tb_1 (List.mem_of_getElem? (i := 85) rfl) rfl, tb_1 (List.mem_of_getElem? (i := 5) (by decide +kernel)) rfl, tb_3 (List.mem_of_getElem? (i := 213) (by decide +kernel)) rfl, by decide +kernel⟩
theorem cd_Si_150 : CD "PrimeKeys$Signer" 150 y_Cu_readAffine b_Cu_readAffine 6 none 3 := ⟨tb_3 (List.mem_of_getElem? (i := 128) rfl) rfl, tb_1 (List.mem_of_getElem? (i := 3) (by decide +kernel)) rfl, tb_3 (List.mem_of_getElem? (i := 212) (by decide +kernel)) rfl, by decide +kernel⟩
theorem kw_in_Cu_readAffine : Cond.instanceMethod y_Cu_readAffine ∈ TB := tb_3 (List.mem_of_getElem? (i := 126) (by decide +kernel)) rfl
theorem kw_se_Cu_readAffine : Cond.selects "PrimeKeys$Curve" y_Cu_readAffine y_Cu_readAffine ∈ TB := tb_3 (List.mem_of_getElem? (i := 127) (by decide +kernel)) rfl
abbrev rm_Si_readReducedX : Room := { frames := 5, cells := 0, slots := 0, locals := 132 }
def P_Si_readReducedX (h : HP) (p0 : Nat) (p1 : Nat) : Option (HP) :=
  bnd (gR h p0 6 2) fun k1 =>
  bnd (gR h p0 6 6) fun k2 =>
  bnd (gR h p0 6 7) fun k3 =>
  ob h p1 0 (
  bnd (P_Cu_readAffine h p1 k1 k2 k3) fun h4 =>
  bnd (gR h4 p0 6 6) fun k5 =>
  bnd (gR h4 p0 6 3) fun k6 =>
  bnd (P_Li_copy h4 k5 k6) fun h7 =>
  bnd (gR h7 p0 6 0) fun k8 =>
  bnd (gR h7 p0 6 3) fun k9 =>
  ob h7 k8 1 (
  bnd (P_Mo_reduceOnce h7 k8 k9) fun h10 =>
  some h10))
set_option maxHeartbeats 4000000 in
set_option maxRecDepth 100000 in
theorem c_Si_readReducedX {l : Launch} {h h' : HP} {p0 p1 : _} (hr : P_Si_readReducedX h p0 p1 = some h') : MP l y_Si_readReducedX (Cond.code y_Si_readReducedX b_Si_readReducedX 2 none :: TB) rm_Si_readReducedX h [.ref p0, .ref p1] none h' := by
  refine MP_intro (cc := b_Si_readReducedX) (by decide) (Nat.le_of_ble_eq_true rfl) (fun x hl0 C T hin => ?_)
  unfold P_Si_readReducedX at hr
  show GG x 0 0 h 0 [(0, .ref p0), (1, .ref p1)] []
  refine g_aload_n C 1 rfl d_Si_readReducedX_0 rfl ?_
  refine g_aload_n C 0 rfl d_Si_readReducedX_1 rfl ?_
  obtain ⟨k1, ek1, hr⟩ := of_bnd hr
  refine g_getR C fl_Si_34 ek1 d_Si_readReducedX_2 ?_
  refine g_aload_n C 0 rfl d_Si_readReducedX_5 rfl ?_
  obtain ⟨k2, ek2, hr⟩ := of_bnd hr
  refine g_getR C fl_Si_50 ek2 d_Si_readReducedX_6 ?_
  refine g_aload_n C 0 rfl d_Si_readReducedX_9 rfl ?_
  obtain ⟨k3, ek3, hr⟩ := of_bnd hr
  refine g_getR C fl_Si_53 ek3 d_Si_readReducedX_10 ?_
  obtain ⟨fsh4, hoh4, hr⟩ := of_ob hr
  obtain ⟨h4, eh4, hr⟩ := of_bnd hr
  refine g_callV (pa := [.ref k1, .ref k2, .ref k3]) C hl0 (c_Cu_readAffine eh4) cd_Si_150 kw_in_Cu_readAffine kw_se_Cu_readAffine hoh4 rfl rfl (by decide) rfl rfl (Nat.le_of_ble_eq_true rfl) d_Si_readReducedX_13 ?_
  refine g_aload_n C 0 rfl d_Si_readReducedX_16 rfl ?_
  obtain ⟨k5, ek5, hr⟩ := of_bnd hr
  refine g_getR C fl_Si_50 ek5 d_Si_readReducedX_17 ?_
  refine g_aload_n C 0 rfl d_Si_readReducedX_20 rfl ?_
  obtain ⟨k6, ek6, hr⟩ := of_bnd hr
  refine g_getR C fl_Si_40 ek6 d_Si_readReducedX_21 ?_
  obtain ⟨h7, eh7, hr⟩ := of_bnd hr
  refine g_callS (pa := [.ref k5, .ref k6]) C hl0 (c_Li_copy eh7) cd_Si_154 kw_st_Li_copy (by decide) rfl rfl (Nat.le_of_ble_eq_true rfl) d_Si_readReducedX_24 ?_
  refine g_aload_n C 0 rfl d_Si_readReducedX_27 rfl ?_
  obtain ⟨k8, ek8, hr⟩ := of_bnd hr
  refine g_getR C fl_Si_20 ek8 d_Si_readReducedX_28 ?_
  refine g_aload_n C 0 rfl d_Si_readReducedX_31 rfl ?_
  obtain ⟨k9, ek9, hr⟩ := of_bnd hr
  refine g_getR C fl_Si_40 ek9 d_Si_readReducedX_32 ?_
  obtain ⟨fsh10, hoh10, hr⟩ := of_ob hr
  obtain ⟨h10, eh10, hr⟩ := of_bnd hr
  refine g_callV (pa := [.ref k9]) C hl0 (c_Mo_reduceOnce eh10) cd_Si_146 kw_in_Mo_reduceOnce kw_se_Mo_reduceOnce hoh10 rfl rfl (by decide) rfl rfl (Nat.le_of_ble_eq_true rfl) d_Si_readReducedX_35 ?_
  cases hr
  exact g_vreturn C T (by decide) (by decide) d_Si_readReducedX_38
abbrev b_Si_fillS : ByteArray := prog_9_method_8_code
abbrev y_Si_fillS : MethodName := ⟨"PrimeKeys$Signer", "fillS", "([B[B)V"⟩
theorem d_Si_fillS_0 : decode b_Si_fillS 0 = .ok (.aload_n 1, 1) := by decide +kernel
theorem d_Si_fillS_1 : decode b_Si_fillS 1 = .ok (.iconst 0, 1) := by decide +kernel
theorem d_Si_fillS_2 : decode b_Si_fillS 2 = .ok (.aload_n 0, 1) := by decide +kernel
theorem d_Si_fillS_3 : decode b_Si_fillS 3 = .ok (.getfield 56, 3) := by decide +kernel
theorem d_Si_fillS_6 : decode b_Si_fillS 6 = .ok (.invokestatic 66, 3) := by decide +kernel
theorem d_Si_fillS_9 : decode b_Si_fillS 9 = .ok (.aload_n 0, 1) := by decide +kernel
theorem d_Si_fillS_10 : decode b_Si_fillS 10 = .ok (.getfield 20, 3) := by decide +kernel
theorem d_Si_fillS_13 : decode b_Si_fillS 13 = .ok (.aload_n 0, 1) := by decide +kernel
theorem d_Si_fillS_14 : decode b_Si_fillS 14 = .ok (.getfield 56, 3) := by decide +kernel
theorem d_Si_fillS_17 : decode b_Si_fillS 17 = .ok (.aload_n 0, 1) := by decide +kernel
theorem d_Si_fillS_18 : decode b_Si_fillS 18 = .ok (.getfield 56, 3) := by decide +kernel
theorem d_Si_fillS_21 : decode b_Si_fillS 21 = .ok (.invokevirtual 128, 3) := by decide +kernel
theorem d_Si_fillS_24 : decode b_Si_fillS 24 = .ok (.aload_n 0, 1) := by decide +kernel
theorem d_Si_fillS_25 : decode b_Si_fillS 25 = .ok (.getfield 20, 3) := by decide +kernel
theorem d_Si_fillS_28 : decode b_Si_fillS 28 = .ok (.aload_n 0, 1) := by decide +kernel
theorem d_Si_fillS_29 : decode b_Si_fillS 29 = .ok (.getfield 40, 3) := by decide +kernel
theorem d_Si_fillS_32 : decode b_Si_fillS 32 = .ok (.aload_n 0, 1) := by decide +kernel
theorem d_Si_fillS_33 : decode b_Si_fillS 33 = .ok (.getfield 56, 3) := by decide +kernel
theorem d_Si_fillS_36 : decode b_Si_fillS 36 = .ok (.aload_n 0, 1) := by decide +kernel
theorem d_Si_fillS_37 : decode b_Si_fillS 37 = .ok (.getfield 44, 3) := by decide +kernel
theorem d_Si_fillS_40 : decode b_Si_fillS 40 = .ok (.invokevirtual 135, 3) := by decide +kernel
theorem d_Si_fillS_43 : decode b_Si_fillS 43 = .ok (.aload_n 0, 1) := by decide +kernel
theorem d_Si_fillS_44 : decode b_Si_fillS 44 = .ok (.getfield 20, 3) := by decide +kernel
theorem d_Si_fillS_47 : decode b_Si_fillS 47 = .ok (.aload_n 0, 1) := by decide +kernel
theorem d_Si_fillS_48 : decode b_Si_fillS 48 = .ok (.getfield 44, 3) := by decide +kernel
theorem d_Si_fillS_51 : decode b_Si_fillS 51 = .ok (.aload_n 0, 1) := by decide +kernel
theorem d_Si_fillS_52 : decode b_Si_fillS 52 = .ok (.getfield 47, 3) := by decide +kernel
theorem d_Si_fillS_55 : decode b_Si_fillS 55 = .ok (.aload_n 0, 1) := by decide +kernel
theorem d_Si_fillS_56 : decode b_Si_fillS 56 = .ok (.getfield 44, 3) := by decide +kernel
theorem d_Si_fillS_59 : decode b_Si_fillS 59 = .ok (.invokevirtual 157, 3) := by decide +kernel
theorem d_Si_fillS_62 : decode b_Si_fillS 62 = .ok (.aload_n 2, 1) := by decide +kernel
theorem d_Si_fillS_63 : decode b_Si_fillS 63 = .ok (.iconst 0, 1) := by decide +kernel
theorem d_Si_fillS_64 : decode b_Si_fillS 64 = .ok (.aload_n 0, 1) := by decide +kernel
theorem d_Si_fillS_65 : decode b_Si_fillS 65 = .ok (.getfield 56, 3) := by decide +kernel
theorem d_Si_fillS_68 : decode b_Si_fillS 68 = .ok (.invokestatic 66, 3) := by decide +kernel
theorem d_Si_fillS_71 : decode b_Si_fillS 71 = .ok (.aload_n 0, 1) := by decide +kernel
theorem d_Si_fillS_72 : decode b_Si_fillS 72 = .ok (.getfield 20, 3) := by decide +kernel
theorem d_Si_fillS_75 : decode b_Si_fillS 75 = .ok (.aload_n 0, 1) := by decide +kernel
theorem d_Si_fillS_76 : decode b_Si_fillS 76 = .ok (.getfield 56, 3) := by decide +kernel
theorem d_Si_fillS_79 : decode b_Si_fillS 79 = .ok (.aload_n 0, 1) := by decide +kernel
theorem d_Si_fillS_80 : decode b_Si_fillS 80 = .ok (.getfield 56, 3) := by decide +kernel
theorem d_Si_fillS_83 : decode b_Si_fillS 83 = .ok (.invokevirtual 128, 3) := by decide +kernel
theorem d_Si_fillS_86 : decode b_Si_fillS 86 = .ok (.aload_n 0, 1) := by decide +kernel
theorem d_Si_fillS_87 : decode b_Si_fillS 87 = .ok (.getfield 20, 3) := by decide +kernel
theorem d_Si_fillS_90 : decode b_Si_fillS 90 = .ok (.aload_n 0, 1) := by decide +kernel
theorem d_Si_fillS_91 : decode b_Si_fillS 91 = .ok (.getfield 56, 3) := by decide +kernel
theorem d_Si_fillS_94 : decode b_Si_fillS 94 = .ok (.aload_n 0, 1) := by decide +kernel
theorem d_Si_fillS_95 : decode b_Si_fillS 95 = .ok (.getfield 56, 3) := by decide +kernel
theorem d_Si_fillS_98 : decode b_Si_fillS 98 = .ok (.invokevirtual 132, 3) := by decide +kernel
theorem d_Si_fillS_101 : decode b_Si_fillS 101 = .ok (.aload_n 0, 1) := by decide +kernel
theorem d_Si_fillS_102 : decode b_Si_fillS 102 = .ok (.getfield 20, 3) := by decide +kernel
theorem d_Si_fillS_105 : decode b_Si_fillS 105 = .ok (.aload_n 0, 1) := by decide +kernel
theorem d_Si_fillS_106 : decode b_Si_fillS 106 = .ok (.getfield 44, 3) := by decide +kernel
theorem d_Si_fillS_109 : decode b_Si_fillS 109 = .ok (.aload_n 0, 1) := by decide +kernel
theorem d_Si_fillS_110 : decode b_Si_fillS 110 = .ok (.getfield 56, 3) := by decide +kernel
theorem d_Si_fillS_113 : decode b_Si_fillS 113 = .ok (.aload_n 0, 1) := by decide +kernel
theorem d_Si_fillS_114 : decode b_Si_fillS 114 = .ok (.getfield 44, 3) := by decide +kernel
theorem d_Si_fillS_117 : decode b_Si_fillS 117 = .ok (.invokevirtual 135, 3) := by decide +kernel
theorem d_Si_fillS_120 : decode b_Si_fillS 120 = .ok (.return_, 1) := by decide +kernel
theorem fl_Si_56 : FL "PrimeKeys$Signer" 56 6 8 := ⟨R_Si, F_Si, 11, rfl, u_Si, by decide, rfl, tb_2 (List.mem_of_getElem? (i := 60) (by decide +kernel)) rfl⟩
theorem fl_Si_44 : FL "PrimeKeys$Signer" 44 6 4 := ⟨R_Si, F_Si, 11, rfl, u_Si, by decide, rfl, tb_2 (List.mem_of_getElem? (i := 56) (by decide +kernel)) rfl⟩
theorem cd_Si_135 : CD "PrimeKeys$Signer" 135 y_Mo_multiply b_Mo_multiply 4 none 3 := ⟨tb_1 (List.mem_of_getElem? (i := 165) rfl) rfl, tb_1 (List.mem_of_getElem? (i := 4) (by decide +kernel)) rfl, tb_3 (List.mem_of_getElem? (i := 219) (by decide +kernel)) rfl, by decide +kernel⟩
theorem cd_Si_132 : CD "PrimeKeys$Signer" 132 y_Mo_invert b_Mo_invert 4 none 2 := ⟨tb_3 (List.mem_of_getElem? (i := 132) rfl) rfl, tb_1 (List.mem_of_getElem? (i := 4) (by decide +kernel)) rfl, tb_3 (List.mem_of_getElem? (i := 221) (by decide +kernel)) rfl, by decide +kernel⟩
theorem cd_Si_128 : CD "PrimeKeys$Signer" 128 y_Mo_enterForm b_Mo_enterForm 3 none 2 := ⟨tb_1 (List.mem_of_getElem? (i := 161) rfl) rfl, tb_1 (List.mem_of_getElem? (i := 4) (by decide +kernel)) rfl, tb_3 (List.mem_of_getElem? (i := 218) (by decide +kernel)) rfl, by decide +kernel⟩
theorem cd_Si_157 : CD "PrimeKeys$Signer" 157 y_Mo_add b_Mo_add 7 none 3 := ⟨tb_1 (List.mem_of_getElem? (i := 93) rfl) rfl, tb_1 (List.mem_of_getElem? (i := 4) (by decide +kernel)) rfl, tb_3 (List.mem_of_getElem? (i := 220) (by decide +kernel)) rfl, by decide +kernel⟩
abbrev rm_Si_fillS : Room := { frames := 4, cells := 0, slots := 0, locals := 107 }
def P_Si_fillS (h : HP) (p0 : Nat) (p1 : Nat) (p2 : Nat) : Option (HP) :=
  bnd (gR h p0 6 8) fun k1 =>
  bnd (P_Li_read h p1 0 k1) fun h2 =>
  bnd (gR h2 p0 6 0) fun k3 =>
  bnd (gR h2 p0 6 8) fun k4 =>
  bnd (gR h2 p0 6 8) fun k5 =>
  ob h2 k3 1 (
  bnd (P_Mo_enterForm h2 k3 k4 k5) fun h6 =>
  bnd (gR h6 p0 6 0) fun k7 =>
  bnd (gR h6 p0 6 3) fun k8 =>
  bnd (gR h6 p0 6 8) fun k9 =>
  bnd (gR h6 p0 6 4) fun k10 =>
  ob h6 k7 1 (
  bnd (P_Mo_multiply h6 k7 k8 k9 k10) fun h11 =>
  bnd (gR h11 p0 6 0) fun k12 =>
  bnd (gR h11 p0 6 4) fun k13 =>
  bnd (gR h11 p0 6 5) fun k14 =>
  bnd (gR h11 p0 6 4) fun k15 =>
  ob h11 k12 1 (
  bnd (P_Mo_add h11 k12 k13 k14 k15) fun h16 =>
  bnd (gR h16 p0 6 8) fun k17 =>
  bnd (P_Li_read h16 p2 0 k17) fun h18 =>
  bnd (gR h18 p0 6 0) fun k19 =>
  bnd (gR h18 p0 6 8) fun k20 =>
  bnd (gR h18 p0 6 8) fun k21 =>
  ob h18 k19 1 (
  bnd (P_Mo_enterForm h18 k19 k20 k21) fun h22 =>
  bnd (gR h22 p0 6 0) fun k23 =>
  bnd (gR h22 p0 6 8) fun k24 =>
  bnd (gR h22 p0 6 8) fun k25 =>
  ob h22 k23 1 (
  bnd (P_Mo_invert h22 k23 k24 k25) fun h26 =>
  bnd (gR h26 p0 6 0) fun k27 =>
  bnd (gR h26 p0 6 4) fun k28 =>
  bnd (gR h26 p0 6 8) fun k29 =>
  bnd (gR h26 p0 6 4) fun k30 =>
  ob h26 k27 1 (
  bnd (P_Mo_multiply h26 k27 k28 k29 k30) fun h31 =>
  some h31))))))
set_option maxHeartbeats 4000000 in
set_option maxRecDepth 100000 in
theorem c_Si_fillS {l : Launch} {h h' : HP} {p0 p1 p2 : _} (hr : P_Si_fillS h p0 p1 p2 = some h') : MP l y_Si_fillS (Cond.code y_Si_fillS b_Si_fillS 3 none :: TB) rm_Si_fillS h [.ref p0, .ref p1, .ref p2] none h' := by
  refine MP_intro (cc := b_Si_fillS) (by decide) (Nat.le_of_ble_eq_true rfl) (fun x hl0 C T hin => ?_)
  unfold P_Si_fillS at hr
  show GG x 0 0 h 0 [(0, .ref p0), (1, .ref p1), (2, .ref p2)] []
  refine g_aload_n C 1 rfl d_Si_fillS_0 rfl ?_
  refine g_iconst (v := 0) C d_Si_fillS_1 (by decide) ?_
  refine g_aload_n C 0 rfl d_Si_fillS_2 rfl ?_
  obtain ⟨k1, ek1, hr⟩ := of_bnd hr
  refine g_getR C fl_Si_56 ek1 d_Si_fillS_3 ?_
  obtain ⟨h2, eh2, hr⟩ := of_bnd hr
  refine g_callS (pa := [.ref p1, .int 0, .ref k1]) C hl0 (c_Li_read eh2) cd_Si_66 kw_st_Li_read (by decide) rfl rfl (Nat.le_of_ble_eq_true rfl) d_Si_fillS_6 ?_
  refine g_aload_n C 0 rfl d_Si_fillS_9 rfl ?_
  obtain ⟨k3, ek3, hr⟩ := of_bnd hr
  refine g_getR C fl_Si_20 ek3 d_Si_fillS_10 ?_
  refine g_aload_n C 0 rfl d_Si_fillS_13 rfl ?_
  obtain ⟨k4, ek4, hr⟩ := of_bnd hr
  refine g_getR C fl_Si_56 ek4 d_Si_fillS_14 ?_
  refine g_aload_n C 0 rfl d_Si_fillS_17 rfl ?_
  obtain ⟨k5, ek5, hr⟩ := of_bnd hr
  refine g_getR C fl_Si_56 ek5 d_Si_fillS_18 ?_
  obtain ⟨fsh6, hoh6, hr⟩ := of_ob hr
  obtain ⟨h6, eh6, hr⟩ := of_bnd hr
  refine g_callV (pa := [.ref k4, .ref k5]) C hl0 (c_Mo_enterForm eh6) cd_Si_128 kw_in_Mo_enterForm kw_se_Mo_enterForm hoh6 rfl rfl (by decide) rfl rfl (Nat.le_of_ble_eq_true rfl) d_Si_fillS_21 ?_
  refine g_aload_n C 0 rfl d_Si_fillS_24 rfl ?_
  obtain ⟨k7, ek7, hr⟩ := of_bnd hr
  refine g_getR C fl_Si_20 ek7 d_Si_fillS_25 ?_
  refine g_aload_n C 0 rfl d_Si_fillS_28 rfl ?_
  obtain ⟨k8, ek8, hr⟩ := of_bnd hr
  refine g_getR C fl_Si_40 ek8 d_Si_fillS_29 ?_
  refine g_aload_n C 0 rfl d_Si_fillS_32 rfl ?_
  obtain ⟨k9, ek9, hr⟩ := of_bnd hr
  refine g_getR C fl_Si_56 ek9 d_Si_fillS_33 ?_
  refine g_aload_n C 0 rfl d_Si_fillS_36 rfl ?_
  obtain ⟨k10, ek10, hr⟩ := of_bnd hr
  refine g_getR C fl_Si_44 ek10 d_Si_fillS_37 ?_
  obtain ⟨fsh11, hoh11, hr⟩ := of_ob hr
  obtain ⟨h11, eh11, hr⟩ := of_bnd hr
  refine g_callV (pa := [.ref k8, .ref k9, .ref k10]) C hl0 (c_Mo_multiply eh11) cd_Si_135 kw_in_Mo_multiply kw_se_Mo_multiply hoh11 rfl rfl (by decide) rfl rfl (Nat.le_of_ble_eq_true rfl) d_Si_fillS_40 ?_
  refine g_aload_n C 0 rfl d_Si_fillS_43 rfl ?_
  obtain ⟨k12, ek12, hr⟩ := of_bnd hr
  refine g_getR C fl_Si_20 ek12 d_Si_fillS_44 ?_
  refine g_aload_n C 0 rfl d_Si_fillS_47 rfl ?_
  obtain ⟨k13, ek13, hr⟩ := of_bnd hr
  refine g_getR C fl_Si_44 ek13 d_Si_fillS_48 ?_
  refine g_aload_n C 0 rfl d_Si_fillS_51 rfl ?_
  obtain ⟨k14, ek14, hr⟩ := of_bnd hr
  refine g_getR C fl_Si_47 ek14 d_Si_fillS_52 ?_
  refine g_aload_n C 0 rfl d_Si_fillS_55 rfl ?_
  obtain ⟨k15, ek15, hr⟩ := of_bnd hr
  refine g_getR C fl_Si_44 ek15 d_Si_fillS_56 ?_
  obtain ⟨fsh16, hoh16, hr⟩ := of_ob hr
  obtain ⟨h16, eh16, hr⟩ := of_bnd hr
  refine g_callV (pa := [.ref k13, .ref k14, .ref k15]) C hl0 (c_Mo_add eh16) cd_Si_157 kw_in_Mo_add kw_se_Mo_add hoh16 rfl rfl (by decide) rfl rfl (Nat.le_of_ble_eq_true rfl) d_Si_fillS_59 ?_
  refine g_aload_n C 2 rfl d_Si_fillS_62 rfl ?_
  refine g_iconst (v := 0) C d_Si_fillS_63 (by decide) ?_
  refine g_aload_n C 0 rfl d_Si_fillS_64 rfl ?_
  obtain ⟨k17, ek17, hr⟩ := of_bnd hr
  refine g_getR C fl_Si_56 ek17 d_Si_fillS_65 ?_
  obtain ⟨h18, eh18, hr⟩ := of_bnd hr
  refine g_callS (pa := [.ref p2, .int 0, .ref k17]) C hl0 (c_Li_read eh18) cd_Si_66 kw_st_Li_read (by decide) rfl rfl (Nat.le_of_ble_eq_true rfl) d_Si_fillS_68 ?_
  refine g_aload_n C 0 rfl d_Si_fillS_71 rfl ?_
  obtain ⟨k19, ek19, hr⟩ := of_bnd hr
  refine g_getR C fl_Si_20 ek19 d_Si_fillS_72 ?_
  refine g_aload_n C 0 rfl d_Si_fillS_75 rfl ?_
  obtain ⟨k20, ek20, hr⟩ := of_bnd hr
  refine g_getR C fl_Si_56 ek20 d_Si_fillS_76 ?_
  refine g_aload_n C 0 rfl d_Si_fillS_79 rfl ?_
  obtain ⟨k21, ek21, hr⟩ := of_bnd hr
  refine g_getR C fl_Si_56 ek21 d_Si_fillS_80 ?_
  obtain ⟨fsh22, hoh22, hr⟩ := of_ob hr
  obtain ⟨h22, eh22, hr⟩ := of_bnd hr
  refine g_callV (pa := [.ref k20, .ref k21]) C hl0 (c_Mo_enterForm eh22) cd_Si_128 kw_in_Mo_enterForm kw_se_Mo_enterForm hoh22 rfl rfl (by decide) rfl rfl (Nat.le_of_ble_eq_true rfl) d_Si_fillS_83 ?_
  refine g_aload_n C 0 rfl d_Si_fillS_86 rfl ?_
  obtain ⟨k23, ek23, hr⟩ := of_bnd hr
  refine g_getR C fl_Si_20 ek23 d_Si_fillS_87 ?_
  refine g_aload_n C 0 rfl d_Si_fillS_90 rfl ?_
  obtain ⟨k24, ek24, hr⟩ := of_bnd hr
  refine g_getR C fl_Si_56 ek24 d_Si_fillS_91 ?_
  refine g_aload_n C 0 rfl d_Si_fillS_94 rfl ?_
  obtain ⟨k25, ek25, hr⟩ := of_bnd hr
  refine g_getR C fl_Si_56 ek25 d_Si_fillS_95 ?_
  obtain ⟨fsh26, hoh26, hr⟩ := of_ob hr
  obtain ⟨h26, eh26, hr⟩ := of_bnd hr
  refine g_callV (pa := [.ref k24, .ref k25]) C hl0 (c_Mo_invert eh26) cd_Si_132 kw_in_Mo_invert kw_se_Mo_invert hoh26 rfl rfl (by decide) rfl rfl (Nat.le_of_ble_eq_true rfl) d_Si_fillS_98 ?_
  refine g_aload_n C 0 rfl d_Si_fillS_101 rfl ?_
  obtain ⟨k27, ek27, hr⟩ := of_bnd hr
  refine g_getR C fl_Si_20 ek27 d_Si_fillS_102 ?_
  refine g_aload_n C 0 rfl d_Si_fillS_105 rfl ?_
  obtain ⟨k28, ek28, hr⟩ := of_bnd hr
  refine g_getR C fl_Si_44 ek28 d_Si_fillS_106 ?_
  refine g_aload_n C 0 rfl d_Si_fillS_109 rfl ?_
  obtain ⟨k29, ek29, hr⟩ := of_bnd hr
  refine g_getR C fl_Si_56 ek29 d_Si_fillS_110 ?_
  refine g_aload_n C 0 rfl d_Si_fillS_113 rfl ?_
  obtain ⟨k30, ek30, hr⟩ := of_bnd hr
  refine g_getR C fl_Si_44 ek30 d_Si_fillS_114 ?_
  obtain ⟨fsh31, hoh31, hr⟩ := of_ob hr
  obtain ⟨h31, eh31, hr⟩ := of_bnd hr
  refine g_callV (pa := [.ref k28, .ref k29, .ref k30]) C hl0 (c_Mo_multiply eh31) cd_Si_135 kw_in_Mo_multiply kw_se_Mo_multiply hoh31 rfl rfl (by decide) rfl rfl (Nat.le_of_ble_eq_true rfl) d_Si_fillS_117 ?_
  cases hr
  exact g_vreturn C T (by decide) (by decide) d_Si_fillS_120
abbrev b_Si_isInRange1 : ByteArray := prog_9_method_2_code
abbrev y_Si_isInRange1 : MethodName := ⟨"PrimeKeys$Signer", "isInRange", "([BI)Z"⟩
theorem d_Si_isInRange1_0 : decode b_Si_isInRange1 0 = .ok (.aload_n 1, 1) := by decide +kernel
theorem d_Si_isInRange1_1 : decode b_Si_isInRange1 1 = .ok (.iload_n 2, 1) := by decide +kernel
theorem d_Si_isInRange1_2 : decode b_Si_isInRange1 2 = .ok (.aload_n 0, 1) := by decide +kernel
theorem d_Si_isInRange1_3 : decode b_Si_isInRange1 3 = .ok (.getfield 56, 3) := by decide +kernel
theorem d_Si_isInRange1_6 : decode b_Si_isInRange1 6 = .ok (.invokestatic 66, 3) := by decide +kernel
theorem d_Si_isInRange1_9 : decode b_Si_isInRange1 9 = .ok (.aload_n 0, 1) := by decide +kernel
theorem d_Si_isInRange1_10 : decode b_Si_isInRange1 10 = .ok (.getfield 20, 3) := by decide +kernel
theorem d_Si_isInRange1_13 : decode b_Si_isInRange1 13 = .ok (.aload_n 0, 1) := by decide +kernel
theorem d_Si_isInRange1_14 : decode b_Si_isInRange1 14 = .ok (.getfield 56, 3) := by decide +kernel
theorem d_Si_isInRange1_17 : decode b_Si_isInRange1 17 = .ok (.invokevirtual 70, 3) := by decide +kernel
theorem d_Si_isInRange1_20 : decode b_Si_isInRange1 20 = .ok (.ifCond .eq 17, 3) := by decide +kernel
theorem d_Si_isInRange1_23 : decode b_Si_isInRange1 23 = .ok (.aload_n 0, 1) := by decide +kernel
theorem d_Si_isInRange1_24 : decode b_Si_isInRange1 24 = .ok (.getfield 56, 3) := by decide +kernel
theorem d_Si_isInRange1_27 : decode b_Si_isInRange1 27 = .ok (.invokestatic 74, 3) := by decide +kernel
theorem d_Si_isInRange1_30 : decode b_Si_isInRange1 30 = .ok (.ifCond .ne 7, 3) := by decide +kernel
theorem d_Si_isInRange1_33 : decode b_Si_isInRange1 33 = .ok (.iconst 1, 1) := by decide +kernel
theorem d_Si_isInRange1_34 : decode b_Si_isInRange1 34 = .ok (.goto 4, 3) := by decide +kernel
theorem d_Si_isInRange1_37 : decode b_Si_isInRange1 37 = .ok (.iconst 0, 1) := by decide +kernel
theorem d_Si_isInRange1_38 : decode b_Si_isInRange1 38 = .ok (.ireturn, 1) := by decide +kernel
theorem cd_Si_74 : CD "PrimeKeys$Signer" 74 y_Li_areZero b_Li_areZero 4 (some .boolean) 1 := ⟨tb_1 (List.mem_of_getElem? (i := 214) rfl) rfl, tb_1 (List.mem_of_getElem? (i := 5) (by decide +kernel)) rfl, tb_3 (List.mem_of_getElem? (i := 88) (by decide +kernel)) rfl, by decide +kernel⟩
theorem cd_Si_70 : CD "PrimeKeys$Signer" 70 y_Mo_isAbove b_Mo_isAbove 2 (some .boolean) 1 := ⟨tb_3 (List.mem_of_getElem? (i := 87) rfl) rfl, tb_1 (List.mem_of_getElem? (i := 4) (by decide +kernel)) rfl, tb_3 (List.mem_of_getElem? (i := 84) (by decide +kernel)) rfl, by decide +kernel⟩
abbrev rm_Si_isInRange1 : Room := { frames := 2, cells := 0, slots := 0, locals := 51 }
def B_Si_isInRange1_37 (h : HP) : Option (Int32 × HP) :=
  some (0, h)
set_option maxHeartbeats 4000000 in
set_option maxRecDepth 100000 in
theorem bk_Si_isInRange1_37 {l : Launch} {x : CX} {h0 h' : HP} {r' : Int32} (C : EV x b_Si_isInRange1 "PrimeKeys$Signer" 3 rm_Si_isInRange1) (T : CT x (some .boolean) rm_Si_isInRange1 h0 (some (.int r')) h') (hl0 : x.1.2.1 = l) (h : HP) (hr : B_Si_isInRange1_37 h = some (r', h')) : GG x 0 0 h 37 [] [] := by
  unfold B_Si_isInRange1_37 at hr
  refine g_iconst (v := 0) C d_Si_isInRange1_37 (by decide) ?_
  cases hr
  exact g_ireturn C T rfl (by decide) (by decide) d_Si_isInRange1_38
def P_Si_isInRange1 (h : HP) (p0 : Nat) (p1 : Nat) (p2 : Int32) : Option (Int32 × HP) :=
  bnd (gR h p0 6 8) fun k1 =>
  bnd (P_Li_read h p1 p2 k1) fun h2 =>
  bnd (gR h2 p0 6 0) fun k3 =>
  bnd (gR h2 p0 6 8) fun k4 =>
  ob h2 k3 1 (
  bnd2 (P_Mo_isAbove h2 k3 k4) fun v6 h5 =>
  if v6 = 0 then
  B_Si_isInRange1_37 h5
  else
  bnd (gR h5 p0 6 8) fun k7 =>
  bnd2 (P_Li_areZero h5 k7) fun v9 h8 =>
  if v9 = 0 then
  some (1, h8)
  else
  B_Si_isInRange1_37 h8)
set_option maxHeartbeats 4000000 in
set_option maxRecDepth 100000 in
theorem c_Si_isInRange1 {l : Launch} {h h' : HP} {p0 p1 p2 : _} {r' : Int32} (hr : P_Si_isInRange1 h p0 p1 p2 = some (r', h')) : MP l y_Si_isInRange1 (Cond.code y_Si_isInRange1 b_Si_isInRange1 3 (some .boolean) :: TB) rm_Si_isInRange1 h [.ref p0, .ref p1, .int p2] (some (.int r')) h' := by
  refine MP_intro (cc := b_Si_isInRange1) (by decide) (Nat.le_of_ble_eq_true rfl) (fun x hl0 C T hin => ?_)
  unfold P_Si_isInRange1 at hr
  show GG x 0 0 h 0 [(0, .ref p0), (1, .ref p1), (2, .int p2)] []
  refine g_aload_n C 1 rfl d_Si_isInRange1_0 rfl ?_
  refine g_iload_n C 2 rfl d_Si_isInRange1_1 rfl ?_
  refine g_aload_n C 0 rfl d_Si_isInRange1_2 rfl ?_
  obtain ⟨k1, ek1, hr⟩ := of_bnd hr
  refine g_getR C fl_Si_56 ek1 d_Si_isInRange1_3 ?_
  obtain ⟨h2, eh2, hr⟩ := of_bnd hr
  refine g_callS (pa := [.ref p1, .int p2, .ref k1]) C hl0 (c_Li_read eh2) cd_Si_66 kw_st_Li_read (by decide) rfl rfl (Nat.le_of_ble_eq_true rfl) d_Si_isInRange1_6 ?_
  refine g_aload_n C 0 rfl d_Si_isInRange1_9 rfl ?_
  obtain ⟨k3, ek3, hr⟩ := of_bnd hr
  refine g_getR C fl_Si_20 ek3 d_Si_isInRange1_10 ?_
  refine g_aload_n C 0 rfl d_Si_isInRange1_13 rfl ?_
  obtain ⟨k4, ek4, hr⟩ := of_bnd hr
  refine g_getR C fl_Si_56 ek4 d_Si_isInRange1_14 ?_
  obtain ⟨fsh5, hoh5, hr⟩ := of_ob hr
  obtain ⟨v6, h5, eh5, hr⟩ := of_bnd2 hr
  refine g_callV (pa := [.ref k4]) C hl0 (c_Mo_isAbove eh5) cd_Si_70 kw_in_Mo_isAbove kw_se_Mo_isAbove hoh5 rfl rfl (by decide) rfl rfl (Nat.le_of_ble_eq_true rfl) d_Si_isInRange1_17 ?_
  refine g_if_eq (tgt := 37) C d_Si_isInRange1_20 (by decide) (fun z => ?_) (fun z => ?_)
  · have hr := of_if z hr
    refine g_lv [] rfl ?_
    exact bk_Si_isInRange1_37 C T hl0 h5 hr
  · have hr := of_el z hr
    refine g_aload_n C 0 rfl d_Si_isInRange1_23 rfl ?_
    obtain ⟨k7, ek7, hr⟩ := of_bnd hr
    refine g_getR C fl_Si_56 ek7 d_Si_isInRange1_24 ?_
    obtain ⟨v9, h8, eh8, hr⟩ := of_bnd2 hr
    refine g_callS (pa := [.ref k7]) C hl0 (c_Li_areZero eh8) cd_Si_74 kw_st_Li_areZero (by decide) rfl rfl (Nat.le_of_ble_eq_true rfl) d_Si_isInRange1_27 ?_
    refine g_if_ne (tgt := 37) C d_Si_isInRange1_30 (by decide) (fun z => ?_) (fun z => ?_)
    · have hr := of_el z hr
      refine g_lv [] rfl ?_
      exact bk_Si_isInRange1_37 C T hl0 h8 hr
    · have hr := of_if z hr
      refine g_iconst (v := 1) C d_Si_isInRange1_33 (by decide) ?_
      refine g_goto (tgt := 38) C d_Si_isInRange1_34 (by decide) ?_
      cases hr
      exact g_ireturn C T rfl (by decide) (by decide) d_Si_isInRange1_38
abbrev b_Si_isInRange2 : ByteArray := prog_9_method_3_code
abbrev y_Si_isInRange2 : MethodName := ⟨"PrimeKeys$Signer", "isInRange", "(LPrimeKeys$Signature;)Z"⟩
theorem d_Si_isInRange2_0 : decode b_Si_isInRange2 0 = .ok (.aload_n 1, 1) := by decide +kernel
theorem d_Si_isInRange2_1 : decode b_Si_isInRange2 1 = .ok (.invokevirtual 77, 3) := by decide +kernel
theorem d_Si_isInRange2_4 : decode b_Si_isInRange2 4 = .ok (.ifCond .eq 31, 3) := by decide +kernel
theorem d_Si_isInRange2_7 : decode b_Si_isInRange2 7 = .ok (.aload_n 0, 1) := by decide +kernel
theorem d_Si_isInRange2_8 : decode b_Si_isInRange2 8 = .ok (.aload_n 1, 1) := by decide +kernel
theorem d_Si_isInRange2_9 : decode b_Si_isInRange2 9 = .ok (.getfield 83, 3) := by decide +kernel
theorem d_Si_isInRange2_12 : decode b_Si_isInRange2 12 = .ok (.iconst 1, 1) := by decide +kernel
theorem d_Si_isInRange2_13 : decode b_Si_isInRange2 13 = .ok (.invokevirtual 85, 3) := by decide +kernel
theorem d_Si_isInRange2_16 : decode b_Si_isInRange2 16 = .ok (.ifCond .eq 19, 3) := by decide +kernel
theorem d_Si_isInRange2_19 : decode b_Si_isInRange2 19 = .ok (.aload_n 0, 1) := by decide +kernel
theorem d_Si_isInRange2_20 : decode b_Si_isInRange2 20 = .ok (.aload_n 1, 1) := by decide +kernel
theorem d_Si_isInRange2_21 : decode b_Si_isInRange2 21 = .ok (.getfield 89, 3) := by decide +kernel
theorem d_Si_isInRange2_24 : decode b_Si_isInRange2 24 = .ok (.iconst 1, 1) := by decide +kernel
theorem d_Si_isInRange2_25 : decode b_Si_isInRange2 25 = .ok (.invokevirtual 85, 3) := by decide +kernel
theorem d_Si_isInRange2_28 : decode b_Si_isInRange2 28 = .ok (.ifCond .eq 7, 3) := by decide +kernel
theorem d_Si_isInRange2_31 : decode b_Si_isInRange2 31 = .ok (.iconst 1, 1) := by decide +kernel
theorem d_Si_isInRange2_32 : decode b_Si_isInRange2 32 = .ok (.goto 4, 3) := by decide +kernel
theorem d_Si_isInRange2_35 : decode b_Si_isInRange2 35 = .ok (.iconst 0, 1) := by decide +kernel
theorem d_Si_isInRange2_36 : decode b_Si_isInRange2 36 = .ok (.ireturn, 1) := by decide +kernel
theorem fl_Si_83 : FL "PrimeKeys$Signer" 83 5 0 := ⟨R_Sg, F_Sg, 2, rfl, u_Sg, by decide, rfl, tb_2 (List.mem_of_getElem? (i := 93) (by decide +kernel)) rfl⟩
theorem fl_Si_89 : FL "PrimeKeys$Signer" 89 5 1 := ⟨R_Sg, F_Sg, 2, rfl, u_Sg, by decide, rfl, tb_2 (List.mem_of_getElem? (i := 95) (by decide +kernel)) rfl⟩
theorem cd_Si_85 : CD "PrimeKeys$Signer" 85 y_Si_isInRange1 b_Si_isInRange1 3 (some .boolean) 2 := ⟨tb_3 (List.mem_of_getElem? (i := 82) rfl) rfl, tb_1 (List.mem_of_getElem? (i := 10) (by decide +kernel)) rfl, tb_3 (List.mem_of_getElem? (i := 206) (by decide +kernel)) rfl, by decide +kernel⟩
theorem kw_in_Si_isInRange1 : Cond.instanceMethod y_Si_isInRange1 ∈ TB := tb_3 (List.mem_of_getElem? (i := 80) (by decide +kernel)) rfl
theorem kw_se_Si_isInRange1 : Cond.selects "PrimeKeys$Signer" y_Si_isInRange1 y_Si_isInRange1 ∈ TB := tb_3 (List.mem_of_getElem? (i := 81) (by decide +kernel)) rfl
theorem cd_Si_77 : CD "PrimeKeys$Signer" 77 y_Sg_fits b_Sg_fits 1 (some .boolean) 0 := ⟨tb_4 (List.mem_of_getElem? (i := 17) rfl) rfl, tb_1 (List.mem_of_getElem? (i := 12) (by decide +kernel)) rfl, tb_4 (List.mem_of_getElem? (i := 14) (by decide +kernel)) rfl, by decide +kernel⟩
theorem kw_in_Sg_fits : Cond.instanceMethod y_Sg_fits ∈ TB := tb_4 (List.mem_of_getElem? (i := 15) (by decide +kernel)) rfl
theorem kw_se_Sg_fits : Cond.selects "PrimeKeys$Signature" y_Sg_fits y_Sg_fits ∈ TB := tb_4 (List.mem_of_getElem? (i := 16) (by decide +kernel)) rfl
abbrev rm_Si_isInRange2 : Room := { frames := 3, cells := 0, slots := 0, locals := 73 }
def B_Si_isInRange2_35 (h : HP) : Option (Int32 × HP) :=
  some (0, h)
set_option maxHeartbeats 4000000 in
set_option maxRecDepth 100000 in
theorem bk_Si_isInRange2_35 {l : Launch} {x : CX} {h0 h' : HP} {r' : Int32} (C : EV x b_Si_isInRange2 "PrimeKeys$Signer" 2 rm_Si_isInRange2) (T : CT x (some .boolean) rm_Si_isInRange2 h0 (some (.int r')) h') (hl0 : x.1.2.1 = l) (h : HP) (hr : B_Si_isInRange2_35 h = some (r', h')) : GG x 0 0 h 35 [] [] := by
  unfold B_Si_isInRange2_35 at hr
  refine g_iconst (v := 0) C d_Si_isInRange2_35 (by decide) ?_
  cases hr
  exact g_ireturn C T rfl (by decide) (by decide) d_Si_isInRange2_36
def P_Si_isInRange2 (h : HP) (p0 : Nat) (p1 : Nat) : Option (Int32 × HP) :=
  ob h p1 5 (
  bnd2 (P_Sg_fits h p1) fun v2 h1 =>
  if v2 = 0 then
  B_Si_isInRange2_35 h1
  else
  bnd (gR h1 p1 5 0) fun k3 =>
  ob h1 p0 6 (
  bnd2 (P_Si_isInRange1 h1 p0 k3 1) fun v5 h4 =>
  if v5 = 0 then
  B_Si_isInRange2_35 h4
  else
  bnd (gR h4 p1 5 1) fun k6 =>
  ob h4 p0 6 (
  bnd2 (P_Si_isInRange1 h4 p0 k6 1) fun v8 h7 =>
  if v8 = 0 then
  B_Si_isInRange2_35 h7
  else
  some (1, h7))))
set_option maxHeartbeats 4000000 in
set_option maxRecDepth 100000 in
theorem c_Si_isInRange2 {l : Launch} {h h' : HP} {p0 p1 : _} {r' : Int32} (hr : P_Si_isInRange2 h p0 p1 = some (r', h')) : MP l y_Si_isInRange2 (Cond.code y_Si_isInRange2 b_Si_isInRange2 2 (some .boolean) :: TB) rm_Si_isInRange2 h [.ref p0, .ref p1] (some (.int r')) h' := by
  refine MP_intro (cc := b_Si_isInRange2) (by decide) (Nat.le_of_ble_eq_true rfl) (fun x hl0 C T hin => ?_)
  unfold P_Si_isInRange2 at hr
  show GG x 0 0 h 0 [(0, .ref p0), (1, .ref p1)] []
  refine g_aload_n C 1 rfl d_Si_isInRange2_0 rfl ?_
  obtain ⟨fsh1, hoh1, hr⟩ := of_ob hr
  obtain ⟨v2, h1, eh1, hr⟩ := of_bnd2 hr
  refine g_callV (pa := []) C hl0 (c_Sg_fits eh1) cd_Si_77 kw_in_Sg_fits kw_se_Sg_fits hoh1 rfl rfl (by decide) rfl rfl (Nat.le_of_ble_eq_true rfl) d_Si_isInRange2_1 ?_
  refine g_if_eq (tgt := 35) C d_Si_isInRange2_4 (by decide) (fun z => ?_) (fun z => ?_)
  · have hr := of_if z hr
    refine g_lv [] rfl ?_
    exact bk_Si_isInRange2_35 C T hl0 h1 hr
  · have hr := of_el z hr
    refine g_aload_n C 0 rfl d_Si_isInRange2_7 rfl ?_
    refine g_aload_n C 1 rfl d_Si_isInRange2_8 rfl ?_
    obtain ⟨k3, ek3, hr⟩ := of_bnd hr
    refine g_getR C fl_Si_83 ek3 d_Si_isInRange2_9 ?_
    refine g_iconst (v := 1) C d_Si_isInRange2_12 (by decide) ?_
    obtain ⟨fsh4, hoh4, hr⟩ := of_ob hr
    obtain ⟨v5, h4, eh4, hr⟩ := of_bnd2 hr
    refine g_callV (pa := [.ref k3, .int 1]) C hl0 (c_Si_isInRange1 eh4) cd_Si_85 kw_in_Si_isInRange1 kw_se_Si_isInRange1 hoh4 rfl rfl (by decide) rfl rfl (Nat.le_of_ble_eq_true rfl) d_Si_isInRange2_13 ?_
    refine g_if_eq (tgt := 35) C d_Si_isInRange2_16 (by decide) (fun z => ?_) (fun z => ?_)
    · have hr := of_if z hr
      refine g_lv [] rfl ?_
      exact bk_Si_isInRange2_35 C T hl0 h4 hr
    · have hr := of_el z hr
      refine g_aload_n C 0 rfl d_Si_isInRange2_19 rfl ?_
      refine g_aload_n C 1 rfl d_Si_isInRange2_20 rfl ?_
      obtain ⟨k6, ek6, hr⟩ := of_bnd hr
      refine g_getR C fl_Si_89 ek6 d_Si_isInRange2_21 ?_
      refine g_iconst (v := 1) C d_Si_isInRange2_24 (by decide) ?_
      obtain ⟨fsh7, hoh7, hr⟩ := of_ob hr
      obtain ⟨v8, h7, eh7, hr⟩ := of_bnd2 hr
      refine g_callV (pa := [.ref k6, .int 1]) C hl0 (c_Si_isInRange1 eh7) cd_Si_85 kw_in_Si_isInRange1 kw_se_Si_isInRange1 hoh7 rfl rfl (by decide) rfl rfl (Nat.le_of_ble_eq_true rfl) d_Si_isInRange2_25 ?_
      refine g_if_eq (tgt := 35) C d_Si_isInRange2_28 (by decide) (fun z => ?_) (fun z => ?_)
      · have hr := of_if z hr
        refine g_lv [] rfl ?_
        exact bk_Si_isInRange2_35 C T hl0 h7 hr
      · have hr := of_el z hr
        refine g_iconst (v := 1) C d_Si_isInRange2_31 (by decide) ?_
        refine g_goto (tgt := 36) C d_Si_isInRange2_32 (by decide) ?_
        cases hr
        exact g_ireturn C T rfl (by decide) (by decide) d_Si_isInRange2_36
abbrev b_Si_makeSignature : ByteArray := prog_9_method_4_code
abbrev y_Si_makeSignature : MethodName := ⟨"PrimeKeys$Signer", "makeSignature", "(LPrimeKeys$Curve;[B[BLPrimeKeys$Signature;)V"⟩
theorem d_Si_makeSignature_0 : decode b_Si_makeSignature 0 = .ok (.aload_n 0, 1) := by decide +kernel
theorem d_Si_makeSignature_1 : decode b_Si_makeSignature 1 = .ok (.aload_n 3, 1) := by decide +kernel
theorem d_Si_makeSignature_2 : decode b_Si_makeSignature 2 = .ok (.invokevirtual 91, 3) := by decide +kernel
theorem d_Si_makeSignature_5 : decode b_Si_makeSignature 5 = .ok (.aload_n 0, 1) := by decide +kernel
theorem d_Si_makeSignature_6 : decode b_Si_makeSignature 6 = .ok (.getfield 47, 3) := by decide +kernel
theorem d_Si_makeSignature_9 : decode b_Si_makeSignature 9 = .ok (.aload_n 0, 1) := by decide +kernel
theorem d_Si_makeSignature_10 : decode b_Si_makeSignature 10 = .ok (.getfield 59, 3) := by decide +kernel
theorem d_Si_makeSignature_13 : decode b_Si_makeSignature 13 = .ok (.iconst 0, 1) := by decide +kernel
theorem d_Si_makeSignature_14 : decode b_Si_makeSignature 14 = .ok (.invokestatic 95, 3) := by decide +kernel
theorem d_Si_makeSignature_17 : decode b_Si_makeSignature 17 = .ok (.aload_n 0, 1) := by decide +kernel
theorem d_Si_makeSignature_18 : decode b_Si_makeSignature 18 = .ok (.getfield 27, 3) := by decide +kernel
theorem d_Si_makeSignature_21 : decode b_Si_makeSignature 21 = .ok (.aload_n 2, 1) := by decide +kernel
theorem d_Si_makeSignature_22 : decode b_Si_makeSignature 22 = .ok (.aload_n 0, 1) := by decide +kernel
theorem d_Si_makeSignature_23 : decode b_Si_makeSignature 23 = .ok (.getfield 59, 3) := by decide +kernel
theorem d_Si_makeSignature_26 : decode b_Si_makeSignature 26 = .ok (.invokevirtual 99, 3) := by decide +kernel
theorem d_Si_makeSignature_29 : decode b_Si_makeSignature 29 = .ok (.aload 4, 2) := by decide +kernel
theorem d_Si_makeSignature_31 : decode b_Si_makeSignature 31 = .ok (.invokevirtual 103, 3) := by decide +kernel
theorem d_Si_makeSignature_34 : decode b_Si_makeSignature 34 = .ok (.iconst 0, 1) := by decide +kernel
theorem d_Si_makeSignature_35 : decode b_Si_makeSignature 35 = .ok (.istore 5, 2) := by decide +kernel
theorem d_Si_makeSignature_37 : decode b_Si_makeSignature 37 = .ok (.iload 5, 2) := by decide +kernel
theorem d_Si_makeSignature_39 : decode b_Si_makeSignature 39 = .ok (.bipush 100, 2) := by decide +kernel
theorem d_Si_makeSignature_41 : decode b_Si_makeSignature 41 = .ok (.if_icmp .ge 116, 3) := by decide +kernel
theorem d_Si_makeSignature_44 : decode b_Si_makeSignature 44 = .ok (.aload_n 0, 1) := by decide +kernel
theorem d_Si_makeSignature_45 : decode b_Si_makeSignature 45 = .ok (.getfield 27, 3) := by decide +kernel
theorem d_Si_makeSignature_48 : decode b_Si_makeSignature 48 = .ok (.aload_n 0, 1) := by decide +kernel
theorem d_Si_makeSignature_49 : decode b_Si_makeSignature 49 = .ok (.getfield 59, 3) := by decide +kernel
theorem d_Si_makeSignature_52 : decode b_Si_makeSignature 52 = .ok (.invokevirtual 106, 3) := by decide +kernel
theorem d_Si_makeSignature_55 : decode b_Si_makeSignature 55 = .ok (.aload_n 0, 1) := by decide +kernel
theorem d_Si_makeSignature_56 : decode b_Si_makeSignature 56 = .ok (.aload_n 0, 1) := by decide +kernel
theorem d_Si_makeSignature_57 : decode b_Si_makeSignature 57 = .ok (.getfield 59, 3) := by decide +kernel
theorem d_Si_makeSignature_60 : decode b_Si_makeSignature 60 = .ok (.iconst 0, 1) := by decide +kernel
theorem d_Si_makeSignature_61 : decode b_Si_makeSignature 61 = .ok (.invokevirtual 85, 3) := by decide +kernel
theorem d_Si_makeSignature_64 : decode b_Si_makeSignature 64 = .ok (.ifCond .eq 80, 3) := by decide +kernel
theorem d_Si_makeSignature_67 : decode b_Si_makeSignature 67 = .ok (.aload_n 1, 1) := by decide +kernel
theorem d_Si_makeSignature_68 : decode b_Si_makeSignature 68 = .ok (.aload_n 0, 1) := by decide +kernel
theorem d_Si_makeSignature_69 : decode b_Si_makeSignature 69 = .ok (.getfield 59, 3) := by decide +kernel
theorem d_Si_makeSignature_72 : decode b_Si_makeSignature 72 = .ok (.aload_n 1, 1) := by decide +kernel
theorem d_Si_makeSignature_73 : decode b_Si_makeSignature 73 = .ok (.getfield 109, 3) := by decide +kernel
theorem d_Si_makeSignature_76 : decode b_Si_makeSignature 76 = .ok (.aload_n 0, 1) := by decide +kernel
theorem d_Si_makeSignature_77 : decode b_Si_makeSignature 77 = .ok (.getfield 34, 3) := by decide +kernel
theorem d_Si_makeSignature_80 : decode b_Si_makeSignature 80 = .ok (.invokevirtual 114, 3) := by decide +kernel
theorem d_Si_makeSignature_83 : decode b_Si_makeSignature 83 = .ok (.aload_n 0, 1) := by decide +kernel
theorem d_Si_makeSignature_84 : decode b_Si_makeSignature 84 = .ok (.aload_n 1, 1) := by decide +kernel
theorem d_Si_makeSignature_85 : decode b_Si_makeSignature 85 = .ok (.invokevirtual 118, 3) := by decide +kernel
theorem d_Si_makeSignature_88 : decode b_Si_makeSignature 88 = .ok (.aload_n 0, 1) := by decide +kernel
theorem d_Si_makeSignature_89 : decode b_Si_makeSignature 89 = .ok (.aload_n 2, 1) := by decide +kernel
theorem d_Si_makeSignature_90 : decode b_Si_makeSignature 90 = .ok (.aload_n 0, 1) := by decide +kernel
theorem d_Si_makeSignature_91 : decode b_Si_makeSignature 91 = .ok (.getfield 59, 3) := by decide +kernel
theorem d_Si_makeSignature_94 : decode b_Si_makeSignature 94 = .ok (.invokevirtual 122, 3) := by decide +kernel
theorem d_Si_makeSignature_97 : decode b_Si_makeSignature 97 = .ok (.aload_n 0, 1) := by decide +kernel
theorem d_Si_makeSignature_98 : decode b_Si_makeSignature 98 = .ok (.getfield 40, 3) := by decide +kernel
theorem d_Si_makeSignature_101 : decode b_Si_makeSignature 101 = .ok (.invokestatic 74, 3) := by decide +kernel
theorem d_Si_makeSignature_104 : decode b_Si_makeSignature 104 = .ok (.ifCond .ne 40, 3) := by decide +kernel
theorem d_Si_makeSignature_107 : decode b_Si_makeSignature 107 = .ok (.aload_n 0, 1) := by decide +kernel
theorem d_Si_makeSignature_108 : decode b_Si_makeSignature 108 = .ok (.getfield 44, 3) := by decide +kernel
theorem d_Si_makeSignature_111 : decode b_Si_makeSignature 111 = .ok (.invokestatic 74, 3) := by decide +kernel
theorem d_Si_makeSignature_114 : decode b_Si_makeSignature 114 = .ok (.ifCond .ne 30, 3) := by decide +kernel
theorem d_Si_makeSignature_117 : decode b_Si_makeSignature 117 = .ok (.aload_n 0, 1) := by decide +kernel
theorem d_Si_makeSignature_118 : decode b_Si_makeSignature 118 = .ok (.getfield 40, 3) := by decide +kernel
theorem d_Si_makeSignature_121 : decode b_Si_makeSignature 121 = .ok (.aload 4, 2) := by decide +kernel
theorem d_Si_makeSignature_123 : decode b_Si_makeSignature 123 = .ok (.getfield 83, 3) := by decide +kernel
theorem d_Si_makeSignature_126 : decode b_Si_makeSignature 126 = .ok (.iconst 1, 1) := by decide +kernel
theorem d_Si_makeSignature_127 : decode b_Si_makeSignature 127 = .ok (.invokestatic 95, 3) := by decide +kernel
theorem d_Si_makeSignature_130 : decode b_Si_makeSignature 130 = .ok (.aload_n 0, 1) := by decide +kernel
theorem d_Si_makeSignature_131 : decode b_Si_makeSignature 131 = .ok (.getfield 44, 3) := by decide +kernel
theorem d_Si_makeSignature_134 : decode b_Si_makeSignature 134 = .ok (.aload 4, 2) := by decide +kernel
theorem d_Si_makeSignature_136 : decode b_Si_makeSignature 136 = .ok (.getfield 89, 3) := by decide +kernel
theorem d_Si_makeSignature_139 : decode b_Si_makeSignature 139 = .ok (.iconst 1, 1) := by decide +kernel
theorem d_Si_makeSignature_140 : decode b_Si_makeSignature 140 = .ok (.invokestatic 95, 3) := by decide +kernel
theorem d_Si_makeSignature_143 : decode b_Si_makeSignature 143 = .ok (.return_, 1) := by decide +kernel
theorem d_Si_makeSignature_144 : decode b_Si_makeSignature 144 = .ok (.aload_n 0, 1) := by decide +kernel
theorem d_Si_makeSignature_145 : decode b_Si_makeSignature 145 = .ok (.getfield 27, 3) := by decide +kernel
theorem d_Si_makeSignature_148 : decode b_Si_makeSignature 148 = .ok (.invokevirtual 125, 3) := by decide +kernel
theorem d_Si_makeSignature_151 : decode b_Si_makeSignature 151 = .ok (.iinc 5 1, 3) := by decide +kernel
theorem d_Si_makeSignature_154 : decode b_Si_makeSignature 154 = .ok (.goto (-117), 3) := by decide +kernel
theorem d_Si_makeSignature_157 : decode b_Si_makeSignature 157 = .ok (.return_, 1) := by decide +kernel
theorem fl_Si_59 : FL "PrimeKeys$Signer" 59 6 9 := ⟨R_Si, F_Si, 11, rfl, u_Si, by decide, rfl, tb_2 (List.mem_of_getElem? (i := 61) (by decide +kernel)) rfl⟩
theorem fl_Si_27 : FL "PrimeKeys$Signer" 27 6 1 := ⟨R_Si, F_Si, 11, rfl, u_Si, by decide, rfl, tb_2 (List.mem_of_getElem? (i := 53) (by decide +kernel)) rfl⟩
theorem fl_Si_109 : FL "PrimeKeys$Signer" 109 0 0 := ⟨R_Cu, F_Cu, 6, rfl, u_Cu, by decide, rfl, tb_1 (List.mem_of_getElem? (i := 233) (by decide +kernel)) rfl⟩
theorem cd_Si_125 : CD "PrimeKeys$Signer" 125 y_No_refuse b_No_refuse 1 none 0 := ⟨tb_3 (List.mem_of_getElem? (i := 225) rfl) rfl, tb_1 (List.mem_of_getElem? (i := 11) (by decide +kernel)) rfl, tb_3 (List.mem_of_getElem? (i := 222) (by decide +kernel)) rfl, by decide +kernel⟩
theorem kw_in_No_refuse : Cond.instanceMethod y_No_refuse ∈ TB := tb_3 (List.mem_of_getElem? (i := 223) (by decide +kernel)) rfl
theorem kw_se_No_refuse : Cond.selects "PrimeKeys$Nonces" y_No_refuse y_No_refuse ∈ TB := tb_3 (List.mem_of_getElem? (i := 224) (by decide +kernel)) rfl
theorem cd_Si_95 : CD "PrimeKeys$Signer" 95 y_Li_write b_Li_write 8 none 3 := ⟨tb_3 (List.mem_of_getElem? (i := 139) rfl) rfl, tb_1 (List.mem_of_getElem? (i := 5) (by decide +kernel)) rfl, tb_3 (List.mem_of_getElem? (i := 173) (by decide +kernel)) rfl, by decide +kernel⟩
theorem kw_st_Li_write : Cond.static y_Li_write ∈ TB := tb_3 (List.mem_of_getElem? (i := 138) (by decide +kernel)) rfl
theorem cd_Si_122 : CD "PrimeKeys$Signer" 122 y_Si_fillS b_Si_fillS 3 none 2 := ⟨tb_3 (List.mem_of_getElem? (i := 217) rfl) rfl, tb_1 (List.mem_of_getElem? (i := 10) (by decide +kernel)) rfl, tb_3 (List.mem_of_getElem? (i := 214) (by decide +kernel)) rfl, by decide +kernel⟩
theorem kw_in_Si_fillS : Cond.instanceMethod y_Si_fillS ∈ TB := tb_3 (List.mem_of_getElem? (i := 216) (by decide +kernel)) rfl
theorem kw_se_Si_fillS : Cond.selects "PrimeKeys$Signer" y_Si_fillS y_Si_fillS ∈ TB := tb_p (q := (y_Si_fillS, 11)) (by decide +kernel)
theorem cd_Si_118 : CD "PrimeKeys$Signer" 118 y_Si_readReducedX b_Si_readReducedX 2 none 1 := ⟨tb_3 (List.mem_of_getElem? (i := 211) rfl) rfl, tb_1 (List.mem_of_getElem? (i := 10) (by decide +kernel)) rfl, tb_3 (List.mem_of_getElem? (i := 208) (by decide +kernel)) rfl, by decide +kernel⟩
theorem kw_in_Si_readReducedX : Cond.instanceMethod y_Si_readReducedX ∈ TB := tb_3 (List.mem_of_getElem? (i := 210) (by decide +kernel)) rfl
theorem kw_se_Si_readReducedX : Cond.selects "PrimeKeys$Signer" y_Si_readReducedX y_Si_readReducedX ∈ TB := tb_p (q := (y_Si_readReducedX, 11)) (by decide +kernel)
theorem cd_Si_114 : CD "PrimeKeys$Signer" 114 y_Cu_sumOfTimes b_Cu_sumOfTimes 6 none 3 := ⟨tb_3 (List.mem_of_getElem? (i := 120) rfl) rfl, tb_1 (List.mem_of_getElem? (i := 3) (by decide +kernel)) rfl, tb_3 (List.mem_of_getElem? (i := 207) (by decide +kernel)) rfl, by decide +kernel⟩
theorem kw_in_Cu_sumOfTimes : Cond.instanceMethod y_Cu_sumOfTimes ∈ TB := tb_3 (List.mem_of_getElem? (i := 118) (by decide +kernel)) rfl
theorem kw_se_Cu_sumOfTimes : Cond.selects "PrimeKeys$Curve" y_Cu_sumOfTimes y_Cu_sumOfTimes ∈ TB := tb_3 (List.mem_of_getElem? (i := 119) (by decide +kernel)) rfl
theorem cd_Si_106 : CD "PrimeKeys$Signer" 106 y_No_writeNext b_No_writeNext 2 none 1 := ⟨tb_3 (List.mem_of_getElem? (i := 205) rfl) rfl, tb_1 (List.mem_of_getElem? (i := 11) (by decide +kernel)) rfl, tb_3 (List.mem_of_getElem? (i := 202) (by decide +kernel)) rfl, by decide +kernel⟩
theorem kw_in_No_writeNext : Cond.instanceMethod y_No_writeNext ∈ TB := tb_3 (List.mem_of_getElem? (i := 203) (by decide +kernel)) rfl
theorem kw_se_No_writeNext : Cond.selects "PrimeKeys$Nonces" y_No_writeNext y_No_writeNext ∈ TB := tb_3 (List.mem_of_getElem? (i := 204) (by decide +kernel)) rfl
theorem cd_Si_103 : CD "PrimeKeys$Signer" 103 y_Sg_setZero b_Sg_setZero 1 none 0 := ⟨tb_3 (List.mem_of_getElem? (i := 200) rfl) rfl, tb_1 (List.mem_of_getElem? (i := 12) (by decide +kernel)) rfl, tb_3 (List.mem_of_getElem? (i := 197) (by decide +kernel)) rfl, by decide +kernel⟩
theorem kw_in_Sg_setZero : Cond.instanceMethod y_Sg_setZero ∈ TB := tb_3 (List.mem_of_getElem? (i := 198) (by decide +kernel)) rfl
theorem kw_se_Sg_setZero : Cond.selects "PrimeKeys$Signature" y_Sg_setZero y_Sg_setZero ∈ TB := tb_3 (List.mem_of_getElem? (i := 199) (by decide +kernel)) rfl
theorem cd_Si_99 : CD "PrimeKeys$Signer" 99 y_No_begin b_No_begin 3 none 2 := ⟨tb_3 (List.mem_of_getElem? (i := 177) rfl) rfl, tb_1 (List.mem_of_getElem? (i := 11) (by decide +kernel)) rfl, tb_3 (List.mem_of_getElem? (i := 174) (by decide +kernel)) rfl, by decide +kernel⟩
theorem kw_in_No_begin : Cond.instanceMethod y_No_begin ∈ TB := tb_3 (List.mem_of_getElem? (i := 175) (by decide +kernel)) rfl
theorem kw_se_No_begin : Cond.selects "PrimeKeys$Nonces" y_No_begin y_No_begin ∈ TB := tb_3 (List.mem_of_getElem? (i := 176) (by decide +kernel)) rfl
theorem cd_Si_91 : CD "PrimeKeys$Signer" 91 y_Si_readReduced b_Si_readReduced 2 none 1 := ⟨tb_3 (List.mem_of_getElem? (i := 171) rfl) rfl, tb_1 (List.mem_of_getElem? (i := 10) (by decide +kernel)) rfl, tb_3 (List.mem_of_getElem? (i := 168) (by decide +kernel)) rfl, by decide +kernel⟩
theorem kw_in_Si_readReduced : Cond.instanceMethod y_Si_readReduced ∈ TB := tb_3 (List.mem_of_getElem? (i := 170) (by decide +kernel)) rfl
theorem kw_se_Si_readReduced : Cond.selects "PrimeKeys$Signer" y_Si_readReduced y_Si_readReduced ∈ TB := tb_p (q := (y_Si_readReduced, 11)) (by decide +kernel)
abbrev rm_Si_makeSignature : Room := { frames := 6, cells := 0, slots := 0, locals := 165 }
def B_Si_makeSignature_144 (K37 : HP → Nat → Nat → Nat → Nat → Int32 → Option (HP)) (h : HP) (a0 : Nat) (a1 : Nat) (a2 : Nat) (a4 : Nat) (a5 : Int32) : Option (HP) :=
  bnd (gR h a0 6 1) fun k15 =>
  ob h k15 2 (
  bnd (P_No_refuse h k15) fun h16 =>
  lt (a5 + Int32.ofInt 1) fun x17 =>
  K37 h16 a0 a1 a2 a4 x17)
set_option maxHeartbeats 4000000 in
set_option maxRecDepth 100000 in
theorem bk_Si_makeSignature_144 {l : Launch} {x : CX} {h0 h' : HP} (C : EV x b_Si_makeSignature "PrimeKeys$Signer" 6 rm_Si_makeSignature) (T : CT x (none) rm_Si_makeSignature h0 none h') (hl0 : x.1.2.1 = l) (K37 : HP → Nat → Nat → Nat → Nat → Int32 → Option (HP)) (hK37 : ∀ (h : HP) (a0 : Nat) (a1 : Nat) (a2 : Nat) (a4 : Nat) (a5 : Int32), K37 h a0 a1 a2 a4 a5 = some h' → GG x 0 0 h 37 [(0, .ref a0), (1, .ref a1), (2, .ref a2), (4, .ref a4), (5, .int a5)] []) (h : HP) (a0 : Nat) (a1 : Nat) (a2 : Nat) (a4 : Nat) (a5 : Int32) (hr : B_Si_makeSignature_144 K37 h a0 a1 a2 a4 a5 = some h') : GG x 0 0 h 144 [(0, .ref a0), (1, .ref a1), (2, .ref a2), (4, .ref a4), (5, .int a5)] [] := by
  unfold B_Si_makeSignature_144 at hr
  refine g_aload_n C 0 rfl d_Si_makeSignature_144 rfl ?_
  obtain ⟨k15, ek15, hr⟩ := of_bnd hr
  refine g_getR C fl_Si_27 ek15 d_Si_makeSignature_145 ?_
  obtain ⟨fsh16, hoh16, hr⟩ := of_ob hr
  obtain ⟨h16, eh16, hr⟩ := of_bnd hr
  refine g_callV (pa := []) C hl0 (c_No_refuse eh16) cd_Si_125 kw_in_No_refuse kw_se_No_refuse hoh16 rfl rfl (by decide) rfl rfl (Nat.le_of_ble_eq_true rfl) d_Si_makeSignature_148 ?_
  obtain ⟨x17, ex17⟩ : ∃ z, z = a5 + Int32.ofInt 1 := ⟨_, rfl⟩
  have hr := of_lt ex17 hr
  refine g_iinc (lv' := [(5, .int x17), (0, .ref a0), (1, .ref a1), (2, .ref a2), (4, .ref a4)]) C 4 rfl d_Si_makeSignature_151 ex17.symm (by decide) rfl ?_
  refine g_goto (tgt := 37) C d_Si_makeSignature_154 (by decide) ?_
  refine g_lv [1, 2, 3, 4, 0] rfl ?_
  exact hK37 h16 a0 a1 a2 a4 x17 hr
def B_Si_makeSignature_37 (K37 : HP → Nat → Nat → Nat → Nat → Int32 → Option (HP)) (h : HP) (a0 : Nat) (a1 : Nat) (a2 : Nat) (a4 : Nat) (a5 : Int32) : Option (HP) :=
  if 100 ≤ a5 then
  some h
  else
  bnd (gR h a0 6 1) fun k9 =>
  bnd (gR h a0 6 9) fun k10 =>
  ob h k9 2 (
  bnd (P_No_writeNext h k9 k10) fun h11 =>
  bnd (gR h11 a0 6 9) fun k12 =>
  ob h11 a0 6 (
  bnd2 (P_Si_isInRange1 h11 a0 k12 0) fun v14 h13 =>
  if v14 = 0 then
  B_Si_makeSignature_144 K37 h13 a0 a1 a2 a4 a5
  else
  bnd (gR h13 a0 6 9) fun k18 =>
  bnd (gR h13 a1 0 0) fun k19 =>
  bnd (gR h13 a0 6 2) fun k20 =>
  ob h13 a1 0 (
  bnd (P_Cu_sumOfTimes h13 a1 k18 k19 k20) fun h21 =>
  ob h21 a0 6 (
  bnd (P_Si_readReducedX h21 a0 a1) fun h22 =>
  bnd (gR h22 a0 6 9) fun k23 =>
  ob h22 a0 6 (
  bnd (P_Si_fillS h22 a0 a2 k23) fun h24 =>
  bnd (gR h24 a0 6 3) fun k25 =>
  bnd2 (P_Li_areZero h24 k25) fun v27 h26 =>
  if v27 = 0 then
  bnd (gR h26 a0 6 4) fun k28 =>
  bnd2 (P_Li_areZero h26 k28) fun v30 h29 =>
  if v30 = 0 then
  bnd (gR h29 a0 6 3) fun k31 =>
  bnd (gR h29 a4 5 0) fun k32 =>
  bnd (P_Li_write h29 k31 k32 1) fun h33 =>
  bnd (gR h33 a0 6 4) fun k34 =>
  bnd (gR h33 a4 5 1) fun k35 =>
  bnd (P_Li_write h33 k34 k35 1) fun h36 =>
  some h36
  else
  B_Si_makeSignature_144 K37 h29 a0 a1 a2 a4 a5
  else
  B_Si_makeSignature_144 K37 h26 a0 a1 a2 a4 a5)))))
set_option maxHeartbeats 4000000 in
set_option maxRecDepth 100000 in
theorem bk_Si_makeSignature_37 {l : Launch} {x : CX} {h0 h' : HP} (C : EV x b_Si_makeSignature "PrimeKeys$Signer" 6 rm_Si_makeSignature) (T : CT x (none) rm_Si_makeSignature h0 none h') (hl0 : x.1.2.1 = l) (K37 : HP → Nat → Nat → Nat → Nat → Int32 → Option (HP)) (hK37 : ∀ (h : HP) (a0 : Nat) (a1 : Nat) (a2 : Nat) (a4 : Nat) (a5 : Int32), K37 h a0 a1 a2 a4 a5 = some h' → GG x 0 0 h 37 [(0, .ref a0), (1, .ref a1), (2, .ref a2), (4, .ref a4), (5, .int a5)] []) (h : HP) (a0 : Nat) (a1 : Nat) (a2 : Nat) (a4 : Nat) (a5 : Int32) (hr : B_Si_makeSignature_37 K37 h a0 a1 a2 a4 a5 = some h') : GG x 0 0 h 37 [(0, .ref a0), (1, .ref a1), (2, .ref a2), (4, .ref a4), (5, .int a5)] [] := by
  unfold B_Si_makeSignature_37 at hr
  refine g_iload C 4 rfl d_Si_makeSignature_37 ?_
  refine g_bipush (v := 100) C d_Si_makeSignature_39 (by decide) ?_
  refine g_icmp_ge (tgt := 157) C d_Si_makeSignature_41 (by decide) (fun z => ?_) (fun z => ?_)
  · have hr := of_if z hr
    cases hr
    exact g_vreturn C T (by decide) (by decide) d_Si_makeSignature_157
  · have hr := of_el z hr
    refine g_aload_n C 0 rfl d_Si_makeSignature_44 rfl ?_
    obtain ⟨k9, ek9, hr⟩ := of_bnd hr
    refine g_getR C fl_Si_27 ek9 d_Si_makeSignature_45 ?_
    refine g_aload_n C 0 rfl d_Si_makeSignature_48 rfl ?_
    obtain ⟨k10, ek10, hr⟩ := of_bnd hr
    refine g_getR C fl_Si_59 ek10 d_Si_makeSignature_49 ?_
    obtain ⟨fsh11, hoh11, hr⟩ := of_ob hr
    obtain ⟨h11, eh11, hr⟩ := of_bnd hr
    refine g_callV (pa := [.ref k10]) C hl0 (c_No_writeNext eh11) cd_Si_106 kw_in_No_writeNext kw_se_No_writeNext hoh11 rfl rfl (by decide) rfl rfl (Nat.le_of_ble_eq_true rfl) d_Si_makeSignature_52 ?_
    refine g_aload_n C 0 rfl d_Si_makeSignature_55 rfl ?_
    refine g_aload_n C 0 rfl d_Si_makeSignature_56 rfl ?_
    obtain ⟨k12, ek12, hr⟩ := of_bnd hr
    refine g_getR C fl_Si_59 ek12 d_Si_makeSignature_57 ?_
    refine g_iconst (v := 0) C d_Si_makeSignature_60 (by decide) ?_
    obtain ⟨fsh13, hoh13, hr⟩ := of_ob hr
    obtain ⟨v14, h13, eh13, hr⟩ := of_bnd2 hr
    refine g_callV (pa := [.ref k12, .int 0]) C hl0 (c_Si_isInRange1 eh13) cd_Si_85 kw_in_Si_isInRange1 kw_se_Si_isInRange1 hoh13 rfl rfl (by decide) rfl rfl (Nat.le_of_ble_eq_true rfl) d_Si_makeSignature_61 ?_
    refine g_if_eq (tgt := 144) C d_Si_makeSignature_64 (by decide) (fun z => ?_) (fun z => ?_)
    · have hr := of_if z hr
      exact bk_Si_makeSignature_144 C T hl0 K37 hK37 h13 a0 a1 a2 a4 a5 hr
    · have hr := of_el z hr
      refine g_aload_n C 1 rfl d_Si_makeSignature_67 rfl ?_
      refine g_aload_n C 0 rfl d_Si_makeSignature_68 rfl ?_
      obtain ⟨k18, ek18, hr⟩ := of_bnd hr
      refine g_getR C fl_Si_59 ek18 d_Si_makeSignature_69 ?_
      refine g_aload_n C 1 rfl d_Si_makeSignature_72 rfl ?_
      obtain ⟨k19, ek19, hr⟩ := of_bnd hr
      refine g_getR C fl_Si_109 ek19 d_Si_makeSignature_73 ?_
      refine g_aload_n C 0 rfl d_Si_makeSignature_76 rfl ?_
      obtain ⟨k20, ek20, hr⟩ := of_bnd hr
      refine g_getR C fl_Si_34 ek20 d_Si_makeSignature_77 ?_
      obtain ⟨fsh21, hoh21, hr⟩ := of_ob hr
      obtain ⟨h21, eh21, hr⟩ := of_bnd hr
      refine g_callV (pa := [.ref k18, .ref k19, .ref k20]) C hl0 (c_Cu_sumOfTimes eh21) cd_Si_114 kw_in_Cu_sumOfTimes kw_se_Cu_sumOfTimes hoh21 rfl rfl (by decide) rfl rfl (Nat.le_of_ble_eq_true rfl) d_Si_makeSignature_80 ?_
      refine g_aload_n C 0 rfl d_Si_makeSignature_83 rfl ?_
      refine g_aload_n C 1 rfl d_Si_makeSignature_84 rfl ?_
      obtain ⟨fsh22, hoh22, hr⟩ := of_ob hr
      obtain ⟨h22, eh22, hr⟩ := of_bnd hr
      refine g_callV (pa := [.ref a1]) C hl0 (c_Si_readReducedX eh22) cd_Si_118 kw_in_Si_readReducedX kw_se_Si_readReducedX hoh22 rfl rfl (by decide) rfl rfl (Nat.le_of_ble_eq_true rfl) d_Si_makeSignature_85 ?_
      refine g_aload_n C 0 rfl d_Si_makeSignature_88 rfl ?_
      refine g_aload_n C 2 rfl d_Si_makeSignature_89 rfl ?_
      refine g_aload_n C 0 rfl d_Si_makeSignature_90 rfl ?_
      obtain ⟨k23, ek23, hr⟩ := of_bnd hr
      refine g_getR C fl_Si_59 ek23 d_Si_makeSignature_91 ?_
      obtain ⟨fsh24, hoh24, hr⟩ := of_ob hr
      obtain ⟨h24, eh24, hr⟩ := of_bnd hr
      refine g_callV (pa := [.ref a2, .ref k23]) C hl0 (c_Si_fillS eh24) cd_Si_122 kw_in_Si_fillS kw_se_Si_fillS hoh24 rfl rfl (by decide) rfl rfl (Nat.le_of_ble_eq_true rfl) d_Si_makeSignature_94 ?_
      refine g_aload_n C 0 rfl d_Si_makeSignature_97 rfl ?_
      obtain ⟨k25, ek25, hr⟩ := of_bnd hr
      refine g_getR C fl_Si_40 ek25 d_Si_makeSignature_98 ?_
      obtain ⟨v27, h26, eh26, hr⟩ := of_bnd2 hr
      refine g_callS (pa := [.ref k25]) C hl0 (c_Li_areZero eh26) cd_Si_74 kw_st_Li_areZero (by decide) rfl rfl (Nat.le_of_ble_eq_true rfl) d_Si_makeSignature_101 ?_
      refine g_if_ne (tgt := 144) C d_Si_makeSignature_104 (by decide) (fun z => ?_) (fun z => ?_)
      · have hr := of_el z hr
        exact bk_Si_makeSignature_144 C T hl0 K37 hK37 h26 a0 a1 a2 a4 a5 hr
      · have hr := of_if z hr
        refine g_aload_n C 0 rfl d_Si_makeSignature_107 rfl ?_
        obtain ⟨k28, ek28, hr⟩ := of_bnd hr
        refine g_getR C fl_Si_44 ek28 d_Si_makeSignature_108 ?_
        obtain ⟨v30, h29, eh29, hr⟩ := of_bnd2 hr
        refine g_callS (pa := [.ref k28]) C hl0 (c_Li_areZero eh29) cd_Si_74 kw_st_Li_areZero (by decide) rfl rfl (Nat.le_of_ble_eq_true rfl) d_Si_makeSignature_111 ?_
        refine g_if_ne (tgt := 144) C d_Si_makeSignature_114 (by decide) (fun z => ?_) (fun z => ?_)
        · have hr := of_el z hr
          exact bk_Si_makeSignature_144 C T hl0 K37 hK37 h29 a0 a1 a2 a4 a5 hr
        · have hr := of_if z hr
          refine g_aload_n C 0 rfl d_Si_makeSignature_117 rfl ?_
          obtain ⟨k31, ek31, hr⟩ := of_bnd hr
          refine g_getR C fl_Si_40 ek31 d_Si_makeSignature_118 ?_
          refine g_aload C 3 rfl d_Si_makeSignature_121 ?_
          obtain ⟨k32, ek32, hr⟩ := of_bnd hr
          refine g_getR C fl_Si_83 ek32 d_Si_makeSignature_123 ?_
          refine g_iconst (v := 1) C d_Si_makeSignature_126 (by decide) ?_
          obtain ⟨h33, eh33, hr⟩ := of_bnd hr
          refine g_callS (pa := [.ref k31, .ref k32, .int 1]) C hl0 (c_Li_write eh33) cd_Si_95 kw_st_Li_write (by decide) rfl rfl (Nat.le_of_ble_eq_true rfl) d_Si_makeSignature_127 ?_
          refine g_aload_n C 0 rfl d_Si_makeSignature_130 rfl ?_
          obtain ⟨k34, ek34, hr⟩ := of_bnd hr
          refine g_getR C fl_Si_44 ek34 d_Si_makeSignature_131 ?_
          refine g_aload C 3 rfl d_Si_makeSignature_134 ?_
          obtain ⟨k35, ek35, hr⟩ := of_bnd hr
          refine g_getR C fl_Si_89 ek35 d_Si_makeSignature_136 ?_
          refine g_iconst (v := 1) C d_Si_makeSignature_139 (by decide) ?_
          obtain ⟨h36, eh36, hr⟩ := of_bnd hr
          refine g_callS (pa := [.ref k34, .ref k35, .int 1]) C hl0 (c_Li_write eh36) cd_Si_95 kw_st_Li_write (by decide) rfl rfl (Nat.le_of_ble_eq_true rfl) d_Si_makeSignature_140 ?_
          cases hr
          exact g_vreturn C T (by decide) (by decide) d_Si_makeSignature_143
def L_Si_makeSignature_37 : Nat → HP → Nat → Nat → Nat → Nat → Int32 → Option (HP)
  | 0, _, _, _, _, _, _ => none
  | f + 1, h, a0, a1, a2, a4, a5 => B_Si_makeSignature_37 (L_Si_makeSignature_37 f) h a0 a1 a2 a4 a5
theorem lp_Si_makeSignature_37 {l : Launch} {x : CX} {h0 h' : HP} (C : EV x b_Si_makeSignature "PrimeKeys$Signer" 6 rm_Si_makeSignature) (T : CT x (none) rm_Si_makeSignature h0 none h') (hl0 : x.1.2.1 = l) : ∀ (f : Nat) (h : HP) (a0 : Nat) (a1 : Nat) (a2 : Nat) (a4 : Nat) (a5 : Int32), L_Si_makeSignature_37 f h a0 a1 a2 a4 a5 = some h' → GG x 0 0 h 37 [(0, .ref a0), (1, .ref a1), (2, .ref a2), (4, .ref a4), (5, .int a5)] [] := by
  intro f
  induction f with
  | zero => intro h a0 a1 a2 a4 a5 hr; have hr : (none : Option (HP)) = some h' := hr; cases hr
  | succ f ih => intro h a0 a1 a2 a4 a5 hr; exact bk_Si_makeSignature_37 C T hl0 (L_Si_makeSignature_37 f) ih h a0 a1 a2 a4 a5 hr
def P_Si_makeSignature (h : HP) (p0 : Nat) (p1 : Nat) (p2 : Nat) (p3 : Nat) (p4 : Nat) : Option (HP) :=
  ob h p0 6 (
  bnd (P_Si_readReduced h p0 p3) fun h1 =>
  bnd (gR h1 p0 6 5) fun k2 =>
  bnd (gR h1 p0 6 9) fun k3 =>
  bnd (P_Li_write h1 k2 k3 0) fun h4 =>
  bnd (gR h4 p0 6 1) fun k5 =>
  bnd (gR h4 p0 6 9) fun k6 =>
  ob h4 k5 2 (
  bnd (P_No_begin h4 k5 p2 k6) fun h7 =>
  ob h7 p4 5 (
  bnd (P_Sg_setZero h7 p4) fun h8 =>
  L_Si_makeSignature_37 FU h8 p0 p1 p2 p4 0)))
set_option maxHeartbeats 4000000 in
set_option maxRecDepth 100000 in
theorem c_Si_makeSignature {l : Launch} {h h' : HP} {p0 p1 p2 p3 p4 : _} (hr : P_Si_makeSignature h p0 p1 p2 p3 p4 = some h') : MP l y_Si_makeSignature (Cond.code y_Si_makeSignature b_Si_makeSignature 6 none :: TB) rm_Si_makeSignature h [.ref p0, .ref p1, .ref p2, .ref p3, .ref p4] none h' := by
  refine MP_intro (cc := b_Si_makeSignature) (by decide) (Nat.le_of_ble_eq_true rfl) (fun x hl0 C T hin => ?_)
  unfold P_Si_makeSignature at hr
  show GG x 0 0 h 0 [(0, .ref p0), (1, .ref p1), (2, .ref p2), (3, .ref p3), (4, .ref p4)] []
  refine g_aload_n C 0 rfl d_Si_makeSignature_0 rfl ?_
  refine g_aload_n C 3 rfl d_Si_makeSignature_1 rfl ?_
  obtain ⟨fsh1, hoh1, hr⟩ := of_ob hr
  obtain ⟨h1, eh1, hr⟩ := of_bnd hr
  refine g_callV (pa := [.ref p3]) C hl0 (c_Si_readReduced eh1) cd_Si_91 kw_in_Si_readReduced kw_se_Si_readReduced hoh1 rfl rfl (by decide) rfl rfl (Nat.le_of_ble_eq_true rfl) d_Si_makeSignature_2 ?_
  refine g_aload_n C 0 rfl d_Si_makeSignature_5 rfl ?_
  obtain ⟨k2, ek2, hr⟩ := of_bnd hr
  refine g_getR C fl_Si_47 ek2 d_Si_makeSignature_6 ?_
  refine g_aload_n C 0 rfl d_Si_makeSignature_9 rfl ?_
  obtain ⟨k3, ek3, hr⟩ := of_bnd hr
  refine g_getR C fl_Si_59 ek3 d_Si_makeSignature_10 ?_
  refine g_iconst (v := 0) C d_Si_makeSignature_13 (by decide) ?_
  obtain ⟨h4, eh4, hr⟩ := of_bnd hr
  refine g_callS (pa := [.ref k2, .ref k3, .int 0]) C hl0 (c_Li_write eh4) cd_Si_95 kw_st_Li_write (by decide) rfl rfl (Nat.le_of_ble_eq_true rfl) d_Si_makeSignature_14 ?_
  refine g_aload_n C 0 rfl d_Si_makeSignature_17 rfl ?_
  obtain ⟨k5, ek5, hr⟩ := of_bnd hr
  refine g_getR C fl_Si_27 ek5 d_Si_makeSignature_18 ?_
  refine g_aload_n C 2 rfl d_Si_makeSignature_21 rfl ?_
  refine g_aload_n C 0 rfl d_Si_makeSignature_22 rfl ?_
  obtain ⟨k6, ek6, hr⟩ := of_bnd hr
  refine g_getR C fl_Si_59 ek6 d_Si_makeSignature_23 ?_
  obtain ⟨fsh7, hoh7, hr⟩ := of_ob hr
  obtain ⟨h7, eh7, hr⟩ := of_bnd hr
  refine g_callV (pa := [.ref p2, .ref k6]) C hl0 (c_No_begin eh7) cd_Si_99 kw_in_No_begin kw_se_No_begin hoh7 rfl rfl (by decide) rfl rfl (Nat.le_of_ble_eq_true rfl) d_Si_makeSignature_26 ?_
  refine g_aload C 4 rfl d_Si_makeSignature_29 ?_
  obtain ⟨fsh8, hoh8, hr⟩ := of_ob hr
  obtain ⟨h8, eh8, hr⟩ := of_bnd hr
  refine g_callV (pa := []) C hl0 (c_Sg_setZero eh8) cd_Si_103 kw_in_Sg_setZero kw_se_Sg_setZero hoh8 rfl rfl (by decide) rfl rfl (Nat.le_of_ble_eq_true rfl) d_Si_makeSignature_31 ?_
  refine g_iconst (v := 0) C d_Si_makeSignature_34 (by decide) ?_
  refine g_istore (lv' := [(5, .int 0), (0, .ref p0), (1, .ref p1), (2, .ref p2), (3, .ref p3), (4, .ref p4)]) C d_Si_makeSignature_35 (by decide) rfl ?_
  refine g_lv [1, 2, 3, 5, 0] rfl ?_
  exact lp_Si_makeSignature_37 C T hl0 FU h8 p0 p1 p2 p4 0 hr
abbrev b_Si_isGood : ByteArray := prog_9_method_5_code
abbrev y_Si_isGood : MethodName := ⟨"PrimeKeys$Signer", "isGood", "(LPrimeKeys$Curve;LPrimeKeys$Signature;[B)Z"⟩
theorem d_Si_isGood_0 : decode b_Si_isGood 0 = .ok (.aload_n 0, 1) := by decide +kernel
theorem d_Si_isGood_1 : decode b_Si_isGood 1 = .ok (.aload_n 3, 1) := by decide +kernel
theorem d_Si_isGood_2 : decode b_Si_isGood 2 = .ok (.invokevirtual 91, 3) := by decide +kernel
theorem d_Si_isGood_5 : decode b_Si_isGood 5 = .ok (.aload_n 2, 1) := by decide +kernel
theorem d_Si_isGood_6 : decode b_Si_isGood 6 = .ok (.getfield 89, 3) := by decide +kernel
theorem d_Si_isGood_9 : decode b_Si_isGood 9 = .ok (.iconst 1, 1) := by decide +kernel
theorem d_Si_isGood_10 : decode b_Si_isGood 10 = .ok (.aload_n 0, 1) := by decide +kernel
theorem d_Si_isGood_11 : decode b_Si_isGood 11 = .ok (.getfield 44, 3) := by decide +kernel
theorem d_Si_isGood_14 : decode b_Si_isGood 14 = .ok (.invokestatic 66, 3) := by decide +kernel
theorem d_Si_isGood_17 : decode b_Si_isGood 17 = .ok (.aload_n 0, 1) := by decide +kernel
theorem d_Si_isGood_18 : decode b_Si_isGood 18 = .ok (.getfield 20, 3) := by decide +kernel
theorem d_Si_isGood_21 : decode b_Si_isGood 21 = .ok (.aload_n 0, 1) := by decide +kernel
theorem d_Si_isGood_22 : decode b_Si_isGood 22 = .ok (.getfield 44, 3) := by decide +kernel
theorem d_Si_isGood_25 : decode b_Si_isGood 25 = .ok (.aload_n 0, 1) := by decide +kernel
theorem d_Si_isGood_26 : decode b_Si_isGood 26 = .ok (.getfield 44, 3) := by decide +kernel
theorem d_Si_isGood_29 : decode b_Si_isGood 29 = .ok (.invokevirtual 128, 3) := by decide +kernel
theorem d_Si_isGood_32 : decode b_Si_isGood 32 = .ok (.aload_n 0, 1) := by decide +kernel
theorem d_Si_isGood_33 : decode b_Si_isGood 33 = .ok (.getfield 20, 3) := by decide +kernel
theorem d_Si_isGood_36 : decode b_Si_isGood 36 = .ok (.aload_n 0, 1) := by decide +kernel
theorem d_Si_isGood_37 : decode b_Si_isGood 37 = .ok (.getfield 44, 3) := by decide +kernel
theorem d_Si_isGood_40 : decode b_Si_isGood 40 = .ok (.aload_n 0, 1) := by decide +kernel
theorem d_Si_isGood_41 : decode b_Si_isGood 41 = .ok (.getfield 44, 3) := by decide +kernel
theorem d_Si_isGood_44 : decode b_Si_isGood 44 = .ok (.invokevirtual 132, 3) := by decide +kernel
theorem d_Si_isGood_47 : decode b_Si_isGood 47 = .ok (.aload_n 0, 1) := by decide +kernel
theorem d_Si_isGood_48 : decode b_Si_isGood 48 = .ok (.getfield 20, 3) := by decide +kernel
theorem d_Si_isGood_51 : decode b_Si_isGood 51 = .ok (.aload_n 0, 1) := by decide +kernel
theorem d_Si_isGood_52 : decode b_Si_isGood 52 = .ok (.getfield 47, 3) := by decide +kernel
theorem d_Si_isGood_55 : decode b_Si_isGood 55 = .ok (.aload_n 0, 1) := by decide +kernel
theorem d_Si_isGood_56 : decode b_Si_isGood 56 = .ok (.getfield 44, 3) := by decide +kernel
theorem d_Si_isGood_59 : decode b_Si_isGood 59 = .ok (.aload_n 0, 1) := by decide +kernel
theorem d_Si_isGood_60 : decode b_Si_isGood 60 = .ok (.getfield 56, 3) := by decide +kernel
theorem d_Si_isGood_63 : decode b_Si_isGood 63 = .ok (.invokevirtual 135, 3) := by decide +kernel
theorem d_Si_isGood_66 : decode b_Si_isGood 66 = .ok (.aload_n 0, 1) := by decide +kernel
theorem d_Si_isGood_67 : decode b_Si_isGood 67 = .ok (.getfield 56, 3) := by decide +kernel
theorem d_Si_isGood_70 : decode b_Si_isGood 70 = .ok (.aload_n 0, 1) := by decide +kernel
theorem d_Si_isGood_71 : decode b_Si_isGood 71 = .ok (.getfield 59, 3) := by decide +kernel
theorem d_Si_isGood_74 : decode b_Si_isGood 74 = .ok (.iconst 0, 1) := by decide +kernel
theorem d_Si_isGood_75 : decode b_Si_isGood 75 = .ok (.invokestatic 95, 3) := by decide +kernel
theorem d_Si_isGood_78 : decode b_Si_isGood 78 = .ok (.aload_n 2, 1) := by decide +kernel
theorem d_Si_isGood_79 : decode b_Si_isGood 79 = .ok (.getfield 83, 3) := by decide +kernel
theorem d_Si_isGood_82 : decode b_Si_isGood 82 = .ok (.iconst 1, 1) := by decide +kernel
theorem d_Si_isGood_83 : decode b_Si_isGood 83 = .ok (.aload_n 0, 1) := by decide +kernel
theorem d_Si_isGood_84 : decode b_Si_isGood 84 = .ok (.getfield 56, 3) := by decide +kernel
theorem d_Si_isGood_87 : decode b_Si_isGood 87 = .ok (.invokestatic 66, 3) := by decide +kernel
theorem d_Si_isGood_90 : decode b_Si_isGood 90 = .ok (.aload_n 0, 1) := by decide +kernel
theorem d_Si_isGood_91 : decode b_Si_isGood 91 = .ok (.getfield 20, 3) := by decide +kernel
theorem d_Si_isGood_94 : decode b_Si_isGood 94 = .ok (.aload_n 0, 1) := by decide +kernel
theorem d_Si_isGood_95 : decode b_Si_isGood 95 = .ok (.getfield 56, 3) := by decide +kernel
theorem d_Si_isGood_98 : decode b_Si_isGood 98 = .ok (.aload_n 0, 1) := by decide +kernel
theorem d_Si_isGood_99 : decode b_Si_isGood 99 = .ok (.getfield 44, 3) := by decide +kernel
theorem d_Si_isGood_102 : decode b_Si_isGood 102 = .ok (.aload_n 0, 1) := by decide +kernel
theorem d_Si_isGood_103 : decode b_Si_isGood 103 = .ok (.getfield 44, 3) := by decide +kernel
theorem d_Si_isGood_106 : decode b_Si_isGood 106 = .ok (.invokevirtual 135, 3) := by decide +kernel
theorem d_Si_isGood_109 : decode b_Si_isGood 109 = .ok (.aload_n 0, 1) := by decide +kernel
theorem d_Si_isGood_110 : decode b_Si_isGood 110 = .ok (.getfield 44, 3) := by decide +kernel
theorem d_Si_isGood_113 : decode b_Si_isGood 113 = .ok (.aload_n 0, 1) := by decide +kernel
theorem d_Si_isGood_114 : decode b_Si_isGood 114 = .ok (.getfield 63, 3) := by decide +kernel
theorem d_Si_isGood_117 : decode b_Si_isGood 117 = .ok (.iconst 0, 1) := by decide +kernel
theorem d_Si_isGood_118 : decode b_Si_isGood 118 = .ok (.invokestatic 95, 3) := by decide +kernel
theorem d_Si_isGood_121 : decode b_Si_isGood 121 = .ok (.aload_n 1, 1) := by decide +kernel
theorem d_Si_isGood_122 : decode b_Si_isGood 122 = .ok (.aload_n 0, 1) := by decide +kernel
theorem d_Si_isGood_123 : decode b_Si_isGood 123 = .ok (.getfield 59, 3) := by decide +kernel
theorem d_Si_isGood_126 : decode b_Si_isGood 126 = .ok (.aload_n 0, 1) := by decide +kernel
theorem d_Si_isGood_127 : decode b_Si_isGood 127 = .ok (.getfield 63, 3) := by decide +kernel
theorem d_Si_isGood_130 : decode b_Si_isGood 130 = .ok (.aload_n 0, 1) := by decide +kernel
theorem d_Si_isGood_131 : decode b_Si_isGood 131 = .ok (.getfield 34, 3) := by decide +kernel
theorem d_Si_isGood_134 : decode b_Si_isGood 134 = .ok (.invokevirtual 114, 3) := by decide +kernel
theorem d_Si_isGood_137 : decode b_Si_isGood 137 = .ok (.aload_n 0, 1) := by decide +kernel
theorem d_Si_isGood_138 : decode b_Si_isGood 138 = .ok (.getfield 34, 3) := by decide +kernel
theorem d_Si_isGood_141 : decode b_Si_isGood 141 = .ok (.invokevirtual 139, 3) := by decide +kernel
theorem d_Si_isGood_144 : decode b_Si_isGood 144 = .ok (.ifCond .eq 5, 3) := by decide +kernel
theorem d_Si_isGood_147 : decode b_Si_isGood 147 = .ok (.iconst 0, 1) := by decide +kernel
theorem d_Si_isGood_148 : decode b_Si_isGood 148 = .ok (.ireturn, 1) := by decide +kernel
theorem d_Si_isGood_149 : decode b_Si_isGood 149 = .ok (.aload_n 0, 1) := by decide +kernel
theorem d_Si_isGood_150 : decode b_Si_isGood 150 = .ok (.aload_n 1, 1) := by decide +kernel
theorem d_Si_isGood_151 : decode b_Si_isGood 151 = .ok (.invokevirtual 118, 3) := by decide +kernel
theorem d_Si_isGood_154 : decode b_Si_isGood 154 = .ok (.aload_n 0, 1) := by decide +kernel
theorem d_Si_isGood_155 : decode b_Si_isGood 155 = .ok (.getfield 40, 3) := by decide +kernel
theorem d_Si_isGood_158 : decode b_Si_isGood 158 = .ok (.aload_n 0, 1) := by decide +kernel
theorem d_Si_isGood_159 : decode b_Si_isGood 159 = .ok (.getfield 56, 3) := by decide +kernel
theorem d_Si_isGood_162 : decode b_Si_isGood 162 = .ok (.invokestatic 142, 3) := by decide +kernel
theorem d_Si_isGood_165 : decode b_Si_isGood 165 = .ok (.ireturn, 1) := by decide +kernel
theorem fl_Si_63 : FL "PrimeKeys$Signer" 63 6 10 := ⟨R_Si, F_Si, 11, rfl, u_Si, by decide, rfl, tb_2 (List.mem_of_getElem? (i := 62) (by decide +kernel)) rfl⟩
theorem cd_Si_142 : CD "PrimeKeys$Signer" 142 y_Li_areSame b_Li_areSame 5 (some .boolean) 2 := ⟨tb_1 (List.mem_of_getElem? (i := 222) rfl) rfl, tb_1 (List.mem_of_getElem? (i := 5) (by decide +kernel)) rfl, tb_4 (List.mem_of_getElem? (i := 23) (by decide +kernel)) rfl, by decide +kernel⟩
theorem cd_Si_139 : CD "PrimeKeys$Signer" 139 y_Po_isNeutral b_Po_isNeutral 1 (some .boolean) 0 := ⟨tb_1 (List.mem_of_getElem? (i := 211) rfl) rfl, tb_1 (List.mem_of_getElem? (i := 9) (by decide +kernel)) rfl, tb_4 (List.mem_of_getElem? (i := 22) (by decide +kernel)) rfl, by decide +kernel⟩
abbrev rm_Si_isGood : Room := { frames := 6, cells := 0, slots := 0, locals := 165 }
def P_Si_isGood (h : HP) (p0 : Nat) (p1 : Nat) (p2 : Nat) (p3 : Nat) : Option (Int32 × HP) :=
  ob h p0 6 (
  bnd (P_Si_readReduced h p0 p3) fun h1 =>
  bnd (gR h1 p2 5 1) fun k2 =>
  bnd (gR h1 p0 6 4) fun k3 =>
  bnd (P_Li_read h1 k2 1 k3) fun h4 =>
  bnd (gR h4 p0 6 0) fun k5 =>
  bnd (gR h4 p0 6 4) fun k6 =>
  bnd (gR h4 p0 6 4) fun k7 =>
  ob h4 k5 1 (
  bnd (P_Mo_enterForm h4 k5 k6 k7) fun h8 =>
  bnd (gR h8 p0 6 0) fun k9 =>
  bnd (gR h8 p0 6 4) fun k10 =>
  bnd (gR h8 p0 6 4) fun k11 =>
  ob h8 k9 1 (
  bnd (P_Mo_invert h8 k9 k10 k11) fun h12 =>
  bnd (gR h12 p0 6 0) fun k13 =>
  bnd (gR h12 p0 6 5) fun k14 =>
  bnd (gR h12 p0 6 4) fun k15 =>
  bnd (gR h12 p0 6 8) fun k16 =>
  ob h12 k13 1 (
  bnd (P_Mo_multiply h12 k13 k14 k15 k16) fun h17 =>
  bnd (gR h17 p0 6 8) fun k18 =>
  bnd (gR h17 p0 6 9) fun k19 =>
  bnd (P_Li_write h17 k18 k19 0) fun h20 =>
  bnd (gR h20 p2 5 0) fun k21 =>
  bnd (gR h20 p0 6 8) fun k22 =>
  bnd (P_Li_read h20 k21 1 k22) fun h23 =>
  bnd (gR h23 p0 6 0) fun k24 =>
  bnd (gR h23 p0 6 8) fun k25 =>
  bnd (gR h23 p0 6 4) fun k26 =>
  bnd (gR h23 p0 6 4) fun k27 =>
  ob h23 k24 1 (
  bnd (P_Mo_multiply h23 k24 k25 k26 k27) fun h28 =>
  bnd (gR h28 p0 6 4) fun k29 =>
  bnd (gR h28 p0 6 10) fun k30 =>
  bnd (P_Li_write h28 k29 k30 0) fun h31 =>
  bnd (gR h31 p0 6 9) fun k32 =>
  bnd (gR h31 p0 6 10) fun k33 =>
  bnd (gR h31 p0 6 2) fun k34 =>
  ob h31 p1 0 (
  bnd (P_Cu_sumOfTimes h31 p1 k32 k33 k34) fun h35 =>
  bnd (gR h35 p0 6 2) fun k36 =>
  ob h35 k36 3 (
  bnd2 (P_Po_isNeutral h35 k36) fun v38 h37 =>
  if v38 = 0 then
  ob h37 p0 6 (
  bnd (P_Si_readReducedX h37 p0 p1) fun h39 =>
  bnd (gR h39 p0 6 3) fun k40 =>
  bnd (gR h39 p0 6 8) fun k41 =>
  bnd2 (P_Li_areSame h39 k40 k41) fun v43 h42 =>
  gd (v43 = 0 ∨ v43 = 1) (some (v43, h42)))
  else
  some (0, h37))))))))
set_option maxHeartbeats 4000000 in
set_option maxRecDepth 100000 in
theorem c_Si_isGood {l : Launch} {h h' : HP} {p0 p1 p2 p3 : _} {r' : Int32} (hr : P_Si_isGood h p0 p1 p2 p3 = some (r', h')) : MP l y_Si_isGood (Cond.code y_Si_isGood b_Si_isGood 4 (some .boolean) :: TB) rm_Si_isGood h [.ref p0, .ref p1, .ref p2, .ref p3] (some (.int r')) h' := by
  refine MP_intro (cc := b_Si_isGood) (by decide) (Nat.le_of_ble_eq_true rfl) (fun x hl0 C T hin => ?_)
  unfold P_Si_isGood at hr
  show GG x 0 0 h 0 [(0, .ref p0), (1, .ref p1), (2, .ref p2), (3, .ref p3)] []
  refine g_aload_n C 0 rfl d_Si_isGood_0 rfl ?_
  refine g_aload_n C 3 rfl d_Si_isGood_1 rfl ?_
  obtain ⟨fsh1, hoh1, hr⟩ := of_ob hr
  obtain ⟨h1, eh1, hr⟩ := of_bnd hr
  refine g_callV (pa := [.ref p3]) C hl0 (c_Si_readReduced eh1) cd_Si_91 kw_in_Si_readReduced kw_se_Si_readReduced hoh1 rfl rfl (by decide) rfl rfl (Nat.le_of_ble_eq_true rfl) d_Si_isGood_2 ?_
  refine g_aload_n C 2 rfl d_Si_isGood_5 rfl ?_
  obtain ⟨k2, ek2, hr⟩ := of_bnd hr
  refine g_getR C fl_Si_89 ek2 d_Si_isGood_6 ?_
  refine g_iconst (v := 1) C d_Si_isGood_9 (by decide) ?_
  refine g_aload_n C 0 rfl d_Si_isGood_10 rfl ?_
  obtain ⟨k3, ek3, hr⟩ := of_bnd hr
  refine g_getR C fl_Si_44 ek3 d_Si_isGood_11 ?_
  obtain ⟨h4, eh4, hr⟩ := of_bnd hr
  refine g_callS (pa := [.ref k2, .int 1, .ref k3]) C hl0 (c_Li_read eh4) cd_Si_66 kw_st_Li_read (by decide) rfl rfl (Nat.le_of_ble_eq_true rfl) d_Si_isGood_14 ?_
  refine g_aload_n C 0 rfl d_Si_isGood_17 rfl ?_
  obtain ⟨k5, ek5, hr⟩ := of_bnd hr
  refine g_getR C fl_Si_20 ek5 d_Si_isGood_18 ?_
  refine g_aload_n C 0 rfl d_Si_isGood_21 rfl ?_
  obtain ⟨k6, ek6, hr⟩ := of_bnd hr
  refine g_getR C fl_Si_44 ek6 d_Si_isGood_22 ?_
  refine g_aload_n C 0 rfl d_Si_isGood_25 rfl ?_
  obtain ⟨k7, ek7, hr⟩ := of_bnd hr
  refine g_getR C fl_Si_44 ek7 d_Si_isGood_26 ?_
  obtain ⟨fsh8, hoh8, hr⟩ := of_ob hr
  obtain ⟨h8, eh8, hr⟩ := of_bnd hr
  refine g_callV (pa := [.ref k6, .ref k7]) C hl0 (c_Mo_enterForm eh8) cd_Si_128 kw_in_Mo_enterForm kw_se_Mo_enterForm hoh8 rfl rfl (by decide) rfl rfl (Nat.le_of_ble_eq_true rfl) d_Si_isGood_29 ?_
  refine g_aload_n C 0 rfl d_Si_isGood_32 rfl ?_
  obtain ⟨k9, ek9, hr⟩ := of_bnd hr
  refine g_getR C fl_Si_20 ek9 d_Si_isGood_33 ?_
  refine g_aload_n C 0 rfl d_Si_isGood_36 rfl ?_
  obtain ⟨k10, ek10, hr⟩ := of_bnd hr
  refine g_getR C fl_Si_44 ek10 d_Si_isGood_37 ?_
  refine g_aload_n C 0 rfl d_Si_isGood_40 rfl ?_
  obtain ⟨k11, ek11, hr⟩ := of_bnd hr
  refine g_getR C fl_Si_44 ek11 d_Si_isGood_41 ?_
  obtain ⟨fsh12, hoh12, hr⟩ := of_ob hr
  obtain ⟨h12, eh12, hr⟩ := of_bnd hr
  refine g_callV (pa := [.ref k10, .ref k11]) C hl0 (c_Mo_invert eh12) cd_Si_132 kw_in_Mo_invert kw_se_Mo_invert hoh12 rfl rfl (by decide) rfl rfl (Nat.le_of_ble_eq_true rfl) d_Si_isGood_44 ?_
  refine g_aload_n C 0 rfl d_Si_isGood_47 rfl ?_
  obtain ⟨k13, ek13, hr⟩ := of_bnd hr
  refine g_getR C fl_Si_20 ek13 d_Si_isGood_48 ?_
  refine g_aload_n C 0 rfl d_Si_isGood_51 rfl ?_
  obtain ⟨k14, ek14, hr⟩ := of_bnd hr
  refine g_getR C fl_Si_47 ek14 d_Si_isGood_52 ?_
  refine g_aload_n C 0 rfl d_Si_isGood_55 rfl ?_
  obtain ⟨k15, ek15, hr⟩ := of_bnd hr
  refine g_getR C fl_Si_44 ek15 d_Si_isGood_56 ?_
  refine g_aload_n C 0 rfl d_Si_isGood_59 rfl ?_
  obtain ⟨k16, ek16, hr⟩ := of_bnd hr
  refine g_getR C fl_Si_56 ek16 d_Si_isGood_60 ?_
  obtain ⟨fsh17, hoh17, hr⟩ := of_ob hr
  obtain ⟨h17, eh17, hr⟩ := of_bnd hr
  refine g_callV (pa := [.ref k14, .ref k15, .ref k16]) C hl0 (c_Mo_multiply eh17) cd_Si_135 kw_in_Mo_multiply kw_se_Mo_multiply hoh17 rfl rfl (by decide) rfl rfl (Nat.le_of_ble_eq_true rfl) d_Si_isGood_63 ?_
  refine g_aload_n C 0 rfl d_Si_isGood_66 rfl ?_
  obtain ⟨k18, ek18, hr⟩ := of_bnd hr
  refine g_getR C fl_Si_56 ek18 d_Si_isGood_67 ?_
  refine g_aload_n C 0 rfl d_Si_isGood_70 rfl ?_
  obtain ⟨k19, ek19, hr⟩ := of_bnd hr
  refine g_getR C fl_Si_59 ek19 d_Si_isGood_71 ?_
  refine g_iconst (v := 0) C d_Si_isGood_74 (by decide) ?_
  obtain ⟨h20, eh20, hr⟩ := of_bnd hr
  refine g_callS (pa := [.ref k18, .ref k19, .int 0]) C hl0 (c_Li_write eh20) cd_Si_95 kw_st_Li_write (by decide) rfl rfl (Nat.le_of_ble_eq_true rfl) d_Si_isGood_75 ?_
  refine g_aload_n C 2 rfl d_Si_isGood_78 rfl ?_
  obtain ⟨k21, ek21, hr⟩ := of_bnd hr
  refine g_getR C fl_Si_83 ek21 d_Si_isGood_79 ?_
  refine g_iconst (v := 1) C d_Si_isGood_82 (by decide) ?_
  refine g_aload_n C 0 rfl d_Si_isGood_83 rfl ?_
  obtain ⟨k22, ek22, hr⟩ := of_bnd hr
  refine g_getR C fl_Si_56 ek22 d_Si_isGood_84 ?_
  obtain ⟨h23, eh23, hr⟩ := of_bnd hr
  refine g_callS (pa := [.ref k21, .int 1, .ref k22]) C hl0 (c_Li_read eh23) cd_Si_66 kw_st_Li_read (by decide) rfl rfl (Nat.le_of_ble_eq_true rfl) d_Si_isGood_87 ?_
  refine g_aload_n C 0 rfl d_Si_isGood_90 rfl ?_
  obtain ⟨k24, ek24, hr⟩ := of_bnd hr
  refine g_getR C fl_Si_20 ek24 d_Si_isGood_91 ?_
  refine g_aload_n C 0 rfl d_Si_isGood_94 rfl ?_
  obtain ⟨k25, ek25, hr⟩ := of_bnd hr
  refine g_getR C fl_Si_56 ek25 d_Si_isGood_95 ?_
  refine g_aload_n C 0 rfl d_Si_isGood_98 rfl ?_
  obtain ⟨k26, ek26, hr⟩ := of_bnd hr
  refine g_getR C fl_Si_44 ek26 d_Si_isGood_99 ?_
  refine g_aload_n C 0 rfl d_Si_isGood_102 rfl ?_
  obtain ⟨k27, ek27, hr⟩ := of_bnd hr
  refine g_getR C fl_Si_44 ek27 d_Si_isGood_103 ?_
  obtain ⟨fsh28, hoh28, hr⟩ := of_ob hr
  obtain ⟨h28, eh28, hr⟩ := of_bnd hr
  refine g_callV (pa := [.ref k25, .ref k26, .ref k27]) C hl0 (c_Mo_multiply eh28) cd_Si_135 kw_in_Mo_multiply kw_se_Mo_multiply hoh28 rfl rfl (by decide) rfl rfl (Nat.le_of_ble_eq_true rfl) d_Si_isGood_106 ?_
  refine g_aload_n C 0 rfl d_Si_isGood_109 rfl ?_
  obtain ⟨k29, ek29, hr⟩ := of_bnd hr
  refine g_getR C fl_Si_44 ek29 d_Si_isGood_110 ?_
  refine g_aload_n C 0 rfl d_Si_isGood_113 rfl ?_
  obtain ⟨k30, ek30, hr⟩ := of_bnd hr
  refine g_getR C fl_Si_63 ek30 d_Si_isGood_114 ?_
  refine g_iconst (v := 0) C d_Si_isGood_117 (by decide) ?_
  obtain ⟨h31, eh31, hr⟩ := of_bnd hr
  refine g_callS (pa := [.ref k29, .ref k30, .int 0]) C hl0 (c_Li_write eh31) cd_Si_95 kw_st_Li_write (by decide) rfl rfl (Nat.le_of_ble_eq_true rfl) d_Si_isGood_118 ?_
  refine g_aload_n C 1 rfl d_Si_isGood_121 rfl ?_
  refine g_aload_n C 0 rfl d_Si_isGood_122 rfl ?_
  obtain ⟨k32, ek32, hr⟩ := of_bnd hr
  refine g_getR C fl_Si_59 ek32 d_Si_isGood_123 ?_
  refine g_aload_n C 0 rfl d_Si_isGood_126 rfl ?_
  obtain ⟨k33, ek33, hr⟩ := of_bnd hr
  refine g_getR C fl_Si_63 ek33 d_Si_isGood_127 ?_
  refine g_aload_n C 0 rfl d_Si_isGood_130 rfl ?_
  obtain ⟨k34, ek34, hr⟩ := of_bnd hr
  refine g_getR C fl_Si_34 ek34 d_Si_isGood_131 ?_
  obtain ⟨fsh35, hoh35, hr⟩ := of_ob hr
  obtain ⟨h35, eh35, hr⟩ := of_bnd hr
  refine g_callV (pa := [.ref k32, .ref k33, .ref k34]) C hl0 (c_Cu_sumOfTimes eh35) cd_Si_114 kw_in_Cu_sumOfTimes kw_se_Cu_sumOfTimes hoh35 rfl rfl (by decide) rfl rfl (Nat.le_of_ble_eq_true rfl) d_Si_isGood_134 ?_
  refine g_aload_n C 0 rfl d_Si_isGood_137 rfl ?_
  obtain ⟨k36, ek36, hr⟩ := of_bnd hr
  refine g_getR C fl_Si_34 ek36 d_Si_isGood_138 ?_
  obtain ⟨fsh37, hoh37, hr⟩ := of_ob hr
  obtain ⟨v38, h37, eh37, hr⟩ := of_bnd2 hr
  refine g_callV (pa := []) C hl0 (c_Po_isNeutral eh37) cd_Si_139 kw_in_Po_isNeutral kw_se_Po_isNeutral hoh37 rfl rfl (by decide) rfl rfl (Nat.le_of_ble_eq_true rfl) d_Si_isGood_141 ?_
  refine g_if_eq (tgt := 149) C d_Si_isGood_144 (by decide) (fun z => ?_) (fun z => ?_)
  · have hr := of_if z hr
    refine g_aload_n C 0 rfl d_Si_isGood_149 rfl ?_
    refine g_aload_n C 1 rfl d_Si_isGood_150 rfl ?_
    obtain ⟨fsh39, hoh39, hr⟩ := of_ob hr
    obtain ⟨h39, eh39, hr⟩ := of_bnd hr
    refine g_callV (pa := [.ref p1]) C hl0 (c_Si_readReducedX eh39) cd_Si_118 kw_in_Si_readReducedX kw_se_Si_readReducedX hoh39 rfl rfl (by decide) rfl rfl (Nat.le_of_ble_eq_true rfl) d_Si_isGood_151 ?_
    refine g_aload_n C 0 rfl d_Si_isGood_154 rfl ?_
    obtain ⟨k40, ek40, hr⟩ := of_bnd hr
    refine g_getR C fl_Si_40 ek40 d_Si_isGood_155 ?_
    refine g_aload_n C 0 rfl d_Si_isGood_158 rfl ?_
    obtain ⟨k41, ek41, hr⟩ := of_bnd hr
    refine g_getR C fl_Si_56 ek41 d_Si_isGood_159 ?_
    obtain ⟨v43, h42, eh42, hr⟩ := of_bnd2 hr
    refine g_callS (pa := [.ref k40, .ref k41]) C hl0 (c_Li_areSame eh42) cd_Si_142 kw_st_Li_areSame (by decide) rfl rfl (Nat.le_of_ble_eq_true rfl) d_Si_isGood_162 ?_
    obtain ⟨hz, hr⟩ := of_gd hr
    cases hr
    exact g_ireturn C T (nar_z hz) (by decide) (by decide) d_Si_isGood_165
  · have hr := of_el z hr
    refine g_iconst (v := 0) C d_Si_isGood_147 (by decide) ?_
    cases hr
    exact g_ireturn C T rfl (by decide) (by decide) d_Si_isGood_148
