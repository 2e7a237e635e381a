abbrev b_Sh_new : ByteArray := prog_7_method_1_code
abbrev y_Sh_new : MethodName := ⟨"PrimeKeys$Sha256", "<init>", "()V"⟩
theorem d_Sh_new_0 : decode b_Sh_new 0 = .ok (.aload_n 0, 1) := by decide +kernel
theorem d_Sh_new_1 : decode b_Sh_new 1 = .ok (.invokespecial 1, 3) := by decide +kernel
theorem d_Sh_new_4 : decode b_Sh_new 4 = .ok (.aload_n 0, 1) := by decide +kernel
theorem d_Sh_new_5 : decode b_Sh_new 5 = .ok (.bipush 8, 2) := by decide +kernel
theorem d_Sh_new_7 : decode b_Sh_new 7 = .ok (.newarray .int, 2) := by decide +kernel
theorem d_Sh_new_9 : decode b_Sh_new 9 = .ok (.putfield 9, 3) := by decide +kernel
theorem d_Sh_new_12 : decode b_Sh_new 12 = .ok (.aload_n 0, 1) := by decide +kernel
theorem d_Sh_new_13 : decode b_Sh_new 13 = .ok (.bipush 64, 2) := by decide +kernel
theorem d_Sh_new_15 : decode b_Sh_new 15 = .ok (.newarray .int, 2) := by decide +kernel
theorem d_Sh_new_17 : decode b_Sh_new 17 = .ok (.putfield 13, 3) := by decide +kernel
theorem d_Sh_new_20 : decode b_Sh_new 20 = .ok (.aload_n 0, 1) := by decide +kernel
theorem d_Sh_new_21 : decode b_Sh_new 21 = .ok (.bipush 64, 2) := by decide +kernel
theorem d_Sh_new_23 : decode b_Sh_new 23 = .ok (.newarray .byte, 2) := by decide +kernel
theorem d_Sh_new_25 : decode b_Sh_new 25 = .ok (.putfield 16, 3) := by decide +kernel
theorem d_Sh_new_28 : decode b_Sh_new 28 = .ok (.aload_n 0, 1) := by decide +kernel
theorem d_Sh_new_29 : decode b_Sh_new 29 = .ok (.iconst 0, 1) := by decide +kernel
theorem d_Sh_new_30 : decode b_Sh_new 30 = .ok (.putfield 20, 3) := by decide +kernel
theorem d_Sh_new_33 : decode b_Sh_new 33 = .ok (.aload_n 0, 1) := by decide +kernel
theorem d_Sh_new_34 : decode b_Sh_new 34 = .ok (.iconst 0, 1) := by decide +kernel
theorem d_Sh_new_35 : decode b_Sh_new 35 = .ok (.putfield 24, 3) := by decide +kernel
theorem d_Sh_new_38 : decode b_Sh_new 38 = .ok (.return_, 1) := by decide +kernel
theorem fp_Sh_9 : FP "PrimeKeys$Sha256" 9 4 0 (.array .int) true := ⟨R_Sh, F_Sh, 5, t_Sh, rfl, u_Sh, by decide, rfl, tb_1 (List.mem_of_getElem? (i := 38) (by decide +kernel)) rfl, t_Sh_ok, n_Sh, rfl, by decide +kernel⟩
theorem fp_Sh_13 : FP "PrimeKeys$Sha256" 13 4 1 (.array .int) true := ⟨R_Sh, F_Sh, 5, t_Sh, rfl, u_Sh, by decide, rfl, tb_1 (List.mem_of_getElem? (i := 39) (by decide +kernel)) rfl, t_Sh_ok, n_Sh, rfl, by decide +kernel⟩
theorem fp_Sh_16 : FP "PrimeKeys$Sha256" 16 4 2 (.array .byte) true := ⟨R_Sh, F_Sh, 5, t_Sh, rfl, u_Sh, by decide, rfl, tb_1 (List.mem_of_getElem? (i := 40) (by decide +kernel)) rfl, t_Sh_ok, n_Sh, rfl, by decide +kernel⟩
theorem fp_Sh_20 : FP "PrimeKeys$Sha256" 20 4 3 .int false := ⟨R_Sh, F_Sh, 5, t_Sh, rfl, u_Sh, by decide, rfl, tb_1 (List.mem_of_getElem? (i := 41) (by decide +kernel)) rfl, t_Sh_ok, n_Sh, rfl, by decide +kernel⟩
theorem fp_Sh_24 : FP "PrimeKeys$Sha256" 24 4 4 .int false := ⟨R_Sh, F_Sh, 5, t_Sh, rfl, u_Sh, by decide, rfl, tb_1 (List.mem_of_getElem? (i := 42) (by decide +kernel)) rfl, t_Sh_ok, n_Sh, rfl, by decide +kernel⟩
theorem kw_6 : Cond.methodLink "PrimeKeys$Sha256" 1 Lib.objectInit ∈ TB := tb_1 (List.mem_of_getElem? (i := 37) (by decide +kernel)) rfl
abbrev rm_Sh_new : Room := { frames := 1, cells := 3, slots := 136, locals := 20 }
def P_Sh_new (h : HP) (p0 : Nat) : Option (HP) :=
  lt (h ++ [pI 8 (fun _ => 0)]) fun h1 =>
  lt h.length fun k2 =>
  bnd (pV h1 p0 4 0 (.ref k2)) fun h3 =>
  lt (h3 ++ [pI 64 (fun _ => 0)]) fun h4 =>
  lt h3.length fun k5 =>
  bnd (pV h4 p0 4 1 (.ref k5)) fun h6 =>
  lt (h6 ++ [pB 64 (fun _ => 0)]) fun h7 =>
  lt h6.length fun k8 =>
  bnd (pV h7 p0 4 2 (.ref k8)) fun h9 =>
  bnd (pV h9 p0 4 3 (.int 0)) fun h10 =>
  bnd (pV h10 p0 4 4 (.int 0)) fun h11 =>
  some h11
set_option maxHeartbeats 4000000 in
set_option maxRecDepth 100000 in
theorem c_Sh_new {l : Launch} {h h' : HP} {p0 : _} (hr : P_Sh_new h p0 = some h') : MP l y_Sh_new (Cond.code y_Sh_new b_Sh_new 1 none :: TB) rm_Sh_new h [.ref p0] none h' := by
  refine MP_intro (cc := b_Sh_new) (by decide) (Nat.le_of_ble_eq_true rfl) (fun x hl0 C T hin => ?_)
  unfold P_Sh_new at hr
  show GG x 0 0 h 0 [(0, .ref p0)] []
  refine g_aload_n C 0 rfl d_Sh_new_0 rfl ?_
  refine g_objInit C kw_6 kw_oi kw_oc (by decide) (Nat.le_of_ble_eq_true rfl) d_Sh_new_1 ?_
  refine g_aload_n C 0 rfl d_Sh_new_4 rfl ?_
  refine g_bipush (v := 8) C d_Sh_new_5 (by decide) ?_
  obtain ⟨h1, eh1⟩ : ∃ z, z = h ++ [pI 8 (fun _ => 0)] := ⟨_, rfl⟩
  have hr := of_lt eh1 hr
  obtain ⟨k2, ek2⟩ : ∃ z, z = h.length := ⟨_, rfl⟩
  have hr := of_lt ek2 hr
  refine g_newIE (n' := 8) C eh1 ek2 (by decide) (by decide) (by decide) (by decide) (by decide) d_Sh_new_7 ?_
  obtain ⟨h3, eh3, hr⟩ := of_bnd hr
  refine g_putF C fp_Sh_9 hin rfl eh3 (fun _ => rfl) (fun _ => rfl) d_Sh_new_9 ?_
  refine g_aload_n C 0 rfl d_Sh_new_12 rfl ?_
  refine g_bipush (v := 64) C d_Sh_new_13 (by decide) ?_
  obtain ⟨h4, eh4⟩ : ∃ z, z = h3 ++ [pI 64 (fun _ => 0)] := ⟨_, rfl⟩
  have hr := of_lt eh4 hr
  obtain ⟨k5, ek5⟩ : ∃ z, z = h3.length := ⟨_, rfl⟩
  have hr := of_lt ek5 hr
  refine g_newIE (n' := 64) C eh4 ek5 (by decide) (by decide) (by decide) (by decide) (by decide) d_Sh_new_15 ?_
  obtain ⟨h6, eh6, hr⟩ := of_bnd hr
  refine g_putF C fp_Sh_13 hin rfl eh6 (fun _ => rfl) (fun _ => rfl) d_Sh_new_17 ?_
  refine g_aload_n C 0 rfl d_Sh_new_20 rfl ?_
  refine g_bipush (v := 64) C d_Sh_new_21 (by decide) ?_
  obtain ⟨h7, eh7⟩ : ∃ z, z = h6 ++ [pB 64 (fun _ => 0)] := ⟨_, rfl⟩
  have hr := of_lt eh7 hr
  obtain ⟨k8, ek8⟩ : ∃ z, z = h6.length := ⟨_, rfl⟩
  have hr := of_lt ek8 hr
  refine g_newBE (n' := 64) C eh7 ek8 (by decide) (by decide) (by decide) (by decide) (by decide) d_Sh_new_23 ?_
  obtain ⟨h9, eh9, hr⟩ := of_bnd hr
  refine g_putF C fp_Sh_16 hin rfl eh9 (fun _ => rfl) (fun _ => rfl) d_Sh_new_25 ?_
  refine g_aload_n C 0 rfl d_Sh_new_28 rfl ?_
  refine g_iconst (v := 0) C d_Sh_new_29 (by decide) ?_
  obtain ⟨h10, eh10, hr⟩ := of_bnd hr
  refine g_putI C fp_Sh_20 eh10 d_Sh_new_30 ?_
  refine g_aload_n C 0 rfl d_Sh_new_33 rfl ?_
  refine g_iconst (v := 0) C d_Sh_new_34 (by decide) ?_
  obtain ⟨h11, eh11, hr⟩ := of_bnd hr
  refine g_putI C fp_Sh_24 eh11 d_Sh_new_35 ?_
  cases hr
  exact g_vreturn C T (by decide) (by decide) d_Sh_new_38
abbrev b_Sh_begin : ByteArray := prog_7_method_3_code
abbrev y_Sh_begin : MethodName := ⟨"PrimeKeys$Sha256", "begin", "()V"⟩
theorem d_Sh_begin_0 : decode b_Sh_begin 0 = .ok (.getstatic 38, 3) := by decide +kernel
theorem d_Sh_begin_3 : decode b_Sh_begin 3 = .ok (.iconst 0, 1) := by decide +kernel
theorem d_Sh_begin_4 : decode b_Sh_begin 4 = .ok (.aload_n 0, 1) := by decide +kernel
theorem d_Sh_begin_5 : decode b_Sh_begin 5 = .ok (.getfield 9, 3) := by decide +kernel
theorem d_Sh_begin_8 : decode b_Sh_begin 8 = .ok (.iconst 0, 1) := by decide +kernel
theorem d_Sh_begin_9 : decode b_Sh_begin 9 = .ok (.bipush 8, 2) := by decide +kernel
theorem d_Sh_begin_11 : decode b_Sh_begin 11 = .ok (.invokestatic 41, 3) := by decide +kernel
theorem d_Sh_begin_14 : decode b_Sh_begin 14 = .ok (.aload_n 0, 1) := by decide +kernel
theorem d_Sh_begin_15 : decode b_Sh_begin 15 = .ok (.iconst 0, 1) := by decide +kernel
theorem d_Sh_begin_16 : decode b_Sh_begin 16 = .ok (.putfield 20, 3) := by decide +kernel
theorem d_Sh_begin_19 : decode b_Sh_begin 19 = .ok (.aload_n 0, 1) := by decide +kernel
theorem d_Sh_begin_20 : decode b_Sh_begin 20 = .ok (.iconst 0, 1) := by decide +kernel
theorem d_Sh_begin_21 : decode b_Sh_begin 21 = .ok (.putfield 24, 3) := by decide +kernel
theorem d_Sh_begin_24 : decode b_Sh_begin 24 = .ok (.return_, 1) := by decide +kernel
theorem fl_Sh_9 : FL "PrimeKeys$Sha256" 9 4 0 := ⟨R_Sh, F_Sh, 5, rfl, u_Sh, by decide, rfl, tb_1 (List.mem_of_getElem? (i := 38) (by decide +kernel)) rfl⟩
theorem kw_7 : Cond.fieldLink "PrimeKeys$Sha256" 38 (stC 0) (stN 0) "[I" ∈ TB := tb_2 (List.mem_of_getElem? (i := 111) (by decide +kernel)) rfl
theorem kw_8 : Cond.methodLink "PrimeKeys$Sha256" 41 arraycopyName ∈ TB := tb_2 (List.mem_of_getElem? (i := 113) (by decide +kernel)) rfl
abbrev rm_Sh_begin : Room := { frames := 1, cells := 0, slots := 0, locals := 26 }
def P_Sh_begin (h : HP) (p0 : Nat) : Option (HP) :=
  bnd (gR h p0 4 0) fun k1 =>
  bnd (cpT h 0 0 k1 0 8) fun h2 =>
  bnd (pV h2 p0 4 3 (.int 0)) fun h3 =>
  bnd (pV h3 p0 4 4 (.int 0)) fun h4 =>
  some h4
set_option maxHeartbeats 4000000 in
set_option maxRecDepth 100000 in
theorem c_Sh_begin {l : Launch} {h h' : HP} {p0 : _} (hr : P_Sh_begin h p0 = some h') : MP l y_Sh_begin (Cond.code y_Sh_begin b_Sh_begin 1 none :: TB) rm_Sh_begin h [.ref p0] none h' := by
  refine MP_intro (cc := b_Sh_begin) (by decide) (Nat.le_of_ble_eq_true rfl) (fun x hl0 C T hin => ?_)
  unfold P_Sh_begin at hr
  show GG x 0 0 h 0 [(0, .ref p0)] []
  refine g_gets (t := 0) C (by decide) kw_7 d_Sh_begin_0 ?_
  refine g_iconst (v := 0) C d_Sh_begin_3 (by decide) ?_
  refine g_aload_n C 0 rfl d_Sh_begin_4 rfl ?_
  obtain ⟨k1, ek1, hr⟩ := of_bnd hr
  refine g_getR C fl_Sh_9 ek1 d_Sh_begin_5 ?_
  refine g_iconst (v := 0) C d_Sh_begin_8 (by decide) ?_
  refine g_bipush (v := 8) C d_Sh_begin_9 (by decide) ?_
  obtain ⟨h2, eh2, hr⟩ := of_bnd hr
  refine g_copyT C eh2 kw_8 (Nat.le_of_ble_eq_true rfl) (Nat.le_of_ble_eq_true rfl) d_Sh_begin_11 ?_
  refine g_aload_n C 0 rfl d_Sh_begin_14 rfl ?_
  refine g_iconst (v := 0) C d_Sh_begin_15 (by decide) ?_
  obtain ⟨h3, eh3, hr⟩ := of_bnd hr
  refine g_putI C fp_Sh_20 eh3 d_Sh_begin_16 ?_
  refine g_aload_n C 0 rfl d_Sh_begin_19 rfl ?_
  refine g_iconst (v := 0) C d_Sh_begin_20 (by decide) ?_
  obtain ⟨h4, eh4, hr⟩ := of_bnd hr
  refine g_putI C fp_Sh_24 eh4 d_Sh_begin_21 ?_
  cases hr
  exact g_vreturn C T (by decide) (by decide) d_Sh_begin_24
abbrev b_Sh_fillSchedule : ByteArray := prog_7_method_8_code
abbrev y_Sh_fillSchedule : MethodName := ⟨"PrimeKeys$Sha256", "fillSchedule", "()V"⟩
theorem d_Sh_fillSchedule_0 : decode b_Sh_fillSchedule 0 = .ok (.iconst 0, 1) := by decide +kernel
theorem d_Sh_fillSchedule_1 : decode b_Sh_fillSchedule 1 = .ok (.istore_n 1, 1) := by decide +kernel
theorem d_Sh_fillSchedule_2 : decode b_Sh_fillSchedule 2 = .ok (.iload_n 1, 1) := by decide +kernel
theorem d_Sh_fillSchedule_3 : decode b_Sh_fillSchedule 3 = .ok (.bipush 16, 2) := by decide +kernel
theorem d_Sh_fillSchedule_5 : decode b_Sh_fillSchedule 5 = .ok (.if_icmp .ge 73, 3) := by decide +kernel
theorem d_Sh_fillSchedule_8 : decode b_Sh_fillSchedule 8 = .ok (.iconst 4, 1) := by decide +kernel
theorem d_Sh_fillSchedule_9 : decode b_Sh_fillSchedule 9 = .ok (.iload_n 1, 1) := by decide +kernel
theorem d_Sh_fillSchedule_10 : decode b_Sh_fillSchedule 10 = .ok (.imul, 1) := by decide +kernel
theorem d_Sh_fillSchedule_11 : decode b_Sh_fillSchedule 11 = .ok (.istore_n 2, 1) := by decide +kernel
theorem d_Sh_fillSchedule_12 : decode b_Sh_fillSchedule 12 = .ok (.aload_n 0, 1) := by decide +kernel
theorem d_Sh_fillSchedule_13 : decode b_Sh_fillSchedule 13 = .ok (.getfield 13, 3) := by decide +kernel
theorem d_Sh_fillSchedule_16 : decode b_Sh_fillSchedule 16 = .ok (.iload_n 1, 1) := by decide +kernel
theorem d_Sh_fillSchedule_17 : decode b_Sh_fillSchedule 17 = .ok (.aload_n 0, 1) := by decide +kernel
theorem d_Sh_fillSchedule_18 : decode b_Sh_fillSchedule 18 = .ok (.getfield 16, 3) := by decide +kernel
theorem d_Sh_fillSchedule_21 : decode b_Sh_fillSchedule 21 = .ok (.iload_n 2, 1) := by decide +kernel
theorem d_Sh_fillSchedule_22 : decode b_Sh_fillSchedule 22 = .ok (.baload, 1) := by decide +kernel
theorem d_Sh_fillSchedule_23 : decode b_Sh_fillSchedule 23 = .ok (.bipush 24, 2) := by decide +kernel
theorem d_Sh_fillSchedule_25 : decode b_Sh_fillSchedule 25 = .ok (.ishl, 1) := by decide +kernel
theorem d_Sh_fillSchedule_26 : decode b_Sh_fillSchedule 26 = .ok (.aload_n 0, 1) := by decide +kernel
theorem d_Sh_fillSchedule_27 : decode b_Sh_fillSchedule 27 = .ok (.getfield 16, 3) := by decide +kernel
theorem d_Sh_fillSchedule_30 : decode b_Sh_fillSchedule 30 = .ok (.iload_n 2, 1) := by decide +kernel
theorem d_Sh_fillSchedule_31 : decode b_Sh_fillSchedule 31 = .ok (.iconst 1, 1) := by decide +kernel
theorem d_Sh_fillSchedule_32 : decode b_Sh_fillSchedule 32 = .ok (.iadd, 1) := by decide +kernel
theorem d_Sh_fillSchedule_33 : decode b_Sh_fillSchedule 33 = .ok (.baload, 1) := by decide +kernel
theorem d_Sh_fillSchedule_34 : decode b_Sh_fillSchedule 34 = .ok (.sipush 255, 3) := by decide +kernel
theorem d_Sh_fillSchedule_37 : decode b_Sh_fillSchedule 37 = .ok (.iand, 1) := by decide +kernel
theorem d_Sh_fillSchedule_38 : decode b_Sh_fillSchedule 38 = .ok (.bipush 16, 2) := by decide +kernel
theorem d_Sh_fillSchedule_40 : decode b_Sh_fillSchedule 40 = .ok (.ishl, 1) := by decide +kernel
theorem d_Sh_fillSchedule_41 : decode b_Sh_fillSchedule 41 = .ok (.ior, 1) := by decide +kernel
theorem d_Sh_fillSchedule_42 : decode b_Sh_fillSchedule 42 = .ok (.aload_n 0, 1) := by decide +kernel
theorem d_Sh_fillSchedule_43 : decode b_Sh_fillSchedule 43 = .ok (.getfield 16, 3) := by decide +kernel
theorem d_Sh_fillSchedule_46 : decode b_Sh_fillSchedule 46 = .ok (.iload_n 2, 1) := by decide +kernel
theorem d_Sh_fillSchedule_47 : decode b_Sh_fillSchedule 47 = .ok (.iconst 2, 1) := by decide +kernel
theorem d_Sh_fillSchedule_48 : decode b_Sh_fillSchedule 48 = .ok (.iadd, 1) := by decide +kernel
theorem d_Sh_fillSchedule_49 : decode b_Sh_fillSchedule 49 = .ok (.baload, 1) := by decide +kernel
theorem d_Sh_fillSchedule_50 : decode b_Sh_fillSchedule 50 = .ok (.sipush 255, 3) := by decide +kernel
theorem d_Sh_fillSchedule_53 : decode b_Sh_fillSchedule 53 = .ok (.iand, 1) := by decide +kernel
theorem d_Sh_fillSchedule_54 : decode b_Sh_fillSchedule 54 = .ok (.bipush 8, 2) := by decide +kernel
theorem d_Sh_fillSchedule_56 : decode b_Sh_fillSchedule 56 = .ok (.ishl, 1) := by decide +kernel
theorem d_Sh_fillSchedule_57 : decode b_Sh_fillSchedule 57 = .ok (.ior, 1) := by decide +kernel
theorem d_Sh_fillSchedule_58 : decode b_Sh_fillSchedule 58 = .ok (.aload_n 0, 1) := by decide +kernel
theorem d_Sh_fillSchedule_59 : decode b_Sh_fillSchedule 59 = .ok (.getfield 16, 3) := by decide +kernel
theorem d_Sh_fillSchedule_62 : decode b_Sh_fillSchedule 62 = .ok (.iload_n 2, 1) := by decide +kernel
theorem d_Sh_fillSchedule_63 : decode b_Sh_fillSchedule 63 = .ok (.iconst 3, 1) := by decide +kernel
theorem d_Sh_fillSchedule_64 : decode b_Sh_fillSchedule 64 = .ok (.iadd, 1) := by decide +kernel
theorem d_Sh_fillSchedule_65 : decode b_Sh_fillSchedule 65 = .ok (.baload, 1) := by decide +kernel
theorem d_Sh_fillSchedule_66 : decode b_Sh_fillSchedule 66 = .ok (.sipush 255, 3) := by decide +kernel
theorem d_Sh_fillSchedule_69 : decode b_Sh_fillSchedule 69 = .ok (.iand, 1) := by decide +kernel
theorem d_Sh_fillSchedule_70 : decode b_Sh_fillSchedule 70 = .ok (.ior, 1) := by decide +kernel
theorem d_Sh_fillSchedule_71 : decode b_Sh_fillSchedule 71 = .ok (.iastore, 1) := by decide +kernel
theorem d_Sh_fillSchedule_72 : decode b_Sh_fillSchedule 72 = .ok (.iinc 1 1, 3) := by decide +kernel
theorem d_Sh_fillSchedule_75 : decode b_Sh_fillSchedule 75 = .ok (.goto (-73), 3) := by decide +kernel
theorem d_Sh_fillSchedule_78 : decode b_Sh_fillSchedule 78 = .ok (.bipush 16, 2) := by decide +kernel
theorem d_Sh_fillSchedule_80 : decode b_Sh_fillSchedule 80 = .ok (.istore_n 1, 1) := by decide +kernel
theorem d_Sh_fillSchedule_81 : decode b_Sh_fillSchedule 81 = .ok (.iload_n 1, 1) := by decide +kernel
theorem d_Sh_fillSchedule_82 : decode b_Sh_fillSchedule 82 = .ok (.bipush 64, 2) := by decide +kernel
theorem d_Sh_fillSchedule_84 : decode b_Sh_fillSchedule 84 = .ok (.if_icmp .ge 110, 3) := by decide +kernel
theorem d_Sh_fillSchedule_87 : decode b_Sh_fillSchedule 87 = .ok (.aload_n 0, 1) := by decide +kernel
theorem d_Sh_fillSchedule_88 : decode b_Sh_fillSchedule 88 = .ok (.getfield 13, 3) := by decide +kernel
theorem d_Sh_fillSchedule_91 : decode b_Sh_fillSchedule 91 = .ok (.iload_n 1, 1) := by decide +kernel
theorem d_Sh_fillSchedule_92 : decode b_Sh_fillSchedule 92 = .ok (.bipush 15, 2) := by decide +kernel
theorem d_Sh_fillSchedule_94 : decode b_Sh_fillSchedule 94 = .ok (.isub, 1) := by decide +kernel
theorem d_Sh_fillSchedule_95 : decode b_Sh_fillSchedule 95 = .ok (.iaload, 1) := by decide +kernel
theorem d_Sh_fillSchedule_96 : decode b_Sh_fillSchedule 96 = .ok (.istore_n 2, 1) := by decide +kernel
theorem d_Sh_fillSchedule_97 : decode b_Sh_fillSchedule 97 = .ok (.aload_n 0, 1) := by decide +kernel
theorem d_Sh_fillSchedule_98 : decode b_Sh_fillSchedule 98 = .ok (.getfield 13, 3) := by decide +kernel
theorem d_Sh_fillSchedule_101 : decode b_Sh_fillSchedule 101 = .ok (.iload_n 1, 1) := by decide +kernel
theorem d_Sh_fillSchedule_102 : decode b_Sh_fillSchedule 102 = .ok (.iconst 2, 1) := by decide +kernel
theorem d_Sh_fillSchedule_103 : decode b_Sh_fillSchedule 103 = .ok (.isub, 1) := by decide +kernel
theorem d_Sh_fillSchedule_104 : decode b_Sh_fillSchedule 104 = .ok (.iaload, 1) := by decide +kernel
theorem d_Sh_fillSchedule_105 : decode b_Sh_fillSchedule 105 = .ok (.istore_n 3, 1) := by decide +kernel
theorem d_Sh_fillSchedule_106 : decode b_Sh_fillSchedule 106 = .ok (.iload_n 2, 1) := by decide +kernel
theorem d_Sh_fillSchedule_107 : decode b_Sh_fillSchedule 107 = .ok (.bipush 7, 2) := by decide +kernel
theorem d_Sh_fillSchedule_109 : decode b_Sh_fillSchedule 109 = .ok (.iushr, 1) := by decide +kernel
theorem d_Sh_fillSchedule_110 : decode b_Sh_fillSchedule 110 = .ok (.iload_n 2, 1) := by decide +kernel
theorem d_Sh_fillSchedule_111 : decode b_Sh_fillSchedule 111 = .ok (.bipush 25, 2) := by decide +kernel
theorem d_Sh_fillSchedule_113 : decode b_Sh_fillSchedule 113 = .ok (.ishl, 1) := by decide +kernel
theorem d_Sh_fillSchedule_114 : decode b_Sh_fillSchedule 114 = .ok (.ior, 1) := by decide +kernel
theorem d_Sh_fillSchedule_115 : decode b_Sh_fillSchedule 115 = .ok (.iload_n 2, 1) := by decide +kernel
theorem d_Sh_fillSchedule_116 : decode b_Sh_fillSchedule 116 = .ok (.bipush 18, 2) := by decide +kernel
theorem d_Sh_fillSchedule_118 : decode b_Sh_fillSchedule 118 = .ok (.iushr, 1) := by decide +kernel
theorem d_Sh_fillSchedule_119 : decode b_Sh_fillSchedule 119 = .ok (.iload_n 2, 1) := by decide +kernel
theorem d_Sh_fillSchedule_120 : decode b_Sh_fillSchedule 120 = .ok (.bipush 14, 2) := by decide +kernel
theorem d_Sh_fillSchedule_122 : decode b_Sh_fillSchedule 122 = .ok (.ishl, 1) := by decide +kernel
theorem d_Sh_fillSchedule_123 : decode b_Sh_fillSchedule 123 = .ok (.ior, 1) := by decide +kernel
theorem d_Sh_fillSchedule_124 : decode b_Sh_fillSchedule 124 = .ok (.ixor, 1) := by decide +kernel
theorem d_Sh_fillSchedule_125 : decode b_Sh_fillSchedule 125 = .ok (.iload_n 2, 1) := by decide +kernel
theorem d_Sh_fillSchedule_126 : decode b_Sh_fillSchedule 126 = .ok (.iconst 3, 1) := by decide +kernel
theorem d_Sh_fillSchedule_127 : decode b_Sh_fillSchedule 127 = .ok (.iushr, 1) := by decide +kernel
theorem d_Sh_fillSchedule_128 : decode b_Sh_fillSchedule 128 = .ok (.ixor, 1) := by decide +kernel
theorem d_Sh_fillSchedule_129 : decode b_Sh_fillSchedule 129 = .ok (.istore 4, 2) := by decide +kernel
theorem d_Sh_fillSchedule_131 : decode b_Sh_fillSchedule 131 = .ok (.iload_n 3, 1) := by decide +kernel
theorem d_Sh_fillSchedule_132 : decode b_Sh_fillSchedule 132 = .ok (.bipush 17, 2) := by decide +kernel
theorem d_Sh_fillSchedule_134 : decode b_Sh_fillSchedule 134 = .ok (.iushr, 1) := by decide +kernel
theorem d_Sh_fillSchedule_135 : decode b_Sh_fillSchedule 135 = .ok (.iload_n 3, 1) := by decide +kernel
theorem d_Sh_fillSchedule_136 : decode b_Sh_fillSchedule 136 = .ok (.bipush 15, 2) := by decide +kernel
theorem d_Sh_fillSchedule_138 : decode b_Sh_fillSchedule 138 = .ok (.ishl, 1) := by decide +kernel
theorem d_Sh_fillSchedule_139 : decode b_Sh_fillSchedule 139 = .ok (.ior, 1) := by decide +kernel
theorem d_Sh_fillSchedule_140 : decode b_Sh_fillSchedule 140 = .ok (.iload_n 3, 1) := by decide +kernel
theorem d_Sh_fillSchedule_141 : decode b_Sh_fillSchedule 141 = .ok (.bipush 19, 2) := by decide +kernel
theorem d_Sh_fillSchedule_143 : decode b_Sh_fillSchedule 143 = .ok (.iushr, 1) := by decide +kernel
theorem d_Sh_fillSchedule_144 : decode b_Sh_fillSchedule 144 = .ok (.iload_n 3, 1) := by decide +kernel
theorem d_Sh_fillSchedule_145 : decode b_Sh_fillSchedule 145 = .ok (.bipush 13, 2) := by decide +kernel
theorem d_Sh_fillSchedule_147 : decode b_Sh_fillSchedule 147 = .ok (.ishl, 1) := by decide +kernel
theorem d_Sh_fillSchedule_148 : decode b_Sh_fillSchedule 148 = .ok (.ior, 1) := by decide +kernel
theorem d_Sh_fillSchedule_149 : decode b_Sh_fillSchedule 149 = .ok (.ixor, 1) := by decide +kernel
theorem d_Sh_fillSchedule_150 : decode b_Sh_fillSchedule 150 = .ok (.iload_n 3, 1) := by decide +kernel
theorem d_Sh_fillSchedule_151 : decode b_Sh_fillSchedule 151 = .ok (.bipush 10, 2) := by decide +kernel
theorem d_Sh_fillSchedule_153 : decode b_Sh_fillSchedule 153 = .ok (.iushr, 1) := by decide +kernel
theorem d_Sh_fillSchedule_154 : decode b_Sh_fillSchedule 154 = .ok (.ixor, 1) := by decide +kernel
theorem d_Sh_fillSchedule_155 : decode b_Sh_fillSchedule 155 = .ok (.istore 5, 2) := by decide +kernel
theorem d_Sh_fillSchedule_157 : decode b_Sh_fillSchedule 157 = .ok (.aload_n 0, 1) := by decide +kernel
theorem d_Sh_fillSchedule_158 : decode b_Sh_fillSchedule 158 = .ok (.getfield 13, 3) := by decide +kernel
theorem d_Sh_fillSchedule_161 : decode b_Sh_fillSchedule 161 = .ok (.iload_n 1, 1) := by decide +kernel
theorem d_Sh_fillSchedule_162 : decode b_Sh_fillSchedule 162 = .ok (.iload 5, 2) := by decide +kernel
theorem d_Sh_fillSchedule_164 : decode b_Sh_fillSchedule 164 = .ok (.aload_n 0, 1) := by decide +kernel
theorem d_Sh_fillSchedule_165 : decode b_Sh_fillSchedule 165 = .ok (.getfield 13, 3) := by decide +kernel
theorem d_Sh_fillSchedule_168 : decode b_Sh_fillSchedule 168 = .ok (.iload_n 1, 1) := by decide +kernel
theorem d_Sh_fillSchedule_169 : decode b_Sh_fillSchedule 169 = .ok (.bipush 7, 2) := by decide +kernel
theorem d_Sh_fillSchedule_171 : decode b_Sh_fillSchedule 171 = .ok (.isub, 1) := by decide +kernel
theorem d_Sh_fillSchedule_172 : decode b_Sh_fillSchedule 172 = .ok (.iaload, 1) := by decide +kernel
theorem d_Sh_fillSchedule_173 : decode b_Sh_fillSchedule 173 = .ok (.iadd, 1) := by decide +kernel
theorem d_Sh_fillSchedule_174 : decode b_Sh_fillSchedule 174 = .ok (.iload 4, 2) := by decide +kernel
theorem d_Sh_fillSchedule_176 : decode b_Sh_fillSchedule 176 = .ok (.iadd, 1) := by decide +kernel
theorem d_Sh_fillSchedule_177 : decode b_Sh_fillSchedule 177 = .ok (.aload_n 0, 1) := by decide +kernel
theorem d_Sh_fillSchedule_178 : decode b_Sh_fillSchedule 178 = .ok (.getfield 13, 3) := by decide +kernel
theorem d_Sh_fillSchedule_181 : decode b_Sh_fillSchedule 181 = .ok (.iload_n 1, 1) := by decide +kernel
theorem d_Sh_fillSchedule_182 : decode b_Sh_fillSchedule 182 = .ok (.bipush 16, 2) := by decide +kernel
theorem d_Sh_fillSchedule_184 : decode b_Sh_fillSchedule 184 = .ok (.isub, 1) := by decide +kernel
theorem d_Sh_fillSchedule_185 : decode b_Sh_fillSchedule 185 = .ok (.iaload, 1) := by decide +kernel
theorem d_Sh_fillSchedule_186 : decode b_Sh_fillSchedule 186 = .ok (.iadd, 1) := by decide +kernel
theorem d_Sh_fillSchedule_187 : decode b_Sh_fillSchedule 187 = .ok (.iastore, 1) := by decide +kernel
theorem d_Sh_fillSchedule_188 : decode b_Sh_fillSchedule 188 = .ok (.iinc 1 1, 3) := by decide +kernel
theorem d_Sh_fillSchedule_191 : decode b_Sh_fillSchedule 191 = .ok (.goto (-110), 3) := by decide +kernel
theorem d_Sh_fillSchedule_194 : decode b_Sh_fillSchedule 194 = .ok (.return_, 1) := by decide +kernel
theorem fl_Sh_13 : FL "PrimeKeys$Sha256" 13 4 1 := ⟨R_Sh, F_Sh, 5, rfl, u_Sh, by decide, rfl, tb_1 (List.mem_of_getElem? (i := 39) (by decide +kernel)) rfl⟩
theorem fl_Sh_16 : FL "PrimeKeys$Sha256" 16 4 2 := ⟨R_Sh, F_Sh, 5, rfl, u_Sh, by decide, rfl, tb_1 (List.mem_of_getElem? (i := 40) (by decide +kernel)) rfl⟩
abbrev rm_Sh_fillSchedule : Room := { frames := 0, cells := 0, slots := 0, locals := 0 }
def B_Sh_fillSchedule_81 (K2 : HP → Nat → Int32 → Option (HP)) (K81 : HP → Nat → Int32 → Option (HP)) (h : HP) (a0 : Nat) (a1 : Int32) : Option (HP) :=
  if 64 ≤ a1 then
  some h
  else
  bnd (gR h a0 4 1) fun k1 =>
  bnd (ldI h k1 (a1 - 15)) fun v2 =>
  bnd (gR h a0 4 1) fun k3 =>
  bnd (ldI h k3 (a1 - 2)) fun v4 =>
  lt (((((v2.toUInt32 >>> (Int32.toUInt32 7 &&& Int32.toUInt32 31)).toInt32) ||| (v2 <<< (25 &&& 31))) ^^^ (((v2.toUInt32 >>> (Int32.toUInt32 18 &&& Int32.toUInt32 31)).toInt32) ||| (v2 <<< (14 &&& 31)))) ^^^ ((v2.toUInt32 >>> (Int32.toUInt32 3 &&& Int32.toUInt32 31)).toInt32)) fun x5 =>
  lt (((((v4.toUInt32 >>> (Int32.toUInt32 17 &&& Int32.toUInt32 31)).toInt32) ||| (v4 <<< (15 &&& 31))) ^^^ (((v4.toUInt32 >>> (Int32.toUInt32 19 &&& Int32.toUInt32 31)).toInt32) ||| (v4 <<< (13 &&& 31)))) ^^^ ((v4.toUInt32 >>> (Int32.toUInt32 10 &&& Int32.toUInt32 31)).toInt32)) fun x6 =>
  bnd (gR h a0 4 1) fun k7 =>
  bnd (gR h a0 4 1) fun k8 =>
  bnd (ldI h k8 (a1 - 7)) fun v9 =>
  bnd (gR h a0 4 1) fun k10 =>
  bnd (ldI h k10 (a1 - 16)) fun v11 =>
  bnd (stI h k7 a1 (((x6 + v9) + x5) + v11)) fun h12 =>
  lt (a1 + Int32.ofInt 1) fun x13 =>
  K81 h12 a0 x13
set_option maxHeartbeats 4000000 in
set_option maxRecDepth 100000 in
theorem bk_Sh_fillSchedule_81 {l : Launch} {x : CX} {h0 h' : HP} (C : EV x b_Sh_fillSchedule "PrimeKeys$Sha256" 6 rm_Sh_fillSchedule) (T : CT x (none) rm_Sh_fillSchedule h0 none h') (hl0 : x.1.2.1 = l) (K2 : HP → Nat → Int32 → Option (HP)) (K81 : HP → Nat → Int32 → Option (HP)) (hK2 : ∀ (h : HP) (a0 : Nat) (a1 : Int32), K2 h a0 a1 = some h' → GG x 0 0 h 2 [(0, .ref a0), (1, .int a1)] []) (hK81 : ∀ (h : HP) (a0 : Nat) (a1 : Int32), K81 h a0 a1 = some h' → GG x 0 0 h 81 [(0, .ref a0), (1, .int a1)] []) (h : HP) (a0 : Nat) (a1 : Int32) (hr : B_Sh_fillSchedule_81 K2 K81 h a0 a1 = some h') : GG x 0 0 h 81 [(0, .ref a0), (1, .int a1)] [] := by
  unfold B_Sh_fillSchedule_81 at hr
  refine g_iload_n C 1 rfl d_Sh_fillSchedule_81 rfl ?_
  refine g_bipush (v := 64) C d_Sh_fillSchedule_82 (by decide) ?_
  refine g_icmp_ge (tgt := 194) C d_Sh_fillSchedule_84 (by decide) (fun z => ?_) (fun z => ?_)
  · have hr := of_if z hr
    cases hr
    exact g_vreturn C T (by decide) (by decide) d_Sh_fillSchedule_194
  · have hr := of_el z hr
    refine g_aload_n C 0 rfl d_Sh_fillSchedule_87 rfl ?_
    obtain ⟨k1, ek1, hr⟩ := of_bnd hr
    refine g_getR C fl_Sh_13 ek1 d_Sh_fillSchedule_88 ?_
    refine g_iload_n C 1 rfl d_Sh_fillSchedule_91 rfl ?_
    refine g_bipush (v := 15) C d_Sh_fillSchedule_92 (by decide) ?_
    refine g_isub C d_Sh_fillSchedule_94 ?_
    obtain ⟨v2, ev2, hr⟩ := of_bnd hr
    refine g_iaload C ev2 d_Sh_fillSchedule_95 ?_
    refine g_istore_n (lv' := [(2, .int v2), (0, .ref a0), (1, .int a1)]) C d_Sh_fillSchedule_96 rfl (by decide) rfl ?_
    refine g_aload_n C 1 rfl d_Sh_fillSchedule_97 rfl ?_
    obtain ⟨k3, ek3, hr⟩ := of_bnd hr
    refine g_getR C fl_Sh_13 ek3 d_Sh_fillSchedule_98 ?_
    refine g_iload_n C 2 rfl d_Sh_fillSchedule_101 rfl ?_
    refine g_iconst (v := 2) C d_Sh_fillSchedule_102 (by decide) ?_
    refine g_isub C d_Sh_fillSchedule_103 ?_
    obtain ⟨v4, ev4, hr⟩ := of_bnd hr
    refine g_iaload C ev4 d_Sh_fillSchedule_104 ?_
    refine g_istore_n (lv' := [(3, .int v4), (2, .int v2), (0, .ref a0), (1, .int a1)]) C d_Sh_fillSchedule_105 rfl (by decide) rfl ?_
    refine g_iload_n C 1 rfl d_Sh_fillSchedule_106 rfl ?_
    refine g_bipush (v := 7) C d_Sh_fillSchedule_107 (by decide) ?_
    refine g_iushr C d_Sh_fillSchedule_109 ?_
    refine g_iload_n C 1 rfl d_Sh_fillSchedule_110 rfl ?_
    refine g_bipush (v := 25) C d_Sh_fillSchedule_111 (by decide) ?_
    refine g_ishl C d_Sh_fillSchedule_113 ?_
    refine g_ior C d_Sh_fillSchedule_114 ?_
    refine g_iload_n C 1 rfl d_Sh_fillSchedule_115 rfl ?_
    refine g_bipush (v := 18) C d_Sh_fillSchedule_116 (by decide) ?_
    refine g_iushr C d_Sh_fillSchedule_118 ?_
    refine g_iload_n C 1 rfl d_Sh_fillSchedule_119 rfl ?_
    refine g_bipush (v := 14) C d_Sh_fillSchedule_120 (by decide) ?_
    refine g_ishl C d_Sh_fillSchedule_122 ?_
    refine g_ior C d_Sh_fillSchedule_123 ?_
    refine g_ixor C d_Sh_fillSchedule_124 ?_
    refine g_iload_n C 1 rfl d_Sh_fillSchedule_125 rfl ?_
    refine g_iconst (v := 3) C d_Sh_fillSchedule_126 (by decide) ?_
    refine g_iushr C d_Sh_fillSchedule_127 ?_
    refine g_ixor C d_Sh_fillSchedule_128 ?_
    refine g_topi (fun x5 ex5 => ?_)
    have hr := of_lt ex5 hr
    refine g_istore (lv' := [(4, .int x5), (3, .int v4), (2, .int v2), (0, .ref a0), (1, .int a1)]) C d_Sh_fillSchedule_129 (by decide) rfl ?_
    refine g_iload_n C 1 rfl d_Sh_fillSchedule_131 rfl ?_
    refine g_bipush (v := 17) C d_Sh_fillSchedule_132 (by decide) ?_
    refine g_iushr C d_Sh_fillSchedule_134 ?_
    refine g_iload_n C 1 rfl d_Sh_fillSchedule_135 rfl ?_
    refine g_bipush (v := 15) C d_Sh_fillSchedule_136 (by decide) ?_
    refine g_ishl C d_Sh_fillSchedule_138 ?_
    refine g_ior C d_Sh_fillSchedule_139 ?_
    refine g_iload_n C 1 rfl d_Sh_fillSchedule_140 rfl ?_
    refine g_bipush (v := 19) C d_Sh_fillSchedule_141 (by decide) ?_
    refine g_iushr C d_Sh_fillSchedule_143 ?_
    refine g_iload_n C 1 rfl d_Sh_fillSchedule_144 rfl ?_
    refine g_bipush (v := 13) C d_Sh_fillSchedule_145 (by decide) ?_
    refine g_ishl C d_Sh_fillSchedule_147 ?_
    refine g_ior C d_Sh_fillSchedule_148 ?_
    refine g_ixor C d_Sh_fillSchedule_149 ?_
    refine g_iload_n C 1 rfl d_Sh_fillSchedule_150 rfl ?_
    refine g_bipush (v := 10) C d_Sh_fillSchedule_151 (by decide) ?_
    refine g_iushr C d_Sh_fillSchedule_153 ?_
    refine g_ixor C d_Sh_fillSchedule_154 ?_
    refine g_topi (fun x6 ex6 => ?_)
    have hr := of_lt ex6 hr
    refine g_istore (lv' := [(5, .int x6), (4, .int x5), (3, .int v4), (2, .int v2), (0, .ref a0), (1, .int a1)]) C d_Sh_fillSchedule_155 (by decide) rfl ?_
    refine g_aload_n C 4 rfl d_Sh_fillSchedule_157 rfl ?_
    obtain ⟨k7, ek7, hr⟩ := of_bnd hr
    refine g_getR C fl_Sh_13 ek7 d_Sh_fillSchedule_158 ?_
    refine g_iload_n C 5 rfl d_Sh_fillSchedule_161 rfl ?_
    refine g_iload C 0 rfl d_Sh_fillSchedule_162 ?_
    refine g_aload_n C 4 rfl d_Sh_fillSchedule_164 rfl ?_
    obtain ⟨k8, ek8, hr⟩ := of_bnd hr
    refine g_getR C fl_Sh_13 ek8 d_Sh_fillSchedule_165 ?_
    refine g_iload_n C 5 rfl d_Sh_fillSchedule_168 rfl ?_
    refine g_bipush (v := 7) C d_Sh_fillSchedule_169 (by decide) ?_
    refine g_isub C d_Sh_fillSchedule_171 ?_
    obtain ⟨v9, ev9, hr⟩ := of_bnd hr
    refine g_iaload C ev9 d_Sh_fillSchedule_172 ?_
    refine g_iadd C d_Sh_fillSchedule_173 ?_
    refine g_iload C 1 rfl d_Sh_fillSchedule_174 ?_
    refine g_iadd C d_Sh_fillSchedule_176 ?_
    refine g_aload_n C 4 rfl d_Sh_fillSchedule_177 rfl ?_
    obtain ⟨k10, ek10, hr⟩ := of_bnd hr
    refine g_getR C fl_Sh_13 ek10 d_Sh_fillSchedule_178 ?_
    refine g_iload_n C 5 rfl d_Sh_fillSchedule_181 rfl ?_
    refine g_bipush (v := 16) C d_Sh_fillSchedule_182 (by decide) ?_
    refine g_isub C d_Sh_fillSchedule_184 ?_
    obtain ⟨v11, ev11, hr⟩ := of_bnd hr
    refine g_iaload C ev11 d_Sh_fillSchedule_185 ?_
    refine g_iadd C d_Sh_fillSchedule_186 ?_
    obtain ⟨h12, eh12, hr⟩ := of_bnd hr
    refine g_iastore C eh12 d_Sh_fillSchedule_187 ?_
    obtain ⟨x13, ex13⟩ : ∃ z, z = a1 + Int32.ofInt 1 := ⟨_, rfl⟩
    have hr := of_lt ex13 hr
    refine g_iinc (lv' := [(1, .int x13), (5, .int x6), (4, .int x5), (3, .int v4), (2, .int v2), (0, .ref a0)]) C 5 rfl d_Sh_fillSchedule_188 ex13.symm (by decide) rfl ?_
    refine g_goto (tgt := 81) C d_Sh_fillSchedule_191 (by decide) ?_
    refine g_lv [5, 0] rfl ?_
    exact hK81 h12 a0 x13 hr
def L_Sh_fillSchedule_81 (K2 : HP → Nat → Int32 → Option (HP)) : Nat → HP → Nat → Int32 → Option (HP)
  | 0, _, _, _ => none
  | f + 1, h, a0, a1 => B_Sh_fillSchedule_81 K2 (L_Sh_fillSchedule_81 K2 f) h a0 a1
theorem lp_Sh_fillSchedule_81 {l : Launch} {x : CX} {h0 h' : HP} (C : EV x b_Sh_fillSchedule "PrimeKeys$Sha256" 6 rm_Sh_fillSchedule) (T : CT x (none) rm_Sh_fillSchedule h0 none h') (hl0 : x.1.2.1 = l) (K2 : HP → Nat → Int32 → Option (HP)) (hK2 : ∀ (h : HP) (a0 : Nat) (a1 : Int32), K2 h a0 a1 = some h' → GG x 0 0 h 2 [(0, .ref a0), (1, .int a1)] []) : ∀ (f : Nat) (h : HP) (a0 : Nat) (a1 : Int32), L_Sh_fillSchedule_81 K2 f h a0 a1 = some h' → GG x 0 0 h 81 [(0, .ref a0), (1, .int a1)] [] := by
  intro f
  induction f with
  | zero => intro h a0 a1 hr; have hr : (none : Option (HP)) = some h' := hr; cases hr
  | succ f ih => intro h a0 a1 hr; exact bk_Sh_fillSchedule_81 C T hl0 K2 (L_Sh_fillSchedule_81 K2 f) hK2 ih h a0 a1 hr
def B_Sh_fillSchedule_2 (K2 : HP → Nat → Int32 → Option (HP)) (h : HP) (a0 : Nat) (a1 : Int32) : Option (HP) :=
  if 16 ≤ a1 then
  L_Sh_fillSchedule_81 K2 FU h a0 16
  else
  lt (4 * a1) fun x14 =>
  bnd (gR h a0 4 1) fun k15 =>
  bnd (gR h a0 4 2) fun k16 =>
  bnd (ldB h k16 x14) fun v17 =>
  bnd (gR h a0 4 2) fun k18 =>
  bnd (ldB h k18 (x14 + 1)) fun v19 =>
  bnd (gR h a0 4 2) fun k20 =>
  bnd (ldB h k20 (x14 + 2)) fun v21 =>
  bnd (gR h a0 4 2) fun k22 =>
  bnd (ldB h k22 (x14 + 3)) fun v23 =>
  bnd (stI h k15 a1 ((((v17 <<< (24 &&& 31)) ||| ((v19 &&& 255) <<< (16 &&& 31))) ||| ((v21 &&& 255) <<< (8 &&& 31))) ||| (v23 &&& 255))) fun h24 =>
  lt (a1 + Int32.ofInt 1) fun x25 =>
  K2 h24 a0 x25
set_option maxHeartbeats 4000000 in
set_option maxRecDepth 100000 in
theorem bk_Sh_fillSchedule_2 {l : Launch} {x : CX} {h0 h' : HP} (C : EV x b_Sh_fillSchedule "PrimeKeys$Sha256" 6 rm_Sh_fillSchedule) (T : CT x (none) rm_Sh_fillSchedule h0 none h') (hl0 : x.1.2.1 = l) (K2 : HP → Nat → Int32 → Option (HP)) (hK2 : ∀ (h : HP) (a0 : Nat) (a1 : Int32), K2 h a0 a1 = some h' → GG x 0 0 h 2 [(0, .ref a0), (1, .int a1)] []) (h : HP) (a0 : Nat) (a1 : Int32) (hr : B_Sh_fillSchedule_2 K2 h a0 a1 = some h') : GG x 0 0 h 2 [(0, .ref a0), (1, .int a1)] [] := by
  unfold B_Sh_fillSchedule_2 at hr
  refine g_iload_n C 1 rfl d_Sh_fillSchedule_2 rfl ?_
  refine g_bipush (v := 16) C d_Sh_fillSchedule_3 (by decide) ?_
  refine g_icmp_ge (tgt := 78) C d_Sh_fillSchedule_5 (by decide) (fun z => ?_) (fun z => ?_)
  · have hr := of_if z hr
    refine g_bipush (v := 16) C d_Sh_fillSchedule_78 (by decide) ?_
    refine g_istore_n (lv' := [(1, .int 16), (0, .ref a0)]) C d_Sh_fillSchedule_80 rfl (by decide) rfl ?_
    refine g_lv [1, 0] rfl ?_
    exact lp_Sh_fillSchedule_81 C T hl0 K2 hK2 FU h a0 16 hr
  · have hr := of_el z hr
    refine g_iconst (v := 4) C d_Sh_fillSchedule_8 (by decide) ?_
    refine g_iload_n C 1 rfl d_Sh_fillSchedule_9 rfl ?_
    refine g_imul C d_Sh_fillSchedule_10 ?_
    refine g_topi (fun x14 ex14 => ?_)
    have hr := of_lt ex14 hr
    refine g_istore_n (lv' := [(2, .int x14), (0, .ref a0), (1, .int a1)]) C d_Sh_fillSchedule_11 rfl (by decide) rfl ?_
    refine g_aload_n C 1 rfl d_Sh_fillSchedule_12 rfl ?_
    obtain ⟨k15, ek15, hr⟩ := of_bnd hr
    refine g_getR C fl_Sh_13 ek15 d_Sh_fillSchedule_13 ?_
    refine g_iload_n C 2 rfl d_Sh_fillSchedule_16 rfl ?_
    refine g_aload_n C 1 rfl d_Sh_fillSchedule_17 rfl ?_
    obtain ⟨k16, ek16, hr⟩ := of_bnd hr
    refine g_getR C fl_Sh_16 ek16 d_Sh_fillSchedule_18 ?_
    refine g_iload_n C 0 rfl d_Sh_fillSchedule_21 rfl ?_
    obtain ⟨v17, ev17, hr⟩ := of_bnd hr
    refine g_baload C ev17 d_Sh_fillSchedule_22 ?_
    refine g_bipush (v := 24) C d_Sh_fillSchedule_23 (by decide) ?_
    refine g_ishl C d_Sh_fillSchedule_25 ?_
    refine g_aload_n C 1 rfl d_Sh_fillSchedule_26 rfl ?_
    obtain ⟨k18, ek18, hr⟩ := of_bnd hr
    refine g_getR C fl_Sh_16 ek18 d_Sh_fillSchedule_27 ?_
    refine g_iload_n C 0 rfl d_Sh_fillSchedule_30 rfl ?_
    refine g_iconst (v := 1) C d_Sh_fillSchedule_31 (by decide) ?_
    refine g_iadd C d_Sh_fillSchedule_32 ?_
    obtain ⟨v19, ev19, hr⟩ := of_bnd hr
    refine g_baload C ev19 d_Sh_fillSchedule_33 ?_
    refine g_sipush (v := 255) C d_Sh_fillSchedule_34 (by decide) ?_
    refine g_iand C d_Sh_fillSchedule_37 ?_
    refine g_bipush (v := 16) C d_Sh_fillSchedule_38 (by decide) ?_
    refine g_ishl C d_Sh_fillSchedule_40 ?_
    refine g_ior C d_Sh_fillSchedule_41 ?_
    refine g_aload_n C 1 rfl d_Sh_fillSchedule_42 rfl ?_
    obtain ⟨k20, ek20, hr⟩ := of_bnd hr
    refine g_getR C fl_Sh_16 ek20 d_Sh_fillSchedule_43 ?_
    refine g_iload_n C 0 rfl d_Sh_fillSchedule_46 rfl ?_
    refine g_iconst (v := 2) C d_Sh_fillSchedule_47 (by decide) ?_
    refine g_iadd C d_Sh_fillSchedule_48 ?_
    obtain ⟨v21, ev21, hr⟩ := of_bnd hr
    refine g_baload C ev21 d_Sh_fillSchedule_49 ?_
    refine g_sipush (v := 255) C d_Sh_fillSchedule_50 (by decide) ?_
    refine g_iand C d_Sh_fillSchedule_53 ?_
    refine g_bipush (v := 8) C d_Sh_fillSchedule_54 (by decide) ?_
    refine g_ishl C d_Sh_fillSchedule_56 ?_
    refine g_ior C d_Sh_fillSchedule_57 ?_
    refine g_aload_n C 1 rfl d_Sh_fillSchedule_58 rfl ?_
    obtain ⟨k22, ek22, hr⟩ := of_bnd hr
    refine g_getR C fl_Sh_16 ek22 d_Sh_fillSchedule_59 ?_
    refine g_iload_n C 0 rfl d_Sh_fillSchedule_62 rfl ?_
    refine g_iconst (v := 3) C d_Sh_fillSchedule_63 (by decide) ?_
    refine g_iadd C d_Sh_fillSchedule_64 ?_
    obtain ⟨v23, ev23, hr⟩ := of_bnd hr
    refine g_baload C ev23 d_Sh_fillSchedule_65 ?_
    refine g_sipush (v := 255) C d_Sh_fillSchedule_66 (by decide) ?_
    refine g_iand C d_Sh_fillSchedule_69 ?_
    refine g_ior C d_Sh_fillSchedule_70 ?_
    obtain ⟨h24, eh24, hr⟩ := of_bnd hr
    refine g_iastore C eh24 d_Sh_fillSchedule_71 ?_
    obtain ⟨x25, ex25⟩ : ∃ z, z = a1 + Int32.ofInt 1 := ⟨_, rfl⟩
    have hr := of_lt ex25 hr
    refine g_iinc (lv' := [(1, .int x25), (2, .int x14), (0, .ref a0)]) C 2 rfl d_Sh_fillSchedule_72 ex25.symm (by decide) rfl ?_
    refine g_goto (tgt := 2) C d_Sh_fillSchedule_75 (by decide) ?_
    refine g_lv [2, 0] rfl ?_
    exact hK2 h24 a0 x25 hr
def L_Sh_fillSchedule_2 : Nat → HP → Nat → Int32 → Option (HP)
  | 0, _, _, _ => none
  | f + 1, h, a0, a1 => B_Sh_fillSchedule_2 (L_Sh_fillSchedule_2 f) h a0 a1
theorem lp_Sh_fillSchedule_2 {l : Launch} {x : CX} {h0 h' : HP} (C : EV x b_Sh_fillSchedule "PrimeKeys$Sha256" 6 rm_Sh_fillSchedule) (T : CT x (none) rm_Sh_fillSchedule h0 none h') (hl0 : x.1.2.1 = l) : ∀ (f : Nat) (h : HP) (a0 : Nat) (a1 : Int32), L_Sh_fillSchedule_2 f h a0 a1 = some h' → GG x 0 0 h 2 [(0, .ref a0), (1, .int a1)] [] := by
  intro f
  induction f with
  | zero => intro h a0 a1 hr; have hr : (none : Option (HP)) = some h' := hr; cases hr
  | succ f ih => intro h a0 a1 hr; exact bk_Sh_fillSchedule_2 C T hl0 (L_Sh_fillSchedule_2 f) ih h a0 a1 hr
def P_Sh_fillSchedule (h : HP) (p0 : Nat) : Option (HP) :=
  L_Sh_fillSchedule_2 FU h p0 0
set_option maxHeartbeats 4000000 in
set_option maxRecDepth 100000 in
theorem c_Sh_fillSchedule {l : Launch} {h h' : HP} {p0 : _} (hr : P_Sh_fillSchedule h p0 = some h') : MP l y_Sh_fillSchedule (Cond.code y_Sh_fillSchedule b_Sh_fillSchedule 6 none :: TB) rm_Sh_fillSchedule h [.ref p0] none h' := by
  refine MP_intro (cc := b_Sh_fillSchedule) (by decide) (Nat.le_of_ble_eq_true rfl) (fun x hl0 C T hin => ?_)
  unfold P_Sh_fillSchedule at hr
  show GG x 0 0 h 0 [(0, .ref p0)] []
  refine g_iconst (v := 0) C d_Sh_fillSchedule_0 (by decide) ?_
  refine g_istore_n (lv' := [(1, .int 0), (0, .ref p0)]) C d_Sh_fillSchedule_1 rfl (by decide) rfl ?_
  refine g_lv [1, 0] rfl ?_
  exact lp_Sh_fillSchedule_2 C T hl0 FU h p0 0 hr
abbrev b_Sh_mixBlock : ByteArray := prog_7_method_7_code
abbrev y_Sh_mixBlock : MethodName := ⟨"PrimeKeys$Sha256", "mixBlock", "()V"⟩
theorem d_Sh_mixBlock_0 : decode b_Sh_mixBlock 0 = .ok (.aload_n 0, 1) := by decide +kernel
theorem d_Sh_mixBlock_1 : decode b_Sh_mixBlock 1 = .ok (.invokevirtual 59, 3) := by decide +kernel
theorem d_Sh_mixBlock_4 : decode b_Sh_mixBlock 4 = .ok (.aload_n 0, 1) := by decide +kernel
theorem d_Sh_mixBlock_5 : decode b_Sh_mixBlock 5 = .ok (.getfield 9, 3) := by decide +kernel
theorem d_Sh_mixBlock_8 : decode b_Sh_mixBlock 8 = .ok (.iconst 0, 1) := by decide +kernel
theorem d_Sh_mixBlock_9 : decode b_Sh_mixBlock 9 = .ok (.iaload, 1) := by decide +kernel
theorem d_Sh_mixBlock_10 : decode b_Sh_mixBlock 10 = .ok (.istore_n 1, 1) := by decide +kernel
theorem d_Sh_mixBlock_11 : decode b_Sh_mixBlock 11 = .ok (.aload_n 0, 1) := by decide +kernel
theorem d_Sh_mixBlock_12 : decode b_Sh_mixBlock 12 = .ok (.getfield 9, 3) := by decide +kernel
theorem d_Sh_mixBlock_15 : decode b_Sh_mixBlock 15 = .ok (.iconst 1, 1) := by decide +kernel
theorem d_Sh_mixBlock_16 : decode b_Sh_mixBlock 16 = .ok (.iaload, 1) := by decide +kernel
theorem d_Sh_mixBlock_17 : decode b_Sh_mixBlock 17 = .ok (.istore_n 2, 1) := by decide +kernel
theorem d_Sh_mixBlock_18 : decode b_Sh_mixBlock 18 = .ok (.aload_n 0, 1) := by decide +kernel
theorem d_Sh_mixBlock_19 : decode b_Sh_mixBlock 19 = .ok (.getfield 9, 3) := by decide +kernel
theorem d_Sh_mixBlock_22 : decode b_Sh_mixBlock 22 = .ok (.iconst 2, 1) := by decide +kernel
theorem d_Sh_mixBlock_23 : decode b_Sh_mixBlock 23 = .ok (.iaload, 1) := by decide +kernel
theorem d_Sh_mixBlock_24 : decode b_Sh_mixBlock 24 = .ok (.istore_n 3, 1) := by decide +kernel
theorem d_Sh_mixBlock_25 : decode b_Sh_mixBlock 25 = .ok (.aload_n 0, 1) := by decide +kernel
theorem d_Sh_mixBlock_26 : decode b_Sh_mixBlock 26 = .ok (.getfield 9, 3) := by decide +kernel
theorem d_Sh_mixBlock_29 : decode b_Sh_mixBlock 29 = .ok (.iconst 3, 1) := by decide +kernel
theorem d_Sh_mixBlock_30 : decode b_Sh_mixBlock 30 = .ok (.iaload, 1) := by decide +kernel
theorem d_Sh_mixBlock_31 : decode b_Sh_mixBlock 31 = .ok (.istore 4, 2) := by decide +kernel
theorem d_Sh_mixBlock_33 : decode b_Sh_mixBlock 33 = .ok (.aload_n 0, 1) := by decide +kernel
theorem d_Sh_mixBlock_34 : decode b_Sh_mixBlock 34 = .ok (.getfield 9, 3) := by decide +kernel
theorem d_Sh_mixBlock_37 : decode b_Sh_mixBlock 37 = .ok (.iconst 4, 1) := by decide +kernel
theorem d_Sh_mixBlock_38 : decode b_Sh_mixBlock 38 = .ok (.iaload, 1) := by decide +kernel
theorem d_Sh_mixBlock_39 : decode b_Sh_mixBlock 39 = .ok (.istore 5, 2) := by decide +kernel
theorem d_Sh_mixBlock_41 : decode b_Sh_mixBlock 41 = .ok (.aload_n 0, 1) := by decide +kernel
theorem d_Sh_mixBlock_42 : decode b_Sh_mixBlock 42 = .ok (.getfield 9, 3) := by decide +kernel
theorem d_Sh_mixBlock_45 : decode b_Sh_mixBlock 45 = .ok (.iconst 5, 1) := by decide +kernel
theorem d_Sh_mixBlock_46 : decode b_Sh_mixBlock 46 = .ok (.iaload, 1) := by decide +kernel
theorem d_Sh_mixBlock_47 : decode b_Sh_mixBlock 47 = .ok (.istore 6, 2) := by decide +kernel
theorem d_Sh_mixBlock_49 : decode b_Sh_mixBlock 49 = .ok (.aload_n 0, 1) := by decide +kernel
theorem d_Sh_mixBlock_50 : decode b_Sh_mixBlock 50 = .ok (.getfield 9, 3) := by decide +kernel
theorem d_Sh_mixBlock_53 : decode b_Sh_mixBlock 53 = .ok (.bipush 6, 2) := by decide +kernel
theorem d_Sh_mixBlock_55 : decode b_Sh_mixBlock 55 = .ok (.iaload, 1) := by decide +kernel
theorem d_Sh_mixBlock_56 : decode b_Sh_mixBlock 56 = .ok (.istore 7, 2) := by decide +kernel
theorem d_Sh_mixBlock_58 : decode b_Sh_mixBlock 58 = .ok (.aload_n 0, 1) := by decide +kernel
theorem d_Sh_mixBlock_59 : decode b_Sh_mixBlock 59 = .ok (.getfield 9, 3) := by decide +kernel
theorem d_Sh_mixBlock_62 : decode b_Sh_mixBlock 62 = .ok (.bipush 7, 2) := by decide +kernel
theorem d_Sh_mixBlock_64 : decode b_Sh_mixBlock 64 = .ok (.iaload, 1) := by decide +kernel
theorem d_Sh_mixBlock_65 : decode b_Sh_mixBlock 65 = .ok (.istore 8, 2) := by decide +kernel
theorem d_Sh_mixBlock_67 : decode b_Sh_mixBlock 67 = .ok (.iconst 0, 1) := by decide +kernel
theorem d_Sh_mixBlock_68 : decode b_Sh_mixBlock 68 = .ok (.istore 9, 2) := by decide +kernel
theorem d_Sh_mixBlock_70 : decode b_Sh_mixBlock 70 = .ok (.iload 9, 2) := by decide +kernel
theorem d_Sh_mixBlock_72 : decode b_Sh_mixBlock 72 = .ok (.bipush 64, 2) := by decide +kernel
theorem d_Sh_mixBlock_74 : decode b_Sh_mixBlock 74 = .ok (.if_icmp .ge 160, 3) := by decide +kernel
theorem d_Sh_mixBlock_77 : decode b_Sh_mixBlock 77 = .ok (.iload 5, 2) := by decide +kernel
theorem d_Sh_mixBlock_79 : decode b_Sh_mixBlock 79 = .ok (.bipush 6, 2) := by decide +kernel
theorem d_Sh_mixBlock_81 : decode b_Sh_mixBlock 81 = .ok (.iushr, 1) := by decide +kernel
theorem d_Sh_mixBlock_82 : decode b_Sh_mixBlock 82 = .ok (.iload 5, 2) := by decide +kernel
theorem d_Sh_mixBlock_84 : decode b_Sh_mixBlock 84 = .ok (.bipush 26, 2) := by decide +kernel
theorem d_Sh_mixBlock_86 : decode b_Sh_mixBlock 86 = .ok (.ishl, 1) := by decide +kernel
theorem d_Sh_mixBlock_87 : decode b_Sh_mixBlock 87 = .ok (.ior, 1) := by decide +kernel
theorem d_Sh_mixBlock_88 : decode b_Sh_mixBlock 88 = .ok (.iload 5, 2) := by decide +kernel
theorem d_Sh_mixBlock_90 : decode b_Sh_mixBlock 90 = .ok (.bipush 11, 2) := by decide +kernel
theorem d_Sh_mixBlock_92 : decode b_Sh_mixBlock 92 = .ok (.iushr, 1) := by decide +kernel
theorem d_Sh_mixBlock_93 : decode b_Sh_mixBlock 93 = .ok (.iload 5, 2) := by decide +kernel
theorem d_Sh_mixBlock_95 : decode b_Sh_mixBlock 95 = .ok (.bipush 21, 2) := by decide +kernel
theorem d_Sh_mixBlock_97 : decode b_Sh_mixBlock 97 = .ok (.ishl, 1) := by decide +kernel
theorem d_Sh_mixBlock_98 : decode b_Sh_mixBlock 98 = .ok (.ior, 1) := by decide +kernel
theorem d_Sh_mixBlock_99 : decode b_Sh_mixBlock 99 = .ok (.ixor, 1) := by decide +kernel
theorem d_Sh_mixBlock_100 : decode b_Sh_mixBlock 100 = .ok (.iload 5, 2) := by decide +kernel
theorem d_Sh_mixBlock_102 : decode b_Sh_mixBlock 102 = .ok (.bipush 25, 2) := by decide +kernel
theorem d_Sh_mixBlock_104 : decode b_Sh_mixBlock 104 = .ok (.iushr, 1) := by decide +kernel
theorem d_Sh_mixBlock_105 : decode b_Sh_mixBlock 105 = .ok (.iload 5, 2) := by decide +kernel
theorem d_Sh_mixBlock_107 : decode b_Sh_mixBlock 107 = .ok (.bipush 7, 2) := by decide +kernel
theorem d_Sh_mixBlock_109 : decode b_Sh_mixBlock 109 = .ok (.ishl, 1) := by decide +kernel
theorem d_Sh_mixBlock_110 : decode b_Sh_mixBlock 110 = .ok (.ior, 1) := by decide +kernel
theorem d_Sh_mixBlock_111 : decode b_Sh_mixBlock 111 = .ok (.ixor, 1) := by decide +kernel
theorem d_Sh_mixBlock_112 : decode b_Sh_mixBlock 112 = .ok (.istore 10, 2) := by decide +kernel
theorem d_Sh_mixBlock_114 : decode b_Sh_mixBlock 114 = .ok (.iload_n 1, 1) := by decide +kernel
theorem d_Sh_mixBlock_115 : decode b_Sh_mixBlock 115 = .ok (.iconst 2, 1) := by decide +kernel
theorem d_Sh_mixBlock_116 : decode b_Sh_mixBlock 116 = .ok (.iushr, 1) := by decide +kernel
theorem d_Sh_mixBlock_117 : decode b_Sh_mixBlock 117 = .ok (.iload_n 1, 1) := by decide +kernel
theorem d_Sh_mixBlock_118 : decode b_Sh_mixBlock 118 = .ok (.bipush 30, 2) := by decide +kernel
theorem d_Sh_mixBlock_120 : decode b_Sh_mixBlock 120 = .ok (.ishl, 1) := by decide +kernel
theorem d_Sh_mixBlock_121 : decode b_Sh_mixBlock 121 = .ok (.ior, 1) := by decide +kernel
theorem d_Sh_mixBlock_122 : decode b_Sh_mixBlock 122 = .ok (.iload_n 1, 1) := by decide +kernel
theorem d_Sh_mixBlock_123 : decode b_Sh_mixBlock 123 = .ok (.bipush 13, 2) := by decide +kernel
theorem d_Sh_mixBlock_125 : decode b_Sh_mixBlock 125 = .ok (.iushr, 1) := by decide +kernel
theorem d_Sh_mixBlock_126 : decode b_Sh_mixBlock 126 = .ok (.iload_n 1, 1) := by decide +kernel
theorem d_Sh_mixBlock_127 : decode b_Sh_mixBlock 127 = .ok (.bipush 19, 2) := by decide +kernel
theorem d_Sh_mixBlock_129 : decode b_Sh_mixBlock 129 = .ok (.ishl, 1) := by decide +kernel
theorem d_Sh_mixBlock_130 : decode b_Sh_mixBlock 130 = .ok (.ior, 1) := by decide +kernel
theorem d_Sh_mixBlock_131 : decode b_Sh_mixBlock 131 = .ok (.ixor, 1) := by decide +kernel
theorem d_Sh_mixBlock_132 : decode b_Sh_mixBlock 132 = .ok (.iload_n 1, 1) := by decide +kernel
theorem d_Sh_mixBlock_133 : decode b_Sh_mixBlock 133 = .ok (.bipush 22, 2) := by decide +kernel
theorem d_Sh_mixBlock_135 : decode b_Sh_mixBlock 135 = .ok (.iushr, 1) := by decide +kernel
theorem d_Sh_mixBlock_136 : decode b_Sh_mixBlock 136 = .ok (.iload_n 1, 1) := by decide +kernel
theorem d_Sh_mixBlock_137 : decode b_Sh_mixBlock 137 = .ok (.bipush 10, 2) := by decide +kernel
theorem d_Sh_mixBlock_139 : decode b_Sh_mixBlock 139 = .ok (.ishl, 1) := by decide +kernel
theorem d_Sh_mixBlock_140 : decode b_Sh_mixBlock 140 = .ok (.ior, 1) := by decide +kernel
theorem d_Sh_mixBlock_141 : decode b_Sh_mixBlock 141 = .ok (.ixor, 1) := by decide +kernel
theorem d_Sh_mixBlock_142 : decode b_Sh_mixBlock 142 = .ok (.istore 11, 2) := by decide +kernel
theorem d_Sh_mixBlock_144 : decode b_Sh_mixBlock 144 = .ok (.iload 8, 2) := by decide +kernel
theorem d_Sh_mixBlock_146 : decode b_Sh_mixBlock 146 = .ok (.iload 10, 2) := by decide +kernel
theorem d_Sh_mixBlock_148 : decode b_Sh_mixBlock 148 = .ok (.iadd, 1) := by decide +kernel
theorem d_Sh_mixBlock_149 : decode b_Sh_mixBlock 149 = .ok (.iload 5, 2) := by decide +kernel
theorem d_Sh_mixBlock_151 : decode b_Sh_mixBlock 151 = .ok (.iload 6, 2) := by decide +kernel
theorem d_Sh_mixBlock_153 : decode b_Sh_mixBlock 153 = .ok (.iand, 1) := by decide +kernel
theorem d_Sh_mixBlock_154 : decode b_Sh_mixBlock 154 = .ok (.iload 5, 2) := by decide +kernel
theorem d_Sh_mixBlock_156 : decode b_Sh_mixBlock 156 = .ok (.iconst (-1), 1) := by decide +kernel
theorem d_Sh_mixBlock_157 : decode b_Sh_mixBlock 157 = .ok (.ixor, 1) := by decide +kernel
theorem d_Sh_mixBlock_158 : decode b_Sh_mixBlock 158 = .ok (.iload 7, 2) := by decide +kernel
theorem d_Sh_mixBlock_160 : decode b_Sh_mixBlock 160 = .ok (.iand, 1) := by decide +kernel
theorem d_Sh_mixBlock_161 : decode b_Sh_mixBlock 161 = .ok (.ixor, 1) := by decide +kernel
theorem d_Sh_mixBlock_162 : decode b_Sh_mixBlock 162 = .ok (.iadd, 1) := by decide +kernel
theorem d_Sh_mixBlock_163 : decode b_Sh_mixBlock 163 = .ok (.getstatic 62, 3) := by decide +kernel
theorem d_Sh_mixBlock_166 : decode b_Sh_mixBlock 166 = .ok (.iload 9, 2) := by decide +kernel
theorem d_Sh_mixBlock_168 : decode b_Sh_mixBlock 168 = .ok (.iaload, 1) := by decide +kernel
theorem d_Sh_mixBlock_169 : decode b_Sh_mixBlock 169 = .ok (.iadd, 1) := by decide +kernel
theorem d_Sh_mixBlock_170 : decode b_Sh_mixBlock 170 = .ok (.aload_n 0, 1) := by decide +kernel
theorem d_Sh_mixBlock_171 : decode b_Sh_mixBlock 171 = .ok (.getfield 13, 3) := by decide +kernel
theorem d_Sh_mixBlock_174 : decode b_Sh_mixBlock 174 = .ok (.iload 9, 2) := by decide +kernel
theorem d_Sh_mixBlock_176 : decode b_Sh_mixBlock 176 = .ok (.iaload, 1) := by decide +kernel
theorem d_Sh_mixBlock_177 : decode b_Sh_mixBlock 177 = .ok (.iadd, 1) := by decide +kernel
theorem d_Sh_mixBlock_178 : decode b_Sh_mixBlock 178 = .ok (.istore 12, 2) := by decide +kernel
theorem d_Sh_mixBlock_180 : decode b_Sh_mixBlock 180 = .ok (.iload 11, 2) := by decide +kernel
theorem d_Sh_mixBlock_182 : decode b_Sh_mixBlock 182 = .ok (.iload_n 1, 1) := by decide +kernel
theorem d_Sh_mixBlock_183 : decode b_Sh_mixBlock 183 = .ok (.iload_n 2, 1) := by decide +kernel
theorem d_Sh_mixBlock_184 : decode b_Sh_mixBlock 184 = .ok (.iand, 1) := by decide +kernel
theorem d_Sh_mixBlock_185 : decode b_Sh_mixBlock 185 = .ok (.iload_n 1, 1) := by decide +kernel
theorem d_Sh_mixBlock_186 : decode b_Sh_mixBlock 186 = .ok (.iload_n 3, 1) := by decide +kernel
theorem d_Sh_mixBlock_187 : decode b_Sh_mixBlock 187 = .ok (.iand, 1) := by decide +kernel
theorem d_Sh_mixBlock_188 : decode b_Sh_mixBlock 188 = .ok (.ixor, 1) := by decide +kernel
theorem d_Sh_mixBlock_189 : decode b_Sh_mixBlock 189 = .ok (.iload_n 2, 1) := by decide +kernel
theorem d_Sh_mixBlock_190 : decode b_Sh_mixBlock 190 = .ok (.iload_n 3, 1) := by decide +kernel
theorem d_Sh_mixBlock_191 : decode b_Sh_mixBlock 191 = .ok (.iand, 1) := by decide +kernel
theorem d_Sh_mixBlock_192 : decode b_Sh_mixBlock 192 = .ok (.ixor, 1) := by decide +kernel
theorem d_Sh_mixBlock_193 : decode b_Sh_mixBlock 193 = .ok (.iadd, 1) := by decide +kernel
theorem d_Sh_mixBlock_194 : decode b_Sh_mixBlock 194 = .ok (.istore 13, 2) := by decide +kernel
theorem d_Sh_mixBlock_196 : decode b_Sh_mixBlock 196 = .ok (.iload 7, 2) := by decide +kernel
theorem d_Sh_mixBlock_198 : decode b_Sh_mixBlock 198 = .ok (.istore 8, 2) := by decide +kernel
theorem d_Sh_mixBlock_200 : decode b_Sh_mixBlock 200 = .ok (.iload 6, 2) := by decide +kernel
theorem d_Sh_mixBlock_202 : decode b_Sh_mixBlock 202 = .ok (.istore 7, 2) := by decide +kernel
theorem d_Sh_mixBlock_204 : decode b_Sh_mixBlock 204 = .ok (.iload 5, 2) := by decide +kernel
theorem d_Sh_mixBlock_206 : decode b_Sh_mixBlock 206 = .ok (.istore 6, 2) := by decide +kernel
theorem d_Sh_mixBlock_208 : decode b_Sh_mixBlock 208 = .ok (.iload 4, 2) := by decide +kernel
theorem d_Sh_mixBlock_210 : decode b_Sh_mixBlock 210 = .ok (.iload 12, 2) := by decide +kernel
theorem d_Sh_mixBlock_212 : decode b_Sh_mixBlock 212 = .ok (.iadd, 1) := by decide +kernel
theorem d_Sh_mixBlock_213 : decode b_Sh_mixBlock 213 = .ok (.istore 5, 2) := by decide +kernel
theorem d_Sh_mixBlock_215 : decode b_Sh_mixBlock 215 = .ok (.iload_n 3, 1) := by decide +kernel
theorem d_Sh_mixBlock_216 : decode b_Sh_mixBlock 216 = .ok (.istore 4, 2) := by decide +kernel
theorem d_Sh_mixBlock_218 : decode b_Sh_mixBlock 218 = .ok (.iload_n 2, 1) := by decide +kernel
theorem d_Sh_mixBlock_219 : decode b_Sh_mixBlock 219 = .ok (.istore_n 3, 1) := by decide +kernel
theorem d_Sh_mixBlock_220 : decode b_Sh_mixBlock 220 = .ok (.iload_n 1, 1) := by decide +kernel
theorem d_Sh_mixBlock_221 : decode b_Sh_mixBlock 221 = .ok (.istore_n 2, 1) := by decide +kernel
theorem d_Sh_mixBlock_222 : decode b_Sh_mixBlock 222 = .ok (.iload 12, 2) := by decide +kernel
theorem d_Sh_mixBlock_224 : decode b_Sh_mixBlock 224 = .ok (.iload 13, 2) := by decide +kernel
theorem d_Sh_mixBlock_226 : decode b_Sh_mixBlock 226 = .ok (.iadd, 1) := by decide +kernel
theorem d_Sh_mixBlock_227 : decode b_Sh_mixBlock 227 = .ok (.istore_n 1, 1) := by decide +kernel
theorem d_Sh_mixBlock_228 : decode b_Sh_mixBlock 228 = .ok (.iinc 9 1, 3) := by decide +kernel
theorem d_Sh_mixBlock_231 : decode b_Sh_mixBlock 231 = .ok (.goto (-161), 3) := by decide +kernel
theorem d_Sh_mixBlock_234 : decode b_Sh_mixBlock 234 = .ok (.aload_n 0, 1) := by decide +kernel
theorem d_Sh_mixBlock_235 : decode b_Sh_mixBlock 235 = .ok (.getfield 9, 3) := by decide +kernel
theorem d_Sh_mixBlock_238 : decode b_Sh_mixBlock 238 = .ok (.iconst 0, 1) := by decide +kernel
theorem d_Sh_mixBlock_239 : decode b_Sh_mixBlock 239 = .ok (.dup2, 1) := by decide +kernel
theorem d_Sh_mixBlock_240 : decode b_Sh_mixBlock 240 = .ok (.iaload, 1) := by decide +kernel
theorem d_Sh_mixBlock_241 : decode b_Sh_mixBlock 241 = .ok (.iload_n 1, 1) := by decide +kernel
theorem d_Sh_mixBlock_242 : decode b_Sh_mixBlock 242 = .ok (.iadd, 1) := by decide +kernel
theorem d_Sh_mixBlock_243 : decode b_Sh_mixBlock 243 = .ok (.iastore, 1) := by decide +kernel
theorem d_Sh_mixBlock_244 : decode b_Sh_mixBlock 244 = .ok (.aload_n 0, 1) := by decide +kernel
theorem d_Sh_mixBlock_245 : decode b_Sh_mixBlock 245 = .ok (.getfield 9, 3) := by decide +kernel
theorem d_Sh_mixBlock_248 : decode b_Sh_mixBlock 248 = .ok (.iconst 1, 1) := by decide +kernel
theorem d_Sh_mixBlock_249 : decode b_Sh_mixBlock 249 = .ok (.dup2, 1) := by decide +kernel
theorem d_Sh_mixBlock_250 : decode b_Sh_mixBlock 250 = .ok (.iaload, 1) := by decide +kernel
theorem d_Sh_mixBlock_251 : decode b_Sh_mixBlock 251 = .ok (.iload_n 2, 1) := by decide +kernel
theorem d_Sh_mixBlock_252 : decode b_Sh_mixBlock 252 = .ok (.iadd, 1) := by decide +kernel
theorem d_Sh_mixBlock_253 : decode b_Sh_mixBlock 253 = .ok (.iastore, 1) := by decide +kernel
theorem d_Sh_mixBlock_254 : decode b_Sh_mixBlock 254 = .ok (.aload_n 0, 1) := by decide +kernel
theorem d_Sh_mixBlock_255 : decode b_Sh_mixBlock 255 = .ok (.getfield 9, 3) := by decide +kernel
theorem d_Sh_mixBlock_258 : decode b_Sh_mixBlock 258 = .ok (.iconst 2, 1) := by decide +kernel
theorem d_Sh_mixBlock_259 : decode b_Sh_mixBlock 259 = .ok (.dup2, 1) := by decide +kernel
theorem d_Sh_mixBlock_260 : decode b_Sh_mixBlock 260 = .ok (.iaload, 1) := by decide +kernel
theorem d_Sh_mixBlock_261 : decode b_Sh_mixBlock 261 = .ok (.iload_n 3, 1) := by decide +kernel
theorem d_Sh_mixBlock_262 : decode b_Sh_mixBlock 262 = .ok (.iadd, 1) := by decide +kernel
theorem d_Sh_mixBlock_263 : decode b_Sh_mixBlock 263 = .ok (.iastore, 1) := by decide +kernel
theorem d_Sh_mixBlock_264 : decode b_Sh_mixBlock 264 = .ok (.aload_n 0, 1) := by decide +kernel
theorem d_Sh_mixBlock_265 : decode b_Sh_mixBlock 265 = .ok (.getfield 9, 3) := by decide +kernel
theorem d_Sh_mixBlock_268 : decode b_Sh_mixBlock 268 = .ok (.iconst 3, 1) := by decide +kernel
theorem d_Sh_mixBlock_269 : decode b_Sh_mixBlock 269 = .ok (.dup2, 1) := by decide +kernel
theorem d_Sh_mixBlock_270 : decode b_Sh_mixBlock 270 = .ok (.iaload, 1) := by decide +kernel
theorem d_Sh_mixBlock_271 : decode b_Sh_mixBlock 271 = .ok (.iload 4, 2) := by decide +kernel
theorem d_Sh_mixBlock_273 : decode b_Sh_mixBlock 273 = .ok (.iadd, 1) := by decide +kernel
theorem d_Sh_mixBlock_274 : decode b_Sh_mixBlock 274 = .ok (.iastore, 1) := by decide +kernel
theorem d_Sh_mixBlock_275 : decode b_Sh_mixBlock 275 = .ok (.aload_n 0, 1) := by decide +kernel
theorem d_Sh_mixBlock_276 : decode b_Sh_mixBlock 276 = .ok (.getfield 9, 3) := by decide +kernel
theorem d_Sh_mixBlock_279 : decode b_Sh_mixBlock 279 = .ok (.iconst 4, 1) := by decide +kernel
theorem d_Sh_mixBlock_280 : decode b_Sh_mixBlock 280 = .ok (.dup2, 1) := by decide +kernel
theorem d_Sh_mixBlock_281 : decode b_Sh_mixBlock 281 = .ok (.iaload, 1) := by decide +kernel
theorem d_Sh_mixBlock_282 : decode b_Sh_mixBlock 282 = .ok (.iload 5, 2) := by decide +kernel
theorem d_Sh_mixBlock_284 : decode b_Sh_mixBlock 284 = .ok (.iadd, 1) := by decide +kernel
theorem d_Sh_mixBlock_285 : decode b_Sh_mixBlock 285 = .ok (.iastore, 1) := by decide +kernel
theorem d_Sh_mixBlock_286 : decode b_Sh_mixBlock 286 = .ok (.aload_n 0, 1) := by decide +kernel
theorem d_Sh_mixBlock_287 : decode b_Sh_mixBlock 287 = .ok (.getfield 9, 3) := by decide +kernel
theorem d_Sh_mixBlock_290 : decode b_Sh_mixBlock 290 = .ok (.iconst 5, 1) := by decide +kernel
theorem d_Sh_mixBlock_291 : decode b_Sh_mixBlock 291 = .ok (.dup2, 1) := by decide +kernel
theorem d_Sh_mixBlock_292 : decode b_Sh_mixBlock 292 = .ok (.iaload, 1) := by decide +kernel
theorem d_Sh_mixBlock_293 : decode b_Sh_mixBlock 293 = .ok (.iload 6, 2) := by decide +kernel
theorem d_Sh_mixBlock_295 : decode b_Sh_mixBlock 295 = .ok (.iadd, 1) := by decide +kernel
theorem d_Sh_mixBlock_296 : decode b_Sh_mixBlock 296 = .ok (.iastore, 1) := by decide +kernel
theorem d_Sh_mixBlock_297 : decode b_Sh_mixBlock 297 = .ok (.aload_n 0, 1) := by decide +kernel
theorem d_Sh_mixBlock_298 : decode b_Sh_mixBlock 298 = .ok (.getfield 9, 3) := by decide +kernel
theorem d_Sh_mixBlock_301 : decode b_Sh_mixBlock 301 = .ok (.bipush 6, 2) := by decide +kernel
theorem d_Sh_mixBlock_303 : decode b_Sh_mixBlock 303 = .ok (.dup2, 1) := by decide +kernel
theorem d_Sh_mixBlock_304 : decode b_Sh_mixBlock 304 = .ok (.iaload, 1) := by decide +kernel
theorem d_Sh_mixBlock_305 : decode b_Sh_mixBlock 305 = .ok (.iload 7, 2) := by decide +kernel
theorem d_Sh_mixBlock_307 : decode b_Sh_mixBlock 307 = .ok (.iadd, 1) := by decide +kernel
theorem d_Sh_mixBlock_308 : decode b_Sh_mixBlock 308 = .ok (.iastore, 1) := by decide +kernel
theorem d_Sh_mixBlock_309 : decode b_Sh_mixBlock 309 = .ok (.aload_n 0, 1) := by decide +kernel
theorem d_Sh_mixBlock_310 : decode b_Sh_mixBlock 310 = .ok (.getfield 9, 3) := by decide +kernel
theorem d_Sh_mixBlock_313 : decode b_Sh_mixBlock 313 = .ok (.bipush 7, 2) := by decide +kernel
theorem d_Sh_mixBlock_315 : decode b_Sh_mixBlock 315 = .ok (.dup2, 1) := by decide +kernel
theorem d_Sh_mixBlock_316 : decode b_Sh_mixBlock 316 = .ok (.iaload, 1) := by decide +kernel
theorem d_Sh_mixBlock_317 : decode b_Sh_mixBlock 317 = .ok (.iload 8, 2) := by decide +kernel
theorem d_Sh_mixBlock_319 : decode b_Sh_mixBlock 319 = .ok (.iadd, 1) := by decide +kernel
theorem d_Sh_mixBlock_320 : decode b_Sh_mixBlock 320 = .ok (.iastore, 1) := by decide +kernel
theorem d_Sh_mixBlock_321 : decode b_Sh_mixBlock 321 = .ok (.aload_n 0, 1) := by decide +kernel
theorem d_Sh_mixBlock_322 : decode b_Sh_mixBlock 322 = .ok (.iconst 0, 1) := by decide +kernel
theorem d_Sh_mixBlock_323 : decode b_Sh_mixBlock 323 = .ok (.putfield 20, 3) := by decide +kernel
theorem d_Sh_mixBlock_326 : decode b_Sh_mixBlock 326 = .ok (.return_, 1) := by decide +kernel
theorem kw_9 : Cond.fieldLink "PrimeKeys$Sha256" 62 (stC 1) (stN 1) "[I" ∈ TB := tb_2 (List.mem_of_getElem? (i := 126) (by decide +kernel)) rfl
theorem cd_Sh_59 : CD "PrimeKeys$Sha256" 59 y_Sh_fillSchedule b_Sh_fillSchedule 6 none 0 := ⟨tb_2 (List.mem_of_getElem? (i := 125) rfl) rfl, tb_1 (List.mem_of_getElem? (i := 2) (by decide +kernel)) rfl, tb_2 (List.mem_of_getElem? (i := 122) (by decide +kernel)) rfl, by decide +kernel⟩
theorem kw_in_Sh_fillSchedule : Cond.instanceMethod y_Sh_fillSchedule ∈ TB := tb_2 (List.mem_of_getElem? (i := 124) (by decide +kernel)) rfl
theorem kw_se_Sh_fillSchedule : Cond.selects "PrimeKeys$Sha256" y_Sh_fillSchedule y_Sh_fillSchedule ∈ TB := tb_p (q := (y_Sh_fillSchedule, 5)) (by decide +kernel)
abbrev rm_Sh_mixBlock : Room := { frames := 1, cells := 0, slots := 0, locals := 25 }
def B_Sh_mixBlock_70 (K70 : HP → Nat → Int32 → Int32 → Int32 → Int32 → Int32 → Int32 → Int32 → Int32 → Int32 → Option (HP)) (h : HP) (a0 : Nat) (a1 : Int32) (a2 : Int32) (a3 : Int32) (a4 : Int32) (a5 : Int32) (a6 : Int32) (a7 : Int32) (a8 : Int32) (a9 : Int32) : Option (HP) :=
  if 64 ≤ a9 then
  bnd (gR h a0 4 0) fun k18 =>
  bnd (ldI h k18 0) fun v19 =>
  bnd (stI h k18 0 (v19 + a1)) fun h20 =>
  bnd (gR h20 a0 4 0) fun k21 =>
  bnd (ldI h20 k21 1) fun v22 =>
  bnd (stI h20 k21 1 (v22 + a2)) fun h23 =>
  bnd (gR h23 a0 4 0) fun k24 =>
  bnd (ldI h23 k24 2) fun v25 =>
  bnd (stI h23 k24 2 (v25 + a3)) fun h26 =>
  bnd (gR h26 a0 4 0) fun k27 =>
  bnd (ldI h26 k27 3) fun v28 =>
  bnd (stI h26 k27 3 (v28 + a4)) fun h29 =>
  bnd (gR h29 a0 4 0) fun k30 =>
  bnd (ldI h29 k30 4) fun v31 =>
  bnd (stI h29 k30 4 (v31 + a5)) fun h32 =>
  bnd (gR h32 a0 4 0) fun k33 =>
  bnd (ldI h32 k33 5) fun v34 =>
  bnd (stI h32 k33 5 (v34 + a6)) fun h35 =>
  bnd (gR h35 a0 4 0) fun k36 =>
  bnd (ldI h35 k36 6) fun v37 =>
  bnd (stI h35 k36 6 (v37 + a7)) fun h38 =>
  bnd (gR h38 a0 4 0) fun k39 =>
  bnd (ldI h38 k39 7) fun v40 =>
  bnd (stI h38 k39 7 (v40 + a8)) fun h41 =>
  bnd (pV h41 a0 4 3 (.int 0)) fun h42 =>
  some h42
  else
  lt (((((a5.toUInt32 >>> (Int32.toUInt32 6 &&& Int32.toUInt32 31)).toInt32) ||| (a5 <<< (26 &&& 31))) ^^^ (((a5.toUInt32 >>> (Int32.toUInt32 11 &&& Int32.toUInt32 31)).toInt32) ||| (a5 <<< (21 &&& 31)))) ^^^ (((a5.toUInt32 >>> (Int32.toUInt32 25 &&& Int32.toUInt32 31)).toInt32) ||| (a5 <<< (7 &&& 31)))) fun x43 =>
  lt (((((a1.toUInt32 >>> (Int32.toUInt32 2 &&& Int32.toUInt32 31)).toInt32) ||| (a1 <<< (30 &&& 31))) ^^^ (((a1.toUInt32 >>> (Int32.toUInt32 13 &&& Int32.toUInt32 31)).toInt32) ||| (a1 <<< (19 &&& 31)))) ^^^ (((a1.toUInt32 >>> (Int32.toUInt32 22 &&& Int32.toUInt32 31)).toInt32) ||| (a1 <<< (10 &&& 31)))) fun x44 =>
  bnd (tdI 1 a9) fun v45 =>
  bnd (gR h a0 4 1) fun k46 =>
  bnd (ldI h k46 a9) fun v47 =>
  lt ((((a8 + x43) + ((a5 &&& a6) ^^^ ((a5 ^^^ ((-1))) &&& a7))) + v45) + v47) fun x48 =>
  lt (x44 + (((a1 &&& a2) ^^^ (a1 &&& a3)) ^^^ (a2 &&& a3))) fun x49 =>
  lt (a4 + x48) fun x50 =>
  lt (x48 + x49) fun x51 =>
  lt (a9 + Int32.ofInt 1) fun x52 =>
  K70 h a0 x51 a1 a2 a3 x50 a5 a6 a7 x52
set_option maxHeartbeats 4000000 in
set_option maxRecDepth 100000 in
theorem bk_Sh_mixBlock_70 {l : Launch} {x : CX} {h0 h' : HP} (C : EV x b_Sh_mixBlock "PrimeKeys$Sha256" 14 rm_Sh_mixBlock) (T : CT x (none) rm_Sh_mixBlock h0 none h') (hl0 : x.1.2.1 = l) (K70 : HP → Nat → Int32 → Int32 → Int32 → Int32 → Int32 → Int32 → Int32 → Int32 → Int32 → Option (HP)) (hK70 : ∀ (h : HP) (a0 : Nat) (a1 : Int32) (a2 : Int32) (a3 : Int32) (a4 : Int32) (a5 : Int32) (a6 : Int32) (a7 : Int32) (a8 : Int32) (a9 : Int32), K70 h a0 a1 a2 a3 a4 a5 a6 a7 a8 a9 = some h' → GG x 0 0 h 70 [(0, .ref a0), (1, .int a1), (2, .int a2), (3, .int a3), (4, .int a4), (5, .int a5), (6, .int a6), (7, .int a7), (8, .int a8), (9, .int a9)] []) (h : HP) (a0 : Nat) (a1 : Int32) (a2 : Int32) (a3 : Int32) (a4 : Int32) (a5 : Int32) (a6 : Int32) (a7 : Int32) (a8 : Int32) (a9 : Int32) (hr : B_Sh_mixBlock_70 K70 h a0 a1 a2 a3 a4 a5 a6 a7 a8 a9 = some h') : GG x 0 0 h 70 [(0, .ref a0), (1, .int a1), (2, .int a2), (3, .int a3), (4, .int a4), (5, .int a5), (6, .int a6), (7, .int a7), (8, .int a8), (9, .int a9)] [] := by
  unfold B_Sh_mixBlock_70 at hr
  refine g_iload C 9 rfl d_Sh_mixBlock_70 ?_
  refine g_bipush (v := 64) C d_Sh_mixBlock_72 (by decide) ?_
  refine g_icmp_ge (tgt := 234) C d_Sh_mixBlock_74 (by decide) (fun z => ?_) (fun z => ?_)
  · have hr := of_if z hr
    refine g_aload_n C 0 rfl d_Sh_mixBlock_234 rfl ?_
    obtain ⟨k18, ek18, hr⟩ := of_bnd hr
    refine g_getR C fl_Sh_9 ek18 d_Sh_mixBlock_235 ?_
    refine g_iconst (v := 0) C d_Sh_mixBlock_238 (by decide) ?_
    refine g_dup2_11 C d_Sh_mixBlock_239 rfl rfl ?_
    obtain ⟨v19, ev19, hr⟩ := of_bnd hr
    refine g_iaload C ev19 d_Sh_mixBlock_240 ?_
    refine g_iload_n C 1 rfl d_Sh_mixBlock_241 rfl ?_
    refine g_iadd C d_Sh_mixBlock_242 ?_
    obtain ⟨h20, eh20, hr⟩ := of_bnd hr
    refine g_iastore C eh20 d_Sh_mixBlock_243 ?_
    refine g_aload_n C 0 rfl d_Sh_mixBlock_244 rfl ?_
    obtain ⟨k21, ek21, hr⟩ := of_bnd hr
    refine g_getR C fl_Sh_9 ek21 d_Sh_mixBlock_245 ?_
    refine g_iconst (v := 1) C d_Sh_mixBlock_248 (by decide) ?_
    refine g_dup2_11 C d_Sh_mixBlock_249 rfl rfl ?_
    obtain ⟨v22, ev22, hr⟩ := of_bnd hr
    refine g_iaload C ev22 d_Sh_mixBlock_250 ?_
    refine g_iload_n C 2 rfl d_Sh_mixBlock_251 rfl ?_
    refine g_iadd C d_Sh_mixBlock_252 ?_
    obtain ⟨h23, eh23, hr⟩ := of_bnd hr
    refine g_iastore C eh23 d_Sh_mixBlock_253 ?_
    refine g_aload_n C 0 rfl d_Sh_mixBlock_254 rfl ?_
    obtain ⟨k24, ek24, hr⟩ := of_bnd hr
    refine g_getR C fl_Sh_9 ek24 d_Sh_mixBlock_255 ?_
    refine g_iconst (v := 2) C d_Sh_mixBlock_258 (by decide) ?_
    refine g_dup2_11 C d_Sh_mixBlock_259 rfl rfl ?_
    obtain ⟨v25, ev25, hr⟩ := of_bnd hr
    refine g_iaload C ev25 d_Sh_mixBlock_260 ?_
    refine g_iload_n C 3 rfl d_Sh_mixBlock_261 rfl ?_
    refine g_iadd C d_Sh_mixBlock_262 ?_
    obtain ⟨h26, eh26, hr⟩ := of_bnd hr
    refine g_iastore C eh26 d_Sh_mixBlock_263 ?_
    refine g_aload_n C 0 rfl d_Sh_mixBlock_264 rfl ?_
    obtain ⟨k27, ek27, hr⟩ := of_bnd hr
    refine g_getR C fl_Sh_9 ek27 d_Sh_mixBlock_265 ?_
    refine g_iconst (v := 3) C d_Sh_mixBlock_268 (by decide) ?_
    refine g_dup2_11 C d_Sh_mixBlock_269 rfl rfl ?_
    obtain ⟨v28, ev28, hr⟩ := of_bnd hr
    refine g_iaload C ev28 d_Sh_mixBlock_270 ?_
    refine g_iload C 4 rfl d_Sh_mixBlock_271 ?_
    refine g_iadd C d_Sh_mixBlock_273 ?_
    obtain ⟨h29, eh29, hr⟩ := of_bnd hr
    refine g_iastore C eh29 d_Sh_mixBlock_274 ?_
    refine g_aload_n C 0 rfl d_Sh_mixBlock_275 rfl ?_
    obtain ⟨k30, ek30, hr⟩ := of_bnd hr
    refine g_getR C fl_Sh_9 ek30 d_Sh_mixBlock_276 ?_
    refine g_iconst (v := 4) C d_Sh_mixBlock_279 (by decide) ?_
    refine g_dup2_11 C d_Sh_mixBlock_280 rfl rfl ?_
    obtain ⟨v31, ev31, hr⟩ := of_bnd hr
    refine g_iaload C ev31 d_Sh_mixBlock_281 ?_
    refine g_iload C 5 rfl d_Sh_mixBlock_282 ?_
    refine g_iadd C d_Sh_mixBlock_284 ?_
    obtain ⟨h32, eh32, hr⟩ := of_bnd hr
    refine g_iastore C eh32 d_Sh_mixBlock_285 ?_
    refine g_aload_n C 0 rfl d_Sh_mixBlock_286 rfl ?_
    obtain ⟨k33, ek33, hr⟩ := of_bnd hr
    refine g_getR C fl_Sh_9 ek33 d_Sh_mixBlock_287 ?_
    refine g_iconst (v := 5) C d_Sh_mixBlock_290 (by decide) ?_
    refine g_dup2_11 C d_Sh_mixBlock_291 rfl rfl ?_
    obtain ⟨v34, ev34, hr⟩ := of_bnd hr
    refine g_iaload C ev34 d_Sh_mixBlock_292 ?_
    refine g_iload C 6 rfl d_Sh_mixBlock_293 ?_
    refine g_iadd C d_Sh_mixBlock_295 ?_
    obtain ⟨h35, eh35, hr⟩ := of_bnd hr
    refine g_iastore C eh35 d_Sh_mixBlock_296 ?_
    refine g_aload_n C 0 rfl d_Sh_mixBlock_297 rfl ?_
    obtain ⟨k36, ek36, hr⟩ := of_bnd hr
    refine g_getR C fl_Sh_9 ek36 d_Sh_mixBlock_298 ?_
    refine g_bipush (v := 6) C d_Sh_mixBlock_301 (by decide) ?_
    refine g_dup2_11 C d_Sh_mixBlock_303 rfl rfl ?_
    obtain ⟨v37, ev37, hr⟩ := of_bnd hr
    refine g_iaload C ev37 d_Sh_mixBlock_304 ?_
    refine g_iload C 7 rfl d_Sh_mixBlock_305 ?_
    refine g_iadd C d_Sh_mixBlock_307 ?_
    obtain ⟨h38, eh38, hr⟩ := of_bnd hr
    refine g_iastore C eh38 d_Sh_mixBlock_308 ?_
    refine g_aload_n C 0 rfl d_Sh_mixBlock_309 rfl ?_
    obtain ⟨k39, ek39, hr⟩ := of_bnd hr
    refine g_getR C fl_Sh_9 ek39 d_Sh_mixBlock_310 ?_
    refine g_bipush (v := 7) C d_Sh_mixBlock_313 (by decide) ?_
    refine g_dup2_11 C d_Sh_mixBlock_315 rfl rfl ?_
    obtain ⟨v40, ev40, hr⟩ := of_bnd hr
    refine g_iaload C ev40 d_Sh_mixBlock_316 ?_
    refine g_iload C 8 rfl d_Sh_mixBlock_317 ?_
    refine g_iadd C d_Sh_mixBlock_319 ?_
    obtain ⟨h41, eh41, hr⟩ := of_bnd hr
    refine g_iastore C eh41 d_Sh_mixBlock_320 ?_
    refine g_aload_n C 0 rfl d_Sh_mixBlock_321 rfl ?_
    refine g_iconst (v := 0) C d_Sh_mixBlock_322 (by decide) ?_
    obtain ⟨h42, eh42, hr⟩ := of_bnd hr
    refine g_putI C fp_Sh_20 eh42 d_Sh_mixBlock_323 ?_
    cases hr
    exact g_vreturn C T (by decide) (by decide) d_Sh_mixBlock_326
  · have hr := of_el z hr
    refine g_iload C 5 rfl d_Sh_mixBlock_77 ?_
    refine g_bipush (v := 6) C d_Sh_mixBlock_79 (by decide) ?_
    refine g_iushr C d_Sh_mixBlock_81 ?_
    refine g_iload C 5 rfl d_Sh_mixBlock_82 ?_
    refine g_bipush (v := 26) C d_Sh_mixBlock_84 (by decide) ?_
    refine g_ishl C d_Sh_mixBlock_86 ?_
    refine g_ior C d_Sh_mixBlock_87 ?_
    refine g_iload C 5 rfl d_Sh_mixBlock_88 ?_
    refine g_bipush (v := 11) C d_Sh_mixBlock_90 (by decide) ?_
    refine g_iushr C d_Sh_mixBlock_92 ?_
    refine g_iload C 5 rfl d_Sh_mixBlock_93 ?_
    refine g_bipush (v := 21) C d_Sh_mixBlock_95 (by decide) ?_
    refine g_ishl C d_Sh_mixBlock_97 ?_
    refine g_ior C d_Sh_mixBlock_98 ?_
    refine g_ixor C d_Sh_mixBlock_99 ?_
    refine g_iload C 5 rfl d_Sh_mixBlock_100 ?_
    refine g_bipush (v := 25) C d_Sh_mixBlock_102 (by decide) ?_
    refine g_iushr C d_Sh_mixBlock_104 ?_
    refine g_iload C 5 rfl d_Sh_mixBlock_105 ?_
    refine g_bipush (v := 7) C d_Sh_mixBlock_107 (by decide) ?_
    refine g_ishl C d_Sh_mixBlock_109 ?_
    refine g_ior C d_Sh_mixBlock_110 ?_
    refine g_ixor C d_Sh_mixBlock_111 ?_
    refine g_topi (fun x43 ex43 => ?_)
    have hr := of_lt ex43 hr
    refine g_istore (lv' := [(10, .int x43), (0, .ref a0), (1, .int a1), (2, .int a2), (3, .int a3), (4, .int a4), (5, .int a5), (6, .int a6), (7, .int a7), (8, .int a8), (9, .int a9)]) C d_Sh_mixBlock_112 (by decide) rfl ?_
    refine g_iload_n C 2 rfl d_Sh_mixBlock_114 rfl ?_
    refine g_iconst (v := 2) C d_Sh_mixBlock_115 (by decide) ?_
    refine g_iushr C d_Sh_mixBlock_116 ?_
    refine g_iload_n C 2 rfl d_Sh_mixBlock_117 rfl ?_
    refine g_bipush (v := 30) C d_Sh_mixBlock_118 (by decide) ?_
    refine g_ishl C d_Sh_mixBlock_120 ?_
    refine g_ior C d_Sh_mixBlock_121 ?_
    refine g_iload_n C 2 rfl d_Sh_mixBlock_122 rfl ?_
    refine g_bipush (v := 13) C d_Sh_mixBlock_123 (by decide) ?_
    refine g_iushr C d_Sh_mixBlock_125 ?_
    refine g_iload_n C 2 rfl d_Sh_mixBlock_126 rfl ?_
    refine g_bipush (v := 19) C d_Sh_mixBlock_127 (by decide) ?_
    refine g_ishl C d_Sh_mixBlock_129 ?_
    refine g_ior C d_Sh_mixBlock_130 ?_
    refine g_ixor C d_Sh_mixBlock_131 ?_
    refine g_iload_n C 2 rfl d_Sh_mixBlock_132 rfl ?_
    refine g_bipush (v := 22) C d_Sh_mixBlock_133 (by decide) ?_
    refine g_iushr C d_Sh_mixBlock_135 ?_
    refine g_iload_n C 2 rfl d_Sh_mixBlock_136 rfl ?_
    refine g_bipush (v := 10) C d_Sh_mixBlock_137 (by decide) ?_
    refine g_ishl C d_Sh_mixBlock_139 ?_
    refine g_ior C d_Sh_mixBlock_140 ?_
    refine g_ixor C d_Sh_mixBlock_141 ?_
    refine g_topi (fun x44 ex44 => ?_)
    have hr := of_lt ex44 hr
    refine g_istore (lv' := [(11, .int x44), (10, .int x43), (0, .ref a0), (1, .int a1), (2, .int a2), (3, .int a3), (4, .int a4), (5, .int a5), (6, .int a6), (7, .int a7), (8, .int a8), (9, .int a9)]) C d_Sh_mixBlock_142 (by decide) rfl ?_
    refine g_iload C 10 rfl d_Sh_mixBlock_144 ?_
    refine g_iload C 1 rfl d_Sh_mixBlock_146 ?_
    refine g_iadd C d_Sh_mixBlock_148 ?_
    refine g_iload C 7 rfl d_Sh_mixBlock_149 ?_
    refine g_iload C 8 rfl d_Sh_mixBlock_151 ?_
    refine g_iand C d_Sh_mixBlock_153 ?_
    refine g_iload C 7 rfl d_Sh_mixBlock_154 ?_
    refine g_iconst (v := (-1)) C d_Sh_mixBlock_156 (by decide) ?_
    refine g_ixor C d_Sh_mixBlock_157 ?_
    refine g_iload C 9 rfl d_Sh_mixBlock_158 ?_
    refine g_iand C d_Sh_mixBlock_160 ?_
    refine g_ixor C d_Sh_mixBlock_161 ?_
    refine g_iadd C d_Sh_mixBlock_162 ?_
    refine g_gets (t := 1) C (by decide) kw_9 d_Sh_mixBlock_163 ?_
    refine g_iload C 11 rfl d_Sh_mixBlock_166 ?_
    obtain ⟨v45, ev45, hr⟩ := of_bnd hr
    refine g_ialoadT C ev45 d_Sh_mixBlock_168 ?_
    refine g_iadd C d_Sh_mixBlock_169 ?_
    refine g_aload_n C 2 rfl d_Sh_mixBlock_170 rfl ?_
    obtain ⟨k46, ek46, hr⟩ := of_bnd hr
    refine g_getR C fl_Sh_13 ek46 d_Sh_mixBlock_171 ?_
    refine g_iload C 11 rfl d_Sh_mixBlock_174 ?_
    obtain ⟨v47, ev47, hr⟩ := of_bnd hr
    refine g_iaload C ev47 d_Sh_mixBlock_176 ?_
    refine g_iadd C d_Sh_mixBlock_177 ?_
    refine g_topi (fun x48 ex48 => ?_)
    have hr := of_lt ex48 hr
    refine g_istore (lv' := [(12, .int x48), (11, .int x44), (10, .int x43), (0, .ref a0), (1, .int a1), (2, .int a2), (3, .int a3), (4, .int a4), (5, .int a5), (6, .int a6), (7, .int a7), (8, .int a8), (9, .int a9)]) C d_Sh_mixBlock_178 (by decide) rfl ?_
    refine g_iload C 1 rfl d_Sh_mixBlock_180 ?_
    refine g_iload_n C 4 rfl d_Sh_mixBlock_182 rfl ?_
    refine g_iload_n C 5 rfl d_Sh_mixBlock_183 rfl ?_
    refine g_iand C d_Sh_mixBlock_184 ?_
    refine g_iload_n C 4 rfl d_Sh_mixBlock_185 rfl ?_
    refine g_iload_n C 6 rfl d_Sh_mixBlock_186 rfl ?_
    refine g_iand C d_Sh_mixBlock_187 ?_
    refine g_ixor C d_Sh_mixBlock_188 ?_
    refine g_iload_n C 5 rfl d_Sh_mixBlock_189 rfl ?_
    refine g_iload_n C 6 rfl d_Sh_mixBlock_190 rfl ?_
    refine g_iand C d_Sh_mixBlock_191 ?_
    refine g_ixor C d_Sh_mixBlock_192 ?_
    refine g_iadd C d_Sh_mixBlock_193 ?_
    refine g_topi (fun x49 ex49 => ?_)
    have hr := of_lt ex49 hr
    refine g_istore (lv' := [(13, .int x49), (12, .int x48), (11, .int x44), (10, .int x43), (0, .ref a0), (1, .int a1), (2, .int a2), (3, .int a3), (4, .int a4), (5, .int a5), (6, .int a6), (7, .int a7), (8, .int a8), (9, .int a9)]) C d_Sh_mixBlock_194 (by decide) rfl ?_
    refine g_iload C 11 rfl d_Sh_mixBlock_196 ?_
    refine g_istore (lv' := [(8, .int a7), (13, .int x49), (12, .int x48), (11, .int x44), (10, .int x43), (0, .ref a0), (1, .int a1), (2, .int a2), (3, .int a3), (4, .int a4), (5, .int a5), (6, .int a6), (7, .int a7), (9, .int a9)]) C d_Sh_mixBlock_198 (by decide) rfl ?_
    refine g_iload C 11 rfl d_Sh_mixBlock_200 ?_
    refine g_istore (lv' := [(7, .int a6), (8, .int a7), (13, .int x49), (12, .int x48), (11, .int x44), (10, .int x43), (0, .ref a0), (1, .int a1), (2, .int a2), (3, .int a3), (4, .int a4), (5, .int a5), (6, .int a6), (9, .int a9)]) C d_Sh_mixBlock_202 (by decide) rfl ?_
    refine g_iload C 11 rfl d_Sh_mixBlock_204 ?_
    refine g_istore (lv' := [(6, .int a5), (7, .int a6), (8, .int a7), (13, .int x49), (12, .int x48), (11, .int x44), (10, .int x43), (0, .ref a0), (1, .int a1), (2, .int a2), (3, .int a3), (4, .int a4), (5, .int a5), (9, .int a9)]) C d_Sh_mixBlock_206 (by decide) rfl ?_
    refine g_iload C 11 rfl d_Sh_mixBlock_208 ?_
    refine g_iload C 4 rfl d_Sh_mixBlock_210 ?_
    refine g_iadd C d_Sh_mixBlock_212 ?_
    refine g_topi (fun x50 ex50 => ?_)
    have hr := of_lt ex50 hr
    refine g_istore (lv' := [(5, .int x50), (6, .int a5), (7, .int a6), (8, .int a7), (13, .int x49), (12, .int x48), (11, .int x44), (10, .int x43), (0, .ref a0), (1, .int a1), (2, .int a2), (3, .int a3), (4, .int a4), (9, .int a9)]) C d_Sh_mixBlock_213 (by decide) rfl ?_
    refine g_iload_n C 11 rfl d_Sh_mixBlock_215 rfl ?_
    refine g_istore (lv' := [(4, .int a3), (5, .int x50), (6, .int a5), (7, .int a6), (8, .int a7), (13, .int x49), (12, .int x48), (11, .int x44), (10, .int x43), (0, .ref a0), (1, .int a1), (2, .int a2), (3, .int a3), (9, .int a9)]) C d_Sh_mixBlock_216 (by decide) rfl ?_
    refine g_iload_n C 11 rfl d_Sh_mixBlock_218 rfl ?_
    refine g_istore_n (lv' := [(3, .int a2), (4, .int a3), (5, .int x50), (6, .int a5), (7, .int a6), (8, .int a7), (13, .int x49), (12, .int x48), (11, .int x44), (10, .int x43), (0, .ref a0), (1, .int a1), (2, .int a2), (9, .int a9)]) C d_Sh_mixBlock_219 rfl (by decide) rfl ?_
    refine g_iload_n C 11 rfl d_Sh_mixBlock_220 rfl ?_
    refine g_istore_n (lv' := [(2, .int a1), (3, .int a2), (4, .int a3), (5, .int x50), (6, .int a5), (7, .int a6), (8, .int a7), (13, .int x49), (12, .int x48), (11, .int x44), (10, .int x43), (0, .ref a0), (1, .int a1), (9, .int a9)]) C d_Sh_mixBlock_221 rfl (by decide) rfl ?_
    refine g_iload C 8 rfl d_Sh_mixBlock_222 ?_
    refine g_iload C 7 rfl d_Sh_mixBlock_224 ?_
    refine g_iadd C d_Sh_mixBlock_226 ?_
    refine g_topi (fun x51 ex51 => ?_)
    have hr := of_lt ex51 hr
    refine g_istore_n (lv' := [(1, .int x51), (2, .int a1), (3, .int a2), (4, .int a3), (5, .int x50), (6, .int a5), (7, .int a6), (8, .int a7), (13, .int x49), (12, .int x48), (11, .int x44), (10, .int x43), (0, .ref a0), (9, .int a9)]) C d_Sh_mixBlock_227 rfl (by decide) rfl ?_
    obtain ⟨x52, ex52⟩ : ∃ z, z = a9 + Int32.ofInt 1 := ⟨_, rfl⟩
    have hr := of_lt ex52 hr
    refine g_iinc (lv' := [(9, .int x52), (1, .int x51), (2, .int a1), (3, .int a2), (4, .int a3), (5, .int x50), (6, .int a5), (7, .int a6), (8, .int a7), (13, .int x49), (12, .int x48), (11, .int x44), (10, .int x43), (0, .ref a0)]) C 13 rfl d_Sh_mixBlock_228 ex52.symm (by decide) rfl ?_
    refine g_goto (tgt := 70) C d_Sh_mixBlock_231 (by decide) ?_
    refine g_lv [13, 1, 2, 3, 4, 5, 6, 7, 8, 0] rfl ?_
    exact hK70 h a0 x51 a1 a2 a3 x50 a5 a6 a7 x52 hr
def L_Sh_mixBlock_70 : Nat → HP → Nat → Int32 → Int32 → Int32 → Int32 → Int32 → Int32 → Int32 → Int32 → Int32 → Option (HP)
  | 0, _, _, _, _, _, _, _, _, _, _, _ => none
  | f + 1, h, a0, a1, a2, a3, a4, a5, a6, a7, a8, a9 => B_Sh_mixBlock_70 (L_Sh_mixBlock_70 f) h a0 a1 a2 a3 a4 a5 a6 a7 a8 a9
theorem lp_Sh_mixBlock_70 {l : Launch} {x : CX} {h0 h' : HP} (C : EV x b_Sh_mixBlock "PrimeKeys$Sha256" 14 rm_Sh_mixBlock) (T : CT x (none) rm_Sh_mixBlock h0 none h') (hl0 : x.1.2.1 = l) : ∀ (f : Nat) (h : HP) (a0 : Nat) (a1 : Int32) (a2 : Int32) (a3 : Int32) (a4 : Int32) (a5 : Int32) (a6 : Int32) (a7 : Int32) (a8 : Int32) (a9 : Int32), L_Sh_mixBlock_70 f h a0 a1 a2 a3 a4 a5 a6 a7 a8 a9 = some h' → GG x 0 0 h 70 [(0, .ref a0), (1, .int a1), (2, .int a2), (3, .int a3), (4, .int a4), (5, .int a5), (6, .int a6), (7, .int a7), (8, .int a8), (9, .int a9)] [] := by
  intro f
  induction f with
  | zero => intro h a0 a1 a2 a3 a4 a5 a6 a7 a8 a9 hr; have hr : (none : Option (HP)) = some h' := hr; cases hr
  | succ f ih => intro h a0 a1 a2 a3 a4 a5 a6 a7 a8 a9 hr; exact bk_Sh_mixBlock_70 C T hl0 (L_Sh_mixBlock_70 f) ih h a0 a1 a2 a3 a4 a5 a6 a7 a8 a9 hr
def P_Sh_mixBlock (h : HP) (p0 : Nat) : Option (HP) :=
  ob h p0 4 (
  bnd (P_Sh_fillSchedule h p0) fun h1 =>
  bnd (gR h1 p0 4 0) fun k2 =>
  bnd (ldI h1 k2 0) fun v3 =>
  bnd (gR h1 p0 4 0) fun k4 =>
  bnd (ldI h1 k4 1) fun v5 =>
  bnd (gR h1 p0 4 0) fun k6 =>
  bnd (ldI h1 k6 2) fun v7 =>
  bnd (gR h1 p0 4 0) fun k8 =>
  bnd (ldI h1 k8 3) fun v9 =>
  bnd (gR h1 p0 4 0) fun k10 =>
  bnd (ldI h1 k10 4) fun v11 =>
  bnd (gR h1 p0 4 0) fun k12 =>
  bnd (ldI h1 k12 5) fun v13 =>
  bnd (gR h1 p0 4 0) fun k14 =>
  bnd (ldI h1 k14 6) fun v15 =>
  bnd (gR h1 p0 4 0) fun k16 =>
  bnd (ldI h1 k16 7) fun v17 =>
  L_Sh_mixBlock_70 FU h1 p0 v3 v5 v7 v9 v11 v13 v15 v17 0)
set_option maxHeartbeats 4000000 in
set_option maxRecDepth 100000 in
theorem c_Sh_mixBlock {l : Launch} {h h' : HP} {p0 : _} (hr : P_Sh_mixBlock h p0 = some h') : MP l y_Sh_mixBlock (Cond.code y_Sh_mixBlock b_Sh_mixBlock 14 none :: TB) rm_Sh_mixBlock h [.ref p0] none h' := by
  refine MP_intro (cc := b_Sh_mixBlock) (by decide) (Nat.le_of_ble_eq_true rfl) (fun x hl0 C T hin => ?_)
  unfold P_Sh_mixBlock at hr
  show GG x 0 0 h 0 [(0, .ref p0)] []
  refine g_aload_n C 0 rfl d_Sh_mixBlock_0 rfl ?_
  obtain ⟨fsh1, hoh1, hr⟩ := of_ob hr
  obtain ⟨h1, eh1, hr⟩ := of_bnd hr
  refine g_callV (pa := []) C hl0 (c_Sh_fillSchedule eh1) cd_Sh_59 kw_in_Sh_fillSchedule kw_se_Sh_fillSchedule hoh1 rfl rfl (by decide) rfl rfl (Nat.le_of_ble_eq_true rfl) d_Sh_mixBlock_1 ?_
  refine g_aload_n C 0 rfl d_Sh_mixBlock_4 rfl ?_
  obtain ⟨k2, ek2, hr⟩ := of_bnd hr
  refine g_getR C fl_Sh_9 ek2 d_Sh_mixBlock_5 ?_
  refine g_iconst (v := 0) C d_Sh_mixBlock_8 (by decide) ?_
  obtain ⟨v3, ev3, hr⟩ := of_bnd hr
  refine g_iaload C ev3 d_Sh_mixBlock_9 ?_
  refine g_istore_n (lv' := [(1, .int v3), (0, .ref p0)]) C d_Sh_mixBlock_10 rfl (by decide) rfl ?_
  refine g_aload_n C 1 rfl d_Sh_mixBlock_11 rfl ?_
  obtain ⟨k4, ek4, hr⟩ := of_bnd hr
  refine g_getR C fl_Sh_9 ek4 d_Sh_mixBlock_12 ?_
  refine g_iconst (v := 1) C d_Sh_mixBlock_15 (by decide) ?_
  obtain ⟨v5, ev5, hr⟩ := of_bnd hr
  refine g_iaload C ev5 d_Sh_mixBlock_16 ?_
  refine g_istore_n (lv' := [(2, .int v5), (1, .int v3), (0, .ref p0)]) C d_Sh_mixBlock_17 rfl (by decide) rfl ?_
  refine g_aload_n C 2 rfl d_Sh_mixBlock_18 rfl ?_
  obtain ⟨k6, ek6, hr⟩ := of_bnd hr
  refine g_getR C fl_Sh_9 ek6 d_Sh_mixBlock_19 ?_
  refine g_iconst (v := 2) C d_Sh_mixBlock_22 (by decide) ?_
  obtain ⟨v7, ev7, hr⟩ := of_bnd hr
  refine g_iaload C ev7 d_Sh_mixBlock_23 ?_
  refine g_istore_n (lv' := [(3, .int v7), (2, .int v5), (1, .int v3), (0, .ref p0)]) C d_Sh_mixBlock_24 rfl (by decide) rfl ?_
  refine g_aload_n C 3 rfl d_Sh_mixBlock_25 rfl ?_
  obtain ⟨k8, ek8, hr⟩ := of_bnd hr
  refine g_getR C fl_Sh_9 ek8 d_Sh_mixBlock_26 ?_
  refine g_iconst (v := 3) C d_Sh_mixBlock_29 (by decide) ?_
  obtain ⟨v9, ev9, hr⟩ := of_bnd hr
  refine g_iaload C ev9 d_Sh_mixBlock_30 ?_
  refine g_istore (lv' := [(4, .int v9), (3, .int v7), (2, .int v5), (1, .int v3), (0, .ref p0)]) C d_Sh_mixBlock_31 (by decide) rfl ?_
  refine g_aload_n C 4 rfl d_Sh_mixBlock_33 rfl ?_
  obtain ⟨k10, ek10, hr⟩ := of_bnd hr
  refine g_getR C fl_Sh_9 ek10 d_Sh_mixBlock_34 ?_
  refine g_iconst (v := 4) C d_Sh_mixBlock_37 (by decide) ?_
  obtain ⟨v11, ev11, hr⟩ := of_bnd hr
  refine g_iaload C ev11 d_Sh_mixBlock_38 ?_
  refine g_istore (lv' := [(5, .int v11), (4, .int v9), (3, .int v7), (2, .int v5), (1, .int v3), (0, .ref p0)]) C d_Sh_mixBlock_39 (by decide) rfl ?_
  refine g_aload_n C 5 rfl d_Sh_mixBlock_41 rfl ?_
  obtain ⟨k12, ek12, hr⟩ := of_bnd hr
  refine g_getR C fl_Sh_9 ek12 d_Sh_mixBlock_42 ?_
  refine g_iconst (v := 5) C d_Sh_mixBlock_45 (by decide) ?_
  obtain ⟨v13, ev13, hr⟩ := of_bnd hr
  refine g_iaload C ev13 d_Sh_mixBlock_46 ?_
  refine g_istore (lv' := [(6, .int v13), (5, .int v11), (4, .int v9), (3, .int v7), (2, .int v5), (1, .int v3), (0, .ref p0)]) C d_Sh_mixBlock_47 (by decide) rfl ?_
  refine g_aload_n C 6 rfl d_Sh_mixBlock_49 rfl ?_
  obtain ⟨k14, ek14, hr⟩ := of_bnd hr
  refine g_getR C fl_Sh_9 ek14 d_Sh_mixBlock_50 ?_
  refine g_bipush (v := 6) C d_Sh_mixBlock_53 (by decide) ?_
  obtain ⟨v15, ev15, hr⟩ := of_bnd hr
  refine g_iaload C ev15 d_Sh_mixBlock_55 ?_
  refine g_istore (lv' := [(7, .int v15), (6, .int v13), (5, .int v11), (4, .int v9), (3, .int v7), (2, .int v5), (1, .int v3), (0, .ref p0)]) C d_Sh_mixBlock_56 (by decide) rfl ?_
  refine g_aload_n C 7 rfl d_Sh_mixBlock_58 rfl ?_
  obtain ⟨k16, ek16, hr⟩ := of_bnd hr
  refine g_getR C fl_Sh_9 ek16 d_Sh_mixBlock_59 ?_
  refine g_bipush (v := 7) C d_Sh_mixBlock_62 (by decide) ?_
  obtain ⟨v17, ev17, hr⟩ := of_bnd hr
  refine g_iaload C ev17 d_Sh_mixBlock_64 ?_
  refine g_istore (lv' := [(8, .int v17), (7, .int v15), (6, .int v13), (5, .int v11), (4, .int v9), (3, .int v7), (2, .int v5), (1, .int v3), (0, .ref p0)]) C d_Sh_mixBlock_65 (by decide) rfl ?_
  refine g_iconst (v := 0) C d_Sh_mixBlock_67 (by decide) ?_
  refine g_istore (lv' := [(9, .int 0), (8, .int v17), (7, .int v15), (6, .int v13), (5, .int v11), (4, .int v9), (3, .int v7), (2, .int v5), (1, .int v3), (0, .ref p0)]) C d_Sh_mixBlock_68 (by decide) rfl ?_
  refine g_lv [9, 8, 7, 6, 5, 4, 3, 2, 1, 0] rfl ?_
  exact lp_Sh_mixBlock_70 C T hl0 FU h1 p0 v3 v5 v7 v9 v11 v13 v15 v17 0 hr
abbrev b_Sh_clearRestOfBlock : ByteArray := prog_7_method_6_code
abbrev y_Sh_clearRestOfBlock : MethodName := ⟨"PrimeKeys$Sha256", "clearRestOfBlock", "()V"⟩
theorem d_Sh_clearRestOfBlock_0 : decode b_Sh_clearRestOfBlock 0 = .ok (.aload_n 0, 1) := by decide +kernel
theorem d_Sh_clearRestOfBlock_1 : decode b_Sh_clearRestOfBlock 1 = .ok (.getfield 20, 3) := by decide +kernel
theorem d_Sh_clearRestOfBlock_4 : decode b_Sh_clearRestOfBlock 4 = .ok (.istore_n 1, 1) := by decide +kernel
theorem d_Sh_clearRestOfBlock_5 : decode b_Sh_clearRestOfBlock 5 = .ok (.iload_n 1, 1) := by decide +kernel
theorem d_Sh_clearRestOfBlock_6 : decode b_Sh_clearRestOfBlock 6 = .ok (.bipush 64, 2) := by decide +kernel
theorem d_Sh_clearRestOfBlock_8 : decode b_Sh_clearRestOfBlock 8 = .ok (.if_icmp .ge 16, 3) := by decide +kernel
theorem d_Sh_clearRestOfBlock_11 : decode b_Sh_clearRestOfBlock 11 = .ok (.aload_n 0, 1) := by decide +kernel
theorem d_Sh_clearRestOfBlock_12 : decode b_Sh_clearRestOfBlock 12 = .ok (.getfield 16, 3) := by decide +kernel
theorem d_Sh_clearRestOfBlock_15 : decode b_Sh_clearRestOfBlock 15 = .ok (.iload_n 1, 1) := by decide +kernel
theorem d_Sh_clearRestOfBlock_16 : decode b_Sh_clearRestOfBlock 16 = .ok (.iconst 0, 1) := by decide +kernel
theorem d_Sh_clearRestOfBlock_17 : decode b_Sh_clearRestOfBlock 17 = .ok (.bastore, 1) := by decide +kernel
theorem d_Sh_clearRestOfBlock_18 : decode b_Sh_clearRestOfBlock 18 = .ok (.iinc 1 1, 3) := by decide +kernel
theorem d_Sh_clearRestOfBlock_21 : decode b_Sh_clearRestOfBlock 21 = .ok (.goto (-16), 3) := by decide +kernel
theorem d_Sh_clearRestOfBlock_24 : decode b_Sh_clearRestOfBlock 24 = .ok (.return_, 1) := by decide +kernel
theorem fl_Sh_20 : FL "PrimeKeys$Sha256" 20 4 3 := ⟨R_Sh, F_Sh, 5, rfl, u_Sh, by decide, rfl, tb_1 (List.mem_of_getElem? (i := 41) (by decide +kernel)) rfl⟩
abbrev rm_Sh_clearRestOfBlock : Room := { frames := 0, cells := 0, slots := 0, locals := 0 }
def B_Sh_clearRestOfBlock_5 (K5 : HP → Nat → Int32 → Option (HP)) (h : HP) (a0 : Nat) (a1 : Int32) : Option (HP) :=
  if 64 ≤ a1 then
  some h
  else
  bnd (gR h a0 4 2) fun k2 =>
  bnd (stB h k2 a1 0) fun h3 =>
  lt (a1 + Int32.ofInt 1) fun x4 =>
  K5 h3 a0 x4
set_option maxHeartbeats 4000000 in
set_option maxRecDepth 100000 in
theorem bk_Sh_clearRestOfBlock_5 {l : Launch} {x : CX} {h0 h' : HP} (C : EV x b_Sh_clearRestOfBlock "PrimeKeys$Sha256" 2 rm_Sh_clearRestOfBlock) (T : CT x (none) rm_Sh_clearRestOfBlock h0 none h') (hl0 : x.1.2.1 = l) (K5 : HP → Nat → Int32 → Option (HP)) (hK5 : ∀ (h : HP) (a0 : Nat) (a1 : Int32), K5 h a0 a1 = some h' → GG x 0 0 h 5 [(0, .ref a0), (1, .int a1)] []) (h : HP) (a0 : Nat) (a1 : Int32) (hr : B_Sh_clearRestOfBlock_5 K5 h a0 a1 = some h') : GG x 0 0 h 5 [(0, .ref a0), (1, .int a1)] [] := by
  unfold B_Sh_clearRestOfBlock_5 at hr
  refine g_iload_n C 1 rfl d_Sh_clearRestOfBlock_5 rfl ?_
  refine g_bipush (v := 64) C d_Sh_clearRestOfBlock_6 (by decide) ?_
  refine g_icmp_ge (tgt := 24) C d_Sh_clearRestOfBlock_8 (by decide) (fun z => ?_) (fun z => ?_)
  · have hr := of_if z hr
    cases hr
    exact g_vreturn C T (by decide) (by decide) d_Sh_clearRestOfBlock_24
  · have hr := of_el z hr
    refine g_aload_n C 0 rfl d_Sh_clearRestOfBlock_11 rfl ?_
    obtain ⟨k2, ek2, hr⟩ := of_bnd hr
    refine g_getR C fl_Sh_16 ek2 d_Sh_clearRestOfBlock_12 ?_
    refine g_iload_n C 1 rfl d_Sh_clearRestOfBlock_15 rfl ?_
    refine g_iconst (v := 0) C d_Sh_clearRestOfBlock_16 (by decide) ?_
    obtain ⟨h3, eh3, hr⟩ := of_bnd hr
    refine g_bastore C eh3 d_Sh_clearRestOfBlock_17 ?_
    obtain ⟨x4, ex4⟩ : ∃ z, z = a1 + Int32.ofInt 1 := ⟨_, rfl⟩
    have hr := of_lt ex4 hr
    refine g_iinc (lv' := [(1, .int x4), (0, .ref a0)]) C 1 rfl d_Sh_clearRestOfBlock_18 ex4.symm (by decide) rfl ?_
    refine g_goto (tgt := 5) C d_Sh_clearRestOfBlock_21 (by decide) ?_
    refine g_lv [1, 0] rfl ?_
    exact hK5 h3 a0 x4 hr
def L_Sh_clearRestOfBlock_5 : Nat → HP → Nat → Int32 → Option (HP)
  | 0, _, _, _ => none
  | f + 1, h, a0, a1 => B_Sh_clearRestOfBlock_5 (L_Sh_clearRestOfBlock_5 f) h a0 a1
theorem lp_Sh_clearRestOfBlock_5 {l : Launch} {x : CX} {h0 h' : HP} (C : EV x b_Sh_clearRestOfBlock "PrimeKeys$Sha256" 2 rm_Sh_clearRestOfBlock) (T : CT x (none) rm_Sh_clearRestOfBlock h0 none h') (hl0 : x.1.2.1 = l) : ∀ (f : Nat) (h : HP) (a0 : Nat) (a1 : Int32), L_Sh_clearRestOfBlock_5 f h a0 a1 = some h' → GG x 0 0 h 5 [(0, .ref a0), (1, .int a1)] [] := by
  intro f
  induction f with
  | zero => intro h a0 a1 hr; have hr : (none : Option (HP)) = some h' := hr; cases hr
  | succ f ih => intro h a0 a1 hr; exact bk_Sh_clearRestOfBlock_5 C T hl0 (L_Sh_clearRestOfBlock_5 f) ih h a0 a1 hr
def P_Sh_clearRestOfBlock (h : HP) (p0 : Nat) : Option (HP) :=
  bnd (gI h p0 4 3) fun v1 =>
  L_Sh_clearRestOfBlock_5 FU h p0 v1
set_option maxHeartbeats 4000000 in
set_option maxRecDepth 100000 in
theorem c_Sh_clearRestOfBlock {l : Launch} {h h' : HP} {p0 : _} (hr : P_Sh_clearRestOfBlock h p0 = some h') : MP l y_Sh_clearRestOfBlock (Cond.code y_Sh_clearRestOfBlock b_Sh_clearRestOfBlock 2 none :: TB) rm_Sh_clearRestOfBlock h [.ref p0] none h' := by
  refine MP_intro (cc := b_Sh_clearRestOfBlock) (by decide) (Nat.le_of_ble_eq_true rfl) (fun x hl0 C T hin => ?_)
  unfold P_Sh_clearRestOfBlock at hr
  show GG x 0 0 h 0 [(0, .ref p0)] []
  refine g_aload_n C 0 rfl d_Sh_clearRestOfBlock_0 rfl ?_
  obtain ⟨v1, ev1, hr⟩ := of_bnd hr
  refine g_getI C fl_Sh_20 ev1 d_Sh_clearRestOfBlock_1 ?_
  refine g_istore_n (lv' := [(1, .int v1), (0, .ref p0)]) C d_Sh_clearRestOfBlock_4 rfl (by decide) rfl ?_
  refine g_lv [1, 0] rfl ?_
  exact lp_Sh_clearRestOfBlock_5 C T hl0 FU h p0 v1 hr
abbrev b_Sh_take : ByteArray := prog_7_method_4_code
abbrev y_Sh_take : MethodName := ⟨"PrimeKeys$Sha256", "take", "([BI)V"⟩
theorem d_Sh_take_0 : decode b_Sh_take 0 = .ok (.iconst 0, 1) := by decide +kernel
theorem d_Sh_take_1 : decode b_Sh_take 1 = .ok (.istore_n 3, 1) := by decide +kernel
theorem d_Sh_take_2 : decode b_Sh_take 2 = .ok (.iload_n 3, 1) := by decide +kernel
theorem d_Sh_take_3 : decode b_Sh_take 3 = .ok (.iload_n 2, 1) := by decide +kernel
theorem d_Sh_take_4 : decode b_Sh_take 4 = .ok (.if_icmp .ge 44, 3) := by decide +kernel
theorem d_Sh_take_7 : decode b_Sh_take 7 = .ok (.aload_n 0, 1) := by decide +kernel
theorem d_Sh_take_8 : decode b_Sh_take 8 = .ok (.getfield 16, 3) := by decide +kernel
theorem d_Sh_take_11 : decode b_Sh_take 11 = .ok (.aload_n 0, 1) := by decide +kernel
theorem d_Sh_take_12 : decode b_Sh_take 12 = .ok (.getfield 20, 3) := by decide +kernel
theorem d_Sh_take_15 : decode b_Sh_take 15 = .ok (.aload_n 1, 1) := by decide +kernel
theorem d_Sh_take_16 : decode b_Sh_take 16 = .ok (.iload_n 3, 1) := by decide +kernel
theorem d_Sh_take_17 : decode b_Sh_take 17 = .ok (.baload, 1) := by decide +kernel
theorem d_Sh_take_18 : decode b_Sh_take 18 = .ok (.bastore, 1) := by decide +kernel
theorem d_Sh_take_19 : decode b_Sh_take 19 = .ok (.aload_n 0, 1) := by decide +kernel
theorem d_Sh_take_20 : decode b_Sh_take 20 = .ok (.dup, 1) := by decide +kernel
theorem d_Sh_take_21 : decode b_Sh_take 21 = .ok (.getfield 20, 3) := by decide +kernel
theorem d_Sh_take_24 : decode b_Sh_take 24 = .ok (.iconst 1, 1) := by decide +kernel
theorem d_Sh_take_25 : decode b_Sh_take 25 = .ok (.iadd, 1) := by decide +kernel
theorem d_Sh_take_26 : decode b_Sh_take 26 = .ok (.putfield 20, 3) := by decide +kernel
theorem d_Sh_take_29 : decode b_Sh_take 29 = .ok (.aload_n 0, 1) := by decide +kernel
theorem d_Sh_take_30 : decode b_Sh_take 30 = .ok (.getfield 20, 3) := by decide +kernel
theorem d_Sh_take_33 : decode b_Sh_take 33 = .ok (.bipush 64, 2) := by decide +kernel
theorem d_Sh_take_35 : decode b_Sh_take 35 = .ok (.if_icmp .ne 7, 3) := by decide +kernel
theorem d_Sh_take_38 : decode b_Sh_take 38 = .ok (.aload_n 0, 1) := by decide +kernel
theorem d_Sh_take_39 : decode b_Sh_take 39 = .ok (.invokevirtual 47, 3) := by decide +kernel
theorem d_Sh_take_42 : decode b_Sh_take 42 = .ok (.iinc 3 1, 3) := by decide +kernel
theorem d_Sh_take_45 : decode b_Sh_take 45 = .ok (.goto (-43), 3) := by decide +kernel
theorem d_Sh_take_48 : decode b_Sh_take 48 = .ok (.aload_n 0, 1) := by decide +kernel
theorem d_Sh_take_49 : decode b_Sh_take 49 = .ok (.dup, 1) := by decide +kernel
theorem d_Sh_take_50 : decode b_Sh_take 50 = .ok (.getfield 24, 3) := by decide +kernel
theorem d_Sh_take_53 : decode b_Sh_take 53 = .ok (.iload_n 2, 1) := by decide +kernel
theorem d_Sh_take_54 : decode b_Sh_take 54 = .ok (.iadd, 1) := by decide +kernel
theorem d_Sh_take_55 : decode b_Sh_take 55 = .ok (.putfield 24, 3) := by decide +kernel
theorem d_Sh_take_58 : decode b_Sh_take 58 = .ok (.return_, 1) := by decide +kernel
theorem fl_Sh_24 : FL "PrimeKeys$Sha256" 24 4 4 := ⟨R_Sh, F_Sh, 5, rfl, u_Sh, by decide, rfl, tb_1 (List.mem_of_getElem? (i := 42) (by decide +kernel)) rfl⟩
theorem cd_Sh_47 : CD "PrimeKeys$Sha256" 47 y_Sh_mixBlock b_Sh_mixBlock 14 none 0 := ⟨tb_2 (List.mem_of_getElem? (i := 121) rfl) rfl, tb_1 (List.mem_of_getElem? (i := 2) (by decide +kernel)) rfl, tb_2 (List.mem_of_getElem? (i := 118) (by decide +kernel)) rfl, by decide +kernel⟩
theorem kw_in_Sh_mixBlock : Cond.instanceMethod y_Sh_mixBlock ∈ TB := tb_2 (List.mem_of_getElem? (i := 120) (by decide +kernel)) rfl
theorem kw_se_Sh_mixBlock : Cond.selects "PrimeKeys$Sha256" y_Sh_mixBlock y_Sh_mixBlock ∈ TB := tb_p (q := (y_Sh_mixBlock, 5)) (by decide +kernel)
abbrev rm_Sh_take : Room := { frames := 2, cells := 0, slots := 0, locals := 58 }
def B_Sh_take_42 (K2 : HP → Nat → Nat → Int32 → Int32 → Option (HP)) (h : HP) (a0 : Nat) (a1 : Nat) (a2 : Int32) (a3 : Int32) : Option (HP) :=
  lt (a3 + Int32.ofInt 1) fun x10 =>
  K2 h a0 a1 a2 x10
set_option maxHeartbeats 4000000 in
set_option maxRecDepth 100000 in
theorem bk_Sh_take_42 {l : Launch} {x : CX} {h0 h' : HP} (C : EV x b_Sh_take "PrimeKeys$Sha256" 4 rm_Sh_take) (T : CT x (none) rm_Sh_take h0 none h') (hl0 : x.1.2.1 = l) (K2 : HP → Nat → Nat → Int32 → Int32 → Option (HP)) (hK2 : ∀ (h : HP) (a0 : Nat) (a1 : Nat) (a2 : Int32) (a3 : Int32), K2 h a0 a1 a2 a3 = some h' → GG x 0 0 h 2 [(0, .ref a0), (1, .ref a1), (2, .int a2), (3, .int a3)] []) (h : HP) (a0 : Nat) (a1 : Nat) (a2 : Int32) (a3 : Int32) (hr : B_Sh_take_42 K2 h a0 a1 a2 a3 = some h') : GG x 0 0 h 42 [(0, .ref a0), (1, .ref a1), (2, .int a2), (3, .int a3)] [] := by
  unfold B_Sh_take_42 at hr
  obtain ⟨x10, ex10⟩ : ∃ z, z = a3 + Int32.ofInt 1 := ⟨_, rfl⟩
  have hr := of_lt ex10 hr
  refine g_iinc (lv' := [(3, .int x10), (0, .ref a0), (1, .ref a1), (2, .int a2)]) C 3 rfl d_Sh_take_42 ex10.symm (by decide) rfl ?_
  refine g_goto (tgt := 2) C d_Sh_take_45 (by decide) ?_
  refine g_lv [1, 2, 3, 0] rfl ?_
  exact hK2 h a0 a1 a2 x10 hr
def B_Sh_take_2 (K2 : HP → Nat → Nat → Int32 → Int32 → Option (HP)) (h : HP) (a0 : Nat) (a1 : Nat) (a2 : Int32) (a3 : Int32) : Option (HP) :=
  if a2 ≤ a3 then
  bnd (gI h a0 4 4) fun v1 =>
  bnd (pV h a0 4 4 (.int (v1 + a2))) fun h2 =>
  some h2
  else
  bnd (gR h a0 4 2) fun k3 =>
  bnd (gI h a0 4 3) fun v4 =>
  bnd (ldB h a1 a3) fun v5 =>
  bnd (stB h k3 v4 v5) fun h6 =>
  bnd (gI h6 a0 4 3) fun v7 =>
  bnd (pV h6 a0 4 3 (.int (v7 + 1))) fun h8 =>
  bnd (gI h8 a0 4 3) fun v9 =>
  if v9 = 64 then
  ob h8 a0 4 (
  bnd (P_Sh_mixBlock h8 a0) fun h11 =>
  B_Sh_take_42 K2 h11 a0 a1 a2 a3)
  else
  B_Sh_take_42 K2 h8 a0 a1 a2 a3
set_option maxHeartbeats 4000000 in
set_option maxRecDepth 100000 in
theorem bk_Sh_take_2 {l : Launch} {x : CX} {h0 h' : HP} (C : EV x b_Sh_take "PrimeKeys$Sha256" 4 rm_Sh_take) (T : CT x (none) rm_Sh_take h0 none h') (hl0 : x.1.2.1 = l) (K2 : HP → Nat → Nat → Int32 → Int32 → Option (HP)) (hK2 : ∀ (h : HP) (a0 : Nat) (a1 : Nat) (a2 : Int32) (a3 : Int32), K2 h a0 a1 a2 a3 = some h' → GG x 0 0 h 2 [(0, .ref a0), (1, .ref a1), (2, .int a2), (3, .int a3)] []) (h : HP) (a0 : Nat) (a1 : Nat) (a2 : Int32) (a3 : Int32) (hr : B_Sh_take_2 K2 h a0 a1 a2 a3 = some h') : GG x 0 0 h 2 [(0, .ref a0), (1, .ref a1), (2, .int a2), (3, .int a3)] [] := by
  unfold B_Sh_take_2 at hr
  refine g_iload_n C 3 rfl d_Sh_take_2 rfl ?_
  refine g_iload_n C 2 rfl d_Sh_take_3 rfl ?_
  refine g_icmp_ge (tgt := 48) C d_Sh_take_4 (by decide) (fun z => ?_) (fun z => ?_)
  · have hr := of_if z hr
    refine g_aload_n C 0 rfl d_Sh_take_48 rfl ?_
    refine g_dup C d_Sh_take_49 rfl ?_
    obtain ⟨v1, ev1, hr⟩ := of_bnd hr
    refine g_getI C fl_Sh_24 ev1 d_Sh_take_50 ?_
    refine g_iload_n C 2 rfl d_Sh_take_53 rfl ?_
    refine g_iadd C d_Sh_take_54 ?_
    obtain ⟨h2, eh2, hr⟩ := of_bnd hr
    refine g_putI C fp_Sh_24 eh2 d_Sh_take_55 ?_
    cases hr
    exact g_vreturn C T (by decide) (by decide) d_Sh_take_58
  · have hr := of_el z hr
    refine g_aload_n C 0 rfl d_Sh_take_7 rfl ?_
    obtain ⟨k3, ek3, hr⟩ := of_bnd hr
    refine g_getR C fl_Sh_16 ek3 d_Sh_take_8 ?_
    refine g_aload_n C 0 rfl d_Sh_take_11 rfl ?_
    obtain ⟨v4, ev4, hr⟩ := of_bnd hr
    refine g_getI C fl_Sh_20 ev4 d_Sh_take_12 ?_
    refine g_aload_n C 1 rfl d_Sh_take_15 rfl ?_
    refine g_iload_n C 3 rfl d_Sh_take_16 rfl ?_
    obtain ⟨v5, ev5, hr⟩ := of_bnd hr
    refine g_baload C ev5 d_Sh_take_17 ?_
    obtain ⟨h6, eh6, hr⟩ := of_bnd hr
    refine g_bastore C eh6 d_Sh_take_18 ?_
    refine g_aload_n C 0 rfl d_Sh_take_19 rfl ?_
    refine g_dup C d_Sh_take_20 rfl ?_
    obtain ⟨v7, ev7, hr⟩ := of_bnd hr
    refine g_getI C fl_Sh_20 ev7 d_Sh_take_21 ?_
    refine g_iconst (v := 1) C d_Sh_take_24 (by decide) ?_
    refine g_iadd C d_Sh_take_25 ?_
    obtain ⟨h8, eh8, hr⟩ := of_bnd hr
    refine g_putI C fp_Sh_20 eh8 d_Sh_take_26 ?_
    refine g_aload_n C 0 rfl d_Sh_take_29 rfl ?_
    obtain ⟨v9, ev9, hr⟩ := of_bnd hr
    refine g_getI C fl_Sh_20 ev9 d_Sh_take_30 ?_
    refine g_bipush (v := 64) C d_Sh_take_33 (by decide) ?_
    refine g_icmp_ne (tgt := 42) C d_Sh_take_35 (by decide) (fun z => ?_) (fun z => ?_)
    · have hr := of_el z hr
      exact bk_Sh_take_42 C T hl0 K2 hK2 h8 a0 a1 a2 a3 hr
    · have hr := of_if z hr
      refine g_aload_n C 0 rfl d_Sh_take_38 rfl ?_
      obtain ⟨fsh11, hoh11, hr⟩ := of_ob hr
      obtain ⟨h11, eh11, hr⟩ := of_bnd hr
      refine g_callV (pa := []) C hl0 (c_Sh_mixBlock eh11) cd_Sh_47 kw_in_Sh_mixBlock kw_se_Sh_mixBlock hoh11 rfl rfl (by decide) rfl rfl (Nat.le_of_ble_eq_true rfl) d_Sh_take_39 ?_
      exact bk_Sh_take_42 C T hl0 K2 hK2 h11 a0 a1 a2 a3 hr
def L_Sh_take_2 : Nat → HP → Nat → Nat → Int32 → Int32 → Option (HP)
  | 0, _, _, _, _, _ => none
  | f + 1, h, a0, a1, a2, a3 => B_Sh_take_2 (L_Sh_take_2 f) h a0 a1 a2 a3
theorem lp_Sh_take_2 {l : Launch} {x : CX} {h0 h' : HP} (C : EV x b_Sh_take "PrimeKeys$Sha256" 4 rm_Sh_take) (T : CT x (none) rm_Sh_take h0 none h') (hl0 : x.1.2.1 = l) : ∀ (f : Nat) (h : HP) (a0 : Nat) (a1 : Nat) (a2 : Int32) (a3 : Int32), L_Sh_take_2 f h a0 a1 a2 a3 = some h' → GG x 0 0 h 2 [(0, .ref a0), (1, .ref a1), (2, .int a2), (3, .int a3)] [] := by
  intro f
  induction f with
  | zero => intro h a0 a1 a2 a3 hr; have hr : (none : Option (HP)) = some h' := hr; cases hr
  | succ f ih => intro h a0 a1 a2 a3 hr; exact bk_Sh_take_2 C T hl0 (L_Sh_take_2 f) ih h a0 a1 a2 a3 hr
def P_Sh_take (h : HP) (p0 : Nat) (p1 : Nat) (p2 : Int32) : Option (HP) :=
  L_Sh_take_2 FU h p0 p1 p2 0
set_option maxHeartbeats 4000000 in
set_option maxRecDepth 100000 in
theorem c_Sh_take {l : Launch} {h h' : HP} {p0 p1 p2 : _} (hr : P_Sh_take h p0 p1 p2 = some h') : MP l y_Sh_take (Cond.code y_Sh_take b_Sh_take 4 none :: TB) rm_Sh_take h [.ref p0, .ref p1, .int p2] none h' := by
  refine MP_intro (cc := b_Sh_take) (by decide) (Nat.le_of_ble_eq_true rfl) (fun x hl0 C T hin => ?_)
  unfold P_Sh_take at hr
  show GG x 0 0 h 0 [(0, .ref p0), (1, .ref p1), (2, .int p2)] []
  refine g_iconst (v := 0) C d_Sh_take_0 (by decide) ?_
  refine g_istore_n (lv' := [(3, .int 0), (0, .ref p0), (1, .ref p1), (2, .int p2)]) C d_Sh_take_1 rfl (by decide) rfl ?_
  refine g_lv [1, 2, 3, 0] rfl ?_
  exact lp_Sh_take_2 C T hl0 FU h p0 p1 p2 0 hr
abbrev b_Sh_finish : ByteArray := prog_7_method_5_code
abbrev y_Sh_finish : MethodName := ⟨"PrimeKeys$Sha256", "finish", "([B)V"⟩
theorem d_Sh_finish_0 : decode b_Sh_finish 0 = .ok (.aload_n 0, 1) := by decide +kernel
theorem d_Sh_finish_1 : decode b_Sh_finish 1 = .ok (.getfield 16, 3) := by decide +kernel
theorem d_Sh_finish_4 : decode b_Sh_finish 4 = .ok (.aload_n 0, 1) := by decide +kernel
theorem d_Sh_finish_5 : decode b_Sh_finish 5 = .ok (.getfield 20, 3) := by decide +kernel
theorem d_Sh_finish_8 : decode b_Sh_finish 8 = .ok (.bipush (-128), 2) := by decide +kernel
theorem d_Sh_finish_10 : decode b_Sh_finish 10 = .ok (.bastore, 1) := by decide +kernel
theorem d_Sh_finish_11 : decode b_Sh_finish 11 = .ok (.aload_n 0, 1) := by decide +kernel
theorem d_Sh_finish_12 : decode b_Sh_finish 12 = .ok (.dup, 1) := by decide +kernel
theorem d_Sh_finish_13 : decode b_Sh_finish 13 = .ok (.getfield 20, 3) := by decide +kernel
theorem d_Sh_finish_16 : decode b_Sh_finish 16 = .ok (.iconst 1, 1) := by decide +kernel
theorem d_Sh_finish_17 : decode b_Sh_finish 17 = .ok (.iadd, 1) := by decide +kernel
theorem d_Sh_finish_18 : decode b_Sh_finish 18 = .ok (.putfield 20, 3) := by decide +kernel
theorem d_Sh_finish_21 : decode b_Sh_finish 21 = .ok (.aload_n 0, 1) := by decide +kernel
theorem d_Sh_finish_22 : decode b_Sh_finish 22 = .ok (.getfield 20, 3) := by decide +kernel
theorem d_Sh_finish_25 : decode b_Sh_finish 25 = .ok (.bipush 56, 2) := by decide +kernel
theorem d_Sh_finish_27 : decode b_Sh_finish 27 = .ok (.if_icmp .le 11, 3) := by decide +kernel
theorem d_Sh_finish_30 : decode b_Sh_finish 30 = .ok (.aload_n 0, 1) := by decide +kernel
theorem d_Sh_finish_31 : decode b_Sh_finish 31 = .ok (.invokevirtual 50, 3) := by decide +kernel
theorem d_Sh_finish_34 : decode b_Sh_finish 34 = .ok (.aload_n 0, 1) := by decide +kernel
theorem d_Sh_finish_35 : decode b_Sh_finish 35 = .ok (.invokevirtual 47, 3) := by decide +kernel
theorem d_Sh_finish_38 : decode b_Sh_finish 38 = .ok (.aload_n 0, 1) := by decide +kernel
theorem d_Sh_finish_39 : decode b_Sh_finish 39 = .ok (.invokevirtual 50, 3) := by decide +kernel
theorem d_Sh_finish_42 : decode b_Sh_finish 42 = .ok (.bipush 8, 2) := by decide +kernel
theorem d_Sh_finish_44 : decode b_Sh_finish 44 = .ok (.aload_n 0, 1) := by decide +kernel
theorem d_Sh_finish_45 : decode b_Sh_finish 45 = .ok (.getfield 24, 3) := by decide +kernel
theorem d_Sh_finish_48 : decode b_Sh_finish 48 = .ok (.imul, 1) := by decide +kernel
theorem d_Sh_finish_49 : decode b_Sh_finish 49 = .ok (.aload_n 0, 1) := by decide +kernel
theorem d_Sh_finish_50 : decode b_Sh_finish 50 = .ok (.getfield 16, 3) := by decide +kernel
theorem d_Sh_finish_53 : decode b_Sh_finish 53 = .ok (.bipush 60, 2) := by decide +kernel
theorem d_Sh_finish_55 : decode b_Sh_finish 55 = .ok (.invokestatic 53, 3) := by decide +kernel
theorem d_Sh_finish_58 : decode b_Sh_finish 58 = .ok (.aload_n 0, 1) := by decide +kernel
theorem d_Sh_finish_59 : decode b_Sh_finish 59 = .ok (.invokevirtual 47, 3) := by decide +kernel
theorem d_Sh_finish_62 : decode b_Sh_finish 62 = .ok (.iconst 0, 1) := by decide +kernel
theorem d_Sh_finish_63 : decode b_Sh_finish 63 = .ok (.istore_n 2, 1) := by decide +kernel
theorem d_Sh_finish_64 : decode b_Sh_finish 64 = .ok (.iload_n 2, 1) := by decide +kernel
theorem d_Sh_finish_65 : decode b_Sh_finish 65 = .ok (.bipush 8, 2) := by decide +kernel
theorem d_Sh_finish_67 : decode b_Sh_finish 67 = .ok (.if_icmp .ge 22, 3) := by decide +kernel
theorem d_Sh_finish_70 : decode b_Sh_finish 70 = .ok (.aload_n 0, 1) := by decide +kernel
theorem d_Sh_finish_71 : decode b_Sh_finish 71 = .ok (.getfield 9, 3) := by decide +kernel
theorem d_Sh_finish_74 : decode b_Sh_finish 74 = .ok (.iload_n 2, 1) := by decide +kernel
theorem d_Sh_finish_75 : decode b_Sh_finish 75 = .ok (.iaload, 1) := by decide +kernel
theorem d_Sh_finish_76 : decode b_Sh_finish 76 = .ok (.aload_n 1, 1) := by decide +kernel
theorem d_Sh_finish_77 : decode b_Sh_finish 77 = .ok (.iconst 4, 1) := by decide +kernel
theorem d_Sh_finish_78 : decode b_Sh_finish 78 = .ok (.iload_n 2, 1) := by decide +kernel
theorem d_Sh_finish_79 : decode b_Sh_finish 79 = .ok (.imul, 1) := by decide +kernel
theorem d_Sh_finish_80 : decode b_Sh_finish 80 = .ok (.invokestatic 53, 3) := by decide +kernel
theorem d_Sh_finish_83 : decode b_Sh_finish 83 = .ok (.iinc 2 1, 3) := by decide +kernel
theorem d_Sh_finish_86 : decode b_Sh_finish 86 = .ok (.goto (-22), 3) := by decide +kernel
theorem d_Sh_finish_89 : decode b_Sh_finish 89 = .ok (.return_, 1) := by decide +kernel
theorem cd_Sh_53 : CD "PrimeKeys$Sha256" 53 y_Wo_put b_Wo_put 3 none 3 := ⟨tb_1 (List.mem_of_getElem? (i := 75) rfl) rfl, tb_1 (List.mem_of_getElem? (i := 6) (by decide +kernel)) rfl, tb_2 (List.mem_of_getElem? (i := 136) (by decide +kernel)) rfl, by decide +kernel⟩
theorem cd_Sh_50 : CD "PrimeKeys$Sha256" 50 y_Sh_clearRestOfBlock b_Sh_clearRestOfBlock 2 none 0 := ⟨tb_2 (List.mem_of_getElem? (i := 135) rfl) rfl, tb_1 (List.mem_of_getElem? (i := 2) (by decide +kernel)) rfl, tb_2 (List.mem_of_getElem? (i := 132) (by decide +kernel)) rfl, by decide +kernel⟩
theorem kw_in_Sh_clearRestOfBlock : Cond.instanceMethod y_Sh_clearRestOfBlock ∈ TB := tb_2 (List.mem_of_getElem? (i := 134) (by decide +kernel)) rfl
theorem kw_se_Sh_clearRestOfBlock : Cond.selects "PrimeKeys$Sha256" y_Sh_clearRestOfBlock y_Sh_clearRestOfBlock ∈ TB := tb_p (q := (y_Sh_clearRestOfBlock, 5)) (by decide +kernel)
abbrev rm_Sh_finish : Room := { frames := 2, cells := 0, slots := 0, locals := 58 }
def B_Sh_finish_64 (K64 : HP → Nat → Nat → Int32 → Option (HP)) (h : HP) (a0 : Nat) (a1 : Nat) (a2 : Int32) : Option (HP) :=
  if 8 ≤ a2 then
  some h
  else
  bnd (gR h a0 4 0) fun k12 =>
  bnd (ldI h k12 a2) fun v13 =>
  bnd (P_Wo_put h v13 a1 (4 * a2)) fun h14 =>
  lt (a2 + Int32.ofInt 1) fun x15 =>
  K64 h14 a0 a1 x15
set_option maxHeartbeats 4000000 in
set_option maxRecDepth 100000 in
theorem bk_Sh_finish_64 {l : Launch} {x : CX} {h0 h' : HP} (C : EV x b_Sh_finish "PrimeKeys$Sha256" 3 rm_Sh_finish) (T : CT x (none) rm_Sh_finish h0 none h') (hl0 : x.1.2.1 = l) (K64 : HP → Nat → Nat → Int32 → Option (HP)) (hK64 : ∀ (h : HP) (a0 : Nat) (a1 : Nat) (a2 : Int32), K64 h a0 a1 a2 = some h' → GG x 0 0 h 64 [(0, .ref a0), (1, .ref a1), (2, .int a2)] []) (h : HP) (a0 : Nat) (a1 : Nat) (a2 : Int32) (hr : B_Sh_finish_64 K64 h a0 a1 a2 = some h') : GG x 0 0 h 64 [(0, .ref a0), (1, .ref a1), (2, .int a2)] [] := by
  unfold B_Sh_finish_64 at hr
  refine g_iload_n C 2 rfl d_Sh_finish_64 rfl ?_
  refine g_bipush (v := 8) C d_Sh_finish_65 (by decide) ?_
  refine g_icmp_ge (tgt := 89) C d_Sh_finish_67 (by decide) (fun z => ?_) (fun z => ?_)
  · have hr := of_if z hr
    cases hr
    exact g_vreturn C T (by decide) (by decide) d_Sh_finish_89
  · have hr := of_el z hr
    refine g_aload_n C 0 rfl d_Sh_finish_70 rfl ?_
    obtain ⟨k12, ek12, hr⟩ := of_bnd hr
    refine g_getR C fl_Sh_9 ek12 d_Sh_finish_71 ?_
    refine g_iload_n C 2 rfl d_Sh_finish_74 rfl ?_
    obtain ⟨v13, ev13, hr⟩ := of_bnd hr
    refine g_iaload C ev13 d_Sh_finish_75 ?_
    refine g_aload_n C 1 rfl d_Sh_finish_76 rfl ?_
    refine g_iconst (v := 4) C d_Sh_finish_77 (by decide) ?_
    refine g_iload_n C 2 rfl d_Sh_finish_78 rfl ?_
    refine g_imul C d_Sh_finish_79 ?_
    obtain ⟨h14, eh14, hr⟩ := of_bnd hr
    refine g_callS (pa := [.int v13, .ref a1, .int (4 * a2)]) C hl0 (c_Wo_put eh14) cd_Sh_53 kw_st_Wo_put (by decide) rfl rfl (Nat.le_of_ble_eq_true rfl) d_Sh_finish_80 ?_
    obtain ⟨x15, ex15⟩ : ∃ z, z = a2 + Int32.ofInt 1 := ⟨_, rfl⟩
    have hr := of_lt ex15 hr
    refine g_iinc (lv' := [(2, .int x15), (0, .ref a0), (1, .ref a1)]) C 2 rfl d_Sh_finish_83 ex15.symm (by decide) rfl ?_
    refine g_goto (tgt := 64) C d_Sh_finish_86 (by decide) ?_
    refine g_lv [1, 2, 0] rfl ?_
    exact hK64 h14 a0 a1 x15 hr
def L_Sh_finish_64 : Nat → HP → Nat → Nat → Int32 → Option (HP)
  | 0, _, _, _, _ => none
  | f + 1, h, a0, a1, a2 => B_Sh_finish_64 (L_Sh_finish_64 f) h a0 a1 a2
theorem lp_Sh_finish_64 {l : Launch} {x : CX} {h0 h' : HP} (C : EV x b_Sh_finish "PrimeKeys$Sha256" 3 rm_Sh_finish) (T : CT x (none) rm_Sh_finish h0 none h') (hl0 : x.1.2.1 = l) : ∀ (f : Nat) (h : HP) (a0 : Nat) (a1 : Nat) (a2 : Int32), L_Sh_finish_64 f h a0 a1 a2 = some h' → GG x 0 0 h 64 [(0, .ref a0), (1, .ref a1), (2, .int a2)] [] := by
  intro f
  induction f with
  | zero => intro h a0 a1 a2 hr; have hr : (none : Option (HP)) = some h' := hr; cases hr
  | succ f ih => intro h a0 a1 a2 hr; exact bk_Sh_finish_64 C T hl0 (L_Sh_finish_64 f) ih h a0 a1 a2 hr
def B_Sh_finish_38 (h : HP) (a0 : Nat) (a1 : Nat) : Option (HP) :=
  ob h a0 4 (
  bnd (P_Sh_clearRestOfBlock h a0) fun h7 =>
  bnd (gI h7 a0 4 4) fun v8 =>
  bnd (gR h7 a0 4 2) fun k9 =>
  bnd (P_Wo_put h7 (8 * v8) k9 60) fun h10 =>
  ob h10 a0 4 (
  bnd (P_Sh_mixBlock h10 a0) fun h11 =>
  L_Sh_finish_64 FU h11 a0 a1 0))
set_option maxHeartbeats 4000000 in
set_option maxRecDepth 100000 in
theorem bk_Sh_finish_38 {l : Launch} {x : CX} {h0 h' : HP} (C : EV x b_Sh_finish "PrimeKeys$Sha256" 3 rm_Sh_finish) (T : CT x (none) rm_Sh_finish h0 none h') (hl0 : x.1.2.1 = l) (h : HP) (a0 : Nat) (a1 : Nat) (hr : B_Sh_finish_38 h a0 a1 = some h') : GG x 0 0 h 38 [(0, .ref a0), (1, .ref a1)] [] := by
  unfold B_Sh_finish_38 at hr
  refine g_aload_n C 0 rfl d_Sh_finish_38 rfl ?_
  obtain ⟨fsh7, hoh7, hr⟩ := of_ob hr
  obtain ⟨h7, eh7, hr⟩ := of_bnd hr
  refine g_callV (pa := []) C hl0 (c_Sh_clearRestOfBlock eh7) cd_Sh_50 kw_in_Sh_clearRestOfBlock kw_se_Sh_clearRestOfBlock hoh7 rfl rfl (by decide) rfl rfl (Nat.le_of_ble_eq_true rfl) d_Sh_finish_39 ?_
  refine g_bipush (v := 8) C d_Sh_finish_42 (by decide) ?_
  refine g_aload_n C 0 rfl d_Sh_finish_44 rfl ?_
  obtain ⟨v8, ev8, hr⟩ := of_bnd hr
  refine g_getI C fl_Sh_24 ev8 d_Sh_finish_45 ?_
  refine g_imul C d_Sh_finish_48 ?_
  refine g_aload_n C 0 rfl d_Sh_finish_49 rfl ?_
  obtain ⟨k9, ek9, hr⟩ := of_bnd hr
  refine g_getR C fl_Sh_16 ek9 d_Sh_finish_50 ?_
  refine g_bipush (v := 60) C d_Sh_finish_53 (by decide) ?_
  obtain ⟨h10, eh10, hr⟩ := of_bnd hr
  refine g_callS (pa := [.int (8 * v8), .ref k9, .int 60]) C hl0 (c_Wo_put eh10) cd_Sh_53 kw_st_Wo_put (by decide) rfl rfl (Nat.le_of_ble_eq_true rfl) d_Sh_finish_55 ?_
  refine g_aload_n C 0 rfl d_Sh_finish_58 rfl ?_
  obtain ⟨fsh11, hoh11, hr⟩ := of_ob hr
  obtain ⟨h11, eh11, hr⟩ := of_bnd hr
  refine g_callV (pa := []) C hl0 (c_Sh_mixBlock eh11) cd_Sh_47 kw_in_Sh_mixBlock kw_se_Sh_mixBlock hoh11 rfl rfl (by decide) rfl rfl (Nat.le_of_ble_eq_true rfl) d_Sh_finish_59 ?_
  refine g_iconst (v := 0) C d_Sh_finish_62 (by decide) ?_
  refine g_istore_n (lv' := [(2, .int 0), (0, .ref a0), (1, .ref a1)]) C d_Sh_finish_63 rfl (by decide) rfl ?_
  refine g_lv [1, 2, 0] rfl ?_
  exact lp_Sh_finish_64 C T hl0 FU h11 a0 a1 0 hr
def P_Sh_finish (h : HP) (p0 : Nat) (p1 : Nat) : Option (HP) :=
  bnd (gR h p0 4 2) fun k1 =>
  bnd (gI h p0 4 3) fun v2 =>
  bnd (stB h k1 v2 ((-128))) fun h3 =>
  bnd (gI h3 p0 4 3) fun v4 =>
  bnd (pV h3 p0 4 3 (.int (v4 + 1))) fun h5 =>
  bnd (gI h5 p0 4 3) fun v6 =>
  if v6 ≤ 56 then
  B_Sh_finish_38 h5 p0 p1
  else
  ob h5 p0 4 (
  bnd (P_Sh_clearRestOfBlock h5 p0) fun h16 =>
  ob h16 p0 4 (
  bnd (P_Sh_mixBlock h16 p0) fun h17 =>
  B_Sh_finish_38 h17 p0 p1))
set_option maxHeartbeats 4000000 in
set_option maxRecDepth 100000 in
theorem c_Sh_finish {l : Launch} {h h' : HP} {p0 p1 : _} (hr : P_Sh_finish h p0 p1 = some h') : MP l y_Sh_finish (Cond.code y_Sh_finish b_Sh_finish 3 none :: TB) rm_Sh_finish h [.ref p0, .ref p1] none h' := by
  refine MP_intro (cc := b_Sh_finish) (by decide) (Nat.le_of_ble_eq_true rfl) (fun x hl0 C T hin => ?_)
  unfold P_Sh_finish at hr
  show GG x 0 0 h 0 [(0, .ref p0), (1, .ref p1)] []
  refine g_aload_n C 0 rfl d_Sh_finish_0 rfl ?_
  obtain ⟨k1, ek1, hr⟩ := of_bnd hr
  refine g_getR C fl_Sh_16 ek1 d_Sh_finish_1 ?_
  refine g_aload_n C 0 rfl d_Sh_finish_4 rfl ?_
  obtain ⟨v2, ev2, hr⟩ := of_bnd hr
  refine g_getI C fl_Sh_20 ev2 d_Sh_finish_5 ?_
  refine g_bipush (v := (-128)) C d_Sh_finish_8 (by decide) ?_
  obtain ⟨h3, eh3, hr⟩ := of_bnd hr
  refine g_bastore C eh3 d_Sh_finish_10 ?_
  refine g_aload_n C 0 rfl d_Sh_finish_11 rfl ?_
  refine g_dup C d_Sh_finish_12 rfl ?_
  obtain ⟨v4, ev4, hr⟩ := of_bnd hr
  refine g_getI C fl_Sh_20 ev4 d_Sh_finish_13 ?_
  refine g_iconst (v := 1) C d_Sh_finish_16 (by decide) ?_
  refine g_iadd C d_Sh_finish_17 ?_
  obtain ⟨h5, eh5, hr⟩ := of_bnd hr
  refine g_putI C fp_Sh_20 eh5 d_Sh_finish_18 ?_
  refine g_aload_n C 0 rfl d_Sh_finish_21 rfl ?_
  obtain ⟨v6, ev6, hr⟩ := of_bnd hr
  refine g_getI C fl_Sh_20 ev6 d_Sh_finish_22 ?_
  refine g_bipush (v := 56) C d_Sh_finish_25 (by decide) ?_
  refine g_icmp_le (tgt := 38) C d_Sh_finish_27 (by decide) (fun z => ?_) (fun z => ?_)
  · have hr := of_if z hr
    exact bk_Sh_finish_38 C T hl0 h5 p0 p1 hr
  · have hr := of_el z hr
    refine g_aload_n C 0 rfl d_Sh_finish_30 rfl ?_
    obtain ⟨fsh16, hoh16, hr⟩ := of_ob hr
    obtain ⟨h16, eh16, hr⟩ := of_bnd hr
    refine g_callV (pa := []) C hl0 (c_Sh_clearRestOfBlock eh16) cd_Sh_50 kw_in_Sh_clearRestOfBlock kw_se_Sh_clearRestOfBlock hoh16 rfl rfl (by decide) rfl rfl (Nat.le_of_ble_eq_true rfl) d_Sh_finish_31 ?_
    refine g_aload_n C 0 rfl d_Sh_finish_34 rfl ?_
    obtain ⟨fsh17, hoh17, hr⟩ := of_ob hr
    obtain ⟨h17, eh17, hr⟩ := of_bnd hr
    refine g_callV (pa := []) C hl0 (c_Sh_mixBlock eh17) cd_Sh_47 kw_in_Sh_mixBlock kw_se_Sh_mixBlock hoh17 rfl rfl (by decide) rfl rfl (Nat.le_of_ble_eq_true rfl) d_Sh_finish_35 ?_
    exact bk_Sh_finish_38 C T hl0 h17 p0 p1 hr
abbrev b_Sh_digest : ByteArray := prog_7_method_2_code
abbrev y_Sh_digest : MethodName := ⟨"PrimeKeys$Sha256", "digest", "([BI[B)V"⟩
theorem d_Sh_digest_0 : decode b_Sh_digest 0 = .ok (.aload_n 0, 1) := by decide +kernel
theorem d_Sh_digest_1 : decode b_Sh_digest 1 = .ok (.invokevirtual 27, 3) := by decide +kernel
theorem d_Sh_digest_4 : decode b_Sh_digest 4 = .ok (.aload_n 0, 1) := by decide +kernel
theorem d_Sh_digest_5 : decode b_Sh_digest 5 = .ok (.aload_n 1, 1) := by decide +kernel
theorem d_Sh_digest_6 : decode b_Sh_digest 6 = .ok (.iload_n 2, 1) := by decide +kernel
theorem d_Sh_digest_7 : decode b_Sh_digest 7 = .ok (.invokevirtual 30, 3) := by decide +kernel
theorem d_Sh_digest_10 : decode b_Sh_digest 10 = .ok (.aload_n 0, 1) := by decide +kernel
theorem d_Sh_digest_11 : decode b_Sh_digest 11 = .ok (.aload_n 3, 1) := by decide +kernel
theorem d_Sh_digest_12 : decode b_Sh_digest 12 = .ok (.invokevirtual 34, 3) := by decide +kernel
theorem d_Sh_digest_15 : decode b_Sh_digest 15 = .ok (.return_, 1) := by decide +kernel
theorem cd_Sh_34 : CD "PrimeKeys$Sha256" 34 y_Sh_finish b_Sh_finish 3 none 1 := ⟨tb_2 (List.mem_of_getElem? (i := 131) rfl) rfl, tb_1 (List.mem_of_getElem? (i := 2) (by decide +kernel)) rfl, tb_2 (List.mem_of_getElem? (i := 128) (by decide +kernel)) rfl, by decide +kernel⟩
theorem kw_in_Sh_finish : Cond.instanceMethod y_Sh_finish ∈ TB := tb_2 (List.mem_of_getElem? (i := 129) (by decide +kernel)) rfl
theorem kw_se_Sh_finish : Cond.selects "PrimeKeys$Sha256" y_Sh_finish y_Sh_finish ∈ TB := tb_2 (List.mem_of_getElem? (i := 130) (by decide +kernel)) rfl
theorem cd_Sh_30 : CD "PrimeKeys$Sha256" 30 y_Sh_take b_Sh_take 4 none 2 := ⟨tb_2 (List.mem_of_getElem? (i := 117) rfl) rfl, tb_1 (List.mem_of_getElem? (i := 2) (by decide +kernel)) rfl, tb_2 (List.mem_of_getElem? (i := 114) (by decide +kernel)) rfl, by decide +kernel⟩
theorem kw_in_Sh_take : Cond.instanceMethod y_Sh_take ∈ TB := tb_2 (List.mem_of_getElem? (i := 115) (by decide +kernel)) rfl
theorem kw_se_Sh_take : Cond.selects "PrimeKeys$Sha256" y_Sh_take y_Sh_take ∈ TB := tb_2 (List.mem_of_getElem? (i := 116) (by decide +kernel)) rfl
theorem cd_Sh_27 : CD "PrimeKeys$Sha256" 27 y_Sh_begin b_Sh_begin 1 none 0 := ⟨tb_2 (List.mem_of_getElem? (i := 110) rfl) rfl, tb_1 (List.mem_of_getElem? (i := 2) (by decide +kernel)) rfl, tb_2 (List.mem_of_getElem? (i := 107) (by decide +kernel)) rfl, by decide +kernel⟩
theorem kw_in_Sh_begin : Cond.instanceMethod y_Sh_begin ∈ TB := tb_2 (List.mem_of_getElem? (i := 108) (by decide +kernel)) rfl
theorem kw_se_Sh_begin : Cond.selects "PrimeKeys$Sha256" y_Sh_begin y_Sh_begin ∈ TB := tb_2 (List.mem_of_getElem? (i := 109) (by decide +kernel)) rfl
abbrev rm_Sh_digest : Room := { frames := 3, cells := 0, slots := 0, locals := 81 }
def P_Sh_digest (h : HP) (p0 : Nat) (p1 : Nat) (p2 : Int32) (p3 : Nat) : Option (HP) :=
  ob h p0 4 (
  bnd (P_Sh_begin h p0) fun h1 =>
  ob h1 p0 4 (
  bnd (P_Sh_take h1 p0 p1 p2) fun h2 =>
  ob h2 p0 4 (
  bnd (P_Sh_finish h2 p0 p3) fun h3 =>
  some h3)))
set_option maxHeartbeats 4000000 in
set_option maxRecDepth 100000 in
theorem c_Sh_digest {l : Launch} {h h' : HP} {p0 p1 p2 p3 : _} (hr : P_Sh_digest h p0 p1 p2 p3 = some h') : MP l y_Sh_digest (Cond.code y_Sh_digest b_Sh_digest 4 none :: TB) rm_Sh_digest h [.ref p0, .ref p1, .int p2, .ref p3] none h' := by
  refine MP_intro (cc := b_Sh_digest) (by decide) (Nat.le_of_ble_eq_true rfl) (fun x hl0 C T hin => ?_)
  unfold P_Sh_digest at hr
  show GG x 0 0 h 0 [(0, .ref p0), (1, .ref p1), (2, .int p2), (3, .ref p3)] []
  refine g_aload_n C 0 rfl d_Sh_digest_0 rfl ?_
  obtain ⟨fsh1, hoh1, hr⟩ := of_ob hr
  obtain ⟨h1, eh1, hr⟩ := of_bnd hr
  refine g_callV (pa := []) C hl0 (c_Sh_begin eh1) cd_Sh_27 kw_in_Sh_begin kw_se_Sh_begin hoh1 rfl rfl (by decide) rfl rfl (Nat.le_of_ble_eq_true rfl) d_Sh_digest_1 ?_
  refine g_aload_n C 0 rfl d_Sh_digest_4 rfl ?_
  refine g_aload_n C 1 rfl d_Sh_digest_5 rfl ?_
  refine g_iload_n C 2 rfl d_Sh_digest_6 rfl ?_
  obtain ⟨fsh2, hoh2, hr⟩ := of_ob hr
  obtain ⟨h2, eh2, hr⟩ := of_bnd hr
  refine g_callV (pa := [.ref p1, .int p2]) C hl0 (c_Sh_take eh2) cd_Sh_30 kw_in_Sh_take kw_se_Sh_take hoh2 rfl rfl (by decide) rfl rfl (Nat.le_of_ble_eq_true rfl) d_Sh_digest_7 ?_
  refine g_aload_n C 0 rfl d_Sh_digest_10 rfl ?_
  refine g_aload_n C 3 rfl d_Sh_digest_11 rfl ?_
  obtain ⟨fsh3, hoh3, hr⟩ := of_ob hr
  obtain ⟨h3, eh3, hr⟩ := of_bnd hr
  refine g_callV (pa := [.ref p3]) C hl0 (c_Sh_finish eh3) cd_Sh_34 kw_in_Sh_finish kw_se_Sh_finish hoh3 rfl rfl (by decide) rfl rfl (Nat.le_of_ble_eq_true rfl) d_Sh_digest_12 ?_
  cases hr
  exact g_vreturn C T (by decide) (by decide) d_Sh_digest_15
