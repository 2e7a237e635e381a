abbrev b_Po_new : ByteArray := prog_6_method_1_code
abbrev y_Po_new : MethodName := ⟨"PrimeKeys$Point", "<init>", "()V"⟩
theorem d_Po_new_0 : decode b_Po_new 0 = .ok (.aload_n 0, 1) := by decide +kernel
theorem d_Po_new_1 : decode b_Po_new 1 = .ok (.invokespecial 1, 3) := by decide +kernel
theorem d_Po_new_4 : decode b_Po_new 4 = .ok (.aload_n 0, 1) := by decide +kernel
theorem d_Po_new_5 : decode b_Po_new 5 = .ok (.bipush 9, 2) := by decide +kernel
theorem d_Po_new_7 : decode b_Po_new 7 = .ok (.newarray .long, 2) := by decide +kernel
theorem d_Po_new_9 : decode b_Po_new 9 = .ok (.putfield 9, 3) := by decide +kernel
theorem d_Po_new_12 : decode b_Po_new 12 = .ok (.aload_n 0, 1) := by decide +kernel
theorem d_Po_new_13 : decode b_Po_new 13 = .ok (.bipush 9, 2) := by decide +kernel
theorem d_Po_new_15 : decode b_Po_new 15 = .ok (.newarray .long, 2) := by decide +kernel
theorem d_Po_new_17 : decode b_Po_new 17 = .ok (.putfield 15, 3) := by decide +kernel
theorem d_Po_new_20 : decode b_Po_new 20 = .ok (.aload_n 0, 1) := by decide +kernel
theorem d_Po_new_21 : decode b_Po_new 21 = .ok (.bipush 9, 2) := by decide +kernel
theorem d_Po_new_23 : decode b_Po_new 23 = .ok (.newarray .long, 2) := by decide +kernel
theorem d_Po_new_25 : decode b_Po_new 25 = .ok (.putfield 18, 3) := by decide +kernel
theorem d_Po_new_28 : decode b_Po_new 28 = .ok (.return_, 1) := by decide +kernel
theorem fp_Po_9 : FP "PrimeKeys$Point" 9 3 0 (.array .long) true := ⟨R_Po, F_Po, 3, t_Po, rfl, u_Po, by decide, rfl, tb_1 (List.mem_of_getElem? (i := 142) (by decide +kernel)) rfl, t_Po_ok, n_Po, rfl, by decide +kernel⟩
theorem fp_Po_15 : FP "PrimeKeys$Point" 15 3 1 (.array .long) true := ⟨R_Po, F_Po, 3, t_Po, rfl, u_Po, by decide, rfl, tb_1 (List.mem_of_getElem? (i := 144) (by decide +kernel)) rfl, t_Po_ok, n_Po, rfl, by decide +kernel⟩
theorem fp_Po_18 : FP "PrimeKeys$Point" 18 3 2 (.array .long) true := ⟨R_Po, F_Po, 3, t_Po, rfl, u_Po, by decide, rfl, tb_1 (List.mem_of_getElem? (i := 146) (by decide +kernel)) rfl, t_Po_ok, n_Po, rfl, by decide +kernel⟩
theorem kw_10 : Cond.methodLink "PrimeKeys$Point" 1 Lib.objectInit ∈ TB := tb_1 (List.mem_of_getElem? (i := 141) (by decide +kernel)) rfl
abbrev rm_Po_new : Room := { frames := 1, cells := 3, slots := 27, locals := 20 }
def P_Po_new (h : HP) (p0 : Nat) : Option (HP) :=
  lt (h ++ [pJ 9 (fun _ => 0)]) fun h1 =>
  lt h.length fun k2 =>
  bnd (pV h1 p0 3 0 (.ref k2)) fun h3 =>
  lt (h3 ++ [pJ 9 (fun _ => 0)]) fun h4 =>
  lt h3.length fun k5 =>
  bnd (pV h4 p0 3 1 (.ref k5)) fun h6 =>
  lt (h6 ++ [pJ 9 (fun _ => 0)]) fun h7 =>
  lt h6.length fun k8 =>
  bnd (pV h7 p0 3 2 (.ref k8)) fun h9 =>
  some h9
set_option maxHeartbeats 4000000 in
set_option maxRecDepth 100000 in
theorem c_Po_new {l : Launch} {h h' : HP} {p0 : _} (hr : P_Po_new h p0 = some h') : MP l y_Po_new (Cond.code y_Po_new b_Po_new 1 none :: TB) rm_Po_new h [.ref p0] none h' := by
  refine MP_intro (cc := b_Po_new) (by decide) (Nat.le_of_ble_eq_true rfl) (fun x hl0 C T hin => ?_)
  unfold P_Po_new at hr
  show GG x 0 0 h 0 [(0, .ref p0)] []
  refine g_aload_n C 0 rfl d_Po_new_0 rfl ?_
  refine g_objInit C kw_10 kw_oi kw_oc (by decide) (Nat.le_of_ble_eq_true rfl) d_Po_new_1 ?_
  refine g_aload_n C 0 rfl d_Po_new_4 rfl ?_
  refine g_bipush (v := 9) C d_Po_new_5 (by decide) ?_
  obtain ⟨h1, eh1⟩ : ∃ z, z = h ++ [pJ 9 (fun _ => 0)] := ⟨_, rfl⟩
  have hr := of_lt eh1 hr
  obtain ⟨k2, ek2⟩ : ∃ z, z = h.length := ⟨_, rfl⟩
  have hr := of_lt ek2 hr
  refine g_newJE (n' := 9) C eh1 ek2 (by decide) (by decide) (by decide) (by decide) (by decide) d_Po_new_7 ?_
  obtain ⟨h3, eh3, hr⟩ := of_bnd hr
  refine g_putF C fp_Po_9 hin rfl eh3 (fun _ => rfl) (fun _ => rfl) d_Po_new_9 ?_
  refine g_aload_n C 0 rfl d_Po_new_12 rfl ?_
  refine g_bipush (v := 9) C d_Po_new_13 (by decide) ?_
  obtain ⟨h4, eh4⟩ : ∃ z, z = h3 ++ [pJ 9 (fun _ => 0)] := ⟨_, rfl⟩
  have hr := of_lt eh4 hr
  obtain ⟨k5, ek5⟩ : ∃ z, z = h3.length := ⟨_, rfl⟩
  have hr := of_lt ek5 hr
  refine g_newJE (n' := 9) C eh4 ek5 (by decide) (by decide) (by decide) (by decide) (by decide) d_Po_new_15 ?_
  obtain ⟨h6, eh6, hr⟩ := of_bnd hr
  refine g_putF C fp_Po_15 hin rfl eh6 (fun _ => rfl) (fun _ => rfl) d_Po_new_17 ?_
  refine g_aload_n C 0 rfl d_Po_new_20 rfl ?_
  refine g_bipush (v := 9) C d_Po_new_21 (by decide) ?_
  obtain ⟨h7, eh7⟩ : ∃ z, z = h6 ++ [pJ 9 (fun _ => 0)] := ⟨_, rfl⟩
  have hr := of_lt eh7 hr
  obtain ⟨k8, ek8⟩ : ∃ z, z = h6.length := ⟨_, rfl⟩
  have hr := of_lt ek8 hr
  refine g_newJE (n' := 9) C eh7 ek8 (by decide) (by decide) (by decide) (by decide) (by decide) d_Po_new_23 ?_
  obtain ⟨h9, eh9, hr⟩ := of_bnd hr
  refine g_putF C fp_Po_18 hin rfl eh9 (fun _ => rfl) (fun _ => rfl) d_Po_new_25 ?_
  cases hr
  exact g_vreturn C T (by decide) (by decide) d_Po_new_28
abbrev b_Po_setNeutral : ByteArray := prog_6_method_2_code
abbrev y_Po_setNeutral : MethodName := ⟨"PrimeKeys$Point", "setNeutral", "()V"⟩
theorem d_Po_setNeutral_0 : decode b_Po_setNeutral 0 = .ok (.aload_n 0, 1) := by decide +kernel
theorem d_Po_setNeutral_1 : decode b_Po_setNeutral 1 = .ok (.getfield 9, 3) := by decide +kernel
theorem d_Po_setNeutral_4 : decode b_Po_setNeutral 4 = .ok (.lconst 0, 1) := by decide +kernel
theorem d_Po_setNeutral_5 : decode b_Po_setNeutral 5 = .ok (.invokestatic 21, 3) := by decide +kernel
theorem d_Po_setNeutral_8 : decode b_Po_setNeutral 8 = .ok (.aload_n 0, 1) := by decide +kernel
theorem d_Po_setNeutral_9 : decode b_Po_setNeutral 9 = .ok (.getfield 15, 3) := by decide +kernel
theorem d_Po_setNeutral_12 : decode b_Po_setNeutral 12 = .ok (.lconst 0, 1) := by decide +kernel
theorem d_Po_setNeutral_13 : decode b_Po_setNeutral 13 = .ok (.invokestatic 21, 3) := by decide +kernel
theorem d_Po_setNeutral_16 : decode b_Po_setNeutral 16 = .ok (.aload_n 0, 1) := by decide +kernel
theorem d_Po_setNeutral_17 : decode b_Po_setNeutral 17 = .ok (.getfield 18, 3) := by decide +kernel
theorem d_Po_setNeutral_20 : decode b_Po_setNeutral 20 = .ok (.lconst 0, 1) := by decide +kernel
theorem d_Po_setNeutral_21 : decode b_Po_setNeutral 21 = .ok (.invokestatic 21, 3) := by decide +kernel
theorem d_Po_setNeutral_24 : decode b_Po_setNeutral 24 = .ok (.return_, 1) := by decide +kernel
theorem fl_Po_9 : FL "PrimeKeys$Point" 9 3 0 := ⟨R_Po, F_Po, 3, rfl, u_Po, by decide, rfl, tb_1 (List.mem_of_getElem? (i := 142) (by decide +kernel)) rfl⟩
theorem fl_Po_15 : FL "PrimeKeys$Point" 15 3 1 := ⟨R_Po, F_Po, 3, rfl, u_Po, by decide, rfl, tb_1 (List.mem_of_getElem? (i := 144) (by decide +kernel)) rfl⟩
theorem fl_Po_18 : FL "PrimeKeys$Point" 18 3 2 := ⟨R_Po, F_Po, 3, rfl, u_Po, by decide, rfl, tb_1 (List.mem_of_getElem? (i := 146) (by decide +kernel)) rfl⟩
theorem cd_Po_21 : CD "PrimeKeys$Point" 21 y_Ar_fill_J b_Ar_fill_J 5 none 2 := ⟨tb_1 (List.mem_of_getElem? (i := 81) rfl) rfl, tb_1 (List.mem_of_getElem? (i := 7) (by decide +kernel)) rfl, tb_1 (List.mem_of_getElem? (i := 231) (by decide +kernel)) rfl, by decide +kernel⟩
abbrev rm_Po_setNeutral : Room := { frames := 1, cells := 0, slots := 0, locals := 24 }
def P_Po_setNeutral (h : HP) (p0 : Nat) : Option (HP) :=
  bnd (gR h p0 3 0) fun k1 =>
  bnd (P_Ar_fill_J h k1 0) fun h2 =>
  bnd (gR h2 p0 3 1) fun k3 =>
  bnd (P_Ar_fill_J h2 k3 0) fun h4 =>
  bnd (gR h4 p0 3 2) fun k5 =>
  bnd (P_Ar_fill_J h4 k5 0) fun h6 =>
  some h6
set_option maxHeartbeats 4000000 in
set_option maxRecDepth 100000 in
theorem c_Po_setNeutral {l : Launch} {h h' : HP} {p0 : _} (hr : P_Po_setNeutral h p0 = some h') : MP l y_Po_setNeutral (Cond.code y_Po_setNeutral b_Po_setNeutral 1 none :: TB) rm_Po_setNeutral h [.ref p0] none h' := by
  refine MP_intro (cc := b_Po_setNeutral) (by decide) (Nat.le_of_ble_eq_true rfl) (fun x hl0 C T hin => ?_)
  unfold P_Po_setNeutral at hr
  show GG x 0 0 h 0 [(0, .ref p0)] []
  refine g_aload_n C 0 rfl d_Po_setNeutral_0 rfl ?_
  obtain ⟨k1, ek1, hr⟩ := of_bnd hr
  refine g_getR C fl_Po_9 ek1 d_Po_setNeutral_1 ?_
  refine g_lconst (v := 0) C d_Po_setNeutral_4 (by decide) ?_
  obtain ⟨h2, eh2, hr⟩ := of_bnd hr
  refine g_callS (pa := [.ref k1, .long 0]) C hl0 (c_Ar_fill_J eh2) cd_Po_21 kw_st_Ar_fill_J (by decide) rfl rfl (Nat.le_of_ble_eq_true rfl) d_Po_setNeutral_5 ?_
  refine g_aload_n C 0 rfl d_Po_setNeutral_8 rfl ?_
  obtain ⟨k3, ek3, hr⟩ := of_bnd hr
  refine g_getR C fl_Po_15 ek3 d_Po_setNeutral_9 ?_
  refine g_lconst (v := 0) C d_Po_setNeutral_12 (by decide) ?_
  obtain ⟨h4, eh4, hr⟩ := of_bnd hr
  refine g_callS (pa := [.ref k3, .long 0]) C hl0 (c_Ar_fill_J eh4) cd_Po_21 kw_st_Ar_fill_J (by decide) rfl rfl (Nat.le_of_ble_eq_true rfl) d_Po_setNeutral_13 ?_
  refine g_aload_n C 0 rfl d_Po_setNeutral_16 rfl ?_
  obtain ⟨k5, ek5, hr⟩ := of_bnd hr
  refine g_getR C fl_Po_18 ek5 d_Po_setNeutral_17 ?_
  refine g_lconst (v := 0) C d_Po_setNeutral_20 (by decide) ?_
  obtain ⟨h6, eh6, hr⟩ := of_bnd hr
  refine g_callS (pa := [.ref k5, .long 0]) C hl0 (c_Ar_fill_J eh6) cd_Po_21 kw_st_Ar_fill_J (by decide) rfl rfl (Nat.le_of_ble_eq_true rfl) d_Po_setNeutral_21 ?_
  cases hr
  exact g_vreturn C T (by decide) (by decide) d_Po_setNeutral_24
abbrev b_Po_isNeutral : ByteArray := prog_6_method_3_code
abbrev y_Po_isNeutral : MethodName := ⟨"PrimeKeys$Point", "isNeutral", "()Z"⟩
theorem d_Po_isNeutral_0 : decode b_Po_isNeutral 0 = .ok (.aload_n 0, 1) := by decide +kernel
theorem d_Po_isNeutral_1 : decode b_Po_isNeutral 1 = .ok (.getfield 18, 3) := by decide +kernel
theorem d_Po_isNeutral_4 : decode b_Po_isNeutral 4 = .ok (.invokestatic 27, 3) := by decide +kernel
theorem d_Po_isNeutral_7 : decode b_Po_isNeutral 7 = .ok (.ireturn, 1) := by decide +kernel
theorem cd_Po_27 : CD "PrimeKeys$Point" 27 y_Li_areZero b_Li_areZero 4 (some .boolean) 1 := ⟨tb_1 (List.mem_of_getElem? (i := 214) rfl) rfl, tb_1 (List.mem_of_getElem? (i := 5) (by decide +kernel)) rfl, tb_1 (List.mem_of_getElem? (i := 212) (by decide +kernel)) rfl, by decide +kernel⟩
theorem kw_st_Li_areZero : Cond.static y_Li_areZero ∈ TB := tb_1 (List.mem_of_getElem? (i := 213) (by decide +kernel)) rfl
abbrev rm_Po_isNeutral : Room := { frames := 1, cells := 0, slots := 0, locals := 23 }
def P_Po_isNeutral (h : HP) (p0 : Nat) : Option (Int32 × HP) :=
  bnd (gR h p0 3 2) fun k1 =>
  bnd2 (P_Li_areZero h k1) fun v3 h2 =>
  gd (v3 = 0 ∨ v3 = 1) (some (v3, h2))
set_option maxHeartbeats 4000000 in
set_option maxRecDepth 100000 in
theorem c_Po_isNeutral {l : Launch} {h h' : HP} {p0 : _} {r' : Int32} (hr : P_Po_isNeutral h p0 = some (r', h')) : MP l y_Po_isNeutral (Cond.code y_Po_isNeutral b_Po_isNeutral 1 (some .boolean) :: TB) rm_Po_isNeutral h [.ref p0] (some (.int r')) h' := by
  refine MP_intro (cc := b_Po_isNeutral) (by decide) (Nat.le_of_ble_eq_true rfl) (fun x hl0 C T hin => ?_)
  unfold P_Po_isNeutral at hr
  show GG x 0 0 h 0 [(0, .ref p0)] []
  refine g_aload_n C 0 rfl d_Po_isNeutral_0 rfl ?_
  obtain ⟨k1, ek1, hr⟩ := of_bnd hr
  refine g_getR C fl_Po_18 ek1 d_Po_isNeutral_1 ?_
  obtain ⟨v3, h2, eh2, hr⟩ := of_bnd2 hr
  refine g_callS (pa := [.ref k1]) C hl0 (c_Li_areZero eh2) cd_Po_27 kw_st_Li_areZero (by decide) rfl rfl (Nat.le_of_ble_eq_true rfl) d_Po_isNeutral_4 ?_
  obtain ⟨hz, hr⟩ := of_gd hr
  cases hr
  exact g_ireturn C T (nar_z hz) (by decide) (by decide) d_Po_isNeutral_7
abbrev b_Po_set : ByteArray := prog_6_method_4_code
abbrev y_Po_set : MethodName := ⟨"PrimeKeys$Point", "set", "(LPrimeKeys$Point;)V"⟩
theorem d_Po_set_0 : decode b_Po_set 0 = .ok (.aload_n 1, 1) := by decide +kernel
theorem d_Po_set_1 : decode b_Po_set 1 = .ok (.getfield 9, 3) := by decide +kernel
theorem d_Po_set_4 : decode b_Po_set 4 = .ok (.aload_n 0, 1) := by decide +kernel
theorem d_Po_set_5 : decode b_Po_set 5 = .ok (.getfield 9, 3) := by decide +kernel
theorem d_Po_set_8 : decode b_Po_set 8 = .ok (.invokestatic 31, 3) := by decide +kernel
theorem d_Po_set_11 : decode b_Po_set 11 = .ok (.aload_n 1, 1) := by decide +kernel
theorem d_Po_set_12 : decode b_Po_set 12 = .ok (.getfield 15, 3) := by decide +kernel
theorem d_Po_set_15 : decode b_Po_set 15 = .ok (.aload_n 0, 1) := by decide +kernel
theorem d_Po_set_16 : decode b_Po_set 16 = .ok (.getfield 15, 3) := by decide +kernel
theorem d_Po_set_19 : decode b_Po_set 19 = .ok (.invokestatic 31, 3) := by decide +kernel
theorem d_Po_set_22 : decode b_Po_set 22 = .ok (.aload_n 1, 1) := by decide +kernel
theorem d_Po_set_23 : decode b_Po_set 23 = .ok (.getfield 18, 3) := by decide +kernel
theorem d_Po_set_26 : decode b_Po_set 26 = .ok (.aload_n 0, 1) := by decide +kernel
theorem d_Po_set_27 : decode b_Po_set 27 = .ok (.getfield 18, 3) := by decide +kernel
theorem d_Po_set_30 : decode b_Po_set 30 = .ok (.invokestatic 31, 3) := by decide +kernel
theorem d_Po_set_33 : decode b_Po_set 33 = .ok (.return_, 1) := by decide +kernel
theorem cd_Po_31 : CD "PrimeKeys$Point" 31 y_Li_copy b_Li_copy 2 none 2 := ⟨tb_1 (List.mem_of_getElem? (i := 85) rfl) rfl, tb_1 (List.mem_of_getElem? (i := 5) (by decide +kernel)) rfl, tb_1 (List.mem_of_getElem? (i := 219) (by decide +kernel)) rfl, by decide +kernel⟩
abbrev rm_Po_set : Room := { frames := 2, cells := 0, slots := 0, locals := 47 }
def P_Po_set (h : HP) (p0 : Nat) (p1 : Nat) : Option (HP) :=
  bnd (gR h p1 3 0) fun k1 =>
  bnd (gR h p0 3 0) fun k2 =>
  bnd (P_Li_copy h k1 k2) fun h3 =>
  bnd (gR h3 p1 3 1) fun k4 =>
  bnd (gR h3 p0 3 1) fun k5 =>
  bnd (P_Li_copy h3 k4 k5) fun h6 =>
  bnd (gR h6 p1 3 2) fun k7 =>
  bnd (gR h6 p0 3 2) fun k8 =>
  bnd (P_Li_copy h6 k7 k8) fun h9 =>
  some h9
set_option maxHeartbeats 4000000 in
set_option maxRecDepth 100000 in
theorem c_Po_set {l : Launch} {h h' : HP} {p0 p1 : _} (hr : P_Po_set h p0 p1 = some h') : MP l y_Po_set (Cond.code y_Po_set b_Po_set 2 none :: TB) rm_Po_set h [.ref p0, .ref p1] none h' := by
  refine MP_intro (cc := b_Po_set) (by decide) (Nat.le_of_ble_eq_true rfl) (fun x hl0 C T hin => ?_)
  unfold P_Po_set at hr
  show GG x 0 0 h 0 [(0, .ref p0), (1, .ref p1)] []
  refine g_aload_n C 1 rfl d_Po_set_0 rfl ?_
  obtain ⟨k1, ek1, hr⟩ := of_bnd hr
  refine g_getR C fl_Po_9 ek1 d_Po_set_1 ?_
  refine g_aload_n C 0 rfl d_Po_set_4 rfl ?_
  obtain ⟨k2, ek2, hr⟩ := of_bnd hr
  refine g_getR C fl_Po_9 ek2 d_Po_set_5 ?_
  obtain ⟨h3, eh3, hr⟩ := of_bnd hr
  refine g_callS (pa := [.ref k1, .ref k2]) C hl0 (c_Li_copy eh3) cd_Po_31 kw_st_Li_copy (by decide) rfl rfl (Nat.le_of_ble_eq_true rfl) d_Po_set_8 ?_
  refine g_aload_n C 1 rfl d_Po_set_11 rfl ?_
  obtain ⟨k4, ek4, hr⟩ := of_bnd hr
  refine g_getR C fl_Po_15 ek4 d_Po_set_12 ?_
  refine g_aload_n C 0 rfl d_Po_set_15 rfl ?_
  obtain ⟨k5, ek5, hr⟩ := of_bnd hr
  refine g_getR C fl_Po_15 ek5 d_Po_set_16 ?_
  obtain ⟨h6, eh6, hr⟩ := of_bnd hr
  refine g_callS (pa := [.ref k4, .ref k5]) C hl0 (c_Li_copy eh6) cd_Po_31 kw_st_Li_copy (by decide) rfl rfl (Nat.le_of_ble_eq_true rfl) d_Po_set_19 ?_
  refine g_aload_n C 1 rfl d_Po_set_22 rfl ?_
  obtain ⟨k7, ek7, hr⟩ := of_bnd hr
  refine g_getR C fl_Po_18 ek7 d_Po_set_23 ?_
  refine g_aload_n C 0 rfl d_Po_set_26 rfl ?_
  obtain ⟨k8, ek8, hr⟩ := of_bnd hr
  refine g_getR C fl_Po_18 ek8 d_Po_set_27 ?_
  obtain ⟨h9, eh9, hr⟩ := of_bnd hr
  refine g_callS (pa := [.ref k7, .ref k8]) C hl0 (c_Li_copy eh9) cd_Po_31 kw_st_Li_copy (by decide) rfl rfl (Nat.le_of_ble_eq_true rfl) d_Po_set_30 ?_
  cases hr
  exact g_vreturn C T (by decide) (by decide) d_Po_set_33
