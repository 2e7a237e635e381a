abbrev b_No_new : ByteArray := prog_5_method_1_code
abbrev y_No_new : MethodName := ⟨"PrimeKeys$Nonces", "<init>", "()V"⟩
theorem d_No_new_0 : decode b_No_new 0 = .ok (.aload_n 0, 1) := by decide +kernel
theorem d_No_new_1 : decode b_No_new 1 = .ok (.invokespecial 5, 3) := by decide +kernel
theorem d_No_new_4 : decode b_No_new 4 = .ok (.aload_n 0, 1) := by decide +kernel
theorem d_No_new_5 : decode b_No_new 5 = .ok (.new 11, 3) := by decide +kernel
theorem d_No_new_8 : decode b_No_new 8 = .ok (.dup, 1) := by decide +kernel
theorem d_No_new_9 : decode b_No_new 9 = .ok (.invokespecial 13, 3) := by decide +kernel
theorem d_No_new_12 : decode b_No_new 12 = .ok (.putfield 14, 3) := by decide +kernel
theorem d_No_new_15 : decode b_No_new 15 = .ok (.aload_n 0, 1) := by decide +kernel
theorem d_No_new_16 : decode b_No_new 16 = .ok (.bipush 32, 2) := by decide +kernel
theorem d_No_new_18 : decode b_No_new 18 = .ok (.newarray .byte, 2) := by decide +kernel
theorem d_No_new_20 : decode b_No_new 20 = .ok (.putfield 18, 3) := by decide +kernel
theorem d_No_new_23 : decode b_No_new 23 = .ok (.aload_n 0, 1) := by decide +kernel
theorem d_No_new_24 : decode b_No_new 24 = .ok (.bipush 32, 2) := by decide +kernel
theorem d_No_new_26 : decode b_No_new 26 = .ok (.newarray .byte, 2) := by decide +kernel
theorem d_No_new_28 : decode b_No_new 28 = .ok (.putfield 22, 3) := by decide +kernel
theorem d_No_new_31 : decode b_No_new 31 = .ok (.aload_n 0, 1) := by decide +kernel
theorem d_No_new_32 : decode b_No_new 32 = .ok (.bipush 97, 2) := by decide +kernel
theorem d_No_new_34 : decode b_No_new 34 = .ok (.newarray .byte, 2) := by decide +kernel
theorem d_No_new_36 : decode b_No_new 36 = .ok (.putfield 25, 3) := by decide +kernel
theorem d_No_new_39 : decode b_No_new 39 = .ok (.aload_n 0, 1) := by decide +kernel
theorem d_No_new_40 : decode b_No_new 40 = .ok (.bipush 64, 2) := by decide +kernel
theorem d_No_new_42 : decode b_No_new 42 = .ok (.newarray .byte, 2) := by decide +kernel
theorem d_No_new_44 : decode b_No_new 44 = .ok (.putfield 28, 3) := by decide +kernel
theorem d_No_new_47 : decode b_No_new 47 = .ok (.aload_n 0, 1) := by decide +kernel
theorem d_No_new_48 : decode b_No_new 48 = .ok (.bipush 32, 2) := by decide +kernel
theorem d_No_new_50 : decode b_No_new 50 = .ok (.newarray .byte, 2) := by decide +kernel
theorem d_No_new_52 : decode b_No_new 52 = .ok (.putfield 31, 3) := by decide +kernel
theorem d_No_new_55 : decode b_No_new 55 = .ok (.return_, 1) := by decide +kernel
theorem fp_No_14 : FP "PrimeKeys$Nonces" 14 2 0 (.object "PrimeKeys$Sha256") true := ⟨R_No, F_No, 6, t_No, rfl, u_No, by decide, rfl, tb_2 (List.mem_of_getElem? (i := 31) (by decide +kernel)) rfl, t_No_ok, n_No, rfl, by decide +kernel⟩
theorem fp_No_18 : FP "PrimeKeys$Nonces" 18 2 1 (.array .byte) true := ⟨R_No, F_No, 6, t_No, rfl, u_No, by decide, rfl, tb_2 (List.mem_of_getElem? (i := 32) (by decide +kernel)) rfl, t_No_ok, n_No, rfl, by decide +kernel⟩
theorem fp_No_22 : FP "PrimeKeys$Nonces" 22 2 2 (.array .byte) true := ⟨R_No, F_No, 6, t_No, rfl, u_No, by decide, rfl, tb_2 (List.mem_of_getElem? (i := 33) (by decide +kernel)) rfl, t_No_ok, n_No, rfl, by decide +kernel⟩
theorem fp_No_25 : FP "PrimeKeys$Nonces" 25 2 3 (.array .byte) true := ⟨R_No, F_No, 6, t_No, rfl, u_No, by decide, rfl, tb_2 (List.mem_of_getElem? (i := 34) (by decide +kernel)) rfl, t_No_ok, n_No, rfl, by decide +kernel⟩
theorem fp_No_28 : FP "PrimeKeys$Nonces" 28 2 4 (.array .byte) true := ⟨R_No, F_No, 6, t_No, rfl, u_No, by decide, rfl, tb_2 (List.mem_of_getElem? (i := 35) (by decide +kernel)) rfl, t_No_ok, n_No, rfl, by decide +kernel⟩
theorem fp_No_31 : FP "PrimeKeys$Nonces" 31 2 5 (.array .byte) true := ⟨R_No, F_No, 6, t_No, rfl, u_No, by decide, rfl, tb_2 (List.mem_of_getElem? (i := 36) (by decide +kernel)) rfl, t_No_ok, n_No, rfl, by decide +kernel⟩
theorem nc_No_11 : NC "PrimeKeys$Nonces" 11 4 5 [.null, .null, .null, .int 0, .int 0] := ⟨R_Sh, F_Sh, t_Sh, rfl, u_Sh, t_Sh_ok, tb_2 (List.mem_of_getElem? (i := 29) (by decide +kernel)) rfl, tb_1 (List.mem_of_getElem? (i := 33) (by decide +kernel)) rfl, tb_1 (List.mem_of_getElem? (i := 2) (by decide +kernel)) rfl, by decide +kernel, by decide +kernel⟩
theorem kw_11 : Cond.methodLink "PrimeKeys$Nonces" 5 Lib.objectInit ∈ TB := tb_2 (List.mem_of_getElem? (i := 28) (by decide +kernel)) rfl
theorem cd_No_13 : CDN "PrimeKeys$Nonces" 13 y_Sh_new "PrimeKeys" b_Sh_new 1 none 0 := ⟨tb_1 (List.mem_of_getElem? (i := 36) rfl) rfl, tb_1 (List.mem_of_getElem? (i := 2) (by decide +kernel)) rfl, by decide, by decide +kernel⟩
theorem kw_in_Sh_new : Cond.instanceMethod y_Sh_new ∈ TB := tb_1 (List.mem_of_getElem? (i := 35) (by decide +kernel)) rfl
abbrev rm_No_new : Room := { frames := 2, cells := 9, slots := 398, locals := 40 }
def P_No_new (h : HP) (p0 : Nat) : Option (HP) :=
  lt (h ++ [pO 4 [.null, .null, .null, .int 0, .int 0]]) fun h1 =>
  lt h.length fun k2 =>
  bnd (P_Sh_new h1 k2) fun h3 =>
  bnd (pV h3 p0 2 0 (.ref k2)) fun h4 =>
  lt (h4 ++ [pB 32 (fun _ => 0)]) fun h5 =>
  lt h4.length fun k6 =>
  bnd (pV h5 p0 2 1 (.ref k6)) fun h7 =>
  lt (h7 ++ [pB 32 (fun _ => 0)]) fun h8 =>
  lt h7.length fun k9 =>
  bnd (pV h8 p0 2 2 (.ref k9)) fun h10 =>
  lt (h10 ++ [pB 97 (fun _ => 0)]) fun h11 =>
  lt h10.length fun k12 =>
  bnd (pV h11 p0 2 3 (.ref k12)) fun h13 =>
  lt (h13 ++ [pB 64 (fun _ => 0)]) fun h14 =>
  lt h13.length fun k15 =>
  bnd (pV h14 p0 2 4 (.ref k15)) fun h16 =>
  lt (h16 ++ [pB 32 (fun _ => 0)]) fun h17 =>
  lt h16.length fun k18 =>
  bnd (pV h17 p0 2 5 (.ref k18)) fun h19 =>
  some h19
set_option maxHeartbeats 4000000 in
set_option maxRecDepth 100000 in
theorem c_No_new {l : Launch} {h h' : HP} {p0 : _} (hr : P_No_new h p0 = some h') : MP l y_No_new (Cond.code y_No_new b_No_new 1 none :: TB) rm_No_new h [.ref p0] none h' := by
  refine MP_intro (cc := b_No_new) (by decide) (Nat.le_of_ble_eq_true rfl) (fun x hl0 C T hin => ?_)
  unfold P_No_new at hr
  show GG x 0 0 h 0 [(0, .ref p0)] []
  refine g_aload_n C 0 rfl d_No_new_0 rfl ?_
  refine g_objInit C kw_11 kw_oi kw_oc (by decide) (Nat.le_of_ble_eq_true rfl) d_No_new_1 ?_
  refine g_aload_n C 0 rfl d_No_new_4 rfl ?_
  obtain ⟨h1, eh1⟩ : ∃ z, z = h ++ [pO 4 [.null, .null, .null, .int 0, .int 0]] := ⟨_, rfl⟩
  have hr := of_lt eh1 hr
  obtain ⟨k2, ek2⟩ : ∃ z, z = h.length := ⟨_, rfl⟩
  have hr := of_lt ek2 hr
  refine g_newE C nc_No_11 eh1 ek2 (by decide) (by decide) d_No_new_5 ?_
  refine g_dup C d_No_new_8 rfl ?_
  obtain ⟨h3, eh3, hr⟩ := of_bnd hr
  refine g_callIN (pa := []) C hl0 (c_Sh_new eh3) cd_No_13 kw_in_Sh_new rfl (by decide) rfl rfl (Nat.le_of_ble_eq_true rfl) d_No_new_9 ?_
  obtain ⟨h4, eh4, hr⟩ := of_bnd hr
  refine g_putF C fp_No_14 hin rfl eh4 (fun _ => rfl) (fun _ => rfl) d_No_new_12 ?_
  refine g_aload_n C 0 rfl d_No_new_15 rfl ?_
  refine g_bipush (v := 32) C d_No_new_16 (by decide) ?_
  obtain ⟨h5, eh5⟩ : ∃ z, z = h4 ++ [pB 32 (fun _ => 0)] := ⟨_, rfl⟩
  have hr := of_lt eh5 hr
  obtain ⟨k6, ek6⟩ : ∃ z, z = h4.length := ⟨_, rfl⟩
  have hr := of_lt ek6 hr
  refine g_newBE (n' := 32) C eh5 ek6 (by decide) (by decide) (by decide) (by decide) (by decide) d_No_new_18 ?_
  obtain ⟨h7, eh7, hr⟩ := of_bnd hr
  refine g_putF C fp_No_18 hin rfl eh7 (fun _ => rfl) (fun _ => rfl) d_No_new_20 ?_
  refine g_aload_n C 0 rfl d_No_new_23 rfl ?_
  refine g_bipush (v := 32) C d_No_new_24 (by decide) ?_
  obtain ⟨h8, eh8⟩ : ∃ z, z = h7 ++ [pB 32 (fun _ => 0)] := ⟨_, rfl⟩
  have hr := of_lt eh8 hr
  obtain ⟨k9, ek9⟩ : ∃ z, z = h7.length := ⟨_, rfl⟩
  have hr := of_lt ek9 hr
  refine g_newBE (n' := 32) C eh8 ek9 (by decide) (by decide) (by decide) (by decide) (by decide) d_No_new_26 ?_
  obtain ⟨h10, eh10, hr⟩ := of_bnd hr
  refine g_putF C fp_No_22 hin rfl eh10 (fun _ => rfl) (fun _ => rfl) d_No_new_28 ?_
  refine g_aload_n C 0 rfl d_No_new_31 rfl ?_
  refine g_bipush (v := 97) C d_No_new_32 (by decide) ?_
  obtain ⟨h11, eh11⟩ : ∃ z, z = h10 ++ [pB 97 (fun _ => 0)] := ⟨_, rfl⟩
  have hr := of_lt eh11 hr
  obtain ⟨k12, ek12⟩ : ∃ z, z = h10.length := ⟨_, rfl⟩
  have hr := of_lt ek12 hr
  refine g_newBE (n' := 97) C eh11 ek12 (by decide) (by decide) (by decide) (by decide) (by decide) d_No_new_34 ?_
  obtain ⟨h13, eh13, hr⟩ := of_bnd hr
  refine g_putF C fp_No_25 hin rfl eh13 (fun _ => rfl) (fun _ => rfl) d_No_new_36 ?_
  refine g_aload_n C 0 rfl d_No_new_39 rfl ?_
  refine g_bipush (v := 64) C d_No_new_40 (by decide) ?_
  obtain ⟨h14, eh14⟩ : ∃ z, z = h13 ++ [pB 64 (fun _ => 0)] := ⟨_, rfl⟩
  have hr := of_lt eh14 hr
  obtain ⟨k15, ek15⟩ : ∃ z, z = h13.length := ⟨_, rfl⟩
  have hr := of_lt ek15 hr
  refine g_newBE (n' := 64) C eh14 ek15 (by decide) (by decide) (by decide) (by decide) (by decide) d_No_new_42 ?_
  obtain ⟨h16, eh16, hr⟩ := of_bnd hr
  refine g_putF C fp_No_28 hin rfl eh16 (fun _ => rfl) (fun _ => rfl) d_No_new_44 ?_
  refine g_aload_n C 0 rfl d_No_new_47 rfl ?_
  refine g_bipush (v := 32) C d_No_new_48 (by decide) ?_
  obtain ⟨h17, eh17⟩ : ∃ z, z = h16 ++ [pB 32 (fun _ => 0)] := ⟨_, rfl⟩
  have hr := of_lt eh17 hr
  obtain ⟨k18, ek18⟩ : ∃ z, z = h16.length := ⟨_, rfl⟩
  have hr := of_lt ek18 hr
  refine g_newBE (n' := 32) C eh17 ek18 (by decide) (by decide) (by decide) (by decide) (by decide) d_No_new_50 ?_
  obtain ⟨h19, eh19, hr⟩ := of_bnd hr
  refine g_putF C fp_No_31 hin rfl eh19 (fun _ => rfl) (fun _ => rfl) d_No_new_52 ?_
  cases hr
  exact g_vreturn C T (by decide) (by decide) d_No_new_55
abbrev b_No_fillPad : ByteArray := prog_5_method_7_code
abbrev y_No_fillPad : MethodName := ⟨"PrimeKeys$Nonces", "fillPad", "(I)V"⟩
theorem d_No_fillPad_0 : decode b_No_fillPad 0 = .ok (.aload_n 0, 1) := by decide +kernel
theorem d_No_fillPad_1 : decode b_No_fillPad 1 = .ok (.getfield 28, 3) := by decide +kernel
theorem d_No_fillPad_4 : decode b_No_fillPad 4 = .ok (.iload_n 1, 1) := by decide +kernel
theorem d_No_fillPad_5 : decode b_No_fillPad 5 = .ok (.i2b, 1) := by decide +kernel
theorem d_No_fillPad_6 : decode b_No_fillPad 6 = .ok (.invokestatic 34, 3) := by decide +kernel
theorem d_No_fillPad_9 : decode b_No_fillPad 9 = .ok (.iconst 0, 1) := by decide +kernel
theorem d_No_fillPad_10 : decode b_No_fillPad 10 = .ok (.istore_n 2, 1) := by decide +kernel
theorem d_No_fillPad_11 : decode b_No_fillPad 11 = .ok (.iload_n 2, 1) := by decide +kernel
theorem d_No_fillPad_12 : decode b_No_fillPad 12 = .ok (.bipush 32, 2) := by decide +kernel
theorem d_No_fillPad_14 : decode b_No_fillPad 14 = .ok (.if_icmp .ge 24, 3) := by decide +kernel
theorem d_No_fillPad_17 : decode b_No_fillPad 17 = .ok (.aload_n 0, 1) := by decide +kernel
theorem d_No_fillPad_18 : decode b_No_fillPad 18 = .ok (.getfield 28, 3) := by decide +kernel
theorem d_No_fillPad_21 : decode b_No_fillPad 21 = .ok (.iload_n 2, 1) := by decide +kernel
theorem d_No_fillPad_22 : decode b_No_fillPad 22 = .ok (.aload_n 0, 1) := by decide +kernel
theorem d_No_fillPad_23 : decode b_No_fillPad 23 = .ok (.getfield 18, 3) := by decide +kernel
theorem d_No_fillPad_26 : decode b_No_fillPad 26 = .ok (.iload_n 2, 1) := by decide +kernel
theorem d_No_fillPad_27 : decode b_No_fillPad 27 = .ok (.baload, 1) := by decide +kernel
theorem d_No_fillPad_28 : decode b_No_fillPad 28 = .ok (.iload_n 1, 1) := by decide +kernel
theorem d_No_fillPad_29 : decode b_No_fillPad 29 = .ok (.ixor, 1) := by decide +kernel
theorem d_No_fillPad_30 : decode b_No_fillPad 30 = .ok (.i2b, 1) := by decide +kernel
theorem d_No_fillPad_31 : decode b_No_fillPad 31 = .ok (.bastore, 1) := by decide +kernel
theorem d_No_fillPad_32 : decode b_No_fillPad 32 = .ok (.iinc 2 1, 3) := by decide +kernel
theorem d_No_fillPad_35 : decode b_No_fillPad 35 = .ok (.goto (-24), 3) := by decide +kernel
theorem d_No_fillPad_38 : decode b_No_fillPad 38 = .ok (.return_, 1) := by decide +kernel
theorem fl_No_28 : FL "PrimeKeys$Nonces" 28 2 4 := ⟨R_No, F_No, 6, rfl, u_No, by decide, rfl, tb_2 (List.mem_of_getElem? (i := 35) (by decide +kernel)) rfl⟩
theorem fl_No_18 : FL "PrimeKeys$Nonces" 18 2 1 := ⟨R_No, F_No, 6, rfl, u_No, by decide, rfl, tb_2 (List.mem_of_getElem? (i := 32) (by decide +kernel)) rfl⟩
theorem cd_No_34 : CD "PrimeKeys$Nonces" 34 y_Ar_fill_B b_Ar_fill_B 4 none 2 := ⟨tb_3 (List.mem_of_getElem? (i := 180) rfl) rfl, tb_1 (List.mem_of_getElem? (i := 7) (by decide +kernel)) rfl, tb_3 (List.mem_of_getElem? (i := 178) (by decide +kernel)) rfl, by decide +kernel⟩
theorem kw_st_Ar_fill_B : Cond.static y_Ar_fill_B ∈ TB := tb_3 (List.mem_of_getElem? (i := 179) (by decide +kernel)) rfl
abbrev rm_No_fillPad : Room := { frames := 1, cells := 0, slots := 0, locals := 23 }
def B_No_fillPad_11 (K11 : HP → Nat → Int32 → Int32 → Option (HP)) (h : HP) (a0 : Nat) (a1 : Int32) (a2 : Int32) : Option (HP) :=
  if 32 ≤ a2 then
  some h
  else
  bnd (gR h a0 2 4) fun k3 =>
  bnd (gR h a0 2 1) fun k4 =>
  bnd (ldB h k4 a2) fun v5 =>
  bnd (stB h k3 a2 ((Int32.toInt8 (v5 ^^^ a1)).toInt32)) fun h6 =>
  lt (a2 + Int32.ofInt 1) fun x7 =>
  K11 h6 a0 a1 x7
set_option maxHeartbeats 4000000 in
set_option maxRecDepth 100000 in
theorem bk_No_fillPad_11 {l : Launch} {x : CX} {h0 h' : HP} (C : EV x b_No_fillPad "PrimeKeys$Nonces" 3 rm_No_fillPad) (T : CT x (none) rm_No_fillPad h0 none h') (hl0 : x.1.2.1 = l) (K11 : HP → Nat → Int32 → Int32 → Option (HP)) (hK11 : ∀ (h : HP) (a0 : Nat) (a1 : Int32) (a2 : Int32), K11 h a0 a1 a2 = some h' → GG x 0 0 h 11 [(0, .ref a0), (1, .int a1), (2, .int a2)] []) (h : HP) (a0 : Nat) (a1 : Int32) (a2 : Int32) (hr : B_No_fillPad_11 K11 h a0 a1 a2 = some h') : GG x 0 0 h 11 [(0, .ref a0), (1, .int a1), (2, .int a2)] [] := by
  unfold B_No_fillPad_11 at hr
  refine g_iload_n C 2 rfl d_No_fillPad_11 rfl ?_
  refine g_bipush (v := 32) C d_No_fillPad_12 (by decide) ?_
  refine g_icmp_ge (tgt := 38) C d_No_fillPad_14 (by decide) (fun z => ?_) (fun z => ?_)
  · have hr := of_if z hr
    cases hr
    exact g_vreturn C T (by decide) (by decide) d_No_fillPad_38
  · have hr := of_el z hr
    refine g_aload_n C 0 rfl d_No_fillPad_17 rfl ?_
    obtain ⟨k3, ek3, hr⟩ := of_bnd hr
    refine g_getR C fl_No_28 ek3 d_No_fillPad_18 ?_
    refine g_iload_n C 2 rfl d_No_fillPad_21 rfl ?_
    refine g_aload_n C 0 rfl d_No_fillPad_22 rfl ?_
    obtain ⟨k4, ek4, hr⟩ := of_bnd hr
    refine g_getR C fl_No_18 ek4 d_No_fillPad_23 ?_
    refine g_iload_n C 2 rfl d_No_fillPad_26 rfl ?_
    obtain ⟨v5, ev5, hr⟩ := of_bnd hr
    refine g_baload C ev5 d_No_fillPad_27 ?_
    refine g_iload_n C 1 rfl d_No_fillPad_28 rfl ?_
    refine g_ixor C d_No_fillPad_29 ?_
    refine g_i2b C d_No_fillPad_30 ?_
    obtain ⟨h6, eh6, hr⟩ := of_bnd hr
    refine g_bastore C eh6 d_No_fillPad_31 ?_
    obtain ⟨x7, ex7⟩ : ∃ z, z = a2 + Int32.ofInt 1 := ⟨_, rfl⟩
    have hr := of_lt ex7 hr
    refine g_iinc (lv' := [(2, .int x7), (0, .ref a0), (1, .int a1)]) C 2 rfl d_No_fillPad_32 ex7.symm (by decide) rfl ?_
    refine g_goto (tgt := 11) C d_No_fillPad_35 (by decide) ?_
    refine g_lv [1, 2, 0] rfl ?_
    exact hK11 h6 a0 a1 x7 hr
def L_No_fillPad_11 : Nat → HP → Nat → Int32 → Int32 → Option (HP)
  | 0, _, _, _, _ => none
  | f + 1, h, a0, a1, a2 => B_No_fillPad_11 (L_No_fillPad_11 f) h a0 a1 a2
theorem lp_No_fillPad_11 {l : Launch} {x : CX} {h0 h' : HP} (C : EV x b_No_fillPad "PrimeKeys$Nonces" 3 rm_No_fillPad) (T : CT x (none) rm_No_fillPad h0 none h') (hl0 : x.1.2.1 = l) : ∀ (f : Nat) (h : HP) (a0 : Nat) (a1 : Int32) (a2 : Int32), L_No_fillPad_11 f h a0 a1 a2 = some h' → GG x 0 0 h 11 [(0, .ref a0), (1, .int a1), (2, .int a2)] [] := by
  intro f
  induction f with
  | zero => intro h a0 a1 a2 hr; have hr : (none : Option (HP)) = some h' := hr; cases hr
  | succ f ih => intro h a0 a1 a2 hr; exact bk_No_fillPad_11 C T hl0 (L_No_fillPad_11 f) ih h a0 a1 a2 hr
def P_No_fillPad (h : HP) (p0 : Nat) (p1 : Int32) : Option (HP) :=
  bnd (gR h p0 2 4) fun k1 =>
  bnd (P_Ar_fill_B h k1 ((Int32.toInt8 p1).toInt32)) fun h2 =>
  L_No_fillPad_11 FU h2 p0 p1 0
set_option maxHeartbeats 4000000 in
set_option maxRecDepth 100000 in
theorem c_No_fillPad {l : Launch} {h h' : HP} {p0 p1 : _} (hr : P_No_fillPad h p0 p1 = some h') : MP l y_No_fillPad (Cond.code y_No_fillPad b_No_fillPad 3 none :: TB) rm_No_fillPad h [.ref p0, .int p1] none h' := by
  refine MP_intro (cc := b_No_fillPad) (by decide) (Nat.le_of_ble_eq_true rfl) (fun x hl0 C T hin => ?_)
  unfold P_No_fillPad at hr
  show GG x 0 0 h 0 [(0, .ref p0), (1, .int p1)] []
  refine g_aload_n C 0 rfl d_No_fillPad_0 rfl ?_
  obtain ⟨k1, ek1, hr⟩ := of_bnd hr
  refine g_getR C fl_No_28 ek1 d_No_fillPad_1 ?_
  refine g_iload_n C 1 rfl d_No_fillPad_4 rfl ?_
  refine g_i2b C d_No_fillPad_5 ?_
  obtain ⟨h2, eh2, hr⟩ := of_bnd hr
  refine g_callS (pa := [.ref k1, .int ((Int32.toInt8 p1).toInt32)]) C hl0 (c_Ar_fill_B eh2) cd_No_34 kw_st_Ar_fill_B (by decide) rfl rfl (Nat.le_of_ble_eq_true rfl) d_No_fillPad_6 ?_
  refine g_iconst (v := 0) C d_No_fillPad_9 (by decide) ?_
  refine g_istore_n (lv' := [(2, .int 0), (0, .ref p0), (1, .int p1)]) C d_No_fillPad_10 rfl (by decide) rfl ?_
  refine g_lv [1, 2, 0] rfl ?_
  exact lp_No_fillPad_11 C T hl0 FU h2 p0 p1 0 hr
abbrev b_No_mac : ByteArray := prog_5_method_6_code
abbrev y_No_mac : MethodName := ⟨"PrimeKeys$Nonces", "mac", "([BI[B)V"⟩
theorem d_No_mac_0 : decode b_No_mac 0 = .ok (.aload_n 0, 1) := by decide +kernel
theorem d_No_mac_1 : decode b_No_mac 1 = .ok (.bipush 54, 2) := by decide +kernel
theorem d_No_mac_3 : decode b_No_mac 3 = .ok (.invokevirtual 54, 3) := by decide +kernel
theorem d_No_mac_6 : decode b_No_mac 6 = .ok (.aload_n 0, 1) := by decide +kernel
theorem d_No_mac_7 : decode b_No_mac 7 = .ok (.getfield 14, 3) := by decide +kernel
theorem d_No_mac_10 : decode b_No_mac 10 = .ok (.invokevirtual 58, 3) := by decide +kernel
theorem d_No_mac_13 : decode b_No_mac 13 = .ok (.aload_n 0, 1) := by decide +kernel
theorem d_No_mac_14 : decode b_No_mac 14 = .ok (.getfield 14, 3) := by decide +kernel
theorem d_No_mac_17 : decode b_No_mac 17 = .ok (.aload_n 0, 1) := by decide +kernel
theorem d_No_mac_18 : decode b_No_mac 18 = .ok (.getfield 28, 3) := by decide +kernel
theorem d_No_mac_21 : decode b_No_mac 21 = .ok (.bipush 64, 2) := by decide +kernel
theorem d_No_mac_23 : decode b_No_mac 23 = .ok (.invokevirtual 61, 3) := by decide +kernel
theorem d_No_mac_26 : decode b_No_mac 26 = .ok (.aload_n 0, 1) := by decide +kernel
theorem d_No_mac_27 : decode b_No_mac 27 = .ok (.getfield 14, 3) := by decide +kernel
theorem d_No_mac_30 : decode b_No_mac 30 = .ok (.aload_n 1, 1) := by decide +kernel
theorem d_No_mac_31 : decode b_No_mac 31 = .ok (.iload_n 2, 1) := by decide +kernel
theorem d_No_mac_32 : decode b_No_mac 32 = .ok (.invokevirtual 61, 3) := by decide +kernel
theorem d_No_mac_35 : decode b_No_mac 35 = .ok (.aload_n 0, 1) := by decide +kernel
theorem d_No_mac_36 : decode b_No_mac 36 = .ok (.getfield 14, 3) := by decide +kernel
theorem d_No_mac_39 : decode b_No_mac 39 = .ok (.aload_n 0, 1) := by decide +kernel
theorem d_No_mac_40 : decode b_No_mac 40 = .ok (.getfield 31, 3) := by decide +kernel
theorem d_No_mac_43 : decode b_No_mac 43 = .ok (.invokevirtual 65, 3) := by decide +kernel
theorem d_No_mac_46 : decode b_No_mac 46 = .ok (.aload_n 0, 1) := by decide +kernel
theorem d_No_mac_47 : decode b_No_mac 47 = .ok (.bipush 92, 2) := by decide +kernel
theorem d_No_mac_49 : decode b_No_mac 49 = .ok (.invokevirtual 54, 3) := by decide +kernel
theorem d_No_mac_52 : decode b_No_mac 52 = .ok (.aload_n 0, 1) := by decide +kernel
theorem d_No_mac_53 : decode b_No_mac 53 = .ok (.getfield 14, 3) := by decide +kernel
theorem d_No_mac_56 : decode b_No_mac 56 = .ok (.invokevirtual 58, 3) := by decide +kernel
theorem d_No_mac_59 : decode b_No_mac 59 = .ok (.aload_n 0, 1) := by decide +kernel
theorem d_No_mac_60 : decode b_No_mac 60 = .ok (.getfield 14, 3) := by decide +kernel
theorem d_No_mac_63 : decode b_No_mac 63 = .ok (.aload_n 0, 1) := by decide +kernel
theorem d_No_mac_64 : decode b_No_mac 64 = .ok (.getfield 28, 3) := by decide +kernel
theorem d_No_mac_67 : decode b_No_mac 67 = .ok (.bipush 64, 2) := by decide +kernel
theorem d_No_mac_69 : decode b_No_mac 69 = .ok (.invokevirtual 61, 3) := by decide +kernel
theorem d_No_mac_72 : decode b_No_mac 72 = .ok (.aload_n 0, 1) := by decide +kernel
theorem d_No_mac_73 : decode b_No_mac 73 = .ok (.getfield 14, 3) := by decide +kernel
theorem d_No_mac_76 : decode b_No_mac 76 = .ok (.aload_n 0, 1) := by decide +kernel
theorem d_No_mac_77 : decode b_No_mac 77 = .ok (.getfield 31, 3) := by decide +kernel
theorem d_No_mac_80 : decode b_No_mac 80 = .ok (.bipush 32, 2) := by decide +kernel
theorem d_No_mac_82 : decode b_No_mac 82 = .ok (.invokevirtual 61, 3) := by decide +kernel
theorem d_No_mac_85 : decode b_No_mac 85 = .ok (.aload_n 0, 1) := by decide +kernel
theorem d_No_mac_86 : decode b_No_mac 86 = .ok (.getfield 14, 3) := by decide +kernel
theorem d_No_mac_89 : decode b_No_mac 89 = .ok (.aload_n 3, 1) := by decide +kernel
theorem d_No_mac_90 : decode b_No_mac 90 = .ok (.invokevirtual 65, 3) := by decide +kernel
theorem d_No_mac_93 : decode b_No_mac 93 = .ok (.return_, 1) := by decide +kernel
theorem fl_No_14 : FL "PrimeKeys$Nonces" 14 2 0 := ⟨R_No, F_No, 6, rfl, u_No, by decide, rfl, tb_2 (List.mem_of_getElem? (i := 31) (by decide +kernel)) rfl⟩
theorem fl_No_31 : FL "PrimeKeys$Nonces" 31 2 5 := ⟨R_No, F_No, 6, rfl, u_No, by decide, rfl, tb_2 (List.mem_of_getElem? (i := 36) (by decide +kernel)) rfl⟩
theorem cd_No_65 : CD "PrimeKeys$Nonces" 65 y_Sh_finish b_Sh_finish 3 none 1 := ⟨tb_2 (List.mem_of_getElem? (i := 131) rfl) rfl, tb_1 (List.mem_of_getElem? (i := 2) (by decide +kernel)) rfl, tb_3 (List.mem_of_getElem? (i := 196) (by decide +kernel)) rfl, by decide +kernel⟩
theorem cd_No_61 : CD "PrimeKeys$Nonces" 61 y_Sh_take b_Sh_take 4 none 2 := ⟨tb_2 (List.mem_of_getElem? (i := 117) rfl) rfl, tb_1 (List.mem_of_getElem? (i := 2) (by decide +kernel)) rfl, tb_3 (List.mem_of_getElem? (i := 195) (by decide +kernel)) rfl, by decide +kernel⟩
theorem cd_No_58 : CD "PrimeKeys$Nonces" 58 y_Sh_begin b_Sh_begin 1 none 0 := ⟨tb_2 (List.mem_of_getElem? (i := 110) rfl) rfl, tb_1 (List.mem_of_getElem? (i := 2) (by decide +kernel)) rfl, tb_3 (List.mem_of_getElem? (i := 194) (by decide +kernel)) rfl, by decide +kernel⟩
theorem cd_No_54 : CD "PrimeKeys$Nonces" 54 y_No_fillPad b_No_fillPad 3 none 1 := ⟨tb_3 (List.mem_of_getElem? (i := 193) rfl) rfl, tb_1 (List.mem_of_getElem? (i := 11) (by decide +kernel)) rfl, tb_3 (List.mem_of_getElem? (i := 190) (by decide +kernel)) rfl, by decide +kernel⟩
theorem kw_in_No_fillPad : Cond.instanceMethod y_No_fillPad ∈ TB := tb_3 (List.mem_of_getElem? (i := 192) (by decide +kernel)) rfl
theorem kw_se_No_fillPad : Cond.selects "PrimeKeys$Nonces" y_No_fillPad y_No_fillPad ∈ TB := tb_p (q := (y_No_fillPad, 6)) (by decide +kernel)
abbrev rm_No_mac : Room := { frames := 3, cells := 0, slots := 0, locals := 81 }
def P_No_mac (h : HP) (p0 : Nat) (p1 : Nat) (p2 : Int32) (p3 : Nat) : Option (HP) :=
  ob h p0 2 (
  bnd (P_No_fillPad h p0 54) fun h1 =>
  bnd (gR h1 p0 2 0) fun k2 =>
  ob h1 k2 4 (
  bnd (P_Sh_begin h1 k2) fun h3 =>
  bnd (gR h3 p0 2 0) fun k4 =>
  bnd (gR h3 p0 2 4) fun k5 =>
  ob h3 k4 4 (
  bnd (P_Sh_take h3 k4 k5 64) fun h6 =>
  bnd (gR h6 p0 2 0) fun k7 =>
  ob h6 k7 4 (
  bnd (P_Sh_take h6 k7 p1 p2) fun h8 =>
  bnd (gR h8 p0 2 0) fun k9 =>
  bnd (gR h8 p0 2 5) fun k10 =>
  ob h8 k9 4 (
  bnd (P_Sh_finish h8 k9 k10) fun h11 =>
  ob h11 p0 2 (
  bnd (P_No_fillPad h11 p0 92) fun h12 =>
  bnd (gR h12 p0 2 0) fun k13 =>
  ob h12 k13 4 (
  bnd (P_Sh_begin h12 k13) fun h14 =>
  bnd (gR h14 p0 2 0) fun k15 =>
  bnd (gR h14 p0 2 4) fun k16 =>
  ob h14 k15 4 (
  bnd (P_Sh_take h14 k15 k16 64) fun h17 =>
  bnd (gR h17 p0 2 0) fun k18 =>
  bnd (gR h17 p0 2 5) fun k19 =>
  ob h17 k18 4 (
  bnd (P_Sh_take h17 k18 k19 32) fun h20 =>
  bnd (gR h20 p0 2 0) fun k21 =>
  ob h20 k21 4 (
  bnd (P_Sh_finish h20 k21 p3) fun h22 =>
  some h22))))))))))
set_option maxHeartbeats 4000000 in
set_option maxRecDepth 100000 in
theorem c_No_mac {l : Launch} {h h' : HP} {p0 p1 p2 p3 : _} (hr : P_No_mac h p0 p1 p2 p3 = some h') : MP l y_No_mac (Cond.code y_No_mac b_No_mac 4 none :: TB) rm_No_mac h [.ref p0, .ref p1, .int p2, .ref p3] none h' := by
  refine MP_intro (cc := b_No_mac) (by decide) (Nat.le_of_ble_eq_true rfl) (fun x hl0 C T hin => ?_)
  unfold P_No_mac at hr
  show GG x 0 0 h 0 [(0, .ref p0), (1, .ref p1), (2, .int p2), (3, .ref p3)] []
  refine g_aload_n C 0 rfl d_No_mac_0 rfl ?_
  refine g_bipush (v := 54) C d_No_mac_1 (by decide) ?_
  obtain ⟨fsh1, hoh1, hr⟩ := of_ob hr
  obtain ⟨h1, eh1, hr⟩ := of_bnd hr
  refine g_callV (pa := [.int 54]) C hl0 (c_No_fillPad eh1) cd_No_54 kw_in_No_fillPad kw_se_No_fillPad hoh1 rfl rfl (by decide) rfl rfl (Nat.le_of_ble_eq_true rfl) d_No_mac_3 ?_
  refine g_aload_n C 0 rfl d_No_mac_6 rfl ?_
  obtain ⟨k2, ek2, hr⟩ := of_bnd hr
  refine g_getR C fl_No_14 ek2 d_No_mac_7 ?_
  obtain ⟨fsh3, hoh3, hr⟩ := of_ob hr
  obtain ⟨h3, eh3, hr⟩ := of_bnd hr
  refine g_callV (pa := []) C hl0 (c_Sh_begin eh3) cd_No_58 kw_in_Sh_begin kw_se_Sh_begin hoh3 rfl rfl (by decide) rfl rfl (Nat.le_of_ble_eq_true rfl) d_No_mac_10 ?_
  refine g_aload_n C 0 rfl d_No_mac_13 rfl ?_
  obtain ⟨k4, ek4, hr⟩ := of_bnd hr
  refine g_getR C fl_No_14 ek4 d_No_mac_14 ?_
  refine g_aload_n C 0 rfl d_No_mac_17 rfl ?_
  obtain ⟨k5, ek5, hr⟩ := of_bnd hr
  refine g_getR C fl_No_28 ek5 d_No_mac_18 ?_
  refine g_bipush (v := 64) C d_No_mac_21 (by decide) ?_
  obtain ⟨fsh6, hoh6, hr⟩ := of_ob hr
  obtain ⟨h6, eh6, hr⟩ := of_bnd hr
  refine g_callV (pa := [.ref k5, .int 64]) C hl0 (c_Sh_take eh6) cd_No_61 kw_in_Sh_take kw_se_Sh_take hoh6 rfl rfl (by decide) rfl rfl (Nat.le_of_ble_eq_true rfl) d_No_mac_23 ?_
  refine g_aload_n C 0 rfl d_No_mac_26 rfl ?_
  obtain ⟨k7, ek7, hr⟩ := of_bnd hr
  refine g_getR C fl_No_14 ek7 d_No_mac_27 ?_
  refine g_aload_n C 1 rfl d_No_mac_30 rfl ?_
  refine g_iload_n C 2 rfl d_No_mac_31 rfl ?_
  obtain ⟨fsh8, hoh8, hr⟩ := of_ob hr
  obtain ⟨h8, eh8, hr⟩ := of_bnd hr
  refine g_callV (pa := [.ref p1, .int p2]) C hl0 (c_Sh_take eh8) cd_No_61 kw_in_Sh_take kw_se_Sh_take hoh8 rfl rfl (by decide) rfl rfl (Nat.le_of_ble_eq_true rfl) d_No_mac_32 ?_
  refine g_aload_n C 0 rfl d_No_mac_35 rfl ?_
  obtain ⟨k9, ek9, hr⟩ := of_bnd hr
  refine g_getR C fl_No_14 ek9 d_No_mac_36 ?_
  refine g_aload_n C 0 rfl d_No_mac_39 rfl ?_
  obtain ⟨k10, ek10, hr⟩ := of_bnd hr
  refine g_getR C fl_No_31 ek10 d_No_mac_40 ?_
  obtain ⟨fsh11, hoh11, hr⟩ := of_ob hr
  obtain ⟨h11, eh11, hr⟩ := of_bnd hr
  refine g_callV (pa := [.ref k10]) C hl0 (c_Sh_finish eh11) cd_No_65 kw_in_Sh_finish kw_se_Sh_finish hoh11 rfl rfl (by decide) rfl rfl (Nat.le_of_ble_eq_true rfl) d_No_mac_43 ?_
  refine g_aload_n C 0 rfl d_No_mac_46 rfl ?_
  refine g_bipush (v := 92) C d_No_mac_47 (by decide) ?_
  obtain ⟨fsh12, hoh12, hr⟩ := of_ob hr
  obtain ⟨h12, eh12, hr⟩ := of_bnd hr
  refine g_callV (pa := [.int 92]) C hl0 (c_No_fillPad eh12) cd_No_54 kw_in_No_fillPad kw_se_No_fillPad hoh12 rfl rfl (by decide) rfl rfl (Nat.le_of_ble_eq_true rfl) d_No_mac_49 ?_
  refine g_aload_n C 0 rfl d_No_mac_52 rfl ?_
  obtain ⟨k13, ek13, hr⟩ := of_bnd hr
  refine g_getR C fl_No_14 ek13 d_No_mac_53 ?_
  obtain ⟨fsh14, hoh14, hr⟩ := of_ob hr
  obtain ⟨h14, eh14, hr⟩ := of_bnd hr
  refine g_callV (pa := []) C hl0 (c_Sh_begin eh14) cd_No_58 kw_in_Sh_begin kw_se_Sh_begin hoh14 rfl rfl (by decide) rfl rfl (Nat.le_of_ble_eq_true rfl) d_No_mac_56 ?_
  refine g_aload_n C 0 rfl d_No_mac_59 rfl ?_
  obtain ⟨k15, ek15, hr⟩ := of_bnd hr
  refine g_getR C fl_No_14 ek15 d_No_mac_60 ?_
  refine g_aload_n C 0 rfl d_No_mac_63 rfl ?_
  obtain ⟨k16, ek16, hr⟩ := of_bnd hr
  refine g_getR C fl_No_28 ek16 d_No_mac_64 ?_
  refine g_bipush (v := 64) C d_No_mac_67 (by decide) ?_
  obtain ⟨fsh17, hoh17, hr⟩ := of_ob hr
  obtain ⟨h17, eh17, hr⟩ := of_bnd hr
  refine g_callV (pa := [.ref k16, .int 64]) C hl0 (c_Sh_take eh17) cd_No_61 kw_in_Sh_take kw_se_Sh_take hoh17 rfl rfl (by decide) rfl rfl (Nat.le_of_ble_eq_true rfl) d_No_mac_69 ?_
  refine g_aload_n C 0 rfl d_No_mac_72 rfl ?_
  obtain ⟨k18, ek18, hr⟩ := of_bnd hr
  refine g_getR C fl_No_14 ek18 d_No_mac_73 ?_
  refine g_aload_n C 0 rfl d_No_mac_76 rfl ?_
  obtain ⟨k19, ek19, hr⟩ := of_bnd hr
  refine g_getR C fl_No_31 ek19 d_No_mac_77 ?_
  refine g_bipush (v := 32) C d_No_mac_80 (by decide) ?_
  obtain ⟨fsh20, hoh20, hr⟩ := of_ob hr
  obtain ⟨h20, eh20, hr⟩ := of_bnd hr
  refine g_callV (pa := [.ref k19, .int 32]) C hl0 (c_Sh_take eh20) cd_No_61 kw_in_Sh_take kw_se_Sh_take hoh20 rfl rfl (by decide) rfl rfl (Nat.le_of_ble_eq_true rfl) d_No_mac_82 ?_
  refine g_aload_n C 0 rfl d_No_mac_85 rfl ?_
  obtain ⟨k21, ek21, hr⟩ := of_bnd hr
  refine g_getR C fl_No_14 ek21 d_No_mac_86 ?_
  refine g_aload_n C 3 rfl d_No_mac_89 rfl ?_
  obtain ⟨fsh22, hoh22, hr⟩ := of_ob hr
  obtain ⟨h22, eh22, hr⟩ := of_bnd hr
  refine g_callV (pa := [.ref p3]) C hl0 (c_Sh_finish eh22) cd_No_65 kw_in_Sh_finish kw_se_Sh_finish hoh22 rfl rfl (by decide) rfl rfl (Nat.le_of_ble_eq_true rfl) d_No_mac_90 ?_
  cases hr
  exact g_vreturn C T (by decide) (by decide) d_No_mac_93
abbrev b_No_renew : ByteArray := prog_5_method_5_code
abbrev y_No_renew : MethodName := ⟨"PrimeKeys$Nonces", "renew", "(BI)V"⟩
theorem d_No_renew_0 : decode b_No_renew 0 = .ok (.aload_n 0, 1) := by decide +kernel
theorem d_No_renew_1 : decode b_No_renew 1 = .ok (.getfield 22, 3) := by decide +kernel
theorem d_No_renew_4 : decode b_No_renew 4 = .ok (.iconst 0, 1) := by decide +kernel
theorem d_No_renew_5 : decode b_No_renew 5 = .ok (.aload_n 0, 1) := by decide +kernel
theorem d_No_renew_6 : decode b_No_renew 6 = .ok (.getfield 25, 3) := by decide +kernel
theorem d_No_renew_9 : decode b_No_renew 9 = .ok (.iconst 0, 1) := by decide +kernel
theorem d_No_renew_10 : decode b_No_renew 10 = .ok (.bipush 32, 2) := by decide +kernel
theorem d_No_renew_12 : decode b_No_renew 12 = .ok (.invokestatic 40, 3) := by decide +kernel
theorem d_No_renew_15 : decode b_No_renew 15 = .ok (.aload_n 0, 1) := by decide +kernel
theorem d_No_renew_16 : decode b_No_renew 16 = .ok (.getfield 25, 3) := by decide +kernel
theorem d_No_renew_19 : decode b_No_renew 19 = .ok (.bipush 32, 2) := by decide +kernel
theorem d_No_renew_21 : decode b_No_renew 21 = .ok (.iload_n 1, 1) := by decide +kernel
theorem d_No_renew_22 : decode b_No_renew 22 = .ok (.bastore, 1) := by decide +kernel
theorem d_No_renew_23 : decode b_No_renew 23 = .ok (.aload_n 0, 1) := by decide +kernel
theorem d_No_renew_24 : decode b_No_renew 24 = .ok (.aload_n 0, 1) := by decide +kernel
theorem d_No_renew_25 : decode b_No_renew 25 = .ok (.getfield 25, 3) := by decide +kernel
theorem d_No_renew_28 : decode b_No_renew 28 = .ok (.iload_n 2, 1) := by decide +kernel
theorem d_No_renew_29 : decode b_No_renew 29 = .ok (.aload_n 0, 1) := by decide +kernel
theorem d_No_renew_30 : decode b_No_renew 30 = .ok (.getfield 18, 3) := by decide +kernel
theorem d_No_renew_33 : decode b_No_renew 33 = .ok (.invokevirtual 50, 3) := by decide +kernel
theorem d_No_renew_36 : decode b_No_renew 36 = .ok (.aload_n 0, 1) := by decide +kernel
theorem d_No_renew_37 : decode b_No_renew 37 = .ok (.aload_n 0, 1) := by decide +kernel
theorem d_No_renew_38 : decode b_No_renew 38 = .ok (.getfield 22, 3) := by decide +kernel
theorem d_No_renew_41 : decode b_No_renew 41 = .ok (.bipush 32, 2) := by decide +kernel
theorem d_No_renew_43 : decode b_No_renew 43 = .ok (.aload_n 0, 1) := by decide +kernel
theorem d_No_renew_44 : decode b_No_renew 44 = .ok (.getfield 22, 3) := by decide +kernel
theorem d_No_renew_47 : decode b_No_renew 47 = .ok (.invokevirtual 50, 3) := by decide +kernel
theorem d_No_renew_50 : decode b_No_renew 50 = .ok (.return_, 1) := by decide +kernel
theorem fl_No_22 : FL "PrimeKeys$Nonces" 22 2 2 := ⟨R_No, F_No, 6, rfl, u_No, by decide, rfl, tb_2 (List.mem_of_getElem? (i := 33) (by decide +kernel)) rfl⟩
theorem fl_No_25 : FL "PrimeKeys$Nonces" 25 2 3 := ⟨R_No, F_No, 6, rfl, u_No, by decide, rfl, tb_2 (List.mem_of_getElem? (i := 34) (by decide +kernel)) rfl⟩
theorem kw_12 : Cond.methodLink "PrimeKeys$Nonces" 40 arraycopyName ∈ TB := tb_3 (List.mem_of_getElem? (i := 181) (by decide +kernel)) rfl
theorem cd_No_50 : CD "PrimeKeys$Nonces" 50 y_No_mac b_No_mac 4 none 3 := ⟨tb_3 (List.mem_of_getElem? (i := 189) rfl) rfl, tb_1 (List.mem_of_getElem? (i := 11) (by decide +kernel)) rfl, tb_3 (List.mem_of_getElem? (i := 186) (by decide +kernel)) rfl, by decide +kernel⟩
theorem kw_in_No_mac : Cond.instanceMethod y_No_mac ∈ TB := tb_3 (List.mem_of_getElem? (i := 188) (by decide +kernel)) rfl
theorem kw_se_No_mac : Cond.selects "PrimeKeys$Nonces" y_No_mac y_No_mac ∈ TB := tb_p (q := (y_No_mac, 6)) (by decide +kernel)
abbrev rm_No_renew : Room := { frames := 4, cells := 0, slots := 0, locals := 104 }
def P_No_renew (h : HP) (p0 : Nat) (p1 : Int32) (p2 : Int32) : Option (HP) :=
  bnd (gR h p0 2 2) fun k1 =>
  bnd (gR h p0 2 3) fun k2 =>
  bnd (cpB h k1 0 k2 0 32) fun h3 =>
  bnd (gR h3 p0 2 3) fun k4 =>
  bnd (stB h3 k4 32 p1) fun h5 =>
  bnd (gR h5 p0 2 3) fun k6 =>
  bnd (gR h5 p0 2 1) fun k7 =>
  ob h5 p0 2 (
  bnd (P_No_mac h5 p0 k6 p2 k7) fun h8 =>
  bnd (gR h8 p0 2 2) fun k9 =>
  bnd (gR h8 p0 2 2) fun k10 =>
  ob h8 p0 2 (
  bnd (P_No_mac h8 p0 k9 32 k10) fun h11 =>
  some h11))
set_option maxHeartbeats 4000000 in
set_option maxRecDepth 100000 in
theorem c_No_renew {l : Launch} {h h' : HP} {p0 p1 p2 : _} (hr : P_No_renew h p0 p1 p2 = some h') : MP l y_No_renew (Cond.code y_No_renew b_No_renew 3 none :: TB) rm_No_renew h [.ref p0, .int p1, .int p2] none h' := by
  refine MP_intro (cc := b_No_renew) (by decide) (Nat.le_of_ble_eq_true rfl) (fun x hl0 C T hin => ?_)
  unfold P_No_renew at hr
  show GG x 0 0 h 0 [(0, .ref p0), (1, .int p1), (2, .int p2)] []
  refine g_aload_n C 0 rfl d_No_renew_0 rfl ?_
  obtain ⟨k1, ek1, hr⟩ := of_bnd hr
  refine g_getR C fl_No_22 ek1 d_No_renew_1 ?_
  refine g_iconst (v := 0) C d_No_renew_4 (by decide) ?_
  refine g_aload_n C 0 rfl d_No_renew_5 rfl ?_
  obtain ⟨k2, ek2, hr⟩ := of_bnd hr
  refine g_getR C fl_No_25 ek2 d_No_renew_6 ?_
  refine g_iconst (v := 0) C d_No_renew_9 (by decide) ?_
  refine g_bipush (v := 32) C d_No_renew_10 (by decide) ?_
  obtain ⟨h3, eh3, hr⟩ := of_bnd hr
  refine g_copyB C eh3 kw_12 (Nat.le_of_ble_eq_true rfl) (Nat.le_of_ble_eq_true rfl) d_No_renew_12 ?_
  refine g_aload_n C 0 rfl d_No_renew_15 rfl ?_
  obtain ⟨k4, ek4, hr⟩ := of_bnd hr
  refine g_getR C fl_No_25 ek4 d_No_renew_16 ?_
  refine g_bipush (v := 32) C d_No_renew_19 (by decide) ?_
  refine g_iload_n C 1 rfl d_No_renew_21 rfl ?_
  obtain ⟨h5, eh5, hr⟩ := of_bnd hr
  refine g_bastore C eh5 d_No_renew_22 ?_
  refine g_aload_n C 0 rfl d_No_renew_23 rfl ?_
  refine g_aload_n C 0 rfl d_No_renew_24 rfl ?_
  obtain ⟨k6, ek6, hr⟩ := of_bnd hr
  refine g_getR C fl_No_25 ek6 d_No_renew_25 ?_
  refine g_iload_n C 2 rfl d_No_renew_28 rfl ?_
  refine g_aload_n C 0 rfl d_No_renew_29 rfl ?_
  obtain ⟨k7, ek7, hr⟩ := of_bnd hr
  refine g_getR C fl_No_18 ek7 d_No_renew_30 ?_
  obtain ⟨fsh8, hoh8, hr⟩ := of_ob hr
  obtain ⟨h8, eh8, hr⟩ := of_bnd hr
  refine g_callV (pa := [.ref k6, .int p2, .ref k7]) C hl0 (c_No_mac eh8) cd_No_50 kw_in_No_mac kw_se_No_mac hoh8 rfl rfl (by decide) rfl rfl (Nat.le_of_ble_eq_true rfl) d_No_renew_33 ?_
  refine g_aload_n C 0 rfl d_No_renew_36 rfl ?_
  refine g_aload_n C 0 rfl d_No_renew_37 rfl ?_
  obtain ⟨k9, ek9, hr⟩ := of_bnd hr
  refine g_getR C fl_No_22 ek9 d_No_renew_38 ?_
  refine g_bipush (v := 32) C d_No_renew_41 (by decide) ?_
  refine g_aload_n C 0 rfl d_No_renew_43 rfl ?_
  obtain ⟨k10, ek10, hr⟩ := of_bnd hr
  refine g_getR C fl_No_22 ek10 d_No_renew_44 ?_
  obtain ⟨fsh11, hoh11, hr⟩ := of_ob hr
  obtain ⟨h11, eh11, hr⟩ := of_bnd hr
  refine g_callV (pa := [.ref k9, .int 32, .ref k10]) C hl0 (c_No_mac eh11) cd_No_50 kw_in_No_mac kw_se_No_mac hoh11 rfl rfl (by decide) rfl rfl (Nat.le_of_ble_eq_true rfl) d_No_renew_47 ?_
  cases hr
  exact g_vreturn C T (by decide) (by decide) d_No_renew_50
abbrev b_No_begin : ByteArray := prog_5_method_2_code
abbrev y_No_begin : MethodName := ⟨"PrimeKeys$Nonces", "begin", "([B[B)V"⟩
theorem d_No_begin_0 : decode b_No_begin 0 = .ok (.aload_n 0, 1) := by decide +kernel
theorem d_No_begin_1 : decode b_No_begin 1 = .ok (.getfield 22, 3) := by decide +kernel
theorem d_No_begin_4 : decode b_No_begin 4 = .ok (.iconst 1, 1) := by decide +kernel
theorem d_No_begin_5 : decode b_No_begin 5 = .ok (.invokestatic 34, 3) := by decide +kernel
theorem d_No_begin_8 : decode b_No_begin 8 = .ok (.aload_n 0, 1) := by decide +kernel
theorem d_No_begin_9 : decode b_No_begin 9 = .ok (.getfield 18, 3) := by decide +kernel
theorem d_No_begin_12 : decode b_No_begin 12 = .ok (.iconst 0, 1) := by decide +kernel
theorem d_No_begin_13 : decode b_No_begin 13 = .ok (.invokestatic 34, 3) := by decide +kernel
theorem d_No_begin_16 : decode b_No_begin 16 = .ok (.aload_n 1, 1) := by decide +kernel
theorem d_No_begin_17 : decode b_No_begin 17 = .ok (.iconst 0, 1) := by decide +kernel
theorem d_No_begin_18 : decode b_No_begin 18 = .ok (.aload_n 0, 1) := by decide +kernel
theorem d_No_begin_19 : decode b_No_begin 19 = .ok (.getfield 25, 3) := by decide +kernel
theorem d_No_begin_22 : decode b_No_begin 22 = .ok (.bipush 33, 2) := by decide +kernel
theorem d_No_begin_24 : decode b_No_begin 24 = .ok (.bipush 32, 2) := by decide +kernel
theorem d_No_begin_26 : decode b_No_begin 26 = .ok (.invokestatic 40, 3) := by decide +kernel
theorem d_No_begin_29 : decode b_No_begin 29 = .ok (.aload_n 2, 1) := by decide +kernel
theorem d_No_begin_30 : decode b_No_begin 30 = .ok (.iconst 0, 1) := by decide +kernel
theorem d_No_begin_31 : decode b_No_begin 31 = .ok (.aload_n 0, 1) := by decide +kernel
theorem d_No_begin_32 : decode b_No_begin 32 = .ok (.getfield 25, 3) := by decide +kernel
theorem d_No_begin_35 : decode b_No_begin 35 = .ok (.bipush 65, 2) := by decide +kernel
theorem d_No_begin_37 : decode b_No_begin 37 = .ok (.bipush 32, 2) := by decide +kernel
theorem d_No_begin_39 : decode b_No_begin 39 = .ok (.invokestatic 40, 3) := by decide +kernel
theorem d_No_begin_42 : decode b_No_begin 42 = .ok (.aload_n 0, 1) := by decide +kernel
theorem d_No_begin_43 : decode b_No_begin 43 = .ok (.iconst 0, 1) := by decide +kernel
theorem d_No_begin_44 : decode b_No_begin 44 = .ok (.bipush 97, 2) := by decide +kernel
theorem d_No_begin_46 : decode b_No_begin 46 = .ok (.invokevirtual 46, 3) := by decide +kernel
theorem d_No_begin_49 : decode b_No_begin 49 = .ok (.aload_n 0, 1) := by decide +kernel
theorem d_No_begin_50 : decode b_No_begin 50 = .ok (.iconst 1, 1) := by decide +kernel
theorem d_No_begin_51 : decode b_No_begin 51 = .ok (.bipush 97, 2) := by decide +kernel
theorem d_No_begin_53 : decode b_No_begin 53 = .ok (.invokevirtual 46, 3) := by decide +kernel
theorem d_No_begin_56 : decode b_No_begin 56 = .ok (.return_, 1) := by decide +kernel
theorem cd_No_46 : CD "PrimeKeys$Nonces" 46 y_No_renew b_No_renew 3 none 2 := ⟨tb_3 (List.mem_of_getElem? (i := 185) rfl) rfl, tb_1 (List.mem_of_getElem? (i := 11) (by decide +kernel)) rfl, tb_3 (List.mem_of_getElem? (i := 182) (by decide +kernel)) rfl, by decide +kernel⟩
theorem kw_in_No_renew : Cond.instanceMethod y_No_renew ∈ TB := tb_3 (List.mem_of_getElem? (i := 184) (by decide +kernel)) rfl
theorem kw_se_No_renew : Cond.selects "PrimeKeys$Nonces" y_No_renew y_No_renew ∈ TB := tb_p (q := (y_No_renew, 6)) (by decide +kernel)
abbrev rm_No_begin : Room := { frames := 5, cells := 0, slots := 0, locals := 126 }
def P_No_begin (h : HP) (p0 : Nat) (p1 : Nat) (p2 : Nat) : Option (HP) :=
  bnd (gR h p0 2 2) fun k1 =>
  bnd (P_Ar_fill_B h k1 1) fun h2 =>
  bnd (gR h2 p0 2 1) fun k3 =>
  bnd (P_Ar_fill_B h2 k3 0) fun h4 =>
  bnd (gR h4 p0 2 3) fun k5 =>
  bnd (cpB h4 p1 0 k5 33 32) fun h6 =>
  bnd (gR h6 p0 2 3) fun k7 =>
  bnd (cpB h6 p2 0 k7 65 32) fun h8 =>
  ob h8 p0 2 (
  bnd (P_No_renew h8 p0 0 97) fun h9 =>
  ob h9 p0 2 (
  bnd (P_No_renew h9 p0 1 97) fun h10 =>
  some h10))
set_option maxHeartbeats 4000000 in
set_option maxRecDepth 100000 in
theorem c_No_begin {l : Launch} {h h' : HP} {p0 p1 p2 : _} (hr : P_No_begin h p0 p1 p2 = some h') : MP l y_No_begin (Cond.code y_No_begin b_No_begin 3 none :: TB) rm_No_begin h [.ref p0, .ref p1, .ref p2] none h' := by
  refine MP_intro (cc := b_No_begin) (by decide) (Nat.le_of_ble_eq_true rfl) (fun x hl0 C T hin => ?_)
  unfold P_No_begin at hr
  show GG x 0 0 h 0 [(0, .ref p0), (1, .ref p1), (2, .ref p2)] []
  refine g_aload_n C 0 rfl d_No_begin_0 rfl ?_
  obtain ⟨k1, ek1, hr⟩ := of_bnd hr
  refine g_getR C fl_No_22 ek1 d_No_begin_1 ?_
  refine g_iconst (v := 1) C d_No_begin_4 (by decide) ?_
  obtain ⟨h2, eh2, hr⟩ := of_bnd hr
  refine g_callS (pa := [.ref k1, .int 1]) C hl0 (c_Ar_fill_B eh2) cd_No_34 kw_st_Ar_fill_B (by decide) rfl rfl (Nat.le_of_ble_eq_true rfl) d_No_begin_5 ?_
  refine g_aload_n C 0 rfl d_No_begin_8 rfl ?_
  obtain ⟨k3, ek3, hr⟩ := of_bnd hr
  refine g_getR C fl_No_18 ek3 d_No_begin_9 ?_
  refine g_iconst (v := 0) C d_No_begin_12 (by decide) ?_
  obtain ⟨h4, eh4, hr⟩ := of_bnd hr
  refine g_callS (pa := [.ref k3, .int 0]) C hl0 (c_Ar_fill_B eh4) cd_No_34 kw_st_Ar_fill_B (by decide) rfl rfl (Nat.le_of_ble_eq_true rfl) d_No_begin_13 ?_
  refine g_aload_n C 1 rfl d_No_begin_16 rfl ?_
  refine g_iconst (v := 0) C d_No_begin_17 (by decide) ?_
  refine g_aload_n C 0 rfl d_No_begin_18 rfl ?_
  obtain ⟨k5, ek5, hr⟩ := of_bnd hr
  refine g_getR C fl_No_25 ek5 d_No_begin_19 ?_
  refine g_bipush (v := 33) C d_No_begin_22 (by decide) ?_
  refine g_bipush (v := 32) C d_No_begin_24 (by decide) ?_
  obtain ⟨h6, eh6, hr⟩ := of_bnd hr
  refine g_copyB C eh6 kw_12 (Nat.le_of_ble_eq_true rfl) (Nat.le_of_ble_eq_true rfl) d_No_begin_26 ?_
  refine g_aload_n C 2 rfl d_No_begin_29 rfl ?_
  refine g_iconst (v := 0) C d_No_begin_30 (by decide) ?_
  refine g_aload_n C 0 rfl d_No_begin_31 rfl ?_
  obtain ⟨k7, ek7, hr⟩ := of_bnd hr
  refine g_getR C fl_No_25 ek7 d_No_begin_32 ?_
  refine g_bipush (v := 65) C d_No_begin_35 (by decide) ?_
  refine g_bipush (v := 32) C d_No_begin_37 (by decide) ?_
  obtain ⟨h8, eh8, hr⟩ := of_bnd hr
  refine g_copyB C eh8 kw_12 (Nat.le_of_ble_eq_true rfl) (Nat.le_of_ble_eq_true rfl) d_No_begin_39 ?_
  refine g_aload_n C 0 rfl d_No_begin_42 rfl ?_
  refine g_iconst (v := 0) C d_No_begin_43 (by decide) ?_
  refine g_bipush (v := 97) C d_No_begin_44 (by decide) ?_
  obtain ⟨fsh9, hoh9, hr⟩ := of_ob hr
  obtain ⟨h9, eh9, hr⟩ := of_bnd hr
  refine g_callV (pa := [.int 0, .int 97]) C hl0 (c_No_renew eh9) cd_No_46 kw_in_No_renew kw_se_No_renew hoh9 rfl rfl (by decide) rfl rfl (Nat.le_of_ble_eq_true rfl) d_No_begin_46 ?_
  refine g_aload_n C 0 rfl d_No_begin_49 rfl ?_
  refine g_iconst (v := 1) C d_No_begin_50 (by decide) ?_
  refine g_bipush (v := 97) C d_No_begin_51 (by decide) ?_
  obtain ⟨fsh10, hoh10, hr⟩ := of_ob hr
  obtain ⟨h10, eh10, hr⟩ := of_bnd hr
  refine g_callV (pa := [.int 1, .int 97]) C hl0 (c_No_renew eh10) cd_No_46 kw_in_No_renew kw_se_No_renew hoh10 rfl rfl (by decide) rfl rfl (Nat.le_of_ble_eq_true rfl) d_No_begin_53 ?_
  cases hr
  exact g_vreturn C T (by decide) (by decide) d_No_begin_56
abbrev b_No_writeNext : ByteArray := prog_5_method_3_code
abbrev y_No_writeNext : MethodName := ⟨"PrimeKeys$Nonces", "writeNext", "([B)V"⟩
theorem d_No_writeNext_0 : decode b_No_writeNext 0 = .ok (.aload_n 0, 1) := by decide +kernel
theorem d_No_writeNext_1 : decode b_No_writeNext 1 = .ok (.aload_n 0, 1) := by decide +kernel
theorem d_No_writeNext_2 : decode b_No_writeNext 2 = .ok (.getfield 22, 3) := by decide +kernel
theorem d_No_writeNext_5 : decode b_No_writeNext 5 = .ok (.bipush 32, 2) := by decide +kernel
theorem d_No_writeNext_7 : decode b_No_writeNext 7 = .ok (.aload_n 0, 1) := by decide +kernel
theorem d_No_writeNext_8 : decode b_No_writeNext 8 = .ok (.getfield 22, 3) := by decide +kernel
theorem d_No_writeNext_11 : decode b_No_writeNext 11 = .ok (.invokevirtual 50, 3) := by decide +kernel
theorem d_No_writeNext_14 : decode b_No_writeNext 14 = .ok (.aload_n 0, 1) := by decide +kernel
theorem d_No_writeNext_15 : decode b_No_writeNext 15 = .ok (.getfield 22, 3) := by decide +kernel
theorem d_No_writeNext_18 : decode b_No_writeNext 18 = .ok (.iconst 0, 1) := by decide +kernel
theorem d_No_writeNext_19 : decode b_No_writeNext 19 = .ok (.aload_n 1, 1) := by decide +kernel
theorem d_No_writeNext_20 : decode b_No_writeNext 20 = .ok (.iconst 0, 1) := by decide +kernel
theorem d_No_writeNext_21 : decode b_No_writeNext 21 = .ok (.bipush 32, 2) := by decide +kernel
theorem d_No_writeNext_23 : decode b_No_writeNext 23 = .ok (.invokestatic 40, 3) := by decide +kernel
theorem d_No_writeNext_26 : decode b_No_writeNext 26 = .ok (.return_, 1) := by decide +kernel
abbrev rm_No_writeNext : Room := { frames := 4, cells := 0, slots := 0, locals := 104 }
def P_No_writeNext (h : HP) (p0 : Nat) (p1 : Nat) : Option (HP) :=
  bnd (gR h p0 2 2) fun k1 =>
  bnd (gR h p0 2 2) fun k2 =>
  ob h p0 2 (
  bnd (P_No_mac h p0 k1 32 k2) fun h3 =>
  bnd (gR h3 p0 2 2) fun k4 =>
  bnd (cpB h3 k4 0 p1 0 32) fun h5 =>
  some h5)
set_option maxHeartbeats 4000000 in
set_option maxRecDepth 100000 in
theorem c_No_writeNext {l : Launch} {h h' : HP} {p0 p1 : _} (hr : P_No_writeNext h p0 p1 = some h') : MP l y_No_writeNext (Cond.code y_No_writeNext b_No_writeNext 2 none :: TB) rm_No_writeNext h [.ref p0, .ref p1] none h' := by
  refine MP_intro (cc := b_No_writeNext) (by decide) (Nat.le_of_ble_eq_true rfl) (fun x hl0 C T hin => ?_)
  unfold P_No_writeNext at hr
  show GG x 0 0 h 0 [(0, .ref p0), (1, .ref p1)] []
  refine g_aload_n C 0 rfl d_No_writeNext_0 rfl ?_
  refine g_aload_n C 0 rfl d_No_writeNext_1 rfl ?_
  obtain ⟨k1, ek1, hr⟩ := of_bnd hr
  refine g_getR C fl_No_22 ek1 d_No_writeNext_2 ?_
  refine g_bipush (v := 32) C d_No_writeNext_5 (by decide) ?_
  refine g_aload_n C 0 rfl d_No_writeNext_7 rfl ?_
  obtain ⟨k2, ek2, hr⟩ := of_bnd hr
  refine g_getR C fl_No_22 ek2 d_No_writeNext_8 ?_
  obtain ⟨fsh3, hoh3, hr⟩ := of_ob hr
  obtain ⟨h3, eh3, hr⟩ := of_bnd hr
  refine g_callV (pa := [.ref k1, .int 32, .ref k2]) C hl0 (c_No_mac eh3) cd_No_50 kw_in_No_mac kw_se_No_mac hoh3 rfl rfl (by decide) rfl rfl (Nat.le_of_ble_eq_true rfl) d_No_writeNext_11 ?_
  refine g_aload_n C 0 rfl d_No_writeNext_14 rfl ?_
  obtain ⟨k4, ek4, hr⟩ := of_bnd hr
  refine g_getR C fl_No_22 ek4 d_No_writeNext_15 ?_
  refine g_iconst (v := 0) C d_No_writeNext_18 (by decide) ?_
  refine g_aload_n C 1 rfl d_No_writeNext_19 rfl ?_
  refine g_iconst (v := 0) C d_No_writeNext_20 (by decide) ?_
  refine g_bipush (v := 32) C d_No_writeNext_21 (by decide) ?_
  obtain ⟨h5, eh5, hr⟩ := of_bnd hr
  refine g_copyB C eh5 kw_12 (Nat.le_of_ble_eq_true rfl) (Nat.le_of_ble_eq_true rfl) d_No_writeNext_23 ?_
  cases hr
  exact g_vreturn C T (by decide) (by decide) d_No_writeNext_26
abbrev b_No_refuse : ByteArray := prog_5_method_4_code
abbrev y_No_refuse : MethodName := ⟨"PrimeKeys$Nonces", "refuse", "()V"⟩
theorem d_No_refuse_0 : decode b_No_refuse 0 = .ok (.aload_n 0, 1) := by decide +kernel
theorem d_No_refuse_1 : decode b_No_refuse 1 = .ok (.iconst 0, 1) := by decide +kernel
theorem d_No_refuse_2 : decode b_No_refuse 2 = .ok (.bipush 33, 2) := by decide +kernel
theorem d_No_refuse_4 : decode b_No_refuse 4 = .ok (.invokevirtual 46, 3) := by decide +kernel
theorem d_No_refuse_7 : decode b_No_refuse 7 = .ok (.return_, 1) := by decide +kernel
abbrev rm_No_refuse : Room := { frames := 5, cells := 0, slots := 0, locals := 126 }
def P_No_refuse (h : HP) (p0 : Nat) : Option (HP) :=
  ob h p0 2 (
  bnd (P_No_renew h p0 0 33) fun h1 =>
  some h1)
set_option maxHeartbeats 4000000 in
set_option maxRecDepth 100000 in
theorem c_No_refuse {l : Launch} {h h' : HP} {p0 : _} (hr : P_No_refuse h p0 = some h') : MP l y_No_refuse (Cond.code y_No_refuse b_No_refuse 1 none :: TB) rm_No_refuse h [.ref p0] none h' := by
  refine MP_intro (cc := b_No_refuse) (by decide) (Nat.le_of_ble_eq_true rfl) (fun x hl0 C T hin => ?_)
  unfold P_No_refuse at hr
  show GG x 0 0 h 0 [(0, .ref p0)] []
  refine g_aload_n C 0 rfl d_No_refuse_0 rfl ?_
  refine g_iconst (v := 0) C d_No_refuse_1 (by decide) ?_
  refine g_bipush (v := 33) C d_No_refuse_2 (by decide) ?_
  obtain ⟨fsh1, hoh1, hr⟩ := of_ob hr
  obtain ⟨h1, eh1, hr⟩ := of_bnd hr
  refine g_callV (pa := [.int 0, .int 33]) C hl0 (c_No_renew eh1) cd_No_46 kw_in_No_renew kw_se_No_renew hoh1 rfl rfl (by decide) rfl rfl (Nat.le_of_ble_eq_true rfl) d_No_refuse_4 ?_
  cases hr
  exact g_vreturn C T (by decide) (by decide) d_No_refuse_7
