abbrev b_PK_isKey : ByteArray := prog_1_method_13_code
abbrev y_PK_isKey : MethodName := ⟨"PrimeKeys", "isKey", "(I)Z"⟩
theorem d_PK_isKey_0 : decode b_PK_isKey 0 = .ok (.iload_n 1, 1) := by decide +kernel
theorem d_PK_isKey_1 : decode b_PK_isKey 1 = .ok (.ifCond .lt 15, 3) := by decide +kernel
theorem d_PK_isKey_4 : decode b_PK_isKey 4 = .ok (.iload_n 1, 1) := by decide +kernel
theorem d_PK_isKey_5 : decode b_PK_isKey 5 = .ok (.aload_n 0, 1) := by decide +kernel
theorem d_PK_isKey_6 : decode b_PK_isKey 6 = .ok (.getfield 22, 3) := by decide +kernel
theorem d_PK_isKey_9 : decode b_PK_isKey 9 = .ok (.if_icmp .ge 7, 3) := by decide +kernel
theorem d_PK_isKey_12 : decode b_PK_isKey 12 = .ok (.iconst 1, 1) := by decide +kernel
theorem d_PK_isKey_13 : decode b_PK_isKey 13 = .ok (.goto 4, 3) := by decide +kernel
theorem d_PK_isKey_16 : decode b_PK_isKey 16 = .ok (.iconst 0, 1) := by decide +kernel
theorem d_PK_isKey_17 : decode b_PK_isKey 17 = .ok (.ireturn, 1) := by decide +kernel
theorem fl_PK_22 : FL "PrimeKeys" 22 7 3 := ⟨R_PK, F_PK, 17, rfl, u_PK, by decide, rfl, tb_2 (List.mem_of_getElem? (i := 140) (by decide +kernel)) rfl⟩
abbrev rm_PK_isKey : Room := { frames := 0, cells := 0, slots := 0, locals := 0 }
def B_PK_isKey_16 (h : HP) : Option (Int32 × HP) :=
  some (0, h)
set_option maxHeartbeats 4000000 in
set_option maxRecDepth 100000 in
theorem bk_PK_isKey_16 {l : Launch} {x : CX} {h0 h' : HP} {r' : Int32} (C : EV x b_PK_isKey "PrimeKeys" 2 rm_PK_isKey) (T : CT x (some .boolean) rm_PK_isKey h0 (some (.int r')) h') (hl0 : x.1.2.1 = l) (h : HP) (hr : B_PK_isKey_16 h = some (r', h')) : GG x 0 0 h 16 [] [] := by
  unfold B_PK_isKey_16 at hr
  refine g_iconst (v := 0) C d_PK_isKey_16 (by decide) ?_
  cases hr
  exact g_ireturn C T rfl (by decide) (by decide) d_PK_isKey_17
def P_PK_isKey (h : HP) (p0 : Nat) (p1 : Int32) : Option (Int32 × HP) :=
  if p1 < 0 then
  B_PK_isKey_16 h
  else
  bnd (gI h p0 7 3) fun v1 =>
  if v1 ≤ p1 then
  B_PK_isKey_16 h
  else
  some (1, h)
set_option maxHeartbeats 4000000 in
set_option maxRecDepth 100000 in
theorem c_PK_isKey {l : Launch} {h h' : HP} {p0 p1 : _} {r' : Int32} (hr : P_PK_isKey h p0 p1 = some (r', h')) : MP l y_PK_isKey (Cond.code y_PK_isKey b_PK_isKey 2 (some .boolean) :: TB) rm_PK_isKey h [.ref p0, .int p1] (some (.int r')) h' := by
  refine MP_intro (cc := b_PK_isKey) (by decide) (Nat.le_of_ble_eq_true rfl) (fun x hl0 C T hin => ?_)
  unfold P_PK_isKey at hr
  show GG x 0 0 h 0 [(0, .ref p0), (1, .int p1)] []
  refine g_iload_n C 1 rfl d_PK_isKey_0 rfl ?_
  refine g_if_lt (tgt := 16) C d_PK_isKey_1 (by decide) (fun z => ?_) (fun z => ?_)
  · have hr := of_if z hr
    refine g_lv [] rfl ?_
    exact bk_PK_isKey_16 C T hl0 h hr
  · have hr := of_el z hr
    refine g_iload_n C 1 rfl d_PK_isKey_4 rfl ?_
    refine g_aload_n C 0 rfl d_PK_isKey_5 rfl ?_
    obtain ⟨v1, ev1, hr⟩ := of_bnd hr
    refine g_getI C fl_PK_22 ev1 d_PK_isKey_6 ?_
    refine g_icmp_ge (tgt := 16) C d_PK_isKey_9 (by decide) (fun z => ?_) (fun z => ?_)
    · have hr := of_if z hr
      refine g_lv [] rfl ?_
      exact bk_PK_isKey_16 C T hl0 h hr
    · have hr := of_el z hr
      refine g_iconst (v := 1) C d_PK_isKey_12 (by decide) ?_
      refine g_goto (tgt := 17) C d_PK_isKey_13 (by decide) ?_
      cases hr
      exact g_ireturn C T rfl (by decide) (by decide) d_PK_isKey_17
abbrev b_PK_message : ByteArray := prog_1_method_7_code
abbrev y_PK_message : MethodName := ⟨"PrimeKeys", "message", "()I"⟩
theorem d_PK_message_0 : decode b_PK_message 0 = .ok (.aload_n 0, 1) := by decide +kernel
theorem d_PK_message_1 : decode b_PK_message 1 = .ok (.getfield 49, 3) := by decide +kernel
theorem d_PK_message_4 : decode b_PK_message 4 = .ok (.aload_n 0, 1) := by decide +kernel
theorem d_PK_message_5 : decode b_PK_message 5 = .ok (.getfield 9, 3) := by decide +kernel
theorem d_PK_message_8 : decode b_PK_message 8 = .ok (.aload_n 0, 1) := by decide +kernel
theorem d_PK_message_9 : decode b_PK_message 9 = .ok (.getfield 13, 3) := by decide +kernel
theorem d_PK_message_12 : decode b_PK_message 12 = .ok (.aload_n 0, 1) := by decide +kernel
theorem d_PK_message_13 : decode b_PK_message 13 = .ok (.getfield 25, 3) := by decide +kernel
theorem d_PK_message_16 : decode b_PK_message 16 = .ok (.invokevirtual 88, 3) := by decide +kernel
theorem d_PK_message_19 : decode b_PK_message 19 = .ok (.aload_n 0, 1) := by decide +kernel
theorem d_PK_message_20 : decode b_PK_message 20 = .ok (.aload_n 0, 1) := by decide +kernel
theorem d_PK_message_21 : decode b_PK_message 21 = .ok (.getfield 13, 3) := by decide +kernel
theorem d_PK_message_24 : decode b_PK_message 24 = .ok (.putfield 28, 3) := by decide +kernel
theorem d_PK_message_27 : decode b_PK_message 27 = .ok (.aload_n 0, 1) := by decide +kernel
theorem d_PK_message_28 : decode b_PK_message 28 = .ok (.iconst 0, 1) := by decide +kernel
theorem d_PK_message_29 : decode b_PK_message 29 = .ok (.putfield 13, 3) := by decide +kernel
theorem d_PK_message_32 : decode b_PK_message 32 = .ok (.aload_n 0, 1) := by decide +kernel
theorem d_PK_message_33 : decode b_PK_message 33 = .ok (.getfield 28, 3) := by decide +kernel
theorem d_PK_message_36 : decode b_PK_message 36 = .ok (.ireturn, 1) := by decide +kernel
theorem fl_PK_28 : FL "PrimeKeys" 28 7 5 := ⟨R_PK, F_PK, 17, rfl, u_PK, by decide, rfl, tb_2 (List.mem_of_getElem? (i := 142) (by decide +kernel)) rfl⟩
abbrev rm_PK_message : Room := { frames := 4, cells := 0, slots := 0, locals := 104 }
def P_PK_message (h : HP) (p0 : Nat) : Option (Int32 × HP) :=
  bnd (gR h p0 7 10) fun k1 =>
  bnd (gR h p0 7 0) fun k2 =>
  bnd (gI h p0 7 1) fun v3 =>
  bnd (gR h p0 7 4) fun k4 =>
  ob h k1 4 (
  bnd (P_Sh_digest h k1 k2 v3 k4) fun h5 =>
  bnd (gI h5 p0 7 1) fun v6 =>
  bnd (pV h5 p0 7 5 (.int v6)) fun h7 =>
  bnd (pV h7 p0 7 1 (.int 0)) fun h8 =>
  bnd (gI h8 p0 7 5) fun v9 =>
  some (v9, h8))
set_option maxHeartbeats 4000000 in
set_option maxRecDepth 100000 in
theorem c_PK_message {l : Launch} {h h' : HP} {p0 : _} {r' : Int32} (hr : P_PK_message h p0 = some (r', h')) : MP l y_PK_message (Cond.code y_PK_message b_PK_message 1 (some .int) :: TB) rm_PK_message h [.ref p0] (some (.int r')) h' := by
  refine MP_intro (cc := b_PK_message) (by decide) (Nat.le_of_ble_eq_true rfl) (fun x hl0 C T hin => ?_)
  unfold P_PK_message at hr
  show GG x 0 0 h 0 [(0, .ref p0)] []
  refine g_aload_n C 0 rfl d_PK_message_0 rfl ?_
  obtain ⟨k1, ek1, hr⟩ := of_bnd hr
  refine g_getR C fl_PK_49 ek1 d_PK_message_1 ?_
  refine g_aload_n C 0 rfl d_PK_message_4 rfl ?_
  obtain ⟨k2, ek2, hr⟩ := of_bnd hr
  refine g_getR C fl_PK_9 ek2 d_PK_message_5 ?_
  refine g_aload_n C 0 rfl d_PK_message_8 rfl ?_
  obtain ⟨v3, ev3, hr⟩ := of_bnd hr
  refine g_getI C fl_PK_13 ev3 d_PK_message_9 ?_
  refine g_aload_n C 0 rfl d_PK_message_12 rfl ?_
  obtain ⟨k4, ek4, hr⟩ := of_bnd hr
  refine g_getR C fl_PK_25 ek4 d_PK_message_13 ?_
  obtain ⟨fsh5, hoh5, hr⟩ := of_ob hr
  obtain ⟨h5, eh5, hr⟩ := of_bnd hr
  refine g_callV (pa := [.ref k2, .int v3, .ref k4]) C hl0 (c_Sh_digest eh5) cd_PK_88 kw_in_Sh_digest kw_se_Sh_digest hoh5 rfl rfl (by decide) rfl rfl (Nat.le_of_ble_eq_true rfl) d_PK_message_16 ?_
  refine g_aload_n C 0 rfl d_PK_message_19 rfl ?_
  refine g_aload_n C 0 rfl d_PK_message_20 rfl ?_
  obtain ⟨v6, ev6, hr⟩ := of_bnd hr
  refine g_getI C fl_PK_13 ev6 d_PK_message_21 ?_
  obtain ⟨h7, eh7, hr⟩ := of_bnd hr
  refine g_putI C fp_PK_28 eh7 d_PK_message_24 ?_
  refine g_aload_n C 0 rfl d_PK_message_27 rfl ?_
  refine g_iconst (v := 0) C d_PK_message_28 (by decide) ?_
  obtain ⟨h8, eh8, hr⟩ := of_bnd hr
  refine g_putI C fp_PK_13 eh8 d_PK_message_29 ?_
  refine g_aload_n C 0 rfl d_PK_message_32 rfl ?_
  obtain ⟨v9, ev9, hr⟩ := of_bnd hr
  refine g_getI C fl_PK_28 ev9 d_PK_message_33 ?_
  cases hr
  exact g_ireturn C T rfl (by decide) (by decide) d_PK_message_36
