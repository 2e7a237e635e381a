abbrev b_Rm_thrown : ByteArray := prog_12_method_2_code
abbrev y_Rm_thrown : MethodName := ⟨"PrimeKeysModel", "thrown", "()I"⟩
theorem d_Rm_thrown_0 : decode b_Rm_thrown 0 = .ok (.aload_n 0, 1) := by decide +kernel
theorem d_Rm_thrown_1 : decode b_Rm_thrown 1 = .ok (.getfield 264, 3) := by decide +kernel
theorem d_Rm_thrown_4 : decode b_Rm_thrown 4 = .ok (.ireturn, 1) := by decide +kernel
theorem fl_Rm_264 : FL "PrimeKeysModel" 264 8 0 := ⟨R_Rm, F_Rm, 50, rfl, u_Rm, by decide, rfl, tb_4 (List.mem_of_getElem? (i := 154) (by decide +kernel)) rfl⟩
abbrev rm_Rm_thrown : Room := { frames := 0, cells := 0, slots := 0, locals := 0 }
def P_Rm_thrown (h : HP) (p0 : Nat) : Option (Int32 × HP) :=
  bnd (gI h p0 8 0) fun v1 =>
  some (v1, h)
set_option maxHeartbeats 4000000 in
set_option maxRecDepth 100000 in
theorem c_Rm_thrown {l : Launch} {h h' : HP} {p0 : _} {r' : Int32} (hr : P_Rm_thrown h p0 = some (r', h')) : MP l y_Rm_thrown (Cond.code y_Rm_thrown b_Rm_thrown 1 (some .int) :: TB) rm_Rm_thrown h [.ref p0] (some (.int r')) h' := by
  refine MP_intro (cc := b_Rm_thrown) (by decide) (Nat.le_of_ble_eq_true rfl) (fun x hl0 C T hin => ?_)
  unfold P_Rm_thrown at hr
  show GG x 0 0 h 0 [(0, .ref p0)] []
  refine g_aload_n C 0 rfl d_Rm_thrown_0 rfl ?_
  obtain ⟨v1, ev1, hr⟩ := of_bnd hr
  refine g_getI C fl_Rm_264 ev1 d_Rm_thrown_1 ?_
  cases hr
  exact g_ireturn C T rfl (by decide) (by decide) d_Rm_thrown_4
abbrev b_Rm_fail : ByteArray := prog_12_method_3_code
abbrev y_Rm_fail : MethodName := ⟨"PrimeKeysModel", "fail", "(I)I"⟩
theorem d_Rm_fail_0 : decode b_Rm_fail 0 = .ok (.aload_n 0, 1) := by decide +kernel
theorem d_Rm_fail_1 : decode b_Rm_fail 1 = .ok (.iload_n 1, 1) := by decide +kernel
theorem d_Rm_fail_2 : decode b_Rm_fail 2 = .ok (.putfield 264, 3) := by decide +kernel
theorem d_Rm_fail_5 : decode b_Rm_fail 5 = .ok (.iconst 0, 1) := by decide +kernel
theorem d_Rm_fail_6 : decode b_Rm_fail 6 = .ok (.ireturn, 1) := by decide +kernel
theorem fp_Rm_264 : FP "PrimeKeysModel" 264 8 0 .int false := ⟨R_Rm, F_Rm, 50, t_Rm, rfl, u_Rm, by decide, rfl, tb_4 (List.mem_of_getElem? (i := 154) (by decide +kernel)) rfl, t_Rm_ok, n_Rm, rfl, by decide +kernel⟩
abbrev rm_Rm_fail : Room := { frames := 0, cells := 0, slots := 0, locals := 0 }
def P_Rm_fail (h : HP) (p0 : Nat) (p1 : Int32) : Option (Int32 × HP) :=
  bnd (pV h p0 8 0 (.int p1)) fun h1 =>
  some (0, h1)
set_option maxHeartbeats 4000000 in
set_option maxRecDepth 100000 in
theorem c_Rm_fail {l : Launch} {h h' : HP} {p0 p1 : _} {r' : Int32} (hr : P_Rm_fail h p0 p1 = some (r', h')) : MP l y_Rm_fail (Cond.code y_Rm_fail b_Rm_fail 2 (some .int) :: TB) rm_Rm_fail h [.ref p0, .int p1] (some (.int r')) h' := by
  refine MP_intro (cc := b_Rm_fail) (by decide) (Nat.le_of_ble_eq_true rfl) (fun x hl0 C T hin => ?_)
  unfold P_Rm_fail at hr
  show GG x 0 0 h 0 [(0, .ref p0), (1, .int p1)] []
  refine g_aload_n C 0 rfl d_Rm_fail_0 rfl ?_
  refine g_iload_n C 1 rfl d_Rm_fail_1 rfl ?_
  obtain ⟨h1, eh1, hr⟩ := of_bnd hr
  refine g_putI C fp_Rm_264 eh1 d_Rm_fail_2 ?_
  refine g_iconst (v := 0) C d_Rm_fail_5 (by decide) ?_
  cases hr
  exact g_ireturn C T rfl (by decide) (by decide) d_Rm_fail_6
abbrev b_Rm_copy : ByteArray := prog_12_method_4_code
abbrev y_Rm_copy : MethodName := ⟨"PrimeKeysModel", "copy", "([J[J)V"⟩
theorem d_Rm_copy_0 : decode b_Rm_copy 0 = .ok (.iconst 0, 1) := by decide +kernel
theorem d_Rm_copy_1 : decode b_Rm_copy 1 = .ok (.istore_n 2, 1) := by decide +kernel
theorem d_Rm_copy_2 : decode b_Rm_copy 2 = .ok (.iload_n 2, 1) := by decide +kernel
theorem d_Rm_copy_3 : decode b_Rm_copy 3 = .ok (.bipush 16, 2) := by decide +kernel
theorem d_Rm_copy_5 : decode b_Rm_copy 5 = .ok (.if_icmp .ge 15, 3) := by decide +kernel
theorem d_Rm_copy_8 : decode b_Rm_copy 8 = .ok (.aload_n 0, 1) := by decide +kernel
theorem d_Rm_copy_9 : decode b_Rm_copy 9 = .ok (.iload_n 2, 1) := by decide +kernel
theorem d_Rm_copy_10 : decode b_Rm_copy 10 = .ok (.aload_n 1, 1) := by decide +kernel
theorem d_Rm_copy_11 : decode b_Rm_copy 11 = .ok (.iload_n 2, 1) := by decide +kernel
theorem d_Rm_copy_12 : decode b_Rm_copy 12 = .ok (.laload, 1) := by decide +kernel
theorem d_Rm_copy_13 : decode b_Rm_copy 13 = .ok (.lastore, 1) := by decide +kernel
theorem d_Rm_copy_14 : decode b_Rm_copy 14 = .ok (.iinc 2 1, 3) := by decide +kernel
theorem d_Rm_copy_17 : decode b_Rm_copy 17 = .ok (.goto (-15), 3) := by decide +kernel
theorem d_Rm_copy_20 : decode b_Rm_copy 20 = .ok (.return_, 1) := by decide +kernel
abbrev rm_Rm_copy : Room := { frames := 0, cells := 0, slots := 0, locals := 0 }
def B_Rm_copy_2 (K2 : HP → Nat → Nat → Int32 → Option (HP)) (h : HP) (a0 : Nat) (a1 : Nat) (a2 : Int32) : Option (HP) :=
  if 16 ≤ a2 then
  some h
  else
  bnd (ldJ h a1 a2) fun v1 =>
  bnd (stJ h a0 a2 v1) fun h2 =>
  lt (a2 + Int32.ofInt 1) fun x3 =>
  K2 h2 a0 a1 x3
set_option maxHeartbeats 4000000 in
set_option maxRecDepth 100000 in
theorem bk_Rm_copy_2 {l : Launch} {x : CX} {h0 h' : HP} (C : EV x b_Rm_copy "PrimeKeysModel" 3 rm_Rm_copy) (T : CT x (none) rm_Rm_copy h0 none h') (hl0 : x.1.2.1 = l) (K2 : HP → Nat → Nat → Int32 → Option (HP)) (hK2 : ∀ (h : HP) (a0 : Nat) (a1 : Nat) (a2 : Int32), K2 h a0 a1 a2 = some h' → GG x 0 0 h 2 [(0, .ref a0), (1, .ref a1), (2, .int a2)] []) (h : HP) (a0 : Nat) (a1 : Nat) (a2 : Int32) (hr : B_Rm_copy_2 K2 h a0 a1 a2 = some h') : GG x 0 0 h 2 [(0, .ref a0), (1, .ref a1), (2, .int a2)] [] := by
  unfold B_Rm_copy_2 at hr
  refine g_iload_n C 2 rfl d_Rm_copy_2 rfl ?_
  refine g_bipush (v := 16) C d_Rm_copy_3 (by decide) ?_
  refine g_icmp_ge (tgt := 20) C d_Rm_copy_5 (by decide) (fun z => ?_) (fun z => ?_)
  · have hr := of_if z hr
    cases hr
    exact g_vreturn C T (by decide) (by decide) d_Rm_copy_20
  · have hr := of_el z hr
    refine g_aload_n C 0 rfl d_Rm_copy_8 rfl ?_
    refine g_iload_n C 2 rfl d_Rm_copy_9 rfl ?_
    refine g_aload_n C 1 rfl d_Rm_copy_10 rfl ?_
    refine g_iload_n C 2 rfl d_Rm_copy_11 rfl ?_
    obtain ⟨v1, ev1, hr⟩ := of_bnd hr
    refine g_laload C ev1 d_Rm_copy_12 ?_
    obtain ⟨h2, eh2, hr⟩ := of_bnd hr
    refine g_lastore C eh2 d_Rm_copy_13 ?_
    obtain ⟨x3, ex3⟩ : ∃ z, z = a2 + Int32.ofInt 1 := ⟨_, rfl⟩
    have hr := of_lt ex3 hr
    refine g_iinc (lv' := [(2, .int x3), (0, .ref a0), (1, .ref a1)]) C 2 rfl d_Rm_copy_14 ex3.symm (by decide) rfl ?_
    refine g_goto (tgt := 2) C d_Rm_copy_17 (by decide) ?_
    refine g_lv [1, 2, 0] rfl ?_
    exact hK2 h2 a0 a1 x3 hr
def L_Rm_copy_2 : Nat → HP → Nat → Nat → Int32 → Option (HP)
  | 0, _, _, _, _ => none
  | f + 1, h, a0, a1, a2 => B_Rm_copy_2 (L_Rm_copy_2 f) h a0 a1 a2
theorem lp_Rm_copy_2 {l : Launch} {x : CX} {h0 h' : HP} (C : EV x b_Rm_copy "PrimeKeysModel" 3 rm_Rm_copy) (T : CT x (none) rm_Rm_copy h0 none h') (hl0 : x.1.2.1 = l) : ∀ (f : Nat) (h : HP) (a0 : Nat) (a1 : Nat) (a2 : Int32), L_Rm_copy_2 f h a0 a1 a2 = some h' → GG x 0 0 h 2 [(0, .ref a0), (1, .ref a1), (2, .int a2)] [] := by
  intro f
  induction f with
  | zero => intro h a0 a1 a2 hr; have hr : (none : Option (HP)) = some h' := hr; cases hr
  | succ f ih => intro h a0 a1 a2 hr; exact bk_Rm_copy_2 C T hl0 (L_Rm_copy_2 f) ih h a0 a1 a2 hr
def P_Rm_copy (h : HP) (p0 : Nat) (p1 : Nat) : Option (HP) :=
  L_Rm_copy_2 FU h p0 p1 0
set_option maxHeartbeats 4000000 in
set_option maxRecDepth 100000 in
theorem c_Rm_copy {l : Launch} {h h' : HP} {p0 p1 : _} (hr : P_Rm_copy h p0 p1 = some h') : MP l y_Rm_copy (Cond.code y_Rm_copy b_Rm_copy 3 none :: TB) rm_Rm_copy h [.ref p0, .ref p1] none h' := by
  refine MP_intro (cc := b_Rm_copy) (by decide) (Nat.le_of_ble_eq_true rfl) (fun x hl0 C T hin => ?_)
  unfold P_Rm_copy at hr
  show GG x 0 0 h 0 [(0, .ref p0), (1, .ref p1)] []
  refine g_iconst (v := 0) C d_Rm_copy_0 (by decide) ?_
  refine g_istore_n (lv' := [(2, .int 0), (0, .ref p0), (1, .ref p1)]) C d_Rm_copy_1 rfl (by decide) rfl ?_
  refine g_lv [1, 2, 0] rfl ?_
  exact lp_Rm_copy_2 C T hl0 FU h p0 p1 0 hr
abbrev b_Rm_set : ByteArray := prog_12_method_5_code
abbrev y_Rm_set : MethodName := ⟨"PrimeKeysModel", "set", "([JI)V"⟩
theorem d_Rm_set_0 : decode b_Rm_set 0 = .ok (.iconst 0, 1) := by decide +kernel
theorem d_Rm_set_1 : decode b_Rm_set 1 = .ok (.istore_n 2, 1) := by decide +kernel
theorem d_Rm_set_2 : decode b_Rm_set 2 = .ok (.iload_n 2, 1) := by decide +kernel
theorem d_Rm_set_3 : decode b_Rm_set 3 = .ok (.bipush 16, 2) := by decide +kernel
theorem d_Rm_set_5 : decode b_Rm_set 5 = .ok (.if_icmp .ge 22, 3) := by decide +kernel
theorem d_Rm_set_8 : decode b_Rm_set 8 = .ok (.aload_n 0, 1) := by decide +kernel
theorem d_Rm_set_9 : decode b_Rm_set 9 = .ok (.iload_n 2, 1) := by decide +kernel
theorem d_Rm_set_10 : decode b_Rm_set 10 = .ok (.iload_n 2, 1) := by decide +kernel
theorem d_Rm_set_11 : decode b_Rm_set 11 = .ok (.ifCond .ne 8, 3) := by decide +kernel
theorem d_Rm_set_14 : decode b_Rm_set 14 = .ok (.iload_n 1, 1) := by decide +kernel
theorem d_Rm_set_15 : decode b_Rm_set 15 = .ok (.i2l, 1) := by decide +kernel
theorem d_Rm_set_16 : decode b_Rm_set 16 = .ok (.goto 4, 3) := by decide +kernel
theorem d_Rm_set_19 : decode b_Rm_set 19 = .ok (.lconst 0, 1) := by decide +kernel
theorem d_Rm_set_20 : decode b_Rm_set 20 = .ok (.lastore, 1) := by decide +kernel
theorem d_Rm_set_21 : decode b_Rm_set 21 = .ok (.iinc 2 1, 3) := by decide +kernel
theorem d_Rm_set_24 : decode b_Rm_set 24 = .ok (.goto (-22), 3) := by decide +kernel
theorem d_Rm_set_27 : decode b_Rm_set 27 = .ok (.return_, 1) := by decide +kernel
abbrev rm_Rm_set : Room := { frames := 0, cells := 0, slots := 0, locals := 0 }
def B_Rm_set_2 (K2 : HP → Nat → Int32 → Int32 → Option (HP)) (h : HP) (a0 : Nat) (a1 : Int32) (a2 : Int32) : Option (HP) :=
  if 16 ≤ a2 then
  some h
  else
  if a2 = 0 then
  bnd (stJ h a0 a2 (Int32.toInt64 a1)) fun h3 =>
  lt (a2 + Int32.ofInt 1) fun x4 =>
  K2 h3 a0 a1 x4
  else
  bnd (stJ h a0 a2 0) fun h1 =>
  lt (a2 + Int32.ofInt 1) fun x2 =>
  K2 h1 a0 a1 x2
set_option maxHeartbeats 4000000 in
set_option maxRecDepth 100000 in
theorem bk_Rm_set_2 {l : Launch} {x : CX} {h0 h' : HP} (C : EV x b_Rm_set "PrimeKeysModel" 3 rm_Rm_set) (T : CT x (none) rm_Rm_set h0 none h') (hl0 : x.1.2.1 = l) (K2 : HP → Nat → Int32 → Int32 → Option (HP)) (hK2 : ∀ (h : HP) (a0 : Nat) (a1 : Int32) (a2 : Int32), K2 h a0 a1 a2 = some h' → GG x 0 0 h 2 [(0, .ref a0), (1, .int a1), (2, .int a2)] []) (h : HP) (a0 : Nat) (a1 : Int32) (a2 : Int32) (hr : B_Rm_set_2 K2 h a0 a1 a2 = some h') : GG x 0 0 h 2 [(0, .ref a0), (1, .int a1), (2, .int a2)] [] := by
  unfold B_Rm_set_2 at hr
  refine g_iload_n C 2 rfl d_Rm_set_2 rfl ?_
  refine g_bipush (v := 16) C d_Rm_set_3 (by decide) ?_
  refine g_icmp_ge (tgt := 27) C d_Rm_set_5 (by decide) (fun z => ?_) (fun z => ?_)
  · have hr := of_if z hr
    cases hr
    exact g_vreturn C T (by decide) (by decide) d_Rm_set_27
  · have hr := of_el z hr
    refine g_aload_n C 0 rfl d_Rm_set_8 rfl ?_
    refine g_iload_n C 2 rfl d_Rm_set_9 rfl ?_
    refine g_iload_n C 2 rfl d_Rm_set_10 rfl ?_
    refine g_if_ne (tgt := 19) C d_Rm_set_11 (by decide) (fun z => ?_) (fun z => ?_)
    · have hr := of_el z hr
      refine g_lconst (v := 0) C d_Rm_set_19 (by decide) ?_
      obtain ⟨h1, eh1, hr⟩ := of_bnd hr
      refine g_lastore C eh1 d_Rm_set_20 ?_
      obtain ⟨x2, ex2⟩ : ∃ z, z = a2 + Int32.ofInt 1 := ⟨_, rfl⟩
      have hr := of_lt ex2 hr
      refine g_iinc (lv' := [(2, .int x2), (0, .ref a0), (1, .int a1)]) C 2 rfl d_Rm_set_21 ex2.symm (by decide) rfl ?_
      refine g_goto (tgt := 2) C d_Rm_set_24 (by decide) ?_
      refine g_lv [1, 2, 0] rfl ?_
      exact hK2 h1 a0 a1 x2 hr
    · have hr := of_if z hr
      refine g_iload_n C 1 rfl d_Rm_set_14 rfl ?_
      refine g_i2l C d_Rm_set_15 ?_
      refine g_goto (tgt := 20) C d_Rm_set_16 (by decide) ?_
      obtain ⟨h3, eh3, hr⟩ := of_bnd hr
      refine g_lastore C eh3 d_Rm_set_20 ?_
      obtain ⟨x4, ex4⟩ : ∃ z, z = a2 + Int32.ofInt 1 := ⟨_, rfl⟩
      have hr := of_lt ex4 hr
      refine g_iinc (lv' := [(2, .int x4), (0, .ref a0), (1, .int a1)]) C 2 rfl d_Rm_set_21 ex4.symm (by decide) rfl ?_
      refine g_goto (tgt := 2) C d_Rm_set_24 (by decide) ?_
      refine g_lv [1, 2, 0] rfl ?_
      exact hK2 h3 a0 a1 x4 hr
def L_Rm_set_2 : Nat → HP → Nat → Int32 → Int32 → Option (HP)
  | 0, _, _, _, _ => none
  | f + 1, h, a0, a1, a2 => B_Rm_set_2 (L_Rm_set_2 f) h a0 a1 a2
theorem lp_Rm_set_2 {l : Launch} {x : CX} {h0 h' : HP} (C : EV x b_Rm_set "PrimeKeysModel" 3 rm_Rm_set) (T : CT x (none) rm_Rm_set h0 none h') (hl0 : x.1.2.1 = l) : ∀ (f : Nat) (h : HP) (a0 : Nat) (a1 : Int32) (a2 : Int32), L_Rm_set_2 f h a0 a1 a2 = some h' → GG x 0 0 h 2 [(0, .ref a0), (1, .int a1), (2, .int a2)] [] := by
  intro f
  induction f with
  | zero => intro h a0 a1 a2 hr; have hr : (none : Option (HP)) = some h' := hr; cases hr
  | succ f ih => intro h a0 a1 a2 hr; exact bk_Rm_set_2 C T hl0 (L_Rm_set_2 f) ih h a0 a1 a2 hr
def P_Rm_set (h : HP) (p0 : Nat) (p1 : Int32) : Option (HP) :=
  L_Rm_set_2 FU h p0 p1 0
set_option maxHeartbeats 4000000 in
set_option maxRecDepth 100000 in
theorem c_Rm_set {l : Launch} {h h' : HP} {p0 p1 : _} (hr : P_Rm_set h p0 p1 = some h') : MP l y_Rm_set (Cond.code y_Rm_set b_Rm_set 3 none :: TB) rm_Rm_set h [.ref p0, .int p1] none h' := by
  refine MP_intro (cc := b_Rm_set) (by decide) (Nat.le_of_ble_eq_true rfl) (fun x hl0 C T hin => ?_)
  unfold P_Rm_set at hr
  show GG x 0 0 h 0 [(0, .ref p0), (1, .int p1)] []
  refine g_iconst (v := 0) C d_Rm_set_0 (by decide) ?_
  refine g_istore_n (lv' := [(2, .int 0), (0, .ref p0), (1, .int p1)]) C d_Rm_set_1 rfl (by decide) rfl ?_
  refine g_lv [1, 2, 0] rfl ?_
  exact lp_Rm_set_2 C T hl0 FU h p0 p1 0 hr
abbrev b_Rm_zero : ByteArray := prog_12_method_6_code
abbrev y_Rm_zero : MethodName := ⟨"PrimeKeysModel", "zero", "([J)Z"⟩
theorem d_Rm_zero_0 : decode b_Rm_zero 0 = .ok (.iconst 0, 1) := by decide +kernel
theorem d_Rm_zero_1 : decode b_Rm_zero 1 = .ok (.istore_n 1, 1) := by decide +kernel
theorem d_Rm_zero_2 : decode b_Rm_zero 2 = .ok (.iload_n 1, 1) := by decide +kernel
theorem d_Rm_zero_3 : decode b_Rm_zero 3 = .ok (.bipush 16, 2) := by decide +kernel
theorem d_Rm_zero_5 : decode b_Rm_zero 5 = .ok (.if_icmp .ge 19, 3) := by decide +kernel
theorem d_Rm_zero_8 : decode b_Rm_zero 8 = .ok (.aload_n 0, 1) := by decide +kernel
theorem d_Rm_zero_9 : decode b_Rm_zero 9 = .ok (.iload_n 1, 1) := by decide +kernel
theorem d_Rm_zero_10 : decode b_Rm_zero 10 = .ok (.laload, 1) := by decide +kernel
theorem d_Rm_zero_11 : decode b_Rm_zero 11 = .ok (.lconst 0, 1) := by decide +kernel
theorem d_Rm_zero_12 : decode b_Rm_zero 12 = .ok (.lcmp, 1) := by decide +kernel
theorem d_Rm_zero_13 : decode b_Rm_zero 13 = .ok (.ifCond .eq 5, 3) := by decide +kernel
theorem d_Rm_zero_16 : decode b_Rm_zero 16 = .ok (.iconst 0, 1) := by decide +kernel
theorem d_Rm_zero_17 : decode b_Rm_zero 17 = .ok (.ireturn, 1) := by decide +kernel
theorem d_Rm_zero_18 : decode b_Rm_zero 18 = .ok (.iinc 1 1, 3) := by decide +kernel
theorem d_Rm_zero_21 : decode b_Rm_zero 21 = .ok (.goto (-19), 3) := by decide +kernel
theorem d_Rm_zero_24 : decode b_Rm_zero 24 = .ok (.iconst 1, 1) := by decide +kernel
theorem d_Rm_zero_25 : decode b_Rm_zero 25 = .ok (.ireturn, 1) := by decide +kernel
abbrev rm_Rm_zero : Room := { frames := 0, cells := 0, slots := 0, locals := 0 }
def B_Rm_zero_2 (K2 : HP → Nat → Int32 → Option (Int32 × HP)) (h : HP) (a0 : Nat) (a1 : Int32) : Option (Int32 × HP) :=
  if 16 ≤ a1 then
  some (1, h)
  else
  bnd (ldJ h a0 a1) fun v1 =>
  if lg_cmp v1 0 = 0 then
  lt (a1 + Int32.ofInt 1) fun x2 =>
  K2 h a0 x2
  else
  some (0, h)
set_option maxHeartbeats 4000000 in
set_option maxRecDepth 100000 in
theorem bk_Rm_zero_2 {l : Launch} {x : CX} {h0 h' : HP} {r' : Int32} (C : EV x b_Rm_zero "PrimeKeysModel" 2 rm_Rm_zero) (T : CT x (some .boolean) rm_Rm_zero h0 (some (.int r')) h') (hl0 : x.1.2.1 = l) (K2 : HP → Nat → Int32 → Option (Int32 × HP)) (hK2 : ∀ (h : HP) (a0 : Nat) (a1 : Int32), K2 h a0 a1 = some (r', h') → GG x 0 0 h 2 [(0, .ref a0), (1, .int a1)] []) (h : HP) (a0 : Nat) (a1 : Int32) (hr : B_Rm_zero_2 K2 h a0 a1 = some (r', h')) : GG x 0 0 h 2 [(0, .ref a0), (1, .int a1)] [] := by
  unfold B_Rm_zero_2 at hr
  refine g_iload_n C 1 rfl d_Rm_zero_2 rfl ?_
  refine g_bipush (v := 16) C d_Rm_zero_3 (by decide) ?_
  refine g_icmp_ge (tgt := 24) C d_Rm_zero_5 (by decide) (fun z => ?_) (fun z => ?_)
  · have hr := of_if z hr
    refine g_iconst (v := 1) C d_Rm_zero_24 (by decide) ?_
    cases hr
    exact g_ireturn C T rfl (by decide) (by decide) d_Rm_zero_25
  · have hr := of_el z hr
    refine g_aload_n C 0 rfl d_Rm_zero_8 rfl ?_
    refine g_iload_n C 1 rfl d_Rm_zero_9 rfl ?_
    obtain ⟨v1, ev1, hr⟩ := of_bnd hr
    refine g_laload C ev1 d_Rm_zero_10 ?_
    refine g_lconst (v := 0) C d_Rm_zero_11 (by decide) ?_
    refine g_lcmp C d_Rm_zero_12 ?_
    refine g_if_eq (tgt := 18) C d_Rm_zero_13 (by decide) (fun z => ?_) (fun z => ?_)
    · have hr := of_if z hr
      obtain ⟨x2, ex2⟩ : ∃ z, z = a1 + Int32.ofInt 1 := ⟨_, rfl⟩
      have hr := of_lt ex2 hr
      refine g_iinc (lv' := [(1, .int x2), (0, .ref a0)]) C 1 rfl d_Rm_zero_18 ex2.symm (by decide) rfl ?_
      refine g_goto (tgt := 2) C d_Rm_zero_21 (by decide) ?_
      refine g_lv [1, 0] rfl ?_
      exact hK2 h a0 x2 hr
    · have hr := of_el z hr
      refine g_iconst (v := 0) C d_Rm_zero_16 (by decide) ?_
      cases hr
      exact g_ireturn C T rfl (by decide) (by decide) d_Rm_zero_17
def L_Rm_zero_2 : Nat → HP → Nat → Int32 → Option (Int32 × HP)
  | 0, _, _, _ => none
  | f + 1, h, a0, a1 => B_Rm_zero_2 (L_Rm_zero_2 f) h a0 a1
theorem lp_Rm_zero_2 {l : Launch} {x : CX} {h0 h' : HP} {r' : Int32} (C : EV x b_Rm_zero "PrimeKeysModel" 2 rm_Rm_zero) (T : CT x (some .boolean) rm_Rm_zero h0 (some (.int r')) h') (hl0 : x.1.2.1 = l) : ∀ (f : Nat) (h : HP) (a0 : Nat) (a1 : Int32), L_Rm_zero_2 f h a0 a1 = some (r', h') → GG x 0 0 h 2 [(0, .ref a0), (1, .int a1)] [] := by
  intro f
  induction f with
  | zero => intro h a0 a1 hr; have hr : (none : Option (Int32 × HP)) = some (r', h') := hr; cases hr
  | succ f ih => intro h a0 a1 hr; exact bk_Rm_zero_2 C T hl0 (L_Rm_zero_2 f) ih h a0 a1 hr
def P_Rm_zero (h : HP) (p0 : Nat) : Option (Int32 × HP) :=
  L_Rm_zero_2 FU h p0 0
set_option maxHeartbeats 4000000 in
set_option maxRecDepth 100000 in
theorem c_Rm_zero {l : Launch} {h h' : HP} {p0 : _} {r' : Int32} (hr : P_Rm_zero h p0 = some (r', h')) : MP l y_Rm_zero (Cond.code y_Rm_zero b_Rm_zero 2 (some .boolean) :: TB) rm_Rm_zero h [.ref p0] (some (.int r')) h' := by
  refine MP_intro (cc := b_Rm_zero) (by decide) (Nat.le_of_ble_eq_true rfl) (fun x hl0 C T hin => ?_)
  unfold P_Rm_zero at hr
  show GG x 0 0 h 0 [(0, .ref p0)] []
  refine g_iconst (v := 0) C d_Rm_zero_0 (by decide) ?_
  refine g_istore_n (lv' := [(1, .int 0), (0, .ref p0)]) C d_Rm_zero_1 rfl (by decide) rfl ?_
  refine g_lv [1, 0] rfl ?_
  exact lp_Rm_zero_2 C T hl0 FU h p0 0 hr
abbrev b_Rm_below : ByteArray := prog_12_method_7_code
abbrev y_Rm_below : MethodName := ⟨"PrimeKeysModel", "below", "([J[J)Z"⟩
theorem d_Rm_below_0 : decode b_Rm_below 0 = .ok (.bipush 15, 2) := by decide +kernel
theorem d_Rm_below_2 : decode b_Rm_below 2 = .ok (.istore_n 2, 1) := by decide +kernel
theorem d_Rm_below_3 : decode b_Rm_below 3 = .ok (.iload_n 2, 1) := by decide +kernel
theorem d_Rm_below_4 : decode b_Rm_below 4 = .ok (.ifCond .lt 35, 3) := by decide +kernel
theorem d_Rm_below_7 : decode b_Rm_below 7 = .ok (.aload_n 0, 1) := by decide +kernel
theorem d_Rm_below_8 : decode b_Rm_below 8 = .ok (.iload_n 2, 1) := by decide +kernel
theorem d_Rm_below_9 : decode b_Rm_below 9 = .ok (.laload, 1) := by decide +kernel
theorem d_Rm_below_10 : decode b_Rm_below 10 = .ok (.aload_n 1, 1) := by decide +kernel
theorem d_Rm_below_11 : decode b_Rm_below 11 = .ok (.iload_n 2, 1) := by decide +kernel
theorem d_Rm_below_12 : decode b_Rm_below 12 = .ok (.laload, 1) := by decide +kernel
theorem d_Rm_below_13 : decode b_Rm_below 13 = .ok (.lcmp, 1) := by decide +kernel
theorem d_Rm_below_14 : decode b_Rm_below 14 = .ok (.ifCond .eq 19, 3) := by decide +kernel
theorem d_Rm_below_17 : decode b_Rm_below 17 = .ok (.aload_n 0, 1) := by decide +kernel
theorem d_Rm_below_18 : decode b_Rm_below 18 = .ok (.iload_n 2, 1) := by decide +kernel
theorem d_Rm_below_19 : decode b_Rm_below 19 = .ok (.laload, 1) := by decide +kernel
theorem d_Rm_below_20 : decode b_Rm_below 20 = .ok (.aload_n 1, 1) := by decide +kernel
theorem d_Rm_below_21 : decode b_Rm_below 21 = .ok (.iload_n 2, 1) := by decide +kernel
theorem d_Rm_below_22 : decode b_Rm_below 22 = .ok (.laload, 1) := by decide +kernel
theorem d_Rm_below_23 : decode b_Rm_below 23 = .ok (.lcmp, 1) := by decide +kernel
theorem d_Rm_below_24 : decode b_Rm_below 24 = .ok (.ifCond .ge 7, 3) := by decide +kernel
theorem d_Rm_below_27 : decode b_Rm_below 27 = .ok (.iconst 1, 1) := by decide +kernel
theorem d_Rm_below_28 : decode b_Rm_below 28 = .ok (.goto 4, 3) := by decide +kernel
theorem d_Rm_below_31 : decode b_Rm_below 31 = .ok (.iconst 0, 1) := by decide +kernel
theorem d_Rm_below_32 : decode b_Rm_below 32 = .ok (.ireturn, 1) := by decide +kernel
theorem d_Rm_below_33 : decode b_Rm_below 33 = .ok (.iinc 2 (-1), 3) := by decide +kernel
theorem d_Rm_below_36 : decode b_Rm_below 36 = .ok (.goto (-33), 3) := by decide +kernel
theorem d_Rm_below_39 : decode b_Rm_below 39 = .ok (.iconst 0, 1) := by decide +kernel
theorem d_Rm_below_40 : decode b_Rm_below 40 = .ok (.ireturn, 1) := by decide +kernel
abbrev rm_Rm_below : Room := { frames := 0, cells := 0, slots := 0, locals := 0 }
def B_Rm_below_3 (K3 : HP → Nat → Nat → Int32 → Option (Int32 × HP)) (h : HP) (a0 : Nat) (a1 : Nat) (a2 : Int32) : Option (Int32 × HP) :=
  if a2 < 0 then
  some (0, h)
  else
  bnd (ldJ h a0 a2) fun v1 =>
  bnd (ldJ h a1 a2) fun v2 =>
  if lg_cmp v1 v2 = 0 then
  lt (a2 + Int32.ofInt (-1)) fun x3 =>
  K3 h a0 a1 x3
  else
  bnd (ldJ h a0 a2) fun v4 =>
  bnd (ldJ h a1 a2) fun v5 =>
  if 0 ≤ lg_cmp v4 v5 then
  some (0, h)
  else
  some (1, h)
set_option maxHeartbeats 4000000 in
set_option maxRecDepth 100000 in
theorem bk_Rm_below_3 {l : Launch} {x : CX} {h0 h' : HP} {r' : Int32} (C : EV x b_Rm_below "PrimeKeysModel" 3 rm_Rm_below) (T : CT x (some .boolean) rm_Rm_below h0 (some (.int r')) h') (hl0 : x.1.2.1 = l) (K3 : HP → Nat → Nat → Int32 → Option (Int32 × HP)) (hK3 : ∀ (h : HP) (a0 : Nat) (a1 : Nat) (a2 : Int32), K3 h a0 a1 a2 = some (r', h') → GG x 0 0 h 3 [(0, .ref a0), (1, .ref a1), (2, .int a2)] []) (h : HP) (a0 : Nat) (a1 : Nat) (a2 : Int32) (hr : B_Rm_below_3 K3 h a0 a1 a2 = some (r', h')) : GG x 0 0 h 3 [(0, .ref a0), (1, .ref a1), (2, .int a2)] [] := by
  unfold B_Rm_below_3 at hr
  refine g_iload_n C 2 rfl d_Rm_below_3 rfl ?_
  refine g_if_lt (tgt := 39) C d_Rm_below_4 (by decide) (fun z => ?_) (fun z => ?_)
  · have hr := of_if z hr
    refine g_iconst (v := 0) C d_Rm_below_39 (by decide) ?_
    cases hr
    exact g_ireturn C T rfl (by decide) (by decide) d_Rm_below_40
  · have hr := of_el z hr
    refine g_aload_n C 0 rfl d_Rm_below_7 rfl ?_
    refine g_iload_n C 2 rfl d_Rm_below_8 rfl ?_
    obtain ⟨v1, ev1, hr⟩ := of_bnd hr
    refine g_laload C ev1 d_Rm_below_9 ?_
    refine g_aload_n C 1 rfl d_Rm_below_10 rfl ?_
    refine g_iload_n C 2 rfl d_Rm_below_11 rfl ?_
    obtain ⟨v2, ev2, hr⟩ := of_bnd hr
    refine g_laload C ev2 d_Rm_below_12 ?_
    refine g_lcmp C d_Rm_below_13 ?_
    refine g_if_eq (tgt := 33) C d_Rm_below_14 (by decide) (fun z => ?_) (fun z => ?_)
    · have hr := of_if z hr
      obtain ⟨x3, ex3⟩ : ∃ z, z = a2 + Int32.ofInt (-1) := ⟨_, rfl⟩
      have hr := of_lt ex3 hr
      refine g_iinc (lv' := [(2, .int x3), (0, .ref a0), (1, .ref a1)]) C 2 rfl d_Rm_below_33 ex3.symm (by decide) rfl ?_
      refine g_goto (tgt := 3) C d_Rm_below_36 (by decide) ?_
      refine g_lv [1, 2, 0] rfl ?_
      exact hK3 h a0 a1 x3 hr
    · have hr := of_el z hr
      refine g_aload_n C 0 rfl d_Rm_below_17 rfl ?_
      refine g_iload_n C 2 rfl d_Rm_below_18 rfl ?_
      obtain ⟨v4, ev4, hr⟩ := of_bnd hr
      refine g_laload C ev4 d_Rm_below_19 ?_
      refine g_aload_n C 1 rfl d_Rm_below_20 rfl ?_
      refine g_iload_n C 2 rfl d_Rm_below_21 rfl ?_
      obtain ⟨v5, ev5, hr⟩ := of_bnd hr
      refine g_laload C ev5 d_Rm_below_22 ?_
      refine g_lcmp C d_Rm_below_23 ?_
      refine g_if_ge (tgt := 31) C d_Rm_below_24 (by decide) (fun z => ?_) (fun z => ?_)
      · have hr := of_if z hr
        refine g_iconst (v := 0) C d_Rm_below_31 (by decide) ?_
        cases hr
        exact g_ireturn C T rfl (by decide) (by decide) d_Rm_below_32
      · have hr := of_el z hr
        refine g_iconst (v := 1) C d_Rm_below_27 (by decide) ?_
        refine g_goto (tgt := 32) C d_Rm_below_28 (by decide) ?_
        cases hr
        exact g_ireturn C T rfl (by decide) (by decide) d_Rm_below_32
def L_Rm_below_3 : Nat → HP → Nat → Nat → Int32 → Option (Int32 × HP)
  | 0, _, _, _, _ => none
  | f + 1, h, a0, a1, a2 => B_Rm_below_3 (L_Rm_below_3 f) h a0 a1 a2
theorem lp_Rm_below_3 {l : Launch} {x : CX} {h0 h' : HP} {r' : Int32} (C : EV x b_Rm_below "PrimeKeysModel" 3 rm_Rm_below) (T : CT x (some .boolean) rm_Rm_below h0 (some (.int r')) h') (hl0 : x.1.2.1 = l) : ∀ (f : Nat) (h : HP) (a0 : Nat) (a1 : Nat) (a2 : Int32), L_Rm_below_3 f h a0 a1 a2 = some (r', h') → GG x 0 0 h 3 [(0, .ref a0), (1, .ref a1), (2, .int a2)] [] := by
  intro f
  induction f with
  | zero => intro h a0 a1 a2 hr; have hr : (none : Option (Int32 × HP)) = some (r', h') := hr; cases hr
  | succ f ih => intro h a0 a1 a2 hr; exact bk_Rm_below_3 C T hl0 (L_Rm_below_3 f) ih h a0 a1 a2 hr
def P_Rm_below (h : HP) (p0 : Nat) (p1 : Nat) : Option (Int32 × HP) :=
  L_Rm_below_3 FU h p0 p1 15
set_option maxHeartbeats 4000000 in
set_option maxRecDepth 100000 in
theorem c_Rm_below {l : Launch} {h h' : HP} {p0 p1 : _} {r' : Int32} (hr : P_Rm_below h p0 p1 = some (r', h')) : MP l y_Rm_below (Cond.code y_Rm_below b_Rm_below 3 (some .boolean) :: TB) rm_Rm_below h [.ref p0, .ref p1] (some (.int r')) h' := by
  refine MP_intro (cc := b_Rm_below) (by decide) (Nat.le_of_ble_eq_true rfl) (fun x hl0 C T hin => ?_)
  unfold P_Rm_below at hr
  show GG x 0 0 h 0 [(0, .ref p0), (1, .ref p1)] []
  refine g_bipush (v := 15) C d_Rm_below_0 (by decide) ?_
  refine g_istore_n (lv' := [(2, .int 15), (0, .ref p0), (1, .ref p1)]) C d_Rm_below_2 rfl (by decide) rfl ?_
  refine g_lv [1, 2, 0] rfl ?_
  exact lp_Rm_below_3 C T hl0 FU h p0 p1 15 hr
abbrev b_Rm_alike : ByteArray := prog_12_method_8_code
abbrev y_Rm_alike : MethodName := ⟨"PrimeKeysModel", "alike", "([J[J)Z"⟩
theorem d_Rm_alike_0 : decode b_Rm_alike 0 = .ok (.iconst 0, 1) := by decide +kernel
theorem d_Rm_alike_1 : decode b_Rm_alike 1 = .ok (.istore_n 2, 1) := by decide +kernel
theorem d_Rm_alike_2 : decode b_Rm_alike 2 = .ok (.iload_n 2, 1) := by decide +kernel
theorem d_Rm_alike_3 : decode b_Rm_alike 3 = .ok (.bipush 16, 2) := by decide +kernel
theorem d_Rm_alike_5 : decode b_Rm_alike 5 = .ok (.if_icmp .ge 21, 3) := by decide +kernel
theorem d_Rm_alike_8 : decode b_Rm_alike 8 = .ok (.aload_n 0, 1) := by decide +kernel
theorem d_Rm_alike_9 : decode b_Rm_alike 9 = .ok (.iload_n 2, 1) := by decide +kernel
theorem d_Rm_alike_10 : decode b_Rm_alike 10 = .ok (.laload, 1) := by decide +kernel
theorem d_Rm_alike_11 : decode b_Rm_alike 11 = .ok (.aload_n 1, 1) := by decide +kernel
theorem d_Rm_alike_12 : decode b_Rm_alike 12 = .ok (.iload_n 2, 1) := by decide +kernel
theorem d_Rm_alike_13 : decode b_Rm_alike 13 = .ok (.laload, 1) := by decide +kernel
theorem d_Rm_alike_14 : decode b_Rm_alike 14 = .ok (.lcmp, 1) := by decide +kernel
theorem d_Rm_alike_15 : decode b_Rm_alike 15 = .ok (.ifCond .eq 5, 3) := by decide +kernel
theorem d_Rm_alike_18 : decode b_Rm_alike 18 = .ok (.iconst 0, 1) := by decide +kernel
theorem d_Rm_alike_19 : decode b_Rm_alike 19 = .ok (.ireturn, 1) := by decide +kernel
theorem d_Rm_alike_20 : decode b_Rm_alike 20 = .ok (.iinc 2 1, 3) := by decide +kernel
theorem d_Rm_alike_23 : decode b_Rm_alike 23 = .ok (.goto (-21), 3) := by decide +kernel
theorem d_Rm_alike_26 : decode b_Rm_alike 26 = .ok (.iconst 1, 1) := by decide +kernel
theorem d_Rm_alike_27 : decode b_Rm_alike 27 = .ok (.ireturn, 1) := by decide +kernel
abbrev rm_Rm_alike : Room := { frames := 0, cells := 0, slots := 0, locals := 0 }
def B_Rm_alike_2 (K2 : HP → Nat → Nat → Int32 → Option (Int32 × HP)) (h : HP) (a0 : Nat) (a1 : Nat) (a2 : Int32) : Option (Int32 × HP) :=
  if 16 ≤ a2 then
  some (1, h)
  else
  bnd (ldJ h a0 a2) fun v1 =>
  bnd (ldJ h a1 a2) fun v2 =>
  if lg_cmp v1 v2 = 0 then
  lt (a2 + Int32.ofInt 1) fun x3 =>
  K2 h a0 a1 x3
  else
  some (0, h)
set_option maxHeartbeats 4000000 in
set_option maxRecDepth 100000 in
theorem bk_Rm_alike_2 {l : Launch} {x : CX} {h0 h' : HP} {r' : Int32} (C : EV x b_Rm_alike "PrimeKeysModel" 3 rm_Rm_alike) (T : CT x (some .boolean) rm_Rm_alike h0 (some (.int r')) h') (hl0 : x.1.2.1 = l) (K2 : HP → Nat → Nat → Int32 → Option (Int32 × HP)) (hK2 : ∀ (h : HP) (a0 : Nat) (a1 : Nat) (a2 : Int32), K2 h a0 a1 a2 = some (r', h') → GG x 0 0 h 2 [(0, .ref a0), (1, .ref a1), (2, .int a2)] []) (h : HP) (a0 : Nat) (a1 : Nat) (a2 : Int32) (hr : B_Rm_alike_2 K2 h a0 a1 a2 = some (r', h')) : GG x 0 0 h 2 [(0, .ref a0), (1, .ref a1), (2, .int a2)] [] := by
  unfold B_Rm_alike_2 at hr
  refine g_iload_n C 2 rfl d_Rm_alike_2 rfl ?_
  refine g_bipush (v := 16) C d_Rm_alike_3 (by decide) ?_
  refine g_icmp_ge (tgt := 26) C d_Rm_alike_5 (by decide) (fun z => ?_) (fun z => ?_)
  · have hr := of_if z hr
    refine g_iconst (v := 1) C d_Rm_alike_26 (by decide) ?_
    cases hr
    exact g_ireturn C T rfl (by decide) (by decide) d_Rm_alike_27
  · have hr := of_el z hr
    refine g_aload_n C 0 rfl d_Rm_alike_8 rfl ?_
    refine g_iload_n C 2 rfl d_Rm_alike_9 rfl ?_
    obtain ⟨v1, ev1, hr⟩ := of_bnd hr
    refine g_laload C ev1 d_Rm_alike_10 ?_
    refine g_aload_n C 1 rfl d_Rm_alike_11 rfl ?_
    refine g_iload_n C 2 rfl d_Rm_alike_12 rfl ?_
    obtain ⟨v2, ev2, hr⟩ := of_bnd hr
    refine g_laload C ev2 d_Rm_alike_13 ?_
    refine g_lcmp C d_Rm_alike_14 ?_
    refine g_if_eq (tgt := 20) C d_Rm_alike_15 (by decide) (fun z => ?_) (fun z => ?_)
    · have hr := of_if z hr
      obtain ⟨x3, ex3⟩ : ∃ z, z = a2 + Int32.ofInt 1 := ⟨_, rfl⟩
      have hr := of_lt ex3 hr
      refine g_iinc (lv' := [(2, .int x3), (0, .ref a0), (1, .ref a1)]) C 2 rfl d_Rm_alike_20 ex3.symm (by decide) rfl ?_
      refine g_goto (tgt := 2) C d_Rm_alike_23 (by decide) ?_
      refine g_lv [1, 2, 0] rfl ?_
      exact hK2 h a0 a1 x3 hr
    · have hr := of_el z hr
      refine g_iconst (v := 0) C d_Rm_alike_18 (by decide) ?_
      cases hr
      exact g_ireturn C T rfl (by decide) (by decide) d_Rm_alike_19
def L_Rm_alike_2 : Nat → HP → Nat → Nat → Int32 → Option (Int32 × HP)
  | 0, _, _, _, _ => none
  | f + 1, h, a0, a1, a2 => B_Rm_alike_2 (L_Rm_alike_2 f) h a0 a1 a2
theorem lp_Rm_alike_2 {l : Launch} {x : CX} {h0 h' : HP} {r' : Int32} (C : EV x b_Rm_alike "PrimeKeysModel" 3 rm_Rm_alike) (T : CT x (some .boolean) rm_Rm_alike h0 (some (.int r')) h') (hl0 : x.1.2.1 = l) : ∀ (f : Nat) (h : HP) (a0 : Nat) (a1 : Nat) (a2 : Int32), L_Rm_alike_2 f h a0 a1 a2 = some (r', h') → GG x 0 0 h 2 [(0, .ref a0), (1, .ref a1), (2, .int a2)] [] := by
  intro f
  induction f with
  | zero => intro h a0 a1 a2 hr; have hr : (none : Option (Int32 × HP)) = some (r', h') := hr; cases hr
  | succ f ih => intro h a0 a1 a2 hr; exact bk_Rm_alike_2 C T hl0 (L_Rm_alike_2 f) ih h a0 a1 a2 hr
def P_Rm_alike (h : HP) (p0 : Nat) (p1 : Nat) : Option (Int32 × HP) :=
  L_Rm_alike_2 FU h p0 p1 0
set_option maxHeartbeats 4000000 in
set_option maxRecDepth 100000 in
theorem c_Rm_alike {l : Launch} {h h' : HP} {p0 p1 : _} {r' : Int32} (hr : P_Rm_alike h p0 p1 = some (r', h')) : MP l y_Rm_alike (Cond.code y_Rm_alike b_Rm_alike 3 (some .boolean) :: TB) rm_Rm_alike h [.ref p0, .ref p1] (some (.int r')) h' := by
  refine MP_intro (cc := b_Rm_alike) (by decide) (Nat.le_of_ble_eq_true rfl) (fun x hl0 C T hin => ?_)
  unfold P_Rm_alike at hr
  show GG x 0 0 h 0 [(0, .ref p0), (1, .ref p1)] []
  refine g_iconst (v := 0) C d_Rm_alike_0 (by decide) ?_
  refine g_istore_n (lv' := [(2, .int 0), (0, .ref p0), (1, .ref p1)]) C d_Rm_alike_1 rfl (by decide) rfl ?_
  refine g_lv [1, 2, 0] rfl ?_
  exact lp_Rm_alike_2 C T hl0 FU h p0 p1 0 hr
abbrev b_Rm_less : ByteArray := prog_12_method_9_code
abbrev y_Rm_less : MethodName := ⟨"PrimeKeysModel", "less", "([J[J[J)V"⟩
theorem d_Rm_less_0 : decode b_Rm_less 0 = .ok (.lconst 0, 1) := by decide +kernel
theorem d_Rm_less_1 : decode b_Rm_less 1 = .ok (.lstore_n 3, 1) := by decide +kernel
theorem d_Rm_less_2 : decode b_Rm_less 2 = .ok (.iconst 0, 1) := by decide +kernel
theorem d_Rm_less_3 : decode b_Rm_less 3 = .ok (.istore 5, 2) := by decide +kernel
theorem d_Rm_less_5 : decode b_Rm_less 5 = .ok (.iload 5, 2) := by decide +kernel
theorem d_Rm_less_7 : decode b_Rm_less 7 = .ok (.bipush 16, 2) := by decide +kernel
theorem d_Rm_less_9 : decode b_Rm_less 9 = .ok (.if_icmp .ge 45, 3) := by decide +kernel
theorem d_Rm_less_12 : decode b_Rm_less 12 = .ok (.aload_n 1, 1) := by decide +kernel
theorem d_Rm_less_13 : decode b_Rm_less 13 = .ok (.iload 5, 2) := by decide +kernel
theorem d_Rm_less_15 : decode b_Rm_less 15 = .ok (.laload, 1) := by decide +kernel
theorem d_Rm_less_16 : decode b_Rm_less 16 = .ok (.aload_n 2, 1) := by decide +kernel
theorem d_Rm_less_17 : decode b_Rm_less 17 = .ok (.iload 5, 2) := by decide +kernel
theorem d_Rm_less_19 : decode b_Rm_less 19 = .ok (.laload, 1) := by decide +kernel
theorem d_Rm_less_20 : decode b_Rm_less 20 = .ok (.lsub, 1) := by decide +kernel
theorem d_Rm_less_21 : decode b_Rm_less 21 = .ok (.lload_n 3, 1) := by decide +kernel
theorem d_Rm_less_22 : decode b_Rm_less 22 = .ok (.lsub, 1) := by decide +kernel
theorem d_Rm_less_23 : decode b_Rm_less 23 = .ok (.lstore 6, 2) := by decide +kernel
theorem d_Rm_less_25 : decode b_Rm_less 25 = .ok (.lload 6, 2) := by decide +kernel
theorem d_Rm_less_27 : decode b_Rm_less 27 = .ok (.lconst 0, 1) := by decide +kernel
theorem d_Rm_less_28 : decode b_Rm_less 28 = .ok (.lcmp, 1) := by decide +kernel
theorem d_Rm_less_29 : decode b_Rm_less 29 = .ok (.ifCond .ge 7, 3) := by decide +kernel
theorem d_Rm_less_32 : decode b_Rm_less 32 = .ok (.lconst 1, 1) := by decide +kernel
theorem d_Rm_less_33 : decode b_Rm_less 33 = .ok (.goto 4, 3) := by decide +kernel
theorem d_Rm_less_36 : decode b_Rm_less 36 = .ok (.lconst 0, 1) := by decide +kernel
theorem d_Rm_less_37 : decode b_Rm_less 37 = .ok (.lstore_n 3, 1) := by decide +kernel
theorem d_Rm_less_38 : decode b_Rm_less 38 = .ok (.aload_n 0, 1) := by decide +kernel
theorem d_Rm_less_39 : decode b_Rm_less 39 = .ok (.iload 5, 2) := by decide +kernel
theorem d_Rm_less_41 : decode b_Rm_less 41 = .ok (.lload 6, 2) := by decide +kernel
theorem d_Rm_less_43 : decode b_Rm_less 43 = .ok (.ldc2_w 27, 3) := by decide +kernel
theorem d_Rm_less_46 : decode b_Rm_less 46 = .ok (.land, 1) := by decide +kernel
theorem d_Rm_less_47 : decode b_Rm_less 47 = .ok (.lastore, 1) := by decide +kernel
theorem d_Rm_less_48 : decode b_Rm_less 48 = .ok (.iinc 5 1, 3) := by decide +kernel
theorem d_Rm_less_51 : decode b_Rm_less 51 = .ok (.goto (-46), 3) := by decide +kernel
theorem d_Rm_less_54 : decode b_Rm_less 54 = .ok (.return_, 1) := by decide +kernel
theorem kw_17 : Cond.constantLong "PrimeKeysModel" 27 65535 ∈ TB := tb_4 (List.mem_of_getElem? (i := 61) (by decide +kernel)) rfl
abbrev rm_Rm_less : Room := { frames := 0, cells := 0, slots := 0, locals := 0 }
def B_Rm_less_5 (K5 : HP → Nat → Nat → Nat → Int64 → Int32 → Option (HP)) (h : HP) (a0 : Nat) (a1 : Nat) (a2 : Nat) (a3 : Int64) (a5 : Int32) : Option (HP) :=
  if 16 ≤ a5 then
  some h
  else
  bnd (ldJ h a1 a5) fun v1 =>
  bnd (ldJ h a2 a5) fun v2 =>
  lt ((v1 - v2) - a3) fun x3 =>
  if 0 ≤ lg_cmp x3 0 then
  bnd (stJ h a0 a5 (x3 &&& 65535)) fun h4 =>
  lt (a5 + Int32.ofInt 1) fun x5 =>
  K5 h4 a0 a1 a2 0 x5
  else
  bnd (stJ h a0 a5 (x3 &&& 65535)) fun h6 =>
  lt (a5 + Int32.ofInt 1) fun x7 =>
  K5 h6 a0 a1 a2 1 x7
set_option maxHeartbeats 4000000 in
set_option maxRecDepth 100000 in
theorem bk_Rm_less_5 {l : Launch} {x : CX} {h0 h' : HP} (C : EV x b_Rm_less "PrimeKeysModel" 8 rm_Rm_less) (T : CT x (none) rm_Rm_less h0 none h') (hl0 : x.1.2.1 = l) (K5 : HP → Nat → Nat → Nat → Int64 → Int32 → Option (HP)) (hK5 : ∀ (h : HP) (a0 : Nat) (a1 : Nat) (a2 : Nat) (a3 : Int64) (a5 : Int32), K5 h a0 a1 a2 a3 a5 = some h' → GG x 0 0 h 5 [(0, .ref a0), (1, .ref a1), (2, .ref a2), (3, .long a3), (5, .int a5)] []) (h : HP) (a0 : Nat) (a1 : Nat) (a2 : Nat) (a3 : Int64) (a5 : Int32) (hr : B_Rm_less_5 K5 h a0 a1 a2 a3 a5 = some h') : GG x 0 0 h 5 [(0, .ref a0), (1, .ref a1), (2, .ref a2), (3, .long a3), (5, .int a5)] [] := by
  unfold B_Rm_less_5 at hr
  refine g_iload C 4 rfl d_Rm_less_5 ?_
  refine g_bipush (v := 16) C d_Rm_less_7 (by decide) ?_
  refine g_icmp_ge (tgt := 54) C d_Rm_less_9 (by decide) (fun z => ?_) (fun z => ?_)
  · have hr := of_if z hr
    cases hr
    exact g_vreturn C T (by decide) (by decide) d_Rm_less_54
  · have hr := of_el z hr
    refine g_aload_n C 1 rfl d_Rm_less_12 rfl ?_
    refine g_iload C 4 rfl d_Rm_less_13 ?_
    obtain ⟨v1, ev1, hr⟩ := of_bnd hr
    refine g_laload C ev1 d_Rm_less_15 ?_
    refine g_aload_n C 2 rfl d_Rm_less_16 rfl ?_
    refine g_iload C 4 rfl d_Rm_less_17 ?_
    obtain ⟨v2, ev2, hr⟩ := of_bnd hr
    refine g_laload C ev2 d_Rm_less_19 ?_
    refine g_lsub C d_Rm_less_20 ?_
    refine g_lload_n C 3 rfl d_Rm_less_21 rfl ?_
    refine g_lsub C d_Rm_less_22 ?_
    refine g_topl (fun x3 ex3 => ?_)
    have hr := of_lt ex3 hr
    refine g_lstore (lv' := [(6, .long x3), (0, .ref a0), (1, .ref a1), (2, .ref a2), (3, .long a3), (5, .int a5)]) C d_Rm_less_23 (by decide) rfl ?_
    refine g_lload C 0 rfl d_Rm_less_25 ?_
    refine g_lconst (v := 0) C d_Rm_less_27 (by decide) ?_
    refine g_lcmp C d_Rm_less_28 ?_
    refine g_if_ge (tgt := 36) C d_Rm_less_29 (by decide) (fun z => ?_) (fun z => ?_)
    · have hr := of_if z hr
      refine g_lconst (v := 0) C d_Rm_less_36 (by decide) ?_
      refine g_lstore_n (lv' := [(3, .long 0), (6, .long x3), (0, .ref a0), (1, .ref a1), (2, .ref a2), (5, .int a5)]) C d_Rm_less_37 rfl (by decide) rfl ?_
      refine g_aload_n C 2 rfl d_Rm_less_38 rfl ?_
      refine g_iload C 5 rfl d_Rm_less_39 ?_
      refine g_lload C 1 rfl d_Rm_less_41 ?_
      refine g_ldc2 (v := 65535) C d_Rm_less_43 kw_17 ?_
      refine g_land C d_Rm_less_46 ?_
      obtain ⟨h4, eh4, hr⟩ := of_bnd hr
      refine g_lastore C eh4 d_Rm_less_47 ?_
      obtain ⟨x5, ex5⟩ : ∃ z, z = a5 + Int32.ofInt 1 := ⟨_, rfl⟩
      have hr := of_lt ex5 hr
      refine g_iinc (lv' := [(5, .int x5), (3, .long 0), (6, .long x3), (0, .ref a0), (1, .ref a1), (2, .ref a2)]) C 5 rfl d_Rm_less_48 ex5.symm (by decide) rfl ?_
      refine g_goto (tgt := 5) C d_Rm_less_51 (by decide) ?_
      refine g_lv [3, 4, 5, 1, 0] rfl ?_
      exact hK5 h4 a0 a1 a2 0 x5 hr
    · have hr := of_el z hr
      refine g_lconst (v := 1) C d_Rm_less_32 (by decide) ?_
      refine g_goto (tgt := 37) C d_Rm_less_33 (by decide) ?_
      refine g_lstore_n (lv' := [(3, .long 1), (6, .long x3), (0, .ref a0), (1, .ref a1), (2, .ref a2), (5, .int a5)]) C d_Rm_less_37 rfl (by decide) rfl ?_
      refine g_aload_n C 2 rfl d_Rm_less_38 rfl ?_
      refine g_iload C 5 rfl d_Rm_less_39 ?_
      refine g_lload C 1 rfl d_Rm_less_41 ?_
      refine g_ldc2 (v := 65535) C d_Rm_less_43 kw_17 ?_
      refine g_land C d_Rm_less_46 ?_
      obtain ⟨h6, eh6, hr⟩ := of_bnd hr
      refine g_lastore C eh6 d_Rm_less_47 ?_
      obtain ⟨x7, ex7⟩ : ∃ z, z = a5 + Int32.ofInt 1 := ⟨_, rfl⟩
      have hr := of_lt ex7 hr
      refine g_iinc (lv' := [(5, .int x7), (3, .long 1), (6, .long x3), (0, .ref a0), (1, .ref a1), (2, .ref a2)]) C 5 rfl d_Rm_less_48 ex7.symm (by decide) rfl ?_
      refine g_goto (tgt := 5) C d_Rm_less_51 (by decide) ?_
      refine g_lv [3, 4, 5, 1, 0] rfl ?_
      exact hK5 h6 a0 a1 a2 1 x7 hr
def L_Rm_less_5 : Nat → HP → Nat → Nat → Nat → Int64 → Int32 → Option (HP)
  | 0, _, _, _, _, _, _ => none
  | f + 1, h, a0, a1, a2, a3, a5 => B_Rm_less_5 (L_Rm_less_5 f) h a0 a1 a2 a3 a5
theorem lp_Rm_less_5 {l : Launch} {x : CX} {h0 h' : HP} (C : EV x b_Rm_less "PrimeKeysModel" 8 rm_Rm_less) (T : CT x (none) rm_Rm_less h0 none h') (hl0 : x.1.2.1 = l) : ∀ (f : Nat) (h : HP) (a0 : Nat) (a1 : Nat) (a2 : Nat) (a3 : Int64) (a5 : Int32), L_Rm_less_5 f h a0 a1 a2 a3 a5 = some h' → GG x 0 0 h 5 [(0, .ref a0), (1, .ref a1), (2, .ref a2), (3, .long a3), (5, .int a5)] [] := by
  intro f
  induction f with
  | zero => intro h a0 a1 a2 a3 a5 hr; have hr : (none : Option (HP)) = some h' := hr; cases hr
  | succ f ih => intro h a0 a1 a2 a3 a5 hr; exact bk_Rm_less_5 C T hl0 (L_Rm_less_5 f) ih h a0 a1 a2 a3 a5 hr
def P_Rm_less (h : HP) (p0 : Nat) (p1 : Nat) (p2 : Nat) : Option (HP) :=
  L_Rm_less_5 FU h p0 p1 p2 0 0
set_option maxHeartbeats 4000000 in
set_option maxRecDepth 100000 in
theorem c_Rm_less {l : Launch} {h h' : HP} {p0 p1 p2 : _} (hr : P_Rm_less h p0 p1 p2 = some h') : MP l y_Rm_less (Cond.code y_Rm_less b_Rm_less 8 none :: TB) rm_Rm_less h [.ref p0, .ref p1, .ref p2] none h' := by
  refine MP_intro (cc := b_Rm_less) (by decide) (Nat.le_of_ble_eq_true rfl) (fun x hl0 C T hin => ?_)
  unfold P_Rm_less at hr
  show GG x 0 0 h 0 [(0, .ref p0), (1, .ref p1), (2, .ref p2)] []
  refine g_lconst (v := 0) C d_Rm_less_0 (by decide) ?_
  refine g_lstore_n (lv' := [(3, .long 0), (0, .ref p0), (1, .ref p1), (2, .ref p2)]) C d_Rm_less_1 rfl (by decide) rfl ?_
  refine g_iconst (v := 0) C d_Rm_less_2 (by decide) ?_
  refine g_istore (lv' := [(5, .int 0), (3, .long 0), (0, .ref p0), (1, .ref p1), (2, .ref p2)]) C d_Rm_less_3 (by decide) rfl ?_
  refine g_lv [2, 3, 4, 1, 0] rfl ?_
  exact lp_Rm_less_5 C T hl0 FU h p0 p1 p2 0 0 hr
abbrev b_Rm_plus : ByteArray := prog_12_method_10_code
abbrev y_Rm_plus : MethodName := ⟨"PrimeKeysModel", "plus", "([J[J[J[J)V"⟩
theorem d_Rm_plus_0 : decode b_Rm_plus 0 = .ok (.lconst 0, 1) := by decide +kernel
theorem d_Rm_plus_1 : decode b_Rm_plus 1 = .ok (.lstore 4, 2) := by decide +kernel
theorem d_Rm_plus_3 : decode b_Rm_plus 3 = .ok (.iconst 0, 1) := by decide +kernel
theorem d_Rm_plus_4 : decode b_Rm_plus 4 = .ok (.istore 6, 2) := by decide +kernel
theorem d_Rm_plus_6 : decode b_Rm_plus 6 = .ok (.iload 6, 2) := by decide +kernel
theorem d_Rm_plus_8 : decode b_Rm_plus 8 = .ok (.bipush 16, 2) := by decide +kernel
theorem d_Rm_plus_10 : decode b_Rm_plus 10 = .ok (.if_icmp .ge 40, 3) := by decide +kernel
theorem d_Rm_plus_13 : decode b_Rm_plus 13 = .ok (.lload 4, 2) := by decide +kernel
theorem d_Rm_plus_15 : decode b_Rm_plus 15 = .ok (.aload_n 1, 1) := by decide +kernel
theorem d_Rm_plus_16 : decode b_Rm_plus 16 = .ok (.iload 6, 2) := by decide +kernel
theorem d_Rm_plus_18 : decode b_Rm_plus 18 = .ok (.laload, 1) := by decide +kernel
theorem d_Rm_plus_19 : decode b_Rm_plus 19 = .ok (.aload_n 2, 1) := by decide +kernel
theorem d_Rm_plus_20 : decode b_Rm_plus 20 = .ok (.iload 6, 2) := by decide +kernel
theorem d_Rm_plus_22 : decode b_Rm_plus 22 = .ok (.laload, 1) := by decide +kernel
theorem d_Rm_plus_23 : decode b_Rm_plus 23 = .ok (.ladd, 1) := by decide +kernel
theorem d_Rm_plus_24 : decode b_Rm_plus 24 = .ok (.ladd, 1) := by decide +kernel
theorem d_Rm_plus_25 : decode b_Rm_plus 25 = .ok (.lstore 4, 2) := by decide +kernel
theorem d_Rm_plus_27 : decode b_Rm_plus 27 = .ok (.aload_n 0, 1) := by decide +kernel
theorem d_Rm_plus_28 : decode b_Rm_plus 28 = .ok (.iload 6, 2) := by decide +kernel
theorem d_Rm_plus_30 : decode b_Rm_plus 30 = .ok (.lload 4, 2) := by decide +kernel
theorem d_Rm_plus_32 : decode b_Rm_plus 32 = .ok (.ldc2_w 27, 3) := by decide +kernel
theorem d_Rm_plus_35 : decode b_Rm_plus 35 = .ok (.land, 1) := by decide +kernel
theorem d_Rm_plus_36 : decode b_Rm_plus 36 = .ok (.lastore, 1) := by decide +kernel
theorem d_Rm_plus_37 : decode b_Rm_plus 37 = .ok (.lload 4, 2) := by decide +kernel
theorem d_Rm_plus_39 : decode b_Rm_plus 39 = .ok (.bipush 16, 2) := by decide +kernel
theorem d_Rm_plus_41 : decode b_Rm_plus 41 = .ok (.lshr, 1) := by decide +kernel
theorem d_Rm_plus_42 : decode b_Rm_plus 42 = .ok (.lstore 4, 2) := by decide +kernel
theorem d_Rm_plus_44 : decode b_Rm_plus 44 = .ok (.iinc 6 1, 3) := by decide +kernel
theorem d_Rm_plus_47 : decode b_Rm_plus 47 = .ok (.goto (-41), 3) := by decide +kernel
theorem d_Rm_plus_50 : decode b_Rm_plus 50 = .ok (.lload 4, 2) := by decide +kernel
theorem d_Rm_plus_52 : decode b_Rm_plus 52 = .ok (.lconst 0, 1) := by decide +kernel
theorem d_Rm_plus_53 : decode b_Rm_plus 53 = .ok (.lcmp, 1) := by decide +kernel
theorem d_Rm_plus_54 : decode b_Rm_plus 54 = .ok (.ifCond .gt 11, 3) := by decide +kernel
theorem d_Rm_plus_57 : decode b_Rm_plus 57 = .ok (.aload_n 0, 1) := by decide +kernel
theorem d_Rm_plus_58 : decode b_Rm_plus 58 = .ok (.aload_n 3, 1) := by decide +kernel
theorem d_Rm_plus_59 : decode b_Rm_plus 59 = .ok (.invokestatic 268, 3) := by decide +kernel
theorem d_Rm_plus_62 : decode b_Rm_plus 62 = .ok (.ifCond .ne 9, 3) := by decide +kernel
theorem d_Rm_plus_65 : decode b_Rm_plus 65 = .ok (.aload_n 0, 1) := by decide +kernel
theorem d_Rm_plus_66 : decode b_Rm_plus 66 = .ok (.aload_n 0, 1) := by decide +kernel
theorem d_Rm_plus_67 : decode b_Rm_plus 67 = .ok (.aload_n 3, 1) := by decide +kernel
theorem d_Rm_plus_68 : decode b_Rm_plus 68 = .ok (.invokestatic 272, 3) := by decide +kernel
theorem d_Rm_plus_71 : decode b_Rm_plus 71 = .ok (.return_, 1) := by decide +kernel
theorem cd_Rm_272 : CD "PrimeKeysModel" 272 y_Rm_less b_Rm_less 8 none 3 := ⟨tb_4 (List.mem_of_getElem? (i := 153) rfl) rfl, tb_1 (List.mem_of_getElem? (i := 13) (by decide +kernel)) rfl, tb_4 (List.mem_of_getElem? (i := 151) (by decide +kernel)) rfl, by decide +kernel⟩
theorem kw_st_Rm_less : Cond.static y_Rm_less ∈ TB := tb_4 (List.mem_of_getElem? (i := 152) (by decide +kernel)) rfl
theorem cd_Rm_268 : CD "PrimeKeysModel" 268 y_Rm_below b_Rm_below 3 (some .boolean) 2 := ⟨tb_4 (List.mem_of_getElem? (i := 150) rfl) rfl, tb_1 (List.mem_of_getElem? (i := 13) (by decide +kernel)) rfl, tb_4 (List.mem_of_getElem? (i := 148) (by decide +kernel)) rfl, by decide +kernel⟩
theorem kw_st_Rm_below : Cond.static y_Rm_below ∈ TB := tb_4 (List.mem_of_getElem? (i := 149) (by decide +kernel)) rfl
abbrev rm_Rm_plus : Room := { frames := 1, cells := 0, slots := 0, locals := 27 }
def B_Rm_plus_71 (K6 : HP → Nat → Nat → Nat → Nat → Int64 → Int32 → Option (HP)) (h : HP) : Option (HP) :=
  some h
set_option maxHeartbeats 4000000 in
set_option maxRecDepth 100000 in
theorem bk_Rm_plus_71 {l : Launch} {x : CX} {h0 h' : HP} (C : EV x b_Rm_plus "PrimeKeysModel" 7 rm_Rm_plus) (T : CT x (none) rm_Rm_plus h0 none h') (hl0 : x.1.2.1 = l) (K6 : HP → Nat → Nat → Nat → Nat → Int64 → Int32 → Option (HP)) (hK6 : ∀ (h : HP) (a0 : Nat) (a1 : Nat) (a2 : Nat) (a3 : Nat) (a4 : Int64) (a6 : Int32), K6 h a0 a1 a2 a3 a4 a6 = some h' → GG x 0 0 h 6 [(0, .ref a0), (1, .ref a1), (2, .ref a2), (3, .ref a3), (4, .long a4), (6, .int a6)] []) (h : HP) (hr : B_Rm_plus_71 K6 h = some h') : GG x 0 0 h 71 [] [] := by
  unfold B_Rm_plus_71 at hr
  cases hr
  exact g_vreturn C T (by decide) (by decide) d_Rm_plus_71
def B_Rm_plus_65 (K6 : HP → Nat → Nat → Nat → Nat → Int64 → Int32 → Option (HP)) (h : HP) (a0 : Nat) (a3 : Nat) : Option (HP) :=
  bnd (P_Rm_less h a0 a0 a3) fun h1 =>
  B_Rm_plus_71 K6 h1
set_option maxHeartbeats 4000000 in
set_option maxRecDepth 100000 in
theorem bk_Rm_plus_65 {l : Launch} {x : CX} {h0 h' : HP} (C : EV x b_Rm_plus "PrimeKeysModel" 7 rm_Rm_plus) (T : CT x (none) rm_Rm_plus h0 none h') (hl0 : x.1.2.1 = l) (K6 : HP → Nat → Nat → Nat → Nat → Int64 → Int32 → Option (HP)) (hK6 : ∀ (h : HP) (a0 : Nat) (a1 : Nat) (a2 : Nat) (a3 : Nat) (a4 : Int64) (a6 : Int32), K6 h a0 a1 a2 a3 a4 a6 = some h' → GG x 0 0 h 6 [(0, .ref a0), (1, .ref a1), (2, .ref a2), (3, .ref a3), (4, .long a4), (6, .int a6)] []) (h : HP) (a0 : Nat) (a3 : Nat) (hr : B_Rm_plus_65 K6 h a0 a3 = some h') : GG x 0 0 h 65 [(0, .ref a0), (3, .ref a3)] [] := by
  unfold B_Rm_plus_65 at hr
  refine g_aload_n C 0 rfl d_Rm_plus_65 rfl ?_
  refine g_aload_n C 0 rfl d_Rm_plus_66 rfl ?_
  refine g_aload_n C 1 rfl d_Rm_plus_67 rfl ?_
  obtain ⟨h1, eh1, hr⟩ := of_bnd hr
  refine g_callS (pa := [.ref a0, .ref a0, .ref a3]) C hl0 (c_Rm_less eh1) cd_Rm_272 kw_st_Rm_less (by decide) rfl rfl (Nat.le_of_ble_eq_true rfl) d_Rm_plus_68 ?_
  refine g_lv [] rfl ?_
  exact bk_Rm_plus_71 C T hl0 K6 hK6 h1 hr
def B_Rm_plus_6 (K6 : HP → Nat → Nat → Nat → Nat → Int64 → Int32 → Option (HP)) (h : HP) (a0 : Nat) (a1 : Nat) (a2 : Nat) (a3 : Nat) (a4 : Int64) (a6 : Int32) : Option (HP) :=
  if 16 ≤ a6 then
  if 0 < lg_cmp a4 0 then
  B_Rm_plus_65 K6 h a0 a3
  else
  bnd2 (P_Rm_below h a0 a3) fun v3 h2 =>
  if v3 = 0 then
  B_Rm_plus_65 K6 h2 a0 a3
  else
  B_Rm_plus_71 K6 h2
  else
  bnd (ldJ h a1 a6) fun v4 =>
  bnd (ldJ h a2 a6) fun v5 =>
  lt (a4 + (v4 + v5)) fun x6 =>
  bnd (stJ h a0 a6 (x6 &&& 65535)) fun h7 =>
  lt (x6 >>> (Int32.toInt64 16 &&& 63)) fun x8 =>
  lt (a6 + Int32.ofInt 1) fun x9 =>
  K6 h7 a0 a1 a2 a3 x8 x9
set_option maxHeartbeats 4000000 in
set_option maxRecDepth 100000 in
theorem bk_Rm_plus_6 {l : Launch} {x : CX} {h0 h' : HP} (C : EV x b_Rm_plus "PrimeKeysModel" 7 rm_Rm_plus) (T : CT x (none) rm_Rm_plus h0 none h') (hl0 : x.1.2.1 = l) (K6 : HP → Nat → Nat → Nat → Nat → Int64 → Int32 → Option (HP)) (hK6 : ∀ (h : HP) (a0 : Nat) (a1 : Nat) (a2 : Nat) (a3 : Nat) (a4 : Int64) (a6 : Int32), K6 h a0 a1 a2 a3 a4 a6 = some h' → GG x 0 0 h 6 [(0, .ref a0), (1, .ref a1), (2, .ref a2), (3, .ref a3), (4, .long a4), (6, .int a6)] []) (h : HP) (a0 : Nat) (a1 : Nat) (a2 : Nat) (a3 : Nat) (a4 : Int64) (a6 : Int32) (hr : B_Rm_plus_6 K6 h a0 a1 a2 a3 a4 a6 = some h') : GG x 0 0 h 6 [(0, .ref a0), (1, .ref a1), (2, .ref a2), (3, .ref a3), (4, .long a4), (6, .int a6)] [] := by
  unfold B_Rm_plus_6 at hr
  refine g_iload C 5 rfl d_Rm_plus_6 ?_
  refine g_bipush (v := 16) C d_Rm_plus_8 (by decide) ?_
  refine g_icmp_ge (tgt := 50) C d_Rm_plus_10 (by decide) (fun z => ?_) (fun z => ?_)
  · have hr := of_if z hr
    refine g_lload C 4 rfl d_Rm_plus_50 ?_
    refine g_lconst (v := 0) C d_Rm_plus_52 (by decide) ?_
    refine g_lcmp C d_Rm_plus_53 ?_
    refine g_if_gt (tgt := 65) C d_Rm_plus_54 (by decide) (fun z => ?_) (fun z => ?_)
    · have hr := of_if z hr
      refine g_lv [0, 3] rfl ?_
      exact bk_Rm_plus_65 C T hl0 K6 hK6 h a0 a3 hr
    · have hr := of_el z hr
      refine g_aload_n C 0 rfl d_Rm_plus_57 rfl ?_
      refine g_aload_n C 3 rfl d_Rm_plus_58 rfl ?_
      obtain ⟨v3, h2, eh2, hr⟩ := of_bnd2 hr
      refine g_callS (pa := [.ref a0, .ref a3]) C hl0 (c_Rm_below eh2) cd_Rm_268 kw_st_Rm_below (by decide) rfl rfl (Nat.le_of_ble_eq_true rfl) d_Rm_plus_59 ?_
      refine g_if_ne (tgt := 71) C d_Rm_plus_62 (by decide) (fun z => ?_) (fun z => ?_)
      · have hr := of_el z hr
        refine g_lv [] rfl ?_
        exact bk_Rm_plus_71 C T hl0 K6 hK6 h2 hr
      · have hr := of_if z hr
        refine g_lv [0, 3] rfl ?_
        exact bk_Rm_plus_65 C T hl0 K6 hK6 h2 a0 a3 hr
  · have hr := of_el z hr
    refine g_lload C 4 rfl d_Rm_plus_13 ?_
    refine g_aload_n C 1 rfl d_Rm_plus_15 rfl ?_
    refine g_iload C 5 rfl d_Rm_plus_16 ?_
    obtain ⟨v4, ev4, hr⟩ := of_bnd hr
    refine g_laload C ev4 d_Rm_plus_18 ?_
    refine g_aload_n C 2 rfl d_Rm_plus_19 rfl ?_
    refine g_iload C 5 rfl d_Rm_plus_20 ?_
    obtain ⟨v5, ev5, hr⟩ := of_bnd hr
    refine g_laload C ev5 d_Rm_plus_22 ?_
    refine g_ladd C d_Rm_plus_23 ?_
    refine g_ladd C d_Rm_plus_24 ?_
    refine g_topl (fun x6 ex6 => ?_)
    have hr := of_lt ex6 hr
    refine g_lstore (lv' := [(4, .long x6), (0, .ref a0), (1, .ref a1), (2, .ref a2), (3, .ref a3), (6, .int a6)]) C d_Rm_plus_25 (by decide) rfl ?_
    refine g_aload_n C 1 rfl d_Rm_plus_27 rfl ?_
    refine g_iload C 5 rfl d_Rm_plus_28 ?_
    refine g_lload C 0 rfl d_Rm_plus_30 ?_
    refine g_ldc2 (v := 65535) C d_Rm_plus_32 kw_17 ?_
    refine g_land C d_Rm_plus_35 ?_
    obtain ⟨h7, eh7, hr⟩ := of_bnd hr
    refine g_lastore C eh7 d_Rm_plus_36 ?_
    refine g_lload C 0 rfl d_Rm_plus_37 ?_
    refine g_bipush (v := 16) C d_Rm_plus_39 (by decide) ?_
    refine g_lshr C d_Rm_plus_41 ?_
    refine g_topl (fun x8 ex8 => ?_)
    have hr := of_lt ex8 hr
    refine g_lstore (lv' := [(4, .long x8), (0, .ref a0), (1, .ref a1), (2, .ref a2), (3, .ref a3), (6, .int a6)]) C d_Rm_plus_42 (by decide) rfl ?_
    obtain ⟨x9, ex9⟩ : ∃ z, z = a6 + Int32.ofInt 1 := ⟨_, rfl⟩
    have hr := of_lt ex9 hr
    refine g_iinc (lv' := [(6, .int x9), (4, .long x8), (0, .ref a0), (1, .ref a1), (2, .ref a2), (3, .ref a3)]) C 5 rfl d_Rm_plus_44 ex9.symm (by decide) rfl ?_
    refine g_goto (tgt := 6) C d_Rm_plus_47 (by decide) ?_
    refine g_lv [2, 3, 4, 5, 1, 0] rfl ?_
    exact hK6 h7 a0 a1 a2 a3 x8 x9 hr
def L_Rm_plus_6 : Nat → HP → Nat → Nat → Nat → Nat → Int64 → Int32 → Option (HP)
  | 0, _, _, _, _, _, _, _ => none
  | f + 1, h, a0, a1, a2, a3, a4, a6 => B_Rm_plus_6 (L_Rm_plus_6 f) h a0 a1 a2 a3 a4 a6
theorem lp_Rm_plus_6 {l : Launch} {x : CX} {h0 h' : HP} (C : EV x b_Rm_plus "PrimeKeysModel" 7 rm_Rm_plus) (T : CT x (none) rm_Rm_plus h0 none h') (hl0 : x.1.2.1 = l) : ∀ (f : Nat) (h : HP) (a0 : Nat) (a1 : Nat) (a2 : Nat) (a3 : Nat) (a4 : Int64) (a6 : Int32), L_Rm_plus_6 f h a0 a1 a2 a3 a4 a6 = some h' → GG x 0 0 h 6 [(0, .ref a0), (1, .ref a1), (2, .ref a2), (3, .ref a3), (4, .long a4), (6, .int a6)] [] := by
  intro f
  induction f with
  | zero => intro h a0 a1 a2 a3 a4 a6 hr; have hr : (none : Option (HP)) = some h' := hr; cases hr
  | succ f ih => intro h a0 a1 a2 a3 a4 a6 hr; exact bk_Rm_plus_6 C T hl0 (L_Rm_plus_6 f) ih h a0 a1 a2 a3 a4 a6 hr
def P_Rm_plus (h : HP) (p0 : Nat) (p1 : Nat) (p2 : Nat) (p3 : Nat) : Option (HP) :=
  L_Rm_plus_6 FU h p0 p1 p2 p3 0 0
set_option maxHeartbeats 4000000 in
set_option maxRecDepth 100000 in
theorem c_Rm_plus {l : Launch} {h h' : HP} {p0 p1 p2 p3 : _} (hr : P_Rm_plus h p0 p1 p2 p3 = some h') : MP l y_Rm_plus (Cond.code y_Rm_plus b_Rm_plus 7 none :: TB) rm_Rm_plus h [.ref p0, .ref p1, .ref p2, .ref p3] none h' := by
  refine MP_intro (cc := b_Rm_plus) (by decide) (Nat.le_of_ble_eq_true rfl) (fun x hl0 C T hin => ?_)
  unfold P_Rm_plus at hr
  show GG x 0 0 h 0 [(0, .ref p0), (1, .ref p1), (2, .ref p2), (3, .ref p3)] []
  refine g_lconst (v := 0) C d_Rm_plus_0 (by decide) ?_
  refine g_lstore (lv' := [(4, .long 0), (0, .ref p0), (1, .ref p1), (2, .ref p2), (3, .ref p3)]) C d_Rm_plus_1 (by decide) rfl ?_
  refine g_iconst (v := 0) C d_Rm_plus_3 (by decide) ?_
  refine g_istore (lv' := [(6, .int 0), (4, .long 0), (0, .ref p0), (1, .ref p1), (2, .ref p2), (3, .ref p3)]) C d_Rm_plus_4 (by decide) rfl ?_
  refine g_lv [2, 3, 4, 5, 1, 0] rfl ?_
  exact lp_Rm_plus_6 C T hl0 FU h p0 p1 p2 p3 0 0 hr
abbrev b_Rm_minus : ByteArray := prog_12_method_11_code
abbrev y_Rm_minus : MethodName := ⟨"PrimeKeysModel", "minus", "([J[J[J[J)V"⟩
theorem d_Rm_minus_0 : decode b_Rm_minus 0 = .ok (.lconst 0, 1) := by decide +kernel
theorem d_Rm_minus_1 : decode b_Rm_minus 1 = .ok (.lstore 4, 2) := by decide +kernel
theorem d_Rm_minus_3 : decode b_Rm_minus 3 = .ok (.iconst 0, 1) := by decide +kernel
theorem d_Rm_minus_4 : decode b_Rm_minus 4 = .ok (.istore 6, 2) := by decide +kernel
theorem d_Rm_minus_6 : decode b_Rm_minus 6 = .ok (.iload 6, 2) := by decide +kernel
theorem d_Rm_minus_8 : decode b_Rm_minus 8 = .ok (.bipush 16, 2) := by decide +kernel
theorem d_Rm_minus_10 : decode b_Rm_minus 10 = .ok (.if_icmp .ge 47, 3) := by decide +kernel
theorem d_Rm_minus_13 : decode b_Rm_minus 13 = .ok (.aload_n 1, 1) := by decide +kernel
theorem d_Rm_minus_14 : decode b_Rm_minus 14 = .ok (.iload 6, 2) := by decide +kernel
theorem d_Rm_minus_16 : decode b_Rm_minus 16 = .ok (.laload, 1) := by decide +kernel
theorem d_Rm_minus_17 : decode b_Rm_minus 17 = .ok (.aload_n 2, 1) := by decide +kernel
theorem d_Rm_minus_18 : decode b_Rm_minus 18 = .ok (.iload 6, 2) := by decide +kernel
theorem d_Rm_minus_20 : decode b_Rm_minus 20 = .ok (.laload, 1) := by decide +kernel
theorem d_Rm_minus_21 : decode b_Rm_minus 21 = .ok (.lsub, 1) := by decide +kernel
theorem d_Rm_minus_22 : decode b_Rm_minus 22 = .ok (.lload 4, 2) := by decide +kernel
theorem d_Rm_minus_24 : decode b_Rm_minus 24 = .ok (.lsub, 1) := by decide +kernel
theorem d_Rm_minus_25 : decode b_Rm_minus 25 = .ok (.lstore 7, 2) := by decide +kernel
theorem d_Rm_minus_27 : decode b_Rm_minus 27 = .ok (.lload 7, 2) := by decide +kernel
theorem d_Rm_minus_29 : decode b_Rm_minus 29 = .ok (.lconst 0, 1) := by decide +kernel
theorem d_Rm_minus_30 : decode b_Rm_minus 30 = .ok (.lcmp, 1) := by decide +kernel
theorem d_Rm_minus_31 : decode b_Rm_minus 31 = .ok (.ifCond .ge 7, 3) := by decide +kernel
theorem d_Rm_minus_34 : decode b_Rm_minus 34 = .ok (.lconst 1, 1) := by decide +kernel
theorem d_Rm_minus_35 : decode b_Rm_minus 35 = .ok (.goto 4, 3) := by decide +kernel
theorem d_Rm_minus_38 : decode b_Rm_minus 38 = .ok (.lconst 0, 1) := by decide +kernel
theorem d_Rm_minus_39 : decode b_Rm_minus 39 = .ok (.lstore 4, 2) := by decide +kernel
theorem d_Rm_minus_41 : decode b_Rm_minus 41 = .ok (.aload_n 0, 1) := by decide +kernel
theorem d_Rm_minus_42 : decode b_Rm_minus 42 = .ok (.iload 6, 2) := by decide +kernel
theorem d_Rm_minus_44 : decode b_Rm_minus 44 = .ok (.lload 7, 2) := by decide +kernel
theorem d_Rm_minus_46 : decode b_Rm_minus 46 = .ok (.ldc2_w 27, 3) := by decide +kernel
theorem d_Rm_minus_49 : decode b_Rm_minus 49 = .ok (.land, 1) := by decide +kernel
theorem d_Rm_minus_50 : decode b_Rm_minus 50 = .ok (.lastore, 1) := by decide +kernel
theorem d_Rm_minus_51 : decode b_Rm_minus 51 = .ok (.iinc 6 1, 3) := by decide +kernel
theorem d_Rm_minus_54 : decode b_Rm_minus 54 = .ok (.goto (-48), 3) := by decide +kernel
theorem d_Rm_minus_57 : decode b_Rm_minus 57 = .ok (.lload 4, 2) := by decide +kernel
theorem d_Rm_minus_59 : decode b_Rm_minus 59 = .ok (.lconst 0, 1) := by decide +kernel
theorem d_Rm_minus_60 : decode b_Rm_minus 60 = .ok (.lcmp, 1) := by decide +kernel
theorem d_Rm_minus_61 : decode b_Rm_minus 61 = .ok (.ifCond .ne 4, 3) := by decide +kernel
theorem d_Rm_minus_64 : decode b_Rm_minus 64 = .ok (.return_, 1) := by decide +kernel
theorem d_Rm_minus_65 : decode b_Rm_minus 65 = .ok (.lconst 0, 1) := by decide +kernel
theorem d_Rm_minus_66 : decode b_Rm_minus 66 = .ok (.lstore 6, 2) := by decide +kernel
theorem d_Rm_minus_68 : decode b_Rm_minus 68 = .ok (.iconst 0, 1) := by decide +kernel
theorem d_Rm_minus_69 : decode b_Rm_minus 69 = .ok (.istore 8, 2) := by decide +kernel
theorem d_Rm_minus_71 : decode b_Rm_minus 71 = .ok (.iload 8, 2) := by decide +kernel
theorem d_Rm_minus_73 : decode b_Rm_minus 73 = .ok (.bipush 16, 2) := by decide +kernel
theorem d_Rm_minus_75 : decode b_Rm_minus 75 = .ok (.if_icmp .ge 40, 3) := by decide +kernel
theorem d_Rm_minus_78 : decode b_Rm_minus 78 = .ok (.lload 6, 2) := by decide +kernel
theorem d_Rm_minus_80 : decode b_Rm_minus 80 = .ok (.aload_n 0, 1) := by decide +kernel
theorem d_Rm_minus_81 : decode b_Rm_minus 81 = .ok (.iload 8, 2) := by decide +kernel
theorem d_Rm_minus_83 : decode b_Rm_minus 83 = .ok (.laload, 1) := by decide +kernel
theorem d_Rm_minus_84 : decode b_Rm_minus 84 = .ok (.aload_n 3, 1) := by decide +kernel
theorem d_Rm_minus_85 : decode b_Rm_minus 85 = .ok (.iload 8, 2) := by decide +kernel
theorem d_Rm_minus_87 : decode b_Rm_minus 87 = .ok (.laload, 1) := by decide +kernel
theorem d_Rm_minus_88 : decode b_Rm_minus 88 = .ok (.ladd, 1) := by decide +kernel
theorem d_Rm_minus_89 : decode b_Rm_minus 89 = .ok (.ladd, 1) := by decide +kernel
theorem d_Rm_minus_90 : decode b_Rm_minus 90 = .ok (.lstore 6, 2) := by decide +kernel
theorem d_Rm_minus_92 : decode b_Rm_minus 92 = .ok (.aload_n 0, 1) := by decide +kernel
theorem d_Rm_minus_93 : decode b_Rm_minus 93 = .ok (.iload 8, 2) := by decide +kernel
theorem d_Rm_minus_95 : decode b_Rm_minus 95 = .ok (.lload 6, 2) := by decide +kernel
theorem d_Rm_minus_97 : decode b_Rm_minus 97 = .ok (.ldc2_w 27, 3) := by decide +kernel
theorem d_Rm_minus_100 : decode b_Rm_minus 100 = .ok (.land, 1) := by decide +kernel
theorem d_Rm_minus_101 : decode b_Rm_minus 101 = .ok (.lastore, 1) := by decide +kernel
theorem d_Rm_minus_102 : decode b_Rm_minus 102 = .ok (.lload 6, 2) := by decide +kernel
theorem d_Rm_minus_104 : decode b_Rm_minus 104 = .ok (.bipush 16, 2) := by decide +kernel
theorem d_Rm_minus_106 : decode b_Rm_minus 106 = .ok (.lshr, 1) := by decide +kernel
theorem d_Rm_minus_107 : decode b_Rm_minus 107 = .ok (.lstore 6, 2) := by decide +kernel
theorem d_Rm_minus_109 : decode b_Rm_minus 109 = .ok (.iinc 8 1, 3) := by decide +kernel
theorem d_Rm_minus_112 : decode b_Rm_minus 112 = .ok (.goto (-41), 3) := by decide +kernel
theorem d_Rm_minus_115 : decode b_Rm_minus 115 = .ok (.return_, 1) := by decide +kernel
abbrev rm_Rm_minus : Room := { frames := 0, cells := 0, slots := 0, locals := 0 }
def B_Rm_minus_71 (K6 : HP → Nat → Nat → Nat → Nat → Int64 → Int32 → Option (HP)) (K71 : HP → Nat → Nat → Int64 → Int32 → Option (HP)) (h : HP) (a0 : Nat) (a3 : Nat) (a6 : Int64) (a8 : Int32) : Option (HP) :=
  if 16 ≤ a8 then
  some h
  else
  bnd (ldJ h a0 a8) fun v1 =>
  bnd (ldJ h a3 a8) fun v2 =>
  lt (a6 + (v1 + v2)) fun x3 =>
  bnd (stJ h a0 a8 (x3 &&& 65535)) fun h4 =>
  lt (x3 >>> (Int32.toInt64 16 &&& 63)) fun x5 =>
  lt (a8 + Int32.ofInt 1) fun x6 =>
  K71 h4 a0 a3 x5 x6
set_option maxHeartbeats 4000000 in
set_option maxRecDepth 100000 in
theorem bk_Rm_minus_71 {l : Launch} {x : CX} {h0 h' : HP} (C : EV x b_Rm_minus "PrimeKeysModel" 9 rm_Rm_minus) (T : CT x (none) rm_Rm_minus h0 none h') (hl0 : x.1.2.1 = l) (K6 : HP → Nat → Nat → Nat → Nat → Int64 → Int32 → Option (HP)) (K71 : HP → Nat → Nat → Int64 → Int32 → Option (HP)) (hK6 : ∀ (h : HP) (a0 : Nat) (a1 : Nat) (a2 : Nat) (a3 : Nat) (a4 : Int64) (a6 : Int32), K6 h a0 a1 a2 a3 a4 a6 = some h' → GG x 0 0 h 6 [(0, .ref a0), (1, .ref a1), (2, .ref a2), (3, .ref a3), (4, .long a4), (6, .int a6)] []) (hK71 : ∀ (h : HP) (a0 : Nat) (a3 : Nat) (a6 : Int64) (a8 : Int32), K71 h a0 a3 a6 a8 = some h' → GG x 0 0 h 71 [(0, .ref a0), (3, .ref a3), (6, .long a6), (8, .int a8)] []) (h : HP) (a0 : Nat) (a3 : Nat) (a6 : Int64) (a8 : Int32) (hr : B_Rm_minus_71 K6 K71 h a0 a3 a6 a8 = some h') : GG x 0 0 h 71 [(0, .ref a0), (3, .ref a3), (6, .long a6), (8, .int a8)] [] := by
  unfold B_Rm_minus_71 at hr
  refine g_iload C 3 rfl d_Rm_minus_71 ?_
  refine g_bipush (v := 16) C d_Rm_minus_73 (by decide) ?_
  refine g_icmp_ge (tgt := 115) C d_Rm_minus_75 (by decide) (fun z => ?_) (fun z => ?_)
  · have hr := of_if z hr
    cases hr
    exact g_vreturn C T (by decide) (by decide) d_Rm_minus_115
  · have hr := of_el z hr
    refine g_lload C 2 rfl d_Rm_minus_78 ?_
    refine g_aload_n C 0 rfl d_Rm_minus_80 rfl ?_
    refine g_iload C 3 rfl d_Rm_minus_81 ?_
    obtain ⟨v1, ev1, hr⟩ := of_bnd hr
    refine g_laload C ev1 d_Rm_minus_83 ?_
    refine g_aload_n C 1 rfl d_Rm_minus_84 rfl ?_
    refine g_iload C 3 rfl d_Rm_minus_85 ?_
    obtain ⟨v2, ev2, hr⟩ := of_bnd hr
    refine g_laload C ev2 d_Rm_minus_87 ?_
    refine g_ladd C d_Rm_minus_88 ?_
    refine g_ladd C d_Rm_minus_89 ?_
    refine g_topl (fun x3 ex3 => ?_)
    have hr := of_lt ex3 hr
    refine g_lstore (lv' := [(6, .long x3), (0, .ref a0), (3, .ref a3), (8, .int a8)]) C d_Rm_minus_90 (by decide) rfl ?_
    refine g_aload_n C 1 rfl d_Rm_minus_92 rfl ?_
    refine g_iload C 3 rfl d_Rm_minus_93 ?_
    refine g_lload C 0 rfl d_Rm_minus_95 ?_
    refine g_ldc2 (v := 65535) C d_Rm_minus_97 kw_17 ?_
    refine g_land C d_Rm_minus_100 ?_
    obtain ⟨h4, eh4, hr⟩ := of_bnd hr
    refine g_lastore C eh4 d_Rm_minus_101 ?_
    refine g_lload C 0 rfl d_Rm_minus_102 ?_
    refine g_bipush (v := 16) C d_Rm_minus_104 (by decide) ?_
    refine g_lshr C d_Rm_minus_106 ?_
    refine g_topl (fun x5 ex5 => ?_)
    have hr := of_lt ex5 hr
    refine g_lstore (lv' := [(6, .long x5), (0, .ref a0), (3, .ref a3), (8, .int a8)]) C d_Rm_minus_107 (by decide) rfl ?_
    obtain ⟨x6, ex6⟩ : ∃ z, z = a8 + Int32.ofInt 1 := ⟨_, rfl⟩
    have hr := of_lt ex6 hr
    refine g_iinc (lv' := [(8, .int x6), (6, .long x5), (0, .ref a0), (3, .ref a3)]) C 3 rfl d_Rm_minus_109 ex6.symm (by decide) rfl ?_
    refine g_goto (tgt := 71) C d_Rm_minus_112 (by decide) ?_
    refine g_lv [2, 3, 1, 0] rfl ?_
    exact hK71 h4 a0 a3 x5 x6 hr
def L_Rm_minus_71 (K6 : HP → Nat → Nat → Nat → Nat → Int64 → Int32 → Option (HP)) : Nat → HP → Nat → Nat → Int64 → Int32 → Option (HP)
  | 0, _, _, _, _, _ => none
  | f + 1, h, a0, a3, a6, a8 => B_Rm_minus_71 K6 (L_Rm_minus_71 K6 f) h a0 a3 a6 a8
theorem lp_Rm_minus_71 {l : Launch} {x : CX} {h0 h' : HP} (C : EV x b_Rm_minus "PrimeKeysModel" 9 rm_Rm_minus) (T : CT x (none) rm_Rm_minus h0 none h') (hl0 : x.1.2.1 = l) (K6 : HP → Nat → Nat → Nat → Nat → Int64 → Int32 → Option (HP)) (hK6 : ∀ (h : HP) (a0 : Nat) (a1 : Nat) (a2 : Nat) (a3 : Nat) (a4 : Int64) (a6 : Int32), K6 h a0 a1 a2 a3 a4 a6 = some h' → GG x 0 0 h 6 [(0, .ref a0), (1, .ref a1), (2, .ref a2), (3, .ref a3), (4, .long a4), (6, .int a6)] []) : ∀ (f : Nat) (h : HP) (a0 : Nat) (a3 : Nat) (a6 : Int64) (a8 : Int32), L_Rm_minus_71 K6 f h a0 a3 a6 a8 = some h' → GG x 0 0 h 71 [(0, .ref a0), (3, .ref a3), (6, .long a6), (8, .int a8)] [] := by
  intro f
  induction f with
  | zero => intro h a0 a3 a6 a8 hr; have hr : (none : Option (HP)) = some h' := hr; cases hr
  | succ f ih => intro h a0 a3 a6 a8 hr; exact bk_Rm_minus_71 C T hl0 K6 (L_Rm_minus_71 K6 f) hK6 ih h a0 a3 a6 a8 hr
def B_Rm_minus_6 (K6 : HP → Nat → Nat → Nat → Nat → Int64 → Int32 → Option (HP)) (h : HP) (a0 : Nat) (a1 : Nat) (a2 : Nat) (a3 : Nat) (a4 : Int64) (a6 : Int32) : Option (HP) :=
  if 16 ≤ a6 then
  if lg_cmp a4 0 = 0 then
  some h
  else
  L_Rm_minus_71 K6 FU h a0 a3 0 0
  else
  bnd (ldJ h a1 a6) fun v7 =>
  bnd (ldJ h a2 a6) fun v8 =>
  lt ((v7 - v8) - a4) fun x9 =>
  if 0 ≤ lg_cmp x9 0 then
  bnd (stJ h a0 a6 (x9 &&& 65535)) fun h10 =>
  lt (a6 + Int32.ofInt 1) fun x11 =>
  K6 h10 a0 a1 a2 a3 0 x11
  else
  bnd (stJ h a0 a6 (x9 &&& 65535)) fun h12 =>
  lt (a6 + Int32.ofInt 1) fun x13 =>
  K6 h12 a0 a1 a2 a3 1 x13
set_option maxHeartbeats 4000000 in
set_option maxRecDepth 100000 in
theorem bk_Rm_minus_6 {l : Launch} {x : CX} {h0 h' : HP} (C : EV x b_Rm_minus "PrimeKeysModel" 9 rm_Rm_minus) (T : CT x (none) rm_Rm_minus h0 none h') (hl0 : x.1.2.1 = l) (K6 : HP → Nat → Nat → Nat → Nat → Int64 → Int32 → Option (HP)) (hK6 : ∀ (h : HP) (a0 : Nat) (a1 : Nat) (a2 : Nat) (a3 : Nat) (a4 : Int64) (a6 : Int32), K6 h a0 a1 a2 a3 a4 a6 = some h' → GG x 0 0 h 6 [(0, .ref a0), (1, .ref a1), (2, .ref a2), (3, .ref a3), (4, .long a4), (6, .int a6)] []) (h : HP) (a0 : Nat) (a1 : Nat) (a2 : Nat) (a3 : Nat) (a4 : Int64) (a6 : Int32) (hr : B_Rm_minus_6 K6 h a0 a1 a2 a3 a4 a6 = some h') : GG x 0 0 h 6 [(0, .ref a0), (1, .ref a1), (2, .ref a2), (3, .ref a3), (4, .long a4), (6, .int a6)] [] := by
  unfold B_Rm_minus_6 at hr
  refine g_iload C 5 rfl d_Rm_minus_6 ?_
  refine g_bipush (v := 16) C d_Rm_minus_8 (by decide) ?_
  refine g_icmp_ge (tgt := 57) C d_Rm_minus_10 (by decide) (fun z => ?_) (fun z => ?_)
  · have hr := of_if z hr
    refine g_lload C 4 rfl d_Rm_minus_57 ?_
    refine g_lconst (v := 0) C d_Rm_minus_59 (by decide) ?_
    refine g_lcmp C d_Rm_minus_60 ?_
    refine g_if_ne (tgt := 65) C d_Rm_minus_61 (by decide) (fun z => ?_) (fun z => ?_)
    · have hr := of_el z hr
      refine g_lconst (v := 0) C d_Rm_minus_65 (by decide) ?_
      refine g_lstore (lv' := [(6, .long 0), (0, .ref a0), (1, .ref a1), (2, .ref a2), (3, .ref a3), (4, .long a4)]) C d_Rm_minus_66 (by decide) rfl ?_
      refine g_iconst (v := 0) C d_Rm_minus_68 (by decide) ?_
      refine g_istore (lv' := [(8, .int 0), (6, .long 0), (0, .ref a0), (1, .ref a1), (2, .ref a2), (3, .ref a3), (4, .long a4)]) C d_Rm_minus_69 (by decide) rfl ?_
      refine g_lv [2, 5, 1, 0] rfl ?_
      exact lp_Rm_minus_71 C T hl0 K6 hK6 FU h a0 a3 0 0 hr
    · have hr := of_if z hr
      cases hr
      exact g_vreturn C T (by decide) (by decide) d_Rm_minus_64
  · have hr := of_el z hr
    refine g_aload_n C 1 rfl d_Rm_minus_13 rfl ?_
    refine g_iload C 5 rfl d_Rm_minus_14 ?_
    obtain ⟨v7, ev7, hr⟩ := of_bnd hr
    refine g_laload C ev7 d_Rm_minus_16 ?_
    refine g_aload_n C 2 rfl d_Rm_minus_17 rfl ?_
    refine g_iload C 5 rfl d_Rm_minus_18 ?_
    obtain ⟨v8, ev8, hr⟩ := of_bnd hr
    refine g_laload C ev8 d_Rm_minus_20 ?_
    refine g_lsub C d_Rm_minus_21 ?_
    refine g_lload C 4 rfl d_Rm_minus_22 ?_
    refine g_lsub C d_Rm_minus_24 ?_
    refine g_topl (fun x9 ex9 => ?_)
    have hr := of_lt ex9 hr
    refine g_lstore (lv' := [(7, .long x9), (0, .ref a0), (1, .ref a1), (2, .ref a2), (3, .ref a3), (4, .long a4), (6, .int a6)]) C d_Rm_minus_25 (by decide) rfl ?_
    refine g_lload C 0 rfl d_Rm_minus_27 ?_
    refine g_lconst (v := 0) C d_Rm_minus_29 (by decide) ?_
    refine g_lcmp C d_Rm_minus_30 ?_
    refine g_if_ge (tgt := 38) C d_Rm_minus_31 (by decide) (fun z => ?_) (fun z => ?_)
    · have hr := of_if z hr
      refine g_lconst (v := 0) C d_Rm_minus_38 (by decide) ?_
      refine g_lstore (lv' := [(4, .long 0), (7, .long x9), (0, .ref a0), (1, .ref a1), (2, .ref a2), (3, .ref a3), (6, .int a6)]) C d_Rm_minus_39 (by decide) rfl ?_
      refine g_aload_n C 2 rfl d_Rm_minus_41 rfl ?_
      refine g_iload C 6 rfl d_Rm_minus_42 ?_
      refine g_lload C 1 rfl d_Rm_minus_44 ?_
      refine g_ldc2 (v := 65535) C d_Rm_minus_46 kw_17 ?_
      refine g_land C d_Rm_minus_49 ?_
      obtain ⟨h10, eh10, hr⟩ := of_bnd hr
      refine g_lastore C eh10 d_Rm_minus_50 ?_
      obtain ⟨x11, ex11⟩ : ∃ z, z = a6 + Int32.ofInt 1 := ⟨_, rfl⟩
      have hr := of_lt ex11 hr
      refine g_iinc (lv' := [(6, .int x11), (4, .long 0), (7, .long x9), (0, .ref a0), (1, .ref a1), (2, .ref a2), (3, .ref a3)]) C 6 rfl d_Rm_minus_51 ex11.symm (by decide) rfl ?_
      refine g_goto (tgt := 6) C d_Rm_minus_54 (by decide) ?_
      refine g_lv [3, 4, 5, 6, 1, 0] rfl ?_
      exact hK6 h10 a0 a1 a2 a3 0 x11 hr
    · have hr := of_el z hr
      refine g_lconst (v := 1) C d_Rm_minus_34 (by decide) ?_
      refine g_goto (tgt := 39) C d_Rm_minus_35 (by decide) ?_
      refine g_lstore (lv' := [(4, .long 1), (7, .long x9), (0, .ref a0), (1, .ref a1), (2, .ref a2), (3, .ref a3), (6, .int a6)]) C d_Rm_minus_39 (by decide) rfl ?_
      refine g_aload_n C 2 rfl d_Rm_minus_41 rfl ?_
      refine g_iload C 6 rfl d_Rm_minus_42 ?_
      refine g_lload C 1 rfl d_Rm_minus_44 ?_
      refine g_ldc2 (v := 65535) C d_Rm_minus_46 kw_17 ?_
      refine g_land C d_Rm_minus_49 ?_
      obtain ⟨h12, eh12, hr⟩ := of_bnd hr
      refine g_lastore C eh12 d_Rm_minus_50 ?_
      obtain ⟨x13, ex13⟩ : ∃ z, z = a6 + Int32.ofInt 1 := ⟨_, rfl⟩
      have hr := of_lt ex13 hr
      refine g_iinc (lv' := [(6, .int x13), (4, .long 1), (7, .long x9), (0, .ref a0), (1, .ref a1), (2, .ref a2), (3, .ref a3)]) C 6 rfl d_Rm_minus_51 ex13.symm (by decide) rfl ?_
      refine g_goto (tgt := 6) C d_Rm_minus_54 (by decide) ?_
      refine g_lv [3, 4, 5, 6, 1, 0] rfl ?_
      exact hK6 h12 a0 a1 a2 a3 1 x13 hr
def L_Rm_minus_6 : Nat → HP → Nat → Nat → Nat → Nat → Int64 → Int32 → Option (HP)
  | 0, _, _, _, _, _, _, _ => none
  | f + 1, h, a0, a1, a2, a3, a4, a6 => B_Rm_minus_6 (L_Rm_minus_6 f) h a0 a1 a2 a3 a4 a6
theorem lp_Rm_minus_6 {l : Launch} {x : CX} {h0 h' : HP} (C : EV x b_Rm_minus "PrimeKeysModel" 9 rm_Rm_minus) (T : CT x (none) rm_Rm_minus h0 none h') (hl0 : x.1.2.1 = l) : ∀ (f : Nat) (h : HP) (a0 : Nat) (a1 : Nat) (a2 : Nat) (a3 : Nat) (a4 : Int64) (a6 : Int32), L_Rm_minus_6 f h a0 a1 a2 a3 a4 a6 = some h' → GG x 0 0 h 6 [(0, .ref a0), (1, .ref a1), (2, .ref a2), (3, .ref a3), (4, .long a4), (6, .int a6)] [] := by
  intro f
  induction f with
  | zero => intro h a0 a1 a2 a3 a4 a6 hr; have hr : (none : Option (HP)) = some h' := hr; cases hr
  | succ f ih => intro h a0 a1 a2 a3 a4 a6 hr; exact bk_Rm_minus_6 C T hl0 (L_Rm_minus_6 f) ih h a0 a1 a2 a3 a4 a6 hr
def P_Rm_minus (h : HP) (p0 : Nat) (p1 : Nat) (p2 : Nat) (p3 : Nat) : Option (HP) :=
  L_Rm_minus_6 FU h p0 p1 p2 p3 0 0
set_option maxHeartbeats 4000000 in
set_option maxRecDepth 100000 in
theorem c_Rm_minus {l : Launch} {h h' : HP} {p0 p1 p2 p3 : _} (hr : P_Rm_minus h p0 p1 p2 p3 = some h') : MP l y_Rm_minus (Cond.code y_Rm_minus b_Rm_minus 9 none :: TB) rm_Rm_minus h [.ref p0, .ref p1, .ref p2, .ref p3] none h' := by
  refine MP_intro (cc := b_Rm_minus) (by decide) (Nat.le_of_ble_eq_true rfl) (fun x hl0 C T hin => ?_)
  unfold P_Rm_minus at hr
  show GG x 0 0 h 0 [(0, .ref p0), (1, .ref p1), (2, .ref p2), (3, .ref p3)] []
  refine g_lconst (v := 0) C d_Rm_minus_0 (by decide) ?_
  refine g_lstore (lv' := [(4, .long 0), (0, .ref p0), (1, .ref p1), (2, .ref p2), (3, .ref p3)]) C d_Rm_minus_1 (by decide) rfl ?_
  refine g_iconst (v := 0) C d_Rm_minus_3 (by decide) ?_
  refine g_istore (lv' := [(6, .int 0), (4, .long 0), (0, .ref p0), (1, .ref p1), (2, .ref p2), (3, .ref p3)]) C d_Rm_minus_4 (by decide) rfl ?_
  refine g_lv [2, 3, 4, 5, 1, 0] rfl ?_
  exact lp_Rm_minus_6 C T hl0 FU h p0 p1 p2 p3 0 0 hr
abbrev b_Rm_remainders : ByteArray := prog_12_method_12_code
abbrev y_Rm_remainders : MethodName := ⟨"PrimeKeysModel", "remainders", "([J[J[J)V"⟩
theorem d_Rm_remainders_0 : decode b_Rm_remainders 0 = .ok (.aload_n 2, 1) := by decide +kernel
theorem d_Rm_remainders_1 : decode b_Rm_remainders 1 = .ok (.iconst 1, 1) := by decide +kernel
theorem d_Rm_remainders_2 : decode b_Rm_remainders 2 = .ok (.invokestatic 275, 3) := by decide +kernel
theorem d_Rm_remainders_5 : decode b_Rm_remainders 5 = .ok (.iconst 0, 1) := by decide +kernel
theorem d_Rm_remainders_6 : decode b_Rm_remainders 6 = .ok (.istore_n 3, 1) := by decide +kernel
theorem d_Rm_remainders_7 : decode b_Rm_remainders 7 = .ok (.iload_n 3, 1) := by decide +kernel
theorem d_Rm_remainders_8 : decode b_Rm_remainders 8 = .ok (.sipush 496, 3) := by decide +kernel
theorem d_Rm_remainders_11 : decode b_Rm_remainders 11 = .ok (.if_icmp .ge 62, 3) := by decide +kernel
theorem d_Rm_remainders_14 : decode b_Rm_remainders 14 = .ok (.aload_n 2, 1) := by decide +kernel
theorem d_Rm_remainders_15 : decode b_Rm_remainders 15 = .ok (.aload_n 2, 1) := by decide +kernel
theorem d_Rm_remainders_16 : decode b_Rm_remainders 16 = .ok (.aload_n 2, 1) := by decide +kernel
theorem d_Rm_remainders_17 : decode b_Rm_remainders 17 = .ok (.aload_n 1, 1) := by decide +kernel
theorem d_Rm_remainders_18 : decode b_Rm_remainders 18 = .ok (.invokestatic 279, 3) := by decide +kernel
theorem d_Rm_remainders_21 : decode b_Rm_remainders 21 = .ok (.iload_n 3, 1) := by decide +kernel
theorem d_Rm_remainders_22 : decode b_Rm_remainders 22 = .ok (.sipush 255, 3) := by decide +kernel
theorem d_Rm_remainders_25 : decode b_Rm_remainders 25 = .ok (.if_icmp .lt 42, 3) := by decide +kernel
theorem d_Rm_remainders_28 : decode b_Rm_remainders 28 = .ok (.iload_n 3, 1) := by decide +kernel
theorem d_Rm_remainders_29 : decode b_Rm_remainders 29 = .ok (.bipush 16, 2) := by decide +kernel
theorem d_Rm_remainders_31 : decode b_Rm_remainders 31 = .ok (.irem, 1) := by decide +kernel
theorem d_Rm_remainders_32 : decode b_Rm_remainders 32 = .ok (.bipush 15, 2) := by decide +kernel
theorem d_Rm_remainders_34 : decode b_Rm_remainders 34 = .ok (.if_icmp .ne 33, 3) := by decide +kernel
theorem d_Rm_remainders_37 : decode b_Rm_remainders 37 = .ok (.iconst 0, 1) := by decide +kernel
theorem d_Rm_remainders_38 : decode b_Rm_remainders 38 = .ok (.istore 4, 2) := by decide +kernel
theorem d_Rm_remainders_40 : decode b_Rm_remainders 40 = .ok (.iload 4, 2) := by decide +kernel
theorem d_Rm_remainders_42 : decode b_Rm_remainders 42 = .ok (.bipush 16, 2) := by decide +kernel
theorem d_Rm_remainders_44 : decode b_Rm_remainders 44 = .ok (.if_icmp .ge 23, 3) := by decide +kernel
theorem d_Rm_remainders_47 : decode b_Rm_remainders 47 = .ok (.aload_n 0, 1) := by decide +kernel
theorem d_Rm_remainders_48 : decode b_Rm_remainders 48 = .ok (.iload_n 3, 1) := by decide +kernel
theorem d_Rm_remainders_49 : decode b_Rm_remainders 49 = .ok (.sipush 255, 3) := by decide +kernel
theorem d_Rm_remainders_52 : decode b_Rm_remainders 52 = .ok (.isub, 1) := by decide +kernel
theorem d_Rm_remainders_53 : decode b_Rm_remainders 53 = .ok (.iload 4, 2) := by decide +kernel
theorem d_Rm_remainders_55 : decode b_Rm_remainders 55 = .ok (.iadd, 1) := by decide +kernel
theorem d_Rm_remainders_56 : decode b_Rm_remainders 56 = .ok (.aload_n 2, 1) := by decide +kernel
theorem d_Rm_remainders_57 : decode b_Rm_remainders 57 = .ok (.iload 4, 2) := by decide +kernel
theorem d_Rm_remainders_59 : decode b_Rm_remainders 59 = .ok (.laload, 1) := by decide +kernel
theorem d_Rm_remainders_60 : decode b_Rm_remainders 60 = .ok (.lastore, 1) := by decide +kernel
theorem d_Rm_remainders_61 : decode b_Rm_remainders 61 = .ok (.iinc 4 1, 3) := by decide +kernel
theorem d_Rm_remainders_64 : decode b_Rm_remainders 64 = .ok (.goto (-24), 3) := by decide +kernel
theorem d_Rm_remainders_67 : decode b_Rm_remainders 67 = .ok (.iinc 3 1, 3) := by decide +kernel
theorem d_Rm_remainders_70 : decode b_Rm_remainders 70 = .ok (.goto (-63), 3) := by decide +kernel
theorem d_Rm_remainders_73 : decode b_Rm_remainders 73 = .ok (.return_, 1) := by decide +kernel
theorem cd_Rm_279 : CD "PrimeKeysModel" 279 y_Rm_plus b_Rm_plus 7 none 4 := ⟨tb_4 (List.mem_of_getElem? (i := 147) rfl) rfl, tb_1 (List.mem_of_getElem? (i := 13) (by decide +kernel)) rfl, tb_4 (List.mem_of_getElem? (i := 145) (by decide +kernel)) rfl, by decide +kernel⟩
theorem kw_st_Rm_plus : Cond.static y_Rm_plus ∈ TB := tb_4 (List.mem_of_getElem? (i := 146) (by decide +kernel)) rfl
theorem cd_Rm_275 : CD "PrimeKeysModel" 275 y_Rm_set b_Rm_set 3 none 2 := ⟨tb_4 (List.mem_of_getElem? (i := 144) rfl) rfl, tb_1 (List.mem_of_getElem? (i := 13) (by decide +kernel)) rfl, tb_4 (List.mem_of_getElem? (i := 142) (by decide +kernel)) rfl, by decide +kernel⟩
theorem kw_st_Rm_set : Cond.static y_Rm_set ∈ TB := tb_4 (List.mem_of_getElem? (i := 143) (by decide +kernel)) rfl
abbrev rm_Rm_remainders : Room := { frames := 2, cells := 0, slots := 0, locals := 53 }
def B_Rm_remainders_67 (K7 : HP → Nat → Nat → Nat → Int32 → Option (HP)) (h : HP) (a0 : Nat) (a1 : Nat) (a2 : Nat) (a3 : Int32) : Option (HP) :=
  lt (a3 + Int32.ofInt 1) fun x3 =>
  K7 h a0 a1 a2 x3
set_option maxHeartbeats 4000000 in
set_option maxRecDepth 100000 in
theorem bk_Rm_remainders_67 {l : Launch} {x : CX} {h0 h' : HP} (C : EV x b_Rm_remainders "PrimeKeysModel" 5 rm_Rm_remainders) (T : CT x (none) rm_Rm_remainders h0 none h') (hl0 : x.1.2.1 = l) (K7 : HP → Nat → Nat → Nat → Int32 → Option (HP)) (hK7 : ∀ (h : HP) (a0 : Nat) (a1 : Nat) (a2 : Nat) (a3 : Int32), K7 h a0 a1 a2 a3 = some h' → GG x 0 0 h 7 [(0, .ref a0), (1, .ref a1), (2, .ref a2), (3, .int a3)] []) (h : HP) (a0 : Nat) (a1 : Nat) (a2 : Nat) (a3 : Int32) (hr : B_Rm_remainders_67 K7 h a0 a1 a2 a3 = some h') : GG x 0 0 h 67 [(0, .ref a0), (1, .ref a1), (2, .ref a2), (3, .int a3)] [] := by
  unfold B_Rm_remainders_67 at hr
  obtain ⟨x3, ex3⟩ : ∃ z, z = a3 + Int32.ofInt 1 := ⟨_, rfl⟩
  have hr := of_lt ex3 hr
  refine g_iinc (lv' := [(3, .int x3), (0, .ref a0), (1, .ref a1), (2, .ref a2)]) C 3 rfl d_Rm_remainders_67 ex3.symm (by decide) rfl ?_
  refine g_goto (tgt := 7) C d_Rm_remainders_70 (by decide) ?_
  refine g_lv [1, 2, 3, 0] rfl ?_
  exact hK7 h a0 a1 a2 x3 hr
def B_Rm_remainders_40 (K7 : HP → Nat → Nat → Nat → Int32 → Option (HP)) (K40 : HP → Nat → Nat → Nat → Int32 → Int32 → Option (HP)) (h : HP) (a0 : Nat) (a1 : Nat) (a2 : Nat) (a3 : Int32) (a4 : Int32) : Option (HP) :=
  if 16 ≤ a4 then
  B_Rm_remainders_67 K7 h a0 a1 a2 a3
  else
  bnd (ldJ h a2 a4) fun v4 =>
  bnd (stJ h a0 ((a3 - 255) + a4) v4) fun h5 =>
  lt (a4 + Int32.ofInt 1) fun x6 =>
  K40 h5 a0 a1 a2 a3 x6
set_option maxHeartbeats 4000000 in
set_option maxRecDepth 100000 in
theorem bk_Rm_remainders_40 {l : Launch} {x : CX} {h0 h' : HP} (C : EV x b_Rm_remainders "PrimeKeysModel" 5 rm_Rm_remainders) (T : CT x (none) rm_Rm_remainders h0 none h') (hl0 : x.1.2.1 = l) (K7 : HP → Nat → Nat → Nat → Int32 → Option (HP)) (K40 : HP → Nat → Nat → Nat → Int32 → Int32 → Option (HP)) (hK7 : ∀ (h : HP) (a0 : Nat) (a1 : Nat) (a2 : Nat) (a3 : Int32), K7 h a0 a1 a2 a3 = some h' → GG x 0 0 h 7 [(0, .ref a0), (1, .ref a1), (2, .ref a2), (3, .int a3)] []) (hK40 : ∀ (h : HP) (a0 : Nat) (a1 : Nat) (a2 : Nat) (a3 : Int32) (a4 : Int32), K40 h a0 a1 a2 a3 a4 = some h' → GG x 0 0 h 40 [(0, .ref a0), (1, .ref a1), (2, .ref a2), (3, .int a3), (4, .int a4)] []) (h : HP) (a0 : Nat) (a1 : Nat) (a2 : Nat) (a3 : Int32) (a4 : Int32) (hr : B_Rm_remainders_40 K7 K40 h a0 a1 a2 a3 a4 = some h') : GG x 0 0 h 40 [(0, .ref a0), (1, .ref a1), (2, .ref a2), (3, .int a3), (4, .int a4)] [] := by
  unfold B_Rm_remainders_40 at hr
  refine g_iload C 4 rfl d_Rm_remainders_40 ?_
  refine g_bipush (v := 16) C d_Rm_remainders_42 (by decide) ?_
  refine g_icmp_ge (tgt := 67) C d_Rm_remainders_44 (by decide) (fun z => ?_) (fun z => ?_)
  · have hr := of_if z hr
    refine g_lv [0, 1, 2, 3] rfl ?_
    exact bk_Rm_remainders_67 C T hl0 K7 hK7 h a0 a1 a2 a3 hr
  · have hr := of_el z hr
    refine g_aload_n C 0 rfl d_Rm_remainders_47 rfl ?_
    refine g_iload_n C 3 rfl d_Rm_remainders_48 rfl ?_
    refine g_sipush (v := 255) C d_Rm_remainders_49 (by decide) ?_
    refine g_isub C d_Rm_remainders_52 ?_
    refine g_iload C 4 rfl d_Rm_remainders_53 ?_
    refine g_iadd C d_Rm_remainders_55 ?_
    refine g_aload_n C 2 rfl d_Rm_remainders_56 rfl ?_
    refine g_iload C 4 rfl d_Rm_remainders_57 ?_
    obtain ⟨v4, ev4, hr⟩ := of_bnd hr
    refine g_laload C ev4 d_Rm_remainders_59 ?_
    obtain ⟨h5, eh5, hr⟩ := of_bnd hr
    refine g_lastore C eh5 d_Rm_remainders_60 ?_
    obtain ⟨x6, ex6⟩ : ∃ z, z = a4 + Int32.ofInt 1 := ⟨_, rfl⟩
    have hr := of_lt ex6 hr
    refine g_iinc (lv' := [(4, .int x6), (0, .ref a0), (1, .ref a1), (2, .ref a2), (3, .int a3)]) C 4 rfl d_Rm_remainders_61 ex6.symm (by decide) rfl ?_
    refine g_goto (tgt := 40) C d_Rm_remainders_64 (by decide) ?_
    refine g_lv [1, 2, 3, 4, 0] rfl ?_
    exact hK40 h5 a0 a1 a2 a3 x6 hr
def L_Rm_remainders_40 (K7 : HP → Nat → Nat → Nat → Int32 → Option (HP)) : Nat → HP → Nat → Nat → Nat → Int32 → Int32 → Option (HP)
  | 0, _, _, _, _, _, _ => none
  | f + 1, h, a0, a1, a2, a3, a4 => B_Rm_remainders_40 K7 (L_Rm_remainders_40 K7 f) h a0 a1 a2 a3 a4
theorem lp_Rm_remainders_40 {l : Launch} {x : CX} {h0 h' : HP} (C : EV x b_Rm_remainders "PrimeKeysModel" 5 rm_Rm_remainders) (T : CT x (none) rm_Rm_remainders h0 none h') (hl0 : x.1.2.1 = l) (K7 : HP → Nat → Nat → Nat → Int32 → Option (HP)) (hK7 : ∀ (h : HP) (a0 : Nat) (a1 : Nat) (a2 : Nat) (a3 : Int32), K7 h a0 a1 a2 a3 = some h' → GG x 0 0 h 7 [(0, .ref a0), (1, .ref a1), (2, .ref a2), (3, .int a3)] []) : ∀ (f : Nat) (h : HP) (a0 : Nat) (a1 : Nat) (a2 : Nat) (a3 : Int32) (a4 : Int32), L_Rm_remainders_40 K7 f h a0 a1 a2 a3 a4 = some h' → GG x 0 0 h 40 [(0, .ref a0), (1, .ref a1), (2, .ref a2), (3, .int a3), (4, .int a4)] [] := by
  intro f
  induction f with
  | zero => intro h a0 a1 a2 a3 a4 hr; have hr : (none : Option (HP)) = some h' := hr; cases hr
  | succ f ih => intro h a0 a1 a2 a3 a4 hr; exact bk_Rm_remainders_40 C T hl0 K7 (L_Rm_remainders_40 K7 f) hK7 ih h a0 a1 a2 a3 a4 hr
def B_Rm_remainders_7 (K7 : HP → Nat → Nat → Nat → Int32 → Option (HP)) (h : HP) (a0 : Nat) (a1 : Nat) (a2 : Nat) (a3 : Int32) : Option (HP) :=
  if 496 ≤ a3 then
  some h
  else
  bnd (P_Rm_plus h a2 a2 a2 a1) fun h2 =>
  if a3 < 255 then
  B_Rm_remainders_67 K7 h2 a0 a1 a2 a3
  else
  if a3 - a3 / 16 * 16 = 15 then
  L_Rm_remainders_40 K7 FU h2 a0 a1 a2 a3 0
  else
  B_Rm_remainders_67 K7 h2 a0 a1 a2 a3
set_option maxHeartbeats 4000000 in
set_option maxRecDepth 100000 in
theorem bk_Rm_remainders_7 {l : Launch} {x : CX} {h0 h' : HP} (C : EV x b_Rm_remainders "PrimeKeysModel" 5 rm_Rm_remainders) (T : CT x (none) rm_Rm_remainders h0 none h') (hl0 : x.1.2.1 = l) (K7 : HP → Nat → Nat → Nat → Int32 → Option (HP)) (hK7 : ∀ (h : HP) (a0 : Nat) (a1 : Nat) (a2 : Nat) (a3 : Int32), K7 h a0 a1 a2 a3 = some h' → GG x 0 0 h 7 [(0, .ref a0), (1, .ref a1), (2, .ref a2), (3, .int a3)] []) (h : HP) (a0 : Nat) (a1 : Nat) (a2 : Nat) (a3 : Int32) (hr : B_Rm_remainders_7 K7 h a0 a1 a2 a3 = some h') : GG x 0 0 h 7 [(0, .ref a0), (1, .ref a1), (2, .ref a2), (3, .int a3)] [] := by
  unfold B_Rm_remainders_7 at hr
  refine g_iload_n C 3 rfl d_Rm_remainders_7 rfl ?_
  refine g_sipush (v := 496) C d_Rm_remainders_8 (by decide) ?_
  refine g_icmp_ge (tgt := 73) C d_Rm_remainders_11 (by decide) (fun z => ?_) (fun z => ?_)
  · have hr := of_if z hr
    cases hr
    exact g_vreturn C T (by decide) (by decide) d_Rm_remainders_73
  · have hr := of_el z hr
    refine g_aload_n C 2 rfl d_Rm_remainders_14 rfl ?_
    refine g_aload_n C 2 rfl d_Rm_remainders_15 rfl ?_
    refine g_aload_n C 2 rfl d_Rm_remainders_16 rfl ?_
    refine g_aload_n C 1 rfl d_Rm_remainders_17 rfl ?_
    obtain ⟨h2, eh2, hr⟩ := of_bnd hr
    refine g_callS (pa := [.ref a2, .ref a2, .ref a2, .ref a1]) C hl0 (c_Rm_plus eh2) cd_Rm_279 kw_st_Rm_plus (by decide) rfl rfl (Nat.le_of_ble_eq_true rfl) d_Rm_remainders_18 ?_
    refine g_iload_n C 3 rfl d_Rm_remainders_21 rfl ?_
    refine g_sipush (v := 255) C d_Rm_remainders_22 (by decide) ?_
    refine g_icmp_lt (tgt := 67) C d_Rm_remainders_25 (by decide) (fun z => ?_) (fun z => ?_)
    · have hr := of_if z hr
      exact bk_Rm_remainders_67 C T hl0 K7 hK7 h2 a0 a1 a2 a3 hr
    · have hr := of_el z hr
      refine g_iload_n C 3 rfl d_Rm_remainders_28 rfl ?_
      refine g_bipush (v := 16) C d_Rm_remainders_29 (by decide) ?_
      refine g_irem C d_Rm_remainders_31 (by decide) ?_
      refine g_bipush (v := 15) C d_Rm_remainders_32 (by decide) ?_
      refine g_icmp_ne (tgt := 67) C d_Rm_remainders_34 (by decide) (fun z => ?_) (fun z => ?_)
      · have hr := of_el z hr
        exact bk_Rm_remainders_67 C T hl0 K7 hK7 h2 a0 a1 a2 a3 hr
      · have hr := of_if z hr
        refine g_iconst (v := 0) C d_Rm_remainders_37 (by decide) ?_
        refine g_istore (lv' := [(4, .int 0), (0, .ref a0), (1, .ref a1), (2, .ref a2), (3, .int a3)]) C d_Rm_remainders_38 (by decide) rfl ?_
        refine g_lv [1, 2, 3, 4, 0] rfl ?_
        exact lp_Rm_remainders_40 C T hl0 K7 hK7 FU h2 a0 a1 a2 a3 0 hr
def L_Rm_remainders_7 : Nat → HP → Nat → Nat → Nat → Int32 → Option (HP)
  | 0, _, _, _, _, _ => none
  | f + 1, h, a0, a1, a2, a3 => B_Rm_remainders_7 (L_Rm_remainders_7 f) h a0 a1 a2 a3
theorem lp_Rm_remainders_7 {l : Launch} {x : CX} {h0 h' : HP} (C : EV x b_Rm_remainders "PrimeKeysModel" 5 rm_Rm_remainders) (T : CT x (none) rm_Rm_remainders h0 none h') (hl0 : x.1.2.1 = l) : ∀ (f : Nat) (h : HP) (a0 : Nat) (a1 : Nat) (a2 : Nat) (a3 : Int32), L_Rm_remainders_7 f h a0 a1 a2 a3 = some h' → GG x 0 0 h 7 [(0, .ref a0), (1, .ref a1), (2, .ref a2), (3, .int a3)] [] := by
  intro f
  induction f with
  | zero => intro h a0 a1 a2 a3 hr; have hr : (none : Option (HP)) = some h' := hr; cases hr
  | succ f ih => intro h a0 a1 a2 a3 hr; exact bk_Rm_remainders_7 C T hl0 (L_Rm_remainders_7 f) ih h a0 a1 a2 a3 hr
def P_Rm_remainders (h : HP) (p0 : Nat) (p1 : Nat) (p2 : Nat) : Option (HP) :=
  bnd (P_Rm_set h p2 1) fun h1 =>
  L_Rm_remainders_7 FU h1 p0 p1 p2 0
set_option maxHeartbeats 4000000 in
set_option maxRecDepth 100000 in
theorem c_Rm_remainders {l : Launch} {h h' : HP} {p0 p1 p2 : _} (hr : P_Rm_remainders h p0 p1 p2 = some h') : MP l y_Rm_remainders (Cond.code y_Rm_remainders b_Rm_remainders 5 none :: TB) rm_Rm_remainders h [.ref p0, .ref p1, .ref p2] none h' := by
  refine MP_intro (cc := b_Rm_remainders) (by decide) (Nat.le_of_ble_eq_true rfl) (fun x hl0 C T hin => ?_)
  unfold P_Rm_remainders at hr
  show GG x 0 0 h 0 [(0, .ref p0), (1, .ref p1), (2, .ref p2)] []
  refine g_aload_n C 2 rfl d_Rm_remainders_0 rfl ?_
  refine g_iconst (v := 1) C d_Rm_remainders_1 (by decide) ?_
  obtain ⟨h1, eh1, hr⟩ := of_bnd hr
  refine g_callS (pa := [.ref p2, .int 1]) C hl0 (c_Rm_set eh1) cd_Rm_275 kw_st_Rm_set (by decide) rfl rfl (Nat.le_of_ble_eq_true rfl) d_Rm_remainders_2 ?_
  refine g_iconst (v := 0) C d_Rm_remainders_5 (by decide) ?_
  refine g_istore_n (lv' := [(3, .int 0), (0, .ref p0), (1, .ref p1), (2, .ref p2)]) C d_Rm_remainders_6 rfl (by decide) rfl ?_
  refine g_lv [1, 2, 3, 0] rfl ?_
  exact lp_Rm_remainders_7 C T hl0 FU h1 p0 p1 p2 0 hr
