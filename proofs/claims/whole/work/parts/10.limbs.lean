abbrev b_Ar_fill_J : ByteArray := prog_22_method_101_code
abbrev y_Ar_fill_J : MethodName := ⟨"java/util/Arrays", "fill", "([JJ)V"⟩
theorem d_Ar_fill_J_0 : decode b_Ar_fill_J 0 = .ok (.iconst 0, 1) := by decide +kernel
theorem d_Ar_fill_J_1 : decode b_Ar_fill_J 1 = .ok (.istore_n 3, 1) := by decide +kernel
theorem d_Ar_fill_J_2 : decode b_Ar_fill_J 2 = .ok (.aload_n 0, 1) := by decide +kernel
theorem d_Ar_fill_J_3 : decode b_Ar_fill_J 3 = .ok (.arraylength, 1) := by decide +kernel
theorem d_Ar_fill_J_4 : decode b_Ar_fill_J 4 = .ok (.istore 4, 2) := by decide +kernel
theorem d_Ar_fill_J_6 : decode b_Ar_fill_J 6 = .ok (.iload_n 3, 1) := by decide +kernel
theorem d_Ar_fill_J_7 : decode b_Ar_fill_J 7 = .ok (.iload 4, 2) := by decide +kernel
theorem d_Ar_fill_J_9 : decode b_Ar_fill_J 9 = .ok (.if_icmp .ge 13, 3) := by decide +kernel
theorem d_Ar_fill_J_12 : decode b_Ar_fill_J 12 = .ok (.aload_n 0, 1) := by decide +kernel
theorem d_Ar_fill_J_13 : decode b_Ar_fill_J 13 = .ok (.iload_n 3, 1) := by decide +kernel
theorem d_Ar_fill_J_14 : decode b_Ar_fill_J 14 = .ok (.lload_n 1, 1) := by decide +kernel
theorem d_Ar_fill_J_15 : decode b_Ar_fill_J 15 = .ok (.lastore, 1) := by decide +kernel
theorem d_Ar_fill_J_16 : decode b_Ar_fill_J 16 = .ok (.iinc 3 1, 3) := by decide +kernel
theorem d_Ar_fill_J_19 : decode b_Ar_fill_J 19 = .ok (.goto (-13), 3) := by decide +kernel
theorem d_Ar_fill_J_22 : decode b_Ar_fill_J 22 = .ok (.return_, 1) := by decide +kernel
abbrev rm_Ar_fill_J : Room := { frames := 0, cells := 0, slots := 0, locals := 0 }
def B_Ar_fill_J_6 (K6 : HP → Nat → Int64 → Int32 → Int32 → Option (HP)) (h : HP) (a0 : Nat) (a1 : Int64) (a3 : Int32) (a4 : Int32) : Option (HP) :=
  if a4 ≤ a3 then
  some h
  else
  bnd (stJ h a0 a3 a1) fun h2 =>
  lt (a3 + Int32.ofInt 1) fun x3 =>
  K6 h2 a0 a1 x3 a4
set_option maxHeartbeats 4000000 in
set_option maxRecDepth 100000 in
theorem bk_Ar_fill_J_6 {l : Launch} {x : CX} {h0 h' : HP} (C : EV x b_Ar_fill_J "java/util/Arrays" 5 rm_Ar_fill_J) (T : CT x (none) rm_Ar_fill_J h0 none h') (hl0 : x.1.2.1 = l) (K6 : HP → Nat → Int64 → Int32 → Int32 → Option (HP)) (hK6 : ∀ (h : HP) (a0 : Nat) (a1 : Int64) (a3 : Int32) (a4 : Int32), K6 h a0 a1 a3 a4 = some h' → GG x 0 0 h 6 [(0, .ref a0), (1, .long a1), (3, .int a3), (4, .int a4)] []) (h : HP) (a0 : Nat) (a1 : Int64) (a3 : Int32) (a4 : Int32) (hr : B_Ar_fill_J_6 K6 h a0 a1 a3 a4 = some h') : GG x 0 0 h 6 [(0, .ref a0), (1, .long a1), (3, .int a3), (4, .int a4)] [] := by
  unfold B_Ar_fill_J_6 at hr
  refine g_iload_n C 2 rfl d_Ar_fill_J_6 rfl ?_
  refine g_iload C 3 rfl d_Ar_fill_J_7 ?_
  refine g_icmp_ge (tgt := 22) C d_Ar_fill_J_9 (by decide) (fun z => ?_) (fun z => ?_)
  · have hr := of_if z hr
    cases hr
    exact g_vreturn C T (by decide) (by decide) d_Ar_fill_J_22
  · have hr := of_el z hr
    refine g_aload_n C 0 rfl d_Ar_fill_J_12 rfl ?_
    refine g_iload_n C 2 rfl d_Ar_fill_J_13 rfl ?_
    refine g_lload_n C 1 rfl d_Ar_fill_J_14 rfl ?_
    obtain ⟨h2, eh2, hr⟩ := of_bnd hr
    refine g_lastore C eh2 d_Ar_fill_J_15 ?_
    obtain ⟨x3, ex3⟩ : ∃ z, z = a3 + Int32.ofInt 1 := ⟨_, rfl⟩
    have hr := of_lt ex3 hr
    refine g_iinc (lv' := [(3, .int x3), (0, .ref a0), (1, .long a1), (4, .int a4)]) C 2 rfl d_Ar_fill_J_16 ex3.symm (by decide) rfl ?_
    refine g_goto (tgt := 6) C d_Ar_fill_J_19 (by decide) ?_
    refine g_lv [1, 2, 0, 3] rfl ?_
    exact hK6 h2 a0 a1 x3 a4 hr
def L_Ar_fill_J_6 : Nat → HP → Nat → Int64 → Int32 → Int32 → Option (HP)
  | 0, _, _, _, _, _ => none
  | f + 1, h, a0, a1, a3, a4 => B_Ar_fill_J_6 (L_Ar_fill_J_6 f) h a0 a1 a3 a4
theorem lp_Ar_fill_J_6 {l : Launch} {x : CX} {h0 h' : HP} (C : EV x b_Ar_fill_J "java/util/Arrays" 5 rm_Ar_fill_J) (T : CT x (none) rm_Ar_fill_J h0 none h') (hl0 : x.1.2.1 = l) : ∀ (f : Nat) (h : HP) (a0 : Nat) (a1 : Int64) (a3 : Int32) (a4 : Int32), L_Ar_fill_J_6 f h a0 a1 a3 a4 = some h' → GG x 0 0 h 6 [(0, .ref a0), (1, .long a1), (3, .int a3), (4, .int a4)] [] := by
  intro f
  induction f with
  | zero => intro h a0 a1 a3 a4 hr; have hr : (none : Option (HP)) = some h' := hr; cases hr
  | succ f ih => intro h a0 a1 a3 a4 hr; exact bk_Ar_fill_J_6 C T hl0 (L_Ar_fill_J_6 f) ih h a0 a1 a3 a4 hr
def P_Ar_fill_J (h : HP) (p0 : Nat) (p1 : Int64) : Option (HP) :=
  bnd (lnP h p0) fun v1 =>
  L_Ar_fill_J_6 FU h p0 p1 0 v1
set_option maxHeartbeats 4000000 in
set_option maxRecDepth 100000 in
theorem c_Ar_fill_J {l : Launch} {h h' : HP} {p0 p1 : _} (hr : P_Ar_fill_J h p0 p1 = some h') : MP l y_Ar_fill_J (Cond.code y_Ar_fill_J b_Ar_fill_J 5 none :: TB) rm_Ar_fill_J h [.ref p0, .long p1] none h' := by
  refine MP_intro (cc := b_Ar_fill_J) (by decide) (Nat.le_of_ble_eq_true rfl) (fun x hl0 C T hin => ?_)
  unfold P_Ar_fill_J at hr
  show GG x 0 0 h 0 [(0, .ref p0), (1, .long p1)] []
  refine g_iconst (v := 0) C d_Ar_fill_J_0 (by decide) ?_
  refine g_istore_n (lv' := [(3, .int 0), (0, .ref p0), (1, .long p1)]) C d_Ar_fill_J_1 rfl (by decide) rfl ?_
  refine g_aload_n C 1 rfl d_Ar_fill_J_2 rfl ?_
  obtain ⟨v1, ev1, hr⟩ := of_bnd hr
  refine g_alenP C ev1 d_Ar_fill_J_3 ?_
  refine g_istore (lv' := [(4, .int v1), (3, .int 0), (0, .ref p0), (1, .long p1)]) C d_Ar_fill_J_4 (by decide) rfl ?_
  refine g_lv [2, 3, 1, 0] rfl ?_
  exact lp_Ar_fill_J_6 C T hl0 FU h p0 p1 0 v1 hr
abbrev b_Ar_fill_B : ByteArray := prog_22_method_109_code
abbrev y_Ar_fill_B : MethodName := ⟨"java/util/Arrays", "fill", "([BB)V"⟩
theorem d_Ar_fill_B_0 : decode b_Ar_fill_B 0 = .ok (.iconst 0, 1) := by decide +kernel
theorem d_Ar_fill_B_1 : decode b_Ar_fill_B 1 = .ok (.istore_n 2, 1) := by decide +kernel
theorem d_Ar_fill_B_2 : decode b_Ar_fill_B 2 = .ok (.aload_n 0, 1) := by decide +kernel
theorem d_Ar_fill_B_3 : decode b_Ar_fill_B 3 = .ok (.arraylength, 1) := by decide +kernel
theorem d_Ar_fill_B_4 : decode b_Ar_fill_B 4 = .ok (.istore_n 3, 1) := by decide +kernel
theorem d_Ar_fill_B_5 : decode b_Ar_fill_B 5 = .ok (.iload_n 2, 1) := by decide +kernel
theorem d_Ar_fill_B_6 : decode b_Ar_fill_B 6 = .ok (.iload_n 3, 1) := by decide +kernel
theorem d_Ar_fill_B_7 : decode b_Ar_fill_B 7 = .ok (.if_icmp .ge 13, 3) := by decide +kernel
theorem d_Ar_fill_B_10 : decode b_Ar_fill_B 10 = .ok (.aload_n 0, 1) := by decide +kernel
theorem d_Ar_fill_B_11 : decode b_Ar_fill_B 11 = .ok (.iload_n 2, 1) := by decide +kernel
theorem d_Ar_fill_B_12 : decode b_Ar_fill_B 12 = .ok (.iload_n 1, 1) := by decide +kernel
theorem d_Ar_fill_B_13 : decode b_Ar_fill_B 13 = .ok (.bastore, 1) := by decide +kernel
theorem d_Ar_fill_B_14 : decode b_Ar_fill_B 14 = .ok (.iinc 2 1, 3) := by decide +kernel
theorem d_Ar_fill_B_17 : decode b_Ar_fill_B 17 = .ok (.goto (-12), 3) := by decide +kernel
theorem d_Ar_fill_B_20 : decode b_Ar_fill_B 20 = .ok (.return_, 1) := by decide +kernel
abbrev rm_Ar_fill_B : Room := { frames := 0, cells := 0, slots := 0, locals := 0 }
def B_Ar_fill_B_5 (K5 : HP → Nat → Int32 → Int32 → Int32 → Option (HP)) (h : HP) (a0 : Nat) (a1 : Int32) (a2 : Int32) (a3 : Int32) : Option (HP) :=
  if a3 ≤ a2 then
  some h
  else
  bnd (stB h a0 a2 a1) fun h2 =>
  lt (a2 + Int32.ofInt 1) fun x3 =>
  K5 h2 a0 a1 x3 a3
set_option maxHeartbeats 4000000 in
set_option maxRecDepth 100000 in
theorem bk_Ar_fill_B_5 {l : Launch} {x : CX} {h0 h' : HP} (C : EV x b_Ar_fill_B "java/util/Arrays" 4 rm_Ar_fill_B) (T : CT x (none) rm_Ar_fill_B h0 none h') (hl0 : x.1.2.1 = l) (K5 : HP → Nat → Int32 → Int32 → Int32 → Option (HP)) (hK5 : ∀ (h : HP) (a0 : Nat) (a1 : Int32) (a2 : Int32) (a3 : Int32), K5 h a0 a1 a2 a3 = some h' → GG x 0 0 h 5 [(0, .ref a0), (1, .int a1), (2, .int a2), (3, .int a3)] []) (h : HP) (a0 : Nat) (a1 : Int32) (a2 : Int32) (a3 : Int32) (hr : B_Ar_fill_B_5 K5 h a0 a1 a2 a3 = some h') : GG x 0 0 h 5 [(0, .ref a0), (1, .int a1), (2, .int a2), (3, .int a3)] [] := by
  unfold B_Ar_fill_B_5 at hr
  refine g_iload_n C 2 rfl d_Ar_fill_B_5 rfl ?_
  refine g_iload_n C 3 rfl d_Ar_fill_B_6 rfl ?_
  refine g_icmp_ge (tgt := 20) C d_Ar_fill_B_7 (by decide) (fun z => ?_) (fun z => ?_)
  · have hr := of_if z hr
    cases hr
    exact g_vreturn C T (by decide) (by decide) d_Ar_fill_B_20
  · have hr := of_el z hr
    refine g_aload_n C 0 rfl d_Ar_fill_B_10 rfl ?_
    refine g_iload_n C 2 rfl d_Ar_fill_B_11 rfl ?_
    refine g_iload_n C 1 rfl d_Ar_fill_B_12 rfl ?_
    obtain ⟨h2, eh2, hr⟩ := of_bnd hr
    refine g_bastore C eh2 d_Ar_fill_B_13 ?_
    obtain ⟨x3, ex3⟩ : ∃ z, z = a2 + Int32.ofInt 1 := ⟨_, rfl⟩
    have hr := of_lt ex3 hr
    refine g_iinc (lv' := [(2, .int x3), (0, .ref a0), (1, .int a1), (3, .int a3)]) C 2 rfl d_Ar_fill_B_14 ex3.symm (by decide) rfl ?_
    refine g_goto (tgt := 5) C d_Ar_fill_B_17 (by decide) ?_
    refine g_lv [1, 2, 0, 3] rfl ?_
    exact hK5 h2 a0 a1 x3 a3 hr
def L_Ar_fill_B_5 : Nat → HP → Nat → Int32 → Int32 → Int32 → Option (HP)
  | 0, _, _, _, _, _ => none
  | f + 1, h, a0, a1, a2, a3 => B_Ar_fill_B_5 (L_Ar_fill_B_5 f) h a0 a1 a2 a3
theorem lp_Ar_fill_B_5 {l : Launch} {x : CX} {h0 h' : HP} (C : EV x b_Ar_fill_B "java/util/Arrays" 4 rm_Ar_fill_B) (T : CT x (none) rm_Ar_fill_B h0 none h') (hl0 : x.1.2.1 = l) : ∀ (f : Nat) (h : HP) (a0 : Nat) (a1 : Int32) (a2 : Int32) (a3 : Int32), L_Ar_fill_B_5 f h a0 a1 a2 a3 = some h' → GG x 0 0 h 5 [(0, .ref a0), (1, .int a1), (2, .int a2), (3, .int a3)] [] := by
  intro f
  induction f with
  | zero => intro h a0 a1 a2 a3 hr; have hr : (none : Option (HP)) = some h' := hr; cases hr
  | succ f ih => intro h a0 a1 a2 a3 hr; exact bk_Ar_fill_B_5 C T hl0 (L_Ar_fill_B_5 f) ih h a0 a1 a2 a3 hr
def P_Ar_fill_B (h : HP) (p0 : Nat) (p1 : Int32) : Option (HP) :=
  bnd (lnP h p0) fun v1 =>
  L_Ar_fill_B_5 FU h p0 p1 0 v1
set_option maxHeartbeats 4000000 in
set_option maxRecDepth 100000 in
theorem c_Ar_fill_B {l : Launch} {h h' : HP} {p0 p1 : _} (hr : P_Ar_fill_B h p0 p1 = some h') : MP l y_Ar_fill_B (Cond.code y_Ar_fill_B b_Ar_fill_B 4 none :: TB) rm_Ar_fill_B h [.ref p0, .int p1] none h' := by
  refine MP_intro (cc := b_Ar_fill_B) (by decide) (Nat.le_of_ble_eq_true rfl) (fun x hl0 C T hin => ?_)
  unfold P_Ar_fill_B at hr
  show GG x 0 0 h 0 [(0, .ref p0), (1, .int p1)] []
  refine g_iconst (v := 0) C d_Ar_fill_B_0 (by decide) ?_
  refine g_istore_n (lv' := [(2, .int 0), (0, .ref p0), (1, .int p1)]) C d_Ar_fill_B_1 rfl (by decide) rfl ?_
  refine g_aload_n C 1 rfl d_Ar_fill_B_2 rfl ?_
  obtain ⟨v1, ev1, hr⟩ := of_bnd hr
  refine g_alenP C ev1 d_Ar_fill_B_3 ?_
  refine g_istore_n (lv' := [(3, .int v1), (2, .int 0), (0, .ref p0), (1, .int p1)]) C d_Ar_fill_B_4 rfl (by decide) rfl ?_
  refine g_lv [2, 3, 1, 0] rfl ?_
  exact lp_Ar_fill_B_5 C T hl0 FU h p0 p1 0 v1 hr
abbrev b_Wo_put : ByteArray := prog_10_method_2_code
abbrev y_Wo_put : MethodName := ⟨"PrimeKeys$Words", "put", "(I[BI)V"⟩
theorem d_Wo_put_0 : decode b_Wo_put 0 = .ok (.aload_n 1, 1) := by decide +kernel
theorem d_Wo_put_1 : decode b_Wo_put 1 = .ok (.iload_n 2, 1) := by decide +kernel
theorem d_Wo_put_2 : decode b_Wo_put 2 = .ok (.iload_n 0, 1) := by decide +kernel
theorem d_Wo_put_3 : decode b_Wo_put 3 = .ok (.bipush 24, 2) := by decide +kernel
theorem d_Wo_put_5 : decode b_Wo_put 5 = .ok (.iushr, 1) := by decide +kernel
theorem d_Wo_put_6 : decode b_Wo_put 6 = .ok (.i2b, 1) := by decide +kernel
theorem d_Wo_put_7 : decode b_Wo_put 7 = .ok (.bastore, 1) := by decide +kernel
theorem d_Wo_put_8 : decode b_Wo_put 8 = .ok (.aload_n 1, 1) := by decide +kernel
theorem d_Wo_put_9 : decode b_Wo_put 9 = .ok (.iload_n 2, 1) := by decide +kernel
theorem d_Wo_put_10 : decode b_Wo_put 10 = .ok (.iconst 1, 1) := by decide +kernel
theorem d_Wo_put_11 : decode b_Wo_put 11 = .ok (.iadd, 1) := by decide +kernel
theorem d_Wo_put_12 : decode b_Wo_put 12 = .ok (.iload_n 0, 1) := by decide +kernel
theorem d_Wo_put_13 : decode b_Wo_put 13 = .ok (.bipush 16, 2) := by decide +kernel
theorem d_Wo_put_15 : decode b_Wo_put 15 = .ok (.iushr, 1) := by decide +kernel
theorem d_Wo_put_16 : decode b_Wo_put 16 = .ok (.i2b, 1) := by decide +kernel
theorem d_Wo_put_17 : decode b_Wo_put 17 = .ok (.bastore, 1) := by decide +kernel
theorem d_Wo_put_18 : decode b_Wo_put 18 = .ok (.aload_n 1, 1) := by decide +kernel
theorem d_Wo_put_19 : decode b_Wo_put 19 = .ok (.iload_n 2, 1) := by decide +kernel
theorem d_Wo_put_20 : decode b_Wo_put 20 = .ok (.iconst 2, 1) := by decide +kernel
theorem d_Wo_put_21 : decode b_Wo_put 21 = .ok (.iadd, 1) := by decide +kernel
theorem d_Wo_put_22 : decode b_Wo_put 22 = .ok (.iload_n 0, 1) := by decide +kernel
theorem d_Wo_put_23 : decode b_Wo_put 23 = .ok (.bipush 8, 2) := by decide +kernel
theorem d_Wo_put_25 : decode b_Wo_put 25 = .ok (.iushr, 1) := by decide +kernel
theorem d_Wo_put_26 : decode b_Wo_put 26 = .ok (.i2b, 1) := by decide +kernel
theorem d_Wo_put_27 : decode b_Wo_put 27 = .ok (.bastore, 1) := by decide +kernel
theorem d_Wo_put_28 : decode b_Wo_put 28 = .ok (.aload_n 1, 1) := by decide +kernel
theorem d_Wo_put_29 : decode b_Wo_put 29 = .ok (.iload_n 2, 1) := by decide +kernel
theorem d_Wo_put_30 : decode b_Wo_put 30 = .ok (.iconst 3, 1) := by decide +kernel
theorem d_Wo_put_31 : decode b_Wo_put 31 = .ok (.iadd, 1) := by decide +kernel
theorem d_Wo_put_32 : decode b_Wo_put 32 = .ok (.iload_n 0, 1) := by decide +kernel
theorem d_Wo_put_33 : decode b_Wo_put 33 = .ok (.i2b, 1) := by decide +kernel
theorem d_Wo_put_34 : decode b_Wo_put 34 = .ok (.bastore, 1) := by decide +kernel
theorem d_Wo_put_35 : decode b_Wo_put 35 = .ok (.return_, 1) := by decide +kernel
abbrev rm_Wo_put : Room := { frames := 0, cells := 0, slots := 0, locals := 0 }
def P_Wo_put (h : HP) (p0 : Int32) (p1 : Nat) (p2 : Int32) : Option (HP) :=
  bnd (stB h p1 p2 ((Int32.toInt8 ((p0.toUInt32 >>> (Int32.toUInt32 24 &&& Int32.toUInt32 31)).toInt32)).toInt32)) fun h1 =>
  bnd (stB h1 p1 (p2 + 1) ((Int32.toInt8 ((p0.toUInt32 >>> (Int32.toUInt32 16 &&& Int32.toUInt32 31)).toInt32)).toInt32)) fun h2 =>
  bnd (stB h2 p1 (p2 + 2) ((Int32.toInt8 ((p0.toUInt32 >>> (Int32.toUInt32 8 &&& Int32.toUInt32 31)).toInt32)).toInt32)) fun h3 =>
  bnd (stB h3 p1 (p2 + 3) ((Int32.toInt8 p0).toInt32)) fun h4 =>
  some h4
set_option maxHeartbeats 4000000 in
set_option maxRecDepth 100000 in
theorem c_Wo_put {l : Launch} {h h' : HP} {p0 p1 p2 : _} (hr : P_Wo_put h p0 p1 p2 = some h') : MP l y_Wo_put (Cond.code y_Wo_put b_Wo_put 3 none :: TB) rm_Wo_put h [.int p0, .ref p1, .int p2] none h' := by
  refine MP_intro (cc := b_Wo_put) (by decide) (Nat.le_of_ble_eq_true rfl) (fun x hl0 C T hin => ?_)
  unfold P_Wo_put at hr
  show GG x 0 0 h 0 [(0, .int p0), (1, .ref p1), (2, .int p2)] []
  refine g_aload_n C 1 rfl d_Wo_put_0 rfl ?_
  refine g_iload_n C 2 rfl d_Wo_put_1 rfl ?_
  refine g_iload_n C 0 rfl d_Wo_put_2 rfl ?_
  refine g_bipush (v := 24) C d_Wo_put_3 (by decide) ?_
  refine g_iushr C d_Wo_put_5 ?_
  refine g_i2b C d_Wo_put_6 ?_
  obtain ⟨h1, eh1, hr⟩ := of_bnd hr
  refine g_bastore C eh1 d_Wo_put_7 ?_
  refine g_aload_n C 1 rfl d_Wo_put_8 rfl ?_
  refine g_iload_n C 2 rfl d_Wo_put_9 rfl ?_
  refine g_iconst (v := 1) C d_Wo_put_10 (by decide) ?_
  refine g_iadd C d_Wo_put_11 ?_
  refine g_iload_n C 0 rfl d_Wo_put_12 rfl ?_
  refine g_bipush (v := 16) C d_Wo_put_13 (by decide) ?_
  refine g_iushr C d_Wo_put_15 ?_
  refine g_i2b C d_Wo_put_16 ?_
  obtain ⟨h2, eh2, hr⟩ := of_bnd hr
  refine g_bastore C eh2 d_Wo_put_17 ?_
  refine g_aload_n C 1 rfl d_Wo_put_18 rfl ?_
  refine g_iload_n C 2 rfl d_Wo_put_19 rfl ?_
  refine g_iconst (v := 2) C d_Wo_put_20 (by decide) ?_
  refine g_iadd C d_Wo_put_21 ?_
  refine g_iload_n C 0 rfl d_Wo_put_22 rfl ?_
  refine g_bipush (v := 8) C d_Wo_put_23 (by decide) ?_
  refine g_iushr C d_Wo_put_25 ?_
  refine g_i2b C d_Wo_put_26 ?_
  obtain ⟨h3, eh3, hr⟩ := of_bnd hr
  refine g_bastore C eh3 d_Wo_put_27 ?_
  refine g_aload_n C 1 rfl d_Wo_put_28 rfl ?_
  refine g_iload_n C 2 rfl d_Wo_put_29 rfl ?_
  refine g_iconst (v := 3) C d_Wo_put_30 (by decide) ?_
  refine g_iadd C d_Wo_put_31 ?_
  refine g_iload_n C 0 rfl d_Wo_put_32 rfl ?_
  refine g_i2b C d_Wo_put_33 ?_
  obtain ⟨h4, eh4, hr⟩ := of_bnd hr
  refine g_bastore C eh4 d_Wo_put_34 ?_
  cases hr
  exact g_vreturn C T (by decide) (by decide) d_Wo_put_35
abbrev b_Li_read : ByteArray := prog_3_method_2_code
abbrev y_Li_read : MethodName := ⟨"PrimeKeys$Limbs", "read", "([BI[J)V"⟩
theorem d_Li_read_0 : decode b_Li_read 0 = .ok (.aload_n 2, 1) := by decide +kernel
theorem d_Li_read_1 : decode b_Li_read 1 = .ok (.lconst 0, 1) := by decide +kernel
theorem d_Li_read_2 : decode b_Li_read 2 = .ok (.invokestatic 11, 3) := by decide +kernel
theorem d_Li_read_5 : decode b_Li_read 5 = .ok (.iconst 0, 1) := by decide +kernel
theorem d_Li_read_6 : decode b_Li_read 6 = .ok (.istore_n 3, 1) := by decide +kernel
theorem d_Li_read_7 : decode b_Li_read 7 = .ok (.iload_n 3, 1) := by decide +kernel
theorem d_Li_read_8 : decode b_Li_read 8 = .ok (.bipush 32, 2) := by decide +kernel
theorem d_Li_read_10 : decode b_Li_read 10 = .ok (.if_icmp .ge 87, 3) := by decide +kernel
theorem d_Li_read_13 : decode b_Li_read 13 = .ok (.aload_n 0, 1) := by decide +kernel
theorem d_Li_read_14 : decode b_Li_read 14 = .ok (.iload_n 1, 1) := by decide +kernel
theorem d_Li_read_15 : decode b_Li_read 15 = .ok (.bipush 32, 2) := by decide +kernel
theorem d_Li_read_17 : decode b_Li_read 17 = .ok (.iadd, 1) := by decide +kernel
theorem d_Li_read_18 : decode b_Li_read 18 = .ok (.iconst 1, 1) := by decide +kernel
theorem d_Li_read_19 : decode b_Li_read 19 = .ok (.isub, 1) := by decide +kernel
theorem d_Li_read_20 : decode b_Li_read 20 = .ok (.iload_n 3, 1) := by decide +kernel
theorem d_Li_read_21 : decode b_Li_read 21 = .ok (.isub, 1) := by decide +kernel
theorem d_Li_read_22 : decode b_Li_read 22 = .ok (.baload, 1) := by decide +kernel
theorem d_Li_read_23 : decode b_Li_read 23 = .ok (.sipush 255, 3) := by decide +kernel
theorem d_Li_read_26 : decode b_Li_read 26 = .ok (.iand, 1) := by decide +kernel
theorem d_Li_read_27 : decode b_Li_read 27 = .ok (.i2l, 1) := by decide +kernel
theorem d_Li_read_28 : decode b_Li_read 28 = .ok (.lstore 4, 2) := by decide +kernel
theorem d_Li_read_30 : decode b_Li_read 30 = .ok (.bipush 8, 2) := by decide +kernel
theorem d_Li_read_32 : decode b_Li_read 32 = .ok (.iload_n 3, 1) := by decide +kernel
theorem d_Li_read_33 : decode b_Li_read 33 = .ok (.imul, 1) := by decide +kernel
theorem d_Li_read_34 : decode b_Li_read 34 = .ok (.bipush 29, 2) := by decide +kernel
theorem d_Li_read_36 : decode b_Li_read 36 = .ok (.idiv, 1) := by decide +kernel
theorem d_Li_read_37 : decode b_Li_read 37 = .ok (.istore 6, 2) := by decide +kernel
theorem d_Li_read_39 : decode b_Li_read 39 = .ok (.bipush 8, 2) := by decide +kernel
theorem d_Li_read_41 : decode b_Li_read 41 = .ok (.iload_n 3, 1) := by decide +kernel
theorem d_Li_read_42 : decode b_Li_read 42 = .ok (.imul, 1) := by decide +kernel
theorem d_Li_read_43 : decode b_Li_read 43 = .ok (.bipush 29, 2) := by decide +kernel
theorem d_Li_read_45 : decode b_Li_read 45 = .ok (.irem, 1) := by decide +kernel
theorem d_Li_read_46 : decode b_Li_read 46 = .ok (.istore 7, 2) := by decide +kernel
theorem d_Li_read_48 : decode b_Li_read 48 = .ok (.aload_n 2, 1) := by decide +kernel
theorem d_Li_read_49 : decode b_Li_read 49 = .ok (.iload 6, 2) := by decide +kernel
theorem d_Li_read_51 : decode b_Li_read 51 = .ok (.dup2, 1) := by decide +kernel
theorem d_Li_read_52 : decode b_Li_read 52 = .ok (.laload, 1) := by decide +kernel
theorem d_Li_read_53 : decode b_Li_read 53 = .ok (.lload 4, 2) := by decide +kernel
theorem d_Li_read_55 : decode b_Li_read 55 = .ok (.iload 7, 2) := by decide +kernel
theorem d_Li_read_57 : decode b_Li_read 57 = .ok (.lshl, 1) := by decide +kernel
theorem d_Li_read_58 : decode b_Li_read 58 = .ok (.ldc2_w 17, 3) := by decide +kernel
theorem d_Li_read_61 : decode b_Li_read 61 = .ok (.land, 1) := by decide +kernel
theorem d_Li_read_62 : decode b_Li_read 62 = .ok (.lor, 1) := by decide +kernel
theorem d_Li_read_63 : decode b_Li_read 63 = .ok (.lastore, 1) := by decide +kernel
theorem d_Li_read_64 : decode b_Li_read 64 = .ok (.iload 7, 2) := by decide +kernel
theorem d_Li_read_66 : decode b_Li_read 66 = .ok (.bipush 8, 2) := by decide +kernel
theorem d_Li_read_68 : decode b_Li_read 68 = .ok (.iadd, 1) := by decide +kernel
theorem d_Li_read_69 : decode b_Li_read 69 = .ok (.bipush 29, 2) := by decide +kernel
theorem d_Li_read_71 : decode b_Li_read 71 = .ok (.if_icmp .le 20, 3) := by decide +kernel
theorem d_Li_read_74 : decode b_Li_read 74 = .ok (.aload_n 2, 1) := by decide +kernel
theorem d_Li_read_75 : decode b_Li_read 75 = .ok (.iload 6, 2) := by decide +kernel
theorem d_Li_read_77 : decode b_Li_read 77 = .ok (.iconst 1, 1) := by decide +kernel
theorem d_Li_read_78 : decode b_Li_read 78 = .ok (.iadd, 1) := by decide +kernel
theorem d_Li_read_79 : decode b_Li_read 79 = .ok (.dup2, 1) := by decide +kernel
theorem d_Li_read_80 : decode b_Li_read 80 = .ok (.laload, 1) := by decide +kernel
theorem d_Li_read_81 : decode b_Li_read 81 = .ok (.lload 4, 2) := by decide +kernel
theorem d_Li_read_83 : decode b_Li_read 83 = .ok (.bipush 29, 2) := by decide +kernel
theorem d_Li_read_85 : decode b_Li_read 85 = .ok (.iload 7, 2) := by decide +kernel
theorem d_Li_read_87 : decode b_Li_read 87 = .ok (.isub, 1) := by decide +kernel
theorem d_Li_read_88 : decode b_Li_read 88 = .ok (.lshr, 1) := by decide +kernel
theorem d_Li_read_89 : decode b_Li_read 89 = .ok (.lor, 1) := by decide +kernel
theorem d_Li_read_90 : decode b_Li_read 90 = .ok (.lastore, 1) := by decide +kernel
theorem d_Li_read_91 : decode b_Li_read 91 = .ok (.iinc 3 1, 3) := by decide +kernel
theorem d_Li_read_94 : decode b_Li_read 94 = .ok (.goto (-87), 3) := by decide +kernel
theorem d_Li_read_97 : decode b_Li_read 97 = .ok (.return_, 1) := by decide +kernel
theorem kw_0 : Cond.constantLong "PrimeKeys$Limbs" 17 536870911 ∈ TB := tb_1 (List.mem_of_getElem? (i := 82) (by decide +kernel)) rfl
theorem cd_Li_11 : CD "PrimeKeys$Limbs" 11 y_Ar_fill_J b_Ar_fill_J 5 none 2 := ⟨tb_1 (List.mem_of_getElem? (i := 81) rfl) rfl, tb_1 (List.mem_of_getElem? (i := 7) (by decide +kernel)) rfl, tb_1 (List.mem_of_getElem? (i := 79) (by decide +kernel)) rfl, by decide +kernel⟩
theorem kw_st_Ar_fill_J : Cond.static y_Ar_fill_J ∈ TB := tb_1 (List.mem_of_getElem? (i := 80) (by decide +kernel)) rfl
abbrev rm_Li_read : Room := { frames := 1, cells := 0, slots := 0, locals := 24 }
def B_Li_read_91 (K7 : HP → Nat → Int32 → Nat → Int32 → Option (HP)) (h : HP) (a0 : Nat) (a1 : Int32) (a2 : Nat) (a3 : Int32) : Option (HP) :=
  lt (a3 + Int32.ofInt 1) fun x8 =>
  K7 h a0 a1 a2 x8
set_option maxHeartbeats 4000000 in
set_option maxRecDepth 100000 in
theorem bk_Li_read_91 {l : Launch} {x : CX} {h0 h' : HP} (C : EV x b_Li_read "PrimeKeys$Limbs" 8 rm_Li_read) (T : CT x (none) rm_Li_read h0 none h') (hl0 : x.1.2.1 = l) (K7 : HP → Nat → Int32 → Nat → Int32 → Option (HP)) (hK7 : ∀ (h : HP) (a0 : Nat) (a1 : Int32) (a2 : Nat) (a3 : Int32), K7 h a0 a1 a2 a3 = some h' → GG x 0 0 h 7 [(0, .ref a0), (1, .int a1), (2, .ref a2), (3, .int a3)] []) (h : HP) (a0 : Nat) (a1 : Int32) (a2 : Nat) (a3 : Int32) (hr : B_Li_read_91 K7 h a0 a1 a2 a3 = some h') : GG x 0 0 h 91 [(0, .ref a0), (1, .int a1), (2, .ref a2), (3, .int a3)] [] := by
  unfold B_Li_read_91 at hr
  obtain ⟨x8, ex8⟩ : ∃ z, z = a3 + Int32.ofInt 1 := ⟨_, rfl⟩
  have hr := of_lt ex8 hr
  refine g_iinc (lv' := [(3, .int x8), (0, .ref a0), (1, .int a1), (2, .ref a2)]) C 3 rfl d_Li_read_91 ex8.symm (by decide) rfl ?_
  refine g_goto (tgt := 7) C d_Li_read_94 (by decide) ?_
  refine g_lv [1, 2, 3, 0] rfl ?_
  exact hK7 h a0 a1 a2 x8 hr
def B_Li_read_7 (K7 : HP → Nat → Int32 → Nat → Int32 → Option (HP)) (h : HP) (a0 : Nat) (a1 : Int32) (a2 : Nat) (a3 : Int32) : Option (HP) :=
  if 32 ≤ a3 then
  some h
  else
  bnd (ldB h a0 (((a1 + 32) - 1) - a3)) fun v2 =>
  lt (Int32.toInt64 (v2 &&& 255)) fun x3 =>
  lt ((8 * a3) / 29) fun x4 =>
  lt ((8 * a3) - (8 * a3) / 29 * 29) fun x5 =>
  bnd (ldJ h a2 x4) fun v6 =>
  bnd (stJ h a2 x4 (v6 ||| ((x3 <<< (Int32.toInt64 x5 &&& 63)) &&& 536870911))) fun h7 =>
  if x5 + 8 ≤ 29 then
  B_Li_read_91 K7 h7 a0 a1 a2 a3
  else
  bnd (ldJ h7 a2 (x4 + 1)) fun v9 =>
  bnd (stJ h7 a2 (x4 + 1) (v9 ||| (x3 >>> (Int32.toInt64 (29 - x5) &&& 63)))) fun h10 =>
  B_Li_read_91 K7 h10 a0 a1 a2 a3
set_option maxHeartbeats 4000000 in
set_option maxRecDepth 100000 in
theorem bk_Li_read_7 {l : Launch} {x : CX} {h0 h' : HP} (C : EV x b_Li_read "PrimeKeys$Limbs" 8 rm_Li_read) (T : CT x (none) rm_Li_read h0 none h') (hl0 : x.1.2.1 = l) (K7 : HP → Nat → Int32 → Nat → Int32 → Option (HP)) (hK7 : ∀ (h : HP) (a0 : Nat) (a1 : Int32) (a2 : Nat) (a3 : Int32), K7 h a0 a1 a2 a3 = some h' → GG x 0 0 h 7 [(0, .ref a0), (1, .int a1), (2, .ref a2), (3, .int a3)] []) (h : HP) (a0 : Nat) (a1 : Int32) (a2 : Nat) (a3 : Int32) (hr : B_Li_read_7 K7 h a0 a1 a2 a3 = some h') : GG x 0 0 h 7 [(0, .ref a0), (1, .int a1), (2, .ref a2), (3, .int a3)] [] := by
  unfold B_Li_read_7 at hr
  refine g_iload_n C 3 rfl d_Li_read_7 rfl ?_
  refine g_bipush (v := 32) C d_Li_read_8 (by decide) ?_
  refine g_icmp_ge (tgt := 97) C d_Li_read_10 (by decide) (fun z => ?_) (fun z => ?_)
  · have hr := of_if z hr
    cases hr
    exact g_vreturn C T (by decide) (by decide) d_Li_read_97
  · have hr := of_el z hr
    refine g_aload_n C 0 rfl d_Li_read_13 rfl ?_
    refine g_iload_n C 1 rfl d_Li_read_14 rfl ?_
    refine g_bipush (v := 32) C d_Li_read_15 (by decide) ?_
    refine g_iadd C d_Li_read_17 ?_
    refine g_iconst (v := 1) C d_Li_read_18 (by decide) ?_
    refine g_isub C d_Li_read_19 ?_
    refine g_iload_n C 3 rfl d_Li_read_20 rfl ?_
    refine g_isub C d_Li_read_21 ?_
    obtain ⟨v2, ev2, hr⟩ := of_bnd hr
    refine g_baload C ev2 d_Li_read_22 ?_
    refine g_sipush (v := 255) C d_Li_read_23 (by decide) ?_
    refine g_iand C d_Li_read_26 ?_
    refine g_i2l C d_Li_read_27 ?_
    refine g_topl (fun x3 ex3 => ?_)
    have hr := of_lt ex3 hr
    refine g_lstore (lv' := [(4, .long x3), (0, .ref a0), (1, .int a1), (2, .ref a2), (3, .int a3)]) C d_Li_read_28 (by decide) rfl ?_
    refine g_bipush (v := 8) C d_Li_read_30 (by decide) ?_
    refine g_iload_n C 4 rfl d_Li_read_32 rfl ?_
    refine g_imul C d_Li_read_33 ?_
    refine g_bipush (v := 29) C d_Li_read_34 (by decide) ?_
    refine g_idiv C d_Li_read_36 (by decide) ?_
    refine g_topi (fun x4 ex4 => ?_)
    have hr := of_lt ex4 hr
    refine g_istore (lv' := [(6, .int x4), (4, .long x3), (0, .ref a0), (1, .int a1), (2, .ref a2), (3, .int a3)]) C d_Li_read_37 (by decide) rfl ?_
    refine g_bipush (v := 8) C d_Li_read_39 (by decide) ?_
    refine g_iload_n C 5 rfl d_Li_read_41 rfl ?_
    refine g_imul C d_Li_read_42 ?_
    refine g_bipush (v := 29) C d_Li_read_43 (by decide) ?_
    refine g_irem C d_Li_read_45 (by decide) ?_
    refine g_topi (fun x5 ex5 => ?_)
    have hr := of_lt ex5 hr
    refine g_istore (lv' := [(7, .int x5), (6, .int x4), (4, .long x3), (0, .ref a0), (1, .int a1), (2, .ref a2), (3, .int a3)]) C d_Li_read_46 (by decide) rfl ?_
    refine g_aload_n C 5 rfl d_Li_read_48 rfl ?_
    refine g_iload C 1 rfl d_Li_read_49 ?_
    refine g_dup2_11 C d_Li_read_51 rfl rfl ?_
    obtain ⟨v6, ev6, hr⟩ := of_bnd hr
    refine g_laload C ev6 d_Li_read_52 ?_
    refine g_lload C 2 rfl d_Li_read_53 ?_
    refine g_iload C 0 rfl d_Li_read_55 ?_
    refine g_lshl C d_Li_read_57 ?_
    refine g_ldc2 (v := 536870911) C d_Li_read_58 kw_0 ?_
    refine g_land C d_Li_read_61 ?_
    refine g_lor C d_Li_read_62 ?_
    obtain ⟨h7, eh7, hr⟩ := of_bnd hr
    refine g_lastore C eh7 d_Li_read_63 ?_
    refine g_iload C 0 rfl d_Li_read_64 ?_
    refine g_bipush (v := 8) C d_Li_read_66 (by decide) ?_
    refine g_iadd C d_Li_read_68 ?_
    refine g_bipush (v := 29) C d_Li_read_69 (by decide) ?_
    refine g_icmp_le (tgt := 91) C d_Li_read_71 (by decide) (fun z => ?_) (fun z => ?_)
    · have hr := of_if z hr
      refine g_lv [3, 4, 5, 6] rfl ?_
      exact bk_Li_read_91 C T hl0 K7 hK7 h7 a0 a1 a2 a3 hr
    · have hr := of_el z hr
      refine g_aload_n C 5 rfl d_Li_read_74 rfl ?_
      refine g_iload C 1 rfl d_Li_read_75 ?_
      refine g_iconst (v := 1) C d_Li_read_77 (by decide) ?_
      refine g_iadd C d_Li_read_78 ?_
      refine g_dup2_11 C d_Li_read_79 rfl rfl ?_
      obtain ⟨v9, ev9, hr⟩ := of_bnd hr
      refine g_laload C ev9 d_Li_read_80 ?_
      refine g_lload C 2 rfl d_Li_read_81 ?_
      refine g_bipush (v := 29) C d_Li_read_83 (by decide) ?_
      refine g_iload C 0 rfl d_Li_read_85 ?_
      refine g_isub C d_Li_read_87 ?_
      refine g_lshr C d_Li_read_88 ?_
      refine g_lor C d_Li_read_89 ?_
      obtain ⟨h10, eh10, hr⟩ := of_bnd hr
      refine g_lastore C eh10 d_Li_read_90 ?_
      refine g_lv [3, 4, 5, 6] rfl ?_
      exact bk_Li_read_91 C T hl0 K7 hK7 h10 a0 a1 a2 a3 hr
def L_Li_read_7 : Nat → HP → Nat → Int32 → Nat → Int32 → Option (HP)
  | 0, _, _, _, _, _ => none
  | f + 1, h, a0, a1, a2, a3 => B_Li_read_7 (L_Li_read_7 f) h a0 a1 a2 a3
theorem lp_Li_read_7 {l : Launch} {x : CX} {h0 h' : HP} (C : EV x b_Li_read "PrimeKeys$Limbs" 8 rm_Li_read) (T : CT x (none) rm_Li_read h0 none h') (hl0 : x.1.2.1 = l) : ∀ (f : Nat) (h : HP) (a0 : Nat) (a1 : Int32) (a2 : Nat) (a3 : Int32), L_Li_read_7 f h a0 a1 a2 a3 = some h' → GG x 0 0 h 7 [(0, .ref a0), (1, .int a1), (2, .ref a2), (3, .int a3)] [] := by
  intro f
  induction f with
  | zero => intro h a0 a1 a2 a3 hr; have hr : (none : Option (HP)) = some h' := hr; cases hr
  | succ f ih => intro h a0 a1 a2 a3 hr; exact bk_Li_read_7 C T hl0 (L_Li_read_7 f) ih h a0 a1 a2 a3 hr
def P_Li_read (h : HP) (p0 : Nat) (p1 : Int32) (p2 : Nat) : Option (HP) :=
  bnd (P_Ar_fill_J h p2 0) fun h1 =>
  L_Li_read_7 FU h1 p0 p1 p2 0
set_option maxHeartbeats 4000000 in
set_option maxRecDepth 100000 in
theorem c_Li_read {l : Launch} {h h' : HP} {p0 p1 p2 : _} (hr : P_Li_read h p0 p1 p2 = some h') : MP l y_Li_read (Cond.code y_Li_read b_Li_read 8 none :: TB) rm_Li_read h [.ref p0, .int p1, .ref p2] none h' := by
  refine MP_intro (cc := b_Li_read) (by decide) (Nat.le_of_ble_eq_true rfl) (fun x hl0 C T hin => ?_)
  unfold P_Li_read at hr
  show GG x 0 0 h 0 [(0, .ref p0), (1, .int p1), (2, .ref p2)] []
  refine g_aload_n C 2 rfl d_Li_read_0 rfl ?_
  refine g_lconst (v := 0) C d_Li_read_1 (by decide) ?_
  obtain ⟨h1, eh1, hr⟩ := of_bnd hr
  refine g_callS (pa := [.ref p2, .long 0]) C hl0 (c_Ar_fill_J eh1) cd_Li_11 kw_st_Ar_fill_J (by decide) rfl rfl (Nat.le_of_ble_eq_true rfl) d_Li_read_2 ?_
  refine g_iconst (v := 0) C d_Li_read_5 (by decide) ?_
  refine g_istore_n (lv' := [(3, .int 0), (0, .ref p0), (1, .int p1), (2, .ref p2)]) C d_Li_read_6 rfl (by decide) rfl ?_
  refine g_lv [1, 2, 3, 0] rfl ?_
  exact lp_Li_read_7 C T hl0 FU h1 p0 p1 p2 0 hr
abbrev b_Li_write : ByteArray := prog_3_method_3_code
abbrev y_Li_write : MethodName := ⟨"PrimeKeys$Limbs", "write", "([J[BI)V"⟩
theorem d_Li_write_0 : decode b_Li_write 0 = .ok (.iconst 0, 1) := by decide +kernel
theorem d_Li_write_1 : decode b_Li_write 1 = .ok (.istore_n 3, 1) := by decide +kernel
theorem d_Li_write_2 : decode b_Li_write 2 = .ok (.iload_n 3, 1) := by decide +kernel
theorem d_Li_write_3 : decode b_Li_write 3 = .ok (.bipush 32, 2) := by decide +kernel
theorem d_Li_write_5 : decode b_Li_write 5 = .ok (.if_icmp .ge 77, 3) := by decide +kernel
theorem d_Li_write_8 : decode b_Li_write 8 = .ok (.bipush 8, 2) := by decide +kernel
theorem d_Li_write_10 : decode b_Li_write 10 = .ok (.iload_n 3, 1) := by decide +kernel
theorem d_Li_write_11 : decode b_Li_write 11 = .ok (.imul, 1) := by decide +kernel
theorem d_Li_write_12 : decode b_Li_write 12 = .ok (.bipush 29, 2) := by decide +kernel
theorem d_Li_write_14 : decode b_Li_write 14 = .ok (.idiv, 1) := by decide +kernel
theorem d_Li_write_15 : decode b_Li_write 15 = .ok (.istore 4, 2) := by decide +kernel
theorem d_Li_write_17 : decode b_Li_write 17 = .ok (.bipush 8, 2) := by decide +kernel
theorem d_Li_write_19 : decode b_Li_write 19 = .ok (.iload_n 3, 1) := by decide +kernel
theorem d_Li_write_20 : decode b_Li_write 20 = .ok (.imul, 1) := by decide +kernel
theorem d_Li_write_21 : decode b_Li_write 21 = .ok (.bipush 29, 2) := by decide +kernel
theorem d_Li_write_23 : decode b_Li_write 23 = .ok (.irem, 1) := by decide +kernel
theorem d_Li_write_24 : decode b_Li_write 24 = .ok (.istore 5, 2) := by decide +kernel
theorem d_Li_write_26 : decode b_Li_write 26 = .ok (.aload_n 0, 1) := by decide +kernel
theorem d_Li_write_27 : decode b_Li_write 27 = .ok (.iload 4, 2) := by decide +kernel
theorem d_Li_write_29 : decode b_Li_write 29 = .ok (.laload, 1) := by decide +kernel
theorem d_Li_write_30 : decode b_Li_write 30 = .ok (.iload 5, 2) := by decide +kernel
theorem d_Li_write_32 : decode b_Li_write 32 = .ok (.lshr, 1) := by decide +kernel
theorem d_Li_write_33 : decode b_Li_write 33 = .ok (.lstore 6, 2) := by decide +kernel
theorem d_Li_write_35 : decode b_Li_write 35 = .ok (.iload 5, 2) := by decide +kernel
theorem d_Li_write_37 : decode b_Li_write 37 = .ok (.bipush 8, 2) := by decide +kernel
theorem d_Li_write_39 : decode b_Li_write 39 = .ok (.iadd, 1) := by decide +kernel
theorem d_Li_write_40 : decode b_Li_write 40 = .ok (.bipush 29, 2) := by decide +kernel
theorem d_Li_write_42 : decode b_Li_write 42 = .ok (.if_icmp .le 20, 3) := by decide +kernel
theorem d_Li_write_45 : decode b_Li_write 45 = .ok (.lload 6, 2) := by decide +kernel
theorem d_Li_write_47 : decode b_Li_write 47 = .ok (.aload_n 0, 1) := by decide +kernel
theorem d_Li_write_48 : decode b_Li_write 48 = .ok (.iload 4, 2) := by decide +kernel
theorem d_Li_write_50 : decode b_Li_write 50 = .ok (.iconst 1, 1) := by decide +kernel
theorem d_Li_write_51 : decode b_Li_write 51 = .ok (.iadd, 1) := by decide +kernel
theorem d_Li_write_52 : decode b_Li_write 52 = .ok (.laload, 1) := by decide +kernel
theorem d_Li_write_53 : decode b_Li_write 53 = .ok (.bipush 29, 2) := by decide +kernel
theorem d_Li_write_55 : decode b_Li_write 55 = .ok (.iload 5, 2) := by decide +kernel
theorem d_Li_write_57 : decode b_Li_write 57 = .ok (.isub, 1) := by decide +kernel
theorem d_Li_write_58 : decode b_Li_write 58 = .ok (.lshl, 1) := by decide +kernel
theorem d_Li_write_59 : decode b_Li_write 59 = .ok (.lor, 1) := by decide +kernel
theorem d_Li_write_60 : decode b_Li_write 60 = .ok (.lstore 6, 2) := by decide +kernel
theorem d_Li_write_62 : decode b_Li_write 62 = .ok (.aload_n 1, 1) := by decide +kernel
theorem d_Li_write_63 : decode b_Li_write 63 = .ok (.iload_n 2, 1) := by decide +kernel
theorem d_Li_write_64 : decode b_Li_write 64 = .ok (.bipush 32, 2) := by decide +kernel
theorem d_Li_write_66 : decode b_Li_write 66 = .ok (.iadd, 1) := by decide +kernel
theorem d_Li_write_67 : decode b_Li_write 67 = .ok (.iconst 1, 1) := by decide +kernel
theorem d_Li_write_68 : decode b_Li_write 68 = .ok (.isub, 1) := by decide +kernel
theorem d_Li_write_69 : decode b_Li_write 69 = .ok (.iload_n 3, 1) := by decide +kernel
theorem d_Li_write_70 : decode b_Li_write 70 = .ok (.isub, 1) := by decide +kernel
theorem d_Li_write_71 : decode b_Li_write 71 = .ok (.lload 6, 2) := by decide +kernel
theorem d_Li_write_73 : decode b_Li_write 73 = .ok (.l2i, 1) := by decide +kernel
theorem d_Li_write_74 : decode b_Li_write 74 = .ok (.i2b, 1) := by decide +kernel
theorem d_Li_write_75 : decode b_Li_write 75 = .ok (.bastore, 1) := by decide +kernel
theorem d_Li_write_76 : decode b_Li_write 76 = .ok (.iinc 3 1, 3) := by decide +kernel
theorem d_Li_write_79 : decode b_Li_write 79 = .ok (.goto (-77), 3) := by decide +kernel
theorem d_Li_write_82 : decode b_Li_write 82 = .ok (.return_, 1) := by decide +kernel
abbrev rm_Li_write : Room := { frames := 0, cells := 0, slots := 0, locals := 0 }
def B_Li_write_62 (K2 : HP → Nat → Nat → Int32 → Int32 → Option (HP)) (h : HP) (a0 : Nat) (a1 : Nat) (a2 : Int32) (a3 : Int32) (a6 : Int64) : Option (HP) :=
  bnd (stB h a1 (((a2 + 32) - 1) - a3) ((Int32.toInt8 (Int64.toInt32 a6)).toInt32)) fun h5 =>
  lt (a3 + Int32.ofInt 1) fun x6 =>
  K2 h5 a0 a1 a2 x6
set_option maxHeartbeats 4000000 in
set_option maxRecDepth 100000 in
theorem bk_Li_write_62 {l : Launch} {x : CX} {h0 h' : HP} (C : EV x b_Li_write "PrimeKeys$Limbs" 8 rm_Li_write) (T : CT x (none) rm_Li_write h0 none h') (hl0 : x.1.2.1 = l) (K2 : HP → Nat → Nat → Int32 → Int32 → Option (HP)) (hK2 : ∀ (h : HP) (a0 : Nat) (a1 : Nat) (a2 : Int32) (a3 : Int32), K2 h a0 a1 a2 a3 = some h' → GG x 0 0 h 2 [(0, .ref a0), (1, .ref a1), (2, .int a2), (3, .int a3)] []) (h : HP) (a0 : Nat) (a1 : Nat) (a2 : Int32) (a3 : Int32) (a6 : Int64) (hr : B_Li_write_62 K2 h a0 a1 a2 a3 a6 = some h') : GG x 0 0 h 62 [(0, .ref a0), (1, .ref a1), (2, .int a2), (3, .int a3), (6, .long a6)] [] := by
  unfold B_Li_write_62 at hr
  refine g_aload_n C 1 rfl d_Li_write_62 rfl ?_
  refine g_iload_n C 2 rfl d_Li_write_63 rfl ?_
  refine g_bipush (v := 32) C d_Li_write_64 (by decide) ?_
  refine g_iadd C d_Li_write_66 ?_
  refine g_iconst (v := 1) C d_Li_write_67 (by decide) ?_
  refine g_isub C d_Li_write_68 ?_
  refine g_iload_n C 3 rfl d_Li_write_69 rfl ?_
  refine g_isub C d_Li_write_70 ?_
  refine g_lload C 4 rfl d_Li_write_71 ?_
  refine g_l2i C d_Li_write_73 ?_
  refine g_i2b C d_Li_write_74 ?_
  obtain ⟨h5, eh5, hr⟩ := of_bnd hr
  refine g_bastore C eh5 d_Li_write_75 ?_
  obtain ⟨x6, ex6⟩ : ∃ z, z = a3 + Int32.ofInt 1 := ⟨_, rfl⟩
  have hr := of_lt ex6 hr
  refine g_iinc (lv' := [(3, .int x6), (0, .ref a0), (1, .ref a1), (2, .int a2), (6, .long a6)]) C 3 rfl d_Li_write_76 ex6.symm (by decide) rfl ?_
  refine g_goto (tgt := 2) C d_Li_write_79 (by decide) ?_
  refine g_lv [1, 2, 3, 0] rfl ?_
  exact hK2 h5 a0 a1 a2 x6 hr
def B_Li_write_2 (K2 : HP → Nat → Nat → Int32 → Int32 → Option (HP)) (h : HP) (a0 : Nat) (a1 : Nat) (a2 : Int32) (a3 : Int32) : Option (HP) :=
  if 32 ≤ a3 then
  some h
  else
  lt ((8 * a3) / 29) fun x1 =>
  lt ((8 * a3) - (8 * a3) / 29 * 29) fun x2 =>
  bnd (ldJ h a0 x1) fun v3 =>
  lt (v3 >>> (Int32.toInt64 x2 &&& 63)) fun x4 =>
  if x2 + 8 ≤ 29 then
  B_Li_write_62 K2 h a0 a1 a2 a3 x4
  else
  bnd (ldJ h a0 (x1 + 1)) fun v7 =>
  lt (x4 ||| (v7 <<< (Int32.toInt64 (29 - x2) &&& 63))) fun x8 =>
  B_Li_write_62 K2 h a0 a1 a2 a3 x8
set_option maxHeartbeats 4000000 in
set_option maxRecDepth 100000 in
theorem bk_Li_write_2 {l : Launch} {x : CX} {h0 h' : HP} (C : EV x b_Li_write "PrimeKeys$Limbs" 8 rm_Li_write) (T : CT x (none) rm_Li_write h0 none h') (hl0 : x.1.2.1 = l) (K2 : HP → Nat → Nat → Int32 → Int32 → Option (HP)) (hK2 : ∀ (h : HP) (a0 : Nat) (a1 : Nat) (a2 : Int32) (a3 : Int32), K2 h a0 a1 a2 a3 = some h' → GG x 0 0 h 2 [(0, .ref a0), (1, .ref a1), (2, .int a2), (3, .int a3)] []) (h : HP) (a0 : Nat) (a1 : Nat) (a2 : Int32) (a3 : Int32) (hr : B_Li_write_2 K2 h a0 a1 a2 a3 = some h') : GG x 0 0 h 2 [(0, .ref a0), (1, .ref a1), (2, .int a2), (3, .int a3)] [] := by
  unfold B_Li_write_2 at hr
  refine g_iload_n C 3 rfl d_Li_write_2 rfl ?_
  refine g_bipush (v := 32) C d_Li_write_3 (by decide) ?_
  refine g_icmp_ge (tgt := 82) C d_Li_write_5 (by decide) (fun z => ?_) (fun z => ?_)
  · have hr := of_if z hr
    cases hr
    exact g_vreturn C T (by decide) (by decide) d_Li_write_82
  · have hr := of_el z hr
    refine g_bipush (v := 8) C d_Li_write_8 (by decide) ?_
    refine g_iload_n C 3 rfl d_Li_write_10 rfl ?_
    refine g_imul C d_Li_write_11 ?_
    refine g_bipush (v := 29) C d_Li_write_12 (by decide) ?_
    refine g_idiv C d_Li_write_14 (by decide) ?_
    refine g_topi (fun x1 ex1 => ?_)
    have hr := of_lt ex1 hr
    refine g_istore (lv' := [(4, .int x1), (0, .ref a0), (1, .ref a1), (2, .int a2), (3, .int a3)]) C d_Li_write_15 (by decide) rfl ?_
    refine g_bipush (v := 8) C d_Li_write_17 (by decide) ?_
    refine g_iload_n C 4 rfl d_Li_write_19 rfl ?_
    refine g_imul C d_Li_write_20 ?_
    refine g_bipush (v := 29) C d_Li_write_21 (by decide) ?_
    refine g_irem C d_Li_write_23 (by decide) ?_
    refine g_topi (fun x2 ex2 => ?_)
    have hr := of_lt ex2 hr
    refine g_istore (lv' := [(5, .int x2), (4, .int x1), (0, .ref a0), (1, .ref a1), (2, .int a2), (3, .int a3)]) C d_Li_write_24 (by decide) rfl ?_
    refine g_aload_n C 2 rfl d_Li_write_26 rfl ?_
    refine g_iload C 1 rfl d_Li_write_27 ?_
    obtain ⟨v3, ev3, hr⟩ := of_bnd hr
    refine g_laload C ev3 d_Li_write_29 ?_
    refine g_iload C 0 rfl d_Li_write_30 ?_
    refine g_lshr C d_Li_write_32 ?_
    refine g_topl (fun x4 ex4 => ?_)
    have hr := of_lt ex4 hr
    refine g_lstore (lv' := [(6, .long x4), (5, .int x2), (4, .int x1), (0, .ref a0), (1, .ref a1), (2, .int a2), (3, .int a3)]) C d_Li_write_33 (by decide) rfl ?_
    refine g_iload C 1 rfl d_Li_write_35 ?_
    refine g_bipush (v := 8) C d_Li_write_37 (by decide) ?_
    refine g_iadd C d_Li_write_39 ?_
    refine g_bipush (v := 29) C d_Li_write_40 (by decide) ?_
    refine g_icmp_le (tgt := 62) C d_Li_write_42 (by decide) (fun z => ?_) (fun z => ?_)
    · have hr := of_if z hr
      refine g_lv [3, 4, 5, 6, 0] rfl ?_
      exact bk_Li_write_62 C T hl0 K2 hK2 h a0 a1 a2 a3 x4 hr
    · have hr := of_el z hr
      refine g_lload C 0 rfl d_Li_write_45 ?_
      refine g_aload_n C 3 rfl d_Li_write_47 rfl ?_
      refine g_iload C 2 rfl d_Li_write_48 ?_
      refine g_iconst (v := 1) C d_Li_write_50 (by decide) ?_
      refine g_iadd C d_Li_write_51 ?_
      obtain ⟨v7, ev7, hr⟩ := of_bnd hr
      refine g_laload C ev7 d_Li_write_52 ?_
      refine g_bipush (v := 29) C d_Li_write_53 (by decide) ?_
      refine g_iload C 1 rfl d_Li_write_55 ?_
      refine g_isub C d_Li_write_57 ?_
      refine g_lshl C d_Li_write_58 ?_
      refine g_lor C d_Li_write_59 ?_
      refine g_topl (fun x8 ex8 => ?_)
      have hr := of_lt ex8 hr
      refine g_lstore (lv' := [(6, .long x8), (5, .int x2), (4, .int x1), (0, .ref a0), (1, .ref a1), (2, .int a2), (3, .int a3)]) C d_Li_write_60 (by decide) rfl ?_
      refine g_lv [3, 4, 5, 6, 0] rfl ?_
      exact bk_Li_write_62 C T hl0 K2 hK2 h a0 a1 a2 a3 x8 hr
def L_Li_write_2 : Nat → HP → Nat → Nat → Int32 → Int32 → Option (HP)
  | 0, _, _, _, _, _ => none
  | f + 1, h, a0, a1, a2, a3 => B_Li_write_2 (L_Li_write_2 f) h a0 a1 a2 a3
theorem lp_Li_write_2 {l : Launch} {x : CX} {h0 h' : HP} (C : EV x b_Li_write "PrimeKeys$Limbs" 8 rm_Li_write) (T : CT x (none) rm_Li_write h0 none h') (hl0 : x.1.2.1 = l) : ∀ (f : Nat) (h : HP) (a0 : Nat) (a1 : Nat) (a2 : Int32) (a3 : Int32), L_Li_write_2 f h a0 a1 a2 a3 = some h' → GG x 0 0 h 2 [(0, .ref a0), (1, .ref a1), (2, .int a2), (3, .int a3)] [] := by
  intro f
  induction f with
  | zero => intro h a0 a1 a2 a3 hr; have hr : (none : Option (HP)) = some h' := hr; cases hr
  | succ f ih => intro h a0 a1 a2 a3 hr; exact bk_Li_write_2 C T hl0 (L_Li_write_2 f) ih h a0 a1 a2 a3 hr
def P_Li_write (h : HP) (p0 : Nat) (p1 : Nat) (p2 : Int32) : Option (HP) :=
  L_Li_write_2 FU h p0 p1 p2 0
set_option maxHeartbeats 4000000 in
set_option maxRecDepth 100000 in
theorem c_Li_write {l : Launch} {h h' : HP} {p0 p1 p2 : _} (hr : P_Li_write h p0 p1 p2 = some h') : MP l y_Li_write (Cond.code y_Li_write b_Li_write 8 none :: TB) rm_Li_write h [.ref p0, .ref p1, .int p2] none h' := by
  refine MP_intro (cc := b_Li_write) (by decide) (Nat.le_of_ble_eq_true rfl) (fun x hl0 C T hin => ?_)
  unfold P_Li_write at hr
  show GG x 0 0 h 0 [(0, .ref p0), (1, .ref p1), (2, .int p2)] []
  refine g_iconst (v := 0) C d_Li_write_0 (by decide) ?_
  refine g_istore_n (lv' := [(3, .int 0), (0, .ref p0), (1, .ref p1), (2, .int p2)]) C d_Li_write_1 rfl (by decide) rfl ?_
  refine g_lv [1, 2, 3, 0] rfl ?_
  exact lp_Li_write_2 C T hl0 FU h p0 p1 p2 0 hr
abbrev b_Li_readWords : ByteArray := prog_3_method_4_code
abbrev y_Li_readWords : MethodName := ⟨"PrimeKeys$Limbs", "readWords", "([I[J)V"⟩
theorem d_Li_readWords_0 : decode b_Li_readWords 0 = .ok (.bipush 32, 2) := by decide +kernel
theorem d_Li_readWords_2 : decode b_Li_readWords 2 = .ok (.newarray .byte, 2) := by decide +kernel
theorem d_Li_readWords_4 : decode b_Li_readWords 4 = .ok (.astore_n 2, 1) := by decide +kernel
theorem d_Li_readWords_5 : decode b_Li_readWords 5 = .ok (.iconst 0, 1) := by decide +kernel
theorem d_Li_readWords_6 : decode b_Li_readWords 6 = .ok (.istore_n 3, 1) := by decide +kernel
theorem d_Li_readWords_7 : decode b_Li_readWords 7 = .ok (.iload_n 3, 1) := by decide +kernel
theorem d_Li_readWords_8 : decode b_Li_readWords 8 = .ok (.aload_n 0, 1) := by decide +kernel
theorem d_Li_readWords_9 : decode b_Li_readWords 9 = .ok (.arraylength, 1) := by decide +kernel
theorem d_Li_readWords_10 : decode b_Li_readWords 10 = .ok (.if_icmp .ge 19, 3) := by decide +kernel
theorem d_Li_readWords_13 : decode b_Li_readWords 13 = .ok (.aload_n 0, 1) := by decide +kernel
theorem d_Li_readWords_14 : decode b_Li_readWords 14 = .ok (.iload_n 3, 1) := by decide +kernel
theorem d_Li_readWords_15 : decode b_Li_readWords 15 = .ok (.iaload, 1) := by decide +kernel
theorem d_Li_readWords_16 : decode b_Li_readWords 16 = .ok (.aload_n 2, 1) := by decide +kernel
theorem d_Li_readWords_17 : decode b_Li_readWords 17 = .ok (.iconst 4, 1) := by decide +kernel
theorem d_Li_readWords_18 : decode b_Li_readWords 18 = .ok (.iload_n 3, 1) := by decide +kernel
theorem d_Li_readWords_19 : decode b_Li_readWords 19 = .ok (.imul, 1) := by decide +kernel
theorem d_Li_readWords_20 : decode b_Li_readWords 20 = .ok (.invokestatic 19, 3) := by decide +kernel
theorem d_Li_readWords_23 : decode b_Li_readWords 23 = .ok (.iinc 3 1, 3) := by decide +kernel
theorem d_Li_readWords_26 : decode b_Li_readWords 26 = .ok (.goto (-19), 3) := by decide +kernel
theorem d_Li_readWords_29 : decode b_Li_readWords 29 = .ok (.aload_n 2, 1) := by decide +kernel
theorem d_Li_readWords_30 : decode b_Li_readWords 30 = .ok (.iconst 0, 1) := by decide +kernel
theorem d_Li_readWords_31 : decode b_Li_readWords 31 = .ok (.aload_n 1, 1) := by decide +kernel
theorem d_Li_readWords_32 : decode b_Li_readWords 32 = .ok (.invokestatic 25, 3) := by decide +kernel
theorem d_Li_readWords_35 : decode b_Li_readWords 35 = .ok (.return_, 1) := by decide +kernel
theorem cd_Li_25 : CD "PrimeKeys$Limbs" 25 y_Li_read b_Li_read 8 none 3 := ⟨tb_1 (List.mem_of_getElem? (i := 78) rfl) rfl, tb_1 (List.mem_of_getElem? (i := 5) (by decide +kernel)) rfl, tb_1 (List.mem_of_getElem? (i := 76) (by decide +kernel)) rfl, by decide +kernel⟩
theorem kw_st_Li_read : Cond.static y_Li_read ∈ TB := tb_1 (List.mem_of_getElem? (i := 77) (by decide +kernel)) rfl
theorem cd_Li_19 : CD "PrimeKeys$Limbs" 19 y_Wo_put b_Wo_put 3 none 3 := ⟨tb_1 (List.mem_of_getElem? (i := 75) rfl) rfl, tb_1 (List.mem_of_getElem? (i := 6) (by decide +kernel)) rfl, tb_1 (List.mem_of_getElem? (i := 73) (by decide +kernel)) rfl, by decide +kernel⟩
theorem kw_st_Wo_put : Cond.static y_Wo_put ∈ TB := tb_1 (List.mem_of_getElem? (i := 74) (by decide +kernel)) rfl
abbrev rm_Li_readWords : Room := { frames := 2, cells := 1, slots := 32, locals := 51 }
def B_Li_readWords_7 (K7 : HP → Nat → Nat → Nat → Int32 → Option (HP)) (h : HP) (a0 : Nat) (a1 : Nat) (a2 : Nat) (a3 : Int32) : Option (HP) :=
  bnd (tdN a0) fun v3 =>
  if v3 ≤ a3 then
  bnd (P_Li_read h a2 0 a1) fun h4 =>
  some h4
  else
  bnd (tdI a0 a3) fun v5 =>
  bnd (P_Wo_put h v5 a2 (4 * a3)) fun h6 =>
  lt (a3 + Int32.ofInt 1) fun x7 =>
  K7 h6 a0 a1 a2 x7
set_option maxHeartbeats 4000000 in
set_option maxRecDepth 100000 in
theorem bk_Li_readWords_7 {l : Launch} {x : CX} {h0 h' : HP} (C : EV x b_Li_readWords "PrimeKeys$Limbs" 4 rm_Li_readWords) (T : CT x (none) rm_Li_readWords h0 none h') (hl0 : x.1.2.1 = l) (K7 : HP → Nat → Nat → Nat → Int32 → Option (HP)) (hK7 : ∀ (h : HP) (a0 : Nat) (a1 : Nat) (a2 : Nat) (a3 : Int32), K7 h a0 a1 a2 a3 = some h' → GG x 1 32 h 7 [(0, .retAddr a0), (1, .ref a1), (2, .ref a2), (3, .int a3)] []) (h : HP) (a0 : Nat) (a1 : Nat) (a2 : Nat) (a3 : Int32) (hr : B_Li_readWords_7 K7 h a0 a1 a2 a3 = some h') : GG x 1 32 h 7 [(0, .retAddr a0), (1, .ref a1), (2, .ref a2), (3, .int a3)] [] := by
  unfold B_Li_readWords_7 at hr
  refine g_iload_n C 3 rfl d_Li_readWords_7 rfl ?_
  refine g_aload_nT C 0 rfl d_Li_readWords_8 rfl ?_
  obtain ⟨v3, ev3, hr⟩ := of_bnd hr
  refine g_alenT C ev3 d_Li_readWords_9 ?_
  refine g_icmp_ge (tgt := 29) C d_Li_readWords_10 (by decide) (fun z => ?_) (fun z => ?_)
  · have hr := of_if z hr
    refine g_aload_n C 2 rfl d_Li_readWords_29 rfl ?_
    refine g_iconst (v := 0) C d_Li_readWords_30 (by decide) ?_
    refine g_aload_n C 1 rfl d_Li_readWords_31 rfl ?_
    obtain ⟨h4, eh4, hr⟩ := of_bnd hr
    refine g_callS (pa := [.ref a2, .int 0, .ref a1]) C hl0 (c_Li_read eh4) cd_Li_25 kw_st_Li_read (by decide) rfl rfl (Nat.le_of_ble_eq_true rfl) d_Li_readWords_32 ?_
    cases hr
    exact g_vreturn C T (by decide) (by decide) d_Li_readWords_35
  · have hr := of_el z hr
    refine g_aload_nT C 0 rfl d_Li_readWords_13 rfl ?_
    refine g_iload_n C 3 rfl d_Li_readWords_14 rfl ?_
    obtain ⟨v5, ev5, hr⟩ := of_bnd hr
    refine g_ialoadT C ev5 d_Li_readWords_15 ?_
    refine g_aload_n C 2 rfl d_Li_readWords_16 rfl ?_
    refine g_iconst (v := 4) C d_Li_readWords_17 (by decide) ?_
    refine g_iload_n C 3 rfl d_Li_readWords_18 rfl ?_
    refine g_imul C d_Li_readWords_19 ?_
    obtain ⟨h6, eh6, hr⟩ := of_bnd hr
    refine g_callS (pa := [.int v5, .ref a2, .int (4 * a3)]) C hl0 (c_Wo_put eh6) cd_Li_19 kw_st_Wo_put (by decide) rfl rfl (Nat.le_of_ble_eq_true rfl) d_Li_readWords_20 ?_
    obtain ⟨x7, ex7⟩ : ∃ z, z = a3 + Int32.ofInt 1 := ⟨_, rfl⟩
    have hr := of_lt ex7 hr
    refine g_iinc (lv' := [(3, .int x7), (0, .retAddr a0), (1, .ref a1), (2, .ref a2)]) C 3 rfl d_Li_readWords_23 ex7.symm (by decide) rfl ?_
    refine g_goto (tgt := 7) C d_Li_readWords_26 (by decide) ?_
    refine g_lv [1, 2, 3, 0] rfl ?_
    exact hK7 h6 a0 a1 a2 x7 hr
def L_Li_readWords_7 : Nat → HP → Nat → Nat → Nat → Int32 → Option (HP)
  | 0, _, _, _, _, _ => none
  | f + 1, h, a0, a1, a2, a3 => B_Li_readWords_7 (L_Li_readWords_7 f) h a0 a1 a2 a3
theorem lp_Li_readWords_7 {l : Launch} {x : CX} {h0 h' : HP} (C : EV x b_Li_readWords "PrimeKeys$Limbs" 4 rm_Li_readWords) (T : CT x (none) rm_Li_readWords h0 none h') (hl0 : x.1.2.1 = l) : ∀ (f : Nat) (h : HP) (a0 : Nat) (a1 : Nat) (a2 : Nat) (a3 : Int32), L_Li_readWords_7 f h a0 a1 a2 a3 = some h' → GG x 1 32 h 7 [(0, .retAddr a0), (1, .ref a1), (2, .ref a2), (3, .int a3)] [] := by
  intro f
  induction f with
  | zero => intro h a0 a1 a2 a3 hr; have hr : (none : Option (HP)) = some h' := hr; cases hr
  | succ f ih => intro h a0 a1 a2 a3 hr; exact bk_Li_readWords_7 C T hl0 (L_Li_readWords_7 f) ih h a0 a1 a2 a3 hr
def P_Li_readWords (h : HP) (p0 : Nat) (p1 : Nat) : Option (HP) :=
  lt (h ++ [pB 32 (fun _ => 0)]) fun h1 =>
  lt h.length fun k2 =>
  L_Li_readWords_7 FU h1 p0 p1 k2 0
set_option maxHeartbeats 4000000 in
set_option maxRecDepth 100000 in
theorem c_Li_readWords {l : Launch} {h h' : HP} {p0 p1 : _} (hr : P_Li_readWords h p0 p1 = some h') : MP l y_Li_readWords (Cond.code y_Li_readWords b_Li_readWords 4 none :: TB) rm_Li_readWords h [.retAddr p0, .ref p1] none h' := by
  refine MP_intro (cc := b_Li_readWords) (by decide) (Nat.le_of_ble_eq_true rfl) (fun x hl0 C T hin => ?_)
  unfold P_Li_readWords at hr
  show GG x 0 0 h 0 [(0, .retAddr p0), (1, .ref p1)] []
  refine g_bipush (v := 32) C d_Li_readWords_0 (by decide) ?_
  obtain ⟨h1, eh1⟩ : ∃ z, z = h ++ [pB 32 (fun _ => 0)] := ⟨_, rfl⟩
  have hr := of_lt eh1 hr
  obtain ⟨k2, ek2⟩ : ∃ z, z = h.length := ⟨_, rfl⟩
  have hr := of_lt ek2 hr
  refine g_newBE (n' := 32) C eh1 ek2 (by decide) (by decide) (by decide) (by decide) (by decide) d_Li_readWords_2 ?_
  refine g_astore_n (lv' := [(2, .ref k2), (0, .retAddr p0), (1, .ref p1)]) C d_Li_readWords_4 rfl (by decide) rfl ?_
  refine g_iconst (v := 0) C d_Li_readWords_5 (by decide) ?_
  refine g_istore_n (lv' := [(3, .int 0), (2, .ref k2), (0, .retAddr p0), (1, .ref p1)]) C d_Li_readWords_6 rfl (by decide) rfl ?_
  refine g_lv [2, 3, 1, 0] rfl ?_
  exact lp_Li_readWords_7 C T hl0 FU h1 p0 p1 k2 0 hr
abbrev b_Li_areZero : ByteArray := prog_3_method_5_code
abbrev y_Li_areZero : MethodName := ⟨"PrimeKeys$Limbs", "areZero", "([J)Z"⟩
theorem d_Li_areZero_0 : decode b_Li_areZero 0 = .ok (.lconst 0, 1) := by decide +kernel
theorem d_Li_areZero_1 : decode b_Li_areZero 1 = .ok (.lstore_n 1, 1) := by decide +kernel
theorem d_Li_areZero_2 : decode b_Li_areZero 2 = .ok (.iconst 0, 1) := by decide +kernel
theorem d_Li_areZero_3 : decode b_Li_areZero 3 = .ok (.istore_n 3, 1) := by decide +kernel
theorem d_Li_areZero_4 : decode b_Li_areZero 4 = .ok (.iload_n 3, 1) := by decide +kernel
theorem d_Li_areZero_5 : decode b_Li_areZero 5 = .ok (.bipush 9, 2) := by decide +kernel
theorem d_Li_areZero_7 : decode b_Li_areZero 7 = .ok (.if_icmp .ge 15, 3) := by decide +kernel
theorem d_Li_areZero_10 : decode b_Li_areZero 10 = .ok (.lload_n 1, 1) := by decide +kernel
theorem d_Li_areZero_11 : decode b_Li_areZero 11 = .ok (.aload_n 0, 1) := by decide +kernel
theorem d_Li_areZero_12 : decode b_Li_areZero 12 = .ok (.iload_n 3, 1) := by decide +kernel
theorem d_Li_areZero_13 : decode b_Li_areZero 13 = .ok (.laload, 1) := by decide +kernel
theorem d_Li_areZero_14 : decode b_Li_areZero 14 = .ok (.lor, 1) := by decide +kernel
theorem d_Li_areZero_15 : decode b_Li_areZero 15 = .ok (.lstore_n 1, 1) := by decide +kernel
theorem d_Li_areZero_16 : decode b_Li_areZero 16 = .ok (.iinc 3 1, 3) := by decide +kernel
theorem d_Li_areZero_19 : decode b_Li_areZero 19 = .ok (.goto (-15), 3) := by decide +kernel
theorem d_Li_areZero_22 : decode b_Li_areZero 22 = .ok (.lload_n 1, 1) := by decide +kernel
theorem d_Li_areZero_23 : decode b_Li_areZero 23 = .ok (.lconst 0, 1) := by decide +kernel
theorem d_Li_areZero_24 : decode b_Li_areZero 24 = .ok (.lcmp, 1) := by decide +kernel
theorem d_Li_areZero_25 : decode b_Li_areZero 25 = .ok (.ifCond .ne 7, 3) := by decide +kernel
theorem d_Li_areZero_28 : decode b_Li_areZero 28 = .ok (.iconst 1, 1) := by decide +kernel
theorem d_Li_areZero_29 : decode b_Li_areZero 29 = .ok (.goto 4, 3) := by decide +kernel
theorem d_Li_areZero_32 : decode b_Li_areZero 32 = .ok (.iconst 0, 1) := by decide +kernel
theorem d_Li_areZero_33 : decode b_Li_areZero 33 = .ok (.ireturn, 1) := by decide +kernel
abbrev rm_Li_areZero : Room := { frames := 0, cells := 0, slots := 0, locals := 0 }
def B_Li_areZero_4 (K4 : HP → Nat → Int64 → Int32 → Option (Int32 × HP)) (h : HP) (a0 : Nat) (a1 : Int64) (a3 : Int32) : Option (Int32 × HP) :=
  if 9 ≤ a3 then
  if lg_cmp a1 0 = 0 then
  some (1, h)
  else
  some (0, h)
  else
  bnd (ldJ h a0 a3) fun v1 =>
  lt (a1 ||| v1) fun x2 =>
  lt (a3 + Int32.ofInt 1) fun x3 =>
  K4 h a0 x2 x3
set_option maxHeartbeats 4000000 in
set_option maxRecDepth 100000 in
theorem bk_Li_areZero_4 {l : Launch} {x : CX} {h0 h' : HP} {r' : Int32} (C : EV x b_Li_areZero "PrimeKeys$Limbs" 4 rm_Li_areZero) (T : CT x (some .boolean) rm_Li_areZero h0 (some (.int r')) h') (hl0 : x.1.2.1 = l) (K4 : HP → Nat → Int64 → Int32 → Option (Int32 × HP)) (hK4 : ∀ (h : HP) (a0 : Nat) (a1 : Int64) (a3 : Int32), K4 h a0 a1 a3 = some (r', h') → GG x 0 0 h 4 [(0, .ref a0), (1, .long a1), (3, .int a3)] []) (h : HP) (a0 : Nat) (a1 : Int64) (a3 : Int32) (hr : B_Li_areZero_4 K4 h a0 a1 a3 = some (r', h')) : GG x 0 0 h 4 [(0, .ref a0), (1, .long a1), (3, .int a3)] [] := by
  unfold B_Li_areZero_4 at hr
  refine g_iload_n C 2 rfl d_Li_areZero_4 rfl ?_
  refine g_bipush (v := 9) C d_Li_areZero_5 (by decide) ?_
  refine g_icmp_ge (tgt := 22) C d_Li_areZero_7 (by decide) (fun z => ?_) (fun z => ?_)
  · have hr := of_if z hr
    refine g_lload_n C 1 rfl d_Li_areZero_22 rfl ?_
    refine g_lconst (v := 0) C d_Li_areZero_23 (by decide) ?_
    refine g_lcmp C d_Li_areZero_24 ?_
    refine g_if_ne (tgt := 32) C d_Li_areZero_25 (by decide) (fun z => ?_) (fun z => ?_)
    · have hr := of_el z hr
      refine g_iconst (v := 0) C d_Li_areZero_32 (by decide) ?_
      cases hr
      exact g_ireturn C T rfl (by decide) (by decide) d_Li_areZero_33
    · have hr := of_if z hr
      refine g_iconst (v := 1) C d_Li_areZero_28 (by decide) ?_
      refine g_goto (tgt := 33) C d_Li_areZero_29 (by decide) ?_
      cases hr
      exact g_ireturn C T rfl (by decide) (by decide) d_Li_areZero_33
  · have hr := of_el z hr
    refine g_lload_n C 1 rfl d_Li_areZero_10 rfl ?_
    refine g_aload_n C 0 rfl d_Li_areZero_11 rfl ?_
    refine g_iload_n C 2 rfl d_Li_areZero_12 rfl ?_
    obtain ⟨v1, ev1, hr⟩ := of_bnd hr
    refine g_laload C ev1 d_Li_areZero_13 ?_
    refine g_lor C d_Li_areZero_14 ?_
    refine g_topl (fun x2 ex2 => ?_)
    have hr := of_lt ex2 hr
    refine g_lstore_n (lv' := [(1, .long x2), (0, .ref a0), (3, .int a3)]) C d_Li_areZero_15 rfl (by decide) rfl ?_
    obtain ⟨x3, ex3⟩ : ∃ z, z = a3 + Int32.ofInt 1 := ⟨_, rfl⟩
    have hr := of_lt ex3 hr
    refine g_iinc (lv' := [(3, .int x3), (1, .long x2), (0, .ref a0)]) C 2 rfl d_Li_areZero_16 ex3.symm (by decide) rfl ?_
    refine g_goto (tgt := 4) C d_Li_areZero_19 (by decide) ?_
    refine g_lv [2, 1, 0] rfl ?_
    exact hK4 h a0 x2 x3 hr
def L_Li_areZero_4 : Nat → HP → Nat → Int64 → Int32 → Option (Int32 × HP)
  | 0, _, _, _, _ => none
  | f + 1, h, a0, a1, a3 => B_Li_areZero_4 (L_Li_areZero_4 f) h a0 a1 a3
theorem lp_Li_areZero_4 {l : Launch} {x : CX} {h0 h' : HP} {r' : Int32} (C : EV x b_Li_areZero "PrimeKeys$Limbs" 4 rm_Li_areZero) (T : CT x (some .boolean) rm_Li_areZero h0 (some (.int r')) h') (hl0 : x.1.2.1 = l) : ∀ (f : Nat) (h : HP) (a0 : Nat) (a1 : Int64) (a3 : Int32), L_Li_areZero_4 f h a0 a1 a3 = some (r', h') → GG x 0 0 h 4 [(0, .ref a0), (1, .long a1), (3, .int a3)] [] := by
  intro f
  induction f with
  | zero => intro h a0 a1 a3 hr; have hr : (none : Option (Int32 × HP)) = some (r', h') := hr; cases hr
  | succ f ih => intro h a0 a1 a3 hr; exact bk_Li_areZero_4 C T hl0 (L_Li_areZero_4 f) ih h a0 a1 a3 hr
def P_Li_areZero (h : HP) (p0 : Nat) : Option (Int32 × HP) :=
  L_Li_areZero_4 FU h p0 0 0
set_option maxHeartbeats 4000000 in
set_option maxRecDepth 100000 in
theorem c_Li_areZero {l : Launch} {h h' : HP} {p0 : _} {r' : Int32} (hr : P_Li_areZero h p0 = some (r', h')) : MP l y_Li_areZero (Cond.code y_Li_areZero b_Li_areZero 4 (some .boolean) :: TB) rm_Li_areZero h [.ref p0] (some (.int r')) h' := by
  refine MP_intro (cc := b_Li_areZero) (by decide) (Nat.le_of_ble_eq_true rfl) (fun x hl0 C T hin => ?_)
  unfold P_Li_areZero at hr
  show GG x 0 0 h 0 [(0, .ref p0)] []
  refine g_lconst (v := 0) C d_Li_areZero_0 (by decide) ?_
  refine g_lstore_n (lv' := [(1, .long 0), (0, .ref p0)]) C d_Li_areZero_1 rfl (by decide) rfl ?_
  refine g_iconst (v := 0) C d_Li_areZero_2 (by decide) ?_
  refine g_istore_n (lv' := [(3, .int 0), (1, .long 0), (0, .ref p0)]) C d_Li_areZero_3 rfl (by decide) rfl ?_
  refine g_lv [2, 1, 0] rfl ?_
  exact lp_Li_areZero_4 C T hl0 FU h p0 0 0 hr
abbrev b_Li_areSame : ByteArray := prog_3_method_6_code
abbrev y_Li_areSame : MethodName := ⟨"PrimeKeys$Limbs", "areSame", "([J[J)Z"⟩
theorem d_Li_areSame_0 : decode b_Li_areSame 0 = .ok (.lconst 0, 1) := by decide +kernel
theorem d_Li_areSame_1 : decode b_Li_areSame 1 = .ok (.lstore_n 2, 1) := by decide +kernel
theorem d_Li_areSame_2 : decode b_Li_areSame 2 = .ok (.iconst 0, 1) := by decide +kernel
theorem d_Li_areSame_3 : decode b_Li_areSame 3 = .ok (.istore 4, 2) := by decide +kernel
theorem d_Li_areSame_5 : decode b_Li_areSame 5 = .ok (.iload 4, 2) := by decide +kernel
theorem d_Li_areSame_7 : decode b_Li_areSame 7 = .ok (.bipush 9, 2) := by decide +kernel
theorem d_Li_areSame_9 : decode b_Li_areSame 9 = .ok (.if_icmp .ge 21, 3) := by decide +kernel
theorem d_Li_areSame_12 : decode b_Li_areSame 12 = .ok (.lload_n 2, 1) := by decide +kernel
theorem d_Li_areSame_13 : decode b_Li_areSame 13 = .ok (.aload_n 0, 1) := by decide +kernel
theorem d_Li_areSame_14 : decode b_Li_areSame 14 = .ok (.iload 4, 2) := by decide +kernel
theorem d_Li_areSame_16 : decode b_Li_areSame 16 = .ok (.laload, 1) := by decide +kernel
theorem d_Li_areSame_17 : decode b_Li_areSame 17 = .ok (.aload_n 1, 1) := by decide +kernel
theorem d_Li_areSame_18 : decode b_Li_areSame 18 = .ok (.iload 4, 2) := by decide +kernel
theorem d_Li_areSame_20 : decode b_Li_areSame 20 = .ok (.laload, 1) := by decide +kernel
theorem d_Li_areSame_21 : decode b_Li_areSame 21 = .ok (.lxor, 1) := by decide +kernel
theorem d_Li_areSame_22 : decode b_Li_areSame 22 = .ok (.lor, 1) := by decide +kernel
theorem d_Li_areSame_23 : decode b_Li_areSame 23 = .ok (.lstore_n 2, 1) := by decide +kernel
theorem d_Li_areSame_24 : decode b_Li_areSame 24 = .ok (.iinc 4 1, 3) := by decide +kernel
theorem d_Li_areSame_27 : decode b_Li_areSame 27 = .ok (.goto (-22), 3) := by decide +kernel
theorem d_Li_areSame_30 : decode b_Li_areSame 30 = .ok (.lload_n 2, 1) := by decide +kernel
theorem d_Li_areSame_31 : decode b_Li_areSame 31 = .ok (.lconst 0, 1) := by decide +kernel
theorem d_Li_areSame_32 : decode b_Li_areSame 32 = .ok (.lcmp, 1) := by decide +kernel
theorem d_Li_areSame_33 : decode b_Li_areSame 33 = .ok (.ifCond .ne 7, 3) := by decide +kernel
theorem d_Li_areSame_36 : decode b_Li_areSame 36 = .ok (.iconst 1, 1) := by decide +kernel
theorem d_Li_areSame_37 : decode b_Li_areSame 37 = .ok (.goto 4, 3) := by decide +kernel
theorem d_Li_areSame_40 : decode b_Li_areSame 40 = .ok (.iconst 0, 1) := by decide +kernel
theorem d_Li_areSame_41 : decode b_Li_areSame 41 = .ok (.ireturn, 1) := by decide +kernel
abbrev rm_Li_areSame : Room := { frames := 0, cells := 0, slots := 0, locals := 0 }
def B_Li_areSame_5 (K5 : HP → Nat → Nat → Int64 → Int32 → Option (Int32 × HP)) (h : HP) (a0 : Nat) (a1 : Nat) (a2 : Int64) (a4 : Int32) : Option (Int32 × HP) :=
  if 9 ≤ a4 then
  if lg_cmp a2 0 = 0 then
  some (1, h)
  else
  some (0, h)
  else
  bnd (ldJ h a0 a4) fun v1 =>
  bnd (ldJ h a1 a4) fun v2 =>
  lt (a2 ||| (v1 ^^^ v2)) fun x3 =>
  lt (a4 + Int32.ofInt 1) fun x4 =>
  K5 h a0 a1 x3 x4
set_option maxHeartbeats 4000000 in
set_option maxRecDepth 100000 in
theorem bk_Li_areSame_5 {l : Launch} {x : CX} {h0 h' : HP} {r' : Int32} (C : EV x b_Li_areSame "PrimeKeys$Limbs" 5 rm_Li_areSame) (T : CT x (some .boolean) rm_Li_areSame h0 (some (.int r')) h') (hl0 : x.1.2.1 = l) (K5 : HP → Nat → Nat → Int64 → Int32 → Option (Int32 × HP)) (hK5 : ∀ (h : HP) (a0 : Nat) (a1 : Nat) (a2 : Int64) (a4 : Int32), K5 h a0 a1 a2 a4 = some (r', h') → GG x 0 0 h 5 [(0, .ref a0), (1, .ref a1), (2, .long a2), (4, .int a4)] []) (h : HP) (a0 : Nat) (a1 : Nat) (a2 : Int64) (a4 : Int32) (hr : B_Li_areSame_5 K5 h a0 a1 a2 a4 = some (r', h')) : GG x 0 0 h 5 [(0, .ref a0), (1, .ref a1), (2, .long a2), (4, .int a4)] [] := by
  unfold B_Li_areSame_5 at hr
  refine g_iload C 3 rfl d_Li_areSame_5 ?_
  refine g_bipush (v := 9) C d_Li_areSame_7 (by decide) ?_
  refine g_icmp_ge (tgt := 30) C d_Li_areSame_9 (by decide) (fun z => ?_) (fun z => ?_)
  · have hr := of_if z hr
    refine g_lload_n C 2 rfl d_Li_areSame_30 rfl ?_
    refine g_lconst (v := 0) C d_Li_areSame_31 (by decide) ?_
    refine g_lcmp C d_Li_areSame_32 ?_
    refine g_if_ne (tgt := 40) C d_Li_areSame_33 (by decide) (fun z => ?_) (fun z => ?_)
    · have hr := of_el z hr
      refine g_iconst (v := 0) C d_Li_areSame_40 (by decide) ?_
      cases hr
      exact g_ireturn C T rfl (by decide) (by decide) d_Li_areSame_41
    · have hr := of_if z hr
      refine g_iconst (v := 1) C d_Li_areSame_36 (by decide) ?_
      refine g_goto (tgt := 41) C d_Li_areSame_37 (by decide) ?_
      cases hr
      exact g_ireturn C T rfl (by decide) (by decide) d_Li_areSame_41
  · have hr := of_el z hr
    refine g_lload_n C 2 rfl d_Li_areSame_12 rfl ?_
    refine g_aload_n C 0 rfl d_Li_areSame_13 rfl ?_
    refine g_iload C 3 rfl d_Li_areSame_14 ?_
    obtain ⟨v1, ev1, hr⟩ := of_bnd hr
    refine g_laload C ev1 d_Li_areSame_16 ?_
    refine g_aload_n C 1 rfl d_Li_areSame_17 rfl ?_
    refine g_iload C 3 rfl d_Li_areSame_18 ?_
    obtain ⟨v2, ev2, hr⟩ := of_bnd hr
    refine g_laload C ev2 d_Li_areSame_20 ?_
    refine g_lxor C d_Li_areSame_21 ?_
    refine g_lor C d_Li_areSame_22 ?_
    refine g_topl (fun x3 ex3 => ?_)
    have hr := of_lt ex3 hr
    refine g_lstore_n (lv' := [(2, .long x3), (0, .ref a0), (1, .ref a1), (4, .int a4)]) C d_Li_areSame_23 rfl (by decide) rfl ?_
    obtain ⟨x4, ex4⟩ : ∃ z, z = a4 + Int32.ofInt 1 := ⟨_, rfl⟩
    have hr := of_lt ex4 hr
    refine g_iinc (lv' := [(4, .int x4), (2, .long x3), (0, .ref a0), (1, .ref a1)]) C 3 rfl d_Li_areSame_24 ex4.symm (by decide) rfl ?_
    refine g_goto (tgt := 5) C d_Li_areSame_27 (by decide) ?_
    refine g_lv [2, 3, 1, 0] rfl ?_
    exact hK5 h a0 a1 x3 x4 hr
def L_Li_areSame_5 : Nat → HP → Nat → Nat → Int64 → Int32 → Option (Int32 × HP)
  | 0, _, _, _, _, _ => none
  | f + 1, h, a0, a1, a2, a4 => B_Li_areSame_5 (L_Li_areSame_5 f) h a0 a1 a2 a4
theorem lp_Li_areSame_5 {l : Launch} {x : CX} {h0 h' : HP} {r' : Int32} (C : EV x b_Li_areSame "PrimeKeys$Limbs" 5 rm_Li_areSame) (T : CT x (some .boolean) rm_Li_areSame h0 (some (.int r')) h') (hl0 : x.1.2.1 = l) : ∀ (f : Nat) (h : HP) (a0 : Nat) (a1 : Nat) (a2 : Int64) (a4 : Int32), L_Li_areSame_5 f h a0 a1 a2 a4 = some (r', h') → GG x 0 0 h 5 [(0, .ref a0), (1, .ref a1), (2, .long a2), (4, .int a4)] [] := by
  intro f
  induction f with
  | zero => intro h a0 a1 a2 a4 hr; have hr : (none : Option (Int32 × HP)) = some (r', h') := hr; cases hr
  | succ f ih => intro h a0 a1 a2 a4 hr; exact bk_Li_areSame_5 C T hl0 (L_Li_areSame_5 f) ih h a0 a1 a2 a4 hr
def P_Li_areSame (h : HP) (p0 : Nat) (p1 : Nat) : Option (Int32 × HP) :=
  L_Li_areSame_5 FU h p0 p1 0 0
set_option maxHeartbeats 4000000 in
set_option maxRecDepth 100000 in
theorem c_Li_areSame {l : Launch} {h h' : HP} {p0 p1 : _} {r' : Int32} (hr : P_Li_areSame h p0 p1 = some (r', h')) : MP l y_Li_areSame (Cond.code y_Li_areSame b_Li_areSame 5 (some .boolean) :: TB) rm_Li_areSame h [.ref p0, .ref p1] (some (.int r')) h' := by
  refine MP_intro (cc := b_Li_areSame) (by decide) (Nat.le_of_ble_eq_true rfl) (fun x hl0 C T hin => ?_)
  unfold P_Li_areSame at hr
  show GG x 0 0 h 0 [(0, .ref p0), (1, .ref p1)] []
  refine g_lconst (v := 0) C d_Li_areSame_0 (by decide) ?_
  refine g_lstore_n (lv' := [(2, .long 0), (0, .ref p0), (1, .ref p1)]) C d_Li_areSame_1 rfl (by decide) rfl ?_
  refine g_iconst (v := 0) C d_Li_areSame_2 (by decide) ?_
  refine g_istore (lv' := [(4, .int 0), (2, .long 0), (0, .ref p0), (1, .ref p1)]) C d_Li_areSame_3 (by decide) rfl ?_
  refine g_lv [2, 3, 1, 0] rfl ?_
  exact lp_Li_areSame_5 C T hl0 FU h p0 p1 0 0 hr
abbrev b_Li_copy : ByteArray := prog_3_method_7_code
abbrev y_Li_copy : MethodName := ⟨"PrimeKeys$Limbs", "copy", "([J[J)V"⟩
theorem d_Li_copy_0 : decode b_Li_copy 0 = .ok (.aload_n 0, 1) := by decide +kernel
theorem d_Li_copy_1 : decode b_Li_copy 1 = .ok (.iconst 0, 1) := by decide +kernel
theorem d_Li_copy_2 : decode b_Li_copy 2 = .ok (.aload_n 1, 1) := by decide +kernel
theorem d_Li_copy_3 : decode b_Li_copy 3 = .ok (.iconst 0, 1) := by decide +kernel
theorem d_Li_copy_4 : decode b_Li_copy 4 = .ok (.bipush 9, 2) := by decide +kernel
theorem d_Li_copy_6 : decode b_Li_copy 6 = .ok (.invokestatic 29, 3) := by decide +kernel
theorem d_Li_copy_9 : decode b_Li_copy 9 = .ok (.return_, 1) := by decide +kernel
theorem kw_1 : Cond.methodLink "PrimeKeys$Limbs" 29 arraycopyName ∈ TB := tb_1 (List.mem_of_getElem? (i := 86) (by decide +kernel)) rfl
abbrev rm_Li_copy : Room := { frames := 1, cells := 0, slots := 0, locals := 26 }
def P_Li_copy (h : HP) (p0 : Nat) (p1 : Nat) : Option (HP) :=
  bnd (cpJ h p0 0 p1 0 9) fun h1 =>
  some h1
set_option maxHeartbeats 4000000 in
set_option maxRecDepth 100000 in
theorem c_Li_copy {l : Launch} {h h' : HP} {p0 p1 : _} (hr : P_Li_copy h p0 p1 = some h') : MP l y_Li_copy (Cond.code y_Li_copy b_Li_copy 2 none :: TB) rm_Li_copy h [.ref p0, .ref p1] none h' := by
  refine MP_intro (cc := b_Li_copy) (by decide) (Nat.le_of_ble_eq_true rfl) (fun x hl0 C T hin => ?_)
  unfold P_Li_copy at hr
  show GG x 0 0 h 0 [(0, .ref p0), (1, .ref p1)] []
  refine g_aload_n C 0 rfl d_Li_copy_0 rfl ?_
  refine g_iconst (v := 0) C d_Li_copy_1 (by decide) ?_
  refine g_aload_n C 1 rfl d_Li_copy_2 rfl ?_
  refine g_iconst (v := 0) C d_Li_copy_3 (by decide) ?_
  refine g_bipush (v := 9) C d_Li_copy_4 (by decide) ?_
  obtain ⟨h1, eh1, hr⟩ := of_bnd hr
  refine g_copyJ C eh1 kw_1 (Nat.le_of_ble_eq_true rfl) (Nat.le_of_ble_eq_true rfl) d_Li_copy_6 ?_
  cases hr
  exact g_vreturn C T (by decide) (by decide) d_Li_copy_9
