abbrev b_Mo_lessPrime : ByteArray := prog_4_method_11_code
abbrev y_Mo_lessPrime : MethodName := ⟨"PrimeKeys$Modulus", "lessPrime", "([J)J"⟩
theorem d_Mo_lessPrime_0 : decode b_Mo_lessPrime 0 = .ok (.lconst 0, 1) := by decide +kernel
theorem d_Mo_lessPrime_1 : decode b_Mo_lessPrime 1 = .ok (.lstore_n 2, 1) := by decide +kernel
theorem d_Mo_lessPrime_2 : decode b_Mo_lessPrime 2 = .ok (.iconst 0, 1) := by decide +kernel
theorem d_Mo_lessPrime_3 : decode b_Mo_lessPrime 3 = .ok (.istore 4, 2) := by decide +kernel
theorem d_Mo_lessPrime_5 : decode b_Mo_lessPrime 5 = .ok (.iload 4, 2) := by decide +kernel
theorem d_Mo_lessPrime_7 : decode b_Mo_lessPrime 7 = .ok (.bipush 9, 2) := by decide +kernel
theorem d_Mo_lessPrime_9 : decode b_Mo_lessPrime 9 = .ok (.if_icmp .ge 41, 3) := by decide +kernel
theorem d_Mo_lessPrime_12 : decode b_Mo_lessPrime 12 = .ok (.lload_n 2, 1) := by decide +kernel
theorem d_Mo_lessPrime_13 : decode b_Mo_lessPrime 13 = .ok (.aload_n 1, 1) := by decide +kernel
theorem d_Mo_lessPrime_14 : decode b_Mo_lessPrime 14 = .ok (.iload 4, 2) := by decide +kernel
theorem d_Mo_lessPrime_16 : decode b_Mo_lessPrime 16 = .ok (.laload, 1) := by decide +kernel
theorem d_Mo_lessPrime_17 : decode b_Mo_lessPrime 17 = .ok (.aload_n 0, 1) := by decide +kernel
theorem d_Mo_lessPrime_18 : decode b_Mo_lessPrime 18 = .ok (.getfield 11, 3) := by decide +kernel
theorem d_Mo_lessPrime_21 : decode b_Mo_lessPrime 21 = .ok (.iload 4, 2) := by decide +kernel
theorem d_Mo_lessPrime_23 : decode b_Mo_lessPrime 23 = .ok (.laload, 1) := by decide +kernel
theorem d_Mo_lessPrime_24 : decode b_Mo_lessPrime 24 = .ok (.lsub, 1) := by decide +kernel
theorem d_Mo_lessPrime_25 : decode b_Mo_lessPrime 25 = .ok (.ladd, 1) := by decide +kernel
theorem d_Mo_lessPrime_26 : decode b_Mo_lessPrime 26 = .ok (.lstore_n 2, 1) := by decide +kernel
theorem d_Mo_lessPrime_27 : decode b_Mo_lessPrime 27 = .ok (.aload_n 0, 1) := by decide +kernel
theorem d_Mo_lessPrime_28 : decode b_Mo_lessPrime 28 = .ok (.getfield 32, 3) := by decide +kernel
theorem d_Mo_lessPrime_31 : decode b_Mo_lessPrime 31 = .ok (.iload 4, 2) := by decide +kernel
theorem d_Mo_lessPrime_33 : decode b_Mo_lessPrime 33 = .ok (.lload_n 2, 1) := by decide +kernel
theorem d_Mo_lessPrime_34 : decode b_Mo_lessPrime 34 = .ok (.ldc2_w 52, 3) := by decide +kernel
theorem d_Mo_lessPrime_37 : decode b_Mo_lessPrime 37 = .ok (.land, 1) := by decide +kernel
theorem d_Mo_lessPrime_38 : decode b_Mo_lessPrime 38 = .ok (.lastore, 1) := by decide +kernel
theorem d_Mo_lessPrime_39 : decode b_Mo_lessPrime 39 = .ok (.lload_n 2, 1) := by decide +kernel
theorem d_Mo_lessPrime_40 : decode b_Mo_lessPrime 40 = .ok (.bipush 29, 2) := by decide +kernel
theorem d_Mo_lessPrime_42 : decode b_Mo_lessPrime 42 = .ok (.lshr, 1) := by decide +kernel
theorem d_Mo_lessPrime_43 : decode b_Mo_lessPrime 43 = .ok (.lstore_n 2, 1) := by decide +kernel
theorem d_Mo_lessPrime_44 : decode b_Mo_lessPrime 44 = .ok (.iinc 4 1, 3) := by decide +kernel
theorem d_Mo_lessPrime_47 : decode b_Mo_lessPrime 47 = .ok (.goto (-42), 3) := by decide +kernel
theorem d_Mo_lessPrime_50 : decode b_Mo_lessPrime 50 = .ok (.lload_n 2, 1) := by decide +kernel
theorem d_Mo_lessPrime_51 : decode b_Mo_lessPrime 51 = .ok (.lreturn, 1) := by decide +kernel
theorem fl_Mo_11 : FL "PrimeKeys$Modulus" 11 1 0 := ⟨R_Mo, F_Mo, 9, rfl, u_Mo, by decide, rfl, tb_1 (List.mem_of_getElem? (i := 104) (by decide +kernel)) rfl⟩
theorem fl_Mo_32 : FL "PrimeKeys$Modulus" 32 1 7 := ⟨R_Mo, F_Mo, 9, rfl, u_Mo, by decide, rfl, tb_1 (List.mem_of_getElem? (i := 111) (by decide +kernel)) rfl⟩
theorem kw_2 : Cond.constantLong "PrimeKeys$Modulus" 52 536870911 ∈ TB := tb_1 (List.mem_of_getElem? (i := 94) (by decide +kernel)) rfl
abbrev rm_Mo_lessPrime : Room := { frames := 0, cells := 0, slots := 0, locals := 0 }
def B_Mo_lessPrime_5 (K5 : HP → Nat → Nat → Int64 → Int32 → Option (Int64 × HP)) (h : HP) (a0 : Nat) (a1 : Nat) (a2 : Int64) (a4 : Int32) : Option (Int64 × HP) :=
  if 9 ≤ a4 then
  some (a2, h)
  else
  bnd (ldJ h a1 a4) fun v1 =>
  bnd (gR h a0 1 0) fun k2 =>
  bnd (ldJ h k2 a4) fun v3 =>
  lt (a2 + (v1 - v3)) fun x4 =>
  bnd (gR h a0 1 7) fun k5 =>
  bnd (stJ h k5 a4 (x4 &&& 536870911)) fun h6 =>
  lt (x4 >>> (Int32.toInt64 29 &&& 63)) fun x7 =>
  lt (a4 + Int32.ofInt 1) fun x8 =>
  K5 h6 a0 a1 x7 x8
set_option maxHeartbeats 4000000 in
set_option maxRecDepth 100000 in
theorem bk_Mo_lessPrime_5 {l : Launch} {x : CX} {h0 h' : HP} {r' : Int64} (C : EV x b_Mo_lessPrime "PrimeKeys$Modulus" 5 rm_Mo_lessPrime) (T : CT x (some .long) rm_Mo_lessPrime h0 (some (.long r')) h') (hl0 : x.1.2.1 = l) (K5 : HP → Nat → Nat → Int64 → Int32 → Option (Int64 × HP)) (hK5 : ∀ (h : HP) (a0 : Nat) (a1 : Nat) (a2 : Int64) (a4 : Int32), K5 h a0 a1 a2 a4 = some (r', h') → GG x 0 0 h 5 [(0, .ref a0), (1, .ref a1), (2, .long a2), (4, .int a4)] []) (h : HP) (a0 : Nat) (a1 : Nat) (a2 : Int64) (a4 : Int32) (hr : B_Mo_lessPrime_5 K5 h a0 a1 a2 a4 = some (r', h')) : GG x 0 0 h 5 [(0, .ref a0), (1, .ref a1), (2, .long a2), (4, .int a4)] [] := by
  unfold B_Mo_lessPrime_5 at hr
  refine g_iload C 3 rfl d_Mo_lessPrime_5 ?_
  refine g_bipush (v := 9) C d_Mo_lessPrime_7 (by decide) ?_
  refine g_icmp_ge (tgt := 50) C d_Mo_lessPrime_9 (by decide) (fun z => ?_) (fun z => ?_)
  · have hr := of_if z hr
    refine g_lload_n C 2 rfl d_Mo_lessPrime_50 rfl ?_
    cases hr
    exact g_lreturn C T (by decide) (by decide) d_Mo_lessPrime_51
  · have hr := of_el z hr
    refine g_lload_n C 2 rfl d_Mo_lessPrime_12 rfl ?_
    refine g_aload_n C 1 rfl d_Mo_lessPrime_13 rfl ?_
    refine g_iload C 3 rfl d_Mo_lessPrime_14 ?_
    obtain ⟨v1, ev1, hr⟩ := of_bnd hr
    refine g_laload C ev1 d_Mo_lessPrime_16 ?_
    refine g_aload_n C 0 rfl d_Mo_lessPrime_17 rfl ?_
    obtain ⟨k2, ek2, hr⟩ := of_bnd hr
    refine g_getR C fl_Mo_11 ek2 d_Mo_lessPrime_18 ?_
    refine g_iload C 3 rfl d_Mo_lessPrime_21 ?_
    obtain ⟨v3, ev3, hr⟩ := of_bnd hr
    refine g_laload C ev3 d_Mo_lessPrime_23 ?_
    refine g_lsub C d_Mo_lessPrime_24 ?_
    refine g_ladd C d_Mo_lessPrime_25 ?_
    refine g_topl (fun x4 ex4 => ?_)
    have hr := of_lt ex4 hr
    refine g_lstore_n (lv' := [(2, .long x4), (0, .ref a0), (1, .ref a1), (4, .int a4)]) C d_Mo_lessPrime_26 rfl (by decide) rfl ?_
    refine g_aload_n C 1 rfl d_Mo_lessPrime_27 rfl ?_
    obtain ⟨k5, ek5, hr⟩ := of_bnd hr
    refine g_getR C fl_Mo_32 ek5 d_Mo_lessPrime_28 ?_
    refine g_iload C 3 rfl d_Mo_lessPrime_31 ?_
    refine g_lload_n C 0 rfl d_Mo_lessPrime_33 rfl ?_
    refine g_ldc2 (v := 536870911) C d_Mo_lessPrime_34 kw_2 ?_
    refine g_land C d_Mo_lessPrime_37 ?_
    obtain ⟨h6, eh6, hr⟩ := of_bnd hr
    refine g_lastore C eh6 d_Mo_lessPrime_38 ?_
    refine g_lload_n C 0 rfl d_Mo_lessPrime_39 rfl ?_
    refine g_bipush (v := 29) C d_Mo_lessPrime_40 (by decide) ?_
    refine g_lshr C d_Mo_lessPrime_42 ?_
    refine g_topl (fun x7 ex7 => ?_)
    have hr := of_lt ex7 hr
    refine g_lstore_n (lv' := [(2, .long x7), (0, .ref a0), (1, .ref a1), (4, .int a4)]) C d_Mo_lessPrime_43 rfl (by decide) rfl ?_
    obtain ⟨x8, ex8⟩ : ∃ z, z = a4 + Int32.ofInt 1 := ⟨_, rfl⟩
    have hr := of_lt ex8 hr
    refine g_iinc (lv' := [(4, .int x8), (2, .long x7), (0, .ref a0), (1, .ref a1)]) C 3 rfl d_Mo_lessPrime_44 ex8.symm (by decide) rfl ?_
    refine g_goto (tgt := 5) C d_Mo_lessPrime_47 (by decide) ?_
    refine g_lv [2, 3, 1, 0] rfl ?_
    exact hK5 h6 a0 a1 x7 x8 hr
def L_Mo_lessPrime_5 : Nat → HP → Nat → Nat → Int64 → Int32 → Option (Int64 × HP)
  | 0, _, _, _, _, _ => none
  | f + 1, h, a0, a1, a2, a4 => B_Mo_lessPrime_5 (L_Mo_lessPrime_5 f) h a0 a1 a2 a4
theorem lp_Mo_lessPrime_5 {l : Launch} {x : CX} {h0 h' : HP} {r' : Int64} (C : EV x b_Mo_lessPrime "PrimeKeys$Modulus" 5 rm_Mo_lessPrime) (T : CT x (some .long) rm_Mo_lessPrime h0 (some (.long r')) h') (hl0 : x.1.2.1 = l) : ∀ (f : Nat) (h : HP) (a0 : Nat) (a1 : Nat) (a2 : Int64) (a4 : Int32), L_Mo_lessPrime_5 f h a0 a1 a2 a4 = some (r', h') → GG x 0 0 h 5 [(0, .ref a0), (1, .ref a1), (2, .long a2), (4, .int a4)] [] := by
  intro f
  induction f with
  | zero => intro h a0 a1 a2 a4 hr; have hr : (none : Option (Int64 × HP)) = some (r', h') := hr; cases hr
  | succ f ih => intro h a0 a1 a2 a4 hr; exact bk_Mo_lessPrime_5 C T hl0 (L_Mo_lessPrime_5 f) ih h a0 a1 a2 a4 hr
def P_Mo_lessPrime (h : HP) (p0 : Nat) (p1 : Nat) : Option (Int64 × HP) :=
  L_Mo_lessPrime_5 FU h p0 p1 0 0
set_option maxHeartbeats 4000000 in
set_option maxRecDepth 100000 in
theorem c_Mo_lessPrime {l : Launch} {h h' : HP} {p0 p1 : _} {r' : Int64} (hr : P_Mo_lessPrime h p0 p1 = some (r', h')) : MP l y_Mo_lessPrime (Cond.code y_Mo_lessPrime b_Mo_lessPrime 5 (some .long) :: TB) rm_Mo_lessPrime h [.ref p0, .ref p1] (some (.long r')) h' := by
  refine MP_intro (cc := b_Mo_lessPrime) (by decide) (Nat.le_of_ble_eq_true rfl) (fun x hl0 C T hin => ?_)
  unfold P_Mo_lessPrime at hr
  show GG x 0 0 h 0 [(0, .ref p0), (1, .ref p1)] []
  refine g_lconst (v := 0) C d_Mo_lessPrime_0 (by decide) ?_
  refine g_lstore_n (lv' := [(2, .long 0), (0, .ref p0), (1, .ref p1)]) C d_Mo_lessPrime_1 rfl (by decide) rfl ?_
  refine g_iconst (v := 0) C d_Mo_lessPrime_2 (by decide) ?_
  refine g_istore (lv' := [(4, .int 0), (2, .long 0), (0, .ref p0), (1, .ref p1)]) C d_Mo_lessPrime_3 (by decide) rfl ?_
  refine g_lv [2, 3, 1, 0] rfl ?_
  exact lp_Mo_lessPrime_5 C T hl0 FU h p0 p1 0 0 hr
abbrev b_Mo_addPrime : ByteArray := prog_4_method_12_code
abbrev y_Mo_addPrime : MethodName := ⟨"PrimeKeys$Modulus", "addPrime", "([J)V"⟩
theorem d_Mo_addPrime_0 : decode b_Mo_addPrime 0 = .ok (.lconst 0, 1) := by decide +kernel
theorem d_Mo_addPrime_1 : decode b_Mo_addPrime 1 = .ok (.lstore_n 2, 1) := by decide +kernel
theorem d_Mo_addPrime_2 : decode b_Mo_addPrime 2 = .ok (.iconst 0, 1) := by decide +kernel
theorem d_Mo_addPrime_3 : decode b_Mo_addPrime 3 = .ok (.istore 4, 2) := by decide +kernel
theorem d_Mo_addPrime_5 : decode b_Mo_addPrime 5 = .ok (.iload 4, 2) := by decide +kernel
theorem d_Mo_addPrime_7 : decode b_Mo_addPrime 7 = .ok (.bipush 9, 2) := by decide +kernel
theorem d_Mo_addPrime_9 : decode b_Mo_addPrime 9 = .ok (.if_icmp .ge 38, 3) := by decide +kernel
theorem d_Mo_addPrime_12 : decode b_Mo_addPrime 12 = .ok (.lload_n 2, 1) := by decide +kernel
theorem d_Mo_addPrime_13 : decode b_Mo_addPrime 13 = .ok (.aload_n 1, 1) := by decide +kernel
theorem d_Mo_addPrime_14 : decode b_Mo_addPrime 14 = .ok (.iload 4, 2) := by decide +kernel
theorem d_Mo_addPrime_16 : decode b_Mo_addPrime 16 = .ok (.laload, 1) := by decide +kernel
theorem d_Mo_addPrime_17 : decode b_Mo_addPrime 17 = .ok (.aload_n 0, 1) := by decide +kernel
theorem d_Mo_addPrime_18 : decode b_Mo_addPrime 18 = .ok (.getfield 11, 3) := by decide +kernel
theorem d_Mo_addPrime_21 : decode b_Mo_addPrime 21 = .ok (.iload 4, 2) := by decide +kernel
theorem d_Mo_addPrime_23 : decode b_Mo_addPrime 23 = .ok (.laload, 1) := by decide +kernel
theorem d_Mo_addPrime_24 : decode b_Mo_addPrime 24 = .ok (.ladd, 1) := by decide +kernel
theorem d_Mo_addPrime_25 : decode b_Mo_addPrime 25 = .ok (.ladd, 1) := by decide +kernel
theorem d_Mo_addPrime_26 : decode b_Mo_addPrime 26 = .ok (.lstore_n 2, 1) := by decide +kernel
theorem d_Mo_addPrime_27 : decode b_Mo_addPrime 27 = .ok (.aload_n 1, 1) := by decide +kernel
theorem d_Mo_addPrime_28 : decode b_Mo_addPrime 28 = .ok (.iload 4, 2) := by decide +kernel
theorem d_Mo_addPrime_30 : decode b_Mo_addPrime 30 = .ok (.lload_n 2, 1) := by decide +kernel
theorem d_Mo_addPrime_31 : decode b_Mo_addPrime 31 = .ok (.ldc2_w 52, 3) := by decide +kernel
theorem d_Mo_addPrime_34 : decode b_Mo_addPrime 34 = .ok (.land, 1) := by decide +kernel
theorem d_Mo_addPrime_35 : decode b_Mo_addPrime 35 = .ok (.lastore, 1) := by decide +kernel
theorem d_Mo_addPrime_36 : decode b_Mo_addPrime 36 = .ok (.lload_n 2, 1) := by decide +kernel
theorem d_Mo_addPrime_37 : decode b_Mo_addPrime 37 = .ok (.bipush 29, 2) := by decide +kernel
theorem d_Mo_addPrime_39 : decode b_Mo_addPrime 39 = .ok (.lshr, 1) := by decide +kernel
theorem d_Mo_addPrime_40 : decode b_Mo_addPrime 40 = .ok (.lstore_n 2, 1) := by decide +kernel
theorem d_Mo_addPrime_41 : decode b_Mo_addPrime 41 = .ok (.iinc 4 1, 3) := by decide +kernel
theorem d_Mo_addPrime_44 : decode b_Mo_addPrime 44 = .ok (.goto (-39), 3) := by decide +kernel
theorem d_Mo_addPrime_47 : decode b_Mo_addPrime 47 = .ok (.return_, 1) := by decide +kernel
abbrev rm_Mo_addPrime : Room := { frames := 0, cells := 0, slots := 0, locals := 0 }
def B_Mo_addPrime_5 (K5 : HP → Nat → Nat → Int64 → Int32 → Option (HP)) (h : HP) (a0 : Nat) (a1 : Nat) (a2 : Int64) (a4 : Int32) : Option (HP) :=
  if 9 ≤ a4 then
  some h
  else
  bnd (ldJ h a1 a4) fun v1 =>
  bnd (gR h a0 1 0) fun k2 =>
  bnd (ldJ h k2 a4) fun v3 =>
  lt (a2 + (v1 + v3)) fun x4 =>
  bnd (stJ h a1 a4 (x4 &&& 536870911)) fun h5 =>
  lt (x4 >>> (Int32.toInt64 29 &&& 63)) fun x6 =>
  lt (a4 + Int32.ofInt 1) fun x7 =>
  K5 h5 a0 a1 x6 x7
set_option maxHeartbeats 4000000 in
set_option maxRecDepth 100000 in
theorem bk_Mo_addPrime_5 {l : Launch} {x : CX} {h0 h' : HP} (C : EV x b_Mo_addPrime "PrimeKeys$Modulus" 5 rm_Mo_addPrime) (T : CT x (none) rm_Mo_addPrime h0 none h') (hl0 : x.1.2.1 = l) (K5 : HP → Nat → Nat → Int64 → Int32 → Option (HP)) (hK5 : ∀ (h : HP) (a0 : Nat) (a1 : Nat) (a2 : Int64) (a4 : Int32), K5 h a0 a1 a2 a4 = some h' → GG x 0 0 h 5 [(0, .ref a0), (1, .ref a1), (2, .long a2), (4, .int a4)] []) (h : HP) (a0 : Nat) (a1 : Nat) (a2 : Int64) (a4 : Int32) (hr : B_Mo_addPrime_5 K5 h a0 a1 a2 a4 = some h') : GG x 0 0 h 5 [(0, .ref a0), (1, .ref a1), (2, .long a2), (4, .int a4)] [] := by
  unfold B_Mo_addPrime_5 at hr
  refine g_iload C 3 rfl d_Mo_addPrime_5 ?_
  refine g_bipush (v := 9) C d_Mo_addPrime_7 (by decide) ?_
  refine g_icmp_ge (tgt := 47) C d_Mo_addPrime_9 (by decide) (fun z => ?_) (fun z => ?_)
  · have hr := of_if z hr
    cases hr
    exact g_vreturn C T (by decide) (by decide) d_Mo_addPrime_47
  · have hr := of_el z hr
    refine g_lload_n C 2 rfl d_Mo_addPrime_12 rfl ?_
    refine g_aload_n C 1 rfl d_Mo_addPrime_13 rfl ?_
    refine g_iload C 3 rfl d_Mo_addPrime_14 ?_
    obtain ⟨v1, ev1, hr⟩ := of_bnd hr
    refine g_laload C ev1 d_Mo_addPrime_16 ?_
    refine g_aload_n C 0 rfl d_Mo_addPrime_17 rfl ?_
    obtain ⟨k2, ek2, hr⟩ := of_bnd hr
    refine g_getR C fl_Mo_11 ek2 d_Mo_addPrime_18 ?_
    refine g_iload C 3 rfl d_Mo_addPrime_21 ?_
    obtain ⟨v3, ev3, hr⟩ := of_bnd hr
    refine g_laload C ev3 d_Mo_addPrime_23 ?_
    refine g_ladd C d_Mo_addPrime_24 ?_
    refine g_ladd C d_Mo_addPrime_25 ?_
    refine g_topl (fun x4 ex4 => ?_)
    have hr := of_lt ex4 hr
    refine g_lstore_n (lv' := [(2, .long x4), (0, .ref a0), (1, .ref a1), (4, .int a4)]) C d_Mo_addPrime_26 rfl (by decide) rfl ?_
    refine g_aload_n C 2 rfl d_Mo_addPrime_27 rfl ?_
    refine g_iload C 3 rfl d_Mo_addPrime_28 ?_
    refine g_lload_n C 0 rfl d_Mo_addPrime_30 rfl ?_
    refine g_ldc2 (v := 536870911) C d_Mo_addPrime_31 kw_2 ?_
    refine g_land C d_Mo_addPrime_34 ?_
    obtain ⟨h5, eh5, hr⟩ := of_bnd hr
    refine g_lastore C eh5 d_Mo_addPrime_35 ?_
    refine g_lload_n C 0 rfl d_Mo_addPrime_36 rfl ?_
    refine g_bipush (v := 29) C d_Mo_addPrime_37 (by decide) ?_
    refine g_lshr C d_Mo_addPrime_39 ?_
    refine g_topl (fun x6 ex6 => ?_)
    have hr := of_lt ex6 hr
    refine g_lstore_n (lv' := [(2, .long x6), (0, .ref a0), (1, .ref a1), (4, .int a4)]) C d_Mo_addPrime_40 rfl (by decide) rfl ?_
    obtain ⟨x7, ex7⟩ : ∃ z, z = a4 + Int32.ofInt 1 := ⟨_, rfl⟩
    have hr := of_lt ex7 hr
    refine g_iinc (lv' := [(4, .int x7), (2, .long x6), (0, .ref a0), (1, .ref a1)]) C 3 rfl d_Mo_addPrime_41 ex7.symm (by decide) rfl ?_
    refine g_goto (tgt := 5) C d_Mo_addPrime_44 (by decide) ?_
    refine g_lv [2, 3, 1, 0] rfl ?_
    exact hK5 h5 a0 a1 x6 x7 hr
def L_Mo_addPrime_5 : Nat → HP → Nat → Nat → Int64 → Int32 → Option (HP)
  | 0, _, _, _, _, _ => none
  | f + 1, h, a0, a1, a2, a4 => B_Mo_addPrime_5 (L_Mo_addPrime_5 f) h a0 a1 a2 a4
theorem lp_Mo_addPrime_5 {l : Launch} {x : CX} {h0 h' : HP} (C : EV x b_Mo_addPrime "PrimeKeys$Modulus" 5 rm_Mo_addPrime) (T : CT x (none) rm_Mo_addPrime h0 none h') (hl0 : x.1.2.1 = l) : ∀ (f : Nat) (h : HP) (a0 : Nat) (a1 : Nat) (a2 : Int64) (a4 : Int32), L_Mo_addPrime_5 f h a0 a1 a2 a4 = some h' → GG x 0 0 h 5 [(0, .ref a0), (1, .ref a1), (2, .long a2), (4, .int a4)] [] := by
  intro f
  induction f with
  | zero => intro h a0 a1 a2 a4 hr; have hr : (none : Option (HP)) = some h' := hr; cases hr
  | succ f ih => intro h a0 a1 a2 a4 hr; exact bk_Mo_addPrime_5 C T hl0 (L_Mo_addPrime_5 f) ih h a0 a1 a2 a4 hr
def P_Mo_addPrime (h : HP) (p0 : Nat) (p1 : Nat) : Option (HP) :=
  L_Mo_addPrime_5 FU h p0 p1 0 0
set_option maxHeartbeats 4000000 in
set_option maxRecDepth 100000 in
theorem c_Mo_addPrime {l : Launch} {h h' : HP} {p0 p1 : _} (hr : P_Mo_addPrime h p0 p1 = some h') : MP l y_Mo_addPrime (Cond.code y_Mo_addPrime b_Mo_addPrime 5 none :: TB) rm_Mo_addPrime h [.ref p0, .ref p1] none h' := by
  refine MP_intro (cc := b_Mo_addPrime) (by decide) (Nat.le_of_ble_eq_true rfl) (fun x hl0 C T hin => ?_)
  unfold P_Mo_addPrime at hr
  show GG x 0 0 h 0 [(0, .ref p0), (1, .ref p1)] []
  refine g_lconst (v := 0) C d_Mo_addPrime_0 (by decide) ?_
  refine g_lstore_n (lv' := [(2, .long 0), (0, .ref p0), (1, .ref p1)]) C d_Mo_addPrime_1 rfl (by decide) rfl ?_
  refine g_iconst (v := 0) C d_Mo_addPrime_2 (by decide) ?_
  refine g_istore (lv' := [(4, .int 0), (2, .long 0), (0, .ref p0), (1, .ref p1)]) C d_Mo_addPrime_3 (by decide) rfl ?_
  refine g_lv [2, 3, 1, 0] rfl ?_
  exact lp_Mo_addPrime_5 C T hl0 FU h p0 p1 0 0 hr
abbrev b_Mo_reduceOnce : ByteArray := prog_4_method_6_code
abbrev y_Mo_reduceOnce : MethodName := ⟨"PrimeKeys$Modulus", "reduceOnce", "([J)V"⟩
theorem d_Mo_reduceOnce_0 : decode b_Mo_reduceOnce 0 = .ok (.aload_n 1, 1) := by decide +kernel
theorem d_Mo_reduceOnce_1 : decode b_Mo_reduceOnce 1 = .ok (.bipush 8, 2) := by decide +kernel
theorem d_Mo_reduceOnce_3 : decode b_Mo_reduceOnce 3 = .ok (.laload, 1) := by decide +kernel
theorem d_Mo_reduceOnce_4 : decode b_Mo_reduceOnce 4 = .ok (.aload_n 0, 1) := by decide +kernel
theorem d_Mo_reduceOnce_5 : decode b_Mo_reduceOnce 5 = .ok (.getfield 11, 3) := by decide +kernel
theorem d_Mo_reduceOnce_8 : decode b_Mo_reduceOnce 8 = .ok (.bipush 8, 2) := by decide +kernel
theorem d_Mo_reduceOnce_10 : decode b_Mo_reduceOnce 10 = .ok (.laload, 1) := by decide +kernel
theorem d_Mo_reduceOnce_11 : decode b_Mo_reduceOnce 11 = .ok (.lcmp, 1) := by decide +kernel
theorem d_Mo_reduceOnce_12 : decode b_Mo_reduceOnce 12 = .ok (.ifCond .lt 25, 3) := by decide +kernel
theorem d_Mo_reduceOnce_15 : decode b_Mo_reduceOnce 15 = .ok (.aload_n 0, 1) := by decide +kernel
theorem d_Mo_reduceOnce_16 : decode b_Mo_reduceOnce 16 = .ok (.aload_n 1, 1) := by decide +kernel
theorem d_Mo_reduceOnce_17 : decode b_Mo_reduceOnce 17 = .ok (.invokevirtual 61, 3) := by decide +kernel
theorem d_Mo_reduceOnce_20 : decode b_Mo_reduceOnce 20 = .ok (.lconst 0, 1) := by decide +kernel
theorem d_Mo_reduceOnce_21 : decode b_Mo_reduceOnce 21 = .ok (.lcmp, 1) := by decide +kernel
theorem d_Mo_reduceOnce_22 : decode b_Mo_reduceOnce 22 = .ok (.ifCond .lt 15, 3) := by decide +kernel
theorem d_Mo_reduceOnce_25 : decode b_Mo_reduceOnce 25 = .ok (.aload_n 0, 1) := by decide +kernel
theorem d_Mo_reduceOnce_26 : decode b_Mo_reduceOnce 26 = .ok (.getfield 32, 3) := by decide +kernel
theorem d_Mo_reduceOnce_29 : decode b_Mo_reduceOnce 29 = .ok (.iconst 0, 1) := by decide +kernel
theorem d_Mo_reduceOnce_30 : decode b_Mo_reduceOnce 30 = .ok (.aload_n 1, 1) := by decide +kernel
theorem d_Mo_reduceOnce_31 : decode b_Mo_reduceOnce 31 = .ok (.iconst 0, 1) := by decide +kernel
theorem d_Mo_reduceOnce_32 : decode b_Mo_reduceOnce 32 = .ok (.bipush 9, 2) := by decide +kernel
theorem d_Mo_reduceOnce_34 : decode b_Mo_reduceOnce 34 = .ok (.invokestatic 65, 3) := by decide +kernel
theorem d_Mo_reduceOnce_37 : decode b_Mo_reduceOnce 37 = .ok (.return_, 1) := by decide +kernel
theorem kw_3 : Cond.methodLink "PrimeKeys$Modulus" 65 arraycopyName ∈ TB := tb_1 (List.mem_of_getElem? (i := 103) (by decide +kernel)) rfl
theorem cd_Mo_61 : CD "PrimeKeys$Modulus" 61 y_Mo_lessPrime b_Mo_lessPrime 5 (some .long) 1 := ⟨tb_1 (List.mem_of_getElem? (i := 102) rfl) rfl, tb_1 (List.mem_of_getElem? (i := 4) (by decide +kernel)) rfl, tb_1 (List.mem_of_getElem? (i := 99) (by decide +kernel)) rfl, by decide +kernel⟩
theorem kw_in_Mo_lessPrime : Cond.instanceMethod y_Mo_lessPrime ∈ TB := tb_1 (List.mem_of_getElem? (i := 101) (by decide +kernel)) rfl
theorem kw_se_Mo_lessPrime : Cond.selects "PrimeKeys$Modulus" y_Mo_lessPrime y_Mo_lessPrime ∈ TB := tb_p (q := (y_Mo_lessPrime, 9)) (by decide +kernel)
abbrev rm_Mo_reduceOnce : Room := { frames := 1, cells := 0, slots := 0, locals := 26 }
def B_Mo_reduceOnce_37 (h : HP) : Option (HP) :=
  some h
set_option maxHeartbeats 4000000 in
set_option maxRecDepth 100000 in
theorem bk_Mo_reduceOnce_37 {l : Launch} {x : CX} {h0 h' : HP} (C : EV x b_Mo_reduceOnce "PrimeKeys$Modulus" 2 rm_Mo_reduceOnce) (T : CT x (none) rm_Mo_reduceOnce h0 none h') (hl0 : x.1.2.1 = l) (h : HP) (hr : B_Mo_reduceOnce_37 h = some h') : GG x 0 0 h 37 [] [] := by
  unfold B_Mo_reduceOnce_37 at hr
  cases hr
  exact g_vreturn C T (by decide) (by decide) d_Mo_reduceOnce_37
def P_Mo_reduceOnce (h : HP) (p0 : Nat) (p1 : Nat) : Option (HP) :=
  bnd (ldJ h p1 8) fun v1 =>
  bnd (gR h p0 1 0) fun k2 =>
  bnd (ldJ h k2 8) fun v3 =>
  if lg_cmp v1 v3 < 0 then
  B_Mo_reduceOnce_37 h
  else
  ob h p0 1 (
  bnd2 (P_Mo_lessPrime h p0 p1) fun v5 h4 =>
  if lg_cmp v5 0 < 0 then
  B_Mo_reduceOnce_37 h4
  else
  bnd (gR h4 p0 1 7) fun k6 =>
  bnd (cpJ h4 k6 0 p1 0 9) fun h7 =>
  B_Mo_reduceOnce_37 h7)
set_option maxHeartbeats 4000000 in
set_option maxRecDepth 100000 in
theorem c_Mo_reduceOnce {l : Launch} {h h' : HP} {p0 p1 : _} (hr : P_Mo_reduceOnce h p0 p1 = some h') : MP l y_Mo_reduceOnce (Cond.code y_Mo_reduceOnce b_Mo_reduceOnce 2 none :: TB) rm_Mo_reduceOnce h [.ref p0, .ref p1] none h' := by
  refine MP_intro (cc := b_Mo_reduceOnce) (by decide) (Nat.le_of_ble_eq_true rfl) (fun x hl0 C T hin => ?_)
  unfold P_Mo_reduceOnce at hr
  show GG x 0 0 h 0 [(0, .ref p0), (1, .ref p1)] []
  refine g_aload_n C 1 rfl d_Mo_reduceOnce_0 rfl ?_
  refine g_bipush (v := 8) C d_Mo_reduceOnce_1 (by decide) ?_
  obtain ⟨v1, ev1, hr⟩ := of_bnd hr
  refine g_laload C ev1 d_Mo_reduceOnce_3 ?_
  refine g_aload_n C 0 rfl d_Mo_reduceOnce_4 rfl ?_
  obtain ⟨k2, ek2, hr⟩ := of_bnd hr
  refine g_getR C fl_Mo_11 ek2 d_Mo_reduceOnce_5 ?_
  refine g_bipush (v := 8) C d_Mo_reduceOnce_8 (by decide) ?_
  obtain ⟨v3, ev3, hr⟩ := of_bnd hr
  refine g_laload C ev3 d_Mo_reduceOnce_10 ?_
  refine g_lcmp C d_Mo_reduceOnce_11 ?_
  refine g_if_lt (tgt := 37) C d_Mo_reduceOnce_12 (by decide) (fun z => ?_) (fun z => ?_)
  · have hr := of_if z hr
    refine g_lv [] rfl ?_
    exact bk_Mo_reduceOnce_37 C T hl0 h hr
  · have hr := of_el z hr
    refine g_aload_n C 0 rfl d_Mo_reduceOnce_15 rfl ?_
    refine g_aload_n C 1 rfl d_Mo_reduceOnce_16 rfl ?_
    obtain ⟨fsh4, hoh4, hr⟩ := of_ob hr
    obtain ⟨v5, h4, eh4, hr⟩ := of_bnd2 hr
    refine g_callV (pa := [.ref p1]) C hl0 (c_Mo_lessPrime eh4) cd_Mo_61 kw_in_Mo_lessPrime kw_se_Mo_lessPrime hoh4 rfl rfl (by decide) rfl rfl (Nat.le_of_ble_eq_true rfl) d_Mo_reduceOnce_17 ?_
    refine g_lconst (v := 0) C d_Mo_reduceOnce_20 (by decide) ?_
    refine g_lcmp C d_Mo_reduceOnce_21 ?_
    refine g_if_lt (tgt := 37) C d_Mo_reduceOnce_22 (by decide) (fun z => ?_) (fun z => ?_)
    · have hr := of_if z hr
      refine g_lv [] rfl ?_
      exact bk_Mo_reduceOnce_37 C T hl0 h4 hr
    · have hr := of_el z hr
      refine g_aload_n C 0 rfl d_Mo_reduceOnce_25 rfl ?_
      obtain ⟨k6, ek6, hr⟩ := of_bnd hr
      refine g_getR C fl_Mo_32 ek6 d_Mo_reduceOnce_26 ?_
      refine g_iconst (v := 0) C d_Mo_reduceOnce_29 (by decide) ?_
      refine g_aload_n C 1 rfl d_Mo_reduceOnce_30 rfl ?_
      refine g_iconst (v := 0) C d_Mo_reduceOnce_31 (by decide) ?_
      refine g_bipush (v := 9) C d_Mo_reduceOnce_32 (by decide) ?_
      obtain ⟨h7, eh7, hr⟩ := of_bnd hr
      refine g_copyJ C eh7 kw_3 (Nat.le_of_ble_eq_true rfl) (Nat.le_of_ble_eq_true rfl) d_Mo_reduceOnce_34 ?_
      refine g_lv [] rfl ?_
      exact bk_Mo_reduceOnce_37 C T hl0 h7 hr
abbrev b_Mo_add : ByteArray := prog_4_method_7_code
abbrev y_Mo_add : MethodName := ⟨"PrimeKeys$Modulus", "add", "([J[J[J)V"⟩
theorem d_Mo_add_0 : decode b_Mo_add 0 = .ok (.lconst 0, 1) := by decide +kernel
theorem d_Mo_add_1 : decode b_Mo_add 1 = .ok (.lstore 4, 2) := by decide +kernel
theorem d_Mo_add_3 : decode b_Mo_add 3 = .ok (.iconst 0, 1) := by decide +kernel
theorem d_Mo_add_4 : decode b_Mo_add 4 = .ok (.istore 6, 2) := by decide +kernel
theorem d_Mo_add_6 : decode b_Mo_add 6 = .ok (.iload 6, 2) := by decide +kernel
theorem d_Mo_add_8 : decode b_Mo_add 8 = .ok (.bipush 9, 2) := by decide +kernel
theorem d_Mo_add_10 : decode b_Mo_add 10 = .ok (.if_icmp .ge 40, 3) := by decide +kernel
theorem d_Mo_add_13 : decode b_Mo_add 13 = .ok (.lload 4, 2) := by decide +kernel
theorem d_Mo_add_15 : decode b_Mo_add 15 = .ok (.aload_n 1, 1) := by decide +kernel
theorem d_Mo_add_16 : decode b_Mo_add 16 = .ok (.iload 6, 2) := by decide +kernel
theorem d_Mo_add_18 : decode b_Mo_add 18 = .ok (.laload, 1) := by decide +kernel
theorem d_Mo_add_19 : decode b_Mo_add 19 = .ok (.aload_n 2, 1) := by decide +kernel
theorem d_Mo_add_20 : decode b_Mo_add 20 = .ok (.iload 6, 2) := by decide +kernel
theorem d_Mo_add_22 : decode b_Mo_add 22 = .ok (.laload, 1) := by decide +kernel
theorem d_Mo_add_23 : decode b_Mo_add 23 = .ok (.ladd, 1) := by decide +kernel
theorem d_Mo_add_24 : decode b_Mo_add 24 = .ok (.ladd, 1) := by decide +kernel
theorem d_Mo_add_25 : decode b_Mo_add 25 = .ok (.lstore 4, 2) := by decide +kernel
theorem d_Mo_add_27 : decode b_Mo_add 27 = .ok (.aload_n 3, 1) := by decide +kernel
theorem d_Mo_add_28 : decode b_Mo_add 28 = .ok (.iload 6, 2) := by decide +kernel
theorem d_Mo_add_30 : decode b_Mo_add 30 = .ok (.lload 4, 2) := by decide +kernel
theorem d_Mo_add_32 : decode b_Mo_add 32 = .ok (.ldc2_w 52, 3) := by decide +kernel
theorem d_Mo_add_35 : decode b_Mo_add 35 = .ok (.land, 1) := by decide +kernel
theorem d_Mo_add_36 : decode b_Mo_add 36 = .ok (.lastore, 1) := by decide +kernel
theorem d_Mo_add_37 : decode b_Mo_add 37 = .ok (.lload 4, 2) := by decide +kernel
theorem d_Mo_add_39 : decode b_Mo_add 39 = .ok (.bipush 29, 2) := by decide +kernel
theorem d_Mo_add_41 : decode b_Mo_add 41 = .ok (.lshr, 1) := by decide +kernel
theorem d_Mo_add_42 : decode b_Mo_add 42 = .ok (.lstore 4, 2) := by decide +kernel
theorem d_Mo_add_44 : decode b_Mo_add 44 = .ok (.iinc 6 1, 3) := by decide +kernel
theorem d_Mo_add_47 : decode b_Mo_add 47 = .ok (.goto (-41), 3) := by decide +kernel
theorem d_Mo_add_50 : decode b_Mo_add 50 = .ok (.aload_n 0, 1) := by decide +kernel
theorem d_Mo_add_51 : decode b_Mo_add 51 = .ok (.aload_n 3, 1) := by decide +kernel
theorem d_Mo_add_52 : decode b_Mo_add 52 = .ok (.invokevirtual 71, 3) := by decide +kernel
theorem d_Mo_add_55 : decode b_Mo_add 55 = .ok (.return_, 1) := by decide +kernel
theorem cd_Mo_71 : CD "PrimeKeys$Modulus" 71 y_Mo_reduceOnce b_Mo_reduceOnce 2 none 1 := ⟨tb_1 (List.mem_of_getElem? (i := 98) rfl) rfl, tb_1 (List.mem_of_getElem? (i := 4) (by decide +kernel)) rfl, tb_1 (List.mem_of_getElem? (i := 95) (by decide +kernel)) rfl, by decide +kernel⟩
theorem kw_in_Mo_reduceOnce : Cond.instanceMethod y_Mo_reduceOnce ∈ TB := tb_1 (List.mem_of_getElem? (i := 96) (by decide +kernel)) rfl
theorem kw_se_Mo_reduceOnce : Cond.selects "PrimeKeys$Modulus" y_Mo_reduceOnce y_Mo_reduceOnce ∈ TB := tb_1 (List.mem_of_getElem? (i := 97) (by decide +kernel)) rfl
abbrev rm_Mo_add : Room := { frames := 2, cells := 0, slots := 0, locals := 47 }
def B_Mo_add_6 (K6 : HP → Nat → Nat → Nat → Nat → Int64 → Int32 → Option (HP)) (h : HP) (a0 : Nat) (a1 : Nat) (a2 : Nat) (a3 : Nat) (a4 : Int64) (a6 : Int32) : Option (HP) :=
  if 9 ≤ a6 then
  ob h a0 1 (
  bnd (P_Mo_reduceOnce h a0 a3) fun h1 =>
  some h1)
  else
  bnd (ldJ h a1 a6) fun v2 =>
  bnd (ldJ h a2 a6) fun v3 =>
  lt (a4 + (v2 + v3)) fun x4 =>
  bnd (stJ h a3 a6 (x4 &&& 536870911)) fun h5 =>
  lt (x4 >>> (Int32.toInt64 29 &&& 63)) fun x6 =>
  lt (a6 + Int32.ofInt 1) fun x7 =>
  K6 h5 a0 a1 a2 a3 x6 x7
set_option maxHeartbeats 4000000 in
set_option maxRecDepth 100000 in
theorem bk_Mo_add_6 {l : Launch} {x : CX} {h0 h' : HP} (C : EV x b_Mo_add "PrimeKeys$Modulus" 7 rm_Mo_add) (T : CT x (none) rm_Mo_add h0 none h') (hl0 : x.1.2.1 = l) (K6 : HP → Nat → Nat → Nat → Nat → Int64 → Int32 → Option (HP)) (hK6 : ∀ (h : HP) (a0 : Nat) (a1 : Nat) (a2 : Nat) (a3 : Nat) (a4 : Int64) (a6 : Int32), K6 h a0 a1 a2 a3 a4 a6 = some h' → GG x 0 0 h 6 [(0, .ref a0), (1, .ref a1), (2, .ref a2), (3, .ref a3), (4, .long a4), (6, .int a6)] []) (h : HP) (a0 : Nat) (a1 : Nat) (a2 : Nat) (a3 : Nat) (a4 : Int64) (a6 : Int32) (hr : B_Mo_add_6 K6 h a0 a1 a2 a3 a4 a6 = some h') : GG x 0 0 h 6 [(0, .ref a0), (1, .ref a1), (2, .ref a2), (3, .ref a3), (4, .long a4), (6, .int a6)] [] := by
  unfold B_Mo_add_6 at hr
  refine g_iload C 5 rfl d_Mo_add_6 ?_
  refine g_bipush (v := 9) C d_Mo_add_8 (by decide) ?_
  refine g_icmp_ge (tgt := 50) C d_Mo_add_10 (by decide) (fun z => ?_) (fun z => ?_)
  · have hr := of_if z hr
    refine g_aload_n C 0 rfl d_Mo_add_50 rfl ?_
    refine g_aload_n C 3 rfl d_Mo_add_51 rfl ?_
    obtain ⟨fsh1, hoh1, hr⟩ := of_ob hr
    obtain ⟨h1, eh1, hr⟩ := of_bnd hr
    refine g_callV (pa := [.ref a3]) C hl0 (c_Mo_reduceOnce eh1) cd_Mo_71 kw_in_Mo_reduceOnce kw_se_Mo_reduceOnce hoh1 rfl rfl (by decide) rfl rfl (Nat.le_of_ble_eq_true rfl) d_Mo_add_52 ?_
    cases hr
    exact g_vreturn C T (by decide) (by decide) d_Mo_add_55
  · have hr := of_el z hr
    refine g_lload C 4 rfl d_Mo_add_13 ?_
    refine g_aload_n C 1 rfl d_Mo_add_15 rfl ?_
    refine g_iload C 5 rfl d_Mo_add_16 ?_
    obtain ⟨v2, ev2, hr⟩ := of_bnd hr
    refine g_laload C ev2 d_Mo_add_18 ?_
    refine g_aload_n C 2 rfl d_Mo_add_19 rfl ?_
    refine g_iload C 5 rfl d_Mo_add_20 ?_
    obtain ⟨v3, ev3, hr⟩ := of_bnd hr
    refine g_laload C ev3 d_Mo_add_22 ?_
    refine g_ladd C d_Mo_add_23 ?_
    refine g_ladd C d_Mo_add_24 ?_
    refine g_topl (fun x4 ex4 => ?_)
    have hr := of_lt ex4 hr
    refine g_lstore (lv' := [(4, .long x4), (0, .ref a0), (1, .ref a1), (2, .ref a2), (3, .ref a3), (6, .int a6)]) C d_Mo_add_25 (by decide) rfl ?_
    refine g_aload_n C 4 rfl d_Mo_add_27 rfl ?_
    refine g_iload C 5 rfl d_Mo_add_28 ?_
    refine g_lload C 0 rfl d_Mo_add_30 ?_
    refine g_ldc2 (v := 536870911) C d_Mo_add_32 kw_2 ?_
    refine g_land C d_Mo_add_35 ?_
    obtain ⟨h5, eh5, hr⟩ := of_bnd hr
    refine g_lastore C eh5 d_Mo_add_36 ?_
    refine g_lload C 0 rfl d_Mo_add_37 ?_
    refine g_bipush (v := 29) C d_Mo_add_39 (by decide) ?_
    refine g_lshr C d_Mo_add_41 ?_
    refine g_topl (fun x6 ex6 => ?_)
    have hr := of_lt ex6 hr
    refine g_lstore (lv' := [(4, .long x6), (0, .ref a0), (1, .ref a1), (2, .ref a2), (3, .ref a3), (6, .int a6)]) C d_Mo_add_42 (by decide) rfl ?_
    obtain ⟨x7, ex7⟩ : ∃ z, z = a6 + Int32.ofInt 1 := ⟨_, rfl⟩
    have hr := of_lt ex7 hr
    refine g_iinc (lv' := [(6, .int x7), (4, .long x6), (0, .ref a0), (1, .ref a1), (2, .ref a2), (3, .ref a3)]) C 5 rfl d_Mo_add_44 ex7.symm (by decide) rfl ?_
    refine g_goto (tgt := 6) C d_Mo_add_47 (by decide) ?_
    refine g_lv [2, 3, 4, 5, 1, 0] rfl ?_
    exact hK6 h5 a0 a1 a2 a3 x6 x7 hr
def L_Mo_add_6 : Nat → HP → Nat → Nat → Nat → Nat → Int64 → Int32 → Option (HP)
  | 0, _, _, _, _, _, _, _ => none
  | f + 1, h, a0, a1, a2, a3, a4, a6 => B_Mo_add_6 (L_Mo_add_6 f) h a0 a1 a2 a3 a4 a6
theorem lp_Mo_add_6 {l : Launch} {x : CX} {h0 h' : HP} (C : EV x b_Mo_add "PrimeKeys$Modulus" 7 rm_Mo_add) (T : CT x (none) rm_Mo_add h0 none h') (hl0 : x.1.2.1 = l) : ∀ (f : Nat) (h : HP) (a0 : Nat) (a1 : Nat) (a2 : Nat) (a3 : Nat) (a4 : Int64) (a6 : Int32), L_Mo_add_6 f h a0 a1 a2 a3 a4 a6 = some h' → GG x 0 0 h 6 [(0, .ref a0), (1, .ref a1), (2, .ref a2), (3, .ref a3), (4, .long a4), (6, .int a6)] [] := by
  intro f
  induction f with
  | zero => intro h a0 a1 a2 a3 a4 a6 hr; have hr : (none : Option (HP)) = some h' := hr; cases hr
  | succ f ih => intro h a0 a1 a2 a3 a4 a6 hr; exact bk_Mo_add_6 C T hl0 (L_Mo_add_6 f) ih h a0 a1 a2 a3 a4 a6 hr
def P_Mo_add (h : HP) (p0 : Nat) (p1 : Nat) (p2 : Nat) (p3 : Nat) : Option (HP) :=
  L_Mo_add_6 FU h p0 p1 p2 p3 0 0
set_option maxHeartbeats 4000000 in
set_option maxRecDepth 100000 in
theorem c_Mo_add {l : Launch} {h h' : HP} {p0 p1 p2 p3 : _} (hr : P_Mo_add h p0 p1 p2 p3 = some h') : MP l y_Mo_add (Cond.code y_Mo_add b_Mo_add 7 none :: TB) rm_Mo_add h [.ref p0, .ref p1, .ref p2, .ref p3] none h' := by
  refine MP_intro (cc := b_Mo_add) (by decide) (Nat.le_of_ble_eq_true rfl) (fun x hl0 C T hin => ?_)
  unfold P_Mo_add at hr
  show GG x 0 0 h 0 [(0, .ref p0), (1, .ref p1), (2, .ref p2), (3, .ref p3)] []
  refine g_lconst (v := 0) C d_Mo_add_0 (by decide) ?_
  refine g_lstore (lv' := [(4, .long 0), (0, .ref p0), (1, .ref p1), (2, .ref p2), (3, .ref p3)]) C d_Mo_add_1 (by decide) rfl ?_
  refine g_iconst (v := 0) C d_Mo_add_3 (by decide) ?_
  refine g_istore (lv' := [(6, .int 0), (4, .long 0), (0, .ref p0), (1, .ref p1), (2, .ref p2), (3, .ref p3)]) C d_Mo_add_4 (by decide) rfl ?_
  refine g_lv [2, 3, 4, 5, 1, 0] rfl ?_
  exact lp_Mo_add_6 C T hl0 FU h p0 p1 p2 p3 0 0 hr
abbrev b_Mo_subtract : ByteArray := prog_4_method_8_code
abbrev y_Mo_subtract : MethodName := ⟨"PrimeKeys$Modulus", "subtract", "([J[J[J)V"⟩
theorem d_Mo_subtract_0 : decode b_Mo_subtract 0 = .ok (.lconst 0, 1) := by decide +kernel
theorem d_Mo_subtract_1 : decode b_Mo_subtract 1 = .ok (.lstore 4, 2) := by decide +kernel
theorem d_Mo_subtract_3 : decode b_Mo_subtract 3 = .ok (.iconst 0, 1) := by decide +kernel
theorem d_Mo_subtract_4 : decode b_Mo_subtract 4 = .ok (.istore 6, 2) := by decide +kernel
theorem d_Mo_subtract_6 : decode b_Mo_subtract 6 = .ok (.iload 6, 2) := by decide +kernel
theorem d_Mo_subtract_8 : decode b_Mo_subtract 8 = .ok (.bipush 9, 2) := by decide +kernel
theorem d_Mo_subtract_10 : decode b_Mo_subtract 10 = .ok (.if_icmp .ge 40, 3) := by decide +kernel
theorem d_Mo_subtract_13 : decode b_Mo_subtract 13 = .ok (.lload 4, 2) := by decide +kernel
theorem d_Mo_subtract_15 : decode b_Mo_subtract 15 = .ok (.aload_n 1, 1) := by decide +kernel
theorem d_Mo_subtract_16 : decode b_Mo_subtract 16 = .ok (.iload 6, 2) := by decide +kernel
theorem d_Mo_subtract_18 : decode b_Mo_subtract 18 = .ok (.laload, 1) := by decide +kernel
theorem d_Mo_subtract_19 : decode b_Mo_subtract 19 = .ok (.aload_n 2, 1) := by decide +kernel
theorem d_Mo_subtract_20 : decode b_Mo_subtract 20 = .ok (.iload 6, 2) := by decide +kernel
theorem d_Mo_subtract_22 : decode b_Mo_subtract 22 = .ok (.laload, 1) := by decide +kernel
theorem d_Mo_subtract_23 : decode b_Mo_subtract 23 = .ok (.lsub, 1) := by decide +kernel
theorem d_Mo_subtract_24 : decode b_Mo_subtract 24 = .ok (.ladd, 1) := by decide +kernel
theorem d_Mo_subtract_25 : decode b_Mo_subtract 25 = .ok (.lstore 4, 2) := by decide +kernel
theorem d_Mo_subtract_27 : decode b_Mo_subtract 27 = .ok (.aload_n 3, 1) := by decide +kernel
theorem d_Mo_subtract_28 : decode b_Mo_subtract 28 = .ok (.iload 6, 2) := by decide +kernel
theorem d_Mo_subtract_30 : decode b_Mo_subtract 30 = .ok (.lload 4, 2) := by decide +kernel
theorem d_Mo_subtract_32 : decode b_Mo_subtract 32 = .ok (.ldc2_w 52, 3) := by decide +kernel
theorem d_Mo_subtract_35 : decode b_Mo_subtract 35 = .ok (.land, 1) := by decide +kernel
theorem d_Mo_subtract_36 : decode b_Mo_subtract 36 = .ok (.lastore, 1) := by decide +kernel
theorem d_Mo_subtract_37 : decode b_Mo_subtract 37 = .ok (.lload 4, 2) := by decide +kernel
theorem d_Mo_subtract_39 : decode b_Mo_subtract 39 = .ok (.bipush 29, 2) := by decide +kernel
theorem d_Mo_subtract_41 : decode b_Mo_subtract 41 = .ok (.lshr, 1) := by decide +kernel
theorem d_Mo_subtract_42 : decode b_Mo_subtract 42 = .ok (.lstore 4, 2) := by decide +kernel
theorem d_Mo_subtract_44 : decode b_Mo_subtract 44 = .ok (.iinc 6 1, 3) := by decide +kernel
theorem d_Mo_subtract_47 : decode b_Mo_subtract 47 = .ok (.goto (-41), 3) := by decide +kernel
theorem d_Mo_subtract_50 : decode b_Mo_subtract 50 = .ok (.lload 4, 2) := by decide +kernel
theorem d_Mo_subtract_52 : decode b_Mo_subtract 52 = .ok (.lconst 0, 1) := by decide +kernel
theorem d_Mo_subtract_53 : decode b_Mo_subtract 53 = .ok (.lcmp, 1) := by decide +kernel
theorem d_Mo_subtract_54 : decode b_Mo_subtract 54 = .ok (.ifCond .ge 8, 3) := by decide +kernel
theorem d_Mo_subtract_57 : decode b_Mo_subtract 57 = .ok (.aload_n 0, 1) := by decide +kernel
theorem d_Mo_subtract_58 : decode b_Mo_subtract 58 = .ok (.aload_n 3, 1) := by decide +kernel
theorem d_Mo_subtract_59 : decode b_Mo_subtract 59 = .ok (.invokevirtual 75, 3) := by decide +kernel
theorem d_Mo_subtract_62 : decode b_Mo_subtract 62 = .ok (.return_, 1) := by decide +kernel
theorem cd_Mo_75 : CD "PrimeKeys$Modulus" 75 y_Mo_addPrime b_Mo_addPrime 5 none 1 := ⟨tb_1 (List.mem_of_getElem? (i := 202) rfl) rfl, tb_1 (List.mem_of_getElem? (i := 4) (by decide +kernel)) rfl, tb_1 (List.mem_of_getElem? (i := 199) (by decide +kernel)) rfl, by decide +kernel⟩
theorem kw_in_Mo_addPrime : Cond.instanceMethod y_Mo_addPrime ∈ TB := tb_1 (List.mem_of_getElem? (i := 201) (by decide +kernel)) rfl
theorem kw_se_Mo_addPrime : Cond.selects "PrimeKeys$Modulus" y_Mo_addPrime y_Mo_addPrime ∈ TB := tb_p (q := (y_Mo_addPrime, 9)) (by decide +kernel)
abbrev rm_Mo_subtract : Room := { frames := 1, cells := 0, slots := 0, locals := 24 }
def B_Mo_subtract_62 (K6 : HP → Nat → Nat → Nat → Nat → Int64 → Int32 → Option (HP)) (h : HP) : Option (HP) :=
  some h
set_option maxHeartbeats 4000000 in
set_option maxRecDepth 100000 in
theorem bk_Mo_subtract_62 {l : Launch} {x : CX} {h0 h' : HP} (C : EV x b_Mo_subtract "PrimeKeys$Modulus" 7 rm_Mo_subtract) (T : CT x (none) rm_Mo_subtract h0 none h') (hl0 : x.1.2.1 = l) (K6 : HP → Nat → Nat → Nat → Nat → Int64 → Int32 → Option (HP)) (hK6 : ∀ (h : HP) (a0 : Nat) (a1 : Nat) (a2 : Nat) (a3 : Nat) (a4 : Int64) (a6 : Int32), K6 h a0 a1 a2 a3 a4 a6 = some h' → GG x 0 0 h 6 [(0, .ref a0), (1, .ref a1), (2, .ref a2), (3, .ref a3), (4, .long a4), (6, .int a6)] []) (h : HP) (hr : B_Mo_subtract_62 K6 h = some h') : GG x 0 0 h 62 [] [] := by
  unfold B_Mo_subtract_62 at hr
  cases hr
  exact g_vreturn C T (by decide) (by decide) d_Mo_subtract_62
def B_Mo_subtract_6 (K6 : HP → Nat → Nat → Nat → Nat → Int64 → Int32 → Option (HP)) (h : HP) (a0 : Nat) (a1 : Nat) (a2 : Nat) (a3 : Nat) (a4 : Int64) (a6 : Int32) : Option (HP) :=
  if 9 ≤ a6 then
  if 0 ≤ lg_cmp a4 0 then
  B_Mo_subtract_62 K6 h
  else
  ob h a0 1 (
  bnd (P_Mo_addPrime h a0 a3) fun h1 =>
  B_Mo_subtract_62 K6 h1)
  else
  bnd (ldJ h a1 a6) fun v2 =>
  bnd (ldJ h a2 a6) fun v3 =>
  lt (a4 + (v2 - v3)) fun x4 =>
  bnd (stJ h a3 a6 (x4 &&& 536870911)) fun h5 =>
  lt (x4 >>> (Int32.toInt64 29 &&& 63)) fun x6 =>
  lt (a6 + Int32.ofInt 1) fun x7 =>
  K6 h5 a0 a1 a2 a3 x6 x7
set_option maxHeartbeats 4000000 in
set_option maxRecDepth 100000 in
theorem bk_Mo_subtract_6 {l : Launch} {x : CX} {h0 h' : HP} (C : EV x b_Mo_subtract "PrimeKeys$Modulus" 7 rm_Mo_subtract) (T : CT x (none) rm_Mo_subtract h0 none h') (hl0 : x.1.2.1 = l) (K6 : HP → Nat → Nat → Nat → Nat → Int64 → Int32 → Option (HP)) (hK6 : ∀ (h : HP) (a0 : Nat) (a1 : Nat) (a2 : Nat) (a3 : Nat) (a4 : Int64) (a6 : Int32), K6 h a0 a1 a2 a3 a4 a6 = some h' → GG x 0 0 h 6 [(0, .ref a0), (1, .ref a1), (2, .ref a2), (3, .ref a3), (4, .long a4), (6, .int a6)] []) (h : HP) (a0 : Nat) (a1 : Nat) (a2 : Nat) (a3 : Nat) (a4 : Int64) (a6 : Int32) (hr : B_Mo_subtract_6 K6 h a0 a1 a2 a3 a4 a6 = some h') : GG x 0 0 h 6 [(0, .ref a0), (1, .ref a1), (2, .ref a2), (3, .ref a3), (4, .long a4), (6, .int a6)] [] := by
  unfold B_Mo_subtract_6 at hr
  refine g_iload C 5 rfl d_Mo_subtract_6 ?_
  refine g_bipush (v := 9) C d_Mo_subtract_8 (by decide) ?_
  refine g_icmp_ge (tgt := 50) C d_Mo_subtract_10 (by decide) (fun z => ?_) (fun z => ?_)
  · have hr := of_if z hr
    refine g_lload C 4 rfl d_Mo_subtract_50 ?_
    refine g_lconst (v := 0) C d_Mo_subtract_52 (by decide) ?_
    refine g_lcmp C d_Mo_subtract_53 ?_
    refine g_if_ge (tgt := 62) C d_Mo_subtract_54 (by decide) (fun z => ?_) (fun z => ?_)
    · have hr := of_if z hr
      refine g_lv [] rfl ?_
      exact bk_Mo_subtract_62 C T hl0 K6 hK6 h hr
    · have hr := of_el z hr
      refine g_aload_n C 0 rfl d_Mo_subtract_57 rfl ?_
      refine g_aload_n C 3 rfl d_Mo_subtract_58 rfl ?_
      obtain ⟨fsh1, hoh1, hr⟩ := of_ob hr
      obtain ⟨h1, eh1, hr⟩ := of_bnd hr
      refine g_callV (pa := [.ref a3]) C hl0 (c_Mo_addPrime eh1) cd_Mo_75 kw_in_Mo_addPrime kw_se_Mo_addPrime hoh1 rfl rfl (by decide) rfl rfl (Nat.le_of_ble_eq_true rfl) d_Mo_subtract_59 ?_
      refine g_lv [] rfl ?_
      exact bk_Mo_subtract_62 C T hl0 K6 hK6 h1 hr
  · have hr := of_el z hr
    refine g_lload C 4 rfl d_Mo_subtract_13 ?_
    refine g_aload_n C 1 rfl d_Mo_subtract_15 rfl ?_
    refine g_iload C 5 rfl d_Mo_subtract_16 ?_
    obtain ⟨v2, ev2, hr⟩ := of_bnd hr
    refine g_laload C ev2 d_Mo_subtract_18 ?_
    refine g_aload_n C 2 rfl d_Mo_subtract_19 rfl ?_
    refine g_iload C 5 rfl d_Mo_subtract_20 ?_
    obtain ⟨v3, ev3, hr⟩ := of_bnd hr
    refine g_laload C ev3 d_Mo_subtract_22 ?_
    refine g_lsub C d_Mo_subtract_23 ?_
    refine g_ladd C d_Mo_subtract_24 ?_
    refine g_topl (fun x4 ex4 => ?_)
    have hr := of_lt ex4 hr
    refine g_lstore (lv' := [(4, .long x4), (0, .ref a0), (1, .ref a1), (2, .ref a2), (3, .ref a3), (6, .int a6)]) C d_Mo_subtract_25 (by decide) rfl ?_
    refine g_aload_n C 4 rfl d_Mo_subtract_27 rfl ?_
    refine g_iload C 5 rfl d_Mo_subtract_28 ?_
    refine g_lload C 0 rfl d_Mo_subtract_30 ?_
    refine g_ldc2 (v := 536870911) C d_Mo_subtract_32 kw_2 ?_
    refine g_land C d_Mo_subtract_35 ?_
    obtain ⟨h5, eh5, hr⟩ := of_bnd hr
    refine g_lastore C eh5 d_Mo_subtract_36 ?_
    refine g_lload C 0 rfl d_Mo_subtract_37 ?_
    refine g_bipush (v := 29) C d_Mo_subtract_39 (by decide) ?_
    refine g_lshr C d_Mo_subtract_41 ?_
    refine g_topl (fun x6 ex6 => ?_)
    have hr := of_lt ex6 hr
    refine g_lstore (lv' := [(4, .long x6), (0, .ref a0), (1, .ref a1), (2, .ref a2), (3, .ref a3), (6, .int a6)]) C d_Mo_subtract_42 (by decide) rfl ?_
    obtain ⟨x7, ex7⟩ : ∃ z, z = a6 + Int32.ofInt 1 := ⟨_, rfl⟩
    have hr := of_lt ex7 hr
    refine g_iinc (lv' := [(6, .int x7), (4, .long x6), (0, .ref a0), (1, .ref a1), (2, .ref a2), (3, .ref a3)]) C 5 rfl d_Mo_subtract_44 ex7.symm (by decide) rfl ?_
    refine g_goto (tgt := 6) C d_Mo_subtract_47 (by decide) ?_
    refine g_lv [2, 3, 4, 5, 1, 0] rfl ?_
    exact hK6 h5 a0 a1 a2 a3 x6 x7 hr
def L_Mo_subtract_6 : Nat → HP → Nat → Nat → Nat → Nat → Int64 → Int32 → Option (HP)
  | 0, _, _, _, _, _, _, _ => none
  | f + 1, h, a0, a1, a2, a3, a4, a6 => B_Mo_subtract_6 (L_Mo_subtract_6 f) h a0 a1 a2 a3 a4 a6
theorem lp_Mo_subtract_6 {l : Launch} {x : CX} {h0 h' : HP} (C : EV x b_Mo_subtract "PrimeKeys$Modulus" 7 rm_Mo_subtract) (T : CT x (none) rm_Mo_subtract h0 none h') (hl0 : x.1.2.1 = l) : ∀ (f : Nat) (h : HP) (a0 : Nat) (a1 : Nat) (a2 : Nat) (a3 : Nat) (a4 : Int64) (a6 : Int32), L_Mo_subtract_6 f h a0 a1 a2 a3 a4 a6 = some h' → GG x 0 0 h 6 [(0, .ref a0), (1, .ref a1), (2, .ref a2), (3, .ref a3), (4, .long a4), (6, .int a6)] [] := by
  intro f
  induction f with
  | zero => intro h a0 a1 a2 a3 a4 a6 hr; have hr : (none : Option (HP)) = some h' := hr; cases hr
  | succ f ih => intro h a0 a1 a2 a3 a4 a6 hr; exact bk_Mo_subtract_6 C T hl0 (L_Mo_subtract_6 f) ih h a0 a1 a2 a3 a4 a6 hr
def P_Mo_subtract (h : HP) (p0 : Nat) (p1 : Nat) (p2 : Nat) (p3 : Nat) : Option (HP) :=
  L_Mo_subtract_6 FU h p0 p1 p2 p3 0 0
set_option maxHeartbeats 4000000 in
set_option maxRecDepth 100000 in
theorem c_Mo_subtract {l : Launch} {h h' : HP} {p0 p1 p2 p3 : _} (hr : P_Mo_subtract h p0 p1 p2 p3 = some h') : MP l y_Mo_subtract (Cond.code y_Mo_subtract b_Mo_subtract 7 none :: TB) rm_Mo_subtract h [.ref p0, .ref p1, .ref p2, .ref p3] none h' := by
  refine MP_intro (cc := b_Mo_subtract) (by decide) (Nat.le_of_ble_eq_true rfl) (fun x hl0 C T hin => ?_)
  unfold P_Mo_subtract at hr
  show GG x 0 0 h 0 [(0, .ref p0), (1, .ref p1), (2, .ref p2), (3, .ref p3)] []
  refine g_lconst (v := 0) C d_Mo_subtract_0 (by decide) ?_
  refine g_lstore (lv' := [(4, .long 0), (0, .ref p0), (1, .ref p1), (2, .ref p2), (3, .ref p3)]) C d_Mo_subtract_1 (by decide) rfl ?_
  refine g_iconst (v := 0) C d_Mo_subtract_3 (by decide) ?_
  refine g_istore (lv' := [(6, .int 0), (4, .long 0), (0, .ref p0), (1, .ref p1), (2, .ref p2), (3, .ref p3)]) C d_Mo_subtract_4 (by decide) rfl ?_
  refine g_lv [2, 3, 4, 5, 1, 0] rfl ?_
  exact lp_Mo_subtract_6 C T hl0 FU h p0 p1 p2 p3 0 0 hr
