abbrev b_Rm_prime : ByteArray := prog_12_method_20_code
abbrev y_Rm_prime : MethodName := ⟨"PrimeKeysModel", "prime", "(I)I"⟩
theorem d_Rm_prime_0 : decode b_Rm_prime 0 = .ok (.iload_n 0, 1) := by decide +kernel
theorem d_Rm_prime_1 : decode b_Rm_prime 1 = .ok (.istore_n 1, 1) := by decide +kernel
theorem d_Rm_prime_2 : decode b_Rm_prime 2 = .ok (.iconst 0, 1) := by decide +kernel
theorem d_Rm_prime_3 : decode b_Rm_prime 3 = .ok (.istore_n 2, 1) := by decide +kernel
theorem d_Rm_prime_4 : decode b_Rm_prime 4 = .ok (.iload_n 2, 1) := by decide +kernel
theorem d_Rm_prime_5 : decode b_Rm_prime 5 = .ok (.ifCond .ne 34, 3) := by decide +kernel
theorem d_Rm_prime_8 : decode b_Rm_prime 8 = .ok (.iinc 1 1, 3) := by decide +kernel
theorem d_Rm_prime_11 : decode b_Rm_prime 11 = .ok (.iconst 1, 1) := by decide +kernel
theorem d_Rm_prime_12 : decode b_Rm_prime 12 = .ok (.istore_n 2, 1) := by decide +kernel
theorem d_Rm_prime_13 : decode b_Rm_prime 13 = .ok (.iconst 2, 1) := by decide +kernel
theorem d_Rm_prime_14 : decode b_Rm_prime 14 = .ok (.istore_n 3, 1) := by decide +kernel
theorem d_Rm_prime_15 : decode b_Rm_prime 15 = .ok (.iload_n 3, 1) := by decide +kernel
theorem d_Rm_prime_16 : decode b_Rm_prime 16 = .ok (.iload_n 3, 1) := by decide +kernel
theorem d_Rm_prime_17 : decode b_Rm_prime 17 = .ok (.imul, 1) := by decide +kernel
theorem d_Rm_prime_18 : decode b_Rm_prime 18 = .ok (.iload_n 1, 1) := by decide +kernel
theorem d_Rm_prime_19 : decode b_Rm_prime 19 = .ok (.if_icmp .gt 17, 3) := by decide +kernel
theorem d_Rm_prime_22 : decode b_Rm_prime 22 = .ok (.iload_n 1, 1) := by decide +kernel
theorem d_Rm_prime_23 : decode b_Rm_prime 23 = .ok (.iload_n 3, 1) := by decide +kernel
theorem d_Rm_prime_24 : decode b_Rm_prime 24 = .ok (.irem, 1) := by decide +kernel
theorem d_Rm_prime_25 : decode b_Rm_prime 25 = .ok (.ifCond .ne 5, 3) := by decide +kernel
theorem d_Rm_prime_28 : decode b_Rm_prime 28 = .ok (.iconst 0, 1) := by decide +kernel
theorem d_Rm_prime_29 : decode b_Rm_prime 29 = .ok (.istore_n 2, 1) := by decide +kernel
theorem d_Rm_prime_30 : decode b_Rm_prime 30 = .ok (.iinc 3 1, 3) := by decide +kernel
theorem d_Rm_prime_33 : decode b_Rm_prime 33 = .ok (.goto (-18), 3) := by decide +kernel
theorem d_Rm_prime_36 : decode b_Rm_prime 36 = .ok (.goto (-32), 3) := by decide +kernel
theorem d_Rm_prime_39 : decode b_Rm_prime 39 = .ok (.iload_n 1, 1) := by decide +kernel
theorem d_Rm_prime_40 : decode b_Rm_prime 40 = .ok (.ireturn, 1) := by decide +kernel
abbrev rm_Rm_prime : Room := { frames := 0, cells := 0, slots := 0, locals := 0 }
def B_Rm_prime_30 (K4 : HP → Int32 → Int32 → Option (Int32 × HP)) (K15 : HP → Int32 → Int32 → Int32 → Option (Int32 × HP)) (h : HP) (a1 : Int32) (a2 : Int32) (a3 : Int32) : Option (Int32 × HP) :=
  lt (a3 + Int32.ofInt 1) fun x2 =>
  K15 h a1 a2 x2
set_option maxHeartbeats 4000000 in
set_option maxRecDepth 100000 in
theorem bk_Rm_prime_30 {l : Launch} {x : CX} {h0 h' : HP} {r' : Int32} (C : EV x b_Rm_prime "PrimeKeysModel" 4 rm_Rm_prime) (T : CT x (some .int) rm_Rm_prime h0 (some (.int r')) h') (hl0 : x.1.2.1 = l) (K4 : HP → Int32 → Int32 → Option (Int32 × HP)) (K15 : HP → Int32 → Int32 → Int32 → Option (Int32 × HP)) (hK4 : ∀ (h : HP) (a1 : Int32) (a2 : Int32), K4 h a1 a2 = some (r', h') → GG x 0 0 h 4 [(1, .int a1), (2, .int a2)] []) (hK15 : ∀ (h : HP) (a1 : Int32) (a2 : Int32) (a3 : Int32), K15 h a1 a2 a3 = some (r', h') → GG x 0 0 h 15 [(1, .int a1), (2, .int a2), (3, .int a3)] []) (h : HP) (a1 : Int32) (a2 : Int32) (a3 : Int32) (hr : B_Rm_prime_30 K4 K15 h a1 a2 a3 = some (r', h')) : GG x 0 0 h 30 [(1, .int a1), (2, .int a2), (3, .int a3)] [] := by
  unfold B_Rm_prime_30 at hr
  obtain ⟨x2, ex2⟩ : ∃ z, z = a3 + Int32.ofInt 1 := ⟨_, rfl⟩
  have hr := of_lt ex2 hr
  refine g_iinc (lv' := [(3, .int x2), (1, .int a1), (2, .int a2)]) C 2 rfl d_Rm_prime_30 ex2.symm (by decide) rfl ?_
  refine g_goto (tgt := 15) C d_Rm_prime_33 (by decide) ?_
  refine g_lv [1, 2, 0] rfl ?_
  exact hK15 h a1 a2 x2 hr
def B_Rm_prime_15 (K4 : HP → Int32 → Int32 → Option (Int32 × HP)) (K15 : HP → Int32 → Int32 → Int32 → Option (Int32 × HP)) (h : HP) (a1 : Int32) (a2 : Int32) (a3 : Int32) : Option (Int32 × HP) :=
  if a1 < a3 * a3 then
  K4 h a1 a2
  else
  gd (¬ a3 = 0) (
  if a1 - a1 / a3 * a3 = 0 then
  B_Rm_prime_30 K4 K15 h a1 0 a3
  else
  B_Rm_prime_30 K4 K15 h a1 a2 a3)
set_option maxHeartbeats 4000000 in
set_option maxRecDepth 100000 in
theorem bk_Rm_prime_15 {l : Launch} {x : CX} {h0 h' : HP} {r' : Int32} (C : EV x b_Rm_prime "PrimeKeysModel" 4 rm_Rm_prime) (T : CT x (some .int) rm_Rm_prime h0 (some (.int r')) h') (hl0 : x.1.2.1 = l) (K4 : HP → Int32 → Int32 → Option (Int32 × HP)) (K15 : HP → Int32 → Int32 → Int32 → Option (Int32 × HP)) (hK4 : ∀ (h : HP) (a1 : Int32) (a2 : Int32), K4 h a1 a2 = some (r', h') → GG x 0 0 h 4 [(1, .int a1), (2, .int a2)] []) (hK15 : ∀ (h : HP) (a1 : Int32) (a2 : Int32) (a3 : Int32), K15 h a1 a2 a3 = some (r', h') → GG x 0 0 h 15 [(1, .int a1), (2, .int a2), (3, .int a3)] []) (h : HP) (a1 : Int32) (a2 : Int32) (a3 : Int32) (hr : B_Rm_prime_15 K4 K15 h a1 a2 a3 = some (r', h')) : GG x 0 0 h 15 [(1, .int a1), (2, .int a2), (3, .int a3)] [] := by
  unfold B_Rm_prime_15 at hr
  refine g_iload_n C 2 rfl d_Rm_prime_15 rfl ?_
  refine g_iload_n C 2 rfl d_Rm_prime_16 rfl ?_
  refine g_imul C d_Rm_prime_17 ?_
  refine g_iload_n C 0 rfl d_Rm_prime_18 rfl ?_
  refine g_icmp_gt (tgt := 36) C d_Rm_prime_19 (by decide) (fun z => ?_) (fun z => ?_)
  · have hr := of_if z hr
    refine g_goto (tgt := 4) C d_Rm_prime_36 (by decide) ?_
    refine g_lv [0, 1] rfl ?_
    exact hK4 h a1 a2 hr
  · have hr := of_el z hr
    refine g_iload_n C 0 rfl d_Rm_prime_22 rfl ?_
    refine g_iload_n C 2 rfl d_Rm_prime_23 rfl ?_
    obtain ⟨hz, hr⟩ := of_gd hr
    refine g_irem C d_Rm_prime_24 hz ?_
    refine g_if_ne (tgt := 30) C d_Rm_prime_25 (by decide) (fun z => ?_) (fun z => ?_)
    · have hr := of_el z hr
      exact bk_Rm_prime_30 C T hl0 K4 K15 hK4 hK15 h a1 a2 a3 hr
    · have hr := of_if z hr
      refine g_iconst (v := 0) C d_Rm_prime_28 (by decide) ?_
      refine g_istore_n (lv' := [(2, .int 0), (1, .int a1), (3, .int a3)]) C d_Rm_prime_29 rfl (by decide) rfl ?_
      refine g_lv [1, 0, 2] rfl ?_
      exact bk_Rm_prime_30 C T hl0 K4 K15 hK4 hK15 h a1 0 a3 hr
def L_Rm_prime_15 (K4 : HP → Int32 → Int32 → Option (Int32 × HP)) : Nat → HP → Int32 → Int32 → Int32 → Option (Int32 × HP)
  | 0, _, _, _, _ => none
  | f + 1, h, a1, a2, a3 => B_Rm_prime_15 K4 (L_Rm_prime_15 K4 f) h a1 a2 a3
theorem lp_Rm_prime_15 {l : Launch} {x : CX} {h0 h' : HP} {r' : Int32} (C : EV x b_Rm_prime "PrimeKeysModel" 4 rm_Rm_prime) (T : CT x (some .int) rm_Rm_prime h0 (some (.int r')) h') (hl0 : x.1.2.1 = l) (K4 : HP → Int32 → Int32 → Option (Int32 × HP)) (hK4 : ∀ (h : HP) (a1 : Int32) (a2 : Int32), K4 h a1 a2 = some (r', h') → GG x 0 0 h 4 [(1, .int a1), (2, .int a2)] []) : ∀ (f : Nat) (h : HP) (a1 : Int32) (a2 : Int32) (a3 : Int32), L_Rm_prime_15 K4 f h a1 a2 a3 = some (r', h') → GG x 0 0 h 15 [(1, .int a1), (2, .int a2), (3, .int a3)] [] := by
  intro f
  induction f with
  | zero => intro h a1 a2 a3 hr; have hr : (none : Option (Int32 × HP)) = some (r', h') := hr; cases hr
  | succ f ih => intro h a1 a2 a3 hr; exact bk_Rm_prime_15 C T hl0 K4 (L_Rm_prime_15 K4 f) hK4 ih h a1 a2 a3 hr
def B_Rm_prime_4 (K4 : HP → Int32 → Int32 → Option (Int32 × HP)) (h : HP) (a1 : Int32) (a2 : Int32) : Option (Int32 × HP) :=
  if a2 = 0 then
  lt (a1 + Int32.ofInt 1) fun x1 =>
  L_Rm_prime_15 K4 FU h x1 1 2
  else
  some (a1, h)
set_option maxHeartbeats 4000000 in
set_option maxRecDepth 100000 in
theorem bk_Rm_prime_4 {l : Launch} {x : CX} {h0 h' : HP} {r' : Int32} (C : EV x b_Rm_prime "PrimeKeysModel" 4 rm_Rm_prime) (T : CT x (some .int) rm_Rm_prime h0 (some (.int r')) h') (hl0 : x.1.2.1 = l) (K4 : HP → Int32 → Int32 → Option (Int32 × HP)) (hK4 : ∀ (h : HP) (a1 : Int32) (a2 : Int32), K4 h a1 a2 = some (r', h') → GG x 0 0 h 4 [(1, .int a1), (2, .int a2)] []) (h : HP) (a1 : Int32) (a2 : Int32) (hr : B_Rm_prime_4 K4 h a1 a2 = some (r', h')) : GG x 0 0 h 4 [(1, .int a1), (2, .int a2)] [] := by
  unfold B_Rm_prime_4 at hr
  refine g_iload_n C 1 rfl d_Rm_prime_4 rfl ?_
  refine g_if_ne (tgt := 39) C d_Rm_prime_5 (by decide) (fun z => ?_) (fun z => ?_)
  · have hr := of_el z hr
    refine g_iload_n C 0 rfl d_Rm_prime_39 rfl ?_
    cases hr
    exact g_ireturn C T rfl (by decide) (by decide) d_Rm_prime_40
  · have hr := of_if z hr
    obtain ⟨x1, ex1⟩ : ∃ z, z = a1 + Int32.ofInt 1 := ⟨_, rfl⟩
    have hr := of_lt ex1 hr
    refine g_iinc (lv' := [(1, .int x1), (2, .int a2)]) C 0 rfl d_Rm_prime_8 ex1.symm (by decide) rfl ?_
    refine g_iconst (v := 1) C d_Rm_prime_11 (by decide) ?_
    refine g_istore_n (lv' := [(2, .int 1), (1, .int x1)]) C d_Rm_prime_12 rfl (by decide) rfl ?_
    refine g_iconst (v := 2) C d_Rm_prime_13 (by decide) ?_
    refine g_istore_n (lv' := [(3, .int 2), (2, .int 1), (1, .int x1)]) C d_Rm_prime_14 rfl (by decide) rfl ?_
    refine g_lv [2, 1, 0] rfl ?_
    exact lp_Rm_prime_15 C T hl0 K4 hK4 FU h x1 1 2 hr
def L_Rm_prime_4 : Nat → HP → Int32 → Int32 → Option (Int32 × HP)
  | 0, _, _, _ => none
  | f + 1, h, a1, a2 => B_Rm_prime_4 (L_Rm_prime_4 f) h a1 a2
theorem lp_Rm_prime_4 {l : Launch} {x : CX} {h0 h' : HP} {r' : Int32} (C : EV x b_Rm_prime "PrimeKeysModel" 4 rm_Rm_prime) (T : CT x (some .int) rm_Rm_prime h0 (some (.int r')) h') (hl0 : x.1.2.1 = l) : ∀ (f : Nat) (h : HP) (a1 : Int32) (a2 : Int32), L_Rm_prime_4 f h a1 a2 = some (r', h') → GG x 0 0 h 4 [(1, .int a1), (2, .int a2)] [] := by
  intro f
  induction f with
  | zero => intro h a1 a2 hr; have hr : (none : Option (Int32 × HP)) = some (r', h') := hr; cases hr
  | succ f ih => intro h a1 a2 hr; exact bk_Rm_prime_4 C T hl0 (L_Rm_prime_4 f) ih h a1 a2 hr
def P_Rm_prime (h : HP) (p0 : Int32) : Option (Int32 × HP) :=
  L_Rm_prime_4 FU h p0 0
set_option maxHeartbeats 4000000 in
set_option maxRecDepth 100000 in
theorem c_Rm_prime {l : Launch} {h h' : HP} {p0 : _} {r' : Int32} (hr : P_Rm_prime h p0 = some (r', h')) : MP l y_Rm_prime (Cond.code y_Rm_prime b_Rm_prime 4 (some .int) :: TB) rm_Rm_prime h [.int p0] (some (.int r')) h' := by
  refine MP_intro (cc := b_Rm_prime) (by decide) (Nat.le_of_ble_eq_true rfl) (fun x hl0 C T hin => ?_)
  unfold P_Rm_prime at hr
  show GG x 0 0 h 0 [(0, .int p0)] []
  refine g_iload_n C 0 rfl d_Rm_prime_0 rfl ?_
  refine g_istore_n (lv' := [(1, .int p0), (0, .int p0)]) C d_Rm_prime_1 rfl (by decide) rfl ?_
  refine g_iconst (v := 0) C d_Rm_prime_2 (by decide) ?_
  refine g_istore_n (lv' := [(2, .int 0), (1, .int p0), (0, .int p0)]) C d_Rm_prime_3 rfl (by decide) rfl ?_
  refine g_lv [1, 0] rfl ?_
  exact lp_Rm_prime_4 C T hl0 FU h p0 0 hr
abbrev b_Rm_raise : ByteArray := prog_12_method_24_code
abbrev y_Rm_raise : MethodName := ⟨"PrimeKeysModel", "raise", "(JJ)V"⟩
theorem d_Rm_raise_0 : decode b_Rm_raise 0 = .ok (.iconst 0, 1) := by decide +kernel
theorem d_Rm_raise_1 : decode b_Rm_raise 1 = .ok (.istore 5, 2) := by decide +kernel
theorem d_Rm_raise_3 : decode b_Rm_raise 3 = .ok (.iload 5, 2) := by decide +kernel
theorem d_Rm_raise_5 : decode b_Rm_raise 5 = .ok (.bipush 8, 2) := by decide +kernel
theorem d_Rm_raise_7 : decode b_Rm_raise 7 = .ok (.if_icmp .ge 17, 3) := by decide +kernel
theorem d_Rm_raise_10 : decode b_Rm_raise 10 = .ok (.aload_n 0, 1) := by decide +kernel
theorem d_Rm_raise_11 : decode b_Rm_raise 11 = .ok (.getfield 251, 3) := by decide +kernel
theorem d_Rm_raise_14 : decode b_Rm_raise 14 = .ok (.iload 5, 2) := by decide +kernel
theorem d_Rm_raise_16 : decode b_Rm_raise 16 = .ok (.lconst 0, 1) := by decide +kernel
theorem d_Rm_raise_17 : decode b_Rm_raise 17 = .ok (.lastore, 1) := by decide +kernel
theorem d_Rm_raise_18 : decode b_Rm_raise 18 = .ok (.iinc 5 1, 3) := by decide +kernel
theorem d_Rm_raise_21 : decode b_Rm_raise 21 = .ok (.goto (-18), 3) := by decide +kernel
theorem d_Rm_raise_24 : decode b_Rm_raise 24 = .ok (.iconst 0, 1) := by decide +kernel
theorem d_Rm_raise_25 : decode b_Rm_raise 25 = .ok (.istore 5, 2) := by decide +kernel
theorem d_Rm_raise_27 : decode b_Rm_raise 27 = .ok (.iload 5, 2) := by decide +kernel
theorem d_Rm_raise_29 : decode b_Rm_raise 29 = .ok (.iconst 3, 1) := by decide +kernel
theorem d_Rm_raise_30 : decode b_Rm_raise 30 = .ok (.if_icmp .ge 109, 3) := by decide +kernel
theorem d_Rm_raise_33 : decode b_Rm_raise 33 = .ok (.iload 5, 2) := by decide +kernel
theorem d_Rm_raise_35 : decode b_Rm_raise 35 = .ok (.ifCond .ne 11, 3) := by decide +kernel
theorem d_Rm_raise_38 : decode b_Rm_raise 38 = .ok (.lload_n 3, 1) := by decide +kernel
theorem d_Rm_raise_39 : decode b_Rm_raise 39 = .ok (.ldc2_w 323, 3) := by decide +kernel
theorem d_Rm_raise_42 : decode b_Rm_raise 42 = .ok (.land, 1) := by decide +kernel
theorem d_Rm_raise_43 : decode b_Rm_raise 43 = .ok (.goto 17, 3) := by decide +kernel
theorem d_Rm_raise_46 : decode b_Rm_raise 46 = .ok (.iload 5, 2) := by decide +kernel
theorem d_Rm_raise_48 : decode b_Rm_raise 48 = .ok (.iconst 1, 1) := by decide +kernel
theorem d_Rm_raise_49 : decode b_Rm_raise 49 = .ok (.if_icmp .ne 10, 3) := by decide +kernel
theorem d_Rm_raise_52 : decode b_Rm_raise 52 = .ok (.lload_n 3, 1) := by decide +kernel
theorem d_Rm_raise_53 : decode b_Rm_raise 53 = .ok (.bipush 32, 2) := by decide +kernel
theorem d_Rm_raise_55 : decode b_Rm_raise 55 = .ok (.lushr, 1) := by decide +kernel
theorem d_Rm_raise_56 : decode b_Rm_raise 56 = .ok (.goto 4, 3) := by decide +kernel
theorem d_Rm_raise_59 : decode b_Rm_raise 59 = .ok (.lload_n 1, 1) := by decide +kernel
theorem d_Rm_raise_60 : decode b_Rm_raise 60 = .ok (.lstore 6, 2) := by decide +kernel
theorem d_Rm_raise_62 : decode b_Rm_raise 62 = .ok (.lconst 0, 1) := by decide +kernel
theorem d_Rm_raise_63 : decode b_Rm_raise 63 = .ok (.lstore 8, 2) := by decide +kernel
theorem d_Rm_raise_65 : decode b_Rm_raise 65 = .ok (.iconst 0, 1) := by decide +kernel
theorem d_Rm_raise_66 : decode b_Rm_raise 66 = .ok (.istore 10, 2) := by decide +kernel
theorem d_Rm_raise_68 : decode b_Rm_raise 68 = .ok (.iload 5, 2) := by decide +kernel
theorem d_Rm_raise_70 : decode b_Rm_raise 70 = .ok (.iload 10, 2) := by decide +kernel
theorem d_Rm_raise_72 : decode b_Rm_raise 72 = .ok (.iadd, 1) := by decide +kernel
theorem d_Rm_raise_73 : decode b_Rm_raise 73 = .ok (.bipush 8, 2) := by decide +kernel
theorem d_Rm_raise_75 : decode b_Rm_raise 75 = .ok (.if_icmp .ge 58, 3) := by decide +kernel
theorem d_Rm_raise_78 : decode b_Rm_raise 78 = .ok (.aload_n 0, 1) := by decide +kernel
theorem d_Rm_raise_79 : decode b_Rm_raise 79 = .ok (.getfield 251, 3) := by decide +kernel
theorem d_Rm_raise_82 : decode b_Rm_raise 82 = .ok (.iload 5, 2) := by decide +kernel
theorem d_Rm_raise_84 : decode b_Rm_raise 84 = .ok (.iload 10, 2) := by decide +kernel
theorem d_Rm_raise_86 : decode b_Rm_raise 86 = .ok (.iadd, 1) := by decide +kernel
theorem d_Rm_raise_87 : decode b_Rm_raise 87 = .ok (.laload, 1) := by decide +kernel
theorem d_Rm_raise_88 : decode b_Rm_raise 88 = .ok (.lload 6, 2) := by decide +kernel
theorem d_Rm_raise_90 : decode b_Rm_raise 90 = .ok (.aload_n 0, 1) := by decide +kernel
theorem d_Rm_raise_91 : decode b_Rm_raise 91 = .ok (.getfield 248, 3) := by decide +kernel
theorem d_Rm_raise_94 : decode b_Rm_raise 94 = .ok (.iload 10, 2) := by decide +kernel
theorem d_Rm_raise_96 : decode b_Rm_raise 96 = .ok (.laload, 1) := by decide +kernel
theorem d_Rm_raise_97 : decode b_Rm_raise 97 = .ok (.lmul, 1) := by decide +kernel
theorem d_Rm_raise_98 : decode b_Rm_raise 98 = .ok (.ladd, 1) := by decide +kernel
theorem d_Rm_raise_99 : decode b_Rm_raise 99 = .ok (.lload 8, 2) := by decide +kernel
theorem d_Rm_raise_101 : decode b_Rm_raise 101 = .ok (.ladd, 1) := by decide +kernel
theorem d_Rm_raise_102 : decode b_Rm_raise 102 = .ok (.lstore 11, 2) := by decide +kernel
theorem d_Rm_raise_104 : decode b_Rm_raise 104 = .ok (.aload_n 0, 1) := by decide +kernel
theorem d_Rm_raise_105 : decode b_Rm_raise 105 = .ok (.getfield 251, 3) := by decide +kernel
theorem d_Rm_raise_108 : decode b_Rm_raise 108 = .ok (.iload 5, 2) := by decide +kernel
theorem d_Rm_raise_110 : decode b_Rm_raise 110 = .ok (.iload 10, 2) := by decide +kernel
theorem d_Rm_raise_112 : decode b_Rm_raise 112 = .ok (.iadd, 1) := by decide +kernel
theorem d_Rm_raise_113 : decode b_Rm_raise 113 = .ok (.lload 11, 2) := by decide +kernel
theorem d_Rm_raise_115 : decode b_Rm_raise 115 = .ok (.ldc2_w 323, 3) := by decide +kernel
theorem d_Rm_raise_118 : decode b_Rm_raise 118 = .ok (.land, 1) := by decide +kernel
theorem d_Rm_raise_119 : decode b_Rm_raise 119 = .ok (.lastore, 1) := by decide +kernel
theorem d_Rm_raise_120 : decode b_Rm_raise 120 = .ok (.lload 11, 2) := by decide +kernel
theorem d_Rm_raise_122 : decode b_Rm_raise 122 = .ok (.bipush 32, 2) := by decide +kernel
theorem d_Rm_raise_124 : decode b_Rm_raise 124 = .ok (.lushr, 1) := by decide +kernel
theorem d_Rm_raise_125 : decode b_Rm_raise 125 = .ok (.lstore 8, 2) := by decide +kernel
theorem d_Rm_raise_127 : decode b_Rm_raise 127 = .ok (.iinc 10 1, 3) := by decide +kernel
theorem d_Rm_raise_130 : decode b_Rm_raise 130 = .ok (.goto (-62), 3) := by decide +kernel
theorem d_Rm_raise_133 : decode b_Rm_raise 133 = .ok (.iinc 5 1, 3) := by decide +kernel
theorem d_Rm_raise_136 : decode b_Rm_raise 136 = .ok (.goto (-109), 3) := by decide +kernel
theorem d_Rm_raise_139 : decode b_Rm_raise 139 = .ok (.iconst 0, 1) := by decide +kernel
theorem d_Rm_raise_140 : decode b_Rm_raise 140 = .ok (.istore 5, 2) := by decide +kernel
theorem d_Rm_raise_142 : decode b_Rm_raise 142 = .ok (.iload 5, 2) := by decide +kernel
theorem d_Rm_raise_144 : decode b_Rm_raise 144 = .ok (.bipush 8, 2) := by decide +kernel
theorem d_Rm_raise_146 : decode b_Rm_raise 146 = .ok (.if_icmp .ge 23, 3) := by decide +kernel
theorem d_Rm_raise_149 : decode b_Rm_raise 149 = .ok (.aload_n 0, 1) := by decide +kernel
theorem d_Rm_raise_150 : decode b_Rm_raise 150 = .ok (.getfield 248, 3) := by decide +kernel
theorem d_Rm_raise_153 : decode b_Rm_raise 153 = .ok (.iload 5, 2) := by decide +kernel
theorem d_Rm_raise_155 : decode b_Rm_raise 155 = .ok (.aload_n 0, 1) := by decide +kernel
theorem d_Rm_raise_156 : decode b_Rm_raise 156 = .ok (.getfield 251, 3) := by decide +kernel
theorem d_Rm_raise_159 : decode b_Rm_raise 159 = .ok (.iload 5, 2) := by decide +kernel
theorem d_Rm_raise_161 : decode b_Rm_raise 161 = .ok (.laload, 1) := by decide +kernel
theorem d_Rm_raise_162 : decode b_Rm_raise 162 = .ok (.lastore, 1) := by decide +kernel
theorem d_Rm_raise_163 : decode b_Rm_raise 163 = .ok (.iinc 5 1, 3) := by decide +kernel
theorem d_Rm_raise_166 : decode b_Rm_raise 166 = .ok (.goto (-24), 3) := by decide +kernel
theorem d_Rm_raise_169 : decode b_Rm_raise 169 = .ok (.return_, 1) := by decide +kernel
theorem fl_Rm_248 : FL "PrimeKeysModel" 248 8 47 := ⟨R_Rm, F_Rm, 50, rfl, u_Rm, by decide, rfl, tb_4 (List.mem_of_getElem? (i := 201) (by decide +kernel)) rfl⟩
theorem fl_Rm_251 : FL "PrimeKeysModel" 251 8 48 := ⟨R_Rm, F_Rm, 50, rfl, u_Rm, by decide, rfl, tb_4 (List.mem_of_getElem? (i := 202) (by decide +kernel)) rfl⟩
theorem kw_18 : Cond.constantLong "PrimeKeysModel" 323 4294967295 ∈ TB := tb_4 (List.mem_of_getElem? (i := 138) (by decide +kernel)) rfl
abbrev rm_Rm_raise : Room := { frames := 0, cells := 0, slots := 0, locals := 0 }
def B_Rm_raise_142 (K3 : HP → Nat → Int64 → Int64 → Int32 → Option (HP)) (K27 : HP → Nat → Int64 → Int64 → Int32 → Option (HP)) (K142 : HP → Nat → Int32 → Option (HP)) (h : HP) (a0 : Nat) (a5 : Int32) : Option (HP) :=
  if 8 ≤ a5 then
  some h
  else
  bnd (gR h a0 8 47) fun k1 =>
  bnd (gR h a0 8 48) fun k2 =>
  bnd (ldJ h k2 a5) fun v3 =>
  bnd (stJ h k1 a5 v3) fun h4 =>
  lt (a5 + Int32.ofInt 1) fun x5 =>
  K142 h4 a0 x5
set_option maxHeartbeats 4000000 in
set_option maxRecDepth 100000 in
theorem bk_Rm_raise_142 {l : Launch} {x : CX} {h0 h' : HP} (C : EV x b_Rm_raise "PrimeKeysModel" 13 rm_Rm_raise) (T : CT x (none) rm_Rm_raise h0 none h') (hl0 : x.1.2.1 = l) (K3 : HP → Nat → Int64 → Int64 → Int32 → Option (HP)) (K27 : HP → Nat → Int64 → Int64 → Int32 → Option (HP)) (K142 : HP → Nat → Int32 → Option (HP)) (hK3 : ∀ (h : HP) (a0 : Nat) (a1 : Int64) (a3 : Int64) (a5 : Int32), K3 h a0 a1 a3 a5 = some h' → GG x 0 0 h 3 [(0, .ref a0), (1, .long a1), (3, .long a3), (5, .int a5)] []) (hK27 : ∀ (h : HP) (a0 : Nat) (a1 : Int64) (a3 : Int64) (a5 : Int32), K27 h a0 a1 a3 a5 = some h' → GG x 0 0 h 27 [(0, .ref a0), (1, .long a1), (3, .long a3), (5, .int a5)] []) (hK142 : ∀ (h : HP) (a0 : Nat) (a5 : Int32), K142 h a0 a5 = some h' → GG x 0 0 h 142 [(0, .ref a0), (5, .int a5)] []) (h : HP) (a0 : Nat) (a5 : Int32) (hr : B_Rm_raise_142 K3 K27 K142 h a0 a5 = some h') : GG x 0 0 h 142 [(0, .ref a0), (5, .int a5)] [] := by
  unfold B_Rm_raise_142 at hr
  refine g_iload C 1 rfl d_Rm_raise_142 ?_
  refine g_bipush (v := 8) C d_Rm_raise_144 (by decide) ?_
  refine g_icmp_ge (tgt := 169) C d_Rm_raise_146 (by decide) (fun z => ?_) (fun z => ?_)
  · have hr := of_if z hr
    cases hr
    exact g_vreturn C T (by decide) (by decide) d_Rm_raise_169
  · have hr := of_el z hr
    refine g_aload_n C 0 rfl d_Rm_raise_149 rfl ?_
    obtain ⟨k1, ek1, hr⟩ := of_bnd hr
    refine g_getR C fl_Rm_248 ek1 d_Rm_raise_150 ?_
    refine g_iload C 1 rfl d_Rm_raise_153 ?_
    refine g_aload_n C 0 rfl d_Rm_raise_155 rfl ?_
    obtain ⟨k2, ek2, hr⟩ := of_bnd hr
    refine g_getR C fl_Rm_251 ek2 d_Rm_raise_156 ?_
    refine g_iload C 1 rfl d_Rm_raise_159 ?_
    obtain ⟨v3, ev3, hr⟩ := of_bnd hr
    refine g_laload C ev3 d_Rm_raise_161 ?_
    obtain ⟨h4, eh4, hr⟩ := of_bnd hr
    refine g_lastore C eh4 d_Rm_raise_162 ?_
    obtain ⟨x5, ex5⟩ : ∃ z, z = a5 + Int32.ofInt 1 := ⟨_, rfl⟩
    have hr := of_lt ex5 hr
    refine g_iinc (lv' := [(5, .int x5), (0, .ref a0)]) C 1 rfl d_Rm_raise_163 ex5.symm (by decide) rfl ?_
    refine g_goto (tgt := 142) C d_Rm_raise_166 (by decide) ?_
    refine g_lv [1, 0] rfl ?_
    exact hK142 h4 a0 x5 hr
def L_Rm_raise_142 (K3 : HP → Nat → Int64 → Int64 → Int32 → Option (HP)) (K27 : HP → Nat → Int64 → Int64 → Int32 → Option (HP)) : Nat → HP → Nat → Int32 → Option (HP)
  | 0, _, _, _ => none
  | f + 1, h, a0, a5 => B_Rm_raise_142 K3 K27 (L_Rm_raise_142 K3 K27 f) h a0 a5
theorem lp_Rm_raise_142 {l : Launch} {x : CX} {h0 h' : HP} (C : EV x b_Rm_raise "PrimeKeysModel" 13 rm_Rm_raise) (T : CT x (none) rm_Rm_raise h0 none h') (hl0 : x.1.2.1 = l) (K3 : HP → Nat → Int64 → Int64 → Int32 → Option (HP)) (K27 : HP → Nat → Int64 → Int64 → Int32 → Option (HP)) (hK3 : ∀ (h : HP) (a0 : Nat) (a1 : Int64) (a3 : Int64) (a5 : Int32), K3 h a0 a1 a3 a5 = some h' → GG x 0 0 h 3 [(0, .ref a0), (1, .long a1), (3, .long a3), (5, .int a5)] []) (hK27 : ∀ (h : HP) (a0 : Nat) (a1 : Int64) (a3 : Int64) (a5 : Int32), K27 h a0 a1 a3 a5 = some h' → GG x 0 0 h 27 [(0, .ref a0), (1, .long a1), (3, .long a3), (5, .int a5)] []) : ∀ (f : Nat) (h : HP) (a0 : Nat) (a5 : Int32), L_Rm_raise_142 K3 K27 f h a0 a5 = some h' → GG x 0 0 h 142 [(0, .ref a0), (5, .int a5)] [] := by
  intro f
  induction f with
  | zero => intro h a0 a5 hr; have hr : (none : Option (HP)) = some h' := hr; cases hr
  | succ f ih => intro h a0 a5 hr; exact bk_Rm_raise_142 C T hl0 K3 K27 (L_Rm_raise_142 K3 K27 f) hK3 hK27 ih h a0 a5 hr
def B_Rm_raise_68 (K3 : HP → Nat → Int64 → Int64 → Int32 → Option (HP)) (K27 : HP → Nat → Int64 → Int64 → Int32 → Option (HP)) (K68 : HP → Nat → Int64 → Int64 → Int32 → Int64 → Int64 → Int32 → Option (HP)) (h : HP) (a0 : Nat) (a1 : Int64) (a3 : Int64) (a5 : Int32) (a6 : Int64) (a8 : Int64) (a10 : Int32) : Option (HP) :=
  if 8 ≤ a5 + a10 then
  lt (a5 + Int32.ofInt 1) fun x6 =>
  K27 h a0 a1 a3 x6
  else
  bnd (gR h a0 8 48) fun k7 =>
  bnd (ldJ h k7 (a5 + a10)) fun v8 =>
  bnd (gR h a0 8 47) fun k9 =>
  bnd (ldJ h k9 a10) fun v10 =>
  lt ((v8 + (a6 * v10)) + a8) fun x11 =>
  bnd (gR h a0 8 48) fun k12 =>
  bnd (stJ h k12 (a5 + a10) (x11 &&& 4294967295)) fun h13 =>
  lt ((x11.toUInt64 >>> ((Int32.toInt64 32).toUInt64 &&& Int64.toUInt64 63)).toInt64) fun x14 =>
  lt (a10 + Int32.ofInt 1) fun x15 =>
  K68 h13 a0 a1 a3 a5 a6 x14 x15
set_option maxHeartbeats 4000000 in
set_option maxRecDepth 100000 in
theorem bk_Rm_raise_68 {l : Launch} {x : CX} {h0 h' : HP} (C : EV x b_Rm_raise "PrimeKeysModel" 13 rm_Rm_raise) (T : CT x (none) rm_Rm_raise h0 none h') (hl0 : x.1.2.1 = l) (K3 : HP → Nat → Int64 → Int64 → Int32 → Option (HP)) (K27 : HP → Nat → Int64 → Int64 → Int32 → Option (HP)) (K68 : HP → Nat → Int64 → Int64 → Int32 → Int64 → Int64 → Int32 → Option (HP)) (hK3 : ∀ (h : HP) (a0 : Nat) (a1 : Int64) (a3 : Int64) (a5 : Int32), K3 h a0 a1 a3 a5 = some h' → GG x 0 0 h 3 [(0, .ref a0), (1, .long a1), (3, .long a3), (5, .int a5)] []) (hK27 : ∀ (h : HP) (a0 : Nat) (a1 : Int64) (a3 : Int64) (a5 : Int32), K27 h a0 a1 a3 a5 = some h' → GG x 0 0 h 27 [(0, .ref a0), (1, .long a1), (3, .long a3), (5, .int a5)] []) (hK68 : ∀ (h : HP) (a0 : Nat) (a1 : Int64) (a3 : Int64) (a5 : Int32) (a6 : Int64) (a8 : Int64) (a10 : Int32), K68 h a0 a1 a3 a5 a6 a8 a10 = some h' → GG x 0 0 h 68 [(0, .ref a0), (1, .long a1), (3, .long a3), (5, .int a5), (6, .long a6), (8, .long a8), (10, .int a10)] []) (h : HP) (a0 : Nat) (a1 : Int64) (a3 : Int64) (a5 : Int32) (a6 : Int64) (a8 : Int64) (a10 : Int32) (hr : B_Rm_raise_68 K3 K27 K68 h a0 a1 a3 a5 a6 a8 a10 = some h') : GG x 0 0 h 68 [(0, .ref a0), (1, .long a1), (3, .long a3), (5, .int a5), (6, .long a6), (8, .long a8), (10, .int a10)] [] := by
  unfold B_Rm_raise_68 at hr
  refine g_iload C 3 rfl d_Rm_raise_68 ?_
  refine g_iload C 6 rfl d_Rm_raise_70 ?_
  refine g_iadd C d_Rm_raise_72 ?_
  refine g_bipush (v := 8) C d_Rm_raise_73 (by decide) ?_
  refine g_icmp_ge (tgt := 133) C d_Rm_raise_75 (by decide) (fun z => ?_) (fun z => ?_)
  · have hr := of_if z hr
    obtain ⟨x6, ex6⟩ : ∃ z, z = a5 + Int32.ofInt 1 := ⟨_, rfl⟩
    have hr := of_lt ex6 hr
    refine g_iinc (lv' := [(5, .int x6), (0, .ref a0), (1, .long a1), (3, .long a3), (6, .long a6), (8, .long a8), (10, .int a10)]) C 3 rfl d_Rm_raise_133 ex6.symm (by decide) rfl ?_
    refine g_goto (tgt := 27) C d_Rm_raise_136 (by decide) ?_
    refine g_lv [1, 2, 3, 0] rfl ?_
    exact hK27 h a0 a1 a3 x6 hr
  · have hr := of_el z hr
    refine g_aload_n C 0 rfl d_Rm_raise_78 rfl ?_
    obtain ⟨k7, ek7, hr⟩ := of_bnd hr
    refine g_getR C fl_Rm_251 ek7 d_Rm_raise_79 ?_
    refine g_iload C 3 rfl d_Rm_raise_82 ?_
    refine g_iload C 6 rfl d_Rm_raise_84 ?_
    refine g_iadd C d_Rm_raise_86 ?_
    obtain ⟨v8, ev8, hr⟩ := of_bnd hr
    refine g_laload C ev8 d_Rm_raise_87 ?_
    refine g_lload C 4 rfl d_Rm_raise_88 ?_
    refine g_aload_n C 0 rfl d_Rm_raise_90 rfl ?_
    obtain ⟨k9, ek9, hr⟩ := of_bnd hr
    refine g_getR C fl_Rm_248 ek9 d_Rm_raise_91 ?_
    refine g_iload C 6 rfl d_Rm_raise_94 ?_
    obtain ⟨v10, ev10, hr⟩ := of_bnd hr
    refine g_laload C ev10 d_Rm_raise_96 ?_
    refine g_lmul C d_Rm_raise_97 ?_
    refine g_ladd C d_Rm_raise_98 ?_
    refine g_lload C 5 rfl d_Rm_raise_99 ?_
    refine g_ladd C d_Rm_raise_101 ?_
    refine g_topl (fun x11 ex11 => ?_)
    have hr := of_lt ex11 hr
    refine g_lstore (lv' := [(11, .long x11), (0, .ref a0), (1, .long a1), (3, .long a3), (5, .int a5), (6, .long a6), (8, .long a8), (10, .int a10)]) C d_Rm_raise_102 (by decide) rfl ?_
    refine g_aload_n C 1 rfl d_Rm_raise_104 rfl ?_
    obtain ⟨k12, ek12, hr⟩ := of_bnd hr
    refine g_getR C fl_Rm_251 ek12 d_Rm_raise_105 ?_
    refine g_iload C 4 rfl d_Rm_raise_108 ?_
    refine g_iload C 7 rfl d_Rm_raise_110 ?_
    refine g_iadd C d_Rm_raise_112 ?_
    refine g_lload C 0 rfl d_Rm_raise_113 ?_
    refine g_ldc2 (v := 4294967295) C d_Rm_raise_115 kw_18 ?_
    refine g_land C d_Rm_raise_118 ?_
    obtain ⟨h13, eh13, hr⟩ := of_bnd hr
    refine g_lastore C eh13 d_Rm_raise_119 ?_
    refine g_lload C 0 rfl d_Rm_raise_120 ?_
    refine g_bipush (v := 32) C d_Rm_raise_122 (by decide) ?_
    refine g_lushr C d_Rm_raise_124 ?_
    refine g_topl (fun x14 ex14 => ?_)
    have hr := of_lt ex14 hr
    refine g_lstore (lv' := [(8, .long x14), (11, .long x11), (0, .ref a0), (1, .long a1), (3, .long a3), (5, .int a5), (6, .long a6), (10, .int a10)]) C d_Rm_raise_125 (by decide) rfl ?_
    obtain ⟨x15, ex15⟩ : ∃ z, z = a10 + Int32.ofInt 1 := ⟨_, rfl⟩
    have hr := of_lt ex15 hr
    refine g_iinc (lv' := [(10, .int x15), (8, .long x14), (11, .long x11), (0, .ref a0), (1, .long a1), (3, .long a3), (5, .int a5), (6, .long a6)]) C 7 rfl d_Rm_raise_127 ex15.symm (by decide) rfl ?_
    refine g_goto (tgt := 68) C d_Rm_raise_130 (by decide) ?_
    refine g_lv [3, 4, 5, 6, 7, 1, 0] rfl ?_
    exact hK68 h13 a0 a1 a3 a5 a6 x14 x15 hr
def L_Rm_raise_68 (K3 : HP → Nat → Int64 → Int64 → Int32 → Option (HP)) (K27 : HP → Nat → Int64 → Int64 → Int32 → Option (HP)) : Nat → HP → Nat → Int64 → Int64 → Int32 → Int64 → Int64 → Int32 → Option (HP)
  | 0, _, _, _, _, _, _, _, _ => none
  | f + 1, h, a0, a1, a3, a5, a6, a8, a10 => B_Rm_raise_68 K3 K27 (L_Rm_raise_68 K3 K27 f) h a0 a1 a3 a5 a6 a8 a10
theorem lp_Rm_raise_68 {l : Launch} {x : CX} {h0 h' : HP} (C : EV x b_Rm_raise "PrimeKeysModel" 13 rm_Rm_raise) (T : CT x (none) rm_Rm_raise h0 none h') (hl0 : x.1.2.1 = l) (K3 : HP → Nat → Int64 → Int64 → Int32 → Option (HP)) (K27 : HP → Nat → Int64 → Int64 → Int32 → Option (HP)) (hK3 : ∀ (h : HP) (a0 : Nat) (a1 : Int64) (a3 : Int64) (a5 : Int32), K3 h a0 a1 a3 a5 = some h' → GG x 0 0 h 3 [(0, .ref a0), (1, .long a1), (3, .long a3), (5, .int a5)] []) (hK27 : ∀ (h : HP) (a0 : Nat) (a1 : Int64) (a3 : Int64) (a5 : Int32), K27 h a0 a1 a3 a5 = some h' → GG x 0 0 h 27 [(0, .ref a0), (1, .long a1), (3, .long a3), (5, .int a5)] []) : ∀ (f : Nat) (h : HP) (a0 : Nat) (a1 : Int64) (a3 : Int64) (a5 : Int32) (a6 : Int64) (a8 : Int64) (a10 : Int32), L_Rm_raise_68 K3 K27 f h a0 a1 a3 a5 a6 a8 a10 = some h' → GG x 0 0 h 68 [(0, .ref a0), (1, .long a1), (3, .long a3), (5, .int a5), (6, .long a6), (8, .long a8), (10, .int a10)] [] := by
  intro f
  induction f with
  | zero => intro h a0 a1 a3 a5 a6 a8 a10 hr; have hr : (none : Option (HP)) = some h' := hr; cases hr
  | succ f ih => intro h a0 a1 a3 a5 a6 a8 a10 hr; exact bk_Rm_raise_68 C T hl0 K3 K27 (L_Rm_raise_68 K3 K27 f) hK3 hK27 ih h a0 a1 a3 a5 a6 a8 a10 hr
def B_Rm_raise_27 (K3 : HP → Nat → Int64 → Int64 → Int32 → Option (HP)) (K27 : HP → Nat → Int64 → Int64 → Int32 → Option (HP)) (h : HP) (a0 : Nat) (a1 : Int64) (a3 : Int64) (a5 : Int32) : Option (HP) :=
  if 3 ≤ a5 then
  L_Rm_raise_142 K3 K27 FU h a0 0
  else
  if a5 = 0 then
  lt (a3 &&& 4294967295) fun x17 =>
  L_Rm_raise_68 K3 K27 FU h a0 a1 a3 a5 x17 0 0
  else
  if a5 = 1 then
  lt ((a3.toUInt64 >>> ((Int32.toInt64 32).toUInt64 &&& Int64.toUInt64 63)).toInt64) fun x16 =>
  L_Rm_raise_68 K3 K27 FU h a0 a1 a3 a5 x16 0 0
  else
  L_Rm_raise_68 K3 K27 FU h a0 a1 a3 a5 a1 0 0
set_option maxHeartbeats 4000000 in
set_option maxRecDepth 100000 in
theorem bk_Rm_raise_27 {l : Launch} {x : CX} {h0 h' : HP} (C : EV x b_Rm_raise "PrimeKeysModel" 13 rm_Rm_raise) (T : CT x (none) rm_Rm_raise h0 none h') (hl0 : x.1.2.1 = l) (K3 : HP → Nat → Int64 → Int64 → Int32 → Option (HP)) (K27 : HP → Nat → Int64 → Int64 → Int32 → Option (HP)) (hK3 : ∀ (h : HP) (a0 : Nat) (a1 : Int64) (a3 : Int64) (a5 : Int32), K3 h a0 a1 a3 a5 = some h' → GG x 0 0 h 3 [(0, .ref a0), (1, .long a1), (3, .long a3), (5, .int a5)] []) (hK27 : ∀ (h : HP) (a0 : Nat) (a1 : Int64) (a3 : Int64) (a5 : Int32), K27 h a0 a1 a3 a5 = some h' → GG x 0 0 h 27 [(0, .ref a0), (1, .long a1), (3, .long a3), (5, .int a5)] []) (h : HP) (a0 : Nat) (a1 : Int64) (a3 : Int64) (a5 : Int32) (hr : B_Rm_raise_27 K3 K27 h a0 a1 a3 a5 = some h') : GG x 0 0 h 27 [(0, .ref a0), (1, .long a1), (3, .long a3), (5, .int a5)] [] := by
  unfold B_Rm_raise_27 at hr
  refine g_iload C 3 rfl d_Rm_raise_27 ?_
  refine g_iconst (v := 3) C d_Rm_raise_29 (by decide) ?_
  refine g_icmp_ge (tgt := 139) C d_Rm_raise_30 (by decide) (fun z => ?_) (fun z => ?_)
  · have hr := of_if z hr
    refine g_iconst (v := 0) C d_Rm_raise_139 (by decide) ?_
    refine g_istore (lv' := [(5, .int 0), (0, .ref a0), (1, .long a1), (3, .long a3)]) C d_Rm_raise_140 (by decide) rfl ?_
    refine g_lv [1, 0] rfl ?_
    exact lp_Rm_raise_142 C T hl0 K3 K27 hK3 hK27 FU h a0 0 hr
  · have hr := of_el z hr
    refine g_iload C 3 rfl d_Rm_raise_33 ?_
    refine g_if_ne (tgt := 46) C d_Rm_raise_35 (by decide) (fun z => ?_) (fun z => ?_)
    · have hr := of_el z hr
      refine g_iload C 3 rfl d_Rm_raise_46 ?_
      refine g_iconst (v := 1) C d_Rm_raise_48 (by decide) ?_
      refine g_icmp_ne (tgt := 59) C d_Rm_raise_49 (by decide) (fun z => ?_) (fun z => ?_)
      · have hr := of_el z hr
        refine g_lload_n C 1 rfl d_Rm_raise_59 rfl ?_
        refine g_lstore (lv' := [(6, .long a1), (0, .ref a0), (1, .long a1), (3, .long a3), (5, .int a5)]) C d_Rm_raise_60 (by decide) rfl ?_
        refine g_lconst (v := 0) C d_Rm_raise_62 (by decide) ?_
        refine g_lstore (lv' := [(8, .long 0), (6, .long a1), (0, .ref a0), (1, .long a1), (3, .long a3), (5, .int a5)]) C d_Rm_raise_63 (by decide) rfl ?_
        refine g_iconst (v := 0) C d_Rm_raise_65 (by decide) ?_
        refine g_istore (lv' := [(10, .int 0), (8, .long 0), (6, .long a1), (0, .ref a0), (1, .long a1), (3, .long a3), (5, .int a5)]) C d_Rm_raise_66 (by decide) rfl ?_
        refine g_lv [3, 4, 5, 6, 2, 1, 0] rfl ?_
        exact lp_Rm_raise_68 C T hl0 K3 K27 hK3 hK27 FU h a0 a1 a3 a5 a1 0 0 hr
      · have hr := of_if z hr
        refine g_lload_n C 2 rfl d_Rm_raise_52 rfl ?_
        refine g_bipush (v := 32) C d_Rm_raise_53 (by decide) ?_
        refine g_lushr C d_Rm_raise_55 ?_
        refine g_goto (tgt := 60) C d_Rm_raise_56 (by decide) ?_
        refine g_topl (fun x16 ex16 => ?_)
        have hr := of_lt ex16 hr
        refine g_lstore (lv' := [(6, .long x16), (0, .ref a0), (1, .long a1), (3, .long a3), (5, .int a5)]) C d_Rm_raise_60 (by decide) rfl ?_
        refine g_lconst (v := 0) C d_Rm_raise_62 (by decide) ?_
        refine g_lstore (lv' := [(8, .long 0), (6, .long x16), (0, .ref a0), (1, .long a1), (3, .long a3), (5, .int a5)]) C d_Rm_raise_63 (by decide) rfl ?_
        refine g_iconst (v := 0) C d_Rm_raise_65 (by decide) ?_
        refine g_istore (lv' := [(10, .int 0), (8, .long 0), (6, .long x16), (0, .ref a0), (1, .long a1), (3, .long a3), (5, .int a5)]) C d_Rm_raise_66 (by decide) rfl ?_
        refine g_lv [3, 4, 5, 6, 2, 1, 0] rfl ?_
        exact lp_Rm_raise_68 C T hl0 K3 K27 hK3 hK27 FU h a0 a1 a3 a5 x16 0 0 hr
    · have hr := of_if z hr
      refine g_lload_n C 2 rfl d_Rm_raise_38 rfl ?_
      refine g_ldc2 (v := 4294967295) C d_Rm_raise_39 kw_18 ?_
      refine g_land C d_Rm_raise_42 ?_
      refine g_goto (tgt := 60) C d_Rm_raise_43 (by decide) ?_
      refine g_topl (fun x17 ex17 => ?_)
      have hr := of_lt ex17 hr
      refine g_lstore (lv' := [(6, .long x17), (0, .ref a0), (1, .long a1), (3, .long a3), (5, .int a5)]) C d_Rm_raise_60 (by decide) rfl ?_
      refine g_lconst (v := 0) C d_Rm_raise_62 (by decide) ?_
      refine g_lstore (lv' := [(8, .long 0), (6, .long x17), (0, .ref a0), (1, .long a1), (3, .long a3), (5, .int a5)]) C d_Rm_raise_63 (by decide) rfl ?_
      refine g_iconst (v := 0) C d_Rm_raise_65 (by decide) ?_
      refine g_istore (lv' := [(10, .int 0), (8, .long 0), (6, .long x17), (0, .ref a0), (1, .long a1), (3, .long a3), (5, .int a5)]) C d_Rm_raise_66 (by decide) rfl ?_
      refine g_lv [3, 4, 5, 6, 2, 1, 0] rfl ?_
      exact lp_Rm_raise_68 C T hl0 K3 K27 hK3 hK27 FU h a0 a1 a3 a5 x17 0 0 hr
def L_Rm_raise_27 (K3 : HP → Nat → Int64 → Int64 → Int32 → Option (HP)) : Nat → HP → Nat → Int64 → Int64 → Int32 → Option (HP)
  | 0, _, _, _, _, _ => none
  | f + 1, h, a0, a1, a3, a5 => B_Rm_raise_27 K3 (L_Rm_raise_27 K3 f) h a0 a1 a3 a5
theorem lp_Rm_raise_27 {l : Launch} {x : CX} {h0 h' : HP} (C : EV x b_Rm_raise "PrimeKeysModel" 13 rm_Rm_raise) (T : CT x (none) rm_Rm_raise h0 none h') (hl0 : x.1.2.1 = l) (K3 : HP → Nat → Int64 → Int64 → Int32 → Option (HP)) (hK3 : ∀ (h : HP) (a0 : Nat) (a1 : Int64) (a3 : Int64) (a5 : Int32), K3 h a0 a1 a3 a5 = some h' → GG x 0 0 h 3 [(0, .ref a0), (1, .long a1), (3, .long a3), (5, .int a5)] []) : ∀ (f : Nat) (h : HP) (a0 : Nat) (a1 : Int64) (a3 : Int64) (a5 : Int32), L_Rm_raise_27 K3 f h a0 a1 a3 a5 = some h' → GG x 0 0 h 27 [(0, .ref a0), (1, .long a1), (3, .long a3), (5, .int a5)] [] := by
  intro f
  induction f with
  | zero => intro h a0 a1 a3 a5 hr; have hr : (none : Option (HP)) = some h' := hr; cases hr
  | succ f ih => intro h a0 a1 a3 a5 hr; exact bk_Rm_raise_27 C T hl0 K3 (L_Rm_raise_27 K3 f) hK3 ih h a0 a1 a3 a5 hr
def B_Rm_raise_3 (K3 : HP → Nat → Int64 → Int64 → Int32 → Option (HP)) (h : HP) (a0 : Nat) (a1 : Int64) (a3 : Int64) (a5 : Int32) : Option (HP) :=
  if 8 ≤ a5 then
  L_Rm_raise_27 K3 FU h a0 a1 a3 0
  else
  bnd (gR h a0 8 48) fun k18 =>
  bnd (stJ h k18 a5 0) fun h19 =>
  lt (a5 + Int32.ofInt 1) fun x20 =>
  K3 h19 a0 a1 a3 x20
set_option maxHeartbeats 4000000 in
set_option maxRecDepth 100000 in
theorem bk_Rm_raise_3 {l : Launch} {x : CX} {h0 h' : HP} (C : EV x b_Rm_raise "PrimeKeysModel" 13 rm_Rm_raise) (T : CT x (none) rm_Rm_raise h0 none h') (hl0 : x.1.2.1 = l) (K3 : HP → Nat → Int64 → Int64 → Int32 → Option (HP)) (hK3 : ∀ (h : HP) (a0 : Nat) (a1 : Int64) (a3 : Int64) (a5 : Int32), K3 h a0 a1 a3 a5 = some h' → GG x 0 0 h 3 [(0, .ref a0), (1, .long a1), (3, .long a3), (5, .int a5)] []) (h : HP) (a0 : Nat) (a1 : Int64) (a3 : Int64) (a5 : Int32) (hr : B_Rm_raise_3 K3 h a0 a1 a3 a5 = some h') : GG x 0 0 h 3 [(0, .ref a0), (1, .long a1), (3, .long a3), (5, .int a5)] [] := by
  unfold B_Rm_raise_3 at hr
  refine g_iload C 3 rfl d_Rm_raise_3 ?_
  refine g_bipush (v := 8) C d_Rm_raise_5 (by decide) ?_
  refine g_icmp_ge (tgt := 24) C d_Rm_raise_7 (by decide) (fun z => ?_) (fun z => ?_)
  · have hr := of_if z hr
    refine g_iconst (v := 0) C d_Rm_raise_24 (by decide) ?_
    refine g_istore (lv' := [(5, .int 0), (0, .ref a0), (1, .long a1), (3, .long a3)]) C d_Rm_raise_25 (by decide) rfl ?_
    refine g_lv [1, 2, 3, 0] rfl ?_
    exact lp_Rm_raise_27 C T hl0 K3 hK3 FU h a0 a1 a3 0 hr
  · have hr := of_el z hr
    refine g_aload_n C 0 rfl d_Rm_raise_10 rfl ?_
    obtain ⟨k18, ek18, hr⟩ := of_bnd hr
    refine g_getR C fl_Rm_251 ek18 d_Rm_raise_11 ?_
    refine g_iload C 3 rfl d_Rm_raise_14 ?_
    refine g_lconst (v := 0) C d_Rm_raise_16 (by decide) ?_
    obtain ⟨h19, eh19, hr⟩ := of_bnd hr
    refine g_lastore C eh19 d_Rm_raise_17 ?_
    obtain ⟨x20, ex20⟩ : ∃ z, z = a5 + Int32.ofInt 1 := ⟨_, rfl⟩
    have hr := of_lt ex20 hr
    refine g_iinc (lv' := [(5, .int x20), (0, .ref a0), (1, .long a1), (3, .long a3)]) C 3 rfl d_Rm_raise_18 ex20.symm (by decide) rfl ?_
    refine g_goto (tgt := 3) C d_Rm_raise_21 (by decide) ?_
    refine g_lv [1, 2, 3, 0] rfl ?_
    exact hK3 h19 a0 a1 a3 x20 hr
def L_Rm_raise_3 : Nat → HP → Nat → Int64 → Int64 → Int32 → Option (HP)
  | 0, _, _, _, _, _ => none
  | f + 1, h, a0, a1, a3, a5 => B_Rm_raise_3 (L_Rm_raise_3 f) h a0 a1 a3 a5
theorem lp_Rm_raise_3 {l : Launch} {x : CX} {h0 h' : HP} (C : EV x b_Rm_raise "PrimeKeysModel" 13 rm_Rm_raise) (T : CT x (none) rm_Rm_raise h0 none h') (hl0 : x.1.2.1 = l) : ∀ (f : Nat) (h : HP) (a0 : Nat) (a1 : Int64) (a3 : Int64) (a5 : Int32), L_Rm_raise_3 f h a0 a1 a3 a5 = some h' → GG x 0 0 h 3 [(0, .ref a0), (1, .long a1), (3, .long a3), (5, .int a5)] [] := by
  intro f
  induction f with
  | zero => intro h a0 a1 a3 a5 hr; have hr : (none : Option (HP)) = some h' := hr; cases hr
  | succ f ih => intro h a0 a1 a3 a5 hr; exact bk_Rm_raise_3 C T hl0 (L_Rm_raise_3 f) ih h a0 a1 a3 a5 hr
def P_Rm_raise (h : HP) (p0 : Nat) (p1 : Int64) (p3 : Int64) : Option (HP) :=
  L_Rm_raise_3 FU h p0 p1 p3 0
set_option maxHeartbeats 4000000 in
set_option maxRecDepth 100000 in
theorem c_Rm_raise {l : Launch} {h h' : HP} {p0 p1 p3 : _} (hr : P_Rm_raise h p0 p1 p3 = some h') : MP l y_Rm_raise (Cond.code y_Rm_raise b_Rm_raise 13 none :: TB) rm_Rm_raise h [.ref p0, .long p1, .long p3] none h' := by
  refine MP_intro (cc := b_Rm_raise) (by decide) (Nat.le_of_ble_eq_true rfl) (fun x hl0 C T hin => ?_)
  unfold P_Rm_raise at hr
  show GG x 0 0 h 0 [(0, .ref p0), (1, .long p1), (3, .long p3)] []
  refine g_iconst (v := 0) C d_Rm_raise_0 (by decide) ?_
  refine g_istore (lv' := [(5, .int 0), (0, .ref p0), (1, .long p1), (3, .long p3)]) C d_Rm_raise_1 (by decide) rfl ?_
  refine g_lv [1, 2, 3, 0] rfl ?_
  exact lp_Rm_raise_3 C T hl0 FU h p0 p1 p3 0 hr
abbrev b_Rm_fits : ByteArray := prog_12_method_23_code
abbrev y_Rm_fits : MethodName := ⟨"PrimeKeysModel", "fits", "(JJII)Z"⟩
theorem d_Rm_fits_0 : decode b_Rm_fits 0 = .ok (.iconst 0, 1) := by decide +kernel
theorem d_Rm_fits_1 : decode b_Rm_fits 1 = .ok (.istore 7, 2) := by decide +kernel
theorem d_Rm_fits_3 : decode b_Rm_fits 3 = .ok (.iload 7, 2) := by decide +kernel
theorem d_Rm_fits_5 : decode b_Rm_fits 5 = .ok (.bipush 8, 2) := by decide +kernel
theorem d_Rm_fits_7 : decode b_Rm_fits 7 = .ok (.if_icmp .ge 26, 3) := by decide +kernel
theorem d_Rm_fits_10 : decode b_Rm_fits 10 = .ok (.aload_n 0, 1) := by decide +kernel
theorem d_Rm_fits_11 : decode b_Rm_fits 11 = .ok (.getfield 248, 3) := by decide +kernel
theorem d_Rm_fits_14 : decode b_Rm_fits 14 = .ok (.iload 7, 2) := by decide +kernel
theorem d_Rm_fits_16 : decode b_Rm_fits 16 = .ok (.iload 7, 2) := by decide +kernel
theorem d_Rm_fits_18 : decode b_Rm_fits 18 = .ok (.ifCond .ne 7, 3) := by decide +kernel
theorem d_Rm_fits_21 : decode b_Rm_fits 21 = .ok (.lconst 1, 1) := by decide +kernel
theorem d_Rm_fits_22 : decode b_Rm_fits 22 = .ok (.goto 4, 3) := by decide +kernel
theorem d_Rm_fits_25 : decode b_Rm_fits 25 = .ok (.lconst 0, 1) := by decide +kernel
theorem d_Rm_fits_26 : decode b_Rm_fits 26 = .ok (.lastore, 1) := by decide +kernel
theorem d_Rm_fits_27 : decode b_Rm_fits 27 = .ok (.iinc 7 1, 3) := by decide +kernel
theorem d_Rm_fits_30 : decode b_Rm_fits 30 = .ok (.goto (-27), 3) := by decide +kernel
theorem d_Rm_fits_33 : decode b_Rm_fits 33 = .ok (.iconst 0, 1) := by decide +kernel
theorem d_Rm_fits_34 : decode b_Rm_fits 34 = .ok (.istore 7, 2) := by decide +kernel
theorem d_Rm_fits_36 : decode b_Rm_fits 36 = .ok (.iload 7, 2) := by decide +kernel
theorem d_Rm_fits_38 : decode b_Rm_fits 38 = .ok (.iload 6, 2) := by decide +kernel
theorem d_Rm_fits_40 : decode b_Rm_fits 40 = .ok (.if_icmp .ge 15, 3) := by decide +kernel
theorem d_Rm_fits_43 : decode b_Rm_fits 43 = .ok (.aload_n 0, 1) := by decide +kernel
theorem d_Rm_fits_44 : decode b_Rm_fits 44 = .ok (.lload_n 1, 1) := by decide +kernel
theorem d_Rm_fits_45 : decode b_Rm_fits 45 = .ok (.lload_n 3, 1) := by decide +kernel
theorem d_Rm_fits_46 : decode b_Rm_fits 46 = .ok (.invokevirtual 319, 3) := by decide +kernel
theorem d_Rm_fits_49 : decode b_Rm_fits 49 = .ok (.iinc 7 1, 3) := by decide +kernel
theorem d_Rm_fits_52 : decode b_Rm_fits 52 = .ok (.goto (-16), 3) := by decide +kernel
theorem d_Rm_fits_55 : decode b_Rm_fits 55 = .ok (.lconst 0, 1) := by decide +kernel
theorem d_Rm_fits_56 : decode b_Rm_fits 56 = .ok (.lstore 7, 2) := by decide +kernel
theorem d_Rm_fits_58 : decode b_Rm_fits 58 = .ok (.bipush 7, 2) := by decide +kernel
theorem d_Rm_fits_60 : decode b_Rm_fits 60 = .ok (.istore 9, 2) := by decide +kernel
theorem d_Rm_fits_62 : decode b_Rm_fits 62 = .ok (.iload 9, 2) := by decide +kernel
theorem d_Rm_fits_64 : decode b_Rm_fits 64 = .ok (.iconst 2, 1) := by decide +kernel
theorem d_Rm_fits_65 : decode b_Rm_fits 65 = .ok (.iload 6, 2) := by decide +kernel
theorem d_Rm_fits_67 : decode b_Rm_fits 67 = .ok (.imul, 1) := by decide +kernel
theorem d_Rm_fits_68 : decode b_Rm_fits 68 = .ok (.if_icmp .lt 24, 3) := by decide +kernel
theorem d_Rm_fits_71 : decode b_Rm_fits 71 = .ok (.lload 7, 2) := by decide +kernel
theorem d_Rm_fits_73 : decode b_Rm_fits 73 = .ok (.bipush 32, 2) := by decide +kernel
theorem d_Rm_fits_75 : decode b_Rm_fits 75 = .ok (.lshl, 1) := by decide +kernel
theorem d_Rm_fits_76 : decode b_Rm_fits 76 = .ok (.aload_n 0, 1) := by decide +kernel
theorem d_Rm_fits_77 : decode b_Rm_fits 77 = .ok (.getfield 248, 3) := by decide +kernel
theorem d_Rm_fits_80 : decode b_Rm_fits 80 = .ok (.iload 9, 2) := by decide +kernel
theorem d_Rm_fits_82 : decode b_Rm_fits 82 = .ok (.laload, 1) := by decide +kernel
theorem d_Rm_fits_83 : decode b_Rm_fits 83 = .ok (.lor, 1) := by decide +kernel
theorem d_Rm_fits_84 : decode b_Rm_fits 84 = .ok (.lstore 7, 2) := by decide +kernel
theorem d_Rm_fits_86 : decode b_Rm_fits 86 = .ok (.iinc 9 (-1), 3) := by decide +kernel
theorem d_Rm_fits_89 : decode b_Rm_fits 89 = .ok (.goto (-27), 3) := by decide +kernel
theorem d_Rm_fits_92 : decode b_Rm_fits 92 = .ok (.lload 7, 2) := by decide +kernel
theorem d_Rm_fits_94 : decode b_Rm_fits 94 = .ok (.iload 5, 2) := by decide +kernel
theorem d_Rm_fits_96 : decode b_Rm_fits 96 = .ok (.i2l, 1) := by decide +kernel
theorem d_Rm_fits_97 : decode b_Rm_fits 97 = .ok (.lcmp, 1) := by decide +kernel
theorem d_Rm_fits_98 : decode b_Rm_fits 98 = .ok (.ifCond .eq 18, 3) := by decide +kernel
theorem d_Rm_fits_101 : decode b_Rm_fits 101 = .ok (.lload 7, 2) := by decide +kernel
theorem d_Rm_fits_103 : decode b_Rm_fits 103 = .ok (.iload 5, 2) := by decide +kernel
theorem d_Rm_fits_105 : decode b_Rm_fits 105 = .ok (.i2l, 1) := by decide +kernel
theorem d_Rm_fits_106 : decode b_Rm_fits 106 = .ok (.lcmp, 1) := by decide +kernel
theorem d_Rm_fits_107 : decode b_Rm_fits 107 = .ok (.ifCond .ge 7, 3) := by decide +kernel
theorem d_Rm_fits_110 : decode b_Rm_fits 110 = .ok (.iconst 1, 1) := by decide +kernel
theorem d_Rm_fits_111 : decode b_Rm_fits 111 = .ok (.goto 4, 3) := by decide +kernel
theorem d_Rm_fits_114 : decode b_Rm_fits 114 = .ok (.iconst 0, 1) := by decide +kernel
theorem d_Rm_fits_115 : decode b_Rm_fits 115 = .ok (.ireturn, 1) := by decide +kernel
theorem d_Rm_fits_116 : decode b_Rm_fits 116 = .ok (.iconst 0, 1) := by decide +kernel
theorem d_Rm_fits_117 : decode b_Rm_fits 117 = .ok (.istore 9, 2) := by decide +kernel
theorem d_Rm_fits_119 : decode b_Rm_fits 119 = .ok (.iload 9, 2) := by decide +kernel
theorem d_Rm_fits_121 : decode b_Rm_fits 121 = .ok (.iconst 2, 1) := by decide +kernel
theorem d_Rm_fits_122 : decode b_Rm_fits 122 = .ok (.iload 6, 2) := by decide +kernel
theorem d_Rm_fits_124 : decode b_Rm_fits 124 = .ok (.imul, 1) := by decide +kernel
theorem d_Rm_fits_125 : decode b_Rm_fits 125 = .ok (.if_icmp .ge 23, 3) := by decide +kernel
theorem d_Rm_fits_128 : decode b_Rm_fits 128 = .ok (.aload_n 0, 1) := by decide +kernel
theorem d_Rm_fits_129 : decode b_Rm_fits 129 = .ok (.getfield 248, 3) := by decide +kernel
theorem d_Rm_fits_132 : decode b_Rm_fits 132 = .ok (.iload 9, 2) := by decide +kernel
theorem d_Rm_fits_134 : decode b_Rm_fits 134 = .ok (.laload, 1) := by decide +kernel
theorem d_Rm_fits_135 : decode b_Rm_fits 135 = .ok (.lconst 0, 1) := by decide +kernel
theorem d_Rm_fits_136 : decode b_Rm_fits 136 = .ok (.lcmp, 1) := by decide +kernel
theorem d_Rm_fits_137 : decode b_Rm_fits 137 = .ok (.ifCond .eq 5, 3) := by decide +kernel
theorem d_Rm_fits_140 : decode b_Rm_fits 140 = .ok (.iconst 0, 1) := by decide +kernel
theorem d_Rm_fits_141 : decode b_Rm_fits 141 = .ok (.ireturn, 1) := by decide +kernel
theorem d_Rm_fits_142 : decode b_Rm_fits 142 = .ok (.iinc 9 1, 3) := by decide +kernel
theorem d_Rm_fits_145 : decode b_Rm_fits 145 = .ok (.goto (-26), 3) := by decide +kernel
theorem d_Rm_fits_148 : decode b_Rm_fits 148 = .ok (.iconst 1, 1) := by decide +kernel
theorem d_Rm_fits_149 : decode b_Rm_fits 149 = .ok (.ireturn, 1) := by decide +kernel
theorem cd_Rm_319 : CD "PrimeKeysModel" 319 y_Rm_raise b_Rm_raise 13 none 2 := ⟨tb_4 (List.mem_of_getElem? (i := 137) rfl) rfl, tb_1 (List.mem_of_getElem? (i := 13) (by decide +kernel)) rfl, tb_4 (List.mem_of_getElem? (i := 134) (by decide +kernel)) rfl, by decide +kernel⟩
theorem kw_in_Rm_raise : Cond.instanceMethod y_Rm_raise ∈ TB := tb_4 (List.mem_of_getElem? (i := 136) (by decide +kernel)) rfl
theorem kw_se_Rm_raise : Cond.selects "PrimeKeysModel" y_Rm_raise y_Rm_raise ∈ TB := tb_p (q := (y_Rm_raise, 50)) (by decide +kernel)
abbrev rm_Rm_fits : Room := { frames := 1, cells := 0, slots := 0, locals := 32 }
def B_Rm_fits_119 (K3 : HP → Nat → Int64 → Int64 → Int32 → Int32 → Int32 → Option (Int32 × HP)) (K36 : HP → Nat → Int64 → Int64 → Int32 → Int32 → Int32 → Option (Int32 × HP)) (K62 : HP → Nat → Int32 → Int32 → Int64 → Int32 → Option (Int32 × HP)) (K119 : HP → Nat → Int32 → Int32 → Option (Int32 × HP)) (h : HP) (a0 : Nat) (a6 : Int32) (a9 : Int32) : Option (Int32 × HP) :=
  if 2 * a6 ≤ a9 then
  some (1, h)
  else
  bnd (gR h a0 8 47) fun k1 =>
  bnd (ldJ h k1 a9) fun v2 =>
  if lg_cmp v2 0 = 0 then
  lt (a9 + Int32.ofInt 1) fun x3 =>
  K119 h a0 a6 x3
  else
  some (0, h)
set_option maxHeartbeats 4000000 in
set_option maxRecDepth 100000 in
theorem bk_Rm_fits_119 {l : Launch} {x : CX} {h0 h' : HP} {r' : Int32} (C : EV x b_Rm_fits "PrimeKeysModel" 10 rm_Rm_fits) (T : CT x (some .boolean) rm_Rm_fits h0 (some (.int r')) h') (hl0 : x.1.2.1 = l) (K3 : HP → Nat → Int64 → Int64 → Int32 → Int32 → Int32 → Option (Int32 × HP)) (K36 : HP → Nat → Int64 → Int64 → Int32 → Int32 → Int32 → Option (Int32 × HP)) (K62 : HP → Nat → Int32 → Int32 → Int64 → Int32 → Option (Int32 × HP)) (K119 : HP → Nat → Int32 → Int32 → Option (Int32 × HP)) (hK3 : ∀ (h : HP) (a0 : Nat) (a1 : Int64) (a3 : Int64) (a5 : Int32) (a6 : Int32) (a7 : Int32), K3 h a0 a1 a3 a5 a6 a7 = some (r', h') → GG x 0 0 h 3 [(0, .ref a0), (1, .long a1), (3, .long a3), (5, .int a5), (6, .int a6), (7, .int a7)] []) (hK36 : ∀ (h : HP) (a0 : Nat) (a1 : Int64) (a3 : Int64) (a5 : Int32) (a6 : Int32) (a7 : Int32), K36 h a0 a1 a3 a5 a6 a7 = some (r', h') → GG x 0 0 h 36 [(0, .ref a0), (1, .long a1), (3, .long a3), (5, .int a5), (6, .int a6), (7, .int a7)] []) (hK62 : ∀ (h : HP) (a0 : Nat) (a5 : Int32) (a6 : Int32) (a7 : Int64) (a9 : Int32), K62 h a0 a5 a6 a7 a9 = some (r', h') → GG x 0 0 h 62 [(0, .ref a0), (5, .int a5), (6, .int a6), (7, .long a7), (9, .int a9)] []) (hK119 : ∀ (h : HP) (a0 : Nat) (a6 : Int32) (a9 : Int32), K119 h a0 a6 a9 = some (r', h') → GG x 0 0 h 119 [(0, .ref a0), (6, .int a6), (9, .int a9)] []) (h : HP) (a0 : Nat) (a6 : Int32) (a9 : Int32) (hr : B_Rm_fits_119 K3 K36 K62 K119 h a0 a6 a9 = some (r', h')) : GG x 0 0 h 119 [(0, .ref a0), (6, .int a6), (9, .int a9)] [] := by
  unfold B_Rm_fits_119 at hr
  refine g_iload C 2 rfl d_Rm_fits_119 ?_
  refine g_iconst (v := 2) C d_Rm_fits_121 (by decide) ?_
  refine g_iload C 1 rfl d_Rm_fits_122 ?_
  refine g_imul C d_Rm_fits_124 ?_
  refine g_icmp_ge (tgt := 148) C d_Rm_fits_125 (by decide) (fun z => ?_) (fun z => ?_)
  · have hr := of_if z hr
    refine g_iconst (v := 1) C d_Rm_fits_148 (by decide) ?_
    cases hr
    exact g_ireturn C T rfl (by decide) (by decide) d_Rm_fits_149
  · have hr := of_el z hr
    refine g_aload_n C 0 rfl d_Rm_fits_128 rfl ?_
    obtain ⟨k1, ek1, hr⟩ := of_bnd hr
    refine g_getR C fl_Rm_248 ek1 d_Rm_fits_129 ?_
    refine g_iload C 2 rfl d_Rm_fits_132 ?_
    obtain ⟨v2, ev2, hr⟩ := of_bnd hr
    refine g_laload C ev2 d_Rm_fits_134 ?_
    refine g_lconst (v := 0) C d_Rm_fits_135 (by decide) ?_
    refine g_lcmp C d_Rm_fits_136 ?_
    refine g_if_eq (tgt := 142) C d_Rm_fits_137 (by decide) (fun z => ?_) (fun z => ?_)
    · have hr := of_if z hr
      obtain ⟨x3, ex3⟩ : ∃ z, z = a9 + Int32.ofInt 1 := ⟨_, rfl⟩
      have hr := of_lt ex3 hr
      refine g_iinc (lv' := [(9, .int x3), (0, .ref a0), (6, .int a6)]) C 2 rfl d_Rm_fits_142 ex3.symm (by decide) rfl ?_
      refine g_goto (tgt := 119) C d_Rm_fits_145 (by decide) ?_
      refine g_lv [1, 2, 0] rfl ?_
      exact hK119 h a0 a6 x3 hr
    · have hr := of_el z hr
      refine g_iconst (v := 0) C d_Rm_fits_140 (by decide) ?_
      cases hr
      exact g_ireturn C T rfl (by decide) (by decide) d_Rm_fits_141
def L_Rm_fits_119 (K3 : HP → Nat → Int64 → Int64 → Int32 → Int32 → Int32 → Option (Int32 × HP)) (K36 : HP → Nat → Int64 → Int64 → Int32 → Int32 → Int32 → Option (Int32 × HP)) (K62 : HP → Nat → Int32 → Int32 → Int64 → Int32 → Option (Int32 × HP)) : Nat → HP → Nat → Int32 → Int32 → Option (Int32 × HP)
  | 0, _, _, _, _ => none
  | f + 1, h, a0, a6, a9 => B_Rm_fits_119 K3 K36 K62 (L_Rm_fits_119 K3 K36 K62 f) h a0 a6 a9
theorem lp_Rm_fits_119 {l : Launch} {x : CX} {h0 h' : HP} {r' : Int32} (C : EV x b_Rm_fits "PrimeKeysModel" 10 rm_Rm_fits) (T : CT x (some .boolean) rm_Rm_fits h0 (some (.int r')) h') (hl0 : x.1.2.1 = l) (K3 : HP → Nat → Int64 → Int64 → Int32 → Int32 → Int32 → Option (Int32 × HP)) (K36 : HP → Nat → Int64 → Int64 → Int32 → Int32 → Int32 → Option (Int32 × HP)) (K62 : HP → Nat → Int32 → Int32 → Int64 → Int32 → Option (Int32 × HP)) (hK3 : ∀ (h : HP) (a0 : Nat) (a1 : Int64) (a3 : Int64) (a5 : Int32) (a6 : Int32) (a7 : Int32), K3 h a0 a1 a3 a5 a6 a7 = some (r', h') → GG x 0 0 h 3 [(0, .ref a0), (1, .long a1), (3, .long a3), (5, .int a5), (6, .int a6), (7, .int a7)] []) (hK36 : ∀ (h : HP) (a0 : Nat) (a1 : Int64) (a3 : Int64) (a5 : Int32) (a6 : Int32) (a7 : Int32), K36 h a0 a1 a3 a5 a6 a7 = some (r', h') → GG x 0 0 h 36 [(0, .ref a0), (1, .long a1), (3, .long a3), (5, .int a5), (6, .int a6), (7, .int a7)] []) (hK62 : ∀ (h : HP) (a0 : Nat) (a5 : Int32) (a6 : Int32) (a7 : Int64) (a9 : Int32), K62 h a0 a5 a6 a7 a9 = some (r', h') → GG x 0 0 h 62 [(0, .ref a0), (5, .int a5), (6, .int a6), (7, .long a7), (9, .int a9)] []) : ∀ (f : Nat) (h : HP) (a0 : Nat) (a6 : Int32) (a9 : Int32), L_Rm_fits_119 K3 K36 K62 f h a0 a6 a9 = some (r', h') → GG x 0 0 h 119 [(0, .ref a0), (6, .int a6), (9, .int a9)] [] := by
  intro f
  induction f with
  | zero => intro h a0 a6 a9 hr; have hr : (none : Option (Int32 × HP)) = some (r', h') := hr; cases hr
  | succ f ih => intro h a0 a6 a9 hr; exact bk_Rm_fits_119 C T hl0 K3 K36 K62 (L_Rm_fits_119 K3 K36 K62 f) hK3 hK36 hK62 ih h a0 a6 a9 hr
def B_Rm_fits_62 (K3 : HP → Nat → Int64 → Int64 → Int32 → Int32 → Int32 → Option (Int32 × HP)) (K36 : HP → Nat → Int64 → Int64 → Int32 → Int32 → Int32 → Option (Int32 × HP)) (K62 : HP → Nat → Int32 → Int32 → Int64 → Int32 → Option (Int32 × HP)) (h : HP) (a0 : Nat) (a5 : Int32) (a6 : Int32) (a7 : Int64) (a9 : Int32) : Option (Int32 × HP) :=
  if a9 < 2 * a6 then
  if lg_cmp a7 (Int32.toInt64 a5) = 0 then
  L_Rm_fits_119 K3 K36 K62 FU h a0 a6 0
  else
  if 0 ≤ lg_cmp a7 (Int32.toInt64 a5) then
  some (0, h)
  else
  some (1, h)
  else
  bnd (gR h a0 8 47) fun k4 =>
  bnd (ldJ h k4 a9) fun v5 =>
  lt ((a7 <<< (Int32.toInt64 32 &&& 63)) ||| v5) fun x6 =>
  lt (a9 + Int32.ofInt (-1)) fun x7 =>
  K62 h a0 a5 a6 x6 x7
set_option maxHeartbeats 4000000 in
set_option maxRecDepth 100000 in
theorem bk_Rm_fits_62 {l : Launch} {x : CX} {h0 h' : HP} {r' : Int32} (C : EV x b_Rm_fits "PrimeKeysModel" 10 rm_Rm_fits) (T : CT x (some .boolean) rm_Rm_fits h0 (some (.int r')) h') (hl0 : x.1.2.1 = l) (K3 : HP → Nat → Int64 → Int64 → Int32 → Int32 → Int32 → Option (Int32 × HP)) (K36 : HP → Nat → Int64 → Int64 → Int32 → Int32 → Int32 → Option (Int32 × HP)) (K62 : HP → Nat → Int32 → Int32 → Int64 → Int32 → Option (Int32 × HP)) (hK3 : ∀ (h : HP) (a0 : Nat) (a1 : Int64) (a3 : Int64) (a5 : Int32) (a6 : Int32) (a7 : Int32), K3 h a0 a1 a3 a5 a6 a7 = some (r', h') → GG x 0 0 h 3 [(0, .ref a0), (1, .long a1), (3, .long a3), (5, .int a5), (6, .int a6), (7, .int a7)] []) (hK36 : ∀ (h : HP) (a0 : Nat) (a1 : Int64) (a3 : Int64) (a5 : Int32) (a6 : Int32) (a7 : Int32), K36 h a0 a1 a3 a5 a6 a7 = some (r', h') → GG x 0 0 h 36 [(0, .ref a0), (1, .long a1), (3, .long a3), (5, .int a5), (6, .int a6), (7, .int a7)] []) (hK62 : ∀ (h : HP) (a0 : Nat) (a5 : Int32) (a6 : Int32) (a7 : Int64) (a9 : Int32), K62 h a0 a5 a6 a7 a9 = some (r', h') → GG x 0 0 h 62 [(0, .ref a0), (5, .int a5), (6, .int a6), (7, .long a7), (9, .int a9)] []) (h : HP) (a0 : Nat) (a5 : Int32) (a6 : Int32) (a7 : Int64) (a9 : Int32) (hr : B_Rm_fits_62 K3 K36 K62 h a0 a5 a6 a7 a9 = some (r', h')) : GG x 0 0 h 62 [(0, .ref a0), (5, .int a5), (6, .int a6), (7, .long a7), (9, .int a9)] [] := by
  unfold B_Rm_fits_62 at hr
  refine g_iload C 4 rfl d_Rm_fits_62 ?_
  refine g_iconst (v := 2) C d_Rm_fits_64 (by decide) ?_
  refine g_iload C 2 rfl d_Rm_fits_65 ?_
  refine g_imul C d_Rm_fits_67 ?_
  refine g_icmp_lt (tgt := 92) C d_Rm_fits_68 (by decide) (fun z => ?_) (fun z => ?_)
  · have hr := of_if z hr
    refine g_lload C 3 rfl d_Rm_fits_92 ?_
    refine g_iload C 1 rfl d_Rm_fits_94 ?_
    refine g_i2l C d_Rm_fits_96 ?_
    refine g_lcmp C d_Rm_fits_97 ?_
    refine g_if_eq (tgt := 116) C d_Rm_fits_98 (by decide) (fun z => ?_) (fun z => ?_)
    · have hr := of_if z hr
      refine g_iconst (v := 0) C d_Rm_fits_116 (by decide) ?_
      refine g_istore (lv' := [(9, .int 0), (0, .ref a0), (5, .int a5), (6, .int a6), (7, .long a7)]) C d_Rm_fits_117 (by decide) rfl ?_
      refine g_lv [1, 3, 0] rfl ?_
      exact lp_Rm_fits_119 C T hl0 K3 K36 K62 hK3 hK36 hK62 FU h a0 a6 0 hr
    · have hr := of_el z hr
      refine g_lload C 3 rfl d_Rm_fits_101 ?_
      refine g_iload C 1 rfl d_Rm_fits_103 ?_
      refine g_i2l C d_Rm_fits_105 ?_
      refine g_lcmp C d_Rm_fits_106 ?_
      refine g_if_ge (tgt := 114) C d_Rm_fits_107 (by decide) (fun z => ?_) (fun z => ?_)
      · have hr := of_if z hr
        refine g_iconst (v := 0) C d_Rm_fits_114 (by decide) ?_
        cases hr
        exact g_ireturn C T rfl (by decide) (by decide) d_Rm_fits_115
      · have hr := of_el z hr
        refine g_iconst (v := 1) C d_Rm_fits_110 (by decide) ?_
        refine g_goto (tgt := 115) C d_Rm_fits_111 (by decide) ?_
        cases hr
        exact g_ireturn C T rfl (by decide) (by decide) d_Rm_fits_115
  · have hr := of_el z hr
    refine g_lload C 3 rfl d_Rm_fits_71 ?_
    refine g_bipush (v := 32) C d_Rm_fits_73 (by decide) ?_
    refine g_lshl C d_Rm_fits_75 ?_
    refine g_aload_n C 0 rfl d_Rm_fits_76 rfl ?_
    obtain ⟨k4, ek4, hr⟩ := of_bnd hr
    refine g_getR C fl_Rm_248 ek4 d_Rm_fits_77 ?_
    refine g_iload C 4 rfl d_Rm_fits_80 ?_
    obtain ⟨v5, ev5, hr⟩ := of_bnd hr
    refine g_laload C ev5 d_Rm_fits_82 ?_
    refine g_lor C d_Rm_fits_83 ?_
    refine g_topl (fun x6 ex6 => ?_)
    have hr := of_lt ex6 hr
    refine g_lstore (lv' := [(7, .long x6), (0, .ref a0), (5, .int a5), (6, .int a6), (9, .int a9)]) C d_Rm_fits_84 (by decide) rfl ?_
    obtain ⟨x7, ex7⟩ : ∃ z, z = a9 + Int32.ofInt (-1) := ⟨_, rfl⟩
    have hr := of_lt ex7 hr
    refine g_iinc (lv' := [(9, .int x7), (7, .long x6), (0, .ref a0), (5, .int a5), (6, .int a6)]) C 4 rfl d_Rm_fits_86 ex7.symm (by decide) rfl ?_
    refine g_goto (tgt := 62) C d_Rm_fits_89 (by decide) ?_
    refine g_lv [2, 3, 4, 1, 0] rfl ?_
    exact hK62 h a0 a5 a6 x6 x7 hr
def L_Rm_fits_62 (K3 : HP → Nat → Int64 → Int64 → Int32 → Int32 → Int32 → Option (Int32 × HP)) (K36 : HP → Nat → Int64 → Int64 → Int32 → Int32 → Int32 → Option (Int32 × HP)) : Nat → HP → Nat → Int32 → Int32 → Int64 → Int32 → Option (Int32 × HP)
  | 0, _, _, _, _, _, _ => none
  | f + 1, h, a0, a5, a6, a7, a9 => B_Rm_fits_62 K3 K36 (L_Rm_fits_62 K3 K36 f) h a0 a5 a6 a7 a9
theorem lp_Rm_fits_62 {l : Launch} {x : CX} {h0 h' : HP} {r' : Int32} (C : EV x b_Rm_fits "PrimeKeysModel" 10 rm_Rm_fits) (T : CT x (some .boolean) rm_Rm_fits h0 (some (.int r')) h') (hl0 : x.1.2.1 = l) (K3 : HP → Nat → Int64 → Int64 → Int32 → Int32 → Int32 → Option (Int32 × HP)) (K36 : HP → Nat → Int64 → Int64 → Int32 → Int32 → Int32 → Option (Int32 × HP)) (hK3 : ∀ (h : HP) (a0 : Nat) (a1 : Int64) (a3 : Int64) (a5 : Int32) (a6 : Int32) (a7 : Int32), K3 h a0 a1 a3 a5 a6 a7 = some (r', h') → GG x 0 0 h 3 [(0, .ref a0), (1, .long a1), (3, .long a3), (5, .int a5), (6, .int a6), (7, .int a7)] []) (hK36 : ∀ (h : HP) (a0 : Nat) (a1 : Int64) (a3 : Int64) (a5 : Int32) (a6 : Int32) (a7 : Int32), K36 h a0 a1 a3 a5 a6 a7 = some (r', h') → GG x 0 0 h 36 [(0, .ref a0), (1, .long a1), (3, .long a3), (5, .int a5), (6, .int a6), (7, .int a7)] []) : ∀ (f : Nat) (h : HP) (a0 : Nat) (a5 : Int32) (a6 : Int32) (a7 : Int64) (a9 : Int32), L_Rm_fits_62 K3 K36 f h a0 a5 a6 a7 a9 = some (r', h') → GG x 0 0 h 62 [(0, .ref a0), (5, .int a5), (6, .int a6), (7, .long a7), (9, .int a9)] [] := by
  intro f
  induction f with
  | zero => intro h a0 a5 a6 a7 a9 hr; have hr : (none : Option (Int32 × HP)) = some (r', h') := hr; cases hr
  | succ f ih => intro h a0 a5 a6 a7 a9 hr; exact bk_Rm_fits_62 C T hl0 K3 K36 (L_Rm_fits_62 K3 K36 f) hK3 hK36 ih h a0 a5 a6 a7 a9 hr
def B_Rm_fits_36 (K3 : HP → Nat → Int64 → Int64 → Int32 → Int32 → Int32 → Option (Int32 × HP)) (K36 : HP → Nat → Int64 → Int64 → Int32 → Int32 → Int32 → Option (Int32 × HP)) (h : HP) (a0 : Nat) (a1 : Int64) (a3 : Int64) (a5 : Int32) (a6 : Int32) (a7 : Int32) : Option (Int32 × HP) :=
  if a6 ≤ a7 then
  L_Rm_fits_62 K3 K36 FU h a0 a5 a6 0 7
  else
  ob h a0 8 (
  bnd (P_Rm_raise h a0 a1 a3) fun h8 =>
  lt (a7 + Int32.ofInt 1) fun x9 =>
  K36 h8 a0 a1 a3 a5 a6 x9)
set_option maxHeartbeats 4000000 in
set_option maxRecDepth 100000 in
theorem bk_Rm_fits_36 {l : Launch} {x : CX} {h0 h' : HP} {r' : Int32} (C : EV x b_Rm_fits "PrimeKeysModel" 10 rm_Rm_fits) (T : CT x (some .boolean) rm_Rm_fits h0 (some (.int r')) h') (hl0 : x.1.2.1 = l) (K3 : HP → Nat → Int64 → Int64 → Int32 → Int32 → Int32 → Option (Int32 × HP)) (K36 : HP → Nat → Int64 → Int64 → Int32 → Int32 → Int32 → Option (Int32 × HP)) (hK3 : ∀ (h : HP) (a0 : Nat) (a1 : Int64) (a3 : Int64) (a5 : Int32) (a6 : Int32) (a7 : Int32), K3 h a0 a1 a3 a5 a6 a7 = some (r', h') → GG x 0 0 h 3 [(0, .ref a0), (1, .long a1), (3, .long a3), (5, .int a5), (6, .int a6), (7, .int a7)] []) (hK36 : ∀ (h : HP) (a0 : Nat) (a1 : Int64) (a3 : Int64) (a5 : Int32) (a6 : Int32) (a7 : Int32), K36 h a0 a1 a3 a5 a6 a7 = some (r', h') → GG x 0 0 h 36 [(0, .ref a0), (1, .long a1), (3, .long a3), (5, .int a5), (6, .int a6), (7, .int a7)] []) (h : HP) (a0 : Nat) (a1 : Int64) (a3 : Int64) (a5 : Int32) (a6 : Int32) (a7 : Int32) (hr : B_Rm_fits_36 K3 K36 h a0 a1 a3 a5 a6 a7 = some (r', h')) : GG x 0 0 h 36 [(0, .ref a0), (1, .long a1), (3, .long a3), (5, .int a5), (6, .int a6), (7, .int a7)] [] := by
  unfold B_Rm_fits_36 at hr
  refine g_iload C 5 rfl d_Rm_fits_36 ?_
  refine g_iload C 4 rfl d_Rm_fits_38 ?_
  refine g_icmp_ge (tgt := 55) C d_Rm_fits_40 (by decide) (fun z => ?_) (fun z => ?_)
  · have hr := of_if z hr
    refine g_lconst (v := 0) C d_Rm_fits_55 (by decide) ?_
    refine g_lstore (lv' := [(7, .long 0), (0, .ref a0), (1, .long a1), (3, .long a3), (5, .int a5), (6, .int a6)]) C d_Rm_fits_56 (by decide) rfl ?_
    refine g_bipush (v := 7) C d_Rm_fits_58 (by decide) ?_
    refine g_istore (lv' := [(9, .int 7), (7, .long 0), (0, .ref a0), (1, .long a1), (3, .long a3), (5, .int a5), (6, .int a6)]) C d_Rm_fits_60 (by decide) rfl ?_
    refine g_lv [2, 5, 6, 1, 0] rfl ?_
    exact lp_Rm_fits_62 C T hl0 K3 K36 hK3 hK36 FU h a0 a5 a6 0 7 hr
  · have hr := of_el z hr
    refine g_aload_n C 0 rfl d_Rm_fits_43 rfl ?_
    refine g_lload_n C 1 rfl d_Rm_fits_44 rfl ?_
    refine g_lload_n C 2 rfl d_Rm_fits_45 rfl ?_
    obtain ⟨fsh8, hoh8, hr⟩ := of_ob hr
    obtain ⟨h8, eh8, hr⟩ := of_bnd hr
    refine g_callV (pa := [.long a1, .long a3]) C hl0 (c_Rm_raise eh8) cd_Rm_319 kw_in_Rm_raise kw_se_Rm_raise hoh8 rfl rfl (by decide) rfl rfl (Nat.le_of_ble_eq_true rfl) d_Rm_fits_46 ?_
    obtain ⟨x9, ex9⟩ : ∃ z, z = a7 + Int32.ofInt 1 := ⟨_, rfl⟩
    have hr := of_lt ex9 hr
    refine g_iinc (lv' := [(7, .int x9), (0, .ref a0), (1, .long a1), (3, .long a3), (5, .int a5), (6, .int a6)]) C 5 rfl d_Rm_fits_49 ex9.symm (by decide) rfl ?_
    refine g_goto (tgt := 36) C d_Rm_fits_52 (by decide) ?_
    refine g_lv [1, 2, 3, 4, 5, 0] rfl ?_
    exact hK36 h8 a0 a1 a3 a5 a6 x9 hr
def L_Rm_fits_36 (K3 : HP → Nat → Int64 → Int64 → Int32 → Int32 → Int32 → Option (Int32 × HP)) : Nat → HP → Nat → Int64 → Int64 → Int32 → Int32 → Int32 → Option (Int32 × HP)
  | 0, _, _, _, _, _, _, _ => none
  | f + 1, h, a0, a1, a3, a5, a6, a7 => B_Rm_fits_36 K3 (L_Rm_fits_36 K3 f) h a0 a1 a3 a5 a6 a7
theorem lp_Rm_fits_36 {l : Launch} {x : CX} {h0 h' : HP} {r' : Int32} (C : EV x b_Rm_fits "PrimeKeysModel" 10 rm_Rm_fits) (T : CT x (some .boolean) rm_Rm_fits h0 (some (.int r')) h') (hl0 : x.1.2.1 = l) (K3 : HP → Nat → Int64 → Int64 → Int32 → Int32 → Int32 → Option (Int32 × HP)) (hK3 : ∀ (h : HP) (a0 : Nat) (a1 : Int64) (a3 : Int64) (a5 : Int32) (a6 : Int32) (a7 : Int32), K3 h a0 a1 a3 a5 a6 a7 = some (r', h') → GG x 0 0 h 3 [(0, .ref a0), (1, .long a1), (3, .long a3), (5, .int a5), (6, .int a6), (7, .int a7)] []) : ∀ (f : Nat) (h : HP) (a0 : Nat) (a1 : Int64) (a3 : Int64) (a5 : Int32) (a6 : Int32) (a7 : Int32), L_Rm_fits_36 K3 f h a0 a1 a3 a5 a6 a7 = some (r', h') → GG x 0 0 h 36 [(0, .ref a0), (1, .long a1), (3, .long a3), (5, .int a5), (6, .int a6), (7, .int a7)] [] := by
  intro f
  induction f with
  | zero => intro h a0 a1 a3 a5 a6 a7 hr; have hr : (none : Option (Int32 × HP)) = some (r', h') := hr; cases hr
  | succ f ih => intro h a0 a1 a3 a5 a6 a7 hr; exact bk_Rm_fits_36 C T hl0 K3 (L_Rm_fits_36 K3 f) hK3 ih h a0 a1 a3 a5 a6 a7 hr
def B_Rm_fits_3 (K3 : HP → Nat → Int64 → Int64 → Int32 → Int32 → Int32 → Option (Int32 × HP)) (h : HP) (a0 : Nat) (a1 : Int64) (a3 : Int64) (a5 : Int32) (a6 : Int32) (a7 : Int32) : Option (Int32 × HP) :=
  if 8 ≤ a7 then
  L_Rm_fits_36 K3 FU h a0 a1 a3 a5 a6 0
  else
  bnd (gR h a0 8 47) fun k10 =>
  if a7 = 0 then
  bnd (stJ h k10 a7 1) fun h13 =>
  lt (a7 + Int32.ofInt 1) fun x14 =>
  K3 h13 a0 a1 a3 a5 a6 x14
  else
  bnd (stJ h k10 a7 0) fun h11 =>
  lt (a7 + Int32.ofInt 1) fun x12 =>
  K3 h11 a0 a1 a3 a5 a6 x12
set_option maxHeartbeats 4000000 in
set_option maxRecDepth 100000 in
theorem bk_Rm_fits_3 {l : Launch} {x : CX} {h0 h' : HP} {r' : Int32} (C : EV x b_Rm_fits "PrimeKeysModel" 10 rm_Rm_fits) (T : CT x (some .boolean) rm_Rm_fits h0 (some (.int r')) h') (hl0 : x.1.2.1 = l) (K3 : HP → Nat → Int64 → Int64 → Int32 → Int32 → Int32 → Option (Int32 × HP)) (hK3 : ∀ (h : HP) (a0 : Nat) (a1 : Int64) (a3 : Int64) (a5 : Int32) (a6 : Int32) (a7 : Int32), K3 h a0 a1 a3 a5 a6 a7 = some (r', h') → GG x 0 0 h 3 [(0, .ref a0), (1, .long a1), (3, .long a3), (5, .int a5), (6, .int a6), (7, .int a7)] []) (h : HP) (a0 : Nat) (a1 : Int64) (a3 : Int64) (a5 : Int32) (a6 : Int32) (a7 : Int32) (hr : B_Rm_fits_3 K3 h a0 a1 a3 a5 a6 a7 = some (r', h')) : GG x 0 0 h 3 [(0, .ref a0), (1, .long a1), (3, .long a3), (5, .int a5), (6, .int a6), (7, .int a7)] [] := by
  unfold B_Rm_fits_3 at hr
  refine g_iload C 5 rfl d_Rm_fits_3 ?_
  refine g_bipush (v := 8) C d_Rm_fits_5 (by decide) ?_
  refine g_icmp_ge (tgt := 33) C d_Rm_fits_7 (by decide) (fun z => ?_) (fun z => ?_)
  · have hr := of_if z hr
    refine g_iconst (v := 0) C d_Rm_fits_33 (by decide) ?_
    refine g_istore (lv' := [(7, .int 0), (0, .ref a0), (1, .long a1), (3, .long a3), (5, .int a5), (6, .int a6)]) C d_Rm_fits_34 (by decide) rfl ?_
    refine g_lv [1, 2, 3, 4, 5, 0] rfl ?_
    exact lp_Rm_fits_36 C T hl0 K3 hK3 FU h a0 a1 a3 a5 a6 0 hr
  · have hr := of_el z hr
    refine g_aload_n C 0 rfl d_Rm_fits_10 rfl ?_
    obtain ⟨k10, ek10, hr⟩ := of_bnd hr
    refine g_getR C fl_Rm_248 ek10 d_Rm_fits_11 ?_
    refine g_iload C 5 rfl d_Rm_fits_14 ?_
    refine g_iload C 5 rfl d_Rm_fits_16 ?_
    refine g_if_ne (tgt := 25) C d_Rm_fits_18 (by decide) (fun z => ?_) (fun z => ?_)
    · have hr := of_el z hr
      refine g_lconst (v := 0) C d_Rm_fits_25 (by decide) ?_
      obtain ⟨h11, eh11, hr⟩ := of_bnd hr
      refine g_lastore C eh11 d_Rm_fits_26 ?_
      obtain ⟨x12, ex12⟩ : ∃ z, z = a7 + Int32.ofInt 1 := ⟨_, rfl⟩
      have hr := of_lt ex12 hr
      refine g_iinc (lv' := [(7, .int x12), (0, .ref a0), (1, .long a1), (3, .long a3), (5, .int a5), (6, .int a6)]) C 5 rfl d_Rm_fits_27 ex12.symm (by decide) rfl ?_
      refine g_goto (tgt := 3) C d_Rm_fits_30 (by decide) ?_
      refine g_lv [1, 2, 3, 4, 5, 0] rfl ?_
      exact hK3 h11 a0 a1 a3 a5 a6 x12 hr
    · have hr := of_if z hr
      refine g_lconst (v := 1) C d_Rm_fits_21 (by decide) ?_
      refine g_goto (tgt := 26) C d_Rm_fits_22 (by decide) ?_
      obtain ⟨h13, eh13, hr⟩ := of_bnd hr
      refine g_lastore C eh13 d_Rm_fits_26 ?_
      obtain ⟨x14, ex14⟩ : ∃ z, z = a7 + Int32.ofInt 1 := ⟨_, rfl⟩
      have hr := of_lt ex14 hr
      refine g_iinc (lv' := [(7, .int x14), (0, .ref a0), (1, .long a1), (3, .long a3), (5, .int a5), (6, .int a6)]) C 5 rfl d_Rm_fits_27 ex14.symm (by decide) rfl ?_
      refine g_goto (tgt := 3) C d_Rm_fits_30 (by decide) ?_
      refine g_lv [1, 2, 3, 4, 5, 0] rfl ?_
      exact hK3 h13 a0 a1 a3 a5 a6 x14 hr
def L_Rm_fits_3 : Nat → HP → Nat → Int64 → Int64 → Int32 → Int32 → Int32 → Option (Int32 × HP)
  | 0, _, _, _, _, _, _, _ => none
  | f + 1, h, a0, a1, a3, a5, a6, a7 => B_Rm_fits_3 (L_Rm_fits_3 f) h a0 a1 a3 a5 a6 a7
theorem lp_Rm_fits_3 {l : Launch} {x : CX} {h0 h' : HP} {r' : Int32} (C : EV x b_Rm_fits "PrimeKeysModel" 10 rm_Rm_fits) (T : CT x (some .boolean) rm_Rm_fits h0 (some (.int r')) h') (hl0 : x.1.2.1 = l) : ∀ (f : Nat) (h : HP) (a0 : Nat) (a1 : Int64) (a3 : Int64) (a5 : Int32) (a6 : Int32) (a7 : Int32), L_Rm_fits_3 f h a0 a1 a3 a5 a6 a7 = some (r', h') → GG x 0 0 h 3 [(0, .ref a0), (1, .long a1), (3, .long a3), (5, .int a5), (6, .int a6), (7, .int a7)] [] := by
  intro f
  induction f with
  | zero => intro h a0 a1 a3 a5 a6 a7 hr; have hr : (none : Option (Int32 × HP)) = some (r', h') := hr; cases hr
  | succ f ih => intro h a0 a1 a3 a5 a6 a7 hr; exact bk_Rm_fits_3 C T hl0 (L_Rm_fits_3 f) ih h a0 a1 a3 a5 a6 a7 hr
def P_Rm_fits (h : HP) (p0 : Nat) (p1 : Int64) (p3 : Int64) (p5 : Int32) (p6 : Int32) : Option (Int32 × HP) :=
  L_Rm_fits_3 FU h p0 p1 p3 p5 p6 0
set_option maxHeartbeats 4000000 in
set_option maxRecDepth 100000 in
theorem c_Rm_fits {l : Launch} {h h' : HP} {p0 p1 p3 p5 p6 : _} {r' : Int32} (hr : P_Rm_fits h p0 p1 p3 p5 p6 = some (r', h')) : MP l y_Rm_fits (Cond.code y_Rm_fits b_Rm_fits 10 (some .boolean) :: TB) rm_Rm_fits h [.ref p0, .long p1, .long p3, .int p5, .int p6] (some (.int r')) h' := by
  refine MP_intro (cc := b_Rm_fits) (by decide) (Nat.le_of_ble_eq_true rfl) (fun x hl0 C T hin => ?_)
  unfold P_Rm_fits at hr
  show GG x 0 0 h 0 [(0, .ref p0), (1, .long p1), (3, .long p3), (5, .int p5), (6, .int p6)] []
  refine g_iconst (v := 0) C d_Rm_fits_0 (by decide) ?_
  refine g_istore (lv' := [(7, .int 0), (0, .ref p0), (1, .long p1), (3, .long p3), (5, .int p5), (6, .int p6)]) C d_Rm_fits_1 (by decide) rfl ?_
  refine g_lv [1, 2, 3, 4, 5, 0] rfl ?_
  exact lp_Rm_fits_3 C T hl0 FU h p0 p1 p3 p5 p6 0 hr
abbrev b_Rm_root : ByteArray := prog_12_method_22_code
abbrev y_Rm_root : MethodName := ⟨"PrimeKeysModel", "root", "(II)J"⟩
theorem d_Rm_root_0 : decode b_Rm_root 0 = .ok (.lconst 0, 1) := by decide +kernel
theorem d_Rm_root_1 : decode b_Rm_root 1 = .ok (.lstore_n 3, 1) := by decide +kernel
theorem d_Rm_root_2 : decode b_Rm_root 2 = .ok (.lconst 0, 1) := by decide +kernel
theorem d_Rm_root_3 : decode b_Rm_root 3 = .ok (.lstore 5, 2) := by decide +kernel
theorem d_Rm_root_5 : decode b_Rm_root 5 = .ok (.bipush 66, 2) := by decide +kernel
theorem d_Rm_root_7 : decode b_Rm_root 7 = .ok (.istore 7, 2) := by decide +kernel
theorem d_Rm_root_9 : decode b_Rm_root 9 = .ok (.iload 7, 2) := by decide +kernel
theorem d_Rm_root_11 : decode b_Rm_root 11 = .ok (.ifCond .lt 72, 3) := by decide +kernel
theorem d_Rm_root_14 : decode b_Rm_root 14 = .ok (.iload 7, 2) := by decide +kernel
theorem d_Rm_root_16 : decode b_Rm_root 16 = .ok (.bipush 63, 2) := by decide +kernel
theorem d_Rm_root_18 : decode b_Rm_root 18 = .ok (.if_icmp .le 15, 3) := by decide +kernel
theorem d_Rm_root_21 : decode b_Rm_root 21 = .ok (.lload_n 3, 1) := by decide +kernel
theorem d_Rm_root_22 : decode b_Rm_root 22 = .ok (.lconst 1, 1) := by decide +kernel
theorem d_Rm_root_23 : decode b_Rm_root 23 = .ok (.iload 7, 2) := by decide +kernel
theorem d_Rm_root_25 : decode b_Rm_root 25 = .ok (.bipush 64, 2) := by decide +kernel
theorem d_Rm_root_27 : decode b_Rm_root 27 = .ok (.isub, 1) := by decide +kernel
theorem d_Rm_root_28 : decode b_Rm_root 28 = .ok (.lshl, 1) := by decide +kernel
theorem d_Rm_root_29 : decode b_Rm_root 29 = .ok (.lor, 1) := by decide +kernel
theorem d_Rm_root_30 : decode b_Rm_root 30 = .ok (.goto 4, 3) := by decide +kernel
theorem d_Rm_root_33 : decode b_Rm_root 33 = .ok (.lload_n 3, 1) := by decide +kernel
theorem d_Rm_root_34 : decode b_Rm_root 34 = .ok (.lstore 8, 2) := by decide +kernel
theorem d_Rm_root_36 : decode b_Rm_root 36 = .ok (.iload 7, 2) := by decide +kernel
theorem d_Rm_root_38 : decode b_Rm_root 38 = .ok (.bipush 63, 2) := by decide +kernel
theorem d_Rm_root_40 : decode b_Rm_root 40 = .ok (.if_icmp .le 8, 3) := by decide +kernel
theorem d_Rm_root_43 : decode b_Rm_root 43 = .ok (.lload 5, 2) := by decide +kernel
theorem d_Rm_root_45 : decode b_Rm_root 45 = .ok (.goto 10, 3) := by decide +kernel
theorem d_Rm_root_48 : decode b_Rm_root 48 = .ok (.lload 5, 2) := by decide +kernel
theorem d_Rm_root_50 : decode b_Rm_root 50 = .ok (.lconst 1, 1) := by decide +kernel
theorem d_Rm_root_51 : decode b_Rm_root 51 = .ok (.iload 7, 2) := by decide +kernel
theorem d_Rm_root_53 : decode b_Rm_root 53 = .ok (.lshl, 1) := by decide +kernel
theorem d_Rm_root_54 : decode b_Rm_root 54 = .ok (.lor, 1) := by decide +kernel
theorem d_Rm_root_55 : decode b_Rm_root 55 = .ok (.lstore 10, 2) := by decide +kernel
theorem d_Rm_root_57 : decode b_Rm_root 57 = .ok (.aload_n 0, 1) := by decide +kernel
theorem d_Rm_root_58 : decode b_Rm_root 58 = .ok (.lload 8, 2) := by decide +kernel
theorem d_Rm_root_60 : decode b_Rm_root 60 = .ok (.lload 10, 2) := by decide +kernel
theorem d_Rm_root_62 : decode b_Rm_root 62 = .ok (.iload_n 1, 1) := by decide +kernel
theorem d_Rm_root_63 : decode b_Rm_root 63 = .ok (.iload_n 2, 1) := by decide +kernel
theorem d_Rm_root_64 : decode b_Rm_root 64 = .ok (.invokevirtual 315, 3) := by decide +kernel
theorem d_Rm_root_67 : decode b_Rm_root 67 = .ok (.ifCond .eq 10, 3) := by decide +kernel
theorem d_Rm_root_70 : decode b_Rm_root 70 = .ok (.lload 8, 2) := by decide +kernel
theorem d_Rm_root_72 : decode b_Rm_root 72 = .ok (.lstore_n 3, 1) := by decide +kernel
theorem d_Rm_root_73 : decode b_Rm_root 73 = .ok (.lload 10, 2) := by decide +kernel
theorem d_Rm_root_75 : decode b_Rm_root 75 = .ok (.lstore 5, 2) := by decide +kernel
theorem d_Rm_root_77 : decode b_Rm_root 77 = .ok (.iinc 7 (-1), 3) := by decide +kernel
theorem d_Rm_root_80 : decode b_Rm_root 80 = .ok (.goto (-71), 3) := by decide +kernel
theorem d_Rm_root_83 : decode b_Rm_root 83 = .ok (.lload 5, 2) := by decide +kernel
theorem d_Rm_root_85 : decode b_Rm_root 85 = .ok (.lreturn, 1) := by decide +kernel
theorem cd_Rm_315 : CD "PrimeKeysModel" 315 y_Rm_fits b_Rm_fits 10 (some .boolean) 4 := ⟨tb_4 (List.mem_of_getElem? (i := 133) rfl) rfl, tb_1 (List.mem_of_getElem? (i := 13) (by decide +kernel)) rfl, tb_4 (List.mem_of_getElem? (i := 130) (by decide +kernel)) rfl, by decide +kernel⟩
theorem kw_in_Rm_fits : Cond.instanceMethod y_Rm_fits ∈ TB := tb_4 (List.mem_of_getElem? (i := 132) (by decide +kernel)) rfl
theorem kw_se_Rm_fits : Cond.selects "PrimeKeysModel" y_Rm_fits y_Rm_fits ∈ TB := tb_p (q := (y_Rm_fits, 50)) (by decide +kernel)
abbrev rm_Rm_root : Room := { frames := 2, cells := 0, slots := 0, locals := 61 }
def B_Rm_root_77 (K9 : HP → Nat → Int32 → Int32 → Int64 → Int64 → Int32 → Option (Int64 × HP)) (h : HP) (a0 : Nat) (a1 : Int32) (a2 : Int32) (a3 : Int64) (a5 : Int64) (a7 : Int32) : Option (Int64 × HP) :=
  lt (a7 + Int32.ofInt (-1)) fun x4 =>
  K9 h a0 a1 a2 a3 a5 x4
set_option maxHeartbeats 4000000 in
set_option maxRecDepth 100000 in
theorem bk_Rm_root_77 {l : Launch} {x : CX} {h0 h' : HP} {r' : Int64} (C : EV x b_Rm_root "PrimeKeysModel" 12 rm_Rm_root) (T : CT x (some .long) rm_Rm_root h0 (some (.long r')) h') (hl0 : x.1.2.1 = l) (K9 : HP → Nat → Int32 → Int32 → Int64 → Int64 → Int32 → Option (Int64 × HP)) (hK9 : ∀ (h : HP) (a0 : Nat) (a1 : Int32) (a2 : Int32) (a3 : Int64) (a5 : Int64) (a7 : Int32), K9 h a0 a1 a2 a3 a5 a7 = some (r', h') → GG x 0 0 h 9 [(0, .ref a0), (1, .int a1), (2, .int a2), (3, .long a3), (5, .long a5), (7, .int a7)] []) (h : HP) (a0 : Nat) (a1 : Int32) (a2 : Int32) (a3 : Int64) (a5 : Int64) (a7 : Int32) (hr : B_Rm_root_77 K9 h a0 a1 a2 a3 a5 a7 = some (r', h')) : GG x 0 0 h 77 [(0, .ref a0), (1, .int a1), (2, .int a2), (3, .long a3), (5, .long a5), (7, .int a7)] [] := by
  unfold B_Rm_root_77 at hr
  obtain ⟨x4, ex4⟩ : ∃ z, z = a7 + Int32.ofInt (-1) := ⟨_, rfl⟩
  have hr := of_lt ex4 hr
  refine g_iinc (lv' := [(7, .int x4), (0, .ref a0), (1, .int a1), (2, .int a2), (3, .long a3), (5, .long a5)]) C 5 rfl d_Rm_root_77 ex4.symm (by decide) rfl ?_
  refine g_goto (tgt := 9) C d_Rm_root_80 (by decide) ?_
  refine g_lv [1, 2, 3, 4, 5, 0] rfl ?_
  exact hK9 h a0 a1 a2 a3 a5 x4 hr
def B_Rm_root_9 (K9 : HP → Nat → Int32 → Int32 → Int64 → Int64 → Int32 → Option (Int64 × HP)) (h : HP) (a0 : Nat) (a1 : Int32) (a2 : Int32) (a3 : Int64) (a5 : Int64) (a7 : Int32) : Option (Int64 × HP) :=
  if a7 < 0 then
  some (a5, h)
  else
  if a7 ≤ 63 then
  if a7 ≤ 63 then
  lt (a5 ||| (1 <<< (Int32.toInt64 a7 &&& 63))) fun x1 =>
  ob h a0 8 (
  bnd2 (P_Rm_fits h a0 a3 x1 a1 a2) fun v3 h2 =>
  if v3 = 0 then
  B_Rm_root_77 K9 h2 a0 a1 a2 a3 a5 a7
  else
  B_Rm_root_77 K9 h2 a0 a1 a2 a3 x1 a7)
  else
  ob h a0 8 (
  bnd2 (P_Rm_fits h a0 a3 a5 a1 a2) fun v6 h5 =>
  if v6 = 0 then
  B_Rm_root_77 K9 h5 a0 a1 a2 a3 a5 a7
  else
  B_Rm_root_77 K9 h5 a0 a1 a2 a3 a5 a7)
  else
  lt (a3 ||| (1 <<< (Int32.toInt64 (a7 - 64) &&& 63))) fun x7 =>
  if a7 ≤ 63 then
  lt (a5 ||| (1 <<< (Int32.toInt64 a7 &&& 63))) fun x8 =>
  ob h a0 8 (
  bnd2 (P_Rm_fits h a0 x7 x8 a1 a2) fun v10 h9 =>
  if v10 = 0 then
  B_Rm_root_77 K9 h9 a0 a1 a2 a3 a5 a7
  else
  B_Rm_root_77 K9 h9 a0 a1 a2 x7 x8 a7)
  else
  ob h a0 8 (
  bnd2 (P_Rm_fits h a0 x7 a5 a1 a2) fun v12 h11 =>
  if v12 = 0 then
  B_Rm_root_77 K9 h11 a0 a1 a2 a3 a5 a7
  else
  B_Rm_root_77 K9 h11 a0 a1 a2 x7 a5 a7)
set_option maxHeartbeats 4000000 in
set_option maxRecDepth 100000 in
theorem bk_Rm_root_9 {l : Launch} {x : CX} {h0 h' : HP} {r' : Int64} (C : EV x b_Rm_root "PrimeKeysModel" 12 rm_Rm_root) (T : CT x (some .long) rm_Rm_root h0 (some (.long r')) h') (hl0 : x.1.2.1 = l) (K9 : HP → Nat → Int32 → Int32 → Int64 → Int64 → Int32 → Option (Int64 × HP)) (hK9 : ∀ (h : HP) (a0 : Nat) (a1 : Int32) (a2 : Int32) (a3 : Int64) (a5 : Int64) (a7 : Int32), K9 h a0 a1 a2 a3 a5 a7 = some (r', h') → GG x 0 0 h 9 [(0, .ref a0), (1, .int a1), (2, .int a2), (3, .long a3), (5, .long a5), (7, .int a7)] []) (h : HP) (a0 : Nat) (a1 : Int32) (a2 : Int32) (a3 : Int64) (a5 : Int64) (a7 : Int32) (hr : B_Rm_root_9 K9 h a0 a1 a2 a3 a5 a7 = some (r', h')) : GG x 0 0 h 9 [(0, .ref a0), (1, .int a1), (2, .int a2), (3, .long a3), (5, .long a5), (7, .int a7)] [] := by
  unfold B_Rm_root_9 at hr
  refine g_iload C 5 rfl d_Rm_root_9 ?_
  refine g_if_lt (tgt := 83) C d_Rm_root_11 (by decide) (fun z => ?_) (fun z => ?_)
  · have hr := of_if z hr
    refine g_lload C 4 rfl d_Rm_root_83 ?_
    cases hr
    exact g_lreturn C T (by decide) (by decide) d_Rm_root_85
  · have hr := of_el z hr
    refine g_iload C 5 rfl d_Rm_root_14 ?_
    refine g_bipush (v := 63) C d_Rm_root_16 (by decide) ?_
    refine g_icmp_le (tgt := 33) C d_Rm_root_18 (by decide) (fun z => ?_) (fun z => ?_)
    · have hr := of_if z hr
      refine g_lload_n C 3 rfl d_Rm_root_33 rfl ?_
      refine g_lstore (lv' := [(8, .long a3), (0, .ref a0), (1, .int a1), (2, .int a2), (3, .long a3), (5, .long a5), (7, .int a7)]) C d_Rm_root_34 (by decide) rfl ?_
      refine g_iload C 6 rfl d_Rm_root_36 ?_
      refine g_bipush (v := 63) C d_Rm_root_38 (by decide) ?_
      refine g_icmp_le (tgt := 48) C d_Rm_root_40 (by decide) (fun z => ?_) (fun z => ?_)
      · have hr := of_if z hr
        refine g_lload C 5 rfl d_Rm_root_48 ?_
        refine g_lconst (v := 1) C d_Rm_root_50 (by decide) ?_
        refine g_iload C 6 rfl d_Rm_root_51 ?_
        refine g_lshl C d_Rm_root_53 ?_
        refine g_lor C d_Rm_root_54 ?_
        refine g_topl (fun x1 ex1 => ?_)
        have hr := of_lt ex1 hr
        refine g_lstore (lv' := [(10, .long x1), (8, .long a3), (0, .ref a0), (1, .int a1), (2, .int a2), (3, .long a3), (5, .long a5), (7, .int a7)]) C d_Rm_root_55 (by decide) rfl ?_
        refine g_aload_n C 2 rfl d_Rm_root_57 rfl ?_
        refine g_lload C 1 rfl d_Rm_root_58 ?_
        refine g_lload C 0 rfl d_Rm_root_60 ?_
        refine g_iload_n C 3 rfl d_Rm_root_62 rfl ?_
        refine g_iload_n C 4 rfl d_Rm_root_63 rfl ?_
        obtain ⟨fsh2, hoh2, hr⟩ := of_ob hr
        obtain ⟨v3, h2, eh2, hr⟩ := of_bnd2 hr
        refine g_callV (pa := [.long a3, .long x1, .int a1, .int a2]) C hl0 (c_Rm_fits eh2) cd_Rm_315 kw_in_Rm_fits kw_se_Rm_fits hoh2 rfl rfl (by decide) rfl rfl (Nat.le_of_ble_eq_true rfl) d_Rm_root_64 ?_
        refine g_if_eq (tgt := 77) C d_Rm_root_67 (by decide) (fun z => ?_) (fun z => ?_)
        · have hr := of_if z hr
          refine g_lv [2, 3, 4, 5, 6, 7] rfl ?_
          exact bk_Rm_root_77 C T hl0 K9 hK9 h2 a0 a1 a2 a3 a5 a7 hr
        · have hr := of_el z hr
          refine g_lload C 1 rfl d_Rm_root_70 ?_
          refine g_lstore_n (lv' := [(3, .long a3), (10, .long x1), (8, .long a3), (0, .ref a0), (1, .int a1), (2, .int a2), (5, .long a5), (7, .int a7)]) C d_Rm_root_72 rfl (by decide) rfl ?_
          refine g_lload C 1 rfl d_Rm_root_73 ?_
          refine g_lstore (lv' := [(5, .long x1), (3, .long a3), (10, .long x1), (8, .long a3), (0, .ref a0), (1, .int a1), (2, .int a2), (7, .int a7)]) C d_Rm_root_75 (by decide) rfl ?_
          refine g_lv [4, 5, 6, 1, 0, 7] rfl ?_
          exact bk_Rm_root_77 C T hl0 K9 hK9 h2 a0 a1 a2 a3 x1 a7 hr
      · have hr := of_el z hr
        refine g_lload C 5 rfl d_Rm_root_43 ?_
        refine g_goto (tgt := 55) C d_Rm_root_45 (by decide) ?_
        refine g_lstore (lv' := [(10, .long a5), (8, .long a3), (0, .ref a0), (1, .int a1), (2, .int a2), (3, .long a3), (5, .long a5), (7, .int a7)]) C d_Rm_root_55 (by decide) rfl ?_
        refine g_aload_n C 2 rfl d_Rm_root_57 rfl ?_
        refine g_lload C 1 rfl d_Rm_root_58 ?_
        refine g_lload C 0 rfl d_Rm_root_60 ?_
        refine g_iload_n C 3 rfl d_Rm_root_62 rfl ?_
        refine g_iload_n C 4 rfl d_Rm_root_63 rfl ?_
        obtain ⟨fsh5, hoh5, hr⟩ := of_ob hr
        obtain ⟨v6, h5, eh5, hr⟩ := of_bnd2 hr
        refine g_callV (pa := [.long a3, .long a5, .int a1, .int a2]) C hl0 (c_Rm_fits eh5) cd_Rm_315 kw_in_Rm_fits kw_se_Rm_fits hoh5 rfl rfl (by decide) rfl rfl (Nat.le_of_ble_eq_true rfl) d_Rm_root_64 ?_
        refine g_if_eq (tgt := 77) C d_Rm_root_67 (by decide) (fun z => ?_) (fun z => ?_)
        · have hr := of_if z hr
          refine g_lv [2, 3, 4, 5, 6, 7] rfl ?_
          exact bk_Rm_root_77 C T hl0 K9 hK9 h5 a0 a1 a2 a3 a5 a7 hr
        · have hr := of_el z hr
          refine g_lload C 1 rfl d_Rm_root_70 ?_
          refine g_lstore_n (lv' := [(3, .long a3), (10, .long a5), (8, .long a3), (0, .ref a0), (1, .int a1), (2, .int a2), (5, .long a5), (7, .int a7)]) C d_Rm_root_72 rfl (by decide) rfl ?_
          refine g_lload C 1 rfl d_Rm_root_73 ?_
          refine g_lstore (lv' := [(5, .long a5), (3, .long a3), (10, .long a5), (8, .long a3), (0, .ref a0), (1, .int a1), (2, .int a2), (7, .int a7)]) C d_Rm_root_75 (by decide) rfl ?_
          refine g_lv [4, 5, 6, 1, 0, 7] rfl ?_
          exact bk_Rm_root_77 C T hl0 K9 hK9 h5 a0 a1 a2 a3 a5 a7 hr
    · have hr := of_el z hr
      refine g_lload_n C 3 rfl d_Rm_root_21 rfl ?_
      refine g_lconst (v := 1) C d_Rm_root_22 (by decide) ?_
      refine g_iload C 5 rfl d_Rm_root_23 ?_
      refine g_bipush (v := 64) C d_Rm_root_25 (by decide) ?_
      refine g_isub C d_Rm_root_27 ?_
      refine g_lshl C d_Rm_root_28 ?_
      refine g_lor C d_Rm_root_29 ?_
      refine g_goto (tgt := 34) C d_Rm_root_30 (by decide) ?_
      refine g_topl (fun x7 ex7 => ?_)
      have hr := of_lt ex7 hr
      refine g_lstore (lv' := [(8, .long x7), (0, .ref a0), (1, .int a1), (2, .int a2), (3, .long a3), (5, .long a5), (7, .int a7)]) C d_Rm_root_34 (by decide) rfl ?_
      refine g_iload C 6 rfl d_Rm_root_36 ?_
      refine g_bipush (v := 63) C d_Rm_root_38 (by decide) ?_
      refine g_icmp_le (tgt := 48) C d_Rm_root_40 (by decide) (fun z => ?_) (fun z => ?_)
      · have hr := of_if z hr
        refine g_lload C 5 rfl d_Rm_root_48 ?_
        refine g_lconst (v := 1) C d_Rm_root_50 (by decide) ?_
        refine g_iload C 6 rfl d_Rm_root_51 ?_
        refine g_lshl C d_Rm_root_53 ?_
        refine g_lor C d_Rm_root_54 ?_
        refine g_topl (fun x8 ex8 => ?_)
        have hr := of_lt ex8 hr
        refine g_lstore (lv' := [(10, .long x8), (8, .long x7), (0, .ref a0), (1, .int a1), (2, .int a2), (3, .long a3), (5, .long a5), (7, .int a7)]) C d_Rm_root_55 (by decide) rfl ?_
        refine g_aload_n C 2 rfl d_Rm_root_57 rfl ?_
        refine g_lload C 1 rfl d_Rm_root_58 ?_
        refine g_lload C 0 rfl d_Rm_root_60 ?_
        refine g_iload_n C 3 rfl d_Rm_root_62 rfl ?_
        refine g_iload_n C 4 rfl d_Rm_root_63 rfl ?_
        obtain ⟨fsh9, hoh9, hr⟩ := of_ob hr
        obtain ⟨v10, h9, eh9, hr⟩ := of_bnd2 hr
        refine g_callV (pa := [.long x7, .long x8, .int a1, .int a2]) C hl0 (c_Rm_fits eh9) cd_Rm_315 kw_in_Rm_fits kw_se_Rm_fits hoh9 rfl rfl (by decide) rfl rfl (Nat.le_of_ble_eq_true rfl) d_Rm_root_64 ?_
        refine g_if_eq (tgt := 77) C d_Rm_root_67 (by decide) (fun z => ?_) (fun z => ?_)
        · have hr := of_if z hr
          refine g_lv [2, 3, 4, 5, 6, 7] rfl ?_
          exact bk_Rm_root_77 C T hl0 K9 hK9 h9 a0 a1 a2 a3 a5 a7 hr
        · have hr := of_el z hr
          refine g_lload C 1 rfl d_Rm_root_70 ?_
          refine g_lstore_n (lv' := [(3, .long x7), (10, .long x8), (8, .long x7), (0, .ref a0), (1, .int a1), (2, .int a2), (5, .long a5), (7, .int a7)]) C d_Rm_root_72 rfl (by decide) rfl ?_
          refine g_lload C 1 rfl d_Rm_root_73 ?_
          refine g_lstore (lv' := [(5, .long x8), (3, .long x7), (10, .long x8), (8, .long x7), (0, .ref a0), (1, .int a1), (2, .int a2), (7, .int a7)]) C d_Rm_root_75 (by decide) rfl ?_
          refine g_lv [4, 5, 6, 1, 0, 7] rfl ?_
          exact bk_Rm_root_77 C T hl0 K9 hK9 h9 a0 a1 a2 x7 x8 a7 hr
      · have hr := of_el z hr
        refine g_lload C 5 rfl d_Rm_root_43 ?_
        refine g_goto (tgt := 55) C d_Rm_root_45 (by decide) ?_
        refine g_lstore (lv' := [(10, .long a5), (8, .long x7), (0, .ref a0), (1, .int a1), (2, .int a2), (3, .long a3), (5, .long a5), (7, .int a7)]) C d_Rm_root_55 (by decide) rfl ?_
        refine g_aload_n C 2 rfl d_Rm_root_57 rfl ?_
        refine g_lload C 1 rfl d_Rm_root_58 ?_
        refine g_lload C 0 rfl d_Rm_root_60 ?_
        refine g_iload_n C 3 rfl d_Rm_root_62 rfl ?_
        refine g_iload_n C 4 rfl d_Rm_root_63 rfl ?_
        obtain ⟨fsh11, hoh11, hr⟩ := of_ob hr
        obtain ⟨v12, h11, eh11, hr⟩ := of_bnd2 hr
        refine g_callV (pa := [.long x7, .long a5, .int a1, .int a2]) C hl0 (c_Rm_fits eh11) cd_Rm_315 kw_in_Rm_fits kw_se_Rm_fits hoh11 rfl rfl (by decide) rfl rfl (Nat.le_of_ble_eq_true rfl) d_Rm_root_64 ?_
        refine g_if_eq (tgt := 77) C d_Rm_root_67 (by decide) (fun z => ?_) (fun z => ?_)
        · have hr := of_if z hr
          refine g_lv [2, 3, 4, 5, 6, 7] rfl ?_
          exact bk_Rm_root_77 C T hl0 K9 hK9 h11 a0 a1 a2 a3 a5 a7 hr
        · have hr := of_el z hr
          refine g_lload C 1 rfl d_Rm_root_70 ?_
          refine g_lstore_n (lv' := [(3, .long x7), (10, .long a5), (8, .long x7), (0, .ref a0), (1, .int a1), (2, .int a2), (5, .long a5), (7, .int a7)]) C d_Rm_root_72 rfl (by decide) rfl ?_
          refine g_lload C 1 rfl d_Rm_root_73 ?_
          refine g_lstore (lv' := [(5, .long a5), (3, .long x7), (10, .long a5), (8, .long x7), (0, .ref a0), (1, .int a1), (2, .int a2), (7, .int a7)]) C d_Rm_root_75 (by decide) rfl ?_
          refine g_lv [4, 5, 6, 1, 0, 7] rfl ?_
          exact bk_Rm_root_77 C T hl0 K9 hK9 h11 a0 a1 a2 x7 a5 a7 hr
def L_Rm_root_9 : Nat → HP → Nat → Int32 → Int32 → Int64 → Int64 → Int32 → Option (Int64 × HP)
  | 0, _, _, _, _, _, _, _ => none
  | f + 1, h, a0, a1, a2, a3, a5, a7 => B_Rm_root_9 (L_Rm_root_9 f) h a0 a1 a2 a3 a5 a7
theorem lp_Rm_root_9 {l : Launch} {x : CX} {h0 h' : HP} {r' : Int64} (C : EV x b_Rm_root "PrimeKeysModel" 12 rm_Rm_root) (T : CT x (some .long) rm_Rm_root h0 (some (.long r')) h') (hl0 : x.1.2.1 = l) : ∀ (f : Nat) (h : HP) (a0 : Nat) (a1 : Int32) (a2 : Int32) (a3 : Int64) (a5 : Int64) (a7 : Int32), L_Rm_root_9 f h a0 a1 a2 a3 a5 a7 = some (r', h') → GG x 0 0 h 9 [(0, .ref a0), (1, .int a1), (2, .int a2), (3, .long a3), (5, .long a5), (7, .int a7)] [] := by
  intro f
  induction f with
  | zero => intro h a0 a1 a2 a3 a5 a7 hr; have hr : (none : Option (Int64 × HP)) = some (r', h') := hr; cases hr
  | succ f ih => intro h a0 a1 a2 a3 a5 a7 hr; exact bk_Rm_root_9 C T hl0 (L_Rm_root_9 f) ih h a0 a1 a2 a3 a5 a7 hr
def P_Rm_root (h : HP) (p0 : Nat) (p1 : Int32) (p2 : Int32) : Option (Int64 × HP) :=
  L_Rm_root_9 FU h p0 p1 p2 0 0 66
set_option maxHeartbeats 4000000 in
set_option maxRecDepth 100000 in
theorem c_Rm_root {l : Launch} {h h' : HP} {p0 p1 p2 : _} {r' : Int64} (hr : P_Rm_root h p0 p1 p2 = some (r', h')) : MP l y_Rm_root (Cond.code y_Rm_root b_Rm_root 12 (some .long) :: TB) rm_Rm_root h [.ref p0, .int p1, .int p2] (some (.long r')) h' := by
  refine MP_intro (cc := b_Rm_root) (by decide) (Nat.le_of_ble_eq_true rfl) (fun x hl0 C T hin => ?_)
  unfold P_Rm_root at hr
  show GG x 0 0 h 0 [(0, .ref p0), (1, .int p1), (2, .int p2)] []
  refine g_lconst (v := 0) C d_Rm_root_0 (by decide) ?_
  refine g_lstore_n (lv' := [(3, .long 0), (0, .ref p0), (1, .int p1), (2, .int p2)]) C d_Rm_root_1 rfl (by decide) rfl ?_
  refine g_lconst (v := 0) C d_Rm_root_2 (by decide) ?_
  refine g_lstore (lv' := [(5, .long 0), (3, .long 0), (0, .ref p0), (1, .int p1), (2, .int p2)]) C d_Rm_root_3 (by decide) rfl ?_
  refine g_bipush (v := 66) C d_Rm_root_5 (by decide) ?_
  refine g_istore (lv' := [(7, .int 66), (5, .long 0), (3, .long 0), (0, .ref p0), (1, .int p1), (2, .int p2)]) C d_Rm_root_7 (by decide) rfl ?_
  refine g_lv [3, 4, 5, 2, 1, 0] rfl ?_
  exact lp_Rm_root_9 C T hl0 FU h p0 p1 p2 0 0 66 hr
abbrev b_Rm_constants : ByteArray := prog_12_method_21_code
abbrev y_Rm_constants : MethodName := ⟨"PrimeKeysModel", "constants", "()V"⟩
theorem d_Rm_constants_0 : decode b_Rm_constants 0 = .ok (.iconst 1, 1) := by decide +kernel
theorem d_Rm_constants_1 : decode b_Rm_constants 1 = .ok (.istore_n 1, 1) := by decide +kernel
theorem d_Rm_constants_2 : decode b_Rm_constants 2 = .ok (.iconst 0, 1) := by decide +kernel
theorem d_Rm_constants_3 : decode b_Rm_constants 3 = .ok (.istore_n 2, 1) := by decide +kernel
theorem d_Rm_constants_4 : decode b_Rm_constants 4 = .ok (.iload_n 2, 1) := by decide +kernel
theorem d_Rm_constants_5 : decode b_Rm_constants 5 = .ok (.bipush 64, 2) := by decide +kernel
theorem d_Rm_constants_7 : decode b_Rm_constants 7 = .ok (.if_icmp .ge 44, 3) := by decide +kernel
theorem d_Rm_constants_10 : decode b_Rm_constants 10 = .ok (.iload_n 1, 1) := by decide +kernel
theorem d_Rm_constants_11 : decode b_Rm_constants 11 = .ok (.invokestatic 307, 3) := by decide +kernel
theorem d_Rm_constants_14 : decode b_Rm_constants 14 = .ok (.istore_n 1, 1) := by decide +kernel
theorem d_Rm_constants_15 : decode b_Rm_constants 15 = .ok (.aload_n 0, 1) := by decide +kernel
theorem d_Rm_constants_16 : decode b_Rm_constants 16 = .ok (.getfield 236, 3) := by decide +kernel
theorem d_Rm_constants_19 : decode b_Rm_constants 19 = .ok (.iload_n 2, 1) := by decide +kernel
theorem d_Rm_constants_20 : decode b_Rm_constants 20 = .ok (.aload_n 0, 1) := by decide +kernel
theorem d_Rm_constants_21 : decode b_Rm_constants 21 = .ok (.iload_n 1, 1) := by decide +kernel
theorem d_Rm_constants_22 : decode b_Rm_constants 22 = .ok (.iconst 3, 1) := by decide +kernel
theorem d_Rm_constants_23 : decode b_Rm_constants 23 = .ok (.invokevirtual 311, 3) := by decide +kernel
theorem d_Rm_constants_26 : decode b_Rm_constants 26 = .ok (.lastore, 1) := by decide +kernel
theorem d_Rm_constants_27 : decode b_Rm_constants 27 = .ok (.iload_n 2, 1) := by decide +kernel
theorem d_Rm_constants_28 : decode b_Rm_constants 28 = .ok (.bipush 8, 2) := by decide +kernel
theorem d_Rm_constants_30 : decode b_Rm_constants 30 = .ok (.if_icmp .ge 15, 3) := by decide +kernel
theorem d_Rm_constants_33 : decode b_Rm_constants 33 = .ok (.aload_n 0, 1) := by decide +kernel
theorem d_Rm_constants_34 : decode b_Rm_constants 34 = .ok (.getfield 239, 3) := by decide +kernel
theorem d_Rm_constants_37 : decode b_Rm_constants 37 = .ok (.iload_n 2, 1) := by decide +kernel
theorem d_Rm_constants_38 : decode b_Rm_constants 38 = .ok (.aload_n 0, 1) := by decide +kernel
theorem d_Rm_constants_39 : decode b_Rm_constants 39 = .ok (.iload_n 1, 1) := by decide +kernel
theorem d_Rm_constants_40 : decode b_Rm_constants 40 = .ok (.iconst 2, 1) := by decide +kernel
theorem d_Rm_constants_41 : decode b_Rm_constants 41 = .ok (.invokevirtual 311, 3) := by decide +kernel
theorem d_Rm_constants_44 : decode b_Rm_constants 44 = .ok (.lastore, 1) := by decide +kernel
theorem d_Rm_constants_45 : decode b_Rm_constants 45 = .ok (.iinc 2 1, 3) := by decide +kernel
theorem d_Rm_constants_48 : decode b_Rm_constants 48 = .ok (.goto (-44), 3) := by decide +kernel
theorem d_Rm_constants_51 : decode b_Rm_constants 51 = .ok (.return_, 1) := by decide +kernel
theorem fl_Rm_236 : FL "PrimeKeysModel" 236 8 43 := ⟨R_Rm, F_Rm, 50, rfl, u_Rm, by decide, rfl, tb_4 (List.mem_of_getElem? (i := 197) (by decide +kernel)) rfl⟩
theorem fl_Rm_239 : FL "PrimeKeysModel" 239 8 44 := ⟨R_Rm, F_Rm, 50, rfl, u_Rm, by decide, rfl, tb_4 (List.mem_of_getElem? (i := 198) (by decide +kernel)) rfl⟩
theorem cd_Rm_311 : CD "PrimeKeysModel" 311 y_Rm_root b_Rm_root 12 (some .long) 2 := ⟨tb_4 (List.mem_of_getElem? (i := 129) rfl) rfl, tb_1 (List.mem_of_getElem? (i := 13) (by decide +kernel)) rfl, tb_4 (List.mem_of_getElem? (i := 126) (by decide +kernel)) rfl, by decide +kernel⟩
theorem kw_in_Rm_root : Cond.instanceMethod y_Rm_root ∈ TB := tb_4 (List.mem_of_getElem? (i := 128) (by decide +kernel)) rfl
theorem kw_se_Rm_root : Cond.selects "PrimeKeysModel" y_Rm_root y_Rm_root ∈ TB := tb_p (q := (y_Rm_root, 50)) (by decide +kernel)
theorem cd_Rm_307 : CD "PrimeKeysModel" 307 y_Rm_prime b_Rm_prime 4 (some .int) 1 := ⟨tb_4 (List.mem_of_getElem? (i := 125) rfl) rfl, tb_1 (List.mem_of_getElem? (i := 13) (by decide +kernel)) rfl, tb_4 (List.mem_of_getElem? (i := 123) (by decide +kernel)) rfl, by decide +kernel⟩
theorem kw_st_Rm_prime : Cond.static y_Rm_prime ∈ TB := tb_4 (List.mem_of_getElem? (i := 124) (by decide +kernel)) rfl
abbrev rm_Rm_constants : Room := { frames := 3, cells := 0, slots := 0, locals := 92 }
def B_Rm_constants_45 (K4 : HP → Nat → Int32 → Int32 → Option (HP)) (h : HP) (a0 : Nat) (a1 : Int32) (a2 : Int32) : Option (HP) :=
  lt (a2 + Int32.ofInt 1) fun x7 =>
  K4 h a0 a1 x7
set_option maxHeartbeats 4000000 in
set_option maxRecDepth 100000 in
theorem bk_Rm_constants_45 {l : Launch} {x : CX} {h0 h' : HP} (C : EV x b_Rm_constants "PrimeKeysModel" 3 rm_Rm_constants) (T : CT x (none) rm_Rm_constants h0 none h') (hl0 : x.1.2.1 = l) (K4 : HP → Nat → Int32 → Int32 → Option (HP)) (hK4 : ∀ (h : HP) (a0 : Nat) (a1 : Int32) (a2 : Int32), K4 h a0 a1 a2 = some h' → GG x 0 0 h 4 [(0, .ref a0), (1, .int a1), (2, .int a2)] []) (h : HP) (a0 : Nat) (a1 : Int32) (a2 : Int32) (hr : B_Rm_constants_45 K4 h a0 a1 a2 = some h') : GG x 0 0 h 45 [(0, .ref a0), (1, .int a1), (2, .int a2)] [] := by
  unfold B_Rm_constants_45 at hr
  obtain ⟨x7, ex7⟩ : ∃ z, z = a2 + Int32.ofInt 1 := ⟨_, rfl⟩
  have hr := of_lt ex7 hr
  refine g_iinc (lv' := [(2, .int x7), (0, .ref a0), (1, .int a1)]) C 2 rfl d_Rm_constants_45 ex7.symm (by decide) rfl ?_
  refine g_goto (tgt := 4) C d_Rm_constants_48 (by decide) ?_
  refine g_lv [1, 2, 0] rfl ?_
  exact hK4 h a0 a1 x7 hr
def B_Rm_constants_4 (K4 : HP → Nat → Int32 → Int32 → Option (HP)) (h : HP) (a0 : Nat) (a1 : Int32) (a2 : Int32) : Option (HP) :=
  if 64 ≤ a2 then
  some h
  else
  bnd2 (P_Rm_prime h a1) fun v2 h1 =>
  bnd (gR h1 a0 8 43) fun k3 =>
  ob h1 a0 8 (
  bnd2 (P_Rm_root h1 a0 v2 3) fun v5 h4 =>
  bnd (stJ h4 k3 a2 v5) fun h6 =>
  if 8 ≤ a2 then
  B_Rm_constants_45 K4 h6 a0 v2 a2
  else
  bnd (gR h6 a0 8 44) fun k8 =>
  ob h6 a0 8 (
  bnd2 (P_Rm_root h6 a0 v2 2) fun v10 h9 =>
  bnd (stJ h9 k8 a2 v10) fun h11 =>
  B_Rm_constants_45 K4 h11 a0 v2 a2))
set_option maxHeartbeats 4000000 in
set_option maxRecDepth 100000 in
theorem bk_Rm_constants_4 {l : Launch} {x : CX} {h0 h' : HP} (C : EV x b_Rm_constants "PrimeKeysModel" 3 rm_Rm_constants) (T : CT x (none) rm_Rm_constants h0 none h') (hl0 : x.1.2.1 = l) (K4 : HP → Nat → Int32 → Int32 → Option (HP)) (hK4 : ∀ (h : HP) (a0 : Nat) (a1 : Int32) (a2 : Int32), K4 h a0 a1 a2 = some h' → GG x 0 0 h 4 [(0, .ref a0), (1, .int a1), (2, .int a2)] []) (h : HP) (a0 : Nat) (a1 : Int32) (a2 : Int32) (hr : B_Rm_constants_4 K4 h a0 a1 a2 = some h') : GG x 0 0 h 4 [(0, .ref a0), (1, .int a1), (2, .int a2)] [] := by
  unfold B_Rm_constants_4 at hr
  refine g_iload_n C 2 rfl d_Rm_constants_4 rfl ?_
  refine g_bipush (v := 64) C d_Rm_constants_5 (by decide) ?_
  refine g_icmp_ge (tgt := 51) C d_Rm_constants_7 (by decide) (fun z => ?_) (fun z => ?_)
  · have hr := of_if z hr
    cases hr
    exact g_vreturn C T (by decide) (by decide) d_Rm_constants_51
  · have hr := of_el z hr
    refine g_iload_n C 1 rfl d_Rm_constants_10 rfl ?_
    obtain ⟨v2, h1, eh1, hr⟩ := of_bnd2 hr
    refine g_callS (pa := [.int a1]) C hl0 (c_Rm_prime eh1) cd_Rm_307 kw_st_Rm_prime (by decide) rfl rfl (Nat.le_of_ble_eq_true rfl) d_Rm_constants_11 ?_
    refine g_istore_n (lv' := [(1, .int v2), (0, .ref a0), (2, .int a2)]) C d_Rm_constants_14 rfl (by decide) rfl ?_
    refine g_aload_n C 1 rfl d_Rm_constants_15 rfl ?_
    obtain ⟨k3, ek3, hr⟩ := of_bnd hr
    refine g_getR C fl_Rm_236 ek3 d_Rm_constants_16 ?_
    refine g_iload_n C 2 rfl d_Rm_constants_19 rfl ?_
    refine g_aload_n C 1 rfl d_Rm_constants_20 rfl ?_
    refine g_iload_n C 0 rfl d_Rm_constants_21 rfl ?_
    refine g_iconst (v := 3) C d_Rm_constants_22 (by decide) ?_
    obtain ⟨fsh4, hoh4, hr⟩ := of_ob hr
    obtain ⟨v5, h4, eh4, hr⟩ := of_bnd2 hr
    refine g_callV (pa := [.int v2, .int 3]) C hl0 (c_Rm_root eh4) cd_Rm_311 kw_in_Rm_root kw_se_Rm_root hoh4 rfl rfl (by decide) rfl rfl (Nat.le_of_ble_eq_true rfl) d_Rm_constants_23 ?_
    obtain ⟨h6, eh6, hr⟩ := of_bnd hr
    refine g_lastore C eh6 d_Rm_constants_26 ?_
    refine g_iload_n C 2 rfl d_Rm_constants_27 rfl ?_
    refine g_bipush (v := 8) C d_Rm_constants_28 (by decide) ?_
    refine g_icmp_ge (tgt := 45) C d_Rm_constants_30 (by decide) (fun z => ?_) (fun z => ?_)
    · have hr := of_if z hr
      refine g_lv [1, 0, 2] rfl ?_
      exact bk_Rm_constants_45 C T hl0 K4 hK4 h6 a0 v2 a2 hr
    · have hr := of_el z hr
      refine g_aload_n C 1 rfl d_Rm_constants_33 rfl ?_
      obtain ⟨k8, ek8, hr⟩ := of_bnd hr
      refine g_getR C fl_Rm_239 ek8 d_Rm_constants_34 ?_
      refine g_iload_n C 2 rfl d_Rm_constants_37 rfl ?_
      refine g_aload_n C 1 rfl d_Rm_constants_38 rfl ?_
      refine g_iload_n C 0 rfl d_Rm_constants_39 rfl ?_
      refine g_iconst (v := 2) C d_Rm_constants_40 (by decide) ?_
      obtain ⟨fsh9, hoh9, hr⟩ := of_ob hr
      obtain ⟨v10, h9, eh9, hr⟩ := of_bnd2 hr
      refine g_callV (pa := [.int v2, .int 2]) C hl0 (c_Rm_root eh9) cd_Rm_311 kw_in_Rm_root kw_se_Rm_root hoh9 rfl rfl (by decide) rfl rfl (Nat.le_of_ble_eq_true rfl) d_Rm_constants_41 ?_
      obtain ⟨h11, eh11, hr⟩ := of_bnd hr
      refine g_lastore C eh11 d_Rm_constants_44 ?_
      refine g_lv [1, 0, 2] rfl ?_
      exact bk_Rm_constants_45 C T hl0 K4 hK4 h11 a0 v2 a2 hr
def L_Rm_constants_4 : Nat → HP → Nat → Int32 → Int32 → Option (HP)
  | 0, _, _, _, _ => none
  | f + 1, h, a0, a1, a2 => B_Rm_constants_4 (L_Rm_constants_4 f) h a0 a1 a2
theorem lp_Rm_constants_4 {l : Launch} {x : CX} {h0 h' : HP} (C : EV x b_Rm_constants "PrimeKeysModel" 3 rm_Rm_constants) (T : CT x (none) rm_Rm_constants h0 none h') (hl0 : x.1.2.1 = l) : ∀ (f : Nat) (h : HP) (a0 : Nat) (a1 : Int32) (a2 : Int32), L_Rm_constants_4 f h a0 a1 a2 = some h' → GG x 0 0 h 4 [(0, .ref a0), (1, .int a1), (2, .int a2)] [] := by
  intro f
  induction f with
  | zero => intro h a0 a1 a2 hr; have hr : (none : Option (HP)) = some h' := hr; cases hr
  | succ f ih => intro h a0 a1 a2 hr; exact bk_Rm_constants_4 C T hl0 (L_Rm_constants_4 f) ih h a0 a1 a2 hr
def P_Rm_constants (h : HP) (p0 : Nat) : Option (HP) :=
  L_Rm_constants_4 FU h p0 1 0
set_option maxHeartbeats 4000000 in
set_option maxRecDepth 100000 in
theorem c_Rm_constants {l : Launch} {h h' : HP} {p0 : _} (hr : P_Rm_constants h p0 = some h') : MP l y_Rm_constants (Cond.code y_Rm_constants b_Rm_constants 3 none :: TB) rm_Rm_constants h [.ref p0] none h' := by
  refine MP_intro (cc := b_Rm_constants) (by decide) (Nat.le_of_ble_eq_true rfl) (fun x hl0 C T hin => ?_)
  unfold P_Rm_constants at hr
  show GG x 0 0 h 0 [(0, .ref p0)] []
  refine g_iconst (v := 1) C d_Rm_constants_0 (by decide) ?_
  refine g_istore_n (lv' := [(1, .int 1), (0, .ref p0)]) C d_Rm_constants_1 rfl (by decide) rfl ?_
  refine g_iconst (v := 0) C d_Rm_constants_2 (by decide) ?_
  refine g_istore_n (lv' := [(2, .int 0), (1, .int 1), (0, .ref p0)]) C d_Rm_constants_3 rfl (by decide) rfl ?_
  refine g_lv [2, 1, 0] rfl ?_
  exact lp_Rm_constants_4 C T hl0 FU h p0 1 0 hr
