abbrev b_Rm_feed : ByteArray := prog_12_method_40_code
abbrev y_Rm_feed : MethodName := ⟨"PrimeKeysModel", "feed", "(IIIII)I"⟩
theorem d_Rm_feed_0 : decode b_Rm_feed 0 = .ok (.aload_n 0, 1) := by decide +kernel
theorem d_Rm_feed_1 : decode b_Rm_feed 1 = .ok (.iconst 0, 1) := by decide +kernel
theorem d_Rm_feed_2 : decode b_Rm_feed 2 = .ok (.putfield 264, 3) := by decide +kernel
theorem d_Rm_feed_5 : decode b_Rm_feed 5 = .ok (.aload_n 0, 1) := by decide +kernel
theorem d_Rm_feed_6 : decode b_Rm_feed 6 = .ok (.getfield 389, 3) := by decide +kernel
theorem d_Rm_feed_9 : decode b_Rm_feed 9 = .ok (.ldc_w 392, 3) := by decide +kernel
theorem d_Rm_feed_12 : decode b_Rm_feed 12 = .ok (.if_icmp .le 9, 3) := by decide +kernel
theorem d_Rm_feed_15 : decode b_Rm_feed 15 = .ok (.aload_n 0, 1) := by decide +kernel
theorem d_Rm_feed_16 : decode b_Rm_feed 16 = .ok (.iconst 1, 1) := by decide +kernel
theorem d_Rm_feed_17 : decode b_Rm_feed 17 = .ok (.invokevirtual 393, 3) := by decide +kernel
theorem d_Rm_feed_20 : decode b_Rm_feed 20 = .ok (.ireturn, 1) := by decide +kernel
theorem d_Rm_feed_21 : decode b_Rm_feed 21 = .ok (.iconst 0, 1) := by decide +kernel
theorem d_Rm_feed_22 : decode b_Rm_feed 22 = .ok (.istore 6, 2) := by decide +kernel
theorem d_Rm_feed_24 : decode b_Rm_feed 24 = .ok (.iload 6, 2) := by decide +kernel
theorem d_Rm_feed_26 : decode b_Rm_feed 26 = .ok (.bipush 20, 2) := by decide +kernel
theorem d_Rm_feed_28 : decode b_Rm_feed 28 = .ok (.if_icmp .ge 82, 3) := by decide +kernel
theorem d_Rm_feed_31 : decode b_Rm_feed 31 = .ok (.iload 6, 2) := by decide +kernel
theorem d_Rm_feed_33 : decode b_Rm_feed 33 = .ok (.iconst 4, 1) := by decide +kernel
theorem d_Rm_feed_34 : decode b_Rm_feed 34 = .ok (.if_icmp .ge 7, 3) := by decide +kernel
theorem d_Rm_feed_37 : decode b_Rm_feed 37 = .ok (.iload_n 1, 1) := by decide +kernel
theorem d_Rm_feed_38 : decode b_Rm_feed 38 = .ok (.goto 39, 3) := by decide +kernel
theorem d_Rm_feed_41 : decode b_Rm_feed 41 = .ok (.iload 6, 2) := by decide +kernel
theorem d_Rm_feed_43 : decode b_Rm_feed 43 = .ok (.bipush 8, 2) := by decide +kernel
theorem d_Rm_feed_45 : decode b_Rm_feed 45 = .ok (.if_icmp .ge 7, 3) := by decide +kernel
theorem d_Rm_feed_48 : decode b_Rm_feed 48 = .ok (.iload_n 2, 1) := by decide +kernel
theorem d_Rm_feed_49 : decode b_Rm_feed 49 = .ok (.goto 28, 3) := by decide +kernel
theorem d_Rm_feed_52 : decode b_Rm_feed 52 = .ok (.iload 6, 2) := by decide +kernel
theorem d_Rm_feed_54 : decode b_Rm_feed 54 = .ok (.bipush 12, 2) := by decide +kernel
theorem d_Rm_feed_56 : decode b_Rm_feed 56 = .ok (.if_icmp .ge 7, 3) := by decide +kernel
theorem d_Rm_feed_59 : decode b_Rm_feed 59 = .ok (.iload_n 3, 1) := by decide +kernel
theorem d_Rm_feed_60 : decode b_Rm_feed 60 = .ok (.goto 17, 3) := by decide +kernel
theorem d_Rm_feed_63 : decode b_Rm_feed 63 = .ok (.iload 6, 2) := by decide +kernel
theorem d_Rm_feed_65 : decode b_Rm_feed 65 = .ok (.bipush 16, 2) := by decide +kernel
theorem d_Rm_feed_67 : decode b_Rm_feed 67 = .ok (.if_icmp .ge 8, 3) := by decide +kernel
theorem d_Rm_feed_70 : decode b_Rm_feed 70 = .ok (.iload 4, 2) := by decide +kernel
theorem d_Rm_feed_72 : decode b_Rm_feed 72 = .ok (.goto 5, 3) := by decide +kernel
theorem d_Rm_feed_75 : decode b_Rm_feed 75 = .ok (.iload 5, 2) := by decide +kernel
theorem d_Rm_feed_77 : decode b_Rm_feed 77 = .ok (.istore 7, 2) := by decide +kernel
theorem d_Rm_feed_79 : decode b_Rm_feed 79 = .ok (.aload_n 0, 1) := by decide +kernel
theorem d_Rm_feed_80 : decode b_Rm_feed 80 = .ok (.getfield 8, 3) := by decide +kernel
theorem d_Rm_feed_83 : decode b_Rm_feed 83 = .ok (.aload_n 0, 1) := by decide +kernel
theorem d_Rm_feed_84 : decode b_Rm_feed 84 = .ok (.getfield 389, 3) := by decide +kernel
theorem d_Rm_feed_87 : decode b_Rm_feed 87 = .ok (.iload 6, 2) := by decide +kernel
theorem d_Rm_feed_89 : decode b_Rm_feed 89 = .ok (.iadd, 1) := by decide +kernel
theorem d_Rm_feed_90 : decode b_Rm_feed 90 = .ok (.iload 7, 2) := by decide +kernel
theorem d_Rm_feed_92 : decode b_Rm_feed 92 = .ok (.bipush 8, 2) := by decide +kernel
theorem d_Rm_feed_94 : decode b_Rm_feed 94 = .ok (.iconst 3, 1) := by decide +kernel
theorem d_Rm_feed_95 : decode b_Rm_feed 95 = .ok (.iload 6, 2) := by decide +kernel
theorem d_Rm_feed_97 : decode b_Rm_feed 97 = .ok (.iconst 4, 1) := by decide +kernel
theorem d_Rm_feed_98 : decode b_Rm_feed 98 = .ok (.irem, 1) := by decide +kernel
theorem d_Rm_feed_99 : decode b_Rm_feed 99 = .ok (.isub, 1) := by decide +kernel
theorem d_Rm_feed_100 : decode b_Rm_feed 100 = .ok (.imul, 1) := by decide +kernel
theorem d_Rm_feed_101 : decode b_Rm_feed 101 = .ok (.ishr, 1) := by decide +kernel
theorem d_Rm_feed_102 : decode b_Rm_feed 102 = .ok (.i2b, 1) := by decide +kernel
theorem d_Rm_feed_103 : decode b_Rm_feed 103 = .ok (.bastore, 1) := by decide +kernel
theorem d_Rm_feed_104 : decode b_Rm_feed 104 = .ok (.iinc 6 1, 3) := by decide +kernel
theorem d_Rm_feed_107 : decode b_Rm_feed 107 = .ok (.goto (-83), 3) := by decide +kernel
theorem d_Rm_feed_110 : decode b_Rm_feed 110 = .ok (.aload_n 0, 1) := by decide +kernel
theorem d_Rm_feed_111 : decode b_Rm_feed 111 = .ok (.dup, 1) := by decide +kernel
theorem d_Rm_feed_112 : decode b_Rm_feed 112 = .ok (.getfield 389, 3) := by decide +kernel
theorem d_Rm_feed_115 : decode b_Rm_feed 115 = .ok (.bipush 20, 2) := by decide +kernel
theorem d_Rm_feed_117 : decode b_Rm_feed 117 = .ok (.iadd, 1) := by decide +kernel
theorem d_Rm_feed_118 : decode b_Rm_feed 118 = .ok (.putfield 389, 3) := by decide +kernel
theorem d_Rm_feed_121 : decode b_Rm_feed 121 = .ok (.aload_n 0, 1) := by decide +kernel
theorem d_Rm_feed_122 : decode b_Rm_feed 122 = .ok (.getfield 389, 3) := by decide +kernel
theorem d_Rm_feed_125 : decode b_Rm_feed 125 = .ok (.ireturn, 1) := by decide +kernel
theorem fl_Rm_389 : FL "PrimeKeysModel" 389 8 5 := ⟨R_Rm, F_Rm, 50, rfl, u_Rm, by decide, rfl, tb_4 (List.mem_of_getElem? (i := 159) (by decide +kernel)) rfl⟩
theorem fl_Rm_8 : FL "PrimeKeysModel" 8 8 1 := ⟨R_Rm, F_Rm, 50, rfl, u_Rm, by decide, rfl, tb_4 (List.mem_of_getElem? (i := 155) (by decide +kernel)) rfl⟩
theorem fp_Rm_389 : FP "PrimeKeysModel" 389 8 5 .int false := ⟨R_Rm, F_Rm, 50, t_Rm, rfl, u_Rm, by decide, rfl, tb_4 (List.mem_of_getElem? (i := 159) (by decide +kernel)) rfl, t_Rm_ok, n_Rm, rfl, by decide +kernel⟩
theorem kw_20 : Cond.constant "PrimeKeysModel" 392 65516 ∈ TB := tb_5 (List.mem_of_getElem? (i := 73) (by decide +kernel)) rfl
theorem cd_Rm_393 : CD "PrimeKeysModel" 393 y_Rm_fail b_Rm_fail 2 (some .int) 1 := ⟨tb_5 (List.mem_of_getElem? (i := 77) rfl) rfl, tb_1 (List.mem_of_getElem? (i := 13) (by decide +kernel)) rfl, tb_5 (List.mem_of_getElem? (i := 74) (by decide +kernel)) rfl, by decide +kernel⟩
theorem kw_in_Rm_fail : Cond.instanceMethod y_Rm_fail ∈ TB := tb_5 (List.mem_of_getElem? (i := 76) (by decide +kernel)) rfl
theorem kw_se_Rm_fail : Cond.selects "PrimeKeysModel" y_Rm_fail y_Rm_fail ∈ TB := tb_p (q := (y_Rm_fail, 50)) (by decide +kernel)
abbrev rm_Rm_feed : Room := { frames := 1, cells := 0, slots := 0, locals := 21 }
def B_Rm_feed_24 (K24 : HP → Nat → Int32 → Int32 → Int32 → Int32 → Int32 → Int32 → Option (Int32 × HP)) (h : HP) (a0 : Nat) (a1 : Int32) (a2 : Int32) (a3 : Int32) (a4 : Int32) (a5 : Int32) (a6 : Int32) : Option (Int32 × HP) :=
  if 20 ≤ a6 then
  bnd (gI h a0 8 5) fun v3 =>
  bnd (pV h a0 8 5 (.int (v3 + 20))) fun h4 =>
  bnd (gI h4 a0 8 5) fun v5 =>
  some (v5, h4)
  else
  if 4 ≤ a6 then
  if 8 ≤ a6 then
  if 12 ≤ a6 then
  if 16 ≤ a6 then
  bnd (gR h a0 8 1) fun k6 =>
  bnd (gI h a0 8 5) fun v7 =>
  bnd (stB h k6 (v7 + a6) ((Int32.toInt8 (a5 >>> ((8 * (3 - (a6 - a6 / 4 * 4))) &&& 31))).toInt32)) fun h8 =>
  lt (a6 + Int32.ofInt 1) fun x9 =>
  K24 h8 a0 a1 a2 a3 a4 a5 x9
  else
  bnd (gR h a0 8 1) fun k10 =>
  bnd (gI h a0 8 5) fun v11 =>
  bnd (stB h k10 (v11 + a6) ((Int32.toInt8 (a4 >>> ((8 * (3 - (a6 - a6 / 4 * 4))) &&& 31))).toInt32)) fun h12 =>
  lt (a6 + Int32.ofInt 1) fun x13 =>
  K24 h12 a0 a1 a2 a3 a4 a5 x13
  else
  bnd (gR h a0 8 1) fun k14 =>
  bnd (gI h a0 8 5) fun v15 =>
  bnd (stB h k14 (v15 + a6) ((Int32.toInt8 (a3 >>> ((8 * (3 - (a6 - a6 / 4 * 4))) &&& 31))).toInt32)) fun h16 =>
  lt (a6 + Int32.ofInt 1) fun x17 =>
  K24 h16 a0 a1 a2 a3 a4 a5 x17
  else
  bnd (gR h a0 8 1) fun k18 =>
  bnd (gI h a0 8 5) fun v19 =>
  bnd (stB h k18 (v19 + a6) ((Int32.toInt8 (a2 >>> ((8 * (3 - (a6 - a6 / 4 * 4))) &&& 31))).toInt32)) fun h20 =>
  lt (a6 + Int32.ofInt 1) fun x21 =>
  K24 h20 a0 a1 a2 a3 a4 a5 x21
  else
  bnd (gR h a0 8 1) fun k22 =>
  bnd (gI h a0 8 5) fun v23 =>
  bnd (stB h k22 (v23 + a6) ((Int32.toInt8 (a1 >>> ((8 * (3 - (a6 - a6 / 4 * 4))) &&& 31))).toInt32)) fun h24 =>
  lt (a6 + Int32.ofInt 1) fun x25 =>
  K24 h24 a0 a1 a2 a3 a4 a5 x25
set_option maxHeartbeats 4000000 in
set_option maxRecDepth 100000 in
theorem bk_Rm_feed_24 {l : Launch} {x : CX} {h0 h' : HP} {r' : Int32} (C : EV x b_Rm_feed "PrimeKeysModel" 8 rm_Rm_feed) (T : CT x (some .int) rm_Rm_feed h0 (some (.int r')) h') (hl0 : x.1.2.1 = l) (K24 : HP → Nat → Int32 → Int32 → Int32 → Int32 → Int32 → Int32 → Option (Int32 × HP)) (hK24 : ∀ (h : HP) (a0 : Nat) (a1 : Int32) (a2 : Int32) (a3 : Int32) (a4 : Int32) (a5 : Int32) (a6 : Int32), K24 h a0 a1 a2 a3 a4 a5 a6 = some (r', h') → GG x 0 0 h 24 [(0, .ref a0), (1, .int a1), (2, .int a2), (3, .int a3), (4, .int a4), (5, .int a5), (6, .int a6)] []) (h : HP) (a0 : Nat) (a1 : Int32) (a2 : Int32) (a3 : Int32) (a4 : Int32) (a5 : Int32) (a6 : Int32) (hr : B_Rm_feed_24 K24 h a0 a1 a2 a3 a4 a5 a6 = some (r', h')) : GG x 0 0 h 24 [(0, .ref a0), (1, .int a1), (2, .int a2), (3, .int a3), (4, .int a4), (5, .int a5), (6, .int a6)] [] := by
  unfold B_Rm_feed_24 at hr
  refine g_iload C 6 rfl d_Rm_feed_24 ?_
  refine g_bipush (v := 20) C d_Rm_feed_26 (by decide) ?_
  refine g_icmp_ge (tgt := 110) C d_Rm_feed_28 (by decide) (fun z => ?_) (fun z => ?_)
  · have hr := of_if z hr
    refine g_aload_n C 0 rfl d_Rm_feed_110 rfl ?_
    refine g_dup C d_Rm_feed_111 rfl ?_
    obtain ⟨v3, ev3, hr⟩ := of_bnd hr
    refine g_getI C fl_Rm_389 ev3 d_Rm_feed_112 ?_
    refine g_bipush (v := 20) C d_Rm_feed_115 (by decide) ?_
    refine g_iadd C d_Rm_feed_117 ?_
    obtain ⟨h4, eh4, hr⟩ := of_bnd hr
    refine g_putI C fp_Rm_389 eh4 d_Rm_feed_118 ?_
    refine g_aload_n C 0 rfl d_Rm_feed_121 rfl ?_
    obtain ⟨v5, ev5, hr⟩ := of_bnd hr
    refine g_getI C fl_Rm_389 ev5 d_Rm_feed_122 ?_
    cases hr
    exact g_ireturn C T rfl (by decide) (by decide) d_Rm_feed_125
  · have hr := of_el z hr
    refine g_iload C 6 rfl d_Rm_feed_31 ?_
    refine g_iconst (v := 4) C d_Rm_feed_33 (by decide) ?_
    refine g_icmp_ge (tgt := 41) C d_Rm_feed_34 (by decide) (fun z => ?_) (fun z => ?_)
    · have hr := of_if z hr
      refine g_iload C 6 rfl d_Rm_feed_41 ?_
      refine g_bipush (v := 8) C d_Rm_feed_43 (by decide) ?_
      refine g_icmp_ge (tgt := 52) C d_Rm_feed_45 (by decide) (fun z => ?_) (fun z => ?_)
      · have hr := of_if z hr
        refine g_iload C 6 rfl d_Rm_feed_52 ?_
        refine g_bipush (v := 12) C d_Rm_feed_54 (by decide) ?_
        refine g_icmp_ge (tgt := 63) C d_Rm_feed_56 (by decide) (fun z => ?_) (fun z => ?_)
        · have hr := of_if z hr
          refine g_iload C 6 rfl d_Rm_feed_63 ?_
          refine g_bipush (v := 16) C d_Rm_feed_65 (by decide) ?_
          refine g_icmp_ge (tgt := 75) C d_Rm_feed_67 (by decide) (fun z => ?_) (fun z => ?_)
          · have hr := of_if z hr
            refine g_iload C 5 rfl d_Rm_feed_75 ?_
            refine g_istore (lv' := [(7, .int a5), (0, .ref a0), (1, .int a1), (2, .int a2), (3, .int a3), (4, .int a4), (5, .int a5), (6, .int a6)]) C d_Rm_feed_77 (by decide) rfl ?_
            refine g_aload_n C 1 rfl d_Rm_feed_79 rfl ?_
            obtain ⟨k6, ek6, hr⟩ := of_bnd hr
            refine g_getR C fl_Rm_8 ek6 d_Rm_feed_80 ?_
            refine g_aload_n C 1 rfl d_Rm_feed_83 rfl ?_
            obtain ⟨v7, ev7, hr⟩ := of_bnd hr
            refine g_getI C fl_Rm_389 ev7 d_Rm_feed_84 ?_
            refine g_iload C 7 rfl d_Rm_feed_87 ?_
            refine g_iadd C d_Rm_feed_89 ?_
            refine g_iload C 0 rfl d_Rm_feed_90 ?_
            refine g_bipush (v := 8) C d_Rm_feed_92 (by decide) ?_
            refine g_iconst (v := 3) C d_Rm_feed_94 (by decide) ?_
            refine g_iload C 7 rfl d_Rm_feed_95 ?_
            refine g_iconst (v := 4) C d_Rm_feed_97 (by decide) ?_
            refine g_irem C d_Rm_feed_98 (by decide) ?_
            refine g_isub C d_Rm_feed_99 ?_
            refine g_imul C d_Rm_feed_100 ?_
            refine g_ishr C d_Rm_feed_101 ?_
            refine g_i2b C d_Rm_feed_102 ?_
            obtain ⟨h8, eh8, hr⟩ := of_bnd hr
            refine g_bastore C eh8 d_Rm_feed_103 ?_
            obtain ⟨x9, ex9⟩ : ∃ z, z = a6 + Int32.ofInt 1 := ⟨_, rfl⟩
            have hr := of_lt ex9 hr
            refine g_iinc (lv' := [(6, .int x9), (7, .int a5), (0, .ref a0), (1, .int a1), (2, .int a2), (3, .int a3), (4, .int a4), (5, .int a5)]) C 7 rfl d_Rm_feed_104 ex9.symm (by decide) rfl ?_
            refine g_goto (tgt := 24) C d_Rm_feed_107 (by decide) ?_
            refine g_lv [2, 3, 4, 5, 6, 7, 0] rfl ?_
            exact hK24 h8 a0 a1 a2 a3 a4 a5 x9 hr
          · have hr := of_el z hr
            refine g_iload C 4 rfl d_Rm_feed_70 ?_
            refine g_goto (tgt := 77) C d_Rm_feed_72 (by decide) ?_
            refine g_istore (lv' := [(7, .int a4), (0, .ref a0), (1, .int a1), (2, .int a2), (3, .int a3), (4, .int a4), (5, .int a5), (6, .int a6)]) C d_Rm_feed_77 (by decide) rfl ?_
            refine g_aload_n C 1 rfl d_Rm_feed_79 rfl ?_
            obtain ⟨k10, ek10, hr⟩ := of_bnd hr
            refine g_getR C fl_Rm_8 ek10 d_Rm_feed_80 ?_
            refine g_aload_n C 1 rfl d_Rm_feed_83 rfl ?_
            obtain ⟨v11, ev11, hr⟩ := of_bnd hr
            refine g_getI C fl_Rm_389 ev11 d_Rm_feed_84 ?_
            refine g_iload C 7 rfl d_Rm_feed_87 ?_
            refine g_iadd C d_Rm_feed_89 ?_
            refine g_iload C 0 rfl d_Rm_feed_90 ?_
            refine g_bipush (v := 8) C d_Rm_feed_92 (by decide) ?_
            refine g_iconst (v := 3) C d_Rm_feed_94 (by decide) ?_
            refine g_iload C 7 rfl d_Rm_feed_95 ?_
            refine g_iconst (v := 4) C d_Rm_feed_97 (by decide) ?_
            refine g_irem C d_Rm_feed_98 (by decide) ?_
            refine g_isub C d_Rm_feed_99 ?_
            refine g_imul C d_Rm_feed_100 ?_
            refine g_ishr C d_Rm_feed_101 ?_
            refine g_i2b C d_Rm_feed_102 ?_
            obtain ⟨h12, eh12, hr⟩ := of_bnd hr
            refine g_bastore C eh12 d_Rm_feed_103 ?_
            obtain ⟨x13, ex13⟩ : ∃ z, z = a6 + Int32.ofInt 1 := ⟨_, rfl⟩
            have hr := of_lt ex13 hr
            refine g_iinc (lv' := [(6, .int x13), (7, .int a4), (0, .ref a0), (1, .int a1), (2, .int a2), (3, .int a3), (4, .int a4), (5, .int a5)]) C 7 rfl d_Rm_feed_104 ex13.symm (by decide) rfl ?_
            refine g_goto (tgt := 24) C d_Rm_feed_107 (by decide) ?_
            refine g_lv [2, 3, 4, 5, 6, 7, 0] rfl ?_
            exact hK24 h12 a0 a1 a2 a3 a4 a5 x13 hr
        · have hr := of_el z hr
          refine g_iload_n C 3 rfl d_Rm_feed_59 rfl ?_
          refine g_goto (tgt := 77) C d_Rm_feed_60 (by decide) ?_
          refine g_istore (lv' := [(7, .int a3), (0, .ref a0), (1, .int a1), (2, .int a2), (3, .int a3), (4, .int a4), (5, .int a5), (6, .int a6)]) C d_Rm_feed_77 (by decide) rfl ?_
          refine g_aload_n C 1 rfl d_Rm_feed_79 rfl ?_
          obtain ⟨k14, ek14, hr⟩ := of_bnd hr
          refine g_getR C fl_Rm_8 ek14 d_Rm_feed_80 ?_
          refine g_aload_n C 1 rfl d_Rm_feed_83 rfl ?_
          obtain ⟨v15, ev15, hr⟩ := of_bnd hr
          refine g_getI C fl_Rm_389 ev15 d_Rm_feed_84 ?_
          refine g_iload C 7 rfl d_Rm_feed_87 ?_
          refine g_iadd C d_Rm_feed_89 ?_
          refine g_iload C 0 rfl d_Rm_feed_90 ?_
          refine g_bipush (v := 8) C d_Rm_feed_92 (by decide) ?_
          refine g_iconst (v := 3) C d_Rm_feed_94 (by decide) ?_
          refine g_iload C 7 rfl d_Rm_feed_95 ?_
          refine g_iconst (v := 4) C d_Rm_feed_97 (by decide) ?_
          refine g_irem C d_Rm_feed_98 (by decide) ?_
          refine g_isub C d_Rm_feed_99 ?_
          refine g_imul C d_Rm_feed_100 ?_
          refine g_ishr C d_Rm_feed_101 ?_
          refine g_i2b C d_Rm_feed_102 ?_
          obtain ⟨h16, eh16, hr⟩ := of_bnd hr
          refine g_bastore C eh16 d_Rm_feed_103 ?_
          obtain ⟨x17, ex17⟩ : ∃ z, z = a6 + Int32.ofInt 1 := ⟨_, rfl⟩
          have hr := of_lt ex17 hr
          refine g_iinc (lv' := [(6, .int x17), (7, .int a3), (0, .ref a0), (1, .int a1), (2, .int a2), (3, .int a3), (4, .int a4), (5, .int a5)]) C 7 rfl d_Rm_feed_104 ex17.symm (by decide) rfl ?_
          refine g_goto (tgt := 24) C d_Rm_feed_107 (by decide) ?_
          refine g_lv [2, 3, 4, 5, 6, 7, 0] rfl ?_
          exact hK24 h16 a0 a1 a2 a3 a4 a5 x17 hr
      · have hr := of_el z hr
        refine g_iload_n C 2 rfl d_Rm_feed_48 rfl ?_
        refine g_goto (tgt := 77) C d_Rm_feed_49 (by decide) ?_
        refine g_istore (lv' := [(7, .int a2), (0, .ref a0), (1, .int a1), (2, .int a2), (3, .int a3), (4, .int a4), (5, .int a5), (6, .int a6)]) C d_Rm_feed_77 (by decide) rfl ?_
        refine g_aload_n C 1 rfl d_Rm_feed_79 rfl ?_
        obtain ⟨k18, ek18, hr⟩ := of_bnd hr
        refine g_getR C fl_Rm_8 ek18 d_Rm_feed_80 ?_
        refine g_aload_n C 1 rfl d_Rm_feed_83 rfl ?_
        obtain ⟨v19, ev19, hr⟩ := of_bnd hr
        refine g_getI C fl_Rm_389 ev19 d_Rm_feed_84 ?_
        refine g_iload C 7 rfl d_Rm_feed_87 ?_
        refine g_iadd C d_Rm_feed_89 ?_
        refine g_iload C 0 rfl d_Rm_feed_90 ?_
        refine g_bipush (v := 8) C d_Rm_feed_92 (by decide) ?_
        refine g_iconst (v := 3) C d_Rm_feed_94 (by decide) ?_
        refine g_iload C 7 rfl d_Rm_feed_95 ?_
        refine g_iconst (v := 4) C d_Rm_feed_97 (by decide) ?_
        refine g_irem C d_Rm_feed_98 (by decide) ?_
        refine g_isub C d_Rm_feed_99 ?_
        refine g_imul C d_Rm_feed_100 ?_
        refine g_ishr C d_Rm_feed_101 ?_
        refine g_i2b C d_Rm_feed_102 ?_
        obtain ⟨h20, eh20, hr⟩ := of_bnd hr
        refine g_bastore C eh20 d_Rm_feed_103 ?_
        obtain ⟨x21, ex21⟩ : ∃ z, z = a6 + Int32.ofInt 1 := ⟨_, rfl⟩
        have hr := of_lt ex21 hr
        refine g_iinc (lv' := [(6, .int x21), (7, .int a2), (0, .ref a0), (1, .int a1), (2, .int a2), (3, .int a3), (4, .int a4), (5, .int a5)]) C 7 rfl d_Rm_feed_104 ex21.symm (by decide) rfl ?_
        refine g_goto (tgt := 24) C d_Rm_feed_107 (by decide) ?_
        refine g_lv [2, 3, 4, 5, 6, 7, 0] rfl ?_
        exact hK24 h20 a0 a1 a2 a3 a4 a5 x21 hr
    · have hr := of_el z hr
      refine g_iload_n C 1 rfl d_Rm_feed_37 rfl ?_
      refine g_goto (tgt := 77) C d_Rm_feed_38 (by decide) ?_
      refine g_istore (lv' := [(7, .int a1), (0, .ref a0), (1, .int a1), (2, .int a2), (3, .int a3), (4, .int a4), (5, .int a5), (6, .int a6)]) C d_Rm_feed_77 (by decide) rfl ?_
      refine g_aload_n C 1 rfl d_Rm_feed_79 rfl ?_
      obtain ⟨k22, ek22, hr⟩ := of_bnd hr
      refine g_getR C fl_Rm_8 ek22 d_Rm_feed_80 ?_
      refine g_aload_n C 1 rfl d_Rm_feed_83 rfl ?_
      obtain ⟨v23, ev23, hr⟩ := of_bnd hr
      refine g_getI C fl_Rm_389 ev23 d_Rm_feed_84 ?_
      refine g_iload C 7 rfl d_Rm_feed_87 ?_
      refine g_iadd C d_Rm_feed_89 ?_
      refine g_iload C 0 rfl d_Rm_feed_90 ?_
      refine g_bipush (v := 8) C d_Rm_feed_92 (by decide) ?_
      refine g_iconst (v := 3) C d_Rm_feed_94 (by decide) ?_
      refine g_iload C 7 rfl d_Rm_feed_95 ?_
      refine g_iconst (v := 4) C d_Rm_feed_97 (by decide) ?_
      refine g_irem C d_Rm_feed_98 (by decide) ?_
      refine g_isub C d_Rm_feed_99 ?_
      refine g_imul C d_Rm_feed_100 ?_
      refine g_ishr C d_Rm_feed_101 ?_
      refine g_i2b C d_Rm_feed_102 ?_
      obtain ⟨h24, eh24, hr⟩ := of_bnd hr
      refine g_bastore C eh24 d_Rm_feed_103 ?_
      obtain ⟨x25, ex25⟩ : ∃ z, z = a6 + Int32.ofInt 1 := ⟨_, rfl⟩
      have hr := of_lt ex25 hr
      refine g_iinc (lv' := [(6, .int x25), (7, .int a1), (0, .ref a0), (1, .int a1), (2, .int a2), (3, .int a3), (4, .int a4), (5, .int a5)]) C 7 rfl d_Rm_feed_104 ex25.symm (by decide) rfl ?_
      refine g_goto (tgt := 24) C d_Rm_feed_107 (by decide) ?_
      refine g_lv [2, 3, 4, 5, 6, 7, 0] rfl ?_
      exact hK24 h24 a0 a1 a2 a3 a4 a5 x25 hr
def L_Rm_feed_24 : Nat → HP → Nat → Int32 → Int32 → Int32 → Int32 → Int32 → Int32 → Option (Int32 × HP)
  | 0, _, _, _, _, _, _, _, _ => none
  | f + 1, h, a0, a1, a2, a3, a4, a5, a6 => B_Rm_feed_24 (L_Rm_feed_24 f) h a0 a1 a2 a3 a4 a5 a6
theorem lp_Rm_feed_24 {l : Launch} {x : CX} {h0 h' : HP} {r' : Int32} (C : EV x b_Rm_feed "PrimeKeysModel" 8 rm_Rm_feed) (T : CT x (some .int) rm_Rm_feed h0 (some (.int r')) h') (hl0 : x.1.2.1 = l) : ∀ (f : Nat) (h : HP) (a0 : Nat) (a1 : Int32) (a2 : Int32) (a3 : Int32) (a4 : Int32) (a5 : Int32) (a6 : Int32), L_Rm_feed_24 f h a0 a1 a2 a3 a4 a5 a6 = some (r', h') → GG x 0 0 h 24 [(0, .ref a0), (1, .int a1), (2, .int a2), (3, .int a3), (4, .int a4), (5, .int a5), (6, .int a6)] [] := by
  intro f
  induction f with
  | zero => intro h a0 a1 a2 a3 a4 a5 a6 hr; have hr : (none : Option (Int32 × HP)) = some (r', h') := hr; cases hr
  | succ f ih => intro h a0 a1 a2 a3 a4 a5 a6 hr; exact bk_Rm_feed_24 C T hl0 (L_Rm_feed_24 f) ih h a0 a1 a2 a3 a4 a5 a6 hr
def P_Rm_feed (h : HP) (p0 : Nat) (p1 : Int32) (p2 : Int32) (p3 : Int32) (p4 : Int32) (p5 : Int32) : Option (Int32 × HP) :=
  bnd (pV h p0 8 0 (.int 0)) fun h1 =>
  bnd (gI h1 p0 8 5) fun v2 =>
  if v2 ≤ 65516 then
  L_Rm_feed_24 FU h1 p0 p1 p2 p3 p4 p5 0
  else
  ob h1 p0 8 (
  bnd2 (P_Rm_fail h1 p0 1) fun v27 h26 =>
  some (v27, h26))
set_option maxHeartbeats 4000000 in
set_option maxRecDepth 100000 in
theorem c_Rm_feed {l : Launch} {h h' : HP} {p0 p1 p2 p3 p4 p5 : _} {r' : Int32} (hr : P_Rm_feed h p0 p1 p2 p3 p4 p5 = some (r', h')) : MP l y_Rm_feed (Cond.code y_Rm_feed b_Rm_feed 8 (some .int) :: TB) rm_Rm_feed h [.ref p0, .int p1, .int p2, .int p3, .int p4, .int p5] (some (.int r')) h' := by
  refine MP_intro (cc := b_Rm_feed) (by decide) (Nat.le_of_ble_eq_true rfl) (fun x hl0 C T hin => ?_)
  unfold P_Rm_feed at hr
  show GG x 0 0 h 0 [(0, .ref p0), (1, .int p1), (2, .int p2), (3, .int p3), (4, .int p4), (5, .int p5)] []
  refine g_aload_n C 0 rfl d_Rm_feed_0 rfl ?_
  refine g_iconst (v := 0) C d_Rm_feed_1 (by decide) ?_
  obtain ⟨h1, eh1, hr⟩ := of_bnd hr
  refine g_putI C fp_Rm_264 eh1 d_Rm_feed_2 ?_
  refine g_aload_n C 0 rfl d_Rm_feed_5 rfl ?_
  obtain ⟨v2, ev2, hr⟩ := of_bnd hr
  refine g_getI C fl_Rm_389 ev2 d_Rm_feed_6 ?_
  refine g_ldcw (v := 65516) C d_Rm_feed_9 kw_20 ?_
  refine g_icmp_le (tgt := 21) C d_Rm_feed_12 (by decide) (fun z => ?_) (fun z => ?_)
  · have hr := of_if z hr
    refine g_iconst (v := 0) C d_Rm_feed_21 (by decide) ?_
    refine g_istore (lv' := [(6, .int 0), (0, .ref p0), (1, .int p1), (2, .int p2), (3, .int p3), (4, .int p4), (5, .int p5)]) C d_Rm_feed_22 (by decide) rfl ?_
    refine g_lv [1, 2, 3, 4, 5, 6, 0] rfl ?_
    exact lp_Rm_feed_24 C T hl0 FU h1 p0 p1 p2 p3 p4 p5 0 hr
  · have hr := of_el z hr
    refine g_aload_n C 0 rfl d_Rm_feed_15 rfl ?_
    refine g_iconst (v := 1) C d_Rm_feed_16 (by decide) ?_
    obtain ⟨fsh26, hoh26, hr⟩ := of_ob hr
    obtain ⟨v27, h26, eh26, hr⟩ := of_bnd2 hr
    refine g_callV (pa := [.int 1]) C hl0 (c_Rm_fail eh26) cd_Rm_393 kw_in_Rm_fail kw_se_Rm_fail hoh26 rfl rfl (by decide) rfl rfl (Nat.le_of_ble_eq_true rfl) d_Rm_feed_17 ?_
    cases hr
    exact g_ireturn C T rfl (by decide) (by decide) d_Rm_feed_20
abbrev b_Rm_end : ByteArray := prog_12_method_41_code
abbrev y_Rm_end : MethodName := ⟨"PrimeKeysModel", "end", "(I)I"⟩
theorem d_Rm_end_0 : decode b_Rm_end 0 = .ok (.aload_n 0, 1) := by decide +kernel
theorem d_Rm_end_1 : decode b_Rm_end 1 = .ok (.iconst 0, 1) := by decide +kernel
theorem d_Rm_end_2 : decode b_Rm_end 2 = .ok (.putfield 264, 3) := by decide +kernel
theorem d_Rm_end_5 : decode b_Rm_end 5 = .ok (.iload_n 1, 1) := by decide +kernel
theorem d_Rm_end_6 : decode b_Rm_end 6 = .ok (.ifCond .lt 11, 3) := by decide +kernel
theorem d_Rm_end_9 : decode b_Rm_end 9 = .ok (.iload_n 1, 1) := by decide +kernel
theorem d_Rm_end_10 : decode b_Rm_end 10 = .ok (.aload_n 0, 1) := by decide +kernel
theorem d_Rm_end_11 : decode b_Rm_end 11 = .ok (.getfield 389, 3) := by decide +kernel
theorem d_Rm_end_14 : decode b_Rm_end 14 = .ok (.if_icmp .le 9, 3) := by decide +kernel
theorem d_Rm_end_17 : decode b_Rm_end 17 = .ok (.aload_n 0, 1) := by decide +kernel
theorem d_Rm_end_18 : decode b_Rm_end 18 = .ok (.iconst 1, 1) := by decide +kernel
theorem d_Rm_end_19 : decode b_Rm_end 19 = .ok (.invokevirtual 393, 3) := by decide +kernel
theorem d_Rm_end_22 : decode b_Rm_end 22 = .ok (.ireturn, 1) := by decide +kernel
theorem d_Rm_end_23 : decode b_Rm_end 23 = .ok (.aload_n 0, 1) := by decide +kernel
theorem d_Rm_end_24 : decode b_Rm_end 24 = .ok (.iload_n 1, 1) := by decide +kernel
theorem d_Rm_end_25 : decode b_Rm_end 25 = .ok (.putfield 389, 3) := by decide +kernel
theorem d_Rm_end_28 : decode b_Rm_end 28 = .ok (.iload_n 1, 1) := by decide +kernel
theorem d_Rm_end_29 : decode b_Rm_end 29 = .ok (.ireturn, 1) := by decide +kernel
abbrev rm_Rm_end : Room := { frames := 1, cells := 0, slots := 0, locals := 21 }
def B_Rm_end_17 (h : HP) (a0 : Nat) : Option (Int32 × HP) :=
  ob h a0 8 (
  bnd2 (P_Rm_fail h a0 1) fun v3 h2 =>
  some (v3, h2))
set_option maxHeartbeats 4000000 in
set_option maxRecDepth 100000 in
theorem bk_Rm_end_17 {l : Launch} {x : CX} {h0 h' : HP} {r' : Int32} (C : EV x b_Rm_end "PrimeKeysModel" 2 rm_Rm_end) (T : CT x (some .int) rm_Rm_end h0 (some (.int r')) h') (hl0 : x.1.2.1 = l) (h : HP) (a0 : Nat) (hr : B_Rm_end_17 h a0 = some (r', h')) : GG x 0 0 h 17 [(0, .ref a0)] [] := by
  unfold B_Rm_end_17 at hr
  refine g_aload_n C 0 rfl d_Rm_end_17 rfl ?_
  refine g_iconst (v := 1) C d_Rm_end_18 (by decide) ?_
  obtain ⟨fsh2, hoh2, hr⟩ := of_ob hr
  obtain ⟨v3, h2, eh2, hr⟩ := of_bnd2 hr
  refine g_callV (pa := [.int 1]) C hl0 (c_Rm_fail eh2) cd_Rm_393 kw_in_Rm_fail kw_se_Rm_fail hoh2 rfl rfl (by decide) rfl rfl (Nat.le_of_ble_eq_true rfl) d_Rm_end_19 ?_
  cases hr
  exact g_ireturn C T rfl (by decide) (by decide) d_Rm_end_22
def P_Rm_end (h : HP) (p0 : Nat) (p1 : Int32) : Option (Int32 × HP) :=
  bnd (pV h p0 8 0 (.int 0)) fun h1 =>
  if p1 < 0 then
  B_Rm_end_17 h1 p0
  else
  bnd (gI h1 p0 8 5) fun v4 =>
  if p1 ≤ v4 then
  bnd (pV h1 p0 8 5 (.int p1)) fun h5 =>
  some (p1, h5)
  else
  B_Rm_end_17 h1 p0
set_option maxHeartbeats 4000000 in
set_option maxRecDepth 100000 in
theorem c_Rm_end {l : Launch} {h h' : HP} {p0 p1 : _} {r' : Int32} (hr : P_Rm_end h p0 p1 = some (r', h')) : MP l y_Rm_end (Cond.code y_Rm_end b_Rm_end 2 (some .int) :: TB) rm_Rm_end h [.ref p0, .int p1] (some (.int r')) h' := by
  refine MP_intro (cc := b_Rm_end) (by decide) (Nat.le_of_ble_eq_true rfl) (fun x hl0 C T hin => ?_)
  unfold P_Rm_end at hr
  show GG x 0 0 h 0 [(0, .ref p0), (1, .int p1)] []
  refine g_aload_n C 0 rfl d_Rm_end_0 rfl ?_
  refine g_iconst (v := 0) C d_Rm_end_1 (by decide) ?_
  obtain ⟨h1, eh1, hr⟩ := of_bnd hr
  refine g_putI C fp_Rm_264 eh1 d_Rm_end_2 ?_
  refine g_iload_n C 1 rfl d_Rm_end_5 rfl ?_
  refine g_if_lt (tgt := 17) C d_Rm_end_6 (by decide) (fun z => ?_) (fun z => ?_)
  · have hr := of_if z hr
    refine g_lv [0] rfl ?_
    exact bk_Rm_end_17 C T hl0 h1 p0 hr
  · have hr := of_el z hr
    refine g_iload_n C 1 rfl d_Rm_end_9 rfl ?_
    refine g_aload_n C 0 rfl d_Rm_end_10 rfl ?_
    obtain ⟨v4, ev4, hr⟩ := of_bnd hr
    refine g_getI C fl_Rm_389 ev4 d_Rm_end_11 ?_
    refine g_icmp_le (tgt := 23) C d_Rm_end_14 (by decide) (fun z => ?_) (fun z => ?_)
    · have hr := of_if z hr
      refine g_aload_n C 0 rfl d_Rm_end_23 rfl ?_
      refine g_iload_n C 1 rfl d_Rm_end_24 rfl ?_
      obtain ⟨h5, eh5, hr⟩ := of_bnd hr
      refine g_putI C fp_Rm_389 eh5 d_Rm_end_25 ?_
      refine g_iload_n C 1 rfl d_Rm_end_28 rfl ?_
      cases hr
      exact g_ireturn C T rfl (by decide) (by decide) d_Rm_end_29
    · have hr := of_el z hr
      refine g_lv [0] rfl ?_
      exact bk_Rm_end_17 C T hl0 h1 p0 hr
abbrev b_Rm_none : ByteArray := prog_12_method_42_code
abbrev y_Rm_none : MethodName := ⟨"PrimeKeysModel", "none", "(I)Z"⟩
theorem d_Rm_none_0 : decode b_Rm_none 0 = .ok (.iload_n 1, 1) := by decide +kernel
theorem d_Rm_none_1 : decode b_Rm_none 1 = .ok (.ifCond .lt 11, 3) := by decide +kernel
theorem d_Rm_none_4 : decode b_Rm_none 4 = .ok (.iload_n 1, 1) := by decide +kernel
theorem d_Rm_none_5 : decode b_Rm_none 5 = .ok (.aload_n 0, 1) := by decide +kernel
theorem d_Rm_none_6 : decode b_Rm_none 6 = .ok (.getfield 396, 3) := by decide +kernel
theorem d_Rm_none_9 : decode b_Rm_none 9 = .ok (.if_icmp .lt 7, 3) := by decide +kernel
theorem d_Rm_none_12 : decode b_Rm_none 12 = .ok (.iconst 1, 1) := by decide +kernel
theorem d_Rm_none_13 : decode b_Rm_none 13 = .ok (.goto 4, 3) := by decide +kernel
theorem d_Rm_none_16 : decode b_Rm_none 16 = .ok (.iconst 0, 1) := by decide +kernel
theorem d_Rm_none_17 : decode b_Rm_none 17 = .ok (.ireturn, 1) := by decide +kernel
theorem fl_Rm_396 : FL "PrimeKeysModel" 396 8 8 := ⟨R_Rm, F_Rm, 50, rfl, u_Rm, by decide, rfl, tb_4 (List.mem_of_getElem? (i := 162) (by decide +kernel)) rfl⟩
abbrev rm_Rm_none : Room := { frames := 0, cells := 0, slots := 0, locals := 0 }
def B_Rm_none_12 (h : HP) : Option (Int32 × HP) :=
  some (1, h)
set_option maxHeartbeats 4000000 in
set_option maxRecDepth 100000 in
theorem bk_Rm_none_12 {l : Launch} {x : CX} {h0 h' : HP} {r' : Int32} (C : EV x b_Rm_none "PrimeKeysModel" 2 rm_Rm_none) (T : CT x (some .boolean) rm_Rm_none h0 (some (.int r')) h') (hl0 : x.1.2.1 = l) (h : HP) (hr : B_Rm_none_12 h = some (r', h')) : GG x 0 0 h 12 [] [] := by
  unfold B_Rm_none_12 at hr
  refine g_iconst (v := 1) C d_Rm_none_12 (by decide) ?_
  refine g_goto (tgt := 17) C d_Rm_none_13 (by decide) ?_
  cases hr
  exact g_ireturn C T rfl (by decide) (by decide) d_Rm_none_17
def P_Rm_none (h : HP) (p0 : Nat) (p1 : Int32) : Option (Int32 × HP) :=
  if p1 < 0 then
  B_Rm_none_12 h
  else
  bnd (gI h p0 8 8) fun v1 =>
  if p1 < v1 then
  some (0, h)
  else
  B_Rm_none_12 h
set_option maxHeartbeats 4000000 in
set_option maxRecDepth 100000 in
theorem c_Rm_none {l : Launch} {h h' : HP} {p0 p1 : _} {r' : Int32} (hr : P_Rm_none h p0 p1 = some (r', h')) : MP l y_Rm_none (Cond.code y_Rm_none b_Rm_none 2 (some .boolean) :: TB) rm_Rm_none h [.ref p0, .int p1] (some (.int r')) h' := by
  refine MP_intro (cc := b_Rm_none) (by decide) (Nat.le_of_ble_eq_true rfl) (fun x hl0 C T hin => ?_)
  unfold P_Rm_none at hr
  show GG x 0 0 h 0 [(0, .ref p0), (1, .int p1)] []
  refine g_iload_n C 1 rfl d_Rm_none_0 rfl ?_
  refine g_if_lt (tgt := 12) C d_Rm_none_1 (by decide) (fun z => ?_) (fun z => ?_)
  · have hr := of_if z hr
    refine g_lv [] rfl ?_
    exact bk_Rm_none_12 C T hl0 h hr
  · have hr := of_el z hr
    refine g_iload_n C 1 rfl d_Rm_none_4 rfl ?_
    refine g_aload_n C 0 rfl d_Rm_none_5 rfl ?_
    obtain ⟨v1, ev1, hr⟩ := of_bnd hr
    refine g_getI C fl_Rm_396 ev1 d_Rm_none_6 ?_
    refine g_icmp_lt (tgt := 16) C d_Rm_none_9 (by decide) (fun z => ?_) (fun z => ?_)
    · have hr := of_if z hr
      refine g_iconst (v := 0) C d_Rm_none_16 (by decide) ?_
      cases hr
      exact g_ireturn C T rfl (by decide) (by decide) d_Rm_none_17
    · have hr := of_el z hr
      refine g_lv [] rfl ?_
      exact bk_Rm_none_12 C T hl0 h hr
abbrev b_Rm_key : ByteArray := prog_12_method_43_code
abbrev y_Rm_key : MethodName := ⟨"PrimeKeysModel", "key", "()I"⟩
theorem d_Rm_key_0 : decode b_Rm_key 0 = .ok (.aload_n 0, 1) := by decide +kernel
theorem d_Rm_key_1 : decode b_Rm_key 1 = .ok (.iconst 0, 1) := by decide +kernel
theorem d_Rm_key_2 : decode b_Rm_key 2 = .ok (.putfield 264, 3) := by decide +kernel
theorem d_Rm_key_5 : decode b_Rm_key 5 = .ok (.aload_n 0, 1) := by decide +kernel
theorem d_Rm_key_6 : decode b_Rm_key 6 = .ok (.getfield 389, 3) := by decide +kernel
theorem d_Rm_key_9 : decode b_Rm_key 9 = .ok (.bipush 32, 2) := by decide +kernel
theorem d_Rm_key_11 : decode b_Rm_key 11 = .ok (.if_icmp .eq 9, 3) := by decide +kernel
theorem d_Rm_key_14 : decode b_Rm_key 14 = .ok (.aload_n 0, 1) := by decide +kernel
theorem d_Rm_key_15 : decode b_Rm_key 15 = .ok (.iconst 1, 1) := by decide +kernel
theorem d_Rm_key_16 : decode b_Rm_key 16 = .ok (.invokevirtual 393, 3) := by decide +kernel
theorem d_Rm_key_19 : decode b_Rm_key 19 = .ok (.ireturn, 1) := by decide +kernel
theorem d_Rm_key_20 : decode b_Rm_key 20 = .ok (.aload_n 0, 1) := by decide +kernel
theorem d_Rm_key_21 : decode b_Rm_key 21 = .ok (.getfield 199, 3) := by decide +kernel
theorem d_Rm_key_24 : decode b_Rm_key 24 = .ok (.aload_n 0, 1) := by decide +kernel
theorem d_Rm_key_25 : decode b_Rm_key 25 = .ok (.getfield 8, 3) := by decide +kernel
theorem d_Rm_key_28 : decode b_Rm_key 28 = .ok (.iconst 0, 1) := by decide +kernel
theorem d_Rm_key_29 : decode b_Rm_key 29 = .ok (.invokestatic 372, 3) := by decide +kernel
theorem d_Rm_key_32 : decode b_Rm_key 32 = .ok (.aload_n 0, 1) := by decide +kernel
theorem d_Rm_key_33 : decode b_Rm_key 33 = .ok (.getfield 199, 3) := by decide +kernel
theorem d_Rm_key_36 : decode b_Rm_key 36 = .ok (.invokestatic 290, 3) := by decide +kernel
theorem d_Rm_key_39 : decode b_Rm_key 39 = .ok (.ifCond .ne 17, 3) := by decide +kernel
theorem d_Rm_key_42 : decode b_Rm_key 42 = .ok (.aload_n 0, 1) := by decide +kernel
theorem d_Rm_key_43 : decode b_Rm_key 43 = .ok (.getfield 199, 3) := by decide +kernel
theorem d_Rm_key_46 : decode b_Rm_key 46 = .ok (.aload_n 0, 1) := by decide +kernel
theorem d_Rm_key_47 : decode b_Rm_key 47 = .ok (.getfield 49, 3) := by decide +kernel
theorem d_Rm_key_50 : decode b_Rm_key 50 = .ok (.invokestatic 268, 3) := by decide +kernel
theorem d_Rm_key_53 : decode b_Rm_key 53 = .ok (.ifCond .ne 9, 3) := by decide +kernel
theorem d_Rm_key_56 : decode b_Rm_key 56 = .ok (.aload_n 0, 1) := by decide +kernel
theorem d_Rm_key_57 : decode b_Rm_key 57 = .ok (.iconst 1, 1) := by decide +kernel
theorem d_Rm_key_58 : decode b_Rm_key 58 = .ok (.invokevirtual 393, 3) := by decide +kernel
theorem d_Rm_key_61 : decode b_Rm_key 61 = .ok (.ireturn, 1) := by decide +kernel
theorem d_Rm_key_62 : decode b_Rm_key 62 = .ok (.aload_n 0, 1) := by decide +kernel
theorem d_Rm_key_63 : decode b_Rm_key 63 = .ok (.getfield 396, 3) := by decide +kernel
theorem d_Rm_key_66 : decode b_Rm_key 66 = .ok (.bipush 100, 2) := by decide +kernel
theorem d_Rm_key_68 : decode b_Rm_key 68 = .ok (.if_icmp .ne 9, 3) := by decide +kernel
theorem d_Rm_key_71 : decode b_Rm_key 71 = .ok (.aload_n 0, 1) := by decide +kernel
theorem d_Rm_key_72 : decode b_Rm_key 72 = .ok (.iconst 2, 1) := by decide +kernel
theorem d_Rm_key_73 : decode b_Rm_key 73 = .ok (.invokevirtual 393, 3) := by decide +kernel
theorem d_Rm_key_76 : decode b_Rm_key 76 = .ok (.ireturn, 1) := by decide +kernel
theorem d_Rm_key_77 : decode b_Rm_key 77 = .ok (.iconst 0, 1) := by decide +kernel
theorem d_Rm_key_78 : decode b_Rm_key 78 = .ok (.istore_n 1, 1) := by decide +kernel
theorem d_Rm_key_79 : decode b_Rm_key 79 = .ok (.iload_n 1, 1) := by decide +kernel
theorem d_Rm_key_80 : decode b_Rm_key 80 = .ok (.bipush 32, 2) := by decide +kernel
theorem d_Rm_key_82 : decode b_Rm_key 82 = .ok (.if_icmp .ge 29, 3) := by decide +kernel
theorem d_Rm_key_85 : decode b_Rm_key 85 = .ok (.aload_n 0, 1) := by decide +kernel
theorem d_Rm_key_86 : decode b_Rm_key 86 = .ok (.getfield 20, 3) := by decide +kernel
theorem d_Rm_key_89 : decode b_Rm_key 89 = .ok (.bipush 32, 2) := by decide +kernel
theorem d_Rm_key_91 : decode b_Rm_key 91 = .ok (.aload_n 0, 1) := by decide +kernel
theorem d_Rm_key_92 : decode b_Rm_key 92 = .ok (.getfield 396, 3) := by decide +kernel
theorem d_Rm_key_95 : decode b_Rm_key 95 = .ok (.imul, 1) := by decide +kernel
theorem d_Rm_key_96 : decode b_Rm_key 96 = .ok (.iload_n 1, 1) := by decide +kernel
theorem d_Rm_key_97 : decode b_Rm_key 97 = .ok (.iadd, 1) := by decide +kernel
theorem d_Rm_key_98 : decode b_Rm_key 98 = .ok (.aload_n 0, 1) := by decide +kernel
theorem d_Rm_key_99 : decode b_Rm_key 99 = .ok (.getfield 8, 3) := by decide +kernel
theorem d_Rm_key_102 : decode b_Rm_key 102 = .ok (.iload_n 1, 1) := by decide +kernel
theorem d_Rm_key_103 : decode b_Rm_key 103 = .ok (.baload, 1) := by decide +kernel
theorem d_Rm_key_104 : decode b_Rm_key 104 = .ok (.bastore, 1) := by decide +kernel
theorem d_Rm_key_105 : decode b_Rm_key 105 = .ok (.iinc 1 1, 3) := by decide +kernel
theorem d_Rm_key_108 : decode b_Rm_key 108 = .ok (.goto (-29), 3) := by decide +kernel
theorem d_Rm_key_111 : decode b_Rm_key 111 = .ok (.aload_n 0, 1) := by decide +kernel
theorem d_Rm_key_112 : decode b_Rm_key 112 = .ok (.iconst 0, 1) := by decide +kernel
theorem d_Rm_key_113 : decode b_Rm_key 113 = .ok (.putfield 389, 3) := by decide +kernel
theorem d_Rm_key_116 : decode b_Rm_key 116 = .ok (.aload_n 0, 1) := by decide +kernel
theorem d_Rm_key_117 : decode b_Rm_key 117 = .ok (.dup, 1) := by decide +kernel
theorem d_Rm_key_118 : decode b_Rm_key 118 = .ok (.getfield 396, 3) := by decide +kernel
theorem d_Rm_key_121 : decode b_Rm_key 121 = .ok (.iconst 1, 1) := by decide +kernel
theorem d_Rm_key_122 : decode b_Rm_key 122 = .ok (.iadd, 1) := by decide +kernel
theorem d_Rm_key_123 : decode b_Rm_key 123 = .ok (.putfield 396, 3) := by decide +kernel
theorem d_Rm_key_126 : decode b_Rm_key 126 = .ok (.aload_n 0, 1) := by decide +kernel
theorem d_Rm_key_127 : decode b_Rm_key 127 = .ok (.getfield 396, 3) := by decide +kernel
theorem d_Rm_key_130 : decode b_Rm_key 130 = .ok (.iconst 1, 1) := by decide +kernel
theorem d_Rm_key_131 : decode b_Rm_key 131 = .ok (.isub, 1) := by decide +kernel
theorem d_Rm_key_132 : decode b_Rm_key 132 = .ok (.ireturn, 1) := by decide +kernel
theorem fp_Rm_396 : FP "PrimeKeysModel" 396 8 8 .int false := ⟨R_Rm, F_Rm, 50, t_Rm, rfl, u_Rm, by decide, rfl, tb_4 (List.mem_of_getElem? (i := 162) (by decide +kernel)) rfl, t_Rm_ok, n_Rm, rfl, by decide +kernel⟩
abbrev rm_Rm_key : Room := { frames := 1, cells := 0, slots := 0, locals := 23 }
def B_Rm_key_56 (h : HP) (a0 : Nat) : Option (Int32 × HP) :=
  ob h a0 8 (
  bnd2 (P_Rm_fail h a0 1) fun v10 h9 =>
  some (v10, h9))
set_option maxHeartbeats 4000000 in
set_option maxRecDepth 100000 in
theorem bk_Rm_key_56 {l : Launch} {x : CX} {h0 h' : HP} {r' : Int32} (C : EV x b_Rm_key "PrimeKeysModel" 2 rm_Rm_key) (T : CT x (some .int) rm_Rm_key h0 (some (.int r')) h') (hl0 : x.1.2.1 = l) (h : HP) (a0 : Nat) (hr : B_Rm_key_56 h a0 = some (r', h')) : GG x 0 0 h 56 [(0, .ref a0)] [] := by
  unfold B_Rm_key_56 at hr
  refine g_aload_n C 0 rfl d_Rm_key_56 rfl ?_
  refine g_iconst (v := 1) C d_Rm_key_57 (by decide) ?_
  obtain ⟨fsh9, hoh9, hr⟩ := of_ob hr
  obtain ⟨v10, h9, eh9, hr⟩ := of_bnd2 hr
  refine g_callV (pa := [.int 1]) C hl0 (c_Rm_fail eh9) cd_Rm_393 kw_in_Rm_fail kw_se_Rm_fail hoh9 rfl rfl (by decide) rfl rfl (Nat.le_of_ble_eq_true rfl) d_Rm_key_58 ?_
  cases hr
  exact g_ireturn C T rfl (by decide) (by decide) d_Rm_key_61
def B_Rm_key_79 (K79 : HP → Nat → Int32 → Option (Int32 × HP)) (h : HP) (a0 : Nat) (a1 : Int32) : Option (Int32 × HP) :=
  if 32 ≤ a1 then
  bnd (pV h a0 8 5 (.int 0)) fun h16 =>
  bnd (gI h16 a0 8 8) fun v17 =>
  bnd (pV h16 a0 8 8 (.int (v17 + 1))) fun h18 =>
  bnd (gI h18 a0 8 8) fun v19 =>
  some (v19 - 1, h18)
  else
  bnd (gR h a0 8 4) fun k20 =>
  bnd (gI h a0 8 8) fun v21 =>
  bnd (gR h a0 8 1) fun k22 =>
  bnd (ldB h k22 a1) fun v23 =>
  bnd (stB h k20 ((32 * v21) + a1) v23) fun h24 =>
  lt (a1 + Int32.ofInt 1) fun x25 =>
  K79 h24 a0 x25
set_option maxHeartbeats 4000000 in
set_option maxRecDepth 100000 in
theorem bk_Rm_key_79 {l : Launch} {x : CX} {h0 h' : HP} {r' : Int32} (C : EV x b_Rm_key "PrimeKeysModel" 2 rm_Rm_key) (T : CT x (some .int) rm_Rm_key h0 (some (.int r')) h') (hl0 : x.1.2.1 = l) (K79 : HP → Nat → Int32 → Option (Int32 × HP)) (hK79 : ∀ (h : HP) (a0 : Nat) (a1 : Int32), K79 h a0 a1 = some (r', h') → GG x 0 0 h 79 [(0, .ref a0), (1, .int a1)] []) (h : HP) (a0 : Nat) (a1 : Int32) (hr : B_Rm_key_79 K79 h a0 a1 = some (r', h')) : GG x 0 0 h 79 [(0, .ref a0), (1, .int a1)] [] := by
  unfold B_Rm_key_79 at hr
  refine g_iload_n C 1 rfl d_Rm_key_79 rfl ?_
  refine g_bipush (v := 32) C d_Rm_key_80 (by decide) ?_
  refine g_icmp_ge (tgt := 111) C d_Rm_key_82 (by decide) (fun z => ?_) (fun z => ?_)
  · have hr := of_if z hr
    refine g_aload_n C 0 rfl d_Rm_key_111 rfl ?_
    refine g_iconst (v := 0) C d_Rm_key_112 (by decide) ?_
    obtain ⟨h16, eh16, hr⟩ := of_bnd hr
    refine g_putI C fp_Rm_389 eh16 d_Rm_key_113 ?_
    refine g_aload_n C 0 rfl d_Rm_key_116 rfl ?_
    refine g_dup C d_Rm_key_117 rfl ?_
    obtain ⟨v17, ev17, hr⟩ := of_bnd hr
    refine g_getI C fl_Rm_396 ev17 d_Rm_key_118 ?_
    refine g_iconst (v := 1) C d_Rm_key_121 (by decide) ?_
    refine g_iadd C d_Rm_key_122 ?_
    obtain ⟨h18, eh18, hr⟩ := of_bnd hr
    refine g_putI C fp_Rm_396 eh18 d_Rm_key_123 ?_
    refine g_aload_n C 0 rfl d_Rm_key_126 rfl ?_
    obtain ⟨v19, ev19, hr⟩ := of_bnd hr
    refine g_getI C fl_Rm_396 ev19 d_Rm_key_127 ?_
    refine g_iconst (v := 1) C d_Rm_key_130 (by decide) ?_
    refine g_isub C d_Rm_key_131 ?_
    cases hr
    exact g_ireturn C T rfl (by decide) (by decide) d_Rm_key_132
  · have hr := of_el z hr
    refine g_aload_n C 0 rfl d_Rm_key_85 rfl ?_
    obtain ⟨k20, ek20, hr⟩ := of_bnd hr
    refine g_getR C fl_Rm_20 ek20 d_Rm_key_86 ?_
    refine g_bipush (v := 32) C d_Rm_key_89 (by decide) ?_
    refine g_aload_n C 0 rfl d_Rm_key_91 rfl ?_
    obtain ⟨v21, ev21, hr⟩ := of_bnd hr
    refine g_getI C fl_Rm_396 ev21 d_Rm_key_92 ?_
    refine g_imul C d_Rm_key_95 ?_
    refine g_iload_n C 1 rfl d_Rm_key_96 rfl ?_
    refine g_iadd C d_Rm_key_97 ?_
    refine g_aload_n C 0 rfl d_Rm_key_98 rfl ?_
    obtain ⟨k22, ek22, hr⟩ := of_bnd hr
    refine g_getR C fl_Rm_8 ek22 d_Rm_key_99 ?_
    refine g_iload_n C 1 rfl d_Rm_key_102 rfl ?_
    obtain ⟨v23, ev23, hr⟩ := of_bnd hr
    refine g_baload C ev23 d_Rm_key_103 ?_
    obtain ⟨h24, eh24, hr⟩ := of_bnd hr
    refine g_bastore C eh24 d_Rm_key_104 ?_
    obtain ⟨x25, ex25⟩ : ∃ z, z = a1 + Int32.ofInt 1 := ⟨_, rfl⟩
    have hr := of_lt ex25 hr
    refine g_iinc (lv' := [(1, .int x25), (0, .ref a0)]) C 1 rfl d_Rm_key_105 ex25.symm (by decide) rfl ?_
    refine g_goto (tgt := 79) C d_Rm_key_108 (by decide) ?_
    refine g_lv [1, 0] rfl ?_
    exact hK79 h24 a0 x25 hr
def L_Rm_key_79 : Nat → HP → Nat → Int32 → Option (Int32 × HP)
  | 0, _, _, _ => none
  | f + 1, h, a0, a1 => B_Rm_key_79 (L_Rm_key_79 f) h a0 a1
theorem lp_Rm_key_79 {l : Launch} {x : CX} {h0 h' : HP} {r' : Int32} (C : EV x b_Rm_key "PrimeKeysModel" 2 rm_Rm_key) (T : CT x (some .int) rm_Rm_key h0 (some (.int r')) h') (hl0 : x.1.2.1 = l) : ∀ (f : Nat) (h : HP) (a0 : Nat) (a1 : Int32), L_Rm_key_79 f h a0 a1 = some (r', h') → GG x 0 0 h 79 [(0, .ref a0), (1, .int a1)] [] := by
  intro f
  induction f with
  | zero => intro h a0 a1 hr; have hr : (none : Option (Int32 × HP)) = some (r', h') := hr; cases hr
  | succ f ih => intro h a0 a1 hr; exact bk_Rm_key_79 C T hl0 (L_Rm_key_79 f) ih h a0 a1 hr
def P_Rm_key (h : HP) (p0 : Nat) : Option (Int32 × HP) :=
  bnd (pV h p0 8 0 (.int 0)) fun h1 =>
  bnd (gI h1 p0 8 5) fun v2 =>
  if v2 = 32 then
  bnd (gR h1 p0 8 31) fun k3 =>
  bnd (gR h1 p0 8 1) fun k4 =>
  bnd (P_Rm_load h1 k3 k4 0) fun h5 =>
  bnd (gR h5 p0 8 31) fun k6 =>
  bnd2 (P_Rm_zero h5 k6) fun v8 h7 =>
  if v8 = 0 then
  bnd (gR h7 p0 8 31) fun k11 =>
  bnd (gR h7 p0 8 11) fun k12 =>
  bnd2 (P_Rm_below h7 k11 k12) fun v14 h13 =>
  if v14 = 0 then
  B_Rm_key_56 h13 p0
  else
  bnd (gI h13 p0 8 8) fun v15 =>
  if v15 = 100 then
  ob h13 p0 8 (
  bnd2 (P_Rm_fail h13 p0 2) fun v27 h26 =>
  some (v27, h26))
  else
  L_Rm_key_79 FU h13 p0 0
  else
  B_Rm_key_56 h7 p0
  else
  ob h1 p0 8 (
  bnd2 (P_Rm_fail h1 p0 1) fun v29 h28 =>
  some (v29, h28))
set_option maxHeartbeats 4000000 in
set_option maxRecDepth 100000 in
theorem c_Rm_key {l : Launch} {h h' : HP} {p0 : _} {r' : Int32} (hr : P_Rm_key h p0 = some (r', h')) : MP l y_Rm_key (Cond.code y_Rm_key b_Rm_key 2 (some .int) :: TB) rm_Rm_key h [.ref p0] (some (.int r')) h' := by
  refine MP_intro (cc := b_Rm_key) (by decide) (Nat.le_of_ble_eq_true rfl) (fun x hl0 C T hin => ?_)
  unfold P_Rm_key at hr
  show GG x 0 0 h 0 [(0, .ref p0)] []
  refine g_aload_n C 0 rfl d_Rm_key_0 rfl ?_
  refine g_iconst (v := 0) C d_Rm_key_1 (by decide) ?_
  obtain ⟨h1, eh1, hr⟩ := of_bnd hr
  refine g_putI C fp_Rm_264 eh1 d_Rm_key_2 ?_
  refine g_aload_n C 0 rfl d_Rm_key_5 rfl ?_
  obtain ⟨v2, ev2, hr⟩ := of_bnd hr
  refine g_getI C fl_Rm_389 ev2 d_Rm_key_6 ?_
  refine g_bipush (v := 32) C d_Rm_key_9 (by decide) ?_
  refine g_icmp_eq (tgt := 20) C d_Rm_key_11 (by decide) (fun z => ?_) (fun z => ?_)
  · have hr := of_if z hr
    refine g_aload_n C 0 rfl d_Rm_key_20 rfl ?_
    obtain ⟨k3, ek3, hr⟩ := of_bnd hr
    refine g_getR C fl_Rm_199 ek3 d_Rm_key_21 ?_
    refine g_aload_n C 0 rfl d_Rm_key_24 rfl ?_
    obtain ⟨k4, ek4, hr⟩ := of_bnd hr
    refine g_getR C fl_Rm_8 ek4 d_Rm_key_25 ?_
    refine g_iconst (v := 0) C d_Rm_key_28 (by decide) ?_
    obtain ⟨h5, eh5, hr⟩ := of_bnd hr
    refine g_callS (pa := [.ref k3, .ref k4, .int 0]) C hl0 (c_Rm_load eh5) cd_Rm_372 kw_st_Rm_load (by decide) rfl rfl (Nat.le_of_ble_eq_true rfl) d_Rm_key_29 ?_
    refine g_aload_n C 0 rfl d_Rm_key_32 rfl ?_
    obtain ⟨k6, ek6, hr⟩ := of_bnd hr
    refine g_getR C fl_Rm_199 ek6 d_Rm_key_33 ?_
    obtain ⟨v8, h7, eh7, hr⟩ := of_bnd2 hr
    refine g_callS (pa := [.ref k6]) C hl0 (c_Rm_zero eh7) cd_Rm_290 kw_st_Rm_zero (by decide) rfl rfl (Nat.le_of_ble_eq_true rfl) d_Rm_key_36 ?_
    refine g_if_ne (tgt := 56) C d_Rm_key_39 (by decide) (fun z => ?_) (fun z => ?_)
    · have hr := of_el z hr
      exact bk_Rm_key_56 C T hl0 h7 p0 hr
    · have hr := of_if z hr
      refine g_aload_n C 0 rfl d_Rm_key_42 rfl ?_
      obtain ⟨k11, ek11, hr⟩ := of_bnd hr
      refine g_getR C fl_Rm_199 ek11 d_Rm_key_43 ?_
      refine g_aload_n C 0 rfl d_Rm_key_46 rfl ?_
      obtain ⟨k12, ek12, hr⟩ := of_bnd hr
      refine g_getR C fl_Rm_49 ek12 d_Rm_key_47 ?_
      obtain ⟨v14, h13, eh13, hr⟩ := of_bnd2 hr
      refine g_callS (pa := [.ref k11, .ref k12]) C hl0 (c_Rm_below eh13) cd_Rm_268 kw_st_Rm_below (by decide) rfl rfl (Nat.le_of_ble_eq_true rfl) d_Rm_key_50 ?_
      refine g_if_ne (tgt := 62) C d_Rm_key_53 (by decide) (fun z => ?_) (fun z => ?_)
      · have hr := of_el z hr
        refine g_aload_n C 0 rfl d_Rm_key_62 rfl ?_
        obtain ⟨v15, ev15, hr⟩ := of_bnd hr
        refine g_getI C fl_Rm_396 ev15 d_Rm_key_63 ?_
        refine g_bipush (v := 100) C d_Rm_key_66 (by decide) ?_
        refine g_icmp_ne (tgt := 77) C d_Rm_key_68 (by decide) (fun z => ?_) (fun z => ?_)
        · have hr := of_el z hr
          refine g_iconst (v := 0) C d_Rm_key_77 (by decide) ?_
          refine g_istore_n (lv' := [(1, .int 0), (0, .ref p0)]) C d_Rm_key_78 rfl (by decide) rfl ?_
          refine g_lv [1, 0] rfl ?_
          exact lp_Rm_key_79 C T hl0 FU h13 p0 0 hr
        · have hr := of_if z hr
          refine g_aload_n C 0 rfl d_Rm_key_71 rfl ?_
          refine g_iconst (v := 2) C d_Rm_key_72 (by decide) ?_
          obtain ⟨fsh26, hoh26, hr⟩ := of_ob hr
          obtain ⟨v27, h26, eh26, hr⟩ := of_bnd2 hr
          refine g_callV (pa := [.int 2]) C hl0 (c_Rm_fail eh26) cd_Rm_393 kw_in_Rm_fail kw_se_Rm_fail hoh26 rfl rfl (by decide) rfl rfl (Nat.le_of_ble_eq_true rfl) d_Rm_key_73 ?_
          cases hr
          exact g_ireturn C T rfl (by decide) (by decide) d_Rm_key_76
      · have hr := of_if z hr
        exact bk_Rm_key_56 C T hl0 h13 p0 hr
  · have hr := of_el z hr
    refine g_aload_n C 0 rfl d_Rm_key_14 rfl ?_
    refine g_iconst (v := 1) C d_Rm_key_15 (by decide) ?_
    obtain ⟨fsh28, hoh28, hr⟩ := of_ob hr
    obtain ⟨v29, h28, eh28, hr⟩ := of_bnd2 hr
    refine g_callV (pa := [.int 1]) C hl0 (c_Rm_fail eh28) cd_Rm_393 kw_in_Rm_fail kw_se_Rm_fail hoh28 rfl rfl (by decide) rfl rfl (Nat.le_of_ble_eq_true rfl) d_Rm_key_16 ?_
    cases hr
    exact g_ireturn C T rfl (by decide) (by decide) d_Rm_key_19
abbrev b_Rm_open : ByteArray := prog_12_method_44_code
abbrev y_Rm_open : MethodName := ⟨"PrimeKeysModel", "open", "(I)V"⟩
theorem d_Rm_open_0 : decode b_Rm_open 0 = .ok (.aload_n 0, 1) := by decide +kernel
theorem d_Rm_open_1 : decode b_Rm_open 1 = .ok (.aload_n 0, 1) := by decide +kernel
theorem d_Rm_open_2 : decode b_Rm_open 2 = .ok (.iload_n 1, 1) := by decide +kernel
theorem d_Rm_open_3 : decode b_Rm_open 3 = .ok (.invokevirtual 399, 3) := by decide +kernel
theorem d_Rm_open_6 : decode b_Rm_open 6 = .ok (.ifCond .eq 7, 3) := by decide +kernel
theorem d_Rm_open_9 : decode b_Rm_open 9 = .ok (.iconst 1, 1) := by decide +kernel
theorem d_Rm_open_10 : decode b_Rm_open 10 = .ok (.goto 4, 3) := by decide +kernel
theorem d_Rm_open_13 : decode b_Rm_open 13 = .ok (.iconst 0, 1) := by decide +kernel
theorem d_Rm_open_14 : decode b_Rm_open 14 = .ok (.putfield 264, 3) := by decide +kernel
theorem d_Rm_open_17 : decode b_Rm_open 17 = .ok (.aload_n 0, 1) := by decide +kernel
theorem d_Rm_open_18 : decode b_Rm_open 18 = .ok (.getfield 264, 3) := by decide +kernel
theorem d_Rm_open_21 : decode b_Rm_open 21 = .ok (.ifCond .le 4, 3) := by decide +kernel
theorem d_Rm_open_24 : decode b_Rm_open 24 = .ok (.return_, 1) := by decide +kernel
theorem d_Rm_open_25 : decode b_Rm_open 25 = .ok (.aload_n 0, 1) := by decide +kernel
theorem d_Rm_open_26 : decode b_Rm_open 26 = .ok (.getfield 199, 3) := by decide +kernel
theorem d_Rm_open_29 : decode b_Rm_open 29 = .ok (.aload_n 0, 1) := by decide +kernel
theorem d_Rm_open_30 : decode b_Rm_open 30 = .ok (.getfield 20, 3) := by decide +kernel
theorem d_Rm_open_33 : decode b_Rm_open 33 = .ok (.bipush 32, 2) := by decide +kernel
theorem d_Rm_open_35 : decode b_Rm_open 35 = .ok (.iload_n 1, 1) := by decide +kernel
theorem d_Rm_open_36 : decode b_Rm_open 36 = .ok (.imul, 1) := by decide +kernel
theorem d_Rm_open_37 : decode b_Rm_open 37 = .ok (.invokestatic 372, 3) := by decide +kernel
theorem d_Rm_open_40 : decode b_Rm_open 40 = .ok (.aload_n 0, 1) := by decide +kernel
theorem d_Rm_open_41 : decode b_Rm_open 41 = .ok (.aload_n 0, 1) := by decide +kernel
theorem d_Rm_open_42 : decode b_Rm_open 42 = .ok (.getfield 199, 3) := by decide +kernel
theorem d_Rm_open_45 : decode b_Rm_open 45 = .ok (.invokevirtual 386, 3) := by decide +kernel
theorem d_Rm_open_48 : decode b_Rm_open 48 = .ok (.aload_n 0, 1) := by decide +kernel
theorem d_Rm_open_49 : decode b_Rm_open 49 = .ok (.getfield 17, 3) := by decide +kernel
theorem d_Rm_open_52 : decode b_Rm_open 52 = .ok (.iconst 0, 1) := by decide +kernel
theorem d_Rm_open_53 : decode b_Rm_open 53 = .ok (.iconst 4, 1) := by decide +kernel
theorem d_Rm_open_54 : decode b_Rm_open 54 = .ok (.bastore, 1) := by decide +kernel
theorem d_Rm_open_55 : decode b_Rm_open 55 = .ok (.aload_n 0, 1) := by decide +kernel
theorem d_Rm_open_56 : decode b_Rm_open 56 = .ok (.getfield 17, 3) := by decide +kernel
theorem d_Rm_open_59 : decode b_Rm_open 59 = .ok (.iconst 1, 1) := by decide +kernel
theorem d_Rm_open_60 : decode b_Rm_open 60 = .ok (.aload_n 0, 1) := by decide +kernel
theorem d_Rm_open_61 : decode b_Rm_open 61 = .ok (.getfield 163, 3) := by decide +kernel
theorem d_Rm_open_64 : decode b_Rm_open 64 = .ok (.invokestatic 376, 3) := by decide +kernel
theorem d_Rm_open_67 : decode b_Rm_open 67 = .ok (.aload_n 0, 1) := by decide +kernel
theorem d_Rm_open_68 : decode b_Rm_open 68 = .ok (.getfield 17, 3) := by decide +kernel
theorem d_Rm_open_71 : decode b_Rm_open 71 = .ok (.bipush 33, 2) := by decide +kernel
theorem d_Rm_open_73 : decode b_Rm_open 73 = .ok (.aload_n 0, 1) := by decide +kernel
theorem d_Rm_open_74 : decode b_Rm_open 74 = .ok (.getfield 166, 3) := by decide +kernel
theorem d_Rm_open_77 : decode b_Rm_open 77 = .ok (.invokestatic 376, 3) := by decide +kernel
theorem d_Rm_open_80 : decode b_Rm_open 80 = .ok (.aload_n 0, 1) := by decide +kernel
theorem d_Rm_open_81 : decode b_Rm_open 81 = .ok (.bipush 65, 2) := by decide +kernel
theorem d_Rm_open_83 : decode b_Rm_open 83 = .ok (.putfield 403, 3) := by decide +kernel
theorem d_Rm_open_86 : decode b_Rm_open 86 = .ok (.return_, 1) := by decide +kernel
theorem fl_Rm_17 : FL "PrimeKeysModel" 17 8 3 := ⟨R_Rm, F_Rm, 50, rfl, u_Rm, by decide, rfl, tb_4 (List.mem_of_getElem? (i := 157) (by decide +kernel)) rfl⟩
theorem fp_Rm_403 : FP "PrimeKeysModel" 403 8 7 .int false := ⟨R_Rm, F_Rm, 50, t_Rm, rfl, u_Rm, by decide, rfl, tb_4 (List.mem_of_getElem? (i := 161) (by decide +kernel)) rfl, t_Rm_ok, n_Rm, rfl, by decide +kernel⟩
theorem cd_Rm_399 : CD "PrimeKeysModel" 399 y_Rm_none b_Rm_none 2 (some .boolean) 1 := ⟨tb_5 (List.mem_of_getElem? (i := 99) rfl) rfl, tb_1 (List.mem_of_getElem? (i := 13) (by decide +kernel)) rfl, tb_5 (List.mem_of_getElem? (i := 96) (by decide +kernel)) rfl, by decide +kernel⟩
theorem kw_in_Rm_none : Cond.instanceMethod y_Rm_none ∈ TB := tb_5 (List.mem_of_getElem? (i := 98) (by decide +kernel)) rfl
theorem kw_se_Rm_none : Cond.selects "PrimeKeysModel" y_Rm_none y_Rm_none ∈ TB := tb_p (q := (y_Rm_none, 50)) (by decide +kernel)
abbrev rm_Rm_open : Room := { frames := 6, cells := 0, slots := 0, locals := 148 }
def P_Rm_open (h : HP) (p0 : Nat) (p1 : Int32) : Option (HP) :=
  ob h p0 8 (
  bnd2 (P_Rm_none h p0 p1) fun v2 h1 =>
  if v2 = 0 then
  bnd (pV h1 p0 8 0 (.int 0)) fun h3 =>
  bnd (gI h3 p0 8 0) fun v4 =>
  if v4 ≤ 0 then
  bnd (gR h3 p0 8 31) fun k5 =>
  bnd (gR h3 p0 8 4) fun k6 =>
  bnd (P_Rm_load h3 k5 k6 (32 * p1)) fun h7 =>
  bnd (gR h7 p0 8 31) fun k8 =>
  ob h7 p0 8 (
  bnd (P_Rm_fromBase h7 p0 k8) fun h9 =>
  bnd (gR h9 p0 8 3) fun k10 =>
  bnd (stB h9 k10 0 4) fun h11 =>
  bnd (gR h11 p0 8 3) fun k12 =>
  bnd (gR h11 p0 8 17) fun k13 =>
  bnd (P_Rm_store h11 k12 1 k13) fun h14 =>
  bnd (gR h14 p0 8 3) fun k15 =>
  bnd (gR h14 p0 8 18) fun k16 =>
  bnd (P_Rm_store h14 k15 33 k16) fun h17 =>
  bnd (pV h17 p0 8 7 (.int 65)) fun h18 =>
  some h18)
  else
  some h3
  else
  bnd (pV h1 p0 8 0 (.int 1)) fun h19 =>
  bnd (gI h19 p0 8 0) fun v20 =>
  if v20 ≤ 0 then
  bnd (gR h19 p0 8 31) fun k21 =>
  bnd (gR h19 p0 8 4) fun k22 =>
  bnd (P_Rm_load h19 k21 k22 (32 * p1)) fun h23 =>
  bnd (gR h23 p0 8 31) fun k24 =>
  ob h23 p0 8 (
  bnd (P_Rm_fromBase h23 p0 k24) fun h25 =>
  bnd (gR h25 p0 8 3) fun k26 =>
  bnd (stB h25 k26 0 4) fun h27 =>
  bnd (gR h27 p0 8 3) fun k28 =>
  bnd (gR h27 p0 8 17) fun k29 =>
  bnd (P_Rm_store h27 k28 1 k29) fun h30 =>
  bnd (gR h30 p0 8 3) fun k31 =>
  bnd (gR h30 p0 8 18) fun k32 =>
  bnd (P_Rm_store h30 k31 33 k32) fun h33 =>
  bnd (pV h33 p0 8 7 (.int 65)) fun h34 =>
  some h34)
  else
  some h19)
set_option maxHeartbeats 4000000 in
set_option maxRecDepth 100000 in
theorem c_Rm_open {l : Launch} {h h' : HP} {p0 p1 : _} (hr : P_Rm_open h p0 p1 = some h') : MP l y_Rm_open (Cond.code y_Rm_open b_Rm_open 2 none :: TB) rm_Rm_open h [.ref p0, .int p1] none h' := by
  refine MP_intro (cc := b_Rm_open) (by decide) (Nat.le_of_ble_eq_true rfl) (fun x hl0 C T hin => ?_)
  unfold P_Rm_open at hr
  show GG x 0 0 h 0 [(0, .ref p0), (1, .int p1)] []
  refine g_aload_n C 0 rfl d_Rm_open_0 rfl ?_
  refine g_aload_n C 0 rfl d_Rm_open_1 rfl ?_
  refine g_iload_n C 1 rfl d_Rm_open_2 rfl ?_
  obtain ⟨fsh1, hoh1, hr⟩ := of_ob hr
  obtain ⟨v2, h1, eh1, hr⟩ := of_bnd2 hr
  refine g_callV (pa := [.int p1]) C hl0 (c_Rm_none eh1) cd_Rm_399 kw_in_Rm_none kw_se_Rm_none hoh1 rfl rfl (by decide) rfl rfl (Nat.le_of_ble_eq_true rfl) d_Rm_open_3 ?_
  refine g_if_eq (tgt := 13) C d_Rm_open_6 (by decide) (fun z => ?_) (fun z => ?_)
  · have hr := of_if z hr
    refine g_iconst (v := 0) C d_Rm_open_13 (by decide) ?_
    obtain ⟨h3, eh3, hr⟩ := of_bnd hr
    refine g_putI C fp_Rm_264 eh3 d_Rm_open_14 ?_
    refine g_aload_n C 0 rfl d_Rm_open_17 rfl ?_
    obtain ⟨v4, ev4, hr⟩ := of_bnd hr
    refine g_getI C fl_Rm_264 ev4 d_Rm_open_18 ?_
    refine g_if_le (tgt := 25) C d_Rm_open_21 (by decide) (fun z => ?_) (fun z => ?_)
    · have hr := of_if z hr
      refine g_aload_n C 0 rfl d_Rm_open_25 rfl ?_
      obtain ⟨k5, ek5, hr⟩ := of_bnd hr
      refine g_getR C fl_Rm_199 ek5 d_Rm_open_26 ?_
      refine g_aload_n C 0 rfl d_Rm_open_29 rfl ?_
      obtain ⟨k6, ek6, hr⟩ := of_bnd hr
      refine g_getR C fl_Rm_20 ek6 d_Rm_open_30 ?_
      refine g_bipush (v := 32) C d_Rm_open_33 (by decide) ?_
      refine g_iload_n C 1 rfl d_Rm_open_35 rfl ?_
      refine g_imul C d_Rm_open_36 ?_
      obtain ⟨h7, eh7, hr⟩ := of_bnd hr
      refine g_callS (pa := [.ref k5, .ref k6, .int (32 * p1)]) C hl0 (c_Rm_load eh7) cd_Rm_372 kw_st_Rm_load (by decide) rfl rfl (Nat.le_of_ble_eq_true rfl) d_Rm_open_37 ?_
      refine g_aload_n C 0 rfl d_Rm_open_40 rfl ?_
      refine g_aload_n C 0 rfl d_Rm_open_41 rfl ?_
      obtain ⟨k8, ek8, hr⟩ := of_bnd hr
      refine g_getR C fl_Rm_199 ek8 d_Rm_open_42 ?_
      obtain ⟨fsh9, hoh9, hr⟩ := of_ob hr
      obtain ⟨h9, eh9, hr⟩ := of_bnd hr
      refine g_callV (pa := [.ref k8]) C hl0 (c_Rm_fromBase eh9) cd_Rm_386 kw_in_Rm_fromBase kw_se_Rm_fromBase hoh9 rfl rfl (by decide) rfl rfl (Nat.le_of_ble_eq_true rfl) d_Rm_open_45 ?_
      refine g_aload_n C 0 rfl d_Rm_open_48 rfl ?_
      obtain ⟨k10, ek10, hr⟩ := of_bnd hr
      refine g_getR C fl_Rm_17 ek10 d_Rm_open_49 ?_
      refine g_iconst (v := 0) C d_Rm_open_52 (by decide) ?_
      refine g_iconst (v := 4) C d_Rm_open_53 (by decide) ?_
      obtain ⟨h11, eh11, hr⟩ := of_bnd hr
      refine g_bastore C eh11 d_Rm_open_54 ?_
      refine g_aload_n C 0 rfl d_Rm_open_55 rfl ?_
      obtain ⟨k12, ek12, hr⟩ := of_bnd hr
      refine g_getR C fl_Rm_17 ek12 d_Rm_open_56 ?_
      refine g_iconst (v := 1) C d_Rm_open_59 (by decide) ?_
      refine g_aload_n C 0 rfl d_Rm_open_60 rfl ?_
      obtain ⟨k13, ek13, hr⟩ := of_bnd hr
      refine g_getR C fl_Rm_163 ek13 d_Rm_open_61 ?_
      obtain ⟨h14, eh14, hr⟩ := of_bnd hr
      refine g_callS (pa := [.ref k12, .int 1, .ref k13]) C hl0 (c_Rm_store eh14) cd_Rm_376 kw_st_Rm_store (by decide) rfl rfl (Nat.le_of_ble_eq_true rfl) d_Rm_open_64 ?_
      refine g_aload_n C 0 rfl d_Rm_open_67 rfl ?_
      obtain ⟨k15, ek15, hr⟩ := of_bnd hr
      refine g_getR C fl_Rm_17 ek15 d_Rm_open_68 ?_
      refine g_bipush (v := 33) C d_Rm_open_71 (by decide) ?_
      refine g_aload_n C 0 rfl d_Rm_open_73 rfl ?_
      obtain ⟨k16, ek16, hr⟩ := of_bnd hr
      refine g_getR C fl_Rm_166 ek16 d_Rm_open_74 ?_
      obtain ⟨h17, eh17, hr⟩ := of_bnd hr
      refine g_callS (pa := [.ref k15, .int 33, .ref k16]) C hl0 (c_Rm_store eh17) cd_Rm_376 kw_st_Rm_store (by decide) rfl rfl (Nat.le_of_ble_eq_true rfl) d_Rm_open_77 ?_
      refine g_aload_n C 0 rfl d_Rm_open_80 rfl ?_
      refine g_bipush (v := 65) C d_Rm_open_81 (by decide) ?_
      obtain ⟨h18, eh18, hr⟩ := of_bnd hr
      refine g_putI C fp_Rm_403 eh18 d_Rm_open_83 ?_
      cases hr
      exact g_vreturn C T (by decide) (by decide) d_Rm_open_86
    · have hr := of_el z hr
      cases hr
      exact g_vreturn C T (by decide) (by decide) d_Rm_open_24
  · have hr := of_el z hr
    refine g_iconst (v := 1) C d_Rm_open_9 (by decide) ?_
    refine g_goto (tgt := 14) C d_Rm_open_10 (by decide) ?_
    obtain ⟨h19, eh19, hr⟩ := of_bnd hr
    refine g_putI C fp_Rm_264 eh19 d_Rm_open_14 ?_
    refine g_aload_n C 0 rfl d_Rm_open_17 rfl ?_
    obtain ⟨v20, ev20, hr⟩ := of_bnd hr
    refine g_getI C fl_Rm_264 ev20 d_Rm_open_18 ?_
    refine g_if_le (tgt := 25) C d_Rm_open_21 (by decide) (fun z => ?_) (fun z => ?_)
    · have hr := of_if z hr
      refine g_aload_n C 0 rfl d_Rm_open_25 rfl ?_
      obtain ⟨k21, ek21, hr⟩ := of_bnd hr
      refine g_getR C fl_Rm_199 ek21 d_Rm_open_26 ?_
      refine g_aload_n C 0 rfl d_Rm_open_29 rfl ?_
      obtain ⟨k22, ek22, hr⟩ := of_bnd hr
      refine g_getR C fl_Rm_20 ek22 d_Rm_open_30 ?_
      refine g_bipush (v := 32) C d_Rm_open_33 (by decide) ?_
      refine g_iload_n C 1 rfl d_Rm_open_35 rfl ?_
      refine g_imul C d_Rm_open_36 ?_
      obtain ⟨h23, eh23, hr⟩ := of_bnd hr
      refine g_callS (pa := [.ref k21, .ref k22, .int (32 * p1)]) C hl0 (c_Rm_load eh23) cd_Rm_372 kw_st_Rm_load (by decide) rfl rfl (Nat.le_of_ble_eq_true rfl) d_Rm_open_37 ?_
      refine g_aload_n C 0 rfl d_Rm_open_40 rfl ?_
      refine g_aload_n C 0 rfl d_Rm_open_41 rfl ?_
      obtain ⟨k24, ek24, hr⟩ := of_bnd hr
      refine g_getR C fl_Rm_199 ek24 d_Rm_open_42 ?_
      obtain ⟨fsh25, hoh25, hr⟩ := of_ob hr
      obtain ⟨h25, eh25, hr⟩ := of_bnd hr
      refine g_callV (pa := [.ref k24]) C hl0 (c_Rm_fromBase eh25) cd_Rm_386 kw_in_Rm_fromBase kw_se_Rm_fromBase hoh25 rfl rfl (by decide) rfl rfl (Nat.le_of_ble_eq_true rfl) d_Rm_open_45 ?_
      refine g_aload_n C 0 rfl d_Rm_open_48 rfl ?_
      obtain ⟨k26, ek26, hr⟩ := of_bnd hr
      refine g_getR C fl_Rm_17 ek26 d_Rm_open_49 ?_
      refine g_iconst (v := 0) C d_Rm_open_52 (by decide) ?_
      refine g_iconst (v := 4) C d_Rm_open_53 (by decide) ?_
      obtain ⟨h27, eh27, hr⟩ := of_bnd hr
      refine g_bastore C eh27 d_Rm_open_54 ?_
      refine g_aload_n C 0 rfl d_Rm_open_55 rfl ?_
      obtain ⟨k28, ek28, hr⟩ := of_bnd hr
      refine g_getR C fl_Rm_17 ek28 d_Rm_open_56 ?_
      refine g_iconst (v := 1) C d_Rm_open_59 (by decide) ?_
      refine g_aload_n C 0 rfl d_Rm_open_60 rfl ?_
      obtain ⟨k29, ek29, hr⟩ := of_bnd hr
      refine g_getR C fl_Rm_163 ek29 d_Rm_open_61 ?_
      obtain ⟨h30, eh30, hr⟩ := of_bnd hr
      refine g_callS (pa := [.ref k28, .int 1, .ref k29]) C hl0 (c_Rm_store eh30) cd_Rm_376 kw_st_Rm_store (by decide) rfl rfl (Nat.le_of_ble_eq_true rfl) d_Rm_open_64 ?_
      refine g_aload_n C 0 rfl d_Rm_open_67 rfl ?_
      obtain ⟨k31, ek31, hr⟩ := of_bnd hr
      refine g_getR C fl_Rm_17 ek31 d_Rm_open_68 ?_
      refine g_bipush (v := 33) C d_Rm_open_71 (by decide) ?_
      refine g_aload_n C 0 rfl d_Rm_open_73 rfl ?_
      obtain ⟨k32, ek32, hr⟩ := of_bnd hr
      refine g_getR C fl_Rm_166 ek32 d_Rm_open_74 ?_
      obtain ⟨h33, eh33, hr⟩ := of_bnd hr
      refine g_callS (pa := [.ref k31, .int 33, .ref k32]) C hl0 (c_Rm_store eh33) cd_Rm_376 kw_st_Rm_store (by decide) rfl rfl (Nat.le_of_ble_eq_true rfl) d_Rm_open_77 ?_
      refine g_aload_n C 0 rfl d_Rm_open_80 rfl ?_
      refine g_bipush (v := 65) C d_Rm_open_81 (by decide) ?_
      obtain ⟨h34, eh34, hr⟩ := of_bnd hr
      refine g_putI C fp_Rm_403 eh34 d_Rm_open_83 ?_
      cases hr
      exact g_vreturn C T (by decide) (by decide) d_Rm_open_86
    · have hr := of_el z hr
      cases hr
      exact g_vreturn C T (by decide) (by decide) d_Rm_open_24
abbrev b_Rm_taken : ByteArray := prog_12_method_45_code
abbrev y_Rm_taken : MethodName := ⟨"PrimeKeysModel", "taken", "()Z"⟩
theorem d_Rm_taken_0 : decode b_Rm_taken 0 = .ok (.aload_n 0, 1) := by decide +kernel
theorem d_Rm_taken_1 : decode b_Rm_taken 1 = .ok (.getfield 8, 3) := by decide +kernel
theorem d_Rm_taken_4 : decode b_Rm_taken 4 = .ok (.iconst 0, 1) := by decide +kernel
theorem d_Rm_taken_5 : decode b_Rm_taken 5 = .ok (.baload, 1) := by decide +kernel
theorem d_Rm_taken_6 : decode b_Rm_taken 6 = .ok (.iconst 4, 1) := by decide +kernel
theorem d_Rm_taken_7 : decode b_Rm_taken 7 = .ok (.if_icmp .eq 5, 3) := by decide +kernel
theorem d_Rm_taken_10 : decode b_Rm_taken 10 = .ok (.iconst 0, 1) := by decide +kernel
theorem d_Rm_taken_11 : decode b_Rm_taken 11 = .ok (.ireturn, 1) := by decide +kernel
theorem d_Rm_taken_12 : decode b_Rm_taken 12 = .ok (.aload_n 0, 1) := by decide +kernel
theorem d_Rm_taken_13 : decode b_Rm_taken 13 = .ok (.getfield 169, 3) := by decide +kernel
theorem d_Rm_taken_16 : decode b_Rm_taken 16 = .ok (.aload_n 0, 1) := by decide +kernel
theorem d_Rm_taken_17 : decode b_Rm_taken 17 = .ok (.getfield 8, 3) := by decide +kernel
theorem d_Rm_taken_20 : decode b_Rm_taken 20 = .ok (.iconst 1, 1) := by decide +kernel
theorem d_Rm_taken_21 : decode b_Rm_taken 21 = .ok (.invokestatic 372, 3) := by decide +kernel
theorem d_Rm_taken_24 : decode b_Rm_taken 24 = .ok (.aload_n 0, 1) := by decide +kernel
theorem d_Rm_taken_25 : decode b_Rm_taken 25 = .ok (.getfield 172, 3) := by decide +kernel
theorem d_Rm_taken_28 : decode b_Rm_taken 28 = .ok (.aload_n 0, 1) := by decide +kernel
theorem d_Rm_taken_29 : decode b_Rm_taken 29 = .ok (.getfield 8, 3) := by decide +kernel
theorem d_Rm_taken_32 : decode b_Rm_taken 32 = .ok (.bipush 33, 2) := by decide +kernel
theorem d_Rm_taken_34 : decode b_Rm_taken 34 = .ok (.invokestatic 372, 3) := by decide +kernel
theorem d_Rm_taken_37 : decode b_Rm_taken 37 = .ok (.aload_n 0, 1) := by decide +kernel
theorem d_Rm_taken_38 : decode b_Rm_taken 38 = .ok (.invokevirtual 406, 3) := by decide +kernel
theorem d_Rm_taken_41 : decode b_Rm_taken 41 = .ok (.ireturn, 1) := by decide +kernel
theorem cd_Rm_406 : CD "PrimeKeysModel" 406 y_Rm_onCurve b_Rm_onCurve 2 (some .boolean) 0 := ⟨tb_5 (List.mem_of_getElem? (i := 159) rfl) rfl, tb_1 (List.mem_of_getElem? (i := 13) (by decide +kernel)) rfl, tb_5 (List.mem_of_getElem? (i := 156) (by decide +kernel)) rfl, by decide +kernel⟩
theorem kw_in_Rm_onCurve : Cond.instanceMethod y_Rm_onCurve ∈ TB := tb_5 (List.mem_of_getElem? (i := 158) (by decide +kernel)) rfl
theorem kw_se_Rm_onCurve : Cond.selects "PrimeKeysModel" y_Rm_onCurve y_Rm_onCurve ∈ TB := tb_p (q := (y_Rm_onCurve, 50)) (by decide +kernel)
abbrev rm_Rm_taken : Room := { frames := 4, cells := 0, slots := 0, locals := 106 }
def P_Rm_taken (h : HP) (p0 : Nat) : Option (Int32 × HP) :=
  bnd (gR h p0 8 1) fun k1 =>
  bnd (ldB h k1 0) fun v2 =>
  if v2 = 4 then
  bnd (gR h p0 8 19) fun k3 =>
  bnd (gR h p0 8 1) fun k4 =>
  bnd (P_Rm_load h k3 k4 1) fun h5 =>
  bnd (gR h5 p0 8 20) fun k6 =>
  bnd (gR h5 p0 8 1) fun k7 =>
  bnd (P_Rm_load h5 k6 k7 33) fun h8 =>
  ob h8 p0 8 (
  bnd2 (P_Rm_onCurve h8 p0) fun v10 h9 =>
  gd (v10 = 0 ∨ v10 = 1) (some (v10, h9)))
  else
  some (0, h)
set_option maxHeartbeats 4000000 in
set_option maxRecDepth 100000 in
theorem c_Rm_taken {l : Launch} {h h' : HP} {p0 : _} {r' : Int32} (hr : P_Rm_taken h p0 = some (r', h')) : MP l y_Rm_taken (Cond.code y_Rm_taken b_Rm_taken 1 (some .boolean) :: TB) rm_Rm_taken h [.ref p0] (some (.int r')) h' := by
  refine MP_intro (cc := b_Rm_taken) (by decide) (Nat.le_of_ble_eq_true rfl) (fun x hl0 C T hin => ?_)
  unfold P_Rm_taken at hr
  show GG x 0 0 h 0 [(0, .ref p0)] []
  refine g_aload_n C 0 rfl d_Rm_taken_0 rfl ?_
  obtain ⟨k1, ek1, hr⟩ := of_bnd hr
  refine g_getR C fl_Rm_8 ek1 d_Rm_taken_1 ?_
  refine g_iconst (v := 0) C d_Rm_taken_4 (by decide) ?_
  obtain ⟨v2, ev2, hr⟩ := of_bnd hr
  refine g_baload C ev2 d_Rm_taken_5 ?_
  refine g_iconst (v := 4) C d_Rm_taken_6 (by decide) ?_
  refine g_icmp_eq (tgt := 12) C d_Rm_taken_7 (by decide) (fun z => ?_) (fun z => ?_)
  · have hr := of_if z hr
    refine g_aload_n C 0 rfl d_Rm_taken_12 rfl ?_
    obtain ⟨k3, ek3, hr⟩ := of_bnd hr
    refine g_getR C fl_Rm_169 ek3 d_Rm_taken_13 ?_
    refine g_aload_n C 0 rfl d_Rm_taken_16 rfl ?_
    obtain ⟨k4, ek4, hr⟩ := of_bnd hr
    refine g_getR C fl_Rm_8 ek4 d_Rm_taken_17 ?_
    refine g_iconst (v := 1) C d_Rm_taken_20 (by decide) ?_
    obtain ⟨h5, eh5, hr⟩ := of_bnd hr
    refine g_callS (pa := [.ref k3, .ref k4, .int 1]) C hl0 (c_Rm_load eh5) cd_Rm_372 kw_st_Rm_load (by decide) rfl rfl (Nat.le_of_ble_eq_true rfl) d_Rm_taken_21 ?_
    refine g_aload_n C 0 rfl d_Rm_taken_24 rfl ?_
    obtain ⟨k6, ek6, hr⟩ := of_bnd hr
    refine g_getR C fl_Rm_172 ek6 d_Rm_taken_25 ?_
    refine g_aload_n C 0 rfl d_Rm_taken_28 rfl ?_
    obtain ⟨k7, ek7, hr⟩ := of_bnd hr
    refine g_getR C fl_Rm_8 ek7 d_Rm_taken_29 ?_
    refine g_bipush (v := 33) C d_Rm_taken_32 (by decide) ?_
    obtain ⟨h8, eh8, hr⟩ := of_bnd hr
    refine g_callS (pa := [.ref k6, .ref k7, .int 33]) C hl0 (c_Rm_load eh8) cd_Rm_372 kw_st_Rm_load (by decide) rfl rfl (Nat.le_of_ble_eq_true rfl) d_Rm_taken_34 ?_
    refine g_aload_n C 0 rfl d_Rm_taken_37 rfl ?_
    obtain ⟨fsh9, hoh9, hr⟩ := of_ob hr
    obtain ⟨v10, h9, eh9, hr⟩ := of_bnd2 hr
    refine g_callV (pa := []) C hl0 (c_Rm_onCurve eh9) cd_Rm_406 kw_in_Rm_onCurve kw_se_Rm_onCurve hoh9 rfl rfl (by decide) rfl rfl (Nat.le_of_ble_eq_true rfl) d_Rm_taken_38 ?_
    obtain ⟨hz, hr⟩ := of_gd hr
    cases hr
    exact g_ireturn C T (nar_z hz) (by decide) (by decide) d_Rm_taken_41
  · have hr := of_el z hr
    refine g_iconst (v := 0) C d_Rm_taken_10 (by decide) ?_
    cases hr
    exact g_ireturn C T rfl (by decide) (by decide) d_Rm_taken_11
abbrev b_Rm_agree : ByteArray := prog_12_method_46_code
abbrev y_Rm_agree : MethodName := ⟨"PrimeKeysModel", "agree", "(I)V"⟩
theorem d_Rm_agree_0 : decode b_Rm_agree 0 = .ok (.aload_n 0, 1) := by decide +kernel
theorem d_Rm_agree_1 : decode b_Rm_agree 1 = .ok (.aload_n 0, 1) := by decide +kernel
theorem d_Rm_agree_2 : decode b_Rm_agree 2 = .ok (.iload_n 1, 1) := by decide +kernel
theorem d_Rm_agree_3 : decode b_Rm_agree 3 = .ok (.invokevirtual 399, 3) := by decide +kernel
theorem d_Rm_agree_6 : decode b_Rm_agree 6 = .ok (.ifCond .eq 7, 3) := by decide +kernel
theorem d_Rm_agree_9 : decode b_Rm_agree 9 = .ok (.iconst 1, 1) := by decide +kernel
theorem d_Rm_agree_10 : decode b_Rm_agree 10 = .ok (.goto 24, 3) := by decide +kernel
theorem d_Rm_agree_13 : decode b_Rm_agree 13 = .ok (.aload_n 0, 1) := by decide +kernel
theorem d_Rm_agree_14 : decode b_Rm_agree 14 = .ok (.getfield 389, 3) := by decide +kernel
theorem d_Rm_agree_17 : decode b_Rm_agree 17 = .ok (.bipush 65, 2) := by decide +kernel
theorem d_Rm_agree_19 : decode b_Rm_agree 19 = .ok (.if_icmp .ne 10, 3) := by decide +kernel
theorem d_Rm_agree_22 : decode b_Rm_agree 22 = .ok (.aload_n 0, 1) := by decide +kernel
theorem d_Rm_agree_23 : decode b_Rm_agree 23 = .ok (.invokevirtual 410, 3) := by decide +kernel
theorem d_Rm_agree_26 : decode b_Rm_agree 26 = .ok (.ifCond .ne 7, 3) := by decide +kernel
theorem d_Rm_agree_29 : decode b_Rm_agree 29 = .ok (.iconst 2, 1) := by decide +kernel
theorem d_Rm_agree_30 : decode b_Rm_agree 30 = .ok (.goto 4, 3) := by decide +kernel
theorem d_Rm_agree_33 : decode b_Rm_agree 33 = .ok (.iconst 0, 1) := by decide +kernel
theorem d_Rm_agree_34 : decode b_Rm_agree 34 = .ok (.putfield 264, 3) := by decide +kernel
theorem d_Rm_agree_37 : decode b_Rm_agree 37 = .ok (.aload_n 0, 1) := by decide +kernel
theorem d_Rm_agree_38 : decode b_Rm_agree 38 = .ok (.getfield 264, 3) := by decide +kernel
theorem d_Rm_agree_41 : decode b_Rm_agree 41 = .ok (.ifCond .le 4, 3) := by decide +kernel
theorem d_Rm_agree_44 : decode b_Rm_agree 44 = .ok (.return_, 1) := by decide +kernel
theorem d_Rm_agree_45 : decode b_Rm_agree 45 = .ok (.aload_n 0, 1) := by decide +kernel
theorem d_Rm_agree_46 : decode b_Rm_agree 46 = .ok (.getfield 199, 3) := by decide +kernel
theorem d_Rm_agree_49 : decode b_Rm_agree 49 = .ok (.aload_n 0, 1) := by decide +kernel
theorem d_Rm_agree_50 : decode b_Rm_agree 50 = .ok (.getfield 20, 3) := by decide +kernel
theorem d_Rm_agree_53 : decode b_Rm_agree 53 = .ok (.bipush 32, 2) := by decide +kernel
theorem d_Rm_agree_55 : decode b_Rm_agree 55 = .ok (.iload_n 1, 1) := by decide +kernel
theorem d_Rm_agree_56 : decode b_Rm_agree 56 = .ok (.imul, 1) := by decide +kernel
theorem d_Rm_agree_57 : decode b_Rm_agree 57 = .ok (.invokestatic 372, 3) := by decide +kernel
theorem d_Rm_agree_60 : decode b_Rm_agree 60 = .ok (.aload_n 0, 1) := by decide +kernel
theorem d_Rm_agree_61 : decode b_Rm_agree 61 = .ok (.aload_n 0, 1) := by decide +kernel
theorem d_Rm_agree_62 : decode b_Rm_agree 62 = .ok (.getfield 199, 3) := by decide +kernel
theorem d_Rm_agree_65 : decode b_Rm_agree 65 = .ok (.invokevirtual 362, 3) := by decide +kernel
theorem d_Rm_agree_68 : decode b_Rm_agree 68 = .ok (.aload_n 0, 1) := by decide +kernel
theorem d_Rm_agree_69 : decode b_Rm_agree 69 = .ok (.iconst 0, 1) := by decide +kernel
theorem d_Rm_agree_70 : decode b_Rm_agree 70 = .ok (.putfield 389, 3) := by decide +kernel
theorem d_Rm_agree_73 : decode b_Rm_agree 73 = .ok (.aload_n 0, 1) := by decide +kernel
theorem d_Rm_agree_74 : decode b_Rm_agree 74 = .ok (.getfield 17, 3) := by decide +kernel
theorem d_Rm_agree_77 : decode b_Rm_agree 77 = .ok (.iconst 0, 1) := by decide +kernel
theorem d_Rm_agree_78 : decode b_Rm_agree 78 = .ok (.aload_n 0, 1) := by decide +kernel
theorem d_Rm_agree_79 : decode b_Rm_agree 79 = .ok (.getfield 163, 3) := by decide +kernel
theorem d_Rm_agree_82 : decode b_Rm_agree 82 = .ok (.invokestatic 376, 3) := by decide +kernel
theorem d_Rm_agree_85 : decode b_Rm_agree 85 = .ok (.aload_n 0, 1) := by decide +kernel
theorem d_Rm_agree_86 : decode b_Rm_agree 86 = .ok (.bipush 32, 2) := by decide +kernel
theorem d_Rm_agree_88 : decode b_Rm_agree 88 = .ok (.putfield 403, 3) := by decide +kernel
theorem d_Rm_agree_91 : decode b_Rm_agree 91 = .ok (.return_, 1) := by decide +kernel
theorem cd_Rm_410 : CD "PrimeKeysModel" 410 y_Rm_taken b_Rm_taken 1 (some .boolean) 0 := ⟨tb_5 (List.mem_of_getElem? (i := 155) rfl) rfl, tb_1 (List.mem_of_getElem? (i := 13) (by decide +kernel)) rfl, tb_5 (List.mem_of_getElem? (i := 152) (by decide +kernel)) rfl, by decide +kernel⟩
theorem kw_in_Rm_taken : Cond.instanceMethod y_Rm_taken ∈ TB := tb_5 (List.mem_of_getElem? (i := 154) (by decide +kernel)) rfl
theorem kw_se_Rm_taken : Cond.selects "PrimeKeysModel" y_Rm_taken y_Rm_taken ∈ TB := tb_p (q := (y_Rm_taken, 50)) (by decide +kernel)
abbrev rm_Rm_agree : Room := { frames := 5, cells := 0, slots := 0, locals := 127 }
def P_Rm_agree (h : HP) (p0 : Nat) (p1 : Int32) : Option (HP) :=
  ob h p0 8 (
  bnd2 (P_Rm_none h p0 p1) fun v2 h1 =>
  if v2 = 0 then
  bnd (gI h1 p0 8 5) fun v3 =>
  if v3 = 65 then
  ob h1 p0 8 (
  bnd2 (P_Rm_taken h1 p0) fun v17 h16 =>
  if v17 = 0 then
  bnd (pV h16 p0 8 0 (.int 2)) fun h30 =>
  bnd (gI h30 p0 8 0) fun v31 =>
  if v31 ≤ 0 then
  bnd (gR h30 p0 8 31) fun k32 =>
  bnd (gR h30 p0 8 4) fun k33 =>
  bnd (P_Rm_load h30 k32 k33 (32 * p1)) fun h34 =>
  bnd (gR h34 p0 8 31) fun k35 =>
  ob h34 p0 8 (
  bnd (P_Rm_multiply h34 p0 k35) fun h36 =>
  bnd (pV h36 p0 8 5 (.int 0)) fun h37 =>
  bnd (gR h37 p0 8 3) fun k38 =>
  bnd (gR h37 p0 8 17) fun k39 =>
  bnd (P_Rm_store h37 k38 0 k39) fun h40 =>
  bnd (pV h40 p0 8 7 (.int 32)) fun h41 =>
  some h41)
  else
  some h30
  else
  bnd (pV h16 p0 8 0 (.int 0)) fun h18 =>
  bnd (gI h18 p0 8 0) fun v19 =>
  if v19 ≤ 0 then
  bnd (gR h18 p0 8 31) fun k20 =>
  bnd (gR h18 p0 8 4) fun k21 =>
  bnd (P_Rm_load h18 k20 k21 (32 * p1)) fun h22 =>
  bnd (gR h22 p0 8 31) fun k23 =>
  ob h22 p0 8 (
  bnd (P_Rm_multiply h22 p0 k23) fun h24 =>
  bnd (pV h24 p0 8 5 (.int 0)) fun h25 =>
  bnd (gR h25 p0 8 3) fun k26 =>
  bnd (gR h25 p0 8 17) fun k27 =>
  bnd (P_Rm_store h25 k26 0 k27) fun h28 =>
  bnd (pV h28 p0 8 7 (.int 32)) fun h29 =>
  some h29)
  else
  some h18)
  else
  bnd (pV h1 p0 8 0 (.int 2)) fun h4 =>
  bnd (gI h4 p0 8 0) fun v5 =>
  if v5 ≤ 0 then
  bnd (gR h4 p0 8 31) fun k6 =>
  bnd (gR h4 p0 8 4) fun k7 =>
  bnd (P_Rm_load h4 k6 k7 (32 * p1)) fun h8 =>
  bnd (gR h8 p0 8 31) fun k9 =>
  ob h8 p0 8 (
  bnd (P_Rm_multiply h8 p0 k9) fun h10 =>
  bnd (pV h10 p0 8 5 (.int 0)) fun h11 =>
  bnd (gR h11 p0 8 3) fun k12 =>
  bnd (gR h11 p0 8 17) fun k13 =>
  bnd (P_Rm_store h11 k12 0 k13) fun h14 =>
  bnd (pV h14 p0 8 7 (.int 32)) fun h15 =>
  some h15)
  else
  some h4
  else
  bnd (pV h1 p0 8 0 (.int 1)) fun h42 =>
  bnd (gI h42 p0 8 0) fun v43 =>
  if v43 ≤ 0 then
  bnd (gR h42 p0 8 31) fun k44 =>
  bnd (gR h42 p0 8 4) fun k45 =>
  bnd (P_Rm_load h42 k44 k45 (32 * p1)) fun h46 =>
  bnd (gR h46 p0 8 31) fun k47 =>
  ob h46 p0 8 (
  bnd (P_Rm_multiply h46 p0 k47) fun h48 =>
  bnd (pV h48 p0 8 5 (.int 0)) fun h49 =>
  bnd (gR h49 p0 8 3) fun k50 =>
  bnd (gR h49 p0 8 17) fun k51 =>
  bnd (P_Rm_store h49 k50 0 k51) fun h52 =>
  bnd (pV h52 p0 8 7 (.int 32)) fun h53 =>
  some h53)
  else
  some h42)
set_option maxHeartbeats 4000000 in
set_option maxRecDepth 100000 in
theorem c_Rm_agree {l : Launch} {h h' : HP} {p0 p1 : _} (hr : P_Rm_agree h p0 p1 = some h') : MP l y_Rm_agree (Cond.code y_Rm_agree b_Rm_agree 2 none :: TB) rm_Rm_agree h [.ref p0, .int p1] none h' := by
  refine MP_intro (cc := b_Rm_agree) (by decide) (Nat.le_of_ble_eq_true rfl) (fun x hl0 C T hin => ?_)
  unfold P_Rm_agree at hr
  show GG x 0 0 h 0 [(0, .ref p0), (1, .int p1)] []
  refine g_aload_n C 0 rfl d_Rm_agree_0 rfl ?_
  refine g_aload_n C 0 rfl d_Rm_agree_1 rfl ?_
  refine g_iload_n C 1 rfl d_Rm_agree_2 rfl ?_
  obtain ⟨fsh1, hoh1, hr⟩ := of_ob hr
  obtain ⟨v2, h1, eh1, hr⟩ := of_bnd2 hr
  refine g_callV (pa := [.int p1]) C hl0 (c_Rm_none eh1) cd_Rm_399 kw_in_Rm_none kw_se_Rm_none hoh1 rfl rfl (by decide) rfl rfl (Nat.le_of_ble_eq_true rfl) d_Rm_agree_3 ?_
  refine g_if_eq (tgt := 13) C d_Rm_agree_6 (by decide) (fun z => ?_) (fun z => ?_)
  · have hr := of_if z hr
    refine g_aload_n C 0 rfl d_Rm_agree_13 rfl ?_
    obtain ⟨v3, ev3, hr⟩ := of_bnd hr
    refine g_getI C fl_Rm_389 ev3 d_Rm_agree_14 ?_
    refine g_bipush (v := 65) C d_Rm_agree_17 (by decide) ?_
    refine g_icmp_ne (tgt := 29) C d_Rm_agree_19 (by decide) (fun z => ?_) (fun z => ?_)
    · have hr := of_el z hr
      refine g_iconst (v := 2) C d_Rm_agree_29 (by decide) ?_
      refine g_goto (tgt := 34) C d_Rm_agree_30 (by decide) ?_
      obtain ⟨h4, eh4, hr⟩ := of_bnd hr
      refine g_putI C fp_Rm_264 eh4 d_Rm_agree_34 ?_
      refine g_aload_n C 0 rfl d_Rm_agree_37 rfl ?_
      obtain ⟨v5, ev5, hr⟩ := of_bnd hr
      refine g_getI C fl_Rm_264 ev5 d_Rm_agree_38 ?_
      refine g_if_le (tgt := 45) C d_Rm_agree_41 (by decide) (fun z => ?_) (fun z => ?_)
      · have hr := of_if z hr
        refine g_aload_n C 0 rfl d_Rm_agree_45 rfl ?_
        obtain ⟨k6, ek6, hr⟩ := of_bnd hr
        refine g_getR C fl_Rm_199 ek6 d_Rm_agree_46 ?_
        refine g_aload_n C 0 rfl d_Rm_agree_49 rfl ?_
        obtain ⟨k7, ek7, hr⟩ := of_bnd hr
        refine g_getR C fl_Rm_20 ek7 d_Rm_agree_50 ?_
        refine g_bipush (v := 32) C d_Rm_agree_53 (by decide) ?_
        refine g_iload_n C 1 rfl d_Rm_agree_55 rfl ?_
        refine g_imul C d_Rm_agree_56 ?_
        obtain ⟨h8, eh8, hr⟩ := of_bnd hr
        refine g_callS (pa := [.ref k6, .ref k7, .int (32 * p1)]) C hl0 (c_Rm_load eh8) cd_Rm_372 kw_st_Rm_load (by decide) rfl rfl (Nat.le_of_ble_eq_true rfl) d_Rm_agree_57 ?_
        refine g_aload_n C 0 rfl d_Rm_agree_60 rfl ?_
        refine g_aload_n C 0 rfl d_Rm_agree_61 rfl ?_
        obtain ⟨k9, ek9, hr⟩ := of_bnd hr
        refine g_getR C fl_Rm_199 ek9 d_Rm_agree_62 ?_
        obtain ⟨fsh10, hoh10, hr⟩ := of_ob hr
        obtain ⟨h10, eh10, hr⟩ := of_bnd hr
        refine g_callV (pa := [.ref k9]) C hl0 (c_Rm_multiply eh10) cd_Rm_362 kw_in_Rm_multiply kw_se_Rm_multiply hoh10 rfl rfl (by decide) rfl rfl (Nat.le_of_ble_eq_true rfl) d_Rm_agree_65 ?_
        refine g_aload_n C 0 rfl d_Rm_agree_68 rfl ?_
        refine g_iconst (v := 0) C d_Rm_agree_69 (by decide) ?_
        obtain ⟨h11, eh11, hr⟩ := of_bnd hr
        refine g_putI C fp_Rm_389 eh11 d_Rm_agree_70 ?_
        refine g_aload_n C 0 rfl d_Rm_agree_73 rfl ?_
        obtain ⟨k12, ek12, hr⟩ := of_bnd hr
        refine g_getR C fl_Rm_17 ek12 d_Rm_agree_74 ?_
        refine g_iconst (v := 0) C d_Rm_agree_77 (by decide) ?_
        refine g_aload_n C 0 rfl d_Rm_agree_78 rfl ?_
        obtain ⟨k13, ek13, hr⟩ := of_bnd hr
        refine g_getR C fl_Rm_163 ek13 d_Rm_agree_79 ?_
        obtain ⟨h14, eh14, hr⟩ := of_bnd hr
        refine g_callS (pa := [.ref k12, .int 0, .ref k13]) C hl0 (c_Rm_store eh14) cd_Rm_376 kw_st_Rm_store (by decide) rfl rfl (Nat.le_of_ble_eq_true rfl) d_Rm_agree_82 ?_
        refine g_aload_n C 0 rfl d_Rm_agree_85 rfl ?_
        refine g_bipush (v := 32) C d_Rm_agree_86 (by decide) ?_
        obtain ⟨h15, eh15, hr⟩ := of_bnd hr
        refine g_putI C fp_Rm_403 eh15 d_Rm_agree_88 ?_
        cases hr
        exact g_vreturn C T (by decide) (by decide) d_Rm_agree_91
      · have hr := of_el z hr
        cases hr
        exact g_vreturn C T (by decide) (by decide) d_Rm_agree_44
    · have hr := of_if z hr
      refine g_aload_n C 0 rfl d_Rm_agree_22 rfl ?_
      obtain ⟨fsh16, hoh16, hr⟩ := of_ob hr
      obtain ⟨v17, h16, eh16, hr⟩ := of_bnd2 hr
      refine g_callV (pa := []) C hl0 (c_Rm_taken eh16) cd_Rm_410 kw_in_Rm_taken kw_se_Rm_taken hoh16 rfl rfl (by decide) rfl rfl (Nat.le_of_ble_eq_true rfl) d_Rm_agree_23 ?_
      refine g_if_ne (tgt := 33) C d_Rm_agree_26 (by decide) (fun z => ?_) (fun z => ?_)
      · have hr := of_el z hr
        refine g_iconst (v := 0) C d_Rm_agree_33 (by decide) ?_
        obtain ⟨h18, eh18, hr⟩ := of_bnd hr
        refine g_putI C fp_Rm_264 eh18 d_Rm_agree_34 ?_
        refine g_aload_n C 0 rfl d_Rm_agree_37 rfl ?_
        obtain ⟨v19, ev19, hr⟩ := of_bnd hr
        refine g_getI C fl_Rm_264 ev19 d_Rm_agree_38 ?_
        refine g_if_le (tgt := 45) C d_Rm_agree_41 (by decide) (fun z => ?_) (fun z => ?_)
        · have hr := of_if z hr
          refine g_aload_n C 0 rfl d_Rm_agree_45 rfl ?_
          obtain ⟨k20, ek20, hr⟩ := of_bnd hr
          refine g_getR C fl_Rm_199 ek20 d_Rm_agree_46 ?_
          refine g_aload_n C 0 rfl d_Rm_agree_49 rfl ?_
          obtain ⟨k21, ek21, hr⟩ := of_bnd hr
          refine g_getR C fl_Rm_20 ek21 d_Rm_agree_50 ?_
          refine g_bipush (v := 32) C d_Rm_agree_53 (by decide) ?_
          refine g_iload_n C 1 rfl d_Rm_agree_55 rfl ?_
          refine g_imul C d_Rm_agree_56 ?_
          obtain ⟨h22, eh22, hr⟩ := of_bnd hr
          refine g_callS (pa := [.ref k20, .ref k21, .int (32 * p1)]) C hl0 (c_Rm_load eh22) cd_Rm_372 kw_st_Rm_load (by decide) rfl rfl (Nat.le_of_ble_eq_true rfl) d_Rm_agree_57 ?_
          refine g_aload_n C 0 rfl d_Rm_agree_60 rfl ?_
          refine g_aload_n C 0 rfl d_Rm_agree_61 rfl ?_
          obtain ⟨k23, ek23, hr⟩ := of_bnd hr
          refine g_getR C fl_Rm_199 ek23 d_Rm_agree_62 ?_
          obtain ⟨fsh24, hoh24, hr⟩ := of_ob hr
          obtain ⟨h24, eh24, hr⟩ := of_bnd hr
          refine g_callV (pa := [.ref k23]) C hl0 (c_Rm_multiply eh24) cd_Rm_362 kw_in_Rm_multiply kw_se_Rm_multiply hoh24 rfl rfl (by decide) rfl rfl (Nat.le_of_ble_eq_true rfl) d_Rm_agree_65 ?_
          refine g_aload_n C 0 rfl d_Rm_agree_68 rfl ?_
          refine g_iconst (v := 0) C d_Rm_agree_69 (by decide) ?_
          obtain ⟨h25, eh25, hr⟩ := of_bnd hr
          refine g_putI C fp_Rm_389 eh25 d_Rm_agree_70 ?_
          refine g_aload_n C 0 rfl d_Rm_agree_73 rfl ?_
          obtain ⟨k26, ek26, hr⟩ := of_bnd hr
          refine g_getR C fl_Rm_17 ek26 d_Rm_agree_74 ?_
          refine g_iconst (v := 0) C d_Rm_agree_77 (by decide) ?_
          refine g_aload_n C 0 rfl d_Rm_agree_78 rfl ?_
          obtain ⟨k27, ek27, hr⟩ := of_bnd hr
          refine g_getR C fl_Rm_163 ek27 d_Rm_agree_79 ?_
          obtain ⟨h28, eh28, hr⟩ := of_bnd hr
          refine g_callS (pa := [.ref k26, .int 0, .ref k27]) C hl0 (c_Rm_store eh28) cd_Rm_376 kw_st_Rm_store (by decide) rfl rfl (Nat.le_of_ble_eq_true rfl) d_Rm_agree_82 ?_
          refine g_aload_n C 0 rfl d_Rm_agree_85 rfl ?_
          refine g_bipush (v := 32) C d_Rm_agree_86 (by decide) ?_
          obtain ⟨h29, eh29, hr⟩ := of_bnd hr
          refine g_putI C fp_Rm_403 eh29 d_Rm_agree_88 ?_
          cases hr
          exact g_vreturn C T (by decide) (by decide) d_Rm_agree_91
        · have hr := of_el z hr
          cases hr
          exact g_vreturn C T (by decide) (by decide) d_Rm_agree_44
      · have hr := of_if z hr
        refine g_iconst (v := 2) C d_Rm_agree_29 (by decide) ?_
        refine g_goto (tgt := 34) C d_Rm_agree_30 (by decide) ?_
        obtain ⟨h30, eh30, hr⟩ := of_bnd hr
        refine g_putI C fp_Rm_264 eh30 d_Rm_agree_34 ?_
        refine g_aload_n C 0 rfl d_Rm_agree_37 rfl ?_
        obtain ⟨v31, ev31, hr⟩ := of_bnd hr
        refine g_getI C fl_Rm_264 ev31 d_Rm_agree_38 ?_
        refine g_if_le (tgt := 45) C d_Rm_agree_41 (by decide) (fun z => ?_) (fun z => ?_)
        · have hr := of_if z hr
          refine g_aload_n C 0 rfl d_Rm_agree_45 rfl ?_
          obtain ⟨k32, ek32, hr⟩ := of_bnd hr
          refine g_getR C fl_Rm_199 ek32 d_Rm_agree_46 ?_
          refine g_aload_n C 0 rfl d_Rm_agree_49 rfl ?_
          obtain ⟨k33, ek33, hr⟩ := of_bnd hr
          refine g_getR C fl_Rm_20 ek33 d_Rm_agree_50 ?_
          refine g_bipush (v := 32) C d_Rm_agree_53 (by decide) ?_
          refine g_iload_n C 1 rfl d_Rm_agree_55 rfl ?_
          refine g_imul C d_Rm_agree_56 ?_
          obtain ⟨h34, eh34, hr⟩ := of_bnd hr
          refine g_callS (pa := [.ref k32, .ref k33, .int (32 * p1)]) C hl0 (c_Rm_load eh34) cd_Rm_372 kw_st_Rm_load (by decide) rfl rfl (Nat.le_of_ble_eq_true rfl) d_Rm_agree_57 ?_
          refine g_aload_n C 0 rfl d_Rm_agree_60 rfl ?_
          refine g_aload_n C 0 rfl d_Rm_agree_61 rfl ?_
          obtain ⟨k35, ek35, hr⟩ := of_bnd hr
          refine g_getR C fl_Rm_199 ek35 d_Rm_agree_62 ?_
          obtain ⟨fsh36, hoh36, hr⟩ := of_ob hr
          obtain ⟨h36, eh36, hr⟩ := of_bnd hr
          refine g_callV (pa := [.ref k35]) C hl0 (c_Rm_multiply eh36) cd_Rm_362 kw_in_Rm_multiply kw_se_Rm_multiply hoh36 rfl rfl (by decide) rfl rfl (Nat.le_of_ble_eq_true rfl) d_Rm_agree_65 ?_
          refine g_aload_n C 0 rfl d_Rm_agree_68 rfl ?_
          refine g_iconst (v := 0) C d_Rm_agree_69 (by decide) ?_
          obtain ⟨h37, eh37, hr⟩ := of_bnd hr
          refine g_putI C fp_Rm_389 eh37 d_Rm_agree_70 ?_
          refine g_aload_n C 0 rfl d_Rm_agree_73 rfl ?_
          obtain ⟨k38, ek38, hr⟩ := of_bnd hr
          refine g_getR C fl_Rm_17 ek38 d_Rm_agree_74 ?_
          refine g_iconst (v := 0) C d_Rm_agree_77 (by decide) ?_
          refine g_aload_n C 0 rfl d_Rm_agree_78 rfl ?_
          obtain ⟨k39, ek39, hr⟩ := of_bnd hr
          refine g_getR C fl_Rm_163 ek39 d_Rm_agree_79 ?_
          obtain ⟨h40, eh40, hr⟩ := of_bnd hr
          refine g_callS (pa := [.ref k38, .int 0, .ref k39]) C hl0 (c_Rm_store eh40) cd_Rm_376 kw_st_Rm_store (by decide) rfl rfl (Nat.le_of_ble_eq_true rfl) d_Rm_agree_82 ?_
          refine g_aload_n C 0 rfl d_Rm_agree_85 rfl ?_
          refine g_bipush (v := 32) C d_Rm_agree_86 (by decide) ?_
          obtain ⟨h41, eh41, hr⟩ := of_bnd hr
          refine g_putI C fp_Rm_403 eh41 d_Rm_agree_88 ?_
          cases hr
          exact g_vreturn C T (by decide) (by decide) d_Rm_agree_91
        · have hr := of_el z hr
          cases hr
          exact g_vreturn C T (by decide) (by decide) d_Rm_agree_44
  · have hr := of_el z hr
    refine g_iconst (v := 1) C d_Rm_agree_9 (by decide) ?_
    refine g_goto (tgt := 34) C d_Rm_agree_10 (by decide) ?_
    obtain ⟨h42, eh42, hr⟩ := of_bnd hr
    refine g_putI C fp_Rm_264 eh42 d_Rm_agree_34 ?_
    refine g_aload_n C 0 rfl d_Rm_agree_37 rfl ?_
    obtain ⟨v43, ev43, hr⟩ := of_bnd hr
    refine g_getI C fl_Rm_264 ev43 d_Rm_agree_38 ?_
    refine g_if_le (tgt := 45) C d_Rm_agree_41 (by decide) (fun z => ?_) (fun z => ?_)
    · have hr := of_if z hr
      refine g_aload_n C 0 rfl d_Rm_agree_45 rfl ?_
      obtain ⟨k44, ek44, hr⟩ := of_bnd hr
      refine g_getR C fl_Rm_199 ek44 d_Rm_agree_46 ?_
      refine g_aload_n C 0 rfl d_Rm_agree_49 rfl ?_
      obtain ⟨k45, ek45, hr⟩ := of_bnd hr
      refine g_getR C fl_Rm_20 ek45 d_Rm_agree_50 ?_
      refine g_bipush (v := 32) C d_Rm_agree_53 (by decide) ?_
      refine g_iload_n C 1 rfl d_Rm_agree_55 rfl ?_
      refine g_imul C d_Rm_agree_56 ?_
      obtain ⟨h46, eh46, hr⟩ := of_bnd hr
      refine g_callS (pa := [.ref k44, .ref k45, .int (32 * p1)]) C hl0 (c_Rm_load eh46) cd_Rm_372 kw_st_Rm_load (by decide) rfl rfl (Nat.le_of_ble_eq_true rfl) d_Rm_agree_57 ?_
      refine g_aload_n C 0 rfl d_Rm_agree_60 rfl ?_
      refine g_aload_n C 0 rfl d_Rm_agree_61 rfl ?_
      obtain ⟨k47, ek47, hr⟩ := of_bnd hr
      refine g_getR C fl_Rm_199 ek47 d_Rm_agree_62 ?_
      obtain ⟨fsh48, hoh48, hr⟩ := of_ob hr
      obtain ⟨h48, eh48, hr⟩ := of_bnd hr
      refine g_callV (pa := [.ref k47]) C hl0 (c_Rm_multiply eh48) cd_Rm_362 kw_in_Rm_multiply kw_se_Rm_multiply hoh48 rfl rfl (by decide) rfl rfl (Nat.le_of_ble_eq_true rfl) d_Rm_agree_65 ?_
      refine g_aload_n C 0 rfl d_Rm_agree_68 rfl ?_
      refine g_iconst (v := 0) C d_Rm_agree_69 (by decide) ?_
      obtain ⟨h49, eh49, hr⟩ := of_bnd hr
      refine g_putI C fp_Rm_389 eh49 d_Rm_agree_70 ?_
      refine g_aload_n C 0 rfl d_Rm_agree_73 rfl ?_
      obtain ⟨k50, ek50, hr⟩ := of_bnd hr
      refine g_getR C fl_Rm_17 ek50 d_Rm_agree_74 ?_
      refine g_iconst (v := 0) C d_Rm_agree_77 (by decide) ?_
      refine g_aload_n C 0 rfl d_Rm_agree_78 rfl ?_
      obtain ⟨k51, ek51, hr⟩ := of_bnd hr
      refine g_getR C fl_Rm_163 ek51 d_Rm_agree_79 ?_
      obtain ⟨h52, eh52, hr⟩ := of_bnd hr
      refine g_callS (pa := [.ref k50, .int 0, .ref k51]) C hl0 (c_Rm_store eh52) cd_Rm_376 kw_st_Rm_store (by decide) rfl rfl (Nat.le_of_ble_eq_true rfl) d_Rm_agree_82 ?_
      refine g_aload_n C 0 rfl d_Rm_agree_85 rfl ?_
      refine g_bipush (v := 32) C d_Rm_agree_86 (by decide) ?_
      obtain ⟨h53, eh53, hr⟩ := of_bnd hr
      refine g_putI C fp_Rm_403 eh53 d_Rm_agree_88 ?_
      cases hr
      exact g_vreturn C T (by decide) (by decide) d_Rm_agree_91
    · have hr := of_el z hr
      cases hr
      exact g_vreturn C T (by decide) (by decide) d_Rm_agree_44
abbrev b_Rm_message : ByteArray := prog_12_method_47_code
abbrev y_Rm_message : MethodName := ⟨"PrimeKeysModel", "message", "()I"⟩
theorem d_Rm_message_0 : decode b_Rm_message 0 = .ok (.aload_n 0, 1) := by decide +kernel
theorem d_Rm_message_1 : decode b_Rm_message 1 = .ok (.iconst 0, 1) := by decide +kernel
theorem d_Rm_message_2 : decode b_Rm_message 2 = .ok (.putfield 264, 3) := by decide +kernel
theorem d_Rm_message_5 : decode b_Rm_message 5 = .ok (.iconst 0, 1) := by decide +kernel
theorem d_Rm_message_6 : decode b_Rm_message 6 = .ok (.istore_n 1, 1) := by decide +kernel
theorem d_Rm_message_7 : decode b_Rm_message 7 = .ok (.iload_n 1, 1) := by decide +kernel
theorem d_Rm_message_8 : decode b_Rm_message 8 = .ok (.aload_n 0, 1) := by decide +kernel
theorem d_Rm_message_9 : decode b_Rm_message 9 = .ok (.getfield 389, 3) := by decide +kernel
theorem d_Rm_message_12 : decode b_Rm_message 12 = .ok (.if_icmp .ge 21, 3) := by decide +kernel
theorem d_Rm_message_15 : decode b_Rm_message 15 = .ok (.aload_n 0, 1) := by decide +kernel
theorem d_Rm_message_16 : decode b_Rm_message 16 = .ok (.getfield 14, 3) := by decide +kernel
theorem d_Rm_message_19 : decode b_Rm_message 19 = .ok (.iload_n 1, 1) := by decide +kernel
theorem d_Rm_message_20 : decode b_Rm_message 20 = .ok (.aload_n 0, 1) := by decide +kernel
theorem d_Rm_message_21 : decode b_Rm_message 21 = .ok (.getfield 8, 3) := by decide +kernel
theorem d_Rm_message_24 : decode b_Rm_message 24 = .ok (.iload_n 1, 1) := by decide +kernel
theorem d_Rm_message_25 : decode b_Rm_message 25 = .ok (.baload, 1) := by decide +kernel
theorem d_Rm_message_26 : decode b_Rm_message 26 = .ok (.bastore, 1) := by decide +kernel
theorem d_Rm_message_27 : decode b_Rm_message 27 = .ok (.iinc 1 1, 3) := by decide +kernel
theorem d_Rm_message_30 : decode b_Rm_message 30 = .ok (.goto (-23), 3) := by decide +kernel
theorem d_Rm_message_33 : decode b_Rm_message 33 = .ok (.aload_n 0, 1) := by decide +kernel
theorem d_Rm_message_34 : decode b_Rm_message 34 = .ok (.aload_n 0, 1) := by decide +kernel
theorem d_Rm_message_35 : decode b_Rm_message 35 = .ok (.getfield 389, 3) := by decide +kernel
theorem d_Rm_message_38 : decode b_Rm_message 38 = .ok (.putfield 365, 3) := by decide +kernel
theorem d_Rm_message_41 : decode b_Rm_message 41 = .ok (.aload_n 0, 1) := by decide +kernel
theorem d_Rm_message_42 : decode b_Rm_message 42 = .ok (.iconst 0, 1) := by decide +kernel
theorem d_Rm_message_43 : decode b_Rm_message 43 = .ok (.putfield 389, 3) := by decide +kernel
theorem d_Rm_message_46 : decode b_Rm_message 46 = .ok (.aload_n 0, 1) := by decide +kernel
theorem d_Rm_message_47 : decode b_Rm_message 47 = .ok (.getfield 365, 3) := by decide +kernel
theorem d_Rm_message_50 : decode b_Rm_message 50 = .ok (.ireturn, 1) := by decide +kernel
theorem fp_Rm_365 : FP "PrimeKeysModel" 365 8 6 .int false := ⟨R_Rm, F_Rm, 50, t_Rm, rfl, u_Rm, by decide, rfl, tb_4 (List.mem_of_getElem? (i := 160) (by decide +kernel)) rfl, t_Rm_ok, n_Rm, rfl, by decide +kernel⟩
abbrev rm_Rm_message : Room := { frames := 0, cells := 0, slots := 0, locals := 0 }
def B_Rm_message_7 (K7 : HP → Nat → Int32 → Option (Int32 × HP)) (h : HP) (a0 : Nat) (a1 : Int32) : Option (Int32 × HP) :=
  bnd (gI h a0 8 5) fun v2 =>
  if v2 ≤ a1 then
  bnd (gI h a0 8 5) fun v3 =>
  bnd (pV h a0 8 6 (.int v3)) fun h4 =>
  bnd (pV h4 a0 8 5 (.int 0)) fun h5 =>
  bnd (gI h5 a0 8 6) fun v6 =>
  some (v6, h5)
  else
  bnd (gR h a0 8 2) fun k7 =>
  bnd (gR h a0 8 1) fun k8 =>
  bnd (ldB h k8 a1) fun v9 =>
  bnd (stB h k7 a1 v9) fun h10 =>
  lt (a1 + Int32.ofInt 1) fun x11 =>
  K7 h10 a0 x11
set_option maxHeartbeats 4000000 in
set_option maxRecDepth 100000 in
theorem bk_Rm_message_7 {l : Launch} {x : CX} {h0 h' : HP} {r' : Int32} (C : EV x b_Rm_message "PrimeKeysModel" 2 rm_Rm_message) (T : CT x (some .int) rm_Rm_message h0 (some (.int r')) h') (hl0 : x.1.2.1 = l) (K7 : HP → Nat → Int32 → Option (Int32 × HP)) (hK7 : ∀ (h : HP) (a0 : Nat) (a1 : Int32), K7 h a0 a1 = some (r', h') → GG x 0 0 h 7 [(0, .ref a0), (1, .int a1)] []) (h : HP) (a0 : Nat) (a1 : Int32) (hr : B_Rm_message_7 K7 h a0 a1 = some (r', h')) : GG x 0 0 h 7 [(0, .ref a0), (1, .int a1)] [] := by
  unfold B_Rm_message_7 at hr
  refine g_iload_n C 1 rfl d_Rm_message_7 rfl ?_
  refine g_aload_n C 0 rfl d_Rm_message_8 rfl ?_
  obtain ⟨v2, ev2, hr⟩ := of_bnd hr
  refine g_getI C fl_Rm_389 ev2 d_Rm_message_9 ?_
  refine g_icmp_ge (tgt := 33) C d_Rm_message_12 (by decide) (fun z => ?_) (fun z => ?_)
  · have hr := of_if z hr
    refine g_aload_n C 0 rfl d_Rm_message_33 rfl ?_
    refine g_aload_n C 0 rfl d_Rm_message_34 rfl ?_
    obtain ⟨v3, ev3, hr⟩ := of_bnd hr
    refine g_getI C fl_Rm_389 ev3 d_Rm_message_35 ?_
    obtain ⟨h4, eh4, hr⟩ := of_bnd hr
    refine g_putI C fp_Rm_365 eh4 d_Rm_message_38 ?_
    refine g_aload_n C 0 rfl d_Rm_message_41 rfl ?_
    refine g_iconst (v := 0) C d_Rm_message_42 (by decide) ?_
    obtain ⟨h5, eh5, hr⟩ := of_bnd hr
    refine g_putI C fp_Rm_389 eh5 d_Rm_message_43 ?_
    refine g_aload_n C 0 rfl d_Rm_message_46 rfl ?_
    obtain ⟨v6, ev6, hr⟩ := of_bnd hr
    refine g_getI C fl_Rm_365 ev6 d_Rm_message_47 ?_
    cases hr
    exact g_ireturn C T rfl (by decide) (by decide) d_Rm_message_50
  · have hr := of_el z hr
    refine g_aload_n C 0 rfl d_Rm_message_15 rfl ?_
    obtain ⟨k7, ek7, hr⟩ := of_bnd hr
    refine g_getR C fl_Rm_14 ek7 d_Rm_message_16 ?_
    refine g_iload_n C 1 rfl d_Rm_message_19 rfl ?_
    refine g_aload_n C 0 rfl d_Rm_message_20 rfl ?_
    obtain ⟨k8, ek8, hr⟩ := of_bnd hr
    refine g_getR C fl_Rm_8 ek8 d_Rm_message_21 ?_
    refine g_iload_n C 1 rfl d_Rm_message_24 rfl ?_
    obtain ⟨v9, ev9, hr⟩ := of_bnd hr
    refine g_baload C ev9 d_Rm_message_25 ?_
    obtain ⟨h10, eh10, hr⟩ := of_bnd hr
    refine g_bastore C eh10 d_Rm_message_26 ?_
    obtain ⟨x11, ex11⟩ : ∃ z, z = a1 + Int32.ofInt 1 := ⟨_, rfl⟩
    have hr := of_lt ex11 hr
    refine g_iinc (lv' := [(1, .int x11), (0, .ref a0)]) C 1 rfl d_Rm_message_27 ex11.symm (by decide) rfl ?_
    refine g_goto (tgt := 7) C d_Rm_message_30 (by decide) ?_
    refine g_lv [1, 0] rfl ?_
    exact hK7 h10 a0 x11 hr
def L_Rm_message_7 : Nat → HP → Nat → Int32 → Option (Int32 × HP)
  | 0, _, _, _ => none
  | f + 1, h, a0, a1 => B_Rm_message_7 (L_Rm_message_7 f) h a0 a1
theorem lp_Rm_message_7 {l : Launch} {x : CX} {h0 h' : HP} {r' : Int32} (C : EV x b_Rm_message "PrimeKeysModel" 2 rm_Rm_message) (T : CT x (some .int) rm_Rm_message h0 (some (.int r')) h') (hl0 : x.1.2.1 = l) : ∀ (f : Nat) (h : HP) (a0 : Nat) (a1 : Int32), L_Rm_message_7 f h a0 a1 = some (r', h') → GG x 0 0 h 7 [(0, .ref a0), (1, .int a1)] [] := by
  intro f
  induction f with
  | zero => intro h a0 a1 hr; have hr : (none : Option (Int32 × HP)) = some (r', h') := hr; cases hr
  | succ f ih => intro h a0 a1 hr; exact bk_Rm_message_7 C T hl0 (L_Rm_message_7 f) ih h a0 a1 hr
def P_Rm_message (h : HP) (p0 : Nat) : Option (Int32 × HP) :=
  bnd (pV h p0 8 0 (.int 0)) fun h1 =>
  L_Rm_message_7 FU h1 p0 0
set_option maxHeartbeats 4000000 in
set_option maxRecDepth 100000 in
theorem c_Rm_message {l : Launch} {h h' : HP} {p0 : _} {r' : Int32} (hr : P_Rm_message h p0 = some (r', h')) : MP l y_Rm_message (Cond.code y_Rm_message b_Rm_message 2 (some .int) :: TB) rm_Rm_message h [.ref p0] (some (.int r')) h' := by
  refine MP_intro (cc := b_Rm_message) (by decide) (Nat.le_of_ble_eq_true rfl) (fun x hl0 C T hin => ?_)
  unfold P_Rm_message at hr
  show GG x 0 0 h 0 [(0, .ref p0)] []
  refine g_aload_n C 0 rfl d_Rm_message_0 rfl ?_
  refine g_iconst (v := 0) C d_Rm_message_1 (by decide) ?_
  obtain ⟨h1, eh1, hr⟩ := of_bnd hr
  refine g_putI C fp_Rm_264 eh1 d_Rm_message_2 ?_
  refine g_iconst (v := 0) C d_Rm_message_5 (by decide) ?_
  refine g_istore_n (lv' := [(1, .int 0), (0, .ref p0)]) C d_Rm_message_6 rfl (by decide) rfl ?_
  refine g_lv [1, 0] rfl ?_
  exact lp_Rm_message_7 C T hl0 FU h1 p0 0 hr
abbrev b_Rm_put : ByteArray := prog_12_method_48_code
abbrev y_Rm_put : MethodName := ⟨"PrimeKeysModel", "put", "(I[J)I"⟩
theorem d_Rm_put_0 : decode b_Rm_put 0 = .ok (.aload_n 0, 1) := by decide +kernel
theorem d_Rm_put_1 : decode b_Rm_put 1 = .ok (.getfield 215, 3) := by decide +kernel
theorem d_Rm_put_4 : decode b_Rm_put 4 = .ok (.iconst 0, 1) := by decide +kernel
theorem d_Rm_put_5 : decode b_Rm_put 5 = .ok (.aload_n 2, 1) := by decide +kernel
theorem d_Rm_put_6 : decode b_Rm_put 6 = .ok (.invokestatic 376, 3) := by decide +kernel
theorem d_Rm_put_9 : decode b_Rm_put 9 = .ok (.iconst 0, 1) := by decide +kernel
theorem d_Rm_put_10 : decode b_Rm_put 10 = .ok (.istore_n 3, 1) := by decide +kernel
theorem d_Rm_put_11 : decode b_Rm_put 11 = .ok (.iload_n 3, 1) := by decide +kernel
theorem d_Rm_put_12 : decode b_Rm_put 12 = .ok (.bipush 31, 2) := by decide +kernel
theorem d_Rm_put_14 : decode b_Rm_put 14 = .ok (.if_icmp .ge 18, 3) := by decide +kernel
theorem d_Rm_put_17 : decode b_Rm_put 17 = .ok (.aload_n 0, 1) := by decide +kernel
theorem d_Rm_put_18 : decode b_Rm_put 18 = .ok (.getfield 215, 3) := by decide +kernel
theorem d_Rm_put_21 : decode b_Rm_put 21 = .ok (.iload_n 3, 1) := by decide +kernel
theorem d_Rm_put_22 : decode b_Rm_put 22 = .ok (.baload, 1) := by decide +kernel
theorem d_Rm_put_23 : decode b_Rm_put 23 = .ok (.ifCond .ne 9, 3) := by decide +kernel
theorem d_Rm_put_26 : decode b_Rm_put 26 = .ok (.iinc 3 1, 3) := by decide +kernel
theorem d_Rm_put_29 : decode b_Rm_put 29 = .ok (.goto (-18), 3) := by decide +kernel
theorem d_Rm_put_32 : decode b_Rm_put 32 = .ok (.aload_n 0, 1) := by decide +kernel
theorem d_Rm_put_33 : decode b_Rm_put 33 = .ok (.getfield 215, 3) := by decide +kernel
theorem d_Rm_put_36 : decode b_Rm_put 36 = .ok (.iload_n 3, 1) := by decide +kernel
theorem d_Rm_put_37 : decode b_Rm_put 37 = .ok (.baload, 1) := by decide +kernel
theorem d_Rm_put_38 : decode b_Rm_put 38 = .ok (.ifCond .ge 7, 3) := by decide +kernel
theorem d_Rm_put_41 : decode b_Rm_put 41 = .ok (.iconst 1, 1) := by decide +kernel
theorem d_Rm_put_42 : decode b_Rm_put 42 = .ok (.goto 4, 3) := by decide +kernel
theorem d_Rm_put_45 : decode b_Rm_put 45 = .ok (.iconst 0, 1) := by decide +kernel
theorem d_Rm_put_46 : decode b_Rm_put 46 = .ok (.istore 4, 2) := by decide +kernel
theorem d_Rm_put_48 : decode b_Rm_put 48 = .ok (.aload_n 0, 1) := by decide +kernel
theorem d_Rm_put_49 : decode b_Rm_put 49 = .ok (.getfield 17, 3) := by decide +kernel
theorem d_Rm_put_52 : decode b_Rm_put 52 = .ok (.iload_n 1, 1) := by decide +kernel
theorem d_Rm_put_53 : decode b_Rm_put 53 = .ok (.iconst 2, 1) := by decide +kernel
theorem d_Rm_put_54 : decode b_Rm_put 54 = .ok (.bastore, 1) := by decide +kernel
theorem d_Rm_put_55 : decode b_Rm_put 55 = .ok (.aload_n 0, 1) := by decide +kernel
theorem d_Rm_put_56 : decode b_Rm_put 56 = .ok (.getfield 17, 3) := by decide +kernel
theorem d_Rm_put_59 : decode b_Rm_put 59 = .ok (.iload_n 1, 1) := by decide +kernel
theorem d_Rm_put_60 : decode b_Rm_put 60 = .ok (.iconst 1, 1) := by decide +kernel
theorem d_Rm_put_61 : decode b_Rm_put 61 = .ok (.iadd, 1) := by decide +kernel
theorem d_Rm_put_62 : decode b_Rm_put 62 = .ok (.bipush 32, 2) := by decide +kernel
theorem d_Rm_put_64 : decode b_Rm_put 64 = .ok (.iload_n 3, 1) := by decide +kernel
theorem d_Rm_put_65 : decode b_Rm_put 65 = .ok (.isub, 1) := by decide +kernel
theorem d_Rm_put_66 : decode b_Rm_put 66 = .ok (.iload 4, 2) := by decide +kernel
theorem d_Rm_put_68 : decode b_Rm_put 68 = .ok (.iadd, 1) := by decide +kernel
theorem d_Rm_put_69 : decode b_Rm_put 69 = .ok (.i2b, 1) := by decide +kernel
theorem d_Rm_put_70 : decode b_Rm_put 70 = .ok (.bastore, 1) := by decide +kernel
theorem d_Rm_put_71 : decode b_Rm_put 71 = .ok (.aload_n 0, 1) := by decide +kernel
theorem d_Rm_put_72 : decode b_Rm_put 72 = .ok (.getfield 17, 3) := by decide +kernel
theorem d_Rm_put_75 : decode b_Rm_put 75 = .ok (.iload_n 1, 1) := by decide +kernel
theorem d_Rm_put_76 : decode b_Rm_put 76 = .ok (.iconst 2, 1) := by decide +kernel
theorem d_Rm_put_77 : decode b_Rm_put 77 = .ok (.iadd, 1) := by decide +kernel
theorem d_Rm_put_78 : decode b_Rm_put 78 = .ok (.iconst 0, 1) := by decide +kernel
theorem d_Rm_put_79 : decode b_Rm_put 79 = .ok (.bastore, 1) := by decide +kernel
theorem d_Rm_put_80 : decode b_Rm_put 80 = .ok (.iload_n 3, 1) := by decide +kernel
theorem d_Rm_put_81 : decode b_Rm_put 81 = .ok (.istore 5, 2) := by decide +kernel
theorem d_Rm_put_83 : decode b_Rm_put 83 = .ok (.iload 5, 2) := by decide +kernel
theorem d_Rm_put_85 : decode b_Rm_put 85 = .ok (.bipush 32, 2) := by decide +kernel
theorem d_Rm_put_87 : decode b_Rm_put 87 = .ok (.if_icmp .ge 32, 3) := by decide +kernel
theorem d_Rm_put_90 : decode b_Rm_put 90 = .ok (.aload_n 0, 1) := by decide +kernel
theorem d_Rm_put_91 : decode b_Rm_put 91 = .ok (.getfield 17, 3) := by decide +kernel
theorem d_Rm_put_94 : decode b_Rm_put 94 = .ok (.iload_n 1, 1) := by decide +kernel
theorem d_Rm_put_95 : decode b_Rm_put 95 = .ok (.iconst 2, 1) := by decide +kernel
theorem d_Rm_put_96 : decode b_Rm_put 96 = .ok (.iadd, 1) := by decide +kernel
theorem d_Rm_put_97 : decode b_Rm_put 97 = .ok (.iload 4, 2) := by decide +kernel
theorem d_Rm_put_99 : decode b_Rm_put 99 = .ok (.iadd, 1) := by decide +kernel
theorem d_Rm_put_100 : decode b_Rm_put 100 = .ok (.iload 5, 2) := by decide +kernel
theorem d_Rm_put_102 : decode b_Rm_put 102 = .ok (.iadd, 1) := by decide +kernel
theorem d_Rm_put_103 : decode b_Rm_put 103 = .ok (.iload_n 3, 1) := by decide +kernel
theorem d_Rm_put_104 : decode b_Rm_put 104 = .ok (.isub, 1) := by decide +kernel
theorem d_Rm_put_105 : decode b_Rm_put 105 = .ok (.aload_n 0, 1) := by decide +kernel
theorem d_Rm_put_106 : decode b_Rm_put 106 = .ok (.getfield 215, 3) := by decide +kernel
theorem d_Rm_put_109 : decode b_Rm_put 109 = .ok (.iload 5, 2) := by decide +kernel
theorem d_Rm_put_111 : decode b_Rm_put 111 = .ok (.baload, 1) := by decide +kernel
theorem d_Rm_put_112 : decode b_Rm_put 112 = .ok (.bastore, 1) := by decide +kernel
theorem d_Rm_put_113 : decode b_Rm_put 113 = .ok (.iinc 5 1, 3) := by decide +kernel
theorem d_Rm_put_116 : decode b_Rm_put 116 = .ok (.goto (-33), 3) := by decide +kernel
theorem d_Rm_put_119 : decode b_Rm_put 119 = .ok (.iload_n 1, 1) := by decide +kernel
theorem d_Rm_put_120 : decode b_Rm_put 120 = .ok (.iconst 2, 1) := by decide +kernel
theorem d_Rm_put_121 : decode b_Rm_put 121 = .ok (.iadd, 1) := by decide +kernel
theorem d_Rm_put_122 : decode b_Rm_put 122 = .ok (.iload 4, 2) := by decide +kernel
theorem d_Rm_put_124 : decode b_Rm_put 124 = .ok (.iadd, 1) := by decide +kernel
theorem d_Rm_put_125 : decode b_Rm_put 125 = .ok (.bipush 32, 2) := by decide +kernel
theorem d_Rm_put_127 : decode b_Rm_put 127 = .ok (.iadd, 1) := by decide +kernel
theorem d_Rm_put_128 : decode b_Rm_put 128 = .ok (.iload_n 3, 1) := by decide +kernel
theorem d_Rm_put_129 : decode b_Rm_put 129 = .ok (.isub, 1) := by decide +kernel
theorem d_Rm_put_130 : decode b_Rm_put 130 = .ok (.ireturn, 1) := by decide +kernel
abbrev rm_Rm_put : Room := { frames := 1, cells := 0, slots := 0, locals := 23 }
def B_Rm_put_83 (K11 : HP → Nat → Int32 → Int32 → Option (Int32 × HP)) (K83 : HP → Nat → Int32 → Int32 → Int32 → Int32 → Option (Int32 × HP)) (h : HP) (a0 : Nat) (a1 : Int32) (a3 : Int32) (a4 : Int32) (a5 : Int32) : Option (Int32 × HP) :=
  if 32 ≤ a5 then
  some ((((a1 + 2) + a4) + 32) - a3, h)
  else
  bnd (gR h a0 8 3) fun k11 =>
  bnd (gR h a0 8 36) fun k12 =>
  bnd (ldB h k12 a5) fun v13 =>
  bnd (stB h k11 ((((a1 + 2) + a4) + a5) - a3) v13) fun h14 =>
  lt (a5 + Int32.ofInt 1) fun x15 =>
  K83 h14 a0 a1 a3 a4 x15
set_option maxHeartbeats 4000000 in
set_option maxRecDepth 100000 in
theorem bk_Rm_put_83 {l : Launch} {x : CX} {h0 h' : HP} {r' : Int32} (C : EV x b_Rm_put "PrimeKeysModel" 6 rm_Rm_put) (T : CT x (some .int) rm_Rm_put h0 (some (.int r')) h') (hl0 : x.1.2.1 = l) (K11 : HP → Nat → Int32 → Int32 → Option (Int32 × HP)) (K83 : HP → Nat → Int32 → Int32 → Int32 → Int32 → Option (Int32 × HP)) (hK11 : ∀ (h : HP) (a0 : Nat) (a1 : Int32) (a3 : Int32), K11 h a0 a1 a3 = some (r', h') → GG x 0 0 h 11 [(0, .ref a0), (1, .int a1), (3, .int a3)] []) (hK83 : ∀ (h : HP) (a0 : Nat) (a1 : Int32) (a3 : Int32) (a4 : Int32) (a5 : Int32), K83 h a0 a1 a3 a4 a5 = some (r', h') → GG x 0 0 h 83 [(0, .ref a0), (1, .int a1), (3, .int a3), (4, .int a4), (5, .int a5)] []) (h : HP) (a0 : Nat) (a1 : Int32) (a3 : Int32) (a4 : Int32) (a5 : Int32) (hr : B_Rm_put_83 K11 K83 h a0 a1 a3 a4 a5 = some (r', h')) : GG x 0 0 h 83 [(0, .ref a0), (1, .int a1), (3, .int a3), (4, .int a4), (5, .int a5)] [] := by
  unfold B_Rm_put_83 at hr
  refine g_iload C 4 rfl d_Rm_put_83 ?_
  refine g_bipush (v := 32) C d_Rm_put_85 (by decide) ?_
  refine g_icmp_ge (tgt := 119) C d_Rm_put_87 (by decide) (fun z => ?_) (fun z => ?_)
  · have hr := of_if z hr
    refine g_iload_n C 1 rfl d_Rm_put_119 rfl ?_
    refine g_iconst (v := 2) C d_Rm_put_120 (by decide) ?_
    refine g_iadd C d_Rm_put_121 ?_
    refine g_iload C 3 rfl d_Rm_put_122 ?_
    refine g_iadd C d_Rm_put_124 ?_
    refine g_bipush (v := 32) C d_Rm_put_125 (by decide) ?_
    refine g_iadd C d_Rm_put_127 ?_
    refine g_iload_n C 2 rfl d_Rm_put_128 rfl ?_
    refine g_isub C d_Rm_put_129 ?_
    cases hr
    exact g_ireturn C T rfl (by decide) (by decide) d_Rm_put_130
  · have hr := of_el z hr
    refine g_aload_n C 0 rfl d_Rm_put_90 rfl ?_
    obtain ⟨k11, ek11, hr⟩ := of_bnd hr
    refine g_getR C fl_Rm_17 ek11 d_Rm_put_91 ?_
    refine g_iload_n C 1 rfl d_Rm_put_94 rfl ?_
    refine g_iconst (v := 2) C d_Rm_put_95 (by decide) ?_
    refine g_iadd C d_Rm_put_96 ?_
    refine g_iload C 3 rfl d_Rm_put_97 ?_
    refine g_iadd C d_Rm_put_99 ?_
    refine g_iload C 4 rfl d_Rm_put_100 ?_
    refine g_iadd C d_Rm_put_102 ?_
    refine g_iload_n C 2 rfl d_Rm_put_103 rfl ?_
    refine g_isub C d_Rm_put_104 ?_
    refine g_aload_n C 0 rfl d_Rm_put_105 rfl ?_
    obtain ⟨k12, ek12, hr⟩ := of_bnd hr
    refine g_getR C fl_Rm_215 ek12 d_Rm_put_106 ?_
    refine g_iload C 4 rfl d_Rm_put_109 ?_
    obtain ⟨v13, ev13, hr⟩ := of_bnd hr
    refine g_baload C ev13 d_Rm_put_111 ?_
    obtain ⟨h14, eh14, hr⟩ := of_bnd hr
    refine g_bastore C eh14 d_Rm_put_112 ?_
    obtain ⟨x15, ex15⟩ : ∃ z, z = a5 + Int32.ofInt 1 := ⟨_, rfl⟩
    have hr := of_lt ex15 hr
    refine g_iinc (lv' := [(5, .int x15), (0, .ref a0), (1, .int a1), (3, .int a3), (4, .int a4)]) C 4 rfl d_Rm_put_113 ex15.symm (by decide) rfl ?_
    refine g_goto (tgt := 83) C d_Rm_put_116 (by decide) ?_
    refine g_lv [1, 2, 3, 4, 0] rfl ?_
    exact hK83 h14 a0 a1 a3 a4 x15 hr
def L_Rm_put_83 (K11 : HP → Nat → Int32 → Int32 → Option (Int32 × HP)) : Nat → HP → Nat → Int32 → Int32 → Int32 → Int32 → Option (Int32 × HP)
  | 0, _, _, _, _, _, _ => none
  | f + 1, h, a0, a1, a3, a4, a5 => B_Rm_put_83 K11 (L_Rm_put_83 K11 f) h a0 a1 a3 a4 a5
theorem lp_Rm_put_83 {l : Launch} {x : CX} {h0 h' : HP} {r' : Int32} (C : EV x b_Rm_put "PrimeKeysModel" 6 rm_Rm_put) (T : CT x (some .int) rm_Rm_put h0 (some (.int r')) h') (hl0 : x.1.2.1 = l) (K11 : HP → Nat → Int32 → Int32 → Option (Int32 × HP)) (hK11 : ∀ (h : HP) (a0 : Nat) (a1 : Int32) (a3 : Int32), K11 h a0 a1 a3 = some (r', h') → GG x 0 0 h 11 [(0, .ref a0), (1, .int a1), (3, .int a3)] []) : ∀ (f : Nat) (h : HP) (a0 : Nat) (a1 : Int32) (a3 : Int32) (a4 : Int32) (a5 : Int32), L_Rm_put_83 K11 f h a0 a1 a3 a4 a5 = some (r', h') → GG x 0 0 h 83 [(0, .ref a0), (1, .int a1), (3, .int a3), (4, .int a4), (5, .int a5)] [] := by
  intro f
  induction f with
  | zero => intro h a0 a1 a3 a4 a5 hr; have hr : (none : Option (Int32 × HP)) = some (r', h') := hr; cases hr
  | succ f ih => intro h a0 a1 a3 a4 a5 hr; exact bk_Rm_put_83 C T hl0 K11 (L_Rm_put_83 K11 f) hK11 ih h a0 a1 a3 a4 a5 hr
def B_Rm_put_32 (K11 : HP → Nat → Int32 → Int32 → Option (Int32 × HP)) (h : HP) (a0 : Nat) (a1 : Int32) (a3 : Int32) : Option (Int32 × HP) :=
  bnd (gR h a0 8 36) fun k3 =>
  bnd (ldB h k3 a3) fun v4 =>
  if 0 ≤ v4 then
  bnd (gR h a0 8 3) fun k5 =>
  bnd (stB h k5 a1 2) fun h6 =>
  bnd (gR h6 a0 8 3) fun k7 =>
  bnd (stB h6 k7 (a1 + 1) ((Int32.toInt8 ((32 - a3) + 0)).toInt32)) fun h8 =>
  bnd (gR h8 a0 8 3) fun k9 =>
  bnd (stB h8 k9 (a1 + 2) 0) fun h10 =>
  L_Rm_put_83 K11 FU h10 a0 a1 a3 0 a3
  else
  bnd (gR h a0 8 3) fun k16 =>
  bnd (stB h k16 a1 2) fun h17 =>
  bnd (gR h17 a0 8 3) fun k18 =>
  bnd (stB h17 k18 (a1 + 1) ((Int32.toInt8 ((32 - a3) + 1)).toInt32)) fun h19 =>
  bnd (gR h19 a0 8 3) fun k20 =>
  bnd (stB h19 k20 (a1 + 2) 0) fun h21 =>
  L_Rm_put_83 K11 FU h21 a0 a1 a3 1 a3
set_option maxHeartbeats 4000000 in
set_option maxRecDepth 100000 in
theorem bk_Rm_put_32 {l : Launch} {x : CX} {h0 h' : HP} {r' : Int32} (C : EV x b_Rm_put "PrimeKeysModel" 6 rm_Rm_put) (T : CT x (some .int) rm_Rm_put h0 (some (.int r')) h') (hl0 : x.1.2.1 = l) (K11 : HP → Nat → Int32 → Int32 → Option (Int32 × HP)) (hK11 : ∀ (h : HP) (a0 : Nat) (a1 : Int32) (a3 : Int32), K11 h a0 a1 a3 = some (r', h') → GG x 0 0 h 11 [(0, .ref a0), (1, .int a1), (3, .int a3)] []) (h : HP) (a0 : Nat) (a1 : Int32) (a3 : Int32) (hr : B_Rm_put_32 K11 h a0 a1 a3 = some (r', h')) : GG x 0 0 h 32 [(0, .ref a0), (1, .int a1), (3, .int a3)] [] := by
  unfold B_Rm_put_32 at hr
  refine g_aload_n C 0 rfl d_Rm_put_32 rfl ?_
  obtain ⟨k3, ek3, hr⟩ := of_bnd hr
  refine g_getR C fl_Rm_215 ek3 d_Rm_put_33 ?_
  refine g_iload_n C 2 rfl d_Rm_put_36 rfl ?_
  obtain ⟨v4, ev4, hr⟩ := of_bnd hr
  refine g_baload C ev4 d_Rm_put_37 ?_
  refine g_if_ge (tgt := 45) C d_Rm_put_38 (by decide) (fun z => ?_) (fun z => ?_)
  · have hr := of_if z hr
    refine g_iconst (v := 0) C d_Rm_put_45 (by decide) ?_
    refine g_istore (lv' := [(4, .int 0), (0, .ref a0), (1, .int a1), (3, .int a3)]) C d_Rm_put_46 (by decide) rfl ?_
    refine g_aload_n C 1 rfl d_Rm_put_48 rfl ?_
    obtain ⟨k5, ek5, hr⟩ := of_bnd hr
    refine g_getR C fl_Rm_17 ek5 d_Rm_put_49 ?_
    refine g_iload_n C 2 rfl d_Rm_put_52 rfl ?_
    refine g_iconst (v := 2) C d_Rm_put_53 (by decide) ?_
    obtain ⟨h6, eh6, hr⟩ := of_bnd hr
    refine g_bastore C eh6 d_Rm_put_54 ?_
    refine g_aload_n C 1 rfl d_Rm_put_55 rfl ?_
    obtain ⟨k7, ek7, hr⟩ := of_bnd hr
    refine g_getR C fl_Rm_17 ek7 d_Rm_put_56 ?_
    refine g_iload_n C 2 rfl d_Rm_put_59 rfl ?_
    refine g_iconst (v := 1) C d_Rm_put_60 (by decide) ?_
    refine g_iadd C d_Rm_put_61 ?_
    refine g_bipush (v := 32) C d_Rm_put_62 (by decide) ?_
    refine g_iload_n C 3 rfl d_Rm_put_64 rfl ?_
    refine g_isub C d_Rm_put_65 ?_
    refine g_iload C 0 rfl d_Rm_put_66 ?_
    refine g_iadd C d_Rm_put_68 ?_
    refine g_i2b C d_Rm_put_69 ?_
    obtain ⟨h8, eh8, hr⟩ := of_bnd hr
    refine g_bastore C eh8 d_Rm_put_70 ?_
    refine g_aload_n C 1 rfl d_Rm_put_71 rfl ?_
    obtain ⟨k9, ek9, hr⟩ := of_bnd hr
    refine g_getR C fl_Rm_17 ek9 d_Rm_put_72 ?_
    refine g_iload_n C 2 rfl d_Rm_put_75 rfl ?_
    refine g_iconst (v := 2) C d_Rm_put_76 (by decide) ?_
    refine g_iadd C d_Rm_put_77 ?_
    refine g_iconst (v := 0) C d_Rm_put_78 (by decide) ?_
    obtain ⟨h10, eh10, hr⟩ := of_bnd hr
    refine g_bastore C eh10 d_Rm_put_79 ?_
    refine g_iload_n C 3 rfl d_Rm_put_80 rfl ?_
    refine g_istore (lv' := [(5, .int a3), (4, .int 0), (0, .ref a0), (1, .int a1), (3, .int a3)]) C d_Rm_put_81 (by decide) rfl ?_
    refine g_lv [2, 3, 4, 1, 0] rfl ?_
    exact lp_Rm_put_83 C T hl0 K11 hK11 FU h10 a0 a1 a3 0 a3 hr
  · have hr := of_el z hr
    refine g_iconst (v := 1) C d_Rm_put_41 (by decide) ?_
    refine g_goto (tgt := 46) C d_Rm_put_42 (by decide) ?_
    refine g_istore (lv' := [(4, .int 1), (0, .ref a0), (1, .int a1), (3, .int a3)]) C d_Rm_put_46 (by decide) rfl ?_
    refine g_aload_n C 1 rfl d_Rm_put_48 rfl ?_
    obtain ⟨k16, ek16, hr⟩ := of_bnd hr
    refine g_getR C fl_Rm_17 ek16 d_Rm_put_49 ?_
    refine g_iload_n C 2 rfl d_Rm_put_52 rfl ?_
    refine g_iconst (v := 2) C d_Rm_put_53 (by decide) ?_
    obtain ⟨h17, eh17, hr⟩ := of_bnd hr
    refine g_bastore C eh17 d_Rm_put_54 ?_
    refine g_aload_n C 1 rfl d_Rm_put_55 rfl ?_
    obtain ⟨k18, ek18, hr⟩ := of_bnd hr
    refine g_getR C fl_Rm_17 ek18 d_Rm_put_56 ?_
    refine g_iload_n C 2 rfl d_Rm_put_59 rfl ?_
    refine g_iconst (v := 1) C d_Rm_put_60 (by decide) ?_
    refine g_iadd C d_Rm_put_61 ?_
    refine g_bipush (v := 32) C d_Rm_put_62 (by decide) ?_
    refine g_iload_n C 3 rfl d_Rm_put_64 rfl ?_
    refine g_isub C d_Rm_put_65 ?_
    refine g_iload C 0 rfl d_Rm_put_66 ?_
    refine g_iadd C d_Rm_put_68 ?_
    refine g_i2b C d_Rm_put_69 ?_
    obtain ⟨h19, eh19, hr⟩ := of_bnd hr
    refine g_bastore C eh19 d_Rm_put_70 ?_
    refine g_aload_n C 1 rfl d_Rm_put_71 rfl ?_
    obtain ⟨k20, ek20, hr⟩ := of_bnd hr
    refine g_getR C fl_Rm_17 ek20 d_Rm_put_72 ?_
    refine g_iload_n C 2 rfl d_Rm_put_75 rfl ?_
    refine g_iconst (v := 2) C d_Rm_put_76 (by decide) ?_
    refine g_iadd C d_Rm_put_77 ?_
    refine g_iconst (v := 0) C d_Rm_put_78 (by decide) ?_
    obtain ⟨h21, eh21, hr⟩ := of_bnd hr
    refine g_bastore C eh21 d_Rm_put_79 ?_
    refine g_iload_n C 3 rfl d_Rm_put_80 rfl ?_
    refine g_istore (lv' := [(5, .int a3), (4, .int 1), (0, .ref a0), (1, .int a1), (3, .int a3)]) C d_Rm_put_81 (by decide) rfl ?_
    refine g_lv [2, 3, 4, 1, 0] rfl ?_
    exact lp_Rm_put_83 C T hl0 K11 hK11 FU h21 a0 a1 a3 1 a3 hr
def B_Rm_put_11 (K11 : HP → Nat → Int32 → Int32 → Option (Int32 × HP)) (h : HP) (a0 : Nat) (a1 : Int32) (a3 : Int32) : Option (Int32 × HP) :=
  if 31 ≤ a3 then
  B_Rm_put_32 K11 h a0 a1 a3
  else
  bnd (gR h a0 8 36) fun k22 =>
  bnd (ldB h k22 a3) fun v23 =>
  if v23 = 0 then
  lt (a3 + Int32.ofInt 1) fun x24 =>
  K11 h a0 a1 x24
  else
  B_Rm_put_32 K11 h a0 a1 a3
set_option maxHeartbeats 4000000 in
set_option maxRecDepth 100000 in
theorem bk_Rm_put_11 {l : Launch} {x : CX} {h0 h' : HP} {r' : Int32} (C : EV x b_Rm_put "PrimeKeysModel" 6 rm_Rm_put) (T : CT x (some .int) rm_Rm_put h0 (some (.int r')) h') (hl0 : x.1.2.1 = l) (K11 : HP → Nat → Int32 → Int32 → Option (Int32 × HP)) (hK11 : ∀ (h : HP) (a0 : Nat) (a1 : Int32) (a3 : Int32), K11 h a0 a1 a3 = some (r', h') → GG x 0 0 h 11 [(0, .ref a0), (1, .int a1), (3, .int a3)] []) (h : HP) (a0 : Nat) (a1 : Int32) (a3 : Int32) (hr : B_Rm_put_11 K11 h a0 a1 a3 = some (r', h')) : GG x 0 0 h 11 [(0, .ref a0), (1, .int a1), (3, .int a3)] [] := by
  unfold B_Rm_put_11 at hr
  refine g_iload_n C 2 rfl d_Rm_put_11 rfl ?_
  refine g_bipush (v := 31) C d_Rm_put_12 (by decide) ?_
  refine g_icmp_ge (tgt := 32) C d_Rm_put_14 (by decide) (fun z => ?_) (fun z => ?_)
  · have hr := of_if z hr
    exact bk_Rm_put_32 C T hl0 K11 hK11 h a0 a1 a3 hr
  · have hr := of_el z hr
    refine g_aload_n C 0 rfl d_Rm_put_17 rfl ?_
    obtain ⟨k22, ek22, hr⟩ := of_bnd hr
    refine g_getR C fl_Rm_215 ek22 d_Rm_put_18 ?_
    refine g_iload_n C 2 rfl d_Rm_put_21 rfl ?_
    obtain ⟨v23, ev23, hr⟩ := of_bnd hr
    refine g_baload C ev23 d_Rm_put_22 ?_
    refine g_if_ne (tgt := 32) C d_Rm_put_23 (by decide) (fun z => ?_) (fun z => ?_)
    · have hr := of_el z hr
      exact bk_Rm_put_32 C T hl0 K11 hK11 h a0 a1 a3 hr
    · have hr := of_if z hr
      obtain ⟨x24, ex24⟩ : ∃ z, z = a3 + Int32.ofInt 1 := ⟨_, rfl⟩
      have hr := of_lt ex24 hr
      refine g_iinc (lv' := [(3, .int x24), (0, .ref a0), (1, .int a1)]) C 2 rfl d_Rm_put_26 ex24.symm (by decide) rfl ?_
      refine g_goto (tgt := 11) C d_Rm_put_29 (by decide) ?_
      refine g_lv [1, 2, 0] rfl ?_
      exact hK11 h a0 a1 x24 hr
def L_Rm_put_11 : Nat → HP → Nat → Int32 → Int32 → Option (Int32 × HP)
  | 0, _, _, _, _ => none
  | f + 1, h, a0, a1, a3 => B_Rm_put_11 (L_Rm_put_11 f) h a0 a1 a3
theorem lp_Rm_put_11 {l : Launch} {x : CX} {h0 h' : HP} {r' : Int32} (C : EV x b_Rm_put "PrimeKeysModel" 6 rm_Rm_put) (T : CT x (some .int) rm_Rm_put h0 (some (.int r')) h') (hl0 : x.1.2.1 = l) : ∀ (f : Nat) (h : HP) (a0 : Nat) (a1 : Int32) (a3 : Int32), L_Rm_put_11 f h a0 a1 a3 = some (r', h') → GG x 0 0 h 11 [(0, .ref a0), (1, .int a1), (3, .int a3)] [] := by
  intro f
  induction f with
  | zero => intro h a0 a1 a3 hr; have hr : (none : Option (Int32 × HP)) = some (r', h') := hr; cases hr
  | succ f ih => intro h a0 a1 a3 hr; exact bk_Rm_put_11 C T hl0 (L_Rm_put_11 f) ih h a0 a1 a3 hr
def P_Rm_put (h : HP) (p0 : Nat) (p1 : Int32) (p2 : Nat) : Option (Int32 × HP) :=
  bnd (gR h p0 8 36) fun k1 =>
  bnd (P_Rm_store h k1 0 p2) fun h2 =>
  L_Rm_put_11 FU h2 p0 p1 0
set_option maxHeartbeats 4000000 in
set_option maxRecDepth 100000 in
theorem c_Rm_put {l : Launch} {h h' : HP} {p0 p1 p2 : _} {r' : Int32} (hr : P_Rm_put h p0 p1 p2 = some (r', h')) : MP l y_Rm_put (Cond.code y_Rm_put b_Rm_put 6 (some .int) :: TB) rm_Rm_put h [.ref p0, .int p1, .ref p2] (some (.int r')) h' := by
  refine MP_intro (cc := b_Rm_put) (by decide) (Nat.le_of_ble_eq_true rfl) (fun x hl0 C T hin => ?_)
  unfold P_Rm_put at hr
  show GG x 0 0 h 0 [(0, .ref p0), (1, .int p1), (2, .ref p2)] []
  refine g_aload_n C 0 rfl d_Rm_put_0 rfl ?_
  obtain ⟨k1, ek1, hr⟩ := of_bnd hr
  refine g_getR C fl_Rm_215 ek1 d_Rm_put_1 ?_
  refine g_iconst (v := 0) C d_Rm_put_4 (by decide) ?_
  refine g_aload_n C 2 rfl d_Rm_put_5 rfl ?_
  obtain ⟨h2, eh2, hr⟩ := of_bnd hr
  refine g_callS (pa := [.ref k1, .int 0, .ref p2]) C hl0 (c_Rm_store eh2) cd_Rm_376 kw_st_Rm_store (by decide) rfl rfl (Nat.le_of_ble_eq_true rfl) d_Rm_put_6 ?_
  refine g_iconst (v := 0) C d_Rm_put_9 (by decide) ?_
  refine g_istore_n (lv' := [(3, .int 0), (0, .ref p0), (1, .int p1), (2, .ref p2)]) C d_Rm_put_10 rfl (by decide) rfl ?_
  refine g_lv [1, 2, 0] rfl ?_
  exact lp_Rm_put_11 C T hl0 FU h2 p0 p1 0 hr
abbrev b_Rm_sign : ByteArray := prog_12_method_49_code
abbrev y_Rm_sign : MethodName := ⟨"PrimeKeysModel", "sign", "(I)I"⟩
theorem d_Rm_sign_0 : decode b_Rm_sign 0 = .ok (.aload_n 0, 1) := by decide +kernel
theorem d_Rm_sign_1 : decode b_Rm_sign 1 = .ok (.iconst 0, 1) := by decide +kernel
theorem d_Rm_sign_2 : decode b_Rm_sign 2 = .ok (.putfield 264, 3) := by decide +kernel
theorem d_Rm_sign_5 : decode b_Rm_sign 5 = .ok (.aload_n 0, 1) := by decide +kernel
theorem d_Rm_sign_6 : decode b_Rm_sign 6 = .ok (.iload_n 1, 1) := by decide +kernel
theorem d_Rm_sign_7 : decode b_Rm_sign 7 = .ok (.invokevirtual 399, 3) := by decide +kernel
theorem d_Rm_sign_10 : decode b_Rm_sign 10 = .ok (.ifCond .eq 9, 3) := by decide +kernel
theorem d_Rm_sign_13 : decode b_Rm_sign 13 = .ok (.aload_n 0, 1) := by decide +kernel
theorem d_Rm_sign_14 : decode b_Rm_sign 14 = .ok (.iconst 1, 1) := by decide +kernel
theorem d_Rm_sign_15 : decode b_Rm_sign 15 = .ok (.invokevirtual 393, 3) := by decide +kernel
theorem d_Rm_sign_18 : decode b_Rm_sign 18 = .ok (.ireturn, 1) := by decide +kernel
theorem d_Rm_sign_19 : decode b_Rm_sign 19 = .ok (.aload_n 0, 1) := by decide +kernel
theorem d_Rm_sign_20 : decode b_Rm_sign 20 = .ok (.invokevirtual 413, 3) := by decide +kernel
theorem d_Rm_sign_23 : decode b_Rm_sign 23 = .ok (.iconst 0, 1) := by decide +kernel
theorem d_Rm_sign_24 : decode b_Rm_sign 24 = .ok (.istore_n 2, 1) := by decide +kernel
theorem d_Rm_sign_25 : decode b_Rm_sign 25 = .ok (.iload_n 2, 1) := by decide +kernel
theorem d_Rm_sign_26 : decode b_Rm_sign 26 = .ok (.bipush 32, 2) := by decide +kernel
theorem d_Rm_sign_28 : decode b_Rm_sign 28 = .ok (.if_icmp .ge 23, 3) := by decide +kernel
theorem d_Rm_sign_31 : decode b_Rm_sign 31 = .ok (.aload_n 0, 1) := by decide +kernel
theorem d_Rm_sign_32 : decode b_Rm_sign 32 = .ok (.getfield 205, 3) := by decide +kernel
theorem d_Rm_sign_35 : decode b_Rm_sign 35 = .ok (.iload_n 2, 1) := by decide +kernel
theorem d_Rm_sign_36 : decode b_Rm_sign 36 = .ok (.iconst 0, 1) := by decide +kernel
theorem d_Rm_sign_37 : decode b_Rm_sign 37 = .ok (.bastore, 1) := by decide +kernel
theorem d_Rm_sign_38 : decode b_Rm_sign 38 = .ok (.aload_n 0, 1) := by decide +kernel
theorem d_Rm_sign_39 : decode b_Rm_sign 39 = .ok (.getfield 208, 3) := by decide +kernel
theorem d_Rm_sign_42 : decode b_Rm_sign 42 = .ok (.iload_n 2, 1) := by decide +kernel
theorem d_Rm_sign_43 : decode b_Rm_sign 43 = .ok (.iconst 1, 1) := by decide +kernel
theorem d_Rm_sign_44 : decode b_Rm_sign 44 = .ok (.bastore, 1) := by decide +kernel
theorem d_Rm_sign_45 : decode b_Rm_sign 45 = .ok (.iinc 2 1, 3) := by decide +kernel
theorem d_Rm_sign_48 : decode b_Rm_sign 48 = .ok (.goto (-23), 3) := by decide +kernel
theorem d_Rm_sign_51 : decode b_Rm_sign 51 = .ok (.aload_n 0, 1) := by decide +kernel
theorem d_Rm_sign_52 : decode b_Rm_sign 52 = .ok (.iconst 0, 1) := by decide +kernel
theorem d_Rm_sign_53 : decode b_Rm_sign 53 = .ok (.iconst 1, 1) := by decide +kernel
theorem d_Rm_sign_54 : decode b_Rm_sign 54 = .ok (.iload_n 1, 1) := by decide +kernel
theorem d_Rm_sign_55 : decode b_Rm_sign 55 = .ok (.invokevirtual 415, 3) := by decide +kernel
theorem d_Rm_sign_58 : decode b_Rm_sign 58 = .ok (.aload_n 0, 1) := by decide +kernel
theorem d_Rm_sign_59 : decode b_Rm_sign 59 = .ok (.iconst 1, 1) := by decide +kernel
theorem d_Rm_sign_60 : decode b_Rm_sign 60 = .ok (.iconst 1, 1) := by decide +kernel
theorem d_Rm_sign_61 : decode b_Rm_sign 61 = .ok (.iload_n 1, 1) := by decide +kernel
theorem d_Rm_sign_62 : decode b_Rm_sign 62 = .ok (.invokevirtual 415, 3) := by decide +kernel
theorem d_Rm_sign_65 : decode b_Rm_sign 65 = .ok (.aload_n 0, 1) := by decide +kernel
theorem d_Rm_sign_66 : decode b_Rm_sign 66 = .ok (.invokevirtual 383, 3) := by decide +kernel
theorem d_Rm_sign_69 : decode b_Rm_sign 69 = .ok (.iconst 0, 1) := by decide +kernel
theorem d_Rm_sign_70 : decode b_Rm_sign 70 = .ok (.istore_n 2, 1) := by decide +kernel
theorem d_Rm_sign_71 : decode b_Rm_sign 71 = .ok (.iconst 0, 1) := by decide +kernel
theorem d_Rm_sign_72 : decode b_Rm_sign 72 = .ok (.istore_n 3, 1) := by decide +kernel
theorem d_Rm_sign_73 : decode b_Rm_sign 73 = .ok (.iload_n 3, 1) := by decide +kernel
theorem d_Rm_sign_74 : decode b_Rm_sign 74 = .ok (.bipush 100, 2) := by decide +kernel
theorem d_Rm_sign_76 : decode b_Rm_sign 76 = .ok (.if_icmp .ge 37, 3) := by decide +kernel
theorem d_Rm_sign_79 : decode b_Rm_sign 79 = .ok (.iload_n 2, 1) := by decide +kernel
theorem d_Rm_sign_80 : decode b_Rm_sign 80 = .ok (.ifCond .ne 33, 3) := by decide +kernel
theorem d_Rm_sign_83 : decode b_Rm_sign 83 = .ok (.aload_n 0, 1) := by decide +kernel
theorem d_Rm_sign_84 : decode b_Rm_sign 84 = .ok (.iload_n 1, 1) := by decide +kernel
theorem d_Rm_sign_85 : decode b_Rm_sign 85 = .ok (.invokevirtual 419, 3) := by decide +kernel
theorem d_Rm_sign_88 : decode b_Rm_sign 88 = .ok (.istore_n 2, 1) := by decide +kernel
theorem d_Rm_sign_89 : decode b_Rm_sign 89 = .ok (.iload_n 2, 1) := by decide +kernel
theorem d_Rm_sign_90 : decode b_Rm_sign 90 = .ok (.ifCond .eq 6, 3) := by decide +kernel
theorem d_Rm_sign_93 : decode b_Rm_sign 93 = .ok (.goto 14, 3) := by decide +kernel
theorem d_Rm_sign_96 : decode b_Rm_sign 96 = .ok (.aload_n 0, 1) := by decide +kernel
theorem d_Rm_sign_97 : decode b_Rm_sign 97 = .ok (.iconst 0, 1) := by decide +kernel
theorem d_Rm_sign_98 : decode b_Rm_sign 98 = .ok (.iconst 0, 1) := by decide +kernel
theorem d_Rm_sign_99 : decode b_Rm_sign 99 = .ok (.iload_n 1, 1) := by decide +kernel
theorem d_Rm_sign_100 : decode b_Rm_sign 100 = .ok (.invokevirtual 415, 3) := by decide +kernel
theorem d_Rm_sign_103 : decode b_Rm_sign 103 = .ok (.aload_n 0, 1) := by decide +kernel
theorem d_Rm_sign_104 : decode b_Rm_sign 104 = .ok (.invokevirtual 383, 3) := by decide +kernel
theorem d_Rm_sign_107 : decode b_Rm_sign 107 = .ok (.iinc 3 1, 3) := by decide +kernel
theorem d_Rm_sign_110 : decode b_Rm_sign 110 = .ok (.goto (-37), 3) := by decide +kernel
theorem d_Rm_sign_113 : decode b_Rm_sign 113 = .ok (.iload_n 2, 1) := by decide +kernel
theorem d_Rm_sign_114 : decode b_Rm_sign 114 = .ok (.ifCond .ne 19, 3) := by decide +kernel
theorem d_Rm_sign_117 : decode b_Rm_sign 117 = .ok (.aload_n 0, 1) := by decide +kernel
theorem d_Rm_sign_118 : decode b_Rm_sign 118 = .ok (.getfield 193, 3) := by decide +kernel
theorem d_Rm_sign_121 : decode b_Rm_sign 121 = .ok (.iconst 0, 1) := by decide +kernel
theorem d_Rm_sign_122 : decode b_Rm_sign 122 = .ok (.invokestatic 275, 3) := by decide +kernel
theorem d_Rm_sign_125 : decode b_Rm_sign 125 = .ok (.aload_n 0, 1) := by decide +kernel
theorem d_Rm_sign_126 : decode b_Rm_sign 126 = .ok (.getfield 196, 3) := by decide +kernel
theorem d_Rm_sign_129 : decode b_Rm_sign 129 = .ok (.iconst 0, 1) := by decide +kernel
theorem d_Rm_sign_130 : decode b_Rm_sign 130 = .ok (.invokestatic 275, 3) := by decide +kernel
theorem d_Rm_sign_133 : decode b_Rm_sign 133 = .ok (.aload_n 0, 1) := by decide +kernel
theorem d_Rm_sign_134 : decode b_Rm_sign 134 = .ok (.aload_n 0, 1) := by decide +kernel
theorem d_Rm_sign_135 : decode b_Rm_sign 135 = .ok (.aload_n 0, 1) := by decide +kernel
theorem d_Rm_sign_136 : decode b_Rm_sign 136 = .ok (.iconst 2, 1) := by decide +kernel
theorem d_Rm_sign_137 : decode b_Rm_sign 137 = .ok (.aload_n 0, 1) := by decide +kernel
theorem d_Rm_sign_138 : decode b_Rm_sign 138 = .ok (.getfield 193, 3) := by decide +kernel
theorem d_Rm_sign_141 : decode b_Rm_sign 141 = .ok (.invokevirtual 422, 3) := by decide +kernel
theorem d_Rm_sign_144 : decode b_Rm_sign 144 = .ok (.aload_n 0, 1) := by decide +kernel
theorem d_Rm_sign_145 : decode b_Rm_sign 145 = .ok (.getfield 196, 3) := by decide +kernel
theorem d_Rm_sign_148 : decode b_Rm_sign 148 = .ok (.invokevirtual 422, 3) := by decide +kernel
theorem d_Rm_sign_151 : decode b_Rm_sign 151 = .ok (.putfield 403, 3) := by decide +kernel
theorem d_Rm_sign_154 : decode b_Rm_sign 154 = .ok (.aload_n 0, 1) := by decide +kernel
theorem d_Rm_sign_155 : decode b_Rm_sign 155 = .ok (.getfield 17, 3) := by decide +kernel
theorem d_Rm_sign_158 : decode b_Rm_sign 158 = .ok (.iconst 0, 1) := by decide +kernel
theorem d_Rm_sign_159 : decode b_Rm_sign 159 = .ok (.bipush 48, 2) := by decide +kernel
theorem d_Rm_sign_161 : decode b_Rm_sign 161 = .ok (.bastore, 1) := by decide +kernel
theorem d_Rm_sign_162 : decode b_Rm_sign 162 = .ok (.aload_n 0, 1) := by decide +kernel
theorem d_Rm_sign_163 : decode b_Rm_sign 163 = .ok (.getfield 17, 3) := by decide +kernel
theorem d_Rm_sign_166 : decode b_Rm_sign 166 = .ok (.iconst 1, 1) := by decide +kernel
theorem d_Rm_sign_167 : decode b_Rm_sign 167 = .ok (.aload_n 0, 1) := by decide +kernel
theorem d_Rm_sign_168 : decode b_Rm_sign 168 = .ok (.getfield 403, 3) := by decide +kernel
theorem d_Rm_sign_171 : decode b_Rm_sign 171 = .ok (.iconst 2, 1) := by decide +kernel
theorem d_Rm_sign_172 : decode b_Rm_sign 172 = .ok (.isub, 1) := by decide +kernel
theorem d_Rm_sign_173 : decode b_Rm_sign 173 = .ok (.i2b, 1) := by decide +kernel
theorem d_Rm_sign_174 : decode b_Rm_sign 174 = .ok (.bastore, 1) := by decide +kernel
theorem d_Rm_sign_175 : decode b_Rm_sign 175 = .ok (.aload_n 0, 1) := by decide +kernel
theorem d_Rm_sign_176 : decode b_Rm_sign 176 = .ok (.getfield 23, 3) := by decide +kernel
theorem d_Rm_sign_179 : decode b_Rm_sign 179 = .ok (.iconst 0, 1) := by decide +kernel
theorem d_Rm_sign_180 : decode b_Rm_sign 180 = .ok (.dup2, 1) := by decide +kernel
theorem d_Rm_sign_181 : decode b_Rm_sign 181 = .ok (.iaload, 1) := by decide +kernel
theorem d_Rm_sign_182 : decode b_Rm_sign 182 = .ok (.iconst 1, 1) := by decide +kernel
theorem d_Rm_sign_183 : decode b_Rm_sign 183 = .ok (.iadd, 1) := by decide +kernel
theorem d_Rm_sign_184 : decode b_Rm_sign 184 = .ok (.iastore, 1) := by decide +kernel
theorem d_Rm_sign_185 : decode b_Rm_sign 185 = .ok (.aload_n 0, 1) := by decide +kernel
theorem d_Rm_sign_186 : decode b_Rm_sign 186 = .ok (.getfield 403, 3) := by decide +kernel
theorem d_Rm_sign_189 : decode b_Rm_sign 189 = .ok (.ireturn, 1) := by decide +kernel
theorem fl_Rm_403 : FL "PrimeKeysModel" 403 8 7 := ⟨R_Rm, F_Rm, 50, rfl, u_Rm, by decide, rfl, tb_4 (List.mem_of_getElem? (i := 161) (by decide +kernel)) rfl⟩
theorem fl_Rm_23 : FL "PrimeKeysModel" 23 8 9 := ⟨R_Rm, F_Rm, 50, rfl, u_Rm, by decide, rfl, tb_4 (List.mem_of_getElem? (i := 163) (by decide +kernel)) rfl⟩
theorem cd_Rm_422 : CD "PrimeKeysModel" 422 y_Rm_put b_Rm_put 6 (some .int) 2 := ⟨tb_5 (List.mem_of_getElem? (i := 206) rfl) rfl, tb_1 (List.mem_of_getElem? (i := 13) (by decide +kernel)) rfl, tb_5 (List.mem_of_getElem? (i := 203) (by decide +kernel)) rfl, by decide +kernel⟩
theorem kw_in_Rm_put : Cond.instanceMethod y_Rm_put ∈ TB := tb_5 (List.mem_of_getElem? (i := 205) (by decide +kernel)) rfl
theorem kw_se_Rm_put : Cond.selects "PrimeKeysModel" y_Rm_put y_Rm_put ∈ TB := tb_p (q := (y_Rm_put, 50)) (by decide +kernel)
theorem cd_Rm_415 : CD "PrimeKeysModel" 415 y_Rm_link b_Rm_link 5 none 3 := ⟨tb_5 (List.mem_of_getElem? (i := 190) rfl) rfl, tb_1 (List.mem_of_getElem? (i := 13) (by decide +kernel)) rfl, tb_5 (List.mem_of_getElem? (i := 187) (by decide +kernel)) rfl, by decide +kernel⟩
theorem kw_in_Rm_link : Cond.instanceMethod y_Rm_link ∈ TB := tb_5 (List.mem_of_getElem? (i := 189) (by decide +kernel)) rfl
theorem kw_se_Rm_link : Cond.selects "PrimeKeysModel" y_Rm_link y_Rm_link ∈ TB := tb_p (q := (y_Rm_link, 50)) (by decide +kernel)
theorem cd_Rm_419 : CD "PrimeKeysModel" 419 y_Rm_signed b_Rm_signed 2 (some .boolean) 1 := ⟨tb_5 (List.mem_of_getElem? (i := 202) rfl) rfl, tb_1 (List.mem_of_getElem? (i := 13) (by decide +kernel)) rfl, tb_5 (List.mem_of_getElem? (i := 199) (by decide +kernel)) rfl, by decide +kernel⟩
theorem kw_in_Rm_signed : Cond.instanceMethod y_Rm_signed ∈ TB := tb_5 (List.mem_of_getElem? (i := 201) (by decide +kernel)) rfl
theorem kw_se_Rm_signed : Cond.selects "PrimeKeysModel" y_Rm_signed y_Rm_signed ∈ TB := tb_p (q := (y_Rm_signed, 50)) (by decide +kernel)
theorem cd_Rm_413 : CD "PrimeKeysModel" 413 y_Rm_hashed b_Rm_hashed 1 none 0 := ⟨tb_5 (List.mem_of_getElem? (i := 171) rfl) rfl, tb_1 (List.mem_of_getElem? (i := 13) (by decide +kernel)) rfl, tb_5 (List.mem_of_getElem? (i := 168) (by decide +kernel)) rfl, by decide +kernel⟩
theorem kw_in_Rm_hashed : Cond.instanceMethod y_Rm_hashed ∈ TB := tb_5 (List.mem_of_getElem? (i := 170) (by decide +kernel)) rfl
theorem kw_se_Rm_hashed : Cond.selects "PrimeKeysModel" y_Rm_hashed y_Rm_hashed ∈ TB := tb_p (q := (y_Rm_hashed, 50)) (by decide +kernel)
abbrev rm_Rm_sign : Room := { frames := 7, cells := 0, slots := 0, locals := 169 }
def B_Rm_sign_133 (K25 : HP → Nat → Int32 → Int32 → Option (Int32 × HP)) (K73 : HP → Nat → Int32 → Int32 → Int32 → Option (Int32 × HP)) (h : HP) (a0 : Nat) : Option (Int32 × HP) :=
  bnd (gR h a0 8 29) fun k8 =>
  ob h a0 8 (
  bnd2 (P_Rm_put h a0 2 k8) fun v10 h9 =>
  bnd (gR h9 a0 8 30) fun k11 =>
  ob h9 a0 8 (
  bnd2 (P_Rm_put h9 a0 v10 k11) fun v13 h12 =>
  bnd (pV h12 a0 8 7 (.int v13)) fun h14 =>
  bnd (gR h14 a0 8 3) fun k15 =>
  bnd (stB h14 k15 0 48) fun h16 =>
  bnd (gR h16 a0 8 3) fun k17 =>
  bnd (gI h16 a0 8 7) fun v18 =>
  bnd (stB h16 k17 1 ((Int32.toInt8 (v18 - 2)).toInt32)) fun h19 =>
  bnd (gR h19 a0 8 9) fun k20 =>
  bnd (ldI h19 k20 0) fun v21 =>
  bnd (stI h19 k20 0 (v21 + 1)) fun h22 =>
  bnd (gI h22 a0 8 7) fun v23 =>
  some (v23, h22)))
set_option maxHeartbeats 4000000 in
set_option maxRecDepth 100000 in
theorem bk_Rm_sign_133 {l : Launch} {x : CX} {h0 h' : HP} {r' : Int32} (C : EV x b_Rm_sign "PrimeKeysModel" 4 rm_Rm_sign) (T : CT x (some .int) rm_Rm_sign h0 (some (.int r')) h') (hl0 : x.1.2.1 = l) (K25 : HP → Nat → Int32 → Int32 → Option (Int32 × HP)) (K73 : HP → Nat → Int32 → Int32 → Int32 → Option (Int32 × HP)) (hK25 : ∀ (h : HP) (a0 : Nat) (a1 : Int32) (a2 : Int32), K25 h a0 a1 a2 = some (r', h') → GG x 0 0 h 25 [(0, .ref a0), (1, .int a1), (2, .int a2)] []) (hK73 : ∀ (h : HP) (a0 : Nat) (a1 : Int32) (a2 : Int32) (a3 : Int32), K73 h a0 a1 a2 a3 = some (r', h') → GG x 0 0 h 73 [(0, .ref a0), (1, .int a1), (2, .int a2), (3, .int a3)] []) (h : HP) (a0 : Nat) (hr : B_Rm_sign_133 K25 K73 h a0 = some (r', h')) : GG x 0 0 h 133 [(0, .ref a0)] [] := by
  unfold B_Rm_sign_133 at hr
  refine g_aload_n C 0 rfl d_Rm_sign_133 rfl ?_
  refine g_aload_n C 0 rfl d_Rm_sign_134 rfl ?_
  refine g_aload_n C 0 rfl d_Rm_sign_135 rfl ?_
  refine g_iconst (v := 2) C d_Rm_sign_136 (by decide) ?_
  refine g_aload_n C 0 rfl d_Rm_sign_137 rfl ?_
  obtain ⟨k8, ek8, hr⟩ := of_bnd hr
  refine g_getR C fl_Rm_193 ek8 d_Rm_sign_138 ?_
  obtain ⟨fsh9, hoh9, hr⟩ := of_ob hr
  obtain ⟨v10, h9, eh9, hr⟩ := of_bnd2 hr
  refine g_callV (pa := [.int 2, .ref k8]) C hl0 (c_Rm_put eh9) cd_Rm_422 kw_in_Rm_put kw_se_Rm_put hoh9 rfl rfl (by decide) rfl rfl (Nat.le_of_ble_eq_true rfl) d_Rm_sign_141 ?_
  refine g_aload_n C 0 rfl d_Rm_sign_144 rfl ?_
  obtain ⟨k11, ek11, hr⟩ := of_bnd hr
  refine g_getR C fl_Rm_196 ek11 d_Rm_sign_145 ?_
  obtain ⟨fsh12, hoh12, hr⟩ := of_ob hr
  obtain ⟨v13, h12, eh12, hr⟩ := of_bnd2 hr
  refine g_callV (pa := [.int v10, .ref k11]) C hl0 (c_Rm_put eh12) cd_Rm_422 kw_in_Rm_put kw_se_Rm_put hoh12 rfl rfl (by decide) rfl rfl (Nat.le_of_ble_eq_true rfl) d_Rm_sign_148 ?_
  obtain ⟨h14, eh14, hr⟩ := of_bnd hr
  refine g_putI C fp_Rm_403 eh14 d_Rm_sign_151 ?_
  refine g_aload_n C 0 rfl d_Rm_sign_154 rfl ?_
  obtain ⟨k15, ek15, hr⟩ := of_bnd hr
  refine g_getR C fl_Rm_17 ek15 d_Rm_sign_155 ?_
  refine g_iconst (v := 0) C d_Rm_sign_158 (by decide) ?_
  refine g_bipush (v := 48) C d_Rm_sign_159 (by decide) ?_
  obtain ⟨h16, eh16, hr⟩ := of_bnd hr
  refine g_bastore C eh16 d_Rm_sign_161 ?_
  refine g_aload_n C 0 rfl d_Rm_sign_162 rfl ?_
  obtain ⟨k17, ek17, hr⟩ := of_bnd hr
  refine g_getR C fl_Rm_17 ek17 d_Rm_sign_163 ?_
  refine g_iconst (v := 1) C d_Rm_sign_166 (by decide) ?_
  refine g_aload_n C 0 rfl d_Rm_sign_167 rfl ?_
  obtain ⟨v18, ev18, hr⟩ := of_bnd hr
  refine g_getI C fl_Rm_403 ev18 d_Rm_sign_168 ?_
  refine g_iconst (v := 2) C d_Rm_sign_171 (by decide) ?_
  refine g_isub C d_Rm_sign_172 ?_
  refine g_i2b C d_Rm_sign_173 ?_
  obtain ⟨h19, eh19, hr⟩ := of_bnd hr
  refine g_bastore C eh19 d_Rm_sign_174 ?_
  refine g_aload_n C 0 rfl d_Rm_sign_175 rfl ?_
  obtain ⟨k20, ek20, hr⟩ := of_bnd hr
  refine g_getR C fl_Rm_23 ek20 d_Rm_sign_176 ?_
  refine g_iconst (v := 0) C d_Rm_sign_179 (by decide) ?_
  refine g_dup2_11 C d_Rm_sign_180 rfl rfl ?_
  obtain ⟨v21, ev21, hr⟩ := of_bnd hr
  refine g_iaload C ev21 d_Rm_sign_181 ?_
  refine g_iconst (v := 1) C d_Rm_sign_182 (by decide) ?_
  refine g_iadd C d_Rm_sign_183 ?_
  obtain ⟨h22, eh22, hr⟩ := of_bnd hr
  refine g_iastore C eh22 d_Rm_sign_184 ?_
  refine g_aload_n C 0 rfl d_Rm_sign_185 rfl ?_
  obtain ⟨v23, ev23, hr⟩ := of_bnd hr
  refine g_getI C fl_Rm_403 ev23 d_Rm_sign_186 ?_
  cases hr
  exact g_ireturn C T rfl (by decide) (by decide) d_Rm_sign_189
def B_Rm_sign_113 (K25 : HP → Nat → Int32 → Int32 → Option (Int32 × HP)) (K73 : HP → Nat → Int32 → Int32 → Int32 → Option (Int32 × HP)) (h : HP) (a0 : Nat) (a2 : Int32) : Option (Int32 × HP) :=
  if a2 = 0 then
  bnd (gR h a0 8 29) fun k24 =>
  bnd (P_Rm_set h k24 0) fun h25 =>
  bnd (gR h25 a0 8 30) fun k26 =>
  bnd (P_Rm_set h25 k26 0) fun h27 =>
  B_Rm_sign_133 K25 K73 h27 a0
  else
  B_Rm_sign_133 K25 K73 h a0
set_option maxHeartbeats 4000000 in
set_option maxRecDepth 100000 in
theorem bk_Rm_sign_113 {l : Launch} {x : CX} {h0 h' : HP} {r' : Int32} (C : EV x b_Rm_sign "PrimeKeysModel" 4 rm_Rm_sign) (T : CT x (some .int) rm_Rm_sign h0 (some (.int r')) h') (hl0 : x.1.2.1 = l) (K25 : HP → Nat → Int32 → Int32 → Option (Int32 × HP)) (K73 : HP → Nat → Int32 → Int32 → Int32 → Option (Int32 × HP)) (hK25 : ∀ (h : HP) (a0 : Nat) (a1 : Int32) (a2 : Int32), K25 h a0 a1 a2 = some (r', h') → GG x 0 0 h 25 [(0, .ref a0), (1, .int a1), (2, .int a2)] []) (hK73 : ∀ (h : HP) (a0 : Nat) (a1 : Int32) (a2 : Int32) (a3 : Int32), K73 h a0 a1 a2 a3 = some (r', h') → GG x 0 0 h 73 [(0, .ref a0), (1, .int a1), (2, .int a2), (3, .int a3)] []) (h : HP) (a0 : Nat) (a2 : Int32) (hr : B_Rm_sign_113 K25 K73 h a0 a2 = some (r', h')) : GG x 0 0 h 113 [(0, .ref a0), (2, .int a2)] [] := by
  unfold B_Rm_sign_113 at hr
  refine g_iload_n C 1 rfl d_Rm_sign_113 rfl ?_
  refine g_if_ne (tgt := 133) C d_Rm_sign_114 (by decide) (fun z => ?_) (fun z => ?_)
  · have hr := of_el z hr
    refine g_lv [0] rfl ?_
    exact bk_Rm_sign_133 C T hl0 K25 K73 hK25 hK73 h a0 hr
  · have hr := of_if z hr
    refine g_aload_n C 0 rfl d_Rm_sign_117 rfl ?_
    obtain ⟨k24, ek24, hr⟩ := of_bnd hr
    refine g_getR C fl_Rm_193 ek24 d_Rm_sign_118 ?_
    refine g_iconst (v := 0) C d_Rm_sign_121 (by decide) ?_
    obtain ⟨h25, eh25, hr⟩ := of_bnd hr
    refine g_callS (pa := [.ref k24, .int 0]) C hl0 (c_Rm_set eh25) cd_Rm_275 kw_st_Rm_set (by decide) rfl rfl (Nat.le_of_ble_eq_true rfl) d_Rm_sign_122 ?_
    refine g_aload_n C 0 rfl d_Rm_sign_125 rfl ?_
    obtain ⟨k26, ek26, hr⟩ := of_bnd hr
    refine g_getR C fl_Rm_196 ek26 d_Rm_sign_126 ?_
    refine g_iconst (v := 0) C d_Rm_sign_129 (by decide) ?_
    obtain ⟨h27, eh27, hr⟩ := of_bnd hr
    refine g_callS (pa := [.ref k26, .int 0]) C hl0 (c_Rm_set eh27) cd_Rm_275 kw_st_Rm_set (by decide) rfl rfl (Nat.le_of_ble_eq_true rfl) d_Rm_sign_130 ?_
    refine g_lv [0] rfl ?_
    exact bk_Rm_sign_133 C T hl0 K25 K73 hK25 hK73 h27 a0 hr
def B_Rm_sign_107 (K25 : HP → Nat → Int32 → Int32 → Option (Int32 × HP)) (K73 : HP → Nat → Int32 → Int32 → Int32 → Option (Int32 × HP)) (h : HP) (a0 : Nat) (a1 : Int32) (a2 : Int32) (a3 : Int32) : Option (Int32 × HP) :=
  lt (a3 + Int32.ofInt 1) fun x32 =>
  K73 h a0 a1 a2 x32
set_option maxHeartbeats 4000000 in
set_option maxRecDepth 100000 in
theorem bk_Rm_sign_107 {l : Launch} {x : CX} {h0 h' : HP} {r' : Int32} (C : EV x b_Rm_sign "PrimeKeysModel" 4 rm_Rm_sign) (T : CT x (some .int) rm_Rm_sign h0 (some (.int r')) h') (hl0 : x.1.2.1 = l) (K25 : HP → Nat → Int32 → Int32 → Option (Int32 × HP)) (K73 : HP → Nat → Int32 → Int32 → Int32 → Option (Int32 × HP)) (hK25 : ∀ (h : HP) (a0 : Nat) (a1 : Int32) (a2 : Int32), K25 h a0 a1 a2 = some (r', h') → GG x 0 0 h 25 [(0, .ref a0), (1, .int a1), (2, .int a2)] []) (hK73 : ∀ (h : HP) (a0 : Nat) (a1 : Int32) (a2 : Int32) (a3 : Int32), K73 h a0 a1 a2 a3 = some (r', h') → GG x 0 0 h 73 [(0, .ref a0), (1, .int a1), (2, .int a2), (3, .int a3)] []) (h : HP) (a0 : Nat) (a1 : Int32) (a2 : Int32) (a3 : Int32) (hr : B_Rm_sign_107 K25 K73 h a0 a1 a2 a3 = some (r', h')) : GG x 0 0 h 107 [(0, .ref a0), (1, .int a1), (2, .int a2), (3, .int a3)] [] := by
  unfold B_Rm_sign_107 at hr
  obtain ⟨x32, ex32⟩ : ∃ z, z = a3 + Int32.ofInt 1 := ⟨_, rfl⟩
  have hr := of_lt ex32 hr
  refine g_iinc (lv' := [(3, .int x32), (0, .ref a0), (1, .int a1), (2, .int a2)]) C 3 rfl d_Rm_sign_107 ex32.symm (by decide) rfl ?_
  refine g_goto (tgt := 73) C d_Rm_sign_110 (by decide) ?_
  refine g_lv [1, 2, 3, 0] rfl ?_
  exact hK73 h a0 a1 a2 x32 hr
def B_Rm_sign_73 (K25 : HP → Nat → Int32 → Int32 → Option (Int32 × HP)) (K73 : HP → Nat → Int32 → Int32 → Int32 → Option (Int32 × HP)) (h : HP) (a0 : Nat) (a1 : Int32) (a2 : Int32) (a3 : Int32) : Option (Int32 × HP) :=
  if 100 ≤ a3 then
  B_Rm_sign_113 K25 K73 h a0 a2
  else
  if a2 = 0 then
  ob h a0 8 (
  bnd2 (P_Rm_signed h a0 a1) fun v29 h28 =>
  if v29 = 0 then
  ob h28 a0 8 (
  bnd (P_Rm_link h28 a0 0 0 a1) fun h30 =>
  ob h30 a0 8 (
  bnd (P_Rm_draw h30 a0) fun h31 =>
  B_Rm_sign_107 K25 K73 h31 a0 a1 v29 a3))
  else
  B_Rm_sign_107 K25 K73 h28 a0 a1 v29 a3)
  else
  B_Rm_sign_113 K25 K73 h a0 a2
set_option maxHeartbeats 4000000 in
set_option maxRecDepth 100000 in
theorem bk_Rm_sign_73 {l : Launch} {x : CX} {h0 h' : HP} {r' : Int32} (C : EV x b_Rm_sign "PrimeKeysModel" 4 rm_Rm_sign) (T : CT x (some .int) rm_Rm_sign h0 (some (.int r')) h') (hl0 : x.1.2.1 = l) (K25 : HP → Nat → Int32 → Int32 → Option (Int32 × HP)) (K73 : HP → Nat → Int32 → Int32 → Int32 → Option (Int32 × HP)) (hK25 : ∀ (h : HP) (a0 : Nat) (a1 : Int32) (a2 : Int32), K25 h a0 a1 a2 = some (r', h') → GG x 0 0 h 25 [(0, .ref a0), (1, .int a1), (2, .int a2)] []) (hK73 : ∀ (h : HP) (a0 : Nat) (a1 : Int32) (a2 : Int32) (a3 : Int32), K73 h a0 a1 a2 a3 = some (r', h') → GG x 0 0 h 73 [(0, .ref a0), (1, .int a1), (2, .int a2), (3, .int a3)] []) (h : HP) (a0 : Nat) (a1 : Int32) (a2 : Int32) (a3 : Int32) (hr : B_Rm_sign_73 K25 K73 h a0 a1 a2 a3 = some (r', h')) : GG x 0 0 h 73 [(0, .ref a0), (1, .int a1), (2, .int a2), (3, .int a3)] [] := by
  unfold B_Rm_sign_73 at hr
  refine g_iload_n C 3 rfl d_Rm_sign_73 rfl ?_
  refine g_bipush (v := 100) C d_Rm_sign_74 (by decide) ?_
  refine g_icmp_ge (tgt := 113) C d_Rm_sign_76 (by decide) (fun z => ?_) (fun z => ?_)
  · have hr := of_if z hr
    refine g_lv [0, 2] rfl ?_
    exact bk_Rm_sign_113 C T hl0 K25 K73 hK25 hK73 h a0 a2 hr
  · have hr := of_el z hr
    refine g_iload_n C 2 rfl d_Rm_sign_79 rfl ?_
    refine g_if_ne (tgt := 113) C d_Rm_sign_80 (by decide) (fun z => ?_) (fun z => ?_)
    · have hr := of_el z hr
      refine g_lv [0, 2] rfl ?_
      exact bk_Rm_sign_113 C T hl0 K25 K73 hK25 hK73 h a0 a2 hr
    · have hr := of_if z hr
      refine g_aload_n C 0 rfl d_Rm_sign_83 rfl ?_
      refine g_iload_n C 1 rfl d_Rm_sign_84 rfl ?_
      obtain ⟨fsh28, hoh28, hr⟩ := of_ob hr
      obtain ⟨v29, h28, eh28, hr⟩ := of_bnd2 hr
      refine g_callV (pa := [.int a1]) C hl0 (c_Rm_signed eh28) cd_Rm_419 kw_in_Rm_signed kw_se_Rm_signed hoh28 rfl rfl (by decide) rfl rfl (Nat.le_of_ble_eq_true rfl) d_Rm_sign_85 ?_
      refine g_istore_n (lv' := [(2, .int v29), (0, .ref a0), (1, .int a1), (3, .int a3)]) C d_Rm_sign_88 rfl (by decide) rfl ?_
      refine g_iload_n C 0 rfl d_Rm_sign_89 rfl ?_
      refine g_if_eq (tgt := 96) C d_Rm_sign_90 (by decide) (fun z => ?_) (fun z => ?_)
      · have hr := of_if z hr
        refine g_aload_n C 1 rfl d_Rm_sign_96 rfl ?_
        refine g_iconst (v := 0) C d_Rm_sign_97 (by decide) ?_
        refine g_iconst (v := 0) C d_Rm_sign_98 (by decide) ?_
        refine g_iload_n C 2 rfl d_Rm_sign_99 rfl ?_
        obtain ⟨fsh30, hoh30, hr⟩ := of_ob hr
        obtain ⟨h30, eh30, hr⟩ := of_bnd hr
        refine g_callV (pa := [.int 0, .int 0, .int a1]) C hl0 (c_Rm_link eh30) cd_Rm_415 kw_in_Rm_link kw_se_Rm_link hoh30 rfl rfl (by decide) rfl rfl (Nat.le_of_ble_eq_true rfl) d_Rm_sign_100 ?_
        refine g_aload_n C 1 rfl d_Rm_sign_103 rfl ?_
        obtain ⟨fsh31, hoh31, hr⟩ := of_ob hr
        obtain ⟨h31, eh31, hr⟩ := of_bnd hr
        refine g_callV (pa := []) C hl0 (c_Rm_draw eh31) cd_Rm_383 kw_in_Rm_draw kw_se_Rm_draw hoh31 rfl rfl (by decide) rfl rfl (Nat.le_of_ble_eq_true rfl) d_Rm_sign_104 ?_
        refine g_lv [1, 2, 0, 3] rfl ?_
        exact bk_Rm_sign_107 C T hl0 K25 K73 hK25 hK73 h31 a0 a1 v29 a3 hr
      · have hr := of_el z hr
        refine g_goto (tgt := 107) C d_Rm_sign_93 (by decide) ?_
        refine g_lv [1, 2, 0, 3] rfl ?_
        exact bk_Rm_sign_107 C T hl0 K25 K73 hK25 hK73 h28 a0 a1 v29 a3 hr
def L_Rm_sign_73 (K25 : HP → Nat → Int32 → Int32 → Option (Int32 × HP)) : Nat → HP → Nat → Int32 → Int32 → Int32 → Option (Int32 × HP)
  | 0, _, _, _, _, _ => none
  | f + 1, h, a0, a1, a2, a3 => B_Rm_sign_73 K25 (L_Rm_sign_73 K25 f) h a0 a1 a2 a3
theorem lp_Rm_sign_73 {l : Launch} {x : CX} {h0 h' : HP} {r' : Int32} (C : EV x b_Rm_sign "PrimeKeysModel" 4 rm_Rm_sign) (T : CT x (some .int) rm_Rm_sign h0 (some (.int r')) h') (hl0 : x.1.2.1 = l) (K25 : HP → Nat → Int32 → Int32 → Option (Int32 × HP)) (hK25 : ∀ (h : HP) (a0 : Nat) (a1 : Int32) (a2 : Int32), K25 h a0 a1 a2 = some (r', h') → GG x 0 0 h 25 [(0, .ref a0), (1, .int a1), (2, .int a2)] []) : ∀ (f : Nat) (h : HP) (a0 : Nat) (a1 : Int32) (a2 : Int32) (a3 : Int32), L_Rm_sign_73 K25 f h a0 a1 a2 a3 = some (r', h') → GG x 0 0 h 73 [(0, .ref a0), (1, .int a1), (2, .int a2), (3, .int a3)] [] := by
  intro f
  induction f with
  | zero => intro h a0 a1 a2 a3 hr; have hr : (none : Option (Int32 × HP)) = some (r', h') := hr; cases hr
  | succ f ih => intro h a0 a1 a2 a3 hr; exact bk_Rm_sign_73 C T hl0 K25 (L_Rm_sign_73 K25 f) hK25 ih h a0 a1 a2 a3 hr
def B_Rm_sign_25 (K25 : HP → Nat → Int32 → Int32 → Option (Int32 × HP)) (h : HP) (a0 : Nat) (a1 : Int32) (a2 : Int32) : Option (Int32 × HP) :=
  if 32 ≤ a2 then
  ob h a0 8 (
  bnd (P_Rm_link h a0 0 1 a1) fun h5 =>
  ob h5 a0 8 (
  bnd (P_Rm_link h5 a0 1 1 a1) fun h6 =>
  ob h6 a0 8 (
  bnd (P_Rm_draw h6 a0) fun h7 =>
  L_Rm_sign_73 K25 FU h7 a0 a1 0 0)))
  else
  bnd (gR h a0 8 33) fun k33 =>
  bnd (stB h k33 a2 0) fun h34 =>
  bnd (gR h34 a0 8 34) fun k35 =>
  bnd (stB h34 k35 a2 1) fun h36 =>
  lt (a2 + Int32.ofInt 1) fun x37 =>
  K25 h36 a0 a1 x37
set_option maxHeartbeats 4000000 in
set_option maxRecDepth 100000 in
theorem bk_Rm_sign_25 {l : Launch} {x : CX} {h0 h' : HP} {r' : Int32} (C : EV x b_Rm_sign "PrimeKeysModel" 4 rm_Rm_sign) (T : CT x (some .int) rm_Rm_sign h0 (some (.int r')) h') (hl0 : x.1.2.1 = l) (K25 : HP → Nat → Int32 → Int32 → Option (Int32 × HP)) (hK25 : ∀ (h : HP) (a0 : Nat) (a1 : Int32) (a2 : Int32), K25 h a0 a1 a2 = some (r', h') → GG x 0 0 h 25 [(0, .ref a0), (1, .int a1), (2, .int a2)] []) (h : HP) (a0 : Nat) (a1 : Int32) (a2 : Int32) (hr : B_Rm_sign_25 K25 h a0 a1 a2 = some (r', h')) : GG x 0 0 h 25 [(0, .ref a0), (1, .int a1), (2, .int a2)] [] := by
  unfold B_Rm_sign_25 at hr
  refine g_iload_n C 2 rfl d_Rm_sign_25 rfl ?_
  refine g_bipush (v := 32) C d_Rm_sign_26 (by decide) ?_
  refine g_icmp_ge (tgt := 51) C d_Rm_sign_28 (by decide) (fun z => ?_) (fun z => ?_)
  · have hr := of_if z hr
    refine g_aload_n C 0 rfl d_Rm_sign_51 rfl ?_
    refine g_iconst (v := 0) C d_Rm_sign_52 (by decide) ?_
    refine g_iconst (v := 1) C d_Rm_sign_53 (by decide) ?_
    refine g_iload_n C 1 rfl d_Rm_sign_54 rfl ?_
    obtain ⟨fsh5, hoh5, hr⟩ := of_ob hr
    obtain ⟨h5, eh5, hr⟩ := of_bnd hr
    refine g_callV (pa := [.int 0, .int 1, .int a1]) C hl0 (c_Rm_link eh5) cd_Rm_415 kw_in_Rm_link kw_se_Rm_link hoh5 rfl rfl (by decide) rfl rfl (Nat.le_of_ble_eq_true rfl) d_Rm_sign_55 ?_
    refine g_aload_n C 0 rfl d_Rm_sign_58 rfl ?_
    refine g_iconst (v := 1) C d_Rm_sign_59 (by decide) ?_
    refine g_iconst (v := 1) C d_Rm_sign_60 (by decide) ?_
    refine g_iload_n C 1 rfl d_Rm_sign_61 rfl ?_
    obtain ⟨fsh6, hoh6, hr⟩ := of_ob hr
    obtain ⟨h6, eh6, hr⟩ := of_bnd hr
    refine g_callV (pa := [.int 1, .int 1, .int a1]) C hl0 (c_Rm_link eh6) cd_Rm_415 kw_in_Rm_link kw_se_Rm_link hoh6 rfl rfl (by decide) rfl rfl (Nat.le_of_ble_eq_true rfl) d_Rm_sign_62 ?_
    refine g_aload_n C 0 rfl d_Rm_sign_65 rfl ?_
    obtain ⟨fsh7, hoh7, hr⟩ := of_ob hr
    obtain ⟨h7, eh7, hr⟩ := of_bnd hr
    refine g_callV (pa := []) C hl0 (c_Rm_draw eh7) cd_Rm_383 kw_in_Rm_draw kw_se_Rm_draw hoh7 rfl rfl (by decide) rfl rfl (Nat.le_of_ble_eq_true rfl) d_Rm_sign_66 ?_
    refine g_iconst (v := 0) C d_Rm_sign_69 (by decide) ?_
    refine g_istore_n (lv' := [(2, .int 0), (0, .ref a0), (1, .int a1)]) C d_Rm_sign_70 rfl (by decide) rfl ?_
    refine g_iconst (v := 0) C d_Rm_sign_71 (by decide) ?_
    refine g_istore_n (lv' := [(3, .int 0), (2, .int 0), (0, .ref a0), (1, .int a1)]) C d_Rm_sign_72 rfl (by decide) rfl ?_
    refine g_lv [2, 3, 1, 0] rfl ?_
    exact lp_Rm_sign_73 C T hl0 K25 hK25 FU h7 a0 a1 0 0 hr
  · have hr := of_el z hr
    refine g_aload_n C 0 rfl d_Rm_sign_31 rfl ?_
    obtain ⟨k33, ek33, hr⟩ := of_bnd hr
    refine g_getR C fl_Rm_205 ek33 d_Rm_sign_32 ?_
    refine g_iload_n C 2 rfl d_Rm_sign_35 rfl ?_
    refine g_iconst (v := 0) C d_Rm_sign_36 (by decide) ?_
    obtain ⟨h34, eh34, hr⟩ := of_bnd hr
    refine g_bastore C eh34 d_Rm_sign_37 ?_
    refine g_aload_n C 0 rfl d_Rm_sign_38 rfl ?_
    obtain ⟨k35, ek35, hr⟩ := of_bnd hr
    refine g_getR C fl_Rm_208 ek35 d_Rm_sign_39 ?_
    refine g_iload_n C 2 rfl d_Rm_sign_42 rfl ?_
    refine g_iconst (v := 1) C d_Rm_sign_43 (by decide) ?_
    obtain ⟨h36, eh36, hr⟩ := of_bnd hr
    refine g_bastore C eh36 d_Rm_sign_44 ?_
    obtain ⟨x37, ex37⟩ : ∃ z, z = a2 + Int32.ofInt 1 := ⟨_, rfl⟩
    have hr := of_lt ex37 hr
    refine g_iinc (lv' := [(2, .int x37), (0, .ref a0), (1, .int a1)]) C 2 rfl d_Rm_sign_45 ex37.symm (by decide) rfl ?_
    refine g_goto (tgt := 25) C d_Rm_sign_48 (by decide) ?_
    refine g_lv [1, 2, 0] rfl ?_
    exact hK25 h36 a0 a1 x37 hr
def L_Rm_sign_25 : Nat → HP → Nat → Int32 → Int32 → Option (Int32 × HP)
  | 0, _, _, _, _ => none
  | f + 1, h, a0, a1, a2 => B_Rm_sign_25 (L_Rm_sign_25 f) h a0 a1 a2
theorem lp_Rm_sign_25 {l : Launch} {x : CX} {h0 h' : HP} {r' : Int32} (C : EV x b_Rm_sign "PrimeKeysModel" 4 rm_Rm_sign) (T : CT x (some .int) rm_Rm_sign h0 (some (.int r')) h') (hl0 : x.1.2.1 = l) : ∀ (f : Nat) (h : HP) (a0 : Nat) (a1 : Int32) (a2 : Int32), L_Rm_sign_25 f h a0 a1 a2 = some (r', h') → GG x 0 0 h 25 [(0, .ref a0), (1, .int a1), (2, .int a2)] [] := by
  intro f
  induction f with
  | zero => intro h a0 a1 a2 hr; have hr : (none : Option (Int32 × HP)) = some (r', h') := hr; cases hr
  | succ f ih => intro h a0 a1 a2 hr; exact bk_Rm_sign_25 C T hl0 (L_Rm_sign_25 f) ih h a0 a1 a2 hr
def P_Rm_sign (h : HP) (p0 : Nat) (p1 : Int32) : Option (Int32 × HP) :=
  bnd (pV h p0 8 0 (.int 0)) fun h1 =>
  ob h1 p0 8 (
  bnd2 (P_Rm_none h1 p0 p1) fun v3 h2 =>
  if v3 = 0 then
  ob h2 p0 8 (
  bnd (P_Rm_hashed h2 p0) fun h4 =>
  L_Rm_sign_25 FU h4 p0 p1 0)
  else
  ob h2 p0 8 (
  bnd2 (P_Rm_fail h2 p0 1) fun v39 h38 =>
  some (v39, h38)))
set_option maxHeartbeats 4000000 in
set_option maxRecDepth 100000 in
theorem c_Rm_sign {l : Launch} {h h' : HP} {p0 p1 : _} {r' : Int32} (hr : P_Rm_sign h p0 p1 = some (r', h')) : MP l y_Rm_sign (Cond.code y_Rm_sign b_Rm_sign 4 (some .int) :: TB) rm_Rm_sign h [.ref p0, .int p1] (some (.int r')) h' := by
  refine MP_intro (cc := b_Rm_sign) (by decide) (Nat.le_of_ble_eq_true rfl) (fun x hl0 C T hin => ?_)
  unfold P_Rm_sign at hr
  show GG x 0 0 h 0 [(0, .ref p0), (1, .int p1)] []
  refine g_aload_n C 0 rfl d_Rm_sign_0 rfl ?_
  refine g_iconst (v := 0) C d_Rm_sign_1 (by decide) ?_
  obtain ⟨h1, eh1, hr⟩ := of_bnd hr
  refine g_putI C fp_Rm_264 eh1 d_Rm_sign_2 ?_
  refine g_aload_n C 0 rfl d_Rm_sign_5 rfl ?_
  refine g_iload_n C 1 rfl d_Rm_sign_6 rfl ?_
  obtain ⟨fsh2, hoh2, hr⟩ := of_ob hr
  obtain ⟨v3, h2, eh2, hr⟩ := of_bnd2 hr
  refine g_callV (pa := [.int p1]) C hl0 (c_Rm_none eh2) cd_Rm_399 kw_in_Rm_none kw_se_Rm_none hoh2 rfl rfl (by decide) rfl rfl (Nat.le_of_ble_eq_true rfl) d_Rm_sign_7 ?_
  refine g_if_eq (tgt := 19) C d_Rm_sign_10 (by decide) (fun z => ?_) (fun z => ?_)
  · have hr := of_if z hr
    refine g_aload_n C 0 rfl d_Rm_sign_19 rfl ?_
    obtain ⟨fsh4, hoh4, hr⟩ := of_ob hr
    obtain ⟨h4, eh4, hr⟩ := of_bnd hr
    refine g_callV (pa := []) C hl0 (c_Rm_hashed eh4) cd_Rm_413 kw_in_Rm_hashed kw_se_Rm_hashed hoh4 rfl rfl (by decide) rfl rfl (Nat.le_of_ble_eq_true rfl) d_Rm_sign_20 ?_
    refine g_iconst (v := 0) C d_Rm_sign_23 (by decide) ?_
    refine g_istore_n (lv' := [(2, .int 0), (0, .ref p0), (1, .int p1)]) C d_Rm_sign_24 rfl (by decide) rfl ?_
    refine g_lv [1, 2, 0] rfl ?_
    exact lp_Rm_sign_25 C T hl0 FU h4 p0 p1 0 hr
  · have hr := of_el z hr
    refine g_aload_n C 0 rfl d_Rm_sign_13 rfl ?_
    refine g_iconst (v := 1) C d_Rm_sign_14 (by decide) ?_
    obtain ⟨fsh38, hoh38, hr⟩ := of_ob hr
    obtain ⟨v39, h38, eh38, hr⟩ := of_bnd2 hr
    refine g_callV (pa := [.int 1]) C hl0 (c_Rm_fail eh38) cd_Rm_393 kw_in_Rm_fail kw_se_Rm_fail hoh38 rfl rfl (by decide) rfl rfl (Nat.le_of_ble_eq_true rfl) d_Rm_sign_15 ?_
    cases hr
    exact g_ireturn C T rfl (by decide) (by decide) d_Rm_sign_18
