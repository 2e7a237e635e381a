abbrev b_PK_end : ByteArray := prog_1_method_3_code
abbrev y_PK_end : MethodName := ⟨"PrimeKeys", "end", "(I)I"⟩
theorem d_PK_end_0 : decode b_PK_end 0 = .ok (.iload_n 1, 1) := by decide +kernel
theorem d_PK_end_1 : decode b_PK_end 1 = .ok (.ifCond .lt 11, 3) := by decide +kernel
theorem d_PK_end_4 : decode b_PK_end 4 = .ok (.iload_n 1, 1) := by decide +kernel
theorem d_PK_end_5 : decode b_PK_end 5 = .ok (.aload_n 0, 1) := by decide +kernel
theorem d_PK_end_6 : decode b_PK_end 6 = .ok (.getfield 13, 3) := by decide +kernel
theorem d_PK_end_9 : decode b_PK_end 9 = .ok (.if_icmp .le 11, 3) := by decide +kernel
theorem d_PK_end_12 : decode b_PK_end 12 = .ok (.new 106, 3) := by decide +kernel
theorem d_PK_end_15 : decode b_PK_end 15 = .ok (.dup, 1) := by decide +kernel
theorem d_PK_end_16 : decode b_PK_end 16 = .ok (.invokespecial 108, 3) := by decide +kernel
theorem d_PK_end_19 : decode b_PK_end 19 = .ok (.athrow, 1) := by decide +kernel
theorem d_PK_end_20 : decode b_PK_end 20 = .ok (.aload_n 0, 1) := by decide +kernel
theorem d_PK_end_21 : decode b_PK_end 21 = .ok (.iload_n 1, 1) := by decide +kernel
theorem d_PK_end_22 : decode b_PK_end 22 = .ok (.putfield 13, 3) := by decide +kernel
theorem d_PK_end_25 : decode b_PK_end 25 = .ok (.iload_n 1, 1) := by decide +kernel
theorem d_PK_end_26 : decode b_PK_end 26 = .ok (.ireturn, 1) := by decide +kernel
theorem td_PK_106 : TD "PrimeKeys" 106 108 1 := ⟨by decide, tb_3 (List.mem_of_getElem? (i := 57) (by decide +kernel)) rfl, tb_3 (List.mem_of_getElem? (i := 58) (by decide +kernel)) rfl, tb_1 (List.mem_of_getElem? (i := 19) (by decide +kernel)) rfl, tb_3 (List.mem_of_getElem? (i := 66) (by decide +kernel)) rfl⟩
abbrev rm_PK_end : Room := { frames := 6, cells := 1, slots := 6, locals := 81 }
def B_PK_end_12 (h : HP) : Option ((Nat ⊕ Int32) × HP) :=
  some (.inl 1, h)
set_option maxHeartbeats 4000000 in
set_option maxRecDepth 100000 in
theorem bk_PK_end_12 {l : Launch} {x : CX} {h0 h' : HP} {r' : Int32} (C : EV x b_PK_end "PrimeKeys" 2 rm_PK_end) (T : CT x (some .int) rm_PK_end h0 (some (.int r')) h') (hl0 : x.1.2.1 = l) (h : HP) (hr : B_PK_end_12 h = some (.inr r', h')) : GG x 0 0 h 12 [] [] := by
  unfold B_PK_end_12 at hr
  cases hr
def P_PK_end (h : HP) (p0 : Nat) (p1 : Int32) : Option ((Nat ⊕ Int32) × HP) :=
  if p1 < 0 then
  B_PK_end_12 h
  else
  bnd (gI h p0 7 1) fun v1 =>
  if p1 ≤ v1 then
  bnd (pV h p0 7 1 (.int p1)) fun h2 =>
  some (.inr p1, h2)
  else
  B_PK_end_12 h
set_option maxHeartbeats 4000000 in
set_option maxRecDepth 100000 in
theorem c_PK_end {l : Launch} {h h' : HP} {p0 p1 : _} {r' : Int32} (hr : P_PK_end h p0 p1 = some (.inr r', h')) : MP l y_PK_end (Cond.code y_PK_end b_PK_end 2 (some .int) :: TB) rm_PK_end h [.ref p0, .int p1] (some (.int r')) h' := by
  refine MP_intro (cc := b_PK_end) (by decide) (Nat.le_of_ble_eq_true rfl) (fun x hl0 C T hin => ?_)
  unfold P_PK_end at hr
  show GG x 0 0 h 0 [(0, .ref p0), (1, .int p1)] []
  refine g_iload_n C 1 rfl d_PK_end_0 rfl ?_
  refine g_if_lt (tgt := 12) C d_PK_end_1 (by decide) (fun z => ?_) (fun z => ?_)
  · have hr := of_if z hr
    refine g_lv [] rfl ?_
    exact bk_PK_end_12 C T hl0 h hr
  · have hr := of_el z hr
    refine g_iload_n C 1 rfl d_PK_end_4 rfl ?_
    refine g_aload_n C 0 rfl d_PK_end_5 rfl ?_
    obtain ⟨v1, ev1, hr⟩ := of_bnd hr
    refine g_getI C fl_PK_13 ev1 d_PK_end_6 ?_
    refine g_icmp_le (tgt := 20) C d_PK_end_9 (by decide) (fun z => ?_) (fun z => ?_)
    · have hr := of_if z hr
      refine g_aload_n C 0 rfl d_PK_end_20 rfl ?_
      refine g_iload_n C 1 rfl d_PK_end_21 rfl ?_
      obtain ⟨h2, eh2, hr⟩ := of_bnd hr
      refine g_putI C fp_PK_13 eh2 d_PK_end_22 ?_
      refine g_iload_n C 1 rfl d_PK_end_25 rfl ?_
      cases hr
      exact g_ireturn C T rfl (by decide) (by decide) d_PK_end_26
    · have hr := of_el z hr
      refine g_lv [] rfl ?_
      exact bk_PK_end_12 C T hl0 h hr
set_option maxHeartbeats 4000000 in
set_option maxRecDepth 100000 in
theorem bkt_PK_end_12 {l : Launch} {x : CX} {h0 h' : HP} {i' : Nat} (C : EV x b_PK_end "PrimeKeys" 2 rm_PK_end) (T : CTT x rm_PK_end h0 i' h') (hl0 : x.1.2.1 = l) (h : HP) (hr : B_PK_end_12 h = some (.inl i', h')) : GG x 0 0 h 12 [] [] := by
  unfold B_PK_end_12 at hr
  cases hr
  exact g_throw C T td_PK_106 (by decide) (by decide) (by decide) (by decide) d_PK_end_12 d_PK_end_15 d_PK_end_16 d_PK_end_19
set_option maxHeartbeats 4000000 in
set_option maxRecDepth 100000 in
theorem ct_PK_end {l : Launch} (htr : l.stackTraces = false) {h h' : HP} {p0 p1 : _} {i' : Nat} (hr : P_PK_end h p0 p1 = some (.inl i', h')) : MT l y_PK_end (Cond.code y_PK_end b_PK_end 2 (some .int) :: TB) rm_PK_end h [.ref p0, .int p1] i' h' := by
  refine MT_intro htr (cc := b_PK_end) (by decide) (Nat.le_of_ble_eq_true rfl) (fun x hl0 C T => ?_)
  unfold P_PK_end at hr
  show GG x 0 0 h 0 [(0, .ref p0), (1, .int p1)] []
  refine g_iload_n C 1 rfl d_PK_end_0 rfl ?_
  refine g_if_lt (tgt := 12) C d_PK_end_1 (by decide) (fun z => ?_) (fun z => ?_)
  · have hr := of_if z hr
    refine g_lv [] rfl ?_
    exact bkt_PK_end_12 C T hl0 h hr
  · have hr := of_el z hr
    refine g_iload_n C 1 rfl d_PK_end_4 rfl ?_
    refine g_aload_n C 0 rfl d_PK_end_5 rfl ?_
    obtain ⟨v1, ev1, hr⟩ := of_bnd hr
    refine g_getI C fl_PK_13 ev1 d_PK_end_6 ?_
    refine g_icmp_le (tgt := 20) C d_PK_end_9 (by decide) (fun z => ?_) (fun z => ?_)
    · have hr := of_if z hr
      refine g_aload_n C 0 rfl d_PK_end_20 rfl ?_
      refine g_iload_n C 1 rfl d_PK_end_21 rfl ?_
      obtain ⟨h2, eh2, hr⟩ := of_bnd hr
      refine g_putI C fp_PK_13 eh2 d_PK_end_22 ?_
      refine g_iload_n C 1 rfl d_PK_end_25 rfl ?_
      cases hr
    · have hr := of_el z hr
      refine g_lv [] rfl ?_
      exact bkt_PK_end_12 C T hl0 h hr
abbrev b_PK_result : ByteArray := prog_1_method_11_code
abbrev y_PK_result : MethodName := ⟨"PrimeKeys", "result", "(I)I"⟩
theorem d_PK_result_0 : decode b_PK_result 0 = .ok (.iload_n 1, 1) := by decide +kernel
theorem d_PK_result_1 : decode b_PK_result 1 = .ok (.ifCond .lt 11, 3) := by decide +kernel
theorem d_PK_result_4 : decode b_PK_result 4 = .ok (.iload_n 1, 1) := by decide +kernel
theorem d_PK_result_5 : decode b_PK_result 5 = .ok (.aload_n 0, 1) := by decide +kernel
theorem d_PK_result_6 : decode b_PK_result 6 = .ok (.getfield 36, 3) := by decide +kernel
theorem d_PK_result_9 : decode b_PK_result 9 = .ok (.if_icmp .lt 11, 3) := by decide +kernel
theorem d_PK_result_12 : decode b_PK_result 12 = .ok (.new 163, 3) := by decide +kernel
theorem d_PK_result_15 : decode b_PK_result 15 = .ok (.dup, 1) := by decide +kernel
theorem d_PK_result_16 : decode b_PK_result 16 = .ok (.invokespecial 165, 3) := by decide +kernel
theorem d_PK_result_19 : decode b_PK_result 19 = .ok (.athrow, 1) := by decide +kernel
theorem d_PK_result_20 : decode b_PK_result 20 = .ok (.aload_n 0, 1) := by decide +kernel
theorem d_PK_result_21 : decode b_PK_result 21 = .ok (.getfield 33, 3) := by decide +kernel
theorem d_PK_result_24 : decode b_PK_result 24 = .ok (.iload_n 1, 1) := by decide +kernel
theorem d_PK_result_25 : decode b_PK_result 25 = .ok (.baload, 1) := by decide +kernel
theorem d_PK_result_26 : decode b_PK_result 26 = .ok (.sipush 255, 3) := by decide +kernel
theorem d_PK_result_29 : decode b_PK_result 29 = .ok (.iand, 1) := by decide +kernel
theorem d_PK_result_30 : decode b_PK_result 30 = .ok (.ireturn, 1) := by decide +kernel
theorem fl_PK_36 : FL "PrimeKeys" 36 7 7 := ⟨R_PK, F_PK, 17, rfl, u_PK, by decide, rfl, tb_2 (List.mem_of_getElem? (i := 144) (by decide +kernel)) rfl⟩
theorem fl_PK_33 : FL "PrimeKeys" 33 7 6 := ⟨R_PK, F_PK, 17, rfl, u_PK, by decide, rfl, tb_2 (List.mem_of_getElem? (i := 143) (by decide +kernel)) rfl⟩
theorem td_PK_163 : TD "PrimeKeys" 163 165 3 := ⟨by decide, tb_4 (List.mem_of_getElem? (i := 32) (by decide +kernel)) rfl, tb_4 (List.mem_of_getElem? (i := 33) (by decide +kernel)) rfl, tb_1 (List.mem_of_getElem? (i := 21) (by decide +kernel)) rfl, tb_4 (List.mem_of_getElem? (i := 41) (by decide +kernel)) rfl⟩
abbrev rm_PK_result : Room := { frames := 6, cells := 1, slots := 6, locals := 81 }
def B_PK_result_12 (h : HP) : Option ((Nat ⊕ Int32) × HP) :=
  some (.inl 3, h)
set_option maxHeartbeats 4000000 in
set_option maxRecDepth 100000 in
theorem bk_PK_result_12 {l : Launch} {x : CX} {h0 h' : HP} {r' : Int32} (C : EV x b_PK_result "PrimeKeys" 2 rm_PK_result) (T : CT x (some .int) rm_PK_result h0 (some (.int r')) h') (hl0 : x.1.2.1 = l) (h : HP) (hr : B_PK_result_12 h = some (.inr r', h')) : GG x 0 0 h 12 [] [] := by
  unfold B_PK_result_12 at hr
  cases hr
def P_PK_result (h : HP) (p0 : Nat) (p1 : Int32) : Option ((Nat ⊕ Int32) × HP) :=
  if p1 < 0 then
  B_PK_result_12 h
  else
  bnd (gI h p0 7 7) fun v1 =>
  if p1 < v1 then
  bnd (gR h p0 7 6) fun k2 =>
  bnd (ldB h k2 p1) fun v3 =>
  some (.inr (v3 &&& 255), h)
  else
  B_PK_result_12 h
set_option maxHeartbeats 4000000 in
set_option maxRecDepth 100000 in
theorem c_PK_result {l : Launch} {h h' : HP} {p0 p1 : _} {r' : Int32} (hr : P_PK_result h p0 p1 = some (.inr r', h')) : MP l y_PK_result (Cond.code y_PK_result b_PK_result 2 (some .int) :: TB) rm_PK_result h [.ref p0, .int p1] (some (.int r')) h' := by
  refine MP_intro (cc := b_PK_result) (by decide) (Nat.le_of_ble_eq_true rfl) (fun x hl0 C T hin => ?_)
  unfold P_PK_result at hr
  show GG x 0 0 h 0 [(0, .ref p0), (1, .int p1)] []
  refine g_iload_n C 1 rfl d_PK_result_0 rfl ?_
  refine g_if_lt (tgt := 12) C d_PK_result_1 (by decide) (fun z => ?_) (fun z => ?_)
  · have hr := of_if z hr
    refine g_lv [] rfl ?_
    exact bk_PK_result_12 C T hl0 h hr
  · have hr := of_el z hr
    refine g_iload_n C 1 rfl d_PK_result_4 rfl ?_
    refine g_aload_n C 0 rfl d_PK_result_5 rfl ?_
    obtain ⟨v1, ev1, hr⟩ := of_bnd hr
    refine g_getI C fl_PK_36 ev1 d_PK_result_6 ?_
    refine g_icmp_lt (tgt := 20) C d_PK_result_9 (by decide) (fun z => ?_) (fun z => ?_)
    · have hr := of_if z hr
      refine g_aload_n C 0 rfl d_PK_result_20 rfl ?_
      obtain ⟨k2, ek2, hr⟩ := of_bnd hr
      refine g_getR C fl_PK_33 ek2 d_PK_result_21 ?_
      refine g_iload_n C 1 rfl d_PK_result_24 rfl ?_
      obtain ⟨v3, ev3, hr⟩ := of_bnd hr
      refine g_baload C ev3 d_PK_result_25 ?_
      refine g_sipush (v := 255) C d_PK_result_26 (by decide) ?_
      refine g_iand C d_PK_result_29 ?_
      cases hr
      exact g_ireturn C T rfl (by decide) (by decide) d_PK_result_30
    · have hr := of_el z hr
      refine g_lv [] rfl ?_
      exact bk_PK_result_12 C T hl0 h hr
set_option maxHeartbeats 4000000 in
set_option maxRecDepth 100000 in
theorem bkt_PK_result_12 {l : Launch} {x : CX} {h0 h' : HP} {i' : Nat} (C : EV x b_PK_result "PrimeKeys" 2 rm_PK_result) (T : CTT x rm_PK_result h0 i' h') (hl0 : x.1.2.1 = l) (h : HP) (hr : B_PK_result_12 h = some (.inl i', h')) : GG x 0 0 h 12 [] [] := by
  unfold B_PK_result_12 at hr
  cases hr
  exact g_throw C T td_PK_163 (by decide) (by decide) (by decide) (by decide) d_PK_result_12 d_PK_result_15 d_PK_result_16 d_PK_result_19
set_option maxHeartbeats 4000000 in
set_option maxRecDepth 100000 in
theorem ct_PK_result {l : Launch} (htr : l.stackTraces = false) {h h' : HP} {p0 p1 : _} {i' : Nat} (hr : P_PK_result h p0 p1 = some (.inl i', h')) : MT l y_PK_result (Cond.code y_PK_result b_PK_result 2 (some .int) :: TB) rm_PK_result h [.ref p0, .int p1] i' h' := by
  refine MT_intro htr (cc := b_PK_result) (by decide) (Nat.le_of_ble_eq_true rfl) (fun x hl0 C T => ?_)
  unfold P_PK_result at hr
  show GG x 0 0 h 0 [(0, .ref p0), (1, .int p1)] []
  refine g_iload_n C 1 rfl d_PK_result_0 rfl ?_
  refine g_if_lt (tgt := 12) C d_PK_result_1 (by decide) (fun z => ?_) (fun z => ?_)
  · have hr := of_if z hr
    refine g_lv [] rfl ?_
    exact bkt_PK_result_12 C T hl0 h hr
  · have hr := of_el z hr
    refine g_iload_n C 1 rfl d_PK_result_4 rfl ?_
    refine g_aload_n C 0 rfl d_PK_result_5 rfl ?_
    obtain ⟨v1, ev1, hr⟩ := of_bnd hr
    refine g_getI C fl_PK_36 ev1 d_PK_result_6 ?_
    refine g_icmp_lt (tgt := 20) C d_PK_result_9 (by decide) (fun z => ?_) (fun z => ?_)
    · have hr := of_if z hr
      refine g_aload_n C 0 rfl d_PK_result_20 rfl ?_
      obtain ⟨k2, ek2, hr⟩ := of_bnd hr
      refine g_getR C fl_PK_33 ek2 d_PK_result_21 ?_
      refine g_iload_n C 1 rfl d_PK_result_24 rfl ?_
      obtain ⟨v3, ev3, hr⟩ := of_bnd hr
      refine g_baload C ev3 d_PK_result_25 ?_
      refine g_sipush (v := 255) C d_PK_result_26 (by decide) ?_
      refine g_iand C d_PK_result_29 ?_
      cases hr
    · have hr := of_el z hr
      refine g_lv [] rfl ?_
      exact bkt_PK_result_12 C T hl0 h hr
abbrev b_PK_key : ByteArray := prog_1_method_4_code
abbrev y_PK_key : MethodName := ⟨"PrimeKeys", "key", "()I"⟩
theorem d_PK_key_0 : decode b_PK_key 0 = .ok (.aload_n 0, 1) := by decide +kernel
theorem d_PK_key_1 : decode b_PK_key 1 = .ok (.getfield 13, 3) := by decide +kernel
theorem d_PK_key_4 : decode b_PK_key 4 = .ok (.bipush 32, 2) := by decide +kernel
theorem d_PK_key_6 : decode b_PK_key 6 = .ok (.if_icmp .ne 18, 3) := by decide +kernel
theorem d_PK_key_9 : decode b_PK_key 9 = .ok (.aload_n 0, 1) := by decide +kernel
theorem d_PK_key_10 : decode b_PK_key 10 = .ok (.getfield 63, 3) := by decide +kernel
theorem d_PK_key_13 : decode b_PK_key 13 = .ok (.aload_n 0, 1) := by decide +kernel
theorem d_PK_key_14 : decode b_PK_key 14 = .ok (.getfield 9, 3) := by decide +kernel
theorem d_PK_key_17 : decode b_PK_key 17 = .ok (.iconst 0, 1) := by decide +kernel
theorem d_PK_key_18 : decode b_PK_key 18 = .ok (.invokevirtual 109, 3) := by decide +kernel
theorem d_PK_key_21 : decode b_PK_key 21 = .ok (.ifCond .ne 11, 3) := by decide +kernel
theorem d_PK_key_24 : decode b_PK_key 24 = .ok (.new 106, 3) := by decide +kernel
theorem d_PK_key_27 : decode b_PK_key 27 = .ok (.dup, 1) := by decide +kernel
theorem d_PK_key_28 : decode b_PK_key 28 = .ok (.invokespecial 108, 3) := by decide +kernel
theorem d_PK_key_31 : decode b_PK_key 31 = .ok (.athrow, 1) := by decide +kernel
theorem d_PK_key_32 : decode b_PK_key 32 = .ok (.aload_n 0, 1) := by decide +kernel
theorem d_PK_key_33 : decode b_PK_key 33 = .ok (.getfield 22, 3) := by decide +kernel
theorem d_PK_key_36 : decode b_PK_key 36 = .ok (.bipush 100, 2) := by decide +kernel
theorem d_PK_key_38 : decode b_PK_key 38 = .ok (.if_icmp .lt 11, 3) := by decide +kernel
theorem d_PK_key_41 : decode b_PK_key 41 = .ok (.new 93, 3) := by decide +kernel
theorem d_PK_key_44 : decode b_PK_key 44 = .ok (.dup, 1) := by decide +kernel
theorem d_PK_key_45 : decode b_PK_key 45 = .ok (.invokespecial 95, 3) := by decide +kernel
theorem d_PK_key_48 : decode b_PK_key 48 = .ok (.athrow, 1) := by decide +kernel
theorem d_PK_key_49 : decode b_PK_key 49 = .ok (.aload_n 0, 1) := by decide +kernel
theorem d_PK_key_50 : decode b_PK_key 50 = .ok (.getfield 22, 3) := by decide +kernel
theorem d_PK_key_53 : decode b_PK_key 53 = .ok (.istore_n 1, 1) := by decide +kernel
theorem d_PK_key_54 : decode b_PK_key 54 = .ok (.aload_n 0, 1) := by decide +kernel
theorem d_PK_key_55 : decode b_PK_key 55 = .ok (.getfield 9, 3) := by decide +kernel
theorem d_PK_key_58 : decode b_PK_key 58 = .ok (.iconst 0, 1) := by decide +kernel
theorem d_PK_key_59 : decode b_PK_key 59 = .ok (.aload_n 0, 1) := by decide +kernel
theorem d_PK_key_60 : decode b_PK_key 60 = .ok (.getfield 19, 3) := by decide +kernel
theorem d_PK_key_63 : decode b_PK_key 63 = .ok (.iload_n 1, 1) := by decide +kernel
theorem d_PK_key_64 : decode b_PK_key 64 = .ok (.aaload, 1) := by decide +kernel
theorem d_PK_key_65 : decode b_PK_key 65 = .ok (.iconst 0, 1) := by decide +kernel
theorem d_PK_key_66 : decode b_PK_key 66 = .ok (.bipush 32, 2) := by decide +kernel
theorem d_PK_key_68 : decode b_PK_key 68 = .ok (.invokestatic 113, 3) := by decide +kernel
theorem d_PK_key_71 : decode b_PK_key 71 = .ok (.aload_n 0, 1) := by decide +kernel
theorem d_PK_key_72 : decode b_PK_key 72 = .ok (.dup, 1) := by decide +kernel
theorem d_PK_key_73 : decode b_PK_key 73 = .ok (.getfield 22, 3) := by decide +kernel
theorem d_PK_key_76 : decode b_PK_key 76 = .ok (.iconst 1, 1) := by decide +kernel
theorem d_PK_key_77 : decode b_PK_key 77 = .ok (.iadd, 1) := by decide +kernel
theorem d_PK_key_78 : decode b_PK_key 78 = .ok (.putfield 22, 3) := by decide +kernel
theorem d_PK_key_81 : decode b_PK_key 81 = .ok (.aload_n 0, 1) := by decide +kernel
theorem d_PK_key_82 : decode b_PK_key 82 = .ok (.iconst 0, 1) := by decide +kernel
theorem d_PK_key_83 : decode b_PK_key 83 = .ok (.putfield 13, 3) := by decide +kernel
theorem d_PK_key_86 : decode b_PK_key 86 = .ok (.iload_n 1, 1) := by decide +kernel
theorem d_PK_key_87 : decode b_PK_key 87 = .ok (.ireturn, 1) := by decide +kernel
theorem fl_PK_63 : FL "PrimeKeys" 63 7 12 := ⟨R_PK, F_PK, 17, rfl, u_PK, by decide, rfl, tb_2 (List.mem_of_getElem? (i := 149) (by decide +kernel)) rfl⟩
theorem fl_PK_19 : FL "PrimeKeys" 19 7 2 := ⟨R_PK, F_PK, 17, rfl, u_PK, by decide, rfl, tb_2 (List.mem_of_getElem? (i := 139) (by decide +kernel)) rfl⟩
theorem td_PK_93 : TD "PrimeKeys" 93 95 0 := ⟨by decide, tb_2 (List.mem_of_getElem? (i := 206) (by decide +kernel)) rfl, tb_2 (List.mem_of_getElem? (i := 207) (by decide +kernel)) rfl, tb_1 (List.mem_of_getElem? (i := 17) (by decide +kernel)) rfl, tb_3 (List.mem_of_getElem? (i := 8) (by decide +kernel)) rfl⟩
theorem kw_89 : Cond.methodLink "PrimeKeys" 113 arraycopyName ∈ TB := tb_3 (List.mem_of_getElem? (i := 89) (by decide +kernel)) rfl
theorem cd_PK_109 : CD "PrimeKeys" 109 y_Si_isInRange1 b_Si_isInRange1 3 (some .boolean) 2 := ⟨tb_3 (List.mem_of_getElem? (i := 82) rfl) rfl, tb_1 (List.mem_of_getElem? (i := 10) (by decide +kernel)) rfl, tb_3 (List.mem_of_getElem? (i := 79) (by decide +kernel)) rfl, by decide +kernel⟩
abbrev rm_PK_key : Room := { frames := 6, cells := 1, slots := 6, locals := 81 }
def B_PK_key_24 (h : HP) : Option ((Nat ⊕ Int32) × HP) :=
  some (.inl 1, h)
set_option maxHeartbeats 4000000 in
set_option maxRecDepth 100000 in
theorem bk_PK_key_24 {l : Launch} {x : CX} {h0 h' : HP} {r' : Int32} (C : EV x b_PK_key "PrimeKeys" 2 rm_PK_key) (T : CT x (some .int) rm_PK_key h0 (some (.int r')) h') (hl0 : x.1.2.1 = l) (h : HP) (hr : B_PK_key_24 h = some (.inr r', h')) : GG x 0 0 h 24 [] [] := by
  unfold B_PK_key_24 at hr
  cases hr
def P_PK_key (h : HP) (p0 : Nat) : Option ((Nat ⊕ Int32) × HP) :=
  bnd (gI h p0 7 1) fun v1 =>
  if v1 = 32 then
  bnd (gR h p0 7 12) fun k2 =>
  bnd (gR h p0 7 0) fun k3 =>
  ob h k2 6 (
  bnd2 (P_Si_isInRange1 h k2 k3 0) fun v5 h4 =>
  if v5 = 0 then
  B_PK_key_24 h4
  else
  bnd (gI h4 p0 7 3) fun v6 =>
  if v6 < 100 then
  bnd (gI h4 p0 7 3) fun v7 =>
  bnd (gR h4 p0 7 0) fun k8 =>
  bnd (gR h4 p0 7 2) fun k9 =>
  bnd (ldR h4 k9 4 v7) fun k10 =>
  bnd (cpB h4 k8 0 k10 0 32) fun h11 =>
  bnd (gI h11 p0 7 3) fun v12 =>
  bnd (pV h11 p0 7 3 (.int (v12 + 1))) fun h13 =>
  bnd (pV h13 p0 7 1 (.int 0)) fun h14 =>
  some (.inr v7, h14)
  else
  some (.inl 0, h4))
  else
  B_PK_key_24 h
set_option maxHeartbeats 4000000 in
set_option maxRecDepth 100000 in
theorem c_PK_key {l : Launch} {h h' : HP} {p0 : _} {r' : Int32} (hr : P_PK_key h p0 = some (.inr r', h')) : MP l y_PK_key (Cond.code y_PK_key b_PK_key 2 (some .int) :: TB) rm_PK_key h [.ref p0] (some (.int r')) h' := by
  refine MP_intro (cc := b_PK_key) (by decide) (Nat.le_of_ble_eq_true rfl) (fun x hl0 C T hin => ?_)
  unfold P_PK_key at hr
  show GG x 0 0 h 0 [(0, .ref p0)] []
  refine g_aload_n C 0 rfl d_PK_key_0 rfl ?_
  obtain ⟨v1, ev1, hr⟩ := of_bnd hr
  refine g_getI C fl_PK_13 ev1 d_PK_key_1 ?_
  refine g_bipush (v := 32) C d_PK_key_4 (by decide) ?_
  refine g_icmp_ne (tgt := 24) C d_PK_key_6 (by decide) (fun z => ?_) (fun z => ?_)
  · have hr := of_el z hr
    refine g_lv [] rfl ?_
    exact bk_PK_key_24 C T hl0 h hr
  · have hr := of_if z hr
    refine g_aload_n C 0 rfl d_PK_key_9 rfl ?_
    obtain ⟨k2, ek2, hr⟩ := of_bnd hr
    refine g_getR C fl_PK_63 ek2 d_PK_key_10 ?_
    refine g_aload_n C 0 rfl d_PK_key_13 rfl ?_
    obtain ⟨k3, ek3, hr⟩ := of_bnd hr
    refine g_getR C fl_PK_9 ek3 d_PK_key_14 ?_
    refine g_iconst (v := 0) C d_PK_key_17 (by decide) ?_
    obtain ⟨fsh4, hoh4, hr⟩ := of_ob hr
    obtain ⟨v5, h4, eh4, hr⟩ := of_bnd2 hr
    refine g_callV (pa := [.ref k3, .int 0]) C hl0 (c_Si_isInRange1 eh4) cd_PK_109 kw_in_Si_isInRange1 kw_se_Si_isInRange1 hoh4 rfl rfl (by decide) rfl rfl (Nat.le_of_ble_eq_true rfl) d_PK_key_18 ?_
    refine g_if_ne (tgt := 32) C d_PK_key_21 (by decide) (fun z => ?_) (fun z => ?_)
    · have hr := of_el z hr
      refine g_aload_n C 0 rfl d_PK_key_32 rfl ?_
      obtain ⟨v6, ev6, hr⟩ := of_bnd hr
      refine g_getI C fl_PK_22 ev6 d_PK_key_33 ?_
      refine g_bipush (v := 100) C d_PK_key_36 (by decide) ?_
      refine g_icmp_lt (tgt := 49) C d_PK_key_38 (by decide) (fun z => ?_) (fun z => ?_)
      · have hr := of_if z hr
        refine g_aload_n C 0 rfl d_PK_key_49 rfl ?_
        obtain ⟨v7, ev7, hr⟩ := of_bnd hr
        refine g_getI C fl_PK_22 ev7 d_PK_key_50 ?_
        refine g_istore_n (lv' := [(1, .int v7), (0, .ref p0)]) C d_PK_key_53 rfl (by decide) rfl ?_
        refine g_aload_n C 1 rfl d_PK_key_54 rfl ?_
        obtain ⟨k8, ek8, hr⟩ := of_bnd hr
        refine g_getR C fl_PK_9 ek8 d_PK_key_55 ?_
        refine g_iconst (v := 0) C d_PK_key_58 (by decide) ?_
        refine g_aload_n C 1 rfl d_PK_key_59 rfl ?_
        obtain ⟨k9, ek9, hr⟩ := of_bnd hr
        refine g_getR C fl_PK_19 ek9 d_PK_key_60 ?_
        refine g_iload_n C 0 rfl d_PK_key_63 rfl ?_
        obtain ⟨k10, ek10, hr⟩ := of_bnd hr
        refine g_aaload C (by decide) ek10 d_PK_key_64 ?_
        refine g_iconst (v := 0) C d_PK_key_65 (by decide) ?_
        refine g_bipush (v := 32) C d_PK_key_66 (by decide) ?_
        obtain ⟨h11, eh11, hr⟩ := of_bnd hr
        refine g_copyB C eh11 kw_89 (Nat.le_of_ble_eq_true rfl) (Nat.le_of_ble_eq_true rfl) d_PK_key_68 ?_
        refine g_aload_n C 1 rfl d_PK_key_71 rfl ?_
        refine g_dup C d_PK_key_72 rfl ?_
        obtain ⟨v12, ev12, hr⟩ := of_bnd hr
        refine g_getI C fl_PK_22 ev12 d_PK_key_73 ?_
        refine g_iconst (v := 1) C d_PK_key_76 (by decide) ?_
        refine g_iadd C d_PK_key_77 ?_
        obtain ⟨h13, eh13, hr⟩ := of_bnd hr
        refine g_putI C fp_PK_22 eh13 d_PK_key_78 ?_
        refine g_aload_n C 1 rfl d_PK_key_81 rfl ?_
        refine g_iconst (v := 0) C d_PK_key_82 (by decide) ?_
        obtain ⟨h14, eh14, hr⟩ := of_bnd hr
        refine g_putI C fp_PK_13 eh14 d_PK_key_83 ?_
        refine g_iload_n C 0 rfl d_PK_key_86 rfl ?_
        cases hr
        exact g_ireturn C T rfl (by decide) (by decide) d_PK_key_87
      · have hr := of_el z hr
        cases hr
    · have hr := of_if z hr
      refine g_lv [] rfl ?_
      exact bk_PK_key_24 C T hl0 h4 hr
set_option maxHeartbeats 4000000 in
set_option maxRecDepth 100000 in
theorem bkt_PK_key_24 {l : Launch} {x : CX} {h0 h' : HP} {i' : Nat} (C : EV x b_PK_key "PrimeKeys" 2 rm_PK_key) (T : CTT x rm_PK_key h0 i' h') (hl0 : x.1.2.1 = l) (h : HP) (hr : B_PK_key_24 h = some (.inl i', h')) : GG x 0 0 h 24 [] [] := by
  unfold B_PK_key_24 at hr
  cases hr
  exact g_throw C T td_PK_106 (by decide) (by decide) (by decide) (by decide) d_PK_key_24 d_PK_key_27 d_PK_key_28 d_PK_key_31
set_option maxHeartbeats 4000000 in
set_option maxRecDepth 100000 in
theorem ct_PK_key {l : Launch} (htr : l.stackTraces = false) {h h' : HP} {p0 : _} {i' : Nat} (hr : P_PK_key h p0 = some (.inl i', h')) : MT l y_PK_key (Cond.code y_PK_key b_PK_key 2 (some .int) :: TB) rm_PK_key h [.ref p0] i' h' := by
  refine MT_intro htr (cc := b_PK_key) (by decide) (Nat.le_of_ble_eq_true rfl) (fun x hl0 C T => ?_)
  unfold P_PK_key at hr
  show GG x 0 0 h 0 [(0, .ref p0)] []
  refine g_aload_n C 0 rfl d_PK_key_0 rfl ?_
  obtain ⟨v1, ev1, hr⟩ := of_bnd hr
  refine g_getI C fl_PK_13 ev1 d_PK_key_1 ?_
  refine g_bipush (v := 32) C d_PK_key_4 (by decide) ?_
  refine g_icmp_ne (tgt := 24) C d_PK_key_6 (by decide) (fun z => ?_) (fun z => ?_)
  · have hr := of_el z hr
    refine g_lv [] rfl ?_
    exact bkt_PK_key_24 C T hl0 h hr
  · have hr := of_if z hr
    refine g_aload_n C 0 rfl d_PK_key_9 rfl ?_
    obtain ⟨k2, ek2, hr⟩ := of_bnd hr
    refine g_getR C fl_PK_63 ek2 d_PK_key_10 ?_
    refine g_aload_n C 0 rfl d_PK_key_13 rfl ?_
    obtain ⟨k3, ek3, hr⟩ := of_bnd hr
    refine g_getR C fl_PK_9 ek3 d_PK_key_14 ?_
    refine g_iconst (v := 0) C d_PK_key_17 (by decide) ?_
    obtain ⟨fsh4, hoh4, hr⟩ := of_ob hr
    obtain ⟨v5, h4, eh4, hr⟩ := of_bnd2 hr
    refine g_callV (pa := [.ref k3, .int 0]) C hl0 (c_Si_isInRange1 eh4) cd_PK_109 kw_in_Si_isInRange1 kw_se_Si_isInRange1 hoh4 rfl rfl (by decide) rfl rfl (Nat.le_of_ble_eq_true rfl) d_PK_key_18 ?_
    refine g_if_ne (tgt := 32) C d_PK_key_21 (by decide) (fun z => ?_) (fun z => ?_)
    · have hr := of_el z hr
      refine g_aload_n C 0 rfl d_PK_key_32 rfl ?_
      obtain ⟨v6, ev6, hr⟩ := of_bnd hr
      refine g_getI C fl_PK_22 ev6 d_PK_key_33 ?_
      refine g_bipush (v := 100) C d_PK_key_36 (by decide) ?_
      refine g_icmp_lt (tgt := 49) C d_PK_key_38 (by decide) (fun z => ?_) (fun z => ?_)
      · have hr := of_if z hr
        refine g_aload_n C 0 rfl d_PK_key_49 rfl ?_
        obtain ⟨v7, ev7, hr⟩ := of_bnd hr
        refine g_getI C fl_PK_22 ev7 d_PK_key_50 ?_
        refine g_istore_n (lv' := [(1, .int v7), (0, .ref p0)]) C d_PK_key_53 rfl (by decide) rfl ?_
        refine g_aload_n C 1 rfl d_PK_key_54 rfl ?_
        obtain ⟨k8, ek8, hr⟩ := of_bnd hr
        refine g_getR C fl_PK_9 ek8 d_PK_key_55 ?_
        refine g_iconst (v := 0) C d_PK_key_58 (by decide) ?_
        refine g_aload_n C 1 rfl d_PK_key_59 rfl ?_
        obtain ⟨k9, ek9, hr⟩ := of_bnd hr
        refine g_getR C fl_PK_19 ek9 d_PK_key_60 ?_
        refine g_iload_n C 0 rfl d_PK_key_63 rfl ?_
        obtain ⟨k10, ek10, hr⟩ := of_bnd hr
        refine g_aaload C (by decide) ek10 d_PK_key_64 ?_
        refine g_iconst (v := 0) C d_PK_key_65 (by decide) ?_
        refine g_bipush (v := 32) C d_PK_key_66 (by decide) ?_
        obtain ⟨h11, eh11, hr⟩ := of_bnd hr
        refine g_copyB C eh11 kw_89 (Nat.le_of_ble_eq_true rfl) (Nat.le_of_ble_eq_true rfl) d_PK_key_68 ?_
        refine g_aload_n C 1 rfl d_PK_key_71 rfl ?_
        refine g_dup C d_PK_key_72 rfl ?_
        obtain ⟨v12, ev12, hr⟩ := of_bnd hr
        refine g_getI C fl_PK_22 ev12 d_PK_key_73 ?_
        refine g_iconst (v := 1) C d_PK_key_76 (by decide) ?_
        refine g_iadd C d_PK_key_77 ?_
        obtain ⟨h13, eh13, hr⟩ := of_bnd hr
        refine g_putI C fp_PK_22 eh13 d_PK_key_78 ?_
        refine g_aload_n C 1 rfl d_PK_key_81 rfl ?_
        refine g_iconst (v := 0) C d_PK_key_82 (by decide) ?_
        obtain ⟨h14, eh14, hr⟩ := of_bnd hr
        refine g_putI C fp_PK_13 eh14 d_PK_key_83 ?_
        refine g_iload_n C 0 rfl d_PK_key_86 rfl ?_
        cases hr
      · have hr := of_el z hr
        cases hr
        exact g_throw C T td_PK_93 (by decide) (by decide) (by decide) (by decide) d_PK_key_41 d_PK_key_44 d_PK_key_45 d_PK_key_48
    · have hr := of_if z hr
      refine g_lv [] rfl ?_
      exact bkt_PK_key_24 C T hl0 h4 hr
abbrev b_PK_open : ByteArray := prog_1_method_5_code
abbrev y_PK_open : MethodName := ⟨"PrimeKeys", "open", "(I)V"⟩
theorem d_PK_open_0 : decode b_PK_open 0 = .ok (.aload_n 0, 1) := by decide +kernel
theorem d_PK_open_1 : decode b_PK_open 1 = .ok (.iload_n 1, 1) := by decide +kernel
theorem d_PK_open_2 : decode b_PK_open 2 = .ok (.invokevirtual 119, 3) := by decide +kernel
theorem d_PK_open_5 : decode b_PK_open 5 = .ok (.ifCond .ne 11, 3) := by decide +kernel
theorem d_PK_open_8 : decode b_PK_open 8 = .ok (.new 123, 3) := by decide +kernel
theorem d_PK_open_11 : decode b_PK_open 11 = .ok (.dup, 1) := by decide +kernel
theorem d_PK_open_12 : decode b_PK_open 12 = .ok (.invokespecial 125, 3) := by decide +kernel
theorem d_PK_open_15 : decode b_PK_open 15 = .ok (.athrow, 1) := by decide +kernel
theorem d_PK_open_16 : decode b_PK_open 16 = .ok (.aload_n 0, 1) := by decide +kernel
theorem d_PK_open_17 : decode b_PK_open 17 = .ok (.getfield 56, 3) := by decide +kernel
theorem d_PK_open_20 : decode b_PK_open 20 = .ok (.aload_n 0, 1) := by decide +kernel
theorem d_PK_open_21 : decode b_PK_open 21 = .ok (.getfield 19, 3) := by decide +kernel
theorem d_PK_open_24 : decode b_PK_open 24 = .ok (.iload_n 1, 1) := by decide +kernel
theorem d_PK_open_25 : decode b_PK_open 25 = .ok (.aaload, 1) := by decide +kernel
theorem d_PK_open_26 : decode b_PK_open 26 = .ok (.aload_n 0, 1) := by decide +kernel
theorem d_PK_open_27 : decode b_PK_open 27 = .ok (.getfield 56, 3) := by decide +kernel
theorem d_PK_open_30 : decode b_PK_open 30 = .ok (.getfield 126, 3) := by decide +kernel
theorem d_PK_open_33 : decode b_PK_open 33 = .ok (.aload_n 0, 1) := by decide +kernel
theorem d_PK_open_34 : decode b_PK_open 34 = .ok (.getfield 75, 3) := by decide +kernel
theorem d_PK_open_37 : decode b_PK_open 37 = .ok (.invokevirtual 129, 3) := by decide +kernel
theorem d_PK_open_40 : decode b_PK_open 40 = .ok (.aload_n 0, 1) := by decide +kernel
theorem d_PK_open_41 : decode b_PK_open 41 = .ok (.getfield 56, 3) := by decide +kernel
theorem d_PK_open_44 : decode b_PK_open 44 = .ok (.aload_n 0, 1) := by decide +kernel
theorem d_PK_open_45 : decode b_PK_open 45 = .ok (.getfield 75, 3) := by decide +kernel
theorem d_PK_open_48 : decode b_PK_open 48 = .ok (.aload_n 0, 1) := by decide +kernel
theorem d_PK_open_49 : decode b_PK_open 49 = .ok (.getfield 81, 3) := by decide +kernel
theorem d_PK_open_52 : decode b_PK_open 52 = .ok (.aload_n 0, 1) := by decide +kernel
theorem d_PK_open_53 : decode b_PK_open 53 = .ok (.getfield 85, 3) := by decide +kernel
theorem d_PK_open_56 : decode b_PK_open 56 = .ok (.invokevirtual 133, 3) := by decide +kernel
theorem d_PK_open_59 : decode b_PK_open 59 = .ok (.aload_n 0, 1) := by decide +kernel
theorem d_PK_open_60 : decode b_PK_open 60 = .ok (.getfield 33, 3) := by decide +kernel
theorem d_PK_open_63 : decode b_PK_open 63 = .ok (.iconst 0, 1) := by decide +kernel
theorem d_PK_open_64 : decode b_PK_open 64 = .ok (.iconst 4, 1) := by decide +kernel
theorem d_PK_open_65 : decode b_PK_open 65 = .ok (.bastore, 1) := by decide +kernel
theorem d_PK_open_66 : decode b_PK_open 66 = .ok (.aload_n 0, 1) := by decide +kernel
theorem d_PK_open_67 : decode b_PK_open 67 = .ok (.getfield 81, 3) := by decide +kernel
theorem d_PK_open_70 : decode b_PK_open 70 = .ok (.aload_n 0, 1) := by decide +kernel
theorem d_PK_open_71 : decode b_PK_open 71 = .ok (.getfield 33, 3) := by decide +kernel
theorem d_PK_open_74 : decode b_PK_open 74 = .ok (.iconst 1, 1) := by decide +kernel
theorem d_PK_open_75 : decode b_PK_open 75 = .ok (.invokestatic 137, 3) := by decide +kernel
theorem d_PK_open_78 : decode b_PK_open 78 = .ok (.aload_n 0, 1) := by decide +kernel
theorem d_PK_open_79 : decode b_PK_open 79 = .ok (.getfield 85, 3) := by decide +kernel
theorem d_PK_open_82 : decode b_PK_open 82 = .ok (.aload_n 0, 1) := by decide +kernel
theorem d_PK_open_83 : decode b_PK_open 83 = .ok (.getfield 33, 3) := by decide +kernel
theorem d_PK_open_86 : decode b_PK_open 86 = .ok (.bipush 33, 2) := by decide +kernel
theorem d_PK_open_88 : decode b_PK_open 88 = .ok (.invokestatic 137, 3) := by decide +kernel
theorem d_PK_open_91 : decode b_PK_open 91 = .ok (.aload_n 0, 1) := by decide +kernel
theorem d_PK_open_92 : decode b_PK_open 92 = .ok (.bipush 65, 2) := by decide +kernel
theorem d_PK_open_94 : decode b_PK_open 94 = .ok (.putfield 36, 3) := by decide +kernel
theorem d_PK_open_97 : decode b_PK_open 97 = .ok (.return_, 1) := by decide +kernel
theorem fl_PK_56 : FL "PrimeKeys" 56 7 11 := ⟨R_PK, F_PK, 17, rfl, u_PK, by decide, rfl, tb_2 (List.mem_of_getElem? (i := 148) (by decide +kernel)) rfl⟩
theorem fl_PK_126 : FL "PrimeKeys" 126 0 0 := ⟨R_Cu, F_Cu, 6, rfl, u_Cu, by decide, rfl, tb_1 (List.mem_of_getElem? (i := 234) (by decide +kernel)) rfl⟩
theorem fl_PK_75 : FL "PrimeKeys" 75 7 14 := ⟨R_PK, F_PK, 17, rfl, u_PK, by decide, rfl, tb_2 (List.mem_of_getElem? (i := 151) (by decide +kernel)) rfl⟩
theorem fl_PK_81 : FL "PrimeKeys" 81 7 15 := ⟨R_PK, F_PK, 17, rfl, u_PK, by decide, rfl, tb_2 (List.mem_of_getElem? (i := 152) (by decide +kernel)) rfl⟩
theorem fl_PK_85 : FL "PrimeKeys" 85 7 16 := ⟨R_PK, F_PK, 17, rfl, u_PK, by decide, rfl, tb_2 (List.mem_of_getElem? (i := 153) (by decide +kernel)) rfl⟩
theorem td_PK_123 : TD "PrimeKeys" 123 125 2 := ⟨by decide, tb_3 (List.mem_of_getElem? (i := 102) (by decide +kernel)) rfl, tb_3 (List.mem_of_getElem? (i := 103) (by decide +kernel)) rfl, tb_1 (List.mem_of_getElem? (i := 20) (by decide +kernel)) rfl, tb_3 (List.mem_of_getElem? (i := 111) (by decide +kernel)) rfl⟩
theorem cd_PK_137 : CD "PrimeKeys" 137 y_Li_write b_Li_write 8 none 3 := ⟨tb_3 (List.mem_of_getElem? (i := 139) rfl) rfl, tb_1 (List.mem_of_getElem? (i := 5) (by decide +kernel)) rfl, tb_3 (List.mem_of_getElem? (i := 137) (by decide +kernel)) rfl, by decide +kernel⟩
theorem cd_PK_133 : CD "PrimeKeys" 133 y_Cu_readAffine b_Cu_readAffine 6 none 3 := ⟨tb_3 (List.mem_of_getElem? (i := 128) rfl) rfl, tb_1 (List.mem_of_getElem? (i := 3) (by decide +kernel)) rfl, tb_3 (List.mem_of_getElem? (i := 125) (by decide +kernel)) rfl, by decide +kernel⟩
theorem cd_PK_129 : CD "PrimeKeys" 129 y_Cu_sumOfTimes b_Cu_sumOfTimes 6 none 3 := ⟨tb_3 (List.mem_of_getElem? (i := 120) rfl) rfl, tb_1 (List.mem_of_getElem? (i := 3) (by decide +kernel)) rfl, tb_3 (List.mem_of_getElem? (i := 117) (by decide +kernel)) rfl, by decide +kernel⟩
theorem cd_PK_119 : CD "PrimeKeys" 119 y_PK_isKey b_PK_isKey 2 (some .boolean) 1 := ⟨tb_3 (List.mem_of_getElem? (i := 101) rfl) rfl, tb_1 (List.mem_of_getElem? (i := 1) (by decide +kernel)) rfl, tb_3 (List.mem_of_getElem? (i := 98) (by decide +kernel)) rfl, by decide +kernel⟩
theorem kw_in_PK_isKey : Cond.instanceMethod y_PK_isKey ∈ TB := tb_3 (List.mem_of_getElem? (i := 100) (by decide +kernel)) rfl
theorem kw_se_PK_isKey : Cond.selects "PrimeKeys" y_PK_isKey y_PK_isKey ∈ TB := tb_p (q := (y_PK_isKey, 17)) (by decide +kernel)
abbrev rm_PK_open : Room := { frames := 6, cells := 1, slots := 6, locals := 165 }
def P_PK_open (h : HP) (p0 : Nat) (p1 : Int32) : Option ((Nat ⊕ Unit) × HP) :=
  ob h p0 7 (
  bnd2 (P_PK_isKey h p0 p1) fun v2 h1 =>
  if v2 = 0 then
  some (.inl 2, h1)
  else
  bnd (gR h1 p0 7 11) fun k3 =>
  bnd (gR h1 p0 7 2) fun k4 =>
  bnd (ldR h1 k4 4 p1) fun k5 =>
  bnd (gR h1 p0 7 11) fun k6 =>
  bnd (gR h1 k6 0 0) fun k7 =>
  bnd (gR h1 p0 7 14) fun k8 =>
  ob h1 k3 0 (
  bnd (P_Cu_sumOfTimes h1 k3 k5 k7 k8) fun h9 =>
  bnd (gR h9 p0 7 11) fun k10 =>
  bnd (gR h9 p0 7 14) fun k11 =>
  bnd (gR h9 p0 7 15) fun k12 =>
  bnd (gR h9 p0 7 16) fun k13 =>
  ob h9 k10 0 (
  bnd (P_Cu_readAffine h9 k10 k11 k12 k13) fun h14 =>
  bnd (gR h14 p0 7 6) fun k15 =>
  bnd (stB h14 k15 0 4) fun h16 =>
  bnd (gR h16 p0 7 15) fun k17 =>
  bnd (gR h16 p0 7 6) fun k18 =>
  bnd (P_Li_write h16 k17 k18 1) fun h19 =>
  bnd (gR h19 p0 7 16) fun k20 =>
  bnd (gR h19 p0 7 6) fun k21 =>
  bnd (P_Li_write h19 k20 k21 33) fun h22 =>
  bnd (pV h22 p0 7 7 (.int 65)) fun h23 =>
  some (.inr (), h23))))
set_option maxHeartbeats 4000000 in
set_option maxRecDepth 100000 in
theorem c_PK_open {l : Launch} {h h' : HP} {p0 p1 : _} (hr : P_PK_open h p0 p1 = some (.inr (), h')) : MP l y_PK_open (Cond.code y_PK_open b_PK_open 2 none :: TB) rm_PK_open h [.ref p0, .int p1] none h' := by
  refine MP_intro (cc := b_PK_open) (by decide) (Nat.le_of_ble_eq_true rfl) (fun x hl0 C T hin => ?_)
  unfold P_PK_open at hr
  show GG x 0 0 h 0 [(0, .ref p0), (1, .int p1)] []
  refine g_aload_n C 0 rfl d_PK_open_0 rfl ?_
  refine g_iload_n C 1 rfl d_PK_open_1 rfl ?_
  obtain ⟨fsh1, hoh1, hr⟩ := of_ob hr
  obtain ⟨v2, h1, eh1, hr⟩ := of_bnd2 hr
  refine g_callV (pa := [.int p1]) C hl0 (c_PK_isKey eh1) cd_PK_119 kw_in_PK_isKey kw_se_PK_isKey hoh1 rfl rfl (by decide) rfl rfl (Nat.le_of_ble_eq_true rfl) d_PK_open_2 ?_
  refine g_if_ne (tgt := 16) C d_PK_open_5 (by decide) (fun z => ?_) (fun z => ?_)
  · have hr := of_el z hr
    refine g_aload_n C 0 rfl d_PK_open_16 rfl ?_
    obtain ⟨k3, ek3, hr⟩ := of_bnd hr
    refine g_getR C fl_PK_56 ek3 d_PK_open_17 ?_
    refine g_aload_n C 0 rfl d_PK_open_20 rfl ?_
    obtain ⟨k4, ek4, hr⟩ := of_bnd hr
    refine g_getR C fl_PK_19 ek4 d_PK_open_21 ?_
    refine g_iload_n C 1 rfl d_PK_open_24 rfl ?_
    obtain ⟨k5, ek5, hr⟩ := of_bnd hr
    refine g_aaload C (by decide) ek5 d_PK_open_25 ?_
    refine g_aload_n C 0 rfl d_PK_open_26 rfl ?_
    obtain ⟨k6, ek6, hr⟩ := of_bnd hr
    refine g_getR C fl_PK_56 ek6 d_PK_open_27 ?_
    obtain ⟨k7, ek7, hr⟩ := of_bnd hr
    refine g_getR C fl_PK_126 ek7 d_PK_open_30 ?_
    refine g_aload_n C 0 rfl d_PK_open_33 rfl ?_
    obtain ⟨k8, ek8, hr⟩ := of_bnd hr
    refine g_getR C fl_PK_75 ek8 d_PK_open_34 ?_
    obtain ⟨fsh9, hoh9, hr⟩ := of_ob hr
    obtain ⟨h9, eh9, hr⟩ := of_bnd hr
    refine g_callV (pa := [.ref k5, .ref k7, .ref k8]) C hl0 (c_Cu_sumOfTimes eh9) cd_PK_129 kw_in_Cu_sumOfTimes kw_se_Cu_sumOfTimes hoh9 rfl rfl (by decide) rfl rfl (Nat.le_of_ble_eq_true rfl) d_PK_open_37 ?_
    refine g_aload_n C 0 rfl d_PK_open_40 rfl ?_
    obtain ⟨k10, ek10, hr⟩ := of_bnd hr
    refine g_getR C fl_PK_56 ek10 d_PK_open_41 ?_
    refine g_aload_n C 0 rfl d_PK_open_44 rfl ?_
    obtain ⟨k11, ek11, hr⟩ := of_bnd hr
    refine g_getR C fl_PK_75 ek11 d_PK_open_45 ?_
    refine g_aload_n C 0 rfl d_PK_open_48 rfl ?_
    obtain ⟨k12, ek12, hr⟩ := of_bnd hr
    refine g_getR C fl_PK_81 ek12 d_PK_open_49 ?_
    refine g_aload_n C 0 rfl d_PK_open_52 rfl ?_
    obtain ⟨k13, ek13, hr⟩ := of_bnd hr
    refine g_getR C fl_PK_85 ek13 d_PK_open_53 ?_
    obtain ⟨fsh14, hoh14, hr⟩ := of_ob hr
    obtain ⟨h14, eh14, hr⟩ := of_bnd hr
    refine g_callV (pa := [.ref k11, .ref k12, .ref k13]) C hl0 (c_Cu_readAffine eh14) cd_PK_133 kw_in_Cu_readAffine kw_se_Cu_readAffine hoh14 rfl rfl (by decide) rfl rfl (Nat.le_of_ble_eq_true rfl) d_PK_open_56 ?_
    refine g_aload_n C 0 rfl d_PK_open_59 rfl ?_
    obtain ⟨k15, ek15, hr⟩ := of_bnd hr
    refine g_getR C fl_PK_33 ek15 d_PK_open_60 ?_
    refine g_iconst (v := 0) C d_PK_open_63 (by decide) ?_
    refine g_iconst (v := 4) C d_PK_open_64 (by decide) ?_
    obtain ⟨h16, eh16, hr⟩ := of_bnd hr
    refine g_bastore C eh16 d_PK_open_65 ?_
    refine g_aload_n C 0 rfl d_PK_open_66 rfl ?_
    obtain ⟨k17, ek17, hr⟩ := of_bnd hr
    refine g_getR C fl_PK_81 ek17 d_PK_open_67 ?_
    refine g_aload_n C 0 rfl d_PK_open_70 rfl ?_
    obtain ⟨k18, ek18, hr⟩ := of_bnd hr
    refine g_getR C fl_PK_33 ek18 d_PK_open_71 ?_
    refine g_iconst (v := 1) C d_PK_open_74 (by decide) ?_
    obtain ⟨h19, eh19, hr⟩ := of_bnd hr
    refine g_callS (pa := [.ref k17, .ref k18, .int 1]) C hl0 (c_Li_write eh19) cd_PK_137 kw_st_Li_write (by decide) rfl rfl (Nat.le_of_ble_eq_true rfl) d_PK_open_75 ?_
    refine g_aload_n C 0 rfl d_PK_open_78 rfl ?_
    obtain ⟨k20, ek20, hr⟩ := of_bnd hr
    refine g_getR C fl_PK_85 ek20 d_PK_open_79 ?_
    refine g_aload_n C 0 rfl d_PK_open_82 rfl ?_
    obtain ⟨k21, ek21, hr⟩ := of_bnd hr
    refine g_getR C fl_PK_33 ek21 d_PK_open_83 ?_
    refine g_bipush (v := 33) C d_PK_open_86 (by decide) ?_
    obtain ⟨h22, eh22, hr⟩ := of_bnd hr
    refine g_callS (pa := [.ref k20, .ref k21, .int 33]) C hl0 (c_Li_write eh22) cd_PK_137 kw_st_Li_write (by decide) rfl rfl (Nat.le_of_ble_eq_true rfl) d_PK_open_88 ?_
    refine g_aload_n C 0 rfl d_PK_open_91 rfl ?_
    refine g_bipush (v := 65) C d_PK_open_92 (by decide) ?_
    obtain ⟨h23, eh23, hr⟩ := of_bnd hr
    refine g_putI C fp_PK_36 eh23 d_PK_open_94 ?_
    cases hr
    exact g_vreturn C T (by decide) (by decide) d_PK_open_97
  · have hr := of_if z hr
    cases hr
set_option maxHeartbeats 4000000 in
set_option maxRecDepth 100000 in
theorem ct_PK_open {l : Launch} (htr : l.stackTraces = false) {h h' : HP} {p0 p1 : _} {i' : Nat} (hr : P_PK_open h p0 p1 = some (.inl i', h')) : MT l y_PK_open (Cond.code y_PK_open b_PK_open 2 none :: TB) rm_PK_open h [.ref p0, .int p1] i' h' := by
  refine MT_intro htr (cc := b_PK_open) (by decide) (Nat.le_of_ble_eq_true rfl) (fun x hl0 C T => ?_)
  unfold P_PK_open at hr
  show GG x 0 0 h 0 [(0, .ref p0), (1, .int p1)] []
  refine g_aload_n C 0 rfl d_PK_open_0 rfl ?_
  refine g_iload_n C 1 rfl d_PK_open_1 rfl ?_
  obtain ⟨fsh1, hoh1, hr⟩ := of_ob hr
  obtain ⟨v2, h1, eh1, hr⟩ := of_bnd2 hr
  refine g_callV (pa := [.int p1]) C hl0 (c_PK_isKey eh1) cd_PK_119 kw_in_PK_isKey kw_se_PK_isKey hoh1 rfl rfl (by decide) rfl rfl (Nat.le_of_ble_eq_true rfl) d_PK_open_2 ?_
  refine g_if_ne (tgt := 16) C d_PK_open_5 (by decide) (fun z => ?_) (fun z => ?_)
  · have hr := of_el z hr
    refine g_aload_n C 0 rfl d_PK_open_16 rfl ?_
    obtain ⟨k3, ek3, hr⟩ := of_bnd hr
    refine g_getR C fl_PK_56 ek3 d_PK_open_17 ?_
    refine g_aload_n C 0 rfl d_PK_open_20 rfl ?_
    obtain ⟨k4, ek4, hr⟩ := of_bnd hr
    refine g_getR C fl_PK_19 ek4 d_PK_open_21 ?_
    refine g_iload_n C 1 rfl d_PK_open_24 rfl ?_
    obtain ⟨k5, ek5, hr⟩ := of_bnd hr
    refine g_aaload C (by decide) ek5 d_PK_open_25 ?_
    refine g_aload_n C 0 rfl d_PK_open_26 rfl ?_
    obtain ⟨k6, ek6, hr⟩ := of_bnd hr
    refine g_getR C fl_PK_56 ek6 d_PK_open_27 ?_
    obtain ⟨k7, ek7, hr⟩ := of_bnd hr
    refine g_getR C fl_PK_126 ek7 d_PK_open_30 ?_
    refine g_aload_n C 0 rfl d_PK_open_33 rfl ?_
    obtain ⟨k8, ek8, hr⟩ := of_bnd hr
    refine g_getR C fl_PK_75 ek8 d_PK_open_34 ?_
    obtain ⟨fsh9, hoh9, hr⟩ := of_ob hr
    obtain ⟨h9, eh9, hr⟩ := of_bnd hr
    refine g_callV (pa := [.ref k5, .ref k7, .ref k8]) C hl0 (c_Cu_sumOfTimes eh9) cd_PK_129 kw_in_Cu_sumOfTimes kw_se_Cu_sumOfTimes hoh9 rfl rfl (by decide) rfl rfl (Nat.le_of_ble_eq_true rfl) d_PK_open_37 ?_
    refine g_aload_n C 0 rfl d_PK_open_40 rfl ?_
    obtain ⟨k10, ek10, hr⟩ := of_bnd hr
    refine g_getR C fl_PK_56 ek10 d_PK_open_41 ?_
    refine g_aload_n C 0 rfl d_PK_open_44 rfl ?_
    obtain ⟨k11, ek11, hr⟩ := of_bnd hr
    refine g_getR C fl_PK_75 ek11 d_PK_open_45 ?_
    refine g_aload_n C 0 rfl d_PK_open_48 rfl ?_
    obtain ⟨k12, ek12, hr⟩ := of_bnd hr
    refine g_getR C fl_PK_81 ek12 d_PK_open_49 ?_
    refine g_aload_n C 0 rfl d_PK_open_52 rfl ?_
    obtain ⟨k13, ek13, hr⟩ := of_bnd hr
    refine g_getR C fl_PK_85 ek13 d_PK_open_53 ?_
    obtain ⟨fsh14, hoh14, hr⟩ := of_ob hr
    obtain ⟨h14, eh14, hr⟩ := of_bnd hr
    refine g_callV (pa := [.ref k11, .ref k12, .ref k13]) C hl0 (c_Cu_readAffine eh14) cd_PK_133 kw_in_Cu_readAffine kw_se_Cu_readAffine hoh14 rfl rfl (by decide) rfl rfl (Nat.le_of_ble_eq_true rfl) d_PK_open_56 ?_
    refine g_aload_n C 0 rfl d_PK_open_59 rfl ?_
    obtain ⟨k15, ek15, hr⟩ := of_bnd hr
    refine g_getR C fl_PK_33 ek15 d_PK_open_60 ?_
    refine g_iconst (v := 0) C d_PK_open_63 (by decide) ?_
    refine g_iconst (v := 4) C d_PK_open_64 (by decide) ?_
    obtain ⟨h16, eh16, hr⟩ := of_bnd hr
    refine g_bastore C eh16 d_PK_open_65 ?_
    refine g_aload_n C 0 rfl d_PK_open_66 rfl ?_
    obtain ⟨k17, ek17, hr⟩ := of_bnd hr
    refine g_getR C fl_PK_81 ek17 d_PK_open_67 ?_
    refine g_aload_n C 0 rfl d_PK_open_70 rfl ?_
    obtain ⟨k18, ek18, hr⟩ := of_bnd hr
    refine g_getR C fl_PK_33 ek18 d_PK_open_71 ?_
    refine g_iconst (v := 1) C d_PK_open_74 (by decide) ?_
    obtain ⟨h19, eh19, hr⟩ := of_bnd hr
    refine g_callS (pa := [.ref k17, .ref k18, .int 1]) C hl0 (c_Li_write eh19) cd_PK_137 kw_st_Li_write (by decide) rfl rfl (Nat.le_of_ble_eq_true rfl) d_PK_open_75 ?_
    refine g_aload_n C 0 rfl d_PK_open_78 rfl ?_
    obtain ⟨k20, ek20, hr⟩ := of_bnd hr
    refine g_getR C fl_PK_85 ek20 d_PK_open_79 ?_
    refine g_aload_n C 0 rfl d_PK_open_82 rfl ?_
    obtain ⟨k21, ek21, hr⟩ := of_bnd hr
    refine g_getR C fl_PK_33 ek21 d_PK_open_83 ?_
    refine g_bipush (v := 33) C d_PK_open_86 (by decide) ?_
    obtain ⟨h22, eh22, hr⟩ := of_bnd hr
    refine g_callS (pa := [.ref k20, .ref k21, .int 33]) C hl0 (c_Li_write eh22) cd_PK_137 kw_st_Li_write (by decide) rfl rfl (Nat.le_of_ble_eq_true rfl) d_PK_open_88 ?_
    refine g_aload_n C 0 rfl d_PK_open_91 rfl ?_
    refine g_bipush (v := 65) C d_PK_open_92 (by decide) ?_
    obtain ⟨h23, eh23, hr⟩ := of_bnd hr
    refine g_putI C fp_PK_36 eh23 d_PK_open_94 ?_
    cases hr
  · have hr := of_if z hr
    cases hr
    exact g_throw C T td_PK_123 (by decide) (by decide) (by decide) (by decide) d_PK_open_8 d_PK_open_11 d_PK_open_12 d_PK_open_15
abbrev b_PK_agree : ByteArray := prog_1_method_6_code
abbrev y_PK_agree : MethodName := ⟨"PrimeKeys", "agree", "(I)V"⟩
theorem d_PK_agree_0 : decode b_PK_agree 0 = .ok (.aload_n 0, 1) := by decide +kernel
theorem d_PK_agree_1 : decode b_PK_agree 1 = .ok (.iload_n 1, 1) := by decide +kernel
theorem d_PK_agree_2 : decode b_PK_agree 2 = .ok (.invokevirtual 119, 3) := by decide +kernel
theorem d_PK_agree_5 : decode b_PK_agree 5 = .ok (.ifCond .ne 11, 3) := by decide +kernel
theorem d_PK_agree_8 : decode b_PK_agree 8 = .ok (.new 123, 3) := by decide +kernel
theorem d_PK_agree_11 : decode b_PK_agree 11 = .ok (.dup, 1) := by decide +kernel
theorem d_PK_agree_12 : decode b_PK_agree 12 = .ok (.invokespecial 125, 3) := by decide +kernel
theorem d_PK_agree_15 : decode b_PK_agree 15 = .ok (.athrow, 1) := by decide +kernel
theorem d_PK_agree_16 : decode b_PK_agree 16 = .ok (.aload_n 0, 1) := by decide +kernel
theorem d_PK_agree_17 : decode b_PK_agree 17 = .ok (.getfield 13, 3) := by decide +kernel
theorem d_PK_agree_20 : decode b_PK_agree 20 = .ok (.bipush 65, 2) := by decide +kernel
theorem d_PK_agree_22 : decode b_PK_agree 22 = .ok (.if_icmp .ne 17, 3) := by decide +kernel
theorem d_PK_agree_25 : decode b_PK_agree 25 = .ok (.aload_n 0, 1) := by decide +kernel
theorem d_PK_agree_26 : decode b_PK_agree 26 = .ok (.getfield 56, 3) := by decide +kernel
theorem d_PK_agree_29 : decode b_PK_agree 29 = .ok (.aload_n 0, 1) := by decide +kernel
theorem d_PK_agree_30 : decode b_PK_agree 30 = .ok (.getfield 9, 3) := by decide +kernel
theorem d_PK_agree_33 : decode b_PK_agree 33 = .ok (.invokevirtual 141, 3) := by decide +kernel
theorem d_PK_agree_36 : decode b_PK_agree 36 = .ok (.ifCond .ne 11, 3) := by decide +kernel
theorem d_PK_agree_39 : decode b_PK_agree 39 = .ok (.new 106, 3) := by decide +kernel
theorem d_PK_agree_42 : decode b_PK_agree 42 = .ok (.dup, 1) := by decide +kernel
theorem d_PK_agree_43 : decode b_PK_agree 43 = .ok (.invokespecial 108, 3) := by decide +kernel
theorem d_PK_agree_46 : decode b_PK_agree 46 = .ok (.athrow, 1) := by decide +kernel
theorem d_PK_agree_47 : decode b_PK_agree 47 = .ok (.aload_n 0, 1) := by decide +kernel
theorem d_PK_agree_48 : decode b_PK_agree 48 = .ok (.getfield 56, 3) := by decide +kernel
theorem d_PK_agree_51 : decode b_PK_agree 51 = .ok (.aload_n 0, 1) := by decide +kernel
theorem d_PK_agree_52 : decode b_PK_agree 52 = .ok (.getfield 56, 3) := by decide +kernel
theorem d_PK_agree_55 : decode b_PK_agree 55 = .ok (.getfield 126, 3) := by decide +kernel
theorem d_PK_agree_58 : decode b_PK_agree 58 = .ok (.aload_n 0, 1) := by decide +kernel
theorem d_PK_agree_59 : decode b_PK_agree 59 = .ok (.getfield 19, 3) := by decide +kernel
theorem d_PK_agree_62 : decode b_PK_agree 62 = .ok (.iload_n 1, 1) := by decide +kernel
theorem d_PK_agree_63 : decode b_PK_agree 63 = .ok (.aaload, 1) := by decide +kernel
theorem d_PK_agree_64 : decode b_PK_agree 64 = .ok (.aload_n 0, 1) := by decide +kernel
theorem d_PK_agree_65 : decode b_PK_agree 65 = .ok (.getfield 75, 3) := by decide +kernel
theorem d_PK_agree_68 : decode b_PK_agree 68 = .ok (.invokevirtual 129, 3) := by decide +kernel
theorem d_PK_agree_71 : decode b_PK_agree 71 = .ok (.aload_n 0, 1) := by decide +kernel
theorem d_PK_agree_72 : decode b_PK_agree 72 = .ok (.getfield 56, 3) := by decide +kernel
theorem d_PK_agree_75 : decode b_PK_agree 75 = .ok (.aload_n 0, 1) := by decide +kernel
theorem d_PK_agree_76 : decode b_PK_agree 76 = .ok (.getfield 75, 3) := by decide +kernel
theorem d_PK_agree_79 : decode b_PK_agree 79 = .ok (.aload_n 0, 1) := by decide +kernel
theorem d_PK_agree_80 : decode b_PK_agree 80 = .ok (.getfield 81, 3) := by decide +kernel
theorem d_PK_agree_83 : decode b_PK_agree 83 = .ok (.aload_n 0, 1) := by decide +kernel
theorem d_PK_agree_84 : decode b_PK_agree 84 = .ok (.getfield 85, 3) := by decide +kernel
theorem d_PK_agree_87 : decode b_PK_agree 87 = .ok (.invokevirtual 133, 3) := by decide +kernel
theorem d_PK_agree_90 : decode b_PK_agree 90 = .ok (.aload_n 0, 1) := by decide +kernel
theorem d_PK_agree_91 : decode b_PK_agree 91 = .ok (.getfield 81, 3) := by decide +kernel
theorem d_PK_agree_94 : decode b_PK_agree 94 = .ok (.aload_n 0, 1) := by decide +kernel
theorem d_PK_agree_95 : decode b_PK_agree 95 = .ok (.getfield 33, 3) := by decide +kernel
theorem d_PK_agree_98 : decode b_PK_agree 98 = .ok (.iconst 0, 1) := by decide +kernel
theorem d_PK_agree_99 : decode b_PK_agree 99 = .ok (.invokestatic 137, 3) := by decide +kernel
theorem d_PK_agree_102 : decode b_PK_agree 102 = .ok (.aload_n 0, 1) := by decide +kernel
theorem d_PK_agree_103 : decode b_PK_agree 103 = .ok (.bipush 32, 2) := by decide +kernel
theorem d_PK_agree_105 : decode b_PK_agree 105 = .ok (.putfield 36, 3) := by decide +kernel
theorem d_PK_agree_108 : decode b_PK_agree 108 = .ok (.aload_n 0, 1) := by decide +kernel
theorem d_PK_agree_109 : decode b_PK_agree 109 = .ok (.iconst 0, 1) := by decide +kernel
theorem d_PK_agree_110 : decode b_PK_agree 110 = .ok (.putfield 13, 3) := by decide +kernel
theorem d_PK_agree_113 : decode b_PK_agree 113 = .ok (.return_, 1) := by decide +kernel
theorem cd_PK_141 : CD "PrimeKeys" 141 y_Cu_takesOther b_Cu_takesOther 3 (some .boolean) 1 := ⟨tb_3 (List.mem_of_getElem? (i := 150) rfl) rfl, tb_1 (List.mem_of_getElem? (i := 3) (by decide +kernel)) rfl, tb_3 (List.mem_of_getElem? (i := 147) (by decide +kernel)) rfl, by decide +kernel⟩
theorem kw_in_Cu_takesOther : Cond.instanceMethod y_Cu_takesOther ∈ TB := tb_3 (List.mem_of_getElem? (i := 148) (by decide +kernel)) rfl
theorem kw_se_Cu_takesOther : Cond.selects "PrimeKeys$Curve" y_Cu_takesOther y_Cu_takesOther ∈ TB := tb_3 (List.mem_of_getElem? (i := 149) (by decide +kernel)) rfl
abbrev rm_PK_agree : Room := { frames := 7, cells := 1, slots := 6, locals := 184 }
def B_PK_agree_39 (h : HP) : Option ((Nat ⊕ Unit) × HP) :=
  some (.inl 1, h)
set_option maxHeartbeats 4000000 in
set_option maxRecDepth 100000 in
theorem bk_PK_agree_39 {l : Launch} {x : CX} {h0 h' : HP} (C : EV x b_PK_agree "PrimeKeys" 2 rm_PK_agree) (T : CT x (none) rm_PK_agree h0 none h') (hl0 : x.1.2.1 = l) (h : HP) (hr : B_PK_agree_39 h = some (.inr (), h')) : GG x 0 0 h 39 [] [] := by
  unfold B_PK_agree_39 at hr
  cases hr
def P_PK_agree (h : HP) (p0 : Nat) (p1 : Int32) : Option ((Nat ⊕ Unit) × HP) :=
  ob h p0 7 (
  bnd2 (P_PK_isKey h p0 p1) fun v2 h1 =>
  if v2 = 0 then
  some (.inl 2, h1)
  else
  bnd (gI h1 p0 7 1) fun v3 =>
  if v3 = 65 then
  bnd (gR h1 p0 7 11) fun k4 =>
  bnd (gR h1 p0 7 0) fun k5 =>
  ob h1 k4 0 (
  bnd2 (P_Cu_takesOther h1 k4 k5) fun v7 h6 =>
  if v7 = 0 then
  B_PK_agree_39 h6
  else
  bnd (gR h6 p0 7 11) fun k8 =>
  bnd (gR h6 p0 7 11) fun k9 =>
  bnd (gR h6 k9 0 0) fun k10 =>
  bnd (gR h6 p0 7 2) fun k11 =>
  bnd (ldR h6 k11 4 p1) fun k12 =>
  bnd (gR h6 p0 7 14) fun k13 =>
  ob h6 k8 0 (
  bnd (P_Cu_sumOfTimes h6 k8 k10 k12 k13) fun h14 =>
  bnd (gR h14 p0 7 11) fun k15 =>
  bnd (gR h14 p0 7 14) fun k16 =>
  bnd (gR h14 p0 7 15) fun k17 =>
  bnd (gR h14 p0 7 16) fun k18 =>
  ob h14 k15 0 (
  bnd (P_Cu_readAffine h14 k15 k16 k17 k18) fun h19 =>
  bnd (gR h19 p0 7 15) fun k20 =>
  bnd (gR h19 p0 7 6) fun k21 =>
  bnd (P_Li_write h19 k20 k21 0) fun h22 =>
  bnd (pV h22 p0 7 7 (.int 32)) fun h23 =>
  bnd (pV h23 p0 7 1 (.int 0)) fun h24 =>
  some (.inr (), h24))))
  else
  B_PK_agree_39 h1)
set_option maxHeartbeats 4000000 in
set_option maxRecDepth 100000 in
theorem c_PK_agree {l : Launch} {h h' : HP} {p0 p1 : _} (hr : P_PK_agree h p0 p1 = some (.inr (), h')) : MP l y_PK_agree (Cond.code y_PK_agree b_PK_agree 2 none :: TB) rm_PK_agree h [.ref p0, .int p1] none h' := by
  refine MP_intro (cc := b_PK_agree) (by decide) (Nat.le_of_ble_eq_true rfl) (fun x hl0 C T hin => ?_)
  unfold P_PK_agree at hr
  show GG x 0 0 h 0 [(0, .ref p0), (1, .int p1)] []
  refine g_aload_n C 0 rfl d_PK_agree_0 rfl ?_
  refine g_iload_n C 1 rfl d_PK_agree_1 rfl ?_
  obtain ⟨fsh1, hoh1, hr⟩ := of_ob hr
  obtain ⟨v2, h1, eh1, hr⟩ := of_bnd2 hr
  refine g_callV (pa := [.int p1]) C hl0 (c_PK_isKey eh1) cd_PK_119 kw_in_PK_isKey kw_se_PK_isKey hoh1 rfl rfl (by decide) rfl rfl (Nat.le_of_ble_eq_true rfl) d_PK_agree_2 ?_
  refine g_if_ne (tgt := 16) C d_PK_agree_5 (by decide) (fun z => ?_) (fun z => ?_)
  · have hr := of_el z hr
    refine g_aload_n C 0 rfl d_PK_agree_16 rfl ?_
    obtain ⟨v3, ev3, hr⟩ := of_bnd hr
    refine g_getI C fl_PK_13 ev3 d_PK_agree_17 ?_
    refine g_bipush (v := 65) C d_PK_agree_20 (by decide) ?_
    refine g_icmp_ne (tgt := 39) C d_PK_agree_22 (by decide) (fun z => ?_) (fun z => ?_)
    · have hr := of_el z hr
      refine g_lv [] rfl ?_
      exact bk_PK_agree_39 C T hl0 h1 hr
    · have hr := of_if z hr
      refine g_aload_n C 0 rfl d_PK_agree_25 rfl ?_
      obtain ⟨k4, ek4, hr⟩ := of_bnd hr
      refine g_getR C fl_PK_56 ek4 d_PK_agree_26 ?_
      refine g_aload_n C 0 rfl d_PK_agree_29 rfl ?_
      obtain ⟨k5, ek5, hr⟩ := of_bnd hr
      refine g_getR C fl_PK_9 ek5 d_PK_agree_30 ?_
      obtain ⟨fsh6, hoh6, hr⟩ := of_ob hr
      obtain ⟨v7, h6, eh6, hr⟩ := of_bnd2 hr
      refine g_callV (pa := [.ref k5]) C hl0 (c_Cu_takesOther eh6) cd_PK_141 kw_in_Cu_takesOther kw_se_Cu_takesOther hoh6 rfl rfl (by decide) rfl rfl (Nat.le_of_ble_eq_true rfl) d_PK_agree_33 ?_
      refine g_if_ne (tgt := 47) C d_PK_agree_36 (by decide) (fun z => ?_) (fun z => ?_)
      · have hr := of_el z hr
        refine g_aload_n C 0 rfl d_PK_agree_47 rfl ?_
        obtain ⟨k8, ek8, hr⟩ := of_bnd hr
        refine g_getR C fl_PK_56 ek8 d_PK_agree_48 ?_
        refine g_aload_n C 0 rfl d_PK_agree_51 rfl ?_
        obtain ⟨k9, ek9, hr⟩ := of_bnd hr
        refine g_getR C fl_PK_56 ek9 d_PK_agree_52 ?_
        obtain ⟨k10, ek10, hr⟩ := of_bnd hr
        refine g_getR C fl_PK_126 ek10 d_PK_agree_55 ?_
        refine g_aload_n C 0 rfl d_PK_agree_58 rfl ?_
        obtain ⟨k11, ek11, hr⟩ := of_bnd hr
        refine g_getR C fl_PK_19 ek11 d_PK_agree_59 ?_
        refine g_iload_n C 1 rfl d_PK_agree_62 rfl ?_
        obtain ⟨k12, ek12, hr⟩ := of_bnd hr
        refine g_aaload C (by decide) ek12 d_PK_agree_63 ?_
        refine g_aload_n C 0 rfl d_PK_agree_64 rfl ?_
        obtain ⟨k13, ek13, hr⟩ := of_bnd hr
        refine g_getR C fl_PK_75 ek13 d_PK_agree_65 ?_
        obtain ⟨fsh14, hoh14, hr⟩ := of_ob hr
        obtain ⟨h14, eh14, hr⟩ := of_bnd hr
        refine g_callV (pa := [.ref k10, .ref k12, .ref k13]) C hl0 (c_Cu_sumOfTimes eh14) cd_PK_129 kw_in_Cu_sumOfTimes kw_se_Cu_sumOfTimes hoh14 rfl rfl (by decide) rfl rfl (Nat.le_of_ble_eq_true rfl) d_PK_agree_68 ?_
        refine g_aload_n C 0 rfl d_PK_agree_71 rfl ?_
        obtain ⟨k15, ek15, hr⟩ := of_bnd hr
        refine g_getR C fl_PK_56 ek15 d_PK_agree_72 ?_
        refine g_aload_n C 0 rfl d_PK_agree_75 rfl ?_
        obtain ⟨k16, ek16, hr⟩ := of_bnd hr
        refine g_getR C fl_PK_75 ek16 d_PK_agree_76 ?_
        refine g_aload_n C 0 rfl d_PK_agree_79 rfl ?_
        obtain ⟨k17, ek17, hr⟩ := of_bnd hr
        refine g_getR C fl_PK_81 ek17 d_PK_agree_80 ?_
        refine g_aload_n C 0 rfl d_PK_agree_83 rfl ?_
        obtain ⟨k18, ek18, hr⟩ := of_bnd hr
        refine g_getR C fl_PK_85 ek18 d_PK_agree_84 ?_
        obtain ⟨fsh19, hoh19, hr⟩ := of_ob hr
        obtain ⟨h19, eh19, hr⟩ := of_bnd hr
        refine g_callV (pa := [.ref k16, .ref k17, .ref k18]) C hl0 (c_Cu_readAffine eh19) cd_PK_133 kw_in_Cu_readAffine kw_se_Cu_readAffine hoh19 rfl rfl (by decide) rfl rfl (Nat.le_of_ble_eq_true rfl) d_PK_agree_87 ?_
        refine g_aload_n C 0 rfl d_PK_agree_90 rfl ?_
        obtain ⟨k20, ek20, hr⟩ := of_bnd hr
        refine g_getR C fl_PK_81 ek20 d_PK_agree_91 ?_
        refine g_aload_n C 0 rfl d_PK_agree_94 rfl ?_
        obtain ⟨k21, ek21, hr⟩ := of_bnd hr
        refine g_getR C fl_PK_33 ek21 d_PK_agree_95 ?_
        refine g_iconst (v := 0) C d_PK_agree_98 (by decide) ?_
        obtain ⟨h22, eh22, hr⟩ := of_bnd hr
        refine g_callS (pa := [.ref k20, .ref k21, .int 0]) C hl0 (c_Li_write eh22) cd_PK_137 kw_st_Li_write (by decide) rfl rfl (Nat.le_of_ble_eq_true rfl) d_PK_agree_99 ?_
        refine g_aload_n C 0 rfl d_PK_agree_102 rfl ?_
        refine g_bipush (v := 32) C d_PK_agree_103 (by decide) ?_
        obtain ⟨h23, eh23, hr⟩ := of_bnd hr
        refine g_putI C fp_PK_36 eh23 d_PK_agree_105 ?_
        refine g_aload_n C 0 rfl d_PK_agree_108 rfl ?_
        refine g_iconst (v := 0) C d_PK_agree_109 (by decide) ?_
        obtain ⟨h24, eh24, hr⟩ := of_bnd hr
        refine g_putI C fp_PK_13 eh24 d_PK_agree_110 ?_
        cases hr
        exact g_vreturn C T (by decide) (by decide) d_PK_agree_113
      · have hr := of_if z hr
        refine g_lv [] rfl ?_
        exact bk_PK_agree_39 C T hl0 h6 hr
  · have hr := of_if z hr
    cases hr
set_option maxHeartbeats 4000000 in
set_option maxRecDepth 100000 in
theorem bkt_PK_agree_39 {l : Launch} {x : CX} {h0 h' : HP} {i' : Nat} (C : EV x b_PK_agree "PrimeKeys" 2 rm_PK_agree) (T : CTT x rm_PK_agree h0 i' h') (hl0 : x.1.2.1 = l) (h : HP) (hr : B_PK_agree_39 h = some (.inl i', h')) : GG x 0 0 h 39 [] [] := by
  unfold B_PK_agree_39 at hr
  cases hr
  exact g_throw C T td_PK_106 (by decide) (by decide) (by decide) (by decide) d_PK_agree_39 d_PK_agree_42 d_PK_agree_43 d_PK_agree_46
set_option maxHeartbeats 4000000 in
set_option maxRecDepth 100000 in
theorem ct_PK_agree {l : Launch} (htr : l.stackTraces = false) {h h' : HP} {p0 p1 : _} {i' : Nat} (hr : P_PK_agree h p0 p1 = some (.inl i', h')) : MT l y_PK_agree (Cond.code y_PK_agree b_PK_agree 2 none :: TB) rm_PK_agree h [.ref p0, .int p1] i' h' := by
  refine MT_intro htr (cc := b_PK_agree) (by decide) (Nat.le_of_ble_eq_true rfl) (fun x hl0 C T => ?_)
  unfold P_PK_agree at hr
  show GG x 0 0 h 0 [(0, .ref p0), (1, .int p1)] []
  refine g_aload_n C 0 rfl d_PK_agree_0 rfl ?_
  refine g_iload_n C 1 rfl d_PK_agree_1 rfl ?_
  obtain ⟨fsh1, hoh1, hr⟩ := of_ob hr
  obtain ⟨v2, h1, eh1, hr⟩ := of_bnd2 hr
  refine g_callV (pa := [.int p1]) C hl0 (c_PK_isKey eh1) cd_PK_119 kw_in_PK_isKey kw_se_PK_isKey hoh1 rfl rfl (by decide) rfl rfl (Nat.le_of_ble_eq_true rfl) d_PK_agree_2 ?_
  refine g_if_ne (tgt := 16) C d_PK_agree_5 (by decide) (fun z => ?_) (fun z => ?_)
  · have hr := of_el z hr
    refine g_aload_n C 0 rfl d_PK_agree_16 rfl ?_
    obtain ⟨v3, ev3, hr⟩ := of_bnd hr
    refine g_getI C fl_PK_13 ev3 d_PK_agree_17 ?_
    refine g_bipush (v := 65) C d_PK_agree_20 (by decide) ?_
    refine g_icmp_ne (tgt := 39) C d_PK_agree_22 (by decide) (fun z => ?_) (fun z => ?_)
    · have hr := of_el z hr
      refine g_lv [] rfl ?_
      exact bkt_PK_agree_39 C T hl0 h1 hr
    · have hr := of_if z hr
      refine g_aload_n C 0 rfl d_PK_agree_25 rfl ?_
      obtain ⟨k4, ek4, hr⟩ := of_bnd hr
      refine g_getR C fl_PK_56 ek4 d_PK_agree_26 ?_
      refine g_aload_n C 0 rfl d_PK_agree_29 rfl ?_
      obtain ⟨k5, ek5, hr⟩ := of_bnd hr
      refine g_getR C fl_PK_9 ek5 d_PK_agree_30 ?_
      obtain ⟨fsh6, hoh6, hr⟩ := of_ob hr
      obtain ⟨v7, h6, eh6, hr⟩ := of_bnd2 hr
      refine g_callV (pa := [.ref k5]) C hl0 (c_Cu_takesOther eh6) cd_PK_141 kw_in_Cu_takesOther kw_se_Cu_takesOther hoh6 rfl rfl (by decide) rfl rfl (Nat.le_of_ble_eq_true rfl) d_PK_agree_33 ?_
      refine g_if_ne (tgt := 47) C d_PK_agree_36 (by decide) (fun z => ?_) (fun z => ?_)
      · have hr := of_el z hr
        refine g_aload_n C 0 rfl d_PK_agree_47 rfl ?_
        obtain ⟨k8, ek8, hr⟩ := of_bnd hr
        refine g_getR C fl_PK_56 ek8 d_PK_agree_48 ?_
        refine g_aload_n C 0 rfl d_PK_agree_51 rfl ?_
        obtain ⟨k9, ek9, hr⟩ := of_bnd hr
        refine g_getR C fl_PK_56 ek9 d_PK_agree_52 ?_
        obtain ⟨k10, ek10, hr⟩ := of_bnd hr
        refine g_getR C fl_PK_126 ek10 d_PK_agree_55 ?_
        refine g_aload_n C 0 rfl d_PK_agree_58 rfl ?_
        obtain ⟨k11, ek11, hr⟩ := of_bnd hr
        refine g_getR C fl_PK_19 ek11 d_PK_agree_59 ?_
        refine g_iload_n C 1 rfl d_PK_agree_62 rfl ?_
        obtain ⟨k12, ek12, hr⟩ := of_bnd hr
        refine g_aaload C (by decide) ek12 d_PK_agree_63 ?_
        refine g_aload_n C 0 rfl d_PK_agree_64 rfl ?_
        obtain ⟨k13, ek13, hr⟩ := of_bnd hr
        refine g_getR C fl_PK_75 ek13 d_PK_agree_65 ?_
        obtain ⟨fsh14, hoh14, hr⟩ := of_ob hr
        obtain ⟨h14, eh14, hr⟩ := of_bnd hr
        refine g_callV (pa := [.ref k10, .ref k12, .ref k13]) C hl0 (c_Cu_sumOfTimes eh14) cd_PK_129 kw_in_Cu_sumOfTimes kw_se_Cu_sumOfTimes hoh14 rfl rfl (by decide) rfl rfl (Nat.le_of_ble_eq_true rfl) d_PK_agree_68 ?_
        refine g_aload_n C 0 rfl d_PK_agree_71 rfl ?_
        obtain ⟨k15, ek15, hr⟩ := of_bnd hr
        refine g_getR C fl_PK_56 ek15 d_PK_agree_72 ?_
        refine g_aload_n C 0 rfl d_PK_agree_75 rfl ?_
        obtain ⟨k16, ek16, hr⟩ := of_bnd hr
        refine g_getR C fl_PK_75 ek16 d_PK_agree_76 ?_
        refine g_aload_n C 0 rfl d_PK_agree_79 rfl ?_
        obtain ⟨k17, ek17, hr⟩ := of_bnd hr
        refine g_getR C fl_PK_81 ek17 d_PK_agree_80 ?_
        refine g_aload_n C 0 rfl d_PK_agree_83 rfl ?_
        obtain ⟨k18, ek18, hr⟩ := of_bnd hr
        refine g_getR C fl_PK_85 ek18 d_PK_agree_84 ?_
        obtain ⟨fsh19, hoh19, hr⟩ := of_ob hr
        obtain ⟨h19, eh19, hr⟩ := of_bnd hr
        refine g_callV (pa := [.ref k16, .ref k17, .ref k18]) C hl0 (c_Cu_readAffine eh19) cd_PK_133 kw_in_Cu_readAffine kw_se_Cu_readAffine hoh19 rfl rfl (by decide) rfl rfl (Nat.le_of_ble_eq_true rfl) d_PK_agree_87 ?_
        refine g_aload_n C 0 rfl d_PK_agree_90 rfl ?_
        obtain ⟨k20, ek20, hr⟩ := of_bnd hr
        refine g_getR C fl_PK_81 ek20 d_PK_agree_91 ?_
        refine g_aload_n C 0 rfl d_PK_agree_94 rfl ?_
        obtain ⟨k21, ek21, hr⟩ := of_bnd hr
        refine g_getR C fl_PK_33 ek21 d_PK_agree_95 ?_
        refine g_iconst (v := 0) C d_PK_agree_98 (by decide) ?_
        obtain ⟨h22, eh22, hr⟩ := of_bnd hr
        refine g_callS (pa := [.ref k20, .ref k21, .int 0]) C hl0 (c_Li_write eh22) cd_PK_137 kw_st_Li_write (by decide) rfl rfl (Nat.le_of_ble_eq_true rfl) d_PK_agree_99 ?_
        refine g_aload_n C 0 rfl d_PK_agree_102 rfl ?_
        refine g_bipush (v := 32) C d_PK_agree_103 (by decide) ?_
        obtain ⟨h23, eh23, hr⟩ := of_bnd hr
        refine g_putI C fp_PK_36 eh23 d_PK_agree_105 ?_
        refine g_aload_n C 0 rfl d_PK_agree_108 rfl ?_
        refine g_iconst (v := 0) C d_PK_agree_109 (by decide) ?_
        obtain ⟨h24, eh24, hr⟩ := of_bnd hr
        refine g_putI C fp_PK_13 eh24 d_PK_agree_110 ?_
        cases hr
      · have hr := of_if z hr
        refine g_lv [] rfl ?_
        exact bkt_PK_agree_39 C T hl0 h6 hr
  · have hr := of_if z hr
    cases hr
    exact g_throw C T td_PK_123 (by decide) (by decide) (by decide) (by decide) d_PK_agree_8 d_PK_agree_11 d_PK_agree_12 d_PK_agree_15
abbrev b_PK_sign : ByteArray := prog_1_method_8_code
abbrev y_PK_sign : MethodName := ⟨"PrimeKeys", "sign", "(I)I"⟩
theorem d_PK_sign_0 : decode b_PK_sign 0 = .ok (.aload_n 0, 1) := by decide +kernel
theorem d_PK_sign_1 : decode b_PK_sign 1 = .ok (.iload_n 1, 1) := by decide +kernel
theorem d_PK_sign_2 : decode b_PK_sign 2 = .ok (.invokevirtual 119, 3) := by decide +kernel
theorem d_PK_sign_5 : decode b_PK_sign 5 = .ok (.ifCond .ne 11, 3) := by decide +kernel
theorem d_PK_sign_8 : decode b_PK_sign 8 = .ok (.new 123, 3) := by decide +kernel
theorem d_PK_sign_11 : decode b_PK_sign 11 = .ok (.dup, 1) := by decide +kernel
theorem d_PK_sign_12 : decode b_PK_sign 12 = .ok (.invokespecial 125, 3) := by decide +kernel
theorem d_PK_sign_15 : decode b_PK_sign 15 = .ok (.athrow, 1) := by decide +kernel
theorem d_PK_sign_16 : decode b_PK_sign 16 = .ok (.aload_n 0, 1) := by decide +kernel
theorem d_PK_sign_17 : decode b_PK_sign 17 = .ok (.getfield 63, 3) := by decide +kernel
theorem d_PK_sign_20 : decode b_PK_sign 20 = .ok (.aload_n 0, 1) := by decide +kernel
theorem d_PK_sign_21 : decode b_PK_sign 21 = .ok (.getfield 56, 3) := by decide +kernel
theorem d_PK_sign_24 : decode b_PK_sign 24 = .ok (.aload_n 0, 1) := by decide +kernel
theorem d_PK_sign_25 : decode b_PK_sign 25 = .ok (.getfield 19, 3) := by decide +kernel
theorem d_PK_sign_28 : decode b_PK_sign 28 = .ok (.iload_n 1, 1) := by decide +kernel
theorem d_PK_sign_29 : decode b_PK_sign 29 = .ok (.aaload, 1) := by decide +kernel
theorem d_PK_sign_30 : decode b_PK_sign 30 = .ok (.aload_n 0, 1) := by decide +kernel
theorem d_PK_sign_31 : decode b_PK_sign 31 = .ok (.getfield 25, 3) := by decide +kernel
theorem d_PK_sign_34 : decode b_PK_sign 34 = .ok (.aload_n 0, 1) := by decide +kernel
theorem d_PK_sign_35 : decode b_PK_sign 35 = .ok (.getfield 68, 3) := by decide +kernel
theorem d_PK_sign_38 : decode b_PK_sign 38 = .ok (.invokevirtual 145, 3) := by decide +kernel
theorem d_PK_sign_41 : decode b_PK_sign 41 = .ok (.aload_n 0, 1) := by decide +kernel
theorem d_PK_sign_42 : decode b_PK_sign 42 = .ok (.aload_n 0, 1) := by decide +kernel
theorem d_PK_sign_43 : decode b_PK_sign 43 = .ok (.getfield 68, 3) := by decide +kernel
theorem d_PK_sign_46 : decode b_PK_sign 46 = .ok (.aload_n 0, 1) := by decide +kernel
theorem d_PK_sign_47 : decode b_PK_sign 47 = .ok (.getfield 33, 3) := by decide +kernel
theorem d_PK_sign_50 : decode b_PK_sign 50 = .ok (.invokevirtual 149, 3) := by decide +kernel
theorem d_PK_sign_53 : decode b_PK_sign 53 = .ok (.putfield 36, 3) := by decide +kernel
theorem d_PK_sign_56 : decode b_PK_sign 56 = .ok (.aload_n 0, 1) := by decide +kernel
theorem d_PK_sign_57 : decode b_PK_sign 57 = .ok (.dup, 1) := by decide +kernel
theorem d_PK_sign_58 : decode b_PK_sign 58 = .ok (.getfield 39, 3) := by decide +kernel
theorem d_PK_sign_61 : decode b_PK_sign 61 = .ok (.iconst 1, 1) := by decide +kernel
theorem d_PK_sign_62 : decode b_PK_sign 62 = .ok (.iadd, 1) := by decide +kernel
theorem d_PK_sign_63 : decode b_PK_sign 63 = .ok (.putfield 39, 3) := by decide +kernel
theorem d_PK_sign_66 : decode b_PK_sign 66 = .ok (.aload_n 0, 1) := by decide +kernel
theorem d_PK_sign_67 : decode b_PK_sign 67 = .ok (.getfield 36, 3) := by decide +kernel
theorem d_PK_sign_70 : decode b_PK_sign 70 = .ok (.ireturn, 1) := by decide +kernel
theorem fl_PK_68 : FL "PrimeKeys" 68 7 13 := ⟨R_PK, F_PK, 17, rfl, u_PK, by decide, rfl, tb_2 (List.mem_of_getElem? (i := 150) (by decide +kernel)) rfl⟩
theorem fl_PK_39 : FL "PrimeKeys" 39 7 8 := ⟨R_PK, F_PK, 17, rfl, u_PK, by decide, rfl, tb_2 (List.mem_of_getElem? (i := 145) (by decide +kernel)) rfl⟩
theorem cd_PK_149 : CD "PrimeKeys" 149 y_Sg_write b_Sg_write 4 (some .int) 1 := ⟨tb_3 (List.mem_of_getElem? (i := 229) rfl) rfl, tb_1 (List.mem_of_getElem? (i := 12) (by decide +kernel)) rfl, tb_3 (List.mem_of_getElem? (i := 226) (by decide +kernel)) rfl, by decide +kernel⟩
theorem kw_in_Sg_write : Cond.instanceMethod y_Sg_write ∈ TB := tb_3 (List.mem_of_getElem? (i := 227) (by decide +kernel)) rfl
theorem kw_se_Sg_write : Cond.selects "PrimeKeys$Signature" y_Sg_write y_Sg_write ∈ TB := tb_3 (List.mem_of_getElem? (i := 228) (by decide +kernel)) rfl
theorem cd_PK_145 : CD "PrimeKeys" 145 y_Si_makeSignature b_Si_makeSignature 6 none 4 := ⟨tb_3 (List.mem_of_getElem? (i := 167) rfl) rfl, tb_1 (List.mem_of_getElem? (i := 10) (by decide +kernel)) rfl, tb_3 (List.mem_of_getElem? (i := 164) (by decide +kernel)) rfl, by decide +kernel⟩
theorem kw_in_Si_makeSignature : Cond.instanceMethod y_Si_makeSignature ∈ TB := tb_3 (List.mem_of_getElem? (i := 165) (by decide +kernel)) rfl
theorem kw_se_Si_makeSignature : Cond.selects "PrimeKeys$Signer" y_Si_makeSignature y_Si_makeSignature ∈ TB := tb_3 (List.mem_of_getElem? (i := 166) (by decide +kernel)) rfl
abbrev rm_PK_sign : Room := { frames := 7, cells := 1, slots := 6, locals := 190 }
def P_PK_sign (h : HP) (p0 : Nat) (p1 : Int32) : Option ((Nat ⊕ Int32) × HP) :=
  ob h p0 7 (
  bnd2 (P_PK_isKey h p0 p1) fun v2 h1 =>
  if v2 = 0 then
  some (.inl 2, h1)
  else
  bnd (gR h1 p0 7 12) fun k3 =>
  bnd (gR h1 p0 7 11) fun k4 =>
  bnd (gR h1 p0 7 2) fun k5 =>
  bnd (ldR h1 k5 4 p1) fun k6 =>
  bnd (gR h1 p0 7 4) fun k7 =>
  bnd (gR h1 p0 7 13) fun k8 =>
  ob h1 k3 6 (
  bnd (P_Si_makeSignature h1 k3 k4 k6 k7 k8) fun h9 =>
  bnd (gR h9 p0 7 13) fun k10 =>
  bnd (gR h9 p0 7 6) fun k11 =>
  ob h9 k10 5 (
  bnd2 (P_Sg_write h9 k10 k11) fun v13 h12 =>
  bnd (pV h12 p0 7 7 (.int v13)) fun h14 =>
  bnd (gI h14 p0 7 8) fun v15 =>
  bnd (pV h14 p0 7 8 (.int (v15 + 1))) fun h16 =>
  bnd (gI h16 p0 7 7) fun v17 =>
  some (.inr v17, h16))))
set_option maxHeartbeats 4000000 in
set_option maxRecDepth 100000 in
theorem c_PK_sign {l : Launch} {h h' : HP} {p0 p1 : _} {r' : Int32} (hr : P_PK_sign h p0 p1 = some (.inr r', h')) : MP l y_PK_sign (Cond.code y_PK_sign b_PK_sign 2 (some .int) :: TB) rm_PK_sign h [.ref p0, .int p1] (some (.int r')) h' := by
  refine MP_intro (cc := b_PK_sign) (by decide) (Nat.le_of_ble_eq_true rfl) (fun x hl0 C T hin => ?_)
  unfold P_PK_sign at hr
  show GG x 0 0 h 0 [(0, .ref p0), (1, .int p1)] []
  refine g_aload_n C 0 rfl d_PK_sign_0 rfl ?_
  refine g_iload_n C 1 rfl d_PK_sign_1 rfl ?_
  obtain ⟨fsh1, hoh1, hr⟩ := of_ob hr
  obtain ⟨v2, h1, eh1, hr⟩ := of_bnd2 hr
  refine g_callV (pa := [.int p1]) C hl0 (c_PK_isKey eh1) cd_PK_119 kw_in_PK_isKey kw_se_PK_isKey hoh1 rfl rfl (by decide) rfl rfl (Nat.le_of_ble_eq_true rfl) d_PK_sign_2 ?_
  refine g_if_ne (tgt := 16) C d_PK_sign_5 (by decide) (fun z => ?_) (fun z => ?_)
  · have hr := of_el z hr
    refine g_aload_n C 0 rfl d_PK_sign_16 rfl ?_
    obtain ⟨k3, ek3, hr⟩ := of_bnd hr
    refine g_getR C fl_PK_63 ek3 d_PK_sign_17 ?_
    refine g_aload_n C 0 rfl d_PK_sign_20 rfl ?_
    obtain ⟨k4, ek4, hr⟩ := of_bnd hr
    refine g_getR C fl_PK_56 ek4 d_PK_sign_21 ?_
    refine g_aload_n C 0 rfl d_PK_sign_24 rfl ?_
    obtain ⟨k5, ek5, hr⟩ := of_bnd hr
    refine g_getR C fl_PK_19 ek5 d_PK_sign_25 ?_
    refine g_iload_n C 1 rfl d_PK_sign_28 rfl ?_
    obtain ⟨k6, ek6, hr⟩ := of_bnd hr
    refine g_aaload C (by decide) ek6 d_PK_sign_29 ?_
    refine g_aload_n C 0 rfl d_PK_sign_30 rfl ?_
    obtain ⟨k7, ek7, hr⟩ := of_bnd hr
    refine g_getR C fl_PK_25 ek7 d_PK_sign_31 ?_
    refine g_aload_n C 0 rfl d_PK_sign_34 rfl ?_
    obtain ⟨k8, ek8, hr⟩ := of_bnd hr
    refine g_getR C fl_PK_68 ek8 d_PK_sign_35 ?_
    obtain ⟨fsh9, hoh9, hr⟩ := of_ob hr
    obtain ⟨h9, eh9, hr⟩ := of_bnd hr
    refine g_callV (pa := [.ref k4, .ref k6, .ref k7, .ref k8]) C hl0 (c_Si_makeSignature eh9) cd_PK_145 kw_in_Si_makeSignature kw_se_Si_makeSignature hoh9 rfl rfl (by decide) rfl rfl (Nat.le_of_ble_eq_true rfl) d_PK_sign_38 ?_
    refine g_aload_n C 0 rfl d_PK_sign_41 rfl ?_
    refine g_aload_n C 0 rfl d_PK_sign_42 rfl ?_
    obtain ⟨k10, ek10, hr⟩ := of_bnd hr
    refine g_getR C fl_PK_68 ek10 d_PK_sign_43 ?_
    refine g_aload_n C 0 rfl d_PK_sign_46 rfl ?_
    obtain ⟨k11, ek11, hr⟩ := of_bnd hr
    refine g_getR C fl_PK_33 ek11 d_PK_sign_47 ?_
    obtain ⟨fsh12, hoh12, hr⟩ := of_ob hr
    obtain ⟨v13, h12, eh12, hr⟩ := of_bnd2 hr
    refine g_callV (pa := [.ref k11]) C hl0 (c_Sg_write eh12) cd_PK_149 kw_in_Sg_write kw_se_Sg_write hoh12 rfl rfl (by decide) rfl rfl (Nat.le_of_ble_eq_true rfl) d_PK_sign_50 ?_
    obtain ⟨h14, eh14, hr⟩ := of_bnd hr
    refine g_putI C fp_PK_36 eh14 d_PK_sign_53 ?_
    refine g_aload_n C 0 rfl d_PK_sign_56 rfl ?_
    refine g_dup C d_PK_sign_57 rfl ?_
    obtain ⟨v15, ev15, hr⟩ := of_bnd hr
    refine g_getI C fl_PK_39 ev15 d_PK_sign_58 ?_
    refine g_iconst (v := 1) C d_PK_sign_61 (by decide) ?_
    refine g_iadd C d_PK_sign_62 ?_
    obtain ⟨h16, eh16, hr⟩ := of_bnd hr
    refine g_putI C fp_PK_39 eh16 d_PK_sign_63 ?_
    refine g_aload_n C 0 rfl d_PK_sign_66 rfl ?_
    obtain ⟨v17, ev17, hr⟩ := of_bnd hr
    refine g_getI C fl_PK_36 ev17 d_PK_sign_67 ?_
    cases hr
    exact g_ireturn C T rfl (by decide) (by decide) d_PK_sign_70
  · have hr := of_if z hr
    cases hr
set_option maxHeartbeats 4000000 in
set_option maxRecDepth 100000 in
theorem ct_PK_sign {l : Launch} (htr : l.stackTraces = false) {h h' : HP} {p0 p1 : _} {i' : Nat} (hr : P_PK_sign h p0 p1 = some (.inl i', h')) : MT l y_PK_sign (Cond.code y_PK_sign b_PK_sign 2 (some .int) :: TB) rm_PK_sign h [.ref p0, .int p1] i' h' := by
  refine MT_intro htr (cc := b_PK_sign) (by decide) (Nat.le_of_ble_eq_true rfl) (fun x hl0 C T => ?_)
  unfold P_PK_sign at hr
  show GG x 0 0 h 0 [(0, .ref p0), (1, .int p1)] []
  refine g_aload_n C 0 rfl d_PK_sign_0 rfl ?_
  refine g_iload_n C 1 rfl d_PK_sign_1 rfl ?_
  obtain ⟨fsh1, hoh1, hr⟩ := of_ob hr
  obtain ⟨v2, h1, eh1, hr⟩ := of_bnd2 hr
  refine g_callV (pa := [.int p1]) C hl0 (c_PK_isKey eh1) cd_PK_119 kw_in_PK_isKey kw_se_PK_isKey hoh1 rfl rfl (by decide) rfl rfl (Nat.le_of_ble_eq_true rfl) d_PK_sign_2 ?_
  refine g_if_ne (tgt := 16) C d_PK_sign_5 (by decide) (fun z => ?_) (fun z => ?_)
  · have hr := of_el z hr
    refine g_aload_n C 0 rfl d_PK_sign_16 rfl ?_
    obtain ⟨k3, ek3, hr⟩ := of_bnd hr
    refine g_getR C fl_PK_63 ek3 d_PK_sign_17 ?_
    refine g_aload_n C 0 rfl d_PK_sign_20 rfl ?_
    obtain ⟨k4, ek4, hr⟩ := of_bnd hr
    refine g_getR C fl_PK_56 ek4 d_PK_sign_21 ?_
    refine g_aload_n C 0 rfl d_PK_sign_24 rfl ?_
    obtain ⟨k5, ek5, hr⟩ := of_bnd hr
    refine g_getR C fl_PK_19 ek5 d_PK_sign_25 ?_
    refine g_iload_n C 1 rfl d_PK_sign_28 rfl ?_
    obtain ⟨k6, ek6, hr⟩ := of_bnd hr
    refine g_aaload C (by decide) ek6 d_PK_sign_29 ?_
    refine g_aload_n C 0 rfl d_PK_sign_30 rfl ?_
    obtain ⟨k7, ek7, hr⟩ := of_bnd hr
    refine g_getR C fl_PK_25 ek7 d_PK_sign_31 ?_
    refine g_aload_n C 0 rfl d_PK_sign_34 rfl ?_
    obtain ⟨k8, ek8, hr⟩ := of_bnd hr
    refine g_getR C fl_PK_68 ek8 d_PK_sign_35 ?_
    obtain ⟨fsh9, hoh9, hr⟩ := of_ob hr
    obtain ⟨h9, eh9, hr⟩ := of_bnd hr
    refine g_callV (pa := [.ref k4, .ref k6, .ref k7, .ref k8]) C hl0 (c_Si_makeSignature eh9) cd_PK_145 kw_in_Si_makeSignature kw_se_Si_makeSignature hoh9 rfl rfl (by decide) rfl rfl (Nat.le_of_ble_eq_true rfl) d_PK_sign_38 ?_
    refine g_aload_n C 0 rfl d_PK_sign_41 rfl ?_
    refine g_aload_n C 0 rfl d_PK_sign_42 rfl ?_
    obtain ⟨k10, ek10, hr⟩ := of_bnd hr
    refine g_getR C fl_PK_68 ek10 d_PK_sign_43 ?_
    refine g_aload_n C 0 rfl d_PK_sign_46 rfl ?_
    obtain ⟨k11, ek11, hr⟩ := of_bnd hr
    refine g_getR C fl_PK_33 ek11 d_PK_sign_47 ?_
    obtain ⟨fsh12, hoh12, hr⟩ := of_ob hr
    obtain ⟨v13, h12, eh12, hr⟩ := of_bnd2 hr
    refine g_callV (pa := [.ref k11]) C hl0 (c_Sg_write eh12) cd_PK_149 kw_in_Sg_write kw_se_Sg_write hoh12 rfl rfl (by decide) rfl rfl (Nat.le_of_ble_eq_true rfl) d_PK_sign_50 ?_
    obtain ⟨h14, eh14, hr⟩ := of_bnd hr
    refine g_putI C fp_PK_36 eh14 d_PK_sign_53 ?_
    refine g_aload_n C 0 rfl d_PK_sign_56 rfl ?_
    refine g_dup C d_PK_sign_57 rfl ?_
    obtain ⟨v15, ev15, hr⟩ := of_bnd hr
    refine g_getI C fl_PK_39 ev15 d_PK_sign_58 ?_
    refine g_iconst (v := 1) C d_PK_sign_61 (by decide) ?_
    refine g_iadd C d_PK_sign_62 ?_
    obtain ⟨h16, eh16, hr⟩ := of_bnd hr
    refine g_putI C fp_PK_39 eh16 d_PK_sign_63 ?_
    refine g_aload_n C 0 rfl d_PK_sign_66 rfl ?_
    obtain ⟨v17, ev17, hr⟩ := of_bnd hr
    refine g_getI C fl_PK_36 ev17 d_PK_sign_67 ?_
    cases hr
  · have hr := of_if z hr
    cases hr
    exact g_throw C T td_PK_123 (by decide) (by decide) (by decide) (by decide) d_PK_sign_8 d_PK_sign_11 d_PK_sign_12 d_PK_sign_15
abbrev b_PK_verify : ByteArray := prog_1_method_9_code
abbrev y_PK_verify : MethodName := ⟨"PrimeKeys", "verify", "()I"⟩
theorem d_PK_verify_0 : decode b_PK_verify 0 = .ok (.aload_n 0, 1) := by decide +kernel
theorem d_PK_verify_1 : decode b_PK_verify 1 = .ok (.getfield 13, 3) := by decide +kernel
theorem d_PK_verify_4 : decode b_PK_verify 4 = .ok (.bipush 65, 2) := by decide +kernel
theorem d_PK_verify_6 : decode b_PK_verify 6 = .ok (.if_icmp .ge 11, 3) := by decide +kernel
theorem d_PK_verify_9 : decode b_PK_verify 9 = .ok (.new 106, 3) := by decide +kernel
theorem d_PK_verify_12 : decode b_PK_verify 12 = .ok (.dup, 1) := by decide +kernel
theorem d_PK_verify_13 : decode b_PK_verify 13 = .ok (.invokespecial 108, 3) := by decide +kernel
theorem d_PK_verify_16 : decode b_PK_verify 16 = .ok (.athrow, 1) := by decide +kernel
theorem d_PK_verify_17 : decode b_PK_verify 17 = .ok (.aload_n 0, 1) := by decide +kernel
theorem d_PK_verify_18 : decode b_PK_verify 18 = .ok (.getfield 68, 3) := by decide +kernel
theorem d_PK_verify_21 : decode b_PK_verify 21 = .ok (.aload_n 0, 1) := by decide +kernel
theorem d_PK_verify_22 : decode b_PK_verify 22 = .ok (.getfield 9, 3) := by decide +kernel
theorem d_PK_verify_25 : decode b_PK_verify 25 = .ok (.bipush 65, 2) := by decide +kernel
theorem d_PK_verify_27 : decode b_PK_verify 27 = .ok (.aload_n 0, 1) := by decide +kernel
theorem d_PK_verify_28 : decode b_PK_verify 28 = .ok (.getfield 13, 3) := by decide +kernel
theorem d_PK_verify_31 : decode b_PK_verify 31 = .ok (.invokevirtual 152, 3) := by decide +kernel
theorem d_PK_verify_34 : decode b_PK_verify 34 = .ok (.ifCond .ne 8, 3) := by decide +kernel
theorem d_PK_verify_37 : decode b_PK_verify 37 = .ok (.iconst 1, 1) := by decide +kernel
theorem d_PK_verify_38 : decode b_PK_verify 38 = .ok (.istore_n 1, 1) := by decide +kernel
theorem d_PK_verify_39 : decode b_PK_verify 39 = .ok (.goto 69, 3) := by decide +kernel
theorem d_PK_verify_42 : decode b_PK_verify 42 = .ok (.aload_n 0, 1) := by decide +kernel
theorem d_PK_verify_43 : decode b_PK_verify 43 = .ok (.getfield 63, 3) := by decide +kernel
theorem d_PK_verify_46 : decode b_PK_verify 46 = .ok (.aload_n 0, 1) := by decide +kernel
theorem d_PK_verify_47 : decode b_PK_verify 47 = .ok (.getfield 68, 3) := by decide +kernel
theorem d_PK_verify_50 : decode b_PK_verify 50 = .ok (.invokevirtual 156, 3) := by decide +kernel
theorem d_PK_verify_53 : decode b_PK_verify 53 = .ok (.ifCond .ne 8, 3) := by decide +kernel
theorem d_PK_verify_56 : decode b_PK_verify 56 = .ok (.iconst 2, 1) := by decide +kernel
theorem d_PK_verify_57 : decode b_PK_verify 57 = .ok (.istore_n 1, 1) := by decide +kernel
theorem d_PK_verify_58 : decode b_PK_verify 58 = .ok (.goto 50, 3) := by decide +kernel
theorem d_PK_verify_61 : decode b_PK_verify 61 = .ok (.aload_n 0, 1) := by decide +kernel
theorem d_PK_verify_62 : decode b_PK_verify 62 = .ok (.getfield 56, 3) := by decide +kernel
theorem d_PK_verify_65 : decode b_PK_verify 65 = .ok (.aload_n 0, 1) := by decide +kernel
theorem d_PK_verify_66 : decode b_PK_verify 66 = .ok (.getfield 9, 3) := by decide +kernel
theorem d_PK_verify_69 : decode b_PK_verify 69 = .ok (.invokevirtual 141, 3) := by decide +kernel
theorem d_PK_verify_72 : decode b_PK_verify 72 = .ok (.ifCond .ne 8, 3) := by decide +kernel
theorem d_PK_verify_75 : decode b_PK_verify 75 = .ok (.iconst 3, 1) := by decide +kernel
theorem d_PK_verify_76 : decode b_PK_verify 76 = .ok (.istore_n 1, 1) := by decide +kernel
theorem d_PK_verify_77 : decode b_PK_verify 77 = .ok (.goto 31, 3) := by decide +kernel
theorem d_PK_verify_80 : decode b_PK_verify 80 = .ok (.aload_n 0, 1) := by decide +kernel
theorem d_PK_verify_81 : decode b_PK_verify 81 = .ok (.getfield 63, 3) := by decide +kernel
theorem d_PK_verify_84 : decode b_PK_verify 84 = .ok (.aload_n 0, 1) := by decide +kernel
theorem d_PK_verify_85 : decode b_PK_verify 85 = .ok (.getfield 56, 3) := by decide +kernel
theorem d_PK_verify_88 : decode b_PK_verify 88 = .ok (.aload_n 0, 1) := by decide +kernel
theorem d_PK_verify_89 : decode b_PK_verify 89 = .ok (.getfield 68, 3) := by decide +kernel
theorem d_PK_verify_92 : decode b_PK_verify 92 = .ok (.aload_n 0, 1) := by decide +kernel
theorem d_PK_verify_93 : decode b_PK_verify 93 = .ok (.getfield 25, 3) := by decide +kernel
theorem d_PK_verify_96 : decode b_PK_verify 96 = .ok (.invokevirtual 159, 3) := by decide +kernel
theorem d_PK_verify_99 : decode b_PK_verify 99 = .ok (.ifCond .eq 7, 3) := by decide +kernel
theorem d_PK_verify_102 : decode b_PK_verify 102 = .ok (.iconst 0, 1) := by decide +kernel
theorem d_PK_verify_103 : decode b_PK_verify 103 = .ok (.goto 4, 3) := by decide +kernel
theorem d_PK_verify_106 : decode b_PK_verify 106 = .ok (.iconst 4, 1) := by decide +kernel
theorem d_PK_verify_107 : decode b_PK_verify 107 = .ok (.istore_n 1, 1) := by decide +kernel
theorem d_PK_verify_108 : decode b_PK_verify 108 = .ok (.aload_n 0, 1) := by decide +kernel
theorem d_PK_verify_109 : decode b_PK_verify 109 = .ok (.getfield 42, 3) := by decide +kernel
theorem d_PK_verify_112 : decode b_PK_verify 112 = .ok (.iload_n 1, 1) := by decide +kernel
theorem d_PK_verify_113 : decode b_PK_verify 113 = .ok (.dup2, 1) := by decide +kernel
theorem d_PK_verify_114 : decode b_PK_verify 114 = .ok (.iaload, 1) := by decide +kernel
theorem d_PK_verify_115 : decode b_PK_verify 115 = .ok (.iconst 1, 1) := by decide +kernel
theorem d_PK_verify_116 : decode b_PK_verify 116 = .ok (.iadd, 1) := by decide +kernel
theorem d_PK_verify_117 : decode b_PK_verify 117 = .ok (.iastore, 1) := by decide +kernel
theorem d_PK_verify_118 : decode b_PK_verify 118 = .ok (.aload_n 0, 1) := by decide +kernel
theorem d_PK_verify_119 : decode b_PK_verify 119 = .ok (.iconst 0, 1) := by decide +kernel
theorem d_PK_verify_120 : decode b_PK_verify 120 = .ok (.putfield 13, 3) := by decide +kernel
theorem d_PK_verify_123 : decode b_PK_verify 123 = .ok (.iload_n 1, 1) := by decide +kernel
theorem d_PK_verify_124 : decode b_PK_verify 124 = .ok (.ireturn, 1) := by decide +kernel
theorem fl_PK_42 : FL "PrimeKeys" 42 7 9 := ⟨R_PK, F_PK, 17, rfl, u_PK, by decide, rfl, tb_2 (List.mem_of_getElem? (i := 146) (by decide +kernel)) rfl⟩
theorem cd_PK_159 : CD "PrimeKeys" 159 y_Si_isGood b_Si_isGood 4 (some .boolean) 3 := ⟨tb_4 (List.mem_of_getElem? (i := 21) rfl) rfl, tb_1 (List.mem_of_getElem? (i := 10) (by decide +kernel)) rfl, tb_4 (List.mem_of_getElem? (i := 18) (by decide +kernel)) rfl, by decide +kernel⟩
theorem kw_in_Si_isGood : Cond.instanceMethod y_Si_isGood ∈ TB := tb_4 (List.mem_of_getElem? (i := 19) (by decide +kernel)) rfl
theorem kw_se_Si_isGood : Cond.selects "PrimeKeys$Signer" y_Si_isGood y_Si_isGood ∈ TB := tb_4 (List.mem_of_getElem? (i := 20) (by decide +kernel)) rfl
theorem cd_PK_156 : CD "PrimeKeys" 156 y_Si_isInRange2 b_Si_isInRange2 2 (some .boolean) 1 := ⟨tb_4 (List.mem_of_getElem? (i := 13) rfl) rfl, tb_1 (List.mem_of_getElem? (i := 10) (by decide +kernel)) rfl, tb_4 (List.mem_of_getElem? (i := 10) (by decide +kernel)) rfl, by decide +kernel⟩
theorem kw_in_Si_isInRange2 : Cond.instanceMethod y_Si_isInRange2 ∈ TB := tb_4 (List.mem_of_getElem? (i := 11) (by decide +kernel)) rfl
theorem kw_se_Si_isInRange2 : Cond.selects "PrimeKeys$Signer" y_Si_isInRange2 y_Si_isInRange2 ∈ TB := tb_4 (List.mem_of_getElem? (i := 12) (by decide +kernel)) rfl
theorem cd_PK_152 : CD "PrimeKeys" 152 y_Sg_read b_Sg_read 6 (some .boolean) 3 := ⟨tb_4 (List.mem_of_getElem? (i := 5) rfl) rfl, tb_1 (List.mem_of_getElem? (i := 12) (by decide +kernel)) rfl, tb_4 (List.mem_of_getElem? (i := 2) (by decide +kernel)) rfl, by decide +kernel⟩
theorem kw_in_Sg_read : Cond.instanceMethod y_Sg_read ∈ TB := tb_4 (List.mem_of_getElem? (i := 3) (by decide +kernel)) rfl
theorem kw_se_Sg_read : Cond.selects "PrimeKeys$Signature" y_Sg_read y_Sg_read ∈ TB := tb_4 (List.mem_of_getElem? (i := 4) (by decide +kernel)) rfl
abbrev rm_PK_verify : Room := { frames := 7, cells := 1, slots := 6, locals := 188 }
def B_PK_verify_108 (h : HP) (a0 : Nat) (a1 : Int32) : Option ((Nat ⊕ Int32) × HP) :=
  bnd (gR h a0 7 9) fun k21 =>
  bnd (ldI h k21 a1) fun v22 =>
  bnd (stI h k21 a1 (v22 + 1)) fun h23 =>
  bnd (pV h23 a0 7 1 (.int 0)) fun h24 =>
  some (.inr a1, h24)
set_option maxHeartbeats 4000000 in
set_option maxRecDepth 100000 in
theorem bk_PK_verify_108 {l : Launch} {x : CX} {h0 h' : HP} {r' : Int32} (C : EV x b_PK_verify "PrimeKeys" 2 rm_PK_verify) (T : CT x (some .int) rm_PK_verify h0 (some (.int r')) h') (hl0 : x.1.2.1 = l) (h : HP) (a0 : Nat) (a1 : Int32) (hr : B_PK_verify_108 h a0 a1 = some (.inr r', h')) : GG x 0 0 h 108 [(0, .ref a0), (1, .int a1)] [] := by
  unfold B_PK_verify_108 at hr
  refine g_aload_n C 0 rfl d_PK_verify_108 rfl ?_
  obtain ⟨k21, ek21, hr⟩ := of_bnd hr
  refine g_getR C fl_PK_42 ek21 d_PK_verify_109 ?_
  refine g_iload_n C 1 rfl d_PK_verify_112 rfl ?_
  refine g_dup2_11 C d_PK_verify_113 rfl rfl ?_
  obtain ⟨v22, ev22, hr⟩ := of_bnd hr
  refine g_iaload C ev22 d_PK_verify_114 ?_
  refine g_iconst (v := 1) C d_PK_verify_115 (by decide) ?_
  refine g_iadd C d_PK_verify_116 ?_
  obtain ⟨h23, eh23, hr⟩ := of_bnd hr
  refine g_iastore C eh23 d_PK_verify_117 ?_
  refine g_aload_n C 0 rfl d_PK_verify_118 rfl ?_
  refine g_iconst (v := 0) C d_PK_verify_119 (by decide) ?_
  obtain ⟨h24, eh24, hr⟩ := of_bnd hr
  refine g_putI C fp_PK_13 eh24 d_PK_verify_120 ?_
  refine g_iload_n C 1 rfl d_PK_verify_123 rfl ?_
  cases hr
  exact g_ireturn C T rfl (by decide) (by decide) d_PK_verify_124
def P_PK_verify (h : HP) (p0 : Nat) : Option ((Nat ⊕ Int32) × HP) :=
  bnd (gI h p0 7 1) fun v1 =>
  if 65 ≤ v1 then
  bnd (gR h p0 7 13) fun k2 =>
  bnd (gR h p0 7 0) fun k3 =>
  bnd (gI h p0 7 1) fun v4 =>
  ob h k2 5 (
  bnd2 (P_Sg_read h k2 k3 65 v4) fun v6 h5 =>
  if v6 = 0 then
  B_PK_verify_108 h5 p0 1
  else
  bnd (gR h5 p0 7 12) fun k7 =>
  bnd (gR h5 p0 7 13) fun k8 =>
  ob h5 k7 6 (
  bnd2 (P_Si_isInRange2 h5 k7 k8) fun v10 h9 =>
  if v10 = 0 then
  B_PK_verify_108 h9 p0 2
  else
  bnd (gR h9 p0 7 11) fun k11 =>
  bnd (gR h9 p0 7 0) fun k12 =>
  ob h9 k11 0 (
  bnd2 (P_Cu_takesOther h9 k11 k12) fun v14 h13 =>
  if v14 = 0 then
  B_PK_verify_108 h13 p0 3
  else
  bnd (gR h13 p0 7 12) fun k15 =>
  bnd (gR h13 p0 7 11) fun k16 =>
  bnd (gR h13 p0 7 13) fun k17 =>
  bnd (gR h13 p0 7 4) fun k18 =>
  ob h13 k15 6 (
  bnd2 (P_Si_isGood h13 k15 k16 k17 k18) fun v20 h19 =>
  if v20 = 0 then
  B_PK_verify_108 h19 p0 4
  else
  B_PK_verify_108 h19 p0 0))))
  else
  some (.inl 1, h)
set_option maxHeartbeats 4000000 in
set_option maxRecDepth 100000 in
theorem c_PK_verify {l : Launch} {h h' : HP} {p0 : _} {r' : Int32} (hr : P_PK_verify h p0 = some (.inr r', h')) : MP l y_PK_verify (Cond.code y_PK_verify b_PK_verify 2 (some .int) :: TB) rm_PK_verify h [.ref p0] (some (.int r')) h' := by
  refine MP_intro (cc := b_PK_verify) (by decide) (Nat.le_of_ble_eq_true rfl) (fun x hl0 C T hin => ?_)
  unfold P_PK_verify at hr
  show GG x 0 0 h 0 [(0, .ref p0)] []
  refine g_aload_n C 0 rfl d_PK_verify_0 rfl ?_
  obtain ⟨v1, ev1, hr⟩ := of_bnd hr
  refine g_getI C fl_PK_13 ev1 d_PK_verify_1 ?_
  refine g_bipush (v := 65) C d_PK_verify_4 (by decide) ?_
  refine g_icmp_ge (tgt := 17) C d_PK_verify_6 (by decide) (fun z => ?_) (fun z => ?_)
  · have hr := of_if z hr
    refine g_aload_n C 0 rfl d_PK_verify_17 rfl ?_
    obtain ⟨k2, ek2, hr⟩ := of_bnd hr
    refine g_getR C fl_PK_68 ek2 d_PK_verify_18 ?_
    refine g_aload_n C 0 rfl d_PK_verify_21 rfl ?_
    obtain ⟨k3, ek3, hr⟩ := of_bnd hr
    refine g_getR C fl_PK_9 ek3 d_PK_verify_22 ?_
    refine g_bipush (v := 65) C d_PK_verify_25 (by decide) ?_
    refine g_aload_n C 0 rfl d_PK_verify_27 rfl ?_
    obtain ⟨v4, ev4, hr⟩ := of_bnd hr
    refine g_getI C fl_PK_13 ev4 d_PK_verify_28 ?_
    obtain ⟨fsh5, hoh5, hr⟩ := of_ob hr
    obtain ⟨v6, h5, eh5, hr⟩ := of_bnd2 hr
    refine g_callV (pa := [.ref k3, .int 65, .int v4]) C hl0 (c_Sg_read eh5) cd_PK_152 kw_in_Sg_read kw_se_Sg_read hoh5 rfl rfl (by decide) rfl rfl (Nat.le_of_ble_eq_true rfl) d_PK_verify_31 ?_
    refine g_if_ne (tgt := 42) C d_PK_verify_34 (by decide) (fun z => ?_) (fun z => ?_)
    · have hr := of_el z hr
      refine g_aload_n C 0 rfl d_PK_verify_42 rfl ?_
      obtain ⟨k7, ek7, hr⟩ := of_bnd hr
      refine g_getR C fl_PK_63 ek7 d_PK_verify_43 ?_
      refine g_aload_n C 0 rfl d_PK_verify_46 rfl ?_
      obtain ⟨k8, ek8, hr⟩ := of_bnd hr
      refine g_getR C fl_PK_68 ek8 d_PK_verify_47 ?_
      obtain ⟨fsh9, hoh9, hr⟩ := of_ob hr
      obtain ⟨v10, h9, eh9, hr⟩ := of_bnd2 hr
      refine g_callV (pa := [.ref k8]) C hl0 (c_Si_isInRange2 eh9) cd_PK_156 kw_in_Si_isInRange2 kw_se_Si_isInRange2 hoh9 rfl rfl (by decide) rfl rfl (Nat.le_of_ble_eq_true rfl) d_PK_verify_50 ?_
      refine g_if_ne (tgt := 61) C d_PK_verify_53 (by decide) (fun z => ?_) (fun z => ?_)
      · have hr := of_el z hr
        refine g_aload_n C 0 rfl d_PK_verify_61 rfl ?_
        obtain ⟨k11, ek11, hr⟩ := of_bnd hr
        refine g_getR C fl_PK_56 ek11 d_PK_verify_62 ?_
        refine g_aload_n C 0 rfl d_PK_verify_65 rfl ?_
        obtain ⟨k12, ek12, hr⟩ := of_bnd hr
        refine g_getR C fl_PK_9 ek12 d_PK_verify_66 ?_
        obtain ⟨fsh13, hoh13, hr⟩ := of_ob hr
        obtain ⟨v14, h13, eh13, hr⟩ := of_bnd2 hr
        refine g_callV (pa := [.ref k12]) C hl0 (c_Cu_takesOther eh13) cd_PK_141 kw_in_Cu_takesOther kw_se_Cu_takesOther hoh13 rfl rfl (by decide) rfl rfl (Nat.le_of_ble_eq_true rfl) d_PK_verify_69 ?_
        refine g_if_ne (tgt := 80) C d_PK_verify_72 (by decide) (fun z => ?_) (fun z => ?_)
        · have hr := of_el z hr
          refine g_aload_n C 0 rfl d_PK_verify_80 rfl ?_
          obtain ⟨k15, ek15, hr⟩ := of_bnd hr
          refine g_getR C fl_PK_63 ek15 d_PK_verify_81 ?_
          refine g_aload_n C 0 rfl d_PK_verify_84 rfl ?_
          obtain ⟨k16, ek16, hr⟩ := of_bnd hr
          refine g_getR C fl_PK_56 ek16 d_PK_verify_85 ?_
          refine g_aload_n C 0 rfl d_PK_verify_88 rfl ?_
          obtain ⟨k17, ek17, hr⟩ := of_bnd hr
          refine g_getR C fl_PK_68 ek17 d_PK_verify_89 ?_
          refine g_aload_n C 0 rfl d_PK_verify_92 rfl ?_
          obtain ⟨k18, ek18, hr⟩ := of_bnd hr
          refine g_getR C fl_PK_25 ek18 d_PK_verify_93 ?_
          obtain ⟨fsh19, hoh19, hr⟩ := of_ob hr
          obtain ⟨v20, h19, eh19, hr⟩ := of_bnd2 hr
          refine g_callV (pa := [.ref k16, .ref k17, .ref k18]) C hl0 (c_Si_isGood eh19) cd_PK_159 kw_in_Si_isGood kw_se_Si_isGood hoh19 rfl rfl (by decide) rfl rfl (Nat.le_of_ble_eq_true rfl) d_PK_verify_96 ?_
          refine g_if_eq (tgt := 106) C d_PK_verify_99 (by decide) (fun z => ?_) (fun z => ?_)
          · have hr := of_if z hr
            refine g_iconst (v := 4) C d_PK_verify_106 (by decide) ?_
            refine g_istore_n (lv' := [(1, .int 4), (0, .ref p0)]) C d_PK_verify_107 rfl (by decide) rfl ?_
            refine g_lv [1, 0] rfl ?_
            exact bk_PK_verify_108 C T hl0 h19 p0 4 hr
          · have hr := of_el z hr
            refine g_iconst (v := 0) C d_PK_verify_102 (by decide) ?_
            refine g_goto (tgt := 107) C d_PK_verify_103 (by decide) ?_
            refine g_istore_n (lv' := [(1, .int 0), (0, .ref p0)]) C d_PK_verify_107 rfl (by decide) rfl ?_
            refine g_lv [1, 0] rfl ?_
            exact bk_PK_verify_108 C T hl0 h19 p0 0 hr
        · have hr := of_if z hr
          refine g_iconst (v := 3) C d_PK_verify_75 (by decide) ?_
          refine g_istore_n (lv' := [(1, .int 3), (0, .ref p0)]) C d_PK_verify_76 rfl (by decide) rfl ?_
          refine g_goto (tgt := 108) C d_PK_verify_77 (by decide) ?_
          refine g_lv [1, 0] rfl ?_
          exact bk_PK_verify_108 C T hl0 h13 p0 3 hr
      · have hr := of_if z hr
        refine g_iconst (v := 2) C d_PK_verify_56 (by decide) ?_
        refine g_istore_n (lv' := [(1, .int 2), (0, .ref p0)]) C d_PK_verify_57 rfl (by decide) rfl ?_
        refine g_goto (tgt := 108) C d_PK_verify_58 (by decide) ?_
        refine g_lv [1, 0] rfl ?_
        exact bk_PK_verify_108 C T hl0 h9 p0 2 hr
    · have hr := of_if z hr
      refine g_iconst (v := 1) C d_PK_verify_37 (by decide) ?_
      refine g_istore_n (lv' := [(1, .int 1), (0, .ref p0)]) C d_PK_verify_38 rfl (by decide) rfl ?_
      refine g_goto (tgt := 108) C d_PK_verify_39 (by decide) ?_
      refine g_lv [1, 0] rfl ?_
      exact bk_PK_verify_108 C T hl0 h5 p0 1 hr
  · have hr := of_el z hr
    cases hr
set_option maxHeartbeats 4000000 in
set_option maxRecDepth 100000 in
theorem bkt_PK_verify_108 {l : Launch} {x : CX} {h0 h' : HP} {i' : Nat} (C : EV x b_PK_verify "PrimeKeys" 2 rm_PK_verify) (T : CTT x rm_PK_verify h0 i' h') (hl0 : x.1.2.1 = l) (h : HP) (a0 : Nat) (a1 : Int32) (hr : B_PK_verify_108 h a0 a1 = some (.inl i', h')) : GG x 0 0 h 108 [(0, .ref a0), (1, .int a1)] [] := by
  unfold B_PK_verify_108 at hr
  refine g_aload_n C 0 rfl d_PK_verify_108 rfl ?_
  obtain ⟨k21, ek21, hr⟩ := of_bnd hr
  refine g_getR C fl_PK_42 ek21 d_PK_verify_109 ?_
  refine g_iload_n C 1 rfl d_PK_verify_112 rfl ?_
  refine g_dup2_11 C d_PK_verify_113 rfl rfl ?_
  obtain ⟨v22, ev22, hr⟩ := of_bnd hr
  refine g_iaload C ev22 d_PK_verify_114 ?_
  refine g_iconst (v := 1) C d_PK_verify_115 (by decide) ?_
  refine g_iadd C d_PK_verify_116 ?_
  obtain ⟨h23, eh23, hr⟩ := of_bnd hr
  refine g_iastore C eh23 d_PK_verify_117 ?_
  refine g_aload_n C 0 rfl d_PK_verify_118 rfl ?_
  refine g_iconst (v := 0) C d_PK_verify_119 (by decide) ?_
  obtain ⟨h24, eh24, hr⟩ := of_bnd hr
  refine g_putI C fp_PK_13 eh24 d_PK_verify_120 ?_
  refine g_iload_n C 1 rfl d_PK_verify_123 rfl ?_
  cases hr
set_option maxHeartbeats 4000000 in
set_option maxRecDepth 100000 in
theorem ct_PK_verify {l : Launch} (htr : l.stackTraces = false) {h h' : HP} {p0 : _} {i' : Nat} (hr : P_PK_verify h p0 = some (.inl i', h')) : MT l y_PK_verify (Cond.code y_PK_verify b_PK_verify 2 (some .int) :: TB) rm_PK_verify h [.ref p0] i' h' := by
  refine MT_intro htr (cc := b_PK_verify) (by decide) (Nat.le_of_ble_eq_true rfl) (fun x hl0 C T => ?_)
  unfold P_PK_verify at hr
  show GG x 0 0 h 0 [(0, .ref p0)] []
  refine g_aload_n C 0 rfl d_PK_verify_0 rfl ?_
  obtain ⟨v1, ev1, hr⟩ := of_bnd hr
  refine g_getI C fl_PK_13 ev1 d_PK_verify_1 ?_
  refine g_bipush (v := 65) C d_PK_verify_4 (by decide) ?_
  refine g_icmp_ge (tgt := 17) C d_PK_verify_6 (by decide) (fun z => ?_) (fun z => ?_)
  · have hr := of_if z hr
    refine g_aload_n C 0 rfl d_PK_verify_17 rfl ?_
    obtain ⟨k2, ek2, hr⟩ := of_bnd hr
    refine g_getR C fl_PK_68 ek2 d_PK_verify_18 ?_
    refine g_aload_n C 0 rfl d_PK_verify_21 rfl ?_
    obtain ⟨k3, ek3, hr⟩ := of_bnd hr
    refine g_getR C fl_PK_9 ek3 d_PK_verify_22 ?_
    refine g_bipush (v := 65) C d_PK_verify_25 (by decide) ?_
    refine g_aload_n C 0 rfl d_PK_verify_27 rfl ?_
    obtain ⟨v4, ev4, hr⟩ := of_bnd hr
    refine g_getI C fl_PK_13 ev4 d_PK_verify_28 ?_
    obtain ⟨fsh5, hoh5, hr⟩ := of_ob hr
    obtain ⟨v6, h5, eh5, hr⟩ := of_bnd2 hr
    refine g_callV (pa := [.ref k3, .int 65, .int v4]) C hl0 (c_Sg_read eh5) cd_PK_152 kw_in_Sg_read kw_se_Sg_read hoh5 rfl rfl (by decide) rfl rfl (Nat.le_of_ble_eq_true rfl) d_PK_verify_31 ?_
    refine g_if_ne (tgt := 42) C d_PK_verify_34 (by decide) (fun z => ?_) (fun z => ?_)
    · have hr := of_el z hr
      refine g_aload_n C 0 rfl d_PK_verify_42 rfl ?_
      obtain ⟨k7, ek7, hr⟩ := of_bnd hr
      refine g_getR C fl_PK_63 ek7 d_PK_verify_43 ?_
      refine g_aload_n C 0 rfl d_PK_verify_46 rfl ?_
      obtain ⟨k8, ek8, hr⟩ := of_bnd hr
      refine g_getR C fl_PK_68 ek8 d_PK_verify_47 ?_
      obtain ⟨fsh9, hoh9, hr⟩ := of_ob hr
      obtain ⟨v10, h9, eh9, hr⟩ := of_bnd2 hr
      refine g_callV (pa := [.ref k8]) C hl0 (c_Si_isInRange2 eh9) cd_PK_156 kw_in_Si_isInRange2 kw_se_Si_isInRange2 hoh9 rfl rfl (by decide) rfl rfl (Nat.le_of_ble_eq_true rfl) d_PK_verify_50 ?_
      refine g_if_ne (tgt := 61) C d_PK_verify_53 (by decide) (fun z => ?_) (fun z => ?_)
      · have hr := of_el z hr
        refine g_aload_n C 0 rfl d_PK_verify_61 rfl ?_
        obtain ⟨k11, ek11, hr⟩ := of_bnd hr
        refine g_getR C fl_PK_56 ek11 d_PK_verify_62 ?_
        refine g_aload_n C 0 rfl d_PK_verify_65 rfl ?_
        obtain ⟨k12, ek12, hr⟩ := of_bnd hr
        refine g_getR C fl_PK_9 ek12 d_PK_verify_66 ?_
        obtain ⟨fsh13, hoh13, hr⟩ := of_ob hr
        obtain ⟨v14, h13, eh13, hr⟩ := of_bnd2 hr
        refine g_callV (pa := [.ref k12]) C hl0 (c_Cu_takesOther eh13) cd_PK_141 kw_in_Cu_takesOther kw_se_Cu_takesOther hoh13 rfl rfl (by decide) rfl rfl (Nat.le_of_ble_eq_true rfl) d_PK_verify_69 ?_
        refine g_if_ne (tgt := 80) C d_PK_verify_72 (by decide) (fun z => ?_) (fun z => ?_)
        · have hr := of_el z hr
          refine g_aload_n C 0 rfl d_PK_verify_80 rfl ?_
          obtain ⟨k15, ek15, hr⟩ := of_bnd hr
          refine g_getR C fl_PK_63 ek15 d_PK_verify_81 ?_
          refine g_aload_n C 0 rfl d_PK_verify_84 rfl ?_
          obtain ⟨k16, ek16, hr⟩ := of_bnd hr
          refine g_getR C fl_PK_56 ek16 d_PK_verify_85 ?_
          refine g_aload_n C 0 rfl d_PK_verify_88 rfl ?_
          obtain ⟨k17, ek17, hr⟩ := of_bnd hr
          refine g_getR C fl_PK_68 ek17 d_PK_verify_89 ?_
          refine g_aload_n C 0 rfl d_PK_verify_92 rfl ?_
          obtain ⟨k18, ek18, hr⟩ := of_bnd hr
          refine g_getR C fl_PK_25 ek18 d_PK_verify_93 ?_
          obtain ⟨fsh19, hoh19, hr⟩ := of_ob hr
          obtain ⟨v20, h19, eh19, hr⟩ := of_bnd2 hr
          refine g_callV (pa := [.ref k16, .ref k17, .ref k18]) C hl0 (c_Si_isGood eh19) cd_PK_159 kw_in_Si_isGood kw_se_Si_isGood hoh19 rfl rfl (by decide) rfl rfl (Nat.le_of_ble_eq_true rfl) d_PK_verify_96 ?_
          refine g_if_eq (tgt := 106) C d_PK_verify_99 (by decide) (fun z => ?_) (fun z => ?_)
          · have hr := of_if z hr
            refine g_iconst (v := 4) C d_PK_verify_106 (by decide) ?_
            refine g_istore_n (lv' := [(1, .int 4), (0, .ref p0)]) C d_PK_verify_107 rfl (by decide) rfl ?_
            refine g_lv [1, 0] rfl ?_
            exact bkt_PK_verify_108 C T hl0 h19 p0 4 hr
          · have hr := of_el z hr
            refine g_iconst (v := 0) C d_PK_verify_102 (by decide) ?_
            refine g_goto (tgt := 107) C d_PK_verify_103 (by decide) ?_
            refine g_istore_n (lv' := [(1, .int 0), (0, .ref p0)]) C d_PK_verify_107 rfl (by decide) rfl ?_
            refine g_lv [1, 0] rfl ?_
            exact bkt_PK_verify_108 C T hl0 h19 p0 0 hr
        · have hr := of_if z hr
          refine g_iconst (v := 3) C d_PK_verify_75 (by decide) ?_
          refine g_istore_n (lv' := [(1, .int 3), (0, .ref p0)]) C d_PK_verify_76 rfl (by decide) rfl ?_
          refine g_goto (tgt := 108) C d_PK_verify_77 (by decide) ?_
          refine g_lv [1, 0] rfl ?_
          exact bkt_PK_verify_108 C T hl0 h13 p0 3 hr
      · have hr := of_if z hr
        refine g_iconst (v := 2) C d_PK_verify_56 (by decide) ?_
        refine g_istore_n (lv' := [(1, .int 2), (0, .ref p0)]) C d_PK_verify_57 rfl (by decide) rfl ?_
        refine g_goto (tgt := 108) C d_PK_verify_58 (by decide) ?_
        refine g_lv [1, 0] rfl ?_
        exact bkt_PK_verify_108 C T hl0 h9 p0 2 hr
    · have hr := of_if z hr
      refine g_iconst (v := 1) C d_PK_verify_37 (by decide) ?_
      refine g_istore_n (lv' := [(1, .int 1), (0, .ref p0)]) C d_PK_verify_38 rfl (by decide) rfl ?_
      refine g_goto (tgt := 108) C d_PK_verify_39 (by decide) ?_
      refine g_lv [1, 0] rfl ?_
      exact bkt_PK_verify_108 C T hl0 h5 p0 1 hr
  · have hr := of_el z hr
    cases hr
    exact g_throw C T td_PK_106 (by decide) (by decide) (by decide) (by decide) d_PK_verify_9 d_PK_verify_12 d_PK_verify_13 d_PK_verify_16
abbrev b_PK_count : ByteArray := prog_1_method_12_code
abbrev y_PK_count : MethodName := ⟨"PrimeKeys", "count", "(I)I"⟩
theorem d_PK_count_0 : decode b_PK_count 0 = .ok (.iload_n 1, 1) := by decide +kernel
theorem d_PK_count_1 : decode b_PK_count 1 = .ok (.tableswitch 89 0 9 #[55, 60, 65, 70, 75, 80, 80, 80, 80, 80], 55) := by decide +kernel
theorem d_PK_count_56 : decode b_PK_count 56 = .ok (.aload_n 0, 1) := by decide +kernel
theorem d_PK_count_57 : decode b_PK_count 57 = .ok (.getfield 13, 3) := by decide +kernel
theorem d_PK_count_60 : decode b_PK_count 60 = .ok (.ireturn, 1) := by decide +kernel
theorem d_PK_count_61 : decode b_PK_count 61 = .ok (.aload_n 0, 1) := by decide +kernel
theorem d_PK_count_62 : decode b_PK_count 62 = .ok (.getfield 22, 3) := by decide +kernel
theorem d_PK_count_65 : decode b_PK_count 65 = .ok (.ireturn, 1) := by decide +kernel
theorem d_PK_count_66 : decode b_PK_count 66 = .ok (.aload_n 0, 1) := by decide +kernel
theorem d_PK_count_67 : decode b_PK_count 67 = .ok (.getfield 28, 3) := by decide +kernel
theorem d_PK_count_70 : decode b_PK_count 70 = .ok (.ireturn, 1) := by decide +kernel
theorem d_PK_count_71 : decode b_PK_count 71 = .ok (.aload_n 0, 1) := by decide +kernel
theorem d_PK_count_72 : decode b_PK_count 72 = .ok (.getfield 36, 3) := by decide +kernel
theorem d_PK_count_75 : decode b_PK_count 75 = .ok (.ireturn, 1) := by decide +kernel
theorem d_PK_count_76 : decode b_PK_count 76 = .ok (.aload_n 0, 1) := by decide +kernel
theorem d_PK_count_77 : decode b_PK_count 77 = .ok (.getfield 39, 3) := by decide +kernel
theorem d_PK_count_80 : decode b_PK_count 80 = .ok (.ireturn, 1) := by decide +kernel
theorem d_PK_count_81 : decode b_PK_count 81 = .ok (.aload_n 0, 1) := by decide +kernel
theorem d_PK_count_82 : decode b_PK_count 82 = .ok (.getfield 42, 3) := by decide +kernel
theorem d_PK_count_85 : decode b_PK_count 85 = .ok (.iload_n 1, 1) := by decide +kernel
theorem d_PK_count_86 : decode b_PK_count 86 = .ok (.iconst 5, 1) := by decide +kernel
theorem d_PK_count_87 : decode b_PK_count 87 = .ok (.isub, 1) := by decide +kernel
theorem d_PK_count_88 : decode b_PK_count 88 = .ok (.iaload, 1) := by decide +kernel
theorem d_PK_count_89 : decode b_PK_count 89 = .ok (.ireturn, 1) := by decide +kernel
theorem d_PK_count_90 : decode b_PK_count 90 = .ok (.iconst (-1), 1) := by decide +kernel
theorem d_PK_count_91 : decode b_PK_count 91 = .ok (.ireturn, 1) := by decide +kernel
abbrev rm_PK_count : Room := { frames := 0, cells := 0, slots := 0, locals := 0 }
def P_PK_count (h : HP) (p0 : Nat) (p1 : Int32) : Option (Int32 × HP) :=
  if p1 = 0 then
  bnd (gI h p0 7 1) fun v1 =>
  some (v1, h)
  else
  if p1 = 1 then
  bnd (gI h p0 7 3) fun v2 =>
  some (v2, h)
  else
  if p1 = 2 then
  bnd (gI h p0 7 5) fun v3 =>
  some (v3, h)
  else
  if p1 = 3 then
  bnd (gI h p0 7 7) fun v4 =>
  some (v4, h)
  else
  if p1 = 4 then
  bnd (gI h p0 7 8) fun v5 =>
  some (v5, h)
  else
  if p1 = 5 then
  bnd (gR h p0 7 9) fun k6 =>
  bnd (ldI h k6 (p1 - 5)) fun v7 =>
  some (v7, h)
  else
  if p1 = 6 then
  bnd (gR h p0 7 9) fun k8 =>
  bnd (ldI h k8 (p1 - 5)) fun v9 =>
  some (v9, h)
  else
  if p1 = 7 then
  bnd (gR h p0 7 9) fun k10 =>
  bnd (ldI h k10 (p1 - 5)) fun v11 =>
  some (v11, h)
  else
  if p1 = 8 then
  bnd (gR h p0 7 9) fun k12 =>
  bnd (ldI h k12 (p1 - 5)) fun v13 =>
  some (v13, h)
  else
  if p1 = 9 then
  bnd (gR h p0 7 9) fun k14 =>
  bnd (ldI h k14 (p1 - 5)) fun v15 =>
  some (v15, h)
  else
  some ((-1), h)
set_option maxHeartbeats 4000000 in
set_option maxRecDepth 100000 in
theorem c_PK_count {l : Launch} {h h' : HP} {p0 p1 : _} {r' : Int32} (hr : P_PK_count h p0 p1 = some (r', h')) : MP l y_PK_count (Cond.code y_PK_count b_PK_count 2 (some .int) :: TB) rm_PK_count h [.ref p0, .int p1] (some (.int r')) h' := by
  refine MP_intro (cc := b_PK_count) (by decide) (Nat.le_of_ble_eq_true rfl) (fun x hl0 C T hin => ?_)
  unfold P_PK_count at hr
  show GG x 0 0 h 0 [(0, .ref p0), (1, .int p1)] []
  refine g_iload_n C 1 rfl d_PK_count_0 rfl ?_
  by_cases z0 : p1 = 0
  · have hr := of_if z0 hr
    refine g_tsIn (tgt := 56) C z0 d_PK_count_1 (by decide) (by decide) rfl (by decide) ?_
    refine g_aload_n C 0 rfl d_PK_count_56 rfl ?_
    obtain ⟨v1, ev1, hr⟩ := of_bnd hr
    refine g_getI C fl_PK_13 ev1 d_PK_count_57 ?_
    cases hr
    exact g_ireturn C T rfl (by decide) (by decide) d_PK_count_60
  have hr := of_el z0 hr
  by_cases z1 : p1 = 1
  · have hr := of_if z1 hr
    refine g_tsIn (tgt := 61) C z1 d_PK_count_1 (by decide) (by decide) rfl (by decide) ?_
    refine g_aload_n C 0 rfl d_PK_count_61 rfl ?_
    obtain ⟨v2, ev2, hr⟩ := of_bnd hr
    refine g_getI C fl_PK_22 ev2 d_PK_count_62 ?_
    cases hr
    exact g_ireturn C T rfl (by decide) (by decide) d_PK_count_65
  have hr := of_el z1 hr
  by_cases z2 : p1 = 2
  · have hr := of_if z2 hr
    refine g_tsIn (tgt := 66) C z2 d_PK_count_1 (by decide) (by decide) rfl (by decide) ?_
    refine g_aload_n C 0 rfl d_PK_count_66 rfl ?_
    obtain ⟨v3, ev3, hr⟩ := of_bnd hr
    refine g_getI C fl_PK_28 ev3 d_PK_count_67 ?_
    cases hr
    exact g_ireturn C T rfl (by decide) (by decide) d_PK_count_70
  have hr := of_el z2 hr
  by_cases z3 : p1 = 3
  · have hr := of_if z3 hr
    refine g_tsIn (tgt := 71) C z3 d_PK_count_1 (by decide) (by decide) rfl (by decide) ?_
    refine g_aload_n C 0 rfl d_PK_count_71 rfl ?_
    obtain ⟨v4, ev4, hr⟩ := of_bnd hr
    refine g_getI C fl_PK_36 ev4 d_PK_count_72 ?_
    cases hr
    exact g_ireturn C T rfl (by decide) (by decide) d_PK_count_75
  have hr := of_el z3 hr
  by_cases z4 : p1 = 4
  · have hr := of_if z4 hr
    refine g_tsIn (tgt := 76) C z4 d_PK_count_1 (by decide) (by decide) rfl (by decide) ?_
    refine g_aload_n C 0 rfl d_PK_count_76 rfl ?_
    obtain ⟨v5, ev5, hr⟩ := of_bnd hr
    refine g_getI C fl_PK_39 ev5 d_PK_count_77 ?_
    cases hr
    exact g_ireturn C T rfl (by decide) (by decide) d_PK_count_80
  have hr := of_el z4 hr
  by_cases z5 : p1 = 5
  · have hr := of_if z5 hr
    refine g_tsIn (tgt := 81) C z5 d_PK_count_1 (by decide) (by decide) rfl (by decide) ?_
    refine g_aload_n C 0 rfl d_PK_count_81 rfl ?_
    obtain ⟨k6, ek6, hr⟩ := of_bnd hr
    refine g_getR C fl_PK_42 ek6 d_PK_count_82 ?_
    refine g_iload_n C 1 rfl d_PK_count_85 rfl ?_
    refine g_iconst (v := 5) C d_PK_count_86 (by decide) ?_
    refine g_isub C d_PK_count_87 ?_
    obtain ⟨v7, ev7, hr⟩ := of_bnd hr
    refine g_iaload C ev7 d_PK_count_88 ?_
    cases hr
    exact g_ireturn C T rfl (by decide) (by decide) d_PK_count_89
  have hr := of_el z5 hr
  by_cases z6 : p1 = 6
  · have hr := of_if z6 hr
    refine g_tsIn (tgt := 81) C z6 d_PK_count_1 (by decide) (by decide) rfl (by decide) ?_
    refine g_aload_n C 0 rfl d_PK_count_81 rfl ?_
    obtain ⟨k8, ek8, hr⟩ := of_bnd hr
    refine g_getR C fl_PK_42 ek8 d_PK_count_82 ?_
    refine g_iload_n C 1 rfl d_PK_count_85 rfl ?_
    refine g_iconst (v := 5) C d_PK_count_86 (by decide) ?_
    refine g_isub C d_PK_count_87 ?_
    obtain ⟨v9, ev9, hr⟩ := of_bnd hr
    refine g_iaload C ev9 d_PK_count_88 ?_
    cases hr
    exact g_ireturn C T rfl (by decide) (by decide) d_PK_count_89
  have hr := of_el z6 hr
  by_cases z7 : p1 = 7
  · have hr := of_if z7 hr
    refine g_tsIn (tgt := 81) C z7 d_PK_count_1 (by decide) (by decide) rfl (by decide) ?_
    refine g_aload_n C 0 rfl d_PK_count_81 rfl ?_
    obtain ⟨k10, ek10, hr⟩ := of_bnd hr
    refine g_getR C fl_PK_42 ek10 d_PK_count_82 ?_
    refine g_iload_n C 1 rfl d_PK_count_85 rfl ?_
    refine g_iconst (v := 5) C d_PK_count_86 (by decide) ?_
    refine g_isub C d_PK_count_87 ?_
    obtain ⟨v11, ev11, hr⟩ := of_bnd hr
    refine g_iaload C ev11 d_PK_count_88 ?_
    cases hr
    exact g_ireturn C T rfl (by decide) (by decide) d_PK_count_89
  have hr := of_el z7 hr
  by_cases z8 : p1 = 8
  · have hr := of_if z8 hr
    refine g_tsIn (tgt := 81) C z8 d_PK_count_1 (by decide) (by decide) rfl (by decide) ?_
    refine g_aload_n C 0 rfl d_PK_count_81 rfl ?_
    obtain ⟨k12, ek12, hr⟩ := of_bnd hr
    refine g_getR C fl_PK_42 ek12 d_PK_count_82 ?_
    refine g_iload_n C 1 rfl d_PK_count_85 rfl ?_
    refine g_iconst (v := 5) C d_PK_count_86 (by decide) ?_
    refine g_isub C d_PK_count_87 ?_
    obtain ⟨v13, ev13, hr⟩ := of_bnd hr
    refine g_iaload C ev13 d_PK_count_88 ?_
    cases hr
    exact g_ireturn C T rfl (by decide) (by decide) d_PK_count_89
  have hr := of_el z8 hr
  by_cases z9 : p1 = 9
  · have hr := of_if z9 hr
    refine g_tsIn (tgt := 81) C z9 d_PK_count_1 (by decide) (by decide) rfl (by decide) ?_
    refine g_aload_n C 0 rfl d_PK_count_81 rfl ?_
    obtain ⟨k14, ek14, hr⟩ := of_bnd hr
    refine g_getR C fl_PK_42 ek14 d_PK_count_82 ?_
    refine g_iload_n C 1 rfl d_PK_count_85 rfl ?_
    refine g_iconst (v := 5) C d_PK_count_86 (by decide) ?_
    refine g_isub C d_PK_count_87 ?_
    obtain ⟨v15, ev15, hr⟩ := of_bnd hr
    refine g_iaload C ev15 d_PK_count_88 ?_
    cases hr
    exact g_ireturn C T rfl (by decide) (by decide) d_PK_count_89
  have hr := of_el z9 hr
  refine g_tsOut (tgt := 90) C d_PK_count_1 (ts_out (n := 9) (by decide) (fun k hk => ?_)) (by decide) ?_
  · match k, hk with
    | 0, _ => exact z0
    | 1, _ => exact z1
    | 2, _ => exact z2
    | 3, _ => exact z3
    | 4, _ => exact z4
    | 5, _ => exact z5
    | 6, _ => exact z6
    | 7, _ => exact z7
    | 8, _ => exact z8
    | 9, _ => exact z9
  · skip
    refine g_iconst (v := (-1)) C d_PK_count_90 (by decide) ?_
    cases hr
    exact g_ireturn C T rfl (by decide) (by decide) d_PK_count_91
abbrev b_Rm_count : ByteArray := prog_12_method_56_code
abbrev y_Rm_count : MethodName := ⟨"PrimeKeysModel", "count", "(I)I"⟩
theorem d_Rm_count_0 : decode b_Rm_count 0 = .ok (.aload_n 0, 1) := by decide +kernel
theorem d_Rm_count_1 : decode b_Rm_count 1 = .ok (.iconst 0, 1) := by decide +kernel
theorem d_Rm_count_2 : decode b_Rm_count 2 = .ok (.putfield 264, 3) := by decide +kernel
theorem d_Rm_count_5 : decode b_Rm_count 5 = .ok (.iload_n 1, 1) := by decide +kernel
theorem d_Rm_count_6 : decode b_Rm_count 6 = .ok (.tableswitch 50 0 3 #[30, 35, 40, 45], 30) := by decide +kernel
theorem d_Rm_count_36 : decode b_Rm_count 36 = .ok (.aload_n 0, 1) := by decide +kernel
theorem d_Rm_count_37 : decode b_Rm_count 37 = .ok (.getfield 389, 3) := by decide +kernel
theorem d_Rm_count_40 : decode b_Rm_count 40 = .ok (.ireturn, 1) := by decide +kernel
theorem d_Rm_count_41 : decode b_Rm_count 41 = .ok (.aload_n 0, 1) := by decide +kernel
theorem d_Rm_count_42 : decode b_Rm_count 42 = .ok (.getfield 396, 3) := by decide +kernel
theorem d_Rm_count_45 : decode b_Rm_count 45 = .ok (.ireturn, 1) := by decide +kernel
theorem d_Rm_count_46 : decode b_Rm_count 46 = .ok (.aload_n 0, 1) := by decide +kernel
theorem d_Rm_count_47 : decode b_Rm_count 47 = .ok (.getfield 365, 3) := by decide +kernel
theorem d_Rm_count_50 : decode b_Rm_count 50 = .ok (.ireturn, 1) := by decide +kernel
theorem d_Rm_count_51 : decode b_Rm_count 51 = .ok (.aload_n 0, 1) := by decide +kernel
theorem d_Rm_count_52 : decode b_Rm_count 52 = .ok (.getfield 403, 3) := by decide +kernel
theorem d_Rm_count_55 : decode b_Rm_count 55 = .ok (.ireturn, 1) := by decide +kernel
theorem d_Rm_count_56 : decode b_Rm_count 56 = .ok (.iload_n 1, 1) := by decide +kernel
theorem d_Rm_count_57 : decode b_Rm_count 57 = .ok (.iconst 3, 1) := by decide +kernel
theorem d_Rm_count_58 : decode b_Rm_count 58 = .ok (.if_icmp .le 20, 3) := by decide +kernel
theorem d_Rm_count_61 : decode b_Rm_count 61 = .ok (.iload_n 1, 1) := by decide +kernel
theorem d_Rm_count_62 : decode b_Rm_count 62 = .ok (.bipush 10, 2) := by decide +kernel
theorem d_Rm_count_64 : decode b_Rm_count 64 = .ok (.if_icmp .ge 14, 3) := by decide +kernel
theorem d_Rm_count_67 : decode b_Rm_count 67 = .ok (.aload_n 0, 1) := by decide +kernel
theorem d_Rm_count_68 : decode b_Rm_count 68 = .ok (.getfield 23, 3) := by decide +kernel
theorem d_Rm_count_71 : decode b_Rm_count 71 = .ok (.iload_n 1, 1) := by decide +kernel
theorem d_Rm_count_72 : decode b_Rm_count 72 = .ok (.iconst 4, 1) := by decide +kernel
theorem d_Rm_count_73 : decode b_Rm_count 73 = .ok (.isub, 1) := by decide +kernel
theorem d_Rm_count_74 : decode b_Rm_count 74 = .ok (.iaload, 1) := by decide +kernel
theorem d_Rm_count_75 : decode b_Rm_count 75 = .ok (.goto 4, 3) := by decide +kernel
theorem d_Rm_count_78 : decode b_Rm_count 78 = .ok (.iconst (-1), 1) := by decide +kernel
theorem d_Rm_count_79 : decode b_Rm_count 79 = .ok (.ireturn, 1) := by decide +kernel
abbrev rm_Rm_count : Room := { frames := 0, cells := 0, slots := 0, locals := 0 }
def B_Rm_count_78 (h : HP) : Option (Int32 × HP) :=
  some ((-1), h)
set_option maxHeartbeats 4000000 in
set_option maxRecDepth 100000 in
theorem bk_Rm_count_78 {l : Launch} {x : CX} {h0 h' : HP} {r' : Int32} (C : EV x b_Rm_count "PrimeKeysModel" 2 rm_Rm_count) (T : CT x (some .int) rm_Rm_count h0 (some (.int r')) h') (hl0 : x.1.2.1 = l) (h : HP) (hr : B_Rm_count_78 h = some (r', h')) : GG x 0 0 h 78 [] [] := by
  unfold B_Rm_count_78 at hr
  refine g_iconst (v := (-1)) C d_Rm_count_78 (by decide) ?_
  cases hr
  exact g_ireturn C T rfl (by decide) (by decide) d_Rm_count_79
def P_Rm_count (h : HP) (p0 : Nat) (p1 : Int32) : Option (Int32 × HP) :=
  bnd (pV h p0 8 0 (.int 0)) fun h1 =>
  if p1 = 0 then
  bnd (gI h1 p0 8 5) fun v4 =>
  some (v4, h1)
  else
  if p1 = 1 then
  bnd (gI h1 p0 8 8) fun v5 =>
  some (v5, h1)
  else
  if p1 = 2 then
  bnd (gI h1 p0 8 6) fun v6 =>
  some (v6, h1)
  else
  if p1 = 3 then
  bnd (gI h1 p0 8 7) fun v7 =>
  some (v7, h1)
  else
  if p1 ≤ 3 then
  B_Rm_count_78 h1
  else
  if 10 ≤ p1 then
  B_Rm_count_78 h1
  else
  bnd (gR h1 p0 8 9) fun k2 =>
  bnd (ldI h1 k2 (p1 - 4)) fun v3 =>
  some (v3, h1)
set_option maxHeartbeats 4000000 in
set_option maxRecDepth 100000 in
theorem c_Rm_count {l : Launch} {h h' : HP} {p0 p1 : _} {r' : Int32} (hr : P_Rm_count h p0 p1 = some (r', h')) : MP l y_Rm_count (Cond.code y_Rm_count b_Rm_count 2 (some .int) :: TB) rm_Rm_count h [.ref p0, .int p1] (some (.int r')) h' := by
  refine MP_intro (cc := b_Rm_count) (by decide) (Nat.le_of_ble_eq_true rfl) (fun x hl0 C T hin => ?_)
  unfold P_Rm_count at hr
  show GG x 0 0 h 0 [(0, .ref p0), (1, .int p1)] []
  refine g_aload_n C 0 rfl d_Rm_count_0 rfl ?_
  refine g_iconst (v := 0) C d_Rm_count_1 (by decide) ?_
  obtain ⟨h1, eh1, hr⟩ := of_bnd hr
  refine g_putI C fp_Rm_264 eh1 d_Rm_count_2 ?_
  refine g_iload_n C 1 rfl d_Rm_count_5 rfl ?_
  by_cases z0 : p1 = 0
  · have hr := of_if z0 hr
    refine g_tsIn (tgt := 36) C z0 d_Rm_count_6 (by decide) (by decide) rfl (by decide) ?_
    refine g_aload_n C 0 rfl d_Rm_count_36 rfl ?_
    obtain ⟨v4, ev4, hr⟩ := of_bnd hr
    refine g_getI C fl_Rm_389 ev4 d_Rm_count_37 ?_
    cases hr
    exact g_ireturn C T rfl (by decide) (by decide) d_Rm_count_40
  have hr := of_el z0 hr
  by_cases z1 : p1 = 1
  · have hr := of_if z1 hr
    refine g_tsIn (tgt := 41) C z1 d_Rm_count_6 (by decide) (by decide) rfl (by decide) ?_
    refine g_aload_n C 0 rfl d_Rm_count_41 rfl ?_
    obtain ⟨v5, ev5, hr⟩ := of_bnd hr
    refine g_getI C fl_Rm_396 ev5 d_Rm_count_42 ?_
    cases hr
    exact g_ireturn C T rfl (by decide) (by decide) d_Rm_count_45
  have hr := of_el z1 hr
  by_cases z2 : p1 = 2
  · have hr := of_if z2 hr
    refine g_tsIn (tgt := 46) C z2 d_Rm_count_6 (by decide) (by decide) rfl (by decide) ?_
    refine g_aload_n C 0 rfl d_Rm_count_46 rfl ?_
    obtain ⟨v6, ev6, hr⟩ := of_bnd hr
    refine g_getI C fl_Rm_365 ev6 d_Rm_count_47 ?_
    cases hr
    exact g_ireturn C T rfl (by decide) (by decide) d_Rm_count_50
  have hr := of_el z2 hr
  by_cases z3 : p1 = 3
  · have hr := of_if z3 hr
    refine g_tsIn (tgt := 51) C z3 d_Rm_count_6 (by decide) (by decide) rfl (by decide) ?_
    refine g_aload_n C 0 rfl d_Rm_count_51 rfl ?_
    obtain ⟨v7, ev7, hr⟩ := of_bnd hr
    refine g_getI C fl_Rm_403 ev7 d_Rm_count_52 ?_
    cases hr
    exact g_ireturn C T rfl (by decide) (by decide) d_Rm_count_55
  have hr := of_el z3 hr
  refine g_tsOut (tgt := 56) C d_Rm_count_6 (ts_out (n := 3) (by decide) (fun k hk => ?_)) (by decide) ?_
  · match k, hk with
    | 0, _ => exact z0
    | 1, _ => exact z1
    | 2, _ => exact z2
    | 3, _ => exact z3
  · skip
    refine g_iload_n C 1 rfl d_Rm_count_56 rfl ?_
    refine g_iconst (v := 3) C d_Rm_count_57 (by decide) ?_
    refine g_icmp_le (tgt := 78) C d_Rm_count_58 (by decide) (fun z => ?_) (fun z => ?_)
    · have hr := of_if z hr
      refine g_lv [] rfl ?_
      exact bk_Rm_count_78 C T hl0 h1 hr
    · have hr := of_el z hr
      refine g_iload_n C 1 rfl d_Rm_count_61 rfl ?_
      refine g_bipush (v := 10) C d_Rm_count_62 (by decide) ?_
      refine g_icmp_ge (tgt := 78) C d_Rm_count_64 (by decide) (fun z => ?_) (fun z => ?_)
      · have hr := of_if z hr
        refine g_lv [] rfl ?_
        exact bk_Rm_count_78 C T hl0 h1 hr
      · have hr := of_el z hr
        refine g_aload_n C 0 rfl d_Rm_count_67 rfl ?_
        obtain ⟨k2, ek2, hr⟩ := of_bnd hr
        refine g_getR C fl_Rm_23 ek2 d_Rm_count_68 ?_
        refine g_iload_n C 1 rfl d_Rm_count_71 rfl ?_
        refine g_iconst (v := 4) C d_Rm_count_72 (by decide) ?_
        refine g_isub C d_Rm_count_73 ?_
        obtain ⟨v3, ev3, hr⟩ := of_bnd hr
        refine g_iaload C ev3 d_Rm_count_74 ?_
        refine g_goto (tgt := 79) C d_Rm_count_75 (by decide) ?_
        cases hr
        exact g_ireturn C T rfl (by decide) (by decide) d_Rm_count_79
