theorem g_areturn {x : CX} {cc : ByteArray} {own : String} {N : Nat} {rm : Room} {cells slots pc : Nat} {h h0 : HP} {lv : List (Nat × Value)} (C : EV x cc own N rm) {ty : FieldType} {k : Nat} (T : CT x (some ty) rm h0 (some (.ref k)) h) (hty : (∃ n, ty = .object n) ∨ ∃ t, ty = .array t) (hc : cells ≤ rm.cells) (hs : slots ≤ rm.slots) (d : decode cc pc = .ok (.areturn, 1)) : GG x cells slots h pc lv [.ref k] := by
  intro ad H locs ls h1 h2 h3 h4 hP hD hS hl
  refine W.widen hc hs ?_
  rw [T.2.2.2.2]
  exact W.aret C.hx C.hb T.1 hty (Or.inr ⟨_, rfl⟩) (fun t ht hW => ct_post T h1 h2 h4 hP hD hS t ht) hS.2.2 d (hlocks := T.2.1)
theorem kw_ml : Cond.methodLink "java/util/Arrays" 304 Lib.Math.min.name ∈ TB := tb_3 (List.mem_of_getElem? (i := 44) (by decide +kernel)) rfl
theorem kw_ms : Cond.static Lib.Math.min.name ∈ TB := tb_3 (List.mem_of_getElem? (i := 45) (by decide +kernel)) rfl
theorem kw_mi : Cond.initialized "java/lang/Math" ∈ TB := tb_1 (List.mem_of_getElem? (i := 18) (by decide +kernel)) rfl
theorem kw_mc : Cond.code Lib.Math.min.name Lib.Math.min.code 2 (some .int) ∈ TB := tb_3 (List.mem_of_getElem? (i := 46) (by decide +kernel)) rfl
theorem g_min {x : CX} {cc : ByteArray} {N : Nat} {rm : Room} {cells slots pc : Nat} {h : HP} {lv : List (Nat × Value)} {st : List Value} (C : EV x cc "java/util/Arrays" N rm) {a b : Int32} (hf : 1 ≤ rm.frames) (hlo : (st.map fun v => v.category).sum + 13 ≤ rm.locals) (hc : cells ≤ rm.cells) (hs : slots ≤ rm.slots) (d : decode cc pc = .ok (.invokestatic 304, 3)) (kk : GG x cells slots h (pc + 3) lv (.int (if b < a then b else a) :: st)) : GG x cells slots h pc lv (.int b :: .int a :: st) :=
  fun ad H locs ls h1 h2 h3 h4 hP hD hS hl => va_mmin C.hx C.hb (by rw [C.hm, ← C.hn]; exact hl.1.symm) C.ho (C.ht _ kw_ml) (C.ht _ kw_ms) (C.ht _ kw_mi) (C.ht _ kw_mc) (by rw [C.hR]; exact hf) (by rw [st_cat, C.hR]; exact hlo) (by rw [C.hR]; exact hc) (by rw [C.hR]; exact hs) d (kk ad H locs ls h1 (wfs_c wfv_i (wfs_t (wfs_t h2))) h3 h4 hP hD hS hl)
abbrev b_Ar_copyOf_B : ByteArray := prog_22_method_121_code
abbrev y_Ar_copyOf_B : MethodName := ⟨"java/util/Arrays", "copyOf", "([BI)[B"⟩
theorem d_Ar_copyOf_B_0 : decode b_Ar_copyOf_B 0 = .ok (.iload_n 1, 1) := by decide +kernel
theorem d_Ar_copyOf_B_1 : decode b_Ar_copyOf_B 1 = .ok (.aload_n 0, 1) := by decide +kernel
theorem d_Ar_copyOf_B_2 : decode b_Ar_copyOf_B 2 = .ok (.arraylength, 1) := by decide +kernel
theorem d_Ar_copyOf_B_3 : decode b_Ar_copyOf_B 3 = .ok (.if_icmp .ne 11, 3) := by decide +kernel
theorem d_Ar_copyOf_B_6 : decode b_Ar_copyOf_B 6 = .ok (.aload_n 0, 1) := by decide +kernel
theorem d_Ar_copyOf_B_7 : decode b_Ar_copyOf_B 7 = .ok (.invokevirtual 310, 3) := by decide +kernel
theorem d_Ar_copyOf_B_10 : decode b_Ar_copyOf_B 10 = .ok (.checkcast 311, 3) := by decide +kernel
theorem d_Ar_copyOf_B_13 : decode b_Ar_copyOf_B 13 = .ok (.areturn, 1) := by decide +kernel
theorem d_Ar_copyOf_B_14 : decode b_Ar_copyOf_B 14 = .ok (.iload_n 1, 1) := by decide +kernel
theorem d_Ar_copyOf_B_15 : decode b_Ar_copyOf_B 15 = .ok (.newarray .byte, 2) := by decide +kernel
theorem d_Ar_copyOf_B_17 : decode b_Ar_copyOf_B 17 = .ok (.astore_n 2, 1) := by decide +kernel
theorem d_Ar_copyOf_B_18 : decode b_Ar_copyOf_B 18 = .ok (.aload_n 0, 1) := by decide +kernel
theorem d_Ar_copyOf_B_19 : decode b_Ar_copyOf_B 19 = .ok (.iconst 0, 1) := by decide +kernel
theorem d_Ar_copyOf_B_20 : decode b_Ar_copyOf_B 20 = .ok (.aload_n 2, 1) := by decide +kernel
theorem d_Ar_copyOf_B_21 : decode b_Ar_copyOf_B 21 = .ok (.iconst 0, 1) := by decide +kernel
theorem d_Ar_copyOf_B_22 : decode b_Ar_copyOf_B 22 = .ok (.aload_n 0, 1) := by decide +kernel
theorem d_Ar_copyOf_B_23 : decode b_Ar_copyOf_B 23 = .ok (.arraylength, 1) := by decide +kernel
theorem d_Ar_copyOf_B_24 : decode b_Ar_copyOf_B 24 = .ok (.iload_n 1, 1) := by decide +kernel
theorem d_Ar_copyOf_B_25 : decode b_Ar_copyOf_B 25 = .ok (.invokestatic 304, 3) := by decide +kernel
theorem d_Ar_copyOf_B_28 : decode b_Ar_copyOf_B 28 = .ok (.invokestatic 150, 3) := by decide +kernel
theorem d_Ar_copyOf_B_31 : decode b_Ar_copyOf_B 31 = .ok (.aload_n 2, 1) := by decide +kernel
theorem d_Ar_copyOf_B_32 : decode b_Ar_copyOf_B 32 = .ok (.areturn, 1) := by decide +kernel
theorem kw_90 : Cond.methodLink "java/util/Arrays" 150 arraycopyName ∈ TB := tb_3 (List.mem_of_getElem? (i := 47) (by decide +kernel)) rfl
abbrev rm_Ar_copyOf_B (bu : Nat × Nat) : Room := { frames := 1, cells := bu.1, slots := bu.2, locals := 26 }
def P_Ar_copyOf_B (bu : Nat × Nat) (h : HP) (p0 : Nat) (p1 : Int32) : Option (Nat × HP) :=
  bnd (lnP h p0) fun v1 =>
  if p1 = v1 then
  none
  else
  gd (¬ p1 < 0 ∧ p1.toNatClampNeg ≤ 65536 ∧ 1 ≤ bu.1 ∧ p1.toNatClampNeg ≤ bu.2) (
  lt (h ++ [pB p1.toNatClampNeg (fun _ => 0)]) fun h2 =>
  lt h.length fun k3 =>
  bnd (lnP h2 p0) fun v4 =>
  bnd (cpB h2 p0 0 k3 0 (if p1 < v4 then p1 else v4)) fun h5 =>
  some (k3, h5))
set_option maxHeartbeats 4000000 in
set_option maxRecDepth 100000 in
theorem c_Ar_copyOf_B {l : Launch} {h h' : HP} {p0 p1 : _} {r' : Nat} {bu : Nat × Nat} (hr : P_Ar_copyOf_B bu h p0 p1 = some (r', h')) : MP l y_Ar_copyOf_B (Cond.code y_Ar_copyOf_B b_Ar_copyOf_B 3 (some (.array .byte)) :: TB) (rm_Ar_copyOf_B bu) h [.ref p0, .int p1] (some (.ref r')) h' := by
  refine MP_intro (cc := b_Ar_copyOf_B) (by decide) (Nat.le_of_ble_eq_true rfl) (fun x hl0 C T hin => ?_)
  unfold P_Ar_copyOf_B at hr
  show GG x 0 0 h 0 [(0, .ref p0), (1, .int p1)] []
  refine g_iload_n C 1 rfl d_Ar_copyOf_B_0 rfl ?_
  refine g_aload_n C 0 rfl d_Ar_copyOf_B_1 rfl ?_
  obtain ⟨v1, ev1, hr⟩ := of_bnd hr
  refine g_alenP C ev1 d_Ar_copyOf_B_2 ?_
  refine g_icmp_ne (tgt := 14) C d_Ar_copyOf_B_3 (by decide) (fun z => ?_) (fun z => ?_)
  · have hr := of_el z hr
    refine g_iload_n C 1 rfl d_Ar_copyOf_B_14 rfl ?_
    obtain ⟨⟨hz1, hz2, hz3, hz4⟩, hr⟩ := of_gd hr
    obtain ⟨h2, eh2⟩ : ∃ z, z = h ++ [pB p1.toNatClampNeg (fun _ => 0)] := ⟨_, rfl⟩
    have hr := of_lt eh2 hr
    obtain ⟨k3, ek3⟩ : ∃ z, z = h.length := ⟨_, rfl⟩
    have hr := of_lt ek3 hr
    refine g_newBE (n' := p1.toNatClampNeg) C eh2 ek3 hz1 rfl hz2 (show 0 + 1 ≤ bu.1 by omega) (show 0 + p1.toNatClampNeg ≤ bu.2 by omega) d_Ar_copyOf_B_15 ?_
    refine g_astore_n (lv' := [(2, .ref k3), (0, .ref p0), (1, .int p1)]) C d_Ar_copyOf_B_17 rfl (by decide) rfl ?_
    refine g_aload_n C 1 rfl d_Ar_copyOf_B_18 rfl ?_
    refine g_iconst (v := 0) C d_Ar_copyOf_B_19 (by decide) ?_
    refine g_aload_n C 0 rfl d_Ar_copyOf_B_20 rfl ?_
    refine g_iconst (v := 0) C d_Ar_copyOf_B_21 (by decide) ?_
    refine g_aload_n C 1 rfl d_Ar_copyOf_B_22 rfl ?_
    obtain ⟨v4, ev4, hr⟩ := of_bnd hr
    refine g_alenP C ev4 d_Ar_copyOf_B_23 ?_
    refine g_iload_n C 2 rfl d_Ar_copyOf_B_24 rfl ?_
    refine g_min C (Nat.le_of_ble_eq_true rfl) (Nat.le_of_ble_eq_true rfl) (show 0 + 1 ≤ bu.1 by omega) (show 0 + p1.toNatClampNeg ≤ bu.2 by omega) d_Ar_copyOf_B_25 ?_
    obtain ⟨h5, eh5, hr⟩ := of_bnd hr
    refine g_copyB C eh5 kw_90 (Nat.le_of_ble_eq_true rfl) (Nat.le_of_ble_eq_true rfl) d_Ar_copyOf_B_28 ?_
    refine g_aload_n C 0 rfl d_Ar_copyOf_B_31 rfl ?_
    cases hr
    exact g_areturn C T (Or.inr ⟨_, rfl⟩) (show 0 + 1 ≤ bu.1 by omega) (show 0 + p1.toNatClampNeg ≤ bu.2 by omega) d_Ar_copyOf_B_32
  · have hr := of_if z hr
    refine g_aload_n C 0 rfl d_Ar_copyOf_B_6 rfl ?_
    cases hr
abbrev b_PK_makeRoom : ByteArray := prog_1_method_14_code
abbrev y_PK_makeRoom : MethodName := ⟨"PrimeKeys", "makeRoom", "(I)V"⟩
theorem d_PK_makeRoom_0 : decode b_PK_makeRoom 0 = .ok (.aload_n 0, 1) := by decide +kernel
theorem d_PK_makeRoom_1 : decode b_PK_makeRoom 1 = .ok (.getfield 9, 3) := by decide +kernel
theorem d_PK_makeRoom_4 : decode b_PK_makeRoom 4 = .ok (.arraylength, 1) := by decide +kernel
theorem d_PK_makeRoom_5 : decode b_PK_makeRoom 5 = .ok (.istore_n 2, 1) := by decide +kernel
theorem d_PK_makeRoom_6 : decode b_PK_makeRoom 6 = .ok (.iload_n 2, 1) := by decide +kernel
theorem d_PK_makeRoom_7 : decode b_PK_makeRoom 7 = .ok (.aload_n 0, 1) := by decide +kernel
theorem d_PK_makeRoom_8 : decode b_PK_makeRoom 8 = .ok (.getfield 13, 3) := by decide +kernel
theorem d_PK_makeRoom_11 : decode b_PK_makeRoom 11 = .ok (.iload_n 1, 1) := by decide +kernel
theorem d_PK_makeRoom_12 : decode b_PK_makeRoom 12 = .ok (.iadd, 1) := by decide +kernel
theorem d_PK_makeRoom_13 : decode b_PK_makeRoom 13 = .ok (.if_icmp .ge 16, 3) := by decide +kernel
theorem d_PK_makeRoom_16 : decode b_PK_makeRoom 16 = .ok (.iload_n 2, 1) := by decide +kernel
theorem d_PK_makeRoom_17 : decode b_PK_makeRoom 17 = .ok (.ldc 92, 2) := by decide +kernel
theorem d_PK_makeRoom_19 : decode b_PK_makeRoom 19 = .ok (.if_icmp .ge 10, 3) := by decide +kernel
theorem d_PK_makeRoom_22 : decode b_PK_makeRoom 22 = .ok (.iload_n 2, 1) := by decide +kernel
theorem d_PK_makeRoom_23 : decode b_PK_makeRoom 23 = .ok (.iconst 2, 1) := by decide +kernel
theorem d_PK_makeRoom_24 : decode b_PK_makeRoom 24 = .ok (.imul, 1) := by decide +kernel
theorem d_PK_makeRoom_25 : decode b_PK_makeRoom 25 = .ok (.istore_n 2, 1) := by decide +kernel
theorem d_PK_makeRoom_26 : decode b_PK_makeRoom 26 = .ok (.goto (-20), 3) := by decide +kernel
theorem d_PK_makeRoom_29 : decode b_PK_makeRoom 29 = .ok (.iload_n 2, 1) := by decide +kernel
theorem d_PK_makeRoom_30 : decode b_PK_makeRoom 30 = .ok (.aload_n 0, 1) := by decide +kernel
theorem d_PK_makeRoom_31 : decode b_PK_makeRoom 31 = .ok (.getfield 9, 3) := by decide +kernel
theorem d_PK_makeRoom_34 : decode b_PK_makeRoom 34 = .ok (.arraylength, 1) := by decide +kernel
theorem d_PK_makeRoom_35 : decode b_PK_makeRoom 35 = .ok (.if_icmp .le 15, 3) := by decide +kernel
theorem d_PK_makeRoom_38 : decode b_PK_makeRoom 38 = .ok (.aload_n 0, 1) := by decide +kernel
theorem d_PK_makeRoom_39 : decode b_PK_makeRoom 39 = .ok (.aload_n 0, 1) := by decide +kernel
theorem d_PK_makeRoom_40 : decode b_PK_makeRoom 40 = .ok (.getfield 9, 3) := by decide +kernel
theorem d_PK_makeRoom_43 : decode b_PK_makeRoom 43 = .ok (.iload_n 2, 1) := by decide +kernel
theorem d_PK_makeRoom_44 : decode b_PK_makeRoom 44 = .ok (.invokestatic 166, 3) := by decide +kernel
theorem d_PK_makeRoom_47 : decode b_PK_makeRoom 47 = .ok (.putfield 9, 3) := by decide +kernel
theorem d_PK_makeRoom_50 : decode b_PK_makeRoom 50 = .ok (.return_, 1) := by decide +kernel
theorem kw_91 : Cond.constant "PrimeKeys" 92 65536 ∈ TB := tb_2 (List.mem_of_getElem? (i := 205) (by decide +kernel)) rfl
theorem cd_PK_166 : CD "PrimeKeys" 166 y_Ar_copyOf_B b_Ar_copyOf_B 3 (some (.array .byte)) 2 := ⟨tb_3 (List.mem_of_getElem? (i := 36) rfl) rfl, tb_1 (List.mem_of_getElem? (i := 7) (by decide +kernel)) rfl, tb_3 (List.mem_of_getElem? (i := 34) (by decide +kernel)) rfl, by decide +kernel⟩
theorem kw_st_Ar_copyOf_B : Cond.static y_Ar_copyOf_B ∈ TB := tb_3 (List.mem_of_getElem? (i := 35) (by decide +kernel)) rfl
abbrev rm_PK_makeRoom (bu : Nat × Nat) : Room := { frames := 2, cells := bu.1, slots := bu.2, locals := 48 }
def B_PK_makeRoom_29 (bu : Nat × Nat) (K6 : HP → Nat → Int32 → Int32 → Option (HP)) (h : HP) (a0 : Nat) (a2 : Int32) : Option (HP) :=
  bnd (gR h a0 7 0) fun k4 =>
  bnd (lnP h k4) fun v5 =>
  if a2 ≤ v5 then
  some h
  else
  bnd (gR h a0 7 0) fun k6 =>
  bnd2 (P_Ar_copyOf_B bu h k6 a2) fun v8 h7 =>
  bnd (pV h7 a0 7 0 (.ref v8)) fun h9 =>
  some h9
set_option maxHeartbeats 4000000 in
set_option maxRecDepth 100000 in
theorem bk_PK_makeRoom_29 {l : Launch} {x : CX} {h0 h' : HP} {bu : Nat × Nat} (C : EV x b_PK_makeRoom "PrimeKeys" 3 (rm_PK_makeRoom bu)) (T : CT x (none) (rm_PK_makeRoom bu) h0 none h') (hl0 : x.1.2.1 = l) (K6 : HP → Nat → Int32 → Int32 → Option (HP)) (hK6 : ∀ (h : HP) (a0 : Nat) (a1 : Int32) (a2 : Int32), K6 h a0 a1 a2 = some h' → GG x 0 0 h 6 [(0, .ref a0), (1, .int a1), (2, .int a2)] []) (h : HP) (a0 : Nat) (a2 : Int32) (hr : B_PK_makeRoom_29 bu K6 h a0 a2 = some h') : GG x 0 0 h 29 [(0, .ref a0), (2, .int a2)] [] := by
  unfold B_PK_makeRoom_29 at hr
  refine g_iload_n C 1 rfl d_PK_makeRoom_29 rfl ?_
  refine g_aload_n C 0 rfl d_PK_makeRoom_30 rfl ?_
  obtain ⟨k4, ek4, hr⟩ := of_bnd hr
  refine g_getR C fl_PK_9 ek4 d_PK_makeRoom_31 ?_
  obtain ⟨v5, ev5, hr⟩ := of_bnd hr
  refine g_alenP C ev5 d_PK_makeRoom_34 ?_
  refine g_icmp_le (tgt := 50) C d_PK_makeRoom_35 (by decide) (fun z => ?_) (fun z => ?_)
  · have hr := of_if z hr
    cases hr
    exact g_vreturn C T (show 0 ≤ bu.1 by omega) (show 0 ≤ bu.2 by omega) d_PK_makeRoom_50
  · have hr := of_el z hr
    refine g_aload_n C 0 rfl d_PK_makeRoom_38 rfl ?_
    refine g_aload_n C 0 rfl d_PK_makeRoom_39 rfl ?_
    obtain ⟨k6, ek6, hr⟩ := of_bnd hr
    refine g_getR C fl_PK_9 ek6 d_PK_makeRoom_40 ?_
    refine g_iload_n C 1 rfl d_PK_makeRoom_43 rfl ?_
    obtain ⟨v8, h7, eh7, hr⟩ := of_bnd2 hr
    refine g_callS (pa := [.ref k6, .int a2]) C hl0 (c_Ar_copyOf_B eh7) cd_PK_166 kw_st_Ar_copyOf_B ⟨Nat.le_of_ble_eq_true rfl, Nat.le_of_ble_eq_true rfl, show 0 + bu.1 ≤ bu.1 by omega, show 0 + bu.2 ≤ bu.2 by omega⟩ rfl rfl (Nat.le_of_ble_eq_true rfl) d_PK_makeRoom_44 ?_
    obtain ⟨h9, eh9, hr⟩ := of_bnd hr
    refine g_putR C fp_PK_9 eh9 (fun _ => rfl) (fun _ => rfl) d_PK_makeRoom_47 ?_
    cases hr
    exact g_vreturn C T (show 0 + bu.1 ≤ bu.1 by omega) (show 0 + bu.2 ≤ bu.2 by omega) d_PK_makeRoom_50
def B_PK_makeRoom_6 (bu : Nat × Nat) (K6 : HP → Nat → Int32 → Int32 → Option (HP)) (h : HP) (a0 : Nat) (a1 : Int32) (a2 : Int32) : Option (HP) :=
  bnd (gI h a0 7 1) fun v3 =>
  if v3 + a1 ≤ a2 then
  B_PK_makeRoom_29 bu K6 h a0 a2
  else
  if 65536 ≤ a2 then
  B_PK_makeRoom_29 bu K6 h a0 a2
  else
  lt (a2 * 2) fun x10 =>
  K6 h a0 a1 x10
set_option maxHeartbeats 4000000 in
set_option maxRecDepth 100000 in
theorem bk_PK_makeRoom_6 {l : Launch} {x : CX} {h0 h' : HP} {bu : Nat × Nat} (C : EV x b_PK_makeRoom "PrimeKeys" 3 (rm_PK_makeRoom bu)) (T : CT x (none) (rm_PK_makeRoom bu) h0 none h') (hl0 : x.1.2.1 = l) (K6 : HP → Nat → Int32 → Int32 → Option (HP)) (hK6 : ∀ (h : HP) (a0 : Nat) (a1 : Int32) (a2 : Int32), K6 h a0 a1 a2 = some h' → GG x 0 0 h 6 [(0, .ref a0), (1, .int a1), (2, .int a2)] []) (h : HP) (a0 : Nat) (a1 : Int32) (a2 : Int32) (hr : B_PK_makeRoom_6 bu K6 h a0 a1 a2 = some h') : GG x 0 0 h 6 [(0, .ref a0), (1, .int a1), (2, .int a2)] [] := by
  unfold B_PK_makeRoom_6 at hr
  refine g_iload_n C 2 rfl d_PK_makeRoom_6 rfl ?_
  refine g_aload_n C 0 rfl d_PK_makeRoom_7 rfl ?_
  obtain ⟨v3, ev3, hr⟩ := of_bnd hr
  refine g_getI C fl_PK_13 ev3 d_PK_makeRoom_8 ?_
  refine g_iload_n C 1 rfl d_PK_makeRoom_11 rfl ?_
  refine g_iadd C d_PK_makeRoom_12 ?_
  refine g_icmp_ge (tgt := 29) C d_PK_makeRoom_13 (by decide) (fun z => ?_) (fun z => ?_)
  · have hr := of_if z hr
    refine g_lv [0, 2] rfl ?_
    exact bk_PK_makeRoom_29 C T hl0 K6 hK6 h a0 a2 hr
  · have hr := of_el z hr
    refine g_iload_n C 2 rfl d_PK_makeRoom_16 rfl ?_
    refine g_ldc (v := 65536) C d_PK_makeRoom_17 kw_91 ?_
    refine g_icmp_ge (tgt := 29) C d_PK_makeRoom_19 (by decide) (fun z => ?_) (fun z => ?_)
    · have hr := of_if z hr
      refine g_lv [0, 2] rfl ?_
      exact bk_PK_makeRoom_29 C T hl0 K6 hK6 h a0 a2 hr
    · have hr := of_el z hr
      refine g_iload_n C 2 rfl d_PK_makeRoom_22 rfl ?_
      refine g_iconst (v := 2) C d_PK_makeRoom_23 (by decide) ?_
      refine g_imul C d_PK_makeRoom_24 ?_
      refine g_topi (fun x10 ex10 => ?_)
      have hr := of_lt ex10 hr
      refine g_istore_n (lv' := [(2, .int x10), (0, .ref a0), (1, .int a1)]) C d_PK_makeRoom_25 rfl (by decide) rfl ?_
      refine g_goto (tgt := 6) C d_PK_makeRoom_26 (by decide) ?_
      refine g_lv [1, 2, 0] rfl ?_
      exact hK6 h a0 a1 x10 hr
def L_PK_makeRoom_6 (bu : Nat × Nat) : Nat → HP → Nat → Int32 → Int32 → Option (HP)
  | 0, _, _, _, _ => none
  | f + 1, h, a0, a1, a2 => B_PK_makeRoom_6 bu (L_PK_makeRoom_6 bu f) h a0 a1 a2
theorem lp_PK_makeRoom_6 {l : Launch} {x : CX} {h0 h' : HP} {bu : Nat × Nat} (C : EV x b_PK_makeRoom "PrimeKeys" 3 (rm_PK_makeRoom bu)) (T : CT x (none) (rm_PK_makeRoom bu) h0 none h') (hl0 : x.1.2.1 = l) : ∀ (f : Nat) (h : HP) (a0 : Nat) (a1 : Int32) (a2 : Int32), L_PK_makeRoom_6 bu f h a0 a1 a2 = some h' → GG x 0 0 h 6 [(0, .ref a0), (1, .int a1), (2, .int a2)] [] := by
  intro f
  induction f with
  | zero => intro h a0 a1 a2 hr; have hr : (none : Option (HP)) = some h' := hr; cases hr
  | succ f ih => intro h a0 a1 a2 hr; exact bk_PK_makeRoom_6 C T hl0 (L_PK_makeRoom_6 bu f) ih h a0 a1 a2 hr
def P_PK_makeRoom (bu : Nat × Nat) (h : HP) (p0 : Nat) (p1 : Int32) : Option (HP) :=
  bnd (gR h p0 7 0) fun k1 =>
  bnd (lnP h k1) fun v2 =>
  L_PK_makeRoom_6 bu FU h p0 p1 v2
set_option maxHeartbeats 4000000 in
set_option maxRecDepth 100000 in
theorem c_PK_makeRoom {l : Launch} {h h' : HP} {p0 p1 : _} {bu : Nat × Nat} (hr : P_PK_makeRoom bu h p0 p1 = some h') : MP l y_PK_makeRoom (Cond.code y_PK_makeRoom b_PK_makeRoom 3 none :: TB) (rm_PK_makeRoom bu) h [.ref p0, .int p1] none h' := by
  refine MP_intro (cc := b_PK_makeRoom) (by decide) (Nat.le_of_ble_eq_true rfl) (fun x hl0 C T hin => ?_)
  unfold P_PK_makeRoom at hr
  show GG x 0 0 h 0 [(0, .ref p0), (1, .int p1)] []
  refine g_aload_n C 0 rfl d_PK_makeRoom_0 rfl ?_
  obtain ⟨k1, ek1, hr⟩ := of_bnd hr
  refine g_getR C fl_PK_9 ek1 d_PK_makeRoom_1 ?_
  obtain ⟨v2, ev2, hr⟩ := of_bnd hr
  refine g_alenP C ev2 d_PK_makeRoom_4 ?_
  refine g_istore_n (lv' := [(2, .int v2), (0, .ref p0), (1, .int p1)]) C d_PK_makeRoom_5 rfl (by decide) rfl ?_
  refine g_lv [1, 2, 0] rfl ?_
  exact lp_PK_makeRoom_6 C T hl0 FU h p0 p1 v2 hr
abbrev b_PK_feed : ByteArray := prog_1_method_2_code
abbrev y_PK_feed : MethodName := ⟨"PrimeKeys", "feed", "(IIIII)I"⟩
theorem d_PK_feed_0 : decode b_PK_feed 0 = .ok (.aload_n 0, 1) := by decide +kernel
theorem d_PK_feed_1 : decode b_PK_feed 1 = .ok (.getfield 13, 3) := by decide +kernel
theorem d_PK_feed_4 : decode b_PK_feed 4 = .ok (.bipush 20, 2) := by decide +kernel
theorem d_PK_feed_6 : decode b_PK_feed 6 = .ok (.iadd, 1) := by decide +kernel
theorem d_PK_feed_7 : decode b_PK_feed 7 = .ok (.ldc 92, 2) := by decide +kernel
theorem d_PK_feed_9 : decode b_PK_feed 9 = .ok (.if_icmp .le 11, 3) := by decide +kernel
theorem d_PK_feed_12 : decode b_PK_feed 12 = .ok (.new 93, 3) := by decide +kernel
theorem d_PK_feed_15 : decode b_PK_feed 15 = .ok (.dup, 1) := by decide +kernel
theorem d_PK_feed_16 : decode b_PK_feed 16 = .ok (.invokespecial 95, 3) := by decide +kernel
theorem d_PK_feed_19 : decode b_PK_feed 19 = .ok (.athrow, 1) := by decide +kernel
theorem d_PK_feed_20 : decode b_PK_feed 20 = .ok (.aload_n 0, 1) := by decide +kernel
theorem d_PK_feed_21 : decode b_PK_feed 21 = .ok (.bipush 20, 2) := by decide +kernel
theorem d_PK_feed_23 : decode b_PK_feed 23 = .ok (.invokevirtual 96, 3) := by decide +kernel
theorem d_PK_feed_26 : decode b_PK_feed 26 = .ok (.iload_n 1, 1) := by decide +kernel
theorem d_PK_feed_27 : decode b_PK_feed 27 = .ok (.aload_n 0, 1) := by decide +kernel
theorem d_PK_feed_28 : decode b_PK_feed 28 = .ok (.getfield 9, 3) := by decide +kernel
theorem d_PK_feed_31 : decode b_PK_feed 31 = .ok (.aload_n 0, 1) := by decide +kernel
theorem d_PK_feed_32 : decode b_PK_feed 32 = .ok (.getfield 13, 3) := by decide +kernel
theorem d_PK_feed_35 : decode b_PK_feed 35 = .ok (.invokestatic 100, 3) := by decide +kernel
theorem d_PK_feed_38 : decode b_PK_feed 38 = .ok (.iload_n 2, 1) := by decide +kernel
theorem d_PK_feed_39 : decode b_PK_feed 39 = .ok (.aload_n 0, 1) := by decide +kernel
theorem d_PK_feed_40 : decode b_PK_feed 40 = .ok (.getfield 9, 3) := by decide +kernel
theorem d_PK_feed_43 : decode b_PK_feed 43 = .ok (.aload_n 0, 1) := by decide +kernel
theorem d_PK_feed_44 : decode b_PK_feed 44 = .ok (.getfield 13, 3) := by decide +kernel
theorem d_PK_feed_47 : decode b_PK_feed 47 = .ok (.iconst 4, 1) := by decide +kernel
theorem d_PK_feed_48 : decode b_PK_feed 48 = .ok (.iadd, 1) := by decide +kernel
theorem d_PK_feed_49 : decode b_PK_feed 49 = .ok (.invokestatic 100, 3) := by decide +kernel
theorem d_PK_feed_52 : decode b_PK_feed 52 = .ok (.iload_n 3, 1) := by decide +kernel
theorem d_PK_feed_53 : decode b_PK_feed 53 = .ok (.aload_n 0, 1) := by decide +kernel
theorem d_PK_feed_54 : decode b_PK_feed 54 = .ok (.getfield 9, 3) := by decide +kernel
theorem d_PK_feed_57 : decode b_PK_feed 57 = .ok (.aload_n 0, 1) := by decide +kernel
theorem d_PK_feed_58 : decode b_PK_feed 58 = .ok (.getfield 13, 3) := by decide +kernel
theorem d_PK_feed_61 : decode b_PK_feed 61 = .ok (.bipush 8, 2) := by decide +kernel
theorem d_PK_feed_63 : decode b_PK_feed 63 = .ok (.iadd, 1) := by decide +kernel
theorem d_PK_feed_64 : decode b_PK_feed 64 = .ok (.invokestatic 100, 3) := by decide +kernel
theorem d_PK_feed_67 : decode b_PK_feed 67 = .ok (.iload 4, 2) := by decide +kernel
theorem d_PK_feed_69 : decode b_PK_feed 69 = .ok (.aload_n 0, 1) := by decide +kernel
theorem d_PK_feed_70 : decode b_PK_feed 70 = .ok (.getfield 9, 3) := by decide +kernel
theorem d_PK_feed_73 : decode b_PK_feed 73 = .ok (.aload_n 0, 1) := by decide +kernel
theorem d_PK_feed_74 : decode b_PK_feed 74 = .ok (.getfield 13, 3) := by decide +kernel
theorem d_PK_feed_77 : decode b_PK_feed 77 = .ok (.bipush 12, 2) := by decide +kernel
theorem d_PK_feed_79 : decode b_PK_feed 79 = .ok (.iadd, 1) := by decide +kernel
theorem d_PK_feed_80 : decode b_PK_feed 80 = .ok (.invokestatic 100, 3) := by decide +kernel
theorem d_PK_feed_83 : decode b_PK_feed 83 = .ok (.iload 5, 2) := by decide +kernel
theorem d_PK_feed_85 : decode b_PK_feed 85 = .ok (.aload_n 0, 1) := by decide +kernel
theorem d_PK_feed_86 : decode b_PK_feed 86 = .ok (.getfield 9, 3) := by decide +kernel
theorem d_PK_feed_89 : decode b_PK_feed 89 = .ok (.aload_n 0, 1) := by decide +kernel
theorem d_PK_feed_90 : decode b_PK_feed 90 = .ok (.getfield 13, 3) := by decide +kernel
theorem d_PK_feed_93 : decode b_PK_feed 93 = .ok (.bipush 16, 2) := by decide +kernel
theorem d_PK_feed_95 : decode b_PK_feed 95 = .ok (.iadd, 1) := by decide +kernel
theorem d_PK_feed_96 : decode b_PK_feed 96 = .ok (.invokestatic 100, 3) := by decide +kernel
theorem d_PK_feed_99 : decode b_PK_feed 99 = .ok (.aload_n 0, 1) := by decide +kernel
theorem d_PK_feed_100 : decode b_PK_feed 100 = .ok (.dup, 1) := by decide +kernel
theorem d_PK_feed_101 : decode b_PK_feed 101 = .ok (.getfield 13, 3) := by decide +kernel
theorem d_PK_feed_104 : decode b_PK_feed 104 = .ok (.bipush 20, 2) := by decide +kernel
theorem d_PK_feed_106 : decode b_PK_feed 106 = .ok (.iadd, 1) := by decide +kernel
theorem d_PK_feed_107 : decode b_PK_feed 107 = .ok (.putfield 13, 3) := by decide +kernel
theorem d_PK_feed_110 : decode b_PK_feed 110 = .ok (.aload_n 0, 1) := by decide +kernel
theorem d_PK_feed_111 : decode b_PK_feed 111 = .ok (.getfield 13, 3) := by decide +kernel
theorem d_PK_feed_114 : decode b_PK_feed 114 = .ok (.ireturn, 1) := by decide +kernel
theorem cd_PK_100 : CD "PrimeKeys" 100 y_Wo_put b_Wo_put 3 none 3 := ⟨tb_1 (List.mem_of_getElem? (i := 75) rfl) rfl, tb_1 (List.mem_of_getElem? (i := 6) (by decide +kernel)) rfl, tb_3 (List.mem_of_getElem? (i := 48) (by decide +kernel)) rfl, by decide +kernel⟩
theorem cd_PK_96 : CD "PrimeKeys" 96 y_PK_makeRoom b_PK_makeRoom 3 none 1 := ⟨tb_3 (List.mem_of_getElem? (i := 33) rfl) rfl, tb_1 (List.mem_of_getElem? (i := 1) (by decide +kernel)) rfl, tb_3 (List.mem_of_getElem? (i := 30) (by decide +kernel)) rfl, by decide +kernel⟩
theorem kw_in_PK_makeRoom : Cond.instanceMethod y_PK_makeRoom ∈ TB := tb_3 (List.mem_of_getElem? (i := 32) (by decide +kernel)) rfl
theorem kw_se_PK_makeRoom : Cond.selects "PrimeKeys" y_PK_makeRoom y_PK_makeRoom ∈ TB := tb_p (q := (y_PK_makeRoom, 17)) (by decide +kernel)
abbrev rm_PK_feed (bu : Nat × Nat) : Room := { frames := 6, cells := bu.1, slots := bu.2, locals := 81 }
def P_PK_feed (bu : Nat × Nat) (h : HP) (p0 : Nat) (p1 : Int32) (p2 : Int32) (p3 : Int32) (p4 : Int32) (p5 : Int32) : Option ((Nat ⊕ Int32) × HP) :=
  bnd (gI h p0 7 1) fun v1 =>
  if v1 + 20 ≤ 65536 then
  ob h p0 7 (
  bnd (P_PK_makeRoom bu h p0 20) fun h2 =>
  bnd (gR h2 p0 7 0) fun k3 =>
  bnd (gI h2 p0 7 1) fun v4 =>
  bnd (P_Wo_put h2 p1 k3 v4) fun h5 =>
  bnd (gR h5 p0 7 0) fun k6 =>
  bnd (gI h5 p0 7 1) fun v7 =>
  bnd (P_Wo_put h5 p2 k6 (v7 + 4)) fun h8 =>
  bnd (gR h8 p0 7 0) fun k9 =>
  bnd (gI h8 p0 7 1) fun v10 =>
  bnd (P_Wo_put h8 p3 k9 (v10 + 8)) fun h11 =>
  bnd (gR h11 p0 7 0) fun k12 =>
  bnd (gI h11 p0 7 1) fun v13 =>
  bnd (P_Wo_put h11 p4 k12 (v13 + 12)) fun h14 =>
  bnd (gR h14 p0 7 0) fun k15 =>
  bnd (gI h14 p0 7 1) fun v16 =>
  bnd (P_Wo_put h14 p5 k15 (v16 + 16)) fun h17 =>
  bnd (gI h17 p0 7 1) fun v18 =>
  bnd (pV h17 p0 7 1 (.int (v18 + 20))) fun h19 =>
  bnd (gI h19 p0 7 1) fun v20 =>
  some (.inr v20, h19))
  else
  gd (1 ≤ bu.1 ∧ 6 ≤ bu.2) (some (.inl 0, h))
set_option maxHeartbeats 4000000 in
set_option maxRecDepth 100000 in
theorem c_PK_feed {l : Launch} {h h' : HP} {p0 p1 p2 p3 p4 p5 : _} {r' : Int32} {bu : Nat × Nat} (hr : P_PK_feed bu h p0 p1 p2 p3 p4 p5 = some (.inr r', h')) : MP l y_PK_feed (Cond.code y_PK_feed b_PK_feed 6 (some .int) :: TB) (rm_PK_feed bu) h [.ref p0, .int p1, .int p2, .int p3, .int p4, .int p5] (some (.int r')) h' := by
  refine MP_intro (cc := b_PK_feed) (by decide) (Nat.le_of_ble_eq_true rfl) (fun x hl0 C T hin => ?_)
  unfold P_PK_feed at hr
  show GG x 0 0 h 0 [(0, .ref p0), (1, .int p1), (2, .int p2), (3, .int p3), (4, .int p4), (5, .int p5)] []
  refine g_aload_n C 0 rfl d_PK_feed_0 rfl ?_
  obtain ⟨v1, ev1, hr⟩ := of_bnd hr
  refine g_getI C fl_PK_13 ev1 d_PK_feed_1 ?_
  refine g_bipush (v := 20) C d_PK_feed_4 (by decide) ?_
  refine g_iadd C d_PK_feed_6 ?_
  refine g_ldc (v := 65536) C d_PK_feed_7 kw_91 ?_
  refine g_icmp_le (tgt := 20) C d_PK_feed_9 (by decide) (fun z => ?_) (fun z => ?_)
  · have hr := of_if z hr
    refine g_aload_n C 0 rfl d_PK_feed_20 rfl ?_
    refine g_bipush (v := 20) C d_PK_feed_21 (by decide) ?_
    obtain ⟨fsh2, hoh2, hr⟩ := of_ob hr
    obtain ⟨h2, eh2, hr⟩ := of_bnd hr
    refine g_callV (pa := [.int 20]) C hl0 (c_PK_makeRoom eh2) cd_PK_96 kw_in_PK_makeRoom kw_se_PK_makeRoom hoh2 rfl rfl ⟨Nat.le_of_ble_eq_true rfl, Nat.le_of_ble_eq_true rfl, show 0 + bu.1 ≤ bu.1 by omega, show 0 + bu.2 ≤ bu.2 by omega⟩ rfl rfl (Nat.le_of_ble_eq_true rfl) d_PK_feed_23 ?_
    refine g_iload_n C 1 rfl d_PK_feed_26 rfl ?_
    refine g_aload_n C 0 rfl d_PK_feed_27 rfl ?_
    obtain ⟨k3, ek3, hr⟩ := of_bnd hr
    refine g_getR C fl_PK_9 ek3 d_PK_feed_28 ?_
    refine g_aload_n C 0 rfl d_PK_feed_31 rfl ?_
    obtain ⟨v4, ev4, hr⟩ := of_bnd hr
    refine g_getI C fl_PK_13 ev4 d_PK_feed_32 ?_
    obtain ⟨h5, eh5, hr⟩ := of_bnd hr
    refine g_callS (pa := [.int p1, .ref k3, .int v4]) C hl0 (c_Wo_put eh5) cd_PK_100 kw_st_Wo_put ⟨Nat.le_of_ble_eq_true rfl, Nat.le_of_ble_eq_true rfl, show 0 + bu.1 + 0 ≤ bu.1 by omega, show 0 + bu.2 + 0 ≤ bu.2 by omega⟩ rfl rfl (Nat.le_of_ble_eq_true rfl) d_PK_feed_35 ?_
    refine g_iload_n C 2 rfl d_PK_feed_38 rfl ?_
    refine g_aload_n C 0 rfl d_PK_feed_39 rfl ?_
    obtain ⟨k6, ek6, hr⟩ := of_bnd hr
    refine g_getR C fl_PK_9 ek6 d_PK_feed_40 ?_
    refine g_aload_n C 0 rfl d_PK_feed_43 rfl ?_
    obtain ⟨v7, ev7, hr⟩ := of_bnd hr
    refine g_getI C fl_PK_13 ev7 d_PK_feed_44 ?_
    refine g_iconst (v := 4) C d_PK_feed_47 (by decide) ?_
    refine g_iadd C d_PK_feed_48 ?_
    obtain ⟨h8, eh8, hr⟩ := of_bnd hr
    refine g_callS (pa := [.int p2, .ref k6, .int (v7 + 4)]) C hl0 (c_Wo_put eh8) cd_PK_100 kw_st_Wo_put ⟨Nat.le_of_ble_eq_true rfl, Nat.le_of_ble_eq_true rfl, show 0 + bu.1 + 0 + 0 ≤ bu.1 by omega, show 0 + bu.2 + 0 + 0 ≤ bu.2 by omega⟩ rfl rfl (Nat.le_of_ble_eq_true rfl) d_PK_feed_49 ?_
    refine g_iload_n C 3 rfl d_PK_feed_52 rfl ?_
    refine g_aload_n C 0 rfl d_PK_feed_53 rfl ?_
    obtain ⟨k9, ek9, hr⟩ := of_bnd hr
    refine g_getR C fl_PK_9 ek9 d_PK_feed_54 ?_
    refine g_aload_n C 0 rfl d_PK_feed_57 rfl ?_
    obtain ⟨v10, ev10, hr⟩ := of_bnd hr
    refine g_getI C fl_PK_13 ev10 d_PK_feed_58 ?_
    refine g_bipush (v := 8) C d_PK_feed_61 (by decide) ?_
    refine g_iadd C d_PK_feed_63 ?_
    obtain ⟨h11, eh11, hr⟩ := of_bnd hr
    refine g_callS (pa := [.int p3, .ref k9, .int (v10 + 8)]) C hl0 (c_Wo_put eh11) cd_PK_100 kw_st_Wo_put ⟨Nat.le_of_ble_eq_true rfl, Nat.le_of_ble_eq_true rfl, show 0 + bu.1 + 0 + 0 + 0 ≤ bu.1 by omega, show 0 + bu.2 + 0 + 0 + 0 ≤ bu.2 by omega⟩ rfl rfl (Nat.le_of_ble_eq_true rfl) d_PK_feed_64 ?_
    refine g_iload C 4 rfl d_PK_feed_67 ?_
    refine g_aload_n C 0 rfl d_PK_feed_69 rfl ?_
    obtain ⟨k12, ek12, hr⟩ := of_bnd hr
    refine g_getR C fl_PK_9 ek12 d_PK_feed_70 ?_
    refine g_aload_n C 0 rfl d_PK_feed_73 rfl ?_
    obtain ⟨v13, ev13, hr⟩ := of_bnd hr
    refine g_getI C fl_PK_13 ev13 d_PK_feed_74 ?_
    refine g_bipush (v := 12) C d_PK_feed_77 (by decide) ?_
    refine g_iadd C d_PK_feed_79 ?_
    obtain ⟨h14, eh14, hr⟩ := of_bnd hr
    refine g_callS (pa := [.int p4, .ref k12, .int (v13 + 12)]) C hl0 (c_Wo_put eh14) cd_PK_100 kw_st_Wo_put ⟨Nat.le_of_ble_eq_true rfl, Nat.le_of_ble_eq_true rfl, show 0 + bu.1 + 0 + 0 + 0 + 0 ≤ bu.1 by omega, show 0 + bu.2 + 0 + 0 + 0 + 0 ≤ bu.2 by omega⟩ rfl rfl (Nat.le_of_ble_eq_true rfl) d_PK_feed_80 ?_
    refine g_iload C 5 rfl d_PK_feed_83 ?_
    refine g_aload_n C 0 rfl d_PK_feed_85 rfl ?_
    obtain ⟨k15, ek15, hr⟩ := of_bnd hr
    refine g_getR C fl_PK_9 ek15 d_PK_feed_86 ?_
    refine g_aload_n C 0 rfl d_PK_feed_89 rfl ?_
    obtain ⟨v16, ev16, hr⟩ := of_bnd hr
    refine g_getI C fl_PK_13 ev16 d_PK_feed_90 ?_
    refine g_bipush (v := 16) C d_PK_feed_93 (by decide) ?_
    refine g_iadd C d_PK_feed_95 ?_
    obtain ⟨h17, eh17, hr⟩ := of_bnd hr
    refine g_callS (pa := [.int p5, .ref k15, .int (v16 + 16)]) C hl0 (c_Wo_put eh17) cd_PK_100 kw_st_Wo_put ⟨Nat.le_of_ble_eq_true rfl, Nat.le_of_ble_eq_true rfl, show 0 + bu.1 + 0 + 0 + 0 + 0 + 0 ≤ bu.1 by omega, show 0 + bu.2 + 0 + 0 + 0 + 0 + 0 ≤ bu.2 by omega⟩ rfl rfl (Nat.le_of_ble_eq_true rfl) d_PK_feed_96 ?_
    refine g_aload_n C 0 rfl d_PK_feed_99 rfl ?_
    refine g_dup C d_PK_feed_100 rfl ?_
    obtain ⟨v18, ev18, hr⟩ := of_bnd hr
    refine g_getI C fl_PK_13 ev18 d_PK_feed_101 ?_
    refine g_bipush (v := 20) C d_PK_feed_104 (by decide) ?_
    refine g_iadd C d_PK_feed_106 ?_
    obtain ⟨h19, eh19, hr⟩ := of_bnd hr
    refine g_putI C fp_PK_13 eh19 d_PK_feed_107 ?_
    refine g_aload_n C 0 rfl d_PK_feed_110 rfl ?_
    obtain ⟨v20, ev20, hr⟩ := of_bnd hr
    refine g_getI C fl_PK_13 ev20 d_PK_feed_111 ?_
    cases hr
    exact g_ireturn C T rfl (show 0 + bu.1 + 0 + 0 + 0 + 0 + 0 ≤ bu.1 by omega) (show 0 + bu.2 + 0 + 0 + 0 + 0 + 0 ≤ bu.2 by omega) d_PK_feed_114
  · have hr := of_el z hr
    obtain ⟨-, hr⟩ := of_gd hr
    cases hr
set_option maxHeartbeats 4000000 in
set_option maxRecDepth 100000 in
theorem ct_PK_feed {l : Launch} (htr : l.stackTraces = false) {h h' : HP} {p0 p1 p2 p3 p4 p5 : _} {i' : Nat} {bu : Nat × Nat} (hr : P_PK_feed bu h p0 p1 p2 p3 p4 p5 = some (.inl i', h')) : MT l y_PK_feed (Cond.code y_PK_feed b_PK_feed 6 (some .int) :: TB) (rm_PK_feed bu) h [.ref p0, .int p1, .int p2, .int p3, .int p4, .int p5] i' h' := by
  refine MT_intro htr (cc := b_PK_feed) (by decide) (Nat.le_of_ble_eq_true rfl) (fun x hl0 C T => ?_)
  unfold P_PK_feed at hr
  show GG x 0 0 h 0 [(0, .ref p0), (1, .int p1), (2, .int p2), (3, .int p3), (4, .int p4), (5, .int p5)] []
  refine g_aload_n C 0 rfl d_PK_feed_0 rfl ?_
  obtain ⟨v1, ev1, hr⟩ := of_bnd hr
  refine g_getI C fl_PK_13 ev1 d_PK_feed_1 ?_
  refine g_bipush (v := 20) C d_PK_feed_4 (by decide) ?_
  refine g_iadd C d_PK_feed_6 ?_
  refine g_ldc (v := 65536) C d_PK_feed_7 kw_91 ?_
  refine g_icmp_le (tgt := 20) C d_PK_feed_9 (by decide) (fun z => ?_) (fun z => ?_)
  · have hr := of_if z hr
    refine g_aload_n C 0 rfl d_PK_feed_20 rfl ?_
    refine g_bipush (v := 20) C d_PK_feed_21 (by decide) ?_
    obtain ⟨fsh2, hoh2, hr⟩ := of_ob hr
    obtain ⟨h2, eh2, hr⟩ := of_bnd hr
    refine g_callV (pa := [.int 20]) C hl0 (c_PK_makeRoom eh2) cd_PK_96 kw_in_PK_makeRoom kw_se_PK_makeRoom hoh2 rfl rfl ⟨Nat.le_of_ble_eq_true rfl, Nat.le_of_ble_eq_true rfl, show 0 + bu.1 ≤ bu.1 by omega, show 0 + bu.2 ≤ bu.2 by omega⟩ rfl rfl (Nat.le_of_ble_eq_true rfl) d_PK_feed_23 ?_
    refine g_iload_n C 1 rfl d_PK_feed_26 rfl ?_
    refine g_aload_n C 0 rfl d_PK_feed_27 rfl ?_
    obtain ⟨k3, ek3, hr⟩ := of_bnd hr
    refine g_getR C fl_PK_9 ek3 d_PK_feed_28 ?_
    refine g_aload_n C 0 rfl d_PK_feed_31 rfl ?_
    obtain ⟨v4, ev4, hr⟩ := of_bnd hr
    refine g_getI C fl_PK_13 ev4 d_PK_feed_32 ?_
    obtain ⟨h5, eh5, hr⟩ := of_bnd hr
    refine g_callS (pa := [.int p1, .ref k3, .int v4]) C hl0 (c_Wo_put eh5) cd_PK_100 kw_st_Wo_put ⟨Nat.le_of_ble_eq_true rfl, Nat.le_of_ble_eq_true rfl, show 0 + bu.1 + 0 ≤ bu.1 by omega, show 0 + bu.2 + 0 ≤ bu.2 by omega⟩ rfl rfl (Nat.le_of_ble_eq_true rfl) d_PK_feed_35 ?_
    refine g_iload_n C 2 rfl d_PK_feed_38 rfl ?_
    refine g_aload_n C 0 rfl d_PK_feed_39 rfl ?_
    obtain ⟨k6, ek6, hr⟩ := of_bnd hr
    refine g_getR C fl_PK_9 ek6 d_PK_feed_40 ?_
    refine g_aload_n C 0 rfl d_PK_feed_43 rfl ?_
    obtain ⟨v7, ev7, hr⟩ := of_bnd hr
    refine g_getI C fl_PK_13 ev7 d_PK_feed_44 ?_
    refine g_iconst (v := 4) C d_PK_feed_47 (by decide) ?_
    refine g_iadd C d_PK_feed_48 ?_
    obtain ⟨h8, eh8, hr⟩ := of_bnd hr
    refine g_callS (pa := [.int p2, .ref k6, .int (v7 + 4)]) C hl0 (c_Wo_put eh8) cd_PK_100 kw_st_Wo_put ⟨Nat.le_of_ble_eq_true rfl, Nat.le_of_ble_eq_true rfl, show 0 + bu.1 + 0 + 0 ≤ bu.1 by omega, show 0 + bu.2 + 0 + 0 ≤ bu.2 by omega⟩ rfl rfl (Nat.le_of_ble_eq_true rfl) d_PK_feed_49 ?_
    refine g_iload_n C 3 rfl d_PK_feed_52 rfl ?_
    refine g_aload_n C 0 rfl d_PK_feed_53 rfl ?_
    obtain ⟨k9, ek9, hr⟩ := of_bnd hr
    refine g_getR C fl_PK_9 ek9 d_PK_feed_54 ?_
    refine g_aload_n C 0 rfl d_PK_feed_57 rfl ?_
    obtain ⟨v10, ev10, hr⟩ := of_bnd hr
    refine g_getI C fl_PK_13 ev10 d_PK_feed_58 ?_
    refine g_bipush (v := 8) C d_PK_feed_61 (by decide) ?_
    refine g_iadd C d_PK_feed_63 ?_
    obtain ⟨h11, eh11, hr⟩ := of_bnd hr
    refine g_callS (pa := [.int p3, .ref k9, .int (v10 + 8)]) C hl0 (c_Wo_put eh11) cd_PK_100 kw_st_Wo_put ⟨Nat.le_of_ble_eq_true rfl, Nat.le_of_ble_eq_true rfl, show 0 + bu.1 + 0 + 0 + 0 ≤ bu.1 by omega, show 0 + bu.2 + 0 + 0 + 0 ≤ bu.2 by omega⟩ rfl rfl (Nat.le_of_ble_eq_true rfl) d_PK_feed_64 ?_
    refine g_iload C 4 rfl d_PK_feed_67 ?_
    refine g_aload_n C 0 rfl d_PK_feed_69 rfl ?_
    obtain ⟨k12, ek12, hr⟩ := of_bnd hr
    refine g_getR C fl_PK_9 ek12 d_PK_feed_70 ?_
    refine g_aload_n C 0 rfl d_PK_feed_73 rfl ?_
    obtain ⟨v13, ev13, hr⟩ := of_bnd hr
    refine g_getI C fl_PK_13 ev13 d_PK_feed_74 ?_
    refine g_bipush (v := 12) C d_PK_feed_77 (by decide) ?_
    refine g_iadd C d_PK_feed_79 ?_
    obtain ⟨h14, eh14, hr⟩ := of_bnd hr
    refine g_callS (pa := [.int p4, .ref k12, .int (v13 + 12)]) C hl0 (c_Wo_put eh14) cd_PK_100 kw_st_Wo_put ⟨Nat.le_of_ble_eq_true rfl, Nat.le_of_ble_eq_true rfl, show 0 + bu.1 + 0 + 0 + 0 + 0 ≤ bu.1 by omega, show 0 + bu.2 + 0 + 0 + 0 + 0 ≤ bu.2 by omega⟩ rfl rfl (Nat.le_of_ble_eq_true rfl) d_PK_feed_80 ?_
    refine g_iload C 5 rfl d_PK_feed_83 ?_
    refine g_aload_n C 0 rfl d_PK_feed_85 rfl ?_
    obtain ⟨k15, ek15, hr⟩ := of_bnd hr
    refine g_getR C fl_PK_9 ek15 d_PK_feed_86 ?_
    refine g_aload_n C 0 rfl d_PK_feed_89 rfl ?_
    obtain ⟨v16, ev16, hr⟩ := of_bnd hr
    refine g_getI C fl_PK_13 ev16 d_PK_feed_90 ?_
    refine g_bipush (v := 16) C d_PK_feed_93 (by decide) ?_
    refine g_iadd C d_PK_feed_95 ?_
    obtain ⟨h17, eh17, hr⟩ := of_bnd hr
    refine g_callS (pa := [.int p5, .ref k15, .int (v16 + 16)]) C hl0 (c_Wo_put eh17) cd_PK_100 kw_st_Wo_put ⟨Nat.le_of_ble_eq_true rfl, Nat.le_of_ble_eq_true rfl, show 0 + bu.1 + 0 + 0 + 0 + 0 + 0 ≤ bu.1 by omega, show 0 + bu.2 + 0 + 0 + 0 + 0 + 0 ≤ bu.2 by omega⟩ rfl rfl (Nat.le_of_ble_eq_true rfl) d_PK_feed_96 ?_
    refine g_aload_n C 0 rfl d_PK_feed_99 rfl ?_
    refine g_dup C d_PK_feed_100 rfl ?_
    obtain ⟨v18, ev18, hr⟩ := of_bnd hr
    refine g_getI C fl_PK_13 ev18 d_PK_feed_101 ?_
    refine g_bipush (v := 20) C d_PK_feed_104 (by decide) ?_
    refine g_iadd C d_PK_feed_106 ?_
    obtain ⟨h19, eh19, hr⟩ := of_bnd hr
    refine g_putI C fp_PK_13 eh19 d_PK_feed_107 ?_
    refine g_aload_n C 0 rfl d_PK_feed_110 rfl ?_
    obtain ⟨v20, ev20, hr⟩ := of_bnd hr
    refine g_getI C fl_PK_13 ev20 d_PK_feed_111 ?_
    cases hr
  · have hr := of_el z hr
    obtain ⟨⟨hz1, hz2⟩, hr⟩ := of_gd hr
    cases hr
    exact g_throw C T td_PK_93 (show 0 + 1 ≤ bu.1 by omega) (show 0 + 6 ≤ bu.2 by omega) (Nat.le_of_ble_eq_true rfl) (Nat.le_of_ble_eq_true rfl) d_PK_feed_12 d_PK_feed_15 d_PK_feed_16 d_PK_feed_19
abbrev b_PK_back : ByteArray := prog_1_method_10_code
abbrev y_PK_back : MethodName := ⟨"PrimeKeys", "back", "(II)I"⟩
theorem d_PK_back_0 : decode b_PK_back 0 = .ok (.iload_n 1, 1) := by decide +kernel
theorem d_PK_back_1 : decode b_PK_back 1 = .ok (.iconst (-1), 1) := by decide +kernel
theorem d_PK_back_2 : decode b_PK_back 2 = .ok (.if_icmp .lt 11, 3) := by decide +kernel
theorem d_PK_back_5 : decode b_PK_back 5 = .ok (.iload_n 1, 1) := by decide +kernel
theorem d_PK_back_6 : decode b_PK_back 6 = .ok (.aload_n 0, 1) := by decide +kernel
theorem d_PK_back_7 : decode b_PK_back 7 = .ok (.getfield 36, 3) := by decide +kernel
theorem d_PK_back_10 : decode b_PK_back 10 = .ok (.if_icmp .lt 11, 3) := by decide +kernel
theorem d_PK_back_13 : decode b_PK_back 13 = .ok (.new 163, 3) := by decide +kernel
theorem d_PK_back_16 : decode b_PK_back 16 = .ok (.dup, 1) := by decide +kernel
theorem d_PK_back_17 : decode b_PK_back 17 = .ok (.invokespecial 165, 3) := by decide +kernel
theorem d_PK_back_20 : decode b_PK_back 20 = .ok (.athrow, 1) := by decide +kernel
theorem d_PK_back_21 : decode b_PK_back 21 = .ok (.aload_n 0, 1) := by decide +kernel
theorem d_PK_back_22 : decode b_PK_back 22 = .ok (.getfield 13, 3) := by decide +kernel
theorem d_PK_back_25 : decode b_PK_back 25 = .ok (.aload_n 0, 1) := by decide +kernel
theorem d_PK_back_26 : decode b_PK_back 26 = .ok (.getfield 36, 3) := by decide +kernel
theorem d_PK_back_29 : decode b_PK_back 29 = .ok (.iadd, 1) := by decide +kernel
theorem d_PK_back_30 : decode b_PK_back 30 = .ok (.ldc 92, 2) := by decide +kernel
theorem d_PK_back_32 : decode b_PK_back 32 = .ok (.if_icmp .le 11, 3) := by decide +kernel
theorem d_PK_back_35 : decode b_PK_back 35 = .ok (.new 93, 3) := by decide +kernel
theorem d_PK_back_38 : decode b_PK_back 38 = .ok (.dup, 1) := by decide +kernel
theorem d_PK_back_39 : decode b_PK_back 39 = .ok (.invokespecial 95, 3) := by decide +kernel
theorem d_PK_back_42 : decode b_PK_back 42 = .ok (.athrow, 1) := by decide +kernel
theorem d_PK_back_43 : decode b_PK_back 43 = .ok (.aload_n 0, 1) := by decide +kernel
theorem d_PK_back_44 : decode b_PK_back 44 = .ok (.aload_n 0, 1) := by decide +kernel
theorem d_PK_back_45 : decode b_PK_back 45 = .ok (.getfield 36, 3) := by decide +kernel
theorem d_PK_back_48 : decode b_PK_back 48 = .ok (.invokevirtual 96, 3) := by decide +kernel
theorem d_PK_back_51 : decode b_PK_back 51 = .ok (.aload_n 0, 1) := by decide +kernel
theorem d_PK_back_52 : decode b_PK_back 52 = .ok (.getfield 33, 3) := by decide +kernel
theorem d_PK_back_55 : decode b_PK_back 55 = .ok (.iconst 0, 1) := by decide +kernel
theorem d_PK_back_56 : decode b_PK_back 56 = .ok (.aload_n 0, 1) := by decide +kernel
theorem d_PK_back_57 : decode b_PK_back 57 = .ok (.getfield 9, 3) := by decide +kernel
theorem d_PK_back_60 : decode b_PK_back 60 = .ok (.aload_n 0, 1) := by decide +kernel
theorem d_PK_back_61 : decode b_PK_back 61 = .ok (.getfield 13, 3) := by decide +kernel
theorem d_PK_back_64 : decode b_PK_back 64 = .ok (.aload_n 0, 1) := by decide +kernel
theorem d_PK_back_65 : decode b_PK_back 65 = .ok (.getfield 36, 3) := by decide +kernel
theorem d_PK_back_68 : decode b_PK_back 68 = .ok (.invokestatic 113, 3) := by decide +kernel
theorem d_PK_back_71 : decode b_PK_back 71 = .ok (.iload_n 1, 1) := by decide +kernel
theorem d_PK_back_72 : decode b_PK_back 72 = .ok (.ifCond .lt 23, 3) := by decide +kernel
theorem d_PK_back_75 : decode b_PK_back 75 = .ok (.aload_n 0, 1) := by decide +kernel
theorem d_PK_back_76 : decode b_PK_back 76 = .ok (.getfield 9, 3) := by decide +kernel
theorem d_PK_back_79 : decode b_PK_back 79 = .ok (.aload_n 0, 1) := by decide +kernel
theorem d_PK_back_80 : decode b_PK_back 80 = .ok (.getfield 13, 3) := by decide +kernel
theorem d_PK_back_83 : decode b_PK_back 83 = .ok (.iload_n 1, 1) := by decide +kernel
theorem d_PK_back_84 : decode b_PK_back 84 = .ok (.iadd, 1) := by decide +kernel
theorem d_PK_back_85 : decode b_PK_back 85 = .ok (.aload_n 0, 1) := by decide +kernel
theorem d_PK_back_86 : decode b_PK_back 86 = .ok (.getfield 33, 3) := by decide +kernel
theorem d_PK_back_89 : decode b_PK_back 89 = .ok (.iload_n 1, 1) := by decide +kernel
theorem d_PK_back_90 : decode b_PK_back 90 = .ok (.baload, 1) := by decide +kernel
theorem d_PK_back_91 : decode b_PK_back 91 = .ok (.iload_n 2, 1) := by decide +kernel
theorem d_PK_back_92 : decode b_PK_back 92 = .ok (.ixor, 1) := by decide +kernel
theorem d_PK_back_93 : decode b_PK_back 93 = .ok (.i2b, 1) := by decide +kernel
theorem d_PK_back_94 : decode b_PK_back 94 = .ok (.bastore, 1) := by decide +kernel
theorem d_PK_back_95 : decode b_PK_back 95 = .ok (.aload_n 0, 1) := by decide +kernel
theorem d_PK_back_96 : decode b_PK_back 96 = .ok (.dup, 1) := by decide +kernel
theorem d_PK_back_97 : decode b_PK_back 97 = .ok (.getfield 13, 3) := by decide +kernel
theorem d_PK_back_100 : decode b_PK_back 100 = .ok (.aload_n 0, 1) := by decide +kernel
theorem d_PK_back_101 : decode b_PK_back 101 = .ok (.getfield 36, 3) := by decide +kernel
theorem d_PK_back_104 : decode b_PK_back 104 = .ok (.iadd, 1) := by decide +kernel
theorem d_PK_back_105 : decode b_PK_back 105 = .ok (.putfield 13, 3) := by decide +kernel
theorem d_PK_back_108 : decode b_PK_back 108 = .ok (.aload_n 0, 1) := by decide +kernel
theorem d_PK_back_109 : decode b_PK_back 109 = .ok (.getfield 13, 3) := by decide +kernel
theorem d_PK_back_112 : decode b_PK_back 112 = .ok (.ireturn, 1) := by decide +kernel
abbrev rm_PK_back (bu : Nat × Nat) : Room := { frames := 6, cells := bu.1, slots := bu.2, locals := 81 }
def B_PK_back_13 (bu : Nat × Nat) (h : HP) : Option ((Nat ⊕ Int32) × HP) :=
  gd (1 ≤ bu.1 ∧ 6 ≤ bu.2) (some (.inl 3, h))
set_option maxHeartbeats 4000000 in
set_option maxRecDepth 100000 in
theorem bk_PK_back_13 {l : Launch} {x : CX} {h0 h' : HP} {r' : Int32} {bu : Nat × Nat} (C : EV x b_PK_back "PrimeKeys" 3 (rm_PK_back bu)) (T : CT x (some .int) (rm_PK_back bu) h0 (some (.int r')) h') (hl0 : x.1.2.1 = l) (h : HP) (hr : B_PK_back_13 bu h = some (.inr r', h')) : GG x 0 0 h 13 [] [] := by
  unfold B_PK_back_13 at hr
  obtain ⟨-, hr⟩ := of_gd hr
  cases hr
def B_PK_back_95 (bu : Nat × Nat) (h : HP) (a0 : Nat) : Option ((Nat ⊕ Int32) × HP) :=
  bnd (gI h a0 7 1) fun v11 =>
  bnd (gI h a0 7 7) fun v12 =>
  bnd (pV h a0 7 1 (.int (v11 + v12))) fun h13 =>
  bnd (gI h13 a0 7 1) fun v14 =>
  some (.inr v14, h13)
set_option maxHeartbeats 4000000 in
set_option maxRecDepth 100000 in
theorem bk_PK_back_95 {l : Launch} {x : CX} {h0 h' : HP} {r' : Int32} {bu : Nat × Nat} (C : EV x b_PK_back "PrimeKeys" 3 (rm_PK_back bu)) (T : CT x (some .int) (rm_PK_back bu) h0 (some (.int r')) h') (hl0 : x.1.2.1 = l) (h : HP) (a0 : Nat) (hr : B_PK_back_95 bu h a0 = some (.inr r', h')) : GG x (0 + bu.1) (0 + bu.2) h 95 [(0, .ref a0)] [] := by
  unfold B_PK_back_95 at hr
  refine g_aload_n C 0 rfl d_PK_back_95 rfl ?_
  refine g_dup C d_PK_back_96 rfl ?_
  obtain ⟨v11, ev11, hr⟩ := of_bnd hr
  refine g_getI C fl_PK_13 ev11 d_PK_back_97 ?_
  refine g_aload_n C 0 rfl d_PK_back_100 rfl ?_
  obtain ⟨v12, ev12, hr⟩ := of_bnd hr
  refine g_getI C fl_PK_36 ev12 d_PK_back_101 ?_
  refine g_iadd C d_PK_back_104 ?_
  obtain ⟨h13, eh13, hr⟩ := of_bnd hr
  refine g_putI C fp_PK_13 eh13 d_PK_back_105 ?_
  refine g_aload_n C 0 rfl d_PK_back_108 rfl ?_
  obtain ⟨v14, ev14, hr⟩ := of_bnd hr
  refine g_getI C fl_PK_13 ev14 d_PK_back_109 ?_
  cases hr
  exact g_ireturn C T rfl (show 0 + bu.1 ≤ bu.1 by omega) (show 0 + bu.2 ≤ bu.2 by omega) d_PK_back_112
def P_PK_back (bu : Nat × Nat) (h : HP) (p0 : Nat) (p1 : Int32) (p2 : Int32) : Option ((Nat ⊕ Int32) × HP) :=
  if p1 < (-1) then
  B_PK_back_13 bu h
  else
  bnd (gI h p0 7 7) fun v1 =>
  if p1 < v1 then
  bnd (gI h p0 7 1) fun v2 =>
  bnd (gI h p0 7 7) fun v3 =>
  if v2 + v3 ≤ 65536 then
  bnd (gI h p0 7 7) fun v4 =>
  ob h p0 7 (
  bnd (P_PK_makeRoom bu h p0 v4) fun h5 =>
  bnd (gR h5 p0 7 6) fun k6 =>
  bnd (gR h5 p0 7 0) fun k7 =>
  bnd (gI h5 p0 7 1) fun v8 =>
  bnd (gI h5 p0 7 7) fun v9 =>
  bnd (cpB h5 k6 0 k7 v8 v9) fun h10 =>
  if p1 < 0 then
  B_PK_back_95 bu h10 p0
  else
  bnd (gR h10 p0 7 0) fun k15 =>
  bnd (gI h10 p0 7 1) fun v16 =>
  bnd (gR h10 p0 7 6) fun k17 =>
  bnd (ldB h10 k17 p1) fun v18 =>
  bnd (stB h10 k15 (v16 + p1) ((Int32.toInt8 (v18 ^^^ p2)).toInt32)) fun h19 =>
  B_PK_back_95 bu h19 p0)
  else
  gd (1 ≤ bu.1 ∧ 6 ≤ bu.2) (some (.inl 0, h))
  else
  B_PK_back_13 bu h
set_option maxHeartbeats 4000000 in
set_option maxRecDepth 100000 in
theorem c_PK_back {l : Launch} {h h' : HP} {p0 p1 p2 : _} {r' : Int32} {bu : Nat × Nat} (hr : P_PK_back bu h p0 p1 p2 = some (.inr r', h')) : MP l y_PK_back (Cond.code y_PK_back b_PK_back 3 (some .int) :: TB) (rm_PK_back bu) h [.ref p0, .int p1, .int p2] (some (.int r')) h' := by
  refine MP_intro (cc := b_PK_back) (by decide) (Nat.le_of_ble_eq_true rfl) (fun x hl0 C T hin => ?_)
  unfold P_PK_back at hr
  show GG x 0 0 h 0 [(0, .ref p0), (1, .int p1), (2, .int p2)] []
  refine g_iload_n C 1 rfl d_PK_back_0 rfl ?_
  refine g_iconst (v := (-1)) C d_PK_back_1 (by decide) ?_
  refine g_icmp_lt (tgt := 13) C d_PK_back_2 (by decide) (fun z => ?_) (fun z => ?_)
  · have hr := of_if z hr
    refine g_lv [] rfl ?_
    exact bk_PK_back_13 C T hl0 h hr
  · have hr := of_el z hr
    refine g_iload_n C 1 rfl d_PK_back_5 rfl ?_
    refine g_aload_n C 0 rfl d_PK_back_6 rfl ?_
    obtain ⟨v1, ev1, hr⟩ := of_bnd hr
    refine g_getI C fl_PK_36 ev1 d_PK_back_7 ?_
    refine g_icmp_lt (tgt := 21) C d_PK_back_10 (by decide) (fun z => ?_) (fun z => ?_)
    · have hr := of_if z hr
      refine g_aload_n C 0 rfl d_PK_back_21 rfl ?_
      obtain ⟨v2, ev2, hr⟩ := of_bnd hr
      refine g_getI C fl_PK_13 ev2 d_PK_back_22 ?_
      refine g_aload_n C 0 rfl d_PK_back_25 rfl ?_
      obtain ⟨v3, ev3, hr⟩ := of_bnd hr
      refine g_getI C fl_PK_36 ev3 d_PK_back_26 ?_
      refine g_iadd C d_PK_back_29 ?_
      refine g_ldc (v := 65536) C d_PK_back_30 kw_91 ?_
      refine g_icmp_le (tgt := 43) C d_PK_back_32 (by decide) (fun z => ?_) (fun z => ?_)
      · have hr := of_if z hr
        refine g_aload_n C 0 rfl d_PK_back_43 rfl ?_
        refine g_aload_n C 0 rfl d_PK_back_44 rfl ?_
        obtain ⟨v4, ev4, hr⟩ := of_bnd hr
        refine g_getI C fl_PK_36 ev4 d_PK_back_45 ?_
        obtain ⟨fsh5, hoh5, hr⟩ := of_ob hr
        obtain ⟨h5, eh5, hr⟩ := of_bnd hr
        refine g_callV (pa := [.int v4]) C hl0 (c_PK_makeRoom eh5) cd_PK_96 kw_in_PK_makeRoom kw_se_PK_makeRoom hoh5 rfl rfl ⟨Nat.le_of_ble_eq_true rfl, Nat.le_of_ble_eq_true rfl, show 0 + bu.1 ≤ bu.1 by omega, show 0 + bu.2 ≤ bu.2 by omega⟩ rfl rfl (Nat.le_of_ble_eq_true rfl) d_PK_back_48 ?_
        refine g_aload_n C 0 rfl d_PK_back_51 rfl ?_
        obtain ⟨k6, ek6, hr⟩ := of_bnd hr
        refine g_getR C fl_PK_33 ek6 d_PK_back_52 ?_
        refine g_iconst (v := 0) C d_PK_back_55 (by decide) ?_
        refine g_aload_n C 0 rfl d_PK_back_56 rfl ?_
        obtain ⟨k7, ek7, hr⟩ := of_bnd hr
        refine g_getR C fl_PK_9 ek7 d_PK_back_57 ?_
        refine g_aload_n C 0 rfl d_PK_back_60 rfl ?_
        obtain ⟨v8, ev8, hr⟩ := of_bnd hr
        refine g_getI C fl_PK_13 ev8 d_PK_back_61 ?_
        refine g_aload_n C 0 rfl d_PK_back_64 rfl ?_
        obtain ⟨v9, ev9, hr⟩ := of_bnd hr
        refine g_getI C fl_PK_36 ev9 d_PK_back_65 ?_
        obtain ⟨h10, eh10, hr⟩ := of_bnd hr
        refine g_copyB C eh10 kw_89 (Nat.le_of_ble_eq_true rfl) (Nat.le_of_ble_eq_true rfl) d_PK_back_68 ?_
        refine g_iload_n C 1 rfl d_PK_back_71 rfl ?_
        refine g_if_lt (tgt := 95) C d_PK_back_72 (by decide) (fun z => ?_) (fun z => ?_)
        · have hr := of_if z hr
          refine g_lv [0] rfl ?_
          exact bk_PK_back_95 C T hl0 h10 p0 hr
        · have hr := of_el z hr
          refine g_aload_n C 0 rfl d_PK_back_75 rfl ?_
          obtain ⟨k15, ek15, hr⟩ := of_bnd hr
          refine g_getR C fl_PK_9 ek15 d_PK_back_76 ?_
          refine g_aload_n C 0 rfl d_PK_back_79 rfl ?_
          obtain ⟨v16, ev16, hr⟩ := of_bnd hr
          refine g_getI C fl_PK_13 ev16 d_PK_back_80 ?_
          refine g_iload_n C 1 rfl d_PK_back_83 rfl ?_
          refine g_iadd C d_PK_back_84 ?_
          refine g_aload_n C 0 rfl d_PK_back_85 rfl ?_
          obtain ⟨k17, ek17, hr⟩ := of_bnd hr
          refine g_getR C fl_PK_33 ek17 d_PK_back_86 ?_
          refine g_iload_n C 1 rfl d_PK_back_89 rfl ?_
          obtain ⟨v18, ev18, hr⟩ := of_bnd hr
          refine g_baload C ev18 d_PK_back_90 ?_
          refine g_iload_n C 2 rfl d_PK_back_91 rfl ?_
          refine g_ixor C d_PK_back_92 ?_
          refine g_i2b C d_PK_back_93 ?_
          obtain ⟨h19, eh19, hr⟩ := of_bnd hr
          refine g_bastore C eh19 d_PK_back_94 ?_
          refine g_lv [0] rfl ?_
          exact bk_PK_back_95 C T hl0 h19 p0 hr
      · have hr := of_el z hr
        obtain ⟨-, hr⟩ := of_gd hr
        cases hr
    · have hr := of_el z hr
      refine g_lv [] rfl ?_
      exact bk_PK_back_13 C T hl0 h hr
set_option maxHeartbeats 4000000 in
set_option maxRecDepth 100000 in
theorem bkt_PK_back_13 {l : Launch} {x : CX} {h0 h' : HP} {i' : Nat} {bu : Nat × Nat} (C : EV x b_PK_back "PrimeKeys" 3 (rm_PK_back bu)) (T : CTT x (rm_PK_back bu) h0 i' h') (hl0 : x.1.2.1 = l) (h : HP) (hr : B_PK_back_13 bu h = some (.inl i', h')) : GG x 0 0 h 13 [] [] := by
  unfold B_PK_back_13 at hr
  obtain ⟨⟨hz1, hz2⟩, hr⟩ := of_gd hr
  cases hr
  exact g_throw C T td_PK_163 (show 0 + 1 ≤ bu.1 by omega) (show 0 + 6 ≤ bu.2 by omega) (Nat.le_of_ble_eq_true rfl) (Nat.le_of_ble_eq_true rfl) d_PK_back_13 d_PK_back_16 d_PK_back_17 d_PK_back_20
set_option maxHeartbeats 4000000 in
set_option maxRecDepth 100000 in
theorem bkt_PK_back_95 {l : Launch} {x : CX} {h0 h' : HP} {i' : Nat} {bu : Nat × Nat} (C : EV x b_PK_back "PrimeKeys" 3 (rm_PK_back bu)) (T : CTT x (rm_PK_back bu) h0 i' h') (hl0 : x.1.2.1 = l) (h : HP) (a0 : Nat) (hr : B_PK_back_95 bu h a0 = some (.inl i', h')) : GG x (0 + bu.1) (0 + bu.2) h 95 [(0, .ref a0)] [] := by
  unfold B_PK_back_95 at hr
  refine g_aload_n C 0 rfl d_PK_back_95 rfl ?_
  refine g_dup C d_PK_back_96 rfl ?_
  obtain ⟨v11, ev11, hr⟩ := of_bnd hr
  refine g_getI C fl_PK_13 ev11 d_PK_back_97 ?_
  refine g_aload_n C 0 rfl d_PK_back_100 rfl ?_
  obtain ⟨v12, ev12, hr⟩ := of_bnd hr
  refine g_getI C fl_PK_36 ev12 d_PK_back_101 ?_
  refine g_iadd C d_PK_back_104 ?_
  obtain ⟨h13, eh13, hr⟩ := of_bnd hr
  refine g_putI C fp_PK_13 eh13 d_PK_back_105 ?_
  refine g_aload_n C 0 rfl d_PK_back_108 rfl ?_
  obtain ⟨v14, ev14, hr⟩ := of_bnd hr
  refine g_getI C fl_PK_13 ev14 d_PK_back_109 ?_
  cases hr
set_option maxHeartbeats 4000000 in
set_option maxRecDepth 100000 in
theorem ct_PK_back {l : Launch} (htr : l.stackTraces = false) {h h' : HP} {p0 p1 p2 : _} {i' : Nat} {bu : Nat × Nat} (hr : P_PK_back bu h p0 p1 p2 = some (.inl i', h')) : MT l y_PK_back (Cond.code y_PK_back b_PK_back 3 (some .int) :: TB) (rm_PK_back bu) h [.ref p0, .int p1, .int p2] i' h' := by
  refine MT_intro htr (cc := b_PK_back) (by decide) (Nat.le_of_ble_eq_true rfl) (fun x hl0 C T => ?_)
  unfold P_PK_back at hr
  show GG x 0 0 h 0 [(0, .ref p0), (1, .int p1), (2, .int p2)] []
  refine g_iload_n C 1 rfl d_PK_back_0 rfl ?_
  refine g_iconst (v := (-1)) C d_PK_back_1 (by decide) ?_
  refine g_icmp_lt (tgt := 13) C d_PK_back_2 (by decide) (fun z => ?_) (fun z => ?_)
  · have hr := of_if z hr
    refine g_lv [] rfl ?_
    exact bkt_PK_back_13 C T hl0 h hr
  · have hr := of_el z hr
    refine g_iload_n C 1 rfl d_PK_back_5 rfl ?_
    refine g_aload_n C 0 rfl d_PK_back_6 rfl ?_
    obtain ⟨v1, ev1, hr⟩ := of_bnd hr
    refine g_getI C fl_PK_36 ev1 d_PK_back_7 ?_
    refine g_icmp_lt (tgt := 21) C d_PK_back_10 (by decide) (fun z => ?_) (fun z => ?_)
    · have hr := of_if z hr
      refine g_aload_n C 0 rfl d_PK_back_21 rfl ?_
      obtain ⟨v2, ev2, hr⟩ := of_bnd hr
      refine g_getI C fl_PK_13 ev2 d_PK_back_22 ?_
      refine g_aload_n C 0 rfl d_PK_back_25 rfl ?_
      obtain ⟨v3, ev3, hr⟩ := of_bnd hr
      refine g_getI C fl_PK_36 ev3 d_PK_back_26 ?_
      refine g_iadd C d_PK_back_29 ?_
      refine g_ldc (v := 65536) C d_PK_back_30 kw_91 ?_
      refine g_icmp_le (tgt := 43) C d_PK_back_32 (by decide) (fun z => ?_) (fun z => ?_)
      · have hr := of_if z hr
        refine g_aload_n C 0 rfl d_PK_back_43 rfl ?_
        refine g_aload_n C 0 rfl d_PK_back_44 rfl ?_
        obtain ⟨v4, ev4, hr⟩ := of_bnd hr
        refine g_getI C fl_PK_36 ev4 d_PK_back_45 ?_
        obtain ⟨fsh5, hoh5, hr⟩ := of_ob hr
        obtain ⟨h5, eh5, hr⟩ := of_bnd hr
        refine g_callV (pa := [.int v4]) C hl0 (c_PK_makeRoom eh5) cd_PK_96 kw_in_PK_makeRoom kw_se_PK_makeRoom hoh5 rfl rfl ⟨Nat.le_of_ble_eq_true rfl, Nat.le_of_ble_eq_true rfl, show 0 + bu.1 ≤ bu.1 by omega, show 0 + bu.2 ≤ bu.2 by omega⟩ rfl rfl (Nat.le_of_ble_eq_true rfl) d_PK_back_48 ?_
        refine g_aload_n C 0 rfl d_PK_back_51 rfl ?_
        obtain ⟨k6, ek6, hr⟩ := of_bnd hr
        refine g_getR C fl_PK_33 ek6 d_PK_back_52 ?_
        refine g_iconst (v := 0) C d_PK_back_55 (by decide) ?_
        refine g_aload_n C 0 rfl d_PK_back_56 rfl ?_
        obtain ⟨k7, ek7, hr⟩ := of_bnd hr
        refine g_getR C fl_PK_9 ek7 d_PK_back_57 ?_
        refine g_aload_n C 0 rfl d_PK_back_60 rfl ?_
        obtain ⟨v8, ev8, hr⟩ := of_bnd hr
        refine g_getI C fl_PK_13 ev8 d_PK_back_61 ?_
        refine g_aload_n C 0 rfl d_PK_back_64 rfl ?_
        obtain ⟨v9, ev9, hr⟩ := of_bnd hr
        refine g_getI C fl_PK_36 ev9 d_PK_back_65 ?_
        obtain ⟨h10, eh10, hr⟩ := of_bnd hr
        refine g_copyB C eh10 kw_89 (Nat.le_of_ble_eq_true rfl) (Nat.le_of_ble_eq_true rfl) d_PK_back_68 ?_
        refine g_iload_n C 1 rfl d_PK_back_71 rfl ?_
        refine g_if_lt (tgt := 95) C d_PK_back_72 (by decide) (fun z => ?_) (fun z => ?_)
        · have hr := of_if z hr
          refine g_lv [0] rfl ?_
          exact bkt_PK_back_95 C T hl0 h10 p0 hr
        · have hr := of_el z hr
          refine g_aload_n C 0 rfl d_PK_back_75 rfl ?_
          obtain ⟨k15, ek15, hr⟩ := of_bnd hr
          refine g_getR C fl_PK_9 ek15 d_PK_back_76 ?_
          refine g_aload_n C 0 rfl d_PK_back_79 rfl ?_
          obtain ⟨v16, ev16, hr⟩ := of_bnd hr
          refine g_getI C fl_PK_13 ev16 d_PK_back_80 ?_
          refine g_iload_n C 1 rfl d_PK_back_83 rfl ?_
          refine g_iadd C d_PK_back_84 ?_
          refine g_aload_n C 0 rfl d_PK_back_85 rfl ?_
          obtain ⟨k17, ek17, hr⟩ := of_bnd hr
          refine g_getR C fl_PK_33 ek17 d_PK_back_86 ?_
          refine g_iload_n C 1 rfl d_PK_back_89 rfl ?_
          obtain ⟨v18, ev18, hr⟩ := of_bnd hr
          refine g_baload C ev18 d_PK_back_90 ?_
          refine g_iload_n C 2 rfl d_PK_back_91 rfl ?_
          refine g_ixor C d_PK_back_92 ?_
          refine g_i2b C d_PK_back_93 ?_
          obtain ⟨h19, eh19, hr⟩ := of_bnd hr
          refine g_bastore C eh19 d_PK_back_94 ?_
          refine g_lv [0] rfl ?_
          exact bkt_PK_back_95 C T hl0 h19 p0 hr
      · have hr := of_el z hr
        obtain ⟨⟨hz1, hz2⟩, hr⟩ := of_gd hr
        cases hr
        exact g_throw C T td_PK_93 (show 0 + 1 ≤ bu.1 by omega) (show 0 + 6 ≤ bu.2 by omega) (Nat.le_of_ble_eq_true rfl) (Nat.le_of_ble_eq_true rfl) d_PK_back_35 d_PK_back_38 d_PK_back_39 d_PK_back_42
    · have hr := of_el z hr
      refine g_lv [] rfl ?_
      exact bkt_PK_back_13 C T hl0 h hr
