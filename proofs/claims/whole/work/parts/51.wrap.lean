/-! a static call of a method with an exception table -/
abbrev CDW (own : String) (idx : Nat) (y : MethodName) (bytes : ByteArray) (maxL : Nat) (ret : Option FieldType) (hh : List (Nat × Nat × Nat × Nat)) (n : Nat) : Prop :=
  Cond.codeWith y bytes maxL ret hh ∈ TB ∧ Cond.initialized y.cls ∈ TB ∧ Cond.methodLink own idx y ∈ TB ∧ (y.cls ≠ "java/lang/invoke/MethodHandle" ∧ y.cls ≠ "java/lang/invoke/VarHandle" ∧ (parseMethodDescriptor y.desc).map (fun d => d.parameters.length) = some n)
theorem good_consW {y : MethodName} {bytes : ByteArray} {maxL : Nat} {ret : Option FieldType} {hh : List (Nat × Nat × Nat × Nat)} (hc : Cond.codeWith y bytes maxL ret hh ∈ TB) : GoodIn TB (Cond.codeWith y bytes maxL ret hh :: TB) := by
  intro w hw
  rcases List.mem_cons.mp hw with z | z
  · rw [z]; exact goodTB _ hc
  · exact goodTB _ z
section GY
variable {x : CX} {cc : ByteArray} {own : String} {N : Nat} {rm : Room} {cells slots pc : Nat} {h h' : HP} {lv lv' : List (Nat × Value)} {st : List Value}
theorem g_callSW (C : EV x cc own N rm) (hXW : XW x.2.2.1.2.2.1 x.1.2.2.2.2) {l : Launch} {y : MethodName} {idx maxL n : Nat} {bytes : ByteArray} {ret : Option FieldType} {hh : List (Nat × Nat × Nat × Nat)} {r2 : Room} {pa : List Value} {r : Option Value} {stk : List Value} (hl0 : x.1.2.1 = l) (M : MPW l y (Cond.codeWith y bytes maxL ret hh :: TB) r2 h pa r h') (cd : CDW own idx y bytes maxL ret hh n) (hst : Cond.static y ∈ TB) (ft : FT rm r2 maxL cells slots) (e : stk = pa.reverse ++ st) (hn : pa.length = n) (hw : (st.map fun v => v.category).sum ≤ 8)
    (d : decode cc pc = .ok (.invokestatic idx, 3)) (kk : GG x (cells + r2.cells) (slots + r2.slots) h' (pc + 3) lv (r.toList ++ st)) : GG x cells slots h pc lv stk := by
  subst e
  subst hl0
  intro ad H locs ls h1 h2 h3 h4 hP hD hS hl
  have hpa : wfs h.length pa := fun v hv => h2 v (List.mem_append_left _ (List.mem_reverse.mpr hv))
  have hs2 : wfs h.length st := fun v hv => h2 v (List.mem_append_right _ hv)
  have hR := C.hR
  have hws : ∀ w ∈ Cond.codeWith y bytes maxL ret hh :: TB, ∀ (a' : Array Value) (U : State), x.1.2.2.2.2.WarmedH U.vm → w.before a' U = true := pay_in C.ht (good_consW cd.1)
  have hini : ∀ (a' : Array Value) (U : State), x.1.2.2.2.2.WarmedH U.vm → (Cond.initialized y.cls).before a' U = true := fun a' U hW => hws _ (List.mem_cons_of_mem _ cd.2.1) a' U hW
  have hK : Back x.1.2.1 x.1.2.2.2.1 x.1.1 x.1.2.2.1 x.2.1.2.2.1 x.1.2.2.2.2 x.2.1.2.1 y 3 8 (PreOf x.1.2.2.2.1 r2.cells r2.slots (fun a U => PRE x.2.2.1.1 x.2.2.1.2.1 ad H.size h pa a U ∧ XW (va_A (wd x.2.2.1.2.1 ad h) H.size) U)) (PostOf (POST x.2.2.1.1 x.2.2.1.2.1 ad H.size h r h') r2.cells r2.slots (va_A (wd x.2.2.1.2.1 ad h) H.size)) :=
    va_backW (hh := hh) (bytes := bytes) (maxL := maxL) (ret := ret) (M x.2.2.1.1 x.2.2.1.2.1 ad H.size) PREW.blind rfl rfl (by rw [hR]; exact ft.1) (by rw [hR]; exact ft.2.1) hws List.mem_cons_self hini
  have run : va_Run x.1.1 x.1.2.1 x.1.2.2.1 x.1.2.2.2.1 x.1.2.2.2.2 x.2.1.1 x.2.1.2.1 x.2.1.2.2.1 x.2.1.2.2.2.1 x.2.1.2.2.2.2 H locs cells slots r2.cells r2.slots (F0 x.2.1.1 pc ls ((pa.reverse ++ st).map (vv ad))) (st.map (vv ad)) (POST x.2.2.1.1 x.2.2.1.2.1 ad H.size h r h' (pa.map (vv ad)).toArray) (va_A (wd x.2.2.1.2.1 ad h) H.size) := by
    intro T hT X
    obtain ⟨mk, methM, cM, hnamed, hmethM, -, -, -, -, -, -, hsigM⟩ := Cond.codeWith_spec (C.ht _ cd.1)
    have hstatic : methM.isStatic = true := Cond.static_spec hnamed hmethM (C.ht _ hst)
    obtain ⟨kP, hkP, -⟩ := className_of_methodNamed hnamed
    have hinitP : kP.init = .initialized := Cond.initialized_spec (findClass_of_methodNamed hnamed) hkP (C.ht _ cd.2.1)
    have hlen : (pa.map (vv ad)).length = methM.sig.parameters.length := by
      have := cd.2.2.2.2.2
      rw [hsigM] at this
      rw [List.length_map, hn]
      exact (Option.some.inj this).symm
    obtain ⟨vm₁, X₁, hstep₁⟩ := X.invokestatic C.hx C.ho (C.ht _ cd.2.2.1) hnamed hmethM hstatic hkP hinitP ⟨cd.2.2.2.1, cd.2.2.2.2.1⟩ (g := F0 x.2.1.1 pc ls ((pa.reverse ++ st).map (vv ad))) rfl (argsL := pa.map (vv ad)) (rest := st.map (vv ad)) hlen (by show (pa.reverse ++ st).map (vv ad) = _; rw [List.map_append, List.map_reverse]) (by rw [C.hb]; exact d)
    obtain ⟨v, ⟨U', l2, c2, s2⟩, X', ⟨g', mk', t, L, e1, e2, hq, q1, hL, q2, q3⟩, hsteps⟩ := hK x.2.1.1 x.2.1.2.2.2.1 x.2.1.2.2.2.2 ⟨T.setVm vm₁, locs, cells, slots⟩ (F0 x.2.1.1 pc ls (st.map (vv ad))) (.invokestatic idx) mk (pa.map (vv ad)).toArray X₁ rfl (by show ls.size = _; rw [C.hm, ← C.hn]; exact hl.1) (by rw [C.hb]; exact d) (lv_room (by rw [List.map_map]; exact (by simpa [Function.comp_def, vv_cat'] using hw))) (X₁.named hnamed)
      ⟨by rw [hR]; exact ft.2.2.1, by rw [hR]; exact ft.2.2.2, pre_at C h1 hpa h4.2.1 hP hD hS (wd_free C hD hS) (T.setVm vm₁) hT X₁.warmed, XW.at hXW hS hT X₁.warmed.alike (wd_free C hD hS)⟩
    dsimp only [Pt.U, Pt.locs, Pt.cells, Pt.slots] at X' e1 e2 q1 q2 q3 hsteps
    subst q1; subst q2; subst q3
    exact ⟨v, (T.setVm vm₁).calling g' mk' (pa.map (vv ad)).toArray, t, U', L, hT, X', hL, e1, e2, hq, fun target hh => hstep₁ _ fun acts => by rw [doInvoke_state]; exact hsteps.trans hh⟩
  exact g_back C hs2 h3 h4 hD hS hl run kk
end GY
abbrev b_La_feed : ByteArray := method_3_code
abbrev y_La_feed : MethodName := ⟨"PrimeKeysLaw", "feed", "(LPrimeKeys;IIIII[J)I"⟩
theorem d_La_feed_0 : decode b_La_feed 0 = .ok (.aload 6, 2) := by decide +kernel
theorem d_La_feed_2 : decode b_La_feed 2 = .ok (.iconst 0, 1) := by decide +kernel
theorem d_La_feed_3 : decode b_La_feed 3 = .ok (.aload_n 0, 1) := by decide +kernel
theorem d_La_feed_4 : decode b_La_feed 4 = .ok (.iload_n 1, 1) := by decide +kernel
theorem d_La_feed_5 : decode b_La_feed 5 = .ok (.iload_n 2, 1) := by decide +kernel
theorem d_La_feed_6 : decode b_La_feed 6 = .ok (.iload_n 3, 1) := by decide +kernel
theorem d_La_feed_7 : decode b_La_feed 7 = .ok (.iload 4, 2) := by decide +kernel
theorem d_La_feed_9 : decode b_La_feed 9 = .ok (.iload 5, 2) := by decide +kernel
theorem d_La_feed_11 : decode b_La_feed 11 = .ok (.invokevirtual 7, 3) := by decide +kernel
theorem d_La_feed_14 : decode b_La_feed 14 = .ok (.i2l, 1) := by decide +kernel
theorem d_La_feed_15 : decode b_La_feed 15 = .ok (.lastore, 1) := by decide +kernel
theorem d_La_feed_16 : decode b_La_feed 16 = .ok (.goto 7, 3) := by decide +kernel
theorem d_La_feed_19 : decode b_La_feed 19 = .ok (.astore 7, 2) := by decide +kernel
theorem d_La_feed_21 : decode b_La_feed 21 = .ok (.iconst 1, 1) := by decide +kernel
theorem d_La_feed_22 : decode b_La_feed 22 = .ok (.ireturn, 1) := by decide +kernel
theorem d_La_feed_23 : decode b_La_feed 23 = .ok (.iconst 0, 1) := by decide +kernel
theorem d_La_feed_24 : decode b_La_feed 24 = .ok (.ireturn, 1) := by decide +kernel
theorem cd_La_7 : CD "PrimeKeysLaw" 7 y_PK_feed b_PK_feed 6 (some .int) 5 := ⟨tb_2 (List.mem_of_getElem? (i := 204) rfl) rfl, tb_1 (List.mem_of_getElem? (i := 1) (by decide +kernel)) rfl, tb_2 (List.mem_of_getElem? (i := 201) (by decide +kernel)) rfl, by decide +kernel⟩
theorem kw_in_PK_feed : Cond.instanceMethod y_PK_feed ∈ TB := tb_2 (List.mem_of_getElem? (i := 202) (by decide +kernel)) rfl
theorem kw_se_PK_feed : Cond.selects "PrimeKeys" y_PK_feed y_PK_feed ∈ TB := tb_2 (List.mem_of_getElem? (i := 203) (by decide +kernel)) rfl
theorem cat_La_feed_0 : CAT "PrimeKeysLaw" [(0, 16, 19, 13)] 11 0 19 := ⟨by decide, [], (0, 16, 19, 13), [], rfl, ⟨by decide, by decide⟩, rfl, by decide, tb_2 (List.mem_of_getElem? (i := 200) (by decide +kernel)) rfl, fun _ hy => by cases hy⟩
abbrev rm_La_feed (bu : Nat × Nat) : Room := { frames := 7, cells := bu.1, slots := bu.2, locals := 106 }
def P_La_feed (bu : Nat × Nat) (h : HP) (p0 : Nat) (p1 : Int32) (p2 : Int32) (p3 : Int32) (p4 : Int32) (p5 : Int32) (p6 : Nat) : Option (Int32 × HP) :=
  ob h p0 7 (
  bnd2 (P_PK_feed bu h p0 p1 p2 p3 p4 p5) fun q h1 =>
  match q with
  | .inl i => if i = 0 then some (1, h1) else none
  | .inr r => bnd (stJ h1 p6 0 (Int32.toInt64 r)) fun h2 => some (0, h2))
set_option maxHeartbeats 4000000 in
set_option maxRecDepth 100000 in
theorem c_La_feed {l : Launch} (htr : l.stackTraces = false) {h h' : HP} {p0 p1 p2 p3 p4 p5 p6 : _} {r' : Int32} {bu : Nat × Nat} (hr : P_La_feed bu h p0 p1 p2 p3 p4 p5 p6 = some (r', h')) : MPW l y_La_feed (Cond.codeWith y_La_feed b_La_feed 8 (some .int) [(0, 16, 19, 13)] :: TB) (rm_La_feed bu) h [.ref p0, .int p1, .int p2, .int p3, .int p4, .int p5, .ref p6] (some (.int r')) h' := by
  refine MPW_intro (cc := b_La_feed) (by decide) (Nat.le_of_ble_eq_true rfl) (fun x hl0 C T cw => ?_)
  unfold P_La_feed at hr
  show GG x 0 0 h 0 [(0, .ref p0), (1, .int p1), (2, .int p2), (3, .int p3), (4, .int p4), (5, .int p5), (6, .ref p6)] []
  refine g_aload C 6 rfl d_La_feed_0 ?_
  refine g_iconst (v := 0) C d_La_feed_2 (by decide) ?_
  refine g_aload_n C 0 rfl d_La_feed_3 rfl ?_
  refine g_iload_n C 1 rfl d_La_feed_4 rfl ?_
  refine g_iload_n C 2 rfl d_La_feed_5 rfl ?_
  refine g_iload_n C 3 rfl d_La_feed_6 rfl ?_
  refine g_iload C 4 rfl d_La_feed_7 ?_
  refine g_iload C 5 rfl d_La_feed_9 ?_
  obtain ⟨fs, ho, hr⟩ := of_ob hr
  obtain ⟨q, h1, eq1, hr⟩ := of_bnd2 hr
  rcases q with i | r
  · have eq1 := eq1
    by_cases z0 : i = 0
    · have hr := of_if z0 hr
      subst z0
      refine g_callVT (pa := [.int p1, .int p2, .int p3, .int p4, .int p5]) (lv' := [(0, .ref p0), (1, .int p1), (2, .int p2), (3, .int p3), (4, .int p4), (5, .int p5), (6, .ref p6)]) C cw hl0 (ct_PK_feed htr eq1) cd_La_7 kw_in_PK_feed kw_se_PK_feed ho rfl rfl ⟨Nat.le_of_ble_eq_true rfl, Nat.le_of_ble_eq_true rfl, show 0 + bu.1 ≤ bu.1 by omega, show 0 + bu.2 ≤ bu.2 by omega⟩ rfl rfl (Nat.le_of_ble_eq_true rfl) d_La_feed_11 cat_La_feed_0 (Or.inl ⟨d_La_feed_19, rfl⟩) (by decide) rfl ?_
      refine g_iconst (v := 1) C d_La_feed_21 (by decide) ?_
      cases hr
      exact g_ireturn C T rfl (show 0 + bu.1 ≤ bu.1 by omega) (show 0 + bu.2 ≤ bu.2 by omega) d_La_feed_22
    have hr := of_el z0 hr
    cases hr
  · refine g_callV (pa := [.int p1, .int p2, .int p3, .int p4, .int p5]) C hl0 (c_PK_feed eq1) cd_La_7 kw_in_PK_feed kw_se_PK_feed ho rfl rfl ⟨Nat.le_of_ble_eq_true rfl, Nat.le_of_ble_eq_true rfl, show 0 + bu.1 ≤ bu.1 by omega, show 0 + bu.2 ≤ bu.2 by omega⟩ rfl rfl (Nat.le_of_ble_eq_true rfl) d_La_feed_11 ?_
    refine g_i2l C d_La_feed_14 ?_
    obtain ⟨h2, eh2, hr⟩ := of_bnd hr
    refine g_lastore C eh2 d_La_feed_15 ?_
    refine g_goto (tgt := 23) C d_La_feed_16 (by decide) ?_
    refine g_iconst (v := 0) C d_La_feed_23 (by decide) ?_
    cases hr
    exact g_ireturn C T rfl (show 0 + bu.1 ≤ bu.1 by omega) (show 0 + bu.2 ≤ bu.2 by omega) d_La_feed_24
theorem cdw_La_feed : CDW "PrimeKeysLaw" 53 y_La_feed b_La_feed 8 (some .int) [(0, 16, 19, 13)] 7 := ⟨tb_2 (List.mem_of_getElem? (i := 199) rfl) rfl, tb_1 (List.mem_of_getElem? (i := 0) (by decide +kernel)) rfl, tb_2 (List.mem_of_getElem? (i := 197) (by decide +kernel)) rfl, by decide +kernel⟩
theorem kw_st_La_feed : Cond.static y_La_feed ∈ TB := tb_2 (List.mem_of_getElem? (i := 198) (by decide +kernel)) rfl
abbrev b_La_end : ByteArray := method_4_code
abbrev y_La_end : MethodName := ⟨"PrimeKeysLaw", "end", "(LPrimeKeys;I[J)I"⟩
theorem d_La_end_0 : decode b_La_end 0 = .ok (.aload_n 2, 1) := by decide +kernel
theorem d_La_end_1 : decode b_La_end 1 = .ok (.iconst 0, 1) := by decide +kernel
theorem d_La_end_2 : decode b_La_end 2 = .ok (.aload_n 0, 1) := by decide +kernel
theorem d_La_end_3 : decode b_La_end 3 = .ok (.iload_n 1, 1) := by decide +kernel
theorem d_La_end_4 : decode b_La_end 4 = .ok (.invokevirtual 15, 3) := by decide +kernel
theorem d_La_end_7 : decode b_La_end 7 = .ok (.i2l, 1) := by decide +kernel
theorem d_La_end_8 : decode b_La_end 8 = .ok (.lastore, 1) := by decide +kernel
theorem d_La_end_9 : decode b_La_end 9 = .ok (.goto 6, 3) := by decide +kernel
theorem d_La_end_12 : decode b_La_end 12 = .ok (.astore_n 3, 1) := by decide +kernel
theorem d_La_end_13 : decode b_La_end 13 = .ok (.iconst 1, 1) := by decide +kernel
theorem d_La_end_14 : decode b_La_end 14 = .ok (.ireturn, 1) := by decide +kernel
theorem d_La_end_15 : decode b_La_end 15 = .ok (.iconst 0, 1) := by decide +kernel
theorem d_La_end_16 : decode b_La_end 16 = .ok (.ireturn, 1) := by decide +kernel
theorem cd_La_15 : CD "PrimeKeysLaw" 15 y_PK_end b_PK_end 2 (some .int) 1 := ⟨tb_3 (List.mem_of_getElem? (i := 56) rfl) rfl, tb_1 (List.mem_of_getElem? (i := 1) (by decide +kernel)) rfl, tb_3 (List.mem_of_getElem? (i := 53) (by decide +kernel)) rfl, by decide +kernel⟩
theorem kw_in_PK_end : Cond.instanceMethod y_PK_end ∈ TB := tb_3 (List.mem_of_getElem? (i := 54) (by decide +kernel)) rfl
theorem kw_se_PK_end : Cond.selects "PrimeKeys" y_PK_end y_PK_end ∈ TB := tb_3 (List.mem_of_getElem? (i := 55) (by decide +kernel)) rfl
theorem cat_La_end_0 : CAT "PrimeKeysLaw" [(0, 9, 12, 19)] 4 1 12 := ⟨by decide, [], (0, 9, 12, 19), [], rfl, ⟨by decide, by decide⟩, rfl, by decide, tb_3 (List.mem_of_getElem? (i := 52) (by decide +kernel)) rfl, fun _ hy => by cases hy⟩
abbrev rm_La_end : Room := { frames := 7, cells := 1, slots := 6, locals := 102 }
def P_La_end (h : HP) (p0 : Nat) (p1 : Int32) (p2 : Nat) : Option (Int32 × HP) :=
  ob h p0 7 (
  bnd2 (P_PK_end h p0 p1) fun q h1 =>
  match q with
  | .inl i => if i = 1 then some (1, h1) else none
  | .inr r => bnd (stJ h1 p2 0 (Int32.toInt64 r)) fun h2 => some (0, h2))
set_option maxHeartbeats 4000000 in
set_option maxRecDepth 100000 in
theorem c_La_end {l : Launch} (htr : l.stackTraces = false) {h h' : HP} {p0 p1 p2 : _} {r' : Int32} (hr : P_La_end h p0 p1 p2 = some (r', h')) : MPW l y_La_end (Cond.codeWith y_La_end b_La_end 4 (some .int) [(0, 9, 12, 19)] :: TB) rm_La_end h [.ref p0, .int p1, .ref p2] (some (.int r')) h' := by
  refine MPW_intro (cc := b_La_end) (by decide) (Nat.le_of_ble_eq_true rfl) (fun x hl0 C T cw => ?_)
  unfold P_La_end at hr
  show GG x 0 0 h 0 [(0, .ref p0), (1, .int p1), (2, .ref p2)] []
  refine g_aload_n C 2 rfl d_La_end_0 rfl ?_
  refine g_iconst (v := 0) C d_La_end_1 (by decide) ?_
  refine g_aload_n C 0 rfl d_La_end_2 rfl ?_
  refine g_iload_n C 1 rfl d_La_end_3 rfl ?_
  obtain ⟨fs, ho, hr⟩ := of_ob hr
  obtain ⟨q, h1, eq1, hr⟩ := of_bnd2 hr
  rcases q with i | r
  · have eq1 := eq1
    by_cases z0 : i = 1
    · have hr := of_if z0 hr
      subst z0
      refine g_callVT (pa := [.int p1]) (lv' := [(0, .ref p0), (1, .int p1), (2, .ref p2)]) C cw hl0 (ct_PK_end htr eq1) cd_La_15 kw_in_PK_end kw_se_PK_end ho rfl rfl (by decide) rfl rfl (Nat.le_of_ble_eq_true rfl) d_La_end_4 cat_La_end_0 (Or.inr ⟨3, rfl, d_La_end_12, rfl⟩) (by decide) rfl ?_
      refine g_iconst (v := 1) C d_La_end_13 (by decide) ?_
      cases hr
      exact g_ireturn C T rfl (by decide) (by decide) d_La_end_14
    have hr := of_el z0 hr
    cases hr
  · refine g_callV (pa := [.int p1]) C hl0 (c_PK_end eq1) cd_La_15 kw_in_PK_end kw_se_PK_end ho rfl rfl (by decide) rfl rfl (Nat.le_of_ble_eq_true rfl) d_La_end_4 ?_
    refine g_i2l C d_La_end_7 ?_
    obtain ⟨h2, eh2, hr⟩ := of_bnd hr
    refine g_lastore C eh2 d_La_end_8 ?_
    refine g_goto (tgt := 15) C d_La_end_9 (by decide) ?_
    refine g_iconst (v := 0) C d_La_end_15 (by decide) ?_
    cases hr
    exact g_ireturn C T rfl (by decide) (by decide) d_La_end_16
theorem cdw_La_end : CDW "PrimeKeysLaw" 62 y_La_end b_La_end 4 (some .int) [(0, 9, 12, 19)] 3 := ⟨tb_3 (List.mem_of_getElem? (i := 51) rfl) rfl, tb_1 (List.mem_of_getElem? (i := 0) (by decide +kernel)) rfl, tb_3 (List.mem_of_getElem? (i := 49) (by decide +kernel)) rfl, by decide +kernel⟩
theorem kw_st_La_end : Cond.static y_La_end ∈ TB := tb_3 (List.mem_of_getElem? (i := 50) (by decide +kernel)) rfl
abbrev b_La_key : ByteArray := method_5_code
abbrev y_La_key : MethodName := ⟨"PrimeKeysLaw", "key", "(LPrimeKeys;[J)I"⟩
theorem d_La_key_0 : decode b_La_key 0 = .ok (.aload_n 1, 1) := by decide +kernel
theorem d_La_key_1 : decode b_La_key 1 = .ok (.iconst 0, 1) := by decide +kernel
theorem d_La_key_2 : decode b_La_key 2 = .ok (.aload_n 0, 1) := by decide +kernel
theorem d_La_key_3 : decode b_La_key 3 = .ok (.invokevirtual 21, 3) := by decide +kernel
theorem d_La_key_6 : decode b_La_key 6 = .ok (.i2l, 1) := by decide +kernel
theorem d_La_key_7 : decode b_La_key 7 = .ok (.lastore, 1) := by decide +kernel
theorem d_La_key_8 : decode b_La_key 8 = .ok (.goto 9, 3) := by decide +kernel
theorem d_La_key_11 : decode b_La_key 11 = .ok (.astore_n 2, 1) := by decide +kernel
theorem d_La_key_12 : decode b_La_key 12 = .ok (.iconst 1, 1) := by decide +kernel
theorem d_La_key_13 : decode b_La_key 13 = .ok (.ireturn, 1) := by decide +kernel
theorem d_La_key_14 : decode b_La_key 14 = .ok (.astore_n 2, 1) := by decide +kernel
theorem d_La_key_15 : decode b_La_key 15 = .ok (.iconst 2, 1) := by decide +kernel
theorem d_La_key_16 : decode b_La_key 16 = .ok (.ireturn, 1) := by decide +kernel
theorem d_La_key_17 : decode b_La_key 17 = .ok (.iconst 0, 1) := by decide +kernel
theorem d_La_key_18 : decode b_La_key 18 = .ok (.ireturn, 1) := by decide +kernel
theorem cd_La_21 : CD "PrimeKeysLaw" 21 y_PK_key b_PK_key 2 (some .int) 0 := ⟨tb_3 (List.mem_of_getElem? (i := 78) rfl) rfl, tb_1 (List.mem_of_getElem? (i := 1) (by decide +kernel)) rfl, tb_3 (List.mem_of_getElem? (i := 75) (by decide +kernel)) rfl, by decide +kernel⟩
theorem kw_in_PK_key : Cond.instanceMethod y_PK_key ∈ TB := tb_3 (List.mem_of_getElem? (i := 76) (by decide +kernel)) rfl
theorem kw_se_PK_key : Cond.selects "PrimeKeys" y_PK_key y_PK_key ∈ TB := tb_3 (List.mem_of_getElem? (i := 77) (by decide +kernel)) rfl
theorem cat_La_key_0 : CAT "PrimeKeysLaw" [(0, 8, 11, 19), (0, 8, 14, 13)] 3 1 11 := ⟨by decide, [], (0, 8, 11, 19), [(0, 8, 14, 13)], rfl, ⟨by decide, by decide⟩, rfl, by decide, tb_3 (List.mem_of_getElem? (i := 52) (by decide +kernel)) rfl, fun _ hy => by cases hy⟩
theorem cat_La_key_1 : CAT "PrimeKeysLaw" [(0, 8, 11, 19), (0, 8, 14, 13)] 3 0 14 := ⟨by decide, [(0, 8, 11, 19)], (0, 8, 14, 13), [], rfl, ⟨by decide, by decide⟩, rfl, by decide, tb_2 (List.mem_of_getElem? (i := 200) (by decide +kernel)) rfl, fun y hy => by rw [List.mem_singleton.mp hy]; exact ⟨by decide, 1, by decide, tb_3 (List.mem_of_getElem? (i := 52) (by decide +kernel)) rfl⟩⟩
abbrev rm_La_key : Room := { frames := 7, cells := 1, slots := 6, locals := 102 }
def P_La_key (h : HP) (p0 : Nat) (p1 : Nat) : Option (Int32 × HP) :=
  ob h p0 7 (
  bnd2 (P_PK_key h p0) fun q h1 =>
  match q with
  | .inl i => if i = 1 then some (1, h1) else if i = 0 then some (2, h1) else none
  | .inr r => bnd (stJ h1 p1 0 (Int32.toInt64 r)) fun h2 => some (0, h2))
set_option maxHeartbeats 4000000 in
set_option maxRecDepth 100000 in
theorem c_La_key {l : Launch} (htr : l.stackTraces = false) {h h' : HP} {p0 p1 : _} {r' : Int32} (hr : P_La_key h p0 p1 = some (r', h')) : MPW l y_La_key (Cond.codeWith y_La_key b_La_key 3 (some .int) [(0, 8, 11, 19), (0, 8, 14, 13)] :: TB) rm_La_key h [.ref p0, .ref p1] (some (.int r')) h' := by
  refine MPW_intro (cc := b_La_key) (by decide) (Nat.le_of_ble_eq_true rfl) (fun x hl0 C T cw => ?_)
  unfold P_La_key at hr
  show GG x 0 0 h 0 [(0, .ref p0), (1, .ref p1)] []
  refine g_aload_n C 1 rfl d_La_key_0 rfl ?_
  refine g_iconst (v := 0) C d_La_key_1 (by decide) ?_
  refine g_aload_n C 0 rfl d_La_key_2 rfl ?_
  obtain ⟨fs, ho, hr⟩ := of_ob hr
  obtain ⟨q, h1, eq1, hr⟩ := of_bnd2 hr
  rcases q with i | r
  · have eq1 := eq1
    by_cases z0 : i = 1
    · have hr := of_if z0 hr
      subst z0
      refine g_callVT (pa := []) (lv' := [(0, .ref p0), (1, .ref p1)]) C cw hl0 (ct_PK_key htr eq1) cd_La_21 kw_in_PK_key kw_se_PK_key ho rfl rfl (by decide) rfl rfl (Nat.le_of_ble_eq_true rfl) d_La_key_3 cat_La_key_0 (Or.inr ⟨2, rfl, d_La_key_11, rfl⟩) (by decide) rfl ?_
      refine g_iconst (v := 1) C d_La_key_12 (by decide) ?_
      cases hr
      exact g_ireturn C T rfl (by decide) (by decide) d_La_key_13
    have hr := of_el z0 hr
    by_cases z1 : i = 0
    · have hr := of_if z1 hr
      subst z1
      refine g_callVT (pa := []) (lv' := [(0, .ref p0), (1, .ref p1)]) C cw hl0 (ct_PK_key htr eq1) cd_La_21 kw_in_PK_key kw_se_PK_key ho rfl rfl (by decide) rfl rfl (Nat.le_of_ble_eq_true rfl) d_La_key_3 cat_La_key_1 (Or.inr ⟨2, rfl, d_La_key_14, rfl⟩) (by decide) rfl ?_
      refine g_iconst (v := 2) C d_La_key_15 (by decide) ?_
      cases hr
      exact g_ireturn C T rfl (by decide) (by decide) d_La_key_16
    have hr := of_el z1 hr
    cases hr
  · refine g_callV (pa := []) C hl0 (c_PK_key eq1) cd_La_21 kw_in_PK_key kw_se_PK_key ho rfl rfl (by decide) rfl rfl (Nat.le_of_ble_eq_true rfl) d_La_key_3 ?_
    refine g_i2l C d_La_key_6 ?_
    obtain ⟨h2, eh2, hr⟩ := of_bnd hr
    refine g_lastore C eh2 d_La_key_7 ?_
    refine g_goto (tgt := 17) C d_La_key_8 (by decide) ?_
    refine g_iconst (v := 0) C d_La_key_17 (by decide) ?_
    cases hr
    exact g_ireturn C T rfl (by decide) (by decide) d_La_key_18
theorem cdw_La_key : CDW "PrimeKeysLaw" 66 y_La_key b_La_key 3 (some .int) [(0, 8, 11, 19), (0, 8, 14, 13)] 2 := ⟨tb_3 (List.mem_of_getElem? (i := 74) rfl) rfl, tb_1 (List.mem_of_getElem? (i := 0) (by decide +kernel)) rfl, tb_3 (List.mem_of_getElem? (i := 72) (by decide +kernel)) rfl, by decide +kernel⟩
theorem kw_st_La_key : Cond.static y_La_key ∈ TB := tb_3 (List.mem_of_getElem? (i := 73) (by decide +kernel)) rfl
abbrev b_La_open : ByteArray := method_6_code
abbrev y_La_open : MethodName := ⟨"PrimeKeysLaw", "open", "(LPrimeKeys;I)I"⟩
theorem d_La_open_0 : decode b_La_open 0 = .ok (.aload_n 0, 1) := by decide +kernel
theorem d_La_open_1 : decode b_La_open 1 = .ok (.iload_n 1, 1) := by decide +kernel
theorem d_La_open_2 : decode b_La_open 2 = .ok (.invokevirtual 25, 3) := by decide +kernel
theorem d_La_open_5 : decode b_La_open 5 = .ok (.goto 6, 3) := by decide +kernel
theorem d_La_open_8 : decode b_La_open 8 = .ok (.astore_n 2, 1) := by decide +kernel
theorem d_La_open_9 : decode b_La_open 9 = .ok (.iconst 1, 1) := by decide +kernel
theorem d_La_open_10 : decode b_La_open 10 = .ok (.ireturn, 1) := by decide +kernel
theorem d_La_open_11 : decode b_La_open 11 = .ok (.iconst 0, 1) := by decide +kernel
theorem d_La_open_12 : decode b_La_open 12 = .ok (.ireturn, 1) := by decide +kernel
theorem cd_La_25 : CD "PrimeKeysLaw" 25 y_PK_open b_PK_open 2 none 1 := ⟨tb_3 (List.mem_of_getElem? (i := 97) rfl) rfl, tb_1 (List.mem_of_getElem? (i := 1) (by decide +kernel)) rfl, tb_3 (List.mem_of_getElem? (i := 94) (by decide +kernel)) rfl, by decide +kernel⟩
theorem kw_in_PK_open : Cond.instanceMethod y_PK_open ∈ TB := tb_3 (List.mem_of_getElem? (i := 95) (by decide +kernel)) rfl
theorem kw_se_PK_open : Cond.selects "PrimeKeys" y_PK_open y_PK_open ∈ TB := tb_3 (List.mem_of_getElem? (i := 96) (by decide +kernel)) rfl
theorem cat_La_open_0 : CAT "PrimeKeysLaw" [(0, 5, 8, 29)] 2 2 8 := ⟨by decide, [], (0, 5, 8, 29), [], rfl, ⟨by decide, by decide⟩, rfl, by decide, tb_3 (List.mem_of_getElem? (i := 93) (by decide +kernel)) rfl, fun _ hy => by cases hy⟩
abbrev rm_La_open : Room := { frames := 7, cells := 1, slots := 6, locals := 186 }
def P_La_open (h : HP) (p0 : Nat) (p1 : Int32) : Option (Int32 × HP) :=
  ob h p0 7 (
  bnd2 (P_PK_open h p0 p1) fun q h1 =>
  match q with
  | .inl i => if i = 2 then some (1, h1) else none
  | .inr _ => some (0, h1))
set_option maxHeartbeats 4000000 in
set_option maxRecDepth 100000 in
theorem c_La_open {l : Launch} (htr : l.stackTraces = false) {h h' : HP} {p0 p1 : _} {r' : Int32} (hr : P_La_open h p0 p1 = some (r', h')) : MPW l y_La_open (Cond.codeWith y_La_open b_La_open 3 (some .int) [(0, 5, 8, 29)] :: TB) rm_La_open h [.ref p0, .int p1] (some (.int r')) h' := by
  refine MPW_intro (cc := b_La_open) (by decide) (Nat.le_of_ble_eq_true rfl) (fun x hl0 C T cw => ?_)
  unfold P_La_open at hr
  show GG x 0 0 h 0 [(0, .ref p0), (1, .int p1)] []
  refine g_aload_n C 0 rfl d_La_open_0 rfl ?_
  refine g_iload_n C 1 rfl d_La_open_1 rfl ?_
  obtain ⟨fs, ho, hr⟩ := of_ob hr
  obtain ⟨q, h1, eq1, hr⟩ := of_bnd2 hr
  rcases q with i | r
  · have eq1 := eq1
    by_cases z0 : i = 2
    · have hr := of_if z0 hr
      subst z0
      refine g_callVT (pa := [.int p1]) (lv' := [(0, .ref p0), (1, .int p1)]) C cw hl0 (ct_PK_open htr eq1) cd_La_25 kw_in_PK_open kw_se_PK_open ho rfl rfl (by decide) rfl rfl (Nat.le_of_ble_eq_true rfl) d_La_open_2 cat_La_open_0 (Or.inr ⟨2, rfl, d_La_open_8, rfl⟩) (by decide) rfl ?_
      refine g_iconst (v := 1) C d_La_open_9 (by decide) ?_
      cases hr
      exact g_ireturn C T rfl (by decide) (by decide) d_La_open_10
    have hr := of_el z0 hr
    cases hr
  · refine g_callV (pa := [.int p1]) C hl0 (c_PK_open eq1) cd_La_25 kw_in_PK_open kw_se_PK_open ho rfl rfl (by decide) rfl rfl (Nat.le_of_ble_eq_true rfl) d_La_open_2 ?_
    refine g_goto (tgt := 11) C d_La_open_5 (by decide) ?_
    refine g_iconst (v := 0) C d_La_open_11 (by decide) ?_
    cases hr
    exact g_ireturn C T rfl (by decide) (by decide) d_La_open_12
theorem cdw_La_open : CDW "PrimeKeysLaw" 70 y_La_open b_La_open 3 (some .int) [(0, 5, 8, 29)] 2 := ⟨tb_3 (List.mem_of_getElem? (i := 92) rfl) rfl, tb_1 (List.mem_of_getElem? (i := 0) (by decide +kernel)) rfl, tb_3 (List.mem_of_getElem? (i := 90) (by decide +kernel)) rfl, by decide +kernel⟩
theorem kw_st_La_open : Cond.static y_La_open ∈ TB := tb_3 (List.mem_of_getElem? (i := 91) (by decide +kernel)) rfl
abbrev b_La_agree : ByteArray := method_7_code
abbrev y_La_agree : MethodName := ⟨"PrimeKeysLaw", "agree", "(LPrimeKeys;I)I"⟩
theorem d_La_agree_0 : decode b_La_agree 0 = .ok (.aload_n 0, 1) := by decide +kernel
theorem d_La_agree_1 : decode b_La_agree 1 = .ok (.iload_n 1, 1) := by decide +kernel
theorem d_La_agree_2 : decode b_La_agree 2 = .ok (.invokevirtual 31, 3) := by decide +kernel
theorem d_La_agree_5 : decode b_La_agree 5 = .ok (.goto 9, 3) := by decide +kernel
theorem d_La_agree_8 : decode b_La_agree 8 = .ok (.astore_n 2, 1) := by decide +kernel
theorem d_La_agree_9 : decode b_La_agree 9 = .ok (.iconst 1, 1) := by decide +kernel
theorem d_La_agree_10 : decode b_La_agree 10 = .ok (.ireturn, 1) := by decide +kernel
theorem d_La_agree_11 : decode b_La_agree 11 = .ok (.astore_n 2, 1) := by decide +kernel
theorem d_La_agree_12 : decode b_La_agree 12 = .ok (.iconst 2, 1) := by decide +kernel
theorem d_La_agree_13 : decode b_La_agree 13 = .ok (.ireturn, 1) := by decide +kernel
theorem d_La_agree_14 : decode b_La_agree 14 = .ok (.iconst 0, 1) := by decide +kernel
theorem d_La_agree_15 : decode b_La_agree 15 = .ok (.ireturn, 1) := by decide +kernel
theorem cd_La_31 : CD "PrimeKeysLaw" 31 y_PK_agree b_PK_agree 2 none 1 := ⟨tb_3 (List.mem_of_getElem? (i := 146) rfl) rfl, tb_1 (List.mem_of_getElem? (i := 1) (by decide +kernel)) rfl, tb_3 (List.mem_of_getElem? (i := 143) (by decide +kernel)) rfl, by decide +kernel⟩
theorem kw_in_PK_agree : Cond.instanceMethod y_PK_agree ∈ TB := tb_3 (List.mem_of_getElem? (i := 144) (by decide +kernel)) rfl
theorem kw_se_PK_agree : Cond.selects "PrimeKeys" y_PK_agree y_PK_agree ∈ TB := tb_3 (List.mem_of_getElem? (i := 145) (by decide +kernel)) rfl
theorem cat_La_agree_0 : CAT "PrimeKeysLaw" [(0, 5, 8, 29), (0, 5, 11, 19)] 2 2 8 := ⟨by decide, [], (0, 5, 8, 29), [(0, 5, 11, 19)], rfl, ⟨by decide, by decide⟩, rfl, by decide, tb_3 (List.mem_of_getElem? (i := 93) (by decide +kernel)) rfl, fun _ hy => by cases hy⟩
theorem cat_La_agree_1 : CAT "PrimeKeysLaw" [(0, 5, 8, 29), (0, 5, 11, 19)] 2 1 11 := ⟨by decide, [(0, 5, 8, 29)], (0, 5, 11, 19), [], rfl, ⟨by decide, by decide⟩, rfl, by decide, tb_3 (List.mem_of_getElem? (i := 52) (by decide +kernel)) rfl, fun y hy => by rw [List.mem_singleton.mp hy]; exact ⟨by decide, 2, by decide, tb_3 (List.mem_of_getElem? (i := 93) (by decide +kernel)) rfl⟩⟩
abbrev rm_La_agree : Room := { frames := 8, cells := 1, slots := 6, locals := 205 }
def P_La_agree (h : HP) (p0 : Nat) (p1 : Int32) : Option (Int32 × HP) :=
  ob h p0 7 (
  bnd2 (P_PK_agree h p0 p1) fun q h1 =>
  match q with
  | .inl i => if i = 2 then some (1, h1) else if i = 1 then some (2, h1) else none
  | .inr _ => some (0, h1))
set_option maxHeartbeats 4000000 in
set_option maxRecDepth 100000 in
theorem c_La_agree {l : Launch} (htr : l.stackTraces = false) {h h' : HP} {p0 p1 : _} {r' : Int32} (hr : P_La_agree h p0 p1 = some (r', h')) : MPW l y_La_agree (Cond.codeWith y_La_agree b_La_agree 3 (some .int) [(0, 5, 8, 29), (0, 5, 11, 19)] :: TB) rm_La_agree h [.ref p0, .int p1] (some (.int r')) h' := by
  refine MPW_intro (cc := b_La_agree) (by decide) (Nat.le_of_ble_eq_true rfl) (fun x hl0 C T cw => ?_)
  unfold P_La_agree at hr
  show GG x 0 0 h 0 [(0, .ref p0), (1, .int p1)] []
  refine g_aload_n C 0 rfl d_La_agree_0 rfl ?_
  refine g_iload_n C 1 rfl d_La_agree_1 rfl ?_
  obtain ⟨fs, ho, hr⟩ := of_ob hr
  obtain ⟨q, h1, eq1, hr⟩ := of_bnd2 hr
  rcases q with i | r
  · have eq1 := eq1
    by_cases z0 : i = 2
    · have hr := of_if z0 hr
      subst z0
      refine g_callVT (pa := [.int p1]) (lv' := [(0, .ref p0), (1, .int p1)]) C cw hl0 (ct_PK_agree htr eq1) cd_La_31 kw_in_PK_agree kw_se_PK_agree ho rfl rfl (by decide) rfl rfl (Nat.le_of_ble_eq_true rfl) d_La_agree_2 cat_La_agree_0 (Or.inr ⟨2, rfl, d_La_agree_8, rfl⟩) (by decide) rfl ?_
      refine g_iconst (v := 1) C d_La_agree_9 (by decide) ?_
      cases hr
      exact g_ireturn C T rfl (by decide) (by decide) d_La_agree_10
    have hr := of_el z0 hr
    by_cases z1 : i = 1
    · have hr := of_if z1 hr
      subst z1
      refine g_callVT (pa := [.int p1]) (lv' := [(0, .ref p0), (1, .int p1)]) C cw hl0 (ct_PK_agree htr eq1) cd_La_31 kw_in_PK_agree kw_se_PK_agree ho rfl rfl (by decide) rfl rfl (Nat.le_of_ble_eq_true rfl) d_La_agree_2 cat_La_agree_1 (Or.inr ⟨2, rfl, d_La_agree_11, rfl⟩) (by decide) rfl ?_
      refine g_iconst (v := 2) C d_La_agree_12 (by decide) ?_
      cases hr
      exact g_ireturn C T rfl (by decide) (by decide) d_La_agree_13
    have hr := of_el z1 hr
    cases hr
  · refine g_callV (pa := [.int p1]) C hl0 (c_PK_agree eq1) cd_La_31 kw_in_PK_agree kw_se_PK_agree ho rfl rfl (by decide) rfl rfl (Nat.le_of_ble_eq_true rfl) d_La_agree_2 ?_
    refine g_goto (tgt := 14) C d_La_agree_5 (by decide) ?_
    refine g_iconst (v := 0) C d_La_agree_14 (by decide) ?_
    cases hr
    exact g_ireturn C T rfl (by decide) (by decide) d_La_agree_15
theorem cdw_La_agree : CDW "PrimeKeysLaw" 74 y_La_agree b_La_agree 3 (some .int) [(0, 5, 8, 29), (0, 5, 11, 19)] 2 := ⟨tb_3 (List.mem_of_getElem? (i := 142) rfl) rfl, tb_1 (List.mem_of_getElem? (i := 0) (by decide +kernel)) rfl, tb_3 (List.mem_of_getElem? (i := 140) (by decide +kernel)) rfl, by decide +kernel⟩
theorem kw_st_La_agree : Cond.static y_La_agree ∈ TB := tb_3 (List.mem_of_getElem? (i := 141) (by decide +kernel)) rfl
abbrev b_La_sign : ByteArray := method_8_code
abbrev y_La_sign : MethodName := ⟨"PrimeKeysLaw", "sign", "(LPrimeKeys;I[J)I"⟩
theorem d_La_sign_0 : decode b_La_sign 0 = .ok (.aload_n 2, 1) := by decide +kernel
theorem d_La_sign_1 : decode b_La_sign 1 = .ok (.iconst 0, 1) := by decide +kernel
theorem d_La_sign_2 : decode b_La_sign 2 = .ok (.aload_n 0, 1) := by decide +kernel
theorem d_La_sign_3 : decode b_La_sign 3 = .ok (.iload_n 1, 1) := by decide +kernel
theorem d_La_sign_4 : decode b_La_sign 4 = .ok (.invokevirtual 34, 3) := by decide +kernel
theorem d_La_sign_7 : decode b_La_sign 7 = .ok (.i2l, 1) := by decide +kernel
theorem d_La_sign_8 : decode b_La_sign 8 = .ok (.lastore, 1) := by decide +kernel
theorem d_La_sign_9 : decode b_La_sign 9 = .ok (.goto 6, 3) := by decide +kernel
theorem d_La_sign_12 : decode b_La_sign 12 = .ok (.astore_n 3, 1) := by decide +kernel
theorem d_La_sign_13 : decode b_La_sign 13 = .ok (.iconst 1, 1) := by decide +kernel
theorem d_La_sign_14 : decode b_La_sign 14 = .ok (.ireturn, 1) := by decide +kernel
theorem d_La_sign_15 : decode b_La_sign 15 = .ok (.iconst 0, 1) := by decide +kernel
theorem d_La_sign_16 : decode b_La_sign 16 = .ok (.ireturn, 1) := by decide +kernel
theorem cd_La_34 : CD "PrimeKeysLaw" 34 y_PK_sign b_PK_sign 2 (some .int) 1 := ⟨tb_3 (List.mem_of_getElem? (i := 163) rfl) rfl, tb_1 (List.mem_of_getElem? (i := 1) (by decide +kernel)) rfl, tb_3 (List.mem_of_getElem? (i := 160) (by decide +kernel)) rfl, by decide +kernel⟩
theorem kw_in_PK_sign : Cond.instanceMethod y_PK_sign ∈ TB := tb_3 (List.mem_of_getElem? (i := 161) (by decide +kernel)) rfl
theorem kw_se_PK_sign : Cond.selects "PrimeKeys" y_PK_sign y_PK_sign ∈ TB := tb_3 (List.mem_of_getElem? (i := 162) (by decide +kernel)) rfl
theorem cat_La_sign_0 : CAT "PrimeKeysLaw" [(0, 9, 12, 29)] 4 2 12 := ⟨by decide, [], (0, 9, 12, 29), [], rfl, ⟨by decide, by decide⟩, rfl, by decide, tb_3 (List.mem_of_getElem? (i := 93) (by decide +kernel)) rfl, fun _ hy => by cases hy⟩
abbrev rm_La_sign : Room := { frames := 8, cells := 1, slots := 6, locals := 211 }
def P_La_sign (h : HP) (p0 : Nat) (p1 : Int32) (p2 : Nat) : Option (Int32 × HP) :=
  ob h p0 7 (
  bnd2 (P_PK_sign h p0 p1) fun q h1 =>
  match q with
  | .inl i => if i = 2 then some (1, h1) else none
  | .inr r => bnd (stJ h1 p2 0 (Int32.toInt64 r)) fun h2 => some (0, h2))
set_option maxHeartbeats 4000000 in
set_option maxRecDepth 100000 in
theorem c_La_sign {l : Launch} (htr : l.stackTraces = false) {h h' : HP} {p0 p1 p2 : _} {r' : Int32} (hr : P_La_sign h p0 p1 p2 = some (r', h')) : MPW l y_La_sign (Cond.codeWith y_La_sign b_La_sign 4 (some .int) [(0, 9, 12, 29)] :: TB) rm_La_sign h [.ref p0, .int p1, .ref p2] (some (.int r')) h' := by
  refine MPW_intro (cc := b_La_sign) (by decide) (Nat.le_of_ble_eq_true rfl) (fun x hl0 C T cw => ?_)
  unfold P_La_sign at hr
  show GG x 0 0 h 0 [(0, .ref p0), (1, .int p1), (2, .ref p2)] []
  refine g_aload_n C 2 rfl d_La_sign_0 rfl ?_
  refine g_iconst (v := 0) C d_La_sign_1 (by decide) ?_
  refine g_aload_n C 0 rfl d_La_sign_2 rfl ?_
  refine g_iload_n C 1 rfl d_La_sign_3 rfl ?_
  obtain ⟨fs, ho, hr⟩ := of_ob hr
  obtain ⟨q, h1, eq1, hr⟩ := of_bnd2 hr
  rcases q with i | r
  · have eq1 := eq1
    by_cases z0 : i = 2
    · have hr := of_if z0 hr
      subst z0
      refine g_callVT (pa := [.int p1]) (lv' := [(0, .ref p0), (1, .int p1), (2, .ref p2)]) C cw hl0 (ct_PK_sign htr eq1) cd_La_34 kw_in_PK_sign kw_se_PK_sign ho rfl rfl (by decide) rfl rfl (Nat.le_of_ble_eq_true rfl) d_La_sign_4 cat_La_sign_0 (Or.inr ⟨3, rfl, d_La_sign_12, rfl⟩) (by decide) rfl ?_
      refine g_iconst (v := 1) C d_La_sign_13 (by decide) ?_
      cases hr
      exact g_ireturn C T rfl (by decide) (by decide) d_La_sign_14
    have hr := of_el z0 hr
    cases hr
  · refine g_callV (pa := [.int p1]) C hl0 (c_PK_sign eq1) cd_La_34 kw_in_PK_sign kw_se_PK_sign ho rfl rfl (by decide) rfl rfl (Nat.le_of_ble_eq_true rfl) d_La_sign_4 ?_
    refine g_i2l C d_La_sign_7 ?_
    obtain ⟨h2, eh2, hr⟩ := of_bnd hr
    refine g_lastore C eh2 d_La_sign_8 ?_
    refine g_goto (tgt := 15) C d_La_sign_9 (by decide) ?_
    refine g_iconst (v := 0) C d_La_sign_15 (by decide) ?_
    cases hr
    exact g_ireturn C T rfl (by decide) (by decide) d_La_sign_16
theorem cdw_La_sign : CDW "PrimeKeysLaw" 81 y_La_sign b_La_sign 4 (some .int) [(0, 9, 12, 29)] 3 := ⟨tb_3 (List.mem_of_getElem? (i := 159) rfl) rfl, tb_1 (List.mem_of_getElem? (i := 0) (by decide +kernel)) rfl, tb_3 (List.mem_of_getElem? (i := 157) (by decide +kernel)) rfl, by decide +kernel⟩
theorem kw_st_La_sign : Cond.static y_La_sign ∈ TB := tb_3 (List.mem_of_getElem? (i := 158) (by decide +kernel)) rfl
abbrev b_La_verify : ByteArray := method_9_code
abbrev y_La_verify : MethodName := ⟨"PrimeKeysLaw", "verify", "(LPrimeKeys;[J)I"⟩
theorem d_La_verify_0 : decode b_La_verify 0 = .ok (.aload_n 1, 1) := by decide +kernel
theorem d_La_verify_1 : decode b_La_verify 1 = .ok (.iconst 0, 1) := by decide +kernel
theorem d_La_verify_2 : decode b_La_verify 2 = .ok (.aload_n 0, 1) := by decide +kernel
theorem d_La_verify_3 : decode b_La_verify 3 = .ok (.invokevirtual 37, 3) := by decide +kernel
theorem d_La_verify_6 : decode b_La_verify 6 = .ok (.i2l, 1) := by decide +kernel
theorem d_La_verify_7 : decode b_La_verify 7 = .ok (.lastore, 1) := by decide +kernel
theorem d_La_verify_8 : decode b_La_verify 8 = .ok (.goto 6, 3) := by decide +kernel
theorem d_La_verify_11 : decode b_La_verify 11 = .ok (.astore_n 2, 1) := by decide +kernel
theorem d_La_verify_12 : decode b_La_verify 12 = .ok (.iconst 1, 1) := by decide +kernel
theorem d_La_verify_13 : decode b_La_verify 13 = .ok (.ireturn, 1) := by decide +kernel
theorem d_La_verify_14 : decode b_La_verify 14 = .ok (.iconst 0, 1) := by decide +kernel
theorem d_La_verify_15 : decode b_La_verify 15 = .ok (.ireturn, 1) := by decide +kernel
theorem cd_La_37 : CD "PrimeKeysLaw" 37 y_PK_verify b_PK_verify 2 (some .int) 0 := ⟨tb_4 (List.mem_of_getElem? (i := 1) rfl) rfl, tb_1 (List.mem_of_getElem? (i := 1) (by decide +kernel)) rfl, tb_3 (List.mem_of_getElem? (i := 238) (by decide +kernel)) rfl, by decide +kernel⟩
theorem kw_in_PK_verify : Cond.instanceMethod y_PK_verify ∈ TB := tb_3 (List.mem_of_getElem? (i := 239) (by decide +kernel)) rfl
theorem kw_se_PK_verify : Cond.selects "PrimeKeys" y_PK_verify y_PK_verify ∈ TB := tb_4 (List.mem_of_getElem? (i := 0) (by decide +kernel)) rfl
theorem cat_La_verify_0 : CAT "PrimeKeysLaw" [(0, 8, 11, 19)] 3 1 11 := ⟨by decide, [], (0, 8, 11, 19), [], rfl, ⟨by decide, by decide⟩, rfl, by decide, tb_3 (List.mem_of_getElem? (i := 52) (by decide +kernel)) rfl, fun _ hy => by cases hy⟩
abbrev rm_La_verify : Room := { frames := 8, cells := 1, slots := 6, locals := 209 }
def P_La_verify (h : HP) (p0 : Nat) (p1 : Nat) : Option (Int32 × HP) :=
  ob h p0 7 (
  bnd2 (P_PK_verify h p0) fun q h1 =>
  match q with
  | .inl i => if i = 1 then some (1, h1) else none
  | .inr r => bnd (stJ h1 p1 0 (Int32.toInt64 r)) fun h2 => some (0, h2))
set_option maxHeartbeats 4000000 in
set_option maxRecDepth 100000 in
theorem c_La_verify {l : Launch} (htr : l.stackTraces = false) {h h' : HP} {p0 p1 : _} {r' : Int32} (hr : P_La_verify h p0 p1 = some (r', h')) : MPW l y_La_verify (Cond.codeWith y_La_verify b_La_verify 3 (some .int) [(0, 8, 11, 19)] :: TB) rm_La_verify h [.ref p0, .ref p1] (some (.int r')) h' := by
  refine MPW_intro (cc := b_La_verify) (by decide) (Nat.le_of_ble_eq_true rfl) (fun x hl0 C T cw => ?_)
  unfold P_La_verify at hr
  show GG x 0 0 h 0 [(0, .ref p0), (1, .ref p1)] []
  refine g_aload_n C 1 rfl d_La_verify_0 rfl ?_
  refine g_iconst (v := 0) C d_La_verify_1 (by decide) ?_
  refine g_aload_n C 0 rfl d_La_verify_2 rfl ?_
  obtain ⟨fs, ho, hr⟩ := of_ob hr
  obtain ⟨q, h1, eq1, hr⟩ := of_bnd2 hr
  rcases q with i | r
  · have eq1 := eq1
    by_cases z0 : i = 1
    · have hr := of_if z0 hr
      subst z0
      refine g_callVT (pa := []) (lv' := [(0, .ref p0), (1, .ref p1)]) C cw hl0 (ct_PK_verify htr eq1) cd_La_37 kw_in_PK_verify kw_se_PK_verify ho rfl rfl (by decide) rfl rfl (Nat.le_of_ble_eq_true rfl) d_La_verify_3 cat_La_verify_0 (Or.inr ⟨2, rfl, d_La_verify_11, rfl⟩) (by decide) rfl ?_
      refine g_iconst (v := 1) C d_La_verify_12 (by decide) ?_
      cases hr
      exact g_ireturn C T rfl (by decide) (by decide) d_La_verify_13
    have hr := of_el z0 hr
    cases hr
  · refine g_callV (pa := []) C hl0 (c_PK_verify eq1) cd_La_37 kw_in_PK_verify kw_se_PK_verify ho rfl rfl (by decide) rfl rfl (Nat.le_of_ble_eq_true rfl) d_La_verify_3 ?_
    refine g_i2l C d_La_verify_6 ?_
    obtain ⟨h2, eh2, hr⟩ := of_bnd hr
    refine g_lastore C eh2 d_La_verify_7 ?_
    refine g_goto (tgt := 14) C d_La_verify_8 (by decide) ?_
    refine g_iconst (v := 0) C d_La_verify_14 (by decide) ?_
    cases hr
    exact g_ireturn C T rfl (by decide) (by decide) d_La_verify_15
theorem cdw_La_verify : CDW "PrimeKeysLaw" 84 y_La_verify b_La_verify 3 (some .int) [(0, 8, 11, 19)] 2 := ⟨tb_3 (List.mem_of_getElem? (i := 237) rfl) rfl, tb_1 (List.mem_of_getElem? (i := 0) (by decide +kernel)) rfl, tb_3 (List.mem_of_getElem? (i := 235) (by decide +kernel)) rfl, by decide +kernel⟩
theorem kw_st_La_verify : Cond.static y_La_verify ∈ TB := tb_3 (List.mem_of_getElem? (i := 236) (by decide +kernel)) rfl
abbrev b_La_back : ByteArray := method_10_code
abbrev y_La_back : MethodName := ⟨"PrimeKeysLaw", "back", "(LPrimeKeys;II[J)I"⟩
theorem d_La_back_0 : decode b_La_back 0 = .ok (.aload_n 3, 1) := by decide +kernel
theorem d_La_back_1 : decode b_La_back 1 = .ok (.iconst 0, 1) := by decide +kernel
theorem d_La_back_2 : decode b_La_back 2 = .ok (.aload_n 0, 1) := by decide +kernel
theorem d_La_back_3 : decode b_La_back 3 = .ok (.iload_n 1, 1) := by decide +kernel
theorem d_La_back_4 : decode b_La_back 4 = .ok (.iload_n 2, 1) := by decide +kernel
theorem d_La_back_5 : decode b_La_back 5 = .ok (.invokevirtual 40, 3) := by decide +kernel
theorem d_La_back_8 : decode b_La_back 8 = .ok (.i2l, 1) := by decide +kernel
theorem d_La_back_9 : decode b_La_back 9 = .ok (.lastore, 1) := by decide +kernel
theorem d_La_back_10 : decode b_La_back 10 = .ok (.goto 11, 3) := by decide +kernel
theorem d_La_back_13 : decode b_La_back 13 = .ok (.astore 4, 2) := by decide +kernel
theorem d_La_back_15 : decode b_La_back 15 = .ok (.iconst 1, 1) := by decide +kernel
theorem d_La_back_16 : decode b_La_back 16 = .ok (.ireturn, 1) := by decide +kernel
theorem d_La_back_17 : decode b_La_back 17 = .ok (.astore 4, 2) := by decide +kernel
theorem d_La_back_19 : decode b_La_back 19 = .ok (.iconst 2, 1) := by decide +kernel
theorem d_La_back_20 : decode b_La_back 20 = .ok (.ireturn, 1) := by decide +kernel
theorem d_La_back_21 : decode b_La_back 21 = .ok (.iconst 0, 1) := by decide +kernel
theorem d_La_back_22 : decode b_La_back 22 = .ok (.ireturn, 1) := by decide +kernel
theorem cd_La_40 : CD "PrimeKeysLaw" 40 y_PK_back b_PK_back 3 (some .int) 2 := ⟨tb_4 (List.mem_of_getElem? (i := 31) rfl) rfl, tb_1 (List.mem_of_getElem? (i := 1) (by decide +kernel)) rfl, tb_4 (List.mem_of_getElem? (i := 28) (by decide +kernel)) rfl, by decide +kernel⟩
theorem kw_in_PK_back : Cond.instanceMethod y_PK_back ∈ TB := tb_4 (List.mem_of_getElem? (i := 29) (by decide +kernel)) rfl
theorem kw_se_PK_back : Cond.selects "PrimeKeys" y_PK_back y_PK_back ∈ TB := tb_4 (List.mem_of_getElem? (i := 30) (by decide +kernel)) rfl
theorem cat_La_back_0 : CAT "PrimeKeysLaw" [(0, 10, 13, 44), (0, 10, 17, 13)] 5 3 13 := ⟨by decide, [], (0, 10, 13, 44), [(0, 10, 17, 13)], rfl, ⟨by decide, by decide⟩, rfl, by decide, tb_4 (List.mem_of_getElem? (i := 27) (by decide +kernel)) rfl, fun _ hy => by cases hy⟩
theorem cat_La_back_1 : CAT "PrimeKeysLaw" [(0, 10, 13, 44), (0, 10, 17, 13)] 5 0 17 := ⟨by decide, [(0, 10, 13, 44)], (0, 10, 17, 13), [], rfl, ⟨by decide, by decide⟩, rfl, by decide, tb_2 (List.mem_of_getElem? (i := 200) (by decide +kernel)) rfl, fun y hy => by rw [List.mem_singleton.mp hy]; exact ⟨by decide, 3, by decide, tb_4 (List.mem_of_getElem? (i := 27) (by decide +kernel)) rfl⟩⟩
abbrev rm_La_back (bu : Nat × Nat) : Room := { frames := 7, cells := bu.1, slots := bu.2, locals := 103 }
def P_La_back (bu : Nat × Nat) (h : HP) (p0 : Nat) (p1 : Int32) (p2 : Int32) (p3 : Nat) : Option (Int32 × HP) :=
  ob h p0 7 (
  bnd2 (P_PK_back bu h p0 p1 p2) fun q h1 =>
  match q with
  | .inl i => if i = 3 then some (1, h1) else if i = 0 then some (2, h1) else none
  | .inr r => bnd (stJ h1 p3 0 (Int32.toInt64 r)) fun h2 => some (0, h2))
set_option maxHeartbeats 4000000 in
set_option maxRecDepth 100000 in
theorem c_La_back {l : Launch} (htr : l.stackTraces = false) {h h' : HP} {p0 p1 p2 p3 : _} {r' : Int32} {bu : Nat × Nat} (hr : P_La_back bu h p0 p1 p2 p3 = some (r', h')) : MPW l y_La_back (Cond.codeWith y_La_back b_La_back 5 (some .int) [(0, 10, 13, 44), (0, 10, 17, 13)] :: TB) (rm_La_back bu) h [.ref p0, .int p1, .int p2, .ref p3] (some (.int r')) h' := by
  refine MPW_intro (cc := b_La_back) (by decide) (Nat.le_of_ble_eq_true rfl) (fun x hl0 C T cw => ?_)
  unfold P_La_back at hr
  show GG x 0 0 h 0 [(0, .ref p0), (1, .int p1), (2, .int p2), (3, .ref p3)] []
  refine g_aload_n C 3 rfl d_La_back_0 rfl ?_
  refine g_iconst (v := 0) C d_La_back_1 (by decide) ?_
  refine g_aload_n C 0 rfl d_La_back_2 rfl ?_
  refine g_iload_n C 1 rfl d_La_back_3 rfl ?_
  refine g_iload_n C 2 rfl d_La_back_4 rfl ?_
  obtain ⟨fs, ho, hr⟩ := of_ob hr
  obtain ⟨q, h1, eq1, hr⟩ := of_bnd2 hr
  rcases q with i | r
  · have eq1 := eq1
    by_cases z0 : i = 3
    · have hr := of_if z0 hr
      subst z0
      refine g_callVT (pa := [.int p1, .int p2]) (lv' := [(0, .ref p0), (1, .int p1), (2, .int p2), (3, .ref p3)]) C cw hl0 (ct_PK_back htr eq1) cd_La_40 kw_in_PK_back kw_se_PK_back ho rfl rfl ⟨Nat.le_of_ble_eq_true rfl, Nat.le_of_ble_eq_true rfl, show 0 + bu.1 ≤ bu.1 by omega, show 0 + bu.2 ≤ bu.2 by omega⟩ rfl rfl (Nat.le_of_ble_eq_true rfl) d_La_back_5 cat_La_back_0 (Or.inl ⟨d_La_back_13, rfl⟩) (by decide) rfl ?_
      refine g_iconst (v := 1) C d_La_back_15 (by decide) ?_
      cases hr
      exact g_ireturn C T rfl (show 0 + bu.1 ≤ bu.1 by omega) (show 0 + bu.2 ≤ bu.2 by omega) d_La_back_16
    have hr := of_el z0 hr
    by_cases z1 : i = 0
    · have hr := of_if z1 hr
      subst z1
      refine g_callVT (pa := [.int p1, .int p2]) (lv' := [(0, .ref p0), (1, .int p1), (2, .int p2), (3, .ref p3)]) C cw hl0 (ct_PK_back htr eq1) cd_La_40 kw_in_PK_back kw_se_PK_back ho rfl rfl ⟨Nat.le_of_ble_eq_true rfl, Nat.le_of_ble_eq_true rfl, show 0 + bu.1 ≤ bu.1 by omega, show 0 + bu.2 ≤ bu.2 by omega⟩ rfl rfl (Nat.le_of_ble_eq_true rfl) d_La_back_5 cat_La_back_1 (Or.inl ⟨d_La_back_17, rfl⟩) (by decide) rfl ?_
      refine g_iconst (v := 2) C d_La_back_19 (by decide) ?_
      cases hr
      exact g_ireturn C T rfl (show 0 + bu.1 ≤ bu.1 by omega) (show 0 + bu.2 ≤ bu.2 by omega) d_La_back_20
    have hr := of_el z1 hr
    cases hr
  · refine g_callV (pa := [.int p1, .int p2]) C hl0 (c_PK_back eq1) cd_La_40 kw_in_PK_back kw_se_PK_back ho rfl rfl ⟨Nat.le_of_ble_eq_true rfl, Nat.le_of_ble_eq_true rfl, show 0 + bu.1 ≤ bu.1 by omega, show 0 + bu.2 ≤ bu.2 by omega⟩ rfl rfl (Nat.le_of_ble_eq_true rfl) d_La_back_5 ?_
    refine g_i2l C d_La_back_8 ?_
    obtain ⟨h2, eh2, hr⟩ := of_bnd hr
    refine g_lastore C eh2 d_La_back_9 ?_
    refine g_goto (tgt := 21) C d_La_back_10 (by decide) ?_
    refine g_iconst (v := 0) C d_La_back_21 (by decide) ?_
    cases hr
    exact g_ireturn C T rfl (show 0 + bu.1 ≤ bu.1 by omega) (show 0 + bu.2 ≤ bu.2 by omega) d_La_back_22
theorem cdw_La_back : CDW "PrimeKeysLaw" 87 y_La_back b_La_back 5 (some .int) [(0, 10, 13, 44), (0, 10, 17, 13)] 4 := ⟨tb_4 (List.mem_of_getElem? (i := 26) rfl) rfl, tb_1 (List.mem_of_getElem? (i := 0) (by decide +kernel)) rfl, tb_4 (List.mem_of_getElem? (i := 24) (by decide +kernel)) rfl, by decide +kernel⟩
theorem kw_st_La_back : Cond.static y_La_back ∈ TB := tb_4 (List.mem_of_getElem? (i := 25) (by decide +kernel)) rfl
abbrev b_La_result : ByteArray := method_11_code
abbrev y_La_result : MethodName := ⟨"PrimeKeysLaw", "result", "(LPrimeKeys;I[J)I"⟩
theorem d_La_result_0 : decode b_La_result 0 = .ok (.aload_n 2, 1) := by decide +kernel
theorem d_La_result_1 : decode b_La_result 1 = .ok (.iconst 0, 1) := by decide +kernel
theorem d_La_result_2 : decode b_La_result 2 = .ok (.aload_n 0, 1) := by decide +kernel
theorem d_La_result_3 : decode b_La_result 3 = .ok (.iload_n 1, 1) := by decide +kernel
theorem d_La_result_4 : decode b_La_result 4 = .ok (.invokevirtual 46, 3) := by decide +kernel
theorem d_La_result_7 : decode b_La_result 7 = .ok (.i2l, 1) := by decide +kernel
theorem d_La_result_8 : decode b_La_result 8 = .ok (.lastore, 1) := by decide +kernel
theorem d_La_result_9 : decode b_La_result 9 = .ok (.goto 6, 3) := by decide +kernel
theorem d_La_result_12 : decode b_La_result 12 = .ok (.astore_n 3, 1) := by decide +kernel
theorem d_La_result_13 : decode b_La_result 13 = .ok (.iconst 1, 1) := by decide +kernel
theorem d_La_result_14 : decode b_La_result 14 = .ok (.ireturn, 1) := by decide +kernel
theorem d_La_result_15 : decode b_La_result 15 = .ok (.iconst 0, 1) := by decide +kernel
theorem d_La_result_16 : decode b_La_result 16 = .ok (.ireturn, 1) := by decide +kernel
theorem cd_La_46 : CD "PrimeKeysLaw" 46 y_PK_result b_PK_result 2 (some .int) 1 := ⟨tb_4 (List.mem_of_getElem? (i := 53) rfl) rfl, tb_1 (List.mem_of_getElem? (i := 1) (by decide +kernel)) rfl, tb_4 (List.mem_of_getElem? (i := 50) (by decide +kernel)) rfl, by decide +kernel⟩
theorem kw_in_PK_result : Cond.instanceMethod y_PK_result ∈ TB := tb_4 (List.mem_of_getElem? (i := 51) (by decide +kernel)) rfl
theorem kw_se_PK_result : Cond.selects "PrimeKeys" y_PK_result y_PK_result ∈ TB := tb_4 (List.mem_of_getElem? (i := 52) (by decide +kernel)) rfl
theorem cat_La_result_0 : CAT "PrimeKeysLaw" [(0, 9, 12, 44)] 4 3 12 := ⟨by decide, [], (0, 9, 12, 44), [], rfl, ⟨by decide, by decide⟩, rfl, by decide, tb_4 (List.mem_of_getElem? (i := 27) (by decide +kernel)) rfl, fun _ hy => by cases hy⟩
abbrev rm_La_result : Room := { frames := 7, cells := 1, slots := 6, locals := 102 }
def P_La_result (h : HP) (p0 : Nat) (p1 : Int32) (p2 : Nat) : Option (Int32 × HP) :=
  ob h p0 7 (
  bnd2 (P_PK_result h p0 p1) fun q h1 =>
  match q with
  | .inl i => if i = 3 then some (1, h1) else none
  | .inr r => bnd (stJ h1 p2 0 (Int32.toInt64 r)) fun h2 => some (0, h2))
set_option maxHeartbeats 4000000 in
set_option maxRecDepth 100000 in
theorem c_La_result {l : Launch} (htr : l.stackTraces = false) {h h' : HP} {p0 p1 p2 : _} {r' : Int32} (hr : P_La_result h p0 p1 p2 = some (r', h')) : MPW l y_La_result (Cond.codeWith y_La_result b_La_result 4 (some .int) [(0, 9, 12, 44)] :: TB) rm_La_result h [.ref p0, .int p1, .ref p2] (some (.int r')) h' := by
  refine MPW_intro (cc := b_La_result) (by decide) (Nat.le_of_ble_eq_true rfl) (fun x hl0 C T cw => ?_)
  unfold P_La_result at hr
  show GG x 0 0 h 0 [(0, .ref p0), (1, .int p1), (2, .ref p2)] []
  refine g_aload_n C 2 rfl d_La_result_0 rfl ?_
  refine g_iconst (v := 0) C d_La_result_1 (by decide) ?_
  refine g_aload_n C 0 rfl d_La_result_2 rfl ?_
  refine g_iload_n C 1 rfl d_La_result_3 rfl ?_
  obtain ⟨fs, ho, hr⟩ := of_ob hr
  obtain ⟨q, h1, eq1, hr⟩ := of_bnd2 hr
  rcases q with i | r
  · have eq1 := eq1
    by_cases z0 : i = 3
    · have hr := of_if z0 hr
      subst z0
      refine g_callVT (pa := [.int p1]) (lv' := [(0, .ref p0), (1, .int p1), (2, .ref p2)]) C cw hl0 (ct_PK_result htr eq1) cd_La_46 kw_in_PK_result kw_se_PK_result ho rfl rfl (by decide) rfl rfl (Nat.le_of_ble_eq_true rfl) d_La_result_4 cat_La_result_0 (Or.inr ⟨3, rfl, d_La_result_12, rfl⟩) (by decide) rfl ?_
      refine g_iconst (v := 1) C d_La_result_13 (by decide) ?_
      cases hr
      exact g_ireturn C T rfl (by decide) (by decide) d_La_result_14
    have hr := of_el z0 hr
    cases hr
  · refine g_callV (pa := [.int p1]) C hl0 (c_PK_result eq1) cd_La_46 kw_in_PK_result kw_se_PK_result ho rfl rfl (by decide) rfl rfl (Nat.le_of_ble_eq_true rfl) d_La_result_4 ?_
    refine g_i2l C d_La_result_7 ?_
    obtain ⟨h2, eh2, hr⟩ := of_bnd hr
    refine g_lastore C eh2 d_La_result_8 ?_
    refine g_goto (tgt := 15) C d_La_result_9 (by decide) ?_
    refine g_iconst (v := 0) C d_La_result_15 (by decide) ?_
    cases hr
    exact g_ireturn C T rfl (by decide) (by decide) d_La_result_16
theorem cdw_La_result : CDW "PrimeKeysLaw" 91 y_La_result b_La_result 4 (some .int) [(0, 9, 12, 44)] 3 := ⟨tb_4 (List.mem_of_getElem? (i := 49) rfl) rfl, tb_1 (List.mem_of_getElem? (i := 0) (by decide +kernel)) rfl, tb_4 (List.mem_of_getElem? (i := 47) (by decide +kernel)) rfl, by decide +kernel⟩
theorem kw_st_La_result : Cond.static y_La_result ∈ TB := tb_4 (List.mem_of_getElem? (i := 48) (by decide +kernel)) rfl
