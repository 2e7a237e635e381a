/-! a call that throws, and the handler that catches it; methods with an exception table -/
def NCL : List (Nat × Nat) := [(0, 1), (1, 2), (0, 3)]
def NCW (U : State) : Prop := ∀ ij ∈ NCL, ∃ cX cT : ClassId, U.vm.findClass (exN ij.1) = some cX ∧ U.vm.findClass (exN ij.2) = some cT ∧ U.vm.assignable cX cT = false
def XW (A : Nat → Prop) (U : State) : Prop := XT A U ∧ NCW U
theorem NCW.moved {s U : State} (hal : s.vm.Alike U.vm) (h : NCW s) : NCW U := by
  intro ij hij
  obtain ⟨cX, cT, h1, h2, h3⟩ := h ij hij
  exact ⟨cX, cT, by rw [hal.findClass]; exact h1, by rw [hal.findClass]; exact h2, by rw [hal.assignable]; exact h3⟩
theorem XW.at {A B : Nat → Prop} {s U : State} {H : Heap} {locs : List Loc} (h : XW A s) (hS : va_S A s.heap H locs) (hU : U.heap = H) (hal : s.vm.Alike U.vm) (hB : ∀ q, B q → A q) : XW B U := ⟨h.1.at hS hU hal hB, h.2.moved hal⟩
def MPW (l : Launch) (y : MethodName) (ws : List Cond) (rm : Room) (h : HP) (pa : List Value) (r : Option Value) (h' : HP) : Prop := ∀ (D : va_G) (tg : Nat → ClassId) (ad : AD) (sz : Nat), Met l y ws rm (fun a U => PRE D tg ad sz h pa a U ∧ XW (va_A (wd tg ad h) sz) U) (POST D tg ad sz h r h') rm.cells rm.slots (va_A (wd tg ad h) sz)
def CW (x : CX) (hh : List (Nat × Nat × Nat × Nat)) : Prop := XW x.2.2.1.2.2.1 x.1.2.2.2.2 ∧ x.2.1.2.2.2.2.exceptionTable.toList.map (fun h => (h.startPc, h.endPc, h.handlerPc, h.catchType)) = hh
theorem MPW_intro {l : Launch} {y : MethodName} {cc : ByteArray} {N : Nat} {ret : Option FieldType} {hh : List (Nat × Nat × Nat × Nat)} {rm : Room} {h h' : HP} {pa : List Value} {r : Option Value} (hy : plainName y.cls = true) (hN : (lg_sl pa).length ≤ N)
    (body : ∀ x : CX, x.1.2.1 = l → EV x cc y.cls N rm → CT x ret rm h r h' → CW x hh → GG x 0 0 h 0 (lv_args 0 pa) []) : MPW l y (Cond.codeWith y cc N ret hh :: TB) rm h pa r h' := by
  intro D tg ad sz
  refine va_MetW (cc := cc) (maxL := N) (ret := ret) (hh := hh) hy rfl ?_
  intro p e s m args below meth c s₁ B hml hv
  obtain ⟨⟨rfl, hsz, hwf, hwa, hP, hK, hD0, hNW, hST⟩, hXW⟩ := hv
  subst hsz
  have hD := hD0.self (sz := s.heap.size)
  have hts := atoms_spec (ws := Cond.codeWith y cc N ret hh :: TB) B.pre
  have htab : c.exceptionTable.toList.map (fun h => (h.startPc, h.endPc, h.handlerPc, h.catchType)) = hh := by
    obtain ⟨m', meth', c', q1, q2, q3, -, -, q4, -⟩ := Cond.codeWith_spec (hts _ List.mem_cons_self)
    cases B.named.symm.trans q1
    cases B.method.symm.trans q2
    have X₀ := Stand.of_body B
    cases X₀.code.symm.trans q3
    exact q4
  have hl := lv_entry (pa.map (vv ad)) (n := N) (by rw [lg_sl_map]; exact hN)
  rw [lv_args_map] at hl
  rw [lg_entry_eq]
  generalize (lg_sl (pa.map (vv ad)) ++ List.replicate (N - (lg_sl (pa.map (vv ad))).length) Slot.unset).toArray = ls at hl ⊢
  exact body ((p, l, e, rm, s), (m, (pa.map (vv ad)).toArray, below, meth, c), (D, tg, va_A (wd tg ad h) s.heap.size, N), (h.length, ad, MQ below (POST D tg ad s.heap.size h r h') (pa.map (vv ad)).toArray s rm.cells rm.slots (va_A (wd tg ad h) s.heap.size)))
    rfl ⟨B.exec, B.bytes, hml, rfl, findClass_of_methodNamed B.named, fun w hw => hts w (List.mem_cons_of_mem _ hw), hK, fun q hq => Or.inr hq, hNW, hST, rfl⟩ ⟨B.returns, B.notSynchronized, rfl, rfl, rfl⟩ ⟨hXW, htab⟩ ad s.heap [] ls hwf wfs_0 (wfl_args 0 hwa) ⟨Nat.le_refl _, rfl, fun _ _ => rfl⟩ hP hD va_S.rf hl
/-- the road through the table of handlers: the i-th exception, thrown at pc, is caught at hp -/
def CAT (own : String) (hh : List (Nat × Nat × Nat × Nat)) (pc i hp : Nat) : Prop := i < 4 ∧ ∃ pre e rest, hh = pre ++ e :: rest ∧ (e.1 ≤ pc ∧ pc < e.2.1) ∧ e.2.2.1 = hp ∧ e.2.2.2 ≠ 0 ∧ Cond.classLink own e.2.2.2 (exN i) ∈ TB ∧ ∀ y ∈ pre, y.2.2.2 ≠ 0 ∧ ∃ j, (i, j) ∈ NCL ∧ Cond.classLink own y.2.2.2 (exN j) ∈ TB
theorem DW_self {U : State} {i : Nat} (hi : i < 4) (h : ∀ w ∈ DW, w.before #[] U = true) : ∃ cX, U.vm.findClass (exN i) = some cX ∧ U.vm.assignable cX cX = true := by
  have hm : Cond.castable (exN i) (exN i) ∈ DW := by
    match i, hi with
    | 0, _ => decide +kernel
    | 1, _ => decide +kernel
    | 2, _ => decide +kernel
    | 3, _ => decide +kernel
  obtain ⟨c3, cT, hc3, hcT, hasg⟩ := Cond.castable_spec (h _ hm)
  cases hc3.symm.trans hcT
  exact ⟨c3, hc3, hasg⟩
theorem cat_split {L : List ExceptionTableEntry} {pre rest : List (Nat × Nat × Nat × Nat)} {e : Nat × Nat × Nat × Nat} (h : L.map (fun h => (h.startPc, h.endPc, h.handlerPc, h.catchType)) = pre ++ e :: rest) : ∃ P E R, L = P ++ E :: R ∧ (E.startPc, E.endPc, E.handlerPc, E.catchType) = e ∧ P.map (fun h => (h.startPc, h.endPc, h.handlerPc, h.catchType)) = pre := by
  obtain ⟨P, Q, rfl, hP, hQ⟩ := List.map_eq_append_iff.mp h
  obtain ⟨E, R, rfl, hE, -⟩ := List.map_eq_cons_iff.mp hQ
  exact ⟨P, E, R, rfl, hE, hP⟩
section GX
variable {x : CX} {cc : ByteArray} {own : String} {N : Nat} {rm : Room} {cells slots pc : Nat} {h h' : HP} {lv lv' : List (Nat × Value)} {st : List Value}
theorem PRET.blind {D : va_G} {tg : Nat → ClassId} {ad : AD} {sz : Nat} {pa : List Value} {A : Nat → Prop} : FrameBlind (fun a U => PRE D tg ad sz h pa a U ∧ XT A U) := by
  intro a U g mk q
  exact ⟨PRE.blind a U g mk q.1, XT.same (s := U) (U := U.calling g mk a) q.2 rfl (Vm.Alike.refl U.vm)⟩
theorem PREW.blind {D : va_G} {tg : Nat → ClassId} {ad : AD} {sz : Nat} {pa : List Value} {A : Nat → Prop} : FrameBlind (fun a U => PRE D tg ad sz h pa a U ∧ XW A U) := by
  intro a U g mk q
  exact ⟨PRE.blind a U g mk q.1, XT.same (s := U) (U := U.calling g mk a) q.2.1 rfl (Vm.Alike.refl U.vm), NCW.moved (s := U) (U := U.calling g mk a) (Vm.Alike.refl U.vm) q.2.2⟩
set_option maxHeartbeats 4000000 in
/-- behind a call that threw: at the handler, the exception stored away and forgotten -/
theorem g_callVT (C : EV x cc own N rm) {hh : List (Nat × Nat × Nat × Nat)} (cw : CW x hh) {l : Launch} {y : MethodName} {idx maxL n ci k i hp j la : Nat} {fs : List Value} {z : vw_C} {bytes : ByteArray} {ret : Option FieldType} {r2 : Room} {pa : List Value} {stk : List Value} (hl0 : x.1.2.1 = l) (M : MT l y (Cond.code y bytes maxL ret :: TB) r2 h (.ref k :: pa) i h') (cd : CD own idx y bytes maxL ret n) (hin : Cond.instanceMethod y ∈ TB) (hse : Cond.selects y.cls y y ∈ TB) (ho : h[k]? = some (pO ci fs)) (hc : vwCl[ci]? = some z) (hz : z.1 = y.cls) (ft : FT rm r2 maxL cells slots) (e : stk = pa.reverse ++ .ref k :: st) (hn : pa.length = n) (hw : (st.map fun v => v.category).sum ≤ 8)
    (d : decode cc pc = .ok (.invokevirtual idx, 3)) (ct : CAT own hh pc i hp) (da : decode cc hp = .ok (.astore j, la) ∧ la = 2 ∨ (∃ q : Fin 4, (q : Nat) = j ∧ decode cc hp = .ok (.astore_n q, la) ∧ la = 1)) (hj : j < N) (el : lv.filter (fun q => !(q.1 == j) && !(q.1 + 1 == j && q.2.category == 2)) = lv') (kk : GG x (cells + r2.cells) (slots + r2.slots) h' (hp + la) lv' []) : GG x cells slots h pc lv stk := by
  subst e
  subst hl0
  intro ad H locs ls h1 h2 h3 h4 hP hD hS hl T hT X
  have hpa : wfs h.length (.ref k :: pa) := fun v hv => by
    rcases List.mem_cons.mp hv with q | q
    · rw [q]; exact h2 _ (List.mem_append_right _ List.mem_cons_self)
    · exact h2 v (List.mem_append_left _ (List.mem_reverse.mpr q))
  have hF := wd_free C hD hS
  have hR := C.hR
  have hws : ∀ w ∈ Cond.code y bytes maxL ret :: TB, ∀ (a' : Array Value) (U : State), x.1.2.2.2.2.WarmedH U.vm → w.before a' U = true := pay_in C.ht (good_cons cd.1)
  have hini : ∀ (a' : Array Value) (U : State), x.1.2.2.2.2.WarmedH U.vm → (Cond.initialized y.cls).before a' U = true := fun a' U hW => hws _ (List.mem_cons_of_mem _ cd.2.1) a' U hW
  have hK : BackT x.1.2.1 x.1.2.2.2.1 x.1.1 x.1.2.2.1 x.2.1.2.2.1 x.1.2.2.2.2 x.2.1.2.1 y 3 8 (PreOf x.1.2.2.2.1 r2.cells r2.slots (fun a U => PRE x.2.2.1.1 x.2.2.1.2.1 ad H.size h (.ref k :: pa) a U ∧ XT (va_A (wd x.2.2.1.2.1 ad h) H.size) U))
      (fun A a v B => ∃ (g : JFrame) (mk : MethodId) (t : State) (L : List Loc), POSTT x.2.2.1.1 x.2.2.1.2.1 ad H.size h i h' a (A.U.calling g mk a) (.threw v) t ∧ B.U.heap = t.heap ∧ (∀ q ∈ L, va_A (wd x.2.2.1.2.1 ad h) H.size q.base) ∧ B.locs = A.locs ++ L ∧ B.cells = A.cells + r2.cells ∧ B.slots = A.slots + r2.slots) := by
    refine BackT.of_free (S := headSpec (Cond.code y bytes maxL ret :: TB) r2) (K := fun _ _ _ _ _ => True) (bytes := bytes) (maxL := maxL) (ret := ret) (E := fun a st o t L k n => k = r2.cells ∧ n = r2.slots ∧ ∀ q ∈ L, va_A (wd x.2.2.1.2.1 ad h) H.size q.base) (M x.2.2.1.1 x.2.2.1.2.1 ad H.size) (by rw [hR]; exact ft.1) (by rw [hR]; exact ft.2.1) ?_ ?_ (fun _ _ _ _ _ _ _ _ _ => trivial) ?_ ?_
    · intro m meth c A a X hp
      exact ⟨atoms_intro fun w hw => hws w hw _ _ X.warmed, hws _ List.mem_cons_self _ _ X.warmed, hini _ _ X.warmed, hp.1, hp.2.1⟩
    · intro m meth c A a g mk X hp
      exact PRET.blind _ _ _ _ hp.2.2
    · intro a st o t ⟨hq, L, hF, hL⟩
      exact ⟨L, r2.cells, r2.slots, hF, rfl, rfl, hL⟩
    · intro m meth c A a g mk v t L k n X hp hq hF ⟨e1, e2, hL⟩
      subst e1; subst e2
      exact ⟨g, mk, t, L, hq.1, rfl, hL, rfl, rfl, rfl⟩
  obtain ⟨cellB, hcB, hobj, hcls⟩ := va_recv C.hK hP hc (wd_get ho)
  rw [hz] at hcls
  obtain ⟨mk, methM, hnamed, hmethM, hstM, habM⟩ := Cond.instanceMethod_spec (C.ht _ hin)
  obtain ⟨methM', cM, hmethM', -, -, -, -, -, -, hsigM⟩ := Cond.code_spec hnamed (C.ht _ cd.1)
  cases hmethM.symm.trans hmethM'
  obtain ⟨c2, r2', m2, q1, q2, q3, q4, kP, hkP, hkPi⟩ := Cond.selects_spec (C.ht _ hse)
  cases hcls.symm.trans q1
  cases (State.methodFound?_of_named hnamed ⟨cd.2.2.2.1, cd.2.2.2.2.1⟩).symm.trans q2
  cases hnamed.symm.trans q3
  have hselP : selectMethod x.1.2.2.1.platform x.1.2.2.2.2.vm cellB.cls mk = .method mk := by rw [Launch.admits_selectMethod X.admits]; exact q4
  have hlen : (pa.map (vv ad)).length = methM.sig.parameters.length := by
    have := cd.2.2.2.2.2
    rw [hsigM] at this
    rw [List.length_map, hn]
    exact (Option.some.inj this).symm
  obtain ⟨vm₁, X₁, hstep₁⟩ := X.invokevirtual C.hx C.ho (C.ht _ cd.2.2.1) hnamed hmethM hstM hkP hkPi ⟨cd.2.2.2.1, cd.2.2.2.2.1⟩ (a := ad.1 k) (cell := cellB) (by rw [hT]; exact hcB)
    (fun z h => by rw [h] at hobj; cases hobj) hselP hmethM habM hkP hkPi (g := F0 x.2.1.1 pc ls ((pa.reverse ++ .ref k :: st).map (vv ad))) rfl (argsL := pa.map (vv ad)) (rest := st.map (vv ad)) hlen (by show (pa.reverse ++ .ref k :: st).map (vv ad) = _; rw [List.map_append, List.map_reverse]; rfl) (by rw [C.hb]; exact d)
  obtain ⟨v, B, X', hpost, hsteps⟩ := hK x.2.1.1 x.2.1.2.2.2.1 x.2.1.2.2.2.2 ⟨T.setVm vm₁, locs, cells, slots⟩ (F0 x.2.1.1 pc ls (st.map (vv ad))) (.invokevirtual idx) mk (Value.ref (ad.1 k) :: pa.map (vv ad)).toArray X₁ rfl (by show ls.size = _; rw [C.hm, ← C.hn]; exact hl.1) (by rw [C.hb]; exact d) (lv_room (by rw [List.map_map]; exact (by simpa [Function.comp_def, vv_cat'] using hw))) (X₁.named hnamed)
    ⟨by rw [hR]; exact ft.2.2.1, by rw [hR]; exact ft.2.2.2, pre_at C h1 hpa h4.2.1 hP hD hS hF (T.setVm vm₁) hT X₁.warmed, XT.at cw.1.1 hS hT X₁.warmed.alike hF⟩
  obtain ⟨g', mk', t, L, ⟨a, ha, hsz, ⟨ce, hce, hcf, hcv⟩, ⟨ad', a2, a1, hle, hwf', hP', hD'⟩, hz1, hz2⟩, hBh, hL, hBl, hBc, hBs⟩ := hpost
  cases ha
  obtain ⟨BU, Bl, Bc, Bs⟩ := B
  dsimp only [Pt.U, Pt.locs, Pt.cells, Pt.slots] at X' hBh hBl hBc hBs hsteps hsz hcf hz1 hz2
  subst hBl; subst hBc; subst hBs
  have hcf' : x.1.2.2.2.2.vm.findClass (exN i) = some ce.cls := by
    rw [← X₁.warmed.alike.findClass]; exact hcf
  obtain ⟨hi4, pre, en, rest, hsplit, hcov, hhp, hne, hlk, hpass⟩ := ct
  obtain ⟨P, E, Rr, hL1, hE, hPm⟩ := cat_split (cw.2.trans hsplit)
  obtain ⟨cX, hcX, hasg⟩ := DW_self hi4 cw.1.1.1
  cases hcX.symm.trans hcf'
  have hE1 : E.startPc = en.1 := by rw [← hE]
  have hE2 : E.endPc = en.2.1 := by rw [← hE]
  have hE3 : E.handlerPc = hp := by rw [← hhp, ← hE]
  have hE4 : E.catchType = en.2.2.2 := by rw [← hE]
  obtain ⟨hend, hk0⟩ := X'.catches_of_link C.ho (x := E) (by rw [hE4]; exact hne) (by rw [hE4]; exact C.ht _ hlk) hcX hasg
  have hpl : x.1.2.2.1.platform.magicAccessors = ({} : Platform).magicAccessors := by rw [X.admits.platform]
  obtain ⟨vm', XV, st2⟩ := X'.thenCaughtThrough v (g := F0 x.2.1.1 pc ls (st.map (vv ad))) rfl (s₀ := T.setTop (F0 x.2.1.1 pc ls ((pa.reverse ++ .ref k :: st).map (vv ad)))) (hstep₁ _ fun acts => by rw [doInvoke_state]; exact hsteps) (cell := ce) (by rw [hBh]; exact hce) (by rw [hcv]; rfl) hk0 P E Rr hL1 (by
      intro r hr
      have hr' : (r.startPc, r.endPc, r.handlerPc, r.catchType) ∈ pre := by rw [← hPm]; exact List.mem_map.mpr ⟨r, hr, rfl⟩
      obtain ⟨g1, j', g2, g3⟩ := hpass _ hr'
      obtain ⟨cX', cT, w1, w2, w3⟩ := cw.1.2 _ g2
      cases hcX.symm.trans w1
      obtain ⟨c', hc', hcl⟩ := Cond.classLink_spec C.ho (C.ht _ g3) x.1.2.2.1.platform hpl
      cases w2.symm.trans hc'
      exact Or.inr ⟨g1, cT, hcl, w3⟩) (by
      show covers E pc = true
      simp only [covers, hE1, hE2]
      simp [hcov.1, hcov.2]) hend
  rw [hE3] at st2
  have hS' : va_S x.2.2.1.2.2.1 x.1.2.2.2.2.heap (BU.setVm vm').heap (locs ++ L) := by
    have hTh : (T.setVm vm₁).heap = H := hT
    refine ⟨Nat.le_trans hS.1 ?_, fun q g1 g2 => ?_, fun q hq => ?_⟩
    · show H.size ≤ BU.heap.size
      rw [hBh, ← hTh]; exact hz1
    · show BU.heap[q]? = _
      rw [hBh, hz2 q (by show q < (T.setVm vm₁).heap.size; rw [hTh]; exact Nat.lt_of_lt_of_le g1 hS.1) (fun z => g2 (hF q z))]
      show (T.setVm vm₁).heap[q]? = _
      rw [hTh]
      exact hS.2.1 q g1 g2
    · rcases List.mem_append.mp hq with z | z
      · exact hS.2.2 q z
      · exact hF _ (hL q z)
  have hl' : lv_has ls x.2.2.1.2.2.2 (lm ad' lv) := by rw [lm_agree a2 a1 h3]; exact hl
  have go : W x.1.1 x.1.2.1 x.1.2.2.1 x.1.2.2.2.1 x.1.2.2.2.2 x.2.1.1 x.2.1.2.1 x.2.1.2.2.1 x.2.1.2.2.2.1 x.2.1.2.2.2.2 (BU.setVm vm').heap (locs ++ L) (cells + r2.cells) (slots + r2.slots) x.2.2.2.2.2 (F0 x.2.1.1 hp ls [.ref v]) := by
    have fin : ∀ ls' : Array Slot, lv_has ls' x.2.2.1.2.2.2 ((j, Value.ref v) :: (lm ad' lv).filter (fun q => !(q.1 == j) && !(q.1 + 1 == j && q.2.category == 2))) → W x.1.1 x.1.2.1 x.1.2.2.1 x.1.2.2.2.1 x.1.2.2.2.2 x.2.1.1 x.2.1.2.1 x.2.1.2.2.1 x.2.1.2.2.2.1 x.2.1.2.2.2.2 (BU.setVm vm').heap (locs ++ L) (cells + r2.cells) (slots + r2.slots) x.2.2.2.2.2 (F0 x.2.1.1 (hp + la) ls' []) := by
      intro ls' hls
      rw [lm_filter, el] at hls
      refine kk ad' _ (locs ++ L) ls' hwf' wfs_0 (by rw [← el]; exact wfl_f _ (wfl_up h3 hle)) ⟨Nat.le_trans h4.1 hle, a2.trans h4.2.1, fun k hk => (a1 k (Nat.lt_of_lt_of_le hk h4.1)).trans (h4.2.2 k hk)⟩ (by show va_P _ _ _ BU.heap; rw [hBh]; exact hP') (hD'.weaken (fun _ _ _ z => hF _ z)) hS' ⟨hls.1, ?_, fun q hq => hls.2.2 q (List.mem_cons_of_mem _ hq)⟩
      exact hls.2.1
    rcases da with ⟨da, rfl⟩ | ⟨q, hq, da, rfl⟩
    · exact lv_astore C.hx C.hb da hl' (by rw [C.hn]; exact hj) rfl fin
    · exact lv_astore_n C.hx C.hb da hq hl' (by rw [C.hn]; exact hj) rfl fin
  obtain ⟨t2, b1, b2⟩ := go (BU.setVm vm') rfl XV
  exact ⟨t2, st2.trans b1, b2⟩
end GX
