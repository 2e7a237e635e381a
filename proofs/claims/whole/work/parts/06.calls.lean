/-! CONTRACTS over the pure heap, and calls -/
def PRE (D : va_G) (tg : Nat → ClassId) (ad : AD) (sz : Nat) (h : HP) (pa : List Value) : Array Value → State → Prop := va_Pc (pa.map (vv ad)) (fun U => U.heap.size = sz ∧ wfh h ∧ wfs h.length pa ∧ va_P D vwCl (wd tg ad h) U.heap ∧ va_K D vwCl (tysOf tg) U ∧ va_D (fun _ => True) (wd tg ad h) ∧ NW U ∧ ST ad.2 (va_A (wd tg ad h) sz) U)
def POST (D : va_G) (tg : Nat → ClassId) (ad : AD) (sz : Nat) (h : HP) (r : Option Value) (h' : HP) : Array Value → State → Outcome → State → Prop := fun _ st oc t => (∃ ad' : AD, ad'.2 = ad.2 ∧ (∀ k, k < h.length → ad'.1 k = ad.1 k) ∧ h.length ≤ h'.length ∧ oc = .returned (r.map (vv ad')) ∧ wfh h' ∧ wfs h'.length r.toList ∧ va_P D vwCl (wd tg ad' h') t.heap ∧ va_D (va_A (wd tg ad h) sz) (wd tg ad' h')) ∧ va_F (va_A (wd tg ad h) sz) st t
def MP (l : Launch) (y : MethodName) (ws : List Cond) (rm : Room) (h : HP) (pa : List Value) (r : Option Value) (h' : HP) : Prop := ∀ (D : va_G) (tg : Nat → ClassId) (ad : AD) (sz : Nat), Met l y ws rm (PRE D tg ad sz h pa) (POST D tg ad sz h r h') rm.cells rm.slots (va_A (wd tg ad h) sz)
/-- the end of the body that is walked: what it returns, over which heap -/
def CT (x : CX) (ret : Option FieldType) (rm : Room) (h0 : HP) (r : Option Value) (h' : HP) : Prop :=
  x.2.1.2.2.2.1.sig.returnType = ret ∧ x.2.1.2.2.2.1.locks = false ∧ x.2.2.1.2.2.1 = va_A (wd x.2.2.1.2.1 x.2.2.2.2.1 h0) x.1.2.2.2.2.heap.size ∧ x.2.2.2.1 = h0.length ∧ x.2.2.2.2.2 = MQ x.2.1.2.2.1 (POST x.2.2.1.1 x.2.2.1.2.1 x.2.2.2.2.1 x.1.2.2.2.2.heap.size h0 r h') x.2.1.2.1 x.1.2.2.2.2 rm.cells rm.slots x.2.2.1.2.2.1
theorem lv_args_map (ad : AD) : ∀ (i : Nat) (vs : List Value), lv_args i (vs.map (vv ad)) = lm ad (lv_args i vs)
  | _, [] => rfl
  | i, v :: vs => by
    show (i, vv ad v) :: lv_args (if (vv ad v).category = 2 then i + 2 else i + 1) (vs.map (vv ad)) = (i, vv ad v) :: lm ad (lv_args (if v.category = 2 then i + 2 else i + 1) vs)
    rw [vv_cat', lv_args_map ad _ vs]
theorem lg_sl_map (ad : AD) : ∀ (vs : List Value), (lg_sl (vs.map (vv ad))).length = (lg_sl vs).length
  | [] => rfl
  | v :: vs => by
    have ih := lg_sl_map ad vs
    simp only [lg_sl, List.map_cons, List.flatMap_cons, List.length_append] at ih ⊢
    rw [ih, vv_cat']
    congr 1
    split <;> rfl
theorem wfl_args {n : Nat} : ∀ (i : Nat) {vs : List Value}, wfs n vs → wfl n (lv_args i vs)
  | _, [], _ => fun _ h => by cases h
  | i, v :: vs, h => wfl_c (wfs_h h) (wfl_args _ (wfs_t h))
theorem MP_intro {l : Launch} {y : MethodName} {cc : ByteArray} {N : Nat} {ret : Option FieldType} {rm : Room} {h h' : HP} {pa : List Value} {r : Option Value} (hy : plainName y.cls = true) (hN : (lg_sl pa).length ≤ N)
    (body : ∀ x : CX, x.1.2.1 = l → EV x cc y.cls N rm → CT x ret rm h r h' → x.2.1.2.2.2.1.name = y.name → GG x 0 0 h 0 (lv_args 0 pa) []) : MP l y (Cond.code y cc N ret :: TB) rm h pa r h' := by
  intro D tg ad sz
  refine Met.ofW (cc := cc) (maxL := N) (ret := ret) hy rfl ?_
  intro p e s m args below meth c s₁ B hml hv
  obtain ⟨rfl, hsz, hwf, hwa, hP, hK, hD0, hNW, hST⟩ := hv
  subst hsz
  have hD := hD0.self (sz := s.heap.size)
  have hts := atoms_spec (ws := Cond.code y cc N ret :: TB) B.pre
  have hl := lv_entry (pa.map (vv ad)) (n := N) (by rw [lg_sl_map]; exact hN)
  rw [lv_args_map] at hl
  rw [lg_entry_eq]
  generalize (lg_sl (pa.map (vv ad)) ++ List.replicate (N - (lg_sl (pa.map (vv ad))).length) Slot.unset).toArray = ls at hl ⊢
  exact body ((p, l, e, rm, s), (m, (pa.map (vv ad)).toArray, below, meth, c), (D, tg, va_A (wd tg ad h) s.heap.size, N), (h.length, ad, MQ below (POST D tg ad s.heap.size h r h') (pa.map (vv ad)).toArray s rm.cells rm.slots (va_A (wd tg ad h) s.heap.size)))
    rfl ⟨B.exec, B.bytes, hml, rfl, findClass_of_methodNamed B.named, fun w hw => hts w (List.mem_cons_of_mem _ hw), hK, fun q hq => Or.inr hq, hNW, hST, rfl⟩ ⟨B.returns, B.notSynchronized, rfl, rfl, rfl⟩ (name_of_methodNamed B.named B.method).1 ad s.heap [] ls hwf wfs_0 (wfl_args 0 hwa) ⟨Nat.le_refl _, rfl, fun _ _ => rfl⟩ hP hD va_S.rf hl
section GC
variable {x : CX} {cc : ByteArray} {own : String} {N : Nat} {rm : Room} {cells slots pc : Nat} {h h0 h' : HP} {lv lv' : List (Nat × Value)} {st : List Value}
theorem ct_post {ret : Option FieldType} {r : Option Value} {ad : AD} {H : Heap} {locs : List Loc} (T : CT x ret rm h0 r h) (h1 : wfh h) (hr : wfs h.length r.toList) (h4 : x.2.2.2.1 ≤ h.length ∧ ad.2 = x.2.2.2.2.1.2 ∧ ∀ k, k < x.2.2.2.1 → ad.1 k = x.2.2.2.2.1.1 k)
    (hP : va_P x.2.2.1.1 vwCl (wd x.2.2.1.2.1 ad h) H) (hD : va_D x.2.2.1.2.2.1 (wd x.2.2.1.2.1 ad h)) (hS : va_S x.2.2.1.2.2.1 x.1.2.2.2.2.heap H locs) (t : State) (ht : t.heap = H) :
    POST x.2.2.1.1 x.2.2.1.2.1 x.2.2.2.2.1 x.1.2.2.2.2.heap.size h0 r h x.2.1.2.1 x.1.2.2.2.2 (.returned (r.map (vv ad))) t := by
  obtain ⟨-, -, hA, hn, -⟩ := T
  rw [hn] at h4
  rw [hA] at hD hS
  exact ⟨⟨ad, h4.2.1, h4.2.2, h4.1, rfl, h1, hr, by rw [ht]; exact hP, hD⟩, hS.F ht⟩
theorem g_ireturn (C : EV x cc own N rm) {ty : FieldType} {a : Int32} (T : CT x (some ty) rm h0 (some (.int a)) h) (hn : narrow ty (.int a) = .int a) (hc : cells ≤ rm.cells) (hs : slots ≤ rm.slots) (d : decode cc pc = .ok (.ireturn, 1)) : GG x cells slots h pc lv [.int a] := by
  intro ad H locs ls h1 h2 h3 h4 hP hD hS hl
  refine W.widen hc hs ?_
  rw [T.2.2.2.2]
  exact W.zret C.hx C.hb T.1 hn (fun t ht hW => ct_post T h1 h2 h4 hP hD hS t ht) hS.2.2 d (hlocks := T.2.1)
theorem g_lreturn (C : EV x cc own N rm) {a : Int64} (T : CT x (some .long) rm h0 (some (.long a)) h) (hc : cells ≤ rm.cells) (hs : slots ≤ rm.slots) (d : decode cc pc = .ok (.lreturn, 1)) : GG x cells slots h pc lv [.long a] := by
  intro ad H locs ls h1 h2 h3 h4 hP hD hS hl
  refine W.widen hc hs ?_
  rw [T.2.2.2.2]
  exact W.lret C.hx C.hb T.1 (fun t ht hW => ct_post T h1 h2 h4 hP hD hS t ht) hS.2.2 d (hlocks := T.2.1)
theorem g_vreturn (C : EV x cc own N rm) (T : CT x none rm h0 none h) (hc : cells ≤ rm.cells) (hs : slots ≤ rm.slots) (d : decode cc pc = .ok (.return_, 1)) : GG x cells slots h pc lv [] := by
  intro ad H locs ls h1 h2 h3 h4 hP hD hS hl
  refine W.widen hc hs ?_
  rw [T.2.2.2.2]
  exact W.vret C.hx C.hb T.1 (fun t ht hW => ct_post T h1 h2 h4 hP hD hS t ht) hS.2.2 d (hlocks := T.2.1)
/-- what a call needs of the tables -/
abbrev CD (own : String) (idx : Nat) (y : MethodName) (bytes : ByteArray) (maxL : Nat) (ret : Option FieldType) (n : Nat) : Prop :=
  Cond.code y bytes maxL ret ∈ TB ∧ Cond.initialized y.cls ∈ TB ∧ Cond.methodLink own idx y ∈ TB ∧ (y.cls ≠ "java/lang/invoke/MethodHandle" ∧ y.cls ≠ "java/lang/invoke/VarHandle" ∧ (parseMethodDescriptor y.desc).map (fun d => d.parameters.length) = some n)
abbrev FT (rm r2 : Room) (maxL cells slots : Nat) : Prop := r2.frames + 1 ≤ rm.frames ∧ 8 + (maxL + 11) + r2.locals ≤ rm.locals ∧ cells + r2.cells ≤ rm.cells ∧ slots + r2.slots ≤ rm.slots
theorem good_cons {y : MethodName} {bytes : ByteArray} {maxL : Nat} {ret : Option FieldType} (hc : Cond.code y bytes maxL ret ∈ TB) : GoodIn TB (Cond.code y bytes maxL ret :: TB) := by
  intro w hw
  rcases List.mem_cons.mp hw with z | z
  · rw [z]; exact goodTB _ hc
  · exact goodTB _ z
theorem NW.moved {U V : State} (hW : U.WarmedH V.vm) (h : NW U) : NW V := by
  intro w hw
  have hz := h w hw
  rcases nestNB w hw with ⟨a, i, b, n, d, t, rfl⟩ | ⟨a, i, y, t, rfl⟩
  · exact va_Nw.warmF hW hz
  · exact va_Nw.warmM hW hz
theorem NW.same {U V : State} (e : U.vm = V.vm) (h : NW U) : NW V := by
  intro w hw
  refine va_Nw.same ?_ e (h w hw)
  rcases nestNB w hw with ⟨a, i, b, n, d, t, rfl⟩ | ⟨a, i, y, t, rfl⟩ <;> rfl
theorem ST.at {sa : Nat → Nat} {A B : Nat → Prop} {s U : State} {H : Heap} {locs : List Loc} (h : ST sa A s) (hS : va_S A s.heap H locs) (hU : U.heap = H) (hW : s.vm.Alike U.vm) (hB : ∀ q, B q → A q) : ST sa B U := by
  intro i hi
  obtain ⟨h1, h2⟩ := h i hi
  refine ⟨?_, ?_⟩
  · have := ((h1.kept (H1 := H) (fun a h3 h4 => hS.2.1 a h3 h4)).moved hW).narrow hB
    rw [hU]; exact this
  · have := ((h2.kept (H1 := H) (fun a h3 h4 => hS.2.1 a h3 h4)).moved hW).narrow hB
    rw [hU]; exact this
theorem PRE.blind {D : va_G} {tg : Nat → ClassId} {ad : AD} {sz : Nat} {pa : List Value} : FrameBlind (PRE D tg ad sz h pa) := by
  intro a U g mk q
  obtain ⟨q0, q1, q2, q3, q4, q5, q6, q7, q8⟩ := q
  exact ⟨q0, q1, q2, q3, q4, va_K.moved (u := U) (U := U.calling g mk a) (Vm.Alike.refl U.vm) q5, q6, NW.same (U := U) (V := U.calling g mk a) rfl q7, fun i hi => ⟨((q8 i hi).1).moved (U := U.calling g mk a) (Vm.Alike.refl U.vm), ((q8 i hi).2).moved (U := U.calling g mk a) (Vm.Alike.refl U.vm)⟩⟩
theorem pre_at (C : EV x cc own N rm) {ad : AD} {H : Heap} {locs : List Loc} {pa : List Value} (h1 : wfh h) (hpa : wfs h.length pa) (h4 : ad.2 = x.2.2.2.2.1.2) (hP : va_P x.2.2.1.1 vwCl (wd x.2.2.1.2.1 ad h) H) (hD : va_D x.2.2.1.2.2.1 (wd x.2.2.1.2.1 ad h)) (hS : va_S x.2.2.1.2.2.1 x.1.2.2.2.2.heap H locs)
    (hF : ∀ q, va_A (wd x.2.2.1.2.1 ad h) H.size q → x.2.2.1.2.2.1 q) (U : State) (hU : U.heap = H) (hW : x.1.2.2.2.2.WarmedH U.vm) : PRE x.2.2.1.1 x.2.2.1.2.1 ad H.size h pa (pa.map (vv ad)).toArray U := by
  refine ⟨rfl, by rw [hU], h1, hpa, by rw [hU]; exact hP, va_K.moved hW.alike C.hK, hD.weaken (fun _ _ _ _ => trivial), NW.moved hW C.hN, ?_⟩
  rw [h4]
  exact ST.at C.hS hS hU hW.alike hF
theorem wd_free (C : EV x cc own N rm) {ad : AD} {H : Heap} {locs : List Loc} (hD : va_D x.2.2.1.2.2.1 (wd x.2.2.1.2.1 ad h)) (hS : va_S x.2.2.1.2.2.1 x.1.2.2.2.2.heap H locs) : ∀ q, va_A (wd x.2.2.1.2.1 ad h) H.size q → x.2.2.1.2.2.1 q := by
  intro q hq
  rcases hq with ⟨k, e, hk⟩ | hq
  · exact hD.2 k _ hk
  · exact C.hA q (Nat.le_trans hS.1 hq)
/-- behind a call -/
theorem g_back {ad : AD} {H : Heap} {locs : List Loc} {ls : Array Slot} {st0 : List Value} {r : Option Value} {rc rs : Nat} {a : Array Value} (C : EV x cc own N rm) (h2 : wfs h.length st) (h3 : wfl h.length lv) (h4 : x.2.2.2.1 ≤ h.length ∧ ad.2 = x.2.2.2.2.1.2 ∧ ∀ k, k < x.2.2.2.1 → ad.1 k = x.2.2.2.2.1.1 k) (hD : va_D x.2.2.1.2.2.1 (wd x.2.2.1.2.1 ad h)) (hS : va_S x.2.2.1.2.2.1 x.1.2.2.2.2.heap H locs) (hl : lv_has ls x.2.2.1.2.2.2 (lm ad lv))
    (hr : va_Run x.1.1 x.1.2.1 x.1.2.2.1 x.1.2.2.2.1 x.1.2.2.2.2 x.2.1.1 x.2.1.2.1 x.2.1.2.2.1 x.2.1.2.2.2.1 x.2.1.2.2.2.2 H locs cells slots rc rs (F0 x.2.1.1 pc ls st0) (st.map (vv ad)) (POST x.2.2.1.1 x.2.2.1.2.1 ad H.size h r h' a) (va_A (wd x.2.2.1.2.1 ad h) H.size))
    (kk : GG x (cells + rc) (slots + rs) h' (pc + 3) lv (r.toList ++ st)) : W x.1.1 x.1.2.1 x.1.2.2.1 x.1.2.2.2.1 x.1.2.2.2.2 x.2.1.1 x.2.1.2.1 x.2.1.2.2.1 x.2.1.2.2.2.1 x.2.1.2.2.2.2 H locs cells slots x.2.2.2.2.2 (F0 x.2.1.1 pc ls st0) := by
  have hF := wd_free C hD hS
  intro T hT X
  obtain ⟨v, st₀, t, T', L, e0, X', hL, e1, e2, ⟨⟨ad', a2, a1, hle, hv, hw, hwr, hP', hD'⟩, hz, hk⟩, go⟩ := hr T hT X
  rw [e0] at hz hk
  have hv' : v = r.map (vv ad') := by injection hv
  subst hv'
  have hS' : va_S x.2.2.1.2.2.1 x.1.2.2.2.2.heap T'.heap (locs ++ L) := by
    refine ⟨Nat.le_trans hS.1 (by rw [e1]; exact hz), fun q g1 g2 => ?_, fun q hq => ?_⟩
    · rw [e1, hk q (Nat.lt_of_lt_of_le g1 hS.1) (fun z => g2 (hF q z))]
      exact hS.2.1 q g1 g2
    · rcases List.mem_append.mp hq with z | z
      · exact hS.2.2 q z
      · exact hF _ (hL q z)
  have hst : (r.toList ++ st).map (vv ad') = (r.map (vv ad')).toList ++ st.map (vv ad) := by
    rw [List.map_append, vs_agree a2 a1 h2]
    cases r <;> rfl
  have := kk ad' T'.heap (locs ++ L) ls hw (by
      intro z hz
      rcases List.mem_append.mp hz with y | y
      · exact hwr z y
      · exact wfv_up (h2 z y) hle) (wfl_up h3 hle) ⟨Nat.le_trans h4.1 hle, a2.trans h4.2.1, fun k hk => (a1 k (Nat.lt_of_lt_of_le hk h4.1)).trans (h4.2.2 k hk)⟩ (by rw [e1]; exact hP') (hD'.weaken (fun _ _ _ z => hF _ z)) hS' (by rw [lm_agree a2 a1 h3]; exact hl)
  obtain ⟨t2, b1, b2⟩ := this T' rfl X'
  rw [hst] at b1
  exact ⟨t2, go t2 b1, b2⟩
theorem g_callS (C : EV x cc own N rm) {l : Launch} {y : MethodName} {idx maxL n : Nat} {bytes : ByteArray} {ret : Option FieldType} {r2 : Room} {pa : List Value} {r : Option Value} {stk : List Value} (hl0 : x.1.2.1 = l) (M : MP l y (Cond.code y bytes maxL ret :: TB) r2 h pa r h') (cd : CD own idx y bytes maxL ret n) (hst : Cond.static y ∈ TB) (ft : FT rm r2 maxL cells slots) (e : stk = pa.reverse ++ st) (hn : pa.length = n) (hw : (st.map fun v => v.category).sum ≤ 8)
    (d : decode cc pc = .ok (.invokestatic idx, 3)) (kk : GG x (cells + r2.cells) (slots + r2.slots) h' (pc + 3) lv (r.toList ++ st)) : GG x cells slots h pc lv stk := by
  subst e
  subst hl0
  intro ad H locs ls h1 h2 h3 h4 hP hD hS hl
  have hpa : wfs h.length pa := fun v hv => h2 v (List.mem_append_left _ (List.mem_reverse.mpr hv))
  have hs2 : wfs h.length st := fun v hv => h2 v (List.mem_append_right _ hv)
  have hR := C.hR
  have run := va_runS (rest := st.map (vv ad)) (As := pa.map (vv ad)) (g := F0 x.2.1.1 pc ls ((pa.reverse ++ st).map (vv ad))) (locs := locs) (cells := cells) (slots := slots) (e := x.1.2.2.1) (below := x.2.1.2.2.1) (meth := x.2.1.2.2.2.1) (R := x.1.2.2.2.1) (nL := N) ⟨C.hx, C.hb, C.hm, C.ho, C.ht⟩ (M x.2.2.1.1 x.2.2.1.2.1 ad H.size)
    ⟨callB_of (Ts := TB) n C.ht (good_cons cd.1) rfl rfl rfl (C.ht _ cd.2.1) (C.ht _ cd.2.2.1) cd.2.2.2 (by rw [hR]; exact ⟨ft.1, ft.2.1⟩), C.ht _ hst⟩ ⟨PRE.blind, fun U hU hW => pre_at C h1 hpa h4.2.1 hP hD hS (wd_free C hD hS) U hU hW⟩ rfl (by rw [List.length_map]; exact hn) (by rw [← C.hn]; exact hl.1) (by rw [List.map_append, List.map_reverse]) (lv_room (by rw [List.map_map]; exact (by simpa [Function.comp_def, vv_cat'] using hw))) d (by rw [hR]; exact ft.2.2)
  exact g_back C hs2 h3 h4 hD hS hl run kk
theorem g_callV (C : EV x cc own N rm) {l : Launch} {y : MethodName} {idx maxL n ci k : Nat} {fs : List Value} {z : vw_C} {bytes : ByteArray} {ret : Option FieldType} {r2 : Room} {pa : List Value} {r : Option Value} {stk : List Value} (hl0 : x.1.2.1 = l) (M : MP l y (Cond.code y bytes maxL ret :: TB) r2 h (.ref k :: pa) r h') (cd : CD own idx y bytes maxL ret n) (hin : Cond.instanceMethod y ∈ TB) (hse : Cond.selects y.cls y y ∈ TB) (ho : h[k]? = some (pO ci fs)) (hc : vwCl[ci]? = some z) (hz : z.1 = y.cls) (ft : FT rm r2 maxL cells slots) (e : stk = pa.reverse ++ .ref k :: st) (hn : pa.length = n) (hw : (st.map fun v => v.category).sum ≤ 8)
    (d : decode cc pc = .ok (.invokevirtual idx, 3)) (kk : GG x (cells + r2.cells) (slots + r2.slots) h' (pc + 3) lv (r.toList ++ st)) : GG x cells slots h pc lv stk := by
  subst e
  subst hl0
  intro ad H locs ls h1 h2 h3 h4 hP hD hS hl
  have hpa : wfs h.length (.ref k :: pa) := fun v hv => by
    rcases List.mem_cons.mp hv with q | q
    · rw [q]; exact h2 _ (List.mem_append_right _ List.mem_cons_self)
    · exact h2 v (List.mem_append_left _ (List.mem_reverse.mpr q))
  have hs2 : wfs h.length st := fun v hv => h2 v (List.mem_append_right _ (List.mem_cons_of_mem _ hv))
  have hR := C.hR
  have run := va_runV (C := y.cls) (b := ad.1 k) (rest := st.map (vv ad)) (As := pa.map (vv ad)) (g := F0 x.2.1.1 pc ls ((pa.reverse ++ .ref k :: st).map (vv ad))) (locs := locs) (cells := cells) (slots := slots) (e := x.1.2.2.1) (below := x.2.1.2.2.1) (meth := x.2.1.2.2.2.1) (R := x.1.2.2.2.1) (nL := N) ⟨C.hx, C.hb, C.hm, C.ho, C.ht⟩ (M x.2.2.1.1 x.2.2.1.2.1 ad H.size)
    ⟨callB_of (Ts := TB) n C.ht (good_cons cd.1) rfl rfl rfl (C.ht _ cd.2.1) (C.ht _ cd.2.2.1) cd.2.2.2 (by rw [hR]; exact ⟨ft.1, ft.2.1⟩), C.ht _ hin, C.ht _ hse⟩ ⟨PRE.blind, by rw [← hz]; exact va_recv C.hK hP hc (wd_get ho), fun U hU hW => pre_at C h1 hpa h4.2.1 hP hD hS (wd_free C hD hS) U hU hW⟩ rfl (by rw [List.length_map]; exact hn) (by rw [← C.hn]; exact hl.1) (by rw [List.map_append, List.map_reverse]; rfl) (lv_room (by rw [List.map_map]; exact (by simpa [Function.comp_def, vv_cat'] using hw))) d (by rw [hR]; exact ft.2.2)
  exact g_back C hs2 h3 h4 hD hS hl run kk
theorem g_callI (C : EV x cc own N rm) {l : Launch} {y : MethodName} {idx maxL n k : Nat} {bytes : ByteArray} {r2 : Room} {pa : List Value} {r : Option Value} {stk : List Value} (hl0 : x.1.2.1 = l) (M : MP l y (Cond.code y bytes maxL none :: TB) r2 h (.ref k :: pa) r h') (cd : CD own idx y bytes maxL none n) (hin : Cond.instanceMethod y ∈ TB) (hy : y.name = "<init>") (ft : FT rm r2 maxL cells slots) (e : stk = pa.reverse ++ .ref k :: st) (hn : pa.length = n) (hw : (st.map fun v => v.category).sum ≤ 8)
    (d : decode cc pc = .ok (.invokespecial idx, 3)) (kk : GG x (cells + r2.cells) (slots + r2.slots) h' (pc + 3) lv (r.toList ++ st)) : GG x cells slots h pc lv stk := by
  subst e
  subst hl0
  intro ad H locs ls h1 h2 h3 h4 hP hD hS hl
  have hpa : wfs h.length (.ref k :: pa) := fun v hv => by
    rcases List.mem_cons.mp hv with q | q
    · rw [q]; exact h2 _ (List.mem_append_right _ List.mem_cons_self)
    · exact h2 v (List.mem_append_left _ (List.mem_reverse.mpr q))
  have hs2 : wfs h.length st := fun v hv => h2 v (List.mem_append_right _ (List.mem_cons_of_mem _ hv))
  have hR := C.hR
  have run := va_runI (b := ad.1 k) (rest := st.map (vv ad)) (As := pa.map (vv ad)) (g := F0 x.2.1.1 pc ls ((pa.reverse ++ .ref k :: st).map (vv ad))) (locs := locs) (cells := cells) (slots := slots) (e := x.1.2.2.1) (below := x.2.1.2.2.1) (meth := x.2.1.2.2.2.1) (R := x.1.2.2.2.1) (nL := N) ⟨C.hx, C.hb, C.hm, C.ho, C.ht⟩ (M x.2.2.1.1 x.2.2.1.2.1 ad H.size)
    ⟨callB_of (Ts := TB) n C.ht (good_cons cd.1) rfl rfl rfl (C.ht _ cd.2.1) (C.ht _ cd.2.2.1) cd.2.2.2 (by rw [hR]; exact ⟨ft.1, ft.2.1⟩), hy, C.ht _ hin⟩ ⟨PRE.blind, fun U hU hW => pre_at C h1 hpa h4.2.1 hP hD hS (wd_free C hD hS) U hU hW⟩ rfl (by rw [List.length_map]; exact hn) (by rw [← C.hn]; exact hl.1) (by rw [List.map_append, List.map_reverse]; rfl) (lv_room (by rw [List.map_map]; exact (by simpa [Function.comp_def, vv_cat'] using hw))) d (by rw [hR]; exact ft.2.2)
  exact g_back C hs2 h3 h4 hD hS hl run kk
abbrev CDN (own : String) (idx : Nat) (y : MethodName) (host : String) (bytes : ByteArray) (maxL : Nat) (ret : Option FieldType) (n : Nat) : Prop :=
  Cond.code y bytes maxL ret ∈ TB ∧ Cond.initialized y.cls ∈ TB ∧ Cond.methodLinkNest own idx y host ∈ NB ∧ (y.cls ≠ "java/lang/invoke/MethodHandle" ∧ y.cls ≠ "java/lang/invoke/VarHandle" ∧ (parseMethodDescriptor y.desc).map (fun d => d.parameters.length) = some n)
theorem g_callIN (C : EV x cc own N rm) {l : Launch} {y : MethodName} {host : String} {idx maxL n k : Nat} {bytes : ByteArray} {r2 : Room} {pa : List Value} {r : Option Value} {stk : List Value} (hl0 : x.1.2.1 = l) (M : MP l y (Cond.code y bytes maxL none :: TB) r2 h (.ref k :: pa) r h') (cd : CDN own idx y host bytes maxL none n) (hin : Cond.instanceMethod y ∈ TB) (hy : y.name = "<init>") (ft : FT rm r2 maxL cells slots) (e : stk = pa.reverse ++ .ref k :: st) (hn : pa.length = n) (hw : (st.map fun v => v.category).sum ≤ 8)
    (d : decode cc pc = .ok (.invokespecial idx, 3)) (kk : GG x (cells + r2.cells) (slots + r2.slots) h' (pc + 3) lv (r.toList ++ st)) : GG x cells slots h pc lv stk := by
  subst e
  subst hl0
  intro ad H locs ls h1 h2 h3 h4 hP hD hS hl
  have hpa : wfs h.length (.ref k :: pa) := fun v hv => by
    rcases List.mem_cons.mp hv with q | q
    · rw [q]; exact h2 _ (List.mem_append_right _ List.mem_cons_self)
    · exact h2 v (List.mem_append_left _ (List.mem_reverse.mpr q))
  have hs2 : wfs h.length st := fun v hv => h2 v (List.mem_append_right _ (List.mem_cons_of_mem _ hv))
  have hR := C.hR
  have run := va_runIN (b := ad.1 k) (rest := st.map (vv ad)) (As := pa.map (vv ad)) (g := F0 x.2.1.1 pc ls ((pa.reverse ++ .ref k :: st).map (vv ad))) (locs := locs) (cells := cells) (slots := slots) (e := x.1.2.2.1) (below := x.2.1.2.2.1) (meth := x.2.1.2.2.2.1) (R := x.1.2.2.2.1) (nL := N) ⟨C.hx, C.hb, C.hm, C.ho, C.ht⟩ (M x.2.2.1.1 x.2.2.1.2.1 ad H.size)
    ⟨va_cnB (Ts := TB) n C.ht (good_cons cd.1) rfl rfl rfl (C.hN _ cd.2.2.1) (C.ht _ cd.2.1) cd.2.2.2 (by rw [hR]; exact ⟨ft.1, ft.2.1⟩), hy, C.ht _ hin⟩ ⟨PRE.blind, fun U hU hW => pre_at C h1 hpa h4.2.1 hP hD hS (wd_free C hD hS) U hU hW⟩ rfl (by rw [List.length_map]; exact hn) (by rw [← C.hn]; exact hl.1) (by rw [List.map_append, List.map_reverse]; rfl) (lv_room (by rw [List.map_map]; exact (by simpa [Function.comp_def, vv_cat'] using hw))) d (by rw [hR]; exact ft.2.2)
  exact g_back C hs2 h3 h4 hD hS hl run kk
theorem g_objInit (C : EV x cc own N rm) {idx k : Nat} (h1w : Cond.methodLink own idx Lib.objectInit ∈ TB) (h2w : Cond.instanceMethod Lib.objectInit ∈ TB) (h3w : Cond.code Lib.objectInit ⟨#[0xb1]⟩ 1 none ∈ TB) (hf : 1 ≤ rm.frames) (hw : (st.map fun v => v.category).sum + 12 ≤ rm.locals) (d : decode cc pc = .ok (.invokespecial idx, 3)) (kk : GG x cells slots h (pc + 3) lv st) : GG x cells slots h pc lv (.ref k :: st) := by
  intro ad H locs ls h1 h2 h3 h4 hP hD hS hl
  refine W.objInit C.hx C.hb C.ho (C.ht _ h1w) (C.ht _ h2w) (C.ht _ h3w) rfl (by rw [C.hm, ← C.hn]; exact hl.1) rfl d (by rw [C.hR]; exact hf) ?_ (kk ad H locs ls h1 (wfs_t h2) h3 h4 hP hD hS hl)
  rw [C.hR]
  have : ((st.map (vv ad)).map fun v => v.category).sum = (st.map fun v => v.category).sum := by rw [List.map_map]; simp [Function.comp_def, vv_cat']
  show 2 * 0 + ((st.map (vv ad)).map fun v => v.category).sum + 12 ≤ _
  omega
end GC
