/-! contracts of methods that end in a throw; the switch -/
def POSTT (D : va_G) (tg : Nat → ClassId) (ad : AD) (sz : Nat) (h : HP) (i : Nat) (h' : HP) : Array Value → State → Outcome → State → Prop := fun _ st oc t => ∃ a : Addr, oc = .threw a ∧ st.heap.size ≤ a ∧ (∃ ce : Cell, t.heap[a]? = some ce ∧ st.vm.findClass (exN i) = some ce.cls ∧ ce.vm = .none) ∧ (∃ ad' : AD, ad'.2 = ad.2 ∧ (∀ k, k < h.length → ad'.1 k = ad.1 k) ∧ h.length ≤ h'.length ∧ wfh h' ∧ va_P D vwCl (wd tg ad' h') t.heap ∧ va_D (va_A (wd tg ad h) sz) (wd tg ad' h')) ∧ va_F (va_A (wd tg ad h) sz) st t
def FET (st : State) (o : Outcome) (t : State) (L : List Loc) (k n : Nat) : Prop := (∃ x, o = .threw x) ∧ st.WarmedH t.vm ∧ st.sameButNew ({ t with vm := st.vm } : State) L k n
def MT (l : Launch) (y : MethodName) (ws : List Cond) (rm : Room) (h : HP) (pa : List Value) (i : Nat) (h' : HP) : Prop := ∀ (D : va_G) (tg : Nat → ClassId) (ad : AD) (sz : Nat), MetFree l y (headSpec ws rm) (fun a U => PRE D tg ad sz h pa a U ∧ XT (va_A (wd tg ad h) sz) U) (fun _ _ _ _ _ => True) (fun a st o t => POSTT D tg ad sz h i h' a st o t ∧ ∃ L, FET st o t L rm.cells rm.slots ∧ ∀ q ∈ L, va_A (wd tg ad h) sz q.base)
def CTT (x : CX) (rm : Room) (h0 : HP) (i : Nat) (h' : HP) : Prop :=
  x.1.2.2.1.platform.stackTraces = false ∧ x.2.1.2.2.2.1.locks = false ∧ x.2.2.1.2.2.1 = va_A (wd x.2.2.1.2.1 x.2.2.2.2.1 h0) x.1.2.2.2.2.heap.size ∧ x.2.2.2.1 = h0.length ∧
  x.2.2.2.2.2 = (fun t => ∃ o, t.status = .running ∧ Ended t x.2.1.2.2.1 o ∧ POSTT x.2.2.1.1 x.2.2.1.2.1 x.2.2.2.2.1 x.1.2.2.2.2.heap.size h0 i h' x.2.1.2.1 x.1.2.2.2.2 o t ∧ ∃ L, FET x.1.2.2.2.2 o t L rm.cells rm.slots ∧ ∀ q ∈ L, x.2.2.1.2.2.1 q.base) ∧ XT x.2.2.1.2.2.1 x.1.2.2.2.2 ∧ x.2.1.2.2.2.2.exceptionTable.isEmpty = true
theorem MT_intro {l : Launch} (htr : l.stackTraces = false) {y : MethodName} {cc : ByteArray} {N : Nat} {ret : Option FieldType} {rm : Room} {h h' : HP} {pa : List Value} {i : Nat} (hy : plainName y.cls = true) (hN : (lg_sl pa).length ≤ N)
    (body : ∀ x : CX, x.1.2.1 = l → EV x cc y.cls N rm → CTT x rm h i h' → GG x 0 0 h 0 (lv_args 0 pa) []) : MT l y (Cond.code y cc N ret :: TB) rm h pa i h' := by
  intro D tg ad sz
  refine MetFree.of_bodyS (code := cc) (maxLocals := N) (ret := ret) hy ?_ ?_
  · intro args s m h hn
    obtain ⟨meth, c, h1, h2, h3, h4, h5, h6, -, -⟩ := Cond.code_spec hn (atoms_spec (ws := Cond.code y cc N ret :: TB) h _ List.mem_cons_self)
    exact ⟨meth, c, h1, h2, h3, h4, h5, h6⟩
  · intro p e s m args below meth c s₁ B hml hv _
    obtain ⟨⟨rfl, hsz, hwf, hwa, hP, hK, hD0, hNW, hST⟩, hXT⟩ := hv
    subst hsz
    have hD := hD0.self (sz := s.heap.size)
    have hts := atoms_spec (ws := Cond.code y cc N ret :: TB) B.pre
    have hl := lv_entry (pa.map (vv ad)) (n := N) (by rw [lg_sl_map]; exact hN)
    rw [lv_args_map] at hl
    rw [lg_entry_eq]
    generalize (lg_sl (pa.map (vv ad)) ++ List.replicate (N - (lg_sl (pa.map (vv ad))).length) Slot.unset).toArray = ls at hl ⊢
    have X₀ := Stand.of_body B
    have hpl : e.platform.stackTraces = false := by rw [X₀.admits.platform]; exact htr
    obtain ⟨t, a1, o, b1, b2, b3⟩ := body ((p, l, e, rm, s), (m, (pa.map (vv ad)).toArray, below, meth, c), (D, tg, va_A (wd tg ad h) s.heap.size, N), (h.length, ad, (fun t => ∃ o, t.status = .running ∧ Ended t below o ∧ POSTT D tg ad s.heap.size h i h' (pa.map (vv ad)).toArray s o t ∧ ∃ L, FET s o t L rm.cells rm.slots ∧ ∀ q ∈ L, va_A (wd tg ad h) s.heap.size q.base)))
      rfl ⟨B.exec, B.bytes, hml, rfl, findClass_of_methodNamed B.named, fun w hw => hts w (List.mem_cons_of_mem _ hw), hK, fun q hq => Or.inr hq, hNW, hST, rfl⟩ ⟨hpl, B.notSynchronized, rfl, rfl, rfl, hXT, B.noHandlers (hts _ List.mem_cons_self)⟩ ad s.heap [] ls hwf wfs_0 (wfl_args 0 hwa) ⟨Nat.le_refl _, rfl, fun _ _ => rfl⟩ hP hD va_S.rf hl s₁ (by rw [B.state]; rfl) X₀
    exact ⟨t, o, a1, b1, b2, b3⟩
/-- what a throw needs of the tables -/
abbrev TD (own : String) (inw ic i : Nat) : Prop := i < 4 ∧ Cond.classLink own inw (exN i) ∈ TB ∧ Cond.instantiable (exN i) 6 ∈ TB ∧ Cond.initialized (exN i) ∈ TB ∧ Cond.methodLink own ic (Bundle.init0 (exN i)) ∈ TB
set_option maxHeartbeats 4000000 in
theorem g_throw {x : CX} {cc : ByteArray} {own : String} {N : Nat} {rm : Room} {cells slots pc : Nat} {h h0 : HP} {lv : List (Nat × Value)} {i inw ic : Nat} (C : EV x cc own N rm) (T : CTT x rm h0 i h) (td : TD own inw ic i) (hc1 : cells + 1 ≤ rm.cells) (hs1 : slots + 6 ≤ rm.slots) (hf : 5 < rm.frames) (hlo : 81 ≤ rm.locals) (d0 : decode cc pc = .ok (.new inw, 3)) (d3 : decode cc (pc + 3) = .ok (.dup, 1)) (d4 : decode cc (pc + 4) = .ok (.invokespecial ic, 3)) (d7 : decode cc (pc + 7) = .ok (.athrow, 1)) : GG x cells slots h pc lv [] := by
  obtain ⟨htr, hlk, hA, hn0, hQ, hXT, hnh⟩ := T
  obtain ⟨hi4, w1, w2, w3, w4⟩ := td
  intro ad H locs ls h1 h2 h3 h4 hP hD hS hl T0 hT X
  obtain ⟨vm₁, cX, kX, hfX, hkX, -, hn6, X₁, st1⟩ := X.newCold C.hx C.ho (C.ht _ w1) (C.ht _ w2) (C.ht _ w3) (g := F0 x.2.1.1 pc ls []) rfl (by rw [C.hb]; exact d0) (by rw [C.hR]; exact hc1) (by rw [C.hR]; exact hs1)
  generalize hT1 : (T0.setVm vm₁).pushCell { cls := cX, slots := kX.instanceTypes.map defaultValue, vm := .none } = T1 at X₁ st1
  have hheap1 : T1.heap = H.push { cls := cX, slots := kX.instanceTypes.map defaultValue, vm := .none } := by rw [← hT1, ← hT]; rfl
  have hsz : T0.heap.size = H.size := by rw [hT]
  have hcellA : T1.heap[H.size]? = some (freshCell cX kX) := by rw [hheap1, Array.getElem?_push_size]
  have hold : ∀ q : Nat, q < H.size → T1.heap[q]? = H[q]? := fun q hq => by rw [hheap1, Array.getElem?_push, if_neg (Nat.ne_of_lt hq)]
  obtain ⟨U, ce, hsteps, hrun, hend, hW, hsame, hUh, hce, hcv⟩ := xt_throw X₁ C.hx htr (own := own) (ic := ic) (i := i) hi4 C.ho hXT C.ht w4 (fun q g1 g2 => (hold q (Nat.lt_of_lt_of_le g1 hS.1)).trans (hS.2.1 q g1 g2)) hfX hkX (a := H.size) hcellA hS.1
    (g := F0 x.2.1.1 (pc + 4) ls [.ref H.size, .ref H.size]) rfl (by show ls.size = _; rw [C.hm, ← C.hn]; exact hl.1) rfl rfl (rest := []) rfl (by rw [C.hb]; exact d4) (by rw [C.hb]; exact d7) (covers_of_empty hnh _) (by rw [C.hR]; exact hf) (by rw [C.hR]; show 2 * 0 + (1 + 0) + 80 ≤ _; omega) hlk
  have hU : ∀ q : Nat, q < H.size → U.heap[q]? = H[q]? := fun q hq => by
    rw [hUh, Array.getElem?_setIfInBounds_ne (Nat.ne_of_gt hq)]; exact hold q hq
  have hUs : U.heap.size = H.size + 1 := by rw [hUh, Array.size_setIfInBounds, hheap1, Array.size_push]
  have hUa : U.heap[H.size]? = some ce := by rw [hUh, Array.getElem?_setIfInBounds_self, if_pos (by rw [hheap1, Array.size_push]; omega)]
  refine ⟨U, ?_, ?_⟩
  · refine st1 _ ?_
    rw [hsz]
    show Steps x.1.1.tables x.1.2.2.1 x.2.1.2.2.1 (T1.setTop (F0 x.2.1.1 (pc + 3) ls [.ref H.size])) U
    jvm_step X₁.here [X₁.here.top, C.hx, C.hb, d3, Value.category]
    exact hsteps
  · rw [hQ]
    rw [hn0] at h4
    have hP' : va_P x.2.2.1.1 vwCl (wd x.2.2.1.2.1 ad h) U.heap := hP.kept (fun k q hq => hU _ (hP k q hq).lt)
    refine ⟨.threw H.size, hrun, hend, ⟨H.size, rfl, hS.1, ⟨ce, hUa, hce, hcv⟩, ⟨ad, h4.2.1, h4.2.2, h4.1, h1, hP', by rw [← hA]; exact hD⟩, ?_, fun q g1 g2 => ?_⟩, locs, ⟨⟨_, rfl⟩, hW, ?_⟩, hS.2.2⟩
    · rw [hUs]; exact Nat.le_succ_of_le hS.1
    · rw [hU q (Nat.lt_of_lt_of_le g1 hS.1)]
      exact hS.2.1 q g1 (by rw [hA]; exact g2)
    · exact hsame.mono hc1 hs1
section GS
variable {x : CX} {cc : ByteArray} {own : String} {N : Nat} {rm : Room} {cells slots pc : Nat} {h : HP} {lv : List (Nat × Value)} {st : List Value}
theorem g_tsIn (C : EV x cc own N rm) {dflt lo hi : Int} {offs : Array Int} {len tgt : Nat} {a k : Int32} {off : Int} (e : a = k) (d : decode cc pc = .ok (.tableswitch dflt lo hi offs, len)) (h1' : ¬ k.toInt < lo) (h2' : ¬ hi < k.toInt) (ho : offs[(k.toInt - lo).toNat]? = some off) (ht : (pc : Int) + off = (tgt : Int)) (kk : GG x cells slots h tgt lv st) : GG x cells slots h pc lv (.int a :: st) := by
  subst e
  exact fun ad H locs ls h1 h2 h3 h4 hP hD hS hl => lv_tableIn C.hx C.hb d h1' h2' ho ht (kk ad H locs ls h1 (wfs_t h2) h3 h4 hP hD hS hl)
theorem g_tsOut (C : EV x cc own N rm) {dflt lo hi : Int} {offs : Array Int} {len tgt : Nat} {a : Int32} (d : decode cc pc = .ok (.tableswitch dflt lo hi offs, len)) (hx : a.toInt < lo ∨ hi < a.toInt) (ht : (pc : Int) + dflt = (tgt : Int)) (kk : GG x cells slots h tgt lv st) : GG x cells slots h pc lv (.int a :: st) :=
  fun ad H locs ls h1 h2 h3 h4 hP hD hS hl => lv_tableOut C.hx C.hb d hx ht (kk ad H locs ls h1 (wfs_t h2) h3 h4 hP hD hS hl)
theorem ts_out {a : Int32} {n : Nat} (hn : n < 2 ^ 31) (h : ∀ k, k ≤ n → a ≠ nI k) : a.toInt < 0 ∨ (n : Int) < a.toInt := by
  by_cases z : a.toInt < 0
  · exact Or.inl z
  · right
    by_cases y : (n : Int) < a.toInt
    · exact y
    · exfalso
      refine h a.toInt.toNat (by omega) ?_
      rw [← Int32.toInt_inj, nI_toInt (by omega)]
      omega
end GS
