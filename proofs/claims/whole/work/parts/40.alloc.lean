/-! ROWS OF REFERENCES MADE: new Point[n], new T[n][m], a store of a reference; contracts that need the array classes to be there -/
def AO (U : State) : Prop := ∀ ty : FieldType, ty = .object "PrimeKeys$Point" ∨ ty = .array .byte ∨ ty = .array .long → (Cond.arrayOver ty).before #[] U = true
theorem AO.moved {s U : State} (hal : s.vm.Alike U.vm) (h : AO s) : AO U := by
  intro ty ht
  have h1 := h ty ht
  rw [← Cond.arrayOver_setVmC (args := #[]) (s := s) hal ty] at h1
  exact h1
def MPX (l : Launch) (y : MethodName) (ws : List Cond) (rm : Room) (h : HP) (pa : List Value) (r : Option Value) (h' : HP) : Prop := ∀ (D : va_G) (tg : Nat → ClassId) (ad : AD) (sz : Nat), Met l y ws rm (fun a U => PRE D tg ad sz h pa a U ∧ AO U) (POST D tg ad sz h r h') rm.cells rm.slots (va_A (wd tg ad h) sz)
theorem MPX_intro {l : Launch} {y : MethodName} {cc : ByteArray} {N : Nat} {ret : Option FieldType} {rm : Room} {h h' : HP} {pa : List Value} {r : Option Value} (hy : plainName y.cls = true) (hN : (lg_sl pa).length ≤ N)
    (body : ∀ x : CX, x.1.2.1 = l → EV x cc y.cls N rm → CT x ret rm h r h' → x.2.1.2.2.2.1.name = y.name → AO x.1.2.2.2.2 → GG x 0 0 h 0 (lv_args 0 pa) []) : MPX l y (Cond.code y cc N ret :: TB) rm h pa r h' := by
  intro D tg ad sz
  refine Met.ofW (cc := cc) (maxL := N) (ret := ret) hy rfl ?_
  intro p e s m args below meth c s₁ B hml hv
  obtain ⟨⟨rfl, hsz, hwf, hwa, hP, hK, hD0, hNW, hST⟩, hAO⟩ := hv
  subst hsz
  have hD := hD0.self (sz := s.heap.size)
  have hts := atoms_spec (ws := Cond.code y cc N ret :: TB) B.pre
  have hl := lv_entry (pa.map (vv ad)) (n := N) (by rw [lg_sl_map]; exact hN)
  rw [lv_args_map] at hl
  rw [lg_entry_eq]
  generalize (lg_sl (pa.map (vv ad)) ++ List.replicate (N - (lg_sl (pa.map (vv ad))).length) Slot.unset).toArray = ls at hl ⊢
  exact body ((p, l, e, rm, s), (m, (pa.map (vv ad)).toArray, below, meth, c), (D, tg, va_A (wd tg ad h) s.heap.size, N), (h.length, ad, MQ below (POST D tg ad s.heap.size h r h') (pa.map (vv ad)).toArray s rm.cells rm.slots (va_A (wd tg ad h) s.heap.size)))
    rfl ⟨B.exec, B.bytes, hml, rfl, findClass_of_methodNamed B.named, fun w hw => hts w (List.mem_cons_of_mem _ hw), hK, fun q hq => Or.inr hq, hNW, hST, rfl⟩ ⟨B.returns, B.notSynchronized, rfl, rfl, rfl⟩ (name_of_methodNamed B.named B.method).1 hAO ad s.heap [] ls hwf wfs_0 (wfl_args 0 hwa) ⟨Nat.le_refl _, rfl, fun _ _ => rfl⟩ hP hD va_S.rf hl
section GX
variable {x : CX} {cc : ByteArray} {own : String} {N : Nat} {rm : Room} {cells slots pc : Nat} {h h' : HP} {lv lv' : List (Nat × Value)} {st : List Value}
theorem PREX.blind {D : va_G} {tg : Nat → ClassId} {ad : AD} {sz : Nat} {pa : List Value} : FrameBlind (fun a U => PRE D tg ad sz h pa a U ∧ AO U) := by
  intro a U g mk q
  exact ⟨PRE.blind a U g mk q.1, AO.moved (s := U) (U := U.calling g mk a) (Vm.Alike.refl U.vm) q.2⟩
theorem g_callIX (C : EV x cc own N rm) (hAO : AO x.1.2.2.2.2) {l : Launch} {y : MethodName} {idx maxL n k : Nat} {bytes : ByteArray} {r2 : Room} {pa : List Value} {r : Option Value} {stk : List Value} (hl0 : x.1.2.1 = l) (M : MPX l y (Cond.code y bytes maxL none :: TB) r2 h (.ref k :: pa) r h') (cd : CD own idx y bytes maxL none n) (hin : Cond.instanceMethod y ∈ TB) (hy : y.name = "<init>") (ft : FT rm r2 maxL cells slots) (e : stk = pa.reverse ++ .ref k :: st) (hn : pa.length = n) (hw : (st.map fun v => v.category).sum ≤ 8)
    (d : decode cc pc = .ok (.invokespecial idx, 3)) (kk : GG x (cells + r2.cells) (slots + r2.slots) h' (pc + 3) lv (r.toList ++ st)) : GG x cells slots h pc lv stk := by
  subst e
  subst hl0
  intro ad H locs ls h1 h2 h3 h4 hP hD hS hl
  have hpa : wfs h.length (.ref k :: pa) := fun v hv => by
    rcases List.mem_cons.mp hv with q | q
    · rw [q]; exact h2 _ (List.mem_append_right _ List.mem_cons_self)
    · exact h2 v (List.mem_append_left _ (List.mem_reverse.mpr q))
  have hs2 : wfs h.length st := fun v hv => h2 v (List.mem_append_right _ (List.mem_cons_of_mem _ hv))
  have hR := C.hR
  have run := va_runI (b := ad.1 k) (rest := st.map (vv ad)) (As := pa.map (vv ad)) (g := F0 x.2.1.1 pc ls ((pa.reverse ++ .ref k :: st).map (vv ad))) (locs := locs) (cells := cells) (slots := slots) (e := x.1.2.2.1) (below := x.2.1.2.2.1) (meth := x.2.1.2.2.2.1) (R := x.1.2.2.2.1) (nL := N) ⟨C.hx, C.hb, C.hm, C.ho, C.ht⟩ (M x.2.2.1.1 x.2.2.1.2.1 ad H.size)
    ⟨callB_of (Ts := TB) n C.ht (good_cons cd.1) rfl rfl rfl (C.ht _ cd.2.1) (C.ht _ cd.2.2.1) cd.2.2.2 (by rw [hR]; exact ⟨ft.1, ft.2.1⟩), hy, C.ht _ hin⟩ ⟨PREX.blind, fun U hU hW => ⟨pre_at C h1 hpa h4.2.1 hP hD hS (wd_free C hD hS) U hU hW, AO.moved hW.alike hAO⟩⟩ rfl (by rw [List.length_map]; exact hn) (by rw [← C.hn]; exact hl.1) (by rw [List.map_append, List.map_reverse]; rfl) (lv_room (by rw [List.map_map]; exact (by simpa [Function.comp_def, vv_cat'] using hw))) d (by rw [hR]; exact ft.2.2)
  exact g_back C hs2 h3 h4 hD hS hl run kk
theorem g_anewE (C : EV x cc own N rm) (hAO : AO x.1.2.2.2.2) {idx k : Nat} {n : Int32} {n' : Nat} (w : Cond.classLink own idx "PrimeKeys$Point" ∈ TB) (eh : h' = h ++ [pR 3 n' (fun _ => none)]) (ek : k = h.length) (hn : ¬ n < 0) (hN : n.toNatClampNeg = n') (hb : n' ≤ 65536) (hc1 : cells + 1 ≤ rm.cells) (hs1 : slots + n' ≤ rm.slots) (d : decode cc pc = .ok (.anewarray idx, 3)) (kk : GG x (cells + 1) (slots + n') h' (pc + 3) lv (.ref k :: st)) : GG x cells slots h pc lv (.int n :: st) := by
  subst eh; subst ek
  intro ad H locs ls h1 h2 h3 h4 hP hD hS hl
  refine va_newq C.hx C.hb C.ho (C.ht _ w) (hAO _ (Or.inl rfl)) C.hK hP hD hS C.hA hn hN (by omega) (by rw [C.hR]; exact hc1) (by rw [C.hR]; exact hs1) d (fun q cA H1 hK1 hP1 hD1 hS1 => ?_)
  have et : cA = x.2.2.1.2.1 3 := by
    obtain ⟨-, -, -, -, -, z1⟩ := (C.hK.2 3 _ rfl).2
    obtain ⟨-, -, -, -, -, z2⟩ := (hK1.2 6 (cA, .object "PrimeKeys$Point") rfl).2
    exact Option.some.inj (z2.symm.trans z1)
  subst et
  exact g_push (c := pR 3 n' (fun _ => none)) h1 (wfs_t h2) h3 h4 (fun _ _ z => by cases z) hP1 hD1 hS1 hl kk
def stP (h : HP) (k : Nat) (i : Int32) (v : Nat) : Option HP := match h[k]?, h[v]? with
  | some (.inr (.inr (.inr (.inl (3, n, f))))), some (.inr (.inr (.inr (.inr (3, _))))) => if i < 0 ∨ n ≤ i.toNatClampNeg then none else some (h.set k (pR 3 n (va_up f i.toNatClampNeg (some v))))
  | _, _ => none
theorem stP_of {k v : Nat} {i : Int32} (e : stP h k i v = some h') : ∃ n f fs, h[k]? = some (pR 3 n f) ∧ h[v]? = some (pO 3 fs) ∧ vp_in i n ∧ h' = h.set k (pR 3 n (va_up f i.toNatClampNeg (some v))) := by
  unfold stP at e
  split at e
  · split at e
    · cases e
    · exact ⟨_, _, _, by assumption, by assumption, by assumption, (Option.some.inj e).symm⟩
  · cases e
theorem g_aastore (C : EV x cc own N rm) {k v : Nat} {i : Int32} (e : stP h k i v = some h') (d : decode cc pc = .ok (.aastore, 1)) (kk : GG x cells slots h' (pc + 1) lv st) : GG x cells slots h pc lv (.ref v :: .int i :: .ref k :: st) := by
  obtain ⟨n, f, fs, hk, hv, hin, rfl⟩ := stP_of e
  intro ad H locs ls h1 h2 h3 h4 hP hD hS hl
  refine va_astq C.hx C.hb C.hK hP hD hS k 3 v 3 (r := (R_Po, F_Po, 3)) (wd_get hk) rfl (wd_get hv) rfl hin d (fun H1 locs1 hP1 hD1 hS1 => ?_)
  have e2 : (wd x.2.2.1.2.1 ad h).set k (ad.1 k, .inl (x.2.2.1.2.1 3, n, .inr (.inr (.inr (.inr (va_up (fun j => (f j).map ad.1) i.toNatClampNeg (some (ad.1 v)))))))) = wd x.2.2.1.2.1 ad (h.set k (pR 3 n (va_up f i.toNatClampNeg (some v)))) := by
    have : va_up (fun j => (f j).map ad.1) i.toNatClampNeg (some (ad.1 v)) = fun j => (va_up f i.toNatClampNeg (some v) j).map ad.1 := by
      funext j
      unfold va_up
      split <;> rfl
    rw [this]
    exact wd_set (c := pR 3 n (va_up f i.toNatClampNeg (some v)))
  have hP2 : va_P x.2.2.1.1 vwCl (wd x.2.2.1.2.1 ad (h.set k (pR 3 n (va_up f i.toNatClampNeg (some v))))) H1 := by rw [← e2]; exact hP1
  have hD2 : va_D x.2.2.1.2.2.1 (wd x.2.2.1.2.1 ad (h.set k (pR 3 n (va_up f i.toNatClampNeg (some v))))) := by rw [← e2]; exact hD1
  have hf : ∀ j q, f j = some q → q < h.length := h1 _ (List.mem_of_getElem? hk)
  have hvl : v < h.length := (List.getElem?_eq_some_iff.mp hv).1
  have hwc : wfc h.length (pR 3 n (va_up f i.toNatClampNeg (some v))) := by
    intro j q hq
    unfold va_up at hq
    split at hq
    · cases hq; exact hvl
    · exact hf j q hq
  exact kk ad H1 locs1 ls (wfh_set h1 hwc) (by rw [List.length_set]; exact wfs_t (wfs_t (wfs_t h2))) (by rw [List.length_set]; exact h3) (by rw [List.length_set]; exact h4) hP2 hD2 hS1 hl
end GX
/-! two dimensions -/
def mn2 (h : HP) (t n : Nat) (c : PE) : HP := h ++ (pR t n (fun i => if i < n then some (h.length + 1 + i) else none) :: List.replicate n c)
theorem outer_eq (c : ClassId) (N h0 : Nat) : ∀ i : Nat, Jvm.Free.Multi.outerC c N h0 i = arrV c N (fun j => va_rf (if j < i then some (h0 + 1 + j) else none))
  | 0 => by
    show ({ cls := c, slots := Array.replicate N .null, vm := .none } : Cell) = _
    rw [arrV_new]
    refine congrArg (arrV c N) (funext fun j => ?_)
    simp [va_rf]
  | i + 1 => by
    show (Jvm.Free.Multi.outerC c N h0 i).setSlot i (.ref (h0 + 1 + i)) = _
    rw [outer_eq c N h0 i, arrV_store]
    refine congrArg (arrV c N) (funext fun j => ?_)
    by_cases e : j = i
    · subst e; simp [updV, va_rf]
    · by_cases h : j < i
      · simp [updV, e, h, Nat.lt_succ_of_lt h]
      · simp [updV, e, h, show ¬ j < i + 1 by omega]
set_option maxHeartbeats 4000000 in
theorem g_mnaE {x : CX} {cc : ByteArray} {own : String} {N : Nat} {rm : Room} {cells slots pc : Nat} {h h' : HP} {lv : List (Nat × Value)} {st : List Value} (C : EV x cc own N rm) (hAO : AO x.1.2.2.2.2) {idx k t u M' : Nat} {n m : Int32} {n' m' : Nat} {ty : FieldType} {c : PE}
    (hty : (ty = .byte ∧ t = 4 ∧ u = 0 ∧ c = pB m' (fun _ => 0)) ∨ (ty = .long ∧ t = 5 ∧ u = 2 ∧ c = pJ m' (fun _ => 0))) (w : Cond.classLink own idx ("[" ++ (FieldType.array ty).toString) ∈ TB) (wa : Cond.arrayClass ty ∈ TB) (eh : h' = mn2 h t n' c) (ek : k = h.length) (hn : ¬ n < 0) (hm : ¬ m < 0) (hN : n.toNatClampNeg = n') (hM : m.toNatClampNeg = m') (hb : n' ≤ 65536 ∧ m' ≤ 65536 ∧ n' * m' = M')
    (hc1 : cells + (1 + n') ≤ rm.cells) (hs1 : slots + (n' + M') ≤ rm.slots) (d : decode cc pc = .ok (.multianewarray idx 2, 4)) (kk : GG x (cells + (1 + n')) (slots + (n' + M')) h' (pc + 4) lv (.ref k :: st)) : GG x cells slots h pc lv (.int m :: .int n :: st) := by
  subst eh; subst ek
  obtain ⟨hb1, hb2, rfl⟩ := hb
  subst hN; subst hM
  intro ad H locs ls h1 h2 h3 h4 hP hD hS hl
  intro T hT X
  have hover : (Cond.arrayOver (.array ty)).before x.2.1.2.1 x.1.2.2.2.2 = true := by
    refine (show (Cond.arrayOver (.array ty)).before #[] x.1.2.2.2.2 = true from hAO (.array ty) ?_)
    rcases hty with ⟨rfl, -⟩ | ⟨rfl, -⟩
    · exact Or.inr (Or.inl rfl)
    · exact Or.inr (Or.inr rfl)
  obtain ⟨vm₁, cA, comp, -, fA, fC, hO, -, X', step⟩ := X.multianewarray2F C.hx C.ho (C.ht _ w) hover (C.ht _ wa) (g := F0 x.2.1.1 pc ls (.int m :: .int n :: st.map (vv ad))) rfl (by rw [C.hb]; exact d) rfl hn hm (by omega) (by rcases hty with ⟨rfl, -⟩ | ⟨rfl, -⟩ <;> simp only [componentBytes] <;> omega) (by omega) (by rcases hty with ⟨rfl, -⟩ | ⟨rfl, -⟩ <;> rfl) (by rcases hty with ⟨rfl, -⟩ | ⟨rfl, -⟩ <;> rfl) (by rw [C.hR]; exact hc1) (by rw [C.hR]; exact hs1)
  have eA : cA = x.2.2.1.2.1 t := by
    rcases hty with ⟨rfl, rfl, -⟩ | ⟨rfl, rfl, -⟩
    · exact Option.some.inj (fA.symm.trans (C.hK.2 4 _ rfl).2)
    · exact Option.some.inj (fA.symm.trans (C.hK.2 5 _ rfl).2)
  have eC : comp = x.2.2.1.2.1 u := by
    rcases hty with ⟨rfl, -, rfl, -⟩ | ⟨rfl, -, rfl, -⟩
    · exact Option.some.inj (fC.symm.trans (C.hK.2 0 _ rfl).2)
    · exact Option.some.inj (fC.symm.trans (C.hK.2 2 _ rfl).2)
  subst eA; subst eC
  generalize hF : Jvm.Free.Multi.fill (T.setVm vm₁) (x.2.2.1.2.1 t) (x.2.2.1.2.1 u) n.toNatClampNeg m.toNatClampNeg (defaultValue ty) n.toNatClampNeg = F at X' step
  have hTh : (T.setVm vm₁).heap = H := hT
  obtain ⟨f1, f2, -, -⟩ := Jvm.Free.Multi.fill_facts (T.setVm vm₁) (x.2.2.1.2.1 t) (x.2.2.1.2.1 u) n.toNatClampNeg m.toNatClampNeg (defaultValue ty) n.toNatClampNeg
  rw [hF, hTh] at f1 f2
  rw [outer_eq] at f2
  have hold : ∀ q : Nat, q < H.size → F.heap[q]? = H[q]? := fun q hq => by
    have := Jvm.Free.Multi.fill_old (T.setVm vm₁) (x.2.2.1.2.1 t) (x.2.2.1.2.1 u) n.toNatClampNeg m.toNatClampNeg (defaultValue ty) (a := q) (by rw [hTh]; exact hq) n.toNatClampNeg
    rw [hF, hTh] at this
    exact this
  have hrow : ∀ j : Nat, j < n.toNatClampNeg → F.heap[H.size + 1 + j]? = some (arrV (x.2.2.1.2.1 u) m.toNatClampNeg (fun _ => defaultValue ty)) := fun j hj => by
    have := Jvm.Free.Multi.fill_inner (T.setVm vm₁) (x.2.2.1.2.1 t) (x.2.2.1.2.1 u) n.toNatClampNeg m.toNatClampNeg (defaultValue ty) n.toNatClampNeg j hj
    rw [hF, hTh] at this
    rw [this]
    show some ({ cls := _, slots := Array.replicate _ _, vm := .none } : Cell) = _
    rw [arrV_new]
  obtain ⟨ad', ea1, ea2⟩ : ∃ ad' : AD, ad'.2 = ad.2 ∧ ad'.1 = fun j => if j < h.length then ad.1 j else H.size + (j - h.length) := ⟨(fun j => if j < h.length then ad.1 j else H.size + (j - h.length), ad.2), rfl, rfl⟩
  have ha : ∀ j, j < h.length → ad'.1 j = ad.1 j := fun j hj => by rw [ea2]; exact if_pos hj
  have hb9 : ∀ j, ad'.1 (h.length + j) = H.size + j := fun j => by
    rw [ea2]
    show (if h.length + j < h.length then ad.1 (h.length + j) else H.size + (h.length + j - h.length)) = _
    rw [if_neg (by omega)]; omega
  have hcc : wfc h.length c ∧ vp_cell (x.2.2.1.2.1 u) (match c with | .inl (n, f) => (n, .inl (fun j => (f j).toInt32)) | .inr (.inr (.inl (n, f))) => (n, .inr (.inl f)) | _ => (0, .inl (fun _ => 0))) = arrV (x.2.2.1.2.1 u) m.toNatClampNeg (fun _ => defaultValue ty) ∧ ∀ A : AD, ∃ z, cv x.2.2.1.2.1 A c = .inl (x.2.2.1.2.1 u, z) ∧ vp_cell (x.2.2.1.2.1 u) z = arrV (x.2.2.1.2.1 u) m.toNatClampNeg (fun _ => defaultValue ty) := by
    rcases hty with ⟨rfl, -, rfl, rfl⟩ | ⟨rfl, -, rfl, rfl⟩
    · exact ⟨trivial, rfl, fun A => ⟨_, rfl, rfl⟩⟩
    · exact ⟨trivial, rfl, fun A => ⟨_, rfl, rfl⟩⟩
  obtain ⟨hwc, -, hcv⟩ := hcc
  have hlen : (mn2 h t n.toNatClampNeg c).length = h.length + (1 + n.toNatClampNeg) := by simp [mn2]; omega
  -- what stands at each place
  have hat : ∀ (j : Nat) (q : Nat × va_E), (wd x.2.2.1.2.1 ad' (mn2 h t n.toNatClampNeg c))[j]? = some q → (j < h.length ∧ (wd x.2.2.1.2.1 ad h)[j]? = some q) ∨ (h.length ≤ j ∧ q.1 = H.size + (j - h.length) ∧ va_at x.2.2.1.1 vwCl q F.heap) := by
    intro j q hq
    simp only [wd, List.getElem?_mapIdx, Option.map_eq_some_iff] at hq
    obtain ⟨d9, hd9, rfl⟩ := hq
    by_cases hj : j < h.length
    · left
      refine ⟨hj, ?_⟩
      simp only [mn2] at hd9
      rw [List.getElem?_append_left hj] at hd9
      rw [wd_get hd9, ha j hj, cv_agree ea1 ha (h1 _ (List.mem_of_getElem? hd9))]
    · right
      refine ⟨by omega, ?_, ?_⟩
      · show ad'.1 j = _
        rw [ea2]; exact if_neg hj
      · simp only [mn2] at hd9
        rw [List.getElem?_append_right (by omega)] at hd9
        have hjj : j = h.length + (j - h.length) := by omega
        generalize j - h.length = i at hd9 hjj
        subst hjj
        rw [hb9]
        cases i with
        | zero =>
          rw [List.getElem?_cons_zero] at hd9
          cases hd9
          show F.heap[H.size + 0]? = some (vp_cell _ _)
          rw [Nat.add_zero, f2, vp_cell_q]
          refine congrArg (fun z => some (arrV (x.2.2.1.2.1 t) n.toNatClampNeg z)) (funext fun z => ?_)
          by_cases hz : z < n.toNatClampNeg
          · simp [hz, Nat.add_assoc, hb9]
          · simp [hz]
        | succ i =>
          rw [List.getElem?_cons_succ, List.getElem?_replicate] at hd9
          split at hd9
          · cases hd9
            obtain ⟨z, ez, ec⟩ := hcv ad'
            rw [ez]
            show F.heap[H.size + (i + 1)]? = some (vp_cell _ _)
            rw [ec, show H.size + (i + 1) = H.size + 1 + i by omega]
            exact hrow i (by assumption)
          · cases hd9
  have hP' : va_P x.2.2.1.1 vwCl (wd x.2.2.1.2.1 ad' (mn2 h t n.toNatClampNeg c)) F.heap := by
    intro j q hq
    rcases hat j q hq with ⟨-, h9⟩ | ⟨-, -, h9⟩
    · exact (hP j q h9).kept (hold _ (hP j q h9).lt)
    · exact h9
  have hD' : va_D x.2.2.1.2.2.1 (wd x.2.2.1.2.1 ad' (mn2 h t n.toNatClampNeg c)) := by
    refine ⟨fun i j p q hi hj hpq => ?_, fun j q hq => ?_⟩
    · rcases hat i p hi with ⟨z1, y1⟩ | ⟨z1, y1, -⟩ <;> rcases hat j q hj with ⟨z2, y2⟩ | ⟨z2, y2, -⟩
      · exact hD.1 i j p q y1 y2 hpq
      · have := (hP i p y1).lt; omega
      · have := (hP j q y2).lt; omega
      · omega
    · rcases hat j q hq with ⟨-, h9⟩ | ⟨-, h9, -⟩
      · exact hD.2 j q h9
      · rw [h9]; exact C.hA _ (by have := hS.1; omega)
  have hS' : va_S x.2.2.1.2.2.1 x.1.2.2.2.2.heap F.heap locs := ⟨by rw [f1]; have := hS.1; omega, fun q g1 g2 => (hold q (Nat.lt_of_lt_of_le g1 hS.1)).trans (hS.2.1 q g1 g2), hS.2.2⟩
  have hwh : wfh (mn2 h t n.toNatClampNeg c) := by
    intro d9 hd9
    rw [hlen]
    simp only [mn2] at hd9
    rcases List.mem_append.mp hd9 with z | z
    · exact wfc_up (h1 d9 z) (by omega)
    · rcases List.mem_cons.mp z with z | z
      · subst z
        intro j q hq
        have hq : (if j < n.toNatClampNeg then some (h.length + 1 + j) else none) = some q := hq
        by_cases hj : j < n.toNatClampNeg
        · rw [if_pos hj] at hq; cases hq; omega
        · rw [if_neg hj] at hq; cases hq
      · rw [List.eq_of_mem_replicate z]; exact wfc_up hwc (by omega)
  have hst : wfs h.length st := wfs_t (wfs_t h2)
  have go := kk ad' F.heap locs ls hwh (by rw [hlen]; exact wfs_c (wfv_r (by omega)) (wfs_up hst (by omega))) (by rw [hlen]; exact wfl_up h3 (by omega)) ⟨by rw [hlen]; have := h4.1; omega, ea1.trans h4.2.1, fun k hk => (ha k (Nat.lt_of_lt_of_le hk h4.1)).trans (h4.2.2 k hk)⟩ hP' hD' hS' (by rw [lm_agree ea1 ha h3]; exact hl)
  have X2 : Stand x.1.1 x.1.2.1 x.1.2.2.1 x.1.2.2.2.1 x.1.2.2.2.2 x.2.1.1 x.2.1.2.1 x.2.1.2.2.1 x.2.1.2.2.2.1 x.2.1.2.2.2.2 F locs (cells + (1 + n.toNatClampNeg)) (slots + (n.toNatClampNeg + n.toNatClampNeg * m.toNatClampNeg)) := by
    rw [← Nat.add_assoc, ← Nat.add_assoc]; exact X'
  obtain ⟨t2, a1, b1⟩ := go F rfl X2
  refine ⟨t2, step t2 ?_, b1⟩
  have e1 : (Value.ref h.length :: st).map (vv ad') = .ref T.heap.size :: st.map (vv ad) := by
    rw [List.map_cons, vs_agree ea1 ha hst]
    show Value.ref (ad'.1 h.length) :: _ = _
    have := hb9 0
    rw [Nat.add_zero, Nat.add_zero] at this
    rw [this, hT]
  rw [e1] at a1
  exact a1
