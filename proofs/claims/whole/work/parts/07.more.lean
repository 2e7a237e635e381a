/-! MORE ROWS: references in arrays, copies, made things by their equations -/
def bnd2 {α β γ : Type} (a : Option (α × β)) (k : α → β → Option γ) : Option γ := match a with
  | some (x, y) => k x y
  | none => none
theorem of_bnd2 {α β γ : Type} {a : Option (α × β)} {k : α → β → Option γ} {r : γ} (h : bnd2 a k = some r) : ∃ x y, a = some (x, y) ∧ k x y = some r := by
  cases a with
  | none => cases h
  | some q => exact ⟨q.1, q.2, rfl, h⟩
def ob {β : Type} (h : HP) (k ci : Nat) (K : Option β) : Option β := match h[k]? with
  | some (.inr (.inr (.inr (.inr (d, _))))) => if d = ci then K else none
  | _ => none
theorem of_ob {β : Type} {h : HP} {k ci : Nat} {K : Option β} {r : β} (e : ob h k ci K = some r) : ∃ fs, h[k]? = some (pO ci fs) ∧ K = some r := by
  unfold ob at e
  split at e
  · split at e
    · rename_i d fs hk hd
      subst hd
      exact ⟨fs, hk, e⟩
    · cases e
  · cases e
theorem nar_z {a : Int32} (h : a = 0 ∨ a = 1) : narrow .boolean (.int a) = .int a := by
  rcases h with rfl | rfl <;> rfl
def cpT (h : HP) (t : Nat) (sp : Int32) (b : Nat) (dp n : Int32) : Option HP := match h[b]? with
  | some (.inr (.inl (n1, g))) => if 7 ≤ t ∨ sp < 0 ∨ dp < 0 ∨ n < 0 ∨ (stab t).1 < sp.toNatClampNeg + n.toNatClampNeg ∨ n1 < dp.toNatClampNeg + n.toNatClampNeg then none else some (h.set b (pI n1 (va_cpy (stab t).2 g sp.toNatClampNeg dp.toNatClampNeg n.toNatClampNeg)))
  | _ => none
section GM
variable {x : CX} {cc : ByteArray} {own : String} {N : Nat} {rm : Room} {cells slots pc : Nat} {h h' : HP} {lv lv' : List (Nat × Value)} {st : List Value}
theorem g_aaload (C : EV x cc own N rm) {k t a : Nat} {i : Int32} (ht : 3 ≤ t ∧ t < 6) (e : ldR h k t i = some a) (d : decode cc pc = .ok (.aaload, 1)) (kk : GG x cells slots h (pc + 1) lv (.ref a :: st)) : GG x cells slots h pc lv (.int i :: .ref k :: st) := by
  obtain ⟨n, f, hk, hin, hf⟩ := ldR_of e
  intro ad H locs ls h1 h2 h3 h4 hP hD hS hl
  have hlt : i.toNatClampNeg < n := Nat.not_le.mp fun q => hin (Or.inr q)
  have hz : ∃ ty : FieldType, ty.isReference = true ∧ (tysOf x.2.2.1.2.1)[t]? = some (x.2.2.1.2.1 t, ty) := by
    match t, ht with
    | 3, _ => exact ⟨_, rfl, rfl⟩
    | 4, _ => exact ⟨_, rfl, rfl⟩
    | 5, _ => exact ⟨_, rfl, rfl⟩
  obtain ⟨ty, hr, hty⟩ := hz
  have hwf : ∀ j q, f j = some q → q < h.length := h1 _ (List.mem_of_getElem? hk)
  refine W.aald (v := .ref (ad.1 a)) (ty := ty) C.hx C.hb (hP k _ (wd_get hk)) ((C.hK.2 t _ hty).1 n (fun j => va_rf ((f j).map ad.1))) hr (fun q => by cases q) (by show ¬ (i < 0 ∨ (arrV _ _ _).slots.size ≤ _); rw [arrV_size]; exact hin) (by show (arrV _ _ _).slots[_]? = _; rw [arrV_read _ _ hlt]; show some (va_rf ((f i.toNatClampNeg).map ad.1)) = _; rw [hf]; rfl) rfl rfl d (kk ad H locs ls h1 (wfs_c (wfv_r (hwf _ _ hf)) (wfs_t (wfs_t h2))) h3 h4 hP hD hS hl)
theorem cpB_of {a b : Nat} {sp dp n : Int32} (e : cpB h a sp b dp n = some h') : ∃ n0 f n1 g, h[a]? = some (pB n0 f) ∧ h[b]? = some (pB n1 g) ∧ ¬ sp < 0 ∧ ¬ dp < 0 ∧ ¬ n < 0 ∧ sp.toNatClampNeg + n.toNatClampNeg ≤ n0 ∧ dp.toNatClampNeg + n.toNatClampNeg ≤ n1 ∧ h' = h.set b (pB n1 (va_cpy f g sp.toNatClampNeg dp.toNatClampNeg n.toNatClampNeg)) := by
  unfold cpB at e
  split at e
  · split at e
    · cases e
    · rename_i n0 f n1 g ha hb hc
      exact ⟨n0, f, n1, g, ha, hb, fun z => hc (Or.inl z), fun z => hc (Or.inr (Or.inl z)), fun z => hc (Or.inr (Or.inr (Or.inl z))), Nat.le_of_not_lt fun z => hc (Or.inr (Or.inr (Or.inr (Or.inl z)))), Nat.le_of_not_lt fun z => hc (Or.inr (Or.inr (Or.inr (Or.inr z)))), (Option.some.inj e).symm⟩
  · cases e
theorem cpJ_of {a b : Nat} {sp dp n : Int32} (e : cpJ h a sp b dp n = some h') : ∃ n0 f n1 g, h[a]? = some (pJ n0 f) ∧ h[b]? = some (pJ n1 g) ∧ ¬ sp < 0 ∧ ¬ dp < 0 ∧ ¬ n < 0 ∧ sp.toNatClampNeg + n.toNatClampNeg ≤ n0 ∧ dp.toNatClampNeg + n.toNatClampNeg ≤ n1 ∧ h' = h.set b (pJ n1 (va_cpy f g sp.toNatClampNeg dp.toNatClampNeg n.toNatClampNeg)) := by
  unfold cpJ at e
  split at e
  · split at e
    · cases e
    · rename_i n0 f n1 g ha hb hc
      exact ⟨n0, f, n1, g, ha, hb, fun z => hc (Or.inl z), fun z => hc (Or.inr (Or.inl z)), fun z => hc (Or.inr (Or.inr (Or.inl z))), Nat.le_of_not_lt fun z => hc (Or.inr (Or.inr (Or.inr (Or.inl z)))), Nat.le_of_not_lt fun z => hc (Or.inr (Or.inr (Or.inr (Or.inr z)))), (Option.some.inj e).symm⟩
  · cases e
theorem by_cpy (f g : Nat → Int8) (a b n : Nat) : va_cpy (fun j => (f j).toInt32) (fun j => (g j).toInt32) a b n = fun j => (va_cpy f g a b n j).toInt32 := by
  funext j
  unfold va_cpy
  split <;> rfl
theorem by_fits (z : Int8) : fits .byte (.int z.toInt32) = true := by
  have := pk_fb z.toInt32
  simpa using this
theorem st_cat (ad : AD) (st : List Value) : ((st.map (vv ad)).map fun v => v.category).sum = (st.map fun v => v.category).sum := by
  rw [List.map_map]; simp [Function.comp_def, vv_cat']
theorem g_copyB (C : EV x cc own N rm) {idx a b : Nat} {sp dp n : Int32} (e : cpB h a sp b dp n = some h') (w : Cond.methodLink own idx arraycopyName ∈ TB) (hf : 1 ≤ rm.frames) (hw : (st.map fun v => v.category).sum + (nativeFrameWords "java/lang/System" "arraycopy" 5 + 11) ≤ rm.locals) (d : decode cc pc = .ok (.invokestatic idx, 3)) (kk : GG x cells slots h' (pc + 3) lv st) : GG x cells slots h pc lv (.int n :: .int dp :: .ref b :: .int sp :: .ref a :: st) := by
  obtain ⟨n0, f, n1, g, ha, hb, c1, c2, c3, c4, c5, rfl⟩ := cpB_of e
  intro ad H locs ls h1 h2 h3 h4 hP hD hS hl
  refine va_copyi C.hx C.hb (by rw [C.hm, ← C.hn]; exact hl.1.symm) C.ho (C.ht _ w) (C.ht _ kw_an) (C.ht _ kw_as) (C.ht _ kw_ai) C.hK hP hD hS a b 0 0 (wd_get ha) (wd_get hb) rfl rfl rfl c1 c2 c3 c4 c5 (fun i hi => by_fits _) (by rw [C.hR]; exact hf) (by rw [st_cat, C.hR]; exact hw) d (fun H1 locs1 hP1 hD1 hS1 => ?_)
  rw [by_cpy] at hP1 hD1
  have e2 := wd_set (tg := x.2.2.1.2.1) (ad := ad) (h := h) (k := b) (c := pB n1 (va_cpy f g sp.toNatClampNeg dp.toNatClampNeg n.toNatClampNeg))
  have e3 : va_P x.2.2.1.1 vwCl (wd x.2.2.1.2.1 ad (h.set b (pB n1 (va_cpy f g sp.toNatClampNeg dp.toNatClampNeg n.toNatClampNeg)))) H1 := by rw [← e2]; exact hP1
  have e4 : va_D x.2.2.1.2.2.1 (wd x.2.2.1.2.1 ad (h.set b (pB n1 (va_cpy f g sp.toNatClampNeg dp.toNatClampNeg n.toNatClampNeg)))) := by rw [← e2]; exact hD1
  exact kk ad H1 locs1 ls (wfh_set h1 trivial) (by rw [List.length_set]; exact wfs_t (wfs_t (wfs_t (wfs_t (wfs_t h2))))) (by rw [List.length_set]; exact h3) (by rw [List.length_set]; exact h4) e3 e4 hS1 hl
theorem g_copyJ (C : EV x cc own N rm) {idx a b : Nat} {sp dp n : Int32} (e : cpJ h a sp b dp n = some h') (w : Cond.methodLink own idx arraycopyName ∈ TB) (hf : 1 ≤ rm.frames) (hw : (st.map fun v => v.category).sum + (nativeFrameWords "java/lang/System" "arraycopy" 5 + 11) ≤ rm.locals) (d : decode cc pc = .ok (.invokestatic idx, 3)) (kk : GG x cells slots h' (pc + 3) lv st) : GG x cells slots h pc lv (.int n :: .int dp :: .ref b :: .int sp :: .ref a :: st) := by
  obtain ⟨n0, f, n1, g, ha, hb, c1, c2, c3, c4, c5, rfl⟩ := cpJ_of e
  intro ad H locs ls h1 h2 h3 h4 hP hD hS hl
  refine va_copyl C.hx C.hb (by rw [C.hm, ← C.hn]; exact hl.1.symm) C.ho (C.ht _ w) (C.ht _ kw_an) (C.ht _ kw_as) (C.ht _ kw_ai) C.hK hP hD hS a b 2 2 (wd_get ha) (wd_get hb) rfl rfl rfl c1 c2 c3 c4 c5 (fun i hi => rfl) (by rw [C.hR]; exact hf) (by rw [st_cat, C.hR]; exact hw) d (fun H1 locs1 hP1 hD1 hS1 => ?_)
  have e2 := wd_set (tg := x.2.2.1.2.1) (ad := ad) (h := h) (k := b) (c := pJ n1 (va_cpy f g sp.toNatClampNeg dp.toNatClampNeg n.toNatClampNeg))
  have e3 : va_P x.2.2.1.1 vwCl (wd x.2.2.1.2.1 ad (h.set b (pJ n1 (va_cpy f g sp.toNatClampNeg dp.toNatClampNeg n.toNatClampNeg)))) H1 := by rw [← e2]; exact hP1
  have e4 : va_D x.2.2.1.2.2.1 (wd x.2.2.1.2.1 ad (h.set b (pJ n1 (va_cpy f g sp.toNatClampNeg dp.toNatClampNeg n.toNatClampNeg)))) := by rw [← e2]; exact hD1
  exact kk ad H1 locs1 ls (wfh_set h1 trivial) (by rw [List.length_set]; exact wfs_t (wfs_t (wfs_t (wfs_t (wfs_t h2))))) (by rw [List.length_set]; exact h3) (by rw [List.length_set]; exact h4) e3 e4 hS1 hl
end GM
section GN
variable {x : CX} {cc : ByteArray} {own : String} {N : Nat} {rm : Room} {cells slots pc : Nat} {h h' : HP} {lv lv' : List (Nat × Value)} {st : List Value}
theorem g_newE (C : EV x cc own N rm) {idx ci n k : Nat} {fs : List Value} (F : NC own idx ci n fs) (eh : h' = h ++ [pO ci fs]) (ek : k = h.length) (hc1 : cells + 1 ≤ rm.cells) (hs1 : slots + n ≤ rm.slots) (d : decode cc pc = .ok (.new idx, 3)) (kk : GG x (cells + 1) (slots + n) h' (pc + 3) lv (.ref k :: st)) : GG x cells slots h pc lv st := by
  subst eh; subst ek; exact g_new C F hc1 hs1 d kk
theorem g_newBE (C : EV x cc own N rm) {n : Int32} {n' k : Nat} (eh : h' = h ++ [pB n' (fun _ => 0)]) (ek : k = h.length) (hn : ¬ n < 0) (hN : n.toNatClampNeg = n') (hb : n' ≤ 65536) (hc1 : cells + 1 ≤ rm.cells) (hs1 : slots + n' ≤ rm.slots) (d : decode cc pc = .ok (.newarray .byte, 2)) (kk : GG x (cells + 1) (slots + n') h' (pc + 2) lv (.ref k :: st)) : GG x cells slots h pc lv (.int n :: st) := by
  subst eh; subst ek; exact g_newB C hn hN hb kw_cb hc1 hs1 d kk
theorem g_newIE (C : EV x cc own N rm) {n : Int32} {n' k : Nat} (eh : h' = h ++ [pI n' (fun _ => 0)]) (ek : k = h.length) (hn : ¬ n < 0) (hN : n.toNatClampNeg = n') (hb : n' ≤ 65536) (hc1 : cells + 1 ≤ rm.cells) (hs1 : slots + n' ≤ rm.slots) (d : decode cc pc = .ok (.newarray .int, 2)) (kk : GG x (cells + 1) (slots + n') h' (pc + 2) lv (.ref k :: st)) : GG x cells slots h pc lv (.int n :: st) := by
  subst eh; subst ek; exact g_newI C hn hN hb kw_ci hc1 hs1 d kk
theorem g_newJE (C : EV x cc own N rm) {n : Int32} {n' k : Nat} (eh : h' = h ++ [pJ n' (fun _ => 0)]) (ek : k = h.length) (hn : ¬ n < 0) (hN : n.toNatClampNeg = n') (hb : n' ≤ 65536) (hc1 : cells + 1 ≤ rm.cells) (hs1 : slots + n' ≤ rm.slots) (d : decode cc pc = .ok (.newarray .long, 2)) (kk : GG x (cells + 1) (slots + n') h' (pc + 2) lv (.ref k :: st)) : GG x cells slots h pc lv (.int n :: st) := by
  subst eh; subst ek; exact g_newJ C hn hN hb kw_cj hc1 hs1 d kk
theorem g_putF (C : EV x cc own N rm) {idx ci j k : Nat} {v : Value} {ty : FieldType} (F : FP own idx ci j ty true) (hi : x.2.1.2.2.2.1.name = "<init>") (ho : (vwCl[ci]?.map (fun z => (z.2.1 j).1)) = some own) (e : pV h k ci j v = some h') (hn : ∀ ad, narrow ty (vv ad v) = vv ad v) (hf : ∀ ad, fits ty (vv ad v) = true) (d : decode cc pc = .ok (.putfield idx, 3)) (kk : GG x cells slots h' (pc + 3) lv st) : GG x cells slots h pc lv (v :: .ref k :: st) := g_putV C F (fun _ => ⟨hi, ho⟩) e (fun _ => trivial) hn hf d kk
theorem g_putR (C : EV x cc own N rm) {idx ci j k : Nat} {v : Value} {ty : FieldType} (F : FP own idx ci j ty false) (e : pV h k ci j v = some h') (hn : ∀ ad, narrow ty (vv ad v) = vv ad v) (hf : ∀ ad, fits ty (vv ad v) = true) (d : decode cc pc = .ok (.putfield idx, 3)) (kk : GG x cells slots h' (pc + 3) lv st) : GG x cells slots h pc lv (v :: .ref k :: st) := g_putV C F (fun z => by cases z) e (fun _ => trivial) hn hf d kk
end GN
def lnP (h : HP) (k : Nat) : Option Int32 := match h[k]? with
  | some (.inl (n, _)) => some (Int32.ofNat n)
  | some (.inr (.inl (n, _))) => some (Int32.ofNat n)
  | some (.inr (.inr (.inl (n, _)))) => some (Int32.ofNat n)
  | _ => none
theorem g_alenP {x : CX} {cc : ByteArray} {own : String} {N : Nat} {rm : Room} {cells slots pc : Nat} {h : HP} {lv : List (Nat × Value)} {st : List Value} (C : EV x cc own N rm) {k : Nat} {a : Int32} (e : lnP h k = some a) (d : decode cc pc = .ok (.arraylength, 1)) (kk : GG x cells slots h (pc + 1) lv (.int a :: st)) : GG x cells slots h pc lv (.ref k :: st) := by
  unfold lnP at e
  intro ad H locs ls h1 h2 h3 h4 hP hD hS hl
  have go := kk ad H locs ls h1 (wfs_c wfv_i (wfs_t h2)) h3 h4 hP hD hS hl
  split at e
  · rename_i n f hk
    exact va_alen C.hx C.hb C.hK hP k 0 (wd_get hk) rfl (Option.some.inj e) d go
  · rename_i n f hk
    exact va_alen C.hx C.hb C.hK hP k 1 (wd_get hk) rfl (Option.some.inj e) d go
  · rename_i n f hk
    exact va_alen C.hx C.hb C.hK hP k 2 (wd_get hk) rfl (Option.some.inj e) d go
  · cases e
