/-! FIELDS, STATICS, MAKING -/
abbrev FL (own : String) (idx ci j : Nat) : Prop := ∃ (Cn : String) (T : u_T) (n : Nat), vwCl[ci]? = some (Cn, T, n) ∧ (∀ w ∈ u_ws Cn T n, w ∈ TB) ∧ j < n ∧ (T j).1 = Cn ∧ Cond.fieldLink own idx Cn (T j).2.1 (T j).2.2.1 ∈ TB
abbrev FP (own : String) (idx ci j : Nat) (ty : FieldType) (fin : Bool) : Prop := ∃ (Cn : String) (T : u_T) (n : Nat) (ty0 : Nat → FieldType), vwCl[ci]? = some (Cn, T, n) ∧ (∀ w ∈ u_ws Cn T n, w ∈ TB) ∧ j < n ∧ (T j).1 = Cn ∧ Cond.fieldLink own idx Cn (T j).2.1 (T j).2.2.1 ∈ TB ∧ (∀ k, k < n → parseFieldDescriptor (T k).2.2.1 = some (ty0 k)) ∧ (∀ a, a < n → ∀ b, b < n → a ≠ b → (T a).2.1 ≠ (T b).2.1) ∧ (T j).2.2.2 = fin ∧ parseFieldDescriptor (T j).2.2.1 = some ty
theorem gV_of {h : HP} {k c j : Nat} {v : Value} (e : gV h k c j = some v) : ∃ fs, h[k]? = some (pO c fs) ∧ fs[j]? = some v := by
  unfold gV at e
  split at e
  · split at e
    · rename_i d fs hk hc
      subst hc
      exact ⟨fs, hk, e⟩
    · cases e
  · cases e
theorem gI_of {h : HP} {k c j : Nat} {a : Int32} (e : gI h k c j = some a) : gV h k c j = some (.int a) := by
  unfold gI at e
  split at e
  · rename_i y hy
    rw [hy, Option.some.inj e]
  · cases e
theorem gJ_of {h : HP} {k c j : Nat} {a : Int64} (e : gJ h k c j = some a) : gV h k c j = some (.long a) := by
  unfold gJ at e
  split at e
  · rename_i y hy
    rw [hy, Option.some.inj e]
  · cases e
theorem gR_of {h : HP} {k c j a : Nat} (e : gR h k c j = some a) : gV h k c j = some (.ref a) := by
  unfold gR at e
  split at e
  · rename_i y hy
    rw [hy, Option.some.inj e]
  · cases e
theorem pV_of {h h' : HP} {k c j : Nat} {v : Value} (e : pV h k c j v = some h') : ∃ fs, h[k]? = some (pO c fs) ∧ j < fs.length ∧ h' = h.set k (pO c (fs.set j v)) := by
  unfold pV at e
  split at e
  · split at e
    · rename_i d fs hk hc
      obtain ⟨rfl, hj⟩ := hc
      exact ⟨fs, hk, hj, (Option.some.inj e).symm⟩
    · cases e
  · cases e
section GF
variable {x : CX} {cc : ByteArray} {own : String} {N : Nat} {rm : Room} {cells slots pc : Nat} {h : HP} {lv lv' : List (Nat × Value)} {st : List Value}
theorem g_getV (C : EV x cc own N rm) {idx ci j k : Nat} {v : Value} (F : FL own idx ci j) (e : gV h k ci j = some v) (d : decode cc pc = .ok (.getfield idx, 3)) (kk : GG x cells slots h (pc + 3) lv (v :: st)) : GG x cells slots h pc lv (.ref k :: st) := by
  obtain ⟨Cn, T, n, hc, hin, hj, hd, hlk⟩ := F
  obtain ⟨fs, hk, hv⟩ := gV_of e
  intro ad H locs ls h1 h2 h3 h4 hP hD hS hl
  have hwf : wfs h.length fs := h1 _ (List.mem_of_getElem? hk)
  exact va_get C.hx C.hb C.ht hin C.ho C.hK hP k (wd_get hk) hc j hj (C.ht _ hlk) (fun _ h9 => by rw [hd] at h9; exact h9) (v := vv ad v) (by rw [List.getElem?_map, hv]; rfl) d (kk ad H locs ls h1 (wfs_c (hwf v (List.mem_of_getElem? hv)) (wfs_t h2)) h3 h4 hP hD hS hl)
theorem g_getI (C : EV x cc own N rm) {idx ci j k : Nat} {a : Int32} (F : FL own idx ci j) (e : gI h k ci j = some a) (d : decode cc pc = .ok (.getfield idx, 3)) (kk : GG x cells slots h (pc + 3) lv (.int a :: st)) : GG x cells slots h pc lv (.ref k :: st) := g_getV C F (gI_of e) d kk
theorem g_getJ (C : EV x cc own N rm) {idx ci j k : Nat} {a : Int64} (F : FL own idx ci j) (e : gJ h k ci j = some a) (d : decode cc pc = .ok (.getfield idx, 3)) (kk : GG x cells slots h (pc + 3) lv (.long a :: st)) : GG x cells slots h pc lv (.ref k :: st) := g_getV C F (gJ_of e) d kk
theorem g_getR (C : EV x cc own N rm) {idx ci j k a : Nat} (F : FL own idx ci j) (e : gR h k ci j = some a) (d : decode cc pc = .ok (.getfield idx, 3)) (kk : GG x cells slots h (pc + 3) lv (.ref a :: st)) : GG x cells slots h pc lv (.ref k :: st) := g_getV C F (gR_of e) d kk
theorem g_putV (C : EV x cc own N rm) {idx ci j k : Nat} {v : Value} {h' : HP} {ty : FieldType} {fin : Bool} (F : FP own idx ci j ty fin) (hfin : fin = true → x.2.1.2.2.2.1.name = "<init>" ∧ (vwCl[ci]?.map (fun z => (z.2.1 j).1)) = some own) (e : pV h k ci j v = some h') (hw : wfv h.length v → True) (hn : ∀ ad, narrow ty (vv ad v) = vv ad v) (hf : ∀ ad, fits ty (vv ad v) = true) (d : decode cc pc = .ok (.putfield idx, 3)) (kk : GG x cells slots h' (pc + 3) lv st) : GG x cells slots h pc lv (v :: .ref k :: st) := by
  obtain ⟨Cn, T, n, ty0, hc, hin, hj, hd, hlk, hty, hnm, hfn, hdt⟩ := F
  obtain ⟨fs, hk, hjl, rfl⟩ := pV_of e
  intro ad H locs ls h1 h2 h3 h4 hP hD hS hl
  have hwf : wfs h.length fs := h1 _ (List.mem_of_getElem? hk)
  have e2 : (wd x.2.2.1.2.1 ad h).set k (ad.1 k, .inr (ci, (fs.map (vv ad)).set j (vv ad v))) = wd x.2.2.1.2.1 ad (h.set k (pO ci (fs.set j v))) := by
    rw [← List.map_set]; exact wd_set (c := pO ci (fs.set j v))
  have hwn : wfs h.length (fs.set j v) := by
    intro w hw
    rcases List.mem_or_eq_of_mem_set hw with z | z
    · exact hwf w z
    · rw [z]; exact wfs_h h2
  have go : ∀ (H1 : Heap) (locs1 : List Loc), va_P x.2.2.1.1 vwCl ((wd x.2.2.1.2.1 ad h).set k (ad.1 k, .inr (ci, (fs.map (vv ad)).set j (vv ad v)))) H1 → va_D x.2.2.1.2.2.1 ((wd x.2.2.1.2.1 ad h).set k (ad.1 k, .inr (ci, (fs.map (vv ad)).set j (vv ad v)))) → va_S x.2.2.1.2.2.1 x.1.2.2.2.2.heap H1 locs1 → W x.1.1 x.1.2.1 x.1.2.2.1 x.1.2.2.2.1 x.1.2.2.2.2 x.2.1.1 x.2.1.2.1 x.2.1.2.2.1 x.2.1.2.2.2.1 x.2.1.2.2.2.2 H1 locs1 cells slots x.2.2.2.2.2 (F0 x.2.1.1 (pc + 3) ls (st.map (vv ad))) := by
    intro H1 locs1 hP1 hD1 hS1
    rw [e2] at hP1 hD1
    exact kk ad H1 locs1 ls (wfh_set h1 hwn) (by rw [List.length_set]; exact wfs_t (wfs_t h2)) (by rw [List.length_set]; exact h3) (by rw [List.length_set]; exact h4) hP1 hD1 hS1 hl
  cases fin with
  | false => exact va_put C.hx C.hb C.ht hin ty0 hty hnm C.ho C.hK hP hD hS k (wd_get hk) hc j hj (C.ht _ hlk) (fun _ h9 => by rw [hd] at h9; exact h9) hfn hdt (hn ad) (hf ad) (by rw [List.length_map]; exact hjl) d go
  | true =>
    obtain ⟨hi, ho⟩ := hfin rfl
    rw [hc] at ho
    exact va_putF C.hx C.hb C.ht hin ty0 hty hnm C.ho C.hK hP hD hS k (wd_get hk) hc j hj (C.ht _ hlk) (fun _ h9 => by rw [hd] at h9; exact h9) hfn hi (Option.some.inj ho) hdt (hn ad) (hf ad) (by rw [List.length_map]; exact hjl) d go
theorem g_putI (C : EV x cc own N rm) {idx ci j k : Nat} {a : Int32} {h' : HP} (F : FP own idx ci j .int false) (e : pV h k ci j (.int a) = some h') (d : decode cc pc = .ok (.putfield idx, 3)) (kk : GG x cells slots h' (pc + 3) lv st) : GG x cells slots h pc lv (.int a :: .ref k :: st) := g_putV C F (fun z => by cases z) e (fun _ => trivial) (fun _ => rfl) (fun _ => rfl) d kk
theorem g_putZ (C : EV x cc own N rm) {idx ci j k : Nat} {a : Int32} {h' : HP} (F : FP own idx ci j .boolean false) (e : pZ h k ci j a = some h') (d : decode cc pc = .ok (.putfield idx, 3)) (kk : GG x cells slots h' (pc + 3) lv st) : GG x cells slots h pc lv (.int a :: .ref k :: st) := by
  unfold pZ at e
  split at e
  · rename_i hz
    rcases hz with rfl | rfl
    · exact g_putV C F (fun z => by cases z) e (fun _ => trivial) (fun _ => rfl) (fun _ => rfl) d kk
    · exact g_putV C F (fun z => by cases z) e (fun _ => trivial) (fun _ => rfl) (fun _ => rfl) d kk
  · cases e
theorem g_gets (C : EV x cc own N rm) {idx t : Nat} (ht : t < 7) (hlk : Cond.fieldLink own idx (stC t) (stN t) "[I" ∈ TB) (d : decode cc pc = .ok (.getstatic idx, 3)) (kk : GG x cells slots h (pc + 3) lv (.retAddr t :: st)) : GG x cells slots h pc lv st := by
  intro ad H locs ls h1 h2 h3 h4 hP hD hS hl
  have hZ := (C.hS t ht).1
  rw [← h4.2.1] at hZ
  exact va_gets C.hx C.hb hZ hS C.ho (C.ht _ hlk) (fun _ h9 => h9) d (kk ad H locs ls h1 (wfs_c wfv_t h2) h3 h4 hP hD hS hl)
theorem wd_push {tg : Nat → ClassId} {ad : AD} {h : HP} {q : Nat} {c : PE} (hw : wfh h) (hc : wfc h.length c) : wd tg ad h ++ [(q, cv tg ad c)] = wd tg (va_up ad.1 h.length q, ad.2) (h ++ [c]) := by
  have ha : ∀ k, k < h.length → (va_up ad.1 h.length q) k = ad.1 k := fun k hk => by simp [va_up, Nat.ne_of_lt hk]
  have e := wd_agree (tg := tg) (ad := ad) (ad' := (va_up ad.1 h.length q, ad.2)) hw rfl ha
  have e3 := cv_agree (tg := tg) (ad := ad) (ad' := (va_up ad.1 h.length q, ad.2)) rfl ha hc
  rw [← e, ← e3]
  simp [wd, va_up]
theorem g_push {cells' slots' : Nat} {ad : AD} {H1 : Heap} {locs : List Loc} {ls : Array Slot} {q pc' : Nat} {c : PE} {st' : List Value} (h1 : wfh h) (h2 : wfs h.length st') (h3 : wfl h.length lv) (h4 : x.2.2.2.1 ≤ h.length ∧ ad.2 = x.2.2.2.2.1.2 ∧ ∀ k, k < x.2.2.2.1 → ad.1 k = x.2.2.2.2.1.1 k) (hc : wfc h.length c)
    (hP : va_P x.2.2.1.1 vwCl (wd x.2.2.1.2.1 ad h ++ [(q, cv x.2.2.1.2.1 ad c)]) H1) (hD : va_D x.2.2.1.2.2.1 (wd x.2.2.1.2.1 ad h ++ [(q, cv x.2.2.1.2.1 ad c)])) (hS : va_S x.2.2.1.2.2.1 x.1.2.2.2.2.heap H1 locs) (hl : lv_has ls x.2.2.1.2.2.2 (lm ad lv))
    (kk : GG x cells' slots' (h ++ [c]) pc' lv (.ref h.length :: st')) : W x.1.1 x.1.2.1 x.1.2.2.1 x.1.2.2.2.1 x.1.2.2.2.2 x.2.1.1 x.2.1.2.1 x.2.1.2.2.1 x.2.1.2.2.2.1 x.2.1.2.2.2.2 H1 locs cells' slots' x.2.2.2.2.2 (F0 x.2.1.1 pc' ls (.ref q :: st'.map (vv ad))) := by
  rw [wd_push h1 hc] at hP hD
  have ha : ∀ k, k < h.length → (va_up ad.1 h.length q) k = ad.1 k := fun k hk => by simp [va_up, Nat.ne_of_lt hk]
  have hlen : (h ++ [c]).length = h.length + 1 := by simp
  have go := kk (va_up ad.1 h.length q, ad.2) H1 locs ls (wfh_push h1 (wfc_up hc (Nat.le_succ _))) (by rw [hlen]; exact wfs_c (wfv_r (Nat.lt_succ_self _)) (wfs_up h2 (Nat.le_succ _))) (by rw [hlen]; exact wfl_up h3 (Nat.le_succ _)) ⟨by rw [hlen]; exact Nat.le_succ_of_le h4.1, h4.2.1, fun k hk => (ha k (Nat.lt_of_lt_of_le hk h4.1)).trans (h4.2.2 k hk)⟩ hP hD hS (by rw [lm_agree (ad := ad) (ad' := (va_up ad.1 h.length q, ad.2)) rfl ha h3]; exact hl)
  have e1 : (Value.ref h.length :: st').map (vv (va_up ad.1 h.length q, ad.2)) = .ref q :: st'.map (vv ad) := by
    rw [List.map_cons, vs_agree (ad := ad) (ad' := (va_up ad.1 h.length q, ad.2)) rfl ha h2]
    show Value.ref (va_up ad.1 h.length q h.length) :: _ = _
    simp [va_up]
  rw [e1] at go
  exact go
abbrev NC (own : String) (idx ci n : Nat) (fs : List Value) : Prop := ∃ (Cn : String) (T : u_T) (ty : Nat → FieldType), vwCl[ci]? = some (Cn, T, n) ∧ (∀ w ∈ u_ws Cn T n, w ∈ TB) ∧ (∀ k, k < n → parseFieldDescriptor (T k).2.2.1 = some (ty k)) ∧ Cond.classLink own idx Cn ∈ TB ∧ Cond.instantiable Cn n ∈ TB ∧ Cond.initialized Cn ∈ TB ∧ (∀ j, j < n → defaultValue (ty j) = vp_V fs j) ∧ (∀ v ∈ fs, v = .null ∨ v = .int 0 ∨ v = .long 0)
theorem g_new (C : EV x cc own N rm) {idx ci n : Nat} {fs : List Value} (F : NC own idx ci n fs) (hc1 : cells + 1 ≤ rm.cells) (hs1 : slots + n ≤ rm.slots) (d : decode cc pc = .ok (.new idx, 3)) (kk : GG x (cells + 1) (slots + n) (h ++ [pO ci fs]) (pc + 3) lv (.ref h.length :: st)) : GG x cells slots h pc lv st := by
  obtain ⟨Cn, T, ty, hc, hin, hty, hcl, hins, hini, hfs, hdv⟩ := F
  intro ad H locs ls h1 h2 h3 h4 hP hD hS hl
  have hv : fs.map (vv ad) = fs := by
    have : ∀ (l : List Value), (∀ v ∈ l, v = .null ∨ v = .int 0 ∨ v = .long 0) → l.map (vv ad) = l := by
      intro l
      induction l with
      | nil => intro _; rfl
      | cons a l ih =>
        intro hq
        rw [List.map_cons, ih (fun v hv => hq v (List.mem_cons_of_mem _ hv))]
        rcases hq a List.mem_cons_self with rfl | rfl | rfl <;> rfl
    exact this fs hdv
  have hwc : wfc h.length (pO ci fs) := by
    intro v hv k e
    rcases hdv v hv with z | z | z <;> (rw [z] at e; cases e)
  refine va_new C.hx C.hb C.ht hin ty hty C.ho (C.ht _ hcl) (C.ht _ hins) (C.ht _ hini) C.hK hP hD hS C.hA hc hfs (by rw [C.hR]; exact hc1) (by rw [C.hR]; exact hs1) d (fun q H1 hP1 hD1 hS1 => ?_)
  have ec : cv x.2.2.1.2.1 ad (pO ci fs) = .inr (ci, fs) := by show Sum.inr (ci, fs.map (vv ad)) = _; rw [hv]
  rw [← ec] at hP1 hD1
  exact g_push h1 h2 h3 h4 hwc hP1 hD1 hS1 hl kk
theorem ar_tag (C : EV x cc own N rm) {t : Nat} {ty : FieldType} {cA : ClassId} (hp : ty = .byte ∨ ty = .int ∨ ty = .long) (ht : (tysOf x.2.2.1.2.1)[t]? = some (x.2.2.1.2.1 t, ty)) (hK : va_K x.2.2.1.1 vwCl (tysOf x.2.2.1.2.1 ++ [(cA, ty)]) x.1.2.2.2.2) : cA = x.2.2.1.2.1 t := by
  have h1 := (C.hK.2 t _ ht).2
  have h2 := (hK.2 6 (cA, ty) rfl).2
  rcases hp with rfl | rfl | rfl <;> exact Option.some.inj (h2.symm.trans h1)
theorem g_newB (C : EV x cc own N rm) {n : Int32} {n' : Nat} (hn : ¬ n < 0) (hN : n.toNatClampNeg = n') (hb : n' ≤ 65536) (hw : Cond.arrayClass .byte ∈ TB) (hc1 : cells + 1 ≤ rm.cells) (hs1 : slots + n' ≤ rm.slots) (d : decode cc pc = .ok (.newarray .byte, 2)) (kk : GG x (cells + 1) (slots + n') (h ++ [pB n' (fun _ => 0)]) (pc + 2) lv (.ref h.length :: st)) : GG x cells slots h pc lv (.int n :: st) := by
  intro ad H locs ls h1 h2 h3 h4 hP hD hS hl
  refine va_newa (a0 := (n', .inl (fun _ => 0))) (atype := .byte) (ty := .byte) C.hx C.hb (C.ht _ hw) rfl C.hK hP hD hS C.hA (fun _ => rfl) hn hN (by show n' * 1 ≤ _; omega) (by rw [C.hR]; exact hc1) (by rw [C.hR]; exact hs1) d (fun q cA H1 hK1 hP1 hD1 hS1 => ?_)
  have et := ar_tag C (t := 0) (Or.inl rfl) rfl hK1
  subst et
  exact g_push (c := pB n' (fun _ => 0)) h1 (wfs_t h2) h3 h4 trivial hP1 hD1 hS1 hl kk
theorem g_newI (C : EV x cc own N rm) {n : Int32} {n' : Nat} (hn : ¬ n < 0) (hN : n.toNatClampNeg = n') (hb : n' ≤ 65536) (hw : Cond.arrayClass .int ∈ TB) (hc1 : cells + 1 ≤ rm.cells) (hs1 : slots + n' ≤ rm.slots) (d : decode cc pc = .ok (.newarray .int, 2)) (kk : GG x (cells + 1) (slots + n') (h ++ [pI n' (fun _ => 0)]) (pc + 2) lv (.ref h.length :: st)) : GG x cells slots h pc lv (.int n :: st) := by
  intro ad H locs ls h1 h2 h3 h4 hP hD hS hl
  refine va_newa (a0 := (n', .inl (fun _ => 0))) (atype := .int) (ty := .int) C.hx C.hb (C.ht _ hw) rfl C.hK hP hD hS C.hA (fun _ => rfl) hn hN (by show n' * 4 ≤ _; omega) (by rw [C.hR]; exact hc1) (by rw [C.hR]; exact hs1) d (fun q cA H1 hK1 hP1 hD1 hS1 => ?_)
  have et := ar_tag C (t := 1) (Or.inr (Or.inl rfl)) rfl hK1
  subst et
  exact g_push (c := pI n' (fun _ => 0)) h1 (wfs_t h2) h3 h4 trivial hP1 hD1 hS1 hl kk
theorem g_newJ (C : EV x cc own N rm) {n : Int32} {n' : Nat} (hn : ¬ n < 0) (hN : n.toNatClampNeg = n') (hb : n' ≤ 65536) (hw : Cond.arrayClass .long ∈ TB) (hc1 : cells + 1 ≤ rm.cells) (hs1 : slots + n' ≤ rm.slots) (d : decode cc pc = .ok (.newarray .long, 2)) (kk : GG x (cells + 1) (slots + n') (h ++ [pJ n' (fun _ => 0)]) (pc + 2) lv (.ref h.length :: st)) : GG x cells slots h pc lv (.int n :: st) := by
  intro ad H locs ls h1 h2 h3 h4 hP hD hS hl
  refine va_newa (a0 := (n', .inr (.inl (fun _ => 0)))) (atype := .long) (ty := .long) C.hx C.hb (C.ht _ hw) rfl C.hK hP hD hS C.hA (fun _ => rfl) hn hN (by show n' * 8 ≤ _; omega) (by rw [C.hR]; exact hc1) (by rw [C.hR]; exact hs1) d (fun q cA H1 hK1 hP1 hD1 hS1 => ?_)
  have et := ar_tag C (t := 2) (Or.inr (Or.inr rfl)) rfl hK1
  subst et
  exact g_push (c := pJ n' (fun _ => 0)) h1 (wfs_t h2) h3 h4 trivial hP1 hD1 hS1 hl kk
end GF
