/-! a copy out of a static table of ints -/
theorem i32_nn {z : Int32} (hz : ¬ z < 0) : z.toInt = (z.toNatClampNeg : Int) := by
  have h0 : (0 : Int) ≤ z.toInt := by simpa using Int32.le_iff_toInt_le.mp (Int32.not_lt.mp hz)
  show z.toInt = ((z.toInt.toNat : Nat) : Int)
  omega
theorem cpT_of {h h' : HP} {t b : Nat} {sp dp n : Int32} (e : cpT h t sp b dp n = some h') : ∃ n1 g, t < 7 ∧ h[b]? = some (pI n1 g) ∧ ¬ sp < 0 ∧ ¬ dp < 0 ∧ ¬ n < 0 ∧ sp.toNatClampNeg + n.toNatClampNeg ≤ (stab t).1 ∧ dp.toNatClampNeg + n.toNatClampNeg ≤ n1 ∧ h' = h.set b (pI n1 (va_cpy (stab t).2 g sp.toNatClampNeg dp.toNatClampNeg n.toNatClampNeg)) := by
  unfold cpT at e
  split at e
  · split at e
    · cases e
    · rename_i n1 g hb hc
      exact ⟨n1, g, Nat.lt_of_not_le fun z => hc (Or.inl z), hb, fun z => hc (Or.inr (Or.inl z)), fun z => hc (Or.inr (Or.inr (Or.inl z))), fun z => hc (Or.inr (Or.inr (Or.inr (Or.inl z)))), Nat.le_of_not_lt fun z => hc (Or.inr (Or.inr (Or.inr (Or.inr (Or.inl z))))), Nat.le_of_not_lt fun z => hc (Or.inr (Or.inr (Or.inr (Or.inr (Or.inr z))))), (Option.some.inj e).symm⟩
  · cases e
set_option maxHeartbeats 4000000 in
theorem g_copyT {x : CX} {cc : ByteArray} {own : String} {N : Nat} {rm : Room} {cells slots pc : Nat} {h h' : HP} {lv : List (Nat × Value)} {st : List Value} (C : EV x cc own N rm) {idx t b : Nat} {sp dp n : Int32} (e : cpT h t sp b dp n = some h') (w : Cond.methodLink own idx arraycopyName ∈ TB) (hf : 1 ≤ rm.frames) (hw : (st.map fun v => v.category).sum + (nativeFrameWords "java/lang/System" "arraycopy" 5 + 11) ≤ rm.locals) (d : decode cc pc = .ok (.invokestatic idx, 3)) (kk : GG x cells slots h' (pc + 3) lv st) : GG x cells slots h pc lv (.int n :: .int dp :: .ref b :: .int sp :: .retAddr t :: st) := by
  obtain ⟨n1, g, h7, hb, c1, c2, c3, c4, c5, rfl⟩ := cpT_of e
  intro ad H locs ls h1 h2 h3 h4 hP hD hS hl
  have hT0 := (C.hS t h7).2
  rw [← h4.2.1] at hT0
  obtain ⟨scr, s1, ⟨s6, k0, hk0, cm0, hkk0⟩, s3, s4, -, s5, s7⟩ := hT0
  have hc0 : H[ad.2 t]? = some scr := by rw [hS.2.1 _ (Array.getElem?_eq_some_iff.mp s1).1 s7]; exact s1
  have ha1 := wd_get (tg := x.2.2.1.2.1) (ad := ad) hb
  have hc1 : H[ad.1 b]? = some (vp_cell (x.2.2.1.2.1 1) (n1, .inl g)) := hP b _ ha1
  obtain ⟨-, k1, hk1, cm1, hkk1⟩ := (C.hK.2 1 _ rfl).1 n1 (fun j => .int (g j))
  intro T hT X
  obtain ⟨vm', X', step⟩ := X.arraycopy C.hx C.ho (C.ht _ w) (C.ht _ kw_an) (C.ht _ kw_as) (C.ht _ kw_ai) (src := ad.2 t) (dst := ad.1 b) (cs := scr) (cd := vp_cell (x.2.2.1.2.1 1) (n1, .inl g)) (srcPos := sp) (destPos := dp) (n := n) (by rw [hT]; exact hc0) (by rw [hT]; exact hc1)
    s6 (fun _ h => by cases h) s3 (fun h => by cases h) hk0 hk1 hkk0 hkk1 (by simp [refKind]) c1 c2 c3
    (by rw [i32_nn c1, i32_nn c3]; omega)
    (by rw [i32_nn c2, i32_nn c3]; show ¬ _ > ((arrV (x.2.2.1.2.1 1) n1 (fun j => .int (g j))).slots.size : Int); rw [arrV_size]; omega)
    (fun vm₁ _ i hi => by
      have e9 : scr.slots.getD (sp.toNatClampNeg + i) .null = .int ((stab t).2 (sp.toNatClampNeg + i)) := by
        rw [Array.getD_eq_getD_getElem?, s5 _ (by omega)]; rfl
      rw [e9]
      exact ⟨rfl, trivial⟩)
    (g := F0 x.2.1.1 pc ls (.int n :: .int dp :: .ref (ad.1 b) :: .int sp :: .ref (ad.2 t) :: st.map (vv ad))) rfl (by rw [C.hm, ← C.hn]; exact hl.1) (rest := st.map (vv ad)) rfl (by rw [C.hb]; exact d) (by rw [C.hR]; exact hf) (by show 2 * 0 + _ + _ ≤ _; rw [st_cat, C.hR]; omega)
  have e1 : copied scr (vp_cell (x.2.2.1.2.1 1) (n1, .inl g)) sp dp n = vp_cell (x.2.2.1.2.1 1) (n1, .inl (va_cpy (stab t).2 g sp.toNatClampNeg dp.toNatClampNeg n.toNatClampNeg)) := va_copiedX (fun z => .int z) scr (x.2.2.1.2.1 1) (stab t).2 g s5 c4
  rw [e1] at X' step
  have hl9 : ad.1 b < H.size := (Array.getElem?_eq_some_iff.mp hc1).1
  generalize hq : vp_cell (x.2.2.1.2.1 1) (n1, .inl (va_cpy (stab t).2 g sp.toNatClampNeg dp.toNatClampNeg n.toNatClampNeg)) = cell at X' step
  have hheap : ((T.setVm vm').setCell (ad.1 b) cell).heap = H.setIfInBounds (ad.1 b) cell := by rw [← hT]; rfl
  have oq : ∀ q : Nat, q ≠ ad.1 b → (H.setIfInBounds (ad.1 b) cell)[q]? = H[q]? := fun q hq => by simp [Array.getElem?_setIfInBounds, Ne.symm hq]
  have e2 := wd_set (tg := x.2.2.1.2.1) (ad := ad) (h := h) (k := b) (c := pI n1 (va_cpy (stab t).2 g sp.toNatClampNeg dp.toNatClampNeg n.toNatClampNeg))
  have hP1 := hP.set hD ha1 (e := cv x.2.2.1.2.1 ad (pI n1 (va_cpy (stab t).2 g sp.toNatClampNeg dp.toNatClampNeg n.toNatClampNeg))) (show (H.setIfInBounds (ad.1 b) cell)[ad.1 b]? = some (vp_cell _ _) by simp [Array.getElem?_setIfInBounds, hl9, ← hq]) oq
  have hD1 := hD.set (e := cv x.2.2.1.2.1 ad (pI n1 (va_cpy (stab t).2 g sp.toNatClampNeg dp.toNatClampNeg n.toNatClampNeg))) ha1
  rw [e2] at hP1 hD1
  have hA1 : x.2.2.1.2.2.1 (ad.1 b) := hD.2 b _ ha1
  obtain ⟨t2, a1, b1⟩ := kk ad (H.setIfInBounds (ad.1 b) cell) _ ls (wfh_set h1 trivial) (by rw [List.length_set]; exact wfs_t (wfs_t (wfs_t (wfs_t (wfs_t h2))))) (by rw [List.length_set]; exact h3) (by rw [List.length_set]; exact h4) hP1 hD1 ⟨by simp; exact hS.1, fun q g1 g2 => by
      rw [oq q (fun z => g2 (by rw [z]; exact hA1))]
      exact hS.2.1 q g1 g2, fun q hq => by
      rcases List.mem_append.mp hq with z | z
      · exact hS.2.2 q z
      · obtain ⟨y, -, hy⟩ := List.mem_map.mp z
        rw [← hy]
        exact hA1⟩ hl _ hheap X'
  exact ⟨t2, step t2 a1, b1⟩
