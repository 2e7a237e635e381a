/-! the reference's add -/
section RA2
variable {q : Nat} {th ta me re kc : Int32} {F : Type} {φ : Nat → F}
/-- the reference's numbers, with its two marks -/
def RQ (q : Nat) (th ta me re kc pn qn : Int32) (h : HP) (E : Nat → Nat) : Prop := h[q]? = some (pO 8 (RFS q th ta me re kc pn qn)) ∧ RW q h E
theorem RK.at {h h' : HP} (k : RK q h h') : h'[q]? = h[q]? := k.2 q (by omega) (by omega)
theorem rq_of {pn qn : Int32} {h h' : HP} {E E' : Nat → Nat} (R : RQ q th ta me re kc pn qn h E) (k : RK q h h') (R' : RW q h' E') : RQ q th ta me re kc pn qn h' E' := ⟨by rw [RK.at k]; exact R.1, R'⟩
/-- nothing but the reference's number rows and its own fields has changed -/
def RKq (q : Nat) (h h' : HP) : Prop := h'.length = h.length ∧ ∀ j, j ≠ q → ¬ (q + 13 ≤ j ∧ j ≤ q + 26) → ¬ (q + 31 ≤ j ∧ j ≤ q + 36) → h'[j]? = h[j]?
theorem RK.kq {h h' : HP} (k : RK q h h') : RKq q h h' := ⟨k.1, fun j _ h1 h2 => k.2 j h1 h2⟩
theorem RKq.tr {h h' h'' : HP} (a : RKq q h h') (b : RKq q h' h'') : RKq q h h'' := ⟨b.1.trans a.1, fun j h0 h1 h2 => (b.2 j h0 h1 h2).trans (a.2 j h0 h1 h2)⟩
theorem RKq.st {h : HP} {c : PE} : RKq q h (h.set q c) := ⟨List.length_set, fun j h0 _ _ => List.getElem?_set_ne (Ne.symm h0)⟩
theorem RKq.rf {h : HP} : RKq q h h := ⟨rfl, fun _ _ _ _ => rfl⟩
theorem rw_q {h : HP} {E : Nat → Nat} {c : PE} (R : RW q h E) : RW q (h.set q c) E := by
  have kk : ∀ i, 0 < i → (h.set q c)[q + i]? = h[q + i]? := fun i hi => List.getElem?_set_ne (by omega)
  obtain ⟨r1, ⟨a1, a2, a3, a4, a5⟩, ⟨b1, b2⟩, ⟨c1, c2, c3, c4, c5, c6⟩⟩ := R
  refine ⟨fun i hi => ?_, ⟨?_, ?_, ?_, ?_, ?_⟩, ⟨?_, ?_⟩, ⟨?_, ?_, ?_, ?_, ?_, ?_⟩⟩
  · rw [kk i (by have := hi.1; omega)]; exact r1 i hi
  all_goals rw [kk _ (by decide)]; assumption
theorem rq_z23 {pn qn x : Int32} {h : HP} {E : Nat → Nat} (R : RQ q th ta me re kc pn qn h E) : pV h q 8 23 (.int x) = some (h.set q (pO 8 (RFS q th ta me re kc x qn))) := pV_at R.1 (show 23 < 50 by decide)
theorem rq_s23 {pn qn x : Int32} {h : HP} {E : Nat → Nat} (R : RQ q th ta me re kc pn qn h E) : RQ q th ta me re kc x qn (h.set q (pO 8 (RFS q th ta me re kc x qn))) E := ⟨hs_ R.1, rw_q R.2⟩
theorem rq_s24 {pn qn x : Int32} {h : HP} {E : Nat → Nat} (R : RQ q th ta me re kc pn qn h E) : RQ q th ta me re kc pn x (h.set q (pO 8 (RFS q th ta me re kc pn x))) E := ⟨hs_ R.1, rw_q R.2⟩
theorem n_mi [Lean.Grind.Field F] (Z : ZF PP φ) {x y : Nat} (hy : y < PP) : φ ((x + (PP - y)) % PP) = φ x - φ y := by
  rw [zf_md Z, Z.1, zf_sb Z (Nat.le_of_lt hy)]
  grind
theorem ro_d {i : Nat} (h : 13 ≤ i ∧ i ≤ 26) : RO i := h
theorem mo_p : MO2 6 11 PP := Or.inl ⟨rfl, rfl, rfl⟩
theorem mo_n : MO2 7 12 NN := Or.inr ⟨rfl, rfl, rfl⟩
theorem pp0 : 0 < PP := by decide
theorem ad240 [Lean.Grind.Field F] (Z : ZF PP φ) {pn qn : Int32} {h : HP} {E : Nat → Nat} (R : RQ q th ta me re kc pn qn h E) (hd0 : E 20 ≠ 0) (hd : E 20 < PP) (hx : E 13 < PP) (hy : E 14 < PP) (hz : E 15 < PP) :
    ∃ h' E' l, B_Rm_add_240 h q = some h' ∧ RQ q th ta me re kc pn qn h' E' ∧ RK q h h' ∧ (∀ i, i ≠ 13 → i ≠ 14 → i ≠ 19 → i ≠ 20 → i ≠ 21 → E' i = E i) ∧ E' 13 < PP ∧ E' 14 < PP ∧ l * φ (E 20) = φ (E 19) ∧ φ (E' 13) = l * l - φ (E 13) - φ (E 15) ∧ φ (E' 14) = l * (φ (E 13) - (l * l - φ (E 13) - φ (E 15))) - φ (E 14) := by
  obtain ⟨h1, r, g1, g2, g3, g4, g5⟩ := w_inverse R.1 R.2 (t := 21) (a := 20) (ro_d (by omega)) (ro_d (by omega)) rfl hd0 hd mo_p
  have R1 := rq_of R g3 g2
  obtain ⟨h2, i1, i2, i3⟩ := w_times R1.1 R1.2 (t := 19) (a := 19) (b := 21) (x := E 19) (y := r) (ro_d (by omega)) (ro_d (by omega)) (ro_d (by omega)) rfl rfl mo_p
  have R2 := rq_of R1 i3 i2
  generalize hva : E 19 * r % PP = va at *
  have lva : va < PP := by rw [← hva]; exact Nat.mod_lt _ pp0
  obtain ⟨h3, j1, j2, j3⟩ := w_times R2.1 R2.2 (t := 20) (a := 19) (b := 19) (x := va) (y := va) (ro_d (by omega)) (ro_d (by omega)) (ro_d (by omega)) rfl rfl mo_p
  have R3 := rq_of R2 j3 j2
  generalize hvb : va * va % PP = vb at *
  have lvb : vb < PP := by rw [← hvb]; exact Nat.mod_lt _ pp0
  obtain ⟨h4, k1, k2, k3⟩ := w_minus R3.2 (t := 20) (a := 20) (b := 13) (x := vb) (y := E 13) (ro_d (by omega)) (rv_i R3.2 (ro_d (by omega))) (rv_i R3.2 (ro_d (by omega))) mo_p lvb hx
  have R4 := rq_of R3 k3 k2
  generalize hvc : (vb + (PP - E 13)) % PP = vc at *
  have lvc : vc < PP := by rw [← hvc]; exact Nat.mod_lt _ pp0
  obtain ⟨h5, l1, l2, l3⟩ := w_minus R4.2 (t := 20) (a := 20) (b := 15) (x := vc) (y := E 15) (ro_d (by omega)) (rv_i R4.2 (ro_d (by omega))) (rv_i R4.2 (ro_d (by omega))) mo_p lvc hz
  have R5 := rq_of R4 l3 l2
  generalize hvd : (vc + (PP - E 15)) % PP = vd at *
  have lvd : vd < PP := by rw [← hvd]; exact Nat.mod_lt _ pp0
  obtain ⟨h6, m1, m2, m3⟩ := w_minus R5.2 (t := 21) (a := 13) (b := 20) (x := E 13) (y := vd) (ro_d (by omega)) (rv_i R5.2 (ro_d (by omega))) (rv_i R5.2 (ro_d (by omega))) mo_p hx lvd
  have R6 := rq_of R5 m3 m2
  generalize hve : (E 13 + (PP - vd)) % PP = ve at *
  have lve : ve < PP := by rw [← hve]; exact Nat.mod_lt _ pp0
  obtain ⟨h7, n1, n2, n3⟩ := w_times R6.1 R6.2 (t := 21) (a := 19) (b := 21) (x := va) (y := ve) (ro_d (by omega)) (ro_d (by omega)) (ro_d (by omega)) rfl rfl mo_p
  have R7 := rq_of R6 n3 n2
  generalize hvf : va * ve % PP = vf at *
  have lvf : vf < PP := by rw [← hvf]; exact Nat.mod_lt _ pp0
  obtain ⟨h8, o1, o2, o3⟩ := w_minus R7.2 (t := 14) (a := 21) (b := 14) (x := vf) (y := E 14) (ro_d (by omega)) (rv_i R7.2 (ro_d (by omega))) (rv_i R7.2 (ro_d (by omega))) mo_p lvf hy
  have R8 := rq_of R7 o3 o2
  generalize hvg : (vf + (PP - E 14)) % PP = vg at *
  have lvg : vg < PP := by rw [← hvg]; exact Nat.mod_lt _ pp0
  obtain ⟨h9, p1, p2, p3⟩ := w_copy R8.2 (t := 13) (a := 20) (x := vd) (ro_d (by omega)) (rv_i R8.2 (ro_d (by omega))) (by decide)
  have R9 := rq_of R8 p3 p2
  have fl : φ va = φ (E 19) * φ r := by rw [← hva, zf_md Z, Z.2.1]
  have fr : φ (E 20) * φ r = 1 := by
    rw [← Z.2.1, ← Z.2.2.1]
    exact (Z.2.2.2.1 _ _).mpr (by rw [g5]; exact (Nat.mod_eq_of_lt (by decide)).symm)
  have fd : φ vd = φ va * φ va - φ (E 13) - φ (E 15) := by rw [← hvd, n_mi Z hz, ← hvc, n_mi Z hx, ← hvb, zf_md Z, Z.2.1]
  refine ⟨h9, _, φ va, ?_, R9, g3.tr (i3.tr (j3.tr (k3.tr (l3.tr (m3.tr (n3.tr (o3.tr p3))))))), ?_, lvd, lvg, ?_, fd, ?_⟩
  · unfold B_Rm_add_240
    rw [bs_ (gR_at R.1 rfl), bs_ (gR_at R.1 rfl), bs_ (gR_at R.1 rfl), os_ R.1, bs_ g1, bs_ (gR_at R1.1 rfl), bs_ (gR_at R1.1 rfl), bs_ (gR_at R1.1 rfl), bs_ (gR_at R1.1 rfl), bs_ (gR_at R1.1 rfl), os_ R1.1, bs_ i1]
    rw [bs_ (gR_at R2.1 rfl), bs_ (gR_at R2.1 rfl), bs_ (gR_at R2.1 rfl), bs_ (gR_at R2.1 rfl), bs_ (gR_at R2.1 rfl), os_ R2.1, bs_ j1]
    rw [bs_ (gR_at R3.1 rfl), bs_ (gR_at R3.1 rfl), bs_ (gR_at R3.1 rfl), bs_ (gR_at R3.1 rfl), bs_ k1]
    rw [bs_ (gR_at R4.1 rfl), bs_ (gR_at R4.1 rfl), bs_ (gR_at R4.1 rfl), bs_ (gR_at R4.1 rfl), bs_ l1]
    rw [bs_ (gR_at R5.1 rfl), bs_ (gR_at R5.1 rfl), bs_ (gR_at R5.1 rfl), bs_ (gR_at R5.1 rfl), bs_ m1]
    rw [bs_ (gR_at R6.1 rfl), bs_ (gR_at R6.1 rfl), bs_ (gR_at R6.1 rfl), bs_ (gR_at R6.1 rfl), bs_ (gR_at R6.1 rfl), os_ R6.1, bs_ n1]
    rw [bs_ (gR_at R7.1 rfl), bs_ (gR_at R7.1 rfl), bs_ (gR_at R7.1 rfl), bs_ (gR_at R7.1 rfl), bs_ o1]
    rw [bs_ (gR_at R8.1 rfl), bs_ (gR_at R8.1 rfl), bs_ p1]
  · intro i a b c d e
    rw [up1_n a, up1_n b, up1_n e, up1_n e, up1_n d, up1_n d, up1_n d, up1_n c, up1_n e]
  · rw [fl]
    have : φ (E 19) * φ r * φ (E 20) = φ (E 19) * (φ (E 20) * φ r) := by grind
    rw [this, fr]; grind
  · show φ vg = _
    rw [← hvg, n_mi Z hy, ← hvf, zf_md Z, Z.2.1, ← hve, n_mi Z lvd, fd]
end RA2
