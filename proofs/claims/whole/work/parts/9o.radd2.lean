/-! the reference's add, all of it -/
section RA3
variable {q : Nat} {th ta me re kc : Int32} {F : Type} {φ : Nat → F}
def PT (φ : Nat → F) (pn : Int32) (x y : Nat) : Option (F × F) := if pn = 0 then some (φ x, φ y) else none
theorem zf_ne [Lean.Grind.Field F] (Z : ZF PP φ) {x y : Nat} (hx : x < PP) (hy : y < PP) : φ x = φ y ↔ x = y := by
  rw [Z.2.2.2.1, Nat.mod_eq_of_lt hx, Nat.mod_eq_of_lt hy]
theorem v_plus {h : HP} {E : Nat → Nat} (R : RW q h E) {t a b m u v x y : Nat} (ht : RO t) (ha : RV q h a x) (hb : RV q h b y) (hm : MO2 m u v) (hx : x < v) (hy : y < v) : ∃ h' w, P_Rm_plus h (q + t) (q + a) (q + b) (q + m) = some h' ∧ RW q h' (up1 E t w) ∧ RK q h h' ∧ w < v ∧ (x + y) % v = w := by
  obtain ⟨h', a, b, c⟩ := w_plus R ht ha hb hm hx hy
  exact ⟨h', _, a, b, c, Nat.mod_lt _ (by omega), rfl⟩
theorem v_minus {h : HP} {E : Nat → Nat} (R : RW q h E) {t a b m u v x y : Nat} (ht : RO t) (ha : RV q h a x) (hb : RV q h b y) (hm : MO2 m u v) (hx : x < v) (hy : y < v) : ∃ h' w, P_Rm_minus h (q + t) (q + a) (q + b) (q + m) = some h' ∧ RW q h' (up1 E t w) ∧ RK q h h' ∧ w < v ∧ (x + (v - y)) % v = w := by
  obtain ⟨h', a, b, c⟩ := w_minus R ht ha hb hm hx hy
  exact ⟨h', _, a, b, c, Nat.mod_lt _ (by omega), rfl⟩
theorem v_times {pn qn : Int32} {h : HP} {E : Nat → Nat} (hq : h[q]? = some (pO 8 (RFS q th ta me re kc pn qn))) (R : RW q h E) {t a b m u v x y : Nat} (ht : RO t) (ha : RO a) (hb : RO b) (hx : E a = x) (hy : E b = y) (hm : MO2 m u v) : ∃ h' w, P_Rm_times h q (q + t) (q + a) (q + b) (q + m) (q + u) = some h' ∧ RW q h' (up1 E t w) ∧ RK q h h' ∧ w < v ∧ x * y % v = w := by
  obtain ⟨h', a, b, c⟩ := w_times hq R ht ha hb hx hy hm
  have : 0 < v := by rcases hm with ⟨_, _, rfl⟩ | ⟨_, _, rfl⟩ <;> decide
  exact ⟨h', _, a, b, c, Nat.mod_lt _ this, rfl⟩
theorem ar_3 [Lean.Grind.Field F] (x : F) : x - 1 + (x - 1 + (x - 1)) = 3 * x + -3 := by grind
theorem ar_ny [Lean.Grind.Field F] {x y b : F} (c : y * y = x * x * x + -3 * x + b) (n : x * x * x + -3 * x + b ≠ 0) : y ≠ 0 := by grind
theorem ar_yy [Lean.Grind.Field F] {y : F} (h : (2 : F) ≠ 0) (n : y ≠ 0) : y + y ≠ 0 := by
  have := f_nz h n
  grind
theorem ar_se [Lean.Grind.Field F] {a b : F} (h : (0 : F) = b - a) : a = b := by grind
theorem ar_op [Lean.Grind.Field F] {y1 y2 c : F} (h1 : y1 * y1 = c) (h2 : y2 * y2 = c) (n : y1 ≠ y2) : y2 = -y1 := by
  refine Classical.byContradiction fun w => ?_
  have := f_nz (show y1 - y2 ≠ 0 by grind) (show y1 + y2 ≠ 0 by grind)
  grind
theorem ad77t [Lean.Grind.Field F] (Z : ZF PP φ) {pn qn : Int32} {h : HP} {E : Nat → Nat} (R : RQ q th ta me re kc pn qn h E) (hx : E 13 < PP) (hy : E 14 < PP) (hz : E 15 < PP) (hw : E 16 < PP) (oc1 : OC (-3) (φ BB) (some (φ (E 13), φ (E 14)))) (z : E 13 = E 15) (hw' : E 14 = E 16) :
    ∃ h' E', B_Rm_add_77 h q = some h' ∧ RQ q th ta me re kc pn qn h' E' ∧ RK q h h' ∧ (∀ i, i ≠ 13 → i ≠ 14 → i ≠ 19 → i ≠ 20 → i ≠ 21 → E' i = E i) ∧ E' 13 < PP ∧ E' 14 < PP ∧ ADD (-3) (some (φ (E 13), φ (E 14))) (some (φ (E 15), φ (E 16))) (some (φ (E' 13), φ (E' 14))) := by
  obtain ⟨h1, va, g1, g2, g3, lva, hva⟩ := v_times R.1 R.2 (t := 19) (a := 13) (b := 13) (x := E 13) (y := E 13) (ro_d (by decide)) (ro_d (by decide)) (ro_d (by decide)) rfl rfl mo_p
  have R1 := rq_of R g3 g2
  obtain ⟨h2, i1, i2, i3⟩ := w_set R1.2 (t := 20) (v := 1) (ro_d (by decide)) (by decide)
  have R2 := rq_of R1 i3 i2
  obtain ⟨h3, vb, j1, j2, j3, lvb, hvb⟩ := v_minus R2.2 (t := 19) (a := 19) (b := 20) (x := va) (y := 1) (ro_d (by decide)) (rv_i R2.2 (ro_d (by decide))) (rv_i R2.2 (ro_d (by decide))) mo_p lva (by decide)
  have R3 := rq_of R2 j3 j2
  obtain ⟨h4, vc, k1, k2, k3, lvc, hvc⟩ := v_plus R3.2 (t := 20) (a := 19) (b := 19) (x := vb) (y := vb) (ro_d (by decide)) (rv_i R3.2 (ro_d (by decide))) (rv_i R3.2 (ro_d (by decide))) mo_p lvb lvb
  have R4 := rq_of R3 k3 k2
  obtain ⟨h5, vd, l1, l2, l3, lvd, hvd⟩ := v_plus R4.2 (t := 19) (a := 19) (b := 20) (x := vb) (y := vc) (ro_d (by decide)) (rv_i R4.2 (ro_d (by decide))) (rv_i R4.2 (ro_d (by decide))) mo_p lvb lvc
  have R5 := rq_of R4 l3 l2
  obtain ⟨h6, vg, m1, m2, m3, lvg, hvg⟩ := v_plus R5.2 (t := 20) (a := 14) (b := 14) (x := E 14) (y := E 14) (ro_d (by decide)) (rv_i R5.2 (ro_d (by decide))) (rv_i R5.2 (ro_d (by decide))) mo_p hy hy
  have R6 := rq_of R5 m3 m2
  have fd : φ vd = 3 * (φ (E 13) * φ (E 13)) + -3 := by
    rw [← hvd, zf_md Z, Z.1, ← hvc, zf_md Z, Z.1, ← hvb, n_mi Z (by decide), ← hva, zf_md Z, Z.2.1, Z.2.2.1]
    exact ar_3 _
  have fe : φ vg = φ (E 14) + φ (E 14) := by rw [← hvg, zf_md Z, Z.1]
  have ny : φ (E 14) ≠ 0 := ar_ny (oc1 _ _ rfl) (no_rt Z (φ (E 13)))
  have ne : vg ≠ 0 := by
    intro e
    rw [e, zf_0 Z] at fe
    exact ar_yy (zf_2 Z) ny fe.symm
  obtain ⟨h', E', l, n1, n2, n3, n4, n5, n6, n7, n8, n9⟩ := ad240 Z R6 (by rw [up1_s]; exact ne) (by rw [up1_s]; exact lvg) (by exact hx) (by exact hy) (by exact hz)
  have n7 : l * φ vg = φ vd := n7
  have n8 : φ (E' 13) = l * l - φ (E 13) - φ (E 15) := n8
  have n9 : φ (E' 14) = l * (φ (E 13) - (l * l - φ (E 13) - φ (E 15))) - φ (E 14) := n9
  refine ⟨h', E', ?_, n2, g3.tr (i3.tr (j3.tr (k3.tr (l3.tr (m3.tr n3))))), ?_, n5, n6, Or.inr (Or.inr ⟨_, _, _, _, rfl, rfl, Or.inr ⟨l, Or.inl ⟨by rw [z], by rw [hw'], ?_⟩, by rw [n8, n9]⟩⟩)⟩
  · unfold B_Rm_add_77
    rw [bs_ (gR_at R.1 rfl), bs_ (gR_at R.1 rfl), bs2 (w_alike (rv_i R.2 (i := 13) (ro_d (by decide))) (rv_i R.2 (i := 15) (ro_d (by decide)))), decide_eq_true z, if_neg (show ¬ bi true = 0 by decide)]
    rw [bs_ (gR_at R.1 rfl), bs_ (gR_at R.1 rfl), bs_ (gR_at R.1 rfl), bs_ (gR_at R.1 rfl), bs_ (gR_at R.1 rfl), os_ R.1, bs_ g1]
    rw [bs_ (gR_at R1.1 rfl), show P_Rm_set h1 (q + 20) 1 = some h2 from i1, bs_ rfl]
    rw [bs_ (gR_at R2.1 rfl), bs_ (gR_at R2.1 rfl), bs_ (gR_at R2.1 rfl), bs_ (gR_at R2.1 rfl), bs_ j1]
    rw [bs_ (gR_at R3.1 rfl), bs_ (gR_at R3.1 rfl), bs_ (gR_at R3.1 rfl), bs_ (gR_at R3.1 rfl), bs_ k1]
    rw [bs_ (gR_at R4.1 rfl), bs_ (gR_at R4.1 rfl), bs_ (gR_at R4.1 rfl), bs_ (gR_at R4.1 rfl), bs_ l1]
    rw [bs_ (gR_at R5.1 rfl), bs_ (gR_at R5.1 rfl), bs_ (gR_at R5.1 rfl), bs_ (gR_at R5.1 rfl), bs_ m1]
    exact n1
  · intro i a b c d e
    rw [n4 i a b c d e, up1_n d, up1_n c, up1_n d, up1_n c, up1_n d, up1_n c]
  · rw [fe] at n7
    rw [n7, fd]
theorem ad77c [Lean.Grind.Field F] (Z : ZF PP φ) {pn qn : Int32} {h : HP} {E : Nat → Nat} (R : RQ q th ta me re kc pn qn h E) (hx : E 13 < PP) (hy : E 14 < PP) (hz : E 15 < PP) (hw : E 16 < PP) (oc1 : OC (-3) (φ BB) (some (φ (E 13), φ (E 14)))) (z : ¬ E 13 = E 15) :
    ∃ h' E', B_Rm_add_77 h q = some h' ∧ RQ q th ta me re kc pn qn h' E' ∧ RK q h h' ∧ (∀ i, i ≠ 13 → i ≠ 14 → i ≠ 19 → i ≠ 20 → i ≠ 21 → E' i = E i) ∧ E' 13 < PP ∧ E' 14 < PP ∧ ADD (-3) (some (φ (E 13), φ (E 14))) (some (φ (E 15), φ (E 16))) (some (φ (E' 13), φ (E' 14))) := by
  obtain ⟨h1, va, g1, g2, g3, lva, hva⟩ := v_minus R.2 (t := 19) (a := 16) (b := 14) (x := E 16) (y := E 14) (ro_d (by decide)) (rv_i R.2 (ro_d (by decide))) (rv_i R.2 (ro_d (by decide))) mo_p hw hy
  have R1 := rq_of R g3 g2
  obtain ⟨h2, vb, i1, i2, i3, lvb, hvb⟩ := v_minus R1.2 (t := 20) (a := 15) (b := 13) (x := E 15) (y := E 13) (ro_d (by decide)) (rv_i R1.2 (ro_d (by decide))) (rv_i R1.2 (ro_d (by decide))) mo_p hz hx
  have R2 := rq_of R1 i3 i2
  have fe : φ vb = φ (E 15) - φ (E 13) := by rw [← hvb]; exact n_mi Z hx
  have fn : φ va = φ (E 16) - φ (E 14) := by rw [← hva]; exact n_mi Z hy
  have nx : φ (E 13) ≠ φ (E 15) := fun e => z ((zf_ne Z hx hz).mp e)
  have ne : vb ≠ 0 := by
    intro e
    rw [e, zf_0 Z] at fe
    exact nx (ar_se fe)
  obtain ⟨h', E', l, n1, n2, n3, n4, n5, n6, n7, n8, n9⟩ := ad240 Z R2 (by rw [up1_s]; exact ne) (by rw [up1_s]; exact lvb) (by exact hx) (by exact hy) (by exact hz)
  have n7 : l * φ vb = φ va := n7
  have n8 : φ (E' 13) = l * l - φ (E 13) - φ (E 15) := n8
  have n9 : φ (E' 14) = l * (φ (E 13) - (l * l - φ (E 13) - φ (E 15))) - φ (E 14) := n9
  refine ⟨h', E', ?_, n2, g3.tr (i3.tr n3), ?_, n5, n6, Or.inr (Or.inr ⟨_, _, _, _, rfl, rfl, Or.inr ⟨l, Or.inr ⟨nx, ?_⟩, by rw [n8, n9]⟩⟩)⟩
  · unfold B_Rm_add_77
    rw [bs_ (gR_at R.1 rfl), bs_ (gR_at R.1 rfl), bs2 (w_alike (rv_i R.2 (i := 13) (ro_d (by decide))) (rv_i R.2 (i := 15) (ro_d (by decide)))), decide_eq_false z, if_pos (show bi false = 0 by decide)]
    rw [bs_ (gR_at R.1 rfl), bs_ (gR_at R.1 rfl), bs_ (gR_at R.1 rfl), bs_ (gR_at R.1 rfl), bs_ g1]
    rw [bs_ (gR_at R1.1 rfl), bs_ (gR_at R1.1 rfl), bs_ (gR_at R1.1 rfl), bs_ (gR_at R1.1 rfl), bs_ i1]
    exact n1
  · intro i a b c d e
    rw [n4 i a b c d e, up1_n d, up1_n c]
  · rw [← fe, ← fn]
    exact n7
theorem ad77 [Lean.Grind.Field F] (Z : ZF PP φ) {pn qn : Int32} {h : HP} {E : Nat → Nat} (R : RQ q th ta me re kc pn qn h E) (hx : E 13 < PP) (hy : E 14 < PP) (hz : E 15 < PP) (hw : E 16 < PP) (oc1 : OC (-3) (φ BB) (some (φ (E 13), φ (E 14)))) (he : E 13 = E 15 → E 14 = E 16) :
    ∃ h' E', B_Rm_add_77 h q = some h' ∧ RQ q th ta me re kc pn qn h' E' ∧ RK q h h' ∧ (∀ i, i ≠ 13 → i ≠ 14 → i ≠ 19 → i ≠ 20 → i ≠ 21 → E' i = E i) ∧ E' 13 < PP ∧ E' 14 < PP ∧ ADD (-3) (some (φ (E 13), φ (E 14))) (some (φ (E 15), φ (E 16))) (some (φ (E' 13), φ (E' 14))) := by
  by_cases z : E 13 = E 15
  · exact ad77t Z R hx hy hz hw oc1 z (he z)
  · exact ad77c Z R hx hy hz hw oc1 z
theorem w_add [Lean.Grind.Field F] (Z : ZF PP φ) {pn qn : Int32} {h : HP} {E : Nat → Nat} (R : RQ q th ta me re kc pn qn h E) (hp1 : pn = 0 ∨ pn = 1) (hx : pn = 0 → E 13 < PP ∧ E 14 < PP) (hz : qn = 0 → E 15 < PP ∧ E 16 < PP) (oc1 : OC (-3) (φ BB) (PT φ pn (E 13) (E 14))) (oc2 : OC (-3) (φ BB) (PT φ qn (E 15) (E 16))) :
    ∃ h' E' pn', P_Rm_add h q = some h' ∧ RQ q th ta me re kc pn' qn h' E' ∧ RKq q h h' ∧ (∀ i, i ≠ 13 → i ≠ 14 → i ≠ 19 → i ≠ 20 → i ≠ 21 → E' i = E i) ∧ (pn' = 0 ∨ pn' = 1) ∧ (pn' = 0 → E' 13 < PP ∧ E' 14 < PP) ∧ ADD (-3) (PT φ pn (E 13) (E 14)) (PT φ qn (E 15) (E 16)) (PT φ pn' (E' 13) (E' 14)) := by
  unfold P_Rm_add
  rw [show gI h q 8 24 = some qn from gI_at R.1 rfl]
  by_cases z1 : qn = 0
  · show ∃ h' E' pn', (if qn = 0 then _ else _) = some h' ∧ _
    rw [if_pos z1, show gI h q 8 23 = some pn from gI_at R.1 rfl]
    subst z1
    obtain ⟨z3, z4⟩ := hz rfl
    by_cases z2 : pn = 0
    · show ∃ h' E' pn', (if pn = 0 then _ else _) = some h' ∧ _
      rw [if_pos z2]
      subst z2
      obtain ⟨x3, x4⟩ := hx rfl
      rw [bs_ (gR_at R.1 rfl), bs_ (gR_at R.1 rfl), bs2 (w_alike (rv_i R.2 (i := 13) (ro_d (by decide))) (rv_i R.2 (i := 15) (ro_d (by decide))))]
      by_cases z5 : E 13 = E 15
      · rw [decide_eq_true z5, if_neg (show ¬ bi true = 0 by decide), bs_ (gR_at R.1 rfl), bs_ (gR_at R.1 rfl), bs2 (w_alike (rv_i R.2 (i := 14) (ro_d (by decide))) (rv_i R.2 (i := 16) (ro_d (by decide))))]
        by_cases z6 : E 14 = E 16
        · rw [decide_eq_true z6, if_neg (show ¬ bi true = 0 by decide)]
          obtain ⟨h', E', g1, g2, g3, g4, g5, g6, g7⟩ := ad77 Z R x3 x4 z3 z4 oc1 (fun _ => z6)
          exact ⟨h', E', 0, g1, g2, RK.kq g3, g4, Or.inl rfl, fun _ => ⟨g5, g6⟩, g7⟩
        · rw [decide_eq_false z6, if_pos (show bi false = 0 by decide)]
          refine ⟨_, E, 1, by show bnd (if (1 : Int32) = 0 ∨ (1 : Int32) = 1 then pV h q 8 23 (.int 1) else none) some = _; rw [if_pos (Or.inr rfl), rq_z23 R]; rfl, rq_s23 R, RKq.st, fun _ _ _ _ _ _ => rfl, Or.inr rfl, fun c => absurd c (by decide), ?_⟩
          refine Or.inr (Or.inr ⟨_, _, _, _, rfl, rfl, Or.inl ⟨by rw [z5], ?_, rfl⟩⟩)
          have c1 := oc1 _ _ rfl
          have c2 := oc2 _ _ rfl
          rw [← z5] at c2
          have ne : φ (E 14) ≠ φ (E 16) := fun e => z6 ((zf_ne Z x4 z4).mp e)
          exact ar_op c1 c2 ne
      · rw [decide_eq_false z5, if_pos (show bi false = 0 by decide)]
        obtain ⟨h', E', g1, g2, g3, g4, g5, g6, g7⟩ := ad77 Z R x3 x4 z3 z4 oc1 (fun c => absurd c z5)
        exact ⟨h', E', 0, g1, g2, RK.kq g3, g4, Or.inl rfl, fun _ => ⟨g5, g6⟩, g7⟩
    · show ∃ h' E' pn', (if pn = 0 then _ else _) = some h' ∧ _
      rw [if_neg z2, bs_ (gR_at R.1 rfl), bs_ (gR_at R.1 rfl)]
      obtain ⟨h1, g1, g2, g3⟩ := w_copy R.2 (t := 13) (a := 15) (x := E 15) (ro_d (by decide)) (rv_i R.2 (ro_d (by decide))) (by decide)
      have R1 := rq_of R g3 g2
      rw [bs_ g1, bs_ (gR_at R1.1 rfl), bs_ (gR_at R1.1 rfl)]
      obtain ⟨h2, i1, i2, i3⟩ := w_copy R1.2 (t := 14) (a := 16) (x := E 16) (ro_d (by decide)) (rv_i R1.2 (ro_d (by decide))) (by decide)
      have R2 := rq_of R1 i3 i2
      rw [bs_ i1]
      refine ⟨_, _, 0, by show bnd (if (0 : Int32) = 0 ∨ (0 : Int32) = 1 then pV h2 q 8 23 (.int 0) else none) some = _; rw [if_pos (Or.inl rfl), rq_z23 R2]; rfl, rq_s23 R2, (RK.kq g3).tr ((RK.kq i3).tr RKq.st), fun i a b c d e => by rw [up1_n b, up1_n a], Or.inl rfl, fun _ => ⟨z3, z4⟩, ?_⟩
      refine Or.inl ⟨if_neg z2, rfl⟩
  · show ∃ h' E' pn', (if qn = 0 then _ else _) = some h' ∧ _
    rw [if_neg z1]
    exact ⟨h, E, pn, rfl, R, RKq.rf, fun _ _ _ _ _ _ => rfl, hp1, hx, Or.inr (Or.inl ⟨if_neg z1, rfl⟩)⟩
end RA3
