/-! the reference's verified -/
section RVD
variable {q : Nat} {th me re kc : Int32} {F : Type} {φ : Nat → F} {H : Type} {ψ : Nat → H}
def zD (X : Nat → Int8) (n : Nat) : Nat := be (dgs (fun _ => 0) (hs (XP X n) ((n + 72) / 64)) 32) 32 % NN
theorem zD_lt (X : Nat → Int8) (n : Nat) : zD X n < NN := Nat.mod_lt _ (by decide)
theorem r_verified [Lean.Grind.Field F] [Lean.Grind.Field H] (Z : ZF PP φ) (Y : ZF NN ψ) {pn qn : Int32} {h : HP} {E : Nat → Nat} {key val row X : Nat → Int8} {tl n : Nat} (hme : me = nI n) (hn : n ≤ 65536) (R : RQ q th (nI tl) me re kc pn qn h E) (C : RCh q (RFS q th (nI tl) me re kc pn qn) key val h) (hr : h[q + 1]? = some (pB 65536 row)) (hX : h[q + 2]? = some (pB 65536 X)) (h65 : 65 ≤ tl) (hl : tl ≤ 65536) :
    ∃ h' E' pn' qn' c, P_Rm_verified h q = some (nI c, h') ∧ RQ q th (nI tl) me re kc pn' qn' h' E' ∧ RCh q (RFS q th (nI tl) me re kc pn' qn') key val h' ∧ RN q h h' ∧ VC φ ψ row tl (zD X n) c := by
  have no : (∀ L1 L2, ¬ DR row tl L1 L2) → P_Rm_verified h q = some (1, h) → ∃ h' E' pn' qn' c, P_Rm_verified h q = some (nI c, h') ∧ RQ q th (nI tl) me re kc pn' qn' h' E' ∧ RCh q (RFS q th (nI tl) me re kc pn' qn') key val h' ∧ RN q h h' ∧ VC φ ψ row tl (zD X n) c :=
    fun c e => ⟨h, E, pn, qn, 1, e, R, C, RN.rf, Or.inl ⟨c, rfl⟩⟩
  by_cases z1 : tl < 67
  · refine no (fun L1 L2 d => by have := d.1; omega) ?_
    unfold P_Rm_verified
    rw [bs_ (gI_at R.1 rfl), if_pos (show nI tl < 67 from nI_lt (b := 67) z1 (by decide))]
    rfl
  have p1 : ∀ T : Int32 → Option (Int32 × HP), (bnd (gI h q 8 5) fun v1 => if v1 < 67 then B_Rm_verified_50 h else bnd (gR h q 8 1) fun k2 => bnd (ldB h k2 65) fun v3 => T v3) = T (row 65).toInt32 := by
    intro T
    rw [bs_ (gI_at R.1 rfl), if_neg (show ¬ nI tl < 67 from nI_nlt (b := 67) (by omega) (by omega)), bs_ (gR_at R.1 rfl), show ldB h (q + 1) 65 = some (row 65).toInt32 from sB_in 65 hr rfl (by decide) (by decide), bs_ rfl]
  have s67 : nI tl - 67 = nI (tl - 67) := pk_sub (b := 67) (by omega)
  by_cases z3 : row 65 = 48
  · by_cases z4 : (row 66).toInt32 = nI (tl - 67)
    · by_cases z2 : 195 ≤ tl
      · refine no (fun L1 L2 d => by have := d.2.1; omega) ?_
        unfold P_Rm_verified
        rw [p1, if_pos ((i8_48 _).mpr z3), bs_ (gR_at R.1 rfl), show ldB h (q + 1) 66 = some (row 66).toInt32 from sB_in 66 hr rfl (by decide) (by decide), bs_ rfl, bs_ (gI_at R.1 rfl), s67, if_pos z4, bs_ (gI_at R.1 rfl), s67, if_neg (show ¬ nI (tl - 67) ≤ 127 from nI_ge (a := 127) (by omega) (by omega))]
        rfl
      · have go : ∀ T, P_Rm_verified h q = T ↔ bnd2 (P_Rm_get h q (nI 67)) (fun v9 h8 =>
  if 0 ≤ v9 then
  bnd (gR h8 q 8 29) fun k10 =>
  bnd (gR h8 q 8 27) fun k11 =>
  bnd (P_Rm_copy h8 k10 k11) fun h12 =>
  ob h12 q 8 (
  bnd2 (P_Rm_get h12 q v9) fun v14 h13 =>
  bnd (gI h13 q 8 5) fun v15 =>
  if v14 = v15 then
  bnd (gR h13 q 8 30) fun k16 =>
  bnd (gR h13 q 8 27) fun k17 =>
  bnd (P_Rm_copy h13 k16 k17) fun h18 =>
  bnd (gR h18 q 8 29) fun k19 =>
  ob h18 q 8 (
  bnd2 (P_Rm_ranged h18 q k19) fun v21 h20 =>
  if v21 = 0 then
  B_Rm_verified_125 h20
  else
  bnd (gR h20 q 8 30) fun k22 =>
  ob h20 q 8 (
  bnd2 (P_Rm_ranged h20 q k22) fun v24 h23 =>
  if v24 = 0 then
  B_Rm_verified_125 h23
  else
  ob h23 q 8 (
  bnd2 (P_Rm_taken h23 q) fun v26 h25 =>
  if v26 = 0 then
  some (3, h25)
  else
  ob h25 q 8 (
  bnd (P_Rm_hashed h25 q) fun h27 =>
  B_vf h27 q))))
  else
  some (1, h13))
  else
  some (1, h8)) = T := by
          intro T
          unfold P_Rm_verified
          rw [p1, if_pos ((i8_48 _).mpr z3), bs_ (gR_at R.1 rfl), show ldB h (q + 1) 66 = some (row 66).toInt32 from sB_in 66 hr rfl (by decide) (by decide), bs_ rfl, bs_ (gI_at R.1 rfl), s67, if_pos z4, bs_ (gI_at R.1 rfl), s67, if_pos (show nI (tl - 67) ≤ 127 from nI_le (b := 127) (by omega) (by omega)), os_ R.1]
          exact Iff.rfl
        obtain ⟨w, hw⟩ := C.2.2.2.2.2
        rcases e_getForm (end' := tl) R.1 hr hl (by decide) (show 67 ≤ tl by omega) with ⟨L1, d1, e1⟩ | ⟨d1, e1⟩
        · have l0 := d1.2.2.2.1
          have l1 := d1.2.2.2.2.1
          have l2 := d1.2.2.2.2.2.1
          obtain ⟨h8, v1, a1, R1, k1, ⟨w1, x1⟩, ev1⟩ := w_get R hr hw ⟨l0, l1⟩ (show 30 ≤ 67 by decide) (by omega) (by decide)
          have ev1' : v1 = nv row 67 L1 := ev1
          obtain ⟨h12, b1, b2, b3⟩ := w_copy R1.2 (t := 23) (a := 21) (x := v1) (ro_d (by decide)) (by have := rv_i R1.2 (i := 21) (ro_d (by decide)); rw [up1_s] at this; exact this) (by decide)
          have R2 := rq_of R1 b3 b2
          have hr2 : h12[q + 1]? = some (pB 65536 row) := (b3.2 (q + 1) (by omega) (by omega)).trans ((k1.2 (q + 1) (by simp)).trans hr)
          have hw2 : h12[q + 30]? = some (pB 65600 w1) := (b3.2 (q + 30) (by omega) (by omega)).trans x1
          have K2 : ∀ j, j ≠ q + 30 → ¬ (q + 13 ≤ j ∧ j ≤ q + 26) → ¬ (q + 31 ≤ j ∧ j ≤ q + 36) → h12[j]? = h[j]? := fun j h1 h2 h3 => (b3.2 j h2 h3).trans (k1.2 j (by simp; omega))
          have N2 : RN q h h12 := (RN.kp k1 (fun j hj => by simp at hj; omega)).tr (RN.k b3)
          rcases e_getForm (end' := tl) (at' := 67 + 2 + L1) R2.1 hr2 hl (by decide) l2 with ⟨L2, d2, e2⟩ | ⟨d2, e2⟩
          · have m0 := d2.2.2.2.1
            have m1 := d2.2.2.2.2.1
            have m2 := d2.2.2.2.2.2.1
            obtain ⟨h13, v2, c1, R3, k3, ⟨w3, x3⟩, ev2⟩ := w_get R2 hr2 hw2 ⟨m0, m1⟩ (show 30 ≤ 67 + 2 + L1 by omega) (by omega) (by decide)
            have ev2' : v2 = nv row (69 + L1) L2 := by rw [show 69 + L1 = 67 + 2 + L1 by omega]; exact ev2
            have K3 : ∀ j, j ≠ q + 30 → ¬ (q + 13 ≤ j ∧ j ≤ q + 26) → ¬ (q + 31 ≤ j ∧ j ≤ q + 36) → h13[j]? = h[j]? := fun j h1 h2 h3 => (k3.2 j (by simp; omega)).trans (K2 j h1 h2 h3)
            have N3 : RN q h h13 := N2.tr (RN.kp k3 (fun j hj => by simp at hj; omega))
            have q3 : ∀ {h9 : HP} {E9 : Nat → Nat} {pn9 qn9 : Int32}, RQ q th (nI tl) me re kc pn9 qn9 h9 E9 → (∀ j, (q + 27 ≤ j ∧ j ≤ q + 29) ∨ (q + 37 ≤ j ∧ j ≤ q + 43) → h9[j]? = h[j]?) → (∃ w, h9[q + 30]? = some (pB 65600 w)) → RCh q (RFS q th (nI tl) me re kc pn9 qn9) key val h9 := by
              intro h9 E9 pn9 qn9 R9 k9 w9
              obtain ⟨⟨_, _, b1, b2, b3, b4, b5⟩, _, c1, c2, c3, c4⟩ := C
              refine ⟨⟨R9.1, ⟨rfl, rfl, rfl, rfl, rfl⟩, ?_, ?_, ?_, ?_, ?_⟩, ⟨rfl, rfl, rfl, rfl⟩, ?_, ?_, ?_, w9⟩
              · rw [k9 (q + 40) (by omega)]; exact b1
              · rw [k9 (q + 39) (by omega)]; exact b2
              · rw [k9 (q + 37) (by omega)]; exact b3
              · rw [k9 (q + 38) (by omega)]; exact b4
              · rw [k9 (q + 43) (by omega)]; exact b5
              · rw [k9 (q + 27) (by omega)]; exact c1
              · rw [k9 (q + 28) (by omega)]; exact c2
              · rw [k9 (q + 29) (by omega)]; exact c3
            by_cases y : 67 + 2 + L1 + 2 + L2 = tl
            · have dr : DR row tl L1 L2 := ⟨by omega, by omega, z3, z4, d1, by rw [show 69 + L1 = 67 + 2 + L1 by omega]; exact d2, by omega⟩
              have e3_21 : up1 (up1 (up1 E 21 v1) 23 v1) 21 v2 21 = v2 := up1_s
              obtain ⟨h18, f1, f2, f3⟩ := w_copy R3.2 (t := 24) (a := 21) (x := v2) (ro_d (by decide)) (by have := rv_i R3.2 (i := 21) (ro_d (by decide)); rw [e3_21] at this; exact this) (by decide)
              have R4 := rq_of R3 f3 f2
              obtain ⟨E4, hE4⟩ : ∃ E4, E4 = up1 (up1 (up1 (up1 E 21 v1) 23 v1) 21 v2) 24 v2 := ⟨_, rfl⟩
              rw [← hE4] at R4
              have e23 : E4 23 = v1 := by rw [hE4, up1_n (by decide), up1_n (by decide), up1_s]
              have e24 : E4 24 = v2 := by rw [hE4, up1_s]
              obtain ⟨bb1, g1, g2⟩ := w_ranged R4 (show RV q h18 23 v1 by have := rv_i R4.2 (i := 23) (ro_d (by decide)); rw [e23] at this; exact this)
              obtain ⟨bb2, g3, g4⟩ := w_ranged R4 (show RV q h18 24 v2 by have := rv_i R4.2 (i := 24) (ro_d (by decide)); rw [e24] at this; exact this)
              have K4 : ∀ j, j ≠ q + 30 → ¬ (q + 13 ≤ j ∧ j ≤ q + 26) → ¬ (q + 31 ≤ j ∧ j ≤ q + 36) → h18[j]? = h[j]? := fun j h1 h2 h3 => (f3.2 j h2 h3).trans (K3 j h1 h2 h3)
              have N4 : RN q h h18 := N3.tr (RN.k f3)
              have x4 : h18[q + 30]? = some (pB 65600 w3) := (f3.2 (q + 30) (by omega) (by omega)).trans x3
              have C4 := q3 R4 (fun j hj => K4 j (by omega) (by omega) (by omega)) ⟨w3, x4⟩
              have go2 : ∀ T, P_Rm_verified h q = T ↔ (if bi bb1 = 0 then
  B_Rm_verified_125 h18
  else
  if bi bb2 = 0 then
  B_Rm_verified_125 h18
  else
  bnd2 (P_Rm_taken h18 q) fun v26 h25 =>
  if v26 = 0 then
  some (3, h25)
  else
  ob h25 q 8 (
  bnd (P_Rm_hashed h25 q) fun h27 =>
  B_vf h27 q)) = T := by
                intro T
                rw [go, bs2 (e1.trans a1), if_pos (nI_pos' (by omega)), bs_ (gR_at R1.1 rfl), bs_ (gR_at R1.1 rfl), bs_ b1, os_ R2.1, bs2 (e2.trans c1), bs_ (gI_at R3.1 rfl), if_pos (by rw [y]), bs_ (gR_at R3.1 rfl), bs_ (gR_at R3.1 rfl), bs_ f1, bs_ (gR_at R4.1 rfl), os_ R4.1, bs2 g1, bs_ (gR_at R4.1 rfl), os_ R4.1, bs2 g3, os_ R4.1]
              cases bb1 with
              | false =>
                refine ⟨h18, E4, pn, qn, 2, ?_, R4, C4, N4, Or.inr ⟨L1, L2, dr, Or.inl ⟨fun c => ?_, rfl⟩⟩⟩
                · rw [go2, if_pos (show bi false = 0 by decide)]; rfl
                · have := g2.mpr (by rw [ev1']; exact c.1); cases this
              | true =>
                cases bb2 with
                | false =>
                  refine ⟨h18, E4, pn, qn, 2, ?_, R4, C4, N4, Or.inr ⟨L1, L2, dr, Or.inl ⟨fun c => ?_, rfl⟩⟩⟩
                  · rw [go2, if_neg (show ¬ bi true = 0 by decide), if_pos (show bi false = 0 by decide)]; rfl
                  · have := g4.mpr (by rw [ev2']; exact c.2); cases this
                | true =>
                  have rg1 : rng v1 := g2.mp rfl
                  have rg2 : rng v2 := g4.mp rfl
                  have hr4 : h18[q + 1]? = some (pB 65536 row) := (K4 (q + 1) (by omega) (by omega) (by omega)).trans hr
                  obtain ⟨h25, E5, b, t1, R5, t3, t4, t5, t6⟩ := w_taken Z R4 hr4
                  have K5 : ∀ j, j ≠ q + 30 → ¬ (q + 13 ≤ j ∧ j ≤ q + 26) → ¬ (q + 31 ≤ j ∧ j ≤ q + 36) → h25[j]? = h[j]? := fun j h1 h2 h3 => (t3.2 j h2 h3).trans (K4 j h1 h2 h3)
                  have N5 : RN q h h25 := N4.tr (RN.k t3)
                  have x5 : h25[q + 30]? = some (pB 65600 w3) := (t3.2 (q + 30) (by omega) (by omega)).trans x4
                  have C5 := q3 R5 (fun j hj => K5 j (by omega) (by omega) (by omega)) ⟨w3, x5⟩
                  cases b with
                  | false =>
                    refine ⟨h25, E5, pn, qn, 3, ?_, R5, C5, N5, Or.inr ⟨L1, L2, dr, Or.inr ⟨⟨by rw [← ev1']; exact rg1, by rw [← ev2']; exact rg2⟩, Or.inl ⟨fun c => ?_, rfl⟩⟩⟩⟩
                    · rw [go2, if_neg (show ¬ bi true = 0 by decide), if_neg (show ¬ bi true = 0 by decide), bs2 t1, if_pos (show bi false = 0 by decide)]; rfl
                    · have := t5.mpr c; cases this
                  | true =>
                    have tk : TK φ row := t5.mp rfl
                    obtain ⟨ex, ey⟩ := t6 rfl
                    obtain ⟨h27, z, s1, R6, O6, k6, ez⟩ := w_hashed hme hn R5 C5.1 ((K5 (q + 2) (by omega) (by omega) (by omega)).trans hX)
                    have ez' : z = zD X n := ez
                    have C6 : RCh q (RFS q th (nI tl) me re kc pn qn) key val h27 := ⟨O6, C5.2.1, (k6.2 (q + 27) (by simp)).trans C5.2.2.1, (k6.2 (q + 28) (by simp)).trans C5.2.2.2.1, by rw [k6.2 (q + 29) (by simp)]; exact C5.2.2.2.2.1, by rw [k6.2 (q + 30) (by simp)]; exact C5.2.2.2.2.2⟩
                    obtain ⟨h9, E9, pn9, u1, u2, T, b, y1, R9, k9, y4, y5, y6⟩ := r_vf Z Y R6 (r := v1) (s := v2) (z := z) (by rw [up1_n (by decide), t4 23 (by decide) (by decide) (by decide) (by decide)]; exact e23) (by rw [up1_n (by decide), t4 24 (by decide) (by decide) (by decide) (by decide)]; exact e24) up1_s (by rw [up1_n (by decide)]; exact ex) (by rw [up1_n (by decide)]; exact ey) rg1.1 rg2.2 rg2.1 tk.2.1 tk.2.2.1 tk.2.2.2
                    refine ⟨h9, E9, pn9, 0, if b then 0 else 4, ?_, R9, rch_q C6 R9 (fun j hj => k9.2 j (by omega) (by omega) (by omega)), N5.tr ((RN.kp k6 (fun j hj => by simp at hj; omega)).tr (RN.kq k9)), Or.inr ⟨L1, L2, dr, Or.inr ⟨⟨by rw [← ev1']; exact rg1, by rw [← ev2']; exact rg2⟩, Or.inr ⟨tk, u1, u2, T, b, by rw [← ev1', ← ev2', ← ez']; exact y4, y5, by rw [← ev1']; exact y6, rfl⟩⟩⟩⟩
                    rw [go2, if_neg (show ¬ bi true = 0 by decide), if_neg (show ¬ bi true = 0 by decide), bs2 t1, if_neg (show ¬ bi true = 0 by decide), os_ R5.1, bs_ s1]
                    exact y1
            · refine ⟨h13, _, pn, qn, 1, ?_, R3, q3 R3 (fun j hj => K3 j (by omega) (by omega) (by omega)) ⟨w3, x3⟩, N3, Or.inl ⟨fun L1' L2' d => ?_, rfl⟩⟩
              · rw [go, bs2 (e1.trans a1), if_pos (nI_pos' (by omega)), bs_ (gR_at R1.1 rfl), bs_ (gR_at R1.1 rfl), bs_ b1, os_ R2.1, bs2 (e2.trans c1), bs_ (gI_at R3.1 rfl), if_neg (fun c => y ((nI_eq (by omega) (by omega)).mp c))]
                rfl
              · have u1 := dn_uq d1 d.2.2.2.2.1
                subst u1
                have dd := d.2.2.2.2.2.1
                rw [show 69 + L1 = 67 + 2 + L1 by omega] at dd
                have u2 := dn_uq d2 dd
                subst u2
                have := d.2.2.2.2.2.2
                omega
          · refine ⟨h12, _, pn, qn, 1, ?_, R2, ?_, N2, Or.inl ⟨fun L1' L2' d => ?_, rfl⟩⟩
            · rw [go, bs2 (e1.trans a1), if_pos (nI_pos' (by omega)), bs_ (gR_at R1.1 rfl), bs_ (gR_at R1.1 rfl), bs_ b1, os_ R2.1, bs2 e2, bs_ (gI_at R2.1 rfl), if_neg (nI_m1 (by omega))]
              rfl
            · obtain ⟨⟨_, _, b1, b2, b3, b4, b5⟩, _, c1, c2, c3, c4⟩ := C
              refine ⟨⟨R2.1, ⟨rfl, rfl, rfl, rfl, rfl⟩, ?_, ?_, ?_, ?_, ?_⟩, ⟨rfl, rfl, rfl, rfl⟩, ?_, ?_, ?_, ⟨w1, hw2⟩⟩
              · rw [K2 (q + 40) (by omega) (by omega) (by omega)]; exact b1
              · rw [K2 (q + 39) (by omega) (by omega) (by omega)]; exact b2
              · rw [K2 (q + 37) (by omega) (by omega) (by omega)]; exact b3
              · rw [K2 (q + 38) (by omega) (by omega) (by omega)]; exact b4
              · rw [K2 (q + 43) (by omega) (by omega) (by omega)]; exact b5
              · rw [K2 (q + 27) (by omega) (by omega) (by omega)]; exact c1
              · rw [K2 (q + 28) (by omega) (by omega) (by omega)]; exact c2
              · rw [K2 (q + 29) (by omega) (by omega) (by omega)]; exact c3
            · have u1 := dn_uq d1 d.2.2.2.2.1
              subst u1
              have dd := d.2.2.2.2.2.1
              rw [show 69 + L1 = 67 + 2 + L1 by omega] at dd
              exact d2 _ dd
        · refine no (fun L1 L2 d => d1 L1 d.2.2.2.2.1) ?_
          rw [go, bs2 e1, if_neg (by decide)]
    · refine no (fun L1 L2 d => z4 d.2.2.2.1) ?_
      unfold P_Rm_verified
      rw [p1, if_pos ((i8_48 _).mpr z3), bs_ (gR_at R.1 rfl), show ldB h (q + 1) 66 = some (row 66).toInt32 from sB_in 66 hr rfl (by decide) (by decide), bs_ rfl, bs_ (gI_at R.1 rfl), s67, if_neg z4]
      rfl
  · refine no (fun L1 L2 d => z3 d.2.2.1) ?_
    unfold P_Rm_verified
    rw [p1, if_neg (fun c => z3 ((i8_48 _).mp c))]
    rfl
end RVD
