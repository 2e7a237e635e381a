/-! the reference's onCurve -/
section RON
variable {q : Nat} {th ta me re kc : Int32} {F : Type} {φ : Nat → F}
theorem ar_onc [Lean.Grind.Field F] (x b : F) : x * x * x - x - x - x + b = x * x * x + -3 * x + b := by grind
theorem w_onCurve [Lean.Grind.Field F] (Z : ZF PP φ) {pn qn : Int32} {h : HP} {E : Nat → Nat} (R : RQ q th ta me re kc pn qn h E) :
    ∃ h' E' b, P_Rm_onCurve h q = some (bi b, h') ∧ RQ q th ta me re kc pn qn h' E' ∧ RK q h h' ∧ (∀ i, i ≠ 19 → i ≠ 20 → E' i = E i) ∧ (b = true ↔ E 15 < PP ∧ E 16 < PP ∧ OC (-3) (φ BB) (some (φ (E 15), φ (E 16)))) := by
  unfold P_Rm_onCurve
  rw [bs_ (gR_at R.1 rfl), bs_ (gR_at R.1 rfl), bs2 (w_below (rv_i R.2 (i := 15) (ro_d (by decide))) (rv_m R.2 mo_p))]
  by_cases z1 : E 15 < PP
  · rw [decide_eq_true z1, if_neg (show ¬ bi true = 0 by decide), bs_ (gR_at R.1 rfl), bs_ (gR_at R.1 rfl), bs2 (w_below (rv_i R.2 (i := 16) (ro_d (by decide))) (rv_m R.2 mo_p))]
    by_cases z2 : E 16 < PP
    · rw [decide_eq_true z2, if_neg (show ¬ bi true = 0 by decide)]
      obtain ⟨h1, v1, g1, g2, g3, lv1, hv1⟩ := v_times R.1 R.2 (t := 19) (a := 15) (b := 15) (x := E 15) (y := E 15) (ro_d (by decide)) (ro_d (by decide)) (ro_d (by decide)) rfl rfl mo_p
      have R1 := rq_of R g3 g2
      obtain ⟨h2, v2, i1, i2, i3, lv2, hv2⟩ := v_times R1.1 R1.2 (t := 19) (a := 19) (b := 15) (x := v1) (y := E 15) (ro_d (by decide)) (ro_d (by decide)) (ro_d (by decide)) rfl rfl mo_p
      have R2 := rq_of R1 i3 i2
      obtain ⟨h3, v3, j1, j2, j3, lv3, hv3⟩ := v_minus R2.2 (t := 19) (a := 19) (b := 15) (x := v2) (y := E 15) (ro_d (by decide)) (rv_i R2.2 (ro_d (by decide))) (rv_i R2.2 (i := 15) (ro_d (by decide))) mo_p lv2 z1
      have R3 := rq_of R2 j3 j2
      obtain ⟨h4, v4, k1, k2, k3, lv4, hv4⟩ := v_minus R3.2 (t := 19) (a := 19) (b := 15) (x := v3) (y := E 15) (ro_d (by decide)) (rv_i R3.2 (ro_d (by decide))) (rv_i R3.2 (i := 15) (ro_d (by decide))) mo_p lv3 z1
      have R4 := rq_of R3 k3 k2
      obtain ⟨h5, v5, l1, l2, l3, lv5, hv5⟩ := v_minus R4.2 (t := 19) (a := 19) (b := 15) (x := v4) (y := E 15) (ro_d (by decide)) (rv_i R4.2 (ro_d (by decide))) (rv_i R4.2 (i := 15) (ro_d (by decide))) mo_p lv4 z1
      have R5 := rq_of R4 l3 l2
      obtain ⟨h6, v6, m1, m2, m3, lv6, hv6⟩ := v_plus R5.2 (t := 19) (a := 19) (b := 8) (x := v5) (y := BB) (ro_d (by decide)) (rv_i R5.2 (ro_d (by decide))) R5.2.2.1.2.2.1 mo_p lv5 (by decide)
      have R6 := rq_of R5 m3 m2
      obtain ⟨h7, v7, n1, n2, n3, lv7, hv7⟩ := v_times R6.1 R6.2 (t := 20) (a := 16) (b := 16) (x := E 16) (y := E 16) (ro_d (by decide)) (ro_d (by decide)) (ro_d (by decide)) rfl rfl mo_p
      have R7 := rq_of R6 n3 n2
      have f6 : φ v6 = φ (E 15) * φ (E 15) * φ (E 15) + -3 * φ (E 15) + φ BB := by
        rw [← hv6, zf_md Z, Z.1, ← hv5, n_mi Z z1, ← hv4, n_mi Z z1, ← hv3, n_mi Z z1, ← hv2, zf_md Z, Z.2.1, ← hv1, zf_md Z, Z.2.1]
        exact ar_onc _ _
      have f7 : φ v7 = φ (E 16) * φ (E 16) := by rw [← hv7, zf_md Z, Z.2.1]
      obtain ⟨f, hf⟩ : ∃ f, FU = f + 1 + 1 + 1 + 1 := ⟨FU - 4, rfl⟩
      have e67 : v6 = v7 ↔ OC (-3) (φ BB) (some (φ (E 15), φ (E 16))) := by
        rw [← zf_ne Z lv6 lv7, f6, f7]
        constructor
        · intro e x y exy
          have : φ (E 15) = x ∧ φ (E 16) = y := by simpa using exy
          obtain ⟨rfl, rfl⟩ := this
          exact e.symm
        · intro o
          exact (o _ _ rfl).symm
      refine ⟨h7, _, decide (v6 = v7), ?_, R7, g3.tr (i3.tr (j3.tr (k3.tr (l3.tr (m3.tr n3))))), fun i a b => by rw [up1_n b, up1_n a, up1_n a, up1_n a, up1_n a, up1_n a, up1_n a], ?_⟩
      · rw [bs_ (gR_at R.1 rfl), bs_ (gR_at R.1 rfl), bs_ (gR_at R.1 rfl), bs_ (gR_at R.1 rfl), bs_ (gR_at R.1 rfl), os_ R.1, bs_ g1]
        rw [bs_ (gR_at R1.1 rfl), bs_ (gR_at R1.1 rfl), bs_ (gR_at R1.1 rfl), bs_ (gR_at R1.1 rfl), bs_ (gR_at R1.1 rfl), os_ R1.1, bs_ i1, hf]
        have s1 : L_Rm_onCurve_80 (f + 1 + 1 + 1 + 1) h2 q 0 = L_Rm_onCurve_80 (f + 1 + 1 + 1) h3 q (nI 1) := by
          show B_Rm_onCurve_80 (L_Rm_onCurve_80 (f + 1 + 1 + 1)) h2 q 0 = _
          unfold B_Rm_onCurve_80
          rw [if_neg (show ¬ (3 : Int32) ≤ 0 by decide), bs_ (gR_at R2.1 rfl), bs_ (gR_at R2.1 rfl), bs_ (gR_at R2.1 rfl), bs_ (gR_at R2.1 rfl), bs_ j1]
          rfl
        have s2 : L_Rm_onCurve_80 (f + 1 + 1 + 1) h3 q (nI 1) = L_Rm_onCurve_80 (f + 1 + 1) h4 q (nI 2) := by
          show B_Rm_onCurve_80 (L_Rm_onCurve_80 (f + 1 + 1)) h3 q (nI 1) = _
          unfold B_Rm_onCurve_80
          rw [if_neg (show ¬ (3 : Int32) ≤ nI 1 by decide), bs_ (gR_at R3.1 rfl), bs_ (gR_at R3.1 rfl), bs_ (gR_at R3.1 rfl), bs_ (gR_at R3.1 rfl), bs_ k1]
          show L_Rm_onCurve_80 (f + 1 + 1) h4 q (nI 1 + Int32.ofInt 1) = _
          rw [nI_ofInt1]
        have s3 : L_Rm_onCurve_80 (f + 1 + 1) h4 q (nI 2) = L_Rm_onCurve_80 (f + 1) h5 q (nI 3) := by
          show B_Rm_onCurve_80 (L_Rm_onCurve_80 (f + 1)) h4 q (nI 2) = _
          unfold B_Rm_onCurve_80
          rw [if_neg (show ¬ (3 : Int32) ≤ nI 2 by decide), bs_ (gR_at R4.1 rfl), bs_ (gR_at R4.1 rfl), bs_ (gR_at R4.1 rfl), bs_ (gR_at R4.1 rfl), bs_ l1]
          show L_Rm_onCurve_80 (f + 1) h5 q (nI 2 + Int32.ofInt 1) = _
          rw [nI_ofInt1]
        rw [s1, s2, s3]
        show B_Rm_onCurve_80 (L_Rm_onCurve_80 f) h5 q (nI 3) = _
        unfold B_Rm_onCurve_80
        rw [if_pos (show (3 : Int32) ≤ nI 3 by decide), bs_ (gR_at R5.1 rfl), bs_ (gR_at R5.1 rfl), bs_ (gR_at R5.1 rfl), bs_ (gR_at R5.1 rfl), bs_ m1, bs_ (gR_at R6.1 rfl), bs_ (gR_at R6.1 rfl), bs_ (gR_at R6.1 rfl), bs_ (gR_at R6.1 rfl), bs_ (gR_at R6.1 rfl), os_ R6.1, bs_ n1, bs_ (gR_at R7.1 rfl), bs_ (gR_at R7.1 rfl), bs2 (w_alike (x := v6) (y := v7) (rv_i R7.2 (i := 19) (ro_d (by decide))) (rv_i R7.2 (i := 20) (ro_d (by decide))))]
        unfold gd
        rw [if_pos]
        cases decide (v6 = v7) <;> decide
      · rw [decide_eq_true_iff]
        exact ⟨fun e => ⟨z1, z2, e67.mp e⟩, fun e => e67.mpr e.2.2⟩
    · rw [decide_eq_false z2, if_pos (show bi false = 0 by decide)]
      exact ⟨h, E, false, rfl, R, RK.rf, fun _ _ _ => rfl, ⟨fun c => absurd c (by decide), fun c => absurd c.2.1 z2⟩⟩
  · rw [decide_eq_false z1, if_pos (show bi false = 0 by decide)]
    exact ⟨h, E, false, rfl, R, RK.rf, fun _ _ _ => rfl, ⟨fun c => absurd c (by decide), fun c => absurd c.1 z1⟩⟩
end RON
