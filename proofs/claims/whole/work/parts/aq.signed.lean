/-! the reference's signed -/
section SGD
variable {q : Nat} {th ta me re kc : Int32} {F : Type} {φ : Nat → F} {H : Type} {ψ : Nat → H}
theorem w_load {h : HP} {E : Nat → Nat} (R : RW q h E) {t kr n at' : Nat} {row : Nat → Int8} (ht : RO t) (hat : at' + 32 ≤ n) (hn : n < 2 ^ 30) (nk : kr ≠ q + t) (hr : h[kr]? = some (pB n row)) : ∃ h', P_Rm_load h (q + t) kr (nI at') = some h' ∧ RW q h' (up1 E t (be (fun k => row (at' + k)) 32)) ∧ RK q h h' := by
  obtain ⟨T, t1, t2⟩ := R.1 t ht
  obtain ⟨T', g1, g2⟩ := e_load hat hn (Ne.symm nk) (Nat.le_refl 16) hr t1
  exact ⟨_, g1, rw_set R ht g2, RK.st ht⟩
theorem n_fi [Lean.Grind.Field H] (Y : ZF NN ψ) {x r : Nat} (h : x * r % NN = 1) : ψ x * ψ r = 1 := by
  rw [← Y.2.1, ← Y.2.2.1]
  exact (Y.2.2.2.1 _ _).mpr (by rw [h]; exact (Nat.mod_eq_of_lt (by decide)).symm)
theorem sg_86 [Lean.Grind.Field H] (Y : ZF NN ψ) {pn qn : Int32} {h : HP} {E : Nat → Nat} {key : Nat} {ky : Nat → Int8} (R : RQ q th ta me re kc pn qn h E) (hkey : key < 100) (hk : h[q + 4]? = some (pB 3200 ky)) (hD : be (fun k => ky (32 * key + k)) 32 < NN) (hr : E 23 < NN) (hz : E 22 < NN) (hK0 : E 25 ≠ 0) (hK : E 25 < NN) :
    ∃ h' E' s, B_Rm_signed_86 h q (nI key) = some (bi (decide (E 23 ≠ 0 ∧ s ≠ 0)), h') ∧ RQ q th ta me re kc pn qn h' E' ∧ RK q h h' ∧ (∀ i, i ≠ 21 → i ≠ 24 → i ≠ 26 → E' i = E i) ∧ E' 24 = s ∧ s < NN ∧ ψ s * ψ (E 25) = ψ (be (fun k => ky (32 * key + k)) 32) * ψ (E 23) + ψ (E 22) := by
  obtain ⟨D, hDe⟩ : ∃ D, D = be (fun k => ky (32 * key + k)) 32 := ⟨_, rfl⟩
  rw [← hDe] at hD ⊢
  obtain ⟨h1, g1, g2, g3⟩ := w_load R.2 (t := 26) (kr := q + 4) (at' := 32 * key) (ro_d (by decide)) (by omega) (by omega) (by omega) hk
  rw [← hDe] at g2
  have R1 := rq_of R g3 g2
  obtain ⟨h2, v2, i1, i2, i3, lv2, hv2⟩ := v_times R1.1 R1.2 (t := 26) (a := 26) (b := 23) (x := D) (y := E 23) (ro_d (by decide)) (ro_d (by decide)) (ro_d (by decide)) rfl rfl mo_n
  have R2 := rq_of R1 i3 i2
  obtain ⟨h3, v3, j1, j2, j3, lv3, hv3⟩ := v_plus R2.2 (t := 26) (a := 26) (b := 22) (x := v2) (y := E 22) (ro_d (by decide)) (rv_i R2.2 (ro_d (by decide))) (rv_i R2.2 (i := 22) (ro_d (by decide))) mo_n lv2 hz
  have R3 := rq_of R2 j3 j2
  obtain ⟨h4, r, k1, k2, k3, k4, k5⟩ := w_inverse R3.1 R3.2 (t := 21) (a := 25) (x := E 25) (ro_d (by decide)) (ro_d (by decide)) rfl hK0 hK mo_n
  have R4 := rq_of R3 k3 k2
  obtain ⟨h5, s, l1, l2, l3, ls, hs⟩ := v_times R4.1 R4.2 (t := 24) (a := 26) (b := 21) (x := v3) (y := r) (ro_d (by decide)) (ro_d (by decide)) (ro_d (by decide)) rfl rfl mo_n
  have R5 := rq_of R4 l3 l2
  refine ⟨h5, _, s, ?_, R5, g3.tr (i3.tr (j3.tr (k3.tr l3))), fun i a b c => by rw [up1_n b, up1_n a, up1_n c, up1_n c, up1_n c], up1_s, ls, ?_⟩
  · unfold B_Rm_signed_86
    rw [bs_ (gR_at R.1 rfl), bs_ (gR_at R.1 rfl), show (32 : Int32) * nI key = nI (32 * key) from pk_mul 32 key, bs_ g1]
    rw [bs_ (gR_at R1.1 rfl), bs_ (gR_at R1.1 rfl), bs_ (gR_at R1.1 rfl), bs_ (gR_at R1.1 rfl), bs_ (gR_at R1.1 rfl), os_ R1.1, bs_ i1]
    rw [bs_ (gR_at R2.1 rfl), bs_ (gR_at R2.1 rfl), bs_ (gR_at R2.1 rfl), bs_ (gR_at R2.1 rfl), bs_ j1]
    rw [bs_ (gR_at R3.1 rfl), bs_ (gR_at R3.1 rfl), bs_ (gR_at R3.1 rfl), os_ R3.1, bs_ k1]
    rw [bs_ (gR_at R4.1 rfl), bs_ (gR_at R4.1 rfl), bs_ (gR_at R4.1 rfl), bs_ (gR_at R4.1 rfl), bs_ (gR_at R4.1 rfl), os_ R4.1, bs_ l1]
    rw [bs_ (gR_at R5.1 rfl), bs2 (w_zero (x := E 23) (rv_i R5.2 (i := 23) (ro_d (by decide))))]
    by_cases z : E 23 = 0
    · rw [decide_eq_true z, if_neg (show ¬ bi true = 0 by decide), decide_eq_false (fun c => c.1 z)]; rfl
    · rw [decide_eq_false z, if_pos (show bi false = 0 by decide), bs_ (gR_at R5.1 rfl), bs2 (w_zero (x := s) (rv_i R5.2 (i := 24) (ro_d (by decide))))]
      by_cases y : s = 0
      · rw [decide_eq_true y, if_neg (show ¬ bi true = 0 by decide), decide_eq_false (fun c => c.2 y)]; rfl
      · rw [decide_eq_false y, if_pos (show bi false = 0 by decide), decide_eq_true ⟨z, y⟩]; rfl
  · have fs : ψ s = ψ v3 * ψ r := by rw [← hs, zf_md Y, Y.2.1]
    have f3 : ψ v3 = ψ D * ψ (E 23) + ψ (E 22) := by rw [← hv3, zf_md Y, Y.1, ← hv2, zf_md Y, Y.2.1]
    have fi := n_fi Y k5
    rw [fs, f3, Lean.Grind.Semiring.mul_assoc, Lean.Grind.CommSemiring.mul_comm (ψ r), fi, Lean.Grind.Semiring.mul_one]
end SGD
