/-! the reference's ranged and taken; the sum that verified makes -/
section RTK
variable {q : Nat} {th ta me re kc : Int32} {F : Type} {φ : Nat → F} {H : Type} {ψ : Nat → H}
theorem w_ranged {pn qn : Int32} {h : HP} {E : Nat → Nat} {a v : Nat} (R : RQ q th ta me re kc pn qn h E) (hv : RV q h a v) : ∃ b, P_Rm_ranged h q (q + a) = some (bi b, h) ∧ (b = true ↔ rng v) := by
  unfold P_Rm_ranged
  rw [bs2 (w_zero hv)]
  by_cases z : v = 0
  · rw [decide_eq_true z, if_neg (show ¬ bi true = 0 by decide)]
    exact ⟨false, rfl, fun c => (by cases c), fun c => absurd z c.2⟩
  · rw [decide_eq_false z, if_pos (show bi false = 0 by decide), bs_ (gR_at R.1 rfl), bs2 (w_below hv (rv_m R.2 mo_n))]
    by_cases y : v < NN
    · rw [decide_eq_true y, if_neg (show ¬ bi true = 0 by decide)]
      exact ⟨true, rfl, fun _ => ⟨y, z⟩, fun _ => rfl⟩
    · rw [decide_eq_false y, if_pos (show bi false = 0 by decide)]
      exact ⟨false, rfl, fun c => (by cases c), fun c => absurd c.1 y⟩
theorem i8_4 (x : Int8) : x.toInt32 = 4 ↔ x = 4 := by
  constructor
  · intro e
    have : (x.toInt32).toInt8 = (4 : Int32).toInt8 := by rw [e]
    rw [i8_r] at this
    exact this
  · intro e; rw [e]; rfl
theorem w_taken [Lean.Grind.Field F] (Z : ZF PP φ) {pn qn : Int32} {h : HP} {E : Nat → Nat} {row : Nat → Int8} (R : RQ q th ta me re kc pn qn h E) (hr : h[q + 1]? = some (pB 65536 row)) :
    ∃ h' E' b, P_Rm_taken h q = some (bi b, h') ∧ RQ q th ta me re kc pn qn h' E' ∧ RK q h h' ∧ (∀ i, i ≠ 15 → i ≠ 16 → i ≠ 19 → i ≠ 20 → E' i = E i) ∧ (b = true ↔ TK φ row) ∧ (b = true → E' 15 = be (fun k => row (1 + k)) 32 ∧ E' 16 = be (fun k => row (33 + k)) 32) := by
  unfold P_Rm_taken
  rw [bs_ (gR_at R.1 rfl), show ldB h (q + 1) 0 = some (row 0).toInt32 from sB_in 0 hr rfl (by decide) (by decide), bs_ rfl]
  by_cases z : row 0 = 4
  · rw [if_pos ((i8_4 _).mpr z)]
    obtain ⟨h1, a1, a2, a3⟩ := w_load R.2 (t := 15) (kr := q + 1) (at' := 1) (ro_d (by decide)) (by decide) (by decide) (by omega) hr
    have R1 := rq_of R a3 a2
    have hr1 : h1[q + 1]? = some (pB 65536 row) := (a3.2 (q + 1) (by omega) (by omega)).trans hr
    obtain ⟨h2, b1, b2, b3⟩ := w_load R1.2 (t := 16) (kr := q + 1) (at' := 33) (ro_d (by decide)) (by decide) (by decide) (by omega) hr1
    have R2 := rq_of R1 b3 b2
    obtain ⟨X, hX⟩ : ∃ X, X = be (fun k => row (1 + k)) 32 := ⟨_, rfl⟩
    obtain ⟨Y, hY⟩ : ∃ Y, Y = be (fun k => row (33 + k)) 32 := ⟨_, rfl⟩
    obtain ⟨h3, E3, b, c1, c2, c3, c4, c5⟩ := w_onCurve Z R2
    refine ⟨h3, E3, b, ?_, c2, (a3.tr b3).tr c3, fun i i1 i2 i3 i4 => by rw [c4 i i3 i4, up1_n i2, up1_n i1], ?_, fun _ => ?_⟩
    · rw [bs_ (gR_at R.1 rfl), bs_ (gR_at R.1 rfl), show P_Rm_load h (q + 15) (q + 1) 1 = _ from a1, bs_ rfl, bs_ (gR_at R1.1 rfl), bs_ (gR_at R1.1 rfl), show P_Rm_load h1 (q + 16) (q + 1) 33 = _ from b1, bs_ rfl, os_ R2.1, bs2 c1]
      cases b <;> rfl
    · rw [c5, up1_n (by decide), up1_s, up1_s]
      unfold TK
      exact ⟨fun c => ⟨z, c⟩, fun c => c.2⟩
    · rw [c4 15 (by decide) (by decide), c4 16 (by decide) (by decide), up1_n (by decide), up1_s, up1_s]
      exact ⟨rfl, rfl⟩
  · rw [if_neg (fun c => z ((i8_4 _).mp c))]
    refine ⟨h, E, false, rfl, R, RK.rf, fun _ _ _ _ _ => rfl, ⟨fun c => (by cases c), fun c => absurd c.1 z⟩, fun c => (by cases c)⟩
/-- the last thing that verified does -/
theorem rv_321 {pn qn : Int32} {h : HP} {E : Nat → Nat} (R : RQ q th ta me re kc pn qn h E) : B_Rm_verified_321 h q = some (nI (if E 13 = E 23 then 0 else 4), h) := by
  unfold B_Rm_verified_321
  rw [bs_ (gR_at R.1 rfl), bs_ (gR_at R.1 rfl), bs2 (w_alike (rv_i R.2 (i := 13) (ro_d (by decide))) (rv_i R.2 (i := 23) (ro_d (by decide))))]
  by_cases z : E 13 = E 23
  · rw [decide_eq_true z, if_neg (show ¬ bi true = 0 by decide), if_pos z]; rfl
  · rw [decide_eq_false z, if_pos (show bi false = 0 by decide), if_neg z]; rfl
end RTK
