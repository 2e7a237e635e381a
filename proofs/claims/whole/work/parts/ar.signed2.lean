/-! the reference's signed, all of it -/
section SGE
variable {q : Nat} {th ta me re kc : Int32} {F : Type} {φ : Nat → F} {H : Type} {ψ : Nat → H}
theorem w_signed0 {pn qn : Int32} {h : HP} {E : Nat → Nat} {key : Int32} {val : Nat → Int8} (R : RQ q th ta me re kc pn qn h E) (hv : h[q + 28]? = some (pB 32 val)) (hK : be val 32 = 0 ∨ NN ≤ be val 32) :
    ∃ h', P_Rm_signed h q key = some (bi false, h') ∧ RQ q th ta me re kc pn qn h' (up1 E 25 (be val 32)) ∧ RK q h h' := by
  obtain ⟨h1, g1, g2, g3⟩ := w_load R.2 (t := 25) (kr := q + 28) (at' := 0) (ro_d (by decide)) (by omega) (by omega) (by omega) hv
  rw [show (fun k => val (0 + k)) = val from funext fun k => by rw [Nat.zero_add]] at g2
  have R1 := rq_of R g3 g2
  refine ⟨h1, ?_, R1, g3⟩
  unfold P_Rm_signed
  rw [bs_ (gR_at R.1 rfl), bs_ (gR_at R.1 rfl), show P_Rm_load h (q + 25) (q + 28) 0 = some h1 from g1, bs_ rfl, bs_ (gR_at R1.1 rfl), bs2 (w_zero (x := be val 32) (by have := rv_i R1.2 (i := 25) (ro_d (by decide)); rw [up1_s] at this; exact this))]
  by_cases z : be val 32 = 0
  · rw [decide_eq_true z, if_neg (show ¬ bi true = 0 by decide)]; rfl
  · rw [decide_eq_false z, if_pos (show bi false = 0 by decide), bs_ (gR_at R1.1 rfl), bs_ (gR_at R1.1 rfl), bs2 (w_below (x := be val 32) (by have := rv_i R1.2 (i := 25) (ro_d (by decide)); rw [up1_s] at this; exact this) (rv_m R1.2 mo_n)), decide_eq_false (by omega), if_pos (show bi false = 0 by decide)]; rfl
theorem w_signed1 [Lean.Grind.Field F] [Lean.Grind.Field H] (Z : ZF PP φ) (Y : ZF NN ψ) {pn qn : Int32} {h : HP} {E : Nat → Nat} {key : Nat} {ky val : Nat → Int8} (R : RQ q th ta me re kc pn qn h E) (hkey : key < 100) (hk : h[q + 4]? = some (pB 3200 ky)) (hv : h[q + 28]? = some (pB 32 val)) (hD : be (fun k => ky (32 * key + k)) 32 < NN) (hz : E 22 < NN) (hK0 : be val 32 ≠ 0) (hK : be val 32 < NN) :
    ∃ h' E' pn' vx vy s, P_Rm_signed h q (nI key) = some (bi (decide (vx % NN ≠ 0 ∧ s ≠ 0)), h') ∧ RQ q th ta me re kc pn' 0 h' E' ∧ RKq q h h' ∧ E' 22 = E 22 ∧ E' 23 = vx % NN ∧ E' 24 = s ∧ s < NN ∧ vx < PP ∧ ML φ (be val 32) (φ GX, φ GY) (some (φ vx, φ vy)) ∧ ψ s * ψ (be val 32) = ψ (be (fun k => ky (32 * key + k)) 32) * ψ (vx % NN) + ψ (E 22) := by
  obtain ⟨K, hKe⟩ : ∃ K, K = be val 32 := ⟨_, rfl⟩
  obtain ⟨h1, g1, g2, g3⟩ := w_load R.2 (t := 25) (kr := q + 28) (at' := 0) (ro_d (by decide)) (by omega) (by omega) (by omega) hv
  rw [show (fun k => val (0 + k)) = val from funext fun k => by rw [Nat.zero_add]] at g2
  rw [← hKe] at g2 hK hK0 ⊢
  have R1 := rq_of R g3 g2
  have rv25 : RV q h1 25 K := by have := rv_i R1.2 (i := 25) (ro_d (by decide)); rw [up1_s] at this; exact this
  obtain ⟨h2, E2, pn', b1, b2, b3, b4, b5, b6, b7⟩ := w_fromBase Z R1 (by rw [up1_s]; have : NN < 2 ^ 256 := by decide
                                                                          omega)
  rw [up1_s] at b7
  have hp0 : pn' = 0 := by
    rcases b5 with z | z
    · exact z
    · exfalso
      have : PT φ pn' (E2 13) (E2 14) = none := by unfold PT; rw [z]; rfl
      rw [this] at b7
      exact ml_nz Z (oc_g Z) (ml_n Z) (Nat.pos_of_ne_zero hK0) hK b7
  obtain ⟨lx, ly⟩ := b6 hp0
  have e22 : E2 22 = E 22 := by rw [b4 22 (by decide) (by decide) (by decide) (by decide) (by decide) (by decide) (by decide) (by decide) (by decide), up1_n (by decide)]
  have e25 : E2 25 = K := by rw [b4 25 (by decide) (by decide) (by decide) (by decide) (by decide) (by decide) (by decide) (by decide) (by decide), up1_s]
  obtain ⟨vx, hvx⟩ : ∃ vx, vx = E2 13 := ⟨_, rfl⟩
  rw [← hvx] at lx
  obtain ⟨h3, c1, c2, c3⟩ := w_copy b2.2 (t := 23) (a := 13) (x := vx) (ro_d (by decide)) (by rw [hvx]; exact rv_i b2.2 (ro_d (by decide))) (by decide)
  have R3 := rq_of b2 c3 c2
  have hml : ML φ K (φ GX, φ GY) (some (φ vx, φ (E2 14))) := by
    have : PT φ pn' (E2 13) (E2 14) = some (φ (E2 13), φ (E2 14)) := by unfold PT; rw [if_pos hp0]
    rw [this, ← hvx] at b7
    exact b7
  have keep4 : ∀ {h9 : HP}, RKq q h h9 → h9[q + 4]? = some (pB 3200 ky) := fun k => by rw [k.2 (q + 4) (by omega) (by omega) (by omega)]; exact hk
  have pre : P_Rm_signed h q (nI key) = (if bi (decide (vx < NN)) = 0 then bnd (P_Rm_less h3 (q + 23) (q + 23) (q + 7)) fun h53 => B_Rm_signed_86 h53 q (nI key) else B_Rm_signed_86 h3 q (nI key)) := by
    unfold P_Rm_signed
    rw [bs_ (gR_at R.1 rfl), bs_ (gR_at R.1 rfl), show P_Rm_load h (q + 25) (q + 28) 0 = some h1 from g1, bs_ rfl, bs_ (gR_at R1.1 rfl), bs2 (w_zero rv25), decide_eq_false hK0, if_pos (show bi false = 0 by decide), bs_ (gR_at R1.1 rfl), bs_ (gR_at R1.1 rfl), bs2 (w_below rv25 (rv_m R1.2 mo_n)), decide_eq_true hK, if_neg (show ¬ bi true = 0 by decide), bs_ (gR_at R1.1 rfl), os_ R1.1, bs_ b1, bs_ (gR_at b2.1 rfl), bs_ (gR_at b2.1 rfl), bs_ c1, bs_ (gR_at R3.1 rfl), bs_ (gR_at R3.1 rfl), bs2 (w_below (x := vx) (by have := rv_i R3.2 (i := 23) (ro_d (by decide)); rw [up1_s] at this; exact this) (rv_m R3.2 mo_n)), bs_ (gR_at R3.1 rfl), bs_ (gR_at R3.1 rfl), bs_ (gR_at R3.1 rfl)]
  rw [pre]
  by_cases z : vx < NN
  · rw [decide_eq_true z, if_neg (show ¬ bi true = 0 by decide)]
    obtain ⟨h5, E5, s, d1, d2, d3, d4, d5, d6, d7⟩ := sg_86 Y (E := up1 E2 23 vx) R3 hkey (keep4 ((RK.kq g3).tr (b3.tr (RK.kq c3)))) hD (by rw [up1_s]; exact z) (by rw [up1_n (by decide), e22]; exact hz) (by rw [up1_n (by decide), e25]; exact hK0) (by rw [up1_n (by decide), e25]; exact hK)
    rw [up1_s] at d1
    rw [up1_s, up1_n (by decide), up1_n (by decide), e22, e25] at d7
    refine ⟨h5, E5, pn', vx, E2 14, s, by rw [Nat.mod_eq_of_lt z]; exact d1, d2, (RK.kq g3).tr (b3.tr ((RK.kq c3).tr (RK.kq d3))), by rw [d4 22 (by decide) (by decide) (by decide), up1_n (by decide), e22], by rw [d4 23 (by decide) (by decide) (by decide), up1_s, Nat.mod_eq_of_lt z], d5, d6, lx, hml, by rw [Nat.mod_eq_of_lt z]; exact d7⟩
  · rw [decide_eq_false z, if_pos (show bi false = 0 by decide)]
    obtain ⟨h4, f1, f2, f3⟩ := w_less R3.2 (t := 23) (b := 7) (y := NN) (ro_d (by decide)) (rv_m R3.2 mo_n) (by rw [up1_s]; omega)
    rw [up1_s] at f2
    have R4 := rq_of R3 f3 f2
    have me : vx % NN = vx - NN := by
      have : PP ≤ 2 * NN := by decide
      rw [Nat.mod_eq_sub_mod (by omega), Nat.mod_eq_of_lt (by omega)]
    rw [← me] at R4
    have ml : vx % NN < NN := Nat.mod_lt _ (by decide)
    obtain ⟨w, hw⟩ : ∃ w, w = vx % NN := ⟨_, rfl⟩
    rw [← hw] at R4 ml
    rw [bs_ f1]
    obtain ⟨h5, E5, s, d1, d2, d3, d4, d5, d6, d7⟩ := sg_86 Y (E := up1 (up1 E2 23 vx) 23 w) R4 hkey (keep4 ((RK.kq g3).tr (b3.tr ((RK.kq c3).tr (RK.kq f3))))) hD (by rw [up1_s]; exact ml) (by rw [up1_n (by decide), up1_n (by decide), e22]; exact hz) (by rw [up1_n (by decide), up1_n (by decide), e25]; exact hK0) (by rw [up1_n (by decide), up1_n (by decide), e25]; exact hK)
    rw [up1_s] at d1
    rw [up1_s, up1_n (by decide), up1_n (by decide), up1_n (by decide), up1_n (by decide), e22, e25] at d7
    refine ⟨h5, E5, pn', vx, E2 14, s, by rw [← hw]; exact d1, d2, (RK.kq g3).tr (b3.tr ((RK.kq c3).tr ((RK.kq f3).tr (RK.kq d3)))), by rw [d4 22 (by decide) (by decide) (by decide), up1_n (by decide), up1_n (by decide), e22], by rw [d4 23 (by decide) (by decide) (by decide), up1_s, hw], d5, d6, lx, hml, by rw [← hw]; exact d7⟩
end SGE
