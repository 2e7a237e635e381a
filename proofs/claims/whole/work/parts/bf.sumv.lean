/-! the reference's verified: the sum of two multiples -/
section RSV
variable {q : Nat} {th ta me re kc : Int32} {F : Type} {φ : Nat → F} {H : Type} {ψ : Nat → H}
def B_vf (h27 : HP) (p0 : Nat) : Option (Int32 × HP) :=
  bnd (gR h27 p0 8 32) fun k28 =>
  bnd (gR h27 p0 8 30) fun k29 =>
  bnd (gR h27 p0 8 11) fun k30 =>
  ob h27 p0 8 (
  bnd (P_Rm_inverse h27 p0 k28 k29 k30) fun h31 =>
  bnd (gR h31 p0 8 31) fun k32 =>
  bnd (gR h31 p0 8 29) fun k33 =>
  bnd (gR h31 p0 8 32) fun k34 =>
  bnd (gR h31 p0 8 11) fun k35 =>
  bnd (gR h31 p0 8 16) fun k36 =>
  ob h31 p0 8 (
  bnd (P_Rm_times h31 p0 k32 k33 k34 k35 k36) fun h37 =>
  bnd (gR h37 p0 8 31) fun k38 =>
  ob h37 p0 8 (
  bnd (P_Rm_multiply h37 p0 k38) fun h39 =>
  bnd (gR h39 p0 8 31) fun k40 =>
  bnd (gR h39 p0 8 28) fun k41 =>
  bnd (gR h39 p0 8 32) fun k42 =>
  bnd (gR h39 p0 8 11) fun k43 =>
  bnd (gR h39 p0 8 16) fun k44 =>
  ob h39 p0 8 (
  bnd (P_Rm_times h39 p0 k40 k41 k42 k43 k44) fun h45 =>
  bnd (gR h45 p0 8 28) fun k46 =>
  bnd (gR h45 p0 8 17) fun k47 =>
  bnd (P_Rm_copy h45 k46 k47) fun h48 =>
  bnd (gR h48 p0 8 32) fun k49 =>
  bnd (gR h48 p0 8 18) fun k50 =>
  bnd (P_Rm_copy h48 k49 k50) fun h51 =>
  bnd (gI h51 p0 8 23) fun v52 =>
  bnd (gR h51 p0 8 31) fun k53 =>
  ob h51 p0 8 (
  bnd (P_Rm_fromBase h51 p0 k53) fun h54 =>
  bnd (gR h54 p0 8 19) fun k55 =>
  bnd (gR h54 p0 8 28) fun k56 =>
  bnd (P_Rm_copy h54 k55 k56) fun h57 =>
  bnd (gR h57 p0 8 20) fun k58 =>
  bnd (gR h57 p0 8 32) fun k59 =>
  bnd (P_Rm_copy h57 k58 k59) fun h60 =>
  bnd (pZ h60 p0 8 24 v52) fun h61 =>
  ob h61 p0 8 (
  bnd (P_Rm_add h61 p0) fun h62 =>
  bnd (pZ h62 p0 8 24 0) fun h63 =>
  bnd (gI h63 p0 8 23) fun v64 =>
  if v64 = 0 then
  bnd (gR h63 p0 8 17) fun k65 =>
  bnd (gR h63 p0 8 11) fun k66 =>
  bnd2 (P_Rm_below h63 k65 k66) fun v68 h67 =>
  if v68 = 0 then
  bnd (gR h67 p0 8 17) fun k73 =>
  bnd (gR h67 p0 8 17) fun k74 =>
  bnd (gR h67 p0 8 11) fun k75 =>
  bnd (P_Rm_less h67 k73 k74 k75) fun h76 =>
  B_Rm_verified_321 h76 p0
  else
  B_Rm_verified_321 h67 p0
  else
  some (4, h63)))))))
theorem n_tm [Lean.Grind.Field H] (Y : ZF NN ψ) {a s i : Nat} (h : s * i % NN = 1) : ψ (a * i % NN) * ψ s = ψ a := by
  have e := n_fi Y h
  rw [zf_md Y, Y.2.1]
  have : ψ a * ψ i * ψ s = ψ a * (ψ s * ψ i) := by grind
  rw [this, e]
  grind
theorem pt_oc [Lean.Grind.Field F] {k : Nat} {P : F × F} {S : Option (F × F)} (h : ML φ k P S) : OC (-3) (φ BB) S := h.1
theorem r_vf [Lean.Grind.Field F] [Lean.Grind.Field H] (Z : ZF PP φ) (Y : ZF NN ψ) {pn qn : Int32} {h : HP} {E : Nat → Nat} {r s z X' Y' : Nat} (R : RQ q th ta me re kc pn qn h E) (er : E 23 = r) (es : E 24 = s) (ez : E 22 = z) (eX : E 15 = X') (eY : E 16 = Y') (r1 : r < NN) (s0 : s ≠ 0) (s1 : s < NN) (lX : X' < PP) (lY : Y' < PP) (oc : OC (-3) (φ BB) (some (φ X', φ Y'))) :
    ∃ h' E' pn' u1 u2 T b, B_vf h q = some (nI (if b then 0 else 4), h') ∧ RQ q th ta me re kc pn' 0 h' E' ∧ RKq q h h' ∧ VU ψ r s z u1 u2 ∧ LSm φ (List.replicate u1 (φ GX, φ GY) ++ List.replicate u2 (φ X', φ Y')) T ∧ VB φ r T b := by
  have nn2 : NN < 2 ^ 256 := by decide
  obtain ⟨h31, i, a1, a2, a3, a4, a5⟩ := w_inverse R.1 R.2 (t := 26) (a := 24) (ro_d (by decide)) (ro_d (by decide)) es s0 s1 mo_n
  have R1 := rq_of R a3 a2
  obtain ⟨h37, b1, b2, b3⟩ := w_times R1.1 R1.2 (t := 25) (a := 23) (b := 26) (x := r) (y := i) (ro_d (by decide)) (ro_d (by decide)) (ro_d (by decide)) (by rw [up1_n (by decide)]; exact er) up1_s mo_n
  obtain ⟨u2, hu2⟩ : ∃ u2, u2 = r * i % NN := ⟨_, rfl⟩
  rw [← hu2] at b2
  have lu2 : u2 < NN := by rw [hu2]; exact Nat.mod_lt _ (by decide)
  have eu2 : ψ u2 * ψ s = ψ r := by rw [hu2]; exact n_tm Y a5
  have R2 := rq_of R1 b3 b2
  have e15 : up1 (up1 E 26 i) 25 u2 15 = X' := by rw [up1_n (by decide), up1_n (by decide)]; exact eX
  have e16 : up1 (up1 E 26 i) 25 u2 16 = Y' := by rw [up1_n (by decide), up1_n (by decide)]; exact eY
  obtain ⟨h39, E3, pn3, c1, R3, c3, c4, c5, c6, c7⟩ := w_multiply Z R2 (by rw [e15]; exact lX) (by rw [e16]; exact lY) (by rw [up1_s]; omega) (by rw [e15, e16]; exact oc)
  rw [e15, e16, up1_s] at c7
  have E3k : ∀ j, 22 ≤ j → E3 j = up1 (up1 E 26 i) 25 u2 j := fun j hj => c4 j (by omega) (by omega) (by omega) (by omega) (by omega) (by omega) (by omega)
  have e3_22 : E3 22 = z := by rw [E3k 22 (by decide), up1_n (by decide), up1_n (by decide)]; exact ez
  have e3_23 : E3 23 = r := by rw [E3k 23 (by decide), up1_n (by decide), up1_n (by decide)]; exact er
  have e3_26 : E3 26 = i := by rw [E3k 26 (by decide), up1_n (by decide), up1_s]
  obtain ⟨h45, d1, d2, d3⟩ := w_times R3.1 R3.2 (t := 25) (a := 22) (b := 26) (x := z) (y := i) (ro_d (by decide)) (ro_d (by decide)) (ro_d (by decide)) e3_22 e3_26 mo_n
  obtain ⟨u1, hu1⟩ : ∃ u1, u1 = z * i % NN := ⟨_, rfl⟩
  rw [← hu1] at d2
  have lu1 : u1 < NN := by rw [hu1]; exact Nat.mod_lt _ (by decide)
  have eu1 : ψ u1 * ψ s = ψ z := by rw [hu1]; exact n_tm Y a5
  have R4 := rq_of R3 d3 d2
  obtain ⟨x2, hx2⟩ : ∃ x2, x2 = E3 13 := ⟨_, rfl⟩
  obtain ⟨y2, hy2⟩ : ∃ y2, y2 = E3 14 := ⟨_, rfl⟩
  rw [← hx2, ← hy2] at c6 c7
  obtain ⟨h48, f1, f2, f3⟩ := w_copy R4.2 (t := 22) (a := 13) (x := x2) (ro_d (by decide)) (by have := rv_i R4.2 (i := 13) (ro_d (by decide)); rw [up1_n (by decide), ← hx2] at this; exact this) (by decide)
  have R5 := rq_of R4 f3 f2
  obtain ⟨h51, g1, g2, g3⟩ := w_copy R5.2 (t := 26) (a := 14) (x := y2) (ro_d (by decide)) (by have := rv_i R5.2 (i := 14) (ro_d (by decide)); rw [up1_n (by decide), up1_n (by decide), ← hy2] at this; exact this) (by decide)
  have R6 := rq_of R5 g3 g2
  obtain ⟨h54, E7, pn7, j1, R7, j3, j4, j5, j6, j7⟩ := w_fromBase Z R6 (by rw [up1_n (by decide), up1_n (by decide), up1_s]; omega)
  rw [up1_n (by decide), up1_n (by decide), up1_s] at j7
  have E7k : ∀ j, 22 ≤ j → E7 j = up1 (up1 (up1 E3 25 u1) 22 x2) 26 y2 j := fun j hj => j4 j (by omega) (by omega) (by omega) (by omega) (by omega) (by omega) (by omega) (by omega) (by omega)
  have e7_22 : E7 22 = x2 := by rw [E7k 22 (by decide), up1_n (by decide), up1_s]
  have e7_26 : E7 26 = y2 := by rw [E7k 26 (by decide), up1_s]
  have e7_23 : E7 23 = r := by rw [E7k 23 (by decide), up1_n (by decide), up1_n (by decide), up1_n (by decide)]; exact e3_23
  obtain ⟨h57, k1, k2, k3⟩ := w_copy R7.2 (t := 15) (a := 22) (x := x2) (ro_d (by decide)) (by have := rv_i R7.2 (i := 22) (ro_d (by decide)); rw [e7_22] at this; exact this) (by decide)
  have R8 := rq_of R7 k3 k2
  obtain ⟨h60, l1, l2, l3⟩ := w_copy R8.2 (t := 16) (a := 26) (x := y2) (ro_d (by decide)) (by have := rv_i R8.2 (i := 26) (ro_d (by decide)); rw [up1_n (by decide), e7_26] at this; exact this) (by decide)
  have R9 := rq_of R8 l3 l2
  have z9 := rq_z24 R9 c5
  have R10 := rq_s24 (x := pn3) R9
  obtain ⟨h61, hh61⟩ : ∃ h61, h61 = h60.set q (pO 8 (RFS q th ta me re kc pn7 pn3)) := ⟨_, rfl⟩
  rw [← hh61] at z9 R10
  have k61 : RKq q h60 h61 := by rw [hh61]; exact RKq.st
  have e13 : up1 (up1 E7 15 x2) 16 y2 13 = E7 13 := by rw [up1_n (by decide), up1_n (by decide)]
  have e14 : up1 (up1 E7 15 x2) 16 y2 14 = E7 14 := by rw [up1_n (by decide), up1_n (by decide)]
  have e15' : up1 (up1 E7 15 x2) 16 y2 15 = x2 := by rw [up1_n (by decide), up1_s]
  have e16' : up1 (up1 E7 15 x2) 16 y2 16 = y2 := up1_s
  obtain ⟨h62, E11, pn11, m1, R11, m3, m4, m5, m6, m7⟩ := w_add Z R10 j5 (by rw [e13, e14]; exact j6) (by rw [e15', e16']; exact c6) (by rw [e13, e14]; exact pt_oc j7) (by rw [e15', e16']; exact pt_oc c7)
  rw [e13, e14, e15', e16'] at m7
  have ls := ls_add Z j7 c7 m7
  have e11_23 : E11 23 = r := by rw [m4 23 (by decide) (by decide) (by decide) (by decide) (by decide), up1_n (by decide), up1_n (by decide)]; exact e7_23
  have z12 := rq_z24 R11 (x := 0) (Or.inl rfl)
  have R12 := rq_s24 (x := 0) R11
  obtain ⟨h63, hh63⟩ : ∃ h63, h63 = h62.set q (pO 8 (RFS q th ta me re kc pn11 0)) := ⟨_, rfl⟩
  rw [← hh63] at z12 R12
  have k63 : RKq q h62 h63 := by rw [hh63]; exact RKq.st
  have kk : RKq q h h63 := (RK.kq a3).tr ((RK.kq b3).tr (c3.tr ((RK.kq d3).tr ((RK.kq f3).tr ((RK.kq g3).tr (j3.tr ((RK.kq k3).tr ((RK.kq l3).tr (k61.tr (m3.tr k63))))))))))
  have vu : VU ψ r s z u1 u2 := ⟨lu1, lu2, eu1, eu2⟩
  have go : ∀ T, B_vf h q = T ↔ (if pn11 = 0 then
  bnd (gR h63 q 8 17) fun k65 =>
  bnd (gR h63 q 8 11) fun k66 =>
  bnd2 (P_Rm_below h63 k65 k66) fun v68 h67 =>
  if v68 = 0 then
  bnd (gR h67 q 8 17) fun k73 =>
  bnd (gR h67 q 8 17) fun k74 =>
  bnd (gR h67 q 8 11) fun k75 =>
  bnd (P_Rm_less h67 k73 k74 k75) fun h76 =>
  B_Rm_verified_321 h76 q
  else
  B_Rm_verified_321 h67 q
  else
  some (4, h63)) = T := by
    intro T
    unfold B_vf
    rw [bs_ (gR_at R.1 rfl), bs_ (gR_at R.1 rfl), bs_ (gR_at R.1 rfl), os_ R.1, bs_ a1, bs_ (gR_at R1.1 rfl), bs_ (gR_at R1.1 rfl), bs_ (gR_at R1.1 rfl), bs_ (gR_at R1.1 rfl), bs_ (gR_at R1.1 rfl), os_ R1.1, bs_ b1, bs_ (gR_at R2.1 rfl), os_ R2.1, bs_ c1]
    rw [bs_ (gR_at R3.1 rfl), bs_ (gR_at R3.1 rfl), bs_ (gR_at R3.1 rfl), bs_ (gR_at R3.1 rfl), bs_ (gR_at R3.1 rfl), os_ R3.1, bs_ d1, bs_ (gR_at R4.1 rfl), bs_ (gR_at R4.1 rfl), bs_ f1, bs_ (gR_at R5.1 rfl), bs_ (gR_at R5.1 rfl), bs_ g1, bs_ (gI_at R6.1 rfl), bs_ (gR_at R6.1 rfl), os_ R6.1, bs_ j1]
    rw [bs_ (gR_at R7.1 rfl), bs_ (gR_at R7.1 rfl), bs_ k1, bs_ (gR_at R8.1 rfl), bs_ (gR_at R8.1 rfl), bs_ l1, bs_ z9, os_ R10.1, bs_ m1, bs_ z12, bs_ (gI_at R12.1 rfl)]
  by_cases y : pn11 = 0
  · obtain ⟨l13, l14⟩ := m6 y
    have eT : PT φ pn11 (E11 13) (E11 14) = some (φ (E11 13), φ (E11 14)) := by unfold PT; rw [if_pos y]
    rw [eT] at ls
    obtain ⟨vx, hvx⟩ : ∃ vx, vx = E11 13 := ⟨_, rfl⟩
    rw [← hvx] at l13 ls
    have vb : VB φ r (some (φ vx, φ (E11 14))) (decide (vx % NN = r)) := by
      refine ⟨fun c => ⟨vx, _, l13, rfl, of_decide_eq_true c⟩, fun ⟨vx', Y2, a, b, c⟩ => ?_⟩
      have e1 : φ vx = φ vx' := congrArg Prod.fst (Option.some.inj b)
      rw [(zf_ne Z l13 a).mp e1]
      exact decide_eq_true c
    have rvx : RV q h63 13 vx := by have := rv_i R12.2 (i := 13) (ro_d (by decide)); rw [← hvx] at this; exact this
    by_cases w : vx < NN
    · refine ⟨h63, E11, pn11, u1, u2, _, decide (vx % NN = r), ?_, R12, kk, vu, ls, vb⟩
      rw [go, if_pos y, bs_ (gR_at R12.1 rfl), bs_ (gR_at R12.1 rfl), bs2 (w_below rvx (rv_m R12.2 mo_n)), decide_eq_true w, if_neg (show ¬ bi true = 0 by decide), rv_321 R12, e11_23, ← hvx, Nat.mod_eq_of_lt w]
      by_cases x : vx = r
      · rw [if_pos x, decide_eq_true x]; rfl
      · rw [if_neg x, decide_eq_false x]; rfl
    · obtain ⟨h76, o1, o2, o3⟩ := w_less R12.2 (t := 13) (b := 7) (y := NN) (ro_d (by decide)) (rv_m R12.2 mo_n) (by rw [← hvx]; omega)
      rw [← hvx] at o2
      have me' : vx - NN = vx % NN := by
        have : PP ≤ 2 * NN := by decide
        rw [Nat.mod_eq_sub_mod (by omega), Nat.mod_eq_of_lt (by omega)]
      rw [me'] at o2
      have R13 := rq_of R12 o3 o2
      refine ⟨h76, _, pn11, u1, u2, _, decide (vx % NN = r), ?_, R13, kk.tr (RK.kq o3), vu, ls, vb⟩
      rw [go, if_pos y, bs_ (gR_at R12.1 rfl), bs_ (gR_at R12.1 rfl), bs2 (w_below rvx (rv_m R12.2 mo_n)), decide_eq_false w, if_pos (show bi false = 0 by decide), bs_ (gR_at R12.1 rfl), bs_ (gR_at R12.1 rfl), bs_ (gR_at R12.1 rfl), bs_ o1, rv_321 R13, up1_s, up1_n (by decide), e11_23]
      by_cases x : vx % NN = r
      · rw [if_pos x, decide_eq_true x]; rfl
      · rw [if_neg x, decide_eq_false x]; rfl
  · have eT : PT φ pn11 (E11 13) (E11 14) = none := by unfold PT; rw [if_neg y]
    rw [eT] at ls
    refine ⟨h63, E11, pn11, u1, u2, none, false, ?_, R12, kk, vu, ls, fun c => (by cases c), fun ⟨_, _, _, c, _⟩ => (by cases c)⟩
    rw [go, if_neg y]
    rfl
end RSV
