/-! the class's calls: sign, verify -/
section CCC
variable {F : Type} {φ : Nat → F} {H : Type} {ψ : Nat → H} {li lj : Int} {kt tn tl kc ml rl : Nat} {sm : Int32} {row ky dg res : Nat → Int8} {vc : Nat → Int32} {h : HP}
theorem sd0_cg {v fd fd' fz : Nat → Int8} {t : Int8} (e : E32 fd fd') : sd0 v t fd fz = sd0 v t fd' fz := by
  funext k
  unfold sd0
  by_cases a : k < 32
  · rw [if_pos a, if_pos a]
  · rw [if_neg a, if_neg a]
    by_cases b : k = 32
    · rw [if_pos b, if_pos b]
    · rw [if_neg b, if_neg b]
      by_cases c : k < 65
      · rw [if_pos c, if_pos c, e (k - 33) (by omega)]
      · rw [if_neg c, if_neg c]
theorem kA_cg {fd fd' fz : Nat → Int8} (e : E32 fd fd') : kA fd fz = kA fd' fz := by unfold kA; rw [sd0_cg e]
theorem vA_cg {fd fd' fz : Nat → Int8} (e : E32 fd fd') : vA fd fz = vA fd' fz := by unfold vA; rw [kA_cg e]
theorem kB_cg {fd fd' fz : Nat → Int8} (e : E32 fd fd') : kB fd fz = kB fd' fz := by unfold kB; rw [kA_cg e, vA_cg e, sd0_cg e]
theorem vB_cg {fd fd' fz : Nat → Int8} (e : E32 fd fd') : vB fd fz = vB fd' fz := by unfold vB; rw [kB_cg e, vA_cg e]
theorem u_sign [Lean.Grind.Field F] [Lean.Grind.Field H] (Z : ZF PP φ) (Y : ZF NN ψ) (hr : φ (2 ^ 261) ≠ 0) (hs : ψ (2 ^ 261) ≠ 0) (C : CI φ li lj kt tn tl kc ml rl sm row ky dg res vc h) {i : Nat} (hi : i < kc) (hk : kc ≤ 100) (hD : rng (be (fun k => ky (32 * i + k)) 32)) :
    ∃ h' R S a b res', P_PK_sign h 0 (nI i) = some (.inr (nI (6 + dl (btv R) a + dl (btv S) b)), h') ∧ CI φ li lj kt tn tl kc ml (6 + dl (btv R) a + dl (btv S) b) (sm + 1) row ky dg res' vc h' ∧ KQ h h' ∧ LD (btv R) a ∧ LD (btv S) b ∧ DS R S a b res' ∧ SO φ ψ (be (fun k => ky (32 * i + k)) 32) (be dg 32 % NN) 100 (kB (fun k => ky (32 * i + k)) (btv (be dg 32 % NN))) (vB (fun k => ky (32 * i + k)) (btv (be dg 32 % NN))) R S := by
  obtain ⟨sec, s1, s2⟩ := ci_sec C hi hk
  rw [← be_eq 32 s2] at hD ⊢
  rw [← kB_cg s2, ← vB_cg s2]
  have Yc := C.2.2.2.2
  obtain ⟨fr, fs, G⟩ := Yc.2.2.2.1
  obtain ⟨h9, R, S, fr', fs', a1, U9, S9, G9, k9, so, _, f1, f2⟩ := u_make Z Y hr hs (ks := 3 + i) Yc.2.1 Yc.2.2.1 G (by omega) s1 hD.1 C.2.2.2.1.1
  have Y9 : CY φ li lj h9 := ⟨sho_ag Yc.1 (fun j hj => k9.2 j (by omega)), U9, S9, ⟨fr', fs', G9⟩, prw_ag Yc.2.2.2.2.1 (k9.ag (by decide)), ex_ag Yc.2.2.2.2.2.1 (k9.2 302 (by decide)), ex_ag Yc.2.2.2.2.2.2 (k9.2 303 (by decide))⟩
  have C9 : CI φ li lj kt tn tl kc ml rl sm row ky dg res vc h9 := ci_y C (fun j hj => k9.2 j (by omega)) Y9
  obtain ⟨a, b, res', l1, l2, b1, ds⟩ := u_write (R := R) (S := S) G9 f1 f2 C9.2.2.2.1.2.1
  obtain ⟨N, hN⟩ : ∃ N, N = 6 + dl (btv R) a + dl (btv S) b := ⟨_, rfl⟩
  rw [← hN] at b1
  obtain ⟨h12, hh12⟩ : ∃ h12, h12 = h9.set 104 (pB 72 res') := ⟨_, rfl⟩
  rw [← hh12] at b1
  have k12 : KP [104] h9 h12 := by rw [hh12]; exact KP.st (by simp)
  have r12 : h12[104]? = some (pB 72 res') := by rw [hh12]; exact hs_ C9.2.2.2.1.2.1
  have C12 : CI φ li lj kt tn tl kc ml rl sm row ky dg res' vc h12 := ⟨(k12.2 0 (by decide)).trans C9.1, ct_ag C9.2.1 (k12.2 kt (by have := C.2.1.2.1; simp; omega)), ck_ag C9.2.2.1 (agk k12 (by decide)), ⟨(k12.2 103 (by decide)).trans C9.2.2.2.1.1, r12, (k12.2 105 (by decide)).trans C9.2.2.2.1.2.2⟩, cy_ag Y9 (agk k12 (by decide))⟩
  have g1 : pV h12 0 7 7 (.int (nI N)) = some (h12.set 0 (pO 7 (OB kt tl kc ml N sm))) := pV0 (j := 7) (v := .int (nI N)) C12.1 (by decide)
  have C14 : CI φ li lj kt tn tl kc ml N sm row ky dg res' vc (h12.set 0 (pO 7 (OB kt tl kc ml N sm))) := ci_0 C12 C12.2.1 C12.2.2.1
  obtain ⟨h14, hh14⟩ : ∃ h14, h14 = h12.set 0 (pO 7 (OB kt tl kc ml N sm)) := ⟨_, rfl⟩
  rw [← hh14] at g1 C14
  have g2 : pV h14 0 7 8 (.int (sm + 1)) = some (h14.set 0 (pO 7 (OB kt tl kc ml N (sm + 1)))) := pV0 (j := 8) (v := .int (sm + 1)) C14.1 (by decide)
  have C16 : CI φ li lj kt tn tl kc ml N (sm + 1) row ky dg res' vc (h14.set 0 (pO 7 (OB kt tl kc ml N (sm + 1)))) := ci_0 C14 C14.2.1 C14.2.2.1
  obtain ⟨h16, hh16⟩ : ∃ h16, h16 = h14.set 0 (pO 7 (OB kt tl kc ml N (sm + 1))) := ⟨_, rfl⟩
  rw [← hh16] at g2 C16
  subst hN
  refine ⟨h16, R, S, a, b, res', ?_, C16, ⟨by rw [hh16, List.length_set, hh14, List.length_set, k12.1, k9.1]; exact Nat.le_refl _, fun j h1 h2 => by rw [hh16, List.getElem?_set_ne (by omega), hh14, List.getElem?_set_ne (by omega), k12.2 j (by simp; omega)]; exact k9.2 j (by omega)⟩, l1, l2, ds, so⟩
  unfold P_PK_sign
  rw [os_ C.1, bs2 (u_isKey1 C hi hk), if_neg (by decide), bs_ (gR_at C.1 rfl), bs_ (gR_at C.1 rfl), bs_ (gR_at C.1 rfl), bs_ (ldR_4 C.2.2.1 (by omega)), bs_ (gR_at C.1 rfl), bs_ (gR_at C.1 rfl), os_ Yc.2.2.1.1.1, bs_ a1, bs_ (gR_at C9.1 rfl), bs_ (gR_at C9.1 rfl), os_ G9.1, bs2 b1, bs_ g1, bs_ (gI_at C14.1 rfl), bs_ g2, bs_ (gI_at C16.1 rfl)]
theorem vf_108 [Lean.Grind.Field F] (C : CI φ li lj kt tn tl kc ml rl sm row ky dg res vc h) {c : Nat} (hc : c < 5) : ∃ h', B_PK_verify_108 h 0 (nI c) = some (.inr (nI c), h') ∧ CI φ li lj kt tn 0 kc ml rl sm row ky dg res (va_up vc c (vc c + 1)) h' ∧ KQ h h' := by
  have q := C.2.2.2.1.2.2
  have g1 := tI_in (x := vc c + 1) c q rfl hc (by omega)
  obtain ⟨h1, hh1⟩ : ∃ h1, h1 = h.set 105 (pI 5 (va_up vc c (vc c + 1))) := ⟨_, rfl⟩
  rw [← hh1] at g1
  have k1 : KP [105] h h1 := by rw [hh1]; exact KP.st (by simp)
  have C1 : CI φ li lj kt tn tl kc ml rl sm row ky dg res (va_up vc c (vc c + 1)) h1 := ⟨(k1.2 0 (by decide)).trans C.1, ct_ag C.2.1 (k1.2 kt (by have := C.2.1.2.1; simp; omega)), ck_ag C.2.2.1 (agk k1 (by decide)), ⟨(k1.2 103 (by decide)).trans C.2.2.2.1.1, (k1.2 104 (by decide)).trans C.2.2.2.1.2.1, by rw [hh1]; exact hs_ q⟩, cy_ag C.2.2.2.2 (agk k1 (by decide))⟩
  have g2 : pV h1 0 7 1 (.int 0) = some (h1.set 0 (pO 7 (OB kt 0 kc ml rl sm))) := pV0 (j := 1) (v := .int 0) C1.1 (by decide)
  refine ⟨_, ?_, ci_0 (tl' := 0) (ml' := ml) (rl' := rl) (sm' := sm) C1 ⟨C1.2.1.1, C1.2.1.2.1, Nat.zero_le _, C1.2.1.2.2.2⟩ C1.2.2.1, ⟨by rw [List.length_set, k1.1]; exact Nat.le_refl _, fun j h1 h2 => by rw [List.getElem?_set_ne (by omega)]; exact k1.2 j (by simp; omega)⟩⟩
  unfold B_PK_verify_108
  rw [bs_ (gR_at C.1 rfl), bs_ (sI_in c q rfl hc (by omega)), bs_ g1, bs_ g2]
theorem u_verify [Lean.Grind.Field F] [Lean.Grind.Field H] (Z : ZF PP φ) (Y : ZF NN ψ) (hr : φ (2 ^ 261) ≠ 0) (hs : ψ (2 ^ 261) ≠ 0) (C : CI φ li lj kt tn tl kc ml rl sm row ky dg res vc h) (h65 : 65 ≤ tl) :
    ∃ h' c, P_PK_verify h 0 = some (.inr (nI c), h') ∧ CI φ li lj kt tn 0 kc ml rl sm row ky dg res (va_up vc c (vc c + 1)) h' ∧ KQ h h' ∧ VC φ ψ row tl (be dg 32 % NN) c := by
  have T := C.2.1
  have tn1 := ct_tn T
  have tle := T.2.2.1
  have Yc := C.2.2.2.2
  obtain ⟨fr, fs, G⟩ := Yc.2.2.2.1
  obtain ⟨h5, b5, fr', fs', a1, G5, k5, a4, a5⟩ := u_read (kt := kt) G (by rcases T.2.1 with c | c <;> omega) T.1 h65 tle (by omega)
  have Y5 : CY φ li lj h5 := ⟨sho_ag Yc.1 (fun j hj => k5.2 j (by simp; omega)), cuv_ag Yc.2.1 (agk k5 (by decide)), sgn_ag Yc.2.2.1 (agk k5 (by decide)), ⟨fr', fs', G5⟩, prw_ag Yc.2.2.2.2.1 (agk k5 (by decide)), ex_ag Yc.2.2.2.2.2.1 (k5.2 302 (by decide)), ex_ag Yc.2.2.2.2.2.2 (k5.2 303 (by decide))⟩
  have C5 : CI φ li lj kt tn tl kc ml rl sm row ky dg res vc h5 := ci_y C (fun j hj => k5.2 j (by simp; omega)) Y5
  have Q5 : KQ h h5 := KQ.ki (KI.of (a := 296) (b := 298) k5 (by decide)) (by decide)
  have go : ∀ X, P_PK_verify h 0 = X ↔ (if bi b5 = 0 then
  B_PK_verify_108 h5 0 1
  else
  bnd2 (P_Si_isInRange2 h5 262 295) fun v10 h9 =>
  if v10 = 0 then
  B_PK_verify_108 h9 0 2
  else
  bnd (gR h9 0 7 11) fun k11 =>
  bnd (gR h9 0 7 0) fun k12 =>
  ob h9 k11 0 (
  bnd2 (P_Cu_takesOther h9 k11 k12) fun v14 h13 =>
  if v14 = 0 then
  B_PK_verify_108 h13 0 3
  else
  bnd (gR h13 0 7 12) fun k15 =>
  bnd (gR h13 0 7 11) fun k16 =>
  bnd (gR h13 0 7 13) fun k17 =>
  bnd (gR h13 0 7 4) fun k18 =>
  ob h13 k15 6 (
  bnd2 (P_Si_isGood h13 k15 k16 k17 k18) fun v20 h19 =>
  if v20 = 0 then
  B_PK_verify_108 h19 0 4
  else
  B_PK_verify_108 h19 0 0))) = X := by
    intro X
    unfold P_PK_verify
    rw [bs_ (gI_at C.1 rfl), if_pos (show (65 : Int32) ≤ nI tl from nI_le (a := 65) h65 (by omega)), bs_ (gR_at C.1 rfl), bs_ (gR_at C.1 rfl), bs_ (gI_at C.1 rfl), os_ G.1, bs2 a1, bs_ (gR_at C5.1 rfl), bs_ (gR_at C5.1 rfl), os_ Y5.2.2.1.1.1]
  cases hb : b5 with
  | false =>
    obtain ⟨h', b1, b2, b3⟩ := vf_108 C5 (c := 1) (by decide)
    refine ⟨h', 1, ?_, b2, Q5.tr b3, Or.inl ⟨fun L1 L2 d => ?_, rfl⟩⟩
    · rw [go, hb, if_pos (show bi false = 0 by decide)]; exact b1
    · have := a4.mpr ⟨L1, L2, d⟩
      rw [hb] at this
      cases this
  | true =>
    obtain ⟨L1, L2, dr⟩ := a4.mp hb
    obtain ⟨efr, efs⟩ := a5 L1 L2 dr
    have d1 := dr.2.2.2.2.1
    have d2 := dr.2.2.2.2.2.1
    obtain ⟨n1, n2⟩ := nv_c (row := row) (tf := fr) (at' := 67) (by decide) d1.2.2.2.1 d1.2.2.2.2.1
    obtain ⟨m1, m2⟩ := nv_c (row := row) (tf := fs) (at' := 69 + L1) (by omega) d2.2.2.2.1 d2.2.2.2.2.1
    rw [← efr] at n1 n2
    rw [← efs] at m1 m2
    have Sg := Y5.2.2.1
    obtain ⟨h9, c1, c2, c3, c4⟩ := w_inRange2 (s := 262) (g := 295) Sg.1.1 Sg.1.2.1 G5.1 (by decide) G5.2.1 G5.2.2 (Sg.1.2.2.2.1 292 (by decide) (by decide))
    have Y9 : CY φ li lj h9 := by
      refine ⟨sho_ag Y5.1 (fun j hj => c3.2 j (by simp; omega)), cuv_ag Y5.2.1 (agk c3 (by decide)), ⟨⟨(c3.2 262 (by decide)).trans Sg.1.1, c2, prw_ag Sg.1.2.2.1 (agk c3 (by decide)), fun i h1 h2 => ?_, ?_, ?_⟩, ?_⟩, ⟨fr', fs', sn1_ag G5 (agk c3 (by decide))⟩, prw_ag Y5.2.2.2.2.1 (agk c3 (by decide)), ex_ag Y5.2.2.2.2.2.1 (c3.2 302 (by decide)), ex_ag Y5.2.2.2.2.2.2 (c3.2 303 (by decide))⟩
      · by_cases z : i = 292
        · subst z; exact c4
        · exact ex_ag (Sg.1.2.2.2.1 i h1 h2) (c3.2 i (by simp; omega))
      · rw [c3.2 293 (by decide)]; exact Sg.1.2.2.2.2.1
      · rw [c3.2 294 (by decide)]; exact Sg.1.2.2.2.2.2
      · obtain ⟨key, val, N⟩ := Sg.2
        exact ⟨key, val, no1_ag N (agk c3 (by decide))⟩
    have C9 : CI φ li lj kt tn tl kc ml rl sm row ky dg res vc h9 := ci_y C5 (fun j hj => c3.2 j (by simp; omega)) Y9
    have Q9 : KQ h h9 := Q5.tr (KQ.ki (KI.of (a := 262) (b := 304) c3 (by decide)) (by decide))
    by_cases rg : rng (nv row 67 L1) ∧ rng (nv row (69 + L1) L2)
    · have f0 : fr' 0 = 0 := Classical.byContradiction fun c => by have := n2 c; have := rg.1.1; omega
      have g0 : fs' 0 = 0 := Classical.byContradiction fun c => by have := m2 c; have := rg.2.1; omega
      have e1 := n1 f0
      have e2 := m1 g0
      have ok : (fr' 0 = 0 ∧ fs' 0 = 0) ∧ (be (fun k => fr' (1 + k)) 32 < NN ∧ be (fun k => fr' (1 + k)) 32 ≠ 0) ∧ (be (fun k => fs' (1 + k)) 32 < NN ∧ be (fun k => fs' (1 + k)) 32 ≠ 0) := ⟨⟨f0, g0⟩, by rw [e1]; exact rg.1, by rw [e2]; exact rg.2⟩
      rw [decide_eq_true ok] at c1
      obtain ⟨h13, b, t1, U13, k13, t4, t5⟩ := u_takes Z hr (kr := kt) (n := tn) Y9.2.1 (by omega) (by omega) (by rcases T.2.1 with c | c <;> omega) C9.2.1.1
      have Y13 : CY φ li lj h13 := cy_c Y9 U13 (k13.ag (by decide)) (k13.ag (by decide)) (prw_ag Y9.2.2.2.2.1 (k13.ag (by decide))) (ex_ag Y9.2.2.2.2.2.1 (k13.2 302 (by decide))) (ex_ag Y9.2.2.2.2.2.2 (k13.2 303 (by decide)))
      have C13 : CI φ li lj kt tn tl kc ml rl sm row ky dg res vc h13 := ci_y C9 (fun j hj => k13.2 j (by omega)) Y13
      have Q13 : KQ h h13 := Q9.tr (KQ.ki k13 (by decide))
      have G13 : SN1 fr' fs' h13 := sn1_ag (sn1_ag G5 (agk c3 (by decide))) (k13.ag (by decide))
      have go2 : ∀ X, P_PK_verify h 0 = X ↔ (if bi b = 0 then
  B_PK_verify_108 h13 0 3
  else
  bnd2 (P_Si_isGood h13 262 110 295 103) fun v20 h19 =>
  if v20 = 0 then
  B_PK_verify_108 h19 0 4
  else
  B_PK_verify_108 h19 0 0) = X := by
        intro X
        rw [go, hb, if_neg (show ¬ bi true = 0 by decide), bs2 c1, if_neg (show ¬ bi true = 0 by decide), bs_ (gR_at C9.1 rfl), bs_ (gR_at C9.1 rfl), os_ (cuo_l Y9.2.1), bs2 t1, bs_ (gR_at C13.1 rfl), bs_ (gR_at C13.1 rfl), bs_ (gR_at C13.1 rfl), bs_ (gR_at C13.1 rfl), os_ Y13.2.2.1.1.1]
      cases hb2 : b with
      | false =>
        obtain ⟨h', b1, b2, b3⟩ := vf_108 C13 (c := 3) (by decide)
        refine ⟨h', 3, ?_, b2, Q13.tr b3, Or.inr ⟨L1, L2, dr, Or.inr ⟨rg, Or.inl ⟨fun c => ?_, rfl⟩⟩⟩⟩
        · rw [go2, hb2, if_pos (show bi false = 0 by decide)]; exact b1
        · have := t4.mpr c
          rw [hb2] at this
          cases this
      | true =>
        have tk : TK φ row := t4.mp hb2
        have P1 := t5 hb2
        obtain ⟨h19, bb, u1, u2, TT', w1, U19, S19, k19, w5, w6, w7⟩ := u_good Z Y hr hs (Q := QK φ row) U13 P1 Y13.2.2.1 G13 C13.2.2.2.1.1 e1 e2 rg.1.1 rg.2.2 rg.2.1
        have Y19 : CY φ li lj h19 := ⟨sho_ag Y13.1 (fun j hj => k19.2 j (by omega)), U19, S19, ⟨fr', fs', sn1_ag G13 (k19.ag (by decide))⟩, prw_ag Y13.2.2.2.2.1 (k19.ag (by decide)), ex_ag Y13.2.2.2.2.2.1 (k19.2 302 (by decide)), ex_ag Y13.2.2.2.2.2.2 (k19.2 303 (by decide))⟩
        have C19 : CI φ li lj kt tn tl kc ml rl sm row ky dg res vc h19 := ci_y C13 (fun j hj => k19.2 j (by omega)) Y19
        have Q19 : KQ h h19 := Q13.tr (KQ.ki k19 (by decide))
        obtain ⟨h', b1, b2, b3⟩ := vf_108 C19 (c := if bb then 0 else 4) (by cases bb <;> decide)
        refine ⟨h', if bb then 0 else 4, ?_, b2, Q19.tr b3, Or.inr ⟨L1, L2, dr, Or.inr ⟨rg, Or.inr ⟨tk, u1, u2, TT', bb, w5, w6, w7, rfl⟩⟩⟩⟩
        rw [go2, hb2, if_neg (show ¬ bi true = 0 by decide), bs2 w1]
        cases bb with
        | false => rw [if_pos (show bi false = 0 by decide)]; exact b1
        | true => rw [if_neg (show ¬ bi true = 0 by decide)]; exact b1
    · have no : ¬ ((fr' 0 = 0 ∧ fs' 0 = 0) ∧ (be (fun k => fr' (1 + k)) 32 < NN ∧ be (fun k => fr' (1 + k)) 32 ≠ 0) ∧ (be (fun k => fs' (1 + k)) 32 < NN ∧ be (fun k => fs' (1 + k)) 32 ≠ 0)) := fun c => rg ⟨by rw [← n1 c.1.1]; exact c.2.1, by rw [← m1 c.1.2]; exact c.2.2⟩
      rw [decide_eq_false no] at c1
      obtain ⟨h', b1, b2, b3⟩ := vf_108 C9 (c := 2) (by decide)
      refine ⟨h', 2, ?_, b2, Q9.tr b3, Or.inr ⟨L1, L2, dr, Or.inl ⟨rg, rfl⟩⟩⟩
      rw [go, hb, if_neg (show ¬ bi true = 0 by decide), bs2 c1, if_pos (show bi false = 0 by decide)]
      exact b1
end CCC
