/-! the class's calls: open, agree -/
section CCB
variable {F : Type} {φ : Nat → F} {li lj : Int} {kt tn tl kc ml rl : Nat} {sm : Int32} {row ky dg res : Nat → Int8} {vc : Nat → Int32} {h : HP}
theorem ci_sec [Lean.Grind.Field F] (C : CI φ li lj kt tn tl kc ml rl sm row ky dg res vc h) {i : Nat} (hi : i < kc) (hk : kc ≤ 100) : ∃ sec, h[3 + i]? = some (pB 32 sec) ∧ E32 sec (fun k => ky (32 * i + k)) := by
  obtain ⟨s, s1, s2⟩ := C.2.2.1.2 i (by omega)
  exact ⟨s, s1, s2 hi⟩
theorem u_open [Lean.Grind.Field F] (Z : ZF PP φ) (hr : φ (2 ^ 261) ≠ 0) (C : CI φ li lj kt tn tl kc ml rl sm row ky dg res vc h) {i : Nat} (hi : i < kc) (hk : kc ≤ 100) (hD : rng (be (fun k => ky (32 * i + k)) 32)) :
    ∃ h' vx vy res', P_PK_open h 0 (nI i) = some (.inr (), h') ∧ CI φ li lj kt tn tl kc ml 65 sm row ky dg res' vc h' ∧ KQ h h' ∧ vx < PP ∧ vy < PP ∧ ML φ (be (fun k => ky (32 * i + k)) 32) (φ GX, φ GY) (some (φ vx, φ vy)) ∧ res' 0 = 4 ∧ (∀ k, k < 32 → res' (1 + k) = btv vx k) ∧ ∀ k, k < 32 → res' (33 + k) = btv vy k := by
  obtain ⟨sec, s1, s2⟩ := ci_sec C hi hk
  have eD := be_eq 32 s2
  rw [← eD] at hD ⊢
  obtain ⟨D, hDD⟩ : ∃ D, D = be sec 32 := ⟨_, rfl⟩
  have Y := C.2.2.2.2
  obtain ⟨Sh, U, Sg, G, P8, x2, x3⟩ := C.2.2.2.2
  obtain ⟨h9, a1, U9, k9, px, py, pz, T, p1, p2, p3⟩ := u_sum0 Z hr (t := 298) (kf := 3 + i) U (by decide) P8 s1 (by omega) (by omega)
  rw [← hDD] at hD p2 ⊢
  obtain ⟨X, Y', hT⟩ : ∃ X Y', T = some (X, Y') := by
    cases T with
    | none => exact absurd p2 (fun c => ml_nz Z (oc_g Z) (ml_n Z) (Nat.pos_of_ne_zero hD.2) hD.1 c)
    | some a => exact ⟨a.1, a.2, rfl⟩
  obtain ⟨h14, vx, vy, b1, U14, k14, cx, cy, b5⟩ := u_affine Z hr (kx := 302) (ky := 303) U9 (by decide) (by decide) (by decide) (by decide) (by decide) (by decide) p1 (ex_ag x2 (k9.2 302 (by decide))) (ex_ag x3 (k9.2 303 (by decide))) p3
  obtain ⟨e1, e2⟩ := b5 X Y' hT
  have e14 : ∀ j, j < 112 ∨ (262 ≤ j ∧ j < 299) ∨ 304 ≤ j → h14[j]? = h[j]? := fun j hj => (k14.2 j (fun q => by simp at q; omega)).trans (k9.2 j (fun q => by unfold KC at q; simp at q; omega))
  have l14 : h14.length = h.length := k14.1.trans k9.1
  obtain ⟨A, A1, A2, A3⟩ := cx
  obtain ⟨B, B1, B2, B3⟩ := cy
  have Y14 : CY φ li lj h14 := cy_c Y U14 (fun j h1 h2 => e14 j (by omega)) (fun j h1 h2 => e14 j (by omega)) (prw_ag p1.rw (agk k14 (by decide))) ⟨A, A1⟩ ⟨B, B1⟩
  have C14 : CI φ li lj kt tn tl kc ml rl sm row ky dg res vc h14 := ci_y C (fun j hj => e14 j (by omega)) Y14
  have r14 := C14.2.2.2.1.2.1
  have g1 : stB h14 104 0 4 = some (h14.set 104 (pB 72 (va_up res 0 4))) := tB_in 0 r14 rfl (by decide) (by decide)
  obtain ⟨h16, hh16⟩ : ∃ h16, h16 = h14.set 104 (pB 72 (va_up res 0 4)) := ⟨_, rfl⟩
  rw [← hh16] at g1
  have k16 : KP [104] h14 h16 := by rw [hh16]; exact KP.st (by simp)
  have r16 : h16[104]? = some (pB 72 (va_up res 0 4)) := by rw [hh16]; exact hs_ r14
  obtain ⟨w1, g2, v1, v2⟩ := e_write (kt := 104) (a := 302) (at' := 1) (n := 72) (h := h16) (by decide) (by decide) (by decide) r16 ((k16.2 302 (by decide)).trans A1) A2
  obtain ⟨h19, hh19⟩ : ∃ h19, h19 = h16.set 104 (pB 72 w1) := ⟨_, rfl⟩
  rw [← hh19] at g2
  have k19 : KP [104] h16 h19 := by rw [hh19]; exact KP.st (by simp)
  have r19 : h19[104]? = some (pB 72 w1) := by rw [hh19]; exact hs_ r16
  obtain ⟨w2, g3, v3, v4⟩ := e_write (kt := 104) (a := 303) (at' := 33) (n := 72) (h := h19) (by decide) (by decide) (by decide) r19 ((k19.2 303 (by decide)).trans ((k16.2 303 (by decide)).trans B1)) B2
  obtain ⟨h22, hh22⟩ : ∃ h22, h22 = h19.set 104 (pB 72 w2) := ⟨_, rfl⟩
  rw [← hh22] at g3
  have k22 : KP [104] h19 h22 := by rw [hh22]; exact KP.st (by simp)
  have r22 : h22[104]? = some (pB 72 w2) := by rw [hh22]; exact hs_ r19
  have kk : KP [104] h14 h22 := k16.tr (k19.tr k22)
  have C22 : CI φ li lj kt tn tl kc ml rl sm row ky dg w2 vc h22 := ⟨(kk.2 0 (by decide)).trans C14.1, ct_ag C14.2.1 (kk.2 kt (by have := C.2.1.2.1; simp; omega)), ck_ag C14.2.2.1 (agk kk (by decide)), ⟨(kk.2 103 (by decide)).trans C14.2.2.2.1.1, r22, (kk.2 105 (by decide)).trans C14.2.2.2.1.2.2⟩, cy_ag Y14 (agk kk (by decide))⟩
  have g4 : pV h22 0 7 7 (.int 65) = some (h22.set 0 (pO 7 (OB kt tl kc ml 65 sm))) := pV0 (j := 7) (v := .int 65) C22.1 (by decide)
  have q14 := C14.1
  have q16 : h16[0]? = _ := (k16.2 0 (by decide)).trans q14
  have q19 : h19[0]? = _ := (k19.2 0 (by decide)).trans q16
  refine ⟨_, vx, vy, w2, ?_, ci_0 (ml' := ml) (rl' := 65) (sm' := sm) C22 C22.2.1 C22.2.2.1, ⟨by rw [List.length_set, kk.1, l14]; exact Nat.le_refl _, fun j h1 h2 => by rw [List.getElem?_set_ne (by omega), kk.2 j (by simp; omega)]; exact e14 j (by omega)⟩, A3, B3, ?_, ?_, fun k hk2 => ?_, v3⟩
  · unfold P_PK_open
    rw [os_ C.1, bs2 (u_isKey1 C hi hk), if_neg (by decide), bs_ (gR_at C.1 rfl), bs_ (gR_at C.1 rfl), bs_ (ldR_4 C.2.2.1 (by omega)), bs_ (gR_at C.1 rfl), bs_ (gR_at (cuo_l U) rfl), bs_ (gR_at C.1 rfl), os_ (cuo_l U), bs_ a1, bs_ (gR_at ((k9.2 0 (by decide)).trans C.1) rfl), bs_ (gR_at ((k9.2 0 (by decide)).trans C.1) rfl), bs_ (gR_at ((k9.2 0 (by decide)).trans C.1) rfl), bs_ (gR_at ((k9.2 0 (by decide)).trans C.1) rfl), os_ (cuo_l U9), bs_ b1]
    rw [bs_ (gR_at q14 rfl), bs_ g1, bs_ (gR_at q16 rfl), bs_ (gR_at q16 rfl), show P_Li_write h16 302 104 1 = _ from g2, bs_ rfl, bs_ (gR_at q19 rfl), bs_ (gR_at q19 rfl), show P_Li_write h19 303 104 33 = _ from g3, bs_ rfl, bs_ g4]
  · rw [e1, e2, ← hT]; exact p2
  · rw [v4 0 (by omega), v2 0 (by omega), up_s]
  · rw [v4 (1 + k) (by omega)]; exact v1 k hk2
theorem u_agree0 [Lean.Grind.Field F] (C : CI φ li lj kt tn tl kc ml rl sm row ky dg res vc h) {i : Nat} (hi : i < kc) (hk : kc ≤ 100) (h65 : tl ≠ 65) : P_PK_agree h 0 (nI i) = some (.inl 1, h) := by
  have := (ct_tn C.2.1).2
  have := C.2.1.2.2.1
  unfold P_PK_agree
  rw [os_ C.1, bs2 (u_isKey1 C hi hk), if_neg (by decide), bs_ (gI_at C.1 rfl), if_neg (show ¬ nI tl = 65 from fun c => h65 ((nI_eq (b := 65) (by omega) (by decide)).mp c))]
  rfl
theorem u_agree [Lean.Grind.Field F] (Z : ZF PP φ) (hr : φ (2 ^ 261) ≠ 0) (C : CI φ li lj kt tn tl kc ml rl sm row ky dg res vc h) {i : Nat} (hi : i < kc) (hk : kc ≤ 100) (h65 : tl = 65) (hD : rng (be (fun k => ky (32 * i + k)) 32)) :
    (¬ TK φ row → ∃ h', P_PK_agree h 0 (nI i) = some (.inl 1, h') ∧ CI φ li lj kt tn tl kc ml rl sm row ky dg res vc h' ∧ KQ h h') ∧
    (TK φ row → ∃ h' vx vy res', P_PK_agree h 0 (nI i) = some (.inr (), h') ∧ CI φ li lj kt tn 0 kc ml 32 sm row ky dg res' vc h' ∧ KQ h h' ∧ vx < PP ∧ ML φ (be (fun k => ky (32 * i + k)) 32) (QK φ row) (some (φ vx, φ vy)) ∧ ∀ k, k < 32 → res' k = btv vx k) := by
  have tn1 := ct_tn C.2.1
  have dk : kt < 110 ∨ 262 ≤ kt := by rcases C.2.1.2.1 with c | c <;> omega
  have Y := C.2.2.2.2
  obtain ⟨h6, b, a1, U6, k6, a4, a5⟩ := u_takes Z hr (kr := kt) (n := tn) Y.2.1 (by omega) (by omega) dk C.2.1.1
  have Y6 : CY φ li lj h6 := cy_c Y U6 (k6.ag (by decide)) (k6.ag (by decide)) (prw_ag Y.2.2.2.2.1 (k6.ag (by decide))) (ex_ag Y.2.2.2.2.2.1 (k6.2 302 (by decide))) (ex_ag Y.2.2.2.2.2.2 (k6.2 303 (by decide)))
  have C6 : CI φ li lj kt tn tl kc ml rl sm row ky dg res vc h6 := ci_y C (fun j hj => k6.2 j (by omega)) Y6
  have go : ∀ X, P_PK_agree h 0 (nI i) = X ↔ (if bi b = 0 then
  B_PK_agree_39 h6
  else
  bnd (P_Cu_sumOfTimes h6 110 111 (3 + i) 298) fun h14 =>
  bnd (gR h14 0 7 11) fun k15 =>
  bnd (gR h14 0 7 14) fun k16 =>
  bnd (gR h14 0 7 15) fun k17 =>
  bnd (gR h14 0 7 16) fun k18 =>
  ob h14 k15 0 (
  bnd (P_Cu_readAffine h14 k15 k16 k17 k18) fun h19 =>
  bnd (gR h19 0 7 15) fun k20 =>
  bnd (gR h19 0 7 6) fun k21 =>
  bnd (P_Li_write h19 k20 k21 0) fun h22 =>
  bnd (pV h22 0 7 7 (.int 32)) fun h23 =>
  bnd (pV h23 0 7 1 (.int 0)) fun h24 =>
  some (.inr (), h24))) = X := by
    intro X
    unfold P_PK_agree
    rw [os_ C.1, bs2 (u_isKey1 C hi hk), if_neg (by decide), bs_ (gI_at C.1 rfl), if_pos (by rw [h65]; rfl), bs_ (gR_at C.1 rfl), bs_ (gR_at C.1 rfl), os_ (cuo_l Y.2.1), bs2 a1, bs_ (gR_at C6.1 rfl), bs_ (gR_at C6.1 rfl), bs_ (gR_at (cuo_l U6) rfl), bs_ (gR_at C6.1 rfl), bs_ (ldR_4 C6.2.2.1 (by omega)), bs_ (gR_at C6.1 rfl), os_ (cuo_l U6)]
  constructor
  · intro nt
    refine ⟨h6, ?_, C6, KQ.ki k6 (by decide)⟩
    have : b = false := by
      cases b with
      | false => rfl
      | true => exact absurd (a4.mp rfl) nt
    rw [go, this, if_pos (show bi false = 0 by decide)]
    rfl
  · intro tk
    have bt : b = true := a4.mpr tk
    have P1 := a5 bt
    obtain ⟨sec, s1, s2⟩ := ci_sec C6 hi hk
    have eD := be_eq 32 s2
    rw [← eD] at hD ⊢
    obtain ⟨D, hDD⟩ : ∃ D, D = be sec 32 := ⟨_, rfl⟩
    obtain ⟨h14, g1, U14, k14, px, py, pz, T, p1, p2, p3⟩ := u_sum Z hr (t := 298) (kf := 111) (kg := 3 + i) (Q := QK φ row) U6 (by decide) Y6.2.2.2.2.1 U6.2.2.2.1 s1 (fun j _ => P1 _ (nib_lt sec j)) (by decide) (by decide) (by omega) (by omega)
    rw [be_0, List.replicate_zero, List.nil_append] at p2
    rw [← hDD] at hD p2 ⊢
    obtain ⟨X, Y', hT⟩ : ∃ X Y', T = some (X, Y') := by
      cases T with
      | none => exact absurd p2 (fun c => ml_nz Z tk.2.2.2 (ml_any Z tk.2.2.2) (Nat.pos_of_ne_zero hD.2) hD.1 c)
      | some a => exact ⟨a.1, a.2, rfl⟩
    obtain ⟨h19, vx, vy, b1, U19, k19, cx, cy, b5⟩ := u_affine Z hr (kx := 302) (ky := 303) U14 (by decide) (by decide) (by decide) (by decide) (by decide) (by decide) p1 (ex_ag Y6.2.2.2.2.2.1 (k14.2 302 (by decide))) (ex_ag Y6.2.2.2.2.2.2 (k14.2 303 (by decide))) p3
    obtain ⟨e1, e2⟩ := b5 X Y' hT
    have e19 : ∀ j, j < 112 ∨ (262 ≤ j ∧ j < 299) ∨ 304 ≤ j → h19[j]? = h6[j]? := fun j hj => (k19.2 j (fun q => by simp at q; omega)).trans (k14.2 j (fun q => by unfold KC at q; simp at q; omega))
    have l19 : h19.length = h6.length := k19.1.trans k14.1
    obtain ⟨A, A1, A2, A3⟩ := cx
    obtain ⟨B, B1, B2, B3⟩ := cy
    have Y19 : CY φ li lj h19 := cy_c Y6 U19 (fun j h1 h2 => e19 j (by omega)) (fun j h1 h2 => e19 j (by omega)) (prw_ag p1.rw (agk k19 (by decide))) ⟨A, A1⟩ ⟨B, B1⟩
    have C19 : CI φ li lj kt tn tl kc ml rl sm row ky dg res vc h19 := ci_y C6 (fun j hj => e19 j (by omega)) Y19
    obtain ⟨w1, g2, v1, v2⟩ := e_write (kt := 104) (a := 302) (at' := 0) (n := 72) (h := h19) (by decide) (by decide) (by decide) C19.2.2.2.1.2.1 A1 A2
    obtain ⟨h22, hh22⟩ : ∃ h22, h22 = h19.set 104 (pB 72 w1) := ⟨_, rfl⟩
    rw [← hh22] at g2
    have k22 : KP [104] h19 h22 := by rw [hh22]; exact KP.st (by simp)
    have r22 : h22[104]? = some (pB 72 w1) := by rw [hh22]; exact hs_ C19.2.2.2.1.2.1
    have C22 : CI φ li lj kt tn tl kc ml rl sm row ky dg w1 vc h22 := ⟨(k22.2 0 (by decide)).trans C19.1, ct_ag C19.2.1 (k22.2 kt (by have := C.2.1.2.1; simp; omega)), ck_ag C19.2.2.1 (agk k22 (by decide)), ⟨(k22.2 103 (by decide)).trans C19.2.2.2.1.1, r22, (k22.2 105 (by decide)).trans C19.2.2.2.1.2.2⟩, cy_ag Y19 (agk k22 (by decide))⟩
    have g4 : pV h22 0 7 7 (.int 32) = some (h22.set 0 (pO 7 (OB kt tl kc ml 32 sm))) := pV0 (j := 7) (v := .int 32) C22.1 (by decide)
    have C23 : CI φ li lj kt tn tl kc ml 32 sm row ky dg w1 vc (h22.set 0 (pO 7 (OB kt tl kc ml 32 sm))) := ci_0 C22 C22.2.1 C22.2.2.1
    obtain ⟨h23, hh23⟩ : ∃ h23, h23 = h22.set 0 (pO 7 (OB kt tl kc ml 32 sm)) := ⟨_, rfl⟩
    rw [← hh23] at g4 C23
    have g5 : pV h23 0 7 1 (.int 0) = some (h23.set 0 (pO 7 (OB kt 0 kc ml 32 sm))) := pV0 (j := 1) (v := .int 0) C23.1 (by decide)
    refine ⟨_, vx, vy, w1, ?_, ci_0 (tl' := 0) (ml' := ml) (rl' := 32) (sm' := sm) C23 ⟨C23.2.1.1, C23.2.1.2.1, Nat.zero_le _, C23.2.1.2.2.2⟩ C23.2.2.1, ⟨by rw [List.length_set, hh23, List.length_set, k22.1, l19, k6.1]; exact Nat.le_refl _, fun j h1 h2 => by rw [List.getElem?_set_ne (by omega), hh23, List.getElem?_set_ne (by omega), k22.2 j (by simp; omega), e19 j (by omega)]; exact k6.2 j (by omega)⟩, A3, ?_, fun k hk2 => by have := v1 k hk2; rw [Nat.zero_add] at this; exact this⟩
    · rw [go, bt, if_neg (show ¬ bi true = 0 by decide), bs_ g1, bs_ (gR_at ((k14.2 0 (by decide)).trans C6.1) rfl), bs_ (gR_at ((k14.2 0 (by decide)).trans C6.1) rfl), bs_ (gR_at ((k14.2 0 (by decide)).trans C6.1) rfl), bs_ (gR_at ((k14.2 0 (by decide)).trans C6.1) rfl), os_ (cuo_l U14), bs_ b1, bs_ (gR_at C19.1 rfl), bs_ (gR_at C19.1 rfl), show P_Li_write h19 302 104 0 = _ from g2, bs_ rfl, bs_ g4, bs_ g5]
    · rw [e1, e2, ← hT]; exact p2
end CCB
