/-! both objects: the law's steps open, agree, sign, verify -/
section JNW
variable {F : Type} {φ : Nat → F} {H : Type} {ψ : Nat → H} {li lj : Int} {kt tn tl kc ml rl : Nat} {sm th : Int32} {row ky dg res X res' : Nat → Int8} {vc : Nat → Int32} {h : HP}
theorem ml_xy [Lean.Grind.Field F] (Z : ZF PP φ) {k : Nat} {P : F × F} {x y x' y' : Nat} (h : ML φ k P (some (φ x, φ y))) (h' : ML φ k P (some (φ x', φ y'))) : φ x = φ x' ∧ φ y = φ y' := by
  have e := ls_uq Z h h'
  injection e with e
  injection e with e1 e2
  exact ⟨e1, e2⟩
theorem s_open [Lean.Grind.Field F] (Z : ZF PP φ) (hr : φ (2 ^ 261) ≠ 0) {L p : Nat} {xs : Nat → Int32} {bu : Nat × Nat} (hp : p + 6 ≤ L) (hL : L ≤ 3072) (J : JN φ li lj tn h) : ∃ h', I_La_3 L xs bu h 0 304 348 (nI p) = some h' ∧ JN φ li lj tn h' := by
  obtain ⟨kt, tl, kc, ml, rl, sm, row, ky, dg, res, vc, X, res', th, C, R, J, g, hg⟩ := J
  obtain ⟨v, hv⟩ : ∃ v, v = xs (p + 1) := ⟨_, rfl⟩
  have pre : I_La_3 L xs bu h 0 304 348 (nI p) = bnd2 (P_La_open h 0 v) fun v3 h2 => ob h2 304 8 (TLv (P_Rm_open h2 304 v) v3) := by
    unfold I_La_3
    rw [show sdI L xs (nI p + 1) = some v from by rw [hv]; exact sd_at (j := 1) hp hL (by decide), bs_ rfl]
    rfl
  rw [pre]
  rcases key_c (x := v) J.1.1 with ⟨i, hi, hvi⟩ | hx
  · have hD := J.2.1 i hi
    obtain ⟨h1, vx, vy, r1, a1, C1, Q1, x1, y1, m1, o1, o2, o3⟩ := u_open Z hr C hi J.1.1 hD
    have R1 := ri_kq R Q1
    obtain ⟨h5, wx, wy, r2, d1, R5, k5, x2, y2, m2, q1, q2, q3⟩ := r_open1 Z R1 hi J.1.1 hD
    obtain ⟨ex, ey⟩ := ml_xy Z m1 m2
    have ex := (zf_ne Z x1 x2).mp ex
    have ey := (zf_ne Z y1 y2).mp ey
    subst ex ey
    refine ⟨h5, ?_, kt, tl, kc, ml, 65, sm, row, ky, dg, r1, vc, X, r2, 0, ci_ki C1 k5, R5, ⟨⟨J.1.1, J.1.2.1, by decide⟩, J.2.1, J.2.2.1, fun k hk => ?_⟩, g, (k5.2 348 (by decide)).trans ((Q1.2 348 (by decide) (by decide)).trans hg)⟩
    · have : P_La_open h 0 v = some (0, h1) := by
        unfold P_La_open
        rw [os_ C.1, hvi, bs2 a1]
      rw [bs2 this, ri_obU R1, hvi]
      exact tl_v d1 R5
    · by_cases c0 : k = 0
      · rw [c0, o1, q1]
      · by_cases c1 : k < 33
        · have e : k = 1 + (k - 1) := by omega
          rw [e, o2 _ (by omega), q2 _ (by omega)]
        · have e : k = 33 + (k - 33) := by omega
          rw [e, o3 _ (by omega), q3 _ (by omega)]
  · obtain ⟨h5, d1, R5, k5⟩ := r_open0 R hx
    refine ⟨h5, ?_, jn_th C J R5 k5 ⟨g, hg⟩⟩
    have : P_La_open h 0 v = some (1, h) := by
      unfold P_La_open P_PK_open
      rw [os_ C.1, os_ C.1, bs2 (u_isKey0 C hx), if_pos rfl]
      rfl
    rw [bs2 this, ri_obU R]
    exact tl_v d1 R5
theorem s_agree [Lean.Grind.Field F] (Z : ZF PP φ) (hr : φ (2 ^ 261) ≠ 0) {L p : Nat} {xs : Nat → Int32} {bu : Nat × Nat} (hp : p + 6 ≤ L) (hL : L ≤ 3072) (J : JN φ li lj tn h) : ∃ h', I_La_4 L xs bu h 0 304 348 (nI p) = some h' ∧ JN φ li lj tn h' := by
  obtain ⟨kt, tl, kc, ml, rl, sm, row, ky, dg, res, vc, X, res', th, C, R, J, g, hg⟩ := J
  have tn1 := ct_tn C.2.1
  have tl6 : tl ≤ 65536 := Nat.le_trans C.2.1.2.2.1 tn1.2
  obtain ⟨v, hv⟩ : ∃ v, v = xs (p + 1) := ⟨_, rfl⟩
  have pre : I_La_4 L xs bu h 0 304 348 (nI p) = bnd2 (P_La_agree h 0 v) fun v3 h2 => ob h2 304 8 (TLv (P_Rm_agree h2 304 v) v3) := by
    unfold I_La_4
    rw [show sdI L xs (nI p + 1) = some v from by rw [hv]; exact sd_at (j := 1) hp hL (by decide), bs_ rfl]
    rfl
  rw [pre]
  rcases key_c (x := v) J.1.1 with ⟨i, hi, hvi⟩ | hx
  · have hD := J.2.1 i hi
    by_cases t : tl = 65
    · obtain ⟨A0, A1⟩ := u_agree Z hr C hi J.1.1 t hD
      by_cases y : TK φ row
      · obtain ⟨h1, vx, vy, r1, a1, C1, Q1, x1, m1, o1⟩ := A1 y
        have R1 := ri_kq R Q1
        obtain ⟨h5, wx, wy, r2, d1, R5, k5, x2, m2, q1⟩ := (r_agree2 Z R1 hi J.1.1 t hD).2 y
        have ex := (zf_ne Z x1 x2).mp (ml_xy Z m1 m2).1
        subst ex
        refine ⟨h5, ?_, kt, 0, kc, ml, 32, sm, row, ky, dg, r1, vc, X, r2, 0, ci_ki C1 k5, R5, ⟨⟨J.1.1, J.1.2.1, by decide⟩, J.2.1, J.2.2.1, fun k hk => by rw [o1 k hk, q1 k hk]⟩, g, (k5.2 348 (by decide)).trans ((Q1.2 348 (by decide) (by decide)).trans hg)⟩
        have : P_La_agree h 0 v = some (0, h1) := by
          unfold P_La_agree
          rw [os_ C.1, hvi, bs2 a1]
        rw [bs2 this, ri_obU R1, hvi]
        exact tl_v d1 R5
      · obtain ⟨h1, a1, C1, Q1⟩ := A0 y
        have R1 := ri_kq R Q1
        obtain ⟨h5, d1, R5, k5⟩ := (r_agree2 Z R1 hi J.1.1 t hD).1 y
        refine ⟨h5, ?_, jn_th C1 J R5 k5 ⟨g, (Q1.2 348 (by decide) (by decide)).trans hg⟩⟩
        have : P_La_agree h 0 v = some (2, h1) := by
          unfold P_La_agree
          rw [os_ C.1, hvi, bs2 a1]
          rfl
        rw [bs2 this, ri_obU R1, hvi]
        exact tl_v d1 R5
    · obtain ⟨h5, d1, R5, k5⟩ := r_agree1 R hi J.1.1 tl6 t
      refine ⟨h5, ?_, jn_th C J R5 k5 ⟨g, hg⟩⟩
      have : P_La_agree h 0 v = some (2, h) := by
        unfold P_La_agree
        rw [os_ C.1, hvi, bs2 (u_agree0 C hi J.1.1 t)]
        rfl
      rw [bs2 this, ri_obU R, hvi]
      exact tl_v d1 R5
  · obtain ⟨h5, d1, R5, k5⟩ := r_agree0 R hx
    refine ⟨h5, ?_, jn_th C J R5 k5 ⟨g, hg⟩⟩
    have : P_La_agree h 0 v = some (1, h) := by
      unfold P_La_agree P_PK_agree
      rw [os_ C.1, os_ C.1, bs2 (u_isKey0 C hx), if_pos rfl]
      rfl
    rw [bs2 this, ri_obU R]
    exact tl_v d1 R5
theorem zD_e (J : JR kc ml rl ky dg res X res') : be dg 32 % NN = zD X ml := by
  unfold zD
  rw [be_eq 32 J.2.2.1]
theorem s_sign [Lean.Grind.Field F] [Lean.Grind.Field H] (Z : ZF PP φ) (Y : ZF NN ψ) (hr : φ (2 ^ 261) ≠ 0) (hs : ψ (2 ^ 261) ≠ 0) {L p : Nat} {xs : Nat → Int32} {bu : Nat × Nat} (hp : p + 6 ≤ L) (hL : L ≤ 3072) (J : JN φ li lj tn h) : ∃ h', I_La_6 L xs bu h 0 304 348 (nI p) = some h' ∧ JN φ li lj tn h' := by
  obtain ⟨kt, tl, kc, ml, rl, sm, row, ky, dg, res, vc, X, res', th, C, R, J, g, hg⟩ := J
  obtain ⟨v, hv⟩ : ∃ v, v = xs (p + 1) := ⟨_, rfl⟩
  have pre : I_La_6 L xs bu h 0 304 348 (nI p) = bnd2 (P_La_sign h 0 v 348) fun v3 h2 => ob h2 304 8 (TLi (P_Rm_sign h2 304 v) v3) := by
    unfold I_La_6
    rw [show sdI L xs (nI p + 1) = some v from by rw [hv]; exact sd_at (j := 1) hp hL (by decide), bs_ rfl]
    rfl
  rw [pre]
  rcases key_c (x := v) J.1.1 with ⟨i, hi, hvi⟩ | hx
  · have hD := J.2.1 i hi
    obtain ⟨h1, R', S, a, b, r1, a1, C1, Q1, l1, l2, s1, w1⟩ := u_sign Z Y hr hs C hi J.1.1 hD
    rw [zD_e J] at w1
    obtain ⟨h2, g', a2, C2, R2, a3, a4⟩ := j_put (Int32.toInt64 (nI (6 + dl (btv R') a + dl (btv S) b))) C1 Q1 R hg
    obtain ⟨h5, R'', S', a', b', r2, d1, R5, k5, l1', l2', s1', w1'⟩ := r_sign1 Z Y R2 hi J.1.1 J.1.2.1 hD
    obtain ⟨e1, e2⟩ := so_uq Z Y _ _ _ _ _ _ _ w1 w1'
    subst e1 e2
    have e3 := ld_uq l1 l1'
    have e4 := ld_uq l2 l2'
    subst e3 e4
    refine ⟨h5, ?_, kt, tl, kc, ml, _, sm + 1, row, ky, dg, r1, vc, X, r2, 0, ci_ki C2 k5, R5, ⟨⟨J.1.1, J.1.2.1, by have := dl_le l1; have := dl_le l2; omega⟩, J.2.1, J.2.2.1, ds_uq s1 s1'⟩, g', (k5.2 348 (by decide)).trans a3⟩
    have : P_La_sign h 0 v 348 = some (0, h2) := by
      unfold P_La_sign
      rw [os_ C.1, hvi, bs2 a1]
      show bnd (stJ _ 348 0 _) _ = _
      rw [bs_ a2]
    rw [bs2 this, ri_obU R2, hvi]
    exact tl_ok d1 R5 ((k5.2 348 (by decide)).trans a3) a4
  · obtain ⟨h5, d1, R5, k5⟩ := r_sign0 R hx
    refine ⟨h5, ?_, jn_th C J R5 k5 ⟨g, hg⟩⟩
    have : P_La_sign h 0 v 348 = some (1, h) := by
      unfold P_La_sign P_PK_sign
      rw [os_ C.1, os_ C.1, bs2 (u_isKey0 C hx), if_pos rfl]
      rfl
    rw [bs2 this, ri_obU R]
    exact tl_th d1 R5 (by decide)
theorem s_verify [Lean.Grind.Field F] [Lean.Grind.Field H] (Z : ZF PP φ) (Y : ZF NN ψ) (hr : φ (2 ^ 261) ≠ 0) (hs : ψ (2 ^ 261) ≠ 0) {L p : Nat} {xs : Nat → Int32} {bu : Nat × Nat} (J : JN φ li lj tn h) : ∃ h', I_La_7 L xs bu h 0 304 348 (nI p) = some h' ∧ JN φ li lj tn h' := by
  obtain ⟨kt, tl, kc, ml, rl, sm, row, ky, dg, res, vc, X, res', th, C, R, J, g, hg⟩ := J
  have tn1 := ct_tn C.2.1
  have tl6 : tl ≤ 65536 := Nat.le_trans C.2.1.2.2.1 tn1.2
  have pre : I_La_7 L xs bu h 0 304 348 (nI p) = bnd2 (P_La_verify h 0 348) fun v3' h2 => ob h2 304 8 (TLi (P_Rm_verify h2 304) v3') := rfl
  rw [pre]
  by_cases t : 65 ≤ tl
  · obtain ⟨h1, c, a1, C1, Q1, w1⟩ := u_verify Z Y hr hs C t
    rw [zD_e J] at w1
    obtain ⟨h2, g', a2, C2, R2, a3, a4⟩ := j_put (Int32.toInt64 (nI c)) C1 Q1 R hg
    obtain ⟨h5, c', d1, R5, k5, w2⟩ := r_verify1 Z Y R2 t tl6 J.1.2.1
    have ec := vc_uq Z Y w1 w2
    subst ec
    refine ⟨h5, ?_, kt, 0, kc, ml, rl, sm, row, ky, dg, res, va_up vc c (vc c + 1), X, res', 0, ci_ki C2 k5, R5, J, g', (k5.2 348 (by decide)).trans a3⟩
    have : P_La_verify h 0 348 = some (0, h2) := by
      unfold P_La_verify
      rw [os_ C.1, bs2 a1]
      show bnd (stJ _ 348 0 _) _ = _
      rw [bs_ a2]
    rw [bs2 this, ri_obU R2]
    exact tl_ok d1 R5 ((k5.2 348 (by decide)).trans a3) a4
  · obtain ⟨h5, d1, R5, k5⟩ := r_verify0 R t
    refine ⟨h5, ?_, jn_th C J R5 k5 ⟨g, hg⟩⟩
    have : P_La_verify h 0 348 = some (1, h) := by
      unfold P_La_verify P_PK_verify
      rw [os_ C.1, bs_ (gI_at C.1 rfl), if_neg (show ¬ (65 : Int32) ≤ nI tl from nI_ge (b := 65) (by omega) (by decide))]
      rfl
    rw [bs2 this, ri_obU R]
    exact tl_th d1 R5 (by decide)
/-- one round of the law's loop -/
theorem s_it [Lean.Grind.Field F] [Lean.Grind.Field H] (Z : ZF PP φ) (Y : ZF NN ψ) (hr : φ (2 ^ 261) ≠ 0) (hs : ψ (2 ^ 261) ≠ 0) {L p : Nat} {xs : Nat → Int32} (hp : p + 6 ≤ L) (hL : L ≤ 3072) (J : JN φ li lj tn h) : ∃ tn' h', tn ≤ tn' ∧ tn' ≤ 65536 ∧ (∀ bu : Nat × Nat, 1 ≤ bu.1 → 6 + 2 * tn' ≤ bu.2 + 2 * tn → IT_La L xs bu h 0 304 348 (nI p) = some h') ∧ JN φ li lj tn' h' := by
  have t6 : tn ≤ 65536 := by
    obtain ⟨kt, tl, kc, ml, rl, sm, row, ky, dg, res, vc, X, res', th, C, _⟩ := J
    exact (ct_tn C.2.1).2
  obtain ⟨v, hv⟩ : ∃ v, v = xs p := ⟨_, rfl⟩
  have e0 : sdI L xs (nI p) = some v := by
    rw [hv]
    unfold sdI
    rw [nI_clamp (by omega), if_neg (by
      intro c
      rcases c with c | c
      · exact nI_pos (by omega) c
      · omega)]
  unfold IT_La
  simp only [bs_ e0]
  by_cases c0 : v &&& 15 = 0
  · simp only [if_pos c0]
    exact s_feed hp hL J
  simp only [if_neg c0]
  by_cases c1 : v &&& 15 = 1
  · simp only [if_pos c1]
    obtain ⟨h', a, b⟩ := s_end (L := L) (p := p) (xs := xs) (bu := (0, 0)) hp hL J
    exact ⟨tn, h', Nat.le_refl _, t6, fun _ _ _ => a, b⟩
  simp only [if_neg c1]
  by_cases c2 : v &&& 15 = 2
  · simp only [if_pos c2]
    obtain ⟨h', a, b⟩ := s_key (L := L) (p := p) (xs := xs) (bu := (0, 0)) J
    exact ⟨tn, h', Nat.le_refl _, t6, fun _ _ _ => a, b⟩
  simp only [if_neg c2]
  by_cases c3 : v &&& 15 = 3
  · simp only [if_pos c3]
    obtain ⟨h', a, b⟩ := s_open Z hr (L := L) (p := p) (xs := xs) (bu := (0, 0)) hp hL J
    exact ⟨tn, h', Nat.le_refl _, t6, fun _ _ _ => a, b⟩
  simp only [if_neg c3]
  by_cases c4 : v &&& 15 = 4
  · simp only [if_pos c4]
    obtain ⟨h', a, b⟩ := s_agree Z hr (L := L) (p := p) (xs := xs) (bu := (0, 0)) hp hL J
    exact ⟨tn, h', Nat.le_refl _, t6, fun _ _ _ => a, b⟩
  simp only [if_neg c4]
  by_cases c5 : v &&& 15 = 5
  · simp only [if_pos c5]
    obtain ⟨h', a, b⟩ := s_message (L := L) (p := p) (xs := xs) (bu := (0, 0)) J
    exact ⟨tn, h', Nat.le_refl _, t6, fun _ _ _ => a, b⟩
  simp only [if_neg c5]
  by_cases c6 : v &&& 15 = 6
  · simp only [if_pos c6]
    obtain ⟨h', a, b⟩ := s_sign Z Y hr hs (L := L) (p := p) (xs := xs) (bu := (0, 0)) hp hL J
    exact ⟨tn, h', Nat.le_refl _, t6, fun _ _ _ => a, b⟩
  simp only [if_neg c6]
  by_cases c7 : v &&& 15 = 7
  · simp only [if_pos c7]
    obtain ⟨h', a, b⟩ := s_verify Z Y hr hs (L := L) (p := p) (xs := xs) (bu := (0, 0)) J
    exact ⟨tn, h', Nat.le_refl _, t6, fun _ _ _ => a, b⟩
  simp only [if_neg c7]
  by_cases c8 : v &&& 15 = 8
  · simp only [if_pos c8]
    exact s_back hp hL J
  simp only [if_neg c8]
  by_cases c9 : v &&& 15 = 9
  · simp only [if_pos c9]
    obtain ⟨h', a, b⟩ := s_result (L := L) (p := p) (xs := xs) (bu := (0, 0)) hp hL J
    exact ⟨tn, h', Nat.le_refl _, t6, fun _ _ _ => a, b⟩
  simp only [if_neg c9]
  by_cases c10 : v &&& 15 = 10
  · simp only [if_pos c10]
    obtain ⟨h', a, b⟩ := s_count (L := L) (p := p) (xs := xs) (bu := (0, 0)) hp hL J
    exact ⟨tn, h', Nat.le_refl _, t6, fun _ _ _ => a, b⟩
  simp only [if_neg c10]
  exact ⟨tn, h, Nat.le_refl _, t6, fun _ _ _ => rfl, J⟩
theorem lm_6 {L p : Nat} (hL : L ≤ 3072) (hp : p ≤ 4000) : Int32.ofNat L - 6 < nI p ↔ L < p + 6 := by
  have e1 : (nI p).toInt = p := nI_toInt (by omega)
  have e2 : (nI L).toInt = L := nI_toInt (by omega)
  rw [Int32.lt_iff_toInt_lt, e1, Int32.toInt_sub, show (Int32.ofNat L).toInt = L from e2, show (6 : Int32).toInt = 6 by decide, Int.bmod_def]
  split <;> omega
/-- the law's loop, with room enough -/
theorem s_ll [Lean.Grind.Field F] [Lean.Grind.Field H] (Z : ZF PP φ) (Y : ZF NN ψ) (hr : φ (2 ^ 261) ≠ 0) (hs : ψ (2 ^ 261) ≠ 0) {L : Nat} {xs : Nat → Int32} (hL : L ≤ 3072) : ∀ (r p tn : Nat) (h : HP), L < p + 6 * r + 6 → p ≤ 4000 → JN φ li lj tn h → ∃ bs : List (Nat × Nat), LL_La L xs 0 304 348 bs h (nI p) = some () ∧ (bs.map (fun b => b.1)).sum ≤ r ∧ (bs.map (fun b => b.2)).sum + 2 * tn ≤ 6 * r + 131072 := by
  intro r
  induction r with
  | zero =>
    intro p tn h h1 h2 J
    have t6 : tn ≤ 65536 := by
      obtain ⟨kt, tl, kc, ml, rl, sm, row, ky, dg, res, vc, X, res', th, C, _⟩ := J
      exact (ct_tn C.2.1).2
    refine ⟨[], ?_, Nat.le_refl _, by simp; omega⟩
    unfold LL_La
    rw [if_pos ((lm_6 hL h2).mpr (by omega))]
  | succ r ih =>
    intro p tn h h1 h2 J
    by_cases z : L < p + 6
    · have t6 : tn ≤ 65536 := by
        obtain ⟨kt, tl, kc, ml, rl, sm, row, ky, dg, res, vc, X, res', th, C, _⟩ := J
        exact (ct_tn C.2.1).2
      refine ⟨[], ?_, Nat.zero_le _, by simp; omega⟩
      unfold LL_La
      rw [if_pos ((lm_6 hL h2).mpr z)]
    · obtain ⟨tn', h', a1, a2, a3, J'⟩ := s_it Z Y hr hs (p := p) (xs := xs) (by omega) hL J
      obtain ⟨bs, b1, b2, b3⟩ := ih (p + 6) tn' h' (by omega) (by omega) J'
      refine ⟨(1, 6 + 2 * (tn' - tn)) :: bs, ?_, ?_, ?_⟩
      · unfold LL_La
        rw [if_neg (fun c => z ((lm_6 hL h2).mp c)), gs_ ⟨Nat.le_refl _, by show 6 ≤ 6 + 2 * (tn' - tn); omega⟩, bs_ (a3 _ (Nat.le_refl _) (by show 6 + 2 * tn' ≤ 6 + 2 * (tn' - tn) + 2 * tn; omega)), show nI p + Int32.ofInt 6 = nI (p + 6) from nI_add p 6]
        exact b1
      · simp only [List.map_cons, List.sum_cons]; omega
      · simp only [List.map_cons, List.sum_cons]; omega
end JNW
