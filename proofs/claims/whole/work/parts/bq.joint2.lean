/-! both objects: the law's steps feed, key, back -/
section JNV
variable {F : Type} {φ : Nat → F} {H : Type} {ψ : Nat → H} {li lj : Int} {kt tn tl kc ml rl : Nat} {sm th : Int32} {row ky dg res X res' : Nat → Int8} {vc : Nat → Int32} {h : HP}
theorem jl_ {α : Type} {k : Nat} {c : α} {l : List α} (e : l[k]? = some c) : k + 1 ≤ l.length := (List.getElem?_eq_some_iff.mp e).1
/-- the class answered: its answer is put, the reference's object is as it was -/
theorem j_put {tl' kc' ml' rl' : Nat} {sm' : Int32} {row' ky' : Nat → Int8} {vc' : Nat → Int32} {h1 : HP} {g : Nat → Int64} [Lean.Grind.Field F] (v : Int64) (C : CI φ li lj kt tn tl kc ml rl sm row ky dg res vc h1) (Q : KQ h h1) (R : RI th tl' kc' ml' rl' sm' row' ky' X res' vc' h) (hg : h[348]? = some (pJ 1 g)) : ∃ h2 g', stJ h1 348 0 v = some h2 ∧ CI φ li lj kt tn tl kc ml rl sm row ky dg res vc h2 ∧ RI th tl' kc' ml' rl' sm' row' ky' X res' vc' h2 ∧ h2[348]? = some (pJ 1 g') ∧ g' 0 = v := by
  obtain ⟨h2, g', a1, C2, a3, a4, a5⟩ := la_at v C ((Q.2 348 (by decide) (by decide)).trans hg)
  exact ⟨h2, g', a1, C2, ri_ag (ri_kq R Q) a5, a3, a4⟩
theorem nI_m1_ {x : Int32} (c : ¬ x < -1) (d : x < 0) : x = -1 := by
  rw [Int32.lt_iff_toInt_lt] at c d
  have e1 : (-1 : Int32).toInt = -1 := by decide
  have e2 : (0 : Int32).toInt = 0 := by decide
  rw [e1] at c
  rw [e2] at d
  exact Int32.toInt_inj.mp (by rw [e1]; omega)
theorem s_feed [Lean.Grind.Field F] {L p : Nat} {xs : Nat → Int32} (hp : p + 6 ≤ L) (hL : L ≤ 3072) (J : JN φ li lj tn h) : ∃ tn' h', tn ≤ tn' ∧ tn' ≤ 65536 ∧ (∀ bu : Nat × Nat, 1 ≤ bu.1 → 6 + 2 * tn' ≤ bu.2 + 2 * tn → I_La_0 L xs bu h 0 304 348 (nI p) = some h') ∧ JN φ li lj tn' h' := by
  obtain ⟨kt, tl, kc, ml, rl, sm, row, ky, dg, res, vc, X, res', th, C, R, J, g, hg⟩ := J
  have tn1 := ct_tn C.2.1
  have tl6 : tl ≤ 65536 := Nat.le_trans C.2.1.2.2.1 tn1.2
  obtain ⟨v1, hv1⟩ : ∃ v, v = xs (p + 1) := ⟨_, rfl⟩
  obtain ⟨v2, hv2⟩ : ∃ v, v = xs (p + 2) := ⟨_, rfl⟩
  obtain ⟨v3, hv3⟩ : ∃ v, v = xs (p + 3) := ⟨_, rfl⟩
  obtain ⟨v4, hv4⟩ : ∃ v, v = xs (p + 4) := ⟨_, rfl⟩
  obtain ⟨v5, hv5⟩ : ∃ v, v = xs (p + 5) := ⟨_, rfl⟩
  have pre : ∀ bu, I_La_0 L xs bu h 0 304 348 (nI p) = bnd2 (P_La_feed bu h 0 v1 v2 v3 v4 v5 348) fun v3' h2 => ob h2 304 8 (TLi (P_Rm_feed h2 304 v1 v2 v3 v4 v5) v3') := by
    intro bu
    unfold I_La_0
    rw [show sdI L xs (nI p + 1) = some v1 from by rw [hv1]; exact sd_at (j := 1) hp hL (by decide), show sdI L xs (nI p + 2) = some v2 from by rw [hv2]; exact sd_at (j := 2) hp hL (by decide), show sdI L xs (nI p + 3) = some v3 from by rw [hv3]; exact sd_at (j := 3) hp hL (by decide), show sdI L xs (nI p + 4) = some v4 from by rw [hv4]; exact sd_at (j := 4) hp hL (by decide), show sdI L xs (nI p + 5) = some v5 from by rw [hv5]; exact sd_at (j := 5) hp hL (by decide)]
    rfl
  by_cases z : tl + 20 ≤ 65536
  · obtain ⟨tn', kt', h1, b1, b2, b3, C1, Q1⟩ := u_feed C (jl_ hg) z v1 v2 v3 v4 v5
    obtain ⟨h2, g', a1, C2, R2, a3, a4⟩ := j_put (Int32.toInt64 (nI (tl + 20))) C1 Q1 R hg
    obtain ⟨h5, d1, R5, k5⟩ := r_feed1 R2 z v1 v2 v3 v4 v5
    refine ⟨tn', h5, b1, b2, fun bu e1 e2 => ?_, kt', tl + 20, kc, ml, rl, sm, fd5 row tl v1 v2 v3 v4 v5, ky, dg, res, vc, X, res', 0, ci_ki C2 k5, R5, J, g', (k5.2 348 (by decide)).trans a3⟩
    have : P_La_feed bu h 0 v1 v2 v3 v4 v5 348 = some (0, h2) := by
      unfold P_La_feed
      rw [os_ C.1, bs2 (b3 bu e1 e2)]
      show bnd (stJ _ 348 0 _) _ = _
      rw [bs_ a1]
    rw [pre, bs2 this, ri_obU R2]
    exact tl_ok d1 R5 ((k5.2 348 (by decide)).trans a3) a4
  · obtain ⟨h5, d1, R5, k5⟩ := r_feed0 R tl6 z v1 v2 v3 v4 v5
    refine ⟨tn, h5, Nat.le_refl _, tn1.2, fun bu e1 e2 => ?_, jn_th C J R5 k5 ⟨g, hg⟩⟩
    have : P_La_feed bu h 0 v1 v2 v3 v4 v5 348 = some (1, h) := by
      unfold P_La_feed P_PK_feed
      rw [os_ C.1, bs_ (gI_at C.1 rfl), show nI tl + 20 = nI (tl + 20) from nI_add tl 20, if_neg (show ¬ nI (tl + 20) ≤ 65536 from nI_ge (a := 65536) (by omega) (by omega)), gs_ ⟨e1, by omega⟩]
      rfl
    rw [pre, bs2 this, ri_obU R]
    exact tl_th d1 R5 (by decide)
theorem s_back [Lean.Grind.Field F] {L p : Nat} {xs : Nat → Int32} (hp : p + 6 ≤ L) (hL : L ≤ 3072) (J : JN φ li lj tn h) : ∃ tn' h', tn ≤ tn' ∧ tn' ≤ 65536 ∧ (∀ bu : Nat × Nat, 1 ≤ bu.1 → 6 + 2 * tn' ≤ bu.2 + 2 * tn → I_La_8 L xs bu h 0 304 348 (nI p) = some h') ∧ JN φ li lj tn' h' := by
  obtain ⟨kt, tl, kc, ml, rl, sm, row, ky, dg, res, vc, X, res', th, C, R, J, g, hg⟩ := J
  have tn1 := ct_tn C.2.1
  have tl6 : tl ≤ 65536 := Nat.le_trans C.2.1.2.2.1 tn1.2
  have rl7 := J.1.2.2
  obtain ⟨v1, hv1⟩ : ∃ v, v = xs (p + 1) := ⟨_, rfl⟩
  obtain ⟨v2, hv2⟩ : ∃ v, v = xs (p + 2) := ⟨_, rfl⟩
  have pre : ∀ bu, I_La_8 L xs bu h 0 304 348 (nI p) = bnd2 (P_La_back bu h 0 v1 v2 348) fun v3' h2 => ob h2 304 8 (TLi (P_Rm_back h2 304 v1 v2) v3') := by
    intro bu
    unfold I_La_8
    rw [show sdI L xs (nI p + 1) = some v1 from by rw [hv1]; exact sd_at (j := 1) hp hL (by decide), show sdI L xs (nI p + 2) = some v2 from by rw [hv2]; exact sd_at (j := 2) hp hL (by decide)]
    rfl
  by_cases c : v1 < -1
  · obtain ⟨h5, d1, R5, k5⟩ := r_back0 R (x := v1) (w := v2) (Or.inl c)
    refine ⟨tn, h5, Nat.le_refl _, tn1.2, fun bu e1 e2 => ?_, jn_th C J R5 k5 ⟨g, hg⟩⟩
    have : P_La_back bu h 0 v1 v2 348 = some (1, h) := by
      unfold P_La_back P_PK_back B_PK_back_13
      rw [os_ C.1, if_pos c, gs_ ⟨e1, by omega⟩]
      rfl
    rw [pre, bs2 this, ri_obU R]
    exact tl_th d1 R5 (by decide)
  by_cases d : v1 < nI rl
  · by_cases z : tl + rl ≤ 65536
    · have hx : v1 = -1 ∨ ∃ i, i < rl ∧ v1 = nI i := by
        by_cases n : v1 < 0
        · exact Or.inl (nI_m1_ c n)
        · obtain ⟨i, i1, i2⟩ := nI_of n
          exact Or.inr ⟨i, by rw [i2] at d; exact (nI_ltI i1 (by omega)).mp d, i2⟩
      obtain ⟨tn', kt', h1, row', b1, b2, b3, C1, Q1, o1, o2⟩ := u_back C (jl_ hg) z rl7 v1 v2 hx
      obtain ⟨h2, g', a1, C2, R2, a3, a4⟩ := j_put (Int32.toInt64 (nI (tl + rl))) C1 Q1 R hg
      obtain ⟨h5, row'', d1, R5, k5, q1, q2⟩ := r_back1 R2 z rl7 v1 v2 hx
      have er : row'' = row' := by
        funext k
        by_cases y : k < tl ∨ tl + rl ≤ k
        · rw [q1 k y, o1 k y]
        · have e0 : k = tl + (k - tl) := by omega
          have e1 : k - tl < rl := by omega
          rw [e0, q2 _ e1, o2 _ e1, J.2.2.2 _ e1]
      rw [er] at R5
      refine ⟨tn', h5, b1, b2, fun bu e1 e2 => ?_, kt', tl + rl, kc, ml, rl, sm, row', ky, dg, res, vc, X, res', 0, ci_ki C2 k5, R5, J, g', (k5.2 348 (by decide)).trans a3⟩
      have : P_La_back bu h 0 v1 v2 348 = some (0, h2) := by
        unfold P_La_back
        rw [os_ C.1, bs2 (b3 bu e1 e2)]
        show bnd (stJ _ 348 0 _) _ = _
        rw [bs_ a1]
      rw [pre, bs2 this, ri_obU R2]
      exact tl_ok d1 R5 ((k5.2 348 (by decide)).trans a3) a4
    · obtain ⟨h5, d1, R5, k5⟩ := r_back2 R (w := v2) c d tl6 rl7 z
      refine ⟨tn, h5, Nat.le_refl _, tn1.2, fun bu e1 e2 => ?_, jn_th C J R5 k5 ⟨g, hg⟩⟩
      have : P_La_back bu h 0 v1 v2 348 = some (2, h) := by
        unfold P_La_back P_PK_back
        rw [os_ C.1, if_neg c, bs_ (gI_at C.1 rfl), if_pos d, bs_ (gI_at C.1 rfl), bs_ (gI_at C.1 rfl), nI_add, if_neg (show ¬ nI (tl + rl) ≤ 65536 from nI_ge (a := 65536) (by omega) (by omega)), gs_ ⟨e1, by omega⟩]
        rfl
      rw [pre, bs2 this, ri_obU R]
      exact tl_th d1 R5 (by decide)
  · obtain ⟨h5, d1, R5, k5⟩ := r_back0 R (x := v1) (w := v2) (Or.inr ⟨c, d⟩)
    refine ⟨tn, h5, Nat.le_refl _, tn1.2, fun bu e1 e2 => ?_, jn_th C J R5 k5 ⟨g, hg⟩⟩
    have : P_La_back bu h 0 v1 v2 348 = some (1, h) := by
      unfold P_La_back P_PK_back B_PK_back_13
      rw [os_ C.1, if_neg c, bs_ (gI_at C.1 rfl), if_neg d, gs_ ⟨e1, by omega⟩]
      rfl
    rw [pre, bs2 this, ri_obU R]
    exact tl_th d1 R5 (by decide)
theorem s_key [Lean.Grind.Field F] {L p : Nat} {xs : Nat → Int32} {bu : Nat × Nat} (J : JN φ li lj tn h) : ∃ h', I_La_2 L xs bu h 0 304 348 (nI p) = some h' ∧ JN φ li lj tn h' := by
  obtain ⟨kt, tl, kc, ml, rl, sm, row, ky, dg, res, vc, X, res', th, C, R, J, g, hg⟩ := J
  have tn1 := ct_tn C.2.1
  have tl6 : tl ≤ 65536 := Nat.le_trans C.2.1.2.2.1 tn1.2
  have pre : I_La_2 L xs bu h 0 304 348 (nI p) = bnd2 (P_La_key h 0 348) fun v3' h2 => ob h2 304 8 (TLi (P_Rm_key h2 304) v3') := rfl
  rw [pre]
  by_cases t : tl = 32
  · obtain ⟨h1, C1, Q1, c1, c2, c3⟩ := u_key C J.1.1 t
    by_cases z : rng (be row 32)
    · by_cases y : kc = 100
      · obtain ⟨h5, d1, R5, k5⟩ := (r_key1 (ri_kq R Q1) J.1.1 t).2.1 z y
        refine ⟨h5, ?_, jn_th C1 J R5 k5 ⟨g, (Q1.2 348 (by decide) (by decide)).trans hg⟩⟩
        have : P_La_key h 0 348 = some (2, h1) := by
          unfold P_La_key
          rw [os_ C.1, bs2 (c2 z y)]
          rfl
        rw [bs2 this, ri_obU (ri_kq R Q1)]
        exact tl_th d1 R5 (by decide)
      · have y' : kc < 100 := by have := J.1.1; omega
        obtain ⟨h1, e1, Q1, f1⟩ := c3 z y'
        obtain ⟨h2, g', a1, a3, a4, a5⟩ := la_put (Int32.toInt64 (nI kc)) ((Q1.2 348 (by decide) (by decide)).trans hg)
        have R2 : RI th tl kc ml rl sm row ky X res' vc h2 := ri_ag (ri_kq R Q1) (fun j h1 h2 => a5 j (by omega))
        obtain ⟨h5, ky', d1, R5, k5, q1, q2⟩ := (r_key1 R2 J.1.1 t).2.2 z y'
        have C2 : CI φ li lj kt tn 0 (kc + 1) ml rl sm row ky' dg res vc h2 := ci_fr (f1 ky' q1 q2) (fun j hj => a5 j (by omega))
        refine ⟨h5, ?_, kt, 0, kc + 1, ml, rl, sm, row, ky', dg, res, vc, X, res', 0, ci_ki C2 k5, R5, ⟨⟨y', J.1.2⟩, fun i hi => ?_, J.2.2⟩, g', (k5.2 348 (by decide)).trans a3⟩
        · have : P_La_key h 0 348 = some (0, h2) := by
            unfold P_La_key
            rw [os_ C.1, bs2 e1]
            show bnd (stJ _ 348 0 _) _ = _
            rw [bs_ a1]
          rw [bs2 this, ri_obU R2]
          exact tl_ok d1 R5 ((k5.2 348 (by decide)).trans a3) a4
        · by_cases w : i < kc
          · rw [be_eq 32 (g := fun k => ky (32 * i + k)) (fun k hk => q2 _ (by omega))]
            exact J.2.1 i w
          · have : i = kc := by omega
            subst this
            rw [be_eq 32 (g := row) (fun k hk => q1 k hk)]
            exact z
    · obtain ⟨h5, d1, R5, k5⟩ := (r_key1 (ri_kq R Q1) J.1.1 t).1 z
      refine ⟨h5, ?_, jn_th C1 J R5 k5 ⟨g, (Q1.2 348 (by decide) (by decide)).trans hg⟩⟩
      have : P_La_key h 0 348 = some (1, h1) := by
        unfold P_La_key
        rw [os_ C.1, bs2 (c1 z)]
        rfl
      rw [bs2 this, ri_obU (ri_kq R Q1)]
      exact tl_th d1 R5 (by decide)
  · obtain ⟨h5, d1, R5, k5⟩ := r_key0 R tl6 t
    refine ⟨h5, ?_, jn_th C J R5 k5 ⟨g, hg⟩⟩
    have : P_La_key h 0 348 = some (1, h) := by
      unfold P_La_key P_PK_key
      rw [os_ C.1, bs_ (gI_at C.1 rfl), if_neg (show ¬ nI tl = 32 from fun c => t ((nI_eq (b := 32) (by omega) (by decide)).mp c))]
      rfl
    rw [bs2 this, ri_obU R]
    exact tl_th d1 R5 (by decide)
end JNV
