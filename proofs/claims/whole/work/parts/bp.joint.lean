/-! both objects: what holds between calls; the law's steps end, message, result, count -/
section JNT
variable {F : Type} {φ : Nat → F} {H : Type} {ψ : Nat → H} {li lj : Int} {kt tn tl kc ml rl : Nat} {sm th : Int32} {row ky dg res X res' : Nat → Int8} {vc : Nat → Int32} {h : HP}
def JR (kc ml rl : Nat) (ky dg res X res' : Nat → Int8) : Prop := (kc ≤ 100 ∧ ml ≤ 65536 ∧ rl ≤ 72) ∧ (∀ i, i < kc → rng (be (fun k => ky (32 * i + k)) 32)) ∧ (∀ k, k < 32 → dg k = dgs (fun _ => 0) (hs (XP X ml) ((ml + 72) / 64)) 32 k) ∧ ∀ k, k < rl → res k = res' k
def JN [Lean.Grind.Field F] (φ : Nat → F) (li lj : Int) (tn : Nat) (h : HP) : Prop := ∃ kt tl kc ml rl sm row ky dg res vc X res' th, CI φ li lj kt tn tl kc ml rl sm row ky dg res vc h ∧ RI th tl kc ml rl sm row ky X res' vc h ∧ JR kc ml rl ky dg res X res' ∧ ∃ g, h[348]? = some (pJ 1 g)
theorem ri_kq {h' : HP} (R : RI th tl kc ml rl sm row ky X res vc h) (k : KQ h h') : RI th tl kc ml rl sm row ky X res vc h' := ri_ag R (fun j h1 h2 => k.2 j h1 (by omega))
theorem ci_ki [Lean.Grind.Field F] {h' : HP} (C : CI φ li lj kt tn tl kc ml rl sm row ky dg res vc h) (k : KI 304 348 h h') : CI φ li lj kt tn tl kc ml rl sm row ky dg res vc h' := ci_fr C (fun j hj => k.2 j (by omega))
theorem la_put {g : Nat → Int64} (v : Int64) (hg : h[348]? = some (pJ 1 g)) : ∃ h' g', stJ h 348 0 v = some h' ∧ h'[348]? = some (pJ 1 g') ∧ g' 0 = v ∧ ∀ j, j ≠ 348 → h'[j]? = h[j]? :=
  ⟨h.set 348 (pJ 1 (va_up g 0 v)), va_up g 0 v, tJ_in 0 hg rfl (by decide) (by decide), hs_ hg, up_s, fun _ hj => List.getElem?_set_ne (Ne.symm hj)⟩
def TLi (A : Option (Int32 × HP)) (v3 : Int32) : Option HP := bnd2 A fun v6 h5 => ob h5 304 8 (bnd2 (P_Rm_thrown h5 304) fun v8 h7 => if v8 = v3 then if v3 = 0 then bnd (ldJ h7 348 0) fun v9 => if lg_cmp v9 (Int32.toInt64 v6) = 0 then some h7 else none else some h7 else none)
def TLv (A : Option HP) (v3 : Int32) : Option HP := bnd A fun h5 => ob h5 304 8 (bnd2 (P_Rm_thrown h5 304) fun v7 h6 => if v7 = v3 then some h6 else none)
theorem lg_rf (x : Int64) : lg_cmp x x = 0 := by unfold lg_cmp; simp
theorem tl_ok {A : Option (Int32 × HP)} {r : Int32} {h5 : HP} {g : Nat → Int64} (e : A = some (r, h5)) (R : RI 0 tl kc ml rl sm row ky X res vc h5) (hg : h5[348]? = some (pJ 1 g)) (g0 : g 0 = Int32.toInt64 r) : TLi A 0 = some h5 := by
  unfold TLi
  rw [bs2 e, ri_obU R, bs2 (r_thrown R), if_pos rfl, if_pos rfl, show ldJ h5 348 0 = some (g 0) from sJ_in 0 hg rfl (by decide) (by decide), bs_ rfl, g0, if_pos (lg_rf _)]
theorem tl_th {A : Option (Int32 × HP)} {r c : Int32} {h5 : HP} (e : A = some (r, h5)) (R : RI c tl kc ml rl sm row ky X res vc h5) (hc : c ≠ 0) : TLi A c = some h5 := by
  unfold TLi
  rw [bs2 e, ri_obU R, bs2 (r_thrown R), if_pos rfl, if_neg hc]
theorem tl_v {A : Option HP} {c : Int32} {h5 : HP} (e : A = some h5) (R : RI c tl kc ml rl sm row ky X res vc h5) : TLv A c = some h5 := by
  unfold TLv
  rw [bs_ e, ri_obU R, bs2 (r_thrown R), if_pos rfl]
theorem sd_at {L p j : Nat} {xs : Nat → Int32} (hp : p + 6 ≤ L) (hL : L ≤ 3072) (hj : j < 6) : sdI L xs (nI p + nI j) = some (xs (p + j)) := by
  unfold sdI
  rw [nI_add, nI_clamp (by omega), if_neg (by
    intro c
    rcases c with c | c
    · exact nI_pos (by omega) c
    · omega)]
/-- the class threw: its object is as it was, the reference failed alike -/
theorem jn_th [Lean.Grind.Field F] {th' : Int32} {h2 h5 : HP} (C : CI φ li lj kt tn tl kc ml rl sm row ky dg res vc h2) (J : JR kc ml rl ky dg res X res') (R : RI th' tl kc ml rl sm row ky X res' vc h5) (k : KI 304 348 h2 h5) (hg : ∃ g, h2[348]? = some (pJ 1 g)) : JN φ li lj tn h5 :=
  ⟨kt, tl, kc, ml, rl, sm, row, ky, dg, res, vc, X, res', th', ci_ki C k, R, J, by rw [k.2 348 (by decide)]; exact hg⟩
theorem la_at [Lean.Grind.Field F] {h1 : HP} {g : Nat → Int64} (v : Int64) (C : CI φ li lj kt tn tl kc ml rl sm row ky dg res vc h1) (hg : h1[348]? = some (pJ 1 g)) : ∃ h2 g', stJ h1 348 0 v = some h2 ∧ CI φ li lj kt tn tl kc ml rl sm row ky dg res vc h2 ∧ h2[348]? = some (pJ 1 g') ∧ g' 0 = v ∧ ag 304 348 h1 h2 := by
  obtain ⟨h2, g', a, b, c, d⟩ := la_put v hg
  exact ⟨h2, g', a, ci_fr C (fun j hj => d j (by omega)), b, c, fun j h1 h2 => d j (by omega)⟩
theorem s_end [Lean.Grind.Field F] {L p : Nat} {xs : Nat → Int32} {bu : Nat × Nat} (hp : p + 6 ≤ L) (hL : L ≤ 3072) (J : JN φ li lj tn h) : ∃ h', I_La_1 L xs bu h 0 304 348 (nI p) = some h' ∧ JN φ li lj tn h' := by
  obtain ⟨kt, tl, kc, ml, rl, sm, row, ky, dg, res, vc, X, res', th, C, R, J, g, hg⟩ := J
  have tl6 : tl ≤ 65536 := Nat.le_trans C.2.1.2.2.1 (ct_tn C.2.1).2
  obtain ⟨v, hv⟩ : ∃ v, v = xs (p + 1) := ⟨_, rfl⟩
  have pre : I_La_1 L xs bu h 0 304 348 (nI p) = bnd2 (P_La_end h 0 v 348) fun v3 h2 => ob h2 304 8 (TLi (P_Rm_end h2 304 v) v3) := by
    unfold I_La_1
    rw [show sdI L xs (nI p + 1) = some v from by rw [hv]; exact sd_at (j := 1) hp hL (by decide), bs_ rfl]
    rfl
  rw [pre]
  by_cases z : v < 0
  · obtain ⟨h5, a, b, c⟩ := r_end0 R (x := v) (Or.inl z)
    refine ⟨h5, ?_, jn_th C J b c ⟨g, hg⟩⟩
    have : P_La_end h 0 v 348 = some (1, h) := by
      unfold P_La_end P_PK_end
      rw [os_ C.1, if_pos z]; rfl
    rw [bs2 this, ri_obU R]
    exact tl_th a b (by decide)
  · by_cases y : v ≤ nI tl
    · obtain ⟨m, m1, m2⟩ := nI_of z
      have m3 : m ≤ tl := by rw [m2] at y; exact (nI_leI m1 (by omega)).mp y
      have p1 : pV h 0 7 1 (.int (nI m)) = some (h.set 0 (pO 7 (OB kt m kc ml rl sm))) := pV0 (j := 1) (v := .int (nI m)) C.1 (by decide)
      have C1 : CI φ li lj kt tn m kc ml rl sm row ky dg res vc (h.set 0 (pO 7 (OB kt m kc ml rl sm))) := ci_0 C ⟨C.2.1.1, C.2.1.2.1, by have := C.2.1.2.2.1; omega, C.2.1.2.2.2⟩ C.2.2.1
      obtain ⟨h2, g', a1, C2, a3, a4, a5⟩ := la_at (Int32.toInt64 (nI m)) C1 ((List.getElem?_set_ne (by decide)).trans hg)
      have R2 : RI th tl kc ml rl sm row ky X res' vc h2 := ri_ag R (fun j h1 h2 => (a5 j h1 h2).trans (List.getElem?_set_ne (by omega)))
      obtain ⟨h5, b1, b2, b3⟩ := r_end1 R2 m3 tl6
      refine ⟨h5, ?_, kt, m, kc, ml, rl, sm, row, ky, dg, res, vc, X, res', 0, ci_ki C2 b3, b2, J, g', (b3.2 348 (by decide)).trans a3⟩
      have : P_La_end h 0 v 348 = some (0, h2) := by
        unfold P_La_end P_PK_end
        rw [os_ C.1, if_neg z, bs_ (gI_at C.1 rfl), if_pos y, m2, bs_ p1, bs2 rfl]
        show bnd (stJ _ 348 0 _) _ = _
        rw [bs_ a1]
      rw [bs2 this, ri_obU R2, m2]
      exact tl_ok b1 b2 ((b3.2 348 (by decide)).trans a3) a4
    · obtain ⟨h5, a, b, c⟩ := r_end0 R (x := v) (Or.inr ⟨z, y⟩)
      refine ⟨h5, ?_, jn_th C J b c ⟨g, hg⟩⟩
      have : P_La_end h 0 v 348 = some (1, h) := by
        unfold P_La_end P_PK_end
        rw [os_ C.1, if_neg z, bs_ (gI_at C.1 rfl), if_neg y]; rfl
      rw [bs2 this, ri_obU R]
      exact tl_th a b (by decide)
theorem s_result [Lean.Grind.Field F] {L p : Nat} {xs : Nat → Int32} {bu : Nat × Nat} (hp : p + 6 ≤ L) (hL : L ≤ 3072) (J : JN φ li lj tn h) : ∃ h', I_La_9 L xs bu h 0 304 348 (nI p) = some h' ∧ JN φ li lj tn h' := by
  obtain ⟨kt, tl, kc, ml, rl, sm, row, ky, dg, res, vc, X, res', th, C, R, J, g, hg⟩ := J
  obtain ⟨v, hv⟩ : ∃ v, v = xs (p + 1) := ⟨_, rfl⟩
  have pre : I_La_9 L xs bu h 0 304 348 (nI p) = bnd2 (P_La_result h 0 v 348) fun v3 h2 => ob h2 304 8 (TLi (P_Rm_result h2 304 v) v3) := by
    unfold I_La_9
    rw [show sdI L xs (nI p + 1) = some v from by rw [hv]; exact sd_at (j := 1) hp hL (by decide), bs_ rfl]
    rfl
  rw [pre]
  have rl7 := J.1.2.2
  by_cases z : v < 0
  · obtain ⟨h5, a, b, c⟩ := r_result0 R (x := v) (Or.inl z)
    refine ⟨h5, ?_, jn_th C J b c ⟨g, hg⟩⟩
    have : P_La_result h 0 v 348 = some (1, h) := by
      unfold P_La_result P_PK_result
      rw [os_ C.1, if_pos z]; rfl
    rw [bs2 this, ri_obU R]
    exact tl_th a b (by decide)
  · by_cases y : v < nI rl
    · obtain ⟨m, m1, m2⟩ := nI_of z
      have m3 : m < rl := by rw [m2] at y; exact (nI_ltI m1 (by omega)).mp y
      obtain ⟨h2, g', a1, C2, a3, a4, a5⟩ := la_at (Int32.toInt64 ((res m).toInt32 &&& 255)) C hg
      have R2 : RI th tl kc ml rl sm row ky X res' vc h2 := ri_ag R a5
      obtain ⟨h5, b1, b2, b3⟩ := r_result1 R2 m3 rl7
      refine ⟨h5, ?_, kt, tl, kc, ml, rl, sm, row, ky, dg, res, vc, X, res', 0, ci_ki C2 b3, b2, J, g', (b3.2 348 (by decide)).trans a3⟩
      have : P_La_result h 0 v 348 = some (0, h2) := by
        unfold P_La_result P_PK_result
        rw [os_ C.1, if_neg z, bs_ (gI_at C.1 rfl), if_pos y, m2, bs_ (gR_at C.1 rfl), bs_ (sB_in m C.2.2.2.1.2.1 rfl (by omega) (by omega)), bs2 rfl]
        show bnd (stJ _ 348 0 _) _ = _
        rw [bs_ a1]
      rw [bs2 this, ri_obU R2, m2]
      exact tl_ok b1 b2 ((b3.2 348 (by decide)).trans a3) (by rw [a4, J.2.2.2 m m3])
    · obtain ⟨h5, a, b, c⟩ := r_result0 R (x := v) (Or.inr ⟨z, y⟩)
      refine ⟨h5, ?_, jn_th C J b c ⟨g, hg⟩⟩
      have : P_La_result h 0 v 348 = some (1, h) := by
        unfold P_La_result P_PK_result
        rw [os_ C.1, if_neg z, bs_ (gI_at C.1 rfl), if_neg y]; rfl
      rw [bs2 this, ri_obU R]
      exact tl_th a b (by decide)
theorem s_message [Lean.Grind.Field F] {L p : Nat} {xs : Nat → Int32} {bu : Nat × Nat} (J : JN φ li lj tn h) : ∃ h', I_La_5 L xs bu h 0 304 348 (nI p) = some h' ∧ JN φ li lj tn h' := by
  obtain ⟨kt, tl, kc, ml, rl, sm, row, ky, dg, res, vc, X, res', th, C, R, J, g, hg⟩ := J
  have tl6 : tl ≤ 65536 := Nat.le_trans C.2.1.2.2.1 (ct_tn C.2.1).2
  obtain ⟨h1, dg', a1, C1, Q1, a4⟩ := u_message C
  have R1 := ri_kq R Q1
  obtain ⟨h2, X', b1, R2, k2, b4⟩ := r_message R1 tl6
  refine ⟨h2, ?_, kt, 0, kc, tl, rl, sm, row, ky, dg', res, vc, X', res', 0, ci_ki C1 k2, R2, ⟨⟨J.1.1, tl6, J.1.2.2⟩, J.2.1, fun k hk => ?_, J.2.2.2⟩, g, (k2.2 348 (by decide)).trans ((Q1.2 348 (by decide) (by decide)).trans hg)⟩
  · unfold I_La_5
    rw [os_ C.1, bs2 a1, ri_obU R1, bs2 b1, if_pos rfl]
  · rw [a4 k hk, XP_eq (X := X') (Y := row) b4]
theorem s_count [Lean.Grind.Field F] {L p : Nat} {xs : Nat → Int32} {bu : Nat × Nat} (hp : p + 6 ≤ L) (hL : L ≤ 3072) (J : JN φ li lj tn h) : ∃ h', I_La_10 L xs bu h 0 304 348 (nI p) = some h' ∧ JN φ li lj tn h' := by
  obtain ⟨kt, tl, kc, ml, rl, sm, row, ky, dg, res, vc, X, res', th, C, R, J, g, hg⟩ := J
  obtain ⟨v, hv⟩ : ∃ v, v = xs (p + 1) := ⟨_, rfl⟩
  have R0 := R
  obtain ⟨E, pn, qn, key, val, R⟩ := R
  obtain ⟨h1, a1, R1, k1⟩ := ri_th (t := 0) R
  have q1 := R1.1.1
  obtain ⟨cnt, d1, d2, d3⟩ := R1.2.2.2
  have c5 := C.2.2.2.1.2.2
  refine ⟨h1, ?_, jn_th C J ⟨E, pn, qn, key, val, R1⟩ k1 ⟨g, hg⟩⟩
  have key' : ∃ w, P_PK_count h 0 v = some (w, h) ∧ P_Rm_count h 304 v = some (w, h1) := by
    by_cases c0 : v = 0
    · exact ⟨nI tl, by unfold P_PK_count; rw [if_pos c0, bs_ (gI_at C.1 rfl)], by unfold P_Rm_count; rw [bs_ a1, if_pos c0, bs_ (gI_at q1 rfl)]⟩
    by_cases c1 : v = 1
    · exact ⟨nI kc, by unfold P_PK_count; rw [if_neg c0, if_pos c1, bs_ (gI_at C.1 rfl)], by unfold P_Rm_count; rw [bs_ a1, if_neg c0, if_pos c1, bs_ (gI_at q1 rfl)]⟩
    by_cases c2 : v = 2
    · exact ⟨nI ml, by unfold P_PK_count; rw [if_neg c0, if_neg c1, if_pos c2, bs_ (gI_at C.1 rfl)], by unfold P_Rm_count; rw [bs_ a1, if_neg c0, if_neg c1, if_pos c2, bs_ (gI_at q1 rfl)]⟩
    by_cases c3 : v = 3
    · exact ⟨nI rl, by unfold P_PK_count; rw [if_neg c0, if_neg c1, if_neg c2, if_pos c3, bs_ (gI_at C.1 rfl)], by unfold P_Rm_count; rw [bs_ a1, if_neg c0, if_neg c1, if_neg c2, if_pos c3, bs_ (gI_at q1 rfl)]⟩
    have ref : ∀ i, i < 6 → v = nI (4 + i) → P_Rm_count h 304 v = some (cnt i, h1) := by
      intro i hi e
      have e2 : v - 4 = nI i := by
        rw [e, show (4 : Int32) = nI 4 from rfl, pk_sub (by omega), show 4 + i - 4 = i by omega]
      unfold P_Rm_count
      rw [bs_ a1, if_neg c0, if_neg c1, if_neg c2, if_neg c3, if_neg (show ¬ v ≤ 3 by rw [e]; exact nI_ge (a := 3) (by omega) (by omega)), if_neg (show ¬ (10 : Int32) ≤ v by rw [e]; exact nI_ge (b := 10) (by omega) (by decide)), bs_ (gR_at q1 rfl), e2, show ldI h1 (304 + 5) (nI i) = some (cnt i) from sI_in i d1 rfl hi (by omega), bs_ rfl]
    by_cases c4 : v = 4
    · exact ⟨sm, by unfold P_PK_count; rw [if_neg c0, if_neg c1, if_neg c2, if_neg c3, if_pos c4, bs_ (gI_at C.1 rfl)], by rw [ref 0 (by decide) (by rw [c4]; rfl), d2]⟩
    have cls : ∀ i, i < 5 → v = nI (5 + i) → ldI h 105 (v - 5) = some (vc i) := by
      intro i hi e
      have e2 : v - 5 = nI i := by
        rw [e, show (5 : Int32) = nI 5 from rfl, pk_sub (by omega), show 5 + i - 5 = i by omega]
      rw [e2]
      exact sI_in i c5 rfl hi (by omega)
    by_cases c5' : v = 5
    · exact ⟨vc 0, by unfold P_PK_count; rw [if_neg c0, if_neg c1, if_neg c2, if_neg c3, if_neg c4, if_pos c5', bs_ (gR_at C.1 rfl), bs_ (cls 0 (by decide) (by rw [c5']; rfl))], by rw [ref 1 (by decide) (by rw [c5']; rfl), ← d3 0 (by decide)]⟩
    by_cases c6 : v = 6
    · exact ⟨vc 1, by unfold P_PK_count; rw [if_neg c0, if_neg c1, if_neg c2, if_neg c3, if_neg c4, if_neg c5', if_pos c6, bs_ (gR_at C.1 rfl), bs_ (cls 1 (by decide) (by rw [c6]; rfl))], by rw [ref 2 (by decide) (by rw [c6]; rfl), ← d3 1 (by decide)]⟩
    by_cases c7 : v = 7
    · exact ⟨vc 2, by unfold P_PK_count; rw [if_neg c0, if_neg c1, if_neg c2, if_neg c3, if_neg c4, if_neg c5', if_neg c6, if_pos c7, bs_ (gR_at C.1 rfl), bs_ (cls 2 (by decide) (by rw [c7]; rfl))], by rw [ref 3 (by decide) (by rw [c7]; rfl), ← d3 2 (by decide)]⟩
    by_cases c8 : v = 8
    · exact ⟨vc 3, by unfold P_PK_count; rw [if_neg c0, if_neg c1, if_neg c2, if_neg c3, if_neg c4, if_neg c5', if_neg c6, if_neg c7, if_pos c8, bs_ (gR_at C.1 rfl), bs_ (cls 3 (by decide) (by rw [c8]; rfl))], by rw [ref 4 (by decide) (by rw [c8]; rfl), ← d3 3 (by decide)]⟩
    by_cases c9 : v = 9
    · exact ⟨vc 4, by unfold P_PK_count; rw [if_neg c0, if_neg c1, if_neg c2, if_neg c3, if_neg c4, if_neg c5', if_neg c6, if_neg c7, if_neg c8, if_pos c9, bs_ (gR_at C.1 rfl), bs_ (cls 4 (by decide) (by rw [c9]; rfl))], by rw [ref 5 (by decide) (by rw [c9]; rfl), ← d3 4 (by decide)]⟩
    refine ⟨-1, by unfold P_PK_count; rw [if_neg c0, if_neg c1, if_neg c2, if_neg c3, if_neg c4, if_neg c5', if_neg c6, if_neg c7, if_neg c8, if_neg c9], ?_⟩
    unfold P_Rm_count
    rw [bs_ a1, if_neg c0, if_neg c1, if_neg c2, if_neg c3]
    by_cases y : v ≤ 3
    · rw [if_pos y]; rfl
    · rw [if_neg y]
      by_cases z : (10 : Int32) ≤ v
      · rw [if_pos z]; rfl
      · exfalso
        have v0 : ¬ v < 0 := fun c => y (Int32.le_of_lt (Int32.lt_trans c (by decide)))
        obtain ⟨m, m1, m2⟩ := nI_of v0
        have l1 : 3 < m := by
          refine Classical.byContradiction fun c => y ?_
          rw [m2]; exact nI_le (b := 3) (by omega) (by decide)
        have l2 : m < 10 := by
          refine Classical.byContradiction fun c => z ?_
          rw [m2]; exact nI_le (a := 10) (by omega) m1
        have : m = 4 ∨ m = 5 ∨ m = 6 ∨ m = 7 ∨ m = 8 ∨ m = 9 := by omega
        rcases this with e | e | e | e | e | e
        · exact c4 (by rw [m2, e]; rfl)
        · exact c5' (by rw [m2, e]; rfl)
        · exact c6 (by rw [m2, e]; rfl)
        · exact c7 (by rw [m2, e]; rfl)
        · exact c8 (by rw [m2, e]; rfl)
        · exact c9 (by rw [m2, e]; rfl)
  obtain ⟨w, w1, w2⟩ := key'
  unfold I_La_10
  rw [show sdI L xs (nI p + 1) = some v from by rw [hv]; exact sd_at (j := 1) hp hL (by decide), bs_ rfl, os_ C.1, bs2 w1, bs_ rfl, ri_obU R0, bs2 w2, if_pos rfl]
end JNT
