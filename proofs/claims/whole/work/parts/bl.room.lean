/-! the class's calls: feed, back -/
theorem mr_ex {n : Nat} (hn : n ≤ 65536) : ∀ (r e : Nat), r + e = 6 → ∃ e', e ≤ e' ∧ e' ≤ 6 ∧ n ≤ 1024 * 2 ^ e' ∧ ∀ j, e ≤ j → j < e' → 1024 * 2 ^ j < n
  | 0, e, he => ⟨6, by omega, Nat.le_refl _, hn, fun j h1 h2 => by omega⟩
  | r + 1, e, he => by
    by_cases z : n ≤ 1024 * 2 ^ e
    · exact ⟨e, Nat.le_refl _, by omega, z, fun j h1 h2 => by omega⟩
    · obtain ⟨e', a, b, c, d⟩ := mr_ex hn r (e + 1) (by omega)
      refine ⟨e', by omega, b, c, fun j h1 h2 => ?_⟩
      by_cases y : j = e
      · subst y; omega
      · exact d j (by omega) h2
section CCD
variable {F : Type} {φ : Nat → F} {li lj : Int} {kt tn tl kc ml rl : Nat} {sm : Int32} {row ky dg res : Nat → Int8} {vc : Nat → Int32} {h : HP}
theorem lnP_at {k n : Nat} {f : Nat → Int8} (e : h[k]? = some (pB n f)) : lnP h k = some (nI n) := by
  unfold lnP
  rw [e]
  rfl
theorem mr_loop {bu : Nat × Nat} {fs : List Value} {more e' : Nat} (hq : h[0]? = some (pO 7 fs)) (f1 : fs[1]? = some (.int (nI tl))) (he6 : e' ≤ 6) (hm : tl + more ≤ 1024 * 2 ^ e') : ∀ (r e f : Nat), r + e = e' → r < f → (∀ j, e ≤ j → j < e' → 1024 * 2 ^ j < tl + more) → ∃ K, L_PK_makeRoom_6 bu f h 0 (nI more) (nI (1024 * 2 ^ e)) = B_PK_makeRoom_29 bu K h 0 (nI (1024 * 2 ^ e')) := by
  have p6 : 2 ^ e' ≤ 2 ^ 6 := Nat.pow_le_pow_right (by decide) he6
  intro r
  induction r with
  | zero =>
    intro e f he hf hj
    cases f with
    | zero => omega
    | succ f =>
      have e6 : e = e' := by omega
      subst e6
      refine ⟨L_PK_makeRoom_6 bu f, ?_⟩
      show B_PK_makeRoom_6 bu _ h 0 (nI more) (nI (1024 * 2 ^ e)) = _
      unfold B_PK_makeRoom_6
      rw [bs_ (gI_at hq f1), nI_add, if_pos (nI_le hm (by omega))]
  | succ r ih =>
    intro e f he hf hj
    cases f with
    | zero => omega
    | succ f =>
      have pe : 1024 * 2 ^ e < 65536 := by
        have : 2 ^ e ≤ 2 ^ 5 := Nat.pow_le_pow_right (by decide) (by omega)
        omega
      obtain ⟨K, c⟩ := ih (e + 1) f (by omega) (by omega) (fun j h1 h2 => hj j (by omega) h2)
      have z := hj e (Nat.le_refl _) (by omega)
      refine ⟨K, ?_⟩
      rw [← c]
      show B_PK_makeRoom_6 bu (L_PK_makeRoom_6 bu f) h 0 (nI more) (nI (1024 * 2 ^ e)) = _
      unfold B_PK_makeRoom_6
      rw [bs_ (gI_at hq f1), nI_add, if_neg (nI_ge z (by omega)), if_neg (show ¬ (65536 : Int32) ≤ nI (1024 * 2 ^ e) from nI_ge (b := 65536) pe (by decide))]
      refine lt_e.trans ?_
      rw [show nI (1024 * 2 ^ e) * 2 = nI (1024 * 2 ^ (e + 1)) from by rw [show (2 : Int32) = nI 2 from rfl, pk_mul, Nat.mul_assoc, ← Nat.pow_succ]]
theorem u_room [Lean.Grind.Field F] {more : Nat} (C : CI φ li lj kt tn tl kc ml rl sm row ky dg res vc h) (hl : 349 ≤ h.length) (hm : tl + more ≤ 65536) :
    ∃ tn' kt' h', tn ≤ tn' ∧ tn' ≤ 65536 ∧ tl + more ≤ tn' ∧ (∀ bu : Nat × Nat, 1 ≤ bu.1 → 6 + 2 * tn' ≤ bu.2 + 2 * tn → P_PK_makeRoom bu h 0 (nI more) = some h') ∧ CI φ li lj kt' tn' tl kc ml rl sm row ky dg res vc h' ∧ KQ h h' := by
  have T := C.2.1
  have tn1 := ct_tn T
  obtain ⟨e, he, hte⟩ := T.2.2.2.1
  obtain ⟨e', a1, a2, a3, a4⟩ := mr_ex hm (6 - e) e (by omega)
  have pw6 : 2 ^ e' ≤ 2 ^ 6 := Nat.pow_le_pow_right (by decide) a2
  obtain ⟨tn', htn'⟩ : ∃ tn', tn' = 1024 * 2 ^ e' := ⟨_, rfl⟩
  have all : ∀ bu : Nat × Nat, ∃ K, P_PK_makeRoom bu h 0 (nI more) = B_PK_makeRoom_29 bu K h 0 (nI tn') := by
    intro bu
    obtain ⟨K, b3⟩ := mr_loop (bu := bu) (more := more) C.1 rfl a2 a3 (e' - e) e FU (by omega) (by have : FU = 70000 := rfl; omega) a4
    refine ⟨K, ?_⟩
    unfold P_PK_makeRoom
    rw [bs_ (gR_at C.1 rfl), bs_ (lnP_at T.1), hte, htn']
    exact b3
  by_cases z : e' = e
  · have : tn' = tn := by rw [htn', hte, z]
    subst this
    refine ⟨tn', kt, h, Nat.le_refl _, by omega, by rw [htn']; exact a3, fun bu _ _ => ?_, C, KQ.rf⟩
    obtain ⟨K, b⟩ := all bu
    rw [b]
    unfold B_PK_makeRoom_29
    rw [bs_ (gR_at C.1 rfl), bs_ (lnP_at T.1), if_pos (nI_le (Nat.le_refl _) (by omega))]
  · have p2 : 2 ^ (e + 1) ≤ 2 ^ e' := Nat.pow_le_pow_right (by decide) (by omega)
    rw [Nat.pow_succ] at p2
    have big : 2 * tn ≤ tn' := by omega
    have le16 : tn' ≤ 65536 := by omega
    obtain ⟨h2, hh2⟩ : ∃ h2, h2 = h ++ [pB tn' (fun _ => 0)] := ⟨_, rfl⟩
    have i2 : ∀ j, j < h.length → h2[j]? = h[j]? := fun j hj => by rw [hh2]; exact List.getElem?_append_left hj
    have t2 : h2[kt]? = some (pB tn row) := by
      rw [i2 kt (by
        have := T.1
        exact (List.getElem?_eq_some_iff.mp this).1)]
      exact T.1
    have n2 : h2[h.length]? = some (pB tn' (fun _ => 0)) := by rw [hh2]; simp
    have nk : h.length ≠ kt := by
      have := (List.getElem?_eq_some_iff.mp T.1).1
      omega
    have p3 := cpB_at (x := 0) (y := 0) (z := nI tn) 0 0 tn t2 n2 rfl rfl rfl (by omega) (by omega) (by omega) (by omega)
    have er : va_cpy row (fun _ => 0) 0 0 tn = row := by
      funext k
      by_cases y : k < tn
      · rw [cpy_in (by omega) (by omega)]; simp
      · rw [cpy_out (by omega), T.2.2.2.2 k (by omega)]
    rw [er] at p3
    obtain ⟨h5, hh5⟩ : ∃ h5, h5 = h2.set h.length (pB tn' row) := ⟨_, rfl⟩
    rw [← hh5] at p3
    have i5 : ∀ j, j < h.length → h5[j]? = h[j]? := fun j hj => by rw [hh5, List.getElem?_set_ne (by omega)]; exact i2 j hj
    have n5 : h5[h.length]? = some (pB tn' row) := by rw [hh5]; exact hs_ n2
    have q5 : h5[0]? = some (pO 7 (OB kt tl kc ml rl sm)) := (i5 0 (by omega)).trans C.1
    have p4 : pV h5 0 7 0 (.ref h.length) = some (h5.set 0 (pO 7 (OB h.length tl kc ml rl sm))) := pV0 (j := 0) (v := .ref h.length) q5 (by decide)
    obtain ⟨h9, hh9⟩ : ∃ h9, h9 = h5.set 0 (pO 7 (OB h.length tl kc ml rl sm)) := ⟨_, rfl⟩
    rw [← hh9] at p4
    have i9 : ∀ j, j ≠ 0 → h9[j]? = h5[j]? := fun j hj => by rw [hh9]; exact List.getElem?_set_ne (Ne.symm hj)
    have tlt : tl ≤ tn' := by have := T.2.2.1; omega
    refine ⟨tn', h.length, h9, by omega, le16, by rw [htn']; exact a3, fun bu b1 b2 => ?_, ⟨by rw [hh9]; exact hs_ q5, ⟨(i9 _ (by omega)).trans n5, Or.inr hl, tlt, ⟨e', a2, htn'⟩, fun k hk => T.2.2.2.2 k (by omega)⟩, ck_ag C.2.2.1 (fun j h1 h2 => (i9 j (by omega)).trans (i5 j (by omega))), cx_ag C.2.2.2.1 (fun j h1 h2 => (i9 j (by omega)).trans (i5 j (by omega))), cy_ag C.2.2.2.2 (fun j h1 h2 => (i9 j (by omega)).trans (i5 j (by omega)))⟩, ⟨?_, fun j h1 h2 => (i9 j (by omega)).trans (i5 j (by omega))⟩⟩
    · obtain ⟨K, b⟩ := all bu
      rw [b]
      unfold B_PK_makeRoom_29
      rw [bs_ (gR_at C.1 rfl), bs_ (lnP_at T.1), if_neg (nI_ge (by omega) (by omega)), bs_ (gR_at C.1 rfl)]
      have cp : P_Ar_copyOf_B bu h kt (nI tn') = some (h.length, h5) := by
        unfold P_Ar_copyOf_B gd
        rw [bs_ (lnP_at T.1), if_neg (fun c => by have := (nI_eq (by omega) (by omega)).mp c; omega), nI_clamp (by omega), if_pos ⟨nI_pos (by omega), le16, b1, by omega⟩, lt_e, lt_e, ← hh2, bs_ (lnP_at t2), if_neg (nI_nlt (by omega) (by omega)), bs_ p3]
      rw [bs2 cp, bs_ p4]
    · rw [hh9, hh5, hh2]
      simp
theorem pt4_out {f : Nat → Int8} {a k : Nat} {w : Int32} (hk : k < a ∨ a + 4 ≤ k) : pt4 f a w k = f k := by
  unfold pt4
  rw [up_n (by omega), up_n (by omega), up_n (by omega), up_n (by omega)]
theorem pt4_in {f : Nat → Int8} {a k : Nat} {w : Int32} (hk : k < 4) : pt4 f a w (a + k) = wb w k := by
  unfold pt4
  have : k = 0 ∨ k = 1 ∨ k = 2 ∨ k = 3 := by omega
  rcases this with rfl | rfl | rfl | rfl
  · rw [up_n (by omega), up_n (by omega), up_n (by omega), Nat.add_zero, up_s]
  · rw [up_n (by omega), up_n (by omega), up_s]
  · rw [up_n (by omega), up_s]
  · rw [up_s]
def fd5 (f : Nat → Int8) (t : Nat) (a b c d e : Int32) : Nat → Int8 := pt4 (pt4 (pt4 (pt4 (pt4 f t a) (t + 4) b) (t + 8) c) (t + 12) d) (t + 16) e
/-- the tape's cell is set anew -/
theorem ci_t [Lean.Grind.Field F] {row' : Nat → Int8} (C : CI φ li lj kt tn tl kc ml rl sm row ky dg res vc h) (z : ∀ k, tn ≤ k → row' k = 0) : CI φ li lj kt tn tl kc ml rl sm row' ky dg res vc (h.set kt (pB tn row')) := by
  have T := C.2.1
  have dk := T.2.1
  have e : ∀ j, j ≠ kt → (h.set kt (pB tn row'))[j]? = h[j]? := fun j hj => List.getElem?_set_ne (Ne.symm hj)
  exact ⟨(e 0 (by omega)).trans C.1, ⟨hs_ T.1, T.2.1, T.2.2.1, T.2.2.2.1, z⟩, ck_ag C.2.2.1 (fun j h1 h2 => e j (by omega)), cx_ag C.2.2.2.1 (fun j h1 h2 => e j (by omega)), cy_ag C.2.2.2.2 (fun j h1 h2 => e j (by omega))⟩
theorem u_feed [Lean.Grind.Field F] (C : CI φ li lj kt tn tl kc ml rl sm row ky dg res vc h) (hl : 349 ≤ h.length) (hm : tl + 20 ≤ 65536) (a b c d e : Int32) :
    ∃ tn' kt' h', tn ≤ tn' ∧ tn' ≤ 65536 ∧ (∀ bu : Nat × Nat, 1 ≤ bu.1 → 6 + 2 * tn' ≤ bu.2 + 2 * tn → P_PK_feed bu h 0 a b c d e = some (.inr (nI (tl + 20)), h')) ∧ CI φ li lj kt' tn' (tl + 20) kc ml rl sm (fd5 row tl a b c d e) ky dg res vc h' ∧ KQ h h' := by
  obtain ⟨tn', kt', h2, b1, b2, b3, b4, C2, Q2⟩ := u_room (more := 20) C hl hm
  have T2 := C2.2.1
  have z2 := T2.2.2.2.2
  have dk := T2.2.1
  have st : ∀ (hx : HP) (rw' : Nat → Int8) (o : Nat) (w : Int32), o ≤ 16 → CI φ li lj kt' tn' tl kc ml rl sm rw' ky dg res vc hx → ∃ hy, P_Wo_put hx w kt' (nI (tl + o)) = some hy ∧ CI φ li lj kt' tn' tl kc ml rl sm (pt4 rw' (tl + o) w) ky dg res vc hy ∧ KQ hx hy := by
    intro hx rw' o w ho Cx
    refine ⟨_, e_put (tl + o) Cx.2.1.1 rfl (by omega) (by omega), ci_t Cx (fun k hk => by rw [pt4_out (by omega)]; exact Cx.2.1.2.2.2.2 k hk), KQ.st (by omega)⟩
  obtain ⟨h3, c1, C3, Q3⟩ := st h2 row 0 a (by decide) C2
  obtain ⟨h4, c2, C4, Q4⟩ := st h3 _ 4 b (by decide) C3
  obtain ⟨h5, c3, C5, Q5⟩ := st h4 _ 8 c (by decide) C4
  obtain ⟨h6, c4, C6, Q6⟩ := st h5 _ 12 d (by decide) C5
  obtain ⟨h7, c5, C7, Q7⟩ := st h6 _ 16 e (by decide) C6
  have p1 : pV h7 0 7 1 (.int (nI (tl + 20))) = some (h7.set 0 (pO 7 (OB kt' (tl + 20) kc ml rl sm))) := pV0 (j := 1) (v := .int (nI (tl + 20))) C7.1 (by decide)
  have C8 : CI φ li lj kt' tn' (tl + 20) kc ml rl sm (fd5 row tl a b c d e) ky dg res vc (h7.set 0 (pO 7 (OB kt' (tl + 20) kc ml rl sm))) := ci_0 C7 ⟨C7.2.1.1, C7.2.1.2.1, b3, C7.2.1.2.2.2⟩ C7.2.2.1
  refine ⟨tn', kt', _, b1, b2, fun bu e1 e2 => ?_, C8, Q2.tr (Q3.tr (Q4.tr (Q5.tr (Q6.tr (Q7.tr (KQ.st (by decide)))))))⟩
  unfold P_PK_feed
  rw [bs_ (gI_at C.1 rfl), show nI tl + 20 = nI (tl + 20) from nI_add tl 20, if_pos (show nI (tl + 20) ≤ 65536 from nI_le (b := 65536) hm (by decide)), os_ C.1, show P_PK_makeRoom bu h 0 20 = _ from b4 bu e1 e2, bs_ rfl, bs_ (gR_at C2.1 rfl), bs_ (gI_at C2.1 rfl), show P_Wo_put h2 a kt' (nI tl) = _ from c1, bs_ rfl, bs_ (gR_at C3.1 rfl), bs_ (gI_at C3.1 rfl), show nI tl + 4 = nI (tl + 4) from nI_add tl 4, bs_ c2, bs_ (gR_at C4.1 rfl), bs_ (gI_at C4.1 rfl), show nI tl + 8 = nI (tl + 8) from nI_add tl 8, bs_ c3, bs_ (gR_at C5.1 rfl), bs_ (gI_at C5.1 rfl), show nI tl + 12 = nI (tl + 12) from nI_add tl 12, bs_ c4, bs_ (gR_at C6.1 rfl), bs_ (gI_at C6.1 rfl), show nI tl + 16 = nI (tl + 16) from nI_add tl 16, bs_ c5, bs_ (gI_at C7.1 rfl), show nI tl + 20 = nI (tl + 20) from nI_add tl 20, bs_ p1, bs_ (gI_at C8.1 rfl)]
theorem u_back [Lean.Grind.Field F] (C : CI φ li lj kt tn tl kc ml rl sm row ky dg res vc h) (hl : 349 ≤ h.length) (hm : tl + rl ≤ 65536) (hrl : rl ≤ 72) (x w : Int32) (hx : x = -1 ∨ ∃ i, i < rl ∧ x = nI i) :
    ∃ tn' kt' h' row', tn ≤ tn' ∧ tn' ≤ 65536 ∧ (∀ bu : Nat × Nat, 1 ≤ bu.1 → 6 + 2 * tn' ≤ bu.2 + 2 * tn → P_PK_back bu h 0 x w = some (.inr (nI (tl + rl)), h')) ∧ CI φ li lj kt' tn' (tl + rl) kc ml rl sm row' ky dg res vc h' ∧ KQ h h' ∧ (∀ k, k < tl ∨ tl + rl ≤ k → row' k = row k) ∧ ∀ k, k < rl → row' (tl + k) = if nI k = x then Int32.toInt8 ((res k).toInt32 ^^^ w) else res k := by
  obtain ⟨tn', kt', h2, b1, b2, b3, b4, C2, Q2⟩ := u_room (more := rl) C hl hm
  have T2 := C2.2.1
  have z2 := T2.2.2.2.2
  have dk := T2.2.1
  have p1 := cpB_at (x := 0) (y := nI tl) (z := nI rl) 0 tl rl C2.2.2.2.1.2.1 T2.1 rfl rfl rfl (by omega) (by omega) (by decide) (by omega)
  obtain ⟨r1, hr1⟩ : ∃ r1, r1 = va_cpy res row 0 tl rl := ⟨_, rfl⟩
  rw [← hr1] at p1
  have zr1 : ∀ k, tn' ≤ k → r1 k = 0 := fun k hk => by rw [hr1, cpy_out (by omega)]; exact z2 k hk
  have C3 := ci_t (row' := r1) C2 zr1
  obtain ⟨h3, hh3⟩ : ∃ h3, h3 = h2.set kt' (pB tn' r1) := ⟨_, rfl⟩
  rw [← hh3] at p1 C3
  have Q3 : KQ h2 h3 := by rw [hh3]; exact KQ.st (by omega)
  have pre : ∀ bu : Nat × Nat, 1 ≤ bu.1 → 6 + 2 * tn' ≤ bu.2 + 2 * tn → P_PK_back bu h 0 x w = (if x < 0 then B_PK_back_95 bu h3 0 else bnd (ldB h3 104 x) fun v18 => bnd (stB h3 kt' (nI tl + x) ((Int32.toInt8 (v18 ^^^ w)).toInt32)) fun h19 => B_PK_back_95 bu h19 0) := by
    intro bu e1 e2
    have n1 : ¬ x < -1 := by
      rcases hx with c | ⟨i, _, c⟩
      · rw [c]; decide
      · rw [c]
        intro d
        exact nI_pos (n := i) (by omega) (Int32.lt_trans d (by decide))
    have n2 : x < nI rl := by
      rcases hx with c | ⟨i, c1, c⟩
      · rw [c, Int32.lt_iff_toInt_lt, nI_toInt (by omega)]
        have : (-1 : Int32).toInt = -1 := by decide
        omega
      · rw [c]; exact nI_lt c1 (by omega)
    unfold P_PK_back
    rw [if_neg n1, bs_ (gI_at C.1 rfl), if_pos n2, bs_ (gI_at C.1 rfl), bs_ (gI_at C.1 rfl), nI_add, if_pos (show nI (tl + rl) ≤ 65536 from nI_le (b := 65536) hm (by decide)), bs_ (gI_at C.1 rfl), os_ C.1, bs_ (b4 bu e1 e2), bs_ (gR_at C2.1 rfl), bs_ (gR_at C2.1 rfl), bs_ (gI_at C2.1 rfl), bs_ (gI_at C2.1 rfl), bs_ p1, bs_ (gR_at C3.1 rfl), bs_ (gI_at C3.1 rfl), bs_ (gR_at C3.1 rfl)]
  have fin : ∀ (bu : Nat × Nat) (hy : HP) (ry : Nat → Int8), CI φ li lj kt' tn' tl kc ml rl sm ry ky dg res vc hy → B_PK_back_95 bu hy 0 = some (.inr (nI (tl + rl)), hy.set 0 (pO 7 (OB kt' (tl + rl) kc ml rl sm))) := by
    intro bu hy ry Cy
    have p : pV hy 0 7 1 (.int (nI (tl + rl))) = some (hy.set 0 (pO 7 (OB kt' (tl + rl) kc ml rl sm))) := pV0 (j := 1) (v := .int (nI (tl + rl))) Cy.1 (by decide)
    unfold B_PK_back_95
    rw [bs_ (gI_at Cy.1 rfl), bs_ (gI_at Cy.1 rfl), nI_add, bs_ p, bs_ (gI_at (hs_ Cy.1) rfl)]
  have ci : ∀ (hy : HP) (ry : Nat → Int8), CI φ li lj kt' tn' tl kc ml rl sm ry ky dg res vc hy → CI φ li lj kt' tn' (tl + rl) kc ml rl sm ry ky dg res vc (hy.set 0 (pO 7 (OB kt' (tl + rl) kc ml rl sm))) := fun hy ry Cy => ci_0 Cy ⟨Cy.2.1.1, Cy.2.1.2.1, b3, Cy.2.1.2.2.2⟩ Cy.2.2.1
  rcases hx with c | ⟨i, c1, c⟩
  · refine ⟨tn', kt', _, r1, b1, b2, fun bu e1 e2 => ?_, ci h3 r1 C3, Q2.tr (Q3.tr (KQ.st (by decide))), fun k hk => by rw [hr1, cpy_out (by omega)], fun k hk => ?_⟩
    · rw [pre bu e1 e2, if_pos (by rw [c]; decide)]
      exact fin bu h3 r1 C3
    · rw [if_neg (by rw [c]; exact fun d => nI_m1 (by omega) d.symm), hr1, cpy_in (by omega) (by omega)]
      congr 1
      omega
  · obtain ⟨v, hv⟩ : ∃ v, v = Int32.toInt8 ((res i).toInt32 ^^^ w) := ⟨_, rfl⟩
    have p2 := tB_in (x := v.toInt32) (tl + i) C3.2.1.1 rfl (by omega) (by omega)
    rw [i8_r] at p2
    have zr2 : ∀ k, tn' ≤ k → va_up r1 (tl + i) v k = 0 := fun k hk => by rw [up_n (by omega)]; exact zr1 k hk
    have C4 := ci_t (row' := va_up r1 (tl + i) v) C3 zr2
    refine ⟨tn', kt', _, va_up r1 (tl + i) v, b1, b2, fun bu e1 e2 => ?_, ci _ _ C4, Q2.tr (Q3.tr ((KQ.st (by omega)).tr (KQ.st (by decide)))), fun k hk => by rw [up_n (by omega), hr1, cpy_out (by omega)], fun k hk => ?_⟩
    · rw [pre bu e1 e2, if_neg (by rw [c]; exact nI_pos (by omega)), c, bs_ (sB_in i C3.2.2.2.1.2.1 rfl (by omega) (by omega)), nI_add, ← hv, bs_ p2]
      exact fin bu _ _ C4
    · by_cases y : k = i
      · rw [y, up_s, if_pos c.symm, hv]
      · rw [if_neg (by rw [c]; exact fun d => y ((nI_eq (by omega) (by omega)).mp d)), up_n (by omega), hr1, cpy_in (by omega) (by omega)]
        congr 1
        omega
end CCD
