/-! the reference's calls: feed, back, message, key -/
theorem i8_ext {x y : Int32} (h : ∀ i, i < 8 → bt x i = bt y i) : x.toInt8 = y.toInt8 := by
  apply Int8.toBitVec_inj.1
  show x.toBitVec.signExtend 8 = y.toBitVec.signExtend 8
  rw [BitVec.signExtend_eq_setWidth_of_le _ (by decide), BitVec.signExtend_eq_setWidth_of_le _ (by decide)]
  apply BitVec.eq_of_getLsbD_eq
  intro i hi
  rw [BitVec.getLsbD_setWidth, BitVec.getLsbD_setWidth]
  have := h i hi
  unfold bt at this
  rw [this]
theorem fb_ (w : Int32) {q : Nat} (hq : q < 4) : (w >>> (nI (8 * (3 - q)) &&& 31)).toInt8 = wb w q := by
  have : q = 0 ∨ q = 1 ∨ q = 2 ∨ q = 3 := by omega
  rcases this with rfl | rfl | rfl | rfl
  · exact i8_ext (fun i hi => by
      rw [b_sshr 24 (by decide) w (by omega), if_pos (by omega)]
      exact (b_ushr 24 (by decide) w i).symm)
  · exact i8_ext (fun i hi => by
      rw [b_sshr 16 (by decide) w (by omega), if_pos (by omega)]
      exact (b_ushr 16 (by decide) w i).symm)
  · exact i8_ext (fun i hi => by
      rw [b_sshr 8 (by decide) w (by omega), if_pos (by omega)]
      exact (b_ushr 8 (by decide) w i).symm)
  · exact i8_ext (fun i hi => by
      rw [b_sshr 0 (by decide) w (by omega), if_pos (by omega), Nat.zero_add])
def fdW (a b c d e : Int32) (i : Nat) : Int32 := if i < 4 then a else if i < 8 then b else if i < 12 then c else if i < 16 then d else e
theorem fd5_o {f : Nat → Int8} {t k : Nat} {a b c d e : Int32} (hk : k < t ∨ t + 20 ≤ k) : fd5 f t a b c d e k = f k := by
  unfold fd5
  rw [pt4_out (by omega), pt4_out (by omega), pt4_out (by omega), pt4_out (by omega), pt4_out (by omega)]
theorem fd5_i {f : Nat → Int8} {t k : Nat} {a b c d e : Int32} (hk : k < 20) : fd5 f t a b c d e (t + k) = wb (fdW a b c d e k) (k % 4) := by
  unfold fd5 fdW
  by_cases h1 : k < 4
  · rw [if_pos h1, pt4_out (by omega), pt4_out (by omega), pt4_out (by omega), pt4_out (by omega), pt4_in h1, Nat.mod_eq_of_lt h1]
  · rw [if_neg h1]
    by_cases h2 : k < 8
    · rw [if_pos h2, pt4_out (by omega), pt4_out (by omega), pt4_out (by omega), show t + k = t + 4 + (k - 4) by omega, pt4_in (by omega), show k - 4 = k % 4 by omega]
    · rw [if_neg h2]
      by_cases h3 : k < 12
      · rw [if_pos h3, pt4_out (by omega), pt4_out (by omega), show t + k = t + 8 + (k - 8) by omega, pt4_in (by omega), show k - 8 = k % 4 by omega]
      · rw [if_neg h3]
        by_cases h4 : k < 16
        · rw [if_pos h4, pt4_out (by omega), show t + k = t + 12 + (k - 12) by omega, pt4_in (by omega), show k - 12 = k % 4 by omega]
        · rw [if_neg h4, show t + k = t + 16 + (k - 16) by omega, pt4_in (by omega), show k - 16 = k % 4 by omega]
section RCB
variable {th : Int32} {tl kc ml rl : Nat} {sm : Int32} {row ky X res : Nat → Int8} {vc : Nat → Int32} {h : HP}
theorem r_feed1 (R : RI th tl kc ml rl sm row ky X res vc h) (hm : tl + 20 ≤ 65536) (a b c d e : Int32) : ∃ h', P_Rm_feed h 304 a b c d e = some (nI (tl + 20), h') ∧ RI 0 (tl + 20) kc ml rl sm (fd5 row tl a b c d e) ky X res vc h' ∧ KI 304 348 h h' := by
  obtain ⟨E, pn, qn, key, val, R⟩ := R
  obtain ⟨h1, a1, R1, k1⟩ := ri_th (t := 0) R
  have q1 := R1.1.1
  have r1 := R1.2.2.1.1
  obtain ⟨T', g1, g2, g3⟩ := rwb (n := 20) (o := tl) (h0 := h1) (t := 305) (nt := 65536) (T0 := row) (fun i => wb (fdW a b c d e i) (i % 4)) (fun f h i => L_Rm_feed_24 f h 304 a b c d e i) (by
    intro i f T hi
    have q2 : (h1.set 305 (pB 65536 T))[304]? = _ := hn_ (by decide) q1
    have e1 : (8 : Int32) * (3 - (nI i - nI i / 4 * 4)) = nI (8 * (3 - i % 4)) := by
      show nI 8 * (nI 3 - (nI i - nI i / nI 4 * nI 4)) = _
      rw [pk_rem (by omega) (by omega) (by omega), pk_sub (by omega), pk_mul]
    have st : ∀ w : Int32, (bnd (gR (h1.set 305 (pB 65536 T)) 304 8 1) fun k6 => bnd (gI (h1.set 305 (pB 65536 T)) 304 8 5) fun v7 => bnd (stB (h1.set 305 (pB 65536 T)) k6 (v7 + nI i) ((Int32.toInt8 (w >>> ((8 * (3 - (nI i - nI i / 4 * 4))) &&& 31))).toInt32)) fun h8 => lt (nI i + Int32.ofInt 1) fun x9 => L_Rm_feed_24 f h8 304 a b c d e x9) = L_Rm_feed_24 f (h1.set 305 (pB 65536 (va_up T (tl + i) (wb w (i % 4))))) 304 a b c d e (nI (i + 1)) := by
      intro w
      have p := tB_in (x := (wb w (i % 4)).toInt32) (tl + i) (hs_ (d := pB 65536 T) r1) rfl (by omega) (by omega)
      rw [i8_r, hss] at p
      rw [bs_ (gR_at q2 rfl), bs_ (gI_at q2 rfl), e1, fb_ w (Nat.mod_lt _ (by decide)), nI_add, show stB (h1.set 305 (pB 65536 T)) (304 + 1) (nI (tl + i)) _ = _ from p, bs_ rfl, lt_e, nI_ofInt1]
    show B_Rm_feed_24 (L_Rm_feed_24 f) (h1.set 305 (pB 65536 T)) 304 a b c d e (nI i) = _
    unfold B_Rm_feed_24
    rw [if_neg (show ¬ (20 : Int32) ≤ nI i from nI_ge (b := 20) hi (by decide))]
    show _ = L_Rm_feed_24 f (h1.set 305 (pB 65536 (va_up T (tl + i) (wb (fdW a b c d e i) (i % 4))))) 304 a b c d e (nI (i + 1))
    unfold fdW
    by_cases z1 : i < 4
    · rw [if_neg (show ¬ (4 : Int32) ≤ nI i from nI_ge (b := 4) z1 (by decide)), if_pos z1]; exact st a
    · rw [if_pos (show (4 : Int32) ≤ nI i from nI_le (a := 4) (by omega) (by omega)), if_neg z1]
      by_cases z2 : i < 8
      · rw [if_neg (show ¬ (8 : Int32) ≤ nI i from nI_ge (b := 8) z2 (by decide)), if_pos z2]; exact st b
      · rw [if_pos (show (8 : Int32) ≤ nI i from nI_le (a := 8) (by omega) (by omega)), if_neg z2]
        by_cases z3 : i < 12
        · rw [if_neg (show ¬ (12 : Int32) ≤ nI i from nI_ge (b := 12) z3 (by decide)), if_pos z3]; exact st c
        · rw [if_pos (show (12 : Int32) ≤ nI i from nI_le (a := 12) (by omega) (by omega)), if_neg z3]
          by_cases z4 : i < 16
          · rw [if_neg (show ¬ (16 : Int32) ≤ nI i from nI_ge (b := 16) z4 (by decide)), if_pos z4]; exact st d
          · rw [if_pos (show (16 : Int32) ≤ nI i from nI_le (a := 16) (by omega) (by omega)), if_neg z4]; exact st e) 20 0 (FU - 20) row rfl (fun k hk => absurd hk (Nat.not_lt_zero _)) (fun _ _ => rfl)
  rw [hid r1] at g1
  have eT : T' = fd5 row tl a b c d e := by
    funext k
    by_cases z : tl ≤ k ∧ k < tl + 20
    · have := g2 (k - tl) (by omega)
      rw [show tl + (k - tl) = k by omega] at this
      rw [this]
      have h2 := fd5_i (f := row) (t := tl) (k := k - tl) (a := a) (b := b) (c := c) (d := d) (e := e) (by omega)
      rw [show tl + (k - tl) = k by omega] at h2
      exact h2.symm
    · rw [g3 k (by omega), fd5_o (by omega)]
  rw [eT] at g1
  have R2 := ri_row (row' := fd5 row tl a b c d e) R1
  obtain ⟨h3, a3, R3, k3⟩ := ri_ta (n := tl + 20) R2
  refine ⟨h3, ?_, ⟨E, pn, qn, key, val, R3⟩, k1.tr ((KI.st (by decide)).tr k3)⟩
  unfold P_Rm_feed
  rw [bs_ a1, bs_ (gI_at q1 rfl), if_pos (show nI tl ≤ 65516 from nI_le (b := 65516) (by omega) (by decide))]
  refine (show L_Rm_feed_24 FU h1 304 a b c d e 0 = _ from g1).trans ?_
  obtain ⟨f, hf⟩ : ∃ f, FU - 20 = f + 1 := ⟨FU - 21, rfl⟩
  rw [hf]
  show B_Rm_feed_24 _ _ 304 a b c d e (nI 20) = _
  unfold B_Rm_feed_24
  rw [if_pos (show (20 : Int32) ≤ nI 20 by decide), bs_ (gI_at R2.1.1 rfl), show nI tl + 20 = nI (tl + 20) from nI_add tl 20, bs_ a3, bs_ (gI_at R3.1.1 rfl)]
theorem x0_ (x : Int8) : Int32.toInt8 (x.toInt32 ^^^ 0) = x := by
  rw [show x.toInt32 ^^^ 0 = x.toInt32 from b_ext (fun i _ => by rw [b_xor, b_0]; simp)]
  exact i8_r x
theorem r_back1 (R : RI th tl kc ml rl sm row ky X res vc h) (hm : tl + rl ≤ 65536) (hrl : rl ≤ 72) (x w : Int32) (hx : x = -1 ∨ ∃ i, i < rl ∧ x = nI i) : ∃ h' row', P_Rm_back h 304 x w = some (nI (tl + rl), h') ∧ RI 0 (tl + rl) kc ml rl sm row' ky X res vc h' ∧ KI 304 348 h h' ∧ (∀ k, k < tl ∨ tl + rl ≤ k → row' k = row k) ∧ ∀ k, k < rl → row' (tl + k) = if nI k = x then Int32.toInt8 ((res k).toInt32 ^^^ w) else res k := by
  obtain ⟨E, pn, qn, key, val, R⟩ := R
  obtain ⟨h1, a1, R1, k1⟩ := ri_th (t := 0) R
  have q1 := R1.1.1
  have r1 := R1.2.2.1.1
  have r3 := R1.2.2.1.2.2.1
  have n1 : ¬ x < -1 := by
    rcases hx with c | ⟨i, _, c⟩
    · rw [c]; decide
    · rw [c]
      intro d
      exact nI_pos (n := i) (by omega) (Int32.lt_trans d (by decide))
  have n2 : x < nI rl := by
    rcases hx with c | ⟨i, c1, c⟩
    · rw [c, Int32.lt_iff_toInt_lt, nI_toInt (by omega)]
      have : (-1 : Int32).toInt = -1 := by decide
      omega
    · rw [c]; exact nI_lt c1 (by omega)
  obtain ⟨T', g1, g2, g3⟩ := rwb (n := rl) (o := tl) (h0 := h1) (t := 305) (nt := 65536) (T0 := row) (fun k => if nI k = x then Int32.toInt8 ((res k).toInt32 ^^^ w) else res k) (fun f h i => L_Rm_back_46 f h 304 x w i) (by
    intro i f T hi
    have q2 : (h1.set 305 (pB 65536 T))[304]? = _ := hn_ (by decide) q1
    have r2 : (h1.set 305 (pB 65536 T))[307]? = _ := hn_ (by decide) r3
    show B_Rm_back_46 (L_Rm_back_46 f) (h1.set 305 (pB 65536 T)) 304 x w (nI i) = _
    unfold B_Rm_back_46
    have p : ∀ v : Int8, stB (h1.set 305 (pB 65536 T)) (304 + 1) (nI tl + nI i) v.toInt32 = some (h1.set 305 (pB 65536 (va_up T (tl + i) v))) := by
      intro v
      have p := tB_in (x := v.toInt32) (tl + i) (hs_ (d := pB 65536 T) r1) rfl (by omega) (by omega)
      rw [i8_r, hss] at p
      rw [nI_add]
      exact p
    rw [bs_ (gI_at q2 rfl), if_neg (nI_ge hi (by omega)), bs_ (gR_at q2 rfl), bs_ (gI_at q2 rfl), bs_ (gR_at q2 rfl), show ldB (h1.set 305 (pB 65536 T)) (304 + 3) (nI i) = some (res i).toInt32 from sB_in i r2 rfl (by omega) (by omega), bs_ rfl]
    by_cases z : nI i = x
    · rw [if_pos z, bs_ (p _), lt_e, nI_ofInt1, if_pos z]
    · rw [if_neg z, bs_ (p _), lt_e, nI_ofInt1, if_neg z, x0_]) rl 0 (FU - rl) row (by omega) (fun k hk => absurd hk (Nat.not_lt_zero _)) (fun _ _ => rfl)
  rw [hid r1, show rl + (FU - rl) = FU from by have : FU = 70000 := rfl; omega] at g1
  have R2 := ri_row (row' := T') R1
  obtain ⟨h4, a4, R4, k4⟩ := ri_ta (n := tl + rl) R2
  refine ⟨h4, T', ?_, ⟨E, pn, qn, key, val, R4⟩, k1.tr ((KI.st (by decide)).tr k4), g3, g2⟩
  unfold P_Rm_back
  rw [bs_ a1, if_neg n1, bs_ (gI_at q1 rfl), if_pos n2, bs_ (gI_at q1 rfl), bs_ (gI_at q1 rfl), nI_add, if_pos (show nI (tl + rl) ≤ 65536 from nI_le (b := 65536) hm (by decide))]
  refine (show L_Rm_back_46 FU h1 304 x w 0 = _ from g1).trans ?_
  obtain ⟨f, hf⟩ : ∃ f, FU - rl = f + 1 := ⟨FU - rl - 1, by have : FU = 70000 := rfl; omega⟩
  rw [hf]
  show B_Rm_back_46 _ _ 304 x w (nI rl) = _
  unfold B_Rm_back_46
  rw [bs_ (gI_at R2.1.1 rfl), if_pos (nI_le (Nat.le_refl _) (by omega)), bs_ (gI_at R2.1.1 rfl), bs_ (gI_at R2.1.1 rfl), nI_add, bs_ a4, bs_ (gI_at R4.1.1 rfl)]
theorem r_back0 (R : RI th tl kc ml rl sm row ky X res vc h) {x w : Int32} (hx : x < -1 ∨ (¬ x < -1 ∧ ¬ x < nI rl)) : ∃ h', P_Rm_back h 304 x w = some (0, h') ∧ RI 1 tl kc ml rl sm row ky X res vc h' ∧ KI 304 348 h h' := by
  obtain ⟨E, pn, qn, key, val, R⟩ := R
  obtain ⟨h1, a1, R1, k1⟩ := ri_th (t := 0) R
  obtain ⟨h2, a2, R2, k2⟩ := r_fail (c := 1) R1
  refine ⟨h2, ?_, R2, k1.tr k2⟩
  unfold P_Rm_back
  rw [bs_ a1]
  rcases hx with c | ⟨c, d⟩
  · rw [if_pos c]; unfold B_Rm_back_18; rw [os_ R1.1.1, bs2 a2]
  · rw [if_neg c, bs_ (gI_at R1.1.1 rfl), if_neg d]; unfold B_Rm_back_18; rw [os_ R1.1.1, bs2 a2]
theorem r_back2 (R : RI th tl kc ml rl sm row ky X res vc h) {x w : Int32} (c : ¬ x < -1) (d : x < nI rl) (ht : tl ≤ 65536) (hrl : rl ≤ 72) (hm : ¬ tl + rl ≤ 65536) : ∃ h', P_Rm_back h 304 x w = some (0, h') ∧ RI 2 tl kc ml rl sm row ky X res vc h' ∧ KI 304 348 h h' := by
  obtain ⟨E, pn, qn, key, val, R⟩ := R
  obtain ⟨h1, a1, R1, k1⟩ := ri_th (t := 0) R
  obtain ⟨h2, a2, R2, k2⟩ := r_fail (c := 2) R1
  refine ⟨h2, ?_, R2, k1.tr k2⟩
  unfold P_Rm_back
  rw [bs_ a1, if_neg c, bs_ (gI_at R1.1.1 rfl), if_pos d, bs_ (gI_at R1.1.1 rfl), bs_ (gI_at R1.1.1 rfl), nI_add, if_neg (show ¬ nI (tl + rl) ≤ 65536 from nI_ge (a := 65536) (by omega) (by omega)), os_ R1.1.1, bs2 a2]
theorem r_message (R : RI th tl kc ml rl sm row ky X res vc h) (ht : tl ≤ 65536) : ∃ h' X', P_Rm_message h 304 = some (nI tl, h') ∧ RI 0 0 kc tl rl sm row ky X' res vc h' ∧ KI 304 348 h h' ∧ ∀ k, k < tl → X' k = row k := by
  obtain ⟨E, pn, qn, key, val, R⟩ := R
  obtain ⟨h1, a1, R1, k1⟩ := ri_th (t := 0) R
  have q1 := R1.1.1
  have r1 := R1.2.2.1.1
  have r2 := R1.2.2.1.2.1
  obtain ⟨T', g1, g2, g3⟩ := rwb (n := tl) (o := 0) (h0 := h1) (t := 306) (nt := 65536) (T0 := X) row (fun f h i => L_Rm_message_7 f h 304 i) (by
    intro i f T hi
    have q2 : (h1.set 306 (pB 65536 T))[304]? = _ := hn_ (by decide) q1
    have t2 : (h1.set 306 (pB 65536 T))[305]? = _ := hn_ (by decide) r1
    have p := tB_in (x := (row i).toInt32) i (hs_ (d := pB 65536 T) r2) rfl (by omega) (by omega)
    rw [i8_r, hss] at p
    show B_Rm_message_7 (L_Rm_message_7 f) (h1.set 306 (pB 65536 T)) 304 (nI i) = _
    unfold B_Rm_message_7
    rw [bs_ (gI_at q2 rfl), if_neg (nI_ge hi (by omega)), bs_ (gR_at q2 rfl), bs_ (gR_at q2 rfl), show ldB (h1.set 306 (pB 65536 T)) (304 + 1) (nI i) = some (row i).toInt32 from sB_in i t2 rfl (by omega) (by omega), bs_ rfl, show stB (h1.set 306 (pB 65536 T)) (304 + 2) (nI i) _ = _ from p, bs_ rfl, lt_e, nI_ofInt1, Nat.zero_add]) tl 0 (FU - tl) X (by omega) (fun k hk => absurd hk (Nat.not_lt_zero _)) (fun _ _ => rfl)
  rw [hid r2, show tl + (FU - tl) = FU from by have : FU = 70000 := rfl; omega] at g1
  have R2 := ri_X (X' := T') R1
  obtain ⟨h4, a4, R4, k4⟩ := ri_me (n := tl) R2
  obtain ⟨h5, a5, R5, k5⟩ := ri_ta (n := 0) R4
  refine ⟨h5, T', ?_, ⟨E, pn, qn, key, val, R5⟩, k1.tr ((KI.st (by decide)).tr (k4.tr k5)), fun k hk => by have := g2 k hk; rw [Nat.zero_add] at this; exact this⟩
  unfold P_Rm_message
  rw [bs_ a1]
  refine (show L_Rm_message_7 FU h1 304 0 = _ from g1).trans ?_
  obtain ⟨f, hf⟩ : ∃ f, FU - tl = f + 1 := ⟨FU - tl - 1, by have : FU = 70000 := rfl; omega⟩
  rw [hf]
  show B_Rm_message_7 _ _ 304 (nI tl) = _
  unfold B_Rm_message_7
  rw [bs_ (gI_at R2.1.1 rfl), if_pos (nI_le (Nat.le_refl _) (by omega)), bs_ (gI_at R2.1.1 rfl), bs_ a4, show pV h4 304 8 5 (.int 0) = _ from a5, bs_ rfl, bs_ (gI_at R5.1.1 rfl)]
theorem r_key0 (R : RI th tl kc ml rl sm row ky X res vc h) (ht : tl ≤ 65536) (h32 : tl ≠ 32) : ∃ h', P_Rm_key h 304 = some (0, h') ∧ RI 1 tl kc ml rl sm row ky X res vc h' ∧ KI 304 348 h h' := by
  obtain ⟨E, pn, qn, key, val, R⟩ := R
  obtain ⟨h1, a1, R1, k1⟩ := ri_th (t := 0) R
  obtain ⟨h2, a2, R2, k2⟩ := r_fail (c := 1) R1
  refine ⟨h2, ?_, R2, k1.tr k2⟩
  unfold P_Rm_key
  rw [bs_ a1, bs_ (gI_at R1.1.1 rfl), if_neg (show ¬ nI tl = 32 from fun c => h32 ((nI_eq (b := 32) (by omega) (by decide)).mp c)), os_ R1.1.1, bs2 a2]
theorem ri_rk {th' : Int32} {E E' : Nat → Nat} {pn qn pn' qn' : Int32} {key val : Nat → Int8} {h' : HP} (R : RI0 th tl kc ml rl sm row ky X res vc E pn qn key val h) (Q : RQ 304 th' (nI tl) (nI ml) (nI rl) (nI kc) pn' qn' h' E') (k : RKq 304 h h') : RI0 th' tl kc ml rl sm row ky X res vc E' pn' qn' key val h' := by
  obtain ⟨a, b, ⟨c1, c2, c3, c4⟩, cnt, d1, d2⟩ := R
  have e : ∀ j, j ≠ 304 → j < 317 ∨ (331 ≤ j ∧ j < 335) ∨ 341 ≤ j → h'[j]? = h[j]? := fun j h1 h2 => k.2 j h1 (by omega) (by omega)
  exact ⟨Q, rch_q b Q (fun j hj => e j (by omega) (by omega)), ⟨(e 305 (by decide) (by decide)).trans c1, (e 306 (by decide) (by decide)).trans c2, (e 307 (by decide) (by decide)).trans c3, (e 308 (by decide) (by decide)).trans c4⟩, cnt, (e 309 (by decide) (by decide)).trans d1, d2⟩
theorem ki_rk {h' : HP} (k : RKq 304 h h') : KI 304 348 h h' := ⟨k.1, fun j hj => k.2 j (by omega) (by omega) (by omega)⟩
theorem r_key1 (R : RI th tl kc ml rl sm row ky X res vc h) (hk : kc ≤ 100) (h32 : tl = 32) :
    (¬ rng (be row 32) → ∃ h', P_Rm_key h 304 = some (0, h') ∧ RI 1 tl kc ml rl sm row ky X res vc h' ∧ KI 304 348 h h') ∧ (rng (be row 32) → kc = 100 → ∃ h', P_Rm_key h 304 = some (0, h') ∧ RI 2 tl kc ml rl sm row ky X res vc h' ∧ KI 304 348 h h') ∧
    (rng (be row 32) → kc < 100 → ∃ h' ky', P_Rm_key h 304 = some (nI kc, h') ∧ RI 0 0 (kc + 1) ml rl sm row ky' X res vc h' ∧ KI 304 348 h h' ∧ (∀ k, k < 32 → ky' (32 * kc + k) = row k) ∧ ∀ j, j < 32 * kc → ky' j = ky j) := by
  obtain ⟨E, pn, qn, key, val, R⟩ := R
  obtain ⟨h1, a1, R1, k1⟩ := ri_th (t := 0) R
  obtain ⟨h5, b1, b2, b3⟩ := w_load R1.1.2 (t := 25) (kr := 305) (at' := 0) (ro_d (by decide)) (by decide) (by decide) (by decide) R1.2.2.1.1
  have eb : be (fun k => row (0 + k)) 32 = be row 32 := be_eq 32 (fun k _ => by rw [Nat.zero_add])
  rw [eb] at b2
  have Q5 := rq_of R1.1 b3 b2
  have R5 := ri_rk R1 Q5 (RK.kq b3)
  have K5 : KI 304 348 h h5 := k1.tr (ki_rk (RK.kq b3))
  have rv : RV 304 h5 25 (be row 32) := by have := rv_i Q5.2 (i := 25) (ro_d (by decide)); rw [up1_s] at this; exact this
  have go : ∀ T, P_Rm_key h 304 = T ↔ (if bi (decide (be row 32 = 0)) = 0 then
  if bi (decide (be row 32 < NN)) = 0 then
  B_Rm_key_56 h5 304
  else
  if nI kc = 100 then
  ob h5 304 8 (
  bnd2 (P_Rm_fail h5 304 2) fun v27 h26 =>
  some (v27, h26))
  else
  L_Rm_key_79 FU h5 304 0
  else
  B_Rm_key_56 h5 304) = T := by
    intro T
    unfold P_Rm_key
    rw [bs_ a1, bs_ (gI_at R1.1.1 rfl), if_pos (by rw [h32]; rfl), bs_ (gR_at R1.1.1 rfl), bs_ (gR_at R1.1.1 rfl), show P_Rm_load h1 (304 + 25) (304 + 1) 0 = _ from b1, bs_ rfl, bs_ (gR_at Q5.1 rfl), bs2 (w_zero rv), bs_ (gR_at Q5.1 rfl), bs_ (gR_at Q5.1 rfl), bs2 (w_below rv (rv_m Q5.2 mo_n)), bs_ (gI_at Q5.1 rfl)]
  obtain ⟨hf, f1, f2, f3⟩ := r_fail (c := 1) R5
  have e56 : B_Rm_key_56 h5 304 = some (0, hf) := by
    unfold B_Rm_key_56
    rw [os_ Q5.1, bs2 f1]
  refine ⟨fun nr => ⟨hf, ?_, f2, K5.tr f3⟩, fun rg k100 => ?_, fun rg kl => ?_⟩
  · rw [go]
    by_cases z : be row 32 = 0
    · rw [decide_eq_true z, if_neg (show ¬ bi true = 0 by decide)]; exact e56
    · rw [decide_eq_false z, if_pos (show bi false = 0 by decide), decide_eq_false (fun c => nr ⟨c, z⟩), if_pos (show bi false = 0 by decide)]; exact e56
  · obtain ⟨hg, g1, g2, g3⟩ := r_fail (c := 2) R5
    refine ⟨hg, ?_, g2, K5.tr g3⟩
    rw [go, decide_eq_false rg.2, if_pos (show bi false = 0 by decide), decide_eq_true rg.1, if_neg (show ¬ bi true = 0 by decide), if_pos (by rw [k100]; rfl), os_ Q5.1, bs2 g1]
  · have q1 := Q5.1
    have r1 := R5.2.2.1.1
    have r4 := R5.2.2.1.2.2.2
    obtain ⟨T', g1, g2, g3⟩ := rwb (n := 32) (o := 32 * kc) (h0 := h5) (t := 308) (nt := 3200) (T0 := ky) row (fun f h i => L_Rm_key_79 f h 304 i) (by
      intro i f T hi
      have q2 : (h5.set 308 (pB 3200 T))[304]? = _ := hn_ (by decide) q1
      have t2 : (h5.set 308 (pB 3200 T))[305]? = _ := hn_ (by decide) r1
      have p := tB_in (x := (row i).toInt32) (32 * kc + i) (hs_ (d := pB 3200 T) r4) rfl (by omega) (by omega)
      rw [i8_r, hss] at p
      show B_Rm_key_79 (L_Rm_key_79 f) (h5.set 308 (pB 3200 T)) 304 (nI i) = _
      unfold B_Rm_key_79
      rw [if_neg (show ¬ (32 : Int32) ≤ nI i from nI_ge (b := 32) hi (by decide)), bs_ (gR_at q2 rfl), bs_ (gI_at q2 rfl), bs_ (gR_at q2 rfl), show ldB (h5.set 308 (pB 3200 T)) (304 + 1) (nI i) = some (row i).toInt32 from sB_in i t2 rfl (by omega) (by omega), bs_ rfl, show (32 : Int32) * nI kc + nI i = nI (32 * kc + i) from by rw [show (32 : Int32) = nI 32 from rfl, pk_mul, nI_add], show stB (h5.set 308 (pB 3200 T)) (304 + 4) (nI (32 * kc + i)) _ = _ from p, bs_ rfl, lt_e, nI_ofInt1]) 32 0 (FU - 32) ky rfl (fun k hk => absurd hk (Nat.not_lt_zero _)) (fun _ _ => rfl)
    rw [hid r4] at g1
    have R6 := ri_ky (ky' := T') R5
    obtain ⟨h7, a7, R7, k7⟩ := ri_ta (n := 0) R6
    obtain ⟨h8, a8, R8, k8⟩ := ri_kc (n := kc + 1) R7
    refine ⟨h8, T', ?_, ⟨_, pn, qn, key, val, R8⟩, K5.tr ((KI.st (by decide)).tr (k7.tr k8)), g2, fun j hj => g3 j (by omega)⟩
    rw [go, decide_eq_false rg.2, if_pos (show bi false = 0 by decide), decide_eq_true rg.1, if_neg (show ¬ bi true = 0 by decide), if_neg (show ¬ nI kc = 100 from fun c => by have := (nI_eq (b := 100) (by omega) (by decide)).mp c; omega)]
    refine (show L_Rm_key_79 FU h5 304 0 = _ from g1).trans ?_
    obtain ⟨f, hf⟩ : ∃ f, FU - 32 = f + 1 := ⟨FU - 33, rfl⟩
    rw [hf]
    show B_Rm_key_79 _ _ 304 (nI 32) = _
    unfold B_Rm_key_79
    rw [if_pos (show (32 : Int32) ≤ nI 32 by decide), show pV (h5.set 308 (pB 3200 T')) 304 8 5 (.int 0) = _ from a7, bs_ rfl, bs_ (gI_at R7.1.1 rfl), nI_1, bs_ a8, bs_ (gI_at R8.1.1 rfl), nI_pred]
end RCB
