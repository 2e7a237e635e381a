/-! the reference's calls: open, agree, sign, verify, count -/
section RCC
variable {th : Int32} {tl kc ml rl : Nat} {sm : Int32} {row ky X res : Nat → Int8} {vc : Nat → Int32} {h : HP} {F : Type} {φ : Nat → F} {H : Type} {ψ : Nat → H}
theorem ri_rn {th' : Int32} {E E' : Nat → Nat} {pn qn pn' qn' : Int32} {key val key' val' : Nat → Int8} {h' : HP} (R : RI0 th tl kc ml rl sm row ky X res vc E pn qn key val h) (Q : RQ 304 th' (nI tl) (nI ml) (nI rl) (nI kc) pn' qn' h' E') (C : RCh 304 (RFS 304 th' (nI tl) (nI ml) (nI rl) (nI kc) pn' qn') key' val' h') (k : RN 304 h h') : RI0 th' tl kc ml rl sm row ky X res vc E' pn' qn' key' val' h' := by
  obtain ⟨a, b, ⟨c1, c2, c3, c4⟩, cnt, d1, d2⟩ := R
  exact ⟨Q, C, ⟨(k.2 305 (by omega)).trans c1, (k.2 306 (by omega)).trans c2, (k.2 307 (by omega)).trans c3, (k.2 308 (by omega)).trans c4⟩, cnt, (k.2 309 (by omega)).trans d1, d2⟩
theorem ki_rn {h' : HP} (k : RN 304 h h') : KI 304 348 h h' := ⟨k.1, fun j hj => k.2 j (by omega)⟩
theorem r_store {E : Nat → Nat} {pn qn : Int32} {key val : Nat → Int8} {t v at' : Nat} (R : RI0 th tl kc ml rl sm row ky X res vc E pn qn key val h) (ht : RO t) (hv : E t = v) (hat : at' + 32 ≤ 80) : ∃ h' res', P_Rm_store h 307 (nI at') (304 + t) = some h' ∧ RI0 th tl kc ml rl sm row ky X res' vc E pn qn key val h' ∧ KI 304 348 h h' ∧ (∀ k, k < 32 → res' (at' + k) = btv v k) ∧ ∀ k, k < at' ∨ at' + 32 ≤ k → res' k = res k := by
  obtain ⟨A, a1, a2⟩ := rv_i R.1.2 ht
  rw [hv] at a2
  obtain ⟨r', b1, b2, b3⟩ := e_store (kt := 307) (a := 304 + t) (at' := at') (n := 80) hat (by decide) (Nat.le_refl 16) (by have := ht.1; omega) R.2.2.1.2.2.1 a1 a2
  exact ⟨_, r', b1, ri_res R, KI.st (by decide), b2, b3⟩
theorem r_open0 (R : RI th tl kc ml rl sm row ky X res vc h) {x : Int32} (hx : x < 0 ∨ (¬ x < 0 ∧ nI kc ≤ x)) : ∃ h', P_Rm_open h 304 x = some h' ∧ RI 1 tl kc ml rl sm row ky X res vc h' ∧ KI 304 348 h h' := by
  have e := r_none0 R hx
  obtain ⟨E, pn, qn, key, val, R⟩ := R
  obtain ⟨h1, a1, R1, k1⟩ := ri_th (t := 1) R
  refine ⟨h1, ?_, ⟨E, pn, qn, key, val, R1⟩, k1⟩
  unfold P_Rm_open
  rw [os_ R.1.1, bs2 e, if_neg (by decide), bs_ a1, bs_ (gI_at R1.1.1 rfl), if_neg (by decide)]
theorem r_open1 [Lean.Grind.Field F] (Z : ZF PP φ) (R : RI th tl kc ml rl sm row ky X res vc h) {i : Nat} (hi : i < kc) (hk : kc ≤ 100) (hD : rng (be (fun k => ky (32 * i + k)) 32)) :
    ∃ h' vx vy res', P_Rm_open h 304 (nI i) = some h' ∧ RI 0 tl kc ml 65 sm row ky X res' vc h' ∧ KI 304 348 h h' ∧ vx < PP ∧ vy < PP ∧ ML φ (be (fun k => ky (32 * i + k)) 32) (φ GX, φ GY) (some (φ vx, φ vy)) ∧ res' 0 = 4 ∧ (∀ k, k < 32 → res' (1 + k) = btv vx k) ∧ ∀ k, k < 32 → res' (33 + k) = btv vy k := by
  have e := r_none1 R hi hk
  obtain ⟨E, pn, qn, key, val, R⟩ := R
  obtain ⟨D, hDD⟩ : ∃ D, D = be (fun k => ky (32 * i + k)) 32 := ⟨_, rfl⟩
  obtain ⟨h3, a1, R1, k1⟩ := ri_th (t := 0) R
  obtain ⟨h7, b1, b2, b3⟩ := w_load R1.1.2 (t := 25) (kr := 308) (at' := 32 * i) (ro_d (by decide)) (by omega) (by decide) (by decide) R1.2.2.1.2.2.2
  rw [← hDD] at b2 hD ⊢
  have Q2 := rq_of R1.1 b3 b2
  obtain ⟨h9, E3, pn3, c1, Q3, c3, c4, c5, c6, c7⟩ := w_fromBase Z Q2 (by rw [up1_s]; exact Nat.lt_trans hD.1 (show NN < 2 ^ 256 by decide))
  rw [up1_s] at c7
  have R3 := ri_rk (ri_rk R1 Q2 (RK.kq b3)) Q3 c3
  have K3 : KI 304 348 h h9 := k1.tr ((ki_rk (RK.kq b3)).tr (ki_rk c3))
  have p0 : pn3 = 0 := by
    rcases c5 with z | z
    · exact z
    · exfalso
      have : PT φ pn3 (E3 13) (E3 14) = none := by unfold PT; rw [z]; rfl
      rw [this] at c7
      exact ml_nz Z (oc_g Z) (ml_n Z) (Nat.pos_of_ne_zero hD.2) hD.1 c7
  obtain ⟨lx, ly⟩ := c6 p0
  have hT : PT φ pn3 (E3 13) (E3 14) = some (φ (E3 13), φ (E3 14)) := by unfold PT; rw [if_pos p0]
  rw [hT] at c7
  have d1 : stB h9 307 0 4 = some (h9.set 307 (pB 80 (va_up res 0 4))) := tB_in 0 R3.2.2.1.2.2.1 rfl (by decide) (by decide)
  have R4 := ri_res (res' := va_up res 0 4) R3
  obtain ⟨h11, hh⟩ : ∃ h11, h11 = h9.set 307 (pB 80 (va_up res 0 4)) := ⟨_, rfl⟩
  rw [← hh] at d1 R4
  have K4 : KI 304 348 h9 h11 := by rw [hh]; exact KI.st (by decide)
  obtain ⟨h14, r5, f1, R5, K5, f4, f5⟩ := r_store (t := 13) (at' := 1) R4 (ro_d (by decide)) rfl (by decide)
  obtain ⟨h17, r6, g1, R6, K6, g4, g5⟩ := r_store (t := 14) (at' := 33) R5 (ro_d (by decide)) rfl (by decide)
  obtain ⟨h18, j1, R7, K7⟩ := ri_re (n := 65) R6
  refine ⟨h18, E3 13, E3 14, r6, ?_, ⟨_, _, _, key, val, R7⟩, K3.tr (K4.tr (K5.tr (K6.tr K7))), lx, ly, c7, ?_, fun k hk2 => ?_, g4⟩
  · unfold P_Rm_open
    rw [os_ R.1.1, bs2 e, if_pos rfl, bs_ a1, bs_ (gI_at R1.1.1 rfl), if_pos (by decide), bs_ (gR_at R1.1.1 rfl), bs_ (gR_at R1.1.1 rfl), show (32 : Int32) * nI i = nI (32 * i) from pk_mul 32 i, show P_Rm_load h3 (304 + 25) (304 + 4) (nI (32 * i)) = _ from b1, bs_ rfl, bs_ (gR_at Q2.1 rfl), os_ Q2.1, bs_ c1, bs_ (gR_at Q3.1 rfl), show stB h9 (304 + 3) 0 4 = _ from d1, bs_ rfl, bs_ (gR_at R4.1.1 rfl), bs_ (gR_at R4.1.1 rfl), show P_Rm_store h11 (304 + 3) 1 (304 + 13) = _ from f1, bs_ rfl, bs_ (gR_at R5.1.1 rfl), bs_ (gR_at R5.1.1 rfl), show P_Rm_store h14 (304 + 3) 33 (304 + 14) = _ from g1, bs_ rfl, show pV h17 304 8 7 (.int 65) = _ from j1, bs_ rfl]
  · rw [g5 0 (by omega), f5 0 (by omega), up_s]
  · rw [g5 (1 + k) (by omega)]; exact f4 k hk2
theorem r_agree0 (R : RI th tl kc ml rl sm row ky X res vc h) {x : Int32} (hx : x < 0 ∨ (¬ x < 0 ∧ nI kc ≤ x)) : ∃ h', P_Rm_agree h 304 x = some h' ∧ RI 1 tl kc ml rl sm row ky X res vc h' ∧ KI 304 348 h h' := by
  have e := r_none0 R hx
  obtain ⟨E, pn, qn, key, val, R⟩ := R
  obtain ⟨h1, a1, R1, k1⟩ := ri_th (t := 1) R
  refine ⟨h1, ?_, ⟨E, pn, qn, key, val, R1⟩, k1⟩
  unfold P_Rm_agree
  rw [os_ R.1.1, bs2 e, if_neg (by decide), bs_ a1, bs_ (gI_at R1.1.1 rfl), if_neg (by decide)]
theorem r_agree1 (R : RI th tl kc ml rl sm row ky X res vc h) {i : Nat} (hi : i < kc) (hk : kc ≤ 100) (ht : tl ≤ 65536) (h65 : tl ≠ 65) : ∃ h', P_Rm_agree h 304 (nI i) = some h' ∧ RI 2 tl kc ml rl sm row ky X res vc h' ∧ KI 304 348 h h' := by
  have e := r_none1 R hi hk
  obtain ⟨E, pn, qn, key, val, R⟩ := R
  obtain ⟨h1, a1, R1, k1⟩ := ri_th (t := 2) R
  refine ⟨h1, ?_, ⟨E, pn, qn, key, val, R1⟩, k1⟩
  unfold P_Rm_agree
  rw [os_ R.1.1, bs2 e, if_pos rfl, bs_ (gI_at R.1.1 rfl), if_neg (show ¬ nI tl = 65 from fun c => h65 ((nI_eq (b := 65) (by omega) (by decide)).mp c)), bs_ a1, bs_ (gI_at R1.1.1 rfl), if_neg (by decide)]
theorem r_agree2 [Lean.Grind.Field F] (Z : ZF PP φ) (R : RI th tl kc ml rl sm row ky X res vc h) {i : Nat} (hi : i < kc) (hk : kc ≤ 100) (h65 : tl = 65) (hD : rng (be (fun k => ky (32 * i + k)) 32)) :
    (¬ TK φ row → ∃ h', P_Rm_agree h 304 (nI i) = some h' ∧ RI 2 tl kc ml rl sm row ky X res vc h' ∧ KI 304 348 h h') ∧
    (TK φ row → ∃ h' vx vy res', P_Rm_agree h 304 (nI i) = some h' ∧ RI 0 0 kc ml 32 sm row ky X res' vc h' ∧ KI 304 348 h h' ∧ vx < PP ∧ ML φ (be (fun k => ky (32 * i + k)) 32) (QK φ row) (some (φ vx, φ vy)) ∧ ∀ k, k < 32 → res' k = btv vx k) := by
  have e := r_none1 R hi hk
  obtain ⟨E, pn, qn, key, val, R⟩ := R
  obtain ⟨h16, E1, b, t1, Q1, t3, t4, t5, t6⟩ := w_taken Z R.1 R.2.2.1.1
  have R1 := ri_rk R Q1 (RK.kq t3)
  have K1 : KI 304 348 h h16 := ki_rk (RK.kq t3)
  constructor
  · intro nt
    have hb : b = false := by
      cases b with
      | false => rfl
      | true => exact absurd (t5.mp rfl) nt
    obtain ⟨h2, a2, R2, k2⟩ := ri_th (t := 2) R1
    refine ⟨h2, ?_, ⟨E1, pn, qn, key, val, R2⟩, K1.tr k2⟩
    unfold P_Rm_agree
    rw [os_ R.1.1, bs2 e, if_pos rfl, bs_ (gI_at R.1.1 rfl), if_pos (by rw [h65]; rfl), os_ R.1.1, bs2 t1, hb, if_pos (show bi false = 0 by decide), bs_ a2, bs_ (gI_at R2.1.1 rfl), if_neg (by decide)]
  · intro tk
    have hb : b = true := t5.mpr tk
    obtain ⟨eX, eY⟩ := t6 hb
    obtain ⟨h2, a2, R2, k2⟩ := ri_th (t := 0) R1
    obtain ⟨D, hDD⟩ : ∃ D, D = be (fun k => ky (32 * i + k)) 32 := ⟨_, rfl⟩
    obtain ⟨h7, b1, b2, b3⟩ := w_load R2.1.2 (t := 25) (kr := 308) (at' := 32 * i) (ro_d (by decide)) (by omega) (by decide) (by decide) R2.2.2.1.2.2.2
    rw [← hDD] at b2 hD ⊢
    have Q3 := rq_of R2.1 b3 b2
    have e15 : up1 E1 25 D 15 = be (fun k => row (1 + k)) 32 := by rw [up1_n (by decide)]; exact eX
    have e16 : up1 E1 25 D 16 = be (fun k => row (33 + k)) 32 := by rw [up1_n (by decide)]; exact eY
    obtain ⟨h9, E4, pn4, c1, Q4, c3, c4, c5, c6, c7⟩ := w_multiply Z Q3 (by rw [e15]; exact tk.2.1) (by rw [e16]; exact tk.2.2.1) (by rw [up1_s]; exact Nat.lt_trans hD.1 (show NN < 2 ^ 256 by decide)) (by rw [e15, e16]; exact tk.2.2.2)
    rw [e15, e16, up1_s] at c7
    have R4 := ri_rk (ri_rk R2 Q3 (RK.kq b3)) Q4 c3
    have K4 : KI 304 348 h h9 := K1.tr (k2.tr ((ki_rk (RK.kq b3)).tr (ki_rk c3)))
    have p0 : pn4 = 0 := by
      rcases c5 with z | z
      · exact z
      · exfalso
        have : PT φ pn4 (E4 13) (E4 14) = none := by unfold PT; rw [z]; rfl
        rw [this] at c7
        exact ml_nz Z tk.2.2.2 (ml_any Z tk.2.2.2) (Nat.pos_of_ne_zero hD.2) hD.1 c7
    obtain ⟨lx, ly⟩ := c6 p0
    have hT : PT φ pn4 (E4 13) (E4 14) = some (φ (E4 13), φ (E4 14)) := by unfold PT; rw [if_pos p0]
    rw [hT] at c7
    obtain ⟨h10, d1, R5, K5⟩ := ri_ta (n := 0) R4
    obtain ⟨h14, r6, f1, R6, K6, f4, f5⟩ := r_store (t := 13) (at' := 0) R5 (ro_d (by decide)) rfl (by decide)
    obtain ⟨h15, g1, R7, K7⟩ := ri_re (n := 32) R6
    refine ⟨h15, E4 13, E4 14, r6, ?_, ⟨_, _, _, key, val, R7⟩, K4.tr (K5.tr (K6.tr K7)), lx, c7, fun k hk2 => by have := f4 k hk2; rw [Nat.zero_add] at this; exact this⟩
    unfold P_Rm_agree
    rw [os_ R.1.1, bs2 e, if_pos rfl, bs_ (gI_at R.1.1 rfl), if_pos (by rw [h65]; rfl), os_ R.1.1, bs2 t1, hb, if_neg (show ¬ bi true = 0 by decide), bs_ a2, bs_ (gI_at R2.1.1 rfl), if_pos (by decide), bs_ (gR_at R2.1.1 rfl), bs_ (gR_at R2.1.1 rfl), show (32 : Int32) * nI i = nI (32 * i) from pk_mul 32 i, show P_Rm_load h2 (304 + 25) (304 + 4) (nI (32 * i)) = _ from b1, bs_ rfl, bs_ (gR_at Q3.1 rfl), os_ Q3.1, bs_ c1, show pV h9 304 8 5 (.int 0) = _ from d1, bs_ rfl, bs_ (gR_at R5.1.1 rfl), bs_ (gR_at R5.1.1 rfl), show P_Rm_store h10 (304 + 3) 0 (304 + 13) = _ from f1, bs_ rfl, show pV h14 304 8 7 (.int 32) = _ from g1, bs_ rfl]
theorem r_sign0 (R : RI th tl kc ml rl sm row ky X res vc h) {x : Int32} (hx : x < 0 ∨ (¬ x < 0 ∧ nI kc ≤ x)) : ∃ h', P_Rm_sign h 304 x = some (0, h') ∧ RI 1 tl kc ml rl sm row ky X res vc h' ∧ KI 304 348 h h' := by
  obtain ⟨E, pn, qn, key, val, R⟩ := R
  obtain ⟨h1, a1, R1, k1⟩ := ri_th (t := 0) R
  obtain ⟨h2, a2, R2, k2⟩ := r_fail (c := 1) R1
  refine ⟨h2, ?_, R2, k1.tr k2⟩
  unfold P_Rm_sign
  rw [bs_ a1, os_ R1.1.1, bs2 (r_none0 ⟨E, pn, qn, key, val, R1⟩ hx), if_neg (by decide), os_ R1.1.1, bs2 a2]
theorem r_sign1 [Lean.Grind.Field F] [Lean.Grind.Field H] (Z : ZF PP φ) (Y : ZF NN ψ) (R : RI th tl kc ml rl sm row ky X res vc h) {i : Nat} (hi : i < kc) (hk : kc ≤ 100) (hml : ml ≤ 65536) (hD : rng (be (fun k => ky (32 * i + k)) 32)) :
    ∃ h' R' S a b res', P_Rm_sign h 304 (nI i) = some (nI (6 + dl (btv R') a + dl (btv S) b), h') ∧ RI 0 tl kc ml (6 + dl (btv R') a + dl (btv S) b) (sm + 1) row ky X res' vc h' ∧ KI 304 348 h h' ∧ LD (btv R') a ∧ LD (btv S) b ∧ DS R' S a b res' ∧ SO φ ψ (be (fun k => ky (32 * i + k)) 32) (zD X ml) 100 (kB (fun k => ky (32 * i + k)) (btv (zD X ml))) (vB (fun k => ky (32 * i + k)) (btv (zD X ml))) R' S := by
  obtain ⟨E, pn, qn, key, val, R⟩ := R
  obtain ⟨h1, a1, R1, k1⟩ := ri_th (t := 0) R
  obtain ⟨h4, z, s1, Q2, O2, k2, ez⟩ := w_hashed rfl hml R1.1 R1.2.1.1 R1.2.2.1.2.1
  have ez' : z = zD X ml := ez
  have C2 : RCh 304 (RFS 304 0 (nI tl) (nI ml) (nI rl) (nI kc) pn qn) key val h4 := ⟨O2, R1.2.1.2.1, (k2.2 (304 + 27) (by decide)).trans R1.2.1.2.2.1, (k2.2 (304 + 28) (by decide)).trans R1.2.1.2.2.2.1, by rw [k2.2 (304 + 29) (by decide)]; exact R1.2.1.2.2.2.2.1, by rw [k2.2 (304 + 30) (by decide)]; exact R1.2.1.2.2.2.2.2⟩
  have N2 : RN 304 h1 h4 := RN.kp k2 (by decide)
  have R2 := ri_rn R1 Q2 C2 N2
  obtain ⟨K, K', h5, E5, pn5, qn5, key5, val5, R', S, b1, Q5, C5, N5, e23, e24, so⟩ := rs_start Z Y (z := z) (by omega) hD.1 (by rw [ez']; exact zD_lt X ml) Q2 C2 R2.2.2.1.2.2.2 up1_s
  have R5 := ri_rn R2 Q5 C5 N5
  obtain ⟨w, hw⟩ := C5.2.2.2.2.2
  obtain ⟨_, _, ⟨c1, c2, c3, c4⟩, cnt, d1, d2, d3⟩ := R5
  obtain ⟨h6, a, b, res', l1, l2, f1, Q6, f3, f4, f5, k6, ds⟩ := r_133 (K25 := K) (K73 := K') Q5 e23 e24 c3 hw d1
  rw [ez'] at so
  refine ⟨h6, R', S, a, b, res', ?_, ⟨E5, pn5, qn5, key5, val5, Q6, ?_, ⟨(k6.2 305 (by decide)).trans c1, (k6.2 306 (by decide)).trans c2, f3, (k6.2 308 (by decide)).trans c4⟩, _, f5, by rw [up_s, d2], fun j hj => by rw [up_n (by omega)]; exact d3 j hj⟩, k1.tr ((ki_rn N2).tr ((ki_rn N5).tr (KI.of k6 (by decide)))), l1, l2, ds, so⟩
  · unfold P_Rm_sign
    rw [bs_ a1, os_ R1.1.1, bs2 (r_none1 ⟨E, pn, qn, key, val, R1⟩ hi hk), if_pos rfl, os_ R1.1.1, bs_ s1, b1]
    exact f1
  · obtain ⟨⟨_, _, b1, b2, b3, b4, b5⟩, _, g1, g2, g3, g4⟩ := C5
    refine ⟨⟨Q6.1, ⟨rfl, rfl, rfl, rfl, rfl⟩, ?_, ?_, ?_, ?_, ?_⟩, ⟨rfl, rfl, rfl, rfl⟩, ?_, ?_, ?_, f4⟩
    · rw [k6.2 (304 + 40) (by decide)]; exact b1
    · rw [k6.2 (304 + 39) (by decide)]; exact b2
    · rw [k6.2 (304 + 37) (by decide)]; exact b3
    · rw [k6.2 (304 + 38) (by decide)]; exact b4
    · rw [k6.2 (304 + 43) (by decide)]; exact b5
    · rw [k6.2 (304 + 27) (by decide)]; exact g1
    · rw [k6.2 (304 + 28) (by decide)]; exact g2
    · rw [k6.2 (304 + 29) (by decide)]; exact g3
theorem r_verify0 (R : RI th tl kc ml rl sm row ky X res vc h) (h65 : ¬ 65 ≤ tl) : ∃ h', P_Rm_verify h 304 = some (0, h') ∧ RI 1 tl kc ml rl sm row ky X res vc h' ∧ KI 304 348 h h' := by
  obtain ⟨E, pn, qn, key, val, R⟩ := R
  obtain ⟨h1, a1, R1, k1⟩ := ri_th (t := 0) R
  obtain ⟨h2, a2, R2, k2⟩ := r_fail (c := 1) R1
  refine ⟨h2, ?_, R2, k1.tr k2⟩
  unfold P_Rm_verify
  rw [bs_ a1, bs_ (gI_at R1.1.1 rfl), if_neg (show ¬ (65 : Int32) ≤ nI tl from nI_ge (b := 65) (by omega) (by decide)), os_ R1.1.1, bs2 a2]
theorem r_verify1 [Lean.Grind.Field F] [Lean.Grind.Field H] (Z : ZF PP φ) (Y : ZF NN ψ) (R : RI th tl kc ml rl sm row ky X res vc h) (h65 : 65 ≤ tl) (ht : tl ≤ 65536) (hml : ml ≤ 65536) : ∃ h' c, P_Rm_verify h 304 = some (nI c, h') ∧ RI 0 0 kc ml rl sm row ky X res (va_up vc c (vc c + 1)) h' ∧ KI 304 348 h h' ∧ VC φ ψ row tl (zD X ml) c := by
  obtain ⟨E, pn, qn, key, val, R⟩ := R
  obtain ⟨h1, a1, R1, k1⟩ := ri_th (t := 0) R
  obtain ⟨h3, E3, pn3, qn3, c, b1, Q3, C3, N3, v⟩ := r_verified Z Y rfl hml R1.1 R1.2.1 R1.2.2.1.1 R1.2.2.1.2.1 h65 ht
  have R3 := ri_rn R1 Q3 C3 N3
  obtain ⟨h5, d1, R5, K5⟩ := ri_ta (n := 0) R3
  obtain ⟨h8, e1, R8, K8⟩ := ri_vc (vc_lt v) R5
  refine ⟨h8, c, ?_, ⟨E3, pn3, qn3, key, val, R8⟩, k1.tr ((ki_rn N3).tr (K5.tr K8)), v⟩
  obtain ⟨cnt, g1, _⟩ := R5.2.2.2
  have ll := vc_lt v
  have e2 : ldI h5 309 (1 + nI c) = some (cnt (1 + c)) := sI_in (1 + c) g1 (nI_add 1 c) (by omega) (by omega)
  rw [bs_ e2] at e1
  unfold P_Rm_verify
  rw [bs_ a1, bs_ (gI_at R1.1.1 rfl), if_pos (show (65 : Int32) ≤ nI tl from nI_le (a := 65) h65 (by omega)), os_ R1.1.1, bs2 b1, show pV h3 304 8 5 (.int 0) = _ from d1, bs_ rfl, bs_ (gR_at R5.1.1 rfl), show ldI h5 (304 + 5) (1 + nI c) = _ from e2, bs_ rfl, show stI h5 (304 + 5) (1 + nI c) _ = _ from e1, bs_ rfl]
end RCC
