/-! the reference's object: what holds between calls; its calls end, result, count, message, key -/
theorem rw_ag {q : Nat} {h h' : HP} {E : Nat → Nat} (R : RW q h E) (k : ag (q + 1) (q + 44) h h') : RW q h' E := by
  have kk : ∀ i, 0 < i → i < 44 → h'[q + i]? = h[q + i]? := fun i h1 h2 => k _ (by omega) (by omega)
  obtain ⟨r1, ⟨a1, a2, a3, a4, a5⟩, ⟨b1, b2⟩, ⟨c1, c2, c3, c4, c5, c6⟩⟩ := R
  refine ⟨fun i hi => ?_, ⟨?_, ?_, ?_, ?_, ?_⟩, ⟨?_, ?_⟩, ⟨?_, ?_, ?_, ?_, ?_, ?_⟩⟩
  · rw [kk i (by have := hi.1; omega) (by have := hi.2; omega)]; exact r1 i hi
  all_goals rw [kk _ (by decide) (by decide)]; assumption
def RI0 (th : Int32) (tl kc ml rl : Nat) (sm : Int32) (row ky X res : Nat → Int8) (vc : Nat → Int32) (E : Nat → Nat) (pn qn : Int32) (key val : Nat → Int8) (h : HP) : Prop :=
  RQ 304 th (nI tl) (nI ml) (nI rl) (nI kc) pn qn h E ∧ RCh 304 (RFS 304 th (nI tl) (nI ml) (nI rl) (nI kc) pn qn) key val h ∧ (h[305]? = some (pB 65536 row) ∧ h[306]? = some (pB 65536 X) ∧ h[307]? = some (pB 80 res) ∧ h[308]? = some (pB 3200 ky)) ∧ ∃ cnt, h[309]? = some (pI 6 cnt) ∧ cnt 0 = sm ∧ ∀ i, i < 5 → cnt (1 + i) = vc i
def RI (th : Int32) (tl kc ml rl : Nat) (sm : Int32) (row ky X res : Nat → Int8) (vc : Nat → Int32) (h : HP) : Prop := ∃ E pn qn key val, RI0 th tl kc ml rl sm row ky X res vc E pn qn key val h
section RCA
variable {th : Int32} {tl kc ml rl : Nat} {sm : Int32} {row ky X res : Nat → Int8} {vc : Nat → Int32} {h : HP}
theorem ri_ag {h' : HP} (R : RI th tl kc ml rl sm row ky X res vc h) (k : ag 304 348 h h') : RI th tl kc ml rl sm row ky X res vc h' := by
  obtain ⟨E, pn, qn, key, val, a, b, ⟨c1, c2, c3, c4⟩, cnt, d1, d2⟩ := R
  have a' : RQ 304 th (nI tl) (nI ml) (nI rl) (nI kc) pn qn h' E := ⟨(k 304 (by decide) (by decide)).trans a.1, rw_ag a.2 (k.sub (by decide) (by decide))⟩
  exact ⟨E, pn, qn, key, val, a', rch_q b a' (fun j hj => k j (by omega) (by omega)), ⟨(k 305 (by decide) (by decide)).trans c1, (k 306 (by decide) (by decide)).trans c2, (k 307 (by decide) (by decide)).trans c3, (k 308 (by decide) (by decide)).trans c4⟩, cnt, (k 309 (by decide) (by decide)).trans d1, d2⟩
variable {E : Nat → Nat} {pn qn : Int32} {key val : Nat → Int8}
theorem ri_set {th' : Int32} {tl' kc' ml' rl' : Nat} (R : RI0 th tl kc ml rl sm row ky X res vc E pn qn key val h) : RI0 th' tl' kc' ml' rl' sm row ky X res vc E pn qn key val (h.set 304 (pO 8 (RFS 304 th' (nI tl') (nI ml') (nI rl') (nI kc') pn qn))) := by
  obtain ⟨a, b, ⟨c1, c2, c3, c4⟩, cnt, d1, d2⟩ := R
  have e : ∀ j, j ≠ 304 → (h.set 304 (pO 8 (RFS 304 th' (nI tl') (nI ml') (nI rl') (nI kc') pn qn)))[j]? = h[j]? := fun j hj => List.getElem?_set_ne (Ne.symm hj)
  have a' : RQ 304 th' (nI tl') (nI ml') (nI rl') (nI kc') pn qn (h.set 304 (pO 8 (RFS 304 th' (nI tl') (nI ml') (nI rl') (nI kc') pn qn))) E := ⟨hs_ a.1, rw_q a.2⟩
  exact ⟨a', rch_q b a' (fun j hj => e j (by omega)), ⟨(e 305 (by decide)).trans c1, (e 306 (by decide)).trans c2, (e 307 (by decide)).trans c3, (e 308 (by decide)).trans c4⟩, cnt, (e 309 (by decide)).trans d1, d2⟩
theorem ri_pV {j : Nat} {v : Value} (R : RI0 th tl kc ml rl sm row ky X res vc E pn qn key val h) (hj : j < 50) : pV h 304 8 j v = some (h.set 304 (pO 8 ((RFS 304 th (nI tl) (nI ml) (nI rl) (nI kc) pn qn).set j v))) := pV_at R.1.1 hj
theorem k304 {c : PE} : KI 304 348 h (h.set 304 c) := KI.st (by decide)
/-- th is set -/
theorem ri_th {t : Int32} (R : RI0 th tl kc ml rl sm row ky X res vc E pn qn key val h) : ∃ h', pV h 304 8 0 (.int t) = some h' ∧ RI0 t tl kc ml rl sm row ky X res vc E pn qn key val h' ∧ KI 304 348 h h' := ⟨_, ri_pV R (by decide), ri_set R, k304⟩
theorem ri_ta {n : Nat} (R : RI0 th tl kc ml rl sm row ky X res vc E pn qn key val h) : ∃ h', pV h 304 8 5 (.int (nI n)) = some h' ∧ RI0 th n kc ml rl sm row ky X res vc E pn qn key val h' ∧ KI 304 348 h h' := ⟨_, ri_pV R (by decide), ri_set R, k304⟩
theorem ri_me {n : Nat} (R : RI0 th tl kc ml rl sm row ky X res vc E pn qn key val h) : ∃ h', pV h 304 8 6 (.int (nI n)) = some h' ∧ RI0 th tl kc n rl sm row ky X res vc E pn qn key val h' ∧ KI 304 348 h h' := ⟨_, ri_pV R (by decide), ri_set R, k304⟩
theorem ri_re {n : Nat} (R : RI0 th tl kc ml rl sm row ky X res vc E pn qn key val h) : ∃ h', pV h 304 8 7 (.int (nI n)) = some h' ∧ RI0 th tl kc ml n sm row ky X res vc E pn qn key val h' ∧ KI 304 348 h h' := ⟨_, ri_pV R (by decide), ri_set R, k304⟩
theorem ri_kc {n : Nat} (R : RI0 th tl kc ml rl sm row ky X res vc E pn qn key val h) : ∃ h', pV h 304 8 8 (.int (nI n)) = some h' ∧ RI0 th tl n ml rl sm row ky X res vc E pn qn key val h' ∧ KI 304 348 h h' := ⟨_, ri_pV R (by decide), ri_set R, k304⟩
theorem r_fail {c : Int32} (R : RI0 th tl kc ml rl sm row ky X res vc E pn qn key val h) : ∃ h', P_Rm_fail h 304 c = some (0, h') ∧ RI c tl kc ml rl sm row ky X res vc h' ∧ KI 304 348 h h' := by
  obtain ⟨h', a, b, c'⟩ := ri_th (t := c) R
  refine ⟨h', ?_, ⟨E, pn, qn, key, val, b⟩, c'⟩
  unfold P_Rm_fail
  rw [bs_ a]
theorem r_thrown (R : RI th tl kc ml rl sm row ky X res vc h) : P_Rm_thrown h 304 = some (th, h) := by
  obtain ⟨E, pn, qn, key, val, a, _⟩ := R
  unfold P_Rm_thrown
  rw [bs_ (gI_at a.1 rfl)]
theorem ri_ob {K : Option (Int32 × HP)} (R : RI th tl kc ml rl sm row ky X res vc h) : ob h 304 8 K = K := by
  obtain ⟨E, pn, qn, key, val, a, _⟩ := R
  exact os_ a.1
theorem ri_obU {K : Option HP} (R : RI th tl kc ml rl sm row ky X res vc h) : ob h 304 8 K = K := by
  obtain ⟨E, pn, qn, key, val, a, _⟩ := R
  exact os_ a.1
theorem r_end1 (R : RI th tl kc ml rl sm row ky X res vc h) {m : Nat} (hm : m ≤ tl) (ht : tl ≤ 65536) : ∃ h', P_Rm_end h 304 (nI m) = some (nI m, h') ∧ RI 0 m kc ml rl sm row ky X res vc h' ∧ KI 304 348 h h' := by
  obtain ⟨E, pn, qn, key, val, R⟩ := R
  obtain ⟨h1, a1, R1, k1⟩ := ri_th (t := 0) R
  obtain ⟨h2, a2, R2, k2⟩ := ri_ta (n := m) R1
  refine ⟨h2, ?_, ⟨E, pn, qn, key, val, R2⟩, k1.tr k2⟩
  unfold P_Rm_end
  rw [bs_ a1, if_neg (nI_pos (by omega)), bs_ (gI_at R1.1.1 rfl), if_pos (nI_le hm (by omega)), bs_ a2]
theorem r_end0 (R : RI th tl kc ml rl sm row ky X res vc h) {x : Int32} (hx : x < 0 ∨ (¬ x < 0 ∧ ¬ x ≤ nI tl)) : ∃ h', P_Rm_end h 304 x = some (0, h') ∧ RI 1 tl kc ml rl sm row ky X res vc h' ∧ KI 304 348 h h' := by
  obtain ⟨E, pn, qn, key, val, R⟩ := R
  obtain ⟨h1, a1, R1, k1⟩ := ri_th (t := 0) R
  obtain ⟨h2, a2, R2, k2⟩ := r_fail (c := 1) R1
  refine ⟨h2, ?_, R2, k1.tr k2⟩
  unfold P_Rm_end
  rw [bs_ a1]
  rcases hx with c | ⟨c, d⟩
  · rw [if_pos c]; unfold B_Rm_end_17; rw [os_ R1.1.1, bs2 a2]
  · rw [if_neg c, bs_ (gI_at R1.1.1 rfl), if_neg d]; unfold B_Rm_end_17; rw [os_ R1.1.1, bs2 a2]
theorem r_result1 (R : RI th tl kc ml rl sm row ky X res vc h) {i : Nat} (hi : i < rl) (hr : rl ≤ 72) : ∃ h', P_Rm_result h 304 (nI i) = some ((res i).toInt32 &&& 255, h') ∧ RI 0 tl kc ml rl sm row ky X res vc h' ∧ KI 304 348 h h' := by
  obtain ⟨E, pn, qn, key, val, R⟩ := R
  obtain ⟨h1, a1, R1, k1⟩ := ri_th (t := 0) R
  refine ⟨h1, ?_, ⟨E, pn, qn, key, val, R1⟩, k1⟩
  unfold P_Rm_result
  rw [bs_ a1, if_neg (nI_pos (by omega)), bs_ (gI_at R1.1.1 rfl), if_pos (nI_lt hi (by omega)), bs_ (gR_at R1.1.1 rfl), bs_ (sB_in i R1.2.2.1.2.2.1 rfl (by omega) (by omega))]
theorem r_result0 (R : RI th tl kc ml rl sm row ky X res vc h) {x : Int32} (hx : x < 0 ∨ (¬ x < 0 ∧ ¬ x < nI rl)) : ∃ h', P_Rm_result h 304 x = some (0, h') ∧ RI 1 tl kc ml rl sm row ky X res vc h' ∧ KI 304 348 h h' := by
  obtain ⟨E, pn, qn, key, val, R⟩ := R
  obtain ⟨h1, a1, R1, k1⟩ := ri_th (t := 0) R
  obtain ⟨h2, a2, R2, k2⟩ := r_fail (c := 1) R1
  refine ⟨h2, ?_, R2, k1.tr k2⟩
  unfold P_Rm_result
  rw [bs_ a1]
  rcases hx with c | ⟨c, d⟩
  · rw [if_pos c]; unfold B_Rm_result_17; rw [os_ R1.1.1, bs2 a2]
  · rw [if_neg c, bs_ (gI_at R1.1.1 rfl), if_neg d]; unfold B_Rm_result_17; rw [os_ R1.1.1, bs2 a2]
theorem r_none1 (R : RI th tl kc ml rl sm row ky X res vc h) {i : Nat} (hi : i < kc) (hk : kc ≤ 100) : P_Rm_none h 304 (nI i) = some (0, h) := by
  obtain ⟨E, pn, qn, key, val, R⟩ := R
  unfold P_Rm_none
  rw [if_neg (nI_pos (by omega)), bs_ (gI_at R.1.1 rfl), if_pos (nI_lt hi (by omega))]
theorem r_none0 (R : RI th tl kc ml rl sm row ky X res vc h) {x : Int32} (hx : x < 0 ∨ (¬ x < 0 ∧ nI kc ≤ x)) : P_Rm_none h 304 x = some (1, h) := by
  obtain ⟨E, pn, qn, key, val, R⟩ := R
  unfold P_Rm_none
  rcases hx with c | ⟨c, d⟩
  · rw [if_pos c]; rfl
  · rw [if_neg c, bs_ (gI_at R.1.1 rfl), if_neg (Int32.not_lt.mpr d)]; rfl
theorem r_feed0 (R : RI th tl kc ml rl sm row ky X res vc h) (ht : tl ≤ 65536) (hm : ¬ tl + 20 ≤ 65536) (a b c d e : Int32) : ∃ h', P_Rm_feed h 304 a b c d e = some (0, h') ∧ RI 1 tl kc ml rl sm row ky X res vc h' ∧ KI 304 348 h h' := by
  obtain ⟨E, pn, qn, key, val, R⟩ := R
  obtain ⟨h1, a1, R1, k1⟩ := ri_th (t := 0) R
  obtain ⟨h2, a2, R2, k2⟩ := r_fail (c := 1) R1
  refine ⟨h2, ?_, R2, k1.tr k2⟩
  unfold P_Rm_feed
  rw [bs_ a1, bs_ (gI_at R1.1.1 rfl), if_neg (show ¬ nI tl ≤ 65516 from nI_ge (a := 65516) (by omega) (by omega)), os_ R1.1.1, bs2 a2]
/-- the tape's row is set -/
theorem ri_row {row' : Nat → Int8} (R : RI0 th tl kc ml rl sm row ky X res vc E pn qn key val h) : RI0 th tl kc ml rl sm row' ky X res vc E pn qn key val (h.set 305 (pB 65536 row')) := by
  obtain ⟨a, b, ⟨c1, c2, c3, c4⟩, cnt, d1, d2⟩ := R
  have k : KP [305] h (h.set 305 (pB 65536 row')) := KP.st (by simp)
  have a' : RQ 304 th (nI tl) (nI ml) (nI rl) (nI kc) pn qn (h.set 305 (pB 65536 row')) E := ⟨(k.2 304 (by decide)).trans a.1, rw_hi a.2 k (by decide)⟩
  exact ⟨a', rch_q b a' (fun j hj => k.2 j (by simp; omega)), ⟨hs_ c1, (k.2 306 (by decide)).trans c2, (k.2 307 (by decide)).trans c3, (k.2 308 (by decide)).trans c4⟩, cnt, (k.2 309 (by decide)).trans d1, d2⟩
theorem ri_X {X' : Nat → Int8} (R : RI0 th tl kc ml rl sm row ky X res vc E pn qn key val h) : RI0 th tl kc ml rl sm row ky X' res vc E pn qn key val (h.set 306 (pB 65536 X')) := by
  obtain ⟨a, b, ⟨c1, c2, c3, c4⟩, cnt, d1, d2⟩ := R
  have k : KP [306] h (h.set 306 (pB 65536 X')) := KP.st (by simp)
  have a' : RQ 304 th (nI tl) (nI ml) (nI rl) (nI kc) pn qn (h.set 306 (pB 65536 X')) E := ⟨(k.2 304 (by decide)).trans a.1, rw_hi a.2 k (by decide)⟩
  exact ⟨a', rch_q b a' (fun j hj => k.2 j (by simp; omega)), ⟨(k.2 305 (by decide)).trans c1, hs_ c2, (k.2 307 (by decide)).trans c3, (k.2 308 (by decide)).trans c4⟩, cnt, (k.2 309 (by decide)).trans d1, d2⟩
theorem ri_res {res' : Nat → Int8} (R : RI0 th tl kc ml rl sm row ky X res vc E pn qn key val h) : RI0 th tl kc ml rl sm row ky X res' vc E pn qn key val (h.set 307 (pB 80 res')) := by
  obtain ⟨a, b, ⟨c1, c2, c3, c4⟩, cnt, d1, d2⟩ := R
  have k : KP [307] h (h.set 307 (pB 80 res')) := KP.st (by simp)
  have a' : RQ 304 th (nI tl) (nI ml) (nI rl) (nI kc) pn qn (h.set 307 (pB 80 res')) E := ⟨(k.2 304 (by decide)).trans a.1, rw_hi a.2 k (by decide)⟩
  exact ⟨a', rch_q b a' (fun j hj => k.2 j (by simp; omega)), ⟨(k.2 305 (by decide)).trans c1, (k.2 306 (by decide)).trans c2, hs_ c3, (k.2 308 (by decide)).trans c4⟩, cnt, (k.2 309 (by decide)).trans d1, d2⟩
theorem ri_ky {ky' : Nat → Int8} (R : RI0 th tl kc ml rl sm row ky X res vc E pn qn key val h) : RI0 th tl kc ml rl sm row ky' X res vc E pn qn key val (h.set 308 (pB 3200 ky')) := by
  obtain ⟨a, b, ⟨c1, c2, c3, c4⟩, cnt, d1, d2⟩ := R
  have k : KP [308] h (h.set 308 (pB 3200 ky')) := KP.st (by simp)
  have a' : RQ 304 th (nI tl) (nI ml) (nI rl) (nI kc) pn qn (h.set 308 (pB 3200 ky')) E := ⟨(k.2 304 (by decide)).trans a.1, rw_hi a.2 k (by decide)⟩
  exact ⟨a', rch_q b a' (fun j hj => k.2 j (by simp; omega)), ⟨(k.2 305 (by decide)).trans c1, (k.2 306 (by decide)).trans c2, (k.2 307 (by decide)).trans c3, hs_ c4⟩, cnt, (k.2 309 (by decide)).trans d1, d2⟩
theorem ri_vc {c : Nat} (hc : c < 5) (R : RI0 th tl kc ml rl sm row ky X res vc E pn qn key val h) : ∃ h', (bnd (ldI h 309 (1 + nI c)) fun v7 => stI h 309 (1 + nI c) (v7 + 1)) = some h' ∧ RI0 th tl kc ml rl sm row ky X res (va_up vc c (vc c + 1)) E pn qn key val h' ∧ KI 304 348 h h' := by
  obtain ⟨a, b, ⟨c1, c2, c3, c4⟩, cnt, d1, d2, d3⟩ := R
  have k : KP [309] h (h.set 309 (pI 6 (va_up cnt (1 + c) (cnt (1 + c) + 1)))) := KP.st (by simp)
  have a' : RQ 304 th (nI tl) (nI ml) (nI rl) (nI kc) pn qn (h.set 309 (pI 6 (va_up cnt (1 + c) (cnt (1 + c) + 1)))) E := ⟨(k.2 304 (by decide)).trans a.1, rw_hi a.2 k (by decide)⟩
  have e1 : (1 : Int32) + nI c = nI (1 + c) := nI_add 1 c
  refine ⟨_, ?_, ⟨a', rch_q b a' (fun j hj => k.2 j (by simp; omega)), ⟨(k.2 305 (by decide)).trans c1, (k.2 306 (by decide)).trans c2, (k.2 307 (by decide)).trans c3, (k.2 308 (by decide)).trans c4⟩, _, hs_ d1, by rw [up_n (by omega)]; exact d2, fun i hi => ?_⟩, KI.of k (by decide)⟩
  · rw [e1, bs_ (sI_in (1 + c) d1 rfl (by omega) (by omega)), tI_in (1 + c) d1 rfl (by omega) (by omega)]
  · by_cases z : i = c
    · rw [z, up_s, up_s, d3 c hc]
    · rw [up_n (by omega), up_n z]; exact d3 i hi
end RCA
