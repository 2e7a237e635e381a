/-! SHA-256 of the reference -/
theorem lt_e {α β : Type} {a : α} {k : α → β} : lt a k = k a := rfl
theorem i4_ac (a b c d : Int32) : ((a + b) + c) + d = ((d + c) + b) + a := by
  rw [Int32.add_comm ((a + b) + c) d, Int32.add_comm (a + b) c, ← Int32.add_assoc d c (a + b), Int32.add_comm a b, ← Int32.add_assoc (d + c) b a]
theorem tr7 (h : HP) (x : Int32) : P_Rm_turned h x 7 = some (((x.toUInt32 >>> (Int32.toUInt32 7 &&& Int32.toUInt32 31)).toInt32) ||| (x <<< (25 &&& 31)), h) := by
  unfold P_Rm_turned; rw [show (32 - 7 : Int32) = 25 by decide]
theorem tr18 (h : HP) (x : Int32) : P_Rm_turned h x 18 = some (((x.toUInt32 >>> (Int32.toUInt32 18 &&& Int32.toUInt32 31)).toInt32) ||| (x <<< (14 &&& 31)), h) := by
  unfold P_Rm_turned; rw [show (32 - 18 : Int32) = 14 by decide]
theorem tr17 (h : HP) (x : Int32) : P_Rm_turned h x 17 = some (((x.toUInt32 >>> (Int32.toUInt32 17 &&& Int32.toUInt32 31)).toInt32) ||| (x <<< (15 &&& 31)), h) := by
  unfold P_Rm_turned; rw [show (32 - 17 : Int32) = 15 by decide]
theorem tr19 (h : HP) (x : Int32) : P_Rm_turned h x 19 = some (((x.toUInt32 >>> (Int32.toUInt32 19 &&& Int32.toUInt32 31)).toInt32) ||| (x <<< (13 &&& 31)), h) := by
  unfold P_Rm_turned; rw [show (32 - 19 : Int32) = 13 by decide]
theorem tr6 (h : HP) (x : Int32) : P_Rm_turned h x 6 = some (((x.toUInt32 >>> (Int32.toUInt32 6 &&& Int32.toUInt32 31)).toInt32) ||| (x <<< (26 &&& 31)), h) := by
  unfold P_Rm_turned; rw [show (32 - 6 : Int32) = 26 by decide]
theorem tr11 (h : HP) (x : Int32) : P_Rm_turned h x 11 = some (((x.toUInt32 >>> (Int32.toUInt32 11 &&& Int32.toUInt32 31)).toInt32) ||| (x <<< (21 &&& 31)), h) := by
  unfold P_Rm_turned; rw [show (32 - 11 : Int32) = 21 by decide]
theorem tr25 (h : HP) (x : Int32) : P_Rm_turned h x 25 = some (((x.toUInt32 >>> (Int32.toUInt32 25 &&& Int32.toUInt32 31)).toInt32) ||| (x <<< (7 &&& 31)), h) := by
  unfold P_Rm_turned; rw [show (32 - 25 : Int32) = 7 by decide]
theorem tr2 (h : HP) (x : Int32) : P_Rm_turned h x 2 = some (((x.toUInt32 >>> (Int32.toUInt32 2 &&& Int32.toUInt32 31)).toInt32) ||| (x <<< (30 &&& 31)), h) := by
  unfold P_Rm_turned; rw [show (32 - 2 : Int32) = 30 by decide]
theorem tr13 (h : HP) (x : Int32) : P_Rm_turned h x 13 = some (((x.toUInt32 >>> (Int32.toUInt32 13 &&& Int32.toUInt32 31)).toInt32) ||| (x <<< (19 &&& 31)), h) := by
  unfold P_Rm_turned; rw [show (32 - 13 : Int32) = 19 by decide]
theorem tr22 (h : HP) (x : Int32) : P_Rm_turned h x 22 = some (((x.toUInt32 >>> (Int32.toUInt32 22 &&& Int32.toUInt32 31)).toInt32) ||| (x <<< (10 &&& 31)), h) := by
  unfold P_Rm_turned; rw [show (32 - 22 : Int32) = 10 by decide]
/-- a word's upper half -/
def hi32 (v : Int64) : Int32 := Int64.toInt32 ((v.toUInt64 >>> ((Int32.toInt64 32).toUInt64 &&& Int64.toUInt64 63)).toInt64)
theorem ro1 {K3 : HP → Nat → Int32 → Option HP} {p ks kw kr : Nat} {fs : List Value} {s w : Nat → Int32} {rts : Nat → Int64} (hf : fs[46]? = some (.ref ks)) (hf1 : fs[45]? = some (.ref kw)) (hf2 : fs[43]? = some (.ref kr)) (hpk : ks ≠ p) {h : HP} (hp : h[p]? = some (pO 8 fs)) (hk : h[ks]? = some (pI 8 s)) (hw : h[kw]? = some (pI 64 w)) (hr : h[kr]? = some (pJ 80 rts)) (hR : ∀ i, i < 64 → hi32 (rts i) = (stab 1).2 i) : ∀ (m n f : Nat) (a b c d e f' g i : Int32), m + n = 64 → m < f →
    L_Rm_over_162 K3 f h p a b c d e f' g i (nI n) = some (h.set ks (pI 8 (up8 s (mxr w m n a b c d e f' g i)))) := by
  intro m
  induction m with
  | zero =>
    intro n f a b c d e f' g i hm hfu
    cases f with
    | zero => omega
    | succ f =>
      have hn : n = 64 := by omega
      subst hn
      show B_Rm_over_162 K3 _ h p a b c d e f' g i (nI 64) = _
      unfold B_Rm_over_162
      rw [if_pos (show (64 : Int32) ≤ nI 64 by decide)]
      refine (bs_ (gR_at hp hf)).trans ?_
      refine (bs_ (sI_in 0 hk rfl (by omega) (by omega))).trans ?_
      refine (bs_ (tI_in 0 hk rfl (by omega) (by omega))).trans ?_
      refine (bs_ (gR_at (hn_ hpk hp) hf)).trans ?_
      refine (bs_ (sI_in 1 (hs_ hk) rfl (by omega) (by omega))).trans ?_
      refine (bs_ (tI_in 1 (hs_ hk) rfl (by omega) (by omega))).trans ?_
      refine (bs_ (gR_at (hn_ hpk (hn_ hpk hp)) hf)).trans ?_
      refine (bs_ (sI_in 2 (hs_ (hs_ hk)) rfl (by omega) (by omega))).trans ?_
      refine (bs_ (tI_in 2 (hs_ (hs_ hk)) rfl (by omega) (by omega))).trans ?_
      refine (bs_ (gR_at (hn_ hpk (hn_ hpk (hn_ hpk hp))) hf)).trans ?_
      refine (bs_ (sI_in 3 (hs_ (hs_ (hs_ hk))) rfl (by omega) (by omega))).trans ?_
      refine (bs_ (tI_in 3 (hs_ (hs_ (hs_ hk))) rfl (by omega) (by omega))).trans ?_
      refine (bs_ (gR_at (hn_ hpk (hn_ hpk (hn_ hpk (hn_ hpk hp)))) hf)).trans ?_
      refine (bs_ (sI_in 4 (hs_ (hs_ (hs_ (hs_ hk)))) rfl (by omega) (by omega))).trans ?_
      refine (bs_ (tI_in 4 (hs_ (hs_ (hs_ (hs_ hk)))) rfl (by omega) (by omega))).trans ?_
      refine (bs_ (gR_at (hn_ hpk (hn_ hpk (hn_ hpk (hn_ hpk (hn_ hpk hp))))) hf)).trans ?_
      refine (bs_ (sI_in 5 (hs_ (hs_ (hs_ (hs_ (hs_ hk))))) rfl (by omega) (by omega))).trans ?_
      refine (bs_ (tI_in 5 (hs_ (hs_ (hs_ (hs_ (hs_ hk))))) rfl (by omega) (by omega))).trans ?_
      refine (bs_ (gR_at (hn_ hpk (hn_ hpk (hn_ hpk (hn_ hpk (hn_ hpk (hn_ hpk hp)))))) hf)).trans ?_
      refine (bs_ (sI_in 6 (hs_ (hs_ (hs_ (hs_ (hs_ (hs_ hk)))))) rfl (by omega) (by omega))).trans ?_
      refine (bs_ (tI_in 6 (hs_ (hs_ (hs_ (hs_ (hs_ (hs_ hk)))))) rfl (by omega) (by omega))).trans ?_
      refine (bs_ (gR_at (hn_ hpk (hn_ hpk (hn_ hpk (hn_ hpk (hn_ hpk (hn_ hpk (hn_ hpk hp))))))) hf)).trans ?_
      refine (bs_ (sI_in 7 (hs_ (hs_ (hs_ (hs_ (hs_ (hs_ (hs_ hk))))))) rfl (by omega) (by omega))).trans ?_
      refine (bs_ (tI_in 7 (hs_ (hs_ (hs_ (hs_ (hs_ (hs_ (hs_ hk))))))) rfl (by omega) (by omega))).trans ?_
      simp only [hss]
      rfl
  | succ m ih =>
    intro n f a b c d e f' g i hm hfu
    cases f with
    | zero => omega
    | succ f =>
      show B_Rm_over_162 K3 (L_Rm_over_162 K3 f) h p a b c d e f' g i (nI n) = _
      unfold B_Rm_over_162
      rw [if_neg (show ¬ (64 : Int32) ≤ nI n from nI_ge (b := 64) (by omega) (by omega))]
      refine (bs2 (tr6 _ _)).trans ?_
      refine (bs2 (tr11 _ _)).trans ?_
      refine (bs2 (tr25 _ _)).trans ?_
      refine (bs_ (gR_at hp hf2)).trans ?_
      refine (bs_ (sJ_in n hr rfl (by omega) (by omega))).trans ?_
      refine (bs_ (gR_at hp hf1)).trans ?_
      refine (bs_ (sI_in n hw rfl (by omega) (by omega))).trans ?_
      refine lt_e.trans ?_
      refine (bs2 (tr2 _ _)).trans ?_
      refine (bs2 (tr13 _ _)).trans ?_
      refine (bs2 (tr22 _ _)).trans ?_
      show L_Rm_over_162 K3 f h p (((((i + sE e) + ((e &&& f') ^^^ ((e ^^^ (-1)) &&& g))) + hi32 (rts n)) + w n) + (sA a + (((a &&& b) ^^^ (a &&& c)) ^^^ (b &&& c)))) a b c (d + ((((i + sE e) + ((e &&& f') ^^^ ((e ^^^ (-1)) &&& g))) + hi32 (rts n)) + w n)) e f' g (nI n + Int32.ofInt 1) = _
      rw [nI_ofInt1, hR n (by omega)]
      exact ih (n + 1) f _ _ _ _ _ _ _ _ (by omega) (by omega)
theorem ro2 {p ks kw kr : Nat} {fs : List Value} {s w : Nat → Int32} {rts : Nat → Int64} (hf : fs[46]? = some (.ref ks)) (hf1 : fs[45]? = some (.ref kw)) (hf2 : fs[43]? = some (.ref kr)) (hpk : ks ≠ p) (hpw : kw ≠ p) (hws : kw ≠ ks) (hwr : kw ≠ kr) (hR : ∀ i, i < 64 → hi32 (rts i) = (stab 1).2 i) : ∀ (m n f : Nat) (h : HP), m + n = 48 → m < f → h[p]? = some (pO 8 fs) → h[ks]? = some (pI 8 s) → h[kw]? = some (pI 64 (sch w n)) → h[kr]? = some (pJ 80 rts) → L_Rm_over_3 f h p (nI (n + 16)) = some ((h.set kw (pI 64 (sch w 48))).set ks (pI 8 (cmp8 s (sch w 48)))) := by
  intro m
  induction m with
  | zero =>
    intro n f h hm hfu hp hk hw hr
    cases f with
    | zero => omega
    | succ f =>
      have hn : n = 48 := by omega
      subst hn
      show B_Rm_over_3 _ h p (nI 64) = _
      unfold B_Rm_over_3
      rw [if_pos (show (64 : Int32) ≤ nI 64 by decide), hid hw]
      refine (bs_ (gR_at hp hf)).trans ?_
      refine (bs_ (sI_in 0 hk rfl (by omega) (by omega))).trans ?_
      refine (bs_ (gR_at hp hf)).trans ?_
      refine (bs_ (sI_in 1 hk rfl (by omega) (by omega))).trans ?_
      refine (bs_ (gR_at hp hf)).trans ?_
      refine (bs_ (sI_in 2 hk rfl (by omega) (by omega))).trans ?_
      refine (bs_ (gR_at hp hf)).trans ?_
      refine (bs_ (sI_in 3 hk rfl (by omega) (by omega))).trans ?_
      refine (bs_ (gR_at hp hf)).trans ?_
      refine (bs_ (sI_in 4 hk rfl (by omega) (by omega))).trans ?_
      refine (bs_ (gR_at hp hf)).trans ?_
      refine (bs_ (sI_in 5 hk rfl (by omega) (by omega))).trans ?_
      refine (bs_ (gR_at hp hf)).trans ?_
      refine (bs_ (sI_in 6 hk rfl (by omega) (by omega))).trans ?_
      refine (bs_ (gR_at hp hf)).trans ?_
      refine (bs_ (sI_in 7 hk rfl (by omega) (by omega))).trans ?_
      exact ro1 hf hf1 hf2 hpk hp hk hw hr hR 64 0 FU _ _ _ _ _ _ _ _ rfl (by decide)
  | succ m ih =>
    intro n f h hm hfu hp hk hw hr
    cases f with
    | zero => omega
    | succ f =>
      show B_Rm_over_3 (L_Rm_over_3 f) h p (nI (n + 16)) = _
      unfold B_Rm_over_3
      have g := gR_at hp hf1
      rw [if_neg (show ¬ (64 : Int32) ≤ nI (n + 16) from nI_ge (b := 64) (by omega) (by omega))]
      refine (bs_ g).trans ?_
      refine (bs_ (sI_in (n + 1) hw (show nI (n + 16) - nI 15 = _ from pk_sub (by omega)) (by omega) (by omega))).trans ?_
      refine (bs_ g).trans ?_
      refine (bs_ (sI_in (n + 14) hw (show nI (n + 16) - nI 2 = _ from pk_sub (by omega)) (by omega) (by omega))).trans ?_
      refine (bs_ g).trans ?_
      refine (bs_ g).trans ?_
      refine (bs_ (sI_in n hw (show nI (n + 16) - nI 16 = _ from pk_sub (by omega)) (by omega) (by omega))).trans ?_
      refine (bs2 (tr7 _ _)).trans ?_
      refine (bs2 (tr18 _ _)).trans ?_
      refine (bs_ g).trans ?_
      refine (bs_ (sI_in (n + 9) hw (show nI (n + 16) - nI 7 = _ from pk_sub (by omega)) (by omega) (by omega))).trans ?_
      refine (bs2 (tr17 _ _)).trans ?_
      refine (bs2 (tr19 _ _)).trans ?_
      refine (bs_ (tI_in (n + 16) hw rfl (by omega) (by omega))).trans ?_
      show L_Rm_over_3 f (h.set kw (pI 64 (va_up (sch w n) (n + 16) (((sch w n n + sg0 (sch w n (n + 1))) + sch w n (n + 9)) + sg1 (sch w n (n + 14)))))) p (nI (n + 16) + Int32.ofInt 1) = _
      rw [nI_ofInt1, show n + 16 + 1 = (n + 1) + 16 by omega, show ((sch w n n + sg0 (sch w n (n + 1))) + sch w n (n + 9)) + sg1 (sch w n (n + 14)) = ((sg1 (sch w n (n + 14)) + sch w n (n + 9)) + sg0 (sch w n (n + 1))) + sch w n n from i4_ac _ _ _ _]
      refine (ih (n + 1) f _ (by omega) (by omega) (hn_ hpw hp) (hn_ hws hk) (hs_ hw) (hn_ hwr hr)).trans ?_
      rw [hss]
theorem e_over {h : HP} {p ks kw kr : Nat} {fs : List Value} {s w : Nat → Int32} {rts : Nat → Int64} (hf : fs[46]? = some (.ref ks)) (hf1 : fs[45]? = some (.ref kw)) (hf2 : fs[43]? = some (.ref kr)) (hpk : ks ≠ p) (hpw : kw ≠ p) (hws : kw ≠ ks) (hwr : kw ≠ kr) (hR : ∀ i, i < 64 → hi32 (rts i) = (stab 1).2 i) (hp : h[p]? = some (pO 8 fs)) (hk : h[ks]? = some (pI 8 s)) (hw : h[kw]? = some (pI 64 w)) (hr : h[kr]? = some (pJ 80 rts)) : P_Rm_over h p = some ((h.set kw (pI 64 (sch w 48))).set ks (pI 8 (cmp8 s (sch w 48)))) :=
  ro2 hf hf1 hf2 hpk hpw hws hwr hR 48 0 FU h rfl (by decide) hp hk hw hr
/-! the padded bytes of the reference -/
theorem ush {K j : Nat} (hK : K < 2 ^ 32) (hj : j < 32) : ((nI K).toUInt32 >>> ((nI j).toUInt32 &&& Int32.toUInt32 31)).toInt32 = nI (K / 2 ^ j) := by
  apply b_ext
  intro i hi
  rw [b_ushr j hj]
  show (BitVec.ofNat 32 K).getLsbD (j + i) = (BitVec.ofNat 32 (K / 2 ^ j)).getLsbD i
  rw [BitVec.getLsbD_ofNat, BitVec.getLsbD_ofNat, Nat.testBit_div_two_pow, Nat.add_comm i j]
  by_cases z : j + i < 32
  · simp [z, hi]
  · have : K.testBit (j + i) = false := Nat.testBit_lt_two_pow (Nat.lt_of_lt_of_le hK (Nat.pow_le_pow_right (by decide) (by omega)))
    simp [this]
theorem e_padded {h : HP} {row rn n i : Nat} {X : Nat → Int8} (hr : h[row]? = some (pB rn X)) (hn : n ≤ rn) (hn2 : n < 2 ^ 20) (hi : i < 64 * ((n + 72) / 64)) : P_Rm_padded h row (nI n) (nI i) (nI (64 * ((n + 72) / 64))) = some ((XP X n i).toInt32 &&& 255, h) := by
  unfold P_Rm_padded XP
  by_cases z1 : i < n
  · rw [if_neg (nI_ge z1 (by omega)), if_pos z1]
    refine (bs_ (sB_in i hr rfl (by omega) (by omega))).trans ?_
    rfl
  · rw [if_pos (nI_le (by omega) (by omega)), if_neg z1]
    by_cases z2 : i = n
    · rw [if_pos ((nI_eq (by omega) (by omega)).mpr z2), if_pos z2]
      rfl
    · rw [if_neg (fun e => z2 ((nI_eq (by omega) (by omega)).mp e)), if_neg z2]
      have e8 : nI (64 * ((n + 72) / 64)) - 8 = nI (64 * ((n + 72) / 64) - 8) := pk_sub (b := 8) (by omega)
      rw [e8]
      by_cases z3 : 64 * ((n + 72) / 64) - 8 ≤ i
      · rw [if_pos (nI_le z3 (by omega))]
        have e9 : (8 : Int32) * ((nI (64 * ((n + 72) / 64)) - 1) - nI i) = nI (8 * (64 * ((n + 72) / 64) - 1 - i)) := by
          show nI 8 * ((nI (64 * ((n + 72) / 64)) - nI 1) - nI i) = _
          rw [pk_sub (by omega), pk_sub (by omega), pk_mul]
        have e10 : (8 : Int64) * Int32.toInt64 (nI n) = lN (8 * n) := by
          rw [nI_l (by omega)]; exact lN_mul 8 n
        rw [e9, e10, wb_shr (by omega) (by omega), lN_i]
        by_cases z4 : i < 64 * ((n + 72) / 64) - 4
        · rw [if_pos z4, Nat.div_eq_of_lt (Nat.lt_of_lt_of_le (show 8 * n < 2 ^ 32 by omega) (Nat.pow_le_pow_right (by decide) (by omega)))]
          rfl
        · rw [if_neg z4]
          have hq : ∃ q, q < 4 ∧ i = 64 * ((n + 72) / 64) - 4 + q := ⟨i - (64 * ((n + 72) / 64) - 4), by omega, by omega⟩
          obtain ⟨q, hq4, hq⟩ := hq
          rw [show i - (64 * ((n + 72) / 64) - 4) = q by omega, show 64 * ((n + 72) / 64) - 1 - i = 3 - q by omega]
          have f0 : ((nI (8 * n)).toUInt32 >>> (Int32.toUInt32 24 &&& Int32.toUInt32 31)).toInt32 = nI (8 * n / 2 ^ 24) := ush (j := 24) (by omega) (by decide)
          have f1 : ((nI (8 * n)).toUInt32 >>> (Int32.toUInt32 16 &&& Int32.toUInt32 31)).toInt32 = nI (8 * n / 2 ^ 16) := ush (j := 16) (by omega) (by decide)
          have f2 : ((nI (8 * n)).toUInt32 >>> (Int32.toUInt32 8 &&& Int32.toUInt32 31)).toInt32 = nI (8 * n / 2 ^ 8) := ush (j := 8) (by omega) (by decide)
          match q, hq4 with
          | 0, _ =>
            show some (nI (8 * n / 2 ^ 24) &&& 255, h) = some ((((nI (8 * n)).toUInt32 >>> (Int32.toUInt32 24 &&& Int32.toUInt32 31)).toInt32).toInt8.toInt32 &&& 255, h)
            rw [bp_b, f0]
          | 1, _ =>
            show some (nI (8 * n / 2 ^ 16) &&& 255, h) = some ((((nI (8 * n)).toUInt32 >>> (Int32.toUInt32 16 &&& Int32.toUInt32 31)).toInt32).toInt8.toInt32 &&& 255, h)
            rw [bp_b, f1]
          | 2, _ =>
            show some (nI (8 * n / 2 ^ 8) &&& 255, h) = some ((((nI (8 * n)).toUInt32 >>> (Int32.toUInt32 8 &&& Int32.toUInt32 31)).toInt32).toInt8.toInt32 &&& 255, h)
            rw [bp_b, f2]
          | 3, _ =>
            show some (nI (8 * n / 2 ^ 0) &&& 255, h) = some ((nI (8 * n)).toInt8.toInt32 &&& 255, h)
            rw [bp_b, Nat.pow_zero, Nat.div_one]
      · rw [if_neg (nI_ge (by omega) (by omega)), if_pos (by omega)]
        rfl
