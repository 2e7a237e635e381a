/-! SHA-256 of the class: begin, take, the end of a row, the digest -/
def SHo (p ks kw kb : Nat) (h : HP) : Prop := ∃ (u t : Int32) (s w : Nat → Int32) (b : Nat → Int8), h[p]? = some (pO 4 [.ref ks, .ref kw, .ref kb, .int u, .int t]) ∧ h[ks]? = some (pI 8 s) ∧ h[kw]? = some (pI 64 w) ∧ h[kb]? = some (pB 64 b)
theorem SHA.o {p ks kw kb : Nat} {X : Nat → Int8} {m m0 : Nat} {h : HP} (S : SHA p ks kw kb X m m0 h) : SHo p ks kw kb h := by
  obtain ⟨s, w, b, h1, h2, h3, h4, -, -⟩ := S
  exact ⟨_, _, s, w, b, h1, h2, h3, h4⟩
theorem cpT_at {h : HP} {t b n1 : Nat} {g : Nat → Int32} {n : Nat} (e : h[b]? = some (pI n1 g)) (h7 : t < 7) (hn : n ≤ (stab t).1) (hn1 : n ≤ n1) (hn31 : n < 2 ^ 31) : cpT h t 0 b 0 (nI n) = some (h.set b (pI n1 (va_cpy (stab t).2 g 0 0 n))) := by
  unfold cpT
  rw [e]
  show (if _ then none else _) = _
  rw [if_neg (by
    rintro (z | z | z | z | z | z)
    · omega
    · exact absurd z (by decide)
    · exact absurd z (by decide)
    · exact nI_pos hn31 z
    · rw [nI_clamp hn31, show (0 : Int32).toNatClampNeg = 0 from rfl] at z; omega
    · rw [nI_clamp hn31, show (0 : Int32).toNatClampNeg = 0 from rfl] at z; omega), nI_clamp hn31]
  rfl
theorem e_begin {h : HP} {p ks kw kb : Nat} (ap : AP4 p ks kw kb) (S : SHo p ks kw kb h) (X : Nat → Int8) : ∃ h', P_Sh_begin h p = some h' ∧ SHA p ks kw kb X 0 0 h' ∧ KP [p, ks, kw, kb] h h' := by
  obtain ⟨a1, a2, a3, a4, a5, a6⟩ := ap
  obtain ⟨u, t, s, w, b, hp, hs, hw, hb⟩ := S
  refine ⟨(h.set ks (pI 8 (va_cpy (stab 0).2 s 0 0 8))).set p (pO 4 [.ref ks, .ref kw, .ref kb, .int 0, .int 0]), ?_, ⟨_, w, b, hs_ (hn_ a1 hp), hn_ a1.symm (hs_ hs), hn_ a2.symm (hn_ a5.symm hw), hn_ a3.symm (hn_ a6 hb), ?_, fun i hi => absurd hi (Nat.not_lt_zero _)⟩, KP.tr (KP.st (by simp)) (KP.st (by simp))⟩
  · unfold P_Sh_begin
    refine (bs_ (gR_at hp rfl)).trans ?_
    refine (bs_ (cpT_at (n := 8) hs (by decide) (by decide) (by decide) (by decide))).trans ?_
    refine (bs_ (pV_at (hn_ a1 hp) (Nat.le_of_ble_eq_true rfl))).trans ?_
    refine (bs_ (pV_at (hs_ (hn_ a1 hp)) (Nat.le_of_ble_eq_true rfl))).trans ?_
    rw [hss]
    rfl
  · intro j hj
    show va_cpy (stab 0).2 s 0 0 8 j = va_cpy (stab 0).2 (fun _ => 0) 0 0 8 j
    unfold va_cpy
    simp [hj]
theorem e_take {h : HP} {p ks kw kb row : Nat} (ap : AP4 p ks kw kb) {X : Nat → Int8} {rn : Nat} {rf : Nat → Int8} {len m : Nat} (hrow : row ∉ [p, ks, kw, kb]) (hlen : len ≤ rn) (hl : len < 70000) (hm : m < 2 ^ 30) (S : SHA p ks kw kb X m m h) (hr : h[row]? = some (pB rn rf)) (hX : ∀ q, q < len → rf q = X (m + q)) : ∃ h', P_Sh_take h p row (nI len) = some h' ∧ SHA p ks kw kb X (m + len) (m + len) h' ∧ KP [p, ks, kw, kb] h h' :=
  tk1 ap hrow hlen (by omega) hm len 0 FU m h rfl hl S hr (fun q hq => by rw [Nat.zero_add]; exact hX q hq)
/-- the four bytes of a word -/
def wb (w : Int32) (q : Nat) : Int8 := match q with
  | 0 => ((w.toUInt32 >>> (Int32.toUInt32 24 &&& Int32.toUInt32 31)).toInt32).toInt8
  | 1 => ((w.toUInt32 >>> (Int32.toUInt32 16 &&& Int32.toUInt32 31)).toInt32).toInt8
  | 2 => ((w.toUInt32 >>> (Int32.toUInt32 8 &&& Int32.toUInt32 31)).toInt32).toInt8
  | _ => w.toInt8
def pt4 (f : Nat → Int8) (at' : Nat) (w : Int32) : Nat → Int8 := va_up (va_up (va_up (va_up f at' (wb w 0)) (at' + 1) (wb w 1)) (at' + 2) (wb w 2)) (at' + 3) (wb w 3)
theorem e_put {h : HP} {k n : Nat} {f : Nat → Int8} {w i : Int32} (a : Nat) (e : h[k]? = some (pB n f)) (hi : i = nI a) (ha : a + 4 ≤ n) (hn : n < 2 ^ 31) : P_Wo_put h w k i = some (h.set k (pB n (pt4 f a w))) := by
  subst hi
  unfold P_Wo_put
  refine (bs_ (tB_in a e rfl (by omega) (by omega))).trans ?_
  refine (bs_ (tB_in (a + 1) (hs_ e) (show nI a + nI 1 = _ from nI_add _ _) (by omega) (by omega))).trans ?_
  refine (bs_ (tB_in (a + 2) (hs_ (hs_ e)) (show nI a + nI 2 = _ from nI_add _ _) (by omega) (by omega))).trans ?_
  refine (bs_ (tB_in (a + 3) (hs_ (hs_ (hs_ e))) (show nI a + nI 3 = _ from nI_add _ _) (by omega) (by omega))).trans ?_
  simp only [hss, Int8.toInt8_toInt32]
  rfl
theorem cl1 {p kb : Nat} {fs : List Value} (hf : fs[2]? = some (.ref kb)) (hkp : kb ≠ p) : ∀ (m n f : Nat) (h : HP) (b : Nat → Int8), m + n = 64 → m < f → h[p]? = some (pO 4 fs) → h[kb]? = some (pB 64 b) → ∃ b', L_Sh_clearRestOfBlock_5 f h p (nI n) = some (h.set kb (pB 64 b')) ∧ (∀ i, n ≤ i → i < 64 → b' i = 0) ∧ ∀ i, i < n → b' i = b i := by
  intro m
  induction m with
  | zero =>
    intro n f h b hm hfu hp hb
    cases f with
    | zero => omega
    | succ f =>
      have hn : n = 64 := by omega
      subst hn
      refine ⟨b, ?_, fun i h1 h2 => by omega, fun _ _ => rfl⟩
      show B_Sh_clearRestOfBlock_5 _ h p (nI 64) = _
      unfold B_Sh_clearRestOfBlock_5
      rw [if_pos (show (64 : Int32) ≤ nI 64 by decide), hid hb]
  | succ m ih =>
    intro n f h b hm hfu hp hb
    cases f with
    | zero => omega
    | succ f =>
      obtain ⟨b', g1, g2, g3⟩ := ih (n + 1) f _ _ (by omega) (by omega) (hn_ (d := pB 64 (va_up b n 0)) hkp hp) (hs_ hb)
      refine ⟨b', ?_, fun i h1 h2 => ?_, fun i hi => ?_⟩
      · show B_Sh_clearRestOfBlock_5 (L_Sh_clearRestOfBlock_5 f) h p (nI n) = _
        unfold B_Sh_clearRestOfBlock_5
        rw [if_neg (show ¬ (64 : Int32) ≤ nI n from nI_ge (b := 64) (by omega) (by omega))]
        refine (bs_ (gR_at hp hf)).trans ?_
        refine (bs_ (tB_in n hb rfl (by omega) (by omega))).trans ?_
        show L_Sh_clearRestOfBlock_5 f _ p (nI n + Int32.ofInt 1) = _
        rw [nI_ofInt1]
        refine g1.trans ?_
        rw [hss]
      · by_cases z : i = n
        · subst z; rw [g3 i (by omega), up_s]
        · exact g2 i (by omega) h2
      · rw [g3 i (by omega), up_n (by omega)]
theorem e_clear {h : HP} {p ks kw kb : Nat} {n : Nat} {t : Int32} {b : Nat → Int8} (hn : n ≤ 64) (hkp : kb ≠ p) (hp : h[p]? = some (pO 4 [.ref ks, .ref kw, .ref kb, .int (nI n), .int t])) (hb : h[kb]? = some (pB 64 b)) : ∃ b', P_Sh_clearRestOfBlock h p = some (h.set kb (pB 64 b')) ∧ (∀ i, n ≤ i → i < 64 → b' i = 0) ∧ ∀ i, i < n → b' i = b i := by
  obtain ⟨b', g1, g2, g3⟩ := cl1 (fs := [.ref ks, .ref kw, .ref kb, .int (nI n), .int t]) rfl hkp (64 - n) n FU h b (by omega) (show 64 - n < 70000 by omega) hp hb
  refine ⟨b', ?_, g2, g3⟩
  unfold P_Sh_clearRestOfBlock
  refine (bs_ (gI_at hp rfl)).trans ?_
  exact g1
def outS (f : Nat → Int8) (s : Nat → Int32) : Nat → (Nat → Int8)
  | 0 => f
  | n + 1 => pt4 (outS f s n) (4 * n) (s n)
theorem outS_eq {f : Nat → Int8} {s s' : Nat → Int32} (h : s8 s s') : ∀ n, n ≤ 8 → outS f s n = outS f s' n
  | 0, _ => rfl
  | n + 1, hn => by
    show pt4 (outS f s n) (4 * n) (s n) = pt4 (outS f s' n) (4 * n) (s' n)
    rw [outS_eq h n (by omega), h n (by omega)]
theorem fo1 {p ks to : Nat} {fs : List Value} {s : Nat → Int32} {tn : Nat} {tf : Nat → Int8} (hf : fs[0]? = some (.ref ks)) (h32 : 32 ≤ tn) (ht31 : tn < 2 ^ 31) (htp : to ≠ p) (hts : to ≠ ks) : ∀ (m n f : Nat) (h : HP), m + n = 8 → m < f → h[p]? = some (pO 4 fs) → h[ks]? = some (pI 8 s) → h[to]? = some (pB tn (outS tf s n)) → L_Sh_finish_64 f h p to (nI n) = some (h.set to (pB tn (outS tf s 8))) := by
  intro m
  induction m with
  | zero =>
    intro n f h hm hfu hp hs ht
    cases f with
    | zero => omega
    | succ f =>
      have hn : n = 8 := by omega
      subst hn
      show B_Sh_finish_64 _ h p to (nI 8) = _
      unfold B_Sh_finish_64
      rw [if_pos (show (8 : Int32) ≤ nI 8 by decide), hid ht]
  | succ m ih =>
    intro n f h hm hfu hp hs ht
    cases f with
    | zero => omega
    | succ f =>
      show B_Sh_finish_64 (L_Sh_finish_64 f) h p to (nI n) = _
      unfold B_Sh_finish_64
      rw [if_neg (show ¬ (8 : Int32) ≤ nI n from nI_ge (b := 8) (by omega) (by omega))]
      refine (bs_ (gR_at hp hf)).trans ?_
      refine (bs_ (sI_in n hs rfl (by omega) (by omega))).trans ?_
      refine (bs_ (e_put (4 * n) ht (show nI 4 * nI n = _ from pk_mul _ _) (by omega) ht31)).trans ?_
      show L_Sh_finish_64 f _ p to (nI n + Int32.ofInt 1) = _
      rw [nI_ofInt1]
      refine (ih (n + 1) f _ (by omega) (by omega) (hn_ htp hp) (hn_ hts hs) (hs_ ht)).trans ?_
      rw [hss]
/-- the row X of m bytes with its end: 128, zeros, eight times m in its last four bytes -/
def XP (X : Nat → Int8) (m : Nat) (i : Nat) : Int8 := if i < m then X i else if i = m then -128 else if i < 64 * ((m + 72) / 64) - 4 then 0 else wb (nI (8 * m)) (i - (64 * ((m + 72) / 64) - 4))
/-- the end of a block behind which nothing is left to lay but the length -/
theorem ff1 {h : HP} {p ks kw kb to : Nat} (ap : AP4 p ks kw kb) {X : Nat → Int8} {m n k : Nat} {s w : Nat → Int32} {b : Nat → Int8} {tn : Nat} {tf : Nat → Int8} (hn : n ≤ 56) (hto : to ∉ [p, ks, kw, kb]) (h32 : 32 ≤ tn) (ht31 : tn < 2 ^ 31)
    (hp : h[p]? = some (pO 4 [.ref ks, .ref kw, .ref kb, .int (nI n), .int (nI m)])) (hs0 : h[ks]? = some (pI 8 s)) (hw : h[kw]? = some (pI 64 w)) (hb : h[kb]? = some (pB 64 b)) (ht : h[to]? = some (pB tn tf))
    (hk : (m + 72) / 64 = k + 1) (e1 : s8 s (hs (XP X m) k)) (e2 : ∀ i, i < n → b i = XP X m (64 * k + i)) (e3 : m < 64 * k + n) : ∃ h', B_Sh_finish_38 h p to = some h' ∧ SHo p ks kw kb h' ∧ h'[to]? = some (pB tn (outS tf (hs (XP X m) (k + 1)) 8)) ∧ KP [p, ks, kw, kb, to] h h' := by
  obtain ⟨a1, a2, a3, a4, a5, a6⟩ := ap
  have hne : ∀ q ∈ [p, ks, kw, kb], q ≠ to := fun q hq e => hto (e ▸ hq)
  obtain ⟨b', g1, g2, g3⟩ := e_clear (by omega) a3 hp hb
  have hbl : ∀ i, i < 64 → pt4 b' 60 (nI (8 * m)) i = XP X m (64 * k + i) := by
    intro i hi
    unfold pt4
    by_cases z : i < 60
    · rw [up_n (by omega), up_n (by omega), up_n (by omega), up_n (by omega)]
      by_cases y : i < n
      · rw [g3 i y]; exact e2 i y
      · rw [g2 i (by omega) hi]
        unfold XP
        rw [if_neg (by omega), if_neg (by omega), if_pos (by omega)]
    · have hx : XP X m (64 * k + i) = wb (nI (8 * m)) (i - 60) := by
        unfold XP
        rw [if_neg (by omega), if_neg (by omega), if_neg (by omega)]
        congr 1
        omega
      rw [hx]
      have hi4 : i = 60 ∨ i = 61 ∨ i = 62 ∨ i = 63 := by omega
      rcases hi4 with rfl | rfl | rfl | rfl <;> rfl
  have hcm : s8 (cmp8 s (sch (lay (pt4 b' 60 (nI (8 * m))) w 16) 48)) (hs (XP X m) (k + 1)) := by
    rw [cmp_eq (b' := fun i => XP X m (64 * k + i)) hbl]
    exact cmp_s8 e1
  have ht2 := hn_ (d := pB 64 (pt4 b' 60 (nI (8 * m)))) (hne kb (by simp)) ht
  have hp2 := hn_ (d := pB 64 (pt4 b' 60 (nI (8 * m)))) a3 hp
  have hs2 := hn_ (d := pB 64 (pt4 b' 60 (nI (8 * m)))) a6.symm hs0
  have hw2 := hn_ (d := pB 64 (pt4 b' 60 (nI (8 * m)))) a4.symm hw
  have hb2 := hs_ (d := pB 64 (pt4 b' 60 (nI (8 * m)))) hb
  have kp2 : KP [p, ks, kw, kb, to] h (h.set kb (pB 64 (pt4 b' 60 (nI (8 * m))))) := KP.st (by simp)
  have hput : P_Wo_put (h.set kb (pB 64 b')) (8 * nI m) kb 60 = some (h.set kb (pB 64 (pt4 b' 60 (nI (8 * m))))) := by
    refine (e_put 60 (hs_ hb) rfl (by omega) (by omega)).trans ?_
    rw [hss, show (8 : Int32) * nI m = nI (8 * m) from pk_mul 8 m]
  refine ⟨((((h.set kb (pB 64 (pt4 b' 60 (nI (8 * m))))).set kw (pI 64 (sch (lay (pt4 b' 60 (nI (8 * m))) w 16) 48))).set ks (pI 8 (cmp8 s (sch (lay (pt4 b' 60 (nI (8 * m))) w 16) 48)))).set p (pO 4 [.ref ks, .ref kw, .ref kb, .int 0, .int (nI m)])).set to (pB tn (outS tf (cmp8 s (sch (lay (pt4 b' 60 (nI (8 * m))) w 16) 48)) 8)), ?_, ?_, ?_, ?_⟩
  · unfold B_Sh_finish_38
    refine (os_ hp).trans ?_
    refine (bs_ g1).trans ?_
    refine (bs_ (gI_at (hn_ a3 hp) rfl)).trans ?_
    refine (bs_ (gR_at (hn_ a3 hp) rfl)).trans ?_
    refine (bs_ hput).trans ?_
    refine (os_ hp2).trans ?_
    refine (bs_ (e_mixBlock a1 a2 a4 a5 hp2 hs2 hw2 hb2)).trans ?_
    exact fo1 (fs := [.ref ks, .ref kw, .ref kb, .int 0, .int (nI m)]) (tf := tf) rfl h32 ht31 (hne p (by simp)).symm (hne ks (by simp)).symm 8 0 FU _ rfl (by decide) (hs_ (hn_ a1 (hn_ a2 hp2))) (hn_ a1.symm (hs_ (hn_ a5 hs2))) (hn_ (hne p (by simp)) (hn_ (hne ks (by simp)) (hn_ (hne kw (by simp)) ht2)))
  · exact ⟨_, _, _, _, _, hn_ (hne p (by simp)).symm (hs_ (hn_ a1 (hn_ a2 hp2))), hn_ (hne ks (by simp)).symm (hn_ a1.symm (hs_ (hn_ a5 hs2))), hn_ (hne kw (by simp)).symm (hn_ a2.symm (hn_ a5.symm (hs_ hw2))), hn_ (hne kb (by simp)).symm (hn_ a3.symm (hn_ a6 (hn_ a4 hb2)))⟩
  · rw [outS_eq hcm 8 (Nat.le_refl _)]
    exact hs_ (hn_ (hne p (by simp)) (hn_ (hne ks (by simp)) (hn_ (hne kw (by simp)) ht2)))
  · exact KP.tr kp2 (KP.tr (KP.tr (KP.tr (KP.st (by simp)) (KP.st (by simp))) (KP.st (by simp))) (KP.st (by simp)))
theorem e_finish {h : HP} {p ks kw kb to : Nat} (ap : AP4 p ks kw kb) {X : Nat → Int8} {m : Nat} {tn : Nat} {tf : Nat → Int8} (S : SHA p ks kw kb X m m h) (hto : to ∉ [p, ks, kw, kb]) (h32 : 32 ≤ tn) (ht31 : tn < 2 ^ 31) (ht : h[to]? = some (pB tn tf)) : ∃ h', P_Sh_finish h p to = some h' ∧ SHo p ks kw kb h' ∧ h'[to]? = some (pB tn (outS tf (hs (XP X m) ((m + 72) / 64)) 8)) ∧ KP [p, ks, kw, kb, to] h h' := by
  have ap0 := ap
  obtain ⟨a1, a2, a3, a4, a5, a6⟩ := ap
  have hne : ∀ q ∈ [p, ks, kw, kb], q ≠ to := fun q hq e => hto (e ▸ hq)
  obtain ⟨s, w, b, hp, hs0, hw, hb, e1, e2⟩ := S
  have hm64 : m % 64 < 64 := Nat.mod_lt _ (by decide)
  have hx1 : s8 s (hs (XP X m) (m / 64)) := by
    rw [hs_eq (X := XP X m) (Y := X) (m / 64) (fun i hi => by unfold XP; rw [if_pos (by omega)])]
    exact e1
  have hb1 : ∀ i, i < m % 64 + 1 → va_up b (m % 64) (-128) i = XP X m (64 * (m / 64) + i) := by
    intro i hi
    by_cases z : i = m % 64
    · subst z
      rw [up_s]
      unfold XP
      rw [if_neg (by omega), if_pos (by omega)]
    · rw [up_n z, e2 i (by omega)]
      unfold XP
      rw [if_pos (by omega)]
  have q1 : ((h.set kb (pB 64 (va_up b (m % 64) (-128)))).set p (pO 4 [.ref ks, .ref kw, .ref kb, .int (nI (m % 64 + 1)), .int (nI m)]))[p]? = _ := hs_ (hn_ a3 hp)
  have q2 : ((h.set kb (pB 64 (va_up b (m % 64) (-128)))).set p (pO 4 [.ref ks, .ref kw, .ref kb, .int (nI (m % 64 + 1)), .int (nI m)]))[ks]? = _ := hn_ a1.symm (hn_ a6.symm hs0)
  have q3 : ((h.set kb (pB 64 (va_up b (m % 64) (-128)))).set p (pO 4 [.ref ks, .ref kw, .ref kb, .int (nI (m % 64 + 1)), .int (nI m)]))[kw]? = _ := hn_ a2.symm (hn_ a4.symm hw)
  have q4 : ((h.set kb (pB 64 (va_up b (m % 64) (-128)))).set p (pO 4 [.ref ks, .ref kw, .ref kb, .int (nI (m % 64 + 1)), .int (nI m)]))[kb]? = _ := hn_ a3.symm (hs_ hb)
  have q5 : ((h.set kb (pB 64 (va_up b (m % 64) (-128)))).set p (pO 4 [.ref ks, .ref kw, .ref kb, .int (nI (m % 64 + 1)), .int (nI m)]))[to]? = _ := hn_ (hne p (by simp)) (hn_ (hne kb (by simp)) ht)
  have kp1 : KP [p, ks, kw, kb, to] h ((h.set kb (pB 64 (va_up b (m % 64) (-128)))).set p (pO 4 [.ref ks, .ref kw, .ref kb, .int (nI (m % 64 + 1)), .int (nI m)])) := KP.tr (KP.st (by simp)) (KP.st (by simp))
  have st1 : P_Sh_finish h p to = (if nI (m % 64 + 1) ≤ 56 then B_Sh_finish_38 ((h.set kb (pB 64 (va_up b (m % 64) (-128)))).set p (pO 4 [.ref ks, .ref kw, .ref kb, .int (nI (m % 64 + 1)), .int (nI m)])) p to else ob ((h.set kb (pB 64 (va_up b (m % 64) (-128)))).set p (pO 4 [.ref ks, .ref kw, .ref kb, .int (nI (m % 64 + 1)), .int (nI m)])) p 4 (bnd (P_Sh_clearRestOfBlock ((h.set kb (pB 64 (va_up b (m % 64) (-128)))).set p (pO 4 [.ref ks, .ref kw, .ref kb, .int (nI (m % 64 + 1)), .int (nI m)])) p) fun h16 => ob h16 p 4 (bnd (P_Sh_mixBlock h16 p) fun h17 => B_Sh_finish_38 h17 p to))) := by
    unfold P_Sh_finish
    refine (bs_ (gR_at hp rfl)).trans ?_
    refine (bs_ (gI_at hp rfl)).trans ?_
    refine (bs_ (tB_in (m % 64) hb rfl hm64 (by omega))).trans ?_
    refine (bs_ (gI_at (hn_ a3 hp) rfl)).trans ?_
    refine (bs_ (pV_at (hn_ a3 hp) (Nat.le_of_ble_eq_true rfl))).trans ?_
    rw [show nI (m % 64) + 1 = nI (m % 64 + 1) from nI_1 _]
    exact bs_ (gI_at q1 rfl)
  rw [st1]
  generalize (h.set kb (pB 64 (va_up b (m % 64) (-128)))).set p (pO 4 [.ref ks, .ref kw, .ref kb, .int (nI (m % 64 + 1)), .int (nI m)]) = g at q1 q2 q3 q4 q5 kp1
  by_cases z : m % 64 + 1 ≤ 56
  · rw [if_pos (show nI (m % 64 + 1) ≤ (56 : Int32) from (show nI (m % 64 + 1) ≤ nI 56 from nI_le z (by omega)))]
    obtain ⟨h', g1, g2, g3, g4⟩ := ff1 (X := X) (k := m / 64) ap0 z hto h32 ht31 q1 q2 q3 q4 q5 (by omega) hx1 hb1 (by omega)
    rw [show (m + 72) / 64 = m / 64 + 1 by omega]
    exact ⟨h', g1, g2, g3, KP.tr kp1 g4⟩
  · rw [if_neg (show ¬ nI (m % 64 + 1) ≤ (56 : Int32) from (show ¬ nI (m % 64 + 1) ≤ nI 56 from nI_ge (by omega) (by omega))), os_ q1]
    obtain ⟨b', c1, c2, c3⟩ := e_clear (by omega) a3 q1 q4
    rw [bs_ c1, os_ (hn_ a3 q1), bs_ (e_mixBlock a1 a2 a4 a5 (hn_ a3 q1) (hn_ a6.symm q2) (hn_ a4.symm q3) (hs_ q4))]
    have hbl : ∀ i, i < 64 → b' i = XP X m (64 * (m / 64) + i) := by
      intro i hi
      by_cases y : i < m % 64 + 1
      · rw [c3 i y]; exact hb1 i y
      · rw [c2 i (by omega) hi]
        unfold XP
        rw [if_neg (by omega), if_neg (by omega), if_pos (by omega)]
    have hcm : s8 (cmp8 s (sch (lay b' w 16) 48)) (hs (XP X m) (m / 64 + 1)) := by
      rw [cmp_eq (b' := fun i => XP X m (64 * (m / 64) + i)) hbl]
      exact cmp_s8 hx1
    have kp2 : KP [p, ks, kw, kb, to] g ((((g.set kb (pB 64 b')).set kw (pI 64 (sch (lay b' w 16) 48))).set ks (pI 8 (cmp8 s (sch (lay b' w 16) 48)))).set p (pO 4 [.ref ks, .ref kw, .ref kb, .int 0, .int (nI m)])) := KP.tr (KP.tr (KP.tr (KP.st (by simp)) (KP.st (by simp))) (KP.st (by simp))) (KP.st (by simp))
    obtain ⟨h', g1, g2, g3, g4⟩ := ff1 (X := X) (m := m) (n := 0) (k := m / 64 + 1) ap0 (by omega) hto h32 ht31 (hs_ (hn_ a1 (hn_ a2 (hn_ a3 q1)))) (hn_ a1.symm (hs_ (hn_ a5 (hn_ a6.symm q2)))) (hn_ a2.symm (hn_ a5.symm (hs_ (hn_ a4.symm q3)))) (hn_ a3.symm (hn_ a6 (hn_ a4 (hs_ q4)))) (hn_ (hne p (by simp)) (hn_ (hne ks (by simp)) (hn_ (hne kw (by simp)) (hn_ (hne kb (by simp)) q5)))) (by omega) hcm (fun i hi => absurd hi (Nat.not_lt_zero _)) (by omega)
    rw [show (m + 72) / 64 = m / 64 + 1 + 1 by omega]
    exact ⟨h', g1, g2, g3, KP.tr kp1 (KP.tr kp2 g4)⟩
theorem e_digest {h : HP} {p ks kw kb row to : Nat} (ap : AP4 p ks kw kb) (S : SHo p ks kw kb h) {rn len tn : Nat} {X tf : Nat → Int8} (hrow : row ∉ [p, ks, kw, kb]) (hto : to ∉ [p, ks, kw, kb]) (hlen : len ≤ rn) (hl : len < 70000) (h32 : 32 ≤ tn) (ht31 : tn < 2 ^ 31) (hr : h[row]? = some (pB rn X)) (ht : h[to]? = some (pB tn tf)) : ∃ h', P_Sh_digest h p row (nI len) to = some h' ∧ SHo p ks kw kb h' ∧ h'[to]? = some (pB tn (outS tf (hs (XP X len) ((len + 72) / 64)) 8)) ∧ KP [p, ks, kw, kb, to] h h' := by
  obtain ⟨h1, b1, b2, b3⟩ := e_begin ap S X
  obtain ⟨h2, c1, c2, c3⟩ := e_take (len := len) (m := 0) ap hrow hlen hl (by omega) b2 ((b3.2 row hrow).trans hr) (fun q _ => by rw [Nat.zero_add])
  rw [Nat.zero_add] at c2
  obtain ⟨h3, d1, d2, d3, d4⟩ := e_finish ap c2 hto h32 ht31 ((c3.2 to hto).trans ((b3.2 to hto).trans ht))
  obtain ⟨_, _, _, _, _, o1, -⟩ := S
  obtain ⟨_, _, _, _, _, o2, -⟩ := b2.o
  obtain ⟨_, _, _, _, _, o3, -⟩ := c2.o
  refine ⟨h3, ?_, d2, d3, KP.tr (b3.up (fun j hj => by simp at hj ⊢; omega)) (KP.tr (c3.up (fun j hj => by simp at hj ⊢; omega)) d4)⟩
  unfold P_Sh_digest
  rw [os_ o1, bs_ b1, os_ o2, bs_ c1, os_ o3, bs_ d1]
