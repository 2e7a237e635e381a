/-! the reference's put -/
section PUT
variable {q : Nat} {fs : List Value}
theorem pt_83 {K11 : HP → Nat → Int32 → Int32 → Option (Int32 × HP)} {at' a3 a4 : Nat} {g : Nat → Int8} (f3 : fs[3]? = some (.ref (q + 3))) (f36 : fs[36]? = some (.ref (q + 30))) (ha : at' + 2 + a4 + 32 ≤ 80 + a3) (h3 : a3 ≤ 31) (hat : at' < 80) (ha4 : a4 ≤ 1) :
    ∀ (r i f : Nat) (row : Nat → Int8) (h : HP), r + i = 32 → r < f → a3 ≤ i → h[q]? = some (pO 8 fs) → h[q + 3]? = some (pB 80 row) → h[q + 30]? = some (pB 65600 g) →
    L_Rm_put_83 K11 f h q (nI at') (nI a3) (nI a4) (nI i) = some (nI (at' + 2 + a4 + (32 - a3)), h.set (q + 3) (pB 80 (va_cpy g row i (at' + 2 + a4 + (i - a3)) (32 - i)))) := by
  intro r
  induction r with
  | zero =>
    intro i f row h hi hf h1 hq hr hw
    cases f with
    | zero => omega
    | succ f =>
      have e1 : i = 32 := by omega
      subst e1
      show B_Rm_put_83 K11 _ h q (nI at') (nI a3) (nI a4) (nI 32) = _
      unfold B_Rm_put_83
      rw [if_pos (show (32 : Int32) ≤ nI 32 by decide), nI_2, nI_add, show nI (at' + 2 + a4) + 32 = nI (at' + 2 + a4 + 32) from nI_add _ 32, pk_sub (by omega)]
      rw [show at' + 2 + a4 + 32 - a3 = at' + 2 + a4 + (32 - a3) by omega]
      congr 2
      have e : va_cpy g row 32 (at' + 2 + a4 + (32 - a3)) (32 - 32) = row := by
        funext k
        exact cpy_out (by omega)
      rw [e, hid hr]
  | succ r ih =>
    intro i f row h hi hf h1 hq hr hw
    cases f with
    | zero => omega
    | succ f =>
      show B_Rm_put_83 K11 (L_Rm_put_83 K11 f) h q (nI at') (nI a3) (nI a4) (nI i) = _
      unfold B_Rm_put_83
      rw [if_neg (show ¬ (32 : Int32) ≤ nI i from nI_ge (b := 32) (by omega) (by omega)), bs_ (gR_at hq f3), bs_ (gR_at hq f36), bs_ (sB_in i hw rfl (by omega) (by omega)), nI_2, nI_add, nI_add, pk_sub (by omega), bs_ (tB_in (at' + 2 + a4 + i - a3) hr rfl (by omega) (by omega))]
      refine lt_e.trans ?_
      rw [nI_ofInt1, i8_r, ih (i + 1) f _ _ (by omega) (by omega) (by omega) (hn_ (by omega) hq) (hs_ hr) (hn_ (by omega) hw), hss]
      congr 4
      funext k
      by_cases c : k = at' + 2 + a4 + i - a3
      · rw [cpy_out (by omega), c, up_s, cpy_in (by omega) (by omega)]
        congr 1
        omega
      · by_cases d : at' + 2 + a4 + (i + 1 - a3) ≤ k ∧ k < at' + 2 + a4 + (i + 1 - a3) + (32 - (i + 1))
        · rw [cpy_in d.1 d.2, cpy_in (by omega) (by omega)]
          congr 1
          omega
        · rw [cpy_out d, up_n c, cpy_out (by omega)]
theorem pt_11 {at' : Nat} {g : Nat → Int8} {h : HP} (f36 : fs[36]? = some (.ref (q + 30))) (hq : h[q]? = some (pO 8 fs)) (hw : h[q + 30]? = some (pB 65600 g)) : ∀ (r i f : Nat), r + i = 31 → r < f → (∀ k, k < i → g k = 0) → ∃ K m, L_Rm_put_11 f h q (nI at') (nI i) = B_Rm_put_32 K h q (nI at') (nI m) ∧ LD g m := by
  intro r
  induction r with
  | zero =>
    intro i fu hi hfu z
    cases fu with
    | zero => omega
    | succ fu =>
      have e1 : i = 31 := by omega
      subst e1
      refine ⟨L_Rm_put_11 fu, 31, ?_, Nat.le_refl _, z, Or.inl rfl⟩
      show B_Rm_put_11 _ h q (nI at') (nI 31) = _
      unfold B_Rm_put_11
      exact if_pos (by decide)
  | succ r ih =>
    intro i fu hi hfu z
    cases fu with
    | zero => omega
    | succ fu =>
      have go : L_Rm_put_11 (fu + 1) h q (nI at') (nI i) = (if (g i).toInt32 = 0 then L_Rm_put_11 fu h q (nI at') (nI (i + 1)) else B_Rm_put_32 (L_Rm_put_11 fu) h q (nI at') (nI i)) := by
        show B_Rm_put_11 (L_Rm_put_11 fu) h q (nI at') (nI i) = _
        unfold B_Rm_put_11
        rw [if_neg (show ¬ (31 : Int32) ≤ nI i from nI_ge (b := 31) (by omega) (by omega)), bs_ (gR_at hq f36), bs_ (sB_in i hw rfl (by omega) (by omega)), ← nI_ofInt1]
        rfl
      by_cases y : g i = 0
      · obtain ⟨K, m, a, b⟩ := ih (i + 1) fu (by omega) (by omega) (fun k hk => by
          by_cases e : k = i
          · rw [e]; exact y
          · exact z k (by omega))
        exact ⟨K, m, by rw [go, if_pos ((i8_z _).mpr y)]; exact a, b⟩
      · exact ⟨_, i, by rw [go, if_neg (fun c => y ((i8_z _).mp c))], by omega, z, Or.inr y⟩
theorem ld_eq {g g' : Nat → Int8} {a : Nat} (e : E32 g g') (h : LD g a) : LD g' a := ⟨h.1, fun k hk => by rw [← e k (by have := h.1; omega)]; exact h.2.1 k hk, by rw [← e a (by have := h.1; omega)]; exact h.2.2⟩
theorem e_putR {h : HP} {t at' v : Nat} {row w : Nat → Int8} (f3 : fs[3]? = some (.ref (q + 3))) (f36 : fs[36]? = some (.ref (q + 30))) (hq : h[q]? = some (pO 8 fs)) (hr : h[q + 3]? = some (pB 80 row)) (hw : h[q + 30]? = some (pB 65600 w)) (hv : RV q h t v) (nt : t ≠ 30) (hat : at' ≤ 37) :
    ∃ h' a row', LD (btv v) a ∧ P_Rm_put h q (nI at') (q + t) = some (nI (at' + 2 + dl (btv v) a), h') ∧ h'[q + 3]? = some (pB 80 row') ∧ (∃ w', h'[q + 30]? = some (pB 65600 w')) ∧ KP [q + 3, q + 30] h h' ∧ DWn (btv v) a at' row' ∧ ∀ k, k < at' → row' k = row k := by
  obtain ⟨A, a1, a2⟩ := hv
  obtain ⟨w', b1, b2, b3⟩ := e_store (kt := q + 30) (a := q + t) (at' := 0) (n := 65600) (by decide) (by decide) (Nat.le_refl 16) (by omega) hw a1 a2
  obtain ⟨h1, hh⟩ : ∃ h1, h1 = h.set (q + 30) (pB 65600 w') := ⟨_, rfl⟩
  rw [← hh] at b1
  have k1 : KP [q + 30] h h1 := by rw [hh]; exact KP.st (by simp)
  have hq1 : h1[q]? = some (pO 8 fs) := (k1.2 q (by simp)).trans hq
  have hr1 : h1[q + 3]? = some (pB 80 row) := (k1.2 (q + 3) (by simp)).trans hr
  have hw1 : h1[q + 30]? = some (pB 65600 w') := by rw [hh]; exact hs_ hw
  have ew : E32 w' (btv v) := fun k hk => by have := b2 k hk; rw [Nat.zero_add] at this; exact this
  obtain ⟨K, a, c1, c2⟩ := pt_11 (q := q) (fs := fs) (at' := at') f36 hq1 hw1 31 0 FU (by decide) (by decide) (fun k hk => by omega)
  have al := c2.1
  have wa : w' a = btv v a := ew a (by omega)
  have m1 : ∀ (p : Nat), p ≤ 1 → L_Rm_put_83 K FU (((h1.set (q + 3) (pB 80 (va_up row at' 2))).set (q + 3) (pB 80 (va_up (va_up row at' 2) (at' + 1) (Int32.toInt8 (nI (32 - a + p)))))).set (q + 3) (pB 80 (va_up (va_up (va_up row at' 2) (at' + 1) (Int32.toInt8 (nI (32 - a + p)))) (at' + 2) 0))) q (nI at') (nI a) (nI p) (nI a) = some (nI (at' + 2 + (32 - a + p)), h1.set (q + 3) (pB 80 (va_cpy w' (va_up (va_up (va_up row at' 2) (at' + 1) (Int32.toInt8 (nI (32 - a + p)))) (at' + 2) 0) a (at' + 2 + p) (32 - a)))) := by
    intro p hp
    rw [pt_83 f3 f36 (by omega) al (by omega) hp (32 - a) a FU _ _ (by omega) (by have : FU = 70000 := rfl; omega) (Nat.le_refl _) (hn_ (by omega) (hn_ (by omega) (hn_ (by omega) hq1))) (hs_ (hs_ (hs_ hr1))) (hn_ (by omega) (hn_ (by omega) (hn_ (by omega) hw1))), hss, hss, hss, Nat.sub_self]
    rw [show at' + 2 + p + (32 - a) = at' + 2 + (32 - a + p) by omega]
    rfl
  have fin : ∀ p, p ≤ 1 → pd (btv v) a = p → B_Rm_put_32 K h1 q (nI at') (nI a) = some (nI (at' + 2 + (32 - a + p)), h1.set (q + 3) (pB 80 (va_cpy w' (va_up (va_up (va_up row at' 2) (at' + 1) (Int32.toInt8 (nI (32 - a + p)))) (at' + 2) 0) a (at' + 2 + p) (32 - a)))) → ∃ h' a row', LD (btv v) a ∧ P_Rm_put h q (nI at') (q + t) = some (nI (at' + 2 + dl (btv v) a), h') ∧ h'[q + 3]? = some (pB 80 row') ∧ (∃ w', h'[q + 30]? = some (pB 65600 w')) ∧ KP [q + 3, q + 30] h h' ∧ DWn (btv v) a at' row' ∧ ∀ k, k < at' → row' k = row k := by
    intro p hp hpd e
    have ed : dl (btv v) a = 32 - a + p := by unfold dl; rw [hpd]
    obtain ⟨row', hrow⟩ : ∃ row', row' = va_cpy w' (va_up (va_up (va_up row at' 2) (at' + 1) (Int32.toInt8 (nI (32 - a + p)))) (at' + 2) 0) a (at' + 2 + p) (32 - a) := ⟨_, rfl⟩
    rw [← hrow] at e
    refine ⟨h1.set (q + 3) (pB 80 row'), a, row', ld_eq ew c2, ?_, hs_ hr1, ⟨w', hn_ (by omega) hw1⟩, (k1.up (by simp)).tr (KP.st (by simp)), ⟨?_, ?_, ?_⟩, fun k hk => ?_⟩
    · unfold P_Rm_put
      rw [bs_ (gR_at hq f36), show P_Rm_store h (q + 30) 0 (q + t) = _ from b1, bs_ rfl, show L_Rm_put_11 FU h1 q (nI at') 0 = _ from c1, e, ed]
    · rw [hrow, cpy_out (by omega), up_n (by omega), up_n (by omega), up_s]
    · rw [hrow, cpy_out (by omega), up_n (by omega), up_s, ed]
    · intro k hk
      rw [ed] at hk
      rw [hrow]
      unfold dby
      rw [hpd]
      by_cases c : k < p
      · rw [if_pos c, cpy_out (by omega), show at' + 2 + k = at' + 2 by omega, up_s]
      · rw [if_neg c, cpy_in (by omega) (by omega), ← ew (a + k - p) (by omega)]
        congr 1
        omega
    · rw [hrow, cpy_out (by omega), up_n (by omega), up_n (by omega), up_n (by omega)]
  have st3 : ∀ (x : Int32) (T : HP → Option (Int32 × HP)), (bnd (gR h1 q 8 3) fun k5 => bnd (stB h1 k5 (nI at') 2) fun h6 => bnd (gR h6 q 8 3) fun k7 => bnd (stB h6 k7 (nI at' + 1) ((Int32.toInt8 x).toInt32)) fun h8 => bnd (gR h8 q 8 3) fun k9 => bnd (stB h8 k9 (nI at' + 2) 0) fun h10 => T h10) = T (((h1.set (q + 3) (pB 80 (va_up row at' 2))).set (q + 3) (pB 80 (va_up (va_up row at' 2) (at' + 1) (Int32.toInt8 x)))).set (q + 3) (pB 80 (va_up (va_up (va_up row at' 2) (at' + 1) (Int32.toInt8 x)) (at' + 2) 0))) := by
    intro x T
    rw [bs_ (gR_at hq1 f3), bs_ (tB_in at' hr1 rfl (by omega) (by omega)), bs_ (gR_at (hn_ (by omega) hq1) f3), bs_ (tB_in (at' + 1) (hs_ hr1) (nI_1 at') (by omega) (by omega)), bs_ (gR_at (hn_ (by omega) (hn_ (by omega) hq1)) f3), bs_ (tB_in (at' + 2) (hs_ (hs_ hr1)) (nI_2 at') (by omega) (by omega)), i8_r]
    rfl
  by_cases y : (btv v a).toInt32 < 0
  · refine fin 1 (Nat.le_refl _) (by unfold pd; rw [if_pos y]) ?_
    refine Eq.trans ?_ ((st3 (nI (32 - a + 1)) (fun h10 => L_Rm_put_83 K FU h10 q (nI at') (nI a) (nI 1) (nI a))).trans (m1 1 (Nat.le_refl _)))
    unfold B_Rm_put_32
    rw [bs_ (gR_at hq1 f36), bs_ (sB_in a hw1 rfl (by omega) (by omega)), wa, if_neg (fun c => absurd y (Int32.not_lt.mpr c)), show (32 : Int32) - nI a = nI (32 - a) from pk_sub (a := 32) (by omega), nI_1 (32 - a)]
    rfl
  · refine fin 0 (by decide) (by unfold pd; rw [if_neg y]) ?_
    refine Eq.trans ?_ ((st3 (nI (32 - a + 0)) (fun h10 => L_Rm_put_83 K FU h10 q (nI at') (nI a) (nI 0) (nI a))).trans (m1 0 (by decide)))
    unfold B_Rm_put_32
    rw [bs_ (gR_at hq1 f36), bs_ (sB_in a hw1 rfl (by omega) (by omega)), wa, if_pos (Int32.not_lt.mp y), show (32 : Int32) - nI a = nI (32 - a) from pk_sub (a := 32) (by omega), show nI (32 - a) + 0 = nI (32 - a + 0) from nI_add (32 - a) 0]
    rfl
end PUT
