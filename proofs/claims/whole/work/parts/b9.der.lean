/-! a number in due form, written: the class and the reference -/
def LD (g : Nat → Int8) (a : Nat) : Prop := a ≤ 31 ∧ (∀ k, k < a → g k = 0) ∧ (a = 31 ∨ g a ≠ 0)
theorem ld_uq {g : Nat → Int8} {a b : Nat} (h : LD g a) (k : LD g b) : a = b := by
  obtain ⟨h1, h2, h3⟩ := h
  obtain ⟨k1, k2, k3⟩ := k
  rcases Nat.lt_trichotomy a b with c | c | c
  · rcases h3 with d | d
    · omega
    · exact absurd (k2 a c) d
  · exact c
  · rcases k3 with d | d
    · omega
    · exact absurd (h2 b c) d
def pd (g : Nat → Int8) (a : Nat) : Nat := if (g a).toInt32 < 0 then 1 else 0
theorem pd_le (g : Nat → Int8) (a : Nat) : pd g a ≤ 1 := by unfold pd; split <;> omega
def dl (g : Nat → Int8) (a : Nat) : Nat := 32 - a + pd g a
def dby (g : Nat → Int8) (a k : Nat) : Int8 := if k < pd g a then 0 else g (a + k - pd g a)
def DWn (g : Nat → Int8) (a at' : Nat) (row : Nat → Int8) : Prop := row at' = 2 ∧ row (at' + 1) = Int32.toInt8 (nI (dl g a)) ∧ ∀ k, k < dl g a → row (at' + 2 + k) = dby g a k
theorem nI_d1 {m : Nat} (h : 1 ≤ m) : nI m + Int32.ofInt (-1) = nI (m - 1) := by
  have := nI_pred (m - 1)
  rw [show m - 1 + 1 = m by omega] at this
  rw [← this]
  show nI m + -1 = nI m - 1
  exact (Int32.sub_eq_add_neg _ _).symm
theorem nI_2 (a : Nat) : nI a + 2 = nI (a + 2) := nI_add a 2
theorem wn_loop {a1 kt at' : Nat} {f : Nat → Int8} {h : HP} (hf : h[a1]? = some (pB 33 f)) : ∀ (r i fu : Nat), r + i = 32 → r < fu → (∀ k, k < i → f k = 0) → ∃ K m, L_Sg_writeNumber_3 fu h a1 kt (nI at') (nI i) = B_Sg_writeNumber_23 K h a1 kt (nI at') (nI m) ∧ m ≤ 32 ∧ (∀ k, k < m → f k = 0) ∧ (m = 32 ∨ f m ≠ 0) := by
  intro r
  induction r with
  | zero =>
    intro i fu hi hfu z
    cases fu with
    | zero => omega
    | succ fu =>
      have e1 : i = 32 := by omega
      subst e1
      refine ⟨L_Sg_writeNumber_3 fu, 32, ?_, Nat.le_refl _, z, Or.inl rfl⟩
      show B_Sg_writeNumber_3 _ h a1 kt (nI at') (nI 32) = _
      unfold B_Sg_writeNumber_3
      exact if_pos (by decide)
  | succ r ih =>
    intro i fu hi hfu z
    cases fu with
    | zero => omega
    | succ fu =>
      have go : L_Sg_writeNumber_3 (fu + 1) h a1 kt (nI at') (nI i) = (if (f i).toInt32 = 0 then L_Sg_writeNumber_3 fu h a1 kt (nI at') (nI (i + 1)) else B_Sg_writeNumber_23 (L_Sg_writeNumber_3 fu) h a1 kt (nI at') (nI i)) := by
        show B_Sg_writeNumber_3 (L_Sg_writeNumber_3 fu) h a1 kt (nI at') (nI i) = _
        unfold B_Sg_writeNumber_3
        rw [if_neg (show ¬ (32 : Int32) ≤ nI i from nI_ge (b := 32) (by omega) (by omega)), bs_ (sB_in i hf rfl (by omega) (by omega)), ← nI_ofInt1]
        rfl
      by_cases y : f i = 0
      · obtain ⟨K, m, a, b⟩ := ih (i + 1) fu (by omega) (by omega) (fun k hk => by
          by_cases e : k = i
          · rw [e]; exact y
          · exact z k (by omega))
        exact ⟨K, m, by rw [go, if_pos ((i8_z _).mpr y)]; exact a, b⟩
      · exact ⟨_, i, by rw [go, if_neg (fun c => y ((i8_z _).mp c))], by omega, z, Or.inr y⟩
theorem e_writeNumber {h : HP} {p a1 kt at' n : Nat} {f row g : Nat → Int8} (hf : h[a1]? = some (pB 33 f)) (ht : h[kt]? = some (pB n row)) (nt : kt ≠ a1) (f0 : f 0 = 0) (hg : ∀ k, k < 32 → f (1 + k) = g k) (hat : at' + 35 ≤ n) (hn : n < 2 ^ 30) :
    ∃ a row', LD g a ∧ P_Sg_writeNumber h p a1 kt (nI at') = some (nI (at' + 2 + dl g a), h.set kt (pB n row')) ∧ DWn g a at' row' ∧ ∀ k, k < at' → row' k = row k := by
  obtain ⟨K, m, e1, m1, m2, m3⟩ := wn_loop (kt := kt) (at' := at') hf 32 0 FU (by decide) (by decide) (fun k hk => by omega)
  have m0 : 1 ≤ m := by
    rcases m3 with c | c
    · omega
    · refine Classical.byContradiction fun d => c ?_
      rw [show m = 0 by omega]; exact f0
  obtain ⟨a, ha⟩ : ∃ a, m = a + 1 := ⟨m - 1, by omega⟩
  subst ha
  have fm : f (a + 1) = g a := by rw [Nat.add_comm]; exact hg a (by omega)
  have ld : LD g a := by
    refine ⟨by omega, fun k hk => ?_, ?_⟩
    · rw [← hg k (by omega)]; exact m2 _ (by omega)
    · rcases m3 with c | c
      · exact Or.inl (by omega)
      · exact Or.inr (by rw [← fm]; exact c)
  have fin : ∀ m', m' ≤ 33 → 1 ≤ 33 - m' → B_Sg_writeNumber_38 K h a1 kt (nI at') (nI m') = some (nI (at' + 2 + (33 - m')), h.set kt (pB n (va_cpy f (va_up (va_up row at' 2) (at' + 1) (Int32.toInt8 (nI (33 - m')))) m' (at' + 2) (33 - m')))) := by
    intro m' h1 h2
    unfold B_Sg_writeNumber_38
    refine lt_e.trans ?_
    rw [show (33 : Int32) - nI m' = nI (33 - m') from pk_sub (a := 33) h1, bs_ (tB_in at' ht rfl (by omega) (by omega)), bs_ (tB_in (at' + 1) (hs_ ht) (nI_1 at') (by omega) (by omega)), bs_ (cpB_at m' (at' + 2) (33 - m') (hn_ nt (hn_ nt hf)) (hs_ (hs_ ht)) rfl (nI_2 at') rfl (by omega) (by omega) (by decide) (by omega)), nI_2, nI_add, hss, hss, i8_r]
    rfl
  have out : ∀ m', m' ≤ a + 1 → 33 - m' = dl g a → (∀ k, k < dl g a → f (m' + k) = dby g a k) → B_Sg_writeNumber_23 K h a1 kt (nI at') (nI (a + 1)) = B_Sg_writeNumber_38 K h a1 kt (nI at') (nI m') → ∃ a row', LD g a ∧ P_Sg_writeNumber h p a1 kt (nI at') = some (nI (at' + 2 + dl g a), h.set kt (pB n row')) ∧ DWn g a at' row' ∧ ∀ k, k < at' → row' k = row k := by
    intro m' h1 h2 h3 h4
    refine ⟨a, _, ld, (show L_Sg_writeNumber_3 FU h a1 kt (nI at') (nI 0) = _ from e1).trans (h4.trans (by rw [fin m' (by omega) (by omega), h2])), ⟨?_, ?_, ?_⟩, fun k hk => ?_⟩
    · rw [cpy_out (by omega), up_n (by omega), up_s]
    · rw [cpy_out (by omega), up_s]
    · intro k hk
      rw [cpy_in (by omega) (by omega), ← h3 k hk]
      congr 1
      omega
    · rw [cpy_out (by omega), up_n (by omega), up_n (by omega)]
  have g23 : B_Sg_writeNumber_23 K h a1 kt (nI at') (nI (a + 1)) = (if 0 ≤ (g a).toInt32 then B_Sg_writeNumber_38 K h a1 kt (nI at') (nI (a + 1)) else B_Sg_writeNumber_38 K h a1 kt (nI at') (nI a)) := by
    unfold B_Sg_writeNumber_23
    rw [if_neg (nI_nle (by omega) (by omega)), bs_ (sB_in (a + 1) hf rfl (by omega) (by omega)), fm, show lt (nI (a + 1) + Int32.ofInt (-1)) (fun x6 => B_Sg_writeNumber_38 K h a1 kt (nI at') x6) = B_Sg_writeNumber_38 K h a1 kt (nI at') (nI (a + 1) + Int32.ofInt (-1)) from rfl, nI_d1 (by omega)]
    rfl
  by_cases y : (g a).toInt32 < 0
  · have p1 : pd g a = 1 := by unfold pd; rw [if_pos y]
    refine out a (by omega) (by unfold dl; rw [p1]; omega) (fun k hk => ?_) ?_
    · unfold dby
      rw [p1]
      by_cases c : k < 1
      · rw [if_pos c]; exact m2 _ (by omega)
      · rw [if_neg c, ← hg (a + k - 1) (by unfold dl at hk; omega)]
        congr 1
        omega
    · rw [g23, if_neg (fun c => absurd y (Int32.not_lt.mpr c))]
  · have p1 : pd g a = 0 := by unfold pd; rw [if_neg y]
    refine out (a + 1) (by omega) (by unfold dl; rw [p1]; omega) (fun k hk => ?_) ?_
    · unfold dby
      rw [p1, if_neg (by omega), ← hg (a + k - 0) (by unfold dl at hk; omega)]
      congr 1
      omega
    · rw [g23, if_pos (Int32.not_lt.mp y)]
