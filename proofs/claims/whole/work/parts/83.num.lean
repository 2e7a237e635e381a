/-! the reference's numbers: sixteen digits of 16 bits -/
theorem lN_inj16 {a b : Nat} (ha : a < 2 ^ 16) (hb : b < 2 ^ 16) : lN a = lN b ↔ a = b := lN_eq (by omega) (by omega)
/-- the long array F holds the number v in its first sixteen digits -/
def NM (F : Nat → Int64) (v : Nat) : Prop := ∃ d : Nat → Nat, RJ 16 F d ∧ (∀ k, k < 16 → d k < 2 ^ 16) ∧ vl (2 ^ 16) d 16 = v
theorem vl_cmp {B : Nat} {d e : Nat → Nat} {i : Nat} (hd : ∀ k, k < i → d k < B) (h : d i < e i) : ∀ r, (∀ j, i < j → j < i + 1 + r → d j = e j) → vl B d (i + 1 + r) < vl B e (i + 1 + r)
  | 0, _ => by
    show vl B d i + d i * B ^ i < vl B e i + e i * B ^ i
    have h1 := vl_lt i hd
    have h2 := Nat.mul_le_mul_right (B ^ i) (show d i + 1 ≤ e i from h)
    rw [Nat.add_mul, Nat.one_mul] at h2
    omega
  | r + 1, hj => by
    show vl B d (i + 1 + r) + d (i + 1 + r) * B ^ (i + 1 + r) < vl B e (i + 1 + r) + e (i + 1 + r) * B ^ (i + 1 + r)
    have := vl_cmp hd h r (fun j h1 h2 => hj j h1 (by omega))
    rw [hj (i + 1 + r) (by omega) (by omega)]
    omega
theorem cp1 {a b n m : Nat} (hab : a ≠ b) (hn : 16 ≤ n) (hm : 16 ≤ m) {F G : Nat → Int64} : ∀ (r i f : Nat) (h : HP) (F1 : Nat → Int64), r + i = 16 → r < f → h[a]? = some (pJ n F1) → h[b]? = some (pJ m G) → (∀ k, k < i → F1 k = G k) → (∀ k, 16 ≤ k → F1 k = F k) → ∃ F', L_Rm_copy_2 f h a b (nI i) = some (h.set a (pJ n F')) ∧ (∀ k, k < 16 → F' k = G k) ∧ ∀ k, 16 ≤ k → F' k = F k := by
  intro r
  induction r with
  | zero =>
    intro i f h F1 hr hfu ha hb h1 h2
    cases f with
    | zero => omega
    | succ f =>
      have hi : i = 16 := by omega
      subst hi
      refine ⟨F1, ?_, h1, h2⟩
      show B_Rm_copy_2 _ h a b (nI 16) = _
      unfold B_Rm_copy_2
      rw [if_pos (show (16 : Int32) ≤ nI 16 by decide), hid ha]
  | succ r ih =>
    intro i f h F1 hr hfu ha hb h1 h2
    cases f with
    | zero => omega
    | succ f =>
      obtain ⟨F', g1, g2, g3⟩ := ih (i + 1) f (h.set a (pJ n (va_up F1 i (G i)))) _ (by omega) (by omega) (hs_ ha) (hn_ hab hb) (fun k hk => by
        by_cases z : k = i
        · rw [z, up_s]
        · rw [up_n z]; exact h1 k (by omega)) (fun k hk => by rw [up_n (by omega)]; exact h2 k hk)
      refine ⟨F', ?_, g2, g3⟩
      show B_Rm_copy_2 (L_Rm_copy_2 f) h a b (nI i) = _
      unfold B_Rm_copy_2
      rw [if_neg (show ¬ (16 : Int32) ≤ nI i from nI_ge (b := 16) (by omega) (by omega))]
      refine (bs_ (sJ_in i hb rfl (by omega) (by omega))).trans ?_
      refine (bs_ (tJ_in i ha rfl (by omega) (by omega))).trans ?_
      show L_Rm_copy_2 f _ a b (nI i + Int32.ofInt 1) = _
      rw [nI_ofInt1]
      refine g1.trans ?_
      rw [hss]
theorem NM.eq {F G : Nat → Int64} {v : Nat} (h : NM G v) (e : ∀ k, k < 16 → F k = G k) : NM F v := by
  obtain ⟨d, h1, h2, h3⟩ := h
  exact ⟨d, fun k hk => (e k hk).trans (h1 k hk), h2, h3⟩
theorem e_copy {h : HP} {a b n m v : Nat} (hab : a ≠ b) (hn : 16 ≤ n) (hm : 16 ≤ m) {F G : Nat → Int64} (ha : h[a]? = some (pJ n F)) (hb : h[b]? = some (pJ m G)) (hv : NM G v) : ∃ F', P_Rm_copy h a b = some (h.set a (pJ n F')) ∧ NM F' v ∧ ∀ k, 16 ≤ k → F' k = F k := by
  obtain ⟨F', g1, g2, g3⟩ := cp1 hab hn hm (F := F) 16 0 FU h F rfl (by decide) ha hb (fun k hk => absurd hk (Nat.not_lt_zero _)) (fun _ _ => rfl)
  exact ⟨F', g1, hv.eq g2, g3⟩
theorem be1 {h : HP} {a b n m : Nat} (hn : 16 ≤ n) (hm : 16 ≤ m) {F G : Nat → Int64} {d e : Nat → Nat} (ha : h[a]? = some (pJ n F)) (hb : h[b]? = some (pJ m G)) (hF : RJ 16 F d) (hG : RJ 16 G e) (hd : ∀ k, k < 16 → d k < 2 ^ 16) (he : ∀ k, k < 16 → e k < 2 ^ 16) : ∀ (i f : Nat), i ≤ 16 → i < f → (∀ j, i ≤ j → j < 16 → d j = e j) → L_Rm_below_3 f h a b (nI i + (-1)) = some (bi (decide (vl (2 ^ 16) d 16 < vl (2 ^ 16) e 16)), h) := by
  intro i
  induction i with
  | zero =>
    intro f hi hfu hj
    cases f with
    | zero => omega
    | succ f =>
      show B_Rm_below_3 _ h a b (nI 0 + (-1)) = _
      unfold B_Rm_below_3
      rw [if_pos (show nI 0 + (-1) < 0 by decide), vl_eq 16 (fun j hj' => hj j (by omega) hj'), decide_eq_false (Nat.lt_irrefl _)]
      rfl
  | succ i ih =>
    intro f hi hfu hj
    cases f with
    | zero => omega
    | succ f =>
      show B_Rm_below_3 (L_Rm_below_3 f) h a b (nI (i + 1) + (-1)) = _
      unfold B_Rm_below_3
      rw [pk_m1, if_neg (nI_pos (by omega))]
      refine (bs_ (sJ_in i ha rfl (by omega) (by omega))).trans ?_
      refine (bs_ (sJ_in i hb rfl (by omega) (by omega))).trans ?_
      rw [hF i (by omega), hG i (by omega)]
      have b1 := hd i (by omega)
      have b2 := he i (by omega)
      by_cases z : d i = e i
      · rw [if_pos ((lg_cmp_eq _ _).mpr (by rw [z]))]
        exact ih f (by omega) (by omega) (fun j h1 h2 => by
          by_cases y : j = i
          · rw [y]; exact z
          · exact hj j (by omega) h2)
      · rw [if_neg (fun c => z ((lN_inj16 b1 b2).mp ((lg_cmp_eq _ _).mp c)))]
        refine (bs_ (sJ_in i ha rfl (by omega) (by omega))).trans ?_
        refine (bs_ (sJ_in i hb rfl (by omega) (by omega))).trans ?_
        rw [hF i (by omega), hG i (by omega)]
        obtain ⟨r, hr⟩ : ∃ r, 16 = i + 1 + r := ⟨15 - i, by omega⟩
        rcases Nat.lt_or_ge (d i) (e i) with y | y
        · rw [if_neg (fun c => absurd ((lN_le (by omega) (by omega)).mp ((lg_cmp_ge _ _).mp c)) (by omega))]
          have := vl_cmp (B := 2 ^ 16) (i := i) (d := d) (e := e) (fun k hk => hd k (by omega)) y r (fun j h1 h2 => hj j (by omega) (by omega))
          rw [← hr] at this
          rw [decide_eq_true this]
          rfl
        · rw [if_pos ((lg_cmp_ge _ _).mpr ((lN_le (by omega) (by omega)).mpr y))]
          have := vl_cmp (B := 2 ^ 16) (i := i) (d := e) (e := d) (fun k hk => he k (by omega)) (by omega) r (fun j h1 h2 => (hj j (by omega) (by omega)).symm)
          rw [← hr] at this
          rw [decide_eq_false (by omega)]
          rfl
theorem e_below {h : HP} {a b n m v w : Nat} (hn : 16 ≤ n) (hm : 16 ≤ m) {F G : Nat → Int64} (ha : h[a]? = some (pJ n F)) (hb : h[b]? = some (pJ m G)) (hv : NM F v) (hw : NM G w) : P_Rm_below h a b = some (bi (decide (v < w)), h) := by
  obtain ⟨d, d1, d2, rfl⟩ := hv
  obtain ⟨e, e1, e2, rfl⟩ := hw
  exact be1 hn hm ha hb d1 e1 d2 e2 16 FU (Nat.le_refl _) (by decide) (fun j h1 h2 => by omega)
