/-! the class's areZero, areSame; points: isNeutral, setNeutral, set -/
def orr (d : Nat → Nat) : Nat → Nat
  | 0 => 0
  | n + 1 => orr d n ||| d n
theorem orr_lt {d : Nat → Nat} {k : Nat} : ∀ n, (∀ i, i < n → d i < 2 ^ k) → orr d n < 2 ^ k
  | 0, _ => Nat.two_pow_pos k
  | n + 1, h => Nat.or_lt_two_pow (orr_lt n (fun i hi => h i (by omega))) (h n (by omega))
theorem orr_0 {d : Nat → Nat} : ∀ n, orr d n = 0 ↔ ∀ i, i < n → d i = 0
  | 0 => ⟨fun _ i hi => absurd hi (Nat.not_lt_zero _), fun _ => rfl⟩
  | n + 1 => by
    show orr d n ||| d n = 0 ↔ _
    rw [Nat.or_eq_zero_iff, orr_0 n]
    constructor
    · intro ⟨h1, h2⟩ i hi
      by_cases z : i = n
      · rw [z]; exact h2
      · exact h1 i (by omega)
    · intro h
      exact ⟨fun i hi => h i (by omega), h n (by omega)⟩
theorem xor_z {a b : Nat} (h : a ^^^ b = 0) : a = b := Nat.eq_of_testBit_eq (fun i => by
  have h1 : (a ^^^ b).testBit i = (0 : Nat).testBit i := by rw [h]
  rw [Nat.testBit_xor, Nat.zero_testBit] at h1
  cases p : a.testBit i <;> cases q : b.testBit i <;> rw [p, q] at h1 <;> first | rfl | exact absurd h1 (by decide))
theorem lg_l0 {a : Nat} (h : a < 2 ^ 62) : (lg_cmp (lN a) 0 = 0) ↔ a = 0 := by
  rw [lZ_N, lg_eq0 (by omega) (by omega)]
  omega
theorem e_areZero {h : HP} {a x : Nat} {A : Nat → Int64} (ha : h[a]? = some (pJ 9 A)) (hA : LM A x) : P_Li_areZero h a = some (bi (decide (x = 0)), h) := by
  obtain ⟨d, h1, h2, h3⟩ := zm_vl hA
  have g := acl (n := 9) (s := fun i => lN (orr d i)) (fun f s i => L_Li_areZero_4 f h a s i) (by
    intro i f hi
    have b1 := orr_lt (d := d) (k := 29) i (fun j hj => h2 j (by omega))
    have b2 := h2 i hi
    show B_Li_areZero_4 (L_Li_areZero_4 f) h a (lN (orr d i)) (nI i) = L_Li_areZero_4 f h a (lN (orr d i ||| d i)) (nI (i + 1))
    unfold B_Li_areZero_4
    rw [if_neg (show ¬ (9 : Int32) ≤ nI i from nI_ge (b := 9) (by omega) (by omega))]
    refine (bs_ (sJ_in i ha rfl (by omega) (by omega))).trans ?_
    rw [h1 i hi]
    refine lt_e.trans ?_
    rw [wb_or (by omega) (by omega)]
    show L_Li_areZero_4 f h a _ (nI i + Int32.ofInt 1) = _
    rw [nI_ofInt1]) 9 0 (FU - 9) rfl
  have b9 := orr_lt (d := d) (k := 29) 9 h2
  refine Eq.trans g ?_
  show B_Li_areZero_4 _ h a _ (nI 9) = _
  unfold B_Li_areZero_4
  rw [if_pos (show (9 : Int32) ≤ nI 9 by decide)]
  by_cases z : x = 0
  · rw [if_pos ((lg_l0 (by omega)).mpr ((orr_0 9).mpr (fun i hi => vl_z (by decide) 9 (h3.trans z) i hi))), decide_eq_true z]; rfl
  · rw [if_neg (fun c => z (by rw [← h3]; exact vl_0 9 ((orr_0 9).mp ((lg_l0 (by omega)).mp c)))), decide_eq_false z]; rfl
theorem e_areSame {h : HP} {a b x y : Nat} {A D : Nat → Int64} (ha : h[a]? = some (pJ 9 A)) (hb : h[b]? = some (pJ 9 D)) (hA : LM A x) (hD : LM D y) : P_Li_areSame h a b = some (bi (decide (x = y)), h) := by
  obtain ⟨d, h1, h2, h3⟩ := zm_vl hA
  obtain ⟨e, k1, k2, k3⟩ := zm_vl hD
  have xb : ∀ i, i < 9 → d i ^^^ e i < 2 ^ 29 := fun i hi => Nat.xor_lt_two_pow (h2 i hi) (k2 i hi)
  have g := acl (n := 9) (s := fun i => lN (orr (fun j => d j ^^^ e j) i)) (fun f s i => L_Li_areSame_5 f h a b s i) (by
    intro i f hi
    have b1 := orr_lt (d := fun j => d j ^^^ e j) (k := 29) i (fun j hj => xb j (by omega))
    have b2 := xb i hi
    show B_Li_areSame_5 (L_Li_areSame_5 f) h a b (lN (orr (fun j => d j ^^^ e j) i)) (nI i) = L_Li_areSame_5 f h a b (lN (orr (fun j => d j ^^^ e j) i ||| (d i ^^^ e i))) (nI (i + 1))
    unfold B_Li_areSame_5
    rw [if_neg (show ¬ (9 : Int32) ≤ nI i from nI_ge (b := 9) (by omega) (by omega))]
    refine (bs_ (sJ_in i ha rfl (by omega) (by omega))).trans ?_
    refine (bs_ (sJ_in i hb rfl (by omega) (by omega))).trans ?_
    rw [h1 i hi, k1 i hi, lN_xor]
    refine lt_e.trans ?_
    rw [wb_or (by omega) (by omega)]
    show L_Li_areSame_5 f h a b _ (nI i + Int32.ofInt 1) = _
    rw [nI_ofInt1]) 9 0 (FU - 9) rfl
  have b9 := orr_lt (d := fun j => d j ^^^ e j) (k := 29) 9 xb
  refine Eq.trans g ?_
  show B_Li_areSame_5 _ h a b _ (nI 9) = _
  unfold B_Li_areSame_5
  rw [if_pos (show (9 : Int32) ≤ nI 9 by decide)]
  have iff1 : orr (fun j => d j ^^^ e j) 9 = 0 ↔ x = y := by
    rw [orr_0 9]
    constructor
    · intro q
      rw [← h3, ← k3]
      exact vl_eq 9 (fun i hi => xor_z (q i hi))
    · intro q i hi
      show d i ^^^ e i = 0
      rw [vl_inj 9 h2 k2 (by rw [h3, k3, q]) i hi, Nat.xor_self]
  by_cases z : x = y
  · rw [if_pos ((lg_l0 (by omega)).mpr (iff1.mpr z)), decide_eq_true z]; rfl
  · rw [if_neg (fun c => z (iff1.mp ((lg_l0 (by omega)).mp c))), decide_eq_false z]; rfl
def POb (p : Nat) (h : HP) : Prop := h[p]? = some (pO 3 [.ref (p + 1), .ref (p + 2), .ref (p + 3)])
theorem e_isNeutral {h : HP} {p z v : Nat} (hp : POb p h) (hz : CV v h (p + 3) z) : P_Po_isNeutral h p = some (bi (decide (z = 0)), h) := by
  obtain ⟨Z, z1, z2, z3⟩ := hz
  unfold P_Po_isNeutral
  rw [bs_ (gR_at hp rfl), bs2 (e_areZero z1 z2)]
  unfold gd
  rw [if_pos]
  cases decide (z = 0) <;> decide
