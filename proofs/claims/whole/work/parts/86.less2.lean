/-! the reference's less (the first number is the one written) -/
theorem le_ar {B v0 v1 vc e16 ei x c ei1 l l' P t T : Nat} (h1 : v1 + c * P = vc + x * P) (h2 : x + ei1 + l = c + l' * B) (h3 : v0 + l' * (P * B) + e16 = v1 + t * T + (ei + ei1 * P)) : v0 + l * P + e16 = vc + t * T + ei := by
  have h4 : (x + ei1 + l) * P = (c + l' * B) * P := by rw [h2]
  rw [Nat.add_mul, Nat.add_mul, Nat.add_mul, Nat.mul_assoc, Nat.mul_comm B P] at h4
  generalize l' * (P * B) = w1 at *
  generalize x * P = w2 at *
  generalize c * P = w3 at *
  generalize ei1 * P = w4 at *
  generalize l * P = w5 at *
  generalize t * T = w6 at *
  omega
theorem ls1 {a b n m : Nat} (hab : a ≠ b) (hn : 16 ≤ n) (hm : 16 ≤ m) {F G : Nat → Int64} {e : Nat → Nat} (hG : RJ 16 G e) (he : ∀ k, k < 16 → e k < 2 ^ 16) : ∀ (r i f : Nat) (h : HP) (C : Nat → Int64) (c : Nat → Nat) (l : Nat), r + i = 16 → r < f → h[a]? = some (pJ n C) → h[b]? = some (pJ m G) → RJ 16 C c → (∀ k, k < 16 → c k < 2 ^ 16) → l ≤ 1 → (∀ k, 16 ≤ k → C k = F k) →
    ∃ (C' : Nat → Int64) (c' : Nat → Nat) (t : Nat), L_Rm_less_5 f h a a b (lN l) (nI i) = some (h.set a (pJ n C')) ∧ RJ 16 C' c' ∧ (∀ k, k < 16 → c' k < 2 ^ 16) ∧ t ≤ 1 ∧ vl (2 ^ 16) c' 16 + l * (2 ^ 16) ^ i + vl (2 ^ 16) e 16 = vl (2 ^ 16) c 16 + t * (2 ^ 16) ^ 16 + vl (2 ^ 16) e i ∧ ∀ k, 16 ≤ k → C' k = F k := by
  intro r
  induction r with
  | zero =>
    intro i f h C c l hr hfu ha hb hC hc hl hF
    cases f with
    | zero => omega
    | succ f =>
      have hi : i = 16 := by omega
      subst hi
      refine ⟨C, c, l, ?_, hC, hc, hl, rfl, hF⟩
      show B_Rm_less_5 _ h a a b (lN l) (nI 16) = _
      unfold B_Rm_less_5
      rw [if_pos (show (16 : Int32) ≤ nI 16 by decide), hid ha]
  | succ r ih =>
    intro i f h C c l hr hfu ha hb hC hc hl hF
    cases f with
    | zero => omega
    | succ f =>
      have b1 := hc i (by omega)
      have b2 := he i (by omega)
      obtain ⟨x, l', hx, hl', hxe, hxb⟩ : ∃ x l', x = (if e i + l ≤ c i then c i - e i - l else c i + 2 ^ 16 - e i - l) ∧ l' = (if e i + l ≤ c i then 0 else 1) ∧ x + e i + l = c i + l' * 2 ^ 16 ∧ x < 2 ^ 16 := by
        refine ⟨_, _, rfl, rfl, ?_, ?_⟩
        · split <;> omega
        · split <;> omega
      have hl1 : l' ≤ 1 := by rw [hl']; split <;> omega
      obtain ⟨C', c', t, g1, g2, g3, g4, g5, g6⟩ := ih (i + 1) f (h.set a (pJ n (va_up C i (lN x)))) _ (va_up c i x) l' (by omega) (by omega) (hs_ ha) (hn_ hab hb) hC.up (fun k hk => by
        by_cases z : k = i
        · rw [z, up_s]; exact hxb
        · rw [up_n z]; exact hc k hk) hl1 (fun k hk => by rw [up_n (by omega)]; exact hF k hk)
      refine ⟨C', c', t, ?_, g2, g3, g4, ?_, g6⟩
      · show B_Rm_less_5 (L_Rm_less_5 f) h a a b (lN l) (nI i) = _
        unfold B_Rm_less_5
        rw [if_neg (show ¬ (16 : Int32) ≤ nI i from nI_ge (b := 16) (by omega) (by omega))]
        refine (bs_ (sJ_in i ha rfl (by omega) (by omega))).trans ?_
        refine (bs_ (sJ_in i hb rfl (by omega) (by omega))).trans ?_
        refine lt_e.trans ?_
        rw [hC i (by omega), hG i (by omega), sub3_and b1 b2 hl, ← hx]
        by_cases z : e i + l ≤ c i
        · rw [if_pos ((sub3_ge (by omega) (by omega) (by omega)).mpr z)]
          rw [if_pos z] at hl'
          subst hl'
          refine (bs_ (tJ_in i ha rfl (by omega) (by omega))).trans ?_
          show L_Rm_less_5 f _ a a b (lN 0) (nI i + Int32.ofInt 1) = _
          rw [nI_ofInt1]
          refine g1.trans ?_
          rw [hss]
        · rw [if_neg (fun y => z ((sub3_ge (by omega) (by omega) (by omega)).mp y))]
          rw [if_neg z] at hl'
          subst hl'
          refine (bs_ (tJ_in i ha rfl (by omega) (by omega))).trans ?_
          show L_Rm_less_5 f _ a a b (lN 1) (nI i + Int32.ofInt 1) = _
          rw [nI_ofInt1]
          refine g1.trans ?_
          rw [hss]
      · have e1 := vl_in (B := 2 ^ 16) (d := c) (i := i) (x := x) 16 (by omega)
        have e2 : vl (2 ^ 16) e (i + 1) = vl (2 ^ 16) e i + e i * (2 ^ 16) ^ i := rfl
        rw [e2, Nat.pow_succ] at g5
        exact le_ar e1 hxe g5
theorem e_less {h : HP} {a b n m v w : Nat} (hab : a ≠ b) (hn : 16 ≤ n) (hm : 16 ≤ m) {F G : Nat → Int64} (ha : h[a]? = some (pJ n F)) (hb : h[b]? = some (pJ m G)) (hv : NM F v) (hw : NM G w) (hle : w ≤ v) : ∃ F', P_Rm_less h a a b = some (h.set a (pJ n F')) ∧ NM F' (v - w) ∧ ∀ k, 16 ≤ k → F' k = F k := by
  obtain ⟨d, d1, d2, rfl⟩ := hv
  obtain ⟨e, e1, e2, rfl⟩ := hw
  obtain ⟨C', c', t, g1, g2, g3, g4, g5, g6⟩ := ls1 (F := F) hab hn hm e1 e2 16 0 FU h F d 0 rfl (by decide) ha hb d1 d2 (by decide) (fun _ _ => rfl)
  refine ⟨C', g1, ⟨c', g2, g3, ?_⟩, g6⟩
  have h1 := vl_lt 16 g3
  have h2 : vl (2 ^ 16) e 0 = 0 := rfl
  rw [h2, Nat.zero_mul] at g5
  have h3 : t = 0 ∨ t = 1 := by omega
  rcases h3 with z | z
  · rw [z, Nat.zero_mul] at g5
    generalize vl (2 ^ 16) c' 16 = x1 at *
    generalize vl (2 ^ 16) d 16 = x2 at *
    generalize vl (2 ^ 16) e 16 = x3 at *
    omega
  · exfalso
    rw [z, Nat.one_mul] at g5
    generalize vl (2 ^ 16) c' 16 = x1 at *
    generalize vl (2 ^ 16) d 16 = x2 at *
    generalize vl (2 ^ 16) e 16 = x3 at *
    generalize (2 ^ 16) ^ 16 = x4 at *
    omega
