/-! the reference's keyed: the other loops -/
section KZ
variable {q kw km kc kh to : Nat} {fs : List Value} {K2 K42 : HP → Nat → Nat → Int32 → Int32 → Option HP} {K82 K122 : HP → Nat → Nat → Int32 → Option HP}
/-- n bytes of r laid over g from the place a on -/
def cpn (r g : Nat → Int8) (a n : Nat) (i : Nat) : Int8 := if a ≤ i ∧ i < a + n then r (i - a) else g i
theorem cpn_0 {r g : Nat → Int8} {a : Nat} : cpn r g a 0 = g := by
  funext i
  unfold cpn
  rw [if_neg (by omega)]
theorem cpn_up {r g : Nat → Int8} {a n : Nat} : va_up (cpn r g a n) (a + n) (r n) = cpn r g a (n + 1) := by
  funext j
  by_cases z : j = a + n
  · subst z; rw [up_s]; unfold cpn; rw [if_pos (by omega)]; congr 1; omega
  · rw [up_n z]
    unfold cpn
    by_cases y : a ≤ j ∧ j < a + n
    · rw [if_pos y, if_pos (by omega)]
    · rw [if_neg y, if_neg (by omega)]
theorem ky3 (hf1 : fs[36]? = some (.ref kw)) (hf2 : fs[33]? = some (.ref kc)) (hwq : kw ≠ q) (hwc : kw ≠ kc) {key g : Nat → Int8} : ∀ (r i f : Nat) (h : HP), r + i = 64 → r < f → h[q]? = some (pO 8 fs) → h[kc]? = some (pB 32 key) → h[kw]? = some (pB 65600 (pdw key g 92 i)) → ∃ K82, L_Rm_keyed_82 K2 K42 f h q to (nI i) = L_Rm_keyed_122 K2 K42 K82 FU (h.set kw (pB 65600 (pdw key g 92 64))) q to 0 := by
  intro r
  induction r with
  | zero =>
    intro i f h hr hfu hp hc hw
    cases f with
    | zero => omega
    | succ f =>
      have hi : i = 64 := by omega
      subst hi
      refine ⟨L_Rm_keyed_82 K2 K42 f, ?_⟩
      show B_Rm_keyed_82 K2 K42 _ h q to (nI 64) = _
      unfold B_Rm_keyed_82
      rw [if_pos (show (64 : Int32) ≤ nI 64 by decide), hid hw]
  | succ r ih =>
    intro i f h hr hfu hp hc hw
    cases f with
    | zero => omega
    | succ f =>
      obtain ⟨K82, e⟩ := ih (i + 1) f (h.set kw (pB 65600 (pdw key g 92 (i + 1)))) (by omega) (by omega) (hn_ hwq hp) (hn_ hwc hc) (hs_ hw)
      refine ⟨K82, ?_⟩
      show B_Rm_keyed_82 K2 K42 (L_Rm_keyed_82 K2 K42 f) h q to (nI i) = _
      unfold B_Rm_keyed_82
      rw [if_neg (show ¬ (64 : Int32) ≤ nI i from nI_ge (b := 64) (by omega) (by omega))]
      refine (bs_ (gR_at hp hf1)).trans ?_
      by_cases z : 32 ≤ i
      · rw [if_pos (show (32 : Int32) ≤ nI i from (show nI 32 ≤ nI i from nI_le z (by omega)))]
        refine (bs_ (tB_in i hw rfl (by omega) (by omega))).trans ?_
        rw [Int8.toInt8_toInt32, show ((0 : Int32) ^^^ 92).toInt8 = pdk key 92 i by unfold pdk; rw [if_neg (by omega)]; decide, pdw_up]
        show L_Rm_keyed_82 K2 K42 f _ q to (nI i + Int32.ofInt 1) = _
        rw [nI_ofInt1]
        refine e.trans ?_
        rw [hss]
      · rw [if_neg (show ¬ (32 : Int32) ≤ nI i from (show ¬ nI 32 ≤ nI i from nI_ge (by omega) (by omega)))]
        refine (bs_ (gR_at hp hf2)).trans ?_
        refine (bs_ (sB_in i hc rfl (by omega) (by omega))).trans ?_
        refine (bs_ (tB_in i hw rfl (by omega) (by omega))).trans ?_
        rw [Int8.toInt8_toInt32, show ((key i).toInt32 ^^^ 92).toInt8 = pdk key 92 i by unfold pdk; rw [if_pos (by omega)], pdw_up]
        show L_Rm_keyed_82 K2 K42 f _ q to (nI i + Int32.ofInt 1) = _
        rw [nI_ofInt1]
        refine e.trans ?_
        rw [hss]
theorem ky5 (hf1 : fs[49]? = some (.ref kh)) (htq : to ≠ q) (hth : to ≠ kh) {tn : Nat} (h32 : 32 ≤ tn) {K122 : HP → Nat → Nat → Int32 → Option HP} {r g : Nat → Int8} : ∀ (m i f : Nat) (h : HP), m + i = 32 → m < f → h[q]? = some (pO 8 fs) → h[kh]? = some (pB 32 r) → h[to]? = some (pB tn (cpn r g 0 i)) → L_Rm_keyed_161 K2 K42 K82 K122 f h q to (nI i) = some (h.set to (pB tn (cpn r g 0 32))) := by
  intro m
  induction m with
  | zero =>
    intro i f h hr hfu hp hc hw
    cases f with
    | zero => omega
    | succ f =>
      have hi : i = 32 := by omega
      subst hi
      show B_Rm_keyed_161 K2 K42 K82 K122 _ h q to (nI 32) = _
      unfold B_Rm_keyed_161
      rw [if_pos (show (32 : Int32) ≤ nI 32 by decide), hid hw]
  | succ m ih =>
    intro i f h hr hfu hp hc hw
    cases f with
    | zero => omega
    | succ f =>
      show B_Rm_keyed_161 K2 K42 K82 K122 (L_Rm_keyed_161 K2 K42 K82 K122 f) h q to (nI i) = _
      unfold B_Rm_keyed_161
      rw [if_neg (show ¬ (32 : Int32) ≤ nI i from nI_ge (b := 32) (by omega) (by omega))]
      refine (bs_ (gR_at hp hf1)).trans ?_
      refine (bs_ (sB_in i hc rfl (by omega) (by omega))).trans ?_
      refine (bs_ (tB_in i hw rfl (by omega) (by omega))).trans ?_
      have e := cpn_up (r := r) (g := g) (a := 0) (n := i)
      rw [Nat.zero_add] at e
      rw [Int8.toInt8_toInt32, e]
      show L_Rm_keyed_161 K2 K42 K82 K122 f _ q to (nI i + Int32.ofInt 1) = _
      rw [nI_ofInt1]
      refine (ih (i + 1) f _ (by omega) (by omega) (hn_ htq hp) (hn_ hth hc) (hs_ hw)).trans ?_
      rw [hss]
end KZ
