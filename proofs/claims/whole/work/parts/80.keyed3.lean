/-! the reference's keyed, whole -/
section KA
variable {q kw km kc kh to : Nat} {fs : List Value} {K2 K42 : HP → Nat → Nat → Int32 → Int32 → Option HP} {K82 : HP → Nat → Nat → Int32 → Option HP}
theorem ky2 (hf1 : fs[36]? = some (.ref kw)) (hf2 : fs[35]? = some (.ref km)) (hwq : kw ≠ q) (hwm : kw ≠ km) {len mn : Nat} (hlen : len ≤ mn) (hmn : len ≤ 256) {r g : Nat → Int8} : ∀ (m i f : Nat) (h : HP), m + i = len → m < f → h[q]? = some (pO 8 fs) → h[km]? = some (pB mn r) → h[kw]? = some (pB 65600 (cpn r g 64 i)) → ∃ K42, L_Rm_keyed_42 K2 f h q to (nI len) (nI i) = ob (h.set kw (pB 65600 (cpn r g 64 len))) q 8 (bnd (P_Rm_hash (h.set kw (pB 65600 (cpn r g 64 len))) q kw (nI (64 + len))) fun h2 => L_Rm_keyed_82 K2 K42 FU h2 q to 0) := by
  intro m
  induction m with
  | zero =>
    intro i f h hr hfu hp hc hw
    cases f with
    | zero => omega
    | succ f =>
      have hi : i = len := by omega
      subst hi
      refine ⟨L_Rm_keyed_42 K2 f, ?_⟩
      show B_Rm_keyed_42 K2 _ h q to (nI i) (nI i) = _
      unfold B_Rm_keyed_42
      rw [if_pos (nI_le (Nat.le_refl _) (by omega)), hid hw]
      refine (bs_ (gR_at hp hf1)).trans ?_
      rw [show (64 : Int32) + nI i = nI (64 + i) from nI_add 64 i]
  | succ m ih =>
    intro i f h hr hfu hp hc hw
    cases f with
    | zero => omega
    | succ f =>
      obtain ⟨K42, e⟩ := ih (i + 1) f (h.set kw (pB 65600 (cpn r g 64 (i + 1)))) (by omega) (by omega) (hn_ hwq hp) (hn_ hwm hc) (hs_ hw)
      refine ⟨K42, ?_⟩
      show B_Rm_keyed_42 K2 (L_Rm_keyed_42 K2 f) h q to (nI len) (nI i) = _
      unfold B_Rm_keyed_42
      rw [if_neg (nI_ge (by omega) (by omega))]
      refine (bs_ (gR_at hp hf1)).trans ?_
      refine (bs_ (gR_at hp hf2)).trans ?_
      refine (bs_ (sB_in i hc rfl (by omega) (by omega))).trans ?_
      refine (bs_ (tB_in (64 + i) hw (show nI 64 + nI i = _ from nI_add _ _) (by omega) (by omega))).trans ?_
      rw [Int8.toInt8_toInt32, cpn_up]
      show L_Rm_keyed_42 K2 f _ q to (nI len) (nI i + Int32.ofInt 1) = _
      rw [nI_ofInt1]
      refine e.trans ?_
      rw [hss]
theorem ky4 (hf1 : fs[36]? = some (.ref kw)) (hf2 : fs[49]? = some (.ref kh)) (hwq : kw ≠ q) (hwh : kw ≠ kh) {r g : Nat → Int8} : ∀ (m i f : Nat) (h : HP), m + i = 32 → m < f → h[q]? = some (pO 8 fs) → h[kh]? = some (pB 32 r) → h[kw]? = some (pB 65600 (cpn r g 64 i)) → ∃ K122, L_Rm_keyed_122 K2 K42 K82 f h q to (nI i) = ob (h.set kw (pB 65600 (cpn r g 64 32))) q 8 (bnd (P_Rm_hash (h.set kw (pB 65600 (cpn r g 64 32))) q kw (nI 96)) fun h4 => L_Rm_keyed_161 K2 K42 K82 K122 FU h4 q to 0) := by
  intro m
  induction m with
  | zero =>
    intro i f h hr hfu hp hc hw
    cases f with
    | zero => omega
    | succ f =>
      have hi : i = 32 := by omega
      subst hi
      refine ⟨L_Rm_keyed_122 K2 K42 K82 f, ?_⟩
      show B_Rm_keyed_122 K2 K42 K82 _ h q to (nI 32) = _
      unfold B_Rm_keyed_122
      rw [if_pos (show (32 : Int32) ≤ nI 32 by decide), hid hw]
      exact bs_ (gR_at hp hf1)
  | succ m ih =>
    intro i f h hr hfu hp hc hw
    cases f with
    | zero => omega
    | succ f =>
      obtain ⟨K122, e⟩ := ih (i + 1) f (h.set kw (pB 65600 (cpn r g 64 (i + 1)))) (by omega) (by omega) (hn_ hwq hp) (hn_ hwh hc) (hs_ hw)
      refine ⟨K122, ?_⟩
      show B_Rm_keyed_122 K2 K42 K82 (L_Rm_keyed_122 K2 K42 K82 f) h q to (nI i) = _
      unfold B_Rm_keyed_122
      rw [if_neg (show ¬ (32 : Int32) ≤ nI i from nI_ge (b := 32) (by omega) (by omega))]
      refine (bs_ (gR_at hp hf1)).trans ?_
      refine (bs_ (gR_at hp hf2)).trans ?_
      refine (bs_ (sB_in i hc rfl (by omega) (by omega))).trans ?_
      refine (bs_ (tB_in (64 + i) hw (show nI 64 + nI i = _ from nI_add _ _) (by omega) (by omega))).trans ?_
      rw [Int8.toInt8_toInt32, cpn_up]
      show L_Rm_keyed_122 K2 K42 K82 f _ q to (nI i + Int32.ofInt 1) = _
      rw [nI_ofInt1]
      refine e.trans ?_
      rw [hss]
end KA
