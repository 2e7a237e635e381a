/-! the reference's keyed: its loops -/
section KY
variable {q kw km kc kh to : Nat} {fs : List Value}
/-- the first n bytes of work: the pad -/
def pdw (key g : Nat → Int8) (mask : Int32) (n : Nat) (i : Nat) : Int8 := if i < n then pdk key mask i else g i
theorem pdw_up {key g : Nat → Int8} {mask : Int32} {n : Nat} : va_up (pdw key g mask n) n (pdk key mask n) = pdw key g mask (n + 1) := by
  funext j
  by_cases z : j = n
  · subst z; rw [up_s]; unfold pdw; rw [if_pos (by omega)]
  · rw [up_n z]
    unfold pdw
    by_cases y : j < n
    · rw [if_pos y, if_pos (by omega)]
    · rw [if_neg y, if_neg (by omega)]
theorem ky1 {len : Int32} (hf1 : fs[36]? = some (.ref kw)) (hf2 : fs[33]? = some (.ref kc)) (hwq : kw ≠ q) (hwc : kw ≠ kc) {key g : Nat → Int8} : ∀ (r i f : Nat) (h : HP), r + i = 64 → r < f → h[q]? = some (pO 8 fs) → h[kc]? = some (pB 32 key) → h[kw]? = some (pB 65600 (pdw key g 54 i)) → ∃ K2, L_Rm_keyed_2 f h q to len (nI i) = L_Rm_keyed_42 K2 FU (h.set kw (pB 65600 (pdw key g 54 64))) q to len 0 := by
  intro r
  induction r with
  | zero =>
    intro i f h hr hfu hp hc hw
    cases f with
    | zero => omega
    | succ f =>
      have hi : i = 64 := by omega
      subst hi
      refine ⟨L_Rm_keyed_2 f, ?_⟩
      show B_Rm_keyed_2 _ h q to len (nI 64) = _
      unfold B_Rm_keyed_2
      rw [if_pos (show (64 : Int32) ≤ nI 64 by decide), hid hw]
  | succ r ih =>
    intro i f h hr hfu hp hc hw
    cases f with
    | zero => omega
    | succ f =>
      obtain ⟨K2, e⟩ := ih (i + 1) f (h.set kw (pB 65600 (pdw key g 54 (i + 1)))) (by omega) (by omega) (hn_ hwq hp) (hn_ hwc hc) (hs_ hw)
      refine ⟨K2, ?_⟩
      show B_Rm_keyed_2 (L_Rm_keyed_2 f) h q to len (nI i) = _
      unfold B_Rm_keyed_2
      rw [if_neg (show ¬ (64 : Int32) ≤ nI i from nI_ge (b := 64) (by omega) (by omega))]
      refine (bs_ (gR_at hp hf1)).trans ?_
      by_cases z : 32 ≤ i
      · rw [if_pos (show (32 : Int32) ≤ nI i from (show nI 32 ≤ nI i from nI_le z (by omega)))]
        refine (bs_ (tB_in i hw rfl (by omega) (by omega))).trans ?_
        rw [Int8.toInt8_toInt32, show ((0 : Int32) ^^^ 54).toInt8 = pdk key 54 i by unfold pdk; rw [if_neg (by omega)]; decide, pdw_up]
        show L_Rm_keyed_2 f _ q to len (nI i + Int32.ofInt 1) = _
        rw [nI_ofInt1]
        refine e.trans ?_
        rw [hss]
      · rw [if_neg (show ¬ (32 : Int32) ≤ nI i from (show ¬ nI 32 ≤ nI i from nI_ge (by omega) (by omega)))]
        refine (bs_ (gR_at hp hf2)).trans ?_
        refine (bs_ (sB_in i hc rfl (by omega) (by omega))).trans ?_
        refine (bs_ (tB_in i hw rfl (by omega) (by omega))).trans ?_
        rw [Int8.toInt8_toInt32, show ((key i).toInt32 ^^^ 54).toInt8 = pdk key 54 i by unfold pdk; rw [if_pos (by omega)], pdw_up]
        show L_Rm_keyed_2 f _ q to len (nI i + Int32.ofInt 1) = _
        rw [nI_ofInt1]
        refine e.trans ?_
        rw [hss]
end KY
