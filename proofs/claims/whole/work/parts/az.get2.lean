/-! the reference's get: the number -/
def gtv (row : Nat → Int8) (at' L i : Nat) : Int8 := if i < 32 - L then 0 else row (at' + 2 + L - 32 + i)
theorem gt_c {L i : Nat} (hL : 1 ≤ L ∧ L ≤ 33) (hi : i < 32) : ((32 : Int32) - nI L ≤ nI i) ↔ ¬ i < 32 - L := by
  have : ∀ L : Fin 34, ∀ i : Fin 32, 1 ≤ L.val → (((32 : Int32) - nI L.val ≤ nI i.val) ↔ ¬ i.val < 32 - L.val) := by decide +kernel
  exact this ⟨L, by omega⟩ ⟨i, hi⟩ hL.1
theorem e_get98 {h : HP} {q n at' L : Nat} {fs : List Value} {row g : Nat → Int8} (hq : h[q]? = some (pO 8 fs)) (f1 : fs[1]? = some (.ref (q + 1))) (f36 : fs[36]? = some (.ref (q + 30))) (hr : h[q + 1]? = some (pB n row)) (hw : h[q + 30]? = some (pB 65600 g)) (hL : 1 ≤ L ∧ L ≤ 33) (ha : 30 ≤ at') (he : at' + 2 + L ≤ n) (hn : n < 2 ^ 29) :
    ∃ T' f, B_Rm_get_96 h q (nI at') (nI L) = B_Rm_get_98 (L_Rm_get_98 f) (h.set (q + 30) (pB 65600 T')) q (nI at') (nI L) (nI 32) ∧ ∀ k, k < 32 → T' k = gtv row at' L k := by
  obtain ⟨T', g1, g2, g3⟩ := rwb (n := 32) (o := 0) (h0 := h) (t := q + 30) (nt := 65600) (T0 := g) (gtv row at' L) (fun f h i => L_Rm_get_98 f h q (nI at') (nI L) i) (by
    intro i f T hi
    show B_Rm_get_98 (L_Rm_get_98 f) _ q (nI at') (nI L) (nI i) = _
    unfold B_Rm_get_98
    rw [if_neg (show ¬ (32 : Int32) ≤ nI i from nI_ge (b := 32) (by omega) (by omega))]
    refine (bs_ (gR_at (hn_ (by omega) hq) f36)).trans ?_
    unfold gtv
    by_cases z : i < 32 - L
    · rw [if_neg (fun c => ((gt_c hL hi).mp c) z), if_pos z]
      refine (bs_ (tB_in i (hs_ hw) rfl (by omega) (by omega))).trans ?_
      rw [hss, Nat.zero_add]
      show L_Rm_get_98 f _ q (nI at') (nI L) (nI i + Int32.ofInt 1) = _
      rw [nI_ofInt1]
      rfl
    · rw [if_pos ((gt_c hL hi).mpr z), if_neg z]
      refine (bs_ (gR_at (hn_ (by omega) hq) f1)).trans ?_
      refine (bs_ (sB_in (at' + 2 + L - 32 + i) (hn_ (by omega) hr) (show nI at' + 2 + nI L - 32 + nI i = nI (at' + 2 + L - 32 + i) by rw [show nI at' + 2 = nI (at' + 2) from nI_add at' 2, nI_add, show nI (at' + 2 + L) - 32 = nI (at' + 2 + L - 32) from pk_sub (b := 32) (by omega), nI_add]) (by omega) (by omega))).trans ?_
      refine (bs_ (tB_in i (hs_ hw) rfl (by omega) (by omega))).trans ?_
      rw [hss, i8_r, Nat.zero_add]
      show L_Rm_get_98 f _ q (nI at') (nI L) (nI i + Int32.ofInt 1) = _
      rw [nI_ofInt1]) 32 0 (FU - 32) g rfl (fun k hk => absurd hk (Nat.not_lt_zero _)) (fun _ _ => rfl)
  rw [hid hw] at g1
  exact ⟨T', FU - 32 - 1, g1, fun k hk => by have := g2 k hk; rw [Nat.zero_add] at this; exact this⟩
