/-! the reference's get: the same form -/
theorem e_getForm {h : HP} {q n at' end' : Nat} {th me re kc pn qn : Int32} {row : Nat → Int8} (hq : h[q]? = some (pO 8 (RFS q th (nI end') me re kc pn qn))) (hr : h[q + 1]? = some (pB n row)) (he : end' ≤ n) (hn : n < 2 ^ 29) (ha : at' ≤ end') :
    (∃ L, DNo row at' end' L ∧ P_Rm_get h q (nI at') = B_Rm_get_96 h q (nI at') (nI L)) ∨ ((∀ L, ¬ DNo row at' end' L) ∧ P_Rm_get h q (nI at') = some (-1, h)) := by
  unfold P_Rm_get
  rw [show gI h q 8 5 = some (nI end') from gI_at hq rfl, bs_ rfl, show nI at' + 2 = nI (at' + 2) from nI_add at' 2]
  by_cases z1 : end' < at' + 2
  · rw [if_pos (nI_lt z1 (by omega))]
    exact Or.inr ⟨fun L d => by have := d.1; omega, rfl⟩
  · rw [if_neg (nI_nlt (by omega) (by omega)), bs_ (gR_at hq rfl), bs_ (sB_in at' hr rfl (by omega) (by omega))]
    by_cases z2 : row at' = 2
    · rw [if_pos ((i8_k _).mpr z2), bs_ (gR_at hq rfl), bs_ (sB_in (at' + 1) hr (nI_1 at') (by omega) (by omega))]
      by_cases z3 : (row (at' + 1)).toInt32 < 1
      · rw [if_pos z3]
        refine Or.inr ⟨fun L d => ?_, rfl⟩
        obtain ⟨_, _, d3, d4, d5, _⟩ := d
        rw [d3] at z3
        exact nI_nlt (b := 1) d4 (by omega) z3
      · rw [if_neg z3]
        obtain ⟨L, l1, l2⟩ : ∃ L, L < 2 ^ 31 ∧ (row (at' + 1)).toInt32 = nI L := nI_of (fun c => z3 (Int32.lt_trans c (by decide)))
        rw [l2] at z3 ⊢
        have L1 : 1 ≤ L := by
          refine Classical.byContradiction fun c => z3 ?_
          rw [show L = 0 by omega]
          decide
        have uq : ∀ L', DNo row at' end' L' → L' = L := by
          intro L' d
          have d3 := d.2.2.1
          have d5 := d.2.2.2.2.1
          rw [l2] at d3
          exact ((nI_eq l1 (by omega)).mp d3).symm
        by_cases z4 : 33 < L
        · rw [if_pos (show (33 : Int32) < nI L from nI_lt (a := 33) z4 l1)]
          exact Or.inr ⟨fun L' d => by have := uq L' d; have := d.2.2.2.2.1; omega, rfl⟩
        · rw [if_neg (show ¬ (33 : Int32) < nI L from nI_nlt (a := 33) (by omega) (by decide)), bs_ rfl, nI_add]
          by_cases z5 : end' < at' + 2 + L
          · rw [if_pos (nI_lt z5 (by omega))]
            exact Or.inr ⟨fun L' d => by have := uq L' d; have := d.2.2.2.2.2.1; omega, rfl⟩
          · rw [if_neg (nI_nlt (by omega) (by omega)), bs_ (gR_at hq rfl), bs_ (sB_in (at' + 2) hr rfl (by omega) (by omega))]
            by_cases z6 : 0 ≤ (row (at' + 2)).toInt32
            · rw [if_pos z6, bs_ (gR_at hq rfl), bs_ (sB_in (at' + 2) hr rfl (by omega) (by omega))]
              have dn : ¬ (row (at' + 2) = 0 ∧ 1 < L ∧ 0 ≤ (row (at' + 3)).toInt32) → DNo row at' end' L := fun c => ⟨by omega, z2, l2, L1, by omega, by omega, z6, c⟩
              by_cases z7 : row (at' + 2) = 0
              · rw [if_pos ((i8_z _).mpr z7)]
                by_cases z8 : L ≤ 1
                · rw [if_pos (show nI L ≤ 1 from nI_le (b := 1) z8 (by decide))]
                  exact Or.inl ⟨L, dn (fun c => by omega), rfl⟩
                · rw [if_neg (show ¬ nI L ≤ 1 from nI_ge (a := 1) (by omega) l1), bs_ (gR_at hq rfl), bs_ (sB_in (at' + 3) hr (show nI at' + 3 = nI (at' + 3) from nI_add at' 3) (by omega) (by omega))]
                  by_cases z9 : (row (at' + 3)).toInt32 < 0
                  · rw [if_pos z9]
                    exact Or.inl ⟨L, dn (fun c => absurd z9 (Int32.not_lt.mpr c.2.2)), rfl⟩
                  · rw [if_neg z9]
                    refine Or.inr ⟨fun L' d => ?_, rfl⟩
                    have e := uq L' d
                    rw [e] at d
                    exact d.2.2.2.2.2.2.2 ⟨z7, by omega, Int32.not_lt.mp z9⟩
              · rw [if_neg (fun c => z7 ((i8_z _).mp c))]
                exact Or.inl ⟨L, dn (fun c => z7 c.1), rfl⟩
            · rw [if_neg z6]
              exact Or.inr ⟨fun L' d => z6 d.2.2.2.2.2.2.1, rfl⟩
    · rw [if_neg (fun c => z2 ((i8_k _).mp c))]
      exact Or.inr ⟨fun L d => z2 d.2.1, rfl⟩
