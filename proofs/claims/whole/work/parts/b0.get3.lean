/-! the reference's get: the end -/
section GT3
variable {q : Nat} {th ta me re kc : Int32}
theorem nm_ones {T : Nat → Int64} (h : ∀ k, k < 16 → T k = 65535) : NM T (2 ^ 256 - 1) := ⟨fun _ => 65535, fun k hk => h k hk, fun _ _ => (by decide : 65535 < 2 ^ 16), by decide +kernel⟩
theorem w_get {pn qn : Int32} {h : HP} {E : Nat → Nat} {n at' L : Nat} {row g : Nat → Int8} (R : RQ q th ta me re kc pn qn h E) (hr : h[q + 1]? = some (pB n row)) (hw : h[q + 30]? = some (pB 65600 g)) (hL : 1 ≤ L ∧ L ≤ 33) (ha : 30 ≤ at') (he : at' + 2 + L ≤ n) (hn : n < 2 ^ 29) :
    ∃ h' v, B_Rm_get_96 h q (nI at') (nI L) = some (nI (at' + 2 + L), h') ∧ RQ q th ta me re kc pn qn h' (up1 E 21 v) ∧ KP [q + 30, q + 21] h h' ∧ (∃ g', h'[q + 30]? = some (pB 65600 g')) ∧ v = (if L = 33 ∧ row (at' + 2) ≠ 0 then 2 ^ 256 - 1 else be (gtv row at' L) 32) := by
  obtain ⟨T', f, g1, g2⟩ := e_get98 R.1 rfl rfl hr hw hL ha he hn
  obtain ⟨h1, hh1⟩ : ∃ h1, h1 = h.set (q + 30) (pB 65600 T') := ⟨_, rfl⟩
  rw [← hh1] at g1
  have k1 : KP [q + 30] h h1 := by rw [hh1]; exact KP.st (by simp)
  have R1 : RQ q th ta me re kc pn qn h1 E := ⟨by rw [k1.2 q (by simp)]; exact R.1, rw_hi R.2 k1 (fun j hj => by simp at hj; omega)⟩
  have w1 : h1[q + 30]? = some (pB 65600 T') := by rw [hh1]; exact hs_ hw
  have r1 : h1[q + 1]? = some (pB n row) := by rw [k1.2 (q + 1) (by simp)]; exact hr
  obtain ⟨T, t1, _⟩ := R1.2.1 21 (ro_d (by decide))
  obtain ⟨T2, a1, a2⟩ := e_load (at' := 0) (n := 65600) (by omega) (by omega) (show q + 21 ≠ q + 30 by omega) (Nat.le_refl 16) w1 t1
  rw [be_eq 32 (fun k hk => by rw [Nat.zero_add]; exact g2 k hk : ∀ k, k < 32 → T' (0 + k) = gtv row at' L k)] at a2
  obtain ⟨h2, hh2⟩ : ∃ h2, h2 = h1.set (q + 21) (pJ 16 T2) := ⟨_, rfl⟩
  rw [← hh2] at a1
  have k2 : KP [q + 21] h1 h2 := by rw [hh2]; exact KP.st (by simp)
  have R2 : RQ q th ta me re kc pn qn h2 (up1 E 21 (be (gtv row at' L) 32)) := by rw [hh2]; exact rq_of R1 (RK.st (ro_d (by decide))) (rw_set R1.2 (ro_d (by decide)) a2)
  have w2 : h2[q + 30]? = some (pB 65600 T') := by rw [k2.2 (q + 30) (by simp)]; exact w1
  have r2 : h2[q + 1]? = some (pB n row) := by rw [k2.2 (q + 1) (by simp)]; exact r1
  have kk : KP [q + 30, q + 21] h h2 := (k1.up (by simp)).tr (k2.up (by simp))
  have e195 : ∀ h9, B_Rm_get_195 (L_Rm_get_98 f) h9 (nI at') (nI L) = some (nI (at' + 2 + L), h9) := fun h9 => by
    unfold B_Rm_get_195
    rw [show nI at' + 2 = nI (at' + 2) from nI_add at' 2, nI_add]
  rw [g1]
  unfold B_Rm_get_98
  rw [if_pos (show (32 : Int32) ≤ nI 32 by decide), bs_ (gR_at R1.1 rfl), bs_ (gR_at R1.1 rfl), show P_Rm_load h1 (q + 21) (q + 30) 0 = some h2 from a1, bs_ rfl]
  by_cases z : L = 33
  · rw [if_pos (show nI L = 33 by rw [z]; rfl), bs_ (gR_at R2.1 rfl), bs_ (sB_in (at' + 2) r2 (show nI at' + 2 = nI (at' + 2) from nI_add at' 2) (by omega) (by omega))]
    by_cases y : row (at' + 2) = 0
    · rw [if_pos ((i8_z _).mpr y), e195]
      exact ⟨h2, _, rfl, R2, kk, ⟨T', w2⟩, by rw [if_neg (fun c => c.2 y)]⟩
    · rw [if_neg (fun c => y ((i8_z _).mp c))]
      obtain ⟨U, u1, _⟩ := R2.2.1 21 (ro_d (by decide))
      obtain ⟨T3, b1, b2, _⟩ := rwl0 (n := 16) (fun _ => 65535) (fun f' h i => L_Rm_get_174 (L_Rm_get_98 f) f' h q (nI at') (nI L) i) u1 (by
        intro i f' T9 hi _ _
        show B_Rm_get_174 (L_Rm_get_98 f) (L_Rm_get_174 (L_Rm_get_98 f) f') _ q (nI at') (nI L) (nI i) = _
        unfold B_Rm_get_174
        rw [if_neg (show ¬ (16 : Int32) ≤ nI i from nI_ge (b := 16) (by omega) (by omega))]
        refine (bs_ (gR_at (hn_ (by omega) R2.1) rfl)).trans ?_
        refine (bs_ (tJ_in i (hs_ u1) rfl (by omega) (by omega))).trans ?_
        rw [hss]
        show L_Rm_get_174 (L_Rm_get_98 f) f' _ q (nI at') (nI L) (nI i + Int32.ofInt 1) = _
        rw [nI_ofInt1]) (FU - 16)
      have R3 := rq_of R2 (RK.st (q := q) (i := 21) (c := pJ 16 T3) (ro_d (by decide))) (rw_set R2.2 (ro_d (by decide)) (nm_ones b2))
      have k3 : KP [q + 21] h2 (h2.set (q + 21) (pJ 16 T3)) := KP.st (by simp)
      refine ⟨_, 2 ^ 256 - 1, ?_, ⟨R3.1, ?_⟩, kk.tr (k3.up (by simp)), ⟨T', by rw [k3.2 (q + 30) (by simp)]; exact w2⟩, by rw [if_pos ⟨z, y⟩]⟩
      · refine Eq.trans b1 ?_
        show B_Rm_get_174 (L_Rm_get_98 f) _ _ q (nI at') (nI L) (nI 16) = _
        unfold B_Rm_get_174
        rw [if_pos (show (16 : Int32) ≤ nI 16 by decide), e195]
      · have e : ∀ w, up1 (up1 E 21 (be (gtv row at' L) 32)) 21 w = up1 E 21 w := fun w => by
          funext i
          by_cases y : i = 21
          · rw [y, up1_s, up1_s]
          · rw [up1_n y, up1_n y, up1_n y]
        rw [← e]
        exact R3.2
  · rw [if_neg (show ¬ nI L = 33 from fun c => z ((nI_eq (b := 33) (by omega) (by decide)).mp c)), e195]
    exact ⟨h2, _, rfl, R2, kk, ⟨T', w2⟩, by rw [if_neg (fun c => z c.1)]⟩
end GT3
