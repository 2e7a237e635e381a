/-! the class's fillS -/
section FLS
variable {F : Type} {φ : Nat → F}
theorem psn_en [Lean.Grind.Field F] {v : Nat} (Z : ZF v φ) (hr : φ (2 ^ 261) ≠ 0) {x z : Nat} (h : z * 2 ^ 261 % v = x * (2 ^ 522 % v) % v) : ps φ z = φ x := by
  have e : φ z * φ (2 ^ 261) = φ x * (φ (2 ^ 261) * φ (2 ^ 261)) := by
    have e2 : φ (2 ^ 522) = φ (2 ^ 261) * φ (2 ^ 261) := by
      have q := Z.2.1 (2 ^ 261) (2 ^ 261)
      rw [← Nat.pow_add] at q
      exact q
    have e3 : φ (z * 2 ^ 261) = φ (x * (2 ^ 522 % v)) := (Z.2.2.2.1 _ _).mpr h
    rw [Z.2.1, Z.2.1, zf_md Z, e2] at e3
    exact e3
  have i := Lean.Grind.Field.mul_inv_cancel hr
  unfold ps
  generalize φ (2 ^ 261) = r at *
  have : φ z * r⁻¹ = (φ z * r) * r⁻¹ * r⁻¹ := by
    have h1 : (φ z * r) * r⁻¹ * r⁻¹ = φ z * (r * r⁻¹) * r⁻¹ := by grind
    rw [h1, i]; grind
  rw [this, e]
  have h2 : φ x * (r * r) * r⁻¹ * r⁻¹ = φ x * (r * r⁻¹) * (r * r⁻¹) := by grind
  rw [h2, i]; grind
/-- a plain number times one in form comes out plain -/
theorem ps_pl [Lean.Grind.Field F] {v : Nat} (Z : ZF v φ) (hr : φ (2 ^ 261) ≠ 0) {x y z : Nat} (h : z * 2 ^ 261 % v = x * y % v) : φ z = φ x * ps φ y := by
  have e3 : φ (z * 2 ^ 261) = φ (x * y) := (Z.2.2.2.1 _ _).mpr h
  rw [Z.2.1, Z.2.1] at e3
  have i := Lean.Grind.Field.mul_inv_cancel hr
  unfold ps
  generalize φ (2 ^ 261) = r at *
  have : φ z = (φ z * r) * r⁻¹ := by
    have h1 : (φ z * r) * r⁻¹ = φ z * (r * r⁻¹) := by grind
    rw [h1, i]; grind
  rw [this, e3]
  grind
theorem sg_co {s m v t z : Nat} {li : Int} {h h' : HP} (S : SGo s h) (o : CO m v li t z h h') (n1 : s ≠ m + 6) (n2 : s ≠ m + 7) (n3 : s ≠ t) : SGo s h' := by
  unfold SGo
  rw [o.2.1.2 s (by simp; omega)]
  exact S
theorem w_fillS [Lean.Grind.Field F] (Z : ZF NN φ) (hr : φ (2 ^ 261) ≠ 0) {s ks kn r e : Nat} {li : Int} {h : HP} {fd fk : Nat → Int8} (S : SGo s h) (M : MOb (s + 1) NN li h) (hr1 : CV NN h (s + 25) r) (he : CV NN h (s + 27) e) (ex26 : ∃ G, h[s + 26]? = some (pJ 9 G)) (ex30 : ∃ G, h[s + 30]? = some (pJ 9 G)) (hks : h[ks]? = some (pB 32 fd)) (hkn : h[kn]? = some (pB 32 fk)) (n1 : ks < s + 7 ∨ s + 31 ≤ ks) (n2 : kn < s + 7 ∨ s + 31 ≤ kn) (hd : be fd 32 < NN) (hk : be fk 32 < NN) :
    ∃ h' z, P_Si_fillS h s ks kn = some h' ∧ MOb (s + 1) NN li h' ∧ KP [s + 7, s + 8, s + 9, s + 26, s + 30] h h' ∧ CV NN h' (s + 26) z ∧ (∃ G, h'[s + 30]? = some (pJ 9 G)) ∧ φ z = (φ r * φ (be fd 32) + φ e) * φ (be fk 32) ^ (NN - 2) := by
  have hv : NN < 2 ^ 256 := by decide
  obtain ⟨X, hX⟩ : ∃ X, X = be fd 32 := ⟨_, rfl⟩
  obtain ⟨K, hK⟩ : ∃ K, K = be fk 32 := ⟨_, rfl⟩
  rw [← hX] at hd ⊢
  rw [← hK] at hk ⊢
  obtain ⟨D1, g1, g1'⟩ := e_read (at' := 0) (n := 32) (by omega) (by omega) (show s + 30 ≠ ks by omega) hks ex30
  rw [show (fun k => fd (0 + k)) = fd from funext fun k => by rw [Nat.zero_add], ← hX] at g1'
  obtain ⟨G, g⟩ := ex30
  obtain ⟨h1, hh1⟩ : ∃ h1, h1 = h.set (s + 30) (pJ 9 D1) := ⟨_, rfl⟩
  have k1 : KP [s + 30] h h1 := by rw [hh1]; exact KP.st (by simp)
  have S1 : SGo s h1 := by unfold SGo; rw [k1.2 s (by simp)]; exact S
  have M1 : MOb (s + 1) NN li h1 := by rw [hh1]; exact mob_t M (Or.inr (by omega))
  have p1 : CV NN h1 (s + 30) X := ⟨D1, by rw [hh1]; exact hs_ g, g1', hd⟩
  obtain ⟨h2, z2, g2, o2, e2⟩ := c_enter (by decide) hv M1 (show MTo (s + 1) (s + 30) from Or.inr (by omega)) (by obtain ⟨G, g, _⟩ := p1; exact ⟨G, g⟩) p1
  replace e2 := psn_en Z hr e2
  have S2 := sg_co S1 o2 (by omega) (by omega) (by omega)
  have r2 : CV NN h2 (s + 25) r := by
    obtain ⟨R, a, b⟩ := hr1
    exact co_cv o2 ⟨R, by rw [k1.2 (s + 25) (by simp)]; exact a, b⟩ (by omega) (by omega) (by omega)
  have x26 : ∃ G, h2[s + 26]? = some (pJ 9 G) := co_r o2 (by obtain ⟨G, g⟩ := ex26; exact ⟨G, by rw [k1.2 (s + 26) (by simp)]; exact g⟩) (by omega) (by omega)
  obtain ⟨h3, z3, g3, o3, e3⟩ := c_mul hv o2.1 (show MTo (s + 1) (s + 26) from Or.inr (by omega)) x26 r2 o2.2.2
  replace e3 := ps_pl Z hr e3
  have S3 := sg_co S2 o3 (by omega) (by omega) (by omega)
  have e3' : CV NN h3 (s + 27) e := by
    obtain ⟨R, a, b⟩ := he
    exact co_cv o3 (co_cv o2 ⟨R, by rw [k1.2 (s + 27) (by simp)]; exact a, b⟩ (by omega) (by omega) (by omega)) (by omega) (by omega) (by omega)
  obtain ⟨h4, z4, g4, o4, e4⟩ := c_add hv o3.1 (show MTo (s + 1) (s + 26) from Or.inr (by omega)) (co_r o3 x26 (by omega) (by omega)) o3.2.2 e3'
  have e4' : φ z4 = φ z3 + φ e := by rw [← e4, zf_md Z, Z.1]
  have S4 := sg_co S3 o4 (by omega) (by omega) (by omega)
  have kn4 : h4[kn]? = some (pB 32 fk) := by rw [o4.2.1.2 kn (by simp; omega), o3.2.1.2 kn (by simp; omega), o2.2.1.2 kn (by simp; omega), k1.2 kn (by simp; omega)]; exact hkn
  have x30 : ∃ G, h4[s + 30]? = some (pJ 9 G) := co_r o4 (co_r o3 (by obtain ⟨G, g, _⟩ := o2.2.2; exact ⟨G, g⟩) (by omega) (by omega)) (by omega) (by omega)
  obtain ⟨D5, g5, g5'⟩ := e_read (at' := 0) (n := 32) (by omega) (by omega) (show s + 30 ≠ kn by omega) kn4 x30
  rw [show (fun k => fk (0 + k)) = fk from funext fun k => by rw [Nat.zero_add], ← hK] at g5'
  obtain ⟨G5, w5⟩ := x30
  obtain ⟨h5, hh5⟩ : ∃ h5, h5 = h4.set (s + 30) (pJ 9 D5) := ⟨_, rfl⟩
  have k5 : KP [s + 30] h4 h5 := by rw [hh5]; exact KP.st (by simp)
  have S5 : SGo s h5 := by unfold SGo; rw [k5.2 s (by simp)]; exact S4
  have M5 : MOb (s + 1) NN li h5 := by rw [hh5]; exact mob_t o4.1 (Or.inr (by omega))
  have p5 : CV NN h5 (s + 30) K := ⟨D5, by rw [hh5]; exact hs_ w5, g5', hk⟩
  obtain ⟨h6, z6, g6, o6, e6⟩ := c_enter (by decide) hv M5 (show MTo (s + 1) (s + 30) from Or.inr (by omega)) (by obtain ⟨G, g, _⟩ := p5; exact ⟨G, g⟩) p5
  replace e6 := psn_en Z hr e6
  have S6 := sg_co S5 o6 (by omega) (by omega) (by omega)
  obtain ⟨h7, z7, g7, M7, k7, c7, e7⟩ := c_invert (t := s + 30) Z hr hv (by decide) (Or.inr (show s + 1 + 9 ≤ s + 30 by omega)) (Or.inr (by omega)) o6.1 o6.2.2 (by obtain ⟨G, g, _⟩ := o6.2.2; exact ⟨G, g⟩)
  rw [e6] at e7
  have S7 : SGo s h7 := by unfold SGo; rw [k7.2 s (by simp; omega)]; exact S6
  have c4 : CV NN h7 (s + 26) z4 := by
    obtain ⟨R, a, b⟩ := o4.2.2
    have c6 := co_cv o6 (⟨R, by rw [k5.2 (s + 26) (by simp)]; exact a, b⟩ : CV NN h5 (s + 26) z4) (by omega) (by omega) (by omega)
    obtain ⟨R', a', b'⟩ := c6
    exact ⟨R', by rw [k7.2 (s + 26) (by simp)]; exact a', b'⟩
  obtain ⟨h8, z8, g8, o8, e8⟩ := c_mul hv M7 (show MTo (s + 1) (s + 26) from Or.inr (by omega)) (by obtain ⟨G, g, _⟩ := c4; exact ⟨G, g⟩) c4 c7
  replace e8 := ps_pl Z hr e8
  refine ⟨h8, z8, ?_, o8.1, (k1.up (by simp)).tr ((o2.2.1.up (by simp)).tr ((o3.2.1.up (by simp)).tr ((o4.2.1.up (by simp)).tr ((k5.up (by simp)).tr ((o6.2.1.up (by simp)).tr ((k7.up (by simp)).tr (o8.2.1.up (by simp)))))))), o8.2.2, co_r o8 (by obtain ⟨G, g, _⟩ := c7; exact ⟨G, g⟩) (by omega) (by omega), ?_⟩
  · unfold P_Si_fillS
    rw [bs_ (gR_at S rfl), show P_Li_read h ks 0 (s + 30) = some h1 from by rw [hh1]; exact g1, bs_ rfl, bs_ (gR_at S1 rfl), bs_ (gR_at S1 rfl), bs_ (gR_at S1 rfl), os_ M1.1, bs_ g2, bs_ (gR_at S2 rfl), bs_ (gR_at S2 rfl), bs_ (gR_at S2 rfl), bs_ (gR_at S2 rfl), os_ o2.1.1, bs_ g3, bs_ (gR_at S3 rfl), bs_ (gR_at S3 rfl), bs_ (gR_at S3 rfl), bs_ (gR_at S3 rfl), os_ o3.1.1, bs_ g4]
    rw [bs_ (gR_at S4 rfl), show P_Li_read h4 kn 0 (s + 30) = some h5 from by rw [hh5]; exact g5, bs_ rfl, bs_ (gR_at S5 rfl), bs_ (gR_at S5 rfl), bs_ (gR_at S5 rfl), os_ M5.1, bs_ g6, bs_ (gR_at S6 rfl), bs_ (gR_at S6 rfl), bs_ (gR_at S6 rfl), os_ o6.1.1, bs_ g7, bs_ (gR_at S7 rfl), bs_ (gR_at S7 rfl), bs_ (gR_at S7 rfl), bs_ (gR_at S7 rfl), os_ M7.1, bs_ g8]
  · rw [e8, e7, e4', e3, e2]
end FLS
