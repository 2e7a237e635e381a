/-! the class's enterForm of a point, and takesOther -/
section CTK
variable {F : Type} {φ : Nat → F}
theorem cal_hi {c kn m kb bm om sc : Nat} {li : Int} {S : List Nat} {h h' : HP} (C : CAl c kn m kb bm om sc li h) (k : KP S h h') (n : ∀ j, j ∈ S → sc + 6 ≤ j) : CAl c kn m kb bm om sc li h' := by
  obtain ⟨⟨a, ⟨f, b1', b2'⟩, e⟩, M, cm, mm⟩ := C
  have ee : ∀ j, j < sc + 6 → h'[j]? = h[j]? := fun j hj => k.2 j (fun q => by have := n j q; omega)
  refine ⟨⟨by rw [ee c (by omega)]; exact a, ⟨f, by rw [ee sc (by omega)]; exact b1', b2'⟩, fun i hi => by rw [ee _ (by omega)]; exact e i hi⟩, ?_, cm, mm⟩
  obtain ⟨m1, m2, ⟨m3, m4, m5, m6⟩, ⟨m7, m8, m9⟩⟩ := M
  exact ⟨(ee m (by omega)).trans m1, by rw [ee (m + 1) (by omega)]; exact m2, ⟨by rw [ee (m + 2) (by omega)]; exact m3, by rw [ee (m + 3) (by omega)]; exact m4, by rw [ee (m + 4) (by omega)]; exact m5, by rw [ee (m + 5) (by omega)]; exact m6⟩, by rw [ee (m + 6) (by omega)]; exact m7, by rw [ee (m + 7) (by omega)]; exact m8, by rw [ee (m + 8) (by omega)]; exact m9⟩
theorem cal_co {c kn m kb bm om sc t z : Nat} {li : Int} {h h' : HP} (C : CAl c kn m kb bm om sc li h) (o : CO m PP li t z h h') (ht : sc + 6 ≤ t) : CAl c kn m kb bm om sc li h' := by
  obtain ⟨⟨a, ⟨f, b1', b2'⟩, e⟩, M, cm, mm⟩ := C
  have ee : ∀ j, j < sc + 6 → j ≠ m + 6 → j ≠ m + 7 → h'[j]? = h[j]? := fun j hj n6 n7 => o.2.1.2 j (by simp; omega)
  exact ⟨⟨by rw [ee c (by omega) (by omega) (by omega)]; exact a, ⟨f, by rw [ee sc (by omega) (by omega) (by omega)]; exact b1', b2'⟩, fun i hi => by rw [ee _ (by omega) (by omega) (by omega)]; exact e i hi⟩, o.1, cm, mm⟩
theorem ps_en [Lean.Grind.Field F] (Z : ZF PP φ) (hr : φ (2 ^ 261) ≠ 0) {x z : Nat} (h : z * 2 ^ 261 % PP = x * (2 ^ 522 % PP) % PP) : ps φ z = φ x := by
  have e : φ z * φ (2 ^ 261) = φ x * (φ (2 ^ 261) * φ (2 ^ 261)) := by
    have e2 : φ (2 ^ 522) = φ (2 ^ 261) * φ (2 ^ 261) := by
      have q := Z.2.1 (2 ^ 261) (2 ^ 261)
      rw [← Nat.pow_add] at q
      exact q
    have e3 : φ (z * 2 ^ 261) = φ (x * (2 ^ 522 % PP)) := (Z.2.2.2.1 _ _).mpr h
    rw [Z.2.1, Z.2.1, zf_md Z, e2] at e3
    exact e3
  have i := Lean.Grind.Field.mul_inv_cancel hr
  unfold ps
  generalize φ (2 ^ 261) = r at *
  have : φ z * r⁻¹ = (φ z * r) * r⁻¹ * r⁻¹ := by
    have h1 : (φ z * r) * r⁻¹ * r⁻¹ = φ z * (r * r⁻¹) * r⁻¹ := by grind
    rw [h1, i]; grind
  rw [this, e]
  have h2 : φ x * (r * r) * r⁻¹ * r⁻¹ = φ x * (r * r⁻¹) * (r * r⁻¹) := by grind
  rw [h2, i]; grind
theorem w_enter [Lean.Grind.Field F] (Z : ZF PP φ) (hr : φ (2 ^ 261) ≠ 0) {c kn m kb bm om sc p x y : Nat} {li : Int} {h : HP} (C : CAl c kn m kb bm om sc li h) (dp : sc + 6 ≤ p) (hp : POb p h) (hx : CV PP h (p + 1) x) (hy : CV PP h (p + 2) y) (hz : ∃ G, h[p + 3]? = some (pJ 9 G)) :
    ∃ h' x' y' z', P_Cu_enterForm h c p = some h' ∧ CAl c kn m kb bm om sc li h' ∧ KP [m + 6, m + 7, p + 1, p + 2, p + 3] h h' ∧ PVl p x' y' z' h' ∧ ps φ x' = φ x ∧ ps φ y' = φ y ∧ ps φ z' = 1 := by
  have hv : PP < 2 ^ 256 := by decide
  have d1 := C.2.2.1
  have d2 := C.2.2.2
  obtain ⟨h1, x', g1, o1, e1⟩ := c_enter (by decide) hv C.2.1 (show MTo m (p + 1) from Or.inr (by omega)) (by obtain ⟨G, g, _⟩ := hx; exact ⟨G, g⟩) hx
  have C1 := cal_co C o1 (by omega)
  have hp1 : POb p h1 := by unfold POb; rw [o1.2.1.2 p (by simp; omega)]; exact hp
  have hy1 := co_cv o1 hy (by omega) (by omega) (by omega)
  obtain ⟨h2, y', g2, o2, e2⟩ := c_enter (by decide) hv C1.2.1 (show MTo m (p + 2) from Or.inr (by omega)) (by obtain ⟨G, g, _⟩ := hy1; exact ⟨G, g⟩) hy1
  have C2 := cal_co C1 o2 (by omega)
  have hp2 : POb p h2 := by unfold POb; rw [o2.2.1.2 p (by simp; omega)]; exact hp1
  obtain ⟨h3, g3, o3⟩ := c_one (by decide) C2.2.1 (show MTo m (p + 3) from Or.inr (by omega)) (co_r o2 (co_r o1 hz (by omega) (by omega)) (by omega) (by omega))
  have C3 := cal_co C2 o3 (by omega)
  refine ⟨h3, x', y', _, ?_, C3, (o1.2.1.up (by simp)).tr ((o2.2.1.up (by simp)).tr (o3.2.1.up (by simp))), ⟨?_, co_cv o3 (co_cv o2 o1.2.2 (by omega) (by omega) (by omega)) (by omega) (by omega) (by omega), co_cv o3 o2.2.2 (by omega) (by omega) (by omega), o3.2.2⟩, ps_en Z hr e1, ps_en Z hr e2, ps_one Z hr⟩
  · unfold P_Cu_enterForm
    rw [bs_ (gR_at C.1.1 rfl), bs_ (gR_at hp rfl), bs_ (gR_at hp rfl), os_ C.2.1.1, bs_ g1, bs_ (gR_at C1.1.1 rfl), bs_ (gR_at hp1 rfl), bs_ (gR_at hp1 rfl), os_ C1.2.1.1, bs_ g2, bs_ (gR_at C2.1.1 rfl), bs_ (gR_at hp2 rfl), os_ C2.2.1.1, bs_ g3]
  · unfold POb; rw [o3.2.1.2 p (by simp; omega)]; exact hp2
end CTK
