/-! the class's readReducedX -/
section RDX
variable {F : Type} {φ : Nat → F}
theorem mob_hi {m v : Nat} {li : Int} {S : List Nat} {h h' : HP} (M : MOb m v li h) (k : KP S h h') (n : ∀ j, j ∈ S → j < m ∨ m + 9 ≤ j) : MOb m v li h' := by
  have e : ∀ i, i ≤ 8 → h'[m + i]? = h[m + i]? := fun i hi => k.2 _ (fun q => by have := n _ q; omega)
  obtain ⟨m1, m2, ⟨m3, m4, m5, m6⟩, ⟨m7, m8, m9⟩⟩ := M
  exact ⟨(e 0 (by decide)).trans m1, by rw [e 1 (by decide)]; exact m2, ⟨by rw [e 2 (by decide)]; exact m3, by rw [e 3 (by decide)]; exact m4, by rw [e 4 (by decide)]; exact m5, by rw [e 5 (by decide)]; exact m6⟩, by rw [e 6 (by decide)]; exact m7, by rw [e 7 (by decide)]; exact m8, by rw [e 8 (by decide)]; exact m9⟩
theorem w_redX [Lean.Grind.Field F] (Z : ZF PP φ) (hr : φ (2 ^ 261) ≠ 0) {c kn m kb bm om sc s x y z : Nat} {li lj : Int} {h : HP} (C : CAl c kn m kb bm om sc li h) (ds : sc + 6 ≤ s) (S : SGo s h) (M : MOb (s + 1) NN lj h) (A : PVl (s + 21) x y z h) (ex25 : ∃ G, h[s + 25]? = some (pJ 9 G)) (ex28 : ∃ G, h[s + 28]? = some (pJ 9 G)) (ex29 : ∃ G, h[s + 29]? = some (pJ 9 G)) {T : Option (F × F)} (hJ : JP (ps φ x) (ps φ y) (ps φ z) T) :
    ∃ h' vx, P_Si_readReducedX h s c = some h' ∧ CAl c kn m kb bm om sc li h' ∧ MOb (s + 1) NN lj h' ∧ SGo s h' ∧ KP [m + 6, m + 7, m + 8, sc + 1, sc + 2, s + 8, s + 25, s + 28, s + 29] h h' ∧ CV NN h' (s + 25) (vx % NN) ∧ (∃ G, h'[s + 28]? = some (pJ 9 G)) ∧ (∃ G, h'[s + 29]? = some (pJ 9 G)) ∧ vx < PP ∧ (T = none → vx = 0) ∧ ∀ X Y, T = some (X, Y) → φ vx = X := by
  have d1 := C.2.2.1
  have d2 := C.2.2.2
  obtain ⟨h1, vx, vy, g1, C1, k1, cx, cy, n0, n1⟩ := w_affine Z hr (p := s + 21) (kx := s + 28) (ky := s + 29) C (by omega) (by omega) (by omega) (by omega) (by omega) (by omega) A ex28 ex29 hJ
  have kk : ∀ j, j ∈ [m + 6, m + 7, m + 8, sc + 1, sc + 2, s + 28, s + 29] → j < sc + 6 ∨ j = s + 28 ∨ j = s + 29 := fun j hj => by simp at hj; omega
  have S1 : SGo s h1 := by unfold SGo; rw [k1.2 s (fun q => by have := kk _ q; omega)]; exact S
  have M1 := mob_hi M k1 (fun j hj => by have := kk j hj; omega)
  have x25 : ∃ G, h1[s + 25]? = some (pJ 9 G) := by rw [k1.2 (s + 25) (fun q => by have := kk _ q; omega)]; exact ex25
  obtain ⟨h2, g2, k2, c2⟩ := e_cp9 cx x25
  have S2 : SGo s h2 := by unfold SGo; rw [k2.2 s (by simp)]; exact S1
  have M2 := mob_hi M1 k2 (fun j hj => by simp at hj; omega)
  have C2 := cal_hi C1 k2 (fun j hj => by simp at hj; omega)
  have M2' := M2
  obtain ⟨m1, ⟨P, q1, q2, q3⟩, ⟨m3, m4, m5, m6⟩, ⟨⟨W, m7⟩, ⟨U, m8⟩, m9⟩⟩ := M2
  obtain ⟨R, r1, r2, r3⟩ := c2
  have lt2 : vx < 2 * NN := by
    have : PP ≤ 2 * NN := by decide
    omega
  obtain ⟨h3, a1, a2, ⟨U', a3⟩, A', a4, a5⟩ := e_reduceOnce (m := s + 1) (kp := s + 1 + 1) (ks := s + 1 + 7) (a := s + 25) m1 rfl rfl r1 q1 m8 (by omega) (by omega) (by omega) r2 q2 lt2
  have a2' : KP [s + 1 + 6, s + 1 + 7, s + 25] h2 h3 := a2.up (by simp)
  have M3 := mob_kp M2' (show MTo (s + 1) (s + 25) from Or.inr (by omega)) a2' ⟨⟨W, by rw [a2.2 (s + 1 + 6) (by simp)]; exact m7⟩, ⟨U', a3⟩, A', a4⟩
  have C3 := cal_hi C2 a2 (fun j hj => by simp at hj; omega)
  refine ⟨h3, vx, ?_, C3, M3, ?_, (k1.up (by simp)).tr ((k2.up (by simp)).tr (a2.up (by simp))), ⟨A', a4, a5, Nat.mod_lt _ (by decide)⟩, ?_, ?_, r3, fun q => (n0 q).1, fun X Y q => (n1 X Y q).1⟩
  · unfold P_Si_readReducedX
    rw [bs_ (gR_at S rfl), bs_ (gR_at S rfl), bs_ (gR_at S rfl), os_ C.1.1, bs_ g1, bs_ (gR_at S1 rfl), bs_ (gR_at S1 rfl), bs_ g2, bs_ (gR_at S2 rfl), bs_ (gR_at S2 rfl), os_ M2'.1, bs_ a1]
  · unfold SGo; rw [a2.2 s (by simp; omega)]; exact S2
  · obtain ⟨G, g, _⟩ := cx
    exact ⟨G, by rw [a2.2 (s + 28) (by simp), k2.2 (s + 28) (by simp)]; exact g⟩
  · obtain ⟨G, g, _⟩ := cy
    exact ⟨G, by rw [a2.2 (s + 29) (by simp), k2.2 (s + 29) (by simp)]; exact g⟩
end RDX
