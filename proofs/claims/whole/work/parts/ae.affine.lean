/-! the class's readAffine (written by mkae.py) -/
section CRA
variable {F : Type} {φ : Nat → F}
theorem ps_lv [Lean.Grind.Field F] (Z : ZF PP φ) (hr : φ (2 ^ 261) ≠ 0) {x z : Nat} (h : z * 2 ^ 261 % PP = x * 1 % PP) : φ z = ps φ x := by
  have e : φ z * φ (2 ^ 261) = φ x := by
    rw [← Z.2.1]
    refine (Z.2.2.2.1 _ _).mpr ?_
    rw [h, Nat.mul_one]
  have i := Lean.Grind.Field.mul_inv_cancel hr
  unfold ps
  rw [← e]
  generalize φ (2 ^ 261) = r at *
  grind
theorem ar_af [Lean.Grind.Field F] {x y z i X Y : F} (hi : z * i = 1) (hx : x = X * (z * z)) (hy : y = Y * (z * z * z)) : x * (i * i) = X ∧ y * (i * i * i) = Y := by
  constructor
  · have : x * (i * i) = X * ((z * i) * (z * i)) := by rw [hx]; grind
    rw [this, hi]; grind
  · have : y * (i * i * i) = Y * ((z * i) * (z * i) * (z * i)) := by rw [hy]; grind
    rw [this, hi]; grind
theorem w_affine [Lean.Grind.Field F] (Z : ZF PP φ) (hr : φ (2 ^ 261) ≠ 0) {c kn m kb bm om sc p kx ky x y z : Nat} {li : Int} {h : HP} (C : CAl c kn m kb bm om sc li h) (dp : sc + 6 ≤ p) (dx : sc + 6 ≤ kx) (dy : sc + 6 ≤ ky) (nxy : kx ≠ ky) (nx : kx < p ∨ p + 4 ≤ kx) (ny : ky < p ∨ p + 4 ≤ ky) (A : PVl p x y z h) (ex_rx : ∃ G, h[kx]? = some (pJ 9 G)) (ex_ry : ∃ G, h[ky]? = some (pJ 9 G)) {S : Option (F × F)} (hJ : JP (ps φ x) (ps φ y) (ps φ z) S) :
    ∃ h' vx vy, P_Cu_readAffine h c p kx ky = some h' ∧ CAl c kn m kb bm om sc li h' ∧ KP [m + 6, m + 7, m + 8, sc + 1, sc + 2, kx, ky] h h' ∧ CV PP h' kx vx ∧ CV PP h' ky vy ∧ (S = none → vx = 0 ∧ vy = 0) ∧ ∀ X Y, S = some (X, Y) → φ vx = X ∧ φ vy = Y := by
  have hv : PP < 2 ^ 256 := by decide
  have C0 := C
  obtain ⟨G, M0, d1, d2⟩ := C
  obtain ⟨l0, l1, l2, l3, l4⟩ := cgm_l G
  obtain ⟨hp0, cx, cy, cz⟩ := A
  obtain ⟨h0, i0, g0, M, kp0, cv_s0, hi⟩ := c_invert (t := sc + 1) Z hr hv (by decide) (Or.inr (show m + 9 ≤ p + 3 by omega)) (Or.inr (by omega)) M0 cz (G.2.2 0 (by decide))
  have k0 : ∀ j, j ≠ m + 6 → j ≠ m + 7 → j ≠ m + 8 → j ≠ sc + 1 → h0[j]? = h[j]? := fun j a b c d => kp0.2 j (by simp; omega)
  have hc : h0[c]? = _ := (k0 c (by omega) (by omega) (by omega) (by omega)).trans G.1
  have hp : h0[p]? = _ := (k0 p (by omega) (by omega) (by omega) (by omega)).trans hp0
  have cvk : ∀ {j w}, CV PP h j w → j ≠ m + 6 → j ≠ m + 7 → j ≠ m + 8 → j ≠ sc + 1 → CV PP h0 j w := by
    intro j w ⟨A, a1, a2⟩ n1 n2 n3 n4
    exact ⟨A, (k0 j n1 n2 n3 n4).trans a1, a2⟩
  have exk : ∀ {j}, (∃ G, h[j]? = some (pJ 9 G)) → j ≠ m + 6 → j ≠ m + 7 → j ≠ m + 8 → j ≠ sc + 1 → ∃ G, h0[j]? = some (pJ 9 G) := by
    intro j ⟨A, a1⟩ n1 n2 n3 n4
    exact ⟨A, (k0 j n1 n2 n3 n4).trans a1⟩
  have cv_fx := cvk cx (by omega) (by omega) (by omega) (by omega)
  have cv_fy := cvk cy (by omega) (by omega) (by omega) (by omega)
  have ex_s1 := exk (G.2.2 1 (by decide)) (by omega) (by omega) (by omega) (by omega)
  replace ex_rx := exk ex_rx (by omega) (by omega) (by omega) (by omega)
  replace ex_ry := exk ex_ry (by omega) (by omega) (by omega) (by omega)
  obtain ⟨h1, z1, g1, o1, e1⟩ := c_mul hv M (show MTo m (sc + 2) from Or.inr (by omega)) ex_s1 cv_s0 cv_s0
  replace e1 := ps_mul Z hr e1
  have cv_s0_1 := co_cv o1 cv_s0 (by omega) (by omega) (by omega)
  have cv_fx_1 := co_cv o1 cv_fx (by omega) (by omega) (by omega)
  have cv_fy_1 := co_cv o1 cv_fy (by omega) (by omega) (by omega)
  have ex_rx_1 := co_r o1 ex_rx (by omega) (by omega)
  have ex_ry_1 := co_r o1 ex_ry (by omega) (by omega)
  have cv_s1_1 := o1.2.2
  have ex_s1_1 := co_r o1 ex_s1 (by omega) (by omega)
  have hc_1 : h1[c]? = some (pO 0 [.ref kn, .ref m, .ref kb, .ref bm, .ref om, .ref sc]) := by rw [o1.2.1.2 (c) (by simp; omega)]; exact hc
  have hp_1 : h1[p]? = some (pO 3 [.ref (p + 1), .ref (p + 2), .ref (p + 3)]) := by rw [o1.2.1.2 (p) (by simp; omega)]; exact hp
  obtain ⟨h2, z2, g2, o2, e2⟩ := c_mul hv o1.1 (show MTo m (kx) from Or.inr (by omega)) ex_rx_1 cv_fx_1 cv_s1_1
  replace e2 := ps_mul Z hr e2
  have cv_s0_2 := co_cv o2 cv_s0_1 (by omega) (by omega) (by omega)
  have cv_s1_2 := co_cv o2 cv_s1_1 (by omega) (by omega) (by omega)
  have ex_s1_2 := co_r o2 ex_s1_1 (by omega) (by omega)
  have cv_fy_2 := co_cv o2 cv_fy_1 (by omega) (by omega) (by omega)
  have ex_ry_2 := co_r o2 ex_ry_1 (by omega) (by omega)
  have cv_rx_2 := o2.2.2
  have hc_2 : h2[c]? = some (pO 0 [.ref kn, .ref m, .ref kb, .ref bm, .ref om, .ref sc]) := by rw [o2.2.1.2 (c) (by simp; omega)]; exact hc_1
  have hp_2 : h2[p]? = some (pO 3 [.ref (p + 1), .ref (p + 2), .ref (p + 3)]) := by rw [o2.2.1.2 (p) (by simp; omega)]; exact hp_1
  obtain ⟨h3, z3, g3, o3, e3⟩ := c_mul hv o2.1 (show MTo m (sc + 2) from Or.inr (by omega)) ex_s1_2 cv_s1_2 cv_s0_2
  replace e3 := ps_mul Z hr e3
  have cv_fy_3 := co_cv o3 cv_fy_2 (by omega) (by omega) (by omega)
  have cv_rx_3 := co_cv o3 cv_rx_2 (by omega) (by omega) (by omega)
  have ex_ry_3 := co_r o3 ex_ry_2 (by omega) (by omega)
  have cv_s1_3 := o3.2.2
  have hc_3 : h3[c]? = some (pO 0 [.ref kn, .ref m, .ref kb, .ref bm, .ref om, .ref sc]) := by rw [o3.2.1.2 (c) (by simp; omega)]; exact hc_2
  have hp_3 : h3[p]? = some (pO 3 [.ref (p + 1), .ref (p + 2), .ref (p + 3)]) := by rw [o3.2.1.2 (p) (by simp; omega)]; exact hp_2
  obtain ⟨h4, z4, g4, o4, e4⟩ := c_mul hv o3.1 (show MTo m (ky) from Or.inr (by omega)) ex_ry_3 cv_fy_3 cv_s1_3
  replace e4 := ps_mul Z hr e4
  have cv_rx_4 := co_cv o4 cv_rx_3 (by omega) (by omega) (by omega)
  have cv_ry_4 := o4.2.2
  have hc_4 : h4[c]? = some (pO 0 [.ref kn, .ref m, .ref kb, .ref bm, .ref om, .ref sc]) := by rw [o4.2.1.2 (c) (by simp; omega)]; exact hc_3
  have hp_4 : h4[p]? = some (pO 3 [.ref (p + 1), .ref (p + 2), .ref (p + 3)]) := by rw [o4.2.1.2 (p) (by simp; omega)]; exact hp_3
  obtain ⟨h5, z5, g5, o5, e5⟩ := c_leave (by decide) hv o4.1 (show MTo m kx from Or.inr (by omega)) (by obtain ⟨G, g, _⟩ := cv_rx_4; exact ⟨G, g⟩) cv_rx_4
  replace e5 := ps_lv Z hr e5
  have hc_5 : h5[c]? = _ := (o5.2.1.2 c (by simp; omega)).trans hc_4
  have cvy5 := co_cv o5 cv_ry_4 (by omega) (by omega) (by omega)
  obtain ⟨h6, z6, g6, o6, e6⟩ := c_leave (by decide) hv o5.1 (show MTo m ky from Or.inr (by omega)) (by obtain ⟨G, g, _⟩ := cvy5; exact ⟨G, g⟩) cvy5
  replace e6 := ps_lv Z hr e6
  have cvx6 := co_cv o6 o5.2.2 (by omega) (by omega) (by omega)
  have kpA : KP [m + 6, m + 7, m + 8, sc + 1, sc + 2, kx, ky] h h6 := (kp0.up (by simp)).tr ((o1.2.1.up (by simp)).tr ((o2.2.1.up (by simp)).tr ((o3.2.1.up (by simp)).tr ((o4.2.1.up (by simp)).tr ((o5.2.1.up (by simp)).tr (o6.2.1.up (by simp)))))))
  have vxe : φ z5 = ps φ x * (ps φ i0 * ps φ i0) := by rw [e5]; simp only [e2, e1]
  have vye : φ z6 = ps φ y * (ps φ i0 * ps φ i0 * ps φ i0) := by rw [e6]; simp only [e4, e3, e1]
  have fp := fi_pw Z pr_P (by decide) (ps φ z)
  have rk : ∀ i, i < 5 → ∃ G, h6[sc + (i + 1)]? = some (pJ 9 G) := by
    intro i hi'
    have : i = 0 ∨ i = 1 ∨ 2 ≤ i := by omega
    rcases this with rfl | rfl | z'
    · exact co_r o6 (co_r o5 (co_r o4 (co_r o3 (co_r o2 (co_r o1 (by obtain ⟨G, g, _⟩ := cv_s0; exact ⟨G, g⟩) (by omega) (by omega)) (by omega) (by omega)) (by omega) (by omega)) (by omega) (by omega)) (by omega) (by omega)) (by omega) (by omega)
    · exact co_r o6 (co_r o5 (co_r o4 (co_r o3 (co_r o2 (co_r o1 ex_s1 (by omega) (by omega)) (by omega) (by omega)) (by omega) (by omega)) (by omega) (by omega)) (by omega) (by omega)) (by omega) (by omega)
    · rw [kpA.2 (sc + (i + 1)) (by simp; omega)]
      exact G.2.2 i hi'
  refine ⟨h6, z5, z6, ?_, cal_k C0 o6.1 kpA (fun j hj => by simp at hj; omega) ⟨rk 0 (by decide), rk 1 (by decide), rk 2 (by decide), rk 3 (by decide), rk 4 (by decide)⟩, kpA, cvx6, o6.2.2, ?_, ?_⟩
  · unfold P_Cu_readAffine
    rw [bs_ (gR_at G.1 rfl), bs_ l0, bs_ (gR_at G.1 rfl), bs_ l1, bs_ (gR_at G.1 rfl), bs_ (gR_at hp0 rfl), os_ M0.1, bs_ g0]
    rw [bs_ (gR_at hc rfl), os_ M.1, bs_ g1]
    rw [bs_ (gR_at hc_1 rfl), bs_ (gR_at hp_1 rfl), os_ o1.1.1, bs_ g2]
    rw [bs_ (gR_at hc_2 rfl), os_ o2.1.1, bs_ g3]
    rw [bs_ (gR_at hc_3 rfl), bs_ (gR_at hp_3 rfl), os_ o3.1.1, bs_ g4]
    rw [bs_ (gR_at hc_4 rfl), os_ o4.1.1, bs_ g5]
    rw [bs_ (gR_at hc_5 rfl), os_ o5.1.1, bs_ g6]
  · intro hS
    have hz : ps φ z = 0 := by
      rcases hJ with ⟨q, _⟩ | ⟨_, X, Y, q, _⟩
      · exact q
      · rw [hS] at q; exact absurd q (by simp)
    have hi0 : ps φ i0 = 0 := by rw [hi]; exact fp.2 hz
    have b5 : z5 < PP := o5.2.2.choose_spec.2.2
    have b6 : z6 < PP := o6.2.2.choose_spec.2.2
    have zz : ∀ w, w < PP → φ w = 0 → w = 0 := by
      intro w hw e
      rw [← zf_0 Z] at e
      exact (zf_ne Z hw (by decide)).mp e
    refine ⟨zz z5 b5 ?_, zz z6 b6 ?_⟩
    · rw [vxe, hi0]; grind
    · rw [vye, hi0]; grind
  · intro X Y hS
    rcases hJ with ⟨_, q⟩ | ⟨nz, X', Y', q, qx, qy⟩
    · rw [hS] at q; exact absurd q (by simp)
    · rw [hS] at q
      have : X = X' ∧ Y = Y' := by simpa using q
      obtain ⟨rfl, rfl⟩ := this
      have hm : ps φ z * ps φ i0 = 1 := by rw [hi]; exact fp.1 nz
      have := ar_af hm qx qy
      exact ⟨by rw [vxe]; exact this.1, by rw [vye]; exact this.2⟩
end CRA
