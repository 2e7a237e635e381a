/-! the curve's add (written by mka9.py) -/
section CAA
variable {F : Type} {φ : Nat → F}
theorem c_pre [Lean.Grind.Field F] (Z : ZF PP φ) (hr : φ (2 ^ 261) ≠ 0) {c kn m kb bm om sc a b t x1 y1 z1 x2 y2 z2 : Nat} {li : Int} {h : HP} (d1 : c < m) (d2 : m + 9 ≤ sc) (d_a : sc + 6 ≤ a) (d_b : sc + 6 ≤ b) (d_t : sc + 6 ≤ t) (hc : h[c]? = some (pO 0 [.ref kn, .ref m, .ref kb, .ref bm, .ref om, .ref sc])) (h_a : h[a]? = some (pO 3 [.ref (a + 1), .ref (a + 2), .ref (a + 3)])) (h_b : h[b]? = some (pO 3 [.ref (b + 1), .ref (b + 2), .ref (b + 3)])) (h_t : h[t]? = some (pO 3 [.ref (t + 1), .ref (t + 2), .ref (t + 3)])) (l0 : ldR h sc 5 0 = some (sc + 1)) (l1 : ldR h sc 5 1 = some (sc + 2)) (l2 : ldR h sc 5 2 = some (sc + 3)) (l3 : ldR h sc 5 3 = some (sc + 4)) (l4 : ldR h sc 5 4 = some (sc + 5)) (M : MOb m PP li h) (ex_s0 : ∃ G, h[sc + 1]? = some (pJ 9 G)) (ex_s1 : ∃ G, h[sc + 2]? = some (pJ 9 G)) (ex_s2 : ∃ G, h[sc + 3]? = some (pJ 9 G)) (ex_s3 : ∃ G, h[sc + 4]? = some (pJ 9 G)) (ex_s4 : ∃ G, h[sc + 5]? = some (pJ 9 G)) (cv_ax : CV PP h (a + 1) x1) (cv_ay : CV PP h (a + 2) y1) (cv_az : CV PP h (a + 3) z1) (cv_bx : CV PP h (b + 1) x2) (cv_by : CV PP h (b + 2) y2) (cv_bz : CV PP h (b + 3) z2) (hz1 : z1 ≠ 0) (hz2 : z2 ≠ 0) :
    ∃ h' u0 u1 u2 u3, P_Cu_add h c a b t = (bnd2 (P_Li_areSame h' (sc + 1) (sc + 2)) fun v42 h41 => if v42 = 0 then ob h41 c 0 (bnd (P_Cu_addApart h41 c a b t) fun h47 => some h47) else bnd2 (P_Li_areSame h41 (sc + 3) (sc + 4)) fun v44 h43 => if v44 = 0 then ob h43 t 3 (bnd (P_Po_setNeutral h43 t) fun h45 => some h45) else ob h43 c 0 (bnd (P_Cu_twice h43 c a t) fun h46 => some h46)) ∧ MOb m PP li h' ∧ KP [m + 6, m + 7, sc + 1, sc + 2, sc + 3, sc + 4, sc + 5] h h' ∧ (CV PP h' (sc + 1) u0 ∧ CV PP h' (sc + 2) u1 ∧ CV PP h' (sc + 3) u2 ∧ CV PP h' (sc + 4) u3) ∧ (∃ G, h'[sc + 5]? = some (pJ 9 G)) ∧ ps φ u0 = ps φ x1 * (ps φ z2 * ps φ z2) ∧ ps φ u1 = ps φ x2 * (ps φ z1 * ps φ z1) ∧ ps φ u2 = ps φ y1 * (ps φ z2 * ps φ z2 * ps φ z2) ∧ ps φ u3 = ps φ y2 * (ps φ z1 * ps φ z1 * ps φ z1) := by
  have hv : PP < 2 ^ 256 := by decide
  obtain ⟨h1, z1, g1, o1, e1⟩ := c_mul hv M (show MTo m (sc + 5) from Or.inr (by omega)) ex_s4 cv_bz cv_bz
  replace e1 := ps_mul Z hr e1
  have ex_s0_1 := co_r o1 ex_s0 (by omega) (by omega)
  have ex_s1_1 := co_r o1 ex_s1 (by omega) (by omega)
  have ex_s2_1 := co_r o1 ex_s2 (by omega) (by omega)
  have ex_s3_1 := co_r o1 ex_s3 (by omega) (by omega)
  have cv_ax_1 := co_cv o1 cv_ax (by omega) (by omega) (by omega)
  have cv_ay_1 := co_cv o1 cv_ay (by omega) (by omega) (by omega)
  have cv_az_1 := co_cv o1 cv_az (by omega) (by omega) (by omega)
  have cv_bx_1 := co_cv o1 cv_bx (by omega) (by omega) (by omega)
  have cv_by_1 := co_cv o1 cv_by (by omega) (by omega) (by omega)
  have cv_bz_1 := co_cv o1 cv_bz (by omega) (by omega) (by omega)
  have cv_s4_1 := o1.2.2
  have ex_s4_1 := co_r o1 ex_s4 (by omega) (by omega)
  have hc_1 : h1[c]? = some (pO 0 [.ref kn, .ref m, .ref kb, .ref bm, .ref om, .ref sc]) := by rw [o1.2.1.2 (c) (by simp; omega)]; exact hc
  have h_a_1 : h1[a]? = some (pO 3 [.ref (a + 1), .ref (a + 2), .ref (a + 3)]) := by rw [o1.2.1.2 (a) (by simp; omega)]; exact h_a
  have h_b_1 : h1[b]? = some (pO 3 [.ref (b + 1), .ref (b + 2), .ref (b + 3)]) := by rw [o1.2.1.2 (b) (by simp; omega)]; exact h_b
  have h_t_1 : h1[t]? = some (pO 3 [.ref (t + 1), .ref (t + 2), .ref (t + 3)]) := by rw [o1.2.1.2 (t) (by simp; omega)]; exact h_t
  obtain ⟨h2, z2, g2, o2, e2⟩ := c_mul hv o1.1 (show MTo m (sc + 1) from Or.inr (by omega)) ex_s0_1 cv_ax_1 cv_s4_1
  replace e2 := ps_mul Z hr e2
  have ex_s1_2 := co_r o2 ex_s1_1 (by omega) (by omega)
  have ex_s2_2 := co_r o2 ex_s2_1 (by omega) (by omega)
  have ex_s3_2 := co_r o2 ex_s3_1 (by omega) (by omega)
  have cv_s4_2 := co_cv o2 cv_s4_1 (by omega) (by omega) (by omega)
  have ex_s4_2 := co_r o2 ex_s4_1 (by omega) (by omega)
  have cv_ax_2 := co_cv o2 cv_ax_1 (by omega) (by omega) (by omega)
  have cv_ay_2 := co_cv o2 cv_ay_1 (by omega) (by omega) (by omega)
  have cv_az_2 := co_cv o2 cv_az_1 (by omega) (by omega) (by omega)
  have cv_bx_2 := co_cv o2 cv_bx_1 (by omega) (by omega) (by omega)
  have cv_by_2 := co_cv o2 cv_by_1 (by omega) (by omega) (by omega)
  have cv_bz_2 := co_cv o2 cv_bz_1 (by omega) (by omega) (by omega)
  have cv_s0_2 := o2.2.2
  have ex_s0_2 := co_r o2 ex_s0_1 (by omega) (by omega)
  have hc_2 : h2[c]? = some (pO 0 [.ref kn, .ref m, .ref kb, .ref bm, .ref om, .ref sc]) := by rw [o2.2.1.2 (c) (by simp; omega)]; exact hc_1
  have h_a_2 : h2[a]? = some (pO 3 [.ref (a + 1), .ref (a + 2), .ref (a + 3)]) := by rw [o2.2.1.2 (a) (by simp; omega)]; exact h_a_1
  have h_b_2 : h2[b]? = some (pO 3 [.ref (b + 1), .ref (b + 2), .ref (b + 3)]) := by rw [o2.2.1.2 (b) (by simp; omega)]; exact h_b_1
  have h_t_2 : h2[t]? = some (pO 3 [.ref (t + 1), .ref (t + 2), .ref (t + 3)]) := by rw [o2.2.1.2 (t) (by simp; omega)]; exact h_t_1
  obtain ⟨h3, z3, g3, o3, e3⟩ := c_mul hv o2.1 (show MTo m (sc + 5) from Or.inr (by omega)) ex_s4_2 cv_s4_2 cv_bz_2
  replace e3 := ps_mul Z hr e3
  have cv_s0_3 := co_cv o3 cv_s0_2 (by omega) (by omega) (by omega)
  have ex_s0_3 := co_r o3 ex_s0_2 (by omega) (by omega)
  have ex_s1_3 := co_r o3 ex_s1_2 (by omega) (by omega)
  have ex_s2_3 := co_r o3 ex_s2_2 (by omega) (by omega)
  have ex_s3_3 := co_r o3 ex_s3_2 (by omega) (by omega)
  have cv_ax_3 := co_cv o3 cv_ax_2 (by omega) (by omega) (by omega)
  have cv_ay_3 := co_cv o3 cv_ay_2 (by omega) (by omega) (by omega)
  have cv_az_3 := co_cv o3 cv_az_2 (by omega) (by omega) (by omega)
  have cv_bx_3 := co_cv o3 cv_bx_2 (by omega) (by omega) (by omega)
  have cv_by_3 := co_cv o3 cv_by_2 (by omega) (by omega) (by omega)
  have cv_bz_3 := co_cv o3 cv_bz_2 (by omega) (by omega) (by omega)
  have cv_s4_3 := o3.2.2
  have ex_s4_3 := co_r o3 ex_s4_2 (by omega) (by omega)
  have hc_3 : h3[c]? = some (pO 0 [.ref kn, .ref m, .ref kb, .ref bm, .ref om, .ref sc]) := by rw [o3.2.1.2 (c) (by simp; omega)]; exact hc_2
  have h_a_3 : h3[a]? = some (pO 3 [.ref (a + 1), .ref (a + 2), .ref (a + 3)]) := by rw [o3.2.1.2 (a) (by simp; omega)]; exact h_a_2
  have h_b_3 : h3[b]? = some (pO 3 [.ref (b + 1), .ref (b + 2), .ref (b + 3)]) := by rw [o3.2.1.2 (b) (by simp; omega)]; exact h_b_2
  have h_t_3 : h3[t]? = some (pO 3 [.ref (t + 1), .ref (t + 2), .ref (t + 3)]) := by rw [o3.2.1.2 (t) (by simp; omega)]; exact h_t_2
  obtain ⟨h4, z4, g4, o4, e4⟩ := c_mul hv o3.1 (show MTo m (sc + 3) from Or.inr (by omega)) ex_s2_3 cv_ay_3 cv_s4_3
  replace e4 := ps_mul Z hr e4
  have cv_s0_4 := co_cv o4 cv_s0_3 (by omega) (by omega) (by omega)
  have ex_s0_4 := co_r o4 ex_s0_3 (by omega) (by omega)
  have ex_s1_4 := co_r o4 ex_s1_3 (by omega) (by omega)
  have ex_s3_4 := co_r o4 ex_s3_3 (by omega) (by omega)
  have ex_s4_4 := co_r o4 ex_s4_3 (by omega) (by omega)
  have cv_ax_4 := co_cv o4 cv_ax_3 (by omega) (by omega) (by omega)
  have cv_ay_4 := co_cv o4 cv_ay_3 (by omega) (by omega) (by omega)
  have cv_az_4 := co_cv o4 cv_az_3 (by omega) (by omega) (by omega)
  have cv_bx_4 := co_cv o4 cv_bx_3 (by omega) (by omega) (by omega)
  have cv_by_4 := co_cv o4 cv_by_3 (by omega) (by omega) (by omega)
  have cv_bz_4 := co_cv o4 cv_bz_3 (by omega) (by omega) (by omega)
  have cv_s2_4 := o4.2.2
  have ex_s2_4 := co_r o4 ex_s2_3 (by omega) (by omega)
  have hc_4 : h4[c]? = some (pO 0 [.ref kn, .ref m, .ref kb, .ref bm, .ref om, .ref sc]) := by rw [o4.2.1.2 (c) (by simp; omega)]; exact hc_3
  have h_a_4 : h4[a]? = some (pO 3 [.ref (a + 1), .ref (a + 2), .ref (a + 3)]) := by rw [o4.2.1.2 (a) (by simp; omega)]; exact h_a_3
  have h_b_4 : h4[b]? = some (pO 3 [.ref (b + 1), .ref (b + 2), .ref (b + 3)]) := by rw [o4.2.1.2 (b) (by simp; omega)]; exact h_b_3
  have h_t_4 : h4[t]? = some (pO 3 [.ref (t + 1), .ref (t + 2), .ref (t + 3)]) := by rw [o4.2.1.2 (t) (by simp; omega)]; exact h_t_3
  obtain ⟨h5, z5, g5, o5, e5⟩ := c_mul hv o4.1 (show MTo m (sc + 5) from Or.inr (by omega)) ex_s4_4 cv_az_4 cv_az_4
  replace e5 := ps_mul Z hr e5
  have cv_s0_5 := co_cv o5 cv_s0_4 (by omega) (by omega) (by omega)
  have ex_s0_5 := co_r o5 ex_s0_4 (by omega) (by omega)
  have ex_s1_5 := co_r o5 ex_s1_4 (by omega) (by omega)
  have cv_s2_5 := co_cv o5 cv_s2_4 (by omega) (by omega) (by omega)
  have ex_s2_5 := co_r o5 ex_s2_4 (by omega) (by omega)
  have ex_s3_5 := co_r o5 ex_s3_4 (by omega) (by omega)
  have cv_ax_5 := co_cv o5 cv_ax_4 (by omega) (by omega) (by omega)
  have cv_ay_5 := co_cv o5 cv_ay_4 (by omega) (by omega) (by omega)
  have cv_az_5 := co_cv o5 cv_az_4 (by omega) (by omega) (by omega)
  have cv_bx_5 := co_cv o5 cv_bx_4 (by omega) (by omega) (by omega)
  have cv_by_5 := co_cv o5 cv_by_4 (by omega) (by omega) (by omega)
  have cv_bz_5 := co_cv o5 cv_bz_4 (by omega) (by omega) (by omega)
  have cv_s4_5 := o5.2.2
  have ex_s4_5 := co_r o5 ex_s4_4 (by omega) (by omega)
  have hc_5 : h5[c]? = some (pO 0 [.ref kn, .ref m, .ref kb, .ref bm, .ref om, .ref sc]) := by rw [o5.2.1.2 (c) (by simp; omega)]; exact hc_4
  have h_a_5 : h5[a]? = some (pO 3 [.ref (a + 1), .ref (a + 2), .ref (a + 3)]) := by rw [o5.2.1.2 (a) (by simp; omega)]; exact h_a_4
  have h_b_5 : h5[b]? = some (pO 3 [.ref (b + 1), .ref (b + 2), .ref (b + 3)]) := by rw [o5.2.1.2 (b) (by simp; omega)]; exact h_b_4
  have h_t_5 : h5[t]? = some (pO 3 [.ref (t + 1), .ref (t + 2), .ref (t + 3)]) := by rw [o5.2.1.2 (t) (by simp; omega)]; exact h_t_4
  obtain ⟨h6, z6, g6, o6, e6⟩ := c_mul hv o5.1 (show MTo m (sc + 2) from Or.inr (by omega)) ex_s1_5 cv_bx_5 cv_s4_5
  replace e6 := ps_mul Z hr e6
  have cv_s0_6 := co_cv o6 cv_s0_5 (by omega) (by omega) (by omega)
  have ex_s0_6 := co_r o6 ex_s0_5 (by omega) (by omega)
  have cv_s2_6 := co_cv o6 cv_s2_5 (by omega) (by omega) (by omega)
  have ex_s2_6 := co_r o6 ex_s2_5 (by omega) (by omega)
  have ex_s3_6 := co_r o6 ex_s3_5 (by omega) (by omega)
  have cv_s4_6 := co_cv o6 cv_s4_5 (by omega) (by omega) (by omega)
  have ex_s4_6 := co_r o6 ex_s4_5 (by omega) (by omega)
  have cv_ax_6 := co_cv o6 cv_ax_5 (by omega) (by omega) (by omega)
  have cv_ay_6 := co_cv o6 cv_ay_5 (by omega) (by omega) (by omega)
  have cv_az_6 := co_cv o6 cv_az_5 (by omega) (by omega) (by omega)
  have cv_bx_6 := co_cv o6 cv_bx_5 (by omega) (by omega) (by omega)
  have cv_by_6 := co_cv o6 cv_by_5 (by omega) (by omega) (by omega)
  have cv_bz_6 := co_cv o6 cv_bz_5 (by omega) (by omega) (by omega)
  have cv_s1_6 := o6.2.2
  have ex_s1_6 := co_r o6 ex_s1_5 (by omega) (by omega)
  have hc_6 : h6[c]? = some (pO 0 [.ref kn, .ref m, .ref kb, .ref bm, .ref om, .ref sc]) := by rw [o6.2.1.2 (c) (by simp; omega)]; exact hc_5
  have h_a_6 : h6[a]? = some (pO 3 [.ref (a + 1), .ref (a + 2), .ref (a + 3)]) := by rw [o6.2.1.2 (a) (by simp; omega)]; exact h_a_5
  have h_b_6 : h6[b]? = some (pO 3 [.ref (b + 1), .ref (b + 2), .ref (b + 3)]) := by rw [o6.2.1.2 (b) (by simp; omega)]; exact h_b_5
  have h_t_6 : h6[t]? = some (pO 3 [.ref (t + 1), .ref (t + 2), .ref (t + 3)]) := by rw [o6.2.1.2 (t) (by simp; omega)]; exact h_t_5
  obtain ⟨h7, z7, g7, o7, e7⟩ := c_mul hv o6.1 (show MTo m (sc + 5) from Or.inr (by omega)) ex_s4_6 cv_s4_6 cv_az_6
  replace e7 := ps_mul Z hr e7
  have cv_s0_7 := co_cv o7 cv_s0_6 (by omega) (by omega) (by omega)
  have ex_s0_7 := co_r o7 ex_s0_6 (by omega) (by omega)
  have cv_s1_7 := co_cv o7 cv_s1_6 (by omega) (by omega) (by omega)
  have ex_s1_7 := co_r o7 ex_s1_6 (by omega) (by omega)
  have cv_s2_7 := co_cv o7 cv_s2_6 (by omega) (by omega) (by omega)
  have ex_s2_7 := co_r o7 ex_s2_6 (by omega) (by omega)
  have ex_s3_7 := co_r o7 ex_s3_6 (by omega) (by omega)
  have cv_ax_7 := co_cv o7 cv_ax_6 (by omega) (by omega) (by omega)
  have cv_ay_7 := co_cv o7 cv_ay_6 (by omega) (by omega) (by omega)
  have cv_az_7 := co_cv o7 cv_az_6 (by omega) (by omega) (by omega)
  have cv_bx_7 := co_cv o7 cv_bx_6 (by omega) (by omega) (by omega)
  have cv_by_7 := co_cv o7 cv_by_6 (by omega) (by omega) (by omega)
  have cv_bz_7 := co_cv o7 cv_bz_6 (by omega) (by omega) (by omega)
  have cv_s4_7 := o7.2.2
  have ex_s4_7 := co_r o7 ex_s4_6 (by omega) (by omega)
  have hc_7 : h7[c]? = some (pO 0 [.ref kn, .ref m, .ref kb, .ref bm, .ref om, .ref sc]) := by rw [o7.2.1.2 (c) (by simp; omega)]; exact hc_6
  have h_a_7 : h7[a]? = some (pO 3 [.ref (a + 1), .ref (a + 2), .ref (a + 3)]) := by rw [o7.2.1.2 (a) (by simp; omega)]; exact h_a_6
  have h_b_7 : h7[b]? = some (pO 3 [.ref (b + 1), .ref (b + 2), .ref (b + 3)]) := by rw [o7.2.1.2 (b) (by simp; omega)]; exact h_b_6
  have h_t_7 : h7[t]? = some (pO 3 [.ref (t + 1), .ref (t + 2), .ref (t + 3)]) := by rw [o7.2.1.2 (t) (by simp; omega)]; exact h_t_6
  obtain ⟨h8, z8, g8, o8, e8⟩ := c_mul hv o7.1 (show MTo m (sc + 4) from Or.inr (by omega)) ex_s3_7 cv_by_7 cv_s4_7
  replace e8 := ps_mul Z hr e8
  have cv_s0_8 := co_cv o8 cv_s0_7 (by omega) (by omega) (by omega)
  have ex_s0_8 := co_r o8 ex_s0_7 (by omega) (by omega)
  have cv_s1_8 := co_cv o8 cv_s1_7 (by omega) (by omega) (by omega)
  have ex_s1_8 := co_r o8 ex_s1_7 (by omega) (by omega)
  have cv_s2_8 := co_cv o8 cv_s2_7 (by omega) (by omega) (by omega)
  have ex_s2_8 := co_r o8 ex_s2_7 (by omega) (by omega)
  have ex_s4_8 := co_r o8 ex_s4_7 (by omega) (by omega)
  have cv_ax_8 := co_cv o8 cv_ax_7 (by omega) (by omega) (by omega)
  have cv_ay_8 := co_cv o8 cv_ay_7 (by omega) (by omega) (by omega)
  have cv_az_8 := co_cv o8 cv_az_7 (by omega) (by omega) (by omega)
  have cv_bx_8 := co_cv o8 cv_bx_7 (by omega) (by omega) (by omega)
  have cv_by_8 := co_cv o8 cv_by_7 (by omega) (by omega) (by omega)
  have cv_bz_8 := co_cv o8 cv_bz_7 (by omega) (by omega) (by omega)
  have cv_s3_8 := o8.2.2
  have ex_s3_8 := co_r o8 ex_s3_7 (by omega) (by omega)
  have hc_8 : h8[c]? = some (pO 0 [.ref kn, .ref m, .ref kb, .ref bm, .ref om, .ref sc]) := by rw [o8.2.1.2 (c) (by simp; omega)]; exact hc_7
  have h_a_8 : h8[a]? = some (pO 3 [.ref (a + 1), .ref (a + 2), .ref (a + 3)]) := by rw [o8.2.1.2 (a) (by simp; omega)]; exact h_a_7
  have h_b_8 : h8[b]? = some (pO 3 [.ref (b + 1), .ref (b + 2), .ref (b + 3)]) := by rw [o8.2.1.2 (b) (by simp; omega)]; exact h_b_7
  have h_t_8 : h8[t]? = some (pO 3 [.ref (t + 1), .ref (t + 2), .ref (t + 3)]) := by rw [o8.2.1.2 (t) (by simp; omega)]; exact h_t_7
  refine ⟨h8, z2, z6, z4, z8, ?_, o8.1, (o1.2.1.up (by simp)).tr ((o2.2.1.up (by simp)).tr ((o3.2.1.up (by simp)).tr ((o4.2.1.up (by simp)).tr ((o5.2.1.up (by simp)).tr ((o6.2.1.up (by simp)).tr ((o7.2.1.up (by simp)).tr (o8.2.1.up (by simp)))))))), ⟨cv_s0_8, cv_s1_8, cv_s2_8, cv_s3_8⟩, ex_s4_8, ?_, ?_, ?_, ?_⟩
  · unfold P_Cu_add
    rw [os_ h_b, bs2 (e_isNeutral h_b cv_bz), decide_eq_false hz2, if_pos (show bi false = 0 by decide), os_ h_a, bs2 (e_isNeutral h_a cv_az), decide_eq_false hz1, if_pos (show bi false = 0 by decide)]
    rw [bs_ (gR_at hc rfl), bs_ l0, bs_ (gR_at hc rfl), bs_ l1, bs_ (gR_at hc rfl), bs_ l2, bs_ (gR_at hc rfl), bs_ l3, bs_ (gR_at hc rfl), bs_ l4]
    rw [bs_ (gR_at hc rfl), bs_ (gR_at h_b rfl), bs_ (gR_at h_b rfl), os_ M.1, bs_ g1]
    rw [bs_ (gR_at hc_1 rfl), bs_ (gR_at h_a_1 rfl), os_ o1.1.1, bs_ g2]
    rw [bs_ (gR_at hc_2 rfl), bs_ (gR_at h_b_2 rfl), os_ o2.1.1, bs_ g3]
    rw [bs_ (gR_at hc_3 rfl), bs_ (gR_at h_a_3 rfl), os_ o3.1.1, bs_ g4]
    rw [bs_ (gR_at hc_4 rfl), bs_ (gR_at h_a_4 rfl), bs_ (gR_at h_a_4 rfl), os_ o4.1.1, bs_ g5]
    rw [bs_ (gR_at hc_5 rfl), bs_ (gR_at h_b_5 rfl), os_ o5.1.1, bs_ g6]
    rw [bs_ (gR_at hc_6 rfl), bs_ (gR_at h_a_6 rfl), os_ o6.1.1, bs_ g7]
    rw [bs_ (gR_at hc_7 rfl), bs_ (gR_at h_b_7 rfl), os_ o7.1.1, bs_ g8]
    rfl
  · simp only [e8, e7, e6, e5, e4, e3, e2, e1]
  · simp only [e8, e7, e6, e5, e4, e3, e2, e1]
  · simp only [e8, e7, e6, e5, e4, e3, e2, e1]
  · simp only [e8, e7, e6, e5, e4, e3, e2, e1]
end CAA
