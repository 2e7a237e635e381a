/-! the class's twice and addApart (written by mka7b.py) -/
section CT7
variable {F : Type} {φ : Nat → F}
theorem c_twice [Lean.Grind.Field F] (Z : ZF PP φ) (hr : φ (2 ^ 261) ≠ 0) {c kn m kb bm om sc a t x y z : Nat} {li : Int} {h : HP} (d1 : c < m) (d2 : m + 9 ≤ sc) (d_a : sc + 6 ≤ a) (d_t : sc + 6 ≤ t) (d5 : a = t ∨ a + 4 ≤ t ∨ t + 4 ≤ a) (hc : h[c]? = some (pO 0 [.ref kn, .ref m, .ref kb, .ref bm, .ref om, .ref sc])) (h_a : h[a]? = some (pO 3 [.ref (a + 1), .ref (a + 2), .ref (a + 3)])) (h_t : h[t]? = some (pO 3 [.ref (t + 1), .ref (t + 2), .ref (t + 3)])) (l0 : ldR h sc 5 0 = some (sc + 1)) (l1 : ldR h sc 5 1 = some (sc + 2)) (l2 : ldR h sc 5 2 = some (sc + 3)) (l3 : ldR h sc 5 3 = some (sc + 4)) (l4 : ldR h sc 5 4 = some (sc + 5)) (M : MOb m PP li h) (ex_s0 : ∃ G, h[sc + 1]? = some (pJ 9 G)) (ex_s1 : ∃ G, h[sc + 2]? = some (pJ 9 G)) (ex_s2 : ∃ G, h[sc + 3]? = some (pJ 9 G)) (ex_s3 : ∃ G, h[sc + 4]? = some (pJ 9 G)) (ex_s4 : ∃ G, h[sc + 5]? = some (pJ 9 G)) (ex_tx : ∃ G, h[t + 1]? = some (pJ 9 G)) (ex_ty : ∃ G, h[t + 2]? = some (pJ 9 G)) (ex_tz : ∃ G, h[t + 3]? = some (pJ 9 G)) (cv_ax : CV PP h (a + 1) x) (cv_ay : CV PP h (a + 2) y) (cv_az : CV PP h (a + 3) z) : ∃ h' x' y' z', P_Cu_twice h c a t = some h' ∧ MOb m PP li h' ∧ KP [m + 6, m + 7, sc + 1, sc + 2, sc + 3, sc + 4, sc + 5, t + 1, t + 2, t + 3] h h' ∧ CV PP h' (t + 1) x' ∧ CV PP h' (t + 2) y' ∧ CV PP h' (t + 3) z' ∧ ((∃ G, h'[sc + 1]? = some (pJ 9 G)) ∧ (∃ G, h'[sc + 2]? = some (pJ 9 G)) ∧ (∃ G, h'[sc + 3]? = some (pJ 9 G)) ∧ (∃ G, h'[sc + 4]? = some (pJ 9 G)) ∧ (∃ G, h'[sc + 5]? = some (pJ 9 G))) ∧ ps φ x' = tX (ps φ x) (ps φ y) (ps φ z) ∧ ps φ y' = tY (ps φ x) (ps φ y) (ps φ z) ∧ ps φ z' = tZ (ps φ y) (ps φ z) := by
  have hv : PP < 2 ^ 256 := by decide
  obtain ⟨h1, z1, g1, o1, e1⟩ := c_mul hv M (show MTo m (sc + 1) from Or.inr (by omega)) ex_s0 cv_az cv_az
  replace e1 := ps_mul Z hr e1
  have ex_s1_1 := co_r o1 ex_s1 (by omega) (by omega)
  have ex_s2_1 := co_r o1 ex_s2 (by omega) (by omega)
  have ex_s3_1 := co_r o1 ex_s3 (by omega) (by omega)
  have ex_s4_1 := co_r o1 ex_s4 (by omega) (by omega)
  have cv_ax_1 := co_cv o1 cv_ax (by omega) (by omega) (by omega)
  have cv_ay_1 := co_cv o1 cv_ay (by omega) (by omega) (by omega)
  have cv_az_1 := co_cv o1 cv_az (by omega) (by omega) (by omega)
  have ex_tx_1 := co_r o1 ex_tx (by omega) (by omega)
  have ex_ty_1 := co_r o1 ex_ty (by omega) (by omega)
  have ex_tz_1 := co_r o1 ex_tz (by omega) (by omega)
  have cv_s0_1 := o1.2.2
  have ex_s0_1 := co_r o1 ex_s0 (by omega) (by omega)
  have hc_1 : h1[c]? = some (pO 0 [.ref kn, .ref m, .ref kb, .ref bm, .ref om, .ref sc]) := by rw [o1.2.1.2 (c) (by simp; omega)]; exact hc
  have h_a_1 : h1[a]? = some (pO 3 [.ref (a + 1), .ref (a + 2), .ref (a + 3)]) := by rw [o1.2.1.2 (a) (by simp; omega)]; exact h_a
  have h_t_1 : h1[t]? = some (pO 3 [.ref (t + 1), .ref (t + 2), .ref (t + 3)]) := by rw [o1.2.1.2 (t) (by simp; omega)]; exact h_t
  obtain ⟨h2, z2, g2, o2, e2⟩ := c_mul hv o1.1 (show MTo m (sc + 2) from Or.inr (by omega)) ex_s1_1 cv_ay_1 cv_ay_1
  replace e2 := ps_mul Z hr e2
  have cv_s0_2 := co_cv o2 cv_s0_1 (by omega) (by omega) (by omega)
  have ex_s0_2 := co_r o2 ex_s0_1 (by omega) (by omega)
  have ex_s2_2 := co_r o2 ex_s2_1 (by omega) (by omega)
  have ex_s3_2 := co_r o2 ex_s3_1 (by omega) (by omega)
  have ex_s4_2 := co_r o2 ex_s4_1 (by omega) (by omega)
  have cv_ax_2 := co_cv o2 cv_ax_1 (by omega) (by omega) (by omega)
  have cv_ay_2 := co_cv o2 cv_ay_1 (by omega) (by omega) (by omega)
  have cv_az_2 := co_cv o2 cv_az_1 (by omega) (by omega) (by omega)
  have ex_tx_2 := co_r o2 ex_tx_1 (by omega) (by omega)
  have ex_ty_2 := co_r o2 ex_ty_1 (by omega) (by omega)
  have ex_tz_2 := co_r o2 ex_tz_1 (by omega) (by omega)
  have cv_s1_2 := o2.2.2
  have ex_s1_2 := co_r o2 ex_s1_1 (by omega) (by omega)
  have hc_2 : h2[c]? = some (pO 0 [.ref kn, .ref m, .ref kb, .ref bm, .ref om, .ref sc]) := by rw [o2.2.1.2 (c) (by simp; omega)]; exact hc_1
  have h_a_2 : h2[a]? = some (pO 3 [.ref (a + 1), .ref (a + 2), .ref (a + 3)]) := by rw [o2.2.1.2 (a) (by simp; omega)]; exact h_a_1
  have h_t_2 : h2[t]? = some (pO 3 [.ref (t + 1), .ref (t + 2), .ref (t + 3)]) := by rw [o2.2.1.2 (t) (by simp; omega)]; exact h_t_1
  obtain ⟨h3, z3, g3, o3, e3⟩ := c_mul hv o2.1 (show MTo m (sc + 3) from Or.inr (by omega)) ex_s2_2 cv_ax_2 cv_s1_2
  replace e3 := ps_mul Z hr e3
  have cv_s0_3 := co_cv o3 cv_s0_2 (by omega) (by omega) (by omega)
  have ex_s0_3 := co_r o3 ex_s0_2 (by omega) (by omega)
  have cv_s1_3 := co_cv o3 cv_s1_2 (by omega) (by omega) (by omega)
  have ex_s1_3 := co_r o3 ex_s1_2 (by omega) (by omega)
  have ex_s3_3 := co_r o3 ex_s3_2 (by omega) (by omega)
  have ex_s4_3 := co_r o3 ex_s4_2 (by omega) (by omega)
  have cv_ax_3 := co_cv o3 cv_ax_2 (by omega) (by omega) (by omega)
  have cv_ay_3 := co_cv o3 cv_ay_2 (by omega) (by omega) (by omega)
  have cv_az_3 := co_cv o3 cv_az_2 (by omega) (by omega) (by omega)
  have ex_tx_3 := co_r o3 ex_tx_2 (by omega) (by omega)
  have ex_ty_3 := co_r o3 ex_ty_2 (by omega) (by omega)
  have ex_tz_3 := co_r o3 ex_tz_2 (by omega) (by omega)
  have cv_s2_3 := o3.2.2
  have ex_s2_3 := co_r o3 ex_s2_2 (by omega) (by omega)
  have hc_3 : h3[c]? = some (pO 0 [.ref kn, .ref m, .ref kb, .ref bm, .ref om, .ref sc]) := by rw [o3.2.1.2 (c) (by simp; omega)]; exact hc_2
  have h_a_3 : h3[a]? = some (pO 3 [.ref (a + 1), .ref (a + 2), .ref (a + 3)]) := by rw [o3.2.1.2 (a) (by simp; omega)]; exact h_a_2
  have h_t_3 : h3[t]? = some (pO 3 [.ref (t + 1), .ref (t + 2), .ref (t + 3)]) := by rw [o3.2.1.2 (t) (by simp; omega)]; exact h_t_2
  obtain ⟨h4, z4, g4, o4, e4⟩ := c_sub hv o3.1 (show MTo m (sc + 5) from Or.inr (by omega)) ex_s4_3 cv_ax_3 cv_s0_3
  replace e4 := ps_sub Z cv_s0_3.choose_spec.2.2 e4
  have cv_s0_4 := co_cv o4 cv_s0_3 (by omega) (by omega) (by omega)
  have ex_s0_4 := co_r o4 ex_s0_3 (by omega) (by omega)
  have cv_s1_4 := co_cv o4 cv_s1_3 (by omega) (by omega) (by omega)
  have ex_s1_4 := co_r o4 ex_s1_3 (by omega) (by omega)
  have cv_s2_4 := co_cv o4 cv_s2_3 (by omega) (by omega) (by omega)
  have ex_s2_4 := co_r o4 ex_s2_3 (by omega) (by omega)
  have ex_s3_4 := co_r o4 ex_s3_3 (by omega) (by omega)
  have cv_ax_4 := co_cv o4 cv_ax_3 (by omega) (by omega) (by omega)
  have cv_ay_4 := co_cv o4 cv_ay_3 (by omega) (by omega) (by omega)
  have cv_az_4 := co_cv o4 cv_az_3 (by omega) (by omega) (by omega)
  have ex_tx_4 := co_r o4 ex_tx_3 (by omega) (by omega)
  have ex_ty_4 := co_r o4 ex_ty_3 (by omega) (by omega)
  have ex_tz_4 := co_r o4 ex_tz_3 (by omega) (by omega)
  have cv_s4_4 := o4.2.2
  have ex_s4_4 := co_r o4 ex_s4_3 (by omega) (by omega)
  have hc_4 : h4[c]? = some (pO 0 [.ref kn, .ref m, .ref kb, .ref bm, .ref om, .ref sc]) := by rw [o4.2.1.2 (c) (by simp; omega)]; exact hc_3
  have h_a_4 : h4[a]? = some (pO 3 [.ref (a + 1), .ref (a + 2), .ref (a + 3)]) := by rw [o4.2.1.2 (a) (by simp; omega)]; exact h_a_3
  have h_t_4 : h4[t]? = some (pO 3 [.ref (t + 1), .ref (t + 2), .ref (t + 3)]) := by rw [o4.2.1.2 (t) (by simp; omega)]; exact h_t_3
  obtain ⟨h5, z5, g5, o5, e5⟩ := c_add hv o4.1 (show MTo m (sc + 4) from Or.inr (by omega)) ex_s3_4 cv_ax_4 cv_s0_4
  replace e5 := ps_add Z e5
  have ex_s0_5 := co_r o5 ex_s0_4 (by omega) (by omega)
  have cv_s1_5 := co_cv o5 cv_s1_4 (by omega) (by omega) (by omega)
  have ex_s1_5 := co_r o5 ex_s1_4 (by omega) (by omega)
  have cv_s2_5 := co_cv o5 cv_s2_4 (by omega) (by omega) (by omega)
  have ex_s2_5 := co_r o5 ex_s2_4 (by omega) (by omega)
  have cv_s4_5 := co_cv o5 cv_s4_4 (by omega) (by omega) (by omega)
  have ex_s4_5 := co_r o5 ex_s4_4 (by omega) (by omega)
  have cv_ay_5 := co_cv o5 cv_ay_4 (by omega) (by omega) (by omega)
  have cv_az_5 := co_cv o5 cv_az_4 (by omega) (by omega) (by omega)
  have ex_tx_5 := co_r o5 ex_tx_4 (by omega) (by omega)
  have ex_ty_5 := co_r o5 ex_ty_4 (by omega) (by omega)
  have ex_tz_5 := co_r o5 ex_tz_4 (by omega) (by omega)
  have cv_s3_5 := o5.2.2
  have ex_s3_5 := co_r o5 ex_s3_4 (by omega) (by omega)
  have hc_5 : h5[c]? = some (pO 0 [.ref kn, .ref m, .ref kb, .ref bm, .ref om, .ref sc]) := by rw [o5.2.1.2 (c) (by simp; omega)]; exact hc_4
  have h_a_5 : h5[a]? = some (pO 3 [.ref (a + 1), .ref (a + 2), .ref (a + 3)]) := by rw [o5.2.1.2 (a) (by simp; omega)]; exact h_a_4
  have h_t_5 : h5[t]? = some (pO 3 [.ref (t + 1), .ref (t + 2), .ref (t + 3)]) := by rw [o5.2.1.2 (t) (by simp; omega)]; exact h_t_4
  obtain ⟨h6, z6, g6, o6, e6⟩ := c_mul hv o5.1 (show MTo m (sc + 5) from Or.inr (by omega)) ex_s4_5 cv_s3_5 cv_s4_5
  replace e6 := ps_mul Z hr e6
  have ex_s0_6 := co_r o6 ex_s0_5 (by omega) (by omega)
  have cv_s1_6 := co_cv o6 cv_s1_5 (by omega) (by omega) (by omega)
  have ex_s1_6 := co_r o6 ex_s1_5 (by omega) (by omega)
  have cv_s2_6 := co_cv o6 cv_s2_5 (by omega) (by omega) (by omega)
  have ex_s2_6 := co_r o6 ex_s2_5 (by omega) (by omega)
  have ex_s3_6 := co_r o6 ex_s3_5 (by omega) (by omega)
  have cv_ay_6 := co_cv o6 cv_ay_5 (by omega) (by omega) (by omega)
  have cv_az_6 := co_cv o6 cv_az_5 (by omega) (by omega) (by omega)
  have ex_tx_6 := co_r o6 ex_tx_5 (by omega) (by omega)
  have ex_ty_6 := co_r o6 ex_ty_5 (by omega) (by omega)
  have ex_tz_6 := co_r o6 ex_tz_5 (by omega) (by omega)
  have cv_s4_6 := o6.2.2
  have ex_s4_6 := co_r o6 ex_s4_5 (by omega) (by omega)
  have hc_6 : h6[c]? = some (pO 0 [.ref kn, .ref m, .ref kb, .ref bm, .ref om, .ref sc]) := by rw [o6.2.1.2 (c) (by simp; omega)]; exact hc_5
  have h_a_6 : h6[a]? = some (pO 3 [.ref (a + 1), .ref (a + 2), .ref (a + 3)]) := by rw [o6.2.1.2 (a) (by simp; omega)]; exact h_a_5
  have h_t_6 : h6[t]? = some (pO 3 [.ref (t + 1), .ref (t + 2), .ref (t + 3)]) := by rw [o6.2.1.2 (t) (by simp; omega)]; exact h_t_5
  obtain ⟨h7, z7, g7, o7, e7⟩ := c_add hv o6.1 (show MTo m (sc + 4) from Or.inr (by omega)) ex_s3_6 cv_s4_6 cv_s4_6
  replace e7 := ps_add Z e7
  have ex_s0_7 := co_r o7 ex_s0_6 (by omega) (by omega)
  have cv_s1_7 := co_cv o7 cv_s1_6 (by omega) (by omega) (by omega)
  have ex_s1_7 := co_r o7 ex_s1_6 (by omega) (by omega)
  have cv_s2_7 := co_cv o7 cv_s2_6 (by omega) (by omega) (by omega)
  have ex_s2_7 := co_r o7 ex_s2_6 (by omega) (by omega)
  have cv_s4_7 := co_cv o7 cv_s4_6 (by omega) (by omega) (by omega)
  have ex_s4_7 := co_r o7 ex_s4_6 (by omega) (by omega)
  have cv_ay_7 := co_cv o7 cv_ay_6 (by omega) (by omega) (by omega)
  have cv_az_7 := co_cv o7 cv_az_6 (by omega) (by omega) (by omega)
  have ex_tx_7 := co_r o7 ex_tx_6 (by omega) (by omega)
  have ex_ty_7 := co_r o7 ex_ty_6 (by omega) (by omega)
  have ex_tz_7 := co_r o7 ex_tz_6 (by omega) (by omega)
  have cv_s3_7 := o7.2.2
  have ex_s3_7 := co_r o7 ex_s3_6 (by omega) (by omega)
  have hc_7 : h7[c]? = some (pO 0 [.ref kn, .ref m, .ref kb, .ref bm, .ref om, .ref sc]) := by rw [o7.2.1.2 (c) (by simp; omega)]; exact hc_6
  have h_a_7 : h7[a]? = some (pO 3 [.ref (a + 1), .ref (a + 2), .ref (a + 3)]) := by rw [o7.2.1.2 (a) (by simp; omega)]; exact h_a_6
  have h_t_7 : h7[t]? = some (pO 3 [.ref (t + 1), .ref (t + 2), .ref (t + 3)]) := by rw [o7.2.1.2 (t) (by simp; omega)]; exact h_t_6
  obtain ⟨h8, z8, g8, o8, e8⟩ := c_add hv o7.1 (show MTo m (sc + 4) from Or.inr (by omega)) ex_s3_7 cv_s3_7 cv_s4_7
  replace e8 := ps_add Z e8
  have ex_s0_8 := co_r o8 ex_s0_7 (by omega) (by omega)
  have cv_s1_8 := co_cv o8 cv_s1_7 (by omega) (by omega) (by omega)
  have ex_s1_8 := co_r o8 ex_s1_7 (by omega) (by omega)
  have cv_s2_8 := co_cv o8 cv_s2_7 (by omega) (by omega) (by omega)
  have ex_s2_8 := co_r o8 ex_s2_7 (by omega) (by omega)
  have ex_s4_8 := co_r o8 ex_s4_7 (by omega) (by omega)
  have cv_ay_8 := co_cv o8 cv_ay_7 (by omega) (by omega) (by omega)
  have cv_az_8 := co_cv o8 cv_az_7 (by omega) (by omega) (by omega)
  have ex_tx_8 := co_r o8 ex_tx_7 (by omega) (by omega)
  have ex_ty_8 := co_r o8 ex_ty_7 (by omega) (by omega)
  have ex_tz_8 := co_r o8 ex_tz_7 (by omega) (by omega)
  have cv_s3_8 := o8.2.2
  have ex_s3_8 := co_r o8 ex_s3_7 (by omega) (by omega)
  have hc_8 : h8[c]? = some (pO 0 [.ref kn, .ref m, .ref kb, .ref bm, .ref om, .ref sc]) := by rw [o8.2.1.2 (c) (by simp; omega)]; exact hc_7
  have h_a_8 : h8[a]? = some (pO 3 [.ref (a + 1), .ref (a + 2), .ref (a + 3)]) := by rw [o8.2.1.2 (a) (by simp; omega)]; exact h_a_7
  have h_t_8 : h8[t]? = some (pO 3 [.ref (t + 1), .ref (t + 2), .ref (t + 3)]) := by rw [o8.2.1.2 (t) (by simp; omega)]; exact h_t_7
  obtain ⟨h9, z9, g9, o9, e9⟩ := c_mul hv o8.1 (show MTo m (sc + 5) from Or.inr (by omega)) ex_s4_8 cv_ay_8 cv_az_8
  replace e9 := ps_mul Z hr e9
  have ex_s0_9 := co_r o9 ex_s0_8 (by omega) (by omega)
  have cv_s1_9 := co_cv o9 cv_s1_8 (by omega) (by omega) (by omega)
  have ex_s1_9 := co_r o9 ex_s1_8 (by omega) (by omega)
  have cv_s2_9 := co_cv o9 cv_s2_8 (by omega) (by omega) (by omega)
  have ex_s2_9 := co_r o9 ex_s2_8 (by omega) (by omega)
  have cv_s3_9 := co_cv o9 cv_s3_8 (by omega) (by omega) (by omega)
  have ex_s3_9 := co_r o9 ex_s3_8 (by omega) (by omega)
  have ex_tx_9 := co_r o9 ex_tx_8 (by omega) (by omega)
  have ex_ty_9 := co_r o9 ex_ty_8 (by omega) (by omega)
  have ex_tz_9 := co_r o9 ex_tz_8 (by omega) (by omega)
  have cv_s4_9 := o9.2.2
  have ex_s4_9 := co_r o9 ex_s4_8 (by omega) (by omega)
  have hc_9 : h9[c]? = some (pO 0 [.ref kn, .ref m, .ref kb, .ref bm, .ref om, .ref sc]) := by rw [o9.2.1.2 (c) (by simp; omega)]; exact hc_8
  have h_a_9 : h9[a]? = some (pO 3 [.ref (a + 1), .ref (a + 2), .ref (a + 3)]) := by rw [o9.2.1.2 (a) (by simp; omega)]; exact h_a_8
  have h_t_9 : h9[t]? = some (pO 3 [.ref (t + 1), .ref (t + 2), .ref (t + 3)]) := by rw [o9.2.1.2 (t) (by simp; omega)]; exact h_t_8
  obtain ⟨h10, z10, g10, o10, e10⟩ := c_add hv o9.1 (show MTo m (t + 3) from Or.inr (by omega)) ex_tz_9 cv_s4_9 cv_s4_9
  replace e10 := ps_add Z e10
  have ex_s0_10 := co_r o10 ex_s0_9 (by omega) (by omega)
  have cv_s1_10 := co_cv o10 cv_s1_9 (by omega) (by omega) (by omega)
  have ex_s1_10 := co_r o10 ex_s1_9 (by omega) (by omega)
  have cv_s2_10 := co_cv o10 cv_s2_9 (by omega) (by omega) (by omega)
  have ex_s2_10 := co_r o10 ex_s2_9 (by omega) (by omega)
  have cv_s3_10 := co_cv o10 cv_s3_9 (by omega) (by omega) (by omega)
  have ex_s3_10 := co_r o10 ex_s3_9 (by omega) (by omega)
  have ex_s4_10 := co_r o10 ex_s4_9 (by omega) (by omega)
  have ex_tx_10 := co_r o10 ex_tx_9 (by omega) (by omega)
  have ex_ty_10 := co_r o10 ex_ty_9 (by omega) (by omega)
  have cv_tz_10 := o10.2.2
  have hc_10 : h10[c]? = some (pO 0 [.ref kn, .ref m, .ref kb, .ref bm, .ref om, .ref sc]) := by rw [o10.2.1.2 (c) (by simp; omega)]; exact hc_9
  have h_a_10 : h10[a]? = some (pO 3 [.ref (a + 1), .ref (a + 2), .ref (a + 3)]) := by rw [o10.2.1.2 (a) (by simp; omega)]; exact h_a_9
  have h_t_10 : h10[t]? = some (pO 3 [.ref (t + 1), .ref (t + 2), .ref (t + 3)]) := by rw [o10.2.1.2 (t) (by simp; omega)]; exact h_t_9
  obtain ⟨h11, z11, g11, o11, e11⟩ := c_add hv o10.1 (show MTo m (sc + 3) from Or.inr (by omega)) ex_s2_10 cv_s2_10 cv_s2_10
  replace e11 := ps_add Z e11
  have ex_s0_11 := co_r o11 ex_s0_10 (by omega) (by omega)
  have cv_s1_11 := co_cv o11 cv_s1_10 (by omega) (by omega) (by omega)
  have ex_s1_11 := co_r o11 ex_s1_10 (by omega) (by omega)
  have cv_s3_11 := co_cv o11 cv_s3_10 (by omega) (by omega) (by omega)
  have ex_s3_11 := co_r o11 ex_s3_10 (by omega) (by omega)
  have ex_s4_11 := co_r o11 ex_s4_10 (by omega) (by omega)
  have ex_tx_11 := co_r o11 ex_tx_10 (by omega) (by omega)
  have ex_ty_11 := co_r o11 ex_ty_10 (by omega) (by omega)
  have cv_tz_11 := co_cv o11 cv_tz_10 (by omega) (by omega) (by omega)
  have cv_s2_11 := o11.2.2
  have ex_s2_11 := co_r o11 ex_s2_10 (by omega) (by omega)
  have hc_11 : h11[c]? = some (pO 0 [.ref kn, .ref m, .ref kb, .ref bm, .ref om, .ref sc]) := by rw [o11.2.1.2 (c) (by simp; omega)]; exact hc_10
  have h_a_11 : h11[a]? = some (pO 3 [.ref (a + 1), .ref (a + 2), .ref (a + 3)]) := by rw [o11.2.1.2 (a) (by simp; omega)]; exact h_a_10
  have h_t_11 : h11[t]? = some (pO 3 [.ref (t + 1), .ref (t + 2), .ref (t + 3)]) := by rw [o11.2.1.2 (t) (by simp; omega)]; exact h_t_10
  obtain ⟨h12, z12, g12, o12, e12⟩ := c_add hv o11.1 (show MTo m (sc + 3) from Or.inr (by omega)) ex_s2_11 cv_s2_11 cv_s2_11
  replace e12 := ps_add Z e12
  have ex_s0_12 := co_r o12 ex_s0_11 (by omega) (by omega)
  have cv_s1_12 := co_cv o12 cv_s1_11 (by omega) (by omega) (by omega)
  have ex_s1_12 := co_r o12 ex_s1_11 (by omega) (by omega)
  have cv_s3_12 := co_cv o12 cv_s3_11 (by omega) (by omega) (by omega)
  have ex_s3_12 := co_r o12 ex_s3_11 (by omega) (by omega)
  have ex_s4_12 := co_r o12 ex_s4_11 (by omega) (by omega)
  have ex_tx_12 := co_r o12 ex_tx_11 (by omega) (by omega)
  have ex_ty_12 := co_r o12 ex_ty_11 (by omega) (by omega)
  have cv_tz_12 := co_cv o12 cv_tz_11 (by omega) (by omega) (by omega)
  have cv_s2_12 := o12.2.2
  have ex_s2_12 := co_r o12 ex_s2_11 (by omega) (by omega)
  have hc_12 : h12[c]? = some (pO 0 [.ref kn, .ref m, .ref kb, .ref bm, .ref om, .ref sc]) := by rw [o12.2.1.2 (c) (by simp; omega)]; exact hc_11
  have h_a_12 : h12[a]? = some (pO 3 [.ref (a + 1), .ref (a + 2), .ref (a + 3)]) := by rw [o12.2.1.2 (a) (by simp; omega)]; exact h_a_11
  have h_t_12 : h12[t]? = some (pO 3 [.ref (t + 1), .ref (t + 2), .ref (t + 3)]) := by rw [o12.2.1.2 (t) (by simp; omega)]; exact h_t_11
  obtain ⟨h13, z13, g13, o13, e13⟩ := c_mul hv o12.1 (show MTo m (t + 1) from Or.inr (by omega)) ex_tx_12 cv_s3_12 cv_s3_12
  replace e13 := ps_mul Z hr e13
  have ex_s0_13 := co_r o13 ex_s0_12 (by omega) (by omega)
  have cv_s1_13 := co_cv o13 cv_s1_12 (by omega) (by omega) (by omega)
  have ex_s1_13 := co_r o13 ex_s1_12 (by omega) (by omega)
  have cv_s2_13 := co_cv o13 cv_s2_12 (by omega) (by omega) (by omega)
  have ex_s2_13 := co_r o13 ex_s2_12 (by omega) (by omega)
  have cv_s3_13 := co_cv o13 cv_s3_12 (by omega) (by omega) (by omega)
  have ex_s3_13 := co_r o13 ex_s3_12 (by omega) (by omega)
  have ex_s4_13 := co_r o13 ex_s4_12 (by omega) (by omega)
  have ex_ty_13 := co_r o13 ex_ty_12 (by omega) (by omega)
  have cv_tz_13 := co_cv o13 cv_tz_12 (by omega) (by omega) (by omega)
  have cv_tx_13 := o13.2.2
  have ex_tx_13 := co_r o13 ex_tx_12 (by omega) (by omega)
  have hc_13 : h13[c]? = some (pO 0 [.ref kn, .ref m, .ref kb, .ref bm, .ref om, .ref sc]) := by rw [o13.2.1.2 (c) (by simp; omega)]; exact hc_12
  have h_a_13 : h13[a]? = some (pO 3 [.ref (a + 1), .ref (a + 2), .ref (a + 3)]) := by rw [o13.2.1.2 (a) (by simp; omega)]; exact h_a_12
  have h_t_13 : h13[t]? = some (pO 3 [.ref (t + 1), .ref (t + 2), .ref (t + 3)]) := by rw [o13.2.1.2 (t) (by simp; omega)]; exact h_t_12
  obtain ⟨h14, z14, g14, o14, e14⟩ := c_sub hv o13.1 (show MTo m (t + 1) from Or.inr (by omega)) ex_tx_13 cv_tx_13 cv_s2_13
  replace e14 := ps_sub Z cv_s2_13.choose_spec.2.2 e14
  have ex_s0_14 := co_r o14 ex_s0_13 (by omega) (by omega)
  have cv_s1_14 := co_cv o14 cv_s1_13 (by omega) (by omega) (by omega)
  have ex_s1_14 := co_r o14 ex_s1_13 (by omega) (by omega)
  have cv_s2_14 := co_cv o14 cv_s2_13 (by omega) (by omega) (by omega)
  have ex_s2_14 := co_r o14 ex_s2_13 (by omega) (by omega)
  have cv_s3_14 := co_cv o14 cv_s3_13 (by omega) (by omega) (by omega)
  have ex_s3_14 := co_r o14 ex_s3_13 (by omega) (by omega)
  have ex_s4_14 := co_r o14 ex_s4_13 (by omega) (by omega)
  have ex_ty_14 := co_r o14 ex_ty_13 (by omega) (by omega)
  have cv_tz_14 := co_cv o14 cv_tz_13 (by omega) (by omega) (by omega)
  have cv_tx_14 := o14.2.2
  have ex_tx_14 := co_r o14 ex_tx_13 (by omega) (by omega)
  have hc_14 : h14[c]? = some (pO 0 [.ref kn, .ref m, .ref kb, .ref bm, .ref om, .ref sc]) := by rw [o14.2.1.2 (c) (by simp; omega)]; exact hc_13
  have h_a_14 : h14[a]? = some (pO 3 [.ref (a + 1), .ref (a + 2), .ref (a + 3)]) := by rw [o14.2.1.2 (a) (by simp; omega)]; exact h_a_13
  have h_t_14 : h14[t]? = some (pO 3 [.ref (t + 1), .ref (t + 2), .ref (t + 3)]) := by rw [o14.2.1.2 (t) (by simp; omega)]; exact h_t_13
  obtain ⟨h15, z15, g15, o15, e15⟩ := c_sub hv o14.1 (show MTo m (t + 1) from Or.inr (by omega)) ex_tx_14 cv_tx_14 cv_s2_14
  replace e15 := ps_sub Z cv_s2_14.choose_spec.2.2 e15
  have ex_s0_15 := co_r o15 ex_s0_14 (by omega) (by omega)
  have cv_s1_15 := co_cv o15 cv_s1_14 (by omega) (by omega) (by omega)
  have ex_s1_15 := co_r o15 ex_s1_14 (by omega) (by omega)
  have cv_s2_15 := co_cv o15 cv_s2_14 (by omega) (by omega) (by omega)
  have ex_s2_15 := co_r o15 ex_s2_14 (by omega) (by omega)
  have cv_s3_15 := co_cv o15 cv_s3_14 (by omega) (by omega) (by omega)
  have ex_s3_15 := co_r o15 ex_s3_14 (by omega) (by omega)
  have ex_s4_15 := co_r o15 ex_s4_14 (by omega) (by omega)
  have ex_ty_15 := co_r o15 ex_ty_14 (by omega) (by omega)
  have cv_tz_15 := co_cv o15 cv_tz_14 (by omega) (by omega) (by omega)
  have cv_tx_15 := o15.2.2
  have hc_15 : h15[c]? = some (pO 0 [.ref kn, .ref m, .ref kb, .ref bm, .ref om, .ref sc]) := by rw [o15.2.1.2 (c) (by simp; omega)]; exact hc_14
  have h_a_15 : h15[a]? = some (pO 3 [.ref (a + 1), .ref (a + 2), .ref (a + 3)]) := by rw [o15.2.1.2 (a) (by simp; omega)]; exact h_a_14
  have h_t_15 : h15[t]? = some (pO 3 [.ref (t + 1), .ref (t + 2), .ref (t + 3)]) := by rw [o15.2.1.2 (t) (by simp; omega)]; exact h_t_14
  obtain ⟨h16, z16, g16, o16, e16⟩ := c_sub hv o15.1 (show MTo m (sc + 5) from Or.inr (by omega)) ex_s4_15 cv_s2_15 cv_tx_15
  replace e16 := ps_sub Z cv_tx_15.choose_spec.2.2 e16
  have ex_s0_16 := co_r o16 ex_s0_15 (by omega) (by omega)
  have cv_s1_16 := co_cv o16 cv_s1_15 (by omega) (by omega) (by omega)
  have ex_s1_16 := co_r o16 ex_s1_15 (by omega) (by omega)
  have ex_s2_16 := co_r o16 ex_s2_15 (by omega) (by omega)
  have cv_s3_16 := co_cv o16 cv_s3_15 (by omega) (by omega) (by omega)
  have ex_s3_16 := co_r o16 ex_s3_15 (by omega) (by omega)
  have cv_tx_16 := co_cv o16 cv_tx_15 (by omega) (by omega) (by omega)
  have ex_ty_16 := co_r o16 ex_ty_15 (by omega) (by omega)
  have cv_tz_16 := co_cv o16 cv_tz_15 (by omega) (by omega) (by omega)
  have cv_s4_16 := o16.2.2
  have ex_s4_16 := co_r o16 ex_s4_15 (by omega) (by omega)
  have hc_16 : h16[c]? = some (pO 0 [.ref kn, .ref m, .ref kb, .ref bm, .ref om, .ref sc]) := by rw [o16.2.1.2 (c) (by simp; omega)]; exact hc_15
  have h_a_16 : h16[a]? = some (pO 3 [.ref (a + 1), .ref (a + 2), .ref (a + 3)]) := by rw [o16.2.1.2 (a) (by simp; omega)]; exact h_a_15
  have h_t_16 : h16[t]? = some (pO 3 [.ref (t + 1), .ref (t + 2), .ref (t + 3)]) := by rw [o16.2.1.2 (t) (by simp; omega)]; exact h_t_15
  obtain ⟨h17, z17, g17, o17, e17⟩ := c_mul hv o16.1 (show MTo m (sc + 5) from Or.inr (by omega)) ex_s4_16 cv_s3_16 cv_s4_16
  replace e17 := ps_mul Z hr e17
  have ex_s0_17 := co_r o17 ex_s0_16 (by omega) (by omega)
  have cv_s1_17 := co_cv o17 cv_s1_16 (by omega) (by omega) (by omega)
  have ex_s1_17 := co_r o17 ex_s1_16 (by omega) (by omega)
  have ex_s2_17 := co_r o17 ex_s2_16 (by omega) (by omega)
  have ex_s3_17 := co_r o17 ex_s3_16 (by omega) (by omega)
  have cv_tx_17 := co_cv o17 cv_tx_16 (by omega) (by omega) (by omega)
  have ex_ty_17 := co_r o17 ex_ty_16 (by omega) (by omega)
  have cv_tz_17 := co_cv o17 cv_tz_16 (by omega) (by omega) (by omega)
  have cv_s4_17 := o17.2.2
  have ex_s4_17 := co_r o17 ex_s4_16 (by omega) (by omega)
  have hc_17 : h17[c]? = some (pO 0 [.ref kn, .ref m, .ref kb, .ref bm, .ref om, .ref sc]) := by rw [o17.2.1.2 (c) (by simp; omega)]; exact hc_16
  have h_a_17 : h17[a]? = some (pO 3 [.ref (a + 1), .ref (a + 2), .ref (a + 3)]) := by rw [o17.2.1.2 (a) (by simp; omega)]; exact h_a_16
  have h_t_17 : h17[t]? = some (pO 3 [.ref (t + 1), .ref (t + 2), .ref (t + 3)]) := by rw [o17.2.1.2 (t) (by simp; omega)]; exact h_t_16
  obtain ⟨h18, z18, g18, o18, e18⟩ := c_add hv o17.1 (show MTo m (sc + 2) from Or.inr (by omega)) ex_s1_17 cv_s1_17 cv_s1_17
  replace e18 := ps_add Z e18
  have ex_s0_18 := co_r o18 ex_s0_17 (by omega) (by omega)
  have ex_s2_18 := co_r o18 ex_s2_17 (by omega) (by omega)
  have ex_s3_18 := co_r o18 ex_s3_17 (by omega) (by omega)
  have cv_s4_18 := co_cv o18 cv_s4_17 (by omega) (by omega) (by omega)
  have ex_s4_18 := co_r o18 ex_s4_17 (by omega) (by omega)
  have cv_tx_18 := co_cv o18 cv_tx_17 (by omega) (by omega) (by omega)
  have ex_ty_18 := co_r o18 ex_ty_17 (by omega) (by omega)
  have cv_tz_18 := co_cv o18 cv_tz_17 (by omega) (by omega) (by omega)
  have cv_s1_18 := o18.2.2
  have ex_s1_18 := co_r o18 ex_s1_17 (by omega) (by omega)
  have hc_18 : h18[c]? = some (pO 0 [.ref kn, .ref m, .ref kb, .ref bm, .ref om, .ref sc]) := by rw [o18.2.1.2 (c) (by simp; omega)]; exact hc_17
  have h_a_18 : h18[a]? = some (pO 3 [.ref (a + 1), .ref (a + 2), .ref (a + 3)]) := by rw [o18.2.1.2 (a) (by simp; omega)]; exact h_a_17
  have h_t_18 : h18[t]? = some (pO 3 [.ref (t + 1), .ref (t + 2), .ref (t + 3)]) := by rw [o18.2.1.2 (t) (by simp; omega)]; exact h_t_17
  obtain ⟨h19, z19, g19, o19, e19⟩ := c_mul hv o18.1 (show MTo m (sc + 2) from Or.inr (by omega)) ex_s1_18 cv_s1_18 cv_s1_18
  replace e19 := ps_mul Z hr e19
  have ex_s0_19 := co_r o19 ex_s0_18 (by omega) (by omega)
  have ex_s2_19 := co_r o19 ex_s2_18 (by omega) (by omega)
  have ex_s3_19 := co_r o19 ex_s3_18 (by omega) (by omega)
  have cv_s4_19 := co_cv o19 cv_s4_18 (by omega) (by omega) (by omega)
  have ex_s4_19 := co_r o19 ex_s4_18 (by omega) (by omega)
  have cv_tx_19 := co_cv o19 cv_tx_18 (by omega) (by omega) (by omega)
  have ex_ty_19 := co_r o19 ex_ty_18 (by omega) (by omega)
  have cv_tz_19 := co_cv o19 cv_tz_18 (by omega) (by omega) (by omega)
  have cv_s1_19 := o19.2.2
  have ex_s1_19 := co_r o19 ex_s1_18 (by omega) (by omega)
  have hc_19 : h19[c]? = some (pO 0 [.ref kn, .ref m, .ref kb, .ref bm, .ref om, .ref sc]) := by rw [o19.2.1.2 (c) (by simp; omega)]; exact hc_18
  have h_a_19 : h19[a]? = some (pO 3 [.ref (a + 1), .ref (a + 2), .ref (a + 3)]) := by rw [o19.2.1.2 (a) (by simp; omega)]; exact h_a_18
  have h_t_19 : h19[t]? = some (pO 3 [.ref (t + 1), .ref (t + 2), .ref (t + 3)]) := by rw [o19.2.1.2 (t) (by simp; omega)]; exact h_t_18
  obtain ⟨h20, z20, g20, o20, e20⟩ := c_add hv o19.1 (show MTo m (sc + 2) from Or.inr (by omega)) ex_s1_19 cv_s1_19 cv_s1_19
  replace e20 := ps_add Z e20
  have ex_s0_20 := co_r o20 ex_s0_19 (by omega) (by omega)
  have ex_s2_20 := co_r o20 ex_s2_19 (by omega) (by omega)
  have ex_s3_20 := co_r o20 ex_s3_19 (by omega) (by omega)
  have cv_s4_20 := co_cv o20 cv_s4_19 (by omega) (by omega) (by omega)
  have ex_s4_20 := co_r o20 ex_s4_19 (by omega) (by omega)
  have cv_tx_20 := co_cv o20 cv_tx_19 (by omega) (by omega) (by omega)
  have ex_ty_20 := co_r o20 ex_ty_19 (by omega) (by omega)
  have cv_tz_20 := co_cv o20 cv_tz_19 (by omega) (by omega) (by omega)
  have cv_s1_20 := o20.2.2
  have ex_s1_20 := co_r o20 ex_s1_19 (by omega) (by omega)
  have hc_20 : h20[c]? = some (pO 0 [.ref kn, .ref m, .ref kb, .ref bm, .ref om, .ref sc]) := by rw [o20.2.1.2 (c) (by simp; omega)]; exact hc_19
  have h_a_20 : h20[a]? = some (pO 3 [.ref (a + 1), .ref (a + 2), .ref (a + 3)]) := by rw [o20.2.1.2 (a) (by simp; omega)]; exact h_a_19
  have h_t_20 : h20[t]? = some (pO 3 [.ref (t + 1), .ref (t + 2), .ref (t + 3)]) := by rw [o20.2.1.2 (t) (by simp; omega)]; exact h_t_19
  obtain ⟨h21, z21, g21, o21, e21⟩ := c_sub hv o20.1 (show MTo m (t + 2) from Or.inr (by omega)) ex_ty_20 cv_s4_20 cv_s1_20
  replace e21 := ps_sub Z cv_s1_20.choose_spec.2.2 e21
  have ex_s0_21 := co_r o21 ex_s0_20 (by omega) (by omega)
  have ex_s1_21 := co_r o21 ex_s1_20 (by omega) (by omega)
  have ex_s2_21 := co_r o21 ex_s2_20 (by omega) (by omega)
  have ex_s3_21 := co_r o21 ex_s3_20 (by omega) (by omega)
  have ex_s4_21 := co_r o21 ex_s4_20 (by omega) (by omega)
  have cv_tx_21 := co_cv o21 cv_tx_20 (by omega) (by omega) (by omega)
  have cv_tz_21 := co_cv o21 cv_tz_20 (by omega) (by omega) (by omega)
  have cv_ty_21 := o21.2.2
  have hc_21 : h21[c]? = some (pO 0 [.ref kn, .ref m, .ref kb, .ref bm, .ref om, .ref sc]) := by rw [o21.2.1.2 (c) (by simp; omega)]; exact hc_20
  have h_a_21 : h21[a]? = some (pO 3 [.ref (a + 1), .ref (a + 2), .ref (a + 3)]) := by rw [o21.2.1.2 (a) (by simp; omega)]; exact h_a_20
  have h_t_21 : h21[t]? = some (pO 3 [.ref (t + 1), .ref (t + 2), .ref (t + 3)]) := by rw [o21.2.1.2 (t) (by simp; omega)]; exact h_t_20
  refine ⟨h21, z15, z21, z10, ?_, o21.1, (o1.2.1.up (by simp)).tr ((o2.2.1.up (by simp)).tr ((o3.2.1.up (by simp)).tr ((o4.2.1.up (by simp)).tr ((o5.2.1.up (by simp)).tr ((o6.2.1.up (by simp)).tr ((o7.2.1.up (by simp)).tr ((o8.2.1.up (by simp)).tr ((o9.2.1.up (by simp)).tr ((o10.2.1.up (by simp)).tr ((o11.2.1.up (by simp)).tr ((o12.2.1.up (by simp)).tr ((o13.2.1.up (by simp)).tr ((o14.2.1.up (by simp)).tr ((o15.2.1.up (by simp)).tr ((o16.2.1.up (by simp)).tr ((o17.2.1.up (by simp)).tr ((o18.2.1.up (by simp)).tr ((o19.2.1.up (by simp)).tr ((o20.2.1.up (by simp)).tr (o21.2.1.up (by simp))))))))))))))))))))), cv_tx_21, cv_ty_21, cv_tz_21, ⟨ex_s0_21, ex_s1_21, ex_s2_21, ex_s3_21, ex_s4_21⟩, ?_, ?_, ?_⟩
  · unfold P_Cu_twice
    rw [bs_ (gR_at hc rfl), bs_ l0, bs_ (gR_at hc rfl), bs_ l1, bs_ (gR_at hc rfl), bs_ l2, bs_ (gR_at hc rfl), bs_ l3, bs_ (gR_at hc rfl), bs_ l4]
    rw [bs_ (gR_at hc rfl), bs_ (gR_at h_a rfl), bs_ (gR_at h_a rfl), os_ M.1, bs_ g1]
    rw [bs_ (gR_at hc_1 rfl), bs_ (gR_at h_a_1 rfl), bs_ (gR_at h_a_1 rfl), os_ o1.1.1, bs_ g2]
    rw [bs_ (gR_at hc_2 rfl), bs_ (gR_at h_a_2 rfl), os_ o2.1.1, bs_ g3]
    rw [bs_ (gR_at hc_3 rfl), bs_ (gR_at h_a_3 rfl), os_ o3.1.1, bs_ g4]
    rw [bs_ (gR_at hc_4 rfl), bs_ (gR_at h_a_4 rfl), os_ o4.1.1, bs_ g5]
    rw [bs_ (gR_at hc_5 rfl), os_ o5.1.1, bs_ g6]
    rw [bs_ (gR_at hc_6 rfl), os_ o6.1.1, bs_ g7]
    rw [bs_ (gR_at hc_7 rfl), os_ o7.1.1, bs_ g8]
    rw [bs_ (gR_at hc_8 rfl), bs_ (gR_at h_a_8 rfl), bs_ (gR_at h_a_8 rfl), os_ o8.1.1, bs_ g9]
    rw [bs_ (gR_at hc_9 rfl), bs_ (gR_at h_t_9 rfl), os_ o9.1.1, bs_ g10]
    rw [bs_ (gR_at hc_10 rfl), os_ o10.1.1, bs_ g11]
    rw [bs_ (gR_at hc_11 rfl), os_ o11.1.1, bs_ g12]
    rw [bs_ (gR_at hc_12 rfl), bs_ (gR_at h_t_12 rfl), os_ o12.1.1, bs_ g13]
    rw [bs_ (gR_at hc_13 rfl), bs_ (gR_at h_t_13 rfl), bs_ (gR_at h_t_13 rfl), os_ o13.1.1, bs_ g14]
    rw [bs_ (gR_at hc_14 rfl), bs_ (gR_at h_t_14 rfl), bs_ (gR_at h_t_14 rfl), os_ o14.1.1, bs_ g15]
    rw [bs_ (gR_at hc_15 rfl), bs_ (gR_at h_t_15 rfl), os_ o15.1.1, bs_ g16]
    rw [bs_ (gR_at hc_16 rfl), os_ o16.1.1, bs_ g17]
    rw [bs_ (gR_at hc_17 rfl), os_ o17.1.1, bs_ g18]
    rw [bs_ (gR_at hc_18 rfl), os_ o18.1.1, bs_ g19]
    rw [bs_ (gR_at hc_19 rfl), os_ o19.1.1, bs_ g20]
    rw [bs_ (gR_at hc_20 rfl), bs_ (gR_at h_t_20 rfl), os_ o20.1.1, bs_ g21]
  · unfold tX tSl tXY
    simp only [e21, e20, e19, e18, e17, e16, e15, e14, e13, e12, e11, e10, e9, e8, e7, e6, e5, e4, e3, e2, e1]
  · unfold tY tX tSl tXY
    simp only [e21, e20, e19, e18, e17, e16, e15, e14, e13, e12, e11, e10, e9, e8, e7, e6, e5, e4, e3, e2, e1]
  · unfold tZ
    simp only [e21, e20, e19, e18, e17, e16, e15, e14, e13, e12, e11, e10, e9, e8, e7, e6, e5, e4, e3, e2, e1]
theorem c_apart [Lean.Grind.Field F] (Z : ZF PP φ) (hr : φ (2 ^ 261) ≠ 0) {c kn m kb bm om sc a b t ux wx uy wy z y : Nat} {li : Int} {h : HP} (d1 : c < m) (d2 : m + 9 ≤ sc) (d_a : sc + 6 ≤ a) (d_b : sc + 6 ≤ b) (d_t : sc + 6 ≤ t) (d5 : a = t ∨ a + 4 ≤ t ∨ t + 4 ≤ a) (d6 : b = t ∨ b + 4 ≤ t ∨ t + 4 ≤ b) (hc : h[c]? = some (pO 0 [.ref kn, .ref m, .ref kb, .ref bm, .ref om, .ref sc])) (h_a : h[a]? = some (pO 3 [.ref (a + 1), .ref (a + 2), .ref (a + 3)])) (h_b : h[b]? = some (pO 3 [.ref (b + 1), .ref (b + 2), .ref (b + 3)])) (h_t : h[t]? = some (pO 3 [.ref (t + 1), .ref (t + 2), .ref (t + 3)])) (l0 : ldR h sc 5 0 = some (sc + 1)) (l1 : ldR h sc 5 1 = some (sc + 2)) (l2 : ldR h sc 5 2 = some (sc + 3)) (l3 : ldR h sc 5 3 = some (sc + 4)) (l4 : ldR h sc 5 4 = some (sc + 5)) (M : MOb m PP li h) (ex_s0 : ∃ G, h[sc + 1]? = some (pJ 9 G)) (ex_s1 : ∃ G, h[sc + 2]? = some (pJ 9 G)) (ex_s2 : ∃ G, h[sc + 3]? = some (pJ 9 G)) (ex_s3 : ∃ G, h[sc + 4]? = some (pJ 9 G)) (ex_s4 : ∃ G, h[sc + 5]? = some (pJ 9 G)) (ex_tx : ∃ G, h[t + 1]? = some (pJ 9 G)) (ex_ty : ∃ G, h[t + 2]? = some (pJ 9 G)) (ex_tz : ∃ G, h[t + 3]? = some (pJ 9 G)) (cv_s0 : CV PP h (sc + 1) ux) (cv_s1 : CV PP h (sc + 2) wx) (cv_s2 : CV PP h (sc + 3) uy) (cv_s3 : CV PP h (sc + 4) wy) (cv_az : CV PP h (a + 3) z) (cv_bz : CV PP h (b + 3) y) : ∃ h' x' y' z', P_Cu_addApart h c a b t = some h' ∧ MOb m PP li h' ∧ KP [m + 6, m + 7, sc + 1, sc + 2, sc + 3, sc + 4, sc + 5, t + 1, t + 2, t + 3] h h' ∧ CV PP h' (t + 1) x' ∧ CV PP h' (t + 2) y' ∧ CV PP h' (t + 3) z' ∧ ((∃ G, h'[sc + 1]? = some (pJ 9 G)) ∧ (∃ G, h'[sc + 2]? = some (pJ 9 G)) ∧ (∃ G, h'[sc + 3]? = some (pJ 9 G)) ∧ (∃ G, h'[sc + 4]? = some (pJ 9 G)) ∧ (∃ G, h'[sc + 5]? = some (pJ 9 G))) ∧ ps φ x' = aX (ps φ ux) (ps φ wx - ps φ ux) (ps φ wy - ps φ uy) ∧ ps φ y' = aY (ps φ ux) (ps φ uy) (ps φ wx - ps φ ux) (ps φ wy - ps φ uy) ∧ ps φ z' = ps φ z * ps φ y * (ps φ wx - ps φ ux) := by
  have hv : PP < 2 ^ 256 := by decide
  obtain ⟨h1, z1, g1, o1, e1⟩ := c_sub hv M (show MTo m (sc + 2) from Or.inr (by omega)) ex_s1 cv_s1 cv_s0
  replace e1 := ps_sub Z cv_s0.choose_spec.2.2 e1
  have cv_s0_1 := co_cv o1 cv_s0 (by omega) (by omega) (by omega)
  have ex_s0_1 := co_r o1 ex_s0 (by omega) (by omega)
  have cv_s2_1 := co_cv o1 cv_s2 (by omega) (by omega) (by omega)
  have ex_s2_1 := co_r o1 ex_s2 (by omega) (by omega)
  have cv_s3_1 := co_cv o1 cv_s3 (by omega) (by omega) (by omega)
  have ex_s3_1 := co_r o1 ex_s3 (by omega) (by omega)
  have ex_s4_1 := co_r o1 ex_s4 (by omega) (by omega)
  have cv_az_1 := co_cv o1 cv_az (by omega) (by omega) (by omega)
  have cv_bz_1 := co_cv o1 cv_bz (by omega) (by omega) (by omega)
  have ex_tx_1 := co_r o1 ex_tx (by omega) (by omega)
  have ex_ty_1 := co_r o1 ex_ty (by omega) (by omega)
  have ex_tz_1 := co_r o1 ex_tz (by omega) (by omega)
  have cv_s1_1 := o1.2.2
  have ex_s1_1 := co_r o1 ex_s1 (by omega) (by omega)
  have hc_1 : h1[c]? = some (pO 0 [.ref kn, .ref m, .ref kb, .ref bm, .ref om, .ref sc]) := by rw [o1.2.1.2 (c) (by simp; omega)]; exact hc
  have h_a_1 : h1[a]? = some (pO 3 [.ref (a + 1), .ref (a + 2), .ref (a + 3)]) := by rw [o1.2.1.2 (a) (by simp; omega)]; exact h_a
  have h_b_1 : h1[b]? = some (pO 3 [.ref (b + 1), .ref (b + 2), .ref (b + 3)]) := by rw [o1.2.1.2 (b) (by simp; omega)]; exact h_b
  have h_t_1 : h1[t]? = some (pO 3 [.ref (t + 1), .ref (t + 2), .ref (t + 3)]) := by rw [o1.2.1.2 (t) (by simp; omega)]; exact h_t
  obtain ⟨h2, z2, g2, o2, e2⟩ := c_sub hv o1.1 (show MTo m (sc + 4) from Or.inr (by omega)) ex_s3_1 cv_s3_1 cv_s2_1
  replace e2 := ps_sub Z cv_s2_1.choose_spec.2.2 e2
  have cv_s0_2 := co_cv o2 cv_s0_1 (by omega) (by omega) (by omega)
  have ex_s0_2 := co_r o2 ex_s0_1 (by omega) (by omega)
  have cv_s1_2 := co_cv o2 cv_s1_1 (by omega) (by omega) (by omega)
  have ex_s1_2 := co_r o2 ex_s1_1 (by omega) (by omega)
  have cv_s2_2 := co_cv o2 cv_s2_1 (by omega) (by omega) (by omega)
  have ex_s2_2 := co_r o2 ex_s2_1 (by omega) (by omega)
  have ex_s4_2 := co_r o2 ex_s4_1 (by omega) (by omega)
  have cv_az_2 := co_cv o2 cv_az_1 (by omega) (by omega) (by omega)
  have cv_bz_2 := co_cv o2 cv_bz_1 (by omega) (by omega) (by omega)
  have ex_tx_2 := co_r o2 ex_tx_1 (by omega) (by omega)
  have ex_ty_2 := co_r o2 ex_ty_1 (by omega) (by omega)
  have ex_tz_2 := co_r o2 ex_tz_1 (by omega) (by omega)
  have cv_s3_2 := o2.2.2
  have ex_s3_2 := co_r o2 ex_s3_1 (by omega) (by omega)
  have hc_2 : h2[c]? = some (pO 0 [.ref kn, .ref m, .ref kb, .ref bm, .ref om, .ref sc]) := by rw [o2.2.1.2 (c) (by simp; omega)]; exact hc_1
  have h_a_2 : h2[a]? = some (pO 3 [.ref (a + 1), .ref (a + 2), .ref (a + 3)]) := by rw [o2.2.1.2 (a) (by simp; omega)]; exact h_a_1
  have h_b_2 : h2[b]? = some (pO 3 [.ref (b + 1), .ref (b + 2), .ref (b + 3)]) := by rw [o2.2.1.2 (b) (by simp; omega)]; exact h_b_1
  have h_t_2 : h2[t]? = some (pO 3 [.ref (t + 1), .ref (t + 2), .ref (t + 3)]) := by rw [o2.2.1.2 (t) (by simp; omega)]; exact h_t_1
  obtain ⟨h3, z3, g3, o3, e3⟩ := c_mul hv o2.1 (show MTo m (sc + 5) from Or.inr (by omega)) ex_s4_2 cv_az_2 cv_bz_2
  replace e3 := ps_mul Z hr e3
  have cv_s0_3 := co_cv o3 cv_s0_2 (by omega) (by omega) (by omega)
  have ex_s0_3 := co_r o3 ex_s0_2 (by omega) (by omega)
  have cv_s1_3 := co_cv o3 cv_s1_2 (by omega) (by omega) (by omega)
  have ex_s1_3 := co_r o3 ex_s1_2 (by omega) (by omega)
  have cv_s2_3 := co_cv o3 cv_s2_2 (by omega) (by omega) (by omega)
  have ex_s2_3 := co_r o3 ex_s2_2 (by omega) (by omega)
  have cv_s3_3 := co_cv o3 cv_s3_2 (by omega) (by omega) (by omega)
  have ex_s3_3 := co_r o3 ex_s3_2 (by omega) (by omega)
  have ex_tx_3 := co_r o3 ex_tx_2 (by omega) (by omega)
  have ex_ty_3 := co_r o3 ex_ty_2 (by omega) (by omega)
  have ex_tz_3 := co_r o3 ex_tz_2 (by omega) (by omega)
  have cv_s4_3 := o3.2.2
  have ex_s4_3 := co_r o3 ex_s4_2 (by omega) (by omega)
  have hc_3 : h3[c]? = some (pO 0 [.ref kn, .ref m, .ref kb, .ref bm, .ref om, .ref sc]) := by rw [o3.2.1.2 (c) (by simp; omega)]; exact hc_2
  have h_a_3 : h3[a]? = some (pO 3 [.ref (a + 1), .ref (a + 2), .ref (a + 3)]) := by rw [o3.2.1.2 (a) (by simp; omega)]; exact h_a_2
  have h_b_3 : h3[b]? = some (pO 3 [.ref (b + 1), .ref (b + 2), .ref (b + 3)]) := by rw [o3.2.1.2 (b) (by simp; omega)]; exact h_b_2
  have h_t_3 : h3[t]? = some (pO 3 [.ref (t + 1), .ref (t + 2), .ref (t + 3)]) := by rw [o3.2.1.2 (t) (by simp; omega)]; exact h_t_2
  obtain ⟨h4, z4, g4, o4, e4⟩ := c_mul hv o3.1 (show MTo m (t + 3) from Or.inr (by omega)) ex_tz_3 cv_s4_3 cv_s1_3
  replace e4 := ps_mul Z hr e4
  have cv_s0_4 := co_cv o4 cv_s0_3 (by omega) (by omega) (by omega)
  have ex_s0_4 := co_r o4 ex_s0_3 (by omega) (by omega)
  have cv_s1_4 := co_cv o4 cv_s1_3 (by omega) (by omega) (by omega)
  have ex_s1_4 := co_r o4 ex_s1_3 (by omega) (by omega)
  have cv_s2_4 := co_cv o4 cv_s2_3 (by omega) (by omega) (by omega)
  have ex_s2_4 := co_r o4 ex_s2_3 (by omega) (by omega)
  have cv_s3_4 := co_cv o4 cv_s3_3 (by omega) (by omega) (by omega)
  have ex_s3_4 := co_r o4 ex_s3_3 (by omega) (by omega)
  have ex_s4_4 := co_r o4 ex_s4_3 (by omega) (by omega)
  have ex_tx_4 := co_r o4 ex_tx_3 (by omega) (by omega)
  have ex_ty_4 := co_r o4 ex_ty_3 (by omega) (by omega)
  have cv_tz_4 := o4.2.2
  have hc_4 : h4[c]? = some (pO 0 [.ref kn, .ref m, .ref kb, .ref bm, .ref om, .ref sc]) := by rw [o4.2.1.2 (c) (by simp; omega)]; exact hc_3
  have h_a_4 : h4[a]? = some (pO 3 [.ref (a + 1), .ref (a + 2), .ref (a + 3)]) := by rw [o4.2.1.2 (a) (by simp; omega)]; exact h_a_3
  have h_b_4 : h4[b]? = some (pO 3 [.ref (b + 1), .ref (b + 2), .ref (b + 3)]) := by rw [o4.2.1.2 (b) (by simp; omega)]; exact h_b_3
  have h_t_4 : h4[t]? = some (pO 3 [.ref (t + 1), .ref (t + 2), .ref (t + 3)]) := by rw [o4.2.1.2 (t) (by simp; omega)]; exact h_t_3
  obtain ⟨h5, z5, g5, o5, e5⟩ := c_mul hv o4.1 (show MTo m (sc + 5) from Or.inr (by omega)) ex_s4_4 cv_s1_4 cv_s1_4
  replace e5 := ps_mul Z hr e5
  have cv_s0_5 := co_cv o5 cv_s0_4 (by omega) (by omega) (by omega)
  have ex_s0_5 := co_r o5 ex_s0_4 (by omega) (by omega)
  have cv_s1_5 := co_cv o5 cv_s1_4 (by omega) (by omega) (by omega)
  have ex_s1_5 := co_r o5 ex_s1_4 (by omega) (by omega)
  have cv_s2_5 := co_cv o5 cv_s2_4 (by omega) (by omega) (by omega)
  have ex_s2_5 := co_r o5 ex_s2_4 (by omega) (by omega)
  have cv_s3_5 := co_cv o5 cv_s3_4 (by omega) (by omega) (by omega)
  have ex_s3_5 := co_r o5 ex_s3_4 (by omega) (by omega)
  have ex_tx_5 := co_r o5 ex_tx_4 (by omega) (by omega)
  have ex_ty_5 := co_r o5 ex_ty_4 (by omega) (by omega)
  have cv_tz_5 := co_cv o5 cv_tz_4 (by omega) (by omega) (by omega)
  have cv_s4_5 := o5.2.2
  have ex_s4_5 := co_r o5 ex_s4_4 (by omega) (by omega)
  have hc_5 : h5[c]? = some (pO 0 [.ref kn, .ref m, .ref kb, .ref bm, .ref om, .ref sc]) := by rw [o5.2.1.2 (c) (by simp; omega)]; exact hc_4
  have h_a_5 : h5[a]? = some (pO 3 [.ref (a + 1), .ref (a + 2), .ref (a + 3)]) := by rw [o5.2.1.2 (a) (by simp; omega)]; exact h_a_4
  have h_b_5 : h5[b]? = some (pO 3 [.ref (b + 1), .ref (b + 2), .ref (b + 3)]) := by rw [o5.2.1.2 (b) (by simp; omega)]; exact h_b_4
  have h_t_5 : h5[t]? = some (pO 3 [.ref (t + 1), .ref (t + 2), .ref (t + 3)]) := by rw [o5.2.1.2 (t) (by simp; omega)]; exact h_t_4
  obtain ⟨h6, z6, g6, o6, e6⟩ := c_mul hv o5.1 (show MTo m (sc + 1) from Or.inr (by omega)) ex_s0_5 cv_s0_5 cv_s4_5
  replace e6 := ps_mul Z hr e6
  have cv_s1_6 := co_cv o6 cv_s1_5 (by omega) (by omega) (by omega)
  have ex_s1_6 := co_r o6 ex_s1_5 (by omega) (by omega)
  have cv_s2_6 := co_cv o6 cv_s2_5 (by omega) (by omega) (by omega)
  have ex_s2_6 := co_r o6 ex_s2_5 (by omega) (by omega)
  have cv_s3_6 := co_cv o6 cv_s3_5 (by omega) (by omega) (by omega)
  have ex_s3_6 := co_r o6 ex_s3_5 (by omega) (by omega)
  have cv_s4_6 := co_cv o6 cv_s4_5 (by omega) (by omega) (by omega)
  have ex_s4_6 := co_r o6 ex_s4_5 (by omega) (by omega)
  have ex_tx_6 := co_r o6 ex_tx_5 (by omega) (by omega)
  have ex_ty_6 := co_r o6 ex_ty_5 (by omega) (by omega)
  have cv_tz_6 := co_cv o6 cv_tz_5 (by omega) (by omega) (by omega)
  have cv_s0_6 := o6.2.2
  have ex_s0_6 := co_r o6 ex_s0_5 (by omega) (by omega)
  have hc_6 : h6[c]? = some (pO 0 [.ref kn, .ref m, .ref kb, .ref bm, .ref om, .ref sc]) := by rw [o6.2.1.2 (c) (by simp; omega)]; exact hc_5
  have h_a_6 : h6[a]? = some (pO 3 [.ref (a + 1), .ref (a + 2), .ref (a + 3)]) := by rw [o6.2.1.2 (a) (by simp; omega)]; exact h_a_5
  have h_b_6 : h6[b]? = some (pO 3 [.ref (b + 1), .ref (b + 2), .ref (b + 3)]) := by rw [o6.2.1.2 (b) (by simp; omega)]; exact h_b_5
  have h_t_6 : h6[t]? = some (pO 3 [.ref (t + 1), .ref (t + 2), .ref (t + 3)]) := by rw [o6.2.1.2 (t) (by simp; omega)]; exact h_t_5
  obtain ⟨h7, z7, g7, o7, e7⟩ := c_mul hv o6.1 (show MTo m (sc + 2) from Or.inr (by omega)) ex_s1_6 cv_s4_6 cv_s1_6
  replace e7 := ps_mul Z hr e7
  have cv_s0_7 := co_cv o7 cv_s0_6 (by omega) (by omega) (by omega)
  have ex_s0_7 := co_r o7 ex_s0_6 (by omega) (by omega)
  have cv_s2_7 := co_cv o7 cv_s2_6 (by omega) (by omega) (by omega)
  have ex_s2_7 := co_r o7 ex_s2_6 (by omega) (by omega)
  have cv_s3_7 := co_cv o7 cv_s3_6 (by omega) (by omega) (by omega)
  have ex_s3_7 := co_r o7 ex_s3_6 (by omega) (by omega)
  have ex_s4_7 := co_r o7 ex_s4_6 (by omega) (by omega)
  have ex_tx_7 := co_r o7 ex_tx_6 (by omega) (by omega)
  have ex_ty_7 := co_r o7 ex_ty_6 (by omega) (by omega)
  have cv_tz_7 := co_cv o7 cv_tz_6 (by omega) (by omega) (by omega)
  have cv_s1_7 := o7.2.2
  have ex_s1_7 := co_r o7 ex_s1_6 (by omega) (by omega)
  have hc_7 : h7[c]? = some (pO 0 [.ref kn, .ref m, .ref kb, .ref bm, .ref om, .ref sc]) := by rw [o7.2.1.2 (c) (by simp; omega)]; exact hc_6
  have h_a_7 : h7[a]? = some (pO 3 [.ref (a + 1), .ref (a + 2), .ref (a + 3)]) := by rw [o7.2.1.2 (a) (by simp; omega)]; exact h_a_6
  have h_b_7 : h7[b]? = some (pO 3 [.ref (b + 1), .ref (b + 2), .ref (b + 3)]) := by rw [o7.2.1.2 (b) (by simp; omega)]; exact h_b_6
  have h_t_7 : h7[t]? = some (pO 3 [.ref (t + 1), .ref (t + 2), .ref (t + 3)]) := by rw [o7.2.1.2 (t) (by simp; omega)]; exact h_t_6
  obtain ⟨h8, z8, g8, o8, e8⟩ := c_mul hv o7.1 (show MTo m (sc + 3) from Or.inr (by omega)) ex_s2_7 cv_s2_7 cv_s1_7
  replace e8 := ps_mul Z hr e8
  have cv_s0_8 := co_cv o8 cv_s0_7 (by omega) (by omega) (by omega)
  have ex_s0_8 := co_r o8 ex_s0_7 (by omega) (by omega)
  have cv_s1_8 := co_cv o8 cv_s1_7 (by omega) (by omega) (by omega)
  have ex_s1_8 := co_r o8 ex_s1_7 (by omega) (by omega)
  have cv_s3_8 := co_cv o8 cv_s3_7 (by omega) (by omega) (by omega)
  have ex_s3_8 := co_r o8 ex_s3_7 (by omega) (by omega)
  have ex_s4_8 := co_r o8 ex_s4_7 (by omega) (by omega)
  have ex_tx_8 := co_r o8 ex_tx_7 (by omega) (by omega)
  have ex_ty_8 := co_r o8 ex_ty_7 (by omega) (by omega)
  have cv_tz_8 := co_cv o8 cv_tz_7 (by omega) (by omega) (by omega)
  have cv_s2_8 := o8.2.2
  have ex_s2_8 := co_r o8 ex_s2_7 (by omega) (by omega)
  have hc_8 : h8[c]? = some (pO 0 [.ref kn, .ref m, .ref kb, .ref bm, .ref om, .ref sc]) := by rw [o8.2.1.2 (c) (by simp; omega)]; exact hc_7
  have h_a_8 : h8[a]? = some (pO 3 [.ref (a + 1), .ref (a + 2), .ref (a + 3)]) := by rw [o8.2.1.2 (a) (by simp; omega)]; exact h_a_7
  have h_b_8 : h8[b]? = some (pO 3 [.ref (b + 1), .ref (b + 2), .ref (b + 3)]) := by rw [o8.2.1.2 (b) (by simp; omega)]; exact h_b_7
  have h_t_8 : h8[t]? = some (pO 3 [.ref (t + 1), .ref (t + 2), .ref (t + 3)]) := by rw [o8.2.1.2 (t) (by simp; omega)]; exact h_t_7
  obtain ⟨h9, z9, g9, o9, e9⟩ := c_mul hv o8.1 (show MTo m (t + 1) from Or.inr (by omega)) ex_tx_8 cv_s3_8 cv_s3_8
  replace e9 := ps_mul Z hr e9
  have cv_s0_9 := co_cv o9 cv_s0_8 (by omega) (by omega) (by omega)
  have ex_s0_9 := co_r o9 ex_s0_8 (by omega) (by omega)
  have cv_s1_9 := co_cv o9 cv_s1_8 (by omega) (by omega) (by omega)
  have ex_s1_9 := co_r o9 ex_s1_8 (by omega) (by omega)
  have cv_s2_9 := co_cv o9 cv_s2_8 (by omega) (by omega) (by omega)
  have ex_s2_9 := co_r o9 ex_s2_8 (by omega) (by omega)
  have cv_s3_9 := co_cv o9 cv_s3_8 (by omega) (by omega) (by omega)
  have ex_s3_9 := co_r o9 ex_s3_8 (by omega) (by omega)
  have ex_s4_9 := co_r o9 ex_s4_8 (by omega) (by omega)
  have ex_ty_9 := co_r o9 ex_ty_8 (by omega) (by omega)
  have cv_tz_9 := co_cv o9 cv_tz_8 (by omega) (by omega) (by omega)
  have cv_tx_9 := o9.2.2
  have ex_tx_9 := co_r o9 ex_tx_8 (by omega) (by omega)
  have hc_9 : h9[c]? = some (pO 0 [.ref kn, .ref m, .ref kb, .ref bm, .ref om, .ref sc]) := by rw [o9.2.1.2 (c) (by simp; omega)]; exact hc_8
  have h_a_9 : h9[a]? = some (pO 3 [.ref (a + 1), .ref (a + 2), .ref (a + 3)]) := by rw [o9.2.1.2 (a) (by simp; omega)]; exact h_a_8
  have h_b_9 : h9[b]? = some (pO 3 [.ref (b + 1), .ref (b + 2), .ref (b + 3)]) := by rw [o9.2.1.2 (b) (by simp; omega)]; exact h_b_8
  have h_t_9 : h9[t]? = some (pO 3 [.ref (t + 1), .ref (t + 2), .ref (t + 3)]) := by rw [o9.2.1.2 (t) (by simp; omega)]; exact h_t_8
  obtain ⟨h10, z10, g10, o10, e10⟩ := c_sub hv o9.1 (show MTo m (t + 1) from Or.inr (by omega)) ex_tx_9 cv_tx_9 cv_s1_9
  replace e10 := ps_sub Z cv_s1_9.choose_spec.2.2 e10
  have cv_s0_10 := co_cv o10 cv_s0_9 (by omega) (by omega) (by omega)
  have ex_s0_10 := co_r o10 ex_s0_9 (by omega) (by omega)
  have ex_s1_10 := co_r o10 ex_s1_9 (by omega) (by omega)
  have cv_s2_10 := co_cv o10 cv_s2_9 (by omega) (by omega) (by omega)
  have ex_s2_10 := co_r o10 ex_s2_9 (by omega) (by omega)
  have cv_s3_10 := co_cv o10 cv_s3_9 (by omega) (by omega) (by omega)
  have ex_s3_10 := co_r o10 ex_s3_9 (by omega) (by omega)
  have ex_s4_10 := co_r o10 ex_s4_9 (by omega) (by omega)
  have ex_ty_10 := co_r o10 ex_ty_9 (by omega) (by omega)
  have cv_tz_10 := co_cv o10 cv_tz_9 (by omega) (by omega) (by omega)
  have cv_tx_10 := o10.2.2
  have ex_tx_10 := co_r o10 ex_tx_9 (by omega) (by omega)
  have hc_10 : h10[c]? = some (pO 0 [.ref kn, .ref m, .ref kb, .ref bm, .ref om, .ref sc]) := by rw [o10.2.1.2 (c) (by simp; omega)]; exact hc_9
  have h_a_10 : h10[a]? = some (pO 3 [.ref (a + 1), .ref (a + 2), .ref (a + 3)]) := by rw [o10.2.1.2 (a) (by simp; omega)]; exact h_a_9
  have h_b_10 : h10[b]? = some (pO 3 [.ref (b + 1), .ref (b + 2), .ref (b + 3)]) := by rw [o10.2.1.2 (b) (by simp; omega)]; exact h_b_9
  have h_t_10 : h10[t]? = some (pO 3 [.ref (t + 1), .ref (t + 2), .ref (t + 3)]) := by rw [o10.2.1.2 (t) (by simp; omega)]; exact h_t_9
  obtain ⟨h11, z11, g11, o11, e11⟩ := c_sub hv o10.1 (show MTo m (t + 1) from Or.inr (by omega)) ex_tx_10 cv_tx_10 cv_s0_10
  replace e11 := ps_sub Z cv_s0_10.choose_spec.2.2 e11
  have cv_s0_11 := co_cv o11 cv_s0_10 (by omega) (by omega) (by omega)
  have ex_s0_11 := co_r o11 ex_s0_10 (by omega) (by omega)
  have ex_s1_11 := co_r o11 ex_s1_10 (by omega) (by omega)
  have cv_s2_11 := co_cv o11 cv_s2_10 (by omega) (by omega) (by omega)
  have ex_s2_11 := co_r o11 ex_s2_10 (by omega) (by omega)
  have cv_s3_11 := co_cv o11 cv_s3_10 (by omega) (by omega) (by omega)
  have ex_s3_11 := co_r o11 ex_s3_10 (by omega) (by omega)
  have ex_s4_11 := co_r o11 ex_s4_10 (by omega) (by omega)
  have ex_ty_11 := co_r o11 ex_ty_10 (by omega) (by omega)
  have cv_tz_11 := co_cv o11 cv_tz_10 (by omega) (by omega) (by omega)
  have cv_tx_11 := o11.2.2
  have ex_tx_11 := co_r o11 ex_tx_10 (by omega) (by omega)
  have hc_11 : h11[c]? = some (pO 0 [.ref kn, .ref m, .ref kb, .ref bm, .ref om, .ref sc]) := by rw [o11.2.1.2 (c) (by simp; omega)]; exact hc_10
  have h_a_11 : h11[a]? = some (pO 3 [.ref (a + 1), .ref (a + 2), .ref (a + 3)]) := by rw [o11.2.1.2 (a) (by simp; omega)]; exact h_a_10
  have h_b_11 : h11[b]? = some (pO 3 [.ref (b + 1), .ref (b + 2), .ref (b + 3)]) := by rw [o11.2.1.2 (b) (by simp; omega)]; exact h_b_10
  have h_t_11 : h11[t]? = some (pO 3 [.ref (t + 1), .ref (t + 2), .ref (t + 3)]) := by rw [o11.2.1.2 (t) (by simp; omega)]; exact h_t_10
  obtain ⟨h12, z12, g12, o12, e12⟩ := c_sub hv o11.1 (show MTo m (t + 1) from Or.inr (by omega)) ex_tx_11 cv_tx_11 cv_s0_11
  replace e12 := ps_sub Z cv_s0_11.choose_spec.2.2 e12
  have cv_s0_12 := co_cv o12 cv_s0_11 (by omega) (by omega) (by omega)
  have ex_s0_12 := co_r o12 ex_s0_11 (by omega) (by omega)
  have ex_s1_12 := co_r o12 ex_s1_11 (by omega) (by omega)
  have cv_s2_12 := co_cv o12 cv_s2_11 (by omega) (by omega) (by omega)
  have ex_s2_12 := co_r o12 ex_s2_11 (by omega) (by omega)
  have cv_s3_12 := co_cv o12 cv_s3_11 (by omega) (by omega) (by omega)
  have ex_s3_12 := co_r o12 ex_s3_11 (by omega) (by omega)
  have ex_s4_12 := co_r o12 ex_s4_11 (by omega) (by omega)
  have ex_ty_12 := co_r o12 ex_ty_11 (by omega) (by omega)
  have cv_tz_12 := co_cv o12 cv_tz_11 (by omega) (by omega) (by omega)
  have cv_tx_12 := o12.2.2
  have hc_12 : h12[c]? = some (pO 0 [.ref kn, .ref m, .ref kb, .ref bm, .ref om, .ref sc]) := by rw [o12.2.1.2 (c) (by simp; omega)]; exact hc_11
  have h_a_12 : h12[a]? = some (pO 3 [.ref (a + 1), .ref (a + 2), .ref (a + 3)]) := by rw [o12.2.1.2 (a) (by simp; omega)]; exact h_a_11
  have h_b_12 : h12[b]? = some (pO 3 [.ref (b + 1), .ref (b + 2), .ref (b + 3)]) := by rw [o12.2.1.2 (b) (by simp; omega)]; exact h_b_11
  have h_t_12 : h12[t]? = some (pO 3 [.ref (t + 1), .ref (t + 2), .ref (t + 3)]) := by rw [o12.2.1.2 (t) (by simp; omega)]; exact h_t_11
  obtain ⟨h13, z13, g13, o13, e13⟩ := c_sub hv o12.1 (show MTo m (sc + 5) from Or.inr (by omega)) ex_s4_12 cv_s0_12 cv_tx_12
  replace e13 := ps_sub Z cv_tx_12.choose_spec.2.2 e13
  have ex_s0_13 := co_r o13 ex_s0_12 (by omega) (by omega)
  have ex_s1_13 := co_r o13 ex_s1_12 (by omega) (by omega)
  have cv_s2_13 := co_cv o13 cv_s2_12 (by omega) (by omega) (by omega)
  have ex_s2_13 := co_r o13 ex_s2_12 (by omega) (by omega)
  have cv_s3_13 := co_cv o13 cv_s3_12 (by omega) (by omega) (by omega)
  have ex_s3_13 := co_r o13 ex_s3_12 (by omega) (by omega)
  have cv_tx_13 := co_cv o13 cv_tx_12 (by omega) (by omega) (by omega)
  have ex_ty_13 := co_r o13 ex_ty_12 (by omega) (by omega)
  have cv_tz_13 := co_cv o13 cv_tz_12 (by omega) (by omega) (by omega)
  have cv_s4_13 := o13.2.2
  have ex_s4_13 := co_r o13 ex_s4_12 (by omega) (by omega)
  have hc_13 : h13[c]? = some (pO 0 [.ref kn, .ref m, .ref kb, .ref bm, .ref om, .ref sc]) := by rw [o13.2.1.2 (c) (by simp; omega)]; exact hc_12
  have h_a_13 : h13[a]? = some (pO 3 [.ref (a + 1), .ref (a + 2), .ref (a + 3)]) := by rw [o13.2.1.2 (a) (by simp; omega)]; exact h_a_12
  have h_b_13 : h13[b]? = some (pO 3 [.ref (b + 1), .ref (b + 2), .ref (b + 3)]) := by rw [o13.2.1.2 (b) (by simp; omega)]; exact h_b_12
  have h_t_13 : h13[t]? = some (pO 3 [.ref (t + 1), .ref (t + 2), .ref (t + 3)]) := by rw [o13.2.1.2 (t) (by simp; omega)]; exact h_t_12
  obtain ⟨h14, z14, g14, o14, e14⟩ := c_mul hv o13.1 (show MTo m (sc + 5) from Or.inr (by omega)) ex_s4_13 cv_s3_13 cv_s4_13
  replace e14 := ps_mul Z hr e14
  have ex_s0_14 := co_r o14 ex_s0_13 (by omega) (by omega)
  have ex_s1_14 := co_r o14 ex_s1_13 (by omega) (by omega)
  have cv_s2_14 := co_cv o14 cv_s2_13 (by omega) (by omega) (by omega)
  have ex_s2_14 := co_r o14 ex_s2_13 (by omega) (by omega)
  have ex_s3_14 := co_r o14 ex_s3_13 (by omega) (by omega)
  have cv_tx_14 := co_cv o14 cv_tx_13 (by omega) (by omega) (by omega)
  have ex_ty_14 := co_r o14 ex_ty_13 (by omega) (by omega)
  have cv_tz_14 := co_cv o14 cv_tz_13 (by omega) (by omega) (by omega)
  have cv_s4_14 := o14.2.2
  have ex_s4_14 := co_r o14 ex_s4_13 (by omega) (by omega)
  have hc_14 : h14[c]? = some (pO 0 [.ref kn, .ref m, .ref kb, .ref bm, .ref om, .ref sc]) := by rw [o14.2.1.2 (c) (by simp; omega)]; exact hc_13
  have h_a_14 : h14[a]? = some (pO 3 [.ref (a + 1), .ref (a + 2), .ref (a + 3)]) := by rw [o14.2.1.2 (a) (by simp; omega)]; exact h_a_13
  have h_b_14 : h14[b]? = some (pO 3 [.ref (b + 1), .ref (b + 2), .ref (b + 3)]) := by rw [o14.2.1.2 (b) (by simp; omega)]; exact h_b_13
  have h_t_14 : h14[t]? = some (pO 3 [.ref (t + 1), .ref (t + 2), .ref (t + 3)]) := by rw [o14.2.1.2 (t) (by simp; omega)]; exact h_t_13
  obtain ⟨h15, z15, g15, o15, e15⟩ := c_sub hv o14.1 (show MTo m (t + 2) from Or.inr (by omega)) ex_ty_14 cv_s4_14 cv_s2_14
  replace e15 := ps_sub Z cv_s2_14.choose_spec.2.2 e15
  have ex_s0_15 := co_r o15 ex_s0_14 (by omega) (by omega)
  have ex_s1_15 := co_r o15 ex_s1_14 (by omega) (by omega)
  have ex_s2_15 := co_r o15 ex_s2_14 (by omega) (by omega)
  have ex_s3_15 := co_r o15 ex_s3_14 (by omega) (by omega)
  have ex_s4_15 := co_r o15 ex_s4_14 (by omega) (by omega)
  have cv_tx_15 := co_cv o15 cv_tx_14 (by omega) (by omega) (by omega)
  have cv_tz_15 := co_cv o15 cv_tz_14 (by omega) (by omega) (by omega)
  have cv_ty_15 := o15.2.2
  have hc_15 : h15[c]? = some (pO 0 [.ref kn, .ref m, .ref kb, .ref bm, .ref om, .ref sc]) := by rw [o15.2.1.2 (c) (by simp; omega)]; exact hc_14
  have h_a_15 : h15[a]? = some (pO 3 [.ref (a + 1), .ref (a + 2), .ref (a + 3)]) := by rw [o15.2.1.2 (a) (by simp; omega)]; exact h_a_14
  have h_b_15 : h15[b]? = some (pO 3 [.ref (b + 1), .ref (b + 2), .ref (b + 3)]) := by rw [o15.2.1.2 (b) (by simp; omega)]; exact h_b_14
  have h_t_15 : h15[t]? = some (pO 3 [.ref (t + 1), .ref (t + 2), .ref (t + 3)]) := by rw [o15.2.1.2 (t) (by simp; omega)]; exact h_t_14
  refine ⟨h15, z12, z15, z4, ?_, o15.1, (o1.2.1.up (by simp)).tr ((o2.2.1.up (by simp)).tr ((o3.2.1.up (by simp)).tr ((o4.2.1.up (by simp)).tr ((o5.2.1.up (by simp)).tr ((o6.2.1.up (by simp)).tr ((o7.2.1.up (by simp)).tr ((o8.2.1.up (by simp)).tr ((o9.2.1.up (by simp)).tr ((o10.2.1.up (by simp)).tr ((o11.2.1.up (by simp)).tr ((o12.2.1.up (by simp)).tr ((o13.2.1.up (by simp)).tr ((o14.2.1.up (by simp)).tr (o15.2.1.up (by simp))))))))))))))), cv_tx_15, cv_ty_15, cv_tz_15, ⟨ex_s0_15, ex_s1_15, ex_s2_15, ex_s3_15, ex_s4_15⟩, ?_, ?_, ?_⟩
  · unfold P_Cu_addApart
    rw [bs_ (gR_at hc rfl), bs_ l0, bs_ (gR_at hc rfl), bs_ l1, bs_ (gR_at hc rfl), bs_ l2, bs_ (gR_at hc rfl), bs_ l3, bs_ (gR_at hc rfl), bs_ l4]
    rw [bs_ (gR_at hc rfl), os_ M.1, bs_ g1]
    rw [bs_ (gR_at hc_1 rfl), os_ o1.1.1, bs_ g2]
    rw [bs_ (gR_at hc_2 rfl), bs_ (gR_at h_a_2 rfl), bs_ (gR_at h_b_2 rfl), os_ o2.1.1, bs_ g3]
    rw [bs_ (gR_at hc_3 rfl), bs_ (gR_at h_t_3 rfl), os_ o3.1.1, bs_ g4]
    rw [bs_ (gR_at hc_4 rfl), os_ o4.1.1, bs_ g5]
    rw [bs_ (gR_at hc_5 rfl), os_ o5.1.1, bs_ g6]
    rw [bs_ (gR_at hc_6 rfl), os_ o6.1.1, bs_ g7]
    rw [bs_ (gR_at hc_7 rfl), os_ o7.1.1, bs_ g8]
    rw [bs_ (gR_at hc_8 rfl), bs_ (gR_at h_t_8 rfl), os_ o8.1.1, bs_ g9]
    rw [bs_ (gR_at hc_9 rfl), bs_ (gR_at h_t_9 rfl), bs_ (gR_at h_t_9 rfl), os_ o9.1.1, bs_ g10]
    rw [bs_ (gR_at hc_10 rfl), bs_ (gR_at h_t_10 rfl), bs_ (gR_at h_t_10 rfl), os_ o10.1.1, bs_ g11]
    rw [bs_ (gR_at hc_11 rfl), bs_ (gR_at h_t_11 rfl), bs_ (gR_at h_t_11 rfl), os_ o11.1.1, bs_ g12]
    rw [bs_ (gR_at hc_12 rfl), bs_ (gR_at h_t_12 rfl), os_ o12.1.1, bs_ g13]
    rw [bs_ (gR_at hc_13 rfl), os_ o13.1.1, bs_ g14]
    rw [bs_ (gR_at hc_14 rfl), bs_ (gR_at h_t_14 rfl), os_ o14.1.1, bs_ g15]
  · unfold aX
    simp only [e15, e14, e13, e12, e11, e10, e9, e8, e7, e6, e5, e4, e3, e2, e1]
  · unfold aY aX
    simp only [e15, e14, e13, e12, e11, e10, e9, e8, e7, e6, e5, e4, e3, e2, e1]
  · simp only [e15, e14, e13, e12, e11, e10, e9, e8, e7, e6, e5, e4, e3, e2, e1]
end CT7
