/-! the class's isOnCurve (written by mkak.py) -/
section CON
variable {F : Type} {φ : Nat → F}
theorem ar_con [Lean.Grind.Field F] {x y o b : F} (ho : o = 1) : (x * x - o - o - o) * x + b = x * x * x + -3 * x + b := by rw [ho]; grind
theorem w_isOn [Lean.Grind.Field F] (Z : ZF PP φ) (hr : φ (2 ^ 261) ≠ 0) {c kn m kb bm om sc p x y z bv : Nat} {li : Int} {h : HP} (C : CAl c kn m kb bm om sc li h) (dp : sc + 6 ≤ p) (db : m + 9 ≤ kb ∧ kb < sc) (A : PVl p x y z h) (cv_kb : CV PP h kb bv) (hz : ps φ z = 1) (hb : ps φ bv = φ BB) :
    ∃ h' b, P_Cu_isOnCurve h c p = some (bi b, h') ∧ CAl c kn m kb bm om sc li h' ∧ KP [m + 6, m + 7, sc + 1, sc + 2] h h' ∧ (b = true ↔ OC (-3) (φ BB) (some (ps φ x, ps φ y))) := by
  have hv : PP < 2 ^ 256 := by decide
  have C0 := C
  obtain ⟨G, M, d1, d2⟩ := C
  obtain ⟨l0, l1, l2, l3, l4⟩ := cgm_l G
  obtain ⟨hp, cv_px, cv_py, cv_pz⟩ := A
  have hc := G.1
  have ex_s0 := G.2.2 0 (by decide)
  have ex_s1 := G.2.2 1 (by decide)
  obtain ⟨h1, z1, g1, o1, e1⟩ := c_mul hv M (show MTo m (sc + 1) from Or.inr (by omega)) ex_s0 cv_py cv_py
  replace e1 := ps_mul Z hr e1
  have ex_s1_1 := co_r o1 ex_s1 (by omega) (by omega)
  have cv_px_1 := co_cv o1 cv_px (by omega) (by omega) (by omega)
  have cv_pz_1 := co_cv o1 cv_pz (by omega) (by omega) (by omega)
  have cv_kb_1 := co_cv o1 cv_kb (by omega) (by omega) (by omega)
  have cv_s0_1 := o1.2.2
  have ex_s0_1 := co_r o1 ex_s0 (by omega) (by omega)
  have hc_1 : h1[c]? = some (pO 0 [.ref kn, .ref m, .ref kb, .ref bm, .ref om, .ref sc]) := by rw [o1.2.1.2 (c) (by simp; omega)]; exact hc
  have hp_1 : h1[p]? = some (pO 3 [.ref (p + 1), .ref (p + 2), .ref (p + 3)]) := by rw [o1.2.1.2 (p) (by simp; omega)]; exact hp
  obtain ⟨h2, z2, g2, o2, e2⟩ := c_mul hv o1.1 (show MTo m (sc + 2) from Or.inr (by omega)) ex_s1_1 cv_px_1 cv_px_1
  replace e2 := ps_mul Z hr e2
  have cv_s0_2 := co_cv o2 cv_s0_1 (by omega) (by omega) (by omega)
  have ex_s0_2 := co_r o2 ex_s0_1 (by omega) (by omega)
  have cv_px_2 := co_cv o2 cv_px_1 (by omega) (by omega) (by omega)
  have cv_pz_2 := co_cv o2 cv_pz_1 (by omega) (by omega) (by omega)
  have cv_kb_2 := co_cv o2 cv_kb_1 (by omega) (by omega) (by omega)
  have cv_s1_2 := o2.2.2
  have ex_s1_2 := co_r o2 ex_s1_1 (by omega) (by omega)
  have hc_2 : h2[c]? = some (pO 0 [.ref kn, .ref m, .ref kb, .ref bm, .ref om, .ref sc]) := by rw [o2.2.1.2 (c) (by simp; omega)]; exact hc_1
  have hp_2 : h2[p]? = some (pO 3 [.ref (p + 1), .ref (p + 2), .ref (p + 3)]) := by rw [o2.2.1.2 (p) (by simp; omega)]; exact hp_1
  obtain ⟨h3, z3, g3, o3, e3⟩ := c_sub hv o2.1 (show MTo m (sc + 2) from Or.inr (by omega)) ex_s1_2 cv_s1_2 cv_pz_2
  replace e3 := ps_sub Z cv_pz_2.choose_spec.2.2 e3
  have cv_s0_3 := co_cv o3 cv_s0_2 (by omega) (by omega) (by omega)
  have ex_s0_3 := co_r o3 ex_s0_2 (by omega) (by omega)
  have cv_px_3 := co_cv o3 cv_px_2 (by omega) (by omega) (by omega)
  have cv_pz_3 := co_cv o3 cv_pz_2 (by omega) (by omega) (by omega)
  have cv_kb_3 := co_cv o3 cv_kb_2 (by omega) (by omega) (by omega)
  have cv_s1_3 := o3.2.2
  have ex_s1_3 := co_r o3 ex_s1_2 (by omega) (by omega)
  have hc_3 : h3[c]? = some (pO 0 [.ref kn, .ref m, .ref kb, .ref bm, .ref om, .ref sc]) := by rw [o3.2.1.2 (c) (by simp; omega)]; exact hc_2
  have hp_3 : h3[p]? = some (pO 3 [.ref (p + 1), .ref (p + 2), .ref (p + 3)]) := by rw [o3.2.1.2 (p) (by simp; omega)]; exact hp_2
  obtain ⟨h4, z4, g4, o4, e4⟩ := c_sub hv o3.1 (show MTo m (sc + 2) from Or.inr (by omega)) ex_s1_3 cv_s1_3 cv_pz_3
  replace e4 := ps_sub Z cv_pz_3.choose_spec.2.2 e4
  have cv_s0_4 := co_cv o4 cv_s0_3 (by omega) (by omega) (by omega)
  have ex_s0_4 := co_r o4 ex_s0_3 (by omega) (by omega)
  have cv_px_4 := co_cv o4 cv_px_3 (by omega) (by omega) (by omega)
  have cv_pz_4 := co_cv o4 cv_pz_3 (by omega) (by omega) (by omega)
  have cv_kb_4 := co_cv o4 cv_kb_3 (by omega) (by omega) (by omega)
  have cv_s1_4 := o4.2.2
  have ex_s1_4 := co_r o4 ex_s1_3 (by omega) (by omega)
  have hc_4 : h4[c]? = some (pO 0 [.ref kn, .ref m, .ref kb, .ref bm, .ref om, .ref sc]) := by rw [o4.2.1.2 (c) (by simp; omega)]; exact hc_3
  have hp_4 : h4[p]? = some (pO 3 [.ref (p + 1), .ref (p + 2), .ref (p + 3)]) := by rw [o4.2.1.2 (p) (by simp; omega)]; exact hp_3
  obtain ⟨h5, z5, g5, o5, e5⟩ := c_sub hv o4.1 (show MTo m (sc + 2) from Or.inr (by omega)) ex_s1_4 cv_s1_4 cv_pz_4
  replace e5 := ps_sub Z cv_pz_4.choose_spec.2.2 e5
  have cv_s0_5 := co_cv o5 cv_s0_4 (by omega) (by omega) (by omega)
  have ex_s0_5 := co_r o5 ex_s0_4 (by omega) (by omega)
  have cv_px_5 := co_cv o5 cv_px_4 (by omega) (by omega) (by omega)
  have cv_kb_5 := co_cv o5 cv_kb_4 (by omega) (by omega) (by omega)
  have cv_s1_5 := o5.2.2
  have ex_s1_5 := co_r o5 ex_s1_4 (by omega) (by omega)
  have hc_5 : h5[c]? = some (pO 0 [.ref kn, .ref m, .ref kb, .ref bm, .ref om, .ref sc]) := by rw [o5.2.1.2 (c) (by simp; omega)]; exact hc_4
  have hp_5 : h5[p]? = some (pO 3 [.ref (p + 1), .ref (p + 2), .ref (p + 3)]) := by rw [o5.2.1.2 (p) (by simp; omega)]; exact hp_4
  obtain ⟨h6, z6, g6, o6, e6⟩ := c_mul hv o5.1 (show MTo m (sc + 2) from Or.inr (by omega)) ex_s1_5 cv_s1_5 cv_px_5
  replace e6 := ps_mul Z hr e6
  have cv_s0_6 := co_cv o6 cv_s0_5 (by omega) (by omega) (by omega)
  have ex_s0_6 := co_r o6 ex_s0_5 (by omega) (by omega)
  have cv_kb_6 := co_cv o6 cv_kb_5 (by omega) (by omega) (by omega)
  have cv_s1_6 := o6.2.2
  have ex_s1_6 := co_r o6 ex_s1_5 (by omega) (by omega)
  have hc_6 : h6[c]? = some (pO 0 [.ref kn, .ref m, .ref kb, .ref bm, .ref om, .ref sc]) := by rw [o6.2.1.2 (c) (by simp; omega)]; exact hc_5
  have hp_6 : h6[p]? = some (pO 3 [.ref (p + 1), .ref (p + 2), .ref (p + 3)]) := by rw [o6.2.1.2 (p) (by simp; omega)]; exact hp_5
  obtain ⟨h7, z7, g7, o7, e7⟩ := c_add hv o6.1 (show MTo m (sc + 2) from Or.inr (by omega)) ex_s1_6 cv_s1_6 cv_kb_6
  replace e7 := ps_add Z e7
  have cv_s0_7 := co_cv o7 cv_s0_6 (by omega) (by omega) (by omega)
  have ex_s0_7 := co_r o7 ex_s0_6 (by omega) (by omega)
  have cv_s1_7 := o7.2.2
  have ex_s1_7 := co_r o7 ex_s1_6 (by omega) (by omega)
  have hc_7 : h7[c]? = some (pO 0 [.ref kn, .ref m, .ref kb, .ref bm, .ref om, .ref sc]) := by rw [o7.2.1.2 (c) (by simp; omega)]; exact hc_6
  have hp_7 : h7[p]? = some (pO 3 [.ref (p + 1), .ref (p + 2), .ref (p + 3)]) := by rw [o7.2.1.2 (p) (by simp; omega)]; exact hp_6
  have kpA : KP [m + 6, m + 7, sc + 1, sc + 2] h h7 := (o1.2.1.up (by simp)).tr ((o2.2.1.up (by simp)).tr ((o3.2.1.up (by simp)).tr ((o4.2.1.up (by simp)).tr ((o5.2.1.up (by simp)).tr ((o6.2.1.up (by simp)).tr (o7.2.1.up (by simp)))))))
  have rk : ∀ i, i < 5 → ∃ G, h7[sc + (i + 1)]? = some (pJ 9 G) := by
    intro i hi'
    have : i = 0 ∨ i = 1 ∨ 2 ≤ i := by omega
    rcases this with rfl | rfl | z'
    · exact ex_s0_7
    · exact ex_s1_7
    · rw [kpA.2 (sc + (i + 1)) (by simp; omega)]
      exact G.2.2 i hi'
  obtain ⟨V0, a0, a1, a2⟩ := cv_s0_7
  obtain ⟨V1, b0, b1, b2⟩ := cv_s1_7
  have f7 : ps φ z7 = ps φ x * ps φ x * ps φ x + -3 * ps φ x + φ BB := by
    simp only [e7, e6, e5, e4, e3, e2, hb]
    exact ar_con (y := ps φ y) hz
  have f1 : ps φ z1 = ps φ y * ps φ y := e1
  have eq : z1 = z7 ↔ OC (-3) (φ BB) (some (ps φ x, ps φ y)) := by
    rw [← ps_inj Z hr a2 b2, f7, f1]
    constructor
    · intro e x' y' exy
      have : ps φ x = x' ∧ ps φ y = y' := by simpa using exy
      obtain ⟨rfl, rfl⟩ := this
      exact e
    · intro o
      exact o _ _ rfl
  obtain ⟨f, hf⟩ : ∃ f, FU = f + 1 + 1 + 1 + 1 := ⟨FU - 4, rfl⟩
  refine ⟨h7, decide (z1 = z7), ?_, cal_k C0 o7.1 kpA (fun j hj => by simp at hj; omega) ⟨rk 0 (by decide), rk 1 (by decide), rk 2 (by decide), rk 3 (by decide), rk 4 (by decide)⟩, kpA, by rw [decide_eq_true_iff]; exact eq⟩
  unfold P_Cu_isOnCurve
  rw [bs_ (gR_at hc rfl), bs_ l0, bs_ (gR_at hc rfl), bs_ l1, bs_ (gR_at hc rfl), bs_ (gR_at hp rfl), bs_ (gR_at hp rfl), os_ M.1, bs_ g1, bs_ (gR_at hc_1 rfl), bs_ (gR_at hp_1 rfl), bs_ (gR_at hp_1 rfl), os_ o1.1.1, bs_ g2, hf]
  have s1 : L_Cu_isOnCurve_49 (f + 1 + 1 + 1 + 1) h2 c p (sc + 1) (sc + 2) 0 = L_Cu_isOnCurve_49 (f + 1 + 1 + 1) h3 c p (sc + 1) (sc + 2) (nI 1) := by
    show B_Cu_isOnCurve_49 (L_Cu_isOnCurve_49 (f + 1 + 1 + 1)) h2 c p (sc + 1) (sc + 2) 0 = _
    unfold B_Cu_isOnCurve_49
    rw [if_neg (show ¬ (3 : Int32) ≤ 0 by decide), bs_ (gR_at hc_2 rfl), bs_ (gR_at hp_2 rfl), os_ o2.1.1, bs_ g3]
    rfl
  have s2 : L_Cu_isOnCurve_49 (f + 1 + 1 + 1) h3 c p (sc + 1) (sc + 2) (nI 1) = L_Cu_isOnCurve_49 (f + 1 + 1) h4 c p (sc + 1) (sc + 2) (nI 2) := by
    show B_Cu_isOnCurve_49 (L_Cu_isOnCurve_49 (f + 1 + 1)) h3 c p (sc + 1) (sc + 2) (nI 1) = _
    unfold B_Cu_isOnCurve_49
    rw [if_neg (show ¬ (3 : Int32) ≤ nI 1 by decide), bs_ (gR_at hc_3 rfl), bs_ (gR_at hp_3 rfl), os_ o3.1.1, bs_ g4]
    show L_Cu_isOnCurve_49 (f + 1 + 1) h4 c p (sc + 1) (sc + 2) (nI 1 + Int32.ofInt 1) = _
    rw [nI_ofInt1]
  have s3 : L_Cu_isOnCurve_49 (f + 1 + 1) h4 c p (sc + 1) (sc + 2) (nI 2) = L_Cu_isOnCurve_49 (f + 1) h5 c p (sc + 1) (sc + 2) (nI 3) := by
    show B_Cu_isOnCurve_49 (L_Cu_isOnCurve_49 (f + 1)) h4 c p (sc + 1) (sc + 2) (nI 2) = _
    unfold B_Cu_isOnCurve_49
    rw [if_neg (show ¬ (3 : Int32) ≤ nI 2 by decide), bs_ (gR_at hc_4 rfl), bs_ (gR_at hp_4 rfl), os_ o4.1.1, bs_ g5]
    show L_Cu_isOnCurve_49 (f + 1) h5 c p (sc + 1) (sc + 2) (nI 2 + Int32.ofInt 1) = _
    rw [nI_ofInt1]
  rw [s1, s2, s3]
  show B_Cu_isOnCurve_49 (L_Cu_isOnCurve_49 f) h5 c p (sc + 1) (sc + 2) (nI 3) = _
  unfold B_Cu_isOnCurve_49
  rw [if_pos (show (3 : Int32) ≤ nI 3 by decide), bs_ (gR_at hc_5 rfl), bs_ (gR_at hp_5 rfl), os_ o5.1.1, bs_ g6, bs_ (gR_at hc_6 rfl), bs_ (gR_at hc_6 rfl), os_ o6.1.1, bs_ g7, bs2 (e_areSame a0 b0 a1 b1)]
  unfold gd
  rw [if_pos]
  cases decide (z1 = z7) <;> decide
end CON
