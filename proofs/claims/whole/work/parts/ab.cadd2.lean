/-! the curve's twice and add on points -/
section CAB
variable {F : Type} {φ : Nat → F}
theorem kp_pv {S : List Nat} {p x y z : Nat} {h h' : HP} (k : KP S h h') (P : PVl p x y z h) (n : ∀ j, j ∈ S → j < p ∨ p + 4 ≤ j) : PVl p x y z h' := by
  obtain ⟨a, ⟨G1, b1, c1⟩, ⟨G2, b2, c2⟩, ⟨G3, b3, c3⟩⟩ := P
  have e : ∀ i, i < 4 → h'[p + i]? = h[p + i]? := fun i hi => k.2 (p + i) (fun q => by have := n _ q; omega)
  exact ⟨(e 0 (by decide)).trans a, ⟨G1, (e 1 (by decide)).trans b1, c1⟩, ⟨G2, (e 2 (by decide)).trans b2, c2⟩, ⟨G3, (e 3 (by decide)).trans b3, c3⟩⟩
theorem kp_prw {S : List Nat} {p : Nat} {h h' : HP} (k : KP S h h') (P : PRw p h) (n : ∀ j, j ∈ S → j < p ∨ p + 4 ≤ j) : PRw p h' := by
  obtain ⟨a, ⟨G1, b1⟩, ⟨G2, b2⟩, ⟨G3, b3⟩⟩ := P
  have e : ∀ i, i < 4 → h'[p + i]? = h[p + i]? := fun i hi => k.2 (p + i) (fun q => by have := n _ q; omega)
  exact ⟨(e 0 (by decide)).trans a, ⟨G1, (e 1 (by decide)).trans b1⟩, ⟨G2, (e 2 (by decide)).trans b2⟩, G3, (e 3 (by decide)).trans b3⟩
/-- all of the curve: object, modulus, scratch -/
def CAl (c kn m kb bm om sc : Nat) (li : Int) (h : HP) : Prop := CGm c kn m kb bm om sc h ∧ MOb m PP li h ∧ c < m ∧ m + 9 ≤ sc
theorem cal_k {c kn m kb bm om sc : Nat} {li : Int} {S : List Nat} {h h' : HP} (C : CAl c kn m kb bm om sc li h) (M : MOb m PP li h') (k : KP S h h') (n : ∀ j, j ∈ S → j ≠ c ∧ j ≠ sc) (e : (∃ G, h'[sc + 1]? = some (pJ 9 G)) ∧ (∃ G, h'[sc + 2]? = some (pJ 9 G)) ∧ (∃ G, h'[sc + 3]? = some (pJ 9 G)) ∧ (∃ G, h'[sc + 4]? = some (pJ 9 G)) ∧ ∃ G, h'[sc + 5]? = some (pJ 9 G)) : CAl c kn m kb bm om sc li h' := by
  obtain ⟨⟨a, ⟨f, b1, b2⟩, _⟩, _, d1, d2⟩ := C
  refine ⟨⟨by rw [k.2 c (fun q => (n _ q).1 rfl)]; exact a, ⟨f, by rw [k.2 sc (fun q => (n _ q).2 rfl)]; exact b1, b2⟩, fun i hi => ?_⟩, M, d1, d2⟩
  have : i = 0 ∨ i = 1 ∨ i = 2 ∨ i = 3 ∨ i = 4 := by omega
  rcases this with rfl | rfl | rfl | rfl | rfl
  · exact e.1
  · exact e.2.1
  · exact e.2.2.1
  · exact e.2.2.2.1
  · exact e.2.2.2.2
theorem m_kc {m sc t j : Nat} (h : j ∈ KC m sc t) : j = m + 6 ∨ j = m + 7 ∨ (sc + 1 ≤ j ∧ j ≤ sc + 5) ∨ (t + 1 ≤ j ∧ j ≤ t + 3) := by
  unfold KC at h
  simp at h
  omega
/-- what a call that wrote the point t leaves -/
def CR (c kn m kb bm om sc : Nat) (li : Int) (t x y z : Nat) (h h' : HP) : Prop := CAl c kn m kb bm om sc li h' ∧ KP (KC m sc t) h h' ∧ PVl t x y z h'
theorem w_twice [Lean.Grind.Field F] (Z : ZF PP φ) (hr : φ (2 ^ 261) ≠ 0) {c kn m kb bm om sc a t x y z : Nat} {li : Int} {h : HP} (C : CAl c kn m kb bm om sc li h) (da : sc + 6 ≤ a) (dt : sc + 6 ≤ t) (d : a = t ∨ a + 4 ≤ t ∨ t + 4 ≤ a) (A : PVl a x y z h) (T : PRw t h) {S : Option (F × F)} (hS : OC (-3) (φ BB) S) (hJ : JP (ps φ x) (ps φ y) (ps φ z) S) :
    ∃ h' x' y' z' R, P_Cu_twice h c a t = some h' ∧ CR c kn m kb bm om sc li t x' y' z' h h' ∧ ADD (-3) S S R ∧ JP (ps φ x') (ps φ y') (ps φ z') R := by
  have C0 := C
  obtain ⟨G, M, d1, d2⟩ := C
  obtain ⟨l0, l1, l2, l3, l4⟩ := cgm_l G
  obtain ⟨a0, a1, a2, a3⟩ := A
  obtain ⟨t0, t1, t2, t3⟩ := T
  obtain ⟨h', x', y', z', g1, g2, g3, g4, g5, g6, g7, g8, g9, g10⟩ := c_twice Z hr d1 d2 da dt d G.1 a0 t0 l0 l1 l2 l3 l4 M (G.2.2 0 (by decide)) (G.2.2 1 (by decide)) (G.2.2 2 (by decide)) (G.2.2 3 (by decide)) (G.2.2 4 (by decide)) t1 t2 t3 a1 a2 a3
  obtain ⟨R, r1, r2⟩ := j_tw (zf_2 Z) (no_rt Z) hS hJ
  have g3' : KP (KC m sc t) h h' := g3
  refine ⟨h', x', y', z', R, g1, ⟨cal_k C0 g2 g3' (fun j hj => by have := m_kc hj; omega) g7, g3', ?_, g4, g5, g6⟩, r1, by rw [g8, g9, g10]; exact r2⟩
  unfold POb
  rw [g3'.2 t (fun q => by have := m_kc q; omega)]
  exact t0
theorem w_cadd [Lean.Grind.Field F] (Z : ZF PP φ) (hr : φ (2 ^ 261) ≠ 0) {c kn m kb bm om sc a b t x1 y1 z1 x2 y2 z2 : Nat} {li : Int} {h : HP} (C : CAl c kn m kb bm om sc li h) (da : sc + 6 ≤ a) (db : sc + 6 ≤ b) (dt : sc + 6 ≤ t) (d : a = t ∨ a + 4 ≤ t ∨ t + 4 ≤ a) (d' : b + 4 ≤ t ∨ t + 4 ≤ b) (A : PVl a x1 y1 z1 h) (Bp : PVl b x2 y2 z2 h) (T : PRw t h) {S U : Option (F × F)} (hS : OC (-3) (φ BB) S) (hU : OC (-3) (φ BB) U) (hJ : JP (ps φ x1) (ps φ y1) (ps φ z1) S) (hK : JP (ps φ x2) (ps φ y2) (ps φ z2) U) :
    ∃ h' x' y' z' R, P_Cu_add h c a b t = some h' ∧ CR c kn m kb bm om sc li t x' y' z' h h' ∧ ADD (-3) S U R ∧ JP (ps φ x') (ps φ y') (ps φ z') R := by
  have C0 := C
  have A0 := A
  have B0 := Bp
  obtain ⟨G, M, d1, d2⟩ := C
  obtain ⟨l0, l1, l2, l3, l4⟩ := cgm_l G
  obtain ⟨a0, a1, a2, a3⟩ := A
  obtain ⟨b0, b1, b2, b3⟩ := Bp
  have t0 := T.1
  have lz1 : z1 < PP := a3.choose_spec.2.2
  have lz2 : z2 < PP := b3.choose_spec.2.2
  have exs : ∀ {h' : HP}, KP [t + 1, t + 2, t + 3] h h' → (∃ G, h'[sc + 1]? = some (pJ 9 G)) ∧ (∃ G, h'[sc + 2]? = some (pJ 9 G)) ∧ (∃ G, h'[sc + 3]? = some (pJ 9 G)) ∧ (∃ G, h'[sc + 4]? = some (pJ 9 G)) ∧ ∃ G, h'[sc + 5]? = some (pJ 9 G) := by
    intro h' k
    have e : ∀ i, i < 5 → h'[sc + (i + 1)]? = h[sc + (i + 1)]? := fun i hi => k.2 _ (by simp; omega)
    refine ⟨?_, ?_, ?_, ?_, ?_⟩
    · rw [e 0 (by decide)]; exact G.2.2 0 (by decide)
    · rw [e 1 (by decide)]; exact G.2.2 1 (by decide)
    · rw [e 2 (by decide)]; exact G.2.2 2 (by decide)
    · rw [e 3 (by decide)]; exact G.2.2 3 (by decide)
    · rw [e 4 (by decide)]; exact G.2.2 4 (by decide)
  have mk : ∀ {h' : HP}, KP [t + 1, t + 2, t + 3] h h' → MOb m PP li h' := by
    intro h' k
    have e : ∀ i, i < 9 → h'[m + i]? = h[m + i]? := fun i hi => k.2 _ (by simp; omega)
    obtain ⟨m1, m2, ⟨m3, m4, m5, m6⟩, ⟨m7, m8, m9⟩⟩ := M
    exact ⟨(e 0 (by decide)).trans m1, by rw [e 1 (by decide)]; exact m2, ⟨by rw [e 2 (by decide)]; exact m3, by rw [e 3 (by decide)]; exact m4, by rw [e 4 (by decide)]; exact m5, by rw [e 5 (by decide)]; exact m6⟩, by rw [e 6 (by decide)]; exact m7, by rw [e 7 (by decide)]; exact m8, by rw [e 8 (by decide)]; exact m9⟩
  have ups : ∀ {h1 h2 : HP}, KP [t + 1, t + 2, t + 3] h1 h2 → KP (KC m sc t) h1 h2 := fun k => k.up (by intro j hj; unfold KC; simp at hj ⊢; omega)
  by_cases hz2 : z2 = 0
  · obtain ⟨h', g1, g2, g3⟩ := e_pset d A0 T
    refine ⟨h', x1, y1, z1, S, ?_, ⟨cal_k C0 (mk g2) g2 (fun j hj => by simp at hj; omega) (exs g2), ups g2, g3⟩, Or.inr (Or.inl ⟨?_, rfl⟩), hJ⟩
    · unfold P_Cu_add
      rw [os_ b0, bs2 (e_isNeutral b0 b3), decide_eq_true hz2, if_neg (show ¬ bi true = 0 by decide), os_ t0, bs_ g1]
    · rcases hK with ⟨_, q⟩ | ⟨q, _⟩
      · exact q
      · exact absurd ((ps_z Z hr lz2).mpr hz2) q
  · by_cases hz1 : z1 = 0
    · obtain ⟨h', g1, g2, g3⟩ := e_pset (Or.inr d') B0 T
      refine ⟨h', x2, y2, z2, U, ?_, ⟨cal_k C0 (mk g2) g2 (fun j hj => by simp at hj; omega) (exs g2), ups g2, g3⟩, Or.inl ⟨?_, rfl⟩, hK⟩
      · unfold P_Cu_add
        rw [os_ b0, bs2 (e_isNeutral b0 b3), decide_eq_false hz2, if_pos (show bi false = 0 by decide), os_ a0, bs2 (e_isNeutral a0 a3), decide_eq_true hz1, if_neg (show ¬ bi true = 0 by decide), os_ t0, bs_ g1]
      · rcases hJ with ⟨_, q⟩ | ⟨q, _⟩
        · exact q
        · exact absurd ((ps_z Z hr lz1).mpr hz1) q
    · have n1 : ps φ z1 ≠ 0 := fun q => hz1 ((ps_z Z hr lz1).mp q)
      have n2 : ps φ z2 ≠ 0 := fun q => hz2 ((ps_z Z hr lz2).mp q)
      obtain ⟨h1, u0, u1, u2, u3, p1, p2, p3, ⟨p4, p5, p6, p7⟩, p8, q0, q1, q2, q3⟩ := c_pre Z hr d1 d2 da db dt G.1 a0 b0 t0 l0 l1 l2 l3 l4 M (G.2.2 0 (by decide)) (G.2.2 1 (by decide)) (G.2.2 2 (by decide)) (G.2.2 3 (by decide)) (G.2.2 4 (by decide)) a1 a2 a3 b1 b2 b3 hz1 hz2
      have p3' : KP (KC m sc t) h h1 := p3.up (by intro j hj; unfold KC; simp at hj ⊢; omega)
      have mp3 : ∀ j, j ∈ [m + 6, m + 7, sc + 1, sc + 2, sc + 3, sc + 4, sc + 5] → j < sc + 6 ∧ (j = m + 6 ∨ j = m + 7 ∨ (sc + 1 ≤ j ∧ j ≤ sc + 5)) := fun j hj => by simp at hj; omega
      have e1 : (∃ G, h1[sc + 1]? = some (pJ 9 G)) ∧ (∃ G, h1[sc + 2]? = some (pJ 9 G)) ∧ (∃ G, h1[sc + 3]? = some (pJ 9 G)) ∧ (∃ G, h1[sc + 4]? = some (pJ 9 G)) ∧ ∃ G, h1[sc + 5]? = some (pJ 9 G) := by
        obtain ⟨G0, v0, _⟩ := p4
        obtain ⟨G1, v1, _⟩ := p5
        obtain ⟨G2, v2, _⟩ := p6
        obtain ⟨G3, v3, _⟩ := p7
        exact ⟨⟨G0, v0⟩, ⟨G1, v1⟩, ⟨G2, v2⟩, ⟨G3, v3⟩, p8⟩
      have C1 := cal_k C0 p2 p3 (fun j hj => by have := mp3 j hj; omega) e1
      have A1 := kp_pv p3 A0 (fun j hj => by have := mp3 j hj; omega)
      have B1 := kp_pv p3 B0 (fun j hj => by have := mp3 j hj; omega)
      have T1 := kp_prw p3 T (fun j hj => by have := mp3 j hj; omega)
      obtain ⟨V0, v0, w0, x0⟩ := p4
      obtain ⟨V1, v1, w1, xx1⟩ := p5
      obtain ⟨V2, v2, w2, xx2⟩ := p6
      obtain ⟨V3, v3, w3, x3⟩ := p7
      have sx : u0 = u1 ↔ ps φ x1 * (ps φ z2 * ps φ z2) = ps φ x2 * (ps φ z1 * ps φ z1) := by
        rw [← q0, ← q1]
        exact (ps_inj Z hr x0 xx1).symm
      have sy : u2 = u3 ↔ ps φ y1 * (ps φ z2 * ps φ z2 * ps φ z2) = ps φ y2 * (ps φ z1 * ps φ z1 * ps φ z1) := by
        rw [← q2, ← q3]
        exact (ps_inj Z hr xx2 x3).symm
      rw [p1, bs2 (e_areSame v0 v1 w0 w1)]
      by_cases hx : u0 = u1
      · rw [decide_eq_true hx, if_neg (show ¬ bi true = 0 by decide), bs2 (e_areSame v2 v3 w2 w3)]
        have je := j_eq hS hU hJ hK n1 n2 (sx.mp hx)
        by_cases hy : u2 = u3
        · rw [decide_eq_true hy, if_neg (show ¬ bi true = 0 by decide), os_ C1.1.1]
          obtain ⟨h2, x', y', z', R, k1, k2, k3, k4⟩ := w_twice Z hr C1 da dt d A1 T1 hS hJ
          have := je.1 (sy.mp hy)
          refine ⟨h2, x', y', z', R, by rw [bs_ k1], ⟨k2.1, p3'.tr k2.2.1, k2.2.2⟩, by rw [← this]; exact k3, k4⟩
        · rw [decide_eq_false hy, if_pos (show bi false = 0 by decide), os_ T1.1]
          obtain ⟨h2, k1, k2, k3⟩ := e_setNeutral T1
          have ee : ∀ i, i < 5 → h2[sc + (i + 1)]? = h1[sc + (i + 1)]? := fun i hi => k2.2 _ (by simp; omega)
          have em : ∀ i, i < 9 → h2[m + i]? = h1[m + i]? := fun i hi => k2.2 _ (by simp; omega)
          have M2 : MOb m PP li h2 := by
            obtain ⟨m1, m2, ⟨m3, m4, m5, m6⟩, ⟨m7, m8, m9⟩⟩ := p2
            exact ⟨(em 0 (by decide)).trans m1, by rw [em 1 (by decide)]; exact m2, ⟨by rw [em 2 (by decide)]; exact m3, by rw [em 3 (by decide)]; exact m4, by rw [em 4 (by decide)]; exact m5, by rw [em 5 (by decide)]; exact m6⟩, by rw [em 6 (by decide)]; exact m7, by rw [em 7 (by decide)]; exact m8, by rw [em 8 (by decide)]; exact m9⟩
          refine ⟨h2, 0, 0, 0, none, by rw [bs_ k1], ⟨cal_k C1 M2 k2 (fun j hj => by simp at hj; omega) ⟨by rw [ee 0 (by decide)]; exact e1.1, by rw [ee 1 (by decide)]; exact e1.2.1, by rw [ee 2 (by decide)]; exact e1.2.2.1, by rw [ee 3 (by decide)]; exact e1.2.2.2.1, by rw [ee 4 (by decide)]; exact e1.2.2.2.2⟩, p3'.tr (ups k2), k3⟩, je.2 (fun q => hy (sy.mpr q)), Or.inl ⟨ps_0 Z, rfl⟩⟩
      · rw [decide_eq_false hx, if_pos (show bi false = 0 by decide), os_ C1.1.1]
        obtain ⟨R, r1, r2⟩ := j_ap hJ hK n1 n2 (fun q => hx (sx.mpr q))
        obtain ⟨k0', k1', k2', k3', k4'⟩ := cgm_l C1.1
        obtain ⟨h2, x', y', z', g1, g2, g3, g4, g5, g6, g7, g8, g9, g10⟩ := c_apart Z hr d1 d2 da db dt d (Or.inr d') C1.1.1 A1.1 B1.1 T1.1 k0' k1' k2' k3' k4' p2 e1.1 e1.2.1 e1.2.2.1 e1.2.2.2.1 e1.2.2.2.2 T1.2.1 T1.2.2.1 T1.2.2.2 ⟨V0, v0, w0, x0⟩ ⟨V1, v1, w1, xx1⟩ ⟨V2, v2, w2, xx2⟩ ⟨V3, v3, w3, x3⟩ A1.2.2.2 B1.2.2.2
        have g3' : KP (KC m sc t) h1 h2 := g3
        refine ⟨h2, x', y', z', R, by rw [bs_ g1], ⟨cal_k C1 g2 g3' (fun j hj => by have := m_kc hj; omega) g7, p3'.tr g3', ?_, g4, g5, g6⟩, r1, ?_⟩
        · unfold POb
          rw [g3'.2 t (fun q => by have := m_kc q; omega)]
          exact T1.1
        · rw [g8, g9, g10, q0, q1, q2, q3]
          exact r2
end CAB
