/-! the class's takesOther -/
section CTO
variable {F : Type} {φ : Nat → F}
/-- a place that taking another point leaves alone -/
def FRo (m sc b1 j : Nat) : Prop := j ≠ m + 6 ∧ j ≠ m + 7 ∧ ¬ (sc + 1 ≤ j ∧ j ≤ sc + 5) ∧ ∀ i, i < 16 → j < b1 + 8 * i + 1 ∨ b1 + 8 * i + 3 < j
/-- the other point's table: a neutral point ahead, rows behind -/
def OTb (b1 : Nat) (h : HP) : Prop := (∃ x y, PVl b1 x y 0 h) ∧ ∀ j, 1 ≤ j → j < 16 → PRw (b1 + 8 * j) h
theorem ot_kp {S : List Nat} {b1 : Nat} {h h' : HP} (k : KP S h h') (O : OTb b1 h) (n : ∀ j, j ∈ S → ∀ i, i < 16 → j < b1 + 8 * i ∨ b1 + 8 * i + 4 ≤ j) : OTb b1 h' :=
  ⟨by obtain ⟨x, y, p⟩ := O.1; exact ⟨x, y, kp_pv k p (fun j hj => by have := n j hj 0 (by decide); omega)⟩, fun i h1 h2 => kp_prw k (O.2 i h1 h2) (fun j hj => n j hj i h2)⟩
theorem ot_p1 {S : List Nat} {b1 : Nat} {h h' : HP} (k : KP S h h') (O : OTb b1 h) (P : PRw (b1 + 8) h') (n : ∀ j, j ∈ S → (b1 + 9 ≤ j ∧ j ≤ b1 + 11) ∨ ∀ i, i < 16 → j < b1 + 8 * i ∨ b1 + 8 * i + 4 ≤ j) : OTb b1 h' := by
  obtain ⟨⟨x, y, p⟩, O2⟩ := O
  refine ⟨⟨x, y, kp_pv k p (fun j hj => ?_)⟩, fun i h1 h2 => ?_⟩
  · rcases n j hj with q | q
    · omega
    · have := q 0 (by decide); omega
  · by_cases z : i = 1
    · rw [z]; exact P
    · exact kp_prw k (O2 i h1 h2) (fun j hj => by
        rcases n j hj with q | q
        · omega
        · exact q i h2)
theorem w_takes [Lean.Grind.Field F] (Z : ZF PP φ) (hr : φ (2 ^ 261) ≠ 0) {c kn m kb bm om sc b1 bv kr n : Nat} {li : Int} {h : HP} {row : Nat → Int8} (C : CAl c kn m kb bm om sc li h) (db : sc + 6 ≤ b1) (dk : m + 9 ≤ kb ∧ kb < sc) (da : om < sc ∧ om ≠ c ∧ (om < m ∨ m + 9 ≤ om)) (hn : 65 ≤ n) (hn2 : n < 2 ^ 30) (A : MA om b1 h) (O : OTb b1 h) (cb : CV PP h kb bv) (hb : ps φ bv = φ BB) (fk : FRo m sc b1 kr) (hkr : h[kr]? = some (pB n row)) :
    ∃ h' b, P_Cu_takesOther h c kr = some (bi b, h') ∧ CAl c kn m kb bm om sc li h' ∧ OTb b1 h' ∧ h'.length = h.length ∧ (∀ j, FRo m sc b1 j → h'[j]? = h[j]?) ∧ (b = true ↔ row 0 = 4 ∧ be (fun k => row (1 + k)) 32 < PP ∧ be (fun k => row (33 + k)) 32 < PP ∧ OC (-3) (φ BB) (some (φ (be (fun k => row (1 + k)) 32), φ (be (fun k => row (33 + k)) 32)))) ∧ (b = true → ∀ j, j < 16 → PM φ (b1 + 8 * j) j (φ (be (fun k => row (1 + k)) 32), φ (be (fun k => row (33 + k)) 32)) h') := by
  obtain ⟨X, hX⟩ : ∃ X, X = be (fun k => row (1 + k)) 32 := ⟨_, rfl⟩
  obtain ⟨Y, hY⟩ : ∃ Y, Y = be (fun k => row (33 + k)) 32 := ⟨_, rfl⟩
  rw [← hX, ← hY]
  have d1 := C.2.2.1
  have d2 := C.2.2.2
  have dk1 := dk.1
  have dk2 := dk.2
  obtain ⟨p0, ⟨G1, p1⟩, ⟨G2, p2⟩, ⟨G3, p3⟩⟩ := O.2 1 (by decide) (by decide)
  rw [show b1 + 8 * 1 = b1 + 8 from rfl] at p0 p1 p2 p3
  have f1 := fk.2.2.2 1 (by decide)
  obtain ⟨D1, g1, g1'⟩ := e_read (h := h) (at' := 1) (t := b1 + 8 + 1) (by omega) hn2 (by omega) hkr ⟨G1, p1⟩
  rw [← hX] at g1'
  obtain ⟨D2, g2, g2'⟩ := e_read (h := h.set (b1 + 8 + 1) (pJ 9 D1)) (at' := 33) (t := b1 + 8 + 2) (by omega) hn2 (by omega) (hn_ (by omega) hkr) ⟨G2, hn_ (by omega) p2⟩
  rw [← hY] at g2'
  obtain ⟨h2, hh2⟩ : ∃ h2, h2 = (h.set (b1 + 8 + 1) (pJ 9 D1)).set (b1 + 8 + 2) (pJ 9 D2) := ⟨_, rfl⟩
  rw [← hh2] at g2
  have k2 : KP [b1 + 8 + 1, b1 + 8 + 2] h h2 := by rw [hh2]; exact (KP.st (by simp)).tr (KP.st (by simp))
  have C2 := cal_hi C k2 (fun j hj => by simp at hj; omega)
  have q0 : POb (b1 + 8) h2 := by unfold POb; rw [k2.2 (b1 + 8) (by simp)]; exact p0
  have q1 : h2[b1 + 8 + 1]? = some (pJ 9 D1) := by rw [hh2]; exact hn_ (by omega) (hs_ p1)
  have q2 : h2[b1 + 8 + 2]? = some (pJ 9 D2) := by rw [hh2]; exact hs_ (hn_ (by omega) p2)
  have q3 : ∃ G, h2[b1 + 8 + 3]? = some (pJ 9 G) := ⟨G3, by rw [k2.2 (b1 + 8 + 3) (by simp)]; exact p3⟩
  have O2 : OTb b1 h2 := ot_p1 k2 O ⟨q0, ⟨D1, q1⟩, ⟨D2, q2⟩, q3⟩ (fun j hj => by simp at hj; omega)
  have r2 : h2[kr]? = some (pB n row) := by rw [k2.2 kr (by simp; omega)]; exact hkr
  have fr2 : ∀ j, FRo m sc b1 j → h2[j]? = h[j]? := fun j fj => k2.2 j (by have := fj.2.2.2 1 (by decide); simp; omega)
  have st : P_Cu_takesOther h c kr = (if (row 0).toInt32 = 4 then bnd2 (P_Mo_isAbove h2 m (b1 + 8 + 1)) fun v11 h10 => if v11 = 0 then B_Cu_takesOther_61 h10 else bnd (gR h10 c 0 1) fun k12 => bnd (gR h10 (b1 + 8) 3 1) fun k13 => ob h10 k12 1 (bnd2 (P_Mo_isAbove h10 k12 k13) fun v15 h14 => if v15 = 0 then B_Cu_takesOther_61 h14 else ob h14 c 0 (bnd (P_Cu_enterForm h14 c (b1 + 8)) fun h16 => ob h16 c 0 (bnd2 (P_Cu_isOnCurve h16 c (b1 + 8)) fun v18 h17 => if v18 = 0 then some (0, h17) else bnd (gR h17 c 0 4) fun k19 => ob h17 c 0 (bnd (P_Cu_fillMultiples h17 c k19) fun h20 => some (1, h20))))) else B_Cu_takesOther_61 h2) := by
    unfold P_Cu_takesOther
    rw [bs_ (gR_at C.1.1 rfl), show ldR h om 3 1 = some (b1 + 8 * 1) from ldR_3 A (j := 1) rfl (by decide), bs_ rfl, bs_ (gR_at p0 rfl), show P_Li_read h kr 1 (b1 + 8 * 1 + 1) = some (h.set (b1 + 8 + 1) (pJ 9 D1)) from g1, bs_ rfl]
    have a1 : (h.set (b1 + 8 + 1) (pJ 9 D1))[b1 + 8]? = _ := hn_ (by omega) p0
    rw [bs_ (gR_at a1 rfl), show P_Li_read (h.set (b1 + 8 + 1) (pJ 9 D1)) kr 33 (b1 + 8 * 1 + 2) = some h2 from g2, bs_ rfl, show ldB h2 kr 0 = some (row 0).toInt32 from sB_in 0 r2 rfl (by omega) (by decide), bs_ rfl, bs_ (gR_at C2.1.1 rfl), bs_ (gR_at q0 rfl), os_ C2.2.1.1]
  rw [st]
  have i4 : (row 0).toInt32 = 4 ↔ row 0 = 4 := by
    constructor
    · intro e
      have : ((row 0).toInt32).toInt8 = (4 : Int32).toInt8 := by rw [e]
      rw [i8_r] at this
      exact this
    · intro e; rw [e]; rfl
  by_cases z0 : row 0 = 4
  · rw [if_pos (i4.mpr z0)]
    obtain ⟨h3, a1, a2, a3⟩ := c_above C2.2.1 ⟨D1, q1, g1'⟩ (show b1 + 8 + 1 ≠ m + 7 by omega)
    have e3 : ∀ j, j ≠ m + 7 → h3[j]? = h2[j]? := fun j hj => a3.2 j (by simp; exact hj)
    have C3 : CAl c kn m kb bm om sc li h3 := cal_k C2 a2 a3 (fun j hj => by simp at hj; omega) ⟨by rw [e3 _ (by omega)]; exact C2.1.2.2 0 (by decide), by rw [e3 _ (by omega)]; exact C2.1.2.2 1 (by decide), by rw [e3 _ (by omega)]; exact C2.1.2.2 2 (by decide), by rw [e3 _ (by omega)]; exact C2.1.2.2 3 (by decide), by rw [e3 _ (by omega)]; exact C2.1.2.2 4 (by decide)⟩
    have O3 := ot_kp a3 O2 (fun j hj i hi => by simp at hj; omega)
    have fr3 : ∀ j, FRo m sc b1 j → h3[j]? = h[j]? := fun j fj => (e3 j fj.2.1).trans (fr2 j fj)
    rw [bs2 a1]
    by_cases z1 : X < PP
    · rw [decide_eq_true z1, if_neg (show ¬ bi true = 0 by decide)]
      have q0' : POb (b1 + 8) h3 := by unfold POb; rw [e3 _ (by omega)]; exact q0
      obtain ⟨h4, b1', b2', b3'⟩ := c_above C3.2.1 ⟨D2, (e3 _ (by omega)).trans q2, g2'⟩ (show b1 + 8 + 2 ≠ m + 7 by omega)
      have e4 : ∀ j, j ≠ m + 7 → h4[j]? = h3[j]? := fun j hj => b3'.2 j (by simp; exact hj)
      have C4 : CAl c kn m kb bm om sc li h4 := cal_k C3 b2' b3' (fun j hj => by simp at hj; omega) ⟨by rw [e4 _ (by omega)]; exact C3.1.2.2 0 (by decide), by rw [e4 _ (by omega)]; exact C3.1.2.2 1 (by decide), by rw [e4 _ (by omega)]; exact C3.1.2.2 2 (by decide), by rw [e4 _ (by omega)]; exact C3.1.2.2 3 (by decide), by rw [e4 _ (by omega)]; exact C3.1.2.2 4 (by decide)⟩
      have O4 := ot_kp b3' O3 (fun j hj i hi => by simp at hj; omega)
      have fr4 : ∀ j, FRo m sc b1 j → h4[j]? = h[j]? := fun j fj => (e4 j fj.2.1).trans (fr3 j fj)
      rw [bs_ (gR_at C3.1.1 rfl), bs_ (gR_at q0' rfl), os_ C3.2.1.1, bs2 b1']
      by_cases z2 : Y < PP
      · rw [decide_eq_true z2, if_neg (show ¬ bi true = 0 by decide), os_ C4.1.1]
        have ee : ∀ j, j ≠ m + 7 → h4[j]? = h2[j]? := fun j hj => (e4 j hj).trans (e3 j hj)
        obtain ⟨h5, x', y', z', c1, c2, c3, c4, c5, c6, c7⟩ := w_enter Z hr C4 (show sc + 6 ≤ b1 + 8 by omega) (by unfold POb; rw [ee _ (by omega)]; exact q0) ⟨D1, (ee _ (by omega)).trans q1, g1', z1⟩ ⟨D2, (ee _ (by omega)).trans q2, g2', z2⟩ (by rw [ee _ (by omega)]; exact q3)
        have O5 := ot_p1 c3 O4 c4.rw (fun j hj => by
          simp at hj
          by_cases q : b1 + 9 ≤ j ∧ j ≤ b1 + 11
          · exact Or.inl q
          · exact Or.inr (fun i hi => by omega))
        have fr5 : ∀ j, FRo m sc b1 j → h5[j]? = h[j]? := fun j fj => (c3.2 j (by have := fj.2.2.2 1 (by decide); have := fj.1; have := fj.2.1; simp; omega)).trans (fr4 j fj)
        have cb5 : CV PP h5 kb bv := by
          obtain ⟨B, x1, x2⟩ := cb
          exact ⟨B, by rw [c3.2 kb (by simp; omega), ee kb (by omega), k2.2 kb (by simp; omega)]; exact x1, x2⟩
        rw [bs_ c1, os_ c2.1.1]
        obtain ⟨h6, b, d1', d2', d3', d4'⟩ := w_isOn Z hr c2 (show sc + 6 ≤ b1 + 8 by omega) dk c4 cb5 c7 hb
        rw [c5, c6] at d4'
        have O6 := ot_kp d3' O5 (fun j hj i hi => by simp at hj; omega)
        have fr6 : ∀ j, FRo m sc b1 j → h6[j]? = h[j]? := fun j fj => (d3'.2 j (by have := fj.1; have := fj.2.1; have := fj.2.2.1; simp; omega)).trans (fr5 j fj)
        have len6 : h6.length = h.length := by rw [d3'.1, c3.1, b3'.1, a3.1, k2.1]
        rw [bs2 d1']
        cases b with
        | false =>
          rw [if_pos (show bi false = 0 by decide)]
          exact ⟨h6, false, rfl, d2', O6, len6, fr6, ⟨fun q => absurd q (by decide), fun q => absurd (d4'.mpr q.2.2.2) (by decide)⟩, fun q => absurd q (by decide)⟩
        | true =>
          rw [if_neg (show ¬ bi true = 0 by decide), bs_ (gR_at d2'.1.1 rfl), os_ d2'.1.1]
          have oc := d4'.mp rfl
          have A6 : MA om b1 h6 := by
            obtain ⟨f, y1, y2⟩ := A
            refine ⟨f, ?_, y2⟩
            rw [d3'.2 om (by simp; omega), c3.2 om (by simp; omega), ee om (by omega), k2.2 om (by simp; omega)]
            exact y1
          have P1 : PM φ (b1 + 8) 1 (φ X, φ Y) h6 := ⟨x', y', z', some (φ X, φ Y), kp_pv d3' c4 (fun j hj => by simp at hj; omega), ml_1 oc, by rw [c5, c6, c7]; exact jp_1 _ _⟩
          obtain ⟨w1, w2, w3⟩ := O6.1
          obtain ⟨h7, u1, u2, u3, u4, u5⟩ := w_fill Z hr db da d2' A6 (⟨w1, w2, 0, none, w3, ls_o, Or.inl ⟨ps_0 Z, rfl⟩⟩ : PM φ b1 0 (φ X, φ Y) h6) P1 (fun j h1 h2 => O6.2 j (by omega) h2)
          rw [bs_ u1]
          have O7 : OTb b1 h7 := by
            refine ⟨?_, fun j h1 h2 => (u5 j h2).rw⟩
            obtain ⟨t1, t2, t3, S, s1, s2, s3⟩ := u5 0 (by decide)
            have hS : S = none := ls_uq Z s2 ls_o
            have hz : t3 = 0 := by
              have lt3 : t3 < PP := s1.2.2.2.choose_spec.2.2
              rcases s3 with ⟨q, _⟩ | ⟨_, X', Y', q, _⟩
              · exact (ps_z Z hr lt3).mp q
              · rw [hS] at q; exact absurd q (by simp)
            rw [hz] at s1
            exact ⟨t1, t2, s1⟩
          exact ⟨h7, true, rfl, u2, O7, u3.trans len6, fun j fj => (u4 j fj.1 fj.2.1 fj.2.2.1 fj.2.2.2).trans (fr6 j fj), ⟨fun _ => ⟨z0, z1, z2, oc⟩, fun _ => rfl⟩, fun _ => u5⟩
      · rw [decide_eq_false z2, if_pos (show bi false = 0 by decide)]
        exact ⟨h4, false, rfl, C4, O4, by rw [b3'.1, a3.1, k2.1], fr4, ⟨fun q => absurd q (by decide), fun q => absurd q.2.2.1 z2⟩, fun q => absurd q (by decide)⟩
    · rw [decide_eq_false z1, if_pos (show bi false = 0 by decide)]
      exact ⟨h3, false, rfl, C3, O3, by rw [a3.1, k2.1], fr3, ⟨fun q => absurd q (by decide), fun q => absurd q.2.1 z1⟩, fun q => absurd q (by decide)⟩
  · rw [if_neg (fun q => z0 (i4.mp q))]
    exact ⟨h2, false, rfl, C2, O2, k2.1, fr2, ⟨fun q => absurd q (by decide), fun q => absurd q.1 z0⟩, fun q => absurd q (by decide)⟩
end CTO
