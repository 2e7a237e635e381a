/-! a point and its opposite, three points of a line, and that a class has one point -/
section GR
variable {F A : Type} {C : F → A} {X Y : A} {a4 a6 : F} {Pl : A → Prop} {dN : A → Nat → Prop}
theorem ar_q [Lean.Grind.CommRing A] {X Y x y c4 c6 : A} (h : Y * Y = X * X * X + c4 * X + c6) (k : y * y = x * x * x + c4 * x + c6) : (Y - y) * (Y + y) = (X - x) * (X * X + x * X + x * x + c4) := by grind
theorem ar_n1 [Lean.Grind.CommRing A] {r Y y q v1 v2 w1 w2 : A} (h : (Y - y) * (Y + y) = r * q) : 1 * (r * (r * v1 + (Y - -y) * v2) + (Y - y) * (r * w1 + (Y - -y) * w2)) = r * (r * v1 + ((Y + y) * v2 + ((Y - y) * w1 + q * w2))) := by grind
theorem ar_n2 [Lean.Grind.CommRing A] {a b c : A} (h : a * b = c) (k : c - 0 = c) : a * b = c := h
theorem ar_sq [Lean.Grind.CommRing A] {Y y r : A} (h : (Y - y) * (Y + y) = r) : Y * Y - y * y = r := by grind
theorem ar_l3 [Lean.Grind.CommRing A] {r1 r2 r3 L M w w' v'' w'' : A} (h : r1 * (r2 * r3) = L * M) : 1 * (r1 * (r2 * (r3 * v'' + L * w'') + L * w') + L * w) = L * (M * v'' + (r1 * (r2 * w'') + (r1 * w' + w))) := by grind
theorem ar_l4 [Lean.Grind.CommRing A] {r1 r2 r3 L M N G K g : A} (h : r1 * (r2 * r3) = L * M) : 1 * (L * (L * (L * (G * g))) + (r1 * (r2 * (r3 * (N * G * g))) + r1 * (r2 * (L * (K * g))))) = L * ((L * L * G + M * (N * G) + r1 * (r2 * K)) * g) := by grind
theorem f_nz [Lean.Grind.Field F] {a b : F} (h : a ≠ 0) (k : b ≠ 0) : a * b ≠ 0 := fun e => h (by
  have h1 := Lean.Grind.Field.mul_inv_cancel k
  have h3 : a = a * b * b⁻¹ := by grind
  rw [h3, e]
  grind)
theorem ar_4 [Lean.Grind.Field F] {y1 y2 : F} (h2 : (2 : F) ≠ 0) (h : y1 ≠ 0) (k : y2 ≠ 0) : (4 * (y1 * y1 * (y2 * y2)) : F) ≠ 0 := by
  have : (4 : F) = 2 * 2 := by grind
  rw [this]
  exact f_nz (f_nz h2 h2) (f_nz (f_nz h h) (f_nz k k))
theorem ar_5 [Lean.Grind.CommRing A] {a b g : A} (h : a * b = 1) : g = b * (a * g) := by grind
theorem eq_neg [Lean.Grind.Field F] [Lean.Grind.CommRing A] (I : Itf C X Y a4 a6 Pl dN) (h2 : (2 : F) ≠ 0) {x y : F} (hc : y * y = x * x * x + a4 * x + a6) (hy : y ≠ 0) (D : List (F × F)) : EQ C X Y Pl ((x, y) :: (x, -y) :: D) D := by
  have J := I
  have cn := it_neg I y
  obtain ⟨⟨q1, q2, q3, q4, q5⟩, ⟨p1, p2, p3, p4, p5, p6⟩, _, _, ⟨d1, d2, d3, d4⟩⟩ := I
  have hc' : C y * C y = C x * C x * C x + C a4 * C x + C a6 := by rw [← q2, hc, q1, q1, q2, q2, q2]
  have hq := ar_q q5 hc'
  have px : Pl (X - C x) := it_ps J p2 (p1 _)
  refine ⟨1, X - C x, ⟨it_p1 J, px, it_10 J, d4 _ _ (d1 x)⟩, fun u hu => ?_, fun g hg => ?_⟩
  · obtain ⟨v, w, ⟨v1, v2, a1, a2, a3⟩, ⟨w1, w2, b1, b2, b3⟩, c⟩ := hu
    refine ⟨(X - C x) * v1 + ((Y + C y) * v2 + ((Y - C y) * w1 + (X * X + C x * X + C x * C x + C a4) * w2)), ?_, ?_⟩
    · refine jj_add J D _ _ (jj_mul J px D _ a1) (jj_add J D _ _ (jj_mul J (p4 _ _ p3 (p1 _)) D _ a2) (jj_add J D _ _ (jj_mul J (it_ps J p3 (p1 _)) D _ b1) (jj_mul J ?_ D _ b2)))
      exact p4 _ _ (p4 _ _ (p4 _ _ (p5 _ _ p2 p2) (p5 _ _ (p1 _) p2)) (p5 _ _ (p1 _) (p1 _))) (p1 _)
    · rw [c, a3, b3]
      show 1 * ((X - C x) * ((X - C x) * v1 + (Y - C (-y)) * v2) + (Y - C y) * ((X - C x) * w1 + (Y - C (-y)) * w2)) = _
      rw [cn]
      exact ar_n1 hq
  · have hk : C (y + y) * C ((y + y)⁻¹) = 1 := by
      rw [← q2, Lean.Grind.Field.mul_inv_cancel (show y + y ≠ 0 by grind), q3]
    have hg' := jj_mul J (p1 ((y + y)⁻¹)) D g hg
    have hn : JJ C X Y Pl D (C (-1) * (C ((y + y)⁻¹) * g)) := jj_mul J (p1 _) D _ hg'
    refine ⟨_, ⟨_, _, jj_y (P := (x, -y)) J hg', jj_x (P := (x, -y)) J hn, rfl⟩, ?_⟩
    show 1 * ((X - C x) * ((Y - C (-y)) * (C (y + y)⁻¹ * g)) + (Y - C y) * ((X - C x) * (C (-1) * (C (y + y)⁻¹ * g)))) = (X - C x) * g
    rw [cn, it_neg J, q3]
    rw [q1] at hk
    grind
theorem ar_l1 [Lean.Grind.CommRing A] {X Y l m x1 x2 x3 c4 c6 : A} (h : Y * Y = X * X * X + c4 * X + c6) (e1 : x1 + x2 + x3 = l * l) (e2 : x1 * x2 + x1 * x3 + x2 * x3 = c4 - l * m - l * m) (e3 : x1 * x2 * x3 = m * m - c6) : (X - x1) * ((X - x2) * (X - x3)) = (Y - l * X - m) * (Y + l * X + m) := by grind
theorem ar_l2 [Lean.Grind.CommRing A] {X Y l m f q1 q2 x1 x2 y1 y2 : A} (h : Y * Y = f) (k1 : f - y1 * y1 = (X - x1) * q1) (k2 : f - y2 * y2 = (X - x2) * q2) : 4 * (y1 * y1 * (y2 * y2)) = (Y - l * X - m) * (Y - l * X - m) * (f - (X - x1) * q1 - (X - x2) * q2) + (Y + l * X + m) * ((4 * Y - (Y + l * X + m)) * (f - (X - x1) * q1 - (X - x2) * q2)) + (X - x1) * ((X - x2) * (4 * (q1 * q2))) := by grind
theorem jj_l [Lean.Grind.Field F] [Lean.Grind.CommRing A] (I : Itf C X Y a4 a6 Pl dN) {D : List (F × F)} {x y l m : F} (hy : y = l * x + m) {u : A} (h : JJ C X Y Pl D u) : JJ C X Y Pl ((x, y) :: D) ((Y - C l * X - C m) * u) := by
  have J := I
  have cn := it_neg I l
  obtain ⟨⟨q1, q2, q3, q4, q5⟩, ⟨p1, p2, p3, p4, p5, p6⟩, _⟩ := I
  refine ⟨C (-l) * u, u, jj_mul J (p1 _) D _ h, h, ?_⟩
  show _ = (X - C x) * (C (-l) * u) + (Y - C y) * u
  rw [cn, hy, q1, q2]
  grind
theorem jj_in [Lean.Grind.Field F] [Lean.Grind.CommRing A] (I : Itf C X Y a4 a6 Pl dN) {D : List (F × F)} {x y l m : F} (hy : y = l * x + m) {u : A} (h : JJ C X Y Pl ((x, y) :: D) u) : ∃ v w, JJ C X Y Pl D v ∧ JJ C X Y Pl D w ∧ u = (X - C x) * v + (Y - C l * X - C m) * w := by
  have J := I
  obtain ⟨⟨q1, q2, q3, q4, q5⟩, ⟨p1, p2, p3, p4, p5, p6⟩, _⟩ := I
  obtain ⟨v, w, a1, a2, a3⟩ := h
  refine ⟨v + C l * w, w, jj_add J D _ _ a1 (jj_mul J (p1 _) D _ a2), a2, ?_⟩
  rw [a3]
  show (X - C x) * v + (Y - C y) * w = _
  rw [hy, q1, q2]
  grind
theorem eq_line [Lean.Grind.Field F] [Lean.Grind.CommRing A] (I : Itf C X Y a4 a6 Pl dN) (h2 : (2 : F) ≠ 0) {x1 y1 x2 y2 x3 y3 l m : F} (hc1 : y1 * y1 = x1 * x1 * x1 + a4 * x1 + a6) (hc2 : y2 * y2 = x2 * x2 * x2 + a4 * x2 + a6) (hy1 : y1 ≠ 0) (hy2 : y2 ≠ 0) (g1 : y1 = l * x1 + m) (g2 : y2 = l * x2 + m) (g3 : y3 = l * x3 + m) (e1 : x1 + x2 + x3 = l * l) (e2 : x1 * x2 + x1 * x3 + x2 * x3 = a4 - l * m - l * m) (e3 : x1 * x2 * x3 = m * m - a6) (D : List (F × F)) : EQ C X Y Pl ((x1, y1) :: (x2, y2) :: (x3, y3) :: D) D := by
  have J := I
  obtain ⟨⟨q1, q2, q3, q4, q5⟩, ⟨p1, p2, p3, p4, p5, p6⟩, _, _, ⟨d1, d2, d3, d4⟩⟩ := I
  have f1 : C x1 + C x2 + C x3 = C l * C l := by rw [← q1, ← q1, e1, q2]
  have f2 : C x1 * C x2 + C x1 * C x3 + C x2 * C x3 = C a4 - C l * C m - C l * C m := by rw [← q2, ← q2, ← q2, ← q2, ← q1, ← q1, e2, it_sub J, it_sub J]
  have f3 : C x1 * C x2 * C x3 = C m * C m - C a6 := by rw [← q2, ← q2, ← q2, e3, it_sub J]
  have hl := ar_l1 q5 f1 f2 f3
  have k1 : C y1 * C y1 = C x1 * C x1 * C x1 + C a4 * C x1 + C a6 := by rw [← q2, hc1, q1, q1, q2, q2, q2]
  have k2 : C y2 * C y2 = C x2 * C x2 * C x2 + C a4 * C x2 + C a6 := by rw [← q2, hc2, q1, q1, q2, q2, q2]
  have pX : ∀ c, Pl (X - C c) := fun c => it_ps J p2 (p1 _)
  have pL : Pl (Y - C l * X - C m) := it_ps J (it_ps J p3 (p5 _ _ (p1 _) p2)) (p1 _)
  have pM : Pl (Y + C l * X + C m) := p4 _ _ (p4 _ _ p3 (p5 _ _ (p1 _) p2)) (p1 _)
  have pq : ∀ c, Pl (X * X + C c * X + C c * C c + C a4) := fun c => p4 _ _ (p4 _ _ (p4 _ _ (p5 _ _ p2 p2) (p5 _ _ (p1 _) p2)) (p5 _ _ (p1 _) (p1 _))) (p1 _)
  have nL : Y - C l * X - C m ≠ 0 := by
    intro e
    have : (X - C x1) * ((X - C x2) * (X - C x3)) = 0 := by rw [hl, e]; grind
    exact it_m0 J (pX _) (p5 _ _ (pX _) (pX _)) (d4 _ _ (d1 _)) (it_m0 J (pX _) (pX _) (d4 _ _ (d1 _)) (d4 _ _ (d1 _))) this
  refine ⟨1, Y - C l * X - C m, ⟨it_p1 J, pL, it_10 J, nL⟩, fun u hu => ?_, fun g hg => ?_⟩
  · obtain ⟨v, w, a1, a2, a3⟩ := jj_in J g1 hu
    obtain ⟨v', w', b1, b2, b3⟩ := jj_in J g2 a1
    obtain ⟨v'', w'', c1, c2, c3⟩ := jj_in J g3 b1
    refine ⟨(Y + C l * X + C m) * v'' + ((X - C x1) * ((X - C x2) * w'') + ((X - C x1) * w' + w)), ?_, ?_⟩
    · exact jj_add J D _ _ (jj_mul J pM D _ c1) (jj_add J D _ _ (jj_mul J (pX _) D _ (jj_mul J (pX _) D _ c2)) (jj_add J D _ _ (jj_mul J (pX _) D _ (jj_sub J b2)) (jj_sub J (jj_sub J a2))))
    · rw [a3, b3, c3]
      exact ar_l3 hl
  · have hq1 := ar_q q5 k1
    have hq2 := ar_q q5 k2
    have hb := ar_l2 (l := C l) (m := C m) (f := Y * Y) rfl (show Y * Y - C y1 * C y1 = (X - C x1) * (X * X + C x1 * X + C x1 * C x1 + C a4) from ar_sq hq1) (show Y * Y - C y2 * C y2 = (X - C x2) * (X * X + C x2 * X + C x2 * C x2 + C a4) from ar_sq hq2)
    have pQ1 := pq x1
    have pQ2 := pq x2
    generalize X * X + C x1 * X + C x1 * C x1 + C a4 = Q1 at *
    generalize X * X + C x2 * X + C x2 * C x2 + C a4 = Q2 at *
    have pG : Pl (Y * Y - (X - C x1) * Q1 - (X - C x2) * Q2) := it_ps J (it_ps J (p5 _ _ p3 p3) (p5 _ _ (pX _) pQ1)) (p5 _ _ (pX _) pQ2)
    generalize Y * Y - (X - C x1) * Q1 - (X - C x2) * Q2 = G at *
    have hk : C ((4 * (y1 * y1 * (y2 * y2)))⁻¹) * (4 * (C y1 * C y1 * (C y2 * C y2))) = 1 := by
      have z : (4 * (y1 * y1 * (y2 * y2)) : F) ≠ 0 := ar_4 h2 hy1 hy2
      have : C ((4 * (y1 * y1 * (y2 * y2)))⁻¹ * (4 * (y1 * y1 * (y2 * y2)))) = 1 := by rw [Lean.Grind.Field.inv_mul_cancel z, q3]
      rw [q2] at this
      have e4 : C 4 = 4 := by
        have : (4 : F) = 1 + 1 + 1 + 1 := by grind
        rw [this, q1, q1, q1, q3]
        grind
      rw [q2 4, q2, q2, q2, e4] at this
      exact this
    have p4' : Pl 4 := by
      have : (4 : A) = 1 + 1 + 1 + 1 := by grind
      rw [this]
      exact p4 _ _ (p4 _ _ (p4 _ _ (it_p1 J) (it_p1 J)) (it_p1 J)) (it_p1 J)
    have hg' := jj_mul J (p1 ((4 * (y1 * y1 * (y2 * y2)))⁻¹)) D g hg
    generalize hgg : C ((4 * (y1 * y1 * (y2 * y2)))⁻¹) * g = g' at *
    have t1 := jj_l J g1 (jj_l J g2 (jj_l J g3 (jj_mul J pG D _ hg')))
    have t2 := jj_x (P := (x1, y1)) J (jj_x (P := (x2, y2)) J (jj_x (P := (x3, y3)) J (jj_mul J (p5 _ _ (it_ps J (p5 _ _ p4' p3) pM) pG) D _ hg')))
    have t3 := jj_x (P := (x1, y1)) J (jj_x (P := (x2, y2)) J (jj_l J g3 (jj_mul J (p5 _ _ p4' (p5 _ _ pQ1 pQ2)) D _ hg')))
    refine ⟨_, jj_add J _ _ _ t1 (jj_add J _ _ _ t2 t3), ?_⟩
    show 1 * ((Y - C l * X - C m) * ((Y - C l * X - C m) * ((Y - C l * X - C m) * (G * g'))) + ((X - C x1) * ((X - C x2) * ((X - C x3) * ((4 * Y - (Y + C l * X + C m)) * G * g'))) + (X - C x1) * ((X - C x2) * ((Y - C l * X - C m) * (4 * (Q1 * Q2) * g'))))) = (Y - C l * X - C m) * g
    have e5 : g = 4 * (C y1 * C y1 * (C y2 * C y2)) * g' := by rw [← hgg]; exact ar_5 hk
    rw [e5, hb]
    exact ar_l4 hl
end GR
