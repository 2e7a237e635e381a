/-! a class has one point; the addition of the curve -/
section UQ
variable {F A : Type} {C : F → A} {X Y : A} {a4 a6 : F} {Pl : A → Prop} {dN : A → Nat → Prop}
theorem no_div [Lean.Grind.Field F] [Lean.Grind.CommRing A] (I : Itf C X Y a4 a6 Pl dN) {c d e : F} {T : A} (hT : Pl T) (hc : c ≠ 0) (h : (X - C e) * T = C c * Y + C d) : False := by
  obtain ⟨_, _, ⟨n1, n2, n3, n4⟩, _, ⟨d1, d2, d3, d4⟩⟩ := I
  have h3 := d2 c d hc
  have z : T ≠ 0 := by
    intro e0
    rw [← h, e0] at h3
    exact d4 _ _ h3 (by grind)
  obtain ⟨n, hn⟩ := n1 T hT z
  have h5 := n3 _ _ _ _ (d1 e) hn
  rw [h] at h5
  have := n2 _ _ _ h3 h5
  have : n = 1 := by omega
  rw [this] at hn
  exact n4 _ hT hn
theorem ar_u1 [Lean.Grind.CommRing A] {c r q v w Y y : A} (a : c = r * v + (Y - y) * w) (h : (Y - y) * (Y + y) = r * q) : r * ((Y + y) * v + q * w) = c * Y + c * y := by grind
theorem ar_u2 [Lean.Grind.CommRing A] {X e x c w Y y : A} (h : (X - x) * ((Y - y) * 1) = c * (X - e) * w) : (X - e) * (c * w - (Y - y)) = (e - x) * Y + (e - x) * -y := by grind
theorem ar_u3 [Lean.Grind.CommRing A] {X e x c w Y y : A} (h : (Y - -y) * ((X - x) * 1) = c * (X - e) * w) : (X - e) * (c * w - (Y + y)) = (e - x) * Y + (e - x) * y := by grind
theorem ar_u4 [Lean.Grind.CommRing A] {X x c w Y y1 y2 q : A} (h : (Y - -y2) * ((Y - y1) * 1) = c * (X - x) * w) (k : (Y - y1) * (Y + y1) = (X - x) * q) : (X - x) * (c * w - q) = (y2 - y1) * Y + (y2 - y1) * -y1 := by grind
theorem ar_u5 [Lean.Grind.CommRing A] {g r r1 Y y c w : A} (h : r * (r1 * 1) = g * c) (k : r * ((Y - y) * 1) = g * w) : r * (r1 * w) = r * (c * (Y - y)) := by grind
theorem no_one [Lean.Grind.Field F] [Lean.Grind.CommRing A] (I : Itf C X Y a4 a6 Pl dN) {x y c : F} (hc : y * y = x * x * x + a4 * x + a6) (h0 : c ≠ 0) (h : JJ C X Y Pl [(x, y)] (C c)) : False := by
  have J := I
  obtain ⟨⟨q1, q2, q3, q4, q5⟩, ⟨p1, p2, p3, p4, p5, p6⟩, _⟩ := I
  have k1 : C y * C y = C x * C x * C x + C a4 * C x + C a6 := by rw [← q2, hc, q1, q1, q2, q2, q2]
  have hq := ar_q q5 k1
  obtain ⟨v, w, a1, a2, a3⟩ := h
  have pq : Pl (X * X + C x * X + C x * C x + C a4) := p4 _ _ (p4 _ _ (p4 _ _ (p5 _ _ p2 p2) (p5 _ _ (p1 _) p2)) (p5 _ _ (p1 _) (p1 _))) (p1 _)
  have a1' : Pl v := a1
  have a2' : Pl w := a2
  refine no_div J (c := c) (d := c * y) (e := x) (T := (Y + C y) * v + (X * X + C x * X + C x * C x + C a4) * w) (p4 _ _ (p5 _ _ (p4 _ _ p3 (p1 _)) a1') (p5 _ _ pq a2')) h0 ?_
  have a3' : C c = (X - C x) * v + (Y - C y) * w := a3
  rw [q2]
  exact ar_u1 a3' hq
theorem eq_nil [Lean.Grind.Field F] [Lean.Grind.CommRing A] (I : Itf C X Y a4 a6 Pl dN) {D : List (F × F)} (h : EQ C X Y Pl D []) : ∃ g, JJ C X Y Pl D g ∧ Pl g ∧ g ≠ 0 ∧ ∀ k, JJ C X Y Pl D k → ∃ w, Pl w ∧ k = g * w := by
  obtain ⟨s, t, ⟨h1, h2, h3, h4⟩, h5, h6⟩ := h
  obtain ⟨g, g1, g2⟩ := h6 1 (it_p1 I)
  have pg := jj_pl I D g g1
  refine ⟨g, g1, pg, ?_, ?_⟩
  · intro e
    rw [e] at g2
    exact h4 (by grind)
  · intro k hk
    obtain ⟨w, w1, w2⟩ := h5 k hk
    refine ⟨w, w1, it_cn I h1 (jj_pl I D k hk) (it_mm I pg w1) h3 ?_⟩
    grind
theorem dn_f [Lean.Grind.Field F] [Lean.Grind.CommRing A] (I : Itf C X Y a4 a6 Pl dN) {g w k : A} {n m : Nat} (hw : Pl w) (hn : dN g n) (hk : dN k m) (e : k = g * w) : ∃ r, dN w r ∧ n + r = m := by
  obtain ⟨_, _, ⟨n1, n2, n3, n4⟩, _, ⟨d1, d2, d3, d4⟩⟩ := I
  have z : w ≠ 0 := by
    intro e0
    exact d4 _ _ hk (by rw [e, e0]; grind)
  obtain ⟨r, hr⟩ := n1 w hw z
  have := n3 _ _ _ _ hn hr
  rw [← e] at this
  exact ⟨r, hr, n2 _ _ _ this hk⟩
theorem uq_o [Lean.Grind.Field F] [Lean.Grind.CommRing A] (I : Itf C X Y a4 a6 Pl dN) {x y : F} (hc : y * y = x * x * x + a4 * x + a6) (h : EQ C X Y Pl [(x, y)] []) : False := by
  have J := I
  obtain ⟨g, g1, g2, g3, g4⟩ := eq_nil I h
  obtain ⟨⟨q1, q2, q3, q4, q5⟩, ⟨p1, p2, p3, p4, p5, p6⟩, ⟨n1, n2, n3, n4⟩, ⟨m1, m2⟩, ⟨d1, d2, d3, d4⟩⟩ := I
  obtain ⟨n, hn⟩ := n1 g g2 g3
  obtain ⟨w1, a1, a2⟩ := g4 _ (jj_x (P := (x, y)) J (D := []) (it_p1 J))
  obtain ⟨w2, b1, b2⟩ := g4 _ (jj_y (P := (x, y)) J (D := []) (it_p1 J))
  have e1 : dN ((X - C x) * 1) 2 := by
    have := d1 x
    rw [show X - C x = (X - C x) * 1 by grind] at this
    exact this
  have e2 : dN ((Y - C y) * 1) 3 := by
    have := d2 1 (-y) (fun e => Lean.Grind.Field.zero_ne_one e.symm)
    rw [q3, it_neg J, show 1 * Y + -C y = (Y - C y) * 1 by grind] at this
    exact this
  obtain ⟨r1, c1, c2⟩ := dn_f J a1 hn e1 a2
  obtain ⟨r2, c3, c4⟩ := dn_f J b1 hn e2 b2
  have : n = 0 ∨ n = 1 ∨ n = 2 := by omega
  rcases this with rfl | rfl | rfl
  · obtain ⟨c, c5, c6⟩ := m1 g g2 hn
    rw [c6] at g1
    exact no_one J hc c5 g1
  · exact n4 _ g2 hn
  · have : r2 = 1 := by omega
    rw [this] at c3
    exact n4 _ b1 c3
theorem uq_p [Lean.Grind.Field F] [Lean.Grind.CommRing A] (I : Itf C X Y a4 a6 Pl dN) (h2 : (2 : F) ≠ 0) {x1 y1 x2 y2 : F} (hc1 : y1 * y1 = x1 * x1 * x1 + a4 * x1 + a6) (hc2 : y2 * y2 = x2 * x2 * x2 + a4 * x2 + a6) (hy2 : y2 ≠ 0) (h : EQ C X Y Pl [(x1, y1)] [(x2, y2)]) : x1 = x2 ∧ y1 = y2 := by
  have J := I
  have h3 := eq_neg I h2 (x := x2) (y := -y2) (by grind) (by grind) []
  rw [show - -y2 = y2 by grind] at h3
  have h4 := eq_tr I (eq_cons (x2, -y2) h) h3
  obtain ⟨g, g1, g2, g3, g4⟩ := eq_nil I h4
  obtain ⟨⟨q1, q2, q3, q4, q5⟩, ⟨p1, p2, p3, p4, p5, p6⟩, ⟨n1, n2, n3, n4⟩, ⟨m1, m2⟩, ⟨d1, d2, d3, d4⟩⟩ := I
  obtain ⟨n, hn⟩ := n1 g g2 g3
  have pX : ∀ c, Pl (X - C c) := fun c => it_ps J p2 (p1 _)
  have pY : ∀ c, Pl (Y - C c) := fun c => it_ps J p3 (p1 _)
  obtain ⟨w1, a1, a2⟩ := g4 _ (jj_x (P := (x2, -y2)) J (jj_x (P := (x1, y1)) J (D := []) (it_p1 J)))
  obtain ⟨w2, b1, b2⟩ := g4 _ (jj_x (P := (x2, -y2)) J (jj_y (P := (x1, y1)) J (D := []) (it_p1 J)))
  obtain ⟨w3, c1, c2⟩ := g4 _ (jj_y (P := (x2, -y2)) J (jj_x (P := (x1, y1)) J (D := []) (it_p1 J)))
  obtain ⟨w4, e1, e2⟩ := g4 _ (jj_y (P := (x2, -y2)) J (jj_y (P := (x1, y1)) J (D := []) (it_p1 J)))
  have a2 : (X - C x2) * ((X - C x1) * 1) = g * w1 := a2
  have b2 : (X - C x2) * ((Y - C y1) * 1) = g * w2 := b2
  have c2 : (Y - C (-y2)) * ((X - C x1) * 1) = g * w3 := c2
  have e2 : (Y - C (-y2)) * ((Y - C y1) * 1) = g * w4 := e2
  rw [it_neg J] at c2 e2
  have f1 : dN ((X - C x2) * ((X - C x1) * 1)) 4 := by
    have := n3 _ _ _ _ (d1 x2) (d1 x1)
    rw [show (X - C x2) * (X - C x1) = (X - C x2) * ((X - C x1) * 1) by grind] at this
    exact this
  obtain ⟨r1, f2, f3⟩ := dn_f J a1 hn f1 a2
  have : n = 0 ∨ n = 1 ∨ n = 2 ∨ n = 3 ∨ n = 4 := by omega
  rcases this with rfl | rfl | rfl | rfl | rfl
  · obtain ⟨c, c5, c6⟩ := m1 g g2 hn
    rw [c6] at g1
    exact (no_one J hc1 c5 (jj_sub J g1)).elim
  · exact (n4 _ g2 hn).elim
  · obtain ⟨c, e, k1, k2⟩ := m2 g g2 hn
    have E2 : e = x2 := by
      refine Classical.byContradiction fun z => ?_
      refine no_div J (c := e - x2) (d := (e - x2) * (-y1)) (e := e) (T := C c * w2 - (Y - C y1)) (it_ps J (p5 _ _ (p1 _) b1) (pY _)) (by grind) ?_
      rw [q2, it_sub J, it_neg J]
      rw [k2] at b2
      exact ar_u2 b2
    have E1 : e = x1 := by
      refine Classical.byContradiction fun z => ?_
      refine no_div J (c := e - x1) (d := (e - x1) * y2) (e := e) (T := C c * w3 - (Y + C y2)) (it_ps J (p5 _ _ (p1 _) c1) (p4 _ _ p3 (p1 _))) (by grind) ?_
      rw [q2, it_sub J]
      rw [k2] at c2
      exact ar_u3 c2
    refine ⟨by rw [← E1, E2], Classical.byContradiction fun z => ?_⟩
    have k3 : C y1 * C y1 = C x1 * C x1 * C x1 + C a4 * C x1 + C a6 := by rw [← q2, hc1, q1, q1, q2, q2, q2]
    have hq := ar_q q5 k3
    have pq : Pl (X * X + C x1 * X + C x1 * C x1 + C a4) := p4 _ _ (p4 _ _ (p4 _ _ (p5 _ _ p2 p2) (p5 _ _ (p1 _) p2)) (p5 _ _ (p1 _) (p1 _))) (p1 _)
    refine no_div J (c := y2 - y1) (d := (y2 - y1) * (-y1)) (e := x1) (T := C c * w4 - (X * X + C x1 * X + C x1 * C x1 + C a4)) (it_ps J (p5 _ _ (p1 _) e1) pq) (by grind) ?_
    rw [k2, E1] at e2
    rw [q2, it_sub J, it_neg J]
    rw [← E2, E1] at *
    exact ar_u4 e2 hq
  · have : r1 = 1 := by omega
    rw [this] at f2
    exact (n4 _ a1 f2).elim
  · have : r1 = 0 := by omega
    rw [this] at f2
    obtain ⟨c, k1, k2⟩ := m1 w1 a1 f2
    exfalso
    refine no_div J (c := c) (d := c * (-y1)) (e := x1) (T := w2) b1 k1 ?_
    rw [k2] at a2
    have : (X - C x2) * ((X - C x1) * w2) = (X - C x2) * (C c * (Y - C y1)) := ar_u5 a2 b2
    rw [it_cn J (pX _) (p5 _ _ (pX _) b1) (p5 _ _ (p1 _) (pY _)) (d4 _ _ (d1 _)) this, q2, it_neg J]
    grind
/-- R is the sum of S and T by the rules of chords and tangents -/
def ADD [Lean.Grind.Field F] (a4 : F) (S T R : Option (F × F)) : Prop :=
  (S = none ∧ R = T) ∨ (T = none ∧ R = S) ∨ ∃ x1 y1 x2 y2, S = some (x1, y1) ∧ T = some (x2, y2) ∧
    ((x1 = x2 ∧ y2 = -y1 ∧ R = none) ∨ ∃ l, ((x1 = x2 ∧ y1 = y2 ∧ l * (y1 + y1) = 3 * (x1 * x1) + a4) ∨ (x1 ≠ x2 ∧ l * (x2 - x1) = y2 - y1)) ∧ R = some (l * l - x1 - x2, l * (x1 - (l * l - x1 - x2)) - y1))
/-- on the curve -/
def OC [Lean.Grind.Field F] (a4 a6 : F) (S : Option (F × F)) : Prop := ∀ x y, S = some (x, y) → y * y = x * x * x + a4 * x + a6
theorem ar_ch [Lean.Grind.Field F] {x1 y1 x2 y2 l a4 a6 : F} (h1 : y1 * y1 = x1 * x1 * x1 + a4 * x1 + a6) (h2 : y2 * y2 = x2 * x2 * x2 + a4 * x2 + a6) (h : (x1 = x2 ∧ y1 = y2 ∧ l * (y1 + y1) = 3 * (x1 * x1) + a4) ∨ (x1 ≠ x2 ∧ l * (x2 - x1) = y2 - y1)) :
    y2 = l * x2 + (y1 - l * x1) ∧ x1 * x2 + x1 * (l * l - x1 - x2) + x2 * (l * l - x1 - x2) = a4 - l * (y1 - l * x1) - l * (y1 - l * x1) ∧ x1 * x2 * (l * l - x1 - x2) = (y1 - l * x1) * (y1 - l * x1) - a6 := by
  rcases h with ⟨rfl, rfl, h3⟩ | ⟨z, h3⟩
  · refine ⟨by grind, by grind, by grind⟩
  · have z' : x2 - x1 ≠ 0 := by grind
    have e1 : y2 = l * x2 + (y1 - l * x1) := by grind
    have e2 : x1 * x2 + x1 * (l * l - x1 - x2) + x2 * (l * l - x1 - x2) - (a4 - l * (y1 - l * x1) - l * (y1 - l * x1)) = 0 := by
      have : (x2 - x1) * (x1 * x2 + x1 * (l * l - x1 - x2) + x2 * (l * l - x1 - x2) - (a4 - l * (y1 - l * x1) - l * (y1 - l * x1))) = 0 := by grind
      grind
    refine ⟨e1, by grind, by grind⟩
theorem ad_eq [Lean.Grind.Field F] [Lean.Grind.CommRing A] (I : Itf C X Y a4 a6 Pl dN) (h2 : (2 : F) ≠ 0) (hr : ∀ x : F, x * x * x + a4 * x + a6 ≠ 0) {S T R : Option (F × F)} (hS : OC a4 a6 S) (hT : OC a4 a6 T) (h : ADD a4 S T R) : OC a4 a6 R ∧ EQ C X Y Pl (S.toList ++ T.toList) R.toList := by
  rcases h with ⟨rfl, rfl⟩ | ⟨rfl, rfl⟩ | ⟨x1, y1, x2, y2, rfl, rfl, h⟩
  · exact ⟨hT, eq_rf I _⟩
  · refine ⟨hS, ?_⟩
    show EQ C X Y Pl (R.toList ++ []) _
    rw [List.append_nil]
    exact eq_rf I _
  · have c1 := hS x1 y1 rfl
    have c2 := hT x2 y2 rfl
    have z1 : y1 ≠ 0 := by have := hr x1; grind
    have z2 : y2 ≠ 0 := by have := hr x2; grind
    rcases h with ⟨rfl, rfl, rfl⟩ | ⟨l, h, rfl⟩
    · refine ⟨fun x y e => by simp at e, ?_⟩
      exact eq_neg I h2 c1 z1 []
    · obtain ⟨g1, g2, g3⟩ := ar_ch c1 c2 h
      generalize hx3 : l * l - x1 - x2 = x3 at *
      have g4 : x1 + x2 + x3 = l * l := by grind
      have c3 : (l * (x1 - x3) - y1) * (l * (x1 - x3) - y1) = x3 * x3 * x3 + a4 * x3 + a6 := by grind
      refine ⟨fun x y e => ?_, ?_⟩
      · have : x3 = x ∧ l * (x1 - x3) - y1 = y := by simpa using e
        obtain ⟨rfl, rfl⟩ := this
        exact c3
      · have k1 := eq_line I h2 c1 c2 z1 z2 (l := l) (m := y1 - l * x1) (x3 := x3) (y3 := y1 - l * (x1 - x3)) (by grind) g1 (by grind) g4 g2 g3 [(x3, l * (x1 - x3) - y1)]
        have z3 : y1 - l * (x1 - x3) ≠ 0 := by have := hr x3; grind
        have k2 := eq_neg I h2 (x := x3) (y := y1 - l * (x1 - x3)) (by grind) z3 []
        rw [show -(y1 - l * (x1 - x3)) = l * (x1 - x3) - y1 by grind] at k2
        have k3 := eq_cons (x1, y1) (eq_cons (x2, y2) k2)
        exact eq_tr I (eq_sy k3) k1
theorem uq_s [Lean.Grind.Field F] [Lean.Grind.CommRing A] (I : Itf C X Y a4 a6 Pl dN) (h2 : (2 : F) ≠ 0) (hr : ∀ x : F, x * x * x + a4 * x + a6 ≠ 0) {S T : Option (F × F)} (hS : OC a4 a6 S) (hT : OC a4 a6 T) (h : EQ C X Y Pl S.toList T.toList) : S = T := by
  rcases S with _ | ⟨x1, y1⟩
  · rcases T with _ | ⟨x2, y2⟩
    · rfl
    · exact (uq_o I (hT x2 y2 rfl) (eq_sy h)).elim
  · rcases T with _ | ⟨x2, y2⟩
    · exact (uq_o I (hS x1 y1 rfl) h).elim
    · have c1 := hS x1 y1 rfl
      have c2 := hT x2 y2 rfl
      obtain ⟨rfl, rfl⟩ := uq_p I h2 c1 c2 (by have := hr x2; grind) h
      rfl
end UQ
