/-! THE GROUP LAW by ideals: an abstract ring A (functions on the curve that have their poles at the neutral point alone), C the constants, X and Y the coordinates, Pl what counts as such a function, dN the degree of the norm -/
def Itf {F A : Type} [Lean.Grind.Field F] [Lean.Grind.CommRing A] (C : F → A) (X Y : A) (a4 a6 : F) (Pl : A → Prop) (dN : A → Nat → Prop) : Prop :=
  ((∀ a b, C (a + b) = C a + C b) ∧ (∀ a b, C (a * b) = C a * C b) ∧ C 1 = 1 ∧ C 0 = 0 ∧ Y * Y = X * X * X + C a4 * X + C a6) ∧
  ((∀ c, Pl (C c)) ∧ Pl X ∧ Pl Y ∧ (∀ u v, Pl u → Pl v → Pl (u + v)) ∧ (∀ u v, Pl u → Pl v → Pl (u * v)) ∧ (∀ u v, Pl u → Pl v → u * v = 0 → u = 0 ∨ v = 0)) ∧
  ((∀ u, Pl u → u ≠ 0 → ∃ n, dN u n) ∧ (∀ u n m, dN u n → dN u m → n = m) ∧ (∀ u v n m, dN u n → dN v m → dN (u * v) (n + m)) ∧ (∀ u, Pl u → ¬ dN u 1)) ∧
  ((∀ u, Pl u → dN u 0 → ∃ c, c ≠ 0 ∧ u = C c) ∧ (∀ u, Pl u → dN u 2 → ∃ c e, c ≠ 0 ∧ u = C c * (X - C e))) ∧
  ((∀ e, dN (X - C e) 2) ∧ (∀ c d, c ≠ 0 → dN (C c * Y + C d) 3) ∧ (∀ c, c ≠ 0 → dN (C c) 0) ∧ (∀ u n, dN u n → u ≠ 0))
def JJ {F A : Type} [Lean.Grind.Field F] [Lean.Grind.CommRing A] (C : F → A) (X Y : A) (Pl : A → Prop) : List (F × F) → A → Prop
  | [] => Pl
  | P :: D => fun u => ∃ v w, JJ C X Y Pl D v ∧ JJ C X Y Pl D w ∧ u = (X - C P.1) * v + (Y - C P.2) * w
def EQ {F A : Type} [Lean.Grind.Field F] [Lean.Grind.CommRing A] (C : F → A) (X Y : A) (Pl : A → Prop) (D D' : List (F × F)) : Prop :=
  ∃ s t, (Pl s ∧ Pl t ∧ s ≠ 0 ∧ t ≠ 0) ∧ (∀ u, JJ C X Y Pl D u → ∃ v, JJ C X Y Pl D' v ∧ s * u = t * v) ∧ (∀ v, JJ C X Y Pl D' v → ∃ u, JJ C X Y Pl D u ∧ s * u = t * v)
section ID
variable {F A : Type} {C : F → A} {X Y : A} {a4 a6 : F} {Pl : A → Prop} {dN : A → Nat → Prop}
theorem it_neg [Lean.Grind.Field F] [Lean.Grind.CommRing A] (I : Itf C X Y a4 a6 Pl dN) (a : F) : C (-a) = - C a := by
  obtain ⟨⟨h1, h2, h3, h4, h5⟩, _⟩ := I
  have := h1 (-a) a
  rw [show -a + a = (0 : F) by grind, h4] at this
  grind
theorem it_sub [Lean.Grind.Field F] [Lean.Grind.CommRing A] (I : Itf C X Y a4 a6 Pl dN) (a b : F) : C (a - b) = C a - C b := by
  have h1 := it_neg I b
  obtain ⟨⟨h2, _⟩, _⟩ := I
  have := h2 a (-b)
  rw [show a + -b = (a - b : F) by grind] at this
  grind
theorem it_10 [Lean.Grind.Field F] [Lean.Grind.CommRing A] (I : Itf C X Y a4 a6 Pl dN) : (1 : A) ≠ 0 := by
  obtain ⟨⟨_, _, h3, _⟩, _, _, _, _, _, h7, h8⟩ := I
  rw [← h3]
  exact h8 _ 0 (h7 1 (fun e => Lean.Grind.Field.zero_ne_one e.symm))
theorem it_p0 [Lean.Grind.Field F] [Lean.Grind.CommRing A] (I : Itf C X Y a4 a6 Pl dN) : Pl 0 := by
  obtain ⟨⟨_, _, _, h4, _⟩, ⟨p1, _⟩, _⟩ := I
  rw [← h4]; exact p1 0
theorem it_p1 [Lean.Grind.Field F] [Lean.Grind.CommRing A] (I : Itf C X Y a4 a6 Pl dN) : Pl 1 := by
  obtain ⟨⟨_, _, h3, _, _⟩, ⟨p1, _⟩, _⟩ := I
  rw [← h3]; exact p1 1
theorem it_pn [Lean.Grind.Field F] [Lean.Grind.CommRing A] (I : Itf C X Y a4 a6 Pl dN) {u : A} (h : Pl u) : Pl (-u) := by
  have e : -u = C (-1) * u := by
    have := it_neg I 1
    obtain ⟨⟨_, _, h3, _⟩, _⟩ := I
    grind
  obtain ⟨_, ⟨p1, p2, p3, p4, p5, p6⟩, _⟩ := I
  rw [e]; exact p5 _ _ (p1 _) h
theorem it_ps [Lean.Grind.Field F] [Lean.Grind.CommRing A] (I : Itf C X Y a4 a6 Pl dN) {u v : A} (h : Pl u) (h' : Pl v) : Pl (u - v) := by
  have e : u - v = u + -v := by grind
  rw [e]
  have := it_pn I h'
  obtain ⟨_, ⟨p1, p2, p3, p4, p5, p6⟩, _⟩ := I
  exact p4 _ _ h this
theorem jj_pl [Lean.Grind.Field F] [Lean.Grind.CommRing A] (I : Itf C X Y a4 a6 Pl dN) : ∀ (D : List (F × F)) (u : A), JJ C X Y Pl D u → Pl u
  | [], _, h => h
  | P :: D, u, ⟨v, w, h1, h2, h3⟩ => by
    have g1 := jj_pl I D v h1
    have g2 := jj_pl I D w h2
    have J := I
    obtain ⟨_, ⟨p1, p2, p3, p4, p5, p6⟩, _⟩ := I
    rw [h3]
    exact p4 _ _ (p5 _ _ (it_ps J p2 (p1 _)) g1) (p5 _ _ (it_ps J p3 (p1 _)) g2)
theorem jj_add [Lean.Grind.Field F] [Lean.Grind.CommRing A] (I : Itf C X Y a4 a6 Pl dN) : ∀ (D : List (F × F)) (u u' : A), JJ C X Y Pl D u → JJ C X Y Pl D u' → JJ C X Y Pl D (u + u')
  | [], u, u', h, h' => by obtain ⟨_, ⟨p1, p2, p3, p4, p5, p6⟩, _⟩ := I; exact p4 _ _ h h'
  | P :: D, u, u', ⟨v, w, h1, h2, h3⟩, ⟨v', w', h1', h2', h3'⟩ => ⟨v + v', w + w', jj_add I D _ _ h1 h1', jj_add I D _ _ h2 h2', by rw [h3, h3']; grind⟩
theorem jj_mul [Lean.Grind.Field F] [Lean.Grind.CommRing A] (I : Itf C X Y a4 a6 Pl dN) {a : A} (ha : Pl a) : ∀ (D : List (F × F)) (u : A), JJ C X Y Pl D u → JJ C X Y Pl D (a * u)
  | [], u, h => by obtain ⟨_, ⟨p1, p2, p3, p4, p5, p6⟩, _⟩ := I; exact p5 _ _ ha h
  | P :: D, u, ⟨v, w, h1, h2, h3⟩ => ⟨a * v, a * w, jj_mul I ha D _ h1, jj_mul I ha D _ h2, by rw [h3]; grind⟩
theorem jj_0 [Lean.Grind.Field F] [Lean.Grind.CommRing A] (I : Itf C X Y a4 a6 Pl dN) : ∀ (D : List (F × F)), JJ C X Y Pl D 0
  | [] => it_p0 I
  | P :: D => ⟨0, 0, jj_0 I D, jj_0 I D, by grind⟩
theorem jj_x [Lean.Grind.Field F] [Lean.Grind.CommRing A] (I : Itf C X Y a4 a6 Pl dN) {D : List (F × F)} {P : F × F} {u : A} (h : JJ C X Y Pl D u) : JJ C X Y Pl (P :: D) ((X - C P.1) * u) := ⟨u, 0, h, jj_0 I D, by grind⟩
theorem jj_y [Lean.Grind.Field F] [Lean.Grind.CommRing A] (I : Itf C X Y a4 a6 Pl dN) {D : List (F × F)} {P : F × F} {u : A} (h : JJ C X Y Pl D u) : JJ C X Y Pl (P :: D) ((Y - C P.2) * u) := ⟨0, u, jj_0 I D, h, by grind⟩
theorem jj_sub [Lean.Grind.Field F] [Lean.Grind.CommRing A] (I : Itf C X Y a4 a6 Pl dN) {D : List (F × F)} {P : F × F} {u : A} (h : JJ C X Y Pl (P :: D) u) : JJ C X Y Pl D u := by
  obtain ⟨v, w, h1, h2, h3⟩ := h
  have J := I
  obtain ⟨_, ⟨p1, p2, p3, p4, p5, p6⟩, _⟩ := I
  rw [h3]
  exact jj_add J D _ _ (jj_mul J (it_ps J p2 (p1 _)) D _ h1) (jj_mul J (it_ps J p3 (p1 _)) D _ h2)
theorem eq_rf [Lean.Grind.Field F] [Lean.Grind.CommRing A] (I : Itf C X Y a4 a6 Pl dN) (D : List (F × F)) : EQ C X Y Pl D D :=
  ⟨1, 1, ⟨it_p1 I, it_p1 I, it_10 I, it_10 I⟩, fun u h => ⟨u, h, rfl⟩, fun u h => ⟨u, h, rfl⟩⟩
theorem eq_sy [Lean.Grind.Field F] [Lean.Grind.CommRing A] {D D' : List (F × F)} (h : EQ C X Y Pl D D') : EQ C X Y Pl D' D := by
  obtain ⟨s, t, ⟨h1, h2, h3, h4⟩, h5, h6⟩ := h
  exact ⟨t, s, ⟨h2, h1, h4, h3⟩, fun u hu => by obtain ⟨v, a, b⟩ := h6 u hu; exact ⟨v, a, b.symm⟩, fun u hu => by obtain ⟨v, a, b⟩ := h5 u hu; exact ⟨v, a, b.symm⟩⟩
theorem it_m0 [Lean.Grind.Field F] [Lean.Grind.CommRing A] (I : Itf C X Y a4 a6 Pl dN) {u v : A} (h1 : Pl u) (h2 : Pl v) (h3 : u ≠ 0) (h4 : v ≠ 0) : u * v ≠ 0 := by
  obtain ⟨_, ⟨p1, p2, p3, p4, p5, p6⟩, _⟩ := I
  intro e
  rcases p6 u v h1 h2 e with q | q
  · exact h3 q
  · exact h4 q
theorem it_mm [Lean.Grind.Field F] [Lean.Grind.CommRing A] (I : Itf C X Y a4 a6 Pl dN) {u v : A} (h1 : Pl u) (h2 : Pl v) : Pl (u * v) := by
  obtain ⟨_, ⟨p1, p2, p3, p4, p5, p6⟩, _⟩ := I
  exact p5 _ _ h1 h2
theorem it_cn [Lean.Grind.Field F] [Lean.Grind.CommRing A] (I : Itf C X Y a4 a6 Pl dN) {u v w : A} (h1 : Pl u) (h2 : Pl v) (h3 : Pl w) (h0 : u ≠ 0) (e : u * v = u * w) : v = w := by
  have g := it_ps I h2 h3
  obtain ⟨_, ⟨p1, p2, p3, p4, p5, p6⟩, _⟩ := I
  rcases p6 u (v - w) h1 g (by grind) with q | q
  · exact absurd q h0
  · grind
theorem eq_tr [Lean.Grind.Field F] [Lean.Grind.CommRing A] (I : Itf C X Y a4 a6 Pl dN) {D D' D'' : List (F × F)} (h : EQ C X Y Pl D D') (k : EQ C X Y Pl D' D'') : EQ C X Y Pl D D'' := by
  obtain ⟨s, t, ⟨h1, h2, h3, h4⟩, h5, h6⟩ := h
  obtain ⟨s', t', ⟨k1, k2, k3, k4⟩, k5, k6⟩ := k
  refine ⟨s' * s, t * t', ⟨it_mm I k1 h1, it_mm I h2 k2, it_m0 I k1 h1 k3 h3, it_m0 I h2 k2 h4 k4⟩, fun u hu => ?_, fun w hw => ?_⟩
  · obtain ⟨v, a, b⟩ := h5 u hu
    obtain ⟨w, c, d⟩ := k5 v a
    exact ⟨w, c, by grind⟩
  · obtain ⟨v, a, b⟩ := k6 w hw
    obtain ⟨u, c, d⟩ := h6 v a
    exact ⟨u, c, by grind⟩
theorem eq_cons [Lean.Grind.Field F] [Lean.Grind.CommRing A] {D D' : List (F × F)} (P : F × F) (h : EQ C X Y Pl D D') : EQ C X Y Pl (P :: D) (P :: D') := by
  obtain ⟨s, t, hh, h5, h6⟩ := h
  refine ⟨s, t, hh, fun u hu => ?_, fun u hu => ?_⟩
  · obtain ⟨v, w, a1, a2, a3⟩ := hu
    obtain ⟨v', b1, b2⟩ := h5 v a1
    obtain ⟨w', c1, c2⟩ := h5 w a2
    exact ⟨_, ⟨v', w', b1, c1, rfl⟩, by rw [a3]; grind⟩
  · obtain ⟨v, w, a1, a2, a3⟩ := hu
    obtain ⟨v', b1, b2⟩ := h6 v a1
    obtain ⟨w', c1, c2⟩ := h6 w a2
    exact ⟨_, ⟨v', w', b1, c1, rfl⟩, by rw [a3]; grind⟩
theorem eq_swap [Lean.Grind.Field F] [Lean.Grind.CommRing A] (I : Itf C X Y a4 a6 Pl dN) (P Q : F × F) (D : List (F × F)) : EQ C X Y Pl (P :: Q :: D) (Q :: P :: D) := by
  have sw : ∀ (P Q : F × F) u, JJ C X Y Pl (P :: Q :: D) u → JJ C X Y Pl (Q :: P :: D) u := by
    intro P Q u hu
    obtain ⟨v, w, ⟨v1, v2, a1, a2, a3⟩, ⟨w1, w2, b1, b2, b3⟩, c⟩ := hu
    exact ⟨_, _, ⟨v1, w1, a1, b1, rfl⟩, ⟨v2, w2, a2, b2, rfl⟩, by rw [c, a3, b3]; grind⟩
  exact ⟨1, 1, ⟨it_p1 I, it_p1 I, it_10 I, it_10 I⟩, fun u h => ⟨u, sw P Q u h, rfl⟩, fun u h => ⟨u, sw Q P u h, rfl⟩⟩
theorem eq_perm [Lean.Grind.Field F] [Lean.Grind.CommRing A] (I : Itf C X Y a4 a6 Pl dN) {D D' : List (F × F)} (h : List.Perm D D') : EQ C X Y Pl D D' := by
  induction h with
  | nil => exact eq_rf I _
  | cons x _ ih => exact eq_cons x ih
  | swap x y l => exact eq_swap I y x l
  | trans _ _ a b => exact eq_tr I a b
theorem eq_app [Lean.Grind.Field F] [Lean.Grind.CommRing A] {D D' : List (F × F)} (h : EQ C X Y Pl D D') : ∀ E : List (F × F), EQ C X Y Pl (E ++ D) (E ++ D')
  | [] => h
  | P :: E => eq_cons P (eq_app h E)
theorem eq_app2 [Lean.Grind.Field F] [Lean.Grind.CommRing A] (I : Itf C X Y a4 a6 Pl dN) {D D' E E' : List (F × F)} (h : EQ C X Y Pl D D') (k : EQ C X Y Pl E E') : EQ C X Y Pl (D ++ E) (D' ++ E') :=
  eq_tr I (eq_app k D) (eq_tr I (eq_perm I List.perm_append_comm) (eq_tr I (eq_app h E') (eq_perm I List.perm_append_comm)))
end ID
