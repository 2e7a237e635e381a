/-! the class's numbers as an environment: place -> number; a Modulus object at m has its rows behind it -/
def LM (F : Nat → Int64) (v : Nat) : Prop := ZM 536870912 9 F v
def MOb (m v : Nat) (li : Int) (h : HP) : Prop :=
  h[m]? = some (pO 1 [.ref (m + 1), .ref (m + 2), .ref (m + 3), .ref (m + 4), .ref (m + 5), .long (lZ li), .ref (m + 6), .ref (m + 7), .ref (m + 8)]) ∧
  (∃ P, h[m + 1]? = some (pJ 9 P) ∧ LM P v ∧ ∀ e : Int, P 0 = lZ e → 0 ≤ e → e < 536870912 → (li * e + 1) % 536870912 = 0) ∧
  ((∃ F, h[m + 2]? = some (pJ 9 F) ∧ LM F (v - 2)) ∧ (∃ F, h[m + 3]? = some (pJ 9 F) ∧ LM F 1) ∧ (∃ F, h[m + 4]? = some (pJ 9 F) ∧ LM F (2 ^ 261 % v)) ∧ ∃ F, h[m + 5]? = some (pJ 9 F) ∧ LM F (2 ^ 522 % v)) ∧
  ((∃ W, h[m + 6]? = some (pJ 17 W)) ∧ (∃ S, h[m + 7]? = some (pJ 9 S)) ∧ ∃ Q, h[m + 8]? = some (pJ 9 Q))
/-- the rows R hold the numbers E, all below v -/
def CE (v : Nat) (R : Nat → Prop) (h : HP) (E : Nat → Nat) : Prop := ∀ k, R k → ∃ F, h[k]? = some (pJ 9 F) ∧ LM F (E k) ∧ E k < v
/-- the row at a holds x, below v -/
def CV (v : Nat) (h : HP) (a x : Nat) : Prop := ∃ F, h[a]? = some (pJ 9 F) ∧ LM F x ∧ x < v
/-- a place that Modulus may write for others -/
def MTo (m t : Nat) : Prop := t < m ∨ m + 8 ≤ t
section CN
variable {m v : Nat} {li : Int} {h : HP}
theorem mob_kp {h' : HP} {t : Nat} (M : MOb m v li h) (ht : MTo m t) (k : KP [m + 6, m + 7, t] h h') (c : (∃ W, h'[m + 6]? = some (pJ 17 W)) ∧ (∃ S, h'[m + 7]? = some (pJ 9 S)) ∧ ∃ F, h'[t]? = some (pJ 9 F)) : MOb m v li h' := by
  have kk : ∀ i, i ≤ 5 → h'[m + i]? = h[m + i]? := fun i hi => k.2 (m + i) (by simp; rcases ht with z | z <;> omega)
  have k0 : h'[m]? = h[m]? := k.2 m (by simp; rcases ht with z | z <;> omega)
  obtain ⟨m1, m2, ⟨m3, m4, m5, m6⟩, ⟨m7, m8, m9⟩⟩ := M
  refine ⟨by rw [k0]; exact m1, by rw [kk 1 (by omega)]; exact m2, ⟨by rw [kk 2 (by omega)]; exact m3, by rw [kk 3 (by omega)]; exact m4, by rw [kk 4 (by omega)]; exact m5, by rw [kk 5 (by omega)]; exact m6⟩, c.1, c.2.1, ?_⟩
  by_cases z : t = m + 8
  · rw [← z]; exact c.2.2
  · rw [k.2 (m + 8) (by simp; omega)]; exact m9
theorem ce_kp {R : Nat → Prop} {E : Nat → Nat} {h' : HP} {t z : Nat} (C : CE v R h E) (k : KP [m + 6, m + 7, t] h h') (hR : ∀ j, R j → j < m ∨ m + 9 ≤ j) (hF : CV v h' t z) : CE v R h' (up1 E t z) := by
  intro j hj
  have hj' := hR j hj
  by_cases y : j = t
  · subst y
    obtain ⟨F, f1, f2, f3⟩ := hF
    exact ⟨F, f1, by rw [up1_s]; exact f2, by rw [up1_s]; exact f3⟩
  · obtain ⟨G, g1, g2, g3⟩ := C j hj
    exact ⟨G, by rw [k.2 j (by simp; omega)]; exact g1, by rw [up1_n y]; exact g2, by rw [up1_n y]; exact g3⟩
/-- after a call that wrote t (and the Modulus's own rows) -/
def CO (m v : Nat) (li : Int) (t z : Nat) (h h' : HP) : Prop := MOb m v li h' ∧ KP [m + 6, m + 7, t] h h' ∧ CV v h' t z
theorem c_mul {a b t x y : Nat} (hv : v < 2 ^ 256) (M : MOb m v li h) (ht : MTo m t) (hr : ∃ F, h[t]? = some (pJ 9 F)) (ha : CV v h a x) (hb : CV v h b y) : ∃ h' z, P_Mo_multiply h m a b t = some h' ∧ CO m v li t z h h' ∧ z * 2 ^ 261 % v = x * y % v := by
  have M0 := M
  obtain ⟨m1, ⟨P, p1, p2, p3⟩, ⟨m3, m4, m5, m6⟩, ⟨⟨W, m7⟩, ⟨S, m8⟩, m9⟩⟩ := M
  obtain ⟨T, t1⟩ := hr
  obtain ⟨A, a1, a2, a3⟩ := ha
  obtain ⟨D, b1, b2, b3⟩ := hb
  have ht' := ht
  obtain ⟨h', z, g1, g2, g3, g4, T', g5, g6, g7, g8⟩ := e_mmul (m := m) (kp := m + 1) (kw := m + 6) (ks := m + 7) m1 rfl rfl rfl rfl t1 a1 b1 p1 m7 m8 (by omega) (by omega) (by omega) (by omega) (by omega) (by rcases ht with z | z <;> omega) (by rcases ht with z | z <;> omega) (by rcases ht with z | z <;> omega) (by rcases ht with z | z <;> omega) a2 b2 p2 a3 b3 hv p3
  exact ⟨h', z, g1, ⟨mob_kp M0 ht' g2 ⟨g3, g4, T', g5⟩, g2, T', g5, g6, g7⟩, g8⟩
theorem c_add {a b t x y : Nat} (hv : v < 2 ^ 256) (M : MOb m v li h) (ht : MTo m t) (hr : ∃ F, h[t]? = some (pJ 9 F)) (ha : CV v h a x) (hb : CV v h b y) : ∃ h' z, P_Mo_add h m a b t = some h' ∧ CO m v li t z h h' ∧ (x + y) % v = z := by
  have M0 := M
  obtain ⟨m1, ⟨P, p1, p2, p3⟩, ⟨m3, m4, m5, m6⟩, ⟨⟨W, m7⟩, ⟨S, m8⟩, m9⟩⟩ := M
  obtain ⟨T, t1⟩ := hr
  obtain ⟨A, a1, a2, a3⟩ := ha
  obtain ⟨D, b1, b2, b3⟩ := hb
  obtain ⟨h', g1, g2, g4, T', g5, g6⟩ := e_madd (m := m) (kp := m + 1) (ks := m + 7) m1 rfl rfl t1 a1 b1 p1 m8 (by omega) (by omega) (by rcases ht with z | z <;> omega) (by rcases ht with z | z <;> omega) (by rcases ht with z | z <;> omega) a2 b2 p2 a3 b3 hv
  have g2' : KP [m + 6, m + 7, t] h h' := g2.up (by simp)
  refine ⟨h', _, g1, ⟨mob_kp M0 ht g2' ⟨?_, g4, T', g5⟩, g2', T', g5, g6, Nat.mod_lt _ (by omega)⟩, rfl⟩
  rw [g2.2 (m + 6) (by simp; rcases ht with z | z <;> omega)]
  exact ⟨W, m7⟩
theorem c_sub {a b t x y : Nat} (hv : v < 2 ^ 256) (M : MOb m v li h) (ht : MTo m t) (hr : ∃ F, h[t]? = some (pJ 9 F)) (ha : CV v h a x) (hb : CV v h b y) : ∃ h' z, P_Mo_subtract h m a b t = some h' ∧ CO m v li t z h h' ∧ (x + (v - y)) % v = z := by
  have M0 := M
  obtain ⟨m1, ⟨P, p1, p2, p3⟩, ⟨m3, m4, m5, m6⟩, ⟨⟨W, m7⟩, ⟨S, m8⟩, m9⟩⟩ := M
  obtain ⟨T, t1⟩ := hr
  obtain ⟨A, a1, a2, a3⟩ := ha
  obtain ⟨D, b1, b2, b3⟩ := hb
  obtain ⟨T', g1, g6⟩ := e_msub (m := m) (kp := m + 1) m1 rfl t1 a1 b1 p1 (by rcases ht with z | z <;> omega) (by rcases ht with z | z <;> omega) a2 b2 p2 a3 b3 hv
  have g2' : KP [m + 6, m + 7, t] h (h.set t (pJ 9 T')) := KP.st (by simp)
  have nt : ∀ i, i < 8 → t ≠ m + i := fun i hi => by rcases ht with z | z <;> omega
  exact ⟨_, _, g1, ⟨mob_kp M0 ht g2' ⟨⟨W, hn_ (nt 6 (by omega)) m7⟩, ⟨S, hn_ (nt 7 (by omega)) m8⟩, T', hs_ t1⟩, g2', T', hs_ t1, g6, Nat.mod_lt _ (by omega)⟩, rfl⟩
theorem c_copy {a t x : Nat} (M : MOb m v li h) (ht : MTo m t) (hr : ∃ F, h[t]? = some (pJ 9 F)) (ha : CV v h a x) : ∃ h', P_Li_copy h a t = some h' ∧ CO m v li t x h h' := by
  obtain ⟨T, t1⟩ := hr
  obtain ⟨A, a1, a2, a3⟩ := ha
  have M0 := M
  obtain ⟨m1, ⟨P, p1, p2, p3⟩, ⟨m3, m4, m5, m6⟩, ⟨⟨W, m7⟩, ⟨S, m8⟩, m9⟩⟩ := M
  have cp := cpJ_at (h := h) (a := a) (b := t) (x := 0) (y := 0) (z := 9) 0 0 9 a1 t1 rfl rfl rfl (by decide) (by decide) (by decide) (by decide)
  have g2' : KP [m + 6, m + 7, t] h (h.set t (pJ 9 (va_cpy A T 0 0 9))) := KP.st (by simp)
  have nt : ∀ i, i < 8 → t ≠ m + i := fun i hi => by rcases ht with z | z <;> omega
  refine ⟨_, by unfold P_Li_copy; rw [bs_ cp], mob_kp M0 ht g2' ⟨⟨W, hn_ (nt 6 (by omega)) m7⟩, ⟨S, hn_ (nt 7 (by omega)) m8⟩, _, hs_ t1⟩, g2', _, hs_ t1, ?_, a3⟩
  exact ZM.eq a2 (fun k hk => by rw [pk_cpy_in (by omega) (by omega), Nat.zero_add, Nat.sub_zero])
theorem cv_one (hv : 1 < v) (M : MOb m v li h) : CV v h (m + 4) (2 ^ 261 % v) := by
  obtain ⟨_, _, ⟨_, _, ⟨F, f1, f2⟩, _⟩, _⟩ := M
  exact ⟨F, f1, f2, Nat.mod_lt _ (by omega)⟩
theorem cv_form (hv : 1 < v) (M : MOb m v li h) : CV v h (m + 5) (2 ^ 522 % v) := by
  obtain ⟨_, _, ⟨_, _, _, F, f1, f2⟩, _⟩ := M
  exact ⟨F, f1, f2, Nat.mod_lt _ (by omega)⟩
theorem cv_plain (hv : 1 < v) (M : MOb m v li h) : CV v h (m + 3) 1 := by
  obtain ⟨_, _, ⟨_, ⟨F, f1, f2⟩, _, _⟩, _⟩ := M
  exact ⟨F, f1, f2, hv⟩
theorem c_enter {a t x : Nat} (h1 : 1 < v) (hv : v < 2 ^ 256) (M : MOb m v li h) (ht : MTo m t) (hr : ∃ F, h[t]? = some (pJ 9 F)) (ha : CV v h a x) : ∃ h' z, P_Mo_enterForm h m a t = some h' ∧ CO m v li t z h h' ∧ z * 2 ^ 261 % v = x * (2 ^ 522 % v) % v := by
  obtain ⟨h', z, g1, g2, g3⟩ := c_mul hv M ht hr ha (cv_form h1 M)
  refine ⟨h', z, ?_, g2, g3⟩
  unfold P_Mo_enterForm
  rw [bs_ (gR_at M.1 rfl), os_ M.1, bs_ g1]
theorem c_leave {a t x : Nat} (h1 : 1 < v) (hv : v < 2 ^ 256) (M : MOb m v li h) (ht : MTo m t) (hr : ∃ F, h[t]? = some (pJ 9 F)) (ha : CV v h a x) : ∃ h' z, P_Mo_leaveForm h m a t = some h' ∧ CO m v li t z h h' ∧ z * 2 ^ 261 % v = x * 1 % v := by
  obtain ⟨h', z, g1, g2, g3⟩ := c_mul hv M ht hr ha (cv_plain h1 M)
  refine ⟨h', z, ?_, g2, g3⟩
  unfold P_Mo_leaveForm
  rw [bs_ (gR_at M.1 rfl), os_ M.1, bs_ g1]
theorem c_one {t : Nat} (h1 : 1 < v) (M : MOb m v li h) (ht : MTo m t) (hr : ∃ F, h[t]? = some (pJ 9 F)) : ∃ h', P_Mo_copyOne h m t = some h' ∧ CO m v li t (2 ^ 261 % v) h h' := by
  obtain ⟨h', g1, g2⟩ := c_copy M ht hr (cv_one h1 M)
  refine ⟨h', ?_, g2⟩
  unfold P_Mo_copyOne
  rw [bs_ (gR_at M.1 rfl), bs_ g1]
theorem c_above {a x : Nat} (M : MOb m v li h) (ha : ∃ F, h[a]? = some (pJ 9 F) ∧ LM F x) (na : a ≠ m + 7) : ∃ h', P_Mo_isAbove h m a = some (bi (decide (x < v)), h') ∧ MOb m v li h' ∧ KP [m + 7] h h' := by
  obtain ⟨A, a1, a2⟩ := ha
  have M0 := M
  obtain ⟨m1, ⟨P, p1, p2, p3⟩, ⟨m3, m4, m5, m6⟩, ⟨⟨W, m7⟩, ⟨S, m8⟩, m9⟩⟩ := M
  obtain ⟨S', c, g1, g2⟩ := e_lessPrime (m := m) (kp := m + 1) (ks := m + 7) m1 rfl rfl a1 p1 m8 (by omega) (by omega) (Ne.symm na) a2 p2
  have k : KP [m + 6, m + 7, m + 8] h (h.set (m + 7) (pJ 9 S')) := KP.st (by simp)
  obtain ⟨Q, q1⟩ := m9
  refine ⟨_, ?_, mob_kp M0 (Or.inr (Nat.le_refl _)) k ⟨⟨W, hn_ (by omega) m7⟩, ⟨S', hs_ m8⟩, Q, hn_ (by omega) q1⟩, KP.st (by simp)⟩
  unfold P_Mo_isAbove
  rw [os_ m1, bs2 g1]
  rcases g2 with ⟨rfl, hle, _⟩ | ⟨rfl, hlt⟩
  · rw [if_pos (show 0 ≤ lg_cmp (lZ 0) 0 by decide), decide_eq_false (by omega)]; rfl
  · rw [if_neg (show ¬ 0 ≤ lg_cmp (lZ (-1)) 0 by decide), decide_eq_true hlt]; rfl
end CN
