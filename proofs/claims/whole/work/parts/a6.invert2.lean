/-! the class's invert -/
section IV6
variable {m v : Nat} {li : Int} {F : Type} {φ : Nat → F}
theorem co_cv {t z a x : Nat} {h h' : HP} (o : CO m v li t z h h') (ha : CV v h a x) (na : a ≠ t) (n6 : a ≠ m + 6) (n7 : a ≠ m + 7) : CV v h' a x := by
  obtain ⟨A, a1, a2, a3⟩ := ha
  exact ⟨A, by rw [o.2.1.2 a (by simp; omega)]; exact a1, a2, a3⟩
theorem co_r {t z a : Nat} {h h' : HP} (o : CO m v li t z h h') (ha : ∃ G, h[a]? = some (pJ 9 G)) (n6 : a ≠ m + 6) (n7 : a ≠ m + 7) : ∃ G, h'[a]? = some (pJ 9 G) := by
  by_cases y : a = t
  · obtain ⟨G, g, _⟩ := o.2.2
    exact ⟨G, by rw [y]; exact g⟩
  · obtain ⟨G, g⟩ := ha
    exact ⟨G, by rw [o.2.1.2 a (by simp; omega)]; exact g⟩
theorem iv5_loop [Lean.Grind.Field F] (Z : ZF v φ) (hr : φ (2 ^ 261) ≠ 0) (hv : v < 2 ^ 256) (hv2 : 2 < v) {a x t : Nat} (na : a < m ∨ m + 9 ≤ a) (nt : t < m ∨ m + 9 ≤ t) : ∀ (i f : Nat) (h : HP) (w : Nat), i ≤ 256 → i < f → MOb m v li h → CV v h (m + 8) w → CV v h a x → (∃ G, h[t]? = some (pJ 9 G)) → ps φ w = ps φ x ^ ((v - 2) / 2 ^ i) →
    ∃ h' z, L_Mo_invert_15 f h m a t (nI i + (-1)) = some h' ∧ MOb m v li h' ∧ KP [m + 6, m + 7, m + 8, t] h h' ∧ CV v h' t z ∧ ps φ z = ps φ x ^ (v - 2) := by
  intro i
  induction i with
  | zero =>
    intro f h w hi hfu M hw ha ht hp
    cases f with
    | zero => omega
    | succ f =>
      obtain ⟨h', g1, g2⟩ := c_copy M (show MTo m t from by rcases nt with z | z; exact Or.inl z; exact Or.inr (by omega)) ht hw
      refine ⟨h', w, ?_, g2.1, g2.2.1.up (by simp), g2.2.2, ?_⟩
      · show B_Mo_invert_15 (L_Mo_invert_15 f) h m a t (nI 0 + (-1)) = _
        unfold B_Mo_invert_15
        rw [if_pos (show nI 0 + (-1) < 0 by decide), bs_ (gR_at M.1 rfl), bs_ g1]
      · rw [hp, Nat.pow_zero, Nat.div_one]
  | succ i ih =>
    intro f h w hi hfu M hw ha ht hp
    cases f with
    | zero => omega
    | succ f =>
      obtain ⟨h1, w1, g1, g2, g3⟩ := c_mul hv M (show MTo m (m + 8) from Or.inr (Nat.le_refl _)) (by obtain ⟨G, g, _⟩ := hw; exact ⟨G, g⟩) hw hw
      have p1 := ps_mul Z hr g3
      have M1 := g2.1
      have ha1 := co_cv g2 ha (by omega) (by omega) (by omega)
      have ht1 := co_r g2 ht (by omega) (by omega)
      obtain ⟨_, _, ⟨⟨G, e1, e2⟩, _⟩, _⟩ := M1
      obtain ⟨d, b1, b2⟩ := iv_bit e1 e2 (show i < 256 by omega)
      have hb : (v - 2) / 2 ^ i = (v - 2) / 2 ^ (i + 1) + (v - 2) / 2 ^ (i + 1) + (v - 2) / 2 ^ i % 2 := by
        have : (v - 2) / 2 ^ (i + 1) = (v - 2) / 2 ^ i / 2 := by rw [Nat.pow_succ, Nat.div_div_eq_div_mul]
        omega
      have nx : ∀ h', B_Mo_invert_69 (L_Mo_invert_15 f) h' m a t (nI i) = L_Mo_invert_15 f h' m a t (nI i + (-1)) := fun h' => rfl
      have st : L_Mo_invert_15 (f + 1) h m a t (nI (i + 1) + (-1)) = (if lg_cmp ((d >>> (Int32.toInt64 (nI i - nI i / 29 * 29) &&& 63)) &&& 1) 1 = 0 then bnd (P_Mo_multiply h1 m (m + 8) a (m + 8)) fun h15 => L_Mo_invert_15 f h15 m a t (nI i + (-1)) else L_Mo_invert_15 f h1 m a t (nI i + (-1))) := by
        show B_Mo_invert_15 (L_Mo_invert_15 f) h m a t (nI (i + 1) + (-1)) = _
        unfold B_Mo_invert_15
        rw [pk_m1, if_neg (nI_pos (by omega)), bs_ (gR_at M.1 rfl), bs_ (gR_at M.1 rfl), bs_ (gR_at M.1 rfl), os_ M.1, bs_ g1, bs_ (gR_at g2.1.1 rfl), bs_ b1, bs_ (gR_at g2.1.1 rfl), bs_ (gR_at g2.1.1 rfl), os_ g2.1.1]
        rfl
      rw [st]
      have q1 : ps φ w1 = ps φ x ^ ((v - 2) / 2 ^ (i + 1) + (v - 2) / 2 ^ (i + 1)) := by rw [p1, hp, ← Lean.Grind.Semiring.pow_add]
      by_cases z : (v - 2) / 2 ^ i % 2 = 1
      · rw [if_pos (b2.mpr z)]
        obtain ⟨h2, w2, j1, j2, j3⟩ := c_mul hv g2.1 (show MTo m (m + 8) from Or.inr (Nat.le_refl _)) (by obtain ⟨G, g, _⟩ := g2.2.2; exact ⟨G, g⟩) g2.2.2 ha1
        have p2 := ps_mul Z hr j3
        rw [bs_ j1]
        obtain ⟨h', y, k1, k2, k3, k4, k5⟩ := ih f h2 w2 (by omega) (by omega) j2.1 j2.2.2 (co_cv j2 ha1 (by omega) (by omega) (by omega)) (co_r j2 ht1 (by omega) (by omega)) (by
          rw [p2, q1, hb, z]
          exact (Lean.Grind.Semiring.pow_succ _ _).symm)
        exact ⟨h', y, k1, k2, (g2.2.1.up (by simp)).tr ((j2.2.1.up (by simp)).tr k3), k4, k5⟩
      · rw [if_neg (fun c => z (b2.mp c))]
        obtain ⟨h', y, k1, k2, k3, k4, k5⟩ := ih f h1 w1 (by omega) (by omega) g2.1 g2.2.2 ha1 ht1 (by
          rw [q1, show (v - 2) / 2 ^ i = (v - 2) / 2 ^ (i + 1) + (v - 2) / 2 ^ (i + 1) by omega])
        exact ⟨h', y, k1, k2, (g2.2.1.up (by simp)).tr k3, k4, k5⟩
theorem c_invert [Lean.Grind.Field F] (Z : ZF v φ) (hr : φ (2 ^ 261) ≠ 0) (hv : v < 2 ^ 256) (hv2 : 2 < v) {a x t : Nat} {h : HP} (na : a < m ∨ m + 9 ≤ a) (nt : t < m ∨ m + 9 ≤ t) (M : MOb m v li h) (ha : CV v h a x) (ht : ∃ G, h[t]? = some (pJ 9 G)) : ∃ h' z, P_Mo_invert h m a t = some h' ∧ MOb m v li h' ∧ KP [m + 6, m + 7, m + 8, t] h h' ∧ CV v h' t z ∧ ps φ z = ps φ x ^ (v - 2) := by
  obtain ⟨h1, g1, g2⟩ := c_copy M (show MTo m (m + 8) from Or.inr (Nat.le_refl _)) M.2.2.2.2.2 (cv_one (by omega) M)
  obtain ⟨h', z, k1, k2, k3, k4, k5⟩ := iv5_loop Z hr hv hv2 na nt 256 FU h1 _ (Nat.le_refl _) (by decide) g2.1 g2.2.2 (co_cv g2 ha (by omega) (by omega) (by omega)) (co_r g2 ht (by omega) (by omega)) (by
    rw [ps_one Z hr, Nat.div_eq_of_lt (show v - 2 < 2 ^ 256 by omega)]
    exact (Lean.Grind.Semiring.pow_zero _).symm)
  refine ⟨h', z, ?_, k2, (g2.2.1.up (by simp)).tr k3, k4, k5⟩
  unfold P_Mo_invert
  rw [bs_ (gR_at M.1 rfl), bs_ (gR_at M.1 rfl), bs_ g1]
  exact k1
/-- the power is the inverse -/
theorem fi_pw [Lean.Grind.Field F] (Z : ZF v φ) (hp : Pr v) (hv2 : 2 < v) (y : F) : (y ≠ 0 → y * y ^ (v - 2) = 1) ∧ (y = 0 → y ^ (v - 2) = 0) := by
  constructor
  · intro hy
    obtain ⟨e, he, rfl⟩ := Z.2.2.2.2 y
    rw [← zf_pw Z, ← Z.2.1, ← Z.2.2.1]
    refine (Z.2.2.2.1 _ _).mpr ?_
    have nd : ¬ v ∣ e := by
      intro d
      have : e = 0 := Nat.eq_zero_of_dvd_of_lt d he
      rw [this, zf_0 Z] at hy
      exact hy rfl
    rw [Nat.mul_comm, ← Nat.pow_succ, show (v - 2).succ = v - 1 by omega, fermat hp nd, Nat.mod_eq_of_lt (by omega)]
  · intro hy
    rw [hy, show v - 2 = (v - 3) + 1 by omega, Lean.Grind.Semiring.pow_succ, Lean.Grind.Semiring.mul_zero]
end IV6
