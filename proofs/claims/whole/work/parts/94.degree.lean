/-! DEGREES; the ring of functions on the curve, and what the group law needs of it -/
def Dg {F : Type} [Lean.Grind.Field F] (a : Nat → F) (n : Nat) : Prop := a n ≠ 0 ∧ ∀ k, n < k → a k = 0
theorem Dg.uq {F : Type} [Lean.Grind.Field F] {a : Nat → F} {n m : Nat} (h : Dg a n) (k : Dg a m) : n = m := by
  rcases Nat.lt_trichotomy n m with z | z | z
  · exact absurd (h.2 m z) k.1
  · exact z
  · exact absurd (k.2 n z) h.1
theorem cvl_hi {F : Type} [Lean.Grind.Field F] {b : Nat → F} {m : Nat} (hb : ∀ k, m < k → b k = 0) : ∀ (n : Nat) (a : Nat → F), (∀ k, n < k → a k = 0) → cvl a b (n + m) = a n * b m ∧ ∀ k, n + m < k → cvl a b k = 0
  | 0, a, ha => by
    refine ⟨by rw [cvl_c _ a b ha, Nat.zero_add], fun k hk => ?_⟩
    rw [cvl_c _ a b ha, hb k (by omega)]; grind
  | n + 1, a, ha => by
    obtain ⟨i1, i2⟩ := cvl_hi hb n (fun k => a (k + 1)) (fun k hk => ha (k + 1) (by omega))
    constructor
    · rw [show n + 1 + m = (n + m) + 1 by omega]
      show a 0 * b (n + m + 1) + cvl (fun k => a (k + 1)) b (n + m) = _
      rw [hb _ (by omega), i1]; grind
    · intro k hk
      cases k with
      | zero => omega
      | succ k =>
        show a 0 * b (k + 1) + cvl (fun k => a (k + 1)) b k = 0
        rw [hb _ (by omega), i2 k (by omega)]; grind
theorem Dg.mul {F : Type} [Lean.Grind.Field F] {a b : Nat → F} {n m : Nat} (h : Dg a n) (k : Dg b m) : Dg (cvl a b) (n + m) := by
  obtain ⟨i1, i2⟩ := cvl_hi k.2 n a h.2
  refine ⟨?_, i2⟩
  rw [i1]
  have := h.1
  have := k.1
  grind
def Fn {F : Type} [Lean.Grind.Field F] (a : Nat → F) : Prop := ∃ n, ∀ k, n ≤ k → a k = 0
theorem Fn.dg {F : Type} [Lean.Grind.Field F] {a : Nat → F} (h : Fn a) : (∀ k, a k = 0) ∨ ∃ n, Dg a n := by
  obtain ⟨n, h⟩ := h
  induction n with
  | zero => exact Or.inl (fun k => h k (Nat.zero_le _))
  | succ n ih =>
    by_cases z : a n = 0
    · exact ih (fun k hk => by
        by_cases y : k = n
        · rw [y]; exact z
        · exact h k (by omega))
    · exact Or.inr ⟨n, z, fun k hk => h k (by omega)⟩
theorem Fn.add {F : Type} [Lean.Grind.Field F] {a b : Nat → F} (h : Fn a) (k : Fn b) : Fn (fun i => a i + b i) := by
  obtain ⟨n, h⟩ := h
  obtain ⟨m, k⟩ := k
  exact ⟨n + m, fun i hi => by show a i + b i = 0; rw [h i (by omega), k i (by omega)]; grind⟩
theorem Fn.mul {F : Type} [Lean.Grind.Field F] {a b : Nat → F} (h : Fn a) (k : Fn b) : Fn (cvl a b) := by
  obtain ⟨n, h⟩ := h
  obtain ⟨m, k⟩ := k
  exact ⟨n + m + 1, fun i hi => (cvl_hi (m := m) (fun k' hk => k k' (by omega)) n a (fun k hk => h k (by omega))).2 i (by omega)⟩
def fpl {F : Type} [Lean.Grind.Field F] (a4 a6 : F) : Nat → F := fun k => if k = 0 then a6 else if k = 1 then a4 else if k = 3 then 1 else 0
def xp {F : Type} [Lean.Grind.Field F] : Nat → F := fun k => if k = 1 then 1 else 0
theorem fp_dg {F : Type} [Lean.Grind.Field F] (a4 a6 : F) : Dg (fpl a4 a6) 3 := by
  refine ⟨?_, fun k hk => ?_⟩
  · show (1 : F) ≠ 0
    exact fun e => Lean.Grind.Field.zero_ne_one e.symm
  · show (if k = 0 then a6 else if k = 1 then a4 else if k = 3 then (1 : F) else 0) = 0
    rw [if_neg (by omega), if_neg (by omega), if_neg (by omega)]
def nr {F : Type} [Lean.Grind.Field F] (f : Nat → F) (u : (Nat → F) × (Nat → F)) : Nat → F := fun k => cvl u.1 u.1 k + - cvl (cvl u.2 u.2) f k
def dn {F : Type} [Lean.Grind.Field F] (a4 a6 : F) (u : (Nat → F) × (Nat → F)) (n : Nat) : Prop := Dg (nr (fpl a4 a6) u) n
theorem dn_a {F : Type} [Lean.Grind.Field F] {a4 a6 : F} {a b : Nat → F} {n : Nat} (h : Dg a n) (hb : (∀ k, b k = 0) ∨ ∃ m, Dg b m ∧ m + m + 3 < n + n) : dn a4 a6 (a, b) (n + n) := by
  have h1 := h.mul h
  have h2 : ∀ k, n + n ≤ k → cvl (cvl b b) (fpl a4 a6) k = 0 := by
    rcases hb with hb | ⟨m, hb, hm⟩
    · intro k _
      exact cvl_0 _ _ _ (fun k => cvl_0 _ _ _ hb)
    · intro k hk
      exact ((hb.mul hb).mul (fp_dg a4 a6)).2 k (by omega)
  refine ⟨?_, fun k hk => ?_⟩
  · show cvl a a (n + n) + - cvl (cvl b b) (fpl a4 a6) (n + n) ≠ 0
    rw [h2 _ (Nat.le_refl _)]
    have := h1.1
    grind
  · show cvl a a k + - cvl (cvl b b) (fpl a4 a6) k = 0
    rw [h2 _ (by omega), h1.2 k hk]
    grind
theorem dn_b {F : Type} [Lean.Grind.Field F] {a4 a6 : F} {a b : Nat → F} {m : Nat} (h : Dg b m) (ha : (∀ k, a k = 0) ∨ ∃ n, Dg a n ∧ n + n < m + m + 3) : dn a4 a6 (a, b) (m + m + 3) := by
  have h1 := (h.mul h).mul (fp_dg a4 a6)
  have h2 : ∀ k, m + m + 3 ≤ k → cvl a a k = 0 := by
    rcases ha with ha | ⟨n, ha, hn⟩
    · intro k _
      exact cvl_0 _ _ _ ha
    · intro k hk
      exact (ha.mul ha).2 k (by omega)
  refine ⟨?_, fun k hk => ?_⟩
  · show cvl a a (m + m + 3) + - cvl (cvl b b) (fpl a4 a6) (m + m + 3) ≠ 0
    rw [h2 _ (Nat.le_refl _)]
    have := h1.1
    grind
  · show cvl a a k + - cvl (cvl b b) (fpl a4 a6) k = 0
    rw [h2 _ (by omega), h1.2 k hk]
    grind
theorem dn_cl {F : Type} [Lean.Grind.Field F] {a4 a6 : F} {a b : Nat → F} (ha : Fn a) (hb : Fn b) : ((∀ k, a k = 0) ∧ ∀ k, b k = 0) ∨ (∃ n, Dg a n ∧ dn a4 a6 (a, b) (n + n) ∧ ((∀ k, b k = 0) ∨ ∃ m, Dg b m ∧ m + m + 3 < n + n)) ∨ ∃ m, Dg b m ∧ dn a4 a6 (a, b) (m + m + 3) := by
  rcases ha.dg with za | ⟨n, da⟩
  · rcases hb.dg with zb | ⟨m, db⟩
    · exact Or.inl ⟨za, zb⟩
    · exact Or.inr (Or.inr ⟨m, db, dn_b db (Or.inl za)⟩)
  · rcases hb.dg with zb | ⟨m, db⟩
    · exact Or.inr (Or.inl ⟨n, da, dn_a da (Or.inl zb), Or.inl zb⟩)
    · by_cases z : m + m + 3 < n + n
      · exact Or.inr (Or.inl ⟨n, da, dn_a da (Or.inr ⟨m, db, z⟩), Or.inr ⟨m, db, z⟩⟩)
      · exact Or.inr (Or.inr ⟨m, db, dn_b db (Or.inr ⟨n, da, by omega⟩)⟩)
def PL {F : Type} [Lean.Grind.Field F] (u : (Nat → F) × (Nat → F)) : Prop := Fn u.1 ∧ Fn u.2
def CA {F : Type} [Lean.Grind.Field F] (a4 a6 : F) : Lean.Grind.CommRing ((Nat → F) × (Nat → F)) := @prR _ psR (fpl a4 a6)
def cc {F : Type} [Lean.Grind.Field F] (c : F) : (Nat → F) × (Nat → F) := (pcf c, fun _ => 0)
def cX {F : Type} [Lean.Grind.Field F] : (Nat → F) × (Nat → F) := (xp, fun _ => 0)
def cY {F : Type} [Lean.Grind.Field F] : (Nat → F) × (Nat → F) := (fun _ => 0, pcf 1)
theorem pc_fn {F : Type} [Lean.Grind.Field F] (c : F) : Fn (pcf c) := ⟨1, fun k hk => pc_0 c hk⟩
theorem z_fn {F : Type} [Lean.Grind.Field F] : Fn (fun _ : Nat => (0 : F)) := ⟨0, fun _ _ => rfl⟩
theorem xp_fn {F : Type} [Lean.Grind.Field F] : Fn (xp : Nat → F) := ⟨2, fun k hk => if_neg (by omega)⟩
theorem z_cvl {F : Type} [Lean.Grind.Field F] (b : Nat → F) (n : Nat) : cvl (fun _ => 0) b n = 0 := cvl_0 n _ b (fun _ => rfl)
theorem cvl_z {F : Type} [Lean.Grind.Field F] (b : Nat → F) (n : Nat) : cvl b (fun _ => 0) n = 0 := by rw [cvl_comm, z_cvl]
theorem pc_cvl {F : Type} [Lean.Grind.Field F] (c : F) (b : Nat → F) (n : Nat) : cvl (pcf c) b n = c * b n := cvl_c n (pcf c) b (fun _ hk => pc_0 c hk)
theorem xp_cvl {F : Type} [Lean.Grind.Field F] (b : Nat → F) : ∀ n, cvl xp b n = if n = 0 then 0 else b (n - 1)
  | 0 => by show (0 : F) * b 0 = 0; grind
  | n + 1 => by
    show (0 : F) * b (n + 1) + cvl (fun k => xp (k + 1)) b n = b n
    rw [cvl_c n (fun k => xp (k + 1)) b (fun k hk => if_neg (by omega))]
    show (0 : F) * b (n + 1) + 1 * b n = b n
    grind
/-- products in the ring of functions -/
theorem ca_mul {F : Type} [Lean.Grind.Field F] (a4 a6 : F) (u v : (Nat → F) × (Nat → F)) : @HMul.hMul _ _ _ (@instHMul _ (CA a4 a6).toMul) u v = (fun k => cvl u.1 v.1 k + cvl (cvl u.2 v.2) (fpl a4 a6) k, fun k => cvl u.1 v.2 k + cvl u.2 v.1 k) := rfl
theorem cc_cc {F : Type} [Lean.Grind.Field F] (a4 a6 : F) (c : F) (v : (Nat → F) × (Nat → F)) : @HMul.hMul _ _ _ (@instHMul _ (CA a4 a6).toMul) (cc c) v = (fun k => c * v.1 k, fun k => c * v.2 k) := by
  rw [ca_mul]
  refine Prod.ext (funext fun k => ?_) (funext fun k => ?_)
  · show cvl (pcf c) v.1 k + cvl (cvl (fun _ => 0) v.2) (fpl a4 a6) k = c * v.1 k
    rw [pc_cvl, cvl_0 k _ _ (fun j => z_cvl v.2 j)]; grind
  · show cvl (pcf c) v.2 k + cvl (fun _ => 0) v.1 k = c * v.2 k
    rw [pc_cvl, z_cvl]; grind
theorem nr_m {F : Type} [Lean.Grind.Field F] (a4 a6 : F) (u v : (Nat → F) × (Nat → F)) : nr (fpl a4 a6) (@HMul.hMul _ _ _ (@instHMul _ (CA a4 a6).toMul) u v) = cvl (nr (fpl a4 a6) u) (nr (fpl a4 a6) v) :=
  @nr_mul _ psR (fpl a4 a6) u.1 u.2 v.1 v.2
theorem ca_00 {F : Type} [Lean.Grind.Field F] (a4 a6 : F) (a b : Nat → F) : @HMul.hMul _ _ _ (@instHMul _ (CA a4 a6).toMul) (a, fun _ => 0) (b, fun _ => 0) = (cvl a b, fun _ => 0) := by
  rw [ca_mul]
  refine Prod.ext (funext fun k => ?_) (funext fun k => ?_)
  · show cvl a b k + cvl (cvl (fun _ => 0) (fun _ => 0)) (fpl a4 a6) k = cvl a b k
    rw [cvl_0 k _ _ (fun j => z_cvl _ j)]; grind
  · show cvl a (fun _ => 0) k + cvl (fun _ => 0) b k = 0
    rw [cvl_z, z_cvl]; grind
theorem fp_x {F : Type} [Lean.Grind.Field F] (a4 a6 : F) (k : Nat) : fpl a4 a6 k = cvl (cvl xp xp) xp k + a4 * xp k + pcf a6 k := by
  rw [cvl_ass, xp_cvl]
  by_cases z0 : k = 0
  · subst z0
    show a6 = 0 + a4 * 0 + a6
    grind
  · by_cases z1 : k = 1
    · subst z1
      show a4 = 0 * 0 + a4 * 1 + 0
      grind
    · rw [if_neg z0, xp_cvl, if_neg (by omega)]
      show (if k = 0 then a6 else if k = 1 then a4 else if k = 3 then (1 : F) else 0) = (if k - 1 - 1 = 1 then 1 else 0) + a4 * (if k = 1 then 1 else 0) + (if k = 0 then a6 else 0)
      rw [if_neg z0, if_neg z1, if_neg z1, if_neg z0]
      by_cases z3 : k = 3
      · rw [if_pos z3, if_pos (by omega)]; grind
      · rw [if_neg z3, if_neg (by omega)]; grind
theorem cl_1 {F : Type} [Lean.Grind.Field F] (f : Nat → F) (k : Nat) : cvl (cvl (pcf 1) (pcf 1)) f k = f k := by
  rw [cvl_ass, pc_cvl, pc_cvl]; grind
theorem nr_0 {F : Type} [Lean.Grind.Field F] {f : Nat → F} {u : (Nat → F) × (Nat → F)} (z1 : ∀ k, u.1 k = 0) (z2 : ∀ k, u.2 k = 0) (n : Nat) : nr f u n = 0 := by
  show cvl u.1 u.1 n + - cvl (cvl u.2 u.2) f n = 0
  rw [cvl_0 _ _ _ z1, cvl_0 _ _ _ (fun k => cvl_0 _ _ _ z2)]
  grind
theorem itf {F : Type} [Lean.Grind.Field F] (a4 a6 : F) : @Itf F _ _ (CA a4 a6) cc cX cY a4 a6 PL (dn a4 a6) := by
  refine ⟨⟨?_, ?_, ?_, ?_, ?_⟩, ⟨?_, ?_, ?_, ?_, ?_, ?_⟩, ⟨?_, ?_, ?_, ?_⟩, ⟨?_, ?_⟩, ⟨?_, ?_, ?_, ?_⟩⟩
  · intro a b
    refine Prod.ext (funext fun k => ?_) (funext fun k => ?_)
    · show (if k = 0 then a + b else 0) = (if k = 0 then a else 0) + (if k = 0 then b else 0)
      split <;> grind
    · show (0 : F) = 0 + 0
      grind
  · intro a b
    rw [cc_cc]
    refine Prod.ext (funext fun k => ?_) (funext fun k => ?_)
    · show (if k = 0 then a * b else 0) = a * (if k = 0 then b else 0)
      split <;> grind
    · show (0 : F) = a * 0
      grind
  · refine Prod.ext (funext fun k => ?_) (funext fun k => ?_)
    · show pcf (1 : F) k = 0 + (0 + pcf (1 : F) k)
      grind
    · show (0 : F) = 0 + 0
      grind
  · refine Prod.ext (funext fun k => ?_) (funext fun k => ?_)
    · show (if k = 0 then (0 : F) else 0) = 0
      split <;> rfl
    · rfl
  · have e1 : @HMul.hMul _ _ _ (@instHMul _ (CA a4 a6).toMul) (@HMul.hMul _ _ _ (@instHMul _ (CA a4 a6).toMul) cX cX) cX = (cvl (cvl xp xp) (xp : Nat → F), fun _ => (0 : F)) := by
      rw [show (cX : (Nat → F) × (Nat → F)) = (xp, fun _ => 0) from rfl, ca_00, ca_00]
    rw [e1, cc_cc, ca_mul]
    refine Prod.ext (funext fun k => ?_) (funext fun k => ?_)
    · show cvl (fun _ => 0) (fun _ => 0) k + cvl (cvl (pcf 1) (pcf 1)) (fpl a4 a6) k = cvl (cvl xp xp) xp k + a4 * xp k + pcf a6 k
      rw [z_cvl, cl_1, fp_x]; grind
    · show cvl (fun _ => 0) (pcf 1) k + cvl (pcf 1) (fun _ => 0) k = 0 + a4 * 0 + 0
      rw [z_cvl, cvl_z]; grind
  · exact fun c => ⟨pc_fn c, z_fn⟩
  · exact ⟨xp_fn, z_fn⟩
  · exact ⟨z_fn, pc_fn 1⟩
  · exact fun u v h1 h2 => ⟨h1.1.add h2.1, h1.2.add h2.2⟩
  · exact fun u v h1 h2 => ⟨(h1.1.mul h2.1).add ((h1.2.mul h2.2).mul ⟨4, fun k hk => (fp_dg a4 a6).2 k hk⟩), (h1.1.mul h2.2).add (h1.2.mul h2.1)⟩
  · intro u v hu hv h
    rcases dn_cl (a4 := a4) (a6 := a6) hu.1 hu.2 with ⟨z1, z2⟩ | hu'
    · exact Or.inl (Prod.ext (funext z1) (funext z2))
    · rcases dn_cl (a4 := a4) (a6 := a6) hv.1 hv.2 with ⟨z1, z2⟩ | hv'
      · exact Or.inr (Prod.ext (funext z1) (funext z2))
      · exfalso
        obtain ⟨n, hn⟩ : ∃ n, dn a4 a6 u n := by
          rcases hu' with ⟨n, _, h, _⟩ | ⟨m, _, h⟩
          · exact ⟨_, h⟩
          · exact ⟨_, h⟩
        obtain ⟨m, hm⟩ : ∃ n, dn a4 a6 v n := by
          rcases hv' with ⟨n, _, h, _⟩ | ⟨m, _, h⟩
          · exact ⟨_, h⟩
          · exact ⟨_, h⟩
        have h1 : Dg (nr (fpl a4 a6) (@HMul.hMul _ _ _ (@instHMul _ (CA a4 a6).toMul) u v)) (n + m) := by
          rw [nr_m]
          exact Dg.mul hn hm
        rw [h] at h1
        exact h1.1 (nr_0 (fun _ => rfl) (fun _ => rfl) _)
  · intro u hu hz
    rcases dn_cl (a4 := a4) (a6 := a6) hu.1 hu.2 with ⟨z1, z2⟩ | ⟨n, _, h, _⟩ | ⟨m, _, h⟩
    · exact absurd (Prod.ext (funext z1) (funext z2)) hz
    · exact ⟨_, h⟩
    · exact ⟨_, h⟩
  · exact fun u n m h1 h2 => h1.uq h2
  · intro u v n m h1 h2
    show Dg (nr (fpl a4 a6) _) (n + m)
    rw [nr_m]
    exact h1.mul h2
  · intro u hu h
    rcases dn_cl (a4 := a4) (a6 := a6) hu.1 hu.2 with ⟨z1, z2⟩ | ⟨n, _, h', _⟩ | ⟨m, _, h'⟩
    · exact h.1 (by show cvl u.1 u.1 1 + - cvl (cvl u.2 u.2) (fpl a4 a6) 1 = 0; rw [cvl_0 _ _ _ z1, cvl_0 _ _ _ (fun k => cvl_0 _ _ _ z2)]; grind)
    · have := h.uq h'; omega
    · have := h.uq h'; omega
  · intro u hu h
    rcases dn_cl (a4 := a4) (a6 := a6) hu.1 hu.2 with ⟨z1, z2⟩ | ⟨n, k1, h', k2⟩ | ⟨m, _, h'⟩
    · exact absurd (nr_0 z1 z2 _) h.1
    · have e := Dg.uq h h'
      have : n = 0 := by omega
      subst this
      refine ⟨u.1 0, k1.1, Prod.ext (funext fun k => ?_) (funext fun k => ?_)⟩
      · show u.1 k = if k = 0 then u.1 0 else 0
        by_cases z : k = 0
        · rw [if_pos z, z]
        · rw [if_neg z, k1.2 k (by omega)]
      · rcases k2 with k2 | ⟨m, _, k3⟩
        · exact k2 k
        · omega
    · have e := Dg.uq h h'
      omega
  · intro u hu h
    rcases dn_cl (a4 := a4) (a6 := a6) hu.1 hu.2 with ⟨z1, z2⟩ | ⟨n, k1, h', k2⟩ | ⟨m, _, h'⟩
    · exact absurd (nr_0 z1 z2 _) h.1
    · have e := Dg.uq h h'
      have : n = 1 := by omega
      subst this
      have i1 := Lean.Grind.Field.mul_inv_cancel k1.1
      refine ⟨u.1 1, - (u.1 0 * (u.1 1)⁻¹), k1.1, ?_⟩
      rw [cc_cc]
      refine Prod.ext (funext fun k => ?_) (funext fun k => ?_)
      · show u.1 k = u.1 1 * ((if k = 1 then 1 else 0) + -(if k = 0 then - (u.1 0 * (u.1 1)⁻¹) else 0))
        by_cases z : k = 0
        · rw [if_neg (by omega), if_pos z, z]; grind
        · by_cases y : k = 1
          · rw [if_pos y, if_neg z, y]; grind
          · rw [if_neg y, if_neg z, k1.2 k (by omega)]; grind
      · show u.2 k = u.1 1 * (0 + -0)
        rcases k2 with k2 | ⟨m, _, k3⟩
        · rw [k2 k]; grind
        · omega
    · have e := Dg.uq h h'
      omega
  · intro e
    refine dn_a (a := fun k => xp k + - pcf e k) (b := fun _ => (0 : F) + -0) (n := 1) ⟨?_, fun k hk => ?_⟩ (Or.inl fun k => ?_)
    · show (1 : F) + -0 ≠ 0
      have := (Lean.Grind.Field.zero_ne_one (α := F))
      grind
    · show (if k = 1 then (1 : F) else 0) + -(if k = 0 then e else 0) = 0
      rw [if_neg (by omega), if_neg (by omega)]; grind
    · grind
  · intro c d hc
    rw [cc_cc]
    refine dn_b (a := fun k => c * 0 + pcf d k) (b := fun k => c * pcf 1 k + 0) (m := 0) ⟨?_, fun k hk => ?_⟩ ?_
    · show c * 1 + 0 ≠ 0
      grind
    · show c * pcf 1 k + 0 = 0
      rw [pc_0 1 hk]; grind
    · by_cases z : d = 0
      · refine Or.inl fun k => ?_
        show c * 0 + (if k = 0 then d else 0) = 0
        rw [z]
        split <;> grind
      · refine Or.inr ⟨0, ⟨?_, fun k hk => ?_⟩, by omega⟩
        · show c * 0 + d ≠ 0
          grind
        · show c * 0 + pcf d k = 0
          rw [pc_0 d hk]; grind
  · intro c hc
    exact dn_a (a := pcf c) (b := fun _ => (0 : F)) (n := 0) ⟨hc, fun k hk => pc_0 c hk⟩ (Or.inl fun _ => rfl)
  · intro u n h e
    rw [e] at h
    exact h.1 (nr_0 (fun _ => rfl) (fun _ => rfl) _)
