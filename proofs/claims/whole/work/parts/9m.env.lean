/-! the reference's numbers as an environment: offset -> number -/
def up1 (E : Nat → Nat) (t v : Nat) : Nat → Nat := fun i => if i = t then v else E i
theorem up1_s {E : Nat → Nat} {t v : Nat} : up1 E t v t = v := if_pos rfl
theorem up1_n {E : Nat → Nat} {t v i : Nat} (h : i ≠ t) : up1 E t v i = E i := if_neg h
/-- offset of a row that holds a number -/
def RO (i : Nat) : Prop := 13 ≤ i ∧ i ≤ 26
/-- the row at offset i of m holds a modulus, that at offset u its table -/
def MO2 (m u v : Nat) : Prop := (m = 6 ∧ u = 11 ∧ v = PP) ∨ (m = 7 ∧ u = 12 ∧ v = NN)
def RW (q : Nat) (h : HP) (E : Nat → Nat) : Prop :=
  (∀ i, RO i → ∃ F, h[q + i]? = some (pJ 16 F) ∧ NM F (E i)) ∧
  ((∃ F, h[q + 6]? = some (pJ 16 F) ∧ NM F PP) ∧ (∃ F, h[q + 7]? = some (pJ 16 F) ∧ NM F NN) ∧ (∃ F, h[q + 8]? = some (pJ 16 F) ∧ NM F BB) ∧ (∃ F, h[q + 9]? = some (pJ 16 F) ∧ NM F GX) ∧ (∃ F, h[q + 10]? = some (pJ 16 F) ∧ NM F GY)) ∧
  ((∃ U, h[q + 11]? = some (pJ 256 U) ∧ TT U PP) ∧ (∃ U, h[q + 12]? = some (pJ 256 U) ∧ TT U NN)) ∧
  ((∃ F, h[q + 31]? = some (pJ 32 F)) ∧ (∃ F, h[q + 32]? = some (pJ 18 F)) ∧ (∃ F, h[q + 33]? = some (pJ 16 F)) ∧ (∃ F, h[q + 34]? = some (pJ 16 F)) ∧ (∃ F, h[q + 35]? = some (pJ 17 F)) ∧ ∃ F, h[q + 36]? = some (pJ 17 F))
/-- nothing but the reference's number rows has changed -/
def RK (q : Nat) (h h' : HP) : Prop := h'.length = h.length ∧ ∀ j, ¬ (q + 13 ≤ j ∧ j ≤ q + 26) → ¬ (q + 31 ≤ j ∧ j ≤ q + 36) → h'[j]? = h[j]?
theorem RK.rf {q : Nat} {h : HP} : RK q h h := ⟨rfl, fun _ _ _ => rfl⟩
theorem RK.tr {q : Nat} {h h' h'' : HP} (a : RK q h h') (b : RK q h' h'') : RK q h h'' := ⟨b.1.trans a.1, fun j h1 h2 => (b.2 j h1 h2).trans (a.2 j h1 h2)⟩
theorem RK.kp {q : Nat} {h h' : HP} {S : List Nat} (k : KP S h h') (hS : ∀ j, j ∈ S → (q + 13 ≤ j ∧ j ≤ q + 26) ∨ (q + 31 ≤ j ∧ j ≤ q + 36)) : RK q h h' := ⟨k.1, fun j h1 h2 => k.2 j (fun m => by rcases hS j m with c | c; exact h1 c; exact h2 c)⟩
theorem RK.st {q i : Nat} {h : HP} {c : PE} (hi : RO i) : RK q h (h.set (q + i) c) := RK.kp (KP.st (S := [q + i]) (by simp)) (fun j hj => by
  have : j = q + i := by simpa using hj
  obtain ⟨a, b⟩ := hi
  omega)
theorem rw_set {q : Nat} {h : HP} {E : Nat → Nat} (R : RW q h E) {t v : Nat} (ht : RO t) {F : Nat → Int64} (hF : NM F v) : RW q (h.set (q + t) (pJ 16 F)) (up1 E t v) := by
  obtain ⟨r1, ⟨a1, a2, a3, a4, a5⟩, ⟨b1, b2⟩, ⟨c1, c2, c3, c4, c5, c6⟩⟩ := R
  obtain ⟨t1, t2⟩ := ht
  refine ⟨fun i hi => ?_, ⟨?_, ?_, ?_, ?_, ?_⟩, ⟨?_, ?_⟩, ⟨?_, ?_, ?_, ?_, ?_, ?_⟩⟩
  · obtain ⟨G, g1, g2⟩ := r1 i hi
    by_cases z : i = t
    · subst z
      exact ⟨F, hs_ g1, by rw [up1_s]; exact hF⟩
    · exact ⟨G, hn_ (by omega) g1, by rw [up1_n z]; exact g2⟩
  · obtain ⟨G, g1, g2⟩ := a1; exact ⟨G, hn_ (by omega) g1, g2⟩
  · obtain ⟨G, g1, g2⟩ := a2; exact ⟨G, hn_ (by omega) g1, g2⟩
  · obtain ⟨G, g1, g2⟩ := a3; exact ⟨G, hn_ (by omega) g1, g2⟩
  · obtain ⟨G, g1, g2⟩ := a4; exact ⟨G, hn_ (by omega) g1, g2⟩
  · obtain ⟨G, g1, g2⟩ := a5; exact ⟨G, hn_ (by omega) g1, g2⟩
  · obtain ⟨G, g1, g2⟩ := b1; exact ⟨G, hn_ (by omega) g1, g2⟩
  · obtain ⟨G, g1, g2⟩ := b2; exact ⟨G, hn_ (by omega) g1, g2⟩
  · obtain ⟨G, g1⟩ := c1; exact ⟨G, hn_ (by omega) g1⟩
  · obtain ⟨G, g1⟩ := c2; exact ⟨G, hn_ (by omega) g1⟩
  · obtain ⟨G, g1⟩ := c3; exact ⟨G, hn_ (by omega) g1⟩
  · obtain ⟨G, g1⟩ := c4; exact ⟨G, hn_ (by omega) g1⟩
  · obtain ⟨G, g1⟩ := c5; exact ⟨G, hn_ (by omega) g1⟩
  · obtain ⟨G, g1⟩ := c6; exact ⟨G, hn_ (by omega) g1⟩
/-- what keeps the rows at all -/
theorem rw_kp {q : Nat} {h h' : HP} {E : Nat → Nat} (R : RW q h E) {t v : Nat} (ht : RO t) {S : List Nat} (k : KP S h h') (hS : ∀ j, j ∈ S → j = q + t ∨ (q + 31 ≤ j ∧ j ≤ q + 36)) (hF : ∃ F, h'[q + t]? = some (pJ 16 F) ∧ NM F v) (c : (∃ F, h'[q + 31]? = some (pJ 32 F)) ∧ (∃ F, h'[q + 32]? = some (pJ 18 F)) ∧ (∃ F, h'[q + 33]? = some (pJ 16 F)) ∧ (∃ F, h'[q + 34]? = some (pJ 16 F)) ∧ (∃ F, h'[q + 35]? = some (pJ 17 F)) ∧ ∃ F, h'[q + 36]? = some (pJ 17 F)) : RW q h' (up1 E t v) := by
  obtain ⟨r1, ⟨a1, a2, a3, a4, a5⟩, ⟨b1, b2⟩, _⟩ := R
  obtain ⟨t1, t2⟩ := ht
  have kk : ∀ i, i ≠ t → i ≤ 30 → h'[q + i]? = h[q + i]? := fun i h1 h2 => k.2 (q + i) (fun m => by rcases hS _ m with z | z <;> omega)
  refine ⟨fun i hi => ?_, ⟨?_, ?_, ?_, ?_, ?_⟩, ⟨?_, ?_⟩, c⟩
  · by_cases z : i = t
    · subst z
      obtain ⟨F, f1, f2⟩ := hF
      exact ⟨F, f1, by rw [up1_s]; exact f2⟩
    · obtain ⟨G, g1, g2⟩ := r1 i hi
      exact ⟨G, by rw [kk i z (by have := hi.2; omega)]; exact g1, by rw [up1_n z]; exact g2⟩
  · rw [kk 6 (by omega) (by omega)]; exact a1
  · rw [kk 7 (by omega) (by omega)]; exact a2
  · rw [kk 8 (by omega) (by omega)]; exact a3
  · rw [kk 9 (by omega) (by omega)]; exact a4
  · rw [kk 10 (by omega) (by omega)]; exact a5
  · rw [kk 11 (by omega) (by omega)]; exact b1
  · rw [kk 12 (by omega) (by omega)]; exact b2
/-- the row at offset i, a number row or a constant one, holds v -/
def RV (q : Nat) (h : HP) (i v : Nat) : Prop := ∃ F, h[q + i]? = some (pJ 16 F) ∧ NM F v
theorem rv_i {q : Nat} {h : HP} {E : Nat → Nat} (R : RW q h E) {i : Nat} (hi : RO i) : RV q h i (E i) := R.1 i hi
theorem rv_m {q : Nat} {h : HP} {E : Nat → Nat} (R : RW q h E) {m u v : Nat} (hm : MO2 m u v) : RV q h m v := by
  rcases hm with ⟨rfl, _, rfl⟩ | ⟨rfl, _, rfl⟩
  · exact R.2.1.1
  · exact R.2.1.2.1
theorem w_copy {q : Nat} {h : HP} {E : Nat → Nat} (R : RW q h E) {t a x : Nat} (ht : RO t) (ha : RV q h a x) (hat : t ≠ a) : ∃ h', P_Rm_copy h (q + t) (q + a) = some h' ∧ RW q h' (up1 E t x) ∧ RK q h h' := by
  obtain ⟨T, t1, t2⟩ := R.1 t ht
  obtain ⟨A, a1, a2⟩ := ha
  obtain ⟨F', g1, g2, _⟩ := e_copy (show q + t ≠ q + a by omega) (Nat.le_refl 16) (Nat.le_refl 16) t1 a1 a2
  exact ⟨_, g1, rw_set R ht g2, RK.st ht⟩
theorem w_set {q : Nat} {h : HP} {E : Nat → Nat} (R : RW q h E) {t v : Nat} (ht : RO t) (hv : v < 2 ^ 16) : ∃ h', P_Rm_set h (q + t) (nI v) = some h' ∧ RW q h' (up1 E t v) ∧ RK q h h' := by
  obtain ⟨T, t1, t2⟩ := R.1 t ht
  obtain ⟨F', g1, g2, _⟩ := e_set (Nat.le_refl 16) hv t1
  exact ⟨_, g1, rw_set R ht g2, RK.st ht⟩
theorem w_zero {q : Nat} {h : HP} {a x : Nat} (ha : RV q h a x) : P_Rm_zero h (q + a) = some (bi (decide (x = 0)), h) := by
  obtain ⟨A, a1, a2⟩ := ha
  exact e_zero (Nat.le_refl 16) a1 a2
theorem w_below {q : Nat} {h : HP} {a b x y : Nat} (ha : RV q h a x) (hb : RV q h b y) : P_Rm_below h (q + a) (q + b) = some (bi (decide (x < y)), h) := by
  obtain ⟨A, a1, a2⟩ := ha
  obtain ⟨B, b1, b2⟩ := hb
  exact e_below (Nat.le_refl 16) (Nat.le_refl 16) a1 b1 a2 b2
theorem w_alike {q : Nat} {h : HP} {a b x y : Nat} (ha : RV q h a x) (hb : RV q h b y) : P_Rm_alike h (q + a) (q + b) = some (bi (decide (x = y)), h) := by
  obtain ⟨A, a1, a2⟩ := ha
  obtain ⟨B, b1, b2⟩ := hb
  exact e_alike (Nat.le_refl 16) (Nat.le_refl 16) a1 b1 a2 b2
theorem w_less {q : Nat} {h : HP} {E : Nat → Nat} (R : RW q h E) {t b y : Nat} (ht : RO t) (hb : RV q h b y) (hle : y ≤ E t) : ∃ h', P_Rm_less h (q + t) (q + t) (q + b) = some h' ∧ RW q h' (up1 E t (E t - y)) ∧ RK q h h' := by
  obtain ⟨T, t1, t2⟩ := R.1 t ht
  obtain ⟨B, b1, b2⟩ := hb
  obtain ⟨F', g1, g2, _⟩ := e_lessG (Nat.le_refl 16) (Nat.le_refl 16) (Nat.le_refl 16) t1 t1 b1 t2 b2
  rw [if_pos hle] at g2
  exact ⟨_, g1, rw_set R ht g2, RK.st ht⟩
theorem w_plus {q : Nat} {h : HP} {E : Nat → Nat} (R : RW q h E) {t a b m u v x y : Nat} (ht : RO t) (ha : RV q h a x) (hb : RV q h b y) (hm : MO2 m u v) (hx : x < v) (hy : y < v) : ∃ h', P_Rm_plus h (q + t) (q + a) (q + b) (q + m) = some h' ∧ RW q h' (up1 E t ((x + y) % v)) ∧ RK q h h' := by
  obtain ⟨T, t1, t2⟩ := R.1 t ht
  obtain ⟨A, a1, a2⟩ := ha
  obtain ⟨B, b1, b2⟩ := hb
  obtain ⟨M, m1, m2⟩ := rv_m R hm
  obtain ⟨F', g1, g2, _⟩ := e_plus (Nat.le_refl 16) (Nat.le_refl 16) (Nat.le_refl 16) (Nat.le_refl 16) (show q + t ≠ q + m by have := ht.1; rcases hm with ⟨rfl, _⟩ | ⟨rfl, _⟩ <;> omega) t1 a1 b1 m1 a2 b2 m2 hx hy
  exact ⟨_, g1, rw_set R ht g2, RK.st ht⟩
theorem w_minus {q : Nat} {h : HP} {E : Nat → Nat} (R : RW q h E) {t a b m u v x y : Nat} (ht : RO t) (ha : RV q h a x) (hb : RV q h b y) (hm : MO2 m u v) (hx : x < v) (hy : y < v) : ∃ h', P_Rm_minus h (q + t) (q + a) (q + b) (q + m) = some h' ∧ RW q h' (up1 E t ((x + (v - y)) % v)) ∧ RK q h h' := by
  obtain ⟨T, t1, t2⟩ := R.1 t ht
  obtain ⟨A, a1, a2⟩ := ha
  obtain ⟨B, b1, b2⟩ := hb
  obtain ⟨M, m1, m2⟩ := rv_m R hm
  obtain ⟨F', g1, g2, _⟩ := e_minus (Nat.le_refl 16) (Nat.le_refl 16) (Nat.le_refl 16) (Nat.le_refl 16) (show q + t ≠ q + m by have := ht.1; rcases hm with ⟨rfl, _⟩ | ⟨rfl, _⟩ <;> omega) t1 a1 b1 m1 a2 b2 m2 hx hy
  exact ⟨_, g1, rw_set R ht g2, RK.st ht⟩
/-- the reference's fields -/
def RFS (q : Nat) (th ta me re kc pn qn : Int32) : List Value :=
  [.int th, .ref (q + 1), .ref (q + 2), .ref (q + 3), .ref (q + 4), .int ta, .int me, .int re, .int kc, .ref (q + 5), .ref (q + 6), .ref (q + 7), .ref (q + 8), .ref (q + 9), .ref (q + 10), .ref (q + 11), .ref (q + 12), .ref (q + 13), .ref (q + 14), .ref (q + 15), .ref (q + 16), .ref (q + 17), .ref (q + 18), .int pn, .int qn,
   .ref (q + 19), .ref (q + 20), .ref (q + 21), .ref (q + 22), .ref (q + 23), .ref (q + 24), .ref (q + 25), .ref (q + 26), .ref (q + 27), .ref (q + 28), .ref (q + 29), .ref (q + 30), .ref (q + 31), .ref (q + 32), .ref (q + 33), .ref (q + 34), .ref (q + 35), .ref (q + 36), .ref (q + 37), .ref (q + 38), .ref (q + 39), .ref (q + 40), .ref (q + 41), .ref (q + 42), .ref (q + 43)]
theorem w_times {q : Nat} {h : HP} {E : Nat → Nat} {th ta me re kc pn qn : Int32} (hq : h[q]? = some (pO 8 (RFS q th ta me re kc pn qn))) (R : RW q h E) {t a b m u v x y : Nat} (ht : RO t) (ha : RO a) (hb : RO b) (hx : E a = x) (hy : E b = y) (hm : MO2 m u v) : ∃ h', P_Rm_times h q (q + t) (q + a) (q + b) (q + m) (q + u) = some h' ∧ RW q h' (up1 E t (x * y % v)) ∧ RK q h h' := by
  have R0 := R
  obtain ⟨T, t1, t2⟩ := R.1 t ht
  obtain ⟨A, a1, a2⟩ := R.1 a ha
  obtain ⟨B, b1, b2⟩ := R.1 b hb
  obtain ⟨M, m1, m2⟩ := rv_m R hm
  have hU : ∃ U, h[q + u]? = some (pJ 256 U) ∧ TT U v := by
    rcases hm with ⟨_, rfl, rfl⟩ | ⟨_, rfl, rfl⟩
    · exact R.2.2.1.1
    · exact R.2.2.1.2
  obtain ⟨U, u1, u2⟩ := hU
  obtain ⟨_, _, _, ⟨⟨P, c1⟩, ⟨S, c2⟩, c3, c4, c5, c6⟩⟩ := R
  obtain ⟨t3, t4⟩ := ht
  obtain ⟨a3, a4⟩ := ha
  obtain ⟨b3, b4⟩ := hb
  have hmu : m ≤ 7 ∧ 11 ≤ u ∧ u ≤ 12 ∧ 6 ≤ m := by rcases hm with ⟨rfl, rfl, _⟩ | ⟨rfl, rfl, _⟩ <;> omega
  have hv : 2 ^ 256 - 2 ^ 224 < v := by rcases hm with ⟨_, _, rfl⟩ | ⟨_, _, rfl⟩ <;> decide
  obtain ⟨h', g1, g2, g3, g4, F, g5, g6, g7⟩ := e_times (q := q) (kp := q + 31) (ks := q + 32) (t := q + t) (a := q + a) (b := q + b) (m := q + m) (u := q + u) hq rfl rfl c1 c2 t1 a1 b1 m1 u1 (Nat.le_refl 16) (Nat.le_refl 16) (Nat.le_refl 16) (Nat.le_refl 16) (by omega) (by omega) (by omega) (by omega) (by omega) (by omega) (by omega) (by omega) (by omega) (by omega) (by omega) (by omega) (by omega) a2 b2 m2 u2 hv
  have kk : ∀ i, i ≠ t → i ≠ 31 → i ≠ 32 → h'[q + i]? = h[q + i]? := fun i h1 h2 h3 => g2.2 (q + i) (by simp; omega)
  rw [hx, hy] at g6
  refine ⟨h', g1, rw_kp R0 ⟨t3, t4⟩ g2 (fun j hj => ?_) ⟨F, g5, g6⟩ ⟨g3, g4, ?_, ?_, ?_, ?_⟩, RK.kp g2 (fun j hj => ?_)⟩
  · simp at hj; omega
  · rw [kk 33 (by omega) (by omega) (by omega)]; exact c3
  · rw [kk 34 (by omega) (by omega) (by omega)]; exact c4
  · rw [kk 35 (by omega) (by omega) (by omega)]; exact c5
  · rw [kk 36 (by omega) (by omega) (by omega)]; exact c6
  · simp at hj; omega
theorem w_inverse {q : Nat} {h : HP} {E : Nat → Nat} {th ta me re kc pn qn : Int32} (hq : h[q]? = some (pO 8 (RFS q th ta me re kc pn qn))) (R : RW q h E) {t a m u v x : Nat} (ht : RO t) (ha : RO a) (hx : E a = x) (hx0 : x ≠ 0) (hxv : x < v) (hm : MO2 m u v) : ∃ h' r, P_Rm_inverse h q (q + t) (q + a) (q + m) = some h' ∧ RW q h' (up1 E t r) ∧ RK q h h' ∧ r < v ∧ x * r % v = 1 := by
  have R0 := R
  obtain ⟨T, t1, t2⟩ := R.1 t ht
  obtain ⟨A, a1, a2⟩ := R.1 a ha
  obtain ⟨M, m1, m2⟩ := rv_m R hm
  obtain ⟨_, _, _, ⟨c1, c2, ⟨U, c3⟩, ⟨V, c4⟩, ⟨X, c5⟩, ⟨Y, c6⟩⟩⟩ := R
  obtain ⟨t3, t4⟩ := ht
  obtain ⟨a3, a4⟩ := ha
  have hmu : m ≤ 7 ∧ 6 ≤ m := by rcases hm with ⟨rfl, rfl, _⟩ | ⟨rfl, rfl, _⟩ <;> omega
  have hp : Pr v := by rcases hm with ⟨_, _, rfl⟩ | ⟨_, _, rfl⟩; exact pr_P; exact pr_N
  have ho : v % 2 = 1 := by rcases hm with ⟨_, _, rfl⟩ | ⟨_, _, rfl⟩ <;> decide
  rw [hx] at a2
  obtain ⟨h', g1, g2, ⟨U', _, g3, _⟩, ⟨V', _, g4, _⟩, ⟨X', _, g5, _⟩, ⟨Y', _, g6, _⟩, F, r, g7, g8, g9, g10⟩ := e_inverse (q := q) (ku := q + 33) (kv := q + 34) (k1 := q + 35) (k2 := q + 36) (m := q + m) (a := q + a) (t := q + t) (nm := 16) (na := 16) (nt := 16) (fs := RFS q th ta me re kc pn qn) rfl rfl rfl rfl ⟨by simp; omega, by simp; omega⟩ (Nat.le_refl 16) (Nat.le_refl 16) (Nat.le_refl 16) hx0 hxv hp ho hq c3 c4 c5 c6 a1 a2 m1 m2 t1
  have kk : ∀ i, i ≠ t → i ≤ 32 → h'[q + i]? = h[q + i]? := fun i h1 h2 => g2.2 (q + i) (by simp; omega)
  refine ⟨h', r, g1, rw_kp R0 ⟨t3, t4⟩ g2 (fun j hj => ?_) ⟨F, g7, g8⟩ ⟨?_, ?_, ⟨U', g3⟩, ⟨V', g4⟩, ⟨X', g5⟩, ⟨Y', g6⟩⟩, RK.kp g2 (fun j hj => ?_), g9, g10⟩
  · simp at hj; omega
  · rw [kk 31 (by omega) (by omega)]; exact c1
  · rw [kk 32 (by omega) (by omega)]; exact c2
  · simp at hj; omega
