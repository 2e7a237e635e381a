/-! the class's fillMultiples -/
section CFL
variable {F : Type} {φ : Nat → F}
/-- an array of sixteen points, eight places from one to the next -/
def MA (arr b0 : Nat) (h : HP) : Prop := ∃ f : Nat → Option Nat, h[arr]? = some (.inr (.inr (.inr (.inl (3, 16, f))))) ∧ ∀ i, i < 16 → f i = some (b0 + 8 * i)
theorem ldR_3 {h : HP} {arr b0 j : Nat} {x : Int32} (A : MA arr b0 h) (hx : x = nI j) (hj : j < 16) : ldR h arr 3 x = some (b0 + 8 * j) := by
  obtain ⟨f, f1, f2⟩ := A
  unfold ldR
  rw [f1, hx]
  show (if _ then none else _) = _
  rw [nI_clamp (by omega), if_neg (fun c => by
    rcases c with c | c | c
    · exact c rfl
    · exact nI_pos (by omega) c
    · omega)]
  exact f2 j hj
theorem ma_kp {S : List Nat} {arr b0 : Nat} {h h' : HP} (k : KP S h h') (A : MA arr b0 h) (n : arr ∉ S) : MA arr b0 h' := by
  obtain ⟨f, f1, f2⟩ := A
  exact ⟨f, by rw [k.2 arr n]; exact f1, f2⟩
/-- the point at p is Q taken i times -/
def PM [Lean.Grind.Field F] (φ : Nat → F) (p i : Nat) (Q : F × F) (h : HP) : Prop := ∃ x y z S, PVl p x y z h ∧ ML φ i Q S ∧ JP (ps φ x) (ps φ y) (ps φ z) S
theorem pm_kp [Lean.Grind.Field F] {S : List Nat} {p i : Nat} {Q : F × F} {h h' : HP} (k : KP S h h') (P : PM φ p i Q h) (n : ∀ j, j ∈ S → j < p ∨ p + 4 ≤ j) : PM φ p i Q h' := by
  obtain ⟨x, y, z, T, p1, p2, p3⟩ := P
  exact ⟨x, y, z, T, kp_pv k p1 n, p2, p3⟩
theorem PM.rw [Lean.Grind.Field F] {p i : Nat} {Q : F × F} {h : HP} (P : PM φ p i Q h) : PRw p h := by
  obtain ⟨x, y, z, T, p1, _, _⟩ := P
  exact p1.rw
theorem fl_loop [Lean.Grind.Field F] (Z : ZF PP φ) (hr : φ (2 ^ 261) ≠ 0) {c kn m kb bm om sc arr b0 : Nat} {li : Int} {Q : F × F} (db : sc + 6 ≤ b0) (da : arr < sc ∧ arr ≠ c ∧ (arr < m ∨ m + 9 ≤ arr)) : ∀ (r i f : Nat) (h : HP), r + i = 16 → r < f → 2 ≤ i → CAl c kn m kb bm om sc li h → MA arr b0 h → (∀ j, j < i → PM φ (b0 + 8 * j) j Q h) → (∀ j, i ≤ j → j < 16 → PRw (b0 + 8 * j) h) →
    ∃ h', L_Cu_fillMultiples_2 f h c arr (nI i) = some h' ∧ CAl c kn m kb bm om sc li h' ∧ h'.length = h.length ∧ (∀ j, j ≠ m + 6 → j ≠ m + 7 → ¬ (sc + 1 ≤ j ∧ j ≤ sc + 5) → (∀ i, i < 16 → j < b0 + 8 * i + 1 ∨ b0 + 8 * i + 3 < j) → h'[j]? = h[j]?) ∧ ∀ j, j < 16 → PM φ (b0 + 8 * j) j Q h' := by
  intro r
  induction r with
  | zero =>
    intro i f h hi hfu h2 C A P _
    have : i = 16 := by omega
    subst this
    cases f with
    | zero => omega
    | succ f =>
      refine ⟨h, ?_, C, rfl, fun _ _ _ _ _ => rfl, P⟩
      show B_Cu_fillMultiples_2 _ h c arr (nI 16) = _
      unfold B_Cu_fillMultiples_2
      rw [if_pos (show (16 : Int32) ≤ nI 16 by decide)]
  | succ r ih =>
    intro i f h hi hfu h2 C A P W
    cases f with
    | zero => omega
    | succ f =>
      have nx : ∀ h1, B_Cu_fillMultiples_44 (L_Cu_fillMultiples_2 f) h1 c arr (nI i) = L_Cu_fillMultiples_2 f h1 c arr (nI (i + 1)) := by
        intro h1
        show L_Cu_fillMultiples_2 f h1 c arr (nI i + Int32.ofInt 1) = _
        rw [nI_ofInt1]
      have fin : ∀ h1 x' y' z' R, CR c kn m kb bm om sc li (b0 + 8 * i) x' y' z' h h1 → ML φ i Q R → JP (ps φ x') (ps φ y') (ps φ z') R → ∃ h', L_Cu_fillMultiples_2 f h1 c arr (nI (i + 1)) = some h' ∧ CAl c kn m kb bm om sc li h' ∧ h'.length = h.length ∧ (∀ j, j ≠ m + 6 → j ≠ m + 7 → ¬ (sc + 1 ≤ j ∧ j ≤ sc + 5) → (∀ i, i < 16 → j < b0 + 8 * i + 1 ∨ b0 + 8 * i + 3 < j) → h'[j]? = h[j]?) ∧ ∀ j, j < 16 → PM φ (b0 + 8 * j) j Q h' := by
        intro h1 x' y' z' R o ml jp
        have d2 := C.2.2.2
        have kk : ∀ j, j ≠ i → ∀ q, q ∈ KC m sc (b0 + 8 * i) → q < b0 + 8 * j ∨ b0 + 8 * j + 4 ≤ q := fun j hj q hq => by have := m_kc hq; omega
        obtain ⟨h', k1, k2, k3, k4, k5⟩ := ih (i + 1) f h1 (by omega) (by omega) (by omega) o.1 (ma_kp o.2.1 A (fun q => by have := m_kc q; omega)) (fun j hj => by
          by_cases z : j = i
          · rw [z]; exact ⟨x', y', z', R, o.2.2, ml, jp⟩
          · exact pm_kp o.2.1 (P j (by omega)) (kk j z)) (fun j hj hj2 => kp_prw o.2.1 (W j (by omega) hj2) (kk j (by omega)))
        refine ⟨h', k1, k2, k3.trans o.2.1.1, fun j a1 a2 a3 a4 => (k4 j a1 a2 a3 a4).trans (o.2.1.2 j (fun q => by have := m_kc q; have := a4 i (by omega); omega)), k5⟩
      show ∃ h', B_Cu_fillMultiples_2 (L_Cu_fillMultiples_2 f) h c arr (nI i) = some h' ∧ _
      unfold B_Cu_fillMultiples_2
      rw [if_neg (show ¬ (16 : Int32) ≤ nI i from nI_ge (b := 16) (by omega) (by omega))]
      have hrem : nI i - nI i / 2 * 2 = nI (i % 2) := pk_rem (d := 2) (by omega) (by decide) (by decide)
      by_cases z : i % 2 = 0
      · rw [if_pos (show nI i - nI i / 2 * 2 = 0 by rw [hrem, z]; rfl), bs_ (ldR_3 A (show nI i / 2 = nI (i / 2) from pk_div (a := i) (d := 2) (by omega) (by decide) (by decide)) (by omega)), bs_ (ldR_3 A rfl (by omega)), os_ C.1.1]
        obtain ⟨x, y, w, S, s1, s2, s3⟩ := P (i / 2) (by omega)
        obtain ⟨h1, x', y', z', R, g1, g2, g3, g4⟩ := w_twice Z hr C (by omega) (by omega) (by omega) s1 (W i (Nat.le_refl _) (by omega)) s2.1 s3
        rw [bs_ g1, nx]
        have ml := ml_add Z s2 s2 g3
        rw [show i / 2 + i / 2 = i by omega] at ml
        exact fin h1 x' y' z' R g2 ml g4
      · rw [if_neg (show ¬ nI i - nI i / 2 * 2 = 0 by rw [hrem, show i % 2 = 1 by omega]; decide), bs_ (ldR_3 A (show nI i - 1 = nI (i - 1) from pk_sub (a := i) (b := 1) (by omega)) (by omega)), show ldR h arr 3 1 = some (b0 + 8 * 1) from ldR_3 A (j := 1) rfl (by omega), bs_ rfl, bs_ (ldR_3 A rfl (by omega)), os_ C.1.1]
        obtain ⟨x, y, w, S, s1, s2, s3⟩ := P (i - 1) (by omega)
        obtain ⟨x2, y2, w2, S2, t1, t2, t3⟩ := P 1 (by omega)
        obtain ⟨h1, x', y', z', R, g1, g2, g3, g4⟩ := w_cadd Z hr C (by omega) (by omega) (by omega) (by omega) (by omega) s1 t1 (W i (Nat.le_refl _) (by omega)) s2.1 t2.1 s3 t3
        rw [bs_ g1, nx]
        have ml := ml_add Z s2 t2 g3
        rw [show i - 1 + 1 = i by omega] at ml
        exact fin h1 x' y' z' R g2 ml g4
theorem w_fill [Lean.Grind.Field F] (Z : ZF PP φ) (hr : φ (2 ^ 261) ≠ 0) {c kn m kb bm om sc arr b0 : Nat} {li : Int} {Q : F × F} {h : HP} (db : sc + 6 ≤ b0) (da : arr < sc ∧ arr ≠ c ∧ (arr < m ∨ m + 9 ≤ arr)) (C : CAl c kn m kb bm om sc li h) (A : MA arr b0 h) (P0 : PM φ b0 0 Q h) (P1 : PM φ (b0 + 8) 1 Q h) (W : ∀ j, 2 ≤ j → j < 16 → PRw (b0 + 8 * j) h) :
    ∃ h', P_Cu_fillMultiples h c arr = some h' ∧ CAl c kn m kb bm om sc li h' ∧ h'.length = h.length ∧ (∀ j, j ≠ m + 6 → j ≠ m + 7 → ¬ (sc + 1 ≤ j ∧ j ≤ sc + 5) → (∀ i, i < 16 → j < b0 + 8 * i + 1 ∨ b0 + 8 * i + 3 < j) → h'[j]? = h[j]?) ∧ ∀ j, j < 16 → PM φ (b0 + 8 * j) j Q h' :=
  fl_loop Z hr db da 14 2 FU h rfl (by decide) (Nat.le_refl _) C A (fun j hj => by
    have : j = 0 ∨ j = 1 := by omega
    rcases this with rfl | rfl
    · exact P0
    · exact P1) W
end CFL
