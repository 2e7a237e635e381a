/-! the field of a prime -/
def mkF {R : Type} [Lean.Grind.CommRing R] (i : R → R) (h01 : (0 : R) ≠ 1) (i0 : i 0 = 0) (ii : ∀ a, a ≠ 0 → a * i a = 1) : Lean.Grind.Field R :=
  { inv := i, div := fun a b => a * i b
    zpow := ⟨fun a z => match z with
      | .ofNat n => a ^ n
      | .negSucc n => i (a ^ (n + 1))⟩
    div_eq_mul_inv := fun _ _ => rfl
    zero_ne_one := h01
    inv_zero := i0
    mul_inv_cancel := fun {a} h => ii a h
    zpow_zero := fun a => Lean.Grind.Semiring.pow_zero a
    zpow_succ := fun a n => Lean.Grind.Semiring.pow_succ a n
    zpow_neg := fun a z => by
      have inv1 : i 1 = 1 := by
        have := ii 1 (fun e => h01 e.symm)
        grind
      have invinv : ∀ x, i (i x) = x := by
        intro x
        by_cases z : x = 0
        · rw [z, i0, i0]
        · have h1 := ii x z
          have h2 : i x ≠ 0 := by
            intro e
            rw [e] at h1
            exact h01 (by grind)
          have h3 := ii (i x) h2
          grind
      cases z with
      | ofNat n =>
        cases n with
        | zero =>
          show a ^ (0 : Nat) = i (a ^ (0 : Nat))
          rw [Lean.Grind.Semiring.pow_zero, inv1]
        | succ n => rfl
      | negSucc n =>
        show a ^ (n + 1) = i (i (a ^ (n + 1)))
        rw [invinv] }
def ZF {F : Type} [Lean.Grind.Field F] (p : Nat) (φ : Nat → F) : Prop := (∀ x y, φ (x + y) = φ x + φ y) ∧ (∀ x y, φ (x * y) = φ x * φ y) ∧ φ 1 = 1 ∧ (∀ x y, φ x = φ y ↔ x % p = y % p) ∧ ∀ a, ∃ x, x < p ∧ φ x = a
theorem fi_0 {p : Nat} [NeZero p] (x : Nat) : Fin.ofNat p x = 0 ↔ p ∣ x := by
  rw [Fin.ext_iff]
  show x % p = 0 % p ↔ _
  rw [Nat.zero_mod]
  exact ⟨Nat.dvd_of_mod_eq_zero, Nat.mod_eq_zero_of_dvd⟩
theorem fi_m {p : Nat} [NeZero p] (x y : Nat) : Fin.ofNat p (x * y) = Fin.ofNat p x * Fin.ofNat p y := by
  rw [Fin.ext_iff, Fin.val_mul]
  show x * y % p = (x % p) * (y % p) % p
  rw [← Nat.mul_mod]
theorem fi_a {p : Nat} [NeZero p] (x y : Nat) : Fin.ofNat p (x + y) = Fin.ofNat p x + Fin.ofNat p y := by
  rw [Fin.ext_iff, Fin.val_add]
  show (x + y) % p = (x % p + y % p) % p
  rw [← Nat.add_mod]
theorem zf_ex {p : Nat} (hp : Pr p) : ∃ (F : Type) (_ : Lean.Grind.Field F) (φ : Nat → F), ZF p φ := by
  have h2 := hp.1
  have nz : NeZero p := ⟨by omega⟩
  have rep : ∀ a : Fin p, Fin.ofNat p a.val = a := fun a => Fin.ext (Nat.mod_eq_of_lt a.isLt)
  have one : Fin.ofNat p 1 = 1 := rfl
  have h01 : (0 : Fin p) ≠ 1 := by
    intro e
    have := (fi_0 (p := p) 1).mp e.symm
    have := Nat.le_of_dvd (by decide) this
    omega
  have ex : ∀ a : Fin p, ∃ b : Fin p, (a ≠ 0 → a * b = 1) ∧ (a = 0 → b = 0) := by
    intro a
    by_cases z : a = 0
    · exact ⟨0, fun h => absurd z h, fun _ => rfl⟩
    · refine ⟨Fin.ofNat p (a.val ^ (p - 2)), fun _ => ?_, fun h => absurd h z⟩
      have nd : ¬ p ∣ a.val := fun d => z (by rw [← rep a]; exact (fi_0 _).mpr d)
      have hf := fermat hp nd
      have e1 : Fin.ofNat p (a.val * a.val ^ (p - 2)) = 1 := by
        rw [show a.val * a.val ^ (p - 2) = a.val ^ (p - 1) by rw [Nat.mul_comm, ← Nat.pow_succ]; congr 1; omega]
        refine Fin.ext ?_
        show a.val ^ (p - 1) % p = 1 % p
        rw [hf, Nat.mod_eq_of_lt (by omega)]
      rw [fi_m, rep a] at e1
      exact e1
  refine ⟨Fin p, mkF (fun a => Classical.choose (ex a)) h01 ((Classical.choose_spec (ex 0)).2 rfl) (fun a h => (Classical.choose_spec (ex a)).1 h), Fin.ofNat p, ?_⟩
  refine ⟨fun x y => fi_a x y, fun x y => fi_m x y, rfl, fun x y => Fin.ext_iff, fun a => ⟨a.val, a.isLt, rep a⟩⟩
