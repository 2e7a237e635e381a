/-! the class's invert, in a field -/
theorem zm_vl {B n : Nat} {F : Nat → Int64} {v : Nat} (h : ZM B n F v) : ∃ d : Nat → Nat, (∀ k, k < n → F k = lN (d k)) ∧ (∀ k, k < n → d k < B) ∧ vl B d n = v := by
  obtain ⟨e, h1, h2, h3⟩ := h
  refine ⟨fun k => (e k).toNat, fun k hk => ?_, fun k hk => (by have := h2 k hk; omega : (e k).toNat < B), ?_⟩
  · rw [h1 k hk, lZ_N, Int.toNat_of_nonneg (h2 k hk).1]
  · apply Int.ofNat.inj
    show ((vl _ _ _ : Nat) : Int) = (v : Int)
    rw [vz_vl, ← h3]
    exact vz_eq n (fun i hi => Int.toNat_of_nonneg (h2 i hi).1)
theorem bit_m (x n r : Nat) (hr : r < n) : x % 2 ^ n / 2 ^ r % 2 = x / 2 ^ r % 2 := by
  have h1 : (x % 2 ^ n).testBit r = x.testBit r := by rw [Nat.testBit_mod_two_pow, decide_eq_true hr, Bool.true_and]
  rw [Nat.testBit_eq_decide_div_mod_eq, Nat.testBit_eq_decide_div_mod_eq] at h1
  have h2 := decide_eq_decide.mp h1
  omega
theorem nI_29 : ∀ i : Fin 256, nI i.val / 29 = nI (i.val / 29) := by decide +kernel
theorem nI_m29 : ∀ i : Fin 256, (Int32.toInt64 (nI i.val - nI i.val / 29 * 29) &&& 63).toBitVec.smod 64 = BitVec.ofNat 64 (i.val % 29) := by decide +kernel
section IV5
variable {m v : Nat} {li : Int} {F : Type} {φ : Nat → F}
/-- what a number in Montgomery's form stands for -/
def ps [Lean.Grind.Field F] (φ : Nat → F) (x : Nat) : F := φ x * (φ (2 ^ 261))⁻¹
theorem rho_nz [Lean.Grind.Field F] (Z : ZF v φ) (hp : Pr v) (h2 : v ≠ 2) : φ (2 ^ 261) ≠ 0 := by
  intro e
  rw [← zf_0 Z] at e
  have h := (Z.2.2.2.1 _ _).mp e
  rw [Nat.zero_mod] at h
  have d := Nat.dvd_of_mod_eq_zero h
  have : ∀ k : Nat, v ∣ 2 ^ k → v ∣ 2 := by
    intro k
    induction k with
    | zero => intro d; exact Nat.dvd_trans d ⟨2, rfl⟩
    | succ k ih =>
      intro d
      rw [Nat.pow_succ] at d
      rcases pr_mul hp d with q | q
      · exact ih q
      · exact q
  have := Nat.le_of_dvd (by decide) (this _ d)
  have := hp.1
  omega
theorem ps_mul [Lean.Grind.Field F] (Z : ZF v φ) (hr : φ (2 ^ 261) ≠ 0) {x y z : Nat} (h : z * 2 ^ 261 % v = x * y % v) : ps φ z = ps φ x * ps φ y := by
  have e : φ z * φ (2 ^ 261) = φ x * φ y := by rw [← Z.2.1, ← Z.2.1]; exact (Z.2.2.2.1 _ _).mpr h
  have i := Lean.Grind.Field.mul_inv_cancel hr
  unfold ps
  generalize φ (2 ^ 261) = r at *
  generalize φ x = a at *
  generalize φ y = b at *
  generalize φ z = c at *
  have : c * r⁻¹ = (c * r) * r⁻¹ * r⁻¹ := by grind
  rw [this, e]
  grind
theorem ps_one [Lean.Grind.Field F] (Z : ZF v φ) (hr : φ (2 ^ 261) ≠ 0) : ps φ (2 ^ 261 % v) = 1 := by
  unfold ps
  rw [zf_md Z]
  exact Lean.Grind.Field.mul_inv_cancel hr
theorem ps_add [Lean.Grind.Field F] (Z : ZF v φ) {x y z : Nat} (h : (x + y) % v = z) : ps φ z = ps φ x + ps φ y := by
  unfold ps
  rw [← h, zf_md Z, Z.1]
  grind
theorem ps_sub [Lean.Grind.Field F] (Z : ZF v φ) {x y z : Nat} (hy : y < v) (h : (x + (v - y)) % v = z) : ps φ z = ps φ x - ps φ y := by
  unfold ps
  rw [← h, zf_md Z, Z.1, zf_sb Z (Nat.le_of_lt hy)]
  grind
theorem ps_inj [Lean.Grind.Field F] (Z : ZF v φ) (hr : φ (2 ^ 261) ≠ 0) {x y : Nat} (hx : x < v) (hy : y < v) : ps φ x = ps φ y ↔ x = y := by
  constructor
  · intro h
    have i := Lean.Grind.Field.mul_inv_cancel hr
    have e : φ x = φ y := by
      have h1 : ps φ x * φ (2 ^ 261) = ps φ y * φ (2 ^ 261) := by rw [h]
      unfold ps at h1
      generalize φ (2 ^ 261) = r at *
      grind
    have := (Z.2.2.2.1 _ _).mp e
    rw [Nat.mod_eq_of_lt hx, Nat.mod_eq_of_lt hy] at this
    exact this
  · intro h; rw [h]
theorem ps_0 [Lean.Grind.Field F] (Z : ZF v φ) : ps φ 0 = 0 := by
  unfold ps
  rw [zf_0 Z]
  grind
theorem iv_bit {h : HP} {k K i : Nat} {G : Nat → Int64} (hk : h[k]? = some (pJ 9 G)) (hG : LM G K) (hi : i < 256) : ∃ d, ldJ h k (nI i / 29) = some d ∧ ((lg_cmp ((d >>> (Int32.toInt64 (nI i - nI i / 29 * 29) &&& 63)) &&& 1) 1 = 0) ↔ K / 2 ^ i % 2 = 1) := by
  obtain ⟨d, h1, h2, h3⟩ := zm_vl hG
  have b1 := h2 (i / 29) (by omega)
  refine ⟨lN (d (i / 29)), (sJ_in (i / 29) hk (nI_29 ⟨i, hi⟩) (by omega) (by omega)).trans (by rw [h1 (i / 29) (by omega)]), ?_⟩
  have b2 := Nat.div_le_self (d (i / 29)) (2 ^ (i % 29))
  rw [pf_shr (d := i % 29) (by rw [nI_m29 ⟨i, hi⟩]; simp; omega) (by omega), wb_a1 (by omega), lg_cmp_eq]
  have e1 : K / 2 ^ i % 2 = d (i / 29) / 2 ^ (i % 29) % 2 := by
    have e2 : 2 ^ i = (2 ^ 29) ^ (i / 29) * 2 ^ (i % 29) := by rw [← Nat.pow_mul, ← Nat.pow_add]; congr 1; omega
    rw [e2, ← Nat.div_div_eq_div_mul, ← h3, ← bit_m _ 29 _ (Nat.mod_lt _ (by decide))]
    have := vl_dig (B := 536870912) (d := d) (k := i / 29) (by decide) (8 - i / 29) (fun j hj => h2 j (by omega))
    rw [show i / 29 + (8 - i / 29) + 1 = 9 by omega] at this
    rw [show (2 ^ 29 : Nat) = 536870912 by decide, this]
  rw [e1]
  have := lN_inj16 (a := d (i / 29) / 2 ^ (i % 29) % 2) (b := 1) (by omega) (by decide)
  exact this
end IV5
