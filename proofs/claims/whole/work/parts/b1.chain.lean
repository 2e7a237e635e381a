/-! the chain of nonces and the signature that comes of it -/
section CHN
variable {F : Type} {φ : Nat → F} {H : Type} {ψ : Nat → H}
def sdn (val : Nat → Int8) (k : Nat) : Int8 := if k < 32 then val k else 0
def nxV (key val : Nat → Int8) : Nat → Int8 := dgs val (hmac key val 32) 32
def rfK (key val : Nat → Int8) : Nat → Int8 := dgs key (hmac key (sdn val) 33) 32
def rfV (key val : Nat → Int8) : Nat → Int8 := dgs val (hmac (rfK key val) val 32) 32
def E32 (f g : Nat → Int8) : Prop := ∀ k, k < 32 → f k = g k
theorem pdk_eq {key key' : Nat → Int8} {mask : Int32} (h : E32 key key') : pdk key mask = pdk key' mask := by
  funext i
  unfold pdk
  by_cases z : i < 32
  · rw [if_pos z, if_pos z, h i z]
  · rw [if_neg z, if_neg z]
theorem hmac_eq2 {key key' r r' : Nat → Int8} {len : Nat} (hk : E32 key key') (h : ∀ i, i < len → r i = r' i) : hmac key r len = hmac key' r' len := by
  rw [hmac_eq h]
  unfold hmac hm1 st1
  rw [pdk_eq hk, pdk_eq hk]
theorem dg32 {f g : Nat → Int8} {s t : Nat → Int32} (h : s = t) : E32 (dgs f s 32) (dgs g t 32) := by
  intro k hk
  unfold dgs
  rw [if_pos hk, if_pos hk, h]
theorem nxV_eq {k1 k2 v1 v2 : Nat → Int8} (hk : E32 k1 k2) (hv : E32 v1 v2) : E32 (nxV k1 v1) (nxV k2 v2) := dg32 (hmac_eq2 hk hv)
theorem sdn_eq {v1 v2 : Nat → Int8} (hv : E32 v1 v2) : sdn v1 = sdn v2 := by
  funext k
  unfold sdn
  by_cases z : k < 32
  · rw [if_pos z, if_pos z, hv k z]
  · rw [if_neg z, if_neg z]
theorem rfK_eq {k1 k2 v1 v2 : Nat → Int8} (hk : E32 k1 k2) (hv : E32 v1 v2) : E32 (rfK k1 v1) (rfK k2 v2) := dg32 (hmac_eq2 hk (fun i _ => by rw [sdn_eq hv]))
theorem rfV_eq {k1 k2 v1 v2 : Nat → Int8} (hk : E32 k1 k2) (hv : E32 v1 v2) : E32 (rfV k1 v1) (rfV k2 v2) := dg32 (hmac_eq2 (rfK_eq hk hv) hv)
/-- what comes of a number k: x of k G, and s -/
def SK [Lean.Grind.Field F] [Lean.Grind.Field H] (φ : Nat → F) (ψ : Nat → H) (D z k x s : Nat) : Prop := x < PP ∧ (∃ y, ML φ k (φ GX, φ GY) (some (φ x, φ y))) ∧ s < NN ∧ ψ s * ψ k = ψ D * ψ (x % NN) + ψ z
theorem sk_uq [Lean.Grind.Field F] [Lean.Grind.Field H] (Z : ZF PP φ) (Y : ZF NN ψ) {D z k x s x' s' : Nat} (h0 : k ≠ 0) (h1 : k < NN) (a : SK φ ψ D z k x s) (b : SK φ ψ D z k x' s') : x = x' ∧ s = s' := by
  obtain ⟨a1, ⟨y, a2⟩, a3, a4⟩ := a
  obtain ⟨b1, ⟨y', b2⟩, b3, b4⟩ := b
  have e := ls_uq Z a2 b2
  have e1 : φ x = φ x' := by
    have := Option.some.inj e
    exact congrArg Prod.fst this
  have ex : x = x' := (zf_ne Z a1 b1).mp e1
  subst ex
  refine ⟨rfl, ?_⟩
  have kz : ψ k ≠ 0 := by
    intro c
    rw [← zf_0 Y] at c
    have := (Y.2.2.2.1 _ _).mp c
    rw [Nat.zero_mod, Nat.mod_eq_of_lt h1] at this
    exact h0 this
  have i := Lean.Grind.Field.mul_inv_cancel kz
  have e2 : ψ s = ψ s' := by
    have e3 : ψ s * ψ k = ψ s' * ψ k := a4.trans b4.symm
    have h2 : ψ s = ψ s * ψ k * (ψ k)⁻¹ := by
      have : ψ s * ψ k * (ψ k)⁻¹ = ψ s * (ψ k * (ψ k)⁻¹) := by grind
      rw [this, i]; grind
    have h3 : ψ s' = ψ s' * ψ k * (ψ k)⁻¹ := by
      have : ψ s' * ψ k * (ψ k)⁻¹ = ψ s' * (ψ k * (ψ k)⁻¹) := by grind
      rw [this, i]; grind
    rw [h2, e3, ← h3]
  have := (Y.2.2.2.1 _ _).mp e2
  rw [Nat.mod_eq_of_lt a3, Nat.mod_eq_of_lt b3] at this
  exact this
/-- r and s come of the chain that begins with key and val, in n steps -/
def SO [Lean.Grind.Field F] [Lean.Grind.Field H] (φ : Nat → F) (ψ : Nat → H) (D z : Nat) : Nat → (Nat → Int8) → (Nat → Int8) → Nat → Nat → Prop
  | 0, _, _, r, s => r = 0 ∧ s = 0
  | n + 1, key, val, r, s =>
    ((be (nxV key val) 32 = 0 ∨ NN ≤ be (nxV key val) 32) ∧ SO φ ψ D z n (rfK key (nxV key val)) (rfV key (nxV key val)) r s) ∨
    ((be (nxV key val) 32 ≠ 0 ∧ be (nxV key val) 32 < NN) ∧ ∃ x s0, SK φ ψ D z (be (nxV key val) 32) x s0 ∧
      (((x % NN ≠ 0 ∧ s0 ≠ 0) ∧ r = x % NN ∧ s = s0) ∨ (¬ (x % NN ≠ 0 ∧ s0 ≠ 0) ∧ SO φ ψ D z n (rfK key (nxV key val)) (rfV key (nxV key val)) r s)))
theorem so_cg [Lean.Grind.Field F] [Lean.Grind.Field H] {D z : Nat} : ∀ (n : Nat) (k1 k2 v1 v2 : Nat → Int8) (r s : Nat), E32 k1 k2 → E32 v1 v2 → SO φ ψ D z n k1 v1 r s → SO φ ψ D z n k2 v2 r s
  | 0, _, _, _, _, _, _, _, _, h => h
  | n + 1, k1, k2, v1, v2, r, s, hk, hv, h => by
    have e := nxV_eq hk hv
    have eb := be_eq 32 e
    have ih := so_cg (D := D) (z := z) n (rfK k1 (nxV k1 v1)) (rfK k2 (nxV k2 v2)) (rfV k1 (nxV k1 v1)) (rfV k2 (nxV k2 v2)) r s (rfK_eq hk e) (rfV_eq hk e)
    unfold SO at h ⊢
    rw [← eb]
    rcases h with ⟨a, b⟩ | ⟨a, x, s0, b, c | ⟨c1, c2⟩⟩
    · exact Or.inl ⟨a, ih b⟩
    · exact Or.inr ⟨a, x, s0, b, Or.inl c⟩
    · exact Or.inr ⟨a, x, s0, b, Or.inr ⟨c1, ih c2⟩⟩
theorem so_uq [Lean.Grind.Field F] [Lean.Grind.Field H] (Z : ZF PP φ) (Y : ZF NN ψ) {D z : Nat} : ∀ (n : Nat) (key val : Nat → Int8) (r s r' s' : Nat), SO φ ψ D z n key val r s → SO φ ψ D z n key val r' s' → r = r' ∧ s = s'
  | 0, _, _, _, _, _, _, h, h' => ⟨h.1.trans h'.1.symm, h.2.trans h'.2.symm⟩
  | n + 1, key, val, r, s, r', s', h, h' => by
    have ih := so_uq (D := D) (z := z) Z Y n (rfK key (nxV key val)) (rfV key (nxV key val)) r s r' s'
    unfold SO at h h'
    rcases h with ⟨a, b⟩ | ⟨a, x, s0, b, c⟩
    · rcases h' with ⟨a', b'⟩ | ⟨a', _⟩
      · exact ih b b'
      · have := a'.1; have := a'.2; omega
    · rcases h' with ⟨a', _⟩ | ⟨a', x', s0', b', c'⟩
      · have := a.1; have := a.2; omega
      · obtain ⟨e1, e2⟩ := sk_uq Z Y a.1 a.2 b b'
        subst e1 e2
        rcases c with ⟨c1, c2, c3⟩ | ⟨c1, c2⟩
        · rcases c' with ⟨d1, d2, d3⟩ | ⟨d1, d2⟩
          · exact ⟨c2.trans d2.symm, c3.trans d3.symm⟩
          · exact absurd c1 d1
        · rcases c' with ⟨d1, d2, d3⟩ | ⟨d1, d2⟩
          · exact absurd d1 c1
          · exact ih c2 d2
/-- the chain's beginning -/
def sd0 (v : Nat → Int8) (t : Int8) (fd fz : Nat → Int8) (k : Nat) : Int8 := if k < 32 then v k else if k = 32 then t else if k < 65 then fd (k - 33) else fz (k - 65)
def kA (fd fz : Nat → Int8) : Nat → Int8 := dgs (fun _ => 0) (hmac (fun _ => 0) (sd0 (fun _ => 1) 0 fd fz) 97) 32
def vA (fd fz : Nat → Int8) : Nat → Int8 := dgs (fun _ => 1) (hmac (kA fd fz) (fun _ => 1) 32) 32
def kB (fd fz : Nat → Int8) : Nat → Int8 := dgs (kA fd fz) (hmac (kA fd fz) (sd0 (vA fd fz) 1 fd fz) 97) 32
def vB (fd fz : Nat → Int8) : Nat → Int8 := dgs (vA fd fz) (hmac (kB fd fz) (vA fd fz) 32) 32
end CHN
