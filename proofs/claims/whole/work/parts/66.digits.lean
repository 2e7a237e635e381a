/-! NUMBERS as digits: vl B d n is the number of the digits d 0 .. d (n - 1), the lowest first -/
def vl (B : Nat) (d : Nat → Nat) : Nat → Nat
  | 0 => 0
  | n + 1 => vl B d n + d n * B ^ n
theorem vl_eq {B : Nat} {d e : Nat → Nat} : ∀ n, (∀ i, i < n → d i = e i) → vl B d n = vl B e n
  | 0, _ => rfl
  | n + 1, h => by
    show vl B d n + d n * B ^ n = vl B e n + e n * B ^ n
    rw [vl_eq n (fun i hi => h i (by omega)), h n (by omega)]
theorem vl_up {B : Nat} {d : Nat → Nat} {i x : Nat} : ∀ n, n ≤ i → vl B (va_up d i x) n = vl B d n := fun n hn => vl_eq n (fun j hj => up_n (by omega))
theorem vl_in {B : Nat} {d : Nat → Nat} {i x : Nat} : ∀ n, i < n → vl B (va_up d i x) n + d i * B ^ i = vl B d n + x * B ^ i
  | 0, h => by omega
  | n + 1, h => by
    show vl B (va_up d i x) n + va_up d i x n * B ^ n + d i * B ^ i = vl B d n + d n * B ^ n + x * B ^ i
    by_cases z : i = n
    · subst z
      rw [up_s, vl_up _ (Nat.le_refl _)]
      omega
    · have := vl_in (B := B) (d := d) (i := i) (x := x) n (by omega)
      rw [up_n (by omega)]
      omega
theorem vl_lt {B : Nat} {d : Nat → Nat} : ∀ n, (∀ i, i < n → d i < B) → vl B d n < B ^ n
  | 0, _ => by show 0 < B ^ 0; simp
  | n + 1, h => by
    have h1 := vl_lt n (fun i hi => h i (by omega))
    have h2 : d n + 1 ≤ B := h n (by omega)
    have h3 := Nat.mul_le_mul_right (B ^ n) h2
    show vl B d n + d n * B ^ n < B ^ (n + 1)
    rw [Nat.pow_succ, Nat.mul_comm (B ^ n) B]
    rw [Nat.add_mul, Nat.one_mul] at h3
    omega
theorem vl_0 {B : Nat} {d : Nat → Nat} : ∀ n, (∀ i, i < n → d i = 0) → vl B d n = 0
  | 0, _ => rfl
  | n + 1, h => by
    show vl B d n + d n * B ^ n = 0
    rw [vl_0 n (fun i hi => h i (by omega)), h n (by omega), Nat.zero_mul]
theorem vl_inj {B : Nat} {d e : Nat → Nat} : ∀ n, (∀ i, i < n → d i < B) → (∀ i, i < n → e i < B) → vl B d n = vl B e n → ∀ i, i < n → d i = e i
  | 0, _, _, _, i, hi => by omega
  | n + 1, hd, he, h, i, hi => by
    have h1 := vl_lt n (fun i hi => hd i (by omega))
    have h2 := vl_lt n (fun i hi => he i (by omega))
    have h3 : vl B d n + d n * B ^ n = vl B e n + e n * B ^ n := h
    have hB : 0 < B ^ n := by omega
    have e1 : d n = e n := by
      have a1 : (vl B d n + d n * B ^ n) / B ^ n = d n := by rw [Nat.add_mul_div_right _ _ hB, Nat.div_eq_of_lt h1, Nat.zero_add]
      have a2 : (vl B e n + e n * B ^ n) / B ^ n = e n := by rw [Nat.add_mul_div_right _ _ hB, Nat.div_eq_of_lt h2, Nat.zero_add]
      rw [← a1, ← a2, h3]
    by_cases z : i = n
    · rw [z]; exact e1
    · exact vl_inj n (fun i hi => hd i (by omega)) (fun i hi => he i (by omega)) (by rw [e1] at h3; omega) i (by omega)
/-- the long array F holds the digits d -/
def RJ (n : Nat) (F : Nat → Int64) (d : Nat → Nat) : Prop := ∀ k, k < n → F k = lN (d k)
theorem RJ.up {n : Nat} {F : Nat → Int64} {d : Nat → Nat} {i x : Nat} (h : RJ n F d) : RJ n (va_up F i (lN x)) (va_up d i x) := by
  intro k hk
  by_cases z : k = i
  · subst z; rw [up_s, up_s]
  · rw [up_n z, up_n z]; exact h k hk
/-! the reference's raise: left times (high, low), in digits of 32 bits -/
section RA
variable {q kl kc : Nat} {fs : List Value} {K3 K27 : HP → Nat → Int64 → Int64 → Int32 → Option HP} {a1 a3 : Int64}
theorem ra1 (hf1 : fs[47]? = some (.ref kl)) (hf2 : fs[48]? = some (.ref kc)) (hcq : kc ≠ q) (hlc : kc ≠ kl) {i y : Nat} (hi : i < 3) (hy : y < 2 ^ 32) {Lf : Nat → Int64} {d : Nat → Nat} (hd : ∀ k, k < 8 → d k < 2 ^ 32) (hL : RJ 8 Lf d) : ∀ (r k f : Nat) (h : HP) (C : Nat → Int64) (c : Nat → Nat) (cy : Nat), r + k + i = 8 → r < f → h[q]? = some (pO 8 fs) → h[kl]? = some (pJ 8 Lf) → h[kc]? = some (pJ 8 C) → RJ 8 C c → (∀ j, j < 8 → c j < 2 ^ 32) → cy < 2 ^ 32 →
    ∃ (C' : Nat → Int64) (c' : Nat → Nat) (t : Nat), L_Rm_raise_68 K3 K27 f h q a1 a3 (nI i) (lN y) (lN cy) (nI k) = K27 (h.set kc (pJ 8 C')) q a1 a3 (nI (i + 1)) ∧ RJ 8 C' c' ∧ (∀ j, j < 8 → c' j < 2 ^ 32) ∧ vl (2 ^ 32) c' 8 + t * (2 ^ 32) ^ 8 + y * (2 ^ 32) ^ i * vl (2 ^ 32) d k = vl (2 ^ 32) c 8 + cy * (2 ^ 32) ^ (i + k) + y * (2 ^ 32) ^ i * vl (2 ^ 32) d (8 - i) := by
  intro r
  induction r with
  | zero =>
    intro k f h C c cy hr hfu hp hl hc hC hcb hcy
    cases f with
    | zero => omega
    | succ f =>
      refine ⟨C, c, cy, ?_, hC, hcb, ?_⟩
      · show B_Rm_raise_68 K3 K27 _ h q a1 a3 (nI i) (lN y) (lN cy) (nI k) = _
        unfold B_Rm_raise_68
        rw [if_pos (show (8 : Int32) ≤ nI i + nI k by rw [nI_add]; exact nI_le (a := 8) (by omega) (by omega)), hid hc]
        show K27 h q a1 a3 (nI i + Int32.ofInt 1) = _
        rw [nI_ofInt1]
      · rw [show i + k = 8 by omega, show 8 - i = k by omega]
  | succ r ih =>
    intro k f h C c cy hr hfu hp hl hc hC hcb hcy
    cases f with
    | zero => omega
    | succ f =>
      have hck := hcb (i + k) (by omega)
      have hdk := hd k (by omega)
      have hprod : y * d k ≤ (2 ^ 32 - 1) * (2 ^ 32 - 1) := Nat.mul_le_mul (by omega) (by omega)
      have hs : c (i + k) + y * d k + cy < 2 ^ 64 := by
        have : (2 ^ 32 - 1) * (2 ^ 32 - 1) = 18446744065119617025 := by decide
        omega
      have hm : (c (i + k) + y * d k + cy) % 2 ^ 32 < 2 ^ 32 := Nat.mod_lt _ (by decide)
      have hq : (c (i + k) + y * d k + cy) / 2 ^ 32 < 2 ^ 32 := by
        rw [Nat.div_lt_iff_lt_mul (by decide)]; omega
      obtain ⟨C', c', t, g1, g2, g3, g4⟩ := ih (k + 1) f (h.set kc (pJ 8 (va_up C (i + k) (lN ((c (i + k) + y * d k + cy) % 2 ^ 32))))) _ (va_up c (i + k) ((c (i + k) + y * d k + cy) % 2 ^ 32)) ((c (i + k) + y * d k + cy) / 2 ^ 32) (by omega) (by omega) (hn_ hcq hp) (hn_ hlc hl) (hs_ hc) hC.up (fun j hj => by
        by_cases z : j = i + k
        · subst z; rw [up_s]; exact hm
        · rw [up_n z]; exact hcb j hj) hq
      refine ⟨C', c', t, ?_, g2, g3, ?_⟩
      · show B_Rm_raise_68 K3 K27 (L_Rm_raise_68 K3 K27 f) h q a1 a3 (nI i) (lN y) (lN cy) (nI k) = _
        unfold B_Rm_raise_68
        rw [if_neg (show ¬ (8 : Int32) ≤ nI i + nI k by rw [nI_add]; exact nI_ge (b := 8) (by omega) (by omega)), nI_add]
        refine (bs_ (gR_at hp hf2)).trans ?_
        refine (bs_ (sJ_in (i + k) hc rfl (by omega) (by omega))).trans ?_
        refine (bs_ (gR_at hp hf1)).trans ?_
        refine (bs_ (sJ_in k hl rfl (by omega) (by omega))).trans ?_
        refine lt_e.trans ?_
        refine (bs_ (gR_at hp hf2)).trans ?_
        rw [hC (i + k) (by omega), hL k (by omega), lN_mul, lN_add, lN_add, show lN (c (i + k) + y * d k + cy) &&& 4294967295 = lN ((c (i + k) + y * d k + cy) % 2 ^ 32) from wb_mask (k := 32) hs (by decide)]
        refine (bs_ (tJ_in (i + k) hc rfl (by omega) (by omega))).trans ?_
        show L_Rm_raise_68 K3 K27 f _ q a1 a3 (nI i) (lN y) (((lN (c (i + k) + y * d k + cy)).toUInt64 >>> ((nI 32).toInt64.toUInt64 &&& Int64.toUInt64 63)).toInt64) (nI k + Int32.ofInt 1) = _
        rw [wb_shr (k := 32) hs (by decide), nI_ofInt1]
        refine g1.trans ?_
        rw [hss]
      · have e1 := vl_in (B := 2 ^ 32) (d := c) (i := i + k) (x := (c (i + k) + y * d k + cy) % 2 ^ 32) 8 (by omega)
        have e2 : (c (i + k) + y * d k + cy) = (c (i + k) + y * d k + cy) % 2 ^ 32 + 2 ^ 32 * ((c (i + k) + y * d k + cy) / 2 ^ 32) := (Nat.mod_add_div _ _).symm
        have e4 : vl (2 ^ 32) d (k + 1) = vl (2 ^ 32) d k + d k * (2 ^ 32) ^ k := rfl
        have e5 : (2 ^ 32) ^ (i + k) = (2 ^ 32) ^ i * (2 ^ 32) ^ k := Nat.pow_add _ _ _
        have e6 : (2 ^ 32) ^ (i + (k + 1)) = (2 ^ 32) ^ i * (2 ^ 32) ^ k * 2 ^ 32 := by rw [← Nat.add_assoc, Nat.pow_succ, e5]
        rw [e4, e6] at g4
        rw [e5] at e1
        rw [e5]
        generalize (2 ^ 32) ^ i = P at *
        generalize (2 ^ 32) ^ k = R at *
        have e7 : (c (i + k) + y * d k + cy) * (P * R) = ((c (i + k) + y * d k + cy) % 2 ^ 32 + 2 ^ 32 * ((c (i + k) + y * d k + cy) / 2 ^ 32)) * (P * R) := by rw [← e2]
        clear e2
        generalize (c (i + k) + y * d k + cy) % 2 ^ 32 = m at *
        generalize (c (i + k) + y * d k + cy) / 2 ^ 32 = u at *
        have x1 : y * P * (vl (2 ^ 32) d k + d k * R) = y * P * vl (2 ^ 32) d k + y * d k * (P * R) := by rw [Nat.mul_add, Nat.mul_mul_mul_comm y P (d k) R]
        have x2 : (c (i + k) + y * d k + cy) * (P * R) = c (i + k) * (P * R) + y * d k * (P * R) + cy * (P * R) := by rw [Nat.add_mul, Nat.add_mul]
        have x3 : (m + 2 ^ 32 * u) * (P * R) = m * (P * R) + u * (P * R * 2 ^ 32) := by rw [Nat.add_mul, Nat.mul_comm (2 ^ 32) u, Nat.mul_assoc u, Nat.mul_comm (2 ^ 32) (P * R)]
        rw [x1] at g4
        rw [x2, x3] at e7
        clear x1 x2 x3 hs hm hq hprod
        generalize y * d k * (P * R) = w1 at *
        generalize c (i + k) * (P * R) = w2 at *
        generalize cy * (P * R) = w3 at *
        generalize m * (P * R) = w4 at *
        generalize u * (P * R * 2 ^ 32) = w5 at *
        generalize y * P * vl (2 ^ 32) d k = w6 at *
        generalize y * P * vl (2 ^ 32) d (8 - i) = w7 at *
        omega
end RA
