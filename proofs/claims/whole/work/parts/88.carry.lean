/-! INTEGER digits and carries: for both sides -/
def lZ (z : Int) : Int64 := Int64.ofInt z
theorem lZ_N (n : Nat) : lN n = lZ n := lN_int n
theorem lZ_add (a b : Int) : lZ a + lZ b = lZ (a + b) := (Int64.ofInt_add ..).symm
theorem lZ_sub (a b : Int) : lZ a - lZ b = lZ (a - b) := (Int64.ofInt_sub ..).symm
theorem lZ_mul (a b : Int) : lZ a * lZ b = lZ (a * b) := (Int64.ofInt_mul ..).symm
theorem lZ_bv (z : Int) : (lZ z).toBitVec = BitVec.ofInt 64 z := rfl
theorem lZ_ti {z : Int} (h1 : -2 ^ 63 ≤ z) (h2 : z < 2 ^ 63) : (lZ z).toInt = z := Int64.toInt_ofInt_of_le h1 h2
theorem lZ_m16 (z : Int) : lZ z &&& 65535 = lZ (z % 65536) := by
  apply Int64.toBitVec_inj.1
  rw [Int64.toBitVec_and]
  apply BitVec.eq_of_toNat_eq
  rw [BitVec.toNat_and, show (65535 : Int64).toBitVec.toNat = 2 ^ 16 - 1 by decide, Nat.and_two_pow_sub_one_eq_mod, lZ_bv, lZ_bv, BitVec.toNat_ofInt, BitVec.toNat_ofInt]
  omega
theorem lZ_m29 (z : Int) : lZ z &&& 536870911 = lZ (z % 536870912) := by
  apply Int64.toBitVec_inj.1
  rw [Int64.toBitVec_and]
  apply BitVec.eq_of_toNat_eq
  rw [BitVec.toNat_and, show (536870911 : Int64).toBitVec.toNat = 2 ^ 29 - 1 by decide, Nat.and_two_pow_sub_one_eq_mod, lZ_bv, lZ_bv, BitVec.toNat_ofInt, BitVec.toNat_ofInt]
  omega
theorem lZ_s16 {z : Int} (h1 : -2 ^ 63 ≤ z) (h2 : z < 2 ^ 63) : lZ z >>> (Int32.toInt64 16 &&& 63) = lZ (z / 65536) := by
  rw [show (Int32.toInt64 16 &&& 63 : Int64) = 16 by decide, ← Int64.toInt_inj, lZ_ti (by omega) (by omega)]
  show (lZ z >>> (16 : Int64)).toBitVec.toInt = _
  rw [Int64.toBitVec_shiftRight]
  show ((lZ z).toBitVec.sshiftRight ((16 : Int64).toBitVec.smod 64).toNat).toInt = _
  rw [show ((16 : Int64).toBitVec.smod 64).toNat = 16 by decide, BitVec.toInt_sshiftRight]
  show (lZ z).toInt >>> 16 = _
  rw [lZ_ti h1 h2, Int.shiftRight_eq_div_pow]
  rfl
theorem lZ_s29 {z : Int} (h1 : -2 ^ 63 ≤ z) (h2 : z < 2 ^ 63) : lZ z >>> (Int32.toInt64 29 &&& 63) = lZ (z / 536870912) := by
  rw [show (Int32.toInt64 29 &&& 63 : Int64) = 29 by decide, ← Int64.toInt_inj, lZ_ti (by omega) (by omega)]
  show (lZ z >>> (29 : Int64)).toBitVec.toInt = _
  rw [Int64.toBitVec_shiftRight]
  show ((lZ z).toBitVec.sshiftRight ((29 : Int64).toBitVec.smod 64).toNat).toInt = _
  rw [show ((29 : Int64).toBitVec.smod 64).toNat = 29 by decide, BitVec.toInt_sshiftRight]
  show (lZ z).toInt >>> 29 = _
  rw [lZ_ti h1 h2, Int.shiftRight_eq_div_pow]
  rfl
/-- the carry ahead of digit i, and digit i, where each place has the sum s i -/
def cy (B : Int) (s : Nat → Int) : Nat → Int
  | 0 => 0
  | i + 1 => (cy B s i + s i) / B
def dg (B : Int) (s : Nat → Int) (i : Nat) : Int := (cy B s i + s i) % B
def vz (B : Int) (d : Nat → Int) : Nat → Int
  | 0 => 0
  | n + 1 => vz B d n + d n * B ^ n
theorem cy_ar {v c x u q s P B : Int} (h1 : v + c * P = s) (h2 : u + B * q = c + x) : v + u * P + q * (P * B) = s + x * P := by grind
theorem cy_sum {B : Int} {s : Nat → Int} : ∀ n, vz B (dg B s) n + cy B s n * B ^ n = vz B s n
  | 0 => by simp [vz, cy]
  | n + 1 => by
    show vz B (dg B s) n + (cy B s n + s n) % B * B ^ n + (cy B s n + s n) / B * B ^ (n + 1) = vz B s n + s n * B ^ n
    rw [Int.pow_succ]
    exact cy_ar (cy_sum n) (Int.emod_add_mul_ediv ..)
theorem vz_eq {B : Int} {d e : Nat → Int} : ∀ n, (∀ i, i < n → d i = e i) → vz B d n = vz B e n
  | 0, _ => rfl
  | n + 1, h => by
    show vz B d n + d n * B ^ n = vz B e n + e n * B ^ n
    rw [vz_eq n (fun i hi => h i (by omega)), h n (by omega)]
theorem vz_add {B : Int} {d e : Nat → Int} : ∀ n, vz B (fun i => d i + e i) n = vz B d n + vz B e n
  | 0 => rfl
  | n + 1 => by
    show vz B (fun i => d i + e i) n + (d n + e n) * B ^ n = vz B d n + d n * B ^ n + (vz B e n + e n * B ^ n)
    rw [vz_add n, Int.add_mul]
    omega
theorem vz_sub {B : Int} {d e : Nat → Int} : ∀ n, vz B (fun i => d i - e i) n = vz B d n - vz B e n
  | 0 => rfl
  | n + 1 => by
    show vz B (fun i => d i - e i) n + (d n - e n) * B ^ n = vz B d n + d n * B ^ n - (vz B e n + e n * B ^ n)
    rw [vz_sub n, Int.sub_mul]
    omega
theorem vz_mul {B c : Int} {d : Nat → Int} : ∀ n, vz B (fun i => c * d i) n = c * vz B d n
  | 0 => (Int.mul_zero _).symm
  | n + 1 => by
    show vz B (fun i => c * d i) n + c * d n * B ^ n = c * (vz B d n + d n * B ^ n)
    rw [vz_mul n, Int.mul_add, Int.mul_assoc]
theorem vz_vl {B : Nat} {d : Nat → Nat} : ∀ n, ((vl B d n : Nat) : Int) = vz B (fun k => (d k : Int)) n
  | 0 => rfl
  | n + 1 => by
    show ((vl B d n + d n * B ^ n : Nat) : Int) = vz B (fun k => (d k : Int)) n + (d n : Int) * (B : Int) ^ n
    rw [Int.natCast_add, vz_vl n, Int.natCast_mul, Int.natCast_pow]
theorem ip_pos {B : Int} (hB : 0 < B) : ∀ n : Nat, 0 < B ^ n
  | 0 => by simp
  | n + 1 => by rw [Int.pow_succ]; exact Int.mul_pos (ip_pos hB n) hB
theorem vz_ge {B : Int} {d : Nat → Int} (hB : 0 < B) : ∀ n, (∀ k, k < n → 0 ≤ d k) → 0 ≤ vz B d n
  | 0, _ => Int.le_refl _
  | n + 1, h => by
    show 0 ≤ vz B d n + d n * B ^ n
    have h1 := vz_ge hB n (fun k hk => h k (by omega))
    have h2 := Int.mul_nonneg (h n (by omega)) (Int.le_of_lt (ip_pos hB n))
    omega
theorem vz_lt {B : Int} {d : Nat → Int} (hB : 0 < B) : ∀ n, (∀ k, k < n → d k < B) → vz B d n < B ^ n
  | 0, _ => by show (0 : Int) < B ^ 0; simp
  | n + 1, h => by
    show vz B d n + d n * B ^ n < B ^ (n + 1)
    have h1 := vz_lt hB n (fun k hk => h k (by omega))
    have h2 := Int.mul_le_mul_of_nonneg_right (show d n ≤ B - 1 by have := h n (by omega); omega) (Int.le_of_lt (ip_pos hB n))
    rw [Int.sub_mul, Int.one_mul] at h2
    rw [Int.pow_succ, Int.mul_comm (B ^ n) B]
    omega
theorem dg_bd {B : Int} {s : Nat → Int} (hB : 0 < B) (i : Nat) : 0 ≤ dg B s i ∧ dg B s i < B := ⟨Int.emod_nonneg _ (by omega), Int.emod_lt_of_pos _ hB⟩
theorem cy_bd {B lo hi : Int} {s : Nat → Int} {n : Nat} (hB : 0 < B) (h1 : lo ≤ 0) (h2 : 0 ≤ hi) (hs : ∀ k, k < n → lo * (B - 1) ≤ s k ∧ s k ≤ (hi + 1) * (B - 1)) : ∀ i, i ≤ n → lo ≤ cy B s i ∧ cy B s i ≤ hi
  | 0, _ => ⟨h1, h2⟩
  | i + 1, hi' => by
    obtain ⟨a1, a2⟩ := cy_bd hB h1 h2 hs i (by omega)
    obtain ⟨b1, b2⟩ := hs i (by omega)
    rw [Int.mul_sub, Int.mul_one] at b1 b2
    rw [Int.add_mul, Int.one_mul] at b2
    refine ⟨Int.le_ediv_of_mul_le hB (by omega), Int.le_of_lt_add_one (Int.ediv_lt_of_lt_mul hB ?_)⟩
    rw [Int.add_mul, Int.one_mul]
    omega
/-- F's first n places hold v in digits below B -/
def ZM (B : Nat) (n : Nat) (F : Nat → Int64) (v : Nat) : Prop := ∃ e : Nat → Int, (∀ k, k < n → F k = lZ (e k)) ∧ (∀ k, k < n → 0 ≤ e k ∧ e k < B) ∧ vz B e n = v
theorem ZM.nm {F : Nat → Int64} {v : Nat} (h : ZM 65536 16 F v) : NM F v := by
  obtain ⟨e, h1, h2, h3⟩ := h
  refine ⟨fun k => (e k).toNat, fun k hk => ?_, fun k hk => (by have := h2 k hk; omega : (e k).toNat < 2 ^ 16), ?_⟩
  · rw [h1 k hk, lZ_N, Int.toNat_of_nonneg (h2 k hk).1]
  · apply Int.ofNat.inj
    show ((vl _ _ _ : Nat) : Int) = (v : Int)
    rw [vz_vl, ← h3]
    exact vz_eq 16 (fun i hi => Int.toNat_of_nonneg (h2 i hi).1)
theorem NM.zm {F : Nat → Int64} {v : Nat} (h : NM F v) : ZM 65536 16 F v := by
  obtain ⟨d, h1, h2, h3⟩ := h
  refine ⟨fun k => (d k : Int), fun k hk => (h1 k hk).trans (lZ_N _), fun k hk => (by have := h2 k hk; omega : 0 ≤ (d k : Int) ∧ (d k : Int) < 65536), ?_⟩
  rw [← h3, vz_vl]
theorem ZM.lt {B n : Nat} {F : Nat → Int64} {v : Nat} (hB : 0 < B) (h : ZM B n F v) : v < B ^ n := by
  obtain ⟨e, h1, h2, h3⟩ := h
  have := vz_lt (B := (B : Int)) (by omega) n (fun k hk => (h2 k hk).2)
  rw [h3, ← Int.natCast_pow] at this
  omega
/-- a load where the row written may be the row read -/
theorem ld_al {h0 : HP} {t nt a na : Nat} {T0 T A : Nat → Int64} {x : Int32} (i : Nat) (ht : h0[t]? = some (pJ nt T0)) (ha : h0[a]? = some (pJ na A)) (hT : T i = T0 i) (hx : x = nI i) (hi : i < na) (hb : i < 2 ^ 31) : ldJ (h0.set t (pJ nt T)) a x = some (A i) := by
  by_cases z : t = a
  · subst z
    have e1 : nt = na ∧ T0 = A := by simpa using Option.some.inj (ht.symm.trans ha)
    obtain ⟨rfl, rfl⟩ := e1
    rw [sJ_in i (hs_ ht) hx hi hb, hT]
  · exact sJ_in i (hn_ z ha) hx hi hb
/-- a loop of carries into the row t -/
theorem cyl {R : Type} {B : Int} {s : Nat → Int} {n : Nat} {h0 : HP} {t nt : Nat} {T0 : Nat → Int64} (L : Nat → HP → Int64 → Int32 → R)
    (st : ∀ i f T, i < n → (∀ k, i ≤ k → T k = T0 k) → L (f + 1) (h0.set t (pJ nt T)) (lZ (cy B s i)) (nI i) = L f (h0.set t (pJ nt (va_up T i (lZ (dg B s i))))) (lZ (cy B s (i + 1))) (nI (i + 1))) :
    ∀ r i f T, r + i = n → (∀ k, k < i → T k = lZ (dg B s k)) → (∀ k, i ≤ k → T k = T0 k) → ∃ T', L (r + f) (h0.set t (pJ nt T)) (lZ (cy B s i)) (nI i) = L f (h0.set t (pJ nt T')) (lZ (cy B s n)) (nI n) ∧ (∀ k, k < n → T' k = lZ (dg B s k)) ∧ ∀ k, n ≤ k → T' k = T0 k
  | 0, i, f, T, hr, h1, h2 => by
    have : i = n := by omega
    subst this
    exact ⟨T, by rw [Nat.zero_add], h1, h2⟩
  | r + 1, i, f, T, hr, h1, h2 => by
    obtain ⟨T', g1, g2, g3⟩ := cyl L st r (i + 1) f (va_up T i (lZ (dg B s i))) (by omega) (fun k hk => by
      by_cases z : k = i
      · rw [z, up_s]
      · rw [up_n z]; exact h1 k (by omega)) (fun k hk => by rw [up_n (by omega)]; exact h2 k (by omega))
    refine ⟨T', ?_, g2, g3⟩
    rw [show r + 1 + f = (r + f) + 1 by omega, st i (r + f) T (by omega) h2]
    exact g1
theorem cyl0 {R : Type} {B : Int} {s : Nat → Int} {n : Nat} {h0 : HP} {t nt : Nat} {T0 : Nat → Int64} (L : Nat → HP → Int64 → Int32 → R) (ht : h0[t]? = some (pJ nt T0))
    (st : ∀ i f T, i < n → (∀ k, i ≤ k → T k = T0 k) → L (f + 1) (h0.set t (pJ nt T)) (lZ (cy B s i)) (nI i) = L f (h0.set t (pJ nt (va_up T i (lZ (dg B s i))))) (lZ (cy B s (i + 1))) (nI (i + 1))) (f : Nat) :
    ∃ T', L (n + f) h0 0 0 = L f (h0.set t (pJ nt T')) (lZ (cy B s n)) (nI n) ∧ (∀ k, k < n → T' k = lZ (dg B s k)) ∧ ∀ k, n ≤ k → T' k = T0 k := by
  obtain ⟨T', g1, g2, g3⟩ := cyl L st n 0 f T0 rfl (fun k hk => absurd hk (Nat.not_lt_zero _)) (fun _ _ => rfl)
  rw [hid ht] at g1
  exact ⟨T', g1, g2, g3⟩
theorem zm_dg {B : Nat} {s : Nat → Int} {n : Nat} {F : Nat → Int64} {v : Nat} (hB : 0 < B) (h : ∀ k, k < n → F k = lZ (dg B s k)) (hv : vz B s n = (v : Int) + cy B s n * (B : Int) ^ n) : ZM B n F v :=
  ⟨_, h, fun k _ => dg_bd (by omega) k, by have := cy_sum (B := (B : Int)) (s := s) n; omega⟩
