/-! the curve's cubic has no root: x^p mod the cubic, and a Bezout pair -/
def BB : Nat := 41058363725152142129326129780047268409114441015993725554835256314039467401291
def tml (p b : Nat) (c d : Nat × Nat × Nat) : Nat × Nat × Nat :=
  ((c.1 * d.1 + (p - b) * (c.2.1 * d.2.2 + c.2.2 * d.2.1)) % p, (c.1 * d.2.1 + c.2.1 * d.1 + 3 * (c.2.1 * d.2.2 + c.2.2 * d.2.1) + (p - b) * (c.2.2 * d.2.2)) % p, (c.1 * d.2.2 + c.2.1 * d.2.1 + c.2.2 * d.1 + 3 * (c.2.2 * d.2.2)) % p)
def tpw (p b : Nat) : Nat → Nat × Nat × Nat → Nat → Nat × Nat × Nat → Nat × Nat × Nat
  | 0, _, _, c => c
  | f + 1, s, e, c => tpw p b f (tml p b s s) (e / 2) (if e % 2 = 1 then tml p b c s else c)
section NRT
variable {F : Type} {p : Nat} {φ : Nat → F}
theorem zf_0 [Lean.Grind.Field F] (Z : ZF p φ) : φ 0 = 0 := by
  have := Z.1 0 0
  rw [Nat.zero_add] at this
  grind
theorem zf_md [Lean.Grind.Field F] (Z : ZF p φ) (x : Nat) : φ (x % p) = φ x := (Z.2.2.2.1 _ _).mpr (Nat.mod_mod x p)
theorem zf_pw [Lean.Grind.Field F] (Z : ZF p φ) (x : Nat) : ∀ k : Nat, φ (x ^ k) = φ x ^ k
  | 0 => by rw [Nat.pow_zero, Z.2.2.1]; exact (Lean.Grind.Semiring.pow_zero _).symm
  | k + 1 => by rw [Nat.pow_succ, Z.2.1, zf_pw Z x k]; exact (Lean.Grind.Semiring.pow_succ _ _).symm
def tev [Lean.Grind.Field F] (φ : Nat → F) (x : F) (c : Nat × Nat × Nat) : F := φ c.1 + φ c.2.1 * x + φ c.2.2 * (x * x)
theorem tm_ar [Lean.Grind.Field F] {x b c0 c1 c2 d0 d1 d2 m : F} (h : x * x * x = 3 * x - b) (k : m = -b) : c0 * d0 + m * (c1 * d2 + c2 * d1) + (c0 * d1 + c1 * d0 + 3 * (c1 * d2 + c2 * d1) + m * (c2 * d2)) * x + (c0 * d2 + c1 * d1 + c2 * d0 + 3 * (c2 * d2)) * (x * x) = (c0 + c1 * x + c2 * (x * x)) * (d0 + d1 * x + d2 * (x * x)) := by grind
theorem zf_sb [Lean.Grind.Field F] (Z : ZF p φ) {b : Nat} (hb : b ≤ p) : φ (p - b) = - φ b := by
  have h1 := Z.1 (p - b) b
  rw [Nat.sub_add_cancel hb, show φ p = 0 by rw [← zf_md Z, Nat.mod_self, zf_0 Z]] at h1
  grind
theorem zf_3 [Lean.Grind.Field F] (Z : ZF p φ) : φ 3 = 3 := by
  have h1 := Z.1 1 1
  have h2 := Z.1 2 1
  rw [Z.2.2.1] at h1 h2
  have h1 : φ 2 = 1 + 1 := h1
  have h2 : φ 3 = φ 2 + 1 := h2
  rw [h2, h1]
  grind
theorem tm_ok [Lean.Grind.Field F] (Z : ZF p φ) {b : Nat} (hb : b ≤ p) {x : F} (h : x * x * x = 3 * x - φ b) (c d : Nat × Nat × Nat) : tev φ x (tml p b c d) = tev φ x c * tev φ x d := by
  have k := zf_sb Z hb
  have k3 := zf_3 Z
  show φ (_ % p) + φ (_ % p) * x + φ (_ % p) * (x * x) = (φ c.1 + φ c.2.1 * x + φ c.2.2 * (x * x)) * (φ d.1 + φ d.2.1 * x + φ d.2.2 * (x * x))
  rw [zf_md Z, zf_md Z, zf_md Z, ← tm_ar h k]
  simp only [Z.1, Z.2.1, k3]
theorem tp_ok [Lean.Grind.Field F] (Z : ZF p φ) {b : Nat} (hb : b ≤ p) {x : F} (h : x * x * x = 3 * x - φ b) : ∀ (f : Nat) (s : Nat × Nat × Nat) (e : Nat) (c : Nat × Nat × Nat), e < 2 ^ f → tev φ x (tpw p b f s e c) = tev φ x c * tev φ x s ^ e
  | 0, s, e, c, he => by
    have : e = 0 := by simp at he; exact he
    show tev φ x c = _
    rw [this, Lean.Grind.Semiring.pow_zero, Lean.Grind.Semiring.mul_one]
  | f + 1, s, e, c, he => by
    show tev φ x (tpw p b f (tml p b s s) (e / 2) (if e % 2 = 1 then tml p b c s else c)) = _
    rw [tp_ok Z hb h f _ _ _ (by rw [Nat.pow_succ] at he; omega), tm_ok Z hb h]
    generalize hS : tev φ x s = S
    have e1 : (S * S) ^ (e / 2) = S ^ (e / 2 + e / 2) := by
      rw [Lean.Grind.Semiring.pow_add]
      generalize e / 2 = k
      induction k with
      | zero => simp only [Lean.Grind.Semiring.pow_zero, Lean.Grind.Semiring.mul_one]
      | succ k ih => rw [Lean.Grind.Semiring.pow_succ, Lean.Grind.Semiring.pow_succ, ih]; grind
    rw [e1]
    by_cases z : e % 2 = 1
    · rw [if_pos z, tm_ok Z hb h, hS, show e = (e / 2 + e / 2) + 1 by omega, Lean.Grind.Semiring.pow_succ, show (e / 2 + e / 2 + 1) / 2 = e / 2 by omega, Lean.Grind.Semiring.mul_assoc, Lean.Grind.CommSemiring.mul_comm S]
    · rw [if_neg z]
      congr 2
      omega
theorem nr_ar [Lean.Grind.Field F] {x b u0 u1 v0 v1 v2 r0 s1 r2 m : F} (k0 : u0 * b + v0 * r0 = 1) (k1 : u0 * m + u1 * b + v0 * s1 + v1 * r0 = 0) (k2 : u1 * m + v0 * r2 + v1 * s1 + v2 * r0 = 0) (k3 : u0 + v1 * r2 + v2 * s1 = 0) (k4 : u1 + v2 * r2 = 0) (h1 : x * x * x + m * x + b = 0) (h2 : r0 + s1 * x + r2 * (x * x) = 0) : (1 : F) = 0 := by
  have e : (u0 + u1 * x) * (x * x * x + m * x + b) + (v0 + v1 * x + v2 * (x * x)) * (r0 + s1 * x + r2 * (x * x)) = (u0 * b + v0 * r0) + (u0 * m + u1 * b + v0 * s1 + v1 * r0) * x + (u1 * m + v0 * r2 + v1 * s1 + v2 * r0) * (x * x) + (u0 + v1 * r2 + v2 * s1) * (x * x * x) + (u1 + v2 * r2) * (x * x * x * x) := by grind
  rw [h1, h2, k0, k1, k2, k3, k4] at e
  grind
theorem no_rt [Lean.Grind.Field F] {φ : Nat → F} (Z : ZF PP φ) (x : F) : x * x * x + (-3) * x + φ BB ≠ 0 := by
  intro h
  have h3 : x * x * x = 3 * x - φ BB := by grind
  have hb : BB ≤ PP := by decide
  have hx : x ^ PP = x := by
    obtain ⟨e, he, rfl⟩ := Z.2.2.2.2 x
    rw [← zf_pw Z]
    refine (Z.2.2.2.1 _ _).mpr ?_
    by_cases z : PP ∣ e
    · have : e = 0 := Nat.eq_zero_of_dvd_of_lt z he
      rw [this, Nat.zero_pow (by decide)]
    · rw [show PP = (PP - 1) + 1 from (Nat.sub_add_cancel (by decide)).symm, Nat.pow_succ, Nat.sub_add_cancel (show 1 ≤ PP by decide), Nat.mul_mod, fermat pr_P z, Nat.one_mul, Nat.mod_mod]
  have h4 := tp_ok Z hb h3 256 (0, 1, 0) PP (1, 0, 0) (by decide)
  rw [show tpw PP BB 256 (0, 1, 0) PP (1, 0, 0) = (66434390973925144466073271287821796038003695194169110494110089305650096453661, 12402202686218762177567235911775779164004716598278868847786114277539554646092, 24678849118215552148312087830792888746041224110560601850711771001608500700145) by decide +kernel] at h4
  have t0 := zf_0 Z
  have t1 := Z.2.2.1
  have e1 : tev φ x (0, 1, 0) = x := by
    show φ 0 + φ 1 * x + φ 0 * (x * x) = x
    rw [t0, t1]; grind
  have e2 : tev φ x (1, 0, 0) = 1 := by
    show φ 1 + φ 0 * x + φ 0 * (x * x) = 1
    rw [t0, t1]; grind
  rw [e1, e2, hx] at h4
  have h5 : φ 66434390973925144466073271287821796038003695194169110494110089305650096453661 + φ 12402202686218762177567235911775779164004716598278868847786114277539554646091 * x + φ 24678849118215552148312087830792888746041224110560601850711771001608500700145 * (x * x) = 0 := by
    have h6 : φ 66434390973925144466073271287821796038003695194169110494110089305650096453661 + φ 12402202686218762177567235911775779164004716598278868847786114277539554646092 * x + φ 24678849118215552148312087830792888746041224110560601850711771001608500700145 * (x * x) = 1 * x := h4
    have h7 : φ 12402202686218762177567235911775779164004716598278868847786114277539554646091 + 1 = φ 12402202686218762177567235911775779164004716598278868847786114277539554646092 := by
      rw [← t1, ← Z.1]
    rw [← h7] at h6
    grind
  have mm : φ (PP - 3) = -3 := by rw [zf_sb Z (by decide), zf_3 Z]
  have q : ∀ {a c : Nat}, a % PP = c % PP → φ a = φ c := fun e => (Z.2.2.2.1 _ _).mpr e
  have k0 : φ (107286402702237026811154678719514266289498743974321057492273529440068429825344 * BB + 76626890310466861426869089647039036757962535851890885406097439786770458211455 * 66434390973925144466073271287821796038003695194169110494110089305650096453661) = φ 1 := q (by decide +kernel)
  have k1 : φ (107286402702237026811154678719514266289498743974321057492273529440068429825344 * (PP - 3) + 6389611969556882025875921584714237703390037729321797349080302270353162149340 * BB + 76626890310466861426869089647039036757962535851890885406097439786770458211455 * 12402202686218762177567235911775779164004716598278868847786114277539554646091 + 74462945259064871768191128030512052509059297803194871526163573358218695456204 * 66434390973925144466073271287821796038003695194169110494110089305650096453661) = φ 0 := q (by decide +kernel)
  have k2 : φ (6389611969556882025875921584714237703390037729321797349080302270353162149340 * (PP - 3) + 76626890310466861426869089647039036757962535851890885406097439786770458211455 * 24678849118215552148312087830792888746041224110560601850711771001608500700145 + 74462945259064871768191128030512052509059297803194871526163573358218695456204 * 12402202686218762177567235911775779164004716598278868847786114277539554646091 + 34768139465301476436978405170953382516735956999154666452188405812258086013549 * 66434390973925144466073271287821796038003695194169110494110089305650096453661) = φ 0 := q (by decide +kernel)
  have k3 : φ (107286402702237026811154678719514266289498743974321057492273529440068429825344 + 74462945259064871768191128030512052509059297803194871526163573358218695456204 * 24678849118215552148312087830792888746041224110560601850711771001608500700145 + 34768139465301476436978405170953382516735956999154666452188405812258086013549 * 12402202686218762177567235911775779164004716598278868847786114277539554646091) = φ 0 := q (by decide +kernel)
  have k4 : φ (6389611969556882025875921584714237703390037729321797349080302270353162149340 + 34768139465301476436978405170953382516735956999154666452188405812258086013549 * 24678849118215552148312087830792888746041224110560601850711771001608500700145) = φ 0 := q (by decide +kernel)
  simp only [Z.1, Z.2.1, t0, t1, mm] at k0 k1 k2 k3 k4
  exact Lean.Grind.Field.zero_ne_one (nr_ar k0 k1 k2 k3 k4 h h5).symm
end NRT
