/-! RINGS: how a ring of grind's is made; power series; pairs a + b Y with Y Y = f -/
def ncR {R : Type} (ad : R → R → R) (z o : R) : Nat → R
  | 0 => z
  | n + 1 => ad (ncR ad z o n) o
def icR {R : Type} (ad : R → R → R) (ng : R → R) (z o : R) : Int → R
  | .ofNat n => ncR ad z o n
  | .negSucc n => ng (ncR ad z o (n + 1))
def pwR {R : Type} (ml : R → R → R) (o a : R) : Nat → R
  | 0 => o
  | n + 1 => ml (pwR ml o a n) a
theorem ic_neg {R : Type} {ad : R → R → R} {ng : R → R} {z o : R} (a0 : ∀ a, ad a z = a) (ac : ∀ a b, ad a b = ad b a) (aa : ∀ a b c, ad (ad a b) c = ad a (ad b c)) (na : ∀ a, ad (ng a) a = z) : ∀ i : Int, icR ad ng z o (-i) = ng (icR ad ng z o i)
  | .ofNat 0 => by
    show z = ng z
    have := na z
    rw [a0] at this
    exact this.symm
  | .ofNat (n + 1) => rfl
  | .negSucc n => by
    show ncR ad z o (n + 1) = ng (ng (ncR ad z o (n + 1)))
    generalize ncR ad z o (n + 1) = a
    have h1 : ad (ad (ng (ng a)) (ng a)) a = ad (ng (ng a)) (ad (ng a) a) := aa _ _ _
    rw [na, na, a0, ac, a0] at h1
    exact h1
theorem ng_m {R : Type} {ad ml : R → R → R} {ng : R → R} {z : R} (a0 : ∀ a, ad a z = a) (ac : ∀ a b, ad a b = ad b a) (aa : ∀ a b c, ad (ad a b) c = ad a (ad b c)) (mc : ∀ a b, ml a b = ml b a) (md : ∀ a b c, ml a (ad b c) = ad (ml a b) (ml a c)) (m0 : ∀ a, ml z a = z) (na : ∀ a, ad (ng a) a = z) (x a : R) : ml (ng x) a = ng (ml x a) := by
  have h1 : ad (ml (ng x) a) (ml x a) = z := by rw [mc (ng x), mc x, ← md, na, mc, m0]
  have h2 : ad (ad (ml (ng x) a) (ml x a)) (ng (ml x a)) = ad (ml (ng x) a) (ad (ml x a) (ng (ml x a))) := aa _ _ _
  rw [h1, ac (ml x a), na, a0, ac, a0] at h2
  exact h2.symm
def mkCR {R : Type} (ad ml : R → R → R) (ng : R → R) (z o : R) (a0 : ∀ a, ad a z = a) (ac : ∀ a b, ad a b = ad b a) (aa : ∀ a b c, ad (ad a b) c = ad a (ad b c)) (ma : ∀ a b c, ml (ml a b) c = ml a (ml b c)) (mc : ∀ a b, ml a b = ml b a) (m1 : ∀ a, ml a o = a) (md : ∀ a b c, ml a (ad b c) = ad (ml a b) (ml a c)) (m0 : ∀ a, ml z a = z) (na : ∀ a, ad (ng a) a = z) : Lean.Grind.CommRing R :=
  { add := ad, mul := ml, neg := ng, sub := fun a b => ad a (ng b)
    natCast := ⟨ncR ad z o⟩, ofNat := fun n => ⟨ncR ad z o n⟩, nsmul := ⟨fun n a => ml (ncR ad z o n) a⟩, npow := ⟨fun a n => pwR ml (ad z o) a n⟩
    intCast := ⟨icR ad ng z o⟩, zsmul := ⟨fun i a => ml (icR ad ng z o i) a⟩
    add_zero := a0, add_comm := ac, add_assoc := aa, mul_assoc := ma, mul_comm := mc
    mul_one := fun a => by show ml a (ad z o) = a; rw [ac, a0, m1]
    one_mul := fun a => by show ml (ad z o) a = a; rw [ac, a0, mc, m1]
    left_distrib := md
    right_distrib := fun a b c => by show ml (ad a b) c = ad (ml a c) (ml b c); rw [mc, md, mc c a, mc c b]
    zero_mul := m0
    mul_zero := fun a => by show ml a z = z; rw [mc, m0]
    pow_zero := fun _ => rfl
    pow_succ := fun _ _ => rfl
    ofNat_succ := fun a => by show ad (ncR ad z o a) o = ad (ncR ad z o a) (ad z o); rw [ac z o, a0]
    ofNat_eq_natCast := fun _ => rfl
    nsmul_eq_natCast_mul := fun _ _ => rfl
    neg_add_cancel := na
    sub_eq_add_neg := fun _ _ => rfl
    neg_zsmul := fun i a => by
      show ml (icR ad ng z o (-i)) a = ng (ml (icR ad ng z o i) a)
      rw [ic_neg a0 ac aa na, ng_m a0 ac aa mc md m0 na]
    zsmul_natCast_eq_nsmul := fun _ _ => rfl
    intCast_ofNat := fun _ => rfl
    intCast_neg := fun i => ic_neg a0 ac aa na i }
def cvl {F : Type} [Lean.Grind.Field F] : (Nat → F) → (Nat → F) → Nat → F
  | a, b, 0 => a 0 * b 0
  | a, b, n + 1 => a 0 * b (n + 1) + cvl (fun k => a (k + 1)) b n
theorem cvl_addr {F : Type} [Lean.Grind.Field F] : ∀ (n : Nat) (a b c : Nat → F), cvl a (fun k => b k + c k) n = cvl a b n + cvl a c n
  | 0, a, b, c => by show a 0 * (b 0 + c 0) = a 0 * b 0 + a 0 * c 0; grind
  | n + 1, a, b, c => by
    show a 0 * (b (n + 1) + c (n + 1)) + cvl (fun k => a (k + 1)) (fun k => b k + c k) n = a 0 * b (n + 1) + cvl (fun k => a (k + 1)) b n + (a 0 * c (n + 1) + cvl (fun k => a (k + 1)) c n)
    rw [cvl_addr n]; grind
theorem cvl_tl {F : Type} [Lean.Grind.Field F] : ∀ (n : Nat) (a b : Nat → F), cvl a b (n + 1) = cvl a (fun k => b (k + 1)) n + b 0 * a (n + 1)
  | 0, a, b => by show a 0 * b 1 + a 1 * b 0 = a 0 * b 1 + b 0 * a 1; grind
  | n + 1, a, b => by
    show a 0 * b (n + 2) + cvl (fun k => a (k + 1)) b (n + 1) = a 0 * b (n + 2) + cvl (fun k => a (k + 1)) (fun k => b (k + 1)) n + b 0 * a (n + 2)
    rw [cvl_tl n]; grind
theorem cvl_comm {F : Type} [Lean.Grind.Field F] : ∀ (n : Nat) (a b : Nat → F), cvl a b n = cvl b a n
  | 0, a, b => by show a 0 * b 0 = b 0 * a 0; grind
  | n + 1, a, b => by
    rw [cvl_tl n b a]
    show a 0 * b (n + 1) + cvl (fun k => a (k + 1)) b n = _
    rw [cvl_comm n]; grind
theorem cvl_addl {F : Type} [Lean.Grind.Field F] (n : Nat) (a b c : Nat → F) : cvl (fun k => a k + b k) c n = cvl a c n + cvl b c n := by
  rw [cvl_comm, cvl_addr, cvl_comm n c a, cvl_comm n c b]
theorem cvl_sm {F : Type} [Lean.Grind.Field F] (c : F) : ∀ (n : Nat) (a b : Nat → F), cvl (fun k => c * a k) b n = c * cvl a b n
  | 0, a, b => by show c * a 0 * b 0 = c * (a 0 * b 0); grind
  | n + 1, a, b => by
    show c * a 0 * b (n + 1) + cvl (fun k => c * a (k + 1)) b n = c * (a 0 * b (n + 1) + cvl (fun k => a (k + 1)) b n)
    rw [cvl_sm c n]; grind
theorem cvl_ass {F : Type} [Lean.Grind.Field F] : ∀ (n : Nat) (a b c : Nat → F), cvl (cvl a b) c n = cvl a (cvl b c) n
  | 0, a, b, c => by show a 0 * b 0 * c 0 = a 0 * (b 0 * c 0); grind
  | n + 1, a, b, c => by
    show a 0 * b 0 * c (n + 1) + cvl (fun k => a 0 * b (k + 1) + cvl (fun k => a (k + 1)) b k) c n = a 0 * (b 0 * c (n + 1) + cvl (fun k => b (k + 1)) c n) + cvl (fun k => a (k + 1)) (cvl b c) n
    rw [cvl_addl n (fun k => a 0 * b (k + 1)) (cvl (fun k => a (k + 1)) b), cvl_sm, cvl_ass n]; grind
theorem cvl_0 {F : Type} [Lean.Grind.Field F] : ∀ (n : Nat) (a b : Nat → F), (∀ k, a k = 0) → cvl a b n = 0
  | 0, a, b, h => by show a 0 * b 0 = 0; rw [h]; grind
  | n + 1, a, b, h => by
    show a 0 * b (n + 1) + cvl (fun k => a (k + 1)) b n = 0
    rw [cvl_0 n _ b (fun k => h (k + 1)), h]; grind
theorem cvl_c {F : Type} [Lean.Grind.Field F] : ∀ (n : Nat) (a b : Nat → F), (∀ k, 0 < k → a k = 0) → cvl a b n = a 0 * b n
  | 0, a, b, h => rfl
  | n + 1, a, b, h => by
    show a 0 * b (n + 1) + cvl (fun k => a (k + 1)) b n = _
    rw [cvl_0 n _ b (fun k => h (k + 1) (by omega))]; grind
def pcf {F : Type} [Lean.Grind.Field F] (c : F) : Nat → F := fun k => if k = 0 then c else 0
theorem pc_0 {F : Type} [Lean.Grind.Field F] (c : F) {k : Nat} (h : 0 < k) : pcf c k = 0 := if_neg (by omega)
def psR {F : Type} [Lean.Grind.Field F] : Lean.Grind.CommRing (Nat → F) :=
  mkCR (fun a b k => a k + b k) cvl (fun a k => - a k) (fun _ => 0) (pcf 1)
    (fun a => funext fun k => by show a k + 0 = a k; grind) (fun a b => funext fun k => by show a k + b k = b k + a k; grind) (fun a b c => funext fun k => by show a k + b k + c k = a k + (b k + c k); grind)
    (fun a b c => funext fun n => cvl_ass n a b c) (fun a b => funext fun n => cvl_comm n a b)
    (fun a => funext fun n => by rw [cvl_comm, cvl_c n _ a (fun k hk => pc_0 1 hk)]; show (1 : F) * a n = a n; grind)
    (fun a b c => funext fun n => cvl_addr n a b c) (fun a => funext fun n => cvl_0 n _ a (fun _ => rfl))
    (fun a => funext fun k => by show - a k + a k = 0; grind)
def prR {S : Type} [Lean.Grind.CommRing S] (f : S) : Lean.Grind.CommRing (S × S) :=
  mkCR (fun u v => (u.1 + v.1, u.2 + v.2)) (fun u v => (u.1 * v.1 + u.2 * v.2 * f, u.1 * v.2 + u.2 * v.1)) (fun u => (- u.1, - u.2)) (0, 0) (1, 0)
    (fun a => Prod.ext (by show a.1 + 0 = a.1; grind) (by show a.2 + 0 = a.2; grind))
    (fun a b => Prod.ext (by show a.1 + b.1 = b.1 + a.1; grind) (by show a.2 + b.2 = b.2 + a.2; grind))
    (fun a b c => Prod.ext (by show a.1 + b.1 + c.1 = a.1 + (b.1 + c.1); grind) (by show a.2 + b.2 + c.2 = a.2 + (b.2 + c.2); grind))
    (fun a b c => Prod.ext (by show (a.1 * b.1 + a.2 * b.2 * f) * c.1 + (a.1 * b.2 + a.2 * b.1) * c.2 * f = a.1 * (b.1 * c.1 + b.2 * c.2 * f) + a.2 * (b.1 * c.2 + b.2 * c.1) * f; grind) (by show (a.1 * b.1 + a.2 * b.2 * f) * c.2 + (a.1 * b.2 + a.2 * b.1) * c.1 = a.1 * (b.1 * c.2 + b.2 * c.1) + a.2 * (b.1 * c.1 + b.2 * c.2 * f); grind))
    (fun a b => Prod.ext (by show a.1 * b.1 + a.2 * b.2 * f = b.1 * a.1 + b.2 * a.2 * f; grind) (by show a.1 * b.2 + a.2 * b.1 = b.1 * a.2 + b.2 * a.1; grind))
    (fun a => Prod.ext (by show a.1 * 1 + a.2 * 0 * f = a.1; grind) (by show a.1 * 0 + a.2 * 1 = a.2; grind))
    (fun a b c => Prod.ext (by show a.1 * (b.1 + c.1) + a.2 * (b.2 + c.2) * f = a.1 * b.1 + a.2 * b.2 * f + (a.1 * c.1 + a.2 * c.2 * f); grind) (by show a.1 * (b.2 + c.2) + a.2 * (b.1 + c.1) = a.1 * b.2 + a.2 * b.1 + (a.1 * c.2 + a.2 * c.1); grind))
    (fun a => Prod.ext (by show 0 * a.1 + 0 * a.2 * f = 0; grind) (by show 0 * a.2 + 0 * a.1 = 0; grind))
    (fun a => Prod.ext (by show - a.1 + a.1 = 0; grind) (by show - a.2 + a.2 = 0; grind))
theorem nr_mul {S : Type} [Lean.Grind.CommRing S] (f a b c d : S) : (a * c + b * d * f) * (a * c + b * d * f) - (a * d + b * c) * (a * d + b * c) * f = (a * a - b * b * f) * (c * c - d * d * f) := by grind
