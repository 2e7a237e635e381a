/-! the class's objects at their places -/
def ag (a b : Nat) (h h' : HP) : Prop := ∀ j, a ≤ j → j < b → h'[j]? = h[j]?
theorem agk {S : List Nat} {a b : Nat} {h h' : HP} (k : KP S h h') (n : ∀ j ∈ S, j < a ∨ b ≤ j) : ag a b h h' := fun j h1 h2 => k.2 j (fun q => by have := n j q; omega)
theorem ag.tr {a b : Nat} {h h' h'' : HP} (k : ag a b h h') (l : ag a b h' h'') : ag a b h h'' := fun j h1 h2 => (l j h1 h2).trans (k j h1 h2)
theorem ag.rf {a b : Nat} {h : HP} : ag a b h h := fun _ _ _ => rfl
theorem ag.sub {a b c d : Nat} {h h' : HP} (k : ag a b h h') (h1 : a ≤ c) (h2 : d ≤ b) : ag c d h h' := fun j h3 h4 => k j (by omega) (by omega)
theorem mob_ag {m v : Nat} {li : Int} {h h' : HP} (M : MOb m v li h) (k : ag m (m + 9) h h') : MOb m v li h' := by
  have e : ∀ i, i ≤ 8 → h'[m + i]? = h[m + i]? := fun i hi => k _ (by omega) (by omega)
  obtain ⟨m1, m2, ⟨m3, m4, m5, m6⟩, ⟨m7, m8, m9⟩⟩ := M
  exact ⟨(e 0 (by decide)).trans m1, by rw [e 1 (by decide)]; exact m2, ⟨by rw [e 2 (by decide)]; exact m3, by rw [e 3 (by decide)]; exact m4, by rw [e 4 (by decide)]; exact m5, by rw [e 5 (by decide)]; exact m6⟩, by rw [e 6 (by decide)]; exact m7, by rw [e 7 (by decide)]; exact m8, by rw [e 8 (by decide)]; exact m9⟩
theorem cv_ag {v a x : Nat} {h h' : HP} (c : CV v h a x) (k : h'[a]? = h[a]?) : CV v h' a x := by
  obtain ⟨F, f1, f2⟩ := c
  exact ⟨F, k.trans f1, f2⟩
theorem pv_ag {p x y z : Nat} {h h' : HP} (P : PVl p x y z h) (k : ag p (p + 4) h h') : PVl p x y z h' := by
  have e : ∀ i, i < 4 → h'[p + i]? = h[p + i]? := fun i hi => k _ (by omega) (by omega)
  exact ⟨(e 0 (by decide)).trans P.1, cv_ag P.2.1 (e 1 (by decide)), cv_ag P.2.2.1 (e 2 (by decide)), cv_ag P.2.2.2 (e 3 (by decide))⟩
theorem prw_ag {p : Nat} {h h' : HP} (P : PRw p h) (k : ag p (p + 4) h h') : PRw p h' := by
  have e : ∀ i, i < 4 → h'[p + i]? = h[p + i]? := fun i hi => k _ (by omega) (by omega)
  obtain ⟨a, b, c, d⟩ := P
  exact ⟨(e 0 (by decide)).trans a, by rw [e 1 (by decide)]; exact b, by rw [e 2 (by decide)]; exact c, by rw [e 3 (by decide)]; exact d⟩
theorem cal_ag {c kn m kb bm om sc : Nat} {li : Int} {h h' : HP} (C : CAl c kn m kb bm om sc li h) (k : ag c (sc + 6) h h') : CAl c kn m kb bm om sc li h' := by
  obtain ⟨⟨a, ⟨f, b1', b2'⟩, e⟩, M, cm, mm⟩ := C
  have ee : ∀ j, c ≤ j → j < sc + 6 → h'[j]? = h[j]? := k
  exact ⟨⟨by rw [ee c (by omega) (by omega)]; exact a, ⟨f, by rw [ee sc (by omega) (by omega)]; exact b1', b2'⟩, fun i hi => by rw [ee _ (by omega) (by omega)]; exact e i hi⟩, mob_ag M (k.sub (by omega) (by omega)), cm, mm⟩
section BND
variable {F : Type} {φ : Nat → F}
theorem pm_ag [Lean.Grind.Field F] {p i : Nat} {Q : F × F} {h h' : HP} (P : PM φ p i Q h) (k : ag p (p + 4) h h') : PM φ p i Q h' := by
  obtain ⟨x, y, z, T, p1, p2, p3⟩ := P
  exact ⟨x, y, z, T, pv_ag p1 k, p2, p3⟩
theorem ot_ag {b1 : Nat} {h h' : HP} (O : OTb b1 h) (k : ag b1 (b1 + 124) h h') : OTb b1 h' :=
  ⟨by obtain ⟨x, y, p⟩ := O.1; exact ⟨x, y, pv_ag p (k.sub (by omega) (by omega))⟩, fun i h1 h2 => prw_ag (O.2 i h1 h2) (k.sub (by omega) (by omega))⟩
def CUv [Lean.Grind.Field F] (φ : Nat → F) (li : Int) (h : HP) : Prop := CAl 110 111 112 122 123 124 125 li h ∧ MA 123 131 h ∧ MA 124 135 h ∧ h[111]? = some (pB 32 (fun _ => 0)) ∧ (∀ i, i < 16 → PM φ (131 + 8 * i) i (φ GX, φ GY) h) ∧ (∃ bv, CV PP h 122 bv ∧ ps φ bv = φ BB) ∧ OTb 135 h
theorem cuv_c [Lean.Grind.Field F] {li : Int} {h h' : HP} (C : CUv φ li h) (A : CAl 110 111 112 122 123 124 125 li h') (k0 : h'[111]? = h[111]?) (k1 : ag 122 125 h h') (k2 : ag 131 262 h h') : CUv φ li h' := by
  obtain ⟨_, ⟨f, f1, f2⟩, ⟨g, g1, g2⟩, a3, a4, ⟨bv, b1, b3⟩, a6⟩ := C
  exact ⟨A, ⟨f, (k1 123 (by decide) (by decide)).trans f1, f2⟩, ⟨g, (k1 124 (by decide) (by decide)).trans g1, g2⟩, k0.trans a3, fun i hi => pm_ag (a4 i hi) (k2.sub (by omega) (by omega)), ⟨bv, cv_ag b1 (k1 122 (by decide) (by decide)), b3⟩, ot_ag a6 (k2.sub (by omega) (by omega))⟩
theorem cuv_ag [Lean.Grind.Field F] {li : Int} {h h' : HP} (C : CUv φ li h) (k : ag 110 262 h h') : CUv φ li h' := cuv_c C (cal_ag C.1 (k.sub (by decide) (by decide))) (k 111 (by decide) (by decide)) (k.sub (by decide) (by decide)) (k.sub (by decide) (by decide))
theorem sho_ag {p a b c : Nat} {h h' : HP} (o : SHo p a b c h) (k : ∀ j, j = p ∨ j = a ∨ j = b ∨ j = c → h'[j]? = h[j]?) : SHo p a b c h' := by
  obtain ⟨u, t, s, w, f, h1, h2, h3, h4⟩ := o
  exact ⟨u, t, s, w, f, (k p (by simp)).trans h1, (k a (by simp)).trans h2, (k b (by simp)).trans h3, (k c (by simp)).trans h4⟩
/-- the Signer's nonces -/
def NO1 (key val : Nat → Int8) (h : HP) : Prop := ∃ sd, NOo 273 274 275 276 277 278 279 280 281 282 key val sd h
theorem no1_ag {key val : Nat → Int8} {h h' : HP} (N : NO1 key val h) (k : ag 273 283 h h') : NO1 key val h' := by
  obtain ⟨sd, n1, n2, n3, n4, n5, n6, n7⟩ := N
  refine ⟨sd, (k 273 (by decide) (by decide)).trans n1, sho_ag n2 (fun j hj => k j (by omega) (by omega)), (k 278 (by decide) (by decide)).trans n3, (k 279 (by decide) (by decide)).trans n4, (k 280 (by decide) (by decide)).trans n5, ?_, ?_⟩
  · rw [k 281 (by decide) (by decide)]; exact n6
  · rw [k 282 (by decide) (by decide)]; exact n7
/-- the Signer, but for its nonces -/
def SG1 (lj : Int) (h : HP) : Prop := SGo 262 h ∧ MOb 263 NN lj h ∧ PRw 283 h ∧ (∀ i, 287 ≤ i → i < 293 → ∃ G, h[i]? = some (pJ 9 G)) ∧ (∃ f, h[293]? = some (pB 32 f)) ∧ ∃ f, h[294]? = some (pB 32 f)
def SGn (lj : Int) (h : HP) : Prop := SG1 lj h ∧ ∃ key val, NO1 key val h
theorem sg1_ag {lj : Int} {h h' : HP} (S : SG1 lj h) (k1 : ag 262 272 h h') (k2 : ag 283 295 h h') : SG1 lj h' := by
  obtain ⟨a, b, c, d, e, f⟩ := S
  refine ⟨(k1 262 (by decide) (by decide)).trans a, mob_ag b (k1.sub (by decide) (by decide)), prw_ag c (k2.sub (by decide) (by decide)), fun i h1 h2 => ?_, ?_, ?_⟩
  · rw [k2 i (by omega) (by omega)]; exact d i h1 h2
  · rw [k2 293 (by decide) (by decide)]; exact e
  · rw [k2 294 (by decide) (by decide)]; exact f
theorem sgn_ag {lj : Int} {h h' : HP} (S : SGn lj h) (k : ag 262 295 h h') : SGn lj h' := by
  obtain ⟨a, key, val, b⟩ := S
  exact ⟨sg1_ag a (k.sub (by decide) (by decide)) (k.sub (by decide) (by decide)), key, val, no1_ag b (k.sub (by decide) (by decide))⟩
/-- the Signature -/
def SN1 (fr fs : Nat → Int8) (h : HP) : Prop := SNo 295 h ∧ h[296]? = some (pB 33 fr) ∧ h[297]? = some (pB 33 fs)
theorem sn1_ag {fr fs : Nat → Int8} {h h' : HP} (S : SN1 fr fs h) (k : ag 295 298 h h') : SN1 fr fs h' := ⟨(k 295 (by decide) (by decide)).trans S.1, (k 296 (by decide) (by decide)).trans S.2.1, (k 297 (by decide) (by decide)).trans S.2.2⟩
end BND
