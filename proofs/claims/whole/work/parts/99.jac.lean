/-! JACOBI's coordinates: the class's formulas -/
section JC
variable {F : Type}
def tSl [Lean.Grind.Field F] (x z : F) : F := ((x + z * z) * (x - z * z) + (x + z * z) * (x - z * z)) + (x + z * z) * (x - z * z)
def tXY [Lean.Grind.Field F] (x y : F) : F := (x * (y * y) + x * (y * y)) + (x * (y * y) + x * (y * y))
def tX [Lean.Grind.Field F] (x y z : F) : F := tSl x z * tSl x z - tXY x y - tXY x y
def tY [Lean.Grind.Field F] (x y z : F) : F := tSl x z * (tXY x y - tX x y z) - ((y * y + y * y) * (y * y + y * y) + (y * y + y * y) * (y * y + y * y))
def tZ [Lean.Grind.Field F] (y z : F) : F := y * z + y * z
/-- x, y, z stand for the point S -/
def JP [Lean.Grind.Field F] (x y z : F) (S : Option (F × F)) : Prop := (z = 0 ∧ S = none) ∨ (z ≠ 0 ∧ ∃ X Y, S = some (X, Y) ∧ x = X * (z * z) ∧ y = Y * (z * z * z))
theorem tw_ar [Lean.Grind.Field F] {X Y z l z' : F} (hl : l * (Y + Y) = 3 * (X * X) + -3) (hz : z' = tZ (Y * (z * z * z)) z) :
    tX (X * (z * z)) (Y * (z * z * z)) z = (l * l - X - X) * (z' * z') ∧ tY (X * (z * z)) (Y * (z * z * z)) z = (l * (X - (l * l - X - X)) - Y) * (z' * z' * z') := by
  have h1 : tSl (X * (z * z)) z = l * z' := by
    rw [hz]
    show ((X * (z * z) + z * z) * (X * (z * z) - z * z) + (X * (z * z) + z * z) * (X * (z * z) - z * z)) + (X * (z * z) + z * z) * (X * (z * z) - z * z) = l * (Y * (z * z * z) * z + Y * (z * z * z) * z)
    have : l * (Y * (z * z * z) * z + Y * (z * z * z) * z) = l * (Y + Y) * (z * z * z * z) := by grind
    rw [this, hl]
    grind
  have h2 : tXY (X * (z * z)) (Y * (z * z * z)) = X * (z' * z') := by
    rw [hz]
    show (X * (z * z) * (Y * (z * z * z) * (Y * (z * z * z))) + X * (z * z) * (Y * (z * z * z) * (Y * (z * z * z)))) + (X * (z * z) * (Y * (z * z * z) * (Y * (z * z * z))) + X * (z * z) * (Y * (z * z * z) * (Y * (z * z * z)))) = X * ((Y * (z * z * z) * z + Y * (z * z * z) * z) * (Y * (z * z * z) * z + Y * (z * z * z) * z))
    grind
  have h3 : (Y * (z * z * z) * (Y * (z * z * z)) + Y * (z * z * z) * (Y * (z * z * z))) * (Y * (z * z * z) * (Y * (z * z * z)) + Y * (z * z * z) * (Y * (z * z * z))) + (Y * (z * z * z) * (Y * (z * z * z)) + Y * (z * z * z) * (Y * (z * z * z))) * (Y * (z * z * z) * (Y * (z * z * z)) + Y * (z * z * z) * (Y * (z * z * z))) = Y * (z' * z' * z') := by
    rw [hz]
    show _ = Y * ((Y * (z * z * z) * z + Y * (z * z * z) * z) * (Y * (z * z * z) * z + Y * (z * z * z) * z) * (Y * (z * z * z) * z + Y * (z * z * z) * z))
    grind
  have h4 : tX (X * (z * z)) (Y * (z * z * z)) z = (l * l - X - X) * (z' * z') := by
    show tSl (X * (z * z)) z * tSl (X * (z * z)) z - tXY (X * (z * z)) (Y * (z * z * z)) - tXY (X * (z * z)) (Y * (z * z * z)) = _
    rw [h1, h2]; grind
  refine ⟨h4, ?_⟩
  show tSl (X * (z * z)) z * (tXY (X * (z * z)) (Y * (z * z * z)) - tX (X * (z * z)) (Y * (z * z * z)) z) - _ = _
  rw [h1, h2, h3, h4]; grind
theorem j_tw [Lean.Grind.Field F] {a6 : F} (h2 : (2 : F) ≠ 0) (hr : ∀ x : F, x * x * x + (-3) * x + a6 ≠ 0) {x y z : F} {S : Option (F × F)} (hS : OC (-3) a6 S) (h : JP x y z S) : ∃ R, ADD (-3) S S R ∧ JP (tX x y z) (tY x y z) (tZ y z) R := by
  rcases h with ⟨rfl, rfl⟩ | ⟨hz, X, Y, rfl, rfl, rfl⟩
  · refine ⟨none, Or.inl ⟨rfl, rfl⟩, Or.inl ⟨?_, rfl⟩⟩
    show y * 0 + y * 0 = 0
    grind
  · have c := hS X Y rfl
    have hY : Y ≠ 0 := by have := hr X; grind
    have hYY : Y + Y ≠ 0 := by
      have := f_nz h2 hY
      grind
    have hi := Lean.Grind.Field.inv_mul_cancel hYY
    have hl : (3 * (X * X) + -3) * (Y + Y)⁻¹ * (Y + Y) = 3 * (X * X) + -3 := by rw [Lean.Grind.Semiring.mul_assoc, hi]; grind
    generalize (3 * (X * X) + -3) * (Y + Y)⁻¹ = l at hl
    obtain ⟨g1, g2⟩ := tw_ar (z := z) hl rfl
    refine ⟨some (l * l - X - X, l * (X - (l * l - X - X)) - Y), Or.inr (Or.inr ⟨X, Y, X, Y, rfl, rfl, Or.inr ⟨l, Or.inl ⟨rfl, rfl, hl⟩, rfl⟩⟩), Or.inr ⟨?_, _, _, rfl, g1, g2⟩⟩
    show Y * (z * z * z) * z + Y * (z * z * z) * z ≠ 0
    have := f_nz hYY (f_nz (f_nz (f_nz hz hz) hz) hz)
    grind
/-- the sum of two points with different x, brought to one z -/
def aX [Lean.Grind.Field F] (ax rn rs : F) : F := rs * rs - rn * rn * rn - ax * (rn * rn) - ax * (rn * rn)
def aY [Lean.Grind.Field F] (ax ay rn rs : F) : F := rs * (ax * (rn * rn) - aX ax rn rs) - ay * (rn * rn * rn)
theorem ad_ar [Lean.Grind.Field F] {X1 Y1 X2 Y2 w l z' rn rs : F} (hl : l * (X2 - X1) = Y2 - Y1) (hn : rn = X2 * (w * w) - X1 * (w * w)) (hs : rs = Y2 * (w * w * w) - Y1 * (w * w * w)) (hz : z' = w * rn) :
    aX (X1 * (w * w)) rn rs = (l * l - X1 - X2) * (z' * z') ∧ aY (X1 * (w * w)) (Y1 * (w * w * w)) rn rs = (l * (X1 - (l * l - X1 - X2)) - Y1) * (z' * z' * z') := by
  have h1 : rs = l * z' := by
    have : rs = (Y2 - Y1) * (w * w * w) := by grind
    rw [this, ← hl, hz, hn]; grind
  have h2 : rn * rn * rn = (X2 - X1) * (z' * z') := by
    have : rn * rn * rn = rn * (rn * rn) := by grind
    rw [this, hz]
    have : rn = (X2 - X1) * (w * w) := by grind
    have e : rn * (rn * rn) = (X2 - X1) * (w * w) * (rn * rn) := by rw [← this]
    rw [e]; grind
  have h3 : X1 * (w * w) * (rn * rn) = X1 * (z' * z') := by rw [hz]; grind
  have h4 : Y1 * (w * w * w) * (rn * rn * rn) = Y1 * (z' * z' * z') := by rw [hz]; grind
  have h5 : aX (X1 * (w * w)) rn rs = (l * l - X1 - X2) * (z' * z') := by
    show rs * rs - rn * rn * rn - X1 * (w * w) * (rn * rn) - X1 * (w * w) * (rn * rn) = _
    rw [h2, h3, h1]; grind
  refine ⟨h5, ?_⟩
  show rs * (X1 * (w * w) * (rn * rn) - aX (X1 * (w * w)) rn rs) - Y1 * (w * w * w) * (rn * rn * rn) = _
  rw [h5, h3, h4, h1]; grind
theorem j_ap [Lean.Grind.Field F] {x1 y1 z1 x2 y2 z2 : F} {S T : Option (F × F)} (h1 : JP x1 y1 z1 S) (h2 : JP x2 y2 z2 T) (n1 : z1 ≠ 0) (n2 : z2 ≠ 0) (hx : x1 * (z2 * z2) ≠ x2 * (z1 * z1)) :
    ∃ R, ADD (-3) S T R ∧ JP (aX (x1 * (z2 * z2)) (x2 * (z1 * z1) - x1 * (z2 * z2)) (y2 * (z1 * z1 * z1) - y1 * (z2 * z2 * z2))) (aY (x1 * (z2 * z2)) (y1 * (z2 * z2 * z2)) (x2 * (z1 * z1) - x1 * (z2 * z2)) (y2 * (z1 * z1 * z1) - y1 * (z2 * z2 * z2))) (z1 * z2 * (x2 * (z1 * z1) - x1 * (z2 * z2))) R := by
  rcases h1 with ⟨e, _⟩ | ⟨_, X1, Y1, rfl, rfl, rfl⟩
  · exact absurd e n1
  rcases h2 with ⟨e, _⟩ | ⟨_, X2, Y2, rfl, rfl, rfl⟩
  · exact absurd e n2
  have e1 : X1 * (z1 * z1) * (z2 * z2) = X1 * (z1 * z2 * (z1 * z2)) := by grind
  have e2 : X2 * (z2 * z2) * (z1 * z1) = X2 * (z1 * z2 * (z1 * z2)) := by grind
  have e3 : Y1 * (z1 * z1 * z1) * (z2 * z2 * z2) = Y1 * (z1 * z2 * (z1 * z2) * (z1 * z2)) := by grind
  have e4 : Y2 * (z2 * z2 * z2) * (z1 * z1 * z1) = Y2 * (z1 * z2 * (z1 * z2) * (z1 * z2)) := by grind
  rw [e1, e2] at hx
  rw [e1, e2, e3, e4]
  have hX : X2 - X1 ≠ 0 := fun e => hx (by rw [show X1 = X2 by grind])
  have nw : z1 * z2 ≠ 0 := f_nz n1 n2
  generalize z1 * z2 = w at *
  have hi := Lean.Grind.Field.inv_mul_cancel hX
  have hl : (Y2 - Y1) * (X2 - X1)⁻¹ * (X2 - X1) = Y2 - Y1 := by rw [Lean.Grind.Semiring.mul_assoc, hi]; grind
  generalize (Y2 - Y1) * (X2 - X1)⁻¹ = l at hl
  obtain ⟨g1, g2⟩ := ad_ar (w := w) hl rfl rfl rfl
  refine ⟨some (l * l - X1 - X2, l * (X1 - (l * l - X1 - X2)) - Y1), Or.inr (Or.inr ⟨X1, Y1, X2, Y2, rfl, rfl, Or.inr ⟨l, Or.inr ⟨fun e => hX (by grind), hl⟩, rfl⟩⟩), Or.inr ⟨?_, _, _, rfl, g1, g2⟩⟩
  have := f_nz nw (f_nz hX (f_nz nw nw))
  grind
theorem j_eq [Lean.Grind.Field F] {a6 : F} {x1 y1 z1 x2 y2 z2 : F} {S T : Option (F × F)} (hS : OC (-3) a6 S) (hT : OC (-3) a6 T) (h1 : JP x1 y1 z1 S) (h2 : JP x2 y2 z2 T) (n1 : z1 ≠ 0) (n2 : z2 ≠ 0) (hx : x1 * (z2 * z2) = x2 * (z1 * z1)) :
    (y1 * (z2 * z2 * z2) = y2 * (z1 * z1 * z1) → S = T) ∧ (y1 * (z2 * z2 * z2) ≠ y2 * (z1 * z1 * z1) → ADD (-3) S T none) := by
  rcases h1 with ⟨e, _⟩ | ⟨_, X1, Y1, rfl, rfl, rfl⟩
  · exact absurd e n1
  rcases h2 with ⟨e, _⟩ | ⟨_, X2, Y2, rfl, rfl, rfl⟩
  · exact absurd e n2
  have c1 := hS X1 Y1 rfl
  have c2 := hT X2 Y2 rfl
  have e1 : X1 * (z1 * z1) * (z2 * z2) = X1 * (z1 * z2 * (z1 * z2)) := by grind
  have e2 : X2 * (z2 * z2) * (z1 * z1) = X2 * (z1 * z2 * (z1 * z2)) := by grind
  have e3 : Y1 * (z1 * z1 * z1) * (z2 * z2 * z2) = Y1 * (z1 * z2 * (z1 * z2) * (z1 * z2)) := by grind
  have e4 : Y2 * (z2 * z2 * z2) * (z1 * z1 * z1) = Y2 * (z1 * z2 * (z1 * z2) * (z1 * z2)) := by grind
  rw [e1, e2] at hx
  rw [e3, e4]
  have nw : z1 * z2 ≠ 0 := f_nz n1 n2
  generalize z1 * z2 = w at *
  have hX : X1 = X2 := by
    refine Classical.byContradiction fun q => ?_
    have := f_nz (show X1 - X2 ≠ 0 by grind) (f_nz nw nw)
    grind
  subst hX
  constructor
  · intro e
    have : Y1 = Y2 := by
      refine Classical.byContradiction fun q => ?_
      have := f_nz (show Y1 - Y2 ≠ 0 by grind) (f_nz (f_nz nw nw) nw)
      grind
    rw [this]
  · intro e
    refine Or.inr (Or.inr ⟨X1, Y1, X1, Y2, rfl, rfl, Or.inl ⟨rfl, ?_, rfl⟩⟩)
    have hY : Y1 - Y2 ≠ 0 := fun q => e (by rw [show Y1 = Y2 by grind])
    refine Classical.byContradiction fun q => ?_
    have := f_nz hY (show Y1 + Y2 ≠ 0 by grind)
    grind
end JC
