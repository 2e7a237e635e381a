/-! MULTIPLES of points, as classes of lists; the base has the order NN -/
def GX : Nat := 48439561293906451759052585252797914202762949526041747995844080717082404635286
def GY : Nat := 36134250956749795798585127919587881956611106672985015071877198253568414405109
section ML
variable {F : Type} {φ : Nat → F}
def EL [Lean.Grind.Field F] (φ : Nat → F) (D E : List (F × F)) : Prop := @EQ F _ _ (CA (-3) (φ BB)) cc cX cY PL D E
theorem zf_2 [Lean.Grind.Field F] (Z : ZF PP φ) : (2 : F) ≠ 0 := by
  have h := Z.1 1 1
  rw [Z.2.2.1] at h
  intro e
  have : φ 2 = φ 0 := by
    rw [zf_0 Z]
    have : φ 2 = 1 + 1 := h
    rw [this]
    grind
  exact absurd ((Z.2.2.2.1 _ _).mp this) (by decide)
/-- the points of the list D add up to S -/
def LSm [Lean.Grind.Field F] (φ : Nat → F) (D : List (F × F)) (S : Option (F × F)) : Prop := OC (-3) (φ BB) S ∧ EL φ D S.toList
theorem ls_o [Lean.Grind.Field F] : LSm φ [] none := ⟨fun x y e => by simp at e, @eq_rf F _ _ _ _ _ _ _ _ _ (CA (-3) (φ BB)) (itf _ _) _⟩
theorem ls_1 [Lean.Grind.Field F] {P : F × F} (h : OC (-3) (φ BB) (some P)) : LSm φ [P] (some P) := ⟨h, @eq_rf F _ _ _ _ _ _ _ _ _ (CA (-3) (φ BB)) (itf _ _) _⟩
theorem ls_p [Lean.Grind.Field F] {D E : List (F × F)} {S : Option (F × F)} (h : LSm φ D S) (p : List.Perm E D) : LSm φ E S := ⟨h.1, @eq_tr F _ _ _ _ _ _ _ _ _ (CA (-3) (φ BB)) (itf _ _) _ _ _ (@eq_perm F _ _ _ _ _ _ _ _ _ (CA (-3) (φ BB)) (itf _ _) _ _ p) h.2⟩
theorem ls_add [Lean.Grind.Field F] (Z : ZF PP φ) {D E : List (F × F)} {S T R : Option (F × F)} (h : LSm φ D S) (k : LSm φ E T) (a : ADD (-3) S T R) : LSm φ (D ++ E) R := by
  obtain ⟨g1, g2⟩ := @ad_eq F _ _ _ _ _ _ _ _ _ (CA (-3) (φ BB)) (itf _ _) (zf_2 Z) (no_rt Z) _ _ _ h.1 k.1 a
  exact ⟨g1, @eq_tr F _ _ _ _ _ _ _ _ _ (CA (-3) (φ BB)) (itf _ _) _ _ _ (@eq_app2 F _ _ _ _ _ _ _ _ _ (CA (-3) (φ BB)) (itf _ _) _ _ _ _ h.2 k.2) g2⟩
theorem ls_uq [Lean.Grind.Field F] (Z : ZF PP φ) {D : List (F × F)} {S T : Option (F × F)} (h : LSm φ D S) (k : LSm φ D T) : S = T :=
  @uq_s F _ _ _ _ _ _ _ _ _ (CA (-3) (φ BB)) (itf _ _) (zf_2 Z) (no_rt Z) _ _ h.1 k.1 (@eq_tr F _ _ _ _ _ _ _ _ _ (CA (-3) (φ BB)) (itf _ _) _ _ _ (@eq_sy F _ _ _ _ _ _ (CA (-3) (φ BB)) _ _ h.2) k.2)
/-- S is P taken k times -/
def ML [Lean.Grind.Field F] (φ : Nat → F) (k : Nat) (P : F × F) (S : Option (F × F)) : Prop := LSm φ (List.replicate k P) S
theorem ml_add [Lean.Grind.Field F] (Z : ZF PP φ) {j k : Nat} {P : F × F} {S T R : Option (F × F)} (h : ML φ j P S) (k' : ML φ k P T) (a : ADD (-3) S T R) : ML φ (j + k) P R := by
  have := ls_add Z h k' a
  rw [List.replicate_append_replicate] at this
  exact this
/-- Jacobi's coordinates over numbers -/
def nml (x y : Nat) : Nat := x * y % PP
def nad (x y : Nat) : Nat := (x + y) % PP
def nsb (x y : Nat) : Nat := (x + (PP - y % PP)) % PP
theorem n_ml [Lean.Grind.Field F] (Z : ZF PP φ) (x y : Nat) : φ (nml x y) = φ x * φ y := by unfold nml; rw [zf_md Z, Z.2.1]
theorem n_ad [Lean.Grind.Field F] (Z : ZF PP φ) (x y : Nat) : φ (nad x y) = φ x + φ y := by unfold nad; rw [zf_md Z, Z.1]
theorem n_sb [Lean.Grind.Field F] (Z : ZF PP φ) (x y : Nat) : φ (nsb x y) = φ x - φ y := by
  unfold nsb
  rw [zf_md Z, Z.1, zf_sb Z (Nat.le_of_lt (Nat.mod_lt _ (by decide))), zf_md Z]
  grind
def nTw (a : Nat × Nat × Nat) : Nat × Nat × Nat :=
  (fun s q => (fun x => (x, nsb (nml s (nsb q x)) ((fun w => nad w w) ((fun v => nml v v) (nad (nml a.2.1 a.2.1) (nml a.2.1 a.2.1)))), (fun v => nad v v) (nml a.2.1 a.2.2))) (nsb (nsb (nml s s) q) q))
    ((fun s => nad (nad s s) s) (nml (nad a.1 (nml a.2.2 a.2.2)) (nsb a.1 (nml a.2.2 a.2.2)))) ((fun q => nad (nad q q) (nad q q)) (nml a.1 (nml a.2.1 a.2.1)))
/-- the sum with a point whose z is 1; another x is taken for granted where the first is not neutral, and tested -/
def nAd (a : Nat × Nat × Nat) (g : Nat × Nat) : Option (Nat × Nat × Nat) :=
  if a.2.2 = 0 then some (g.1, g.2, 1) else
    (fun bx by' => if bx = a.1 % PP then (if by' = a.2.1 % PP then none else some (0, 0, 0)) else
      some ((fun rn rs => (fun A r3 => (fun x => (x, nsb (nml rs (nsb A x)) (nml a.2.1 r3), nml a.2.2 rn)) (nsb (nsb (nsb (nml rs rs) r3) A) A)) (nml a.1 (nml rn rn)) (nml (nml rn rn) rn)) (nsb bx a.1) (nsb by' a.2.1)))
    (nml g.1 (nml a.2.2 a.2.2)) (nml g.2 (nml (nml a.2.2 a.2.2) a.2.2))
def nMu (g : Nat × Nat) : Nat → Nat → Option (Nat × Nat × Nat)
  | 0, _ => some (0, 0, 0)
  | i + 1, k => match nMu g i (k / 2) with
    | none => none
    | some a => if k % 2 = 1 then nAd (nTw a) g else some (nTw a)
end ML
theorem nmu_n : (nMu (GX, GY) 256 NN).map (fun a => a.2.2) = some 0 := by decide +kernel
