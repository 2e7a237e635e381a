/-! a signature read: the class; what verify must answer -/
def DR (row : Nat → Int8) (tl L1 L2 : Nat) : Prop := 67 ≤ tl ∧ tl ≤ 194 ∧ row 65 = 48 ∧ (row 66).toInt32 = nI (tl - 67) ∧ DNo row 67 tl L1 ∧ DNo row (69 + L1) tl L2 ∧ 71 + L1 + L2 = tl
theorem dn_uq {row : Nat → Int8} {at' end' L L' : Nat} (h : DNo row at' end' L) (h' : DNo row at' end' L') : L = L' := by
  have a := h.2.2.1
  have b := h'.2.2.1
  have c := h.2.2.2.2.1
  have d := h'.2.2.2.2.1
  rw [a] at b
  exact (nI_eq (by omega) (by omega)).mp b
theorem dr_uq {row : Nat → Int8} {tl L1 L2 L1' L2' : Nat} (h : DR row tl L1 L2) (h' : DR row tl L1' L2') : L1 = L1' ∧ L2 = L2' := by
  obtain ⟨_, _, _, _, a1, a2, _⟩ := h
  obtain ⟨_, _, _, _, b1, b2, _⟩ := h'
  have e := dn_uq a1 b1
  subst e
  exact ⟨rfl, dn_uq a2 b2⟩
theorem i8_48 (x : Int8) : x.toInt32 = 48 ↔ x = 48 := by
  constructor
  · intro e
    have : (x.toInt32).toInt8 = (48 : Int32).toInt8 := by rw [e]
    rw [i8_r] at this
    exact this
  · intro e; rw [e]; rfl
def rdn (row tf : Nat → Int8) (at' L : Nat) : Nat → Int8 := va_cpy row (fil tf 33 0) (at' + 2) (33 - L) L
theorem nI_m1 {m : Nat} (h : m < 2 ^ 31) : (-1 : Int32) ≠ nI m := by
  intro c
  have : (-1 : Int32) < 0 := by decide
  rw [c] at this
  exact nI_pos h this
theorem u_read {h : HP} {fr fs row : Nat → Int8} {kt n tl : Nat} (G : SN1 fr fs h) (dk : kt < 110 ∨ 349 ≤ kt) (ht : h[kt]? = some (pB n row)) (h65 : 65 ≤ tl) (hl : tl ≤ n) (hn : n < 2 ^ 29) :
    ∃ h' b fr' fs', P_Sg_read h 295 kt 65 (nI tl) = some (bi b, h') ∧ SN1 fr' fs' h' ∧ KP [296, 297] h h' ∧ (b = true ↔ ∃ L1 L2, DR row tl L1 L2) ∧ ∀ L1 L2, DR row tl L1 L2 → fr' = rdn row fr 67 L1 ∧ fs' = rdn row fs (69 + L1) L2 := by
  have no : (∀ L1 L2, ¬ DR row tl L1 L2) → P_Sg_read h 295 kt 65 (nI tl) = some (0, h) → ∃ h' b fr' fs', P_Sg_read h 295 kt 65 (nI tl) = some (bi b, h') ∧ SN1 fr' fs' h' ∧ KP [296, 297] h h' ∧ (b = true ↔ ∃ L1 L2, DR row tl L1 L2) ∧ ∀ L1 L2, DR row tl L1 L2 → fr' = rdn row fr 67 L1 ∧ fs' = rdn row fs (69 + L1) L2 := by
    intro c e
    exact ⟨h, false, fr, fs, e, G, KP.rf, ⟨fun d => (by cases d), fun ⟨L1, L2, d⟩ => absurd d (c L1 L2)⟩, fun L1 L2 d => absurd d (c L1 L2)⟩
  have s0 : nI tl - 65 = nI (tl - 65) := pk_sub (b := 65) h65
  by_cases z1 : tl < 67
  · refine no (fun L1 L2 d => by have := d.1; omega) ?_
    unfold P_Sg_read
    refine lt_e.trans ?_
    rw [s0, if_pos (show nI (tl - 65) - 2 < 0 from by
      have : tl - 65 = 0 ∨ tl - 65 = 1 := by omega
      rcases this with c | c <;> rw [c] <;> decide)]
    rfl
  · have s1 : nI tl - 65 - 2 = nI (tl - 67) := by rw [s0, show nI (tl - 65) - 2 = nI (tl - 65 - 2) from pk_sub (b := 2) (by omega), show tl - 65 - 2 = tl - 67 by omega]
    by_cases z2 : 195 ≤ tl
    · refine no (fun L1 L2 d => by have := d.2.1; omega) ?_
      unfold P_Sg_read
      refine lt_e.trans ?_
      rw [s1, if_neg (nI_pos (by omega)), if_pos (show (128 : Int32) ≤ nI (tl - 67) from nI_le (a := 128) (by omega) (by omega))]
      rfl
    · by_cases z3 : row 65 = 48
      · by_cases z4 : (row 66).toInt32 = nI (tl - 67)
        · have go : ∀ X, P_Sg_read h 295 kt 65 (nI tl) = X ↔ bnd2 (P_Sg_readNumber h 295 kt (nI 67) (nI tl) 296) (fun v6 h5 =>
  if v6 < 0 then
  B_Sg_read_80 h5
  else
  bnd (gR h5 295 5 1) fun k7 =>
  ob h5 295 5 (
  bnd2 (P_Sg_readNumber h5 295 kt v6 (nI tl) k7) fun v9 h8 =>
  if v9 = nI tl then
  some (1, h8)
  else
  B_Sg_read_80 h8)) = X := by
            intro X
            unfold P_Sg_read
            rw [lt_e, s1, if_neg (nI_pos (by omega)), if_neg (show ¬ (128 : Int32) ≤ nI (tl - 67) from nI_ge (b := 128) (by omega) (by omega)), show ldB h kt 65 = some (row 65).toInt32 from sB_in 65 ht rfl (by omega) (by decide), bs_ rfl, if_pos ((i8_48 _).mpr z3), show ldB h kt (65 + 1) = some (row 66).toInt32 from sB_in 66 ht rfl (by omega) (by decide), bs_ rfl, if_pos z4, bs_ (gR_at G.1 rfl), os_ G.1]
            exact Iff.rfl
          rcases e_readNumber (g := 295) (to := 296) ht G.2.1 (by omega) hl hn (show 67 ≤ tl by omega) with ⟨L1, d1, e1⟩ | ⟨d1, e1⟩
          · obtain ⟨h5, hh5⟩ : ∃ h5, h5 = h.set 296 (pB 33 (rdn row fr 67 L1)) := ⟨_, rfl⟩
            have e1' : P_Sg_readNumber h 295 kt (nI 67) (nI tl) 296 = some (nI (67 + 2 + L1), h5) := by rw [hh5]; exact e1
            have k5 : KP [296] h h5 := by rw [hh5]; exact KP.st (by simp)
            have G5 : SN1 (rdn row fr 67 L1) fs h5 := ⟨(k5.2 295 (by decide)).trans G.1, by rw [hh5]; exact hs_ G.2.1, (k5.2 297 (by decide)).trans G.2.2⟩
            have l1 := d1.2.2.2.2.1
            have l2 := d1.2.2.2.2.2.1
            have t5 : h5[kt]? = some (pB n row) := (k5.2 kt (by simp; omega)).trans ht
            rcases e_readNumber (g := 295) (to := 297) (at' := 67 + 2 + L1) t5 G5.2.2 (by omega) hl hn l2 with ⟨L2, d2, e2⟩ | ⟨d2, e2⟩
            · obtain ⟨h8, hh8⟩ : ∃ h8, h8 = h5.set 297 (pB 33 (rdn row fs (67 + 2 + L1) L2)) := ⟨_, rfl⟩
              have e2' : P_Sg_readNumber h5 295 kt (nI (67 + 2 + L1)) (nI tl) 297 = some (nI (67 + 2 + L1 + 2 + L2), h8) := by rw [hh8]; exact e2
              have k8 : KP [297] h5 h8 := by rw [hh8]; exact KP.st (by simp)
              have G8 : SN1 (rdn row fr 67 L1) (rdn row fs (67 + 2 + L1) L2) h8 := ⟨(k8.2 295 (by decide)).trans G5.1, (k8.2 296 (by decide)).trans G5.2.1, by rw [hh8]; exact hs_ G5.2.2⟩
              have m1 := d2.2.2.2.2.1
              have m2 := d2.2.2.2.2.2.1
              refine ⟨h8, decide (67 + 2 + L1 + 2 + L2 = tl), _, _, ?_, G8, (k5.up (by simp)).tr (k8.up (by simp)), ?_, ?_⟩
              · rw [go, bs2 e1', if_neg (nI_pos (by omega)), bs_ (gR_at G5.1 rfl), os_ G5.1, show P_Sg_readNumber h5 295 kt (nI (67 + 2 + L1)) (nI tl) (295 + 2) = _ from e2', bs2 rfl]
                by_cases y : 67 + 2 + L1 + 2 + L2 = tl
                · rw [decide_eq_true y, if_pos (by rw [y])]; rfl
                · rw [decide_eq_false y, if_neg (fun c => y ((nI_eq (by omega) (by omega)).mp c))]; rfl
              · constructor
                · intro c
                  have c' := of_decide_eq_true c
                  exact ⟨L1, L2, by omega, by omega, z3, z4, d1, by rw [show 69 + L1 = 67 + 2 + L1 by omega]; exact d2, by omega⟩
                · rintro ⟨L1', L2', d⟩
                  have u1 := dn_uq d1 d.2.2.2.2.1
                  subst u1
                  have dd := d.2.2.2.2.2.1
                  rw [show 69 + L1 = 67 + 2 + L1 by omega] at dd
                  have u2 := dn_uq d2 dd
                  subst u2
                  have := d.2.2.2.2.2.2
                  exact decide_eq_true (by omega)
              · intro L1' L2' d
                have u1 := dn_uq d1 d.2.2.2.2.1
                subst u1
                have dd := d.2.2.2.2.2.1
                rw [show 69 + L1 = 67 + 2 + L1 by omega] at dd
                have u2 := dn_uq d2 dd
                subst u2
                exact ⟨rfl, by rw [show 69 + L1 = 67 + 2 + L1 by omega]⟩
            · have nd : ∀ L1' L2', ¬ DR row tl L1' L2' := by
                intro L1' L2' d
                have u1 := dn_uq d1 d.2.2.2.2.1
                subst u1
                have dd := d.2.2.2.2.2.1
                rw [show 69 + L1 = 67 + 2 + L1 by omega] at dd
                exact d2 _ dd
              refine ⟨h5, false, _, _, ?_, G5, k5.up (by simp), ⟨fun d => (by cases d), fun ⟨L1, L2, d⟩ => absurd d (nd L1 L2)⟩, fun L1 L2 d => absurd d (nd L1 L2)⟩
              rw [go, bs2 e1', if_neg (nI_pos (by omega)), bs_ (gR_at G5.1 rfl), os_ G5.1, show P_Sg_readNumber h5 295 kt (nI (67 + 2 + L1)) (nI tl) (295 + 2) = _ from e2, bs2 rfl, if_neg (nI_m1 (by omega))]
              rfl
          · refine no (fun L1 L2 d => d1 L1 d.2.2.2.2.1) ?_
            rw [go, bs2 e1, if_pos (by decide)]
            rfl
        · refine no (fun L1 L2 d => z4 d.2.2.2.1) ?_
          unfold P_Sg_read
          rw [lt_e, s1, if_neg (nI_pos (by omega)), if_neg (show ¬ (128 : Int32) ≤ nI (tl - 67) from nI_ge (b := 128) (by omega) (by omega)), show ldB h kt 65 = some (row 65).toInt32 from sB_in 65 ht rfl (by omega) (by decide), bs_ rfl, if_pos ((i8_48 _).mpr z3), show ldB h kt (65 + 1) = some (row 66).toInt32 from sB_in 66 ht rfl (by omega) (by decide), bs_ rfl, if_neg z4]
          rfl
      · refine no (fun L1 L2 d => z3 d.2.2.1) ?_
        unfold P_Sg_read
        rw [lt_e, s1, if_neg (nI_pos (by omega)), if_neg (show ¬ (128 : Int32) ≤ nI (tl - 67) from nI_ge (b := 128) (by omega) (by omega)), show ldB h kt 65 = some (row 65).toInt32 from sB_in 65 ht rfl (by omega) (by decide), bs_ rfl, if_neg (fun c => z3 ((i8_48 _).mp c))]
        rfl
/-- the number that is read -/
def nv (row : Nat → Int8) (at' L : Nat) : Nat := if L = 33 ∧ row (at' + 2) ≠ 0 then 2 ^ 256 - 1 else be (gtv row at' L) 32
theorem nv_c {row tf : Nat → Int8} {at' L : Nat} (ha : 30 ≤ at') (h1 : 1 ≤ L) (h2 : L ≤ 33) : (rdn row tf at' L 0 = 0 → be (fun k => rdn row tf at' L (1 + k)) 32 = nv row at' L) ∧ (rdn row tf at' L 0 ≠ 0 → NN ≤ nv row at' L) := by
  have e : ∀ k, k < 32 → rdn row tf at' L (1 + k) = gtv row at' L k := by
    intro k hk
    unfold rdn gtv
    by_cases c : k < 32 - L
    · rw [if_pos c, cpy_out (by omega)]
      unfold fil
      rw [if_pos (by omega)]
    · rw [if_neg c, cpy_in (by omega) (by omega)]
      congr 1
      omega
  have z : L ≠ 33 → rdn row tf at' L 0 = 0 := by
    intro c
    unfold rdn
    rw [cpy_out (by omega)]
    unfold fil
    rw [if_pos (by omega)]
  have z33 : L = 33 → rdn row tf at' L 0 = row (at' + 2) := by
    intro c
    unfold rdn
    rw [cpy_in (by omega) (by omega)]
    congr 1
    omega
  constructor
  · intro h0
    unfold nv
    rw [if_neg (fun c => c.2 (by rw [← z33 c.1]; exact h0))]
    exact be_eq 32 e
  · intro h0
    have l33 : L = 33 := Classical.byContradiction fun c => h0 (z c)
    unfold nv
    rw [if_pos ⟨l33, by rw [← z33 l33]; exact h0⟩]
    decide
section VCD
variable {F : Type} {φ : Nat → F} {H : Type} {ψ : Nat → H}
def TK [Lean.Grind.Field F] (φ : Nat → F) (row : Nat → Int8) : Prop := row 0 = 4 ∧ be (fun k => row (1 + k)) 32 < PP ∧ be (fun k => row (33 + k)) 32 < PP ∧ OC (-3) (φ BB) (some (φ (be (fun k => row (1 + k)) 32), φ (be (fun k => row (33 + k)) 32)))
def QK (φ : Nat → F) (row : Nat → Int8) : F × F := (φ (be (fun k => row (1 + k)) 32), φ (be (fun k => row (33 + k)) 32))
def rng (v : Nat) : Prop := v < NN ∧ v ≠ 0
/-- what verify answers -/
def VC [Lean.Grind.Field F] [Lean.Grind.Field H] (φ : Nat → F) (ψ : Nat → H) (row : Nat → Int8) (tl z c : Nat) : Prop :=
  ((∀ L1 L2, ¬ DR row tl L1 L2) ∧ c = 1) ∨ ∃ L1 L2, DR row tl L1 L2 ∧
    ((¬ (rng (nv row 67 L1) ∧ rng (nv row (69 + L1) L2)) ∧ c = 2) ∨ ((rng (nv row 67 L1) ∧ rng (nv row (69 + L1) L2)) ∧
      ((¬ TK φ row ∧ c = 3) ∨ (TK φ row ∧ ∃ u1 u2 T b, VU ψ (nv row 67 L1) (nv row (69 + L1) L2) z u1 u2 ∧ LSm φ (List.replicate u1 (φ GX, φ GY) ++ List.replicate u2 (QK φ row)) T ∧ VB φ (nv row 67 L1) T b ∧ c = if b then 0 else 4))))
theorem vc_uq [Lean.Grind.Field F] [Lean.Grind.Field H] (Z : ZF PP φ) (Y : ZF NN ψ) {row : Nat → Int8} {tl z c c' : Nat} (h : VC φ ψ row tl z c) (h' : VC φ ψ row tl z c') : c = c' := by
  rcases h with ⟨a, e⟩ | ⟨L1, L2, d, h⟩
  · rcases h' with ⟨_, e'⟩ | ⟨L1, L2, d, _⟩
    · rw [e, e']
    · exact absurd d (a _ _)
  · rcases h' with ⟨a, _⟩ | ⟨L1', L2', d', h'⟩
    · exact absurd d (a _ _)
    · obtain ⟨e1, e2⟩ := dr_uq d d'
      subst e1 e2
      rcases h with ⟨a, e⟩ | ⟨a, h⟩
      · rcases h' with ⟨_, e'⟩ | ⟨a', _⟩
        · rw [e, e']
        · exact absurd a' a
      · rcases h' with ⟨a', _⟩ | ⟨_, h'⟩
        · exact absurd a a'
        · rcases h with ⟨b, e⟩ | ⟨b, u1, u2, T, x, h1, h2, h3, e⟩
          · rcases h' with ⟨_, e'⟩ | ⟨b', _⟩
            · rw [e, e']
            · exact absurd b' b
          · rcases h' with ⟨b', _⟩ | ⟨_, v1, v2, T', x', k1, k2, k3, e'⟩
            · exact absurd b b'
            · obtain ⟨q1, q2⟩ := vu_uq Y a.2.2 a.2.1 h1 k1
              subst q1 q2
              have q3 := ls_uq Z h2 k2
              subst q3
              have q4 : x = x' := Bool.eq_iff_iff.mpr (h3.trans k3.symm)
              rw [e, e', q4]
theorem vc_lt [Lean.Grind.Field F] [Lean.Grind.Field H] {row : Nat → Int8} {tl z c : Nat} (h : VC φ ψ row tl z c) : c < 5 := by
  rcases h with ⟨_, e⟩ | ⟨_, _, _, ⟨_, e⟩ | ⟨_, ⟨_, e⟩ | ⟨_, _, _, _, b, _, _, _, e⟩⟩⟩
  · omega
  · omega
  · omega
  · rw [e]; cases b <;> decide
end VCD
