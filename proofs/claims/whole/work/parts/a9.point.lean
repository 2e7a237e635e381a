/-! the class's points: setNeutral, set, and the curve's add (written by mka9.py) -/
section CA9
variable {F : Type} {φ : Nat → F}
def PVl (p x y z : Nat) (h : HP) : Prop := POb p h ∧ CV PP h (p + 1) x ∧ CV PP h (p + 2) y ∧ CV PP h (p + 3) z
def PRw (p : Nat) (h : HP) : Prop := POb p h ∧ (∃ G, h[p + 1]? = some (pJ 9 G)) ∧ (∃ G, h[p + 2]? = some (pJ 9 G)) ∧ ∃ G, h[p + 3]? = some (pJ 9 G)
theorem PVl.rw {p x y z : Nat} {h : HP} (P : PVl p x y z h) : PRw p h := by
  obtain ⟨a, ⟨G1, b1, _⟩, ⟨G2, b2, _⟩, ⟨G3, b3, _⟩⟩ := P
  exact ⟨a, ⟨G1, b1⟩, ⟨G2, b2⟩, G3, b3⟩
theorem lm_z (G : Nat → Int64) : LM (fil G 9 0) 0 := ⟨fun _ => 0, fun k hk => if_pos hk, fun _ _ => (by decide : (0 : Int) ≤ 0 ∧ (0 : Int) < (536870912 : Nat)), vz_0 9 (fun _ _ => rfl)⟩
theorem e_setNeutral {p : Nat} {h : HP} (P : PRw p h) : ∃ h', P_Po_setNeutral h p = some h' ∧ KP [p + 1, p + 2, p + 3] h h' ∧ PVl p 0 0 0 h' := by
  obtain ⟨a, ⟨G1, b1⟩, ⟨G2, b2⟩, ⟨G3, b3⟩⟩ := P
  have f1 := e_fillJ (v := 0) (by decide) b1
  have a1 : (h.set (p + 1) (pJ 9 (fil G1 9 0)))[p]? = _ := hn_ (by omega) a
  have f2 := e_fillJ (v := 0) (by decide) (hn_ (d := pJ 9 (fil G1 9 0)) (show p + 1 ≠ p + 2 by omega) b2)
  have a2 : ((h.set (p + 1) (pJ 9 (fil G1 9 0))).set (p + 2) (pJ 9 (fil G2 9 0)))[p]? = _ := hn_ (by omega) a1
  have b3' := hn_ (d := pJ 9 (fil G2 9 0)) (show p + 2 ≠ p + 3 by omega) (hn_ (d := pJ 9 (fil G1 9 0)) (show p + 1 ≠ p + 3 by omega) b3)
  have f3 := e_fillJ (v := 0) (by decide) b3'
  refine ⟨((h.set (p + 1) (pJ 9 (fil G1 9 0))).set (p + 2) (pJ 9 (fil G2 9 0))).set (p + 3) (pJ 9 (fil G3 9 0)), ?_, (KP.st (by simp)).tr ((KP.st (by simp)).tr (KP.st (by simp))), ⟨hn_ (by omega) a2, ⟨fil G1 9 0, hn_ (by omega) (hn_ (by omega) (hs_ b1)), lm_z _, by decide⟩, ⟨fil G2 9 0, hn_ (by omega) (hs_ (hn_ (by omega) b2)), lm_z _, by decide⟩, ⟨fil G3 9 0, hs_ b3', lm_z _, by decide⟩⟩⟩
  unfold P_Po_setNeutral
  rw [bs_ (gR_at a rfl), bs_ f1, bs_ (gR_at a1 rfl), bs_ f2, bs_ (gR_at a2 rfl), bs_ f3]
theorem e_cp9 {k t x : Nat} {h : HP} (hk : CV PP h k x) (ht : ∃ G, h[t]? = some (pJ 9 G)) : ∃ h', P_Li_copy h k t = some h' ∧ KP [t] h h' ∧ CV PP h' t x := by
  obtain ⟨A, a1, a2, a3⟩ := hk
  obtain ⟨T, t1⟩ := ht
  have cp := cpJ_at (h := h) (a := k) (b := t) (x := 0) (y := 0) (z := 9) 0 0 9 a1 t1 rfl rfl rfl (by decide) (by decide) (by decide) (by decide)
  refine ⟨_, by unfold P_Li_copy; rw [bs_ cp], KP.st (by simp), _, hs_ t1, ?_, a3⟩
  exact ZM.eq a2 (fun j hj => by rw [pk_cpy_in (by omega) (by omega), Nat.zero_add, Nat.sub_zero])
theorem kp1_cv {k t x : Nat} {h h' : HP} (kp : KP [t] h h') (hk : CV PP h k x) (n : k ≠ t) : CV PP h' k x := by
  obtain ⟨A, a1, a2, a3⟩ := hk
  exact ⟨A, by rw [kp.2 k (by simp; exact n)]; exact a1, a2, a3⟩
theorem e_pset {p t x y z : Nat} {h : HP} (d : p = t ∨ p + 4 ≤ t ∨ t + 4 ≤ p) (P : PVl p x y z h) (T : PRw t h) : ∃ h', P_Po_set h t p = some h' ∧ KP [t + 1, t + 2, t + 3] h h' ∧ PVl t x y z h' := by
  obtain ⟨a, b1, b2, b3⟩ := P
  obtain ⟨c, t1, ⟨G2, t2⟩, ⟨G3, t3⟩⟩ := T
  obtain ⟨h1, g1, g2, g3⟩ := e_cp9 b1 t1
  have a1 : POb p h1 := by unfold POb; rw [g2.2 p (by simp; omega)]; exact a
  have c1 : POb t h1 := by unfold POb; rw [g2.2 t (by simp)]; exact c
  obtain ⟨h2, i1, i2, i3⟩ := e_cp9 (kp1_cv g2 b2 (by omega)) ⟨G2, by rw [g2.2 (t + 2) (by simp)]; exact t2⟩
  have a2 : POb p h2 := by unfold POb; rw [i2.2 p (by simp; omega)]; exact a1
  have c2 : POb t h2 := by unfold POb; rw [i2.2 t (by simp)]; exact c1
  obtain ⟨h3, j1, j2, j3⟩ := e_cp9 (kp1_cv i2 (kp1_cv g2 b3 (by omega)) (by omega)) ⟨G3, by rw [i2.2 (t + 3) (by simp), g2.2 (t + 3) (by simp)]; exact t3⟩
  refine ⟨h3, ?_, (g2.up (by simp)).tr ((i2.up (by simp)).tr (j2.up (by simp))), ?_, kp1_cv j2 (kp1_cv i2 g3 (by omega)) (by omega), kp1_cv j2 i3 (by omega), j3⟩
  · unfold P_Po_set
    rw [bs_ (gR_at a rfl), bs_ (gR_at c rfl), bs_ g1, bs_ (gR_at a1 rfl), bs_ (gR_at c1 rfl), bs_ i1, bs_ (gR_at a2 rfl), bs_ (gR_at c2 rfl), bs_ j1]
  · unfold POb; rw [j2.2 t (by simp)]; exact c2
/-- the curve object and its scratch rows -/
def CGm (c kn m kb bm om sc : Nat) (h : HP) : Prop := h[c]? = some (pO 0 [.ref kn, .ref m, .ref kb, .ref bm, .ref om, .ref sc]) ∧ (∃ f : Nat → Option Nat, h[sc]? = some (.inr (.inr (.inr (.inl (5, 5, f))))) ∧ ∀ i, i < 5 → f i = some (sc + (i + 1))) ∧ ∀ i, i < 5 → ∃ G, h[sc + (i + 1)]? = some (pJ 9 G)
def KC (m sc t : Nat) : List Nat := [m + 6, m + 7, sc + 1, sc + 2, sc + 3, sc + 4, sc + 5, t + 1, t + 2, t + 3]
theorem ldR_at {h : HP} {sc j : Nat} {f : Nat → Option Nat} {x : Int32} (hs : h[sc]? = some (.inr (.inr (.inr (.inl (5, 5, f)))))) (hx : x = nI j) (hj : j < 5) : ldR h sc 5 x = f j := by
  unfold ldR
  rw [hs, hx]
  show (if _ then none else _) = _
  rw [nI_clamp (by omega), if_neg (fun c => by
    rcases c with c | c | c
    · exact c rfl
    · exact nI_pos (by omega) c
    · omega)]
theorem cgm_l {c kn m kb bm om sc : Nat} {h : HP} (C : CGm c kn m kb bm om sc h) : ldR h sc 5 0 = some (sc + 1) ∧ ldR h sc 5 1 = some (sc + 2) ∧ ldR h sc 5 2 = some (sc + 3) ∧ ldR h sc 5 3 = some (sc + 4) ∧ ldR h sc 5 4 = some (sc + 5) := by
  obtain ⟨_, ⟨f, f1, f2⟩, _⟩ := C
  exact ⟨(ldR_at f1 (j := 0) rfl (by decide)).trans (f2 0 (by decide)), (ldR_at f1 (j := 1) rfl (by decide)).trans (f2 1 (by decide)), (ldR_at f1 (j := 2) rfl (by decide)).trans (f2 2 (by decide)), (ldR_at f1 (j := 3) rfl (by decide)).trans (f2 3 (by decide)), (ldR_at f1 (j := 4) rfl (by decide)).trans (f2 4 (by decide))⟩
theorem ps_z [Lean.Grind.Field F] (Z : ZF PP φ) (hr : φ (2 ^ 261) ≠ 0) {z : Nat} (hz : z < PP) : ps φ z = 0 ↔ z = 0 := by
  rw [← ps_0 Z]
  exact ps_inj Z hr hz (by decide)
end CA9
