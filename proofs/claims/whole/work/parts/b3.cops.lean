/-! the curve's calls at their places -/
def KI (a b : Nat) (h h' : HP) : Prop := h'.length = h.length ∧ ∀ j, j < a ∨ b ≤ j → h'[j]? = h[j]?
theorem KI.tr {a b : Nat} {h h' h'' : HP} (k : KI a b h h') (l : KI a b h' h'') : KI a b h h'' := ⟨l.1.trans k.1, fun j hj => (l.2 j hj).trans (k.2 j hj)⟩
theorem KI.rf {a b : Nat} {h : HP} : KI a b h h := ⟨rfl, fun _ _ => rfl⟩
theorem KI.up {a b c d : Nat} {h h' : HP} (k : KI a b h h') (h1 : c ≤ a) (h2 : b ≤ d) : KI c d h h' := ⟨k.1, fun j hj => k.2 j (by omega)⟩
theorem KI.of {S : List Nat} {a b : Nat} {h h' : HP} (k : KP S h h') (n : ∀ j ∈ S, a ≤ j ∧ j < b) : KI a b h h' := ⟨k.1, fun j hj => k.2 j (fun q => by have := n j q; omega)⟩
theorem KI.ag {a b c d : Nat} {h h' : HP} (k : KI a b h h') (n : d ≤ a ∨ b ≤ c) : ag c d h h' := fun j h1 h2 => k.2 j (by omega)
theorem KI.st {a b j : Nat} {h : HP} {c : PE} (hj : a ≤ j ∧ j < b) : KI a b h (h.set j c) := KI.of (KP.st (S := [j]) (by simp)) (fun i hi => by simp at hi; omega)
section COP
variable {F : Type} {φ : Nat → F}
theorem u_sum [Lean.Grind.Field F] (Z : ZF PP φ) (hr : φ (2 ^ 261) ≠ 0) {li : Int} {h : HP} {t kf kg : Nat} {Q : F × F} {ff fg : Nat → Int8} (C : CUv φ li h) (ht : 262 ≤ t) (T : PRw t h) (hf : h[kf]? = some (pB 32 ff)) (hg : h[kg]? = some (pB 32 fg)) (P1 : ∀ j, j < 64 → PM φ (135 + 8 * nib fg j) (nib fg j) Q h) (nf : kf < 112 ∨ 131 ≤ kf) (nf2 : kf < t ∨ t + 4 ≤ kf) (ng : kg < 112 ∨ 131 ≤ kg) (ng2 : kg < t ∨ t + 4 ≤ kg) :
    ∃ h', P_Cu_sumOfTimes h 110 kf kg t = some h' ∧ CUv φ li h' ∧ KP (KC 112 125 t) h h' ∧ PS φ t (be ff 32) (be fg 32) (φ GX, φ GY) Q h' := by
  obtain ⟨h', a1, a2, a3, a4⟩ := w_sum Z hr (kf := kf) (kg := kg) (b0 := 131) (b1 := 135) (Q := Q) (by omega) (by decide) (by decide) (fun j hj => by omega) (fun j hj => by omega) (by unfold KC; simp; omega) (by unfold KC; simp; omega) (by unfold KC; simp; omega) (by unfold KC; simp; omega) C.1 C.2.1 C.2.2.1 hf hg (fun j _ => C.2.2.2.2.1 _ (nib_lt ff j)) P1 T
  refine ⟨h', a1, cuv_c C a2 (a3.2 111 (by unfold KC; simp; omega)) (agk a3 (fun j hj => by unfold KC at hj; simp at hj; omega)) (agk a3 (fun j hj => by unfold KC at hj; simp at hj; omega)), a3, a4⟩
theorem nib_0 (j : Nat) : nib (fun _ => 0) j = 0 := by
  unfold nib
  have e : byN 0 = 0 := by decide
  simp [e]
theorem be_0 : be (fun _ => 0) 32 = 0 := by decide
theorem ot_pm [Lean.Grind.Field F] (Z : ZF PP φ) {Q : F × F} {b1 : Nat} {h : HP} (O : OTb b1 h) : PM φ b1 0 Q h := by
  obtain ⟨x, y, p⟩ := O.1
  refine ⟨x, y, 0, none, p, ls_o, Or.inl ⟨?_, rfl⟩⟩
  unfold ps
  rw [zf_0 Z]
  grind
theorem u_sum0 [Lean.Grind.Field F] (Z : ZF PP φ) (hr : φ (2 ^ 261) ≠ 0) {li : Int} {h : HP} {t kf : Nat} {ff : Nat → Int8} (C : CUv φ li h) (ht : 262 ≤ t) (T : PRw t h) (hf : h[kf]? = some (pB 32 ff)) (nf : kf < 112 ∨ 131 ≤ kf) (nf2 : kf < t ∨ t + 4 ≤ kf) :
    ∃ h', P_Cu_sumOfTimes h 110 kf 111 t = some h' ∧ CUv φ li h' ∧ KP (KC 112 125 t) h h' ∧ PM φ t (be ff 32) (φ GX, φ GY) h' := by
  obtain ⟨h', a1, a2, a3, x, y, z, S, p1, p2, p3⟩ := u_sum Z hr (kf := kf) (kg := 111) (Q := (φ GX, φ GY)) C ht T hf C.2.2.2.1 (fun j _ => by rw [nib_0]; exact ot_pm Z C.2.2.2.2.2.2) nf nf2 (by decide) (by omega)
  rw [be_0, List.replicate_zero, List.append_nil] at p2
  exact ⟨h', a1, a2, a3, x, y, z, S, p1, p2, p3⟩
theorem u_affine [Lean.Grind.Field F] (Z : ZF PP φ) (hr : φ (2 ^ 261) ≠ 0) {li : Int} {h : HP} {p kx ky x y z : Nat} (C : CUv φ li h) (dp : 262 ≤ p) (dx : 262 ≤ kx) (dy : 262 ≤ ky) (nxy : kx ≠ ky) (nx : kx < p ∨ p + 4 ≤ kx) (ny : ky < p ∨ p + 4 ≤ ky) (A : PVl p x y z h) (ex : ∃ G, h[kx]? = some (pJ 9 G)) (ey : ∃ G, h[ky]? = some (pJ 9 G)) {S : Option (F × F)} (hJ : JP (ps φ x) (ps φ y) (ps φ z) S) :
    ∃ h' vx vy, P_Cu_readAffine h 110 p kx ky = some h' ∧ CUv φ li h' ∧ KP [118, 119, 120, 126, 127, kx, ky] h h' ∧ CV PP h' kx vx ∧ CV PP h' ky vy ∧ ∀ X Y, S = some (X, Y) → φ vx = X ∧ φ vy = Y := by
  obtain ⟨h', vx, vy, a1, a2, a3, a4, a5, _, a7⟩ := w_affine Z hr (kx := kx) (ky := ky) C.1 (by omega) (by omega) (by omega) nxy nx ny A ex ey hJ
  refine ⟨h', vx, vy, a1, cuv_c C a2 (a3.2 111 (by simp; omega)) (agk a3 (fun j hj => by simp at hj; omega)) (agk a3 (fun j hj => by simp at hj; omega)), a3, a4, a5, a7⟩
theorem u_takes [Lean.Grind.Field F] (Z : ZF PP φ) (hr : φ (2 ^ 261) ≠ 0) {li : Int} {h : HP} {kr n : Nat} {row : Nat → Int8} (C : CUv φ li h) (hn : 65 ≤ n) (hn2 : n < 2 ^ 30) (dk : kr < 110 ∨ 262 ≤ kr) (hkr : h[kr]? = some (pB n row)) :
    ∃ h' b, P_Cu_takesOther h 110 kr = some (bi b, h') ∧ CUv φ li h' ∧ KI 110 262 h h' ∧ (b = true ↔ row 0 = 4 ∧ be (fun k => row (1 + k)) 32 < PP ∧ be (fun k => row (33 + k)) 32 < PP ∧ OC (-3) (φ BB) (some (φ (be (fun k => row (1 + k)) 32), φ (be (fun k => row (33 + k)) 32)))) ∧ (b = true → ∀ j, j < 16 → PM φ (135 + 8 * j) j (φ (be (fun k => row (1 + k)) 32), φ (be (fun k => row (33 + k)) 32)) h') := by
  have C0 := C
  obtain ⟨c1, c2, c3, c4, c5, ⟨bv, c6, c7⟩, c8⟩ := C
  obtain ⟨h', b, a1, a2, a3, a4, a5, a6, a7⟩ := w_takes Z hr (kr := kr) c1 (by decide) (by decide) (by decide) hn hn2 c3 c8 c6 c7 ⟨by omega, by omega, by omega, fun i hi => by omega⟩ hkr
  have e : ∀ j, (j < 118 ∨ (120 ≤ j ∧ j < 126) ∨ (131 ≤ j ∧ j < 136) ∨ 262 ≤ j ∨ (131 ≤ j ∧ (j - 131) % 8 < 4)) → h'[j]? = h[j]? := fun j hj => a5 j ⟨by omega, by omega, by omega, fun i hi => by omega⟩
  refine ⟨h', b, a1, ⟨a2, ?_, ?_, (e 111 (by omega)).trans c4, fun i hi => pm_ag (c5 i hi) (fun j h1 h2 => e j (by omega)), ⟨bv, cv_ag c6 (e 122 (by omega)), c7⟩, a3⟩, ⟨a4, fun j hj => e j (by omega)⟩, a6, a7⟩
  · obtain ⟨f, f1, f2⟩ := c2
    exact ⟨f, (e 123 (by omega)).trans f1, f2⟩
  · obtain ⟨f, f1, f2⟩ := c3
    exact ⟨f, (e 124 (by omega)).trans f1, f2⟩
end COP
