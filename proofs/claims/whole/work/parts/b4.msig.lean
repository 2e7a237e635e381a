/-! the class's makeSignature: one number of the chain -/
section MSG
variable {F : Type} {φ : Nat → F} {H : Type} {ψ : Nat → H}
def MSb [Lean.Grind.Field F] (φ : Nat → F) (li lj : Int) (e : Nat) (key val fr fs : Nat → Int8) (h : HP) : Prop := CUv φ li h ∧ SG1 lj h ∧ NO1 key val h ∧ CV NN h 289 e ∧ SN1 fr fs h
theorem sgo_l {h : HP} (S : SGo 262 h) : h[262]? = some (pO 6 [.ref 263, .ref 273, .ref 283, .ref 287, .ref 288, .ref 289, .ref 290, .ref 291, .ref 292, .ref 293, .ref 294]) := S
theorem cuo_l [Lean.Grind.Field F] {li : Int} {h : HP} (C : CUv φ li h) : h[110]? = some (pO 0 [.ref 111, .ref 112, .ref 122, .ref 123, .ref 124, .ref 125]) := C.1.1.1
theorem ex_ag {a : Nat} {h h' : HP} (x : ∃ G, h[a]? = some (pJ 9 G)) (k : h'[a]? = h[a]?) : ∃ G, h'[a]? = some (pJ 9 G) := by rw [k]; exact x
/-- sumOfTimes, readReducedX, fillS -/
theorem ms_in [Lean.Grind.Field F] [Lean.Grind.Field H] (Z : ZF PP φ) (Y : ZF NN ψ) (hr : φ (2 ^ 261) ≠ 0) (hs : ψ (2 ^ 261) ≠ 0) {li lj : Int} {e ks : Nat} {key val fr fs fd f : Nat → Int8} {h : HP} (M : MSb φ li lj e key val fr fs h) (dk : 3 ≤ ks ∧ ks < 103) (hks : h[ks]? = some (pB 32 fd)) (hD : be fd 32 < NN) (hf : h[293]? = some (pB 32 f)) (h0 : be f 32 ≠ 0) (h1 : be f 32 < NN) :
    ∃ h21 h22 h24 x s, P_Cu_sumOfTimes h 110 293 111 283 = some h21 ∧ P_Si_readReducedX h21 262 110 = some h22 ∧ P_Si_fillS h22 262 ks 293 = some h24 ∧ SGo 262 h21 ∧ SGo 262 h22 ∧ MSb φ li lj e key val fr fs h24 ∧ KI 110 295 h h24 ∧ CV NN h24 287 (x % NN) ∧ CV NN h24 288 s ∧ SK φ ψ (be fd 32) e (be f 32) x s := by
  obtain ⟨C, ⟨S, Mo, P, rows, r293, r294⟩, N, ce, G⟩ := M
  obtain ⟨K, hK⟩ : ∃ K, K = be f 32 := ⟨_, rfl⟩
  obtain ⟨h21, a1, C1, k1, x1, y1, z1, T, p1, p2, p3⟩ := u_sum0 Z hr (t := 283) (kf := 293) C (by decide) P hf (by decide) (by decide)
  rw [← hK] at h0 h1 p2 ⊢
  obtain ⟨X, Y', hT⟩ : ∃ X Y', T = some (X, Y') := by
    cases T with
    | none => exact absurd p2 (fun c => ml_nz Z (oc_g Z) (ml_n Z) (by omega) h1 c)
    | some a => exact ⟨a.1, a.2, rfl⟩
  have k1' : KI 110 295 h h21 := KI.of k1 (by decide)
  have A1 : ag 262 283 h h21 := agk k1 (by decide)
  have B1 : ag 287 298 h h21 := agk k1 (by decide)
  have S1 : SGo 262 h21 := (A1 262 (by decide) (by decide)).trans S
  have Mo1 : MOb 263 NN lj h21 := mob_ag Mo (A1.sub (by decide) (by decide))
  obtain ⟨h22, vx, b1, C2, Mo2, S2, k2, c25, x28, x29, vlt, _, bx⟩ := w_redX Z hr (s := 262) C1.1 (by decide) S1 Mo1 p1 (ex_ag (rows 287 (by decide) (by decide)) (B1 287 (by decide) (by decide))) (ex_ag (rows 290 (by decide) (by decide)) (B1 290 (by decide) (by decide))) (ex_ag (rows 291 (by decide) (by decide)) (B1 291 (by decide) (by decide))) p3
  have k2' : KI 110 295 h21 h22 := KI.of k2 (by decide)
  have C2' : CUv φ li h22 := cuv_c C1 C2 (k2.2 111 (by decide)) (agk k2 (by decide)) (agk k2 (by decide))
  have e1 : ∀ j, (288 ≤ j ∧ j < 290) ∨ (292 ≤ j ∧ j < 298) ∨ (272 ≤ j ∧ j < 283) ∨ j = 262 → h22[j]? = h[j]? := fun j hj => (k2.2 j (fun q => by simp at q; omega)).trans (k1.2 j (fun q => by unfold KC at q; simp at q; omega))
  have ks2 : h22[ks]? = some (pB 32 fd) := (k2'.2 ks (by omega)).trans ((k1'.2 ks (by omega)).trans hks)
  obtain ⟨h24, z, d1, Mo3, k3, c26, x30, ez⟩ := w_fillS Y hs (s := 262) (ks := ks) (kn := 293) S2 Mo2 c25 (cv_ag ce (e1 289 (by omega))) (ex_ag (rows 288 (by decide) (by decide)) (e1 288 (by omega))) (ex_ag (rows 292 (by decide) (by decide)) (e1 292 (by omega))) ks2 ((e1 293 (by omega)).trans hf) (by omega) (by omega) hD (by rw [← hK]; exact h1)
  have k3' : KI 110 295 h22 h24 := KI.of k3 (by decide)
  have e2 : ∀ j, j = 289 ∨ (293 ≤ j ∧ j < 298) ∨ (273 ≤ j ∧ j < 283) ∨ j = 262 → h24[j]? = h[j]? := fun j hj => (k3.2 j (fun q => by simp at q; omega)).trans (e1 j (by omega))
  have e3 : ∀ j, 283 ≤ j ∧ j < 287 → h24[j]? = h21[j]? := fun j hj => (k3.2 j (fun q => by simp at q; omega)).trans (k2.2 j (fun q => by simp at q; omega))
  have C3 : CUv φ li h24 := cuv_ag C2' (agk k3 (by decide))
  refine ⟨h21, h22, h24, vx, z, a1, b1, d1, S1, S2, ⟨C3, ⟨(e2 262 (by omega)).trans S, Mo3, prw_ag p1.rw (fun j h1 h2 => e3 j (by omega)), ?_, ?_, ?_⟩, no1_ag N (fun j h1 h2 => e2 j (by omega)), cv_ag ce (e2 289 (by omega)), sn1_ag G (fun j h1 h2 => e2 j (by omega))⟩, k1'.tr (k2'.tr k3'), cv_ag c25 (k3.2 287 (by decide)), c26, vlt, ?_, ?_, ?_⟩
  · intro i h1 h2
    have : i = 287 ∨ i = 288 ∨ i = 289 ∨ i = 290 ∨ i = 291 ∨ i = 292 := by omega
    rcases this with rfl | rfl | rfl | rfl | rfl | rfl
    · obtain ⟨G, g, _⟩ := c25
      exact ⟨G, (k3.2 287 (by decide)).trans g⟩
    · obtain ⟨G, g, _⟩ := c26
      exact ⟨G, g⟩
    · exact ex_ag (rows 289 (by decide) (by decide)) (e2 289 (by omega))
    · exact ex_ag x28 (k3.2 290 (by decide))
    · exact ex_ag x29 (k3.2 291 (by decide))
    · exact x30
  · rw [e2 293 (by omega)]; exact r293
  · rw [e2 294 (by omega)]; exact r294
  · obtain ⟨y, _, hy⟩ := Z.2.2.2.2 Y'
    have := bx X Y' hT
    refine ⟨y, ?_⟩
    rw [this, hy, ← hT]
    exact p2
  · obtain ⟨_, _, _, q⟩ := c26
    exact q
  · rw [← hK] at ez
    have kz : ψ K ≠ 0 := by
      intro c
      rw [← zf_0 Y] at c
      have := (Y.2.2.2.1 _ _).mp c
      rw [Nat.zero_mod, Nat.mod_eq_of_lt h1] at this
      exact h0 this
    have i := (fi_pw Y pr_N (by decide) (ψ K)).1 kz
    rw [ez]
    generalize ψ K ^ (NN - 2) = w at *
    have : (ψ (vx % NN) * ψ (be fd 32) + ψ e) * w * ψ K = (ψ (vx % NN) * ψ (be fd 32) + ψ e) * (ψ K * w) := by grind
    rw [this, i]
    grind
end MSG
