/-! the base's order is NN; every point has the order NN -/
section OD
variable {F : Type} {φ : Nat → F}
theorem nTw_ok [Lean.Grind.Field F] (Z : ZF PP φ) {a : Nat × Nat × Nat} {S : Option (F × F)} (hS : OC (-3) (φ BB) S) (h : JP (φ a.1) (φ a.2.1) (φ a.2.2) S) : ∃ R, ADD (-3) S S R ∧ JP (φ (nTw a).1) (φ (nTw a).2.1) (φ (nTw a).2.2) R := by
  obtain ⟨R, h1, h2⟩ := j_tw (zf_2 Z) (no_rt Z) hS h
  refine ⟨R, h1, ?_⟩
  unfold nTw
  simp only [n_ml Z, n_ad Z, n_sb Z]
  exact h2
theorem jp_1 [Lean.Grind.Field F] (x y : F) : JP x y 1 (some (x, y)) := Or.inr ⟨fun e => Lean.Grind.Field.zero_ne_one e.symm, x, y, rfl, by grind, by grind⟩
theorem nAd_ok [Lean.Grind.Field F] (Z : ZF PP φ) {a r : Nat × Nat × Nat} {g : Nat × Nat} {S : Option (F × F)} (hS : OC (-3) (φ BB) S) (hT : OC (-3) (φ BB) (some (φ g.1, φ g.2))) (hz : a.2.2 < PP) (h : JP (φ a.1) (φ a.2.1) (φ a.2.2) S) (e : nAd a g = some r) : (∃ R, ADD (-3) S (some (φ g.1, φ g.2)) R ∧ JP (φ r.1) (φ r.2.1) (φ r.2.2) R) ∧ r.2.2 < PP := by
  unfold nAd at e
  have t0 := zf_0 Z
  have t1 := Z.2.2.1
  by_cases z : a.2.2 = 0
  · rw [if_pos z] at e
    have e := Option.some.inj e
    subst e
    refine ⟨⟨_, Or.inl ⟨?_, rfl⟩, ?_⟩, (by decide : 1 < PP)⟩
    · rcases h with ⟨_, h⟩ | ⟨h, _⟩
      · exact h
      · rw [z, t0] at h
        exact absurd rfl h
    · show JP (φ g.1) (φ g.2) (φ 1) _
      rw [t1]
      exact jp_1 _ _
  · rw [if_neg z] at e
    simp only [] at e
    have n1 : φ a.2.2 ≠ 0 := by
      rw [← t0]
      intro q
      have := (Z.2.2.2.1 _ _).mp q
      rw [Nat.mod_eq_of_lt hz, Nat.zero_mod] at this
      exact z this
    have n2 : (1 : F) ≠ 0 := fun e => Lean.Grind.Field.zero_ne_one e.symm
    have mo := Lean.Grind.Semiring.mul_one (α := F)
    have eqx : ∀ u v : Nat, (u % PP = v % PP) ↔ φ u = φ v := fun u v => (Z.2.2.2.1 _ _).symm
    have bx : φ (nml g.1 (nml a.2.2 a.2.2)) = φ g.1 * (φ a.2.2 * φ a.2.2) := by rw [n_ml Z, n_ml Z]
    have by1 : φ (nml g.2 (nml (nml a.2.2 a.2.2) a.2.2)) = φ g.2 * (φ a.2.2 * φ a.2.2 * φ a.2.2) := by rw [n_ml Z, n_ml Z, n_ml Z]
    have mm : ∀ u v, nml u v % PP = nml u v := fun u v => Nat.mod_mod _ _
    by_cases x : nml g.1 (nml a.2.2 a.2.2) = a.1 % PP
    · rw [if_pos x] at e
      rw [← mm, eqx, bx] at x
      have je := j_eq hS hT h (jp_1 _ _) n1 n2 (by rw [mo, mo]; exact x.symm)
      simp only [mo] at je
      by_cases y : nml g.2 (nml (nml a.2.2 a.2.2) a.2.2) = a.2.1 % PP
      · rw [if_pos y] at e
        exact absurd e (by simp)
      · rw [if_neg y] at e
        rw [← mm, eqx, by1] at y
        have e := Option.some.inj e
        subst e
        refine ⟨⟨none, je.2 (fun q => y q.symm), Or.inl ⟨t0, rfl⟩⟩, by decide⟩
    · rw [if_neg x] at e
      rw [← mm, eqx, bx] at x
      have e := Option.some.inj e
      subst e
      obtain ⟨R, g1, g2⟩ := j_ap h (jp_1 (φ g.1) (φ g.2)) n1 n2 (by rw [mo, mo]; exact fun q => x q.symm)
      simp only [mo] at g2
      refine ⟨⟨R, g1, ?_⟩, Nat.mod_lt _ (by decide)⟩
      simp only [n_ml Z, n_sb Z]
      exact g2
theorem ml_1 [Lean.Grind.Field F] {P : F × F} (h : OC (-3) (φ BB) (some P)) : ML φ 1 P (some P) := ls_1 h
theorem nMu_ok [Lean.Grind.Field F] (Z : ZF PP φ) {g : Nat × Nat} (hT : OC (-3) (φ BB) (some (φ g.1, φ g.2))) : ∀ (i k : Nat) (a : Nat × Nat × Nat), k < 2 ^ i → nMu g i k = some a → (∃ S, ML φ k (φ g.1, φ g.2) S ∧ JP (φ a.1) (φ a.2.1) (φ a.2.2) S) ∧ a.2.2 < PP
  | 0, k, a, hk, e => by
    have : k = 0 := by simp at hk; exact hk
    subst this
    have e := Option.some.inj e
    subst e
    exact ⟨⟨none, ls_o, Or.inl ⟨zf_0 Z, rfl⟩⟩, by decide⟩
  | i + 1, k, a, hk, e => by
    unfold nMu at e
    cases h : nMu g i (k / 2) with
    | none => rw [h] at e; exact absurd e (by simp)
    | some b =>
      rw [h] at e
      obtain ⟨⟨S, s1, s2⟩, s3⟩ := nMu_ok Z hT i (k / 2) b (by rw [Nat.pow_succ] at hk; omega) h
      obtain ⟨R, r1, r2⟩ := nTw_ok Z s1.1 s2
      have m2 := ml_add Z s1 s1 r1
      have tz : (nTw b).2.2 < PP := Nat.mod_lt _ (by decide)
      have e : (if k % 2 = 1 then nAd (nTw b) g else some (nTw b)) = some a := e
      by_cases z : k % 2 = 1
      · rw [if_pos z] at e
        obtain ⟨⟨R', q1, q2⟩, q3⟩ := nAd_ok Z m2.1 hT tz r2 e
        have m3 := ml_add Z m2 (ml_1 hT) q1
        rw [show k / 2 + k / 2 + 1 = k by omega] at m3
        exact ⟨⟨R', m3, q2⟩, q3⟩
      · rw [if_neg z] at e
        have e := Option.some.inj e
        subst e
        rw [show k / 2 + k / 2 = k by omega] at m2
        exact ⟨⟨R, m2, r2⟩, tz⟩
theorem oc_g [Lean.Grind.Field F] (Z : ZF PP φ) : OC (-3) (φ BB) (some (φ GX, φ GY)) := by
  intro x y e
  have : φ GX = x ∧ φ GY = y := by simpa using e
  obtain ⟨rfl, rfl⟩ := this
  have mm : φ (PP - 3) = -3 := by rw [zf_sb Z (by decide), zf_3 Z]
  rw [← mm, ← Z.2.1, ← Z.2.1, ← Z.2.1, ← Z.2.1, ← Z.1, ← Z.1]
  exact (Z.2.2.2.1 _ _).mpr (by decide +kernel)
theorem ml_n [Lean.Grind.Field F] (Z : ZF PP φ) : ML φ NN (φ GX, φ GY) none := by
  cases h : nMu (GX, GY) 256 NN with
  | none => have := nmu_n; rw [h] at this; exact absurd this (by simp)
  | some a =>
    have e := nmu_n
    rw [h] at e
    have e : a.2.2 = 0 := Option.some.inj e
    obtain ⟨⟨S, s1, s2⟩, _⟩ := nMu_ok Z (g := (GX, GY)) (oc_g Z) 256 NN a (by decide) h
    rcases s2 with ⟨_, q⟩ | ⟨q, _⟩
    · rw [q] at s1; exact s1
    · rw [e, zf_0 Z] at q
      exact absurd rfl q
theorem ml_k [Lean.Grind.Field F] (Z : ZF PP φ) {k : Nat} {P : F × F} (h : ML φ k P none) : ∀ j : Nat, ML φ (k * j) P none
  | 0 => ls_o
  | j + 1 => by
    rw [Nat.mul_succ]
    exact ml_add Z (ml_k Z h j) h (Or.inl ⟨rfl, rfl⟩)
theorem ml_nz [Lean.Grind.Field F] (Z : ZF PP φ) {k : Nat} {P : F × F} (hP : OC (-3) (φ BB) (some P)) (hn : ML φ NN P none) (h0 : 0 < k) (h1 : k < NN) (h : ML φ k P none) : False := by
  have nd : ¬ NN ∣ k := fun d => by have := Nat.le_of_dvd h0 d; omega
  have hf := fermat pr_N nd
  have e1 : k * k ^ (NN - 2) = NN * (k ^ (NN - 1) / NN) + 1 := by
    have h2 := Nat.div_add_mod (k ^ (NN - 1)) NN
    rw [hf] at h2
    rw [h2, Nat.mul_comm, ← Nat.pow_succ]
    rfl
  have a1 := ml_k Z h (k ^ (NN - 2))
  rw [e1] at a1
  have a2 := ml_add Z (ml_k Z hn (k ^ (NN - 1) / NN)) (ml_1 hP) (Or.inl ⟨rfl, rfl⟩)
  have := ls_uq Z a1 a2
  exact absurd this (by simp)
theorem ad_ex [Lean.Grind.Field F] (Z : ZF PP φ) {S T : Option (F × F)} (hS : OC (-3) (φ BB) S) (hT : OC (-3) (φ BB) T) : ∃ R, ADD (-3) S T R := by
  rcases S with _ | ⟨x1, y1⟩
  · exact ⟨T, Or.inl ⟨rfl, rfl⟩⟩
  · rcases T with _ | ⟨x2, y2⟩
    · exact ⟨some (x1, y1), Or.inr (Or.inl ⟨rfl, rfl⟩)⟩
    · by_cases hx : x1 * (1 * 1) = x2 * (1 * 1)
      · have n1 : (1 : F) ≠ 0 := fun e => Lean.Grind.Field.zero_ne_one e.symm
        have je := j_eq hS hT (jp_1 x1 y1) (jp_1 x2 y2) n1 n1 hx
        by_cases hy : y1 * (1 * 1 * 1) = y2 * (1 * 1 * 1)
        · have e := je.1 hy
          obtain ⟨R, r1, _⟩ := j_tw (zf_2 Z) (no_rt Z) hS (jp_1 x1 y1)
          rw [← e]
          exact ⟨R, r1⟩
        · exact ⟨none, je.2 hy⟩
      · have n1 : (1 : F) ≠ 0 := fun e => Lean.Grind.Field.zero_ne_one e.symm
        obtain ⟨R, r1, _⟩ := j_ap (jp_1 x1 y1) (jp_1 x2 y2) n1 n1 hx
        exact ⟨R, r1⟩
theorem ls_ex [Lean.Grind.Field F] (Z : ZF PP φ) : ∀ D : List (F × F), (∀ P, P ∈ D → OC (-3) (φ BB) (some P)) → ∃ S, LSm φ D S
  | [], _ => ⟨none, ls_o⟩
  | P :: D, h => by
    obtain ⟨S, hs⟩ := ls_ex Z D (fun Q hQ => h Q (List.mem_cons_of_mem _ hQ))
    have h1 := ls_1 (h P List.mem_cons_self)
    obtain ⟨R, r⟩ := ad_ex Z h1.1 hs.1
    exact ⟨R, ls_add Z h1 hs r⟩
end OD
