/-! the class's makeSignature, all of it -/
section MSK
variable {F : Type} {φ : Nat → F} {H : Type} {ψ : Nat → H}
theorem u_make [Lean.Grind.Field F] [Lean.Grind.Field H] (Z : ZF PP φ) (Y : ZF NN ψ) (hr : φ (2 ^ 261) ≠ 0) (hs : ψ (2 ^ 261) ≠ 0) {li lj : Int} {ks : Nat} {fr fs fd dg : Nat → Int8} {h : HP} (C : CUv φ li h) (S : SGn lj h) (G : SN1 fr fs h) (dk : 3 ≤ ks ∧ ks < 103) (hks : h[ks]? = some (pB 32 fd)) (hD : be fd 32 < NN) (hdg : h[103]? = some (pB 32 dg)) :
    ∃ h' R S' fr' fs', P_Si_makeSignature h 262 110 ks 103 295 = some h' ∧ CUv φ li h' ∧ SGn lj h' ∧ SN1 fr' fs' h' ∧ KI 110 298 h h' ∧ SO φ ψ (be fd 32) (be dg 32 % NN) 100 (kB fd (btv (be dg 32 % NN))) (vB fd (btv (be dg 32 % NN))) R S' ∧ (R < NN ∧ S' < NN) ∧ (fr' 0 = 0 ∧ ∀ k, k < 32 → fr' (1 + k) = btv R k) ∧ (fs' 0 = 0 ∧ ∀ k, k < 32 → fs' (1 + k) = btv S' k) := by
  obtain ⟨⟨S0, Mo, P, rows, r293, r294⟩, key, val, sd, N⟩ := S
  obtain ⟨h1, a1, a2, a3, a4⟩ := w_reduced (s := 262) (kr := 103) (n := 32) S0 Mo (by decide) (by decide) (by decide) hdg (rows 289 (by decide) (by decide))
  obtain ⟨z, hz⟩ : ∃ z, z = be dg 32 % NN := ⟨_, rfl⟩
  rw [← hz] at a4 ⊢
  have e1 : ∀ j, j ≠ 270 ∧ j ≠ 289 → h1[j]? = h[j]? := fun j hj => a3.2 j (fun q => by simp at q; omega)
  obtain ⟨f3, g3⟩ := r293
  obtain ⟨E, c1, c2, c3⟩ := a4
  obtain ⟨w, b1, b2, b3⟩ := e_write (kt := 293) (a := 289) (at' := 0) (n := 32) (h := h1) (by decide) (by decide) (by decide) ((e1 293 (by decide)).trans g3) c1 c2
  obtain ⟨h4, hh⟩ : ∃ h4, h4 = h1.set 293 (pB 32 w) := ⟨_, rfl⟩
  rw [← hh] at b1
  have k4 : KP [293] h1 h4 := by rw [hh]; exact KP.st (by simp)
  have e4 : ∀ j, j ≠ 270 ∧ j ≠ 289 ∧ j ≠ 293 → h4[j]? = h[j]? := fun j hj => (k4.2 j (fun q => by simp at q; omega)).trans (e1 j (by omega))
  have q4 : h4[293]? = some (pB 32 w) := by rw [hh]; exact hs_ ((e1 293 (by decide)).trans g3)
  have N4 : NOo 273 274 275 276 277 278 279 280 281 282 key val sd h4 := by
    obtain ⟨n1, n2, n3, n4, n5, n6, n7⟩ := N
    refine ⟨(e4 273 (by decide)).trans n1, sho_ag n2 (fun j hj => e4 j (by omega)), (e4 278 (by decide)).trans n3, (e4 279 (by decide)).trans n4, (e4 280 (by decide)).trans n5, ?_, ?_⟩
    · rw [e4 281 (by decide)]; exact n6
    · rw [e4 282 (by decide)]; exact n7
  obtain ⟨h7, keyA, valA, sdA, keyB, valB, sdB, d1, d2, d3, d4, d5, d6, d7, d8, d9⟩ := e_nbegin (r1 := ks) (r2 := 293) nd_no N4 (by simp; omega) (by decide) ((e4 ks (by omega)).trans hks) q4 (by decide) (by decide) (by decide) (by decide)
  have e7 : ∀ j, j ≠ 270 ∧ j ≠ 289 ∧ j ≠ 293 ∧ (j < 274 ∨ 283 ≤ j) → h7[j]? = h[j]? := fun j hj => (d9.2 j (fun q => by simp at q; omega)).trans (e4 j (by omega))
  obtain ⟨h8, f1, f2, f4, f5, f6⟩ := w_setZero (g := 295) ((e7 295 (by decide)).trans G.1) ((e7 296 (by decide)).trans G.2.1) ((e7 297 (by decide)).trans G.2.2)
  have e8 : ∀ j, j ≠ 270 ∧ j ≠ 289 ∧ j ≠ 293 ∧ (j < 274 ∨ (283 ≤ j ∧ j < 296) ∨ 298 ≤ j) → h8[j]? = h[j]? := fun j hj => (f6.2 j (fun q => by simp at q; omega)).trans (e7 j (by omega))
  have k8 : KI 110 298 h h8 := (KI.of a3 (by decide)).tr ((KI.of k4 (by decide)).tr ((KI.of d9 (by decide)).tr (KI.of f6 (by decide))))
  have c8 : CV NN h8 289 z := ⟨E, (f6.2 289 (by decide)).trans ((d9.2 289 (by decide)).trans ((k4.2 289 (by decide)).trans c1)), c2, c3⟩
  have M8 : MSb φ li lj z keyB valB (fil fr 33 0) (fil fs 33 0) h8 := by
    refine ⟨cuv_ag C (fun j h1 h2 => e8 j (by omega)), ⟨(e8 262 (by decide)).trans S0, mob_ag a2 (fun j h1 h2 => (f6.2 j (fun q => by simp at q; omega)).trans ((d9.2 j (fun q => by simp at q; omega)).trans (k4.2 j (fun q => by simp at q; omega)))), prw_ag P (fun j h1 h2 => e8 j (by omega)), fun j h1 h2 => ?_, ⟨w, (f6.2 293 (by decide)).trans ((d9.2 293 (by decide)).trans q4)⟩, ?_⟩, no1_ag ⟨sdB, d2⟩ (agk f6 (by decide)), c8, f2, f4, f5⟩
    · by_cases y : j = 289
      · subst y
        obtain ⟨G, g, _⟩ := c8
        exact ⟨G, g⟩
      · exact ex_ag (rows j h1 h2) (e8 j (by omega))
    · rw [e8 294 (by decide)]; exact r294
  obtain ⟨h', R, S', fr', fs', g1, g2, g4, g5, g6, g7, g8⟩ := ms_loop Z Y hr hs (ks := ks) dk hD (fun k hk => by unfold fil; rw [if_pos hk]) (fun k hk => by unfold fil; rw [if_pos hk]) 100 0 FU keyB valB h8 (by decide) (by decide) M8 ((e8 ks (by omega)).trans hks)
  refine ⟨h', R, S', fr', fs', ?_, g2, g4, g5, k8.tr g6, ?_, g8⟩
  · unfold P_Si_makeSignature
    rw [os_ S0, bs_ a1, bs_ (gR_at (sgo_l ((e1 262 (by decide)).trans S0)) rfl), bs_ (gR_at (sgo_l ((e1 262 (by decide)).trans S0)) rfl), show P_Li_write h1 289 293 0 = _ from b1, bs_ rfl, bs_ (gR_at (sgo_l ((e4 262 (by decide)).trans S0)) rfl), bs_ (gR_at (sgo_l ((e4 262 (by decide)).trans S0)) rfl), os_ N4.1, bs_ d1, os_ ((e7 295 (by decide)).trans G.1), bs_ f1]
    exact g1
  · have wz : ∀ k, k < 32 → w k = btv z k := fun k hk => by have := b2 k hk; rw [Nat.zero_add] at this; exact this
    have x1 : E32 (fil key 32 0) (fun _ => 0) := fun k hk => by unfold fil; rw [if_pos hk]
    have x2 : E32 (fil val 32 1) (fun _ => 1) := fun k hk => by unfold fil; rw [if_pos hk]
    have sdq : ∀ (v v' : Nat → Int8) (t : Int8) (sd : Nat → Int8), E32 v v' → (∀ k, 33 ≤ k → k < 97 → sd k = if k < 65 then fd (k - 33) else btv z (k - 65)) → ∀ k, k < 97 → va_up (va_cpy v sd 0 0 32) 32 t k = sd0 v' t fd (btv z) k := by
      intro v v' t sd hv hsd k hk
      unfold sd0
      by_cases y : k = 32
      · subst y; rw [up_s, if_neg (by decide), if_pos rfl]
      · rw [up_n y]
        by_cases y2 : k < 32
        · rw [cpy_in (by omega) (by omega), if_pos y2]
          have := hv k y2
          simpa using this
        · rw [cpy_out (by omega), if_neg y2, if_neg y]
          exact hsd k (by omega) hk
    have tl : ∀ k, 33 ≤ k → k < 97 → va_cpy w (va_cpy fd sd 0 33 32) 0 65 32 k = if k < 65 then fd (k - 33) else btv z (k - 65) := by
      intro k h1 h2
      by_cases y : k < 65
      · rw [cpy_out (by omega), cpy_in (by omega) (by omega), if_pos y, Nat.zero_add]
      · rw [cpy_in (by omega) (by omega), if_neg y, Nat.zero_add]
        exact wz _ (by omega)
    have qA : E32 keyA (kA fd (btv z)) := by
      rw [d4]
      refine dg32 (hmac_eq2 x1 (fun k hk => ?_))
      rw [d3]
      exact sdq _ _ _ _ x2 tl k hk
    have rA : E32 valA (vA fd (btv z)) := by
      rw [d5]
      exact dg32 (hmac_eq2 qA x2)
    have qB : E32 keyB (kB fd (btv z)) := by
      rw [d7]
      refine dg32 (hmac_eq2 qA (fun k hk => ?_))
      rw [d6]
      refine sdq _ _ _ _ rA (fun k h1 h2 => ?_) k hk
      rw [d3, up_n (by omega), cpy_out (by omega)]
      exact tl k h1 h2
    have rB : E32 valB (vB fd (btv z)) := by
      rw [d8]
      exact dg32 (hmac_eq2 qB rA)
    exact so_cg 100 _ _ _ _ R S' qB rB g7
end MSK
