/-! both objects made; the law's loop; the claim -/
theorem zf_r {F : Type} {φ : Nat → F} [Lean.Grind.Field F] {p : Nat} (Z : ZF p φ) (h : 2 ^ 261 % p ≠ 0) : φ (2 ^ 261) ≠ 0 := by
  intro e
  have := (Z.2.2.2.1 _ _).mp (e.trans (zf_0 Z).symm)
  rw [Nat.zero_mod] at this
  exact h this
theorem pure_ : PURE := by
  intro L xs hL
  obtain ⟨F, iF, φ, Z⟩ := zf_ex pr_P
  obtain ⟨H, iH, ψ, Y⟩ := zf_ex pr_N
  have hr : φ (2 ^ 261) ≠ 0 := zf_r Z (by decide +kernel)
  have hs : ψ (2 ^ 261) ≠ 0 := zf_r Y (by decide +kernel)
  obtain ⟨h3, dg, a1, a2, C, a4⟩ := mkn_PK Z hr
  obtain ⟨h6, b1, b2, b3, R⟩ := mkn_Rm a2
  obtain ⟨h7, hh⟩ : ∃ h7, h7 = h6 ++ [pJ 1 (fun _ => 0)] := ⟨_, rfl⟩
  have lo : ∀ j, j < 348 → h7[j]? = h6[j]? := fun j hj => by rw [hh]; exact ap_lo (by omega)
  have l7 : h7.length = 349 := by rw [hh, List.length_append, b2]; rfl
  have C7 : CI φ 1 234929231 1 1024 0 0 0 0 0 (fun _ => 0) (fun _ => 0) dg (fun _ => 0) (fun _ => 0) h7 := ci_fr C (fun j hj => by
    rcases hj with c | c
    · exact (lo j (by omega)).trans (b3 j c)
    · rw [List.getElem?_eq_none (by omega), List.getElem?_eq_none (by omega)])
  have R7 : RI 0 0 0 0 0 0 (fun _ => 0) (fun _ => 0) (fun _ => 0) (fun _ => 0) (fun _ => 0) h7 := ri_ag R (fun j h1 h2 => lo j h2)
  have g7 : h7[348]? = some (pJ 1 (fun _ => 0)) := by rw [hh]; exact ap_at (i := 0) b2
  have J : JN φ 1 234929231 1024 h7 := ⟨1, 0, 0, 0, 0, 0, fun _ => 0, fun _ => 0, dg, fun _ => 0, fun _ => 0, fun _ => 0, fun _ => 0, 0, C7, R7, ⟨⟨by decide, by decide, by decide⟩, fun i hi => absurd hi (Nat.not_lt_zero _), a4, fun k hk => absurd hk (Nat.not_lt_zero _)⟩, fun _ => 0, g7⟩
  obtain ⟨bs, c1, c2, c3⟩ := s_ll Z Y hr hs hL (xs := xs) 512 0 1024 h7 (by omega) (by decide) J
  refine ⟨h7, 0, 304, 348, bs, ?_, c1, by omega, by omega⟩
  unfold S_La
  rw [lt_e, lt_e]
  refine (bs_ a1).trans ?_
  rw [lt_e, lt_e, a2, bs_ b1, lt_e, lt_e, b2, hh]
  rfl
