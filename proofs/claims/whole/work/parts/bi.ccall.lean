/-! the class's calls: key, message, open -/
theorem ldR_4 {h : HP} {j kc : Nat} {ky : Nat → Int8} (A : CK kc ky h) (hj : j < 100) : ldR h 2 4 (nI j) = some (3 + j) := by
  obtain ⟨⟨f, f1, f2⟩, _⟩ := A
  unfold ldR
  rw [f1]
  show (if _ then none else _) = _
  rw [nI_clamp (by omega), if_neg (fun c => by
    rcases c with c | c | c
    · exact c rfl
    · exact nI_pos (by omega) c
    · omega)]
  exact f2 j hj
theorem key_c {x : Int32} {kc : Nat} (h : kc ≤ 100) : (∃ i, i < kc ∧ x = nI i) ∨ (x < 0 ∨ (¬ x < 0 ∧ nI kc ≤ x)) := by
  by_cases z : x < 0
  · exact Or.inr (Or.inl z)
  · obtain ⟨i, h1, h2⟩ := nI_of z
    by_cases y : i < kc
    · exact Or.inl ⟨i, y, h2⟩
    · exact Or.inr (Or.inr ⟨z, by rw [h2]; exact nI_le (by omega) (by omega)⟩)
section CCA
variable {F : Type} {φ : Nat → F} {li lj : Int} {kt tn tl kc ml rl : Nat} {sm : Int32} {row ky dg res : Nat → Int8} {vc : Nat → Int32} {h : HP}
theorem u_isKey1 [Lean.Grind.Field F] (C : CI φ li lj kt tn tl kc ml rl sm row ky dg res vc h) {i : Nat} (hi : i < kc) (hk : kc ≤ 100) : P_PK_isKey h 0 (nI i) = some (1, h) := by
  unfold P_PK_isKey
  rw [if_neg (nI_pos (by omega)), bs_ (gI_at C.1 rfl), if_neg (nI_ge hi (by omega))]
theorem u_isKey0 [Lean.Grind.Field F] (C : CI φ li lj kt tn tl kc ml rl sm row ky dg res vc h) {x : Int32} (hx : x < 0 ∨ (¬ x < 0 ∧ nI kc ≤ x)) : P_PK_isKey h 0 x = some (0, h) := by
  unfold P_PK_isKey
  rcases hx with c | ⟨c, d⟩
  · rw [if_pos c]; rfl
  · rw [if_neg c, bs_ (gI_at C.1 rfl), if_pos d]; rfl
theorem cy_c [Lean.Grind.Field F] {h' : HP} (C : CY φ li lj h) (U : CUv φ li h') (k1 : ag 106 110 h h') (k2 : ag 262 298 h h') (P : PRw 298 h') (x : ∃ G, h'[302]? = some (pJ 9 G)) (y : ∃ G, h'[303]? = some (pJ 9 G)) : CY φ li lj h' := by
  obtain ⟨a, b, c, ⟨fr, fs, d⟩, e, f, g⟩ := C
  exact ⟨sho_ag a (fun j hj => k1 j (by omega) (by omega)), U, sgn_ag c (k2.sub (by decide) (by decide)), ⟨fr, fs, sn1_ag d (k2.sub (by decide) (by decide))⟩, P, x, y⟩
/-- the cells of the object's own bytes, and what the tape is -/
theorem ci_y [Lean.Grind.Field F] {h' : HP} (C : CI φ li lj kt tn tl kc ml rl sm row ky dg res vc h) (k : ∀ j, j < 106 ∨ 349 ≤ j → h'[j]? = h[j]?) (Y : CY φ li lj h') : CI φ li lj kt tn tl kc ml rl sm row ky dg res vc h' :=
  ⟨(k 0 (by omega)).trans C.1, ct_ag C.2.1 (k _ (by rcases C.2.1.2.1 with c | c <;> omega)), ck_ag C.2.2.1 (fun j h1 h2 => k j (by omega)), cx_ag C.2.2.2.1 (fun j h1 h2 => k j (by omega)), Y⟩
theorem pV0 {h : HP} {j : Nat} {v : Value} (e : h[0]? = some (pO 7 (OB kt tl kc ml rl sm))) (hj : j < 17) : pV h 0 7 j v = some (h.set 0 (pO 7 ((OB kt tl kc ml rl sm).set j v))) := pV_at e hj
theorem u_key [Lean.Grind.Field F] (C : CI φ li lj kt tn tl kc ml rl sm row ky dg res vc h) (hk : kc ≤ 100) (ht : tl = 32) :
    ∃ h', CI φ li lj kt tn tl kc ml rl sm row ky dg res vc h' ∧ KQ h h' ∧ (¬ rng (be row 32) → P_PK_key h 0 = some (.inl 1, h')) ∧ (rng (be row 32) → kc = 100 → P_PK_key h 0 = some (.inl 0, h')) ∧
      (rng (be row 32) → kc < 100 → ∃ h'', P_PK_key h 0 = some (.inr (nI kc), h'') ∧ KQ h h'' ∧ ∀ ky', (∀ k, k < 32 → ky' (32 * kc + k) = row k) → (∀ j, j < 32 * kc → ky' j = ky j) → CI φ li lj kt tn 0 (kc + 1) ml rl sm row ky' dg res vc h'') := by
  have T := C.2.1
  have tn1 := ct_tn T
  obtain ⟨Sh, U, ⟨⟨S0, Mo, P, rows, r293, r294⟩, key, val, N⟩, G, P8, x2, x3⟩ := C.2.2.2.2
  have nk : kt ≠ 292 := by rcases T.2.1 with c | c <;> omega
  obtain ⟨h4, a1, a2, a3, G4, a4, _⟩ := w_inRange (s := 262) (kr := kt) (n := tn) (at' := 0) S0 Mo (by omega) (by omega) nk T.1 (rows 292 (by decide) (by decide))
  have eb : be (fun k => row (0 + k)) 32 = be row 32 := be_eq 32 (fun k _ => by rw [Nat.zero_add])
  rw [eb] at a1
  have k4 : KI 106 304 h h4 := KI.of a3 (by decide)
  have C4 : CI φ li lj kt tn tl kc ml rl sm row ky dg res vc h4 := by
    refine ci_y C (fun j hj => a3.2 j (fun q => by simp at q; omega)) ⟨sho_ag Sh (fun j hj => a3.2 j (fun q => by simp at q; omega)), cuv_ag U (agk a3 (by decide)), ⟨⟨(a3.2 262 (by decide)).trans S0, a2, prw_ag P (agk a3 (by decide)), fun i h1 h2 => ?_, ?_, ?_⟩, key, val, no1_ag N (agk a3 (by decide))⟩, ?_, prw_ag P8 (agk a3 (by decide)), ex_ag x2 (a3.2 302 (by decide)), ex_ag x3 (a3.2 303 (by decide))⟩
    · by_cases z : i = 292
      · subst z; exact ⟨G4, a4⟩
      · exact ex_ag (rows i h1 h2) (a3.2 i (by simp; omega))
    · rw [a3.2 293 (by decide)]; exact r293
    · rw [a3.2 294 (by decide)]; exact r294
    · obtain ⟨fr, fs, g⟩ := G
      exact ⟨fr, fs, sn1_ag g (agk a3 (by decide))⟩
  have go : ∀ X, P_PK_key h 0 = X ↔ (if bi (decide (be row 32 < NN ∧ be row 32 ≠ 0)) = 0 then
  B_PK_key_24 h4
  else
  if nI kc < 100 then
  bnd (ldR h4 2 4 (nI kc)) fun k10 =>
  bnd (cpB h4 kt 0 k10 0 32) fun h11 =>
  bnd (gI h11 0 7 3) fun v12 =>
  bnd (pV h11 0 7 3 (.int (v12 + 1))) fun h13 =>
  bnd (pV h13 0 7 1 (.int 0)) fun h14 =>
  some (.inr (nI kc), h14)
  else
  some (.inl 0, h4)) = X := by
    intro X
    unfold P_PK_key
    rw [bs_ (gI_at C.1 rfl), if_pos (by rw [ht]; rfl), bs_ (gR_at C.1 rfl), bs_ (gR_at C.1 rfl), os_ S0, show P_Si_isInRange1 h 262 kt 0 = _ from a1, bs2 rfl, bs_ (gI_at C4.1 rfl), bs_ (gI_at C4.1 rfl), bs_ (gR_at C4.1 rfl), bs_ (gR_at C4.1 rfl)]
  refine ⟨h4, C4, KQ.ki k4 (by decide), fun z => ?_, fun z y => ?_, fun z y => ?_⟩
  · rw [go, decide_eq_false (show ¬ (be row 32 < NN ∧ be row 32 ≠ 0) from z), if_pos (show bi false = 0 by decide)]; rfl
  · rw [go, decide_eq_true (show be row 32 < NN ∧ be row 32 ≠ 0 from z), if_neg (show ¬ bi true = 0 by decide), if_neg (by rw [y]; decide)]
  · obtain ⟨sec, s1, s2⟩ := C4.2.2.1.2 kc y
    have n1 : kt ≠ 3 + kc := by rcases T.2.1 with c | c <;> omega
    have p1 := cpB_at (x := 0) (y := 0) (z := 32) 0 0 32 C4.2.1.1 s1 rfl rfl rfl (by omega) (by decide) (by omega) (by decide)
    obtain ⟨h11, hh⟩ : ∃ h11, h11 = h4.set (3 + kc) (pB 32 (va_cpy row sec 0 0 32)) := ⟨_, rfl⟩
    rw [← hh] at p1
    have e11 : ∀ j, j ≠ 3 + kc → h11[j]? = h4[j]? := fun j hj => by rw [hh]; exact List.getElem?_set_ne (Ne.symm hj)
    have l11 : h11.length = h4.length := by rw [hh]; exact List.length_set
    have q11 : h11[0]? = some (pO 7 (OB kt tl kc ml rl sm)) := (e11 0 (by omega)).trans C4.1
    have p2 := pV0 (j := 3) (v := .int (nI kc + 1)) q11 (by decide)
    rw [nI_1] at p2
    obtain ⟨h13, hh13⟩ : ∃ h13, h13 = h11.set 0 (pO 7 (OB kt tl (kc + 1) ml rl sm)) := ⟨_, rfl⟩
    have p2' : pV h11 0 7 3 (.int (nI (kc + 1))) = some h13 := by rw [hh13]; exact p2
    have q13 : h13[0]? = some (pO 7 (OB kt tl (kc + 1) ml rl sm)) := by rw [hh13]; exact hs_ q11
    have p3 : pV h13 0 7 1 (.int 0) = some (h13.set 0 (pO 7 (OB kt 0 (kc + 1) ml rl sm))) := pV0 (j := 1) (v := .int 0) q13 (by decide)
    obtain ⟨h14, hh14⟩ : ∃ h14, h14 = h13.set 0 (pO 7 (OB kt 0 (kc + 1) ml rl sm)) := ⟨_, rfl⟩
    rw [← hh14] at p3
    have e14 : ∀ j, j ≠ 0 → j ≠ 3 + kc → h14[j]? = h4[j]? := fun j h1 h2 => by rw [hh14, hh13, List.getElem?_set_ne (Ne.symm h1), List.getElem?_set_ne (Ne.symm h1)]; exact e11 j h2
    have l14 : h14.length = h4.length := by rw [hh14, hh13, List.length_set, List.length_set]; exact l11
    refine ⟨h14, ?_, (KQ.ki k4 (by decide)).tr ⟨Nat.le_of_eq l14.symm, fun j h1 h2 => e14 j (by omega) (by omega)⟩, fun ky' g1 g2 => ⟨by rw [hh14]; exact hs_ q13, ⟨(e14 kt (by rcases T.2.1 with c | c <;> omega) n1).trans C4.2.1.1, T.2.1, Nat.zero_le _, T.2.2.2⟩, ⟨?_, fun i hi => ?_⟩, cx_ag C4.2.2.2.1 (fun j h1 h2 => e14 j (by omega) (by omega)), cy_ag C4.2.2.2.2 (fun j h1 h2 => e14 j (by omega) (by omega))⟩⟩
    · rw [go, decide_eq_true (show be row 32 < NN ∧ be row 32 ≠ 0 from z), if_neg (show ¬ bi true = 0 by decide), if_pos (show nI kc < 100 from nI_lt (b := 100) y (by decide)), bs_ (ldR_4 C4.2.2.1 y), bs_ p1, bs_ (gI_at q11 rfl), nI_1, bs_ p2', bs_ p3]
    · obtain ⟨f, f1, f2⟩ := C4.2.2.1.1
      exact ⟨f, (e14 2 (by decide) (by omega)).trans f1, f2⟩
    · by_cases w : i = kc
      · subst w
        refine ⟨va_cpy row sec 0 0 32, ?_, fun _ k hk2 => ?_⟩
        · rw [hh14, hh13, List.getElem?_set_ne (by omega), List.getElem?_set_ne (by omega), hh]; exact hs_ s1
        · rw [cpy_in (by omega) (by omega), g1 k hk2]
          congr 1
          omega
      · obtain ⟨s, t1, t2⟩ := C4.2.2.1.2 i hi
        exact ⟨s, (e14 (3 + i) (by omega) (by omega)).trans t1, fun hi2 k hk2 => by rw [t2 (by omega) k hk2, g2 _ (by omega)]⟩
theorem u_message [Lean.Grind.Field F] (C : CI φ li lj kt tn tl kc ml rl sm row ky dg res vc h) : ∃ h' dg', P_PK_message h 0 = some (nI tl, h') ∧ CI φ li lj kt tn 0 kc tl rl sm row ky dg' res vc h' ∧ KQ h h' ∧ ∀ k, k < 32 → dg' k = dgs (fun _ => 0) (hs (XP row tl) ((tl + 72) / 64)) 32 k := by
  have T := C.2.1
  have tn1 := ct_tn T
  obtain ⟨Sh, U, Sg, G, P8, x2, x3⟩ := C.2.2.2.2
  have nk : kt ∉ [106, 107, 108, 109] := by rcases T.2.1 with c | c <;> simp <;> omega
  have tle := T.2.2.1
  obtain ⟨h5, a1, a2, a3, a4⟩ := e_digest (row := kt) (to := 103) (len := tl) (show AP4 106 107 108 109 by unfold AP4; decide) Sh nk (by decide) tle (by omega) (by decide) (by decide) T.1 C.2.2.2.1.1
  rw [outS_dgs _ _ 8 (Nat.le_refl _)] at a3
  obtain ⟨dg', hd⟩ : ∃ dg', dg' = dgs dg (hs (XP row tl) ((tl + 72) / 64)) (4 * 8) := ⟨_, rfl⟩
  rw [← hd] at a3
  have q5 : h5[0]? = some (pO 7 (OB kt tl kc ml rl sm)) := (a4.2 0 (by decide)).trans C.1
  have p1 : pV h5 0 7 5 (.int (nI tl)) = some (h5.set 0 (pO 7 (OB kt tl kc tl rl sm))) := pV0 (j := 5) (v := .int (nI tl)) q5 (by decide)
  obtain ⟨h7, hh7⟩ : ∃ h7, h7 = h5.set 0 (pO 7 (OB kt tl kc tl rl sm)) := ⟨_, rfl⟩
  rw [← hh7] at p1
  have q7 : h7[0]? = some (pO 7 (OB kt tl kc tl rl sm)) := by rw [hh7]; exact hs_ q5
  have p2 : pV h7 0 7 1 (.int 0) = some (h7.set 0 (pO 7 (OB kt 0 kc tl rl sm))) := pV0 (j := 1) (v := .int 0) q7 (by decide)
  obtain ⟨h8, hh8⟩ : ∃ h8, h8 = h7.set 0 (pO 7 (OB kt 0 kc tl rl sm)) := ⟨_, rfl⟩
  rw [← hh8] at p2
  have q8 : h8[0]? = some (pO 7 (OB kt 0 kc tl rl sm)) := by rw [hh8]; exact hs_ q7
  have e8 : ∀ j, j ≠ 0 → h8[j]? = h5[j]? := fun j hj => by rw [hh8, hh7, List.getElem?_set_ne (Ne.symm hj), List.getElem?_set_ne (Ne.symm hj)]
  have l8 : h8.length = h.length := by rw [hh8, hh7, List.length_set, List.length_set]; exact a4.1
  have e8' : ∀ j, j ≠ 0 → j ∉ [106, 107, 108, 109, 103] → h8[j]? = h[j]? := fun j h1 h2 => (e8 j h1).trans (a4.2 j h2)
  refine ⟨h8, dg', ?_, ⟨q8, ⟨(e8' kt (by rcases T.2.1 with c | c <;> omega) (by rcases T.2.1 with c | c <;> simp <;> omega)).trans T.1, T.2.1, Nat.zero_le _, T.2.2.2⟩, ck_ag C.2.2.1 (fun j h1 h2 => e8' j (by omega) (by simp; omega)), ⟨(e8 103 (by decide)).trans a3, (e8' 104 (by decide) (by decide)).trans C.2.2.2.1.2.1, (e8' 105 (by decide) (by decide)).trans C.2.2.2.1.2.2⟩, ?_⟩, ⟨Nat.le_of_eq l8.symm, fun j h1 h2 => e8' j (by omega) (by simp; omega)⟩, fun k hk => ?_⟩
  · unfold P_PK_message
    rw [bs_ (gR_at C.1 rfl), bs_ (gR_at C.1 rfl), bs_ (gI_at C.1 rfl), bs_ (gR_at C.1 rfl), os_ (show h[106]? = _ from Sh.choose_spec.choose_spec.choose_spec.choose_spec.choose_spec.1), bs_ a1, bs_ (gI_at q5 rfl), bs_ p1, bs_ p2, bs_ (gI_at q8 rfl)]
  · have k : ag 110 304 h h8 := fun j h1 h2 => e8' j (by omega) (by simp; omega)
    exact ⟨sho_ag a2 (fun j hj => e8 j (by omega)), cuv_ag U (k.sub (by decide) (by decide)), sgn_ag Sg (k.sub (by decide) (by decide)), by obtain ⟨fr, fs, g⟩ := G; exact ⟨fr, fs, sn1_ag g (k.sub (by decide) (by decide))⟩, prw_ag P8 (k.sub (by decide) (by decide)), ex_ag x2 (k 302 (by decide) (by decide)), ex_ag x3 (k 303 (by decide) (by decide))⟩
  · rw [hd]
    exact dg32 rfl k hk
end CCA
