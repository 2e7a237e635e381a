/-! the class's constructor -/
section PKN
variable {F : Type} {φ : Nat → F}
/-- a part object behind a heap that is known by facts; the object itself lies at 0 -/
theorem suF {P : HP → Nat → Option HP} {L : Nat → HP} {x : PE} {c j n : Nat} {fs : List Value} {h : HP} (e : ∀ (g : HP) (n : Nat), g.length = n → P (g ++ [x]) n = some (g ++ L n)) (hl : h.length = n) (hk : h[0]? = some (pO c fs)) (hj : j + 1 ≤ fs.length) : ∃ h', (∀ K : HP → Option HP, (lt (h ++ [x]) fun h1 => lt h.length fun k2 => bnd (P h1 k2) fun h3 => bnd (pV h3 0 c j (.ref k2)) fun h4 => K h4) = K h') ∧ h'.length = n + (L n).length ∧ h'[0]? = some (pO c (fs.set j (.ref n))) ∧ (∀ j, 0 < j → j < n → h'[j]? = h[j]?) ∧ ∀ i, h'[n + i]? = (L n)[i]? := by
  have n0 : 0 < n := by rw [← hl]; exact (List.getElem?_eq_some_iff.mp hk).1
  have e0 : (h ++ L n)[0]? = some (pO c fs) := (ap_lo (by omega)).trans hk
  refine ⟨(h ++ L n).set 0 (pO c (fs.set j (.ref n))), fun K => ?_, ?_, hs_ e0, fun j h1 h2 => ?_, fun i => ?_⟩
  · rw [lt_e, lt_e, hl, bs_ (e h n hl)]
    exact bs_ (pV_at e0 hj)
  · rw [List.length_set, List.length_append, hl]
  · rw [List.getElem?_set_ne (by omega)]; exact ap_lo (by omega)
  · rw [List.getElem?_set_ne (by omega)]; exact ap_at hl
theorem alF {x : PE} {c j n : Nat} {fs : List Value} {h : HP} (hl : h.length = n) (hk : h[0]? = some (pO c fs)) (hj : j + 1 ≤ fs.length) : ∃ h', (∀ K : HP → Option HP, (lt (h ++ [x]) fun h1 => lt h.length fun k2 => bnd (pV h1 0 c j (.ref k2)) fun h4 => K h4) = K h') ∧ h'.length = n + 1 ∧ h'[0]? = some (pO c (fs.set j (.ref n))) ∧ (∀ j, 0 < j → j < n → h'[j]? = h[j]?) ∧ h'[n]? = some x := by
  have n0 : 0 < n := by rw [← hl]; exact (List.getElem?_eq_some_iff.mp hk).1
  have e0 : (h ++ [x])[0]? = some (pO c fs) := (ap_lo (by omega)).trans hk
  refine ⟨(h ++ [x]).set 0 (pO c (fs.set j (.ref n))), fun K => ?_, ?_, hs_ e0, fun j h1 h2 => ?_, ?_⟩
  · rw [lt_e, lt_e, hl]
    exact bs_ (pV_at e0 hj)
  · rw [List.length_set, List.length_append, hl]; rfl
  · rw [List.getElem?_set_ne (by omega)]; exact ap_lo (by omega)
  · rw [List.getElem?_set_ne (by omega)]; exact ap_at (i := 0) hl
/-- the first cells of the class's object -/
def Pcs : HP := pO 7 [.ref 1, .int 0, .ref 2, .int 0, .ref 103, .int 0, .ref 104, .int 0, .int 0, .ref 105, .ref 106, .null, .null, .null, .null, .null, .null] :: pB 1024 (fun _ => 0) :: pR 4 100 (fun i => if i < 100 then some (3 + i) else none) :: (List.replicate 100 (pB 32 (fun _ => 0)) ++ [pB 32 (fun _ => 0), pB 72 (fun _ => 0), pI 5 (fun _ => 0), pO 4 [.ref 107, .ref 108, .ref 109, .int 0, .int 0], pI 8 (fun _ => 0), pI 64 (fun _ => 0), pB 64 (fun _ => 0)])
theorem pcs_k {i : Nat} (hi : i < 100) : Pcs[3 + i]? = some (pB 32 (fun _ => 0)) := by
  rw [Nat.add_comm 3 i]
  show (List.replicate 100 (pB 32 (fun _ => 0)) ++ _)[i]? = _
  rw [List.getElem?_append_left (by rw [List.length_replicate]; exact hi), List.getElem?_replicate, if_pos hi]
set_option maxRecDepth 10000 in
theorem pcs_1 : Pcs.length = 110 := rfl
set_option maxRecDepth 10000 in
theorem pcs_2 : Pcs[103]? = some (pB 32 (fun _ => 0)) ∧ Pcs[104]? = some (pB 72 (fun _ => 0)) ∧ Pcs[105]? = some (pI 5 (fun _ => 0)) ∧ Pcs[106]? = some (pO 4 [.ref 107, .ref 108, .ref 109, .int 0, .int 0]) ∧ Pcs[107]? = some (pI 8 (fun _ => 0)) ∧ Pcs[108]? = some (pI 64 (fun _ => 0)) ∧ Pcs[109]? = some (pB 64 (fun _ => 0)) := ⟨rfl, rfl, rfl, rfl, rfl, rfl, rfl⟩
theorem mkn_PK [Lean.Grind.Field F] (Z : ZF PP φ) (hr : φ (2 ^ 261) ≠ 0) : ∃ h' dg, P_PK_new ([] ++ [pO 7 [.null, .int 0, .null, .int 0, .null, .int 0, .null, .int 0, .int 0, .null, .null, .null, .null, .null, .null, .null, .null]]) 0 = some h' ∧ h'.length = 304 ∧ CI φ 1 234929231 1 1024 0 0 0 0 0 (fun _ => 0) (fun _ => 0) dg (fun _ => 0) (fun _ => 0) h' ∧ ∀ k, k < 32 → dg k = dgs (fun _ => 0) (hs (XP (fun _ => 0) 0) ((0 + 72) / 64)) 32 k := by
  obtain ⟨h24, hh24⟩ : ∃ h24, h24 = Pcs := ⟨_, rfl⟩
  have l24 : h24.length = 110 := by rw [hh24]; exact pcs_1
  obtain ⟨h27, a1, a2, a3, U⟩ := mkn_Cu Z hr l24
  have a0 : h27[0]? = some (pO 7 [.ref 1, .int 0, .ref 2, .int 0, .ref 103, .int 0, .ref 104, .int 0, .int 0, .ref 105, .ref 106, .null, .null, .null, .null, .null, .null]) := (a3 0 (by decide)).trans (by rw [hh24]; rfl)
  obtain ⟨h28, hh28⟩ : ∃ h28, h28 = h27.set 0 (pO 7 [.ref 1, .int 0, .ref 2, .int 0, .ref 103, .int 0, .ref 104, .int 0, .int 0, .ref 105, .ref 106, .ref 110, .null, .null, .null, .null, .null]) := ⟨_, rfl⟩
  have p28 : pV h27 0 7 11 (.ref 110) = some h28 := by rw [hh28]; exact pV_at a0 (by decide)
  have l28 : h28.length = 262 := by rw [hh28, List.length_set]; exact a2
  have k28 : ∀ j, 0 < j → h28[j]? = h27[j]? := fun j hj => by rw [hh28]; exact List.getElem?_set_ne (by omega)
  have q28 : h28[0]? = some (pO 7 [.ref 1, .int 0, .ref 2, .int 0, .ref 103, .int 0, .ref 104, .int 0, .int 0, .ref 105, .ref 106, .ref 110, .null, .null, .null, .null, .null]) := by rw [hh28]; exact hs_ a0
  obtain ⟨h31, b1, b2, b3, S⟩ := mkn_Si l28
  have b0 : h31[0]? = _ := (b3 0 (by decide)).trans q28
  obtain ⟨h32, hh32⟩ : ∃ h32, h32 = h31.set 0 (pO 7 [.ref 1, .int 0, .ref 2, .int 0, .ref 103, .int 0, .ref 104, .int 0, .int 0, .ref 105, .ref 106, .ref 110, .ref 262, .null, .null, .null, .null]) := ⟨_, rfl⟩
  have p32 : pV h31 0 7 12 (.ref 262) = some h32 := by rw [hh32]; exact pV_at b0 (by decide)
  have l32 : h32.length = 295 := by rw [hh32, List.length_set]; exact b2
  have k32 : ∀ j, 0 < j → h32[j]? = h31[j]? := fun j hj => by rw [hh32]; exact List.getElem?_set_ne (by omega)
  have q32 : h32[0]? = some (pO 7 [.ref 1, .int 0, .ref 2, .int 0, .ref 103, .int 0, .ref 104, .int 0, .int 0, .ref 105, .ref 106, .ref 110, .ref 262, .null, .null, .null, .null]) := by rw [hh32]; exact hs_ b0
  obtain ⟨h36, c1, c2, c3, c4, c5⟩ := suF (P := P_Sg_new) (x := pO 5 [.null, .null]) (j := 13) (L := fun m => [pO 5 [.ref (m + 1), .ref (m + 2)], pB 33 (fun _ => 0), pB 33 (fun _ => 0)]) mkn_Sg l32 q32 (by decide)
  have c2 : h36.length = 298 := c2
  obtain ⟨h40, d1, d2, d3, d4, d5⟩ := suF (P := P_Po_new) (x := pO 3 [.null, .null, .null]) (j := 14) (L := fun m => [pO 3 [.ref (m + 1), .ref (m + 2), .ref (m + 3)], pJ 9 (fun _ => 0), pJ 9 (fun _ => 0), pJ 9 (fun _ => 0)]) mkn_Po c2 c3 (by decide)
  have d2 : h40.length = 302 := d2
  obtain ⟨h43, e1, e2, e3, e4, e5⟩ := alF (x := pJ 9 (fun _ => 0)) (j := 15) d2 d3 (by decide)
  obtain ⟨h46, f1, f2, f3, f4, f5⟩ := alF (x := pJ 9 (fun _ => 0)) (j := 16) e2 e3 (by decide)
  have q46 : h46[0]? = some (pO 7 (OB 1 0 0 0 0 0)) := f3
  have g3 : ∀ j, 0 < j → j < 302 → h46[j]? = h40[j]? := fun j h1 h2 => (f4 j h1 (by omega)).trans (e4 j h1 h2)
  have g2 : ∀ j, 0 < j → j < 298 → h46[j]? = h36[j]? := fun j h1 h2 => (g3 j h1 (by omega)).trans (d4 j h1 h2)
  have g1 : ∀ j, 0 < j → j < 295 → h46[j]? = h31[j]? := fun j h1 h2 => (g2 j h1 (by omega)).trans ((c4 j h1 h2).trans (k32 j h1))
  have g0 : ∀ j, 0 < j → j < 262 → h46[j]? = h27[j]? := fun j h1 h2 => (g1 j h1 (by omega)).trans ((b3 j h2).trans (k28 j h1))
  have gp : ∀ j, 0 < j → j < 110 → h46[j]? = Pcs[j]? := fun j h1 h2 => (g0 j h1 (by omega)).trans ((a3 j h2).trans (by rw [hh24]))
  obtain ⟨w3, w4, w5, w6, w7, w8, w9⟩ := pcs_2
  have Sh : SHo 106 107 108 109 h46 := ⟨0, 0, fun _ => 0, fun _ => 0, fun _ => 0, (gp 106 (by decide) (by decide)).trans w6, (gp 107 (by decide) (by decide)).trans w7, (gp 108 (by decide) (by decide)).trans w8, (gp 109 (by decide) (by decide)).trans w9⟩
  have t1 : h46[1]? = some (pB 1024 (fun _ => 0)) := (gp 1 (by decide) (by decide)).trans rfl
  have t103 : h46[103]? = some (pB 32 (fun _ => 0)) := (gp 103 (by decide) (by decide)).trans w3
  obtain ⟨h51, m1, m2, m3, m4⟩ := e_digest (p := 106) (ks := 107) (kw := 108) (kb := 109) (row := 1) (to := 103) (len := 0) (show AP4 106 107 108 109 by unfold AP4; decide) Sh (by decide) (by decide) (by decide) (by decide) (by decide) (by decide) t1 t103
  rw [outS_dgs _ _ 8 (Nat.le_refl _)] at m3
  have o : ∀ j, j ≠ 106 → j ≠ 107 → j ≠ 108 → j ≠ 109 → j ≠ 103 → h51[j]? = h46[j]? := fun j n1 n2 n3 n4 n5 => m4.2 j (by simp; omega)
  have o' : ∀ j, 110 ≤ j → h51[j]? = h46[j]? := fun j hj => o j (by omega) (by omega) (by omega) (by omega) (by omega)
  have r36 : ∀ i, i < 3 → h51[295 + i]? = _ := fun i hi => (o' _ (by omega)).trans ((g2 _ (by omega) (by omega)).trans (c5 i))
  have r40 : ∀ i, i < 4 → h51[298 + i]? = _ := fun i hi => (o' _ (by omega)).trans ((g3 _ (by omega) (by omega)).trans (d5 i))
  refine ⟨h51, _, ?_, ?_, ⟨(o 0 (by decide) (by decide) (by decide) (by decide) (by decide)).trans q46, ⟨(o 1 (by decide) (by decide) (by decide) (by decide) (by decide)).trans t1, Or.inl rfl, by decide, ⟨0, by decide, rfl⟩, fun _ _ => rfl⟩, ⟨⟨fun i => if i < 100 then some (3 + i) else none, (o 2 (by decide) (by decide) (by decide) (by decide) (by decide)).trans ((gp 2 (by decide) (by decide)).trans rfl), fun i hi => if_pos hi⟩, fun i hi => ⟨fun _ => 0, ?_, fun c => absurd c (Nat.not_lt_zero _)⟩⟩, ⟨m3, (o 104 (by decide) (by decide) (by decide) (by decide) (by decide)).trans ((gp 104 (by decide) (by decide)).trans w4), (o 105 (by decide) (by decide) (by decide) (by decide) (by decide)).trans ((gp 105 (by decide) (by decide)).trans w5)⟩, m2, ?_, ?_, ⟨fun _ => 0, fun _ => 0, r36 0 (by decide), r36 1 (by decide), r36 2 (by decide)⟩, ⟨r40 0 (by decide), ⟨_, r40 1 (by decide)⟩, ⟨_, r40 2 (by decide)⟩, ⟨_, r40 3 (by decide)⟩⟩, ⟨fun _ => 0, ?_⟩, ⟨fun _ => 0, ?_⟩⟩, dg32 rfl⟩
  · unfold P_PK_new
    refine (al_ rfl (Nat.le_of_ble_eq_true rfl)).trans ?_
    refine (bs_ (pv_ rfl (Nat.le_of_ble_eq_true rfl))).trans ?_
    refine (ml_ rfl (Nat.le_of_ble_eq_true rfl)).trans ?_
    refine (bs_ (pv_ rfl (Nat.le_of_ble_eq_true rfl))).trans ?_
    refine (al_ rfl (Nat.le_of_ble_eq_true rfl)).trans ?_
    refine (bs_ (pv_ rfl (Nat.le_of_ble_eq_true rfl))).trans ?_
    refine (al_ rfl (Nat.le_of_ble_eq_true rfl)).trans ?_
    refine (bs_ (pv_ rfl (Nat.le_of_ble_eq_true rfl))).trans ?_
    refine (bs_ (pv_ rfl (Nat.le_of_ble_eq_true rfl))).trans ?_
    refine (al_ rfl (Nat.le_of_ble_eq_true rfl)).trans ?_
    refine (su_ (P := P_Sh_new) (L := fun m => [pO 4 [.ref (m + 1), .ref (m + 2), .ref (m + 3), .int 0, .int 0], pI 8 (fun _ => 0), pI 64 (fun _ => 0), pB 64 (fun _ => 0)]) mkn_Sh rfl (Nat.le_of_ble_eq_true rfl)).trans ?_
    refine Eq.trans (b := lt (h24 ++ [pO 0 [.null, .null, .null, .null, .null, .null]]) fun h25 =>
      lt h24.length fun k26 =>
      bnd (P_Cu_new h25 k26) fun h27 =>
      bnd (pV h27 0 7 11 (.ref k26)) fun h28 =>
      lt (h28 ++ [pO 6 [.null, .null, .null, .null, .null, .null, .null, .null, .null, .null, .null]]) fun h29 =>
      lt h28.length fun k30 =>
      bnd (P_Si_new h29 k30) fun h31 =>
      bnd (pV h31 0 7 12 (.ref k30)) fun h32 =>
      lt (h32 ++ [pO 5 [.null, .null]]) fun h33 =>
      lt h32.length fun k34 =>
      bnd (P_Sg_new h33 k34) fun h35 =>
      bnd (pV h35 0 7 13 (.ref k34)) fun h36 =>
      lt (h36 ++ [pO 3 [.null, .null, .null]]) fun h37 =>
      lt h36.length fun k38 =>
      bnd (P_Po_new h37 k38) fun h39 =>
      bnd (pV h39 0 7 14 (.ref k38)) fun h40 =>
      lt (h40 ++ [pJ 9 (fun _ => 0)]) fun h41 =>
      lt h40.length fun k42 =>
      bnd (pV h41 0 7 15 (.ref k42)) fun h43 =>
      lt (h43 ++ [pJ 9 (fun _ => 0)]) fun h44 =>
      lt h43.length fun k45 =>
      bnd (pV h44 0 7 16 (.ref k45)) fun h46 =>
      bnd (gR h46 0 7 10) fun k47 =>
      bnd (gR h46 0 7 0) fun k48 =>
      bnd (gI h46 0 7 1) fun v49 =>
      bnd (gR h46 0 7 4) fun k50 =>
      ob h46 k47 4 (
      bnd (P_Sh_digest h46 k47 k48 v49 k50) fun h51 =>
      some h51)) (by rw [hh24]; rfl) ?_
    rw [lt_e, lt_e, l24, bs_ a1, bs_ p28, lt_e, lt_e, l28, bs_ b1, bs_ p32]
    refine (c1 _).trans ?_
    refine (d1 _).trans ?_
    refine (e1 _).trans ?_
    refine (f1 _).trans ?_
    rw [bs_ (gR_at q46 rfl), bs_ (gR_at q46 rfl), bs_ (gI_at q46 rfl), bs_ (gR_at q46 rfl), os_ (show h46[106]? = _ from Sh.choose_spec.choose_spec.choose_spec.choose_spec.choose_spec.1), bs_ m1]
  · rw [m4.1]; exact f2
  · rw [o _ (by omega) (by omega) (by omega) (by omega) (by omega), gp _ (by omega) (by omega)]
    exact pcs_k hi
  · exact cuv_ag U (fun j h1 h2 => (o' j (by omega)).trans (g0 j (by omega) (by omega)))
  · exact sgn_ag S (fun j h1 h2 => (o' j (by omega)).trans (g1 j (by omega) (by omega)))
  · rw [o' 302 (by decide), f4 302 (by decide) (by decide)]; exact e5
  · rw [o' 303 (by decide)]; exact f5
end PKN
