/-! the constructor of Curve -/
section CNW
variable {F : Type} {φ : Nat → F}
theorem kp_w {h h' : HP} {to : Nat} (k : ∀ j, j ≠ to → j < h.length → h'[j]? = h[j]?) {a b : Nat} (hb : b ≤ h.length) (ht : to < a ∨ b ≤ to) : ag a b h h' := fun j h1 h2 => k j (by omega) (by omega)
/-- what stands when the points are made: the rest of the constructor -/
theorem cu_rest [Lean.Grind.Field F] (Z : ZF PP φ) (hr : φ (2 ^ 261) ≠ 0) {h19 h : HP} {K : HP → Nat → Int32 → Option HP} (C : CLi 16 h19 h) (M : MOb 112 PP 1 h19) (n11 : h19[111]? = some (pB 32 (fun _ => 0))) (b22 : ∃ G, h19[122]? = some (pJ 9 G)) (s25 : ∃ f : Nat → Option Nat, h19[125]? = some (pR 5 5 f) ∧ ∀ i, i < 5 → f i = some (125 + (i + 1))) (s26 : ∀ i, i < 5 → ∃ G, h19[125 + (i + 1)]? = some (pJ 9 G)) :
    ∃ h', B_Cu_new_65 K h 110 (nI 16) = some h' ∧ h'.length = 262 ∧ (∀ j, j < 110 → h'[j]? = h19[j]?) ∧ CUv φ 1 h' := by
  have hv : PP < 2 ^ 256 := by decide
  have h1P : 1 < PP := by decide
  obtain ⟨c1, c2, c3, c4, c5, c6⟩ := C
  -- the number b
  obtain ⟨h21, a1, a2, a3, D, a4, a5⟩ := w_words (h := h) (t := 3) (to := 122) (by decide) (by decide +kernel) (by rw [c6 122 (by decide) (by decide) (by decide)]; exact b22)
  rw [rwf_B] at a5
  have k21 : ∀ j, j ≠ 122 → j < 259 → h21[j]? = h[j]? := fun j h1 h2 => a3 j h1 (by omega)
  have M21 : MOb 112 PP 1 h21 := mob_ag M (fun j h1 h2 => (k21 j (by omega) (by omega)).trans (c6 j (by omega) (by omega) (by omega)))
  have q21 : h21[110]? = some (pO 0 CQf) := (k21 110 (by decide) (by decide)).trans c2
  obtain ⟨h25, z, b1, ⟨M25, b2, b3⟩, b4⟩ := c_enter (a := 122) (t := 122) h1P hv M21 (Or.inr (by decide)) ⟨D, a4⟩ ⟨D, a4, a5, by decide⟩
  have k25 : ∀ j, j ≠ 122 → j ≠ 118 → j ≠ 119 → j < 259 → h25[j]? = h[j]? := fun j n1 n2 n3 n4 => (b2.2 j (by simp; omega)).trans (k21 j n1 n4)
  have q25 : h25[110]? = some (pO 0 CQf) := (k25 110 (by decide) (by decide) (by decide) (by decide)).trans c2
  have A25 : MA 123 131 h25 := by
    obtain ⟨f, f1, f2⟩ := c3
    exact ⟨f, (k25 123 (by decide) (by decide) (by decide) (by decide)).trans f1, f2⟩
  have l25 : h25.length = 260 := by rw [b2.1, a2, c1]
  -- the base
  have z1 : Z0 139 h25 := z0_ag (c5 1 (by decide)).1 (fun j h1 h2 => k25 j (by omega) (by omega) (by omega) (by omega))
  obtain ⟨h29, d1, d2, d3, D1, d4, d5⟩ := w_words (h := h25) (t := 4) (to := 140) (by decide) (by decide +kernel) ⟨_, z1.2.1⟩
  rw [rwf_X] at d5
  have k29 : ∀ j, j ≠ 140 → j < 260 → h29[j]? = h25[j]? := fun j h1 h2 => d3 j h1 (by omega)
  obtain ⟨h31, e1, e2, e3, D2, e4, e5⟩ := w_words (h := h29) (t := 5) (to := 141) (by decide) (by decide +kernel) ⟨_, (k29 141 (by decide) (by decide)).trans z1.2.2.1⟩
  rw [rwf_Y] at e5
  have l31 : h31.length = 262 := by rw [e2, d2, l25]
  have k31 : ∀ j, j ≠ 140 → j ≠ 141 → j < 260 → h31[j]? = h25[j]? := fun j n1 n2 n3 => (e3 j n2 (by omega)).trans (k29 j n1 n3)
  have p139 : h29[139]? = some (pO 3 [.ref 140, .ref 141, .ref 142]) := (k29 139 (by decide) (by decide)).trans z1.1
  have C31 : CAl 110 111 112 122 123 124 125 1 h31 := by
    refine ⟨⟨(k31 110 (by decide) (by decide) (by decide)).trans q25, ?_, fun i hi => ?_⟩, mob_ag M25 (fun j h1 h2 => k31 j (by omega) (by omega) (by omega)), by decide, by decide⟩
    · obtain ⟨f, f1, f2⟩ := s25
      exact ⟨f, (k31 125 (by decide) (by decide) (by decide)).trans ((k25 125 (by decide) (by decide) (by decide) (by decide)).trans ((c6 125 (by decide) (by decide) (by decide)).trans f1)), f2⟩
    · rw [k31 _ (by omega) (by omega) (by omega), k25 _ (by omega) (by omega) (by omega) (by omega), c6 _ (by omega) (by omega) (by omega)]
      exact s26 i hi
  obtain ⟨h32, x', y', z', g1, C32, g2, g3, g4, g5, g6⟩ := w_enter Z hr (p := 139) (x := GX) (y := GY) C31 (by decide) ((k31 139 (by decide) (by decide) (by decide)).trans z1.1) ⟨D1, (e3 140 (by decide) (by omega)).trans d4, d5, by decide⟩ ⟨D2, e4, e5, by decide⟩ ⟨_, (k31 142 (by decide) (by decide) (by decide)).trans z1.2.2.2⟩
  have k32 : ∀ j, j ≠ 122 → j ≠ 118 → j ≠ 119 → j ≠ 140 → j ≠ 141 → j ≠ 142 → j < 259 → h32[j]? = h[j]? := fun j n1 n2 n3 n4 n5 n6 n7 => (g2.2 j (by simp; omega)).trans ((k31 j n4 n5 (by omega)).trans (k25 j n1 n2 n3 n7))
  have q32 : h32[110]? = some (pO 0 CQf) := (k32 110 (by decide) (by decide) (by decide) (by decide) (by decide) (by decide) (by decide)).trans c2
  have A32 : MA 123 131 h32 := by
    obtain ⟨f, f1, f2⟩ := c3
    exact ⟨f, (k32 123 (by decide) (by decide) (by decide) (by decide) (by decide) (by decide) (by decide)).trans f1, f2⟩
  have Zb : ∀ j, j < 16 → j ≠ 1 → Z0 (131 + 8 * j) h32 := fun j h1 h2 => z0_ag (c5 j h1).1 (fun k h3 h4 => k32 k (by omega) (by omega) (by omega) (by omega) (by omega) (by omega) (by omega))
  have Zo : ∀ j, j < 16 → Z0 (135 + 8 * j) h32 := fun j h1 => z0_ag (c5 j h1).2 (fun k h3 h4 => k32 k (by omega) (by omega) (by omega) (by omega) (by omega) (by omega) (by omega))
  have P0 : PM φ 131 0 (φ GX, φ GY) h32 := ⟨0, 0, 0, none, z0_pv (Zb 0 (by decide) (by decide)), ls_o, Or.inl ⟨ps_0 Z, rfl⟩⟩
  have P1 : PM φ (131 + 8) 1 (φ GX, φ GY) h32 := ⟨x', y', z', some (φ GX, φ GY), g3, ml_1 (oc_g Z), by rw [g4, g5, g6]; exact jp_1 _ _⟩
  obtain ⟨h34, m1, C34, m2, m3, m4⟩ := w_fill Z hr (arr := 123) (b0 := 131) (by decide) (by decide) C32 A32 P0 P1 (fun j h1 h2 => z0_pr (Zb j h2 (by omega)))
  have k34 : ∀ j, j ≠ 118 → j ≠ 119 → ¬ (126 ≤ j ∧ j ≤ 130) → (∀ i, i < 16 → j < 131 + 8 * i + 1 ∨ 131 + 8 * i + 3 < j) → h34[j]? = h32[j]? := m3
  have ko : ∀ i, i < 16 → ag (135 + 8 * i) (135 + 8 * i + 4) h32 h34 := fun i hi j h1 h2 => k34 j (by omega) (by omega) (by omega) (fun k hk => by omega)
  have kl : ∀ j, j ≠ 118 → j ≠ 119 → j < 126 → h34[j]? = h32[j]? := fun j n1 n2 n3 => k34 j n1 n2 (by omega) (fun k hk => by omega)
  refine ⟨h34, ?_, ?_, fun j hj => ?_, C34, ?_, ?_, ?_, m4, ⟨z, ?_, ps_en Z hr b4⟩, ⟨0, 0, pv_ag (z0_pv (Zo 0 (by decide))) (ko 0 (by decide))⟩, fun j h1 h2 => prw_ag (z0_pr (Zo j h2)) (ko j h2)⟩
  · unfold B_Cu_new_65
    have w1 : h25[139]? = some (pO 3 [.ref 140, .ref 141, .ref 142]) := z1.1
    rw [if_pos (show (16 : Int32) ≤ nI 16 by decide), bs_ (gR_at c2 rfl), bs_ a1, bs_ (gR_at q21 rfl), bs_ (gR_at q21 rfl), bs_ (gR_at q21 rfl), os_ M21.1, bs_ b1, bs_ (gR_at q25 rfl), show ldR h25 123 3 1 = some 139 from ldR_3 A25 (j := 1) rfl (by decide), bs_ rfl, bs_ (gR_at w1 rfl), bs_ d1, bs_ (gR_at p139 rfl), bs_ e1, os_ C31.1.1, bs_ g1, bs_ (gR_at q32 rfl), os_ q32, bs_ m1]
  · rw [m2, g2.1, l31]
  · rw [kl j (by omega) (by omega) (by omega), k32 j (by omega) (by omega) (by omega) (by omega) (by omega) (by omega) (by omega)]
    exact c6 j (by omega) (by omega) (by omega)
  · obtain ⟨f, f1, f2⟩ := A32
    exact ⟨f, (kl 123 (by decide) (by decide) (by decide)).trans f1, f2⟩
  · obtain ⟨f, f1, f2⟩ := c4
    exact ⟨f, (kl 124 (by decide) (by decide) (by decide)).trans ((k32 124 (by decide) (by decide) (by decide) (by decide) (by decide) (by decide) (by decide)).trans f1), f2⟩
  · rw [kl 111 (by decide) (by decide) (by decide), k32 111 (by decide) (by decide) (by decide) (by decide) (by decide) (by decide) (by decide), c6 111 (by decide) (by decide) (by decide)]
    exact n11
  · exact cv_ag b3 ((kl 122 (by decide) (by decide) (by decide)).trans ((g2.2 122 (by decide)).trans (k31 122 (by decide) (by decide) (by decide))))
theorem mkn_Cu [Lean.Grind.Field F] (Z : ZF PP φ) (hr : φ (2 ^ 261) ≠ 0) {g : HP} (hg : g.length = 110) : ∃ h', P_Cu_new (g ++ [pO 0 [.null, .null, .null, .null, .null, .null]]) 110 = some h' ∧ h'.length = 262 ∧ (∀ j, j < 110 → h'[j]? = g[j]?) ∧ CUv φ 1 h' := by
  obtain ⟨h3, hh3⟩ : ∃ h3, h3 = g ++ [pO 0 [.ref 111, .null, .null, .null, .null, .null], pB 32 (fun _ => 0)] := ⟨_, rfl⟩
  have l3 : h3.length = 112 := by rw [hh3, List.length_append, hg]; rfl
  have q3 : ∀ i, h3[110 + i]? = _ := fun i => (congrArg (fun (l : HP) => l[110 + i]?) hh3).trans (ap_at hg)
  obtain ⟨h6, a1, a2, a3, M⟩ := mkn_MoP h3 112 l3
  have e0 : h6[110]? = some (pO 0 [.ref 111, .null, .null, .null, .null, .null]) := (a3 110 (by decide)).trans (q3 0)
  have e1 : h6[111]? = some (pB 32 (fun _ => 0)) := (a3 111 (by decide)).trans (q3 1)
  obtain ⟨A, B, hh6, hA, hB⟩ := sp_ e0
  obtain ⟨b0, b1, b2, b3, b4, b5, b6, b7, b8, b9, b10, rfl⟩ := l11_ (l := B) (by omega)
  obtain ⟨h19, hh⟩ : ∃ h19, h19 = A ++ (pO 0 CQf :: ([b0, b1, b2, b3, b4, b5, b6, b7, b8, b9, b10] ++ ([pJ 9 (fun _ => 0), pR 3 16 (fun _ => none), pR 3 16 (fun _ => none), pR 5 5 (fun i => if i < 5 then some (126 + i) else none), pJ 9 (fun _ => 0), pJ 9 (fun _ => 0), pJ 9 (fun _ => 0), pJ 9 (fun _ => 0), pJ 9 (fun _ => 0)] : HP))) := ⟨_, rfl⟩
  have q : ∀ i, h19[110 + i]? = _ := fun i => (congrArg (fun (l : HP) => l[110 + i]?) hh).trans (ap_at hA)
  have kk : ∀ j, 110 < j → j < 122 → h19[j]? = h6[j]? := fun j h1 h2 => by
    rw [hh, hh6]
    exact ap_hi hA h1 (by show j < 110 + 1 + 11; omega)
  have lo : ∀ j, j < 110 → h19[j]? = g[j]? := fun j hj => by
    have w := a3 j (by omega)
    rw [hh6, hh3] at w
    rw [hh]
    exact (ap_lo (h0 := A) (by omega)).trans ((ap_lo (h0 := A) (by omega)).symm.trans (w.trans (ap_lo (by omega))))
  have l19 : h19.length = 131 := by rw [hh, List.length_append, hA]; rfl
  have C0 : CLi 0 h19 h19 := ⟨l19, q 0, ⟨_, q 13, fun j hj => absurd hj (Nat.not_lt_zero _)⟩, ⟨_, q 14, fun j hj => absurd hj (Nat.not_lt_zero _)⟩, fun j hj => absurd hj (Nat.not_lt_zero _), fun _ _ _ _ => rfl⟩
  obtain ⟨h16, K, d1, d2⟩ := cl_loop (h19 := h19) 16 0 17 h19 rfl (by decide) C0
  obtain ⟨h', f1, f2, f3, f4⟩ := cu_rest Z hr (K := K) d2 (mob_ag M (fun j h1 h2 => kk j (by omega) (by omega))) ((kk 111 (by decide) (by decide)).trans e1) ⟨_, q 12⟩ ⟨_, q 15, fun i hi => by
    rw [if_pos hi]; congr 1; omega⟩ (fun i hi => by
      have : i = 0 ∨ i = 1 ∨ i = 2 ∨ i = 3 ∨ i = 4 := by omega
      rcases this with rfl | rfl | rfl | rfl | rfl
      · exact ⟨_, q 16⟩
      · exact ⟨_, q 17⟩
      · exact ⟨_, q 18⟩
      · exact ⟨_, q 19⟩
      · exact ⟨_, q 20⟩)
  refine ⟨h', ?_, f2, fun j hj => (f3 j hj).trans (lo j hj), f4⟩
  unfold P_Cu_new
  refine (al_ hg (Nat.le_of_ble_eq_true rfl)).trans ?_
  refine Eq.trans (b := lt (h3 ++ [pO 1 [.null, .null, .null, .null, .null, .long 0, .null, .null, .null]]) fun h4 =>
    lt h3.length fun k5 =>
    bnd (P_Mo_new h4 k5 2) fun h6 =>
    bnd (pV h6 110 0 1 (.ref k5)) fun h7 =>
    lt (h7 ++ [pJ 9 (fun _ => 0)]) fun h8 =>
    lt h7.length fun k9 =>
    bnd (pV h8 110 0 2 (.ref k9)) fun h10 =>
    lt (h10 ++ [pR 3 16 (fun _ => none)]) fun h11 =>
    lt h10.length fun k12 =>
    bnd (pV h11 110 0 3 (.ref k12)) fun h13 =>
    lt (h13 ++ [pR 3 16 (fun _ => none)]) fun h14 =>
    lt h13.length fun k15 =>
    bnd (pV h14 110 0 4 (.ref k15)) fun h16 =>
    lt (mn2 h16 5 5 (pJ 9 (fun _ => 0))) fun h17 =>
    lt h16.length fun k18 =>
    bnd (pV h17 110 0 5 (.ref k18)) fun h19 =>
    L_Cu_new_65 17 h19 110 0) (by rw [hh3]; rfl) ?_
  rw [lt_e, lt_e, l3, bs_ a1, hh6]
  refine (bs_ (pv_ hA (Nat.le_of_ble_eq_true rfl))).trans ?_
  refine (al_ hA (Nat.le_of_ble_eq_true rfl)).trans ?_
  refine (al_ hA (Nat.le_of_ble_eq_true rfl)).trans ?_
  refine (al_ hA (Nat.le_of_ble_eq_true rfl)).trans ?_
  refine (ml_ hA (Nat.le_of_ble_eq_true rfl)).trans ?_
  refine Eq.trans (b := L_Cu_new_65 17 h19 110 0) (by rw [hh]; rfl) ?_
  exact Eq.trans d1 f1
end CNW
