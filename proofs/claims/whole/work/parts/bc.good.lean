/-! the class's isGood -/
theorem byN_b : ∀ b : Fin 256, byN (Int32.toInt8 (nI b.val)) = b.val := by decide +kernel
theorem be_bt {v : Nat} (hv : v < 256 ^ 32) : ∀ n, n ≤ 32 → be (btv v) n = v / 256 ^ (32 - n)
  | 0, _ => (Nat.div_eq_of_lt hv).symm
  | n + 1, hn => by
    show 256 * be (btv v) n + byN (btv v n) = _
    have e1 : byN (btv v n) = v / 256 ^ (31 - n) % 256 := byN_b ⟨v / 256 ^ (31 - n) % 256, Nat.mod_lt _ (by decide)⟩
    have e2 : v / 256 ^ (32 - n) = v / 256 ^ (31 - n) / 256 := by
      rw [Nat.div_div_eq_div_mul, ← Nat.pow_succ, show (31 - n).succ = 32 - n by omega]
    rw [be_bt hv n (by omega), e1, e2, show 32 - (n + 1) = 31 - n by omega]
    exact Nat.div_add_mod _ _
theorem be_btv {v : Nat} (hv : v < NN) : be (btv v) 32 = v := by
  have h : v < 256 ^ 32 := Nat.lt_trans hv (by decide)
  rw [be_bt h 32 (Nat.le_refl _)]
  exact Nat.div_one v
section IGD
variable {F : Type} {φ : Nat → F} {H : Type} {ψ : Nat → H}
def VU [Lean.Grind.Field H] (ψ : Nat → H) (r s z u1 u2 : Nat) : Prop := u1 < NN ∧ u2 < NN ∧ ψ u1 * ψ s = ψ z ∧ ψ u2 * ψ s = ψ r
theorem nz_n [Lean.Grind.Field H] (Y : ZF NN ψ) {s : Nat} (h0 : s ≠ 0) (h1 : s < NN) : ψ s ≠ 0 := by
  intro c
  rw [← zf_0 Y] at c
  have := (Y.2.2.2.1 _ _).mp c
  rw [Nat.zero_mod, Nat.mod_eq_of_lt h1] at this
  exact h0 this
theorem cn_n [Lean.Grind.Field H] (Y : ZF NN ψ) {s u v : Nat} (h0 : s ≠ 0) (h1 : s < NN) (hu : u < NN) (hv : v < NN) (e : ψ u * ψ s = ψ v * ψ s) : u = v := by
  have i := Lean.Grind.Field.mul_inv_cancel (nz_n Y h0 h1)
  have e2 : ψ u = ψ v := by
    have h2 : ψ u = ψ u * ψ s * (ψ s)⁻¹ := by
      have : ψ u * ψ s * (ψ s)⁻¹ = ψ u * (ψ s * (ψ s)⁻¹) := by grind
      rw [this, i]; grind
    have h3 : ψ v = ψ v * ψ s * (ψ s)⁻¹ := by
      have : ψ v * ψ s * (ψ s)⁻¹ = ψ v * (ψ s * (ψ s)⁻¹) := by grind
      rw [this, i]; grind
    rw [h2, e, ← h3]
  have := (Y.2.2.2.1 _ _).mp e2
  rw [Nat.mod_eq_of_lt hu, Nat.mod_eq_of_lt hv] at this
  exact this
theorem vu_uq [Lean.Grind.Field H] (Y : ZF NN ψ) {r s z u1 u2 v1 v2 : Nat} (h0 : s ≠ 0) (h1 : s < NN) (a : VU ψ r s z u1 u2) (b : VU ψ r s z v1 v2) : u1 = v1 ∧ u2 = v2 :=
  ⟨cn_n Y h0 h1 a.1 b.1 (a.2.2.1.trans b.2.2.1.symm), cn_n Y h0 h1 a.2.1 b.2.1 (a.2.2.2.trans b.2.2.2.symm)⟩
def VB [Lean.Grind.Field F] (φ : Nat → F) (r : Nat) (S : Option (F × F)) (b : Bool) : Prop := b = true ↔ ∃ vx Y, vx < PP ∧ S = some (φ vx, Y) ∧ vx % NN = r
theorem iv_n [Lean.Grind.Field H] (Y : ZF NN ψ) {s : Nat} {a : H} (h0 : s ≠ 0) (h1 : s < NN) : a * ψ s ^ (NN - 2) * ψ s = a := by
  have i := (fi_pw Y pr_N (by decide) (ψ s)).1 (nz_n Y h0 h1)
  generalize ψ s ^ (NN - 2) = w at *
  have : a * w * ψ s = a * (ψ s * w) := by grind
  rw [this, i]
  grind
theorem u_good [Lean.Grind.Field F] [Lean.Grind.Field H] (Z : ZF PP φ) (Y : ZF NN ψ) (hr : φ (2 ^ 261) ≠ 0) (hs : ψ (2 ^ 261) ≠ 0) {li lj : Int} {fr fs dg : Nat → Int8} {Q : F × F} {h : HP} {r s : Nat} (C : CUv φ li h) (P1 : ∀ j, j < 16 → PM φ (135 + 8 * j) j Q h) (S : SGn lj h) (G : SN1 fr fs h) (hdg : h[103]? = some (pB 32 dg)) (er : be (fun k => fr (1 + k)) 32 = r) (es : be (fun k => fs (1 + k)) 32 = s) (r1 : r < NN) (s0 : s ≠ 0) (s1 : s < NN) :
    ∃ h' b u1 u2 T, P_Si_isGood h 262 110 295 103 = some (bi b, h') ∧ CUv φ li h' ∧ SGn lj h' ∧ KI 110 295 h h' ∧ VU ψ r s (be dg 32 % NN) u1 u2 ∧ LSm φ (List.replicate u1 (φ GX, φ GY) ++ List.replicate u2 Q) T ∧ VB φ r T b := by
  have hv : NN < 2 ^ 256 := by decide
  obtain ⟨⟨S0, Mo, P, rows, ⟨f93, r93⟩, ⟨f94, r94⟩⟩, key, val, N⟩ := S
  obtain ⟨h1, a1, M1, k1, ce⟩ := w_reduced (s := 262) (kr := 103) (n := 32) S0 Mo (by decide) (by decide) (by decide) hdg (rows 289 (by decide) (by decide))
  obtain ⟨z, hz⟩ : ∃ z, z = be dg 32 % NN := ⟨_, rfl⟩
  rw [← hz] at ce ⊢
  have x1 : ∀ j, j ≠ 270 ∧ j ≠ 289 → h1[j]? = h[j]? := fun j hj => k1.2 j (fun q => by simp at q; omega)
  have S1 : SGo 262 h1 := (x1 262 (by decide)).trans S0
  obtain ⟨D4, b1, b2⟩ := e_read (at' := 1) (n := 33) (kr := 297) (t := 288) (h := h1) (by decide) (by decide) (by decide) ((x1 297 (by decide)).trans G.2.2) (ex_ag (rows 288 (by decide) (by decide)) (x1 288 (by decide)))
  rw [es] at b2
  obtain ⟨g88, w88⟩ := ex_ag (rows 288 (by decide) (by decide)) (x1 288 (by decide))
  obtain ⟨h4, hh4⟩ : ∃ h4, h4 = h1.set 288 (pJ 9 D4) := ⟨_, rfl⟩
  rw [← hh4] at b1
  have k4 : KP [288] h1 h4 := by rw [hh4]; exact KP.st (by simp)
  have S4 : SGo 262 h4 := (k4.2 262 (by decide)).trans S1
  have M4 : MOb 263 NN lj h4 := mob_ag M1 (agk k4 (by decide))
  have c4 : CV NN h4 288 s := ⟨D4, by rw [hh4]; exact hs_ w88, b2, s1⟩
  obtain ⟨h8, z8, g8, o8, e8⟩ := c_enter (by decide) hv M4 (show MTo 263 288 from Or.inr (by decide)) (by obtain ⟨G, g, _⟩ := c4; exact ⟨G, g⟩) c4
  replace e8 := psn_en Y hs e8
  have S8 : SGo 262 h8 := (o8.2.1.2 262 (by decide)).trans S4
  obtain ⟨h12, z12, g12, M12, k12, c12, e12⟩ := c_invert (m := 263) (t := 288) Y hs hv (by decide) (Or.inr (by decide)) (Or.inr (by decide)) o8.1 o8.2.2 (by obtain ⟨G, g, _⟩ := o8.2.2; exact ⟨G, g⟩)
  rw [e8] at e12
  have S12 : SGo 262 h12 := (k12.2 262 (by decide)).trans S8
  have x12 : ∀ j, j ≠ 269 ∧ j ≠ 270 ∧ j ≠ 271 ∧ j ≠ 288 ∧ j ≠ 289 → h12[j]? = h[j]? := fun j hj => (k12.2 j (fun q => by simp at q; omega)).trans ((o8.2.1.2 j (fun q => by simp at q; omega)).trans ((k4.2 j (fun q => by simp at q; omega)).trans (x1 j (by omega))))
  have ce12 : CV NN h12 289 z := cv_ag ce ((k12.2 289 (by decide)).trans ((o8.2.1.2 289 (by decide)).trans (k4.2 289 (by decide))))
  obtain ⟨h17, u1, g17, o17, e17⟩ := c_mul hv M12 (show MTo 263 292 from Or.inr (by decide)) (ex_ag (rows 292 (by decide) (by decide)) (x12 292 (by decide))) ce12 c12
  replace e17 := ps_pl Y hs e17
  rw [e12] at e17
  have S17 : SGo 262 h17 := (o17.2.1.2 262 (by decide)).trans S12
  have x17 : ∀ j, j ≠ 269 ∧ j ≠ 270 ∧ j ≠ 271 ∧ j ≠ 288 ∧ j ≠ 289 ∧ j ≠ 292 → h17[j]? = h[j]? := fun j hj => (o17.2.1.2 j (fun q => by simp at q; omega)).trans (x12 j (by omega))
  obtain ⟨U1, v1, v2, v3⟩ := o17.2.2
  obtain ⟨w1, g20, y1, _⟩ := e_write (kt := 293) (a := 292) (at' := 0) (n := 32) (h := h17) (by decide) (by decide) (by decide) ((x17 293 (by decide)).trans r93) v1 v2
  obtain ⟨h20, hh20⟩ : ∃ h20, h20 = h17.set 293 (pB 32 w1) := ⟨_, rfl⟩
  rw [← hh20] at g20
  have k20 : KP [293] h17 h20 := by rw [hh20]; exact KP.st (by simp)
  have S20 : SGo 262 h20 := (k20.2 262 (by decide)).trans S17
  have f20 : h20[293]? = some (pB 32 w1) := by rw [hh20]; exact hs_ ((x17 293 (by decide)).trans r93)
  have bw1 : be w1 32 = u1 := by
    rw [← be_btv v3]
    exact be_eq 32 (fun k hk => by have := y1 k hk; rw [Nat.zero_add] at this; exact this)
  obtain ⟨D23, g23, b23⟩ := e_read (at' := 1) (n := 33) (kr := 296) (t := 292) (h := h20) (by decide) (by decide) (by decide) ((k20.2 296 (by decide)).trans ((x17 296 (by decide)).trans G.2.1)) ⟨U1, (k20.2 292 (by decide)).trans v1⟩
  rw [er] at b23
  obtain ⟨h23, hh23⟩ : ∃ h23, h23 = h20.set 292 (pJ 9 D23) := ⟨_, rfl⟩
  rw [← hh23] at g23
  have k23 : KP [292] h20 h23 := by rw [hh23]; exact KP.st (by simp)
  have S23 : SGo 262 h23 := (k23.2 262 (by decide)).trans S20
  have c23 : CV NN h23 292 r := ⟨D23, by rw [hh23]; exact hs_ ((k20.2 292 (by decide)).trans v1), b23, r1⟩
  have M23 : MOb 263 NN lj h23 := mob_ag o17.1 ((agk k20 (by decide)).tr (agk k23 (by decide)))
  have cs23 : CV NN h23 288 z12 := cv_ag c12 ((k23.2 288 (by decide)).trans ((k20.2 288 (by decide)).trans (o17.2.1.2 288 (by decide))))
  obtain ⟨h28, u2, g28, o28, e28⟩ := c_mul hv M23 (show MTo 263 288 from Or.inr (by decide)) (by obtain ⟨G, g, _⟩ := cs23; exact ⟨G, g⟩) c23 cs23
  replace e28 := ps_pl Y hs e28
  rw [e12] at e28
  have S28 : SGo 262 h28 := (o28.2.1.2 262 (by decide)).trans S23
  have x28 : ∀ j, j ≠ 269 ∧ j ≠ 270 ∧ j ≠ 271 ∧ j ≠ 288 ∧ j ≠ 289 ∧ j ≠ 292 ∧ j ≠ 293 → h28[j]? = h[j]? := fun j hj => (o28.2.1.2 j (fun q => by simp at q; omega)).trans ((k23.2 j (fun q => by simp at q; omega)).trans ((k20.2 j (fun q => by simp at q; omega)).trans (x17 j (by omega))))
  obtain ⟨U2, t1, t2, t3⟩ := o28.2.2
  obtain ⟨w2, g31, y2, _⟩ := e_write (kt := 294) (a := 288) (at' := 0) (n := 32) (h := h28) (by decide) (by decide) (by decide) ((x28 294 (by decide)).trans r94) t1 t2
  obtain ⟨h31, hh31⟩ : ∃ h31, h31 = h28.set 294 (pB 32 w2) := ⟨_, rfl⟩
  rw [← hh31] at g31
  have k31 : KP [294] h28 h31 := by rw [hh31]; exact KP.st (by simp)
  have S31 : SGo 262 h31 := (k31.2 262 (by decide)).trans S28
  have x31 : ∀ j, j ≠ 269 ∧ j ≠ 270 ∧ j ≠ 271 ∧ j ≠ 288 ∧ j ≠ 289 ∧ j ≠ 292 ∧ j ≠ 293 ∧ j ≠ 294 → h31[j]? = h[j]? := fun j hj => (k31.2 j (fun q => by simp at q; omega)).trans (x28 j (by omega))
  have f31 : h31[294]? = some (pB 32 w2) := by rw [hh31]; exact hs_ ((x28 294 (by decide)).trans r94)
  have ff31 : h31[293]? = some (pB 32 w1) := (k31.2 293 (by decide)).trans ((o28.2.1.2 293 (by decide)).trans ((k23.2 293 (by decide)).trans f20))
  have bw2 : be w2 32 = u2 := by
    rw [← be_btv t3]
    exact be_eq 32 (fun k hk => by have := y2 k hk; rw [Nat.zero_add] at this; exact this)
  have C31 : CUv φ li h31 := cuv_ag C (fun j h1 h2 => x31 j (by omega))
  have K31 : KI 110 295 h h31 := ⟨by rw [k31.1, o28.2.1.1, k23.1, k20.1, o17.2.1.1, k12.1, o8.2.1.1, k4.1, k1.1], fun j hj => x31 j (by omega)⟩
  obtain ⟨h35, g35, C35, k35, px, py, pz, T, pp, pls, pj⟩ := u_sum Z hr (t := 283) (kf := 293) (kg := 294) (Q := Q) C31 (by decide) (prw_ag P (fun j h1 h2 => x31 j (by omega))) ff31 f31 (fun j _ => pm_ag (P1 _ (nib_lt w2 j)) (fun i h1 h2 => x31 i (by have := nib_lt w2 j; omega))) (by decide) (by decide) (by decide) (by decide)
  rw [bw1, bw2] at pls
  have K35 : KI 110 295 h h35 := K31.tr (KI.of k35 (by decide))
  have S35 : SGo 262 h35 := (k35.2 262 (by decide)).trans S31
  have M35 : MOb 263 NN lj h35 := mob_ag o28.1 ((agk k31 (by decide)).tr (agk k35 (by decide)))
  have x35 : ∀ j, (j = 262 ∨ (272 ≤ j ∧ j < 283) ∨ j = 287 ∨ j = 290 ∨ j = 291 ∨ 295 ≤ j) → h35[j]? = h[j]? := fun j hj => (k35.2 j (fun q => by unfold KC at q; simp at q; omega)).trans (x31 j (by omega))
  have vu : VU ψ r s z u1 u2 := ⟨v3, t3, by rw [e17]; exact iv_n Y s0 s1, by rw [e28]; exact iv_n Y s0 s1⟩
  have c35 : CV NN h35 292 r := cv_ag c23 ((k35.2 292 (by decide)).trans ((k31.2 292 (by decide)).trans (o28.2.1.2 292 (by decide))))
  have r88 : ∃ G, h35[288]? = some (pJ 9 G) := ⟨U2, (k35.2 288 (by decide)).trans ((k31.2 288 (by decide)).trans t1)⟩
  have r89 : ∃ G, h35[289]? = some (pJ 9 G) := by
    obtain ⟨G, g, _⟩ := ce12
    exact ⟨G, (k35.2 289 (by decide)).trans ((k31.2 289 (by decide)).trans ((o28.2.1.2 289 (by decide)).trans ((k23.2 289 (by decide)).trans ((k20.2 289 (by decide)).trans ((o17.2.1.2 289 (by decide)).trans g)))))⟩
  have q93 : h35[293]? = some (pB 32 w1) := (k35.2 293 (by decide)).trans ff31
  have q94 : h35[294]? = some (pB 32 w2) := (k35.2 294 (by decide)).trans f31
  have r92 : ∃ G, h35[292]? = some (pJ 9 G) := by obtain ⟨G, g, _⟩ := c35; exact ⟨G, g⟩
  have N35 : NO1 key val h35 := no1_ag N (fun j h1 h2 => x35 j (by omega))
  have rows35 : ∀ i, 287 ≤ i → i < 293 → ∃ G, h35[i]? = some (pJ 9 G) := by
    intro i h1 h2
    have : i = 287 ∨ i = 288 ∨ i = 289 ∨ i = 290 ∨ i = 291 ∨ i = 292 := by omega
    rcases this with rfl | rfl | rfl | rfl | rfl | rfl
    · exact ex_ag (rows 287 (by decide) (by decide)) (x35 287 (by decide))
    · exact r88
    · exact r89
    · exact ex_ag (rows 290 (by decide) (by decide)) (x35 290 (by decide))
    · exact ex_ag (rows 291 (by decide) (by decide)) (x35 291 (by decide))
    · exact r92
  have go : ∀ X, P_Si_isGood h 262 110 295 103 = X ↔ (if bi (decide (pz = 0)) = 0 then
  ob h35 262 6 (
  bnd (P_Si_readReducedX h35 262 110) fun h39 =>
  bnd (gR h39 262 6 3) fun k40 =>
  bnd (gR h39 262 6 8) fun k41 =>
  bnd2 (P_Li_areSame h39 k40 k41) fun v43 h42 =>
  gd (v43 = 0 ∨ v43 = 1) (some (v43, h42)))
  else
  some (0, h35)) = X := by
    intro X
    unfold P_Si_isGood
    rw [os_ S0, bs_ a1, bs_ (gR_at ((x1 295 (by decide)).trans G.1) rfl), bs_ (gR_at (sgo_l S1) rfl), show P_Li_read h1 (295 + 2) 1 288 = _ from b1, bs_ rfl, bs_ (gR_at (sgo_l S4) rfl), bs_ (gR_at (sgo_l S4) rfl), bs_ (gR_at (sgo_l S4) rfl), os_ M4.1, bs_ g8, bs_ (gR_at (sgo_l S8) rfl), bs_ (gR_at (sgo_l S8) rfl), bs_ (gR_at (sgo_l S8) rfl), os_ o8.1.1, bs_ g12]
    rw [bs_ (gR_at (sgo_l S12) rfl), bs_ (gR_at (sgo_l S12) rfl), bs_ (gR_at (sgo_l S12) rfl), bs_ (gR_at (sgo_l S12) rfl), os_ M12.1, bs_ g17, bs_ (gR_at (sgo_l S17) rfl), bs_ (gR_at (sgo_l S17) rfl), show P_Li_write h17 292 293 0 = _ from g20, bs_ rfl, bs_ (gR_at ((k20.2 295 (by decide)).trans ((x17 295 (by decide)).trans G.1)) rfl), bs_ (gR_at (sgo_l S20) rfl), show P_Li_read h20 (295 + 1) 1 292 = _ from g23, bs_ rfl]
    rw [bs_ (gR_at (sgo_l S23) rfl), bs_ (gR_at (sgo_l S23) rfl), bs_ (gR_at (sgo_l S23) rfl), bs_ (gR_at (sgo_l S23) rfl), os_ M23.1, bs_ g28, bs_ (gR_at (sgo_l S28) rfl), bs_ (gR_at (sgo_l S28) rfl), show P_Li_write h28 288 294 0 = _ from g31, bs_ rfl, bs_ (gR_at (sgo_l S31) rfl), bs_ (gR_at (sgo_l S31) rfl), bs_ (gR_at (sgo_l S31) rfl), os_ (cuo_l C31), bs_ g35, bs_ (gR_at (sgo_l S35) rfl), os_ pp.1, bs2 (e_isNeutral pp.1 pp.2.2.2)]
  by_cases y : pz = 0
  · refine ⟨h35, false, u1, u2, T, ?_, C35, ⟨⟨S35, M35, pp.rw, rows35, ⟨w1, q93⟩, ⟨w2, q94⟩⟩, key, val, N35⟩, K35, vu, pls, ?_⟩
    · rw [go, decide_eq_true y, if_neg (show ¬ bi true = 0 by decide)]
      rfl
    · have tn : T = none := by
        rcases pj with ⟨_, c⟩ | ⟨c, _⟩
        · exact c
        · exact absurd (by rw [y]; exact ps_0 Z) c
      refine ⟨fun c => (by cases c), fun ⟨vx, Y', _, c, _⟩ => ?_⟩
      rw [tn] at c
      cases c
  · obtain ⟨X, Y', hT⟩ : ∃ X Y', T = some (X, Y') := by
      rcases pj with ⟨c, _⟩ | ⟨_, X, Y', c, _⟩
      · obtain ⟨_, _, _, lz⟩ := pp.2.2.2
        exact absurd ((ps_z Z hr lz).mp c) y
      · exact ⟨X, Y', c⟩
    obtain ⟨h39, vx, g39, C39, M39, S39, k39, c25, x28', x29', vlt, _, bx⟩ := w_redX Z hr (s := 262) C35.1 (by decide) S35 M35 pp (rows35 287 (by decide) (by decide)) (rows35 290 (by decide) (by decide)) (rows35 291 (by decide) (by decide)) pj
    have ex := bx X Y' hT
    obtain ⟨A, A1, A2, A3⟩ := c25
    obtain ⟨B, B1, B2, B3⟩ := cv_ag c35 (k39.2 292 (by decide))
    refine ⟨h39, decide (vx % NN = r), u1, u2, T, ?_, cuv_c C35 C39 (k39.2 111 (by decide)) (agk k39 (by decide)) (agk k39 (by decide)), ⟨⟨S39, M39, prw_ag pp.rw (agk k39 (by decide)), ?_, ⟨w1, (k39.2 293 (by decide)).trans q93⟩, ⟨w2, (k39.2 294 (by decide)).trans q94⟩⟩, key, val, no1_ag N35 (agk k39 (by decide))⟩, K35.tr (KI.of k39 (by decide)), vu, pls, ?_⟩
    · rw [go, decide_eq_false y, if_pos (show bi false = 0 by decide), os_ S35, bs_ g39, bs_ (gR_at (sgo_l S39) rfl), bs_ (gR_at (sgo_l S39) rfl), bs2 (e_areSame A1 B1 A2 B2)]
      cases decide (vx % NN = r) <;> rfl
    · intro i h1 h2
      have : i = 287 ∨ i = 288 ∨ i = 289 ∨ i = 290 ∨ i = 291 ∨ i = 292 := by omega
      rcases this with rfl | rfl | rfl | rfl | rfl | rfl
      · exact ⟨A, A1⟩
      · exact ex_ag r88 (k39.2 288 (by decide))
      · exact ex_ag r89 (k39.2 289 (by decide))
      · exact x28'
      · exact x29'
      · exact ⟨B, B1⟩
    · refine ⟨fun c => ⟨vx, Y', vlt, by rw [hT, ex], of_decide_eq_true c⟩, fun ⟨vx', Y2, l2, c, d⟩ => ?_⟩
      rw [hT] at c
      have c1 : X = φ vx' := congrArg Prod.fst (Option.some.inj c)
      have : vx = vx' := (zf_ne Z vlt l2).mp (ex.trans c1)
      rw [this]
      exact decide_eq_true d
end IGD
