/-! the class's makeSignature: the loop -/
section MSL
variable {F : Type} {φ : Nat → F} {H : Type} {ψ : Nat → H}
theorem cpy_in {α : Type} {f g : Nat → α} {sp dp n k : Nat} (h1 : dp ≤ k) (h2 : k < dp + n) : va_cpy f g sp dp n k = f (sp + (k - dp)) := by
  unfold va_cpy; rw [if_pos ⟨h1, h2⟩]
theorem cpy_out {α : Type} {f g : Nat → α} {sp dp n k : Nat} (h1 : ¬ (dp ≤ k ∧ k < dp + n)) : va_cpy f g sp dp n k = g k := by
  unfold va_cpy; rw [if_neg h1]
theorem nd_no : [273, 274, 275, 276, 277, 278, 279, 280, 281, 282].Nodup := by decide
theorem ms_ref [Lean.Grind.Field F] {li lj : Int} {e ks i : Nat} {key val fr fs : Nat → Int8} {h : HP} (K : HP → Nat → Nat → Nat → Nat → Int32 → Option (HP)) (M : MSb φ li lj e key val fr fs h) :
    ∃ h', B_Si_makeSignature_144 K h 262 110 ks 295 (nI i) = K h' 262 110 ks 295 (nI (i + 1)) ∧ MSb φ li lj e (rfK key val) (rfV key val) fr fs h' ∧ KI 110 295 h h' := by
  obtain ⟨C, S, ⟨sd, N⟩, ce, G⟩ := M
  obtain ⟨h', key', val', sd', a1, a2, a3, a4, a5, a6⟩ := e_refuse nd_no N
  have ek : key' = rfK key val := by
    rw [a4]
    unfold rfK
    rw [hmac_eq (r := sd') (r' := sdn val)]
    intro k hk
    rw [a3]
    unfold sdn
    by_cases z : k = 32
    · subst z; rw [up_s, if_neg (by decide)]
    · rw [up_n z, cpy_in (by omega) (by omega), if_pos (by omega)]
      simp
  have ev : val' = rfV key val := by rw [a5, ek]; rfl
  rw [ek, ev] at a2
  refine ⟨h', ?_, ⟨cuv_ag C (agk a6 (by decide)), sg1_ag S (agk a6 (by decide)) (agk a6 (by decide)), ⟨sd', a2⟩, cv_ag ce (a6.2 289 (by decide)), sn1_ag G (agk a6 (by decide))⟩, KI.of a6 (by decide)⟩
  unfold B_Si_makeSignature_144
  refine (bs_ (gR_at (sgo_l S.1) rfl)).trans ?_
  refine (os_ N.1).trans ?_
  refine (bs_ a1).trans ?_
  refine lt_e.trans ?_
  rw [nI_ofInt1]
theorem bt_0 (k : Nat) : btv 0 k = 0 := by
  unfold btv
  rw [Nat.zero_div]
  decide
theorem ms_loop [Lean.Grind.Field F] [Lean.Grind.Field H] (Z : ZF PP φ) (Y : ZF NN ψ) (hr : φ (2 ^ 261) ≠ 0) (hs : ψ (2 ^ 261) ≠ 0) {li lj : Int} {e ks : Nat} {fr fs fd : Nat → Int8} (dk : 3 ≤ ks ∧ ks < 103) (hD : be fd 32 < NN) (z1 : ∀ k, k < 33 → fr k = 0) (z2 : ∀ k, k < 33 → fs k = 0) :
    ∀ (r i f : Nat) (key val : Nat → Int8) (h : HP), r + i = 100 → r < f → MSb φ li lj e key val fr fs h → h[ks]? = some (pB 32 fd) →
    ∃ h' R S fr' fs', L_Si_makeSignature_37 f h 262 110 ks 295 (nI i) = some h' ∧ CUv φ li h' ∧ SGn lj h' ∧ SN1 fr' fs' h' ∧ KI 110 298 h h' ∧ SO φ ψ (be fd 32) e r key val R S ∧ (R < NN ∧ S < NN) ∧ (fr' 0 = 0 ∧ ∀ k, k < 32 → fr' (1 + k) = btv R k) ∧ (fs' 0 = 0 ∧ ∀ k, k < 32 → fs' (1 + k) = btv S k) := by
  intro r
  induction r with
  | zero =>
    intro i f key val h hi hf M hks
    cases f with
    | zero => omega
    | succ f =>
      have e1 : i = 100 := by omega
      subst e1
      refine ⟨h, 0, 0, fr, fs, ?_, M.1, ⟨M.2.1, key, val, M.2.2.1⟩, M.2.2.2.2, KI.rf, ⟨rfl, rfl⟩, ⟨by decide, by decide⟩, ⟨z1 0 (by decide), fun k hk => by rw [z1 _ (by omega), bt_0]⟩, ⟨z2 0 (by decide), fun k hk => by rw [z2 _ (by omega), bt_0]⟩⟩
      show B_Si_makeSignature_37 _ h 262 110 ks 295 (nI 100) = _
      unfold B_Si_makeSignature_37
      exact if_pos (by decide)
  | succ r ih =>
    intro i f key val h hi hf M hks
    cases f with
    | zero => omega
    | succ f =>
      have M0 := M
      obtain ⟨C, S, ⟨sd, N⟩, ce, G⟩ := M
      obtain ⟨tf, ht⟩ := S.2.2.2.2.1
      obtain ⟨h11, a1, a2, a3, a4⟩ := e_writeNext (to := 293) nd_no N (by decide) ht (by decide) (by decide)
      have bb : be (fun k => va_cpy (dgs val (hmac key val 32) 32) tf 0 0 32 (0 + k)) 32 = be (nxV key val) 32 := be_eq 32 (fun k hk => by
        rw [cpy_in (by omega) (by omega)]
        show _ = dgs val (hmac key val 32) 32 k
        congr 1
        omega)
      obtain ⟨h13, b1, b2, b3, b4⟩ := w_inRange (s := 262) (kr := 293) (n := 32) (at' := 0) (h := h11) ((a4.2 262 (by decide)).trans S.1) (mob_ag S.2.1 (agk a4 (by decide))) (by decide) (by decide) (by decide) a3 (ex_ag (S.2.2.2.1 292 (by decide) (by decide)) (a4.2 292 (by decide)))
      rw [bb] at b1
      have e13 : ∀ j, j ≠ 270 ∧ j ≠ 292 ∧ j ≠ 293 ∧ (j < 274 ∨ 283 ≤ j) → h13[j]? = h[j]? := fun j hj => (b3.2 j (fun q => by simp at q; omega)).trans (a4.2 j (fun q => by simp at q; omega))
      have k13 : KI 110 295 h h13 := (KI.of a4 (by decide)).tr (KI.of b3 (by decide))
      have r13 : h13[293]? = _ := (b3.2 293 (by decide)).trans a3
      have S13 : SG1 lj h13 := by
        refine ⟨(e13 262 (by decide)).trans S.1, b2, prw_ag S.2.2.1 (fun j h1 h2 => e13 j (by omega)), fun j h1 h2 => ?_, ⟨_, r13⟩, ?_⟩
        · by_cases z : j = 292
          · subst z
            obtain ⟨G, g, _⟩ := b4
            exact ⟨G, g⟩
          · exact ex_ag (S.2.2.2.1 j h1 h2) (e13 j (by omega))
        · rw [e13 294 (by decide)]; exact S.2.2.2.2.2
      have M13 : MSb φ li lj e key (nxV key val) fr fs h13 := ⟨cuv_ag C (fun j h1 h2 => e13 j (by omega)), S13, no1_ag ⟨sd, a2⟩ (agk b3 (by decide)), cv_ag ce (e13 289 (by decide)), sn1_ag G (fun j h1 h2 => e13 j (by omega))⟩
      have hks13 : h13[ks]? = some (pB 32 fd) := (k13.2 ks (by omega)).trans hks
      have go : ∀ T, L_Si_makeSignature_37 (f + 1) h 262 110 ks 295 (nI i) = T ↔ (if bi (decide (be (nxV key val) 32 < NN ∧ be (nxV key val) 32 ≠ 0)) = 0 then B_Si_makeSignature_144 (L_Si_makeSignature_37 f) h13 262 110 ks 295 (nI i) else
  bnd (gR h13 262 6 9) fun k18 =>
  bnd (gR h13 110 0 0) fun k19 =>
  bnd (gR h13 262 6 2) fun k20 =>
  ob h13 110 0 (
  bnd (P_Cu_sumOfTimes h13 110 k18 k19 k20) fun h21 =>
  ob h21 262 6 (
  bnd (P_Si_readReducedX h21 262 110) fun h22 =>
  bnd (gR h22 262 6 9) fun k23 =>
  ob h22 262 6 (
  bnd (P_Si_fillS h22 262 ks k23) fun h24 =>
  bnd (gR h24 262 6 3) fun k25 =>
  bnd2 (P_Li_areZero h24 k25) fun v27 h26 =>
  if v27 = 0 then
  bnd (gR h26 262 6 4) fun k28 =>
  bnd2 (P_Li_areZero h26 k28) fun v30 h29 =>
  if v30 = 0 then
  bnd (gR h29 262 6 3) fun k31 =>
  bnd (gR h29 295 5 0) fun k32 =>
  bnd (P_Li_write h29 k31 k32 1) fun h33 =>
  bnd (gR h33 262 6 4) fun k34 =>
  bnd (gR h33 295 5 1) fun k35 =>
  bnd (P_Li_write h33 k34 k35 1) fun h36 =>
  some h36
  else
  B_Si_makeSignature_144 (L_Si_makeSignature_37 f) h29 262 110 ks 295 (nI i)
  else
  B_Si_makeSignature_144 (L_Si_makeSignature_37 f) h26 262 110 ks 295 (nI i))))) = T := by
        intro T
        show B_Si_makeSignature_37 (L_Si_makeSignature_37 f) h 262 110 ks 295 (nI i) = T ↔ _
        unfold B_Si_makeSignature_37
        rw [if_neg (show ¬ (100 : Int32) ≤ nI i from nI_ge (b := 100) (by omega) (by omega)), bs_ (gR_at (sgo_l S.1) rfl), bs_ (gR_at (sgo_l S.1) rfl), os_ N.1, bs_ a1, bs_ (gR_at (sgo_l ((a4.2 262 (by decide)).trans S.1)) rfl), os_ ((a4.2 262 (by decide)).trans S.1), show P_Si_isInRange1 h11 262 293 0 = _ from b1, bs2 rfl]
      by_cases z : be (nxV key val) 32 < NN ∧ be (nxV key val) 32 ≠ 0
      · obtain ⟨h21, h22, h24, x, s, c1, c2, c3, S21, S22, M24, k24, cr, cs, sk⟩ := ms_in Z Y hr hs (ks := ks) M13 dk hks13 hD r13 (by rw [← show be (fun k => va_cpy (dgs val (hmac key val 32) 32) tf 0 0 32 (0 + k)) 32 = be (va_cpy (dgs val (hmac key val 32) 32) tf 0 0 32) 32 from be_eq 32 (fun k _ => by rw [Nat.zero_add]), bb]; exact z.2) (by rw [← show be (fun k => va_cpy (dgs val (hmac key val 32) 32) tf 0 0 32 (0 + k)) 32 = be (va_cpy (dgs val (hmac key val 32) 32) tf 0 0 32) 32 from be_eq 32 (fun k _ => by rw [Nat.zero_add]), bb]; exact z.1)
        rw [← show be (fun k => va_cpy (dgs val (hmac key val 32) 32) tf 0 0 32 (0 + k)) 32 = be (va_cpy (dgs val (hmac key val 32) 32) tf 0 0 32) 32 from be_eq 32 (fun k _ => by rw [Nat.zero_add]), bb] at sk
        have S24 := M24.2.1.1
        obtain ⟨A, ra1, ra2, ra3⟩ := cr
        obtain ⟨B, sb1, sb2, sb3⟩ := cs
        have go2 : ∀ T, L_Si_makeSignature_37 (f + 1) h 262 110 ks 295 (nI i) = T ↔ (if bi (decide (x % NN = 0)) = 0 then
  if bi (decide (s = 0)) = 0 then
  bnd (gR h24 262 6 3) fun k31 =>
  bnd (gR h24 295 5 0) fun k32 =>
  bnd (P_Li_write h24 k31 k32 1) fun h33 =>
  bnd (gR h33 262 6 4) fun k34 =>
  bnd (gR h33 295 5 1) fun k35 =>
  bnd (P_Li_write h33 k34 k35 1) fun h36 =>
  some h36
  else
  B_Si_makeSignature_144 (L_Si_makeSignature_37 f) h24 262 110 ks 295 (nI i)
  else
  B_Si_makeSignature_144 (L_Si_makeSignature_37 f) h24 262 110 ks 295 (nI i)) = T := by
          intro T
          rw [go, decide_eq_true z, if_neg (show ¬ bi true = 0 by decide), bs_ (gR_at (sgo_l S13.1) rfl), bs_ (gR_at (cuo_l M13.1) rfl), bs_ (gR_at (sgo_l S13.1) rfl), os_ (cuo_l M13.1), bs_ c1, os_ S21, bs_ c2, bs_ (gR_at (sgo_l S22) rfl), os_ S22, bs_ c3, bs_ (gR_at (sgo_l S24) rfl), bs2 (e_areZero ra1 ra2)]
          rw [bs_ (gR_at (sgo_l S24) rfl), bs2 (e_areZero sb1 sb2)]
        by_cases zz : x % NN ≠ 0 ∧ s ≠ 0
        · have G24 := M24.2.2.2.2
          obtain ⟨fr', w1, w2, w3⟩ := e_write (kt := 296) (a := 287) (at' := 1) (n := 33) (by decide) (by decide) (by decide) G24.2.1 ra1 ra2
          obtain ⟨h33, hh⟩ : ∃ h33, h33 = h24.set 296 (pB 33 fr') := ⟨_, rfl⟩
          rw [← hh] at w1
          have k33 : KP [296] h24 h33 := by rw [hh]; exact KP.st (by simp)
          obtain ⟨fs', v1, v2, v3⟩ := e_write (h := h33) (kt := 297) (a := 288) (at' := 1) (n := 33) (by decide) (by decide) (by decide) ((k33.2 297 (by decide)).trans G24.2.2) ((k33.2 288 (by decide)).trans sb1) sb2
          obtain ⟨h36, hh2⟩ : ∃ h36, h36 = h33.set 297 (pB 33 fs') := ⟨_, rfl⟩
          rw [← hh2] at v1
          have k36 : KP [297] h33 h36 := by rw [hh2]; exact KP.st (by simp)
          have kk : KP [296, 297] h24 h36 := (k33.up (by simp)).tr (k36.up (by simp))
          refine ⟨h36, x % NN, s, fr', fs', ?_, cuv_ag M24.1 (agk kk (by decide)), ⟨sg1_ag M24.2.1 (agk kk (by decide)) (agk kk (by decide)), _, _, no1_ag M24.2.2.1 (agk kk (by decide))⟩, ⟨(kk.2 295 (by decide)).trans G24.1, ?_, ?_⟩, (k13.up (by decide) (by decide)).tr ((k24.up (by decide) (by decide)).tr (KI.of kk (by decide))), ?_, ⟨ra3, sb3⟩, ⟨?_, w2⟩, ⟨?_, v2⟩⟩
          · rw [go2, decide_eq_false zz.1, if_pos (show bi false = 0 by decide), decide_eq_false zz.2, if_pos (show bi false = 0 by decide), bs_ (gR_at (sgo_l S24) rfl), bs_ (gR_at G24.1 rfl), show P_Li_write h24 287 (295 + 1) 1 = _ from w1, bs_ rfl, bs_ (gR_at (sgo_l ((k33.2 262 (by decide)).trans S24)) rfl), bs_ (gR_at ((k33.2 295 (by decide)).trans G24.1) rfl), show P_Li_write h33 288 (295 + 2) 1 = _ from v1, bs_ rfl]
          · rw [k36.2 296 (by decide), hh]; exact hs_ G24.2.1
          · rw [hh2]; exact hs_ ((k33.2 297 (by decide)).trans G24.2.2)
          · unfold SO
            exact Or.inr ⟨⟨z.2, z.1⟩, x, s, sk, Or.inl ⟨zz, rfl, rfl⟩⟩
          · rw [w3 0 (by omega)]; exact z1 0 (by decide)
          · rw [v3 0 (by omega)]; exact z2 0 (by decide)
        · obtain ⟨h16, d1, d2, d3⟩ := ms_ref (ks := ks) (i := i) (L_Si_makeSignature_37 f) M24
          obtain ⟨h', R, S', fr', fs', g1, g2, g3, g4, g5, g6, g7⟩ := ih (i + 1) f _ _ h16 (by omega) (by omega) d2 ((d3.2 ks (by omega)).trans ((k24.2 ks (by omega)).trans hks13))
          refine ⟨h', R, S', fr', fs', ?_, g2, g3, g4, (k13.up (by decide) (by decide)).tr ((k24.up (by decide) (by decide)).tr ((d3.up (by decide) (by decide)).tr g5)), ?_, g7⟩
          · rw [go2]
            by_cases y : x % NN = 0
            · rw [decide_eq_true y, if_neg (show ¬ bi true = 0 by decide), d1]; exact g1
            · rw [decide_eq_false y, if_pos (show bi false = 0 by decide), decide_eq_true (show s = 0 from Decidable.of_not_not (fun c => zz ⟨y, c⟩)), if_neg (show ¬ bi true = 0 by decide), d1]; exact g1
          · unfold SO
            exact Or.inr ⟨⟨z.2, z.1⟩, x, s, sk, Or.inr ⟨zz, g6⟩⟩
      · obtain ⟨h16, d1, d2, d3⟩ := ms_ref (ks := ks) (i := i) (L_Si_makeSignature_37 f) M13
        obtain ⟨h', R, S', fr', fs', g1, g2, g3, g4, g5, g6, g7⟩ := ih (i + 1) f _ _ h16 (by omega) (by omega) d2 ((d3.2 ks (by omega)).trans hks13)
        refine ⟨h', R, S', fr', fs', ?_, g2, g3, g4, (k13.up (by decide) (by decide)).tr ((d3.up (by decide) (by decide)).tr g5), ?_, g7⟩
        · rw [go, decide_eq_false z, if_pos (show bi false = 0 by decide), d1]
          exact g1
        · unfold SO
          exact Or.inl ⟨by omega, g6⟩
end MSL
