/-! the reference's sign: its beginning -/
section RSB
variable {q : Nat} {th ta me re kc : Int32} {F : Type} {φ : Nat → F} {H : Type} {ψ : Nat → H}
theorem rs_25 {fs : List Value} {x : Int32} (f33 : fs[33]? = some (.ref (q + 27))) (f34 : fs[34]? = some (.ref (q + 28))) : ∀ (r i f : Nat) (k v : Nat → Int8) (h : HP), r + i = 32 → r < f → h[q]? = some (pO 8 fs) → h[q + 27]? = some (pB 32 k) → h[q + 28]? = some (pB 32 v) → (∀ j, j < i → k j = 0) → (∀ j, j < i → v j = 1) →
    ∃ h' k' v' f', L_Rm_sign_25 f h q x (nI i) = B_Rm_sign_25 (L_Rm_sign_25 f') h' q x (nI 32) ∧ KP [q + 27, q + 28] h h' ∧ h'[q + 27]? = some (pB 32 k') ∧ h'[q + 28]? = some (pB 32 v') ∧ E32 k' (fun _ => 0) ∧ E32 v' (fun _ => 1) := by
  intro r
  induction r with
  | zero =>
    intro i f k v h hi hf hq hk hv z1 z2
    cases f with
    | zero => omega
    | succ f =>
      have e1 : i = 32 := by omega
      subst e1
      exact ⟨h, k, v, f, rfl, KP.rf, hk, hv, z1, z2⟩
  | succ r ih =>
    intro i f k v h hi hf hq hk hv z1 z2
    cases f with
    | zero => omega
    | succ f =>
      have n1 : q + 27 ≠ q := by omega
      have n2 : q + 27 ≠ q + 28 := by omega
      have n3 : q + 28 ≠ q := by omega
      have n4 : q + 28 ≠ q + 27 := by omega
      have u1 := tB_in (x := 0) i hk rfl (by omega) (by omega)
      have u2 := tB_in (x := 1) i (hn_ (d := pB 32 (va_up k i (Int32.toInt8 0))) n2 hv) rfl (by omega) (by omega)
      obtain ⟨h', k', v', f', a1, a2, a3⟩ := ih (i + 1) f (va_up k i (Int32.toInt8 0)) (va_up v i (Int32.toInt8 1)) ((h.set (q + 27) (pB 32 (va_up k i (Int32.toInt8 0)))).set (q + 28) (pB 32 (va_up v i (Int32.toInt8 1)))) (by omega) (by omega) (hn_ n3 (hn_ n1 hq)) (hn_ n4 (hs_ hk)) (hs_ (hn_ n2 hv)) (fun j hj => by
        by_cases y : j = i
        · subst y; rw [up_s]; rfl
        · rw [up_n y]; exact z1 j (by omega)) (fun j hj => by
        by_cases y : j = i
        · subst y; rw [up_s]; rfl
        · rw [up_n y]; exact z2 j (by omega))
      refine ⟨h', k', v', f', ?_, ((KP.st (by simp)).tr (KP.st (by simp))).tr a2, a3⟩
      show B_Rm_sign_25 (L_Rm_sign_25 f) h q x (nI i) = _
      rw [← a1]
      unfold B_Rm_sign_25
      rw [if_neg (show ¬ (32 : Int32) ≤ nI i from nI_ge (b := 32) (by omega) (by omega)), bs_ (gR_at hq f33), bs_ u1, bs_ (gR_at (hn_ n1 hq) f34), bs_ u2]
      refine lt_e.trans ?_
      rw [nI_ofInt1]
theorem rs_sd {fd fz v v' r : Nat → Int8} {t : Int8} (h1 : ∀ k, k < 32 → r k = v k) (h2 : r 32 = t) (h3 : ∀ k, k < 32 → r (33 + k) = fd k) (h4 : ∀ k, k < 32 → r (65 + k) = fz k) (hv : E32 v v') : ∀ k, k < 97 → r k = sd0 v' t fd fz k := by
  intro k hk
  unfold sd0
  by_cases y : k < 32
  · rw [if_pos y, h1 k y, hv k y]
  · rw [if_neg y]
    by_cases y2 : k = 32
    · rw [if_pos y2, y2, h2]
    · rw [if_neg y2]
      by_cases y3 : k < 65
      · rw [if_pos y3]
        have := h3 (k - 33) (by omega)
        rw [show 33 + (k - 33) = k by omega] at this
        exact this
      · rw [if_neg y3]
        have := h4 (k - 65) (by omega)
        rw [show 65 + (k - 65) = k by omega] at this
        exact this
theorem rs_start [Lean.Grind.Field F] [Lean.Grind.Field H] (Z : ZF PP φ) (Y : ZF NN ψ) {n z : Nat} {ky key val : Nat → Int8} {h : HP} {E : Nat → Nat} {pn qn : Int32} (hn : n < 100) (hD : be (fun k => ky (32 * n + k)) 32 < NN) (hz : z < NN) (R : RQ q th ta me re kc pn qn h E) (C : RCh q (RFS q th ta me re kc pn qn) key val h) (hk : h[q + 4]? = some (pB 3200 ky)) (hE : E 22 = z) :
    ∃ K K' h' E' pn' qn' key' val' R' S, L_Rm_sign_25 FU h q (nI n) 0 = B_Rm_sign_133 K K' h' q ∧ RQ q th ta me re kc pn' qn' h' E' ∧ RCh q (RFS q th ta me re kc pn' qn') key' val' h' ∧ RN q h h' ∧ E' 23 = R' ∧ E' 24 = S ∧ SO φ ψ (be (fun k => ky (32 * n + k)) 32) z 100 (kB (fun k => ky (32 * n + k)) (btv z)) (vB (fun k => ky (32 * n + k)) (btv z)) R' S := by
  obtain ⟨h1, k', v', f', a1, a2, a3, a4, a5, a6⟩ := rs_25 (q := q) (x := nI n) (fs := RFS q th ta me re kc pn qn) rfl rfl 32 0 FU key val h (by decide) (by decide) R.1 C.2.2.1 C.2.2.2.1 (fun j hj => by omega) (fun j hj => by omega)
  have R1 : RQ q th ta me re kc pn qn h1 E := ⟨(a2.2 q (by simp)).trans R.1, rw_hi R.2 a2 (fun j hj => by simp at hj; omega)⟩
  have C1 : RCh q (RFS q th ta me re kc pn qn) k' v' h1 := by
    obtain ⟨⟨_, _, b1, b2, b3, b4, b5⟩, _, c1, c2, c3, c4⟩ := C
    refine ⟨⟨R1.1, ⟨rfl, rfl, rfl, rfl, rfl⟩, ?_, ?_, ?_, ?_, ?_⟩, ⟨rfl, rfl, rfl, rfl⟩, a3, a4, ?_, ?_⟩
    · rw [a2.2 (q + 40) (by simp)]; exact b1
    · rw [a2.2 (q + 39) (by simp)]; exact b2
    · rw [a2.2 (q + 37) (by simp)]; exact b3
    · rw [a2.2 (q + 38) (by simp)]; exact b4
    · rw [a2.2 (q + 43) (by simp)]; exact b5
    · rw [a2.2 (q + 29) (by simp)]; exact c3
    · rw [a2.2 (q + 30) (by simp)]; exact c4
  have z1 : RV q h1 22 z := by have := rv_i R1.2 (i := 22) (ro_d (by decide)); rw [hE] at this; exact this
  have hk1 : h1[q + 4]? = some (pB 3200 ky) := (a2.2 (q + 4) (by simp)).trans hk
  obtain ⟨h2, key2, r2, b1, b2, b3, b4, b5, b6, C2, k2⟩ := w_link1 (a1 := 0) C1 rfl rfl hn hk1 z1
  have R2 := rq_kl R1 k2
  have z2 : RV q h2 22 z := by have := rv_i R2.2 (i := 22) (ro_d (by decide)); rw [hE] at this; exact this
  have hk2 : h2[q + 4]? = some (pB 3200 ky) := (k2.2 (q + 4) (fun w => by have := kl_n _ w; omega)).trans hk1
  obtain ⟨h3, key3, r3, c1, c2, c3, c4, c5, c6, C3, k3⟩ := w_link1 (a1 := 1) C2 rfl rfl hn hk2 z2
  have R3 := rq_kl R2 k3
  have hk3 : h3[q + 4]? = some (pB 3200 ky) := (k3.2 (q + 4) (fun w => by have := kl_n _ w; omega)).trans hk2
  obtain ⟨h4, d1, C4, k4⟩ := w_draw C3
  have R4 := rq_kl R3 k4
  have hk4 : h4[q + 4]? = some (pB 3200 ky) := (k4.2 (q + 4) (fun w => by have := kl_n _ w; omega)).trans hk3
  obtain ⟨K', h', E', pn', qn', key', val', R', S', g1, g2, g3, g4, g5, g6, g7⟩ := rs_loop Z Y (K25 := L_Rm_sign_25 f') hn hD hz 100 0 FU _ _ h4 E pn qn (by decide) (by decide) R4 C4 hk4 hE
  refine ⟨L_Rm_sign_25 f', K', h', E', pn', qn', key', val', R', S', ?_, g2, g3, ((RN.kp a2 (fun j hj => by simp at hj; omega)).tr (RN.kl k2)).tr ((RN.kl k3).tr ((RN.kl k4).tr g4)), g5, g6, ?_⟩
  · show L_Rm_sign_25 FU h q (nI n) (nI 0) = _
    rw [a1]
    unfold B_Rm_sign_25
    rw [if_pos (show (32 : Int32) ≤ nI 32 by decide), os_ R1.1, bs_ b1, os_ R2.1, bs_ c1, os_ R3.1, bs_ d1]
    exact g1
  · obtain ⟨fd, hfd⟩ : ∃ fd, fd = (fun k => ky (32 * n + k)) := ⟨_, rfl⟩
    have b4' : ∀ k, k < 32 → r2 (33 + k) = fd k := fun k hk => by rw [hfd]; exact b4 k hk
    have c4' : ∀ k, k < 32 → r3 (33 + k) = fd k := fun k hk => by rw [hfd]; exact c4 k hk
    have g8 := g7 _ rfl
    rw [← hfd] at g8 ⊢
    have qA : E32 key2 (kA fd (btv z)) := by
      rw [b6]
      exact dg32 (hmac_eq2 a5 (rs_sd b2 b3 b4' b5 a6))
    have rA : E32 (dgs v' (hmac key2 v' 32) 32) (vA fd (btv z)) := dg32 (hmac_eq2 qA a6)
    have qB : E32 key3 (kB fd (btv z)) := by
      rw [c6]
      exact dg32 (hmac_eq2 qA (rs_sd c2 c3 c4' c5 rA))
    have rB : E32 (dgs (dgs v' (hmac key2 v' 32) 32) (hmac key3 (dgs v' (hmac key2 v' 32) 32) 32) 32) (vB fd (btv z)) := dg32 (hmac_eq2 qB rA)
    exact so_cg 100 _ _ _ _ R' S' qB rB g8
end RSB
