/-! the class's Signature: setZero, fits; isInRange of a signature -/
def SNo (g : Nat) (h : HP) : Prop := h[g]? = some (pO 5 [.ref (g + 1), .ref (g + 2)])
theorem i8_z (x : Int8) : x.toInt32 = 0 ↔ x = 0 := by
  constructor
  · intro e
    have : (x.toInt32).toInt8 = (0 : Int32).toInt8 := by rw [e]
    rw [i8_r] at this
    exact this
  · intro e; rw [e]; rfl
theorem e_sgfits {g : Nat} {h : HP} {fr fs : Nat → Int8} (S : SNo g h) (h1 : h[g + 1]? = some (pB 33 fr)) (h2 : h[g + 2]? = some (pB 33 fs)) : P_Sg_fits h g = some (bi (decide (fr 0 = 0 ∧ fs 0 = 0)), h) := by
  unfold P_Sg_fits
  rw [bs_ (gR_at S rfl), show ldB h (g + 1) 0 = some (fr 0).toInt32 from sB_in 0 h1 rfl (by decide) (by decide), bs_ rfl]
  by_cases z : fr 0 = 0
  · rw [if_pos ((i8_z _).mpr z), bs_ (gR_at S rfl), show ldB h (g + 2) 0 = some (fs 0).toInt32 from sB_in 0 h2 rfl (by decide) (by decide), bs_ rfl]
    by_cases y : fs 0 = 0
    · rw [if_pos ((i8_z _).mpr y), decide_eq_true ⟨z, y⟩]; rfl
    · rw [if_neg (fun c => y ((i8_z _).mp c)), decide_eq_false (fun c => y c.2)]; rfl
  · rw [if_neg (fun c => z ((i8_z _).mp c)), decide_eq_false (fun c => z c.1)]; rfl
theorem w_setZero {g : Nat} {h : HP} {fr fs : Nat → Int8} (S : SNo g h) (h1 : h[g + 1]? = some (pB 33 fr)) (h2 : h[g + 2]? = some (pB 33 fs)) : ∃ h', P_Sg_setZero h g = some h' ∧ SNo g h' ∧ h'[g + 1]? = some (pB 33 (fil fr 33 0)) ∧ h'[g + 2]? = some (pB 33 (fil fs 33 0)) ∧ KP [g + 1, g + 2] h h' := by
  have f1 := e_fillB (v := 0) (by decide) h1
  have S1 : SNo g (h.set (g + 1) (pB 33 (fil fr 33 (Int32.toInt8 0)))) := hn_ (by omega) S
  have f2 := e_fillB (v := 0) (by decide) (hn_ (d := pB 33 (fil fr 33 (Int32.toInt8 0))) (show g + 1 ≠ g + 2 by omega) h2)
  refine ⟨(h.set (g + 1) (pB 33 (fil fr 33 0))).set (g + 2) (pB 33 (fil fs 33 0)), ?_, hn_ (by omega) S1, hn_ (by omega) (hs_ h1), hs_ (hn_ (by omega) h2), (KP.st (by simp)).tr (KP.st (by simp))⟩
  unfold P_Sg_setZero
  rw [bs_ (gR_at S rfl), bs_ f1, bs_ (gR_at S1 rfl), bs_ f2]
  rfl
theorem w_inRange2 {s g : Nat} {li : Int} {h : HP} {fr fs : Nat → Int8} (S : SGo s h) (M : MOb (s + 1) NN li h) (N : SNo g h) (dg' : s + 33 ≤ g) (h1 : h[g + 1]? = some (pB 33 fr)) (h2 : h[g + 2]? = some (pB 33 fs)) (ex : ∃ G, h[s + 30]? = some (pJ 9 G)) :
    ∃ h', P_Si_isInRange2 h s g = some (bi (decide ((fr 0 = 0 ∧ fs 0 = 0) ∧ (be (fun k => fr (1 + k)) 32 < NN ∧ be (fun k => fr (1 + k)) 32 ≠ 0) ∧ (be (fun k => fs (1 + k)) 32 < NN ∧ be (fun k => fs (1 + k)) 32 ≠ 0))), h') ∧ MOb (s + 1) NN li h' ∧ KP [s + 8, s + 30] h h' ∧ ∃ G, h'[s + 30]? = some (pJ 9 G) := by
  unfold P_Si_isInRange2
  rw [os_ N, bs2 (e_sgfits N h1 h2)]
  by_cases z : fr 0 = 0 ∧ fs 0 = 0
  · rw [decide_eq_true z, if_neg (show ¬ bi true = 0 by decide), bs_ (gR_at N rfl), os_ S]
    obtain ⟨h3, a1, a2, a3, G, a4, _⟩ := w_inRange (at' := 1) S M (by decide) (by decide) (show g + 1 ≠ s + 30 by omega) h1 ex
    have S3 : SGo s h3 := by unfold SGo; rw [a3.2 s (by simp)]; exact S
    have N3 : SNo g h3 := by unfold SNo; rw [a3.2 g (by simp; omega)]; exact N
    have q2 : h3[g + 2]? = some (pB 33 fs) := by rw [a3.2 (g + 2) (by simp; omega)]; exact h2
    rw [show P_Si_isInRange1 h s (g + 1) 1 = _ from a1, bs2 rfl]
    by_cases y : be (fun k => fr (1 + k)) 32 < NN ∧ be (fun k => fr (1 + k)) 32 ≠ 0
    · rw [decide_eq_true y, if_neg (show ¬ bi true = 0 by decide), bs_ (gR_at N3 rfl), os_ S3]
      obtain ⟨h5, b1, b2, b3, G', b4, _⟩ := w_inRange (at' := 1) S3 a2 (by decide) (by decide) (show g + 2 ≠ s + 30 by omega) q2 ⟨G, a4⟩
      rw [show P_Si_isInRange1 h3 s (g + 2) 1 = _ from b1, bs2 rfl]
      by_cases x : be (fun k => fs (1 + k)) 32 < NN ∧ be (fun k => fs (1 + k)) 32 ≠ 0
      · rw [decide_eq_true x, if_neg (show ¬ bi true = 0 by decide), decide_eq_true ⟨z, y, x⟩]
        exact ⟨h5, rfl, b2, a3.tr b3, G', b4⟩
      · rw [decide_eq_false x, if_pos (show bi false = 0 by decide), decide_eq_false (fun c => x c.2.2)]
        exact ⟨h5, rfl, b2, a3.tr b3, G', b4⟩
    · rw [decide_eq_false y, if_pos (show bi false = 0 by decide), decide_eq_false (fun c => y c.2.1)]
      exact ⟨h3, rfl, a2, a3, G, a4⟩
  · rw [decide_eq_false z, if_pos (show bi false = 0 by decide), decide_eq_false (fun c => z c.1)]
    exact ⟨h, rfl, M, KP.rf, ex⟩
