/-! the class's Signer: isInRange, readReduced, fillS -/
def SGo (s : Nat) (h : HP) : Prop := h[s]? = some (pO 6 [.ref (s + 1), .ref (s + 11), .ref (s + 21), .ref (s + 25), .ref (s + 26), .ref (s + 27), .ref (s + 28), .ref (s + 29), .ref (s + 30), .ref (s + 31), .ref (s + 32)])
theorem be_lt (f : Nat → Int8) : ∀ n, be f n < 256 ^ n
  | 0 => by show 0 < 256 ^ 0; decide
  | n + 1 => by
    have h1 := be_lt f n
    have h2 := byN_lt (f n)
    show 256 * be f n + byN (f n) < 256 ^ (n + 1)
    rw [Nat.pow_succ]
    omega
theorem mob_t {m v t : Nat} {li : Int} {h : HP} {G : Nat → Int64} (M : MOb m v li h) (ht : t < m ∨ m + 9 ≤ t) : MOb m v li (h.set t (pJ 9 G)) := by
  have e : ∀ i, i ≤ 8 → (h.set t (pJ 9 G))[m + i]? = h[m + i]? := fun i hi => List.getElem?_set_ne (by omega)
  obtain ⟨m1, m2, ⟨m3, m4, m5, m6⟩, ⟨m7, m8, m9⟩⟩ := M
  exact ⟨(e 0 (by decide)).trans m1, by rw [e 1 (by decide)]; exact m2, ⟨by rw [e 2 (by decide)]; exact m3, by rw [e 3 (by decide)]; exact m4, by rw [e 4 (by decide)]; exact m5, by rw [e 5 (by decide)]; exact m6⟩, by rw [e 6 (by decide)]; exact m7, by rw [e 7 (by decide)]; exact m8, by rw [e 8 (by decide)]; exact m9⟩
theorem w_inRange {s kr n at' : Nat} {li : Int} {h : HP} {row : Nat → Int8} (S : SGo s h) (M : MOb (s + 1) NN li h) (hat : at' + 32 ≤ n) (hn : n < 2 ^ 30) (nk : kr ≠ s + 30) (hr : h[kr]? = some (pB n row)) (ex : ∃ G, h[s + 30]? = some (pJ 9 G)) :
    ∃ h', P_Si_isInRange1 h s kr (nI at') = some (bi (decide (be (fun k => row (at' + k)) 32 < NN ∧ be (fun k => row (at' + k)) 32 ≠ 0)), h') ∧ MOb (s + 1) NN li h' ∧ KP [s + 8, s + 30] h h' ∧ ∃ G, h'[s + 30]? = some (pJ 9 G) ∧ LM G (be (fun k => row (at' + k)) 32) := by
  obtain ⟨D, g1, g2⟩ := e_read hat hn (Ne.symm nk) hr ex
  obtain ⟨X, hX⟩ : ∃ X, X = be (fun k => row (at' + k)) 32 := ⟨_, rfl⟩
  rw [← hX] at g2 ⊢
  obtain ⟨G, g⟩ := ex
  have S1 : SGo s (h.set (s + 30) (pJ 9 D)) := hn_ (by omega) S
  have M1 : MOb (s + 1) NN li (h.set (s + 30) (pJ 9 D)) := mob_t M (Or.inr (by omega))
  have p1 : (h.set (s + 30) (pJ 9 D))[s + 30]? = some (pJ 9 D) := hs_ g
  obtain ⟨h2, a1, a2, a3⟩ := c_above M1 ⟨D, p1, g2⟩ (show s + 30 ≠ s + 1 + 7 by omega)
  have p2 : h2[s + 30]? = some (pJ 9 D) := by rw [a3.2 (s + 30) (by simp)]; exact p1
  have S2 : SGo s h2 := by unfold SGo; rw [a3.2 s (by simp; omega)]; exact S1
  have kp : KP [s + 8, s + 30] h h2 := (KP.st (by simp)).tr (a3.up (by simp))
  refine ⟨h2, ?_, a2, kp, D, p2, g2⟩
  unfold P_Si_isInRange1
  rw [bs_ (gR_at S rfl), bs_ g1, bs_ (gR_at S1 rfl), bs_ (gR_at S1 rfl), os_ M1.1, bs2 a1]
  by_cases z : X < NN
  · rw [decide_eq_true z, if_neg (show ¬ bi true = 0 by decide), bs_ (gR_at S2 rfl), bs2 (e_areZero p2 g2)]
    by_cases y : X = 0
    · rw [decide_eq_true y, if_neg (show ¬ bi true = 0 by decide), decide_eq_false (fun c => c.2 y)]; rfl
    · rw [decide_eq_false y, if_pos (show bi false = 0 by decide), decide_eq_true ⟨z, y⟩]; rfl
  · rw [decide_eq_false z, if_pos (show bi false = 0 by decide), decide_eq_false (fun c => z c.1)]; rfl
theorem w_reduced {s kr n : Nat} {li : Int} {h : HP} {row : Nat → Int8} (S : SGo s h) (M : MOb (s + 1) NN li h) (hat : 32 ≤ n) (hn : n < 2 ^ 30) (nk : kr ≠ s + 27) (hr : h[kr]? = some (pB n row)) (ex : ∃ G, h[s + 27]? = some (pJ 9 G)) :
    ∃ h', P_Si_readReduced h s kr = some h' ∧ MOb (s + 1) NN li h' ∧ KP [s + 8, s + 27] h h' ∧ CV NN h' (s + 27) (be row 32 % NN) := by
  obtain ⟨D, g1, g2⟩ := e_read (at' := 0) (by omega) hn (Ne.symm nk) hr ex
  rw [show (fun k => row (0 + k)) = row from funext fun k => by rw [Nat.zero_add]] at g2
  obtain ⟨G, g⟩ := ex
  have S1 : SGo s (h.set (s + 27) (pJ 9 D)) := hn_ (by omega) S
  have M1 : MOb (s + 1) NN li (h.set (s + 27) (pJ 9 D)) := mob_t M (Or.inr (by omega))
  have p1 : (h.set (s + 27) (pJ 9 D))[s + 27]? = some (pJ 9 D) := hs_ g
  have M1' := M1
  obtain ⟨m1, ⟨P, q1, q2, q3⟩, ⟨m3, m4, m5, m6⟩, ⟨⟨W, m7⟩, ⟨T, m8⟩, m9⟩⟩ := M1
  have lt := be_lt row 32
  have lt2 : be row 32 < 2 * NN := by
    have : (256 : Nat) ^ 32 ≤ 2 * NN := by decide
    omega
  obtain ⟨h2, a1, a2, ⟨T', a3⟩, A', a4, a5⟩ := e_reduceOnce (m := s + 1) (kp := s + 1 + 1) (ks := s + 1 + 7) (a := s + 27) m1 rfl rfl p1 q1 m8 (by omega) (by omega) (by omega) g2 q2 lt2
  have a2' : KP [s + 1 + 6, s + 1 + 7, s + 27] (h.set (s + 27) (pJ 9 D)) h2 := a2.up (by simp)
  refine ⟨h2, ?_, mob_kp M1' (show MTo (s + 1) (s + 27) from Or.inr (by omega)) a2' ⟨⟨W, by rw [a2.2 (s + 1 + 6) (by simp)]; exact m7⟩, ⟨T', a3⟩, A', a4⟩, (KP.st (by simp)).tr (a2.up (by simp)), A', a4, a5, Nat.mod_lt _ (by decide)⟩
  unfold P_Si_readReduced
  rw [bs_ (gR_at S rfl), show P_Li_read h kr 0 (s + 27) = _ from g1, bs_ rfl, bs_ (gR_at S1 rfl), bs_ (gR_at S1 rfl), os_ M1'.1, bs_ a1]
