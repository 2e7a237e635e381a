/-! the reference's remainders, one, halve, half -/
theorem rw40 {h0 : HP} {K7 : HP → Nat → Nat → Nat → Int32 → Option (HP)} {t m w nw n k : Nat} {W T0 : Nat → Int64} (hw : h0[w]? = some (pJ nw W)) (ht : h0[t]? = some (pJ 256 T0)) (hnw : 16 ≤ nw) (ntw : t ≠ w) (hn : n = 255 + 16 * k) (hk : k < 16) : ∀ (r i f : Nat) (T : Nat → Int64), r + i = 16 → r < f → (∀ j, j < i → T (16 * k + j) = W j) → (∀ j, j < 16 * k → T j = T0 j) → ∃ T', L_Rm_remainders_40 K7 f (h0.set t (pJ 256 T)) t m w (nI n) (nI i) = K7 (h0.set t (pJ 256 T')) t m w (nI (n + 1)) ∧ (∀ j, j < 16 → T' (16 * k + j) = W j) ∧ ∀ j, j < 16 * k → T' j = T0 j
  | 0, i, f, T, hr, hfu, h1, h2 => by
    have : i = 16 := by omega
    subst this
    cases f with
    | zero => omega
    | succ f =>
      refine ⟨T, ?_, h1, h2⟩
      show B_Rm_remainders_40 K7 (L_Rm_remainders_40 K7 f) _ t m w (nI n) (nI 16) = _
      unfold B_Rm_remainders_40
      rw [if_pos (show (16 : Int32) ≤ nI 16 by decide)]
      show K7 _ t m w (nI n + Int32.ofInt 1) = _
      rw [nI_ofInt1]
  | r + 1, i, f, T, hr, hfu, h1, h2 => by
    cases f with
    | zero => omega
    | succ f =>
      obtain ⟨T', g1, g2, g3⟩ := rw40 (K7 := K7) (m := m) hw ht hnw ntw hn hk r (i + 1) f (va_up T (16 * k + i) (W i)) (by omega) (by omega) (fun j hj => by
        by_cases z : j = i
        · rw [z, up_s]
        · rw [up_n (by omega)]; exact h1 j (by omega)) (fun j hj => by rw [up_n (by omega)]; exact h2 j hj)
      refine ⟨T', ?_, g2, g3⟩
      show B_Rm_remainders_40 K7 (L_Rm_remainders_40 K7 f) _ t m w (nI n) (nI i) = _
      unfold B_Rm_remainders_40
      rw [if_neg (show ¬ (16 : Int32) ≤ nI i from nI_ge (b := 16) (by omega) (by omega))]
      refine (bs_ (sJ_in i (hn_ ntw hw) rfl (by omega) (by omega))).trans ?_
      refine (bs_ (tJ_in (16 * k + i) (hs_ ht) (show nI n - 255 + nI i = nI (16 * k + i) by rw [show nI n - 255 = nI (n - 255) from pk_sub (a := n) (b := 255) (by omega), nI_add, show n - 255 + i = 16 * k + i by omega]) (by omega) (by omega))).trans ?_
      rw [hss]
      show L_Rm_remainders_40 K7 f _ t m w (nI n) (nI i + Int32.ofInt 1) = _
      rw [nI_ofInt1]
      exact g1
theorem nI_md16 (n : Nat) (h : n < 2 ^ 20) : nI n - nI n / 16 * 16 = nI (n % 16) := by
  rw [show nI n / 16 = nI (n / 16) from pk_div (a := n) (d := 16) (by omega) (by decide) (by decide), show nI (n / 16) * 16 = nI (n / 16 * 16) from pk_mul _ 16, pk_sub (by omega)]
  congr 1
  omega
theorem rm7 {t m w nw nm v : Nat} {M : Nat → Int64} (hnw : 16 ≤ nw) (hnm : 16 ≤ nm) (ntw : t ≠ w) (ntm : t ≠ m) (nwm : w ≠ m) (hM : NM M v) (hv : 1 < v) : ∀ (r n f : Nat) (h : HP) (W T : Nat → Int64), r + n = 496 → r < f → h[w]? = some (pJ nw W) → h[t]? = some (pJ 256 T) → h[m]? = some (pJ nm M) → NM W (2 ^ n % v) → (∀ k, 256 + 16 * k ≤ n → NM (fun i => T (16 * k + i)) (2 ^ (256 + 16 * k) % v)) →
    ∃ h', L_Rm_remainders_7 f h t m w (nI n) = some h' ∧ KP [t, w] h h' ∧ (∃ T', h'[t]? = some (pJ 256 T') ∧ TT T' v) ∧ ∃ W', h'[w]? = some (pJ nw W') ∧ NM W' (2 ^ 496 % v)
  | 0, n, f, h, W, T, hr, hfu, hw, ht, hm, h1, h2 => by
    have : n = 496 := by omega
    subst this
    cases f with
    | zero => omega
    | succ f =>
      refine ⟨h, ?_, KP.rf, ⟨T, ht, fun k hk => h2 k (by omega)⟩, W, hw, h1⟩
      show B_Rm_remainders_7 (L_Rm_remainders_7 f) h t m w (nI 496) = _
      unfold B_Rm_remainders_7
      rw [if_pos (show (496 : Int32) ≤ nI 496 by decide)]
  | r + 1, n, f, h, W, T, hr, hfu, hw, ht, hm, h1, h2 => by
    cases f with
    | zero => omega
    | succ f =>
      have lt1 : 2 ^ n % v < v := Nat.mod_lt _ (by omega)
      obtain ⟨W1, p1, p2, p3⟩ := e_plus (t := w) (a := w) (b := w) (m := m) hnw hnw hnw hnm nwm hw hw hw hm h1 h1 hM lt1 lt1
      rw [← Nat.add_mod, show 2 ^ n + 2 ^ n = 2 ^ (n + 1) by rw [Nat.pow_succ]; omega] at p2
      have hw1 : (h.set w (pJ nw W1))[w]? = some (pJ nw W1) := hs_ hw
      have ht1 : (h.set w (pJ nw W1))[t]? = some (pJ 256 T) := hn_ (Ne.symm ntw) ht
      have hm1 : (h.set w (pJ nw W1))[m]? = some (pJ nm M) := hn_ nwm hm
      have go : ∀ T', (h.set w (pJ nw W1))[t]? = some (pJ 256 T') → True := fun _ _ => trivial
      have st : L_Rm_remainders_7 (f + 1) h t m w (nI n) = (if nI n < 255 then L_Rm_remainders_7 f (h.set w (pJ nw W1)) t m w (nI (n + 1)) else if nI (n % 16) = 15 then L_Rm_remainders_40 (L_Rm_remainders_7 f) FU (h.set w (pJ nw W1)) t m w (nI n) 0 else L_Rm_remainders_7 f (h.set w (pJ nw W1)) t m w (nI (n + 1))) := by
        show B_Rm_remainders_7 (L_Rm_remainders_7 f) h t m w (nI n) = _
        unfold B_Rm_remainders_7
        rw [if_neg (show ¬ (496 : Int32) ≤ nI n from nI_ge (b := 496) (by omega) (by omega)), bs_ p1, nI_md16 n (by omega)]
        have e : ∀ h, B_Rm_remainders_67 (L_Rm_remainders_7 f) h t m w (nI n) = L_Rm_remainders_7 f h t m w (nI (n + 1)) := by
          intro h
          show L_Rm_remainders_7 f h t m w (nI n + Int32.ofInt 1) = _
          rw [nI_ofInt1]
        rw [e]
      by_cases z : 255 ≤ n ∧ n % 16 = 15
      · obtain ⟨k, hk⟩ : ∃ k, n = 255 + 16 * k := ⟨(n - 255) / 16, by omega⟩
        obtain ⟨T', g1, g2, g3⟩ := rw40 (K7 := L_Rm_remainders_7 f) (m := m) (k := k) hw1 ht1 hnw ntw hk (by omega) 16 0 FU T rfl (by decide) (fun j hj => absurd hj (Nat.not_lt_zero _)) (fun _ _ => rfl)
        obtain ⟨h', k1, k2, k3, k4⟩ := rm7 hnw hnm ntw ntm nwm hM hv r (n + 1) f ((h.set w (pJ nw W1)).set t (pJ 256 T')) W1 T' (by omega) (by omega) (hn_ ntw hw1) (hs_ ht1) (hn_ ntm hm1) p2 (fun j hj => by
          by_cases y : j = k
          · subst y
            rw [show 256 + 16 * j = n + 1 by omega]
            exact p2.eq (fun i hi => g2 i hi)
          · exact (h2 j (by omega)).eq (fun i hi => g3 _ (by omega)))
        refine ⟨h', ?_, (KP.st (by simp)).tr ((KP.st (by simp)).tr k2), k3, k4⟩
        rw [st, if_neg (show ¬ nI n < 255 from nI_nlt (b := 255) (by omega) (by omega)), if_pos (show nI (n % 16) = 15 by rw [z.2]; rfl)]
        rw [hid ht1] at g1
        exact g1.trans k1
      · obtain ⟨h', k1, k2, k3, k4⟩ := rm7 hnw hnm ntw ntm nwm hM hv r (n + 1) f (h.set w (pJ nw W1)) W1 T (by omega) (by omega) hw1 ht1 hm1 p2 (fun j hj => h2 j (by omega))
        refine ⟨h', ?_, (KP.st (by simp)).tr k2, k3, k4⟩
        rw [st]
        by_cases y : n < 255
        · rw [if_pos (show nI n < 255 from nI_lt (b := 255) y (by omega))]
          exact k1
        · rw [if_neg (show ¬ nI n < 255 from nI_nlt (b := 255) (by omega) (by omega)), if_neg (fun c => by
            have : n % 16 = 15 := (nI_eq (b := 15) (by omega) (by omega)).mp c
            omega)]
          exact k1
theorem e_remainders {h : HP} {t m w nw nm v : Nat} {M W T : Nat → Int64} (hnw : 16 ≤ nw) (hnm : 16 ≤ nm) (ntw : t ≠ w) (ntm : t ≠ m) (nwm : w ≠ m) (hM : NM M v) (hv : 1 < v) (hw : h[w]? = some (pJ nw W)) (ht : h[t]? = some (pJ 256 T)) (hm : h[m]? = some (pJ nm M)) :
    ∃ h', P_Rm_remainders h t m w = some h' ∧ KP [t, w] h h' ∧ (∃ T', h'[t]? = some (pJ 256 T') ∧ TT T' v) ∧ ∃ W' x, h'[w]? = some (pJ nw W') ∧ NM W' x := by
  obtain ⟨W1, g1, g2, g3⟩ := e_set (v := 1) hnw (by decide) hw
  obtain ⟨h', k1, k2, k3, W', k4, k5⟩ := rm7 hnw hnm ntw ntm nwm hM hv 496 0 FU (h.set w (pJ nw W1)) W1 T rfl (by decide) (hs_ hw) (hn_ (Ne.symm ntw) ht) (hn_ nwm hm) (by rw [Nat.pow_zero, Nat.mod_eq_of_lt hv]; exact g2) (fun k hk => by omega)
  refine ⟨h', ?_, (KP.st (by simp)).tr k2, k3, W', _, k4, k5⟩
  unfold P_Rm_remainders
  refine (bs_ g1).trans ?_
  exact k1
