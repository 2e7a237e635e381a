/-! the class's Limbs.write -/
theorem rwc {R : Type} {n : Nat} {h0 : HP} {t nt : Nat} {T0 : Nat → Int8} (pos : Nat → Nat) (hp : ∀ i j, i < n → j < n → pos i = pos j → i = j) (g : Nat → Int8) (L : Nat → HP → Int32 → R)
    (st : ∀ i f T, i < n → L (f + 1) (h0.set t (pB nt T)) (nI i) = L f (h0.set t (pB nt (va_up T (pos i) (g i)))) (nI (i + 1))) :
    ∀ r i f T, r + i = n → (∀ k, k < i → T (pos k) = g k) → (∀ j, (∀ k, k < n → j ≠ pos k) → T j = T0 j) → ∃ T', L (r + f) (h0.set t (pB nt T)) (nI i) = L f (h0.set t (pB nt T')) (nI n) ∧ (∀ k, k < n → T' (pos k) = g k) ∧ ∀ j, (∀ k, k < n → j ≠ pos k) → T' j = T0 j
  | 0, i, f, T, hr, h1, h2 => by
    have : i = n := by omega
    subst this
    exact ⟨T, by rw [Nat.zero_add], h1, h2⟩
  | r + 1, i, f, T, hr, h1, h2 => by
    obtain ⟨T', g1, g2, g3⟩ := rwc (T0 := T0) pos hp g L st r (i + 1) f (va_up T (pos i) (g i)) (by omega) (fun k hk => by
      by_cases z : k = i
      · rw [z, up_s]
      · rw [up_n (fun c => z (hp k i (by omega) (by omega) c))]; exact h1 k (by omega)) (fun j hj => by rw [up_n (hj i (by omega))]; exact h2 j hj)
    refine ⟨T', ?_, g2, g3⟩
    rw [show r + 1 + f = (r + f) + 1 by omega, st i (r + f) T (by omega)]
    exact g1
theorem wr_m (w c B s : Nat) (hs : s + 8 ≤ 29) (hB : B = 2 ^ 29) : (w + B * c) / 2 ^ s % 256 = w / 2 ^ s % 256 := by
  have e : B * c = 2 ^ s * (2 ^ (29 - s - 8) * c * 256) := by
    rw [hB, show (256 : Nat) = 2 ^ 8 by decide, show (29 : Nat) = s + (29 - s - 8) + 8 by omega, Nat.pow_add, Nat.pow_add, show s + (29 - s - 8) + 8 - s - 8 = 29 - s - 8 by omega]
    grind
  rw [e, Nat.add_mul_div_left _ _ (Nat.two_pow_pos s), Nat.add_mul_mod_self_right]
theorem wr_2 (w x c s : Nat) (hs : s < 29) : (w + 2 ^ 29 * (x + 2 ^ 29 * c)) / 2 ^ s % 256 = (w / 2 ^ s + x * 2 ^ (29 - s)) % 256 := by
  have e : 2 ^ 29 * (x + 2 ^ 29 * c) = 2 ^ s * (x * 2 ^ (29 - s) + (2 ^ (29 - s) * 2 ^ 21 * c) * 256) := by
    have e1 : (2 : Nat) ^ 29 = 2 ^ s * 2 ^ (29 - s) := by rw [← Nat.pow_add]; congr 1; omega
    have e2 : (2 : Nat) ^ 29 = 2 ^ 21 * 256 := by decide
    generalize hP : 2 ^ (29 - s) = P at *
    generalize hQ : 2 ^ s = Q at *
    have : 2 ^ 29 * (x + 2 ^ 29 * c) = (Q * P) * (x + (2 ^ 21 * 256) * c) := by rw [← e1, ← e2]
    rw [this]
    grind
  rw [e, Nat.add_mul_div_left _ _ (Nat.two_pow_pos s), ← Nat.add_assoc, Nat.add_mul_mod_self_right]
theorem e_write {h : HP} {kt n at' a v : Nat} {row : Nat → Int8} {A : Nat → Int64} (hat : at' + 32 ≤ n) (hn : n < 2 ^ 30) (nt : kt ≠ a) (hr : h[kt]? = some (pB n row)) (ha : h[a]? = some (pJ 9 A)) (hA : LM A v) : ∃ row', P_Li_write h a kt (nI at') = some (h.set kt (pB n row')) ∧ (∀ k, k < 32 → row' (at' + k) = btv v k) ∧ ∀ k, k < at' ∨ at' + 32 ≤ k → row' k = row k := by
  obtain ⟨d, h1, h2, h3⟩ := zm_vl hA
  have dg1 : ∀ L, L < 9 → v / (2 ^ 29) ^ L = d L + 2 ^ 29 * (v / (2 ^ 29) ^ (L + 1)) := by
    intro L hL
    have := vl_step (B := 536870912) (d := d) (k := L) (n := 9) (by decide) hL h2
    rw [h3] at this
    have e : (536870912 : Nat) = 2 ^ 29 := by decide
    rw [e] at this
    rw [this]
    rw [Nat.mul_comm]
    omega
  obtain ⟨T', g1, g2, g3⟩ := rwc (n := 32) (h0 := h) (t := kt) (nt := n) (T0 := row) (fun i => at' + (31 - i)) (fun i j hi hj e => by omega) (fun i => btv v (31 - i)) (fun f h i => L_Li_write_2 f h a kt (nI at') i) (by
    intro i f T hi
    obtain ⟨L, hL⟩ : ∃ L, L = 8 * i / 29 := ⟨_, rfl⟩
    obtain ⟨s, hs⟩ : ∃ s, s = 8 * i % 29 := ⟨_, rfl⟩
    have hs29 : s < 29 := by omega
    have e256 : 256 ^ i = (2 ^ 29) ^ L * 2 ^ s := by rw [hL, hs]; exact p256 i
    have b1 := h2 L (by omega)
    have b2 := Nat.div_le_self (d L) (2 ^ s)
    have fin : ∀ q : Nat, q < 2 ^ 63 → q % 256 = v / 256 ^ i % 256 → B_Li_write_62 (L_Li_write_2 f) (h.set kt (pB n T)) a kt (nI at') (nI i) (lN q) = L_Li_write_2 f (h.set kt (pB n (va_up T (at' + (31 - i)) (btv v (31 - i))))) a kt (nI at') (nI (i + 1)) := by
      intro q hq hm
      unfold B_Li_write_62
      refine (bs_ (tB_in (at' + (31 - i)) (hs_ hr) (show nI at' + 32 - 1 - nI i = nI (at' + (31 - i)) by rw [show nI at' + 32 = nI (at' + 32) from nI_add at' 32, show nI (at' + 32) - 1 = nI (at' + 32 - 1) from pk_sub (b := 1) (by omega), pk_sub (by omega), show at' + 32 - 1 - i = at' + (31 - i) by omega]) (by omega) (by omega))).trans ?_
      rw [hss, i8_r, bt_c q hq, hm]
      show L_Li_write_2 f (h.set kt (pB n (va_up T (at' + (31 - i)) (Int32.toInt8 (nI (v / 256 ^ i % 256)))))) a kt (nI at') (nI i + Int32.ofInt 1) = L_Li_write_2 f (h.set kt (pB n (va_up T (at' + (31 - i)) (Int32.toInt8 (nI (v / 256 ^ (31 - (31 - i)) % 256)))))) a kt (nI at') (nI (i + 1))
      rw [nI_ofInt1, show 31 - (31 - i) = i by omega]
    show B_Li_write_2 (L_Li_write_2 f) _ a kt (nI at') (nI i) = _
    unfold B_Li_write_2
    rw [if_neg (show ¬ (32 : Int32) ≤ nI i from nI_ge (b := 32) (by omega) (by omega))]
    show (bnd (ldJ (h.set kt (pB n T)) a ((8 * nI i) / 29)) fun v3 => lt (v3 >>> (Int32.toInt64 ((8 * nI i) - (8 * nI i) / 29 * 29) &&& 63)) fun x4 => if (8 * nI i) - (8 * nI i) / 29 * 29 + 8 ≤ 29 then B_Li_write_62 (L_Li_write_2 f) (h.set kt (pB n T)) a kt (nI at') (nI i) x4 else bnd (ldJ (h.set kt (pB n T)) a ((8 * nI i) / 29 + 1)) fun v7 => lt (x4 ||| (v7 <<< (Int32.toInt64 (29 - ((8 * nI i) - (8 * nI i) / 29 * 29)) &&& 63))) fun x8 => B_Li_write_62 (L_Li_write_2 f) (h.set kt (pB n T)) a kt (nI at') (nI i) x8) = _
    rw [nI_8m ⟨i, hi⟩, nI_8d ⟨i, hi⟩, ← hL, ← hs, bs_ (sJ_in L (hn_ nt ha) rfl (by omega) (by omega)), h1 L (by omega)]
    refine lt_e.trans ?_
    rw [pf_shr (d := s) (sm_k ⟨s, by omega⟩) (by omega)]
    have ev : v / 256 ^ i = v / (2 ^ 29) ^ L / 2 ^ s := by rw [e256, Nat.div_div_eq_div_mul]
    by_cases z : s + 8 ≤ 29
    · rw [if_pos (show nI s + 8 ≤ 29 by rw [show nI s + 8 = nI (s + 8) from nI_add s 8]; exact nI_le (b := 29) z (by decide))]
      refine fin _ (by omega) ?_
      rw [ev, dg1 L (by omega), wr_m _ _ _ s z rfl]
    · have hL8 : L + 1 < 9 := by omega
      have c1 := h2 (L + 1) hL8
      rw [if_neg (show ¬ nI s + 8 ≤ 29 by rw [show nI s + 8 = nI (s + 8) from nI_add s 8]; exact nI_ge (a := 29) (by omega) (by omega)), bs_ (sJ_in (L + 1) (hn_ nt ha) (nI_1 L) (by omega) (by omega)), h1 (L + 1) hL8]
      refine lt_e.trans ?_
      have p1 : d L / 2 ^ s < 2 ^ (29 - s) := by
        refine Nat.div_lt_of_lt_mul ?_
        rw [← Nat.pow_add, show s + (29 - s) = 29 by omega]
        exact b1
      have p2 : 2 ^ (29 - s) ≤ 2 ^ 29 := Nat.pow_le_pow_right (by decide) (by omega)
      have p3 := Nat.mul_le_mul (show d (L + 1) ≤ 2 ^ 29 by omega) p2
      rw [nI_29s ⟨s, hs29⟩, wb_shl (d (L + 1)) (show 29 - s < 64 by omega), g_or' (k := 29 - s) rfl p1 (by omega)]
      refine fin _ (by omega) ?_
      rw [ev, dg1 L (by omega), dg1 (L + 1) hL8, wr_2 _ _ _ s hs29]) 32 0 (FU - 32) row rfl (fun k hk => absurd hk (Nat.not_lt_zero _)) (fun _ _ => rfl)
  rw [hid hr] at g1
  refine ⟨T', ?_, fun k hk => ?_, fun k hk => g3 k (fun j hj => by omega)⟩
  · refine Eq.trans g1 ?_
    show B_Li_write_2 _ _ a kt (nI at') (nI 32) = _
    unfold B_Li_write_2
    rw [if_pos (show (32 : Int32) ≤ nI 32 by decide)]
  · have := g2 (31 - k) (by omega)
    rw [show at' + (31 - (31 - k)) = at' + k by omega, show 31 - (31 - k) = k by omega] at this
    exact this
