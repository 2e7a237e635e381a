/-! the reference's root: the greatest x below 2^67 with x^pw at most pr 2^(64 pw) -/
theorem or_bit {x b : Nat} (hx : x < 2 ^ 64) (hb : b < 64) (hm : x % 2 ^ (b + 1) = 0) : lN x ||| (1 <<< (Int32.toInt64 (nI b) &&& 63)) = lN (x + 2 ^ b) := by
  have h1 : (1 : Int64) <<< (Int32.toInt64 (nI b) &&& 63) = lN (1 * 2 ^ b) := wb_shl 1 (k := b) hb
  have h2 : 2 ^ b < 2 ^ 64 := Nat.pow_lt_pow_right (by decide) hb
  obtain ⟨c, h3⟩ : ∃ c, x = c <<< (b + 1) := by
    refine ⟨x / 2 ^ (b + 1), ?_⟩
    rw [Nat.shiftLeft_eq]
    have := Nat.div_add_mod x (2 ^ (b + 1))
    rw [hm, Nat.add_zero, Nat.mul_comm] at this
    exact this.symm
  rw [h1, Nat.one_mul, wb_or hx h2, h3, Nat.shiftLeft_add_eq_or_of_lt (Nat.pow_lt_pow_right (by decide) (by omega))]
theorem pow_b {X pw : Nat} (hX : X < 2 ^ 67) (hpw : pw ≤ 3) : (∀ m, m ≤ pw → X ^ m < (2 ^ 32) ^ 8) ∧ X ^ pw / (2 ^ 32) ^ (2 * pw) < 2 ^ 31 := by
  constructor
  · intro m hm
    refine Nat.lt_of_le_of_lt (Nat.pow_le_pow_left (Nat.le_of_lt hX) m) ?_
    rw [← Nat.pow_mul, ← Nat.pow_mul]
    exact Nat.pow_lt_pow_right (by decide) (by omega)
  · rw [Nat.div_lt_iff_lt_mul (Nat.pow_pos (by decide))]
    refine Nat.lt_of_le_of_lt (Nat.pow_le_pow_left (Nat.le_of_lt hX) pw) ?_
    rw [← Nat.pow_mul, ← Nat.pow_mul, ← Nat.pow_add]
    exact Nat.pow_lt_pow_right (by decide) (by omega)
section RO
variable {q kl kc : Nat} {fs : List Value}
theorem ro_step {h : HP} (hf1 : fs[47]? = some (.ref kl)) (hf2 : fs[48]? = some (.ref kc)) (hlq : kl ≠ q) (hcq : kc ≠ q) (hlc : kc ≠ kl) {pw pr x n : Nat} (hpw1 : 1 ≤ pw) (hpw : pw ≤ 3) (hpr : pr < 2 ^ 31) (hn : n < 67) (hm : x % 2 ^ (n + 1) = 0) (hx : x + 2 ^ (n + 1) ≤ 2 ^ 67) {F C : Nat → Int64} (hp : h[q]? = some (pO 8 fs)) (hl : h[kl]? = some (pJ 8 F)) (hc : h[kc]? = some (pJ 8 C)) (K : HP → Nat → Int32 → Int32 → Int64 → Int64 → Int32 → Option (Int64 × HP)) :
    ∃ (F' C' : Nat → Int64) (y : Nat), B_Rm_root_9 K h q (nI pr) (nI pw) (lN (x / 2 ^ 64)) (lN (x % 2 ^ 64)) (nI n) = K ((h.set kc (pJ 8 C')).set kl (pJ 8 F')) q (nI pr) (nI pw) (lN (y / 2 ^ 64)) (lN (y % 2 ^ 64)) (nI n + (-1)) ∧ ((y = x + 2 ^ n ∧ y ^ pw ≤ pr * (2 ^ 32) ^ (2 * pw)) ∨ (y = x ∧ ¬ (x + 2 ^ n) ^ pw ≤ pr * (2 ^ 32) ^ (2 * pw))) := by
  have hp2 : 2 ^ (n + 1) = 2 * 2 ^ n := by rw [Nat.pow_succ, Nat.mul_comm]
  have hpn : 0 < 2 ^ n := Nat.pow_pos (by decide)
  have hX67 : x + 2 ^ n < 2 ^ 67 := by omega
  obtain ⟨hb1, hb2⟩ := pow_b hX67 hpw
  have hxh : x / 2 ^ 64 < 8 := by rw [Nat.div_lt_iff_lt_mul (by decide)]; omega
  have hxl : x % 2 ^ 64 < 2 ^ 64 := Nat.mod_lt _ (by decide)
  have hdm := Nat.div_add_mod x (2 ^ 64)
  unfold B_Rm_root_9
  rw [if_neg (nI_pos (by omega))]
  by_cases z : n ≤ 63
  · have hz : nI n ≤ (63 : Int32) := (show nI n ≤ nI 63 from nI_le z (by omega))
    rw [if_pos hz, if_pos hz]
    have hml : x % 2 ^ 64 % 2 ^ (n + 1) = 0 := by
      rw [Nat.mod_mod_of_dvd _ (Nat.pow_dvd_pow 2 (by omega))]; exact hm
    have hll : x % 2 ^ 64 + 2 ^ n < 2 ^ 64 := by
      have h1 : (2 ^ 64 : Nat) = 2 ^ (n + 1) * 2 ^ (63 - n) := by rw [← Nat.pow_add]; congr 1; omega
      have h2 := Nat.div_add_mod (x % 2 ^ 64) (2 ^ (n + 1))
      rw [hml, Nat.add_zero] at h2
      have h3 : x % 2 ^ 64 / 2 ^ (n + 1) < 2 ^ (63 - n) := by
        rw [Nat.div_lt_iff_lt_mul (by omega), Nat.mul_comm, ← h1]; exact hxl
      have h4 := Nat.mul_le_mul_left (2 ^ (n + 1)) (show x % 2 ^ 64 / 2 ^ (n + 1) + 1 ≤ 2 ^ (63 - n) from h3)
      rw [← h1, Nat.mul_add, Nat.mul_one, h2] at h4
      omega
    refine (show ∃ (F' C' : Nat → Int64) (y : Nat), lt (lN (x % 2 ^ 64) ||| (1 <<< (Int32.toInt64 (nI n) &&& 63))) _ = _ ∧ _ from ?_)
    rw [lt_e, or_bit hxl (by omega) hml, os_ hp]
    obtain ⟨v, F', C', g1, g2⟩ := e_fits (X := x + 2 ^ n) (pr := pr) hf1 hf2 hlq hcq hlc (xh := x / 2 ^ 64) (xl := x % 2 ^ 64 + 2 ^ n) (by omega) hll (by
      generalize 2 ^ n = e at *
      have : (2 ^ 32) ^ 2 = 2 ^ 64 := by decide
      omega) hpw1 hpw hb1 hb2 hpr hp hl hc
    rw [bs2 g1]
    rcases g2 with ⟨rfl, g2⟩ | ⟨rfl, g2⟩
    · rw [if_neg (by decide)]
      refine ⟨F', C', x + 2 ^ n, ?_, Or.inl ⟨rfl, g2⟩⟩
      have e1 : (x + 2 ^ n) / 2 ^ 64 = x / 2 ^ 64 := by generalize 2 ^ n = e at *; omega
      have e2 : (x + 2 ^ n) % 2 ^ 64 = x % 2 ^ 64 + 2 ^ n := by generalize 2 ^ n = e at *; omega
      rw [e1, e2]
      rfl
    · rw [if_pos rfl]
      exact ⟨F', C', x, rfl, Or.inr ⟨rfl, g2⟩⟩
  · have hz : ¬ nI n ≤ (63 : Int32) := (show ¬ nI n ≤ nI 63 from nI_ge (by omega) (by omega))
    rw [if_neg hz]
    have hd : 2 ^ 64 ∣ 2 ^ (n + 1) := Nat.pow_dvd_pow 2 (by omega)
    have hlo : x % 2 ^ 64 = 0 := Nat.mod_eq_zero_of_dvd (Nat.dvd_trans hd (Nat.dvd_of_mod_eq_zero hm))
    have hne : 2 ^ n = 2 ^ (n - 64) * 2 ^ 64 := by rw [← Nat.pow_add]; congr 1; omega
    have hmh : x / 2 ^ 64 % 2 ^ (n - 64 + 1) = 0 := by
      apply Nat.mod_eq_zero_of_dvd
      obtain ⟨w, hw⟩ := Nat.dvd_of_mod_eq_zero hm
      refine ⟨w, ?_⟩
      rw [hw, show 2 ^ (n + 1) = 2 ^ 64 * 2 ^ (n - 64 + 1) by rw [← Nat.pow_add]; congr 1; omega, Nat.mul_assoc, Nat.mul_div_cancel_left _ (by decide)]
    refine (show ∃ (F' C' : Nat → Int64) (y : Nat), lt (lN (x / 2 ^ 64) ||| (1 <<< (Int32.toInt64 (nI n - nI 64) &&& 63))) _ = _ ∧ _ from ?_)
    rw [lt_e, if_neg hz, pk_sub (by omega), or_bit (b := n - 64) (by omega) (by omega) hmh, os_ hp]
    have hb3 : 2 ^ (n - 64) ≤ 2 ^ 3 := Nat.pow_le_pow_right (by decide) (by omega)
    obtain ⟨v, F', C', g1, g2⟩ := e_fits (X := x + 2 ^ n) (pr := pr) hf1 hf2 hlq hcq hlc (xh := x / 2 ^ 64 + 2 ^ (n - 64)) (xl := x % 2 ^ 64) (by omega) hxl (by
      rw [hne]
      generalize 2 ^ (n - 64) = e at *
      have : (2 ^ 32) ^ 2 = 2 ^ 64 := by decide
      omega) hpw1 hpw hb1 hb2 hpr hp hl hc
    rw [bs2 g1]
    rcases g2 with ⟨rfl, g2⟩ | ⟨rfl, g2⟩
    · rw [if_neg (by decide)]
      refine ⟨F', C', x + 2 ^ n, ?_, Or.inl ⟨rfl, g2⟩⟩
      have e1 : (x + 2 ^ n) / 2 ^ 64 = x / 2 ^ 64 + 2 ^ (n - 64) := by rw [hne]; generalize 2 ^ (n - 64) = e at *; omega
      have e2 : (x + 2 ^ n) % 2 ^ 64 = x % 2 ^ 64 := by rw [hne]; generalize 2 ^ (n - 64) = e at *; omega
      rw [e1, e2]
      rfl
    · rw [if_pos rfl]
      exact ⟨F', C', x, rfl, Or.inr ⟨rfl, g2⟩⟩
theorem ro_loop (hf1 : fs[47]? = some (.ref kl)) (hf2 : fs[48]? = some (.ref kc)) (hlq : kl ≠ q) (hcq : kc ≠ q) (hlc : kc ≠ kl) {pw pr : Nat} (hpw1 : 1 ≤ pw) (hpw : pw ≤ 3) (hpr : pr < 2 ^ 31) : ∀ (n f : Nat) (h : HP) (x : Nat) (F C : Nat → Int64), n ≤ 67 → n < f → x % 2 ^ n = 0 → x + 2 ^ n ≤ 2 ^ 67 → x ^ pw ≤ pr * (2 ^ 32) ^ (2 * pw) → ¬ (x + 2 ^ n) ^ pw ≤ pr * (2 ^ 32) ^ (2 * pw) → h[q]? = some (pO 8 fs) → h[kl]? = some (pJ 8 F) → h[kc]? = some (pJ 8 C) →
    ∃ (F' C' : Nat → Int64) (y : Nat), L_Rm_root_9 f h q (nI pr) (nI pw) (lN (x / 2 ^ 64)) (lN (x % 2 ^ 64)) (nI n + (-1)) = some (lN (y % 2 ^ 64), (h.set kc (pJ 8 C')).set kl (pJ 8 F')) ∧ y ^ pw ≤ pr * (2 ^ 32) ^ (2 * pw) ∧ ¬ (y + 1) ^ pw ≤ pr * (2 ^ 32) ^ (2 * pw) := by
  intro n
  induction n with
  | zero =>
    intro f h x F C hn hfu hm hx h1 h2 hp hl hc
    cases f with
    | zero => omega
    | succ f =>
      refine ⟨F, C, x, ?_, h1, h2⟩
      show B_Rm_root_9 _ h q (nI pr) (nI pw) _ _ (nI 0 + (-1)) = _
      unfold B_Rm_root_9
      rw [if_pos (show nI 0 + (-1) < 0 by decide), hid hc, hid hl]
  | succ n ih =>
    intro f h x F C hn hfu hm hx h1 h2 hp hl hc
    cases f with
    | zero => omega
    | succ f =>
      obtain ⟨F1, C1, y, g1, g2⟩ := ro_step hf1 hf2 hlq hcq hlc hpw1 hpw hpr (by omega) hm hx hp hl hc (L_Rm_root_9 f)
      have hp2 : 2 ^ (n + 1) = 2 * 2 ^ n := by rw [Nat.pow_succ, Nat.mul_comm]
      have hmn : x % 2 ^ n = 0 := by
        rw [← Nat.mod_mod_of_dvd x (show 2 ^ n ∣ 2 ^ (n + 1) from Nat.pow_dvd_pow 2 (by omega)), hm]; simp
      have hy : y % 2 ^ n = 0 ∧ y + 2 ^ n ≤ 2 ^ 67 ∧ y ^ pw ≤ pr * (2 ^ 32) ^ (2 * pw) ∧ ¬ (y + 2 ^ n) ^ pw ≤ pr * (2 ^ 32) ^ (2 * pw) := by
        rcases g2 with ⟨rfl, g2⟩ | ⟨rfl, g2⟩
        · exact ⟨by rw [Nat.add_mod_right]; exact hmn, by omega, g2, by rw [Nat.add_assoc, ← Nat.two_mul, ← hp2]; exact h2⟩
        · exact ⟨hmn, by omega, h1, g2⟩
      obtain ⟨F2, C2, w, k1, k2, k3⟩ := ih f _ y F1 C1 (by omega) (by omega) hy.1 hy.2.1 hy.2.2.1 hy.2.2.2 (hn_ hlq (hn_ hcq hp)) (hs_ (hn_ hlc hl)) (hn_ hlc.symm (hs_ hc))
      refine ⟨F2, C2, w, ?_, k2, k3⟩
      show B_Rm_root_9 (L_Rm_root_9 f) h q (nI pr) (nI pw) _ _ (nI (n + 1) + (-1)) = _
      rw [pk_m1]
      refine g1.trans (k1.trans ?_)
      rw [hsc hlc.symm, hss, hss]
theorem e_root {h : HP} (hf1 : fs[47]? = some (.ref kl)) (hf2 : fs[48]? = some (.ref kc)) (hlq : kl ≠ q) (hcq : kc ≠ q) (hlc : kc ≠ kl) {pw pr : Nat} (hpw1 : 1 ≤ pw) (hpw : pw ≤ 3) (hpr : pr < 8 ^ pw) {F C : Nat → Int64} (hp : h[q]? = some (pO 8 fs)) (hl : h[kl]? = some (pJ 8 F)) (hc : h[kc]? = some (pJ 8 C)) :
    ∃ (F' C' : Nat → Int64) (y : Nat), P_Rm_root h q (nI pr) (nI pw) = some (lN (y % 2 ^ 64), (h.set kc (pJ 8 C')).set kl (pJ 8 F')) ∧ y ^ pw ≤ pr * (2 ^ 32) ^ (2 * pw) ∧ ¬ (y + 1) ^ pw ≤ pr * (2 ^ 32) ^ (2 * pw) := by
  have h8 : 8 ^ pw ≤ 8 ^ 3 := Nat.pow_le_pow_right (by decide) hpw
  have hbig : ¬ (0 + 2 ^ 67) ^ pw ≤ pr * (2 ^ 32) ^ (2 * pw) := by
    rw [Nat.zero_add, ← Nat.pow_mul, ← Nat.pow_mul, show 67 * pw = 3 * pw + 32 * (2 * pw) by omega, Nat.pow_add, Nat.pow_mul 2 3 pw]
    exact Nat.not_le.mpr (Nat.mul_lt_mul_of_pos_right hpr (Nat.pow_pos (by decide)))
  exact ro_loop hf1 hf2 hlq hcq hlc hpw1 hpw (by omega) 67 FU h 0 F C (Nat.le_refl _) (by decide) (by simp) (by omega) (by rw [Nat.zero_pow (by omega)]; exact Nat.zero_le _) hbig hp hl hc
end RO
