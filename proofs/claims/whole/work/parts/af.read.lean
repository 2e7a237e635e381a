/-! the class's Limbs.read -/
/-- the number of the lowest i of n bytes -/
def leb (f : Nat → Int8) (n : Nat) : Nat → Nat
  | 0 => 0
  | i + 1 => leb f n i + byN (f (n - 1 - i)) * 256 ^ i
theorem leb_s (f : Nat → Int8) (n : Nat) : ∀ i, i ≤ n → leb f (n + 1) (i + 1) = byN (f n) + 256 * leb f n i
  | 0, _ => by
    show 0 + byN (f (n + 1 - 1 - 0)) * 256 ^ 0 = byN (f n) + 256 * 0
    rw [show n + 1 - 1 - 0 = n by omega]
    omega
  | i + 1, hi => by
    show leb f (n + 1) (i + 1) + byN (f (n + 1 - 1 - (i + 1))) * 256 ^ (i + 1) = byN (f n) + 256 * (leb f n i + byN (f (n - 1 - i)) * 256 ^ i)
    rw [leb_s f n i (by omega), show n + 1 - 1 - (i + 1) = n - 1 - i by omega, Nat.pow_succ, Nat.mul_add]
    have : byN (f (n - 1 - i)) * (256 ^ i * 256) = 256 * (byN (f (n - 1 - i)) * 256 ^ i) := by
      rw [← Nat.mul_assoc, Nat.mul_comm]
    omega
theorem leb_be (f : Nat → Int8) : ∀ n, leb f n n = be f n
  | 0 => rfl
  | n + 1 => by
    rw [leb_s f n n (Nat.le_refl _), leb_be f n]
    show _ = 256 * be f n + byN (f n)
    omega
theorem leb_lt (f : Nat → Int8) (n : Nat) : ∀ i, leb f n i < 256 ^ i
  | 0 => by show 0 < 256 ^ 0; decide
  | i + 1 => by
    have h1 := leb_lt f n i
    have h2 := byN_lt (f (n - 1 - i))
    show leb f n i + byN (f (n - 1 - i)) * 256 ^ i < 256 ^ (i + 1)
    have h3 := Nat.mul_le_mul_right (256 ^ i) (show byN (f (n - 1 - i)) ≤ 255 by omega)
    rw [Nat.pow_succ]
    omega
theorem p256 (i : Nat) : 256 ^ i = (2 ^ 29) ^ (8 * i / 29) * 2 ^ (8 * i % 29) := by
  rw [← Nat.pow_mul, ← Nat.pow_add, show 29 * (8 * i / 29) + 8 * i % 29 = 8 * i by omega, show (256 : Nat) = 2 ^ 8 by decide, ← Nat.pow_mul]
theorem vl_le {B : Nat} {d : Nat → Nat} {k : Nat} : ∀ n, k < n → d k * B ^ k ≤ vl B d n
  | 0, h => by omega
  | n + 1, h => by
    show d k * B ^ k ≤ vl B d n + d n * B ^ n
    by_cases z : k = n
    · rw [z]; omega
    · have := vl_le (B := B) (d := d) n (show k < n by omega)
      omega
theorem mk_sh {b s : Nat} (hs : s < 29) : b * 2 ^ s % 2 ^ 29 = (b % 2 ^ (29 - s)) * 2 ^ s := by
  have e : 2 ^ 29 = 2 ^ (29 - s) * 2 ^ s := by rw [← Nat.pow_add]; congr 1; omega
  rw [e, Nat.mul_mod_mul_right]
theorem dv_sh {b s : Nat} (hs : s < 29) : b * 2 ^ s / 2 ^ 29 = b / 2 ^ (29 - s) := by
  have e : 2 ^ 29 = 2 ^ (29 - s) * 2 ^ s := by rw [← Nat.pow_add]; congr 1; omega
  rw [e, Nat.mul_div_mul_right _ _ (Nat.two_pow_pos s)]
theorem nI_8d : ∀ i : Fin 32, (8 * nI i.val) / 29 = nI (8 * i.val / 29) := by decide +kernel
theorem nI_8m : ∀ i : Fin 32, (8 * nI i.val) - (8 * nI i.val) / 29 * 29 = nI (8 * i.val % 29) := by decide +kernel
theorem nI_29s : ∀ s : Fin 29, 29 - nI s.val = nI (29 - s.val) := by decide +kernel
theorem by_255 : ∀ b : Fin 256, Int32.toInt64 ((Int32.toInt8 (nI b.val)).toInt32 &&& 255) = lN b.val := by decide +kernel
theorem sm_k : ∀ k : Fin 30, (((nI k.val).toInt64 &&& 63).toBitVec.smod 64).toNat = k.val := by decide +kernel
theorem rd_ar {B P s V D X b x y dL eL : Nat} (h1 : V + dL * P = D + X * P) (h2 : x = dL + (b * s % B)) (h3 : X = x) (hz : 0 < B) : V = D + (b * s % B) * P := by
  rw [h3, h2, Nat.add_mul] at h1
  omega
/-- one byte more -/
theorem rd_st {d : Nat → Nat} {i b L s : Nat} (hi : i < 32) (hL : L = 8 * i / 29) (hs : s = 8 * i % 29) (hd : ∀ k, k < 9 → d k < 2 ^ 29) (hV : vl (2 ^ 29) d 9 < 256 ^ i) (hb : b < 256) :
    d L < 2 ^ s ∧ (s + 8 ≤ 29 → vl (2 ^ 29) (va_up d L (d L + (b % 2 ^ (29 - s)) * 2 ^ s)) 9 = vl (2 ^ 29) d 9 + b * 256 ^ i) ∧ (29 < s + 8 → L + 1 < 9 ∧ d (L + 1) = 0 ∧ vl (2 ^ 29) (va_up (va_up d L (d L + (b % 2 ^ (29 - s)) * 2 ^ s)) (L + 1) (b / 2 ^ (29 - s))) 9 = vl (2 ^ 29) d 9 + b * 256 ^ i) := by
  have hs29 : s < 29 := by omega
  have hL9 : L < 9 := by omega
  have e256 : 256 ^ i = (2 ^ 29) ^ L * 2 ^ s := by rw [hL, hs]; exact p256 i
  have pB : 0 < (2 ^ 29) ^ L := Nat.pow_pos (Nat.two_pow_pos 29)
  have h1 : d L < 2 ^ s := by
    have := vl_le (B := 2 ^ 29) (d := d) (k := L) 9 hL9
    refine Nat.lt_of_mul_lt_mul_left (a := (2 ^ 29) ^ L) ?_
    rw [← e256, Nat.mul_comm]
    omega
  have e1 := vl_in (B := 2 ^ 29) (d := d) (i := L) (x := d L + (b % 2 ^ (29 - s)) * 2 ^ s) 9 hL9
  rw [Nat.add_mul] at e1
  have e2 : b * 256 ^ i = (b * 2 ^ s) * (2 ^ 29) ^ L := by rw [e256, Nat.mul_comm ((2 ^ 29) ^ L), Nat.mul_assoc]
  have e3 := Nat.div_add_mod (b * 2 ^ s) (2 ^ 29)
  rw [mk_sh hs29, dv_sh hs29] at e3
  refine ⟨h1, fun hle => ?_, fun hgt => ?_⟩
  · have e4 : b / 2 ^ (29 - s) = 0 := Nat.div_eq_of_lt (Nat.lt_of_lt_of_le hb (by rw [show 256 = 2 ^ 8 by decide]; exact Nat.pow_le_pow_right (by decide) (by omega)))
    rw [e4, Nat.mul_zero, Nat.zero_add] at e3
    rw [e2, ← e3]
    omega
  · have hL8 : L + 1 < 9 := by omega
    have h2 : d (L + 1) = 0 := by
      have := vl_le (B := 2 ^ 29) (d := d) (k := L + 1) 9 hL8
      have h3 : d (L + 1) * (2 ^ 29) ^ (L + 1) < 1 * (2 ^ 29) ^ (L + 1) := by
        rw [Nat.one_mul]
        refine Nat.lt_of_le_of_lt this (Nat.lt_trans hV ?_)
        rw [e256, Nat.pow_succ]
        exact Nat.mul_lt_mul_of_pos_left (Nat.pow_lt_pow_right (by decide) hs29) pB
      have := Nat.lt_of_mul_lt_mul_right h3
      omega
    refine ⟨hL8, h2, ?_⟩
    have e5 := vl_in (B := 2 ^ 29) (d := va_up d L (d L + (b % 2 ^ (29 - s)) * 2 ^ s)) (i := L + 1) (x := b / 2 ^ (29 - s)) 9 hL8
    rw [up_n (by omega), h2, Nat.zero_mul, Nat.add_zero, show ((2 ^ 29) ^ (L + 1) : Nat) = (2 ^ 29) ^ L * 2 ^ 29 from Nat.pow_succ _ _] at e5
    rw [e5, e2, ← e3, Nat.add_mul]
    have e6 : b / 2 ^ (29 - s) * ((2 ^ 29) ^ L * 2 ^ 29) = 2 ^ 29 * (b / 2 ^ (29 - s)) * (2 ^ 29) ^ L := by
      rw [Nat.mul_comm ((2 ^ 29) ^ L), ← Nat.mul_assoc, Nat.mul_comm (b / 2 ^ (29 - s))]
    omega
theorem rd_loop {kr n at' t : Nat} {row : Nat → Int8} (hat : at' + 32 ≤ n) (hn : n < 2 ^ 30) (nt : t ≠ kr) : ∀ (r i f : Nat) (h : HP) (D : Nat → Int64) (d : Nat → Nat), r + i = 32 → r < f → h[kr]? = some (pB n row) → h[t]? = some (pJ 9 D) → (∀ k, k < 9 → D k = lN (d k)) → (∀ k, k < 9 → d k < 2 ^ 29) → vl (2 ^ 29) d 9 = leb (fun k => row (at' + k)) 32 i →
    ∃ D', L_Li_read_7 f h kr (nI at') t (nI i) = some (h.set t (pJ 9 D')) ∧ LM D' (leb (fun k => row (at' + k)) 32 32) := by
  intro r
  induction r with
  | zero =>
    intro i f h D d hi hfu hr ht h1 h2 h3
    have : i = 32 := by omega
    subst this
    cases f with
    | zero => omega
    | succ f =>
      refine ⟨D, ?_, ⟨fun k => (d k : Int), fun k hk => (h1 k hk).trans (lZ_N _), fun k hk => (by have := h2 k hk; omega : 0 ≤ (d k : Int) ∧ (d k : Int) < 536870912), ?_⟩⟩
      · show B_Li_read_7 _ h kr (nI at') t (nI 32) = _
        unfold B_Li_read_7
        rw [if_pos (show (32 : Int32) ≤ nI 32 by decide), hid ht]
      · rw [← h3, vz_vl]
  | succ r ih =>
    intro i f h D d hi hfu hr ht h1 h2 h3
    cases f with
    | zero => omega
    | succ f =>
      obtain ⟨L, hL⟩ : ∃ L, L = 8 * i / 29 := ⟨_, rfl⟩
      obtain ⟨s, hs⟩ : ∃ s, s = 8 * i % 29 := ⟨_, rfl⟩
      have hs29 : s < 29 := by omega
      obtain ⟨b, b1, b2, b3⟩ := byN_ex (row (at' + (32 - 1 - i)))
      have hV : vl (2 ^ 29) d 9 < 256 ^ i := by rw [h3]; exact leb_lt _ 32 i
      obtain ⟨c1, c2, c3⟩ := rd_st (i := i) (b := b) (by omega) hL hs h2 hV b1
      have bnd1 : d L + (b % 2 ^ (29 - s)) * 2 ^ s < 2 ^ 29 := by
        have q := Nat.mod_lt b (Nat.two_pow_pos (29 - s))
        have q2 := Nat.mul_le_mul_right (2 ^ s) (show b % 2 ^ (29 - s) ≤ 2 ^ (29 - s) - 1 by omega)
        rw [Nat.sub_mul, ← Nat.pow_add, show 29 - s + s = 29 by omega] at q2
        have q3 : 2 ^ s ≤ 2 ^ 29 := Nat.pow_le_pow_right (by decide) (by omega)
        omega
      have nxt : leb (fun k => row (at' + k)) 32 (i + 1) = vl (2 ^ 29) d 9 + b * 256 ^ i := by
        show leb (fun k => row (at' + k)) 32 i + byN (row (at' + (32 - 1 - i))) * 256 ^ i = _
        rw [h3, b3]
      have nx : ∀ h1, B_Li_read_91 (L_Li_read_7 f) h1 kr (nI at') t (nI i) = L_Li_read_7 f h1 kr (nI at') t (nI (i + 1)) := by
        intro h1
        show L_Li_read_7 f h1 kr (nI at') t (nI i + Int32.ofInt 1) = _
        rw [nI_ofInt1]
      show ∃ D', B_Li_read_7 (L_Li_read_7 f) h kr (nI at') t (nI i) = _ ∧ _
      unfold B_Li_read_7
      rw [if_neg (show ¬ (32 : Int32) ≤ nI i from nI_ge (b := 32) (by omega) (by omega)), bs_ (sB_in (at' + (32 - 1 - i)) hr (show nI at' + 32 - 1 - nI i = nI (at' + (32 - 1 - i)) by rw [show nI at' + 32 = nI (at' + 32) from nI_add at' 32, show nI (at' + 32) - 1 = nI (at' + 32 - 1) from pk_sub (b := 1) (by omega), pk_sub (by omega)]; congr 1; omega) (by omega) (by omega)), b2]
      show ∃ D', (bnd (ldJ h t ((8 * nI i) / 29)) fun v6 => bnd (stJ h t ((8 * nI i) / 29) (v6 ||| ((Int32.toInt64 ((Int32.toInt8 (nI b)).toInt32 &&& 255) <<< (Int32.toInt64 ((8 * nI i) - (8 * nI i) / 29 * 29) &&& 63)) &&& 536870911))) fun h7 => if (8 * nI i) - (8 * nI i) / 29 * 29 + 8 ≤ 29 then B_Li_read_91 (L_Li_read_7 f) h7 kr (nI at') t (nI i) else bnd (ldJ h7 t ((8 * nI i) / 29 + 1)) fun v9 => bnd (stJ h7 t ((8 * nI i) / 29 + 1) (v9 ||| (Int32.toInt64 ((Int32.toInt8 (nI b)).toInt32 &&& 255) >>> (Int32.toInt64 (29 - ((8 * nI i) - (8 * nI i) / 29 * 29)) &&& 63)))) fun h10 => B_Li_read_91 (L_Li_read_7 f) h10 kr (nI at') t (nI i)) = _ ∧ _
      rw [nI_8m ⟨i, by omega⟩, nI_8d ⟨i, by omega⟩, by_255 ⟨b, b1⟩, ← hL, ← hs]
      rw [bs_ (sJ_in L ht rfl (by omega) (by omega)), h1 L (by omega), wb_shl b (show s < 64 by omega), show (lN (b * 2 ^ s) &&& 536870911) = lN (b * 2 ^ s % 2 ^ 29) from wb_mask (k := 29) (by have := Nat.mul_lt_mul'' b1 (Nat.pow_lt_pow_right (a := 2) (by decide) hs29); omega) (by decide), mk_sh hs29, g_or' (k := s) rfl c1 (by omega), bs_ (tJ_in L ht rfl (by omega) (by omega))]
      have h1' : ∀ k, k < 9 → va_up D L (lN (d L + b % 2 ^ (29 - s) * 2 ^ s)) k = lN (va_up d L (d L + b % 2 ^ (29 - s) * 2 ^ s) k) := by
        intro k hk
        by_cases z : k = L
        · rw [z, up_s, up_s]
        · rw [up_n z, up_n z]; exact h1 k hk
      have h2' : ∀ k, k < 9 → va_up d L (d L + b % 2 ^ (29 - s) * 2 ^ s) k < 2 ^ 29 := by
        intro k hk
        by_cases z : k = L
        · rw [z, up_s]; exact bnd1
        · rw [up_n z]; exact h2 k hk
      by_cases z : s + 8 ≤ 29
      · rw [if_pos (show nI s + 8 ≤ 29 by rw [show nI s + 8 = nI (s + 8) from nI_add s 8]; exact nI_le (b := 29) z (by decide)), nx]
        obtain ⟨D', k1, k2⟩ := ih (i + 1) f _ _ _ (by omega) (by omega) (hn_ nt hr) (hs_ ht) h1' h2' (by rw [nxt]; exact c2 z)
        exact ⟨D', by rw [k1, hss], k2⟩
      · obtain ⟨e1, e2, e3⟩ := c3 (by omega)
        rw [if_neg (show ¬ nI s + 8 ≤ 29 by rw [show nI s + 8 = nI (s + 8) from nI_add s 8]; exact nI_ge (a := 29) (by omega) (by omega)), bs_ (sJ_in (L + 1) (hs_ ht) (nI_1 L) (by omega) (by omega)), h1' (L + 1) e1, up_n (by omega), e2, nI_29s ⟨s, hs29⟩, pf_shr (d := 29 - s) (sm_k ⟨29 - s, by omega⟩) (by omega), show lN 0 ||| lN (b / 2 ^ (29 - s)) = lN (b / 2 ^ (29 - s)) from Int64.zero_or, bs_ (tJ_in (L + 1) (hs_ ht) (nI_1 L) (by omega) (by omega)), nx, hss]
        have dl := Nat.div_le_self b (2 ^ (29 - s))
        obtain ⟨D', k1, k2⟩ := ih (i + 1) f (h.set t (pJ 9 (va_up (va_up D L (lN (d L + b % 2 ^ (29 - s) * 2 ^ s))) (L + 1) (lN (b / 2 ^ (29 - s)))))) (va_up (va_up D L (lN (d L + b % 2 ^ (29 - s) * 2 ^ s))) (L + 1) (lN (b / 2 ^ (29 - s)))) (va_up (va_up d L (d L + (b % 2 ^ (29 - s)) * 2 ^ s)) (L + 1) (b / 2 ^ (29 - s))) (by omega) (by omega) (hn_ nt hr) (hs_ ht) (fun k hk => by
          by_cases y : k = L + 1
          · rw [y, up_s, up_s]
          · rw [up_n y, up_n y]; exact h1' k hk) (fun k hk => by
          by_cases y : k = L + 1
          · rw [y, up_s]; omega
          · rw [up_n y]; exact h2' k hk) (by rw [nxt]; exact e3)
        exact ⟨D', by rw [k1, hss], k2⟩
theorem e_read {h : HP} {kr n at' t : Nat} {row : Nat → Int8} (hat : at' + 32 ≤ n) (hn : n < 2 ^ 30) (nt : t ≠ kr) (hr : h[kr]? = some (pB n row)) (ht : ∃ G, h[t]? = some (pJ 9 G)) : ∃ D', P_Li_read h kr (nI at') t = some (h.set t (pJ 9 D')) ∧ LM D' (be (fun k => row (at' + k)) 32) := by
  obtain ⟨G, g⟩ := ht
  obtain ⟨D', k1, k2⟩ := rd_loop hat hn nt 32 0 FU (h.set t (pJ 9 (fil G 9 0))) (fil G 9 0) (fun _ => 0) rfl (by decide) (hn_ nt hr) (hs_ g) (fun k hk => if_pos hk) (fun _ _ => by decide) (vl_0 9 (fun _ _ => rfl))
  rw [leb_be] at k2
  refine ⟨D', ?_, k2⟩
  unfold P_Li_read
  rw [bs_ (e_fillJ (v := 0) (by decide) g)]
  refine k1.trans ?_
  rw [hss]
