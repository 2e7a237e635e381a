/-! the reference's store, the class's write: the bytes of a number, the highest first -/
def btv (v k : Nat) : Int8 := Int32.toInt8 (nI (v / 256 ^ (31 - k) % 256))
theorem bt_c (n : Nat) (h : n < 2 ^ 63) : Int32.toInt8 (Int64.toInt32 (lN n)) = Int32.toInt8 (nI (n % 256)) := by
  apply Int8.toBitVec_inj.1
  apply BitVec.eq_of_toNat_eq
  show (((BitVec.ofNat 64 n).signExtend 32).signExtend 8).toNat = ((BitVec.ofNat 32 (n % 256)).signExtend 8).toNat
  rw [BitVec.signExtend_eq_setWidth_of_le _ (by decide), BitVec.signExtend_eq_setWidth_of_le _ (by decide), BitVec.signExtend_eq_setWidth_of_le _ (by decide), BitVec.toNat_setWidth, BitVec.toNat_setWidth, BitVec.toNat_setWidth, BitVec.toNat_ofNat, BitVec.toNat_ofNat]
  omega
theorem byN_bt (v k : Nat) : byN (btv v k) = v / 256 ^ (31 - k) % 256 := by
  unfold byN btv
  show ((BitVec.ofNat 32 (v / 256 ^ (31 - k) % 256)).signExtend 8).toNat = _
  rw [BitVec.signExtend_eq_setWidth_of_le _ (by decide), BitVec.toNat_setWidth, BitVec.toNat_ofNat]
  omega
theorem i8_r (x : Int8) : (x.toInt32).toInt8 = x := by
  apply Int8.toBitVec_inj.1
  show (x.toBitVec.signExtend 32).signExtend 8 = x.toBitVec
  rw [BitVec.signExtend_eq_setWidth_of_le _ (by decide)]
  apply BitVec.eq_of_getLsbD_eq
  intro i hi
  rw [BitVec.getLsbD_setWidth, BitVec.getLsbD_signExtend]
  simp [hi, show i < 32 by omega]
theorem rwb {R : Type} {n o : Nat} {h0 : HP} {t nt : Nat} {T0 : Nat → Int8} (g : Nat → Int8) (L : Nat → HP → Int32 → R)
    (st : ∀ i f T, i < n → L (f + 1) (h0.set t (pB nt T)) (nI i) = L f (h0.set t (pB nt (va_up T (o + i) (g i)))) (nI (i + 1))) :
    ∀ r i f T, r + i = n → (∀ k, k < i → T (o + k) = g k) → (∀ k, k < o ∨ o + n ≤ k → T k = T0 k) → ∃ T', L (r + f) (h0.set t (pB nt T)) (nI i) = L f (h0.set t (pB nt T')) (nI n) ∧ (∀ k, k < n → T' (o + k) = g k) ∧ ∀ k, k < o ∨ o + n ≤ k → T' k = T0 k
  | 0, i, f, T, hr, h1, h2 => by
    have : i = n := by omega
    subst this
    exact ⟨T, by rw [Nat.zero_add], h1, h2⟩
  | r + 1, i, f, T, hr, h1, h2 => by
    obtain ⟨T', g1, g2, g3⟩ := rwb (T0 := T0) g L st r (i + 1) f (va_up T (o + i) (g i)) (by omega) (fun k hk => by
      by_cases z : k = i
      · rw [z, up_s]
      · rw [up_n (by omega)]; exact h1 k (by omega)) (fun k hk => by rw [up_n (by omega)]; exact h2 k hk)
    refine ⟨T', ?_, g2, g3⟩
    rw [show r + 1 + f = (r + f) + 1 by omega, st i (r + f) T (by omega)]
    exact g1
theorem st_sh : ∀ i : Fin 32, (((Int32.toInt64 (8 * (1 - (nI i.val - nI i.val / 2 * 2))) &&& 63)).toBitVec.smod 64).toNat = 8 * (1 - i.val % 2) := by decide +kernel
theorem st_ix : ∀ i : Fin 32, 15 - nI i.val / 2 = nI (15 - i.val / 2) := by decide +kernel
theorem st_ar {v d i : Nat} (hi : i < 32) (hd : v / (2 ^ 16) ^ (15 - i / 2) % 2 ^ 16 = d) : d / 2 ^ (8 * (1 - i % 2)) % 256 = v / 256 ^ (31 - i) % 256 := by
  have e : 256 ^ (31 - i) = (2 ^ 16) ^ (15 - i / 2) * 2 ^ (8 * (1 - i % 2)) := by
    rw [← Nat.pow_mul, ← Nat.pow_add, show (256 : Nat) = 2 ^ 8 by decide, ← Nat.pow_mul]
    congr 1
    omega
  rw [e, ← Nat.div_div_eq_div_mul, ← hd]
  generalize v / (2 ^ 16) ^ (15 - i / 2) = w
  have : i % 2 = 0 ∨ i % 2 = 1 := by omega
  rcases this with q | q <;> rw [q] <;> omega
theorem e_store {h : HP} {kt n at' a v na : Nat} {row : Nat → Int8} {A : Nat → Int64} (hat : at' + 32 ≤ n) (hn : n < 2 ^ 30) (h16 : 16 ≤ na) (nt : kt ≠ a) (hr : h[kt]? = some (pB n row)) (ha : h[a]? = some (pJ na A)) (hA : NM A v) : ∃ row', P_Rm_store h kt (nI at') a = some (h.set kt (pB n row')) ∧ (∀ k, k < 32 → row' (at' + k) = btv v k) ∧ ∀ k, k < at' ∨ at' + 32 ≤ k → row' k = row k := by
  obtain ⟨d, h1, h2, h3⟩ := hA
  obtain ⟨T', g1, g2, g3⟩ := rwb (n := 32) (o := at') (h0 := h) (t := kt) (nt := n) (T0 := row) (btv v) (fun f h i => L_Rm_store_2 f h kt (nI at') a i) (by
    intro i f T hi
    show B_Rm_store_2 (L_Rm_store_2 f) _ kt (nI at') a (nI i) = _
    unfold B_Rm_store_2
    rw [if_neg (show ¬ (32 : Int32) ≤ nI i from nI_ge (b := 32) (by omega) (by omega))]
    have b1 := h2 (15 - i / 2) (by omega)
    have b2 := Nat.div_le_self (d (15 - i / 2)) (2 ^ (8 * (1 - i % 2)))
    refine (bs_ (sJ_in (15 - i / 2) (hn_ nt ha) (st_ix ⟨i, hi⟩) (by omega) (by omega))).trans ?_
    rw [h1 (15 - i / 2) (by omega), pf_shr (d := 8 * (1 - i % 2)) (st_sh ⟨i, hi⟩) (by omega), bt_c _ (by omega)]
    have e := vl_dig (B := 2 ^ 16) (d := d) (k := 15 - i / 2) (by decide) (i / 2) (fun j hj => h2 j (by omega))
    rw [show 15 - i / 2 + i / 2 + 1 = 16 by omega, h3] at e
    rw [st_ar hi e]
    refine (bs_ (tB_in (at' + i) (hs_ hr) (nI_add at' i) (by omega) (by omega))).trans ?_
    rw [hss, i8_r]
    show L_Rm_store_2 f _ kt (nI at') a (nI i + Int32.ofInt 1) = _
    rw [nI_ofInt1]
    rfl) 32 0 (FU - 32) row rfl (fun k hk => absurd hk (Nat.not_lt_zero _)) (fun _ _ => rfl)
  rw [hid hr] at g1
  refine ⟨T', ?_, g2, g3⟩
  refine Eq.trans g1 ?_
  show B_Rm_store_2 _ _ kt (nI at') a (nI 32) = _
  unfold B_Rm_store_2
  rw [if_pos (show (32 : Int32) ≤ nI 32 by decide)]
