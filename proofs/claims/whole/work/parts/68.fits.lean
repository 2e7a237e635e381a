/-! digits and division -/
theorem vl_mod {B : Nat} {d : Nat → Nat} {m : Nat} (hd : ∀ i, i < m → d i < B) : ∀ r, vl B d (m + r) % B ^ m = vl B d m
  | 0 => Nat.mod_eq_of_lt (vl_lt m hd)
  | r + 1 => by
    show (vl B d (m + r) + d (m + r) * B ^ (m + r)) % B ^ m = _
    rw [Nat.pow_add, show d (m + r) * (B ^ m * B ^ r) = B ^ m * (d (m + r) * B ^ r) by rw [Nat.mul_left_comm], Nat.add_mul_mod_self_left]
    exact vl_mod hd r
theorem vl_dig {B : Nat} {d : Nat → Nat} (hB : 0 < B) {k : Nat} : ∀ r, (∀ i, i < k + r + 1 → d i < B) → vl B d (k + r + 1) / B ^ k % B = d k
  | 0, hd => by
    show (vl B d k + d k * B ^ k) / B ^ k % B = d k
    rw [Nat.add_mul_div_right _ _ (Nat.pow_pos hB), Nat.div_eq_of_lt (vl_lt k (fun i hi => hd i (by omega))), Nat.zero_add, Nat.mod_eq_of_lt (hd k (by omega))]
  | r + 1, hd => by
    show (vl B d (k + r + 1) + d (k + r + 1) * B ^ (k + r + 1)) / B ^ k % B = d k
    rw [show d (k + r + 1) * B ^ (k + r + 1) = (d (k + r + 1) * B ^ r * B) * B ^ k by
      rw [show k + r + 1 = r + 1 + k by omega, Nat.pow_add, Nat.pow_succ, ← Nat.mul_assoc, ← Nat.mul_assoc], Nat.add_mul_div_right _ _ (Nat.pow_pos hB), Nat.add_mul_mod_self_right]
    exact vl_dig hB r (fun i hi => hd i (by omega))
theorem vl_step {B : Nat} {d : Nat → Nat} (hB : 0 < B) {k n : Nat} (hk : k < n) (hd : ∀ i, i < n → d i < B) : vl B d n / B ^ k = vl B d n / B ^ (k + 1) * B + d k := by
  obtain ⟨r, rfl⟩ : ∃ r, n = k + r + 1 := ⟨n - k - 1, by omega⟩
  have h1 := vl_dig hB r hd
  rw [Nat.pow_succ, ← Nat.div_div_eq_div_mul]
  have h2 := Nat.div_add_mod (vl B d (k + r + 1) / B ^ k) B
  rw [h1, Nat.mul_comm] at h2
  exact h2.symm
theorem vl_z {B : Nat} {d : Nat → Nat} (hB : 0 < B) : ∀ n, vl B d n = 0 → ∀ i, i < n → d i = 0
  | 0, _, i, hi => by omega
  | n + 1, h, i, hi => by
    have h1 : vl B d n + d n * B ^ n = 0 := h
    have h2 : d n * B ^ n = 0 := by omega
    have h3 : d n = 0 := by
      rcases Nat.mul_eq_zero.mp h2 with z | z
      · exact z
      · exact absurd z (Nat.pos_iff_ne_zero.mp (Nat.pow_pos hB))
    by_cases z : i = n
    · rw [z]; exact h3
    · exact vl_z hB n (by omega) i (by omega)
/-! the reference's fits -/
section RF
variable {q kl kc : Nat} {fs : List Value}
theorem fi0 {a1 a3 : Int64} {a5 a6 : Int32} (hf1 : fs[47]? = some (.ref kl)) (hlq : kl ≠ q) : ∀ (r k f : Nat) (h : HP) (F : Nat → Int64), r + k = 8 → r < f → h[q]? = some (pO 8 fs) → h[kl]? = some (pJ 8 F) → (∀ j, j < k → F j = lN (if j = 0 then 1 else 0)) → ∃ F' K3, L_Rm_fits_3 f h q a1 a3 a5 a6 (nI k) = L_Rm_fits_36 K3 FU (h.set kl (pJ 8 F')) q a1 a3 a5 a6 0 ∧ RJ 8 F' (fun j => if j = 0 then 1 else 0) := by
  intro r
  induction r with
  | zero =>
    intro k f h F hr hfu hp hl hF
    cases f with
    | zero => omega
    | succ f =>
      have hk : k = 8 := by omega
      subst hk
      refine ⟨F, L_Rm_fits_3 f, ?_, hF⟩
      show B_Rm_fits_3 _ h q a1 a3 a5 a6 (nI 8) = _
      unfold B_Rm_fits_3
      rw [if_pos (show (8 : Int32) ≤ nI 8 by decide), hid hl]
  | succ r ih =>
    intro k f h F hr hfu hp hl hF
    cases f with
    | zero => omega
    | succ f =>
      obtain ⟨F', K3, g1, g2⟩ := ih (k + 1) f (h.set kl (pJ 8 (va_up F k (lN (if k = 0 then 1 else 0))))) _ (by omega) (by omega) (hn_ hlq hp) (hs_ hl) (fun j hj => by
        by_cases z : j = k
        · subst z; rw [up_s]
        · rw [up_n z]; exact hF j (by omega))
      refine ⟨F', K3, ?_, g2⟩
      show B_Rm_fits_3 (L_Rm_fits_3 f) h q a1 a3 a5 a6 (nI k) = _
      unfold B_Rm_fits_3
      rw [if_neg (show ¬ (8 : Int32) ≤ nI k from nI_ge (b := 8) (by omega) (by omega))]
      refine (bs_ (gR_at hp hf1)).trans ?_
      by_cases z : k = 0
      · subst z
        rw [if_pos (show nI 0 = 0 from nI_0)]
        refine (bs_ (tJ_in 0 hl rfl (by omega) (by omega))).trans ?_
        show L_Rm_fits_3 f _ q a1 a3 a5 a6 (nI 0 + Int32.ofInt 1) = _
        rw [nI_ofInt1]
        refine Eq.trans ?_ (g1.trans ?_)
        · rfl
        · rw [hss]
      · rw [if_neg (nI_ne0 (by omega) (by omega))]
        refine (bs_ (tJ_in k hl rfl (by omega) (by omega))).trans ?_
        show L_Rm_fits_3 f (h.set kl (pJ 8 (va_up F k (lN 0)))) q a1 a3 a5 a6 (nI k + Int32.ofInt 1) = _
        rw [nI_ofInt1]
        rw [if_neg z] at g1
        refine g1.trans ?_
        rw [hss]
theorem fi1 {K3 : HP → Nat → Int64 → Int64 → Int32 → Int32 → Int32 → Option (Int32 × HP)} {a5 : Int32} (hf1 : fs[47]? = some (.ref kl)) (hf2 : fs[48]? = some (.ref kc)) (hlq : kl ≠ q) (hcq : kc ≠ q) (hlc : kc ≠ kl) {xh xl pw X : Nat} (hxh : xh < 2 ^ 32) (hxl : xl < 2 ^ 64) (hX : xl % 2 ^ 32 + xl / 2 ^ 32 * 2 ^ 32 + xh * (2 ^ 32) ^ 2 = X) (hpw : pw < 2 ^ 31) (hb : ∀ m, m ≤ pw → X ^ m < (2 ^ 32) ^ 8) : ∀ (r m f : Nat) (h : HP) (F C : Nat → Int64) (d : Nat → Nat), r + m = pw → r < f → h[q]? = some (pO 8 fs) → h[kl]? = some (pJ 8 F) → h[kc]? = some (pJ 8 C) → RJ 8 F d → (∀ k, k < 8 → d k < 2 ^ 32) → vl (2 ^ 32) d 8 = X ^ m →
    ∃ K36 F' C' d', L_Rm_fits_36 K3 f h q (lN xh) (lN xl) a5 (nI pw) (nI m) = L_Rm_fits_62 K3 K36 FU ((h.set kc (pJ 8 C')).set kl (pJ 8 F')) q a5 (nI pw) 0 7 ∧ RJ 8 F' d' ∧ (∀ k, k < 8 → d' k < 2 ^ 32) ∧ vl (2 ^ 32) d' 8 = X ^ pw := by
  intro r
  induction r with
  | zero =>
    intro m f h F C d hr hfu hp hl hc hF hd hv
    cases f with
    | zero => omega
    | succ f =>
      have hm : m = pw := by omega
      subst hm
      refine ⟨L_Rm_fits_36 K3 f, F, C, d, ?_, hF, hd, hv⟩
      show B_Rm_fits_36 K3 _ h q (lN xh) (lN xl) a5 (nI m) (nI m) = _
      unfold B_Rm_fits_36
      rw [if_pos (nI_le (Nat.le_refl _) hpw), hid hc, hid hl]
  | succ r ih =>
    intro m f h F C d hr hfu hp hl hc hF hd hv
    cases f with
    | zero => omega
    | succ f =>
      obtain ⟨L', C', d', e1, e2, e3, e4⟩ := e_raise hf1 hf2 hlq hcq hlc hxh hxl hd hF hp hl hc
      rw [hX, hv, ← Nat.pow_succ, Nat.mod_eq_of_lt (hb (m + 1) (by omega))] at e4
      obtain ⟨K36, F2, C2, d2, g1, g2, g3, g4⟩ := ih (m + 1) f _ L' C' d' (by omega) (by omega) (hn_ hlq (hn_ hcq hp)) (hs_ (hn_ hlc hl)) (hn_ hlc.symm (hs_ hc)) e2 e3 e4
      refine ⟨K36, F2, C2, d2, ?_, g2, g3, g4⟩
      show B_Rm_fits_36 K3 (L_Rm_fits_36 K3 f) h q (lN xh) (lN xl) a5 (nI pw) (nI m) = _
      unfold B_Rm_fits_36
      rw [if_neg (nI_ge (by omega) hpw)]
      refine (os_ hp).trans ?_
      refine (bs_ e1).trans ?_
      show L_Rm_fits_36 K3 f _ q (lN xh) (lN xl) a5 (nI pw) (nI m + Int32.ofInt 1) = _
      rw [nI_ofInt1]
      refine g1.trans ?_
      rw [hsc hlc.symm, hss, hss]
theorem fi3 {K3 K36 : HP → Nat → Int64 → Int64 → Int32 → Int32 → Int32 → Option (Int32 × HP)} {K62 : HP → Nat → Int32 → Int32 → Int64 → Int32 → Option (Int32 × HP)} (hf1 : fs[47]? = some (.ref kl)) {h : HP} {F : Nat → Int64} {d : Nat → Nat} {pw : Nat} (hp : h[q]? = some (pO 8 fs)) (hl : h[kl]? = some (pJ 8 F)) (hF : RJ 8 F d) (hd : ∀ k, k < 8 → d k < 2 ^ 32) (hpw : 2 * pw ≤ 8) : ∀ (r k f : Nat), r + k = 2 * pw → r < f → (∀ j, j < k → d j = 0) → ∃ v : Int32, L_Rm_fits_119 K3 K36 K62 f h q (nI pw) (nI k) = some (v, h) ∧ ((v = 1 ∧ ∀ j, j < 2 * pw → d j = 0) ∨ (v = 0 ∧ ∃ j, j < 2 * pw ∧ d j ≠ 0)) := by
  have e2 : (2 : Int32) * nI pw = nI (2 * pw) := pk_mul 2 pw
  intro r
  induction r with
  | zero =>
    intro k f hr hfu hz
    cases f with
    | zero => omega
    | succ f =>
      refine ⟨1, ?_, Or.inl ⟨rfl, fun j hj => hz j (by omega)⟩⟩
      show B_Rm_fits_119 K3 K36 K62 _ h q (nI pw) (nI k) = _
      unfold B_Rm_fits_119
      rw [e2, if_pos (nI_le (by omega) (by omega))]
  | succ r ih =>
    intro k f hr hfu hz
    cases f with
    | zero => omega
    | succ f =>
      have un : L_Rm_fits_119 K3 K36 K62 (f + 1) h q (nI pw) (nI k) = (if lg_cmp (lN (d k)) 0 = 0 then L_Rm_fits_119 K3 K36 K62 f h q (nI pw) (nI (k + 1)) else some (0, h)) := by
        show B_Rm_fits_119 K3 K36 K62 (L_Rm_fits_119 K3 K36 K62 f) h q (nI pw) (nI k) = _
        unfold B_Rm_fits_119
        rw [e2, if_neg (nI_ge (by omega) (by omega))]
        refine (bs_ (gR_at hp hf1)).trans ?_
        refine (bs_ (sJ_in k hl rfl (by omega) (by omega))).trans ?_
        rw [hF k (by omega), ← nI_ofInt1]
        rfl
      rw [un]
      by_cases z : d k = 0
      · rw [if_pos (by rw [z]; decide)]
        exact ih (k + 1) f (by omega) (by omega) (fun j hj => by
          by_cases y : j = k
          · rw [y]; exact z
          · exact hz j (by omega))
      · rw [if_neg (fun e => z (by
          have e1 := (lg_cmp_eq _ _).mp e
          have e3 : (lN (d k)).toBitVec.toNat = (0 : Int64).toBitVec.toNat := by rw [e1]
          rw [wb_tn (Nat.lt_of_lt_of_le (hd k (by omega)) (by decide))] at e3
          exact e3))]
        exact ⟨0, rfl, Or.inr ⟨rfl, k, by omega, z⟩⟩
end RF
