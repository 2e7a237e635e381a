/-! loops over a row, once for all -/
theorem rwl {R : Type} {n : Nat} {h0 : HP} {t nt : Nat} {T0 : Nat → Int64} (g : Nat → Int64) (L : Nat → HP → Int32 → R)
    (st : ∀ i f T, i < n → (∀ k, k < i → T k = g k) → (∀ k, i ≤ k → T k = T0 k) → L (f + 1) (h0.set t (pJ nt T)) (nI i) = L f (h0.set t (pJ nt (va_up T i (g i)))) (nI (i + 1))) :
    ∀ r i f T, r + i = n → (∀ k, k < i → T k = g k) → (∀ k, i ≤ k → T k = T0 k) → ∃ T', L (r + f) (h0.set t (pJ nt T)) (nI i) = L f (h0.set t (pJ nt T')) (nI n) ∧ (∀ k, k < n → T' k = g k) ∧ ∀ k, n ≤ k → T' k = T0 k
  | 0, i, f, T, hr, h1, h2 => by
    have : i = n := by omega
    subst this
    exact ⟨T, by rw [Nat.zero_add], h1, h2⟩
  | r + 1, i, f, T, hr, h1, h2 => by
    obtain ⟨T', g1, g2, g3⟩ := rwl g L st r (i + 1) f (va_up T i (g i)) (by omega) (fun k hk => by
      by_cases z : k = i
      · rw [z, up_s]
      · rw [up_n z]; exact h1 k (by omega)) (fun k hk => by rw [up_n (by omega)]; exact h2 k (by omega))
    refine ⟨T', ?_, g2, g3⟩
    rw [show r + 1 + f = (r + f) + 1 by omega, st i (r + f) T (by omega) h1 h2]
    exact g1
theorem rwl0 {R : Type} {n : Nat} {h0 : HP} {t nt : Nat} {T0 : Nat → Int64} (g : Nat → Int64) (L : Nat → HP → Int32 → R) (ht : h0[t]? = some (pJ nt T0))
    (st : ∀ i f T, i < n → (∀ k, k < i → T k = g k) → (∀ k, i ≤ k → T k = T0 k) → L (f + 1) (h0.set t (pJ nt T)) (nI i) = L f (h0.set t (pJ nt (va_up T i (g i)))) (nI (i + 1))) (f : Nat) :
    ∃ T', L (n + f) h0 0 = L f (h0.set t (pJ nt T')) (nI n) ∧ (∀ k, k < n → T' k = g k) ∧ ∀ k, n ≤ k → T' k = T0 k := by
  obtain ⟨T', g1, g2, g3⟩ := rwl g L st n 0 f T0 rfl (fun k hk => absurd hk (Nat.not_lt_zero _)) (fun _ _ => rfl)
  rw [hid ht] at g1
  exact ⟨T', g1, g2, g3⟩
theorem acl {R : Type} {n : Nat} {s : Nat → Int64} (L : Nat → Int64 → Int32 → R) (st : ∀ i f, i < n → L (f + 1) (s i) (nI i) = L f (s (i + 1)) (nI (i + 1))) :
    ∀ r i f, r + i = n → L (r + f) (s i) (nI i) = L f (s n) (nI n)
  | 0, i, f, hr => by
    have : i = n := by omega
    rw [this, Nat.zero_add]
  | r + 1, i, f, hr => by
    rw [show r + 1 + f = (r + f) + 1 by omega, st i (r + f) (by omega)]
    exact acl L st r (i + 1) f (by omega)
/-- carries into the row t from place o on -/
theorem cylo {R : Type} {B : Int} {s : Nat → Int} {n : Nat} {h0 : HP} {t nt o : Nat} {T0 : Nat → Int64} (L : Nat → HP → Int64 → Int32 → R)
    (st : ∀ i f T, i < n → (∀ k, o + i ≤ k → T k = T0 k) → L (f + 1) (h0.set t (pJ nt T)) (lZ (cy B s i)) (nI i) = L f (h0.set t (pJ nt (va_up T (o + i) (lZ (dg B s i))))) (lZ (cy B s (i + 1))) (nI (i + 1))) :
    ∀ r i f T, r + i = n → (∀ k, k < i → T (o + k) = lZ (dg B s k)) → (∀ k, o + i ≤ k → T k = T0 k) → (∀ k, k < o → T k = T0 k) → ∃ T', L (r + f) (h0.set t (pJ nt T)) (lZ (cy B s i)) (nI i) = L f (h0.set t (pJ nt T')) (lZ (cy B s n)) (nI n) ∧ (∀ k, k < n → T' (o + k) = lZ (dg B s k)) ∧ (∀ k, o + n ≤ k → T' k = T0 k) ∧ ∀ k, k < o → T' k = T0 k
  | 0, i, f, T, hr, h1, h2, h3 => by
    have : i = n := by omega
    subst this
    exact ⟨T, by rw [Nat.zero_add], h1, h2, h3⟩
  | r + 1, i, f, T, hr, h1, h2, h3 => by
    obtain ⟨T', g1, g2, g3⟩ := cylo L st r (i + 1) f (va_up T (o + i) (lZ (dg B s i))) (by omega) (fun k hk => by
      by_cases z : k = i
      · rw [z, up_s]
      · rw [up_n (by omega)]; exact h1 k (by omega)) (fun k hk => by rw [up_n (by omega)]; exact h2 k (by omega)) (fun k hk => by rw [up_n (by omega)]; exact h3 k hk)
    refine ⟨T', ?_, g2, g3⟩
    rw [show r + 1 + f = (r + f) + 1 by omega, st i (r + f) T (by omega) h2]
    exact g1
theorem vz_sp {B : Int} {d : Nat → Int} (m : Nat) : ∀ n, vz B d (m + n) = vz B d m + B ^ m * vz B (fun k => d (m + k)) n
  | 0 => by show vz B d m = vz B d m + B ^ m * 0; omega
  | n + 1 => by
    show vz B d (m + n) + d (m + n) * B ^ (m + n) = vz B d m + B ^ m * (vz B (fun k => d (m + k)) n + d (m + n) * B ^ n)
    rw [vz_sp m n, Int.pow_add, Int.mul_add]
    have : d (m + n) * (B ^ m * B ^ n) = B ^ m * (d (m + n) * B ^ n) := by rw [Int.mul_left_comm]
    omega
/-! the reference's times: the product -/
section TM
variable {q kp ks : Nat} {fs : List Value}
theorem ti_in {h : HP} {a b na nb : Nat} {A D T0 : Nat → Int64} {ea eb d : Nat → Int} {K3 K27 : HP → Nat → Nat → Nat → Nat → Nat → Nat → Int32 → Option (HP)} {t m u : Nat} {i : Nat} (hi : i < 16) (hq : h[q]? = some (pO 8 fs)) (hf : fs[37]? = some (.ref kp)) (hkp : h[kp]? = some (pJ 32 T0)) (nq : q ≠ kp) (na1 : a ≠ kp) (nb1 : b ≠ kp) (hna : 16 ≤ na) (hnb : 16 ≤ nb) (ha : h[a]? = some (pJ na A)) (hb : h[b]? = some (pJ nb D)) (a1 : ∀ k, k < 16 → A k = lZ (ea k)) (a2 : ∀ k, k < 16 → 0 ≤ ea k ∧ ea k < 65536) (b1 : ∀ k, k < 16 → D k = lZ (eb k)) (b2 : ∀ k, k < 16 → 0 ≤ eb k ∧ eb k < 65536) (d1 : ∀ k, k < 16 + i → T0 k = lZ (d k)) (d2 : ∀ k, k < 16 + i → 0 ≤ d k ∧ d k < 65536) :
    ∃ T' d', L_Rm_times_40 K3 K27 FU h q t a b m u (nI i) 0 0 = K27 (h.set kp (pJ 32 T')) q t a b m u (nI (i + 1)) ∧ (∀ k, k < 16 + (i + 1) → T' k = lZ (d' k)) ∧ (∀ k, k < 16 + (i + 1) → 0 ≤ d' k ∧ d' k < 65536) ∧ vz 65536 d' (16 + (i + 1)) = vz 65536 d (16 + i) + ea i * 65536 ^ i * vz 65536 eb 16 := by
  obtain ⟨s, hs⟩ : ∃ s : Nat → Int, s = fun k => d (i + k) + ea i * eb k := ⟨_, rfl⟩
  have sb : ∀ k, k < 16 → 0 ≤ s k ∧ s k ≤ 65536 * 65535 := by
    intro k hk
    rw [hs]
    show 0 ≤ d (i + k) + ea i * eb k ∧ d (i + k) + ea i * eb k ≤ 65536 * 65535
    have e1 := a2 i hi
    have e2 := b2 k hk
    have e3 := d2 (i + k) (by omega)
    have e4 := Int.mul_nonneg e1.1 e2.1
    have e5 := Int.mul_le_mul (show ea i ≤ 65535 by omega) (show eb k ≤ 65535 by omega) e2.1 (by decide)
    omega
  have bd := cy_bd (B := 65536) (lo := 0) (hi := 65535) (s := s) (n := 16) (by decide) (by decide) (by decide) (fun k hk => by have := sb k hk; omega)
  obtain ⟨T', g1, g2, g3, g4⟩ := cylo (B := 65536) (s := s) (n := 16) (h0 := h) (t := kp) (nt := 32) (o := i) (T0 := T0) (fun f h c j => L_Rm_times_40 K3 K27 f h q t a b m u (nI i) c j) (by
    intro k f T hk hT
    have c1 := bd k (by omega)
    have c2 := sb k hk
    show B_Rm_times_40 K3 K27 (L_Rm_times_40 K3 K27 f) _ q t a b m u (nI i) (lZ (cy 65536 s k)) (nI k) = L_Rm_times_40 K3 K27 f (h.set kp (pJ 32 (va_up T (i + k) (lZ ((cy 65536 s k + s k) % 65536))))) q t a b m u (nI i) (lZ ((cy 65536 s k + s k) / 65536)) (nI (k + 1))
    have hs' : s k = d (i + k) + ea i * eb k := by rw [hs]
    generalize cy 65536 s k = c at *
    unfold B_Rm_times_40
    rw [if_neg (show ¬ (16 : Int32) ≤ nI k from nI_ge (b := 16) (by omega) (by omega))]
    have hq' : (h.set kp (pJ 32 T))[q]? = some (pO 8 fs) := hn_ (Ne.symm nq) hq
    refine (bs_ (gR_at hq' hf)).trans ?_
    refine (bs_ (sJ_in (i + k) (hs_ hkp) (by rw [nI_add]) (by omega) (by omega))).trans ?_
    refine (bs_ (sJ_in i (hn_ (Ne.symm na1) ha) rfl (by omega) (by omega))).trans ?_
    refine (bs_ (sJ_in k (hn_ (Ne.symm nb1) hb) rfl (by omega) (by omega))).trans ?_
    refine lt_e.trans ?_
    rw [hT (i + k) (Nat.le_refl _), d1 (i + k) (by omega), a1 i hi, b1 k hk, lZ_mul, lZ_add, lZ_add, ← hs', lZ_m16, lZ_s16 (by omega) (by omega)]
    refine (bs_ (gR_at hq' hf)).trans ?_
    refine (bs_ (tJ_in (i + k) (hs_ hkp) (by rw [nI_add]) (by omega) (by omega))).trans ?_
    rw [hss]
    show L_Rm_times_40 K3 K27 f _ q t a b m u (nI i) _ (nI k + Int32.ofInt 1) = _
    rw [nI_ofInt1]) 16 0 (FU - 16) T0 rfl (fun k hk => absurd hk (Nat.not_lt_zero _)) (fun _ _ => rfl) (fun _ _ => rfl)
  rw [hid hkp] at g1
  have c16 := bd 16 (by omega)
  have e2 := cy_sum (B := 65536) (s := s) 16
  refine ⟨va_up T' (i + 16) (lZ (cy 65536 s 16)), fun k => if k < i then d k else if k < i + 16 then dg 65536 s (k - i) else cy 65536 s 16, ?_, ?_, ?_, ?_⟩
  · refine Eq.trans g1 ?_
    show B_Rm_times_40 K3 K27 _ _ q t a b m u (nI i) _ (nI 16) = _
    unfold B_Rm_times_40
    rw [if_pos (show (16 : Int32) ≤ nI 16 by decide)]
    refine (bs_ (gR_at (hn_ (Ne.symm nq) hq) hf)).trans ?_
    refine (bs_ (tJ_in (i + 16) (hs_ hkp) (show nI i + 16 = nI (i + 16) from nI_add i 16) (by omega) (by omega))).trans ?_
    rw [hss]
    show K27 _ q t a b m u (nI i + Int32.ofInt 1) = _
    rw [nI_ofInt1]
  · intro k hk
    show va_up T' (i + 16) (lZ (cy 65536 s 16)) k = lZ (if k < i then d k else if k < i + 16 then dg 65536 s (k - i) else cy 65536 s 16)
    by_cases z1 : k < i
    · rw [up_n (by omega), if_pos z1, g4 k z1, d1 k (by omega)]
    · by_cases z2 : k < i + 16
      · rw [up_n (by omega), if_neg z1, if_pos z2]
        have := g2 (k - i) (by omega)
        rw [show i + (k - i) = k by omega] at this
        exact this
      · rw [if_neg z1, if_neg z2, show k = i + 16 by omega, up_s]
  · intro k hk
    show 0 ≤ (if k < i then d k else if k < i + 16 then dg 65536 s (k - i) else cy 65536 s 16) ∧ (if k < i then d k else if k < i + 16 then dg 65536 s (k - i) else cy 65536 s 16) < 65536
    by_cases z1 : k < i
    · rw [if_pos z1]; exact d2 k (by omega)
    · by_cases z2 : k < i + 16
      · rw [if_neg z1, if_pos z2]; exact dg_bd (by decide) _
      · rw [if_neg z1, if_neg z2]; omega
  · rw [show 16 + (i + 1) = i + 17 by omega, vz_sp i 17, show 16 + i = i + 16 by omega, vz_sp i 16]
    have e3 : vz 65536 (fun k => if k < i then d k else if k < i + 16 then dg 65536 s (k - i) else cy 65536 s 16) i = vz 65536 d i := vz_eq i (fun k hk => if_pos hk)
    have e4 : vz 65536 (fun k => if i + k < i then d (i + k) else if i + k < i + 16 then dg 65536 s (i + k - i) else cy 65536 s 16) 17 = vz 65536 s 16 := by
      rw [← e2]
      show vz 65536 _ 16 + (if i + 16 < i then d (i + 16) else if i + 16 < i + 16 then dg 65536 s (i + 16 - i) else cy 65536 s 16) * 65536 ^ 16 = _
      rw [if_neg (by omega), if_neg (by omega), vz_eq 16 (fun k hk => by rw [if_neg (by omega), if_pos (by omega), show i + k - i = k by omega] : ∀ k, k < 16 → (if i + k < i then d (i + k) else if i + k < i + 16 then dg 65536 s (i + k - i) else cy 65536 s 16) = dg 65536 s k)]
    have e5 : vz 65536 s 16 = vz 65536 (fun k => d (i + k)) 16 + ea i * vz 65536 eb 16 := by rw [hs, vz_add, vz_mul]
    rw [e3, e4, e5, Int.mul_add]
    have : 65536 ^ i * (ea i * vz 65536 eb 16) = ea i * 65536 ^ i * vz 65536 eb 16 := by
      rw [← Int.mul_assoc, Int.mul_comm (65536 ^ i)]
    omega
end TM
