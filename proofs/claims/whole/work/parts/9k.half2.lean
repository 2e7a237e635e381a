/-! the reference's half; the arithmetic of its inverse -/
theorem vl_par {d : Nat → Nat} (h : d 16 = 0) : vl (2 ^ 16) d 16 % 2 = d 0 % 2 := by
  have := hv_vl (B := 2 ^ 16) (by decide) (d := d) 16
  rw [h] at this
  omega
def hfv (x m : Nat) : Nat := if x % 2 = 0 then x / 2 else (x + m) / 2
theorem nm_par {F : Nat → Int64} {x : Nat} (hF : NM F x) : ∃ e, e < 2 ^ 16 ∧ F 0 = lN e ∧ e % 2 = x % 2 := by
  obtain ⟨d, h1, h2, rfl⟩ := hF
  refine ⟨d 0, h2 0 (by decide), h1 0 (by decide), ?_⟩
  have := vl_par (d := fun k => if k < 16 then d k else 0) rfl
  rw [vl_eq 16 (fun k hk => (if_pos hk : (if k < 16 then d k else 0) = d k))] at this
  exact this.symm
theorem e_half {h : HP} {a m nm x v : Nat} {F M : Nat → Int64} (ha : h[a]? = some (pJ 17 F)) (hm : h[m]? = some (pJ nm M)) (hnm : 16 ≤ nm) (ham : a ≠ m) (hF : NM F x) (hF0 : F 16 = 0) (hM : NM M v) : ∃ F', P_Rm_half h a m = some (h.set a (pJ 17 F')) ∧ NM F' (hfv x v) ∧ F' 16 = 0 := by
  obtain ⟨e, e1, e2, e3⟩ := nm_par hF
  have hz : (lg_cmp (lN e &&& 1) 1 = 0) ↔ x % 2 = 1 := by
    rw [wb_a1 (by omega), lg_cmp_eq]
    have := lN_inj16 (a := e % 2) (b := 1) (by omega) (by decide)
    exact this.trans (by omega)
  unfold P_Rm_half
  rw [show ldJ h a 0 = some (F 0) from sJ_in 0 ha rfl (by omega) (by decide), e2]
  show ∃ F', (if lg_cmp (lN e &&& 1) 1 = 0 then L_Rm_half_15 FU h a m 0 0 else B_Rm_half_62 h a) = _ ∧ _
  by_cases z : x % 2 = 0
  · rw [if_neg (fun q => by have := hz.mp q; omega)]
    obtain ⟨d, h1, h2, h3⟩ := hF
    obtain ⟨F', g1, g2, g3⟩ := hf_62 (d := fun k => if k < 16 then d k else 0) ha (fun k hk => by
      show F k = lN (if k < 16 then d k else 0)
      by_cases y : k < 16
      · rw [if_pos y]; exact h1 k y
      · rw [if_neg y, show k = 16 by omega]; exact hF0) (fun k hk => by show (if k < 16 then d k else 0) < _; rw [if_pos hk]; exact h2 k hk) (by show (if 16 < 16 then d 16 else 0) ≤ 1; rw [if_neg (by decide)]; decide)
    refine ⟨F', g1, ?_, g3⟩
    unfold hfv
    rw [if_pos z, ← h3]
    rw [vl_eq 16 (fun k hk => (if_pos hk : (if k < 16 then d k else 0) = d k)), show (if 16 < 16 then d 16 else 0) = 0 from if_neg (by decide), Nat.zero_mul, Nat.add_zero] at g2
    exact g2
  · rw [if_pos (hz.mpr (by omega))]
    have l1 := hF.zm.lt (by decide)
    have l2 := hM.zm.lt (by decide)
    obtain ⟨ea, a1, a2, a3⟩ := hF.zm
    obtain ⟨eb, b1, b2, b3⟩ := hM.zm
    have a3 : vz 65536 ea 16 = x := a3
    have b3 : vz 65536 eb 16 = v := b3
    have bd := cy_bd (B := 65536) (lo := 0) (hi := 1) (s := fun i => ea i + eb i) (n := 16) (by decide) (by decide) (by decide) (fun k hk => by have := a2 k hk; have := b2 k hk; omega)
    obtain ⟨T', g1, g2, g3⟩ := cyl0 (B := 65536) (s := fun i => ea i + eb i) (n := 16) (fun f h c i => L_Rm_half_15 f h a m c i) ha (by
      intro i f T2 hi hT
      have c1 := bd i (by omega)
      have c2 := a2 i hi
      have c3 := b2 i hi
      show B_Rm_half_15 (L_Rm_half_15 f) _ a m (lZ (cy 65536 (fun i => ea i + eb i) i)) (nI i) = L_Rm_half_15 f (h.set a (pJ 17 (va_up T2 i (lZ ((cy 65536 (fun i => ea i + eb i) i + (ea i + eb i)) % 65536))))) a m (lZ ((cy 65536 (fun i => ea i + eb i) i + (ea i + eb i)) / 65536)) (nI (i + 1))
      generalize cy 65536 (fun i => ea i + eb i) i = c at *
      unfold B_Rm_half_15
      rw [if_neg (show ¬ (16 : Int32) ≤ nI i from nI_ge (b := 16) (by omega) (by omega))]
      refine (bs_ (ld_al i ha ha (hT i (Nat.le_refl _)) rfl (by omega) (by omega))).trans ?_
      refine (bs_ (ld_al i ha hm (hT i (Nat.le_refl _)) rfl (by omega) (by omega))).trans ?_
      refine lt_e.trans ?_
      rw [a1 i hi, b1 i hi, lZ_add, lZ_add, lZ_m16, lZ_s16 (by omega) (by omega)]
      refine (bs_ (tJ_in i (hs_ ha) rfl (by omega) (by omega))).trans ?_
      rw [hss]
      show L_Rm_half_15 f _ a m _ (nI i + Int32.ofInt 1) = _
      rw [nI_ofInt1]) (FU - 16)
    have c1 := bd 16 (by omega)
    have e1 : vz 65536 (fun i => ea i + eb i) 16 = (x : Int) + v := by rw [vz_add]; omega
    have e2 := cy_sum (B := 65536) (s := fun i => ea i + eb i) 16
    have e3 := vz_ge (B := 65536) (d := dg 65536 (fun i => ea i + eb i)) (by decide) 16 (fun k _ => (dg_bd (by decide) k).1)
    have nT : NM T' (vz 65536 (dg 65536 (fun i => ea i + eb i)) 16).toNat := ZM.nm (zm_dg (B := 65536) (by decide) g2 (by rw [Int.toNat_of_nonneg e3]; exact e2.symm))
    obtain ⟨d, h1, h2, h3⟩ := nT
    have hc : lZ (cy 65536 (fun i => ea i + eb i) 16) = lN (cy 65536 (fun i => ea i + eb i) 16).toNat := by rw [lZ_N, Int.toNat_of_nonneg c1.1]
    have g4 : L_Rm_half_15 FU h a m 0 0 = B_Rm_half_62 (h.set a (pJ 17 (va_up T' 16 (lZ (cy 65536 (fun i => ea i + eb i) 16))))) a := by
      refine Eq.trans g1 ?_
      show B_Rm_half_15 _ _ a m _ (nI 16) = _
      unfold B_Rm_half_15
      rw [if_pos (show (16 : Int32) ≤ nI 16 by decide)]
      refine (bs_ (sJ_in 16 (hs_ ha) rfl (by omega) (by omega))).trans ?_
      rw [g3 16 (Nat.le_refl _), hF0, show (0 : Int64) + lZ (cy 65536 (fun i => ea i + eb i) 16) = lZ (cy 65536 (fun i => ea i + eb i) 16) by rw [show (0 : Int64) = lZ 0 from rfl, lZ_add, Int.zero_add]]
      refine (bs_ (tJ_in 16 (hs_ ha) rfl (by omega) (by omega))).trans ?_
      rw [hss]
    obtain ⟨F', k1, k2, k3⟩ := hf_62 (d := fun k => if k < 16 then d k else (cy 65536 (fun i => ea i + eb i) 16).toNat) (hs_ (d := pJ 17 (va_up T' 16 (lZ (cy 65536 (fun i => ea i + eb i) 16)))) ha) (fun k hk => by
      show va_up T' 16 _ k = lN (if k < 16 then d k else (cy 65536 (fun i => ea i + eb i) 16).toNat)
      by_cases y : k < 16
      · rw [if_pos y, up_n (by omega)]; exact h1 k y
      · rw [if_neg y, show k = 16 by omega, up_s, hc]) (fun k hk => by show (if k < 16 then d k else _) < _; rw [if_pos hk]; exact h2 k hk) (by show (if 16 < 16 then d 16 else (cy 65536 (fun i => ea i + eb i) 16).toNat) ≤ 1; rw [if_neg (by decide)]; omega)
    rw [hss] at k1
    refine ⟨F', g4.trans k1, ?_, k3⟩
    unfold hfv
    rw [if_neg z]
    rw [vl_eq 16 (fun k hk => (if_pos hk : (if k < 16 then d k else (cy 65536 (fun i => ea i + eb i) 16).toNat) = d k)), h3] at k2
    have e5 : (vz 65536 (dg 65536 (fun i => ea i + eb i)) 16).toNat + (cy 65536 (fun i => ea i + eb i) 16).toNat * 2 ^ 256 = x + v := by omega
    have k2 : NM F' (((vz 65536 (dg 65536 (fun i => ea i + eb i)) 16).toNat + (cy 65536 (fun i => ea i + eb i) 16).toNat * 2 ^ 256) / 2) := k2
    rw [e5] at k2
    exact k2
/-- what the loop of inverse keeps -/
def IVa (a m n u v x y : Nat) : Prop := (0 < u ∧ 0 < v ∧ x < m ∧ y < m ∧ Nat.Coprime u v) ∧ ((m : Int) ∣ (a : Int) * x - u) ∧ ((m : Int) ∣ (a : Int) * y - v) ∧ ∃ k, u * v * 2 ^ k < 2 ^ 512 ∧ n ≤ 2 * k + (if u % 2 = 0 ∨ v % 2 = 0 then 1 else 0)
theorem iva_sw {a m n u v x y : Nat} (h : IVa a m n u v x y) : IVa a m n v u y x := by
  obtain ⟨⟨h1, h2, h3, h4, h5⟩, h6, h7, k, h8, h9⟩ := h
  refine ⟨⟨h2, h1, h4, h3, h5.symm⟩, h7, h6, k, by rw [Nat.mul_comm v u]; exact h8, ?_⟩
  have : (if v % 2 = 0 ∨ u % 2 = 0 then 1 else 0) = (if u % 2 = 0 ∨ v % 2 = 0 then 1 else 0) := by
    by_cases z : u % 2 = 0 ∨ v % 2 = 0
    · rw [if_pos z, if_pos (by omega)]
    · rw [if_neg z, if_neg (by omega)]
  rw [this]; exact h9
theorem dv_2 {m t : Int} (hm : m % 2 = 1) (h : m ∣ 2 * t) : m ∣ t := by
  obtain ⟨k, hk⟩ := h
  obtain ⟨w, hw⟩ : ∃ w, 2 * w = m + 1 := ⟨(m + 1) / 2, by omega⟩
  refine ⟨w * k - t, ?_⟩
  rw [Int.mul_sub]
  have e1 : m * (w * k) = w * (m * k) := by rw [Int.mul_left_comm]
  have e2 : w * (2 * t) = (2 * w) * t := by rw [Int.mul_left_comm, Int.mul_assoc]
  rw [e1, ← hk, e2, hw, Int.add_mul]
  omega
theorem hfv_lt {x m : Nat} (h : x < m) : hfv x m < m := by
  unfold hfv
  split <;> omega
theorem iva_u {a m n u v x y : Nat} (hm : m % 2 = 1) (h : IVa a m n u v x y) (hu : u % 2 = 0) : IVa a m (n + 1) (u / 2) v (hfv x m) y := by
  obtain ⟨⟨h1, h2, h3, h4, h5⟩, h6, h7, k, h8, h9⟩ := h
  refine ⟨⟨by omega, h2, hfv_lt h3, h4, ?_⟩, ?_, h7, k + 1, ?_, ?_⟩
  · exact Nat.Coprime.coprime_dvd_left ⟨2, by omega⟩ h5
  · refine dv_2 (by omega) ?_
    obtain ⟨c, hc⟩ : ∃ c : Int, (2 * hfv x m : Nat) = (x : Int) + m * c := by
      unfold hfv
      by_cases z : x % 2 = 0
      · rw [if_pos z]; exact ⟨0, by omega⟩
      · rw [if_neg z]; exact ⟨1, by omega⟩
    obtain ⟨d, hd⟩ := h6
    refine ⟨d + a * c, ?_⟩
    have e1 : (2 : Int) * ((a : Int) * (hfv x m : Nat) - ((u / 2 : Nat) : Int)) = a * ((2 * hfv x m : Nat) : Int) - u := by
      rw [Int.natCast_mul, Int.mul_sub, Int.mul_left_comm]
      show (a : Int) * (2 * (hfv x m : Nat)) - 2 * ((u / 2 : Nat) : Int) = (a : Int) * (2 * (hfv x m : Nat)) - u
      omega
    rw [e1, hc, Int.mul_add, Int.mul_add, ← hd]
    rw [Int.mul_left_comm (a : Int) (m : Int)]
    omega
  · have e2 : u = 2 * (u / 2) := by omega
    rw [e2] at h8
    rw [Nat.pow_succ]
    generalize u / 2 = w at *
    have : w * v * (2 ^ k * 2) = 2 * w * v * 2 ^ k := by
      rw [Nat.mul_comm (2 ^ k) 2, ← Nat.mul_assoc, Nat.mul_comm (w * v) 2, ← Nat.mul_assoc]
    rw [this]; exact h8
  · rw [if_pos (Or.inl hu)] at h9
    omega
theorem iva_s {a m n u v x y : Nat} (h : IVa a m n u v x y) (hu : u % 2 = 1) (hv : v % 2 = 1) (hlt : ¬ u < v) (u1 : u ≠ 1) : IVa a m (n + 1) (u - v) v ((x + (m - y)) % m) y := by
  obtain ⟨⟨h1, h2, h3, h4, h5⟩, h6, h7, k, h8, h9⟩ := h
  have ne : u ≠ v := by
    intro e
    rw [e] at h5
    have : v = 1 := by
      have q : Nat.gcd v v = 1 := h5
      rw [Nat.gcd_self] at q
      exact q
    omega
  refine ⟨⟨by omega, h2, Nat.mod_lt _ (by omega), h4, ?_⟩, ?_, h7, k, ?_, ?_⟩
  · show Nat.gcd (u - v) v = 1
    rw [Nat.gcd_sub_self_left (by omega)]
    exact h5
  · obtain ⟨c, hc⟩ := h6
    obtain ⟨d, hd⟩ := h7
    obtain ⟨e, he⟩ : ∃ e : Int, (((x + (m - y)) % m : Nat) : Int) = (x : Int) - y + m * e := by
      have := Nat.div_add_mod (x + (m - y)) m
      refine ⟨1 - ((x + (m - y)) / m : Nat), ?_⟩
      rw [Int.mul_sub, ← Int.natCast_mul]
      omega
    refine ⟨c - d + a * e, ?_⟩
    rw [he, Int.mul_add, Int.mul_add, Int.mul_sub, Int.mul_sub, ← hc, ← hd, Int.mul_left_comm (a : Int) (m : Int)]
    omega
  · refine Nat.lt_of_le_of_lt (Nat.mul_le_mul_right _ (Nat.mul_le_mul_right _ (Nat.sub_le u v))) h8
  · rw [if_neg (by omega)] at h9
    rw [if_pos (by omega)]
    omega
theorem iva_n {a m n u v x y : Nat} (h : IVa a m n u v x y) : n < 1100 := by
  obtain ⟨⟨h1, h2, h3, h4, h5⟩, h6, h7, k, h8, h9⟩ := h
  have : k < 512 := by
    refine Classical.byContradiction fun z => ?_
    have e1 : 2 ^ 512 ≤ 2 ^ k := Nat.pow_le_pow_right (by decide) (by omega)
    have e2 : 1 * 2 ^ k ≤ u * v * 2 ^ k := Nat.mul_le_mul_right _ (Nat.mul_pos h1 h2)
    omega
  split at h9 <;> omega
