/-! the reference's reduce and times -/
theorem sm_eq {x y z : Nat → Int} : ∀ n, (∀ k, k < n → y k = z k) → sm x y n = sm x z n
  | 0, _ => rfl
  | n + 1, h => by
    show sm x y n + x n * y n = sm x z n + x n * z n
    rw [sm_eq n (fun k hk => h k (by omega)), h n (by omega)]
theorem vz_le {B M : Int} {d : Nat → Int} (hB : 1 ≤ B) : ∀ n, (∀ k, k < n → d k ≤ M) → vz B d n * (B - 1) ≤ M * (B ^ n - 1)
  | 0, _ => by show (0 : Int) * (B - 1) ≤ M * (B ^ 0 - 1); simp
  | n + 1, h => by
    have ih := vz_le hB n (fun k hk => h k (by omega))
    have h1 := Int.mul_le_mul_of_nonneg_right (h n (by omega)) (Int.mul_nonneg (Int.le_of_lt (ip_pos (show 0 < B by omega) n)) (show 0 ≤ B - 1 by omega))
    show (vz B d n + d n * B ^ n) * (B - 1) ≤ M * (B ^ (n + 1) - 1)
    rw [Int.add_mul, Int.mul_assoc]
    have e : M * (B ^ (n + 1) - 1) = M * (B ^ n - 1) + M * (B ^ n * (B - 1)) := by rw [Int.pow_succ]; grind
    omega
section RR
variable {q kp ks : Nat} {fs : List Value} {h : HP} {K3 : HP → Nat → Nat → Nat → Nat → Int32 → Option (HP)} {t m u v : Nat} {U : Nat → Int64} {τ : Nat → Int}
theorem vz_ps {e : Nat → Int} {c : Int} : vz 65536 (fun k => dg 65536 e k + c * τ k) 16 = vz 65536 (dg 65536 e) 16 + c * vz 65536 τ 16 := by rw [vz_add, vz_mul]
theorem re_run0 {n f : Nat} {S : Nat → Int64} {e : Nat → Int} {top : Int} (hq : h[q]? = some (pO 8 fs)) (hf2 : fs[38]? = some (.ref ks)) (hks : h[ks]? = some (pJ 18 S)) (hu : h[u]? = some (pJ 256 U)) (n1 : ks ≠ q) (n3 : ks ≠ u) (s1 : ∀ k, k < 16 → S k = lZ (e k)) (s2 : ∀ k, k < 16 → 0 ≤ e k ∧ e k ≤ 2 ^ 40) (u1 : ∀ k, k < 16 → U k = lZ (τ k)) (hn : n < 9) (ht : 0 < top ∧ top < 2 ^ 60) (hV : vz 65536 e 16 < 2 ^ 256) :
    ∃ S' w K, L_Rm_reduce_82 K3 (f + 2) h q t m u (lZ top) (nI n) = B_Rm_reduce_190 K3 K (h.set ks (pJ 18 S')) q t m ∧ NM S' w ∧ (v : Int) ∣ vz 65536 e 16 - w := by
  obtain ⟨S', g1, g2⟩ := re_pass (K3 := K3) (t := t) (m := m) (f := f + 1) hq hf2 hks hu n1 n3 s1 s2 u1 hn ht
  have e2 := cy_sum (B := 65536) (s := e) 16
  have e3 := vz_ge (B := 65536) (d := dg 65536 e) (by decide) 16 (fun k _ => (dg_bd (by decide) k).1)
  have e4 := vz_lt (B := 65536) (d := dg 65536 e) (by decide) 16 (fun k _ => (dg_bd (by decide) k).2)
  have e5 := vz_ge (B := 65536) (d := e) (by decide) 16 (fun k hk => (s2 k hk).1)
  have c0 : cy 65536 e 16 = 0 := by omega
  rw [c0, re_ex] at g1
  refine ⟨S', (vz 65536 (dg 65536 e) 16).toNat, _, g1, ZM.nm (zm_dg (B := 65536) (s := e) (by decide) (fun k hk => ?_) ?_), ?_⟩
  · rw [g2 k hk, c0, Int.zero_mul, Int.add_zero]; rfl
  · rw [Int.toNat_of_nonneg e3]; exact e2.symm
  · rw [Int.toNat_of_nonneg e3]
    rw [show vz 65536 e 16 - vz 65536 (dg 65536 e) 16 = 0 by omega]
    exact Int.dvd_zero _
theorem re_nx {e : Nat → Int} {c M : Int} (hc : 0 ≤ c ∧ c ≤ M) (hM : M ≤ 2 ^ 21) (t2 : ∀ k, k < 16 → 0 ≤ τ k ∧ τ k < 65536) : ∀ k, k < 16 → 0 ≤ dg 65536 e k + c * τ k ∧ dg 65536 e k + c * τ k ≤ 2 ^ 40 := by
  intro k hk
  have b1 := dg_bd (B := 65536) (s := e) (by decide) k
  have b2 := t2 k hk
  have b3 := Int.mul_nonneg hc.1 b2.1
  have b4 := Int.mul_le_mul (show c ≤ 2 ^ 21 by omega) (show τ k ≤ 65535 by omega) b2.1 (by decide)
  omega
theorem re_run1 {n f : Nat} {S : Nat → Int64} {e : Nat → Int} {top : Int} (hq : h[q]? = some (pO 8 fs)) (hf2 : fs[38]? = some (.ref ks)) (hks : h[ks]? = some (pJ 18 S)) (hu : h[u]? = some (pJ 256 U)) (n1 : ks ≠ q) (n3 : ks ≠ u) (s1 : ∀ k, k < 16 → S k = lZ (e k)) (s2 : ∀ k, k < 16 → 0 ≤ e k ∧ e k ≤ 2 ^ 40) (u1 : ∀ k, k < 16 → U k = lZ (τ k)) (t2 : ∀ k, k < 16 → 0 ≤ τ k ∧ τ k < 65536) (hτ : vz 65536 τ 16 = 2 ^ 256 - v) (hv : 2 ^ 256 - 2 ^ 224 < v) (hn : n < 8) (ht : 0 < top ∧ top < 2 ^ 60) (hV : vz 65536 e 16 < 2 ^ 256 + 2 ^ 245) :
    ∃ S' w K, L_Rm_reduce_82 K3 (f + 3) h q t m u (lZ top) (nI n) = B_Rm_reduce_190 K3 K (h.set ks (pJ 18 S')) q t m ∧ NM S' w ∧ (v : Int) ∣ vz 65536 e 16 - w := by
  by_cases z : vz 65536 e 16 < 2 ^ 256
  · exact re_run0 (f := f + 1) hq hf2 hks hu n1 n3 s1 s2 u1 (by omega) ht z
  · obtain ⟨S1, g1, g2⟩ := re_pass (K3 := K3) (t := t) (m := m) (n := n) (f := f + 2) hq hf2 hks hu n1 n3 s1 s2 u1 (by omega) ht
    have e2 := cy_sum (B := 65536) (s := e) 16
    have e3 := vz_ge (B := 65536) (d := dg 65536 e) (by decide) 16 (fun k _ => (dg_bd (by decide) k).1)
    have e4 := vz_lt (B := 65536) (d := dg 65536 e) (by decide) 16 (fun k _ => (dg_bd (by decide) k).2)
    have c1 : cy 65536 e 16 = 1 := by omega
    have e6 := vz_ps (τ := τ) (e := e) (c := cy 65536 e 16)
    obtain ⟨S', w, K, k1, k2, k3⟩ := re_run0 (h := h.set ks (pJ 18 S1)) (K3 := K3) (t := t) (m := m) (v := v) (n := n + 1) (f := f) (top := cy 65536 e 16) (hn_ n1 hq) hf2 (hs_ hks) (hn_ n3 hu) n1 n3 g2 (re_nx (M := 1) (by omega) (by decide) t2) u1 (by omega) (by omega) (by rw [e6, hτ, c1]; omega)
    rw [hss] at k1
    refine ⟨S', w, K, g1.trans k1, k2, ?_⟩
    rw [e6, hτ, c1] at k3
    have := Int.dvd_add k3 (Int.dvd_refl (v : Int))
    rw [show vz 65536 e 16 - (w : Int) = vz 65536 (dg 65536 e) 16 + 1 * (2 ^ 256 - (v : Int)) - w + v by omega]
    exact this
theorem re_run2 {n f : Nat} {S : Nat → Int64} {e : Nat → Int} {top : Int} (hq : h[q]? = some (pO 8 fs)) (hf2 : fs[38]? = some (.ref ks)) (hks : h[ks]? = some (pJ 18 S)) (hu : h[u]? = some (pJ 256 U)) (n1 : ks ≠ q) (n3 : ks ≠ u) (s1 : ∀ k, k < 16 → S k = lZ (e k)) (s2 : ∀ k, k < 16 → 0 ≤ e k ∧ e k ≤ 2 ^ 40) (u1 : ∀ k, k < 16 → U k = lZ (τ k)) (t2 : ∀ k, k < 16 → 0 ≤ τ k ∧ τ k < 65536) (hτ : vz 65536 τ 16 = 2 ^ 256 - v) (hv : 2 ^ 256 - 2 ^ 224 < v) (hn : n < 7) (ht : 0 < top ∧ top < 2 ^ 60) (hV : vz 65536 e 16 < 2 ^ 256 * 1048577) :
    ∃ S' w K, L_Rm_reduce_82 K3 (f + 4) h q t m u (lZ top) (nI n) = B_Rm_reduce_190 K3 K (h.set ks (pJ 18 S')) q t m ∧ NM S' w ∧ (v : Int) ∣ vz 65536 e 16 - w := by
  by_cases z : vz 65536 e 16 < 2 ^ 256
  · exact re_run0 (f := f + 2) hq hf2 hks hu n1 n3 s1 s2 u1 (by omega) ht z
  · obtain ⟨S1, g1, g2⟩ := re_pass (K3 := K3) (t := t) (m := m) (n := n) (f := f + 3) hq hf2 hks hu n1 n3 s1 s2 u1 (by omega) ht
    have e2 := cy_sum (B := 65536) (s := e) 16
    have e3 := vz_ge (B := 65536) (d := dg 65536 e) (by decide) 16 (fun k _ => (dg_bd (by decide) k).1)
    have e4 := vz_lt (B := 65536) (d := dg 65536 e) (by decide) 16 (fun k _ => (dg_bd (by decide) k).2)
    have c1 : 1 ≤ cy 65536 e 16 ∧ cy 65536 e 16 ≤ 1048576 := by omega
    have e6 := vz_ps (τ := τ) (e := e) (c := cy 65536 e 16)
    have r0 := vz_ge (B := 65536) (d := τ) (by decide) 16 (fun k hk => (t2 k hk).1)
    have r1 := Int.mul_le_mul c1.2 (show vz 65536 τ 16 ≤ 2 ^ 224 by omega) r0 (by decide)
    obtain ⟨S', w, K, k1, k2, k3⟩ := re_run1 (h := h.set ks (pJ 18 S1)) (K3 := K3) (t := t) (m := m) (v := v) (n := n + 1) (f := f) (top := cy 65536 e 16) (hn_ n1 hq) hf2 (hs_ hks) (hn_ n3 hu) n1 n3 g2 (re_nx (M := 1048576) (by omega) (by decide) t2) u1 t2 hτ hv (by omega) (by omega) (by rw [e6]; omega)
    rw [hss] at k1
    refine ⟨S', w, K, g1.trans k1, k2, ?_⟩
    have := Int.dvd_add k3 (Int.dvd_mul_left (cy 65536 e 16) (v : Int))
    rw [e6, hτ] at this
    have e7 : vz 65536 e 16 - (w : Int) = vz 65536 (dg 65536 e) 16 + cy 65536 e 16 * (2 ^ 256 - (v : Int)) - w + cy 65536 e 16 * v := by
      rw [Int.mul_sub]
      omega
    rw [e7]
    exact this
end RR
