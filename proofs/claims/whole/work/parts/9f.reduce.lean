/-! the reference's reduce: the passes and the end -/
section RD
variable {q kp ks : Nat} {fs : List Value}
theorem lg_le0 {z : Int} (h1 : -2 ^ 63 ≤ z) (h2 : z < 2 ^ 63) : (lg_cmp (lZ z) 0 ≤ 0) ↔ z ≤ 0 := by
  rw [lg_cmp_le, Int64.le_iff_toInt_le, lZ_ti h1 h2]
  rfl
theorem re_pass {h : HP} {K3 : HP → Nat → Nat → Nat → Nat → Int32 → Option (HP)} {t m u n f : Nat} {U S : Nat → Int64} {e τ : Nat → Int} {top : Int} (hq : h[q]? = some (pO 8 fs)) (hf2 : fs[38]? = some (.ref ks)) (hks : h[ks]? = some (pJ 18 S)) (hu : h[u]? = some (pJ 256 U)) (n1 : ks ≠ q) (n3 : ks ≠ u) (s1 : ∀ k, k < 16 → S k = lZ (e k)) (s2 : ∀ k, k < 16 → 0 ≤ e k ∧ e k ≤ 2 ^ 40) (u1 : ∀ k, k < 16 → U k = lZ (τ k)) (hn : n < 9) (ht : 0 < top ∧ top < 2 ^ 60) :
    ∃ S', L_Rm_reduce_82 K3 (f + 1) h q t m u (lZ top) (nI n) = L_Rm_reduce_82 K3 f (h.set ks (pJ 18 S')) q t m u (lZ (cy 65536 e 16)) (nI (n + 1)) ∧ ∀ k, k < 16 → S' k = lZ (dg 65536 e k + cy 65536 e 16 * τ k) := by
  have bd := cy_bd (B := 65536) (lo := 0) (hi := 2 ^ 40) (s := e) (n := 16) (by decide) (by decide) (by decide) (fun k hk => by have := s2 k hk; omega)
  obtain ⟨S1, g1, g2, g3⟩ := cyl0 (B := 65536) (s := e) (n := 16) (fun f' h' c i => L_Rm_reduce_102 K3 (L_Rm_reduce_82 K3 f) f' h' q t m u (nI n) c i) hks (by
    intro i f' T hi hT
    have c1 := bd i (by omega)
    have c2 := s2 i hi
    show B_Rm_reduce_102 K3 (L_Rm_reduce_82 K3 f) (L_Rm_reduce_102 K3 (L_Rm_reduce_82 K3 f) f') _ q t m u (nI n) (lZ (cy 65536 e i)) (nI i) = L_Rm_reduce_102 K3 (L_Rm_reduce_82 K3 f) f' (h.set ks (pJ 18 (va_up T i (lZ ((cy 65536 e i + e i) % 65536))))) q t m u (nI n) (lZ ((cy 65536 e i + e i) / 65536)) (nI (i + 1))
    generalize cy 65536 e i = c at *
    unfold B_Rm_reduce_102
    rw [if_neg (show ¬ (16 : Int32) ≤ nI i from nI_ge (b := 16) (by omega) (by omega))]
    refine (bs_ (gR_at (hn_ n1 hq) hf2)).trans ?_
    refine (bs_ (sJ_in i (hs_ hks) rfl (by omega) (by omega))).trans ?_
    refine lt_e.trans ?_
    rw [hT i (Nat.le_refl _), s1 i hi, lZ_add, lZ_m16, lZ_s16 (by omega) (by omega)]
    refine (bs_ (gR_at (hn_ n1 hq) hf2)).trans ?_
    refine (bs_ (tJ_in i (hs_ hks) rfl (by omega) (by omega))).trans ?_
    rw [hss]
    show L_Rm_reduce_102 K3 (L_Rm_reduce_82 K3 f) f' _ q t m u (nI n) _ (nI i + Int32.ofInt 1) = _
    rw [nI_ofInt1]) (FU - 16)
  have hks1 : (h.set ks (pJ 18 S1))[ks]? = some (pJ 18 S1) := hs_ hks
  obtain ⟨S2, k1, k2, k3⟩ := rwl0 (n := 16) (fun k => lZ (dg 65536 e k + cy 65536 e 16 * τ k)) (fun f' h' i => L_Rm_reduce_154 K3 (L_Rm_reduce_82 K3 f) (L_Rm_reduce_102 K3 (L_Rm_reduce_82 K3 f) (FU - 16 - 1)) f' h' q t m u (lZ (cy 65536 e 16)) (nI n) i) hks1 (by
    intro i f' T hi _ hT
    show B_Rm_reduce_154 K3 (L_Rm_reduce_82 K3 f) (L_Rm_reduce_102 K3 (L_Rm_reduce_82 K3 f) (FU - 16 - 1)) (L_Rm_reduce_154 K3 (L_Rm_reduce_82 K3 f) (L_Rm_reduce_102 K3 (L_Rm_reduce_82 K3 f) (FU - 16 - 1)) f') _ q t m u (lZ (cy 65536 e 16)) (nI n) (nI i) = _
    unfold B_Rm_reduce_154
    rw [if_neg (show ¬ (16 : Int32) ≤ nI i from nI_ge (b := 16) (by omega) (by omega)), hss]
    refine (bs_ (gR_at (hn_ n1 hq) hf2)).trans ?_
    refine (bs_ (sJ_in i (hs_ hks) rfl (by omega) (by omega))).trans ?_
    refine (bs_ (sJ_in i (hn_ n3 hu) rfl (by omega) (by omega))).trans ?_
    rw [hT i (Nat.le_refl _), g2 i hi, u1 i hi, lZ_mul, lZ_add]
    refine (bs_ (tJ_in i (hs_ hks) rfl (by omega) (by omega))).trans ?_
    rw [hss, hss]
    show L_Rm_reduce_154 K3 (L_Rm_reduce_82 K3 f) (L_Rm_reduce_102 K3 (L_Rm_reduce_82 K3 f) (FU - 16 - 1)) f' _ q t m u (lZ (cy 65536 e 16)) (nI n) (nI i + Int32.ofInt 1) = _
    rw [nI_ofInt1]) (FU - 16)
  rw [hss] at k1
  refine ⟨S2, ?_, k2⟩
  show B_Rm_reduce_82 K3 (L_Rm_reduce_82 K3 f) h q t m u (lZ top) (nI n) = _
  unfold B_Rm_reduce_82
  rw [if_neg (show ¬ (9 : Int32) ≤ nI n from nI_ge (b := 9) (by omega) (by omega)), if_neg (fun c => by have := (lg_le0 (by omega) (by omega)).mp c; omega)]
  refine Eq.trans g1 ?_
  show B_Rm_reduce_102 K3 (L_Rm_reduce_82 K3 f) (L_Rm_reduce_102 K3 (L_Rm_reduce_82 K3 f) (FU - 16 - 1)) _ q t m u (nI n) _ (nI 16) = _
  unfold B_Rm_reduce_102
  rw [if_pos (show (16 : Int32) ≤ nI 16 by decide)]
  refine Eq.trans k1 ?_
  show B_Rm_reduce_154 K3 (L_Rm_reduce_82 K3 f) _ _ _ q t m u _ (nI n) (nI 16) = _
  unfold B_Rm_reduce_154
  rw [if_pos (show (16 : Int32) ≤ nI 16 by decide)]
  show L_Rm_reduce_82 K3 f _ q t m u _ (nI n + Int32.ofInt 1) = _
  rw [nI_ofInt1]
theorem re_end {h : HP} {K3 : HP → Nat → Nat → Nat → Nat → Int32 → Option (HP)} {K82 : HP → Nat → Nat → Nat → Nat → Int64 → Int32 → Option (HP)} {t m nt nm w v : Nat} {S T M : Nat → Int64} (hq : h[q]? = some (pO 8 fs)) (hf2 : fs[38]? = some (.ref ks)) (hks : h[ks]? = some (pJ 18 S)) (ht : h[t]? = some (pJ nt T)) (hm : h[m]? = some (pJ nm M)) (hnt : 16 ≤ nt) (hnm : 16 ≤ nm) (n1 : t ≠ q) (n2 : t ≠ ks) (n3 : t ≠ m) (hS : NM S w) (hM : NM M v) (hv : w < 2 * v) :
    ∃ F', B_Rm_reduce_190 K3 K82 h q t m = some (h.set t (pJ nt F')) ∧ NM F' (w % v) ∧ ∀ k, 16 ≤ k → F' k = T k := by
  obtain ⟨T1, g1, g2, g3⟩ := rwl0 (n := 16) S (fun f h i => L_Rm_reduce_193 K3 K82 f h q t m i) ht (by
    intro i f T' hi _ _
    show B_Rm_reduce_193 K3 K82 (L_Rm_reduce_193 K3 K82 f) _ q t m (nI i) = _
    unfold B_Rm_reduce_193
    rw [if_neg (show ¬ (16 : Int32) ≤ nI i from nI_ge (b := 16) (by omega) (by omega))]
    refine (bs_ (gR_at (hn_ n1 hq) hf2)).trans ?_
    refine (bs_ (sJ_in i (hn_ n2 hks) rfl (by omega) (by omega))).trans ?_
    refine (bs_ (tJ_in i (hs_ ht) rfl (by omega) (by omega))).trans ?_
    rw [hss]
    show L_Rm_reduce_193 K3 K82 f _ q t m (nI i + Int32.ofInt 1) = _
    rw [nI_ofInt1]) (FU - 16)
  have nT : NM T1 w := hS.eq g2
  have ht1 : (h.set t (pJ nt T1))[t]? = some (pJ nt T1) := hs_ ht
  have hm1 : (h.set t (pJ nt T1))[m]? = some (pJ nm M) := hn_ n3 hm
  have st : B_Rm_reduce_190 K3 K82 h q t m = L_Rm_reduce_220 K3 K82 (L_Rm_reduce_193 K3 K82 (FU - 16 - 1)) FU (h.set t (pJ nt T1)) t m 0 := by
    refine Eq.trans g1 ?_
    show B_Rm_reduce_193 K3 K82 (L_Rm_reduce_193 K3 K82 (FU - 16 - 1)) _ q t m (nI 16) = _
    unfold B_Rm_reduce_193
    rw [if_pos (show (16 : Int32) ≤ nI 16 by decide)]
  rw [st]
  generalize L_Rm_reduce_193 K3 K82 (FU - 16 - 1) = K193
  obtain ⟨f, hf⟩ : ∃ f, FU = f + 1 + 1 := ⟨FU - 2, rfl⟩
  rw [hf]
  show ∃ F', B_Rm_reduce_220 K3 K82 K193 (L_Rm_reduce_220 K3 K82 K193 (f + 1)) (h.set t (pJ nt T1)) t m 0 = _ ∧ _
  unfold B_Rm_reduce_220
  rw [if_neg (show ¬ (16 : Int32) ≤ 0 by decide), bs2 (e_below hnt hnm ht1 hm1 nT hM)]
  by_cases z : w < v
  · refine ⟨T1, ?_, by rw [Nat.mod_eq_of_lt z]; exact nT, g3⟩
    rw [decide_eq_true z, if_neg (show ¬ bi true = 0 by decide)]
    rfl
  · obtain ⟨F2, q1, q2, q3⟩ := e_lessG (t := t) (a := t) (b := m) hnt hnt hnm ht1 ht1 hm1 nT hM
    rw [if_pos (show v ≤ w by omega)] at q2
    refine ⟨F2, ?_, by rw [Nat.mod_eq_sub_mod (by omega), Nat.mod_eq_of_lt (by omega)]; exact q2, fun k hk => (q3 k hk).trans (g3 k hk)⟩
    rw [decide_eq_false z, if_pos (show bi false = 0 by decide), bs_ q1, hss]
    have ht2 : (h.set t (pJ nt F2))[t]? = some (pJ nt F2) := hs_ ht
    have hm2 : (h.set t (pJ nt F2))[m]? = some (pJ nm M) := hn_ n3 hm
    show B_Rm_reduce_220 K3 K82 K193 (L_Rm_reduce_220 K3 K82 K193 f) (h.set t (pJ nt F2)) t m (0 + Int32.ofInt 1) = _
    unfold B_Rm_reduce_220
    rw [if_neg (show ¬ (16 : Int32) ≤ 0 + Int32.ofInt 1 by decide), bs2 (e_below hnt hnm ht2 hm2 q2 hM), decide_eq_true (by omega), if_neg (show ¬ bi true = 0 by decide)]
    rfl
theorem re_ex {h : HP} {K3 : HP → Nat → Nat → Nat → Nat → Int32 → Option (HP)} {t m u n f : Nat} : L_Rm_reduce_82 K3 (f + 1) h q t m u (lZ 0) (nI n) = B_Rm_reduce_190 K3 (L_Rm_reduce_82 K3 f) h q t m := by
  show B_Rm_reduce_82 K3 (L_Rm_reduce_82 K3 f) h q t m u (lZ 0) (nI n) = _
  unfold B_Rm_reduce_82
  rw [if_pos (show lg_cmp (lZ 0) 0 ≤ 0 by decide)]
  split <;> rfl
end RD
theorem sm_bd {x y : Nat → Int} : ∀ n, (∀ k, k < n → 0 ≤ x k ∧ x k < 65536) → (∀ k, k < n → 0 ≤ y k ∧ y k < 65536) → 0 ≤ sm x y n ∧ sm x y n ≤ n * 4294836225
  | 0, _, _ => ⟨(by decide : (0 : Int) ≤ 0), (by decide : (0 : Int) ≤ ((0 : Nat) : Int) * 4294836225)⟩
  | n + 1, hx, hy => by
    have ih := sm_bd n (fun k hk => hx k (by omega)) (fun k hk => hy k (by omega))
    have e1 := hx n (by omega)
    have e2 := hy n (by omega)
    have e4 := Int.mul_nonneg e1.1 e2.1
    have e5 := Int.mul_le_mul (show x n ≤ 65535 by omega) (show y n ≤ 65535 by omega) e2.1 (by decide)
    show 0 ≤ sm x y n + x n * y n ∧ sm x y n + x n * y n ≤ ((n + 1 : Nat) : Int) * 4294836225
    omega
theorem sm_vz {B : Int} {x : Nat → Int} {τ : Nat → Nat → Int} (m : Nat) : ∀ n, vz B (fun k => sm x (fun i => τ i k) n) m = sm x (fun i => vz B (τ i) m) n
  | 0 => vz_0 m (fun _ _ => rfl)
  | n + 1 => by
    show vz B (fun k => sm x (fun i => τ i k) n + x n * τ n k) m = sm x (fun i => vz B (τ i) m) n + x n * vz B (τ n) m
    rw [vz_add, sm_vz m n, vz_mul]
theorem sm_dv {v : Int} {x y z : Nat → Int} (h : ∀ i, v ∣ y i - z i) : ∀ n, v ∣ sm x y n - sm x z n
  | 0 => by show v ∣ (0 : Int) - 0; exact Int.dvd_zero v
  | n + 1 => by
    have h1 := Int.dvd_add (sm_dv (x := x) h n) (Int.dvd_mul_of_dvd_right (b := x n) (h n))
    show v ∣ sm x y n + x n * y n - (sm x z n + x n * z n)
    rw [Int.mul_sub] at h1
    rw [show sm x y n + x n * y n - (sm x z n + x n * z n) = sm x y n - sm x z n + (x n * y n - x n * z n) by omega]
    exact h1
theorem sm_c {c : Int} {x y : Nat → Int} : ∀ n, c * sm x y n = sm x (fun i => c * y i) n
  | 0 => Int.mul_zero c
  | n + 1 => by
    show c * (sm x y n + x n * y n) = sm x (fun i => c * y i) n + x n * (c * y n)
    rw [Int.mul_add, sm_c n, Int.mul_left_comm]
theorem vz_sm {B : Int} {d : Nat → Int} : ∀ n, vz B d n = sm d (fun i => B ^ i) n
  | 0 => rfl
  | n + 1 => by
    show vz B d n + _ = sm d _ n + _
    rw [vz_sm n]
