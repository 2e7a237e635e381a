/-! the reference's times: all of the product; reduce, its sums -/
section TN
variable {q kp ks : Nat} {fs : List Value}
theorem ti_27 {h0 : HP} {a b na nb : Nat} {A D : Nat → Int64} {ea eb : Nat → Int} {K3 : HP → Nat → Nat → Nat → Nat → Nat → Nat → Int32 → Option (HP)} {t m u : Nat} (hq : h0[q]? = some (pO 8 fs)) (hf : fs[37]? = some (.ref kp)) (nq : q ≠ kp) (na1 : a ≠ kp) (nb1 : b ≠ kp) (hna : 16 ≤ na) (hnb : 16 ≤ nb) (ha : h0[a]? = some (pJ na A)) (hb : h0[b]? = some (pJ nb D)) (a1 : ∀ k, k < 16 → A k = lZ (ea k)) (a2 : ∀ k, k < 16 → 0 ≤ ea k ∧ ea k < 65536) (b1 : ∀ k, k < 16 → D k = lZ (eb k)) (b2 : ∀ k, k < 16 → 0 ≤ eb k ∧ eb k < 65536) {T0 : Nat → Int64} (hkp : h0[kp]? = some (pJ 32 T0)) :
    ∀ (r i f : Nat) (T : Nat → Int64) (d : Nat → Int), r + i = 16 → r < f → (∀ k, k < 16 + i → T k = lZ (d k)) → (∀ k, k < 16 + i → 0 ≤ d k ∧ d k < 65536) → vz 65536 d (16 + i) = vz 65536 ea i * vz 65536 eb 16 →
      ∃ T' d', L_Rm_times_27 K3 f (h0.set kp (pJ 32 T)) q t a b m u (nI i) = P_Rm_reduce (h0.set kp (pJ 32 T')) q t m u ∧ (∀ k, k < 32 → T' k = lZ (d' k)) ∧ (∀ k, k < 32 → 0 ≤ d' k ∧ d' k < 65536) ∧ vz 65536 d' 32 = vz 65536 ea 16 * vz 65536 eb 16
  | 0, i, f, T, d, hr, hfu, d1, d2, d3 => by
    have : i = 16 := by omega
    subst this
    cases f with
    | zero => omega
    | succ f =>
      refine ⟨T, d, ?_, d1, d2, d3⟩
      show B_Rm_times_27 _ _ _ q t a b m u (nI 16) = _
      unfold B_Rm_times_27
      rw [if_pos (show (16 : Int32) ≤ nI 16 by decide)]
      refine (os_ (hn_ (Ne.symm nq) hq)).trans ?_
      cases P_Rm_reduce (h0.set kp (pJ 32 T)) q t m u <;> rfl
  | r + 1, i, f, T, d, hr, hfu, d1, d2, d3 => by
    cases f with
    | zero => omega
    | succ f =>
      obtain ⟨T', d', g1, g2, g3, g4⟩ := ti_in (K3 := K3) (K27 := L_Rm_times_27 K3 f) (t := t) (m := m) (u := u) (i := i) (by omega) (hn_ (Ne.symm nq) hq) hf (hs_ hkp) nq na1 nb1 hna hnb (hn_ (Ne.symm na1) ha) (hn_ (Ne.symm nb1) hb) a1 a2 b1 b2 d1 d2
      rw [hss] at g1
      obtain ⟨T'', d'', k1, k2, k3, k4⟩ := ti_27 hq hf nq na1 nb1 hna hnb ha hb a1 a2 b1 b2 hkp r (i + 1) f T' d' (by omega) (by omega) g2 g3 (by
        rw [g4, d3]
        show _ = (vz 65536 ea i + ea i * 65536 ^ i) * vz 65536 eb 16
        rw [Int.add_mul])
      refine ⟨T'', d'', ?_, k2, k3, k4⟩
      show B_Rm_times_27 K3 (L_Rm_times_27 K3 f) _ q t a b m u (nI i) = _
      unfold B_Rm_times_27
      rw [if_neg (show ¬ (16 : Int32) ≤ nI i from nI_ge (b := 16) (by omega) (by omega)), g1]
      exact k1
theorem vz_0 {B : Int} {d : Nat → Int} : ∀ n, (∀ k, k < n → d k = 0) → vz B d n = 0
  | 0, _ => rfl
  | n + 1, h => by
    show vz B d n + d n * B ^ n = 0
    rw [vz_0 n (fun k hk => h k (by omega)), h n (by omega), Int.zero_mul]
    rfl
theorem ti_all {h : HP} {a b na nb x y : Nat} {A D : Nat → Int64} {t m u : Nat} (hq : h[q]? = some (pO 8 fs)) (hf : fs[37]? = some (.ref kp)) (nq : q ≠ kp) (na1 : a ≠ kp) (nb1 : b ≠ kp) (hna : 16 ≤ na) (hnb : 16 ≤ nb) (ha : h[a]? = some (pJ na A)) (hb : h[b]? = some (pJ nb D)) (hA : NM A x) (hD : NM D y) {T0 : Nat → Int64} (hkp : h[kp]? = some (pJ 32 T0)) :
    ∃ T d, P_Rm_times h q t a b m u = P_Rm_reduce (h.set kp (pJ 32 T)) q t m u ∧ (∀ k, k < 32 → T k = lZ (d k)) ∧ (∀ k, k < 32 → 0 ≤ d k ∧ d k < 65536) ∧ vz 65536 d 32 = (x : Int) * y := by
  obtain ⟨ea, a1, a2, a3⟩ := hA.zm
  obtain ⟨eb, b1, b2, b3⟩ := hD.zm
  have a3 : vz 65536 ea 16 = x := a3
  have b3 : vz 65536 eb 16 = y := b3
  obtain ⟨T1, g1, g2, g3⟩ := rwl0 (n := 32) (fun _ => 0) (fun f h i => L_Rm_times_3 f h q t a b m u i) hkp (by
    intro i f T hi _ _
    show B_Rm_times_3 (L_Rm_times_3 f) _ q t a b m u (nI i) = _
    unfold B_Rm_times_3
    rw [if_neg (show ¬ (32 : Int32) ≤ nI i from nI_ge (b := 32) (by omega) (by omega))]
    refine (bs_ (gR_at (hn_ (Ne.symm nq) hq) hf)).trans ?_
    refine (bs_ (tJ_in i (hs_ hkp) rfl (by omega) (by omega))).trans ?_
    rw [hss]
    show L_Rm_times_3 f _ q t a b m u (nI i + Int32.ofInt 1) = _
    rw [nI_ofInt1]) (FU - 32)
  obtain ⟨T', d', k1, k2, k3, k4⟩ := ti_27 (K3 := L_Rm_times_3 (FU - 32 - 1)) (t := t) (m := m) (u := u) hq hf nq na1 nb1 hna hnb ha hb a1 (fun k hk => a2 k hk) b1 (fun k hk => b2 k hk) hkp 16 0 FU T1 (fun _ => 0) rfl (by decide) (fun k hk => g2 k (by omega)) (fun k _ => by decide) (by
    rw [vz_0 (16 + 0) (fun _ _ => rfl)]
    show (0 : Int) = 0 * _
    rw [Int.zero_mul])
  refine ⟨T', d', ?_, k2, k3, by rw [k4, a3, b3]⟩
  refine Eq.trans g1 ?_
  show B_Rm_times_3 (L_Rm_times_3 (FU - 32 - 1)) _ q t a b m u (nI 32) = _
  unfold B_Rm_times_3
  rw [if_pos (show (32 : Int32) ≤ nI 32 by decide)]
  exact k1
/-- the table of 2 ^ (256 + 16 k) mod v -/
def TT (U : Nat → Int64) (v : Nat) : Prop := ∀ k, k < 16 → NM (fun i => U (16 * k + i)) (2 ^ (256 + 16 * k) % v)
/-- sums of products -/
def sm (x y : Nat → Int) : Nat → Int
  | 0 => 0
  | n + 1 => sm x y n + x n * y n
theorem nI_mul (a b : Nat) : nI a * nI b = nI (a * b) := by
  show Int32.ofNat a * Int32.ofNat b = Int32.ofNat (a * b)
  rw [Int32.ofNat_mul]
theorem re_22 {h : HP} {K3 : HP → Nat → Nat → Nat → Nat → Int32 → Option (HP)} {t m u j : Nat} {T U S0 : Nat → Int64} {d : Nat → Int} {τ : Nat → Nat → Int} (hq : h[q]? = some (pO 8 fs)) (hf : fs[37]? = some (.ref kp)) (hf2 : fs[38]? = some (.ref ks)) (hkp : h[kp]? = some (pJ 32 T)) (hks : h[ks]? = some (pJ 18 S0)) (hu : h[u]? = some (pJ 256 U)) (d1 : ∀ k, k < 32 → T k = lZ (d k)) (u1 : ∀ i k, i < 16 → k < 16 → U (16 * i + k) = lZ (τ i k)) (hj : j < 16) :
    L_Rm_reduce_22 K3 FU h q t m u (nI j) (lZ (d j)) 0 = K3 (h.set ks (pJ 18 (va_up S0 j (lZ (d j + sm (fun i => d (16 + i)) (fun i => τ i j) 16))))) q t m u (nI (j + 1)) := by
  have g := acl (n := 16) (s := fun i => lZ (d j + sm (fun i => d (16 + i)) (fun i => τ i j) i)) (fun f s i => L_Rm_reduce_22 K3 f h q t m u (nI j) s i) (by
    intro i f hi
    show B_Rm_reduce_22 K3 (L_Rm_reduce_22 K3 f) h q t m u (nI j) (lZ (d j + sm (fun i => d (16 + i)) (fun i => τ i j) i)) (nI i) = L_Rm_reduce_22 K3 f h q t m u (nI j) (lZ (d j + (sm (fun i => d (16 + i)) (fun i => τ i j) i + d (16 + i) * τ i j))) (nI (i + 1))
    unfold B_Rm_reduce_22
    rw [if_neg (show ¬ (16 : Int32) ≤ nI i from nI_ge (b := 16) (by omega) (by omega))]
    refine (bs_ (gR_at hq hf)).trans ?_
    refine (bs_ (sJ_in (16 + i) hkp (show 16 + nI i = nI (16 + i) from nI_add 16 i) (by omega) (by omega))).trans ?_
    refine (bs_ (sJ_in (16 * i + j) hu (show 16 * nI i + nI j = nI (16 * i + j) by rw [← nI_add, ← nI_mul]; rfl) (by omega) (by omega))).trans ?_
    rw [d1 (16 + i) (by omega), u1 i j hi hj]
    refine lt_e.trans ?_
    rw [lZ_mul, lZ_add]
    show L_Rm_reduce_22 K3 f h q t m u (nI j) _ (nI i + Int32.ofInt 1) = _
    rw [nI_ofInt1, Int.add_assoc]) 16 0 (FU - 16) rfl
  have e0 : lZ (d j) = lZ (d j + sm (fun i => d (16 + i)) (fun i => τ i j) 0) := by
    show _ = lZ (d j + 0)
    rw [Int.add_zero]
  rw [e0]
  refine Eq.trans g ?_
  show B_Rm_reduce_22 K3 _ h q t m u (nI j) _ (nI 16) = _
  unfold B_Rm_reduce_22
  rw [if_pos (show (16 : Int32) ≤ nI 16 by decide)]
  refine (bs_ (gR_at hq hf2)).trans ?_
  refine (bs_ (tJ_in j hks rfl (by omega) (by omega))).trans ?_
  show K3 _ q t m u (nI j + Int32.ofInt 1) = _
  rw [nI_ofInt1]
theorem re_3 {h : HP} {t m u : Nat} {T U S0 : Nat → Int64} {d : Nat → Int} {τ : Nat → Nat → Int} (hq : h[q]? = some (pO 8 fs)) (hf : fs[37]? = some (.ref kp)) (hf2 : fs[38]? = some (.ref ks)) (hkp : h[kp]? = some (pJ 32 T)) (hks : h[ks]? = some (pJ 18 S0)) (hu : h[u]? = some (pJ 256 U)) (n1 : ks ≠ q) (n2 : ks ≠ kp) (n3 : ks ≠ u) (d1 : ∀ k, k < 32 → T k = lZ (d k)) (u1 : ∀ i k, i < 16 → k < 16 → U (16 * i + k) = lZ (τ i k)) :
    ∃ S, P_Rm_reduce h q t m u = L_Rm_reduce_82 (L_Rm_reduce_3 (FU - 16 - 1)) FU (h.set ks (pJ 18 S)) q t m u 1 0 ∧ ∀ k, k < 16 → S k = lZ (d k + sm (fun i => d (16 + i)) (fun i => τ i k) 16) := by
  obtain ⟨S, g1, g2, g3⟩ := rwl0 (n := 16) (fun k => lZ (d k + sm (fun i => d (16 + i)) (fun i => τ i k) 16)) (fun f h i => L_Rm_reduce_3 f h q t m u i) hks (by
    intro i f T' hi _ _
    show B_Rm_reduce_3 (L_Rm_reduce_3 f) _ q t m u (nI i) = _
    unfold B_Rm_reduce_3
    rw [if_neg (show ¬ (16 : Int32) ≤ nI i from nI_ge (b := 16) (by omega) (by omega))]
    refine (bs_ (gR_at (hn_ n1 hq) hf)).trans ?_
    refine (bs_ (sJ_in i (hn_ n2 hkp) rfl (by omega) (by omega))).trans ?_
    rw [d1 i (by omega), re_22 (hn_ n1 hq) hf hf2 (hn_ n2 hkp) (hs_ hks) (hn_ n3 hu) d1 u1 hi, hss]) (FU - 16)
  refine ⟨S, ?_, g2⟩
  refine Eq.trans g1 ?_
  show B_Rm_reduce_3 (L_Rm_reduce_3 (FU - 16 - 1)) _ q t m u (nI 16) = _
  unfold B_Rm_reduce_3
  rw [if_pos (show (16 : Int32) ≤ nI 16 by decide)]
end TN
