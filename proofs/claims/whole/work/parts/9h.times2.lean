/-! the reference's times -/
theorem p16 (i : Nat) : (65536 : Int) ^ 16 * 65536 ^ i = ((2 ^ (256 + 16 * i) : Nat) : Int) := by
  rw [Int.natCast_pow, Int.pow_add, Int.pow_mul]
  rfl
theorem dv_md (a v : Nat) : (v : Int) ∣ (a : Int) - ((a % v : Nat) : Int) := by
  refine ⟨((a / v : Nat) : Int), ?_⟩
  have h := Nat.div_add_mod a v
  have h2 : ((v * (a / v) + a % v : Nat) : Int) = (a : Int) := by rw [h]
  rw [Int.natCast_add, Int.natCast_mul] at h2
  omega
theorem dv_eq {v w : Nat} {W : Int} (h0 : 0 ≤ W) (h : (v : Int) ∣ W - (w : Int)) : w % v = W.toNat % v := by
  obtain ⟨k, hk⟩ := h
  have e : W = (w : Int) + v * k := by omega
  have e1 : ((W.toNat : Nat) : Int) = W := Int.toNat_of_nonneg h0
  apply Int.ofNat.inj
  show ((w % v : Nat) : Int) = ((W.toNat % v : Nat) : Int)
  rw [Int.natCast_emod, Int.natCast_emod, e1, e, Int.add_mul_emod_self_left]
theorem e_times {q kp ks : Nat} {fs : List Value} {h : HP} {t a b m u nt na nb nm x y v : Nat} {T A D M U P0 S0 : Nat → Int64} (hq : h[q]? = some (pO 8 fs)) (hf : fs[37]? = some (.ref kp)) (hf2 : fs[38]? = some (.ref ks)) (hkp : h[kp]? = some (pJ 32 P0)) (hks : h[ks]? = some (pJ 18 S0)) (ht : h[t]? = some (pJ nt T)) (ha : h[a]? = some (pJ na A)) (hb : h[b]? = some (pJ nb D)) (hm : h[m]? = some (pJ nm M)) (hu : h[u]? = some (pJ 256 U)) (lt' : 16 ≤ nt) (la : 16 ≤ na) (lb : 16 ≤ nb) (lm : 16 ≤ nm) (n1 : kp ≠ q) (n2 : ks ≠ q) (n3 : kp ≠ ks) (n4 : kp ≠ a) (n5 : kp ≠ b) (n6 : kp ≠ u) (n7 : ks ≠ u) (n8 : t ≠ q) (n9 : t ≠ ks) (n10 : t ≠ m) (n11 : kp ≠ t) (n12 : kp ≠ m) (n13 : ks ≠ m) (hA : NM A x) (hD : NM D y) (hM : NM M v) (hU : TT U v) (hv : 2 ^ 256 - 2 ^ 224 < v) :
    ∃ h', P_Rm_times h q t a b m u = some h' ∧ KP [kp, ks, t] h h' ∧ (∃ P', h'[kp]? = some (pJ 32 P')) ∧ (∃ S', h'[ks]? = some (pJ 18 S')) ∧ ∃ F', h'[t]? = some (pJ nt F') ∧ NM F' (x * y % v) ∧ ∀ k, 16 ≤ k → F' k = T k := by
  have lv := hM.zm.lt (by decide)
  have lx := hA.zm.lt (by decide)
  obtain ⟨P1, d, g1, d1, d2, d3⟩ := ti_all (t := t) (m := m) (u := u) hq hf (Ne.symm n1) (Ne.symm n4) (Ne.symm n5) la lb ha hb hA hD hkp
  obtain ⟨τ, hτ⟩ : ∃ τ : Nat → Nat → Int, ∀ i, i < 16 → (∀ k, k < 16 → U (16 * i + k) = lZ (τ i k)) ∧ (∀ k, k < 16 → 0 ≤ τ i k ∧ τ i k < 65536) ∧ vz 65536 (τ i) 16 = ((2 ^ (256 + 16 * i) % v : Nat) : Int) := by
    have ex : ∀ i, ∃ e : Nat → Int, i < 16 → (∀ k, k < 16 → U (16 * i + k) = lZ (e k)) ∧ (∀ k, k < 16 → 0 ≤ e k ∧ e k < 65536) ∧ vz 65536 e 16 = ((2 ^ (256 + 16 * i) % v : Nat) : Int) := by
      intro i
      by_cases z : i < 16
      · obtain ⟨e, e1, e2, e3⟩ := (hU i z).zm
        exact ⟨e, fun _ => ⟨e1, e2, e3⟩⟩
      · exact ⟨fun _ => 0, fun c => absurd c z⟩
    exact ⟨fun i => Classical.choose (ex i), fun i => Classical.choose_spec (ex i)⟩
  obtain ⟨S1, g2, g3⟩ := re_3 (h := h.set kp (pJ 32 P1)) (t := t) (m := m) (u := u) (d := d) (τ := τ) (hn_ n1 hq) hf hf2 (hs_ hkp) (hn_ n3 hks) (hn_ n6 hu) n2 (Ne.symm n3) n7 d1 (fun i k hi hk => (hτ i hi).1 k hk)
  obtain ⟨e, he⟩ : ∃ e : Nat → Int, e = fun k => d k + sm (fun i => d (16 + i)) (fun i => τ i k) 16 := ⟨_, rfl⟩
  have eb : ∀ k, k < 16 → 0 ≤ e k ∧ e k ≤ 68717445135 := by
    intro k hk
    rw [he]
    show 0 ≤ d k + sm (fun i => d (16 + i)) (fun i => τ i k) 16 ∧ d k + sm (fun i => d (16 + i)) (fun i => τ i k) 16 ≤ 68717445135
    have b1 := sm_bd (x := fun i => d (16 + i)) (y := fun i => τ i k) 16 (fun i hi => d2 (16 + i) (by omega)) (fun i hi => (hτ i hi).2.1 k hk)
    have b2 := d2 k (by omega)
    omega
  have ev : vz 65536 e 16 = vz 65536 d 16 + sm (fun i => d (16 + i)) (fun i => ((2 ^ (256 + 16 * i) % v : Nat) : Int)) 16 := by
    rw [he, vz_add, sm_vz, sm_eq 16 (fun i hi => (hτ i hi).2.2)]
  have eW : (v : Int) ∣ (x : Int) * y - vz 65536 e 16 := by
    rw [← d3, ev, show vz 65536 d 32 = vz 65536 d (16 + 16) from rfl, vz_sp 16 16, vz_sm (d := fun k => d (16 + k)) 16, sm_c 16]
    have := sm_dv (v := (v : Int)) (x := fun i => d (16 + i)) (y := fun i => (65536 : Int) ^ 16 * 65536 ^ i) (z := fun i => ((2 ^ (256 + 16 * i) % v : Nat) : Int)) (fun i => by rw [p16]; exact dv_md _ _) 16
    rw [show vz 65536 d 16 + sm (fun i => d (16 + i)) (fun i => (65536 : Int) ^ 16 * 65536 ^ i) 16 - (vz 65536 d 16 + sm (fun i => d (16 + i)) (fun i => ((2 ^ (256 + 16 * i) % v : Nat) : Int)) 16) = sm (fun i => d (16 + i)) (fun i => (65536 : Int) ^ 16 * 65536 ^ i) 16 - sm (fun i => d (16 + i)) (fun i => ((2 ^ (256 + 16 * i) % v : Nat) : Int)) 16 by omega]
    exact this
  have ub := vz_le (B := 65536) (M := 68717445135) (d := e) (by decide) 16 (fun k hk => (eb k hk).2)
  have hρ : vz 65536 (τ 0) 16 = 2 ^ 256 - (v : Int) := by
    rw [(hτ 0 (by decide)).2.2, show 256 + 16 * 0 = 256 from rfl, Nat.mod_eq_sub_mod (by omega), Nat.mod_eq_of_lt (by omega)]
    omega
  obtain ⟨S2, w, K, k1, k2, k3⟩ := re_run2 (K3 := L_Rm_reduce_3 (FU - 16 - 1)) (t := t) (m := m) (v := v) (τ := τ 0) (n := 0) (f := FU - 4) (e := e) (top := 1) (h := (h.set kp (pJ 32 P1)).set ks (pJ 18 S1)) (hn_ n2 (hn_ n1 hq)) hf2 (hs_ (hn_ n3 hks)) (hn_ n7 (hn_ n6 hu)) n2 n7 (fun k hk => by rw [he]; exact g3 k hk) (fun k hk => by have := eb k hk; omega) (fun k hk => by have := (hτ 0 (by decide)).1 k hk; rw [Nat.mul_zero, Nat.zero_add] at this; exact this) (fun k hk => (hτ 0 (by decide)).2.1 k hk) hρ hv (by decide) (by decide) (by omega)
  rw [hss] at k1
  have lw := k2.zm.lt (by decide)
  obtain ⟨F', r1, r2, r3⟩ := re_end (q := q) (ks := ks) (fs := fs) (h := (h.set kp (pJ 32 P1)).set ks (pJ 18 S2)) (K3 := L_Rm_reduce_3 (FU - 16 - 1)) (K82 := K) (t := t) (m := m) (nt := nt) (nm := nm) (T := T) (hn_ n2 (hn_ n1 hq)) hf2 (hs_ (hn_ n3 hks)) (hn_ (Ne.symm n9) (hn_ n11 ht)) (hn_ n13 (hn_ n12 hm)) lt' lm n8 n9 n10 k2 hM (by omega)
  refine ⟨_, g1.trans (g2.trans (k1.trans r1)), ?_, ⟨P1, ?_⟩, ⟨S2, ?_⟩, F', ?_, ?_, r3⟩
  · exact (KP.st (by simp)).tr ((KP.st (by simp)).tr (KP.st (by simp)))
  · exact hn_ (Ne.symm n11) (hn_ (Ne.symm n3) (hs_ hkp))
  · exact hn_ n9 (hs_ (hn_ n3 hks))
  · exact hs_ (hn_ (Ne.symm n9) (hn_ n11 ht))
  · have : w % v = x * y % v := by
      have h1 := Int.dvd_add eW k3
      rw [show (x : Int) * y - vz 65536 e 16 + (vz 65536 e 16 - w) = (x : Int) * y - w by omega] at h1
      have h2 := dv_eq (W := (x : Int) * y) (by rw [← Int.natCast_mul]; exact Int.natCast_nonneg _) h1
      rw [h2, ← Int.natCast_mul]
      rfl
    rw [← this]
    exact r2
