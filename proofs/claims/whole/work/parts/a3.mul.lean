/-! the class's multiply and subtract (written by mka3.py) -/
theorem cw_bd {x y : Nat → Int} (hx : ∀ k, k < 9 → 0 ≤ x k ∧ x k < 536870912) (hy : ∀ k, k < 9 → 0 ≤ y k ∧ y k < 536870912) : ∀ k, k < 17 → 0 ≤ cw x y k ∧ cw x y k ≤ 2594073375701729289 := by
  have x0 := hx 0 (by decide)
  have y0 := hy 0 (by decide)
  have x1 := hx 1 (by decide)
  have y1 := hy 1 (by decide)
  have x2 := hx 2 (by decide)
  have y2 := hy 2 (by decide)
  have x3 := hx 3 (by decide)
  have y3 := hy 3 (by decide)
  have x4 := hx 4 (by decide)
  have y4 := hy 4 (by decide)
  have x5 := hx 5 (by decide)
  have y5 := hy 5 (by decide)
  have x6 := hx 6 (by decide)
  have y6 := hy 6 (by decide)
  have x7 := hx 7 (by decide)
  have y7 := hy 7 (by decide)
  have x8 := hx 8 (by decide)
  have y8 := hy 8 (by decide)
  intro k hk
  have : k = 0 ∨ k = 1 ∨ k = 2 ∨ k = 3 ∨ k = 4 ∨ k = 5 ∨ k = 6 ∨ k = 7 ∨ k = 8 ∨ k = 9 ∨ k = 10 ∨ k = 11 ∨ k = 12 ∨ k = 13 ∨ k = 14 ∨ k = 15 ∨ k = 16 := by omega
  rcases this with rfl | rfl | rfl | rfl | rfl | rfl | rfl | rfl | rfl | rfl | rfl | rfl | rfl | rfl | rfl | rfl | rfl
  · exact wk_ _ (pb_ x0 y0) (by decide)
  · exact wk_ _ (ab_ (pb_ x0 y1) (pb_ x1 y0)) (by decide)
  · exact wk_ _ (ab_ (ab_ (pb_ x0 y2) (pb_ x1 y1)) (pb_ x2 y0)) (by decide)
  · exact wk_ _ (ab_ (ab_ (ab_ (pb_ x0 y3) (pb_ x1 y2)) (pb_ x2 y1)) (pb_ x3 y0)) (by decide)
  · exact wk_ _ (ab_ (ab_ (ab_ (ab_ (pb_ x0 y4) (pb_ x1 y3)) (pb_ x2 y2)) (pb_ x3 y1)) (pb_ x4 y0)) (by decide)
  · exact wk_ _ (ab_ (ab_ (ab_ (ab_ (ab_ (pb_ x0 y5) (pb_ x1 y4)) (pb_ x2 y3)) (pb_ x3 y2)) (pb_ x4 y1)) (pb_ x5 y0)) (by decide)
  · exact wk_ _ (ab_ (ab_ (ab_ (ab_ (ab_ (ab_ (pb_ x0 y6) (pb_ x1 y5)) (pb_ x2 y4)) (pb_ x3 y3)) (pb_ x4 y2)) (pb_ x5 y1)) (pb_ x6 y0)) (by decide)
  · exact wk_ _ (ab_ (ab_ (ab_ (ab_ (ab_ (ab_ (ab_ (pb_ x0 y7) (pb_ x1 y6)) (pb_ x2 y5)) (pb_ x3 y4)) (pb_ x4 y3)) (pb_ x5 y2)) (pb_ x6 y1)) (pb_ x7 y0)) (by decide)
  · exact wk_ _ (ab_ (ab_ (ab_ (ab_ (ab_ (ab_ (ab_ (ab_ (pb_ x0 y8) (pb_ x1 y7)) (pb_ x2 y6)) (pb_ x3 y5)) (pb_ x4 y4)) (pb_ x5 y3)) (pb_ x6 y2)) (pb_ x7 y1)) (pb_ x8 y0)) (by decide)
  · exact wk_ _ (ab_ (ab_ (ab_ (ab_ (ab_ (ab_ (ab_ (pb_ x1 y8) (pb_ x2 y7)) (pb_ x3 y6)) (pb_ x4 y5)) (pb_ x5 y4)) (pb_ x6 y3)) (pb_ x7 y2)) (pb_ x8 y1)) (by decide)
  · exact wk_ _ (ab_ (ab_ (ab_ (ab_ (ab_ (ab_ (pb_ x2 y8) (pb_ x3 y7)) (pb_ x4 y6)) (pb_ x5 y5)) (pb_ x6 y4)) (pb_ x7 y3)) (pb_ x8 y2)) (by decide)
  · exact wk_ _ (ab_ (ab_ (ab_ (ab_ (ab_ (pb_ x3 y8) (pb_ x4 y7)) (pb_ x5 y6)) (pb_ x6 y5)) (pb_ x7 y4)) (pb_ x8 y3)) (by decide)
  · exact wk_ _ (ab_ (ab_ (ab_ (ab_ (pb_ x4 y8) (pb_ x5 y7)) (pb_ x6 y6)) (pb_ x7 y5)) (pb_ x8 y4)) (by decide)
  · exact wk_ _ (ab_ (ab_ (ab_ (pb_ x5 y8) (pb_ x6 y7)) (pb_ x7 y6)) (pb_ x8 y5)) (by decide)
  · exact wk_ _ (ab_ (ab_ (pb_ x6 y8) (pb_ x7 y7)) (pb_ x8 y6)) (by decide)
  · exact wk_ _ (ab_ (pb_ x7 y8) (pb_ x8 y7)) (by decide)
  · exact wk_ _ (pb_ x8 y8) (by decide)
theorem cw_vz {x y : Nat → Int} : vz 536870912 (cw x y) 17 = vz 536870912 x 9 * vz 536870912 y 9 := by
  show (((((((((((((((((0 + (x 0 * y 0) * 536870912 ^ 0) + (x 0 * y 1 + x 1 * y 0) * 536870912 ^ 1) + (x 0 * y 2 + x 1 * y 1 + x 2 * y 0) * 536870912 ^ 2) + (x 0 * y 3 + x 1 * y 2 + x 2 * y 1 + x 3 * y 0) * 536870912 ^ 3) + (x 0 * y 4 + x 1 * y 3 + x 2 * y 2 + x 3 * y 1 + x 4 * y 0) * 536870912 ^ 4) + (x 0 * y 5 + x 1 * y 4 + x 2 * y 3 + x 3 * y 2 + x 4 * y 1 + x 5 * y 0) * 536870912 ^ 5) + (x 0 * y 6 + x 1 * y 5 + x 2 * y 4 + x 3 * y 3 + x 4 * y 2 + x 5 * y 1 + x 6 * y 0) * 536870912 ^ 6) + (x 0 * y 7 + x 1 * y 6 + x 2 * y 5 + x 3 * y 4 + x 4 * y 3 + x 5 * y 2 + x 6 * y 1 + x 7 * y 0) * 536870912 ^ 7) + (x 0 * y 8 + x 1 * y 7 + x 2 * y 6 + x 3 * y 5 + x 4 * y 4 + x 5 * y 3 + x 6 * y 2 + x 7 * y 1 + x 8 * y 0) * 536870912 ^ 8) + (x 1 * y 8 + x 2 * y 7 + x 3 * y 6 + x 4 * y 5 + x 5 * y 4 + x 6 * y 3 + x 7 * y 2 + x 8 * y 1) * 536870912 ^ 9) + (x 2 * y 8 + x 3 * y 7 + x 4 * y 6 + x 5 * y 5 + x 6 * y 4 + x 7 * y 3 + x 8 * y 2) * 536870912 ^ 10) + (x 3 * y 8 + x 4 * y 7 + x 5 * y 6 + x 6 * y 5 + x 7 * y 4 + x 8 * y 3) * 536870912 ^ 11) + (x 4 * y 8 + x 5 * y 7 + x 6 * y 6 + x 7 * y 5 + x 8 * y 4) * 536870912 ^ 12) + (x 5 * y 8 + x 6 * y 7 + x 7 * y 6 + x 8 * y 5) * 536870912 ^ 13) + (x 6 * y 8 + x 7 * y 7 + x 8 * y 6) * 536870912 ^ 14) + (x 7 * y 8 + x 8 * y 7) * 536870912 ^ 15) + (x 8 * y 8) * 536870912 ^ 16) = (((((((((0 + x 0 * 536870912 ^ 0) + x 1 * 536870912 ^ 1) + x 2 * 536870912 ^ 2) + x 3 * 536870912 ^ 3) + x 4 * 536870912 ^ 4) + x 5 * 536870912 ^ 5) + x 6 * 536870912 ^ 6) + x 7 * 536870912 ^ 7) + x 8 * 536870912 ^ 8) * (((((((((0 + y 0 * 536870912 ^ 0) + y 1 * 536870912 ^ 1) + y 2 * 536870912 ^ 2) + y 3 * 536870912 ^ 3) + y 4 * 536870912 ^ 4) + y 5 * 536870912 ^ 5) + y 6 * 536870912 ^ 6) + y 7 * 536870912 ^ 7) + y 8 * 536870912 ^ 8)
  rw [Int.zero_add, Int.zero_add, Int.zero_add]
  exact cw_id (B := 536870912)
theorem mm_bd {x y v F r X : Int} (hx : 0 ≤ x ∧ x < v) (hy : 0 ≤ y ∧ y < v) (hF : 0 ≤ F ∧ F < X) (hv : v < X) (e : x * y + F * v = X * r) (hX : X = 2 ^ 261) : r < 2 * v := by
  have h1 := Int.mul_le_mul (show x ≤ v - 1 by omega) (show y ≤ v by omega) hy.1 (by omega)
  have h2 := Int.mul_le_mul_of_nonneg_right (show F ≤ X - 1 by omega) (show 0 ≤ v by omega)
  have h3 := Int.mul_le_mul_of_nonneg_right (show v - 1 ≤ X by omega) (show 0 ≤ v by omega)
  rw [Int.sub_mul] at h2
  subst hX
  omega
theorem mm_md {x y v r : Nat} {F : Int} (e : (x : Int) * y + F * v = 2 ^ 261 * r) : (r % v) * 2 ^ 261 % v = x * y % v := by
  rw [Nat.mul_mod, Nat.mod_mod, ← Nat.mul_mod]
  apply Int.ofNat.inj
  show ((r * 2 ^ 261 % v : Nat) : Int) = ((x * y % v : Nat) : Int)
  rw [Int.natCast_emod, Int.natCast_emod, Int.natCast_mul, Int.natCast_mul, show ((r : Int) * ((2 ^ 261 : Nat) : Int)) = x * y + F * v by rw [e, Int.mul_comm]; rfl, Int.add_mul_emod_self_right]
section MM
variable {m kp kw ks a b t : Nat} {fs : List Value} {h : HP} {A D T P S W : Nat → Int64} {x y v : Nat} {li : Int}
theorem e_mmul (hm : h[m]? = some (pO 1 fs)) (g0 : fs[0]? = some (.ref kp)) (g5 : fs[5]? = some (.long (lZ li))) (g6 : fs[6]? = some (.ref kw)) (g7 : fs[7]? = some (.ref ks)) (ht : h[t]? = some (pJ 9 T)) (ha : h[a]? = some (pJ 9 A)) (hb : h[b]? = some (pJ 9 D)) (hp : h[kp]? = some (pJ 9 P)) (hw : h[kw]? = some (pJ 17 W)) (hs : h[ks]? = some (pJ 9 S)) (n1 : kw ≠ m) (n2 : ks ≠ m) (n3 : kw ≠ kp) (n4 : ks ≠ kp) (n5 : kw ≠ ks) (n6 : t ≠ m) (n7 : t ≠ kp) (n8 : t ≠ kw) (n9 : t ≠ ks) (hA : ZM 536870912 9 A x) (hD : ZM 536870912 9 D y) (hP : ZM 536870912 9 P v) (hx : x < v) (hy : y < v) (hv : v < 2 ^ 256) (hl : ∀ e : Int, P 0 = lZ e → 0 ≤ e → e < 536870912 → (li * e + 1) % 536870912 = 0) :
    ∃ h' z, P_Mo_multiply h m a b t = some h' ∧ KP [kw, ks, t] h h' ∧ (∃ W', h'[kw]? = some (pJ 17 W')) ∧ (∃ S', h'[ks]? = some (pJ 9 S')) ∧ ∃ T', h'[t]? = some (pJ 9 T') ∧ ZM 536870912 9 T' z ∧ z < v ∧ z * 2 ^ 261 % v = x * y % v := by
  obtain ⟨ea, a1, a2, a3⟩ := hA
  obtain ⟨eb, b1, b2, b3⟩ := hD
  have hP0 := hP
  obtain ⟨ep, p1, p2, p3⟩ := hP
  have a3 : vz 536870912 ea 9 = x := a3
  have b3 : vz 536870912 eb 9 = y := b3
  have p3 : vz 536870912 ep 9 = v := p3
  obtain ⟨W1, c1, c2⟩ := e_fillWide hm g6 ha hb hw n1 a1 b1
  obtain ⟨T1, e, f, d1, d2, d3, d4, d5, d6⟩ := e_foldWide (h := h.set kw (pJ 17 W1)) (li := li) (hn_ n1 hm) g0 g5 g6 (hn_ n3 hp) (hs_ hw) (hn_ (Ne.symm n8) ht) n6 n8 p1 p2 c2 (cw_bd a2 b2) (hl (ep 0) (p1 0 (by decide)) (p2 0 (by decide)).1 (p2 0 (by decide)).2)
  rw [cw_vz, a3, b3, p3] at d6
  have f1 := vz_ge (B := 536870912) (d := f) (by decide) 9 (fun k hk => (d5 k hk).1)
  have f2 := vz_lt (B := 536870912) (d := f) (by decide) 9 (fun k hk => (d5 k hk).2)
  have r1 := mm_bd (x := (x : Int)) (y := (y : Int)) (v := (v : Int)) (F := vz 536870912 f 9) (r := vz 536870912 e 9) (X := 536870912 ^ 9) (by omega) (by omega) ⟨f1, f2⟩ (by omega) d6 (by decide)
  have e8 : vz 536870912 e 9 = vz 536870912 e 8 + e 8 * 536870912 ^ 8 := rfl
  have e9 := vz_ge (B := 536870912) (d := e) (by decide) 8 (fun k hk => (d3 k hk).1)
  have r0 : 0 ≤ vz 536870912 e 9 := by omega
  have nT : ZM 536870912 9 T1 (vz 536870912 e 9).toNat := by
    refine ⟨e, d2, fun k hk => ?_, (Int.toNat_of_nonneg r0).symm⟩
    by_cases z : k = 8
    · subst z
      refine ⟨d4, ?_⟩
      show e 8 < 536870912
      omega
    · exact d3 k (by omega)
  obtain ⟨h', k1, k2, k3, T2, k4, k5⟩ := e_reduceOnce (h := (h.set kw (pJ 17 W1)).set t (pJ 9 T1)) (a := t) (hn_ n6 (hn_ n1 hm)) g0 g7 (hs_ (hn_ (Ne.symm n8) ht)) (hn_ n7 (hn_ n3 hp)) (hn_ n9 (hn_ n5 hs)) n2 n4 (Ne.symm n9) nT hP0 (by omega)
  refine ⟨h', (vz 536870912 e 9).toNat % v, ?_, ?_, ⟨W1, ?_⟩, k3, T2, k4, k5, Nat.mod_lt _ (by omega), mm_md (F := vz 536870912 f 9) (by rw [Int.toNat_of_nonneg r0]; exact d6)⟩
  · unfold P_Mo_multiply
    rw [os_ hm, bs_ c1, os_ (hn_ n1 hm), bs_ d1, os_ (hn_ n6 (hn_ n1 hm)), bs_ k1]
  · exact (KP.st (by simp)).tr ((KP.st (by simp)).tr (k2.up (by simp)))
  · rw [k2.2 kw (by simp; exact ⟨n5, Ne.symm n8⟩)]
    exact hn_ n8 (hs_ hw)
theorem e_addPrime (hm : h[m]? = some (pO 1 fs)) (g0 : fs[0]? = some (.ref kp)) (ht : h[t]? = some (pJ 9 T)) (hp : h[kp]? = some (pJ 9 P)) (n6 : t ≠ m) (n7 : t ≠ kp) (hA : ZM 536870912 9 T x) (hP : ZM 536870912 9 P v) :
    ∃ T' z, P_Mo_addPrime h m t = some (h.set t (pJ 9 T')) ∧ ZM 536870912 9 T' z ∧ (x + v = z ∨ x + v = z + 2 ^ 261) := by
  have l1 := hA.lt (by decide)
  have l2 := hP.lt (by decide)
  obtain ⟨ea, a1, a2, a3⟩ := hA
  obtain ⟨eb, b1, b2, b3⟩ := hP
  have a3 : vz 536870912 ea 9 = x := a3
  have b3 : vz 536870912 eb 9 = v := b3
  have bd := cy_bd (B := 536870912) (lo := 0) (hi := 1) (s := fun i => ea i + eb i) (n := 9) (by decide) (by decide) (by decide) (fun k hk => by have := a2 k hk; have := b2 k hk; omega)
  obtain ⟨T', g1, g2, g3⟩ := cyl0 (B := 536870912) (s := fun i => ea i + eb i) (n := 9) (fun f h c i => L_Mo_addPrime_5 f h m t c i) ht (by
    intro i f T2 hi hT
    have c1 := bd i (by omega)
    have c2 := a2 i hi
    have c3 := b2 i hi
    show B_Mo_addPrime_5 (L_Mo_addPrime_5 f) _ m t (lZ (cy 536870912 (fun i => ea i + eb i) i)) (nI i) = L_Mo_addPrime_5 f (h.set t (pJ 9 (va_up T2 i (lZ ((cy 536870912 (fun i => ea i + eb i) i + (ea i + eb i)) % 536870912))))) m t (lZ ((cy 536870912 (fun i => ea i + eb i) i + (ea i + eb i)) / 536870912)) (nI (i + 1))
    generalize cy 536870912 (fun i => ea i + eb i) i = c at *
    unfold B_Mo_addPrime_5
    rw [if_neg (show ¬ (9 : Int32) ≤ nI i from nI_ge (b := 9) (by omega) (by omega))]
    refine (bs_ (ld_al i ht ht (hT i (Nat.le_refl _)) rfl (by omega) (by omega))).trans ?_
    refine (bs_ (gR_at (hn_ n6 hm) g0)).trans ?_
    refine (bs_ (sJ_in i (hn_ n7 hp) rfl (by omega) (by omega))).trans ?_
    refine lt_e.trans ?_
    rw [a1 i hi, b1 i hi, lZ_add, lZ_add, lZ_m29, lZ_s29 (by omega) (by omega)]
    refine (bs_ (tJ_in i (hs_ ht) rfl (by omega) (by omega))).trans ?_
    rw [hss]
    show L_Mo_addPrime_5 f _ m t _ (nI i + Int32.ofInt 1) = _
    rw [nI_ofInt1]) (FU - 9)
  have c1 := bd 9 (by omega)
  have e1 : vz 536870912 (fun i => ea i + eb i) 9 = (x : Int) + v := by rw [vz_add]; omega
  have e2 := cy_sum (B := 536870912) (s := fun i => ea i + eb i) 9
  have e3 := vz_ge (B := 536870912) (d := dg 536870912 (fun i => ea i + eb i)) (by decide) 9 (fun k _ => (dg_bd (by decide) k).1)
  refine ⟨T', (vz 536870912 (dg 536870912 (fun i => ea i + eb i)) 9).toNat, ?_, zm_dg (B := 536870912) (by decide) g2 (by rw [Int.toNat_of_nonneg e3]; exact e2.symm), by omega⟩
  refine Eq.trans g1 ?_
  show B_Mo_addPrime_5 _ _ m t _ (nI 9) = _
  unfold B_Mo_addPrime_5
  rw [if_pos (show (9 : Int32) ≤ nI 9 by decide)]
theorem e_msub (hm : h[m]? = some (pO 1 fs)) (g0 : fs[0]? = some (.ref kp)) (ht : h[t]? = some (pJ 9 T)) (ha : h[a]? = some (pJ 9 A)) (hb : h[b]? = some (pJ 9 D)) (hp : h[kp]? = some (pJ 9 P)) (n4 : t ≠ m) (n5 : t ≠ kp) (hA : ZM 536870912 9 A x) (hD : ZM 536870912 9 D y) (hP : ZM 536870912 9 P v) (hx : x < v) (hy : y < v) (hv : v < 2 ^ 256) :
    ∃ T', P_Mo_subtract h m a b t = some (h.set t (pJ 9 T')) ∧ ZM 536870912 9 T' ((x + (v - y)) % v) := by
  obtain ⟨ea, a1, a2, a3⟩ := hA
  obtain ⟨eb, b1, b2, b3⟩ := hD
  have a3 : vz 536870912 ea 9 = x := a3
  have b3 : vz 536870912 eb 9 = y := b3
  have bd := cy_bd (B := 536870912) (lo := -1) (hi := 0) (s := fun i => ea i - eb i) (n := 9) (by decide) (by decide) (by decide) (fun k hk => by have := a2 k hk; have := b2 k hk; omega)
  obtain ⟨T', g1, g2, g3⟩ := cyl0 (B := 536870912) (s := fun i => ea i - eb i) (n := 9) (fun f h c i => L_Mo_subtract_6 f h m a b t c i) ht (by
    intro i f T2 hi hT
    have c1 := bd i (by omega)
    have c2 := a2 i hi
    have c3 := b2 i hi
    show B_Mo_subtract_6 (L_Mo_subtract_6 f) _ m a b t (lZ (cy 536870912 (fun i => ea i - eb i) i)) (nI i) = L_Mo_subtract_6 f (h.set t (pJ 9 (va_up T2 i (lZ ((cy 536870912 (fun i => ea i - eb i) i + (ea i - eb i)) % 536870912))))) m a b t (lZ ((cy 536870912 (fun i => ea i - eb i) i + (ea i - eb i)) / 536870912)) (nI (i + 1))
    generalize cy 536870912 (fun i => ea i - eb i) i = c at *
    unfold B_Mo_subtract_6
    rw [if_neg (show ¬ (9 : Int32) ≤ nI i from nI_ge (b := 9) (by omega) (by omega))]
    refine (bs_ (ld_al i ht ha (hT i (Nat.le_refl _)) rfl (by omega) (by omega))).trans ?_
    refine (bs_ (ld_al i ht hb (hT i (Nat.le_refl _)) rfl (by omega) (by omega))).trans ?_
    refine lt_e.trans ?_
    rw [a1 i hi, b1 i hi, lZ_sub, lZ_add, lZ_m29, lZ_s29 (by omega) (by omega)]
    refine (bs_ (tJ_in i (hs_ ht) rfl (by omega) (by omega))).trans ?_
    rw [hss]
    show L_Mo_subtract_6 f _ m a b t _ (nI i + Int32.ofInt 1) = _
    rw [nI_ofInt1]) (FU - 9)
  have c1 := bd 9 (by omega)
  have e1 : vz 536870912 (fun i => ea i - eb i) 9 = (x : Int) - y := by rw [vz_sub]; omega
  have e2 := cy_sum (B := 536870912) (s := fun i => ea i - eb i) 9
  have e3 := vz_ge (B := 536870912) (d := dg 536870912 (fun i => ea i - eb i)) (by decide) 9 (fun k _ => (dg_bd (by decide) k).1)
  have e4 := vz_lt (B := 536870912) (d := dg 536870912 (fun i => ea i - eb i)) (by decide) 9 (fun k _ => (dg_bd (by decide) k).2)
  have nT : ZM 536870912 9 T' (vz 536870912 (dg 536870912 (fun i => ea i - eb i)) 9).toNat := zm_dg (B := 536870912) (by decide) g2 (by rw [Int.toNat_of_nonneg e3]; exact e2.symm)
  have st : P_Mo_subtract h m a b t = B_Mo_subtract_6 (L_Mo_subtract_6 (FU - 9 - 1)) (h.set t (pJ 9 T')) m a b t (lZ (cy 536870912 (fun i => ea i - eb i) 9)) (nI 9) := g1
  rw [st]
  unfold B_Mo_subtract_6
  rw [if_pos (show (9 : Int32) ≤ nI 9 by decide)]
  by_cases z : cy 536870912 (fun i => ea i - eb i) 9 = 0
  · rw [z, if_pos (show 0 ≤ lg_cmp (lZ 0) 0 by decide)]
    refine ⟨T', rfl, ?_⟩
    have : (vz 536870912 (dg 536870912 (fun i => ea i - eb i)) 9).toNat = (x + (v - y)) % v := by
      have h1 : y ≤ x := by omega
      rw [show x + (v - y) = (x - y) + v by omega, Nat.add_mod_right, Nat.mod_eq_of_lt (by omega)]
      omega
    rw [← this]; exact nT
  · have z' : cy 536870912 (fun i => ea i - eb i) 9 = -1 := by omega
    rw [z', if_neg (show ¬ 0 ≤ lg_cmp (lZ (-1)) 0 by decide), os_ (hn_ n4 hm)]
    obtain ⟨T2, w, k1, k2, k3⟩ := e_addPrime (h := h.set t (pJ 9 T')) (hn_ n4 hm) g0 (hs_ ht) (hn_ n5 hp) n4 n5 nT hP
    have lw := k2.lt (by decide)
    rw [bs_ k1, hss]
    refine ⟨T2, rfl, ?_⟩
    have : w = (x + (v - y)) % v := by
      rw [Nat.mod_eq_of_lt (by omega)]
      omega
    rw [← this]; exact k2
end MM
