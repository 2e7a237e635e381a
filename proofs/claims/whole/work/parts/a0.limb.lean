/-! the class's Modulus: lessPrime, reduceOnce, add, addPrime, subtract -/
theorem cpJ_at {h : HP} {a b n0 n1 : Nat} {f g : Nat → Int64} {x y z : Int32} (sp dp n : Nat) (ha : h[a]? = some (pJ n0 f)) (hb : h[b]? = some (pJ n1 g)) (hx : x = nI sp) (hy : y = nI dp) (hz : z = nI n) (h0 : sp + n ≤ n0) (h1 : dp + n ≤ n1) (hn0 : n0 < 2 ^ 31) (hn1 : n1 < 2 ^ 31) : cpJ h a x b y z = some (h.set b (pJ n1 (va_cpy f g sp dp n))) := by
  unfold cpJ
  rw [ha, hb, hx, hy, hz]
  show (if _ then none else _) = _
  rw [nI_clamp (by omega), nI_clamp (by omega), nI_clamp (by omega), if_neg (fun c => by
    rcases c with c | c | c | c | c
    · exact nI_pos (by omega) c
    · exact nI_pos (by omega) c
    · exact nI_pos (by omega) c
    · omega
    · omega)]
theorem ZM.eq {B n v : Nat} {F G : Nat → Int64} (h : ZM B n G v) (e : ∀ k, k < n → F k = G k) : ZM B n F v := by
  obtain ⟨d, h1, h2, h3⟩ := h
  exact ⟨d, fun k hk => (e k hk).trans (h1 k hk), h2, h3⟩
section MO
variable {m kp ks a b t : Nat} {fs : List Value} {h : HP} {A D T P S : Nat → Int64} {x y v : Nat}
theorem e_lessPrime (hm : h[m]? = some (pO 1 fs)) (f0 : fs[0]? = some (.ref kp)) (f7 : fs[7]? = some (.ref ks)) (ha : h[a]? = some (pJ 9 A)) (hp : h[kp]? = some (pJ 9 P)) (hs : h[ks]? = some (pJ 9 S)) (n1 : ks ≠ m) (n2 : ks ≠ kp) (n3 : ks ≠ a) (hA : ZM 536870912 9 A x) (hP : ZM 536870912 9 P v) :
    ∃ S' c, P_Mo_lessPrime h m a = some (lZ c, h.set ks (pJ 9 S')) ∧ ((c = 0 ∧ v ≤ x ∧ ZM 536870912 9 S' (x - v)) ∨ (c = -1 ∧ x < v)) := by
  have l1 := hA.lt (by decide)
  have l2 := hP.lt (by decide)
  obtain ⟨ea, a1, a2, a3⟩ := hA
  obtain ⟨eb, b1, b2, b3⟩ := hP
  have a3 : vz 536870912 ea 9 = x := a3
  have b3 : vz 536870912 eb 9 = v := b3
  have bd := cy_bd (B := 536870912) (lo := -1) (hi := 0) (s := fun i => ea i - eb i) (n := 9) (by decide) (by decide) (by decide) (fun k hk => by have := a2 k hk; have := b2 k hk; omega)
  obtain ⟨T', g1, g2, g3⟩ := cyl0 (B := 536870912) (s := fun i => ea i - eb i) (n := 9) (fun f h c i => L_Mo_lessPrime_5 f h m a c i) hs (by
    intro i f T2 hi hT
    have c1 := bd i (by omega)
    have c2 := a2 i hi
    have c3 := b2 i hi
    show B_Mo_lessPrime_5 (L_Mo_lessPrime_5 f) _ m a (lZ (cy 536870912 (fun i => ea i - eb i) i)) (nI i) = L_Mo_lessPrime_5 f (h.set ks (pJ 9 (va_up T2 i (lZ ((cy 536870912 (fun i => ea i - eb i) i + (ea i - eb i)) % 536870912))))) m a (lZ ((cy 536870912 (fun i => ea i - eb i) i + (ea i - eb i)) / 536870912)) (nI (i + 1))
    generalize cy 536870912 (fun i => ea i - eb i) i = c at *
    unfold B_Mo_lessPrime_5
    rw [if_neg (show ¬ (9 : Int32) ≤ nI i from nI_ge (b := 9) (by omega) (by omega))]
    refine (bs_ (sJ_in i (hn_ n3 ha) rfl (by omega) (by omega))).trans ?_
    refine (bs_ (gR_at (hn_ n1 hm) f0)).trans ?_
    refine (bs_ (sJ_in i (hn_ n2 hp) rfl (by omega) (by omega))).trans ?_
    refine lt_e.trans ?_
    rw [a1 i hi, b1 i hi, lZ_sub, lZ_add, lZ_m29, lZ_s29 (by omega) (by omega)]
    refine (bs_ (gR_at (hn_ n1 hm) f7)).trans ?_
    refine (bs_ (tJ_in i (hs_ hs) rfl (by omega) (by omega))).trans ?_
    rw [hss]
    show L_Mo_lessPrime_5 f _ m a _ (nI i + Int32.ofInt 1) = _
    rw [nI_ofInt1]) (FU - 9)
  have c1 := bd 9 (by omega)
  have e1 : vz 536870912 (fun i => ea i - eb i) 9 = (x : Int) - v := by rw [vz_sub]; omega
  have e2 := cy_sum (B := 536870912) (s := fun i => ea i - eb i) 9
  have e3 := vz_ge (B := 536870912) (d := dg 536870912 (fun i => ea i - eb i)) (by decide) 9 (fun k _ => (dg_bd (by decide) k).1)
  have e4 := vz_lt (B := 536870912) (d := dg 536870912 (fun i => ea i - eb i)) (by decide) 9 (fun k _ => (dg_bd (by decide) k).2)
  refine ⟨T', cy 536870912 (fun i => ea i - eb i) 9, ?_, ?_⟩
  · refine Eq.trans g1 ?_
    show B_Mo_lessPrime_5 _ _ m a _ (nI 9) = _
    unfold B_Mo_lessPrime_5
    rw [if_pos (show (9 : Int32) ≤ nI 9 by decide)]
  · by_cases z : cy 536870912 (fun i => ea i - eb i) 9 = 0
    · have hle : v ≤ x := by omega
      refine Or.inl ⟨z, hle, zm_dg (B := 536870912) (by decide) g2 ?_⟩
      show vz 536870912 (fun i => ea i - eb i) 9 = ((x - v : Nat) : Int) + cy 536870912 (fun i => ea i - eb i) 9 * 536870912 ^ 9
      omega
    · exact Or.inr ⟨by omega, by omega⟩
theorem zm_top (hA : ZM 536870912 9 A x) (hP : ZM 536870912 9 P v) : ∃ e f : Int, A 8 = lZ e ∧ P 8 = lZ f ∧ (0 ≤ e ∧ e < 536870912) ∧ (0 ≤ f ∧ f < 536870912) ∧ (e < f → x < v) := by
  obtain ⟨ea, a1, a2, a3⟩ := hA
  obtain ⟨eb, b1, b2, b3⟩ := hP
  have a3 : vz 536870912 ea 9 = x := a3
  have b3 : vz 536870912 eb 9 = v := b3
  refine ⟨ea 8, eb 8, a1 8 (by decide), b1 8 (by decide), a2 8 (by decide), b2 8 (by decide), fun hlt => ?_⟩
  have e1 : vz 536870912 ea 9 = vz 536870912 ea 8 + ea 8 * 536870912 ^ 8 := rfl
  have e2 : vz 536870912 eb 9 = vz 536870912 eb 8 + eb 8 * 536870912 ^ 8 := rfl
  have e3 := vz_lt (B := 536870912) (d := ea) (by decide) 8 (fun k hk => (a2 k (by omega)).2)
  have e4 := vz_ge (B := 536870912) (d := eb) (by decide) 8 (fun k hk => (b2 k (by omega)).1)
  omega
theorem lg_lt2 {e f : Int} (h1 : 0 ≤ e ∧ e < 536870912) (h2 : 0 ≤ f ∧ f < 536870912) : (lg_cmp (lZ e) (lZ f) < 0) ↔ e < f := by
  rw [lg_cmp_lt, Int64.lt_iff_toInt_lt, lZ_ti (by omega) (by omega), lZ_ti (by omega) (by omega)]
theorem e_reduceOnce (hm : h[m]? = some (pO 1 fs)) (f0 : fs[0]? = some (.ref kp)) (f7 : fs[7]? = some (.ref ks)) (ha : h[a]? = some (pJ 9 A)) (hp : h[kp]? = some (pJ 9 P)) (hs : h[ks]? = some (pJ 9 S)) (n1 : ks ≠ m) (n2 : ks ≠ kp) (n3 : ks ≠ a) (hA : ZM 536870912 9 A x) (hP : ZM 536870912 9 P v) (hx : x < 2 * v) :
    ∃ h', P_Mo_reduceOnce h m a = some h' ∧ KP [ks, a] h h' ∧ (∃ S', h'[ks]? = some (pJ 9 S')) ∧ ∃ A', h'[a]? = some (pJ 9 A') ∧ ZM 536870912 9 A' (x % v) := by
  obtain ⟨e, f, t1, t2, t3, t4, t5⟩ := zm_top hA hP
  unfold P_Mo_reduceOnce
  rw [show ldJ h a 8 = some (A 8) from sJ_in 8 ha rfl (by decide) (by decide), bs_ rfl, bs_ (gR_at hm f0), show ldJ h kp 8 = some (P 8) from sJ_in 8 hp rfl (by decide) (by decide), bs_ rfl, t1, t2]
  by_cases z : e < f
  · rw [if_pos ((lg_lt2 t3 t4).mpr z)]
    exact ⟨h, rfl, KP.rf, ⟨S, hs⟩, A, ha, by rw [Nat.mod_eq_of_lt (t5 z)]; exact hA⟩
  · rw [if_neg (fun c => z ((lg_lt2 t3 t4).mp c)), os_ hm]
    obtain ⟨S', c, g1, g2⟩ := e_lessPrime hm f0 f7 ha hp hs n1 n2 n3 hA hP
    rw [bs2 g1]
    rcases g2 with ⟨rfl, hle, hS⟩ | ⟨rfl, hlt⟩
    · rw [if_neg (show ¬ lg_cmp (lZ 0) 0 < 0 by decide), bs_ (gR_at (hn_ n1 hm) f7)]
      have cp := cpJ_at (h := h.set ks (pJ 9 S')) (a := ks) (b := a) (x := 0) (y := 0) (z := 9) 0 0 9 (hs_ hs) (hn_ n3 ha) rfl rfl rfl (by decide) (by decide) (by decide) (by decide)
      rw [bs_ cp]
      refine ⟨_, rfl, (KP.st (by simp)).tr (KP.st (by simp)), ⟨S', hn_ (Ne.symm n3) (hs_ hs)⟩, _, hs_ (hn_ n3 ha), ?_⟩
      rw [Nat.mod_eq_sub_mod hle, Nat.mod_eq_of_lt (by omega)]
      exact hS.eq (fun k hk => by rw [pk_cpy_in (by omega) (by omega), Nat.zero_add, Nat.sub_zero])
    · rw [if_pos (show lg_cmp (lZ (-1)) 0 < 0 by decide)]
      exact ⟨_, rfl, KP.st (by simp), ⟨S', hs_ hs⟩, A, hn_ n3 ha, by rw [Nat.mod_eq_of_lt hlt]; exact hA⟩
theorem e_madd (hm : h[m]? = some (pO 1 fs)) (f0 : fs[0]? = some (.ref kp)) (f7 : fs[7]? = some (.ref ks)) (ht : h[t]? = some (pJ 9 T)) (ha : h[a]? = some (pJ 9 A)) (hb : h[b]? = some (pJ 9 D)) (hp : h[kp]? = some (pJ 9 P)) (hs : h[ks]? = some (pJ 9 S)) (n1 : ks ≠ m) (n2 : ks ≠ kp) (n3 : ks ≠ t) (n4 : t ≠ m) (n5 : t ≠ kp) (hA : ZM 536870912 9 A x) (hD : ZM 536870912 9 D y) (hP : ZM 536870912 9 P v) (hx : x < v) (hy : y < v) (hv : v < 2 ^ 256) :
    ∃ h', P_Mo_add h m a b t = some h' ∧ KP [ks, t] h h' ∧ (∃ S', h'[ks]? = some (pJ 9 S')) ∧ ∃ T', h'[t]? = some (pJ 9 T') ∧ ZM 536870912 9 T' ((x + y) % v) := by
  obtain ⟨ea, a1, a2, a3⟩ := hA
  obtain ⟨eb, b1, b2, b3⟩ := hD
  have a3 : vz 536870912 ea 9 = x := a3
  have b3 : vz 536870912 eb 9 = y := b3
  have bd := cy_bd (B := 536870912) (lo := 0) (hi := 1) (s := fun i => ea i + eb i) (n := 9) (by decide) (by decide) (by decide) (fun k hk => by have := a2 k hk; have := b2 k hk; omega)
  obtain ⟨T', g1, g2, g3⟩ := cyl0 (B := 536870912) (s := fun i => ea i + eb i) (n := 9) (fun f h c i => L_Mo_add_6 f h m a b t c i) ht (by
    intro i f T2 hi hT
    have c1 := bd i (by omega)
    have c2 := a2 i hi
    have c3 := b2 i hi
    show B_Mo_add_6 (L_Mo_add_6 f) _ m a b t (lZ (cy 536870912 (fun i => ea i + eb i) i)) (nI i) = L_Mo_add_6 f (h.set t (pJ 9 (va_up T2 i (lZ ((cy 536870912 (fun i => ea i + eb i) i + (ea i + eb i)) % 536870912))))) m a b t (lZ ((cy 536870912 (fun i => ea i + eb i) i + (ea i + eb i)) / 536870912)) (nI (i + 1))
    generalize cy 536870912 (fun i => ea i + eb i) i = c at *
    unfold B_Mo_add_6
    rw [if_neg (show ¬ (9 : Int32) ≤ nI i from nI_ge (b := 9) (by omega) (by omega))]
    refine (bs_ (ld_al i ht ha (hT i (Nat.le_refl _)) rfl (by omega) (by omega))).trans ?_
    refine (bs_ (ld_al i ht hb (hT i (Nat.le_refl _)) rfl (by omega) (by omega))).trans ?_
    refine lt_e.trans ?_
    rw [a1 i hi, b1 i hi, lZ_add, lZ_add, lZ_m29, lZ_s29 (by omega) (by omega)]
    refine (bs_ (tJ_in i (hs_ ht) rfl (by omega) (by omega))).trans ?_
    rw [hss]
    show L_Mo_add_6 f _ m a b t _ (nI i + Int32.ofInt 1) = _
    rw [nI_ofInt1]) (FU - 9)
  have c1 := bd 9 (by omega)
  have e1 : vz 536870912 (fun i => ea i + eb i) 9 = (x : Int) + y := by rw [vz_add]; omega
  have e2 := cy_sum (B := 536870912) (s := fun i => ea i + eb i) 9
  have e3 := vz_ge (B := 536870912) (d := dg 536870912 (fun i => ea i + eb i)) (by decide) 9 (fun k _ => (dg_bd (by decide) k).1)
  have c9 : cy 536870912 (fun i => ea i + eb i) 9 = 0 := by omega
  have nT : ZM 536870912 9 T' (x + y) := zm_dg (B := 536870912) (by decide) g2 (by
    show vz 536870912 (fun i => ea i + eb i) 9 = ((x + y : Nat) : Int) + cy 536870912 (fun i => ea i + eb i) 9 * 536870912 ^ 9
    omega)
  obtain ⟨h', k1, k2, k3, k4⟩ := e_reduceOnce (h := h.set t (pJ 9 T')) (hn_ n4 hm) f0 f7 (hs_ ht) (hn_ n5 hp) (hn_ (Ne.symm n3) hs) n1 n2 n3 nT hP (by omega)
  refine ⟨h', ?_, (KP.st (by simp)).tr k2, k3, k4⟩
  refine Eq.trans g1 ?_
  show B_Mo_add_6 _ _ m a b t _ (nI 9) = _
  unfold B_Mo_add_6
  rw [if_pos (show (9 : Int32) ≤ nI 9 by decide), os_ (hn_ n4 hm), bs_ k1]
end MO
