/-! the reference's less (any rows), plus and minus, by carries -/
theorem lg_ge0 {z : Int} (h1 : -2 ^ 63 ≤ z) (h2 : z < 2 ^ 63) : (0 ≤ lg_cmp (lZ z) 0) ↔ 0 ≤ z := by
  rw [lg_cmp_ge, Int64.le_iff_toInt_le, lZ_ti h1 h2]
  rfl
theorem lg_gt0 {z : Int} (h1 : -2 ^ 63 ≤ z) (h2 : z < 2 ^ 63) : (0 < lg_cmp (lZ z) 0) ↔ 0 < z := by
  rw [lg_cmp_gt, Int64.lt_iff_toInt_lt, lZ_ti h1 h2]
  rfl
theorem lg_lt0 {z : Int} (h1 : -2 ^ 63 ≤ z) (h2 : z < 2 ^ 63) : (lg_cmp (lZ z) 0 < 0) ↔ z < 0 := by
  rw [lg_cmp_lt, Int64.lt_iff_toInt_lt, lZ_ti h1 h2]
  rfl
theorem lg_eq0 {z : Int} (h1 : -2 ^ 63 ≤ z) (h2 : z < 2 ^ 63) : (lg_cmp (lZ z) 0 = 0) ↔ z = 0 := by
  rw [lg_cmp_eq, ← Int64.toInt_inj, lZ_ti h1 h2]
  rfl
section RP
variable {h : HP} {t a b m nt na nb nm : Nat} {T A D M : Nat → Int64}
theorem e_lessG {x y : Nat} (hnt : 16 ≤ nt) (hna : 16 ≤ na) (hnb : 16 ≤ nb) (ht : h[t]? = some (pJ nt T)) (ha : h[a]? = some (pJ na A)) (hb : h[b]? = some (pJ nb D)) (hA : NM A x) (hD : NM D y) : ∃ F', P_Rm_less h t a b = some (h.set t (pJ nt F')) ∧ NM F' (if y ≤ x then x - y else x + 2 ^ 256 - y) ∧ ∀ k, 16 ≤ k → F' k = T k := by
  have l1 := hA.zm.lt (by decide)
  have l2 := hD.zm.lt (by decide)
  obtain ⟨ea, a1, a2, a3⟩ := hA.zm
  obtain ⟨eb, b1, b2, b3⟩ := hD.zm
  have a3 : vz 65536 ea 16 = x := a3
  have b3 : vz 65536 eb 16 = y := b3
  have bd := cy_bd (B := 65536) (lo := -1) (hi := 0) (s := fun i => ea i - eb i) (n := 16) (by decide) (by decide) (by decide) (fun k hk => by have := a2 k hk; have := b2 k hk; omega)
  obtain ⟨T', g1, g2, g3⟩ := cyl0 (B := 65536) (s := fun i => ea i - eb i) (n := 16) (fun f h c i => L_Rm_less_5 f h t a b (0 - c) i) ht (by
    intro i f T2 hi hT
    have c1 := bd i (by omega)
    have c2 := a2 i hi
    have c3 := b2 i hi
    have e0 : (0 : Int64) - lZ (cy 65536 (fun i => ea i - eb i) i) = lZ (0 - cy 65536 (fun i => ea i - eb i) i) := lZ_sub 0 _
    show B_Rm_less_5 (L_Rm_less_5 f) _ t a b (0 - lZ (cy 65536 (fun i => ea i - eb i) i)) (nI i) = L_Rm_less_5 f _ t a b (0 - lZ ((cy 65536 (fun i => ea i - eb i) i + (ea i - eb i)) / 65536)) (nI (i + 1))
    show _ = L_Rm_less_5 f (h.set t (pJ nt (va_up T2 i (lZ ((cy 65536 (fun i => ea i - eb i) i + (ea i - eb i)) % 65536))))) t a b (0 - lZ ((cy 65536 (fun i => ea i - eb i) i + (ea i - eb i)) / 65536)) (nI (i + 1))
    rw [e0]
    generalize cy 65536 (fun i => ea i - eb i) i = c at *
    unfold B_Rm_less_5
    rw [if_neg (show ¬ (16 : Int32) ≤ nI i from nI_ge (b := 16) (by omega) (by omega))]
    refine (bs_ (ld_al i ht ha (hT i (Nat.le_refl _)) rfl (by omega) (by omega))).trans ?_
    refine (bs_ (ld_al i ht hb (hT i (Nat.le_refl _)) rfl (by omega) (by omega))).trans ?_
    refine lt_e.trans ?_
    rw [a1 i hi, b1 i hi, lZ_sub, lZ_sub, show ea i - eb i - (0 - c) = c + (ea i - eb i) by omega, lZ_m16]
    by_cases z : 0 ≤ c + (ea i - eb i)
    · rw [if_pos ((lg_ge0 (by omega) (by omega)).mpr z)]
      refine (bs_ (tJ_in i (hs_ ht) rfl (by omega) (by omega))).trans ?_
      rw [hss]
      show L_Rm_less_5 f _ t a b 0 (nI i + Int32.ofInt 1) = _
      rw [nI_ofInt1, show (c + (ea i - eb i)) / 65536 = 0 by omega]
      rfl
    · rw [if_neg (fun q => z ((lg_ge0 (by omega) (by omega)).mp q))]
      refine (bs_ (tJ_in i (hs_ ht) rfl (by omega) (by omega))).trans ?_
      rw [hss]
      show L_Rm_less_5 f _ t a b 1 (nI i + Int32.ofInt 1) = _
      rw [nI_ofInt1, show (c + (ea i - eb i)) / 65536 = -1 by omega]
      rfl) (FU - 16)
  have c1 := bd 16 (by omega)
  have e1 : vz 65536 (fun i => ea i - eb i) 16 = (x : Int) - y := by rw [vz_sub]; omega
  have e2 := cy_sum (B := 65536) (s := fun i => ea i - eb i) 16
  have e3 := vz_ge (B := 65536) (d := dg 65536 (fun i => ea i - eb i)) (by decide) 16 (fun k _ => (dg_bd (by decide) k).1)
  have e4 := vz_lt (B := 65536) (d := dg 65536 (fun i => ea i - eb i)) (by decide) 16 (fun k _ => (dg_bd (by decide) k).2)
  refine ⟨T', ?_, ZM.nm (zm_dg (B := 65536) (by decide) g2 ?_), g3⟩
  · refine Eq.trans g1 ?_
    show B_Rm_less_5 _ _ t a b _ (nI 16) = _
    unfold B_Rm_less_5
    rw [if_pos (show (16 : Int32) ≤ nI 16 by decide)]
  · show vz 65536 (fun i => ea i - eb i) 16 = _ + cy 65536 (fun i => ea i - eb i) 16 * 65536 ^ 16
    split <;> omega
theorem pl_loop {x y : Nat} (hnt : 16 ≤ nt) (hna : 16 ≤ na) (hnb : 16 ≤ nb) (ht : h[t]? = some (pJ nt T)) (ha : h[a]? = some (pJ na A)) (hb : h[b]? = some (pJ nb D)) (hA : NM A x) (hD : NM D y) : ∃ F' c w f, P_Rm_plus h t a b m = B_Rm_plus_6 (L_Rm_plus_6 f) (h.set t (pJ nt F')) t a b m (lZ c) (nI 16) ∧ NM F' w ∧ (c = 0 ∧ x + y = w ∨ c = 1 ∧ x + y = w + 2 ^ 256) ∧ ∀ k, 16 ≤ k → F' k = T k := by
  have l1 := hA.zm.lt (by decide)
  have l2 := hD.zm.lt (by decide)
  obtain ⟨ea, a1, a2, a3⟩ := hA.zm
  obtain ⟨eb, b1, b2, b3⟩ := hD.zm
  have a3 : vz 65536 ea 16 = x := a3
  have b3 : vz 65536 eb 16 = y := b3
  have bd := cy_bd (B := 65536) (lo := 0) (hi := 1) (s := fun i => ea i + eb i) (n := 16) (by decide) (by decide) (by decide) (fun k hk => by have := a2 k hk; have := b2 k hk; omega)
  obtain ⟨T', g1, g2, g3⟩ := cyl0 (B := 65536) (s := fun i => ea i + eb i) (n := 16) (fun f h c i => L_Rm_plus_6 f h t a b m c i) ht (by
    intro i f T2 hi hT
    have c1 := bd i (by omega)
    have c2 := a2 i hi
    have c3 := b2 i hi
    show B_Rm_plus_6 (L_Rm_plus_6 f) _ t a b m (lZ (cy 65536 (fun i => ea i + eb i) i)) (nI i) = L_Rm_plus_6 f (h.set t (pJ nt (va_up T2 i (lZ ((cy 65536 (fun i => ea i + eb i) i + (ea i + eb i)) % 65536))))) t a b m (lZ ((cy 65536 (fun i => ea i + eb i) i + (ea i + eb i)) / 65536)) (nI (i + 1))
    generalize cy 65536 (fun i => ea i + eb i) i = c at *
    unfold B_Rm_plus_6
    rw [if_neg (show ¬ (16 : Int32) ≤ nI i from nI_ge (b := 16) (by omega) (by omega))]
    refine (bs_ (ld_al i ht ha (hT i (Nat.le_refl _)) rfl (by omega) (by omega))).trans ?_
    refine (bs_ (ld_al i ht hb (hT i (Nat.le_refl _)) rfl (by omega) (by omega))).trans ?_
    refine lt_e.trans ?_
    rw [a1 i hi, b1 i hi, lZ_add, lZ_add, lZ_m16, lZ_s16 (by omega) (by omega)]
    refine (bs_ (tJ_in i (hs_ ht) rfl (by omega) (by omega))).trans ?_
    rw [hss]
    show L_Rm_plus_6 f _ t a b m _ (nI i + Int32.ofInt 1) = _
    rw [nI_ofInt1]) (FU - 16)
  have c1 := bd 16 (by omega)
  have e1 : vz 65536 (fun i => ea i + eb i) 16 = (x : Int) + y := by rw [vz_add]; omega
  have e2 := cy_sum (B := 65536) (s := fun i => ea i + eb i) 16
  have e3 := vz_ge (B := 65536) (d := dg 65536 (fun i => ea i + eb i)) (by decide) 16 (fun k _ => (dg_bd (by decide) k).1)
  have e4 := vz_lt (B := 65536) (d := dg 65536 (fun i => ea i + eb i)) (by decide) 16 (fun k _ => (dg_bd (by decide) k).2)
  refine ⟨T', cy 65536 (fun i => ea i + eb i) 16, (vz 65536 (dg 65536 (fun i => ea i + eb i)) 16).toNat, FU - 16 - 1, g1, ZM.nm (zm_dg (B := 65536) (by decide) g2 ?_), ?_, g3⟩
  · rw [Int.toNat_of_nonneg e3]; exact e2.symm
  · omega
theorem e_plus {x y v : Nat} (hnt : 16 ≤ nt) (hna : 16 ≤ na) (hnb : 16 ≤ nb) (hnm : 16 ≤ nm) (htm : t ≠ m) (ht : h[t]? = some (pJ nt T)) (ha : h[a]? = some (pJ na A)) (hb : h[b]? = some (pJ nb D)) (hm : h[m]? = some (pJ nm M)) (hA : NM A x) (hD : NM D y) (hM : NM M v) (hx : x < v) (hy : y < v) : ∃ F', P_Rm_plus h t a b m = some (h.set t (pJ nt F')) ∧ NM F' ((x + y) % v) ∧ ∀ k, 16 ≤ k → F' k = T k := by
  obtain ⟨F1, c, w, f, g1, g2, g3, g4⟩ := pl_loop (m := m) hnt hna hnb ht ha hb hA hD
  have l3 := hM.zm.lt (by decide)
  have l4 := g2.zm.lt (by decide)
  have hs1 : (h.set t (pJ nt F1))[t]? = some (pJ nt F1) := hs_ ht
  have hm1 : (h.set t (pJ nt F1))[m]? = some (pJ nm M) := hn_ htm hm
  obtain ⟨F2, q1, q2, q3⟩ := e_lessG (t := t) (a := t) (b := m) hnt hnt hnm hs1 hs1 hm1 g2 hM
  rw [g1]
  unfold B_Rm_plus_6
  rw [if_pos (show (16 : Int32) ≤ nI 16 by decide)]
  by_cases z : v ≤ x + y
  · refine ⟨F2, ?_, ?_, fun k hk => (q3 k hk).trans (g4 k hk)⟩
    · rcases g3 with ⟨rfl, hw⟩ | ⟨rfl, hw⟩
      · rw [if_neg (show ¬ 0 < lg_cmp (lZ 0) 0 by decide)]
        refine (bs2 (e_below hnt hnm hs1 hm1 g2 hM)).trans ?_
        rw [decide_eq_false (by omega), if_pos (show bi false = 0 by decide)]
        unfold B_Rm_plus_65
        refine (bs_ q1).trans ?_
        rw [hss]
        rfl
      · rw [if_pos (show 0 < lg_cmp (lZ 1) 0 by decide)]
        unfold B_Rm_plus_65
        refine (bs_ q1).trans ?_
        rw [hss]
        rfl
    · rw [Nat.mod_eq_sub_mod z, Nat.mod_eq_of_lt (by omega)]
      have : (if v ≤ w then w - v else w + 2 ^ 256 - v) = x + y - v := by
        rcases g3 with ⟨_, hw⟩ | ⟨_, hw⟩
        · rw [if_pos (by omega)]; omega
        · rw [if_neg (by omega)]; omega
      rw [← this]
      exact q2
  · refine ⟨F1, ?_, ?_, g4⟩
    · rcases g3 with ⟨rfl, hw⟩ | ⟨rfl, hw⟩
      · rw [if_neg (show ¬ 0 < lg_cmp (lZ 0) 0 by decide)]
        refine (bs2 (e_below hnt hnm hs1 hm1 g2 hM)).trans ?_
        rw [decide_eq_true (by omega), if_neg (show ¬ bi true = 0 by decide)]
        rfl
      · exfalso; omega
    · rw [Nat.mod_eq_of_lt (by omega)]
      have : x + y = w := by omega
      rw [this]; exact g2
theorem mi_loop {x y : Nat} (hnt : 16 ≤ nt) (hna : 16 ≤ na) (hnb : 16 ≤ nb) (ht : h[t]? = some (pJ nt T)) (ha : h[a]? = some (pJ na A)) (hb : h[b]? = some (pJ nb D)) (hA : NM A x) (hD : NM D y) : ∃ F' c w f, P_Rm_minus h t a b m = B_Rm_minus_6 (L_Rm_minus_6 f) (h.set t (pJ nt F')) t a b m (lZ c) (nI 16) ∧ NM F' w ∧ (c = 0 ∧ x = w + y ∨ c = 1 ∧ x + 2 ^ 256 = w + y) ∧ ∀ k, 16 ≤ k → F' k = T k := by
  have l1 := hA.zm.lt (by decide)
  have l2 := hD.zm.lt (by decide)
  obtain ⟨ea, a1, a2, a3⟩ := hA.zm
  obtain ⟨eb, b1, b2, b3⟩ := hD.zm
  have a3 : vz 65536 ea 16 = x := a3
  have b3 : vz 65536 eb 16 = y := b3
  have bd := cy_bd (B := 65536) (lo := -1) (hi := 0) (s := fun i => ea i - eb i) (n := 16) (by decide) (by decide) (by decide) (fun k hk => by have := a2 k hk; have := b2 k hk; omega)
  obtain ⟨T', g1, g2, g3⟩ := cyl0 (B := 65536) (s := fun i => ea i - eb i) (n := 16) (fun f h c i => L_Rm_minus_6 f h t a b m (0 - c) i) ht (by
    intro i f T2 hi hT
    have c1 := bd i (by omega)
    have c2 := a2 i hi
    have c3 := b2 i hi
    have e0 : (0 : Int64) - lZ (cy 65536 (fun i => ea i - eb i) i) = lZ (0 - cy 65536 (fun i => ea i - eb i) i) := lZ_sub 0 _
    show B_Rm_minus_6 (L_Rm_minus_6 f) _ t a b m (0 - lZ (cy 65536 (fun i => ea i - eb i) i)) (nI i) = L_Rm_minus_6 f (h.set t (pJ nt (va_up T2 i (lZ ((cy 65536 (fun i => ea i - eb i) i + (ea i - eb i)) % 65536))))) t a b m (0 - lZ ((cy 65536 (fun i => ea i - eb i) i + (ea i - eb i)) / 65536)) (nI (i + 1))
    rw [e0]
    generalize cy 65536 (fun i => ea i - eb i) i = c at *
    unfold B_Rm_minus_6
    rw [if_neg (show ¬ (16 : Int32) ≤ nI i from nI_ge (b := 16) (by omega) (by omega))]
    refine (bs_ (ld_al i ht ha (hT i (Nat.le_refl _)) rfl (by omega) (by omega))).trans ?_
    refine (bs_ (ld_al i ht hb (hT i (Nat.le_refl _)) rfl (by omega) (by omega))).trans ?_
    refine lt_e.trans ?_
    rw [a1 i hi, b1 i hi, lZ_sub, lZ_sub, show ea i - eb i - (0 - c) = c + (ea i - eb i) by omega, lZ_m16]
    by_cases z : 0 ≤ c + (ea i - eb i)
    · rw [if_pos ((lg_ge0 (by omega) (by omega)).mpr z)]
      refine (bs_ (tJ_in i (hs_ ht) rfl (by omega) (by omega))).trans ?_
      rw [hss]
      show L_Rm_minus_6 f _ t a b m 0 (nI i + Int32.ofInt 1) = _
      rw [nI_ofInt1, show (c + (ea i - eb i)) / 65536 = 0 by omega]
      rfl
    · rw [if_neg (fun q => z ((lg_ge0 (by omega) (by omega)).mp q))]
      refine (bs_ (tJ_in i (hs_ ht) rfl (by omega) (by omega))).trans ?_
      rw [hss]
      show L_Rm_minus_6 f _ t a b m 1 (nI i + Int32.ofInt 1) = _
      rw [nI_ofInt1, show (c + (ea i - eb i)) / 65536 = -1 by omega]
      rfl) (FU - 16)
  have c1 := bd 16 (by omega)
  have e1 : vz 65536 (fun i => ea i - eb i) 16 = (x : Int) - y := by rw [vz_sub]; omega
  have e2 := cy_sum (B := 65536) (s := fun i => ea i - eb i) 16
  have e3 := vz_ge (B := 65536) (d := dg 65536 (fun i => ea i - eb i)) (by decide) 16 (fun k _ => (dg_bd (by decide) k).1)
  have e4 := vz_lt (B := 65536) (d := dg 65536 (fun i => ea i - eb i)) (by decide) 16 (fun k _ => (dg_bd (by decide) k).2)
  refine ⟨T', 0 - cy 65536 (fun i => ea i - eb i) 16, (vz 65536 (dg 65536 (fun i => ea i - eb i)) 16).toNat, FU - 16 - 1, ?_, ZM.nm (zm_dg (B := 65536) (by decide) g2 ?_), ?_, g3⟩
  · rw [← lZ_sub]; exact g1
  · rw [Int.toNat_of_nonneg e3]; exact e2.symm
  · omega
theorem mi2_loop {K6 : HP → Nat → Nat → Nat → Nat → Int64 → Int32 → Option (HP)} {x y : Nat} (hnt : 16 ≤ nt) (hnm : 16 ≤ nm) (ht : h[t]? = some (pJ nt T)) (hm : h[m]? = some (pJ nm M)) (hA : NM T x) (hD : NM M y) : ∃ F' w, L_Rm_minus_71 K6 FU h t m 0 0 = some (h.set t (pJ nt F')) ∧ NM F' w ∧ (x + y = w ∨ x + y = w + 2 ^ 256) ∧ ∀ k, 16 ≤ k → F' k = T k := by
  have l1 := hA.zm.lt (by decide)
  have l2 := hD.zm.lt (by decide)
  obtain ⟨ea, a1, a2, a3⟩ := hA.zm
  obtain ⟨eb, b1, b2, b3⟩ := hD.zm
  have a3 : vz 65536 ea 16 = x := a3
  have b3 : vz 65536 eb 16 = y := b3
  have bd := cy_bd (B := 65536) (lo := 0) (hi := 1) (s := fun i => ea i + eb i) (n := 16) (by decide) (by decide) (by decide) (fun k hk => by have := a2 k hk; have := b2 k hk; omega)
  obtain ⟨T', g1, g2, g3⟩ := cyl0 (B := 65536) (s := fun i => ea i + eb i) (n := 16) (fun f h c i => L_Rm_minus_71 K6 f h t m c i) ht (by
    intro i f T2 hi hT
    have c1 := bd i (by omega)
    have c2 := a2 i hi
    have c3 := b2 i hi
    show B_Rm_minus_71 K6 (L_Rm_minus_71 K6 f) _ t m (lZ (cy 65536 (fun i => ea i + eb i) i)) (nI i) = L_Rm_minus_71 K6 f (h.set t (pJ nt (va_up T2 i (lZ ((cy 65536 (fun i => ea i + eb i) i + (ea i + eb i)) % 65536))))) t m (lZ ((cy 65536 (fun i => ea i + eb i) i + (ea i + eb i)) / 65536)) (nI (i + 1))
    generalize cy 65536 (fun i => ea i + eb i) i = c at *
    unfold B_Rm_minus_71
    rw [if_neg (show ¬ (16 : Int32) ≤ nI i from nI_ge (b := 16) (by omega) (by omega))]
    refine (bs_ (ld_al i ht ht (hT i (Nat.le_refl _)) rfl (by omega) (by omega))).trans ?_
    refine (bs_ (ld_al i ht hm (hT i (Nat.le_refl _)) rfl (by omega) (by omega))).trans ?_
    refine lt_e.trans ?_
    rw [a1 i hi, b1 i hi, lZ_add, lZ_add, lZ_m16, lZ_s16 (by omega) (by omega)]
    refine (bs_ (tJ_in i (hs_ ht) rfl (by omega) (by omega))).trans ?_
    rw [hss]
    show L_Rm_minus_71 K6 f _ t m _ (nI i + Int32.ofInt 1) = _
    rw [nI_ofInt1]) (FU - 16)
  have c1 := bd 16 (by omega)
  have e1 : vz 65536 (fun i => ea i + eb i) 16 = (x : Int) + y := by rw [vz_add]; omega
  have e2 := cy_sum (B := 65536) (s := fun i => ea i + eb i) 16
  have e3 := vz_ge (B := 65536) (d := dg 65536 (fun i => ea i + eb i)) (by decide) 16 (fun k _ => (dg_bd (by decide) k).1)
  have e4 := vz_lt (B := 65536) (d := dg 65536 (fun i => ea i + eb i)) (by decide) 16 (fun k _ => (dg_bd (by decide) k).2)
  refine ⟨T', (vz 65536 (dg 65536 (fun i => ea i + eb i)) 16).toNat, ?_, ZM.nm (zm_dg (B := 65536) (by decide) g2 ?_), ?_, g3⟩
  · refine Eq.trans g1 ?_
    show B_Rm_minus_71 K6 _ _ t m _ (nI 16) = _
    unfold B_Rm_minus_71
    rw [if_pos (show (16 : Int32) ≤ nI 16 by decide)]
  · rw [Int.toNat_of_nonneg e3]; exact e2.symm
  · omega
theorem e_minus {x y v : Nat} (hnt : 16 ≤ nt) (hna : 16 ≤ na) (hnb : 16 ≤ nb) (hnm : 16 ≤ nm) (htm : t ≠ m) (ht : h[t]? = some (pJ nt T)) (ha : h[a]? = some (pJ na A)) (hb : h[b]? = some (pJ nb D)) (hm : h[m]? = some (pJ nm M)) (hA : NM A x) (hD : NM D y) (hM : NM M v) (hx : x < v) (hy : y < v) : ∃ F', P_Rm_minus h t a b m = some (h.set t (pJ nt F')) ∧ NM F' ((x + (v - y)) % v) ∧ ∀ k, 16 ≤ k → F' k = T k := by
  obtain ⟨F1, c, w, f, g1, g2, g3, g4⟩ := mi_loop (m := m) hnt hna hnb ht ha hb hA hD
  have l3 := hM.zm.lt (by decide)
  have l4 := g2.zm.lt (by decide)
  have hs1 : (h.set t (pJ nt F1))[t]? = some (pJ nt F1) := hs_ ht
  have hm1 : (h.set t (pJ nt F1))[m]? = some (pJ nm M) := hn_ htm hm
  obtain ⟨F2, w2, q1, q2, q4, q3⟩ := mi2_loop (K6 := L_Rm_minus_6 f) hnt hnm hs1 hm1 g2 hM
  have l5 := q2.zm.lt (by decide)
  rw [g1]
  unfold B_Rm_minus_6
  rw [if_pos (show (16 : Int32) ≤ nI 16 by decide)]
  rcases g3 with ⟨rfl, hw⟩ | ⟨rfl, hw⟩
  · refine ⟨F1, ?_, ?_, g4⟩
    · rw [if_pos (show lg_cmp (lZ 0) 0 = 0 by decide)]
    · rw [show x + (v - y) = w + v by omega, Nat.add_mod_right, Nat.mod_eq_of_lt (by omega)]
      exact g2
  · refine ⟨F2, ?_, ?_, fun k hk => (q3 k hk).trans (g4 k hk)⟩
    · rw [if_neg (show ¬ lg_cmp (lZ 1) 0 = 0 by decide), q1, hss]
    · rw [Nat.mod_eq_of_lt (by omega), show x + (v - y) = w2 by omega]
      exact q2
end RP
