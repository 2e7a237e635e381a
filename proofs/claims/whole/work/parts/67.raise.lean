/-! the reference's raise, whole -/
section RB
variable {q kl kc : Nat} {fs : List Value}
theorem ra2 {K3 K27 : HP → Nat → Int64 → Int64 → Int32 → Option HP} (hf1 : fs[47]? = some (.ref kl)) (hf2 : fs[48]? = some (.ref kc)) (hlq : kl ≠ q) (hlc : kc ≠ kl) {C : Nat → Int64} {c : Nat → Nat} (hC : RJ 8 C c) : ∀ (r k f : Nat) (h : HP) (F : Nat → Int64), r + k = 8 → r < f → h[q]? = some (pO 8 fs) → h[kl]? = some (pJ 8 F) → h[kc]? = some (pJ 8 C) → (∀ j, j < k → F j = lN (c j)) → ∃ F', L_Rm_raise_142 K3 K27 f h q (nI k) = some (h.set kl (pJ 8 F')) ∧ RJ 8 F' c := by
  intro r
  induction r with
  | zero =>
    intro k f h F hr hfu hp hl hc hF
    cases f with
    | zero => omega
    | succ f =>
      have hk : k = 8 := by omega
      subst hk
      refine ⟨F, ?_, hF⟩
      show B_Rm_raise_142 K3 K27 _ h q (nI 8) = _
      unfold B_Rm_raise_142
      rw [if_pos (show (8 : Int32) ≤ nI 8 by decide), hid hl]
  | succ r ih =>
    intro k f h F hr hfu hp hl hc hF
    cases f with
    | zero => omega
    | succ f =>
      obtain ⟨F', g1, g2⟩ := ih (k + 1) f (h.set kl (pJ 8 (va_up F k (C k)))) _ (by omega) (by omega) (hn_ hlq hp) (hs_ hl) (hn_ hlc.symm hc) (fun j hj => by
        by_cases z : j = k
        · subst z; rw [up_s]; exact hC j (by omega)
        · rw [up_n z]; exact hF j (by omega))
      refine ⟨F', ?_, g2⟩
      show B_Rm_raise_142 K3 K27 (L_Rm_raise_142 K3 K27 f) h q (nI k) = _
      unfold B_Rm_raise_142
      rw [if_neg (show ¬ (8 : Int32) ≤ nI k from nI_ge (b := 8) (by omega) (by omega))]
      refine (bs_ (gR_at hp hf1)).trans ?_
      refine (bs_ (gR_at hp hf2)).trans ?_
      refine (bs_ (sJ_in k hc rfl (by omega) (by omega))).trans ?_
      refine (bs_ (tJ_in k hl rfl (by omega) (by omega))).trans ?_
      show L_Rm_raise_142 K3 K27 f _ q (nI k + Int32.ofInt 1) = _
      rw [nI_ofInt1]
      refine g1.trans ?_
      rw [hss]
theorem ra_sum {B y0 y1 y2 V6 d6 d7 v0 v1 v2 t0 t1 t2 : Nat} (h0 : v0 + t0 * B ^ 8 = y0 * (V6 + d6 * B ^ 6 + d7 * B ^ 7)) (h1 : v1 + t1 * B ^ 8 = v0 + y1 * B * (V6 + d6 * B ^ 6)) (h2 : v2 + t2 * B ^ 8 = v1 + y2 * B ^ 2 * V6) (hv : v2 < B ^ 8) : v2 = ((V6 + d6 * B ^ 6 + d7 * B ^ 7) * (y0 + y1 * B + y2 * B ^ 2)) % B ^ 8 := by
  have key : (V6 + d6 * B ^ 6 + d7 * B ^ 7) * (y0 + y1 * B + y2 * B ^ 2) = v2 + B ^ 8 * (t0 + t1 + t2 + y1 * d7 + y2 * d6 + y2 * d7 * B) := by grind
  rw [key, Nat.add_mul_mod_self_left, Nat.mod_eq_of_lt hv]
theorem ra_fin0 {B y0 y1 y2 t2 t3 t4 : Nat} {d c2 c3 c4 : Nat → Nat} (h4 : ∀ j, j < 8 → c4 j < B) (a4 : vl B c2 8 + t2 * B ^ 8 + y0 * B ^ 0 * vl B d 0 = vl B (fun _ => 0) 8 + 0 * B ^ (0 + 0) + y0 * B ^ 0 * vl B d (8 - 0)) (b4 : vl B c3 8 + t3 * B ^ 8 + y1 * B ^ 1 * vl B d 0 = vl B c2 8 + 0 * B ^ (1 + 0) + y1 * B ^ 1 * vl B d (8 - 1)) (d4 : vl B c4 8 + t4 * B ^ 8 + y2 * B ^ 2 * vl B d 0 = vl B c3 8 + 0 * B ^ (2 + 0) + y2 * B ^ 2 * vl B d (8 - 2)) : vl B c4 8 = (vl B d 8 * (y0 + y1 * B + y2 * B ^ 2)) % B ^ 8 := by
  have v0 : vl B (fun _ => 0) 8 = 0 := vl_0 8 (fun _ _ => rfl)
  have s8 : vl B d 8 = vl B d 6 + d 6 * B ^ 6 + d 7 * B ^ 7 := rfl
  have s7 : vl B d 7 = vl B d 6 + d 6 * B ^ 6 := rfl
  have v00 : vl B d 0 = 0 := rfl
  have hlt := vl_lt (B := B) 8 h4
  rw [show 8 - 0 = 8 from rfl, v00, v0, s8] at a4
  rw [show 8 - 1 = 7 from rfl, v00, s7] at b4
  rw [show 8 - 2 = 6 from rfl, v00] at d4
  rw [s8]
  exact ra_sum (t0 := t2) (t1 := t3) (t2 := t4) (by simpa using a4) (by simpa using b4) (by simpa using d4) hlt
theorem ra_fin {y0 y1 y2 t2 t3 t4 : Nat} {d c2 c3 c4 : Nat → Nat} (h4 : ∀ j, j < 8 → c4 j < 2 ^ 32) (a4 : vl (2 ^ 32) c2 8 + t2 * (2 ^ 32) ^ 8 + y0 * (2 ^ 32) ^ 0 * vl (2 ^ 32) d 0 = vl (2 ^ 32) (fun _ => 0) 8 + 0 * (2 ^ 32) ^ (0 + 0) + y0 * (2 ^ 32) ^ 0 * vl (2 ^ 32) d (8 - 0)) (b4 : vl (2 ^ 32) c3 8 + t3 * (2 ^ 32) ^ 8 + y1 * (2 ^ 32) ^ 1 * vl (2 ^ 32) d 0 = vl (2 ^ 32) c2 8 + 0 * (2 ^ 32) ^ (1 + 0) + y1 * (2 ^ 32) ^ 1 * vl (2 ^ 32) d (8 - 1)) (d4 : vl (2 ^ 32) c4 8 + t4 * (2 ^ 32) ^ 8 + y2 * (2 ^ 32) ^ 2 * vl (2 ^ 32) d 0 = vl (2 ^ 32) c3 8 + 0 * (2 ^ 32) ^ (2 + 0) + y2 * (2 ^ 32) ^ 2 * vl (2 ^ 32) d (8 - 2)) : vl (2 ^ 32) c4 8 = (vl (2 ^ 32) d 8 * (y0 + y1 * 2 ^ 32 + y2 * (2 ^ 32) ^ 2)) % (2 ^ 32) ^ 8 := ra_fin0 h4 a4 b4 d4
theorem e_raise {h : HP} (hf1 : fs[47]? = some (.ref kl)) (hf2 : fs[48]? = some (.ref kc)) (hlq : kl ≠ q) (hcq : kc ≠ q) (hlc : kc ≠ kl) {xh xl : Nat} (hxh : xh < 2 ^ 32) (hxl : xl < 2 ^ 64) {Lf C0 : Nat → Int64} {d : Nat → Nat} (hd : ∀ k, k < 8 → d k < 2 ^ 32) (hL : RJ 8 Lf d) (hp : h[q]? = some (pO 8 fs)) (hl : h[kl]? = some (pJ 8 Lf)) (hc : h[kc]? = some (pJ 8 C0)) :
    ∃ (L' C' : Nat → Int64) (d' : Nat → Nat), P_Rm_raise h q (lN xh) (lN xl) = some ((h.set kc (pJ 8 C')).set kl (pJ 8 L')) ∧ RJ 8 L' d' ∧ (∀ k, k < 8 → d' k < 2 ^ 32) ∧ vl (2 ^ 32) d' 8 = (vl (2 ^ 32) d 8 * (xl % 2 ^ 32 + xl / 2 ^ 32 * 2 ^ 32 + xh * (2 ^ 32) ^ 2)) % (2 ^ 32) ^ 8 := by
  have zer : ∀ (r k f : Nat) (h : HP) (C : Nat → Int64), r + k = 8 → r < f → h[q]? = some (pO 8 fs) → h[kc]? = some (pJ 8 C) → (∀ j, j < k → C j = lN 0) → ∃ C', L_Rm_raise_3 f h q (lN xh) (lN xl) (nI k) = L_Rm_raise_27 (L_Rm_raise_3 (f - (r + 1))) FU (h.set kc (pJ 8 C')) q (lN xh) (lN xl) 0 ∧ RJ 8 C' (fun _ => 0) := by
    intro r
    induction r with
    | zero =>
      intro k f h C hr hfu hp hc hC
      cases f with
      | zero => omega
      | succ f =>
        have hk : k = 8 := by omega
        subst hk
        refine ⟨C, ?_, hC⟩
        show B_Rm_raise_3 _ h q (lN xh) (lN xl) (nI 8) = _
        unfold B_Rm_raise_3
        rw [if_pos (show (8 : Int32) ≤ nI 8 by decide), hid hc, show f + 1 - (0 + 1) = f from by omega]
    | succ r ih =>
      intro k f h C hr hfu hp hc hC
      cases f with
      | zero => omega
      | succ f =>
        obtain ⟨C', g1, g2⟩ := ih (k + 1) f (h.set kc (pJ 8 (va_up C k (lN 0)))) _ (by omega) (by omega) (hn_ hcq hp) (hs_ hc) (fun j hj => by
          by_cases z : j = k
          · subst z; rw [up_s]
          · rw [up_n z]; exact hC j (by omega))
        refine ⟨C', ?_, g2⟩
        show B_Rm_raise_3 (L_Rm_raise_3 f) h q (lN xh) (lN xl) (nI k) = _
        unfold B_Rm_raise_3
        rw [if_neg (show ¬ (8 : Int32) ≤ nI k from nI_ge (b := 8) (by omega) (by omega))]
        refine (bs_ (gR_at hp hf2)).trans ?_
        refine (bs_ (tJ_in k hc rfl (by omega) (by omega))).trans ?_
        show L_Rm_raise_3 f _ q (lN xh) (lN xl) (nI k + Int32.ofInt 1) = _
        rw [nI_ofInt1]
        refine g1.trans ?_
        rw [hss, show f + 1 - (r + 1 + 1) = f - (r + 1) by omega]
  obtain ⟨C1, z1, z2⟩ := zer 8 0 FU h C0 rfl (by decide) hp hc (fun j hj => absurd hj (Nat.not_lt_zero _))
  generalize L_Rm_raise_3 (FU - (8 + 1)) = K3 at z1
  obtain ⟨fu, hfu⟩ : ∃ f, FU = f + 1 + 1 + 1 + 1 := ⟨69996, rfl⟩
  have un : ∀ (f : Nat) (h : HP) (a b : Int64) (i : Int32), L_Rm_raise_27 K3 (f + 1) h q a b i = B_Rm_raise_27 K3 (L_Rm_raise_27 K3 f) h q a b i := fun _ _ _ _ _ => rfl
  have hy0 : xl % 2 ^ 32 < 2 ^ 32 := Nat.mod_lt _ (by decide)
  have hy1 : xl / 2 ^ 32 < 2 ^ 32 := by rw [Nat.div_lt_iff_lt_mul (by decide)]; omega
  obtain ⟨C2, c2, t2, a1, a2, a3, a4⟩ := ra1 (K3 := K3) (K27 := L_Rm_raise_27 K3 (fu + 1 + 1 + 1)) (a1 := lN xh) (a3 := lN xl) hf1 hf2 hcq hlc (i := 0) (by decide) hy0 hd hL 8 0 FU (h.set kc (pJ 8 C1)) C1 (fun _ => 0) 0 rfl (by decide) (hn_ hcq hp) (hn_ hlc hl) (hs_ hc) z2 (fun _ _ => by decide) (by decide)
  obtain ⟨C3, c3, t3, b1, b2, b3, b4⟩ := ra1 (K3 := K3) (K27 := L_Rm_raise_27 K3 (fu + 1 + 1)) (a1 := lN xh) (a3 := lN xl) hf1 hf2 hcq hlc (i := 1) (by decide) hy1 hd hL 7 0 FU (h.set kc (pJ 8 C2)) C2 c2 0 rfl (by decide) (hn_ hcq hp) (hn_ hlc hl) (hs_ hc) a2 a3 (by decide)
  obtain ⟨C4, c4, t4, d1, d2, d3, d4⟩ := ra1 (K3 := K3) (K27 := L_Rm_raise_27 K3 (fu + 1)) (a1 := lN xh) (a3 := lN xl) hf1 hf2 hcq hlc (i := 2) (by decide) hxh hd hL 6 0 FU (h.set kc (pJ 8 C3)) C3 c3 0 rfl (by decide) (hn_ hcq hp) (hn_ hlc hl) (hs_ hc) b2 b3 (by decide)
  obtain ⟨L', f1, f2⟩ := ra2 (K3 := K3) (K27 := L_Rm_raise_27 K3 fu) hf1 hf2 hlq hlc d2 8 0 FU (h.set kc (pJ 8 C4)) Lf rfl (by decide) (hn_ hcq hp) (hn_ hlc hl) (hs_ hc) (fun j hj => absurd hj (Nat.not_lt_zero _))
  refine ⟨L', C4, c4, ?_, f2, d3, ?_⟩
  · unfold P_Rm_raise
    refine z1.trans ?_
    rw [hfu, un]
    unfold B_Rm_raise_27
    rw [if_neg (show ¬ (3 : Int32) ≤ 0 by decide), if_pos rfl]
    refine lt_e.trans ?_
    rw [show lN xl &&& 4294967295 = lN (xl % 2 ^ 32) from wb_mask (k := 32) hxl (by decide)]
    refine a1.trans ?_
    rw [hss]
    rw [un]
    unfold B_Rm_raise_27
    rw [if_neg (show ¬ (3 : Int32) ≤ nI (0 + 1) by decide), if_neg (show ¬ nI (0 + 1) = 0 by decide), if_pos (show nI (0 + 1) = 1 from rfl)]
    refine lt_e.trans ?_
    rw [show ((lN xl).toUInt64 >>> ((Int32.toInt64 32).toUInt64 &&& Int64.toUInt64 63)).toInt64 = lN (xl / 2 ^ 32) from wb_shr (k := 32) hxl (by decide)]
    refine b1.trans ?_
    rw [hss]
    rw [un]
    unfold B_Rm_raise_27
    rw [if_neg (show ¬ (3 : Int32) ≤ nI (1 + 1) by decide), if_neg (show ¬ nI (1 + 1) = 0 by decide), if_neg (show ¬ nI (1 + 1) = 1 by decide)]
    refine d1.trans ?_
    rw [hss]
    rw [un]
    unfold B_Rm_raise_27
    rw [if_pos (show (3 : Int32) ≤ nI (2 + 1) by decide)]
    exact f1
  · exact ra_fin d3 a4 b4 d4
end RB
