/-! the reference's fits, whole; its root -/
theorem sh_or {a b : Nat} (ha : a < 2 ^ 32) (hb : b < 2 ^ 32) : (lN a <<< (Int32.toInt64 32 &&& 63)) ||| lN b = lN (a * 2 ^ 32 + b) := by
  rw [show lN a <<< (Int32.toInt64 32 &&& 63) = lN (a * 2 ^ 32) from wb_shl a (k := 32) (by decide), wb_or (by omega) (by omega), ← Nat.shiftLeft_eq, ← Nat.shiftLeft_add_eq_or_of_lt hb]
section RG
variable {q kl kc : Nat} {fs : List Value}
theorem fi2 {K3 K36 : HP → Nat → Int64 → Int64 → Int32 → Int32 → Int32 → Option (Int32 × HP)} {a5 : Int32} (hf1 : fs[47]? = some (.ref kl)) {h : HP} {F : Nat → Int64} {d : Nat → Nat} {pw : Nat} (hp : h[q]? = some (pO 8 fs)) (hl : h[kl]? = some (pJ 8 F)) (hF : RJ 8 F d) (hd : ∀ k, k < 8 → d k < 2 ^ 32) (hpw1 : 1 ≤ pw) (hT : vl (2 ^ 32) d 8 / (2 ^ 32) ^ (2 * pw) < 2 ^ 31) : ∀ (r f : Nat), 2 * pw + r ≤ 8 → r < f → ∃ K62, L_Rm_fits_62 K3 K36 f h q a5 (nI pw) (lN (vl (2 ^ 32) d 8 / (2 ^ 32) ^ (2 * pw + r))) (nI (2 * pw + r - 1)) = (if lg_cmp (lN (vl (2 ^ 32) d 8 / (2 ^ 32) ^ (2 * pw))) (Int32.toInt64 a5) = 0 then L_Rm_fits_119 K3 K36 K62 FU h q (nI pw) 0 else if 0 ≤ lg_cmp (lN (vl (2 ^ 32) d 8 / (2 ^ 32) ^ (2 * pw))) (Int32.toInt64 a5) then some (0, h) else some (1, h)) := by
  have e2 : (2 : Int32) * nI pw = nI (2 * pw) := pk_mul 2 pw
  intro r
  induction r with
  | zero =>
    intro f hr hfu
    cases f with
    | zero => omega
    | succ f =>
      refine ⟨L_Rm_fits_62 K3 K36 f, ?_⟩
      show B_Rm_fits_62 K3 K36 _ h q a5 (nI pw) _ (nI (2 * pw + 0 - 1)) = _
      unfold B_Rm_fits_62
      rw [e2, if_pos (nI_lt (by omega) (by omega))]
      rfl
  | succ r ih =>
    intro f hr hfu
    cases f with
    | zero => omega
    | succ f =>
      obtain ⟨K62, g⟩ := ih f (by omega) (by omega)
      refine ⟨K62, ?_⟩
      show B_Rm_fits_62 K3 K36 (L_Rm_fits_62 K3 K36 f) h q a5 (nI pw) _ (nI (2 * pw + (r + 1) - 1)) = _
      unfold B_Rm_fits_62
      rw [e2, if_neg (nI_nlt (by omega) (by omega)), show 2 * pw + (r + 1) - 1 = 2 * pw + r by omega]
      refine (bs_ (gR_at hp hf1)).trans ?_
      refine (bs_ (sJ_in (2 * pw + r) hl rfl (by omega) (by omega))).trans ?_
      have hle : vl (2 ^ 32) d 8 / (2 ^ 32) ^ (2 * pw + (r + 1)) < 2 ^ 32 := by
        refine Nat.lt_of_le_of_lt (Nat.div_le_div_left (Nat.pow_le_pow_right (by decide) (show 2 * pw ≤ 2 * pw + (r + 1) by omega)) (Nat.pow_pos (by decide))) (Nat.lt_trans hT (by decide))
      rw [hF _ (by omega)]
      refine lt_e.trans ?_
      rw [sh_or hle (hd _ (by omega)), show 2 * pw + (r + 1) = 2 * pw + r + 1 from rfl, ← vl_step (by decide) (show 2 * pw + r < 8 by omega) hd]
      show L_Rm_fits_62 K3 K36 f h q a5 (nI pw) _ (nI (2 * pw + r) + (-1)) = _
      rw [show nI (2 * pw + r) + (-1) = nI (2 * pw + r - 1) by
        have := pk_m1 (2 * pw + r - 1)
        rw [show 2 * pw + r - 1 + 1 = 2 * pw + r by omega] at this
        exact this]
      exact g
theorem fit_iff {B V pr m : Nat} (hB : 0 < B ^ m) : V ≤ pr * B ^ m ↔ V / B ^ m < pr ∨ (V / B ^ m = pr ∧ V % B ^ m = 0) := by
  have h1 := Nat.div_add_mod V (B ^ m)
  have h2 := Nat.mod_lt V hB
  generalize V / B ^ m = T at *
  generalize V % B ^ m = u at *
  generalize B ^ m = Z at *
  constructor
  · intro h
    rcases Nat.lt_trichotomy T pr with z | z | z
    · exact Or.inl z
    · right
      subst z
      rw [Nat.mul_comm] at h
      exact ⟨rfl, by omega⟩
    · exfalso
      have h3 : (pr + 1) * Z ≤ T * Z := Nat.mul_le_mul_right Z z
      rw [Nat.add_mul, Nat.one_mul] at h3
      rw [Nat.mul_comm Z T] at h1
      omega
  · rintro (z | ⟨z, y⟩)
    · have h3 : (T + 1) * Z ≤ pr * Z := Nat.mul_le_mul_right Z z
      rw [Nat.add_mul, Nat.one_mul] at h3
      rw [Nat.mul_comm Z T] at h1
      omega
    · subst z
      rw [Nat.mul_comm Z T] at h1
      omega
theorem e_fits {h : HP} (hf1 : fs[47]? = some (.ref kl)) (hf2 : fs[48]? = some (.ref kc)) (hlq : kl ≠ q) (hcq : kc ≠ q) (hlc : kc ≠ kl) {xh xl pw X pr : Nat} (hxh : xh < 2 ^ 32) (hxl : xl < 2 ^ 64) (hX : xl % 2 ^ 32 + xl / 2 ^ 32 * 2 ^ 32 + xh * (2 ^ 32) ^ 2 = X) (hpw1 : 1 ≤ pw) (hpw : pw ≤ 3) (hb : ∀ m, m ≤ pw → X ^ m < (2 ^ 32) ^ 8) (hT : X ^ pw / (2 ^ 32) ^ (2 * pw) < 2 ^ 31) (hpr : pr < 2 ^ 31) {F C : Nat → Int64} (hp : h[q]? = some (pO 8 fs)) (hl : h[kl]? = some (pJ 8 F)) (hc : h[kc]? = some (pJ 8 C)) :
    ∃ (v : Int32) (F' C' : Nat → Int64), P_Rm_fits h q (lN xh) (lN xl) (nI pr) (nI pw) = some (v, (h.set kc (pJ 8 C')).set kl (pJ 8 F')) ∧ ((v = 1 ∧ X ^ pw ≤ pr * (2 ^ 32) ^ (2 * pw)) ∨ (v = 0 ∧ ¬ X ^ pw ≤ pr * (2 ^ 32) ^ (2 * pw))) := by
  obtain ⟨F1, K3, a1, a2⟩ := fi0 (a1 := lN xh) (a3 := lN xl) (a5 := nI pr) (a6 := nI pw) hf1 hlq 8 0 FU h F rfl (by decide) hp hl (fun j hj => absurd hj (Nat.not_lt_zero _))
  have v1 : vl (2 ^ 32) (fun j => if j = 0 then 1 else 0) 8 = X ^ 0 := by
    rw [Nat.pow_zero]
    decide
  obtain ⟨K36, F2, C2, d, b1, b2, b3, b4⟩ := fi1 (K3 := K3) (a5 := nI pr) hf1 hf2 hlq hcq hlc hxh hxl hX (by omega) hb pw 0 FU (h.set kl (pJ 8 F1)) F1 C (fun j => if j = 0 then 1 else 0) rfl (show pw < 70000 by omega) (hn_ hlq hp) (hs_ hl) (hn_ hlc.symm hc) a2 (fun k hk => by
    by_cases z : k = 0
    · rw [if_pos z]; decide
    · rw [if_neg z]; decide) v1
  have hp2 : (((h.set kl (pJ 8 F1)).set kc (pJ 8 C2)).set kl (pJ 8 F2))[q]? = some (pO 8 fs) := hn_ hlq (hn_ hcq (hn_ hlq hp))
  have hl2 : (((h.set kl (pJ 8 F1)).set kc (pJ 8 C2)).set kl (pJ 8 F2))[kl]? = some (pJ 8 F2) := hs_ (hn_ hlc (hs_ hl))
  have e0 : ((h.set kl (pJ 8 F1)).set kc (pJ 8 C2)).set kl (pJ 8 F2) = (h.set kc (pJ 8 C2)).set kl (pJ 8 F2) := by rw [hsc hlc.symm, hss]
  rw [← b4] at hT
  rw [e0] at b1 hp2 hl2
  obtain ⟨K62, c1⟩ := fi2 (K3 := K3) (K36 := K36) (a5 := nI pr) hf1 hp2 hl2 b2 b3 hpw1 hT (8 - 2 * pw) FU (by omega) (show 8 - 2 * pw < 70000 by omega)
  have hV0 : vl (2 ^ 32) d 8 / (2 ^ 32) ^ (2 * pw + (8 - 2 * pw)) = 0 := by
    rw [show 2 * pw + (8 - 2 * pw) = 8 by omega]
    exact Nat.div_eq_of_lt (vl_lt 8 b3)
  rw [hV0, show 2 * pw + (8 - 2 * pw) - 1 = 7 by omega] at c1
  have run : P_Rm_fits h q (lN xh) (lN xl) (nI pr) (nI pw) = _ := a1.trans (b1.trans c1)
  rw [run]
  have hiff := fit_iff (B := 2 ^ 32) (V := X ^ pw) (pr := pr) (m := 2 * pw) (Nat.pow_pos (by decide))
  rw [← b4] at hiff ⊢
  have hmod : vl (2 ^ 32) d 8 % (2 ^ 32) ^ (2 * pw) = vl (2 ^ 32) d (2 * pw) := by
    have := vl_mod (B := 2 ^ 32) (d := d) (m := 2 * pw) (fun i hi => b3 i (by omega)) (8 - 2 * pw)
    rw [show 2 * pw + (8 - 2 * pw) = 8 by omega] at this
    exact this
  rw [nI_l hpr]
  by_cases z : vl (2 ^ 32) d 8 / (2 ^ 32) ^ (2 * pw) = pr
  · rw [if_pos ((lg_cmp_eq _ _).mpr (by rw [z]))]
    obtain ⟨v, g1, g2⟩ := fi3 (K3 := K3) (K36 := K36) (K62 := K62) hf1 hp2 hl2 b2 b3 (by omega) (2 * pw) 0 FU rfl (show 2 * pw < 70000 by omega) (fun j hj => absurd hj (Nat.not_lt_zero _))
    refine ⟨v, F2, C2, g1, ?_⟩
    rcases g2 with ⟨y1, y2⟩ | ⟨y1, j, y2, y3⟩
    · refine Or.inl ⟨y1, hiff.mpr (Or.inr ⟨z, ?_⟩)⟩
      rw [hmod]; exact vl_0 _ y2
    · refine Or.inr ⟨y1, fun y => ?_⟩
      rcases hiff.mp y with w | ⟨-, w⟩
      · omega
      · rw [hmod] at w
        exact y3 (vl_z (by decide) _ w j y2)
  · rw [if_neg (fun e => z ((lN_eq hT hpr).mp ((lg_cmp_eq _ _).mp e)))]
    by_cases y : vl (2 ^ 32) d 8 / (2 ^ 32) ^ (2 * pw) < pr
    · rw [if_neg (fun e => absurd ((lN_le hpr hT).mp ((lg_cmp_ge _ _).mp e)) (by omega))]
      exact ⟨1, F2, C2, rfl, Or.inl ⟨rfl, hiff.mpr (Or.inl y)⟩⟩
    · rw [if_pos ((lg_cmp_ge _ _).mpr ((lN_le hpr hT).mpr (by omega)))]
      refine ⟨0, F2, C2, rfl, Or.inr ⟨rfl, fun w => ?_⟩⟩
      rcases hiff.mp w with w | ⟨w, -⟩
      · exact y w
      · exact z w
end RG
