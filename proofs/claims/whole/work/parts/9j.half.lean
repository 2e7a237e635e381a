/-! the reference's one, halve, half -/
theorem vl_is1 {B : Nat} {d : Nat → Nat} (hB : 1 < B) (hd : ∀ k, k < 16 → d k < B) : vl B d 16 = 1 ↔ d 0 = 1 ∧ ∀ k, 1 ≤ k → k < 16 → d k = 0 := by
  have e := vl_one (B := B) (v := 1) 15
  constructor
  · intro h
    have i := vl_inj 16 hd (fun k hk => show (if k = 0 then 1 else 0) < B by split <;> omega) (h.trans e.symm)
    exact ⟨i 0 (by decide), fun k h1 h2 => by rw [i k h2, if_neg (by omega)]⟩
  · intro ⟨h1, h2⟩
    rw [← e]
    refine vl_eq 16 (fun k hk => ?_)
    by_cases z : k = 0
    · rw [z, h1]; rfl
    · rw [h2 k (by omega) hk, if_neg z]
theorem on_12 {h : HP} {a n : Nat} {F : Nat → Int64} {d : Nat → Nat} (hn : 16 ≤ n) (ha : h[a]? = some (pJ n F)) (h1 : RJ 16 F d) (h2 : ∀ k, k < 16 → d k < 2 ^ 16) : ∀ (r i f : Nat), r + i = 16 → r < f → ∃ b : Bool, L_Rm_one_12 f h a (nI i) = some (bi b, h) ∧ (b = true ↔ ∀ k, i ≤ k → k < 16 → d k = 0)
  | 0, i, f, hr, hfu => by
    have : i = 16 := by omega
    subst this
    cases f with
    | zero => omega
    | succ f =>
      refine ⟨true, ?_, ⟨fun _ k a b => by omega, fun _ => rfl⟩⟩
      show B_Rm_one_12 (L_Rm_one_12 f) h a (nI 16) = _
      unfold B_Rm_one_12
      rw [if_pos (show (16 : Int32) ≤ nI 16 by decide)]
      rfl
  | r + 1, i, f, hr, hfu => by
    cases f with
    | zero => omega
    | succ f =>
      obtain ⟨b, g1, g2⟩ := on_12 hn ha h1 h2 r (i + 1) f (by omega) (by omega)
      have st : L_Rm_one_12 (f + 1) h a (nI i) = if lg_cmp (lN (d i)) 0 = 0 then L_Rm_one_12 f h a (nI (i + 1)) else some (0, h) := by
        show B_Rm_one_12 (L_Rm_one_12 f) h a (nI i) = _
        unfold B_Rm_one_12
        rw [if_neg (show ¬ (16 : Int32) ≤ nI i from nI_ge (b := 16) (by omega) (by omega)), bs_ (sJ_in i ha rfl (by omega) (by omega)), h1 i (by omega), ← nI_ofInt1]
        rfl
      have hz : (lg_cmp (lN (d i)) 0 = 0) ↔ d i = 0 := by
        have := h2 i (by omega)
        rw [lZ_N, lg_eq0 (by omega) (by omega)]
        omega
      by_cases z : d i = 0
      · refine ⟨b, by rw [st, if_pos (hz.mpr z)]; exact g1, g2.trans ⟨fun q k k1 k2 => ?_, fun q k k1 k2 => q k (by omega) k2⟩⟩
        by_cases y : k = i
        · rw [y]; exact z
        · exact q k (by omega) k2
      · refine ⟨false, by rw [st, if_neg (fun q => z (hz.mp q))]; rfl, ⟨fun q => absurd q (by decide), fun q => absurd (q i (Nat.le_refl _) (by omega)) z⟩⟩
theorem e_one {h : HP} {a n v : Nat} {F : Nat → Int64} (hn : 16 ≤ n) (ha : h[a]? = some (pJ n F)) (hv : NM F v) : P_Rm_one h a = some (bi (decide (v = 1)), h) := by
  obtain ⟨d, h1, h2, rfl⟩ := hv
  obtain ⟨b, g1, g2⟩ := on_12 hn ha h1 h2 15 1 FU rfl (by decide)
  have hi := vl_is1 (B := 2 ^ 16) (by decide) h2
  unfold P_Rm_one
  refine (bs_ (sJ_in 0 ha rfl (by omega) (by decide))).trans ?_
  rw [h1 0 (by decide)]
  have h0 := h2 0 (by decide)
  have hz : (lg_cmp (lN (d 0)) 1 = 0) ↔ d 0 = 1 := by
    rw [lg_cmp_eq]
    exact lN_inj16 (b := 1) h0 (by decide)
  by_cases z : d 0 = 1
  · rw [if_pos (hz.mpr z)]
    refine g1.trans ?_
    cases b with
    | true => rw [decide_eq_true (hi.mpr ⟨z, g2.mp rfl⟩)]
    | false => rw [decide_eq_false (fun q => absurd (g2.mpr (hi.mp q).2) (by decide))]
  · rw [if_neg (fun q => z (hz.mp q)), decide_eq_false (fun q => z (hi.mp q).1)]
    rfl
theorem hv_el {a b : Nat} (ha : a < 2 ^ 16) (hb : b < 2 ^ 16) : (lN a >>> (Int32.toInt64 1 &&& 63)) ||| ((lN b &&& 1) <<< (Int32.toInt64 15 &&& 63)) = lN (a / 2 + b % 2 * 32768) := by
  rw [pf_shr (d := 1) (by decide) (by omega), wb_a1 (by omega), show (lN (b % 2) <<< (Int32.toInt64 15 &&& 63)) = lN (b % 2 * 2 ^ 15) from wb_shl (b % 2) (k := 15) (by decide)]
  exact g_or' (k := 15) (p := 32768) (by decide) (by omega) (by omega)
theorem hv_e0 {a : Nat} (ha : a < 2 ^ 16) : (lN a >>> (Int32.toInt64 1 &&& 63)) ||| 0 = lN (a / 2) := by
  rw [pf_shr (d := 1) (by decide) (by omega)]
  exact Int64.or_zero
theorem hv_vl {B : Nat} (hB : B % 2 = 0) {d : Nat → Nat} : ∀ n, 2 * vl B (fun i => d i / 2 + d (i + 1) % 2 * (B / 2)) n + d 0 % 2 = vl B d n + d n % 2 * B ^ n
  | 0 => by show 2 * 0 + d 0 % 2 = 0 + d 0 % 2 * B ^ 0; simp
  | n + 1 => by
    have ih := hv_vl hB (d := d) n
    show 2 * (vl B (fun i => d i / 2 + d (i + 1) % 2 * (B / 2)) n + (d n / 2 + d (n + 1) % 2 * (B / 2)) * B ^ n) + d 0 % 2 = vl B d n + d n * B ^ n + d (n + 1) % 2 * B ^ (n + 1)
    have e1 : d n = 2 * (d n / 2) + d n % 2 := by omega
    have e2 : 2 * (B / 2) = B := by omega
    generalize vl B (fun i => d i / 2 + d (i + 1) % 2 * (B / 2)) n = V at *
    generalize hX : d n / 2 = X at *
    generalize hY : d n % 2 = Y at *
    generalize d (n + 1) % 2 = Z at *
    generalize hP : B ^ n = P at *
    rw [Nat.pow_succ, hP, e1]
    generalize B / 2 = H at *
    subst e2
    grind
theorem e_halve {h : HP} {a n v : Nat} {F : Nat → Int64} (hn : 16 ≤ n) (ha : h[a]? = some (pJ n F)) (hv : NM F v) : ∃ F', P_Rm_halve h a = some (h.set a (pJ n F')) ∧ NM F' (v / 2) ∧ ∀ k, 16 ≤ k → F' k = F k := by
  obtain ⟨d, h1, h2, rfl⟩ := hv
  obtain ⟨e, he⟩ : ∃ e : Nat → Nat, e = fun k => if k < 16 then d k else 0 := ⟨_, rfl⟩
  have eb : ∀ k, e k < 2 ^ 16 := fun k => by rw [he]; show (if k < 16 then d k else 0) < _; split; exact h2 k (by assumption); decide
  have ed : ∀ k, k < 16 → e k = d k := fun k hk => by rw [he]; exact if_pos hk
  obtain ⟨T', g1, g2, g3⟩ := rwl0 (n := 16) (fun i => lN (e i / 2 + e (i + 1) % 2 * 32768)) (fun f h i => L_Rm_halve_2 f h a i) ha (by
    intro i f T hi _ hT
    show B_Rm_halve_2 (L_Rm_halve_2 f) _ a (nI i) = _
    unfold B_Rm_halve_2
    rw [if_neg (show ¬ (16 : Int32) ≤ nI i from nI_ge (b := 16) (by omega) (by omega))]
    refine (bs_ (sJ_in i (hs_ ha) rfl (by omega) (by omega))).trans ?_
    rw [hT i (Nat.le_refl _), h1 i hi, ← ed i hi]
    by_cases z : i = 15
    · rw [if_pos (show (15 : Int32) ≤ nI i from nI_le (a := 15) (by omega) (by omega)), hv_e0 (eb i)]
      refine (bs_ (tJ_in i (hs_ ha) rfl (by omega) (by omega))).trans ?_
      rw [hss]
      show L_Rm_halve_2 f _ a (nI i + Int32.ofInt 1) = _
      rw [nI_ofInt1, show e (i + 1) = 0 by rw [he]; exact if_neg (by omega)]
      rfl
    · rw [if_neg (show ¬ (15 : Int32) ≤ nI i from nI_ge (b := 15) (by omega) (by omega))]
      refine (bs_ (sJ_in (i + 1) (hs_ ha) (nI_1 i) (by omega) (by omega))).trans ?_
      rw [hT (i + 1) (by omega), h1 (i + 1) (by omega), ← ed (i + 1) (by omega), hv_el (eb i) (eb (i + 1))]
      refine (bs_ (tJ_in i (hs_ ha) rfl (by omega) (by omega))).trans ?_
      rw [hss]
      show L_Rm_halve_2 f _ a (nI i + Int32.ofInt 1) = _
      rw [nI_ofInt1]) (FU - 16)
  refine ⟨T', ?_, ⟨fun i => e i / 2 + e (i + 1) % 2 * 32768, g2, fun k _ => ?_, ?_⟩, g3⟩
  · refine Eq.trans g1 ?_
    show B_Rm_halve_2 _ _ a (nI 16) = _
    unfold B_Rm_halve_2
    rw [if_pos (show (16 : Int32) ≤ nI 16 by decide)]
  · have := eb k
    show e k / 2 + e (k + 1) % 2 * 32768 < 2 ^ 16
    omega
  · have := hv_vl (B := 2 ^ 16) (by decide) (d := e) 16
    rw [show e 16 = 0 by rw [he]; rfl, vl_eq 16 (fun k hk => ed k hk)] at this
    have e4 : vl (2 ^ 16) (fun i => e i / 2 + e (i + 1) % 2 * (2 ^ 16 / 2)) 16 = vl (2 ^ 16) (fun i => e i / 2 + e (i + 1) % 2 * 32768) 16 := rfl
    rw [e4] at this
    omega
/-- the second half of half: a shift by one of seventeen digits, of which the last is 0 or 1 -/
theorem hf_62 {h : HP} {a : Nat} {F : Nat → Int64} {d : Nat → Nat} (ha : h[a]? = some (pJ 17 F)) (h1 : RJ 17 F d) (h2 : ∀ k, k < 16 → d k < 2 ^ 16) (h3 : d 16 ≤ 1) : ∃ F', B_Rm_half_62 h a = some (h.set a (pJ 17 F')) ∧ NM F' ((vl (2 ^ 16) d 16 + d 16 * 2 ^ 256) / 2) ∧ F' 16 = 0 := by
  have eb : ∀ k, k ≤ 16 → d k < 2 ^ 16 := fun k hk => by
    by_cases z : k = 16
    · rw [z]; omega
    · exact h2 k (by omega)
  obtain ⟨T', g1, g2, g3⟩ := rwl0 (n := 16) (fun i => lN (d i / 2 + d (i + 1) % 2 * 32768)) (fun f h i => L_Rm_half_64 f h a i) ha (by
    intro i f T hi _ hT
    show B_Rm_half_64 (L_Rm_half_64 f) _ a (nI i) = _
    unfold B_Rm_half_64
    rw [if_neg (show ¬ (16 : Int32) ≤ nI i from nI_ge (b := 16) (by omega) (by omega))]
    refine (bs_ (sJ_in i (hs_ ha) rfl (by omega) (by omega))).trans ?_
    refine (bs_ (sJ_in (i + 1) (hs_ ha) (nI_1 i) (by omega) (by omega))).trans ?_
    rw [hT i (Nat.le_refl _), hT (i + 1) (by omega), h1 i (by omega), h1 (i + 1) (by omega), hv_el (eb i (by omega)) (eb (i + 1) (by omega))]
    refine (bs_ (tJ_in i (hs_ ha) rfl (by omega) (by omega))).trans ?_
    rw [hss]
    show L_Rm_half_64 f _ a (nI i + Int32.ofInt 1) = _
    rw [nI_ofInt1]) (FU - 16)
  refine ⟨va_up T' 16 0, ?_, ⟨fun i => d i / 2 + d (i + 1) % 2 * 32768, fun k hk => ?_, fun k hk => ?_, ?_⟩, up_s⟩
  · refine Eq.trans g1 ?_
    show B_Rm_half_64 _ _ a (nI 16) = _
    unfold B_Rm_half_64
    rw [if_pos (show (16 : Int32) ≤ nI 16 by decide)]
    refine (bs_ (sJ_in 16 (hs_ ha) rfl (by omega) (by omega))).trans ?_
    rw [g3 16 (Nat.le_refl _), h1 16 (by omega), pf_shr (d := 1) (by decide) (by omega), show d 16 / 2 ^ 1 = 0 by omega]
    refine (bs_ (tJ_in 16 (hs_ ha) rfl (by omega) (by omega))).trans ?_
    rw [hss]
    rfl
  · rw [up_n (by omega)]; exact g2 k hk
  · have := eb k (by omega)
    show d k / 2 + d (k + 1) % 2 * 32768 < 2 ^ 16
    omega
  · have := hv_vl (B := 2 ^ 16) (by decide) (d := d) 16
    have e4 : vl (2 ^ 16) (fun i => d i / 2 + d (i + 1) % 2 * (2 ^ 16 / 2)) 16 = vl (2 ^ 16) (fun i => d i / 2 + d (i + 1) % 2 * 32768) 16 := rfl
    rw [e4, show d 16 % 2 = d 16 by omega, show ((2 ^ 16) ^ 16 : Nat) = 2 ^ 256 by decide] at this
    omega
