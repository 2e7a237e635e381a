/-! the reference's bit and multiply -/
theorem bit_d {K r : Nat} (hr : r < 16) (x : Nat) (h : K % 65536 = x) : K / 2 ^ r % 2 = x / 2 ^ r % 2 := by
  subst h
  have : r = 0 ∨ r = 1 ∨ r = 2 ∨ r = 3 ∨ r = 4 ∨ r = 5 ∨ r = 6 ∨ r = 7 ∨ r = 8 ∨ r = 9 ∨ r = 10 ∨ r = 11 ∨ r = 12 ∨ r = 13 ∨ r = 14 ∨ r = 15 := by omega
  rcases this with rfl | rfl | rfl | rfl | rfl | rfl | rfl | rfl | rfl | rfl | rfl | rfl | rfl | rfl | rfl | rfl <;> omega
theorem nI_s4 : ∀ i : Fin 256, nI i.val >>> (4 &&& 31) = nI (i.val / 16) := by decide +kernel
theorem nI_a15 : ∀ i : Fin 256, (Int32.toInt64 (nI i.val &&& 15) &&& 63).toBitVec.smod 64 = BitVec.ofNat 64 (i.val % 16) := by decide +kernel
theorem l2i : ∀ b : Fin 2, Int64.toInt32 (lN b.val) = nI b.val := by decide +kernel
theorem e_bit {h : HP} {a n K i : Nat} {F : Nat → Int64} (hn : 16 ≤ n) (ha : h[a]? = some (pJ n F)) (hF : NM F K) (hi : i < 256) : P_Rm_bit h a (nI i) = some (nI (K / 2 ^ i % 2), h) := by
  obtain ⟨d, h1, h2, h3⟩ := hF
  unfold P_Rm_bit
  refine (bs_ (sJ_in (i / 16) ha (nI_s4 ⟨i, hi⟩) (by omega) (by omega))).trans ?_
  have b1 := h2 (i / 16) (by omega)
  rw [h1 (i / 16) (by omega), pf_shr (d := i % 16) (by rw [nI_a15 ⟨i, hi⟩]; simp; omega) (by omega), wb_a1 (by have := Nat.div_le_self (d (i / 16)) (2 ^ (i % 16)); omega)]
  have e1 : K / 2 ^ i % 2 = d (i / 16) / 2 ^ (i % 16) % 2 := by
    have e2 : 2 ^ i = (2 ^ 16) ^ (i / 16) * 2 ^ (i % 16) := by rw [← Nat.pow_mul, ← Nat.pow_add]; congr 1; omega
    rw [e2, ← Nat.div_div_eq_div_mul]
    refine bit_d (Nat.mod_lt _ (by decide)) _ ?_
    rw [← h3]
    have := vl_dig (B := 2 ^ 16) (d := d) (k := i / 16) (by decide) (15 - i / 16) (fun j hj => h2 j (by omega))
    rw [show i / 16 + (15 - i / 16) + 1 = 16 by omega] at this
    exact this
  rw [e1, l2i ⟨d (i / 16) / 2 ^ (i % 16) % 2, Nat.mod_lt _ (by decide)⟩]
section RMU
variable {q : Nat} {th ta me re kc : Int32} {F : Type} {φ : Nat → F}
theorem rq_z24 {pn qn x : Int32} {h : HP} {E : Nat → Nat} (R : RQ q th ta me re kc pn qn h E) (hx : x = 0 ∨ x = 1) : pZ h q 8 24 x = some (h.set q (pO 8 (RFS q th ta me re kc pn x))) := by
  unfold pZ
  rw [if_pos hx]
  exact pV_at R.1 (show 24 < 50 by decide)
theorem rq_y23 {pn qn x : Int32} {h : HP} {E : Nat → Nat} (R : RQ q th ta me re kc pn qn h E) (hx : x = 0 ∨ x = 1) : pZ h q 8 23 x = some (h.set q (pO 8 (RFS q th ta me re kc x qn))) := by
  unfold pZ
  rw [if_pos hx]
  exact pV_at R.1 (show 23 < 50 by decide)
/-- offsets that add and multiply leave alone -/
def OFr (E E' : Nat → Nat) : Prop := ∀ i, i ≠ 13 → i ≠ 14 → i ≠ 15 → i ≠ 16 → i ≠ 19 → i ≠ 20 → i ≠ 21 → E' i = E i
theorem OFr.tr {E E' E'' : Nat → Nat} (a : OFr E E') (b : OFr E' E'') : OFr E E'' := fun i h1 h2 h3 h4 h5 h6 h7 => (b i h1 h2 h3 h4 h5 h6 h7).trans (a i h1 h2 h3 h4 h5 h6 h7)
theorem mu_loop [Lean.Grind.Field F] (Z : ZF PP φ) {K X Y : Nat} (hX : X < PP) (hY : Y < PP) (ocQ : OC (-3) (φ BB) (some (φ X, φ Y))) : ∀ (i f : Nat) (h : HP) (E : Nat → Nat) (pn qn : Int32), i ≤ 256 → i < f → RQ q th ta me re kc pn qn h E → E 25 = K → E 17 = X → E 18 = Y → (pn = 0 ∨ pn = 1) → (pn = 0 → E 13 < PP ∧ E 14 < PP) → ML φ (K / 2 ^ i) (φ X, φ Y) (PT φ pn (E 13) (E 14)) →
    ∃ h' E' pn', L_Rm_multiply_31 f h q (q + 25) (nI i + (-1)) = some h' ∧ RQ q th ta me re kc pn' 0 h' E' ∧ RKq q h h' ∧ OFr E E' ∧ E' 15 = X ∧ E' 16 = Y ∧ (pn' = 0 ∨ pn' = 1) ∧ (pn' = 0 → E' 13 < PP ∧ E' 14 < PP) ∧ ML φ K (φ X, φ Y) (PT φ pn' (E' 13) (E' 14)) := by
  intro i
  induction i with
  | zero =>
    intro f h E pn qn hi hfu R e25 e17 e18 hp hx hM
    cases f with
    | zero => omega
    | succ f =>
      show ∃ h' E' pn', B_Rm_multiply_31 (L_Rm_multiply_31 f) h q (q + 25) (nI 0 + (-1)) = some h' ∧ _
      unfold B_Rm_multiply_31
      rw [if_pos (show nI 0 + (-1) < 0 by decide), bs_ (gR_at R.1 rfl), bs_ (gR_at R.1 rfl)]
      obtain ⟨h1, g1, g2, g3⟩ := w_copy R.2 (t := 15) (a := 17) (x := X) (ro_d (by decide)) (by rw [← e17]; exact rv_i R.2 (ro_d (by decide))) (by decide)
      have R1 := rq_of R g3 g2
      rw [bs_ g1, bs_ (gR_at R1.1 rfl), bs_ (gR_at R1.1 rfl)]
      obtain ⟨h2, i1, i2, i3⟩ := w_copy R1.2 (t := 16) (a := 18) (x := Y) (ro_d (by decide)) (by rw [← e18]; exact rv_i R1.2 (i := 18) (ro_d (by decide))) (by decide)
      have R2 := rq_of R1 i3 i2
      rw [bs_ i1, bs_ (rq_z24 R2 (Or.inl rfl))]
      refine ⟨_, _, pn, rfl, rq_s24 R2, (RK.kq g3).tr ((RK.kq i3).tr RKq.st), fun i _ _ a b _ _ _ => by rw [up1_n b, up1_n a], rfl, rfl, hp, hx, ?_⟩
      rw [Nat.pow_zero, Nat.div_one] at hM
      exact hM
  | succ i ih =>
    intro f h E pn qn hi hfu R e25 e17 e18 hp hx hM
    cases f with
    | zero => omega
    | succ f =>
      have hb : K / 2 ^ i = K / 2 ^ (i + 1) + K / 2 ^ (i + 1) + K / 2 ^ i % 2 := by
        have : K / 2 ^ (i + 1) = K / 2 ^ i / 2 := by rw [Nat.pow_succ, Nat.div_div_eq_div_mul]
        omega
      show ∃ h' E' pn', B_Rm_multiply_31 (L_Rm_multiply_31 f) h q (q + 25) (nI (i + 1) + (-1)) = some h' ∧ _
      unfold B_Rm_multiply_31
      rw [pk_m1, if_neg (nI_pos (by omega)), bs_ (gR_at R.1 rfl), bs_ (gR_at R.1 rfl)]
      obtain ⟨h1, g1, g2, g3⟩ := w_copy R.2 (t := 15) (a := 13) (x := E 13) (ro_d (by decide)) (rv_i R.2 (ro_d (by decide))) (by decide)
      have R1 := rq_of R g3 g2
      rw [bs_ g1, bs_ (gR_at R1.1 rfl), bs_ (gR_at R1.1 rfl)]
      obtain ⟨h2, i1, i2, i3⟩ := w_copy R1.2 (t := 16) (a := 14) (x := E 14) (ro_d (by decide)) (rv_i R1.2 (i := 14) (ro_d (by decide))) (by decide)
      have R2 := rq_of R1 i3 i2
      rw [bs_ i1, show gI h2 q 8 23 = some pn from gI_at R2.1 rfl, bs_ rfl, bs_ (rq_z24 R2 hp)]
      have R3 := rq_s24 (x := pn) R2
      rw [os_ R3.1]
      obtain ⟨h4, E4, pn4, a1, a2, a3, a4, a5, a6, a7⟩ := w_add Z R3 hp hx hx hM.1 hM.1
      rw [bs_ a1]
      have m2 := ml_add Z hM hM a7
      have E25 : E4 25 = K := by rw [a4 25 (by decide) (by decide) (by decide) (by decide) (by decide)]; exact e25
      have E17 : E4 17 = X := by rw [a4 17 (by decide) (by decide) (by decide) (by decide) (by decide)]; exact e17
      have E18 : E4 18 = Y := by rw [a4 18 (by decide) (by decide) (by decide) (by decide) (by decide)]; exact e18
      have fr4 : OFr E E4 := fun j b1 b2 b3 b4 b5 b6 b7 => by rw [a4 j b1 b2 b5 b6 b7, up1_n b4, up1_n b3]
      obtain ⟨FK, k1, k2⟩ := a2.2.1 25 (ro_d (by decide))
      rw [E25] at k2
      rw [bs2 (e_bit (Nat.le_refl 16) k1 k2 (show i < 256 by omega))]
      have nx : ∀ h', B_Rm_multiply_111 (L_Rm_multiply_31 f) h' q (q + 25) (nI i) = L_Rm_multiply_31 f h' q (q + 25) (nI i + (-1)) := fun h' => rfl
      by_cases z : K / 2 ^ i % 2 = 0
      · rw [z, if_pos (show nI 0 = 0 by decide), nx]
        rw [z] at hb
        rw [Nat.add_zero] at hb
        rw [← hb] at m2
        obtain ⟨h', E', pn', b1, b2, b3, b4, b5⟩ := ih f h4 E4 pn4 pn (by omega) (by omega) a2 E25 E17 E18 a5 a6 m2
        exact ⟨h', E', pn', b1, b2, (RK.kq g3).tr ((RK.kq i3).tr (RKq.st.tr (a3.tr b3))), fr4.tr b4, b5⟩
      · have z1 : K / 2 ^ i % 2 = 1 := by omega
        rw [z1, if_neg (show ¬ nI 1 = 0 by decide), bs_ (gR_at a2.1 rfl), bs_ (gR_at a2.1 rfl)]
        obtain ⟨h5, c1, c2, c3⟩ := w_copy a2.2 (t := 15) (a := 17) (x := X) (ro_d (by decide)) (by rw [← E17]; exact rv_i a2.2 (ro_d (by decide))) (by decide)
        have R5 := rq_of a2 c3 c2
        rw [bs_ c1, bs_ (gR_at R5.1 rfl), bs_ (gR_at R5.1 rfl)]
        obtain ⟨h6, d1, d2, d3⟩ := w_copy R5.2 (t := 16) (a := 18) (x := Y) (ro_d (by decide)) (by rw [← E18]; exact rv_i R5.2 (i := 18) (ro_d (by decide))) (by decide)
        have R6 := rq_of R5 d3 d2
        rw [bs_ d1, bs_ (rq_z24 R6 (Or.inl rfl))]
        have R7 := rq_s24 (x := 0) R6
        rw [os_ R7.1]
        obtain ⟨h8, E8, pn8, f1, f2, f3, f4, f5, f6, f7⟩ := w_add Z R7 a5 a6 (fun _ => ⟨hX, hY⟩) m2.1 ocQ
        rw [bs_ f1, nx]
        have m3 := ml_add Z m2 (ml_1 ocQ) f7
        rw [z1] at hb
        rw [← hb] at m3
        have E25' : E8 25 = K := by rw [f4 25 (by decide) (by decide) (by decide) (by decide) (by decide)]; exact E25
        have E17' : E8 17 = X := by rw [f4 17 (by decide) (by decide) (by decide) (by decide) (by decide)]; exact E17
        have E18' : E8 18 = Y := by rw [f4 18 (by decide) (by decide) (by decide) (by decide) (by decide)]; exact E18
        have fr8 : OFr E4 E8 := fun j b1 b2 b3 b4 b5 b6 b7 => by rw [f4 j b1 b2 b5 b6 b7, up1_n b4, up1_n b3]
        obtain ⟨h', E', pn', b1, b2, b3, b4, b5⟩ := ih f h8 E8 pn8 0 (by omega) (by omega) f2 E25' E17' E18' f5 f6 m3
        exact ⟨h', E', pn', b1, b2, (RK.kq g3).tr ((RK.kq i3).tr (RKq.st.tr (a3.tr ((RK.kq c3).tr ((RK.kq d3).tr (RKq.st.tr (f3.tr b3))))))), fr4.tr (fr8.tr b4), b5⟩
theorem w_multiply [Lean.Grind.Field F] (Z : ZF PP φ) {pn qn : Int32} {h : HP} {E : Nat → Nat} (R : RQ q th ta me re kc pn qn h E) (hX : E 15 < PP) (hY : E 16 < PP) (hK : E 25 < 2 ^ 256) (ocQ : OC (-3) (φ BB) (some (φ (E 15), φ (E 16)))) :
    ∃ h' E' pn', P_Rm_multiply h q (q + 25) = some h' ∧ RQ q th ta me re kc pn' 0 h' E' ∧ RKq q h h' ∧ (∀ i, i ≠ 13 → i ≠ 14 → i ≠ 17 → i ≠ 18 → i ≠ 19 → i ≠ 20 → i ≠ 21 → E' i = E i) ∧ (pn' = 0 ∨ pn' = 1) ∧ (pn' = 0 → E' 13 < PP ∧ E' 14 < PP) ∧ ML φ (E 25) (φ (E 15), φ (E 16)) (PT φ pn' (E' 13) (E' 14)) := by
  obtain ⟨h1, g1, g2, g3⟩ := w_copy R.2 (t := 17) (a := 15) (x := E 15) (ro_d (by decide)) (rv_i R.2 (ro_d (by decide))) (by decide)
  have R1 := rq_of R g3 g2
  obtain ⟨h2, i1, i2, i3⟩ := w_copy R1.2 (t := 18) (a := 16) (x := E 16) (ro_d (by decide)) (rv_i R1.2 (i := 16) (ro_d (by decide))) (by decide)
  have R2 := rq_of R1 i3 i2
  have R3 := rq_s23 (x := 1) R2
  obtain ⟨h', E', pn', b1, b2, b3, b4, b5, b6, b7, b8, b9⟩ := mu_loop Z (K := E 25) hX hY ocQ 256 FU _ _ 1 qn (Nat.le_refl _) (by decide) R3 rfl rfl rfl (Or.inr rfl) (fun c => absurd c (by decide)) (by
    rw [Nat.div_eq_of_lt hK]
    exact ls_o)
  refine ⟨h', E', pn', ?_, b2, (RK.kq g3).tr ((RK.kq i3).tr (RKq.st.tr b3)), fun i a b c d e f g => ?_, b7, b8, b9⟩
  · unfold P_Rm_multiply
    rw [bs_ (gR_at R.1 rfl), bs_ (gR_at R.1 rfl), bs_ g1, bs_ (gR_at R1.1 rfl), bs_ (gR_at R1.1 rfl), bs_ i1, bs_ (rq_y23 R2 (Or.inr rfl))]
    exact b1
  · by_cases z1 : i = 15
    · rw [z1, b5]
    · by_cases z2 : i = 16
      · rw [z2, b6]
      · rw [b4 i a b z1 z2 e f g, up1_n d, up1_n c]
theorem oc_pt [Lean.Grind.Field F] {S : Option (F × F)} (h : OC (-3) (φ BB) S) : OC (-3) (φ BB) S := h
theorem w_fromBase [Lean.Grind.Field F] (Z : ZF PP φ) {pn qn : Int32} {h : HP} {E : Nat → Nat} (R : RQ q th ta me re kc pn qn h E) (hK : E 25 < 2 ^ 256) :
    ∃ h' E' pn', P_Rm_fromBase h q (q + 25) = some h' ∧ RQ q th ta me re kc pn' 0 h' E' ∧ RKq q h h' ∧ (∀ i, i ≠ 13 → i ≠ 14 → i ≠ 15 → i ≠ 16 → i ≠ 17 → i ≠ 18 → i ≠ 19 → i ≠ 20 → i ≠ 21 → E' i = E i) ∧ (pn' = 0 ∨ pn' = 1) ∧ (pn' = 0 → E' 13 < PP ∧ E' 14 < PP) ∧ ML φ (E 25) (φ GX, φ GY) (PT φ pn' (E' 13) (E' 14)) := by
  obtain ⟨h1, g1, g2, g3⟩ := w_copy R.2 (t := 15) (a := 9) (x := GX) (ro_d (by decide)) R.2.2.1.2.2.2.1 (by decide)
  have R1 := rq_of R g3 g2
  obtain ⟨h2, i1, i2, i3⟩ := w_copy R1.2 (t := 16) (a := 10) (x := GY) (ro_d (by decide)) R1.2.2.1.2.2.2.2 (by decide)
  have R2 := rq_of R1 i3 i2
  obtain ⟨h', E', pn', b1, b2, b3, b4, b5, b6, b7⟩ := w_multiply Z R2 (show GX < PP by decide) (show GY < PP by decide) hK (oc_g Z)
  refine ⟨h', E', pn', ?_, b2, (RK.kq g3).tr ((RK.kq i3).tr b3), fun i a b c d e f g j k => by rw [b4 i a b e f g j k, up1_n d, up1_n c], b5, b6, b7⟩
  unfold P_Rm_fromBase
  rw [bs_ (gR_at R.1 rfl), bs_ (gR_at R.1 rfl), bs_ g1, bs_ (gR_at R1.1 rfl), bs_ (gR_at R1.1 rfl), bs_ i1, os_ R2.1, bs_ b1]
end RMU
