/-! the reference's link, with a key -/
section LNL
variable {q : Nat} {fs : List Value}
theorem w_link1 {key val ky : Nat → Int8} {h : HP} {a1 : Int32} {n z : Nat} (C : RCh q fs key val h) (g4 : fs[4]? = some (.ref (q + 4))) (g28 : fs[28]? = some (.ref (q + 22))) (hn : n < 100) (hk : h[q + 4]? = some (pB 3200 ky)) (hz : RV q h 22 z) : ∃ h' key' r, P_Rm_link h q a1 1 (nI n) = some h' ∧ (∀ k, k < 32 → r k = val k) ∧ r 32 = Int32.toInt8 a1 ∧ (∀ k, k < 32 → r (33 + k) = ky (32 * n + k)) ∧ (∀ k, k < 32 → r (65 + k) = btv z k) ∧ key' = dgs key (hmac key r 97) 32 ∧ RCh q fs key' (dgs val (hmac key' val 32) 32) h' ∧ KP (KL q) h h' := by
  obtain ⟨r, f, r1, r2, r3⟩ := lk_3 (a1 := a1) (a2 := 1) (a3 := nI n) C
  have C1 := rch_m (r := r) C
  obtain ⟨g, c3⟩ := C.2.2.2.2.1
  obtain ⟨h1, hh1⟩ : ∃ h1, h1 = h.set (q + 29) (pB 256 r) := ⟨_, rfl⟩
  rw [← hh1] at r3 C1
  have k1 : h1[q + 4]? = some (pB 3200 ky) := by rw [hh1]; exact hn_ (by omega) hk
  have m1 : h1[q + 29]? = some (pB 256 r) := by rw [hh1]; exact hs_ c3
  have z1 : RV q h1 22 z := by
    obtain ⟨Zr, a, b⟩ := hz
    exact ⟨Zr, by rw [hh1]; exact hn_ (by omega) a, b⟩
  have o1 := C1.1
  have f3 := C1.2.1.2.2.1
  obtain ⟨T', g1, g2, g3⟩ := rwb (n := 32) (o := 33) (h0 := h1) (t := q + 29) (nt := 256) (T0 := r) (fun k => ky (32 * n + k)) (fun f' h i => L_Rm_link_46 (L_Rm_link_3 f) f' h q 1 (nI n) i) (by
    intro i f' T hi
    show B_Rm_link_46 (L_Rm_link_3 f) (L_Rm_link_46 (L_Rm_link_3 f) f') _ q 1 (nI n) (nI i) = _
    unfold B_Rm_link_46
    rw [if_neg (show ¬ (32 : Int32) ≤ nI i from nI_ge (b := 32) (by omega) (by omega))]
    refine (bs_ (gR_at (hn_ (by omega) o1.1) f3)).trans ?_
    refine (bs_ (gR_at (hn_ (by omega) o1.1) g4)).trans ?_
    refine (bs_ (sB_in (32 * n + i) (hn_ (by omega) k1) (show 32 * nI n + nI i = nI (32 * n + i) by rw [show (32 : Int32) * nI n = nI (32 * n) from pk_mul 32 n, nI_add]) (by omega) (by omega))).trans ?_
    refine (bs_ (tB_in (33 + i) (hs_ m1) (show 33 + nI i = nI (33 + i) from nI_add 33 i) (by omega) (by omega))).trans ?_
    rw [hss, i8_r]
    show L_Rm_link_46 (L_Rm_link_3 f) f' _ q 1 (nI n) (nI i + Int32.ofInt 1) = _
    rw [nI_ofInt1]) 32 0 (FU - 32) r rfl (fun k hk => absurd hk (Nat.not_lt_zero _)) (fun _ _ => rfl)
  rw [hid m1] at g1
  have C2 := rch_m (r := T') C1
  have m2 : (h1.set (q + 29) (pB 256 T'))[q + 29]? = some (pB 256 T') := hs_ m1
  obtain ⟨Zr, za, zb⟩ := z1
  obtain ⟨row', s1, s2, s3⟩ := e_store (h := h1.set (q + 29) (pB 256 T')) (kt := q + 29) (at' := 65) (a := q + 22) (by decide) (by decide) (Nat.le_refl 16) (by omega) m2 (hn_ (by omega) za) zb
  rw [hss] at s1
  have C3 := rch_m (r := row') C1
  obtain ⟨h', key', b1, b2, b3, b4⟩ := lk_94 (K3 := L_Rm_link_3 f) (a2 := 1) (len := 97) (Or.inr ⟨by decide, rfl⟩) C3 (hs_ m1)
  refine ⟨h', key', row', ?_, fun k hk => ?_, ?_, fun k hk => ?_, s2, b2, b3, ?_⟩
  · rw [r3, if_neg (show ¬ (1 : Int32) = 0 by decide)]
    refine Eq.trans g1 ?_
    show B_Rm_link_46 (L_Rm_link_3 f) _ _ q 1 (nI n) (nI 32) = _
    unfold B_Rm_link_46
    rw [if_pos (show (32 : Int32) ≤ nI 32 by decide)]
    refine (bs_ (gR_at C2.1.1 f3)).trans ?_
    refine (bs_ (gR_at C2.1.1 g28)).trans ?_
    refine (bs_ s1).trans ?_
    exact b1
  · rw [s3 k (by omega), g3 k (by omega), r1 k hk]
  · rw [s3 32 (by omega), g3 32 (by omega), r2]
  · rw [s3 (33 + k) (by omega), g2 k hk]
  · have e1 : KP (KL q) h h1 := by rw [hh1]; exact KP.st (by unfold KL; simp)
    exact e1.tr ((KP.st (by unfold KL; simp)).tr b4)
end LNL
