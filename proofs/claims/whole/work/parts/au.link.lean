/-! the reference's link -/
section LNK
variable {q : Nat} {fs : List Value}
/-- what the reference's chain of HMACs has: key and value -/
def RCh (q : Nat) (fs : List Value) (key val : Nat → Int8) (h : HP) : Prop := RHq q fs h ∧ (fs[33]? = some (.ref (q + 27)) ∧ fs[34]? = some (.ref (q + 28)) ∧ fs[35]? = some (.ref (q + 29)) ∧ fs[36]? = some (.ref (q + 30))) ∧ h[q + 27]? = some (pB 32 key) ∧ h[q + 28]? = some (pB 32 val) ∧ (∃ g, h[q + 29]? = some (pB 256 g)) ∧ ∃ g, h[q + 30]? = some (pB 65600 g)
def KL (q : Nat) : List Nat := [q + 40, q + 39, q + 43, q + 30, q + 29, q + 28, q + 27]
theorem w_draw {key val : Nat → Int8} {h : HP} (C : RCh q fs key val h) : ∃ h', P_Rm_draw h q = some h' ∧ RCh q fs key (dgs val (hmac key val 32) 32) h' ∧ KP (KL q) h h' := by
  obtain ⟨o, ⟨f1, f2, f3, f4⟩, c1, c2, ⟨g, c3⟩, ⟨g', c4⟩⟩ := C
  obtain ⟨h', m', a1, a2, a3, a4, a5, a6⟩ := e_draw (rh_nd q) o f4 f3 f1 f2 (by simp) (by simp) (by simp) (by simp) c1 c3 c4 c2 (by decide)
  refine ⟨h', a1, ⟨a2, ⟨f1, f2, f3, f4⟩, ?_, a5, ⟨m', a4⟩, a3⟩, a6.up (by unfold KL; simp)⟩
  rw [a6.2 (q + 27) (by simp)]
  exact c1
/-- key, then draw -/
theorem lk_94 {K3 : HP → Nat → Int32 → Int32 → Int32 → Int32 → Option (HP)} {key val r : Nat → Int8} {h : HP} {a2 : Int32} {len : Nat} (hl : (a2 = 0 ∧ len = 33) ∨ (a2 ≠ 0 ∧ len = 97)) (C : RCh q fs key val h) (hm : h[q + 29]? = some (pB 256 r)) : ∃ h' key', B_Rm_link_94 K3 h q a2 = some h' ∧ key' = dgs key (hmac key r len) 32 ∧ RCh q fs key' (dgs val (hmac key' val 32) 32) h' ∧ KP (KL q) h h' := by
  have C0 := C
  obtain ⟨o, ⟨f1, f2, f3, f4⟩, c1, c2, ⟨g, c3⟩, ⟨g', c4⟩⟩ := C
  have hl2 : len ≤ 97 := by rcases hl with ⟨_, q⟩ | ⟨_, q⟩ <;> omega
  obtain ⟨h1, a1, a2', a3, a4, a5⟩ := e_keyed (len := len) (rh_nd q) o f4 f3 f1 (by simp) (by simp) (by simp) (show q + 27 ∉ [q, q + 40, q + 39, q + 37, q + 38, q + 43, q + 30] by simp) c1 hm c4 c1 (by omega) (by omega)
  have C1 : RCh q fs (dgs key (hmac key r len) 32) val h1 := ⟨a2', ⟨f1, f2, f3, f4⟩, a4, by rw [a5.2 (q + 28) (by simp)]; exact c2, ⟨r, by rw [a5.2 (q + 29) (by simp)]; exact hm⟩, a3⟩
  obtain ⟨h2, b1, b2, b3⟩ := w_draw C1
  refine ⟨h2, _, ?_, rfl, b2, (a5.up (by unfold KL; simp)).tr b3⟩
  unfold B_Rm_link_94
  rw [bs_ (gR_at o.1 f1)]
  rcases hl with ⟨z, rfl⟩ | ⟨z, rfl⟩
  · rw [if_pos z, os_ o.1, show P_Rm_keyed h q (q + 27) 33 = some h1 from a1, bs_ rfl, os_ a2'.1, bs_ b1]
  · rw [if_neg z, os_ o.1, show P_Rm_keyed h q (q + 27) 97 = some h1 from a1, bs_ rfl, os_ a2'.1, bs_ b1]
/-- the value's bytes and the tag -/
theorem lk_3 {key val : Nat → Int8} {h : HP} {a1 a2 a3 : Int32} (C : RCh q fs key val h) : ∃ r f, (∀ k, k < 32 → r k = val k) ∧ r 32 = Int32.toInt8 a1 ∧ P_Rm_link h q a1 a2 a3 = (if a2 = 0 then B_Rm_link_94 (L_Rm_link_3 f) (h.set (q + 29) (pB 256 r)) q a2 else L_Rm_link_46 (L_Rm_link_3 f) FU (h.set (q + 29) (pB 256 r)) q a2 a3 0) := by
  obtain ⟨o, ⟨f1, f2, f3, f4⟩, c1, c2, ⟨g, c3⟩, ⟨g', c4⟩⟩ := C
  obtain ⟨T', g1, g2, g3⟩ := rwb (n := 32) (o := 0) (h0 := h) (t := q + 29) (nt := 256) (T0 := g) val (fun f h i => L_Rm_link_3 f h q a1 a2 a3 i) (by
    intro i f T hi
    show B_Rm_link_3 (L_Rm_link_3 f) _ q a1 a2 a3 (nI i) = _
    unfold B_Rm_link_3
    rw [if_neg (show ¬ (32 : Int32) ≤ nI i from nI_ge (b := 32) (by omega) (by omega))]
    refine (bs_ (gR_at (hn_ (by omega) o.1) f3)).trans ?_
    refine (bs_ (gR_at (hn_ (by omega) o.1) f2)).trans ?_
    refine (bs_ (sB_in i (hn_ (by omega) c2) rfl (by omega) (by omega))).trans ?_
    refine (bs_ (tB_in i (hs_ c3) rfl (by omega) (by omega))).trans ?_
    rw [hss, i8_r, Nat.zero_add]
    show L_Rm_link_3 f _ q a1 a2 a3 (nI i + Int32.ofInt 1) = _
    rw [nI_ofInt1]) 32 0 (FU - 32) g rfl (fun k hk => absurd hk (Nat.not_lt_zero _)) (fun _ _ => rfl)
  rw [hid c3] at g1
  refine ⟨va_up T' 32 (Int32.toInt8 a1), FU - 32 - 1, fun k hk => ?_, up_s, ?_⟩
  · rw [up_n (by omega)]
    have := g2 k hk
    rw [Nat.zero_add] at this
    exact this
  · refine Eq.trans g1 ?_
    show B_Rm_link_3 (L_Rm_link_3 (FU - 32 - 1)) _ q a1 a2 a3 (nI 32) = _
    unfold B_Rm_link_3
    rw [if_pos (show (32 : Int32) ≤ nI 32 by decide)]
    refine (bs_ (gR_at (hn_ (by omega) o.1) f3)).trans ?_
    refine (bs_ (tB_in 32 (hs_ c3) rfl (by decide) (by decide))).trans ?_
    rw [hss, i8_r]
theorem rch_m {key val r : Nat → Int8} {h : HP} (C : RCh q fs key val h) : RCh q fs key val (h.set (q + 29) (pB 256 r)) := by
  obtain ⟨o, ⟨f1, f2, f3, f4⟩, c1, c2, ⟨g, c3⟩, ⟨g', c4⟩⟩ := C
  exact ⟨RHo.kp o (KP.st (S := [q + 29]) (by simp)) (by simp), ⟨f1, f2, f3, f4⟩, hn_ (by omega) c1, hn_ (by omega) c2, ⟨r, hs_ c3⟩, ⟨g', hn_ (by omega) c4⟩⟩
theorem w_link0 {key val : Nat → Int8} {h : HP} {a1 a3 : Int32} (C : RCh q fs key val h) : ∃ h' key' r, P_Rm_link h q a1 0 a3 = some h' ∧ (∀ k, k < 32 → r k = val k) ∧ r 32 = Int32.toInt8 a1 ∧ key' = dgs key (hmac key r 33) 32 ∧ RCh q fs key' (dgs val (hmac key' val 32) 32) h' ∧ KP (KL q) h h' := by
  obtain ⟨r, f, r1, r2, r3⟩ := lk_3 (a1 := a1) (a2 := 0) (a3 := a3) C
  have C1 := rch_m (r := r) C
  obtain ⟨g, c3⟩ := C.2.2.2.2.1
  obtain ⟨h', key', b1, b2, b3, b4⟩ := lk_94 (K3 := L_Rm_link_3 f) (a2 := 0) (len := 33) (Or.inl ⟨rfl, rfl⟩) C1 (hs_ c3)
  refine ⟨h', key', r, ?_, r1, r2, b2, b3, (KP.st (by unfold KL; simp)).tr b4⟩
  rw [r3, if_pos rfl]
  exact b1
end LNK
