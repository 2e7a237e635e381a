/-! the reference's load -/
theorem by_ld : ∀ b : Fin 256, (Int32.toInt8 (nI b.val)).toInt32 &&& 255 = nI b.val := by decide +kernel
def dd2 (f : Nat → Int8) (i : Nat) : Nat := 256 * byN (f (30 - 2 * i)) + byN (f (31 - 2 * i))
theorem dd2_lt (f : Nat → Int8) (i : Nat) : dd2 f i < 2 ^ 16 := by
  unfold dd2
  have := byN_lt (f (30 - 2 * i))
  have := byN_lt (f (31 - 2 * i))
  omega
theorem leb_vl (f : Nat → Int8) : ∀ i, i ≤ 16 → vl (2 ^ 16) (dd2 f) i = leb f 32 (2 * i)
  | 0, _ => rfl
  | i + 1, hi => by
    show vl (2 ^ 16) (dd2 f) i + dd2 f i * (2 ^ 16) ^ i = leb f 32 (2 * i) + byN (f (32 - 1 - 2 * i)) * 256 ^ (2 * i) + byN (f (32 - 1 - (2 * i + 1))) * 256 ^ (2 * i + 1)
    rw [leb_vl f i (by omega), show 32 - 1 - 2 * i = 31 - 2 * i by omega, show 32 - 1 - (2 * i + 1) = 30 - 2 * i by omega]
    have e1 : (2 ^ 16) ^ i = 256 ^ (2 * i) := by rw [Nat.pow_mul]
    rw [e1, Nat.pow_succ]
    unfold dd2
    generalize 256 ^ (2 * i) = P
    generalize byN (f (30 - 2 * i)) = x
    generalize byN (f (31 - 2 * i)) = y
    rw [Nat.add_mul, Nat.mul_comm P 256, ← Nat.mul_assoc, Nat.mul_comm x 256]
    omega
theorem or_8 : ∀ a b : Fin 256, Int32.toInt64 ((nI a.val <<< (8 &&& 31)) ||| nI b.val) = lN (256 * a.val + b.val) := by
  intro a b
  have h1 : nI a.val <<< (8 &&& 31) = nI (a.val * 256) := by
    have : ∀ a : Fin 256, nI a.val <<< (8 &&& 31) = nI (a.val * 256) := by decide +kernel
    exact this a
  rw [h1]
  have h2 : nI (a.val * 256) ||| nI b.val = nI (a.val * 256 + b.val) := by
    have e : a.val * 256 ||| b.val = a.val * 256 + b.val := by
      have := Nat.shiftLeft_add_eq_or_of_lt (i := 8) (b := b.val) b.isLt a.val
      rw [Nat.shiftLeft_eq] at this
      exact this.symm
    show Int32.ofNat _ ||| Int32.ofNat _ = Int32.ofNat _
    rw [← e]
    apply Int32.toBitVec_inj.1
    rw [Int32.toBitVec_or]
    show BitVec.ofNat 32 _ ||| BitVec.ofNat 32 _ = BitVec.ofNat 32 _
    rw [BitVec.ofNat_or]
  have ha := a.isLt
  have hb := b.isLt
  rw [h2, nI_l (by omega), Nat.mul_comm]
theorem e_load {h : HP} {kr n at' t : Nat} {row : Nat → Int8} {nt' : Nat} {T : Nat → Int64} (hat : at' + 32 ≤ n) (hn : n < 2 ^ 30) (nt : t ≠ kr) (h16 : 16 ≤ nt') (hr : h[kr]? = some (pB n row)) (ht : h[t]? = some (pJ nt' T)) : ∃ T', P_Rm_load h t kr (nI at') = some (h.set t (pJ nt' T')) ∧ NM T' (be (fun k => row (at' + k)) 32) := by
  obtain ⟨T', g1, g2, g3⟩ := rwl0 (n := 16) (fun i => lN (dd2 (fun k => row (at' + k)) i)) (fun f h i => L_Rm_load_2 f h t kr (nI at') i) ht (by
    intro i f T2 hi _ _
    show B_Rm_load_2 (L_Rm_load_2 f) _ t kr (nI at') (nI i) = _
    unfold B_Rm_load_2
    rw [if_neg (show ¬ (16 : Int32) ≤ nI i from nI_ge (b := 16) (by omega) (by omega))]
    have m2 : (2 : Int32) * nI i = nI (2 * i) := pk_mul 2 i
    refine (bs_ (sB_in (at' + (30 - 2 * i)) (hn_ nt hr) (show nI at' + 30 - 2 * nI i = nI (at' + (30 - 2 * i)) by rw [m2, show nI at' + 30 = nI (at' + 30) from nI_add at' 30, pk_sub (by omega), show at' + 30 - 2 * i = at' + (30 - 2 * i) by omega]) (by omega) (by omega))).trans ?_
    refine (bs_ (sB_in (at' + (31 - 2 * i)) (hn_ nt hr) (show nI at' + 31 - 2 * nI i = nI (at' + (31 - 2 * i)) by rw [m2, show nI at' + 31 = nI (at' + 31) from nI_add at' 31, pk_sub (by omega), show at' + 31 - 2 * i = at' + (31 - 2 * i) by omega]) (by omega) (by omega))).trans ?_
    obtain ⟨a, a1, a2, a3⟩ := byN_ex (row (at' + (30 - 2 * i)))
    obtain ⟨b, b1, b2, b3⟩ := byN_ex (row (at' + (31 - 2 * i)))
    have e : dd2 (fun k => row (at' + k)) i = 256 * a + b := by
      show 256 * byN (row (at' + (30 - 2 * i))) + byN (row (at' + (31 - 2 * i))) = _
      rw [a3, b3]
    rw [e, a2, b2, by_ld ⟨a, a1⟩, by_ld ⟨b, b1⟩, or_8 ⟨a, a1⟩ ⟨b, b1⟩]
    refine (bs_ (tJ_in i (hs_ ht) rfl (by omega) (by omega))).trans ?_
    rw [hss]
    show L_Rm_load_2 f _ t kr (nI at') (nI i + Int32.ofInt 1) = _
    rw [nI_ofInt1]) (FU - 16)
  refine ⟨T', ?_, ⟨_, g2, fun k _ => dd2_lt _ k, ?_⟩⟩
  · refine Eq.trans g1 ?_
    show B_Rm_load_2 _ _ t kr (nI at') (nI 16) = _
    unfold B_Rm_load_2
    rw [if_pos (show (16 : Int32) ≤ nI 16 by decide)]
  · rw [leb_vl _ 16 (Nat.le_refl _), show 2 * 16 = 32 from rfl, leb_be]
