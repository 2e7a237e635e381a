/-! sums: the rows read may be the row written -/
/-- the row at j (of n places) has the digits d from i on -/
def LK (h : HP) (j n i : Nat) (d : Nat → Nat) : Prop := ∃ P, h[j]? = some (pJ n P) ∧ ∀ k, i ≤ k → k < 16 → P k = lN (d k)
theorem LK.st {h : HP} {j nj i a n : Nat} {d : Nat → Nat} {C : Nat → Int64} {x : Int64} (l : LK h j nj i d) (ha : h[a]? = some (pJ n C)) : LK (h.set a (pJ n (va_up C i x))) j nj (i + 1) d := by
  obtain ⟨P, h1, h2⟩ := l
  by_cases z : a = j
  · subst z
    have e := Option.some.inj (h1.symm.trans ha)
    have e1 : nj = n ∧ P = C := by simpa using e
    obtain ⟨rfl, rfl⟩ := e1
    exact ⟨_, hs_ ha, fun k k1 k2 => by rw [up_n (by omega)]; exact h2 k (by omega) k2⟩
  · exact ⟨P, hn_ z h1, fun k k1 k2 => h2 k (by omega) k2⟩
theorem sar16 {s : Nat} (hs : s < 2 ^ 31) : lN s >>> (Int32.toInt64 16 &&& 63) = lN (s / 2 ^ 16) := by
  rw [show (Int32.toInt64 16 &&& 63 : Int64) = 16 by decide, ← Int64.toInt_inj, lN_toInt (Nat.lt_of_le_of_lt (Nat.div_le_self _ _) hs)]
  show (lN s >>> (16 : Int64)).toBitVec.toInt = _
  rw [Int64.toBitVec_shiftRight]
  show ((lN s).toBitVec.sshiftRight ((16 : Int64).toBitVec.smod 64).toNat).toInt = _
  rw [show ((16 : Int64).toBitVec.smod 64).toNat = 16 by decide, BitVec.toInt_sshiftRight]
  show (lN s).toInt >>> 16 = _
  rw [lN_toInt hs, Int.shiftRight_eq_div_pow]
  omega
