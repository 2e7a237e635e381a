/-! differences with a borrow -/
theorem lN_int (a : Nat) : lN a = Int64.ofInt (a : Int) := Int64.ofInt_eq_ofNat.symm
theorem sub3 (a b l : Nat) : (lN a - lN b) - lN l = Int64.ofInt ((a : Int) - b - l) := by
  rw [lN_int, lN_int, lN_int, ← Int64.ofInt_sub, ← Int64.ofInt_sub]
theorem sub3_ge {a b l : Nat} (ha : a < 2 ^ 32) (hb : b < 2 ^ 32) (hl : l < 2 ^ 32) : (0 ≤ lg_cmp ((lN a - lN b) - lN l) 0) ↔ b + l ≤ a := by
  rw [lg_cmp_ge, sub3, Int64.le_iff_toInt_le, Int64.toInt_ofInt_of_le (by omega) (by omega)]
  show (0 : Int) ≤ _ ↔ _
  omega
theorem sub3_m {a b l : Nat} (h : b + l ≤ a + 2 ^ 64) : (lN a - lN b) - lN l = lN (a + 2 ^ 64 - b - l) := by
  rw [show lN a = lN (a + 2 ^ 64) by rw [wb_mod (a + 2 ^ 64), wb_mod a, Nat.add_mod_right], lN_sub (by omega), lN_sub (by omega)]
theorem sub3_and {a b l : Nat} (ha : a < 2 ^ 16) (hb : b < 2 ^ 16) (hl : l ≤ 1) : ((lN a - lN b) - lN l) &&& 65535 = lN (if b + l ≤ a then a - b - l else a + 2 ^ 16 - b - l) := by
  rw [sub3_m (by omega)]
  by_cases z : b + l ≤ a
  · rw [if_pos z, wb_mod, show (a + 2 ^ 64 - b - l) % 2 ^ 64 = a - b - l by omega]
    rw [show lN (a - b - l) &&& 65535 = lN ((a - b - l) % 2 ^ 16) from wb_mask (k := 16) (by omega) (by decide), Nat.mod_eq_of_lt (by omega)]
  · rw [if_neg z, show lN (a + 2 ^ 64 - b - l) &&& 65535 = lN ((a + 2 ^ 64 - b - l) % 2 ^ 16) from wb_mask (k := 16) (by omega) (by decide)]
    congr 1
    omega
