/-! the reference's hashed: the digest as a number below the order -/
section HSE
variable {q : Nat} {th ta me re kc : Int32}
theorem be_eq {f g : Nat → Int8} : ∀ n, (∀ k, k < n → f k = g k) → be f n = be g n
  | 0, _ => rfl
  | n + 1, h => by
    show 256 * be f n + byN (f n) = 256 * be g n + byN (g n)
    rw [be_eq n (fun k hk => h k (by omega)), h n (by omega)]
theorem w_hashed {pn qn : Int32} {h : HP} {E : Nat → Nat} {X : Nat → Int8} {n : Nat} (hme : me = nI n) (hn : n ≤ 65536) (R : RQ q th ta me re kc pn qn h E) (O : RHq q (RFS q th ta me re kc pn qn) h) (hX : h[q + 2]? = some (pB 65536 X)) :
    ∃ h' z, P_Rm_hashed h q = some h' ∧ RQ q th ta me re kc pn qn h' (up1 E 22 z) ∧ RHq q (RFS q th ta me re kc pn qn) h' ∧ KP [q + 22, q + 39, q + 40, q + 43] h h' ∧ z = be (dgs (fun _ => 0) (hs (XP X n) ((n + 72) / 64)) 32) 32 % NN := by
  obtain ⟨h1, f, g1, O1, g2, g3⟩ := e_hash2 (n := n) (rh_nd q) O (show q + 2 ∉ [q, q + 40, q + 39, q + 37, q + 38, q + 43] by simp) hX hn (by omega)
  have R1 : RQ q th ta me re kc pn qn h1 E := ⟨O1.1, rw_hi R.2 g3 (fun j hj => by simp at hj; omega)⟩
  obtain ⟨h2, i1, i2, i3⟩ := w_load R1.2 (t := 22) (kr := q + 43) (at' := 0) (ro_d (by decide)) (by omega) (by omega) (by omega) g2
  obtain ⟨Y, hY⟩ : ∃ Y, Y = be (dgs (fun _ => 0) (hs (XP X n) ((n + 72) / 64)) 32) 32 := ⟨_, rfl⟩
  have eY : be (fun k => dgs f (hs (XP X n) ((n + 72) / 64)) 32 (0 + k)) 32 = Y := by
    rw [hY]
    refine be_eq 32 (fun k hk => ?_)
    unfold dgs
    rw [Nat.zero_add, if_pos hk, if_pos hk]
  rw [eY] at i2
  rw [← hY]
  have R2 := rq_of R1 i3 i2
  have lY : Y < 2 ^ 256 := by
    rw [hY]
    exact Nat.lt_of_lt_of_le (be_lt _ 32) (by decide)
  have k2 : KP [q + 22] h1 h2 := by
    obtain ⟨T, t1, t2⟩ := R1.2.1 22 (ro_d (by decide))
    obtain ⟨T', w1, _⟩ := e_load (at' := 0) (n := 32) (by omega) (by omega) (show q + 22 ≠ q + 43 by omega) (Nat.le_refl 16) g2 t1
    have : some h2 = some _ := i1.symm.trans w1
    rw [Option.some.inj this]
    exact KP.st (by simp)
  have rvz : RV q h2 22 Y := by have := rv_i R2.2 (i := 22) (ro_d (by decide)); rw [up1_s] at this; exact this
  have pre : P_Rm_hashed h q = (if bi (decide (Y < NN)) = 0 then bnd (P_Rm_less h2 (q + 22) (q + 22) (q + 7)) fun h14 => some h14 else some h2) := by
    unfold P_Rm_hashed
    rw [bs_ (gR_at R.1 rfl), show gI h q 8 6 = some me from gI_at R.1 rfl, bs_ rfl, os_ R.1, hme, bs_ g1]
    rw [hme] at R1 R2
    rw [bs_ (gR_at R1.1 rfl), bs_ (gR_at R1.1 rfl), show P_Rm_load h1 (q + 22) (q + 43) 0 = some h2 from i1, bs_ rfl, bs_ (gR_at R2.1 rfl), bs_ (gR_at R2.1 rfl), bs2 (w_below rvz (rv_m R2.2 mo_n)), bs_ (gR_at R2.1 rfl), bs_ (gR_at R2.1 rfl), bs_ (gR_at R2.1 rfl)]
    rfl
  rw [pre]
  have rk : ∀ {h9 : HP}, KP [q + 22] h1 h9 → RHq q (RFS q th ta me re kc pn qn) h9 := fun k => RHo.kp O1 k (fun j hj => by simp at hj ⊢; omega)
  by_cases z : Y < NN
  · rw [decide_eq_true z, if_neg (show ¬ bi true = 0 by decide)]
    exact ⟨h2, Y, rfl, R2, rk k2, (g3.up (by simp)).tr (k2.up (by simp)), (Nat.mod_eq_of_lt z).symm⟩
  · rw [decide_eq_false z, if_pos (show bi false = 0 by decide)]
    obtain ⟨T, t1, t2⟩ := R2.2.1 22 (ro_d (by decide))
    rw [up1_s] at t2
    obtain ⟨B, b1, b2⟩ := rv_m R2.2 mo_n
    obtain ⟨F', c1, c2, _⟩ := e_lessG (Nat.le_refl 16) (Nat.le_refl 16) (Nat.le_refl 16) t1 t1 b1 t2 b2
    rw [if_pos (by omega)] at c2
    have R3 := rq_of R2 (RK.st (q := q) (i := 22) (c := pJ 16 F') (ro_d (by decide))) (rw_set R2.2 (ro_d (by decide)) c2)
    have k3 : KP [q + 22] h2 (h2.set (q + 22) (pJ 16 F')) := KP.st (by simp)
    refine ⟨_, Y - NN, by rw [bs_ c1], ⟨R3.1, ?_⟩, rk (k2.tr k3), (g3.up (by simp)).tr ((k2.up (by simp)).tr (k3.up (by simp))), ?_⟩
    · have e : up1 (up1 E 22 Y) 22 (Y - NN) = up1 E 22 (Y - NN) := by
        funext i
        by_cases y : i = 22
        · rw [y, up1_s, up1_s]
        · rw [up1_n y, up1_n y, up1_n y]
      rw [← e]
      exact R3.2
    · have : (2 : Nat) ^ 256 ≤ 2 * NN := by decide
      rw [Nat.mod_eq_sub_mod (by omega), Nat.mod_eq_of_lt (by omega)]
end HSE
