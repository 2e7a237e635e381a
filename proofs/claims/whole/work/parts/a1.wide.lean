/-! the class's fillWide and foldWide (written by mka1.py) -/
def cw (x y : Nat → Int) : Nat → Int
  | 0 => x 0 * y 0
  | 1 => x 0 * y 1 + x 1 * y 0
  | 2 => (x 0 * y 2 + x 1 * y 1) + x 2 * y 0
  | 3 => ((x 0 * y 3 + x 1 * y 2) + x 2 * y 1) + x 3 * y 0
  | 4 => (((x 0 * y 4 + x 1 * y 3) + x 2 * y 2) + x 3 * y 1) + x 4 * y 0
  | 5 => ((((x 0 * y 5 + x 1 * y 4) + x 2 * y 3) + x 3 * y 2) + x 4 * y 1) + x 5 * y 0
  | 6 => (((((x 0 * y 6 + x 1 * y 5) + x 2 * y 4) + x 3 * y 3) + x 4 * y 2) + x 5 * y 1) + x 6 * y 0
  | 7 => ((((((x 0 * y 7 + x 1 * y 6) + x 2 * y 5) + x 3 * y 4) + x 4 * y 3) + x 5 * y 2) + x 6 * y 1) + x 7 * y 0
  | 8 => (((((((x 0 * y 8 + x 1 * y 7) + x 2 * y 6) + x 3 * y 5) + x 4 * y 4) + x 5 * y 3) + x 6 * y 2) + x 7 * y 1) + x 8 * y 0
  | 9 => ((((((x 1 * y 8 + x 2 * y 7) + x 3 * y 6) + x 4 * y 5) + x 5 * y 4) + x 6 * y 3) + x 7 * y 2) + x 8 * y 1
  | 10 => (((((x 2 * y 8 + x 3 * y 7) + x 4 * y 6) + x 5 * y 5) + x 6 * y 4) + x 7 * y 3) + x 8 * y 2
  | 11 => ((((x 3 * y 8 + x 4 * y 7) + x 5 * y 6) + x 6 * y 5) + x 7 * y 4) + x 8 * y 3
  | 12 => (((x 4 * y 8 + x 5 * y 7) + x 6 * y 6) + x 7 * y 5) + x 8 * y 4
  | 13 => ((x 5 * y 8 + x 6 * y 7) + x 7 * y 6) + x 8 * y 5
  | 14 => (x 6 * y 8 + x 7 * y 7) + x 8 * y 6
  | 15 => x 7 * y 8 + x 8 * y 7
  | 16 => x 8 * y 8
  | _ => 0
section FW
variable {m kw a b : Nat} {fs : List Value} {h : HP} {A D W0 : Nat → Int64} {x y : Nat → Int}
set_option maxHeartbeats 4000000 in
theorem e_fillWide (hm : h[m]? = some (pO 1 fs)) (f6 : fs[6]? = some (.ref kw)) (ha : h[a]? = some (pJ 9 A)) (hb : h[b]? = some (pJ 9 D)) (hw : h[kw]? = some (pJ 17 W0)) (nk : kw ≠ m) (a1 : ∀ k, k < 9 → A k = lZ (x k)) (b1 : ∀ k, k < 9 → D k = lZ (y k)) :
    ∃ W, P_Mo_fillWide h m a b = some (h.set kw (pJ 17 W)) ∧ ∀ k, k < 17 → W k = lZ (cw x y k) := by
  refine ⟨va_up (va_up (va_up (va_up (va_up (va_up (va_up (va_up (va_up (va_up (va_up (va_up (va_up (va_up (va_up (va_up (va_up W0 0 (lZ (cw x y 0))) 1 (lZ (cw x y 1))) 2 (lZ (cw x y 2))) 3 (lZ (cw x y 3))) 4 (lZ (cw x y 4))) 5 (lZ (cw x y 5))) 6 (lZ (cw x y 6))) 7 (lZ (cw x y 7))) 8 (lZ (cw x y 8))) 9 (lZ (cw x y 9))) 10 (lZ (cw x y 10))) 11 (lZ (cw x y 11))) 12 (lZ (cw x y 12))) 13 (lZ (cw x y 13))) 14 (lZ (cw x y 14))) 15 (lZ (cw x y 15))) 16 (lZ (cw x y 16)), ?_, ?_⟩
  · unfold P_Mo_fillWide
    rw [show ldJ h a 0 = some (lZ (x 0)) from (sJ_in 0 ha rfl (by decide) (by decide)).trans (by rw [a1 0 (by decide)]), bs_ rfl]
    rw [show ldJ h a 1 = some (lZ (x 1)) from (sJ_in 1 ha rfl (by decide) (by decide)).trans (by rw [a1 1 (by decide)]), bs_ rfl]
    rw [show ldJ h a 2 = some (lZ (x 2)) from (sJ_in 2 ha rfl (by decide) (by decide)).trans (by rw [a1 2 (by decide)]), bs_ rfl]
    rw [show ldJ h a 3 = some (lZ (x 3)) from (sJ_in 3 ha rfl (by decide) (by decide)).trans (by rw [a1 3 (by decide)]), bs_ rfl]
    rw [show ldJ h a 4 = some (lZ (x 4)) from (sJ_in 4 ha rfl (by decide) (by decide)).trans (by rw [a1 4 (by decide)]), bs_ rfl]
    rw [show ldJ h a 5 = some (lZ (x 5)) from (sJ_in 5 ha rfl (by decide) (by decide)).trans (by rw [a1 5 (by decide)]), bs_ rfl]
    rw [show ldJ h a 6 = some (lZ (x 6)) from (sJ_in 6 ha rfl (by decide) (by decide)).trans (by rw [a1 6 (by decide)]), bs_ rfl]
    rw [show ldJ h a 7 = some (lZ (x 7)) from (sJ_in 7 ha rfl (by decide) (by decide)).trans (by rw [a1 7 (by decide)]), bs_ rfl]
    rw [show ldJ h a 8 = some (lZ (x 8)) from (sJ_in 8 ha rfl (by decide) (by decide)).trans (by rw [a1 8 (by decide)]), bs_ rfl]
    rw [show ldJ h b 0 = some (lZ (y 0)) from (sJ_in 0 hb rfl (by decide) (by decide)).trans (by rw [b1 0 (by decide)]), bs_ rfl]
    rw [show ldJ h b 1 = some (lZ (y 1)) from (sJ_in 1 hb rfl (by decide) (by decide)).trans (by rw [b1 1 (by decide)]), bs_ rfl]
    rw [show ldJ h b 2 = some (lZ (y 2)) from (sJ_in 2 hb rfl (by decide) (by decide)).trans (by rw [b1 2 (by decide)]), bs_ rfl]
    rw [show ldJ h b 3 = some (lZ (y 3)) from (sJ_in 3 hb rfl (by decide) (by decide)).trans (by rw [b1 3 (by decide)]), bs_ rfl]
    rw [show ldJ h b 4 = some (lZ (y 4)) from (sJ_in 4 hb rfl (by decide) (by decide)).trans (by rw [b1 4 (by decide)]), bs_ rfl]
    rw [show ldJ h b 5 = some (lZ (y 5)) from (sJ_in 5 hb rfl (by decide) (by decide)).trans (by rw [b1 5 (by decide)]), bs_ rfl]
    rw [show ldJ h b 6 = some (lZ (y 6)) from (sJ_in 6 hb rfl (by decide) (by decide)).trans (by rw [b1 6 (by decide)]), bs_ rfl]
    rw [show ldJ h b 7 = some (lZ (y 7)) from (sJ_in 7 hb rfl (by decide) (by decide)).trans (by rw [b1 7 (by decide)]), bs_ rfl]
    rw [show ldJ h b 8 = some (lZ (y 8)) from (sJ_in 8 hb rfl (by decide) (by decide)).trans (by rw [b1 8 (by decide)]), bs_ rfl]
    simp only [lZ_mul, lZ_add]
    refine (bs_ (gR_at hm f6)).trans ?_
    refine (bs_ (tJ_in 0 hw rfl (by decide) (by decide))).trans ?_
    refine (bs_ (gR_at (hn_ nk hm) f6)).trans ?_
    refine (bs_ (tJ_in 1 (hs_ hw) rfl (by decide) (by decide))).trans ?_
    rw [hss]
    refine (bs_ (gR_at (hn_ nk hm) f6)).trans ?_
    refine (bs_ (tJ_in 2 (hs_ hw) rfl (by decide) (by decide))).trans ?_
    rw [hss]
    refine (bs_ (gR_at (hn_ nk hm) f6)).trans ?_
    refine (bs_ (tJ_in 3 (hs_ hw) rfl (by decide) (by decide))).trans ?_
    rw [hss]
    refine (bs_ (gR_at (hn_ nk hm) f6)).trans ?_
    refine (bs_ (tJ_in 4 (hs_ hw) rfl (by decide) (by decide))).trans ?_
    rw [hss]
    refine (bs_ (gR_at (hn_ nk hm) f6)).trans ?_
    refine (bs_ (tJ_in 5 (hs_ hw) rfl (by decide) (by decide))).trans ?_
    rw [hss]
    refine (bs_ (gR_at (hn_ nk hm) f6)).trans ?_
    refine (bs_ (tJ_in 6 (hs_ hw) rfl (by decide) (by decide))).trans ?_
    rw [hss]
    refine (bs_ (gR_at (hn_ nk hm) f6)).trans ?_
    refine (bs_ (tJ_in 7 (hs_ hw) rfl (by decide) (by decide))).trans ?_
    rw [hss]
    refine (bs_ (gR_at (hn_ nk hm) f6)).trans ?_
    refine (bs_ (tJ_in 8 (hs_ hw) rfl (by decide) (by decide))).trans ?_
    rw [hss]
    refine (bs_ (gR_at (hn_ nk hm) f6)).trans ?_
    refine (bs_ (tJ_in 9 (hs_ hw) rfl (by decide) (by decide))).trans ?_
    rw [hss]
    refine (bs_ (gR_at (hn_ nk hm) f6)).trans ?_
    refine (bs_ (tJ_in 10 (hs_ hw) rfl (by decide) (by decide))).trans ?_
    rw [hss]
    refine (bs_ (gR_at (hn_ nk hm) f6)).trans ?_
    refine (bs_ (tJ_in 11 (hs_ hw) rfl (by decide) (by decide))).trans ?_
    rw [hss]
    refine (bs_ (gR_at (hn_ nk hm) f6)).trans ?_
    refine (bs_ (tJ_in 12 (hs_ hw) rfl (by decide) (by decide))).trans ?_
    rw [hss]
    refine (bs_ (gR_at (hn_ nk hm) f6)).trans ?_
    refine (bs_ (tJ_in 13 (hs_ hw) rfl (by decide) (by decide))).trans ?_
    rw [hss]
    refine (bs_ (gR_at (hn_ nk hm) f6)).trans ?_
    refine (bs_ (tJ_in 14 (hs_ hw) rfl (by decide) (by decide))).trans ?_
    rw [hss]
    refine (bs_ (gR_at (hn_ nk hm) f6)).trans ?_
    refine (bs_ (tJ_in 15 (hs_ hw) rfl (by decide) (by decide))).trans ?_
    rw [hss]
    refine (bs_ (gR_at (hn_ nk hm) f6)).trans ?_
    refine (bs_ (tJ_in 16 (hs_ hw) rfl (by decide) (by decide))).trans ?_
    rw [hss]
    rfl
  · intro k hk
    have : k = 0 ∨ k = 1 ∨ k = 2 ∨ k = 3 ∨ k = 4 ∨ k = 5 ∨ k = 6 ∨ k = 7 ∨ k = 8 ∨ k = 9 ∨ k = 10 ∨ k = 11 ∨ k = 12 ∨ k = 13 ∨ k = 14 ∨ k = 15 ∨ k = 16 := by omega
    rcases this with rfl | rfl | rfl | rfl | rfl | rfl | rfl | rfl | rfl | rfl | rfl | rfl | rfl | rfl | rfl | rfl | rfl
    · rw [up_n (by decide)]; rw [up_n (by decide)]; rw [up_n (by decide)]; rw [up_n (by decide)]; rw [up_n (by decide)]; rw [up_n (by decide)]; rw [up_n (by decide)]; rw [up_n (by decide)]; rw [up_n (by decide)]; rw [up_n (by decide)]; rw [up_n (by decide)]; rw [up_n (by decide)]; rw [up_n (by decide)]; rw [up_n (by decide)]; rw [up_n (by decide)]; rw [up_n (by decide)]; exact up_s
    · rw [up_n (by decide)]; rw [up_n (by decide)]; rw [up_n (by decide)]; rw [up_n (by decide)]; rw [up_n (by decide)]; rw [up_n (by decide)]; rw [up_n (by decide)]; rw [up_n (by decide)]; rw [up_n (by decide)]; rw [up_n (by decide)]; rw [up_n (by decide)]; rw [up_n (by decide)]; rw [up_n (by decide)]; rw [up_n (by decide)]; rw [up_n (by decide)]; exact up_s
    · rw [up_n (by decide)]; rw [up_n (by decide)]; rw [up_n (by decide)]; rw [up_n (by decide)]; rw [up_n (by decide)]; rw [up_n (by decide)]; rw [up_n (by decide)]; rw [up_n (by decide)]; rw [up_n (by decide)]; rw [up_n (by decide)]; rw [up_n (by decide)]; rw [up_n (by decide)]; rw [up_n (by decide)]; rw [up_n (by decide)]; exact up_s
    · rw [up_n (by decide)]; rw [up_n (by decide)]; rw [up_n (by decide)]; rw [up_n (by decide)]; rw [up_n (by decide)]; rw [up_n (by decide)]; rw [up_n (by decide)]; rw [up_n (by decide)]; rw [up_n (by decide)]; rw [up_n (by decide)]; rw [up_n (by decide)]; rw [up_n (by decide)]; rw [up_n (by decide)]; exact up_s
    · rw [up_n (by decide)]; rw [up_n (by decide)]; rw [up_n (by decide)]; rw [up_n (by decide)]; rw [up_n (by decide)]; rw [up_n (by decide)]; rw [up_n (by decide)]; rw [up_n (by decide)]; rw [up_n (by decide)]; rw [up_n (by decide)]; rw [up_n (by decide)]; rw [up_n (by decide)]; exact up_s
    · rw [up_n (by decide)]; rw [up_n (by decide)]; rw [up_n (by decide)]; rw [up_n (by decide)]; rw [up_n (by decide)]; rw [up_n (by decide)]; rw [up_n (by decide)]; rw [up_n (by decide)]; rw [up_n (by decide)]; rw [up_n (by decide)]; rw [up_n (by decide)]; exact up_s
    · rw [up_n (by decide)]; rw [up_n (by decide)]; rw [up_n (by decide)]; rw [up_n (by decide)]; rw [up_n (by decide)]; rw [up_n (by decide)]; rw [up_n (by decide)]; rw [up_n (by decide)]; rw [up_n (by decide)]; rw [up_n (by decide)]; exact up_s
    · rw [up_n (by decide)]; rw [up_n (by decide)]; rw [up_n (by decide)]; rw [up_n (by decide)]; rw [up_n (by decide)]; rw [up_n (by decide)]; rw [up_n (by decide)]; rw [up_n (by decide)]; rw [up_n (by decide)]; exact up_s
    · rw [up_n (by decide)]; rw [up_n (by decide)]; rw [up_n (by decide)]; rw [up_n (by decide)]; rw [up_n (by decide)]; rw [up_n (by decide)]; rw [up_n (by decide)]; rw [up_n (by decide)]; exact up_s
    · rw [up_n (by decide)]; rw [up_n (by decide)]; rw [up_n (by decide)]; rw [up_n (by decide)]; rw [up_n (by decide)]; rw [up_n (by decide)]; rw [up_n (by decide)]; exact up_s
    · rw [up_n (by decide)]; rw [up_n (by decide)]; rw [up_n (by decide)]; rw [up_n (by decide)]; rw [up_n (by decide)]; rw [up_n (by decide)]; exact up_s
    · rw [up_n (by decide)]; rw [up_n (by decide)]; rw [up_n (by decide)]; rw [up_n (by decide)]; rw [up_n (by decide)]; exact up_s
    · rw [up_n (by decide)]; rw [up_n (by decide)]; rw [up_n (by decide)]; rw [up_n (by decide)]; exact up_s
    · rw [up_n (by decide)]; rw [up_n (by decide)]; rw [up_n (by decide)]; exact up_s
    · rw [up_n (by decide)]; rw [up_n (by decide)]; exact up_s
    · rw [up_n (by decide)]; exact up_s
    · exact up_s
end FW
