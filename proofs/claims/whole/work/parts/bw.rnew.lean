/-! the reference's constructor -/
def kP_ : Nat → Int64 := va_up (va_up (va_up (va_up (va_up (va_up (va_up (va_up (va_up (va_up (va_up (va_up (va_up (va_up (va_up (va_up (fun _ => 0) 0 65535) 1 65535) 2 65535) 3 65535) 4 65535) 5 65535) 6 0) 7 0) 8 0) 9 0) 10 0) 11 0) 12 1) 13 0) 14 65535) 15 65535
theorem nm_kP_ : NM kP_ PP := ⟨fun k => [65535, 65535, 65535, 65535, 65535, 65535, 0, 0, 0, 0, 0, 0, 1, 0, 65535, 65535].getD k 0, (show ∀ k, k < 16 → kP_ k = lN ([65535, 65535, 65535, 65535, 65535, 65535, 0, 0, 0, 0, 0, 0, 1, 0, 65535, 65535].getD k 0) by decide +kernel), (show ∀ k, k < 16 → [65535, 65535, 65535, 65535, 65535, 65535, 0, 0, 0, 0, 0, 0, 1, 0, 65535, 65535].getD k 0 < 2 ^ 16 by decide +kernel), by decide +kernel⟩
def kN_ : Nat → Int64 := va_up (va_up (va_up (va_up (va_up (va_up (va_up (va_up (va_up (va_up (va_up (va_up (va_up (va_up (va_up (va_up (fun _ => 0) 0 9553) 1 64611) 2 51906) 3 62393) 4 40580) 5 42775) 6 64173) 7 48358) 8 65535) 9 65535) 10 65535) 11 65535) 12 0) 13 0) 14 65535) 15 65535
theorem nm_kN_ : NM kN_ NN := ⟨fun k => [9553, 64611, 51906, 62393, 40580, 42775, 64173, 48358, 65535, 65535, 65535, 65535, 0, 0, 65535, 65535].getD k 0, (show ∀ k, k < 16 → kN_ k = lN ([9553, 64611, 51906, 62393, 40580, 42775, 64173, 48358, 65535, 65535, 65535, 65535, 0, 0, 65535, 65535].getD k 0) by decide +kernel), (show ∀ k, k < 16 → [9553, 64611, 51906, 62393, 40580, 42775, 64173, 48358, 65535, 65535, 65535, 65535, 0, 0, 65535, 65535].getD k 0 < 2 ^ 16 by decide +kernel), by decide +kernel⟩
def kB_ : Nat → Int64 := va_up (va_up (va_up (va_up (va_up (va_up (va_up (va_up (va_up (va_up (va_up (va_up (va_up (va_up (va_up (va_up (fun _ => 0) 0 24651) 1 10194) 2 15422) 3 15310) 4 45302) 5 52307) 6 1712) 7 25885) 8 34492) 9 30360) 10 48469) 11 46059) 12 37863) 13 43578) 14 13784) 15 23238
theorem nm_kB_ : NM kB_ BB := ⟨fun k => [24651, 10194, 15422, 15310, 45302, 52307, 1712, 25885, 34492, 30360, 48469, 46059, 37863, 43578, 13784, 23238].getD k 0, (show ∀ k, k < 16 → kB_ k = lN ([24651, 10194, 15422, 15310, 45302, 52307, 1712, 25885, 34492, 30360, 48469, 46059, 37863, 43578, 13784, 23238].getD k 0) by decide +kernel), (show ∀ k, k < 16 → [24651, 10194, 15422, 15310, 45302, 52307, 1712, 25885, 34492, 30360, 48469, 46059, 37863, 43578, 13784, 23238].getD k 0 < 2 ^ 16 by decide +kernel), by decide +kernel⟩
def kX_ : Nat → Int64 := va_up (va_up (va_up (va_up (va_up (va_up (va_up (va_up (va_up (va_up (va_up (va_up (va_up (va_up (va_up (va_up (fun _ => 0) 0 49814) 1 55448) 2 14661) 3 62625) 4 13216) 5 11755) 6 32129) 7 30467) 8 16626) 9 25508) 10 59109) 11 63676) 12 16967) 13 57644) 14 53746) 15 27415
theorem nm_kX_ : NM kX_ GX := ⟨fun k => [49814, 55448, 14661, 62625, 13216, 11755, 32129, 30467, 16626, 25508, 59109, 63676, 16967, 57644, 53746, 27415].getD k 0, (show ∀ k, k < 16 → kX_ k = lN ([49814, 55448, 14661, 62625, 13216, 11755, 32129, 30467, 16626, 25508, 59109, 63676, 16967, 57644, 53746, 27415].getD k 0) by decide +kernel), (show ∀ k, k < 16 → [49814, 55448, 14661, 62625, 13216, 11755, 32129, 30467, 16626, 25508, 59109, 63676, 16967, 57644, 53746, 27415].getD k 0 < 2 ^ 16 by decide +kernel), by decide +kernel⟩
def kY_ : Nat → Int64 := va_up (va_up (va_up (va_up (va_up (va_up (va_up (va_up (va_up (va_up (va_up (va_up (va_up (va_up (va_up (va_up (fun _ => 0) 0 20981) 1 14271) 2 16488) 3 52150) 4 24270) 5 27441) 6 13143) 7 11214) 8 40470) 9 31759) 10 60234) 11 36583) 12 32667) 13 65050) 14 17122) 15 20451
theorem nm_kY_ : NM kY_ GY := ⟨fun k => [20981, 14271, 16488, 52150, 24270, 27441, 13143, 11214, 40470, 31759, 60234, 36583, 32667, 65050, 17122, 20451].getD k 0, (show ∀ k, k < 16 → kY_ k = lN ([20981, 14271, 16488, 52150, 24270, 27441, 13143, 11214, 40470, 31759, 60234, 36583, 32667, 65050, 17122, 20451].getD k 0) by decide +kernel), (show ∀ k, k < 16 → [20981, 14271, 16488, 52150, 24270, 27441, 13143, 11214, 40470, 31759, 60234, 36583, 32667, 65050, 17122, 20451].getD k 0 < 2 ^ 16 by decide +kernel), by decide +kernel⟩
theorem nm_0 : NM (fun _ => 0) 0 := ⟨fun _ => 0, fun _ _ => rfl, fun _ _ => (show 0 < 2 ^ 16 by decide), by decide +kernel⟩
theorem sj_ {h : HP} {n : Nat} {f : Nat → Int64} {x : Int32} {y : Int64} (j : Nat) (hx : x = nI j) (hj : j < n) (hn : j < 2 ^ 31) : stJ (h ++ [pJ n f]) h.length x y = some (h ++ [pJ n (va_up f j y)]) := by
  rw [tJ_in j (show (h ++ [pJ n f])[h.length]? = some (pJ n f) from ap_at (i := 0) rfl) hx hj hn]
  exact congrArg some (ap_set (i := 0) rfl)
section RNW
variable {β : Type} {h0 cs : HP} {m c j : Nat} {fs : List Value} {K : HP → Option β}
theorem pa_ {x : PE} (hm : h0.length = m) (hj : j + 1 ≤ fs.length) : pV ((h0 ++ (pO c fs :: cs)) ++ [x]) m c j (.ref (h0 ++ (pO c fs :: cs)).length) = some (h0 ++ (pO c (fs.set j (.ref (m + (cs.length + 1)))) :: (cs ++ [x]))) := by
  have e1 : (h0 ++ (pO c fs :: cs)) ++ [x] = h0 ++ (pO c fs :: (cs ++ [x])) := by rw [List.append_assoc, List.cons_append]
  have e2 : (h0 ++ (pO c fs :: cs)).length = m + (cs.length + 1) := by rw [List.length_append, hm, List.length_cons]
  rw [e1, e2]
  exact pv_ hm hj
theorem ca_ {y0 y1 y2 y3 y4 y5 y6 y7 y8 y9 y10 y11 y12 y13 y14 y15 : Int64} (hm : h0.length = m) (hj : j + 1 ≤ fs.length) : (lt ((h0 ++ (pO c fs :: cs)) ++ [pJ 16 (fun _ => 0)]) fun h16 => lt (h0 ++ (pO c fs :: cs)).length fun k17 => bnd (stJ h16 k17 0 y0) fun g0 => bnd (stJ g0 k17 1 y1) fun g1 => bnd (stJ g1 k17 2 y2) fun g2 => bnd (stJ g2 k17 3 y3) fun g3 => bnd (stJ g3 k17 4 y4) fun g4 => bnd (stJ g4 k17 5 y5) fun g5 => bnd (stJ g5 k17 6 y6) fun g6 => bnd (stJ g6 k17 7 y7) fun g7 => bnd (stJ g7 k17 8 y8) fun g8 => bnd (stJ g8 k17 9 y9) fun g9 => bnd (stJ g9 k17 10 y10) fun g10 => bnd (stJ g10 k17 11 y11) fun g11 => bnd (stJ g11 k17 12 y12) fun g12 => bnd (stJ g12 k17 13 y13) fun g13 => bnd (stJ g13 k17 14 y14) fun g14 => bnd (stJ g14 k17 15 y15) fun g15 => bnd (pV g15 m c j (.ref k17)) fun h34 => K h34) = K (h0 ++ (pO c (fs.set j (.ref (m + (cs.length + 1)))) :: (cs ++ [pJ 16 (va_up (va_up (va_up (va_up (va_up (va_up (va_up (va_up (va_up (va_up (va_up (va_up (va_up (va_up (va_up (va_up (fun _ => 0) 0 y0) 1 y1) 2 y2) 3 y3) 4 y4) 5 y5) 6 y6) 7 y7) 8 y8) 9 y9) 10 y10) 11 y11) 12 y12) 13 y13) 14 y14) 15 y15)]))) := by
  rw [lt_e, lt_e]
  refine (bs_ (sj_ 0 rfl (by decide) (by decide))).trans ?_
  refine (bs_ (sj_ 1 rfl (by decide) (by decide))).trans ?_
  refine (bs_ (sj_ 2 rfl (by decide) (by decide))).trans ?_
  refine (bs_ (sj_ 3 rfl (by decide) (by decide))).trans ?_
  refine (bs_ (sj_ 4 rfl (by decide) (by decide))).trans ?_
  refine (bs_ (sj_ 5 rfl (by decide) (by decide))).trans ?_
  refine (bs_ (sj_ 6 rfl (by decide) (by decide))).trans ?_
  refine (bs_ (sj_ 7 rfl (by decide) (by decide))).trans ?_
  refine (bs_ (sj_ 8 rfl (by decide) (by decide))).trans ?_
  refine (bs_ (sj_ 9 rfl (by decide) (by decide))).trans ?_
  refine (bs_ (sj_ 10 rfl (by decide) (by decide))).trans ?_
  refine (bs_ (sj_ 11 rfl (by decide) (by decide))).trans ?_
  refine (bs_ (sj_ 12 rfl (by decide) (by decide))).trans ?_
  refine (bs_ (sj_ 13 rfl (by decide) (by decide))).trans ?_
  refine (bs_ (sj_ 14 rfl (by decide) (by decide))).trans ?_
  refine (bs_ (sj_ 15 rfl (by decide) (by decide))).trans ?_
  exact bs_ (pa_ hm hj)
end RNW
def Rcs : HP := [pO 8 (RFS 304 0 0 0 0 0 0 0), pB 65536 (fun _ => 0), pB 65536 (fun _ => 0), pB 80 (fun _ => 0), pB 3200 (fun _ => 0), pI 6 (fun _ => 0), pJ 16 kP_, pJ 16 kN_, pJ 16 kB_, pJ 16 kX_, pJ 16 kY_, pJ 256 (fun _ => 0), pJ 256 (fun _ => 0), pJ 16 (fun _ => 0), pJ 16 (fun _ => 0), pJ 16 (fun _ => 0), pJ 16 (fun _ => 0), pJ 16 (fun _ => 0), pJ 16 (fun _ => 0), pJ 16 (fun _ => 0), pJ 16 (fun _ => 0), pJ 16 (fun _ => 0), pJ 16 (fun _ => 0), pJ 16 (fun _ => 0), pJ 16 (fun _ => 0), pJ 16 (fun _ => 0), pJ 16 (fun _ => 0), pB 32 (fun _ => 0), pB 32 (fun _ => 0), pB 256 (fun _ => 0), pB 65600 (fun _ => 0), pJ 32 (fun _ => 0), pJ 18 (fun _ => 0), pJ 16 (fun _ => 0), pJ 16 (fun _ => 0), pJ 17 (fun _ => 0), pJ 17 (fun _ => 0), pJ 80 (fun _ => 0), pJ 8 (fun _ => 0), pI 64 (fun _ => 0), pI 8 (fun _ => 0), pJ 8 (fun _ => 0), pJ 8 (fun _ => 0), pB 32 (fun _ => 0)]
theorem mkn_Rm {g : HP} (hg : g.length = 304) : ∃ h', P_Rm_new (g ++ [pO 8 [.int 0, .null, .null, .null, .null, .int 0, .int 0, .int 0, .int 0, .null, .null, .null, .null, .null, .null, .null, .null, .null, .null, .null, .null, .null, .null, .int 0, .int 0, .null, .null, .null, .null, .null, .null, .null, .null, .null, .null, .null, .null, .null, .null, .null, .null, .null, .null, .null, .null, .null, .null, .null, .null, .null]]) 304 = some h' ∧ h'.length = 348 ∧ (∀ j, j < 304 → h'[j]? = g[j]?) ∧ RI 0 0 0 0 0 0 (fun _ => 0) (fun _ => 0) (fun _ => 0) (fun _ => 0) (fun _ => 0) h' := by
  obtain ⟨h209, hh⟩ : ∃ h209, h209 = g ++ Rcs := ⟨_, rfl⟩
  have q : ∀ i, h209[304 + i]? = Rcs[i]? := fun i => by rw [hh]; exact ap_at hg
  have q0 : h209[304]? = some (pO 8 (RFS 304 0 0 0 0 0 0 0)) := q 0
  have l9 : h209.length = 348 := by rw [hh, List.length_append, hg]; rfl
  obtain ⟨h210, F', C', R', S', a1, a2, a3, a4, a5, a6, a7, a8⟩ := e_constants (kl := 345) (kc := 346) (kr := 341) (kt := 342) (fs := RFS 304 0 0 0 0 0 0 0) rfl rfl rfl rfl (by decide) (by decide) (by decide) (by decide) (by decide) (by decide) (by decide) (by decide) (by decide) (by decide) q0 (q 41) (q 42) (q 37) (q 38)
  have k1 : ∀ j, j ≠ 341 → j ≠ 342 → j ≠ 345 → j ≠ 346 → h210[j]? = h209[j]? := fun j n1 n2 n3 n4 => a8.2 j (by simp; omega)
  have q1 : h210[304]? = some (pO 8 (RFS 304 0 0 0 0 0 0 0)) := (k1 304 (by decide) (by decide) (by decide) (by decide)).trans q0
  obtain ⟨h214, b1, b2, b3, W1, x1, b4, b5⟩ := e_remainders (h := h210) (t := 315) (m := 310) (w := 323) (nw := 16) (nm := 16) (by decide) (by decide) (by decide) (by decide) (by decide) nm_kP_ (by decide) ((k1 323 (by decide) (by decide) (by decide) (by decide)).trans (q 19)) ((k1 315 (by decide) (by decide) (by decide) (by decide)).trans (q 11)) ((k1 310 (by decide) (by decide) (by decide) (by decide)).trans (q 6))
  have k2 : ∀ j, j ≠ 315 → j ≠ 323 → h214[j]? = h210[j]? := fun j n1 n2 => b2.2 j (by simp; omega)
  have q2 : h214[304]? = some (pO 8 (RFS 304 0 0 0 0 0 0 0)) := (k2 304 (by decide) (by decide)).trans q1
  obtain ⟨h218, c1, c2, c3, W2, x2, c4, c5⟩ := e_remainders (h := h214) (t := 316) (m := 311) (w := 323) (nw := 16) (nm := 16) (by decide) (by decide) (by decide) (by decide) (by decide) nm_kN_ (by decide) b4 ((k2 316 (by decide) (by decide)).trans ((k1 316 (by decide) (by decide) (by decide) (by decide)).trans (q 12))) ((k2 311 (by decide) (by decide)).trans ((k1 311 (by decide) (by decide) (by decide) (by decide)).trans (q 7)))
  have k3 : ∀ j, j ≠ 316 → j ≠ 323 → h218[j]? = h214[j]? := fun j n1 n2 => c2.2 j (by simp; omega)
  have kk : ∀ i, i ≠ 11 → i ≠ 12 → i ≠ 19 → i ≠ 37 → i ≠ 38 → i ≠ 41 → i ≠ 42 → h218[304 + i]? = Rcs[i]? := fun i n1 n2 n3 n4 n5 n6 n7 => (k3 _ (by omega) (by omega)).trans ((k2 _ (by omega) (by omega)).trans ((k1 _ (by omega) (by omega) (by omega) (by omega)).trans (q i)))
  have kq : ∀ i, (i ≠ 11 ∧ i ≠ 12 ∧ i ≠ 19 ∧ i ≠ 37 ∧ i ≠ 38 ∧ i ≠ 41 ∧ i ≠ 42) → h218[304 + i]? = Rcs[i]? := fun i n => kk i n.1 n.2.1 n.2.2.1 n.2.2.2.1 n.2.2.2.2.1 n.2.2.2.2.2.1 n.2.2.2.2.2.2
  have e0 : h218[304]? = some (pO 8 (RFS 304 0 (nI 0) (nI 0) (nI 0) (nI 0) 0 0)) := kq 0 (by decide)
  have RW' : RW 304 h218 (fun i => if i = 19 then x2 else 0) := by
    refine ⟨fun i hi => ?_, ⟨⟨kP_, kq 6 (by decide), nm_kP_⟩, ⟨kN_, kq 7 (by decide), nm_kN_⟩, ⟨kB_, kq 8 (by decide), nm_kB_⟩, ⟨kX_, kq 9 (by decide), nm_kX_⟩, ⟨kY_, kq 10 (by decide), nm_kY_⟩⟩, ⟨?_, c3⟩, ⟨_, kq 31 (by decide)⟩, ⟨_, kq 32 (by decide)⟩, ⟨_, kq 33 (by decide)⟩, ⟨_, kq 34 (by decide)⟩, ⟨_, kq 35 (by decide)⟩, ⟨_, kq 36 (by decide)⟩⟩
    · by_cases z : i = 19
      · subst z
        exact ⟨W2, c4, c5⟩
      · show ∃ F, h218[304 + i]? = some (pJ 16 F) ∧ NM F (if i = 19 then x2 else 0)
        rw [if_neg z]
        have : i = 13 ∨ i = 14 ∨ i = 15 ∨ i = 16 ∨ i = 17 ∨ i = 18 ∨ i = 20 ∨ i = 21 ∨ i = 22 ∨ i = 23 ∨ i = 24 ∨ i = 25 ∨ i = 26 := by
          have := hi.1
          have := hi.2
          omega
        rcases this with rfl | rfl | rfl | rfl | rfl | rfl | rfl | rfl | rfl | rfl | rfl | rfl | rfl <;> exact ⟨_, kq _ (by decide), nm_0⟩
    · rw [show (304 + 11 : Nat) = 315 from rfl, k3 315 (by decide) (by decide)]
      exact b3
  refine ⟨h218, ?_, by rw [c2.1, b2.1, a8.1, l9], fun j hj => ?_, fun i => if i = 19 then x2 else 0, 0, 0, fun _ => 0, fun _ => 0, ⟨e0, RW'⟩, ⟨⟨e0, ⟨rfl, rfl, rfl, rfl, rfl⟩, ⟨_, kq 40 (by decide)⟩, ⟨_, kq 39 (by decide)⟩, ⟨R', ?_, a6⟩, ⟨S', ?_, a7⟩, ⟨_, kq 43 (by decide)⟩⟩, ⟨rfl, rfl, rfl, rfl⟩, kq 27 (by decide), kq 28 (by decide), ⟨_, kq 29 (by decide)⟩, ⟨_, kq 30 (by decide)⟩⟩, ⟨kq 1 (by decide), kq 2 (by decide), kq 3 (by decide), kq 4 (by decide)⟩, fun _ => 0, kq 5 (by decide), rfl, fun _ _ => rfl⟩
  · unfold P_Rm_new
    refine (al_ hg (Nat.le_of_ble_eq_true rfl)).trans ?_
    refine (al_ hg (Nat.le_of_ble_eq_true rfl)).trans ?_
    refine (al_ hg (Nat.le_of_ble_eq_true rfl)).trans ?_
    refine (al_ hg (Nat.le_of_ble_eq_true rfl)).trans ?_
    refine (al_ hg (Nat.le_of_ble_eq_true rfl)).trans ?_
    refine (ca_ hg (Nat.le_of_ble_eq_true rfl)).trans ?_
    refine (ca_ hg (Nat.le_of_ble_eq_true rfl)).trans ?_
    refine (ca_ hg (Nat.le_of_ble_eq_true rfl)).trans ?_
    refine (ca_ hg (Nat.le_of_ble_eq_true rfl)).trans ?_
    refine (ca_ hg (Nat.le_of_ble_eq_true rfl)).trans ?_
    refine (al_ hg (Nat.le_of_ble_eq_true rfl)).trans ?_
    refine (al_ hg (Nat.le_of_ble_eq_true rfl)).trans ?_
    refine (al_ hg (Nat.le_of_ble_eq_true rfl)).trans ?_
    refine (al_ hg (Nat.le_of_ble_eq_true rfl)).trans ?_
    refine (al_ hg (Nat.le_of_ble_eq_true rfl)).trans ?_
    refine (al_ hg (Nat.le_of_ble_eq_true rfl)).trans ?_
    refine (al_ hg (Nat.le_of_ble_eq_true rfl)).trans ?_
    refine (al_ hg (Nat.le_of_ble_eq_true rfl)).trans ?_
    refine (al_ hg (Nat.le_of_ble_eq_true rfl)).trans ?_
    refine (al_ hg (Nat.le_of_ble_eq_true rfl)).trans ?_
    refine (al_ hg (Nat.le_of_ble_eq_true rfl)).trans ?_
    refine (al_ hg (Nat.le_of_ble_eq_true rfl)).trans ?_
    refine (al_ hg (Nat.le_of_ble_eq_true rfl)).trans ?_
    refine (al_ hg (Nat.le_of_ble_eq_true rfl)).trans ?_
    refine (al_ hg (Nat.le_of_ble_eq_true rfl)).trans ?_
    refine (al_ hg (Nat.le_of_ble_eq_true rfl)).trans ?_
    refine (al_ hg (Nat.le_of_ble_eq_true rfl)).trans ?_
    refine (al_ hg (Nat.le_of_ble_eq_true rfl)).trans ?_
    refine (al_ hg (Nat.le_of_ble_eq_true rfl)).trans ?_
    refine (al_ hg (Nat.le_of_ble_eq_true rfl)).trans ?_
    refine (al_ hg (Nat.le_of_ble_eq_true rfl)).trans ?_
    refine (al_ hg (Nat.le_of_ble_eq_true rfl)).trans ?_
    refine (al_ hg (Nat.le_of_ble_eq_true rfl)).trans ?_
    refine (al_ hg (Nat.le_of_ble_eq_true rfl)).trans ?_
    refine (al_ hg (Nat.le_of_ble_eq_true rfl)).trans ?_
    refine (al_ hg (Nat.le_of_ble_eq_true rfl)).trans ?_
    refine (al_ hg (Nat.le_of_ble_eq_true rfl)).trans ?_
    refine (al_ hg (Nat.le_of_ble_eq_true rfl)).trans ?_
    refine (al_ hg (Nat.le_of_ble_eq_true rfl)).trans ?_
    refine (al_ hg (Nat.le_of_ble_eq_true rfl)).trans ?_
    refine (al_ hg (Nat.le_of_ble_eq_true rfl)).trans ?_
    refine (al_ hg (Nat.le_of_ble_eq_true rfl)).trans ?_
    refine (al_ hg (Nat.le_of_ble_eq_true rfl)).trans ?_
    refine Eq.trans (b := ob h209 304 8 (
      bnd (P_Rm_constants h209 304) fun h210 =>
      bnd (gR h210 304 8 15) fun k211 =>
      bnd (gR h210 304 8 10) fun k212 =>
      bnd (gR h210 304 8 25) fun k213 =>
      bnd (P_Rm_remainders h210 k211 k212 k213) fun h214 =>
      bnd (gR h214 304 8 16) fun k215 =>
      bnd (gR h214 304 8 11) fun k216 =>
      bnd (gR h214 304 8 25) fun k217 =>
      bnd (P_Rm_remainders h214 k215 k216 k217) fun h218 =>
      some h218)) (by rw [hh]; rfl) ?_
    rw [os_ q0, bs_ a1, bs_ (gR_at q1 rfl), bs_ (gR_at q1 rfl), bs_ (gR_at q1 rfl), bs_ b1, bs_ (gR_at q2 rfl), bs_ (gR_at q2 rfl), bs_ (gR_at q2 rfl), bs_ c1]
  · rw [k3 j (by omega) (by omega), k2 j (by omega) (by omega), k1 j (by omega) (by omega) (by omega) (by omega), hh]
    exact ap_lo (by omega)
  · rw [show (304 + 37 : Nat) = 341 from rfl, k3 341 (by decide) (by decide), k2 341 (by decide) (by decide)]
    exact a4
  · rw [show (304 + 38 : Nat) = 342 from rfl, k3 342 (by decide) (by decide), k2 342 (by decide) (by decide)]
    exact a5
