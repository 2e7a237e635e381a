/-! the constructors of Signer and Curve -/
theorem l10_ {l : HP} (h : l.length = 10) : ∃ b0 b1 b2 b3 b4 b5 b6 b7 b8 b9 : PE, l = [b0, b1, b2, b3, b4, b5, b6, b7, b8, b9] := by
  rcases l with _ | ⟨b0, l⟩
  · exact absurd (show (0 : Nat) = 10 from h) (by decide)
  rcases l with _ | ⟨b1, l⟩
  · exact absurd (show (1 : Nat) = 10 from h) (by decide)
  rcases l with _ | ⟨b2, l⟩
  · exact absurd (show (2 : Nat) = 10 from h) (by decide)
  rcases l with _ | ⟨b3, l⟩
  · exact absurd (show (3 : Nat) = 10 from h) (by decide)
  rcases l with _ | ⟨b4, l⟩
  · exact absurd (show (4 : Nat) = 10 from h) (by decide)
  rcases l with _ | ⟨b5, l⟩
  · exact absurd (show (5 : Nat) = 10 from h) (by decide)
  rcases l with _ | ⟨b6, l⟩
  · exact absurd (show (6 : Nat) = 10 from h) (by decide)
  rcases l with _ | ⟨b7, l⟩
  · exact absurd (show (7 : Nat) = 10 from h) (by decide)
  rcases l with _ | ⟨b8, l⟩
  · exact absurd (show (8 : Nat) = 10 from h) (by decide)
  rcases l with _ | ⟨b9, l⟩
  · exact absurd (show (9 : Nat) = 10 from h) (by decide)
  rcases l with _ | ⟨c, l⟩
  · exact ⟨b0, b1, b2, b3, b4, b5, b6, b7, b8, b9, rfl⟩
  · simp only [List.length_cons] at h; omega
theorem l11_ {l : HP} (h : l.length = 11) : ∃ b0 b1 b2 b3 b4 b5 b6 b7 b8 b9 b10 : PE, l = [b0, b1, b2, b3, b4, b5, b6, b7, b8, b9, b10] := by
  rcases l with _ | ⟨b0, l⟩
  · exact absurd (show (0 : Nat) = 11 from h) (by decide)
  rcases l with _ | ⟨b1, l⟩
  · exact absurd (show (1 : Nat) = 11 from h) (by decide)
  rcases l with _ | ⟨b2, l⟩
  · exact absurd (show (2 : Nat) = 11 from h) (by decide)
  rcases l with _ | ⟨b3, l⟩
  · exact absurd (show (3 : Nat) = 11 from h) (by decide)
  rcases l with _ | ⟨b4, l⟩
  · exact absurd (show (4 : Nat) = 11 from h) (by decide)
  rcases l with _ | ⟨b5, l⟩
  · exact absurd (show (5 : Nat) = 11 from h) (by decide)
  rcases l with _ | ⟨b6, l⟩
  · exact absurd (show (6 : Nat) = 11 from h) (by decide)
  rcases l with _ | ⟨b7, l⟩
  · exact absurd (show (7 : Nat) = 11 from h) (by decide)
  rcases l with _ | ⟨b8, l⟩
  · exact absurd (show (8 : Nat) = 11 from h) (by decide)
  rcases l with _ | ⟨b9, l⟩
  · exact absurd (show (9 : Nat) = 11 from h) (by decide)
  rcases l with _ | ⟨b10, l⟩
  · exact absurd (show (10 : Nat) = 11 from h) (by decide)
  rcases l with _ | ⟨c, l⟩
  · exact ⟨b0, b1, b2, b3, b4, b5, b6, b7, b8, b9, b10, rfl⟩
  · simp only [List.length_cons] at h; omega
theorem ap_hi {A B L : HP} {c c' : PE} {m j : Nat} (hA : A.length = m) (h1 : m < j) (h2 : j < m + 1 + B.length) : (A ++ (c' :: (B ++ L)))[j]? = (A ++ (c :: B))[j]? := by
  obtain ⟨i, rfl⟩ : ∃ i, j = m + (i + 1) := ⟨j - m - 1, by omega⟩
  rw [ap_at hA, ap_at hA, List.getElem?_cons_succ, List.getElem?_cons_succ]
  exact List.getElem?_append_left (by omega)
theorem mkn_Si {g : HP} (hg : g.length = 262) : ∃ h', P_Si_new (g ++ [pO 6 [.null, .null, .null, .null, .null, .null, .null, .null, .null, .null, .null]]) 262 = some h' ∧ h'.length = 295 ∧ (∀ j, j < 262 → h'[j]? = g[j]?) ∧ SGn 234929231 h' := by
  have l1 : (g ++ [pO 6 [.null, .null, .null, .null, .null, .null, .null, .null, .null, .null, .null]]).length = 263 := by rw [List.length_append, hg]; rfl
  obtain ⟨h3, a1, a2, a3, M⟩ := mkn_MoN _ 263 l1
  have e0 : h3[262]? = some (pO 6 [.null, .null, .null, .null, .null, .null, .null, .null, .null, .null, .null]) := (a3 262 (by decide)).trans (ap_at (i := 0) hg)
  obtain ⟨A, B, rfl, hA, hB⟩ := sp_ e0
  obtain ⟨b0, b1, b2, b3, b4, b5, b6, b7, b8, b9, rfl⟩ := l10_ (l := B) (by omega)
  obtain ⟨h', hh⟩ : ∃ h', h' = A ++ (pO 6 [.ref 263, .ref 273, .ref 283, .ref 287, .ref 288, .ref 289, .ref 290, .ref 291, .ref 292, .ref 293, .ref 294] :: ([b0, b1, b2, b3, b4, b5, b6, b7, b8, b9] ++ [pO 2 [.ref 274, .ref 278, .ref 279, .ref 280, .ref 281, .ref 282], pO 4 [.ref 275, .ref 276, .ref 277, .int 0, .int 0], pI 8 (fun _ => 0), pI 64 (fun _ => 0), pB 64 (fun _ => 0), pB 32 (fun _ => 0), pB 32 (fun _ => 0), pB 97 (fun _ => 0), pB 64 (fun _ => 0), pB 32 (fun _ => 0), pO 3 [.ref 284, .ref 285, .ref 286], pJ 9 (fun _ => 0), pJ 9 (fun _ => 0), pJ 9 (fun _ => 0), pJ 9 (fun _ => 0), pJ 9 (fun _ => 0), pJ 9 (fun _ => 0), pJ 9 (fun _ => 0), pJ 9 (fun _ => 0), pJ 9 (fun _ => 0), pB 32 (fun _ => 0), pB 32 (fun _ => 0)])) := ⟨_, rfl⟩
  have q : ∀ i, h'[262 + i]? = _ := fun i => (congrArg (fun (l : HP) => l[262 + i]?) hh).trans (ap_at hA)
  refine ⟨h', ?_, ?_, fun j hj => ?_, ⟨q 0, mob_ag M (fun j h1 h2 => ?_), ⟨q 21, ⟨_, q 22⟩, ⟨_, q 23⟩, ⟨_, q 24⟩⟩, fun i h1 h2 => ?_, ⟨_, q 31⟩, ⟨_, q 32⟩⟩, fun _ => 0, fun _ => 0, fun _ => 0, q 11, ⟨0, 0, fun _ => 0, fun _ => 0, fun _ => 0, q 12, q 13, q 14, q 15⟩, q 16, q 17, q 18, ⟨_, q 19⟩, ⟨_, q 20⟩⟩
  · unfold P_Si_new
    rw [lt_e, lt_e, l1, bs_ a1]
    refine (bs_ (pv_ hA (Nat.le_of_ble_eq_true rfl))).trans ?_
    refine (su_ (P := P_No_new) (L := fun m => [pO 2 [.ref (m + 1), .ref (m + 5), .ref (m + 6), .ref (m + 7), .ref (m + 8), .ref (m + 9)], pO 4 [.ref (m + 2), .ref (m + 3), .ref (m + 4), .int 0, .int 0], pI 8 (fun _ => 0), pI 64 (fun _ => 0), pB 64 (fun _ => 0), pB 32 (fun _ => 0), pB 32 (fun _ => 0), pB 97 (fun _ => 0), pB 64 (fun _ => 0), pB 32 (fun _ => 0)]) mkn_No hA (Nat.le_of_ble_eq_true rfl)).trans ?_
    refine (su_ (P := P_Po_new) (L := fun m => [pO 3 [.ref (m + 1), .ref (m + 2), .ref (m + 3)], pJ 9 (fun _ => 0), pJ 9 (fun _ => 0), pJ 9 (fun _ => 0)]) mkn_Po hA (Nat.le_of_ble_eq_true rfl)).trans ?_
    refine (al_ hA (Nat.le_of_ble_eq_true rfl)).trans ?_
    refine (al_ hA (Nat.le_of_ble_eq_true rfl)).trans ?_
    refine (al_ hA (Nat.le_of_ble_eq_true rfl)).trans ?_
    refine (al_ hA (Nat.le_of_ble_eq_true rfl)).trans ?_
    refine (al_ hA (Nat.le_of_ble_eq_true rfl)).trans ?_
    refine (al_ hA (Nat.le_of_ble_eq_true rfl)).trans ?_
    refine (al_ hA (Nat.le_of_ble_eq_true rfl)).trans ?_
    refine (al_ hA (Nat.le_of_ble_eq_true rfl)).trans ?_
    rw [hh]
    rfl
  · rw [hh, List.length_append, hA]; rfl
  · rw [hh]
    exact (ap_lo (h0 := A) (by omega)).trans ((ap_lo (h0 := A) (by omega)).symm.trans ((a3 j (by omega)).trans (ap_lo (by omega))))
  · rw [hh]
    exact ap_hi hA (by omega) (by show j < 262 + 1 + 10; omega)
  · have : i = 287 ∨ i = 288 ∨ i = 289 ∨ i = 290 ∨ i = 291 ∨ i = 292 := by omega
    rcases this with rfl | rfl | rfl | rfl | rfl | rfl
    · exact ⟨_, q 25⟩
    · exact ⟨_, q 26⟩
    · exact ⟨_, q 27⟩
    · exact ⟨_, q 28⟩
    · exact ⟨_, q 29⟩
    · exact ⟨_, q 30⟩
/-- a point of zeros -/
def Z0 (p : Nat) (h : HP) : Prop := h[p]? = some (pO 3 [.ref (p + 1), .ref (p + 2), .ref (p + 3)]) ∧ h[p + 1]? = some (pJ 9 (fun _ => 0)) ∧ h[p + 2]? = some (pJ 9 (fun _ => 0)) ∧ h[p + 3]? = some (pJ 9 (fun _ => 0))
theorem z0_ag {p : Nat} {h h' : HP} (z : Z0 p h) (k : ag p (p + 4) h h') : Z0 p h' := ⟨(k p (by omega) (by omega)).trans z.1, (k (p + 1) (by omega) (by omega)).trans z.2.1, (k (p + 2) (by omega) (by omega)).trans z.2.2.1, (k (p + 3) (by omega) (by omega)).trans z.2.2.2⟩
theorem z0_pv {p : Nat} {h : HP} (z : Z0 p h) : PVl p 0 0 0 h := ⟨z.1, ⟨_, z.2.1, lm_zz, by decide⟩, ⟨_, z.2.2.1, lm_zz, by decide⟩, ⟨_, z.2.2.2, lm_zz, by decide⟩⟩
theorem z0_pr {p : Nat} {h : HP} (z : Z0 p h) : PRw p h := ⟨z.1, ⟨_, z.2.1⟩, ⟨_, z.2.2.1⟩, ⟨_, z.2.2.2⟩⟩
theorem stP_at {h : HP} {k v n : Nat} {f : Nat → Option Nat} {fs : List Value} {x : Int32} (j : Nat) (e1 : h[k]? = some (pR 3 n f)) (e2 : h[v]? = some (pO 3 fs)) (hx : x = nI j) (hj : j < n) (hn : j < 2 ^ 31) : stP h k x v = some (h.set k (pR 3 n (va_up f j (some v)))) := by
  unfold stP
  rw [e1, e2, hx]
  show (if nI j < 0 ∨ n ≤ (nI j).toNatClampNeg then none else some (h.set k (pR 3 n (va_up f (nI j).toNatClampNeg (some v))))) = _
  rw [nI_clamp hn, if_neg (by rintro (z | z); exact nI_pos hn z; omega)]
theorem po_st {h : HP} {n k i : Nat} {f : Nat → Option Nat} (hn : h.length = n) (hk : h[k]? = some (pR 3 16 f)) (hi : i < 16) : ∃ h', (∀ K : HP → Option HP, (lt (h ++ [pO 3 [.null, .null, .null]]) fun h36 => lt h.length fun k37 => bnd (P_Po_new h36 k37) fun h38 => bnd (stP h38 k (nI i) k37) fun h39 => K h39) = K h') ∧ h'.length = n + 4 ∧ h'[k]? = some (pR 3 16 (va_up f i (some n))) ∧ (∀ j, j < n → j ≠ k → h'[j]? = h[j]?) ∧ Z0 n h' := by
  have kl := (List.getElem?_eq_some_iff.mp hk).1
  obtain ⟨h38, hh⟩ : ∃ h38, h38 = h ++ [pO 3 [.ref (n + 1), .ref (n + 2), .ref (n + 3)], pJ 9 (fun _ => 0), pJ 9 (fun _ => 0), pJ 9 (fun _ => 0)] := ⟨_, rfl⟩
  have q : ∀ i, h38[n + i]? = _ := fun i => (congrArg (fun (l : HP) => l[n + i]?) hh).trans (ap_at hn)
  have e1 : h38[k]? = some (pR 3 16 f) := by rw [hh]; exact (ap_lo kl).trans hk
  have e2 : h38[n]? = some (pO 3 [.ref (n + 1), .ref (n + 2), .ref (n + 3)]) := q 0
  have e3 := stP_at (x := nI i) i e1 e2 rfl hi (by omega)
  refine ⟨_, fun K => ?_, ?_, hs_ e1, fun j h1 h2 => ?_, hn_ (by omega) e2, hn_ (by omega) (q 1), hn_ (by omega) (q 2), hn_ (by omega) (q 3)⟩
  · rw [lt_e, lt_e, hn, bs_ (mkn_Po h n hn), ← hh]
    exact bs_ e3
  · rw [List.length_set, hh, List.length_append, hn]; rfl
  · rw [List.getElem?_set_ne (Ne.symm h2), hh]; exact ap_lo (by omega)
def CQf : List Value := [.ref 111, .ref 112, .ref 122, .ref 123, .ref 124, .ref 125]
/-- the curve's loop that makes the points -/
def CLi (i : Nat) (h19 h : HP) : Prop := h.length = 131 + 8 * i ∧ h[110]? = some (pO 0 CQf) ∧ (∃ f, h[123]? = some (pR 3 16 f) ∧ ∀ j, j < i → f j = some (131 + 8 * j)) ∧ (∃ f, h[124]? = some (pR 3 16 f) ∧ ∀ j, j < i → f j = some (135 + 8 * j)) ∧ (∀ j, j < i → Z0 (131 + 8 * j) h ∧ Z0 (135 + 8 * j) h) ∧ ∀ j, j < 131 → j ≠ 123 → j ≠ 124 → h[j]? = h19[j]?
theorem cl_loop {h19 : HP} : ∀ (r i f : Nat) (h : HP), r + i = 16 → r < f → CLi i h19 h → ∃ h' K, L_Cu_new_65 f h 110 (nI i) = B_Cu_new_65 K h' 110 (nI 16) ∧ CLi 16 h19 h' := by
  intro r
  induction r with
  | zero =>
    intro i f h hi hf C
    obtain ⟨f, rfl⟩ : ∃ g, f = g + 1 := ⟨f - 1, by omega⟩
    have e : i = 16 := by omega
    subst e
    exact ⟨h, L_Cu_new_65 f, rfl, C⟩
  | succ r ih =>
    intro i f h hi hf C
    obtain ⟨f, rfl⟩ : ∃ g, f = g + 1 := ⟨f - 1, by omega⟩
    obtain ⟨c1, c2, ⟨f1, c3, c3'⟩, ⟨f2, c4, c4'⟩, c5, c6⟩ := C
    obtain ⟨h39, a1, a2, a3, a4, a5⟩ := po_st c1 c3 (i := i) (by omega)
    have d2 : h39[110]? = some (pO 0 CQf) := (a4 110 (by omega) (by decide)).trans c2
    have d4 : h39[124]? = some (pR 3 16 f2) := (a4 124 (by omega) (by decide)).trans c4
    obtain ⟨h44, b1, b2, b3, b4, b5⟩ := po_st a2 d4 (i := i) (by omega)
    have kk : ∀ j, j < 131 + 8 * i → j ≠ 123 → j ≠ 124 → h44[j]? = h[j]? := fun j h1 h2 h3 => (b4 j (by omega) h3).trans (a4 j h1 h2)
    have k2 : ∀ j, j < 131 + 8 * i + 4 → j ≠ 124 → h44[j]? = h39[j]? := fun j h1 h3 => b4 j (by omega) h3
    have C' : CLi (i + 1) h19 h44 := by
      refine ⟨by omega, (kk 110 (by omega) (by decide) (by decide)).trans c2, ⟨_, (k2 123 (by omega) (by decide)).trans a3, fun j hj => ?_⟩, ⟨_, b3, fun j hj => ?_⟩, fun j hj => ?_, fun j h1 h2 h3 => (kk j (by omega) h2 h3).trans (c6 j h1 h2 h3)⟩
      · by_cases z : j = i
        · rw [z, up_s]
        · rw [up_n z]; exact c3' j (by omega)
      · by_cases z : j = i
        · rw [z, up_s]; congr 1; omega
        · rw [up_n z]; exact c4' j (by omega)
      · by_cases z : j = i
        · subst z
          exact ⟨z0_ag a5 (fun k h1 h2 => k2 k (by omega) (by omega)), by rw [show 135 + 8 * j = 131 + 8 * j + 4 by omega]; exact b5⟩
        · have := c5 j (by omega)
          exact ⟨z0_ag this.1 (fun k h1 h2 => kk k (by omega) (by omega) (by omega)), z0_ag this.2 (fun k h1 h2 => kk k (by omega) (by omega) (by omega))⟩
    obtain ⟨h', K, e1, e2⟩ := ih (i + 1) f h44 (by omega) (by omega) C'
    refine ⟨h', K, ?_, e2⟩
    show B_Cu_new_65 (L_Cu_new_65 f) h 110 (nI i) = _
    unfold B_Cu_new_65
    rw [if_neg (show ¬ (16 : Int32) ≤ nI i from nI_ge (b := 16) (by omega) (by decide)), bs_ (gR_at c2 rfl)]
    refine (a1 _).trans ?_
    rw [bs_ (gR_at d2 rfl)]
    refine (b1 _).trans ?_
    rw [lt_e, nI_ofInt1]
    exact e1
