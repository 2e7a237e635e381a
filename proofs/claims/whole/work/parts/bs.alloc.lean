/-! constructors: cells laid behind an object -/
theorem ap_at {h0 L : HP} {m i : Nat} (hm : h0.length = m) : (h0 ++ L)[m + i]? = L[i]? := by
  rw [← hm, List.getElem?_append_right (Nat.le_add_right _ _), Nat.add_sub_cancel_left]
theorem ap_lo {h0 L : HP} {j : Nat} (hj : j < h0.length) : (h0 ++ L)[j]? = h0[j]? := List.getElem?_append_left hj
theorem ap_set {h0 L : HP} {m i : Nat} {c : PE} (hm : h0.length = m) : (h0 ++ L).set (m + i) c = h0 ++ L.set i c := by
  rw [← hm, List.set_append_right _ _ (Nat.le_add_right _ _), Nat.add_sub_cancel_left]
theorem sp_ {h : HP} {m : Nat} {c : PE} (e : h[m]? = some c) : ∃ a b : HP, h = a ++ (c :: b) ∧ a.length = m ∧ b.length + (m + 1) = h.length := by
  obtain ⟨h1, h2⟩ := List.getElem?_eq_some_iff.mp e
  refine ⟨h.take m, h.drop (m + 1), ?_, ?_, ?_⟩
  · rw [← h2, ← List.drop_eq_getElem_cons h1, List.take_append_drop]
  · rw [List.length_take]; omega
  · rw [List.length_drop]; omega
section ALC
variable {β : Type} {h0 cs : HP} {m c j : Nat} {fs : List Value} {x : PE} {K : HP → Option β}
theorem pv_ {v : Value} (hm : h0.length = m) (hj : j + 1 ≤ fs.length) : pV (h0 ++ (pO c fs :: cs)) m c j v = some (h0 ++ (pO c (fs.set j v) :: cs)) := by
  have e : (h0 ++ (pO c fs :: cs))[m]? = some (pO c fs) := (ap_at (i := 0) hm).trans rfl
  rw [pV_at e hj]
  exact congrArg some (ap_set (i := 0) hm)
theorem al_ (hm : h0.length = m) (hj : j + 1 ≤ fs.length) : (lt ((h0 ++ (pO c fs :: cs)) ++ [x]) fun h1 => lt (h0 ++ (pO c fs :: cs)).length fun k2 => bnd (pV h1 m c j (.ref k2)) fun h3 => K h3) = K (h0 ++ (pO c (fs.set j (.ref (m + (cs.length + 1)))) :: (cs ++ [x]))) := by
  have e1 : (h0 ++ (pO c fs :: cs)) ++ [x] = h0 ++ (pO c fs :: (cs ++ [x])) := by rw [List.append_assoc, List.cons_append]
  have e2 : (h0 ++ (pO c fs :: cs)).length = m + (cs.length + 1) := by rw [List.length_append, hm, List.length_cons]
  rw [lt_e, lt_e, e1, e2]
  exact bs_ (pv_ hm hj)
/-- a part object made by its own constructor -/
theorem su_ {P : HP → Nat → Option HP} {L : Nat → HP} (e : ∀ (g : HP) (n : Nat), g.length = n → P (g ++ [x]) n = some (g ++ L n)) (hm : h0.length = m) (hj : j + 1 ≤ fs.length) : (lt ((h0 ++ (pO c fs :: cs)) ++ [x]) fun h1 => lt (h0 ++ (pO c fs :: cs)).length fun k2 => bnd (P h1 k2) fun h3 => bnd (pV h3 m c j (.ref k2)) fun h4 => K h4) = K (h0 ++ (pO c (fs.set j (.ref (m + (cs.length + 1)))) :: (cs ++ L (m + (cs.length + 1))))) := by
  have e2 : (h0 ++ (pO c fs :: cs)).length = m + (cs.length + 1) := by rw [List.length_append, hm, List.length_cons]
  rw [lt_e, lt_e, e2]
  refine (bs_ (e _ _ e2)).trans ?_
  rw [List.append_assoc, List.cons_append]
  exact bs_ (pv_ hm hj)
/-- an array of arrays -/
theorem ml_ {t n : Nat} (hm : h0.length = m) (hj : j + 1 ≤ fs.length) : (lt (mn2 (h0 ++ (pO c fs :: cs)) t n x) fun h1 => lt (h0 ++ (pO c fs :: cs)).length fun k2 => bnd (pV h1 m c j (.ref k2)) fun h3 => K h3) = K (h0 ++ (pO c (fs.set j (.ref (m + (cs.length + 1)))) :: (cs ++ (pR t n (fun i => if i < n then some (m + (cs.length + 1) + 1 + i) else none) :: List.replicate n x)))) := by
  have e2 : (h0 ++ (pO c fs :: cs)).length = m + (cs.length + 1) := by rw [List.length_append, hm, List.length_cons]
  rw [lt_e, lt_e]
  unfold mn2
  rw [e2, List.append_assoc, List.cons_append]
  exact bs_ (pv_ hm hj)
end ALC
theorem mkn_Sh (h0 : HP) (m : Nat) (hm : h0.length = m) : P_Sh_new (h0 ++ [pO 4 [.null, .null, .null, .int 0, .int 0]]) m = some (h0 ++ [pO 4 [.ref (m + 1), .ref (m + 2), .ref (m + 3), .int 0, .int 0], pI 8 (fun _ => 0), pI 64 (fun _ => 0), pB 64 (fun _ => 0)]) := by
  unfold P_Sh_new
  refine (al_ hm (Nat.le_of_ble_eq_true rfl)).trans ?_
  refine (al_ hm (Nat.le_of_ble_eq_true rfl)).trans ?_
  refine (al_ hm (Nat.le_of_ble_eq_true rfl)).trans ?_
  refine (bs_ (pv_ hm (Nat.le_of_ble_eq_true rfl))).trans ?_
  refine (bs_ (pv_ hm (Nat.le_of_ble_eq_true rfl))).trans ?_
  rfl
theorem mkn_Po (h0 : HP) (m : Nat) (hm : h0.length = m) : P_Po_new (h0 ++ [pO 3 [.null, .null, .null]]) m = some (h0 ++ [pO 3 [.ref (m + 1), .ref (m + 2), .ref (m + 3)], pJ 9 (fun _ => 0), pJ 9 (fun _ => 0), pJ 9 (fun _ => 0)]) := by
  unfold P_Po_new
  refine (al_ hm (Nat.le_of_ble_eq_true rfl)).trans ?_
  refine (al_ hm (Nat.le_of_ble_eq_true rfl)).trans ?_
  refine (al_ hm (Nat.le_of_ble_eq_true rfl)).trans ?_
  rfl
theorem mkn_Sg (h0 : HP) (m : Nat) (hm : h0.length = m) : P_Sg_new (h0 ++ [pO 5 [.null, .null]]) m = some (h0 ++ [pO 5 [.ref (m + 1), .ref (m + 2)], pB 33 (fun _ => 0), pB 33 (fun _ => 0)]) := by
  unfold P_Sg_new
  refine (al_ hm (Nat.le_of_ble_eq_true rfl)).trans ?_
  refine (al_ hm (Nat.le_of_ble_eq_true rfl)).trans ?_
  rfl
theorem mkn_No (h0 : HP) (m : Nat) (hm : h0.length = m) : P_No_new (h0 ++ [pO 2 [.null, .null, .null, .null, .null, .null]]) m = some (h0 ++ [pO 2 [.ref (m + 1), .ref (m + 5), .ref (m + 6), .ref (m + 7), .ref (m + 8), .ref (m + 9)], pO 4 [.ref (m + 2), .ref (m + 3), .ref (m + 4), .int 0, .int 0], pI 8 (fun _ => 0), pI 64 (fun _ => 0), pB 64 (fun _ => 0), pB 32 (fun _ => 0), pB 32 (fun _ => 0), pB 97 (fun _ => 0), pB 64 (fun _ => 0), pB 32 (fun _ => 0)]) := by
  unfold P_No_new
  refine (su_ (P := P_Sh_new) (L := fun m => [pO 4 [.ref (m + 1), .ref (m + 2), .ref (m + 3), .int 0, .int 0], pI 8 (fun _ => 0), pI 64 (fun _ => 0), pB 64 (fun _ => 0)]) mkn_Sh hm (Nat.le_of_ble_eq_true rfl)).trans ?_
  refine (al_ hm (Nat.le_of_ble_eq_true rfl)).trans ?_
  refine (al_ hm (Nat.le_of_ble_eq_true rfl)).trans ?_
  refine (al_ hm (Nat.le_of_ble_eq_true rfl)).trans ?_
  refine (al_ hm (Nat.le_of_ble_eq_true rfl)).trans ?_
  refine (al_ hm (Nat.le_of_ble_eq_true rfl)).trans ?_
  rfl
/-- the tables of eight words as bytes -/
def rwf (t : Nat) : Nat → (Nat → Int8)
  | 0 => fun _ => 0
  | n + 1 => pt4 (rwf t n) (4 * n) ((stab t).2 n)
theorem rw_loop {h : HP} {t k to : Nat} {G : Nat → Int64} (ht : t < 7) (h8 : (stab t).1 = 8) (nt : to ≠ k) : ∀ (r i f : Nat) (h : HP), r + i = 8 → r < f → h[k]? = some (pB 32 (rwf t i)) → h[to]? = some (pJ 9 G) → ∃ D, L_Li_readWords_7 f h t to k (nI i) = some ((h.set k (pB 32 (rwf t 8))).set to (pJ 9 D)) ∧ LM D (be (rwf t 8) 32) := by
  intro r
  induction r with
  | zero =>
    intro i f h hi hf hk hg
    obtain ⟨f, rfl⟩ : ∃ g, f = g + 1 := ⟨f - 1, by omega⟩
    have e8 : i = 8 := by omega
    subst e8
    obtain ⟨D, d1, d2⟩ := e_read (at' := 0) (t := to) (by decide) (by decide) nt hk ⟨G, hg⟩
    refine ⟨D, ?_, ?_⟩
    · show B_Li_readWords_7 (L_Li_readWords_7 f) h t to k (nI 8) = _
      unfold B_Li_readWords_7 tdN
      rw [if_neg (by omega), bs_ rfl, h8, if_pos (show Int32.ofNat 8 ≤ nI 8 by decide), hid hk]
      exact bs_ d1
    · rw [be_eq 32 (g := fun k => rwf t 8 (0 + k)) (fun k _ => by rw [Nat.zero_add])]
      exact d2
  | succ r ih =>
    intro i f h hi hf hk hg
    obtain ⟨f, rfl⟩ : ∃ g, f = g + 1 := ⟨f - 1, by omega⟩
    have e1 : tdI t (nI i) = some ((stab t).2 i) := by
      unfold tdI
      rw [nI_clamp (by omega), if_neg (by
        intro c
        rcases c with c | c | c
        · omega
        · exact nI_pos (by omega) c
        · omega)]
    have e2 : P_Wo_put h ((stab t).2 i) k (4 * nI i) = some (h.set k (pB 32 (rwf t (i + 1)))) := e_put (4 * i) hk (nI_mul 4 i) (by omega) (by decide)
    obtain ⟨D, d1, d2⟩ := ih (i + 1) f (h.set k (pB 32 (rwf t (i + 1)))) (by omega) (by omega) (hs_ hk) (hn_ (Ne.symm nt) hg)
    refine ⟨D, ?_, d2⟩
    show B_Li_readWords_7 (L_Li_readWords_7 f) h t to k (nI i) = _
    unfold B_Li_readWords_7 tdN
    rw [if_neg (show ¬ 7 ≤ t by omega), bs_ rfl, h8, if_neg (show ¬ Int32.ofNat 8 ≤ nI i from nI_ge (b := 8) (by omega) (by decide)), bs_ e1, bs_ e2, lt_e, nI_ofInt1, d1, hss]
/-- a table of words read as a number -/
theorem w_words {h : HP} {t to : Nat} (ht : t < 7) (h8 : (stab t).1 = 8) (hg : ∃ G, h[to]? = some (pJ 9 G)) : ∃ h', P_Li_readWords h t to = some h' ∧ h'.length = h.length + 1 ∧ (∀ j, j ≠ to → j < h.length → h'[j]? = h[j]?) ∧ ∃ D, h'[to]? = some (pJ 9 D) ∧ LM D (be (rwf t 8) 32) := by
  obtain ⟨G, hg⟩ := hg
  have lt' := (List.getElem?_eq_some_iff.mp hg).1
  have e1 : (h ++ [pB 32 (fun _ => 0)])[h.length]? = some (pB 32 (rwf t 0)) := ap_at (i := 0) rfl
  have e2 : (h ++ [pB 32 (fun _ => 0)])[to]? = some (pJ 9 G) := (ap_lo lt').trans hg
  obtain ⟨D, d1, d2⟩ := rw_loop (h := h) (k := h.length) ht h8 (by omega) 8 0 FU (h ++ [pB 32 (fun _ => 0)]) rfl (by decide) e1 e2
  refine ⟨(((h ++ [pB 32 (fun _ => 0)]).set h.length (pB 32 (rwf t 8))).set to (pJ 9 D)), ?_, ?_, fun j h1 h2 => ?_, D, ?_, d2⟩
  · unfold P_Li_readWords
    rw [lt_e, lt_e]
    exact d1
  · rw [List.length_set, List.length_set, List.length_append]; rfl
  · rw [List.getElem?_set_ne (Ne.symm h1), List.getElem?_set_ne (by omega)]; exact ap_lo h2
  · exact hs_ (hn_ (by omega) e2)
theorem rwf_P : be (rwf 2 8) 32 = PP := by decide +kernel
theorem rwf_B : be (rwf 3 8) 32 = BB := by decide +kernel
theorem rwf_X : be (rwf 4 8) 32 = GX := by decide +kernel
theorem rwf_Y : be (rwf 5 8) 32 = GY := by decide +kernel
theorem rwf_N : be (rwf 6 8) 32 = NN := by decide +kernel
