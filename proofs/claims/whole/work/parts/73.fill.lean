/-! rows filled with one value; the pad of an HMAC -/
def fil {α : Type} (f : Nat → α) (n : Nat) (x : α) (i : Nat) : α := if i < n then x else f i
theorem fil_up {α : Type} {f : Nat → α} {n : Nat} {x : α} : va_up (fil f n x) n x = fil f (n + 1) x := by
  funext i
  by_cases z : i = n
  · subst z; rw [up_s]; unfold fil; rw [if_pos (by omega)]
  · rw [up_n z]
    unfold fil
    by_cases y : i < n
    · rw [if_pos y, if_pos (by omega)]
    · rw [if_neg y, if_neg (by omega)]
theorem fB1 {k n : Nat} {g : Nat → Int8} {v : Int32} (hn : n < 2 ^ 31) : ∀ (r i f : Nat) (h : HP), r + i = n → r < f → h[k]? = some (pB n (fil g i v.toInt8)) → L_Ar_fill_B_5 f h k v (nI i) (nI n) = some (h.set k (pB n (fil g n v.toInt8))) := by
  intro r
  induction r with
  | zero =>
    intro i f h hr hfu hk
    cases f with
    | zero => omega
    | succ f =>
      have hi : i = n := by omega
      subst hi
      show B_Ar_fill_B_5 _ h k v (nI i) (nI i) = _
      unfold B_Ar_fill_B_5
      rw [if_pos (nI_le (Nat.le_refl _) hn), hid hk]
  | succ r ih =>
    intro i f h hr hfu hk
    cases f with
    | zero => omega
    | succ f =>
      show B_Ar_fill_B_5 (L_Ar_fill_B_5 f) h k v (nI i) (nI n) = _
      unfold B_Ar_fill_B_5
      rw [if_neg (nI_ge (by omega) hn)]
      refine (bs_ (tB_in i hk rfl (by omega) (by omega))).trans ?_
      show L_Ar_fill_B_5 f _ k v (nI i + Int32.ofInt 1) (nI n) = _
      rw [nI_ofInt1, fil_up]
      refine (ih (i + 1) f _ (by omega) (by omega) (hs_ hk)).trans ?_
      rw [hss]
theorem fil_0 {α : Type} {f : Nat → α} {x : α} : fil f 0 x = f := by
  funext i
  unfold fil
  rw [if_neg (Nat.not_lt_zero _)]
theorem e_fillB {h : HP} {k n : Nat} {g : Nat → Int8} {v : Int32} (hn : n < 70000) (hk : h[k]? = some (pB n g)) : P_Ar_fill_B h k v = some (h.set k (pB n (fil g n v.toInt8))) := by
  unfold P_Ar_fill_B
  have hl : lnP h k = some (nI n) := by
    unfold lnP
    rw [hk]
    rfl
  refine (bs_ hl).trans ?_
  exact fB1 (by omega) n 0 FU h rfl hn (by rw [fil_0]; exact hk)
theorem fJ1 {k n : Nat} {g : Nat → Int64} {v : Int64} (hn : n < 2 ^ 31) : ∀ (r i f : Nat) (h : HP), r + i = n → r < f → h[k]? = some (pJ n (fil g i v)) → L_Ar_fill_J_6 f h k v (nI i) (nI n) = some (h.set k (pJ n (fil g n v))) := by
  intro r
  induction r with
  | zero =>
    intro i f h hr hfu hk
    cases f with
    | zero => omega
    | succ f =>
      have hi : i = n := by omega
      subst hi
      show B_Ar_fill_J_6 _ h k v (nI i) (nI i) = _
      unfold B_Ar_fill_J_6
      rw [if_pos (nI_le (Nat.le_refl _) hn), hid hk]
  | succ r ih =>
    intro i f h hr hfu hk
    cases f with
    | zero => omega
    | succ f =>
      show B_Ar_fill_J_6 (L_Ar_fill_J_6 f) h k v (nI i) (nI n) = _
      unfold B_Ar_fill_J_6
      rw [if_neg (nI_ge (by omega) hn)]
      refine (bs_ (tJ_in i hk rfl (by omega) (by omega))).trans ?_
      show L_Ar_fill_J_6 f _ k v (nI i + Int32.ofInt 1) (nI n) = _
      rw [nI_ofInt1, fil_up]
      refine (ih (i + 1) f _ (by omega) (by omega) (hs_ hk)).trans ?_
      rw [hss]
theorem e_fillJ {h : HP} {k n : Nat} {g : Nat → Int64} {v : Int64} (hn : n < 70000) (hk : h[k]? = some (pJ n g)) : P_Ar_fill_J h k v = some (h.set k (pJ n (fil g n v))) := by
  unfold P_Ar_fill_J
  have hl : lnP h k = some (nI n) := by
    unfold lnP
    rw [hk]
    rfl
  refine (bs_ hl).trans ?_
  exact fJ1 (by omega) n 0 FU h rfl hn (by rw [fil_0]; exact hk)
/-- the first n bytes of a pad: the key's with the mask -/
def pdx (key g : Nat → Int8) (mask : Int32) (n : Nat) (i : Nat) : Int8 := if i < n then ((key i).toInt32 ^^^ mask).toInt8 else g i
theorem pd1 {p kk kp : Nat} {fs : List Value} {key g : Nat → Int8} {mask : Int32} (hf1 : fs[1]? = some (.ref kk)) (hf2 : fs[4]? = some (.ref kp)) (hpp : kp ≠ p) (hpk : kp ≠ kk) : ∀ (r i f : Nat) (h : HP), r + i = 32 → r < f → h[p]? = some (pO 2 fs) → h[kk]? = some (pB 32 key) → h[kp]? = some (pB 64 (pdx key g mask i)) → L_No_fillPad_11 f h p mask (nI i) = some (h.set kp (pB 64 (pdx key g mask 32))) := by
  intro r
  induction r with
  | zero =>
    intro i f h hr hfu hp hk hq
    cases f with
    | zero => omega
    | succ f =>
      have hi : i = 32 := by omega
      subst hi
      show B_No_fillPad_11 _ h p mask (nI 32) = _
      unfold B_No_fillPad_11
      rw [if_pos (show (32 : Int32) ≤ nI 32 by decide), hid hq]
  | succ r ih =>
    intro i f h hr hfu hp hk hq
    cases f with
    | zero => omega
    | succ f =>
      show B_No_fillPad_11 (L_No_fillPad_11 f) h p mask (nI i) = _
      unfold B_No_fillPad_11
      rw [if_neg (show ¬ (32 : Int32) ≤ nI i from nI_ge (b := 32) (by omega) (by omega))]
      refine (bs_ (gR_at hp hf2)).trans ?_
      refine (bs_ (gR_at hp hf1)).trans ?_
      refine (bs_ (sB_in i hk rfl (by omega) (by omega))).trans ?_
      refine (bs_ (tB_in i hq rfl (by omega) (by omega))).trans ?_
      have v : va_up (pdx key g mask i) i ((((key i).toInt32 ^^^ mask).toInt8.toInt32).toInt8) = pdx key g mask (i + 1) := by
        rw [Int8.toInt8_toInt32]
        funext j
        by_cases z : j = i
        · subst z; rw [up_s]; unfold pdx; rw [if_pos (by omega)]
        · rw [up_n z]
          unfold pdx
          by_cases y : j < i
          · rw [if_pos y, if_pos (by omega)]
          · rw [if_neg y, if_neg (by omega)]
      show L_No_fillPad_11 f (h.set kp (pB 64 (va_up (pdx key g mask i) i ((((key i).toInt32 ^^^ mask).toInt8.toInt32).toInt8)))) p mask (nI i + Int32.ofInt 1) = _
      rw [nI_ofInt1, v]
      refine (ih (i + 1) f _ (by omega) (by omega) (hn_ hpp hp) (hn_ hpk hk) (hs_ hq)).trans ?_
      rw [hss]
theorem pdx_0 {key g : Nat → Int8} {mask : Int32} : pdx key g mask 0 = g := by
  funext i
  unfold pdx
  rw [if_neg (Nat.not_lt_zero _)]
theorem e_fillPad {h : HP} {p kk kp : Nat} {fs : List Value} {key g : Nat → Int8} {mask : Int32} (hf1 : fs[1]? = some (.ref kk)) (hf2 : fs[4]? = some (.ref kp)) (hpp : kp ≠ p) (hpk : kp ≠ kk) (hp : h[p]? = some (pO 2 fs)) (hk : h[kk]? = some (pB 32 key)) (hq : h[kp]? = some (pB 64 g)) : P_No_fillPad h p mask = some (h.set kp (pB 64 (pdx key (fil g 64 mask.toInt8) mask 32))) := by
  unfold P_No_fillPad
  refine (bs_ (gR_at hp hf2)).trans ?_
  refine (bs_ (e_fillB (by decide) hq)).trans ?_
  rw [Int8.toInt8_toInt32]
  refine (pd1 (g := fil g 64 mask.toInt8) hf1 hf2 hpp hpk 32 0 FU _ rfl (by decide) (hn_ hpp hp) (hn_ hpk hk) (by rw [pdx_0]; exact hs_ hq)).trans ?_
  rw [hss]
