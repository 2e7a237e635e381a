/-! THE PURE LAYER: the P_ functions alone. First: how the steps answer where the heap is known -/
theorem bs_ {α β : Type} {a : Option α} {x : α} {k : α → Option β} (e : a = some x) : bnd a k = k x := by rw [e]; rfl
theorem bs2 {α β γ : Type} {a : Option (α × β)} {x : α} {y : β} {k : α → β → Option γ} (e : a = some (x, y)) : bnd2 a k = k x y := by rw [e]; rfl
theorem os_ {β : Type} {h : HP} {k ci : Nat} {fs : List Value} {K : Option β} (e : h[k]? = some (pO ci fs)) : ob h k ci K = K := by
  unfold ob
  rw [e]
  simp
theorem gs_ {β : Type} {c : Prop} [Decidable c] {k : Option β} (h : c) : gd c k = k := if_pos h
theorem sI_in {h : HP} {k n : Nat} {f : Nat → Int32} {i : Int32} (j : Nat) (e : h[k]? = some (pI n f)) (hi : i = nI j) (hj : j < n) (hn : j < 2 ^ 31) : ldI h k i = some (f j) := by
  unfold ldI
  rw [e, hi]
  show (if nI j < 0 ∨ n ≤ (nI j).toNatClampNeg then none else some (f (nI j).toNatClampNeg)) = _
  rw [nI_clamp hn, if_neg (by rintro (z | z); exact nI_pos hn z; omega)]
theorem sB_in {h : HP} {k n : Nat} {f : Nat → Int8} {i : Int32} (j : Nat) (e : h[k]? = some (pB n f)) (hi : i = nI j) (hj : j < n) (hn : j < 2 ^ 31) : ldB h k i = some (f j).toInt32 := by
  unfold ldB
  rw [e, hi]
  show (if nI j < 0 ∨ n ≤ (nI j).toNatClampNeg then none else some (f (nI j).toNatClampNeg).toInt32) = _
  rw [nI_clamp hn, if_neg (by rintro (z | z); exact nI_pos hn z; omega)]
theorem sJ_in {h : HP} {k n : Nat} {f : Nat → Int64} {i : Int32} (j : Nat) (e : h[k]? = some (pJ n f)) (hi : i = nI j) (hj : j < n) (hn : j < 2 ^ 31) : ldJ h k i = some (f j) := by
  unfold ldJ
  rw [e, hi]
  show (if nI j < 0 ∨ n ≤ (nI j).toNatClampNeg then none else some (f (nI j).toNatClampNeg)) = _
  rw [nI_clamp hn, if_neg (by rintro (z | z); exact nI_pos hn z; omega)]
theorem tI_in {h : HP} {k n : Nat} {f : Nat → Int32} {i x : Int32} (j : Nat) (e : h[k]? = some (pI n f)) (hi : i = nI j) (hj : j < n) (hn : j < 2 ^ 31) : stI h k i x = some (h.set k (pI n (va_up f j x))) := by
  unfold stI
  rw [e, hi]
  show (if nI j < 0 ∨ n ≤ (nI j).toNatClampNeg then none else some (h.set k (pI n (va_up f (nI j).toNatClampNeg x)))) = _
  rw [nI_clamp hn, if_neg (by rintro (z | z); exact nI_pos hn z; omega)]
theorem tB_in {h : HP} {k n : Nat} {f : Nat → Int8} {i x : Int32} (j : Nat) (e : h[k]? = some (pB n f)) (hi : i = nI j) (hj : j < n) (hn : j < 2 ^ 31) : stB h k i x = some (h.set k (pB n (va_up f j x.toInt8))) := by
  unfold stB
  rw [e, hi]
  show (if nI j < 0 ∨ n ≤ (nI j).toNatClampNeg then none else some (h.set k (pB n (va_up f (nI j).toNatClampNeg x.toInt8)))) = _
  rw [nI_clamp hn, if_neg (by rintro (z | z); exact nI_pos hn z; omega)]
theorem tJ_in {h : HP} {k n : Nat} {f : Nat → Int64} {i : Int32} {x : Int64} (j : Nat) (e : h[k]? = some (pJ n f)) (hi : i = nI j) (hj : j < n) (hn : j < 2 ^ 31) : stJ h k i x = some (h.set k (pJ n (va_up f j x))) := by
  unfold stJ
  rw [e, hi]
  show (if nI j < 0 ∨ n ≤ (nI j).toNatClampNeg then none else some (h.set k (pJ n (va_up f (nI j).toNatClampNeg x)))) = _
  rw [nI_clamp hn, if_neg (by rintro (z | z); exact nI_pos hn z; omega)]
theorem gV_at {h : HP} {k c j : Nat} {fs : List Value} {v : Value} (e : h[k]? = some (pO c fs)) (hv : fs[j]? = some v) : gV h k c j = some v := by
  unfold gV
  rw [e]
  simp [hv]
theorem gI_at {h : HP} {k c j : Nat} {fs : List Value} {v : Int32} (e : h[k]? = some (pO c fs)) (hv : fs[j]? = some (.int v)) : gI h k c j = some v := by
  unfold gI; rw [gV_at e hv]
theorem gJ_at {h : HP} {k c j : Nat} {fs : List Value} {v : Int64} (e : h[k]? = some (pO c fs)) (hv : fs[j]? = some (.long v)) : gJ h k c j = some v := by
  unfold gJ; rw [gV_at e hv]
theorem gR_at {h : HP} {k c j : Nat} {fs : List Value} {v : Nat} (e : h[k]? = some (pO c fs)) (hv : fs[j]? = some (.ref v)) : gR h k c j = some v := by
  unfold gR; rw [gV_at e hv]
theorem pV_at {h : HP} {k c j : Nat} {fs : List Value} {v : Value} (e : h[k]? = some (pO c fs)) (hj : j < fs.length) : pV h k c j v = some (h.set k (pO c (fs.set j v))) := by
  unfold pV
  rw [e]
  simp [hj]
theorem hs_ {h : HP} {k : Nat} {c d : PE} (e : h[k]? = some c) : (h.set k d)[k]? = some d := by
  rw [List.getElem?_set_self (List.getElem?_eq_some_iff.mp e).1]
theorem hn_ {h : HP} {k j : Nat} {c : Option PE} {d : PE} (n : k ≠ j) (e : h[j]? = c) : (h.set k d)[j]? = c := by
  rw [List.getElem?_set_ne n]; exact e
theorem hss {h : HP} {k : Nat} {c d : PE} : (h.set k c).set k d = h.set k d := List.set_set ..
theorem hsc {h : HP} {k j : Nat} {c d : PE} (n : k ≠ j) : (h.set k c).set j d = (h.set j d).set k c := List.set_comm c d n
theorem hid {h : HP} {k : Nat} {c : PE} (e : h[k]? = some c) : h.set k c = h := by
  apply List.ext_getElem?
  intro j
  by_cases z : k = j
  · subst z; rw [hs_ e, e]
  · rw [List.getElem?_set_ne z]
theorem up_s {α : Type} {f : Nat → α} {i : Nat} {x : α} : va_up f i x i = x := by simp [va_up]
theorem up_n {α : Type} {f : Nat → α} {i j : Nat} {x : α} (n : j ≠ i) : va_up f i x j = f j := by simp [va_up, n]
theorem nI_ofInt1 (n : Nat) : nI n + Int32.ofInt 1 = nI (n + 1) := nI_add n 1
/-! SHA-256: the words of a block, the schedule, the rounds, as both sides have them -/
def sg0 (x : Int32) : Int32 := ((((x.toUInt32 >>> (Int32.toUInt32 7 &&& Int32.toUInt32 31)).toInt32) ||| (x <<< (25 &&& 31))) ^^^ (((x.toUInt32 >>> (Int32.toUInt32 18 &&& Int32.toUInt32 31)).toInt32) ||| (x <<< (14 &&& 31)))) ^^^ ((x.toUInt32 >>> (Int32.toUInt32 3 &&& Int32.toUInt32 31)).toInt32)
def sg1 (x : Int32) : Int32 := ((((x.toUInt32 >>> (Int32.toUInt32 17 &&& Int32.toUInt32 31)).toInt32) ||| (x <<< (15 &&& 31))) ^^^ (((x.toUInt32 >>> (Int32.toUInt32 19 &&& Int32.toUInt32 31)).toInt32) ||| (x <<< (13 &&& 31)))) ^^^ ((x.toUInt32 >>> (Int32.toUInt32 10 &&& Int32.toUInt32 31)).toInt32)
def sE (x : Int32) : Int32 := ((((x.toUInt32 >>> (Int32.toUInt32 6 &&& Int32.toUInt32 31)).toInt32) ||| (x <<< (26 &&& 31))) ^^^ (((x.toUInt32 >>> (Int32.toUInt32 11 &&& Int32.toUInt32 31)).toInt32) ||| (x <<< (21 &&& 31)))) ^^^ (((x.toUInt32 >>> (Int32.toUInt32 25 &&& Int32.toUInt32 31)).toInt32) ||| (x <<< (7 &&& 31)))
def sA (x : Int32) : Int32 := ((((x.toUInt32 >>> (Int32.toUInt32 2 &&& Int32.toUInt32 31)).toInt32) ||| (x <<< (30 &&& 31))) ^^^ (((x.toUInt32 >>> (Int32.toUInt32 13 &&& Int32.toUInt32 31)).toInt32) ||| (x <<< (19 &&& 31)))) ^^^ (((x.toUInt32 >>> (Int32.toUInt32 22 &&& Int32.toUInt32 31)).toInt32) ||| (x <<< (10 &&& 31)))
/-- the word at byte 4 i of a row of bytes -/
def bw (b : Nat → Int8) (i : Nat) : Int32 := ((((b (4 * i)).toInt32 <<< (24 &&& 31)) ||| (((b (4 * i + 1)).toInt32 &&& 255) <<< (16 &&& 31))) ||| (((b (4 * i + 2)).toInt32 &&& 255) <<< (8 &&& 31))) ||| ((b (4 * i + 3)).toInt32 &&& 255)
/-- the first n words laid into w -/
def lay (b : Nat → Int8) (w : Nat → Int32) : Nat → (Nat → Int32)
  | 0 => w
  | n + 1 => va_up (lay b w n) n (bw b n)
/-- n more words behind the sixteen -/
def sch (w : Nat → Int32) : Nat → (Nat → Int32)
  | 0 => w
  | n + 1 => va_up (sch w n) (n + 16) (((sg1 (sch w n (n + 14)) + sch w n (n + 9)) + sg0 (sch w n (n + 1))) + sch w n n)
def mxr (w : Nat → Int32) : Nat → Nat → Int32 → Int32 → Int32 → Int32 → Int32 → Int32 → Int32 → Int32 → (Nat → Int32)
  | 0, _, a, b, c, d, e, f, g, h => fun j => match j with
    | 0 => a
    | 1 => b
    | 2 => c
    | 3 => d
    | 4 => e
    | 5 => f
    | 6 => g
    | _ => h
  | n + 1, i, a, b, c, d, e, f, g, h => mxr w n (i + 1) (((((h + sE e) + ((e &&& f) ^^^ ((e ^^^ (-1)) &&& g))) + (stab 1).2 i) + w i) + (sA a + (((a &&& b) ^^^ (a &&& c)) ^^^ (b &&& c)))) a b c (d + ((((h + sE e) + ((e &&& f) ^^^ ((e ^^^ (-1)) &&& g))) + (stab 1).2 i) + w i)) e f g
def up8 (s v : Nat → Int32) : Nat → Int32 := va_up (va_up (va_up (va_up (va_up (va_up (va_up (va_up s 0 (s 0 + v 0)) 1 (s 1 + v 1)) 2 (s 2 + v 2)) 3 (s 3 + v 3)) 4 (s 4 + v 4)) 5 (s 5 + v 5)) 6 (s 6 + v 6)) 7 (s 7 + v 7)
/-- one block taken into the state -/
def cmp8 (s w : Nat → Int32) : Nat → Int32 := up8 s (mxr w 64 0 (s 0) (s 1) (s 2) (s 3) (s 4) (s 5) (s 6) (s 7))
theorem fs2 {K2 : HP → Nat → Int32 → Option HP} {p kw : Nat} {fs : List Value} {w : Nat → Int32} (hf : fs[1]? = some (.ref kw)) (hpk : kw ≠ p) : ∀ (m n f : Nat) (h : HP), m + n = 48 → m < f → h[p]? = some (pO 4 fs) → h[kw]? = some (pI 64 (sch w n)) → L_Sh_fillSchedule_81 K2 f h p (nI (n + 16)) = some (h.set kw (pI 64 (sch w 48))) := by
  intro m
  induction m with
  | zero =>
    intro n f h hm hfu hp hk
    cases f with
    | zero => omega
    | succ f =>
      have hn : n = 48 := by omega
      subst hn
      show B_Sh_fillSchedule_81 K2 _ h p (nI 64) = _
      unfold B_Sh_fillSchedule_81
      rw [if_pos (show (64 : Int32) ≤ nI 64 by decide), hid hk]
  | succ m ih =>
    intro n f h hm hfu hp hk
    cases f with
    | zero => omega
    | succ f =>
      show B_Sh_fillSchedule_81 K2 (L_Sh_fillSchedule_81 K2 f) h p (nI (n + 16)) = _
      unfold B_Sh_fillSchedule_81
      have g := gR_at hp hf
      rw [if_neg (show ¬ (64 : Int32) ≤ nI (n + 16) from nI_ge (b := 64) (by omega) (by omega))]
      refine (bs_ g).trans ?_
      refine (bs_ (sI_in (n + 1) hk (show nI (n + 16) - nI 15 = _ from pk_sub (by omega)) (by omega) (by omega))).trans ?_
      refine (bs_ g).trans ?_
      refine (bs_ (sI_in (n + 14) hk (show nI (n + 16) - nI 2 = _ from pk_sub (by omega)) (by omega) (by omega))).trans ?_
      refine (bs_ g).trans ?_
      refine (bs_ g).trans ?_
      refine (bs_ (sI_in (n + 9) hk (show nI (n + 16) - nI 7 = _ from pk_sub (by omega)) (by omega) (by omega))).trans ?_
      refine (bs_ g).trans ?_
      refine (bs_ (sI_in n hk (show nI (n + 16) - nI 16 = _ from pk_sub (by omega)) (by omega) (by omega))).trans ?_
      refine (bs_ (tI_in (n + 16) hk rfl (by omega) (by omega))).trans ?_
      show L_Sh_fillSchedule_81 K2 f _ p (nI (n + 16) + Int32.ofInt 1) = _
      rw [nI_ofInt1, show n + 16 + 1 = (n + 1) + 16 by omega]
      refine (ih (n + 1) f _ (by omega) (by omega) (hn_ hpk hp) (hs_ hk)).trans ?_
      rw [hss]
theorem fs1 {p kw kb : Nat} {fs : List Value} {w : Nat → Int32} {b : Nat → Int8} (hf : fs[1]? = some (.ref kw)) (hf2 : fs[2]? = some (.ref kb)) (hpk : kw ≠ p) (hkb : kw ≠ kb) : ∀ (m n f : Nat) (h : HP), m + n = 16 → m < f → h[p]? = some (pO 4 fs) → h[kw]? = some (pI 64 (lay b w n)) → h[kb]? = some (pB 64 b) → L_Sh_fillSchedule_2 f h p (nI n) = some (h.set kw (pI 64 (sch (lay b w 16) 48))) := by
  intro m
  induction m with
  | zero =>
    intro n f h hm hfu hp hk hb
    cases f with
    | zero => omega
    | succ f =>
      have hn : n = 16 := by omega
      subst hn
      show B_Sh_fillSchedule_2 _ h p (nI 16) = _
      unfold B_Sh_fillSchedule_2
      rw [if_pos (show (16 : Int32) ≤ nI 16 by decide)]
      exact fs2 hf hpk 48 0 FU h rfl (by decide) hp hk
  | succ m ih =>
    intro n f h hm hfu hp hk hb
    cases f with
    | zero => omega
    | succ f =>
      show B_Sh_fillSchedule_2 (L_Sh_fillSchedule_2 f) h p (nI n) = _
      unfold B_Sh_fillSchedule_2
      have g := gR_at hp hf
      have g2 := gR_at hp hf2
      rw [if_neg (show ¬ (16 : Int32) ≤ nI n from nI_ge (b := 16) (by omega) (by omega))]
      show bnd _ _ = _
      refine (bs_ g).trans ?_
      refine (bs_ g2).trans ?_
      refine (bs_ (sB_in (4 * n) hb (show nI 4 * nI n = _ from pk_mul 4 n) (by omega) (by omega))).trans ?_
      refine (bs_ g2).trans ?_
      refine (bs_ (sB_in (4 * n + 1) hb (show nI 4 * nI n + nI 1 = _ by rw [pk_mul, nI_add]) (by omega) (by omega))).trans ?_
      refine (bs_ g2).trans ?_
      refine (bs_ (sB_in (4 * n + 2) hb (show nI 4 * nI n + nI 2 = _ by rw [pk_mul, nI_add]) (by omega) (by omega))).trans ?_
      refine (bs_ g2).trans ?_
      refine (bs_ (sB_in (4 * n + 3) hb (show nI 4 * nI n + nI 3 = _ by rw [pk_mul, nI_add]) (by omega) (by omega))).trans ?_
      refine (bs_ (tI_in n hk rfl (by omega) (by omega))).trans ?_
      show L_Sh_fillSchedule_2 f _ p (nI n + Int32.ofInt 1) = _
      rw [nI_ofInt1]
      refine (ih (n + 1) f _ (by omega) (by omega) (hn_ hpk hp) (hs_ hk) (hn_ hkb hb)).trans ?_
      rw [hss]
theorem e_fillSchedule {h : HP} {p kw kb : Nat} {fs : List Value} {w : Nat → Int32} {b : Nat → Int8} (hf : fs[1]? = some (.ref kw)) (hf2 : fs[2]? = some (.ref kb)) (hpk : kw ≠ p) (hkb : kw ≠ kb) (hp : h[p]? = some (pO 4 fs)) (hk : h[kw]? = some (pI 64 w)) (hb : h[kb]? = some (pB 64 b)) : P_Sh_fillSchedule h p = some (h.set kw (pI 64 (sch (lay b w 16) 48))) :=
  fs1 hf hf2 hpk hkb 16 0 FU h rfl (by decide) hp hk hb
theorem td_in {t : Nat} {i : Int32} (j : Nat) (hi : i = nI j) (h7 : t < 7) (hj : j < (stab t).1) (hn : j < 2 ^ 31) : tdI t i = some ((stab t).2 j) := by
  unfold tdI
  rw [hi, nI_clamp hn, if_neg (by rintro (z | z | z); omega; exact nI_pos hn z; omega)]
theorem mx1 {p ks kw : Nat} {fs : List Value} {s w : Nat → Int32} (hf : fs[0]? = some (.ref ks)) (hf1 : fs[1]? = some (.ref kw)) (hl : 3 < fs.length) (hpk : ks ≠ p) {h : HP} (hp : h[p]? = some (pO 4 fs)) (hk : h[ks]? = some (pI 8 s)) (hw : h[kw]? = some (pI 64 w)) : ∀ (m n f : Nat) (a b c d e f' g i : Int32), m + n = 64 → m < f →
    L_Sh_mixBlock_70 f h p a b c d e f' g i (nI n) = some ((h.set ks (pI 8 (up8 s (mxr w m n a b c d e f' g i)))).set p (pO 4 (fs.set 3 (.int 0)))) := by
  intro m
  induction m with
  | zero =>
    intro n f a b c d e f' g i hm hfu
    cases f with
    | zero => omega
    | succ f =>
      have hn : n = 64 := by omega
      subst hn
      show B_Sh_mixBlock_70 _ h p a b c d e f' g i (nI 64) = _
      unfold B_Sh_mixBlock_70
      rw [if_pos (show (64 : Int32) ≤ nI 64 by decide)]
      refine (bs_ (gR_at hp hf)).trans ?_
      refine (bs_ (sI_in 0 hk rfl (by omega) (by omega))).trans ?_
      refine (bs_ (tI_in 0 hk rfl (by omega) (by omega))).trans ?_
      refine (bs_ (gR_at (hn_ hpk hp) hf)).trans ?_
      refine (bs_ (sI_in 1 (hs_ hk) rfl (by omega) (by omega))).trans ?_
      refine (bs_ (tI_in 1 (hs_ hk) rfl (by omega) (by omega))).trans ?_
      refine (bs_ (gR_at (hn_ hpk (hn_ hpk hp)) hf)).trans ?_
      refine (bs_ (sI_in 2 (hs_ (hs_ hk)) rfl (by omega) (by omega))).trans ?_
      refine (bs_ (tI_in 2 (hs_ (hs_ hk)) rfl (by omega) (by omega))).trans ?_
      refine (bs_ (gR_at (hn_ hpk (hn_ hpk (hn_ hpk hp))) hf)).trans ?_
      refine (bs_ (sI_in 3 (hs_ (hs_ (hs_ hk))) rfl (by omega) (by omega))).trans ?_
      refine (bs_ (tI_in 3 (hs_ (hs_ (hs_ hk))) rfl (by omega) (by omega))).trans ?_
      refine (bs_ (gR_at (hn_ hpk (hn_ hpk (hn_ hpk (hn_ hpk hp)))) hf)).trans ?_
      refine (bs_ (sI_in 4 (hs_ (hs_ (hs_ (hs_ hk)))) rfl (by omega) (by omega))).trans ?_
      refine (bs_ (tI_in 4 (hs_ (hs_ (hs_ (hs_ hk)))) rfl (by omega) (by omega))).trans ?_
      refine (bs_ (gR_at (hn_ hpk (hn_ hpk (hn_ hpk (hn_ hpk (hn_ hpk hp))))) hf)).trans ?_
      refine (bs_ (sI_in 5 (hs_ (hs_ (hs_ (hs_ (hs_ hk))))) rfl (by omega) (by omega))).trans ?_
      refine (bs_ (tI_in 5 (hs_ (hs_ (hs_ (hs_ (hs_ hk))))) rfl (by omega) (by omega))).trans ?_
      refine (bs_ (gR_at (hn_ hpk (hn_ hpk (hn_ hpk (hn_ hpk (hn_ hpk (hn_ hpk hp)))))) hf)).trans ?_
      refine (bs_ (sI_in 6 (hs_ (hs_ (hs_ (hs_ (hs_ (hs_ hk)))))) rfl (by omega) (by omega))).trans ?_
      refine (bs_ (tI_in 6 (hs_ (hs_ (hs_ (hs_ (hs_ (hs_ hk)))))) rfl (by omega) (by omega))).trans ?_
      refine (bs_ (gR_at (hn_ hpk (hn_ hpk (hn_ hpk (hn_ hpk (hn_ hpk (hn_ hpk (hn_ hpk hp))))))) hf)).trans ?_
      refine (bs_ (sI_in 7 (hs_ (hs_ (hs_ (hs_ (hs_ (hs_ (hs_ hk))))))) rfl (by omega) (by omega))).trans ?_
      refine (bs_ (tI_in 7 (hs_ (hs_ (hs_ (hs_ (hs_ (hs_ (hs_ hk))))))) rfl (by omega) (by omega))).trans ?_
      refine (bs_ (pV_at (hn_ hpk (hn_ hpk (hn_ hpk (hn_ hpk (hn_ hpk (hn_ hpk (hn_ hpk (hn_ hpk hp)))))))) hl)).trans ?_
      simp only [hss]
      rfl
  | succ m ih =>
    intro n f a b c d e f' g i hm hfu
    cases f with
    | zero => omega
    | succ f =>
      show B_Sh_mixBlock_70 (L_Sh_mixBlock_70 f) h p a b c d e f' g i (nI n) = _
      unfold B_Sh_mixBlock_70
      rw [if_neg (show ¬ (64 : Int32) ≤ nI n from nI_ge (b := 64) (by omega) (by omega))]
      refine (bs_ (td_in n rfl (by decide) (show n < (stab 1).1 from (show n < 64 by omega)) (by omega))).trans ?_
      refine (bs_ (gR_at hp hf1)).trans ?_
      refine (bs_ (sI_in n hw rfl (by omega) (by omega))).trans ?_
      show L_Sh_mixBlock_70 f h p _ a b c _ e f' g (nI n + Int32.ofInt 1) = _
      rw [nI_ofInt1]
      exact ih (n + 1) f _ _ _ _ _ _ _ _ (by omega) (by omega)
theorem e_mixBlock {h : HP} {p ks kw kb : Nat} {u t : Int32} {s w : Nat → Int32} {b : Nat → Int8} (h1 : ks ≠ p) (h2 : kw ≠ p) (h3 : kw ≠ kb) (h4 : kw ≠ ks) (hp : h[p]? = some (pO 4 [.ref ks, .ref kw, .ref kb, .int u, .int t])) (hs : h[ks]? = some (pI 8 s)) (hk : h[kw]? = some (pI 64 w)) (hb : h[kb]? = some (pB 64 b)) :
    P_Sh_mixBlock h p = some (((h.set kw (pI 64 (sch (lay b w 16) 48))).set ks (pI 8 (cmp8 s (sch (lay b w 16) 48)))).set p (pO 4 [.ref ks, .ref kw, .ref kb, .int 0, .int t])) := by
  unfold P_Sh_mixBlock
  refine (os_ hp).trans ?_
  refine (bs_ (e_fillSchedule rfl rfl h2 h3 hp hk hb)).trans ?_
  have q1 := hn_ (d := pI 64 (sch (lay b w 16) 48)) h2 hp
  have q2 := hn_ (d := pI 64 (sch (lay b w 16) 48)) h4 hs
  have q3 := hs_ (d := pI 64 (sch (lay b w 16) 48)) hk
  refine (bs_ (gR_at q1 rfl)).trans ?_
  refine (bs_ (sI_in 0 q2 rfl (by omega) (by omega))).trans ?_
  refine (bs_ (gR_at q1 rfl)).trans ?_
  refine (bs_ (sI_in 1 q2 rfl (by omega) (by omega))).trans ?_
  refine (bs_ (gR_at q1 rfl)).trans ?_
  refine (bs_ (sI_in 2 q2 rfl (by omega) (by omega))).trans ?_
  refine (bs_ (gR_at q1 rfl)).trans ?_
  refine (bs_ (sI_in 3 q2 rfl (by omega) (by omega))).trans ?_
  refine (bs_ (gR_at q1 rfl)).trans ?_
  refine (bs_ (sI_in 4 q2 rfl (by omega) (by omega))).trans ?_
  refine (bs_ (gR_at q1 rfl)).trans ?_
  refine (bs_ (sI_in 5 q2 rfl (by omega) (by omega))).trans ?_
  refine (bs_ (gR_at q1 rfl)).trans ?_
  refine (bs_ (sI_in 6 q2 rfl (by omega) (by omega))).trans ?_
  refine (bs_ (gR_at q1 rfl)).trans ?_
  refine (bs_ (sI_in 7 q2 rfl (by omega) (by omega))).trans ?_
  exact mx1 rfl rfl (Nat.le_of_ble_eq_true rfl) h1 q1 q2 q3 64 0 FU _ _ _ _ _ _ _ _ rfl (by decide)
