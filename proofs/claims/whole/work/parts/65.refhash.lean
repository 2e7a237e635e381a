/-! the reference's hash -/
theorem b_sh8 (x : Int32) {i : Nat} (hi : i < 32) : bt (x <<< ((8 : Int32) &&& 31)) i = (decide (8 ≤ i) && bt x (i - 8)) := b_shl 8 (by omega) x hi
theorem b_sh16 (x : Int32) {i : Nat} (hi : i < 32) : bt (x <<< ((16 : Int32) &&& 31)) i = (decide (16 ≤ i) && bt x (i - 16)) := b_shl 16 (by omega) x hi
theorem b_sh24 (x : Int32) {i : Nat} (hi : i < 32) : bt (x <<< ((24 : Int32) &&& 31)) i = (decide (24 ≤ i) && bt x (i - 24)) := b_shl 24 (by omega) x hi
theorem wd4 (x0 x1 x2 x3 : Int32) : (((((((((0 : Int32) <<< ((8 : Int32) &&& 31)) ||| (x0 &&& 255)) <<< ((8 : Int32) &&& 31)) ||| (x1 &&& 255)) <<< ((8 : Int32) &&& 31)) ||| (x2 &&& 255)) <<< ((8 : Int32) &&& 31)) ||| (x3 &&& 255)) = (((x0 <<< ((24 : Int32) &&& 31)) ||| ((x1 &&& 255) <<< ((16 : Int32) &&& 31))) ||| ((x2 &&& 255) <<< ((8 : Int32) &&& 31))) ||| (x3 &&& 255) := by
  apply b_ext
  intro i hi
  rw [b_or, b_sh8 _ hi, b_or, b_sh8 _ (show i - 8 < 32 by omega), b_or, b_sh8 _ (show i - 8 - 8 < 32 by omega), b_or, b_sh8 _ (show i - 8 - 8 - 8 < 32 by omega), b_0, b_or, b_or, b_or, b_sh24 _ hi, b_sh16 _ hi, b_sh8 _ hi]
  simp only [b_and, b_255]
  have e1 : i - 8 - 8 = i - 16 := by omega
  have e2 : i - 16 - 8 = i - 24 := by omega
  rw [e1, e2]
  rcases (by omega : i < 8 ∨ (8 ≤ i ∧ i < 16) ∨ (16 ≤ i ∧ i < 24) ∨ 24 ≤ i) with z | z | z | z
  · simp [show ¬ 8 ≤ i by omega, show ¬ 16 ≤ i by omega, show ¬ 24 ≤ i by omega, z]
  · simp [show 8 ≤ i by omega, show ¬ 16 ≤ i by omega, show ¬ 24 ≤ i by omega, show ¬ i < 8 by omega, show i - 8 < 8 by omega, show ¬ 8 ≤ i - 8 by omega]
  · simp [show 8 ≤ i by omega, show 16 ≤ i by omega, show ¬ 24 ≤ i by omega, show ¬ i < 8 by omega, show ¬ i - 8 < 8 by omega, show 8 ≤ i - 8 by omega, show i - 16 < 8 by omega, show ¬ 8 ≤ i - 16 by omega]
  · simp [show 8 ≤ i by omega, show 16 ≤ i by omega, show 24 ≤ i by omega, show ¬ i < 8 by omega, show ¬ i - 8 < 8 by omega, show 8 ≤ i - 8 by omega, show ¬ i - 16 < 8 by omega, show 8 ≤ i - 16 by omega, show i - 24 < 8 by omega]
def pwd (b : Nat → Int8) : Nat → Int32
  | 0 => 0
  | j + 1 => (pwd b j <<< ((8 : Int32) &&& 31)) ||| ((b j).toInt32 &&& 255)
theorem pwd4 (b : Nat → Int8) (k : Nat) : pwd (fun j => b (4 * k + j)) 4 = bw b k := wd4 _ _ _ _
theorem up_up {α : Type} {f : Nat → α} {i : Nat} {x y : α} : va_up (va_up f i x) i y = va_up f i y := by
  funext j
  by_cases z : j = i
  · subst z; rw [up_s, up_s]
  · rw [up_n z, up_n z, up_n z]
section RH
variable {q row ks kw kr kt kh : Nat} {fs : List Value} {X : Nat → Int8} {rn n : Nat} {rts sts : Nat → Int64}
theorem hb4 {K17 K51 : HP → Nat → Nat → Int32 → Int32 → Int32 → Option HP} {K60 : HP → Nat → Nat → Int32 → Int32 → Int32 → Int32 → Option HP} (hf1 : fs[45]? = some (.ref kw)) (hpw : kw ≠ q) (hrw : kw ≠ row) (hn : n ≤ rn) (hn2 : n < 2 ^ 20) {a k : Nat} (ha : a + 64 ≤ 64 * ((n + 72) / 64)) (hk : k < 16) {w : Nat → Int32} : ∀ (r j f : Nat) (h : HP), r + j = 4 → r < f → h[q]? = some (pO 8 fs) → h[row]? = some (pB rn X) → h[kw]? = some (pI 64 (va_up w k (pwd (fun j => XP X n (a + 4 * k + j)) j))) →
    L_Rm_hash_78 K17 K51 K60 f h q row (nI n) (nI (64 * ((n + 72) / 64))) (nI a) (nI k) (nI j) = K60 (h.set kw (pI 64 (va_up w k (pwd (fun j => XP X n (a + 4 * k + j)) 4)))) q row (nI n) (nI (64 * ((n + 72) / 64))) (nI a) (nI (k + 1)) := by
  intro r
  induction r with
  | zero =>
    intro j f h hr hfu hp hrow hw
    cases f with
    | zero => omega
    | succ f =>
      have hj : j = 4 := by omega
      subst hj
      show B_Rm_hash_78 K17 K51 K60 _ h q row (nI n) _ (nI a) (nI k) (nI 4) = _
      unfold B_Rm_hash_78
      rw [if_pos (show (4 : Int32) ≤ nI 4 by decide), hid hw]
      show K60 h q row (nI n) _ (nI a) (nI k + Int32.ofInt 1) = _
      rw [nI_ofInt1]
  | succ r ih =>
    intro j f h hr hfu hp hrow hw
    cases f with
    | zero => omega
    | succ f =>
      show B_Rm_hash_78 K17 K51 K60 (L_Rm_hash_78 K17 K51 K60 f) h q row (nI n) _ (nI a) (nI k) (nI j) = _
      unfold B_Rm_hash_78
      rw [if_neg (show ¬ (4 : Int32) ≤ nI j from nI_ge (b := 4) (by omega) (by omega))]
      refine (bs_ (gR_at hp hf1)).trans ?_
      refine (bs_ (gR_at hp hf1)).trans ?_
      refine (bs_ (sI_in k hw rfl (by omega) (by omega))).trans ?_
      have e : (nI a + 4 * nI k) + nI j = nI (a + 4 * k + j) := by
        show (nI a + nI 4 * nI k) + nI j = _
        rw [pk_mul, nI_add, nI_add]
      rw [e]
      refine (bs2 (e_padded hrow hn hn2 (by omega))).trans ?_
      refine (bs_ (tI_in k hw rfl (by omega) (by omega))).trans ?_
      show L_Rm_hash_78 K17 K51 K60 f _ q row (nI n) _ (nI a) (nI k) (nI j + Int32.ofInt 1) = _
      rw [nI_ofInt1, up_up, up_s]
      refine (ih (j + 1) f _ (by omega) (by omega) (hn_ hpw hp) (hn_ hrw hrow) (hs_ hw)).trans ?_
      rw [hss]
theorem hb16 {K17 K51 : HP → Nat → Nat → Int32 → Int32 → Int32 → Option HP} (hf : fs[46]? = some (.ref ks)) (hf1 : fs[45]? = some (.ref kw)) (hf2 : fs[43]? = some (.ref kr)) (hpk : ks ≠ q) (hpw : kw ≠ q) (hws : kw ≠ ks) (hwr : kw ≠ kr) (hrw : kw ≠ row) (hR : ∀ i, i < 64 → hi32 (rts i) = (stab 1).2 i) (hn : n ≤ rn) (hn2 : n < 2 ^ 20) {a : Nat} (ha : a + 64 ≤ 64 * ((n + 72) / 64)) {s w : Nat → Int32} : ∀ (r k f : Nat) (h : HP), r + k = 16 → r < f → h[q]? = some (pO 8 fs) → h[row]? = some (pB rn X) → h[ks]? = some (pI 8 s) → h[kr]? = some (pJ 80 rts) → h[kw]? = some (pI 64 (lay (fun i => XP X n (a + i)) w k)) →
    L_Rm_hash_60 K17 K51 f h q row (nI n) (nI (64 * ((n + 72) / 64))) (nI a) (nI k) = K51 ((h.set kw (pI 64 (sch (lay (fun i => XP X n (a + i)) w 16) 48))).set ks (pI 8 (cmp8 s (sch (lay (fun i => XP X n (a + i)) w 16) 48)))) q row (nI n) (nI (64 * ((n + 72) / 64))) (nI (a + 64)) := by
  intro r
  induction r with
  | zero =>
    intro k f h hr hfu hp hrow hs0 hr0 hw
    cases f with
    | zero => omega
    | succ f =>
      have hk : k = 16 := by omega
      subst hk
      show B_Rm_hash_60 K17 K51 _ h q row (nI n) _ (nI a) (nI 16) = _
      unfold B_Rm_hash_60
      rw [if_pos (show (16 : Int32) ≤ nI 16 by decide)]
      refine (os_ hp).trans ?_
      refine (bs_ (e_over hf hf1 hf2 hpk hpw hws hwr hR hp hs0 hw hr0)).trans ?_
      show K51 _ q row (nI n) _ (nI a + nI 64) = _
      rw [nI_add]
  | succ r ih =>
    intro k f h hr hfu hp hrow hs0 hr0 hw
    cases f with
    | zero => omega
    | succ f =>
      show B_Rm_hash_60 K17 K51 (L_Rm_hash_60 K17 K51 f) h q row (nI n) _ (nI a) (nI k) = _
      unfold B_Rm_hash_60
      rw [if_neg (show ¬ (16 : Int32) ≤ nI k from nI_ge (b := 16) (by omega) (by omega))]
      refine (bs_ (gR_at hp hf1)).trans ?_
      refine (bs_ (tI_in k hw rfl (by omega) (by omega))).trans ?_
      refine (hb4 hf1 hpw hrw hn hn2 ha (by omega) 4 0 FU _ rfl (by decide) (hn_ hpw hp) (hn_ hrw hrow) (hs_ hw)).trans ?_
      have pe : pwd (fun j => XP X n (a + 4 * k + j)) 4 = bw (fun i => XP X n (a + i)) k := by
        rw [show (fun j => XP X n (a + 4 * k + j)) = (fun j => (fun i => XP X n (a + i)) (4 * k + j)) from funext fun j => by show _ = XP X n (a + (4 * k + j)); rw [Nat.add_assoc]]
        exact pwd4 (fun i => XP X n (a + i)) k
      rw [hss, pe]
      refine (ih (k + 1) f _ (by omega) (by omega) (hn_ hpw hp) (hn_ hrw hrow) (hn_ hws hs0) (hn_ hwr hr0) (hs_ hw)).trans ?_
      rw [hss]
theorem ush0 (x : Int32) : (x.toUInt32 >>> (Int32.toUInt32 (nI 0) &&& Int32.toUInt32 31)).toInt32 = x := by
  apply b_ext
  intro i hi
  rw [b_ushr 0 (by decide), Nat.zero_add]
/-- the digest's bytes laid over f -/
def dgs (f : Nat → Int8) (s : Nat → Int32) (n : Nat) (i : Nat) : Int8 := if i < n then wb (s (i / 4)) (i % 4) else f i
theorem out1 {K17 K51 : HP → Nat → Nat → Int32 → Int32 → Int32 → Option HP} (hf : fs[46]? = some (.ref ks)) (hf3 : fs[49]? = some (.ref kh)) (hhq : kh ≠ q) (hhs : kh ≠ ks) {s : Nat → Int32} {f0 : Nat → Int8} : ∀ (r i f : Nat) (h : HP), r + i = 32 → r < f → h[q]? = some (pO 8 fs) → h[ks]? = some (pI 8 s) → h[kh]? = some (pB 32 (dgs f0 s i)) → L_Rm_hash_143 K17 K51 f h q (nI i) = some (h.set kh (pB 32 (dgs f0 s 32))) := by
  intro r
  induction r with
  | zero =>
    intro i f h hr hfu hp hs0 hh
    cases f with
    | zero => omega
    | succ f =>
      have hi : i = 32 := by omega
      subst hi
      show B_Rm_hash_143 K17 K51 _ h q (nI 32) = _
      unfold B_Rm_hash_143
      rw [if_pos (show (32 : Int32) ≤ nI 32 by decide), hid hh]
  | succ r ih =>
    intro i f h hr hfu hp hs0 hh
    cases f with
    | zero => omega
    | succ f =>
      show B_Rm_hash_143 K17 K51 (L_Rm_hash_143 K17 K51 f) h q (nI i) = _
      unfold B_Rm_hash_143
      rw [if_neg (show ¬ (32 : Int32) ≤ nI i from nI_ge (b := 32) (by omega) (by omega))]
      refine (bs_ (gR_at hp hf3)).trans ?_
      refine (bs_ (gR_at hp hf)).trans ?_
      refine (bs_ (sI_in (i / 4) hs0 (show nI i / nI 4 = _ from pk_div (by omega) (by omega) (by omega)) (by omega) (by omega))).trans ?_
      refine (bs_ (tB_in i hh rfl (by omega) (by omega))).trans ?_
      have e : (24 : Int32) - 8 * (nI i - nI i / 4 * 4) = nI (24 - 8 * (i % 4)) := by
        show nI 24 - nI 8 * (nI i - nI i / nI 4 * nI 4) = _
        rw [pk_rem (by omega) (by omega) (by omega), pk_mul, pk_sub (by omega)]
      have v : va_up (dgs f0 s i) i (((s (i / 4)).toUInt32 >>> (Int32.toUInt32 ((24 : Int32) - 8 * (nI i - nI i / 4 * 4)) &&& Int32.toUInt32 31)).toInt32.toInt8.toInt32.toInt8) = dgs f0 s (i + 1) := by
        rw [e, Int8.toInt8_toInt32]
        funext j
        by_cases z : j = i
        · subst z
          rw [up_s]
          unfold dgs
          rw [if_pos (by omega)]
          have h4 : j % 4 = 0 ∨ j % 4 = 1 ∨ j % 4 = 2 ∨ j % 4 = 3 := by omega
          rcases h4 with z | z | z | z <;> rw [z]
          · rfl
          · rfl
          · rfl
          · show ((s (j / 4)).toUInt32 >>> (Int32.toUInt32 (nI 0) &&& Int32.toUInt32 31)).toInt32.toInt8 = (s (j / 4)).toInt8
            rw [ush0]
        · rw [up_n z]
          unfold dgs
          by_cases y : j < i
          · rw [if_pos y, if_pos (by omega)]
          · rw [if_neg y, if_neg (by omega)]
      show L_Rm_hash_143 K17 K51 f (h.set kh (pB 32 (va_up (dgs f0 s i) i (((s (i / 4)).toUInt32 >>> (Int32.toUInt32 ((24 : Int32) - 8 * (nI i - nI i / 4 * 4)) &&& Int32.toUInt32 31)).toInt32.toInt8.toInt32.toInt8)))) q (nI i + Int32.ofInt 1) = _
      rw [nI_ofInt1, v]
      refine (ih (i + 1) f _ (by omega) (by omega) (hn_ hhq hp) (hn_ hhs hs0) (hs_ hh)).trans ?_
      rw [hss]
theorem hbl {K17 : HP → Nat → Nat → Int32 → Int32 → Int32 → Option HP} (hf : fs[46]? = some (.ref ks)) (hf1 : fs[45]? = some (.ref kw)) (hf2 : fs[43]? = some (.ref kr)) (hf3 : fs[49]? = some (.ref kh)) (hpk : ks ≠ q) (hpw : kw ≠ q) (hws : kw ≠ ks) (hwr : kw ≠ kr) (hrw : kw ≠ row) (hsr : ks ≠ kr) (hsw : ks ≠ row) (hhq : kh ≠ q) (hhs : kh ≠ ks) (hhw : kh ≠ kw) (hR : ∀ i, i < 64 → hi32 (rts i) = (stab 1).2 i) (hn : n ≤ rn) (hn2 : n < 2 ^ 20) {f0 : Nat → Int8} : ∀ (r j f : Nat) (h : HP) (s w : Nat → Int32), r + j = (n + 72) / 64 → r < f → h[q]? = some (pO 8 fs) → h[row]? = some (pB rn X) → h[ks]? = some (pI 8 s) → h[kr]? = some (pJ 80 rts) → h[kw]? = some (pI 64 w) → h[kh]? = some (pB 32 f0) → s8 s (hs (XP X n) j) →
    ∃ (h' : HP) (s' w' : Nat → Int32), L_Rm_hash_51 K17 f h q row (nI n) (nI (64 * ((n + 72) / 64))) (nI (64 * j)) = some h' ∧ h'[kh]? = some (pB 32 (dgs f0 s' 32)) ∧ s8 s' (hs (XP X n) ((n + 72) / 64)) ∧ h'[ks]? = some (pI 8 s') ∧ h'[kw]? = some (pI 64 w') ∧ KP [kw, ks, kh] h h' := by
  intro r
  induction r with
  | zero =>
    intro j f h s w hr hfu hp hrow hs0 hr0 hw hh e1
    cases f with
    | zero => omega
    | succ f =>
      have hj : j = (n + 72) / 64 := by omega
      subst hj
      refine ⟨h.set kh (pB 32 (dgs f0 s 32)), s, w, ?_, hs_ hh, e1, hn_ hhs hs0, hn_ hhw hw, KP.st (by simp)⟩
      show B_Rm_hash_51 K17 _ h q row (nI n) _ _ = _
      unfold B_Rm_hash_51
      rw [if_pos (nI_le (Nat.le_refl _) (by omega))]
      exact out1 hf hf3 hhq hhs 32 0 FU h rfl (by decide) hp hs0 (by rw [hh]; congr 1)
  | succ r ih =>
    intro j f h s w hr hfu hp hrow hs0 hr0 hw hh e1
    cases f with
    | zero => omega
    | succ f =>
      show ∃ (h' : HP) (s' w' : Nat → Int32), B_Rm_hash_51 K17 (L_Rm_hash_51 K17 f) h q row (nI n) (nI (64 * ((n + 72) / 64))) (nI (64 * j)) = some h' ∧ _
      unfold B_Rm_hash_51
      rw [if_neg (nI_ge (by omega) (by omega)), show L_Rm_hash_60 K17 (L_Rm_hash_51 K17 f) FU h q row (nI n) (nI (64 * ((n + 72) / 64))) (nI (64 * j)) 0 = _ from hb16 hf hf1 hf2 hpk hpw hws hwr hrw hR hn hn2 (a := 64 * j) (by omega) 16 0 FU h rfl (by decide) hp hrow hs0 hr0 hw, show 64 * j + 64 = 64 * (j + 1) by omega]
      have e2 : s8 (cmp8 s (sch (lay (fun i => XP X n (64 * j + i)) w 16) 48)) (hs (XP X n) (j + 1)) := by
        rw [cmp_eq (b' := fun i => XP X n (64 * j + i)) (fun _ _ => rfl)]
        exact cmp_s8 e1
      obtain ⟨h', s', w', g1, g2, g3, g4, g5, g6⟩ := ih (j + 1) f _ _ _ (by omega) (by omega) (hn_ hpk (hn_ hpw hp)) (hn_ hsw (hn_ hrw hrow)) (hs_ (hn_ hws hs0)) (hn_ hsr (hn_ hwr hr0)) (hn_ hws.symm (hs_ hw)) (hn_ hhs.symm (hn_ hhw.symm hh)) e2
      exact ⟨h', s', w', g1, g2, g3, g4, g5, KP.tr (KP.tr (KP.st (by simp)) (KP.st (by simp))) g6⟩
theorem hin1 (hf : fs[46]? = some (.ref ks)) (hf1 : fs[45]? = some (.ref kw)) (hf2 : fs[43]? = some (.ref kr)) (hf3 : fs[49]? = some (.ref kh)) (hf4 : fs[44]? = some (.ref kt)) (hpk : ks ≠ q) (hpw : kw ≠ q) (hws : kw ≠ ks) (hwr : kw ≠ kr) (hrw : kw ≠ row) (hsr : ks ≠ kr) (hst : ks ≠ kt) (hsw : ks ≠ row) (hhq : kh ≠ q) (hhs : kh ≠ ks) (hhw : kh ≠ kw) (hR : ∀ i, i < 64 → hi32 (rts i) = (stab 1).2 i) (hS : ∀ i, i < 8 → hi32 (sts i) = (stab 0).2 i) (hn : n ≤ rn) (hn2 : n < 2 ^ 20) {f0 : Nat → Int8} {w : Nat → Int32} : ∀ (r i f : Nat) (h : HP) (s : Nat → Int32), r + i = 8 → r < f → h[q]? = some (pO 8 fs) → h[row]? = some (pB rn X) → h[ks]? = some (pI 8 s) → h[kr]? = some (pJ 80 rts) → h[kt]? = some (pJ 8 sts) → h[kw]? = some (pI 64 w) → h[kh]? = some (pB 32 f0) → (∀ j, j < i → s j = (stab 0).2 j) →
    ∃ (h' : HP) (s' w' : Nat → Int32), L_Rm_hash_17 f h q row (nI n) (nI (64 * ((n + 72) / 64))) (nI i) = some h' ∧ h'[kh]? = some (pB 32 (dgs f0 s' 32)) ∧ s8 s' (hs (XP X n) ((n + 72) / 64)) ∧ h'[ks]? = some (pI 8 s') ∧ h'[kw]? = some (pI 64 w') ∧ KP [kw, ks, kh] h h' := by
  intro r
  induction r with
  | zero =>
    intro i f h s hr hfu hp hrow hs0 hr0 ht0 hw hh e1
    cases f with
    | zero => omega
    | succ f =>
      have hi : i = 8 := by omega
      subst hi
      show ∃ (h' : HP) (s' w' : Nat → Int32), B_Rm_hash_17 (L_Rm_hash_17 f) h q row (nI n) (nI (64 * ((n + 72) / 64))) (nI 8) = some h' ∧ _
      unfold B_Rm_hash_17
      rw [if_pos (show (8 : Int32) ≤ nI 8 by decide)]
      exact hbl hf hf1 hf2 hf3 hpk hpw hws hwr hrw hsr hsw hhq hhs hhw hR hn hn2 ((n + 72) / 64) 0 FU h s w rfl (show (n + 72) / 64 < 70000 by omega) hp hrow hs0 hr0 hw hh (fun j hj => by
        show s j = va_cpy (stab 0).2 (fun _ => 0) 0 0 8 j
        rw [e1 j hj]
        unfold va_cpy
        simp [hj])
  | succ r ih =>
    intro i f h s hr hfu hp hrow hs0 hr0 ht0 hw hh e1
    cases f with
    | zero => omega
    | succ f =>
      obtain ⟨h', s', w', g1, g2, g3, g4, g5, g6⟩ := ih (i + 1) f (h.set ks (pI 8 (va_up s i (hi32 (sts i))))) _ (by omega) (by omega) (hn_ hpk hp) (hn_ hsw hrow) (hs_ hs0) (hn_ hsr hr0) (hn_ hst ht0) (hn_ hws.symm hw) (hn_ hhs.symm hh) (fun j hj => by
        by_cases z : j = i
        · subst z; rw [up_s]; exact hS j (by omega)
        · rw [up_n z]; exact e1 j (by omega))
      refine ⟨h', s', w', ?_, g2, g3, g4, g5, KP.tr (KP.st (by simp)) g6⟩
      show B_Rm_hash_17 (L_Rm_hash_17 f) h q row (nI n) (nI (64 * ((n + 72) / 64))) (nI i) = some h'
      unfold B_Rm_hash_17
      rw [if_neg (show ¬ (8 : Int32) ≤ nI i from nI_ge (b := 8) (by omega) (by omega))]
      refine (bs_ (gR_at hp hf)).trans ?_
      refine (bs_ (gR_at hp hf4)).trans ?_
      refine (bs_ (sJ_in i ht0 rfl (by omega) (by omega))).trans ?_
      refine (bs_ (tI_in i hs0 rfl (by omega) (by omega))).trans ?_
      show L_Rm_hash_17 f (h.set ks (pI 8 (va_up s i (hi32 (sts i))))) q row (nI n) _ (nI i + Int32.ofInt 1) = _
      rw [nI_ofInt1]
      exact g1
theorem e_hash {h : HP} (hf : fs[46]? = some (.ref ks)) (hf1 : fs[45]? = some (.ref kw)) (hf2 : fs[43]? = some (.ref kr)) (hf3 : fs[49]? = some (.ref kh)) (hf4 : fs[44]? = some (.ref kt)) (hpk : ks ≠ q) (hpw : kw ≠ q) (hws : kw ≠ ks) (hwr : kw ≠ kr) (hrw : kw ≠ row) (hsr : ks ≠ kr) (hst : ks ≠ kt) (hsw : ks ≠ row) (hhq : kh ≠ q) (hhs : kh ≠ ks) (hhw : kh ≠ kw) (hR : ∀ i, i < 64 → hi32 (rts i) = (stab 1).2 i) (hS : ∀ i, i < 8 → hi32 (sts i) = (stab 0).2 i) (hn : n ≤ rn) (hn2 : n < 2 ^ 20) {f0 : Nat → Int8} {s w : Nat → Int32} (hp : h[q]? = some (pO 8 fs)) (hrow : h[row]? = some (pB rn X)) (hs0 : h[ks]? = some (pI 8 s)) (hr0 : h[kr]? = some (pJ 80 rts)) (ht0 : h[kt]? = some (pJ 8 sts)) (hw : h[kw]? = some (pI 64 w)) (hh : h[kh]? = some (pB 32 f0)) :
    ∃ (h' : HP) (s' w' : Nat → Int32), P_Rm_hash h q row (nI n) = some h' ∧ h'[kh]? = some (pB 32 (dgs f0 s' 32)) ∧ s8 s' (hs (XP X n) ((n + 72) / 64)) ∧ h'[ks]? = some (pI 8 s') ∧ h'[kw]? = some (pI 64 w') ∧ KP [kw, ks, kh] h h' := by
  have e : (((nI n + 9) + 63) / 64) * 64 = nI (64 * ((n + 72) / 64)) := by
    show (((nI n + nI 9) + nI 63) / nI 64) * nI 64 = _
    rw [nI_add, nI_add, pk_div (by omega) (by omega) (by omega), pk_mul, Nat.mul_comm]
  unfold P_Rm_hash
  rw [lt_e, e]
  exact hin1 hf hf1 hf2 hf3 hf4 hpk hpw hws hwr hrw hsr hst hsw hhq hhs hhw hR hS hn hn2 8 0 FU h s rfl (by decide) hp hrow hs0 hr0 ht0 hw hh (fun j hj => absurd hj (Nat.not_lt_zero _))
end RH
theorem dgs_eq {f : Nat → Int8} {s s' : Nat → Int32} (h : s8 s s') : dgs f s 32 = dgs f s' 32 := by
  funext i
  unfold dgs
  by_cases z : i < 32
  · rw [if_pos z, if_pos z, h _ (by omega)]
  · rw [if_neg z, if_neg z]
theorem outS_dgs (f : Nat → Int8) (s : Nat → Int32) : ∀ n, n ≤ 8 → outS f s n = dgs f s (4 * n)
  | 0, _ => by funext i; rfl
  | n + 1, hn => by
    show pt4 (outS f s n) (4 * n) (s n) = _
    rw [outS_dgs f s n (by omega)]
    funext i
    unfold pt4
    by_cases z3 : i = 4 * n + 3
    · rw [z3, up_s]; unfold dgs; rw [if_pos (by omega), show (4 * n + 3) / 4 = n by omega, show (4 * n + 3) % 4 = 3 by omega]
    · rw [up_n z3]
      by_cases z2 : i = 4 * n + 2
      · rw [z2, up_s]; unfold dgs; rw [if_pos (by omega), show (4 * n + 2) / 4 = n by omega, show (4 * n + 2) % 4 = 2 by omega]
      · rw [up_n z2]
        by_cases z1 : i = 4 * n + 1
        · rw [z1, up_s]; unfold dgs; rw [if_pos (by omega), show (4 * n + 1) / 4 = n by omega, show (4 * n + 1) % 4 = 1 by omega]
        · rw [up_n z1]
          by_cases z0 : i = 4 * n
          · rw [z0, up_s]; unfold dgs; rw [if_pos (by omega), show (4 * n) / 4 = n by omega, show (4 * n) % 4 = 0 by omega]
          · rw [up_n z0]
            unfold dgs
            by_cases y : i < 4 * n
            · rw [if_pos y, if_pos (by omega)]
            · rw [if_neg y, if_neg (by omega)]
