/-! SHA-256 as a stream: hs X k is the state behind the first k blocks of the stream X -/
theorem lay_eq {b b' : Nat → Int8} {w w' : Nat → Int32} (hb : ∀ i, i < 64 → b i = b' i) : ∀ n, n ≤ 16 → ∀ j, j < n → lay b w n j = lay b' w' n j
  | 0, _, j, hj => by omega
  | n + 1, hn, j, hj => by
    show va_up (lay b w n) n (bw b n) j = va_up (lay b' w' n) n (bw b' n) j
    by_cases z : j = n
    · subst z
      rw [up_s, up_s]
      unfold bw
      rw [hb _ (by omega), hb _ (by omega), hb _ (by omega), hb _ (by omega)]
    · rw [up_n z, up_n z]
      exact lay_eq hb n (by omega) j (by omega)
theorem sch_eq {w w' : Nat → Int32} (hw : ∀ j, j < 16 → w j = w' j) : ∀ n j, j < n + 16 → sch w n j = sch w' n j
  | 0, j, hj => hw j (by omega)
  | n + 1, j, hj => by
    show va_up (sch w n) (n + 16) _ j = va_up (sch w' n) (n + 16) _ j
    by_cases z : j = n + 16
    · subst z
      rw [up_s, up_s, sch_eq hw n (n + 14) (by omega), sch_eq hw n (n + 9) (by omega), sch_eq hw n (n + 1) (by omega), sch_eq hw n n (by omega)]
    · rw [up_n z, up_n z]
      exact sch_eq hw n j (by omega)
theorem mxr_eq {w w' : Nat → Int32} : ∀ n i, (∀ j, j < i + n → w j = w' j) → ∀ a b c d e f g h, mxr w n i a b c d e f g h = mxr w' n i a b c d e f g h
  | 0, _, _, _, _, _, _, _, _, _, _ => rfl
  | n + 1, i, hw, a, b, c, d, e, f, g, h => by
    show mxr w n (i + 1) _ _ _ _ _ _ _ _ = mxr w' n (i + 1) _ _ _ _ _ _ _ _
    rw [hw i (by omega)]
    exact mxr_eq n (i + 1) (fun j hj => hw j (by omega)) _ _ _ _ _ _ _ _
def bW (b : Nat → Int8) : Nat → Int32 := sch (lay b (fun _ => 0) 16) 48
theorem cmp_eq {b b' : Nat → Int8} {s w : Nat → Int32} (hb : ∀ i, i < 64 → b i = b' i) : cmp8 s (sch (lay b w 16) 48) = cmp8 s (bW b') := by
  unfold cmp8 bW
  rw [mxr_eq 64 0 (fun j hj => sch_eq (lay_eq hb 16 (by omega)) 48 j (by omega))]
def hs (X : Nat → Int8) : Nat → (Nat → Int32)
  | 0 => va_cpy (stab 0).2 (fun _ => 0) 0 0 8
  | k + 1 => cmp8 (hs X k) (bW (fun i => X (64 * k + i)))
theorem hs_eq {X Y : Nat → Int8} : ∀ k, (∀ i, i < 64 * k → X i = Y i) → hs X k = hs Y k
  | 0, _ => rfl
  | k + 1, h => by
    have e1 := hs_eq k (fun i hi => h i (by omega))
    have e2 := cmp_eq (s := hs Y k) (w := fun _ => 0) (b := fun i => X (64 * k + i)) (b' := fun i => Y (64 * k + i)) (fun i hi => h _ (by omega))
    show cmp8 (hs X k) (bW (fun i => X (64 * k + i))) = cmp8 (hs Y k) (bW (fun i => Y (64 * k + i)))
    rw [e1]
    exact e2
/-- the first eight words are as hs has them -/
def s8 (s s' : Nat → Int32) : Prop := ∀ j, j < 8 → s j = s' j
theorem up8_at (s v : Nat → Int32) : ∀ j, j < 8 → up8 s v j = s j + v j := by
  intro j hj
  match j, hj with
  | 0, _ => rfl
  | 1, _ => rfl
  | 2, _ => rfl
  | 3, _ => rfl
  | 4, _ => rfl
  | 5, _ => rfl
  | 6, _ => rfl
  | 7, _ => rfl
theorem cmp_s8 {s s' w : Nat → Int32} (h : s8 s s') : s8 (cmp8 s w) (cmp8 s' w) := by
  intro j hj
  unfold cmp8
  rw [up8_at _ _ j hj, up8_at _ _ j hj, h j hj, h 0 (by omega), h 1 (by omega), h 2 (by omega), h 3 (by omega), h 4 (by omega), h 5 (by omega), h 6 (by omega), h 7 (by omega)]
/-- a hash object at p that has taken m bytes of the stream X, m0 of them by its own count -/
def SHA (p ks kw kb : Nat) (X : Nat → Int8) (m m0 : Nat) (h : HP) : Prop := ∃ (s w : Nat → Int32) (b : Nat → Int8), h[p]? = some (pO 4 [.ref ks, .ref kw, .ref kb, .int (nI (m % 64)), .int (nI m0)]) ∧ h[ks]? = some (pI 8 s) ∧ h[kw]? = some (pI 64 w) ∧ h[kb]? = some (pB 64 b) ∧ s8 s (hs X (m / 64)) ∧ ∀ i, i < m % 64 → b i = X (64 * (m / 64) + i)
/-- the four places of a hash object are apart -/
def AP4 (p ks kw kb : Nat) : Prop := ks ≠ p ∧ kw ≠ p ∧ kb ≠ p ∧ kw ≠ kb ∧ kw ≠ ks ∧ ks ≠ kb
/-- what is not the hash object's is as it was -/
def KP (S : List Nat) (h h' : HP) : Prop := h'.length = h.length ∧ ∀ j, j ∉ S → h'[j]? = h[j]?
theorem KP.rf {S : List Nat} {h : HP} : KP S h h := ⟨rfl, fun _ _ => rfl⟩
theorem KP.tr {S : List Nat} {h h' h'' : HP} (a : KP S h h') (b : KP S h' h'') : KP S h h'' := ⟨b.1.trans a.1, fun j hj => (b.2 j hj).trans (a.2 j hj)⟩
theorem KP.st {S : List Nat} {h : HP} {k : Nat} {c : PE} (hk : k ∈ S) : KP S h (h.set k c) := ⟨List.length_set, fun j hj => List.getElem?_set_ne (fun (e : k = j) => hj (by rw [← e]; exact hk))⟩
theorem KP.up {S T : List Nat} {h h' : HP} (a : KP S h h') (hs : ∀ j ∈ S, j ∈ T) : KP T h h' := ⟨a.1, fun j hj => a.2 j (fun z => hj (hs j z))⟩
theorem tk1 {p ks kw kb row : Nat} (ap : AP4 p ks kw kb) {X : Nat → Int8} {rn : Nat} {rf : Nat → Int8} {len m0 : Nat} (hrow : row ∉ [p, ks, kw, kb]) (hlen : len ≤ rn) (hl31 : len < 2 ^ 30) (h031 : m0 < 2 ^ 30) : ∀ (r i f m : Nat) (h : HP), r + i = len → r < f → SHA p ks kw kb X m m0 h → h[row]? = some (pB rn rf) → (∀ q, q < r → rf (i + q) = X (m + q)) → ∃ h', L_Sh_take_2 f h p row (nI len) (nI i) = some h' ∧ SHA p ks kw kb X (m + r) (m0 + len) h' ∧ KP [p, ks, kw, kb] h h' := by
  obtain ⟨a1, a2, a3, a4, a5, a6⟩ := ap
  intro r
  induction r with
  | zero =>
    intro i f m h hr hf hS hrw hX
    obtain ⟨s, w, b, hp, hs, hw, hb, e1, e2⟩ := hS
    cases f with
    | zero => omega
    | succ f =>
      have hi : i = len := by omega
      subst hi
      refine ⟨_, ?_, ⟨s, w, b, hs_ hp, hn_ a1.symm hs, hn_ a2.symm hw, hn_ a3.symm hb, e1, e2⟩, KP.st (by simp)⟩
      show B_Sh_take_2 _ h p row (nI i) (nI i) = _
      unfold B_Sh_take_2
      rw [if_pos (nI_le (Nat.le_refl _) (by omega))]
      refine (bs_ (gI_at hp rfl)).trans ?_
      refine (bs_ (pV_at hp (Nat.le_of_ble_eq_true rfl))).trans ?_
      rw [nI_add]
      rfl
  | succ r ih =>
    intro i f m h hr hf hS hrw hX
    obtain ⟨s, w, b, hp, hs, hw, hb, e1, e2⟩ := hS
    cases f with
    | zero => omega
    | succ f =>
      have hm64 : m % 64 < 64 := Nat.mod_lt _ (by decide)
      have hrne : ∀ k ∈ [p, ks, kw, kb], k ≠ row := fun k hk e => hrow (e ▸ hk)
      show ∃ h', B_Sh_take_2 (L_Sh_take_2 f) h p row (nI len) (nI i) = some h' ∧ _
      unfold B_Sh_take_2
      rw [if_neg (nI_ge (by omega) (by omega))]
      have e3 : rf i = X m := hX 0 (by omega)
      -- the byte laid down
      have st1 : ∀ (K : HP → Option HP), (bnd (gR h p 4 2) fun k3 => bnd (gI h p 4 3) fun v4 => bnd (ldB h row (nI i)) fun v5 => bnd (stB h k3 v4 v5) fun h6 => bnd (gI h6 p 4 3) fun v7 => bnd (pV h6 p 4 3 (.int (v7 + 1))) fun h8 => K h8) = K ((h.set kb (pB 64 (va_up b (m % 64) (X m)))).set p (pO 4 [.ref ks, .ref kw, .ref kb, .int (nI (m % 64 + 1)), .int (nI m0)])) := by
        intro K
        refine (bs_ (gR_at hp rfl)).trans ?_
        refine (bs_ (gI_at hp rfl)).trans ?_
        refine (bs_ (sB_in i hrw rfl (by omega) (by omega))).trans ?_
        refine (bs_ (tB_in (m % 64) hb rfl hm64 (by omega))).trans ?_
        refine (bs_ (gI_at (hn_ a3 hp) rfl)).trans ?_
        refine (bs_ (pV_at (hn_ a3 hp) (Nat.le_of_ble_eq_true rfl))).trans ?_
        rw [show (rf i).toInt32.toInt8 = X m by rw [Int8.toInt8_toInt32, e3], show nI (m % 64) + 1 = nI (m % 64 + 1) from nI_1 _]
        rfl
      refine (show (∃ h', (bnd (gR h p 4 2) fun k3 => bnd (gI h p 4 3) fun v4 => bnd (ldB h row (nI i)) fun v5 => bnd (stB h k3 v4 v5) fun h6 => bnd (gI h6 p 4 3) fun v7 => bnd (pV h6 p 4 3 (.int (v7 + 1))) fun h8 => (bnd (gI h8 p 4 3) fun v9 => if v9 = 64 then ob h8 p 4 (bnd (P_Sh_mixBlock h8 p) fun h11 => B_Sh_take_42 (L_Sh_take_2 f) h11 p row (nI len) (nI i)) else B_Sh_take_42 (L_Sh_take_2 f) h8 p row (nI len) (nI i))) = some h' ∧ SHA p ks kw kb X (m + (r + 1)) (m0 + len) h' ∧ KP [p, ks, kw, kb] h h') from ?_)
      rw [st1 (fun h8 => (bnd (gI h8 p 4 3) fun v9 => if v9 = 64 then ob h8 p 4 (bnd (P_Sh_mixBlock h8 p) fun h11 => B_Sh_take_42 (L_Sh_take_2 f) h11 p row (nI len) (nI i)) else B_Sh_take_42 (L_Sh_take_2 f) h8 p row (nI len) (nI i)))]
      have q1 : ((h.set kb (pB 64 (va_up b (m % 64) (X m)))).set p (pO 4 [.ref ks, .ref kw, .ref kb, .int (nI (m % 64 + 1)), .int (nI m0)]))[p]? = _ := hs_ (hn_ a3 hp)
      have q2 : ((h.set kb (pB 64 (va_up b (m % 64) (X m)))).set p (pO 4 [.ref ks, .ref kw, .ref kb, .int (nI (m % 64 + 1)), .int (nI m0)]))[ks]? = _ := hn_ a1.symm (hn_ a6.symm hs)
      have q3 : ((h.set kb (pB 64 (va_up b (m % 64) (X m)))).set p (pO 4 [.ref ks, .ref kw, .ref kb, .int (nI (m % 64 + 1)), .int (nI m0)]))[kw]? = _ := hn_ a2.symm (hn_ a4.symm hw)
      have q4 : ((h.set kb (pB 64 (va_up b (m % 64) (X m)))).set p (pO 4 [.ref ks, .ref kw, .ref kb, .int (nI (m % 64 + 1)), .int (nI m0)]))[kb]? = _ := hn_ a3.symm (hs_ hb)
      have q5 : ((h.set kb (pB 64 (va_up b (m % 64) (X m)))).set p (pO 4 [.ref ks, .ref kw, .ref kb, .int (nI (m % 64 + 1)), .int (nI m0)]))[row]? = _ := hn_ (hrne p (by simp)) (hn_ (hrne kb (by simp)) hrw)
      have kp1 : KP [p, ks, kw, kb] h ((h.set kb (pB 64 (va_up b (m % 64) (X m)))).set p (pO 4 [.ref ks, .ref kw, .ref kb, .int (nI (m % 64 + 1)), .int (nI m0)])) := KP.tr (KP.st (by simp)) (KP.st (by simp))
      generalize (h.set kb (pB 64 (va_up b (m % 64) (X m)))).set p (pO 4 [.ref ks, .ref kw, .ref kb, .int (nI (m % 64 + 1)), .int (nI m0)]) = g at q1 q2 q3 q4 q5 kp1
      have hbb : ∀ q, q < m % 64 + 1 → va_up b (m % 64) (X m) q = X (64 * (m / 64) + q) := by
        intro q hq
        by_cases z : q = m % 64
        · subst z; rw [up_s]; congr 1; omega
        · rw [up_n z]; exact e2 q (by omega)
      show ∃ h', (bnd (gI g p 4 3) fun v9 => if v9 = 64 then ob g p 4 (bnd (P_Sh_mixBlock g p) fun h11 => B_Sh_take_42 (L_Sh_take_2 f) h11 p row (nI len) (nI i)) else B_Sh_take_42 (L_Sh_take_2 f) g p row (nI len) (nI i)) = some h' ∧ _
      rw [bs_ (gI_at q1 rfl)]
      have nx : ∀ g' : HP, B_Sh_take_42 (L_Sh_take_2 f) g' p row (nI len) (nI i) = L_Sh_take_2 f g' p row (nI len) (nI (i + 1)) := fun g' => by
        show L_Sh_take_2 f g' p row (nI len) (nI i + Int32.ofInt 1) = _
        rw [nI_ofInt1]
      have hXs : ∀ q, q < r → rf (i + 1 + q) = X (m + 1 + q) := fun q hq => by
        have := hX (q + 1) (by omega)
        rw [show i + 1 + q = i + (q + 1) by omega, show m + 1 + q = m + (q + 1) by omega]; exact this
      by_cases z : m % 64 = 63
      · rw [if_pos (show nI (m % 64 + 1) = 64 by rw [z]; rfl), os_ q1, bs_ (e_mixBlock a1 a2 a4 a5 q1 q2 q3 q4), nx]
        have kp2 : KP [p, ks, kw, kb] g _ := KP.tr (KP.tr (KP.st (S := [p, ks, kw, kb]) (h := g) (k := kw) (c := pI 64 (sch (lay (va_up b (m % 64) (X m)) w 16) 48)) (by simp)) (KP.st (k := ks) (c := pI 8 (cmp8 s (sch (lay (va_up b (m % 64) (X m)) w 16) 48))) (by simp))) (KP.st (k := p) (c := pO 4 [.ref ks, .ref kw, .ref kb, .int 0, .int (nI m0)]) (by simp))
        obtain ⟨h', g1, g2, g3⟩ := ih (i + 1) f (m + 1) _ (by omega) (by omega) ⟨_, _, _, (show _ = some (pO 4 [.ref ks, .ref kw, .ref kb, .int (nI ((m + 1) % 64)), .int (nI m0)]) by rw [show (m + 1) % 64 = 0 by omega]; exact hs_ (hn_ a1 (hn_ a2 q1))), hn_ a1.symm (hs_ (hn_ a5 q2)), hn_ a2.symm (hn_ a5.symm (hs_ q3)), hn_ a3.symm (hn_ a6 (hn_ a4 q4)), (by
            rw [show (m + 1) / 64 = m / 64 + 1 by omega]
            rw [cmp_eq (b' := fun q => X (64 * (m / 64) + q)) (fun q hq => hbb q (by omega))]
            exact cmp_s8 e1), fun q hq => by omega⟩ ((kp2.2 row hrow).trans q5) hXs
        exact ⟨h', g1, by rw [show m + (r + 1) = m + 1 + r by omega]; exact g2, KP.tr kp1 (KP.tr kp2 g3)⟩
      · rw [if_neg (show ¬ nI (m % 64 + 1) = 64 from fun e => by
          have := (nI_eq (a := m % 64 + 1) (b := 64) (by omega) (by omega)).mp e
          omega), nx]
        obtain ⟨h', g1, g2, g3⟩ := ih (i + 1) f (m + 1) g (by omega) (by omega) ⟨_, _, _, (show _ = some (pO 4 [.ref ks, .ref kw, .ref kb, .int (nI ((m + 1) % 64)), .int (nI m0)]) by rw [show (m + 1) % 64 = m % 64 + 1 by omega]; exact q1), q2, q3, q4, (by rw [show (m + 1) / 64 = m / 64 by omega]; exact e1), fun q hq => by rw [show (m + 1) / 64 = m / 64 by omega]; exact hbb q (by omega)⟩ q5 hXs
        exact ⟨h', g1, by rw [show m + (r + 1) = m + 1 + r by omega]; exact g2, KP.tr kp1 g3⟩
