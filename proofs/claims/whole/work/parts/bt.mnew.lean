/-! the constructor of Modulus -/
theorem cp_ {h : HP} {a t x : Nat} {A T : Nat → Int64} (ha : h[a]? = some (pJ 9 A)) (ht : h[t]? = some (pJ 9 T)) (hA : LM A x) : ∃ D, P_Li_copy h a t = some (h.set t (pJ 9 D)) ∧ LM D x := by
  have cp := cpJ_at (h := h) (a := a) (b := t) (x := 0) (y := 0) (z := 9) 0 0 9 ha ht rfl rfl rfl (by decide) (by decide) (by decide) (by decide)
  exact ⟨_, by unfold P_Li_copy; rw [bs_ cp], ZM.eq hA (fun k hk => by rw [pk_cpy_in (by omega) (by omega), Nat.zero_add, Nat.sub_zero])⟩
theorem vz9 (e : Nat → Int) : vz 536870912 e 9 = e 0 + e 1 * 536870912 + e 2 * 288230376151711744 + e 3 * 154742504910672534362390528 + e 4 * 83076749736557242056487941267521536 + e 5 * 44601490397061246283071436545296723011960832 + e 6 * 23945242826029513411849172299223580994042798784118784 + e 7 * 12855504354071922204335696738729300820177623950262342682411008 + e 8 * 6901746346790563787434755862277025452451108972170386555162524223799296 := by
  simp only [vz]
  omega
theorem lm_0 {F : Nat → Int64} {x : Nat} (h : LM F x) : F 0 = lN (x % 536870912) := by
  obtain ⟨e, a1, a2, a3⟩ := h
  have a3 : vz 536870912 e 9 = x := a3
  rw [vz9] at a3
  have b := a2 0 (by decide)
  rw [a1 0 (by decide), lZ_N]
  congr 1
  omega
theorem lm_m2 {F : Nat → Int64} {x : Nat} (h : LM F x) (h2 : 2 ≤ x % 536870912) : LM (va_up F 0 (F 0 - 2)) (x - 2) := by
  obtain ⟨e, a1, a2, a3⟩ := h
  have a3 : vz 536870912 e 9 = x := a3
  rw [vz9] at a3
  have b := a2 0 (by decide)
  have e0 : 2 ≤ e 0 := by omega
  refine ⟨fun k => if k = 0 then e 0 - 2 else e k, fun k hk => ?_, fun k hk => ?_, ?_⟩
  · show va_up F 0 (F 0 - 2) k = lZ (if k = 0 then e 0 - 2 else e k)
    by_cases z : k = 0
    · rw [z, up_s, a1 0 (by decide), if_pos rfl]
      exact lZ_sub (e 0) 2
    · rw [up_n z, if_neg z]; exact a1 k hk
  · show 0 ≤ (if k = 0 then e 0 - 2 else e k) ∧ (if k = 0 then e 0 - 2 else e k) < ((536870912 : Nat) : Int)
    by_cases z : k = 0
    · rw [if_pos z]; omega
    · rw [if_neg z]; exact a2 k hk
  · have w : vz 536870912 (fun k => if k = 0 then e 0 - 2 else e k) 9 = (e 0 - 2) + e 1 * 536870912 + e 2 * 288230376151711744 + e 3 * 154742504910672534362390528 + e 4 * 83076749736557242056487941267521536 + e 5 * 44601490397061246283071436545296723011960832 + e 6 * 23945242826029513411849172299223580994042798784118784 + e 7 * 12855504354071922204335696738729300820177623950262342682411008 + e 8 * 6901746346790563787434755862277025452451108972170386555162524223799296 := vz9 _
    refine Eq.trans w ?_
    omega
theorem lm_zz : LM (fun _ => 0) 0 := ⟨fun _ => 0, fun _ _ => rfl, fun _ _ => (show (0 : Int) ≤ 0 ∧ (0 : Int) < ((536870912 : Nat) : Int) by decide), by decide +kernel⟩
theorem lm_1 : LM (va_up (fun _ => 0) 0 1) 1 := by
  refine ⟨fun k => if k = 0 then 1 else 0, fun k hk => ?_, fun k hk => ?_, by decide +kernel⟩
  · show va_up (fun _ => 0) 0 1 k = lZ (if k = 0 then 1 else 0)
    by_cases z : k = 0
    · rw [z, up_s, if_pos rfl]; rfl
    · rw [up_n z, if_neg z]; rfl
  · show 0 ≤ (if k = 0 then (1 : Int) else 0) ∧ (if k = 0 then (1 : Int) else 0) < ((536870912 : Nat) : Int)
    by_cases z : k = 0
    · rw [if_pos z]; decide
    · rw [if_neg z]; decide
/-- Newton's steps -/
def nwt (p : Int64) : Nat → Int64 → Int64
  | 0, x => x
  | n + 1, x => nwt p n (x * (2 - (p * x)))
def MF (m : Nat) (l : Int64) : List Value := [.ref (m + 1), .ref (m + 2), .ref (m + 3), .ref (m + 4), .ref (m + 5), .long l, .ref (m + 6), .ref (m + 7), .ref (m + 8)]
section MNW
variable {m v : Nat} {P : Nat → Int64}
theorem nw_loop {h : HP} (K119 : HP → Nat → Int32 → Option HP) (K161 : HP → Nat → Int32 → Option HP) (hm : h[m]? = some (pO 1 (MF m 0))) (hP : h[m + 1]? = some (pJ 9 P)) : ∀ (r i f : Nat) (x : Int64), r + i = 5 → r < f → L_Mo_new_195 K119 K161 f h m x (nI i) = some (h.set m (pO 1 (MF m ((-(nwt (P 0) r x)) &&& 536870911)))) := by
  intro r
  induction r with
  | zero =>
    intro i f x hi hf
    obtain ⟨f, rfl⟩ : ∃ g, f = g + 1 := ⟨f - 1, by omega⟩
    have e5 : i = 5 := by omega
    subst e5
    show B_Mo_new_195 K119 K161 (L_Mo_new_195 K119 K161 f) h m x (nI 5) = _
    unfold B_Mo_new_195
    rw [if_pos (show (5 : Int32) ≤ nI 5 by decide), bs_ (pV_at hm (Nat.le_of_ble_eq_true rfl))]
    rfl
  | succ r ih =>
    intro i f x hi hf
    obtain ⟨f, rfl⟩ : ∃ g, f = g + 1 := ⟨f - 1, by omega⟩
    show B_Mo_new_195 K119 K161 (L_Mo_new_195 K119 K161 f) h m x (nI i) = _
    unfold B_Mo_new_195
    rw [if_neg (show ¬ (5 : Int32) ≤ nI i from nI_ge (b := 5) (by omega) (by decide)), bs_ (gR_at hm rfl), bs_ (sJ_in (i := 0) 0 hP rfl (by decide) (by decide)), lt_e, lt_e, nI_ofInt1]
    exact ih (i + 1) f _ (by omega) (by omega)
def MD (m t x : Nat) (P : Nat → Int64) (h : HP) : Prop := h[m]? = some (pO 1 (MF m 0)) ∧ h[m + 1]? = some (pJ 9 P) ∧ (∃ S, h[m + 7]? = some (pJ 9 S)) ∧ ∃ T, h[t]? = some (pJ 9 T) ∧ LM T x
theorem md_step {t x : Nat} {h : HP} (hv : v < 2 ^ 256) (hP : LM P v) (ht : t = m + 4 ∨ t = m + 5) (hx : x < v) (M : MD m t x P h) : ∃ h', P_Mo_add h m t t t = some h' ∧ KP [m + 7, t] h h' ∧ MD m t ((x + x) % v) P h' := by
  obtain ⟨m1, m2, ⟨S, m3⟩, T, m4, m5⟩ := M
  obtain ⟨h', a1, a2, a3, T', a4, a5⟩ := e_madd (m := m) (kp := m + 1) (ks := m + 7) (t := t) (a := t) (b := t) m1 rfl rfl m4 m4 m4 m2 m3 (by omega) (by omega) (by omega) (by omega) (by omega) m5 m5 hP hx hx hv
  exact ⟨h', a1, a2, (a2.2 m (by simp; omega)).trans m1, (a2.2 (m + 1) (by simp; omega)).trans m2, a3, T', a4, a5⟩
theorem md_pw (i : Nat) : (2 ^ i % v + 2 ^ i % v) % v = 2 ^ (i + 1) % v := by
  rw [← Nat.add_mod, Nat.pow_succ, Nat.mul_two]
theorem loop119 (h1 : 1 < v) (hv : v < 2 ^ 256) (hP : LM P v) : ∀ (r i f : Nat) (h : HP), r + i = 261 → r < f → MD m (m + 4) (2 ^ i % v) P h → ∃ h' K, L_Mo_new_119 f h m (nI i) = (bnd (P_Li_copy h' (m + 4) (m + 5)) fun h40 => L_Mo_new_161 K FU h40 m 0) ∧ KP [m + 7, m + 4] h h' ∧ MD m (m + 4) (2 ^ (r + i) % v) P h' := by
  intro r
  induction r with
  | zero =>
    intro i f h hi hf M
    obtain ⟨f, rfl⟩ : ∃ g, f = g + 1 := ⟨f - 1, by omega⟩
    refine ⟨h, L_Mo_new_119 f, ?_, KP.rf, by rw [Nat.zero_add]; exact M⟩
    have e : i = 261 := by omega
    show B_Mo_new_119 (L_Mo_new_119 f) h m (nI i) = _
    unfold B_Mo_new_119
    rw [if_pos (show (261 : Int32) ≤ nI i by rw [e]; decide), bs_ (gR_at M.1 rfl), bs_ (gR_at M.1 rfl)]
  | succ r ih =>
    intro i f h hi hf M
    obtain ⟨f, rfl⟩ : ∃ g, f = g + 1 := ⟨f - 1, by omega⟩
    obtain ⟨h2, a1, a2, M2⟩ := md_step hv hP (Or.inl rfl) (Nat.mod_lt _ (by omega)) M
    rw [md_pw] at M2
    obtain ⟨h', K, b1, b2, b3⟩ := ih (i + 1) f h2 (by omega) (by omega) M2
    refine ⟨h', K, ?_, a2.tr b2, by rw [show r + 1 + i = r + (i + 1) by omega]; exact b3⟩
    show B_Mo_new_119 (L_Mo_new_119 f) h m (nI i) = _
    unfold B_Mo_new_119
    rw [if_neg (show ¬ (261 : Int32) ≤ nI i from nI_ge (b := 261) (by omega) (by decide)), bs_ (gR_at M.1 rfl), bs_ (gR_at M.1 rfl), bs_ (gR_at M.1 rfl), os_ M.1, bs_ a1, lt_e, nI_ofInt1]
    exact b1
theorem loop161 (K : HP → Nat → Int32 → Option HP) (h1 : 1 < v) (hv : v < 2 ^ 256) (hP : LM P v) (s : Nat) : ∀ (r i f : Nat) (h : HP), r + i = 261 → r < f → MD m (m + 5) (2 ^ (s + i) % v) P h → ∃ h' K', L_Mo_new_161 K f h m (nI i) = L_Mo_new_195 K K' FU h' m 1 0 ∧ KP [m + 7, m + 5] h h' ∧ MD m (m + 5) (2 ^ (s + (r + i)) % v) P h' := by
  intro r
  induction r with
  | zero =>
    intro i f h hi hf M
    obtain ⟨f, rfl⟩ : ∃ g, f = g + 1 := ⟨f - 1, by omega⟩
    refine ⟨h, L_Mo_new_161 K f, ?_, KP.rf, by rw [Nat.zero_add]; exact M⟩
    have e : i = 261 := by omega
    show B_Mo_new_161 K (L_Mo_new_161 K f) h m (nI i) = _
    unfold B_Mo_new_161
    rw [if_pos (show (261 : Int32) ≤ nI i by rw [e]; decide)]
  | succ r ih =>
    intro i f h hi hf M
    obtain ⟨f, rfl⟩ : ∃ g, f = g + 1 := ⟨f - 1, by omega⟩
    obtain ⟨h2, a1, a2, M2⟩ := md_step hv hP (Or.inr rfl) (Nat.mod_lt _ (by omega)) M
    rw [md_pw, Nat.add_assoc] at M2
    obtain ⟨h', K', b1, b2, b3⟩ := ih (i + 1) f h2 (by omega) (by omega) M2
    refine ⟨h', K', ?_, a2.tr b2, by rw [show r + 1 + i = r + (i + 1) by omega]; exact b3⟩
    show B_Mo_new_161 K (L_Mo_new_161 K f) h m (nI i) = _
    unfold B_Mo_new_161
    rw [if_neg (show ¬ (261 : Int32) ≤ nI i from nI_ge (b := 261) (by omega) (by decide)), bs_ (gR_at M.1 rfl), bs_ (gR_at M.1 rfl), bs_ (gR_at M.1 rfl), os_ M.1, bs_ a1, lt_e, nI_ofInt1]
    exact b1
end MNW
theorem lZ_inj {a b : Int} (h : lZ a = lZ b) (a0 : 0 ≤ a) (a1 : a < 536870912) (b0 : 0 ≤ b) (b1 : b < 536870912) : a = b := by
  have e : (lZ a).toInt = (lZ b).toInt := by rw [h]
  rw [lZ_ti (by omega) (by omega), lZ_ti (by omega) (by omega)] at e
  exact e
/-- a Modulus made -/
theorem mkn_Mo {tab v e0 : Nat} {li : Int} (ht : tab < 7) (h8 : (stab tab).1 = 8) (hb : be (rwf tab 8) 32 = v) (h1 : 1 < v) (hv : v < 2 ^ 256) (he : v % 536870912 = e0) (h2 : 2 ≤ e0) (hN : (-(nwt (lN e0) 5 1)) &&& 536870911 = lZ li) (hl : (li * e0 + 1) % 536870912 = 0) (h0 : HP) (m : Nat) (hm : h0.length = m) :
    ∃ h', P_Mo_new (h0 ++ [pO 1 [.null, .null, .null, .null, .null, .long 0, .null, .null, .null]]) m tab = some h' ∧ h'.length = m + 10 ∧ (∀ j, j < m → h'[j]? = h0[j]?) ∧ MOb m v li h' := by
  obtain ⟨h24, hh24⟩ : ∃ h24, h24 = h0 ++ [pO 1 (MF m 0), pJ 9 (fun _ => 0), pJ 9 (fun _ => 0), pJ 9 (fun _ => 0), pJ 9 (fun _ => 0), pJ 9 (fun _ => 0), pJ 17 (fun _ => 0), pJ 9 (fun _ => 0), pJ 9 (fun _ => 0)] := ⟨_, rfl⟩
  have q : ∀ i, h24[m + i]? = ([pO 1 (MF m 0), pJ 9 (fun _ => 0), pJ 9 (fun _ => 0), pJ 9 (fun _ => 0), pJ 9 (fun _ => 0), pJ 9 (fun _ => 0), pJ 17 (fun _ => 0), pJ 9 (fun _ => 0), pJ 9 (fun _ => 0)] : HP)[i]? := fun i => by rw [hh24]; exact ap_at hm
  have q0 : h24[m]? = some (pO 1 (MF m 0)) := q 0
  have l24 : h24.length = m + 9 := by rw [hh24, List.length_append, hm]; rfl
  obtain ⟨h26, a1, a2, a3, P, a4, hP⟩ := w_words (h := h24) (t := tab) (to := m + 1) ht h8 ⟨_, q 1⟩
  rw [hb] at hP
  have r0 : h26[m]? = some (pO 1 (MF m 0)) := (a3 m (by omega) (by omega)).trans q0
  obtain ⟨D2, b1, b2⟩ := cp_ (t := m + 2) a4 ((a3 (m + 2) (by omega) (by omega)).trans (q 2)) hP
  have D20 := lm_0 b2
  have s2 : h26[m + 2]? = _ := (a3 (m + 2) (by omega) (by omega)).trans (q 2)
  obtain ⟨h32, hh32⟩ : ∃ h32, h32 = h26.set (m + 2) (pJ 9 (va_up D2 0 (D2 0 - 2))) := ⟨_, rfl⟩
  have e32 : ∀ j, j ≠ m + 2 → h32[j]? = h26[j]? := fun j hj => by rw [hh32]; exact List.getElem?_set_ne (Ne.symm hj)
  have s3 : h32[m + 3]? = some (pJ 9 (fun _ => 0)) := (e32 _ (by omega)).trans ((a3 _ (by omega) (by omega)).trans (q 3))
  obtain ⟨h34, hh34⟩ : ∃ h34, h34 = h32.set (m + 3) (pJ 9 (va_up (fun _ => 0) 0 1)) := ⟨_, rfl⟩
  have e34 : ∀ j, j ≠ m + 3 → h34[j]? = h32[j]? := fun j hj => by rw [hh34]; exact List.getElem?_set_ne (Ne.symm hj)
  have t3 : h34[m + 3]? = some (pJ 9 (va_up (fun _ => 0) 0 1)) := by rw [hh34]; exact hs_ s3
  have s4 : h34[m + 4]? = some (pJ 9 (fun _ => 0)) := (e34 _ (by omega)).trans ((e32 _ (by omega)).trans ((a3 _ (by omega) (by omega)).trans (q 4)))
  obtain ⟨D4, c1, c2⟩ := cp_ t3 s4 lm_1
  obtain ⟨h37, hh37⟩ : ∃ h37, h37 = h34.set (m + 4) (pJ 9 D4) := ⟨_, rfl⟩
  rw [← hh37] at c1
  have e37 : ∀ j, j ≠ m + 2 → j ≠ m + 3 → j ≠ m + 4 → h37[j]? = h26[j]? := fun j n2 n3 n4 => by rw [hh37, List.getElem?_set_ne (Ne.symm n4), e34 j n3, e32 j n2]
  have M37 : MD m (m + 4) (2 ^ 0 % v) P h37 := ⟨(e37 _ (by omega) (by omega) (by omega)).trans r0, (e37 _ (by omega) (by omega) (by omega)).trans a4, ⟨_, (e37 _ (by omega) (by omega) (by omega)).trans ((a3 _ (by omega) (by omega)).trans (q 7))⟩, D4, by rw [hh37]; exact hs_ s4, by rw [Nat.pow_zero, Nat.mod_eq_of_lt h1]; exact c2⟩
  obtain ⟨h38, K, d1, d2, M38⟩ := loop119 h1 hv hP 261 0 FU h37 rfl (by decide) M37
  rw [Nat.add_zero] at M38
  have M38' := M38
  obtain ⟨_, _, _, T4, x4, y4⟩ := M38
  have s5 : h38[m + 5]? = some (pJ 9 (fun _ => 0)) := (d2.2 _ (by simp)).trans ((e37 _ (by omega) (by omega) (by omega)).trans ((a3 _ (by omega) (by omega)).trans (q 5)))
  obtain ⟨D5, g1, g2⟩ := cp_ x4 s5 y4
  obtain ⟨h40, hh40⟩ : ∃ h40, h40 = h38.set (m + 5) (pJ 9 D5) := ⟨_, rfl⟩
  rw [← hh40] at g1
  have e40 : ∀ j, j ≠ m + 5 → h40[j]? = h38[j]? := fun j hj => by rw [hh40]; exact List.getElem?_set_ne (Ne.symm hj)
  have M40 : MD m (m + 5) (2 ^ (261 + 0) % v) P h40 := ⟨(e40 _ (by omega)).trans ((d2.2 _ (by simp)).trans M37.1), (e40 _ (by omega)).trans ((d2.2 _ (by simp)).trans M37.2.1), by rw [e40 _ (by omega)]; exact M38'.2.2.1, D5, by rw [hh40]; exact hs_ s5, by rw [Nat.add_zero]; exact g2⟩
  obtain ⟨h41, K', f1, f2, M41⟩ := loop161 K h1 hv hP 261 261 0 FU h40 rfl (by decide) M40
  rw [show 261 + (261 + 0) = 522 from rfl] at M41
  have f3 := nw_loop K K' M41.1 M41.2.1 5 0 FU 1 rfl (by decide)
  rw [lm_0 hP, he, hN] at f3
  obtain ⟨h42, hh42⟩ : ∃ h42, h42 = h41.set m (pO 1 (MF m (lZ li))) := ⟨_, rfl⟩
  rw [← hh42] at f3
  have e42 : ∀ j, j ≠ m → h42[j]? = h41[j]? := fun j hj => by rw [hh42]; exact List.getElem?_set_ne (Ne.symm hj)
  -- from h37 to the end
  have ee : ∀ j, j ≠ m → j ≠ m + 4 → j ≠ m + 5 → j ≠ m + 7 → h42[j]? = h37[j]? := fun j n0 n4 n5 n7 => (e42 j n0).trans ((f2.2 j (by simp; omega)).trans ((e40 j n5).trans (d2.2 j (by simp; omega))))
  have e4' : h42[m + 4]? = some (pJ 9 T4) := (e42 _ (by omega)).trans ((f2.2 _ (by simp)).trans ((e40 _ (by omega)).trans x4))
  refine ⟨h42, ?_, ?_, fun j hj => ?_, ?_, ⟨P, ?_, hP, fun e x1 x2 x3 => ?_⟩, ⟨⟨va_up D2 0 (D2 0 - 2), ?_, ?_⟩, ⟨va_up (fun _ => 0) 0 1, ?_, lm_1⟩, ⟨T4, e4', y4⟩, ?_⟩, ⟨fun _ => 0, ?_⟩, ?_, ⟨fun _ => 0, ?_⟩⟩
  · unfold P_Mo_new
    refine (al_ hm (Nat.le_of_ble_eq_true rfl)).trans ?_
    refine (al_ hm (Nat.le_of_ble_eq_true rfl)).trans ?_
    refine (al_ hm (Nat.le_of_ble_eq_true rfl)).trans ?_
    refine (al_ hm (Nat.le_of_ble_eq_true rfl)).trans ?_
    refine (al_ hm (Nat.le_of_ble_eq_true rfl)).trans ?_
    refine (al_ hm (Nat.le_of_ble_eq_true rfl)).trans ?_
    refine (al_ hm (Nat.le_of_ble_eq_true rfl)).trans ?_
    refine (al_ hm (Nat.le_of_ble_eq_true rfl)).trans ?_
    refine Eq.trans (b := bnd (gR h24 m 1 0) fun k25 =>
      bnd (P_Li_readWords h24 tab k25) fun h26 =>
      bnd (gR h26 m 1 0) fun k27 =>
      bnd (gR h26 m 1 1) fun k28 =>
      bnd (P_Li_copy h26 k27 k28) fun h29 =>
      bnd (gR h29 m 1 1) fun k30 =>
      bnd (ldJ h29 k30 0) fun v31 =>
      bnd (stJ h29 k30 0 (v31 - 2)) fun h32 =>
      bnd (gR h32 m 1 2) fun k33 =>
      bnd (stJ h32 k33 0 1) fun h34 =>
      bnd (gR h34 m 1 2) fun k35 =>
      bnd (gR h34 m 1 3) fun k36 =>
      bnd (P_Li_copy h34 k35 k36) fun h37 =>
      L_Mo_new_119 FU h37 m 0) (by rw [hh24]; rfl) ?_
    have w1 : (h26.set (m + 2) (pJ 9 D2))[m]? = some (pO 1 (MF m 0)) := hn_ (by omega) r0
    have w2 : (h26.set (m + 2) (pJ 9 D2))[m + 2]? = some (pJ 9 D2) := hs_ s2
    have w3 : stJ (h26.set (m + 2) (pJ 9 D2)) (m + 2) 0 (D2 0 - 2) = some h32 := by rw [hh32, tJ_in (i := 0) 0 w2 rfl (by decide) (by decide), hss]
    have w4 : h32[m]? = some (pO 1 (MF m 0)) := (e32 _ (by omega)).trans r0
    have w5 : stJ h32 (m + 3) 0 1 = some h34 := by rw [hh34]; exact tJ_in 0 s3 rfl (by decide) (by decide)
    have w6 : h34[m]? = some (pO 1 (MF m 0)) := (e34 _ (by omega)).trans w4
    rw [bs_ (gR_at q0 rfl), bs_ a1, bs_ (gR_at r0 rfl), bs_ (gR_at r0 rfl), bs_ b1, bs_ (gR_at w1 rfl), bs_ (sJ_in (i := 0) 0 w2 rfl (by decide) (by decide)), bs_ w3, bs_ (gR_at w4 rfl), bs_ w5, bs_ (gR_at w6 rfl), bs_ (gR_at w6 rfl), bs_ c1]
    refine Eq.trans d1 ?_
    rw [bs_ g1]
    exact Eq.trans f1 f3
  · rw [hh42, List.length_set, f2.1, hh40, List.length_set, d2.1, hh37, List.length_set, hh34, List.length_set, hh32, List.length_set, a2, l24]
  · rw [ee j (by omega) (by omega) (by omega) (by omega), e37 j (by omega) (by omega) (by omega), a3 j (by omega) (by omega), hh24]
    exact ap_lo (by omega)
  · rw [hh42]; exact hs_ M41.1
  · rw [ee _ (by omega) (by omega) (by omega) (by omega)]; exact M37.2.1
  · have := lm_0 hP
    rw [he, lZ_N] at this
    have := lZ_inj (x1.symm.trans this) x2 x3 (by omega) (by omega)
    rw [this]; exact hl
  · rw [ee _ (by omega) (by omega) (by omega) (by omega), hh37, List.getElem?_set_ne (by omega), e34 _ (by omega), hh32]; exact hs_ s2
  · exact lm_m2 b2 (by rw [he]; exact h2)
  · rw [ee _ (by omega) (by omega) (by omega) (by omega), hh37, List.getElem?_set_ne (by omega)]; exact t3
  · obtain ⟨_, _, _, T5, x5, y5⟩ := M41
    exact ⟨T5, (e42 _ (by omega)).trans x5, y5⟩
  · rw [ee _ (by omega) (by omega) (by omega) (by omega), e37 _ (by omega) (by omega) (by omega), a3 _ (by omega) (by omega)]; exact q 6
  · rw [e42 _ (by omega)]; exact M41.2.2.1
  · rw [ee _ (by omega) (by omega) (by omega) (by omega), e37 _ (by omega) (by omega) (by omega), a3 _ (by omega) (by omega)]; exact q 8
theorem mkn_MoP (h0 : HP) (m : Nat) (hm : h0.length = m) : ∃ h', P_Mo_new (h0 ++ [pO 1 [.null, .null, .null, .null, .null, .long 0, .null, .null, .null]]) m 2 = some h' ∧ h'.length = m + 10 ∧ (∀ j, j < m → h'[j]? = h0[j]?) ∧ MOb m PP 1 h' :=
  mkn_Mo (e0 := 536870911) (by decide) (by decide +kernel) rwf_P (by decide +kernel) (by decide +kernel) (by decide +kernel) (by decide) (by decide +kernel) (by decide +kernel) h0 m hm
theorem mkn_MoN (h0 : HP) (m : Nat) (hm : h0.length = m) : ∃ h', P_Mo_new (h0 ++ [pO 1 [.null, .null, .null, .null, .null, .long 0, .null, .null, .null]]) m 6 = some h' ∧ h'.length = m + 10 ∧ (∀ j, j < m → h'[j]? = h0[j]?) ∧ MOb m NN 234929231 h' :=
  mkn_Mo (e0 := 476259665) (by decide) (by decide +kernel) rwf_N (by decide +kernel) (by decide +kernel) (by decide +kernel) (by decide) (by decide +kernel) (by decide +kernel) h0 m hm
