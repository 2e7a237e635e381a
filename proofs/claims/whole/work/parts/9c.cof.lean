/-! every point of the curve is a multiple of the base: counting -/
section CF
variable {F : Type} {φ : Nat → F}
theorem el_tr [Lean.Grind.Field F] {D E G : List (F × F)} (h : EL φ D E) (k : EL φ E G) : EL φ D G := @eq_tr F _ _ _ _ _ _ _ _ _ (CA (-3) (φ BB)) (itf _ _) _ _ _ h k
theorem el_sy [Lean.Grind.Field F] {D E : List (F × F)} (h : EL φ D E) : EL φ E D := @eq_sy F _ _ _ _ _ _ (CA (-3) (φ BB)) _ _ h
theorem el_rf [Lean.Grind.Field F] (D : List (F × F)) : EL φ D D := @eq_rf F _ _ _ _ _ _ _ _ _ (CA (-3) (φ BB)) (itf _ _) D
theorem el_pm [Lean.Grind.Field F] {D E : List (F × F)} (h : List.Perm D E) : EL φ D E := @eq_perm F _ _ _ _ _ _ _ _ _ (CA (-3) (φ BB)) (itf _ _) _ _ h
theorem el_ap [Lean.Grind.Field F] {D D' E E' : List (F × F)} (h : EL φ D D') (k : EL φ E E') : EL φ (D ++ E) (D' ++ E') := @eq_app2 F _ _ _ _ _ _ _ _ _ (CA (-3) (φ BB)) (itf _ _) _ _ _ _ h k
def vq (Q N G : F × F) (a c b : Nat) : List (F × F) := List.replicate a Q ++ List.replicate c N ++ List.replicate b G
theorem vq_pm (Q N G : F × F) (a c b x y z : Nat) : List.Perm (vq Q N G (a + x) (c + y) (b + z)) (vq Q N G a c b ++ vq Q N G x y z) := by
  unfold vq
  rw [← List.replicate_append_replicate, ← List.replicate_append_replicate, ← List.replicate_append_replicate]
  simp only [List.append_assoc]
  refine List.Perm.append_left _ ?_
  generalize List.replicate a Q = A
  generalize List.replicate x Q = X
  generalize List.replicate c N = C
  generalize List.replicate y N = Y
  generalize List.replicate b G = B
  generalize List.replicate z G = Z
  have p1 : List.Perm (X ++ (C ++ (Y ++ (B ++ Z)))) (C ++ (X ++ (Y ++ (B ++ Z)))) := by
    have := List.Perm.append_right (Y ++ (B ++ Z)) (List.perm_append_comm (l₁ := X) (l₂ := C))
    simpa only [List.append_assoc] using this
  refine p1.trans (List.Perm.append_left C ?_)
  have p2 : List.Perm ((X ++ Y) ++ B ++ Z) (B ++ (X ++ Y) ++ Z) := List.Perm.append_right Z (List.perm_append_comm)
  simpa only [List.append_assoc] using p2
theorem vq_ad [Lean.Grind.Field F] {Q N G : F × F} {a c b a' c' b' : Nat} (h : EL φ (vq Q N G a c b) (vq Q N G a' c' b')) (x y z : Nat) : EL φ (vq Q N G (a + x) (c + y) (b + z)) (vq Q N G (a' + x) (c' + y) (b' + z)) :=
  el_tr (el_pm (vq_pm ..)) (el_tr (el_ap h (el_rf _)) (el_sy (el_pm (vq_pm ..))))
theorem cf_key [Lean.Grind.Field F] (Z : ZF PP φ) {Q : F × F} (hQ : OC (-3) (φ BB) (some Q)) : ∃ m, EL φ [Q] (List.replicate m (φ GX, φ GY)) := by
  refine Classical.byContradiction fun hno => ?_
  obtain ⟨qx, qy⟩ := Q
  have cq := hQ qx qy rfl
  have hG := oc_g Z
  have hN : OC (-3) (φ BB) (some (qx, -qy)) := by
    intro x y e
    have : qx = x ∧ -qy = y := by simpa using e
    obtain ⟨rfl, rfl⟩ := this
    grind
  have qn : EL φ (vq (qx, qy) (qx, -qy) (φ GX, φ GY) 1 1 0) (vq (qx, qy) (qx, -qy) (φ GX, φ GY) 0 0 0) :=
    (ls_add Z (ls_1 hQ) (ls_1 hN) (Or.inr (Or.inr ⟨qx, qy, qx, -qy, rfl, rfl, Or.inl ⟨rfl, rfl, rfl⟩⟩))).2
  have gn : EL φ (vq (qx, qy) (qx, -qy) (φ GX, φ GY) 0 0 NN) (vq (qx, qy) (qx, -qy) (φ GX, φ GY) 0 0 0) := (ml_n Z).2
  generalize hQe : ((qx, qy) : F × F) = Q at *
  generalize ((qx, -qy) : F × F) = N at *
  generalize hGe : ((φ GX, φ GY) : F × F) = G at *
  -- classes: (a, c, b) stands for a Q + c N + b G
  have mem : ∀ a c b P, P ∈ vq Q N G a c b → OC (-3) (φ BB) (some P) := by
    intro a c b P h
    unfold vq at h
    rw [List.mem_append, List.mem_append] at h
    rcases h with (h | h) | h
    · rw [List.eq_of_mem_replicate h]; exact hQ
    · rw [List.eq_of_mem_replicate h]; exact hN
    · rw [List.eq_of_mem_replicate h]; exact hG
  -- a multiple of G that is neutral
  have g0 : ∀ k, 0 < k → k < NN → ¬ EL φ (vq Q N G 0 0 k) (vq Q N G 0 0 0) := by
    intro k h0 h1 e
    rw [← hGe] at e hG
    exact ml_nz Z hG (ml_n Z) h0 h1 ⟨fun x y e => by simp at e, e⟩
  -- Q is no multiple
  have q0 : ∀ k, ¬ EL φ (vq Q N G 1 0 0) (vq Q N G 0 0 k) := fun k e => hno ⟨k, e⟩
  have gz : ∀ j a c b, EL φ (vq Q N G a c (b + NN * j)) (vq Q N G a c b) := by
    intro j
    induction j with
    | zero => intro a c b; exact el_rf _
    | succ j ih =>
      intro a c b
      have e := vq_ad gn a c (b + NN * j)
      simp only [Nat.zero_add] at e
      rw [show b + NN * (j + 1) = NN + (b + NN * j) by rw [Nat.mul_succ]; omega]
      exact el_tr e (ih a c b)
  have i0 : ∀ a i (b : Nat) j, i < NN → j < NN → i < j → ¬ EL φ (vq Q N G a 0 i) (vq Q N G a 0 j) := by
    intro a i b j hi hj hij e
    have e1 := vq_ad e 0 a (NN - i)
    simp only [Nat.add_zero, Nat.zero_add] at e1
    have qa : ∀ a b, EL φ (vq Q N G a a b) (vq Q N G 0 0 b) := by
      intro a
      induction a with
      | zero => intro b; exact el_rf _
      | succ a ih =>
        intro b
        have e := vq_ad qn a a b
        simp only [Nat.zero_add] at e
        rw [Nat.add_comm a 1]
        exact el_tr e (ih b)
    have e2 := el_tr (el_sy (qa a (i + (NN - i)))) (el_tr e1 (qa a (j + (NN - i))))
    rw [show i + (NN - i) = 0 + NN * 1 by omega, show j + (NN - i) = (j - i) + NN * 1 by omega] at e2
    exact g0 (j - i) (by omega) (by omega) (el_sy (el_tr (el_sy (gz 1 0 0 0)) (el_tr e2 (gz 1 0 0 (j - i)))))
  have i1 : ∀ a i j, i < NN → ¬ EL φ (vq Q N G (a + 1) 0 i) (vq Q N G a 0 j) := by
    intro a i j hi e
    have e1 := vq_ad e 0 a (NN - i)
    simp only [Nat.add_zero, Nat.zero_add] at e1
    have qa : ∀ a x b, EL φ (vq Q N G (x + a) a b) (vq Q N G x 0 b) := by
      intro a
      induction a with
      | zero => intro x b; exact el_rf _
      | succ a ih =>
        intro x b
        have e := vq_ad qn (x + a) a b
        simp only [Nat.zero_add] at e
        rw [show x + (a + 1) = 1 + (x + a) by omega, Nat.add_comm a 1]
        exact el_tr e (ih x b)
    have e2 := el_tr (el_sy (qa a 1 (i + (NN - i)))) (el_tr (by rw [Nat.add_comm 1 a]; exact e1) (by have := qa a 0 (j + (NN - i)); rw [Nat.zero_add] at this; exact this))
    rw [show i + (NN - i) = 0 + NN * 1 by omega] at e2
    exact q0 _ (el_tr (el_sy (gz 1 1 0 0)) e2)
  have i2 : ∀ i j, i < NN → ¬ EL φ (vq Q N G 2 0 i) (vq Q N G 0 0 j) := by
    intro i j hi e
    have e1 := vq_ad e 0 0 (NN - i)
    simp only [Nat.add_zero, Nat.zero_add] at e1
    rw [show i + (NN - i) = 0 + NN * 1 by omega] at e1
    have e2 := el_tr (el_sy (gz 1 2 0 0)) e1
    -- 2 Q = m G, m made even
    obtain ⟨m, hm⟩ : ∃ m, EL φ (vq Q N G 2 0 0) (vq Q N G 0 0 (m + m)) := by
      generalize j + (NN - i) = k at e2
      by_cases z : k % 2 = 0
      · exact ⟨k / 2, by rw [show k / 2 + k / 2 = k by omega]; exact e2⟩
      · refine ⟨(k + NN) / 2, ?_⟩
        have no : NN % 2 = 1 := by decide
        rw [show (k + NN) / 2 + (k + NN) / 2 = k + NN * 1 by omega]
        exact el_tr e2 (el_sy (gz 1 0 0 k))
    -- T = Q + k G with k + m a multiple of NN
    obtain ⟨k, c, hk⟩ : ∃ k c, k + m = NN * c := ⟨NN * (m + 1) - m, m + 1, by
      have : m ≤ NN * (m + 1) := by
        rw [Nat.mul_succ]
        have := Nat.le_mul_of_pos_left m (show 0 < NN by decide)
        omega
      omega⟩
    obtain ⟨T, hT⟩ := ls_ex Z (vq Q N G 1 0 k) (mem 1 0 k)
    have e3 := vq_ad hm 0 0 (k + k)
    simp only [Nat.zero_add] at e3
    rw [show m + m + (k + k) = 0 + NN * (c + c) by rw [Nat.mul_add]; omega] at e3
    have e4 : EL φ (vq Q N G 2 0 (k + k)) [] := el_tr e3 (gz (c + c) 0 0 0)
    obtain ⟨R, hR⟩ := ad_ex Z hT.1 hT.1
    have e5 := ls_add Z hT hT hR
    have e6 : LSm φ (vq Q N G 1 0 k ++ vq Q N G 1 0 k) none := ⟨fun x y e => by simp at e, el_tr (el_sy (el_pm (vq_pm Q N G 1 0 k 1 0 k))) e4⟩
    have e7 := ls_uq Z e5 e6
    subst e7
    rcases T with _ | ⟨tx, ty⟩
    · -- T is neutral: Q = m G
      have e8 := vq_ad (a := 1) (c := 0) (b := k) (a' := 0) (c' := 0) (b' := 0) hT.2 0 0 m
      simp only [Nat.zero_add, Nat.add_zero] at e8
      rw [hk] at e8
      have e9 := gz c 1 0 0
      rw [Nat.zero_add] at e9
      exact q0 _ (el_tr (el_sy e9) e8)
    · have ct := hT.1 tx ty rfl
      have nt := no_rt Z tx
      have h2 := zf_2 Z
      rcases hR with ⟨q, _⟩ | ⟨q, _⟩ | ⟨x1, y1, x2, y2, q1, q2, q3⟩
      · exact absurd q (by simp)
      · exact absurd q (by simp)
      · have a1 : tx = x1 ∧ ty = y1 := by simpa using q1
        have a2 : tx = x2 ∧ ty = y2 := by simpa using q2
        obtain ⟨rfl, rfl⟩ := a1
        obtain ⟨rfl, rfl⟩ := a2
        rcases q3 with ⟨_, q4, _⟩ | ⟨l, _, q5⟩
        · have hty : ty ≠ 0 := by grind
          have := f_nz h2 hty
          grind
        · exact absurd q5 (by simp)
  -- the code of a point
  obtain ⟨r, hr⟩ : ∃ r : F → Nat, ∀ a, r a < PP ∧ φ (r a) = a := ⟨fun a => Classical.choose (Z.2.2.2.2 a), fun a => Classical.choose_spec (Z.2.2.2.2 a)⟩
  obtain ⟨cd, hcd0, hcd1⟩ : ∃ cd : Option (F × F) → Nat, cd none = 0 ∧ ∀ x y, cd (some (x, y)) = 1 + 2 * r x + r y % 2 := ⟨fun S => match S with
    | none => 0
    | some (x, y) => 1 + 2 * r x + r y % 2, rfl, fun _ _ => rfl⟩
  have cdi : ∀ S T, OC (-3) (φ BB) S → OC (-3) (φ BB) T → cd S = cd T → S = T := by
    intro S T hS hT e
    rcases S with _ | ⟨x, y⟩
    · rcases T with _ | ⟨x', y'⟩
      · rfl
      · rw [hcd0, hcd1] at e; omega
    · rcases T with _ | ⟨x', y'⟩
      · rw [hcd0, hcd1] at e; omega
      · rw [hcd1, hcd1] at e
        have e1 : r x = r x' := by omega
        have e2 : r y % 2 = r y' % 2 := by omega
        have e3 : x = x' := by rw [← (hr x).2, ← (hr x').2, e1]
        subst e3
        have c1 := hS x y rfl
        have c2 := hT x y' rfl
        have e4 : y = y' := by
          refine Classical.byContradiction fun ne => ?_
          have ns : y + y' = 0 := by
            refine Classical.byContradiction fun ne' => ?_
            have := f_nz (show y - y' ≠ 0 by grind) ne'
            grind
          have ny : y ≠ 0 := by have := no_rt Z x; grind
          rw [← (hr y).2, ← (hr y').2, ← Z.1, ← zf_0 Z] at ns
          have d := (Z.2.2.2.1 _ _).mp ns
          rw [Nat.zero_mod] at d
          obtain ⟨q, hq⟩ := Nat.dvd_of_mod_eq_zero d
          have b1 := (hr y).1
          have b2 := (hr y').1
          have b0 : r y ≠ 0 := by
            intro z
            apply ny
            rw [← (hr y).2, z, zf_0 Z]
          have q1 : q = 1 := by
            have : q < 2 := by
              refine Classical.byContradiction fun z => ?_
              have := Nat.mul_le_mul_left PP (show 2 ≤ q by omega)
              omega
            have : q ≠ 0 := by
              intro z
              rw [z, Nat.mul_zero] at hq
              omega
            omega
          rw [q1, Nat.mul_one] at hq
          have po : PP % 2 = 1 := by decide
          omega
        rw [e4]
  have cdl : ∀ S, cd S < 2 * PP + 1 := by
    intro S
    rcases S with _ | ⟨x, y⟩
    · rw [hcd0]; omega
    · rw [hcd1]
      have := (hr x).1
      omega
  -- the three cosets
  obtain ⟨pt, hpt⟩ : ∃ pt : Nat → Nat → Option (F × F), ∀ a i, LSm φ (vq Q N G a 0 i) (pt a i) := ⟨fun a i => Classical.choose (ls_ex Z (vq Q N G a 0 i) (mem a 0 i)), fun a i => Classical.choose_spec (ls_ex Z (vq Q N G a 0 i) (mem a 0 i))⟩
  have inj : ∀ a b i j, a < 3 → b < 3 → i < NN → j < NN → cd (pt a i) = cd (pt b j) → a = b ∧ i = j := by
    intro a b i j ha hb hi hj e
    have e1 := cdi _ _ (hpt a i).1 (hpt b j).1 e
    have e2 : EL φ (vq Q N G a 0 i) (vq Q N G b 0 j) := el_tr (hpt a i).2 (by rw [e1]; exact el_sy (hpt b j).2)
    have hab : a = b := by
      have : (a = 0 ∨ a = 1 ∨ a = 2) ∧ (b = 0 ∨ b = 1 ∨ b = 2) := by omega
      rcases this with ⟨rfl | rfl | rfl, rfl | rfl | rfl⟩
      · rfl
      · exact (i1 0 j i hj (el_sy e2)).elim
      · exact (i2 j i hj (el_sy e2)).elim
      · exact (i1 0 i j hi e2).elim
      · rfl
      · exact (i1 1 j i hj (el_sy e2)).elim
      · exact (i2 i j hi e2).elim
      · exact (i1 1 i j hi e2).elim
      · rfl
    subst hab
    refine ⟨rfl, ?_⟩
    rcases Nat.lt_trichotomy i j with z | z | z
    · exact (i0 a i 0 j hi hj z e2).elim
    · exact z
    · exact (i0 a j 0 i hj hi z (el_sy e2)).elim
  have np : 0 < NN := by decide
  have big := pigeon (a := 3 * NN) (b := 2 * PP + 1) (fun k => cd (pt (k / NN) (k % NN))) (fun k _ => cdl _) (by
    intro k l hk hl e
    have k1 : k / NN < 3 := Nat.div_lt_of_lt_mul (by omega)
    have l1 : l / NN < 3 := Nat.div_lt_of_lt_mul (by omega)
    obtain ⟨g1, g2⟩ := inj _ _ _ _ k1 l1 (Nat.mod_lt _ np) (Nat.mod_lt _ np) e
    rw [← Nat.div_add_mod k NN, ← Nat.div_add_mod l NN, g1, g2])
  exact absurd big (by decide)
theorem ml_any [Lean.Grind.Field F] (Z : ZF PP φ) {Q : F × F} (hQ : OC (-3) (φ BB) (some Q)) : ML φ NN Q none := by
  obtain ⟨m, hm⟩ := cf_key Z hQ
  have h1 : ∀ k, EL φ (List.replicate k Q) (List.replicate (m * k) (φ GX, φ GY)) := by
    intro k
    induction k with
    | zero => exact el_rf _
    | succ k ih =>
      have := el_ap hm ih
      rw [List.replicate_append_replicate, show m + m * k = m * (k + 1) by rw [Nat.mul_succ]; omega] at this
      exact this
  refine ⟨fun x y e => by simp at e, ?_⟩
  have h2 := h1 NN
  rw [Nat.mul_comm] at h2
  exact el_tr h2 (ml_k Z (ml_n Z) m).2
end CF
