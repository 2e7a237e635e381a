/-! the class's digit and sumOfTimes -/
/-- a byte as a number -/
def byN (x : Int8) : Nat := x.toBitVec.toNat
theorem byN_lt (x : Int8) : byN x < 256 := x.toBitVec.isLt
theorem byN_ex (x : Int8) : ∃ b, b < 256 ∧ x = Int32.toInt8 (nI b) ∧ byN x = b := by
  refine ⟨byN x, byN_lt x, ?_, rfl⟩
  apply Int8.toBitVec_inj.1
  apply BitVec.eq_of_toNat_eq
  show x.toBitVec.toNat = ((BitVec.ofNat 32 (byN x)).signExtend 8).toNat
  rw [BitVec.signExtend_eq_setWidth_of_le _ (by decide), BitVec.toNat_setWidth, BitVec.toNat_ofNat]
  have := byN_lt x
  unfold byN at *
  omega
theorem nb_hi : ∀ b : Fin 256, ((Int32.toInt8 (nI b.val)).toInt32 >>> (4 &&& 31)) &&& 15 = nI (b.val / 16) := by decide +kernel
theorem nb_lo : ∀ b : Fin 256, (Int32.toInt8 (nI b.val)).toInt32 &&& 15 = nI (b.val % 16) := by decide +kernel
def nib (f : Nat → Int8) (i : Nat) : Nat := if i % 2 = 0 then byN (f (i / 2)) / 16 else byN (f (i / 2)) % 16
theorem nib_lt (f : Nat → Int8) (i : Nat) : nib f i < 16 := by
  unfold nib
  have := byN_lt (f (i / 2))
  split <;> omega
theorem e_digit {h : HP} {c k i : Nat} {f : Nat → Int8} (hk : h[k]? = some (pB 32 f)) (hi : i < 64) : P_Cu_digit h c k (nI i) = some (nI (nib f i), h) := by
  unfold P_Cu_digit nib
  have hrem : nI i - nI i / 2 * 2 = nI (i % 2) := pk_rem (d := 2) (by omega) (by decide) (by decide)
  have hd : nI i / 2 = nI (i / 2) := pk_div (a := i) (d := 2) (by omega) (by decide) (by decide)
  obtain ⟨b, b1, b2, b3⟩ := byN_ex (f (i / 2))
  by_cases z : i % 2 = 0
  · rw [if_pos (show nI i - nI i / 2 * 2 = 0 by rw [hrem, z]; rfl), if_pos z, bs_ (sB_in (i / 2) hk hd (by omega) (by omega)), b3]
    rw [b2]
    exact congrArg (fun q => some (q, h)) (nb_hi ⟨b, b1⟩)
  · rw [if_neg (show ¬ nI i - nI i / 2 * 2 = 0 by rw [hrem, show i % 2 = 1 by omega]; decide), if_neg z, bs_ (sB_in (i / 2) hk hd (by omega) (by omega)), b3]
    rw [b2]
    exact congrArg (fun q => some (q, h)) (nb_lo ⟨b, b1⟩)
/-- the number of the first i digits -/
def un (f : Nat → Int8) : Nat → Nat
  | 0 => 0
  | i + 1 => 16 * un f i + nib f i
/-- the number of the first n bytes, the highest first -/
def be (f : Nat → Int8) : Nat → Nat
  | 0 => 0
  | n + 1 => 256 * be f n + byN (f n)
theorem un_be (f : Nat → Int8) : ∀ n, un f (2 * n) = be f n
  | 0 => rfl
  | n + 1 => by
    show 16 * (16 * un f (2 * n) + nib f (2 * n)) + nib f (2 * n + 1) = 256 * be f n + byN (f n)
    rw [un_be f n]
    unfold nib
    rw [if_pos (by omega), if_neg (by omega), show 2 * n / 2 = n by omega, show (2 * n + 1) / 2 = n by omega]
    omega
section CSM
variable {F : Type} {φ : Nat → F}
theorem lw_add [Lean.Grind.Field F] (Z : ZF PP φ) {G Q : F × F} {u w u' w' : Nat} {S T R : Option (F × F)} (h : LSm φ (List.replicate u G ++ List.replicate w Q) S) (k : LSm φ (List.replicate u' G ++ List.replicate w' Q) T) (a : ADD (-3) S T R) : LSm φ (List.replicate (u + u') G ++ List.replicate (w + w') Q) R := by
  refine ls_p (ls_add Z h k a) ?_
  rw [← List.replicate_append_replicate, ← List.replicate_append_replicate]
  generalize List.replicate u G = A
  generalize List.replicate u' G = A'
  generalize List.replicate w Q = B
  generalize List.replicate w' Q = B'
  simp only [List.append_assoc]
  refine List.Perm.append_left A ?_
  have := List.Perm.append_right B' (List.perm_append_comm (l₁ := A') (l₂ := B))
  simpa only [List.append_assoc] using this
/-- the point at t is u G + w Q -/
def PS [Lean.Grind.Field F] (φ : Nat → F) (t u w : Nat) (G Q : F × F) (h : HP) : Prop := ∃ x y z S, PVl t x y z h ∧ LSm φ (List.replicate u G ++ List.replicate w Q) S ∧ JP (ps φ x) (ps φ y) (ps φ z) S
theorem PS.rw [Lean.Grind.Field F] {t u w : Nat} {G Q : F × F} {h : HP} (P : PS φ t u w G Q h) : PRw t h := by
  obtain ⟨x, y, z, T, p1, _, _⟩ := P
  exact p1.rw
theorem su_17 [Lean.Grind.Field F] (Z : ZF PP φ) (hr : φ (2 ^ 261) ≠ 0) {c kn m kb bm om sc t kf kg : Nat} {li : Int} {G Q : F × F} (dt : sc + 6 ≤ t) {K7 : HP → Nat → Nat → Nat → Nat → Int32 → Option (HP)} {x : Int32} : ∀ (r j f : Nat) (h : HP) (u w : Nat), r + j = 4 → CAl c kn m kb bm om sc li h → PS φ t u w G Q h → ∃ h', L_Cu_sumOfTimes_17 K7 (r + f) h c kf kg t x (nI j) = L_Cu_sumOfTimes_17 K7 f h' c kf kg t x (nI 4) ∧ CAl c kn m kb bm om sc li h' ∧ KP (KC m sc t) h h' ∧ PS φ t (2 ^ r * u) (2 ^ r * w) G Q h'
  | 0, j, f, h, u, w, hj, C, P => by
    have : j = 4 := by omega
    subst this
    refine ⟨h, by rw [Nat.zero_add], C, KP.rf, ?_⟩
    rw [Nat.pow_zero, Nat.one_mul, Nat.one_mul]
    exact P
  | r + 1, j, f, h, u, w, hj, C, P => by
    obtain ⟨x1, y1, z1, S, p1, p2, p3⟩ := P
    obtain ⟨h1, x', y', z', R, g1, g2, g3, g4⟩ := w_twice Z hr C dt dt (Or.inl rfl) p1 p1.rw p2.1 p3
    obtain ⟨h', k1, k2, k3, k4⟩ := su_17 Z hr dt (K7 := K7) (x := x) (kf := kf) (kg := kg) r (j + 1) f h1 (u + u) (w + w) (by omega) g2.1 ⟨x', y', z', R, g2.2.2, lw_add Z p2 p2 g3, g4⟩
    refine ⟨h', ?_, k2, g2.2.1.tr k3, ?_⟩
    · rw [← k1, show r + 1 + f = (r + f) + 1 by omega]
      show B_Cu_sumOfTimes_17 K7 (L_Cu_sumOfTimes_17 K7 (r + f)) h c kf kg t x (nI j) = _
      unfold B_Cu_sumOfTimes_17
      rw [if_neg (show ¬ (4 : Int32) ≤ nI j from nI_ge (b := 4) (by omega) (by omega)), os_ C.1.1, bs_ g1]
      show L_Cu_sumOfTimes_17 K7 (r + f) h1 c kf kg t x (nI j + Int32.ofInt 1) = _
      rw [nI_ofInt1]
    · rw [Nat.pow_succ, show 2 ^ r * 2 * u = 2 ^ r * (u + u) by rw [Nat.mul_assoc]; congr 1; omega, show 2 ^ r * 2 * w = 2 ^ r * (w + w) by rw [Nat.mul_assoc]; congr 1; omega]
      exact k4
theorem su_7 [Lean.Grind.Field F] (Z : ZF PP φ) (hr : φ (2 ^ 261) ≠ 0) {c kn m kb bm om sc t kf kg b0 b1 : Nat} {li : Int} {G Q : F × F} {ff fg : Nat → Int8} (dt : sc + 6 ≤ t) (d0 : sc + 6 ≤ b0) (d1 : sc + 6 ≤ b1) (e0 : ∀ j, j < 16 → b0 + 8 * j + 4 ≤ t ∨ t + 4 ≤ b0 + 8 * j) (e1 : ∀ j, j < 16 → b1 + 8 * j + 4 ≤ t ∨ t + 4 ≤ b1 + 8 * j) (nf : kf ∉ KC m sc t) (ng : kg ∉ KC m sc t) (nb : bm ∉ KC m sc t) (no : om ∉ KC m sc t) : ∀ (r i f : Nat) (h : HP), r + i = 64 → r < f → CAl c kn m kb bm om sc li h → MA bm b0 h → MA om b1 h → h[kf]? = some (pB 32 ff) → h[kg]? = some (pB 32 fg) → (∀ j, j < 64 → PM φ (b0 + 8 * nib ff j) (nib ff j) G h) → (∀ j, j < 64 → PM φ (b1 + 8 * nib fg j) (nib fg j) Q h) → PS φ t (un ff i) (un fg i) G Q h →
    ∃ h', L_Cu_sumOfTimes_7 f h c kf kg t (nI i) = some h' ∧ CAl c kn m kb bm om sc li h' ∧ KP (KC m sc t) h h' ∧ PS φ t (un ff 64) (un fg 64) G Q h' := by
  intro r
  induction r with
  | zero =>
    intro i f h hi hfu C A0 A1 hf hg P0 P1 P
    have : i = 64 := by omega
    subst this
    cases f with
    | zero => omega
    | succ f =>
      refine ⟨h, ?_, C, KP.rf, P⟩
      show B_Cu_sumOfTimes_7 _ h c kf kg t (nI 64) = _
      unfold B_Cu_sumOfTimes_7
      rw [if_pos (show (64 : Int32) ≤ nI 64 by decide)]
  | succ r ih =>
    intro i f h hi hfu C A0 A1 hf hg P0 P1 P
    cases f with
    | zero => omega
    | succ f =>
      have mm := C.2.2.2
      have kk : ∀ q, q ∈ KC m sc t → q < sc + 6 ∨ (t + 1 ≤ q ∧ q ≤ t + 3) := fun q hq => by have := m_kc hq; omega
      have pk0 : ∀ {h1 h2 : HP}, KP (KC m sc t) h1 h2 → (∀ j, j < 64 → PM φ (b0 + 8 * nib ff j) (nib ff j) G h1) → ∀ j, j < 64 → PM φ (b0 + 8 * nib ff j) (nib ff j) G h2 := fun k p j hj => pm_kp k (p j hj) (fun q hq => by have := kk q hq; have := e0 _ (nib_lt ff j); omega)
      have pk1 : ∀ {h1 h2 : HP}, KP (KC m sc t) h1 h2 → (∀ j, j < 64 → PM φ (b1 + 8 * nib fg j) (nib fg j) Q h1) → ∀ j, j < 64 → PM φ (b1 + 8 * nib fg j) (nib fg j) Q h2 := fun k p j hj => pm_kp k (p j hj) (fun q hq => by have := kk q hq; have := e1 _ (nib_lt fg j); omega)
      obtain ⟨h1, g1, g2, g3, g4⟩ := su_17 Z hr dt (K7 := L_Cu_sumOfTimes_7 f) (x := nI i) (kf := kf) (kg := kg) 4 0 (FU - 4) h (un ff i) (un fg i) rfl C P
      have A0' := ma_kp g3 A0 nb
      have A1' := ma_kp g3 A1 no
      have hf1 : h1[kf]? = some (pB 32 ff) := by rw [g3.2 kf nf]; exact hf
      have P0' := pk0 g3 P0
      have P1' := pk1 g3 P1
      obtain ⟨x1, y1, z1, S, p1, p2, p3⟩ := g4
      obtain ⟨x2, y2, z2, T, q1, q2, q3⟩ := P0' i (by omega)
      obtain ⟨h2, x3, y3, z3, R, k1, k2, k3, k4⟩ := w_cadd Z hr g2 dt (by omega) dt (Or.inl rfl) (e0 _ (nib_lt ff i)) p1 q1 p1.rw p2.1 q2.1 p3 q3
      have l1 := lw_add Z (u' := nib ff i) (w' := 0) p2 (by rw [List.replicate_zero, List.append_nil]; exact q2) k3
      have A1'' := ma_kp k2.2.1 A1' no
      have hg2 : h2[kg]? = some (pB 32 fg) := by rw [k2.2.1.2 kg ng, g3.2 kg ng]; exact hg
      obtain ⟨x4, y4, z4, T2, s1, s2, s3⟩ := pk1 k2.2.1 P1' i (by omega)
      obtain ⟨h3, x5, y5, z5, R2, m1, m2, m3, m4⟩ := w_cadd Z hr k2.1 dt (by omega) dt (Or.inl rfl) (e1 _ (nib_lt fg i)) k2.2.2 s1 k2.2.2.rw l1.1 s2.1 k4 s3
      have l2 := lw_add Z (u' := 0) (w' := nib fg i) l1 (by rw [List.replicate_zero, List.nil_append]; exact s2) m3
      have kp3 : KP (KC m sc t) h h3 := g3.tr (k2.2.1.tr m2.2.1)
      obtain ⟨h', o1, o2, o3, o4⟩ := ih (i + 1) f h3 (by omega) (by omega) m2.1 (ma_kp kp3 A0 nb) (ma_kp kp3 A1 no) (by rw [kp3.2 kf nf]; exact hf) (by rw [kp3.2 kg ng]; exact hg) (pk0 kp3 P0) (pk1 kp3 P1) ⟨x5, y5, z5, R2, m2.2.2, by
        show LSm φ (List.replicate (16 * un ff i + nib ff i) G ++ List.replicate (16 * un fg i + nib fg i) Q) R2
        exact l2, m4⟩
      refine ⟨h', ?_, o2, kp3.tr o3, o4⟩
      show B_Cu_sumOfTimes_7 (L_Cu_sumOfTimes_7 f) h c kf kg t (nI i) = _
      unfold B_Cu_sumOfTimes_7
      rw [if_neg (show ¬ (64 : Int32) ≤ nI i from nI_ge (b := 64) (by omega) (by omega))]
      refine Eq.trans g1 ?_
      show B_Cu_sumOfTimes_17 _ _ h1 c kf kg t (nI i) (nI 4) = _
      unfold B_Cu_sumOfTimes_17
      rw [if_pos (show (4 : Int32) ≤ nI 4 by decide), bs_ (gR_at g2.1.1 rfl), os_ g2.1.1, bs2 (e_digit hf1 (by omega)), bs_ (ldR_3 A0' rfl (nib_lt ff i)), os_ g2.1.1, bs_ k1, bs_ (gR_at k2.1.1.1 rfl), os_ k2.1.1.1, bs2 (e_digit hg2 (by omega)), bs_ (ldR_3 A1'' rfl (nib_lt fg i)), os_ k2.1.1.1, bs_ m1]
      show L_Cu_sumOfTimes_7 f h3 c kf kg t (nI i + Int32.ofInt 1) = _
      rw [nI_ofInt1]
      exact o1
theorem w_sum [Lean.Grind.Field F] (Z : ZF PP φ) (hr : φ (2 ^ 261) ≠ 0) {c kn m kb bm om sc t kf kg b0 b1 : Nat} {li : Int} {G Q : F × F} {ff fg : Nat → Int8} {h : HP} (dt : sc + 6 ≤ t) (d0 : sc + 6 ≤ b0) (d1 : sc + 6 ≤ b1) (e0 : ∀ j, j < 16 → b0 + 8 * j + 4 ≤ t ∨ t + 4 ≤ b0 + 8 * j) (e1 : ∀ j, j < 16 → b1 + 8 * j + 4 ≤ t ∨ t + 4 ≤ b1 + 8 * j) (nf : kf ∉ KC m sc t) (ng : kg ∉ KC m sc t) (nb : bm ∉ KC m sc t) (no : om ∉ KC m sc t) (C : CAl c kn m kb bm om sc li h) (A0 : MA bm b0 h) (A1 : MA om b1 h) (hf : h[kf]? = some (pB 32 ff)) (hg : h[kg]? = some (pB 32 fg)) (P0 : ∀ j, j < 64 → PM φ (b0 + 8 * nib ff j) (nib ff j) G h) (P1 : ∀ j, j < 64 → PM φ (b1 + 8 * nib fg j) (nib fg j) Q h) (T : PRw t h) :
    ∃ h', P_Cu_sumOfTimes h c kf kg t = some h' ∧ CAl c kn m kb bm om sc li h' ∧ KP (KC m sc t) h h' ∧ PS φ t (be ff 32) (be fg 32) G Q h' := by
  obtain ⟨h1, k1, k2, k3⟩ := e_setNeutral T
  have mm := C.2.2.2
  have cm := C.2.2.1
  have k2' : KP (KC m sc t) h h1 := k2.up (by intro j hj; unfold KC; simp at hj ⊢; omega)
  have kk : ∀ q, q ∈ [t + 1, t + 2, t + 3] → t + 1 ≤ q ∧ q ≤ t + 3 := fun q hq => by simp at hq; omega
  have ee : ∀ j, j < sc + 6 → h1[j]? = h[j]? := fun j hj => k2.2 j (fun q => by have := kk j q; omega)
  have C1 : CAl c kn m kb bm om sc li h1 := by
    obtain ⟨⟨a, ⟨f, b1', b2'⟩, e⟩, M, _, _⟩ := C
    refine ⟨⟨by rw [ee c (by omega)]; exact a, ⟨f, by rw [ee sc (by omega)]; exact b1', b2'⟩, fun i hi => by rw [ee _ (by omega)]; exact e i hi⟩, ?_, cm, mm⟩
    obtain ⟨m1, m2, ⟨m3, m4, m5, m6⟩, ⟨m7, m8, m9⟩⟩ := M
    exact ⟨(ee m (by omega)).trans m1, by rw [ee (m + 1) (by omega)]; exact m2, ⟨by rw [ee (m + 2) (by omega)]; exact m3, by rw [ee (m + 3) (by omega)]; exact m4, by rw [ee (m + 4) (by omega)]; exact m5, by rw [ee (m + 5) (by omega)]; exact m6⟩, by rw [ee (m + 6) (by omega)]; exact m7, by rw [ee (m + 7) (by omega)]; exact m8, by rw [ee (m + 8) (by omega)]; exact m9⟩
  obtain ⟨h', o1, o2, o3, o4⟩ := su_7 Z hr dt d0 d1 e0 e1 nf ng nb no 64 0 FU h1 rfl (by decide) C1 (ma_kp k2' A0 nb) (ma_kp k2' A1 no) (by rw [k2'.2 kf nf]; exact hf) (by rw [k2'.2 kg ng]; exact hg) (fun j hj => pm_kp k2 (P0 j hj) (fun q hq => by have := kk q hq; have := e0 _ (nib_lt ff j); omega)) (fun j hj => pm_kp k2 (P1 j hj) (fun q hq => by have := kk q hq; have := e1 _ (nib_lt fg j); omega)) ⟨0, 0, 0, none, k3, ls_o, Or.inl ⟨ps_0 Z, rfl⟩⟩
  refine ⟨h', ?_, o2, k2'.tr o3, ?_⟩
  · unfold P_Cu_sumOfTimes
    rw [os_ T.1, bs_ k1]
    exact o1
  · rw [← un_be ff 32, ← un_be fg 32]
    exact o4
end CSM
