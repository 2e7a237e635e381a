/-! the reference's numbers: set, zero, alike -/
theorem se1 {a n : Nat} (hn : 16 ≤ n) {v : Nat} (hv : v < 2 ^ 16) {F : Nat → Int64} : ∀ (r i f : Nat) (h : HP) (F1 : Nat → Int64), r + i = 16 → r < f → h[a]? = some (pJ n F1) → (∀ k, k < i → F1 k = lN (if k = 0 then v else 0)) → (∀ k, 16 ≤ k → F1 k = F k) → ∃ F', L_Rm_set_2 f h a (nI v) (nI i) = some (h.set a (pJ n F')) ∧ (∀ k, k < 16 → F' k = lN (if k = 0 then v else 0)) ∧ ∀ k, 16 ≤ k → F' k = F k := by
  intro r
  induction r with
  | zero =>
    intro i f h F1 hr hfu ha h1 h2
    cases f with
    | zero => omega
    | succ f =>
      have hi : i = 16 := by omega
      subst hi
      refine ⟨F1, ?_, h1, h2⟩
      show B_Rm_set_2 _ h a (nI v) (nI 16) = _
      unfold B_Rm_set_2
      rw [if_pos (show (16 : Int32) ≤ nI 16 by decide), hid ha]
  | succ r ih =>
    intro i f h F1 hr hfu ha h1 h2
    cases f with
    | zero => omega
    | succ f =>
      obtain ⟨F', g1, g2, g3⟩ := ih (i + 1) f (h.set a (pJ n (va_up F1 i (lN (if i = 0 then v else 0))))) _ (by omega) (by omega) (hs_ ha) (fun k hk => by
        by_cases z : k = i
        · rw [z, up_s]
        · rw [up_n z]; exact h1 k (by omega)) (fun k hk => by rw [up_n (by omega)]; exact h2 k hk)
      refine ⟨F', ?_, g2, g3⟩
      show B_Rm_set_2 (L_Rm_set_2 f) h a (nI v) (nI i) = _
      unfold B_Rm_set_2
      rw [if_neg (show ¬ (16 : Int32) ≤ nI i from nI_ge (b := 16) (by omega) (by omega))]
      by_cases z : i = 0
      · subst z
        rw [if_pos nI_0, nI_l (by omega)]
        refine (bs_ (tJ_in 0 ha rfl (by omega) (by omega))).trans ?_
        show L_Rm_set_2 f _ a (nI v) (nI 0 + Int32.ofInt 1) = _
        rw [nI_ofInt1]
        rw [if_pos rfl] at g1
        refine g1.trans ?_
        rw [hss]
      · rw [if_neg (nI_ne0 (by omega) (by omega))]
        refine (bs_ (tJ_in i ha rfl (by omega) (by omega))).trans ?_
        show L_Rm_set_2 f (h.set a (pJ n (va_up F1 i (lN 0)))) a (nI v) (nI i + Int32.ofInt 1) = _
        rw [nI_ofInt1]
        rw [if_neg z] at g1
        refine g1.trans ?_
        rw [hss]
theorem vl_one {B v : Nat} : ∀ n, vl B (fun k => if k = 0 then v else 0) (n + 1) = v
  | 0 => by
    show 0 + v * B ^ 0 = v
    simp
  | n + 1 => by
    show vl B (fun k => if k = 0 then v else 0) (n + 1) + (if n + 1 = 0 then v else 0) * B ^ (n + 1) = v
    rw [vl_one n, if_neg (by omega)]
    simp
theorem e_set {h : HP} {a n v : Nat} (hn : 16 ≤ n) (hv : v < 2 ^ 16) {F : Nat → Int64} (ha : h[a]? = some (pJ n F)) : ∃ F', P_Rm_set h a (nI v) = some (h.set a (pJ n F')) ∧ NM F' v ∧ ∀ k, 16 ≤ k → F' k = F k := by
  obtain ⟨F', g1, g2, g3⟩ := se1 hn hv (F := F) 16 0 FU h F rfl (by decide) ha (fun k hk => absurd hk (Nat.not_lt_zero _)) (fun _ _ => rfl)
  refine ⟨F', g1, ⟨fun k => if k = 0 then v else 0, g2, fun k hk => ?_, vl_one 15⟩, g3⟩
  show (if k = 0 then v else 0) < 2 ^ 16
  by_cases z : k = 0
  · rw [if_pos z]; exact hv
  · rw [if_neg z]; decide
theorem al1 {h : HP} {a b n m : Nat} (hn : 16 ≤ n) (hm : 16 ≤ m) {F G : Nat → Int64} {d e : Nat → Nat} (ha : h[a]? = some (pJ n F)) (hb : h[b]? = some (pJ m G)) (hF : RJ 16 F d) (hG : RJ 16 G e) (hd : ∀ k, k < 16 → d k < 2 ^ 16) (he : ∀ k, k < 16 → e k < 2 ^ 16) : ∀ (r i f : Nat), r + i = 16 → r < f → (∀ j, j < i → d j = e j) → L_Rm_alike_2 f h a b (nI i) = some (bi (decide (vl (2 ^ 16) d 16 = vl (2 ^ 16) e 16)), h) := by
  intro r
  induction r with
  | zero =>
    intro i f hr hfu hj
    cases f with
    | zero => omega
    | succ f =>
      have hi : i = 16 := by omega
      subst hi
      show B_Rm_alike_2 _ h a b (nI 16) = _
      unfold B_Rm_alike_2
      rw [if_pos (show (16 : Int32) ≤ nI 16 by decide), vl_eq 16 hj, decide_eq_true rfl]
      rfl
  | succ r ih =>
    intro i f hr hfu hj
    cases f with
    | zero => omega
    | succ f =>
      show B_Rm_alike_2 (L_Rm_alike_2 f) h a b (nI i) = _
      unfold B_Rm_alike_2
      rw [if_neg (show ¬ (16 : Int32) ≤ nI i from nI_ge (b := 16) (by omega) (by omega))]
      refine (bs_ (sJ_in i ha rfl (by omega) (by omega))).trans ?_
      refine (bs_ (sJ_in i hb rfl (by omega) (by omega))).trans ?_
      rw [hF i (by omega), hG i (by omega)]
      by_cases z : d i = e i
      · rw [if_pos ((lg_cmp_eq _ _).mpr (by rw [z]))]
        show L_Rm_alike_2 f h a b (nI i + Int32.ofInt 1) = _
        rw [nI_ofInt1]
        exact ih (i + 1) f (by omega) (by omega) (fun j h1 => by
          by_cases y : j = i
          · rw [y]; exact z
          · exact hj j (by omega))
      · rw [if_neg (fun c => z ((lN_inj16 (hd i (by omega)) (he i (by omega))).mp ((lg_cmp_eq _ _).mp c))), decide_eq_false (fun c => z (vl_inj 16 hd he c i (by omega)))]
        rfl
theorem e_alike {h : HP} {a b n m v w : Nat} (hn : 16 ≤ n) (hm : 16 ≤ m) {F G : Nat → Int64} (ha : h[a]? = some (pJ n F)) (hb : h[b]? = some (pJ m G)) (hv : NM F v) (hw : NM G w) : P_Rm_alike h a b = some (bi (decide (v = w)), h) := by
  obtain ⟨d, d1, d2, rfl⟩ := hv
  obtain ⟨e, e1, e2, rfl⟩ := hw
  exact al1 hn hm ha hb d1 e1 d2 e2 16 0 FU rfl (by decide) (fun j h1 => absurd h1 (Nat.not_lt_zero _))
theorem ze1 {h : HP} {a n : Nat} (hn : 16 ≤ n) {F : Nat → Int64} {d : Nat → Nat} (ha : h[a]? = some (pJ n F)) (hF : RJ 16 F d) (hd : ∀ k, k < 16 → d k < 2 ^ 16) : ∀ (r i f : Nat), r + i = 16 → r < f → (∀ j, j < i → d j = 0) → L_Rm_zero_2 f h a (nI i) = some (bi (decide (vl (2 ^ 16) d 16 = 0)), h) := by
  intro r
  induction r with
  | zero =>
    intro i f hr hfu hj
    cases f with
    | zero => omega
    | succ f =>
      have hi : i = 16 := by omega
      subst hi
      show B_Rm_zero_2 _ h a (nI 16) = _
      unfold B_Rm_zero_2
      rw [if_pos (show (16 : Int32) ≤ nI 16 by decide), vl_0 16 hj, decide_eq_true rfl]
      rfl
  | succ r ih =>
    intro i f hr hfu hj
    cases f with
    | zero => omega
    | succ f =>
      show B_Rm_zero_2 (L_Rm_zero_2 f) h a (nI i) = _
      unfold B_Rm_zero_2
      rw [if_neg (show ¬ (16 : Int32) ≤ nI i from nI_ge (b := 16) (by omega) (by omega))]
      refine (bs_ (sJ_in i ha rfl (by omega) (by omega))).trans ?_
      rw [hF i (by omega)]
      by_cases z : d i = 0
      · rw [if_pos ((lg_cmp_eq _ _).mpr (by rw [z]; rfl))]
        show L_Rm_zero_2 f h a (nI i + Int32.ofInt 1) = _
        rw [nI_ofInt1]
        exact ih (i + 1) f (by omega) (by omega) (fun j h1 => by
          by_cases y : j = i
          · rw [y]; exact z
          · exact hj j (by omega))
      · rw [if_neg (show ¬ lg_cmp (lN (d i)) 0 = 0 from fun c => z ((lN_inj16 (b := 0) (hd i (by omega)) (by decide)).mp ((lg_cmp_eq _ _).mp c))), decide_eq_false (fun c => z (vl_z (by decide) 16 c i (by omega)))]
        rfl
theorem e_zero {h : HP} {a n v : Nat} (hn : 16 ≤ n) {F : Nat → Int64} (ha : h[a]? = some (pJ n F)) (hv : NM F v) : P_Rm_zero h a = some (bi (decide (v = 0)), h) := by
  obtain ⟨d, d1, d2, rfl⟩ := hv
  exact ze1 hn ha d1 d2 16 0 FU rfl (by decide) (fun j h1 => absurd h1 (Nat.not_lt_zero _))
