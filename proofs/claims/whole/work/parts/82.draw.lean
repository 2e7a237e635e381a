/-! the reference's draw -/
section DR
variable {q : Nat} {fs : List Value}
theorem dr1 {km kv mn : Nat} (f1 : fs[35]? = some (.ref km)) (f2 : fs[34]? = some (.ref kv)) (hmq : km ≠ q) (hmv : km ≠ kv) (hmn : 32 ≤ mn) {r g : Nat → Int8} : ∀ (m i f : Nat) (h : HP), m + i = 32 → m < f → h[q]? = some (pO 8 fs) → h[kv]? = some (pB 32 r) → h[km]? = some (pB mn (cpn r g 0 i)) → L_Rm_draw_2 f h q (nI i) = ob (h.set km (pB mn (cpn r g 0 32))) q 8 (bnd (P_Rm_keyed (h.set km (pB mn (cpn r g 0 32))) q kv 32) fun h2 => some h2) := by
  intro m
  induction m with
  | zero =>
    intro i f h hr hfu hp hc hw
    cases f with
    | zero => omega
    | succ f =>
      have hi : i = 32 := by omega
      subst hi
      show B_Rm_draw_2 _ h q (nI 32) = _
      unfold B_Rm_draw_2
      rw [if_pos (show (32 : Int32) ≤ nI 32 by decide), hid hw]
      exact bs_ (gR_at hp f2)
  | succ m ih =>
    intro i f h hr hfu hp hc hw
    cases f with
    | zero => omega
    | succ f =>
      show B_Rm_draw_2 (L_Rm_draw_2 f) h q (nI i) = _
      unfold B_Rm_draw_2
      rw [if_neg (show ¬ (32 : Int32) ≤ nI i from nI_ge (b := 32) (by omega) (by omega))]
      refine (bs_ (gR_at hp f1)).trans ?_
      refine (bs_ (gR_at hp f2)).trans ?_
      refine (bs_ (sB_in i hc rfl (by omega) (by omega))).trans ?_
      refine (bs_ (tB_in i hw rfl (by omega) (by omega))).trans ?_
      have e := cpn_up (r := r) (g := g) (a := 0) (n := i)
      rw [Nat.zero_add] at e
      rw [Int8.toInt8_toInt32, e]
      show L_Rm_draw_2 f _ q (nI i + Int32.ofInt 1) = _
      rw [nI_ofInt1]
      refine (ih (i + 1) f _ (by omega) (by omega) (hn_ hmq hp) (hn_ hmv hc) (hs_ hw)).trans ?_
      rw [hss]
theorem st1_eq {key r r' : Nat → Int8} {mask : Int32} {len : Nat} (h : ∀ i, i < len → r i = r' i) : XP (st1 key mask r) (64 + len) = XP (st1 key mask r') (64 + len) := XP_eq (fun i hi => by
  unfold st1
  by_cases z : i < 64
  · rw [if_pos z, if_pos z]
  · rw [if_neg z, if_neg z]; exact h _ (by omega))
theorem hmac_eq {key r r' : Nat → Int8} {len : Nat} (h : ∀ i, i < len → r i = r' i) : hmac key r len = hmac key r' len := by
  unfold hmac hm1
  rw [st1_eq h]
theorem e_draw {h : HP} {ks kd kr kt kh kw km kc kv mn : Nat} {key val g rm' : Nat → Int8} (nd : [q, ks, kd, kr, kt, kh].Nodup) (o : RHo q ks kd kr kt kh fs h) (f1 : fs[36]? = some (.ref kw)) (f2 : fs[35]? = some (.ref km)) (f3 : fs[33]? = some (.ref kc)) (f4 : fs[34]? = some (.ref kv)) (n1 : kw ∉ [q, ks, kd, kr, kt, kh]) (n2 : km ∉ [q, ks, kd, kr, kt, kh, kw, kv, kc]) (n3 : kc ∉ [ks, kd, kh, kw]) (n4 : kv ∉ [q, ks, kd, kr, kt, kh, kw])
    (hk : h[kc]? = some (pB 32 key)) (hm : h[km]? = some (pB mn rm')) (hw : h[kw]? = some (pB 65600 g)) (hv : h[kv]? = some (pB 32 val)) (hmn : 32 ≤ mn) :
    ∃ h' m', P_Rm_draw h q = some h' ∧ RHo q ks kd kr kt kh fs h' ∧ (∃ g', h'[kw]? = some (pB 65600 g')) ∧ h'[km]? = some (pB mn m') ∧ h'[kv]? = some (pB 32 (dgs val (hmac key val 32) 32)) ∧ KP [ks, kd, kh, kw, km, kv] h h' := by
  have n20 := n2
  simp only [List.mem_cons, List.not_mem_nil, or_false, not_or] at n2
  obtain ⟨m1, m2, m3, m4, m5, m6, m7, m8, m9⟩ := n2
  have a1 := dr1 f2 f4 m1 m8 hmn (r := val) (g := rm') 32 0 FU h rfl (by decide) o.1 hv (by rw [cpn_0]; exact hm)
  have kA : KP [km] h (h.set km (pB mn (cpn val rm' 0 32))) := KP.st (by simp)
  have qA : (h.set km (pB mn (cpn val rm' 0 32)))[km]? = some (pB mn (cpn val rm' 0 32)) := hs_ hm
  have oA := o.kp kA (by simp [Ne.symm m1, Ne.symm m2, Ne.symm m3, Ne.symm m4, Ne.symm m5, Ne.symm m6])
  have hkA : (h.set km (pB mn (cpn val rm' 0 32)))[kc]? = _ := hn_ m9 hk
  have hwA : (h.set km (pB mn (cpn val rm' 0 32)))[kw]? = _ := hn_ m7 hw
  have hvA : (h.set km (pB mn (cpn val rm' 0 32)))[kv]? = _ := hn_ m8 hv
  generalize h.set km (pB mn (cpn val rm' 0 32)) = u at a1 kA qA oA hkA hwA hvA
  obtain ⟨w, b1, b2, b3, b4, b5⟩ := e_keyed (to := kv) (len := 32) nd oA f1 f2 f3 n1 (by simp [m2, m3, m6, m7]) n3 n4 hkA qA hwA hvA (by omega) (by decide)
  rw [hmac_eq (r' := val) (fun i hi => by unfold cpn; rw [if_pos (by omega)]; rfl)] at b4
  refine ⟨w, _, ?_, b2, b3, (b5.2 km (by simp [m2, m3, m6, m7, m8])).trans qA, b4, KP.tr (kA.up (by simp)) (b5.up (by simp +contextual [or_imp, forall_and]))⟩
  unfold P_Rm_draw
  refine a1.trans ?_
  refine (os_ oA.1).trans ?_
  exact bs_ b1
end DR
