/-! the reference's HMAC is the class's -/
theorem XP_eq {X Y : Nat → Int8} {m : Nat} (h : ∀ i, i < m → X i = Y i) : XP X m = XP Y m := by
  funext i
  unfold XP
  by_cases z : i < m
  · rw [if_pos z, if_pos z]; exact h i z
  · rw [if_neg z, if_neg z]
/-- what the reference's hash needs -/
def RHo (q ks kd kr kt kh : Nat) (fs : List Value) (h : HP) : Prop := h[q]? = some (pO 8 fs) ∧ (fs[46]? = some (.ref ks) ∧ fs[45]? = some (.ref kd) ∧ fs[43]? = some (.ref kr) ∧ fs[44]? = some (.ref kt) ∧ fs[49]? = some (.ref kh)) ∧ (∃ s, h[ks]? = some (pI 8 s)) ∧ (∃ w, h[kd]? = some (pI 64 w)) ∧ (∃ rts, h[kr]? = some (pJ 80 rts) ∧ ∀ i, i < 64 → hi32 (rts i) = (stab 1).2 i) ∧ (∃ sts, h[kt]? = some (pJ 8 sts) ∧ ∀ i, i < 8 → hi32 (sts i) = (stab 0).2 i) ∧ ∃ f, h[kh]? = some (pB 32 f)
theorem RHo.kp {q ks kd kr kt kh : Nat} {fs : List Value} {S : List Nat} {h h' : HP} (o : RHo q ks kd kr kt kh fs h) (k : KP S h h') (n : ∀ j ∈ [q, ks, kd, kr, kt, kh], j ∉ S) : RHo q ks kd kr kt kh fs h' := by
  obtain ⟨h1, h2, ⟨s, h3⟩, ⟨w, h4⟩, ⟨r, h5, h6⟩, ⟨t, h7, h8⟩, ⟨f, h9⟩⟩ := o
  exact ⟨(k.2 _ (n q (by simp))).trans h1, h2, ⟨s, (k.2 _ (n ks (by simp))).trans h3⟩, ⟨w, (k.2 _ (n kd (by simp))).trans h4⟩, ⟨r, (k.2 _ (n kr (by simp))).trans h5, h6⟩, ⟨t, (k.2 _ (n kt (by simp))).trans h7, h8⟩, ⟨f, (k.2 _ (n kh (by simp))).trans h9⟩⟩
theorem e_hash2 {h : HP} {q ks kd kr kt kh row n rn : Nat} {fs : List Value} {X : Nat → Int8} (nd : [q, ks, kd, kr, kt, kh].Nodup) (o : RHo q ks kd kr kt kh fs h) (hrow : row ∉ [q, ks, kd, kr, kt, kh]) (hr : h[row]? = some (pB rn X)) (hn : n ≤ rn) (hn2 : n < 2 ^ 20) :
    ∃ h' f, P_Rm_hash h q row (nI n) = some h' ∧ RHo q ks kd kr kt kh fs h' ∧ h'[kh]? = some (pB 32 (dgs f (hs (XP X n) ((n + 72) / 64)) 32)) ∧ KP [ks, kd, kh] h h' := by
  obtain ⟨h1, ⟨f1, f2, f3, f4, f5⟩, ⟨s, h3⟩, ⟨w, h4⟩, ⟨r, h5, h6⟩, ⟨t, h7, h8⟩, ⟨f, h9⟩⟩ := o
  simp only [List.nodup_cons, List.mem_cons, List.not_mem_nil, or_false, not_or, List.nodup_nil, not_false_eq_true, and_true] at nd
  obtain ⟨⟨a1, a2, a3, a4, a5⟩, ⟨b1, b2, b3, b4⟩, ⟨c1, c2, c3⟩, ⟨d1, d2⟩, e1⟩ := nd
  simp only [List.mem_cons, List.not_mem_nil, or_false, not_or] at hrow
  obtain ⟨r1, r2, r3, r4, r5, r6⟩ := hrow
  obtain ⟨h', s', w', g1, g2, g3, g4, g5, g6⟩ := e_hash (q := q) (row := row) (n := n) f1 f2 f3 f5 f4 (Ne.symm a1) (Ne.symm a2) (Ne.symm b1) c1 (Ne.symm r3) b2 b3 (Ne.symm r2) (Ne.symm a5) (Ne.symm b4) (Ne.symm c3) h6 h8 hn hn2 h1 hr h3 h5 h7 h4 h9
  rw [dgs_eq g3] at g2
  refine ⟨h', f, g1, ⟨(g6.2 q (by simp [a2, a1, a5])).trans h1, ⟨f1, f2, f3, f4, f5⟩, ⟨s', g4⟩, ⟨w', g5⟩, ⟨r, (g6.2 kr (by simp [Ne.symm c1, Ne.symm b2, d2])).trans h5, h6⟩, ⟨t, (g6.2 kt (by simp [Ne.symm c2, Ne.symm b3, e1])).trans h7, h8⟩, ⟨_, g2⟩⟩, g2, g6.up (by simp +contextual [or_imp, forall_and])⟩
theorem e_keyed {h : HP} {q ks kd kr kt kh kw km kc to len mn : Nat} {fs : List Value} {key r g tf : Nat → Int8} (nd : [q, ks, kd, kr, kt, kh].Nodup) (o : RHo q ks kd kr kt kh fs h) (f1 : fs[36]? = some (.ref kw)) (f2 : fs[35]? = some (.ref km)) (f3 : fs[33]? = some (.ref kc)) (n1 : kw ∉ [q, ks, kd, kr, kt, kh]) (n2 : km ∉ [ks, kd, kh, kw]) (n3 : kc ∉ [ks, kd, kh, kw]) (n4 : to ∉ [q, ks, kd, kr, kt, kh, kw])
    (hk : h[kc]? = some (pB 32 key)) (hm : h[km]? = some (pB mn r)) (hw : h[kw]? = some (pB 65600 g)) (ht : h[to]? = some (pB 32 tf)) (hl : len ≤ mn) (hl2 : len ≤ 256) :
    ∃ h', P_Rm_keyed h q to (nI len) = some h' ∧ RHo q ks kd kr kt kh fs h' ∧ (∃ g', h'[kw]? = some (pB 65600 g')) ∧ h'[to]? = some (pB 32 (dgs tf (hmac key r len) 32)) ∧ KP [ks, kd, kh, kw, to] h h' := by
  have n10 := n1
  have n40 : to ∉ [q, ks, kd, kr, kt, kh] := fun z => n4 (by simp only [List.mem_cons, List.not_mem_nil, or_false] at z ⊢; omega)
  simp only [List.mem_cons, List.not_mem_nil, or_false, not_or] at n1 n2 n3 n4
  obtain ⟨w1, w2, w3, w4, w5, w6⟩ := n1
  obtain ⟨m1, m2, m3, m4⟩ := n2
  obtain ⟨c1, c2, c3, c4⟩ := n3
  obtain ⟨t1, t2, t3, t4, t5, t6, t7⟩ := n4
  -- the first stream laid down
  obtain ⟨K2, a1⟩ := ky1 (to := to) (len := nI len) f1 f3 w1 (Ne.symm c4) (key := key) (g := g) 64 0 FU h rfl (by decide) o.1 hk (by rw [hw]; congr 1)
  obtain ⟨K42, a2⟩ := ky2 (K2 := K2) (to := to) f1 f2 w1 (Ne.symm m4) (len := len) hl hl2 (r := r) (g := pdw key g 54 64) len 0 FU (h.set kw (pB 65600 (pdw key g 54 64))) rfl (show len < 70000 by omega) (hn_ w1 o.1) (hn_ (Ne.symm m4) hm) (by rw [cpn_0]; exact hs_ hw)
  rw [hss] at a2
  have kA : KP [kw] h (h.set kw (pB 65600 (cpn r (pdw key g 54 64) 64 len))) := KP.st (by simp)
  have qA : (h.set kw (pB 65600 (cpn r (pdw key g 54 64) 64 len)))[kw]? = some (pB 65600 (cpn r (pdw key g 54 64) 64 len)) := hs_ hw
  have oA := o.kp kA (by simp [Ne.symm w1, Ne.symm w2, Ne.symm w3, Ne.symm w4, Ne.symm w5, Ne.symm w6])
  generalize h.set kw (pB 65600 (cpn r (pdw key g 54 64) 64 len)) = u at a2 kA qA oA
  obtain ⟨v, fv, b1, b2, b3, b4⟩ := e_hash2 (n := 64 + len) nd oA n10 qA (by omega) (by omega)
  have hX : XP (cpn r (pdw key g 54 64) 64 len) (64 + len) = XP (st1 key 54 r) (64 + len) := XP_eq (fun i hi => by
    unfold cpn st1
    by_cases z : i < 64
    · rw [if_neg (by omega), if_pos z]; unfold pdw; rw [if_pos z]
    · rw [if_pos (by omega), if_neg z])
  rw [hX] at b3
  have b3 : v[kh]? = some (pB 32 (dgs fv (hm1 key r len) 32)) := b3
  have hkv : v[kc]? = _ := (b4.2 kc (by simp [c1, c2, c3])).trans ((kA.2 kc (by simp [c4])).trans hk)
  have hwv : v[kw]? = _ := (b4.2 kw (by simp [w2, w3, w6])).trans qA
  have htv : v[to]? = _ := (b4.2 to (by simp [t2, t3, t6])).trans ((kA.2 to (by simp [t7])).trans ht)
  -- the second
  obtain ⟨K82, d1⟩ := ky3 (K2 := K2) (K42 := K42) (to := to) f1 f3 w1 (Ne.symm c4) (key := key) (g := cpn r (pdw key g 54 64) 64 len) 64 0 FU v rfl (by decide) b2.1 hkv (by rw [hwv]; congr 1)
  generalize cpn r (pdw key g 54 64) 64 len = gg at d1 hwv
  obtain ⟨K122, d2⟩ := ky4 (K2 := K2) (K42 := K42) (K82 := K82) (to := to) f1 o.2.1.2.2.2.2 w1 w6 (r := dgs fv (hm1 key r len) 32) (g := pdw key gg 92 64) 32 0 FU (v.set kw (pB 65600 (pdw key gg 92 64))) rfl (by decide) (hn_ w1 b2.1) (hn_ w6 b3) (by rw [cpn_0]; exact hs_ hwv)
  rw [hss] at d2
  have kB : KP [kw] v (v.set kw (pB 65600 (cpn (dgs fv (hm1 key r len) 32) (pdw key gg 92 64) 64 32))) := KP.st (by simp)
  have qB : (v.set kw (pB 65600 (cpn (dgs fv (hm1 key r len) 32) (pdw key gg 92 64) 64 32)))[kw]? = some (pB 65600 (cpn (dgs fv (hm1 key r len) 32) (pdw key gg 92 64) 64 32)) := hs_ hwv
  have oB := b2.kp kB (by simp [Ne.symm w1, Ne.symm w2, Ne.symm w3, Ne.symm w4, Ne.symm w5, Ne.symm w6])
  generalize v.set kw (pB 65600 (cpn (dgs fv (hm1 key r len) 32) (pdw key gg 92 64) 64 32)) = x at d2 kB qB oB
  obtain ⟨y, fy, e1, e2, e3, e4⟩ := e_hash2 (n := 96) nd oB n10 qB (by decide) (by decide)
  have hY : XP (cpn (dgs fv (hm1 key r len) 32) (pdw key gg 92 64) 64 32) 96 = XP (st1 key 92 (dgs (fun _ => 0) (hm1 key r len) 32)) 96 := XP_eq (fun i hi => by
    unfold cpn st1
    by_cases z : i < 64
    · rw [if_neg (by omega), if_pos z]; unfold pdw; rw [if_pos z]
    · rw [if_pos (by omega), if_neg z]; unfold dgs; rw [if_pos (by omega), if_pos (by omega)])
  rw [hY] at e3
  have e3 : y[kh]? = some (pB 32 (dgs fy (hmac key r len) 32)) := e3
  have hty : y[to]? = _ := (e4.2 to (by simp [t2, t3, t6])).trans ((kB.2 to (by simp [t7])).trans htv)
  have hwy : y[kw]? = _ := (e4.2 kw (by simp [w2, w3, w6])).trans qB
  have l1 := ky5 (K2 := K2) (K42 := K42) (K82 := K82) (K122 := K122) (to := to) o.2.1.2.2.2.2 t1 t6 (tn := 32) (by decide) (r := dgs fy (hmac key r len) 32) (g := tf) 32 0 FU y rfl (by decide) e2.1 e3 (by rw [cpn_0]; exact hty)
  have hfin : cpn (dgs fy (hmac key r len) 32) tf 0 32 = dgs tf (hmac key r len) 32 := by
    funext i
    unfold cpn dgs
    by_cases z : i < 32
    · rw [if_pos (by omega), if_pos (by omega), if_pos z]; rfl
    · rw [if_neg (by omega), if_neg z]
  rw [hfin] at l1
  have kC : KP [to] y (y.set to (pB 32 (dgs tf (hmac key r len) 32))) := KP.st (by simp)
  refine ⟨_, ?_, e2.kp kC (by simp [Ne.symm t1, Ne.symm t2, Ne.symm t3, Ne.symm t4, Ne.symm t5, Ne.symm t6]), ⟨_, hn_ t7 hwy⟩, hs_ hty, KP.tr (kA.up (by simp)) (KP.tr (b4.up (by simp +contextual [or_imp, forall_and])) (KP.tr (kB.up (by simp)) (KP.tr (e4.up (by simp +contextual [or_imp, forall_and])) (kC.up (by simp)))))⟩
  unfold P_Rm_keyed
  refine a1.trans (a2.trans ?_)
  refine (os_ oA.1).trans ?_
  refine (bs_ b1).trans ?_
  refine d1.trans (d2.trans ?_)
  refine (os_ oB.1).trans ?_
  refine (bs_ e1).trans ?_
  exact l1
