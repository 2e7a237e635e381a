/-! HMAC of the class -/
def pdk (key : Nat → Int8) (mask : Int32) (i : Nat) : Int8 := if i < 32 then ((key i).toInt32 ^^^ mask).toInt8 else mask.toInt8
/-- the stream of a pad and a row behind it -/
def st1 (key : Nat → Int8) (mask : Int32) (row : Nat → Int8) (i : Nat) : Int8 := if i < 64 then pdk key mask i else row (i - 64)
def hm1 (key row : Nat → Int8) (len : Nat) : Nat → Int32 := hs (XP (st1 key 54 row) (64 + len)) ((64 + len + 72) / 64)
def hmac (key row : Nat → Int8) (len : Nat) : Nat → Int32 := hs (XP (st1 key 92 (dgs (fun _ => 0) (hm1 key row len) 32)) 96) ((96 + 72) / 64)
theorem SHo.kp {kh s1 s2 s3 : Nat} {S : List Nat} {h h' : HP} (o : SHo kh s1 s2 s3 h) (k : KP S h h') (n : kh ∉ S ∧ s1 ∉ S ∧ s2 ∉ S ∧ s3 ∉ S) : SHo kh s1 s2 s3 h' := by
  obtain ⟨u, t, s, w, b, h1, h2, h3, h4⟩ := o
  exact ⟨u, t, s, w, b, (k.2 _ n.1).trans h1, (k.2 _ n.2.1).trans h2, (k.2 _ n.2.2.1).trans h3, (k.2 _ n.2.2.2).trans h4⟩
theorem pdx_k {key g : Nat → Int8} {mask : Int32} {i : Nat} (hi : i < 64) : pdx key (fil g 64 mask.toInt8) mask 32 i = pdk key mask i := by
  unfold pdx pdk
  by_cases z : i < 32
  · rw [if_pos z, if_pos z]
  · rw [if_neg z, if_neg z]; unfold fil; rw [if_pos hi]
theorem e_mac {h : HP} {p kh s1 s2 s3 kk kv ks kp ki row to : Nat} (ap : AP4 kh s1 s2 s3) (ho : SHo kh s1 s2 s3 h) (hp : h[p]? = some (pO 2 [.ref kh, .ref kk, .ref kv, .ref ks, .ref kp, .ref ki])) (n1 : p ∉ [kh, s1, s2, s3, kp, ki]) (n2 : kk ∉ [kh, s1, s2, s3, kp, ki]) (n3 : row ∉ [kh, s1, s2, s3, kp]) (n4 : to ∉ [kh, s1, s2, s3, kp, ki]) (n5 : kp ∉ [kh, s1, s2, s3, ki]) (n6 : ki ∉ [kh, s1, s2, s3])
    {key g inf rf tf : Nat → Int8} {rn tn len : Nat} (hk : h[kk]? = some (pB 32 key)) (hg : h[kp]? = some (pB 64 g)) (hi : h[ki]? = some (pB 32 inf)) (hr : h[row]? = some (pB rn rf)) (hlen : len ≤ rn) (hl : len < 60000) (ht : h[to]? = some (pB tn tf)) (h32 : 32 ≤ tn) (ht31 : tn < 2 ^ 31) :
    ∃ h', P_No_mac h p row (nI len) to = some h' ∧ SHo kh s1 s2 s3 h' ∧ (∃ g', h'[kp]? = some (pB 64 g')) ∧ (∃ i', h'[ki]? = some (pB 32 i')) ∧ h'[to]? = some (pB tn (dgs tf (hmac key rf len) 32)) ∧ KP [kh, s1, s2, s3, kp, ki, to] h h' := by
  simp only [List.mem_cons, List.not_mem_nil, or_false, not_or] at n1 n2 n3 n4 n5 n6
  obtain ⟨p1, p2, p3, p4, p5, p6⟩ := n1
  obtain ⟨c1, c2, c3, c4, c5, c6⟩ := n2
  obtain ⟨r1, r2, r3, r4, r5⟩ := n3
  obtain ⟨t1, t2, t3, t4, t5, t6⟩ := n4
  obtain ⟨d1, d2, d3, d4, d5⟩ := n5
  obtain ⟨i1, i2, i3, i4⟩ := n6
  -- the first pad
  have a1 := e_fillPad (mask := 54) (fs := [.ref kh, .ref kk, .ref kv, .ref ks, .ref kp, .ref ki]) rfl rfl (Ne.symm p5) (Ne.symm c5) hp hk hg
  have ka : KP [kp] h (h.set kp (pB 64 (pdx key (fil g 64 (54 : Int32).toInt8) 54 32))) := KP.st (by simp)
  have qa : (h.set kp (pB 64 (pdx key (fil g 64 (54 : Int32).toInt8) 54 32)))[kp]? = some (pB 64 (pdx key (fil g 64 (54 : Int32).toInt8) 54 32)) := hs_ hg
  have oa := ho.kp ka ⟨by simp [Ne.symm d1], by simp [Ne.symm d2], by simp [Ne.symm d3], by simp [Ne.symm d4]⟩
  generalize h.set kp (pB 64 (pdx key (fil g 64 (54 : Int32).toInt8) 54 32)) = g1 at a1 ka qa oa
  have keep : ∀ {x y : HP} {j : Nat} {c : Option PE}, KP [kh, s1, s2, s3] x y → j ≠ kh → j ≠ s1 → j ≠ s2 → j ≠ s3 → x[j]? = c → y[j]? = c := fun k b1 b2 b3 b4 e => (k.2 _ (by simp [b1, b2, b3, b4])).trans e
  have hp1 : g1[p]? = _ := (ka.2 p (by simp [p5])).trans hp
  have hk1 : g1[kk]? = _ := (ka.2 kk (by simp [c5])).trans hk
  have hi1 : g1[ki]? = _ := (ka.2 ki (by simp [Ne.symm d5])).trans hi
  have hr1 : g1[row]? = _ := (ka.2 row (by simp [r5])).trans hr
  have ht1 : g1[to]? = _ := (ka.2 to (by simp [t5])).trans ht
  -- the first hash
  obtain ⟨g2, b1, b2, b3⟩ := e_begin ap oa (st1 key 54 rf)
  obtain ⟨g3, e1, e2, e3⟩ := e_take (row := kp) (len := 64) (m := 0) ap (by simp [d1, d2, d3, d4]) (by decide) (by decide) (by decide) b2 (keep b3 d1 d2 d3 d4 qa) (fun q hq => by
    rw [pdx_k hq, Nat.zero_add]; unfold st1; rw [if_pos hq])
  rw [Nat.zero_add] at e2
  obtain ⟨g4, f1, f2, f3⟩ := e_take (row := row) (len := len) (m := 64) ap (by simp [r1, r2, r3, r4]) hlen (by omega) (by decide) e2 (keep e3 r1 r2 r3 r4 (keep b3 r1 r2 r3 r4 hr1)) (fun q hq => by
    unfold st1; rw [if_neg (by omega)]; congr 1; omega)
  have hi4 := keep f3 i1 i2 i3 i4 (keep e3 i1 i2 i3 i4 (keep b3 i1 i2 i3 i4 hi1))
  obtain ⟨g5, m1, m2, m3, m4⟩ := e_finish (to := ki) ap f2 (by simp [i1, i2, i3, i4]) (by decide) (by decide) hi4
  have keep5 : ∀ {j : Nat} {c : Option PE}, j ≠ kh → j ≠ s1 → j ≠ s2 → j ≠ s3 → j ≠ ki → g1[j]? = c → g5[j]? = c := fun b1' b2' b3' b4' b5' e => (m4.2 _ (by simp [b1', b2', b3', b4', b5'])).trans (keep f3 b1' b2' b3' b4' (keep e3 b1' b2' b3' b4' (keep b3 b1' b2' b3' b4' e)))
  have hp5 := keep5 p1 p2 p3 p4 p6 hp1
  have hk5 := keep5 c1 c2 c3 c4 c6 hk1
  have hg5 := keep5 d1 d2 d3 d4 d5 qa
  have ht5 := keep5 t1 t2 t3 t4 t6 ht1
  have kp5 : KP [kh, s1, s2, s3, kp, ki, to] h g5 := KP.tr (ka.up (by simp)) (KP.tr (b3.up (by simp)) (KP.tr (e3.up (by simp)) (KP.tr (f3.up (by simp)) (m4.up (by simp)))))
  -- the second pad
  have a6 := e_fillPad (mask := 92) (fs := [.ref kh, .ref kk, .ref kv, .ref ks, .ref kp, .ref ki]) rfl rfl (Ne.symm p5) (Ne.symm c5) hp5 hk5 hg5
  generalize pdx key (fil g 64 (54 : Int32).toInt8) 54 32 = gg at a6 hg5 qa
  have k6 : KP [kp] g5 (g5.set kp (pB 64 (pdx key (fil gg 64 (92 : Int32).toInt8) 92 32))) := KP.st (by simp)
  have q6 : (g5.set kp (pB 64 (pdx key (fil gg 64 (92 : Int32).toInt8) 92 32)))[kp]? = some (pB 64 (pdx key (fil gg 64 (92 : Int32).toInt8) 92 32)) := hs_ hg5
  have o6 := m2.kp k6 ⟨by simp [Ne.symm d1], by simp [Ne.symm d2], by simp [Ne.symm d3], by simp [Ne.symm d4]⟩
  generalize g5.set kp (pB 64 (pdx key (fil gg 64 (92 : Int32).toInt8) 92 32)) = g6 at a6 k6 q6 o6
  have hp6 : g6[p]? = _ := (k6.2 p (by simp [p5])).trans hp5
  have hi6 : g6[ki]? = _ := (k6.2 ki (by simp [Ne.symm d5])).trans m3
  have ht6 : g6[to]? = _ := (k6.2 to (by simp [t5])).trans ht5
  obtain ⟨g7, u1, u2, u3⟩ := e_begin ap o6 (st1 key 92 (dgs (fun _ => 0) (hm1 key rf len) 32))
  obtain ⟨g8, v1, v2, v3⟩ := e_take (row := kp) (len := 64) (m := 0) ap (by simp [d1, d2, d3, d4]) (by decide) (by decide) (by decide) u2 (keep u3 d1 d2 d3 d4 q6) (fun q hq => by
    rw [pdx_k hq, Nat.zero_add]; unfold st1; rw [if_pos hq])
  rw [Nat.zero_add] at v2
  obtain ⟨g9, w1, w2, w3⟩ := e_take (row := ki) (len := 32) (m := 64) ap (by simp [i1, i2, i3, i4]) (by decide) (by decide) (by decide) v2 (keep v3 i1 i2 i3 i4 (keep u3 i1 i2 i3 i4 hi6)) (fun q hq => by
    rw [outS_dgs _ _ 8 (by decide)]
    unfold st1
    rw [if_neg (by omega), show 64 + q - 64 = q by omega]
    unfold dgs
    rw [if_pos (by omega), if_pos (by omega)]
    rfl)
  obtain ⟨g10, x1, x2, x3, x4⟩ := e_finish (to := to) ap w2 (by simp [t1, t2, t3, t4]) h32 ht31 (keep w3 t1 t2 t3 t4 (keep v3 t1 t2 t3 t4 (keep u3 t1 t2 t3 t4 ht6)))
  rw [outS_dgs _ _ 8 (by decide)] at x3
  have kp10 : KP [kh, s1, s2, s3, kp, ki, to] g5 g10 := KP.tr (k6.up (by simp)) (KP.tr (u3.up (by simp)) (KP.tr (v3.up (by simp)) (KP.tr (w3.up (by simp)) (x4.up (by simp)))))
  refine ⟨g10, ?_, x2, ⟨_, (x4.2 kp (by simp [d1, d2, d3, d4, Ne.symm t5])).trans (keep w3 d1 d2 d3 d4 (keep v3 d1 d2 d3 d4 (keep u3 d1 d2 d3 d4 q6)))⟩, ⟨_, (x4.2 ki (by simp [i1, i2, i3, i4, Ne.symm t6])).trans (keep w3 i1 i2 i3 i4 (keep v3 i1 i2 i3 i4 (keep u3 i1 i2 i3 i4 hi6)))⟩, x3, KP.tr kp5 kp10⟩
  have hp2 := keep b3 p1 p2 p3 p4 hp1
  have hp3 := keep e3 p1 p2 p3 p4 hp2
  have hp4 := keep f3 p1 p2 p3 p4 hp3
  have hp7 := keep u3 p1 p2 p3 p4 hp6
  have hp8 := keep v3 p1 p2 p3 p4 hp7
  have hp9 := keep w3 p1 p2 p3 p4 hp8
  obtain ⟨_, _, _, _, _, o1', -⟩ := oa
  obtain ⟨_, _, _, _, _, o2', -⟩ := b2.o
  obtain ⟨_, _, _, _, _, o3', -⟩ := e2.o
  obtain ⟨_, _, _, _, _, o4', -⟩ := f2.o
  obtain ⟨_, _, _, _, _, o6', -⟩ := o6
  obtain ⟨_, _, _, _, _, o7', -⟩ := u2.o
  obtain ⟨_, _, _, _, _, o8', -⟩ := v2.o
  obtain ⟨_, _, _, _, _, o9', -⟩ := w2.o
  unfold P_No_mac
  refine (os_ hp).trans ?_
  refine (bs_ a1).trans ?_
  refine (bs_ (gR_at hp1 rfl)).trans ?_
  refine (os_ o1').trans ?_
  refine (bs_ b1).trans ?_
  refine (bs_ (gR_at hp2 rfl)).trans ?_
  refine (bs_ (gR_at hp2 rfl)).trans ?_
  refine (os_ o2').trans ?_
  refine (bs_ e1).trans ?_
  refine (bs_ (gR_at hp3 rfl)).trans ?_
  refine (os_ o3').trans ?_
  refine (bs_ f1).trans ?_
  refine (bs_ (gR_at hp4 rfl)).trans ?_
  refine (bs_ (gR_at hp4 rfl)).trans ?_
  refine (os_ o4').trans ?_
  refine (bs_ m1).trans ?_
  refine (os_ hp5).trans ?_
  refine (bs_ a6).trans ?_
  refine (bs_ (gR_at hp6 rfl)).trans ?_
  refine (os_ o6').trans ?_
  refine (bs_ u1).trans ?_
  refine (bs_ (gR_at hp7 rfl)).trans ?_
  refine (bs_ (gR_at hp7 rfl)).trans ?_
  refine (os_ o7').trans ?_
  refine (bs_ v1).trans ?_
  refine (bs_ (gR_at hp8 rfl)).trans ?_
  refine (bs_ (gR_at hp8 rfl)).trans ?_
  refine (os_ o8').trans ?_
  refine (bs_ w1).trans ?_
  refine (bs_ (gR_at hp9 rfl)).trans ?_
  refine (os_ o9').trans ?_
  exact bs_ x1
