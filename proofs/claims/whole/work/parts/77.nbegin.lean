/-! the class's nonces begun -/
theorem e_nbegin {h : HP} {p kh s1 s2 s3 kk kv ks kp ki r1 r2 n1 n2 : Nat} {key val sd f1 f2 : Nat → Int8} (nd : [p, kh, s1, s2, s3, kk, kv, ks, kp, ki].Nodup) (N : NOo p kh s1 s2 s3 kk kv ks kp ki key val sd h) (h1 : r1 ∉ [kk, kv, ks]) (h2 : r2 ∉ [kk, kv, ks]) (q1 : h[r1]? = some (pB n1 f1)) (q2 : h[r2]? = some (pB n2 f2)) (m1 : 32 ≤ n1) (m2 : 32 ≤ n2) (l1 : n1 < 2 ^ 31) (l2 : n2 < 2 ^ 31) :
    ∃ h' keyA valA sdA keyB valB sdB, P_No_begin h p r1 r2 = some h' ∧ NOo p kh s1 s2 s3 kk kv ks kp ki keyB valB sdB h' ∧ sdA = va_up (va_cpy (fil val 32 1) (va_cpy f2 (va_cpy f1 sd 0 33 32) 0 65 32) 0 0 32) 32 0 ∧ keyA = dgs (fil key 32 0) (hmac (fil key 32 0) sdA 97) 32 ∧ valA = dgs (fil val 32 1) (hmac keyA (fil val 32 1) 32) 32 ∧ sdB = va_up (va_cpy valA sdA 0 0 32) 32 1 ∧ keyB = dgs keyA (hmac keyA sdB 97) 32 ∧ valB = dgs valA (hmac keyB valA 32) 32 ∧ KP [kh, s1, s2, s3, kk, kv, ks, kp, ki] h h' := by
  have nd0 := nd
  obtain ⟨hp, ho, hk, hv, hs0, ⟨g, hg⟩, ⟨i, hi⟩⟩ := N
  simp only [List.nodup_cons, List.mem_cons, List.not_mem_nil, or_false, not_or, List.nodup_nil, not_false_eq_true, and_true] at nd
  obtain ⟨⟨a1, a2, a3, a4, a5, a6, a7, a8, a9⟩, ⟨b1, b2, b3, b4, b5, b6, b7, b8⟩, ⟨c1, c2, c3, c4, c5, c6, c7⟩, ⟨d1, d2, d3, d4, d5, d6⟩, ⟨e1, e2, e3, e4, e5⟩, ⟨x1, x2, x3, x4⟩, ⟨g1, g2, g3⟩, ⟨j1, j2⟩, k1⟩ := nd
  simp only [List.mem_cons, List.not_mem_nil, or_false, not_or] at h1 h2
  have kq : KP [kk, kv, ks] h (((h.set kv (pB 32 (fil val 32 1))).set kk (pB 32 (fil key 32 0))).set ks (pB 97 (va_cpy f2 (va_cpy f1 sd 0 33 32) 0 65 32))) := KP.tr (KP.tr (KP.st (by simp)) (KP.st (by simp))) (KP.st (by simp))
  have w1 : (((h.set kv (pB 32 (fil val 32 1))).set kk (pB 32 (fil key 32 0))).set ks (pB 97 (va_cpy f2 (va_cpy f1 sd 0 33 32) 0 65 32)))[kk]? = some (pB 32 (fil key 32 0)) := hn_ (Ne.symm x2) (hs_ (hn_ (Ne.symm x1) hk))
  have w2 : (((h.set kv (pB 32 (fil val 32 1))).set kk (pB 32 (fil key 32 0))).set ks (pB 97 (va_cpy f2 (va_cpy f1 sd 0 33 32) 0 65 32)))[kv]? = some (pB 32 (fil val 32 1)) := hn_ (Ne.symm g1) (hn_ x1 (hs_ hv))
  have w3 : (((h.set kv (pB 32 (fil val 32 1))).set kk (pB 32 (fil key 32 0))).set ks (pB 97 (va_cpy f2 (va_cpy f1 sd 0 33 32) 0 65 32)))[ks]? = some (pB 97 (va_cpy f2 (va_cpy f1 sd 0 33 32) 0 65 32)) := hs_ (hn_ x2 (hn_ g1 hs0))
  have st : P_No_begin h p r1 r2 = ob (((h.set kv (pB 32 (fil val 32 1))).set kk (pB 32 (fil key 32 0))).set ks (pB 97 (va_cpy f2 (va_cpy f1 sd 0 33 32) 0 65 32))) p 2 (bnd (P_No_renew (((h.set kv (pB 32 (fil val 32 1))).set kk (pB 32 (fil key 32 0))).set ks (pB 97 (va_cpy f2 (va_cpy f1 sd 0 33 32) 0 65 32))) p 0 97) fun h9 => ob h9 p 2 (bnd (P_No_renew h9 p 1 97) fun h10 => some h10)) := by
    unfold P_No_begin
    refine (bs_ (gR_at hp rfl)).trans ?_
    refine (bs_ (e_fillB (by decide) hv)).trans ?_
    rw [show (1 : Int32).toInt8 = 1 by decide]
    have p1 := hn_ (d := pB 32 (fil val 32 1)) (Ne.symm a6) hp
    refine (bs_ (gR_at p1 rfl)).trans ?_
    refine (bs_ (e_fillB (by decide) (hn_ (Ne.symm x1) hk))).trans ?_
    rw [show (0 : Int32).toInt8 = 0 by decide]
    have p2 := hn_ (d := pB 32 (fil key 32 0)) (Ne.symm a5) p1
    refine (bs_ (gR_at p2 rfl)).trans ?_
    refine (bs_ (cpB_at 0 33 32 (hn_ (Ne.symm h1.1) (hn_ (Ne.symm h1.2.1) q1)) (hn_ x2 (hn_ g1 hs0)) rfl rfl rfl (by omega) (by decide) l1 (by decide))).trans ?_
    have p3 := hn_ (d := pB 97 (va_cpy f1 sd 0 33 32)) (Ne.symm a7) p2
    refine (bs_ (gR_at p3 rfl)).trans ?_
    refine (bs_ (cpB_at 0 65 32 (hn_ (Ne.symm h2.2.2) (hn_ (Ne.symm h2.1) (hn_ (Ne.symm h2.2.1) q2))) (hs_ (hn_ x2 (hn_ g1 hs0))) rfl rfl rfl (by omega) (by decide) l2 (by decide))).trans ?_
    rw [hss]
  generalize ((h.set kv (pB 32 (fil val 32 1))).set kk (pB 32 (fil key 32 0))).set ks (pB 97 (va_cpy f2 (va_cpy f1 sd 0 33 32) 0 65 32)) = u at kq w1 w2 w3 st
  have hpu : u[p]? = _ := (kq.2 p (by simp [a5, a6, a7])).trans hp
  have NU : NOo p kh s1 s2 s3 kk kv ks kp ki (fil key 32 0) (fil val 32 1) (va_cpy f2 (va_cpy f1 sd 0 33 32) 0 65 32) u := ⟨hpu, ho.kp kq ⟨by simp [b4, b5, b6], by simp [c3, c4, c5], by simp [d2, d3, d4], by simp [e1, e2, e3]⟩, w1, w2, w3, ⟨g, (kq.2 kp (by simp [Ne.symm x3, Ne.symm g2, Ne.symm j1])).trans hg⟩, ⟨i, (kq.2 ki (by simp [Ne.symm x4, Ne.symm g3, Ne.symm j2])).trans hi⟩⟩
  obtain ⟨v, keyA, valA, sdA, y1, y2, y3, y4, y5, y6⟩ := e_renew (len := 97) (tag := 0) nd0 (by decide) NU
  obtain ⟨w, keyB, valB, sdB, z1, z2, z3, z4, z5, z6⟩ := e_renew (len := 97) (tag := 1) nd0 (by decide) y2
  refine ⟨w, keyA, valA, sdA, keyB, valB, sdB, ?_, z2, y3, y4, y5, z3, z4, z5, KP.tr (kq.up (by simp +contextual [or_imp, forall_and])) (KP.tr y6 z6)⟩
  rw [st, os_ hpu]
  refine (bs_ y1).trans ?_
  refine (os_ y2.1).trans ?_
  exact bs_ z1
