/-! the class's nonces: begin, the next one, one refused -/
theorem e_refuse {h : HP} {p kh s1 s2 s3 kk kv ks kp ki : Nat} {key val sd : Nat → Int8} (nd : [p, kh, s1, s2, s3, kk, kv, ks, kp, ki].Nodup) (N : NOo p kh s1 s2 s3 kk kv ks kp ki key val sd h) :
    ∃ h' key' val' sd', P_No_refuse h p = some h' ∧ NOo p kh s1 s2 s3 kk kv ks kp ki key' val' sd' h' ∧ sd' = va_up (va_cpy val sd 0 0 32) 32 0 ∧ key' = dgs key (hmac key sd' 33) 32 ∧ val' = dgs val (hmac key' val 32) 32 ∧ KP [kh, s1, s2, s3, kk, kv, ks, kp, ki] h h' := by
  obtain ⟨h', key', val', sd', a1, a2, a3, a4, a5, a6⟩ := e_renew (len := 33) (tag := 0) nd (by decide) N
  refine ⟨h', key', val', sd', ?_, a2, a3, a4, a5, a6⟩
  unfold P_No_refuse
  refine (os_ N.1).trans ?_
  exact bs_ a1
theorem e_writeNext {h : HP} {p kh s1 s2 s3 kk kv ks kp ki to tn : Nat} {key val sd tf : Nat → Int8} (nd : [p, kh, s1, s2, s3, kk, kv, ks, kp, ki].Nodup) (N : NOo p kh s1 s2 s3 kk kv ks kp ki key val sd h) (hto : to ∉ [p, kh, s1, s2, s3, kk, kv, ks, kp, ki]) (ht : h[to]? = some (pB tn tf)) (h32 : 32 ≤ tn) (ht31 : tn < 2 ^ 31) :
    ∃ h', P_No_writeNext h p to = some h' ∧ NOo p kh s1 s2 s3 kk kv ks kp ki key (dgs val (hmac key val 32) 32) sd h' ∧ h'[to]? = some (pB tn (va_cpy (dgs val (hmac key val 32) 32) tf 0 0 32)) ∧ KP [kh, s1, s2, s3, kv, kp, ki, to] h h' := by
  obtain ⟨hp, ho, hk, hv, hs0, ⟨g, hg⟩, ⟨i, hi⟩⟩ := N
  simp only [List.nodup_cons, List.mem_cons, List.not_mem_nil, or_false, not_or, List.nodup_nil, not_false_eq_true, and_true] at nd
  obtain ⟨⟨a1, a2, a3, a4, a5, a6, a7, a8, a9⟩, ⟨b1, b2, b3, b4, b5, b6, b7, b8⟩, ⟨c1, c2, c3, c4, c5, c6, c7⟩, ⟨d1, d2, d3, d4, d5, d6⟩, ⟨e1, e2, e3, e4, e5⟩, ⟨f1, f2, f3, f4⟩, ⟨g1, g2, g3⟩, ⟨j1, j2⟩, k1⟩ := nd
  simp only [List.mem_cons, List.not_mem_nil, or_false, not_or] at hto
  obtain ⟨t0, t1, t2, t3, t4, t5, t6, t7, t8, t9⟩ := hto
  have ap : AP4 kh s1 s2 s3 := ⟨Ne.symm b1, Ne.symm b2, Ne.symm b3, d1, Ne.symm c1, c2⟩
  obtain ⟨w, n1, n2, n3, n4, n5, n6⟩ := e_mac (row := kv) (to := kv) (len := 32) ap ho hp (by simp [a1, a2, a3, a4, a8, a9]) (by simp [Ne.symm b4, Ne.symm c3, Ne.symm d2, Ne.symm e1, f3, f4]) (by simp [Ne.symm b5, Ne.symm c4, Ne.symm d3, Ne.symm e2, g2]) (by simp [Ne.symm b5, Ne.symm c4, Ne.symm d3, Ne.symm e2, g2, g3]) (by simp [Ne.symm b7, Ne.symm c6, Ne.symm d5, Ne.symm e4, k1]) (by simp [Ne.symm b8, Ne.symm c7, Ne.symm d6, Ne.symm e5]) hk hg hi hv (by decide) (by decide) hv (by decide) (by decide)
  have hpw : w[p]? = _ := (n6.2 p (by simp [a1, a2, a3, a4, a8, a9, a6])).trans hp
  have hkw : w[kk]? = _ := (n6.2 kk (by simp [Ne.symm b4, Ne.symm c3, Ne.symm d2, Ne.symm e1, f3, f4, f1])).trans hk
  have hsw : w[ks]? = _ := (n6.2 ks (by simp [Ne.symm b6, Ne.symm c5, Ne.symm d4, Ne.symm e3, j1, j2, Ne.symm g1])).trans hs0
  have htw : w[to]? = _ := (n6.2 to (by simp [t1, t2, t3, t4, t8, t9, t6])).trans ht
  obtain ⟨g', n3⟩ := n3
  obtain ⟨i', n4⟩ := n4
  have kt : KP [to] w (w.set to (pB tn (va_cpy (dgs val (hmac key val 32) 32) tf 0 0 32))) := KP.st (by simp)
  refine ⟨w.set to (pB tn (va_cpy (dgs val (hmac key val 32) 32) tf 0 0 32)), ?_, ⟨hn_ t0 hpw, n2.kp kt ⟨by simp [Ne.symm t1], by simp [Ne.symm t2], by simp [Ne.symm t3], by simp [Ne.symm t4]⟩, hn_ t5 hkw, hn_ t6 n5, hn_ t7 hsw, ⟨g', hn_ t8 n3⟩, ⟨i', hn_ t9 n4⟩⟩, hs_ htw, KP.tr (n6.up (by simp +contextual [or_imp, forall_and])) (kt.up (by simp))⟩
  unfold P_No_writeNext
  refine (bs_ (gR_at hp rfl)).trans ?_
  refine (bs_ (gR_at hp rfl)).trans ?_
  refine (os_ hp).trans ?_
  refine (bs_ n1).trans ?_
  refine (bs_ (gR_at hpw rfl)).trans ?_
  exact bs_ (cpB_at 0 0 32 n5 htw rfl rfl rfl (by decide) (by omega) (by decide) ht31)
