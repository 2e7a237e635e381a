/-! bytes copied; the class's nonces renewed -/
theorem cpB_at {h : HP} {a b n0 n1 : Nat} {f g : Nat → Int8} {x y z : Int32} (sp dp n : Nat) (ha : h[a]? = some (pB n0 f)) (hb : h[b]? = some (pB n1 g)) (hx : x = nI sp) (hy : y = nI dp) (hz : z = nI n) (h0 : sp + n ≤ n0) (h1 : dp + n ≤ n1) (hn0 : n0 < 2 ^ 31) (hn1 : n1 < 2 ^ 31) : cpB h a x b y z = some (h.set b (pB n1 (va_cpy f g sp dp n))) := by
  unfold cpB
  rw [ha, hb, hx, hy, hz]
  show (if _ then none else _) = _
  rw [if_neg (by
    rintro (w | w | w | w | w)
    · exact nI_pos (by omega) w
    · exact nI_pos (by omega) w
    · exact nI_pos (by omega) w
    · rw [nI_clamp (by omega), nI_clamp (by omega)] at w; omega
    · rw [nI_clamp (by omega), nI_clamp (by omega)] at w; omega), nI_clamp (by omega), nI_clamp (by omega), nI_clamp (by omega)]
/-- a Nonces object: its key, its value, its seed -/
def NOo (p kh s1 s2 s3 kk kv ks kp ki : Nat) (key val sd : Nat → Int8) (h : HP) : Prop := h[p]? = some (pO 2 [.ref kh, .ref kk, .ref kv, .ref ks, .ref kp, .ref ki]) ∧ SHo kh s1 s2 s3 h ∧ h[kk]? = some (pB 32 key) ∧ h[kv]? = some (pB 32 val) ∧ h[ks]? = some (pB 97 sd) ∧ (∃ g, h[kp]? = some (pB 64 g)) ∧ (∃ i, h[ki]? = some (pB 32 i))
theorem e_renew {h : HP} {p kh s1 s2 s3 kk kv ks kp ki len : Nat} {key val sd : Nat → Int8} {tag : Int32} (nd : [p, kh, s1, s2, s3, kk, kv, ks, kp, ki].Nodup) (hl : len ≤ 97) (N : NOo p kh s1 s2 s3 kk kv ks kp ki key val sd h) :
    ∃ h' key' val' sd', P_No_renew h p tag (nI len) = some h' ∧ NOo p kh s1 s2 s3 kk kv ks kp ki key' val' sd' h' ∧ sd' = va_up (va_cpy val sd 0 0 32) 32 tag.toInt8 ∧ key' = dgs key (hmac key sd' len) 32 ∧ val' = dgs val (hmac key' val 32) 32 ∧ KP [kh, s1, s2, s3, kk, kv, ks, kp, ki] h h' := by
  obtain ⟨hp, ho, hk, hv, hs0, ⟨g, hg⟩, ⟨i, hi⟩⟩ := N
  simp only [List.nodup_cons, List.mem_cons, List.not_mem_nil, or_false, not_or, List.nodup_nil, not_false_eq_true, and_true] at nd
  obtain ⟨⟨a1, a2, a3, a4, a5, a6, a7, a8, a9⟩, ⟨b1, b2, b3, b4, b5, b6, b7, b8⟩, ⟨c1, c2, c3, c4, c5, c6, c7⟩, ⟨d1, d2, d3, d4, d5, d6⟩, ⟨e1, e2, e3, e4, e5⟩, ⟨f1, f2, f3, f4⟩, ⟨g1, g2, g3⟩, ⟨j1, j2⟩, k1⟩ := nd
  have ap : AP4 kh s1 s2 s3 := ⟨Ne.symm b1, Ne.symm b2, Ne.symm b3, d1, Ne.symm c1, c2⟩
  have q1 : P_No_renew h p tag (nI len) = bnd (P_No_mac (h.set ks (pB 97 (va_up (va_cpy val sd 0 0 32) 32 tag.toInt8))) p ks (nI len) kk) fun h8 => bnd (gR h8 p 2 2) fun k9 => bnd (gR h8 p 2 2) fun k10 => ob h8 p 2 (bnd (P_No_mac h8 p k9 32 k10) fun h11 => some h11) := by
    unfold P_No_renew
    refine (bs_ (gR_at hp rfl)).trans ?_
    refine (bs_ (gR_at hp rfl)).trans ?_
    refine (bs_ (cpB_at 0 0 32 hv hs0 rfl rfl rfl (by decide) (by decide) (by decide) (by decide))).trans ?_
    have hp1 := hn_ (d := pB 97 (va_cpy val sd 0 0 32)) (Ne.symm a7) hp
    refine (bs_ (gR_at hp1 rfl)).trans ?_
    refine (bs_ (tB_in 32 (hs_ hs0) rfl (by decide) (by decide))).trans ?_
    rw [hss]
    have hp2 := hn_ (d := pB 97 (va_up (va_cpy val sd 0 0 32) 32 tag.toInt8)) (Ne.symm a7) hp
    refine (bs_ (gR_at hp2 rfl)).trans ?_
    refine (bs_ (gR_at hp2 rfl)).trans ?_
    exact os_ hp2
  have ka : KP [ks] h (h.set ks (pB 97 (va_up (va_cpy val sd 0 0 32) 32 tag.toInt8))) := KP.st (by simp)
  have qs : (h.set ks (pB 97 (va_up (va_cpy val sd 0 0 32) 32 tag.toInt8)))[ks]? = some (pB 97 (va_up (va_cpy val sd 0 0 32) 32 tag.toInt8)) := hs_ hs0
  generalize hh : h.set ks (pB 97 (va_up (va_cpy val sd 0 0 32) 32 tag.toInt8)) = u at q1 ka qs
  have oa := ho.kp ka ⟨by simp [b6], by simp [c5], by simp [d4], by simp [e3]⟩
  have hpu : u[p]? = _ := (ka.2 p (by simp [a7])).trans hp
  have hku : u[kk]? = _ := (ka.2 kk (by simp [f2])).trans hk
  have hvu : u[kv]? = _ := (ka.2 kv (by simp [g1])).trans hv
  have hgu : u[kp]? = _ := (ka.2 kp (by simp [Ne.symm j1])).trans hg
  have hiu : u[ki]? = _ := (ka.2 ki (by simp [Ne.symm j2])).trans hi
  obtain ⟨v, m1, m2, ⟨gv, m3⟩, ⟨iv, m4⟩, m5, m6⟩ := e_mac (row := ks) (to := kk) ap oa hpu (by simp [a1, a2, a3, a4, a8, a9]) (by simp [Ne.symm b4, Ne.symm c3, Ne.symm d2, Ne.symm e1, f3, f4]) (by simp [Ne.symm b6, Ne.symm c5, Ne.symm d4, Ne.symm e3, j1]) (by simp [Ne.symm b4, Ne.symm c3, Ne.symm d2, Ne.symm e1, f3, f4]) (by simp [Ne.symm b7, Ne.symm c6, Ne.symm d5, Ne.symm e4, k1]) (by simp [Ne.symm b8, Ne.symm c7, Ne.symm d6, Ne.symm e5]) hku hgu hiu qs hl (by omega) hku (by decide) (by decide)
  have hpv : v[p]? = _ := (m6.2 p (by simp [a1, a2, a3, a4, a8, a9, a5])).trans hpu
  have hvv : v[kv]? = _ := (m6.2 kv (by simp [Ne.symm b5, Ne.symm c4, Ne.symm d3, Ne.symm e2, g2, g3, Ne.symm f1])).trans hvu
  have hsv : v[ks]? = _ := (m6.2 ks (by simp [Ne.symm b6, Ne.symm c5, Ne.symm d4, Ne.symm e3, j1, j2, Ne.symm f2])).trans qs
  obtain ⟨w, n1, n2, n3, n4, n5, n6⟩ := e_mac (row := kv) (to := kv) (len := 32) ap m2 hpv (by simp [a1, a2, a3, a4, a8, a9]) (by simp [Ne.symm b4, Ne.symm c3, Ne.symm d2, Ne.symm e1, f3, f4]) (by simp [Ne.symm b5, Ne.symm c4, Ne.symm d3, Ne.symm e2, g2]) (by simp [Ne.symm b5, Ne.symm c4, Ne.symm d3, Ne.symm e2, g2, g3]) (by simp [Ne.symm b7, Ne.symm c6, Ne.symm d5, Ne.symm e4, k1]) (by simp [Ne.symm b8, Ne.symm c7, Ne.symm d6, Ne.symm e5]) m5 m3 m4 hvv (by decide) (by decide) hvv (by decide) (by decide)
  refine ⟨w, _, _, _, ?_, ⟨(n6.2 p (by simp [a1, a2, a3, a4, a8, a9, a6])).trans hpv, n2, (n6.2 kk (by simp [Ne.symm b4, Ne.symm c3, Ne.symm d2, Ne.symm e1, f3, f4, f1])).trans m5, n5, (n6.2 ks (by simp [Ne.symm b6, Ne.symm c5, Ne.symm d4, Ne.symm e3, j1, j2, Ne.symm g1])).trans hsv, n3, n4⟩, rfl, rfl, rfl, KP.tr (ka.up (by simp)) (KP.tr (m6.up (by simp +contextual [or_imp, forall_and])) (n6.up (by simp +contextual [or_imp, forall_and])))⟩
  rw [q1, bs_ m1, bs_ (gR_at hpv rfl), bs_ (gR_at hpv rfl), os_ hpv]
  exact bs_ n1
