/-! the signature written: the class and the reference -/
theorem dw_eq {g row row' : Nat → Int8} {a at' : Nat} (h : DWn g a at' row) (e : ∀ k, at' ≤ k → k < at' + 2 + dl g a → row' k = row k) : DWn g a at' row' := by
  obtain ⟨h1, h2, h3⟩ := h
  exact ⟨(e _ (by omega) (by omega)).trans h1, (e _ (by omega) (by omega)).trans h2, fun k hk => (e _ (by omega) (by omega)).trans (h3 k hk)⟩
theorem dl_le {g : Nat → Int8} {a : Nat} (h : LD g a) : 1 ≤ dl g a ∧ dl g a ≤ 33 := by
  have := h.1
  have := pd_le g a
  unfold dl
  omega
def DS (R S a b : Nat) (row : Nat → Int8) : Prop := row 0 = 48 ∧ row 1 = Int32.toInt8 (nI (4 + dl (btv R) a + dl (btv S) b)) ∧ DWn (btv R) a 2 row ∧ DWn (btv S) b (4 + dl (btv R) a) row
theorem ds_uq {R S a b : Nat} {row row' : Nat → Int8} (h : DS R S a b row) (h' : DS R S a b row') : ∀ k, k < 6 + dl (btv R) a + dl (btv S) b → row k = row' k := by
  obtain ⟨h1, h2, ⟨h3, h4, h5⟩, h6, h7, h8⟩ := h
  obtain ⟨k1, k2, ⟨k3, k4, k5⟩, k6, k7, k8⟩ := h'
  intro k hk
  by_cases c0 : k = 0
  · rw [c0, h1, k1]
  by_cases c1 : k = 1
  · rw [c1, h2, k2]
  by_cases c2 : k = 2
  · rw [c2, h3, k3]
  by_cases c3 : k = 2 + 1
  · rw [c3, h4, k4]
  by_cases c4 : k < 4 + dl (btv R) a
  · have a1 := h5 (k - 4) (by omega)
    have a2 := k5 (k - 4) (by omega)
    rw [show 2 + 2 + (k - 4) = k by omega] at a1 a2
    rw [a1, a2]
  by_cases c5 : k = 4 + dl (btv R) a
  · rw [c5, h6, k6]
  by_cases c6 : k = 4 + dl (btv R) a + 1
  · rw [c6, h7, k7]
  have a1 := h8 (k - (6 + dl (btv R) a)) (by omega)
  have a2 := k8 (k - (6 + dl (btv R) a)) (by omega)
  rw [show 4 + dl (btv R) a + 2 + (k - (6 + dl (btv R) a)) = k by omega] at a1 a2
  rw [a1, a2]
theorem u_write {h : HP} {fr fs res : Nat → Int8} {R S : Nat} (G : SN1 fr fs h) (f1 : fr 0 = 0 ∧ ∀ k, k < 32 → fr (1 + k) = btv R k) (f2 : fs 0 = 0 ∧ ∀ k, k < 32 → fs (1 + k) = btv S k) (hr : h[104]? = some (pB 72 res)) :
    ∃ a b res', LD (btv R) a ∧ LD (btv S) b ∧ P_Sg_write h 295 104 = some (nI (6 + dl (btv R) a + dl (btv S) b), h.set 104 (pB 72 res')) ∧ DS R S a b res' := by
  obtain ⟨a, row1, a1, a2, a3, a4⟩ := e_writeNumber (p := 295) (kt := 104) (at' := 2) (g := btv R) G.2.1 hr (by decide) f1.1 f1.2 (by decide) (by decide)
  have al := dl_le a1
  have hG : SNo 295 (h.set 104 (pB 72 row1)) := hn_ (by decide) G.1
  obtain ⟨b, row2, b1, b2, b3, b4⟩ := e_writeNumber (h := h.set 104 (pB 72 row1)) (p := 295) (kt := 104) (at' := 4 + dl (btv R) a) (g := btv S) (hn_ (by decide) G.2.2) (hs_ hr) (by decide) f2.1 f2.2 (by omega) (by decide)
  have bl := dl_le b1
  rw [hss] at b2
  have e2 : nI (2 + 2 + dl (btv R) a) = nI (4 + dl (btv R) a) := by rw [show 2 + 2 + dl (btv R) a = 4 + dl (btv R) a by omega]
  have e6 : nI (4 + dl (btv R) a + 2 + dl (btv S) b) = nI (6 + dl (btv R) a + dl (btv S) b) := by rw [show 4 + dl (btv R) a + 2 + dl (btv S) b = 6 + dl (btv R) a + dl (btv S) b by omega]
  have e4 : nI (6 + dl (btv R) a + dl (btv S) b) - 2 = nI (4 + dl (btv R) a + dl (btv S) b) := by
    rw [show (2 : Int32) = nI 2 from rfl, pk_sub (by omega), show 6 + dl (btv R) a + dl (btv S) b - 2 = 4 + dl (btv R) a + dl (btv S) b by omega]
  rw [e2] at a2
  rw [e6] at b2
  have p1 : stB (h.set 104 (pB 72 row2)) 104 0 48 = some ((h.set 104 (pB 72 row2)).set 104 (pB 72 (va_up row2 0 48))) := tB_in 0 (hs_ hr) rfl (by decide) (by decide)
  rw [hss] at p1
  have p2 : stB (h.set 104 (pB 72 (va_up row2 0 48))) 104 1 ((Int32.toInt8 (nI (4 + dl (btv R) a + dl (btv S) b))).toInt32) = some (h.set 104 (pB 72 (va_up (va_up row2 0 48) 1 (Int32.toInt8 (nI (4 + dl (btv R) a + dl (btv S) b)))))) := by
    have := tB_in (x := (Int32.toInt8 (nI (4 + dl (btv R) a + dl (btv S) b))).toInt32) 1 (hs_ (d := pB 72 (va_up row2 0 48)) hr) rfl (by decide) (by decide)
    rw [hss, i8_r] at this
    exact this
  refine ⟨a, b, va_up (va_up row2 0 48) 1 (Int32.toInt8 (nI (4 + dl (btv R) a + dl (btv S) b))), a1, b1, ?_, ?_, ?_, ?_, ?_⟩
  · unfold P_Sg_write
    rw [bs_ (gR_at G.1 rfl), os_ G.1, show P_Sg_writeNumber h 295 (295 + 1) 104 2 = _ from a2, bs2 rfl, bs_ (gR_at hG rfl), os_ hG, show P_Sg_writeNumber (h.set 104 (pB 72 row1)) 295 (295 + 2) 104 (nI (4 + dl (btv R) a)) = _ from b2, bs2 rfl, bs_ p1, e4, bs_ p2]
  · rw [up_n (by decide), up_s]
  · rw [up_s]
  · exact dw_eq a3 (fun k h1 h2 => by rw [up_n (by omega), up_n (by omega), b4 k (by omega)])
  · exact dw_eq b3 (fun k h1 h2 => by rw [up_n (by omega), up_n (by omega)])
section WRR
variable {q : Nat} {th ta me re kc : Int32}
theorem r_133 {K25 : HP → Nat → Int32 → Int32 → Option (Int32 × HP)} {K73 : HP → Nat → Int32 → Int32 → Int32 → Option (Int32 × HP)} {pn qn : Int32} {h : HP} {E : Nat → Nat} {R S : Nat} {res w : Nat → Int8} {cnt : Nat → Int32} (Q : RQ q th ta me re kc pn qn h E) (hR : E 23 = R) (hS : E 24 = S) (hr : h[q + 3]? = some (pB 80 res)) (hw : h[q + 30]? = some (pB 65600 w)) (hc : h[q + 5]? = some (pI 6 cnt)) :
    ∃ h' a b res', LD (btv R) a ∧ LD (btv S) b ∧ B_Rm_sign_133 K25 K73 h q = some (nI (6 + dl (btv R) a + dl (btv S) b), h') ∧ RQ q th ta me (nI (6 + dl (btv R) a + dl (btv S) b)) kc pn qn h' E ∧ h'[q + 3]? = some (pB 80 res') ∧ (∃ w', h'[q + 30]? = some (pB 65600 w')) ∧ h'[q + 5]? = some (pI 6 (va_up cnt 0 (cnt 0 + 1))) ∧ KP [q, q + 3, q + 5, q + 30] h h' ∧ DS R S a b res' := by
  have v1 : RV q h 23 R := by have := rv_i Q.2 (i := 23) (ro_d (by decide)); rw [hR] at this; exact this
  obtain ⟨h1, a, row1, a1, a2, a3, ⟨w1, a4⟩, a5, a6, a7⟩ := e_putR (at' := 2) (fs := RFS q th ta me re kc pn qn) rfl rfl Q.1 hr hw v1 (by decide) (by decide)
  have al := dl_le a1
  have Q1 : RQ q th ta me re kc pn qn h1 E := ⟨(a5.2 q (by simp)).trans Q.1, rw_hi Q.2 a5 (fun j hj => by simp at hj; omega)⟩
  have v2 : RV q h1 24 S := by have := rv_i Q1.2 (i := 24) (ro_d (by decide)); rw [hS] at this; exact this
  obtain ⟨h2, b, row2, b1, b2, b3, ⟨w2, b4⟩, b5, b6, b7⟩ := e_putR (at' := 4 + dl (btv R) a) (fs := RFS q th ta me re kc pn qn) rfl rfl Q1.1 a3 a4 v2 (by decide) (by omega)
  have bl := dl_le b1
  have Q2 : RQ q th ta me re kc pn qn h2 E := ⟨(b5.2 q (by simp)).trans Q1.1, rw_hi Q1.2 b5 (fun j hj => by simp at hj; omega)⟩
  have e2 : nI (2 + 2 + dl (btv R) a) = nI (4 + dl (btv R) a) := by rw [show 2 + 2 + dl (btv R) a = 4 + dl (btv R) a by omega]
  have e6 : nI (4 + dl (btv R) a + 2 + dl (btv S) b) = nI (6 + dl (btv R) a + dl (btv S) b) := by rw [show 4 + dl (btv R) a + 2 + dl (btv S) b = 6 + dl (btv R) a + dl (btv S) b by omega]
  have e4 : nI (6 + dl (btv R) a + dl (btv S) b) - 2 = nI (4 + dl (btv R) a + dl (btv S) b) := by
    rw [show (2 : Int32) = nI 2 from rfl, pk_sub (by omega), show 6 + dl (btv R) a + dl (btv S) b - 2 = 4 + dl (btv R) a + dl (btv S) b by omega]
  rw [e2] at a2
  rw [e6] at b2
  obtain ⟨N, hN⟩ : ∃ N, N = 6 + dl (btv R) a + dl (btv S) b := ⟨_, rfl⟩
  have p3 : pV h2 q 8 7 (.int (nI N)) = some (h2.set q (pO 8 (RFS q th ta me (nI N) kc pn qn))) := pV_at Q2.1 (show 7 < 50 by decide)
  obtain ⟨h3, hh3⟩ : ∃ h3, h3 = h2.set q (pO 8 (RFS q th ta me (nI N) kc pn qn)) := ⟨_, rfl⟩
  rw [← hh3] at p3
  have k3 : KP [q] h2 h3 := by rw [hh3]; exact KP.st (by simp)
  have q3 : h3[q]? = some (pO 8 (RFS q th ta me (nI N) kc pn qn)) := by rw [hh3]; exact hs_ Q2.1
  have r3 : h3[q + 3]? = some (pB 80 row2) := (k3.2 (q + 3) (by simp)).trans b3
  have p4 := tB_in (x := 48) 0 r3 rfl (by decide) (by decide)
  obtain ⟨h4, hh4⟩ : ∃ h4, h4 = h3.set (q + 3) (pB 80 (va_up row2 0 (Int32.toInt8 48))) := ⟨_, rfl⟩
  rw [← hh4] at p4
  have k4 : KP [q + 3] h3 h4 := by rw [hh4]; exact KP.st (by simp)
  have q4 : h4[q]? = some (pO 8 (RFS q th ta me (nI N) kc pn qn)) := (k4.2 q (by simp)).trans q3
  have r4 : h4[q + 3]? = some (pB 80 (va_up row2 0 (Int32.toInt8 48))) := by rw [hh4]; exact hs_ r3
  have p5 := tB_in (x := (Int32.toInt8 (nI N - 2)).toInt32) 1 r4 rfl (by decide) (by decide)
  rw [i8_r] at p5
  obtain ⟨h5, hh5⟩ : ∃ h5, h5 = h4.set (q + 3) (pB 80 (va_up (va_up row2 0 (Int32.toInt8 48)) 1 (Int32.toInt8 (nI N - 2)))) := ⟨_, rfl⟩
  rw [← hh5] at p5
  have k5 : KP [q + 3] h4 h5 := by rw [hh5]; exact KP.st (by simp)
  have q5 : h5[q]? = some (pO 8 (RFS q th ta me (nI N) kc pn qn)) := (k5.2 q (by simp)).trans q4
  have r5 : h5[q + 3]? = some (pB 80 (va_up (va_up row2 0 (Int32.toInt8 48)) 1 (Int32.toInt8 (nI N - 2)))) := by rw [hh5]; exact hs_ r4
  have kk5 : KP [q, q + 3, q + 30] h h5 := (a5.up (by simp)).tr ((b5.up (by simp)).tr ((k3.up (by simp)).tr ((k4.up (by simp)).tr (k5.up (by simp)))))
  have c5 : h5[q + 5]? = some (pI 6 cnt) := (kk5.2 (q + 5) (by simp)).trans hc
  have p6 := tI_in (x := cnt 0 + 1) 0 c5 rfl (by decide) (by decide)
  obtain ⟨h6, hh6⟩ : ∃ h6, h6 = h5.set (q + 5) (pI 6 (va_up cnt 0 (cnt 0 + 1))) := ⟨_, rfl⟩
  rw [← hh6] at p6
  have k6 : KP [q + 5] h5 h6 := by rw [hh6]; exact KP.st (by simp)
  have q6 : h6[q]? = some (pO 8 (RFS q th ta me (nI N) kc pn qn)) := (k6.2 q (by simp)).trans q5
  have kk6 : KP [q, q + 3, q + 5, q + 30] h h6 := (kk5.up (by simp)).tr (k6.up (by simp))
  subst hN
  refine ⟨h6, a, b, _, a1, b1, ?_, ⟨q6, ?_⟩, (k6.2 (q + 3) (by simp)).trans r5, ⟨w2, ?_⟩, by rw [hh6]; exact hs_ c5, kk6, ?_, ?_, ?_, ?_⟩
  · unfold B_Rm_sign_133
    rw [bs_ (gR_at Q.1 rfl), os_ Q.1, show P_Rm_put h q 2 (q + 23) = _ from a2, bs2 rfl, bs_ (gR_at Q1.1 rfl), os_ Q1.1, bs2 b2, bs_ p3, bs_ (gR_at q3 rfl), show stB h3 (q + 3) 0 48 = _ from p4, bs_ rfl, bs_ (gR_at q4 rfl), bs_ (gI_at q4 rfl), show stB h4 (q + 3) 1 _ = _ from p5, bs_ rfl, bs_ (gR_at q5 rfl), show ldI h5 (q + 5) 0 = some (cnt 0) from sI_in 0 c5 rfl (by decide) (by decide), bs_ rfl, show stI h5 (q + 5) 0 (cnt 0 + 1) = _ from p6, bs_ rfl, bs_ (gI_at q6 rfl)]
  · have kx : KP [q, q + 3, q + 5] h2 h6 := (k3.up (by simp)).tr ((k4.up (by simp)).tr ((k5.up (by simp)).tr (k6.up (by simp))))
    have kz : KP [q + 3, q + 5] h3 h6 := (k4.up (by simp)).tr ((k5.up (by simp)).tr (k6.up (by simp)))
    have R3 : RW q h3 E := by
      have := Q2.2
      rw [hh3]
      exact rw_q Q2.2
    exact rw_hi R3 kz (fun j hj => by simp at hj; omega)
  · rw [k6.2 (q + 30) (by simp), k5.2 (q + 30) (by simp), k4.2 (q + 30) (by simp), k3.2 (q + 30) (by simp)]; exact b4
  · rw [up_n (by decide), up_s]; rfl
  · rw [up_s, e4]
  · exact dw_eq a6 (fun k h1 h2 => by rw [up_n (by omega), up_n (by omega), b7 k (by omega)])
  · exact dw_eq b6 (fun k h1 h2 => by rw [up_n (by omega), up_n (by omega)])
end WRR
