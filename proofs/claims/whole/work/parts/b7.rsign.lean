/-! the reference's sign: the loop -/
section RSL
variable {q : Nat} {th ta me re kc : Int32} {F : Type} {φ : Nat → F} {H : Type} {ψ : Nat → H}
def RN (q : Nat) (h h' : HP) : Prop := h'.length = h.length ∧ ∀ j, j < q ∨ (q + 1 ≤ j ∧ j ≤ q + 12) ∨ q + 44 ≤ j → h'[j]? = h[j]?
theorem RN.tr {h h' h'' : HP} (k : RN q h h') (l : RN q h' h'') : RN q h h'' := ⟨l.1.trans k.1, fun j hj => (l.2 j hj).trans (k.2 j hj)⟩
theorem RN.rf {h : HP} : RN q h h := ⟨rfl, fun _ _ => rfl⟩
theorem RN.kq {h h' : HP} (k : RKq q h h') : RN q h h' := ⟨k.1, fun j hj => k.2 j (by omega) (by omega) (by omega)⟩
theorem RN.k {h h' : HP} (k : RK q h h') : RN q h h' := RN.kq k.kq
theorem RN.kp {S : List Nat} {h h' : HP} (k : KP S h h') (n : ∀ j ∈ S, j = q ∨ (q + 13 ≤ j ∧ j < q + 44)) : RN q h h' := ⟨k.1, fun j hj => k.2 j (fun z => by have := n j z; omega)⟩
theorem kl_n : ∀ j ∈ KL q, (q + 27 ≤ j ∧ j ≤ q + 30) ∨ (q + 39 ≤ j ∧ j ≤ q + 43) := fun j hj => by unfold KL at hj; simp at hj; omega
theorem RN.kl {h h' : HP} (k : KP (KL q) h h') : RN q h h' := RN.kp k (fun j hj => by have := kl_n j hj; omega)
theorem rch_q {th' ta' me' re' kc' pn' qn' : Int32} {fs : List Value} {key val : Nat → Int8} {h h' : HP} {E : Nat → Nat} (C : RCh q fs key val h) (R : RQ q th' ta' me' re' kc' pn' qn' h' E) (k : ∀ j, (q + 27 ≤ j ∧ j ≤ q + 30) ∨ (q + 37 ≤ j ∧ j ≤ q + 43) → h'[j]? = h[j]?) : RCh q (RFS q th' ta' me' re' kc' pn' qn') key val h' := by
  obtain ⟨⟨_, _, a1, a2, a3, a4, a5⟩, _, c1, c2, c3, c4⟩ := C
  refine ⟨⟨R.1, ⟨rfl, rfl, rfl, rfl, rfl⟩, ?_, ?_, ?_, ?_, ?_⟩, ⟨rfl, rfl, rfl, rfl⟩, ?_, ?_, ?_, ?_⟩
  · rw [k (q + 40) (by omega)]; exact a1
  · rw [k (q + 39) (by omega)]; exact a2
  · rw [k (q + 37) (by omega)]; exact a3
  · rw [k (q + 38) (by omega)]; exact a4
  · rw [k (q + 43) (by omega)]; exact a5
  · rw [k (q + 27) (by omega)]; exact c1
  · rw [k (q + 28) (by omega)]; exact c2
  · rw [k (q + 29) (by omega)]; exact c3
  · rw [k (q + 30) (by omega)]; exact c4
theorem rq_kl {pn qn : Int32} {h h' : HP} {E : Nat → Nat} (R : RQ q th ta me re kc pn qn h E) (k : KP (KL q) h h') : RQ q th ta me re kc pn qn h' E := ⟨(k.2 q (fun z => by have := kl_n q z; omega)).trans R.1, rw_hi R.2 k (fun j hj => by have := kl_n j hj; omega)⟩
theorem rs_loop [Lean.Grind.Field F] [Lean.Grind.Field H] (Z : ZF PP φ) (Y : ZF NN ψ) {K25 : HP → Nat → Int32 → Int32 → Option (Int32 × HP)} {n z : Nat} {ky : Nat → Int8} (hn : n < 100) (hD : be (fun k => ky (32 * n + k)) 32 < NN) (hz : z < NN) :
    ∀ (r i f : Nat) (key v1 : Nat → Int8) (h : HP) (E : Nat → Nat) (pn qn : Int32), r + i = 100 → r + 1 < f → RQ q th ta me re kc pn qn h E → RCh q (RFS q th ta me re kc pn qn) key v1 h → h[q + 4]? = some (pB 3200 ky) → E 22 = z →
    ∃ K' h' E' pn' qn' key' val' R S, L_Rm_sign_73 K25 f h q (nI n) 0 (nI i) = B_Rm_sign_133 K25 K' h' q ∧ RQ q th ta me re kc pn' qn' h' E' ∧ RCh q (RFS q th ta me re kc pn' qn') key' val' h' ∧ RN q h h' ∧ E' 23 = R ∧ E' 24 = S ∧ ∀ val, v1 = nxV key val → SO φ ψ (be (fun k => ky (32 * n + k)) 32) z r key val R S := by
  intro r
  induction r with
  | zero =>
    intro i f key v1 h E pn qn hi hf R C hk hE
    cases f with
    | zero => omega
    | succ f =>
      have e1 : i = 100 := by omega
      subst e1
      obtain ⟨h1, a1, a2, a3⟩ := w_set R.2 (t := 23) (v := 0) (ro_d (by decide)) (by decide)
      have R1 := rq_of R a3 a2
      obtain ⟨h2, b1, b2, b3⟩ := w_set R1.2 (t := 24) (v := 0) (ro_d (by decide)) (by decide)
      have R2 := rq_of R1 b3 b2
      have kk := a3.tr b3
      refine ⟨L_Rm_sign_73 K25 f, h2, _, pn, qn, key, v1, 0, 0, ?_, R2, rch_q C R2 (fun j hj => kk.2 j (by omega) (by omega)), RN.k kk, rfl, rfl, fun val _ => ⟨rfl, rfl⟩⟩
      show B_Rm_sign_73 K25 _ h q (nI n) 0 (nI 100) = _
      unfold B_Rm_sign_73
      rw [if_pos (show (100 : Int32) ≤ nI 100 by decide)]
      unfold B_Rm_sign_113
      rw [if_pos rfl, bs_ (gR_at R.1 rfl), show P_Rm_set h (q + 23) 0 = _ from a1, bs_ rfl, bs_ (gR_at R1.1 rfl), show P_Rm_set h1 (q + 24) 0 = _ from b1, bs_ rfl]
  | succ r ih =>
    intro i f key v1 h E pn qn hi hf R C hk hE
    cases f with
    | zero => omega
    | succ f =>
      have go : ∀ T, L_Rm_sign_73 K25 (f + 1) h q (nI n) 0 (nI i) = T ↔ bnd2 (P_Rm_signed h q (nI n)) (fun v29 h28 =>
  if v29 = 0 then
  ob h28 q 8 (
  bnd (P_Rm_link h28 q 0 0 (nI n)) fun h30 =>
  ob h30 q 8 (
  bnd (P_Rm_draw h30 q) fun h31 =>
  B_Rm_sign_107 K25 (L_Rm_sign_73 K25 f) h31 q (nI n) v29 (nI i)))
  else
  B_Rm_sign_107 K25 (L_Rm_sign_73 K25 f) h28 q (nI n) v29 (nI i)) = T := by
        intro T
        show B_Rm_sign_73 K25 (L_Rm_sign_73 K25 f) h q (nI n) 0 (nI i) = T ↔ _
        unfold B_Rm_sign_73
        rw [if_neg (show ¬ (100 : Int32) ≤ nI i from nI_ge (b := 100) (by omega) (by omega)), if_pos rfl, os_ R.1]
      have again : ∀ (h1 : HP) (E1 : Nat → Nat) (pn1 qn1 : Int32), P_Rm_signed h q (nI n) = some (bi false, h1) → RQ q th ta me re kc pn1 qn1 h1 E1 → RKq q h h1 → E1 22 = z →
          ∃ K' h' E' pn' qn' key' val' R S, L_Rm_sign_73 K25 (f + 1) h q (nI n) 0 (nI i) = B_Rm_sign_133 K25 K' h' q ∧ RQ q th ta me re kc pn' qn' h' E' ∧ RCh q (RFS q th ta me re kc pn' qn') key' val' h' ∧ RN q h h' ∧ E' 23 = R ∧ E' 24 = S ∧ SO φ ψ (be (fun k => ky (32 * n + k)) 32) z r (rfK key v1) (rfV key v1) R S := by
        intro h1 E1 pn1 qn1 e1 R1 k1 z1
        have C1 := rch_q C R1 (fun j hj => k1.2 j (by omega) (by omega) (by omega))
        obtain ⟨h2, key2, rr, b1, b2, b3, b4, C2, k2⟩ := w_link0 (a1 := 0) (a3 := nI n) C1
        have R2 := rq_kl R1 k2
        have ek : key2 = rfK key v1 := by
          rw [b4]
          unfold rfK
          rw [hmac_eq (r := rr) (r' := sdn v1)]
          intro k hk2
          unfold sdn
          by_cases y : k < 32
          · rw [if_pos y]; exact b2 k y
          · have : k = 32 := by omega
            subst this
            rw [if_neg y, b3]; rfl
        have C2' : RCh q (RFS q th ta me re kc pn1 qn1) (rfK key v1) (rfV key v1) h2 := by
          rw [ek] at C2
          exact C2
        obtain ⟨h3, c1, C3, k3⟩ := w_draw C2'
        have R3 := rq_kl R2 k3
        obtain ⟨K', h', E', pn', qn', key', val', R', S', g1, g2, g3, g4, g5, g6, g7⟩ := ih (i + 1) f (rfK key v1) _ h3 E1 pn1 qn1 (by omega) (by omega) R3 C3 (by
          rw [k3.2 (q + 4) (fun w => by have := kl_n _ w; omega), k2.2 (q + 4) (fun w => by have := kl_n _ w; omega), k1.2 (q + 4) (by omega) (by omega) (by omega)]; exact hk) z1
        refine ⟨K', h', E', pn', qn', key', val', R', S', ?_, g2, g3, (RN.kq k1).tr ((RN.kl k2).tr ((RN.kl k3).tr g4)), g5, g6, g7 _ rfl⟩
        rw [go, bs2 e1, if_pos (show bi false = 0 by decide), os_ R1.1, bs_ b1, os_ R2.1, bs_ c1]
        unfold B_Rm_sign_107
        refine lt_e.trans ?_
        rw [nI_ofInt1]
        exact g1
      by_cases y : be v1 32 = 0 ∨ NN ≤ be v1 32
      · obtain ⟨h1, a1, a2, a3⟩ := w_signed0 (key := nI n) R C.2.2.2.1 y
        obtain ⟨K', h', E', pn', qn', key', val', R', S', g1, g2, g3, g4, g5, g6, g7⟩ := again h1 _ pn qn a1 a2 a3.kq (by show E 22 = z; exact hE)
        refine ⟨K', h', E', pn', qn', key', val', R', S', g1, g2, g3, g4, g5, g6, fun val hv => ?_⟩
        subst hv
        unfold SO
        exact Or.inl ⟨y, g7⟩
      · obtain ⟨h1, E1, pn1, vx, vy, s, a1, a2, a3, a4, a5, a6, a7, a8, a9, a10⟩ := w_signed1 Z Y R hn hk C.2.2.2.1 hD (by rw [hE]; exact hz) (by omega) (by omega)
        rw [hE] at a10
        by_cases zz : vx % NN ≠ 0 ∧ s ≠ 0
        · refine ⟨L_Rm_sign_73 K25 (f - 1), h1, E1, pn1, 0, key, v1, vx % NN, s, ?_, a2, rch_q C a2 (fun j hj => a3.2 j (by omega) (by omega) (by omega)), RN.kq a3, a5, a6, fun val hv => ?_⟩
          · rw [go, bs2 a1, decide_eq_true zz, if_neg (show ¬ bi true = 0 by decide)]
            unfold B_Rm_sign_107
            refine lt_e.trans ?_
            rw [nI_ofInt1]
            obtain ⟨f', rfl⟩ : ∃ f', f = f' + 1 := ⟨f - 1, by omega⟩
            show B_Rm_sign_73 K25 (L_Rm_sign_73 K25 f') h1 q (nI n) (bi true) (nI (i + 1)) = _
            unfold B_Rm_sign_73
            have e113 : B_Rm_sign_113 K25 (L_Rm_sign_73 K25 f') h1 q (bi true) = B_Rm_sign_133 K25 (L_Rm_sign_73 K25 f') h1 q := by
              unfold B_Rm_sign_113
              rw [if_neg (show ¬ bi true = 0 by decide)]
            rw [if_neg (show ¬ bi true = 0 by decide), e113]
            show (if _ then _ else _) = B_Rm_sign_133 K25 (L_Rm_sign_73 K25 f') h1 q
            split <;> rfl
          · subst hv
            unfold SO
            exact Or.inr ⟨⟨by omega, by omega⟩, vx, s, ⟨a8, ⟨vy, a9⟩, a7, a10⟩, Or.inl ⟨zz, rfl, rfl⟩⟩
        · rw [decide_eq_false zz] at a1
          obtain ⟨K', h', E', pn', qn', key', val', R', S', g1, g2, g3, g4, g5, g6, g7⟩ := again h1 E1 pn1 0 a1 a2 a3 (by rw [a4]; exact hE)
          refine ⟨K', h', E', pn', qn', key', val', R', S', g1, g2, g3, g4, g5, g6, fun val hv => ?_⟩
          subst hv
          unfold SO
          exact Or.inr ⟨⟨by omega, by omega⟩, vx, s, ⟨a8, ⟨vy, a9⟩, a7, a10⟩, Or.inr ⟨zz, g7⟩⟩
end RSL
