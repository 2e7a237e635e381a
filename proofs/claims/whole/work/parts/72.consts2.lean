/-! the reference's constants are the class's tables -/
section CO
variable {q kr kt kl kc : Nat} {fs : List Value}
theorem co1 (hf1 : fs[47]? = some (.ref kl)) (hf2 : fs[48]? = some (.ref kc)) (hf3 : fs[43]? = some (.ref kr)) (hf4 : fs[44]? = some (.ref kt)) (hlq : kl ≠ q) (hcq : kc ≠ q) (hrq : kr ≠ q) (htq : kt ≠ q) (hlc : kc ≠ kl) (hrl : kr ≠ kl) (hrc : kr ≠ kc) (htl : kt ≠ kl) (htc : kt ≠ kc) (hrt : kr ≠ kt) : ∀ (r k f : Nat) (h : HP) (F C R S : Nat → Int64), r + k = 64 → r < f → h[q]? = some (pO 8 fs) → h[kl]? = some (pJ 8 F) → h[kc]? = some (pJ 8 C) → h[kr]? = some (pJ 80 R) → h[kt]? = some (pJ 8 S) → (∀ i, i < k → hi32 (R i) = (stab 1).2 i) → (∀ i, i < k → i < 8 → hi32 (S i) = (stab 0).2 i) →
    ∃ (h' : HP) (F' C' R' S' : Nat → Int64), L_Rm_constants_4 f h q (nI (pl k)) (nI k) = some h' ∧ h'[kl]? = some (pJ 8 F') ∧ h'[kc]? = some (pJ 8 C') ∧ h'[kr]? = some (pJ 80 R') ∧ h'[kt]? = some (pJ 8 S') ∧ (∀ i, i < 64 → hi32 (R' i) = (stab 1).2 i) ∧ (∀ i, i < 8 → hi32 (S' i) = (stab 0).2 i) ∧ KP [kr, kt, kl, kc] h h' := by
  intro r
  induction r with
  | zero =>
    intro k f h F C R S hr hfu hp hl hc hR hS e1 e2
    cases f with
    | zero => omega
    | succ f =>
      have hk : k = 64 := by omega
      subst hk
      refine ⟨h, F, C, R, S, ?_, hl, hc, hR, hS, e1, fun i hi => e2 i (by omega) hi, KP.rf⟩
      show B_Rm_constants_4 _ h q _ (nI 64) = _
      unfold B_Rm_constants_4
      rw [if_pos (show (64 : Int32) ≤ nI 64 by decide)]
  | succ r ih =>
    intro k f h F C R S hr hfu hp hl hc hR hS e1 e2
    cases f with
    | zero => omega
    | succ f =>
      obtain ⟨n1, n2, n3, n4⟩ := pl_next k (by omega)
      obtain ⟨F1, C1, y, g1, g2, g3⟩ := e_root hf1 hf2 hlq hcq hlc (pw := 3) (pr := pl (k + 1)) (by decide) (by decide) n4 hp hl hc
      obtain ⟨o1, o2, o3⟩ := y3_ok k (by omega)
      have hy := root_u g2 g3 o1 o2
      have hv : hi32 (lN (y % 2 ^ 64)) = (stab 1).2 k := by rw [hi32_l, hy, o3]
      have nx : ∀ (h' : HP), B_Rm_constants_45 (L_Rm_constants_4 f) h' q (nI (pl (k + 1))) (nI k) = L_Rm_constants_4 f h' q (nI (pl (k + 1))) (nI (k + 1)) := fun h' => by
        show L_Rm_constants_4 f h' q (nI (pl (k + 1))) (nI k + Int32.ofInt 1) = _
        rw [nI_ofInt1]
      have q1 : (((h.set kc (pJ 8 C1)).set kl (pJ 8 F1)).set kr (pJ 80 (va_up R k (lN (y % 2 ^ 64)))))[q]? = some (pO 8 fs) := hn_ hrq (hn_ hlq (hn_ hcq hp))
      have q2 : (((h.set kc (pJ 8 C1)).set kl (pJ 8 F1)).set kr (pJ 80 (va_up R k (lN (y % 2 ^ 64)))))[kl]? = some (pJ 8 F1) := hn_ hrl (hs_ (hn_ hlc hl))
      have q3 : (((h.set kc (pJ 8 C1)).set kl (pJ 8 F1)).set kr (pJ 80 (va_up R k (lN (y % 2 ^ 64)))))[kc]? = some (pJ 8 C1) := hn_ hrc (hn_ hlc.symm (hs_ hc))
      have q4 : (((h.set kc (pJ 8 C1)).set kl (pJ 8 F1)).set kr (pJ 80 (va_up R k (lN (y % 2 ^ 64)))))[kr]? = some (pJ 80 (va_up R k (lN (y % 2 ^ 64)))) := hs_ (hn_ hrl.symm (hn_ hrc.symm hR))
      have q5 : (((h.set kc (pJ 8 C1)).set kl (pJ 8 F1)).set kr (pJ 80 (va_up R k (lN (y % 2 ^ 64)))))[kt]? = some (pJ 8 S) := hn_ hrt (hn_ htl.symm (hn_ htc.symm hS))
      have kp1 : KP [kr, kt, kl, kc] h (((h.set kc (pJ 8 C1)).set kl (pJ 8 F1)).set kr (pJ 80 (va_up R k (lN (y % 2 ^ 64))))) := KP.tr (KP.tr (KP.st (by simp)) (KP.st (by simp))) (KP.st (by simp))
      have hR' : ∀ i, i < k + 1 → hi32 (va_up R k (lN (y % 2 ^ 64)) i) = (stab 1).2 i := fun i hi => by
        by_cases z : i = k
        · rw [z, up_s]; exact hv
        · rw [up_n z]; exact e1 i (by omega)
      have un : L_Rm_constants_4 (f + 1) h q (nI (pl k)) (nI k) = (if 8 ≤ nI k then B_Rm_constants_45 (L_Rm_constants_4 f) (((h.set kc (pJ 8 C1)).set kl (pJ 8 F1)).set kr (pJ 80 (va_up R k (lN (y % 2 ^ 64))))) q (nI (pl (k + 1))) (nI k) else bnd (gR (((h.set kc (pJ 8 C1)).set kl (pJ 8 F1)).set kr (pJ 80 (va_up R k (lN (y % 2 ^ 64))))) q 8 44) fun k8 => ob (((h.set kc (pJ 8 C1)).set kl (pJ 8 F1)).set kr (pJ 80 (va_up R k (lN (y % 2 ^ 64))))) q 8 (bnd2 (P_Rm_root (((h.set kc (pJ 8 C1)).set kl (pJ 8 F1)).set kr (pJ 80 (va_up R k (lN (y % 2 ^ 64))))) q (nI (pl (k + 1))) 2) fun v10 h9 => bnd (stJ h9 k8 (nI k) v10) fun h11 => B_Rm_constants_45 (L_Rm_constants_4 f) h11 q (nI (pl (k + 1))) (nI k))) := by
        show B_Rm_constants_4 (L_Rm_constants_4 f) h q (nI (pl k)) (nI k) = _
        unfold B_Rm_constants_4
        rw [if_neg (show ¬ (64 : Int32) ≤ nI k from nI_ge (b := 64) (by omega) (by omega))]
        refine (bs2 (e_prime n2 (by omega) n1)).trans ?_
        refine (bs_ (gR_at hp hf3)).trans ?_
        refine (os_ hp).trans ?_
        refine (bs2 g1).trans ?_
        exact bs_ (tJ_in k (hn_ hrl.symm (hn_ hrc.symm hR)) rfl (by omega) (by omega))
      rw [un]
      generalize ((h.set kc (pJ 8 C1)).set kl (pJ 8 F1)).set kr (pJ 80 (va_up R k (lN (y % 2 ^ 64)))) = g at q1 q2 q3 q4 q5 kp1
      by_cases z : 8 ≤ k
      · rw [if_pos (show (8 : Int32) ≤ nI k from (show nI 8 ≤ nI k from nI_le z (by omega))), nx]
        obtain ⟨h', F', C', R', S', c1, c2, c3, c4, c5, c6, c7, c8⟩ := ih (k + 1) f g F1 C1 _ S (by omega) (by omega) q1 q2 q3 q4 q5 hR' (fun i hi h8 => e2 i (by omega) h8)
        exact ⟨h', F', C', R', S', c1, c2, c3, c4, c5, c6, c7, KP.tr kp1 c8⟩
      · rw [if_neg (show ¬ (8 : Int32) ≤ nI k from (show ¬ nI 8 ≤ nI k from nI_ge (by omega) (by omega))), bs_ (gR_at q1 hf4), os_ q1]
        obtain ⟨F2, C2, w, b1, b2, b3⟩ := e_root hf1 hf2 hlq hcq hlc (pw := 2) (pr := pl (k + 1)) (by decide) (by decide) (pl_8 k (by omega)) q1 q2 q3
        obtain ⟨p1, p2, p3⟩ := y2_ok k (by omega)
        have hw := root_u b2 b3 p1 p2
        have hv2 : hi32 (lN (w % 2 ^ 64)) = (stab 0).2 k := by rw [hi32_l, hw, p3]
        have b1' : P_Rm_root g q (nI (pl (k + 1))) 2 = some (lN (w % 2 ^ 64), (g.set kc (pJ 8 C2)).set kl (pJ 8 F2)) := b1
        rw [bs2 b1', bs_ (tJ_in k (hn_ htl.symm (hn_ htc.symm q5)) rfl (by omega) (by omega)), nx]
        obtain ⟨h', F', C', R', S', c1, c2, c3, c4, c5, c6, c7, c8⟩ := ih (k + 1) f _ F2 C2 _ (va_up S k (lN (w % 2 ^ 64))) (by omega) (by omega) (hn_ htq (hn_ hlq (hn_ hcq q1))) (hn_ htl (hs_ (hn_ hlc q2))) (hn_ htc (hn_ hlc.symm (hs_ q3))) (hn_ hrt.symm (hn_ hrl.symm (hn_ hrc.symm q4))) (hs_ (hn_ htl.symm (hn_ htc.symm q5))) hR' (fun i hi h8 => by
          by_cases z : i = k
          · rw [z, up_s]; exact hv2
          · rw [up_n z]; exact e2 i (by omega) h8)
        exact ⟨h', F', C', R', S', c1, c2, c3, c4, c5, c6, c7, KP.tr kp1 (KP.tr (KP.tr (KP.tr (KP.st (by simp)) (KP.st (by simp))) (KP.st (by simp))) c8)⟩
theorem e_constants {h : HP} (hf1 : fs[47]? = some (.ref kl)) (hf2 : fs[48]? = some (.ref kc)) (hf3 : fs[43]? = some (.ref kr)) (hf4 : fs[44]? = some (.ref kt)) (hlq : kl ≠ q) (hcq : kc ≠ q) (hrq : kr ≠ q) (htq : kt ≠ q) (hlc : kc ≠ kl) (hrl : kr ≠ kl) (hrc : kr ≠ kc) (htl : kt ≠ kl) (htc : kt ≠ kc) (hrt : kr ≠ kt) {F C R S : Nat → Int64} (hp : h[q]? = some (pO 8 fs)) (hl : h[kl]? = some (pJ 8 F)) (hc : h[kc]? = some (pJ 8 C)) (hR : h[kr]? = some (pJ 80 R)) (hS : h[kt]? = some (pJ 8 S)) :
    ∃ (h' : HP) (F' C' R' S' : Nat → Int64), P_Rm_constants h q = some h' ∧ h'[kl]? = some (pJ 8 F') ∧ h'[kc]? = some (pJ 8 C') ∧ h'[kr]? = some (pJ 80 R') ∧ h'[kt]? = some (pJ 8 S') ∧ (∀ i, i < 64 → hi32 (R' i) = (stab 1).2 i) ∧ (∀ i, i < 8 → hi32 (S' i) = (stab 0).2 i) ∧ KP [kr, kt, kl, kc] h h' :=
  co1 hf1 hf2 hf3 hf4 hlq hcq hrq htq hlc hrl hrc htl htc hrt 64 0 FU h F C R S rfl (by decide) hp hl hc hR hS (fun i hi => absurd hi (Nat.not_lt_zero _)) (fun i hi => absurd hi (Nat.not_lt_zero _))
end CO
