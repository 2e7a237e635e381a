/-! the class's object: what holds between calls -/
section INV
variable {F : Type} {φ : Nat → F}
def OB (kt tl kc ml rl : Nat) (sm : Int32) : List Value := [.ref kt, .int (nI tl), .ref 2, .int (nI kc), .ref 103, .int (nI ml), .ref 104, .int (nI rl), .int sm, .ref 105, .ref 106, .ref 110, .ref 262, .ref 295, .ref 298, .ref 302, .ref 303]
def CTp (kt tn tl : Nat) (row : Nat → Int8) (h : HP) : Prop := h[kt]? = some (pB tn row) ∧ (kt = 1 ∨ 349 ≤ kt) ∧ tl ≤ tn ∧ (∃ e, e ≤ 6 ∧ tn = 1024 * 2 ^ e) ∧ ∀ k, tn ≤ k → row k = 0
theorem ct_tn {kt tn tl : Nat} {row : Nat → Int8} {h : HP} (T : CTp kt tn tl row h) : 1024 ≤ tn ∧ tn ≤ 65536 := by
  obtain ⟨_, _, _, ⟨e, h1, h2⟩, _⟩ := T
  have : e = 0 ∨ e = 1 ∨ e = 2 ∨ e = 3 ∨ e = 4 ∨ e = 5 ∨ e = 6 := by omega
  rcases this with rfl | rfl | rfl | rfl | rfl | rfl | rfl <;> omega
/-- the keys -/
def CK (kc : Nat) (ky : Nat → Int8) (h : HP) : Prop := (∃ f : Nat → Option Nat, h[2]? = some (.inr (.inr (.inr (.inl (4, 100, f))))) ∧ ∀ i, i < 100 → f i = some (3 + i)) ∧ ∀ i, i < 100 → ∃ sec, h[3 + i]? = some (pB 32 sec) ∧ (i < kc → ∀ k, k < 32 → sec k = ky (32 * i + k))
def CX2 (dg res : Nat → Int8) (vc : Nat → Int32) (h : HP) : Prop := h[103]? = some (pB 32 dg) ∧ h[104]? = some (pB 72 res) ∧ h[105]? = some (pI 5 vc)
def CY [Lean.Grind.Field F] (φ : Nat → F) (li lj : Int) (h : HP) : Prop := SHo 106 107 108 109 h ∧ CUv φ li h ∧ SGn lj h ∧ (∃ fr fs, SN1 fr fs h) ∧ PRw 298 h ∧ (∃ G, h[302]? = some (pJ 9 G)) ∧ ∃ G, h[303]? = some (pJ 9 G)
def CI [Lean.Grind.Field F] (φ : Nat → F) (li lj : Int) (kt tn tl kc ml rl : Nat) (sm : Int32) (row ky dg res : Nat → Int8) (vc : Nat → Int32) (h : HP) : Prop :=
  h[0]? = some (pO 7 (OB kt tl kc ml rl sm)) ∧ CTp kt tn tl row h ∧ CK kc ky h ∧ CX2 dg res vc h ∧ CY φ li lj h
theorem ck_ag {kc : Nat} {ky : Nat → Int8} {h h' : HP} (C : CK kc ky h) (k : ag 2 103 h h') : CK kc ky h' := by
  obtain ⟨⟨f, f1, f2⟩, g⟩ := C
  refine ⟨⟨f, (k 2 (by decide) (by decide)).trans f1, f2⟩, fun i hi => ?_⟩
  obtain ⟨s, s1, s2⟩ := g i hi
  exact ⟨s, (k (3 + i) (by omega) (by omega)).trans s1, s2⟩
theorem cx_ag {dg res : Nat → Int8} {vc : Nat → Int32} {h h' : HP} (C : CX2 dg res vc h) (k : ag 103 106 h h') : CX2 dg res vc h' := ⟨(k 103 (by decide) (by decide)).trans C.1, (k 104 (by decide) (by decide)).trans C.2.1, (k 105 (by decide) (by decide)).trans C.2.2⟩
theorem cy_ag [Lean.Grind.Field F] {li lj : Int} {h h' : HP} (C : CY φ li lj h) (k : ag 106 304 h h') : CY φ li lj h' := by
  obtain ⟨a, b, c, ⟨fr, fs, d⟩, e, f, g⟩ := C
  exact ⟨sho_ag a (fun j hj => k j (by omega) (by omega)), cuv_ag b (k.sub (by decide) (by decide)), sgn_ag c (k.sub (by decide) (by decide)), ⟨fr, fs, sn1_ag d (k.sub (by decide) (by decide))⟩, prw_ag e (k.sub (by decide) (by decide)), ex_ag f (k 302 (by decide) (by decide)), ex_ag g (k 303 (by decide) (by decide))⟩
theorem ct_ag {kt tn tl : Nat} {row : Nat → Int8} {h h' : HP} (C : CTp kt tn tl row h) (k : h'[kt]? = h[kt]?) : CTp kt tn tl row h' := ⟨k.trans C.1, C.2⟩
/-- what a call of the class leaves as it was -/
def KQ (h h' : HP) : Prop := h.length ≤ h'.length ∧ ∀ j, 304 ≤ j → j < 349 → h'[j]? = h[j]?
theorem KQ.tr {h h' h'' : HP} (a : KQ h h') (b : KQ h' h'') : KQ h h'' := ⟨Nat.le_trans a.1 b.1, fun j h1 h2 => (b.2 j h1 h2).trans (a.2 j h1 h2)⟩
theorem KQ.rf {h : HP} : KQ h h := ⟨Nat.le_refl _, fun _ _ _ => rfl⟩
theorem KQ.ki {a b : Nat} {h h' : HP} (k : KI a b h h') (hb : b ≤ 304) : KQ h h' := ⟨Nat.le_of_eq k.1.symm, fun j h1 h2 => k.2 j (by omega)⟩
theorem KQ.st {j : Nat} {h : HP} {c : PE} (hj : j < 304 ∨ 349 ≤ j) : KQ h (h.set j c) := ⟨by rw [List.length_set]; exact Nat.le_refl _, fun i h1 h2 => List.getElem?_set_ne (by omega)⟩
/-- the object's own cell is set anew -/
theorem ci_0 [Lean.Grind.Field F] {li lj : Int} {kt tn tl kc ml rl kt' tl' kc' ml' rl' : Nat} {sm sm' : Int32} {row ky dg res : Nat → Int8} {vc : Nat → Int32} {h : HP} (C : CI φ li lj kt tn tl kc ml rl sm row ky dg res vc h) (T : CTp kt' tn tl' row h) (K : CK kc' ky h) : CI φ li lj kt' tn tl' kc' ml' rl' sm' row ky dg res vc (h.set 0 (pO 7 (OB kt' tl' kc' ml' rl' sm'))) := by
  have e : ∀ j, j ≠ 0 → (h.set 0 (pO 7 (OB kt' tl' kc' ml' rl' sm')))[j]? = h[j]? := fun j hj => List.getElem?_set_ne (Ne.symm hj)
  refine ⟨hs_ C.1, ct_ag T (e _ ?_), ck_ag K (fun j h1 h2 => e j (by omega)), cx_ag C.2.2.2.1 (fun j h1 h2 => e j (by omega)), cy_ag C.2.2.2.2 (fun j h1 h2 => e j (by omega))⟩
  rcases T.2.1 with c | c <;> omega
theorem ci_fr [Lean.Grind.Field F] {li lj : Int} {kt tn tl kc ml rl : Nat} {sm : Int32} {row ky dg res : Nat → Int8} {vc : Nat → Int32} {h h' : HP} (C : CI φ li lj kt tn tl kc ml rl sm row ky dg res vc h) (k : ∀ j, j < 304 ∨ 349 ≤ j → h'[j]? = h[j]?) : CI φ li lj kt tn tl kc ml rl sm row ky dg res vc h' :=
  ⟨(k 0 (by omega)).trans C.1, ct_ag C.2.1 (k _ (by rcases C.2.1.2.1 with c | c <;> omega)), ck_ag C.2.2.1 (fun j h1 h2 => k j (by omega)), cx_ag C.2.2.2.1 (fun j h1 h2 => k j (by omega)), cy_ag C.2.2.2.2 (fun j h1 h2 => k j (by omega))⟩
end INV
