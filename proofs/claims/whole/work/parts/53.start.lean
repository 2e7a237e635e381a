/-! THE START: what the Statement gives at the law's entry, as the walk wants it -/

theorem eq_ev {args : Array Value} {s : State} {t : Term} {z : Int32} (h : (Cond.eq t (.int z)).before args s = true) : t.eval args s none [] s = some (.int z) := by
  cases hv : t.eval args s none [] s with
  | none => simp [Cond.before, Cond.holds, Cond.value, hv] at h
  | some w =>
    have hz : (Term.int z).eval args s none [] s = some (.int z) := rfl
    simp only [Cond.before, Cond.holds, Cond.value, hv, hz] at h
    cases w <;> simp_all
abbrev NRW : List Cond := flatC (Jvm.Cond.and given_1 narrow_1)
theorem nr_0a : Cond.arrayOf (Term.static "PrimeKeys$Sha256" "START" "[I") .int ∈ NRW := by decide +kernel
theorem nr_0l : Cond.eq (.length (Term.static "PrimeKeys$Sha256" "START" "[I")) (.int 8) ∈ NRW := by decide +kernel
theorem nr_0e : ∀ j, j < 8 → Cond.eq (.elem (Term.static "PrimeKeys$Sha256" "START" "[I") (.int (Int32.ofNat j))) (.int ((stab 0).2 j)) ∈ NRW := by decide +kernel
theorem st_0 {args : Array Value} {s : State} {A : Nat → Prop} (hg : ∀ w ∈ NRW, w.before args s = true) (ht : ∀ w ∈ lw_tbl, w.before args s = true) (hA : ∀ a : Nat, a < s.heap.size → ¬ A a) : ∃ t : Nat, va_Z (stC 0) (stN 0) "[I" (.ref t) A s s.heap ∧ va_T .int t (stab 0).1 (fun j => .int ((stab 0).2 j)) A s s.heap := by
  obtain ⟨t, h1, h2⟩ := va_Tof (N := 8) (f := fun j => .int ((stab 0).2 j)) (A := A) (by decide) (hg _ nr_0a) (eq_ev (hg _ nr_0l)) (fun j hj => eq_ev (hg _ (nr_0e j hj))) hA
  exact ⟨t, va_Zof (ht (.laysStatic "PrimeKeys$Sha256" "START" "[I") (by decide +kernel)) (ht (.initialized "PrimeKeys$Sha256") (by decide +kernel)) h1 hA, h2⟩
theorem nr_1a : Cond.arrayOf (Term.static "PrimeKeys$Sha256" "ROUND" "[I") .int ∈ NRW := by decide +kernel
theorem nr_1l : Cond.eq (.length (Term.static "PrimeKeys$Sha256" "ROUND" "[I")) (.int 64) ∈ NRW := by decide +kernel
theorem nr_1e : ∀ j, j < 64 → Cond.eq (.elem (Term.static "PrimeKeys$Sha256" "ROUND" "[I") (.int (Int32.ofNat j))) (.int ((stab 1).2 j)) ∈ NRW := by decide +kernel
theorem st_1 {args : Array Value} {s : State} {A : Nat → Prop} (hg : ∀ w ∈ NRW, w.before args s = true) (ht : ∀ w ∈ lw_tbl, w.before args s = true) (hA : ∀ a : Nat, a < s.heap.size → ¬ A a) : ∃ t : Nat, va_Z (stC 1) (stN 1) "[I" (.ref t) A s s.heap ∧ va_T .int t (stab 1).1 (fun j => .int ((stab 1).2 j)) A s s.heap := by
  obtain ⟨t, h1, h2⟩ := va_Tof (N := 64) (f := fun j => .int ((stab 1).2 j)) (A := A) (by decide) (hg _ nr_1a) (eq_ev (hg _ nr_1l)) (fun j hj => eq_ev (hg _ (nr_1e j hj))) hA
  exact ⟨t, va_Zof (ht (.laysStatic "PrimeKeys$Sha256" "ROUND" "[I") (by decide +kernel)) (ht (.initialized "PrimeKeys$Sha256") (by decide +kernel)) h1 hA, h2⟩
theorem nr_2a : Cond.arrayOf (Term.static "PrimeKeys$Curve" "PRIME" "[I") .int ∈ NRW := by decide +kernel
theorem nr_2l : Cond.eq (.length (Term.static "PrimeKeys$Curve" "PRIME" "[I")) (.int 8) ∈ NRW := by decide +kernel
theorem nr_2e : ∀ j, j < 8 → Cond.eq (.elem (Term.static "PrimeKeys$Curve" "PRIME" "[I") (.int (Int32.ofNat j))) (.int ((stab 2).2 j)) ∈ NRW := by decide +kernel
theorem st_2 {args : Array Value} {s : State} {A : Nat → Prop} (hg : ∀ w ∈ NRW, w.before args s = true) (ht : ∀ w ∈ lw_tbl, w.before args s = true) (hA : ∀ a : Nat, a < s.heap.size → ¬ A a) : ∃ t : Nat, va_Z (stC 2) (stN 2) "[I" (.ref t) A s s.heap ∧ va_T .int t (stab 2).1 (fun j => .int ((stab 2).2 j)) A s s.heap := by
  obtain ⟨t, h1, h2⟩ := va_Tof (N := 8) (f := fun j => .int ((stab 2).2 j)) (A := A) (by decide) (hg _ nr_2a) (eq_ev (hg _ nr_2l)) (fun j hj => eq_ev (hg _ (nr_2e j hj))) hA
  exact ⟨t, va_Zof (ht (.laysStatic "PrimeKeys$Curve" "PRIME" "[I") (by decide +kernel)) (ht (.initialized "PrimeKeys$Curve") (by decide +kernel)) h1 hA, h2⟩
theorem nr_3a : Cond.arrayOf (Term.static "PrimeKeys$Curve" "B" "[I") .int ∈ NRW := by decide +kernel
theorem nr_3l : Cond.eq (.length (Term.static "PrimeKeys$Curve" "B" "[I")) (.int 8) ∈ NRW := by decide +kernel
theorem nr_3e : ∀ j, j < 8 → Cond.eq (.elem (Term.static "PrimeKeys$Curve" "B" "[I") (.int (Int32.ofNat j))) (.int ((stab 3).2 j)) ∈ NRW := by decide +kernel
theorem st_3 {args : Array Value} {s : State} {A : Nat → Prop} (hg : ∀ w ∈ NRW, w.before args s = true) (ht : ∀ w ∈ lw_tbl, w.before args s = true) (hA : ∀ a : Nat, a < s.heap.size → ¬ A a) : ∃ t : Nat, va_Z (stC 3) (stN 3) "[I" (.ref t) A s s.heap ∧ va_T .int t (stab 3).1 (fun j => .int ((stab 3).2 j)) A s s.heap := by
  obtain ⟨t, h1, h2⟩ := va_Tof (N := 8) (f := fun j => .int ((stab 3).2 j)) (A := A) (by decide) (hg _ nr_3a) (eq_ev (hg _ nr_3l)) (fun j hj => eq_ev (hg _ (nr_3e j hj))) hA
  exact ⟨t, va_Zof (ht (.laysStatic "PrimeKeys$Curve" "B" "[I") (by decide +kernel)) (ht (.initialized "PrimeKeys$Curve") (by decide +kernel)) h1 hA, h2⟩
theorem nr_4a : Cond.arrayOf (Term.static "PrimeKeys$Curve" "BASE_X" "[I") .int ∈ NRW := by decide +kernel
theorem nr_4l : Cond.eq (.length (Term.static "PrimeKeys$Curve" "BASE_X" "[I")) (.int 8) ∈ NRW := by decide +kernel
theorem nr_4e : ∀ j, j < 8 → Cond.eq (.elem (Term.static "PrimeKeys$Curve" "BASE_X" "[I") (.int (Int32.ofNat j))) (.int ((stab 4).2 j)) ∈ NRW := by decide +kernel
theorem st_4 {args : Array Value} {s : State} {A : Nat → Prop} (hg : ∀ w ∈ NRW, w.before args s = true) (ht : ∀ w ∈ lw_tbl, w.before args s = true) (hA : ∀ a : Nat, a < s.heap.size → ¬ A a) : ∃ t : Nat, va_Z (stC 4) (stN 4) "[I" (.ref t) A s s.heap ∧ va_T .int t (stab 4).1 (fun j => .int ((stab 4).2 j)) A s s.heap := by
  obtain ⟨t, h1, h2⟩ := va_Tof (N := 8) (f := fun j => .int ((stab 4).2 j)) (A := A) (by decide) (hg _ nr_4a) (eq_ev (hg _ nr_4l)) (fun j hj => eq_ev (hg _ (nr_4e j hj))) hA
  exact ⟨t, va_Zof (ht (.laysStatic "PrimeKeys$Curve" "BASE_X" "[I") (by decide +kernel)) (ht (.initialized "PrimeKeys$Curve") (by decide +kernel)) h1 hA, h2⟩
theorem nr_5a : Cond.arrayOf (Term.static "PrimeKeys$Curve" "BASE_Y" "[I") .int ∈ NRW := by decide +kernel
theorem nr_5l : Cond.eq (.length (Term.static "PrimeKeys$Curve" "BASE_Y" "[I")) (.int 8) ∈ NRW := by decide +kernel
theorem nr_5e : ∀ j, j < 8 → Cond.eq (.elem (Term.static "PrimeKeys$Curve" "BASE_Y" "[I") (.int (Int32.ofNat j))) (.int ((stab 5).2 j)) ∈ NRW := by decide +kernel
theorem st_5 {args : Array Value} {s : State} {A : Nat → Prop} (hg : ∀ w ∈ NRW, w.before args s = true) (ht : ∀ w ∈ lw_tbl, w.before args s = true) (hA : ∀ a : Nat, a < s.heap.size → ¬ A a) : ∃ t : Nat, va_Z (stC 5) (stN 5) "[I" (.ref t) A s s.heap ∧ va_T .int t (stab 5).1 (fun j => .int ((stab 5).2 j)) A s s.heap := by
  obtain ⟨t, h1, h2⟩ := va_Tof (N := 8) (f := fun j => .int ((stab 5).2 j)) (A := A) (by decide) (hg _ nr_5a) (eq_ev (hg _ nr_5l)) (fun j hj => eq_ev (hg _ (nr_5e j hj))) hA
  exact ⟨t, va_Zof (ht (.laysStatic "PrimeKeys$Curve" "BASE_Y" "[I") (by decide +kernel)) (ht (.initialized "PrimeKeys$Curve") (by decide +kernel)) h1 hA, h2⟩
theorem nr_6a : Cond.arrayOf (Term.static "PrimeKeys$Signer" "ORDER" "[I") .int ∈ NRW := by decide +kernel
theorem nr_6l : Cond.eq (.length (Term.static "PrimeKeys$Signer" "ORDER" "[I")) (.int 8) ∈ NRW := by decide +kernel
theorem nr_6e : ∀ j, j < 8 → Cond.eq (.elem (Term.static "PrimeKeys$Signer" "ORDER" "[I") (.int (Int32.ofNat j))) (.int ((stab 6).2 j)) ∈ NRW := by decide +kernel
theorem st_6 {args : Array Value} {s : State} {A : Nat → Prop} (hg : ∀ w ∈ NRW, w.before args s = true) (ht : ∀ w ∈ lw_tbl, w.before args s = true) (hA : ∀ a : Nat, a < s.heap.size → ¬ A a) : ∃ t : Nat, va_Z (stC 6) (stN 6) "[I" (.ref t) A s s.heap ∧ va_T .int t (stab 6).1 (fun j => .int ((stab 6).2 j)) A s s.heap := by
  obtain ⟨t, h1, h2⟩ := va_Tof (N := 8) (f := fun j => .int ((stab 6).2 j)) (A := A) (by decide) (hg _ nr_6a) (eq_ev (hg _ nr_6l)) (fun j hj => eq_ev (hg _ (nr_6e j hj))) hA
  exact ⟨t, va_Zof (ht (.laysStatic "PrimeKeys$Signer" "ORDER" "[I") (by decide +kernel)) (ht (.initialized "PrimeKeys$Signer") (by decide +kernel)) h1 hA, h2⟩
theorem ST_start {args : Array Value} {s : State} {A : Nat → Prop} (hg : ∀ w ∈ NRW, w.before args s = true) (ht : ∀ w ∈ lw_tbl, w.before args s = true) (hA : ∀ a : Nat, a < s.heap.size → ¬ A a) (b : Nat) : ∃ sa : Nat → Nat, ST sa A s ∧ sa 7 = b := by
  obtain ⟨t0, h0⟩ := st_0 hg ht hA
  obtain ⟨t1, h1⟩ := st_1 hg ht hA
  obtain ⟨t2, h2⟩ := st_2 hg ht hA
  obtain ⟨t3, h3⟩ := st_3 hg ht hA
  obtain ⟨t4, h4⟩ := st_4 hg ht hA
  obtain ⟨t5, h5⟩ := st_5 hg ht hA
  obtain ⟨t6, h6⟩ := st_6 hg ht hA
  refine ⟨fun i => [t0, t1, t2, t3, t4, t5, t6, b].getD i 0, fun i hi => ?_, rfl⟩
  match i, hi with
  | 0, _ => exact h0
  | 1, _ => exact h1
  | 2, _ => exact h2
  | 3, _ => exact h3
  | 4, _ => exact h4
  | 5, _ => exact h5
  | 6, _ => exact h6
theorem K_start {args : Array Value} {s : State} (ht : ∀ w ∈ TB, w.before args s = true) (hto : ∀ w ∈ lw_tbl, w.before args s = true) : ∃ (D : va_G) (tg : Nat → ClassId), va_K D vwCl (tysOf tg) s := by
  obtain ⟨c0, i0, k0⟩ := u_known ht u_Cu (ht _ (tb_1 (List.mem_of_getElem? (i := 57) (by decide +kernel)) rfl : Cond.instantiable "PrimeKeys$Curve" 6 ∈ TB))
  obtain ⟨c1, i1, k1⟩ := u_known ht u_Mo (ht _ (tb_1 (List.mem_of_getElem? (i := 63) (by decide +kernel)) rfl : Cond.instantiable "PrimeKeys$Modulus" 9 ∈ TB))
  obtain ⟨c2, i2, k2⟩ := u_known ht u_No (ht _ (tb_2 (List.mem_of_getElem? (i := 24) (by decide +kernel)) rfl : Cond.instantiable "PrimeKeys$Nonces" 6 ∈ TB))
  obtain ⟨c3, i3, k3⟩ := u_known ht u_Po (ht _ (tb_1 (List.mem_of_getElem? (i := 137) (by decide +kernel)) rfl : Cond.instantiable "PrimeKeys$Point" 3 ∈ TB))
  obtain ⟨c4, i4, k4⟩ := u_known ht u_Sh (ht _ (tb_1 (List.mem_of_getElem? (i := 33) (by decide +kernel)) rfl : Cond.instantiable "PrimeKeys$Sha256" 5 ∈ TB))
  obtain ⟨c5, i5, k5⟩ := u_known ht u_Sg (ht _ (tb_2 (List.mem_of_getElem? (i := 87) (by decide +kernel)) rfl : Cond.instantiable "PrimeKeys$Signature" 2 ∈ TB))
  obtain ⟨c6, i6, k6⟩ := u_known ht u_Si (ht _ (tb_2 (List.mem_of_getElem? (i := 14) (by decide +kernel)) rfl : Cond.instantiable "PrimeKeys$Signer" 11 ∈ TB))
  obtain ⟨c7, i7, k7⟩ := u_known ht u_PK (ht _ (tb_1 (List.mem_of_getElem? (i := 23) (by decide +kernel)) rfl : Cond.instantiable "PrimeKeys" 17 ∈ TB))
  obtain ⟨c8, i8, k8⟩ := u_known ht u_Rm (ht _ (tb_4 (List.mem_of_getElem? (i := 55) (by decide +kernel)) rfl : Cond.instantiable "PrimeKeysModel" 50 ∈ TB))
  obtain ⟨a0, e0, m0, f0, g0, q0⟩ := Cond.arrayClass_spec (ht _ kw_cb)
  obtain ⟨a1, e1, m1, f1, g1, q1⟩ := Cond.arrayClass_spec (ht _ kw_ci)
  obtain ⟨a2, e2, m2, f2, g2, q2⟩ := Cond.arrayClass_spec (ht _ kw_cj)
  obtain ⟨m3, a3, e3, r3, -, g3, q3, f3⟩ := Cond.arrayOver_spec (hto (.arrayOver (.object "PrimeKeys$Point")) (by decide +kernel))
  obtain ⟨m4, a4, e4, -, g4, q4, f4⟩ := Cond.arrayOver_specA (hto (.arrayOver (.array .byte)) (by decide +kernel))
  obtain ⟨m5, a5, e5, -, g5, q5, f5⟩ := Cond.arrayOver_specA (hto (.arrayOver (.array .long)) (by decide +kernel))
  refine ⟨(fun c => [c0, c1, c2, c3, c4, c5, c6, c7, c8].getD c 0, fun c => [i0, i1, i2, i3, i4, i5, i6, i7, i8].getD c (fun _ => 0)), fun t => [a0, a1, a2, a3, a4, a5].getD t 0, fun c q hq => ?_, fun k q hq => ?_⟩
  · match c with
    | 0 => cases hq; exact k0
    | 1 => cases hq; exact k1
    | 2 => cases hq; exact k2
    | 3 => cases hq; exact k3
    | 4 => cases hq; exact k4
    | 5 => cases hq; exact k5
    | 6 => cases hq; exact k6
    | 7 => cases hq; exact k7
    | 8 => cases hq; exact k8
    | n + 9 => cases hq
  · match k with
    | 0 => cases hq; exact ⟨fun n z => ⟨fun k h => (by cases h), e0, g0, m0, q0⟩, f0⟩
    | 1 => cases hq; exact ⟨fun n z => ⟨fun k h => (by cases h), e1, g1, m1, q1⟩, f1⟩
    | 2 => cases hq; exact ⟨fun n z => ⟨fun k h => (by cases h), e2, g2, m2, q2⟩, f2⟩
    | 3 => cases hq; exact ⟨fun n z => ⟨fun k h => (by cases h), e3, g3, m3, q3⟩, ⟨e3, m3, g3, q3, r3, f3⟩⟩
    | 4 => cases hq; exact ⟨fun n z => ⟨fun k h => (by cases h), e4, g4, m4, q4⟩, f4⟩
    | 5 => cases hq; exact ⟨fun n z => ⟨fun k h => (by cases h), e5, g5, m5, q5⟩, f5⟩
    | n + 6 => cases hq
theorem NW_start {args : Array Value} {s : State} (hto : ∀ w ∈ lw_tbl, w.before args s = true) : NW s := by
  intro w hw
  have h1 := hto w ((show ∀ w ∈ NB, w ∈ lw_tbl by decide +kernel) w hw)
  rcases nestNB w hw with ⟨a, i, b, n, d, t, rfl⟩ | ⟨a, i, y, t, rfl⟩ <;> exact h1
theorem AO_start {args : Array Value} {s : State} (hto : ∀ w ∈ lw_tbl, w.before args s = true) : AO s := by
  intro ty hty
  rcases hty with rfl | rfl | rfl
  · exact (show (Cond.arrayOver (.object "PrimeKeys$Point")).before args s = true from hto _ (by decide +kernel))
  · exact (show (Cond.arrayOver (.array .byte)).before args s = true from hto _ (by decide +kernel))
  · exact (show (Cond.arrayOver (.array .long)).before args s = true from hto _ (by decide +kernel))
theorem Lst_start {args : Array Value} {s : State} {n d : String} {A : Nat → Prop} (h1 : (Cond.laysStatic Bundle.tN n d).before args s = true) (h2 : (Cond.isRef (.static Bundle.tN n d)).before args s = true) (hA : ∀ a : Nat, a < s.heap.size → ¬ A a) : Lst n d A s s.heap := by
  obtain ⟨c, k, i, f, a, cell, hc, hi, hst, ha, hcell, hs, hcls, hlt, hty⟩ := Cond.laysStatic_spec h1
  obtain ⟨v, hv⟩ : ∃ v, cell.slots[f.slot]? = some v := ⟨_, Array.getElem?_eq_getElem hlt⟩
  refine ⟨c, k, i, f, a, cell, v, hc, hi, hst, ha, hcell, hs, hcls, hlt, hty, hv, ?_, hA a (Array.getElem?_eq_some_iff.mp hcell).1⟩
  have he : (Term.static Bundle.tN n d).eval args s none [] s = some v := by
    simp [Term.eval, State.fieldNamed?, hi, hst, ha, hcell, hs, hv]
  simp only [Cond.before, Cond.holds, Cond.value, he] at h2
  cases v <;> simp_all
theorem NC_start {args : Array Value} {s : State} {p q : String} (h1 : (Cond.castable p p).before args s = true) (h2 : (Cond.castable q q).before args s = true) (h3 : (Cond.not (.castable p q)).before args s = true) : ∃ cX cT : ClassId, s.vm.findClass p = some cX ∧ s.vm.findClass q = some cT ∧ s.vm.assignable cX cT = false := by
  obtain ⟨cX, -, hX, -⟩ := Cond.castable_spec h1
  obtain ⟨cT, -, hT, -⟩ := Cond.castable_spec h2
  refine ⟨cX, cT, hX, hT, ?_⟩
  have hv := Cond.holds_not_iff.mp h3
  simp only [Cond.value, hX, hT] at hv
  exact Option.some.inj hv
theorem XW_start {args : Array Value} {s : State} {A : Nat → Prop} (hg : ∀ w ∈ NRW, w.before args s = true) (hto : ∀ w ∈ lw_tbl, w.before args s = true) (hA : ∀ a : Nat, a < s.heap.size → ¬ A a) : XW A s := by
  refine ⟨⟨fun w hw => ?_, Lst_start (hto _ (by decide +kernel)) (hg _ (by decide +kernel)) hA, Lst_start (hto _ (by decide +kernel)) (hg _ (by decide +kernel)) hA⟩, fun ij hij => ?_⟩
  · have h1 := hto w ((show ∀ w ∈ DW, w ∈ lw_tbl by decide +kernel) w hw)
    simp only [DW, List.mem_cons, List.not_mem_nil, or_false] at hw
    rcases hw with rfl | rfl | rfl | rfl | rfl | rfl | rfl <;> exact h1
  · simp only [NCL, List.mem_cons, List.not_mem_nil, or_false] at hij
    rcases hij with rfl | rfl | rfl
    · exact NC_start (hto (.castable (exN 0) (exN 0)) (by decide +kernel)) (hto (.castable (exN 1) (exN 1)) (by decide +kernel)) (hg (.not (.castable (exN 0) (exN 1))) (by decide +kernel))
    · exact NC_start (hto (.castable (exN 1) (exN 1)) (by decide +kernel)) (hto (.castable (exN 2) (exN 2)) (by decide +kernel)) (hg (.not (.castable (exN 1) (exN 2))) (by decide +kernel))
    · exact NC_start (hto (.castable (exN 0) (exN 0)) (by decide +kernel)) (hto (.castable (exN 3) (exN 3)) (by decide +kernel)) (hg (.not (.castable (exN 0) (exN 3))) (by decide +kernel))
/-- what is left of the claim: nothing of the machine -/
def PURE : Prop := ∀ (L : Nat) (xs : Nat → Int32), L ≤ 3072 → ∃ (h : HP) (a1 a2 a3 : Nat) (bs : List (Nat × Nat)), S_La [] = some (h, a1, a2, a3) ∧ LL_La L xs a1 a2 a3 bs h 0 = some () ∧ 357 + (bs.map (fun b => b.1)).sum ≤ 601024 ∧ 208226 + (bs.map (fun b => b.2)).sum ≤ 7293034
theorem whole_from (hp : PURE) {p : Program} {e : Env} {s : State} {m : MethodId} {below : List Frame} {meth : Method} {c : Code} (l : Launch) (htr : l.stackTraces = false) {b L : Nat} {xs : Nat → Int32} (hL : L ≤ 3072) (C0 : lw_At p s m meth c b L xs) : W p l e room_1 s m #[Value.ref b] below meth c s.heap [] 0 0 (lw_Z below #[Value.ref b] s) (entryFrame m ([Value.ref b] : List Value).toArray 7) := by
  obtain ⟨hx, hb, hr, hml, hown, hts, hX, hbl, hlk, hgv⟩ := C0
  have hg := flat_of_before _ hgv
  have hA : ∀ a : Nat, a < s.heap.size → ¬ (fun q => s.heap.size ≤ q) a := fun a ha hz => absurd ha (Nat.not_lt.mpr hz)
  have htb : ∀ w ∈ TB, w.before #[Value.ref b] s = true := fun w hw => hts w (List.mem_filter.mp hw).1
  obtain ⟨sa, hST, hs7⟩ := ST_start (A := fun q => s.heap.size ≤ q) hg hts hA b
  obtain ⟨D, tg, hK⟩ := K_start htb hts
  obtain ⟨h, a1, a2, a3, bs, e1, e2, e3, e4⟩ := hp L xs hL
  have hl := lv_entry [Value.ref b] (n := 7) (Nat.le_of_ble_eq_true rfl)
  rw [lg_entry_eq]
  generalize (lg_sl [Value.ref b] ++ List.replicate (7 - (lg_sl [Value.ref b]).length) Slot.unset).toArray = ls at hl ⊢
  let x : CX := ((p, l, e, room_1, s), (m, #[Value.ref b], below, meth, c), (D, tg, (fun q => s.heap.size ≤ q), 7), (0, (fun _ => 0, sa), lw_Z below #[Value.ref b] s))
  have C : EV x b_La_law "PrimeKeysLaw" 7 rm_La_law := ⟨hx, hb, hml, rfl, hown, htb, hK, fun q hq => hq, NW_start hts, hST, rfl⟩
  have hXW : XW x.2.2.1.2.2.1 x.1.2.2.2.2 := XW_start hg hts hA
  have hSX : SX x L xs := ⟨by show va_X (sa 7) L xs s s.heap; rw [hs7]; exact hX, by show sa 7 < s.heap.size; rw [hs7]; exact hbl, by show ¬ s.heap.size ≤ sa 7; rw [hs7]; exact Nat.not_le.mpr hbl⟩
  have E : CL x := ⟨hr, hlk, rfl, rfl⟩
  have go := s_La (l := l) htr C hXW hSX rfl (AO_start hts) e1 (ll_La (l := l) htr C hXW hSX rfl E bs _ _ h 0 e2 e3 e4)
  have hl' : lv_has ls 7 (lm (fun _ => 0, sa) [(0, .retAddr 7)]) := by
    show lv_has ls 7 [(0, Value.ref (sa 7))]
    rw [hs7]; exact hl
  exact go (fun _ => 0, sa) s.heap [] ls (fun c hc => by cases hc) wfs_0 (wfl_c wfv_t (fun _ h => by cases h)) ⟨Nat.le_refl _, rfl, fun _ _ => rfl⟩ (fun k q hq => by cases hq) ⟨fun i j p q hp => (by cases hp), fun k q hq => (by cases hq)⟩ va_S.rf hl' 
