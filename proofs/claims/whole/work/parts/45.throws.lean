/-! THROWN: a method that ends in 'throw new E()' (no message, a launch without stack traces) -/
def exN : Nat → String := fun i => match i with
  | 0 => "java/lang/IllegalStateException"
  | 1 => "java/lang/IllegalArgumentException"
  | 2 => "java/util/NoSuchElementException"
  | _ => "java/lang/IndexOutOfBoundsException"
abbrev upN : List String := ["java/lang/RuntimeException", "java/lang/Exception"]
def DW : List Cond := [.declares (Bundle.init0 "java/lang/RuntimeException"), .declares (Bundle.init0 "java/lang/Exception"), .declares (Bundle.init0 Bundle.tN), .castable (exN 0) (exN 0), .castable (exN 1) (exN 1), .castable (exN 2) (exN 2), .castable (exN 3) (exN 3)]
def Lst (n d : String) (A : Nat → Prop) (U : State) (H : Heap) : Prop := ∃ (c : ClassId) (k : Class) (i : Nat) (f : Field) (a : Nat) (cell : Cell) (v : Value), U.vm.findClass Bundle.tN = some c ∧ U.fieldFound? Bundle.tN n d = some (c, k, i, f) ∧ f.isStatic = true ∧ k.statics = some a ∧ H[a]? = some cell ∧ cell.vm.isStatics = true ∧ cell.cls = c ∧ f.slot < cell.slots.size ∧ k.staticTypes[f.slot]? = some f.type ∧ cell.slots[f.slot]? = some v ∧ (v = .null ∨ ∃ t, v = .ref t) ∧ ¬ A a
theorem Lst.at {n d : String} {A B : Nat → Prop} {s U : State} {H : Heap} {locs : List Loc} (h : Lst n d A s s.heap) (hS : va_S A s.heap H locs) (hU : U.heap = H) (hal : s.vm.Alike U.vm) (hB : ∀ q, B q → A q) : Lst n d B U U.heap := by
  obtain ⟨c, k, i, f, a, cell, v, hc, hi, hst, ha, hcell, hs, hcls, hlt, hty, hv, hr, hA⟩ := h
  obtain ⟨k', hi', hek⟩ := State.fieldFound?_setVm hal hi
  refine ⟨c, k', i, f, a, cell, v, by rw [hal.findClass]; exact hc, hi', hst, by rw [hek]; exact ha, ?_, hs, hcls, hlt, by rw [hek]; exact hty, hv, hr, fun z => hA (hB a z)⟩
  rw [hU, hS.2.1 a (Array.getElem?_eq_some_iff.mp hcell).1 hA]
  exact hcell
theorem Lst.lays {n d : String} {A : Nat → Prop} {U : State} {args : Array Value} (h : Lst n d A U U.heap) : (Cond.laysStatic Bundle.tN n d).before args U = true := by
  obtain ⟨c, k, i, f, a, cell, v, hc, hi, hst, ha, hcell, hs, hcls, hlt, hty, hv, hr, hA⟩ := h
  exact Cond.laysStatic_of hc hi hst ha hcell hs hcls hlt hty
theorem Lst.isRef {n d : String} {A : Nat → Prop} {U : State} {args : Array Value} (h : Lst n d A U U.heap) : (Cond.isRef (.static Bundle.tN n d)).before args U = true := by
  obtain ⟨c, k, i, f, a, cell, v, hc, hi, hst, ha, hcell, hs, hcls, hlt, hty, hv, hr, hA⟩ := h
  have he : (Term.static Bundle.tN n d).eval args U none [] U = some v := by
    simp [Term.eval, State.fieldNamed?, hi, hst, ha, hcell, hs, hv]
  rcases hr with rfl | ⟨t, rfl⟩ <;> simp [Cond.before, Cond.holds, Cond.value, he]
def XT (A : Nat → Prop) (U : State) : Prop := (∀ w ∈ DW, w.before #[] U = true) ∧ Lst "UNASSIGNED_STACK" Bundle.steD A U U.heap ∧ Lst "SUPPRESSED_SENTINEL" Bundle.listD A U U.heap
theorem DW.moved {s U : State} (hal : s.vm.Alike U.vm) (h : ∀ w ∈ DW, w.before #[] s = true) : ∀ w ∈ DW, w.before #[] U = true := by
  intro w hw
  have h1 := h w hw
  simp only [DW, List.mem_cons, List.not_mem_nil, or_false] at hw
  rcases hw with rfl | rfl | rfl | rfl | rfl | rfl | rfl
  · rw [← Cond.declares_setVm (args := #[]) (s := s) hal] at h1; exact h1
  · rw [← Cond.declares_setVm (args := #[]) (s := s) hal] at h1; exact h1
  · rw [← Cond.declares_setVm (args := #[]) (s := s) hal] at h1; exact h1
  · rw [← Cond.castable_setVm (args := #[]) (s := s) hal] at h1; exact h1
  · rw [← Cond.castable_setVm (args := #[]) (s := s) hal] at h1; exact h1
  · rw [← Cond.castable_setVm (args := #[]) (s := s) hal] at h1; exact h1
  · rw [← Cond.castable_setVm (args := #[]) (s := s) hal] at h1; exact h1
theorem XT.at {A B : Nat → Prop} {s U : State} {H : Heap} {locs : List Loc} (h : XT A s) (hS : va_S A s.heap H locs) (hU : U.heap = H) (hal : s.vm.Alike U.vm) (hB : ∀ q, B q → A q) : XT B U :=
  ⟨DW.moved hal h.1, h.2.1.at hS hU hal hB, h.2.2.at hS hU hal hB⟩
theorem XT.same {A : Nat → Prop} {s U : State} (h : XT A s) (hh : U.heap = s.heap) (hal : s.vm.Alike U.vm) : XT A U := XT.at h (va_S.rf (A := A)) hh hal (fun _ z => z)
/-- the atoms that a throw needs, out of the words and XT -/
theorem XT.atoms {A : Nat → Prop} {s : State} {args : Array Value} {own : String} {ic i : Nat} (hi : i < 4) (hx : XT A s) (ht : ∀ w ∈ TB, w.before args s = true) (hl : Cond.methodLink own ic (Bundle.init0 (exN i)) ∈ TB) : ∀ w ∈ Bundle.ownAtoms0 own ic (exN i) upN, w.before args s = true := by
  have hd : ∀ w ∈ DW, w.before args s = true := by
    intro w hw
    have h1 := hx.1 w hw
    simp only [DW, List.mem_cons, List.not_mem_nil, or_false] at hw
    rcases hw with rfl | rfl | rfl | rfl | rfl | rfl | rfl <;> exact h1
  intro w hw
  have key : w = Cond.methodLink own ic (Bundle.init0 (exN i)) ∨ w ∈ DW ∨ w = .laysStatic Bundle.tN "UNASSIGNED_STACK" Bundle.steD ∨ w = .laysStatic Bundle.tN "SUPPRESSED_SENTINEL" Bundle.listD ∨ w = .isRef (.static Bundle.tN "UNASSIGNED_STACK" Bundle.steD) ∨ w = .isRef (.static Bundle.tN "SUPPRESSED_SENTINEL" Bundle.listD) ∨ w ∈ TB := by
    have h0 : w = Cond.methodLink own ic (Bundle.init0 (exN i)) ∨ w ∈ (Bundle.ownAtoms0 "" 0 (exN i) upN).filter (fun z => z != Cond.methodLink "" 0 (Bundle.init0 (exN i))) := by
      simp only [Bundle.ownAtoms0, List.mem_append, List.mem_cons, List.not_mem_nil, or_false, List.mem_filter] at hw ⊢
      rcases hw with (h | h) | h | h
      · right; exact ⟨Or.inl (Or.inl h), by
          match i, hi with
          | 0, _ => revert w; decide +kernel
          | 1, _ => revert w; decide +kernel
          | 2, _ => revert w; decide +kernel
          | 3, _ => revert w; decide +kernel⟩
      · right; exact ⟨Or.inl (Or.inr h), by
          match i, hi with
          | 0, _ => revert w; decide +kernel
          | 1, _ => revert w; decide +kernel
          | 2, _ => revert w; decide +kernel
          | 3, _ => revert w; decide +kernel⟩
      · left; exact h
      · right; exact ⟨Or.inr (Or.inr h), by
          have h9 : w ∈ ([.instantiable (exN i) 6, .castable (exN i) (exN i), .selects (exN i) Bundle.tFill0 Bundle.tFill0, .selects (exN i) Bundle.tFill Bundle.tFill, .lays (exN i) Bundle.tN "cause" "Ljava/lang/Throwable;", .lays (exN i) Bundle.tN "stackTrace" Bundle.steD, .lays (exN i) Bundle.tN "suppressedExceptions" Bundle.listD, .lays (exN i) Bundle.tN "detailMessage" "Ljava/lang/String;", .isRef (.static Bundle.tN "UNASSIGNED_STACK" Bundle.steD), .isRef (.static Bundle.tN "SUPPRESSED_SENTINEL" Bundle.listD), .fieldLink Bundle.tN 198 Bundle.tN "backtrace" "Ljava/lang/Object;", .lays Bundle.tN Bundle.tN "backtrace" "Ljava/lang/Object;", .lays (exN i) Bundle.tN "backtrace" "Ljava/lang/Object;"] : List Cond) := by simpa using h
          clear h
          match i, hi with
          | 0, _ => revert w; decide +kernel
          | 1, _ => revert w; decide +kernel
          | 2, _ => revert w; decide +kernel
          | 3, _ => revert w; decide +kernel⟩
    rcases h0 with h0 | h0
    · exact Or.inl h0
    · right
      clear hw
      match i, hi with
      | 0, _ => revert w; decide +kernel
      | 1, _ => revert w; decide +kernel
      | 2, _ => revert w; decide +kernel
      | 3, _ => revert w; decide +kernel
  rcases key with rfl | h | rfl | rfl | rfl | rfl | h
  · exact ht _ hl
  · exact hd w h
  · exact hx.2.1.lays
  · exact hx.2.2.lays
  · exact hx.2.1.isRef
  · exact hx.2.2.isRef
  · exact ht w h
