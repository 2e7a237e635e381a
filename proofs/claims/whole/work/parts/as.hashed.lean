/-! the reference's hashed -/
section HSD
variable {q : Nat} {th ta me re kc : Int32}
/-- what the reference's hash needs, at its places -/
def RHq (q : Nat) (fs : List Value) (h : HP) : Prop := RHo q (q + 40) (q + 39) (q + 37) (q + 38) (q + 43) fs h
theorem rh_nd (q : Nat) : [q, q + 40, q + 39, q + 37, q + 38, q + 43].Nodup := by simp
theorem rw_hi {S : List Nat} {h h' : HP} {E : Nat → Nat} (R : RW q h E) (k : KP S h h') (n : ∀ j, j ∈ S → j < q ∨ q + 37 ≤ j ∨ (q + 27 ≤ j ∧ j ≤ q + 30) ∨ (q + 1 ≤ j ∧ j ≤ q + 5)) : RW q h' E := by
  have e : ∀ i, 6 ≤ i → i ≤ 26 → h'[q + i]? = h[q + i]? := fun i h1 h2 => k.2 _ (fun z => by have := n _ z; omega)
  have e' : ∀ i, 31 ≤ i → i ≤ 36 → h'[q + i]? = h[q + i]? := fun i h1 h2 => k.2 _ (fun z => by have := n _ z; omega)
  obtain ⟨r1, ⟨a1, a2, a3, a4, a5⟩, ⟨b1, b2⟩, ⟨c1, c2, c3, c4, c5, c6⟩⟩ := R
  refine ⟨fun i hi => by rw [e i (by have := hi.1; omega) hi.2]; exact r1 i hi, ⟨?_, ?_, ?_, ?_, ?_⟩, ⟨?_, ?_⟩, ⟨?_, ?_, ?_, ?_, ?_, ?_⟩⟩
  · rw [e 6 (by decide) (by decide)]; exact a1
  · rw [e 7 (by decide) (by decide)]; exact a2
  · rw [e 8 (by decide) (by decide)]; exact a3
  · rw [e 9 (by decide) (by decide)]; exact a4
  · rw [e 10 (by decide) (by decide)]; exact a5
  · rw [e 11 (by decide) (by decide)]; exact b1
  · rw [e 12 (by decide) (by decide)]; exact b2
  · rw [e' 31 (by decide) (by decide)]; exact c1
  · rw [e' 32 (by decide) (by decide)]; exact c2
  · rw [e' 33 (by decide) (by decide)]; exact c3
  · rw [e' 34 (by decide) (by decide)]; exact c4
  · rw [e' 35 (by decide) (by decide)]; exact c5
  · rw [e' 36 (by decide) (by decide)]; exact c6
end HSD
