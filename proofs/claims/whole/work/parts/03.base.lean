/-! THE PURE HEAP. A cell of the world by its place: bytes, ints, longs, references (places), an object (number of its class, fields; a reference is a place; .retAddr i is the static table i). -/
abbrev PE : Type := (Nat × (Nat → Int8)) ⊕ (Nat × (Nat → Int32)) ⊕ (Nat × (Nat → Int64)) ⊕ (Nat × Nat × (Nat → Option Nat)) ⊕ (Nat × List Value)
abbrev HP : Type := List PE
abbrev pB (n : Nat) (f : Nat → Int8) : PE := .inl (n, f)
abbrev pI (n : Nat) (f : Nat → Int32) : PE := .inr (.inl (n, f))
abbrev pJ (n : Nat) (f : Nat → Int64) : PE := .inr (.inr (.inl (n, f)))
abbrev pR (t n : Nat) (f : Nat → Option Nat) : PE := .inr (.inr (.inr (.inl (t, n, f))))
abbrev pO (c : Nat) (fs : List Value) : PE := .inr (.inr (.inr (.inr (c, fs))))
abbrev AD : Type := (Nat → Nat) × (Nat → Nat)
def vv (ad : AD) (v : Value) : Value := match v with
  | .ref k => .ref (ad.1 k)
  | .retAddr i => .ref (ad.2 i)
  | v => v
def cv (tg : Nat → ClassId) (ad : AD) (c : PE) : va_E := match c with
  | .inl (n, f) => .inl (tg 0, n, .inl (fun j => (f j).toInt32))
  | .inr (.inl (n, f)) => .inl (tg 1, n, .inl f)
  | .inr (.inr (.inl (n, f))) => .inl (tg 2, n, .inr (.inl f))
  | .inr (.inr (.inr (.inl (t, n, f)))) => .inl (tg t, n, .inr (.inr (.inr (.inr (fun j => (f j).map ad.1)))))
  | .inr (.inr (.inr (.inr (c, fs)))) => .inr (c, fs.map (vv ad))
def wd (tg : Nat → ClassId) (ad : AD) (h : HP) : va_W := h.mapIdx (fun j c => (ad.1 j, cv tg ad c))
def wfv (n : Nat) (v : Value) : Prop := ∀ k, v = .ref k → k < n
def wfs (n : Nat) (st : List Value) : Prop := ∀ v ∈ st, wfv n v
def wfl (n : Nat) (lv : List (Nat × Value)) : Prop := ∀ q ∈ lv, wfv n q.2
def wfc (n : Nat) (c : PE) : Prop := match c with
  | .inr (.inr (.inr (.inl (_, _, f)))) => ∀ j k, f j = some k → k < n
  | .inr (.inr (.inr (.inr (_, fs)))) => wfs n fs
  | _ => True
def wfh (h : HP) : Prop := ∀ c ∈ h, wfc h.length c
def lm (ad : AD) (lv : List (Nat × Value)) : List (Nat × Value) := lv.map (fun q => (q.1, vv ad q.2))
theorem wd_get {tg : Nat → ClassId} {ad : AD} {h : HP} {k : Nat} {c : PE} (hk : h[k]? = some c) : (wd tg ad h)[k]? = some (ad.1 k, cv tg ad c) := by
  simp [wd, hk]
theorem wd_set {tg : Nat → ClassId} {ad : AD} {h : HP} {k : Nat} {c : PE} : (wd tg ad h).set k (ad.1 k, cv tg ad c) = wd tg ad (h.set k c) := by
  simp [wd]
theorem wd_length {tg : Nat → ClassId} {ad : AD} {h : HP} : (wd tg ad h).length = h.length := by simp [wd]
theorem vv_agree {ad ad' : AD} {n : Nat} {v : Value} (h2 : ad'.2 = ad.2) (h : ∀ k, k < n → ad'.1 k = ad.1 k) (hv : wfv n v) : vv ad' v = vv ad v := by
  cases v <;> simp [vv, h2]
  exact h _ (hv _ rfl)
theorem vs_agree {ad ad' : AD} {n : Nat} (h2 : ad'.2 = ad.2) (h : ∀ k, k < n → ad'.1 k = ad.1 k) : ∀ {st : List Value}, wfs n st → st.map (vv ad') = st.map (vv ad)
  | [], _ => rfl
  | v :: st, hv => by
    rw [List.map_cons, List.map_cons, vv_agree h2 h (hv v List.mem_cons_self), vs_agree h2 h (fun w hw => hv w (List.mem_cons_of_mem _ hw))]
theorem lm_agree {ad ad' : AD} {n : Nat} (h2 : ad'.2 = ad.2) (h : ∀ k, k < n → ad'.1 k = ad.1 k) : ∀ {lv : List (Nat × Value)}, wfl n lv → lm ad' lv = lm ad lv
  | [], _ => rfl
  | q :: lv, hv => by
    show (q.1, vv ad' q.2) :: lm ad' lv = (q.1, vv ad q.2) :: lm ad lv
    rw [vv_agree h2 h (hv q List.mem_cons_self), lm_agree h2 h (fun w hw => hv w (List.mem_cons_of_mem _ hw))]
theorem cv_agree {tg : Nat → ClassId} {ad ad' : AD} {n : Nat} {c : PE} (h2 : ad'.2 = ad.2) (h : ∀ k, k < n → ad'.1 k = ad.1 k) (hc : wfc n c) : cv tg ad' c = cv tg ad c := by
  rcases c with ⟨n1, f⟩ | ⟨n1, f⟩ | ⟨n1, f⟩ | ⟨t, n1, f⟩ | ⟨ci, fs⟩
  · rfl
  · rfl
  · rfl
  · show Sum.inl _ = Sum.inl _
    have : (fun j => (f j).map ad'.1) = (fun j => (f j).map ad.1) := by
      funext j
      cases hf : f j with
      | none => rfl
      | some k => simp [h k (hc j k hf)]
    rw [this]
  · show Sum.inr _ = Sum.inr _
    rw [vs_agree h2 h hc]
theorem wd_agree {tg : Nat → ClassId} {ad ad' : AD} {h : HP} (hw : wfh h) (h2 : ad'.2 = ad.2) (ha : ∀ k, k < h.length → ad'.1 k = ad.1 k) : wd tg ad' h = wd tg ad h := by
  apply List.ext_getElem?
  intro i
  simp only [wd, List.getElem?_mapIdx]
  cases hi : h[i]? with
  | none => rfl
  | some c =>
    have hl : i < h.length := (List.getElem?_eq_some_iff.mp hi).1
    simp [ha i hl, cv_agree h2 ha (hw c (List.mem_of_getElem? hi))]
theorem wfv_up {n m : Nat} {v : Value} (h : wfv n v) (hm : n ≤ m) : wfv m v := fun k e => Nat.lt_of_lt_of_le (h k e) hm
theorem wfs_up {n m : Nat} {st : List Value} (h : wfs n st) (hm : n ≤ m) : wfs m st := fun v hv => wfv_up (h v hv) hm
theorem wfl_up {n m : Nat} {st : List (Nat × Value)} (h : wfl n st) (hm : n ≤ m) : wfl m st := fun v hv => wfv_up (h v hv) hm
theorem wfc_up {n m : Nat} {c : PE} (h : wfc n c) (hm : n ≤ m) : wfc m c := by
  rcases c with ⟨n1, f⟩ | ⟨n1, f⟩ | ⟨n1, f⟩ | ⟨t, n1, f⟩ | ⟨ci, fs⟩
  · trivial
  · trivial
  · trivial
  · exact fun j k e => Nat.lt_of_lt_of_le (h j k e) hm
  · exact wfs_up h hm
theorem wfh_set {h : HP} {k : Nat} {c : PE} (hw : wfh h) (hc : wfc h.length c) : wfh (h.set k c) := by
  intro d hd
  rw [List.length_set]
  rcases List.mem_or_eq_of_mem_set hd with h1 | h1
  · exact hw d h1
  · rw [h1]; exact hc
theorem wfh_push {h : HP} {c : PE} (hw : wfh h) (hc : wfc (h.length + 1) c) : wfh (h ++ [c]) := by
  intro d hd
  rw [List.length_append, List.length_singleton]
  rcases List.mem_append.mp hd with h1 | h1
  · exact wfc_up (hw d h1) (Nat.le_succ _)
  · rw [List.mem_singleton.mp h1]; exact hc
theorem wfv_i {n : Nat} {x : Int32} : wfv n (.int x) := fun _ e => by cases e
theorem wfv_j {n : Nat} {x : Int64} : wfv n (.long x) := fun _ e => by cases e
theorem wfv_n {n : Nat} : wfv n .null := fun _ e => by cases e
theorem wfv_t {n i : Nat} : wfv n (.retAddr i) := fun _ e => by cases e
theorem wfv_r {n k : Nat} (h : k < n) : wfv n (.ref k) := fun _ e => by cases e; exact h
theorem wfv_k {n k : Nat} (h : wfv n (.ref k)) : k < n := h k rfl
theorem wfs_c {n : Nat} {v : Value} {st : List Value} (h : wfv n v) (hs : wfs n st) : wfs n (v :: st) := by
  intro w hw
  rcases List.mem_cons.mp hw with h1 | h1
  · rw [h1]; exact h
  · exact hs w h1
theorem wfs_t {n : Nat} {v : Value} {st : List Value} (h : wfs n (v :: st)) : wfs n st := fun w hw => h w (List.mem_cons_of_mem _ hw)
theorem wfs_h {n : Nat} {v : Value} {st : List Value} (h : wfs n (v :: st)) : wfv n v := h v List.mem_cons_self
theorem wfs_0 {n : Nat} : wfs n [] := fun _ h => by cases h
theorem wfl_at {n k i : Nat} {v : Value} {lv : List (Nat × Value)} (h : wfl n lv) (hk : lv[k]? = some (i, v)) : wfv n v := h _ (List.mem_of_getElem? hk)
theorem wfl_c {n i : Nat} {v : Value} {lv : List (Nat × Value)} (h : wfv n v) (hs : wfl n lv) : wfl n ((i, v) :: lv) := by
  intro w hw
  rcases List.mem_cons.mp hw with h1 | h1
  · rw [h1]; exact h
  · exact hs w h1
theorem wfl_f {n : Nat} {lv : List (Nat × Value)} (g : Nat × Value → Bool) (h : wfl n lv) : wfl n (lv.filter g) := fun w hw => h w (List.mem_filter.mp hw).1
theorem lm_at {ad : AD} {lv : List (Nat × Value)} {k i : Nat} {v : Value} (hk : lv[k]? = some (i, v)) : (lm ad lv)[k]? = some (i, vv ad v) := by
  simp [lm, hk]
theorem vv_cat {ad : AD} {v : Value} (hv : ∀ i, v ≠ .retAddr i) : (vv ad v).category = v.category := by
  cases v <;> first | rfl | exact absurd rfl (hv _)
theorem vv_cat' {ad : AD} {v : Value} : (vv ad v).category = v.category := by
  cases v <;> rfl
theorem lm_filter {ad : AD} (i : Nat) : ∀ (lv : List (Nat × Value)), (lm ad lv).filter (fun q => !(q.1 == i) && !(q.1 + 1 == i && q.2.category == 2)) = lm ad (lv.filter (fun q => !(q.1 == i) && !(q.1 + 1 == i && q.2.category == 2)))
  | [] => rfl
  | q :: lv => by
    have ih := lm_filter (ad := ad) i lv
    simp only [lm, List.map_cons, List.filter_cons, vv_cat'] at ih ⊢
    split
    · rw [List.map_cons, ih]
    · exact ih
theorem lm_filter2 {ad : AD} (i : Nat) : ∀ (lv : List (Nat × Value)), (lm ad lv).filter (fun q => !(q.1 == i) && (!(q.1 == i + 1) && !(q.1 + 1 == i && q.2.category == 2))) = lm ad (lv.filter (fun q => !(q.1 == i) && (!(q.1 == i + 1) && !(q.1 + 1 == i && q.2.category == 2))))
  | [] => rfl
  | q :: lv => by
    have ih := lm_filter2 (ad := ad) i lv
    simp only [lm, List.map_cons, List.filter_cons, vv_cat'] at ih ⊢
    split
    · rw [List.map_cons, ih]
    · exact ih
/-! THE PURE STEPS (none: the machine would not go on by the plain road) -/
def ldB (h : HP) (k : Nat) (i : Int32) : Option Int32 := match h[k]? with
  | some (.inl (n, f)) => if i < 0 ∨ n ≤ i.toNatClampNeg then none else some (f i.toNatClampNeg).toInt32
  | _ => none
def ldI (h : HP) (k : Nat) (i : Int32) : Option Int32 := match h[k]? with
  | some (.inr (.inl (n, f))) => if i < 0 ∨ n ≤ i.toNatClampNeg then none else some (f i.toNatClampNeg)
  | _ => none
def ldJ (h : HP) (k : Nat) (i : Int32) : Option Int64 := match h[k]? with
  | some (.inr (.inr (.inl (n, f)))) => if i < 0 ∨ n ≤ i.toNatClampNeg then none else some (f i.toNatClampNeg)
  | _ => none
def ldR (h : HP) (k t : Nat) (i : Int32) : Option Nat := match h[k]? with
  | some (.inr (.inr (.inr (.inl (u, n, f))))) => if u ≠ t ∨ i < 0 ∨ n ≤ i.toNatClampNeg then none else f i.toNatClampNeg
  | _ => none
def stB (h : HP) (k : Nat) (i x : Int32) : Option HP := match h[k]? with
  | some (.inl (n, f)) => if i < 0 ∨ n ≤ i.toNatClampNeg then none else some (h.set k (pB n (va_up f i.toNatClampNeg x.toInt8)))
  | _ => none
def stI (h : HP) (k : Nat) (i x : Int32) : Option HP := match h[k]? with
  | some (.inr (.inl (n, f))) => if i < 0 ∨ n ≤ i.toNatClampNeg then none else some (h.set k (pI n (va_up f i.toNatClampNeg x)))
  | _ => none
def stJ (h : HP) (k : Nat) (i : Int32) (x : Int64) : Option HP := match h[k]? with
  | some (.inr (.inr (.inl (n, f)))) => if i < 0 ∨ n ≤ i.toNatClampNeg then none else some (h.set k (pJ n (va_up f i.toNatClampNeg x)))
  | _ => none
def gV (h : HP) (k c j : Nat) : Option Value := match h[k]? with
  | some (.inr (.inr (.inr (.inr (d, fs))))) => if d = c then fs[j]? else none
  | _ => none
def gI (h : HP) (k c j : Nat) : Option Int32 := match gV h k c j with
  | some (.int x) => some x
  | _ => none
def gJ (h : HP) (k c j : Nat) : Option Int64 := match gV h k c j with
  | some (.long x) => some x
  | _ => none
def gR (h : HP) (k c j : Nat) : Option Nat := match gV h k c j with
  | some (.ref x) => some x
  | _ => none
def pV (h : HP) (k c j : Nat) (v : Value) : Option HP := match h[k]? with
  | some (.inr (.inr (.inr (.inr (d, fs))))) => if d = c ∧ j < fs.length then some (h.set k (pO c (fs.set j v))) else none
  | _ => none
def pZ (h : HP) (k c j : Nat) (x : Int32) : Option HP := if x = 0 ∨ x = 1 then pV h k c j (.int x) else none
def pN (h : HP) (k c j r : Nat) : Option HP := if r < h.length then pV h k c j (.ref r) else none
def ln (h : HP) (k : Nat) : Option Int32 := match h[k]? with
  | some (.inl (n, _)) => some (Int32.ofNat n)
  | some (.inr (.inl (n, _))) => some (Int32.ofNat n)
  | some (.inr (.inr (.inl (n, _)))) => some (Int32.ofNat n)
  | some (.inr (.inr (.inr (.inl (_, n, _))))) => some (Int32.ofNat n)
  | _ => none
def cpB (h : HP) (a : Nat) (sp : Int32) (b : Nat) (dp n : Int32) : Option HP := match h[a]?, h[b]? with
  | some (.inl (n0, f)), some (.inl (n1, g)) => if sp < 0 ∨ dp < 0 ∨ n < 0 ∨ n0 < sp.toNatClampNeg + n.toNatClampNeg ∨ n1 < dp.toNatClampNeg + n.toNatClampNeg then none else some (h.set b (pB n1 (va_cpy f g sp.toNatClampNeg dp.toNatClampNeg n.toNatClampNeg)))
  | _, _ => none
def cpJ (h : HP) (a : Nat) (sp : Int32) (b : Nat) (dp n : Int32) : Option HP := match h[a]?, h[b]? with
  | some (.inr (.inr (.inl (n0, f)))), some (.inr (.inr (.inl (n1, g)))) => if sp < 0 ∨ dp < 0 ∨ n < 0 ∨ n0 < sp.toNatClampNeg + n.toNatClampNeg ∨ n1 < dp.toNatClampNeg + n.toNatClampNeg then none else some (h.set b (pJ n1 (va_cpy f g sp.toNatClampNeg dp.toNatClampNeg n.toNatClampNeg)))
  | _, _ => none
def nar (h : HP) (c : PE) : HP := h ++ [c]
def lt {α β : Type} (a : α) (k : α → β) : β := k a
def bnd {α β : Type} (a : Option α) (k : α → Option β) : Option β := match a with
  | some x => k x
  | none => none
def gd {β : Type} (c : Prop) [Decidable c] (k : Option β) : Option β := if c then k else none
theorem of_bnd {α β : Type} {a : Option α} {k : α → Option β} {r : β} (h : bnd a k = some r) : ∃ x, a = some x ∧ k x = some r := by
  cases a with
  | none => cases h
  | some x => exact ⟨x, rfl, h⟩
theorem of_gd {β : Type} {c : Prop} [Decidable c] {k : Option β} {r : β} (h : gd c k = some r) : c ∧ k = some r := by
  unfold gd at h
  split at h
  · exact ⟨by assumption, h⟩
  · cases h
theorem of_lt {α β : Type} {a x : α} {k : α → Option β} {r : β} (e : x = a) (h : lt a k = some r) : k x = some r := by rw [e]; exact h
theorem of_if {β : Type} {c : Prop} [Decidable c] {a b : Option β} {r : β} (hc : c) (h : (if c then a else b) = some r) : a = some r := by rwa [if_pos hc] at h
theorem of_el {β : Type} {c : Prop} [Decidable c] {a b : Option β} {r : β} (hc : ¬ c) (h : (if c then a else b) = some r) : b = some r := by rwa [if_neg hc] at h
