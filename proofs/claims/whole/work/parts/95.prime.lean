/-! PRIMES: Fermat, Pocklington, pigeons -/
def Pr (p : Nat) : Prop := 2 ≤ p ∧ ∀ d, d ∣ p → d = 1 ∨ d = p
theorem pr_co {p a : Nat} (h : Pr p) (ha : ¬ p ∣ a) : Nat.Coprime p a := by
  rcases h.2 _ (Nat.gcd_dvd_left p a) with e | e
  · exact e
  · have := Nat.gcd_dvd_right p a
    rw [e] at this
    exact absurd this ha
theorem pr_mul {p a b : Nat} (h : Pr p) (d : p ∣ a * b) : p ∣ a ∨ p ∣ b := by
  by_cases z : p ∣ a
  · exact Or.inl z
  · exact Or.inr ((pr_co h z).dvd_of_dvd_mul_left d)
theorem nd_perm : ∀ (l m : List Nat), l.Nodup → (∀ a, a ∈ l → a ∈ m) → m.length ≤ l.length → l.Perm m
  | [], m, _, _, hl => by
    have : m = [] := List.length_eq_zero_iff.mp (Nat.le_zero.mp hl)
    rw [this]
  | a :: l, m, hn, hs, hl => by
    have ha := hs a List.mem_cons_self
    have hn' := List.nodup_cons.mp hn
    have ih := nd_perm l (m.erase a) hn'.2 (fun b hb => (List.mem_erase_of_ne (a := b) (b := a) (fun e => hn'.1 (by rw [← e]; exact hb))).mpr (hs b (List.mem_cons_of_mem _ hb))) (by
      rw [List.length_erase_of_mem ha]
      have : m.length ≤ l.length + 1 := hl
      omega)
    exact (ih.cons a).trans (List.perm_cons_erase ha).symm
theorem nd_map {f : Nat → Nat} : ∀ l : List Nat, l.Nodup → (∀ x, x ∈ l → ∀ y, y ∈ l → f x = f y → x = y) → (l.map f).Nodup
  | [], _, _ => List.nodup_nil
  | a :: l, hn, hi => by
    have hn' := List.nodup_cons.mp hn
    refine List.nodup_cons.mpr ⟨fun hm => ?_, nd_map l hn'.2 (fun x hx y hy => hi x (List.mem_cons_of_mem _ hx) y (List.mem_cons_of_mem _ hy))⟩
    obtain ⟨b, hb, e⟩ := List.mem_map.mp hm
    have := hi b (List.mem_cons_of_mem _ hb) a List.mem_cons_self e
    exact hn'.1 (this ▸ hb)
theorem pigeon {a b : Nat} (f : Nat → Nat) (hf : ∀ i, i < a → f i < b) (inj : ∀ i j, i < a → j < a → f i = f j → i = j) : a ≤ b := by
  refine Classical.byContradiction fun z => ?_
  have hn : ((List.range a).map f).Nodup := nd_map _ List.nodup_range (fun x hx y hy e => inj x y (List.mem_range.mp hx) (List.mem_range.mp hy) e)
  have hp := nd_perm _ (List.range b) hn (fun x hx => by
    obtain ⟨i, hi, rfl⟩ := List.mem_map.mp hx
    exact List.mem_range.mpr (hf i (List.mem_range.mp hi))) (by rw [List.length_map, List.length_range, List.length_range]; omega)
  have := hp.length_eq
  rw [List.length_map, List.length_range, List.length_range] at this
  omega
def pdl : List Nat → Nat
  | [] => 1
  | a :: l => a * pdl l
theorem pdl_perm {l m : List Nat} (h : l.Perm m) : pdl l = pdl m := by
  induction h with
  | nil => rfl
  | cons x _ ih => show x * _ = x * _; rw [ih]
  | swap x y l => show y * (x * pdl l) = x * (y * pdl l); rw [Nat.mul_left_comm]
  | trans _ _ a b => exact a.trans b
theorem pdl_map {a p : Nat} : ∀ l : List Nat, pdl (l.map (fun i => a * i % p)) % p = a ^ l.length * pdl l % p
  | [] => by show 1 % p = a ^ 0 * 1 % p; rw [Nat.pow_zero]
  | b :: l => by
    show (a * b % p) * pdl (l.map (fun i => a * i % p)) % p = a ^ (l.length + 1) * (b * pdl l) % p
    rw [Nat.mul_mod, pdl_map l, Nat.mod_mod, ← Nat.mul_mod, Nat.pow_succ]
    congr 1
    grind
theorem pdl_nd {p : Nat} (h : Pr p) : ∀ l : List Nat, (∀ x, x ∈ l → ¬ p ∣ x) → ¬ p ∣ pdl l
  | [], _ => fun d => by
    have : p ≤ 1 := Nat.le_of_dvd (by decide) d
    have := h.1
    omega
  | a :: l, hl => fun d => by
    rcases pr_mul h d with q | q
    · exact hl a List.mem_cons_self q
    · exact pdl_nd h l (fun x hx => hl x (List.mem_cons_of_mem _ hx)) q
theorem dv_1 {p x : Nat} (h2 : 2 ≤ p) (h1 : 1 ≤ x) (d : p ∣ x - 1) : x % p = 1 := by
  obtain ⟨k, hk⟩ := d
  rw [show x = 1 + p * k by omega, Nat.add_mul_mod_self_left, Nat.mod_eq_of_lt (by omega)]
theorem fermat {p a : Nat} (h : Pr p) (ha : ¬ p ∣ a) : a ^ (p - 1) % p = 1 := by
  have h2 := h.1
  have ha0 : 0 < a := Nat.pos_of_ne_zero (fun e => ha (e ▸ Nat.dvd_zero p))
  have hm : ∀ x, x ∈ List.range' 1 (p - 1) ↔ 1 ≤ x ∧ x < p := fun x => by rw [List.mem_range'_1]; omega
  have nd : ∀ x, 1 ≤ x → x < p → ¬ p ∣ x := fun x h1 h3 d => by have := Nat.le_of_dvd h1 d; omega
  have hn : ((List.range' 1 (p - 1)).map (fun i => a * i % p)).Nodup := by
    refine nd_map _ List.nodup_range' (fun x hx y hy e => ?_)
    have x1 := (hm x).mp hx
    have y1 := (hm y).mp hy
    have key : ∀ x y, 1 ≤ x → x < p → 1 ≤ y → y < p → a * x % p = a * y % p → x ≤ y → x = y := by
      intro x y x1 x2 y1 y2 e le
      have d := Nat.dvd_of_mod_eq_zero (Nat.sub_mod_eq_zero_of_mod_eq e.symm)
      rw [← Nat.mul_sub] at d
      rcases pr_mul h d with q | q
      · exact absurd q ha
      · rcases Nat.eq_zero_or_pos (y - x) with z | z
        · omega
        · have := Nat.le_of_dvd z q
          omega
    rcases Nat.le_total x y with le | le
    · exact key x y x1.1 x1.2 y1.1 y1.2 e le
    · exact (key y x y1.1 y1.2 x1.1 x1.2 e.symm le).symm
  have hp := nd_perm _ (List.range' 1 (p - 1)) hn (fun x hx => by
    obtain ⟨i, hi, rfl⟩ := List.mem_map.mp hx
    have i1 := (hm i).mp hi
    refine (hm _).mpr ⟨?_, Nat.mod_lt _ (by omega)⟩
    refine Nat.pos_of_ne_zero (fun e => ?_)
    rcases pr_mul h (Nat.dvd_of_mod_eq_zero e) with q | q
    · exact ha q
    · exact nd i i1.1 i1.2 q) (by rw [List.length_map]; exact Nat.le_refl _)
  have e1 := pdl_map (a := a) (p := p) (List.range' 1 (p - 1))
  rw [pdl_perm hp, List.length_range'] at e1
  have hP := pdl_nd h (List.range' 1 (p - 1)) (fun x hx => nd x ((hm x).mp hx).1 ((hm x).mp hx).2)
  have d := Nat.dvd_of_mod_eq_zero (Nat.sub_mod_eq_zero_of_mod_eq e1.symm)
  rw [show a ^ (p - 1) * pdl (List.range' 1 (p - 1)) - pdl (List.range' 1 (p - 1)) = (a ^ (p - 1) - 1) * pdl (List.range' 1 (p - 1)) by rw [Nat.sub_mul, Nat.one_mul]] at d
  rcases pr_mul h d with q | q
  · exact dv_1 h2 (Nat.pow_pos ha0) q
  · exact absurd q hP
theorem pr_ex : ∀ (k N : Nat), N ≤ k → 2 ≤ N → ∃ r, Pr r ∧ r ∣ N
  | 0, N, h, h2 => by omega
  | k + 1, N, h, h2 => by
    by_cases z : Pr N
    · exact ⟨N, z, Nat.dvd_refl N⟩
    · have : ∃ d, d ∣ N ∧ d ≠ 1 ∧ d ≠ N := by
        refine Classical.byContradiction fun y => z ⟨h2, fun d hd => ?_⟩
        by_cases z1 : d = 1
        · exact Or.inl z1
        · by_cases z2 : d = N
          · exact Or.inr z2
          · exact absurd ⟨d, hd, z1, z2⟩ y
      obtain ⟨d, hd, d1, d2⟩ := this
      have hle := Nat.le_of_dvd (by omega) hd
      have d0 : d ≠ 0 := fun e => by rw [e] at hd; have := Nat.eq_zero_of_zero_dvd hd; omega
      obtain ⟨r, hr, hr2⟩ := pr_ex k d (by omega) (by omega)
      exact ⟨r, hr, Nat.dvd_trans hr2 hd⟩
theorem pr_sq {N : Nat} (h2 : 2 ≤ N) (h : ∀ r, Pr r → r ∣ N → N < r * r) : Pr N := by
  refine ⟨h2, fun d hd => ?_⟩
  by_cases z1 : d = 1
  · exact Or.inl z1
  · obtain ⟨e, he⟩ := hd
    by_cases z2 : e = 1
    · right; rw [he, z2, Nat.mul_one]
    · exfalso
      have d0 : d ≠ 0 := fun q => by rw [q, Nat.zero_mul] at he; omega
      have e0 : e ≠ 0 := fun q => by rw [q, Nat.mul_zero] at he; omega
      obtain ⟨r, hr, hrd⟩ := pr_ex d d (Nat.le_refl _) (by omega)
      obtain ⟨s, hs, hse⟩ := pr_ex e e (Nat.le_refl _) (by omega)
      have a1 := h r hr (he ▸ Nat.dvd_trans hrd (Nat.dvd_mul_right d e))
      have a2 := h s hs (he ▸ Nat.dvd_trans hse (Nat.dvd_mul_left e d))
      have b1 := Nat.le_of_dvd (by omega) hrd
      have b2 := Nat.le_of_dvd (by omega) hse
      rcases Nat.le_total r s with le | le
      · have : r * r ≤ d * e := Nat.mul_le_mul b1 (Nat.le_trans le b2)
        omega
      · have : s * s ≤ d * e := Nat.mul_le_mul (Nat.le_trans le b1) b2
        omega
theorem po_gcd {b r : Nat} (hr : 2 ≤ r) (m n : Nat) : b ^ m % r = 1 → b ^ n % r = 1 → b ^ (Nat.gcd m n) % r = 1 := by
  induction m, n using Nat.gcd.induction with
  | H0 n => intro _ h; rw [Nat.gcd_zero_left]; exact h
  | H1 m n hm ih =>
    intro h1 h2
    rw [Nat.gcd_rec]
    refine ih ?_ h1
    have e : b ^ n = (b ^ m) ^ (n / m) * b ^ (n % m) := by rw [← Nat.pow_mul, ← Nat.pow_add, Nat.div_add_mod]
    rw [e, Nat.mul_mod, Nat.pow_mod, h1, Nat.one_pow, Nat.mod_eq_of_lt (show 1 < r by omega), Nat.one_mul, Nat.mod_mod] at h2
    exact h2
theorem poc {N q R r : Nat} (hq : Pr q) (hN : 2 ≤ N) (e : N - 1 = q * R) (h1 : 2 ^ (N - 1) % N = 1) (h2 : Nat.gcd (2 ^ R % N + (N - 1)) N = 1) (hr : Pr r) (hd : r ∣ N) : q ∣ r - 1 := by
  have hr2 := hr.1
  refine Classical.byContradiction fun z => ?_
  have b1 : (2 ^ R) ^ q % r = 1 := by
    rw [← Nat.pow_mul, Nat.mul_comm R q, ← e]
    have : 2 ^ (N - 1) % N % r = 2 ^ (N - 1) % r := Nat.mod_mod_of_dvd _ hd
    rw [← this, h1, Nat.mod_eq_of_lt (by omega)]
  have nb : ¬ r ∣ 2 ^ R := by
    intro d
    have hq1 := hq.1
    have : (2 ^ R) ^ q % r = 0 := Nat.mod_eq_zero_of_dvd (Nat.dvd_trans d (by rw [show q = (q - 1) + 1 by omega, Nat.pow_succ]; exact Nat.dvd_mul_left _ _))
    omega
  have b2 := fermat hr nb
  have b3 := po_gcd hr2 q (r - 1) b1 b2
  rw [show Nat.gcd q (r - 1) = 1 from pr_co hq z, Nat.pow_one] at b3
  have b4 : (2 ^ R % N) % r = 1 := by rw [Nat.mod_mod_of_dvd _ hd]; exact b3
  have b5 : r ∣ 2 ^ R % N + (N - 1) := by
    obtain ⟨k, hk⟩ := hd
    refine Nat.dvd_of_mod_eq_zero ?_
    have : 2 ^ R % N + (N - 1) = (2 ^ R % N + r - 1) + r * (k - 1) := by
      have k0 : 1 ≤ k := by
        rcases Nat.eq_zero_or_pos k with q0 | q0
        · rw [q0, Nat.mul_zero] at hk; omega
        · exact q0
      have : r * k = r * (k - 1) + r := by
        rw [show k = (k - 1) + 1 by omega, Nat.mul_add, Nat.mul_one]
        simp
      omega
    rw [this, Nat.add_mul_mod_self_left, show 2 ^ R % N + r - 1 = 2 ^ R % N + (r - 1) by omega, Nat.add_mod, b4, Nat.mod_eq_of_lt (show r - 1 < r by omega), show 1 + (r - 1) = r by omega, Nat.mod_self]
  have := Nat.dvd_gcd b5 hd
  rw [h2] at this
  have := Nat.le_of_dvd (by decide) this
  omega
theorem poc1 {N q R : Nat} (hq : Pr q) (hN : 2 ≤ N) (e : N - 1 = q * R) (h1 : 2 ^ (N - 1) % N = 1) (h2 : Nat.gcd (2 ^ R % N + (N - 1)) N = 1) (hb : N < q * q) : Pr N :=
  pr_sq hN (fun r hr hd => by
    have d := poc hq hN e h1 h2 hr hd
    have := Nat.le_of_dvd (by have := hr.1; omega) d
    have : q * q ≤ r * r := Nat.mul_le_mul (by omega) (by omega)
    omega)
theorem poc2 {N q R q' R' : Nat} (hq : Pr q) (hq' : Pr q') (hN : 2 ≤ N) (hn : ¬ q ∣ q') (e : N - 1 = q * R) (e' : N - 1 = q' * R') (h1 : 2 ^ (N - 1) % N = 1) (h2 : Nat.gcd (2 ^ R % N + (N - 1)) N = 1) (h3 : Nat.gcd (2 ^ R' % N + (N - 1)) N = 1) (hb : N < (q * q') * (q * q')) : Pr N :=
  pr_sq hN (fun r hr hd => by
    have d := poc hq hN e h1 h2 hr hd
    have d' := poc hq' hN e' h1 h3 hr hd
    have := Nat.le_of_dvd (by have := hr.1; omega) ((pr_co hq hn).mul_dvd_of_dvd_of_dvd d d')
    have : (q * q') * (q * q') ≤ r * r := Nat.mul_le_mul (by omega) (by omega)
    omega)
/-- trial division -/
def tdv (N : Nat) : Nat → Bool
  | 0 => true
  | d + 1 => if d < 2 then true else if N % d = 0 then false else tdv N d
theorem tdv_ok {N : Nat} : ∀ L, tdv N L = true → ∀ d, 2 ≤ d → d < L → ¬ d ∣ N
  | 0, _, d, _, h => by omega
  | L + 1, h, d, h1, h2 => by
    unfold tdv at h
    by_cases z : L < 2
    · omega
    · rw [if_neg z] at h
      by_cases y : N % L = 0
      · rw [if_pos y] at h; exact absurd h (by decide)
      · rw [if_neg y] at h
        by_cases w : d = L
        · rw [w]; exact fun c => y (Nat.mod_eq_zero_of_dvd c)
        · exact tdv_ok L h d h1 (by omega)
theorem pr_td {N : Nat} (L : Nat) (h2 : 2 ≤ N) (h : tdv N L = true) (hL : N < L * L) : Pr N :=
  pr_sq h2 (fun r hr hd => by
    refine Classical.byContradiction fun z => ?_
    refine tdv_ok L h r hr.1 ?_ hd
    refine Classical.byContradiction fun y => z ?_
    exact Nat.lt_of_lt_of_le hL (Nat.mul_le_mul (by omega) (by omega)))
/-- powers, by squares -/
def pwm (N : Nat) : Nat → Nat → Nat → Nat → Nat
  | 0, _, _, c => c
  | f + 1, b, e, c => pwm N f (b * b % N) (e / 2) (if e % 2 = 1 then c * b % N else c)
theorem pwm_ok {N : Nat} : ∀ (f b e c : Nat), e < 2 ^ f → pwm N f b e c % N = c * b ^ e % N
  | 0, b, e, c, h => by
    have : e = 0 := by simp at h; exact h
    show c % N = _
    rw [this, Nat.pow_zero, Nat.mul_one]
  | f + 1, b, e, c, h => by
    show pwm N f (b * b % N) (e / 2) (if e % 2 = 1 then c * b % N else c) % N = _
    rw [pwm_ok f _ _ _ (by rw [Nat.pow_succ] at h; omega)]
    have e1 : b ^ e = (b * b) ^ (e / 2) * b ^ (e % 2) := by rw [← Nat.pow_two, ← Nat.pow_mul, ← Nat.pow_add, Nat.div_add_mod]
    rw [Nat.mul_mod, Nat.pow_mod, Nat.mod_mod, ← Nat.pow_mod, e1]
    by_cases z : e % 2 = 1
    · rw [if_pos z, z, Nat.pow_one, Nat.mod_mod, ← Nat.mul_mod]
      congr 1
      rw [Nat.mul_assoc, Nat.mul_comm b]
    · rw [if_neg z, show e % 2 = 0 by omega, Nat.pow_zero, Nat.mul_one, ← Nat.mul_mod]
theorem pwm_eq {N f b e v : Nat} (h : e < 2 ^ f) (k : pwm N f b e 1 % N = v) : b ^ e % N = v := by rw [← k, pwm_ok f b e 1 h, Nat.one_mul]
