/-! the reference's constants: its primes, its roots -/
def bi (b : Bool) : Int32 := if b then 1 else 0
def tr (p : Nat) : Nat → Nat → Bool → Bool
  | 0, _, b => b
  | r + 1, d, b => if p < d * d then b else tr p r (d + 1) (b && p % d != 0)
theorem pr1 {K4 : HP → Int32 → Int32 → Option (Int32 × HP)} {h : HP} {p : Nat} (hp : p < 2 ^ 14) : ∀ (r d f : Nat) (b : Bool), d + r = p + 1 → r < f → 1 ≤ d → L_Rm_prime_15 K4 f h (nI p) (bi b) (nI d) = K4 h (nI p) (bi (tr p r d b)) := by
  have hsq : ∀ d : Nat, d ≤ p + 1 → d * d < 2 ^ 31 := fun d hd => Nat.lt_of_le_of_lt (Nat.mul_le_mul (show d ≤ 2 ^ 14 by omega) (show d ≤ 2 ^ 14 by omega)) (by decide)
  intro r
  induction r with
  | zero =>
    intro d f b hr hfu hd
    cases f with
    | zero => omega
    | succ f =>
      have hd' : d = p + 1 := by omega
      subst hd'
      show B_Rm_prime_15 K4 _ h (nI p) (bi b) (nI (p + 1)) = _
      unfold B_Rm_prime_15
      rw [pk_mul, if_pos (nI_lt (by
        have := Nat.mul_le_mul_left (p + 1) (show 1 ≤ p + 1 by omega)
        omega) (hsq _ (Nat.le_refl _)))]
      rfl
  | succ r ih =>
    intro d f b hr hfu hd
    cases f with
    | zero => omega
    | succ f =>
      show B_Rm_prime_15 K4 (L_Rm_prime_15 K4 f) h (nI p) (bi b) (nI d) = K4 h (nI p) (bi (if p < d * d then b else tr p r (d + 1) (b && p % d != 0)))
      unfold B_Rm_prime_15
      rw [pk_mul]
      by_cases z : p < d * d
      · rw [if_pos (nI_lt z (hsq d (by omega))), if_pos z]
      · rw [if_neg (nI_nlt (by omega) (by omega)), if_neg z, gs_ (nI_ne0 (by omega) (by omega)), pk_rem (by omega) (by omega) (by omega)]
        have nx : ∀ v : Int32, B_Rm_prime_30 K4 (L_Rm_prime_15 K4 f) h (nI p) v (nI d) = L_Rm_prime_15 K4 f h (nI p) v (nI (d + 1)) := fun v => by
          show L_Rm_prime_15 K4 f h (nI p) v (nI d + Int32.ofInt 1) = _
          rw [nI_ofInt1]
        by_cases y : p % d = 0
        · rw [y, if_pos nI_0, nx]
          have e := ih (d + 1) f false (by omega) (by omega) (by omega)
          rw [show (b && 0 != 0) = false by simp]
          exact e
        · rw [if_neg (nI_ne0 (by omega) (Nat.lt_of_le_of_lt (Nat.mod_le _ _) (by omega))), nx, show (b && p % d != 0) = b by simp [y]]
          exact ih (d + 1) f b (by omega) (by omega) (by omega)
def nxo : Nat → Nat → Option Nat
  | 0, _ => none
  | n + 1, a => if tr (a + 1) a 2 true = true then some (a + 1) else nxo n (a + 1)
theorem pr2 {h : HP} : ∀ (n f a p : Nat), n < f → 1 ≤ a → a + n < 2 ^ 14 → nxo n a = some p → L_Rm_prime_4 f h (nI a) 0 = some (nI p, h) := by
  intro n
  induction n with
  | zero => intro f a p hf h1 h2 h3; cases h3
  | succ n ih =>
    intro f a p hf h1 h2 h3
    cases f with
    | zero => omega
    | succ f =>
      show B_Rm_prime_4 (L_Rm_prime_4 f) h (nI a) 0 = _
      unfold B_Rm_prime_4
      rw [if_pos rfl]
      show L_Rm_prime_15 (L_Rm_prime_4 f) FU h (nI a + Int32.ofInt 1) (bi true) (nI 2) = _
      rw [nI_ofInt1, pr1 (by omega) a 2 FU true (by omega) (show a < 70000 by omega) (by omega)]
      have h4 : (if tr (a + 1) a 2 true = true then some (a + 1) else nxo n (a + 1)) = some p := h3
      by_cases z : tr (a + 1) a 2 true = true
      · rw [if_pos z] at h4
        cases h4
        rw [z]
        cases f with
        | zero => omega
        | succ f =>
          show B_Rm_prime_4 _ h (nI (a + 1)) 1 = _
          unfold B_Rm_prime_4
          rw [if_neg (by decide)]
      · rw [if_neg z] at h4
        rw [show tr (a + 1) a 2 true = false by simpa using z]
        exact ih f (a + 1) p (by omega) (by omega) (by omega) h4
theorem e_prime {h : HP} {a p : Nat} (h1 : 1 ≤ a) (h2 : a < 2 ^ 13) (h3 : nxo 100 a = some p) : P_Rm_prime h (nI a) = some (nI p, h) := pr2 100 FU a p (by decide) h1 (by omega) h3
def prl : List Nat := [1, 2, 3, 5, 7, 11, 13, 17, 19, 23, 29, 31, 37, 41, 43, 47, 53, 59, 61, 67, 71, 73, 79, 83, 89, 97, 101, 103, 107, 109, 113, 127, 131, 137, 139, 149, 151, 157, 163, 167, 173, 179, 181, 191, 193, 197, 199, 211, 223, 227, 229, 233, 239, 241, 251, 257, 263, 269, 271, 277, 281, 283, 293, 307, 311]
def pl (k : Nat) : Nat := prl.getD k 0
def y3l : List Nat := [23241441160490167842, 26604808713878332877, 31543488660544240431, 35287351959220771772, 41025191555757552952, 43374469216020582425, 47431773444313272219, 49223322299838333208, 52460086356995146306, 56674242196778545086, 57948244932766773900, 61468643694135456994, 63608380943893236079, 64626287408284341937, 66571091106846937653, 69291241975837173396, 71813108563482594002, 72615556083564357091, 74922338351982630325, 76384605279477341285, 77095200552867529333, 79152035218479047811, 80466001307761769428, 82360010132597855157, 84757271453788200875, 85906662539289440784, 86470001012957192511, 87575168524888248036, 88117443448470540226, 89182409882623190821, 92723033081372705391, 93686458245878541936, 95095488024300105724, 95556006044611561766, 97794660939065469677, 98230277650290947039, 99514478923103560670, 100766364611844223656, 101583977345534766822, 102786266195516601659, 103961068102722061156, 104346826991781163009, 106234157551817627537, 106603670640207904304, 107335108066752287256, 107697117917222381840, 109819772810290077738, 111863398698143437240, 112528278492720320712, 112857792170093030227, 113511107980111571865, 114477206417490790568, 114795642568024087139, 116361942610802215627, 117281838038729876339, 118187525164200278179, 119079540232616391420, 119373928427484032864, 120248493880617511794, 120824543361758411244, 121110519679094562344, 122520547622920568297, 124441674862916172053, 124979807718728684331]
def y2l : List Nat := [26087635650665564424, 31950697969885030203, 41248173712355948587, 48805497317890012913, 61180928696206656209, 66510681623121259551, 76057874264641092971, 80407493254657745273]
theorem pl_next : ∀ k, k < 64 → nxo 100 (pl k) = some (pl (k + 1)) ∧ 1 ≤ pl k ∧ pl k < 512 ∧ pl (k + 1) < 8 ^ 3 := by decide +kernel
theorem pl_8 : ∀ k, k < 8 → pl (k + 1) < 8 ^ 2 := by decide +kernel
theorem y3_ok : ∀ k, k < 64 → y3l.getD k 0 ^ 3 ≤ pl (k + 1) * (2 ^ 32) ^ (2 * 3) ∧ pl (k + 1) * (2 ^ 32) ^ (2 * 3) < (y3l.getD k 0 + 1) ^ 3 ∧ nI (y3l.getD k 0 % 2 ^ 64 / 2 ^ 32) = (stab 1).2 k := by decide +kernel
theorem y2_ok : ∀ k, k < 8 → y2l.getD k 0 ^ 2 ≤ pl (k + 1) * (2 ^ 32) ^ (2 * 2) ∧ pl (k + 1) * (2 ^ 32) ^ (2 * 2) < (y2l.getD k 0 + 1) ^ 2 ∧ nI (y2l.getD k 0 % 2 ^ 64 / 2 ^ 32) = (stab 0).2 k := by decide +kernel
theorem root_u {y z m N : Nat} (h1 : y ^ m ≤ N) (h2 : ¬ (y + 1) ^ m ≤ N) (h3 : z ^ m ≤ N) (h4 : N < (z + 1) ^ m) : y = z := by
  rcases Nat.lt_trichotomy y z with c | c | c
  · exact absurd (Nat.le_trans (Nat.pow_le_pow_left (show y + 1 ≤ z from c) m) h3) h2
  · exact c
  · exact absurd (Nat.lt_of_lt_of_le h4 (Nat.le_trans (Nat.pow_le_pow_left (show z + 1 ≤ y from c) m) h1)) (Nat.lt_irrefl _)
theorem hi32_l (y : Nat) : hi32 (lN (y % 2 ^ 64)) = nI (y % 2 ^ 64 / 2 ^ 32) := by
  unfold hi32
  rw [show ((lN (y % 2 ^ 64)).toUInt64 >>> ((Int32.toInt64 32).toUInt64 &&& Int64.toUInt64 63)).toInt64 = lN (y % 2 ^ 64 / 2 ^ 32) from wb_shr (k := 32) (Nat.mod_lt _ (by decide)) (by decide), lN_i]
