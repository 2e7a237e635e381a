/-! NAMES: classes with their fields in order; the words; the static tables -/
def R_Cu : String := "PrimeKeys$Curve"
def F_Cu : u_T := fun k => match k with
  | 0 => ("PrimeKeys$Curve", "none", "[B", true)
  | 1 => ("PrimeKeys$Curve", "field", "LPrimeKeys$Modulus;", true)
  | 2 => ("PrimeKeys$Curve", "b", "[J", true)
  | 3 => ("PrimeKeys$Curve", "baseMultiples", "[LPrimeKeys$Point;", true)
  | 4 => ("PrimeKeys$Curve", "otherMultiples", "[LPrimeKeys$Point;", true)
  | _ => ("PrimeKeys$Curve", "scratch", "[[J", true)
def t_Cu : Nat → FieldType := fun k => match k with
  | 0 => (.array .byte)
  | 1 => (.object "PrimeKeys$Modulus")
  | 2 => (.array .long)
  | 3 => (.array (.object "PrimeKeys$Point"))
  | 4 => (.array (.object "PrimeKeys$Point"))
  | _ => (.array (.array .long))
def R_Mo : String := "PrimeKeys$Modulus"
def F_Mo : u_T := fun k => match k with
  | 0 => ("PrimeKeys$Modulus", "prime", "[J", true)
  | 1 => ("PrimeKeys$Modulus", "exponent", "[J", true)
  | 2 => ("PrimeKeys$Modulus", "plainOne", "[J", true)
  | 3 => ("PrimeKeys$Modulus", "one", "[J", true)
  | 4 => ("PrimeKeys$Modulus", "toForm", "[J", true)
  | 5 => ("PrimeKeys$Modulus", "lowInverse", "J", true)
  | 6 => ("PrimeKeys$Modulus", "wide", "[J", true)
  | 7 => ("PrimeKeys$Modulus", "spare", "[J", true)
  | _ => ("PrimeKeys$Modulus", "power", "[J", true)
def t_Mo : Nat → FieldType := fun k => match k with
  | 0 => (.array .long)
  | 1 => (.array .long)
  | 2 => (.array .long)
  | 3 => (.array .long)
  | 4 => (.array .long)
  | 5 => .long
  | 6 => (.array .long)
  | 7 => (.array .long)
  | _ => (.array .long)
def R_No : String := "PrimeKeys$Nonces"
def F_No : u_T := fun k => match k with
  | 0 => ("PrimeKeys$Nonces", "hash", "LPrimeKeys$Sha256;", true)
  | 1 => ("PrimeKeys$Nonces", "macKey", "[B", true)
  | 2 => ("PrimeKeys$Nonces", "value", "[B", true)
  | 3 => ("PrimeKeys$Nonces", "seed", "[B", true)
  | 4 => ("PrimeKeys$Nonces", "pad", "[B", true)
  | _ => ("PrimeKeys$Nonces", "inner", "[B", true)
def t_No : Nat → FieldType := fun k => match k with
  | 0 => (.object "PrimeKeys$Sha256")
  | 1 => (.array .byte)
  | 2 => (.array .byte)
  | 3 => (.array .byte)
  | 4 => (.array .byte)
  | _ => (.array .byte)
def R_Po : String := "PrimeKeys$Point"
def F_Po : u_T := fun k => match k with
  | 0 => ("PrimeKeys$Point", "x", "[J", true)
  | 1 => ("PrimeKeys$Point", "y", "[J", true)
  | _ => ("PrimeKeys$Point", "z", "[J", true)
def t_Po : Nat → FieldType := fun k => match k with
  | 0 => (.array .long)
  | 1 => (.array .long)
  | _ => (.array .long)
def R_Sh : String := "PrimeKeys$Sha256"
def F_Sh : u_T := fun k => match k with
  | 0 => ("PrimeKeys$Sha256", "state", "[I", true)
  | 1 => ("PrimeKeys$Sha256", "schedule", "[I", true)
  | 2 => ("PrimeKeys$Sha256", "block", "[B", true)
  | 3 => ("PrimeKeys$Sha256", "used", "I", false)
  | _ => ("PrimeKeys$Sha256", "total", "I", false)
def t_Sh : Nat → FieldType := fun k => match k with
  | 0 => (.array .int)
  | 1 => (.array .int)
  | 2 => (.array .byte)
  | 3 => .int
  | _ => .int
def R_Sg : String := "PrimeKeys$Signature"
def F_Sg : u_T := fun k => match k with
  | 0 => ("PrimeKeys$Signature", "\x72", "[B", true)
  | _ => ("PrimeKeys$Signature", "s", "[B", true)
def t_Sg : Nat → FieldType := fun k => match k with
  | 0 => (.array .byte)
  | _ => (.array .byte)
def R_Si : String := "PrimeKeys$Signer"
def F_Si : u_T := fun k => match k with
  | 0 => ("PrimeKeys$Signer", "order", "LPrimeKeys$Modulus;", true)
  | 1 => ("PrimeKeys$Signer", "nonces", "LPrimeKeys$Nonces;", true)
  | 2 => ("PrimeKeys$Signer", "point", "LPrimeKeys$Point;", true)
  | 3 => ("PrimeKeys$Signer", "\x72", "[J", true)
  | 4 => ("PrimeKeys$Signer", "s", "[J", true)
  | 5 => ("PrimeKeys$Signer", "e", "[J", true)
  | 6 => ("PrimeKeys$Signer", "x", "[J", true)
  | 7 => ("PrimeKeys$Signer", "y", "[J", true)
  | 8 => ("PrimeKeys$Signer", "part", "[J", true)
  | 9 => ("PrimeKeys$Signer", "first", "[B", true)
  | _ => ("PrimeKeys$Signer", "second", "[B", true)
def t_Si : Nat → FieldType := fun k => match k with
  | 0 => (.object "PrimeKeys$Modulus")
  | 1 => (.object "PrimeKeys$Nonces")
  | 2 => (.object "PrimeKeys$Point")
  | 3 => (.array .long)
  | 4 => (.array .long)
  | 5 => (.array .long)
  | 6 => (.array .long)
  | 7 => (.array .long)
  | 8 => (.array .long)
  | 9 => (.array .byte)
  | _ => (.array .byte)
def R_PK : String := "PrimeKeys"
def F_PK : u_T := fun k => match k with
  | 0 => ("PrimeKeys", "tape", "[B", false)
  | 1 => ("PrimeKeys", "tapeLength", "I", false)
  | 2 => ("PrimeKeys", "secrets", "[[B", true)
  | 3 => ("PrimeKeys", "keyCount", "I", false)
  | 4 => ("PrimeKeys", "messageDigest", "[B", true)
  | 5 => ("PrimeKeys", "messageLength", "I", false)
  | 6 => ("PrimeKeys", "resultRow", "[B", true)
  | 7 => ("PrimeKeys", "resultLength", "I", false)
  | 8 => ("PrimeKeys", "signaturesMade", "I", false)
  | 9 => ("PrimeKeys", "verdictCounts", "[I", true)
  | 10 => ("PrimeKeys", "hash", "LPrimeKeys$Sha256;", true)
  | 11 => ("PrimeKeys", "curve", "LPrimeKeys$Curve;", true)
  | 12 => ("PrimeKeys", "signer", "LPrimeKeys$Signer;", true)
  | 13 => ("PrimeKeys", "signature", "LPrimeKeys$Signature;", true)
  | 14 => ("PrimeKeys", "point", "LPrimeKeys$Point;", true)
  | 15 => ("PrimeKeys", "x", "[J", true)
  | _ => ("PrimeKeys", "y", "[J", true)
def t_PK : Nat → FieldType := fun k => match k with
  | 0 => (.array .byte)
  | 1 => .int
  | 2 => (.array (.array .byte))
  | 3 => .int
  | 4 => (.array .byte)
  | 5 => .int
  | 6 => (.array .byte)
  | 7 => .int
  | 8 => .int
  | 9 => (.array .int)
  | 10 => (.object "PrimeKeys$Sha256")
  | 11 => (.object "PrimeKeys$Curve")
  | 12 => (.object "PrimeKeys$Signer")
  | 13 => (.object "PrimeKeys$Signature")
  | 14 => (.object "PrimeKeys$Point")
  | 15 => (.array .long)
  | _ => (.array .long)
def R_Rm : String := "PrimeKeysModel"
def F_Rm : u_T := fun k => match k with
  | 0 => ("PrimeKeysModel", "thrown", "I", false)
  | 1 => ("PrimeKeysModel", "tape", "[B", true)
  | 2 => ("PrimeKeysModel", "message", "[B", true)
  | 3 => ("PrimeKeysModel", "result", "[B", true)
  | 4 => ("PrimeKeysModel", "keys", "[B", true)
  | 5 => ("PrimeKeysModel", "tapes", "I", false)
  | 6 => ("PrimeKeysModel", "messages", "I", false)
  | 7 => ("PrimeKeysModel", "results", "I", false)
  | 8 => ("PrimeKeysModel", "keyCount", "I", false)
  | 9 => ("PrimeKeysModel", "told", "[I", true)
  | 10 => ("PrimeKeysModel", "p", "[J", true)
  | 11 => ("PrimeKeysModel", "order", "[J", true)
  | 12 => ("PrimeKeysModel", "five", "[J", true)
  | 13 => ("PrimeKeysModel", "baseX", "[J", true)
  | 14 => ("PrimeKeysModel", "baseY", "[J", true)
  | 15 => ("PrimeKeysModel", "pt", "[J", true)
  | 16 => ("PrimeKeysModel", "ot", "[J", true)
  | 17 => ("PrimeKeysModel", "px", "[J", true)
  | 18 => ("PrimeKeysModel", "py", "[J", true)
  | 19 => ("PrimeKeysModel", "qx", "[J", true)
  | 20 => ("PrimeKeysModel", "qy", "[J", true)
  | 21 => ("PrimeKeysModel", "rx", "[J", true)
  | 22 => ("PrimeKeysModel", "ry", "[J", true)
  | 23 => ("PrimeKeysModel", "pNone", "Z", false)
  | 24 => ("PrimeKeysModel", "qNone", "Z", false)
  | 25 => ("PrimeKeysModel", "a", "[J", true)
  | 26 => ("PrimeKeysModel", "b", "[J", true)
  | 27 => ("PrimeKeysModel", "c", "[J", true)
  | 28 => ("PrimeKeysModel", "z", "[J", true)
  | 29 => ("PrimeKeysModel", "\x72", "[J", true)
  | 30 => ("PrimeKeysModel", "s", "[J", true)
  | 31 => ("PrimeKeysModel", "k", "[J", true)
  | 32 => ("PrimeKeysModel", "w", "[J", true)
  | 33 => ("PrimeKeysModel", "chain", "[B", true)
  | 34 => ("PrimeKeysModel", "value", "[B", true)
  | 35 => ("PrimeKeysModel", "mac", "[B", true)
  | 36 => ("PrimeKeysModel", "work", "[B", true)
  | 37 => ("PrimeKeysModel", "product", "[J", true)
  | 38 => ("PrimeKeysModel", "sum", "[J", true)
  | 39 => ("PrimeKeysModel", "u", "[J", true)
  | 40 => ("PrimeKeysModel", "v", "[J", true)
  | 41 => ("PrimeKeysModel", "x1", "[J", true)
  | 42 => ("PrimeKeysModel", "x2", "[J", true)
  | 43 => ("PrimeKeysModel", "roots", "[J", true)
  | 44 => ("PrimeKeysModel", "starts", "[J", true)
  | 45 => ("PrimeKeysModel", "words", "[I", true)
  | 46 => ("PrimeKeysModel", "state", "[I", true)
  | 47 => ("PrimeKeysModel", "left", "[J", true)
  | 48 => ("PrimeKeysModel", "cube", "[J", true)
  | _ => ("PrimeKeysModel", "hashed", "[B", true)
def t_Rm : Nat → FieldType := fun k => match k with
  | 0 => .int
  | 1 => (.array .byte)
  | 2 => (.array .byte)
  | 3 => (.array .byte)
  | 4 => (.array .byte)
  | 5 => .int
  | 6 => .int
  | 7 => .int
  | 8 => .int
  | 9 => (.array .int)
  | 10 => (.array .long)
  | 11 => (.array .long)
  | 12 => (.array .long)
  | 13 => (.array .long)
  | 14 => (.array .long)
  | 15 => (.array .long)
  | 16 => (.array .long)
  | 17 => (.array .long)
  | 18 => (.array .long)
  | 19 => (.array .long)
  | 20 => (.array .long)
  | 21 => (.array .long)
  | 22 => (.array .long)
  | 23 => .boolean
  | 24 => .boolean
  | 25 => (.array .long)
  | 26 => (.array .long)
  | 27 => (.array .long)
  | 28 => (.array .long)
  | 29 => (.array .long)
  | 30 => (.array .long)
  | 31 => (.array .long)
  | 32 => (.array .long)
  | 33 => (.array .byte)
  | 34 => (.array .byte)
  | 35 => (.array .byte)
  | 36 => (.array .byte)
  | 37 => (.array .long)
  | 38 => (.array .long)
  | 39 => (.array .long)
  | 40 => (.array .long)
  | 41 => (.array .long)
  | 42 => (.array .long)
  | 43 => (.array .long)
  | 44 => (.array .long)
  | 45 => (.array .int)
  | 46 => (.array .int)
  | 47 => (.array .long)
  | 48 => (.array .long)
  | _ => (.array .byte)
abbrev vwCl : List vw_C := [(R_Cu, F_Cu, 6), (R_Mo, F_Mo, 9), (R_No, F_No, 6), (R_Po, F_Po, 3), (R_Sh, F_Sh, 5), (R_Sg, F_Sg, 2), (R_Si, F_Si, 11), (R_PK, F_PK, 17), (R_Rm, F_Rm, 50)]
def TB : List Cond := lw_tbl.filter goodWord
theorem goodTB : ∀ w ∈ TB, w ∈ TB ∧ ((w.onTables && w.keeps) = true ∨ ∃ ty, w = .arrayClass ty) := fun w h => ⟨h, good_of_word (List.mem_filter.mp h).2⟩
theorem tb_of {w : Cond} (h : w ∈ lw_tbl) (g : goodWord w = true) : w ∈ TB := List.mem_filter.mpr ⟨h, g⟩
theorem tb_1 {w : Cond} (h : w ∈ tables_1_1) (g : goodWord w = true) : w ∈ TB := tb_of (List.mem_append_right _ (show w ∈ tables_1_1 ++ (tables_1_2 ++ (tables_1_3 ++ (tables_1_4 ++ tables_1_5))) from (List.mem_append_left _ h))) g
theorem tb_2 {w : Cond} (h : w ∈ tables_1_2) (g : goodWord w = true) : w ∈ TB := tb_of (List.mem_append_right _ (show w ∈ tables_1_1 ++ (tables_1_2 ++ (tables_1_3 ++ (tables_1_4 ++ tables_1_5))) from (List.mem_append_right _ (List.mem_append_left _ h)))) g
theorem tb_3 {w : Cond} (h : w ∈ tables_1_3) (g : goodWord w = true) : w ∈ TB := tb_of (List.mem_append_right _ (show w ∈ tables_1_1 ++ (tables_1_2 ++ (tables_1_3 ++ (tables_1_4 ++ tables_1_5))) from (List.mem_append_right _ (List.mem_append_right _ (List.mem_append_left _ h))))) g
theorem tb_4 {w : Cond} (h : w ∈ tables_1_4) (g : goodWord w = true) : w ∈ TB := tb_of (List.mem_append_right _ (show w ∈ tables_1_1 ++ (tables_1_2 ++ (tables_1_3 ++ (tables_1_4 ++ tables_1_5))) from (List.mem_append_right _ (List.mem_append_right _ (List.mem_append_right _ (List.mem_append_left _ h)))))) g
theorem tb_5 {w : Cond} (h : w ∈ tables_1_5) (g : goodWord w = true) : w ∈ TB := tb_of (List.mem_append_right _ (show w ∈ tables_1_1 ++ (tables_1_2 ++ (tables_1_3 ++ (tables_1_4 ++ tables_1_5))) from (List.mem_append_right _ (List.mem_append_right _ (List.mem_append_right _ (List.mem_append_right _ h)))))) g
theorem tb_p {q : MethodName × Nat} (h : q ∈ lw_privs) : Cond.selects q.1.cls q.1 q.1 ∈ TB := tb_of (List.mem_append_left _ (List.mem_map.mpr ⟨q, h, rfl⟩)) rfl
theorem u_Cu : ∀ w ∈ u_ws R_Cu F_Cu 6, w ∈ TB := by decide +kernel
theorem n_Cu : ∀ a, a < 6 → ∀ b, b < 6 → a ≠ b → (F_Cu a).2.1 ≠ (F_Cu b).2.1 := by decide +kernel
theorem t_Cu_ok : ∀ k, k < 6 → parseFieldDescriptor (F_Cu k).2.2.1 = some (t_Cu k) := by decide +kernel
theorem u_Mo : ∀ w ∈ u_ws R_Mo F_Mo 9, w ∈ TB := by decide +kernel
theorem n_Mo : ∀ a, a < 9 → ∀ b, b < 9 → a ≠ b → (F_Mo a).2.1 ≠ (F_Mo b).2.1 := by decide +kernel
theorem t_Mo_ok : ∀ k, k < 9 → parseFieldDescriptor (F_Mo k).2.2.1 = some (t_Mo k) := by decide +kernel
theorem u_No : ∀ w ∈ u_ws R_No F_No 6, w ∈ TB := by decide +kernel
theorem n_No : ∀ a, a < 6 → ∀ b, b < 6 → a ≠ b → (F_No a).2.1 ≠ (F_No b).2.1 := by decide +kernel
theorem t_No_ok : ∀ k, k < 6 → parseFieldDescriptor (F_No k).2.2.1 = some (t_No k) := by decide +kernel
theorem u_Po : ∀ w ∈ u_ws R_Po F_Po 3, w ∈ TB := by decide +kernel
theorem n_Po : ∀ a, a < 3 → ∀ b, b < 3 → a ≠ b → (F_Po a).2.1 ≠ (F_Po b).2.1 := by decide +kernel
theorem t_Po_ok : ∀ k, k < 3 → parseFieldDescriptor (F_Po k).2.2.1 = some (t_Po k) := by decide +kernel
theorem u_Sh : ∀ w ∈ u_ws R_Sh F_Sh 5, w ∈ TB := by decide +kernel
theorem n_Sh : ∀ a, a < 5 → ∀ b, b < 5 → a ≠ b → (F_Sh a).2.1 ≠ (F_Sh b).2.1 := by decide +kernel
theorem t_Sh_ok : ∀ k, k < 5 → parseFieldDescriptor (F_Sh k).2.2.1 = some (t_Sh k) := by decide +kernel
theorem u_Sg : ∀ w ∈ u_ws R_Sg F_Sg 2, w ∈ TB := by decide +kernel
theorem n_Sg : ∀ a, a < 2 → ∀ b, b < 2 → a ≠ b → (F_Sg a).2.1 ≠ (F_Sg b).2.1 := by decide +kernel
theorem t_Sg_ok : ∀ k, k < 2 → parseFieldDescriptor (F_Sg k).2.2.1 = some (t_Sg k) := by decide +kernel
theorem u_Si : ∀ w ∈ u_ws R_Si F_Si 11, w ∈ TB := by decide +kernel
theorem n_Si : ∀ a, a < 11 → ∀ b, b < 11 → a ≠ b → (F_Si a).2.1 ≠ (F_Si b).2.1 := by decide +kernel
theorem t_Si_ok : ∀ k, k < 11 → parseFieldDescriptor (F_Si k).2.2.1 = some (t_Si k) := by decide +kernel
theorem u_PK : ∀ w ∈ u_ws R_PK F_PK 17, w ∈ TB := by decide +kernel
theorem n_PK : ∀ a, a < 17 → ∀ b, b < 17 → a ≠ b → (F_PK a).2.1 ≠ (F_PK b).2.1 := by decide +kernel
theorem t_PK_ok : ∀ k, k < 17 → parseFieldDescriptor (F_PK k).2.2.1 = some (t_PK k) := by decide +kernel
theorem u_Rm : ∀ w ∈ u_ws R_Rm F_Rm 50, w ∈ TB := by decide +kernel
theorem n_Rm : ∀ a, a < 50 → ∀ b, b < 50 → a ≠ b → (F_Rm a).2.1 ≠ (F_Rm b).2.1 := by decide +kernel
theorem t_Rm_ok : ∀ k, k < 50 → parseFieldDescriptor (F_Rm k).2.2.1 = some (t_Rm k) := by decide +kernel
def NB : List Cond := [.methodLinkNest "PrimeKeys" 48 ⟨"PrimeKeys$Sha256", "<init>", "()V"⟩ "PrimeKeys", .methodLinkNest "PrimeKeys$Curve" 48 ⟨"PrimeKeys$Point", "<init>", "()V"⟩ "PrimeKeys", .methodLinkNest "PrimeKeys" 62 ⟨"PrimeKeys$Signer", "<init>", "()V"⟩ "PrimeKeys", .methodLinkNest "PrimeKeys$Signer" 26 ⟨"PrimeKeys$Nonces", "<init>", "()V"⟩ "PrimeKeys", .methodLinkNest "PrimeKeys$Nonces" 13 ⟨"PrimeKeys$Sha256", "<init>", "()V"⟩ "PrimeKeys", .methodLinkNest "PrimeKeys$Signer" 33 ⟨"PrimeKeys$Point", "<init>", "()V"⟩ "PrimeKeys", .methodLinkNest "PrimeKeys" 67 ⟨"PrimeKeys$Signature", "<init>", "()V"⟩ "PrimeKeys", .methodLinkNest "PrimeKeys" 74 ⟨"PrimeKeys$Point", "<init>", "()V"⟩ "PrimeKeys"]
theorem nestNB : ∀ w ∈ NB, (∃ a i b n d t, w = .fieldLinkNest a i b n d t) ∨ (∃ a i y t, w = .methodLinkNest a i y t) := by
  intro w hw
  simp only [NB, List.mem_cons, List.not_mem_nil, or_false] at hw
  rcases hw with rfl | rfl | rfl | rfl | rfl | rfl | rfl | rfl <;> exact Or.inr ⟨_, _, _, _, rfl⟩
def stC : Nat → String := fun i => match i with
  | 0 => "PrimeKeys$Sha256"
  | 1 => "PrimeKeys$Sha256"
  | 6 => "PrimeKeys$Signer"
  | _ => "PrimeKeys$Curve"
def stN : Nat → String := fun i => match i with
  | 0 => "START"
  | 1 => "ROUND"
  | 2 => "PRIME"
  | 3 => "B"
  | 4 => "BASE_X"
  | 5 => "BASE_Y"
  | _ => "ORDER"
def sv_0 : List Int32 := [1779033703, (-1150833019), 1013904242, (-1521486534), 1359893119, (-1694144372), 528734635, 1541459225]
def sv_1 : List Int32 := [1116352408, 1899447441, (-1245643825), (-373957723), 961987163, 1508970993, (-1841331548), (-1424204075), (-670586216), 310598401, 607225278, 1426881987, 1925078388, (-2132889090), (-1680079193), (-1046744716), (-459576895), (-272742522), 264347078, 604807628, 770255983, 1249150122, 1555081692, 1996064986, (-1740746414), (-1473132947), (-1341970488), (-1084653625), (-958395405), (-710438585), 113926993, 338241895, 666307205, 773529912, 1294757372, 1396182291, 1695183700, 1986661051, (-2117940946), (-1838011259), (-1564481375), (-1474664885), (-1035236496), (-949202525), (-778901479), (-694614492), (-200395387), 275423344, 430227734, 506948616, 659060556, 883997877, 958139571, 1322822218, 1537002063, 1747873779, 1955562222, 2024104815, (-2067236844), (-1933114872), (-1866530822), (-1538233109), (-1090935817), (-965641998)]
def sv_2 : List Int32 := [(-1), 1, 0, 0, 0, (-1), (-1), (-1)]
def sv_3 : List Int32 := [1522939352, (-1439001625), (-1276396203), 1989707452, 1696401072, (-866930442), 1003371582, 668098635]
def sv_4 : List Int32 := [1796723186, (-517193145), (-121837851), 1671708914, 1996717441, 770388896, (-190760635), (-661077354)]
def sv_5 : List Int32 := [1340293858, (-31817829), (-1897403574), 2081398294, 734933847, 1798397646, (-877248408), 935285237]
def sv_6 : List Int32 := [(-1), 0, (-1), (-1), (-1125713235), (-1491624316), (-205927742), (-60611247)]
def svs : Nat → List Int32 := fun i => match i with
  | 0 => sv_0
  | 1 => sv_1
  | 2 => sv_2
  | 3 => sv_3
  | 4 => sv_4
  | 5 => sv_5
  | _ => sv_6
def stab (i : Nat) : Nat × (Nat → Int32) := ((svs i).length, fun j => (svs i).getD j 0)
def FU : Nat := 70000
theorem kw_oi : Cond.instanceMethod Lib.objectInit ∈ TB := tb_1 (List.mem_of_getElem? (i := 28) (by decide +kernel)) rfl
theorem kw_oc : Cond.code Lib.objectInit ⟨#[0xb1]⟩ 1 none ∈ TB := tb_1 (List.mem_of_getElem? (i := 29) rfl) rfl
theorem kw_an : Cond.native arraycopyName ∈ TB := tb_1 (List.mem_of_getElem? (i := 88) (by decide +kernel)) rfl
theorem kw_as : Cond.static arraycopyName ∈ TB := tb_1 (List.mem_of_getElem? (i := 87) (by decide +kernel)) rfl
theorem kw_ai : Cond.initialized "java/lang/System" ∈ TB := tb_1 (List.mem_of_getElem? (i := 8) (by decide +kernel)) rfl
theorem kw_cb : Cond.arrayClass .byte ∈ TB := tb_1 (List.mem_of_getElem? (i := 54) (by decide +kernel)) rfl
theorem kw_ci : Cond.arrayClass .int ∈ TB := tb_1 (List.mem_of_getElem? (i := 55) (by decide +kernel)) rfl
theorem kw_cj : Cond.arrayClass .long ∈ TB := tb_1 (List.mem_of_getElem? (i := 132) (by decide +kernel)) rfl
