/-! THE JUDGEMENT: a walk over the pure heap. x: the machine's part of a method's body (never looked into by a walk) -/
abbrev CX : Type := (Program × Launch × Env × Room × State) × (MethodId × Array Value × List Frame × Method × Code) × (va_G × (Nat → ClassId) × (Nat → Prop) × Nat) × (Nat × AD × (State → Prop))
def GG (x : CX) (cells slots : Nat) (h : HP) (pc : Nat) (lv : List (Nat × Value)) (st : List Value) : Prop :=
  ∀ (ad : AD) (H : Heap) (locs : List Loc) (ls : Array Slot), wfh h → wfs h.length st → wfl h.length lv → (x.2.2.2.1 ≤ h.length ∧ ad.2 = x.2.2.2.2.1.2 ∧ ∀ k, k < x.2.2.2.1 → ad.1 k = x.2.2.2.2.1.1 k) →
    va_P x.2.2.1.1 vwCl (wd x.2.2.1.2.1 ad h) H → va_D x.2.2.1.2.2.1 (wd x.2.2.1.2.1 ad h) → va_S x.2.2.1.2.2.1 x.1.2.2.2.2.heap H locs → lv_has ls x.2.2.1.2.2.2 (lm ad lv) →
    W x.1.1 x.1.2.1 x.1.2.2.1 x.1.2.2.2.1 x.1.2.2.2.2 x.2.1.1 x.2.1.2.1 x.2.1.2.2.1 x.2.1.2.2.2.1 x.2.1.2.2.2.2 H locs cells slots x.2.2.2.2.2 (F0 x.2.1.1 pc ls (st.map (vv ad)))
def tysOf (tg : Nat → ClassId) : List (ClassId × FieldType) := [(tg 0, .byte), (tg 1, .int), (tg 2, .long), (tg 3, .object "PrimeKeys$Point"), (tg 4, .array .byte), (tg 5, .array .long)]
def NW (U : State) : Prop := ∀ w ∈ NB, va_Nw w U
def ST (sa : Nat → Nat) (A : Nat → Prop) (U : State) : Prop := ∀ i, i < 7 → va_Z (stC i) (stN i) "[I" (.ref (sa i)) A U U.heap ∧ va_T .int (sa i) (stab i).1 (fun j => .int ((stab i).2 j)) A U U.heap
def EV (x : CX) (cc : ByteArray) (own : String) (N : Nat) (rm : Room) : Prop :=
  x.1.1.tables.exec = Jvm.exec ∧ x.2.1.2.2.2.2.code = cc ∧ x.2.1.2.2.2.2.maxLocals = N ∧ x.2.2.1.2.2.2 = N ∧ x.1.2.2.2.2.vm.findClass own = some x.2.1.1.cls ∧ (∀ w ∈ TB, w.before x.2.1.2.1 x.1.2.2.2.2 = true) ∧ va_K x.2.2.1.1 vwCl (tysOf x.2.2.1.2.1) x.1.2.2.2.2 ∧ (∀ q, x.1.2.2.2.2.heap.size ≤ q → x.2.2.1.2.2.1 q) ∧ NW x.1.2.2.2.2 ∧ ST x.2.2.2.2.1.2 x.2.2.1.2.2.1 x.1.2.2.2.2 ∧ x.1.2.2.2.1 = rm
section GR
variable {x : CX} {cc : ByteArray} {own : String} {N : Nat} {rm : Room} {cells slots pc : Nat} {h : HP} {lv lv' : List (Nat × Value)} {st : List Value}
theorem EV.hx (C : EV x cc own N rm) : x.1.1.tables.exec = Jvm.exec := C.1
theorem EV.hb (C : EV x cc own N rm) : x.2.1.2.2.2.2.code = cc := C.2.1
theorem EV.hm (C : EV x cc own N rm) : x.2.1.2.2.2.2.maxLocals = N := C.2.2.1
theorem EV.hn (C : EV x cc own N rm) : x.2.2.1.2.2.2 = N := C.2.2.2.1
theorem EV.ho (C : EV x cc own N rm) : x.1.2.2.2.2.vm.findClass own = some x.2.1.1.cls := C.2.2.2.2.1
theorem EV.ht (C : EV x cc own N rm) : ∀ w ∈ TB, w.before x.2.1.2.1 x.1.2.2.2.2 = true := C.2.2.2.2.2.1
theorem EV.hK (C : EV x cc own N rm) : va_K x.2.2.1.1 vwCl (tysOf x.2.2.1.2.1) x.1.2.2.2.2 := C.2.2.2.2.2.2.1
theorem EV.hA (C : EV x cc own N rm) : ∀ q, x.1.2.2.2.2.heap.size ≤ q → x.2.2.1.2.2.1 q := C.2.2.2.2.2.2.2.1
theorem EV.hN (C : EV x cc own N rm) : NW x.1.2.2.2.2 := C.2.2.2.2.2.2.2.2.1
theorem EV.hS (C : EV x cc own N rm) : ST x.2.2.2.2.1.2 x.2.2.1.2.2.1 x.1.2.2.2.2 := C.2.2.2.2.2.2.2.2.2.1
theorem EV.hR (C : EV x cc own N rm) : x.1.2.2.2.1 = rm := C.2.2.2.2.2.2.2.2.2.2
theorem g_iconst (C : EV x cc own N rm) {n : Int} {v : Int32} (d : decode cc pc = .ok (.iconst n, 1)) (e : Int32.ofInt n = v) (k : GG x cells slots h (pc + 1) lv (.int v :: st)) : GG x cells slots h pc lv (st) :=
  fun ad H locs ls h1 h2 h3 h4 hP hD hS hl => lv_iconst C.hx C.hb d e (k ad H locs ls h1 (wfs_c wfv_i h2) h3 h4 hP hD hS hl)
theorem g_bipush (C : EV x cc own N rm) {n : Int} {v : Int32} (d : decode cc pc = .ok (.bipush n, 2)) (e : (Int8.ofInt n).toInt32 = v) (k : GG x cells slots h (pc + 2) lv (.int v :: st)) : GG x cells slots h pc lv (st) :=
  fun ad H locs ls h1 h2 h3 h4 hP hD hS hl => lv_bipush C.hx C.hb d e (k ad H locs ls h1 (wfs_c wfv_i h2) h3 h4 hP hD hS hl)
theorem g_sipush (C : EV x cc own N rm) {n : Int} {v : Int32} (d : decode cc pc = .ok (.sipush n, 3)) (e : (Int16.ofInt n).toInt32 = v) (k : GG x cells slots h (pc + 3) lv (.int v :: st)) : GG x cells slots h pc lv (st) :=
  fun ad H locs ls h1 h2 h3 h4 hP hD hS hl => lv_sipush C.hx C.hb d e (k ad H locs ls h1 (wfs_c wfv_i h2) h3 h4 hP hD hS hl)
theorem g_lconst (C : EV x cc own N rm) {n : Fin 2} {v : Int64} (d : decode cc pc = .ok (.lconst n, 1)) (e : Int64.ofNat (n : Nat) = v) (k : GG x cells slots h (pc + 1) lv (.long v :: st)) : GG x cells slots h pc lv (st) :=
  fun ad H locs ls h1 h2 h3 h4 hP hD hS hl => lv_lconst C.hx C.hb d e (k ad H locs ls h1 (wfs_c wfv_j h2) h3 h4 hP hD hS hl)
theorem g_iadd (C : EV x cc own N rm) {a b : Int32} (d : decode cc pc = .ok (.iadd, 1))  (k : GG x cells slots h (pc + 1) lv (.int (a + b) :: st)) : GG x cells slots h pc lv (.int b :: .int a :: st) :=
  fun ad H locs ls h1 h2 h3 h4 hP hD hS hl => lv_iadd C.hx C.hb d  (k ad H locs ls h1 (wfs_c wfv_i (wfs_t (wfs_t h2))) h3 h4 hP hD hS hl)
theorem g_isub (C : EV x cc own N rm) {a b : Int32} (d : decode cc pc = .ok (.isub, 1))  (k : GG x cells slots h (pc + 1) lv (.int (a - b) :: st)) : GG x cells slots h pc lv (.int b :: .int a :: st) :=
  fun ad H locs ls h1 h2 h3 h4 hP hD hS hl => lv_isub C.hx C.hb d  (k ad H locs ls h1 (wfs_c wfv_i (wfs_t (wfs_t h2))) h3 h4 hP hD hS hl)
theorem g_imul (C : EV x cc own N rm) {a b : Int32} (d : decode cc pc = .ok (.imul, 1))  (k : GG x cells slots h (pc + 1) lv (.int (a * b) :: st)) : GG x cells slots h pc lv (.int b :: .int a :: st) :=
  fun ad H locs ls h1 h2 h3 h4 hP hD hS hl => lv_imul C.hx C.hb d  (k ad H locs ls h1 (wfs_c wfv_i (wfs_t (wfs_t h2))) h3 h4 hP hD hS hl)
theorem g_iand (C : EV x cc own N rm) {a b : Int32} (d : decode cc pc = .ok (.iand, 1))  (k : GG x cells slots h (pc + 1) lv (.int (a &&& b) :: st)) : GG x cells slots h pc lv (.int b :: .int a :: st) :=
  fun ad H locs ls h1 h2 h3 h4 hP hD hS hl => lv_iand C.hx C.hb d  (k ad H locs ls h1 (wfs_c wfv_i (wfs_t (wfs_t h2))) h3 h4 hP hD hS hl)
theorem g_ior (C : EV x cc own N rm) {a b : Int32} (d : decode cc pc = .ok (.ior, 1))  (k : GG x cells slots h (pc + 1) lv (.int (a ||| b) :: st)) : GG x cells slots h pc lv (.int b :: .int a :: st) :=
  fun ad H locs ls h1 h2 h3 h4 hP hD hS hl => lv_ior C.hx C.hb d  (k ad H locs ls h1 (wfs_c wfv_i (wfs_t (wfs_t h2))) h3 h4 hP hD hS hl)
theorem g_ixor (C : EV x cc own N rm) {a b : Int32} (d : decode cc pc = .ok (.ixor, 1))  (k : GG x cells slots h (pc + 1) lv (.int (a ^^^ b) :: st)) : GG x cells slots h pc lv (.int b :: .int a :: st) :=
  fun ad H locs ls h1 h2 h3 h4 hP hD hS hl => lv_ixor C.hx C.hb d  (k ad H locs ls h1 (wfs_c wfv_i (wfs_t (wfs_t h2))) h3 h4 hP hD hS hl)
theorem g_ladd (C : EV x cc own N rm) {a b : Int64} (d : decode cc pc = .ok (.ladd, 1))  (k : GG x cells slots h (pc + 1) lv (.long (a + b) :: st)) : GG x cells slots h pc lv (.long b :: .long a :: st) :=
  fun ad H locs ls h1 h2 h3 h4 hP hD hS hl => lv_ladd C.hx C.hb d  (k ad H locs ls h1 (wfs_c wfv_j (wfs_t (wfs_t h2))) h3 h4 hP hD hS hl)
theorem g_lsub (C : EV x cc own N rm) {a b : Int64} (d : decode cc pc = .ok (.lsub, 1))  (k : GG x cells slots h (pc + 1) lv (.long (a - b) :: st)) : GG x cells slots h pc lv (.long b :: .long a :: st) :=
  fun ad H locs ls h1 h2 h3 h4 hP hD hS hl => lv_lsub C.hx C.hb d  (k ad H locs ls h1 (wfs_c wfv_j (wfs_t (wfs_t h2))) h3 h4 hP hD hS hl)
theorem g_lmul (C : EV x cc own N rm) {a b : Int64} (d : decode cc pc = .ok (.lmul, 1))  (k : GG x cells slots h (pc + 1) lv (.long (a * b) :: st)) : GG x cells slots h pc lv (.long b :: .long a :: st) :=
  fun ad H locs ls h1 h2 h3 h4 hP hD hS hl => lv_lmul C.hx C.hb d  (k ad H locs ls h1 (wfs_c wfv_j (wfs_t (wfs_t h2))) h3 h4 hP hD hS hl)
theorem g_land (C : EV x cc own N rm) {a b : Int64} (d : decode cc pc = .ok (.land, 1))  (k : GG x cells slots h (pc + 1) lv (.long (a &&& b) :: st)) : GG x cells slots h pc lv (.long b :: .long a :: st) :=
  fun ad H locs ls h1 h2 h3 h4 hP hD hS hl => lv_land C.hx C.hb d  (k ad H locs ls h1 (wfs_c wfv_j (wfs_t (wfs_t h2))) h3 h4 hP hD hS hl)
theorem g_lor (C : EV x cc own N rm) {a b : Int64} (d : decode cc pc = .ok (.lor, 1))  (k : GG x cells slots h (pc + 1) lv (.long (a ||| b) :: st)) : GG x cells slots h pc lv (.long b :: .long a :: st) :=
  fun ad H locs ls h1 h2 h3 h4 hP hD hS hl => lv_lor C.hx C.hb d  (k ad H locs ls h1 (wfs_c wfv_j (wfs_t (wfs_t h2))) h3 h4 hP hD hS hl)
theorem g_lxor (C : EV x cc own N rm) {a b : Int64} (d : decode cc pc = .ok (.lxor, 1))  (k : GG x cells slots h (pc + 1) lv (.long (a ^^^ b) :: st)) : GG x cells slots h pc lv (.long b :: .long a :: st) :=
  fun ad H locs ls h1 h2 h3 h4 hP hD hS hl => lv_lxor C.hx C.hb d  (k ad H locs ls h1 (wfs_c wfv_j (wfs_t (wfs_t h2))) h3 h4 hP hD hS hl)
theorem g_idiv (C : EV x cc own N rm) {a b : Int32} (d : decode cc pc = .ok (.idiv, 1)) (e : ¬ b = 0) (k : GG x cells slots h (pc + 1) lv (.int (a / b) :: st)) : GG x cells slots h pc lv (.int b :: .int a :: st) :=
  fun ad H locs ls h1 h2 h3 h4 hP hD hS hl => lv_idiv C.hx C.hb d e (k ad H locs ls h1 (wfs_c wfv_i (wfs_t (wfs_t h2))) h3 h4 hP hD hS hl)
theorem g_irem (C : EV x cc own N rm) {a b : Int32} (d : decode cc pc = .ok (.irem, 1)) (e : ¬ b = 0) (k : GG x cells slots h (pc + 1) lv (.int (a - a / b * b) :: st)) : GG x cells slots h pc lv (.int b :: .int a :: st) :=
  fun ad H locs ls h1 h2 h3 h4 hP hD hS hl => lv_irem C.hx C.hb d e (k ad H locs ls h1 (wfs_c wfv_i (wfs_t (wfs_t h2))) h3 h4 hP hD hS hl)
theorem g_ineg (C : EV x cc own N rm) {a : Int32} (d : decode cc pc = .ok (.ineg, 1))  (k : GG x cells slots h (pc + 1) lv (.int (-a) :: st)) : GG x cells slots h pc lv (.int a :: st) :=
  fun ad H locs ls h1 h2 h3 h4 hP hD hS hl => lv_ineg C.hx C.hb d  (k ad H locs ls h1 (wfs_c wfv_i (wfs_t h2)) h3 h4 hP hD hS hl)
theorem g_lneg (C : EV x cc own N rm) {a : Int64} (d : decode cc pc = .ok (.lneg, 1))  (k : GG x cells slots h (pc + 1) lv (.long (-a) :: st)) : GG x cells slots h pc lv (.long a :: st) :=
  fun ad H locs ls h1 h2 h3 h4 hP hD hS hl => lv_lneg C.hx C.hb d  (k ad H locs ls h1 (wfs_c wfv_j (wfs_t h2)) h3 h4 hP hD hS hl)
theorem g_ishl (C : EV x cc own N rm) {a b : Int32} (d : decode cc pc = .ok (.ishl, 1))  (k : GG x cells slots h (pc + 1) lv (.int (a <<< (b &&& 31)) :: st)) : GG x cells slots h pc lv (.int b :: .int a :: st) :=
  fun ad H locs ls h1 h2 h3 h4 hP hD hS hl => lv_ishl C.hx C.hb d  (k ad H locs ls h1 (wfs_c wfv_i (wfs_t (wfs_t h2))) h3 h4 hP hD hS hl)
theorem g_ishr (C : EV x cc own N rm) {a b : Int32} (d : decode cc pc = .ok (.ishr, 1))  (k : GG x cells slots h (pc + 1) lv (.int (a >>> (b &&& 31)) :: st)) : GG x cells slots h pc lv (.int b :: .int a :: st) :=
  fun ad H locs ls h1 h2 h3 h4 hP hD hS hl => lv_ishr C.hx C.hb d  (k ad H locs ls h1 (wfs_c wfv_i (wfs_t (wfs_t h2))) h3 h4 hP hD hS hl)
theorem g_iushr (C : EV x cc own N rm) {a b : Int32} (d : decode cc pc = .ok (.iushr, 1))  (k : GG x cells slots h (pc + 1) lv (.int ((a.toUInt32 >>> (b.toUInt32 &&& Int32.toUInt32 31)).toInt32) :: st)) : GG x cells slots h pc lv (.int b :: .int a :: st) :=
  fun ad H locs ls h1 h2 h3 h4 hP hD hS hl => lv_iushr C.hx C.hb d rfl (k ad H locs ls h1 (wfs_c wfv_i (wfs_t (wfs_t h2))) h3 h4 hP hD hS hl)
theorem g_lushr (C : EV x cc own N rm) {a : Int64} {b : Int32} (d : decode cc pc = .ok (.lushr, 1))  (k : GG x cells slots h (pc + 1) lv (.long ((a.toUInt64 >>> (b.toInt64.toUInt64 &&& Int64.toUInt64 63)).toInt64) :: st)) : GG x cells slots h pc lv (.int b :: .long a :: st) :=
  fun ad H locs ls h1 h2 h3 h4 hP hD hS hl => lv_lushr C.hx C.hb d rfl (k ad H locs ls h1 (wfs_c wfv_j (wfs_t (wfs_t h2))) h3 h4 hP hD hS hl)
theorem g_lshl (C : EV x cc own N rm) {a : Int64} {b : Int32} (d : decode cc pc = .ok (.lshl, 1))  (k : GG x cells slots h (pc + 1) lv (.long (a <<< (b.toInt64 &&& 63)) :: st)) : GG x cells slots h pc lv (.int b :: .long a :: st) :=
  fun ad H locs ls h1 h2 h3 h4 hP hD hS hl => lv_lshl C.hx C.hb d rfl (k ad H locs ls h1 (wfs_c wfv_j (wfs_t (wfs_t h2))) h3 h4 hP hD hS hl)
theorem g_lshr (C : EV x cc own N rm) {a : Int64} {b : Int32} (d : decode cc pc = .ok (.lshr, 1))  (k : GG x cells slots h (pc + 1) lv (.long (a >>> (b.toInt64 &&& 63)) :: st)) : GG x cells slots h pc lv (.int b :: .long a :: st) :=
  fun ad H locs ls h1 h2 h3 h4 hP hD hS hl => lv_lshr C.hx C.hb d rfl (k ad H locs ls h1 (wfs_c wfv_j (wfs_t (wfs_t h2))) h3 h4 hP hD hS hl)
theorem g_i2l (C : EV x cc own N rm) {a : Int32} (d : decode cc pc = .ok (.i2l, 1))  (k : GG x cells slots h (pc + 1) lv (.long a.toInt64 :: st)) : GG x cells slots h pc lv (.int a :: st) :=
  fun ad H locs ls h1 h2 h3 h4 hP hD hS hl => lv_i2l C.hx C.hb d rfl (k ad H locs ls h1 (wfs_c wfv_j (wfs_t h2)) h3 h4 hP hD hS hl)
theorem g_l2i (C : EV x cc own N rm) {a : Int64} (d : decode cc pc = .ok (.l2i, 1))  (k : GG x cells slots h (pc + 1) lv (.int a.toInt32 :: st)) : GG x cells slots h pc lv (.long a :: st) :=
  fun ad H locs ls h1 h2 h3 h4 hP hD hS hl => lv_l2i C.hx C.hb d rfl (k ad H locs ls h1 (wfs_c wfv_i (wfs_t h2)) h3 h4 hP hD hS hl)
theorem g_i2b (C : EV x cc own N rm) {a : Int32} (d : decode cc pc = .ok (.i2b, 1))  (k : GG x cells slots h (pc + 1) lv (.int a.toInt8.toInt32 :: st)) : GG x cells slots h pc lv (.int a :: st) :=
  fun ad H locs ls h1 h2 h3 h4 hP hD hS hl => lv_i2b C.hx C.hb d rfl (k ad H locs ls h1 (wfs_c wfv_i (wfs_t h2)) h3 h4 hP hD hS hl)
theorem g_lcmp (C : EV x cc own N rm) {a b : Int64} (d : decode cc pc = .ok (.lcmp, 1))  (k : GG x cells slots h (pc + 1) lv (.int (lg_cmp a b) :: st)) : GG x cells slots h pc lv (.long b :: .long a :: st) :=
  fun ad H locs ls h1 h2 h3 h4 hP hD hS hl => W.lcmp C.hx C.hb d  (k ad H locs ls h1 (wfs_c wfv_i (wfs_t (wfs_t h2))) h3 h4 hP hD hS hl)
theorem g_ldc (C : EV x cc own N rm) {idx : Nat} {v : Int32} (d : decode cc pc = .ok (.ldc idx, 2)) (w : Cond.constant own idx v ∈ TB) (k : GG x cells slots h (pc + 2) lv (.int v :: st)) : GG x cells slots h pc lv (st) :=
  fun ad H locs ls h1 h2 h3 h4 hP hD hS hl => (fun a b c d => lv_ldc a b C.ho (C.ht _ w) c d) C.hx C.hb d  (k ad H locs ls h1 (wfs_c wfv_i h2) h3 h4 hP hD hS hl)
theorem g_ldcw (C : EV x cc own N rm) {idx : Nat} {v : Int32} (d : decode cc pc = .ok (.ldc_w idx, 3)) (w : Cond.constant own idx v ∈ TB) (k : GG x cells slots h (pc + 3) lv (.int v :: st)) : GG x cells slots h pc lv (st) :=
  fun ad H locs ls h1 h2 h3 h4 hP hD hS hl => (fun a b c d => lv_ldcw a b C.ho (C.ht _ w) c d) C.hx C.hb d  (k ad H locs ls h1 (wfs_c wfv_i h2) h3 h4 hP hD hS hl)
theorem g_ldc2 (C : EV x cc own N rm) {idx : Nat} {v : Int64} (d : decode cc pc = .ok (.ldc2_w idx, 3)) (w : Cond.constantLong own idx v ∈ TB) (k : GG x cells slots h (pc + 3) lv (.long v :: st)) : GG x cells slots h pc lv (st) :=
  fun ad H locs ls h1 h2 h3 h4 hP hD hS hl => (fun a b c d => lv_ldc2 a b C.ho (C.ht _ w) c d) C.hx C.hb d  (k ad H locs ls h1 (wfs_c wfv_j h2) h3 h4 hP hD hS hl)
theorem g_dup (C : EV x cc own N rm) {v : Value} (d : decode cc pc = .ok (.dup, 1)) (e : v.category = 1) (k : GG x cells slots h (pc + 1) lv (v :: v :: st)) : GG x cells slots h pc lv (v :: st) :=
  fun ad H locs ls h1 h2 h3 h4 hP hD hS hl => lv_dup C.hx C.hb d (vv_cat'.trans e) (k ad H locs ls h1 (wfs_c (wfs_h h2) h2) h3 h4 hP hD hS hl)
theorem g_pop (C : EV x cc own N rm) {v : Value} (d : decode cc pc = .ok (.pop, 1)) (e : v.category = 1) (k : GG x cells slots h (pc + 1) lv st) : GG x cells slots h pc lv (v :: st) :=
  fun ad H locs ls h1 h2 h3 h4 hP hD hS hl => lv_pop C.hx C.hb d (vv_cat'.trans e) (k ad H locs ls h1 (wfs_t h2) h3 h4 hP hD hS hl)
theorem g_dup_x1 (C : EV x cc own N rm) {v w : Value} (d : decode cc pc = .ok (.dup_x1, 1)) (e : v.category = 1) (e2 : w.category = 1) (k : GG x cells slots h (pc + 1) lv (v :: w :: v :: st)) : GG x cells slots h pc lv (v :: w :: st) :=
  fun ad H locs ls h1 h2 h3 h4 hP hD hS hl => lv_dup_x1 C.hx C.hb d (vv_cat'.trans e) (vv_cat'.trans e2) (k ad H locs ls h1 (wfs_c (wfs_h h2) (wfs_c (wfs_h (wfs_t h2)) (wfs_c (wfs_h h2) (wfs_t (wfs_t h2))))) h3 h4 hP hD hS hl)
theorem g_dup2_11 (C : EV x cc own N rm) {v w : Value} (d : decode cc pc = .ok (.dup2, 1)) (e : v.category = 1) (e2 : w.category = 1) (k : GG x cells slots h (pc + 1) lv (v :: w :: v :: w :: st)) : GG x cells slots h pc lv (v :: w :: st) :=
  fun ad H locs ls h1 h2 h3 h4 hP hD hS hl => lv_dup2_11 C.hx C.hb d (vv_cat'.trans e) (vv_cat'.trans e2) (k ad H locs ls h1 (wfs_c (wfs_h h2) (wfs_c (wfs_h (wfs_t h2)) h2)) h3 h4 hP hD hS hl)
theorem g_topi {a : Int32} (k : ∀ y : Int32, y = a → GG x cells slots h pc lv (.int y :: st)) : GG x cells slots h pc lv (.int a :: st) := k a rfl
theorem g_topl {a : Int64} (k : ∀ y : Int64, y = a → GG x cells slots h pc lv (.long y :: st)) : GG x cells slots h pc lv (.long a :: st) := k a rfl
theorem g_iload_n (C : EV x cc own N rm) {z : Fin 4} {i : Nat} {a : Int32} (q : Nat) (e : lv[q]? = some (i, .int a)) (d : decode cc pc = .ok (.iload_n z, 1)) (hi : (z : Nat) = i) (k : GG x cells slots h (pc + 1) lv (.int a :: st)) : GG x cells slots h pc lv st :=
  fun ad H locs ls h1 h2 h3 h4 hP hD hS hl => lv_iload_n C.hx C.hb d hi (lv_at hl q (lm_at e)) (k ad H locs ls h1 (wfs_c wfv_i h2) h3 h4 hP hD hS hl)
theorem g_iload (C : EV x cc own N rm) {i : Nat} {a : Int32} (q : Nat) (e : lv[q]? = some (i, .int a)) (d : decode cc pc = .ok (.iload i, 2)) (k : GG x cells slots h (pc + 2) lv (.int a :: st)) : GG x cells slots h pc lv st :=
  fun ad H locs ls h1 h2 h3 h4 hP hD hS hl => lv_iload C.hx C.hb d (lv_at hl q (lm_at e)) (k ad H locs ls h1 (wfs_c wfv_i h2) h3 h4 hP hD hS hl)
theorem g_lload_n (C : EV x cc own N rm) {z : Fin 4} {i : Nat} {a : Int64} (q : Nat) (e : lv[q]? = some (i, .long a)) (d : decode cc pc = .ok (.lload_n z, 1)) (hi : (z : Nat) = i) (k : GG x cells slots h (pc + 1) lv (.long a :: st)) : GG x cells slots h pc lv st :=
  fun ad H locs ls h1 h2 h3 h4 hP hD hS hl => lv_lload_n C.hx C.hb d hi (lv_at hl q (lm_at e)) (k ad H locs ls h1 (wfs_c wfv_j h2) h3 h4 hP hD hS hl)
theorem g_lload (C : EV x cc own N rm) {i : Nat} {a : Int64} (q : Nat) (e : lv[q]? = some (i, .long a)) (d : decode cc pc = .ok (.lload i, 2)) (k : GG x cells slots h (pc + 2) lv (.long a :: st)) : GG x cells slots h pc lv st :=
  fun ad H locs ls h1 h2 h3 h4 hP hD hS hl => lv_lload C.hx C.hb d (lv_at hl q (lm_at e)) (k ad H locs ls h1 (wfs_c wfv_j h2) h3 h4 hP hD hS hl)
theorem g_aload_n (C : EV x cc own N rm) {z : Fin 4} {i a : Nat} (q : Nat) (e : lv[q]? = some (i, .ref a)) (d : decode cc pc = .ok (.aload_n z, 1)) (hi : (z : Nat) = i) (k : GG x cells slots h (pc + 1) lv (.ref a :: st)) : GG x cells slots h pc lv st :=
  fun ad H locs ls h1 h2 h3 h4 hP hD hS hl => lv_aload_n C.hx C.hb d hi (lv_at hl q (lm_at e)) (k ad H locs ls h1 (wfs_c (wfl_at h3 e) h2) h3 h4 hP hD hS hl)
theorem g_aload (C : EV x cc own N rm) {i a : Nat} (q : Nat) (e : lv[q]? = some (i, .ref a)) (d : decode cc pc = .ok (.aload i, 2)) (k : GG x cells slots h (pc + 2) lv (.ref a :: st)) : GG x cells slots h pc lv st :=
  fun ad H locs ls h1 h2 h3 h4 hP hD hS hl => lv_aload C.hx C.hb d (lv_at hl q (lm_at e)) (k ad H locs ls h1 (wfs_c (wfl_at h3 e) h2) h3 h4 hP hD hS hl)
theorem g_aload_nT (C : EV x cc own N rm) {z : Fin 4} {i a : Nat} (q : Nat) (e : lv[q]? = some (i, .retAddr a)) (d : decode cc pc = .ok (.aload_n z, 1)) (hi : (z : Nat) = i) (k : GG x cells slots h (pc + 1) lv (.retAddr a :: st)) : GG x cells slots h pc lv st :=
  fun ad H locs ls h1 h2 h3 h4 hP hD hS hl => lv_aload_n C.hx C.hb d hi (lv_at hl q (lm_at e)) (k ad H locs ls h1 (wfs_c (wfl_at h3 e) h2) h3 h4 hP hD hS hl)
theorem g_aloadT (C : EV x cc own N rm) {i a : Nat} (q : Nat) (e : lv[q]? = some (i, .retAddr a)) (d : decode cc pc = .ok (.aload i, 2)) (k : GG x cells slots h (pc + 2) lv (.retAddr a :: st)) : GG x cells slots h pc lv st :=
  fun ad H locs ls h1 h2 h3 h4 hP hD hS hl => lv_aload C.hx C.hb d (lv_at hl q (lm_at e)) (k ad H locs ls h1 (wfs_c (wfl_at h3 e) h2) h3 h4 hP hD hS hl)
theorem g_istore_n (C : EV x cc own N rm) {z : Fin 4} {i : Nat} {a : Int32} (d : decode cc pc = .ok (.istore_n z, 1)) (hi : (z : Nat) = i) (hn : i < N) (e : (i, Value.int a) :: lv.filter (fun q => !(q.1 == i) && !(q.1 + 1 == i && q.2.category == 2)) = lv') (k : GG x cells slots h (pc + 1) lv' st) : GG x cells slots h pc lv (Value.int a :: st) :=
  fun ad H locs ls h1 h2 h3 h4 hP hD hS hl => lv_istore_n (lv' := lm ad lv') C.hx C.hb d hi hl (by rw [C.hn]; exact hn) (by rw [lm_filter, ← e]; rfl) (fun ls' h' => k ad H locs ls' h1 (wfs_t h2) (by rw [← e]; exact wfl_c (wfs_h h2) (wfl_f _ h3)) h4 hP hD hS h')
theorem g_istore (C : EV x cc own N rm) {i : Nat} {a : Int32} (d : decode cc pc = .ok (.istore i, 2)) (hn : i < N) (e : (i, Value.int a) :: lv.filter (fun q => !(q.1 == i) && !(q.1 + 1 == i && q.2.category == 2)) = lv') (k : GG x cells slots h (pc + 2) lv' st) : GG x cells slots h pc lv (Value.int a :: st) :=
  fun ad H locs ls h1 h2 h3 h4 hP hD hS hl => lv_istore (lv' := lm ad lv') C.hx C.hb d hl (by rw [C.hn]; exact hn) (by rw [lm_filter, ← e]; rfl) (fun ls' h' => k ad H locs ls' h1 (wfs_t h2) (by rw [← e]; exact wfl_c (wfs_h h2) (wfl_f _ h3)) h4 hP hD hS h')
theorem g_lstore_n (C : EV x cc own N rm) {z : Fin 4} {i : Nat} {a : Int64} (d : decode cc pc = .ok (.lstore_n z, 1)) (hi : (z : Nat) = i) (hn : i + 1 < N) (e : (i, Value.long a) :: lv.filter (fun q => !(q.1 == i) && (!(q.1 == i + 1) && !(q.1 + 1 == i && q.2.category == 2))) = lv') (k : GG x cells slots h (pc + 1) lv' st) : GG x cells slots h pc lv (Value.long a :: st) :=
  fun ad H locs ls h1 h2 h3 h4 hP hD hS hl => lv_lstore_n (lv' := lm ad lv') C.hx C.hb d hi hl (by rw [C.hn]; exact hn) (by rw [lm_filter2, ← e]; rfl) (fun ls' h' => k ad H locs ls' h1 (wfs_t h2) (by rw [← e]; exact wfl_c (wfs_h h2) (wfl_f _ h3)) h4 hP hD hS h')
theorem g_lstore (C : EV x cc own N rm) {i : Nat} {a : Int64} (d : decode cc pc = .ok (.lstore i, 2)) (hn : i + 1 < N) (e : (i, Value.long a) :: lv.filter (fun q => !(q.1 == i) && (!(q.1 == i + 1) && !(q.1 + 1 == i && q.2.category == 2))) = lv') (k : GG x cells slots h (pc + 2) lv' st) : GG x cells slots h pc lv (Value.long a :: st) :=
  fun ad H locs ls h1 h2 h3 h4 hP hD hS hl => lv_lstore (lv' := lm ad lv') C.hx C.hb d hl (by rw [C.hn]; exact hn) (by rw [lm_filter2, ← e]; rfl) (fun ls' h' => k ad H locs ls' h1 (wfs_t h2) (by rw [← e]; exact wfl_c (wfs_h h2) (wfl_f _ h3)) h4 hP hD hS h')
theorem g_astore_n (C : EV x cc own N rm) {z : Fin 4} {i : Nat} {a : Nat} (d : decode cc pc = .ok (.astore_n z, 1)) (hi : (z : Nat) = i) (hn : i < N) (e : (i, Value.ref a) :: lv.filter (fun q => !(q.1 == i) && !(q.1 + 1 == i && q.2.category == 2)) = lv') (k : GG x cells slots h (pc + 1) lv' st) : GG x cells slots h pc lv (Value.ref a :: st) :=
  fun ad H locs ls h1 h2 h3 h4 hP hD hS hl => lv_astore_n (lv' := lm ad lv') C.hx C.hb d hi hl (by rw [C.hn]; exact hn) (by rw [lm_filter, ← e]; rfl) (fun ls' h' => k ad H locs ls' h1 (wfs_t h2) (by rw [← e]; exact wfl_c (wfs_h h2) (wfl_f _ h3)) h4 hP hD hS h')
theorem g_astore (C : EV x cc own N rm) {i : Nat} {a : Nat} (d : decode cc pc = .ok (.astore i, 2)) (hn : i < N) (e : (i, Value.ref a) :: lv.filter (fun q => !(q.1 == i) && !(q.1 + 1 == i && q.2.category == 2)) = lv') (k : GG x cells slots h (pc + 2) lv' st) : GG x cells slots h pc lv (Value.ref a :: st) :=
  fun ad H locs ls h1 h2 h3 h4 hP hD hS hl => lv_astore (lv' := lm ad lv') C.hx C.hb d hl (by rw [C.hn]; exact hn) (by rw [lm_filter, ← e]; rfl) (fun ls' h' => k ad H locs ls' h1 (wfs_t h2) (by rw [← e]; exact wfl_c (wfs_h h2) (wfl_f _ h3)) h4 hP hD hS h')
theorem g_iinc (C : EV x cc own N rm) {i : Nat} {n : Int} {a v : Int32} (q : Nat) (e0 : lv[q]? = some (i, .int a)) (d : decode cc pc = .ok (.iinc i n, 3)) (ev : a + Int32.ofInt n = v) (hn : i < N) (e : (i, Value.int v) :: lv.filter (fun q => !(q.1 == i) && !(q.1 + 1 == i && q.2.category == 2)) = lv') (k : GG x cells slots h (pc + 3) lv' st) : GG x cells slots h pc lv st :=
  fun ad H locs ls h1 h2 h3 h4 hP hD hS hl => lv_iinc (lv' := lm ad lv') C.hx C.hb d hl (lm_at e0) ev (by rw [C.hn]; exact hn) (by rw [lm_filter, ← e]; rfl) (fun ls' h' => k ad H locs ls' h1 h2 (by rw [← e]; exact wfl_c wfv_i (wfl_f _ h3)) h4 hP hD hS h')
theorem g_if_eq (C : EV x cc own N rm) {a : Int32} {off : Int} {tgt : Nat} (d : decode cc pc = .ok (.ifCond .eq off, 3)) (ht : (pc : Int) + off = (tgt : Int)) (kt : a = 0 → GG x cells slots h tgt lv st) (kf : ¬ a = 0 → GG x cells slots h (pc + 3) lv st) : GG x cells slots h pc lv (.int a :: st) :=
  fun ad H locs ls h1 h2 h3 h4 hP hD hS hl => lv_if_eq C.hx C.hb d ht (fun z => kt z ad H locs ls h1 (wfs_t h2) h3 h4 hP hD hS hl) (fun z => kf z ad H locs ls h1 (wfs_t h2) h3 h4 hP hD hS hl)
theorem g_icmp_eq (C : EV x cc own N rm) {a b : Int32} {off : Int} {tgt : Nat} (d : decode cc pc = .ok (.if_icmp .eq off, 3)) (ht : (pc : Int) + off = (tgt : Int)) (kt : a = b → GG x cells slots h tgt lv st) (kf : ¬ a = b → GG x cells slots h (pc + 3) lv st) : GG x cells slots h pc lv (.int b :: .int a :: st) :=
  fun ad H locs ls h1 h2 h3 h4 hP hD hS hl => lv_icmp_eq C.hx C.hb d ht (fun z => kt z ad H locs ls h1 (wfs_t (wfs_t h2)) h3 h4 hP hD hS hl) (fun z => kf z ad H locs ls h1 (wfs_t (wfs_t h2)) h3 h4 hP hD hS hl)
theorem g_if_ne (C : EV x cc own N rm) {a : Int32} {off : Int} {tgt : Nat} (d : decode cc pc = .ok (.ifCond .ne off, 3)) (ht : (pc : Int) + off = (tgt : Int)) (kt : ¬ a = 0 → GG x cells slots h tgt lv st) (kf : a = 0 → GG x cells slots h (pc + 3) lv st) : GG x cells slots h pc lv (.int a :: st) :=
  fun ad H locs ls h1 h2 h3 h4 hP hD hS hl => lv_if_ne C.hx C.hb d ht (fun z => kt z ad H locs ls h1 (wfs_t h2) h3 h4 hP hD hS hl) (fun z => kf z ad H locs ls h1 (wfs_t h2) h3 h4 hP hD hS hl)
theorem g_icmp_ne (C : EV x cc own N rm) {a b : Int32} {off : Int} {tgt : Nat} (d : decode cc pc = .ok (.if_icmp .ne off, 3)) (ht : (pc : Int) + off = (tgt : Int)) (kt : ¬ a = b → GG x cells slots h tgt lv st) (kf : a = b → GG x cells slots h (pc + 3) lv st) : GG x cells slots h pc lv (.int b :: .int a :: st) :=
  fun ad H locs ls h1 h2 h3 h4 hP hD hS hl => lv_icmp_ne C.hx C.hb d ht (fun z => kt z ad H locs ls h1 (wfs_t (wfs_t h2)) h3 h4 hP hD hS hl) (fun z => kf z ad H locs ls h1 (wfs_t (wfs_t h2)) h3 h4 hP hD hS hl)
theorem g_if_lt (C : EV x cc own N rm) {a : Int32} {off : Int} {tgt : Nat} (d : decode cc pc = .ok (.ifCond .lt off, 3)) (ht : (pc : Int) + off = (tgt : Int)) (kt : a < 0 → GG x cells slots h tgt lv st) (kf : ¬ a < 0 → GG x cells slots h (pc + 3) lv st) : GG x cells slots h pc lv (.int a :: st) :=
  fun ad H locs ls h1 h2 h3 h4 hP hD hS hl => lv_if_lt C.hx C.hb d ht (fun z => kt z ad H locs ls h1 (wfs_t h2) h3 h4 hP hD hS hl) (fun z => kf z ad H locs ls h1 (wfs_t h2) h3 h4 hP hD hS hl)
theorem g_icmp_lt (C : EV x cc own N rm) {a b : Int32} {off : Int} {tgt : Nat} (d : decode cc pc = .ok (.if_icmp .lt off, 3)) (ht : (pc : Int) + off = (tgt : Int)) (kt : a < b → GG x cells slots h tgt lv st) (kf : ¬ a < b → GG x cells slots h (pc + 3) lv st) : GG x cells slots h pc lv (.int b :: .int a :: st) :=
  fun ad H locs ls h1 h2 h3 h4 hP hD hS hl => lv_icmp_lt C.hx C.hb d ht (fun z => kt z ad H locs ls h1 (wfs_t (wfs_t h2)) h3 h4 hP hD hS hl) (fun z => kf z ad H locs ls h1 (wfs_t (wfs_t h2)) h3 h4 hP hD hS hl)
theorem g_if_ge (C : EV x cc own N rm) {a : Int32} {off : Int} {tgt : Nat} (d : decode cc pc = .ok (.ifCond .ge off, 3)) (ht : (pc : Int) + off = (tgt : Int)) (kt : 0 ≤ a → GG x cells slots h tgt lv st) (kf : ¬ 0 ≤ a → GG x cells slots h (pc + 3) lv st) : GG x cells slots h pc lv (.int a :: st) :=
  fun ad H locs ls h1 h2 h3 h4 hP hD hS hl => lv_if_ge C.hx C.hb d ht (fun z => kt z ad H locs ls h1 (wfs_t h2) h3 h4 hP hD hS hl) (fun z => kf z ad H locs ls h1 (wfs_t h2) h3 h4 hP hD hS hl)
theorem g_icmp_ge (C : EV x cc own N rm) {a b : Int32} {off : Int} {tgt : Nat} (d : decode cc pc = .ok (.if_icmp .ge off, 3)) (ht : (pc : Int) + off = (tgt : Int)) (kt : b ≤ a → GG x cells slots h tgt lv st) (kf : ¬ b ≤ a → GG x cells slots h (pc + 3) lv st) : GG x cells slots h pc lv (.int b :: .int a :: st) :=
  fun ad H locs ls h1 h2 h3 h4 hP hD hS hl => lv_icmp_ge C.hx C.hb d ht (fun z => kt z ad H locs ls h1 (wfs_t (wfs_t h2)) h3 h4 hP hD hS hl) (fun z => kf z ad H locs ls h1 (wfs_t (wfs_t h2)) h3 h4 hP hD hS hl)
theorem g_if_gt (C : EV x cc own N rm) {a : Int32} {off : Int} {tgt : Nat} (d : decode cc pc = .ok (.ifCond .gt off, 3)) (ht : (pc : Int) + off = (tgt : Int)) (kt : 0 < a → GG x cells slots h tgt lv st) (kf : ¬ 0 < a → GG x cells slots h (pc + 3) lv st) : GG x cells slots h pc lv (.int a :: st) :=
  fun ad H locs ls h1 h2 h3 h4 hP hD hS hl => lv_if_gt C.hx C.hb d ht (fun z => kt z ad H locs ls h1 (wfs_t h2) h3 h4 hP hD hS hl) (fun z => kf z ad H locs ls h1 (wfs_t h2) h3 h4 hP hD hS hl)
theorem g_icmp_gt (C : EV x cc own N rm) {a b : Int32} {off : Int} {tgt : Nat} (d : decode cc pc = .ok (.if_icmp .gt off, 3)) (ht : (pc : Int) + off = (tgt : Int)) (kt : b < a → GG x cells slots h tgt lv st) (kf : ¬ b < a → GG x cells slots h (pc + 3) lv st) : GG x cells slots h pc lv (.int b :: .int a :: st) :=
  fun ad H locs ls h1 h2 h3 h4 hP hD hS hl => lv_icmp_gt C.hx C.hb d ht (fun z => kt z ad H locs ls h1 (wfs_t (wfs_t h2)) h3 h4 hP hD hS hl) (fun z => kf z ad H locs ls h1 (wfs_t (wfs_t h2)) h3 h4 hP hD hS hl)
theorem g_if_le (C : EV x cc own N rm) {a : Int32} {off : Int} {tgt : Nat} (d : decode cc pc = .ok (.ifCond .le off, 3)) (ht : (pc : Int) + off = (tgt : Int)) (kt : a ≤ 0 → GG x cells slots h tgt lv st) (kf : ¬ a ≤ 0 → GG x cells slots h (pc + 3) lv st) : GG x cells slots h pc lv (.int a :: st) :=
  fun ad H locs ls h1 h2 h3 h4 hP hD hS hl => lv_if_le C.hx C.hb d ht (fun z => kt z ad H locs ls h1 (wfs_t h2) h3 h4 hP hD hS hl) (fun z => kf z ad H locs ls h1 (wfs_t h2) h3 h4 hP hD hS hl)
theorem g_icmp_le (C : EV x cc own N rm) {a b : Int32} {off : Int} {tgt : Nat} (d : decode cc pc = .ok (.if_icmp .le off, 3)) (ht : (pc : Int) + off = (tgt : Int)) (kt : a ≤ b → GG x cells slots h tgt lv st) (kf : ¬ a ≤ b → GG x cells slots h (pc + 3) lv st) : GG x cells slots h pc lv (.int b :: .int a :: st) :=
  fun ad H locs ls h1 h2 h3 h4 hP hD hS hl => lv_icmp_le C.hx C.hb d ht (fun z => kt z ad H locs ls h1 (wfs_t (wfs_t h2)) h3 h4 hP hD hS hl) (fun z => kf z ad H locs ls h1 (wfs_t (wfs_t h2)) h3 h4 hP hD hS hl)
theorem g_goto (C : EV x cc own N rm) {off : Int} {tgt : Nat} (d : decode cc pc = .ok (.goto off, 3)) (ht : (pc : Int) + off = (tgt : Int)) (k : GG x cells slots h tgt lv st) : GG x cells slots h pc lv st :=
  fun ad H locs ls h1 h2 h3 h4 hP hD hS hl => lv_goto C.hx C.hb d ht (k ad H locs ls h1 h2 h3 h4 hP hD hS hl)
theorem lm_pick {ad : AD} {lv lv' : List (Nat × Value)} (ks : List Nat) (e : lv_pick lv ks = lv') : lv_pick (lm ad lv) ks = lm ad lv' := by
  subst e
  simp only [lv_pick, lm]
  induction ks with
  | nil => rfl
  | cons a ks ih =>
    rw [List.filterMap_cons, List.filterMap_cons, List.getElem?_map]
    cases hz : lv[a]? with
    | none => simpa using ih
    | some q => simpa using ih
theorem g_lv (ks : List Nat) (e : lv_pick lv ks = lv') (k : GG x cells slots h pc lv' st) : GG x cells slots h pc lv st :=
  fun ad H locs ls h1 h2 h3 h4 hP hD hS hl => k ad H locs ls h1 h2 (by
    rw [← e]
    intro q hq
    obtain ⟨i, -, hi⟩ := List.mem_filterMap.mp hq
    exact h3 q (List.mem_of_getElem? hi)) h4 hP hD hS (lv_sub hl ks (lm_pick ks e))
theorem g_widen {k n : Nat} (e1 : cells ≤ k) (e2 : slots ≤ n) (kk : GG x k n h pc lv st) : GG x cells slots h pc lv st :=
  fun ad H locs ls h1 h2 h3 h4 hP hD hS hl => W.widen e1 e2 (kk ad H locs ls h1 h2 h3 h4 hP hD hS hl)
theorem ldB_of {k : Nat} {i a : Int32} (e : ldB h k i = some a) : ∃ n f, h[k]? = some (pB n f) ∧ vp_in i n ∧ (f i.toNatClampNeg).toInt32 = a := by
  unfold ldB at e
  split at e
  · split at e
    · cases e
    · exact ⟨_, _, by assumption, by assumption, Option.some.inj e⟩
  · cases e
theorem ldI_of {k : Nat} {i a : Int32} (e : ldI h k i = some a) : ∃ n f, h[k]? = some (pI n f) ∧ vp_in i n ∧ f i.toNatClampNeg = a := by
  unfold ldI at e
  split at e
  · split at e
    · cases e
    · exact ⟨_, _, by assumption, by assumption, Option.some.inj e⟩
  · cases e
theorem ldJ_of {k : Nat} {i : Int32} {a : Int64} (e : ldJ h k i = some a) : ∃ n f, h[k]? = some (pJ n f) ∧ vp_in i n ∧ f i.toNatClampNeg = a := by
  unfold ldJ at e
  split at e
  · split at e
    · cases e
    · exact ⟨_, _, by assumption, by assumption, Option.some.inj e⟩
  · cases e
theorem ldR_of {k t : Nat} {i : Int32} {a : Nat} (e : ldR h k t i = some a) : ∃ n f, h[k]? = some (pR t n f) ∧ vp_in i n ∧ f i.toNatClampNeg = some a := by
  unfold ldR at e
  split at e
  · split at e
    · cases e
    · rename_i u n f hk hc
      have hu : u = t := Classical.byContradiction fun z => hc (Or.inl z)
      subst hu
      exact ⟨_, _, hk, fun z => hc (Or.inr z), e⟩
  · cases e
theorem g_baload (C : EV x cc own N rm) {k : Nat} {i a : Int32} (e : ldB h k i = some a) (d : decode cc pc = .ok (.baload, 1)) (kk : GG x cells slots h (pc + 1) lv (.int a :: st)) : GG x cells slots h pc lv (.int i :: .ref k :: st) := by
  obtain ⟨n, f, hk, hin, rfl⟩ := ldB_of e
  exact fun ad H locs ls h1 h2 h3 h4 hP hD hS hl => va_bald C.hx C.hb C.hK hP k 0 (wd_get hk) rfl hin d (kk ad H locs ls h1 (wfs_c wfv_i (wfs_t (wfs_t h2))) h3 h4 hP hD hS hl)
theorem g_iaload (C : EV x cc own N rm) {k : Nat} {i a : Int32} (e : ldI h k i = some a) (d : decode cc pc = .ok (.iaload, 1)) (kk : GG x cells slots h (pc + 1) lv (.int a :: st)) : GG x cells slots h pc lv (.int i :: .ref k :: st) := by
  obtain ⟨n, f, hk, hin, rfl⟩ := ldI_of e
  exact fun ad H locs ls h1 h2 h3 h4 hP hD hS hl => va_iald C.hx C.hb C.hK hP k 1 (wd_get hk) rfl hin d (kk ad H locs ls h1 (wfs_c wfv_i (wfs_t (wfs_t h2))) h3 h4 hP hD hS hl)
theorem g_laload (C : EV x cc own N rm) {k : Nat} {i : Int32} {a : Int64} (e : ldJ h k i = some a) (d : decode cc pc = .ok (.laload, 1)) (kk : GG x cells slots h (pc + 1) lv (.long a :: st)) : GG x cells slots h pc lv (.int i :: .ref k :: st) := by
  obtain ⟨n, f, hk, hin, rfl⟩ := ldJ_of e
  exact fun ad H locs ls h1 h2 h3 h4 hP hD hS hl => va_lald C.hx C.hb C.hK hP k 2 (wd_get hk) rfl hin d (kk ad H locs ls h1 (wfs_c wfv_j (wfs_t (wfs_t h2))) h3 h4 hP hD hS hl)
def tdI (t : Nat) (i : Int32) : Option Int32 := if 7 ≤ t ∨ i < 0 ∨ (stab t).1 ≤ i.toNatClampNeg then none else some ((stab t).2 i.toNatClampNeg)
def tdN (t : Nat) : Option Int32 := if 7 ≤ t then none else some (Int32.ofNat (stab t).1)
theorem g_ialoadT (C : EV x cc own N rm) {t : Nat} {i a : Int32} (e : tdI t i = some a) (d : decode cc pc = .ok (.iaload, 1)) (kk : GG x cells slots h (pc + 1) lv (.int a :: st)) : GG x cells slots h pc lv (.int i :: .retAddr t :: st) := by
  unfold tdI at e
  split at e
  · cases e
  · rename_i hc
    have h7 : t < 7 := Nat.lt_of_not_le fun z => hc (Or.inl z)
    have hin : vp_in i (stab t).1 := fun z => hc (Or.inr z)
    have ea := Option.some.inj e
    intro ad H locs ls h1 h2 h3 h4 hP hD hS hl
    have hT := (C.hS t h7).2
    rw [← h4.2.1] at hT
    exact va_ti C.hx C.hb hT hS hin (by rw [ea]; rfl) d (kk ad H locs ls h1 (wfs_c wfv_i (wfs_t (wfs_t h2))) h3 h4 hP hD hS hl)
theorem g_alenT (C : EV x cc own N rm) {t : Nat} {a : Int32} (e : tdN t = some a) (d : decode cc pc = .ok (.arraylength, 1)) (kk : GG x cells slots h (pc + 1) lv (.int a :: st)) : GG x cells slots h pc lv (.retAddr t :: st) := by
  unfold tdN at e
  split at e
  · cases e
  · rename_i hc
    have h7 : t < 7 := Nat.lt_of_not_le hc
    have ea := Option.some.inj e
    intro ad H locs ls h1 h2 h3 h4 hP hD hS hl
    have hT := (C.hS t h7).2
    rw [← h4.2.1] at hT
    exact va_tlen C.hx C.hb hT hS ea d (kk ad H locs ls h1 (wfs_c wfv_i (wfs_t h2)) h3 h4 hP hD hS hl)
theorem g_alen (C : EV x cc own N rm) {k : Nat} {a : Int32} (e : ln h k = some a) (ht : ∀ t n f, h[k]? = some (pR t n f) → t < 6) (d : decode cc pc = .ok (.arraylength, 1)) (kk : GG x cells slots h (pc + 1) lv (.int a :: st)) : GG x cells slots h pc lv (.ref k :: st) := by
  unfold ln at e
  intro ad H locs ls h1 h2 h3 h4 hP hD hS hl
  have go := kk ad H locs ls h1 (wfs_c wfv_i (wfs_t h2)) h3 h4 hP hD hS hl
  split at e
  · rename_i n f hk
    exact va_alen C.hx C.hb C.hK hP k 0 (wd_get hk) rfl (Option.some.inj e) d go
  · rename_i n f hk
    exact va_alen C.hx C.hb C.hK hP k 1 (wd_get hk) rfl (Option.some.inj e) d go
  · rename_i n f hk
    exact va_alen C.hx C.hb C.hK hP k 2 (wd_get hk) rfl (Option.some.inj e) d go
  · rename_i t n f hk
    have h6 := ht t n f hk
    have hz : ∃ ty, (tysOf x.2.2.1.2.1)[t]? = some (x.2.2.1.2.1 t, ty) := by
      match t, h6 with
      | 0, _ => exact ⟨_, rfl⟩
      | 1, _ => exact ⟨_, rfl⟩
      | 2, _ => exact ⟨_, rfl⟩
      | 3, _ => exact ⟨_, rfl⟩
      | 4, _ => exact ⟨_, rfl⟩
      | 5, _ => exact ⟨_, rfl⟩
    obtain ⟨ty, hty⟩ := hz
    exact va_alen C.hx C.hb C.hK hP k t (wd_get hk) hty (Option.some.inj e) d go
  · cases e
theorem stB_of {k : Nat} {i : Int32} {a : Int32} {h' : HP} (e : stB h k i a = some h') : ∃ n f, h[k]? = some (pB n f) ∧ vp_in i n ∧ h' = h.set k (pB n (va_up f i.toNatClampNeg a.toInt8)) := by
  unfold stB at e
  split at e
  · split at e
    · cases e
    · exact ⟨_, _, by assumption, by assumption, (Option.some.inj e).symm⟩
  · cases e
theorem stI_of {k : Nat} {i : Int32} {a : Int32} {h' : HP} (e : stI h k i a = some h') : ∃ n f, h[k]? = some (pI n f) ∧ vp_in i n ∧ h' = h.set k (pI n (va_up f i.toNatClampNeg a)) := by
  unfold stI at e
  split at e
  · split at e
    · cases e
    · exact ⟨_, _, by assumption, by assumption, (Option.some.inj e).symm⟩
  · cases e
theorem stJ_of {k : Nat} {i : Int32} {a : Int64} {h' : HP} (e : stJ h k i a = some h') : ∃ n f, h[k]? = some (pJ n f) ∧ vp_in i n ∧ h' = h.set k (pJ n (va_up f i.toNatClampNeg a)) := by
  unfold stJ at e
  split at e
  · split at e
    · cases e
    · exact ⟨_, _, by assumption, by assumption, (Option.some.inj e).symm⟩
  · cases e
theorem by_up (f : Nat → Int8) (k : Nat) (a : Int32) : (fun j => (va_up f k a.toInt8 j).toInt32) = upd (fun j => (f j).toInt32) k (vp_nar .byte a) := by
  funext j
  unfold va_up upd
  split
  · rw [vp_nar_byte]
  · rfl
theorem g_bastore (C : EV x cc own N rm) {k : Nat} {i a : Int32} {h' : HP} (e : stB h k i a = some h') (d : decode cc pc = .ok (.bastore, 1)) (kk : GG x cells slots h' (pc + 1) lv st) : GG x cells slots h pc lv (.int a :: .int i :: .ref k :: st) := by
  obtain ⟨n, f, hk, hin, rfl⟩ := stB_of e
  intro ad H locs ls h1 h2 h3 h4 hP hD hS hl
  refine va_bast C.hx C.hb C.hK hP hD hS k 0 (wd_get hk) rfl hin d (fun H1 locs1 hP1 hD1 hS1 => ?_)
  rw [← by_up] at hP1 hD1
  have e2 : (wd x.2.2.1.2.1 ad h).set k (ad.1 k, .inl (x.2.2.1.2.1 0, n, .inl (fun j => (va_up f i.toNatClampNeg a.toInt8 j).toInt32))) = wd x.2.2.1.2.1 ad (h.set k (pB n (va_up f i.toNatClampNeg a.toInt8))) := wd_set (c := pB n (va_up f i.toNatClampNeg a.toInt8))
  rw [e2] at hP1 hD1
  exact kk ad H1 locs1 ls (wfh_set h1 trivial) (by rw [List.length_set]; exact wfs_t (wfs_t (wfs_t h2))) (by rw [List.length_set]; exact h3) (by rw [List.length_set]; exact h4) hP1 hD1 hS1 hl
theorem g_iastore (C : EV x cc own N rm) {k : Nat} {i a : Int32} {h' : HP} (e : stI h k i a = some h') (d : decode cc pc = .ok (.iastore, 1)) (kk : GG x cells slots h' (pc + 1) lv st) : GG x cells slots h pc lv (.int a :: .int i :: .ref k :: st) := by
  obtain ⟨n, f, hk, hin, rfl⟩ := stI_of e
  intro ad H locs ls h1 h2 h3 h4 hP hD hS hl
  refine va_iast C.hx C.hb C.hK hP hD hS k 1 (wd_get hk) rfl hin d (fun H1 locs1 hP1 hD1 hS1 => ?_)
  have e2 : (wd x.2.2.1.2.1 ad h).set k (ad.1 k, .inl (x.2.2.1.2.1 1, n, .inl (upd f i.toNatClampNeg a))) = wd x.2.2.1.2.1 ad (h.set k (pI n (va_up f i.toNatClampNeg a))) := wd_set (c := pI n (va_up f i.toNatClampNeg a))
  rw [e2] at hP1 hD1
  exact kk ad H1 locs1 ls (wfh_set h1 trivial) (by rw [List.length_set]; exact wfs_t (wfs_t (wfs_t h2))) (by rw [List.length_set]; exact h3) (by rw [List.length_set]; exact h4) hP1 hD1 hS1 hl
theorem g_lastore (C : EV x cc own N rm) {k : Nat} {i : Int32} {a : Int64} {h' : HP} (e : stJ h k i a = some h') (d : decode cc pc = .ok (.lastore, 1)) (kk : GG x cells slots h' (pc + 1) lv st) : GG x cells slots h pc lv (.long a :: .int i :: .ref k :: st) := by
  obtain ⟨n, f, hk, hin, rfl⟩ := stJ_of e
  intro ad H locs ls h1 h2 h3 h4 hP hD hS hl
  refine va_last C.hx C.hb C.hK hP hD hS k 2 (wd_get hk) rfl hin d (fun H1 locs1 hP1 hD1 hS1 => ?_)
  have e2 : (wd x.2.2.1.2.1 ad h).set k (ad.1 k, .inl (x.2.2.1.2.1 2, n, .inr (.inl (vp_updL f i.toNatClampNeg a)))) = wd x.2.2.1.2.1 ad (h.set k (pJ n (va_up f i.toNatClampNeg a))) := wd_set (c := pJ n (va_up f i.toNatClampNeg a))
  rw [e2] at hP1 hD1
  exact kk ad H1 locs1 ls (wfh_set h1 trivial) (by rw [List.length_set]; exact wfs_t (wfs_t (wfs_t h2))) (by rw [List.length_set]; exact h3) (by rw [List.length_set]; exact h4) hP1 hD1 hS1 hl
end GR
