section
-- ===== PART A: goes FIRST, ahead of the names: the tables' words, and 'selects' of the private methods out of them =====
/-- a private method of a class that the tables say can be made, by its rows of tables_1 -/
def lw_okq (q : MethodName × Nat) : Prop := (q.1.cls ≠ "java/lang/invoke/MethodHandle" ∧ q.1.cls ≠ "java/lang/invoke/VarHandle") ∧ Cond.instantiable q.1.cls q.2 ∈ tables_1 ∧ Cond.privateMethod q.1 ∈ tables_1 ∧ Cond.instanceMethod q.1 ∈ tables_1
theorem lw_p0 : lw_okq (⟨"PrimeKeys$Modulus", "lessPrime", "([J)J"⟩, 9) := ⟨⟨by decide +kernel, by decide +kernel⟩, List.mem_of_getElem? (i := 63) (by decide +kernel), List.mem_of_getElem? (i := 100) (by decide +kernel), List.mem_of_getElem? (i := 101) (by decide +kernel)⟩
theorem lw_p1 : lw_okq (⟨"PrimeKeys$Modulus", "fillWide", "([J[J)V"⟩, 9) := ⟨⟨by decide +kernel, by decide +kernel⟩, List.mem_of_getElem? (i := 63) (by decide +kernel), List.mem_of_getElem? (i := 167) (by decide +kernel), List.mem_of_getElem? (i := 168) (by decide +kernel)⟩
theorem lw_p2 : lw_okq (⟨"PrimeKeys$Modulus", "foldWide", "([J)V"⟩, 9) := ⟨⟨by decide +kernel, by decide +kernel⟩, List.mem_of_getElem? (i := 63) (by decide +kernel), List.mem_of_getElem? (i := 171) (by decide +kernel), List.mem_of_getElem? (i := 172) (by decide +kernel)⟩
theorem lw_p3 : lw_okq (⟨"PrimeKeys$Curve", "enterForm", "(LPrimeKeys$Point;)V"⟩, 6) := ⟨⟨by decide +kernel, by decide +kernel⟩, List.mem_of_getElem? (i := 57) (by decide +kernel), List.mem_of_getElem? (i := 179) (by decide +kernel), List.mem_of_getElem? (i := 180) (by decide +kernel)⟩
theorem lw_p4 : lw_okq (⟨"PrimeKeys$Curve", "fillMultiples", "([LPrimeKeys$Point;)V"⟩, 6) := ⟨⟨by decide +kernel, by decide +kernel⟩, List.mem_of_getElem? (i := 57) (by decide +kernel), List.mem_of_getElem? (i := 187) (by decide +kernel), List.mem_of_getElem? (i := 188) (by decide +kernel)⟩
theorem lw_p5 : lw_okq (⟨"PrimeKeys$Curve", "twice", "(LPrimeKeys$Point;LPrimeKeys$Point;)V"⟩, 6) := ⟨⟨by decide +kernel, by decide +kernel⟩, List.mem_of_getElem? (i := 57) (by decide +kernel), List.mem_of_getElem? (i := 191) (by decide +kernel), List.mem_of_getElem? (i := 192) (by decide +kernel)⟩
theorem lw_p6 : lw_okq (⟨"PrimeKeys$Modulus", "addPrime", "([J)V"⟩, 9) := ⟨⟨by decide +kernel, by decide +kernel⟩, List.mem_of_getElem? (i := 63) (by decide +kernel), List.mem_of_getElem? (i := 200) (by decide +kernel), List.mem_of_getElem? (i := 201) (by decide +kernel)⟩
theorem lw_p7 : lw_okq (⟨"PrimeKeys$Curve", "add", "(LPrimeKeys$Point;LPrimeKeys$Point;LPrimeKeys$Point;)V"⟩, 6) := ⟨⟨by decide +kernel, by decide +kernel⟩, List.mem_of_getElem? (i := 57) (by decide +kernel), List.mem_of_getElem? (i := 205) (by decide +kernel), List.mem_of_getElem? (i := 206) (by decide +kernel)⟩
theorem lw_p8 : lw_okq (⟨"PrimeKeys$Curve", "addApart", "(LPrimeKeys$Point;LPrimeKeys$Point;LPrimeKeys$Point;)V"⟩, 6) := ⟨⟨by decide +kernel, by decide +kernel⟩, List.mem_of_getElem? (i := 57) (by decide +kernel), List.mem_of_getElem? (i := 224) (by decide +kernel), List.mem_of_getElem? (i := 225) (by decide +kernel)⟩
theorem lw_p9 : lw_okq (⟨"PrimeKeys$Sha256", "mixBlock", "()V"⟩, 5) := ⟨⟨by decide +kernel, by decide +kernel⟩, List.mem_of_getElem? (i := 33) (by decide +kernel), List.mem_of_getElem? (i := 359) (by decide +kernel), List.mem_of_getElem? (i := 360) (by decide +kernel)⟩
theorem lw_p10 : lw_okq (⟨"PrimeKeys$Sha256", "fillSchedule", "()V"⟩, 5) := ⟨⟨by decide +kernel, by decide +kernel⟩, List.mem_of_getElem? (i := 33) (by decide +kernel), List.mem_of_getElem? (i := 363) (by decide +kernel), List.mem_of_getElem? (i := 364) (by decide +kernel)⟩
theorem lw_p11 : lw_okq (⟨"PrimeKeys$Sha256", "clearRestOfBlock", "()V"⟩, 5) := ⟨⟨by decide +kernel, by decide +kernel⟩, List.mem_of_getElem? (i := 33) (by decide +kernel), List.mem_of_getElem? (i := 373) (by decide +kernel), List.mem_of_getElem? (i := 374) (by decide +kernel)⟩
theorem lw_p12 : lw_okq (⟨"java/lang/Throwable", "fillInStackTrace", "(I)Ljava/lang/Throwable;"⟩, 6) := ⟨⟨by decide +kernel, by decide +kernel⟩, List.mem_of_getElem? (i := 486) (by decide +kernel), List.mem_of_getElem? (i := 484) (by decide +kernel), List.mem_of_getElem? (i := 485) (by decide +kernel)⟩
theorem lw_p13 : lw_okq (⟨"PrimeKeys", "makeRoom", "(I)V"⟩, 17) := ⟨⟨by decide +kernel, by decide +kernel⟩, List.mem_of_getElem? (i := 23) (by decide +kernel), List.mem_of_getElem? (i := 511) (by decide +kernel), List.mem_of_getElem? (i := 512) (by decide +kernel)⟩
theorem lw_p14 : lw_okq (⟨"PrimeKeys", "isKey", "(I)Z"⟩, 17) := ⟨⟨by decide +kernel, by decide +kernel⟩, List.mem_of_getElem? (i := 23) (by decide +kernel), List.mem_of_getElem? (i := 579) (by decide +kernel), List.mem_of_getElem? (i := 580) (by decide +kernel)⟩
theorem lw_p15 : lw_okq (⟨"PrimeKeys$Curve", "digit", "([BI)I"⟩, 6) := ⟨⟨by decide +kernel, by decide +kernel⟩, List.mem_of_getElem? (i := 57) (by decide +kernel), List.mem_of_getElem? (i := 602) (by decide +kernel), List.mem_of_getElem? (i := 603) (by decide +kernel)⟩
def lw_privs_1 : List (MethodName × Nat) := [(⟨"PrimeKeys$Modulus", "lessPrime", "([J)J"⟩, 9), (⟨"PrimeKeys$Modulus", "fillWide", "([J[J)V"⟩, 9), (⟨"PrimeKeys$Modulus", "foldWide", "([J)V"⟩, 9), (⟨"PrimeKeys$Curve", "enterForm", "(LPrimeKeys$Point;)V"⟩, 6), (⟨"PrimeKeys$Curve", "fillMultiples", "([LPrimeKeys$Point;)V"⟩, 6), (⟨"PrimeKeys$Curve", "twice", "(LPrimeKeys$Point;LPrimeKeys$Point;)V"⟩, 6), (⟨"PrimeKeys$Modulus", "addPrime", "([J)V"⟩, 9), (⟨"PrimeKeys$Curve", "add", "(LPrimeKeys$Point;LPrimeKeys$Point;LPrimeKeys$Point;)V"⟩, 6), (⟨"PrimeKeys$Curve", "addApart", "(LPrimeKeys$Point;LPrimeKeys$Point;LPrimeKeys$Point;)V"⟩, 6), (⟨"PrimeKeys$Sha256", "mixBlock", "()V"⟩, 5), (⟨"PrimeKeys$Sha256", "fillSchedule", "()V"⟩, 5), (⟨"PrimeKeys$Sha256", "clearRestOfBlock", "()V"⟩, 5), (⟨"java/lang/Throwable", "fillInStackTrace", "(I)Ljava/lang/Throwable;"⟩, 6), (⟨"PrimeKeys", "makeRoom", "(I)V"⟩, 17), (⟨"PrimeKeys", "isKey", "(I)Z"⟩, 17), (⟨"PrimeKeys$Curve", "digit", "([BI)I"⟩, 6)]
theorem lw_r1 : ∀ q ∈ lw_privs_1, lw_okq q := List.forall_mem_cons.mpr ⟨lw_p0, List.forall_mem_cons.mpr ⟨lw_p1, List.forall_mem_cons.mpr ⟨lw_p2, List.forall_mem_cons.mpr ⟨lw_p3, List.forall_mem_cons.mpr ⟨lw_p4, List.forall_mem_cons.mpr ⟨lw_p5, List.forall_mem_cons.mpr ⟨lw_p6, List.forall_mem_cons.mpr ⟨lw_p7, List.forall_mem_cons.mpr ⟨lw_p8, List.forall_mem_cons.mpr ⟨lw_p9, List.forall_mem_cons.mpr ⟨lw_p10, List.forall_mem_cons.mpr ⟨lw_p11, List.forall_mem_cons.mpr ⟨lw_p12, List.forall_mem_cons.mpr ⟨lw_p13, List.forall_mem_cons.mpr ⟨lw_p14, List.forall_mem_cons.mpr ⟨lw_p15, fun _ h => absurd h List.not_mem_nil⟩⟩⟩⟩⟩⟩⟩⟩⟩⟩⟩⟩⟩⟩⟩⟩
theorem lw_p16 : lw_okq (⟨"PrimeKeys$Curve", "isOnCurve", "(LPrimeKeys$Point;)Z"⟩, 6) := ⟨⟨by decide +kernel, by decide +kernel⟩, List.mem_of_getElem? (i := 57) (by decide +kernel), List.mem_of_getElem? (i := 634) (by decide +kernel), List.mem_of_getElem? (i := 635) (by decide +kernel)⟩
theorem lw_p17 : lw_okq (⟨"PrimeKeys$Signer", "readReduced", "([B)V"⟩, 11) := ⟨⟨by decide +kernel, by decide +kernel⟩, List.mem_of_getElem? (i := 254) (by decide +kernel), List.mem_of_getElem? (i := 649) (by decide +kernel), List.mem_of_getElem? (i := 650) (by decide +kernel)⟩
theorem lw_p18 : lw_okq (⟨"PrimeKeys$Nonces", "renew", "(BI)V"⟩, 6) := ⟨⟨by decide +kernel, by decide +kernel⟩, List.mem_of_getElem? (i := 264) (by decide +kernel), List.mem_of_getElem? (i := 663) (by decide +kernel), List.mem_of_getElem? (i := 664) (by decide +kernel)⟩
theorem lw_p19 : lw_okq (⟨"PrimeKeys$Nonces", "mac", "([BI[B)V"⟩, 6) := ⟨⟨by decide +kernel, by decide +kernel⟩, List.mem_of_getElem? (i := 264) (by decide +kernel), List.mem_of_getElem? (i := 667) (by decide +kernel), List.mem_of_getElem? (i := 668) (by decide +kernel)⟩
theorem lw_p20 : lw_okq (⟨"PrimeKeys$Nonces", "fillPad", "(I)V"⟩, 6) := ⟨⟨by decide +kernel, by decide +kernel⟩, List.mem_of_getElem? (i := 264) (by decide +kernel), List.mem_of_getElem? (i := 671) (by decide +kernel), List.mem_of_getElem? (i := 672) (by decide +kernel)⟩
theorem lw_p21 : lw_okq (⟨"PrimeKeys$Signer", "readReducedX", "(LPrimeKeys$Curve;)V"⟩, 11) := ⟨⟨by decide +kernel, by decide +kernel⟩, List.mem_of_getElem? (i := 254) (by decide +kernel), List.mem_of_getElem? (i := 689) (by decide +kernel), List.mem_of_getElem? (i := 690) (by decide +kernel)⟩
theorem lw_p22 : lw_okq (⟨"PrimeKeys$Signer", "fillS", "([B[B)V"⟩, 11) := ⟨⟨by decide +kernel, by decide +kernel⟩, List.mem_of_getElem? (i := 254) (by decide +kernel), List.mem_of_getElem? (i := 695) (by decide +kernel), List.mem_of_getElem? (i := 696) (by decide +kernel)⟩
theorem lw_p23 : lw_okq (⟨"PrimeKeys$Signature", "writeNumber", "([B[BI)I"⟩, 2) := ⟨⟨by decide +kernel, by decide +kernel⟩, List.mem_of_getElem? (i := 327) (by decide +kernel), List.mem_of_getElem? (i := 711) (by decide +kernel), List.mem_of_getElem? (i := 712) (by decide +kernel)⟩
theorem lw_p24 : lw_okq (⟨"PrimeKeys$Signature", "readNumber", "([BII[B)I"⟩, 2) := ⟨⟨by decide +kernel, by decide +kernel⟩, List.mem_of_getElem? (i := 327) (by decide +kernel), List.mem_of_getElem? (i := 727) (by decide +kernel), List.mem_of_getElem? (i := 728) (by decide +kernel)⟩
theorem lw_p25 : lw_okq (⟨"PrimeKeysModel", "constants", "()V"⟩, 50) := ⟨⟨by decide +kernel, by decide +kernel⟩, List.mem_of_getElem? (i := 775) (by decide +kernel), List.mem_of_getElem? (i := 840) (by decide +kernel), List.mem_of_getElem? (i := 841) (by decide +kernel)⟩
theorem lw_p26 : lw_okq (⟨"PrimeKeysModel", "root", "(II)J"⟩, 50) := ⟨⟨by decide +kernel, by decide +kernel⟩, List.mem_of_getElem? (i := 775) (by decide +kernel), List.mem_of_getElem? (i := 847) (by decide +kernel), List.mem_of_getElem? (i := 848) (by decide +kernel)⟩
theorem lw_p27 : lw_okq (⟨"PrimeKeysModel", "fits", "(JJII)Z"⟩, 50) := ⟨⟨by decide +kernel, by decide +kernel⟩, List.mem_of_getElem? (i := 775) (by decide +kernel), List.mem_of_getElem? (i := 851) (by decide +kernel), List.mem_of_getElem? (i := 852) (by decide +kernel)⟩
theorem lw_p28 : lw_okq (⟨"PrimeKeysModel", "raise", "(JJ)V"⟩, 50) := ⟨⟨by decide +kernel, by decide +kernel⟩, List.mem_of_getElem? (i := 775) (by decide +kernel), List.mem_of_getElem? (i := 855) (by decide +kernel), List.mem_of_getElem? (i := 856) (by decide +kernel)⟩
theorem lw_p29 : lw_okq (⟨"PrimeKeysModel", "fail", "(I)I"⟩, 50) := ⟨⟨by decide +kernel, by decide +kernel⟩, List.mem_of_getElem? (i := 775) (by decide +kernel), List.mem_of_getElem? (i := 1035) (by decide +kernel), List.mem_of_getElem? (i := 1036) (by decide +kernel)⟩
theorem lw_p30 : lw_okq (⟨"PrimeKeysModel", "none", "(I)Z"⟩, 50) := ⟨⟨by decide +kernel, by decide +kernel⟩, List.mem_of_getElem? (i := 775) (by decide +kernel), List.mem_of_getElem? (i := 1057) (by decide +kernel), List.mem_of_getElem? (i := 1058) (by decide +kernel)⟩
theorem lw_p31 : lw_okq (⟨"PrimeKeysModel", "fromBase", "([J)V"⟩, 50) := ⟨⟨by decide +kernel, by decide +kernel⟩, List.mem_of_getElem? (i := 775) (by decide +kernel), List.mem_of_getElem? (i := 1061) (by decide +kernel), List.mem_of_getElem? (i := 1062) (by decide +kernel)⟩
def lw_privs_2 : List (MethodName × Nat) := [(⟨"PrimeKeys$Curve", "isOnCurve", "(LPrimeKeys$Point;)Z"⟩, 6), (⟨"PrimeKeys$Signer", "readReduced", "([B)V"⟩, 11), (⟨"PrimeKeys$Nonces", "renew", "(BI)V"⟩, 6), (⟨"PrimeKeys$Nonces", "mac", "([BI[B)V"⟩, 6), (⟨"PrimeKeys$Nonces", "fillPad", "(I)V"⟩, 6), (⟨"PrimeKeys$Signer", "readReducedX", "(LPrimeKeys$Curve;)V"⟩, 11), (⟨"PrimeKeys$Signer", "fillS", "([B[B)V"⟩, 11), (⟨"PrimeKeys$Signature", "writeNumber", "([B[BI)I"⟩, 2), (⟨"PrimeKeys$Signature", "readNumber", "([BII[B)I"⟩, 2), (⟨"PrimeKeysModel", "constants", "()V"⟩, 50), (⟨"PrimeKeysModel", "root", "(II)J"⟩, 50), (⟨"PrimeKeysModel", "fits", "(JJII)Z"⟩, 50), (⟨"PrimeKeysModel", "raise", "(JJ)V"⟩, 50), (⟨"PrimeKeysModel", "fail", "(I)I"⟩, 50), (⟨"PrimeKeysModel", "none", "(I)Z"⟩, 50), (⟨"PrimeKeysModel", "fromBase", "([J)V"⟩, 50)]
theorem lw_r2 : ∀ q ∈ lw_privs_2, lw_okq q := List.forall_mem_cons.mpr ⟨lw_p16, List.forall_mem_cons.mpr ⟨lw_p17, List.forall_mem_cons.mpr ⟨lw_p18, List.forall_mem_cons.mpr ⟨lw_p19, List.forall_mem_cons.mpr ⟨lw_p20, List.forall_mem_cons.mpr ⟨lw_p21, List.forall_mem_cons.mpr ⟨lw_p22, List.forall_mem_cons.mpr ⟨lw_p23, List.forall_mem_cons.mpr ⟨lw_p24, List.forall_mem_cons.mpr ⟨lw_p25, List.forall_mem_cons.mpr ⟨lw_p26, List.forall_mem_cons.mpr ⟨lw_p27, List.forall_mem_cons.mpr ⟨lw_p28, List.forall_mem_cons.mpr ⟨lw_p29, List.forall_mem_cons.mpr ⟨lw_p30, List.forall_mem_cons.mpr ⟨lw_p31, fun _ h => absurd h List.not_mem_nil⟩⟩⟩⟩⟩⟩⟩⟩⟩⟩⟩⟩⟩⟩⟩⟩
theorem lw_p32 : lw_okq (⟨"PrimeKeysModel", "multiply", "([J)V"⟩, 50) := ⟨⟨by decide +kernel, by decide +kernel⟩, List.mem_of_getElem? (i := 775) (by decide +kernel), List.mem_of_getElem? (i := 1068) (by decide +kernel), List.mem_of_getElem? (i := 1069) (by decide +kernel)⟩
theorem lw_p33 : lw_okq (⟨"PrimeKeysModel", "add", "()V"⟩, 50) := ⟨⟨by decide +kernel, by decide +kernel⟩, List.mem_of_getElem? (i := 775) (by decide +kernel), List.mem_of_getElem? (i := 1072) (by decide +kernel), List.mem_of_getElem? (i := 1073) (by decide +kernel)⟩
theorem lw_p34 : lw_okq (⟨"PrimeKeysModel", "times", "([J[J[J[J[J)V"⟩, 50) := ⟨⟨by decide +kernel, by decide +kernel⟩, List.mem_of_getElem? (i := 775) (by decide +kernel), List.mem_of_getElem? (i := 1079) (by decide +kernel), List.mem_of_getElem? (i := 1080) (by decide +kernel)⟩
theorem lw_p35 : lw_okq (⟨"PrimeKeysModel", "reduce", "([J[J[J)V"⟩, 50) := ⟨⟨by decide +kernel, by decide +kernel⟩, List.mem_of_getElem? (i := 775) (by decide +kernel), List.mem_of_getElem? (i := 1083) (by decide +kernel), List.mem_of_getElem? (i := 1084) (by decide +kernel)⟩
theorem lw_p36 : lw_okq (⟨"PrimeKeysModel", "inverse", "([J[J[J)V"⟩, 50) := ⟨⟨by decide +kernel, by decide +kernel⟩, List.mem_of_getElem? (i := 775) (by decide +kernel), List.mem_of_getElem? (i := 1090) (by decide +kernel), List.mem_of_getElem? (i := 1091) (by decide +kernel)⟩
theorem lw_p37 : lw_okq (⟨"PrimeKeysModel", "taken", "()Z"⟩, 50) := ⟨⟨by decide +kernel, by decide +kernel⟩, List.mem_of_getElem? (i := 775) (by decide +kernel), List.mem_of_getElem? (i := 1113) (by decide +kernel), List.mem_of_getElem? (i := 1114) (by decide +kernel)⟩
theorem lw_p38 : lw_okq (⟨"PrimeKeysModel", "onCurve", "()Z"⟩, 50) := ⟨⟨by decide +kernel, by decide +kernel⟩, List.mem_of_getElem? (i := 775) (by decide +kernel), List.mem_of_getElem? (i := 1117) (by decide +kernel), List.mem_of_getElem? (i := 1118) (by decide +kernel)⟩
theorem lw_p39 : lw_okq (⟨"PrimeKeysModel", "hashed", "()V"⟩, 50) := ⟨⟨by decide +kernel, by decide +kernel⟩, List.mem_of_getElem? (i := 775) (by decide +kernel), List.mem_of_getElem? (i := 1129) (by decide +kernel), List.mem_of_getElem? (i := 1130) (by decide +kernel)⟩
theorem lw_p40 : lw_okq (⟨"PrimeKeysModel", "hash", "([BI)V"⟩, 50) := ⟨⟨by decide +kernel, by decide +kernel⟩, List.mem_of_getElem? (i := 775) (by decide +kernel), List.mem_of_getElem? (i := 1133) (by decide +kernel), List.mem_of_getElem? (i := 1134) (by decide +kernel)⟩
theorem lw_p41 : lw_okq (⟨"PrimeKeysModel", "over", "()V"⟩, 50) := ⟨⟨by decide +kernel, by decide +kernel⟩, List.mem_of_getElem? (i := 775) (by decide +kernel), List.mem_of_getElem? (i := 1141) (by decide +kernel), List.mem_of_getElem? (i := 1142) (by decide +kernel)⟩
theorem lw_p42 : lw_okq (⟨"PrimeKeysModel", "link", "(IZI)V"⟩, 50) := ⟨⟨by decide +kernel, by decide +kernel⟩, List.mem_of_getElem? (i := 775) (by decide +kernel), List.mem_of_getElem? (i := 1148) (by decide +kernel), List.mem_of_getElem? (i := 1149) (by decide +kernel)⟩
theorem lw_p43 : lw_okq (⟨"PrimeKeysModel", "keyed", "([BI)V"⟩, 50) := ⟨⟨by decide +kernel, by decide +kernel⟩, List.mem_of_getElem? (i := 775) (by decide +kernel), List.mem_of_getElem? (i := 1152) (by decide +kernel), List.mem_of_getElem? (i := 1153) (by decide +kernel)⟩
theorem lw_p44 : lw_okq (⟨"PrimeKeysModel", "draw", "()V"⟩, 50) := ⟨⟨by decide +kernel, by decide +kernel⟩, List.mem_of_getElem? (i := 775) (by decide +kernel), List.mem_of_getElem? (i := 1156) (by decide +kernel), List.mem_of_getElem? (i := 1157) (by decide +kernel)⟩
theorem lw_p45 : lw_okq (⟨"PrimeKeysModel", "signed", "(I)Z"⟩, 50) := ⟨⟨by decide +kernel, by decide +kernel⟩, List.mem_of_getElem? (i := 775) (by decide +kernel), List.mem_of_getElem? (i := 1160) (by decide +kernel), List.mem_of_getElem? (i := 1161) (by decide +kernel)⟩
theorem lw_p46 : lw_okq (⟨"PrimeKeysModel", "put", "(I[J)I"⟩, 50) := ⟨⟨by decide +kernel, by decide +kernel⟩, List.mem_of_getElem? (i := 775) (by decide +kernel), List.mem_of_getElem? (i := 1164) (by decide +kernel), List.mem_of_getElem? (i := 1165) (by decide +kernel)⟩
theorem lw_p47 : lw_okq (⟨"PrimeKeysModel", "verified", "()I"⟩, 50) := ⟨⟨by decide +kernel, by decide +kernel⟩, List.mem_of_getElem? (i := 775) (by decide +kernel), List.mem_of_getElem? (i := 1172) (by decide +kernel), List.mem_of_getElem? (i := 1173) (by decide +kernel)⟩
def lw_privs_3 : List (MethodName × Nat) := [(⟨"PrimeKeysModel", "multiply", "([J)V"⟩, 50), (⟨"PrimeKeysModel", "add", "()V"⟩, 50), (⟨"PrimeKeysModel", "times", "([J[J[J[J[J)V"⟩, 50), (⟨"PrimeKeysModel", "reduce", "([J[J[J)V"⟩, 50), (⟨"PrimeKeysModel", "inverse", "([J[J[J)V"⟩, 50), (⟨"PrimeKeysModel", "taken", "()Z"⟩, 50), (⟨"PrimeKeysModel", "onCurve", "()Z"⟩, 50), (⟨"PrimeKeysModel", "hashed", "()V"⟩, 50), (⟨"PrimeKeysModel", "hash", "([BI)V"⟩, 50), (⟨"PrimeKeysModel", "over", "()V"⟩, 50), (⟨"PrimeKeysModel", "link", "(IZI)V"⟩, 50), (⟨"PrimeKeysModel", "keyed", "([BI)V"⟩, 50), (⟨"PrimeKeysModel", "draw", "()V"⟩, 50), (⟨"PrimeKeysModel", "signed", "(I)Z"⟩, 50), (⟨"PrimeKeysModel", "put", "(I[J)I"⟩, 50), (⟨"PrimeKeysModel", "verified", "()I"⟩, 50)]
theorem lw_r3 : ∀ q ∈ lw_privs_3, lw_okq q := List.forall_mem_cons.mpr ⟨lw_p32, List.forall_mem_cons.mpr ⟨lw_p33, List.forall_mem_cons.mpr ⟨lw_p34, List.forall_mem_cons.mpr ⟨lw_p35, List.forall_mem_cons.mpr ⟨lw_p36, List.forall_mem_cons.mpr ⟨lw_p37, List.forall_mem_cons.mpr ⟨lw_p38, List.forall_mem_cons.mpr ⟨lw_p39, List.forall_mem_cons.mpr ⟨lw_p40, List.forall_mem_cons.mpr ⟨lw_p41, List.forall_mem_cons.mpr ⟨lw_p42, List.forall_mem_cons.mpr ⟨lw_p43, List.forall_mem_cons.mpr ⟨lw_p44, List.forall_mem_cons.mpr ⟨lw_p45, List.forall_mem_cons.mpr ⟨lw_p46, List.forall_mem_cons.mpr ⟨lw_p47, fun _ h => absurd h List.not_mem_nil⟩⟩⟩⟩⟩⟩⟩⟩⟩⟩⟩⟩⟩⟩⟩⟩
theorem lw_p48 : lw_okq (⟨"PrimeKeysModel", "get", "(I)I"⟩, 50) := ⟨⟨by decide +kernel, by decide +kernel⟩, List.mem_of_getElem? (i := 775) (by decide +kernel), List.mem_of_getElem? (i := 1176) (by decide +kernel), List.mem_of_getElem? (i := 1177) (by decide +kernel)⟩
theorem lw_p49 : lw_okq (⟨"PrimeKeysModel", "ranged", "([J)Z"⟩, 50) := ⟨⟨by decide +kernel, by decide +kernel⟩, List.mem_of_getElem? (i := 775) (by decide +kernel), List.mem_of_getElem? (i := 1180) (by decide +kernel), List.mem_of_getElem? (i := 1181) (by decide +kernel)⟩
def lw_privs_4 : List (MethodName × Nat) := [(⟨"PrimeKeysModel", "get", "(I)I"⟩, 50), (⟨"PrimeKeysModel", "ranged", "([J)Z"⟩, 50)]
theorem lw_r4 : ∀ q ∈ lw_privs_4, lw_okq q := List.forall_mem_cons.mpr ⟨lw_p48, List.forall_mem_cons.mpr ⟨lw_p49, fun _ h => absurd h List.not_mem_nil⟩⟩
def lw_privs : List (MethodName × Nat) := lw_privs_1 ++ (lw_privs_2 ++ (lw_privs_3 ++ (lw_privs_4)))
def lw_tbl : List Cond := k2_sels lw_privs ++ tables_1
theorem lw_privs_ok : ∀ q ∈ lw_privs, lw_okq q := by
  show ∀ q ∈ lw_privs_1 ++ (lw_privs_2 ++ (lw_privs_3 ++ (lw_privs_4))), lw_okq q
  exact List.forall_mem_append.mpr ⟨lw_r1, List.forall_mem_append.mpr ⟨lw_r2, List.forall_mem_append.mpr ⟨lw_r3, lw_r4⟩⟩⟩
end
section
/-! NAMES: classes with their fields in order; the words; the static tables -/
def R_Cu : String := "PrimeKeys$Curve"
def F_Cu : u_T := fun k => match k with
  | 0 => ("PrimeKeys$Curve", "none", "[B", true)
  | 1 => ("PrimeKeys$Curve", "field", "LPrimeKeys$Modulus;", true)
  | 2 => ("PrimeKeys$Curve", "b", "[J", true)
  | 3 => ("PrimeKeys$Curve", "baseMultiples", "[LPrimeKeys$Point;", true)
  | 4 => ("PrimeKeys$Curve", "otherMultiples", "[LPrimeKeys$Point;", true)
  | _ => ("PrimeKeys$Curve", "scratch", "[[J", true)
def t_Cu : Nat → FieldType := fun k => match k with
  | 0 => (.array .byte)
  | 1 => (.object "PrimeKeys$Modulus")
  | 2 => (.array .long)
  | 3 => (.array (.object "PrimeKeys$Point"))
  | 4 => (.array (.object "PrimeKeys$Point"))
  | _ => (.array (.array .long))
def R_Mo : String := "PrimeKeys$Modulus"
def F_Mo : u_T := fun k => match k with
  | 0 => ("PrimeKeys$Modulus", "prime", "[J", true)
  | 1 => ("PrimeKeys$Modulus", "exponent", "[J", true)
  | 2 => ("PrimeKeys$Modulus", "plainOne", "[J", true)
  | 3 => ("PrimeKeys$Modulus", "one", "[J", true)
  | 4 => ("PrimeKeys$Modulus", "toForm", "[J", true)
  | 5 => ("PrimeKeys$Modulus", "lowInverse", "J", true)
  | 6 => ("PrimeKeys$Modulus", "wide", "[J", true)
  | 7 => ("PrimeKeys$Modulus", "spare", "[J", true)
  | _ => ("PrimeKeys$Modulus", "power", "[J", true)
def t_Mo : Nat → FieldType := fun k => match k with
  | 0 => (.array .long)
  | 1 => (.array .long)
  | 2 => (.array .long)
  | 3 => (.array .long)
  | 4 => (.array .long)
  | 5 => .long
  | 6 => (.array .long)
  | 7 => (.array .long)
  | _ => (.array .long)
def R_No : String := "PrimeKeys$Nonces"
def F_No : u_T := fun k => match k with
  | 0 => ("PrimeKeys$Nonces", "hash", "LPrimeKeys$Sha256;", true)
  | 1 => ("PrimeKeys$Nonces", "macKey", "[B", true)
  | 2 => ("PrimeKeys$Nonces", "value", "[B", true)
  | 3 => ("PrimeKeys$Nonces", "seed", "[B", true)
  | 4 => ("PrimeKeys$Nonces", "pad", "[B", true)
  | _ => ("PrimeKeys$Nonces", "inner", "[B", true)
def t_No : Nat → FieldType := fun k => match k with
  | 0 => (.object "PrimeKeys$Sha256")
  | 1 => (.array .byte)
  | 2 => (.array .byte)
  | 3 => (.array .byte)
  | 4 => (.array .byte)
  | _ => (.array .byte)
def R_Po : String := "PrimeKeys$Point"
def F_Po : u_T := fun k => match k with
  | 0 => ("PrimeKeys$Point", "x", "[J", true)
  | 1 => ("PrimeKeys$Point", "y", "[J", true)
  | _ => ("PrimeKeys$Point", "z", "[J", true)
def t_Po : Nat → FieldType := fun k => match k with
  | 0 => (.array .long)
  | 1 => (.array .long)
  | _ => (.array .long)
def R_Sh : String := "PrimeKeys$Sha256"
def F_Sh : u_T := fun k => match k with
  | 0 => ("PrimeKeys$Sha256", "state", "[I", true)
  | 1 => ("PrimeKeys$Sha256", "schedule", "[I", true)
  | 2 => ("PrimeKeys$Sha256", "block", "[B", true)
  | 3 => ("PrimeKeys$Sha256", "used", "I", false)
  | _ => ("PrimeKeys$Sha256", "total", "I", false)
def t_Sh : Nat → FieldType := fun k => match k with
  | 0 => (.array .int)
  | 1 => (.array .int)
  | 2 => (.array .byte)
  | 3 => .int
  | _ => .int
def R_Sg : String := "PrimeKeys$Signature"
def F_Sg : u_T := fun k => match k with
  | 0 => ("PrimeKeys$Signature", "\x72", "[B", true)
  | _ => ("PrimeKeys$Signature", "s", "[B", true)
def t_Sg : Nat → FieldType := fun k => match k with
  | 0 => (.array .byte)
  | _ => (.array .byte)
def R_Si : String := "PrimeKeys$Signer"
def F_Si : u_T := fun k => match k with
  | 0 => ("PrimeKeys$Signer", "order", "LPrimeKeys$Modulus;", true)
  | 1 => ("PrimeKeys$Signer", "nonces", "LPrimeKeys$Nonces;", true)
  | 2 => ("PrimeKeys$Signer", "point", "LPrimeKeys$Point;", true)
  | 3 => ("PrimeKeys$Signer", "\x72", "[J", true)
  | 4 => ("PrimeKeys$Signer", "s", "[J", true)
  | 5 => ("PrimeKeys$Signer", "e", "[J", true)
  | 6 => ("PrimeKeys$Signer", "x", "[J", true)
  | 7 => ("PrimeKeys$Signer", "y", "[J", true)
  | 8 => ("PrimeKeys$Signer", "part", "[J", true)
  | 9 => ("PrimeKeys$Signer", "first", "[B", true)
  | _ => ("PrimeKeys$Signer", "second", "[B", true)
def t_Si : Nat → FieldType := fun k => match k with
  | 0 => (.object "PrimeKeys$Modulus")
  | 1 => (.object "PrimeKeys$Nonces")
  | 2 => (.object "PrimeKeys$Point")
  | 3 => (.array .long)
  | 4 => (.array .long)
  | 5 => (.array .long)
  | 6 => (.array .long)
  | 7 => (.array .long)
  | 8 => (.array .long)
  | 9 => (.array .byte)
  | _ => (.array .byte)
def R_PK : String := "PrimeKeys"
def F_PK : u_T := fun k => match k with
  | 0 => ("PrimeKeys", "tape", "[B", false)
  | 1 => ("PrimeKeys", "tapeLength", "I", false)
  | 2 => ("PrimeKeys", "secrets", "[[B", true)
  | 3 => ("PrimeKeys", "keyCount", "I", false)
  | 4 => ("PrimeKeys", "messageDigest", "[B", true)
  | 5 => ("PrimeKeys", "messageLength", "I", false)
  | 6 => ("PrimeKeys", "resultRow", "[B", true)
  | 7 => ("PrimeKeys", "resultLength", "I", false)
  | 8 => ("PrimeKeys", "signaturesMade", "I", false)
  | 9 => ("PrimeKeys", "verdictCounts", "[I", true)
  | 10 => ("PrimeKeys", "hash", "LPrimeKeys$Sha256;", true)
  | 11 => ("PrimeKeys", "curve", "LPrimeKeys$Curve;", true)
  | 12 => ("PrimeKeys", "signer", "LPrimeKeys$Signer;", true)
  | 13 => ("PrimeKeys", "signature", "LPrimeKeys$Signature;", true)
  | 14 => ("PrimeKeys", "point", "LPrimeKeys$Point;", true)
  | 15 => ("PrimeKeys", "x", "[J", true)
  | _ => ("PrimeKeys", "y", "[J", true)
def t_PK : Nat → FieldType := fun k => match k with
  | 0 => (.array .byte)
  | 1 => .int
  | 2 => (.array (.array .byte))
  | 3 => .int
  | 4 => (.array .byte)
  | 5 => .int
  | 6 => (.array .byte)
  | 7 => .int
  | 8 => .int
  | 9 => (.array .int)
  | 10 => (.object "PrimeKeys$Sha256")
  | 11 => (.object "PrimeKeys$Curve")
  | 12 => (.object "PrimeKeys$Signer")
  | 13 => (.object "PrimeKeys$Signature")
  | 14 => (.object "PrimeKeys$Point")
  | 15 => (.array .long)
  | _ => (.array .long)
def R_Rm : String := "PrimeKeysModel"
def F_Rm : u_T := fun k => match k with
  | 0 => ("PrimeKeysModel", "thrown", "I", false)
  | 1 => ("PrimeKeysModel", "tape", "[B", true)
  | 2 => ("PrimeKeysModel", "message", "[B", true)
  | 3 => ("PrimeKeysModel", "result", "[B", true)
  | 4 => ("PrimeKeysModel", "keys", "[B", true)
  | 5 => ("PrimeKeysModel", "tapes", "I", false)
  | 6 => ("PrimeKeysModel", "messages", "I", false)
  | 7 => ("PrimeKeysModel", "results", "I", false)
  | 8 => ("PrimeKeysModel", "keyCount", "I", false)
  | 9 => ("PrimeKeysModel", "told", "[I", true)
  | 10 => ("PrimeKeysModel", "p", "[J", true)
  | 11 => ("PrimeKeysModel", "order", "[J", true)
  | 12 => ("PrimeKeysModel", "five", "[J", true)
  | 13 => ("PrimeKeysModel", "baseX", "[J", true)
  | 14 => ("PrimeKeysModel", "baseY", "[J", true)
  | 15 => ("PrimeKeysModel", "pt", "[J", true)
  | 16 => ("PrimeKeysModel", "ot", "[J", true)
  | 17 => ("PrimeKeysModel", "px", "[J", true)
  | 18 => ("PrimeKeysModel", "py", "[J", true)
  | 19 => ("PrimeKeysModel", "qx", "[J", true)
  | 20 => ("PrimeKeysModel", "qy", "[J", true)
  | 21 => ("PrimeKeysModel", "rx", "[J", true)
  | 22 => ("PrimeKeysModel", "ry", "[J", true)
  | 23 => ("PrimeKeysModel", "pNone", "Z", false)
  | 24 => ("PrimeKeysModel", "qNone", "Z", false)
  | 25 => ("PrimeKeysModel", "a", "[J", true)
  | 26 => ("PrimeKeysModel", "b", "[J", true)
  | 27 => ("PrimeKeysModel", "c", "[J", true)
  | 28 => ("PrimeKeysModel", "z", "[J", true)
  | 29 => ("PrimeKeysModel", "\x72", "[J", true)
  | 30 => ("PrimeKeysModel", "s", "[J", true)
  | 31 => ("PrimeKeysModel", "k", "[J", true)
  | 32 => ("PrimeKeysModel", "w", "[J", true)
  | 33 => ("PrimeKeysModel", "chain", "[B", true)
  | 34 => ("PrimeKeysModel", "value", "[B", true)
  | 35 => ("PrimeKeysModel", "mac", "[B", true)
  | 36 => ("PrimeKeysModel", "work", "[B", true)
  | 37 => ("PrimeKeysModel", "product", "[J", true)
  | 38 => ("PrimeKeysModel", "sum", "[J", true)
  | 39 => ("PrimeKeysModel", "u", "[J", true)
  | 40 => ("PrimeKeysModel", "v", "[J", true)
  | 41 => ("PrimeKeysModel", "x1", "[J", true)
  | 42 => ("PrimeKeysModel", "x2", "[J", true)
  | 43 => ("PrimeKeysModel", "roots", "[J", true)
  | 44 => ("PrimeKeysModel", "starts", "[J", true)
  | 45 => ("PrimeKeysModel", "words", "[I", true)
  | 46 => ("PrimeKeysModel", "state", "[I", true)
  | 47 => ("PrimeKeysModel", "left", "[J", true)
  | 48 => ("PrimeKeysModel", "cube", "[J", true)
  | _ => ("PrimeKeysModel", "hashed", "[B", true)
def t_Rm : Nat → FieldType := fun k => match k with
  | 0 => .int
  | 1 => (.array .byte)
  | 2 => (.array .byte)
  | 3 => (.array .byte)
  | 4 => (.array .byte)
  | 5 => .int
  | 6 => .int
  | 7 => .int
  | 8 => .int
  | 9 => (.array .int)
  | 10 => (.array .long)
  | 11 => (.array .long)
  | 12 => (.array .long)
  | 13 => (.array .long)
  | 14 => (.array .long)
  | 15 => (.array .long)
  | 16 => (.array .long)
  | 17 => (.array .long)
  | 18 => (.array .long)
  | 19 => (.array .long)
  | 20 => (.array .long)
  | 21 => (.array .long)
  | 22 => (.array .long)
  | 23 => .boolean
  | 24 => .boolean
  | 25 => (.array .long)
  | 26 => (.array .long)
  | 27 => (.array .long)
  | 28 => (.array .long)
  | 29 => (.array .long)
  | 30 => (.array .long)
  | 31 => (.array .long)
  | 32 => (.array .long)
  | 33 => (.array .byte)
  | 34 => (.array .byte)
  | 35 => (.array .byte)
  | 36 => (.array .byte)
  | 37 => (.array .long)
  | 38 => (.array .long)
  | 39 => (.array .long)
  | 40 => (.array .long)
  | 41 => (.array .long)
  | 42 => (.array .long)
  | 43 => (.array .long)
  | 44 => (.array .long)
  | 45 => (.array .int)
  | 46 => (.array .int)
  | 47 => (.array .long)
  | 48 => (.array .long)
  | _ => (.array .byte)
abbrev vwCl : List vw_C := [(R_Cu, F_Cu, 6), (R_Mo, F_Mo, 9), (R_No, F_No, 6), (R_Po, F_Po, 3), (R_Sh, F_Sh, 5), (R_Sg, F_Sg, 2), (R_Si, F_Si, 11), (R_PK, F_PK, 17), (R_Rm, F_Rm, 50)]
def TB : List Cond := lw_tbl.filter goodWord
theorem goodTB : ∀ w ∈ TB, w ∈ TB ∧ ((w.onTables && w.keeps) = true ∨ ∃ ty, w = .arrayClass ty) := fun w h => ⟨h, good_of_word (List.mem_filter.mp h).2⟩
theorem tb_of {w : Cond} (h : w ∈ lw_tbl) (g : goodWord w = true) : w ∈ TB := List.mem_filter.mpr ⟨h, g⟩
theorem tb_1 {w : Cond} (h : w ∈ tables_1_1) (g : goodWord w = true) : w ∈ TB := tb_of (List.mem_append_right _ (show w ∈ tables_1_1 ++ (tables_1_2 ++ (tables_1_3 ++ (tables_1_4 ++ tables_1_5))) from (List.mem_append_left _ h))) g
theorem tb_2 {w : Cond} (h : w ∈ tables_1_2) (g : goodWord w = true) : w ∈ TB := tb_of (List.mem_append_right _ (show w ∈ tables_1_1 ++ (tables_1_2 ++ (tables_1_3 ++ (tables_1_4 ++ tables_1_5))) from (List.mem_append_right _ (List.mem_append_left _ h)))) g
theorem tb_3 {w : Cond} (h : w ∈ tables_1_3) (g : goodWord w = true) : w ∈ TB := tb_of (List.mem_append_right _ (show w ∈ tables_1_1 ++ (tables_1_2 ++ (tables_1_3 ++ (tables_1_4 ++ tables_1_5))) from (List.mem_append_right _ (List.mem_append_right _ (List.mem_append_left _ h))))) g
theorem tb_4 {w : Cond} (h : w ∈ tables_1_4) (g : goodWord w = true) : w ∈ TB := tb_of (List.mem_append_right _ (show w ∈ tables_1_1 ++ (tables_1_2 ++ (tables_1_3 ++ (tables_1_4 ++ tables_1_5))) from (List.mem_append_right _ (List.mem_append_right _ (List.mem_append_right _ (List.mem_append_left _ h)))))) g
theorem tb_5 {w : Cond} (h : w ∈ tables_1_5) (g : goodWord w = true) : w ∈ TB := tb_of (List.mem_append_right _ (show w ∈ tables_1_1 ++ (tables_1_2 ++ (tables_1_3 ++ (tables_1_4 ++ tables_1_5))) from (List.mem_append_right _ (List.mem_append_right _ (List.mem_append_right _ (List.mem_append_right _ h)))))) g
theorem tb_p {q : MethodName × Nat} (h : q ∈ lw_privs) : Cond.selects q.1.cls q.1 q.1 ∈ TB := tb_of (List.mem_append_left _ (List.mem_map.mpr ⟨q, h, rfl⟩)) rfl
theorem u_Cu : ∀ w ∈ u_ws R_Cu F_Cu 6, w ∈ TB := by decide +kernel
theorem n_Cu : ∀ a, a < 6 → ∀ b, b < 6 → a ≠ b → (F_Cu a).2.1 ≠ (F_Cu b).2.1 := by decide +kernel
theorem t_Cu_ok : ∀ k, k < 6 → parseFieldDescriptor (F_Cu k).2.2.1 = some (t_Cu k) := by decide +kernel
theorem u_Mo : ∀ w ∈ u_ws R_Mo F_Mo 9, w ∈ TB := by decide +kernel
theorem n_Mo : ∀ a, a < 9 → ∀ b, b < 9 → a ≠ b → (F_Mo a).2.1 ≠ (F_Mo b).2.1 := by decide +kernel
theorem t_Mo_ok : ∀ k, k < 9 → parseFieldDescriptor (F_Mo k).2.2.1 = some (t_Mo k) := by decide +kernel
theorem u_No : ∀ w ∈ u_ws R_No F_No 6, w ∈ TB := by decide +kernel
theorem n_No : ∀ a, a < 6 → ∀ b, b < 6 → a ≠ b → (F_No a).2.1 ≠ (F_No b).2.1 := by decide +kernel
theorem t_No_ok : ∀ k, k < 6 → parseFieldDescriptor (F_No k).2.2.1 = some (t_No k) := by decide +kernel
theorem u_Po : ∀ w ∈ u_ws R_Po F_Po 3, w ∈ TB := by decide +kernel
theorem n_Po : ∀ a, a < 3 → ∀ b, b < 3 → a ≠ b → (F_Po a).2.1 ≠ (F_Po b).2.1 := by decide +kernel
theorem t_Po_ok : ∀ k, k < 3 → parseFieldDescriptor (F_Po k).2.2.1 = some (t_Po k) := by decide +kernel
theorem u_Sh : ∀ w ∈ u_ws R_Sh F_Sh 5, w ∈ TB := by decide +kernel
theorem n_Sh : ∀ a, a < 5 → ∀ b, b < 5 → a ≠ b → (F_Sh a).2.1 ≠ (F_Sh b).2.1 := by decide +kernel
theorem t_Sh_ok : ∀ k, k < 5 → parseFieldDescriptor (F_Sh k).2.2.1 = some (t_Sh k) := by decide +kernel
theorem u_Sg : ∀ w ∈ u_ws R_Sg F_Sg 2, w ∈ TB := by decide +kernel
theorem n_Sg : ∀ a, a < 2 → ∀ b, b < 2 → a ≠ b → (F_Sg a).2.1 ≠ (F_Sg b).2.1 := by decide +kernel
theorem t_Sg_ok : ∀ k, k < 2 → parseFieldDescriptor (F_Sg k).2.2.1 = some (t_Sg k) := by decide +kernel
theorem u_Si : ∀ w ∈ u_ws R_Si F_Si 11, w ∈ TB := by decide +kernel
theorem n_Si : ∀ a, a < 11 → ∀ b, b < 11 → a ≠ b → (F_Si a).2.1 ≠ (F_Si b).2.1 := by decide +kernel
theorem t_Si_ok : ∀ k, k < 11 → parseFieldDescriptor (F_Si k).2.2.1 = some (t_Si k) := by decide +kernel
theorem u_PK : ∀ w ∈ u_ws R_PK F_PK 17, w ∈ TB := by decide +kernel
theorem n_PK : ∀ a, a < 17 → ∀ b, b < 17 → a ≠ b → (F_PK a).2.1 ≠ (F_PK b).2.1 := by decide +kernel
theorem t_PK_ok : ∀ k, k < 17 → parseFieldDescriptor (F_PK k).2.2.1 = some (t_PK k) := by decide +kernel
theorem u_Rm : ∀ w ∈ u_ws R_Rm F_Rm 50, w ∈ TB := by decide +kernel
theorem n_Rm : ∀ a, a < 50 → ∀ b, b < 50 → a ≠ b → (F_Rm a).2.1 ≠ (F_Rm b).2.1 := by decide +kernel
theorem t_Rm_ok : ∀ k, k < 50 → parseFieldDescriptor (F_Rm k).2.2.1 = some (t_Rm k) := by decide +kernel
def NB : List Cond := [.methodLinkNest "PrimeKeys" 48 ⟨"PrimeKeys$Sha256", "<init>", "()V"⟩ "PrimeKeys", .methodLinkNest "PrimeKeys$Curve" 48 ⟨"PrimeKeys$Point", "<init>", "()V"⟩ "PrimeKeys", .methodLinkNest "PrimeKeys" 62 ⟨"PrimeKeys$Signer", "<init>", "()V"⟩ "PrimeKeys", .methodLinkNest "PrimeKeys$Signer" 26 ⟨"PrimeKeys$Nonces", "<init>", "()V"⟩ "PrimeKeys", .methodLinkNest "PrimeKeys$Nonces" 13 ⟨"PrimeKeys$Sha256", "<init>", "()V"⟩ "PrimeKeys", .methodLinkNest "PrimeKeys$Signer" 33 ⟨"PrimeKeys$Point", "<init>", "()V"⟩ "PrimeKeys", .methodLinkNest "PrimeKeys" 67 ⟨"PrimeKeys$Signature", "<init>", "()V"⟩ "PrimeKeys", .methodLinkNest "PrimeKeys" 74 ⟨"PrimeKeys$Point", "<init>", "()V"⟩ "PrimeKeys"]
theorem nestNB : ∀ w ∈ NB, (∃ a i b n d t, w = .fieldLinkNest a i b n d t) ∨ (∃ a i y t, w = .methodLinkNest a i y t) := by
  intro w hw
  simp only [NB, List.mem_cons, List.not_mem_nil, or_false] at hw
  rcases hw with rfl | rfl | rfl | rfl | rfl | rfl | rfl | rfl <;> exact Or.inr ⟨_, _, _, _, rfl⟩
def stC : Nat → String := fun i => match i with
  | 0 => "PrimeKeys$Sha256"
  | 1 => "PrimeKeys$Sha256"
  | 6 => "PrimeKeys$Signer"
  | _ => "PrimeKeys$Curve"
def stN : Nat → String := fun i => match i with
  | 0 => "START"
  | 1 => "ROUND"
  | 2 => "PRIME"
  | 3 => "B"
  | 4 => "BASE_X"
  | 5 => "BASE_Y"
  | _ => "ORDER"
def sv_0 : List Int32 := [1779033703, (-1150833019), 1013904242, (-1521486534), 1359893119, (-1694144372), 528734635, 1541459225]
def sv_1 : List Int32 := [1116352408, 1899447441, (-1245643825), (-373957723), 961987163, 1508970993, (-1841331548), (-1424204075), (-670586216), 310598401, 607225278, 1426881987, 1925078388, (-2132889090), (-1680079193), (-1046744716), (-459576895), (-272742522), 264347078, 604807628, 770255983, 1249150122, 1555081692, 1996064986, (-1740746414), (-1473132947), (-1341970488), (-1084653625), (-958395405), (-710438585), 113926993, 338241895, 666307205, 773529912, 1294757372, 1396182291, 1695183700, 1986661051, (-2117940946), (-1838011259), (-1564481375), (-1474664885), (-1035236496), (-949202525), (-778901479), (-694614492), (-200395387), 275423344, 430227734, 506948616, 659060556, 883997877, 958139571, 1322822218, 1537002063, 1747873779, 1955562222, 2024104815, (-2067236844), (-1933114872), (-1866530822), (-1538233109), (-1090935817), (-965641998)]
def sv_2 : List Int32 := [(-1), 1, 0, 0, 0, (-1), (-1), (-1)]
def sv_3 : List Int32 := [1522939352, (-1439001625), (-1276396203), 1989707452, 1696401072, (-866930442), 1003371582, 668098635]
def sv_4 : List Int32 := [1796723186, (-517193145), (-121837851), 1671708914, 1996717441, 770388896, (-190760635), (-661077354)]
def sv_5 : List Int32 := [1340293858, (-31817829), (-1897403574), 2081398294, 734933847, 1798397646, (-877248408), 935285237]
def sv_6 : List Int32 := [(-1), 0, (-1), (-1), (-1125713235), (-1491624316), (-205927742), (-60611247)]
def svs : Nat → List Int32 := fun i => match i with
  | 0 => sv_0
  | 1 => sv_1
  | 2 => sv_2
  | 3 => sv_3
  | 4 => sv_4
  | 5 => sv_5
  | _ => sv_6
def stab (i : Nat) : Nat × (Nat → Int32) := ((svs i).length, fun j => (svs i).getD j 0)
def FU : Nat := 70000
theorem kw_oi : Cond.instanceMethod Lib.objectInit ∈ TB := tb_1 (List.mem_of_getElem? (i := 28) (by decide +kernel)) rfl
theorem kw_oc : Cond.code Lib.objectInit ⟨#[0xb1]⟩ 1 none ∈ TB := tb_1 (List.mem_of_getElem? (i := 29) rfl) rfl
theorem kw_an : Cond.native arraycopyName ∈ TB := tb_1 (List.mem_of_getElem? (i := 88) (by decide +kernel)) rfl
theorem kw_as : Cond.static arraycopyName ∈ TB := tb_1 (List.mem_of_getElem? (i := 87) (by decide +kernel)) rfl
theorem kw_ai : Cond.initialized "java/lang/System" ∈ TB := tb_1 (List.mem_of_getElem? (i := 8) (by decide +kernel)) rfl
theorem kw_cb : Cond.arrayClass .byte ∈ TB := tb_1 (List.mem_of_getElem? (i := 54) (by decide +kernel)) rfl
theorem kw_ci : Cond.arrayClass .int ∈ TB := tb_1 (List.mem_of_getElem? (i := 55) (by decide +kernel)) rfl
theorem kw_cj : Cond.arrayClass .long ∈ TB := tb_1 (List.mem_of_getElem? (i := 132) (by decide +kernel)) rfl
end
section
/-! THE PURE HEAP. A cell of the world by its place: bytes, ints, longs, references (places), an object (number of its class, fields; a reference is a place; .retAddr i is the static table i). -/
abbrev PE : Type := (Nat × (Nat → Int8)) ⊕ (Nat × (Nat → Int32)) ⊕ (Nat × (Nat → Int64)) ⊕ (Nat × Nat × (Nat → Option Nat)) ⊕ (Nat × List Value)
abbrev HP : Type := List PE
abbrev pB (n : Nat) (f : Nat → Int8) : PE := .inl (n, f)
abbrev pI (n : Nat) (f : Nat → Int32) : PE := .inr (.inl (n, f))
abbrev pJ (n : Nat) (f : Nat → Int64) : PE := .inr (.inr (.inl (n, f)))
abbrev pR (t n : Nat) (f : Nat → Option Nat) : PE := .inr (.inr (.inr (.inl (t, n, f))))
abbrev pO (c : Nat) (fs : List Value) : PE := .inr (.inr (.inr (.inr (c, fs))))
abbrev AD : Type := (Nat → Nat) × (Nat → Nat)
def vv (ad : AD) (v : Value) : Value := match v with
  | .ref k => .ref (ad.1 k)
  | .retAddr i => .ref (ad.2 i)
  | v => v
def cv (tg : Nat → ClassId) (ad : AD) (c : PE) : va_E := match c with
  | .inl (n, f) => .inl (tg 0, n, .inl (fun j => (f j).toInt32))
  | .inr (.inl (n, f)) => .inl (tg 1, n, .inl f)
  | .inr (.inr (.inl (n, f))) => .inl (tg 2, n, .inr (.inl f))
  | .inr (.inr (.inr (.inl (t, n, f)))) => .inl (tg t, n, .inr (.inr (.inr (.inr (fun j => (f j).map ad.1)))))
  | .inr (.inr (.inr (.inr (c, fs)))) => .inr (c, fs.map (vv ad))
def wd (tg : Nat → ClassId) (ad : AD) (h : HP) : va_W := h.mapIdx (fun j c => (ad.1 j, cv tg ad c))
def wfv (n : Nat) (v : Value) : Prop := ∀ k, v = .ref k → k < n
def wfs (n : Nat) (st : List Value) : Prop := ∀ v ∈ st, wfv n v
def wfl (n : Nat) (lv : List (Nat × Value)) : Prop := ∀ q ∈ lv, wfv n q.2
def wfc (n : Nat) (c : PE) : Prop := match c with
  | .inr (.inr (.inr (.inl (_, _, f)))) => ∀ j k, f j = some k → k < n
  | .inr (.inr (.inr (.inr (_, fs)))) => wfs n fs
  | _ => True
def wfh (h : HP) : Prop := ∀ c ∈ h, wfc h.length c
def lm (ad : AD) (lv : List (Nat × Value)) : List (Nat × Value) := lv.map (fun q => (q.1, vv ad q.2))
theorem wd_get {tg : Nat → ClassId} {ad : AD} {h : HP} {k : Nat} {c : PE} (hk : h[k]? = some c) : (wd tg ad h)[k]? = some (ad.1 k, cv tg ad c) := by
  simp [wd, hk]
theorem wd_set {tg : Nat → ClassId} {ad : AD} {h : HP} {k : Nat} {c : PE} : (wd tg ad h).set k (ad.1 k, cv tg ad c) = wd tg ad (h.set k c) := by
  simp [wd]
theorem wd_length {tg : Nat → ClassId} {ad : AD} {h : HP} : (wd tg ad h).length = h.length := by simp [wd]
theorem vv_agree {ad ad' : AD} {n : Nat} {v : Value} (h2 : ad'.2 = ad.2) (h : ∀ k, k < n → ad'.1 k = ad.1 k) (hv : wfv n v) : vv ad' v = vv ad v := by
  cases v <;> simp [vv, h2]
  exact h _ (hv _ rfl)
theorem vs_agree {ad ad' : AD} {n : Nat} (h2 : ad'.2 = ad.2) (h : ∀ k, k < n → ad'.1 k = ad.1 k) : ∀ {st : List Value}, wfs n st → st.map (vv ad') = st.map (vv ad)
  | [], _ => rfl
  | v :: st, hv => by
    rw [List.map_cons, List.map_cons, vv_agree h2 h (hv v List.mem_cons_self), vs_agree h2 h (fun w hw => hv w (List.mem_cons_of_mem _ hw))]
theorem lm_agree {ad ad' : AD} {n : Nat} (h2 : ad'.2 = ad.2) (h : ∀ k, k < n → ad'.1 k = ad.1 k) : ∀ {lv : List (Nat × Value)}, wfl n lv → lm ad' lv = lm ad lv
  | [], _ => rfl
  | q :: lv, hv => by
    show (q.1, vv ad' q.2) :: lm ad' lv = (q.1, vv ad q.2) :: lm ad lv
    rw [vv_agree h2 h (hv q List.mem_cons_self), lm_agree h2 h (fun w hw => hv w (List.mem_cons_of_mem _ hw))]
theorem cv_agree {tg : Nat → ClassId} {ad ad' : AD} {n : Nat} {c : PE} (h2 : ad'.2 = ad.2) (h : ∀ k, k < n → ad'.1 k = ad.1 k) (hc : wfc n c) : cv tg ad' c = cv tg ad c := by
  rcases c with ⟨n1, f⟩ | ⟨n1, f⟩ | ⟨n1, f⟩ | ⟨t, n1, f⟩ | ⟨ci, fs⟩
  · rfl
  · rfl
  · rfl
  · show Sum.inl _ = Sum.inl _
    have : (fun j => (f j).map ad'.1) = (fun j => (f j).map ad.1) := by
      funext j
      cases hf : f j with
      | none => rfl
      | some k => simp [h k (hc j k hf)]
    rw [this]
  · show Sum.inr _ = Sum.inr _
    rw [vs_agree h2 h hc]
theorem wd_agree {tg : Nat → ClassId} {ad ad' : AD} {h : HP} (hw : wfh h) (h2 : ad'.2 = ad.2) (ha : ∀ k, k < h.length → ad'.1 k = ad.1 k) : wd tg ad' h = wd tg ad h := by
  apply List.ext_getElem?
  intro i
  simp only [wd, List.getElem?_mapIdx]
  cases hi : h[i]? with
  | none => rfl
  | some c =>
    have hl : i < h.length := (List.getElem?_eq_some_iff.mp hi).1
    simp [ha i hl, cv_agree h2 ha (hw c (List.mem_of_getElem? hi))]
theorem wfv_up {n m : Nat} {v : Value} (h : wfv n v) (hm : n ≤ m) : wfv m v := fun k e => Nat.lt_of_lt_of_le (h k e) hm
theorem wfs_up {n m : Nat} {st : List Value} (h : wfs n st) (hm : n ≤ m) : wfs m st := fun v hv => wfv_up (h v hv) hm
theorem wfl_up {n m : Nat} {st : List (Nat × Value)} (h : wfl n st) (hm : n ≤ m) : wfl m st := fun v hv => wfv_up (h v hv) hm
theorem wfc_up {n m : Nat} {c : PE} (h : wfc n c) (hm : n ≤ m) : wfc m c := by
  rcases c with ⟨n1, f⟩ | ⟨n1, f⟩ | ⟨n1, f⟩ | ⟨t, n1, f⟩ | ⟨ci, fs⟩
  · trivial
  · trivial
  · trivial
  · exact fun j k e => Nat.lt_of_lt_of_le (h j k e) hm
  · exact wfs_up h hm
theorem wfh_set {h : HP} {k : Nat} {c : PE} (hw : wfh h) (hc : wfc h.length c) : wfh (h.set k c) := by
  intro d hd
  rw [List.length_set]
  rcases List.mem_or_eq_of_mem_set hd with h1 | h1
  · exact hw d h1
  · rw [h1]; exact hc
theorem wfh_push {h : HP} {c : PE} (hw : wfh h) (hc : wfc (h.length + 1) c) : wfh (h ++ [c]) := by
  intro d hd
  rw [List.length_append, List.length_singleton]
  rcases List.mem_append.mp hd with h1 | h1
  · exact wfc_up (hw d h1) (Nat.le_succ _)
  · rw [List.mem_singleton.mp h1]; exact hc
theorem wfv_i {n : Nat} {x : Int32} : wfv n (.int x) := fun _ e => by cases e
theorem wfv_j {n : Nat} {x : Int64} : wfv n (.long x) := fun _ e => by cases e
theorem wfv_n {n : Nat} : wfv n .null := fun _ e => by cases e
theorem wfv_t {n i : Nat} : wfv n (.retAddr i) := fun _ e => by cases e
theorem wfv_r {n k : Nat} (h : k < n) : wfv n (.ref k) := fun _ e => by cases e; exact h
theorem wfv_k {n k : Nat} (h : wfv n (.ref k)) : k < n := h k rfl
theorem wfs_c {n : Nat} {v : Value} {st : List Value} (h : wfv n v) (hs : wfs n st) : wfs n (v :: st) := by
  intro w hw
  rcases List.mem_cons.mp hw with h1 | h1
  · rw [h1]; exact h
  · exact hs w h1
theorem wfs_t {n : Nat} {v : Value} {st : List Value} (h : wfs n (v :: st)) : wfs n st := fun w hw => h w (List.mem_cons_of_mem _ hw)
theorem wfs_h {n : Nat} {v : Value} {st : List Value} (h : wfs n (v :: st)) : wfv n v := h v List.mem_cons_self
theorem wfs_0 {n : Nat} : wfs n [] := fun _ h => by cases h
theorem wfl_at {n k i : Nat} {v : Value} {lv : List (Nat × Value)} (h : wfl n lv) (hk : lv[k]? = some (i, v)) : wfv n v := h _ (List.mem_of_getElem? hk)
theorem wfl_c {n i : Nat} {v : Value} {lv : List (Nat × Value)} (h : wfv n v) (hs : wfl n lv) : wfl n ((i, v) :: lv) := by
  intro w hw
  rcases List.mem_cons.mp hw with h1 | h1
  · rw [h1]; exact h
  · exact hs w h1
theorem wfl_f {n : Nat} {lv : List (Nat × Value)} (g : Nat × Value → Bool) (h : wfl n lv) : wfl n (lv.filter g) := fun w hw => h w (List.mem_filter.mp hw).1
theorem lm_at {ad : AD} {lv : List (Nat × Value)} {k i : Nat} {v : Value} (hk : lv[k]? = some (i, v)) : (lm ad lv)[k]? = some (i, vv ad v) := by
  simp [lm, hk]
theorem vv_cat {ad : AD} {v : Value} (hv : ∀ i, v ≠ .retAddr i) : (vv ad v).category = v.category := by
  cases v <;> first | rfl | exact absurd rfl (hv _)
theorem vv_cat' {ad : AD} {v : Value} : (vv ad v).category = v.category := by
  cases v <;> rfl
theorem lm_filter {ad : AD} (i : Nat) : ∀ (lv : List (Nat × Value)), (lm ad lv).filter (fun q => !(q.1 == i) && !(q.1 + 1 == i && q.2.category == 2)) = lm ad (lv.filter (fun q => !(q.1 == i) && !(q.1 + 1 == i && q.2.category == 2)))
  | [] => rfl
  | q :: lv => by
    have ih := lm_filter (ad := ad) i lv
    simp only [lm, List.map_cons, List.filter_cons, vv_cat'] at ih ⊢
    split
    · rw [List.map_cons, ih]
    · exact ih
theorem lm_filter2 {ad : AD} (i : Nat) : ∀ (lv : List (Nat × Value)), (lm ad lv).filter (fun q => !(q.1 == i) && (!(q.1 == i + 1) && !(q.1 + 1 == i && q.2.category == 2))) = lm ad (lv.filter (fun q => !(q.1 == i) && (!(q.1 == i + 1) && !(q.1 + 1 == i && q.2.category == 2))))
  | [] => rfl
  | q :: lv => by
    have ih := lm_filter2 (ad := ad) i lv
    simp only [lm, List.map_cons, List.filter_cons, vv_cat'] at ih ⊢
    split
    · rw [List.map_cons, ih]
    · exact ih
/-! THE PURE STEPS (none: the machine would not go on by the plain road) -/
def ldB (h : HP) (k : Nat) (i : Int32) : Option Int32 := match h[k]? with
  | some (.inl (n, f)) => if i < 0 ∨ n ≤ i.toNatClampNeg then none else some (f i.toNatClampNeg).toInt32
  | _ => none
def ldI (h : HP) (k : Nat) (i : Int32) : Option Int32 := match h[k]? with
  | some (.inr (.inl (n, f))) => if i < 0 ∨ n ≤ i.toNatClampNeg then none else some (f i.toNatClampNeg)
  | _ => none
def ldJ (h : HP) (k : Nat) (i : Int32) : Option Int64 := match h[k]? with
  | some (.inr (.inr (.inl (n, f)))) => if i < 0 ∨ n ≤ i.toNatClampNeg then none else some (f i.toNatClampNeg)
  | _ => none
def ldR (h : HP) (k t : Nat) (i : Int32) : Option Nat := match h[k]? with
  | some (.inr (.inr (.inr (.inl (u, n, f))))) => if u ≠ t ∨ i < 0 ∨ n ≤ i.toNatClampNeg then none else f i.toNatClampNeg
  | _ => none
def stB (h : HP) (k : Nat) (i x : Int32) : Option HP := match h[k]? with
  | some (.inl (n, f)) => if i < 0 ∨ n ≤ i.toNatClampNeg then none else some (h.set k (pB n (va_up f i.toNatClampNeg x.toInt8)))
  | _ => none
def stI (h : HP) (k : Nat) (i x : Int32) : Option HP := match h[k]? with
  | some (.inr (.inl (n, f))) => if i < 0 ∨ n ≤ i.toNatClampNeg then none else some (h.set k (pI n (va_up f i.toNatClampNeg x)))
  | _ => none
def stJ (h : HP) (k : Nat) (i : Int32) (x : Int64) : Option HP := match h[k]? with
  | some (.inr (.inr (.inl (n, f)))) => if i < 0 ∨ n ≤ i.toNatClampNeg then none else some (h.set k (pJ n (va_up f i.toNatClampNeg x)))
  | _ => none
def gV (h : HP) (k c j : Nat) : Option Value := match h[k]? with
  | some (.inr (.inr (.inr (.inr (d, fs))))) => if d = c then fs[j]? else none
  | _ => none
def gI (h : HP) (k c j : Nat) : Option Int32 := match gV h k c j with
  | some (.int x) => some x
  | _ => none
def gJ (h : HP) (k c j : Nat) : Option Int64 := match gV h k c j with
  | some (.long x) => some x
  | _ => none
def gR (h : HP) (k c j : Nat) : Option Nat := match gV h k c j with
  | some (.ref x) => some x
  | _ => none
def pV (h : HP) (k c j : Nat) (v : Value) : Option HP := match h[k]? with
  | some (.inr (.inr (.inr (.inr (d, fs))))) => if d = c ∧ j < fs.length then some (h.set k (pO c (fs.set j v))) else none
  | _ => none
def pZ (h : HP) (k c j : Nat) (x : Int32) : Option HP := if x = 0 ∨ x = 1 then pV h k c j (.int x) else none
def pN (h : HP) (k c j r : Nat) : Option HP := if r < h.length then pV h k c j (.ref r) else none
def ln (h : HP) (k : Nat) : Option Int32 := match h[k]? with
  | some (.inl (n, _)) => some (Int32.ofNat n)
  | some (.inr (.inl (n, _))) => some (Int32.ofNat n)
  | some (.inr (.inr (.inl (n, _)))) => some (Int32.ofNat n)
  | some (.inr (.inr (.inr (.inl (_, n, _))))) => some (Int32.ofNat n)
  | _ => none
def cpB (h : HP) (a : Nat) (sp : Int32) (b : Nat) (dp n : Int32) : Option HP := match h[a]?, h[b]? with
  | some (.inl (n0, f)), some (.inl (n1, g)) => if sp < 0 ∨ dp < 0 ∨ n < 0 ∨ n0 < sp.toNatClampNeg + n.toNatClampNeg ∨ n1 < dp.toNatClampNeg + n.toNatClampNeg then none else some (h.set b (pB n1 (va_cpy f g sp.toNatClampNeg dp.toNatClampNeg n.toNatClampNeg)))
  | _, _ => none
def cpJ (h : HP) (a : Nat) (sp : Int32) (b : Nat) (dp n : Int32) : Option HP := match h[a]?, h[b]? with
  | some (.inr (.inr (.inl (n0, f)))), some (.inr (.inr (.inl (n1, g)))) => if sp < 0 ∨ dp < 0 ∨ n < 0 ∨ n0 < sp.toNatClampNeg + n.toNatClampNeg ∨ n1 < dp.toNatClampNeg + n.toNatClampNeg then none else some (h.set b (pJ n1 (va_cpy f g sp.toNatClampNeg dp.toNatClampNeg n.toNatClampNeg)))
  | _, _ => none
def nar (h : HP) (c : PE) : HP := h ++ [c]
def lt {α β : Type} (a : α) (k : α → β) : β := k a
def bnd {α β : Type} (a : Option α) (k : α → Option β) : Option β := match a with
  | some x => k x
  | none => none
def gd {β : Type} (c : Prop) [Decidable c] (k : Option β) : Option β := if c then k else none
theorem of_bnd {α β : Type} {a : Option α} {k : α → Option β} {r : β} (h : bnd a k = some r) : ∃ x, a = some x ∧ k x = some r := by
  cases a with
  | none => cases h
  | some x => exact ⟨x, rfl, h⟩
theorem of_gd {β : Type} {c : Prop} [Decidable c] {k : Option β} {r : β} (h : gd c k = some r) : c ∧ k = some r := by
  unfold gd at h
  split at h
  · exact ⟨by assumption, h⟩
  · cases h
theorem of_lt {α β : Type} {a x : α} {k : α → Option β} {r : β} (e : x = a) (h : lt a k = some r) : k x = some r := by rw [e]; exact h
theorem of_if {β : Type} {c : Prop} [Decidable c] {a b : Option β} {r : β} (hc : c) (h : (if c then a else b) = some r) : a = some r := by rwa [if_pos hc] at h
theorem of_el {β : Type} {c : Prop} [Decidable c] {a b : Option β} {r : β} (hc : ¬ c) (h : (if c then a else b) = some r) : b = some r := by rwa [if_neg hc] at h
end
section
/-! THE JUDGEMENT: a walk over the pure heap. x: the machine's part of a method's body (never looked into by a walk) -/
abbrev CX : Type := (Program × Launch × Env × Room × State) × (MethodId × Array Value × List Frame × Method × Code) × (va_G × (Nat → ClassId) × (Nat → Prop) × Nat) × (Nat × AD × (State → Prop))
def GG (x : CX) (cells slots : Nat) (h : HP) (pc : Nat) (lv : List (Nat × Value)) (st : List Value) : Prop :=
  ∀ (ad : AD) (H : Heap) (locs : List Loc) (ls : Array Slot), wfh h → wfs h.length st → wfl h.length lv → (x.2.2.2.1 ≤ h.length ∧ ad.2 = x.2.2.2.2.1.2 ∧ ∀ k, k < x.2.2.2.1 → ad.1 k = x.2.2.2.2.1.1 k) →
    va_P x.2.2.1.1 vwCl (wd x.2.2.1.2.1 ad h) H → va_D x.2.2.1.2.2.1 (wd x.2.2.1.2.1 ad h) → va_S x.2.2.1.2.2.1 x.1.2.2.2.2.heap H locs → lv_has ls x.2.2.1.2.2.2 (lm ad lv) →
    W x.1.1 x.1.2.1 x.1.2.2.1 x.1.2.2.2.1 x.1.2.2.2.2 x.2.1.1 x.2.1.2.1 x.2.1.2.2.1 x.2.1.2.2.2.1 x.2.1.2.2.2.2 H locs cells slots x.2.2.2.2.2 (F0 x.2.1.1 pc ls (st.map (vv ad)))
def tysOf (tg : Nat → ClassId) : List (ClassId × FieldType) := [(tg 0, .byte), (tg 1, .int), (tg 2, .long), (tg 3, .object "PrimeKeys$Point"), (tg 4, .array .byte), (tg 5, .array .long)]
def NW (U : State) : Prop := ∀ w ∈ NB, va_Nw w U
def ST (sa : Nat → Nat) (A : Nat → Prop) (U : State) : Prop := ∀ i, i < 7 → va_Z (stC i) (stN i) "[I" (.ref (sa i)) A U U.heap ∧ va_T .int (sa i) (stab i).1 (fun j => .int ((stab i).2 j)) A U U.heap
def EV (x : CX) (cc : ByteArray) (own : String) (N : Nat) (rm : Room) : Prop :=
  x.1.1.tables.exec = Jvm.exec ∧ x.2.1.2.2.2.2.code = cc ∧ x.2.1.2.2.2.2.maxLocals = N ∧ x.2.2.1.2.2.2 = N ∧ x.1.2.2.2.2.vm.findClass own = some x.2.1.1.cls ∧ (∀ w ∈ TB, w.before x.2.1.2.1 x.1.2.2.2.2 = true) ∧ va_K x.2.2.1.1 vwCl (tysOf x.2.2.1.2.1) x.1.2.2.2.2 ∧ (∀ q, x.1.2.2.2.2.heap.size ≤ q → x.2.2.1.2.2.1 q) ∧ NW x.1.2.2.2.2 ∧ ST x.2.2.2.2.1.2 x.2.2.1.2.2.1 x.1.2.2.2.2 ∧ x.1.2.2.2.1 = rm
section GR
variable {x : CX} {cc : ByteArray} {own : String} {N : Nat} {rm : Room} {cells slots pc : Nat} {h : HP} {lv lv' : List (Nat × Value)} {st : List Value}
theorem EV.hx (C : EV x cc own N rm) : x.1.1.tables.exec = Jvm.exec := C.1
theorem EV.hb (C : EV x cc own N rm) : x.2.1.2.2.2.2.code = cc := C.2.1
theorem EV.hm (C : EV x cc own N rm) : x.2.1.2.2.2.2.maxLocals = N := C.2.2.1
theorem EV.hn (C : EV x cc own N rm) : x.2.2.1.2.2.2 = N := C.2.2.2.1
theorem EV.ho (C : EV x cc own N rm) : x.1.2.2.2.2.vm.findClass own = some x.2.1.1.cls := C.2.2.2.2.1
theorem EV.ht (C : EV x cc own N rm) : ∀ w ∈ TB, w.before x.2.1.2.1 x.1.2.2.2.2 = true := C.2.2.2.2.2.1
theorem EV.hK (C : EV x cc own N rm) : va_K x.2.2.1.1 vwCl (tysOf x.2.2.1.2.1) x.1.2.2.2.2 := C.2.2.2.2.2.2.1
theorem EV.hA (C : EV x cc own N rm) : ∀ q, x.1.2.2.2.2.heap.size ≤ q → x.2.2.1.2.2.1 q := C.2.2.2.2.2.2.2.1
theorem EV.hN (C : EV x cc own N rm) : NW x.1.2.2.2.2 := C.2.2.2.2.2.2.2.2.1
theorem EV.hS (C : EV x cc own N rm) : ST x.2.2.2.2.1.2 x.2.2.1.2.2.1 x.1.2.2.2.2 := C.2.2.2.2.2.2.2.2.2.1
theorem EV.hR (C : EV x cc own N rm) : x.1.2.2.2.1 = rm := C.2.2.2.2.2.2.2.2.2.2
theorem g_iconst (C : EV x cc own N rm) {n : Int} {v : Int32} (d : decode cc pc = .ok (.iconst n, 1)) (e : Int32.ofInt n = v) (k : GG x cells slots h (pc + 1) lv (.int v :: st)) : GG x cells slots h pc lv (st) :=
  fun ad H locs ls h1 h2 h3 h4 hP hD hS hl => lv_iconst C.hx C.hb d e (k ad H locs ls h1 (wfs_c wfv_i h2) h3 h4 hP hD hS hl)
theorem g_bipush (C : EV x cc own N rm) {n : Int} {v : Int32} (d : decode cc pc = .ok (.bipush n, 2)) (e : (Int8.ofInt n).toInt32 = v) (k : GG x cells slots h (pc + 2) lv (.int v :: st)) : GG x cells slots h pc lv (st) :=
  fun ad H locs ls h1 h2 h3 h4 hP hD hS hl => lv_bipush C.hx C.hb d e (k ad H locs ls h1 (wfs_c wfv_i h2) h3 h4 hP hD hS hl)
theorem g_sipush (C : EV x cc own N rm) {n : Int} {v : Int32} (d : decode cc pc = .ok (.sipush n, 3)) (e : (Int16.ofInt n).toInt32 = v) (k : GG x cells slots h (pc + 3) lv (.int v :: st)) : GG x cells slots h pc lv (st) :=
  fun ad H locs ls h1 h2 h3 h4 hP hD hS hl => lv_sipush C.hx C.hb d e (k ad H locs ls h1 (wfs_c wfv_i h2) h3 h4 hP hD hS hl)
theorem g_lconst (C : EV x cc own N rm) {n : Fin 2} {v : Int64} (d : decode cc pc = .ok (.lconst n, 1)) (e : Int64.ofNat (n : Nat) = v) (k : GG x cells slots h (pc + 1) lv (.long v :: st)) : GG x cells slots h pc lv (st) :=
  fun ad H locs ls h1 h2 h3 h4 hP hD hS hl => lv_lconst C.hx C.hb d e (k ad H locs ls h1 (wfs_c wfv_j h2) h3 h4 hP hD hS hl)
theorem g_iadd (C : EV x cc own N rm) {a b : Int32} (d : decode cc pc = .ok (.iadd, 1))  (k : GG x cells slots h (pc + 1) lv (.int (a + b) :: st)) : GG x cells slots h pc lv (.int b :: .int a :: st) :=
  fun ad H locs ls h1 h2 h3 h4 hP hD hS hl => lv_iadd C.hx C.hb d  (k ad H locs ls h1 (wfs_c wfv_i (wfs_t (wfs_t h2))) h3 h4 hP hD hS hl)
theorem g_isub (C : EV x cc own N rm) {a b : Int32} (d : decode cc pc = .ok (.isub, 1))  (k : GG x cells slots h (pc + 1) lv (.int (a - b) :: st)) : GG x cells slots h pc lv (.int b :: .int a :: st) :=
  fun ad H locs ls h1 h2 h3 h4 hP hD hS hl => lv_isub C.hx C.hb d  (k ad H locs ls h1 (wfs_c wfv_i (wfs_t (wfs_t h2))) h3 h4 hP hD hS hl)
theorem g_imul (C : EV x cc own N rm) {a b : Int32} (d : decode cc pc = .ok (.imul, 1))  (k : GG x cells slots h (pc + 1) lv (.int (a * b) :: st)) : GG x cells slots h pc lv (.int b :: .int a :: st) :=
  fun ad H locs ls h1 h2 h3 h4 hP hD hS hl => lv_imul C.hx C.hb d  (k ad H locs ls h1 (wfs_c wfv_i (wfs_t (wfs_t h2))) h3 h4 hP hD hS hl)
theorem g_iand (C : EV x cc own N rm) {a b : Int32} (d : decode cc pc = .ok (.iand, 1))  (k : GG x cells slots h (pc + 1) lv (.int (a &&& b) :: st)) : GG x cells slots h pc lv (.int b :: .int a :: st) :=
  fun ad H locs ls h1 h2 h3 h4 hP hD hS hl => lv_iand C.hx C.hb d  (k ad H locs ls h1 (wfs_c wfv_i (wfs_t (wfs_t h2))) h3 h4 hP hD hS hl)
theorem g_ior (C : EV x cc own N rm) {a b : Int32} (d : decode cc pc = .ok (.ior, 1))  (k : GG x cells slots h (pc + 1) lv (.int (a ||| b) :: st)) : GG x cells slots h pc lv (.int b :: .int a :: st) :=
  fun ad H locs ls h1 h2 h3 h4 hP hD hS hl => lv_ior C.hx C.hb d  (k ad H locs ls h1 (wfs_c wfv_i (wfs_t (wfs_t h2))) h3 h4 hP hD hS hl)
theorem g_ixor (C : EV x cc own N rm) {a b : Int32} (d : decode cc pc = .ok (.ixor, 1))  (k : GG x cells slots h (pc + 1) lv (.int (a ^^^ b) :: st)) : GG x cells slots h pc lv (.int b :: .int a :: st) :=
  fun ad H locs ls h1 h2 h3 h4 hP hD hS hl => lv_ixor C.hx C.hb d  (k ad H locs ls h1 (wfs_c wfv_i (wfs_t (wfs_t h2))) h3 h4 hP hD hS hl)
theorem g_ladd (C : EV x cc own N rm) {a b : Int64} (d : decode cc pc = .ok (.ladd, 1))  (k : GG x cells slots h (pc + 1) lv (.long (a + b) :: st)) : GG x cells slots h pc lv (.long b :: .long a :: st) :=
  fun ad H locs ls h1 h2 h3 h4 hP hD hS hl => lv_ladd C.hx C.hb d  (k ad H locs ls h1 (wfs_c wfv_j (wfs_t (wfs_t h2))) h3 h4 hP hD hS hl)
theorem g_lsub (C : EV x cc own N rm) {a b : Int64} (d : decode cc pc = .ok (.lsub, 1))  (k : GG x cells slots h (pc + 1) lv (.long (a - b) :: st)) : GG x cells slots h pc lv (.long b :: .long a :: st) :=
  fun ad H locs ls h1 h2 h3 h4 hP hD hS hl => lv_lsub C.hx C.hb d  (k ad H locs ls h1 (wfs_c wfv_j (wfs_t (wfs_t h2))) h3 h4 hP hD hS hl)
theorem g_lmul (C : EV x cc own N rm) {a b : Int64} (d : decode cc pc = .ok (.lmul, 1))  (k : GG x cells slots h (pc + 1) lv (.long (a * b) :: st)) : GG x cells slots h pc lv (.long b :: .long a :: st) :=
  fun ad H locs ls h1 h2 h3 h4 hP hD hS hl => lv_lmul C.hx C.hb d  (k ad H locs ls h1 (wfs_c wfv_j (wfs_t (wfs_t h2))) h3 h4 hP hD hS hl)
theorem g_land (C : EV x cc own N rm) {a b : Int64} (d : decode cc pc = .ok (.land, 1))  (k : GG x cells slots h (pc + 1) lv (.long (a &&& b) :: st)) : GG x cells slots h pc lv (.long b :: .long a :: st) :=
  fun ad H locs ls h1 h2 h3 h4 hP hD hS hl => lv_land C.hx C.hb d  (k ad H locs ls h1 (wfs_c wfv_j (wfs_t (wfs_t h2))) h3 h4 hP hD hS hl)
theorem g_lor (C : EV x cc own N rm) {a b : Int64} (d : decode cc pc = .ok (.lor, 1))  (k : GG x cells slots h (pc + 1) lv (.long (a ||| b) :: st)) : GG x cells slots h pc lv (.long b :: .long a :: st) :=
  fun ad H locs ls h1 h2 h3 h4 hP hD hS hl => lv_lor C.hx C.hb d  (k ad H locs ls h1 (wfs_c wfv_j (wfs_t (wfs_t h2))) h3 h4 hP hD hS hl)
theorem g_lxor (C : EV x cc own N rm) {a b : Int64} (d : decode cc pc = .ok (.lxor, 1))  (k : GG x cells slots h (pc + 1) lv (.long (a ^^^ b) :: st)) : GG x cells slots h pc lv (.long b :: .long a :: st) :=
  fun ad H locs ls h1 h2 h3 h4 hP hD hS hl => lv_lxor C.hx C.hb d  (k ad H locs ls h1 (wfs_c wfv_j (wfs_t (wfs_t h2))) h3 h4 hP hD hS hl)
theorem g_idiv (C : EV x cc own N rm) {a b : Int32} (d : decode cc pc = .ok (.idiv, 1)) (e : ¬ b = 0) (k : GG x cells slots h (pc + 1) lv (.int (a / b) :: st)) : GG x cells slots h pc lv (.int b :: .int a :: st) :=
  fun ad H locs ls h1 h2 h3 h4 hP hD hS hl => lv_idiv C.hx C.hb d e (k ad H locs ls h1 (wfs_c wfv_i (wfs_t (wfs_t h2))) h3 h4 hP hD hS hl)
theorem g_irem (C : EV x cc own N rm) {a b : Int32} (d : decode cc pc = .ok (.irem, 1)) (e : ¬ b = 0) (k : GG x cells slots h (pc + 1) lv (.int (a - a / b * b) :: st)) : GG x cells slots h pc lv (.int b :: .int a :: st) :=
  fun ad H locs ls h1 h2 h3 h4 hP hD hS hl => lv_irem C.hx C.hb d e (k ad H locs ls h1 (wfs_c wfv_i (wfs_t (wfs_t h2))) h3 h4 hP hD hS hl)
theorem g_ineg (C : EV x cc own N rm) {a : Int32} (d : decode cc pc = .ok (.ineg, 1))  (k : GG x cells slots h (pc + 1) lv (.int (-a) :: st)) : GG x cells slots h pc lv (.int a :: st) :=
  fun ad H locs ls h1 h2 h3 h4 hP hD hS hl => lv_ineg C.hx C.hb d  (k ad H locs ls h1 (wfs_c wfv_i (wfs_t h2)) h3 h4 hP hD hS hl)
theorem g_lneg (C : EV x cc own N rm) {a : Int64} (d : decode cc pc = .ok (.lneg, 1))  (k : GG x cells slots h (pc + 1) lv (.long (-a) :: st)) : GG x cells slots h pc lv (.long a :: st) :=
  fun ad H locs ls h1 h2 h3 h4 hP hD hS hl => lv_lneg C.hx C.hb d  (k ad H locs ls h1 (wfs_c wfv_j (wfs_t h2)) h3 h4 hP hD hS hl)
theorem g_ishl (C : EV x cc own N rm) {a b : Int32} (d : decode cc pc = .ok (.ishl, 1))  (k : GG x cells slots h (pc + 1) lv (.int (a <<< (b &&& 31)) :: st)) : GG x cells slots h pc lv (.int b :: .int a :: st) :=
  fun ad H locs ls h1 h2 h3 h4 hP hD hS hl => lv_ishl C.hx C.hb d  (k ad H locs ls h1 (wfs_c wfv_i (wfs_t (wfs_t h2))) h3 h4 hP hD hS hl)
theorem g_ishr (C : EV x cc own N rm) {a b : Int32} (d : decode cc pc = .ok (.ishr, 1))  (k : GG x cells slots h (pc + 1) lv (.int (a >>> (b &&& 31)) :: st)) : GG x cells slots h pc lv (.int b :: .int a :: st) :=
  fun ad H locs ls h1 h2 h3 h4 hP hD hS hl => lv_ishr C.hx C.hb d  (k ad H locs ls h1 (wfs_c wfv_i (wfs_t (wfs_t h2))) h3 h4 hP hD hS hl)
theorem g_iushr (C : EV x cc own N rm) {a b : Int32} (d : decode cc pc = .ok (.iushr, 1))  (k : GG x cells slots h (pc + 1) lv (.int ((a.toUInt32 >>> (b.toUInt32 &&& Int32.toUInt32 31)).toInt32) :: st)) : GG x cells slots h pc lv (.int b :: .int a :: st) :=
  fun ad H locs ls h1 h2 h3 h4 hP hD hS hl => lv_iushr C.hx C.hb d rfl (k ad H locs ls h1 (wfs_c wfv_i (wfs_t (wfs_t h2))) h3 h4 hP hD hS hl)
theorem g_lushr (C : EV x cc own N rm) {a : Int64} {b : Int32} (d : decode cc pc = .ok (.lushr, 1))  (k : GG x cells slots h (pc + 1) lv (.long ((a.toUInt64 >>> (b.toInt64.toUInt64 &&& Int64.toUInt64 63)).toInt64) :: st)) : GG x cells slots h pc lv (.int b :: .long a :: st) :=
  fun ad H locs ls h1 h2 h3 h4 hP hD hS hl => lv_lushr C.hx C.hb d rfl (k ad H locs ls h1 (wfs_c wfv_j (wfs_t (wfs_t h2))) h3 h4 hP hD hS hl)
theorem g_lshl (C : EV x cc own N rm) {a : Int64} {b : Int32} (d : decode cc pc = .ok (.lshl, 1))  (k : GG x cells slots h (pc + 1) lv (.long (a <<< (b.toInt64 &&& 63)) :: st)) : GG x cells slots h pc lv (.int b :: .long a :: st) :=
  fun ad H locs ls h1 h2 h3 h4 hP hD hS hl => lv_lshl C.hx C.hb d rfl (k ad H locs ls h1 (wfs_c wfv_j (wfs_t (wfs_t h2))) h3 h4 hP hD hS hl)
theorem g_lshr (C : EV x cc own N rm) {a : Int64} {b : Int32} (d : decode cc pc = .ok (.lshr, 1))  (k : GG x cells slots h (pc + 1) lv (.long (a >>> (b.toInt64 &&& 63)) :: st)) : GG x cells slots h pc lv (.int b :: .long a :: st) :=
  fun ad H locs ls h1 h2 h3 h4 hP hD hS hl => lv_lshr C.hx C.hb d rfl (k ad H locs ls h1 (wfs_c wfv_j (wfs_t (wfs_t h2))) h3 h4 hP hD hS hl)
theorem g_i2l (C : EV x cc own N rm) {a : Int32} (d : decode cc pc = .ok (.i2l, 1))  (k : GG x cells slots h (pc + 1) lv (.long a.toInt64 :: st)) : GG x cells slots h pc lv (.int a :: st) :=
  fun ad H locs ls h1 h2 h3 h4 hP hD hS hl => lv_i2l C.hx C.hb d rfl (k ad H locs ls h1 (wfs_c wfv_j (wfs_t h2)) h3 h4 hP hD hS hl)
theorem g_l2i (C : EV x cc own N rm) {a : Int64} (d : decode cc pc = .ok (.l2i, 1))  (k : GG x cells slots h (pc + 1) lv (.int a.toInt32 :: st)) : GG x cells slots h pc lv (.long a :: st) :=
  fun ad H locs ls h1 h2 h3 h4 hP hD hS hl => lv_l2i C.hx C.hb d rfl (k ad H locs ls h1 (wfs_c wfv_i (wfs_t h2)) h3 h4 hP hD hS hl)
theorem g_i2b (C : EV x cc own N rm) {a : Int32} (d : decode cc pc = .ok (.i2b, 1))  (k : GG x cells slots h (pc + 1) lv (.int a.toInt8.toInt32 :: st)) : GG x cells slots h pc lv (.int a :: st) :=
  fun ad H locs ls h1 h2 h3 h4 hP hD hS hl => lv_i2b C.hx C.hb d rfl (k ad H locs ls h1 (wfs_c wfv_i (wfs_t h2)) h3 h4 hP hD hS hl)
theorem g_lcmp (C : EV x cc own N rm) {a b : Int64} (d : decode cc pc = .ok (.lcmp, 1))  (k : GG x cells slots h (pc + 1) lv (.int (lg_cmp a b) :: st)) : GG x cells slots h pc lv (.long b :: .long a :: st) :=
  fun ad H locs ls h1 h2 h3 h4 hP hD hS hl => W.lcmp C.hx C.hb d  (k ad H locs ls h1 (wfs_c wfv_i (wfs_t (wfs_t h2))) h3 h4 hP hD hS hl)
theorem g_ldc (C : EV x cc own N rm) {idx : Nat} {v : Int32} (d : decode cc pc = .ok (.ldc idx, 2)) (w : Cond.constant own idx v ∈ TB) (k : GG x cells slots h (pc + 2) lv (.int v :: st)) : GG x cells slots h pc lv (st) :=
  fun ad H locs ls h1 h2 h3 h4 hP hD hS hl => (fun a b c d => lv_ldc a b C.ho (C.ht _ w) c d) C.hx C.hb d  (k ad H locs ls h1 (wfs_c wfv_i h2) h3 h4 hP hD hS hl)
theorem g_ldcw (C : EV x cc own N rm) {idx : Nat} {v : Int32} (d : decode cc pc = .ok (.ldc_w idx, 3)) (w : Cond.constant own idx v ∈ TB) (k : GG x cells slots h (pc + 3) lv (.int v :: st)) : GG x cells slots h pc lv (st) :=
  fun ad H locs ls h1 h2 h3 h4 hP hD hS hl => (fun a b c d => lv_ldcw a b C.ho (C.ht _ w) c d) C.hx C.hb d  (k ad H locs ls h1 (wfs_c wfv_i h2) h3 h4 hP hD hS hl)
theorem g_ldc2 (C : EV x cc own N rm) {idx : Nat} {v : Int64} (d : decode cc pc = .ok (.ldc2_w idx, 3)) (w : Cond.constantLong own idx v ∈ TB) (k : GG x cells slots h (pc + 3) lv (.long v :: st)) : GG x cells slots h pc lv (st) :=
  fun ad H locs ls h1 h2 h3 h4 hP hD hS hl => (fun a b c d => lv_ldc2 a b C.ho (C.ht _ w) c d) C.hx C.hb d  (k ad H locs ls h1 (wfs_c wfv_j h2) h3 h4 hP hD hS hl)
theorem g_dup (C : EV x cc own N rm) {v : Value} (d : decode cc pc = .ok (.dup, 1)) (e : v.category = 1) (k : GG x cells slots h (pc + 1) lv (v :: v :: st)) : GG x cells slots h pc lv (v :: st) :=
  fun ad H locs ls h1 h2 h3 h4 hP hD hS hl => lv_dup C.hx C.hb d (vv_cat'.trans e) (k ad H locs ls h1 (wfs_c (wfs_h h2) h2) h3 h4 hP hD hS hl)
theorem g_pop (C : EV x cc own N rm) {v : Value} (d : decode cc pc = .ok (.pop, 1)) (e : v.category = 1) (k : GG x cells slots h (pc + 1) lv st) : GG x cells slots h pc lv (v :: st) :=
  fun ad H locs ls h1 h2 h3 h4 hP hD hS hl => lv_pop C.hx C.hb d (vv_cat'.trans e) (k ad H locs ls h1 (wfs_t h2) h3 h4 hP hD hS hl)
theorem g_dup_x1 (C : EV x cc own N rm) {v w : Value} (d : decode cc pc = .ok (.dup_x1, 1)) (e : v.category = 1) (e2 : w.category = 1) (k : GG x cells slots h (pc + 1) lv (v :: w :: v :: st)) : GG x cells slots h pc lv (v :: w :: st) :=
  fun ad H locs ls h1 h2 h3 h4 hP hD hS hl => lv_dup_x1 C.hx C.hb d (vv_cat'.trans e) (vv_cat'.trans e2) (k ad H locs ls h1 (wfs_c (wfs_h h2) (wfs_c (wfs_h (wfs_t h2)) (wfs_c (wfs_h h2) (wfs_t (wfs_t h2))))) h3 h4 hP hD hS hl)
theorem g_dup2_11 (C : EV x cc own N rm) {v w : Value} (d : decode cc pc = .ok (.dup2, 1)) (e : v.category = 1) (e2 : w.category = 1) (k : GG x cells slots h (pc + 1) lv (v :: w :: v :: w :: st)) : GG x cells slots h pc lv (v :: w :: st) :=
  fun ad H locs ls h1 h2 h3 h4 hP hD hS hl => lv_dup2_11 C.hx C.hb d (vv_cat'.trans e) (vv_cat'.trans e2) (k ad H locs ls h1 (wfs_c (wfs_h h2) (wfs_c (wfs_h (wfs_t h2)) h2)) h3 h4 hP hD hS hl)
theorem g_topi {a : Int32} (k : ∀ y : Int32, y = a → GG x cells slots h pc lv (.int y :: st)) : GG x cells slots h pc lv (.int a :: st) := k a rfl
theorem g_topl {a : Int64} (k : ∀ y : Int64, y = a → GG x cells slots h pc lv (.long y :: st)) : GG x cells slots h pc lv (.long a :: st) := k a rfl
theorem g_iload_n (C : EV x cc own N rm) {z : Fin 4} {i : Nat} {a : Int32} (q : Nat) (e : lv[q]? = some (i, .int a)) (d : decode cc pc = .ok (.iload_n z, 1)) (hi : (z : Nat) = i) (k : GG x cells slots h (pc + 1) lv (.int a :: st)) : GG x cells slots h pc lv st :=
  fun ad H locs ls h1 h2 h3 h4 hP hD hS hl => lv_iload_n C.hx C.hb d hi (lv_at hl q (lm_at e)) (k ad H locs ls h1 (wfs_c wfv_i h2) h3 h4 hP hD hS hl)
theorem g_iload (C : EV x cc own N rm) {i : Nat} {a : Int32} (q : Nat) (e : lv[q]? = some (i, .int a)) (d : decode cc pc = .ok (.iload i, 2)) (k : GG x cells slots h (pc + 2) lv (.int a :: st)) : GG x cells slots h pc lv st :=
  fun ad H locs ls h1 h2 h3 h4 hP hD hS hl => lv_iload C.hx C.hb d (lv_at hl q (lm_at e)) (k ad H locs ls h1 (wfs_c wfv_i h2) h3 h4 hP hD hS hl)
theorem g_lload_n (C : EV x cc own N rm) {z : Fin 4} {i : Nat} {a : Int64} (q : Nat) (e : lv[q]? = some (i, .long a)) (d : decode cc pc = .ok (.lload_n z, 1)) (hi : (z : Nat) = i) (k : GG x cells slots h (pc + 1) lv (.long a :: st)) : GG x cells slots h pc lv st :=
  fun ad H locs ls h1 h2 h3 h4 hP hD hS hl => lv_lload_n C.hx C.hb d hi (lv_at hl q (lm_at e)) (k ad H locs ls h1 (wfs_c wfv_j h2) h3 h4 hP hD hS hl)
theorem g_lload (C : EV x cc own N rm) {i : Nat} {a : Int64} (q : Nat) (e : lv[q]? = some (i, .long a)) (d : decode cc pc = .ok (.lload i, 2)) (k : GG x cells slots h (pc + 2) lv (.long a :: st)) : GG x cells slots h pc lv st :=
  fun ad H locs ls h1 h2 h3 h4 hP hD hS hl => lv_lload C.hx C.hb d (lv_at hl q (lm_at e)) (k ad H locs ls h1 (wfs_c wfv_j h2) h3 h4 hP hD hS hl)
theorem g_aload_n (C : EV x cc own N rm) {z : Fin 4} {i a : Nat} (q : Nat) (e : lv[q]? = some (i, .ref a)) (d : decode cc pc = .ok (.aload_n z, 1)) (hi : (z : Nat) = i) (k : GG x cells slots h (pc + 1) lv (.ref a :: st)) : GG x cells slots h pc lv st :=
  fun ad H locs ls h1 h2 h3 h4 hP hD hS hl => lv_aload_n C.hx C.hb d hi (lv_at hl q (lm_at e)) (k ad H locs ls h1 (wfs_c (wfl_at h3 e) h2) h3 h4 hP hD hS hl)
theorem g_aload (C : EV x cc own N rm) {i a : Nat} (q : Nat) (e : lv[q]? = some (i, .ref a)) (d : decode cc pc = .ok (.aload i, 2)) (k : GG x cells slots h (pc + 2) lv (.ref a :: st)) : GG x cells slots h pc lv st :=
  fun ad H locs ls h1 h2 h3 h4 hP hD hS hl => lv_aload C.hx C.hb d (lv_at hl q (lm_at e)) (k ad H locs ls h1 (wfs_c (wfl_at h3 e) h2) h3 h4 hP hD hS hl)
theorem g_aload_nT (C : EV x cc own N rm) {z : Fin 4} {i a : Nat} (q : Nat) (e : lv[q]? = some (i, .retAddr a)) (d : decode cc pc = .ok (.aload_n z, 1)) (hi : (z : Nat) = i) (k : GG x cells slots h (pc + 1) lv (.retAddr a :: st)) : GG x cells slots h pc lv st :=
  fun ad H locs ls h1 h2 h3 h4 hP hD hS hl => lv_aload_n C.hx C.hb d hi (lv_at hl q (lm_at e)) (k ad H locs ls h1 (wfs_c (wfl_at h3 e) h2) h3 h4 hP hD hS hl)
theorem g_aloadT (C : EV x cc own N rm) {i a : Nat} (q : Nat) (e : lv[q]? = some (i, .retAddr a)) (d : decode cc pc = .ok (.aload i, 2)) (k : GG x cells slots h (pc + 2) lv (.retAddr a :: st)) : GG x cells slots h pc lv st :=
  fun ad H locs ls h1 h2 h3 h4 hP hD hS hl => lv_aload C.hx C.hb d (lv_at hl q (lm_at e)) (k ad H locs ls h1 (wfs_c (wfl_at h3 e) h2) h3 h4 hP hD hS hl)
theorem g_istore_n (C : EV x cc own N rm) {z : Fin 4} {i : Nat} {a : Int32} (d : decode cc pc = .ok (.istore_n z, 1)) (hi : (z : Nat) = i) (hn : i < N) (e : (i, Value.int a) :: lv.filter (fun q => !(q.1 == i) && !(q.1 + 1 == i && q.2.category == 2)) = lv') (k : GG x cells slots h (pc + 1) lv' st) : GG x cells slots h pc lv (Value.int a :: st) :=
  fun ad H locs ls h1 h2 h3 h4 hP hD hS hl => lv_istore_n (lv' := lm ad lv') C.hx C.hb d hi hl (by rw [C.hn]; exact hn) (by rw [lm_filter, ← e]; rfl) (fun ls' h' => k ad H locs ls' h1 (wfs_t h2) (by rw [← e]; exact wfl_c (wfs_h h2) (wfl_f _ h3)) h4 hP hD hS h')
theorem g_istore (C : EV x cc own N rm) {i : Nat} {a : Int32} (d : decode cc pc = .ok (.istore i, 2)) (hn : i < N) (e : (i, Value.int a) :: lv.filter (fun q => !(q.1 == i) && !(q.1 + 1 == i && q.2.category == 2)) = lv') (k : GG x cells slots h (pc + 2) lv' st) : GG x cells slots h pc lv (Value.int a :: st) :=
  fun ad H locs ls h1 h2 h3 h4 hP hD hS hl => lv_istore (lv' := lm ad lv') C.hx C.hb d hl (by rw [C.hn]; exact hn) (by rw [lm_filter, ← e]; rfl) (fun ls' h' => k ad H locs ls' h1 (wfs_t h2) (by rw [← e]; exact wfl_c (wfs_h h2) (wfl_f _ h3)) h4 hP hD hS h')
theorem g_lstore_n (C : EV x cc own N rm) {z : Fin 4} {i : Nat} {a : Int64} (d : decode cc pc = .ok (.lstore_n z, 1)) (hi : (z : Nat) = i) (hn : i + 1 < N) (e : (i, Value.long a) :: lv.filter (fun q => !(q.1 == i) && (!(q.1 == i + 1) && !(q.1 + 1 == i && q.2.category == 2))) = lv') (k : GG x cells slots h (pc + 1) lv' st) : GG x cells slots h pc lv (Value.long a :: st) :=
  fun ad H locs ls h1 h2 h3 h4 hP hD hS hl => lv_lstore_n (lv' := lm ad lv') C.hx C.hb d hi hl (by rw [C.hn]; exact hn) (by rw [lm_filter2, ← e]; rfl) (fun ls' h' => k ad H locs ls' h1 (wfs_t h2) (by rw [← e]; exact wfl_c (wfs_h h2) (wfl_f _ h3)) h4 hP hD hS h')
theorem g_lstore (C : EV x cc own N rm) {i : Nat} {a : Int64} (d : decode cc pc = .ok (.lstore i, 2)) (hn : i + 1 < N) (e : (i, Value.long a) :: lv.filter (fun q => !(q.1 == i) && (!(q.1 == i + 1) && !(q.1 + 1 == i && q.2.category == 2))) = lv') (k : GG x cells slots h (pc + 2) lv' st) : GG x cells slots h pc lv (Value.long a :: st) :=
  fun ad H locs ls h1 h2 h3 h4 hP hD hS hl => lv_lstore (lv' := lm ad lv') C.hx C.hb d hl (by rw [C.hn]; exact hn) (by rw [lm_filter2, ← e]; rfl) (fun ls' h' => k ad H locs ls' h1 (wfs_t h2) (by rw [← e]; exact wfl_c (wfs_h h2) (wfl_f _ h3)) h4 hP hD hS h')
theorem g_astore_n (C : EV x cc own N rm) {z : Fin 4} {i : Nat} {a : Nat} (d : decode cc pc = .ok (.astore_n z, 1)) (hi : (z : Nat) = i) (hn : i < N) (e : (i, Value.ref a) :: lv.filter (fun q => !(q.1 == i) && !(q.1 + 1 == i && q.2.category == 2)) = lv') (k : GG x cells slots h (pc + 1) lv' st) : GG x cells slots h pc lv (Value.ref a :: st) :=
  fun ad H locs ls h1 h2 h3 h4 hP hD hS hl => lv_astore_n (lv' := lm ad lv') C.hx C.hb d hi hl (by rw [C.hn]; exact hn) (by rw [lm_filter, ← e]; rfl) (fun ls' h' => k ad H locs ls' h1 (wfs_t h2) (by rw [← e]; exact wfl_c (wfs_h h2) (wfl_f _ h3)) h4 hP hD hS h')
theorem g_astore (C : EV x cc own N rm) {i : Nat} {a : Nat} (d : decode cc pc = .ok (.astore i, 2)) (hn : i < N) (e : (i, Value.ref a) :: lv.filter (fun q => !(q.1 == i) && !(q.1 + 1 == i && q.2.category == 2)) = lv') (k : GG x cells slots h (pc + 2) lv' st) : GG x cells slots h pc lv (Value.ref a :: st) :=
  fun ad H locs ls h1 h2 h3 h4 hP hD hS hl => lv_astore (lv' := lm ad lv') C.hx C.hb d hl (by rw [C.hn]; exact hn) (by rw [lm_filter, ← e]; rfl) (fun ls' h' => k ad H locs ls' h1 (wfs_t h2) (by rw [← e]; exact wfl_c (wfs_h h2) (wfl_f _ h3)) h4 hP hD hS h')
theorem g_iinc (C : EV x cc own N rm) {i : Nat} {n : Int} {a v : Int32} (q : Nat) (e0 : lv[q]? = some (i, .int a)) (d : decode cc pc = .ok (.iinc i n, 3)) (ev : a + Int32.ofInt n = v) (hn : i < N) (e : (i, Value.int v) :: lv.filter (fun q => !(q.1 == i) && !(q.1 + 1 == i && q.2.category == 2)) = lv') (k : GG x cells slots h (pc + 3) lv' st) : GG x cells slots h pc lv st :=
  fun ad H locs ls h1 h2 h3 h4 hP hD hS hl => lv_iinc (lv' := lm ad lv') C.hx C.hb d hl (lm_at e0) ev (by rw [C.hn]; exact hn) (by rw [lm_filter, ← e]; rfl) (fun ls' h' => k ad H locs ls' h1 h2 (by rw [← e]; exact wfl_c wfv_i (wfl_f _ h3)) h4 hP hD hS h')
theorem g_if_eq (C : EV x cc own N rm) {a : Int32} {off : Int} {tgt : Nat} (d : decode cc pc = .ok (.ifCond .eq off, 3)) (ht : (pc : Int) + off = (tgt : Int)) (kt : a = 0 → GG x cells slots h tgt lv st) (kf : ¬ a = 0 → GG x cells slots h (pc + 3) lv st) : GG x cells slots h pc lv (.int a :: st) :=
  fun ad H locs ls h1 h2 h3 h4 hP hD hS hl => lv_if_eq C.hx C.hb d ht (fun z => kt z ad H locs ls h1 (wfs_t h2) h3 h4 hP hD hS hl) (fun z => kf z ad H locs ls h1 (wfs_t h2) h3 h4 hP hD hS hl)
theorem g_icmp_eq (C : EV x cc own N rm) {a b : Int32} {off : Int} {tgt : Nat} (d : decode cc pc = .ok (.if_icmp .eq off, 3)) (ht : (pc : Int) + off = (tgt : Int)) (kt : a = b → GG x cells slots h tgt lv st) (kf : ¬ a = b → GG x cells slots h (pc + 3) lv st) : GG x cells slots h pc lv (.int b :: .int a :: st) :=
  fun ad H locs ls h1 h2 h3 h4 hP hD hS hl => lv_icmp_eq C.hx C.hb d ht (fun z => kt z ad H locs ls h1 (wfs_t (wfs_t h2)) h3 h4 hP hD hS hl) (fun z => kf z ad H locs ls h1 (wfs_t (wfs_t h2)) h3 h4 hP hD hS hl)
theorem g_if_ne (C : EV x cc own N rm) {a : Int32} {off : Int} {tgt : Nat} (d : decode cc pc = .ok (.ifCond .ne off, 3)) (ht : (pc : Int) + off = (tgt : Int)) (kt : ¬ a = 0 → GG x cells slots h tgt lv st) (kf : a = 0 → GG x cells slots h (pc + 3) lv st) : GG x cells slots h pc lv (.int a :: st) :=
  fun ad H locs ls h1 h2 h3 h4 hP hD hS hl => lv_if_ne C.hx C.hb d ht (fun z => kt z ad H locs ls h1 (wfs_t h2) h3 h4 hP hD hS hl) (fun z => kf z ad H locs ls h1 (wfs_t h2) h3 h4 hP hD hS hl)
theorem g_icmp_ne (C : EV x cc own N rm) {a b : Int32} {off : Int} {tgt : Nat} (d : decode cc pc = .ok (.if_icmp .ne off, 3)) (ht : (pc : Int) + off = (tgt : Int)) (kt : ¬ a = b → GG x cells slots h tgt lv st) (kf : a = b → GG x cells slots h (pc + 3) lv st) : GG x cells slots h pc lv (.int b :: .int a :: st) :=
  fun ad H locs ls h1 h2 h3 h4 hP hD hS hl => lv_icmp_ne C.hx C.hb d ht (fun z => kt z ad H locs ls h1 (wfs_t (wfs_t h2)) h3 h4 hP hD hS hl) (fun z => kf z ad H locs ls h1 (wfs_t (wfs_t h2)) h3 h4 hP hD hS hl)
theorem g_if_lt (C : EV x cc own N rm) {a : Int32} {off : Int} {tgt : Nat} (d : decode cc pc = .ok (.ifCond .lt off, 3)) (ht : (pc : Int) + off = (tgt : Int)) (kt : a < 0 → GG x cells slots h tgt lv st) (kf : ¬ a < 0 → GG x cells slots h (pc + 3) lv st) : GG x cells slots h pc lv (.int a :: st) :=
  fun ad H locs ls h1 h2 h3 h4 hP hD hS hl => lv_if_lt C.hx C.hb d ht (fun z => kt z ad H locs ls h1 (wfs_t h2) h3 h4 hP hD hS hl) (fun z => kf z ad H locs ls h1 (wfs_t h2) h3 h4 hP hD hS hl)
theorem g_icmp_lt (C : EV x cc own N rm) {a b : Int32} {off : Int} {tgt : Nat} (d : decode cc pc = .ok (.if_icmp .lt off, 3)) (ht : (pc : Int) + off = (tgt : Int)) (kt : a < b → GG x cells slots h tgt lv st) (kf : ¬ a < b → GG x cells slots h (pc + 3) lv st) : GG x cells slots h pc lv (.int b :: .int a :: st) :=
  fun ad H locs ls h1 h2 h3 h4 hP hD hS hl => lv_icmp_lt C.hx C.hb d ht (fun z => kt z ad H locs ls h1 (wfs_t (wfs_t h2)) h3 h4 hP hD hS hl) (fun z => kf z ad H locs ls h1 (wfs_t (wfs_t h2)) h3 h4 hP hD hS hl)
theorem g_if_ge (C : EV x cc own N rm) {a : Int32} {off : Int} {tgt : Nat} (d : decode cc pc = .ok (.ifCond .ge off, 3)) (ht : (pc : Int) + off = (tgt : Int)) (kt : 0 ≤ a → GG x cells slots h tgt lv st) (kf : ¬ 0 ≤ a → GG x cells slots h (pc + 3) lv st) : GG x cells slots h pc lv (.int a :: st) :=
  fun ad H locs ls h1 h2 h3 h4 hP hD hS hl => lv_if_ge C.hx C.hb d ht (fun z => kt z ad H locs ls h1 (wfs_t h2) h3 h4 hP hD hS hl) (fun z => kf z ad H locs ls h1 (wfs_t h2) h3 h4 hP hD hS hl)
theorem g_icmp_ge (C : EV x cc own N rm) {a b : Int32} {off : Int} {tgt : Nat} (d : decode cc pc = .ok (.if_icmp .ge off, 3)) (ht : (pc : Int) + off = (tgt : Int)) (kt : b ≤ a → GG x cells slots h tgt lv st) (kf : ¬ b ≤ a → GG x cells slots h (pc + 3) lv st) : GG x cells slots h pc lv (.int b :: .int a :: st) :=
  fun ad H locs ls h1 h2 h3 h4 hP hD hS hl => lv_icmp_ge C.hx C.hb d ht (fun z => kt z ad H locs ls h1 (wfs_t (wfs_t h2)) h3 h4 hP hD hS hl) (fun z => kf z ad H locs ls h1 (wfs_t (wfs_t h2)) h3 h4 hP hD hS hl)
theorem g_if_gt (C : EV x cc own N rm) {a : Int32} {off : Int} {tgt : Nat} (d : decode cc pc = .ok (.ifCond .gt off, 3)) (ht : (pc : Int) + off = (tgt : Int)) (kt : 0 < a → GG x cells slots h tgt lv st) (kf : ¬ 0 < a → GG x cells slots h (pc + 3) lv st) : GG x cells slots h pc lv (.int a :: st) :=
  fun ad H locs ls h1 h2 h3 h4 hP hD hS hl => lv_if_gt C.hx C.hb d ht (fun z => kt z ad H locs ls h1 (wfs_t h2) h3 h4 hP hD hS hl) (fun z => kf z ad H locs ls h1 (wfs_t h2) h3 h4 hP hD hS hl)
theorem g_icmp_gt (C : EV x cc own N rm) {a b : Int32} {off : Int} {tgt : Nat} (d : decode cc pc = .ok (.if_icmp .gt off, 3)) (ht : (pc : Int) + off = (tgt : Int)) (kt : b < a → GG x cells slots h tgt lv st) (kf : ¬ b < a → GG x cells slots h (pc + 3) lv st) : GG x cells slots h pc lv (.int b :: .int a :: st) :=
  fun ad H locs ls h1 h2 h3 h4 hP hD hS hl => lv_icmp_gt C.hx C.hb d ht (fun z => kt z ad H locs ls h1 (wfs_t (wfs_t h2)) h3 h4 hP hD hS hl) (fun z => kf z ad H locs ls h1 (wfs_t (wfs_t h2)) h3 h4 hP hD hS hl)
theorem g_if_le (C : EV x cc own N rm) {a : Int32} {off : Int} {tgt : Nat} (d : decode cc pc = .ok (.ifCond .le off, 3)) (ht : (pc : Int) + off = (tgt : Int)) (kt : a ≤ 0 → GG x cells slots h tgt lv st) (kf : ¬ a ≤ 0 → GG x cells slots h (pc + 3) lv st) : GG x cells slots h pc lv (.int a :: st) :=
  fun ad H locs ls h1 h2 h3 h4 hP hD hS hl => lv_if_le C.hx C.hb d ht (fun z => kt z ad H locs ls h1 (wfs_t h2) h3 h4 hP hD hS hl) (fun z => kf z ad H locs ls h1 (wfs_t h2) h3 h4 hP hD hS hl)
theorem g_icmp_le (C : EV x cc own N rm) {a b : Int32} {off : Int} {tgt : Nat} (d : decode cc pc = .ok (.if_icmp .le off, 3)) (ht : (pc : Int) + off = (tgt : Int)) (kt : a ≤ b → GG x cells slots h tgt lv st) (kf : ¬ a ≤ b → GG x cells slots h (pc + 3) lv st) : GG x cells slots h pc lv (.int b :: .int a :: st) :=
  fun ad H locs ls h1 h2 h3 h4 hP hD hS hl => lv_icmp_le C.hx C.hb d ht (fun z => kt z ad H locs ls h1 (wfs_t (wfs_t h2)) h3 h4 hP hD hS hl) (fun z => kf z ad H locs ls h1 (wfs_t (wfs_t h2)) h3 h4 hP hD hS hl)
theorem g_goto (C : EV x cc own N rm) {off : Int} {tgt : Nat} (d : decode cc pc = .ok (.goto off, 3)) (ht : (pc : Int) + off = (tgt : Int)) (k : GG x cells slots h tgt lv st) : GG x cells slots h pc lv st :=
  fun ad H locs ls h1 h2 h3 h4 hP hD hS hl => lv_goto C.hx C.hb d ht (k ad H locs ls h1 h2 h3 h4 hP hD hS hl)
theorem lm_pick {ad : AD} {lv lv' : List (Nat × Value)} (ks : List Nat) (e : lv_pick lv ks = lv') : lv_pick (lm ad lv) ks = lm ad lv' := by
  subst e
  simp only [lv_pick, lm]
  induction ks with
  | nil => rfl
  | cons a ks ih =>
    rw [List.filterMap_cons, List.filterMap_cons, List.getElem?_map]
    cases hz : lv[a]? with
    | none => simpa using ih
    | some q => simpa using ih
theorem g_lv (ks : List Nat) (e : lv_pick lv ks = lv') (k : GG x cells slots h pc lv' st) : GG x cells slots h pc lv st :=
  fun ad H locs ls h1 h2 h3 h4 hP hD hS hl => k ad H locs ls h1 h2 (by
    rw [← e]
    intro q hq
    obtain ⟨i, -, hi⟩ := List.mem_filterMap.mp hq
    exact h3 q (List.mem_of_getElem? hi)) h4 hP hD hS (lv_sub hl ks (lm_pick ks e))
theorem g_widen {k n : Nat} (e1 : cells ≤ k) (e2 : slots ≤ n) (kk : GG x k n h pc lv st) : GG x cells slots h pc lv st :=
  fun ad H locs ls h1 h2 h3 h4 hP hD hS hl => W.widen e1 e2 (kk ad H locs ls h1 h2 h3 h4 hP hD hS hl)
theorem ldB_of {k : Nat} {i a : Int32} (e : ldB h k i = some a) : ∃ n f, h[k]? = some (pB n f) ∧ vp_in i n ∧ (f i.toNatClampNeg).toInt32 = a := by
  unfold ldB at e
  split at e
  · split at e
    · cases e
    · exact ⟨_, _, by assumption, by assumption, Option.some.inj e⟩
  · cases e
theorem ldI_of {k : Nat} {i a : Int32} (e : ldI h k i = some a) : ∃ n f, h[k]? = some (pI n f) ∧ vp_in i n ∧ f i.toNatClampNeg = a := by
  unfold ldI at e
  split at e
  · split at e
    · cases e
    · exact ⟨_, _, by assumption, by assumption, Option.some.inj e⟩
  · cases e
theorem ldJ_of {k : Nat} {i : Int32} {a : Int64} (e : ldJ h k i = some a) : ∃ n f, h[k]? = some (pJ n f) ∧ vp_in i n ∧ f i.toNatClampNeg = a := by
  unfold ldJ at e
  split at e
  · split at e
    · cases e
    · exact ⟨_, _, by assumption, by assumption, Option.some.inj e⟩
  · cases e
theorem ldR_of {k t : Nat} {i : Int32} {a : Nat} (e : ldR h k t i = some a) : ∃ n f, h[k]? = some (pR t n f) ∧ vp_in i n ∧ f i.toNatClampNeg = some a := by
  unfold ldR at e
  split at e
  · split at e
    · cases e
    · rename_i u n f hk hc
      have hu : u = t := Classical.byContradiction fun z => hc (Or.inl z)
      subst hu
      exact ⟨_, _, hk, fun z => hc (Or.inr z), e⟩
  · cases e
theorem g_baload (C : EV x cc own N rm) {k : Nat} {i a : Int32} (e : ldB h k i = some a) (d : decode cc pc = .ok (.baload, 1)) (kk : GG x cells slots h (pc + 1) lv (.int a :: st)) : GG x cells slots h pc lv (.int i :: .ref k :: st) := by
  obtain ⟨n, f, hk, hin, rfl⟩ := ldB_of e
  exact fun ad H locs ls h1 h2 h3 h4 hP hD hS hl => va_bald C.hx C.hb C.hK hP k 0 (wd_get hk) rfl hin d (kk ad H locs ls h1 (wfs_c wfv_i (wfs_t (wfs_t h2))) h3 h4 hP hD hS hl)
theorem g_iaload (C : EV x cc own N rm) {k : Nat} {i a : Int32} (e : ldI h k i = some a) (d : decode cc pc = .ok (.iaload, 1)) (kk : GG x cells slots h (pc + 1) lv (.int a :: st)) : GG x cells slots h pc lv (.int i :: .ref k :: st) := by
  obtain ⟨n, f, hk, hin, rfl⟩ := ldI_of e
  exact fun ad H locs ls h1 h2 h3 h4 hP hD hS hl => va_iald C.hx C.hb C.hK hP k 1 (wd_get hk) rfl hin d (kk ad H locs ls h1 (wfs_c wfv_i (wfs_t (wfs_t h2))) h3 h4 hP hD hS hl)
theorem g_laload (C : EV x cc own N rm) {k : Nat} {i : Int32} {a : Int64} (e : ldJ h k i = some a) (d : decode cc pc = .ok (.laload, 1)) (kk : GG x cells slots h (pc + 1) lv (.long a :: st)) : GG x cells slots h pc lv (.int i :: .ref k :: st) := by
  obtain ⟨n, f, hk, hin, rfl⟩ := ldJ_of e
  exact fun ad H locs ls h1 h2 h3 h4 hP hD hS hl => va_lald C.hx C.hb C.hK hP k 2 (wd_get hk) rfl hin d (kk ad H locs ls h1 (wfs_c wfv_j (wfs_t (wfs_t h2))) h3 h4 hP hD hS hl)
def tdI (t : Nat) (i : Int32) : Option Int32 := if 7 ≤ t ∨ i < 0 ∨ (stab t).1 ≤ i.toNatClampNeg then none else some ((stab t).2 i.toNatClampNeg)
def tdN (t : Nat) : Option Int32 := if 7 ≤ t then none else some (Int32.ofNat (stab t).1)
theorem g_ialoadT (C : EV x cc own N rm) {t : Nat} {i a : Int32} (e : tdI t i = some a) (d : decode cc pc = .ok (.iaload, 1)) (kk : GG x cells slots h (pc + 1) lv (.int a :: st)) : GG x cells slots h pc lv (.int i :: .retAddr t :: st) := by
  unfold tdI at e
  split at e
  · cases e
  · rename_i hc
    have h7 : t < 7 := Nat.lt_of_not_le fun z => hc (Or.inl z)
    have hin : vp_in i (stab t).1 := fun z => hc (Or.inr z)
    have ea := Option.some.inj e
    intro ad H locs ls h1 h2 h3 h4 hP hD hS hl
    have hT := (C.hS t h7).2
    rw [← h4.2.1] at hT
    exact va_ti C.hx C.hb hT hS hin (by rw [ea]; rfl) d (kk ad H locs ls h1 (wfs_c wfv_i (wfs_t (wfs_t h2))) h3 h4 hP hD hS hl)
theorem g_alenT (C : EV x cc own N rm) {t : Nat} {a : Int32} (e : tdN t = some a) (d : decode cc pc = .ok (.arraylength, 1)) (kk : GG x cells slots h (pc + 1) lv (.int a :: st)) : GG x cells slots h pc lv (.retAddr t :: st) := by
  unfold tdN at e
  split at e
  · cases e
  · rename_i hc
    have h7 : t < 7 := Nat.lt_of_not_le hc
    have ea := Option.some.inj e
    intro ad H locs ls h1 h2 h3 h4 hP hD hS hl
    have hT := (C.hS t h7).2
    rw [← h4.2.1] at hT
    exact va_tlen C.hx C.hb hT hS ea d (kk ad H locs ls h1 (wfs_c wfv_i (wfs_t h2)) h3 h4 hP hD hS hl)
theorem g_alen (C : EV x cc own N rm) {k : Nat} {a : Int32} (e : ln h k = some a) (ht : ∀ t n f, h[k]? = some (pR t n f) → t < 6) (d : decode cc pc = .ok (.arraylength, 1)) (kk : GG x cells slots h (pc + 1) lv (.int a :: st)) : GG x cells slots h pc lv (.ref k :: st) := by
  unfold ln at e
  intro ad H locs ls h1 h2 h3 h4 hP hD hS hl
  have go := kk ad H locs ls h1 (wfs_c wfv_i (wfs_t h2)) h3 h4 hP hD hS hl
  split at e
  · rename_i n f hk
    exact va_alen C.hx C.hb C.hK hP k 0 (wd_get hk) rfl (Option.some.inj e) d go
  · rename_i n f hk
    exact va_alen C.hx C.hb C.hK hP k 1 (wd_get hk) rfl (Option.some.inj e) d go
  · rename_i n f hk
    exact va_alen C.hx C.hb C.hK hP k 2 (wd_get hk) rfl (Option.some.inj e) d go
  · rename_i t n f hk
    have h6 := ht t n f hk
    have hz : ∃ ty, (tysOf x.2.2.1.2.1)[t]? = some (x.2.2.1.2.1 t, ty) := by
      match t, h6 with
      | 0, _ => exact ⟨_, rfl⟩
      | 1, _ => exact ⟨_, rfl⟩
      | 2, _ => exact ⟨_, rfl⟩
      | 3, _ => exact ⟨_, rfl⟩
      | 4, _ => exact ⟨_, rfl⟩
      | 5, _ => exact ⟨_, rfl⟩
    obtain ⟨ty, hty⟩ := hz
    exact va_alen C.hx C.hb C.hK hP k t (wd_get hk) hty (Option.some.inj e) d go
  · cases e
theorem stB_of {k : Nat} {i : Int32} {a : Int32} {h' : HP} (e : stB h k i a = some h') : ∃ n f, h[k]? = some (pB n f) ∧ vp_in i n ∧ h' = h.set k (pB n (va_up f i.toNatClampNeg a.toInt8)) := by
  unfold stB at e
  split at e
  · split at e
    · cases e
    · exact ⟨_, _, by assumption, by assumption, (Option.some.inj e).symm⟩
  · cases e
theorem stI_of {k : Nat} {i : Int32} {a : Int32} {h' : HP} (e : stI h k i a = some h') : ∃ n f, h[k]? = some (pI n f) ∧ vp_in i n ∧ h' = h.set k (pI n (va_up f i.toNatClampNeg a)) := by
  unfold stI at e
  split at e
  · split at e
    · cases e
    · exact ⟨_, _, by assumption, by assumption, (Option.some.inj e).symm⟩
  · cases e
theorem stJ_of {k : Nat} {i : Int32} {a : Int64} {h' : HP} (e : stJ h k i a = some h') : ∃ n f, h[k]? = some (pJ n f) ∧ vp_in i n ∧ h' = h.set k (pJ n (va_up f i.toNatClampNeg a)) := by
  unfold stJ at e
  split at e
  · split at e
    · cases e
    · exact ⟨_, _, by assumption, by assumption, (Option.some.inj e).symm⟩
  · cases e
theorem by_up (f : Nat → Int8) (k : Nat) (a : Int32) : (fun j => (va_up f k a.toInt8 j).toInt32) = upd (fun j => (f j).toInt32) k (vp_nar .byte a) := by
  funext j
  unfold va_up upd
  split
  · rw [vp_nar_byte]
  · rfl
theorem g_bastore (C : EV x cc own N rm) {k : Nat} {i a : Int32} {h' : HP} (e : stB h k i a = some h') (d : decode cc pc = .ok (.bastore, 1)) (kk : GG x cells slots h' (pc + 1) lv st) : GG x cells slots h pc lv (.int a :: .int i :: .ref k :: st) := by
  obtain ⟨n, f, hk, hin, rfl⟩ := stB_of e
  intro ad H locs ls h1 h2 h3 h4 hP hD hS hl
  refine va_bast C.hx C.hb C.hK hP hD hS k 0 (wd_get hk) rfl hin d (fun H1 locs1 hP1 hD1 hS1 => ?_)
  rw [← by_up] at hP1 hD1
  have e2 : (wd x.2.2.1.2.1 ad h).set k (ad.1 k, .inl (x.2.2.1.2.1 0, n, .inl (fun j => (va_up f i.toNatClampNeg a.toInt8 j).toInt32))) = wd x.2.2.1.2.1 ad (h.set k (pB n (va_up f i.toNatClampNeg a.toInt8))) := wd_set (c := pB n (va_up f i.toNatClampNeg a.toInt8))
  rw [e2] at hP1 hD1
  exact kk ad H1 locs1 ls (wfh_set h1 trivial) (by rw [List.length_set]; exact wfs_t (wfs_t (wfs_t h2))) (by rw [List.length_set]; exact h3) (by rw [List.length_set]; exact h4) hP1 hD1 hS1 hl
theorem g_iastore (C : EV x cc own N rm) {k : Nat} {i a : Int32} {h' : HP} (e : stI h k i a = some h') (d : decode cc pc = .ok (.iastore, 1)) (kk : GG x cells slots h' (pc + 1) lv st) : GG x cells slots h pc lv (.int a :: .int i :: .ref k :: st) := by
  obtain ⟨n, f, hk, hin, rfl⟩ := stI_of e
  intro ad H locs ls h1 h2 h3 h4 hP hD hS hl
  refine va_iast C.hx C.hb C.hK hP hD hS k 1 (wd_get hk) rfl hin d (fun H1 locs1 hP1 hD1 hS1 => ?_)
  have e2 : (wd x.2.2.1.2.1 ad h).set k (ad.1 k, .inl (x.2.2.1.2.1 1, n, .inl (upd f i.toNatClampNeg a))) = wd x.2.2.1.2.1 ad (h.set k (pI n (va_up f i.toNatClampNeg a))) := wd_set (c := pI n (va_up f i.toNatClampNeg a))
  rw [e2] at hP1 hD1
  exact kk ad H1 locs1 ls (wfh_set h1 trivial) (by rw [List.length_set]; exact wfs_t (wfs_t (wfs_t h2))) (by rw [List.length_set]; exact h3) (by rw [List.length_set]; exact h4) hP1 hD1 hS1 hl
theorem g_lastore (C : EV x cc own N rm) {k : Nat} {i : Int32} {a : Int64} {h' : HP} (e : stJ h k i a = some h') (d : decode cc pc = .ok (.lastore, 1)) (kk : GG x cells slots h' (pc + 1) lv st) : GG x cells slots h pc lv (.long a :: .int i :: .ref k :: st) := by
  obtain ⟨n, f, hk, hin, rfl⟩ := stJ_of e
  intro ad H locs ls h1 h2 h3 h4 hP hD hS hl
  refine va_last C.hx C.hb C.hK hP hD hS k 2 (wd_get hk) rfl hin d (fun H1 locs1 hP1 hD1 hS1 => ?_)
  have e2 : (wd x.2.2.1.2.1 ad h).set k (ad.1 k, .inl (x.2.2.1.2.1 2, n, .inr (.inl (vp_updL f i.toNatClampNeg a)))) = wd x.2.2.1.2.1 ad (h.set k (pJ n (va_up f i.toNatClampNeg a))) := wd_set (c := pJ n (va_up f i.toNatClampNeg a))
  rw [e2] at hP1 hD1
  exact kk ad H1 locs1 ls (wfh_set h1 trivial) (by rw [List.length_set]; exact wfs_t (wfs_t (wfs_t h2))) (by rw [List.length_set]; exact h3) (by rw [List.length_set]; exact h4) hP1 hD1 hS1 hl
end GR
end
section
/-! FIELDS, STATICS, MAKING -/
abbrev FL (own : String) (idx ci j : Nat) : Prop := ∃ (Cn : String) (T : u_T) (n : Nat), vwCl[ci]? = some (Cn, T, n) ∧ (∀ w ∈ u_ws Cn T n, w ∈ TB) ∧ j < n ∧ (T j).1 = Cn ∧ Cond.fieldLink own idx Cn (T j).2.1 (T j).2.2.1 ∈ TB
abbrev FP (own : String) (idx ci j : Nat) (ty : FieldType) (fin : Bool) : Prop := ∃ (Cn : String) (T : u_T) (n : Nat) (ty0 : Nat → FieldType), vwCl[ci]? = some (Cn, T, n) ∧ (∀ w ∈ u_ws Cn T n, w ∈ TB) ∧ j < n ∧ (T j).1 = Cn ∧ Cond.fieldLink own idx Cn (T j).2.1 (T j).2.2.1 ∈ TB ∧ (∀ k, k < n → parseFieldDescriptor (T k).2.2.1 = some (ty0 k)) ∧ (∀ a, a < n → ∀ b, b < n → a ≠ b → (T a).2.1 ≠ (T b).2.1) ∧ (T j).2.2.2 = fin ∧ parseFieldDescriptor (T j).2.2.1 = some ty
theorem gV_of {h : HP} {k c j : Nat} {v : Value} (e : gV h k c j = some v) : ∃ fs, h[k]? = some (pO c fs) ∧ fs[j]? = some v := by
  unfold gV at e
  split at e
  · split at e
    · rename_i d fs hk hc
      subst hc
      exact ⟨fs, hk, e⟩
    · cases e
  · cases e
theorem gI_of {h : HP} {k c j : Nat} {a : Int32} (e : gI h k c j = some a) : gV h k c j = some (.int a) := by
  unfold gI at e
  split at e
  · rename_i y hy
    rw [hy, Option.some.inj e]
  · cases e
theorem gJ_of {h : HP} {k c j : Nat} {a : Int64} (e : gJ h k c j = some a) : gV h k c j = some (.long a) := by
  unfold gJ at e
  split at e
  · rename_i y hy
    rw [hy, Option.some.inj e]
  · cases e
theorem gR_of {h : HP} {k c j a : Nat} (e : gR h k c j = some a) : gV h k c j = some (.ref a) := by
  unfold gR at e
  split at e
  · rename_i y hy
    rw [hy, Option.some.inj e]
  · cases e
theorem pV_of {h h' : HP} {k c j : Nat} {v : Value} (e : pV h k c j v = some h') : ∃ fs, h[k]? = some (pO c fs) ∧ j < fs.length ∧ h' = h.set k (pO c (fs.set j v)) := by
  unfold pV at e
  split at e
  · split at e
    · rename_i d fs hk hc
      obtain ⟨rfl, hj⟩ := hc
      exact ⟨fs, hk, hj, (Option.some.inj e).symm⟩
    · cases e
  · cases e
section GF
variable {x : CX} {cc : ByteArray} {own : String} {N : Nat} {rm : Room} {cells slots pc : Nat} {h : HP} {lv lv' : List (Nat × Value)} {st : List Value}
theorem g_getV (C : EV x cc own N rm) {idx ci j k : Nat} {v : Value} (F : FL own idx ci j) (e : gV h k ci j = some v) (d : decode cc pc = .ok (.getfield idx, 3)) (kk : GG x cells slots h (pc + 3) lv (v :: st)) : GG x cells slots h pc lv (.ref k :: st) := by
  obtain ⟨Cn, T, n, hc, hin, hj, hd, hlk⟩ := F
  obtain ⟨fs, hk, hv⟩ := gV_of e
  intro ad H locs ls h1 h2 h3 h4 hP hD hS hl
  have hwf : wfs h.length fs := h1 _ (List.mem_of_getElem? hk)
  exact va_get C.hx C.hb C.ht hin C.ho C.hK hP k (wd_get hk) hc j hj (C.ht _ hlk) (fun _ h9 => by rw [hd] at h9; exact h9) (v := vv ad v) (by rw [List.getElem?_map, hv]; rfl) d (kk ad H locs ls h1 (wfs_c (hwf v (List.mem_of_getElem? hv)) (wfs_t h2)) h3 h4 hP hD hS hl)
theorem g_getI (C : EV x cc own N rm) {idx ci j k : Nat} {a : Int32} (F : FL own idx ci j) (e : gI h k ci j = some a) (d : decode cc pc = .ok (.getfield idx, 3)) (kk : GG x cells slots h (pc + 3) lv (.int a :: st)) : GG x cells slots h pc lv (.ref k :: st) := g_getV C F (gI_of e) d kk
theorem g_getJ (C : EV x cc own N rm) {idx ci j k : Nat} {a : Int64} (F : FL own idx ci j) (e : gJ h k ci j = some a) (d : decode cc pc = .ok (.getfield idx, 3)) (kk : GG x cells slots h (pc + 3) lv (.long a :: st)) : GG x cells slots h pc lv (.ref k :: st) := g_getV C F (gJ_of e) d kk
theorem g_getR (C : EV x cc own N rm) {idx ci j k a : Nat} (F : FL own idx ci j) (e : gR h k ci j = some a) (d : decode cc pc = .ok (.getfield idx, 3)) (kk : GG x cells slots h (pc + 3) lv (.ref a :: st)) : GG x cells slots h pc lv (.ref k :: st) := g_getV C F (gR_of e) d kk
theorem g_putV (C : EV x cc own N rm) {idx ci j k : Nat} {v : Value} {h' : HP} {ty : FieldType} {fin : Bool} (F : FP own idx ci j ty fin) (hfin : fin = true → x.2.1.2.2.2.1.name = "<init>" ∧ (vwCl[ci]?.map (fun z => (z.2.1 j).1)) = some own) (e : pV h k ci j v = some h') (hw : wfv h.length v → True) (hn : ∀ ad, narrow ty (vv ad v) = vv ad v) (hf : ∀ ad, fits ty (vv ad v) = true) (d : decode cc pc = .ok (.putfield idx, 3)) (kk : GG x cells slots h' (pc + 3) lv st) : GG x cells slots h pc lv (v :: .ref k :: st) := by
  obtain ⟨Cn, T, n, ty0, hc, hin, hj, hd, hlk, hty, hnm, hfn, hdt⟩ := F
  obtain ⟨fs, hk, hjl, rfl⟩ := pV_of e
  intro ad H locs ls h1 h2 h3 h4 hP hD hS hl
  have hwf : wfs h.length fs := h1 _ (List.mem_of_getElem? hk)
  have e2 : (wd x.2.2.1.2.1 ad h).set k (ad.1 k, .inr (ci, (fs.map (vv ad)).set j (vv ad v))) = wd x.2.2.1.2.1 ad (h.set k (pO ci (fs.set j v))) := by
    rw [← List.map_set]; exact wd_set (c := pO ci (fs.set j v))
  have hwn : wfs h.length (fs.set j v) := by
    intro w hw
    rcases List.mem_or_eq_of_mem_set hw with z | z
    · exact hwf w z
    · rw [z]; exact wfs_h h2
  have go : ∀ (H1 : Heap) (locs1 : List Loc), va_P x.2.2.1.1 vwCl ((wd x.2.2.1.2.1 ad h).set k (ad.1 k, .inr (ci, (fs.map (vv ad)).set j (vv ad v)))) H1 → va_D x.2.2.1.2.2.1 ((wd x.2.2.1.2.1 ad h).set k (ad.1 k, .inr (ci, (fs.map (vv ad)).set j (vv ad v)))) → va_S x.2.2.1.2.2.1 x.1.2.2.2.2.heap H1 locs1 → W x.1.1 x.1.2.1 x.1.2.2.1 x.1.2.2.2.1 x.1.2.2.2.2 x.2.1.1 x.2.1.2.1 x.2.1.2.2.1 x.2.1.2.2.2.1 x.2.1.2.2.2.2 H1 locs1 cells slots x.2.2.2.2.2 (F0 x.2.1.1 (pc + 3) ls (st.map (vv ad))) := by
    intro H1 locs1 hP1 hD1 hS1
    rw [e2] at hP1 hD1
    exact kk ad H1 locs1 ls (wfh_set h1 hwn) (by rw [List.length_set]; exact wfs_t (wfs_t h2)) (by rw [List.length_set]; exact h3) (by rw [List.length_set]; exact h4) hP1 hD1 hS1 hl
  cases fin with
  | false => exact va_put C.hx C.hb C.ht hin ty0 hty hnm C.ho C.hK hP hD hS k (wd_get hk) hc j hj (C.ht _ hlk) (fun _ h9 => by rw [hd] at h9; exact h9) hfn hdt (hn ad) (hf ad) (by rw [List.length_map]; exact hjl) d go
  | true =>
    obtain ⟨hi, ho⟩ := hfin rfl
    rw [hc] at ho
    exact va_putF C.hx C.hb C.ht hin ty0 hty hnm C.ho C.hK hP hD hS k (wd_get hk) hc j hj (C.ht _ hlk) (fun _ h9 => by rw [hd] at h9; exact h9) hfn hi (Option.some.inj ho) hdt (hn ad) (hf ad) (by rw [List.length_map]; exact hjl) d go
theorem g_putI (C : EV x cc own N rm) {idx ci j k : Nat} {a : Int32} {h' : HP} (F : FP own idx ci j .int false) (e : pV h k ci j (.int a) = some h') (d : decode cc pc = .ok (.putfield idx, 3)) (kk : GG x cells slots h' (pc + 3) lv st) : GG x cells slots h pc lv (.int a :: .ref k :: st) := g_putV C F (fun z => by cases z) e (fun _ => trivial) (fun _ => rfl) (fun _ => rfl) d kk
theorem g_putZ (C : EV x cc own N rm) {idx ci j k : Nat} {a : Int32} {h' : HP} (F : FP own idx ci j .boolean false) (e : pZ h k ci j a = some h') (d : decode cc pc = .ok (.putfield idx, 3)) (kk : GG x cells slots h' (pc + 3) lv st) : GG x cells slots h pc lv (.int a :: .ref k :: st) := by
  unfold pZ at e
  split at e
  · rename_i hz
    rcases hz with rfl | rfl
    · exact g_putV C F (fun z => by cases z) e (fun _ => trivial) (fun _ => rfl) (fun _ => rfl) d kk
    · exact g_putV C F (fun z => by cases z) e (fun _ => trivial) (fun _ => rfl) (fun _ => rfl) d kk
  · cases e
theorem g_gets (C : EV x cc own N rm) {idx t : Nat} (ht : t < 7) (hlk : Cond.fieldLink own idx (stC t) (stN t) "[I" ∈ TB) (d : decode cc pc = .ok (.getstatic idx, 3)) (kk : GG x cells slots h (pc + 3) lv (.retAddr t :: st)) : GG x cells slots h pc lv st := by
  intro ad H locs ls h1 h2 h3 h4 hP hD hS hl
  have hZ := (C.hS t ht).1
  rw [← h4.2.1] at hZ
  exact va_gets C.hx C.hb hZ hS C.ho (C.ht _ hlk) (fun _ h9 => h9) d (kk ad H locs ls h1 (wfs_c wfv_t h2) h3 h4 hP hD hS hl)
theorem wd_push {tg : Nat → ClassId} {ad : AD} {h : HP} {q : Nat} {c : PE} (hw : wfh h) (hc : wfc h.length c) : wd tg ad h ++ [(q, cv tg ad c)] = wd tg (va_up ad.1 h.length q, ad.2) (h ++ [c]) := by
  have ha : ∀ k, k < h.length → (va_up ad.1 h.length q) k = ad.1 k := fun k hk => by simp [va_up, Nat.ne_of_lt hk]
  have e := wd_agree (tg := tg) (ad := ad) (ad' := (va_up ad.1 h.length q, ad.2)) hw rfl ha
  have e3 := cv_agree (tg := tg) (ad := ad) (ad' := (va_up ad.1 h.length q, ad.2)) rfl ha hc
  rw [← e, ← e3]
  simp [wd, va_up]
theorem g_push {cells' slots' : Nat} {ad : AD} {H1 : Heap} {locs : List Loc} {ls : Array Slot} {q pc' : Nat} {c : PE} {st' : List Value} (h1 : wfh h) (h2 : wfs h.length st') (h3 : wfl h.length lv) (h4 : x.2.2.2.1 ≤ h.length ∧ ad.2 = x.2.2.2.2.1.2 ∧ ∀ k, k < x.2.2.2.1 → ad.1 k = x.2.2.2.2.1.1 k) (hc : wfc h.length c)
    (hP : va_P x.2.2.1.1 vwCl (wd x.2.2.1.2.1 ad h ++ [(q, cv x.2.2.1.2.1 ad c)]) H1) (hD : va_D x.2.2.1.2.2.1 (wd x.2.2.1.2.1 ad h ++ [(q, cv x.2.2.1.2.1 ad c)])) (hS : va_S x.2.2.1.2.2.1 x.1.2.2.2.2.heap H1 locs) (hl : lv_has ls x.2.2.1.2.2.2 (lm ad lv))
    (kk : GG x cells' slots' (h ++ [c]) pc' lv (.ref h.length :: st')) : W x.1.1 x.1.2.1 x.1.2.2.1 x.1.2.2.2.1 x.1.2.2.2.2 x.2.1.1 x.2.1.2.1 x.2.1.2.2.1 x.2.1.2.2.2.1 x.2.1.2.2.2.2 H1 locs cells' slots' x.2.2.2.2.2 (F0 x.2.1.1 pc' ls (.ref q :: st'.map (vv ad))) := by
  rw [wd_push h1 hc] at hP hD
  have ha : ∀ k, k < h.length → (va_up ad.1 h.length q) k = ad.1 k := fun k hk => by simp [va_up, Nat.ne_of_lt hk]
  have hlen : (h ++ [c]).length = h.length + 1 := by simp
  have go := kk (va_up ad.1 h.length q, ad.2) H1 locs ls (wfh_push h1 (wfc_up hc (Nat.le_succ _))) (by rw [hlen]; exact wfs_c (wfv_r (Nat.lt_succ_self _)) (wfs_up h2 (Nat.le_succ _))) (by rw [hlen]; exact wfl_up h3 (Nat.le_succ _)) ⟨by rw [hlen]; exact Nat.le_succ_of_le h4.1, h4.2.1, fun k hk => (ha k (Nat.lt_of_lt_of_le hk h4.1)).trans (h4.2.2 k hk)⟩ hP hD hS (by rw [lm_agree (ad := ad) (ad' := (va_up ad.1 h.length q, ad.2)) rfl ha h3]; exact hl)
  have e1 : (Value.ref h.length :: st').map (vv (va_up ad.1 h.length q, ad.2)) = .ref q :: st'.map (vv ad) := by
    rw [List.map_cons, vs_agree (ad := ad) (ad' := (va_up ad.1 h.length q, ad.2)) rfl ha h2]
    show Value.ref (va_up ad.1 h.length q h.length) :: _ = _
    simp [va_up]
  rw [e1] at go
  exact go
abbrev NC (own : String) (idx ci n : Nat) (fs : List Value) : Prop := ∃ (Cn : String) (T : u_T) (ty : Nat → FieldType), vwCl[ci]? = some (Cn, T, n) ∧ (∀ w ∈ u_ws Cn T n, w ∈ TB) ∧ (∀ k, k < n → parseFieldDescriptor (T k).2.2.1 = some (ty k)) ∧ Cond.classLink own idx Cn ∈ TB ∧ Cond.instantiable Cn n ∈ TB ∧ Cond.initialized Cn ∈ TB ∧ (∀ j, j < n → defaultValue (ty j) = vp_V fs j) ∧ (∀ v ∈ fs, v = .null ∨ v = .int 0 ∨ v = .long 0)
theorem g_new (C : EV x cc own N rm) {idx ci n : Nat} {fs : List Value} (F : NC own idx ci n fs) (hc1 : cells + 1 ≤ rm.cells) (hs1 : slots + n ≤ rm.slots) (d : decode cc pc = .ok (.new idx, 3)) (kk : GG x (cells + 1) (slots + n) (h ++ [pO ci fs]) (pc + 3) lv (.ref h.length :: st)) : GG x cells slots h pc lv st := by
  obtain ⟨Cn, T, ty, hc, hin, hty, hcl, hins, hini, hfs, hdv⟩ := F
  intro ad H locs ls h1 h2 h3 h4 hP hD hS hl
  have hv : fs.map (vv ad) = fs := by
    have : ∀ (l : List Value), (∀ v ∈ l, v = .null ∨ v = .int 0 ∨ v = .long 0) → l.map (vv ad) = l := by
      intro l
      induction l with
      | nil => intro _; rfl
      | cons a l ih =>
        intro hq
        rw [List.map_cons, ih (fun v hv => hq v (List.mem_cons_of_mem _ hv))]
        rcases hq a List.mem_cons_self with rfl | rfl | rfl <;> rfl
    exact this fs hdv
  have hwc : wfc h.length (pO ci fs) := by
    intro v hv k e
    rcases hdv v hv with z | z | z <;> (rw [z] at e; cases e)
  refine va_new C.hx C.hb C.ht hin ty hty C.ho (C.ht _ hcl) (C.ht _ hins) (C.ht _ hini) C.hK hP hD hS C.hA hc hfs (by rw [C.hR]; exact hc1) (by rw [C.hR]; exact hs1) d (fun q H1 hP1 hD1 hS1 => ?_)
  have ec : cv x.2.2.1.2.1 ad (pO ci fs) = .inr (ci, fs) := by show Sum.inr (ci, fs.map (vv ad)) = _; rw [hv]
  rw [← ec] at hP1 hD1
  exact g_push h1 h2 h3 h4 hwc hP1 hD1 hS1 hl kk
theorem ar_tag (C : EV x cc own N rm) {t : Nat} {ty : FieldType} {cA : ClassId} (hp : ty = .byte ∨ ty = .int ∨ ty = .long) (ht : (tysOf x.2.2.1.2.1)[t]? = some (x.2.2.1.2.1 t, ty)) (hK : va_K x.2.2.1.1 vwCl (tysOf x.2.2.1.2.1 ++ [(cA, ty)]) x.1.2.2.2.2) : cA = x.2.2.1.2.1 t := by
  have h1 := (C.hK.2 t _ ht).2
  have h2 := (hK.2 6 (cA, ty) rfl).2
  rcases hp with rfl | rfl | rfl <;> exact Option.some.inj (h2.symm.trans h1)
theorem g_newB (C : EV x cc own N rm) {n : Int32} {n' : Nat} (hn : ¬ n < 0) (hN : n.toNatClampNeg = n') (hb : n' ≤ 65536) (hw : Cond.arrayClass .byte ∈ TB) (hc1 : cells + 1 ≤ rm.cells) (hs1 : slots + n' ≤ rm.slots) (d : decode cc pc = .ok (.newarray .byte, 2)) (kk : GG x (cells + 1) (slots + n') (h ++ [pB n' (fun _ => 0)]) (pc + 2) lv (.ref h.length :: st)) : GG x cells slots h pc lv (.int n :: st) := by
  intro ad H locs ls h1 h2 h3 h4 hP hD hS hl
  refine va_newa (a0 := (n', .inl (fun _ => 0))) (atype := .byte) (ty := .byte) C.hx C.hb (C.ht _ hw) rfl C.hK hP hD hS C.hA (fun _ => rfl) hn hN (by show n' * 1 ≤ _; omega) (by rw [C.hR]; exact hc1) (by rw [C.hR]; exact hs1) d (fun q cA H1 hK1 hP1 hD1 hS1 => ?_)
  have et := ar_tag C (t := 0) (Or.inl rfl) rfl hK1
  subst et
  exact g_push (c := pB n' (fun _ => 0)) h1 (wfs_t h2) h3 h4 trivial hP1 hD1 hS1 hl kk
theorem g_newI (C : EV x cc own N rm) {n : Int32} {n' : Nat} (hn : ¬ n < 0) (hN : n.toNatClampNeg = n') (hb : n' ≤ 65536) (hw : Cond.arrayClass .int ∈ TB) (hc1 : cells + 1 ≤ rm.cells) (hs1 : slots + n' ≤ rm.slots) (d : decode cc pc = .ok (.newarray .int, 2)) (kk : GG x (cells + 1) (slots + n') (h ++ [pI n' (fun _ => 0)]) (pc + 2) lv (.ref h.length :: st)) : GG x cells slots h pc lv (.int n :: st) := by
  intro ad H locs ls h1 h2 h3 h4 hP hD hS hl
  refine va_newa (a0 := (n', .inl (fun _ => 0))) (atype := .int) (ty := .int) C.hx C.hb (C.ht _ hw) rfl C.hK hP hD hS C.hA (fun _ => rfl) hn hN (by show n' * 4 ≤ _; omega) (by rw [C.hR]; exact hc1) (by rw [C.hR]; exact hs1) d (fun q cA H1 hK1 hP1 hD1 hS1 => ?_)
  have et := ar_tag C (t := 1) (Or.inr (Or.inl rfl)) rfl hK1
  subst et
  exact g_push (c := pI n' (fun _ => 0)) h1 (wfs_t h2) h3 h4 trivial hP1 hD1 hS1 hl kk
theorem g_newJ (C : EV x cc own N rm) {n : Int32} {n' : Nat} (hn : ¬ n < 0) (hN : n.toNatClampNeg = n') (hb : n' ≤ 65536) (hw : Cond.arrayClass .long ∈ TB) (hc1 : cells + 1 ≤ rm.cells) (hs1 : slots + n' ≤ rm.slots) (d : decode cc pc = .ok (.newarray .long, 2)) (kk : GG x (cells + 1) (slots + n') (h ++ [pJ n' (fun _ => 0)]) (pc + 2) lv (.ref h.length :: st)) : GG x cells slots h pc lv (.int n :: st) := by
  intro ad H locs ls h1 h2 h3 h4 hP hD hS hl
  refine va_newa (a0 := (n', .inr (.inl (fun _ => 0)))) (atype := .long) (ty := .long) C.hx C.hb (C.ht _ hw) rfl C.hK hP hD hS C.hA (fun _ => rfl) hn hN (by show n' * 8 ≤ _; omega) (by rw [C.hR]; exact hc1) (by rw [C.hR]; exact hs1) d (fun q cA H1 hK1 hP1 hD1 hS1 => ?_)
  have et := ar_tag C (t := 2) (Or.inr (Or.inr rfl)) rfl hK1
  subst et
  exact g_push (c := pJ n' (fun _ => 0)) h1 (wfs_t h2) h3 h4 trivial hP1 hD1 hS1 hl kk
end GF
end
section
/-! CONTRACTS over the pure heap, and calls -/
def PRE (D : va_G) (tg : Nat → ClassId) (ad : AD) (sz : Nat) (h : HP) (pa : List Value) : Array Value → State → Prop := va_Pc (pa.map (vv ad)) (fun U => U.heap.size = sz ∧ wfh h ∧ wfs h.length pa ∧ va_P D vwCl (wd tg ad h) U.heap ∧ va_K D vwCl (tysOf tg) U ∧ va_D (fun _ => True) (wd tg ad h) ∧ NW U ∧ ST ad.2 (va_A (wd tg ad h) sz) U)
def POST (D : va_G) (tg : Nat → ClassId) (ad : AD) (sz : Nat) (h : HP) (r : Option Value) (h' : HP) : Array Value → State → Outcome → State → Prop := fun _ st oc t => (∃ ad' : AD, ad'.2 = ad.2 ∧ (∀ k, k < h.length → ad'.1 k = ad.1 k) ∧ h.length ≤ h'.length ∧ oc = .returned (r.map (vv ad')) ∧ wfh h' ∧ wfs h'.length r.toList ∧ va_P D vwCl (wd tg ad' h') t.heap ∧ va_D (va_A (wd tg ad h) sz) (wd tg ad' h')) ∧ va_F (va_A (wd tg ad h) sz) st t
def MP (l : Launch) (y : MethodName) (ws : List Cond) (rm : Room) (h : HP) (pa : List Value) (r : Option Value) (h' : HP) : Prop := ∀ (D : va_G) (tg : Nat → ClassId) (ad : AD) (sz : Nat), Met l y ws rm (PRE D tg ad sz h pa) (POST D tg ad sz h r h') rm.cells rm.slots (va_A (wd tg ad h) sz)
/-- the end of the body that is walked: what it returns, over which heap -/
def CT (x : CX) (ret : Option FieldType) (rm : Room) (h0 : HP) (r : Option Value) (h' : HP) : Prop :=
  x.2.1.2.2.2.1.sig.returnType = ret ∧ x.2.1.2.2.2.1.locks = false ∧ x.2.2.1.2.2.1 = va_A (wd x.2.2.1.2.1 x.2.2.2.2.1 h0) x.1.2.2.2.2.heap.size ∧ x.2.2.2.1 = h0.length ∧ x.2.2.2.2.2 = MQ x.2.1.2.2.1 (POST x.2.2.1.1 x.2.2.1.2.1 x.2.2.2.2.1 x.1.2.2.2.2.heap.size h0 r h') x.2.1.2.1 x.1.2.2.2.2 rm.cells rm.slots x.2.2.1.2.2.1
theorem lv_args_map (ad : AD) : ∀ (i : Nat) (vs : List Value), lv_args i (vs.map (vv ad)) = lm ad (lv_args i vs)
  | _, [] => rfl
  | i, v :: vs => by
    show (i, vv ad v) :: lv_args (if (vv ad v).category = 2 then i + 2 else i + 1) (vs.map (vv ad)) = (i, vv ad v) :: lm ad (lv_args (if v.category = 2 then i + 2 else i + 1) vs)
    rw [vv_cat', lv_args_map ad _ vs]
theorem lg_sl_map (ad : AD) : ∀ (vs : List Value), (lg_sl (vs.map (vv ad))).length = (lg_sl vs).length
  | [] => rfl
  | v :: vs => by
    have ih := lg_sl_map ad vs
    simp only [lg_sl, List.map_cons, List.flatMap_cons, List.length_append] at ih ⊢
    rw [ih, vv_cat']
    congr 1
    split <;> rfl
theorem wfl_args {n : Nat} : ∀ (i : Nat) {vs : List Value}, wfs n vs → wfl n (lv_args i vs)
  | _, [], _ => fun _ h => by cases h
  | i, v :: vs, h => wfl_c (wfs_h h) (wfl_args _ (wfs_t h))
theorem MP_intro {l : Launch} {y : MethodName} {cc : ByteArray} {N : Nat} {ret : Option FieldType} {rm : Room} {h h' : HP} {pa : List Value} {r : Option Value} (hy : plainName y.cls = true) (hN : (lg_sl pa).length ≤ N)
    (body : ∀ x : CX, x.1.2.1 = l → EV x cc y.cls N rm → CT x ret rm h r h' → x.2.1.2.2.2.1.name = y.name → GG x 0 0 h 0 (lv_args 0 pa) []) : MP l y (Cond.code y cc N ret :: TB) rm h pa r h' := by
  intro D tg ad sz
  refine Met.ofW (cc := cc) (maxL := N) (ret := ret) hy rfl ?_
  intro p e s m args below meth c s₁ B hml hv
  obtain ⟨rfl, hsz, hwf, hwa, hP, hK, hD0, hNW, hST⟩ := hv
  subst hsz
  have hD := hD0.self (sz := s.heap.size)
  have hts := atoms_spec (ws := Cond.code y cc N ret :: TB) B.pre
  have hl := lv_entry (pa.map (vv ad)) (n := N) (by rw [lg_sl_map]; exact hN)
  rw [lv_args_map] at hl
  rw [lg_entry_eq]
  generalize (lg_sl (pa.map (vv ad)) ++ List.replicate (N - (lg_sl (pa.map (vv ad))).length) Slot.unset).toArray = ls at hl ⊢
  exact body ((p, l, e, rm, s), (m, (pa.map (vv ad)).toArray, below, meth, c), (D, tg, va_A (wd tg ad h) s.heap.size, N), (h.length, ad, MQ below (POST D tg ad s.heap.size h r h') (pa.map (vv ad)).toArray s rm.cells rm.slots (va_A (wd tg ad h) s.heap.size)))
    rfl ⟨B.exec, B.bytes, hml, rfl, findClass_of_methodNamed B.named, fun w hw => hts w (List.mem_cons_of_mem _ hw), hK, fun q hq => Or.inr hq, hNW, hST, rfl⟩ ⟨B.returns, B.notSynchronized, rfl, rfl, rfl⟩ (name_of_methodNamed B.named B.method).1 ad s.heap [] ls hwf wfs_0 (wfl_args 0 hwa) ⟨Nat.le_refl _, rfl, fun _ _ => rfl⟩ hP hD va_S.rf hl
section GC
variable {x : CX} {cc : ByteArray} {own : String} {N : Nat} {rm : Room} {cells slots pc : Nat} {h h0 h' : HP} {lv lv' : List (Nat × Value)} {st : List Value}
theorem ct_post {ret : Option FieldType} {r : Option Value} {ad : AD} {H : Heap} {locs : List Loc} (T : CT x ret rm h0 r h) (h1 : wfh h) (hr : wfs h.length r.toList) (h4 : x.2.2.2.1 ≤ h.length ∧ ad.2 = x.2.2.2.2.1.2 ∧ ∀ k, k < x.2.2.2.1 → ad.1 k = x.2.2.2.2.1.1 k)
    (hP : va_P x.2.2.1.1 vwCl (wd x.2.2.1.2.1 ad h) H) (hD : va_D x.2.2.1.2.2.1 (wd x.2.2.1.2.1 ad h)) (hS : va_S x.2.2.1.2.2.1 x.1.2.2.2.2.heap H locs) (t : State) (ht : t.heap = H) :
    POST x.2.2.1.1 x.2.2.1.2.1 x.2.2.2.2.1 x.1.2.2.2.2.heap.size h0 r h x.2.1.2.1 x.1.2.2.2.2 (.returned (r.map (vv ad))) t := by
  obtain ⟨-, -, hA, hn, -⟩ := T
  rw [hn] at h4
  rw [hA] at hD hS
  exact ⟨⟨ad, h4.2.1, h4.2.2, h4.1, rfl, h1, hr, by rw [ht]; exact hP, hD⟩, hS.F ht⟩
theorem g_ireturn (C : EV x cc own N rm) {ty : FieldType} {a : Int32} (T : CT x (some ty) rm h0 (some (.int a)) h) (hn : narrow ty (.int a) = .int a) (hc : cells ≤ rm.cells) (hs : slots ≤ rm.slots) (d : decode cc pc = .ok (.ireturn, 1)) : GG x cells slots h pc lv [.int a] := by
  intro ad H locs ls h1 h2 h3 h4 hP hD hS hl
  refine W.widen hc hs ?_
  rw [T.2.2.2.2]
  exact W.zret C.hx C.hb T.1 hn (fun t ht hW => ct_post T h1 h2 h4 hP hD hS t ht) hS.2.2 d (hlocks := T.2.1)
theorem g_lreturn (C : EV x cc own N rm) {a : Int64} (T : CT x (some .long) rm h0 (some (.long a)) h) (hc : cells ≤ rm.cells) (hs : slots ≤ rm.slots) (d : decode cc pc = .ok (.lreturn, 1)) : GG x cells slots h pc lv [.long a] := by
  intro ad H locs ls h1 h2 h3 h4 hP hD hS hl
  refine W.widen hc hs ?_
  rw [T.2.2.2.2]
  exact W.lret C.hx C.hb T.1 (fun t ht hW => ct_post T h1 h2 h4 hP hD hS t ht) hS.2.2 d (hlocks := T.2.1)
theorem g_vreturn (C : EV x cc own N rm) (T : CT x none rm h0 none h) (hc : cells ≤ rm.cells) (hs : slots ≤ rm.slots) (d : decode cc pc = .ok (.return_, 1)) : GG x cells slots h pc lv [] := by
  intro ad H locs ls h1 h2 h3 h4 hP hD hS hl
  refine W.widen hc hs ?_
  rw [T.2.2.2.2]
  exact W.vret C.hx C.hb T.1 (fun t ht hW => ct_post T h1 h2 h4 hP hD hS t ht) hS.2.2 d (hlocks := T.2.1)
/-- what a call needs of the tables -/
abbrev CD (own : String) (idx : Nat) (y : MethodName) (bytes : ByteArray) (maxL : Nat) (ret : Option FieldType) (n : Nat) : Prop :=
  Cond.code y bytes maxL ret ∈ TB ∧ Cond.initialized y.cls ∈ TB ∧ Cond.methodLink own idx y ∈ TB ∧ (y.cls ≠ "java/lang/invoke/MethodHandle" ∧ y.cls ≠ "java/lang/invoke/VarHandle" ∧ (parseMethodDescriptor y.desc).map (fun d => d.parameters.length) = some n)
abbrev FT (rm r2 : Room) (maxL cells slots : Nat) : Prop := r2.frames + 1 ≤ rm.frames ∧ 8 + (maxL + 11) + r2.locals ≤ rm.locals ∧ cells + r2.cells ≤ rm.cells ∧ slots + r2.slots ≤ rm.slots
theorem good_cons {y : MethodName} {bytes : ByteArray} {maxL : Nat} {ret : Option FieldType} (hc : Cond.code y bytes maxL ret ∈ TB) : GoodIn TB (Cond.code y bytes maxL ret :: TB) := by
  intro w hw
  rcases List.mem_cons.mp hw with z | z
  · rw [z]; exact goodTB _ hc
  · exact goodTB _ z
theorem NW.moved {U V : State} (hW : U.WarmedH V.vm) (h : NW U) : NW V := by
  intro w hw
  have hz := h w hw
  rcases nestNB w hw with ⟨a, i, b, n, d, t, rfl⟩ | ⟨a, i, y, t, rfl⟩
  · exact va_Nw.warmF hW hz
  · exact va_Nw.warmM hW hz
theorem NW.same {U V : State} (e : U.vm = V.vm) (h : NW U) : NW V := by
  intro w hw
  refine va_Nw.same ?_ e (h w hw)
  rcases nestNB w hw with ⟨a, i, b, n, d, t, rfl⟩ | ⟨a, i, y, t, rfl⟩ <;> rfl
theorem ST.at {sa : Nat → Nat} {A B : Nat → Prop} {s U : State} {H : Heap} {locs : List Loc} (h : ST sa A s) (hS : va_S A s.heap H locs) (hU : U.heap = H) (hW : s.vm.Alike U.vm) (hB : ∀ q, B q → A q) : ST sa B U := by
  intro i hi
  obtain ⟨h1, h2⟩ := h i hi
  refine ⟨?_, ?_⟩
  · have := ((h1.kept (H1 := H) (fun a h3 h4 => hS.2.1 a h3 h4)).moved hW).narrow hB
    rw [hU]; exact this
  · have := ((h2.kept (H1 := H) (fun a h3 h4 => hS.2.1 a h3 h4)).moved hW).narrow hB
    rw [hU]; exact this
theorem PRE.blind {D : va_G} {tg : Nat → ClassId} {ad : AD} {sz : Nat} {pa : List Value} : FrameBlind (PRE D tg ad sz h pa) := by
  intro a U g mk q
  obtain ⟨q0, q1, q2, q3, q4, q5, q6, q7, q8⟩ := q
  exact ⟨q0, q1, q2, q3, q4, va_K.moved (u := U) (U := U.calling g mk a) (Vm.Alike.refl U.vm) q5, q6, NW.same (U := U) (V := U.calling g mk a) rfl q7, fun i hi => ⟨((q8 i hi).1).moved (U := U.calling g mk a) (Vm.Alike.refl U.vm), ((q8 i hi).2).moved (U := U.calling g mk a) (Vm.Alike.refl U.vm)⟩⟩
theorem pre_at (C : EV x cc own N rm) {ad : AD} {H : Heap} {locs : List Loc} {pa : List Value} (h1 : wfh h) (hpa : wfs h.length pa) (h4 : ad.2 = x.2.2.2.2.1.2) (hP : va_P x.2.2.1.1 vwCl (wd x.2.2.1.2.1 ad h) H) (hD : va_D x.2.2.1.2.2.1 (wd x.2.2.1.2.1 ad h)) (hS : va_S x.2.2.1.2.2.1 x.1.2.2.2.2.heap H locs)
    (hF : ∀ q, va_A (wd x.2.2.1.2.1 ad h) H.size q → x.2.2.1.2.2.1 q) (U : State) (hU : U.heap = H) (hW : x.1.2.2.2.2.WarmedH U.vm) : PRE x.2.2.1.1 x.2.2.1.2.1 ad H.size h pa (pa.map (vv ad)).toArray U := by
  refine ⟨rfl, by rw [hU], h1, hpa, by rw [hU]; exact hP, va_K.moved hW.alike C.hK, hD.weaken (fun _ _ _ _ => trivial), NW.moved hW C.hN, ?_⟩
  rw [h4]
  exact ST.at C.hS hS hU hW.alike hF
theorem wd_free (C : EV x cc own N rm) {ad : AD} {H : Heap} {locs : List Loc} (hD : va_D x.2.2.1.2.2.1 (wd x.2.2.1.2.1 ad h)) (hS : va_S x.2.2.1.2.2.1 x.1.2.2.2.2.heap H locs) : ∀ q, va_A (wd x.2.2.1.2.1 ad h) H.size q → x.2.2.1.2.2.1 q := by
  intro q hq
  rcases hq with ⟨k, e, hk⟩ | hq
  · exact hD.2 k _ hk
  · exact C.hA q (Nat.le_trans hS.1 hq)
/-- behind a call -/
theorem g_back {ad : AD} {H : Heap} {locs : List Loc} {ls : Array Slot} {st0 : List Value} {r : Option Value} {rc rs : Nat} {a : Array Value} (C : EV x cc own N rm) (h2 : wfs h.length st) (h3 : wfl h.length lv) (h4 : x.2.2.2.1 ≤ h.length ∧ ad.2 = x.2.2.2.2.1.2 ∧ ∀ k, k < x.2.2.2.1 → ad.1 k = x.2.2.2.2.1.1 k) (hD : va_D x.2.2.1.2.2.1 (wd x.2.2.1.2.1 ad h)) (hS : va_S x.2.2.1.2.2.1 x.1.2.2.2.2.heap H locs) (hl : lv_has ls x.2.2.1.2.2.2 (lm ad lv))
    (hr : va_Run x.1.1 x.1.2.1 x.1.2.2.1 x.1.2.2.2.1 x.1.2.2.2.2 x.2.1.1 x.2.1.2.1 x.2.1.2.2.1 x.2.1.2.2.2.1 x.2.1.2.2.2.2 H locs cells slots rc rs (F0 x.2.1.1 pc ls st0) (st.map (vv ad)) (POST x.2.2.1.1 x.2.2.1.2.1 ad H.size h r h' a) (va_A (wd x.2.2.1.2.1 ad h) H.size))
    (kk : GG x (cells + rc) (slots + rs) h' (pc + 3) lv (r.toList ++ st)) : W x.1.1 x.1.2.1 x.1.2.2.1 x.1.2.2.2.1 x.1.2.2.2.2 x.2.1.1 x.2.1.2.1 x.2.1.2.2.1 x.2.1.2.2.2.1 x.2.1.2.2.2.2 H locs cells slots x.2.2.2.2.2 (F0 x.2.1.1 pc ls st0) := by
  have hF := wd_free C hD hS
  intro T hT X
  obtain ⟨v, st₀, t, T', L, e0, X', hL, e1, e2, ⟨⟨ad', a2, a1, hle, hv, hw, hwr, hP', hD'⟩, hz, hk⟩, go⟩ := hr T hT X
  rw [e0] at hz hk
  have hv' : v = r.map (vv ad') := by injection hv
  subst hv'
  have hS' : va_S x.2.2.1.2.2.1 x.1.2.2.2.2.heap T'.heap (locs ++ L) := by
    refine ⟨Nat.le_trans hS.1 (by rw [e1]; exact hz), fun q g1 g2 => ?_, fun q hq => ?_⟩
    · rw [e1, hk q (Nat.lt_of_lt_of_le g1 hS.1) (fun z => g2 (hF q z))]
      exact hS.2.1 q g1 g2
    · rcases List.mem_append.mp hq with z | z
      · exact hS.2.2 q z
      · exact hF _ (hL q z)
  have hst : (r.toList ++ st).map (vv ad') = (r.map (vv ad')).toList ++ st.map (vv ad) := by
    rw [List.map_append, vs_agree a2 a1 h2]
    cases r <;> rfl
  have := kk ad' T'.heap (locs ++ L) ls hw (by
      intro z hz
      rcases List.mem_append.mp hz with y | y
      · exact hwr z y
      · exact wfv_up (h2 z y) hle) (wfl_up h3 hle) ⟨Nat.le_trans h4.1 hle, a2.trans h4.2.1, fun k hk => (a1 k (Nat.lt_of_lt_of_le hk h4.1)).trans (h4.2.2 k hk)⟩ (by rw [e1]; exact hP') (hD'.weaken (fun _ _ _ z => hF _ z)) hS' (by rw [lm_agree a2 a1 h3]; exact hl)
  obtain ⟨t2, b1, b2⟩ := this T' rfl X'
  rw [hst] at b1
  exact ⟨t2, go t2 b1, b2⟩
theorem g_callS (C : EV x cc own N rm) {l : Launch} {y : MethodName} {idx maxL n : Nat} {bytes : ByteArray} {ret : Option FieldType} {r2 : Room} {pa : List Value} {r : Option Value} {stk : List Value} (hl0 : x.1.2.1 = l) (M : MP l y (Cond.code y bytes maxL ret :: TB) r2 h pa r h') (cd : CD own idx y bytes maxL ret n) (hst : Cond.static y ∈ TB) (ft : FT rm r2 maxL cells slots) (e : stk = pa.reverse ++ st) (hn : pa.length = n) (hw : (st.map fun v => v.category).sum ≤ 8)
    (d : decode cc pc = .ok (.invokestatic idx, 3)) (kk : GG x (cells + r2.cells) (slots + r2.slots) h' (pc + 3) lv (r.toList ++ st)) : GG x cells slots h pc lv stk := by
  subst e
  subst hl0
  intro ad H locs ls h1 h2 h3 h4 hP hD hS hl
  have hpa : wfs h.length pa := fun v hv => h2 v (List.mem_append_left _ (List.mem_reverse.mpr hv))
  have hs2 : wfs h.length st := fun v hv => h2 v (List.mem_append_right _ hv)
  have hR := C.hR
  have run := va_runS (rest := st.map (vv ad)) (As := pa.map (vv ad)) (g := F0 x.2.1.1 pc ls ((pa.reverse ++ st).map (vv ad))) (locs := locs) (cells := cells) (slots := slots) (e := x.1.2.2.1) (below := x.2.1.2.2.1) (meth := x.2.1.2.2.2.1) (R := x.1.2.2.2.1) (nL := N) ⟨C.hx, C.hb, C.hm, C.ho, C.ht⟩ (M x.2.2.1.1 x.2.2.1.2.1 ad H.size)
    ⟨callB_of (Ts := TB) n C.ht (good_cons cd.1) rfl rfl rfl (C.ht _ cd.2.1) (C.ht _ cd.2.2.1) cd.2.2.2 (by rw [hR]; exact ⟨ft.1, ft.2.1⟩), C.ht _ hst⟩ ⟨PRE.blind, fun U hU hW => pre_at C h1 hpa h4.2.1 hP hD hS (wd_free C hD hS) U hU hW⟩ rfl (by rw [List.length_map]; exact hn) (by rw [← C.hn]; exact hl.1) (by rw [List.map_append, List.map_reverse]) (lv_room (by rw [List.map_map]; exact (by simpa [Function.comp_def, vv_cat'] using hw))) d (by rw [hR]; exact ft.2.2)
  exact g_back C hs2 h3 h4 hD hS hl run kk
theorem g_callV (C : EV x cc own N rm) {l : Launch} {y : MethodName} {idx maxL n ci k : Nat} {fs : List Value} {z : vw_C} {bytes : ByteArray} {ret : Option FieldType} {r2 : Room} {pa : List Value} {r : Option Value} {stk : List Value} (hl0 : x.1.2.1 = l) (M : MP l y (Cond.code y bytes maxL ret :: TB) r2 h (.ref k :: pa) r h') (cd : CD own idx y bytes maxL ret n) (hin : Cond.instanceMethod y ∈ TB) (hse : Cond.selects y.cls y y ∈ TB) (ho : h[k]? = some (pO ci fs)) (hc : vwCl[ci]? = some z) (hz : z.1 = y.cls) (ft : FT rm r2 maxL cells slots) (e : stk = pa.reverse ++ .ref k :: st) (hn : pa.length = n) (hw : (st.map fun v => v.category).sum ≤ 8)
    (d : decode cc pc = .ok (.invokevirtual idx, 3)) (kk : GG x (cells + r2.cells) (slots + r2.slots) h' (pc + 3) lv (r.toList ++ st)) : GG x cells slots h pc lv stk := by
  subst e
  subst hl0
  intro ad H locs ls h1 h2 h3 h4 hP hD hS hl
  have hpa : wfs h.length (.ref k :: pa) := fun v hv => by
    rcases List.mem_cons.mp hv with q | q
    · rw [q]; exact h2 _ (List.mem_append_right _ List.mem_cons_self)
    · exact h2 v (List.mem_append_left _ (List.mem_reverse.mpr q))
  have hs2 : wfs h.length st := fun v hv => h2 v (List.mem_append_right _ (List.mem_cons_of_mem _ hv))
  have hR := C.hR
  have run := va_runV (C := y.cls) (b := ad.1 k) (rest := st.map (vv ad)) (As := pa.map (vv ad)) (g := F0 x.2.1.1 pc ls ((pa.reverse ++ .ref k :: st).map (vv ad))) (locs := locs) (cells := cells) (slots := slots) (e := x.1.2.2.1) (below := x.2.1.2.2.1) (meth := x.2.1.2.2.2.1) (R := x.1.2.2.2.1) (nL := N) ⟨C.hx, C.hb, C.hm, C.ho, C.ht⟩ (M x.2.2.1.1 x.2.2.1.2.1 ad H.size)
    ⟨callB_of (Ts := TB) n C.ht (good_cons cd.1) rfl rfl rfl (C.ht _ cd.2.1) (C.ht _ cd.2.2.1) cd.2.2.2 (by rw [hR]; exact ⟨ft.1, ft.2.1⟩), C.ht _ hin, C.ht _ hse⟩ ⟨PRE.blind, by rw [← hz]; exact va_recv C.hK hP hc (wd_get ho), fun U hU hW => pre_at C h1 hpa h4.2.1 hP hD hS (wd_free C hD hS) U hU hW⟩ rfl (by rw [List.length_map]; exact hn) (by rw [← C.hn]; exact hl.1) (by rw [List.map_append, List.map_reverse]; rfl) (lv_room (by rw [List.map_map]; exact (by simpa [Function.comp_def, vv_cat'] using hw))) d (by rw [hR]; exact ft.2.2)
  exact g_back C hs2 h3 h4 hD hS hl run kk
theorem g_callI (C : EV x cc own N rm) {l : Launch} {y : MethodName} {idx maxL n k : Nat} {bytes : ByteArray} {r2 : Room} {pa : List Value} {r : Option Value} {stk : List Value} (hl0 : x.1.2.1 = l) (M : MP l y (Cond.code y bytes maxL none :: TB) r2 h (.ref k :: pa) r h') (cd : CD own idx y bytes maxL none n) (hin : Cond.instanceMethod y ∈ TB) (hy : y.name = "<init>") (ft : FT rm r2 maxL cells slots) (e : stk = pa.reverse ++ .ref k :: st) (hn : pa.length = n) (hw : (st.map fun v => v.category).sum ≤ 8)
    (d : decode cc pc = .ok (.invokespecial idx, 3)) (kk : GG x (cells + r2.cells) (slots + r2.slots) h' (pc + 3) lv (r.toList ++ st)) : GG x cells slots h pc lv stk := by
  subst e
  subst hl0
  intro ad H locs ls h1 h2 h3 h4 hP hD hS hl
  have hpa : wfs h.length (.ref k :: pa) := fun v hv => by
    rcases List.mem_cons.mp hv with q | q
    · rw [q]; exact h2 _ (List.mem_append_right _ List.mem_cons_self)
    · exact h2 v (List.mem_append_left _ (List.mem_reverse.mpr q))
  have hs2 : wfs h.length st := fun v hv => h2 v (List.mem_append_right _ (List.mem_cons_of_mem _ hv))
  have hR := C.hR
  have run := va_runI (b := ad.1 k) (rest := st.map (vv ad)) (As := pa.map (vv ad)) (g := F0 x.2.1.1 pc ls ((pa.reverse ++ .ref k :: st).map (vv ad))) (locs := locs) (cells := cells) (slots := slots) (e := x.1.2.2.1) (below := x.2.1.2.2.1) (meth := x.2.1.2.2.2.1) (R := x.1.2.2.2.1) (nL := N) ⟨C.hx, C.hb, C.hm, C.ho, C.ht⟩ (M x.2.2.1.1 x.2.2.1.2.1 ad H.size)
    ⟨callB_of (Ts := TB) n C.ht (good_cons cd.1) rfl rfl rfl (C.ht _ cd.2.1) (C.ht _ cd.2.2.1) cd.2.2.2 (by rw [hR]; exact ⟨ft.1, ft.2.1⟩), hy, C.ht _ hin⟩ ⟨PRE.blind, fun U hU hW => pre_at C h1 hpa h4.2.1 hP hD hS (wd_free C hD hS) U hU hW⟩ rfl (by rw [List.length_map]; exact hn) (by rw [← C.hn]; exact hl.1) (by rw [List.map_append, List.map_reverse]; rfl) (lv_room (by rw [List.map_map]; exact (by simpa [Function.comp_def, vv_cat'] using hw))) d (by rw [hR]; exact ft.2.2)
  exact g_back C hs2 h3 h4 hD hS hl run kk
abbrev CDN (own : String) (idx : Nat) (y : MethodName) (host : String) (bytes : ByteArray) (maxL : Nat) (ret : Option FieldType) (n : Nat) : Prop :=
  Cond.code y bytes maxL ret ∈ TB ∧ Cond.initialized y.cls ∈ TB ∧ Cond.methodLinkNest own idx y host ∈ NB ∧ (y.cls ≠ "java/lang/invoke/MethodHandle" ∧ y.cls ≠ "java/lang/invoke/VarHandle" ∧ (parseMethodDescriptor y.desc).map (fun d => d.parameters.length) = some n)
theorem g_callIN (C : EV x cc own N rm) {l : Launch} {y : MethodName} {host : String} {idx maxL n k : Nat} {bytes : ByteArray} {r2 : Room} {pa : List Value} {r : Option Value} {stk : List Value} (hl0 : x.1.2.1 = l) (M : MP l y (Cond.code y bytes maxL none :: TB) r2 h (.ref k :: pa) r h') (cd : CDN own idx y host bytes maxL none n) (hin : Cond.instanceMethod y ∈ TB) (hy : y.name = "<init>") (ft : FT rm r2 maxL cells slots) (e : stk = pa.reverse ++ .ref k :: st) (hn : pa.length = n) (hw : (st.map fun v => v.category).sum ≤ 8)
    (d : decode cc pc = .ok (.invokespecial idx, 3)) (kk : GG x (cells + r2.cells) (slots + r2.slots) h' (pc + 3) lv (r.toList ++ st)) : GG x cells slots h pc lv stk := by
  subst e
  subst hl0
  intro ad H locs ls h1 h2 h3 h4 hP hD hS hl
  have hpa : wfs h.length (.ref k :: pa) := fun v hv => by
    rcases List.mem_cons.mp hv with q | q
    · rw [q]; exact h2 _ (List.mem_append_right _ List.mem_cons_self)
    · exact h2 v (List.mem_append_left _ (List.mem_reverse.mpr q))
  have hs2 : wfs h.length st := fun v hv => h2 v (List.mem_append_right _ (List.mem_cons_of_mem _ hv))
  have hR := C.hR
  have run := va_runIN (b := ad.1 k) (rest := st.map (vv ad)) (As := pa.map (vv ad)) (g := F0 x.2.1.1 pc ls ((pa.reverse ++ .ref k :: st).map (vv ad))) (locs := locs) (cells := cells) (slots := slots) (e := x.1.2.2.1) (below := x.2.1.2.2.1) (meth := x.2.1.2.2.2.1) (R := x.1.2.2.2.1) (nL := N) ⟨C.hx, C.hb, C.hm, C.ho, C.ht⟩ (M x.2.2.1.1 x.2.2.1.2.1 ad H.size)
    ⟨va_cnB (Ts := TB) n C.ht (good_cons cd.1) rfl rfl rfl (C.hN _ cd.2.2.1) (C.ht _ cd.2.1) cd.2.2.2 (by rw [hR]; exact ⟨ft.1, ft.2.1⟩), hy, C.ht _ hin⟩ ⟨PRE.blind, fun U hU hW => pre_at C h1 hpa h4.2.1 hP hD hS (wd_free C hD hS) U hU hW⟩ rfl (by rw [List.length_map]; exact hn) (by rw [← C.hn]; exact hl.1) (by rw [List.map_append, List.map_reverse]; rfl) (lv_room (by rw [List.map_map]; exact (by simpa [Function.comp_def, vv_cat'] using hw))) d (by rw [hR]; exact ft.2.2)
  exact g_back C hs2 h3 h4 hD hS hl run kk
theorem g_objInit (C : EV x cc own N rm) {idx k : Nat} (h1w : Cond.methodLink own idx Lib.objectInit ∈ TB) (h2w : Cond.instanceMethod Lib.objectInit ∈ TB) (h3w : Cond.code Lib.objectInit ⟨#[0xb1]⟩ 1 none ∈ TB) (hf : 1 ≤ rm.frames) (hw : (st.map fun v => v.category).sum + 12 ≤ rm.locals) (d : decode cc pc = .ok (.invokespecial idx, 3)) (kk : GG x cells slots h (pc + 3) lv st) : GG x cells slots h pc lv (.ref k :: st) := by
  intro ad H locs ls h1 h2 h3 h4 hP hD hS hl
  refine W.objInit C.hx C.hb C.ho (C.ht _ h1w) (C.ht _ h2w) (C.ht _ h3w) rfl (by rw [C.hm, ← C.hn]; exact hl.1) rfl d (by rw [C.hR]; exact hf) ?_ (kk ad H locs ls h1 (wfs_t h2) h3 h4 hP hD hS hl)
  rw [C.hR]
  have : ((st.map (vv ad)).map fun v => v.category).sum = (st.map fun v => v.category).sum := by rw [List.map_map]; simp [Function.comp_def, vv_cat']
  show 2 * 0 + ((st.map (vv ad)).map fun v => v.category).sum + 12 ≤ _
  omega
end GC
end
section
/-! MORE ROWS: references in arrays, copies, made things by their equations -/
def bnd2 {α β γ : Type} (a : Option (α × β)) (k : α → β → Option γ) : Option γ := match a with
  | some (x, y) => k x y
  | none => none
theorem of_bnd2 {α β γ : Type} {a : Option (α × β)} {k : α → β → Option γ} {r : γ} (h : bnd2 a k = some r) : ∃ x y, a = some (x, y) ∧ k x y = some r := by
  cases a with
  | none => cases h
  | some q => exact ⟨q.1, q.2, rfl, h⟩
def ob {β : Type} (h : HP) (k ci : Nat) (K : Option β) : Option β := match h[k]? with
  | some (.inr (.inr (.inr (.inr (d, _))))) => if d = ci then K else none
  | _ => none
theorem of_ob {β : Type} {h : HP} {k ci : Nat} {K : Option β} {r : β} (e : ob h k ci K = some r) : ∃ fs, h[k]? = some (pO ci fs) ∧ K = some r := by
  unfold ob at e
  split at e
  · split at e
    · rename_i d fs hk hd
      subst hd
      exact ⟨fs, hk, e⟩
    · cases e
  · cases e
theorem nar_z {a : Int32} (h : a = 0 ∨ a = 1) : narrow .boolean (.int a) = .int a := by
  rcases h with rfl | rfl <;> rfl
def cpT (h : HP) (t : Nat) (sp : Int32) (b : Nat) (dp n : Int32) : Option HP := match h[b]? with
  | some (.inr (.inl (n1, g))) => if 7 ≤ t ∨ sp < 0 ∨ dp < 0 ∨ n < 0 ∨ (stab t).1 < sp.toNatClampNeg + n.toNatClampNeg ∨ n1 < dp.toNatClampNeg + n.toNatClampNeg then none else some (h.set b (pI n1 (va_cpy (stab t).2 g sp.toNatClampNeg dp.toNatClampNeg n.toNatClampNeg)))
  | _ => none
section GM
variable {x : CX} {cc : ByteArray} {own : String} {N : Nat} {rm : Room} {cells slots pc : Nat} {h h' : HP} {lv lv' : List (Nat × Value)} {st : List Value}
theorem g_aaload (C : EV x cc own N rm) {k t a : Nat} {i : Int32} (ht : 3 ≤ t ∧ t < 6) (e : ldR h k t i = some a) (d : decode cc pc = .ok (.aaload, 1)) (kk : GG x cells slots h (pc + 1) lv (.ref a :: st)) : GG x cells slots h pc lv (.int i :: .ref k :: st) := by
  obtain ⟨n, f, hk, hin, hf⟩ := ldR_of e
  intro ad H locs ls h1 h2 h3 h4 hP hD hS hl
  have hlt : i.toNatClampNeg < n := Nat.not_le.mp fun q => hin (Or.inr q)
  have hz : ∃ ty : FieldType, ty.isReference = true ∧ (tysOf x.2.2.1.2.1)[t]? = some (x.2.2.1.2.1 t, ty) := by
    match t, ht with
    | 3, _ => exact ⟨_, rfl, rfl⟩
    | 4, _ => exact ⟨_, rfl, rfl⟩
    | 5, _ => exact ⟨_, rfl, rfl⟩
  obtain ⟨ty, hr, hty⟩ := hz
  have hwf : ∀ j q, f j = some q → q < h.length := h1 _ (List.mem_of_getElem? hk)
  refine W.aald (v := .ref (ad.1 a)) (ty := ty) C.hx C.hb (hP k _ (wd_get hk)) ((C.hK.2 t _ hty).1 n (fun j => va_rf ((f j).map ad.1))) hr (fun q => by cases q) (by show ¬ (i < 0 ∨ (arrV _ _ _).slots.size ≤ _); rw [arrV_size]; exact hin) (by show (arrV _ _ _).slots[_]? = _; rw [arrV_read _ _ hlt]; show some (va_rf ((f i.toNatClampNeg).map ad.1)) = _; rw [hf]; rfl) rfl rfl d (kk ad H locs ls h1 (wfs_c (wfv_r (hwf _ _ hf)) (wfs_t (wfs_t h2))) h3 h4 hP hD hS hl)
theorem cpB_of {a b : Nat} {sp dp n : Int32} (e : cpB h a sp b dp n = some h') : ∃ n0 f n1 g, h[a]? = some (pB n0 f) ∧ h[b]? = some (pB n1 g) ∧ ¬ sp < 0 ∧ ¬ dp < 0 ∧ ¬ n < 0 ∧ sp.toNatClampNeg + n.toNatClampNeg ≤ n0 ∧ dp.toNatClampNeg + n.toNatClampNeg ≤ n1 ∧ h' = h.set b (pB n1 (va_cpy f g sp.toNatClampNeg dp.toNatClampNeg n.toNatClampNeg)) := by
  unfold cpB at e
  split at e
  · split at e
    · cases e
    · rename_i n0 f n1 g ha hb hc
      exact ⟨n0, f, n1, g, ha, hb, fun z => hc (Or.inl z), fun z => hc (Or.inr (Or.inl z)), fun z => hc (Or.inr (Or.inr (Or.inl z))), Nat.le_of_not_lt fun z => hc (Or.inr (Or.inr (Or.inr (Or.inl z)))), Nat.le_of_not_lt fun z => hc (Or.inr (Or.inr (Or.inr (Or.inr z)))), (Option.some.inj e).symm⟩
  · cases e
theorem cpJ_of {a b : Nat} {sp dp n : Int32} (e : cpJ h a sp b dp n = some h') : ∃ n0 f n1 g, h[a]? = some (pJ n0 f) ∧ h[b]? = some (pJ n1 g) ∧ ¬ sp < 0 ∧ ¬ dp < 0 ∧ ¬ n < 0 ∧ sp.toNatClampNeg + n.toNatClampNeg ≤ n0 ∧ dp.toNatClampNeg + n.toNatClampNeg ≤ n1 ∧ h' = h.set b (pJ n1 (va_cpy f g sp.toNatClampNeg dp.toNatClampNeg n.toNatClampNeg)) := by
  unfold cpJ at e
  split at e
  · split at e
    · cases e
    · rename_i n0 f n1 g ha hb hc
      exact ⟨n0, f, n1, g, ha, hb, fun z => hc (Or.inl z), fun z => hc (Or.inr (Or.inl z)), fun z => hc (Or.inr (Or.inr (Or.inl z))), Nat.le_of_not_lt fun z => hc (Or.inr (Or.inr (Or.inr (Or.inl z)))), Nat.le_of_not_lt fun z => hc (Or.inr (Or.inr (Or.inr (Or.inr z)))), (Option.some.inj e).symm⟩
  · cases e
theorem by_cpy (f g : Nat → Int8) (a b n : Nat) : va_cpy (fun j => (f j).toInt32) (fun j => (g j).toInt32) a b n = fun j => (va_cpy f g a b n j).toInt32 := by
  funext j
  unfold va_cpy
  split <;> rfl
theorem by_fits (z : Int8) : fits .byte (.int z.toInt32) = true := by
  have := pk_fb z.toInt32
  simpa using this
theorem st_cat (ad : AD) (st : List Value) : ((st.map (vv ad)).map fun v => v.category).sum = (st.map fun v => v.category).sum := by
  rw [List.map_map]; simp [Function.comp_def, vv_cat']
theorem g_copyB (C : EV x cc own N rm) {idx a b : Nat} {sp dp n : Int32} (e : cpB h a sp b dp n = some h') (w : Cond.methodLink own idx arraycopyName ∈ TB) (hf : 1 ≤ rm.frames) (hw : (st.map fun v => v.category).sum + (nativeFrameWords "java/lang/System" "arraycopy" 5 + 11) ≤ rm.locals) (d : decode cc pc = .ok (.invokestatic idx, 3)) (kk : GG x cells slots h' (pc + 3) lv st) : GG x cells slots h pc lv (.int n :: .int dp :: .ref b :: .int sp :: .ref a :: st) := by
  obtain ⟨n0, f, n1, g, ha, hb, c1, c2, c3, c4, c5, rfl⟩ := cpB_of e
  intro ad H locs ls h1 h2 h3 h4 hP hD hS hl
  refine va_copyi C.hx C.hb (by rw [C.hm, ← C.hn]; exact hl.1.symm) C.ho (C.ht _ w) (C.ht _ kw_an) (C.ht _ kw_as) (C.ht _ kw_ai) C.hK hP hD hS a b 0 0 (wd_get ha) (wd_get hb) rfl rfl rfl c1 c2 c3 c4 c5 (fun i hi => by_fits _) (by rw [C.hR]; exact hf) (by rw [st_cat, C.hR]; exact hw) d (fun H1 locs1 hP1 hD1 hS1 => ?_)
  rw [by_cpy] at hP1 hD1
  have e2 := wd_set (tg := x.2.2.1.2.1) (ad := ad) (h := h) (k := b) (c := pB n1 (va_cpy f g sp.toNatClampNeg dp.toNatClampNeg n.toNatClampNeg))
  have e3 : va_P x.2.2.1.1 vwCl (wd x.2.2.1.2.1 ad (h.set b (pB n1 (va_cpy f g sp.toNatClampNeg dp.toNatClampNeg n.toNatClampNeg)))) H1 := by rw [← e2]; exact hP1
  have e4 : va_D x.2.2.1.2.2.1 (wd x.2.2.1.2.1 ad (h.set b (pB n1 (va_cpy f g sp.toNatClampNeg dp.toNatClampNeg n.toNatClampNeg)))) := by rw [← e2]; exact hD1
  exact kk ad H1 locs1 ls (wfh_set h1 trivial) (by rw [List.length_set]; exact wfs_t (wfs_t (wfs_t (wfs_t (wfs_t h2))))) (by rw [List.length_set]; exact h3) (by rw [List.length_set]; exact h4) e3 e4 hS1 hl
theorem g_copyJ (C : EV x cc own N rm) {idx a b : Nat} {sp dp n : Int32} (e : cpJ h a sp b dp n = some h') (w : Cond.methodLink own idx arraycopyName ∈ TB) (hf : 1 ≤ rm.frames) (hw : (st.map fun v => v.category).sum + (nativeFrameWords "java/lang/System" "arraycopy" 5 + 11) ≤ rm.locals) (d : decode cc pc = .ok (.invokestatic idx, 3)) (kk : GG x cells slots h' (pc + 3) lv st) : GG x cells slots h pc lv (.int n :: .int dp :: .ref b :: .int sp :: .ref a :: st) := by
  obtain ⟨n0, f, n1, g, ha, hb, c1, c2, c3, c4, c5, rfl⟩ := cpJ_of e
  intro ad H locs ls h1 h2 h3 h4 hP hD hS hl
  refine va_copyl C.hx C.hb (by rw [C.hm, ← C.hn]; exact hl.1.symm) C.ho (C.ht _ w) (C.ht _ kw_an) (C.ht _ kw_as) (C.ht _ kw_ai) C.hK hP hD hS a b 2 2 (wd_get ha) (wd_get hb) rfl rfl rfl c1 c2 c3 c4 c5 (fun i hi => rfl) (by rw [C.hR]; exact hf) (by rw [st_cat, C.hR]; exact hw) d (fun H1 locs1 hP1 hD1 hS1 => ?_)
  have e2 := wd_set (tg := x.2.2.1.2.1) (ad := ad) (h := h) (k := b) (c := pJ n1 (va_cpy f g sp.toNatClampNeg dp.toNatClampNeg n.toNatClampNeg))
  have e3 : va_P x.2.2.1.1 vwCl (wd x.2.2.1.2.1 ad (h.set b (pJ n1 (va_cpy f g sp.toNatClampNeg dp.toNatClampNeg n.toNatClampNeg)))) H1 := by rw [← e2]; exact hP1
  have e4 : va_D x.2.2.1.2.2.1 (wd x.2.2.1.2.1 ad (h.set b (pJ n1 (va_cpy f g sp.toNatClampNeg dp.toNatClampNeg n.toNatClampNeg)))) := by rw [← e2]; exact hD1
  exact kk ad H1 locs1 ls (wfh_set h1 trivial) (by rw [List.length_set]; exact wfs_t (wfs_t (wfs_t (wfs_t (wfs_t h2))))) (by rw [List.length_set]; exact h3) (by rw [List.length_set]; exact h4) e3 e4 hS1 hl
end GM
section GN
variable {x : CX} {cc : ByteArray} {own : String} {N : Nat} {rm : Room} {cells slots pc : Nat} {h h' : HP} {lv lv' : List (Nat × Value)} {st : List Value}
theorem g_newE (C : EV x cc own N rm) {idx ci n k : Nat} {fs : List Value} (F : NC own idx ci n fs) (eh : h' = h ++ [pO ci fs]) (ek : k = h.length) (hc1 : cells + 1 ≤ rm.cells) (hs1 : slots + n ≤ rm.slots) (d : decode cc pc = .ok (.new idx, 3)) (kk : GG x (cells + 1) (slots + n) h' (pc + 3) lv (.ref k :: st)) : GG x cells slots h pc lv st := by
  subst eh; subst ek; exact g_new C F hc1 hs1 d kk
theorem g_newBE (C : EV x cc own N rm) {n : Int32} {n' k : Nat} (eh : h' = h ++ [pB n' (fun _ => 0)]) (ek : k = h.length) (hn : ¬ n < 0) (hN : n.toNatClampNeg = n') (hb : n' ≤ 65536) (hc1 : cells + 1 ≤ rm.cells) (hs1 : slots + n' ≤ rm.slots) (d : decode cc pc = .ok (.newarray .byte, 2)) (kk : GG x (cells + 1) (slots + n') h' (pc + 2) lv (.ref k :: st)) : GG x cells slots h pc lv (.int n :: st) := by
  subst eh; subst ek; exact g_newB C hn hN hb kw_cb hc1 hs1 d kk
theorem g_newIE (C : EV x cc own N rm) {n : Int32} {n' k : Nat} (eh : h' = h ++ [pI n' (fun _ => 0)]) (ek : k = h.length) (hn : ¬ n < 0) (hN : n.toNatClampNeg = n') (hb : n' ≤ 65536) (hc1 : cells + 1 ≤ rm.cells) (hs1 : slots + n' ≤ rm.slots) (d : decode cc pc = .ok (.newarray .int, 2)) (kk : GG x (cells + 1) (slots + n') h' (pc + 2) lv (.ref k :: st)) : GG x cells slots h pc lv (.int n :: st) := by
  subst eh; subst ek; exact g_newI C hn hN hb kw_ci hc1 hs1 d kk
theorem g_newJE (C : EV x cc own N rm) {n : Int32} {n' k : Nat} (eh : h' = h ++ [pJ n' (fun _ => 0)]) (ek : k = h.length) (hn : ¬ n < 0) (hN : n.toNatClampNeg = n') (hb : n' ≤ 65536) (hc1 : cells + 1 ≤ rm.cells) (hs1 : slots + n' ≤ rm.slots) (d : decode cc pc = .ok (.newarray .long, 2)) (kk : GG x (cells + 1) (slots + n') h' (pc + 2) lv (.ref k :: st)) : GG x cells slots h pc lv (.int n :: st) := by
  subst eh; subst ek; exact g_newJ C hn hN hb kw_cj hc1 hs1 d kk
theorem g_putF (C : EV x cc own N rm) {idx ci j k : Nat} {v : Value} {ty : FieldType} (F : FP own idx ci j ty true) (hi : x.2.1.2.2.2.1.name = "<init>") (ho : (vwCl[ci]?.map (fun z => (z.2.1 j).1)) = some own) (e : pV h k ci j v = some h') (hn : ∀ ad, narrow ty (vv ad v) = vv ad v) (hf : ∀ ad, fits ty (vv ad v) = true) (d : decode cc pc = .ok (.putfield idx, 3)) (kk : GG x cells slots h' (pc + 3) lv st) : GG x cells slots h pc lv (v :: .ref k :: st) := g_putV C F (fun _ => ⟨hi, ho⟩) e (fun _ => trivial) hn hf d kk
theorem g_putR (C : EV x cc own N rm) {idx ci j k : Nat} {v : Value} {ty : FieldType} (F : FP own idx ci j ty false) (e : pV h k ci j v = some h') (hn : ∀ ad, narrow ty (vv ad v) = vv ad v) (hf : ∀ ad, fits ty (vv ad v) = true) (d : decode cc pc = .ok (.putfield idx, 3)) (kk : GG x cells slots h' (pc + 3) lv st) : GG x cells slots h pc lv (v :: .ref k :: st) := g_putV C F (fun z => by cases z) e (fun _ => trivial) hn hf d kk
end GN
def lnP (h : HP) (k : Nat) : Option Int32 := match h[k]? with
  | some (.inl (n, _)) => some (Int32.ofNat n)
  | some (.inr (.inl (n, _))) => some (Int32.ofNat n)
  | some (.inr (.inr (.inl (n, _)))) => some (Int32.ofNat n)
  | _ => none
theorem g_alenP {x : CX} {cc : ByteArray} {own : String} {N : Nat} {rm : Room} {cells slots pc : Nat} {h : HP} {lv : List (Nat × Value)} {st : List Value} (C : EV x cc own N rm) {k : Nat} {a : Int32} (e : lnP h k = some a) (d : decode cc pc = .ok (.arraylength, 1)) (kk : GG x cells slots h (pc + 1) lv (.int a :: st)) : GG x cells slots h pc lv (.ref k :: st) := by
  unfold lnP at e
  intro ad H locs ls h1 h2 h3 h4 hP hD hS hl
  have go := kk ad H locs ls h1 (wfs_c wfv_i (wfs_t h2)) h3 h4 hP hD hS hl
  split at e
  · rename_i n f hk
    exact va_alen C.hx C.hb C.hK hP k 0 (wd_get hk) rfl (Option.some.inj e) d go
  · rename_i n f hk
    exact va_alen C.hx C.hb C.hK hP k 1 (wd_get hk) rfl (Option.some.inj e) d go
  · rename_i n f hk
    exact va_alen C.hx C.hb C.hK hP k 2 (wd_get hk) rfl (Option.some.inj e) d go
  · cases e
end
section
abbrev b_Ar_fill_J : ByteArray := prog_22_method_101_code
abbrev y_Ar_fill_J : MethodName := ⟨"java/util/Arrays", "fill", "([JJ)V"⟩
theorem d_Ar_fill_J_0 : decode b_Ar_fill_J 0 = .ok (.iconst 0, 1) := by decide +kernel
theorem d_Ar_fill_J_1 : decode b_Ar_fill_J 1 = .ok (.istore_n 3, 1) := by decide +kernel
theorem d_Ar_fill_J_2 : decode b_Ar_fill_J 2 = .ok (.aload_n 0, 1) := by decide +kernel
theorem d_Ar_fill_J_3 : decode b_Ar_fill_J 3 = .ok (.arraylength, 1) := by decide +kernel
theorem d_Ar_fill_J_4 : decode b_Ar_fill_J 4 = .ok (.istore 4, 2) := by decide +kernel
theorem d_Ar_fill_J_6 : decode b_Ar_fill_J 6 = .ok (.iload_n 3, 1) := by decide +kernel
theorem d_Ar_fill_J_7 : decode b_Ar_fill_J 7 = .ok (.iload 4, 2) := by decide +kernel
theorem d_Ar_fill_J_9 : decode b_Ar_fill_J 9 = .ok (.if_icmp .ge 13, 3) := by decide +kernel
theorem d_Ar_fill_J_12 : decode b_Ar_fill_J 12 = .ok (.aload_n 0, 1) := by decide +kernel
theorem d_Ar_fill_J_13 : decode b_Ar_fill_J 13 = .ok (.iload_n 3, 1) := by decide +kernel
theorem d_Ar_fill_J_14 : decode b_Ar_fill_J 14 = .ok (.lload_n 1, 1) := by decide +kernel
theorem d_Ar_fill_J_15 : decode b_Ar_fill_J 15 = .ok (.lastore, 1) := by decide +kernel
theorem d_Ar_fill_J_16 : decode b_Ar_fill_J 16 = .ok (.iinc 3 1, 3) := by decide +kernel
theorem d_Ar_fill_J_19 : decode b_Ar_fill_J 19 = .ok (.goto (-13), 3) := by decide +kernel
theorem d_Ar_fill_J_22 : decode b_Ar_fill_J 22 = .ok (.return_, 1) := by decide +kernel
abbrev rm_Ar_fill_J : Room := { frames := 0, cells := 0, slots := 0, locals := 0 }
def B_Ar_fill_J_6 (K6 : HP → Nat → Int64 → Int32 → Int32 → Option (HP)) (h : HP) (a0 : Nat) (a1 : Int64) (a3 : Int32) (a4 : Int32) : Option (HP) :=
  if a4 ≤ a3 then
  some h
  else
  bnd (stJ h a0 a3 a1) fun h2 =>
  lt (a3 + Int32.ofInt 1) fun x3 =>
  K6 h2 a0 a1 x3 a4
set_option maxHeartbeats 4000000 in
set_option maxRecDepth 100000 in
theorem bk_Ar_fill_J_6 {l : Launch} {x : CX} {h0 h' : HP} (C : EV x b_Ar_fill_J "java/util/Arrays" 5 rm_Ar_fill_J) (T : CT x (none) rm_Ar_fill_J h0 none h') (hl0 : x.1.2.1 = l) (K6 : HP → Nat → Int64 → Int32 → Int32 → Option (HP)) (hK6 : ∀ (h : HP) (a0 : Nat) (a1 : Int64) (a3 : Int32) (a4 : Int32), K6 h a0 a1 a3 a4 = some h' → GG x 0 0 h 6 [(0, .ref a0), (1, .long a1), (3, .int a3), (4, .int a4)] []) (h : HP) (a0 : Nat) (a1 : Int64) (a3 : Int32) (a4 : Int32) (hr : B_Ar_fill_J_6 K6 h a0 a1 a3 a4 = some h') : GG x 0 0 h 6 [(0, .ref a0), (1, .long a1), (3, .int a3), (4, .int a4)] [] := by
  unfold B_Ar_fill_J_6 at hr
  refine g_iload_n C 2 rfl d_Ar_fill_J_6 rfl ?_
  refine g_iload C 3 rfl d_Ar_fill_J_7 ?_
  refine g_icmp_ge (tgt := 22) C d_Ar_fill_J_9 (by decide) (fun z => ?_) (fun z => ?_)
  · have hr := of_if z hr
    cases hr
    exact g_vreturn C T (by decide) (by decide) d_Ar_fill_J_22
  · have hr := of_el z hr
    refine g_aload_n C 0 rfl d_Ar_fill_J_12 rfl ?_
    refine g_iload_n C 2 rfl d_Ar_fill_J_13 rfl ?_
    refine g_lload_n C 1 rfl d_Ar_fill_J_14 rfl ?_
    obtain ⟨h2, eh2, hr⟩ := of_bnd hr
    refine g_lastore C eh2 d_Ar_fill_J_15 ?_
    obtain ⟨x3, ex3⟩ : ∃ z, z = a3 + Int32.ofInt 1 := ⟨_, rfl⟩
    have hr := of_lt ex3 hr
    refine g_iinc (lv' := [(3, .int x3), (0, .ref a0), (1, .long a1), (4, .int a4)]) C 2 rfl d_Ar_fill_J_16 ex3.symm (by decide) rfl ?_
    refine g_goto (tgt := 6) C d_Ar_fill_J_19 (by decide) ?_
    refine g_lv [1, 2, 0, 3] rfl ?_
    exact hK6 h2 a0 a1 x3 a4 hr
def L_Ar_fill_J_6 : Nat → HP → Nat → Int64 → Int32 → Int32 → Option (HP)
  | 0, _, _, _, _, _ => none
  | f + 1, h, a0, a1, a3, a4 => B_Ar_fill_J_6 (L_Ar_fill_J_6 f) h a0 a1 a3 a4
theorem lp_Ar_fill_J_6 {l : Launch} {x : CX} {h0 h' : HP} (C : EV x b_Ar_fill_J "java/util/Arrays" 5 rm_Ar_fill_J) (T : CT x (none) rm_Ar_fill_J h0 none h') (hl0 : x.1.2.1 = l) : ∀ (f : Nat) (h : HP) (a0 : Nat) (a1 : Int64) (a3 : Int32) (a4 : Int32), L_Ar_fill_J_6 f h a0 a1 a3 a4 = some h' → GG x 0 0 h 6 [(0, .ref a0), (1, .long a1), (3, .int a3), (4, .int a4)] [] := by
  intro f
  induction f with
  | zero => intro h a0 a1 a3 a4 hr; have hr : (none : Option (HP)) = some h' := hr; cases hr
  | succ f ih => intro h a0 a1 a3 a4 hr; exact bk_Ar_fill_J_6 C T hl0 (L_Ar_fill_J_6 f) ih h a0 a1 a3 a4 hr
def P_Ar_fill_J (h : HP) (p0 : Nat) (p1 : Int64) : Option (HP) :=
  bnd (lnP h p0) fun v1 =>
  L_Ar_fill_J_6 FU h p0 p1 0 v1
set_option maxHeartbeats 4000000 in
set_option maxRecDepth 100000 in
theorem c_Ar_fill_J {l : Launch} {h h' : HP} {p0 p1 : _} (hr : P_Ar_fill_J h p0 p1 = some h') : MP l y_Ar_fill_J (Cond.code y_Ar_fill_J b_Ar_fill_J 5 none :: TB) rm_Ar_fill_J h [.ref p0, .long p1] none h' := by
  refine MP_intro (cc := b_Ar_fill_J) (by decide) (Nat.le_of_ble_eq_true rfl) (fun x hl0 C T hin => ?_)
  unfold P_Ar_fill_J at hr
  show GG x 0 0 h 0 [(0, .ref p0), (1, .long p1)] []
  refine g_iconst (v := 0) C d_Ar_fill_J_0 (by decide) ?_
  refine g_istore_n (lv' := [(3, .int 0), (0, .ref p0), (1, .long p1)]) C d_Ar_fill_J_1 rfl (by decide) rfl ?_
  refine g_aload_n C 1 rfl d_Ar_fill_J_2 rfl ?_
  obtain ⟨v1, ev1, hr⟩ := of_bnd hr
  refine g_alenP C ev1 d_Ar_fill_J_3 ?_
  refine g_istore (lv' := [(4, .int v1), (3, .int 0), (0, .ref p0), (1, .long p1)]) C d_Ar_fill_J_4 (by decide) rfl ?_
  refine g_lv [2, 3, 1, 0] rfl ?_
  exact lp_Ar_fill_J_6 C T hl0 FU h p0 p1 0 v1 hr
abbrev b_Ar_fill_B : ByteArray := prog_22_method_109_code
abbrev y_Ar_fill_B : MethodName := ⟨"java/util/Arrays", "fill", "([BB)V"⟩
theorem d_Ar_fill_B_0 : decode b_Ar_fill_B 0 = .ok (.iconst 0, 1) := by decide +kernel
theorem d_Ar_fill_B_1 : decode b_Ar_fill_B 1 = .ok (.istore_n 2, 1) := by decide +kernel
theorem d_Ar_fill_B_2 : decode b_Ar_fill_B 2 = .ok (.aload_n 0, 1) := by decide +kernel
theorem d_Ar_fill_B_3 : decode b_Ar_fill_B 3 = .ok (.arraylength, 1) := by decide +kernel
theorem d_Ar_fill_B_4 : decode b_Ar_fill_B 4 = .ok (.istore_n 3, 1) := by decide +kernel
theorem d_Ar_fill_B_5 : decode b_Ar_fill_B 5 = .ok (.iload_n 2, 1) := by decide +kernel
theorem d_Ar_fill_B_6 : decode b_Ar_fill_B 6 = .ok (.iload_n 3, 1) := by decide +kernel
theorem d_Ar_fill_B_7 : decode b_Ar_fill_B 7 = .ok (.if_icmp .ge 13, 3) := by decide +kernel
theorem d_Ar_fill_B_10 : decode b_Ar_fill_B 10 = .ok (.aload_n 0, 1) := by decide +kernel
theorem d_Ar_fill_B_11 : decode b_Ar_fill_B 11 = .ok (.iload_n 2, 1) := by decide +kernel
theorem d_Ar_fill_B_12 : decode b_Ar_fill_B 12 = .ok (.iload_n 1, 1) := by decide +kernel
theorem d_Ar_fill_B_13 : decode b_Ar_fill_B 13 = .ok (.bastore, 1) := by decide +kernel
theorem d_Ar_fill_B_14 : decode b_Ar_fill_B 14 = .ok (.iinc 2 1, 3) := by decide +kernel
theorem d_Ar_fill_B_17 : decode b_Ar_fill_B 17 = .ok (.goto (-12), 3) := by decide +kernel
theorem d_Ar_fill_B_20 : decode b_Ar_fill_B 20 = .ok (.return_, 1) := by decide +kernel
abbrev rm_Ar_fill_B : Room := { frames := 0, cells := 0, slots := 0, locals := 0 }
def B_Ar_fill_B_5 (K5 : HP → Nat → Int32 → Int32 → Int32 → Option (HP)) (h : HP) (a0 : Nat) (a1 : Int32) (a2 : Int32) (a3 : Int32) : Option (HP) :=
  if a3 ≤ a2 then
  some h
  else
  bnd (stB h a0 a2 a1) fun h2 =>
  lt (a2 + Int32.ofInt 1) fun x3 =>
  K5 h2 a0 a1 x3 a3
set_option maxHeartbeats 4000000 in
set_option maxRecDepth 100000 in
theorem bk_Ar_fill_B_5 {l : Launch} {x : CX} {h0 h' : HP} (C : EV x b_Ar_fill_B "java/util/Arrays" 4 rm_Ar_fill_B) (T : CT x (none) rm_Ar_fill_B h0 none h') (hl0 : x.1.2.1 = l) (K5 : HP → Nat → Int32 → Int32 → Int32 → Option (HP)) (hK5 : ∀ (h : HP) (a0 : Nat) (a1 : Int32) (a2 : Int32) (a3 : Int32), K5 h a0 a1 a2 a3 = some h' → GG x 0 0 h 5 [(0, .ref a0), (1, .int a1), (2, .int a2), (3, .int a3)] []) (h : HP) (a0 : Nat) (a1 : Int32) (a2 : Int32) (a3 : Int32) (hr : B_Ar_fill_B_5 K5 h a0 a1 a2 a3 = some h') : GG x 0 0 h 5 [(0, .ref a0), (1, .int a1), (2, .int a2), (3, .int a3)] [] := by
  unfold B_Ar_fill_B_5 at hr
  refine g_iload_n C 2 rfl d_Ar_fill_B_5 rfl ?_
  refine g_iload_n C 3 rfl d_Ar_fill_B_6 rfl ?_
  refine g_icmp_ge (tgt := 20) C d_Ar_fill_B_7 (by decide) (fun z => ?_) (fun z => ?_)
  · have hr := of_if z hr
    cases hr
    exact g_vreturn C T (by decide) (by decide) d_Ar_fill_B_20
  · have hr := of_el z hr
    refine g_aload_n C 0 rfl d_Ar_fill_B_10 rfl ?_
    refine g_iload_n C 2 rfl d_Ar_fill_B_11 rfl ?_
    refine g_iload_n C 1 rfl d_Ar_fill_B_12 rfl ?_
    obtain ⟨h2, eh2, hr⟩ := of_bnd hr
    refine g_bastore C eh2 d_Ar_fill_B_13 ?_
    obtain ⟨x3, ex3⟩ : ∃ z, z = a2 + Int32.ofInt 1 := ⟨_, rfl⟩
    have hr := of_lt ex3 hr
    refine g_iinc (lv' := [(2, .int x3), (0, .ref a0), (1, .int a1), (3, .int a3)]) C 2 rfl d_Ar_fill_B_14 ex3.symm (by decide) rfl ?_
    refine g_goto (tgt := 5) C d_Ar_fill_B_17 (by decide) ?_
    refine g_lv [1, 2, 0, 3] rfl ?_
    exact hK5 h2 a0 a1 x3 a3 hr
def L_Ar_fill_B_5 : Nat → HP → Nat → Int32 → Int32 → Int32 → Option (HP)
  | 0, _, _, _, _, _ => none
  | f + 1, h, a0, a1, a2, a3 => B_Ar_fill_B_5 (L_Ar_fill_B_5 f) h a0 a1 a2 a3
theorem lp_Ar_fill_B_5 {l : Launch} {x : CX} {h0 h' : HP} (C : EV x b_Ar_fill_B "java/util/Arrays" 4 rm_Ar_fill_B) (T : CT x (none) rm_Ar_fill_B h0 none h') (hl0 : x.1.2.1 = l) : ∀ (f : Nat) (h : HP) (a0 : Nat) (a1 : Int32) (a2 : Int32) (a3 : Int32), L_Ar_fill_B_5 f h a0 a1 a2 a3 = some h' → GG x 0 0 h 5 [(0, .ref a0), (1, .int a1), (2, .int a2), (3, .int a3)] [] := by
  intro f
  induction f with
  | zero => intro h a0 a1 a2 a3 hr; have hr : (none : Option (HP)) = some h' := hr; cases hr
  | succ f ih => intro h a0 a1 a2 a3 hr; exact bk_Ar_fill_B_5 C T hl0 (L_Ar_fill_B_5 f) ih h a0 a1 a2 a3 hr
def P_Ar_fill_B (h : HP) (p0 : Nat) (p1 : Int32) : Option (HP) :=
  bnd (lnP h p0) fun v1 =>
  L_Ar_fill_B_5 FU h p0 p1 0 v1
set_option maxHeartbeats 4000000 in
set_option maxRecDepth 100000 in
theorem c_Ar_fill_B {l : Launch} {h h' : HP} {p0 p1 : _} (hr : P_Ar_fill_B h p0 p1 = some h') : MP l y_Ar_fill_B (Cond.code y_Ar_fill_B b_Ar_fill_B 4 none :: TB) rm_Ar_fill_B h [.ref p0, .int p1] none h' := by
  refine MP_intro (cc := b_Ar_fill_B) (by decide) (Nat.le_of_ble_eq_true rfl) (fun x hl0 C T hin => ?_)
  unfold P_Ar_fill_B at hr
  show GG x 0 0 h 0 [(0, .ref p0), (1, .int p1)] []
  refine g_iconst (v := 0) C d_Ar_fill_B_0 (by decide) ?_
  refine g_istore_n (lv' := [(2, .int 0), (0, .ref p0), (1, .int p1)]) C d_Ar_fill_B_1 rfl (by decide) rfl ?_
  refine g_aload_n C 1 rfl d_Ar_fill_B_2 rfl ?_
  obtain ⟨v1, ev1, hr⟩ := of_bnd hr
  refine g_alenP C ev1 d_Ar_fill_B_3 ?_
  refine g_istore_n (lv' := [(3, .int v1), (2, .int 0), (0, .ref p0), (1, .int p1)]) C d_Ar_fill_B_4 rfl (by decide) rfl ?_
  refine g_lv [2, 3, 1, 0] rfl ?_
  exact lp_Ar_fill_B_5 C T hl0 FU h p0 p1 0 v1 hr
abbrev b_Wo_put : ByteArray := prog_10_method_2_code
abbrev y_Wo_put : MethodName := ⟨"PrimeKeys$Words", "put", "(I[BI)V"⟩
theorem d_Wo_put_0 : decode b_Wo_put 0 = .ok (.aload_n 1, 1) := by decide +kernel
theorem d_Wo_put_1 : decode b_Wo_put 1 = .ok (.iload_n 2, 1) := by decide +kernel
theorem d_Wo_put_2 : decode b_Wo_put 2 = .ok (.iload_n 0, 1) := by decide +kernel
theorem d_Wo_put_3 : decode b_Wo_put 3 = .ok (.bipush 24, 2) := by decide +kernel
theorem d_Wo_put_5 : decode b_Wo_put 5 = .ok (.iushr, 1) := by decide +kernel
theorem d_Wo_put_6 : decode b_Wo_put 6 = .ok (.i2b, 1) := by decide +kernel
theorem d_Wo_put_7 : decode b_Wo_put 7 = .ok (.bastore, 1) := by decide +kernel
theorem d_Wo_put_8 : decode b_Wo_put 8 = .ok (.aload_n 1, 1) := by decide +kernel
theorem d_Wo_put_9 : decode b_Wo_put 9 = .ok (.iload_n 2, 1) := by decide +kernel
theorem d_Wo_put_10 : decode b_Wo_put 10 = .ok (.iconst 1, 1) := by decide +kernel
theorem d_Wo_put_11 : decode b_Wo_put 11 = .ok (.iadd, 1) := by decide +kernel
theorem d_Wo_put_12 : decode b_Wo_put 12 = .ok (.iload_n 0, 1) := by decide +kernel
theorem d_Wo_put_13 : decode b_Wo_put 13 = .ok (.bipush 16, 2) := by decide +kernel
theorem d_Wo_put_15 : decode b_Wo_put 15 = .ok (.iushr, 1) := by decide +kernel
theorem d_Wo_put_16 : decode b_Wo_put 16 = .ok (.i2b, 1) := by decide +kernel
theorem d_Wo_put_17 : decode b_Wo_put 17 = .ok (.bastore, 1) := by decide +kernel
theorem d_Wo_put_18 : decode b_Wo_put 18 = .ok (.aload_n 1, 1) := by decide +kernel
theorem d_Wo_put_19 : decode b_Wo_put 19 = .ok (.iload_n 2, 1) := by decide +kernel
theorem d_Wo_put_20 : decode b_Wo_put 20 = .ok (.iconst 2, 1) := by decide +kernel
theorem d_Wo_put_21 : decode b_Wo_put 21 = .ok (.iadd, 1) := by decide +kernel
theorem d_Wo_put_22 : decode b_Wo_put 22 = .ok (.iload_n 0, 1) := by decide +kernel
theorem d_Wo_put_23 : decode b_Wo_put 23 = .ok (.bipush 8, 2) := by decide +kernel
theorem d_Wo_put_25 : decode b_Wo_put 25 = .ok (.iushr, 1) := by decide +kernel
theorem d_Wo_put_26 : decode b_Wo_put 26 = .ok (.i2b, 1) := by decide +kernel
theorem d_Wo_put_27 : decode b_Wo_put 27 = .ok (.bastore, 1) := by decide +kernel
theorem d_Wo_put_28 : decode b_Wo_put 28 = .ok (.aload_n 1, 1) := by decide +kernel
theorem d_Wo_put_29 : decode b_Wo_put 29 = .ok (.iload_n 2, 1) := by decide +kernel
theorem d_Wo_put_30 : decode b_Wo_put 30 = .ok (.iconst 3, 1) := by decide +kernel
theorem d_Wo_put_31 : decode b_Wo_put 31 = .ok (.iadd, 1) := by decide +kernel
theorem d_Wo_put_32 : decode b_Wo_put 32 = .ok (.iload_n 0, 1) := by decide +kernel
theorem d_Wo_put_33 : decode b_Wo_put 33 = .ok (.i2b, 1) := by decide +kernel
theorem d_Wo_put_34 : decode b_Wo_put 34 = .ok (.bastore, 1) := by decide +kernel
theorem d_Wo_put_35 : decode b_Wo_put 35 = .ok (.return_, 1) := by decide +kernel
abbrev rm_Wo_put : Room := { frames := 0, cells := 0, slots := 0, locals := 0 }
def P_Wo_put (h : HP) (p0 : Int32) (p1 : Nat) (p2 : Int32) : Option (HP) :=
  bnd (stB h p1 p2 ((Int32.toInt8 ((p0.toUInt32 >>> (Int32.toUInt32 24 &&& Int32.toUInt32 31)).toInt32)).toInt32)) fun h1 =>
  bnd (stB h1 p1 (p2 + 1) ((Int32.toInt8 ((p0.toUInt32 >>> (Int32.toUInt32 16 &&& Int32.toUInt32 31)).toInt32)).toInt32)) fun h2 =>
  bnd (stB h2 p1 (p2 + 2) ((Int32.toInt8 ((p0.toUInt32 >>> (Int32.toUInt32 8 &&& Int32.toUInt32 31)).toInt32)).toInt32)) fun h3 =>
  bnd (stB h3 p1 (p2 + 3) ((Int32.toInt8 p0).toInt32)) fun h4 =>
  some h4
set_option maxHeartbeats 4000000 in
set_option maxRecDepth 100000 in
theorem c_Wo_put {l : Launch} {h h' : HP} {p0 p1 p2 : _} (hr : P_Wo_put h p0 p1 p2 = some h') : MP l y_Wo_put (Cond.code y_Wo_put b_Wo_put 3 none :: TB) rm_Wo_put h [.int p0, .ref p1, .int p2] none h' := by
  refine MP_intro (cc := b_Wo_put) (by decide) (Nat.le_of_ble_eq_true rfl) (fun x hl0 C T hin => ?_)
  unfold P_Wo_put at hr
  show GG x 0 0 h 0 [(0, .int p0), (1, .ref p1), (2, .int p2)] []
  refine g_aload_n C 1 rfl d_Wo_put_0 rfl ?_
  refine g_iload_n C 2 rfl d_Wo_put_1 rfl ?_
  refine g_iload_n C 0 rfl d_Wo_put_2 rfl ?_
  refine g_bipush (v := 24) C d_Wo_put_3 (by decide) ?_
  refine g_iushr C d_Wo_put_5 ?_
  refine g_i2b C d_Wo_put_6 ?_
  obtain ⟨h1, eh1, hr⟩ := of_bnd hr
  refine g_bastore C eh1 d_Wo_put_7 ?_
  refine g_aload_n C 1 rfl d_Wo_put_8 rfl ?_
  refine g_iload_n C 2 rfl d_Wo_put_9 rfl ?_
  refine g_iconst (v := 1) C d_Wo_put_10 (by decide) ?_
  refine g_iadd C d_Wo_put_11 ?_
  refine g_iload_n C 0 rfl d_Wo_put_12 rfl ?_
  refine g_bipush (v := 16) C d_Wo_put_13 (by decide) ?_
  refine g_iushr C d_Wo_put_15 ?_
  refine g_i2b C d_Wo_put_16 ?_
  obtain ⟨h2, eh2, hr⟩ := of_bnd hr
  refine g_bastore C eh2 d_Wo_put_17 ?_
  refine g_aload_n C 1 rfl d_Wo_put_18 rfl ?_
  refine g_iload_n C 2 rfl d_Wo_put_19 rfl ?_
  refine g_iconst (v := 2) C d_Wo_put_20 (by decide) ?_
  refine g_iadd C d_Wo_put_21 ?_
  refine g_iload_n C 0 rfl d_Wo_put_22 rfl ?_
  refine g_bipush (v := 8) C d_Wo_put_23 (by decide) ?_
  refine g_iushr C d_Wo_put_25 ?_
  refine g_i2b C d_Wo_put_26 ?_
  obtain ⟨h3, eh3, hr⟩ := of_bnd hr
  refine g_bastore C eh3 d_Wo_put_27 ?_
  refine g_aload_n C 1 rfl d_Wo_put_28 rfl ?_
  refine g_iload_n C 2 rfl d_Wo_put_29 rfl ?_
  refine g_iconst (v := 3) C d_Wo_put_30 (by decide) ?_
  refine g_iadd C d_Wo_put_31 ?_
  refine g_iload_n C 0 rfl d_Wo_put_32 rfl ?_
  refine g_i2b C d_Wo_put_33 ?_
  obtain ⟨h4, eh4, hr⟩ := of_bnd hr
  refine g_bastore C eh4 d_Wo_put_34 ?_
  cases hr
  exact g_vreturn C T (by decide) (by decide) d_Wo_put_35
abbrev b_Li_read : ByteArray := prog_3_method_2_code
abbrev y_Li_read : MethodName := ⟨"PrimeKeys$Limbs", "read", "([BI[J)V"⟩
theorem d_Li_read_0 : decode b_Li_read 0 = .ok (.aload_n 2, 1) := by decide +kernel
theorem d_Li_read_1 : decode b_Li_read 1 = .ok (.lconst 0, 1) := by decide +kernel
theorem d_Li_read_2 : decode b_Li_read 2 = .ok (.invokestatic 11, 3) := by decide +kernel
theorem d_Li_read_5 : decode b_Li_read 5 = .ok (.iconst 0, 1) := by decide +kernel
theorem d_Li_read_6 : decode b_Li_read 6 = .ok (.istore_n 3, 1) := by decide +kernel
theorem d_Li_read_7 : decode b_Li_read 7 = .ok (.iload_n 3, 1) := by decide +kernel
theorem d_Li_read_8 : decode b_Li_read 8 = .ok (.bipush 32, 2) := by decide +kernel
theorem d_Li_read_10 : decode b_Li_read 10 = .ok (.if_icmp .ge 87, 3) := by decide +kernel
theorem d_Li_read_13 : decode b_Li_read 13 = .ok (.aload_n 0, 1) := by decide +kernel
theorem d_Li_read_14 : decode b_Li_read 14 = .ok (.iload_n 1, 1) := by decide +kernel
theorem d_Li_read_15 : decode b_Li_read 15 = .ok (.bipush 32, 2) := by decide +kernel
theorem d_Li_read_17 : decode b_Li_read 17 = .ok (.iadd, 1) := by decide +kernel
theorem d_Li_read_18 : decode b_Li_read 18 = .ok (.iconst 1, 1) := by decide +kernel
theorem d_Li_read_19 : decode b_Li_read 19 = .ok (.isub, 1) := by decide +kernel
theorem d_Li_read_20 : decode b_Li_read 20 = .ok (.iload_n 3, 1) := by decide +kernel
theorem d_Li_read_21 : decode b_Li_read 21 = .ok (.isub, 1) := by decide +kernel
theorem d_Li_read_22 : decode b_Li_read 22 = .ok (.baload, 1) := by decide +kernel
theorem d_Li_read_23 : decode b_Li_read 23 = .ok (.sipush 255, 3) := by decide +kernel
theorem d_Li_read_26 : decode b_Li_read 26 = .ok (.iand, 1) := by decide +kernel
theorem d_Li_read_27 : decode b_Li_read 27 = .ok (.i2l, 1) := by decide +kernel
theorem d_Li_read_28 : decode b_Li_read 28 = .ok (.lstore 4, 2) := by decide +kernel
theorem d_Li_read_30 : decode b_Li_read 30 = .ok (.bipush 8, 2) := by decide +kernel
theorem d_Li_read_32 : decode b_Li_read 32 = .ok (.iload_n 3, 1) := by decide +kernel
theorem d_Li_read_33 : decode b_Li_read 33 = .ok (.imul, 1) := by decide +kernel
theorem d_Li_read_34 : decode b_Li_read 34 = .ok (.bipush 29, 2) := by decide +kernel
theorem d_Li_read_36 : decode b_Li_read 36 = .ok (.idiv, 1) := by decide +kernel
theorem d_Li_read_37 : decode b_Li_read 37 = .ok (.istore 6, 2) := by decide +kernel
theorem d_Li_read_39 : decode b_Li_read 39 = .ok (.bipush 8, 2) := by decide +kernel
theorem d_Li_read_41 : decode b_Li_read 41 = .ok (.iload_n 3, 1) := by decide +kernel
theorem d_Li_read_42 : decode b_Li_read 42 = .ok (.imul, 1) := by decide +kernel
theorem d_Li_read_43 : decode b_Li_read 43 = .ok (.bipush 29, 2) := by decide +kernel
theorem d_Li_read_45 : decode b_Li_read 45 = .ok (.irem, 1) := by decide +kernel
theorem d_Li_read_46 : decode b_Li_read 46 = .ok (.istore 7, 2) := by decide +kernel
theorem d_Li_read_48 : decode b_Li_read 48 = .ok (.aload_n 2, 1) := by decide +kernel
theorem d_Li_read_49 : decode b_Li_read 49 = .ok (.iload 6, 2) := by decide +kernel
theorem d_Li_read_51 : decode b_Li_read 51 = .ok (.dup2, 1) := by decide +kernel
theorem d_Li_read_52 : decode b_Li_read 52 = .ok (.laload, 1) := by decide +kernel
theorem d_Li_read_53 : decode b_Li_read 53 = .ok (.lload 4, 2) := by decide +kernel
theorem d_Li_read_55 : decode b_Li_read 55 = .ok (.iload 7, 2) := by decide +kernel
theorem d_Li_read_57 : decode b_Li_read 57 = .ok (.lshl, 1) := by decide +kernel
theorem d_Li_read_58 : decode b_Li_read 58 = .ok (.ldc2_w 17, 3) := by decide +kernel
theorem d_Li_read_61 : decode b_Li_read 61 = .ok (.land, 1) := by decide +kernel
theorem d_Li_read_62 : decode b_Li_read 62 = .ok (.lor, 1) := by decide +kernel
theorem d_Li_read_63 : decode b_Li_read 63 = .ok (.lastore, 1) := by decide +kernel
theorem d_Li_read_64 : decode b_Li_read 64 = .ok (.iload 7, 2) := by decide +kernel
theorem d_Li_read_66 : decode b_Li_read 66 = .ok (.bipush 8, 2) := by decide +kernel
theorem d_Li_read_68 : decode b_Li_read 68 = .ok (.iadd, 1) := by decide +kernel
theorem d_Li_read_69 : decode b_Li_read 69 = .ok (.bipush 29, 2) := by decide +kernel
theorem d_Li_read_71 : decode b_Li_read 71 = .ok (.if_icmp .le 20, 3) := by decide +kernel
theorem d_Li_read_74 : decode b_Li_read 74 = .ok (.aload_n 2, 1) := by decide +kernel
theorem d_Li_read_75 : decode b_Li_read 75 = .ok (.iload 6, 2) := by decide +kernel
theorem d_Li_read_77 : decode b_Li_read 77 = .ok (.iconst 1, 1) := by decide +kernel
theorem d_Li_read_78 : decode b_Li_read 78 = .ok (.iadd, 1) := by decide +kernel
theorem d_Li_read_79 : decode b_Li_read 79 = .ok (.dup2, 1) := by decide +kernel
theorem d_Li_read_80 : decode b_Li_read 80 = .ok (.laload, 1) := by decide +kernel
theorem d_Li_read_81 : decode b_Li_read 81 = .ok (.lload 4, 2) := by decide +kernel
theorem d_Li_read_83 : decode b_Li_read 83 = .ok (.bipush 29, 2) := by decide +kernel
theorem d_Li_read_85 : decode b_Li_read 85 = .ok (.iload 7, 2) := by decide +kernel
theorem d_Li_read_87 : decode b_Li_read 87 = .ok (.isub, 1) := by decide +kernel
theorem d_Li_read_88 : decode b_Li_read 88 = .ok (.lshr, 1) := by decide +kernel
theorem d_Li_read_89 : decode b_Li_read 89 = .ok (.lor, 1) := by decide +kernel
theorem d_Li_read_90 : decode b_Li_read 90 = .ok (.lastore, 1) := by decide +kernel
theorem d_Li_read_91 : decode b_Li_read 91 = .ok (.iinc 3 1, 3) := by decide +kernel
theorem d_Li_read_94 : decode b_Li_read 94 = .ok (.goto (-87), 3) := by decide +kernel
theorem d_Li_read_97 : decode b_Li_read 97 = .ok (.return_, 1) := by decide +kernel
theorem kw_0 : Cond.constantLong "PrimeKeys$Limbs" 17 536870911 ∈ TB := tb_1 (List.mem_of_getElem? (i := 82) (by decide +kernel)) rfl
theorem cd_Li_11 : CD "PrimeKeys$Limbs" 11 y_Ar_fill_J b_Ar_fill_J 5 none 2 := ⟨tb_1 (List.mem_of_getElem? (i := 81) rfl) rfl, tb_1 (List.mem_of_getElem? (i := 7) (by decide +kernel)) rfl, tb_1 (List.mem_of_getElem? (i := 79) (by decide +kernel)) rfl, by decide +kernel⟩
theorem kw_st_Ar_fill_J : Cond.static y_Ar_fill_J ∈ TB := tb_1 (List.mem_of_getElem? (i := 80) (by decide +kernel)) rfl
abbrev rm_Li_read : Room := { frames := 1, cells := 0, slots := 0, locals := 24 }
def B_Li_read_91 (K7 : HP → Nat → Int32 → Nat → Int32 → Option (HP)) (h : HP) (a0 : Nat) (a1 : Int32) (a2 : Nat) (a3 : Int32) : Option (HP) :=
  lt (a3 + Int32.ofInt 1) fun x8 =>
  K7 h a0 a1 a2 x8
set_option maxHeartbeats 4000000 in
set_option maxRecDepth 100000 in
theorem bk_Li_read_91 {l : Launch} {x : CX} {h0 h' : HP} (C : EV x b_Li_read "PrimeKeys$Limbs" 8 rm_Li_read) (T : CT x (none) rm_Li_read h0 none h') (hl0 : x.1.2.1 = l) (K7 : HP → Nat → Int32 → Nat → Int32 → Option (HP)) (hK7 : ∀ (h : HP) (a0 : Nat) (a1 : Int32) (a2 : Nat) (a3 : Int32), K7 h a0 a1 a2 a3 = some h' → GG x 0 0 h 7 [(0, .ref a0), (1, .int a1), (2, .ref a2), (3, .int a3)] []) (h : HP) (a0 : Nat) (a1 : Int32) (a2 : Nat) (a3 : Int32) (hr : B_Li_read_91 K7 h a0 a1 a2 a3 = some h') : GG x 0 0 h 91 [(0, .ref a0), (1, .int a1), (2, .ref a2), (3, .int a3)] [] := by
  unfold B_Li_read_91 at hr
  obtain ⟨x8, ex8⟩ : ∃ z, z = a3 + Int32.ofInt 1 := ⟨_, rfl⟩
  have hr := of_lt ex8 hr
  refine g_iinc (lv' := [(3, .int x8), (0, .ref a0), (1, .int a1), (2, .ref a2)]) C 3 rfl d_Li_read_91 ex8.symm (by decide) rfl ?_
  refine g_goto (tgt := 7) C d_Li_read_94 (by decide) ?_
  refine g_lv [1, 2, 3, 0] rfl ?_
  exact hK7 h a0 a1 a2 x8 hr
def B_Li_read_7 (K7 : HP → Nat → Int32 → Nat → Int32 → Option (HP)) (h : HP) (a0 : Nat) (a1 : Int32) (a2 : Nat) (a3 : Int32) : Option (HP) :=
  if 32 ≤ a3 then
  some h
  else
  bnd (ldB h a0 (((a1 + 32) - 1) - a3)) fun v2 =>
  lt (Int32.toInt64 (v2 &&& 255)) fun x3 =>
  lt ((8 * a3) / 29) fun x4 =>
  lt ((8 * a3) - (8 * a3) / 29 * 29) fun x5 =>
  bnd (ldJ h a2 x4) fun v6 =>
  bnd (stJ h a2 x4 (v6 ||| ((x3 <<< (Int32.toInt64 x5 &&& 63)) &&& 536870911))) fun h7 =>
  if x5 + 8 ≤ 29 then
  B_Li_read_91 K7 h7 a0 a1 a2 a3
  else
  bnd (ldJ h7 a2 (x4 + 1)) fun v9 =>
  bnd (stJ h7 a2 (x4 + 1) (v9 ||| (x3 >>> (Int32.toInt64 (29 - x5) &&& 63)))) fun h10 =>
  B_Li_read_91 K7 h10 a0 a1 a2 a3
set_option maxHeartbeats 4000000 in
set_option maxRecDepth 100000 in
theorem bk_Li_read_7 {l : Launch} {x : CX} {h0 h' : HP} (C : EV x b_Li_read "PrimeKeys$Limbs" 8 rm_Li_read) (T : CT x (none) rm_Li_read h0 none h') (hl0 : x.1.2.1 = l) (K7 : HP → Nat → Int32 → Nat → Int32 → Option (HP)) (hK7 : ∀ (h : HP) (a0 : Nat) (a1 : Int32) (a2 : Nat) (a3 : Int32), K7 h a0 a1 a2 a3 = some h' → GG x 0 0 h 7 [(0, .ref a0), (1, .int a1), (2, .ref a2), (3, .int a3)] []) (h : HP) (a0 : Nat) (a1 : Int32) (a2 : Nat) (a3 : Int32) (hr : B_Li_read_7 K7 h a0 a1 a2 a3 = some h') : GG x 0 0 h 7 [(0, .ref a0), (1, .int a1), (2, .ref a2), (3, .int a3)] [] := by
  unfold B_Li_read_7 at hr
  refine g_iload_n C 3 rfl d_Li_read_7 rfl ?_
  refine g_bipush (v := 32) C d_Li_read_8 (by decide) ?_
  refine g_icmp_ge (tgt := 97) C d_Li_read_10 (by decide) (fun z => ?_) (fun z => ?_)
  · have hr := of_if z hr
    cases hr
    exact g_vreturn C T (by decide) (by decide) d_Li_read_97
  · have hr := of_el z hr
    refine g_aload_n C 0 rfl d_Li_read_13 rfl ?_
    refine g_iload_n C 1 rfl d_Li_read_14 rfl ?_
    refine g_bipush (v := 32) C d_Li_read_15 (by decide) ?_
    refine g_iadd C d_Li_read_17 ?_
    refine g_iconst (v := 1) C d_Li_read_18 (by decide) ?_
    refine g_isub C d_Li_read_19 ?_
    refine g_iload_n C 3 rfl d_Li_read_20 rfl ?_
    refine g_isub C d_Li_read_21 ?_
    obtain ⟨v2, ev2, hr⟩ := of_bnd hr
    refine g_baload C ev2 d_Li_read_22 ?_
    refine g_sipush (v := 255) C d_Li_read_23 (by decide) ?_
    refine g_iand C d_Li_read_26 ?_
    refine g_i2l C d_Li_read_27 ?_
    refine g_topl (fun x3 ex3 => ?_)
    have hr := of_lt ex3 hr
    refine g_lstore (lv' := [(4, .long x3), (0, .ref a0), (1, .int a1), (2, .ref a2), (3, .int a3)]) C d_Li_read_28 (by decide) rfl ?_
    refine g_bipush (v := 8) C d_Li_read_30 (by decide) ?_
    refine g_iload_n C 4 rfl d_Li_read_32 rfl ?_
    refine g_imul C d_Li_read_33 ?_
    refine g_bipush (v := 29) C d_Li_read_34 (by decide) ?_
    refine g_idiv C d_Li_read_36 (by decide) ?_
    refine g_topi (fun x4 ex4 => ?_)
    have hr := of_lt ex4 hr
    refine g_istore (lv' := [(6, .int x4), (4, .long x3), (0, .ref a0), (1, .int a1), (2, .ref a2), (3, .int a3)]) C d_Li_read_37 (by decide) rfl ?_
    refine g_bipush (v := 8) C d_Li_read_39 (by decide) ?_
    refine g_iload_n C 5 rfl d_Li_read_41 rfl ?_
    refine g_imul C d_Li_read_42 ?_
    refine g_bipush (v := 29) C d_Li_read_43 (by decide) ?_
    refine g_irem C d_Li_read_45 (by decide) ?_
    refine g_topi (fun x5 ex5 => ?_)
    have hr := of_lt ex5 hr
    refine g_istore (lv' := [(7, .int x5), (6, .int x4), (4, .long x3), (0, .ref a0), (1, .int a1), (2, .ref a2), (3, .int a3)]) C d_Li_read_46 (by decide) rfl ?_
    refine g_aload_n C 5 rfl d_Li_read_48 rfl ?_
    refine g_iload C 1 rfl d_Li_read_49 ?_
    refine g_dup2_11 C d_Li_read_51 rfl rfl ?_
    obtain ⟨v6, ev6, hr⟩ := of_bnd hr
    refine g_laload C ev6 d_Li_read_52 ?_
    refine g_lload C 2 rfl d_Li_read_53 ?_
    refine g_iload C 0 rfl d_Li_read_55 ?_
    refine g_lshl C d_Li_read_57 ?_
    refine g_ldc2 (v := 536870911) C d_Li_read_58 kw_0 ?_
    refine g_land C d_Li_read_61 ?_
    refine g_lor C d_Li_read_62 ?_
    obtain ⟨h7, eh7, hr⟩ := of_bnd hr
    refine g_lastore C eh7 d_Li_read_63 ?_
    refine g_iload C 0 rfl d_Li_read_64 ?_
    refine g_bipush (v := 8) C d_Li_read_66 (by decide) ?_
    refine g_iadd C d_Li_read_68 ?_
    refine g_bipush (v := 29) C d_Li_read_69 (by decide) ?_
    refine g_icmp_le (tgt := 91) C d_Li_read_71 (by decide) (fun z => ?_) (fun z => ?_)
    · have hr := of_if z hr
      refine g_lv [3, 4, 5, 6] rfl ?_
      exact bk_Li_read_91 C T hl0 K7 hK7 h7 a0 a1 a2 a3 hr
    · have hr := of_el z hr
      refine g_aload_n C 5 rfl d_Li_read_74 rfl ?_
      refine g_iload C 1 rfl d_Li_read_75 ?_
      refine g_iconst (v := 1) C d_Li_read_77 (by decide) ?_
      refine g_iadd C d_Li_read_78 ?_
      refine g_dup2_11 C d_Li_read_79 rfl rfl ?_
      obtain ⟨v9, ev9, hr⟩ := of_bnd hr
      refine g_laload C ev9 d_Li_read_80 ?_
      refine g_lload C 2 rfl d_Li_read_81 ?_
      refine g_bipush (v := 29) C d_Li_read_83 (by decide) ?_
      refine g_iload C 0 rfl d_Li_read_85 ?_
      refine g_isub C d_Li_read_87 ?_
      refine g_lshr C d_Li_read_88 ?_
      refine g_lor C d_Li_read_89 ?_
      obtain ⟨h10, eh10, hr⟩ := of_bnd hr
      refine g_lastore C eh10 d_Li_read_90 ?_
      refine g_lv [3, 4, 5, 6] rfl ?_
      exact bk_Li_read_91 C T hl0 K7 hK7 h10 a0 a1 a2 a3 hr
def L_Li_read_7 : Nat → HP → Nat → Int32 → Nat → Int32 → Option (HP)
  | 0, _, _, _, _, _ => none
  | f + 1, h, a0, a1, a2, a3 => B_Li_read_7 (L_Li_read_7 f) h a0 a1 a2 a3
theorem lp_Li_read_7 {l : Launch} {x : CX} {h0 h' : HP} (C : EV x b_Li_read "PrimeKeys$Limbs" 8 rm_Li_read) (T : CT x (none) rm_Li_read h0 none h') (hl0 : x.1.2.1 = l) : ∀ (f : Nat) (h : HP) (a0 : Nat) (a1 : Int32) (a2 : Nat) (a3 : Int32), L_Li_read_7 f h a0 a1 a2 a3 = some h' → GG x 0 0 h 7 [(0, .ref a0), (1, .int a1), (2, .ref a2), (3, .int a3)] [] := by
  intro f
  induction f with
  | zero => intro h a0 a1 a2 a3 hr; have hr : (none : Option (HP)) = some h' := hr; cases hr
  | succ f ih => intro h a0 a1 a2 a3 hr; exact bk_Li_read_7 C T hl0 (L_Li_read_7 f) ih h a0 a1 a2 a3 hr
def P_Li_read (h : HP) (p0 : Nat) (p1 : Int32) (p2 : Nat) : Option (HP) :=
  bnd (P_Ar_fill_J h p2 0) fun h1 =>
  L_Li_read_7 FU h1 p0 p1 p2 0
set_option maxHeartbeats 4000000 in
set_option maxRecDepth 100000 in
theorem c_Li_read {l : Launch} {h h' : HP} {p0 p1 p2 : _} (hr : P_Li_read h p0 p1 p2 = some h') : MP l y_Li_read (Cond.code y_Li_read b_Li_read 8 none :: TB) rm_Li_read h [.ref p0, .int p1, .ref p2] none h' := by
  refine MP_intro (cc := b_Li_read) (by decide) (Nat.le_of_ble_eq_true rfl) (fun x hl0 C T hin => ?_)
  unfold P_Li_read at hr
  show GG x 0 0 h 0 [(0, .ref p0), (1, .int p1), (2, .ref p2)] []
  refine g_aload_n C 2 rfl d_Li_read_0 rfl ?_
  refine g_lconst (v := 0) C d_Li_read_1 (by decide) ?_
  obtain ⟨h1, eh1, hr⟩ := of_bnd hr
  refine g_callS (pa := [.ref p2, .long 0]) C hl0 (c_Ar_fill_J eh1) cd_Li_11 kw_st_Ar_fill_J (by decide) rfl rfl (Nat.le_of_ble_eq_true rfl) d_Li_read_2 ?_
  refine g_iconst (v := 0) C d_Li_read_5 (by decide) ?_
  refine g_istore_n (lv' := [(3, .int 0), (0, .ref p0), (1, .int p1), (2, .ref p2)]) C d_Li_read_6 rfl (by decide) rfl ?_
  refine g_lv [1, 2, 3, 0] rfl ?_
  exact lp_Li_read_7 C T hl0 FU h1 p0 p1 p2 0 hr
abbrev b_Li_write : ByteArray := prog_3_method_3_code
abbrev y_Li_write : MethodName := ⟨"PrimeKeys$Limbs", "write", "([J[BI)V"⟩
theorem d_Li_write_0 : decode b_Li_write 0 = .ok (.iconst 0, 1) := by decide +kernel
theorem d_Li_write_1 : decode b_Li_write 1 = .ok (.istore_n 3, 1) := by decide +kernel
theorem d_Li_write_2 : decode b_Li_write 2 = .ok (.iload_n 3, 1) := by decide +kernel
theorem d_Li_write_3 : decode b_Li_write 3 = .ok (.bipush 32, 2) := by decide +kernel
theorem d_Li_write_5 : decode b_Li_write 5 = .ok (.if_icmp .ge 77, 3) := by decide +kernel
theorem d_Li_write_8 : decode b_Li_write 8 = .ok (.bipush 8, 2) := by decide +kernel
theorem d_Li_write_10 : decode b_Li_write 10 = .ok (.iload_n 3, 1) := by decide +kernel
theorem d_Li_write_11 : decode b_Li_write 11 = .ok (.imul, 1) := by decide +kernel
theorem d_Li_write_12 : decode b_Li_write 12 = .ok (.bipush 29, 2) := by decide +kernel
theorem d_Li_write_14 : decode b_Li_write 14 = .ok (.idiv, 1) := by decide +kernel
theorem d_Li_write_15 : decode b_Li_write 15 = .ok (.istore 4, 2) := by decide +kernel
theorem d_Li_write_17 : decode b_Li_write 17 = .ok (.bipush 8, 2) := by decide +kernel
theorem d_Li_write_19 : decode b_Li_write 19 = .ok (.iload_n 3, 1) := by decide +kernel
theorem d_Li_write_20 : decode b_Li_write 20 = .ok (.imul, 1) := by decide +kernel
theorem d_Li_write_21 : decode b_Li_write 21 = .ok (.bipush 29, 2) := by decide +kernel
theorem d_Li_write_23 : decode b_Li_write 23 = .ok (.irem, 1) := by decide +kernel
theorem d_Li_write_24 : decode b_Li_write 24 = .ok (.istore 5, 2) := by decide +kernel
theorem d_Li_write_26 : decode b_Li_write 26 = .ok (.aload_n 0, 1) := by decide +kernel
theorem d_Li_write_27 : decode b_Li_write 27 = .ok (.iload 4, 2) := by decide +kernel
theorem d_Li_write_29 : decode b_Li_write 29 = .ok (.laload, 1) := by decide +kernel
theorem d_Li_write_30 : decode b_Li_write 30 = .ok (.iload 5, 2) := by decide +kernel
theorem d_Li_write_32 : decode b_Li_write 32 = .ok (.lshr, 1) := by decide +kernel
theorem d_Li_write_33 : decode b_Li_write 33 = .ok (.lstore 6, 2) := by decide +kernel
theorem d_Li_write_35 : decode b_Li_write 35 = .ok (.iload 5, 2) := by decide +kernel
theorem d_Li_write_37 : decode b_Li_write 37 = .ok (.bipush 8, 2) := by decide +kernel
theorem d_Li_write_39 : decode b_Li_write 39 = .ok (.iadd, 1) := by decide +kernel
theorem d_Li_write_40 : decode b_Li_write 40 = .ok (.bipush 29, 2) := by decide +kernel
theorem d_Li_write_42 : decode b_Li_write 42 = .ok (.if_icmp .le 20, 3) := by decide +kernel
theorem d_Li_write_45 : decode b_Li_write 45 = .ok (.lload 6, 2) := by decide +kernel
theorem d_Li_write_47 : decode b_Li_write 47 = .ok (.aload_n 0, 1) := by decide +kernel
theorem d_Li_write_48 : decode b_Li_write 48 = .ok (.iload 4, 2) := by decide +kernel
theorem d_Li_write_50 : decode b_Li_write 50 = .ok (.iconst 1, 1) := by decide +kernel
theorem d_Li_write_51 : decode b_Li_write 51 = .ok (.iadd, 1) := by decide +kernel
theorem d_Li_write_52 : decode b_Li_write 52 = .ok (.laload, 1) := by decide +kernel
theorem d_Li_write_53 : decode b_Li_write 53 = .ok (.bipush 29, 2) := by decide +kernel
theorem d_Li_write_55 : decode b_Li_write 55 = .ok (.iload 5, 2) := by decide +kernel
theorem d_Li_write_57 : decode b_Li_write 57 = .ok (.isub, 1) := by decide +kernel
theorem d_Li_write_58 : decode b_Li_write 58 = .ok (.lshl, 1) := by decide +kernel
theorem d_Li_write_59 : decode b_Li_write 59 = .ok (.lor, 1) := by decide +kernel
theorem d_Li_write_60 : decode b_Li_write 60 = .ok (.lstore 6, 2) := by decide +kernel
theorem d_Li_write_62 : decode b_Li_write 62 = .ok (.aload_n 1, 1) := by decide +kernel
theorem d_Li_write_63 : decode b_Li_write 63 = .ok (.iload_n 2, 1) := by decide +kernel
theorem d_Li_write_64 : decode b_Li_write 64 = .ok (.bipush 32, 2) := by decide +kernel
theorem d_Li_write_66 : decode b_Li_write 66 = .ok (.iadd, 1) := by decide +kernel
theorem d_Li_write_67 : decode b_Li_write 67 = .ok (.iconst 1, 1) := by decide +kernel
theorem d_Li_write_68 : decode b_Li_write 68 = .ok (.isub, 1) := by decide +kernel
theorem d_Li_write_69 : decode b_Li_write 69 = .ok (.iload_n 3, 1) := by decide +kernel
theorem d_Li_write_70 : decode b_Li_write 70 = .ok (.isub, 1) := by decide +kernel
theorem d_Li_write_71 : decode b_Li_write 71 = .ok (.lload 6, 2) := by decide +kernel
theorem d_Li_write_73 : decode b_Li_write 73 = .ok (.l2i, 1) := by decide +kernel
theorem d_Li_write_74 : decode b_Li_write 74 = .ok (.i2b, 1) := by decide +kernel
theorem d_Li_write_75 : decode b_Li_write 75 = .ok (.bastore, 1) := by decide +kernel
theorem d_Li_write_76 : decode b_Li_write 76 = .ok (.iinc 3 1, 3) := by decide +kernel
theorem d_Li_write_79 : decode b_Li_write 79 = .ok (.goto (-77), 3) := by decide +kernel
theorem d_Li_write_82 : decode b_Li_write 82 = .ok (.return_, 1) := by decide +kernel
abbrev rm_Li_write : Room := { frames := 0, cells := 0, slots := 0, locals := 0 }
def B_Li_write_62 (K2 : HP → Nat → Nat → Int32 → Int32 → Option (HP)) (h : HP) (a0 : Nat) (a1 : Nat) (a2 : Int32) (a3 : Int32) (a6 : Int64) : Option (HP) :=
  bnd (stB h a1 (((a2 + 32) - 1) - a3) ((Int32.toInt8 (Int64.toInt32 a6)).toInt32)) fun h5 =>
  lt (a3 + Int32.ofInt 1) fun x6 =>
  K2 h5 a0 a1 a2 x6
set_option maxHeartbeats 4000000 in
set_option maxRecDepth 100000 in
theorem bk_Li_write_62 {l : Launch} {x : CX} {h0 h' : HP} (C : EV x b_Li_write "PrimeKeys$Limbs" 8 rm_Li_write) (T : CT x (none) rm_Li_write h0 none h') (hl0 : x.1.2.1 = l) (K2 : HP → Nat → Nat → Int32 → Int32 → Option (HP)) (hK2 : ∀ (h : HP) (a0 : Nat) (a1 : Nat) (a2 : Int32) (a3 : Int32), K2 h a0 a1 a2 a3 = some h' → GG x 0 0 h 2 [(0, .ref a0), (1, .ref a1), (2, .int a2), (3, .int a3)] []) (h : HP) (a0 : Nat) (a1 : Nat) (a2 : Int32) (a3 : Int32) (a6 : Int64) (hr : B_Li_write_62 K2 h a0 a1 a2 a3 a6 = some h') : GG x 0 0 h 62 [(0, .ref a0), (1, .ref a1), (2, .int a2), (3, .int a3), (6, .long a6)] [] := by
  unfold B_Li_write_62 at hr
  refine g_aload_n C 1 rfl d_Li_write_62 rfl ?_
  refine g_iload_n C 2 rfl d_Li_write_63 rfl ?_
  refine g_bipush (v := 32) C d_Li_write_64 (by decide) ?_
  refine g_iadd C d_Li_write_66 ?_
  refine g_iconst (v := 1) C d_Li_write_67 (by decide) ?_
  refine g_isub C d_Li_write_68 ?_
  refine g_iload_n C 3 rfl d_Li_write_69 rfl ?_
  refine g_isub C d_Li_write_70 ?_
  refine g_lload C 4 rfl d_Li_write_71 ?_
  refine g_l2i C d_Li_write_73 ?_
  refine g_i2b C d_Li_write_74 ?_
  obtain ⟨h5, eh5, hr⟩ := of_bnd hr
  refine g_bastore C eh5 d_Li_write_75 ?_
  obtain ⟨x6, ex6⟩ : ∃ z, z = a3 + Int32.ofInt 1 := ⟨_, rfl⟩
  have hr := of_lt ex6 hr
  refine g_iinc (lv' := [(3, .int x6), (0, .ref a0), (1, .ref a1), (2, .int a2), (6, .long a6)]) C 3 rfl d_Li_write_76 ex6.symm (by decide) rfl ?_
  refine g_goto (tgt := 2) C d_Li_write_79 (by decide) ?_
  refine g_lv [1, 2, 3, 0] rfl ?_
  exact hK2 h5 a0 a1 a2 x6 hr
def B_Li_write_2 (K2 : HP → Nat → Nat → Int32 → Int32 → Option (HP)) (h : HP) (a0 : Nat) (a1 : Nat) (a2 : Int32) (a3 : Int32) : Option (HP) :=
  if 32 ≤ a3 then
  some h
  else
  lt ((8 * a3) / 29) fun x1 =>
  lt ((8 * a3) - (8 * a3) / 29 * 29) fun x2 =>
  bnd (ldJ h a0 x1) fun v3 =>
  lt (v3 >>> (Int32.toInt64 x2 &&& 63)) fun x4 =>
  if x2 + 8 ≤ 29 then
  B_Li_write_62 K2 h a0 a1 a2 a3 x4
  else
  bnd (ldJ h a0 (x1 + 1)) fun v7 =>
  lt (x4 ||| (v7 <<< (Int32.toInt64 (29 - x2) &&& 63))) fun x8 =>
  B_Li_write_62 K2 h a0 a1 a2 a3 x8
set_option maxHeartbeats 4000000 in
set_option maxRecDepth 100000 in
theorem bk_Li_write_2 {l : Launch} {x : CX} {h0 h' : HP} (C : EV x b_Li_write "PrimeKeys$Limbs" 8 rm_Li_write) (T : CT x (none) rm_Li_write h0 none h') (hl0 : x.1.2.1 = l) (K2 : HP → Nat → Nat → Int32 → Int32 → Option (HP)) (hK2 : ∀ (h : HP) (a0 : Nat) (a1 : Nat) (a2 : Int32) (a3 : Int32), K2 h a0 a1 a2 a3 = some h' → GG x 0 0 h 2 [(0, .ref a0), (1, .ref a1), (2, .int a2), (3, .int a3)] []) (h : HP) (a0 : Nat) (a1 : Nat) (a2 : Int32) (a3 : Int32) (hr : B_Li_write_2 K2 h a0 a1 a2 a3 = some h') : GG x 0 0 h 2 [(0, .ref a0), (1, .ref a1), (2, .int a2), (3, .int a3)] [] := by
  unfold B_Li_write_2 at hr
  refine g_iload_n C 3 rfl d_Li_write_2 rfl ?_
  refine g_bipush (v := 32) C d_Li_write_3 (by decide) ?_
  refine g_icmp_ge (tgt := 82) C d_Li_write_5 (by decide) (fun z => ?_) (fun z => ?_)
  · have hr := of_if z hr
    cases hr
    exact g_vreturn C T (by decide) (by decide) d_Li_write_82
  · have hr := of_el z hr
    refine g_bipush (v := 8) C d_Li_write_8 (by decide) ?_
    refine g_iload_n C 3 rfl d_Li_write_10 rfl ?_
    refine g_imul C d_Li_write_11 ?_
    refine g_bipush (v := 29) C d_Li_write_12 (by decide) ?_
    refine g_idiv C d_Li_write_14 (by decide) ?_
    refine g_topi (fun x1 ex1 => ?_)
    have hr := of_lt ex1 hr
    refine g_istore (lv' := [(4, .int x1), (0, .ref a0), (1, .ref a1), (2, .int a2), (3, .int a3)]) C d_Li_write_15 (by decide) rfl ?_
    refine g_bipush (v := 8) C d_Li_write_17 (by decide) ?_
    refine g_iload_n C 4 rfl d_Li_write_19 rfl ?_
    refine g_imul C d_Li_write_20 ?_
    refine g_bipush (v := 29) C d_Li_write_21 (by decide) ?_
    refine g_irem C d_Li_write_23 (by decide) ?_
    refine g_topi (fun x2 ex2 => ?_)
    have hr := of_lt ex2 hr
    refine g_istore (lv' := [(5, .int x2), (4, .int x1), (0, .ref a0), (1, .ref a1), (2, .int a2), (3, .int a3)]) C d_Li_write_24 (by decide) rfl ?_
    refine g_aload_n C 2 rfl d_Li_write_26 rfl ?_
    refine g_iload C 1 rfl d_Li_write_27 ?_
    obtain ⟨v3, ev3, hr⟩ := of_bnd hr
    refine g_laload C ev3 d_Li_write_29 ?_
    refine g_iload C 0 rfl d_Li_write_30 ?_
    refine g_lshr C d_Li_write_32 ?_
    refine g_topl (fun x4 ex4 => ?_)
    have hr := of_lt ex4 hr
    refine g_lstore (lv' := [(6, .long x4), (5, .int x2), (4, .int x1), (0, .ref a0), (1, .ref a1), (2, .int a2), (3, .int a3)]) C d_Li_write_33 (by decide) rfl ?_
    refine g_iload C 1 rfl d_Li_write_35 ?_
    refine g_bipush (v := 8) C d_Li_write_37 (by decide) ?_
    refine g_iadd C d_Li_write_39 ?_
    refine g_bipush (v := 29) C d_Li_write_40 (by decide) ?_
    refine g_icmp_le (tgt := 62) C d_Li_write_42 (by decide) (fun z => ?_) (fun z => ?_)
    · have hr := of_if z hr
      refine g_lv [3, 4, 5, 6, 0] rfl ?_
      exact bk_Li_write_62 C T hl0 K2 hK2 h a0 a1 a2 a3 x4 hr
    · have hr := of_el z hr
      refine g_lload C 0 rfl d_Li_write_45 ?_
      refine g_aload_n C 3 rfl d_Li_write_47 rfl ?_
      refine g_iload C 2 rfl d_Li_write_48 ?_
      refine g_iconst (v := 1) C d_Li_write_50 (by decide) ?_
      refine g_iadd C d_Li_write_51 ?_
      obtain ⟨v7, ev7, hr⟩ := of_bnd hr
      refine g_laload C ev7 d_Li_write_52 ?_
      refine g_bipush (v := 29) C d_Li_write_53 (by decide) ?_
      refine g_iload C 1 rfl d_Li_write_55 ?_
      refine g_isub C d_Li_write_57 ?_
      refine g_lshl C d_Li_write_58 ?_
      refine g_lor C d_Li_write_59 ?_
      refine g_topl (fun x8 ex8 => ?_)
      have hr := of_lt ex8 hr
      refine g_lstore (lv' := [(6, .long x8), (5, .int x2), (4, .int x1), (0, .ref a0), (1, .ref a1), (2, .int a2), (3, .int a3)]) C d_Li_write_60 (by decide) rfl ?_
      refine g_lv [3, 4, 5, 6, 0] rfl ?_
      exact bk_Li_write_62 C T hl0 K2 hK2 h a0 a1 a2 a3 x8 hr
def L_Li_write_2 : Nat → HP → Nat → Nat → Int32 → Int32 → Option (HP)
  | 0, _, _, _, _, _ => none
  | f + 1, h, a0, a1, a2, a3 => B_Li_write_2 (L_Li_write_2 f) h a0 a1 a2 a3
theorem lp_Li_write_2 {l : Launch} {x : CX} {h0 h' : HP} (C : EV x b_Li_write "PrimeKeys$Limbs" 8 rm_Li_write) (T : CT x (none) rm_Li_write h0 none h') (hl0 : x.1.2.1 = l) : ∀ (f : Nat) (h : HP) (a0 : Nat) (a1 : Nat) (a2 : Int32) (a3 : Int32), L_Li_write_2 f h a0 a1 a2 a3 = some h' → GG x 0 0 h 2 [(0, .ref a0), (1, .ref a1), (2, .int a2), (3, .int a3)] [] := by
  intro f
  induction f with
  | zero => intro h a0 a1 a2 a3 hr; have hr : (none : Option (HP)) = some h' := hr; cases hr
  | succ f ih => intro h a0 a1 a2 a3 hr; exact bk_Li_write_2 C T hl0 (L_Li_write_2 f) ih h a0 a1 a2 a3 hr
def P_Li_write (h : HP) (p0 : Nat) (p1 : Nat) (p2 : Int32) : Option (HP) :=
  L_Li_write_2 FU h p0 p1 p2 0
set_option maxHeartbeats 4000000 in
set_option maxRecDepth 100000 in
theorem c_Li_write {l : Launch} {h h' : HP} {p0 p1 p2 : _} (hr : P_Li_write h p0 p1 p2 = some h') : MP l y_Li_write (Cond.code y_Li_write b_Li_write 8 none :: TB) rm_Li_write h [.ref p0, .ref p1, .int p2] none h' := by
  refine MP_intro (cc := b_Li_write) (by decide) (Nat.le_of_ble_eq_true rfl) (fun x hl0 C T hin => ?_)
  unfold P_Li_write at hr
  show GG x 0 0 h 0 [(0, .ref p0), (1, .ref p1), (2, .int p2)] []
  refine g_iconst (v := 0) C d_Li_write_0 (by decide) ?_
  refine g_istore_n (lv' := [(3, .int 0), (0, .ref p0), (1, .ref p1), (2, .int p2)]) C d_Li_write_1 rfl (by decide) rfl ?_
  refine g_lv [1, 2, 3, 0] rfl ?_
  exact lp_Li_write_2 C T hl0 FU h p0 p1 p2 0 hr
abbrev b_Li_readWords : ByteArray := prog_3_method_4_code
abbrev y_Li_readWords : MethodName := ⟨"PrimeKeys$Limbs", "readWords", "([I[J)V"⟩
theorem d_Li_readWords_0 : decode b_Li_readWords 0 = .ok (.bipush 32, 2) := by decide +kernel
theorem d_Li_readWords_2 : decode b_Li_readWords 2 = .ok (.newarray .byte, 2) := by decide +kernel
theorem d_Li_readWords_4 : decode b_Li_readWords 4 = .ok (.astore_n 2, 1) := by decide +kernel
theorem d_Li_readWords_5 : decode b_Li_readWords 5 = .ok (.iconst 0, 1) := by decide +kernel
theorem d_Li_readWords_6 : decode b_Li_readWords 6 = .ok (.istore_n 3, 1) := by decide +kernel
theorem d_Li_readWords_7 : decode b_Li_readWords 7 = .ok (.iload_n 3, 1) := by decide +kernel
theorem d_Li_readWords_8 : decode b_Li_readWords 8 = .ok (.aload_n 0, 1) := by decide +kernel
theorem d_Li_readWords_9 : decode b_Li_readWords 9 = .ok (.arraylength, 1) := by decide +kernel
theorem d_Li_readWords_10 : decode b_Li_readWords 10 = .ok (.if_icmp .ge 19, 3) := by decide +kernel
theorem d_Li_readWords_13 : decode b_Li_readWords 13 = .ok (.aload_n 0, 1) := by decide +kernel
theorem d_Li_readWords_14 : decode b_Li_readWords 14 = .ok (.iload_n 3, 1) := by decide +kernel
theorem d_Li_readWords_15 : decode b_Li_readWords 15 = .ok (.iaload, 1) := by decide +kernel
theorem d_Li_readWords_16 : decode b_Li_readWords 16 = .ok (.aload_n 2, 1) := by decide +kernel
theorem d_Li_readWords_17 : decode b_Li_readWords 17 = .ok (.iconst 4, 1) := by decide +kernel
theorem d_Li_readWords_18 : decode b_Li_readWords 18 = .ok (.iload_n 3, 1) := by decide +kernel
theorem d_Li_readWords_19 : decode b_Li_readWords 19 = .ok (.imul, 1) := by decide +kernel
theorem d_Li_readWords_20 : decode b_Li_readWords 20 = .ok (.invokestatic 19, 3) := by decide +kernel
theorem d_Li_readWords_23 : decode b_Li_readWords 23 = .ok (.iinc 3 1, 3) := by decide +kernel
theorem d_Li_readWords_26 : decode b_Li_readWords 26 = .ok (.goto (-19), 3) := by decide +kernel
theorem d_Li_readWords_29 : decode b_Li_readWords 29 = .ok (.aload_n 2, 1) := by decide +kernel
theorem d_Li_readWords_30 : decode b_Li_readWords 30 = .ok (.iconst 0, 1) := by decide +kernel
theorem d_Li_readWords_31 : decode b_Li_readWords 31 = .ok (.aload_n 1, 1) := by decide +kernel
theorem d_Li_readWords_32 : decode b_Li_readWords 32 = .ok (.invokestatic 25, 3) := by decide +kernel
theorem d_Li_readWords_35 : decode b_Li_readWords 35 = .ok (.return_, 1) := by decide +kernel
theorem cd_Li_25 : CD "PrimeKeys$Limbs" 25 y_Li_read b_Li_read 8 none 3 := ⟨tb_1 (List.mem_of_getElem? (i := 78) rfl) rfl, tb_1 (List.mem_of_getElem? (i := 5) (by decide +kernel)) rfl, tb_1 (List.mem_of_getElem? (i := 76) (by decide +kernel)) rfl, by decide +kernel⟩
theorem kw_st_Li_read : Cond.static y_Li_read ∈ TB := tb_1 (List.mem_of_getElem? (i := 77) (by decide +kernel)) rfl
theorem cd_Li_19 : CD "PrimeKeys$Limbs" 19 y_Wo_put b_Wo_put 3 none 3 := ⟨tb_1 (List.mem_of_getElem? (i := 75) rfl) rfl, tb_1 (List.mem_of_getElem? (i := 6) (by decide +kernel)) rfl, tb_1 (List.mem_of_getElem? (i := 73) (by decide +kernel)) rfl, by decide +kernel⟩
theorem kw_st_Wo_put : Cond.static y_Wo_put ∈ TB := tb_1 (List.mem_of_getElem? (i := 74) (by decide +kernel)) rfl
abbrev rm_Li_readWords : Room := { frames := 2, cells := 1, slots := 32, locals := 51 }
def B_Li_readWords_7 (K7 : HP → Nat → Nat → Nat → Int32 → Option (HP)) (h : HP) (a0 : Nat) (a1 : Nat) (a2 : Nat) (a3 : Int32) : Option (HP) :=
  bnd (tdN a0) fun v3 =>
  if v3 ≤ a3 then
  bnd (P_Li_read h a2 0 a1) fun h4 =>
  some h4
  else
  bnd (tdI a0 a3) fun v5 =>
  bnd (P_Wo_put h v5 a2 (4 * a3)) fun h6 =>
  lt (a3 + Int32.ofInt 1) fun x7 =>
  K7 h6 a0 a1 a2 x7
set_option maxHeartbeats 4000000 in
set_option maxRecDepth 100000 in
theorem bk_Li_readWords_7 {l : Launch} {x : CX} {h0 h' : HP} (C : EV x b_Li_readWords "PrimeKeys$Limbs" 4 rm_Li_readWords) (T : CT x (none) rm_Li_readWords h0 none h') (hl0 : x.1.2.1 = l) (K7 : HP → Nat → Nat → Nat → Int32 → Option (HP)) (hK7 : ∀ (h : HP) (a0 : Nat) (a1 : Nat) (a2 : Nat) (a3 : Int32), K7 h a0 a1 a2 a3 = some h' → GG x 1 32 h 7 [(0, .retAddr a0), (1, .ref a1), (2, .ref a2), (3, .int a3)] []) (h : HP) (a0 : Nat) (a1 : Nat) (a2 : Nat) (a3 : Int32) (hr : B_Li_readWords_7 K7 h a0 a1 a2 a3 = some h') : GG x 1 32 h 7 [(0, .retAddr a0), (1, .ref a1), (2, .ref a2), (3, .int a3)] [] := by
  unfold B_Li_readWords_7 at hr
  refine g_iload_n C 3 rfl d_Li_readWords_7 rfl ?_
  refine g_aload_nT C 0 rfl d_Li_readWords_8 rfl ?_
  obtain ⟨v3, ev3, hr⟩ := of_bnd hr
  refine g_alenT C ev3 d_Li_readWords_9 ?_
  refine g_icmp_ge (tgt := 29) C d_Li_readWords_10 (by decide) (fun z => ?_) (fun z => ?_)
  · have hr := of_if z hr
    refine g_aload_n C 2 rfl d_Li_readWords_29 rfl ?_
    refine g_iconst (v := 0) C d_Li_readWords_30 (by decide) ?_
    refine g_aload_n C 1 rfl d_Li_readWords_31 rfl ?_
    obtain ⟨h4, eh4, hr⟩ := of_bnd hr
    refine g_callS (pa := [.ref a2, .int 0, .ref a1]) C hl0 (c_Li_read eh4) cd_Li_25 kw_st_Li_read (by decide) rfl rfl (Nat.le_of_ble_eq_true rfl) d_Li_readWords_32 ?_
    cases hr
    exact g_vreturn C T (by decide) (by decide) d_Li_readWords_35
  · have hr := of_el z hr
    refine g_aload_nT C 0 rfl d_Li_readWords_13 rfl ?_
    refine g_iload_n C 3 rfl d_Li_readWords_14 rfl ?_
    obtain ⟨v5, ev5, hr⟩ := of_bnd hr
    refine g_ialoadT C ev5 d_Li_readWords_15 ?_
    refine g_aload_n C 2 rfl d_Li_readWords_16 rfl ?_
    refine g_iconst (v := 4) C d_Li_readWords_17 (by decide) ?_
    refine g_iload_n C 3 rfl d_Li_readWords_18 rfl ?_
    refine g_imul C d_Li_readWords_19 ?_
    obtain ⟨h6, eh6, hr⟩ := of_bnd hr
    refine g_callS (pa := [.int v5, .ref a2, .int (4 * a3)]) C hl0 (c_Wo_put eh6) cd_Li_19 kw_st_Wo_put (by decide) rfl rfl (Nat.le_of_ble_eq_true rfl) d_Li_readWords_20 ?_
    obtain ⟨x7, ex7⟩ : ∃ z, z = a3 + Int32.ofInt 1 := ⟨_, rfl⟩
    have hr := of_lt ex7 hr
    refine g_iinc (lv' := [(3, .int x7), (0, .retAddr a0), (1, .ref a1), (2, .ref a2)]) C 3 rfl d_Li_readWords_23 ex7.symm (by decide) rfl ?_
    refine g_goto (tgt := 7) C d_Li_readWords_26 (by decide) ?_
    refine g_lv [1, 2, 3, 0] rfl ?_
    exact hK7 h6 a0 a1 a2 x7 hr
def L_Li_readWords_7 : Nat → HP → Nat → Nat → Nat → Int32 → Option (HP)
  | 0, _, _, _, _, _ => none
  | f + 1, h, a0, a1, a2, a3 => B_Li_readWords_7 (L_Li_readWords_7 f) h a0 a1 a2 a3
theorem lp_Li_readWords_7 {l : Launch} {x : CX} {h0 h' : HP} (C : EV x b_Li_readWords "PrimeKeys$Limbs" 4 rm_Li_readWords) (T : CT x (none) rm_Li_readWords h0 none h') (hl0 : x.1.2.1 = l) : ∀ (f : Nat) (h : HP) (a0 : Nat) (a1 : Nat) (a2 : Nat) (a3 : Int32), L_Li_readWords_7 f h a0 a1 a2 a3 = some h' → GG x 1 32 h 7 [(0, .retAddr a0), (1, .ref a1), (2, .ref a2), (3, .int a3)] [] := by
  intro f
  induction f with
  | zero => intro h a0 a1 a2 a3 hr; have hr : (none : Option (HP)) = some h' := hr; cases hr
  | succ f ih => intro h a0 a1 a2 a3 hr; exact bk_Li_readWords_7 C T hl0 (L_Li_readWords_7 f) ih h a0 a1 a2 a3 hr
def P_Li_readWords (h : HP) (p0 : Nat) (p1 : Nat) : Option (HP) :=
  lt (h ++ [pB 32 (fun _ => 0)]) fun h1 =>
  lt h.length fun k2 =>
  L_Li_readWords_7 FU h1 p0 p1 k2 0
set_option maxHeartbeats 4000000 in
set_option maxRecDepth 100000 in
theorem c_Li_readWords {l : Launch} {h h' : HP} {p0 p1 : _} (hr : P_Li_readWords h p0 p1 = some h') : MP l y_Li_readWords (Cond.code y_Li_readWords b_Li_readWords 4 none :: TB) rm_Li_readWords h [.retAddr p0, .ref p1] none h' := by
  refine MP_intro (cc := b_Li_readWords) (by decide) (Nat.le_of_ble_eq_true rfl) (fun x hl0 C T hin => ?_)
  unfold P_Li_readWords at hr
  show GG x 0 0 h 0 [(0, .retAddr p0), (1, .ref p1)] []
  refine g_bipush (v := 32) C d_Li_readWords_0 (by decide) ?_
  obtain ⟨h1, eh1⟩ : ∃ z, z = h ++ [pB 32 (fun _ => 0)] := ⟨_, rfl⟩
  have hr := of_lt eh1 hr
  obtain ⟨k2, ek2⟩ : ∃ z, z = h.length := ⟨_, rfl⟩
  have hr := of_lt ek2 hr
  refine g_newBE (n' := 32) C eh1 ek2 (by decide) (by decide) (by decide) (by decide) (by decide) d_Li_readWords_2 ?_
  refine g_astore_n (lv' := [(2, .ref k2), (0, .retAddr p0), (1, .ref p1)]) C d_Li_readWords_4 rfl (by decide) rfl ?_
  refine g_iconst (v := 0) C d_Li_readWords_5 (by decide) ?_
  refine g_istore_n (lv' := [(3, .int 0), (2, .ref k2), (0, .retAddr p0), (1, .ref p1)]) C d_Li_readWords_6 rfl (by decide) rfl ?_
  refine g_lv [2, 3, 1, 0] rfl ?_
  exact lp_Li_readWords_7 C T hl0 FU h1 p0 p1 k2 0 hr
abbrev b_Li_areZero : ByteArray := prog_3_method_5_code
abbrev y_Li_areZero : MethodName := ⟨"PrimeKeys$Limbs", "areZero", "([J)Z"⟩
theorem d_Li_areZero_0 : decode b_Li_areZero 0 = .ok (.lconst 0, 1) := by decide +kernel
theorem d_Li_areZero_1 : decode b_Li_areZero 1 = .ok (.lstore_n 1, 1) := by decide +kernel
theorem d_Li_areZero_2 : decode b_Li_areZero 2 = .ok (.iconst 0, 1) := by decide +kernel
theorem d_Li_areZero_3 : decode b_Li_areZero 3 = .ok (.istore_n 3, 1) := by decide +kernel
theorem d_Li_areZero_4 : decode b_Li_areZero 4 = .ok (.iload_n 3, 1) := by decide +kernel
theorem d_Li_areZero_5 : decode b_Li_areZero 5 = .ok (.bipush 9, 2) := by decide +kernel
theorem d_Li_areZero_7 : decode b_Li_areZero 7 = .ok (.if_icmp .ge 15, 3) := by decide +kernel
theorem d_Li_areZero_10 : decode b_Li_areZero 10 = .ok (.lload_n 1, 1) := by decide +kernel
theorem d_Li_areZero_11 : decode b_Li_areZero 11 = .ok (.aload_n 0, 1) := by decide +kernel
theorem d_Li_areZero_12 : decode b_Li_areZero 12 = .ok (.iload_n 3, 1) := by decide +kernel
theorem d_Li_areZero_13 : decode b_Li_areZero 13 = .ok (.laload, 1) := by decide +kernel
theorem d_Li_areZero_14 : decode b_Li_areZero 14 = .ok (.lor, 1) := by decide +kernel
theorem d_Li_areZero_15 : decode b_Li_areZero 15 = .ok (.lstore_n 1, 1) := by decide +kernel
theorem d_Li_areZero_16 : decode b_Li_areZero 16 = .ok (.iinc 3 1, 3) := by decide +kernel
theorem d_Li_areZero_19 : decode b_Li_areZero 19 = .ok (.goto (-15), 3) := by decide +kernel
theorem d_Li_areZero_22 : decode b_Li_areZero 22 = .ok (.lload_n 1, 1) := by decide +kernel
theorem d_Li_areZero_23 : decode b_Li_areZero 23 = .ok (.lconst 0, 1) := by decide +kernel
theorem d_Li_areZero_24 : decode b_Li_areZero 24 = .ok (.lcmp, 1) := by decide +kernel
theorem d_Li_areZero_25 : decode b_Li_areZero 25 = .ok (.ifCond .ne 7, 3) := by decide +kernel
theorem d_Li_areZero_28 : decode b_Li_areZero 28 = .ok (.iconst 1, 1) := by decide +kernel
theorem d_Li_areZero_29 : decode b_Li_areZero 29 = .ok (.goto 4, 3) := by decide +kernel
theorem d_Li_areZero_32 : decode b_Li_areZero 32 = .ok (.iconst 0, 1) := by decide +kernel
theorem d_Li_areZero_33 : decode b_Li_areZero 33 = .ok (.ireturn, 1) := by decide +kernel
abbrev rm_Li_areZero : Room := { frames := 0, cells := 0, slots := 0, locals := 0 }
def B_Li_areZero_4 (K4 : HP → Nat → Int64 → Int32 → Option (Int32 × HP)) (h : HP) (a0 : Nat) (a1 : Int64) (a3 : Int32) : Option (Int32 × HP) :=
  if 9 ≤ a3 then
  if lg_cmp a1 0 = 0 then
  some (1, h)
  else
  some (0, h)
  else
  bnd (ldJ h a0 a3) fun v1 =>
  lt (a1 ||| v1) fun x2 =>
  lt (a3 + Int32.ofInt 1) fun x3 =>
  K4 h a0 x2 x3
set_option maxHeartbeats 4000000 in
set_option maxRecDepth 100000 in
theorem bk_Li_areZero_4 {l : Launch} {x : CX} {h0 h' : HP} {r' : Int32} (C : EV x b_Li_areZero "PrimeKeys$Limbs" 4 rm_Li_areZero) (T : CT x (some .boolean) rm_Li_areZero h0 (some (.int r')) h') (hl0 : x.1.2.1 = l) (K4 : HP → Nat → Int64 → Int32 → Option (Int32 × HP)) (hK4 : ∀ (h : HP) (a0 : Nat) (a1 : Int64) (a3 : Int32), K4 h a0 a1 a3 = some (r', h') → GG x 0 0 h 4 [(0, .ref a0), (1, .long a1), (3, .int a3)] []) (h : HP) (a0 : Nat) (a1 : Int64) (a3 : Int32) (hr : B_Li_areZero_4 K4 h a0 a1 a3 = some (r', h')) : GG x 0 0 h 4 [(0, .ref a0), (1, .long a1), (3, .int a3)] [] := by
  unfold B_Li_areZero_4 at hr
  refine g_iload_n C 2 rfl d_Li_areZero_4 rfl ?_
  refine g_bipush (v := 9) C d_Li_areZero_5 (by decide) ?_
  refine g_icmp_ge (tgt := 22) C d_Li_areZero_7 (by decide) (fun z => ?_) (fun z => ?_)
  · have hr := of_if z hr
    refine g_lload_n C 1 rfl d_Li_areZero_22 rfl ?_
    refine g_lconst (v := 0) C d_Li_areZero_23 (by decide) ?_
    refine g_lcmp C d_Li_areZero_24 ?_
    refine g_if_ne (tgt := 32) C d_Li_areZero_25 (by decide) (fun z => ?_) (fun z => ?_)
    · have hr := of_el z hr
      refine g_iconst (v := 0) C d_Li_areZero_32 (by decide) ?_
      cases hr
      exact g_ireturn C T rfl (by decide) (by decide) d_Li_areZero_33
    · have hr := of_if z hr
      refine g_iconst (v := 1) C d_Li_areZero_28 (by decide) ?_
      refine g_goto (tgt := 33) C d_Li_areZero_29 (by decide) ?_
      cases hr
      exact g_ireturn C T rfl (by decide) (by decide) d_Li_areZero_33
  · have hr := of_el z hr
    refine g_lload_n C 1 rfl d_Li_areZero_10 rfl ?_
    refine g_aload_n C 0 rfl d_Li_areZero_11 rfl ?_
    refine g_iload_n C 2 rfl d_Li_areZero_12 rfl ?_
    obtain ⟨v1, ev1, hr⟩ := of_bnd hr
    refine g_laload C ev1 d_Li_areZero_13 ?_
    refine g_lor C d_Li_areZero_14 ?_
    refine g_topl (fun x2 ex2 => ?_)
    have hr := of_lt ex2 hr
    refine g_lstore_n (lv' := [(1, .long x2), (0, .ref a0), (3, .int a3)]) C d_Li_areZero_15 rfl (by decide) rfl ?_
    obtain ⟨x3, ex3⟩ : ∃ z, z = a3 + Int32.ofInt 1 := ⟨_, rfl⟩
    have hr := of_lt ex3 hr
    refine g_iinc (lv' := [(3, .int x3), (1, .long x2), (0, .ref a0)]) C 2 rfl d_Li_areZero_16 ex3.symm (by decide) rfl ?_
    refine g_goto (tgt := 4) C d_Li_areZero_19 (by decide) ?_
    refine g_lv [2, 1, 0] rfl ?_
    exact hK4 h a0 x2 x3 hr
def L_Li_areZero_4 : Nat → HP → Nat → Int64 → Int32 → Option (Int32 × HP)
  | 0, _, _, _, _ => none
  | f + 1, h, a0, a1, a3 => B_Li_areZero_4 (L_Li_areZero_4 f) h a0 a1 a3
theorem lp_Li_areZero_4 {l : Launch} {x : CX} {h0 h' : HP} {r' : Int32} (C : EV x b_Li_areZero "PrimeKeys$Limbs" 4 rm_Li_areZero) (T : CT x (some .boolean) rm_Li_areZero h0 (some (.int r')) h') (hl0 : x.1.2.1 = l) : ∀ (f : Nat) (h : HP) (a0 : Nat) (a1 : Int64) (a3 : Int32), L_Li_areZero_4 f h a0 a1 a3 = some (r', h') → GG x 0 0 h 4 [(0, .ref a0), (1, .long a1), (3, .int a3)] [] := by
  intro f
  induction f with
  | zero => intro h a0 a1 a3 hr; have hr : (none : Option (Int32 × HP)) = some (r', h') := hr; cases hr
  | succ f ih => intro h a0 a1 a3 hr; exact bk_Li_areZero_4 C T hl0 (L_Li_areZero_4 f) ih h a0 a1 a3 hr
def P_Li_areZero (h : HP) (p0 : Nat) : Option (Int32 × HP) :=
  L_Li_areZero_4 FU h p0 0 0
set_option maxHeartbeats 4000000 in
set_option maxRecDepth 100000 in
theorem c_Li_areZero {l : Launch} {h h' : HP} {p0 : _} {r' : Int32} (hr : P_Li_areZero h p0 = some (r', h')) : MP l y_Li_areZero (Cond.code y_Li_areZero b_Li_areZero 4 (some .boolean) :: TB) rm_Li_areZero h [.ref p0] (some (.int r')) h' := by
  refine MP_intro (cc := b_Li_areZero) (by decide) (Nat.le_of_ble_eq_true rfl) (fun x hl0 C T hin => ?_)
  unfold P_Li_areZero at hr
  show GG x 0 0 h 0 [(0, .ref p0)] []
  refine g_lconst (v := 0) C d_Li_areZero_0 (by decide) ?_
  refine g_lstore_n (lv' := [(1, .long 0), (0, .ref p0)]) C d_Li_areZero_1 rfl (by decide) rfl ?_
  refine g_iconst (v := 0) C d_Li_areZero_2 (by decide) ?_
  refine g_istore_n (lv' := [(3, .int 0), (1, .long 0), (0, .ref p0)]) C d_Li_areZero_3 rfl (by decide) rfl ?_
  refine g_lv [2, 1, 0] rfl ?_
  exact lp_Li_areZero_4 C T hl0 FU h p0 0 0 hr
abbrev b_Li_areSame : ByteArray := prog_3_method_6_code
abbrev y_Li_areSame : MethodName := ⟨"PrimeKeys$Limbs", "areSame", "([J[J)Z"⟩
theorem d_Li_areSame_0 : decode b_Li_areSame 0 = .ok (.lconst 0, 1) := by decide +kernel
theorem d_Li_areSame_1 : decode b_Li_areSame 1 = .ok (.lstore_n 2, 1) := by decide +kernel
theorem d_Li_areSame_2 : decode b_Li_areSame 2 = .ok (.iconst 0, 1) := by decide +kernel
theorem d_Li_areSame_3 : decode b_Li_areSame 3 = .ok (.istore 4, 2) := by decide +kernel
theorem d_Li_areSame_5 : decode b_Li_areSame 5 = .ok (.iload 4, 2) := by decide +kernel
theorem d_Li_areSame_7 : decode b_Li_areSame 7 = .ok (.bipush 9, 2) := by decide +kernel
theorem d_Li_areSame_9 : decode b_Li_areSame 9 = .ok (.if_icmp .ge 21, 3) := by decide +kernel
theorem d_Li_areSame_12 : decode b_Li_areSame 12 = .ok (.lload_n 2, 1) := by decide +kernel
theorem d_Li_areSame_13 : decode b_Li_areSame 13 = .ok (.aload_n 0, 1) := by decide +kernel
theorem d_Li_areSame_14 : decode b_Li_areSame 14 = .ok (.iload 4, 2) := by decide +kernel
theorem d_Li_areSame_16 : decode b_Li_areSame 16 = .ok (.laload, 1) := by decide +kernel
theorem d_Li_areSame_17 : decode b_Li_areSame 17 = .ok (.aload_n 1, 1) := by decide +kernel
theorem d_Li_areSame_18 : decode b_Li_areSame 18 = .ok (.iload 4, 2) := by decide +kernel
theorem d_Li_areSame_20 : decode b_Li_areSame 20 = .ok (.laload, 1) := by decide +kernel
theorem d_Li_areSame_21 : decode b_Li_areSame 21 = .ok (.lxor, 1) := by decide +kernel
theorem d_Li_areSame_22 : decode b_Li_areSame 22 = .ok (.lor, 1) := by decide +kernel
theorem d_Li_areSame_23 : decode b_Li_areSame 23 = .ok (.lstore_n 2, 1) := by decide +kernel
theorem d_Li_areSame_24 : decode b_Li_areSame 24 = .ok (.iinc 4 1, 3) := by decide +kernel
theorem d_Li_areSame_27 : decode b_Li_areSame 27 = .ok (.goto (-22), 3) := by decide +kernel
theorem d_Li_areSame_30 : decode b_Li_areSame 30 = .ok (.lload_n 2, 1) := by decide +kernel
theorem d_Li_areSame_31 : decode b_Li_areSame 31 = .ok (.lconst 0, 1) := by decide +kernel
theorem d_Li_areSame_32 : decode b_Li_areSame 32 = .ok (.lcmp, 1) := by decide +kernel
theorem d_Li_areSame_33 : decode b_Li_areSame 33 = .ok (.ifCond .ne 7, 3) := by decide +kernel
theorem d_Li_areSame_36 : decode b_Li_areSame 36 = .ok (.iconst 1, 1) := by decide +kernel
theorem d_Li_areSame_37 : decode b_Li_areSame 37 = .ok (.goto 4, 3) := by decide +kernel
theorem d_Li_areSame_40 : decode b_Li_areSame 40 = .ok (.iconst 0, 1) := by decide +kernel
theorem d_Li_areSame_41 : decode b_Li_areSame 41 = .ok (.ireturn, 1) := by decide +kernel
abbrev rm_Li_areSame : Room := { frames := 0, cells := 0, slots := 0, locals := 0 }
def B_Li_areSame_5 (K5 : HP → Nat → Nat → Int64 → Int32 → Option (Int32 × HP)) (h : HP) (a0 : Nat) (a1 : Nat) (a2 : Int64) (a4 : Int32) : Option (Int32 × HP) :=
  if 9 ≤ a4 then
  if lg_cmp a2 0 = 0 then
  some (1, h)
  else
  some (0, h)
  else
  bnd (ldJ h a0 a4) fun v1 =>
  bnd (ldJ h a1 a4) fun v2 =>
  lt (a2 ||| (v1 ^^^ v2)) fun x3 =>
  lt (a4 + Int32.ofInt 1) fun x4 =>
  K5 h a0 a1 x3 x4
set_option maxHeartbeats 4000000 in
set_option maxRecDepth 100000 in
theorem bk_Li_areSame_5 {l : Launch} {x : CX} {h0 h' : HP} {r' : Int32} (C : EV x b_Li_areSame "PrimeKeys$Limbs" 5 rm_Li_areSame) (T : CT x (some .boolean) rm_Li_areSame h0 (some (.int r')) h') (hl0 : x.1.2.1 = l) (K5 : HP → Nat → Nat → Int64 → Int32 → Option (Int32 × HP)) (hK5 : ∀ (h : HP) (a0 : Nat) (a1 : Nat) (a2 : Int64) (a4 : Int32), K5 h a0 a1 a2 a4 = some (r', h') → GG x 0 0 h 5 [(0, .ref a0), (1, .ref a1), (2, .long a2), (4, .int a4)] []) (h : HP) (a0 : Nat) (a1 : Nat) (a2 : Int64) (a4 : Int32) (hr : B_Li_areSame_5 K5 h a0 a1 a2 a4 = some (r', h')) : GG x 0 0 h 5 [(0, .ref a0), (1, .ref a1), (2, .long a2), (4, .int a4)] [] := by
  unfold B_Li_areSame_5 at hr
  refine g_iload C 3 rfl d_Li_areSame_5 ?_
  refine g_bipush (v := 9) C d_Li_areSame_7 (by decide) ?_
  refine g_icmp_ge (tgt := 30) C d_Li_areSame_9 (by decide) (fun z => ?_) (fun z => ?_)
  · have hr := of_if z hr
    refine g_lload_n C 2 rfl d_Li_areSame_30 rfl ?_
    refine g_lconst (v := 0) C d_Li_areSame_31 (by decide) ?_
    refine g_lcmp C d_Li_areSame_32 ?_
    refine g_if_ne (tgt := 40) C d_Li_areSame_33 (by decide) (fun z => ?_) (fun z => ?_)
    · have hr := of_el z hr
      refine g_iconst (v := 0) C d_Li_areSame_40 (by decide) ?_
      cases hr
      exact g_ireturn C T rfl (by decide) (by decide) d_Li_areSame_41
    · have hr := of_if z hr
      refine g_iconst (v := 1) C d_Li_areSame_36 (by decide) ?_
      refine g_goto (tgt := 41) C d_Li_areSame_37 (by decide) ?_
      cases hr
      exact g_ireturn C T rfl (by decide) (by decide) d_Li_areSame_41
  · have hr := of_el z hr
    refine g_lload_n C 2 rfl d_Li_areSame_12 rfl ?_
    refine g_aload_n C 0 rfl d_Li_areSame_13 rfl ?_
    refine g_iload C 3 rfl d_Li_areSame_14 ?_
    obtain ⟨v1, ev1, hr⟩ := of_bnd hr
    refine g_laload C ev1 d_Li_areSame_16 ?_
    refine g_aload_n C 1 rfl d_Li_areSame_17 rfl ?_
    refine g_iload C 3 rfl d_Li_areSame_18 ?_
    obtain ⟨v2, ev2, hr⟩ := of_bnd hr
    refine g_laload C ev2 d_Li_areSame_20 ?_
    refine g_lxor C d_Li_areSame_21 ?_
    refine g_lor C d_Li_areSame_22 ?_
    refine g_topl (fun x3 ex3 => ?_)
    have hr := of_lt ex3 hr
    refine g_lstore_n (lv' := [(2, .long x3), (0, .ref a0), (1, .ref a1), (4, .int a4)]) C d_Li_areSame_23 rfl (by decide) rfl ?_
    obtain ⟨x4, ex4⟩ : ∃ z, z = a4 + Int32.ofInt 1 := ⟨_, rfl⟩
    have hr := of_lt ex4 hr
    refine g_iinc (lv' := [(4, .int x4), (2, .long x3), (0, .ref a0), (1, .ref a1)]) C 3 rfl d_Li_areSame_24 ex4.symm (by decide) rfl ?_
    refine g_goto (tgt := 5) C d_Li_areSame_27 (by decide) ?_
    refine g_lv [2, 3, 1, 0] rfl ?_
    exact hK5 h a0 a1 x3 x4 hr
def L_Li_areSame_5 : Nat → HP → Nat → Nat → Int64 → Int32 → Option (Int32 × HP)
  | 0, _, _, _, _, _ => none
  | f + 1, h, a0, a1, a2, a4 => B_Li_areSame_5 (L_Li_areSame_5 f) h a0 a1 a2 a4
theorem lp_Li_areSame_5 {l : Launch} {x : CX} {h0 h' : HP} {r' : Int32} (C : EV x b_Li_areSame "PrimeKeys$Limbs" 5 rm_Li_areSame) (T : CT x (some .boolean) rm_Li_areSame h0 (some (.int r')) h') (hl0 : x.1.2.1 = l) : ∀ (f : Nat) (h : HP) (a0 : Nat) (a1 : Nat) (a2 : Int64) (a4 : Int32), L_Li_areSame_5 f h a0 a1 a2 a4 = some (r', h') → GG x 0 0 h 5 [(0, .ref a0), (1, .ref a1), (2, .long a2), (4, .int a4)] [] := by
  intro f
  induction f with
  | zero => intro h a0 a1 a2 a4 hr; have hr : (none : Option (Int32 × HP)) = some (r', h') := hr; cases hr
  | succ f ih => intro h a0 a1 a2 a4 hr; exact bk_Li_areSame_5 C T hl0 (L_Li_areSame_5 f) ih h a0 a1 a2 a4 hr
def P_Li_areSame (h : HP) (p0 : Nat) (p1 : Nat) : Option (Int32 × HP) :=
  L_Li_areSame_5 FU h p0 p1 0 0
set_option maxHeartbeats 4000000 in
set_option maxRecDepth 100000 in
theorem c_Li_areSame {l : Launch} {h h' : HP} {p0 p1 : _} {r' : Int32} (hr : P_Li_areSame h p0 p1 = some (r', h')) : MP l y_Li_areSame (Cond.code y_Li_areSame b_Li_areSame 5 (some .boolean) :: TB) rm_Li_areSame h [.ref p0, .ref p1] (some (.int r')) h' := by
  refine MP_intro (cc := b_Li_areSame) (by decide) (Nat.le_of_ble_eq_true rfl) (fun x hl0 C T hin => ?_)
  unfold P_Li_areSame at hr
  show GG x 0 0 h 0 [(0, .ref p0), (1, .ref p1)] []
  refine g_lconst (v := 0) C d_Li_areSame_0 (by decide) ?_
  refine g_lstore_n (lv' := [(2, .long 0), (0, .ref p0), (1, .ref p1)]) C d_Li_areSame_1 rfl (by decide) rfl ?_
  refine g_iconst (v := 0) C d_Li_areSame_2 (by decide) ?_
  refine g_istore (lv' := [(4, .int 0), (2, .long 0), (0, .ref p0), (1, .ref p1)]) C d_Li_areSame_3 (by decide) rfl ?_
  refine g_lv [2, 3, 1, 0] rfl ?_
  exact lp_Li_areSame_5 C T hl0 FU h p0 p1 0 0 hr
abbrev b_Li_copy : ByteArray := prog_3_method_7_code
abbrev y_Li_copy : MethodName := ⟨"PrimeKeys$Limbs", "copy", "([J[J)V"⟩
theorem d_Li_copy_0 : decode b_Li_copy 0 = .ok (.aload_n 0, 1) := by decide +kernel
theorem d_Li_copy_1 : decode b_Li_copy 1 = .ok (.iconst 0, 1) := by decide +kernel
theorem d_Li_copy_2 : decode b_Li_copy 2 = .ok (.aload_n 1, 1) := by decide +kernel
theorem d_Li_copy_3 : decode b_Li_copy 3 = .ok (.iconst 0, 1) := by decide +kernel
theorem d_Li_copy_4 : decode b_Li_copy 4 = .ok (.bipush 9, 2) := by decide +kernel
theorem d_Li_copy_6 : decode b_Li_copy 6 = .ok (.invokestatic 29, 3) := by decide +kernel
theorem d_Li_copy_9 : decode b_Li_copy 9 = .ok (.return_, 1) := by decide +kernel
theorem kw_1 : Cond.methodLink "PrimeKeys$Limbs" 29 arraycopyName ∈ TB := tb_1 (List.mem_of_getElem? (i := 86) (by decide +kernel)) rfl
abbrev rm_Li_copy : Room := { frames := 1, cells := 0, slots := 0, locals := 26 }
def P_Li_copy (h : HP) (p0 : Nat) (p1 : Nat) : Option (HP) :=
  bnd (cpJ h p0 0 p1 0 9) fun h1 =>
  some h1
set_option maxHeartbeats 4000000 in
set_option maxRecDepth 100000 in
theorem c_Li_copy {l : Launch} {h h' : HP} {p0 p1 : _} (hr : P_Li_copy h p0 p1 = some h') : MP l y_Li_copy (Cond.code y_Li_copy b_Li_copy 2 none :: TB) rm_Li_copy h [.ref p0, .ref p1] none h' := by
  refine MP_intro (cc := b_Li_copy) (by decide) (Nat.le_of_ble_eq_true rfl) (fun x hl0 C T hin => ?_)
  unfold P_Li_copy at hr
  show GG x 0 0 h 0 [(0, .ref p0), (1, .ref p1)] []
  refine g_aload_n C 0 rfl d_Li_copy_0 rfl ?_
  refine g_iconst (v := 0) C d_Li_copy_1 (by decide) ?_
  refine g_aload_n C 1 rfl d_Li_copy_2 rfl ?_
  refine g_iconst (v := 0) C d_Li_copy_3 (by decide) ?_
  refine g_bipush (v := 9) C d_Li_copy_4 (by decide) ?_
  obtain ⟨h1, eh1, hr⟩ := of_bnd hr
  refine g_copyJ C eh1 kw_1 (Nat.le_of_ble_eq_true rfl) (Nat.le_of_ble_eq_true rfl) d_Li_copy_6 ?_
  cases hr
  exact g_vreturn C T (by decide) (by decide) d_Li_copy_9
end
section
abbrev b_Mo_lessPrime : ByteArray := prog_4_method_11_code
abbrev y_Mo_lessPrime : MethodName := ⟨"PrimeKeys$Modulus", "lessPrime", "([J)J"⟩
theorem d_Mo_lessPrime_0 : decode b_Mo_lessPrime 0 = .ok (.lconst 0, 1) := by decide +kernel
theorem d_Mo_lessPrime_1 : decode b_Mo_lessPrime 1 = .ok (.lstore_n 2, 1) := by decide +kernel
theorem d_Mo_lessPrime_2 : decode b_Mo_lessPrime 2 = .ok (.iconst 0, 1) := by decide +kernel
theorem d_Mo_lessPrime_3 : decode b_Mo_lessPrime 3 = .ok (.istore 4, 2) := by decide +kernel
theorem d_Mo_lessPrime_5 : decode b_Mo_lessPrime 5 = .ok (.iload 4, 2) := by decide +kernel
theorem d_Mo_lessPrime_7 : decode b_Mo_lessPrime 7 = .ok (.bipush 9, 2) := by decide +kernel
theorem d_Mo_lessPrime_9 : decode b_Mo_lessPrime 9 = .ok (.if_icmp .ge 41, 3) := by decide +kernel
theorem d_Mo_lessPrime_12 : decode b_Mo_lessPrime 12 = .ok (.lload_n 2, 1) := by decide +kernel
theorem d_Mo_lessPrime_13 : decode b_Mo_lessPrime 13 = .ok (.aload_n 1, 1) := by decide +kernel
theorem d_Mo_lessPrime_14 : decode b_Mo_lessPrime 14 = .ok (.iload 4, 2) := by decide +kernel
theorem d_Mo_lessPrime_16 : decode b_Mo_lessPrime 16 = .ok (.laload, 1) := by decide +kernel
theorem d_Mo_lessPrime_17 : decode b_Mo_lessPrime 17 = .ok (.aload_n 0, 1) := by decide +kernel
theorem d_Mo_lessPrime_18 : decode b_Mo_lessPrime 18 = .ok (.getfield 11, 3) := by decide +kernel
theorem d_Mo_lessPrime_21 : decode b_Mo_lessPrime 21 = .ok (.iload 4, 2) := by decide +kernel
theorem d_Mo_lessPrime_23 : decode b_Mo_lessPrime 23 = .ok (.laload, 1) := by decide +kernel
theorem d_Mo_lessPrime_24 : decode b_Mo_lessPrime 24 = .ok (.lsub, 1) := by decide +kernel
theorem d_Mo_lessPrime_25 : decode b_Mo_lessPrime 25 = .ok (.ladd, 1) := by decide +kernel
theorem d_Mo_lessPrime_26 : decode b_Mo_lessPrime 26 = .ok (.lstore_n 2, 1) := by decide +kernel
theorem d_Mo_lessPrime_27 : decode b_Mo_lessPrime 27 = .ok (.aload_n 0, 1) := by decide +kernel
theorem d_Mo_lessPrime_28 : decode b_Mo_lessPrime 28 = .ok (.getfield 32, 3) := by decide +kernel
theorem d_Mo_lessPrime_31 : decode b_Mo_lessPrime 31 = .ok (.iload 4, 2) := by decide +kernel
theorem d_Mo_lessPrime_33 : decode b_Mo_lessPrime 33 = .ok (.lload_n 2, 1) := by decide +kernel
theorem d_Mo_lessPrime_34 : decode b_Mo_lessPrime 34 = .ok (.ldc2_w 52, 3) := by decide +kernel
theorem d_Mo_lessPrime_37 : decode b_Mo_lessPrime 37 = .ok (.land, 1) := by decide +kernel
theorem d_Mo_lessPrime_38 : decode b_Mo_lessPrime 38 = .ok (.lastore, 1) := by decide +kernel
theorem d_Mo_lessPrime_39 : decode b_Mo_lessPrime 39 = .ok (.lload_n 2, 1) := by decide +kernel
theorem d_Mo_lessPrime_40 : decode b_Mo_lessPrime 40 = .ok (.bipush 29, 2) := by decide +kernel
theorem d_Mo_lessPrime_42 : decode b_Mo_lessPrime 42 = .ok (.lshr, 1) := by decide +kernel
theorem d_Mo_lessPrime_43 : decode b_Mo_lessPrime 43 = .ok (.lstore_n 2, 1) := by decide +kernel
theorem d_Mo_lessPrime_44 : decode b_Mo_lessPrime 44 = .ok (.iinc 4 1, 3) := by decide +kernel
theorem d_Mo_lessPrime_47 : decode b_Mo_lessPrime 47 = .ok (.goto (-42), 3) := by decide +kernel
theorem d_Mo_lessPrime_50 : decode b_Mo_lessPrime 50 = .ok (.lload_n 2, 1) := by decide +kernel
theorem d_Mo_lessPrime_51 : decode b_Mo_lessPrime 51 = .ok (.lreturn, 1) := by decide +kernel
theorem fl_Mo_11 : FL "PrimeKeys$Modulus" 11 1 0 := ⟨R_Mo, F_Mo, 9, rfl, u_Mo, by decide, rfl, tb_1 (List.mem_of_getElem? (i := 104) (by decide +kernel)) rfl⟩
theorem fl_Mo_32 : FL "PrimeKeys$Modulus" 32 1 7 := ⟨R_Mo, F_Mo, 9, rfl, u_Mo, by decide, rfl, tb_1 (List.mem_of_getElem? (i := 111) (by decide +kernel)) rfl⟩
theorem kw_2 : Cond.constantLong "PrimeKeys$Modulus" 52 536870911 ∈ TB := tb_1 (List.mem_of_getElem? (i := 94) (by decide +kernel)) rfl
abbrev rm_Mo_lessPrime : Room := { frames := 0, cells := 0, slots := 0, locals := 0 }
def B_Mo_lessPrime_5 (K5 : HP → Nat → Nat → Int64 → Int32 → Option (Int64 × HP)) (h : HP) (a0 : Nat) (a1 : Nat) (a2 : Int64) (a4 : Int32) : Option (Int64 × HP) :=
  if 9 ≤ a4 then
  some (a2, h)
  else
  bnd (ldJ h a1 a4) fun v1 =>
  bnd (gR h a0 1 0) fun k2 =>
  bnd (ldJ h k2 a4) fun v3 =>
  lt (a2 + (v1 - v3)) fun x4 =>
  bnd (gR h a0 1 7) fun k5 =>
  bnd (stJ h k5 a4 (x4 &&& 536870911)) fun h6 =>
  lt (x4 >>> (Int32.toInt64 29 &&& 63)) fun x7 =>
  lt (a4 + Int32.ofInt 1) fun x8 =>
  K5 h6 a0 a1 x7 x8
set_option maxHeartbeats 4000000 in
set_option maxRecDepth 100000 in
theorem bk_Mo_lessPrime_5 {l : Launch} {x : CX} {h0 h' : HP} {r' : Int64} (C : EV x b_Mo_lessPrime "PrimeKeys$Modulus" 5 rm_Mo_lessPrime) (T : CT x (some .long) rm_Mo_lessPrime h0 (some (.long r')) h') (hl0 : x.1.2.1 = l) (K5 : HP → Nat → Nat → Int64 → Int32 → Option (Int64 × HP)) (hK5 : ∀ (h : HP) (a0 : Nat) (a1 : Nat) (a2 : Int64) (a4 : Int32), K5 h a0 a1 a2 a4 = some (r', h') → GG x 0 0 h 5 [(0, .ref a0), (1, .ref a1), (2, .long a2), (4, .int a4)] []) (h : HP) (a0 : Nat) (a1 : Nat) (a2 : Int64) (a4 : Int32) (hr : B_Mo_lessPrime_5 K5 h a0 a1 a2 a4 = some (r', h')) : GG x 0 0 h 5 [(0, .ref a0), (1, .ref a1), (2, .long a2), (4, .int a4)] [] := by
  unfold B_Mo_lessPrime_5 at hr
  refine g_iload C 3 rfl d_Mo_lessPrime_5 ?_
  refine g_bipush (v := 9) C d_Mo_lessPrime_7 (by decide) ?_
  refine g_icmp_ge (tgt := 50) C d_Mo_lessPrime_9 (by decide) (fun z => ?_) (fun z => ?_)
  · have hr := of_if z hr
    refine g_lload_n C 2 rfl d_Mo_lessPrime_50 rfl ?_
    cases hr
    exact g_lreturn C T (by decide) (by decide) d_Mo_lessPrime_51
  · have hr := of_el z hr
    refine g_lload_n C 2 rfl d_Mo_lessPrime_12 rfl ?_
    refine g_aload_n C 1 rfl d_Mo_lessPrime_13 rfl ?_
    refine g_iload C 3 rfl d_Mo_lessPrime_14 ?_
    obtain ⟨v1, ev1, hr⟩ := of_bnd hr
    refine g_laload C ev1 d_Mo_lessPrime_16 ?_
    refine g_aload_n C 0 rfl d_Mo_lessPrime_17 rfl ?_
    obtain ⟨k2, ek2, hr⟩ := of_bnd hr
    refine g_getR C fl_Mo_11 ek2 d_Mo_lessPrime_18 ?_
    refine g_iload C 3 rfl d_Mo_lessPrime_21 ?_
    obtain ⟨v3, ev3, hr⟩ := of_bnd hr
    refine g_laload C ev3 d_Mo_lessPrime_23 ?_
    refine g_lsub C d_Mo_lessPrime_24 ?_
    refine g_ladd C d_Mo_lessPrime_25 ?_
    refine g_topl (fun x4 ex4 => ?_)
    have hr := of_lt ex4 hr
    refine g_lstore_n (lv' := [(2, .long x4), (0, .ref a0), (1, .ref a1), (4, .int a4)]) C d_Mo_lessPrime_26 rfl (by decide) rfl ?_
    refine g_aload_n C 1 rfl d_Mo_lessPrime_27 rfl ?_
    obtain ⟨k5, ek5, hr⟩ := of_bnd hr
    refine g_getR C fl_Mo_32 ek5 d_Mo_lessPrime_28 ?_
    refine g_iload C 3 rfl d_Mo_lessPrime_31 ?_
    refine g_lload_n C 0 rfl d_Mo_lessPrime_33 rfl ?_
    refine g_ldc2 (v := 536870911) C d_Mo_lessPrime_34 kw_2 ?_
    refine g_land C d_Mo_lessPrime_37 ?_
    obtain ⟨h6, eh6, hr⟩ := of_bnd hr
    refine g_lastore C eh6 d_Mo_lessPrime_38 ?_
    refine g_lload_n C 0 rfl d_Mo_lessPrime_39 rfl ?_
    refine g_bipush (v := 29) C d_Mo_lessPrime_40 (by decide) ?_
    refine g_lshr C d_Mo_lessPrime_42 ?_
    refine g_topl (fun x7 ex7 => ?_)
    have hr := of_lt ex7 hr
    refine g_lstore_n (lv' := [(2, .long x7), (0, .ref a0), (1, .ref a1), (4, .int a4)]) C d_Mo_lessPrime_43 rfl (by decide) rfl ?_
    obtain ⟨x8, ex8⟩ : ∃ z, z = a4 + Int32.ofInt 1 := ⟨_, rfl⟩
    have hr := of_lt ex8 hr
    refine g_iinc (lv' := [(4, .int x8), (2, .long x7), (0, .ref a0), (1, .ref a1)]) C 3 rfl d_Mo_lessPrime_44 ex8.symm (by decide) rfl ?_
    refine g_goto (tgt := 5) C d_Mo_lessPrime_47 (by decide) ?_
    refine g_lv [2, 3, 1, 0] rfl ?_
    exact hK5 h6 a0 a1 x7 x8 hr
def L_Mo_lessPrime_5 : Nat → HP → Nat → Nat → Int64 → Int32 → Option (Int64 × HP)
  | 0, _, _, _, _, _ => none
  | f + 1, h, a0, a1, a2, a4 => B_Mo_lessPrime_5 (L_Mo_lessPrime_5 f) h a0 a1 a2 a4
theorem lp_Mo_lessPrime_5 {l : Launch} {x : CX} {h0 h' : HP} {r' : Int64} (C : EV x b_Mo_lessPrime "PrimeKeys$Modulus" 5 rm_Mo_lessPrime) (T : CT x (some .long) rm_Mo_lessPrime h0 (some (.long r')) h') (hl0 : x.1.2.1 = l) : ∀ (f : Nat) (h : HP) (a0 : Nat) (a1 : Nat) (a2 : Int64) (a4 : Int32), L_Mo_lessPrime_5 f h a0 a1 a2 a4 = some (r', h') → GG x 0 0 h 5 [(0, .ref a0), (1, .ref a1), (2, .long a2), (4, .int a4)] [] := by
  intro f
  induction f with
  | zero => intro h a0 a1 a2 a4 hr; have hr : (none : Option (Int64 × HP)) = some (r', h') := hr; cases hr
  | succ f ih => intro h a0 a1 a2 a4 hr; exact bk_Mo_lessPrime_5 C T hl0 (L_Mo_lessPrime_5 f) ih h a0 a1 a2 a4 hr
def P_Mo_lessPrime (h : HP) (p0 : Nat) (p1 : Nat) : Option (Int64 × HP) :=
  L_Mo_lessPrime_5 FU h p0 p1 0 0
set_option maxHeartbeats 4000000 in
set_option maxRecDepth 100000 in
theorem c_Mo_lessPrime {l : Launch} {h h' : HP} {p0 p1 : _} {r' : Int64} (hr : P_Mo_lessPrime h p0 p1 = some (r', h')) : MP l y_Mo_lessPrime (Cond.code y_Mo_lessPrime b_Mo_lessPrime 5 (some .long) :: TB) rm_Mo_lessPrime h [.ref p0, .ref p1] (some (.long r')) h' := by
  refine MP_intro (cc := b_Mo_lessPrime) (by decide) (Nat.le_of_ble_eq_true rfl) (fun x hl0 C T hin => ?_)
  unfold P_Mo_lessPrime at hr
  show GG x 0 0 h 0 [(0, .ref p0), (1, .ref p1)] []
  refine g_lconst (v := 0) C d_Mo_lessPrime_0 (by decide) ?_
  refine g_lstore_n (lv' := [(2, .long 0), (0, .ref p0), (1, .ref p1)]) C d_Mo_lessPrime_1 rfl (by decide) rfl ?_
  refine g_iconst (v := 0) C d_Mo_lessPrime_2 (by decide) ?_
  refine g_istore (lv' := [(4, .int 0), (2, .long 0), (0, .ref p0), (1, .ref p1)]) C d_Mo_lessPrime_3 (by decide) rfl ?_
  refine g_lv [2, 3, 1, 0] rfl ?_
  exact lp_Mo_lessPrime_5 C T hl0 FU h p0 p1 0 0 hr
abbrev b_Mo_addPrime : ByteArray := prog_4_method_12_code
abbrev y_Mo_addPrime : MethodName := ⟨"PrimeKeys$Modulus", "addPrime", "([J)V"⟩
theorem d_Mo_addPrime_0 : decode b_Mo_addPrime 0 = .ok (.lconst 0, 1) := by decide +kernel
theorem d_Mo_addPrime_1 : decode b_Mo_addPrime 1 = .ok (.lstore_n 2, 1) := by decide +kernel
theorem d_Mo_addPrime_2 : decode b_Mo_addPrime 2 = .ok (.iconst 0, 1) := by decide +kernel
theorem d_Mo_addPrime_3 : decode b_Mo_addPrime 3 = .ok (.istore 4, 2) := by decide +kernel
theorem d_Mo_addPrime_5 : decode b_Mo_addPrime 5 = .ok (.iload 4, 2) := by decide +kernel
theorem d_Mo_addPrime_7 : decode b_Mo_addPrime 7 = .ok (.bipush 9, 2) := by decide +kernel
theorem d_Mo_addPrime_9 : decode b_Mo_addPrime 9 = .ok (.if_icmp .ge 38, 3) := by decide +kernel
theorem d_Mo_addPrime_12 : decode b_Mo_addPrime 12 = .ok (.lload_n 2, 1) := by decide +kernel
theorem d_Mo_addPrime_13 : decode b_Mo_addPrime 13 = .ok (.aload_n 1, 1) := by decide +kernel
theorem d_Mo_addPrime_14 : decode b_Mo_addPrime 14 = .ok (.iload 4, 2) := by decide +kernel
theorem d_Mo_addPrime_16 : decode b_Mo_addPrime 16 = .ok (.laload, 1) := by decide +kernel
theorem d_Mo_addPrime_17 : decode b_Mo_addPrime 17 = .ok (.aload_n 0, 1) := by decide +kernel
theorem d_Mo_addPrime_18 : decode b_Mo_addPrime 18 = .ok (.getfield 11, 3) := by decide +kernel
theorem d_Mo_addPrime_21 : decode b_Mo_addPrime 21 = .ok (.iload 4, 2) := by decide +kernel
theorem d_Mo_addPrime_23 : decode b_Mo_addPrime 23 = .ok (.laload, 1) := by decide +kernel
theorem d_Mo_addPrime_24 : decode b_Mo_addPrime 24 = .ok (.ladd, 1) := by decide +kernel
theorem d_Mo_addPrime_25 : decode b_Mo_addPrime 25 = .ok (.ladd, 1) := by decide +kernel
theorem d_Mo_addPrime_26 : decode b_Mo_addPrime 26 = .ok (.lstore_n 2, 1) := by decide +kernel
theorem d_Mo_addPrime_27 : decode b_Mo_addPrime 27 = .ok (.aload_n 1, 1) := by decide +kernel
theorem d_Mo_addPrime_28 : decode b_Mo_addPrime 28 = .ok (.iload 4, 2) := by decide +kernel
theorem d_Mo_addPrime_30 : decode b_Mo_addPrime 30 = .ok (.lload_n 2, 1) := by decide +kernel
theorem d_Mo_addPrime_31 : decode b_Mo_addPrime 31 = .ok (.ldc2_w 52, 3) := by decide +kernel
theorem d_Mo_addPrime_34 : decode b_Mo_addPrime 34 = .ok (.land, 1) := by decide +kernel
theorem d_Mo_addPrime_35 : decode b_Mo_addPrime 35 = .ok (.lastore, 1) := by decide +kernel
theorem d_Mo_addPrime_36 : decode b_Mo_addPrime 36 = .ok (.lload_n 2, 1) := by decide +kernel
theorem d_Mo_addPrime_37 : decode b_Mo_addPrime 37 = .ok (.bipush 29, 2) := by decide +kernel
theorem d_Mo_addPrime_39 : decode b_Mo_addPrime 39 = .ok (.lshr, 1) := by decide +kernel
theorem d_Mo_addPrime_40 : decode b_Mo_addPrime 40 = .ok (.lstore_n 2, 1) := by decide +kernel
theorem d_Mo_addPrime_41 : decode b_Mo_addPrime 41 = .ok (.iinc 4 1, 3) := by decide +kernel
theorem d_Mo_addPrime_44 : decode b_Mo_addPrime 44 = .ok (.goto (-39), 3) := by decide +kernel
theorem d_Mo_addPrime_47 : decode b_Mo_addPrime 47 = .ok (.return_, 1) := by decide +kernel
abbrev rm_Mo_addPrime : Room := { frames := 0, cells := 0, slots := 0, locals := 0 }
def B_Mo_addPrime_5 (K5 : HP → Nat → Nat → Int64 → Int32 → Option (HP)) (h : HP) (a0 : Nat) (a1 : Nat) (a2 : Int64) (a4 : Int32) : Option (HP) :=
  if 9 ≤ a4 then
  some h
  else
  bnd (ldJ h a1 a4) fun v1 =>
  bnd (gR h a0 1 0) fun k2 =>
  bnd (ldJ h k2 a4) fun v3 =>
  lt (a2 + (v1 + v3)) fun x4 =>
  bnd (stJ h a1 a4 (x4 &&& 536870911)) fun h5 =>
  lt (x4 >>> (Int32.toInt64 29 &&& 63)) fun x6 =>
  lt (a4 + Int32.ofInt 1) fun x7 =>
  K5 h5 a0 a1 x6 x7
set_option maxHeartbeats 4000000 in
set_option maxRecDepth 100000 in
theorem bk_Mo_addPrime_5 {l : Launch} {x : CX} {h0 h' : HP} (C : EV x b_Mo_addPrime "PrimeKeys$Modulus" 5 rm_Mo_addPrime) (T : CT x (none) rm_Mo_addPrime h0 none h') (hl0 : x.1.2.1 = l) (K5 : HP → Nat → Nat → Int64 → Int32 → Option (HP)) (hK5 : ∀ (h : HP) (a0 : Nat) (a1 : Nat) (a2 : Int64) (a4 : Int32), K5 h a0 a1 a2 a4 = some h' → GG x 0 0 h 5 [(0, .ref a0), (1, .ref a1), (2, .long a2), (4, .int a4)] []) (h : HP) (a0 : Nat) (a1 : Nat) (a2 : Int64) (a4 : Int32) (hr : B_Mo_addPrime_5 K5 h a0 a1 a2 a4 = some h') : GG x 0 0 h 5 [(0, .ref a0), (1, .ref a1), (2, .long a2), (4, .int a4)] [] := by
  unfold B_Mo_addPrime_5 at hr
  refine g_iload C 3 rfl d_Mo_addPrime_5 ?_
  refine g_bipush (v := 9) C d_Mo_addPrime_7 (by decide) ?_
  refine g_icmp_ge (tgt := 47) C d_Mo_addPrime_9 (by decide) (fun z => ?_) (fun z => ?_)
  · have hr := of_if z hr
    cases hr
    exact g_vreturn C T (by decide) (by decide) d_Mo_addPrime_47
  · have hr := of_el z hr
    refine g_lload_n C 2 rfl d_Mo_addPrime_12 rfl ?_
    refine g_aload_n C 1 rfl d_Mo_addPrime_13 rfl ?_
    refine g_iload C 3 rfl d_Mo_addPrime_14 ?_
    obtain ⟨v1, ev1, hr⟩ := of_bnd hr
    refine g_laload C ev1 d_Mo_addPrime_16 ?_
    refine g_aload_n C 0 rfl d_Mo_addPrime_17 rfl ?_
    obtain ⟨k2, ek2, hr⟩ := of_bnd hr
    refine g_getR C fl_Mo_11 ek2 d_Mo_addPrime_18 ?_
    refine g_iload C 3 rfl d_Mo_addPrime_21 ?_
    obtain ⟨v3, ev3, hr⟩ := of_bnd hr
    refine g_laload C ev3 d_Mo_addPrime_23 ?_
    refine g_ladd C d_Mo_addPrime_24 ?_
    refine g_ladd C d_Mo_addPrime_25 ?_
    refine g_topl (fun x4 ex4 => ?_)
    have hr := of_lt ex4 hr
    refine g_lstore_n (lv' := [(2, .long x4), (0, .ref a0), (1, .ref a1), (4, .int a4)]) C d_Mo_addPrime_26 rfl (by decide) rfl ?_
    refine g_aload_n C 2 rfl d_Mo_addPrime_27 rfl ?_
    refine g_iload C 3 rfl d_Mo_addPrime_28 ?_
    refine g_lload_n C 0 rfl d_Mo_addPrime_30 rfl ?_
    refine g_ldc2 (v := 536870911) C d_Mo_addPrime_31 kw_2 ?_
    refine g_land C d_Mo_addPrime_34 ?_
    obtain ⟨h5, eh5, hr⟩ := of_bnd hr
    refine g_lastore C eh5 d_Mo_addPrime_35 ?_
    refine g_lload_n C 0 rfl d_Mo_addPrime_36 rfl ?_
    refine g_bipush (v := 29) C d_Mo_addPrime_37 (by decide) ?_
    refine g_lshr C d_Mo_addPrime_39 ?_
    refine g_topl (fun x6 ex6 => ?_)
    have hr := of_lt ex6 hr
    refine g_lstore_n (lv' := [(2, .long x6), (0, .ref a0), (1, .ref a1), (4, .int a4)]) C d_Mo_addPrime_40 rfl (by decide) rfl ?_
    obtain ⟨x7, ex7⟩ : ∃ z, z = a4 + Int32.ofInt 1 := ⟨_, rfl⟩
    have hr := of_lt ex7 hr
    refine g_iinc (lv' := [(4, .int x7), (2, .long x6), (0, .ref a0), (1, .ref a1)]) C 3 rfl d_Mo_addPrime_41 ex7.symm (by decide) rfl ?_
    refine g_goto (tgt := 5) C d_Mo_addPrime_44 (by decide) ?_
    refine g_lv [2, 3, 1, 0] rfl ?_
    exact hK5 h5 a0 a1 x6 x7 hr
def L_Mo_addPrime_5 : Nat → HP → Nat → Nat → Int64 → Int32 → Option (HP)
  | 0, _, _, _, _, _ => none
  | f + 1, h, a0, a1, a2, a4 => B_Mo_addPrime_5 (L_Mo_addPrime_5 f) h a0 a1 a2 a4
theorem lp_Mo_addPrime_5 {l : Launch} {x : CX} {h0 h' : HP} (C : EV x b_Mo_addPrime "PrimeKeys$Modulus" 5 rm_Mo_addPrime) (T : CT x (none) rm_Mo_addPrime h0 none h') (hl0 : x.1.2.1 = l) : ∀ (f : Nat) (h : HP) (a0 : Nat) (a1 : Nat) (a2 : Int64) (a4 : Int32), L_Mo_addPrime_5 f h a0 a1 a2 a4 = some h' → GG x 0 0 h 5 [(0, .ref a0), (1, .ref a1), (2, .long a2), (4, .int a4)] [] := by
  intro f
  induction f with
  | zero => intro h a0 a1 a2 a4 hr; have hr : (none : Option (HP)) = some h' := hr; cases hr
  | succ f ih => intro h a0 a1 a2 a4 hr; exact bk_Mo_addPrime_5 C T hl0 (L_Mo_addPrime_5 f) ih h a0 a1 a2 a4 hr
def P_Mo_addPrime (h : HP) (p0 : Nat) (p1 : Nat) : Option (HP) :=
  L_Mo_addPrime_5 FU h p0 p1 0 0
set_option maxHeartbeats 4000000 in
set_option maxRecDepth 100000 in
theorem c_Mo_addPrime {l : Launch} {h h' : HP} {p0 p1 : _} (hr : P_Mo_addPrime h p0 p1 = some h') : MP l y_Mo_addPrime (Cond.code y_Mo_addPrime b_Mo_addPrime 5 none :: TB) rm_Mo_addPrime h [.ref p0, .ref p1] none h' := by
  refine MP_intro (cc := b_Mo_addPrime) (by decide) (Nat.le_of_ble_eq_true rfl) (fun x hl0 C T hin => ?_)
  unfold P_Mo_addPrime at hr
  show GG x 0 0 h 0 [(0, .ref p0), (1, .ref p1)] []
  refine g_lconst (v := 0) C d_Mo_addPrime_0 (by decide) ?_
  refine g_lstore_n (lv' := [(2, .long 0), (0, .ref p0), (1, .ref p1)]) C d_Mo_addPrime_1 rfl (by decide) rfl ?_
  refine g_iconst (v := 0) C d_Mo_addPrime_2 (by decide) ?_
  refine g_istore (lv' := [(4, .int 0), (2, .long 0), (0, .ref p0), (1, .ref p1)]) C d_Mo_addPrime_3 (by decide) rfl ?_
  refine g_lv [2, 3, 1, 0] rfl ?_
  exact lp_Mo_addPrime_5 C T hl0 FU h p0 p1 0 0 hr
abbrev b_Mo_reduceOnce : ByteArray := prog_4_method_6_code
abbrev y_Mo_reduceOnce : MethodName := ⟨"PrimeKeys$Modulus", "reduceOnce", "([J)V"⟩
theorem d_Mo_reduceOnce_0 : decode b_Mo_reduceOnce 0 = .ok (.aload_n 1, 1) := by decide +kernel
theorem d_Mo_reduceOnce_1 : decode b_Mo_reduceOnce 1 = .ok (.bipush 8, 2) := by decide +kernel
theorem d_Mo_reduceOnce_3 : decode b_Mo_reduceOnce 3 = .ok (.laload, 1) := by decide +kernel
theorem d_Mo_reduceOnce_4 : decode b_Mo_reduceOnce 4 = .ok (.aload_n 0, 1) := by decide +kernel
theorem d_Mo_reduceOnce_5 : decode b_Mo_reduceOnce 5 = .ok (.getfield 11, 3) := by decide +kernel
theorem d_Mo_reduceOnce_8 : decode b_Mo_reduceOnce 8 = .ok (.bipush 8, 2) := by decide +kernel
theorem d_Mo_reduceOnce_10 : decode b_Mo_reduceOnce 10 = .ok (.laload, 1) := by decide +kernel
theorem d_Mo_reduceOnce_11 : decode b_Mo_reduceOnce 11 = .ok (.lcmp, 1) := by decide +kernel
theorem d_Mo_reduceOnce_12 : decode b_Mo_reduceOnce 12 = .ok (.ifCond .lt 25, 3) := by decide +kernel
theorem d_Mo_reduceOnce_15 : decode b_Mo_reduceOnce 15 = .ok (.aload_n 0, 1) := by decide +kernel
theorem d_Mo_reduceOnce_16 : decode b_Mo_reduceOnce 16 = .ok (.aload_n 1, 1) := by decide +kernel
theorem d_Mo_reduceOnce_17 : decode b_Mo_reduceOnce 17 = .ok (.invokevirtual 61, 3) := by decide +kernel
theorem d_Mo_reduceOnce_20 : decode b_Mo_reduceOnce 20 = .ok (.lconst 0, 1) := by decide +kernel
theorem d_Mo_reduceOnce_21 : decode b_Mo_reduceOnce 21 = .ok (.lcmp, 1) := by decide +kernel
theorem d_Mo_reduceOnce_22 : decode b_Mo_reduceOnce 22 = .ok (.ifCond .lt 15, 3) := by decide +kernel
theorem d_Mo_reduceOnce_25 : decode b_Mo_reduceOnce 25 = .ok (.aload_n 0, 1) := by decide +kernel
theorem d_Mo_reduceOnce_26 : decode b_Mo_reduceOnce 26 = .ok (.getfield 32, 3) := by decide +kernel
theorem d_Mo_reduceOnce_29 : decode b_Mo_reduceOnce 29 = .ok (.iconst 0, 1) := by decide +kernel
theorem d_Mo_reduceOnce_30 : decode b_Mo_reduceOnce 30 = .ok (.aload_n 1, 1) := by decide +kernel
theorem d_Mo_reduceOnce_31 : decode b_Mo_reduceOnce 31 = .ok (.iconst 0, 1) := by decide +kernel
theorem d_Mo_reduceOnce_32 : decode b_Mo_reduceOnce 32 = .ok (.bipush 9, 2) := by decide +kernel
theorem d_Mo_reduceOnce_34 : decode b_Mo_reduceOnce 34 = .ok (.invokestatic 65, 3) := by decide +kernel
theorem d_Mo_reduceOnce_37 : decode b_Mo_reduceOnce 37 = .ok (.return_, 1) := by decide +kernel
theorem kw_3 : Cond.methodLink "PrimeKeys$Modulus" 65 arraycopyName ∈ TB := tb_1 (List.mem_of_getElem? (i := 103) (by decide +kernel)) rfl
theorem cd_Mo_61 : CD "PrimeKeys$Modulus" 61 y_Mo_lessPrime b_Mo_lessPrime 5 (some .long) 1 := ⟨tb_1 (List.mem_of_getElem? (i := 102) rfl) rfl, tb_1 (List.mem_of_getElem? (i := 4) (by decide +kernel)) rfl, tb_1 (List.mem_of_getElem? (i := 99) (by decide +kernel)) rfl, by decide +kernel⟩
theorem kw_in_Mo_lessPrime : Cond.instanceMethod y_Mo_lessPrime ∈ TB := tb_1 (List.mem_of_getElem? (i := 101) (by decide +kernel)) rfl
theorem kw_se_Mo_lessPrime : Cond.selects "PrimeKeys$Modulus" y_Mo_lessPrime y_Mo_lessPrime ∈ TB := tb_p (q := (y_Mo_lessPrime, 9)) (by decide +kernel)
abbrev rm_Mo_reduceOnce : Room := { frames := 1, cells := 0, slots := 0, locals := 26 }
def B_Mo_reduceOnce_37 (h : HP) : Option (HP) :=
  some h
set_option maxHeartbeats 4000000 in
set_option maxRecDepth 100000 in
theorem bk_Mo_reduceOnce_37 {l : Launch} {x : CX} {h0 h' : HP} (C : EV x b_Mo_reduceOnce "PrimeKeys$Modulus" 2 rm_Mo_reduceOnce) (T : CT x (none) rm_Mo_reduceOnce h0 none h') (hl0 : x.1.2.1 = l) (h : HP) (hr : B_Mo_reduceOnce_37 h = some h') : GG x 0 0 h 37 [] [] := by
  unfold B_Mo_reduceOnce_37 at hr
  cases hr
  exact g_vreturn C T (by decide) (by decide) d_Mo_reduceOnce_37
def P_Mo_reduceOnce (h : HP) (p0 : Nat) (p1 : Nat) : Option (HP) :=
  bnd (ldJ h p1 8) fun v1 =>
  bnd (gR h p0 1 0) fun k2 =>
  bnd (ldJ h k2 8) fun v3 =>
  if lg_cmp v1 v3 < 0 then
  B_Mo_reduceOnce_37 h
  else
  ob h p0 1 (
  bnd2 (P_Mo_lessPrime h p0 p1) fun v5 h4 =>
  if lg_cmp v5 0 < 0 then
  B_Mo_reduceOnce_37 h4
  else
  bnd (gR h4 p0 1 7) fun k6 =>
  bnd (cpJ h4 k6 0 p1 0 9) fun h7 =>
  B_Mo_reduceOnce_37 h7)
set_option maxHeartbeats 4000000 in
set_option maxRecDepth 100000 in
theorem c_Mo_reduceOnce {l : Launch} {h h' : HP} {p0 p1 : _} (hr : P_Mo_reduceOnce h p0 p1 = some h') : MP l y_Mo_reduceOnce (Cond.code y_Mo_reduceOnce b_Mo_reduceOnce 2 none :: TB) rm_Mo_reduceOnce h [.ref p0, .ref p1] none h' := by
  refine MP_intro (cc := b_Mo_reduceOnce) (by decide) (Nat.le_of_ble_eq_true rfl) (fun x hl0 C T hin => ?_)
  unfold P_Mo_reduceOnce at hr
  show GG x 0 0 h 0 [(0, .ref p0), (1, .ref p1)] []
  refine g_aload_n C 1 rfl d_Mo_reduceOnce_0 rfl ?_
  refine g_bipush (v := 8) C d_Mo_reduceOnce_1 (by decide) ?_
  obtain ⟨v1, ev1, hr⟩ := of_bnd hr
  refine g_laload C ev1 d_Mo_reduceOnce_3 ?_
  refine g_aload_n C 0 rfl d_Mo_reduceOnce_4 rfl ?_
  obtain ⟨k2, ek2, hr⟩ := of_bnd hr
  refine g_getR C fl_Mo_11 ek2 d_Mo_reduceOnce_5 ?_
  refine g_bipush (v := 8) C d_Mo_reduceOnce_8 (by decide) ?_
  obtain ⟨v3, ev3, hr⟩ := of_bnd hr
  refine g_laload C ev3 d_Mo_reduceOnce_10 ?_
  refine g_lcmp C d_Mo_reduceOnce_11 ?_
  refine g_if_lt (tgt := 37) C d_Mo_reduceOnce_12 (by decide) (fun z => ?_) (fun z => ?_)
  · have hr := of_if z hr
    refine g_lv [] rfl ?_
    exact bk_Mo_reduceOnce_37 C T hl0 h hr
  · have hr := of_el z hr
    refine g_aload_n C 0 rfl d_Mo_reduceOnce_15 rfl ?_
    refine g_aload_n C 1 rfl d_Mo_reduceOnce_16 rfl ?_
    obtain ⟨fsh4, hoh4, hr⟩ := of_ob hr
    obtain ⟨v5, h4, eh4, hr⟩ := of_bnd2 hr
    refine g_callV (pa := [.ref p1]) C hl0 (c_Mo_lessPrime eh4) cd_Mo_61 kw_in_Mo_lessPrime kw_se_Mo_lessPrime hoh4 rfl rfl (by decide) rfl rfl (Nat.le_of_ble_eq_true rfl) d_Mo_reduceOnce_17 ?_
    refine g_lconst (v := 0) C d_Mo_reduceOnce_20 (by decide) ?_
    refine g_lcmp C d_Mo_reduceOnce_21 ?_
    refine g_if_lt (tgt := 37) C d_Mo_reduceOnce_22 (by decide) (fun z => ?_) (fun z => ?_)
    · have hr := of_if z hr
      refine g_lv [] rfl ?_
      exact bk_Mo_reduceOnce_37 C T hl0 h4 hr
    · have hr := of_el z hr
      refine g_aload_n C 0 rfl d_Mo_reduceOnce_25 rfl ?_
      obtain ⟨k6, ek6, hr⟩ := of_bnd hr
      refine g_getR C fl_Mo_32 ek6 d_Mo_reduceOnce_26 ?_
      refine g_iconst (v := 0) C d_Mo_reduceOnce_29 (by decide) ?_
      refine g_aload_n C 1 rfl d_Mo_reduceOnce_30 rfl ?_
      refine g_iconst (v := 0) C d_Mo_reduceOnce_31 (by decide) ?_
      refine g_bipush (v := 9) C d_Mo_reduceOnce_32 (by decide) ?_
      obtain ⟨h7, eh7, hr⟩ := of_bnd hr
      refine g_copyJ C eh7 kw_3 (Nat.le_of_ble_eq_true rfl) (Nat.le_of_ble_eq_true rfl) d_Mo_reduceOnce_34 ?_
      refine g_lv [] rfl ?_
      exact bk_Mo_reduceOnce_37 C T hl0 h7 hr
abbrev b_Mo_add : ByteArray := prog_4_method_7_code
abbrev y_Mo_add : MethodName := ⟨"PrimeKeys$Modulus", "add", "([J[J[J)V"⟩
theorem d_Mo_add_0 : decode b_Mo_add 0 = .ok (.lconst 0, 1) := by decide +kernel
theorem d_Mo_add_1 : decode b_Mo_add 1 = .ok (.lstore 4, 2) := by decide +kernel
theorem d_Mo_add_3 : decode b_Mo_add 3 = .ok (.iconst 0, 1) := by decide +kernel
theorem d_Mo_add_4 : decode b_Mo_add 4 = .ok (.istore 6, 2) := by decide +kernel
theorem d_Mo_add_6 : decode b_Mo_add 6 = .ok (.iload 6, 2) := by decide +kernel
theorem d_Mo_add_8 : decode b_Mo_add 8 = .ok (.bipush 9, 2) := by decide +kernel
theorem d_Mo_add_10 : decode b_Mo_add 10 = .ok (.if_icmp .ge 40, 3) := by decide +kernel
theorem d_Mo_add_13 : decode b_Mo_add 13 = .ok (.lload 4, 2) := by decide +kernel
theorem d_Mo_add_15 : decode b_Mo_add 15 = .ok (.aload_n 1, 1) := by decide +kernel
theorem d_Mo_add_16 : decode b_Mo_add 16 = .ok (.iload 6, 2) := by decide +kernel
theorem d_Mo_add_18 : decode b_Mo_add 18 = .ok (.laload, 1) := by decide +kernel
theorem d_Mo_add_19 : decode b_Mo_add 19 = .ok (.aload_n 2, 1) := by decide +kernel
theorem d_Mo_add_20 : decode b_Mo_add 20 = .ok (.iload 6, 2) := by decide +kernel
theorem d_Mo_add_22 : decode b_Mo_add 22 = .ok (.laload, 1) := by decide +kernel
theorem d_Mo_add_23 : decode b_Mo_add 23 = .ok (.ladd, 1) := by decide +kernel
theorem d_Mo_add_24 : decode b_Mo_add 24 = .ok (.ladd, 1) := by decide +kernel
theorem d_Mo_add_25 : decode b_Mo_add 25 = .ok (.lstore 4, 2) := by decide +kernel
theorem d_Mo_add_27 : decode b_Mo_add 27 = .ok (.aload_n 3, 1) := by decide +kernel
theorem d_Mo_add_28 : decode b_Mo_add 28 = .ok (.iload 6, 2) := by decide +kernel
theorem d_Mo_add_30 : decode b_Mo_add 30 = .ok (.lload 4, 2) := by decide +kernel
theorem d_Mo_add_32 : decode b_Mo_add 32 = .ok (.ldc2_w 52, 3) := by decide +kernel
theorem d_Mo_add_35 : decode b_Mo_add 35 = .ok (.land, 1) := by decide +kernel
theorem d_Mo_add_36 : decode b_Mo_add 36 = .ok (.lastore, 1) := by decide +kernel
theorem d_Mo_add_37 : decode b_Mo_add 37 = .ok (.lload 4, 2) := by decide +kernel
theorem d_Mo_add_39 : decode b_Mo_add 39 = .ok (.bipush 29, 2) := by decide +kernel
theorem d_Mo_add_41 : decode b_Mo_add 41 = .ok (.lshr, 1) := by decide +kernel
theorem d_Mo_add_42 : decode b_Mo_add 42 = .ok (.lstore 4, 2) := by decide +kernel
theorem d_Mo_add_44 : decode b_Mo_add 44 = .ok (.iinc 6 1, 3) := by decide +kernel
theorem d_Mo_add_47 : decode b_Mo_add 47 = .ok (.goto (-41), 3) := by decide +kernel
theorem d_Mo_add_50 : decode b_Mo_add 50 = .ok (.aload_n 0, 1) := by decide +kernel
theorem d_Mo_add_51 : decode b_Mo_add 51 = .ok (.aload_n 3, 1) := by decide +kernel
theorem d_Mo_add_52 : decode b_Mo_add 52 = .ok (.invokevirtual 71, 3) := by decide +kernel
theorem d_Mo_add_55 : decode b_Mo_add 55 = .ok (.return_, 1) := by decide +kernel
theorem cd_Mo_71 : CD "PrimeKeys$Modulus" 71 y_Mo_reduceOnce b_Mo_reduceOnce 2 none 1 := ⟨tb_1 (List.mem_of_getElem? (i := 98) rfl) rfl, tb_1 (List.mem_of_getElem? (i := 4) (by decide +kernel)) rfl, tb_1 (List.mem_of_getElem? (i := 95) (by decide +kernel)) rfl, by decide +kernel⟩
theorem kw_in_Mo_reduceOnce : Cond.instanceMethod y_Mo_reduceOnce ∈ TB := tb_1 (List.mem_of_getElem? (i := 96) (by decide +kernel)) rfl
theorem kw_se_Mo_reduceOnce : Cond.selects "PrimeKeys$Modulus" y_Mo_reduceOnce y_Mo_reduceOnce ∈ TB := tb_1 (List.mem_of_getElem? (i := 97) (by decide +kernel)) rfl
abbrev rm_Mo_add : Room := { frames := 2, cells := 0, slots := 0, locals := 47 }
def B_Mo_add_6 (K6 : HP → Nat → Nat → Nat → Nat → Int64 → Int32 → Option (HP)) (h : HP) (a0 : Nat) (a1 : Nat) (a2 : Nat) (a3 : Nat) (a4 : Int64) (a6 : Int32) : Option (HP) :=
  if 9 ≤ a6 then
  ob h a0 1 (
  bnd (P_Mo_reduceOnce h a0 a3) fun h1 =>
  some h1)
  else
  bnd (ldJ h a1 a6) fun v2 =>
  bnd (ldJ h a2 a6) fun v3 =>
  lt (a4 + (v2 + v3)) fun x4 =>
  bnd (stJ h a3 a6 (x4 &&& 536870911)) fun h5 =>
  lt (x4 >>> (Int32.toInt64 29 &&& 63)) fun x6 =>
  lt (a6 + Int32.ofInt 1) fun x7 =>
  K6 h5 a0 a1 a2 a3 x6 x7
set_option maxHeartbeats 4000000 in
set_option maxRecDepth 100000 in
theorem bk_Mo_add_6 {l : Launch} {x : CX} {h0 h' : HP} (C : EV x b_Mo_add "PrimeKeys$Modulus" 7 rm_Mo_add) (T : CT x (none) rm_Mo_add h0 none h') (hl0 : x.1.2.1 = l) (K6 : HP → Nat → Nat → Nat → Nat → Int64 → Int32 → Option (HP)) (hK6 : ∀ (h : HP) (a0 : Nat) (a1 : Nat) (a2 : Nat) (a3 : Nat) (a4 : Int64) (a6 : Int32), K6 h a0 a1 a2 a3 a4 a6 = some h' → GG x 0 0 h 6 [(0, .ref a0), (1, .ref a1), (2, .ref a2), (3, .ref a3), (4, .long a4), (6, .int a6)] []) (h : HP) (a0 : Nat) (a1 : Nat) (a2 : Nat) (a3 : Nat) (a4 : Int64) (a6 : Int32) (hr : B_Mo_add_6 K6 h a0 a1 a2 a3 a4 a6 = some h') : GG x 0 0 h 6 [(0, .ref a0), (1, .ref a1), (2, .ref a2), (3, .ref a3), (4, .long a4), (6, .int a6)] [] := by
  unfold B_Mo_add_6 at hr
  refine g_iload C 5 rfl d_Mo_add_6 ?_
  refine g_bipush (v := 9) C d_Mo_add_8 (by decide) ?_
  refine g_icmp_ge (tgt := 50) C d_Mo_add_10 (by decide) (fun z => ?_) (fun z => ?_)
  · have hr := of_if z hr
    refine g_aload_n C 0 rfl d_Mo_add_50 rfl ?_
    refine g_aload_n C 3 rfl d_Mo_add_51 rfl ?_
    obtain ⟨fsh1, hoh1, hr⟩ := of_ob hr
    obtain ⟨h1, eh1, hr⟩ := of_bnd hr
    refine g_callV (pa := [.ref a3]) C hl0 (c_Mo_reduceOnce eh1) cd_Mo_71 kw_in_Mo_reduceOnce kw_se_Mo_reduceOnce hoh1 rfl rfl (by decide) rfl rfl (Nat.le_of_ble_eq_true rfl) d_Mo_add_52 ?_
    cases hr
    exact g_vreturn C T (by decide) (by decide) d_Mo_add_55
  · have hr := of_el z hr
    refine g_lload C 4 rfl d_Mo_add_13 ?_
    refine g_aload_n C 1 rfl d_Mo_add_15 rfl ?_
    refine g_iload C 5 rfl d_Mo_add_16 ?_
    obtain ⟨v2, ev2, hr⟩ := of_bnd hr
    refine g_laload C ev2 d_Mo_add_18 ?_
    refine g_aload_n C 2 rfl d_Mo_add_19 rfl ?_
    refine g_iload C 5 rfl d_Mo_add_20 ?_
    obtain ⟨v3, ev3, hr⟩ := of_bnd hr
    refine g_laload C ev3 d_Mo_add_22 ?_
    refine g_ladd C d_Mo_add_23 ?_
    refine g_ladd C d_Mo_add_24 ?_
    refine g_topl (fun x4 ex4 => ?_)
    have hr := of_lt ex4 hr
    refine g_lstore (lv' := [(4, .long x4), (0, .ref a0), (1, .ref a1), (2, .ref a2), (3, .ref a3), (6, .int a6)]) C d_Mo_add_25 (by decide) rfl ?_
    refine g_aload_n C 4 rfl d_Mo_add_27 rfl ?_
    refine g_iload C 5 rfl d_Mo_add_28 ?_
    refine g_lload C 0 rfl d_Mo_add_30 ?_
    refine g_ldc2 (v := 536870911) C d_Mo_add_32 kw_2 ?_
    refine g_land C d_Mo_add_35 ?_
    obtain ⟨h5, eh5, hr⟩ := of_bnd hr
    refine g_lastore C eh5 d_Mo_add_36 ?_
    refine g_lload C 0 rfl d_Mo_add_37 ?_
    refine g_bipush (v := 29) C d_Mo_add_39 (by decide) ?_
    refine g_lshr C d_Mo_add_41 ?_
    refine g_topl (fun x6 ex6 => ?_)
    have hr := of_lt ex6 hr
    refine g_lstore (lv' := [(4, .long x6), (0, .ref a0), (1, .ref a1), (2, .ref a2), (3, .ref a3), (6, .int a6)]) C d_Mo_add_42 (by decide) rfl ?_
    obtain ⟨x7, ex7⟩ : ∃ z, z = a6 + Int32.ofInt 1 := ⟨_, rfl⟩
    have hr := of_lt ex7 hr
    refine g_iinc (lv' := [(6, .int x7), (4, .long x6), (0, .ref a0), (1, .ref a1), (2, .ref a2), (3, .ref a3)]) C 5 rfl d_Mo_add_44 ex7.symm (by decide) rfl ?_
    refine g_goto (tgt := 6) C d_Mo_add_47 (by decide) ?_
    refine g_lv [2, 3, 4, 5, 1, 0] rfl ?_
    exact hK6 h5 a0 a1 a2 a3 x6 x7 hr
def L_Mo_add_6 : Nat → HP → Nat → Nat → Nat → Nat → Int64 → Int32 → Option (HP)
  | 0, _, _, _, _, _, _, _ => none
  | f + 1, h, a0, a1, a2, a3, a4, a6 => B_Mo_add_6 (L_Mo_add_6 f) h a0 a1 a2 a3 a4 a6
theorem lp_Mo_add_6 {l : Launch} {x : CX} {h0 h' : HP} (C : EV x b_Mo_add "PrimeKeys$Modulus" 7 rm_Mo_add) (T : CT x (none) rm_Mo_add h0 none h') (hl0 : x.1.2.1 = l) : ∀ (f : Nat) (h : HP) (a0 : Nat) (a1 : Nat) (a2 : Nat) (a3 : Nat) (a4 : Int64) (a6 : Int32), L_Mo_add_6 f h a0 a1 a2 a3 a4 a6 = some h' → GG x 0 0 h 6 [(0, .ref a0), (1, .ref a1), (2, .ref a2), (3, .ref a3), (4, .long a4), (6, .int a6)] [] := by
  intro f
  induction f with
  | zero => intro h a0 a1 a2 a3 a4 a6 hr; have hr : (none : Option (HP)) = some h' := hr; cases hr
  | succ f ih => intro h a0 a1 a2 a3 a4 a6 hr; exact bk_Mo_add_6 C T hl0 (L_Mo_add_6 f) ih h a0 a1 a2 a3 a4 a6 hr
def P_Mo_add (h : HP) (p0 : Nat) (p1 : Nat) (p2 : Nat) (p3 : Nat) : Option (HP) :=
  L_Mo_add_6 FU h p0 p1 p2 p3 0 0
set_option maxHeartbeats 4000000 in
set_option maxRecDepth 100000 in
theorem c_Mo_add {l : Launch} {h h' : HP} {p0 p1 p2 p3 : _} (hr : P_Mo_add h p0 p1 p2 p3 = some h') : MP l y_Mo_add (Cond.code y_Mo_add b_Mo_add 7 none :: TB) rm_Mo_add h [.ref p0, .ref p1, .ref p2, .ref p3] none h' := by
  refine MP_intro (cc := b_Mo_add) (by decide) (Nat.le_of_ble_eq_true rfl) (fun x hl0 C T hin => ?_)
  unfold P_Mo_add at hr
  show GG x 0 0 h 0 [(0, .ref p0), (1, .ref p1), (2, .ref p2), (3, .ref p3)] []
  refine g_lconst (v := 0) C d_Mo_add_0 (by decide) ?_
  refine g_lstore (lv' := [(4, .long 0), (0, .ref p0), (1, .ref p1), (2, .ref p2), (3, .ref p3)]) C d_Mo_add_1 (by decide) rfl ?_
  refine g_iconst (v := 0) C d_Mo_add_3 (by decide) ?_
  refine g_istore (lv' := [(6, .int 0), (4, .long 0), (0, .ref p0), (1, .ref p1), (2, .ref p2), (3, .ref p3)]) C d_Mo_add_4 (by decide) rfl ?_
  refine g_lv [2, 3, 4, 5, 1, 0] rfl ?_
  exact lp_Mo_add_6 C T hl0 FU h p0 p1 p2 p3 0 0 hr
abbrev b_Mo_subtract : ByteArray := prog_4_method_8_code
abbrev y_Mo_subtract : MethodName := ⟨"PrimeKeys$Modulus", "subtract", "([J[J[J)V"⟩
theorem d_Mo_subtract_0 : decode b_Mo_subtract 0 = .ok (.lconst 0, 1) := by decide +kernel
theorem d_Mo_subtract_1 : decode b_Mo_subtract 1 = .ok (.lstore 4, 2) := by decide +kernel
theorem d_Mo_subtract_3 : decode b_Mo_subtract 3 = .ok (.iconst 0, 1) := by decide +kernel
theorem d_Mo_subtract_4 : decode b_Mo_subtract 4 = .ok (.istore 6, 2) := by decide +kernel
theorem d_Mo_subtract_6 : decode b_Mo_subtract 6 = .ok (.iload 6, 2) := by decide +kernel
theorem d_Mo_subtract_8 : decode b_Mo_subtract 8 = .ok (.bipush 9, 2) := by decide +kernel
theorem d_Mo_subtract_10 : decode b_Mo_subtract 10 = .ok (.if_icmp .ge 40, 3) := by decide +kernel
theorem d_Mo_subtract_13 : decode b_Mo_subtract 13 = .ok (.lload 4, 2) := by decide +kernel
theorem d_Mo_subtract_15 : decode b_Mo_subtract 15 = .ok (.aload_n 1, 1) := by decide +kernel
theorem d_Mo_subtract_16 : decode b_Mo_subtract 16 = .ok (.iload 6, 2) := by decide +kernel
theorem d_Mo_subtract_18 : decode b_Mo_subtract 18 = .ok (.laload, 1) := by decide +kernel
theorem d_Mo_subtract_19 : decode b_Mo_subtract 19 = .ok (.aload_n 2, 1) := by decide +kernel
theorem d_Mo_subtract_20 : decode b_Mo_subtract 20 = .ok (.iload 6, 2) := by decide +kernel
theorem d_Mo_subtract_22 : decode b_Mo_subtract 22 = .ok (.laload, 1) := by decide +kernel
theorem d_Mo_subtract_23 : decode b_Mo_subtract 23 = .ok (.lsub, 1) := by decide +kernel
theorem d_Mo_subtract_24 : decode b_Mo_subtract 24 = .ok (.ladd, 1) := by decide +kernel
theorem d_Mo_subtract_25 : decode b_Mo_subtract 25 = .ok (.lstore 4, 2) := by decide +kernel
theorem d_Mo_subtract_27 : decode b_Mo_subtract 27 = .ok (.aload_n 3, 1) := by decide +kernel
theorem d_Mo_subtract_28 : decode b_Mo_subtract 28 = .ok (.iload 6, 2) := by decide +kernel
theorem d_Mo_subtract_30 : decode b_Mo_subtract 30 = .ok (.lload 4, 2) := by decide +kernel
theorem d_Mo_subtract_32 : decode b_Mo_subtract 32 = .ok (.ldc2_w 52, 3) := by decide +kernel
theorem d_Mo_subtract_35 : decode b_Mo_subtract 35 = .ok (.land, 1) := by decide +kernel
theorem d_Mo_subtract_36 : decode b_Mo_subtract 36 = .ok (.lastore, 1) := by decide +kernel
theorem d_Mo_subtract_37 : decode b_Mo_subtract 37 = .ok (.lload 4, 2) := by decide +kernel
theorem d_Mo_subtract_39 : decode b_Mo_subtract 39 = .ok (.bipush 29, 2) := by decide +kernel
theorem d_Mo_subtract_41 : decode b_Mo_subtract 41 = .ok (.lshr, 1) := by decide +kernel
theorem d_Mo_subtract_42 : decode b_Mo_subtract 42 = .ok (.lstore 4, 2) := by decide +kernel
theorem d_Mo_subtract_44 : decode b_Mo_subtract 44 = .ok (.iinc 6 1, 3) := by decide +kernel
theorem d_Mo_subtract_47 : decode b_Mo_subtract 47 = .ok (.goto (-41), 3) := by decide +kernel
theorem d_Mo_subtract_50 : decode b_Mo_subtract 50 = .ok (.lload 4, 2) := by decide +kernel
theorem d_Mo_subtract_52 : decode b_Mo_subtract 52 = .ok (.lconst 0, 1) := by decide +kernel
theorem d_Mo_subtract_53 : decode b_Mo_subtract 53 = .ok (.lcmp, 1) := by decide +kernel
theorem d_Mo_subtract_54 : decode b_Mo_subtract 54 = .ok (.ifCond .ge 8, 3) := by decide +kernel
theorem d_Mo_subtract_57 : decode b_Mo_subtract 57 = .ok (.aload_n 0, 1) := by decide +kernel
theorem d_Mo_subtract_58 : decode b_Mo_subtract 58 = .ok (.aload_n 3, 1) := by decide +kernel
theorem d_Mo_subtract_59 : decode b_Mo_subtract 59 = .ok (.invokevirtual 75, 3) := by decide +kernel
theorem d_Mo_subtract_62 : decode b_Mo_subtract 62 = .ok (.return_, 1) := by decide +kernel
theorem cd_Mo_75 : CD "PrimeKeys$Modulus" 75 y_Mo_addPrime b_Mo_addPrime 5 none 1 := ⟨tb_1 (List.mem_of_getElem? (i := 202) rfl) rfl, tb_1 (List.mem_of_getElem? (i := 4) (by decide +kernel)) rfl, tb_1 (List.mem_of_getElem? (i := 199) (by decide +kernel)) rfl, by decide +kernel⟩
theorem kw_in_Mo_addPrime : Cond.instanceMethod y_Mo_addPrime ∈ TB := tb_1 (List.mem_of_getElem? (i := 201) (by decide +kernel)) rfl
theorem kw_se_Mo_addPrime : Cond.selects "PrimeKeys$Modulus" y_Mo_addPrime y_Mo_addPrime ∈ TB := tb_p (q := (y_Mo_addPrime, 9)) (by decide +kernel)
abbrev rm_Mo_subtract : Room := { frames := 1, cells := 0, slots := 0, locals := 24 }
def B_Mo_subtract_62 (K6 : HP → Nat → Nat → Nat → Nat → Int64 → Int32 → Option (HP)) (h : HP) : Option (HP) :=
  some h
set_option maxHeartbeats 4000000 in
set_option maxRecDepth 100000 in
theorem bk_Mo_subtract_62 {l : Launch} {x : CX} {h0 h' : HP} (C : EV x b_Mo_subtract "PrimeKeys$Modulus" 7 rm_Mo_subtract) (T : CT x (none) rm_Mo_subtract h0 none h') (hl0 : x.1.2.1 = l) (K6 : HP → Nat → Nat → Nat → Nat → Int64 → Int32 → Option (HP)) (hK6 : ∀ (h : HP) (a0 : Nat) (a1 : Nat) (a2 : Nat) (a3 : Nat) (a4 : Int64) (a6 : Int32), K6 h a0 a1 a2 a3 a4 a6 = some h' → GG x 0 0 h 6 [(0, .ref a0), (1, .ref a1), (2, .ref a2), (3, .ref a3), (4, .long a4), (6, .int a6)] []) (h : HP) (hr : B_Mo_subtract_62 K6 h = some h') : GG x 0 0 h 62 [] [] := by
  unfold B_Mo_subtract_62 at hr
  cases hr
  exact g_vreturn C T (by decide) (by decide) d_Mo_subtract_62
def B_Mo_subtract_6 (K6 : HP → Nat → Nat → Nat → Nat → Int64 → Int32 → Option (HP)) (h : HP) (a0 : Nat) (a1 : Nat) (a2 : Nat) (a3 : Nat) (a4 : Int64) (a6 : Int32) : Option (HP) :=
  if 9 ≤ a6 then
  if 0 ≤ lg_cmp a4 0 then
  B_Mo_subtract_62 K6 h
  else
  ob h a0 1 (
  bnd (P_Mo_addPrime h a0 a3) fun h1 =>
  B_Mo_subtract_62 K6 h1)
  else
  bnd (ldJ h a1 a6) fun v2 =>
  bnd (ldJ h a2 a6) fun v3 =>
  lt (a4 + (v2 - v3)) fun x4 =>
  bnd (stJ h a3 a6 (x4 &&& 536870911)) fun h5 =>
  lt (x4 >>> (Int32.toInt64 29 &&& 63)) fun x6 =>
  lt (a6 + Int32.ofInt 1) fun x7 =>
  K6 h5 a0 a1 a2 a3 x6 x7
set_option maxHeartbeats 4000000 in
set_option maxRecDepth 100000 in
theorem bk_Mo_subtract_6 {l : Launch} {x : CX} {h0 h' : HP} (C : EV x b_Mo_subtract "PrimeKeys$Modulus" 7 rm_Mo_subtract) (T : CT x (none) rm_Mo_subtract h0 none h') (hl0 : x.1.2.1 = l) (K6 : HP → Nat → Nat → Nat → Nat → Int64 → Int32 → Option (HP)) (hK6 : ∀ (h : HP) (a0 : Nat) (a1 : Nat) (a2 : Nat) (a3 : Nat) (a4 : Int64) (a6 : Int32), K6 h a0 a1 a2 a3 a4 a6 = some h' → GG x 0 0 h 6 [(0, .ref a0), (1, .ref a1), (2, .ref a2), (3, .ref a3), (4, .long a4), (6, .int a6)] []) (h : HP) (a0 : Nat) (a1 : Nat) (a2 : Nat) (a3 : Nat) (a4 : Int64) (a6 : Int32) (hr : B_Mo_subtract_6 K6 h a0 a1 a2 a3 a4 a6 = some h') : GG x 0 0 h 6 [(0, .ref a0), (1, .ref a1), (2, .ref a2), (3, .ref a3), (4, .long a4), (6, .int a6)] [] := by
  unfold B_Mo_subtract_6 at hr
  refine g_iload C 5 rfl d_Mo_subtract_6 ?_
  refine g_bipush (v := 9) C d_Mo_subtract_8 (by decide) ?_
  refine g_icmp_ge (tgt := 50) C d_Mo_subtract_10 (by decide) (fun z => ?_) (fun z => ?_)
  · have hr := of_if z hr
    refine g_lload C 4 rfl d_Mo_subtract_50 ?_
    refine g_lconst (v := 0) C d_Mo_subtract_52 (by decide) ?_
    refine g_lcmp C d_Mo_subtract_53 ?_
    refine g_if_ge (tgt := 62) C d_Mo_subtract_54 (by decide) (fun z => ?_) (fun z => ?_)
    · have hr := of_if z hr
      refine g_lv [] rfl ?_
      exact bk_Mo_subtract_62 C T hl0 K6 hK6 h hr
    · have hr := of_el z hr
      refine g_aload_n C 0 rfl d_Mo_subtract_57 rfl ?_
      refine g_aload_n C 3 rfl d_Mo_subtract_58 rfl ?_
      obtain ⟨fsh1, hoh1, hr⟩ := of_ob hr
      obtain ⟨h1, eh1, hr⟩ := of_bnd hr
      refine g_callV (pa := [.ref a3]) C hl0 (c_Mo_addPrime eh1) cd_Mo_75 kw_in_Mo_addPrime kw_se_Mo_addPrime hoh1 rfl rfl (by decide) rfl rfl (Nat.le_of_ble_eq_true rfl) d_Mo_subtract_59 ?_
      refine g_lv [] rfl ?_
      exact bk_Mo_subtract_62 C T hl0 K6 hK6 h1 hr
  · have hr := of_el z hr
    refine g_lload C 4 rfl d_Mo_subtract_13 ?_
    refine g_aload_n C 1 rfl d_Mo_subtract_15 rfl ?_
    refine g_iload C 5 rfl d_Mo_subtract_16 ?_
    obtain ⟨v2, ev2, hr⟩ := of_bnd hr
    refine g_laload C ev2 d_Mo_subtract_18 ?_
    refine g_aload_n C 2 rfl d_Mo_subtract_19 rfl ?_
    refine g_iload C 5 rfl d_Mo_subtract_20 ?_
    obtain ⟨v3, ev3, hr⟩ := of_bnd hr
    refine g_laload C ev3 d_Mo_subtract_22 ?_
    refine g_lsub C d_Mo_subtract_23 ?_
    refine g_ladd C d_Mo_subtract_24 ?_
    refine g_topl (fun x4 ex4 => ?_)
    have hr := of_lt ex4 hr
    refine g_lstore (lv' := [(4, .long x4), (0, .ref a0), (1, .ref a1), (2, .ref a2), (3, .ref a3), (6, .int a6)]) C d_Mo_subtract_25 (by decide) rfl ?_
    refine g_aload_n C 4 rfl d_Mo_subtract_27 rfl ?_
    refine g_iload C 5 rfl d_Mo_subtract_28 ?_
    refine g_lload C 0 rfl d_Mo_subtract_30 ?_
    refine g_ldc2 (v := 536870911) C d_Mo_subtract_32 kw_2 ?_
    refine g_land C d_Mo_subtract_35 ?_
    obtain ⟨h5, eh5, hr⟩ := of_bnd hr
    refine g_lastore C eh5 d_Mo_subtract_36 ?_
    refine g_lload C 0 rfl d_Mo_subtract_37 ?_
    refine g_bipush (v := 29) C d_Mo_subtract_39 (by decide) ?_
    refine g_lshr C d_Mo_subtract_41 ?_
    refine g_topl (fun x6 ex6 => ?_)
    have hr := of_lt ex6 hr
    refine g_lstore (lv' := [(4, .long x6), (0, .ref a0), (1, .ref a1), (2, .ref a2), (3, .ref a3), (6, .int a6)]) C d_Mo_subtract_42 (by decide) rfl ?_
    obtain ⟨x7, ex7⟩ : ∃ z, z = a6 + Int32.ofInt 1 := ⟨_, rfl⟩
    have hr := of_lt ex7 hr
    refine g_iinc (lv' := [(6, .int x7), (4, .long x6), (0, .ref a0), (1, .ref a1), (2, .ref a2), (3, .ref a3)]) C 5 rfl d_Mo_subtract_44 ex7.symm (by decide) rfl ?_
    refine g_goto (tgt := 6) C d_Mo_subtract_47 (by decide) ?_
    refine g_lv [2, 3, 4, 5, 1, 0] rfl ?_
    exact hK6 h5 a0 a1 a2 a3 x6 x7 hr
def L_Mo_subtract_6 : Nat → HP → Nat → Nat → Nat → Nat → Int64 → Int32 → Option (HP)
  | 0, _, _, _, _, _, _, _ => none
  | f + 1, h, a0, a1, a2, a3, a4, a6 => B_Mo_subtract_6 (L_Mo_subtract_6 f) h a0 a1 a2 a3 a4 a6
theorem lp_Mo_subtract_6 {l : Launch} {x : CX} {h0 h' : HP} (C : EV x b_Mo_subtract "PrimeKeys$Modulus" 7 rm_Mo_subtract) (T : CT x (none) rm_Mo_subtract h0 none h') (hl0 : x.1.2.1 = l) : ∀ (f : Nat) (h : HP) (a0 : Nat) (a1 : Nat) (a2 : Nat) (a3 : Nat) (a4 : Int64) (a6 : Int32), L_Mo_subtract_6 f h a0 a1 a2 a3 a4 a6 = some h' → GG x 0 0 h 6 [(0, .ref a0), (1, .ref a1), (2, .ref a2), (3, .ref a3), (4, .long a4), (6, .int a6)] [] := by
  intro f
  induction f with
  | zero => intro h a0 a1 a2 a3 a4 a6 hr; have hr : (none : Option (HP)) = some h' := hr; cases hr
  | succ f ih => intro h a0 a1 a2 a3 a4 a6 hr; exact bk_Mo_subtract_6 C T hl0 (L_Mo_subtract_6 f) ih h a0 a1 a2 a3 a4 a6 hr
def P_Mo_subtract (h : HP) (p0 : Nat) (p1 : Nat) (p2 : Nat) (p3 : Nat) : Option (HP) :=
  L_Mo_subtract_6 FU h p0 p1 p2 p3 0 0
set_option maxHeartbeats 4000000 in
set_option maxRecDepth 100000 in
theorem c_Mo_subtract {l : Launch} {h h' : HP} {p0 p1 p2 p3 : _} (hr : P_Mo_subtract h p0 p1 p2 p3 = some h') : MP l y_Mo_subtract (Cond.code y_Mo_subtract b_Mo_subtract 7 none :: TB) rm_Mo_subtract h [.ref p0, .ref p1, .ref p2, .ref p3] none h' := by
  refine MP_intro (cc := b_Mo_subtract) (by decide) (Nat.le_of_ble_eq_true rfl) (fun x hl0 C T hin => ?_)
  unfold P_Mo_subtract at hr
  show GG x 0 0 h 0 [(0, .ref p0), (1, .ref p1), (2, .ref p2), (3, .ref p3)] []
  refine g_lconst (v := 0) C d_Mo_subtract_0 (by decide) ?_
  refine g_lstore (lv' := [(4, .long 0), (0, .ref p0), (1, .ref p1), (2, .ref p2), (3, .ref p3)]) C d_Mo_subtract_1 (by decide) rfl ?_
  refine g_iconst (v := 0) C d_Mo_subtract_3 (by decide) ?_
  refine g_istore (lv' := [(6, .int 0), (4, .long 0), (0, .ref p0), (1, .ref p1), (2, .ref p2), (3, .ref p3)]) C d_Mo_subtract_4 (by decide) rfl ?_
  refine g_lv [2, 3, 4, 5, 1, 0] rfl ?_
  exact lp_Mo_subtract_6 C T hl0 FU h p0 p1 p2 p3 0 0 hr
end
section
abbrev b_Mo_fillWide : ByteArray := prog_4_method_13_code
abbrev y_Mo_fillWide : MethodName := ⟨"PrimeKeys$Modulus", "fillWide", "([J[J)V"⟩
theorem d_Mo_fillWide_0 : decode b_Mo_fillWide 0 = .ok (.aload_n 1, 1) := by decide +kernel
theorem d_Mo_fillWide_1 : decode b_Mo_fillWide 1 = .ok (.iconst 0, 1) := by decide +kernel
theorem d_Mo_fillWide_2 : decode b_Mo_fillWide 2 = .ok (.laload, 1) := by decide +kernel
theorem d_Mo_fillWide_3 : decode b_Mo_fillWide 3 = .ok (.lstore_n 3, 1) := by decide +kernel
theorem d_Mo_fillWide_4 : decode b_Mo_fillWide 4 = .ok (.aload_n 1, 1) := by decide +kernel
theorem d_Mo_fillWide_5 : decode b_Mo_fillWide 5 = .ok (.iconst 1, 1) := by decide +kernel
theorem d_Mo_fillWide_6 : decode b_Mo_fillWide 6 = .ok (.laload, 1) := by decide +kernel
theorem d_Mo_fillWide_7 : decode b_Mo_fillWide 7 = .ok (.lstore 5, 2) := by decide +kernel
theorem d_Mo_fillWide_9 : decode b_Mo_fillWide 9 = .ok (.aload_n 1, 1) := by decide +kernel
theorem d_Mo_fillWide_10 : decode b_Mo_fillWide 10 = .ok (.iconst 2, 1) := by decide +kernel
theorem d_Mo_fillWide_11 : decode b_Mo_fillWide 11 = .ok (.laload, 1) := by decide +kernel
theorem d_Mo_fillWide_12 : decode b_Mo_fillWide 12 = .ok (.lstore 7, 2) := by decide +kernel
theorem d_Mo_fillWide_14 : decode b_Mo_fillWide 14 = .ok (.aload_n 1, 1) := by decide +kernel
theorem d_Mo_fillWide_15 : decode b_Mo_fillWide 15 = .ok (.iconst 3, 1) := by decide +kernel
theorem d_Mo_fillWide_16 : decode b_Mo_fillWide 16 = .ok (.laload, 1) := by decide +kernel
theorem d_Mo_fillWide_17 : decode b_Mo_fillWide 17 = .ok (.lstore 9, 2) := by decide +kernel
theorem d_Mo_fillWide_19 : decode b_Mo_fillWide 19 = .ok (.aload_n 1, 1) := by decide +kernel
theorem d_Mo_fillWide_20 : decode b_Mo_fillWide 20 = .ok (.iconst 4, 1) := by decide +kernel
theorem d_Mo_fillWide_21 : decode b_Mo_fillWide 21 = .ok (.laload, 1) := by decide +kernel
theorem d_Mo_fillWide_22 : decode b_Mo_fillWide 22 = .ok (.lstore 11, 2) := by decide +kernel
theorem d_Mo_fillWide_24 : decode b_Mo_fillWide 24 = .ok (.aload_n 1, 1) := by decide +kernel
theorem d_Mo_fillWide_25 : decode b_Mo_fillWide 25 = .ok (.iconst 5, 1) := by decide +kernel
theorem d_Mo_fillWide_26 : decode b_Mo_fillWide 26 = .ok (.laload, 1) := by decide +kernel
theorem d_Mo_fillWide_27 : decode b_Mo_fillWide 27 = .ok (.lstore 13, 2) := by decide +kernel
theorem d_Mo_fillWide_29 : decode b_Mo_fillWide 29 = .ok (.aload_n 1, 1) := by decide +kernel
theorem d_Mo_fillWide_30 : decode b_Mo_fillWide 30 = .ok (.bipush 6, 2) := by decide +kernel
theorem d_Mo_fillWide_32 : decode b_Mo_fillWide 32 = .ok (.laload, 1) := by decide +kernel
theorem d_Mo_fillWide_33 : decode b_Mo_fillWide 33 = .ok (.lstore 15, 2) := by decide +kernel
theorem d_Mo_fillWide_35 : decode b_Mo_fillWide 35 = .ok (.aload_n 1, 1) := by decide +kernel
theorem d_Mo_fillWide_36 : decode b_Mo_fillWide 36 = .ok (.bipush 7, 2) := by decide +kernel
theorem d_Mo_fillWide_38 : decode b_Mo_fillWide 38 = .ok (.laload, 1) := by decide +kernel
theorem d_Mo_fillWide_39 : decode b_Mo_fillWide 39 = .ok (.lstore 17, 2) := by decide +kernel
theorem d_Mo_fillWide_41 : decode b_Mo_fillWide 41 = .ok (.aload_n 1, 1) := by decide +kernel
theorem d_Mo_fillWide_42 : decode b_Mo_fillWide 42 = .ok (.bipush 8, 2) := by decide +kernel
theorem d_Mo_fillWide_44 : decode b_Mo_fillWide 44 = .ok (.laload, 1) := by decide +kernel
theorem d_Mo_fillWide_45 : decode b_Mo_fillWide 45 = .ok (.lstore 19, 2) := by decide +kernel
theorem d_Mo_fillWide_47 : decode b_Mo_fillWide 47 = .ok (.aload_n 2, 1) := by decide +kernel
theorem d_Mo_fillWide_48 : decode b_Mo_fillWide 48 = .ok (.iconst 0, 1) := by decide +kernel
theorem d_Mo_fillWide_49 : decode b_Mo_fillWide 49 = .ok (.laload, 1) := by decide +kernel
theorem d_Mo_fillWide_50 : decode b_Mo_fillWide 50 = .ok (.lstore 21, 2) := by decide +kernel
theorem d_Mo_fillWide_52 : decode b_Mo_fillWide 52 = .ok (.aload_n 2, 1) := by decide +kernel
theorem d_Mo_fillWide_53 : decode b_Mo_fillWide 53 = .ok (.iconst 1, 1) := by decide +kernel
theorem d_Mo_fillWide_54 : decode b_Mo_fillWide 54 = .ok (.laload, 1) := by decide +kernel
theorem d_Mo_fillWide_55 : decode b_Mo_fillWide 55 = .ok (.lstore 23, 2) := by decide +kernel
theorem d_Mo_fillWide_57 : decode b_Mo_fillWide 57 = .ok (.aload_n 2, 1) := by decide +kernel
theorem d_Mo_fillWide_58 : decode b_Mo_fillWide 58 = .ok (.iconst 2, 1) := by decide +kernel
theorem d_Mo_fillWide_59 : decode b_Mo_fillWide 59 = .ok (.laload, 1) := by decide +kernel
theorem d_Mo_fillWide_60 : decode b_Mo_fillWide 60 = .ok (.lstore 25, 2) := by decide +kernel
theorem d_Mo_fillWide_62 : decode b_Mo_fillWide 62 = .ok (.aload_n 2, 1) := by decide +kernel
theorem d_Mo_fillWide_63 : decode b_Mo_fillWide 63 = .ok (.iconst 3, 1) := by decide +kernel
theorem d_Mo_fillWide_64 : decode b_Mo_fillWide 64 = .ok (.laload, 1) := by decide +kernel
theorem d_Mo_fillWide_65 : decode b_Mo_fillWide 65 = .ok (.lstore 27, 2) := by decide +kernel
theorem d_Mo_fillWide_67 : decode b_Mo_fillWide 67 = .ok (.aload_n 2, 1) := by decide +kernel
theorem d_Mo_fillWide_68 : decode b_Mo_fillWide 68 = .ok (.iconst 4, 1) := by decide +kernel
theorem d_Mo_fillWide_69 : decode b_Mo_fillWide 69 = .ok (.laload, 1) := by decide +kernel
theorem d_Mo_fillWide_70 : decode b_Mo_fillWide 70 = .ok (.lstore 29, 2) := by decide +kernel
theorem d_Mo_fillWide_72 : decode b_Mo_fillWide 72 = .ok (.aload_n 2, 1) := by decide +kernel
theorem d_Mo_fillWide_73 : decode b_Mo_fillWide 73 = .ok (.iconst 5, 1) := by decide +kernel
theorem d_Mo_fillWide_74 : decode b_Mo_fillWide 74 = .ok (.laload, 1) := by decide +kernel
theorem d_Mo_fillWide_75 : decode b_Mo_fillWide 75 = .ok (.lstore 31, 2) := by decide +kernel
theorem d_Mo_fillWide_77 : decode b_Mo_fillWide 77 = .ok (.aload_n 2, 1) := by decide +kernel
theorem d_Mo_fillWide_78 : decode b_Mo_fillWide 78 = .ok (.bipush 6, 2) := by decide +kernel
theorem d_Mo_fillWide_80 : decode b_Mo_fillWide 80 = .ok (.laload, 1) := by decide +kernel
theorem d_Mo_fillWide_81 : decode b_Mo_fillWide 81 = .ok (.lstore 33, 2) := by decide +kernel
theorem d_Mo_fillWide_83 : decode b_Mo_fillWide 83 = .ok (.aload_n 2, 1) := by decide +kernel
theorem d_Mo_fillWide_84 : decode b_Mo_fillWide 84 = .ok (.bipush 7, 2) := by decide +kernel
theorem d_Mo_fillWide_86 : decode b_Mo_fillWide 86 = .ok (.laload, 1) := by decide +kernel
theorem d_Mo_fillWide_87 : decode b_Mo_fillWide 87 = .ok (.lstore 35, 2) := by decide +kernel
theorem d_Mo_fillWide_89 : decode b_Mo_fillWide 89 = .ok (.aload_n 2, 1) := by decide +kernel
theorem d_Mo_fillWide_90 : decode b_Mo_fillWide 90 = .ok (.bipush 8, 2) := by decide +kernel
theorem d_Mo_fillWide_92 : decode b_Mo_fillWide 92 = .ok (.laload, 1) := by decide +kernel
theorem d_Mo_fillWide_93 : decode b_Mo_fillWide 93 = .ok (.lstore 37, 2) := by decide +kernel
theorem d_Mo_fillWide_95 : decode b_Mo_fillWide 95 = .ok (.aload_n 0, 1) := by decide +kernel
theorem d_Mo_fillWide_96 : decode b_Mo_fillWide 96 = .ok (.getfield 29, 3) := by decide +kernel
theorem d_Mo_fillWide_99 : decode b_Mo_fillWide 99 = .ok (.iconst 0, 1) := by decide +kernel
theorem d_Mo_fillWide_100 : decode b_Mo_fillWide 100 = .ok (.lload_n 3, 1) := by decide +kernel
theorem d_Mo_fillWide_101 : decode b_Mo_fillWide 101 = .ok (.lload 21, 2) := by decide +kernel
theorem d_Mo_fillWide_103 : decode b_Mo_fillWide 103 = .ok (.lmul, 1) := by decide +kernel
theorem d_Mo_fillWide_104 : decode b_Mo_fillWide 104 = .ok (.lastore, 1) := by decide +kernel
theorem d_Mo_fillWide_105 : decode b_Mo_fillWide 105 = .ok (.aload_n 0, 1) := by decide +kernel
theorem d_Mo_fillWide_106 : decode b_Mo_fillWide 106 = .ok (.getfield 29, 3) := by decide +kernel
theorem d_Mo_fillWide_109 : decode b_Mo_fillWide 109 = .ok (.iconst 1, 1) := by decide +kernel
theorem d_Mo_fillWide_110 : decode b_Mo_fillWide 110 = .ok (.lload_n 3, 1) := by decide +kernel
theorem d_Mo_fillWide_111 : decode b_Mo_fillWide 111 = .ok (.lload 23, 2) := by decide +kernel
theorem d_Mo_fillWide_113 : decode b_Mo_fillWide 113 = .ok (.lmul, 1) := by decide +kernel
theorem d_Mo_fillWide_114 : decode b_Mo_fillWide 114 = .ok (.lload 5, 2) := by decide +kernel
theorem d_Mo_fillWide_116 : decode b_Mo_fillWide 116 = .ok (.lload 21, 2) := by decide +kernel
theorem d_Mo_fillWide_118 : decode b_Mo_fillWide 118 = .ok (.lmul, 1) := by decide +kernel
theorem d_Mo_fillWide_119 : decode b_Mo_fillWide 119 = .ok (.ladd, 1) := by decide +kernel
theorem d_Mo_fillWide_120 : decode b_Mo_fillWide 120 = .ok (.lastore, 1) := by decide +kernel
theorem d_Mo_fillWide_121 : decode b_Mo_fillWide 121 = .ok (.aload_n 0, 1) := by decide +kernel
theorem d_Mo_fillWide_122 : decode b_Mo_fillWide 122 = .ok (.getfield 29, 3) := by decide +kernel
theorem d_Mo_fillWide_125 : decode b_Mo_fillWide 125 = .ok (.iconst 2, 1) := by decide +kernel
theorem d_Mo_fillWide_126 : decode b_Mo_fillWide 126 = .ok (.lload_n 3, 1) := by decide +kernel
theorem d_Mo_fillWide_127 : decode b_Mo_fillWide 127 = .ok (.lload 25, 2) := by decide +kernel
theorem d_Mo_fillWide_129 : decode b_Mo_fillWide 129 = .ok (.lmul, 1) := by decide +kernel
theorem d_Mo_fillWide_130 : decode b_Mo_fillWide 130 = .ok (.lload 5, 2) := by decide +kernel
theorem d_Mo_fillWide_132 : decode b_Mo_fillWide 132 = .ok (.lload 23, 2) := by decide +kernel
theorem d_Mo_fillWide_134 : decode b_Mo_fillWide 134 = .ok (.lmul, 1) := by decide +kernel
theorem d_Mo_fillWide_135 : decode b_Mo_fillWide 135 = .ok (.ladd, 1) := by decide +kernel
theorem d_Mo_fillWide_136 : decode b_Mo_fillWide 136 = .ok (.lload 7, 2) := by decide +kernel
theorem d_Mo_fillWide_138 : decode b_Mo_fillWide 138 = .ok (.lload 21, 2) := by decide +kernel
theorem d_Mo_fillWide_140 : decode b_Mo_fillWide 140 = .ok (.lmul, 1) := by decide +kernel
theorem d_Mo_fillWide_141 : decode b_Mo_fillWide 141 = .ok (.ladd, 1) := by decide +kernel
theorem d_Mo_fillWide_142 : decode b_Mo_fillWide 142 = .ok (.lastore, 1) := by decide +kernel
theorem d_Mo_fillWide_143 : decode b_Mo_fillWide 143 = .ok (.aload_n 0, 1) := by decide +kernel
theorem d_Mo_fillWide_144 : decode b_Mo_fillWide 144 = .ok (.getfield 29, 3) := by decide +kernel
theorem d_Mo_fillWide_147 : decode b_Mo_fillWide 147 = .ok (.iconst 3, 1) := by decide +kernel
theorem d_Mo_fillWide_148 : decode b_Mo_fillWide 148 = .ok (.lload_n 3, 1) := by decide +kernel
theorem d_Mo_fillWide_149 : decode b_Mo_fillWide 149 = .ok (.lload 27, 2) := by decide +kernel
theorem d_Mo_fillWide_151 : decode b_Mo_fillWide 151 = .ok (.lmul, 1) := by decide +kernel
theorem d_Mo_fillWide_152 : decode b_Mo_fillWide 152 = .ok (.lload 5, 2) := by decide +kernel
theorem d_Mo_fillWide_154 : decode b_Mo_fillWide 154 = .ok (.lload 25, 2) := by decide +kernel
theorem d_Mo_fillWide_156 : decode b_Mo_fillWide 156 = .ok (.lmul, 1) := by decide +kernel
theorem d_Mo_fillWide_157 : decode b_Mo_fillWide 157 = .ok (.ladd, 1) := by decide +kernel
theorem d_Mo_fillWide_158 : decode b_Mo_fillWide 158 = .ok (.lload 7, 2) := by decide +kernel
theorem d_Mo_fillWide_160 : decode b_Mo_fillWide 160 = .ok (.lload 23, 2) := by decide +kernel
theorem d_Mo_fillWide_162 : decode b_Mo_fillWide 162 = .ok (.lmul, 1) := by decide +kernel
theorem d_Mo_fillWide_163 : decode b_Mo_fillWide 163 = .ok (.ladd, 1) := by decide +kernel
theorem d_Mo_fillWide_164 : decode b_Mo_fillWide 164 = .ok (.lload 9, 2) := by decide +kernel
theorem d_Mo_fillWide_166 : decode b_Mo_fillWide 166 = .ok (.lload 21, 2) := by decide +kernel
theorem d_Mo_fillWide_168 : decode b_Mo_fillWide 168 = .ok (.lmul, 1) := by decide +kernel
theorem d_Mo_fillWide_169 : decode b_Mo_fillWide 169 = .ok (.ladd, 1) := by decide +kernel
theorem d_Mo_fillWide_170 : decode b_Mo_fillWide 170 = .ok (.lastore, 1) := by decide +kernel
theorem d_Mo_fillWide_171 : decode b_Mo_fillWide 171 = .ok (.aload_n 0, 1) := by decide +kernel
theorem d_Mo_fillWide_172 : decode b_Mo_fillWide 172 = .ok (.getfield 29, 3) := by decide +kernel
theorem d_Mo_fillWide_175 : decode b_Mo_fillWide 175 = .ok (.iconst 4, 1) := by decide +kernel
theorem d_Mo_fillWide_176 : decode b_Mo_fillWide 176 = .ok (.lload_n 3, 1) := by decide +kernel
theorem d_Mo_fillWide_177 : decode b_Mo_fillWide 177 = .ok (.lload 29, 2) := by decide +kernel
theorem d_Mo_fillWide_179 : decode b_Mo_fillWide 179 = .ok (.lmul, 1) := by decide +kernel
theorem d_Mo_fillWide_180 : decode b_Mo_fillWide 180 = .ok (.lload 5, 2) := by decide +kernel
theorem d_Mo_fillWide_182 : decode b_Mo_fillWide 182 = .ok (.lload 27, 2) := by decide +kernel
theorem d_Mo_fillWide_184 : decode b_Mo_fillWide 184 = .ok (.lmul, 1) := by decide +kernel
theorem d_Mo_fillWide_185 : decode b_Mo_fillWide 185 = .ok (.ladd, 1) := by decide +kernel
theorem d_Mo_fillWide_186 : decode b_Mo_fillWide 186 = .ok (.lload 7, 2) := by decide +kernel
theorem d_Mo_fillWide_188 : decode b_Mo_fillWide 188 = .ok (.lload 25, 2) := by decide +kernel
theorem d_Mo_fillWide_190 : decode b_Mo_fillWide 190 = .ok (.lmul, 1) := by decide +kernel
theorem d_Mo_fillWide_191 : decode b_Mo_fillWide 191 = .ok (.ladd, 1) := by decide +kernel
theorem d_Mo_fillWide_192 : decode b_Mo_fillWide 192 = .ok (.lload 9, 2) := by decide +kernel
theorem d_Mo_fillWide_194 : decode b_Mo_fillWide 194 = .ok (.lload 23, 2) := by decide +kernel
theorem d_Mo_fillWide_196 : decode b_Mo_fillWide 196 = .ok (.lmul, 1) := by decide +kernel
theorem d_Mo_fillWide_197 : decode b_Mo_fillWide 197 = .ok (.ladd, 1) := by decide +kernel
theorem d_Mo_fillWide_198 : decode b_Mo_fillWide 198 = .ok (.lload 11, 2) := by decide +kernel
theorem d_Mo_fillWide_200 : decode b_Mo_fillWide 200 = .ok (.lload 21, 2) := by decide +kernel
theorem d_Mo_fillWide_202 : decode b_Mo_fillWide 202 = .ok (.lmul, 1) := by decide +kernel
theorem d_Mo_fillWide_203 : decode b_Mo_fillWide 203 = .ok (.ladd, 1) := by decide +kernel
theorem d_Mo_fillWide_204 : decode b_Mo_fillWide 204 = .ok (.lastore, 1) := by decide +kernel
theorem d_Mo_fillWide_205 : decode b_Mo_fillWide 205 = .ok (.aload_n 0, 1) := by decide +kernel
theorem d_Mo_fillWide_206 : decode b_Mo_fillWide 206 = .ok (.getfield 29, 3) := by decide +kernel
theorem d_Mo_fillWide_209 : decode b_Mo_fillWide 209 = .ok (.iconst 5, 1) := by decide +kernel
theorem d_Mo_fillWide_210 : decode b_Mo_fillWide 210 = .ok (.lload_n 3, 1) := by decide +kernel
theorem d_Mo_fillWide_211 : decode b_Mo_fillWide 211 = .ok (.lload 31, 2) := by decide +kernel
theorem d_Mo_fillWide_213 : decode b_Mo_fillWide 213 = .ok (.lmul, 1) := by decide +kernel
theorem d_Mo_fillWide_214 : decode b_Mo_fillWide 214 = .ok (.lload 5, 2) := by decide +kernel
theorem d_Mo_fillWide_216 : decode b_Mo_fillWide 216 = .ok (.lload 29, 2) := by decide +kernel
theorem d_Mo_fillWide_218 : decode b_Mo_fillWide 218 = .ok (.lmul, 1) := by decide +kernel
theorem d_Mo_fillWide_219 : decode b_Mo_fillWide 219 = .ok (.ladd, 1) := by decide +kernel
theorem d_Mo_fillWide_220 : decode b_Mo_fillWide 220 = .ok (.lload 7, 2) := by decide +kernel
theorem d_Mo_fillWide_222 : decode b_Mo_fillWide 222 = .ok (.lload 27, 2) := by decide +kernel
theorem d_Mo_fillWide_224 : decode b_Mo_fillWide 224 = .ok (.lmul, 1) := by decide +kernel
theorem d_Mo_fillWide_225 : decode b_Mo_fillWide 225 = .ok (.ladd, 1) := by decide +kernel
theorem d_Mo_fillWide_226 : decode b_Mo_fillWide 226 = .ok (.lload 9, 2) := by decide +kernel
theorem d_Mo_fillWide_228 : decode b_Mo_fillWide 228 = .ok (.lload 25, 2) := by decide +kernel
theorem d_Mo_fillWide_230 : decode b_Mo_fillWide 230 = .ok (.lmul, 1) := by decide +kernel
theorem d_Mo_fillWide_231 : decode b_Mo_fillWide 231 = .ok (.ladd, 1) := by decide +kernel
theorem d_Mo_fillWide_232 : decode b_Mo_fillWide 232 = .ok (.lload 11, 2) := by decide +kernel
theorem d_Mo_fillWide_234 : decode b_Mo_fillWide 234 = .ok (.lload 23, 2) := by decide +kernel
theorem d_Mo_fillWide_236 : decode b_Mo_fillWide 236 = .ok (.lmul, 1) := by decide +kernel
theorem d_Mo_fillWide_237 : decode b_Mo_fillWide 237 = .ok (.ladd, 1) := by decide +kernel
theorem d_Mo_fillWide_238 : decode b_Mo_fillWide 238 = .ok (.lload 13, 2) := by decide +kernel
theorem d_Mo_fillWide_240 : decode b_Mo_fillWide 240 = .ok (.lload 21, 2) := by decide +kernel
theorem d_Mo_fillWide_242 : decode b_Mo_fillWide 242 = .ok (.lmul, 1) := by decide +kernel
theorem d_Mo_fillWide_243 : decode b_Mo_fillWide 243 = .ok (.ladd, 1) := by decide +kernel
theorem d_Mo_fillWide_244 : decode b_Mo_fillWide 244 = .ok (.lastore, 1) := by decide +kernel
theorem d_Mo_fillWide_245 : decode b_Mo_fillWide 245 = .ok (.aload_n 0, 1) := by decide +kernel
theorem d_Mo_fillWide_246 : decode b_Mo_fillWide 246 = .ok (.getfield 29, 3) := by decide +kernel
theorem d_Mo_fillWide_249 : decode b_Mo_fillWide 249 = .ok (.bipush 6, 2) := by decide +kernel
theorem d_Mo_fillWide_251 : decode b_Mo_fillWide 251 = .ok (.lload_n 3, 1) := by decide +kernel
theorem d_Mo_fillWide_252 : decode b_Mo_fillWide 252 = .ok (.lload 33, 2) := by decide +kernel
theorem d_Mo_fillWide_254 : decode b_Mo_fillWide 254 = .ok (.lmul, 1) := by decide +kernel
theorem d_Mo_fillWide_255 : decode b_Mo_fillWide 255 = .ok (.lload 5, 2) := by decide +kernel
theorem d_Mo_fillWide_257 : decode b_Mo_fillWide 257 = .ok (.lload 31, 2) := by decide +kernel
theorem d_Mo_fillWide_259 : decode b_Mo_fillWide 259 = .ok (.lmul, 1) := by decide +kernel
theorem d_Mo_fillWide_260 : decode b_Mo_fillWide 260 = .ok (.ladd, 1) := by decide +kernel
theorem d_Mo_fillWide_261 : decode b_Mo_fillWide 261 = .ok (.lload 7, 2) := by decide +kernel
theorem d_Mo_fillWide_263 : decode b_Mo_fillWide 263 = .ok (.lload 29, 2) := by decide +kernel
theorem d_Mo_fillWide_265 : decode b_Mo_fillWide 265 = .ok (.lmul, 1) := by decide +kernel
theorem d_Mo_fillWide_266 : decode b_Mo_fillWide 266 = .ok (.ladd, 1) := by decide +kernel
theorem d_Mo_fillWide_267 : decode b_Mo_fillWide 267 = .ok (.lload 9, 2) := by decide +kernel
theorem d_Mo_fillWide_269 : decode b_Mo_fillWide 269 = .ok (.lload 27, 2) := by decide +kernel
theorem d_Mo_fillWide_271 : decode b_Mo_fillWide 271 = .ok (.lmul, 1) := by decide +kernel
theorem d_Mo_fillWide_272 : decode b_Mo_fillWide 272 = .ok (.ladd, 1) := by decide +kernel
theorem d_Mo_fillWide_273 : decode b_Mo_fillWide 273 = .ok (.lload 11, 2) := by decide +kernel
theorem d_Mo_fillWide_275 : decode b_Mo_fillWide 275 = .ok (.lload 25, 2) := by decide +kernel
theorem d_Mo_fillWide_277 : decode b_Mo_fillWide 277 = .ok (.lmul, 1) := by decide +kernel
theorem d_Mo_fillWide_278 : decode b_Mo_fillWide 278 = .ok (.ladd, 1) := by decide +kernel
theorem d_Mo_fillWide_279 : decode b_Mo_fillWide 279 = .ok (.lload 13, 2) := by decide +kernel
theorem d_Mo_fillWide_281 : decode b_Mo_fillWide 281 = .ok (.lload 23, 2) := by decide +kernel
theorem d_Mo_fillWide_283 : decode b_Mo_fillWide 283 = .ok (.lmul, 1) := by decide +kernel
theorem d_Mo_fillWide_284 : decode b_Mo_fillWide 284 = .ok (.ladd, 1) := by decide +kernel
theorem d_Mo_fillWide_285 : decode b_Mo_fillWide 285 = .ok (.lload 15, 2) := by decide +kernel
theorem d_Mo_fillWide_287 : decode b_Mo_fillWide 287 = .ok (.lload 21, 2) := by decide +kernel
theorem d_Mo_fillWide_289 : decode b_Mo_fillWide 289 = .ok (.lmul, 1) := by decide +kernel
theorem d_Mo_fillWide_290 : decode b_Mo_fillWide 290 = .ok (.ladd, 1) := by decide +kernel
theorem d_Mo_fillWide_291 : decode b_Mo_fillWide 291 = .ok (.lastore, 1) := by decide +kernel
theorem d_Mo_fillWide_292 : decode b_Mo_fillWide 292 = .ok (.aload_n 0, 1) := by decide +kernel
theorem d_Mo_fillWide_293 : decode b_Mo_fillWide 293 = .ok (.getfield 29, 3) := by decide +kernel
theorem d_Mo_fillWide_296 : decode b_Mo_fillWide 296 = .ok (.bipush 7, 2) := by decide +kernel
theorem d_Mo_fillWide_298 : decode b_Mo_fillWide 298 = .ok (.lload_n 3, 1) := by decide +kernel
theorem d_Mo_fillWide_299 : decode b_Mo_fillWide 299 = .ok (.lload 35, 2) := by decide +kernel
theorem d_Mo_fillWide_301 : decode b_Mo_fillWide 301 = .ok (.lmul, 1) := by decide +kernel
theorem d_Mo_fillWide_302 : decode b_Mo_fillWide 302 = .ok (.lload 5, 2) := by decide +kernel
theorem d_Mo_fillWide_304 : decode b_Mo_fillWide 304 = .ok (.lload 33, 2) := by decide +kernel
theorem d_Mo_fillWide_306 : decode b_Mo_fillWide 306 = .ok (.lmul, 1) := by decide +kernel
theorem d_Mo_fillWide_307 : decode b_Mo_fillWide 307 = .ok (.ladd, 1) := by decide +kernel
theorem d_Mo_fillWide_308 : decode b_Mo_fillWide 308 = .ok (.lload 7, 2) := by decide +kernel
theorem d_Mo_fillWide_310 : decode b_Mo_fillWide 310 = .ok (.lload 31, 2) := by decide +kernel
theorem d_Mo_fillWide_312 : decode b_Mo_fillWide 312 = .ok (.lmul, 1) := by decide +kernel
theorem d_Mo_fillWide_313 : decode b_Mo_fillWide 313 = .ok (.ladd, 1) := by decide +kernel
theorem d_Mo_fillWide_314 : decode b_Mo_fillWide 314 = .ok (.lload 9, 2) := by decide +kernel
theorem d_Mo_fillWide_316 : decode b_Mo_fillWide 316 = .ok (.lload 29, 2) := by decide +kernel
theorem d_Mo_fillWide_318 : decode b_Mo_fillWide 318 = .ok (.lmul, 1) := by decide +kernel
theorem d_Mo_fillWide_319 : decode b_Mo_fillWide 319 = .ok (.ladd, 1) := by decide +kernel
theorem d_Mo_fillWide_320 : decode b_Mo_fillWide 320 = .ok (.lload 11, 2) := by decide +kernel
theorem d_Mo_fillWide_322 : decode b_Mo_fillWide 322 = .ok (.lload 27, 2) := by decide +kernel
theorem d_Mo_fillWide_324 : decode b_Mo_fillWide 324 = .ok (.lmul, 1) := by decide +kernel
theorem d_Mo_fillWide_325 : decode b_Mo_fillWide 325 = .ok (.ladd, 1) := by decide +kernel
theorem d_Mo_fillWide_326 : decode b_Mo_fillWide 326 = .ok (.lload 13, 2) := by decide +kernel
theorem d_Mo_fillWide_328 : decode b_Mo_fillWide 328 = .ok (.lload 25, 2) := by decide +kernel
theorem d_Mo_fillWide_330 : decode b_Mo_fillWide 330 = .ok (.lmul, 1) := by decide +kernel
theorem d_Mo_fillWide_331 : decode b_Mo_fillWide 331 = .ok (.ladd, 1) := by decide +kernel
theorem d_Mo_fillWide_332 : decode b_Mo_fillWide 332 = .ok (.lload 15, 2) := by decide +kernel
theorem d_Mo_fillWide_334 : decode b_Mo_fillWide 334 = .ok (.lload 23, 2) := by decide +kernel
theorem d_Mo_fillWide_336 : decode b_Mo_fillWide 336 = .ok (.lmul, 1) := by decide +kernel
theorem d_Mo_fillWide_337 : decode b_Mo_fillWide 337 = .ok (.ladd, 1) := by decide +kernel
theorem d_Mo_fillWide_338 : decode b_Mo_fillWide 338 = .ok (.lload 17, 2) := by decide +kernel
theorem d_Mo_fillWide_340 : decode b_Mo_fillWide 340 = .ok (.lload 21, 2) := by decide +kernel
theorem d_Mo_fillWide_342 : decode b_Mo_fillWide 342 = .ok (.lmul, 1) := by decide +kernel
theorem d_Mo_fillWide_343 : decode b_Mo_fillWide 343 = .ok (.ladd, 1) := by decide +kernel
theorem d_Mo_fillWide_344 : decode b_Mo_fillWide 344 = .ok (.lastore, 1) := by decide +kernel
theorem d_Mo_fillWide_345 : decode b_Mo_fillWide 345 = .ok (.aload_n 0, 1) := by decide +kernel
theorem d_Mo_fillWide_346 : decode b_Mo_fillWide 346 = .ok (.getfield 29, 3) := by decide +kernel
theorem d_Mo_fillWide_349 : decode b_Mo_fillWide 349 = .ok (.bipush 8, 2) := by decide +kernel
theorem d_Mo_fillWide_351 : decode b_Mo_fillWide 351 = .ok (.lload_n 3, 1) := by decide +kernel
theorem d_Mo_fillWide_352 : decode b_Mo_fillWide 352 = .ok (.lload 37, 2) := by decide +kernel
theorem d_Mo_fillWide_354 : decode b_Mo_fillWide 354 = .ok (.lmul, 1) := by decide +kernel
theorem d_Mo_fillWide_355 : decode b_Mo_fillWide 355 = .ok (.lload 5, 2) := by decide +kernel
theorem d_Mo_fillWide_357 : decode b_Mo_fillWide 357 = .ok (.lload 35, 2) := by decide +kernel
theorem d_Mo_fillWide_359 : decode b_Mo_fillWide 359 = .ok (.lmul, 1) := by decide +kernel
theorem d_Mo_fillWide_360 : decode b_Mo_fillWide 360 = .ok (.ladd, 1) := by decide +kernel
theorem d_Mo_fillWide_361 : decode b_Mo_fillWide 361 = .ok (.lload 7, 2) := by decide +kernel
theorem d_Mo_fillWide_363 : decode b_Mo_fillWide 363 = .ok (.lload 33, 2) := by decide +kernel
theorem d_Mo_fillWide_365 : decode b_Mo_fillWide 365 = .ok (.lmul, 1) := by decide +kernel
theorem d_Mo_fillWide_366 : decode b_Mo_fillWide 366 = .ok (.ladd, 1) := by decide +kernel
theorem d_Mo_fillWide_367 : decode b_Mo_fillWide 367 = .ok (.lload 9, 2) := by decide +kernel
theorem d_Mo_fillWide_369 : decode b_Mo_fillWide 369 = .ok (.lload 31, 2) := by decide +kernel
theorem d_Mo_fillWide_371 : decode b_Mo_fillWide 371 = .ok (.lmul, 1) := by decide +kernel
theorem d_Mo_fillWide_372 : decode b_Mo_fillWide 372 = .ok (.ladd, 1) := by decide +kernel
theorem d_Mo_fillWide_373 : decode b_Mo_fillWide 373 = .ok (.lload 11, 2) := by decide +kernel
theorem d_Mo_fillWide_375 : decode b_Mo_fillWide 375 = .ok (.lload 29, 2) := by decide +kernel
theorem d_Mo_fillWide_377 : decode b_Mo_fillWide 377 = .ok (.lmul, 1) := by decide +kernel
theorem d_Mo_fillWide_378 : decode b_Mo_fillWide 378 = .ok (.ladd, 1) := by decide +kernel
theorem d_Mo_fillWide_379 : decode b_Mo_fillWide 379 = .ok (.lload 13, 2) := by decide +kernel
theorem d_Mo_fillWide_381 : decode b_Mo_fillWide 381 = .ok (.lload 27, 2) := by decide +kernel
theorem d_Mo_fillWide_383 : decode b_Mo_fillWide 383 = .ok (.lmul, 1) := by decide +kernel
theorem d_Mo_fillWide_384 : decode b_Mo_fillWide 384 = .ok (.ladd, 1) := by decide +kernel
theorem d_Mo_fillWide_385 : decode b_Mo_fillWide 385 = .ok (.lload 15, 2) := by decide +kernel
theorem d_Mo_fillWide_387 : decode b_Mo_fillWide 387 = .ok (.lload 25, 2) := by decide +kernel
theorem d_Mo_fillWide_389 : decode b_Mo_fillWide 389 = .ok (.lmul, 1) := by decide +kernel
theorem d_Mo_fillWide_390 : decode b_Mo_fillWide 390 = .ok (.ladd, 1) := by decide +kernel
theorem d_Mo_fillWide_391 : decode b_Mo_fillWide 391 = .ok (.lload 17, 2) := by decide +kernel
theorem d_Mo_fillWide_393 : decode b_Mo_fillWide 393 = .ok (.lload 23, 2) := by decide +kernel
theorem d_Mo_fillWide_395 : decode b_Mo_fillWide 395 = .ok (.lmul, 1) := by decide +kernel
theorem d_Mo_fillWide_396 : decode b_Mo_fillWide 396 = .ok (.ladd, 1) := by decide +kernel
theorem d_Mo_fillWide_397 : decode b_Mo_fillWide 397 = .ok (.lload 19, 2) := by decide +kernel
theorem d_Mo_fillWide_399 : decode b_Mo_fillWide 399 = .ok (.lload 21, 2) := by decide +kernel
theorem d_Mo_fillWide_401 : decode b_Mo_fillWide 401 = .ok (.lmul, 1) := by decide +kernel
theorem d_Mo_fillWide_402 : decode b_Mo_fillWide 402 = .ok (.ladd, 1) := by decide +kernel
theorem d_Mo_fillWide_403 : decode b_Mo_fillWide 403 = .ok (.lastore, 1) := by decide +kernel
theorem d_Mo_fillWide_404 : decode b_Mo_fillWide 404 = .ok (.aload_n 0, 1) := by decide +kernel
theorem d_Mo_fillWide_405 : decode b_Mo_fillWide 405 = .ok (.getfield 29, 3) := by decide +kernel
theorem d_Mo_fillWide_408 : decode b_Mo_fillWide 408 = .ok (.bipush 9, 2) := by decide +kernel
theorem d_Mo_fillWide_410 : decode b_Mo_fillWide 410 = .ok (.lload 5, 2) := by decide +kernel
theorem d_Mo_fillWide_412 : decode b_Mo_fillWide 412 = .ok (.lload 37, 2) := by decide +kernel
theorem d_Mo_fillWide_414 : decode b_Mo_fillWide 414 = .ok (.lmul, 1) := by decide +kernel
theorem d_Mo_fillWide_415 : decode b_Mo_fillWide 415 = .ok (.lload 7, 2) := by decide +kernel
theorem d_Mo_fillWide_417 : decode b_Mo_fillWide 417 = .ok (.lload 35, 2) := by decide +kernel
theorem d_Mo_fillWide_419 : decode b_Mo_fillWide 419 = .ok (.lmul, 1) := by decide +kernel
theorem d_Mo_fillWide_420 : decode b_Mo_fillWide 420 = .ok (.ladd, 1) := by decide +kernel
theorem d_Mo_fillWide_421 : decode b_Mo_fillWide 421 = .ok (.lload 9, 2) := by decide +kernel
theorem d_Mo_fillWide_423 : decode b_Mo_fillWide 423 = .ok (.lload 33, 2) := by decide +kernel
theorem d_Mo_fillWide_425 : decode b_Mo_fillWide 425 = .ok (.lmul, 1) := by decide +kernel
theorem d_Mo_fillWide_426 : decode b_Mo_fillWide 426 = .ok (.ladd, 1) := by decide +kernel
theorem d_Mo_fillWide_427 : decode b_Mo_fillWide 427 = .ok (.lload 11, 2) := by decide +kernel
theorem d_Mo_fillWide_429 : decode b_Mo_fillWide 429 = .ok (.lload 31, 2) := by decide +kernel
theorem d_Mo_fillWide_431 : decode b_Mo_fillWide 431 = .ok (.lmul, 1) := by decide +kernel
theorem d_Mo_fillWide_432 : decode b_Mo_fillWide 432 = .ok (.ladd, 1) := by decide +kernel
theorem d_Mo_fillWide_433 : decode b_Mo_fillWide 433 = .ok (.lload 13, 2) := by decide +kernel
theorem d_Mo_fillWide_435 : decode b_Mo_fillWide 435 = .ok (.lload 29, 2) := by decide +kernel
theorem d_Mo_fillWide_437 : decode b_Mo_fillWide 437 = .ok (.lmul, 1) := by decide +kernel
theorem d_Mo_fillWide_438 : decode b_Mo_fillWide 438 = .ok (.ladd, 1) := by decide +kernel
theorem d_Mo_fillWide_439 : decode b_Mo_fillWide 439 = .ok (.lload 15, 2) := by decide +kernel
theorem d_Mo_fillWide_441 : decode b_Mo_fillWide 441 = .ok (.lload 27, 2) := by decide +kernel
theorem d_Mo_fillWide_443 : decode b_Mo_fillWide 443 = .ok (.lmul, 1) := by decide +kernel
theorem d_Mo_fillWide_444 : decode b_Mo_fillWide 444 = .ok (.ladd, 1) := by decide +kernel
theorem d_Mo_fillWide_445 : decode b_Mo_fillWide 445 = .ok (.lload 17, 2) := by decide +kernel
theorem d_Mo_fillWide_447 : decode b_Mo_fillWide 447 = .ok (.lload 25, 2) := by decide +kernel
theorem d_Mo_fillWide_449 : decode b_Mo_fillWide 449 = .ok (.lmul, 1) := by decide +kernel
theorem d_Mo_fillWide_450 : decode b_Mo_fillWide 450 = .ok (.ladd, 1) := by decide +kernel
theorem d_Mo_fillWide_451 : decode b_Mo_fillWide 451 = .ok (.lload 19, 2) := by decide +kernel
theorem d_Mo_fillWide_453 : decode b_Mo_fillWide 453 = .ok (.lload 23, 2) := by decide +kernel
theorem d_Mo_fillWide_455 : decode b_Mo_fillWide 455 = .ok (.lmul, 1) := by decide +kernel
theorem d_Mo_fillWide_456 : decode b_Mo_fillWide 456 = .ok (.ladd, 1) := by decide +kernel
theorem d_Mo_fillWide_457 : decode b_Mo_fillWide 457 = .ok (.lastore, 1) := by decide +kernel
theorem d_Mo_fillWide_458 : decode b_Mo_fillWide 458 = .ok (.aload_n 0, 1) := by decide +kernel
theorem d_Mo_fillWide_459 : decode b_Mo_fillWide 459 = .ok (.getfield 29, 3) := by decide +kernel
theorem d_Mo_fillWide_462 : decode b_Mo_fillWide 462 = .ok (.bipush 10, 2) := by decide +kernel
theorem d_Mo_fillWide_464 : decode b_Mo_fillWide 464 = .ok (.lload 7, 2) := by decide +kernel
theorem d_Mo_fillWide_466 : decode b_Mo_fillWide 466 = .ok (.lload 37, 2) := by decide +kernel
theorem d_Mo_fillWide_468 : decode b_Mo_fillWide 468 = .ok (.lmul, 1) := by decide +kernel
theorem d_Mo_fillWide_469 : decode b_Mo_fillWide 469 = .ok (.lload 9, 2) := by decide +kernel
theorem d_Mo_fillWide_471 : decode b_Mo_fillWide 471 = .ok (.lload 35, 2) := by decide +kernel
theorem d_Mo_fillWide_473 : decode b_Mo_fillWide 473 = .ok (.lmul, 1) := by decide +kernel
theorem d_Mo_fillWide_474 : decode b_Mo_fillWide 474 = .ok (.ladd, 1) := by decide +kernel
theorem d_Mo_fillWide_475 : decode b_Mo_fillWide 475 = .ok (.lload 11, 2) := by decide +kernel
theorem d_Mo_fillWide_477 : decode b_Mo_fillWide 477 = .ok (.lload 33, 2) := by decide +kernel
theorem d_Mo_fillWide_479 : decode b_Mo_fillWide 479 = .ok (.lmul, 1) := by decide +kernel
theorem d_Mo_fillWide_480 : decode b_Mo_fillWide 480 = .ok (.ladd, 1) := by decide +kernel
theorem d_Mo_fillWide_481 : decode b_Mo_fillWide 481 = .ok (.lload 13, 2) := by decide +kernel
theorem d_Mo_fillWide_483 : decode b_Mo_fillWide 483 = .ok (.lload 31, 2) := by decide +kernel
theorem d_Mo_fillWide_485 : decode b_Mo_fillWide 485 = .ok (.lmul, 1) := by decide +kernel
theorem d_Mo_fillWide_486 : decode b_Mo_fillWide 486 = .ok (.ladd, 1) := by decide +kernel
theorem d_Mo_fillWide_487 : decode b_Mo_fillWide 487 = .ok (.lload 15, 2) := by decide +kernel
theorem d_Mo_fillWide_489 : decode b_Mo_fillWide 489 = .ok (.lload 29, 2) := by decide +kernel
theorem d_Mo_fillWide_491 : decode b_Mo_fillWide 491 = .ok (.lmul, 1) := by decide +kernel
theorem d_Mo_fillWide_492 : decode b_Mo_fillWide 492 = .ok (.ladd, 1) := by decide +kernel
theorem d_Mo_fillWide_493 : decode b_Mo_fillWide 493 = .ok (.lload 17, 2) := by decide +kernel
theorem d_Mo_fillWide_495 : decode b_Mo_fillWide 495 = .ok (.lload 27, 2) := by decide +kernel
theorem d_Mo_fillWide_497 : decode b_Mo_fillWide 497 = .ok (.lmul, 1) := by decide +kernel
theorem d_Mo_fillWide_498 : decode b_Mo_fillWide 498 = .ok (.ladd, 1) := by decide +kernel
theorem d_Mo_fillWide_499 : decode b_Mo_fillWide 499 = .ok (.lload 19, 2) := by decide +kernel
theorem d_Mo_fillWide_501 : decode b_Mo_fillWide 501 = .ok (.lload 25, 2) := by decide +kernel
theorem d_Mo_fillWide_503 : decode b_Mo_fillWide 503 = .ok (.lmul, 1) := by decide +kernel
theorem d_Mo_fillWide_504 : decode b_Mo_fillWide 504 = .ok (.ladd, 1) := by decide +kernel
theorem d_Mo_fillWide_505 : decode b_Mo_fillWide 505 = .ok (.lastore, 1) := by decide +kernel
theorem d_Mo_fillWide_506 : decode b_Mo_fillWide 506 = .ok (.aload_n 0, 1) := by decide +kernel
theorem d_Mo_fillWide_507 : decode b_Mo_fillWide 507 = .ok (.getfield 29, 3) := by decide +kernel
theorem d_Mo_fillWide_510 : decode b_Mo_fillWide 510 = .ok (.bipush 11, 2) := by decide +kernel
theorem d_Mo_fillWide_512 : decode b_Mo_fillWide 512 = .ok (.lload 9, 2) := by decide +kernel
theorem d_Mo_fillWide_514 : decode b_Mo_fillWide 514 = .ok (.lload 37, 2) := by decide +kernel
theorem d_Mo_fillWide_516 : decode b_Mo_fillWide 516 = .ok (.lmul, 1) := by decide +kernel
theorem d_Mo_fillWide_517 : decode b_Mo_fillWide 517 = .ok (.lload 11, 2) := by decide +kernel
theorem d_Mo_fillWide_519 : decode b_Mo_fillWide 519 = .ok (.lload 35, 2) := by decide +kernel
theorem d_Mo_fillWide_521 : decode b_Mo_fillWide 521 = .ok (.lmul, 1) := by decide +kernel
theorem d_Mo_fillWide_522 : decode b_Mo_fillWide 522 = .ok (.ladd, 1) := by decide +kernel
theorem d_Mo_fillWide_523 : decode b_Mo_fillWide 523 = .ok (.lload 13, 2) := by decide +kernel
theorem d_Mo_fillWide_525 : decode b_Mo_fillWide 525 = .ok (.lload 33, 2) := by decide +kernel
theorem d_Mo_fillWide_527 : decode b_Mo_fillWide 527 = .ok (.lmul, 1) := by decide +kernel
theorem d_Mo_fillWide_528 : decode b_Mo_fillWide 528 = .ok (.ladd, 1) := by decide +kernel
theorem d_Mo_fillWide_529 : decode b_Mo_fillWide 529 = .ok (.lload 15, 2) := by decide +kernel
theorem d_Mo_fillWide_531 : decode b_Mo_fillWide 531 = .ok (.lload 31, 2) := by decide +kernel
theorem d_Mo_fillWide_533 : decode b_Mo_fillWide 533 = .ok (.lmul, 1) := by decide +kernel
theorem d_Mo_fillWide_534 : decode b_Mo_fillWide 534 = .ok (.ladd, 1) := by decide +kernel
theorem d_Mo_fillWide_535 : decode b_Mo_fillWide 535 = .ok (.lload 17, 2) := by decide +kernel
theorem d_Mo_fillWide_537 : decode b_Mo_fillWide 537 = .ok (.lload 29, 2) := by decide +kernel
theorem d_Mo_fillWide_539 : decode b_Mo_fillWide 539 = .ok (.lmul, 1) := by decide +kernel
theorem d_Mo_fillWide_540 : decode b_Mo_fillWide 540 = .ok (.ladd, 1) := by decide +kernel
theorem d_Mo_fillWide_541 : decode b_Mo_fillWide 541 = .ok (.lload 19, 2) := by decide +kernel
theorem d_Mo_fillWide_543 : decode b_Mo_fillWide 543 = .ok (.lload 27, 2) := by decide +kernel
theorem d_Mo_fillWide_545 : decode b_Mo_fillWide 545 = .ok (.lmul, 1) := by decide +kernel
theorem d_Mo_fillWide_546 : decode b_Mo_fillWide 546 = .ok (.ladd, 1) := by decide +kernel
theorem d_Mo_fillWide_547 : decode b_Mo_fillWide 547 = .ok (.lastore, 1) := by decide +kernel
theorem d_Mo_fillWide_548 : decode b_Mo_fillWide 548 = .ok (.aload_n 0, 1) := by decide +kernel
theorem d_Mo_fillWide_549 : decode b_Mo_fillWide 549 = .ok (.getfield 29, 3) := by decide +kernel
theorem d_Mo_fillWide_552 : decode b_Mo_fillWide 552 = .ok (.bipush 12, 2) := by decide +kernel
theorem d_Mo_fillWide_554 : decode b_Mo_fillWide 554 = .ok (.lload 11, 2) := by decide +kernel
theorem d_Mo_fillWide_556 : decode b_Mo_fillWide 556 = .ok (.lload 37, 2) := by decide +kernel
theorem d_Mo_fillWide_558 : decode b_Mo_fillWide 558 = .ok (.lmul, 1) := by decide +kernel
theorem d_Mo_fillWide_559 : decode b_Mo_fillWide 559 = .ok (.lload 13, 2) := by decide +kernel
theorem d_Mo_fillWide_561 : decode b_Mo_fillWide 561 = .ok (.lload 35, 2) := by decide +kernel
theorem d_Mo_fillWide_563 : decode b_Mo_fillWide 563 = .ok (.lmul, 1) := by decide +kernel
theorem d_Mo_fillWide_564 : decode b_Mo_fillWide 564 = .ok (.ladd, 1) := by decide +kernel
theorem d_Mo_fillWide_565 : decode b_Mo_fillWide 565 = .ok (.lload 15, 2) := by decide +kernel
theorem d_Mo_fillWide_567 : decode b_Mo_fillWide 567 = .ok (.lload 33, 2) := by decide +kernel
theorem d_Mo_fillWide_569 : decode b_Mo_fillWide 569 = .ok (.lmul, 1) := by decide +kernel
theorem d_Mo_fillWide_570 : decode b_Mo_fillWide 570 = .ok (.ladd, 1) := by decide +kernel
theorem d_Mo_fillWide_571 : decode b_Mo_fillWide 571 = .ok (.lload 17, 2) := by decide +kernel
theorem d_Mo_fillWide_573 : decode b_Mo_fillWide 573 = .ok (.lload 31, 2) := by decide +kernel
theorem d_Mo_fillWide_575 : decode b_Mo_fillWide 575 = .ok (.lmul, 1) := by decide +kernel
theorem d_Mo_fillWide_576 : decode b_Mo_fillWide 576 = .ok (.ladd, 1) := by decide +kernel
theorem d_Mo_fillWide_577 : decode b_Mo_fillWide 577 = .ok (.lload 19, 2) := by decide +kernel
theorem d_Mo_fillWide_579 : decode b_Mo_fillWide 579 = .ok (.lload 29, 2) := by decide +kernel
theorem d_Mo_fillWide_581 : decode b_Mo_fillWide 581 = .ok (.lmul, 1) := by decide +kernel
theorem d_Mo_fillWide_582 : decode b_Mo_fillWide 582 = .ok (.ladd, 1) := by decide +kernel
theorem d_Mo_fillWide_583 : decode b_Mo_fillWide 583 = .ok (.lastore, 1) := by decide +kernel
theorem d_Mo_fillWide_584 : decode b_Mo_fillWide 584 = .ok (.aload_n 0, 1) := by decide +kernel
theorem d_Mo_fillWide_585 : decode b_Mo_fillWide 585 = .ok (.getfield 29, 3) := by decide +kernel
theorem d_Mo_fillWide_588 : decode b_Mo_fillWide 588 = .ok (.bipush 13, 2) := by decide +kernel
theorem d_Mo_fillWide_590 : decode b_Mo_fillWide 590 = .ok (.lload 13, 2) := by decide +kernel
theorem d_Mo_fillWide_592 : decode b_Mo_fillWide 592 = .ok (.lload 37, 2) := by decide +kernel
theorem d_Mo_fillWide_594 : decode b_Mo_fillWide 594 = .ok (.lmul, 1) := by decide +kernel
theorem d_Mo_fillWide_595 : decode b_Mo_fillWide 595 = .ok (.lload 15, 2) := by decide +kernel
theorem d_Mo_fillWide_597 : decode b_Mo_fillWide 597 = .ok (.lload 35, 2) := by decide +kernel
theorem d_Mo_fillWide_599 : decode b_Mo_fillWide 599 = .ok (.lmul, 1) := by decide +kernel
theorem d_Mo_fillWide_600 : decode b_Mo_fillWide 600 = .ok (.ladd, 1) := by decide +kernel
theorem d_Mo_fillWide_601 : decode b_Mo_fillWide 601 = .ok (.lload 17, 2) := by decide +kernel
theorem d_Mo_fillWide_603 : decode b_Mo_fillWide 603 = .ok (.lload 33, 2) := by decide +kernel
theorem d_Mo_fillWide_605 : decode b_Mo_fillWide 605 = .ok (.lmul, 1) := by decide +kernel
theorem d_Mo_fillWide_606 : decode b_Mo_fillWide 606 = .ok (.ladd, 1) := by decide +kernel
theorem d_Mo_fillWide_607 : decode b_Mo_fillWide 607 = .ok (.lload 19, 2) := by decide +kernel
theorem d_Mo_fillWide_609 : decode b_Mo_fillWide 609 = .ok (.lload 31, 2) := by decide +kernel
theorem d_Mo_fillWide_611 : decode b_Mo_fillWide 611 = .ok (.lmul, 1) := by decide +kernel
theorem d_Mo_fillWide_612 : decode b_Mo_fillWide 612 = .ok (.ladd, 1) := by decide +kernel
theorem d_Mo_fillWide_613 : decode b_Mo_fillWide 613 = .ok (.lastore, 1) := by decide +kernel
theorem d_Mo_fillWide_614 : decode b_Mo_fillWide 614 = .ok (.aload_n 0, 1) := by decide +kernel
theorem d_Mo_fillWide_615 : decode b_Mo_fillWide 615 = .ok (.getfield 29, 3) := by decide +kernel
theorem d_Mo_fillWide_618 : decode b_Mo_fillWide 618 = .ok (.bipush 14, 2) := by decide +kernel
theorem d_Mo_fillWide_620 : decode b_Mo_fillWide 620 = .ok (.lload 15, 2) := by decide +kernel
theorem d_Mo_fillWide_622 : decode b_Mo_fillWide 622 = .ok (.lload 37, 2) := by decide +kernel
theorem d_Mo_fillWide_624 : decode b_Mo_fillWide 624 = .ok (.lmul, 1) := by decide +kernel
theorem d_Mo_fillWide_625 : decode b_Mo_fillWide 625 = .ok (.lload 17, 2) := by decide +kernel
theorem d_Mo_fillWide_627 : decode b_Mo_fillWide 627 = .ok (.lload 35, 2) := by decide +kernel
theorem d_Mo_fillWide_629 : decode b_Mo_fillWide 629 = .ok (.lmul, 1) := by decide +kernel
theorem d_Mo_fillWide_630 : decode b_Mo_fillWide 630 = .ok (.ladd, 1) := by decide +kernel
theorem d_Mo_fillWide_631 : decode b_Mo_fillWide 631 = .ok (.lload 19, 2) := by decide +kernel
theorem d_Mo_fillWide_633 : decode b_Mo_fillWide 633 = .ok (.lload 33, 2) := by decide +kernel
theorem d_Mo_fillWide_635 : decode b_Mo_fillWide 635 = .ok (.lmul, 1) := by decide +kernel
theorem d_Mo_fillWide_636 : decode b_Mo_fillWide 636 = .ok (.ladd, 1) := by decide +kernel
theorem d_Mo_fillWide_637 : decode b_Mo_fillWide 637 = .ok (.lastore, 1) := by decide +kernel
theorem d_Mo_fillWide_638 : decode b_Mo_fillWide 638 = .ok (.aload_n 0, 1) := by decide +kernel
theorem d_Mo_fillWide_639 : decode b_Mo_fillWide 639 = .ok (.getfield 29, 3) := by decide +kernel
theorem d_Mo_fillWide_642 : decode b_Mo_fillWide 642 = .ok (.bipush 15, 2) := by decide +kernel
theorem d_Mo_fillWide_644 : decode b_Mo_fillWide 644 = .ok (.lload 17, 2) := by decide +kernel
theorem d_Mo_fillWide_646 : decode b_Mo_fillWide 646 = .ok (.lload 37, 2) := by decide +kernel
theorem d_Mo_fillWide_648 : decode b_Mo_fillWide 648 = .ok (.lmul, 1) := by decide +kernel
theorem d_Mo_fillWide_649 : decode b_Mo_fillWide 649 = .ok (.lload 19, 2) := by decide +kernel
theorem d_Mo_fillWide_651 : decode b_Mo_fillWide 651 = .ok (.lload 35, 2) := by decide +kernel
theorem d_Mo_fillWide_653 : decode b_Mo_fillWide 653 = .ok (.lmul, 1) := by decide +kernel
theorem d_Mo_fillWide_654 : decode b_Mo_fillWide 654 = .ok (.ladd, 1) := by decide +kernel
theorem d_Mo_fillWide_655 : decode b_Mo_fillWide 655 = .ok (.lastore, 1) := by decide +kernel
theorem d_Mo_fillWide_656 : decode b_Mo_fillWide 656 = .ok (.aload_n 0, 1) := by decide +kernel
theorem d_Mo_fillWide_657 : decode b_Mo_fillWide 657 = .ok (.getfield 29, 3) := by decide +kernel
theorem d_Mo_fillWide_660 : decode b_Mo_fillWide 660 = .ok (.bipush 16, 2) := by decide +kernel
theorem d_Mo_fillWide_662 : decode b_Mo_fillWide 662 = .ok (.lload 19, 2) := by decide +kernel
theorem d_Mo_fillWide_664 : decode b_Mo_fillWide 664 = .ok (.lload 37, 2) := by decide +kernel
theorem d_Mo_fillWide_666 : decode b_Mo_fillWide 666 = .ok (.lmul, 1) := by decide +kernel
theorem d_Mo_fillWide_667 : decode b_Mo_fillWide 667 = .ok (.lastore, 1) := by decide +kernel
theorem d_Mo_fillWide_668 : decode b_Mo_fillWide 668 = .ok (.return_, 1) := by decide +kernel
theorem fl_Mo_29 : FL "PrimeKeys$Modulus" 29 1 6 := ⟨R_Mo, F_Mo, 9, rfl, u_Mo, by decide, rfl, tb_1 (List.mem_of_getElem? (i := 110) (by decide +kernel)) rfl⟩
abbrev rm_Mo_fillWide : Room := { frames := 0, cells := 0, slots := 0, locals := 0 }
def P_Mo_fillWide (h : HP) (p0 : Nat) (p1 : Nat) (p2 : Nat) : Option (HP) :=
  bnd (ldJ h p1 0) fun v1 =>
  bnd (ldJ h p1 1) fun v2 =>
  bnd (ldJ h p1 2) fun v3 =>
  bnd (ldJ h p1 3) fun v4 =>
  bnd (ldJ h p1 4) fun v5 =>
  bnd (ldJ h p1 5) fun v6 =>
  bnd (ldJ h p1 6) fun v7 =>
  bnd (ldJ h p1 7) fun v8 =>
  bnd (ldJ h p1 8) fun v9 =>
  bnd (ldJ h p2 0) fun v10 =>
  bnd (ldJ h p2 1) fun v11 =>
  bnd (ldJ h p2 2) fun v12 =>
  bnd (ldJ h p2 3) fun v13 =>
  bnd (ldJ h p2 4) fun v14 =>
  bnd (ldJ h p2 5) fun v15 =>
  bnd (ldJ h p2 6) fun v16 =>
  bnd (ldJ h p2 7) fun v17 =>
  bnd (ldJ h p2 8) fun v18 =>
  bnd (gR h p0 1 6) fun k19 =>
  bnd (stJ h k19 0 (v1 * v10)) fun h20 =>
  bnd (gR h20 p0 1 6) fun k21 =>
  bnd (stJ h20 k21 1 ((v1 * v11) + (v2 * v10))) fun h22 =>
  bnd (gR h22 p0 1 6) fun k23 =>
  bnd (stJ h22 k23 2 (((v1 * v12) + (v2 * v11)) + (v3 * v10))) fun h24 =>
  bnd (gR h24 p0 1 6) fun k25 =>
  bnd (stJ h24 k25 3 ((((v1 * v13) + (v2 * v12)) + (v3 * v11)) + (v4 * v10))) fun h26 =>
  bnd (gR h26 p0 1 6) fun k27 =>
  bnd (stJ h26 k27 4 (((((v1 * v14) + (v2 * v13)) + (v3 * v12)) + (v4 * v11)) + (v5 * v10))) fun h28 =>
  bnd (gR h28 p0 1 6) fun k29 =>
  bnd (stJ h28 k29 5 ((((((v1 * v15) + (v2 * v14)) + (v3 * v13)) + (v4 * v12)) + (v5 * v11)) + (v6 * v10))) fun h30 =>
  bnd (gR h30 p0 1 6) fun k31 =>
  bnd (stJ h30 k31 6 (((((((v1 * v16) + (v2 * v15)) + (v3 * v14)) + (v4 * v13)) + (v5 * v12)) + (v6 * v11)) + (v7 * v10))) fun h32 =>
  bnd (gR h32 p0 1 6) fun k33 =>
  bnd (stJ h32 k33 7 ((((((((v1 * v17) + (v2 * v16)) + (v3 * v15)) + (v4 * v14)) + (v5 * v13)) + (v6 * v12)) + (v7 * v11)) + (v8 * v10))) fun h34 =>
  bnd (gR h34 p0 1 6) fun k35 =>
  bnd (stJ h34 k35 8 (((((((((v1 * v18) + (v2 * v17)) + (v3 * v16)) + (v4 * v15)) + (v5 * v14)) + (v6 * v13)) + (v7 * v12)) + (v8 * v11)) + (v9 * v10))) fun h36 =>
  bnd (gR h36 p0 1 6) fun k37 =>
  bnd (stJ h36 k37 9 ((((((((v2 * v18) + (v3 * v17)) + (v4 * v16)) + (v5 * v15)) + (v6 * v14)) + (v7 * v13)) + (v8 * v12)) + (v9 * v11))) fun h38 =>
  bnd (gR h38 p0 1 6) fun k39 =>
  bnd (stJ h38 k39 10 (((((((v3 * v18) + (v4 * v17)) + (v5 * v16)) + (v6 * v15)) + (v7 * v14)) + (v8 * v13)) + (v9 * v12))) fun h40 =>
  bnd (gR h40 p0 1 6) fun k41 =>
  bnd (stJ h40 k41 11 ((((((v4 * v18) + (v5 * v17)) + (v6 * v16)) + (v7 * v15)) + (v8 * v14)) + (v9 * v13))) fun h42 =>
  bnd (gR h42 p0 1 6) fun k43 =>
  bnd (stJ h42 k43 12 (((((v5 * v18) + (v6 * v17)) + (v7 * v16)) + (v8 * v15)) + (v9 * v14))) fun h44 =>
  bnd (gR h44 p0 1 6) fun k45 =>
  bnd (stJ h44 k45 13 ((((v6 * v18) + (v7 * v17)) + (v8 * v16)) + (v9 * v15))) fun h46 =>
  bnd (gR h46 p0 1 6) fun k47 =>
  bnd (stJ h46 k47 14 (((v7 * v18) + (v8 * v17)) + (v9 * v16))) fun h48 =>
  bnd (gR h48 p0 1 6) fun k49 =>
  bnd (stJ h48 k49 15 ((v8 * v18) + (v9 * v17))) fun h50 =>
  bnd (gR h50 p0 1 6) fun k51 =>
  bnd (stJ h50 k51 16 (v9 * v18)) fun h52 =>
  some h52
set_option maxHeartbeats 4000000 in
set_option maxRecDepth 100000 in
theorem c_Mo_fillWide {l : Launch} {h h' : HP} {p0 p1 p2 : _} (hr : P_Mo_fillWide h p0 p1 p2 = some h') : MP l y_Mo_fillWide (Cond.code y_Mo_fillWide b_Mo_fillWide 39 none :: TB) rm_Mo_fillWide h [.ref p0, .ref p1, .ref p2] none h' := by
  refine MP_intro (cc := b_Mo_fillWide) (by decide) (Nat.le_of_ble_eq_true rfl) (fun x hl0 C T hin => ?_)
  unfold P_Mo_fillWide at hr
  show GG x 0 0 h 0 [(0, .ref p0), (1, .ref p1), (2, .ref p2)] []
  refine g_aload_n C 1 rfl d_Mo_fillWide_0 rfl ?_
  refine g_iconst (v := 0) C d_Mo_fillWide_1 (by decide) ?_
  obtain ⟨v1, ev1, hr⟩ := of_bnd hr
  refine g_laload C ev1 d_Mo_fillWide_2 ?_
  refine g_lstore_n (lv' := [(3, .long v1), (0, .ref p0), (1, .ref p1), (2, .ref p2)]) C d_Mo_fillWide_3 rfl (by decide) rfl ?_
  refine g_aload_n C 2 rfl d_Mo_fillWide_4 rfl ?_
  refine g_iconst (v := 1) C d_Mo_fillWide_5 (by decide) ?_
  obtain ⟨v2, ev2, hr⟩ := of_bnd hr
  refine g_laload C ev2 d_Mo_fillWide_6 ?_
  refine g_lstore (lv' := [(5, .long v2), (3, .long v1), (0, .ref p0), (1, .ref p1), (2, .ref p2)]) C d_Mo_fillWide_7 (by decide) rfl ?_
  refine g_aload_n C 3 rfl d_Mo_fillWide_9 rfl ?_
  refine g_iconst (v := 2) C d_Mo_fillWide_10 (by decide) ?_
  obtain ⟨v3, ev3, hr⟩ := of_bnd hr
  refine g_laload C ev3 d_Mo_fillWide_11 ?_
  refine g_lstore (lv' := [(7, .long v3), (5, .long v2), (3, .long v1), (0, .ref p0), (1, .ref p1), (2, .ref p2)]) C d_Mo_fillWide_12 (by decide) rfl ?_
  refine g_aload_n C 4 rfl d_Mo_fillWide_14 rfl ?_
  refine g_iconst (v := 3) C d_Mo_fillWide_15 (by decide) ?_
  obtain ⟨v4, ev4, hr⟩ := of_bnd hr
  refine g_laload C ev4 d_Mo_fillWide_16 ?_
  refine g_lstore (lv' := [(9, .long v4), (7, .long v3), (5, .long v2), (3, .long v1), (0, .ref p0), (1, .ref p1), (2, .ref p2)]) C d_Mo_fillWide_17 (by decide) rfl ?_
  refine g_aload_n C 5 rfl d_Mo_fillWide_19 rfl ?_
  refine g_iconst (v := 4) C d_Mo_fillWide_20 (by decide) ?_
  obtain ⟨v5, ev5, hr⟩ := of_bnd hr
  refine g_laload C ev5 d_Mo_fillWide_21 ?_
  refine g_lstore (lv' := [(11, .long v5), (9, .long v4), (7, .long v3), (5, .long v2), (3, .long v1), (0, .ref p0), (1, .ref p1), (2, .ref p2)]) C d_Mo_fillWide_22 (by decide) rfl ?_
  refine g_aload_n C 6 rfl d_Mo_fillWide_24 rfl ?_
  refine g_iconst (v := 5) C d_Mo_fillWide_25 (by decide) ?_
  obtain ⟨v6, ev6, hr⟩ := of_bnd hr
  refine g_laload C ev6 d_Mo_fillWide_26 ?_
  refine g_lstore (lv' := [(13, .long v6), (11, .long v5), (9, .long v4), (7, .long v3), (5, .long v2), (3, .long v1), (0, .ref p0), (1, .ref p1), (2, .ref p2)]) C d_Mo_fillWide_27 (by decide) rfl ?_
  refine g_aload_n C 7 rfl d_Mo_fillWide_29 rfl ?_
  refine g_bipush (v := 6) C d_Mo_fillWide_30 (by decide) ?_
  obtain ⟨v7, ev7, hr⟩ := of_bnd hr
  refine g_laload C ev7 d_Mo_fillWide_32 ?_
  refine g_lstore (lv' := [(15, .long v7), (13, .long v6), (11, .long v5), (9, .long v4), (7, .long v3), (5, .long v2), (3, .long v1), (0, .ref p0), (1, .ref p1), (2, .ref p2)]) C d_Mo_fillWide_33 (by decide) rfl ?_
  refine g_aload_n C 8 rfl d_Mo_fillWide_35 rfl ?_
  refine g_bipush (v := 7) C d_Mo_fillWide_36 (by decide) ?_
  obtain ⟨v8, ev8, hr⟩ := of_bnd hr
  refine g_laload C ev8 d_Mo_fillWide_38 ?_
  refine g_lstore (lv' := [(17, .long v8), (15, .long v7), (13, .long v6), (11, .long v5), (9, .long v4), (7, .long v3), (5, .long v2), (3, .long v1), (0, .ref p0), (1, .ref p1), (2, .ref p2)]) C d_Mo_fillWide_39 (by decide) rfl ?_
  refine g_aload_n C 9 rfl d_Mo_fillWide_41 rfl ?_
  refine g_bipush (v := 8) C d_Mo_fillWide_42 (by decide) ?_
  obtain ⟨v9, ev9, hr⟩ := of_bnd hr
  refine g_laload C ev9 d_Mo_fillWide_44 ?_
  refine g_lstore (lv' := [(19, .long v9), (17, .long v8), (15, .long v7), (13, .long v6), (11, .long v5), (9, .long v4), (7, .long v3), (5, .long v2), (3, .long v1), (0, .ref p0), (1, .ref p1), (2, .ref p2)]) C d_Mo_fillWide_45 (by decide) rfl ?_
  refine g_aload_n C 11 rfl d_Mo_fillWide_47 rfl ?_
  refine g_iconst (v := 0) C d_Mo_fillWide_48 (by decide) ?_
  obtain ⟨v10, ev10, hr⟩ := of_bnd hr
  refine g_laload C ev10 d_Mo_fillWide_49 ?_
  refine g_lstore (lv' := [(21, .long v10), (19, .long v9), (17, .long v8), (15, .long v7), (13, .long v6), (11, .long v5), (9, .long v4), (7, .long v3), (5, .long v2), (3, .long v1), (0, .ref p0), (1, .ref p1), (2, .ref p2)]) C d_Mo_fillWide_50 (by decide) rfl ?_
  refine g_aload_n C 12 rfl d_Mo_fillWide_52 rfl ?_
  refine g_iconst (v := 1) C d_Mo_fillWide_53 (by decide) ?_
  obtain ⟨v11, ev11, hr⟩ := of_bnd hr
  refine g_laload C ev11 d_Mo_fillWide_54 ?_
  refine g_lstore (lv' := [(23, .long v11), (21, .long v10), (19, .long v9), (17, .long v8), (15, .long v7), (13, .long v6), (11, .long v5), (9, .long v4), (7, .long v3), (5, .long v2), (3, .long v1), (0, .ref p0), (1, .ref p1), (2, .ref p2)]) C d_Mo_fillWide_55 (by decide) rfl ?_
  refine g_aload_n C 13 rfl d_Mo_fillWide_57 rfl ?_
  refine g_iconst (v := 2) C d_Mo_fillWide_58 (by decide) ?_
  obtain ⟨v12, ev12, hr⟩ := of_bnd hr
  refine g_laload C ev12 d_Mo_fillWide_59 ?_
  refine g_lstore (lv' := [(25, .long v12), (23, .long v11), (21, .long v10), (19, .long v9), (17, .long v8), (15, .long v7), (13, .long v6), (11, .long v5), (9, .long v4), (7, .long v3), (5, .long v2), (3, .long v1), (0, .ref p0), (1, .ref p1), (2, .ref p2)]) C d_Mo_fillWide_60 (by decide) rfl ?_
  refine g_aload_n C 14 rfl d_Mo_fillWide_62 rfl ?_
  refine g_iconst (v := 3) C d_Mo_fillWide_63 (by decide) ?_
  obtain ⟨v13, ev13, hr⟩ := of_bnd hr
  refine g_laload C ev13 d_Mo_fillWide_64 ?_
  refine g_lstore (lv' := [(27, .long v13), (25, .long v12), (23, .long v11), (21, .long v10), (19, .long v9), (17, .long v8), (15, .long v7), (13, .long v6), (11, .long v5), (9, .long v4), (7, .long v3), (5, .long v2), (3, .long v1), (0, .ref p0), (1, .ref p1), (2, .ref p2)]) C d_Mo_fillWide_65 (by decide) rfl ?_
  refine g_aload_n C 15 rfl d_Mo_fillWide_67 rfl ?_
  refine g_iconst (v := 4) C d_Mo_fillWide_68 (by decide) ?_
  obtain ⟨v14, ev14, hr⟩ := of_bnd hr
  refine g_laload C ev14 d_Mo_fillWide_69 ?_
  refine g_lstore (lv' := [(29, .long v14), (27, .long v13), (25, .long v12), (23, .long v11), (21, .long v10), (19, .long v9), (17, .long v8), (15, .long v7), (13, .long v6), (11, .long v5), (9, .long v4), (7, .long v3), (5, .long v2), (3, .long v1), (0, .ref p0), (1, .ref p1), (2, .ref p2)]) C d_Mo_fillWide_70 (by decide) rfl ?_
  refine g_aload_n C 16 rfl d_Mo_fillWide_72 rfl ?_
  refine g_iconst (v := 5) C d_Mo_fillWide_73 (by decide) ?_
  obtain ⟨v15, ev15, hr⟩ := of_bnd hr
  refine g_laload C ev15 d_Mo_fillWide_74 ?_
  refine g_lstore (lv' := [(31, .long v15), (29, .long v14), (27, .long v13), (25, .long v12), (23, .long v11), (21, .long v10), (19, .long v9), (17, .long v8), (15, .long v7), (13, .long v6), (11, .long v5), (9, .long v4), (7, .long v3), (5, .long v2), (3, .long v1), (0, .ref p0), (1, .ref p1), (2, .ref p2)]) C d_Mo_fillWide_75 (by decide) rfl ?_
  refine g_aload_n C 17 rfl d_Mo_fillWide_77 rfl ?_
  refine g_bipush (v := 6) C d_Mo_fillWide_78 (by decide) ?_
  obtain ⟨v16, ev16, hr⟩ := of_bnd hr
  refine g_laload C ev16 d_Mo_fillWide_80 ?_
  refine g_lstore (lv' := [(33, .long v16), (31, .long v15), (29, .long v14), (27, .long v13), (25, .long v12), (23, .long v11), (21, .long v10), (19, .long v9), (17, .long v8), (15, .long v7), (13, .long v6), (11, .long v5), (9, .long v4), (7, .long v3), (5, .long v2), (3, .long v1), (0, .ref p0), (1, .ref p1), (2, .ref p2)]) C d_Mo_fillWide_81 (by decide) rfl ?_
  refine g_aload_n C 18 rfl d_Mo_fillWide_83 rfl ?_
  refine g_bipush (v := 7) C d_Mo_fillWide_84 (by decide) ?_
  obtain ⟨v17, ev17, hr⟩ := of_bnd hr
  refine g_laload C ev17 d_Mo_fillWide_86 ?_
  refine g_lstore (lv' := [(35, .long v17), (33, .long v16), (31, .long v15), (29, .long v14), (27, .long v13), (25, .long v12), (23, .long v11), (21, .long v10), (19, .long v9), (17, .long v8), (15, .long v7), (13, .long v6), (11, .long v5), (9, .long v4), (7, .long v3), (5, .long v2), (3, .long v1), (0, .ref p0), (1, .ref p1), (2, .ref p2)]) C d_Mo_fillWide_87 (by decide) rfl ?_
  refine g_aload_n C 19 rfl d_Mo_fillWide_89 rfl ?_
  refine g_bipush (v := 8) C d_Mo_fillWide_90 (by decide) ?_
  obtain ⟨v18, ev18, hr⟩ := of_bnd hr
  refine g_laload C ev18 d_Mo_fillWide_92 ?_
  refine g_lstore (lv' := [(37, .long v18), (35, .long v17), (33, .long v16), (31, .long v15), (29, .long v14), (27, .long v13), (25, .long v12), (23, .long v11), (21, .long v10), (19, .long v9), (17, .long v8), (15, .long v7), (13, .long v6), (11, .long v5), (9, .long v4), (7, .long v3), (5, .long v2), (3, .long v1), (0, .ref p0), (1, .ref p1), (2, .ref p2)]) C d_Mo_fillWide_93 (by decide) rfl ?_
  refine g_aload_n C 18 rfl d_Mo_fillWide_95 rfl ?_
  obtain ⟨k19, ek19, hr⟩ := of_bnd hr
  refine g_getR C fl_Mo_29 ek19 d_Mo_fillWide_96 ?_
  refine g_iconst (v := 0) C d_Mo_fillWide_99 (by decide) ?_
  refine g_lload_n C 17 rfl d_Mo_fillWide_100 rfl ?_
  refine g_lload C 8 rfl d_Mo_fillWide_101 ?_
  refine g_lmul C d_Mo_fillWide_103 ?_
  obtain ⟨h20, eh20, hr⟩ := of_bnd hr
  refine g_lastore C eh20 d_Mo_fillWide_104 ?_
  refine g_aload_n C 18 rfl d_Mo_fillWide_105 rfl ?_
  obtain ⟨k21, ek21, hr⟩ := of_bnd hr
  refine g_getR C fl_Mo_29 ek21 d_Mo_fillWide_106 ?_
  refine g_iconst (v := 1) C d_Mo_fillWide_109 (by decide) ?_
  refine g_lload_n C 17 rfl d_Mo_fillWide_110 rfl ?_
  refine g_lload C 7 rfl d_Mo_fillWide_111 ?_
  refine g_lmul C d_Mo_fillWide_113 ?_
  refine g_lload C 16 rfl d_Mo_fillWide_114 ?_
  refine g_lload C 8 rfl d_Mo_fillWide_116 ?_
  refine g_lmul C d_Mo_fillWide_118 ?_
  refine g_ladd C d_Mo_fillWide_119 ?_
  obtain ⟨h22, eh22, hr⟩ := of_bnd hr
  refine g_lastore C eh22 d_Mo_fillWide_120 ?_
  refine g_aload_n C 18 rfl d_Mo_fillWide_121 rfl ?_
  obtain ⟨k23, ek23, hr⟩ := of_bnd hr
  refine g_getR C fl_Mo_29 ek23 d_Mo_fillWide_122 ?_
  refine g_iconst (v := 2) C d_Mo_fillWide_125 (by decide) ?_
  refine g_lload_n C 17 rfl d_Mo_fillWide_126 rfl ?_
  refine g_lload C 6 rfl d_Mo_fillWide_127 ?_
  refine g_lmul C d_Mo_fillWide_129 ?_
  refine g_lload C 16 rfl d_Mo_fillWide_130 ?_
  refine g_lload C 7 rfl d_Mo_fillWide_132 ?_
  refine g_lmul C d_Mo_fillWide_134 ?_
  refine g_ladd C d_Mo_fillWide_135 ?_
  refine g_lload C 15 rfl d_Mo_fillWide_136 ?_
  refine g_lload C 8 rfl d_Mo_fillWide_138 ?_
  refine g_lmul C d_Mo_fillWide_140 ?_
  refine g_ladd C d_Mo_fillWide_141 ?_
  obtain ⟨h24, eh24, hr⟩ := of_bnd hr
  refine g_lastore C eh24 d_Mo_fillWide_142 ?_
  refine g_aload_n C 18 rfl d_Mo_fillWide_143 rfl ?_
  obtain ⟨k25, ek25, hr⟩ := of_bnd hr
  refine g_getR C fl_Mo_29 ek25 d_Mo_fillWide_144 ?_
  refine g_iconst (v := 3) C d_Mo_fillWide_147 (by decide) ?_
  refine g_lload_n C 17 rfl d_Mo_fillWide_148 rfl ?_
  refine g_lload C 5 rfl d_Mo_fillWide_149 ?_
  refine g_lmul C d_Mo_fillWide_151 ?_
  refine g_lload C 16 rfl d_Mo_fillWide_152 ?_
  refine g_lload C 6 rfl d_Mo_fillWide_154 ?_
  refine g_lmul C d_Mo_fillWide_156 ?_
  refine g_ladd C d_Mo_fillWide_157 ?_
  refine g_lload C 15 rfl d_Mo_fillWide_158 ?_
  refine g_lload C 7 rfl d_Mo_fillWide_160 ?_
  refine g_lmul C d_Mo_fillWide_162 ?_
  refine g_ladd C d_Mo_fillWide_163 ?_
  refine g_lload C 14 rfl d_Mo_fillWide_164 ?_
  refine g_lload C 8 rfl d_Mo_fillWide_166 ?_
  refine g_lmul C d_Mo_fillWide_168 ?_
  refine g_ladd C d_Mo_fillWide_169 ?_
  obtain ⟨h26, eh26, hr⟩ := of_bnd hr
  refine g_lastore C eh26 d_Mo_fillWide_170 ?_
  refine g_aload_n C 18 rfl d_Mo_fillWide_171 rfl ?_
  obtain ⟨k27, ek27, hr⟩ := of_bnd hr
  refine g_getR C fl_Mo_29 ek27 d_Mo_fillWide_172 ?_
  refine g_iconst (v := 4) C d_Mo_fillWide_175 (by decide) ?_
  refine g_lload_n C 17 rfl d_Mo_fillWide_176 rfl ?_
  refine g_lload C 4 rfl d_Mo_fillWide_177 ?_
  refine g_lmul C d_Mo_fillWide_179 ?_
  refine g_lload C 16 rfl d_Mo_fillWide_180 ?_
  refine g_lload C 5 rfl d_Mo_fillWide_182 ?_
  refine g_lmul C d_Mo_fillWide_184 ?_
  refine g_ladd C d_Mo_fillWide_185 ?_
  refine g_lload C 15 rfl d_Mo_fillWide_186 ?_
  refine g_lload C 6 rfl d_Mo_fillWide_188 ?_
  refine g_lmul C d_Mo_fillWide_190 ?_
  refine g_ladd C d_Mo_fillWide_191 ?_
  refine g_lload C 14 rfl d_Mo_fillWide_192 ?_
  refine g_lload C 7 rfl d_Mo_fillWide_194 ?_
  refine g_lmul C d_Mo_fillWide_196 ?_
  refine g_ladd C d_Mo_fillWide_197 ?_
  refine g_lload C 13 rfl d_Mo_fillWide_198 ?_
  refine g_lload C 8 rfl d_Mo_fillWide_200 ?_
  refine g_lmul C d_Mo_fillWide_202 ?_
  refine g_ladd C d_Mo_fillWide_203 ?_
  obtain ⟨h28, eh28, hr⟩ := of_bnd hr
  refine g_lastore C eh28 d_Mo_fillWide_204 ?_
  refine g_aload_n C 18 rfl d_Mo_fillWide_205 rfl ?_
  obtain ⟨k29, ek29, hr⟩ := of_bnd hr
  refine g_getR C fl_Mo_29 ek29 d_Mo_fillWide_206 ?_
  refine g_iconst (v := 5) C d_Mo_fillWide_209 (by decide) ?_
  refine g_lload_n C 17 rfl d_Mo_fillWide_210 rfl ?_
  refine g_lload C 3 rfl d_Mo_fillWide_211 ?_
  refine g_lmul C d_Mo_fillWide_213 ?_
  refine g_lload C 16 rfl d_Mo_fillWide_214 ?_
  refine g_lload C 4 rfl d_Mo_fillWide_216 ?_
  refine g_lmul C d_Mo_fillWide_218 ?_
  refine g_ladd C d_Mo_fillWide_219 ?_
  refine g_lload C 15 rfl d_Mo_fillWide_220 ?_
  refine g_lload C 5 rfl d_Mo_fillWide_222 ?_
  refine g_lmul C d_Mo_fillWide_224 ?_
  refine g_ladd C d_Mo_fillWide_225 ?_
  refine g_lload C 14 rfl d_Mo_fillWide_226 ?_
  refine g_lload C 6 rfl d_Mo_fillWide_228 ?_
  refine g_lmul C d_Mo_fillWide_230 ?_
  refine g_ladd C d_Mo_fillWide_231 ?_
  refine g_lload C 13 rfl d_Mo_fillWide_232 ?_
  refine g_lload C 7 rfl d_Mo_fillWide_234 ?_
  refine g_lmul C d_Mo_fillWide_236 ?_
  refine g_ladd C d_Mo_fillWide_237 ?_
  refine g_lload C 12 rfl d_Mo_fillWide_238 ?_
  refine g_lload C 8 rfl d_Mo_fillWide_240 ?_
  refine g_lmul C d_Mo_fillWide_242 ?_
  refine g_ladd C d_Mo_fillWide_243 ?_
  obtain ⟨h30, eh30, hr⟩ := of_bnd hr
  refine g_lastore C eh30 d_Mo_fillWide_244 ?_
  refine g_aload_n C 18 rfl d_Mo_fillWide_245 rfl ?_
  obtain ⟨k31, ek31, hr⟩ := of_bnd hr
  refine g_getR C fl_Mo_29 ek31 d_Mo_fillWide_246 ?_
  refine g_bipush (v := 6) C d_Mo_fillWide_249 (by decide) ?_
  refine g_lload_n C 17 rfl d_Mo_fillWide_251 rfl ?_
  refine g_lload C 2 rfl d_Mo_fillWide_252 ?_
  refine g_lmul C d_Mo_fillWide_254 ?_
  refine g_lload C 16 rfl d_Mo_fillWide_255 ?_
  refine g_lload C 3 rfl d_Mo_fillWide_257 ?_
  refine g_lmul C d_Mo_fillWide_259 ?_
  refine g_ladd C d_Mo_fillWide_260 ?_
  refine g_lload C 15 rfl d_Mo_fillWide_261 ?_
  refine g_lload C 4 rfl d_Mo_fillWide_263 ?_
  refine g_lmul C d_Mo_fillWide_265 ?_
  refine g_ladd C d_Mo_fillWide_266 ?_
  refine g_lload C 14 rfl d_Mo_fillWide_267 ?_
  refine g_lload C 5 rfl d_Mo_fillWide_269 ?_
  refine g_lmul C d_Mo_fillWide_271 ?_
  refine g_ladd C d_Mo_fillWide_272 ?_
  refine g_lload C 13 rfl d_Mo_fillWide_273 ?_
  refine g_lload C 6 rfl d_Mo_fillWide_275 ?_
  refine g_lmul C d_Mo_fillWide_277 ?_
  refine g_ladd C d_Mo_fillWide_278 ?_
  refine g_lload C 12 rfl d_Mo_fillWide_279 ?_
  refine g_lload C 7 rfl d_Mo_fillWide_281 ?_
  refine g_lmul C d_Mo_fillWide_283 ?_
  refine g_ladd C d_Mo_fillWide_284 ?_
  refine g_lload C 11 rfl d_Mo_fillWide_285 ?_
  refine g_lload C 8 rfl d_Mo_fillWide_287 ?_
  refine g_lmul C d_Mo_fillWide_289 ?_
  refine g_ladd C d_Mo_fillWide_290 ?_
  obtain ⟨h32, eh32, hr⟩ := of_bnd hr
  refine g_lastore C eh32 d_Mo_fillWide_291 ?_
  refine g_aload_n C 18 rfl d_Mo_fillWide_292 rfl ?_
  obtain ⟨k33, ek33, hr⟩ := of_bnd hr
  refine g_getR C fl_Mo_29 ek33 d_Mo_fillWide_293 ?_
  refine g_bipush (v := 7) C d_Mo_fillWide_296 (by decide) ?_
  refine g_lload_n C 17 rfl d_Mo_fillWide_298 rfl ?_
  refine g_lload C 1 rfl d_Mo_fillWide_299 ?_
  refine g_lmul C d_Mo_fillWide_301 ?_
  refine g_lload C 16 rfl d_Mo_fillWide_302 ?_
  refine g_lload C 2 rfl d_Mo_fillWide_304 ?_
  refine g_lmul C d_Mo_fillWide_306 ?_
  refine g_ladd C d_Mo_fillWide_307 ?_
  refine g_lload C 15 rfl d_Mo_fillWide_308 ?_
  refine g_lload C 3 rfl d_Mo_fillWide_310 ?_
  refine g_lmul C d_Mo_fillWide_312 ?_
  refine g_ladd C d_Mo_fillWide_313 ?_
  refine g_lload C 14 rfl d_Mo_fillWide_314 ?_
  refine g_lload C 4 rfl d_Mo_fillWide_316 ?_
  refine g_lmul C d_Mo_fillWide_318 ?_
  refine g_ladd C d_Mo_fillWide_319 ?_
  refine g_lload C 13 rfl d_Mo_fillWide_320 ?_
  refine g_lload C 5 rfl d_Mo_fillWide_322 ?_
  refine g_lmul C d_Mo_fillWide_324 ?_
  refine g_ladd C d_Mo_fillWide_325 ?_
  refine g_lload C 12 rfl d_Mo_fillWide_326 ?_
  refine g_lload C 6 rfl d_Mo_fillWide_328 ?_
  refine g_lmul C d_Mo_fillWide_330 ?_
  refine g_ladd C d_Mo_fillWide_331 ?_
  refine g_lload C 11 rfl d_Mo_fillWide_332 ?_
  refine g_lload C 7 rfl d_Mo_fillWide_334 ?_
  refine g_lmul C d_Mo_fillWide_336 ?_
  refine g_ladd C d_Mo_fillWide_337 ?_
  refine g_lload C 10 rfl d_Mo_fillWide_338 ?_
  refine g_lload C 8 rfl d_Mo_fillWide_340 ?_
  refine g_lmul C d_Mo_fillWide_342 ?_
  refine g_ladd C d_Mo_fillWide_343 ?_
  obtain ⟨h34, eh34, hr⟩ := of_bnd hr
  refine g_lastore C eh34 d_Mo_fillWide_344 ?_
  refine g_aload_n C 18 rfl d_Mo_fillWide_345 rfl ?_
  obtain ⟨k35, ek35, hr⟩ := of_bnd hr
  refine g_getR C fl_Mo_29 ek35 d_Mo_fillWide_346 ?_
  refine g_bipush (v := 8) C d_Mo_fillWide_349 (by decide) ?_
  refine g_lload_n C 17 rfl d_Mo_fillWide_351 rfl ?_
  refine g_lload C 0 rfl d_Mo_fillWide_352 ?_
  refine g_lmul C d_Mo_fillWide_354 ?_
  refine g_lload C 16 rfl d_Mo_fillWide_355 ?_
  refine g_lload C 1 rfl d_Mo_fillWide_357 ?_
  refine g_lmul C d_Mo_fillWide_359 ?_
  refine g_ladd C d_Mo_fillWide_360 ?_
  refine g_lload C 15 rfl d_Mo_fillWide_361 ?_
  refine g_lload C 2 rfl d_Mo_fillWide_363 ?_
  refine g_lmul C d_Mo_fillWide_365 ?_
  refine g_ladd C d_Mo_fillWide_366 ?_
  refine g_lload C 14 rfl d_Mo_fillWide_367 ?_
  refine g_lload C 3 rfl d_Mo_fillWide_369 ?_
  refine g_lmul C d_Mo_fillWide_371 ?_
  refine g_ladd C d_Mo_fillWide_372 ?_
  refine g_lload C 13 rfl d_Mo_fillWide_373 ?_
  refine g_lload C 4 rfl d_Mo_fillWide_375 ?_
  refine g_lmul C d_Mo_fillWide_377 ?_
  refine g_ladd C d_Mo_fillWide_378 ?_
  refine g_lload C 12 rfl d_Mo_fillWide_379 ?_
  refine g_lload C 5 rfl d_Mo_fillWide_381 ?_
  refine g_lmul C d_Mo_fillWide_383 ?_
  refine g_ladd C d_Mo_fillWide_384 ?_
  refine g_lload C 11 rfl d_Mo_fillWide_385 ?_
  refine g_lload C 6 rfl d_Mo_fillWide_387 ?_
  refine g_lmul C d_Mo_fillWide_389 ?_
  refine g_ladd C d_Mo_fillWide_390 ?_
  refine g_lload C 10 rfl d_Mo_fillWide_391 ?_
  refine g_lload C 7 rfl d_Mo_fillWide_393 ?_
  refine g_lmul C d_Mo_fillWide_395 ?_
  refine g_ladd C d_Mo_fillWide_396 ?_
  refine g_lload C 9 rfl d_Mo_fillWide_397 ?_
  refine g_lload C 8 rfl d_Mo_fillWide_399 ?_
  refine g_lmul C d_Mo_fillWide_401 ?_
  refine g_ladd C d_Mo_fillWide_402 ?_
  obtain ⟨h36, eh36, hr⟩ := of_bnd hr
  refine g_lastore C eh36 d_Mo_fillWide_403 ?_
  refine g_aload_n C 18 rfl d_Mo_fillWide_404 rfl ?_
  obtain ⟨k37, ek37, hr⟩ := of_bnd hr
  refine g_getR C fl_Mo_29 ek37 d_Mo_fillWide_405 ?_
  refine g_bipush (v := 9) C d_Mo_fillWide_408 (by decide) ?_
  refine g_lload C 16 rfl d_Mo_fillWide_410 ?_
  refine g_lload C 0 rfl d_Mo_fillWide_412 ?_
  refine g_lmul C d_Mo_fillWide_414 ?_
  refine g_lload C 15 rfl d_Mo_fillWide_415 ?_
  refine g_lload C 1 rfl d_Mo_fillWide_417 ?_
  refine g_lmul C d_Mo_fillWide_419 ?_
  refine g_ladd C d_Mo_fillWide_420 ?_
  refine g_lload C 14 rfl d_Mo_fillWide_421 ?_
  refine g_lload C 2 rfl d_Mo_fillWide_423 ?_
  refine g_lmul C d_Mo_fillWide_425 ?_
  refine g_ladd C d_Mo_fillWide_426 ?_
  refine g_lload C 13 rfl d_Mo_fillWide_427 ?_
  refine g_lload C 3 rfl d_Mo_fillWide_429 ?_
  refine g_lmul C d_Mo_fillWide_431 ?_
  refine g_ladd C d_Mo_fillWide_432 ?_
  refine g_lload C 12 rfl d_Mo_fillWide_433 ?_
  refine g_lload C 4 rfl d_Mo_fillWide_435 ?_
  refine g_lmul C d_Mo_fillWide_437 ?_
  refine g_ladd C d_Mo_fillWide_438 ?_
  refine g_lload C 11 rfl d_Mo_fillWide_439 ?_
  refine g_lload C 5 rfl d_Mo_fillWide_441 ?_
  refine g_lmul C d_Mo_fillWide_443 ?_
  refine g_ladd C d_Mo_fillWide_444 ?_
  refine g_lload C 10 rfl d_Mo_fillWide_445 ?_
  refine g_lload C 6 rfl d_Mo_fillWide_447 ?_
  refine g_lmul C d_Mo_fillWide_449 ?_
  refine g_ladd C d_Mo_fillWide_450 ?_
  refine g_lload C 9 rfl d_Mo_fillWide_451 ?_
  refine g_lload C 7 rfl d_Mo_fillWide_453 ?_
  refine g_lmul C d_Mo_fillWide_455 ?_
  refine g_ladd C d_Mo_fillWide_456 ?_
  obtain ⟨h38, eh38, hr⟩ := of_bnd hr
  refine g_lastore C eh38 d_Mo_fillWide_457 ?_
  refine g_aload_n C 18 rfl d_Mo_fillWide_458 rfl ?_
  obtain ⟨k39, ek39, hr⟩ := of_bnd hr
  refine g_getR C fl_Mo_29 ek39 d_Mo_fillWide_459 ?_
  refine g_bipush (v := 10) C d_Mo_fillWide_462 (by decide) ?_
  refine g_lload C 15 rfl d_Mo_fillWide_464 ?_
  refine g_lload C 0 rfl d_Mo_fillWide_466 ?_
  refine g_lmul C d_Mo_fillWide_468 ?_
  refine g_lload C 14 rfl d_Mo_fillWide_469 ?_
  refine g_lload C 1 rfl d_Mo_fillWide_471 ?_
  refine g_lmul C d_Mo_fillWide_473 ?_
  refine g_ladd C d_Mo_fillWide_474 ?_
  refine g_lload C 13 rfl d_Mo_fillWide_475 ?_
  refine g_lload C 2 rfl d_Mo_fillWide_477 ?_
  refine g_lmul C d_Mo_fillWide_479 ?_
  refine g_ladd C d_Mo_fillWide_480 ?_
  refine g_lload C 12 rfl d_Mo_fillWide_481 ?_
  refine g_lload C 3 rfl d_Mo_fillWide_483 ?_
  refine g_lmul C d_Mo_fillWide_485 ?_
  refine g_ladd C d_Mo_fillWide_486 ?_
  refine g_lload C 11 rfl d_Mo_fillWide_487 ?_
  refine g_lload C 4 rfl d_Mo_fillWide_489 ?_
  refine g_lmul C d_Mo_fillWide_491 ?_
  refine g_ladd C d_Mo_fillWide_492 ?_
  refine g_lload C 10 rfl d_Mo_fillWide_493 ?_
  refine g_lload C 5 rfl d_Mo_fillWide_495 ?_
  refine g_lmul C d_Mo_fillWide_497 ?_
  refine g_ladd C d_Mo_fillWide_498 ?_
  refine g_lload C 9 rfl d_Mo_fillWide_499 ?_
  refine g_lload C 6 rfl d_Mo_fillWide_501 ?_
  refine g_lmul C d_Mo_fillWide_503 ?_
  refine g_ladd C d_Mo_fillWide_504 ?_
  obtain ⟨h40, eh40, hr⟩ := of_bnd hr
  refine g_lastore C eh40 d_Mo_fillWide_505 ?_
  refine g_aload_n C 18 rfl d_Mo_fillWide_506 rfl ?_
  obtain ⟨k41, ek41, hr⟩ := of_bnd hr
  refine g_getR C fl_Mo_29 ek41 d_Mo_fillWide_507 ?_
  refine g_bipush (v := 11) C d_Mo_fillWide_510 (by decide) ?_
  refine g_lload C 14 rfl d_Mo_fillWide_512 ?_
  refine g_lload C 0 rfl d_Mo_fillWide_514 ?_
  refine g_lmul C d_Mo_fillWide_516 ?_
  refine g_lload C 13 rfl d_Mo_fillWide_517 ?_
  refine g_lload C 1 rfl d_Mo_fillWide_519 ?_
  refine g_lmul C d_Mo_fillWide_521 ?_
  refine g_ladd C d_Mo_fillWide_522 ?_
  refine g_lload C 12 rfl d_Mo_fillWide_523 ?_
  refine g_lload C 2 rfl d_Mo_fillWide_525 ?_
  refine g_lmul C d_Mo_fillWide_527 ?_
  refine g_ladd C d_Mo_fillWide_528 ?_
  refine g_lload C 11 rfl d_Mo_fillWide_529 ?_
  refine g_lload C 3 rfl d_Mo_fillWide_531 ?_
  refine g_lmul C d_Mo_fillWide_533 ?_
  refine g_ladd C d_Mo_fillWide_534 ?_
  refine g_lload C 10 rfl d_Mo_fillWide_535 ?_
  refine g_lload C 4 rfl d_Mo_fillWide_537 ?_
  refine g_lmul C d_Mo_fillWide_539 ?_
  refine g_ladd C d_Mo_fillWide_540 ?_
  refine g_lload C 9 rfl d_Mo_fillWide_541 ?_
  refine g_lload C 5 rfl d_Mo_fillWide_543 ?_
  refine g_lmul C d_Mo_fillWide_545 ?_
  refine g_ladd C d_Mo_fillWide_546 ?_
  obtain ⟨h42, eh42, hr⟩ := of_bnd hr
  refine g_lastore C eh42 d_Mo_fillWide_547 ?_
  refine g_aload_n C 18 rfl d_Mo_fillWide_548 rfl ?_
  obtain ⟨k43, ek43, hr⟩ := of_bnd hr
  refine g_getR C fl_Mo_29 ek43 d_Mo_fillWide_549 ?_
  refine g_bipush (v := 12) C d_Mo_fillWide_552 (by decide) ?_
  refine g_lload C 13 rfl d_Mo_fillWide_554 ?_
  refine g_lload C 0 rfl d_Mo_fillWide_556 ?_
  refine g_lmul C d_Mo_fillWide_558 ?_
  refine g_lload C 12 rfl d_Mo_fillWide_559 ?_
  refine g_lload C 1 rfl d_Mo_fillWide_561 ?_
  refine g_lmul C d_Mo_fillWide_563 ?_
  refine g_ladd C d_Mo_fillWide_564 ?_
  refine g_lload C 11 rfl d_Mo_fillWide_565 ?_
  refine g_lload C 2 rfl d_Mo_fillWide_567 ?_
  refine g_lmul C d_Mo_fillWide_569 ?_
  refine g_ladd C d_Mo_fillWide_570 ?_
  refine g_lload C 10 rfl d_Mo_fillWide_571 ?_
  refine g_lload C 3 rfl d_Mo_fillWide_573 ?_
  refine g_lmul C d_Mo_fillWide_575 ?_
  refine g_ladd C d_Mo_fillWide_576 ?_
  refine g_lload C 9 rfl d_Mo_fillWide_577 ?_
  refine g_lload C 4 rfl d_Mo_fillWide_579 ?_
  refine g_lmul C d_Mo_fillWide_581 ?_
  refine g_ladd C d_Mo_fillWide_582 ?_
  obtain ⟨h44, eh44, hr⟩ := of_bnd hr
  refine g_lastore C eh44 d_Mo_fillWide_583 ?_
  refine g_aload_n C 18 rfl d_Mo_fillWide_584 rfl ?_
  obtain ⟨k45, ek45, hr⟩ := of_bnd hr
  refine g_getR C fl_Mo_29 ek45 d_Mo_fillWide_585 ?_
  refine g_bipush (v := 13) C d_Mo_fillWide_588 (by decide) ?_
  refine g_lload C 12 rfl d_Mo_fillWide_590 ?_
  refine g_lload C 0 rfl d_Mo_fillWide_592 ?_
  refine g_lmul C d_Mo_fillWide_594 ?_
  refine g_lload C 11 rfl d_Mo_fillWide_595 ?_
  refine g_lload C 1 rfl d_Mo_fillWide_597 ?_
  refine g_lmul C d_Mo_fillWide_599 ?_
  refine g_ladd C d_Mo_fillWide_600 ?_
  refine g_lload C 10 rfl d_Mo_fillWide_601 ?_
  refine g_lload C 2 rfl d_Mo_fillWide_603 ?_
  refine g_lmul C d_Mo_fillWide_605 ?_
  refine g_ladd C d_Mo_fillWide_606 ?_
  refine g_lload C 9 rfl d_Mo_fillWide_607 ?_
  refine g_lload C 3 rfl d_Mo_fillWide_609 ?_
  refine g_lmul C d_Mo_fillWide_611 ?_
  refine g_ladd C d_Mo_fillWide_612 ?_
  obtain ⟨h46, eh46, hr⟩ := of_bnd hr
  refine g_lastore C eh46 d_Mo_fillWide_613 ?_
  refine g_aload_n C 18 rfl d_Mo_fillWide_614 rfl ?_
  obtain ⟨k47, ek47, hr⟩ := of_bnd hr
  refine g_getR C fl_Mo_29 ek47 d_Mo_fillWide_615 ?_
  refine g_bipush (v := 14) C d_Mo_fillWide_618 (by decide) ?_
  refine g_lload C 11 rfl d_Mo_fillWide_620 ?_
  refine g_lload C 0 rfl d_Mo_fillWide_622 ?_
  refine g_lmul C d_Mo_fillWide_624 ?_
  refine g_lload C 10 rfl d_Mo_fillWide_625 ?_
  refine g_lload C 1 rfl d_Mo_fillWide_627 ?_
  refine g_lmul C d_Mo_fillWide_629 ?_
  refine g_ladd C d_Mo_fillWide_630 ?_
  refine g_lload C 9 rfl d_Mo_fillWide_631 ?_
  refine g_lload C 2 rfl d_Mo_fillWide_633 ?_
  refine g_lmul C d_Mo_fillWide_635 ?_
  refine g_ladd C d_Mo_fillWide_636 ?_
  obtain ⟨h48, eh48, hr⟩ := of_bnd hr
  refine g_lastore C eh48 d_Mo_fillWide_637 ?_
  refine g_aload_n C 18 rfl d_Mo_fillWide_638 rfl ?_
  obtain ⟨k49, ek49, hr⟩ := of_bnd hr
  refine g_getR C fl_Mo_29 ek49 d_Mo_fillWide_639 ?_
  refine g_bipush (v := 15) C d_Mo_fillWide_642 (by decide) ?_
  refine g_lload C 10 rfl d_Mo_fillWide_644 ?_
  refine g_lload C 0 rfl d_Mo_fillWide_646 ?_
  refine g_lmul C d_Mo_fillWide_648 ?_
  refine g_lload C 9 rfl d_Mo_fillWide_649 ?_
  refine g_lload C 1 rfl d_Mo_fillWide_651 ?_
  refine g_lmul C d_Mo_fillWide_653 ?_
  refine g_ladd C d_Mo_fillWide_654 ?_
  obtain ⟨h50, eh50, hr⟩ := of_bnd hr
  refine g_lastore C eh50 d_Mo_fillWide_655 ?_
  refine g_aload_n C 18 rfl d_Mo_fillWide_656 rfl ?_
  obtain ⟨k51, ek51, hr⟩ := of_bnd hr
  refine g_getR C fl_Mo_29 ek51 d_Mo_fillWide_657 ?_
  refine g_bipush (v := 16) C d_Mo_fillWide_660 (by decide) ?_
  refine g_lload C 9 rfl d_Mo_fillWide_662 ?_
  refine g_lload C 0 rfl d_Mo_fillWide_664 ?_
  refine g_lmul C d_Mo_fillWide_666 ?_
  obtain ⟨h52, eh52, hr⟩ := of_bnd hr
  refine g_lastore C eh52 d_Mo_fillWide_667 ?_
  cases hr
  exact g_vreturn C T (by decide) (by decide) d_Mo_fillWide_668
end
section
abbrev b_Mo_foldWide : ByteArray := prog_4_method_14_code
abbrev y_Mo_foldWide : MethodName := ⟨"PrimeKeys$Modulus", "foldWide", "([J)V"⟩
theorem d_Mo_foldWide_0 : decode b_Mo_foldWide 0 = .ok (.aload_n 0, 1) := by decide +kernel
theorem d_Mo_foldWide_1 : decode b_Mo_foldWide 1 = .ok (.getfield 11, 3) := by decide +kernel
theorem d_Mo_foldWide_4 : decode b_Mo_foldWide 4 = .ok (.iconst 0, 1) := by decide +kernel
theorem d_Mo_foldWide_5 : decode b_Mo_foldWide 5 = .ok (.laload, 1) := by decide +kernel
theorem d_Mo_foldWide_6 : decode b_Mo_foldWide 6 = .ok (.lstore_n 2, 1) := by decide +kernel
theorem d_Mo_foldWide_7 : decode b_Mo_foldWide 7 = .ok (.aload_n 0, 1) := by decide +kernel
theorem d_Mo_foldWide_8 : decode b_Mo_foldWide 8 = .ok (.getfield 11, 3) := by decide +kernel
theorem d_Mo_foldWide_11 : decode b_Mo_foldWide 11 = .ok (.iconst 1, 1) := by decide +kernel
theorem d_Mo_foldWide_12 : decode b_Mo_foldWide 12 = .ok (.laload, 1) := by decide +kernel
theorem d_Mo_foldWide_13 : decode b_Mo_foldWide 13 = .ok (.lstore 4, 2) := by decide +kernel
theorem d_Mo_foldWide_15 : decode b_Mo_foldWide 15 = .ok (.aload_n 0, 1) := by decide +kernel
theorem d_Mo_foldWide_16 : decode b_Mo_foldWide 16 = .ok (.getfield 11, 3) := by decide +kernel
theorem d_Mo_foldWide_19 : decode b_Mo_foldWide 19 = .ok (.iconst 2, 1) := by decide +kernel
theorem d_Mo_foldWide_20 : decode b_Mo_foldWide 20 = .ok (.laload, 1) := by decide +kernel
theorem d_Mo_foldWide_21 : decode b_Mo_foldWide 21 = .ok (.lstore 6, 2) := by decide +kernel
theorem d_Mo_foldWide_23 : decode b_Mo_foldWide 23 = .ok (.aload_n 0, 1) := by decide +kernel
theorem d_Mo_foldWide_24 : decode b_Mo_foldWide 24 = .ok (.getfield 11, 3) := by decide +kernel
theorem d_Mo_foldWide_27 : decode b_Mo_foldWide 27 = .ok (.iconst 3, 1) := by decide +kernel
theorem d_Mo_foldWide_28 : decode b_Mo_foldWide 28 = .ok (.laload, 1) := by decide +kernel
theorem d_Mo_foldWide_29 : decode b_Mo_foldWide 29 = .ok (.lstore 8, 2) := by decide +kernel
theorem d_Mo_foldWide_31 : decode b_Mo_foldWide 31 = .ok (.aload_n 0, 1) := by decide +kernel
theorem d_Mo_foldWide_32 : decode b_Mo_foldWide 32 = .ok (.getfield 11, 3) := by decide +kernel
theorem d_Mo_foldWide_35 : decode b_Mo_foldWide 35 = .ok (.iconst 4, 1) := by decide +kernel
theorem d_Mo_foldWide_36 : decode b_Mo_foldWide 36 = .ok (.laload, 1) := by decide +kernel
theorem d_Mo_foldWide_37 : decode b_Mo_foldWide 37 = .ok (.lstore 10, 2) := by decide +kernel
theorem d_Mo_foldWide_39 : decode b_Mo_foldWide 39 = .ok (.aload_n 0, 1) := by decide +kernel
theorem d_Mo_foldWide_40 : decode b_Mo_foldWide 40 = .ok (.getfield 11, 3) := by decide +kernel
theorem d_Mo_foldWide_43 : decode b_Mo_foldWide 43 = .ok (.iconst 5, 1) := by decide +kernel
theorem d_Mo_foldWide_44 : decode b_Mo_foldWide 44 = .ok (.laload, 1) := by decide +kernel
theorem d_Mo_foldWide_45 : decode b_Mo_foldWide 45 = .ok (.lstore 12, 2) := by decide +kernel
theorem d_Mo_foldWide_47 : decode b_Mo_foldWide 47 = .ok (.aload_n 0, 1) := by decide +kernel
theorem d_Mo_foldWide_48 : decode b_Mo_foldWide 48 = .ok (.getfield 11, 3) := by decide +kernel
theorem d_Mo_foldWide_51 : decode b_Mo_foldWide 51 = .ok (.bipush 6, 2) := by decide +kernel
theorem d_Mo_foldWide_53 : decode b_Mo_foldWide 53 = .ok (.laload, 1) := by decide +kernel
theorem d_Mo_foldWide_54 : decode b_Mo_foldWide 54 = .ok (.lstore 14, 2) := by decide +kernel
theorem d_Mo_foldWide_56 : decode b_Mo_foldWide 56 = .ok (.aload_n 0, 1) := by decide +kernel
theorem d_Mo_foldWide_57 : decode b_Mo_foldWide 57 = .ok (.getfield 11, 3) := by decide +kernel
theorem d_Mo_foldWide_60 : decode b_Mo_foldWide 60 = .ok (.bipush 7, 2) := by decide +kernel
theorem d_Mo_foldWide_62 : decode b_Mo_foldWide 62 = .ok (.laload, 1) := by decide +kernel
theorem d_Mo_foldWide_63 : decode b_Mo_foldWide 63 = .ok (.lstore 16, 2) := by decide +kernel
theorem d_Mo_foldWide_65 : decode b_Mo_foldWide 65 = .ok (.aload_n 0, 1) := by decide +kernel
theorem d_Mo_foldWide_66 : decode b_Mo_foldWide 66 = .ok (.getfield 11, 3) := by decide +kernel
theorem d_Mo_foldWide_69 : decode b_Mo_foldWide 69 = .ok (.bipush 8, 2) := by decide +kernel
theorem d_Mo_foldWide_71 : decode b_Mo_foldWide 71 = .ok (.laload, 1) := by decide +kernel
theorem d_Mo_foldWide_72 : decode b_Mo_foldWide 72 = .ok (.lstore 18, 2) := by decide +kernel
theorem d_Mo_foldWide_74 : decode b_Mo_foldWide 74 = .ok (.aload_n 0, 1) := by decide +kernel
theorem d_Mo_foldWide_75 : decode b_Mo_foldWide 75 = .ok (.getfield 54, 3) := by decide +kernel
theorem d_Mo_foldWide_78 : decode b_Mo_foldWide 78 = .ok (.lstore 20, 2) := by decide +kernel
theorem d_Mo_foldWide_80 : decode b_Mo_foldWide 80 = .ok (.aload_n 0, 1) := by decide +kernel
theorem d_Mo_foldWide_81 : decode b_Mo_foldWide 81 = .ok (.getfield 29, 3) := by decide +kernel
theorem d_Mo_foldWide_84 : decode b_Mo_foldWide 84 = .ok (.iconst 0, 1) := by decide +kernel
theorem d_Mo_foldWide_85 : decode b_Mo_foldWide 85 = .ok (.laload, 1) := by decide +kernel
theorem d_Mo_foldWide_86 : decode b_Mo_foldWide 86 = .ok (.lstore 22, 2) := by decide +kernel
theorem d_Mo_foldWide_88 : decode b_Mo_foldWide 88 = .ok (.lload 22, 2) := by decide +kernel
theorem d_Mo_foldWide_90 : decode b_Mo_foldWide 90 = .ok (.lload 20, 2) := by decide +kernel
theorem d_Mo_foldWide_92 : decode b_Mo_foldWide 92 = .ok (.lmul, 1) := by decide +kernel
theorem d_Mo_foldWide_93 : decode b_Mo_foldWide 93 = .ok (.ldc2_w 52, 3) := by decide +kernel
theorem d_Mo_foldWide_96 : decode b_Mo_foldWide 96 = .ok (.land, 1) := by decide +kernel
theorem d_Mo_foldWide_97 : decode b_Mo_foldWide 97 = .ok (.lstore 24, 2) := by decide +kernel
theorem d_Mo_foldWide_99 : decode b_Mo_foldWide 99 = .ok (.lload 22, 2) := by decide +kernel
theorem d_Mo_foldWide_101 : decode b_Mo_foldWide 101 = .ok (.lload 24, 2) := by decide +kernel
theorem d_Mo_foldWide_103 : decode b_Mo_foldWide 103 = .ok (.lload_n 2, 1) := by decide +kernel
theorem d_Mo_foldWide_104 : decode b_Mo_foldWide 104 = .ok (.lmul, 1) := by decide +kernel
theorem d_Mo_foldWide_105 : decode b_Mo_foldWide 105 = .ok (.ladd, 1) := by decide +kernel
theorem d_Mo_foldWide_106 : decode b_Mo_foldWide 106 = .ok (.bipush 29, 2) := by decide +kernel
theorem d_Mo_foldWide_108 : decode b_Mo_foldWide 108 = .ok (.lshr, 1) := by decide +kernel
theorem d_Mo_foldWide_109 : decode b_Mo_foldWide 109 = .ok (.aload_n 0, 1) := by decide +kernel
theorem d_Mo_foldWide_110 : decode b_Mo_foldWide 110 = .ok (.getfield 29, 3) := by decide +kernel
theorem d_Mo_foldWide_113 : decode b_Mo_foldWide 113 = .ok (.iconst 1, 1) := by decide +kernel
theorem d_Mo_foldWide_114 : decode b_Mo_foldWide 114 = .ok (.laload, 1) := by decide +kernel
theorem d_Mo_foldWide_115 : decode b_Mo_foldWide 115 = .ok (.ladd, 1) := by decide +kernel
theorem d_Mo_foldWide_116 : decode b_Mo_foldWide 116 = .ok (.lload 24, 2) := by decide +kernel
theorem d_Mo_foldWide_118 : decode b_Mo_foldWide 118 = .ok (.lload 4, 2) := by decide +kernel
theorem d_Mo_foldWide_120 : decode b_Mo_foldWide 120 = .ok (.lmul, 1) := by decide +kernel
theorem d_Mo_foldWide_121 : decode b_Mo_foldWide 121 = .ok (.ladd, 1) := by decide +kernel
theorem d_Mo_foldWide_122 : decode b_Mo_foldWide 122 = .ok (.lstore 22, 2) := by decide +kernel
theorem d_Mo_foldWide_124 : decode b_Mo_foldWide 124 = .ok (.lload 22, 2) := by decide +kernel
theorem d_Mo_foldWide_126 : decode b_Mo_foldWide 126 = .ok (.lload 20, 2) := by decide +kernel
theorem d_Mo_foldWide_128 : decode b_Mo_foldWide 128 = .ok (.lmul, 1) := by decide +kernel
theorem d_Mo_foldWide_129 : decode b_Mo_foldWide 129 = .ok (.ldc2_w 52, 3) := by decide +kernel
theorem d_Mo_foldWide_132 : decode b_Mo_foldWide 132 = .ok (.land, 1) := by decide +kernel
theorem d_Mo_foldWide_133 : decode b_Mo_foldWide 133 = .ok (.lstore 26, 2) := by decide +kernel
theorem d_Mo_foldWide_135 : decode b_Mo_foldWide 135 = .ok (.lload 22, 2) := by decide +kernel
theorem d_Mo_foldWide_137 : decode b_Mo_foldWide 137 = .ok (.lload 26, 2) := by decide +kernel
theorem d_Mo_foldWide_139 : decode b_Mo_foldWide 139 = .ok (.lload_n 2, 1) := by decide +kernel
theorem d_Mo_foldWide_140 : decode b_Mo_foldWide 140 = .ok (.lmul, 1) := by decide +kernel
theorem d_Mo_foldWide_141 : decode b_Mo_foldWide 141 = .ok (.ladd, 1) := by decide +kernel
theorem d_Mo_foldWide_142 : decode b_Mo_foldWide 142 = .ok (.bipush 29, 2) := by decide +kernel
theorem d_Mo_foldWide_144 : decode b_Mo_foldWide 144 = .ok (.lshr, 1) := by decide +kernel
theorem d_Mo_foldWide_145 : decode b_Mo_foldWide 145 = .ok (.aload_n 0, 1) := by decide +kernel
theorem d_Mo_foldWide_146 : decode b_Mo_foldWide 146 = .ok (.getfield 29, 3) := by decide +kernel
theorem d_Mo_foldWide_149 : decode b_Mo_foldWide 149 = .ok (.iconst 2, 1) := by decide +kernel
theorem d_Mo_foldWide_150 : decode b_Mo_foldWide 150 = .ok (.laload, 1) := by decide +kernel
theorem d_Mo_foldWide_151 : decode b_Mo_foldWide 151 = .ok (.ladd, 1) := by decide +kernel
theorem d_Mo_foldWide_152 : decode b_Mo_foldWide 152 = .ok (.lload 24, 2) := by decide +kernel
theorem d_Mo_foldWide_154 : decode b_Mo_foldWide 154 = .ok (.lload 6, 2) := by decide +kernel
theorem d_Mo_foldWide_156 : decode b_Mo_foldWide 156 = .ok (.lmul, 1) := by decide +kernel
theorem d_Mo_foldWide_157 : decode b_Mo_foldWide 157 = .ok (.ladd, 1) := by decide +kernel
theorem d_Mo_foldWide_158 : decode b_Mo_foldWide 158 = .ok (.lload 26, 2) := by decide +kernel
theorem d_Mo_foldWide_160 : decode b_Mo_foldWide 160 = .ok (.lload 4, 2) := by decide +kernel
theorem d_Mo_foldWide_162 : decode b_Mo_foldWide 162 = .ok (.lmul, 1) := by decide +kernel
theorem d_Mo_foldWide_163 : decode b_Mo_foldWide 163 = .ok (.ladd, 1) := by decide +kernel
theorem d_Mo_foldWide_164 : decode b_Mo_foldWide 164 = .ok (.lstore 22, 2) := by decide +kernel
theorem d_Mo_foldWide_166 : decode b_Mo_foldWide 166 = .ok (.lload 22, 2) := by decide +kernel
theorem d_Mo_foldWide_168 : decode b_Mo_foldWide 168 = .ok (.lload 20, 2) := by decide +kernel
theorem d_Mo_foldWide_170 : decode b_Mo_foldWide 170 = .ok (.lmul, 1) := by decide +kernel
theorem d_Mo_foldWide_171 : decode b_Mo_foldWide 171 = .ok (.ldc2_w 52, 3) := by decide +kernel
theorem d_Mo_foldWide_174 : decode b_Mo_foldWide 174 = .ok (.land, 1) := by decide +kernel
theorem d_Mo_foldWide_175 : decode b_Mo_foldWide 175 = .ok (.lstore 28, 2) := by decide +kernel
theorem d_Mo_foldWide_177 : decode b_Mo_foldWide 177 = .ok (.lload 22, 2) := by decide +kernel
theorem d_Mo_foldWide_179 : decode b_Mo_foldWide 179 = .ok (.lload 28, 2) := by decide +kernel
theorem d_Mo_foldWide_181 : decode b_Mo_foldWide 181 = .ok (.lload_n 2, 1) := by decide +kernel
theorem d_Mo_foldWide_182 : decode b_Mo_foldWide 182 = .ok (.lmul, 1) := by decide +kernel
theorem d_Mo_foldWide_183 : decode b_Mo_foldWide 183 = .ok (.ladd, 1) := by decide +kernel
theorem d_Mo_foldWide_184 : decode b_Mo_foldWide 184 = .ok (.bipush 29, 2) := by decide +kernel
theorem d_Mo_foldWide_186 : decode b_Mo_foldWide 186 = .ok (.lshr, 1) := by decide +kernel
theorem d_Mo_foldWide_187 : decode b_Mo_foldWide 187 = .ok (.aload_n 0, 1) := by decide +kernel
theorem d_Mo_foldWide_188 : decode b_Mo_foldWide 188 = .ok (.getfield 29, 3) := by decide +kernel
theorem d_Mo_foldWide_191 : decode b_Mo_foldWide 191 = .ok (.iconst 3, 1) := by decide +kernel
theorem d_Mo_foldWide_192 : decode b_Mo_foldWide 192 = .ok (.laload, 1) := by decide +kernel
theorem d_Mo_foldWide_193 : decode b_Mo_foldWide 193 = .ok (.ladd, 1) := by decide +kernel
theorem d_Mo_foldWide_194 : decode b_Mo_foldWide 194 = .ok (.lload 24, 2) := by decide +kernel
theorem d_Mo_foldWide_196 : decode b_Mo_foldWide 196 = .ok (.lload 8, 2) := by decide +kernel
theorem d_Mo_foldWide_198 : decode b_Mo_foldWide 198 = .ok (.lmul, 1) := by decide +kernel
theorem d_Mo_foldWide_199 : decode b_Mo_foldWide 199 = .ok (.ladd, 1) := by decide +kernel
theorem d_Mo_foldWide_200 : decode b_Mo_foldWide 200 = .ok (.lload 26, 2) := by decide +kernel
theorem d_Mo_foldWide_202 : decode b_Mo_foldWide 202 = .ok (.lload 6, 2) := by decide +kernel
theorem d_Mo_foldWide_204 : decode b_Mo_foldWide 204 = .ok (.lmul, 1) := by decide +kernel
theorem d_Mo_foldWide_205 : decode b_Mo_foldWide 205 = .ok (.ladd, 1) := by decide +kernel
theorem d_Mo_foldWide_206 : decode b_Mo_foldWide 206 = .ok (.lload 28, 2) := by decide +kernel
theorem d_Mo_foldWide_208 : decode b_Mo_foldWide 208 = .ok (.lload 4, 2) := by decide +kernel
theorem d_Mo_foldWide_210 : decode b_Mo_foldWide 210 = .ok (.lmul, 1) := by decide +kernel
theorem d_Mo_foldWide_211 : decode b_Mo_foldWide 211 = .ok (.ladd, 1) := by decide +kernel
theorem d_Mo_foldWide_212 : decode b_Mo_foldWide 212 = .ok (.lstore 22, 2) := by decide +kernel
theorem d_Mo_foldWide_214 : decode b_Mo_foldWide 214 = .ok (.lload 22, 2) := by decide +kernel
theorem d_Mo_foldWide_216 : decode b_Mo_foldWide 216 = .ok (.lload 20, 2) := by decide +kernel
theorem d_Mo_foldWide_218 : decode b_Mo_foldWide 218 = .ok (.lmul, 1) := by decide +kernel
theorem d_Mo_foldWide_219 : decode b_Mo_foldWide 219 = .ok (.ldc2_w 52, 3) := by decide +kernel
theorem d_Mo_foldWide_222 : decode b_Mo_foldWide 222 = .ok (.land, 1) := by decide +kernel
theorem d_Mo_foldWide_223 : decode b_Mo_foldWide 223 = .ok (.lstore 30, 2) := by decide +kernel
theorem d_Mo_foldWide_225 : decode b_Mo_foldWide 225 = .ok (.lload 22, 2) := by decide +kernel
theorem d_Mo_foldWide_227 : decode b_Mo_foldWide 227 = .ok (.lload 30, 2) := by decide +kernel
theorem d_Mo_foldWide_229 : decode b_Mo_foldWide 229 = .ok (.lload_n 2, 1) := by decide +kernel
theorem d_Mo_foldWide_230 : decode b_Mo_foldWide 230 = .ok (.lmul, 1) := by decide +kernel
theorem d_Mo_foldWide_231 : decode b_Mo_foldWide 231 = .ok (.ladd, 1) := by decide +kernel
theorem d_Mo_foldWide_232 : decode b_Mo_foldWide 232 = .ok (.bipush 29, 2) := by decide +kernel
theorem d_Mo_foldWide_234 : decode b_Mo_foldWide 234 = .ok (.lshr, 1) := by decide +kernel
theorem d_Mo_foldWide_235 : decode b_Mo_foldWide 235 = .ok (.aload_n 0, 1) := by decide +kernel
theorem d_Mo_foldWide_236 : decode b_Mo_foldWide 236 = .ok (.getfield 29, 3) := by decide +kernel
theorem d_Mo_foldWide_239 : decode b_Mo_foldWide 239 = .ok (.iconst 4, 1) := by decide +kernel
theorem d_Mo_foldWide_240 : decode b_Mo_foldWide 240 = .ok (.laload, 1) := by decide +kernel
theorem d_Mo_foldWide_241 : decode b_Mo_foldWide 241 = .ok (.ladd, 1) := by decide +kernel
theorem d_Mo_foldWide_242 : decode b_Mo_foldWide 242 = .ok (.lload 24, 2) := by decide +kernel
theorem d_Mo_foldWide_244 : decode b_Mo_foldWide 244 = .ok (.lload 10, 2) := by decide +kernel
theorem d_Mo_foldWide_246 : decode b_Mo_foldWide 246 = .ok (.lmul, 1) := by decide +kernel
theorem d_Mo_foldWide_247 : decode b_Mo_foldWide 247 = .ok (.ladd, 1) := by decide +kernel
theorem d_Mo_foldWide_248 : decode b_Mo_foldWide 248 = .ok (.lload 26, 2) := by decide +kernel
theorem d_Mo_foldWide_250 : decode b_Mo_foldWide 250 = .ok (.lload 8, 2) := by decide +kernel
theorem d_Mo_foldWide_252 : decode b_Mo_foldWide 252 = .ok (.lmul, 1) := by decide +kernel
theorem d_Mo_foldWide_253 : decode b_Mo_foldWide 253 = .ok (.ladd, 1) := by decide +kernel
theorem d_Mo_foldWide_254 : decode b_Mo_foldWide 254 = .ok (.lload 28, 2) := by decide +kernel
theorem d_Mo_foldWide_256 : decode b_Mo_foldWide 256 = .ok (.lload 6, 2) := by decide +kernel
theorem d_Mo_foldWide_258 : decode b_Mo_foldWide 258 = .ok (.lmul, 1) := by decide +kernel
theorem d_Mo_foldWide_259 : decode b_Mo_foldWide 259 = .ok (.ladd, 1) := by decide +kernel
theorem d_Mo_foldWide_260 : decode b_Mo_foldWide 260 = .ok (.lload 30, 2) := by decide +kernel
theorem d_Mo_foldWide_262 : decode b_Mo_foldWide 262 = .ok (.lload 4, 2) := by decide +kernel
theorem d_Mo_foldWide_264 : decode b_Mo_foldWide 264 = .ok (.lmul, 1) := by decide +kernel
theorem d_Mo_foldWide_265 : decode b_Mo_foldWide 265 = .ok (.ladd, 1) := by decide +kernel
theorem d_Mo_foldWide_266 : decode b_Mo_foldWide 266 = .ok (.lstore 22, 2) := by decide +kernel
theorem d_Mo_foldWide_268 : decode b_Mo_foldWide 268 = .ok (.lload 22, 2) := by decide +kernel
theorem d_Mo_foldWide_270 : decode b_Mo_foldWide 270 = .ok (.lload 20, 2) := by decide +kernel
theorem d_Mo_foldWide_272 : decode b_Mo_foldWide 272 = .ok (.lmul, 1) := by decide +kernel
theorem d_Mo_foldWide_273 : decode b_Mo_foldWide 273 = .ok (.ldc2_w 52, 3) := by decide +kernel
theorem d_Mo_foldWide_276 : decode b_Mo_foldWide 276 = .ok (.land, 1) := by decide +kernel
theorem d_Mo_foldWide_277 : decode b_Mo_foldWide 277 = .ok (.lstore 32, 2) := by decide +kernel
theorem d_Mo_foldWide_279 : decode b_Mo_foldWide 279 = .ok (.lload 22, 2) := by decide +kernel
theorem d_Mo_foldWide_281 : decode b_Mo_foldWide 281 = .ok (.lload 32, 2) := by decide +kernel
theorem d_Mo_foldWide_283 : decode b_Mo_foldWide 283 = .ok (.lload_n 2, 1) := by decide +kernel
theorem d_Mo_foldWide_284 : decode b_Mo_foldWide 284 = .ok (.lmul, 1) := by decide +kernel
theorem d_Mo_foldWide_285 : decode b_Mo_foldWide 285 = .ok (.ladd, 1) := by decide +kernel
theorem d_Mo_foldWide_286 : decode b_Mo_foldWide 286 = .ok (.bipush 29, 2) := by decide +kernel
theorem d_Mo_foldWide_288 : decode b_Mo_foldWide 288 = .ok (.lshr, 1) := by decide +kernel
theorem d_Mo_foldWide_289 : decode b_Mo_foldWide 289 = .ok (.aload_n 0, 1) := by decide +kernel
theorem d_Mo_foldWide_290 : decode b_Mo_foldWide 290 = .ok (.getfield 29, 3) := by decide +kernel
theorem d_Mo_foldWide_293 : decode b_Mo_foldWide 293 = .ok (.iconst 5, 1) := by decide +kernel
theorem d_Mo_foldWide_294 : decode b_Mo_foldWide 294 = .ok (.laload, 1) := by decide +kernel
theorem d_Mo_foldWide_295 : decode b_Mo_foldWide 295 = .ok (.ladd, 1) := by decide +kernel
theorem d_Mo_foldWide_296 : decode b_Mo_foldWide 296 = .ok (.lload 24, 2) := by decide +kernel
theorem d_Mo_foldWide_298 : decode b_Mo_foldWide 298 = .ok (.lload 12, 2) := by decide +kernel
theorem d_Mo_foldWide_300 : decode b_Mo_foldWide 300 = .ok (.lmul, 1) := by decide +kernel
theorem d_Mo_foldWide_301 : decode b_Mo_foldWide 301 = .ok (.ladd, 1) := by decide +kernel
theorem d_Mo_foldWide_302 : decode b_Mo_foldWide 302 = .ok (.lload 26, 2) := by decide +kernel
theorem d_Mo_foldWide_304 : decode b_Mo_foldWide 304 = .ok (.lload 10, 2) := by decide +kernel
theorem d_Mo_foldWide_306 : decode b_Mo_foldWide 306 = .ok (.lmul, 1) := by decide +kernel
theorem d_Mo_foldWide_307 : decode b_Mo_foldWide 307 = .ok (.ladd, 1) := by decide +kernel
theorem d_Mo_foldWide_308 : decode b_Mo_foldWide 308 = .ok (.lload 28, 2) := by decide +kernel
theorem d_Mo_foldWide_310 : decode b_Mo_foldWide 310 = .ok (.lload 8, 2) := by decide +kernel
theorem d_Mo_foldWide_312 : decode b_Mo_foldWide 312 = .ok (.lmul, 1) := by decide +kernel
theorem d_Mo_foldWide_313 : decode b_Mo_foldWide 313 = .ok (.ladd, 1) := by decide +kernel
theorem d_Mo_foldWide_314 : decode b_Mo_foldWide 314 = .ok (.lload 30, 2) := by decide +kernel
theorem d_Mo_foldWide_316 : decode b_Mo_foldWide 316 = .ok (.lload 6, 2) := by decide +kernel
theorem d_Mo_foldWide_318 : decode b_Mo_foldWide 318 = .ok (.lmul, 1) := by decide +kernel
theorem d_Mo_foldWide_319 : decode b_Mo_foldWide 319 = .ok (.ladd, 1) := by decide +kernel
theorem d_Mo_foldWide_320 : decode b_Mo_foldWide 320 = .ok (.lload 32, 2) := by decide +kernel
theorem d_Mo_foldWide_322 : decode b_Mo_foldWide 322 = .ok (.lload 4, 2) := by decide +kernel
theorem d_Mo_foldWide_324 : decode b_Mo_foldWide 324 = .ok (.lmul, 1) := by decide +kernel
theorem d_Mo_foldWide_325 : decode b_Mo_foldWide 325 = .ok (.ladd, 1) := by decide +kernel
theorem d_Mo_foldWide_326 : decode b_Mo_foldWide 326 = .ok (.lstore 22, 2) := by decide +kernel
theorem d_Mo_foldWide_328 : decode b_Mo_foldWide 328 = .ok (.lload 22, 2) := by decide +kernel
theorem d_Mo_foldWide_330 : decode b_Mo_foldWide 330 = .ok (.lload 20, 2) := by decide +kernel
theorem d_Mo_foldWide_332 : decode b_Mo_foldWide 332 = .ok (.lmul, 1) := by decide +kernel
theorem d_Mo_foldWide_333 : decode b_Mo_foldWide 333 = .ok (.ldc2_w 52, 3) := by decide +kernel
theorem d_Mo_foldWide_336 : decode b_Mo_foldWide 336 = .ok (.land, 1) := by decide +kernel
theorem d_Mo_foldWide_337 : decode b_Mo_foldWide 337 = .ok (.lstore 34, 2) := by decide +kernel
theorem d_Mo_foldWide_339 : decode b_Mo_foldWide 339 = .ok (.lload 22, 2) := by decide +kernel
theorem d_Mo_foldWide_341 : decode b_Mo_foldWide 341 = .ok (.lload 34, 2) := by decide +kernel
theorem d_Mo_foldWide_343 : decode b_Mo_foldWide 343 = .ok (.lload_n 2, 1) := by decide +kernel
theorem d_Mo_foldWide_344 : decode b_Mo_foldWide 344 = .ok (.lmul, 1) := by decide +kernel
theorem d_Mo_foldWide_345 : decode b_Mo_foldWide 345 = .ok (.ladd, 1) := by decide +kernel
theorem d_Mo_foldWide_346 : decode b_Mo_foldWide 346 = .ok (.bipush 29, 2) := by decide +kernel
theorem d_Mo_foldWide_348 : decode b_Mo_foldWide 348 = .ok (.lshr, 1) := by decide +kernel
theorem d_Mo_foldWide_349 : decode b_Mo_foldWide 349 = .ok (.aload_n 0, 1) := by decide +kernel
theorem d_Mo_foldWide_350 : decode b_Mo_foldWide 350 = .ok (.getfield 29, 3) := by decide +kernel
theorem d_Mo_foldWide_353 : decode b_Mo_foldWide 353 = .ok (.bipush 6, 2) := by decide +kernel
theorem d_Mo_foldWide_355 : decode b_Mo_foldWide 355 = .ok (.laload, 1) := by decide +kernel
theorem d_Mo_foldWide_356 : decode b_Mo_foldWide 356 = .ok (.ladd, 1) := by decide +kernel
theorem d_Mo_foldWide_357 : decode b_Mo_foldWide 357 = .ok (.lload 24, 2) := by decide +kernel
theorem d_Mo_foldWide_359 : decode b_Mo_foldWide 359 = .ok (.lload 14, 2) := by decide +kernel
theorem d_Mo_foldWide_361 : decode b_Mo_foldWide 361 = .ok (.lmul, 1) := by decide +kernel
theorem d_Mo_foldWide_362 : decode b_Mo_foldWide 362 = .ok (.ladd, 1) := by decide +kernel
theorem d_Mo_foldWide_363 : decode b_Mo_foldWide 363 = .ok (.lload 26, 2) := by decide +kernel
theorem d_Mo_foldWide_365 : decode b_Mo_foldWide 365 = .ok (.lload 12, 2) := by decide +kernel
theorem d_Mo_foldWide_367 : decode b_Mo_foldWide 367 = .ok (.lmul, 1) := by decide +kernel
theorem d_Mo_foldWide_368 : decode b_Mo_foldWide 368 = .ok (.ladd, 1) := by decide +kernel
theorem d_Mo_foldWide_369 : decode b_Mo_foldWide 369 = .ok (.lload 28, 2) := by decide +kernel
theorem d_Mo_foldWide_371 : decode b_Mo_foldWide 371 = .ok (.lload 10, 2) := by decide +kernel
theorem d_Mo_foldWide_373 : decode b_Mo_foldWide 373 = .ok (.lmul, 1) := by decide +kernel
theorem d_Mo_foldWide_374 : decode b_Mo_foldWide 374 = .ok (.ladd, 1) := by decide +kernel
theorem d_Mo_foldWide_375 : decode b_Mo_foldWide 375 = .ok (.lload 30, 2) := by decide +kernel
theorem d_Mo_foldWide_377 : decode b_Mo_foldWide 377 = .ok (.lload 8, 2) := by decide +kernel
theorem d_Mo_foldWide_379 : decode b_Mo_foldWide 379 = .ok (.lmul, 1) := by decide +kernel
theorem d_Mo_foldWide_380 : decode b_Mo_foldWide 380 = .ok (.ladd, 1) := by decide +kernel
theorem d_Mo_foldWide_381 : decode b_Mo_foldWide 381 = .ok (.lload 32, 2) := by decide +kernel
theorem d_Mo_foldWide_383 : decode b_Mo_foldWide 383 = .ok (.lload 6, 2) := by decide +kernel
theorem d_Mo_foldWide_385 : decode b_Mo_foldWide 385 = .ok (.lmul, 1) := by decide +kernel
theorem d_Mo_foldWide_386 : decode b_Mo_foldWide 386 = .ok (.ladd, 1) := by decide +kernel
theorem d_Mo_foldWide_387 : decode b_Mo_foldWide 387 = .ok (.lload 34, 2) := by decide +kernel
theorem d_Mo_foldWide_389 : decode b_Mo_foldWide 389 = .ok (.lload 4, 2) := by decide +kernel
theorem d_Mo_foldWide_391 : decode b_Mo_foldWide 391 = .ok (.lmul, 1) := by decide +kernel
theorem d_Mo_foldWide_392 : decode b_Mo_foldWide 392 = .ok (.ladd, 1) := by decide +kernel
theorem d_Mo_foldWide_393 : decode b_Mo_foldWide 393 = .ok (.lstore 22, 2) := by decide +kernel
theorem d_Mo_foldWide_395 : decode b_Mo_foldWide 395 = .ok (.lload 22, 2) := by decide +kernel
theorem d_Mo_foldWide_397 : decode b_Mo_foldWide 397 = .ok (.lload 20, 2) := by decide +kernel
theorem d_Mo_foldWide_399 : decode b_Mo_foldWide 399 = .ok (.lmul, 1) := by decide +kernel
theorem d_Mo_foldWide_400 : decode b_Mo_foldWide 400 = .ok (.ldc2_w 52, 3) := by decide +kernel
theorem d_Mo_foldWide_403 : decode b_Mo_foldWide 403 = .ok (.land, 1) := by decide +kernel
theorem d_Mo_foldWide_404 : decode b_Mo_foldWide 404 = .ok (.lstore 36, 2) := by decide +kernel
theorem d_Mo_foldWide_406 : decode b_Mo_foldWide 406 = .ok (.lload 22, 2) := by decide +kernel
theorem d_Mo_foldWide_408 : decode b_Mo_foldWide 408 = .ok (.lload 36, 2) := by decide +kernel
theorem d_Mo_foldWide_410 : decode b_Mo_foldWide 410 = .ok (.lload_n 2, 1) := by decide +kernel
theorem d_Mo_foldWide_411 : decode b_Mo_foldWide 411 = .ok (.lmul, 1) := by decide +kernel
theorem d_Mo_foldWide_412 : decode b_Mo_foldWide 412 = .ok (.ladd, 1) := by decide +kernel
theorem d_Mo_foldWide_413 : decode b_Mo_foldWide 413 = .ok (.bipush 29, 2) := by decide +kernel
theorem d_Mo_foldWide_415 : decode b_Mo_foldWide 415 = .ok (.lshr, 1) := by decide +kernel
theorem d_Mo_foldWide_416 : decode b_Mo_foldWide 416 = .ok (.aload_n 0, 1) := by decide +kernel
theorem d_Mo_foldWide_417 : decode b_Mo_foldWide 417 = .ok (.getfield 29, 3) := by decide +kernel
theorem d_Mo_foldWide_420 : decode b_Mo_foldWide 420 = .ok (.bipush 7, 2) := by decide +kernel
theorem d_Mo_foldWide_422 : decode b_Mo_foldWide 422 = .ok (.laload, 1) := by decide +kernel
theorem d_Mo_foldWide_423 : decode b_Mo_foldWide 423 = .ok (.ladd, 1) := by decide +kernel
theorem d_Mo_foldWide_424 : decode b_Mo_foldWide 424 = .ok (.lload 24, 2) := by decide +kernel
theorem d_Mo_foldWide_426 : decode b_Mo_foldWide 426 = .ok (.lload 16, 2) := by decide +kernel
theorem d_Mo_foldWide_428 : decode b_Mo_foldWide 428 = .ok (.lmul, 1) := by decide +kernel
theorem d_Mo_foldWide_429 : decode b_Mo_foldWide 429 = .ok (.ladd, 1) := by decide +kernel
theorem d_Mo_foldWide_430 : decode b_Mo_foldWide 430 = .ok (.lload 26, 2) := by decide +kernel
theorem d_Mo_foldWide_432 : decode b_Mo_foldWide 432 = .ok (.lload 14, 2) := by decide +kernel
theorem d_Mo_foldWide_434 : decode b_Mo_foldWide 434 = .ok (.lmul, 1) := by decide +kernel
theorem d_Mo_foldWide_435 : decode b_Mo_foldWide 435 = .ok (.ladd, 1) := by decide +kernel
theorem d_Mo_foldWide_436 : decode b_Mo_foldWide 436 = .ok (.lload 28, 2) := by decide +kernel
theorem d_Mo_foldWide_438 : decode b_Mo_foldWide 438 = .ok (.lload 12, 2) := by decide +kernel
theorem d_Mo_foldWide_440 : decode b_Mo_foldWide 440 = .ok (.lmul, 1) := by decide +kernel
theorem d_Mo_foldWide_441 : decode b_Mo_foldWide 441 = .ok (.ladd, 1) := by decide +kernel
theorem d_Mo_foldWide_442 : decode b_Mo_foldWide 442 = .ok (.lload 30, 2) := by decide +kernel
theorem d_Mo_foldWide_444 : decode b_Mo_foldWide 444 = .ok (.lload 10, 2) := by decide +kernel
theorem d_Mo_foldWide_446 : decode b_Mo_foldWide 446 = .ok (.lmul, 1) := by decide +kernel
theorem d_Mo_foldWide_447 : decode b_Mo_foldWide 447 = .ok (.ladd, 1) := by decide +kernel
theorem d_Mo_foldWide_448 : decode b_Mo_foldWide 448 = .ok (.lload 32, 2) := by decide +kernel
theorem d_Mo_foldWide_450 : decode b_Mo_foldWide 450 = .ok (.lload 8, 2) := by decide +kernel
theorem d_Mo_foldWide_452 : decode b_Mo_foldWide 452 = .ok (.lmul, 1) := by decide +kernel
theorem d_Mo_foldWide_453 : decode b_Mo_foldWide 453 = .ok (.ladd, 1) := by decide +kernel
theorem d_Mo_foldWide_454 : decode b_Mo_foldWide 454 = .ok (.lload 34, 2) := by decide +kernel
theorem d_Mo_foldWide_456 : decode b_Mo_foldWide 456 = .ok (.lload 6, 2) := by decide +kernel
theorem d_Mo_foldWide_458 : decode b_Mo_foldWide 458 = .ok (.lmul, 1) := by decide +kernel
theorem d_Mo_foldWide_459 : decode b_Mo_foldWide 459 = .ok (.ladd, 1) := by decide +kernel
theorem d_Mo_foldWide_460 : decode b_Mo_foldWide 460 = .ok (.lload 36, 2) := by decide +kernel
theorem d_Mo_foldWide_462 : decode b_Mo_foldWide 462 = .ok (.lload 4, 2) := by decide +kernel
theorem d_Mo_foldWide_464 : decode b_Mo_foldWide 464 = .ok (.lmul, 1) := by decide +kernel
theorem d_Mo_foldWide_465 : decode b_Mo_foldWide 465 = .ok (.ladd, 1) := by decide +kernel
theorem d_Mo_foldWide_466 : decode b_Mo_foldWide 466 = .ok (.lstore 22, 2) := by decide +kernel
theorem d_Mo_foldWide_468 : decode b_Mo_foldWide 468 = .ok (.lload 22, 2) := by decide +kernel
theorem d_Mo_foldWide_470 : decode b_Mo_foldWide 470 = .ok (.lload 20, 2) := by decide +kernel
theorem d_Mo_foldWide_472 : decode b_Mo_foldWide 472 = .ok (.lmul, 1) := by decide +kernel
theorem d_Mo_foldWide_473 : decode b_Mo_foldWide 473 = .ok (.ldc2_w 52, 3) := by decide +kernel
theorem d_Mo_foldWide_476 : decode b_Mo_foldWide 476 = .ok (.land, 1) := by decide +kernel
theorem d_Mo_foldWide_477 : decode b_Mo_foldWide 477 = .ok (.lstore 38, 2) := by decide +kernel
theorem d_Mo_foldWide_479 : decode b_Mo_foldWide 479 = .ok (.lload 22, 2) := by decide +kernel
theorem d_Mo_foldWide_481 : decode b_Mo_foldWide 481 = .ok (.lload 38, 2) := by decide +kernel
theorem d_Mo_foldWide_483 : decode b_Mo_foldWide 483 = .ok (.lload_n 2, 1) := by decide +kernel
theorem d_Mo_foldWide_484 : decode b_Mo_foldWide 484 = .ok (.lmul, 1) := by decide +kernel
theorem d_Mo_foldWide_485 : decode b_Mo_foldWide 485 = .ok (.ladd, 1) := by decide +kernel
theorem d_Mo_foldWide_486 : decode b_Mo_foldWide 486 = .ok (.bipush 29, 2) := by decide +kernel
theorem d_Mo_foldWide_488 : decode b_Mo_foldWide 488 = .ok (.lshr, 1) := by decide +kernel
theorem d_Mo_foldWide_489 : decode b_Mo_foldWide 489 = .ok (.aload_n 0, 1) := by decide +kernel
theorem d_Mo_foldWide_490 : decode b_Mo_foldWide 490 = .ok (.getfield 29, 3) := by decide +kernel
theorem d_Mo_foldWide_493 : decode b_Mo_foldWide 493 = .ok (.bipush 8, 2) := by decide +kernel
theorem d_Mo_foldWide_495 : decode b_Mo_foldWide 495 = .ok (.laload, 1) := by decide +kernel
theorem d_Mo_foldWide_496 : decode b_Mo_foldWide 496 = .ok (.ladd, 1) := by decide +kernel
theorem d_Mo_foldWide_497 : decode b_Mo_foldWide 497 = .ok (.lload 24, 2) := by decide +kernel
theorem d_Mo_foldWide_499 : decode b_Mo_foldWide 499 = .ok (.lload 18, 2) := by decide +kernel
theorem d_Mo_foldWide_501 : decode b_Mo_foldWide 501 = .ok (.lmul, 1) := by decide +kernel
theorem d_Mo_foldWide_502 : decode b_Mo_foldWide 502 = .ok (.ladd, 1) := by decide +kernel
theorem d_Mo_foldWide_503 : decode b_Mo_foldWide 503 = .ok (.lload 26, 2) := by decide +kernel
theorem d_Mo_foldWide_505 : decode b_Mo_foldWide 505 = .ok (.lload 16, 2) := by decide +kernel
theorem d_Mo_foldWide_507 : decode b_Mo_foldWide 507 = .ok (.lmul, 1) := by decide +kernel
theorem d_Mo_foldWide_508 : decode b_Mo_foldWide 508 = .ok (.ladd, 1) := by decide +kernel
theorem d_Mo_foldWide_509 : decode b_Mo_foldWide 509 = .ok (.lload 28, 2) := by decide +kernel
theorem d_Mo_foldWide_511 : decode b_Mo_foldWide 511 = .ok (.lload 14, 2) := by decide +kernel
theorem d_Mo_foldWide_513 : decode b_Mo_foldWide 513 = .ok (.lmul, 1) := by decide +kernel
theorem d_Mo_foldWide_514 : decode b_Mo_foldWide 514 = .ok (.ladd, 1) := by decide +kernel
theorem d_Mo_foldWide_515 : decode b_Mo_foldWide 515 = .ok (.lload 30, 2) := by decide +kernel
theorem d_Mo_foldWide_517 : decode b_Mo_foldWide 517 = .ok (.lload 12, 2) := by decide +kernel
theorem d_Mo_foldWide_519 : decode b_Mo_foldWide 519 = .ok (.lmul, 1) := by decide +kernel
theorem d_Mo_foldWide_520 : decode b_Mo_foldWide 520 = .ok (.ladd, 1) := by decide +kernel
theorem d_Mo_foldWide_521 : decode b_Mo_foldWide 521 = .ok (.lload 32, 2) := by decide +kernel
theorem d_Mo_foldWide_523 : decode b_Mo_foldWide 523 = .ok (.lload 10, 2) := by decide +kernel
theorem d_Mo_foldWide_525 : decode b_Mo_foldWide 525 = .ok (.lmul, 1) := by decide +kernel
theorem d_Mo_foldWide_526 : decode b_Mo_foldWide 526 = .ok (.ladd, 1) := by decide +kernel
theorem d_Mo_foldWide_527 : decode b_Mo_foldWide 527 = .ok (.lload 34, 2) := by decide +kernel
theorem d_Mo_foldWide_529 : decode b_Mo_foldWide 529 = .ok (.lload 8, 2) := by decide +kernel
theorem d_Mo_foldWide_531 : decode b_Mo_foldWide 531 = .ok (.lmul, 1) := by decide +kernel
theorem d_Mo_foldWide_532 : decode b_Mo_foldWide 532 = .ok (.ladd, 1) := by decide +kernel
theorem d_Mo_foldWide_533 : decode b_Mo_foldWide 533 = .ok (.lload 36, 2) := by decide +kernel
theorem d_Mo_foldWide_535 : decode b_Mo_foldWide 535 = .ok (.lload 6, 2) := by decide +kernel
theorem d_Mo_foldWide_537 : decode b_Mo_foldWide 537 = .ok (.lmul, 1) := by decide +kernel
theorem d_Mo_foldWide_538 : decode b_Mo_foldWide 538 = .ok (.ladd, 1) := by decide +kernel
theorem d_Mo_foldWide_539 : decode b_Mo_foldWide 539 = .ok (.lload 38, 2) := by decide +kernel
theorem d_Mo_foldWide_541 : decode b_Mo_foldWide 541 = .ok (.lload 4, 2) := by decide +kernel
theorem d_Mo_foldWide_543 : decode b_Mo_foldWide 543 = .ok (.lmul, 1) := by decide +kernel
theorem d_Mo_foldWide_544 : decode b_Mo_foldWide 544 = .ok (.ladd, 1) := by decide +kernel
theorem d_Mo_foldWide_545 : decode b_Mo_foldWide 545 = .ok (.lstore 22, 2) := by decide +kernel
theorem d_Mo_foldWide_547 : decode b_Mo_foldWide 547 = .ok (.lload 22, 2) := by decide +kernel
theorem d_Mo_foldWide_549 : decode b_Mo_foldWide 549 = .ok (.lload 20, 2) := by decide +kernel
theorem d_Mo_foldWide_551 : decode b_Mo_foldWide 551 = .ok (.lmul, 1) := by decide +kernel
theorem d_Mo_foldWide_552 : decode b_Mo_foldWide 552 = .ok (.ldc2_w 52, 3) := by decide +kernel
theorem d_Mo_foldWide_555 : decode b_Mo_foldWide 555 = .ok (.land, 1) := by decide +kernel
theorem d_Mo_foldWide_556 : decode b_Mo_foldWide 556 = .ok (.lstore 40, 2) := by decide +kernel
theorem d_Mo_foldWide_558 : decode b_Mo_foldWide 558 = .ok (.lload 22, 2) := by decide +kernel
theorem d_Mo_foldWide_560 : decode b_Mo_foldWide 560 = .ok (.lload 40, 2) := by decide +kernel
theorem d_Mo_foldWide_562 : decode b_Mo_foldWide 562 = .ok (.lload_n 2, 1) := by decide +kernel
theorem d_Mo_foldWide_563 : decode b_Mo_foldWide 563 = .ok (.lmul, 1) := by decide +kernel
theorem d_Mo_foldWide_564 : decode b_Mo_foldWide 564 = .ok (.ladd, 1) := by decide +kernel
theorem d_Mo_foldWide_565 : decode b_Mo_foldWide 565 = .ok (.bipush 29, 2) := by decide +kernel
theorem d_Mo_foldWide_567 : decode b_Mo_foldWide 567 = .ok (.lshr, 1) := by decide +kernel
theorem d_Mo_foldWide_568 : decode b_Mo_foldWide 568 = .ok (.aload_n 0, 1) := by decide +kernel
theorem d_Mo_foldWide_569 : decode b_Mo_foldWide 569 = .ok (.getfield 29, 3) := by decide +kernel
theorem d_Mo_foldWide_572 : decode b_Mo_foldWide 572 = .ok (.bipush 9, 2) := by decide +kernel
theorem d_Mo_foldWide_574 : decode b_Mo_foldWide 574 = .ok (.laload, 1) := by decide +kernel
theorem d_Mo_foldWide_575 : decode b_Mo_foldWide 575 = .ok (.ladd, 1) := by decide +kernel
theorem d_Mo_foldWide_576 : decode b_Mo_foldWide 576 = .ok (.lload 26, 2) := by decide +kernel
theorem d_Mo_foldWide_578 : decode b_Mo_foldWide 578 = .ok (.lload 18, 2) := by decide +kernel
theorem d_Mo_foldWide_580 : decode b_Mo_foldWide 580 = .ok (.lmul, 1) := by decide +kernel
theorem d_Mo_foldWide_581 : decode b_Mo_foldWide 581 = .ok (.ladd, 1) := by decide +kernel
theorem d_Mo_foldWide_582 : decode b_Mo_foldWide 582 = .ok (.lload 28, 2) := by decide +kernel
theorem d_Mo_foldWide_584 : decode b_Mo_foldWide 584 = .ok (.lload 16, 2) := by decide +kernel
theorem d_Mo_foldWide_586 : decode b_Mo_foldWide 586 = .ok (.lmul, 1) := by decide +kernel
theorem d_Mo_foldWide_587 : decode b_Mo_foldWide 587 = .ok (.ladd, 1) := by decide +kernel
theorem d_Mo_foldWide_588 : decode b_Mo_foldWide 588 = .ok (.lload 30, 2) := by decide +kernel
theorem d_Mo_foldWide_590 : decode b_Mo_foldWide 590 = .ok (.lload 14, 2) := by decide +kernel
theorem d_Mo_foldWide_592 : decode b_Mo_foldWide 592 = .ok (.lmul, 1) := by decide +kernel
theorem d_Mo_foldWide_593 : decode b_Mo_foldWide 593 = .ok (.ladd, 1) := by decide +kernel
theorem d_Mo_foldWide_594 : decode b_Mo_foldWide 594 = .ok (.lload 32, 2) := by decide +kernel
theorem d_Mo_foldWide_596 : decode b_Mo_foldWide 596 = .ok (.lload 12, 2) := by decide +kernel
theorem d_Mo_foldWide_598 : decode b_Mo_foldWide 598 = .ok (.lmul, 1) := by decide +kernel
theorem d_Mo_foldWide_599 : decode b_Mo_foldWide 599 = .ok (.ladd, 1) := by decide +kernel
theorem d_Mo_foldWide_600 : decode b_Mo_foldWide 600 = .ok (.lload 34, 2) := by decide +kernel
theorem d_Mo_foldWide_602 : decode b_Mo_foldWide 602 = .ok (.lload 10, 2) := by decide +kernel
theorem d_Mo_foldWide_604 : decode b_Mo_foldWide 604 = .ok (.lmul, 1) := by decide +kernel
theorem d_Mo_foldWide_605 : decode b_Mo_foldWide 605 = .ok (.ladd, 1) := by decide +kernel
theorem d_Mo_foldWide_606 : decode b_Mo_foldWide 606 = .ok (.lload 36, 2) := by decide +kernel
theorem d_Mo_foldWide_608 : decode b_Mo_foldWide 608 = .ok (.lload 8, 2) := by decide +kernel
theorem d_Mo_foldWide_610 : decode b_Mo_foldWide 610 = .ok (.lmul, 1) := by decide +kernel
theorem d_Mo_foldWide_611 : decode b_Mo_foldWide 611 = .ok (.ladd, 1) := by decide +kernel
theorem d_Mo_foldWide_612 : decode b_Mo_foldWide 612 = .ok (.lload 38, 2) := by decide +kernel
theorem d_Mo_foldWide_614 : decode b_Mo_foldWide 614 = .ok (.lload 6, 2) := by decide +kernel
theorem d_Mo_foldWide_616 : decode b_Mo_foldWide 616 = .ok (.lmul, 1) := by decide +kernel
theorem d_Mo_foldWide_617 : decode b_Mo_foldWide 617 = .ok (.ladd, 1) := by decide +kernel
theorem d_Mo_foldWide_618 : decode b_Mo_foldWide 618 = .ok (.lload 40, 2) := by decide +kernel
theorem d_Mo_foldWide_620 : decode b_Mo_foldWide 620 = .ok (.lload 4, 2) := by decide +kernel
theorem d_Mo_foldWide_622 : decode b_Mo_foldWide 622 = .ok (.lmul, 1) := by decide +kernel
theorem d_Mo_foldWide_623 : decode b_Mo_foldWide 623 = .ok (.ladd, 1) := by decide +kernel
theorem d_Mo_foldWide_624 : decode b_Mo_foldWide 624 = .ok (.lstore 22, 2) := by decide +kernel
theorem d_Mo_foldWide_626 : decode b_Mo_foldWide 626 = .ok (.aload_n 1, 1) := by decide +kernel
theorem d_Mo_foldWide_627 : decode b_Mo_foldWide 627 = .ok (.iconst 0, 1) := by decide +kernel
theorem d_Mo_foldWide_628 : decode b_Mo_foldWide 628 = .ok (.lload 22, 2) := by decide +kernel
theorem d_Mo_foldWide_630 : decode b_Mo_foldWide 630 = .ok (.ldc2_w 52, 3) := by decide +kernel
theorem d_Mo_foldWide_633 : decode b_Mo_foldWide 633 = .ok (.land, 1) := by decide +kernel
theorem d_Mo_foldWide_634 : decode b_Mo_foldWide 634 = .ok (.lastore, 1) := by decide +kernel
theorem d_Mo_foldWide_635 : decode b_Mo_foldWide 635 = .ok (.lload 22, 2) := by decide +kernel
theorem d_Mo_foldWide_637 : decode b_Mo_foldWide 637 = .ok (.bipush 29, 2) := by decide +kernel
theorem d_Mo_foldWide_639 : decode b_Mo_foldWide 639 = .ok (.lshr, 1) := by decide +kernel
theorem d_Mo_foldWide_640 : decode b_Mo_foldWide 640 = .ok (.aload_n 0, 1) := by decide +kernel
theorem d_Mo_foldWide_641 : decode b_Mo_foldWide 641 = .ok (.getfield 29, 3) := by decide +kernel
theorem d_Mo_foldWide_644 : decode b_Mo_foldWide 644 = .ok (.bipush 10, 2) := by decide +kernel
theorem d_Mo_foldWide_646 : decode b_Mo_foldWide 646 = .ok (.laload, 1) := by decide +kernel
theorem d_Mo_foldWide_647 : decode b_Mo_foldWide 647 = .ok (.ladd, 1) := by decide +kernel
theorem d_Mo_foldWide_648 : decode b_Mo_foldWide 648 = .ok (.lload 28, 2) := by decide +kernel
theorem d_Mo_foldWide_650 : decode b_Mo_foldWide 650 = .ok (.lload 18, 2) := by decide +kernel
theorem d_Mo_foldWide_652 : decode b_Mo_foldWide 652 = .ok (.lmul, 1) := by decide +kernel
theorem d_Mo_foldWide_653 : decode b_Mo_foldWide 653 = .ok (.ladd, 1) := by decide +kernel
theorem d_Mo_foldWide_654 : decode b_Mo_foldWide 654 = .ok (.lload 30, 2) := by decide +kernel
theorem d_Mo_foldWide_656 : decode b_Mo_foldWide 656 = .ok (.lload 16, 2) := by decide +kernel
theorem d_Mo_foldWide_658 : decode b_Mo_foldWide 658 = .ok (.lmul, 1) := by decide +kernel
theorem d_Mo_foldWide_659 : decode b_Mo_foldWide 659 = .ok (.ladd, 1) := by decide +kernel
theorem d_Mo_foldWide_660 : decode b_Mo_foldWide 660 = .ok (.lload 32, 2) := by decide +kernel
theorem d_Mo_foldWide_662 : decode b_Mo_foldWide 662 = .ok (.lload 14, 2) := by decide +kernel
theorem d_Mo_foldWide_664 : decode b_Mo_foldWide 664 = .ok (.lmul, 1) := by decide +kernel
theorem d_Mo_foldWide_665 : decode b_Mo_foldWide 665 = .ok (.ladd, 1) := by decide +kernel
theorem d_Mo_foldWide_666 : decode b_Mo_foldWide 666 = .ok (.lload 34, 2) := by decide +kernel
theorem d_Mo_foldWide_668 : decode b_Mo_foldWide 668 = .ok (.lload 12, 2) := by decide +kernel
theorem d_Mo_foldWide_670 : decode b_Mo_foldWide 670 = .ok (.lmul, 1) := by decide +kernel
theorem d_Mo_foldWide_671 : decode b_Mo_foldWide 671 = .ok (.ladd, 1) := by decide +kernel
theorem d_Mo_foldWide_672 : decode b_Mo_foldWide 672 = .ok (.lload 36, 2) := by decide +kernel
theorem d_Mo_foldWide_674 : decode b_Mo_foldWide 674 = .ok (.lload 10, 2) := by decide +kernel
theorem d_Mo_foldWide_676 : decode b_Mo_foldWide 676 = .ok (.lmul, 1) := by decide +kernel
theorem d_Mo_foldWide_677 : decode b_Mo_foldWide 677 = .ok (.ladd, 1) := by decide +kernel
theorem d_Mo_foldWide_678 : decode b_Mo_foldWide 678 = .ok (.lload 38, 2) := by decide +kernel
theorem d_Mo_foldWide_680 : decode b_Mo_foldWide 680 = .ok (.lload 8, 2) := by decide +kernel
theorem d_Mo_foldWide_682 : decode b_Mo_foldWide 682 = .ok (.lmul, 1) := by decide +kernel
theorem d_Mo_foldWide_683 : decode b_Mo_foldWide 683 = .ok (.ladd, 1) := by decide +kernel
theorem d_Mo_foldWide_684 : decode b_Mo_foldWide 684 = .ok (.lload 40, 2) := by decide +kernel
theorem d_Mo_foldWide_686 : decode b_Mo_foldWide 686 = .ok (.lload 6, 2) := by decide +kernel
theorem d_Mo_foldWide_688 : decode b_Mo_foldWide 688 = .ok (.lmul, 1) := by decide +kernel
theorem d_Mo_foldWide_689 : decode b_Mo_foldWide 689 = .ok (.ladd, 1) := by decide +kernel
theorem d_Mo_foldWide_690 : decode b_Mo_foldWide 690 = .ok (.lstore 22, 2) := by decide +kernel
theorem d_Mo_foldWide_692 : decode b_Mo_foldWide 692 = .ok (.aload_n 1, 1) := by decide +kernel
theorem d_Mo_foldWide_693 : decode b_Mo_foldWide 693 = .ok (.iconst 1, 1) := by decide +kernel
theorem d_Mo_foldWide_694 : decode b_Mo_foldWide 694 = .ok (.lload 22, 2) := by decide +kernel
theorem d_Mo_foldWide_696 : decode b_Mo_foldWide 696 = .ok (.ldc2_w 52, 3) := by decide +kernel
theorem d_Mo_foldWide_699 : decode b_Mo_foldWide 699 = .ok (.land, 1) := by decide +kernel
theorem d_Mo_foldWide_700 : decode b_Mo_foldWide 700 = .ok (.lastore, 1) := by decide +kernel
theorem d_Mo_foldWide_701 : decode b_Mo_foldWide 701 = .ok (.lload 22, 2) := by decide +kernel
theorem d_Mo_foldWide_703 : decode b_Mo_foldWide 703 = .ok (.bipush 29, 2) := by decide +kernel
theorem d_Mo_foldWide_705 : decode b_Mo_foldWide 705 = .ok (.lshr, 1) := by decide +kernel
theorem d_Mo_foldWide_706 : decode b_Mo_foldWide 706 = .ok (.aload_n 0, 1) := by decide +kernel
theorem d_Mo_foldWide_707 : decode b_Mo_foldWide 707 = .ok (.getfield 29, 3) := by decide +kernel
theorem d_Mo_foldWide_710 : decode b_Mo_foldWide 710 = .ok (.bipush 11, 2) := by decide +kernel
theorem d_Mo_foldWide_712 : decode b_Mo_foldWide 712 = .ok (.laload, 1) := by decide +kernel
theorem d_Mo_foldWide_713 : decode b_Mo_foldWide 713 = .ok (.ladd, 1) := by decide +kernel
theorem d_Mo_foldWide_714 : decode b_Mo_foldWide 714 = .ok (.lload 30, 2) := by decide +kernel
theorem d_Mo_foldWide_716 : decode b_Mo_foldWide 716 = .ok (.lload 18, 2) := by decide +kernel
theorem d_Mo_foldWide_718 : decode b_Mo_foldWide 718 = .ok (.lmul, 1) := by decide +kernel
theorem d_Mo_foldWide_719 : decode b_Mo_foldWide 719 = .ok (.ladd, 1) := by decide +kernel
theorem d_Mo_foldWide_720 : decode b_Mo_foldWide 720 = .ok (.lload 32, 2) := by decide +kernel
theorem d_Mo_foldWide_722 : decode b_Mo_foldWide 722 = .ok (.lload 16, 2) := by decide +kernel
theorem d_Mo_foldWide_724 : decode b_Mo_foldWide 724 = .ok (.lmul, 1) := by decide +kernel
theorem d_Mo_foldWide_725 : decode b_Mo_foldWide 725 = .ok (.ladd, 1) := by decide +kernel
theorem d_Mo_foldWide_726 : decode b_Mo_foldWide 726 = .ok (.lload 34, 2) := by decide +kernel
theorem d_Mo_foldWide_728 : decode b_Mo_foldWide 728 = .ok (.lload 14, 2) := by decide +kernel
theorem d_Mo_foldWide_730 : decode b_Mo_foldWide 730 = .ok (.lmul, 1) := by decide +kernel
theorem d_Mo_foldWide_731 : decode b_Mo_foldWide 731 = .ok (.ladd, 1) := by decide +kernel
theorem d_Mo_foldWide_732 : decode b_Mo_foldWide 732 = .ok (.lload 36, 2) := by decide +kernel
theorem d_Mo_foldWide_734 : decode b_Mo_foldWide 734 = .ok (.lload 12, 2) := by decide +kernel
theorem d_Mo_foldWide_736 : decode b_Mo_foldWide 736 = .ok (.lmul, 1) := by decide +kernel
theorem d_Mo_foldWide_737 : decode b_Mo_foldWide 737 = .ok (.ladd, 1) := by decide +kernel
theorem d_Mo_foldWide_738 : decode b_Mo_foldWide 738 = .ok (.lload 38, 2) := by decide +kernel
theorem d_Mo_foldWide_740 : decode b_Mo_foldWide 740 = .ok (.lload 10, 2) := by decide +kernel
theorem d_Mo_foldWide_742 : decode b_Mo_foldWide 742 = .ok (.lmul, 1) := by decide +kernel
theorem d_Mo_foldWide_743 : decode b_Mo_foldWide 743 = .ok (.ladd, 1) := by decide +kernel
theorem d_Mo_foldWide_744 : decode b_Mo_foldWide 744 = .ok (.lload 40, 2) := by decide +kernel
theorem d_Mo_foldWide_746 : decode b_Mo_foldWide 746 = .ok (.lload 8, 2) := by decide +kernel
theorem d_Mo_foldWide_748 : decode b_Mo_foldWide 748 = .ok (.lmul, 1) := by decide +kernel
theorem d_Mo_foldWide_749 : decode b_Mo_foldWide 749 = .ok (.ladd, 1) := by decide +kernel
theorem d_Mo_foldWide_750 : decode b_Mo_foldWide 750 = .ok (.lstore 22, 2) := by decide +kernel
theorem d_Mo_foldWide_752 : decode b_Mo_foldWide 752 = .ok (.aload_n 1, 1) := by decide +kernel
theorem d_Mo_foldWide_753 : decode b_Mo_foldWide 753 = .ok (.iconst 2, 1) := by decide +kernel
theorem d_Mo_foldWide_754 : decode b_Mo_foldWide 754 = .ok (.lload 22, 2) := by decide +kernel
theorem d_Mo_foldWide_756 : decode b_Mo_foldWide 756 = .ok (.ldc2_w 52, 3) := by decide +kernel
theorem d_Mo_foldWide_759 : decode b_Mo_foldWide 759 = .ok (.land, 1) := by decide +kernel
theorem d_Mo_foldWide_760 : decode b_Mo_foldWide 760 = .ok (.lastore, 1) := by decide +kernel
theorem d_Mo_foldWide_761 : decode b_Mo_foldWide 761 = .ok (.lload 22, 2) := by decide +kernel
theorem d_Mo_foldWide_763 : decode b_Mo_foldWide 763 = .ok (.bipush 29, 2) := by decide +kernel
theorem d_Mo_foldWide_765 : decode b_Mo_foldWide 765 = .ok (.lshr, 1) := by decide +kernel
theorem d_Mo_foldWide_766 : decode b_Mo_foldWide 766 = .ok (.aload_n 0, 1) := by decide +kernel
theorem d_Mo_foldWide_767 : decode b_Mo_foldWide 767 = .ok (.getfield 29, 3) := by decide +kernel
theorem d_Mo_foldWide_770 : decode b_Mo_foldWide 770 = .ok (.bipush 12, 2) := by decide +kernel
theorem d_Mo_foldWide_772 : decode b_Mo_foldWide 772 = .ok (.laload, 1) := by decide +kernel
theorem d_Mo_foldWide_773 : decode b_Mo_foldWide 773 = .ok (.ladd, 1) := by decide +kernel
theorem d_Mo_foldWide_774 : decode b_Mo_foldWide 774 = .ok (.lload 32, 2) := by decide +kernel
theorem d_Mo_foldWide_776 : decode b_Mo_foldWide 776 = .ok (.lload 18, 2) := by decide +kernel
theorem d_Mo_foldWide_778 : decode b_Mo_foldWide 778 = .ok (.lmul, 1) := by decide +kernel
theorem d_Mo_foldWide_779 : decode b_Mo_foldWide 779 = .ok (.ladd, 1) := by decide +kernel
theorem d_Mo_foldWide_780 : decode b_Mo_foldWide 780 = .ok (.lload 34, 2) := by decide +kernel
theorem d_Mo_foldWide_782 : decode b_Mo_foldWide 782 = .ok (.lload 16, 2) := by decide +kernel
theorem d_Mo_foldWide_784 : decode b_Mo_foldWide 784 = .ok (.lmul, 1) := by decide +kernel
theorem d_Mo_foldWide_785 : decode b_Mo_foldWide 785 = .ok (.ladd, 1) := by decide +kernel
theorem d_Mo_foldWide_786 : decode b_Mo_foldWide 786 = .ok (.lload 36, 2) := by decide +kernel
theorem d_Mo_foldWide_788 : decode b_Mo_foldWide 788 = .ok (.lload 14, 2) := by decide +kernel
theorem d_Mo_foldWide_790 : decode b_Mo_foldWide 790 = .ok (.lmul, 1) := by decide +kernel
theorem d_Mo_foldWide_791 : decode b_Mo_foldWide 791 = .ok (.ladd, 1) := by decide +kernel
theorem d_Mo_foldWide_792 : decode b_Mo_foldWide 792 = .ok (.lload 38, 2) := by decide +kernel
theorem d_Mo_foldWide_794 : decode b_Mo_foldWide 794 = .ok (.lload 12, 2) := by decide +kernel
theorem d_Mo_foldWide_796 : decode b_Mo_foldWide 796 = .ok (.lmul, 1) := by decide +kernel
theorem d_Mo_foldWide_797 : decode b_Mo_foldWide 797 = .ok (.ladd, 1) := by decide +kernel
theorem d_Mo_foldWide_798 : decode b_Mo_foldWide 798 = .ok (.lload 40, 2) := by decide +kernel
theorem d_Mo_foldWide_800 : decode b_Mo_foldWide 800 = .ok (.lload 10, 2) := by decide +kernel
theorem d_Mo_foldWide_802 : decode b_Mo_foldWide 802 = .ok (.lmul, 1) := by decide +kernel
theorem d_Mo_foldWide_803 : decode b_Mo_foldWide 803 = .ok (.ladd, 1) := by decide +kernel
theorem d_Mo_foldWide_804 : decode b_Mo_foldWide 804 = .ok (.lstore 22, 2) := by decide +kernel
theorem d_Mo_foldWide_806 : decode b_Mo_foldWide 806 = .ok (.aload_n 1, 1) := by decide +kernel
theorem d_Mo_foldWide_807 : decode b_Mo_foldWide 807 = .ok (.iconst 3, 1) := by decide +kernel
theorem d_Mo_foldWide_808 : decode b_Mo_foldWide 808 = .ok (.lload 22, 2) := by decide +kernel
theorem d_Mo_foldWide_810 : decode b_Mo_foldWide 810 = .ok (.ldc2_w 52, 3) := by decide +kernel
theorem d_Mo_foldWide_813 : decode b_Mo_foldWide 813 = .ok (.land, 1) := by decide +kernel
theorem d_Mo_foldWide_814 : decode b_Mo_foldWide 814 = .ok (.lastore, 1) := by decide +kernel
theorem d_Mo_foldWide_815 : decode b_Mo_foldWide 815 = .ok (.lload 22, 2) := by decide +kernel
theorem d_Mo_foldWide_817 : decode b_Mo_foldWide 817 = .ok (.bipush 29, 2) := by decide +kernel
theorem d_Mo_foldWide_819 : decode b_Mo_foldWide 819 = .ok (.lshr, 1) := by decide +kernel
theorem d_Mo_foldWide_820 : decode b_Mo_foldWide 820 = .ok (.aload_n 0, 1) := by decide +kernel
theorem d_Mo_foldWide_821 : decode b_Mo_foldWide 821 = .ok (.getfield 29, 3) := by decide +kernel
theorem d_Mo_foldWide_824 : decode b_Mo_foldWide 824 = .ok (.bipush 13, 2) := by decide +kernel
theorem d_Mo_foldWide_826 : decode b_Mo_foldWide 826 = .ok (.laload, 1) := by decide +kernel
theorem d_Mo_foldWide_827 : decode b_Mo_foldWide 827 = .ok (.ladd, 1) := by decide +kernel
theorem d_Mo_foldWide_828 : decode b_Mo_foldWide 828 = .ok (.lload 34, 2) := by decide +kernel
theorem d_Mo_foldWide_830 : decode b_Mo_foldWide 830 = .ok (.lload 18, 2) := by decide +kernel
theorem d_Mo_foldWide_832 : decode b_Mo_foldWide 832 = .ok (.lmul, 1) := by decide +kernel
theorem d_Mo_foldWide_833 : decode b_Mo_foldWide 833 = .ok (.ladd, 1) := by decide +kernel
theorem d_Mo_foldWide_834 : decode b_Mo_foldWide 834 = .ok (.lload 36, 2) := by decide +kernel
theorem d_Mo_foldWide_836 : decode b_Mo_foldWide 836 = .ok (.lload 16, 2) := by decide +kernel
theorem d_Mo_foldWide_838 : decode b_Mo_foldWide 838 = .ok (.lmul, 1) := by decide +kernel
theorem d_Mo_foldWide_839 : decode b_Mo_foldWide 839 = .ok (.ladd, 1) := by decide +kernel
theorem d_Mo_foldWide_840 : decode b_Mo_foldWide 840 = .ok (.lload 38, 2) := by decide +kernel
theorem d_Mo_foldWide_842 : decode b_Mo_foldWide 842 = .ok (.lload 14, 2) := by decide +kernel
theorem d_Mo_foldWide_844 : decode b_Mo_foldWide 844 = .ok (.lmul, 1) := by decide +kernel
theorem d_Mo_foldWide_845 : decode b_Mo_foldWide 845 = .ok (.ladd, 1) := by decide +kernel
theorem d_Mo_foldWide_846 : decode b_Mo_foldWide 846 = .ok (.lload 40, 2) := by decide +kernel
theorem d_Mo_foldWide_848 : decode b_Mo_foldWide 848 = .ok (.lload 12, 2) := by decide +kernel
theorem d_Mo_foldWide_850 : decode b_Mo_foldWide 850 = .ok (.lmul, 1) := by decide +kernel
theorem d_Mo_foldWide_851 : decode b_Mo_foldWide 851 = .ok (.ladd, 1) := by decide +kernel
theorem d_Mo_foldWide_852 : decode b_Mo_foldWide 852 = .ok (.lstore 22, 2) := by decide +kernel
theorem d_Mo_foldWide_854 : decode b_Mo_foldWide 854 = .ok (.aload_n 1, 1) := by decide +kernel
theorem d_Mo_foldWide_855 : decode b_Mo_foldWide 855 = .ok (.iconst 4, 1) := by decide +kernel
theorem d_Mo_foldWide_856 : decode b_Mo_foldWide 856 = .ok (.lload 22, 2) := by decide +kernel
theorem d_Mo_foldWide_858 : decode b_Mo_foldWide 858 = .ok (.ldc2_w 52, 3) := by decide +kernel
theorem d_Mo_foldWide_861 : decode b_Mo_foldWide 861 = .ok (.land, 1) := by decide +kernel
theorem d_Mo_foldWide_862 : decode b_Mo_foldWide 862 = .ok (.lastore, 1) := by decide +kernel
theorem d_Mo_foldWide_863 : decode b_Mo_foldWide 863 = .ok (.lload 22, 2) := by decide +kernel
theorem d_Mo_foldWide_865 : decode b_Mo_foldWide 865 = .ok (.bipush 29, 2) := by decide +kernel
theorem d_Mo_foldWide_867 : decode b_Mo_foldWide 867 = .ok (.lshr, 1) := by decide +kernel
theorem d_Mo_foldWide_868 : decode b_Mo_foldWide 868 = .ok (.aload_n 0, 1) := by decide +kernel
theorem d_Mo_foldWide_869 : decode b_Mo_foldWide 869 = .ok (.getfield 29, 3) := by decide +kernel
theorem d_Mo_foldWide_872 : decode b_Mo_foldWide 872 = .ok (.bipush 14, 2) := by decide +kernel
theorem d_Mo_foldWide_874 : decode b_Mo_foldWide 874 = .ok (.laload, 1) := by decide +kernel
theorem d_Mo_foldWide_875 : decode b_Mo_foldWide 875 = .ok (.ladd, 1) := by decide +kernel
theorem d_Mo_foldWide_876 : decode b_Mo_foldWide 876 = .ok (.lload 36, 2) := by decide +kernel
theorem d_Mo_foldWide_878 : decode b_Mo_foldWide 878 = .ok (.lload 18, 2) := by decide +kernel
theorem d_Mo_foldWide_880 : decode b_Mo_foldWide 880 = .ok (.lmul, 1) := by decide +kernel
theorem d_Mo_foldWide_881 : decode b_Mo_foldWide 881 = .ok (.ladd, 1) := by decide +kernel
theorem d_Mo_foldWide_882 : decode b_Mo_foldWide 882 = .ok (.lload 38, 2) := by decide +kernel
theorem d_Mo_foldWide_884 : decode b_Mo_foldWide 884 = .ok (.lload 16, 2) := by decide +kernel
theorem d_Mo_foldWide_886 : decode b_Mo_foldWide 886 = .ok (.lmul, 1) := by decide +kernel
theorem d_Mo_foldWide_887 : decode b_Mo_foldWide 887 = .ok (.ladd, 1) := by decide +kernel
theorem d_Mo_foldWide_888 : decode b_Mo_foldWide 888 = .ok (.lload 40, 2) := by decide +kernel
theorem d_Mo_foldWide_890 : decode b_Mo_foldWide 890 = .ok (.lload 14, 2) := by decide +kernel
theorem d_Mo_foldWide_892 : decode b_Mo_foldWide 892 = .ok (.lmul, 1) := by decide +kernel
theorem d_Mo_foldWide_893 : decode b_Mo_foldWide 893 = .ok (.ladd, 1) := by decide +kernel
theorem d_Mo_foldWide_894 : decode b_Mo_foldWide 894 = .ok (.lstore 22, 2) := by decide +kernel
theorem d_Mo_foldWide_896 : decode b_Mo_foldWide 896 = .ok (.aload_n 1, 1) := by decide +kernel
theorem d_Mo_foldWide_897 : decode b_Mo_foldWide 897 = .ok (.iconst 5, 1) := by decide +kernel
theorem d_Mo_foldWide_898 : decode b_Mo_foldWide 898 = .ok (.lload 22, 2) := by decide +kernel
theorem d_Mo_foldWide_900 : decode b_Mo_foldWide 900 = .ok (.ldc2_w 52, 3) := by decide +kernel
theorem d_Mo_foldWide_903 : decode b_Mo_foldWide 903 = .ok (.land, 1) := by decide +kernel
theorem d_Mo_foldWide_904 : decode b_Mo_foldWide 904 = .ok (.lastore, 1) := by decide +kernel
theorem d_Mo_foldWide_905 : decode b_Mo_foldWide 905 = .ok (.lload 22, 2) := by decide +kernel
theorem d_Mo_foldWide_907 : decode b_Mo_foldWide 907 = .ok (.bipush 29, 2) := by decide +kernel
theorem d_Mo_foldWide_909 : decode b_Mo_foldWide 909 = .ok (.lshr, 1) := by decide +kernel
theorem d_Mo_foldWide_910 : decode b_Mo_foldWide 910 = .ok (.aload_n 0, 1) := by decide +kernel
theorem d_Mo_foldWide_911 : decode b_Mo_foldWide 911 = .ok (.getfield 29, 3) := by decide +kernel
theorem d_Mo_foldWide_914 : decode b_Mo_foldWide 914 = .ok (.bipush 15, 2) := by decide +kernel
theorem d_Mo_foldWide_916 : decode b_Mo_foldWide 916 = .ok (.laload, 1) := by decide +kernel
theorem d_Mo_foldWide_917 : decode b_Mo_foldWide 917 = .ok (.ladd, 1) := by decide +kernel
theorem d_Mo_foldWide_918 : decode b_Mo_foldWide 918 = .ok (.lload 38, 2) := by decide +kernel
theorem d_Mo_foldWide_920 : decode b_Mo_foldWide 920 = .ok (.lload 18, 2) := by decide +kernel
theorem d_Mo_foldWide_922 : decode b_Mo_foldWide 922 = .ok (.lmul, 1) := by decide +kernel
theorem d_Mo_foldWide_923 : decode b_Mo_foldWide 923 = .ok (.ladd, 1) := by decide +kernel
theorem d_Mo_foldWide_924 : decode b_Mo_foldWide 924 = .ok (.lload 40, 2) := by decide +kernel
theorem d_Mo_foldWide_926 : decode b_Mo_foldWide 926 = .ok (.lload 16, 2) := by decide +kernel
theorem d_Mo_foldWide_928 : decode b_Mo_foldWide 928 = .ok (.lmul, 1) := by decide +kernel
theorem d_Mo_foldWide_929 : decode b_Mo_foldWide 929 = .ok (.ladd, 1) := by decide +kernel
theorem d_Mo_foldWide_930 : decode b_Mo_foldWide 930 = .ok (.lstore 22, 2) := by decide +kernel
theorem d_Mo_foldWide_932 : decode b_Mo_foldWide 932 = .ok (.aload_n 1, 1) := by decide +kernel
theorem d_Mo_foldWide_933 : decode b_Mo_foldWide 933 = .ok (.bipush 6, 2) := by decide +kernel
theorem d_Mo_foldWide_935 : decode b_Mo_foldWide 935 = .ok (.lload 22, 2) := by decide +kernel
theorem d_Mo_foldWide_937 : decode b_Mo_foldWide 937 = .ok (.ldc2_w 52, 3) := by decide +kernel
theorem d_Mo_foldWide_940 : decode b_Mo_foldWide 940 = .ok (.land, 1) := by decide +kernel
theorem d_Mo_foldWide_941 : decode b_Mo_foldWide 941 = .ok (.lastore, 1) := by decide +kernel
theorem d_Mo_foldWide_942 : decode b_Mo_foldWide 942 = .ok (.lload 22, 2) := by decide +kernel
theorem d_Mo_foldWide_944 : decode b_Mo_foldWide 944 = .ok (.bipush 29, 2) := by decide +kernel
theorem d_Mo_foldWide_946 : decode b_Mo_foldWide 946 = .ok (.lshr, 1) := by decide +kernel
theorem d_Mo_foldWide_947 : decode b_Mo_foldWide 947 = .ok (.aload_n 0, 1) := by decide +kernel
theorem d_Mo_foldWide_948 : decode b_Mo_foldWide 948 = .ok (.getfield 29, 3) := by decide +kernel
theorem d_Mo_foldWide_951 : decode b_Mo_foldWide 951 = .ok (.bipush 16, 2) := by decide +kernel
theorem d_Mo_foldWide_953 : decode b_Mo_foldWide 953 = .ok (.laload, 1) := by decide +kernel
theorem d_Mo_foldWide_954 : decode b_Mo_foldWide 954 = .ok (.ladd, 1) := by decide +kernel
theorem d_Mo_foldWide_955 : decode b_Mo_foldWide 955 = .ok (.lload 40, 2) := by decide +kernel
theorem d_Mo_foldWide_957 : decode b_Mo_foldWide 957 = .ok (.lload 18, 2) := by decide +kernel
theorem d_Mo_foldWide_959 : decode b_Mo_foldWide 959 = .ok (.lmul, 1) := by decide +kernel
theorem d_Mo_foldWide_960 : decode b_Mo_foldWide 960 = .ok (.ladd, 1) := by decide +kernel
theorem d_Mo_foldWide_961 : decode b_Mo_foldWide 961 = .ok (.lstore 22, 2) := by decide +kernel
theorem d_Mo_foldWide_963 : decode b_Mo_foldWide 963 = .ok (.aload_n 1, 1) := by decide +kernel
theorem d_Mo_foldWide_964 : decode b_Mo_foldWide 964 = .ok (.bipush 7, 2) := by decide +kernel
theorem d_Mo_foldWide_966 : decode b_Mo_foldWide 966 = .ok (.lload 22, 2) := by decide +kernel
theorem d_Mo_foldWide_968 : decode b_Mo_foldWide 968 = .ok (.ldc2_w 52, 3) := by decide +kernel
theorem d_Mo_foldWide_971 : decode b_Mo_foldWide 971 = .ok (.land, 1) := by decide +kernel
theorem d_Mo_foldWide_972 : decode b_Mo_foldWide 972 = .ok (.lastore, 1) := by decide +kernel
theorem d_Mo_foldWide_973 : decode b_Mo_foldWide 973 = .ok (.aload_n 1, 1) := by decide +kernel
theorem d_Mo_foldWide_974 : decode b_Mo_foldWide 974 = .ok (.bipush 8, 2) := by decide +kernel
theorem d_Mo_foldWide_976 : decode b_Mo_foldWide 976 = .ok (.lload 22, 2) := by decide +kernel
theorem d_Mo_foldWide_978 : decode b_Mo_foldWide 978 = .ok (.bipush 29, 2) := by decide +kernel
theorem d_Mo_foldWide_980 : decode b_Mo_foldWide 980 = .ok (.lshr, 1) := by decide +kernel
theorem d_Mo_foldWide_981 : decode b_Mo_foldWide 981 = .ok (.lastore, 1) := by decide +kernel
theorem d_Mo_foldWide_982 : decode b_Mo_foldWide 982 = .ok (.return_, 1) := by decide +kernel
theorem fl_Mo_54 : FL "PrimeKeys$Modulus" 54 1 5 := ⟨R_Mo, F_Mo, 9, rfl, u_Mo, by decide, rfl, tb_1 (List.mem_of_getElem? (i := 109) (by decide +kernel)) rfl⟩
abbrev rm_Mo_foldWide : Room := { frames := 0, cells := 0, slots := 0, locals := 0 }
def P_Mo_foldWide (h : HP) (p0 : Nat) (p1 : Nat) : Option (HP) :=
  bnd (gR h p0 1 0) fun k1 =>
  bnd (ldJ h k1 0) fun v2 =>
  bnd (gR h p0 1 0) fun k3 =>
  bnd (ldJ h k3 1) fun v4 =>
  bnd (gR h p0 1 0) fun k5 =>
  bnd (ldJ h k5 2) fun v6 =>
  bnd (gR h p0 1 0) fun k7 =>
  bnd (ldJ h k7 3) fun v8 =>
  bnd (gR h p0 1 0) fun k9 =>
  bnd (ldJ h k9 4) fun v10 =>
  bnd (gR h p0 1 0) fun k11 =>
  bnd (ldJ h k11 5) fun v12 =>
  bnd (gR h p0 1 0) fun k13 =>
  bnd (ldJ h k13 6) fun v14 =>
  bnd (gR h p0 1 0) fun k15 =>
  bnd (ldJ h k15 7) fun v16 =>
  bnd (gR h p0 1 0) fun k17 =>
  bnd (ldJ h k17 8) fun v18 =>
  bnd (gJ h p0 1 5) fun v19 =>
  bnd (gR h p0 1 6) fun k20 =>
  bnd (ldJ h k20 0) fun v21 =>
  lt ((v21 * v19) &&& 536870911) fun x22 =>
  bnd (gR h p0 1 6) fun k23 =>
  bnd (ldJ h k23 1) fun v24 =>
  lt ((((v21 + (x22 * v2)) >>> (Int32.toInt64 29 &&& 63)) + v24) + (x22 * v4)) fun x25 =>
  lt ((x25 * v19) &&& 536870911) fun x26 =>
  bnd (gR h p0 1 6) fun k27 =>
  bnd (ldJ h k27 2) fun v28 =>
  lt (((((x25 + (x26 * v2)) >>> (Int32.toInt64 29 &&& 63)) + v28) + (x22 * v6)) + (x26 * v4)) fun x29 =>
  lt ((x29 * v19) &&& 536870911) fun x30 =>
  bnd (gR h p0 1 6) fun k31 =>
  bnd (ldJ h k31 3) fun v32 =>
  lt ((((((x29 + (x30 * v2)) >>> (Int32.toInt64 29 &&& 63)) + v32) + (x22 * v8)) + (x26 * v6)) + (x30 * v4)) fun x33 =>
  lt ((x33 * v19) &&& 536870911) fun x34 =>
  bnd (gR h p0 1 6) fun k35 =>
  bnd (ldJ h k35 4) fun v36 =>
  lt (((((((x33 + (x34 * v2)) >>> (Int32.toInt64 29 &&& 63)) + v36) + (x22 * v10)) + (x26 * v8)) + (x30 * v6)) + (x34 * v4)) fun x37 =>
  lt ((x37 * v19) &&& 536870911) fun x38 =>
  bnd (gR h p0 1 6) fun k39 =>
  bnd (ldJ h k39 5) fun v40 =>
  lt ((((((((x37 + (x38 * v2)) >>> (Int32.toInt64 29 &&& 63)) + v40) + (x22 * v12)) + (x26 * v10)) + (x30 * v8)) + (x34 * v6)) + (x38 * v4)) fun x41 =>
  lt ((x41 * v19) &&& 536870911) fun x42 =>
  bnd (gR h p0 1 6) fun k43 =>
  bnd (ldJ h k43 6) fun v44 =>
  lt (((((((((x41 + (x42 * v2)) >>> (Int32.toInt64 29 &&& 63)) + v44) + (x22 * v14)) + (x26 * v12)) + (x30 * v10)) + (x34 * v8)) + (x38 * v6)) + (x42 * v4)) fun x45 =>
  lt ((x45 * v19) &&& 536870911) fun x46 =>
  bnd (gR h p0 1 6) fun k47 =>
  bnd (ldJ h k47 7) fun v48 =>
  lt ((((((((((x45 + (x46 * v2)) >>> (Int32.toInt64 29 &&& 63)) + v48) + (x22 * v16)) + (x26 * v14)) + (x30 * v12)) + (x34 * v10)) + (x38 * v8)) + (x42 * v6)) + (x46 * v4)) fun x49 =>
  lt ((x49 * v19) &&& 536870911) fun x50 =>
  bnd (gR h p0 1 6) fun k51 =>
  bnd (ldJ h k51 8) fun v52 =>
  lt (((((((((((x49 + (x50 * v2)) >>> (Int32.toInt64 29 &&& 63)) + v52) + (x22 * v18)) + (x26 * v16)) + (x30 * v14)) + (x34 * v12)) + (x38 * v10)) + (x42 * v8)) + (x46 * v6)) + (x50 * v4)) fun x53 =>
  lt ((x53 * v19) &&& 536870911) fun x54 =>
  bnd (gR h p0 1 6) fun k55 =>
  bnd (ldJ h k55 9) fun v56 =>
  lt (((((((((((x53 + (x54 * v2)) >>> (Int32.toInt64 29 &&& 63)) + v56) + (x26 * v18)) + (x30 * v16)) + (x34 * v14)) + (x38 * v12)) + (x42 * v10)) + (x46 * v8)) + (x50 * v6)) + (x54 * v4)) fun x57 =>
  bnd (stJ h p1 0 (x57 &&& 536870911)) fun h58 =>
  bnd (gR h58 p0 1 6) fun k59 =>
  bnd (ldJ h58 k59 10) fun v60 =>
  lt (((((((((x57 >>> (Int32.toInt64 29 &&& 63)) + v60) + (x30 * v18)) + (x34 * v16)) + (x38 * v14)) + (x42 * v12)) + (x46 * v10)) + (x50 * v8)) + (x54 * v6)) fun x61 =>
  bnd (stJ h58 p1 1 (x61 &&& 536870911)) fun h62 =>
  bnd (gR h62 p0 1 6) fun k63 =>
  bnd (ldJ h62 k63 11) fun v64 =>
  lt ((((((((x61 >>> (Int32.toInt64 29 &&& 63)) + v64) + (x34 * v18)) + (x38 * v16)) + (x42 * v14)) + (x46 * v12)) + (x50 * v10)) + (x54 * v8)) fun x65 =>
  bnd (stJ h62 p1 2 (x65 &&& 536870911)) fun h66 =>
  bnd (gR h66 p0 1 6) fun k67 =>
  bnd (ldJ h66 k67 12) fun v68 =>
  lt (((((((x65 >>> (Int32.toInt64 29 &&& 63)) + v68) + (x38 * v18)) + (x42 * v16)) + (x46 * v14)) + (x50 * v12)) + (x54 * v10)) fun x69 =>
  bnd (stJ h66 p1 3 (x69 &&& 536870911)) fun h70 =>
  bnd (gR h70 p0 1 6) fun k71 =>
  bnd (ldJ h70 k71 13) fun v72 =>
  lt ((((((x69 >>> (Int32.toInt64 29 &&& 63)) + v72) + (x42 * v18)) + (x46 * v16)) + (x50 * v14)) + (x54 * v12)) fun x73 =>
  bnd (stJ h70 p1 4 (x73 &&& 536870911)) fun h74 =>
  bnd (gR h74 p0 1 6) fun k75 =>
  bnd (ldJ h74 k75 14) fun v76 =>
  lt (((((x73 >>> (Int32.toInt64 29 &&& 63)) + v76) + (x46 * v18)) + (x50 * v16)) + (x54 * v14)) fun x77 =>
  bnd (stJ h74 p1 5 (x77 &&& 536870911)) fun h78 =>
  bnd (gR h78 p0 1 6) fun k79 =>
  bnd (ldJ h78 k79 15) fun v80 =>
  lt ((((x77 >>> (Int32.toInt64 29 &&& 63)) + v80) + (x50 * v18)) + (x54 * v16)) fun x81 =>
  bnd (stJ h78 p1 6 (x81 &&& 536870911)) fun h82 =>
  bnd (gR h82 p0 1 6) fun k83 =>
  bnd (ldJ h82 k83 16) fun v84 =>
  lt (((x81 >>> (Int32.toInt64 29 &&& 63)) + v84) + (x54 * v18)) fun x85 =>
  bnd (stJ h82 p1 7 (x85 &&& 536870911)) fun h86 =>
  bnd (stJ h86 p1 8 (x85 >>> (Int32.toInt64 29 &&& 63))) fun h87 =>
  some h87
set_option maxHeartbeats 4000000 in
set_option maxRecDepth 100000 in
theorem c_Mo_foldWide {l : Launch} {h h' : HP} {p0 p1 : _} (hr : P_Mo_foldWide h p0 p1 = some h') : MP l y_Mo_foldWide (Cond.code y_Mo_foldWide b_Mo_foldWide 42 none :: TB) rm_Mo_foldWide h [.ref p0, .ref p1] none h' := by
  refine MP_intro (cc := b_Mo_foldWide) (by decide) (Nat.le_of_ble_eq_true rfl) (fun x hl0 C T hin => ?_)
  unfold P_Mo_foldWide at hr
  show GG x 0 0 h 0 [(0, .ref p0), (1, .ref p1)] []
  refine g_aload_n C 0 rfl d_Mo_foldWide_0 rfl ?_
  obtain ⟨k1, ek1, hr⟩ := of_bnd hr
  refine g_getR C fl_Mo_11 ek1 d_Mo_foldWide_1 ?_
  refine g_iconst (v := 0) C d_Mo_foldWide_4 (by decide) ?_
  obtain ⟨v2, ev2, hr⟩ := of_bnd hr
  refine g_laload C ev2 d_Mo_foldWide_5 ?_
  refine g_lstore_n (lv' := [(2, .long v2), (0, .ref p0), (1, .ref p1)]) C d_Mo_foldWide_6 rfl (by decide) rfl ?_
  refine g_aload_n C 1 rfl d_Mo_foldWide_7 rfl ?_
  obtain ⟨k3, ek3, hr⟩ := of_bnd hr
  refine g_getR C fl_Mo_11 ek3 d_Mo_foldWide_8 ?_
  refine g_iconst (v := 1) C d_Mo_foldWide_11 (by decide) ?_
  obtain ⟨v4, ev4, hr⟩ := of_bnd hr
  refine g_laload C ev4 d_Mo_foldWide_12 ?_
  refine g_lstore (lv' := [(4, .long v4), (2, .long v2), (0, .ref p0), (1, .ref p1)]) C d_Mo_foldWide_13 (by decide) rfl ?_
  refine g_aload_n C 2 rfl d_Mo_foldWide_15 rfl ?_
  obtain ⟨k5, ek5, hr⟩ := of_bnd hr
  refine g_getR C fl_Mo_11 ek5 d_Mo_foldWide_16 ?_
  refine g_iconst (v := 2) C d_Mo_foldWide_19 (by decide) ?_
  obtain ⟨v6, ev6, hr⟩ := of_bnd hr
  refine g_laload C ev6 d_Mo_foldWide_20 ?_
  refine g_lstore (lv' := [(6, .long v6), (4, .long v4), (2, .long v2), (0, .ref p0), (1, .ref p1)]) C d_Mo_foldWide_21 (by decide) rfl ?_
  refine g_aload_n C 3 rfl d_Mo_foldWide_23 rfl ?_
  obtain ⟨k7, ek7, hr⟩ := of_bnd hr
  refine g_getR C fl_Mo_11 ek7 d_Mo_foldWide_24 ?_
  refine g_iconst (v := 3) C d_Mo_foldWide_27 (by decide) ?_
  obtain ⟨v8, ev8, hr⟩ := of_bnd hr
  refine g_laload C ev8 d_Mo_foldWide_28 ?_
  refine g_lstore (lv' := [(8, .long v8), (6, .long v6), (4, .long v4), (2, .long v2), (0, .ref p0), (1, .ref p1)]) C d_Mo_foldWide_29 (by decide) rfl ?_
  refine g_aload_n C 4 rfl d_Mo_foldWide_31 rfl ?_
  obtain ⟨k9, ek9, hr⟩ := of_bnd hr
  refine g_getR C fl_Mo_11 ek9 d_Mo_foldWide_32 ?_
  refine g_iconst (v := 4) C d_Mo_foldWide_35 (by decide) ?_
  obtain ⟨v10, ev10, hr⟩ := of_bnd hr
  refine g_laload C ev10 d_Mo_foldWide_36 ?_
  refine g_lstore (lv' := [(10, .long v10), (8, .long v8), (6, .long v6), (4, .long v4), (2, .long v2), (0, .ref p0), (1, .ref p1)]) C d_Mo_foldWide_37 (by decide) rfl ?_
  refine g_aload_n C 5 rfl d_Mo_foldWide_39 rfl ?_
  obtain ⟨k11, ek11, hr⟩ := of_bnd hr
  refine g_getR C fl_Mo_11 ek11 d_Mo_foldWide_40 ?_
  refine g_iconst (v := 5) C d_Mo_foldWide_43 (by decide) ?_
  obtain ⟨v12, ev12, hr⟩ := of_bnd hr
  refine g_laload C ev12 d_Mo_foldWide_44 ?_
  refine g_lstore (lv' := [(12, .long v12), (10, .long v10), (8, .long v8), (6, .long v6), (4, .long v4), (2, .long v2), (0, .ref p0), (1, .ref p1)]) C d_Mo_foldWide_45 (by decide) rfl ?_
  refine g_aload_n C 6 rfl d_Mo_foldWide_47 rfl ?_
  obtain ⟨k13, ek13, hr⟩ := of_bnd hr
  refine g_getR C fl_Mo_11 ek13 d_Mo_foldWide_48 ?_
  refine g_bipush (v := 6) C d_Mo_foldWide_51 (by decide) ?_
  obtain ⟨v14, ev14, hr⟩ := of_bnd hr
  refine g_laload C ev14 d_Mo_foldWide_53 ?_
  refine g_lstore (lv' := [(14, .long v14), (12, .long v12), (10, .long v10), (8, .long v8), (6, .long v6), (4, .long v4), (2, .long v2), (0, .ref p0), (1, .ref p1)]) C d_Mo_foldWide_54 (by decide) rfl ?_
  refine g_aload_n C 7 rfl d_Mo_foldWide_56 rfl ?_
  obtain ⟨k15, ek15, hr⟩ := of_bnd hr
  refine g_getR C fl_Mo_11 ek15 d_Mo_foldWide_57 ?_
  refine g_bipush (v := 7) C d_Mo_foldWide_60 (by decide) ?_
  obtain ⟨v16, ev16, hr⟩ := of_bnd hr
  refine g_laload C ev16 d_Mo_foldWide_62 ?_
  refine g_lstore (lv' := [(16, .long v16), (14, .long v14), (12, .long v12), (10, .long v10), (8, .long v8), (6, .long v6), (4, .long v4), (2, .long v2), (0, .ref p0), (1, .ref p1)]) C d_Mo_foldWide_63 (by decide) rfl ?_
  refine g_aload_n C 8 rfl d_Mo_foldWide_65 rfl ?_
  obtain ⟨k17, ek17, hr⟩ := of_bnd hr
  refine g_getR C fl_Mo_11 ek17 d_Mo_foldWide_66 ?_
  refine g_bipush (v := 8) C d_Mo_foldWide_69 (by decide) ?_
  obtain ⟨v18, ev18, hr⟩ := of_bnd hr
  refine g_laload C ev18 d_Mo_foldWide_71 ?_
  refine g_lstore (lv' := [(18, .long v18), (16, .long v16), (14, .long v14), (12, .long v12), (10, .long v10), (8, .long v8), (6, .long v6), (4, .long v4), (2, .long v2), (0, .ref p0), (1, .ref p1)]) C d_Mo_foldWide_72 (by decide) rfl ?_
  refine g_aload_n C 9 rfl d_Mo_foldWide_74 rfl ?_
  obtain ⟨v19, ev19, hr⟩ := of_bnd hr
  refine g_getJ C fl_Mo_54 ev19 d_Mo_foldWide_75 ?_
  refine g_lstore (lv' := [(20, .long v19), (18, .long v18), (16, .long v16), (14, .long v14), (12, .long v12), (10, .long v10), (8, .long v8), (6, .long v6), (4, .long v4), (2, .long v2), (0, .ref p0), (1, .ref p1)]) C d_Mo_foldWide_78 (by decide) rfl ?_
  refine g_aload_n C 10 rfl d_Mo_foldWide_80 rfl ?_
  obtain ⟨k20, ek20, hr⟩ := of_bnd hr
  refine g_getR C fl_Mo_29 ek20 d_Mo_foldWide_81 ?_
  refine g_iconst (v := 0) C d_Mo_foldWide_84 (by decide) ?_
  obtain ⟨v21, ev21, hr⟩ := of_bnd hr
  refine g_laload C ev21 d_Mo_foldWide_85 ?_
  refine g_lstore (lv' := [(22, .long v21), (20, .long v19), (18, .long v18), (16, .long v16), (14, .long v14), (12, .long v12), (10, .long v10), (8, .long v8), (6, .long v6), (4, .long v4), (2, .long v2), (0, .ref p0), (1, .ref p1)]) C d_Mo_foldWide_86 (by decide) rfl ?_
  refine g_lload C 0 rfl d_Mo_foldWide_88 ?_
  refine g_lload C 1 rfl d_Mo_foldWide_90 ?_
  refine g_lmul C d_Mo_foldWide_92 ?_
  refine g_ldc2 (v := 536870911) C d_Mo_foldWide_93 kw_2 ?_
  refine g_land C d_Mo_foldWide_96 ?_
  refine g_topl (fun x22 ex22 => ?_)
  have hr := of_lt ex22 hr
  refine g_lstore (lv' := [(24, .long x22), (22, .long v21), (20, .long v19), (18, .long v18), (16, .long v16), (14, .long v14), (12, .long v12), (10, .long v10), (8, .long v8), (6, .long v6), (4, .long v4), (2, .long v2), (0, .ref p0), (1, .ref p1)]) C d_Mo_foldWide_97 (by decide) rfl ?_
  refine g_lload C 1 rfl d_Mo_foldWide_99 ?_
  refine g_lload C 0 rfl d_Mo_foldWide_101 ?_
  refine g_lload_n C 11 rfl d_Mo_foldWide_103 rfl ?_
  refine g_lmul C d_Mo_foldWide_104 ?_
  refine g_ladd C d_Mo_foldWide_105 ?_
  refine g_bipush (v := 29) C d_Mo_foldWide_106 (by decide) ?_
  refine g_lshr C d_Mo_foldWide_108 ?_
  refine g_aload_n C 12 rfl d_Mo_foldWide_109 rfl ?_
  obtain ⟨k23, ek23, hr⟩ := of_bnd hr
  refine g_getR C fl_Mo_29 ek23 d_Mo_foldWide_110 ?_
  refine g_iconst (v := 1) C d_Mo_foldWide_113 (by decide) ?_
  obtain ⟨v24, ev24, hr⟩ := of_bnd hr
  refine g_laload C ev24 d_Mo_foldWide_114 ?_
  refine g_ladd C d_Mo_foldWide_115 ?_
  refine g_lload C 0 rfl d_Mo_foldWide_116 ?_
  refine g_lload C 10 rfl d_Mo_foldWide_118 ?_
  refine g_lmul C d_Mo_foldWide_120 ?_
  refine g_ladd C d_Mo_foldWide_121 ?_
  refine g_topl (fun x25 ex25 => ?_)
  have hr := of_lt ex25 hr
  refine g_lstore (lv' := [(22, .long x25), (24, .long x22), (20, .long v19), (18, .long v18), (16, .long v16), (14, .long v14), (12, .long v12), (10, .long v10), (8, .long v8), (6, .long v6), (4, .long v4), (2, .long v2), (0, .ref p0), (1, .ref p1)]) C d_Mo_foldWide_122 (by decide) rfl ?_
  refine g_lload C 0 rfl d_Mo_foldWide_124 ?_
  refine g_lload C 2 rfl d_Mo_foldWide_126 ?_
  refine g_lmul C d_Mo_foldWide_128 ?_
  refine g_ldc2 (v := 536870911) C d_Mo_foldWide_129 kw_2 ?_
  refine g_land C d_Mo_foldWide_132 ?_
  refine g_topl (fun x26 ex26 => ?_)
  have hr := of_lt ex26 hr
  refine g_lstore (lv' := [(26, .long x26), (22, .long x25), (24, .long x22), (20, .long v19), (18, .long v18), (16, .long v16), (14, .long v14), (12, .long v12), (10, .long v10), (8, .long v8), (6, .long v6), (4, .long v4), (2, .long v2), (0, .ref p0), (1, .ref p1)]) C d_Mo_foldWide_133 (by decide) rfl ?_
  refine g_lload C 1 rfl d_Mo_foldWide_135 ?_
  refine g_lload C 0 rfl d_Mo_foldWide_137 ?_
  refine g_lload_n C 12 rfl d_Mo_foldWide_139 rfl ?_
  refine g_lmul C d_Mo_foldWide_140 ?_
  refine g_ladd C d_Mo_foldWide_141 ?_
  refine g_bipush (v := 29) C d_Mo_foldWide_142 (by decide) ?_
  refine g_lshr C d_Mo_foldWide_144 ?_
  refine g_aload_n C 13 rfl d_Mo_foldWide_145 rfl ?_
  obtain ⟨k27, ek27, hr⟩ := of_bnd hr
  refine g_getR C fl_Mo_29 ek27 d_Mo_foldWide_146 ?_
  refine g_iconst (v := 2) C d_Mo_foldWide_149 (by decide) ?_
  obtain ⟨v28, ev28, hr⟩ := of_bnd hr
  refine g_laload C ev28 d_Mo_foldWide_150 ?_
  refine g_ladd C d_Mo_foldWide_151 ?_
  refine g_lload C 2 rfl d_Mo_foldWide_152 ?_
  refine g_lload C 10 rfl d_Mo_foldWide_154 ?_
  refine g_lmul C d_Mo_foldWide_156 ?_
  refine g_ladd C d_Mo_foldWide_157 ?_
  refine g_lload C 0 rfl d_Mo_foldWide_158 ?_
  refine g_lload C 11 rfl d_Mo_foldWide_160 ?_
  refine g_lmul C d_Mo_foldWide_162 ?_
  refine g_ladd C d_Mo_foldWide_163 ?_
  refine g_topl (fun x29 ex29 => ?_)
  have hr := of_lt ex29 hr
  refine g_lstore (lv' := [(22, .long x29), (26, .long x26), (24, .long x22), (20, .long v19), (18, .long v18), (16, .long v16), (14, .long v14), (12, .long v12), (10, .long v10), (8, .long v8), (6, .long v6), (4, .long v4), (2, .long v2), (0, .ref p0), (1, .ref p1)]) C d_Mo_foldWide_164 (by decide) rfl ?_
  refine g_lload C 0 rfl d_Mo_foldWide_166 ?_
  refine g_lload C 3 rfl d_Mo_foldWide_168 ?_
  refine g_lmul C d_Mo_foldWide_170 ?_
  refine g_ldc2 (v := 536870911) C d_Mo_foldWide_171 kw_2 ?_
  refine g_land C d_Mo_foldWide_174 ?_
  refine g_topl (fun x30 ex30 => ?_)
  have hr := of_lt ex30 hr
  refine g_lstore (lv' := [(28, .long x30), (22, .long x29), (26, .long x26), (24, .long x22), (20, .long v19), (18, .long v18), (16, .long v16), (14, .long v14), (12, .long v12), (10, .long v10), (8, .long v8), (6, .long v6), (4, .long v4), (2, .long v2), (0, .ref p0), (1, .ref p1)]) C d_Mo_foldWide_175 (by decide) rfl ?_
  refine g_lload C 1 rfl d_Mo_foldWide_177 ?_
  refine g_lload C 0 rfl d_Mo_foldWide_179 ?_
  refine g_lload_n C 13 rfl d_Mo_foldWide_181 rfl ?_
  refine g_lmul C d_Mo_foldWide_182 ?_
  refine g_ladd C d_Mo_foldWide_183 ?_
  refine g_bipush (v := 29) C d_Mo_foldWide_184 (by decide) ?_
  refine g_lshr C d_Mo_foldWide_186 ?_
  refine g_aload_n C 14 rfl d_Mo_foldWide_187 rfl ?_
  obtain ⟨k31, ek31, hr⟩ := of_bnd hr
  refine g_getR C fl_Mo_29 ek31 d_Mo_foldWide_188 ?_
  refine g_iconst (v := 3) C d_Mo_foldWide_191 (by decide) ?_
  obtain ⟨v32, ev32, hr⟩ := of_bnd hr
  refine g_laload C ev32 d_Mo_foldWide_192 ?_
  refine g_ladd C d_Mo_foldWide_193 ?_
  refine g_lload C 3 rfl d_Mo_foldWide_194 ?_
  refine g_lload C 10 rfl d_Mo_foldWide_196 ?_
  refine g_lmul C d_Mo_foldWide_198 ?_
  refine g_ladd C d_Mo_foldWide_199 ?_
  refine g_lload C 2 rfl d_Mo_foldWide_200 ?_
  refine g_lload C 11 rfl d_Mo_foldWide_202 ?_
  refine g_lmul C d_Mo_foldWide_204 ?_
  refine g_ladd C d_Mo_foldWide_205 ?_
  refine g_lload C 0 rfl d_Mo_foldWide_206 ?_
  refine g_lload C 12 rfl d_Mo_foldWide_208 ?_
  refine g_lmul C d_Mo_foldWide_210 ?_
  refine g_ladd C d_Mo_foldWide_211 ?_
  refine g_topl (fun x33 ex33 => ?_)
  have hr := of_lt ex33 hr
  refine g_lstore (lv' := [(22, .long x33), (28, .long x30), (26, .long x26), (24, .long x22), (20, .long v19), (18, .long v18), (16, .long v16), (14, .long v14), (12, .long v12), (10, .long v10), (8, .long v8), (6, .long v6), (4, .long v4), (2, .long v2), (0, .ref p0), (1, .ref p1)]) C d_Mo_foldWide_212 (by decide) rfl ?_
  refine g_lload C 0 rfl d_Mo_foldWide_214 ?_
  refine g_lload C 4 rfl d_Mo_foldWide_216 ?_
  refine g_lmul C d_Mo_foldWide_218 ?_
  refine g_ldc2 (v := 536870911) C d_Mo_foldWide_219 kw_2 ?_
  refine g_land C d_Mo_foldWide_222 ?_
  refine g_topl (fun x34 ex34 => ?_)
  have hr := of_lt ex34 hr
  refine g_lstore (lv' := [(30, .long x34), (22, .long x33), (28, .long x30), (26, .long x26), (24, .long x22), (20, .long v19), (18, .long v18), (16, .long v16), (14, .long v14), (12, .long v12), (10, .long v10), (8, .long v8), (6, .long v6), (4, .long v4), (2, .long v2), (0, .ref p0), (1, .ref p1)]) C d_Mo_foldWide_223 (by decide) rfl ?_
  refine g_lload C 1 rfl d_Mo_foldWide_225 ?_
  refine g_lload C 0 rfl d_Mo_foldWide_227 ?_
  refine g_lload_n C 14 rfl d_Mo_foldWide_229 rfl ?_
  refine g_lmul C d_Mo_foldWide_230 ?_
  refine g_ladd C d_Mo_foldWide_231 ?_
  refine g_bipush (v := 29) C d_Mo_foldWide_232 (by decide) ?_
  refine g_lshr C d_Mo_foldWide_234 ?_
  refine g_aload_n C 15 rfl d_Mo_foldWide_235 rfl ?_
  obtain ⟨k35, ek35, hr⟩ := of_bnd hr
  refine g_getR C fl_Mo_29 ek35 d_Mo_foldWide_236 ?_
  refine g_iconst (v := 4) C d_Mo_foldWide_239 (by decide) ?_
  obtain ⟨v36, ev36, hr⟩ := of_bnd hr
  refine g_laload C ev36 d_Mo_foldWide_240 ?_
  refine g_ladd C d_Mo_foldWide_241 ?_
  refine g_lload C 4 rfl d_Mo_foldWide_242 ?_
  refine g_lload C 10 rfl d_Mo_foldWide_244 ?_
  refine g_lmul C d_Mo_foldWide_246 ?_
  refine g_ladd C d_Mo_foldWide_247 ?_
  refine g_lload C 3 rfl d_Mo_foldWide_248 ?_
  refine g_lload C 11 rfl d_Mo_foldWide_250 ?_
  refine g_lmul C d_Mo_foldWide_252 ?_
  refine g_ladd C d_Mo_foldWide_253 ?_
  refine g_lload C 2 rfl d_Mo_foldWide_254 ?_
  refine g_lload C 12 rfl d_Mo_foldWide_256 ?_
  refine g_lmul C d_Mo_foldWide_258 ?_
  refine g_ladd C d_Mo_foldWide_259 ?_
  refine g_lload C 0 rfl d_Mo_foldWide_260 ?_
  refine g_lload C 13 rfl d_Mo_foldWide_262 ?_
  refine g_lmul C d_Mo_foldWide_264 ?_
  refine g_ladd C d_Mo_foldWide_265 ?_
  refine g_topl (fun x37 ex37 => ?_)
  have hr := of_lt ex37 hr
  refine g_lstore (lv' := [(22, .long x37), (30, .long x34), (28, .long x30), (26, .long x26), (24, .long x22), (20, .long v19), (18, .long v18), (16, .long v16), (14, .long v14), (12, .long v12), (10, .long v10), (8, .long v8), (6, .long v6), (4, .long v4), (2, .long v2), (0, .ref p0), (1, .ref p1)]) C d_Mo_foldWide_266 (by decide) rfl ?_
  refine g_lload C 0 rfl d_Mo_foldWide_268 ?_
  refine g_lload C 5 rfl d_Mo_foldWide_270 ?_
  refine g_lmul C d_Mo_foldWide_272 ?_
  refine g_ldc2 (v := 536870911) C d_Mo_foldWide_273 kw_2 ?_
  refine g_land C d_Mo_foldWide_276 ?_
  refine g_topl (fun x38 ex38 => ?_)
  have hr := of_lt ex38 hr
  refine g_lstore (lv' := [(32, .long x38), (22, .long x37), (30, .long x34), (28, .long x30), (26, .long x26), (24, .long x22), (20, .long v19), (18, .long v18), (16, .long v16), (14, .long v14), (12, .long v12), (10, .long v10), (8, .long v8), (6, .long v6), (4, .long v4), (2, .long v2), (0, .ref p0), (1, .ref p1)]) C d_Mo_foldWide_277 (by decide) rfl ?_
  refine g_lload C 1 rfl d_Mo_foldWide_279 ?_
  refine g_lload C 0 rfl d_Mo_foldWide_281 ?_
  refine g_lload_n C 15 rfl d_Mo_foldWide_283 rfl ?_
  refine g_lmul C d_Mo_foldWide_284 ?_
  refine g_ladd C d_Mo_foldWide_285 ?_
  refine g_bipush (v := 29) C d_Mo_foldWide_286 (by decide) ?_
  refine g_lshr C d_Mo_foldWide_288 ?_
  refine g_aload_n C 16 rfl d_Mo_foldWide_289 rfl ?_
  obtain ⟨k39, ek39, hr⟩ := of_bnd hr
  refine g_getR C fl_Mo_29 ek39 d_Mo_foldWide_290 ?_
  refine g_iconst (v := 5) C d_Mo_foldWide_293 (by decide) ?_
  obtain ⟨v40, ev40, hr⟩ := of_bnd hr
  refine g_laload C ev40 d_Mo_foldWide_294 ?_
  refine g_ladd C d_Mo_foldWide_295 ?_
  refine g_lload C 5 rfl d_Mo_foldWide_296 ?_
  refine g_lload C 10 rfl d_Mo_foldWide_298 ?_
  refine g_lmul C d_Mo_foldWide_300 ?_
  refine g_ladd C d_Mo_foldWide_301 ?_
  refine g_lload C 4 rfl d_Mo_foldWide_302 ?_
  refine g_lload C 11 rfl d_Mo_foldWide_304 ?_
  refine g_lmul C d_Mo_foldWide_306 ?_
  refine g_ladd C d_Mo_foldWide_307 ?_
  refine g_lload C 3 rfl d_Mo_foldWide_308 ?_
  refine g_lload C 12 rfl d_Mo_foldWide_310 ?_
  refine g_lmul C d_Mo_foldWide_312 ?_
  refine g_ladd C d_Mo_foldWide_313 ?_
  refine g_lload C 2 rfl d_Mo_foldWide_314 ?_
  refine g_lload C 13 rfl d_Mo_foldWide_316 ?_
  refine g_lmul C d_Mo_foldWide_318 ?_
  refine g_ladd C d_Mo_foldWide_319 ?_
  refine g_lload C 0 rfl d_Mo_foldWide_320 ?_
  refine g_lload C 14 rfl d_Mo_foldWide_322 ?_
  refine g_lmul C d_Mo_foldWide_324 ?_
  refine g_ladd C d_Mo_foldWide_325 ?_
  refine g_topl (fun x41 ex41 => ?_)
  have hr := of_lt ex41 hr
  refine g_lstore (lv' := [(22, .long x41), (32, .long x38), (30, .long x34), (28, .long x30), (26, .long x26), (24, .long x22), (20, .long v19), (18, .long v18), (16, .long v16), (14, .long v14), (12, .long v12), (10, .long v10), (8, .long v8), (6, .long v6), (4, .long v4), (2, .long v2), (0, .ref p0), (1, .ref p1)]) C d_Mo_foldWide_326 (by decide) rfl ?_
  refine g_lload C 0 rfl d_Mo_foldWide_328 ?_
  refine g_lload C 6 rfl d_Mo_foldWide_330 ?_
  refine g_lmul C d_Mo_foldWide_332 ?_
  refine g_ldc2 (v := 536870911) C d_Mo_foldWide_333 kw_2 ?_
  refine g_land C d_Mo_foldWide_336 ?_
  refine g_topl (fun x42 ex42 => ?_)
  have hr := of_lt ex42 hr
  refine g_lstore (lv' := [(34, .long x42), (22, .long x41), (32, .long x38), (30, .long x34), (28, .long x30), (26, .long x26), (24, .long x22), (20, .long v19), (18, .long v18), (16, .long v16), (14, .long v14), (12, .long v12), (10, .long v10), (8, .long v8), (6, .long v6), (4, .long v4), (2, .long v2), (0, .ref p0), (1, .ref p1)]) C d_Mo_foldWide_337 (by decide) rfl ?_
  refine g_lload C 1 rfl d_Mo_foldWide_339 ?_
  refine g_lload C 0 rfl d_Mo_foldWide_341 ?_
  refine g_lload_n C 16 rfl d_Mo_foldWide_343 rfl ?_
  refine g_lmul C d_Mo_foldWide_344 ?_
  refine g_ladd C d_Mo_foldWide_345 ?_
  refine g_bipush (v := 29) C d_Mo_foldWide_346 (by decide) ?_
  refine g_lshr C d_Mo_foldWide_348 ?_
  refine g_aload_n C 17 rfl d_Mo_foldWide_349 rfl ?_
  obtain ⟨k43, ek43, hr⟩ := of_bnd hr
  refine g_getR C fl_Mo_29 ek43 d_Mo_foldWide_350 ?_
  refine g_bipush (v := 6) C d_Mo_foldWide_353 (by decide) ?_
  obtain ⟨v44, ev44, hr⟩ := of_bnd hr
  refine g_laload C ev44 d_Mo_foldWide_355 ?_
  refine g_ladd C d_Mo_foldWide_356 ?_
  refine g_lload C 6 rfl d_Mo_foldWide_357 ?_
  refine g_lload C 10 rfl d_Mo_foldWide_359 ?_
  refine g_lmul C d_Mo_foldWide_361 ?_
  refine g_ladd C d_Mo_foldWide_362 ?_
  refine g_lload C 5 rfl d_Mo_foldWide_363 ?_
  refine g_lload C 11 rfl d_Mo_foldWide_365 ?_
  refine g_lmul C d_Mo_foldWide_367 ?_
  refine g_ladd C d_Mo_foldWide_368 ?_
  refine g_lload C 4 rfl d_Mo_foldWide_369 ?_
  refine g_lload C 12 rfl d_Mo_foldWide_371 ?_
  refine g_lmul C d_Mo_foldWide_373 ?_
  refine g_ladd C d_Mo_foldWide_374 ?_
  refine g_lload C 3 rfl d_Mo_foldWide_375 ?_
  refine g_lload C 13 rfl d_Mo_foldWide_377 ?_
  refine g_lmul C d_Mo_foldWide_379 ?_
  refine g_ladd C d_Mo_foldWide_380 ?_
  refine g_lload C 2 rfl d_Mo_foldWide_381 ?_
  refine g_lload C 14 rfl d_Mo_foldWide_383 ?_
  refine g_lmul C d_Mo_foldWide_385 ?_
  refine g_ladd C d_Mo_foldWide_386 ?_
  refine g_lload C 0 rfl d_Mo_foldWide_387 ?_
  refine g_lload C 15 rfl d_Mo_foldWide_389 ?_
  refine g_lmul C d_Mo_foldWide_391 ?_
  refine g_ladd C d_Mo_foldWide_392 ?_
  refine g_topl (fun x45 ex45 => ?_)
  have hr := of_lt ex45 hr
  refine g_lstore (lv' := [(22, .long x45), (34, .long x42), (32, .long x38), (30, .long x34), (28, .long x30), (26, .long x26), (24, .long x22), (20, .long v19), (18, .long v18), (16, .long v16), (14, .long v14), (12, .long v12), (10, .long v10), (8, .long v8), (6, .long v6), (4, .long v4), (2, .long v2), (0, .ref p0), (1, .ref p1)]) C d_Mo_foldWide_393 (by decide) rfl ?_
  refine g_lload C 0 rfl d_Mo_foldWide_395 ?_
  refine g_lload C 7 rfl d_Mo_foldWide_397 ?_
  refine g_lmul C d_Mo_foldWide_399 ?_
  refine g_ldc2 (v := 536870911) C d_Mo_foldWide_400 kw_2 ?_
  refine g_land C d_Mo_foldWide_403 ?_
  refine g_topl (fun x46 ex46 => ?_)
  have hr := of_lt ex46 hr
  refine g_lstore (lv' := [(36, .long x46), (22, .long x45), (34, .long x42), (32, .long x38), (30, .long x34), (28, .long x30), (26, .long x26), (24, .long x22), (20, .long v19), (18, .long v18), (16, .long v16), (14, .long v14), (12, .long v12), (10, .long v10), (8, .long v8), (6, .long v6), (4, .long v4), (2, .long v2), (0, .ref p0), (1, .ref p1)]) C d_Mo_foldWide_404 (by decide) rfl ?_
  refine g_lload C 1 rfl d_Mo_foldWide_406 ?_
  refine g_lload C 0 rfl d_Mo_foldWide_408 ?_
  refine g_lload_n C 17 rfl d_Mo_foldWide_410 rfl ?_
  refine g_lmul C d_Mo_foldWide_411 ?_
  refine g_ladd C d_Mo_foldWide_412 ?_
  refine g_bipush (v := 29) C d_Mo_foldWide_413 (by decide) ?_
  refine g_lshr C d_Mo_foldWide_415 ?_
  refine g_aload_n C 18 rfl d_Mo_foldWide_416 rfl ?_
  obtain ⟨k47, ek47, hr⟩ := of_bnd hr
  refine g_getR C fl_Mo_29 ek47 d_Mo_foldWide_417 ?_
  refine g_bipush (v := 7) C d_Mo_foldWide_420 (by decide) ?_
  obtain ⟨v48, ev48, hr⟩ := of_bnd hr
  refine g_laload C ev48 d_Mo_foldWide_422 ?_
  refine g_ladd C d_Mo_foldWide_423 ?_
  refine g_lload C 7 rfl d_Mo_foldWide_424 ?_
  refine g_lload C 10 rfl d_Mo_foldWide_426 ?_
  refine g_lmul C d_Mo_foldWide_428 ?_
  refine g_ladd C d_Mo_foldWide_429 ?_
  refine g_lload C 6 rfl d_Mo_foldWide_430 ?_
  refine g_lload C 11 rfl d_Mo_foldWide_432 ?_
  refine g_lmul C d_Mo_foldWide_434 ?_
  refine g_ladd C d_Mo_foldWide_435 ?_
  refine g_lload C 5 rfl d_Mo_foldWide_436 ?_
  refine g_lload C 12 rfl d_Mo_foldWide_438 ?_
  refine g_lmul C d_Mo_foldWide_440 ?_
  refine g_ladd C d_Mo_foldWide_441 ?_
  refine g_lload C 4 rfl d_Mo_foldWide_442 ?_
  refine g_lload C 13 rfl d_Mo_foldWide_444 ?_
  refine g_lmul C d_Mo_foldWide_446 ?_
  refine g_ladd C d_Mo_foldWide_447 ?_
  refine g_lload C 3 rfl d_Mo_foldWide_448 ?_
  refine g_lload C 14 rfl d_Mo_foldWide_450 ?_
  refine g_lmul C d_Mo_foldWide_452 ?_
  refine g_ladd C d_Mo_foldWide_453 ?_
  refine g_lload C 2 rfl d_Mo_foldWide_454 ?_
  refine g_lload C 15 rfl d_Mo_foldWide_456 ?_
  refine g_lmul C d_Mo_foldWide_458 ?_
  refine g_ladd C d_Mo_foldWide_459 ?_
  refine g_lload C 0 rfl d_Mo_foldWide_460 ?_
  refine g_lload C 16 rfl d_Mo_foldWide_462 ?_
  refine g_lmul C d_Mo_foldWide_464 ?_
  refine g_ladd C d_Mo_foldWide_465 ?_
  refine g_topl (fun x49 ex49 => ?_)
  have hr := of_lt ex49 hr
  refine g_lstore (lv' := [(22, .long x49), (36, .long x46), (34, .long x42), (32, .long x38), (30, .long x34), (28, .long x30), (26, .long x26), (24, .long x22), (20, .long v19), (18, .long v18), (16, .long v16), (14, .long v14), (12, .long v12), (10, .long v10), (8, .long v8), (6, .long v6), (4, .long v4), (2, .long v2), (0, .ref p0), (1, .ref p1)]) C d_Mo_foldWide_466 (by decide) rfl ?_
  refine g_lload C 0 rfl d_Mo_foldWide_468 ?_
  refine g_lload C 8 rfl d_Mo_foldWide_470 ?_
  refine g_lmul C d_Mo_foldWide_472 ?_
  refine g_ldc2 (v := 536870911) C d_Mo_foldWide_473 kw_2 ?_
  refine g_land C d_Mo_foldWide_476 ?_
  refine g_topl (fun x50 ex50 => ?_)
  have hr := of_lt ex50 hr
  refine g_lstore (lv' := [(38, .long x50), (22, .long x49), (36, .long x46), (34, .long x42), (32, .long x38), (30, .long x34), (28, .long x30), (26, .long x26), (24, .long x22), (20, .long v19), (18, .long v18), (16, .long v16), (14, .long v14), (12, .long v12), (10, .long v10), (8, .long v8), (6, .long v6), (4, .long v4), (2, .long v2), (0, .ref p0), (1, .ref p1)]) C d_Mo_foldWide_477 (by decide) rfl ?_
  refine g_lload C 1 rfl d_Mo_foldWide_479 ?_
  refine g_lload C 0 rfl d_Mo_foldWide_481 ?_
  refine g_lload_n C 18 rfl d_Mo_foldWide_483 rfl ?_
  refine g_lmul C d_Mo_foldWide_484 ?_
  refine g_ladd C d_Mo_foldWide_485 ?_
  refine g_bipush (v := 29) C d_Mo_foldWide_486 (by decide) ?_
  refine g_lshr C d_Mo_foldWide_488 ?_
  refine g_aload_n C 19 rfl d_Mo_foldWide_489 rfl ?_
  obtain ⟨k51, ek51, hr⟩ := of_bnd hr
  refine g_getR C fl_Mo_29 ek51 d_Mo_foldWide_490 ?_
  refine g_bipush (v := 8) C d_Mo_foldWide_493 (by decide) ?_
  obtain ⟨v52, ev52, hr⟩ := of_bnd hr
  refine g_laload C ev52 d_Mo_foldWide_495 ?_
  refine g_ladd C d_Mo_foldWide_496 ?_
  refine g_lload C 8 rfl d_Mo_foldWide_497 ?_
  refine g_lload C 10 rfl d_Mo_foldWide_499 ?_
  refine g_lmul C d_Mo_foldWide_501 ?_
  refine g_ladd C d_Mo_foldWide_502 ?_
  refine g_lload C 7 rfl d_Mo_foldWide_503 ?_
  refine g_lload C 11 rfl d_Mo_foldWide_505 ?_
  refine g_lmul C d_Mo_foldWide_507 ?_
  refine g_ladd C d_Mo_foldWide_508 ?_
  refine g_lload C 6 rfl d_Mo_foldWide_509 ?_
  refine g_lload C 12 rfl d_Mo_foldWide_511 ?_
  refine g_lmul C d_Mo_foldWide_513 ?_
  refine g_ladd C d_Mo_foldWide_514 ?_
  refine g_lload C 5 rfl d_Mo_foldWide_515 ?_
  refine g_lload C 13 rfl d_Mo_foldWide_517 ?_
  refine g_lmul C d_Mo_foldWide_519 ?_
  refine g_ladd C d_Mo_foldWide_520 ?_
  refine g_lload C 4 rfl d_Mo_foldWide_521 ?_
  refine g_lload C 14 rfl d_Mo_foldWide_523 ?_
  refine g_lmul C d_Mo_foldWide_525 ?_
  refine g_ladd C d_Mo_foldWide_526 ?_
  refine g_lload C 3 rfl d_Mo_foldWide_527 ?_
  refine g_lload C 15 rfl d_Mo_foldWide_529 ?_
  refine g_lmul C d_Mo_foldWide_531 ?_
  refine g_ladd C d_Mo_foldWide_532 ?_
  refine g_lload C 2 rfl d_Mo_foldWide_533 ?_
  refine g_lload C 16 rfl d_Mo_foldWide_535 ?_
  refine g_lmul C d_Mo_foldWide_537 ?_
  refine g_ladd C d_Mo_foldWide_538 ?_
  refine g_lload C 0 rfl d_Mo_foldWide_539 ?_
  refine g_lload C 17 rfl d_Mo_foldWide_541 ?_
  refine g_lmul C d_Mo_foldWide_543 ?_
  refine g_ladd C d_Mo_foldWide_544 ?_
  refine g_topl (fun x53 ex53 => ?_)
  have hr := of_lt ex53 hr
  refine g_lstore (lv' := [(22, .long x53), (38, .long x50), (36, .long x46), (34, .long x42), (32, .long x38), (30, .long x34), (28, .long x30), (26, .long x26), (24, .long x22), (20, .long v19), (18, .long v18), (16, .long v16), (14, .long v14), (12, .long v12), (10, .long v10), (8, .long v8), (6, .long v6), (4, .long v4), (2, .long v2), (0, .ref p0), (1, .ref p1)]) C d_Mo_foldWide_545 (by decide) rfl ?_
  refine g_lload C 0 rfl d_Mo_foldWide_547 ?_
  refine g_lload C 9 rfl d_Mo_foldWide_549 ?_
  refine g_lmul C d_Mo_foldWide_551 ?_
  refine g_ldc2 (v := 536870911) C d_Mo_foldWide_552 kw_2 ?_
  refine g_land C d_Mo_foldWide_555 ?_
  refine g_topl (fun x54 ex54 => ?_)
  have hr := of_lt ex54 hr
  refine g_lstore (lv' := [(40, .long x54), (22, .long x53), (38, .long x50), (36, .long x46), (34, .long x42), (32, .long x38), (30, .long x34), (28, .long x30), (26, .long x26), (24, .long x22), (20, .long v19), (18, .long v18), (16, .long v16), (14, .long v14), (12, .long v12), (10, .long v10), (8, .long v8), (6, .long v6), (4, .long v4), (2, .long v2), (0, .ref p0), (1, .ref p1)]) C d_Mo_foldWide_556 (by decide) rfl ?_
  refine g_lload C 1 rfl d_Mo_foldWide_558 ?_
  refine g_lload C 0 rfl d_Mo_foldWide_560 ?_
  refine g_lload_n C 19 rfl d_Mo_foldWide_562 rfl ?_
  refine g_lmul C d_Mo_foldWide_563 ?_
  refine g_ladd C d_Mo_foldWide_564 ?_
  refine g_bipush (v := 29) C d_Mo_foldWide_565 (by decide) ?_
  refine g_lshr C d_Mo_foldWide_567 ?_
  refine g_aload_n C 20 rfl d_Mo_foldWide_568 rfl ?_
  obtain ⟨k55, ek55, hr⟩ := of_bnd hr
  refine g_getR C fl_Mo_29 ek55 d_Mo_foldWide_569 ?_
  refine g_bipush (v := 9) C d_Mo_foldWide_572 (by decide) ?_
  obtain ⟨v56, ev56, hr⟩ := of_bnd hr
  refine g_laload C ev56 d_Mo_foldWide_574 ?_
  refine g_ladd C d_Mo_foldWide_575 ?_
  refine g_lload C 8 rfl d_Mo_foldWide_576 ?_
  refine g_lload C 11 rfl d_Mo_foldWide_578 ?_
  refine g_lmul C d_Mo_foldWide_580 ?_
  refine g_ladd C d_Mo_foldWide_581 ?_
  refine g_lload C 7 rfl d_Mo_foldWide_582 ?_
  refine g_lload C 12 rfl d_Mo_foldWide_584 ?_
  refine g_lmul C d_Mo_foldWide_586 ?_
  refine g_ladd C d_Mo_foldWide_587 ?_
  refine g_lload C 6 rfl d_Mo_foldWide_588 ?_
  refine g_lload C 13 rfl d_Mo_foldWide_590 ?_
  refine g_lmul C d_Mo_foldWide_592 ?_
  refine g_ladd C d_Mo_foldWide_593 ?_
  refine g_lload C 5 rfl d_Mo_foldWide_594 ?_
  refine g_lload C 14 rfl d_Mo_foldWide_596 ?_
  refine g_lmul C d_Mo_foldWide_598 ?_
  refine g_ladd C d_Mo_foldWide_599 ?_
  refine g_lload C 4 rfl d_Mo_foldWide_600 ?_
  refine g_lload C 15 rfl d_Mo_foldWide_602 ?_
  refine g_lmul C d_Mo_foldWide_604 ?_
  refine g_ladd C d_Mo_foldWide_605 ?_
  refine g_lload C 3 rfl d_Mo_foldWide_606 ?_
  refine g_lload C 16 rfl d_Mo_foldWide_608 ?_
  refine g_lmul C d_Mo_foldWide_610 ?_
  refine g_ladd C d_Mo_foldWide_611 ?_
  refine g_lload C 2 rfl d_Mo_foldWide_612 ?_
  refine g_lload C 17 rfl d_Mo_foldWide_614 ?_
  refine g_lmul C d_Mo_foldWide_616 ?_
  refine g_ladd C d_Mo_foldWide_617 ?_
  refine g_lload C 0 rfl d_Mo_foldWide_618 ?_
  refine g_lload C 18 rfl d_Mo_foldWide_620 ?_
  refine g_lmul C d_Mo_foldWide_622 ?_
  refine g_ladd C d_Mo_foldWide_623 ?_
  refine g_topl (fun x57 ex57 => ?_)
  have hr := of_lt ex57 hr
  refine g_lstore (lv' := [(22, .long x57), (40, .long x54), (38, .long x50), (36, .long x46), (34, .long x42), (32, .long x38), (30, .long x34), (28, .long x30), (26, .long x26), (24, .long x22), (20, .long v19), (18, .long v18), (16, .long v16), (14, .long v14), (12, .long v12), (10, .long v10), (8, .long v8), (6, .long v6), (4, .long v4), (2, .long v2), (0, .ref p0), (1, .ref p1)]) C d_Mo_foldWide_624 (by decide) rfl ?_
  refine g_aload_n C 21 rfl d_Mo_foldWide_626 rfl ?_
  refine g_iconst (v := 0) C d_Mo_foldWide_627 (by decide) ?_
  refine g_lload C 0 rfl d_Mo_foldWide_628 ?_
  refine g_ldc2 (v := 536870911) C d_Mo_foldWide_630 kw_2 ?_
  refine g_land C d_Mo_foldWide_633 ?_
  obtain ⟨h58, eh58, hr⟩ := of_bnd hr
  refine g_lastore C eh58 d_Mo_foldWide_634 ?_
  refine g_lload C 0 rfl d_Mo_foldWide_635 ?_
  refine g_bipush (v := 29) C d_Mo_foldWide_637 (by decide) ?_
  refine g_lshr C d_Mo_foldWide_639 ?_
  refine g_aload_n C 20 rfl d_Mo_foldWide_640 rfl ?_
  obtain ⟨k59, ek59, hr⟩ := of_bnd hr
  refine g_getR C fl_Mo_29 ek59 d_Mo_foldWide_641 ?_
  refine g_bipush (v := 10) C d_Mo_foldWide_644 (by decide) ?_
  obtain ⟨v60, ev60, hr⟩ := of_bnd hr
  refine g_laload C ev60 d_Mo_foldWide_646 ?_
  refine g_ladd C d_Mo_foldWide_647 ?_
  refine g_lload C 7 rfl d_Mo_foldWide_648 ?_
  refine g_lload C 11 rfl d_Mo_foldWide_650 ?_
  refine g_lmul C d_Mo_foldWide_652 ?_
  refine g_ladd C d_Mo_foldWide_653 ?_
  refine g_lload C 6 rfl d_Mo_foldWide_654 ?_
  refine g_lload C 12 rfl d_Mo_foldWide_656 ?_
  refine g_lmul C d_Mo_foldWide_658 ?_
  refine g_ladd C d_Mo_foldWide_659 ?_
  refine g_lload C 5 rfl d_Mo_foldWide_660 ?_
  refine g_lload C 13 rfl d_Mo_foldWide_662 ?_
  refine g_lmul C d_Mo_foldWide_664 ?_
  refine g_ladd C d_Mo_foldWide_665 ?_
  refine g_lload C 4 rfl d_Mo_foldWide_666 ?_
  refine g_lload C 14 rfl d_Mo_foldWide_668 ?_
  refine g_lmul C d_Mo_foldWide_670 ?_
  refine g_ladd C d_Mo_foldWide_671 ?_
  refine g_lload C 3 rfl d_Mo_foldWide_672 ?_
  refine g_lload C 15 rfl d_Mo_foldWide_674 ?_
  refine g_lmul C d_Mo_foldWide_676 ?_
  refine g_ladd C d_Mo_foldWide_677 ?_
  refine g_lload C 2 rfl d_Mo_foldWide_678 ?_
  refine g_lload C 16 rfl d_Mo_foldWide_680 ?_
  refine g_lmul C d_Mo_foldWide_682 ?_
  refine g_ladd C d_Mo_foldWide_683 ?_
  refine g_lload C 1 rfl d_Mo_foldWide_684 ?_
  refine g_lload C 17 rfl d_Mo_foldWide_686 ?_
  refine g_lmul C d_Mo_foldWide_688 ?_
  refine g_ladd C d_Mo_foldWide_689 ?_
  refine g_topl (fun x61 ex61 => ?_)
  have hr := of_lt ex61 hr
  refine g_lstore (lv' := [(22, .long x61), (40, .long x54), (38, .long x50), (36, .long x46), (34, .long x42), (32, .long x38), (30, .long x34), (28, .long x30), (26, .long x26), (24, .long x22), (20, .long v19), (18, .long v18), (16, .long v16), (14, .long v14), (12, .long v12), (10, .long v10), (8, .long v8), (6, .long v6), (4, .long v4), (2, .long v2), (0, .ref p0), (1, .ref p1)]) C d_Mo_foldWide_690 (by decide) rfl ?_
  refine g_aload_n C 21 rfl d_Mo_foldWide_692 rfl ?_
  refine g_iconst (v := 1) C d_Mo_foldWide_693 (by decide) ?_
  refine g_lload C 0 rfl d_Mo_foldWide_694 ?_
  refine g_ldc2 (v := 536870911) C d_Mo_foldWide_696 kw_2 ?_
  refine g_land C d_Mo_foldWide_699 ?_
  obtain ⟨h62, eh62, hr⟩ := of_bnd hr
  refine g_lastore C eh62 d_Mo_foldWide_700 ?_
  refine g_lload C 0 rfl d_Mo_foldWide_701 ?_
  refine g_bipush (v := 29) C d_Mo_foldWide_703 (by decide) ?_
  refine g_lshr C d_Mo_foldWide_705 ?_
  refine g_aload_n C 20 rfl d_Mo_foldWide_706 rfl ?_
  obtain ⟨k63, ek63, hr⟩ := of_bnd hr
  refine g_getR C fl_Mo_29 ek63 d_Mo_foldWide_707 ?_
  refine g_bipush (v := 11) C d_Mo_foldWide_710 (by decide) ?_
  obtain ⟨v64, ev64, hr⟩ := of_bnd hr
  refine g_laload C ev64 d_Mo_foldWide_712 ?_
  refine g_ladd C d_Mo_foldWide_713 ?_
  refine g_lload C 6 rfl d_Mo_foldWide_714 ?_
  refine g_lload C 11 rfl d_Mo_foldWide_716 ?_
  refine g_lmul C d_Mo_foldWide_718 ?_
  refine g_ladd C d_Mo_foldWide_719 ?_
  refine g_lload C 5 rfl d_Mo_foldWide_720 ?_
  refine g_lload C 12 rfl d_Mo_foldWide_722 ?_
  refine g_lmul C d_Mo_foldWide_724 ?_
  refine g_ladd C d_Mo_foldWide_725 ?_
  refine g_lload C 4 rfl d_Mo_foldWide_726 ?_
  refine g_lload C 13 rfl d_Mo_foldWide_728 ?_
  refine g_lmul C d_Mo_foldWide_730 ?_
  refine g_ladd C d_Mo_foldWide_731 ?_
  refine g_lload C 3 rfl d_Mo_foldWide_732 ?_
  refine g_lload C 14 rfl d_Mo_foldWide_734 ?_
  refine g_lmul C d_Mo_foldWide_736 ?_
  refine g_ladd C d_Mo_foldWide_737 ?_
  refine g_lload C 2 rfl d_Mo_foldWide_738 ?_
  refine g_lload C 15 rfl d_Mo_foldWide_740 ?_
  refine g_lmul C d_Mo_foldWide_742 ?_
  refine g_ladd C d_Mo_foldWide_743 ?_
  refine g_lload C 1 rfl d_Mo_foldWide_744 ?_
  refine g_lload C 16 rfl d_Mo_foldWide_746 ?_
  refine g_lmul C d_Mo_foldWide_748 ?_
  refine g_ladd C d_Mo_foldWide_749 ?_
  refine g_topl (fun x65 ex65 => ?_)
  have hr := of_lt ex65 hr
  refine g_lstore (lv' := [(22, .long x65), (40, .long x54), (38, .long x50), (36, .long x46), (34, .long x42), (32, .long x38), (30, .long x34), (28, .long x30), (26, .long x26), (24, .long x22), (20, .long v19), (18, .long v18), (16, .long v16), (14, .long v14), (12, .long v12), (10, .long v10), (8, .long v8), (6, .long v6), (4, .long v4), (2, .long v2), (0, .ref p0), (1, .ref p1)]) C d_Mo_foldWide_750 (by decide) rfl ?_
  refine g_aload_n C 21 rfl d_Mo_foldWide_752 rfl ?_
  refine g_iconst (v := 2) C d_Mo_foldWide_753 (by decide) ?_
  refine g_lload C 0 rfl d_Mo_foldWide_754 ?_
  refine g_ldc2 (v := 536870911) C d_Mo_foldWide_756 kw_2 ?_
  refine g_land C d_Mo_foldWide_759 ?_
  obtain ⟨h66, eh66, hr⟩ := of_bnd hr
  refine g_lastore C eh66 d_Mo_foldWide_760 ?_
  refine g_lload C 0 rfl d_Mo_foldWide_761 ?_
  refine g_bipush (v := 29) C d_Mo_foldWide_763 (by decide) ?_
  refine g_lshr C d_Mo_foldWide_765 ?_
  refine g_aload_n C 20 rfl d_Mo_foldWide_766 rfl ?_
  obtain ⟨k67, ek67, hr⟩ := of_bnd hr
  refine g_getR C fl_Mo_29 ek67 d_Mo_foldWide_767 ?_
  refine g_bipush (v := 12) C d_Mo_foldWide_770 (by decide) ?_
  obtain ⟨v68, ev68, hr⟩ := of_bnd hr
  refine g_laload C ev68 d_Mo_foldWide_772 ?_
  refine g_ladd C d_Mo_foldWide_773 ?_
  refine g_lload C 5 rfl d_Mo_foldWide_774 ?_
  refine g_lload C 11 rfl d_Mo_foldWide_776 ?_
  refine g_lmul C d_Mo_foldWide_778 ?_
  refine g_ladd C d_Mo_foldWide_779 ?_
  refine g_lload C 4 rfl d_Mo_foldWide_780 ?_
  refine g_lload C 12 rfl d_Mo_foldWide_782 ?_
  refine g_lmul C d_Mo_foldWide_784 ?_
  refine g_ladd C d_Mo_foldWide_785 ?_
  refine g_lload C 3 rfl d_Mo_foldWide_786 ?_
  refine g_lload C 13 rfl d_Mo_foldWide_788 ?_
  refine g_lmul C d_Mo_foldWide_790 ?_
  refine g_ladd C d_Mo_foldWide_791 ?_
  refine g_lload C 2 rfl d_Mo_foldWide_792 ?_
  refine g_lload C 14 rfl d_Mo_foldWide_794 ?_
  refine g_lmul C d_Mo_foldWide_796 ?_
  refine g_ladd C d_Mo_foldWide_797 ?_
  refine g_lload C 1 rfl d_Mo_foldWide_798 ?_
  refine g_lload C 15 rfl d_Mo_foldWide_800 ?_
  refine g_lmul C d_Mo_foldWide_802 ?_
  refine g_ladd C d_Mo_foldWide_803 ?_
  refine g_topl (fun x69 ex69 => ?_)
  have hr := of_lt ex69 hr
  refine g_lstore (lv' := [(22, .long x69), (40, .long x54), (38, .long x50), (36, .long x46), (34, .long x42), (32, .long x38), (30, .long x34), (28, .long x30), (26, .long x26), (24, .long x22), (20, .long v19), (18, .long v18), (16, .long v16), (14, .long v14), (12, .long v12), (10, .long v10), (8, .long v8), (6, .long v6), (4, .long v4), (2, .long v2), (0, .ref p0), (1, .ref p1)]) C d_Mo_foldWide_804 (by decide) rfl ?_
  refine g_aload_n C 21 rfl d_Mo_foldWide_806 rfl ?_
  refine g_iconst (v := 3) C d_Mo_foldWide_807 (by decide) ?_
  refine g_lload C 0 rfl d_Mo_foldWide_808 ?_
  refine g_ldc2 (v := 536870911) C d_Mo_foldWide_810 kw_2 ?_
  refine g_land C d_Mo_foldWide_813 ?_
  obtain ⟨h70, eh70, hr⟩ := of_bnd hr
  refine g_lastore C eh70 d_Mo_foldWide_814 ?_
  refine g_lload C 0 rfl d_Mo_foldWide_815 ?_
  refine g_bipush (v := 29) C d_Mo_foldWide_817 (by decide) ?_
  refine g_lshr C d_Mo_foldWide_819 ?_
  refine g_aload_n C 20 rfl d_Mo_foldWide_820 rfl ?_
  obtain ⟨k71, ek71, hr⟩ := of_bnd hr
  refine g_getR C fl_Mo_29 ek71 d_Mo_foldWide_821 ?_
  refine g_bipush (v := 13) C d_Mo_foldWide_824 (by decide) ?_
  obtain ⟨v72, ev72, hr⟩ := of_bnd hr
  refine g_laload C ev72 d_Mo_foldWide_826 ?_
  refine g_ladd C d_Mo_foldWide_827 ?_
  refine g_lload C 4 rfl d_Mo_foldWide_828 ?_
  refine g_lload C 11 rfl d_Mo_foldWide_830 ?_
  refine g_lmul C d_Mo_foldWide_832 ?_
  refine g_ladd C d_Mo_foldWide_833 ?_
  refine g_lload C 3 rfl d_Mo_foldWide_834 ?_
  refine g_lload C 12 rfl d_Mo_foldWide_836 ?_
  refine g_lmul C d_Mo_foldWide_838 ?_
  refine g_ladd C d_Mo_foldWide_839 ?_
  refine g_lload C 2 rfl d_Mo_foldWide_840 ?_
  refine g_lload C 13 rfl d_Mo_foldWide_842 ?_
  refine g_lmul C d_Mo_foldWide_844 ?_
  refine g_ladd C d_Mo_foldWide_845 ?_
  refine g_lload C 1 rfl d_Mo_foldWide_846 ?_
  refine g_lload C 14 rfl d_Mo_foldWide_848 ?_
  refine g_lmul C d_Mo_foldWide_850 ?_
  refine g_ladd C d_Mo_foldWide_851 ?_
  refine g_topl (fun x73 ex73 => ?_)
  have hr := of_lt ex73 hr
  refine g_lstore (lv' := [(22, .long x73), (40, .long x54), (38, .long x50), (36, .long x46), (34, .long x42), (32, .long x38), (30, .long x34), (28, .long x30), (26, .long x26), (24, .long x22), (20, .long v19), (18, .long v18), (16, .long v16), (14, .long v14), (12, .long v12), (10, .long v10), (8, .long v8), (6, .long v6), (4, .long v4), (2, .long v2), (0, .ref p0), (1, .ref p1)]) C d_Mo_foldWide_852 (by decide) rfl ?_
  refine g_aload_n C 21 rfl d_Mo_foldWide_854 rfl ?_
  refine g_iconst (v := 4) C d_Mo_foldWide_855 (by decide) ?_
  refine g_lload C 0 rfl d_Mo_foldWide_856 ?_
  refine g_ldc2 (v := 536870911) C d_Mo_foldWide_858 kw_2 ?_
  refine g_land C d_Mo_foldWide_861 ?_
  obtain ⟨h74, eh74, hr⟩ := of_bnd hr
  refine g_lastore C eh74 d_Mo_foldWide_862 ?_
  refine g_lload C 0 rfl d_Mo_foldWide_863 ?_
  refine g_bipush (v := 29) C d_Mo_foldWide_865 (by decide) ?_
  refine g_lshr C d_Mo_foldWide_867 ?_
  refine g_aload_n C 20 rfl d_Mo_foldWide_868 rfl ?_
  obtain ⟨k75, ek75, hr⟩ := of_bnd hr
  refine g_getR C fl_Mo_29 ek75 d_Mo_foldWide_869 ?_
  refine g_bipush (v := 14) C d_Mo_foldWide_872 (by decide) ?_
  obtain ⟨v76, ev76, hr⟩ := of_bnd hr
  refine g_laload C ev76 d_Mo_foldWide_874 ?_
  refine g_ladd C d_Mo_foldWide_875 ?_
  refine g_lload C 3 rfl d_Mo_foldWide_876 ?_
  refine g_lload C 11 rfl d_Mo_foldWide_878 ?_
  refine g_lmul C d_Mo_foldWide_880 ?_
  refine g_ladd C d_Mo_foldWide_881 ?_
  refine g_lload C 2 rfl d_Mo_foldWide_882 ?_
  refine g_lload C 12 rfl d_Mo_foldWide_884 ?_
  refine g_lmul C d_Mo_foldWide_886 ?_
  refine g_ladd C d_Mo_foldWide_887 ?_
  refine g_lload C 1 rfl d_Mo_foldWide_888 ?_
  refine g_lload C 13 rfl d_Mo_foldWide_890 ?_
  refine g_lmul C d_Mo_foldWide_892 ?_
  refine g_ladd C d_Mo_foldWide_893 ?_
  refine g_topl (fun x77 ex77 => ?_)
  have hr := of_lt ex77 hr
  refine g_lstore (lv' := [(22, .long x77), (40, .long x54), (38, .long x50), (36, .long x46), (34, .long x42), (32, .long x38), (30, .long x34), (28, .long x30), (26, .long x26), (24, .long x22), (20, .long v19), (18, .long v18), (16, .long v16), (14, .long v14), (12, .long v12), (10, .long v10), (8, .long v8), (6, .long v6), (4, .long v4), (2, .long v2), (0, .ref p0), (1, .ref p1)]) C d_Mo_foldWide_894 (by decide) rfl ?_
  refine g_aload_n C 21 rfl d_Mo_foldWide_896 rfl ?_
  refine g_iconst (v := 5) C d_Mo_foldWide_897 (by decide) ?_
  refine g_lload C 0 rfl d_Mo_foldWide_898 ?_
  refine g_ldc2 (v := 536870911) C d_Mo_foldWide_900 kw_2 ?_
  refine g_land C d_Mo_foldWide_903 ?_
  obtain ⟨h78, eh78, hr⟩ := of_bnd hr
  refine g_lastore C eh78 d_Mo_foldWide_904 ?_
  refine g_lload C 0 rfl d_Mo_foldWide_905 ?_
  refine g_bipush (v := 29) C d_Mo_foldWide_907 (by decide) ?_
  refine g_lshr C d_Mo_foldWide_909 ?_
  refine g_aload_n C 20 rfl d_Mo_foldWide_910 rfl ?_
  obtain ⟨k79, ek79, hr⟩ := of_bnd hr
  refine g_getR C fl_Mo_29 ek79 d_Mo_foldWide_911 ?_
  refine g_bipush (v := 15) C d_Mo_foldWide_914 (by decide) ?_
  obtain ⟨v80, ev80, hr⟩ := of_bnd hr
  refine g_laload C ev80 d_Mo_foldWide_916 ?_
  refine g_ladd C d_Mo_foldWide_917 ?_
  refine g_lload C 2 rfl d_Mo_foldWide_918 ?_
  refine g_lload C 11 rfl d_Mo_foldWide_920 ?_
  refine g_lmul C d_Mo_foldWide_922 ?_
  refine g_ladd C d_Mo_foldWide_923 ?_
  refine g_lload C 1 rfl d_Mo_foldWide_924 ?_
  refine g_lload C 12 rfl d_Mo_foldWide_926 ?_
  refine g_lmul C d_Mo_foldWide_928 ?_
  refine g_ladd C d_Mo_foldWide_929 ?_
  refine g_topl (fun x81 ex81 => ?_)
  have hr := of_lt ex81 hr
  refine g_lstore (lv' := [(22, .long x81), (40, .long x54), (38, .long x50), (36, .long x46), (34, .long x42), (32, .long x38), (30, .long x34), (28, .long x30), (26, .long x26), (24, .long x22), (20, .long v19), (18, .long v18), (16, .long v16), (14, .long v14), (12, .long v12), (10, .long v10), (8, .long v8), (6, .long v6), (4, .long v4), (2, .long v2), (0, .ref p0), (1, .ref p1)]) C d_Mo_foldWide_930 (by decide) rfl ?_
  refine g_aload_n C 21 rfl d_Mo_foldWide_932 rfl ?_
  refine g_bipush (v := 6) C d_Mo_foldWide_933 (by decide) ?_
  refine g_lload C 0 rfl d_Mo_foldWide_935 ?_
  refine g_ldc2 (v := 536870911) C d_Mo_foldWide_937 kw_2 ?_
  refine g_land C d_Mo_foldWide_940 ?_
  obtain ⟨h82, eh82, hr⟩ := of_bnd hr
  refine g_lastore C eh82 d_Mo_foldWide_941 ?_
  refine g_lload C 0 rfl d_Mo_foldWide_942 ?_
  refine g_bipush (v := 29) C d_Mo_foldWide_944 (by decide) ?_
  refine g_lshr C d_Mo_foldWide_946 ?_
  refine g_aload_n C 20 rfl d_Mo_foldWide_947 rfl ?_
  obtain ⟨k83, ek83, hr⟩ := of_bnd hr
  refine g_getR C fl_Mo_29 ek83 d_Mo_foldWide_948 ?_
  refine g_bipush (v := 16) C d_Mo_foldWide_951 (by decide) ?_
  obtain ⟨v84, ev84, hr⟩ := of_bnd hr
  refine g_laload C ev84 d_Mo_foldWide_953 ?_
  refine g_ladd C d_Mo_foldWide_954 ?_
  refine g_lload C 1 rfl d_Mo_foldWide_955 ?_
  refine g_lload C 11 rfl d_Mo_foldWide_957 ?_
  refine g_lmul C d_Mo_foldWide_959 ?_
  refine g_ladd C d_Mo_foldWide_960 ?_
  refine g_topl (fun x85 ex85 => ?_)
  have hr := of_lt ex85 hr
  refine g_lstore (lv' := [(22, .long x85), (40, .long x54), (38, .long x50), (36, .long x46), (34, .long x42), (32, .long x38), (30, .long x34), (28, .long x30), (26, .long x26), (24, .long x22), (20, .long v19), (18, .long v18), (16, .long v16), (14, .long v14), (12, .long v12), (10, .long v10), (8, .long v8), (6, .long v6), (4, .long v4), (2, .long v2), (0, .ref p0), (1, .ref p1)]) C d_Mo_foldWide_961 (by decide) rfl ?_
  refine g_aload_n C 21 rfl d_Mo_foldWide_963 rfl ?_
  refine g_bipush (v := 7) C d_Mo_foldWide_964 (by decide) ?_
  refine g_lload C 0 rfl d_Mo_foldWide_966 ?_
  refine g_ldc2 (v := 536870911) C d_Mo_foldWide_968 kw_2 ?_
  refine g_land C d_Mo_foldWide_971 ?_
  obtain ⟨h86, eh86, hr⟩ := of_bnd hr
  refine g_lastore C eh86 d_Mo_foldWide_972 ?_
  refine g_aload_n C 21 rfl d_Mo_foldWide_973 rfl ?_
  refine g_bipush (v := 8) C d_Mo_foldWide_974 (by decide) ?_
  refine g_lload C 0 rfl d_Mo_foldWide_976 ?_
  refine g_bipush (v := 29) C d_Mo_foldWide_978 (by decide) ?_
  refine g_lshr C d_Mo_foldWide_980 ?_
  obtain ⟨h87, eh87, hr⟩ := of_bnd hr
  refine g_lastore C eh87 d_Mo_foldWide_981 ?_
  cases hr
  exact g_vreturn C T (by decide) (by decide) d_Mo_foldWide_982
end
section
abbrev b_Mo_multiply : ByteArray := prog_4_method_9_code
abbrev y_Mo_multiply : MethodName := ⟨"PrimeKeys$Modulus", "multiply", "([J[J[J)V"⟩
theorem d_Mo_multiply_0 : decode b_Mo_multiply 0 = .ok (.aload_n 0, 1) := by decide +kernel
theorem d_Mo_multiply_1 : decode b_Mo_multiply 1 = .ok (.aload_n 1, 1) := by decide +kernel
theorem d_Mo_multiply_2 : decode b_Mo_multiply 2 = .ok (.aload_n 2, 1) := by decide +kernel
theorem d_Mo_multiply_3 : decode b_Mo_multiply 3 = .ok (.invokevirtual 78, 3) := by decide +kernel
theorem d_Mo_multiply_6 : decode b_Mo_multiply 6 = .ok (.aload_n 0, 1) := by decide +kernel
theorem d_Mo_multiply_7 : decode b_Mo_multiply 7 = .ok (.aload_n 3, 1) := by decide +kernel
theorem d_Mo_multiply_8 : decode b_Mo_multiply 8 = .ok (.invokevirtual 81, 3) := by decide +kernel
theorem d_Mo_multiply_11 : decode b_Mo_multiply 11 = .ok (.aload_n 0, 1) := by decide +kernel
theorem d_Mo_multiply_12 : decode b_Mo_multiply 12 = .ok (.aload_n 3, 1) := by decide +kernel
theorem d_Mo_multiply_13 : decode b_Mo_multiply 13 = .ok (.invokevirtual 71, 3) := by decide +kernel
theorem d_Mo_multiply_16 : decode b_Mo_multiply 16 = .ok (.return_, 1) := by decide +kernel
theorem cd_Mo_81 : CD "PrimeKeys$Modulus" 81 y_Mo_foldWide b_Mo_foldWide 42 none 1 := ⟨tb_1 (List.mem_of_getElem? (i := 173) rfl) rfl, tb_1 (List.mem_of_getElem? (i := 4) (by decide +kernel)) rfl, tb_1 (List.mem_of_getElem? (i := 170) (by decide +kernel)) rfl, by decide +kernel⟩
theorem kw_in_Mo_foldWide : Cond.instanceMethod y_Mo_foldWide ∈ TB := tb_1 (List.mem_of_getElem? (i := 172) (by decide +kernel)) rfl
theorem kw_se_Mo_foldWide : Cond.selects "PrimeKeys$Modulus" y_Mo_foldWide y_Mo_foldWide ∈ TB := tb_p (q := (y_Mo_foldWide, 9)) (by decide +kernel)
theorem cd_Mo_78 : CD "PrimeKeys$Modulus" 78 y_Mo_fillWide b_Mo_fillWide 39 none 2 := ⟨tb_1 (List.mem_of_getElem? (i := 169) rfl) rfl, tb_1 (List.mem_of_getElem? (i := 4) (by decide +kernel)) rfl, tb_1 (List.mem_of_getElem? (i := 166) (by decide +kernel)) rfl, by decide +kernel⟩
theorem kw_in_Mo_fillWide : Cond.instanceMethod y_Mo_fillWide ∈ TB := tb_1 (List.mem_of_getElem? (i := 168) (by decide +kernel)) rfl
theorem kw_se_Mo_fillWide : Cond.selects "PrimeKeys$Modulus" y_Mo_fillWide y_Mo_fillWide ∈ TB := tb_p (q := (y_Mo_fillWide, 9)) (by decide +kernel)
abbrev rm_Mo_multiply : Room := { frames := 2, cells := 0, slots := 0, locals := 61 }
def P_Mo_multiply (h : HP) (p0 : Nat) (p1 : Nat) (p2 : Nat) (p3 : Nat) : Option (HP) :=
  ob h p0 1 (
  bnd (P_Mo_fillWide h p0 p1 p2) fun h1 =>
  ob h1 p0 1 (
  bnd (P_Mo_foldWide h1 p0 p3) fun h2 =>
  ob h2 p0 1 (
  bnd (P_Mo_reduceOnce h2 p0 p3) fun h3 =>
  some h3)))
set_option maxHeartbeats 4000000 in
set_option maxRecDepth 100000 in
theorem c_Mo_multiply {l : Launch} {h h' : HP} {p0 p1 p2 p3 : _} (hr : P_Mo_multiply h p0 p1 p2 p3 = some h') : MP l y_Mo_multiply (Cond.code y_Mo_multiply b_Mo_multiply 4 none :: TB) rm_Mo_multiply h [.ref p0, .ref p1, .ref p2, .ref p3] none h' := by
  refine MP_intro (cc := b_Mo_multiply) (by decide) (Nat.le_of_ble_eq_true rfl) (fun x hl0 C T hin => ?_)
  unfold P_Mo_multiply at hr
  show GG x 0 0 h 0 [(0, .ref p0), (1, .ref p1), (2, .ref p2), (3, .ref p3)] []
  refine g_aload_n C 0 rfl d_Mo_multiply_0 rfl ?_
  refine g_aload_n C 1 rfl d_Mo_multiply_1 rfl ?_
  refine g_aload_n C 2 rfl d_Mo_multiply_2 rfl ?_
  obtain ⟨fsh1, hoh1, hr⟩ := of_ob hr
  obtain ⟨h1, eh1, hr⟩ := of_bnd hr
  refine g_callV (pa := [.ref p1, .ref p2]) C hl0 (c_Mo_fillWide eh1) cd_Mo_78 kw_in_Mo_fillWide kw_se_Mo_fillWide hoh1 rfl rfl (by decide) rfl rfl (Nat.le_of_ble_eq_true rfl) d_Mo_multiply_3 ?_
  refine g_aload_n C 0 rfl d_Mo_multiply_6 rfl ?_
  refine g_aload_n C 3 rfl d_Mo_multiply_7 rfl ?_
  obtain ⟨fsh2, hoh2, hr⟩ := of_ob hr
  obtain ⟨h2, eh2, hr⟩ := of_bnd hr
  refine g_callV (pa := [.ref p3]) C hl0 (c_Mo_foldWide eh2) cd_Mo_81 kw_in_Mo_foldWide kw_se_Mo_foldWide hoh2 rfl rfl (by decide) rfl rfl (Nat.le_of_ble_eq_true rfl) d_Mo_multiply_8 ?_
  refine g_aload_n C 0 rfl d_Mo_multiply_11 rfl ?_
  refine g_aload_n C 3 rfl d_Mo_multiply_12 rfl ?_
  obtain ⟨fsh3, hoh3, hr⟩ := of_ob hr
  obtain ⟨h3, eh3, hr⟩ := of_bnd hr
  refine g_callV (pa := [.ref p3]) C hl0 (c_Mo_reduceOnce eh3) cd_Mo_71 kw_in_Mo_reduceOnce kw_se_Mo_reduceOnce hoh3 rfl rfl (by decide) rfl rfl (Nat.le_of_ble_eq_true rfl) d_Mo_multiply_13 ?_
  cases hr
  exact g_vreturn C T (by decide) (by decide) d_Mo_multiply_16
abbrev b_Mo_copyOne : ByteArray := prog_4_method_2_code
abbrev y_Mo_copyOne : MethodName := ⟨"PrimeKeys$Modulus", "copyOne", "([J)V"⟩
theorem d_Mo_copyOne_0 : decode b_Mo_copyOne 0 = .ok (.aload_n 0, 1) := by decide +kernel
theorem d_Mo_copyOne_1 : decode b_Mo_copyOne 1 = .ok (.getfield 23, 3) := by decide +kernel
theorem d_Mo_copyOne_4 : decode b_Mo_copyOne 4 = .ok (.aload_n 1, 1) := by decide +kernel
theorem d_Mo_copyOne_5 : decode b_Mo_copyOne 5 = .ok (.invokestatic 42, 3) := by decide +kernel
theorem d_Mo_copyOne_8 : decode b_Mo_copyOne 8 = .ok (.return_, 1) := by decide +kernel
theorem fl_Mo_23 : FL "PrimeKeys$Modulus" 23 1 3 := ⟨R_Mo, F_Mo, 9, rfl, u_Mo, by decide, rfl, tb_1 (List.mem_of_getElem? (i := 107) (by decide +kernel)) rfl⟩
theorem cd_Mo_42 : CD "PrimeKeys$Modulus" 42 y_Li_copy b_Li_copy 2 none 2 := ⟨tb_1 (List.mem_of_getElem? (i := 85) rfl) rfl, tb_1 (List.mem_of_getElem? (i := 5) (by decide +kernel)) rfl, tb_1 (List.mem_of_getElem? (i := 83) (by decide +kernel)) rfl, by decide +kernel⟩
theorem kw_st_Li_copy : Cond.static y_Li_copy ∈ TB := tb_1 (List.mem_of_getElem? (i := 84) (by decide +kernel)) rfl
abbrev rm_Mo_copyOne : Room := { frames := 2, cells := 0, slots := 0, locals := 47 }
def P_Mo_copyOne (h : HP) (p0 : Nat) (p1 : Nat) : Option (HP) :=
  bnd (gR h p0 1 3) fun k1 =>
  bnd (P_Li_copy h k1 p1) fun h2 =>
  some h2
set_option maxHeartbeats 4000000 in
set_option maxRecDepth 100000 in
theorem c_Mo_copyOne {l : Launch} {h h' : HP} {p0 p1 : _} (hr : P_Mo_copyOne h p0 p1 = some h') : MP l y_Mo_copyOne (Cond.code y_Mo_copyOne b_Mo_copyOne 2 none :: TB) rm_Mo_copyOne h [.ref p0, .ref p1] none h' := by
  refine MP_intro (cc := b_Mo_copyOne) (by decide) (Nat.le_of_ble_eq_true rfl) (fun x hl0 C T hin => ?_)
  unfold P_Mo_copyOne at hr
  show GG x 0 0 h 0 [(0, .ref p0), (1, .ref p1)] []
  refine g_aload_n C 0 rfl d_Mo_copyOne_0 rfl ?_
  obtain ⟨k1, ek1, hr⟩ := of_bnd hr
  refine g_getR C fl_Mo_23 ek1 d_Mo_copyOne_1 ?_
  refine g_aload_n C 1 rfl d_Mo_copyOne_4 rfl ?_
  obtain ⟨h2, eh2, hr⟩ := of_bnd hr
  refine g_callS (pa := [.ref k1, .ref p1]) C hl0 (c_Li_copy eh2) cd_Mo_42 kw_st_Li_copy (by decide) rfl rfl (Nat.le_of_ble_eq_true rfl) d_Mo_copyOne_5 ?_
  cases hr
  exact g_vreturn C T (by decide) (by decide) d_Mo_copyOne_8
abbrev b_Mo_enterForm : ByteArray := prog_4_method_3_code
abbrev y_Mo_enterForm : MethodName := ⟨"PrimeKeys$Modulus", "enterForm", "([J[J)V"⟩
theorem d_Mo_enterForm_0 : decode b_Mo_enterForm 0 = .ok (.aload_n 0, 1) := by decide +kernel
theorem d_Mo_enterForm_1 : decode b_Mo_enterForm 1 = .ok (.aload_n 1, 1) := by decide +kernel
theorem d_Mo_enterForm_2 : decode b_Mo_enterForm 2 = .ok (.aload_n 0, 1) := by decide +kernel
theorem d_Mo_enterForm_3 : decode b_Mo_enterForm 3 = .ok (.getfield 26, 3) := by decide +kernel
theorem d_Mo_enterForm_6 : decode b_Mo_enterForm 6 = .ok (.aload_n 2, 1) := by decide +kernel
theorem d_Mo_enterForm_7 : decode b_Mo_enterForm 7 = .ok (.invokevirtual 58, 3) := by decide +kernel
theorem d_Mo_enterForm_10 : decode b_Mo_enterForm 10 = .ok (.return_, 1) := by decide +kernel
theorem fl_Mo_26 : FL "PrimeKeys$Modulus" 26 1 4 := ⟨R_Mo, F_Mo, 9, rfl, u_Mo, by decide, rfl, tb_1 (List.mem_of_getElem? (i := 108) (by decide +kernel)) rfl⟩
theorem cd_Mo_58 : CD "PrimeKeys$Modulus" 58 y_Mo_multiply b_Mo_multiply 4 none 3 := ⟨tb_1 (List.mem_of_getElem? (i := 165) rfl) rfl, tb_1 (List.mem_of_getElem? (i := 4) (by decide +kernel)) rfl, tb_1 (List.mem_of_getElem? (i := 162) (by decide +kernel)) rfl, by decide +kernel⟩
theorem kw_in_Mo_multiply : Cond.instanceMethod y_Mo_multiply ∈ TB := tb_1 (List.mem_of_getElem? (i := 163) (by decide +kernel)) rfl
theorem kw_se_Mo_multiply : Cond.selects "PrimeKeys$Modulus" y_Mo_multiply y_Mo_multiply ∈ TB := tb_1 (List.mem_of_getElem? (i := 164) (by decide +kernel)) rfl
abbrev rm_Mo_enterForm : Room := { frames := 3, cells := 0, slots := 0, locals := 84 }
def P_Mo_enterForm (h : HP) (p0 : Nat) (p1 : Nat) (p2 : Nat) : Option (HP) :=
  bnd (gR h p0 1 4) fun k1 =>
  ob h p0 1 (
  bnd (P_Mo_multiply h p0 p1 k1 p2) fun h2 =>
  some h2)
set_option maxHeartbeats 4000000 in
set_option maxRecDepth 100000 in
theorem c_Mo_enterForm {l : Launch} {h h' : HP} {p0 p1 p2 : _} (hr : P_Mo_enterForm h p0 p1 p2 = some h') : MP l y_Mo_enterForm (Cond.code y_Mo_enterForm b_Mo_enterForm 3 none :: TB) rm_Mo_enterForm h [.ref p0, .ref p1, .ref p2] none h' := by
  refine MP_intro (cc := b_Mo_enterForm) (by decide) (Nat.le_of_ble_eq_true rfl) (fun x hl0 C T hin => ?_)
  unfold P_Mo_enterForm at hr
  show GG x 0 0 h 0 [(0, .ref p0), (1, .ref p1), (2, .ref p2)] []
  refine g_aload_n C 0 rfl d_Mo_enterForm_0 rfl ?_
  refine g_aload_n C 1 rfl d_Mo_enterForm_1 rfl ?_
  refine g_aload_n C 0 rfl d_Mo_enterForm_2 rfl ?_
  obtain ⟨k1, ek1, hr⟩ := of_bnd hr
  refine g_getR C fl_Mo_26 ek1 d_Mo_enterForm_3 ?_
  refine g_aload_n C 2 rfl d_Mo_enterForm_6 rfl ?_
  obtain ⟨fsh2, hoh2, hr⟩ := of_ob hr
  obtain ⟨h2, eh2, hr⟩ := of_bnd hr
  refine g_callV (pa := [.ref p1, .ref k1, .ref p2]) C hl0 (c_Mo_multiply eh2) cd_Mo_58 kw_in_Mo_multiply kw_se_Mo_multiply hoh2 rfl rfl (by decide) rfl rfl (Nat.le_of_ble_eq_true rfl) d_Mo_enterForm_7 ?_
  cases hr
  exact g_vreturn C T (by decide) (by decide) d_Mo_enterForm_10
abbrev b_Mo_leaveForm : ByteArray := prog_4_method_4_code
abbrev y_Mo_leaveForm : MethodName := ⟨"PrimeKeys$Modulus", "leaveForm", "([J[J)V"⟩
theorem d_Mo_leaveForm_0 : decode b_Mo_leaveForm 0 = .ok (.aload_n 0, 1) := by decide +kernel
theorem d_Mo_leaveForm_1 : decode b_Mo_leaveForm 1 = .ok (.aload_n 1, 1) := by decide +kernel
theorem d_Mo_leaveForm_2 : decode b_Mo_leaveForm 2 = .ok (.aload_n 0, 1) := by decide +kernel
theorem d_Mo_leaveForm_3 : decode b_Mo_leaveForm 3 = .ok (.getfield 20, 3) := by decide +kernel
theorem d_Mo_leaveForm_6 : decode b_Mo_leaveForm 6 = .ok (.aload_n 2, 1) := by decide +kernel
theorem d_Mo_leaveForm_7 : decode b_Mo_leaveForm 7 = .ok (.invokevirtual 58, 3) := by decide +kernel
theorem d_Mo_leaveForm_10 : decode b_Mo_leaveForm 10 = .ok (.return_, 1) := by decide +kernel
theorem fl_Mo_20 : FL "PrimeKeys$Modulus" 20 1 2 := ⟨R_Mo, F_Mo, 9, rfl, u_Mo, by decide, rfl, tb_1 (List.mem_of_getElem? (i := 106) (by decide +kernel)) rfl⟩
abbrev rm_Mo_leaveForm : Room := { frames := 3, cells := 0, slots := 0, locals := 84 }
def P_Mo_leaveForm (h : HP) (p0 : Nat) (p1 : Nat) (p2 : Nat) : Option (HP) :=
  bnd (gR h p0 1 2) fun k1 =>
  ob h p0 1 (
  bnd (P_Mo_multiply h p0 p1 k1 p2) fun h2 =>
  some h2)
set_option maxHeartbeats 4000000 in
set_option maxRecDepth 100000 in
theorem c_Mo_leaveForm {l : Launch} {h h' : HP} {p0 p1 p2 : _} (hr : P_Mo_leaveForm h p0 p1 p2 = some h') : MP l y_Mo_leaveForm (Cond.code y_Mo_leaveForm b_Mo_leaveForm 3 none :: TB) rm_Mo_leaveForm h [.ref p0, .ref p1, .ref p2] none h' := by
  refine MP_intro (cc := b_Mo_leaveForm) (by decide) (Nat.le_of_ble_eq_true rfl) (fun x hl0 C T hin => ?_)
  unfold P_Mo_leaveForm at hr
  show GG x 0 0 h 0 [(0, .ref p0), (1, .ref p1), (2, .ref p2)] []
  refine g_aload_n C 0 rfl d_Mo_leaveForm_0 rfl ?_
  refine g_aload_n C 1 rfl d_Mo_leaveForm_1 rfl ?_
  refine g_aload_n C 0 rfl d_Mo_leaveForm_2 rfl ?_
  obtain ⟨k1, ek1, hr⟩ := of_bnd hr
  refine g_getR C fl_Mo_20 ek1 d_Mo_leaveForm_3 ?_
  refine g_aload_n C 2 rfl d_Mo_leaveForm_6 rfl ?_
  obtain ⟨fsh2, hoh2, hr⟩ := of_ob hr
  obtain ⟨h2, eh2, hr⟩ := of_bnd hr
  refine g_callV (pa := [.ref p1, .ref k1, .ref p2]) C hl0 (c_Mo_multiply eh2) cd_Mo_58 kw_in_Mo_multiply kw_se_Mo_multiply hoh2 rfl rfl (by decide) rfl rfl (Nat.le_of_ble_eq_true rfl) d_Mo_leaveForm_7 ?_
  cases hr
  exact g_vreturn C T (by decide) (by decide) d_Mo_leaveForm_10
abbrev b_Mo_isAbove : ByteArray := prog_4_method_5_code
abbrev y_Mo_isAbove : MethodName := ⟨"PrimeKeys$Modulus", "isAbove", "([J)Z"⟩
theorem d_Mo_isAbove_0 : decode b_Mo_isAbove 0 = .ok (.aload_n 0, 1) := by decide +kernel
theorem d_Mo_isAbove_1 : decode b_Mo_isAbove 1 = .ok (.aload_n 1, 1) := by decide +kernel
theorem d_Mo_isAbove_2 : decode b_Mo_isAbove 2 = .ok (.invokevirtual 61, 3) := by decide +kernel
theorem d_Mo_isAbove_5 : decode b_Mo_isAbove 5 = .ok (.lconst 0, 1) := by decide +kernel
theorem d_Mo_isAbove_6 : decode b_Mo_isAbove 6 = .ok (.lcmp, 1) := by decide +kernel
theorem d_Mo_isAbove_7 : decode b_Mo_isAbove 7 = .ok (.ifCond .ge 7, 3) := by decide +kernel
theorem d_Mo_isAbove_10 : decode b_Mo_isAbove 10 = .ok (.iconst 1, 1) := by decide +kernel
theorem d_Mo_isAbove_11 : decode b_Mo_isAbove 11 = .ok (.goto 4, 3) := by decide +kernel
theorem d_Mo_isAbove_14 : decode b_Mo_isAbove 14 = .ok (.iconst 0, 1) := by decide +kernel
theorem d_Mo_isAbove_15 : decode b_Mo_isAbove 15 = .ok (.ireturn, 1) := by decide +kernel
abbrev rm_Mo_isAbove : Room := { frames := 1, cells := 0, slots := 0, locals := 24 }
def P_Mo_isAbove (h : HP) (p0 : Nat) (p1 : Nat) : Option (Int32 × HP) :=
  ob h p0 1 (
  bnd2 (P_Mo_lessPrime h p0 p1) fun v2 h1 =>
  if 0 ≤ lg_cmp v2 0 then
  some (0, h1)
  else
  some (1, h1))
set_option maxHeartbeats 4000000 in
set_option maxRecDepth 100000 in
theorem c_Mo_isAbove {l : Launch} {h h' : HP} {p0 p1 : _} {r' : Int32} (hr : P_Mo_isAbove h p0 p1 = some (r', h')) : MP l y_Mo_isAbove (Cond.code y_Mo_isAbove b_Mo_isAbove 2 (some .boolean) :: TB) rm_Mo_isAbove h [.ref p0, .ref p1] (some (.int r')) h' := by
  refine MP_intro (cc := b_Mo_isAbove) (by decide) (Nat.le_of_ble_eq_true rfl) (fun x hl0 C T hin => ?_)
  unfold P_Mo_isAbove at hr
  show GG x 0 0 h 0 [(0, .ref p0), (1, .ref p1)] []
  refine g_aload_n C 0 rfl d_Mo_isAbove_0 rfl ?_
  refine g_aload_n C 1 rfl d_Mo_isAbove_1 rfl ?_
  obtain ⟨fsh1, hoh1, hr⟩ := of_ob hr
  obtain ⟨v2, h1, eh1, hr⟩ := of_bnd2 hr
  refine g_callV (pa := [.ref p1]) C hl0 (c_Mo_lessPrime eh1) cd_Mo_61 kw_in_Mo_lessPrime kw_se_Mo_lessPrime hoh1 rfl rfl (by decide) rfl rfl (Nat.le_of_ble_eq_true rfl) d_Mo_isAbove_2 ?_
  refine g_lconst (v := 0) C d_Mo_isAbove_5 (by decide) ?_
  refine g_lcmp C d_Mo_isAbove_6 ?_
  refine g_if_ge (tgt := 14) C d_Mo_isAbove_7 (by decide) (fun z => ?_) (fun z => ?_)
  · have hr := of_if z hr
    refine g_iconst (v := 0) C d_Mo_isAbove_14 (by decide) ?_
    cases hr
    exact g_ireturn C T rfl (by decide) (by decide) d_Mo_isAbove_15
  · have hr := of_el z hr
    refine g_iconst (v := 1) C d_Mo_isAbove_10 (by decide) ?_
    refine g_goto (tgt := 15) C d_Mo_isAbove_11 (by decide) ?_
    cases hr
    exact g_ireturn C T rfl (by decide) (by decide) d_Mo_isAbove_15
abbrev b_Mo_invert : ByteArray := prog_4_method_10_code
abbrev y_Mo_invert : MethodName := ⟨"PrimeKeys$Modulus", "invert", "([J[J)V"⟩
theorem d_Mo_invert_0 : decode b_Mo_invert 0 = .ok (.aload_n 0, 1) := by decide +kernel
theorem d_Mo_invert_1 : decode b_Mo_invert 1 = .ok (.getfield 23, 3) := by decide +kernel
theorem d_Mo_invert_4 : decode b_Mo_invert 4 = .ok (.aload_n 0, 1) := by decide +kernel
theorem d_Mo_invert_5 : decode b_Mo_invert 5 = .ok (.getfield 35, 3) := by decide +kernel
theorem d_Mo_invert_8 : decode b_Mo_invert 8 = .ok (.invokestatic 42, 3) := by decide +kernel
theorem d_Mo_invert_11 : decode b_Mo_invert 11 = .ok (.sipush 255, 3) := by decide +kernel
theorem d_Mo_invert_14 : decode b_Mo_invert 14 = .ok (.istore_n 3, 1) := by decide +kernel
theorem d_Mo_invert_15 : decode b_Mo_invert 15 = .ok (.iload_n 3, 1) := by decide +kernel
theorem d_Mo_invert_16 : decode b_Mo_invert 16 = .ok (.ifCond .lt 59, 3) := by decide +kernel
theorem d_Mo_invert_19 : decode b_Mo_invert 19 = .ok (.aload_n 0, 1) := by decide +kernel
theorem d_Mo_invert_20 : decode b_Mo_invert 20 = .ok (.aload_n 0, 1) := by decide +kernel
theorem d_Mo_invert_21 : decode b_Mo_invert 21 = .ok (.getfield 35, 3) := by decide +kernel
theorem d_Mo_invert_24 : decode b_Mo_invert 24 = .ok (.aload_n 0, 1) := by decide +kernel
theorem d_Mo_invert_25 : decode b_Mo_invert 25 = .ok (.getfield 35, 3) := by decide +kernel
theorem d_Mo_invert_28 : decode b_Mo_invert 28 = .ok (.aload_n 0, 1) := by decide +kernel
theorem d_Mo_invert_29 : decode b_Mo_invert 29 = .ok (.getfield 35, 3) := by decide +kernel
theorem d_Mo_invert_32 : decode b_Mo_invert 32 = .ok (.invokevirtual 58, 3) := by decide +kernel
theorem d_Mo_invert_35 : decode b_Mo_invert 35 = .ok (.aload_n 0, 1) := by decide +kernel
theorem d_Mo_invert_36 : decode b_Mo_invert 36 = .ok (.getfield 17, 3) := by decide +kernel
theorem d_Mo_invert_39 : decode b_Mo_invert 39 = .ok (.iload_n 3, 1) := by decide +kernel
theorem d_Mo_invert_40 : decode b_Mo_invert 40 = .ok (.bipush 29, 2) := by decide +kernel
theorem d_Mo_invert_42 : decode b_Mo_invert 42 = .ok (.idiv, 1) := by decide +kernel
theorem d_Mo_invert_43 : decode b_Mo_invert 43 = .ok (.laload, 1) := by decide +kernel
theorem d_Mo_invert_44 : decode b_Mo_invert 44 = .ok (.iload_n 3, 1) := by decide +kernel
theorem d_Mo_invert_45 : decode b_Mo_invert 45 = .ok (.bipush 29, 2) := by decide +kernel
theorem d_Mo_invert_47 : decode b_Mo_invert 47 = .ok (.irem, 1) := by decide +kernel
theorem d_Mo_invert_48 : decode b_Mo_invert 48 = .ok (.lshr, 1) := by decide +kernel
theorem d_Mo_invert_49 : decode b_Mo_invert 49 = .ok (.lconst 1, 1) := by decide +kernel
theorem d_Mo_invert_50 : decode b_Mo_invert 50 = .ok (.land, 1) := by decide +kernel
theorem d_Mo_invert_51 : decode b_Mo_invert 51 = .ok (.lconst 1, 1) := by decide +kernel
theorem d_Mo_invert_52 : decode b_Mo_invert 52 = .ok (.lcmp, 1) := by decide +kernel
theorem d_Mo_invert_53 : decode b_Mo_invert 53 = .ok (.ifCond .ne 16, 3) := by decide +kernel
theorem d_Mo_invert_56 : decode b_Mo_invert 56 = .ok (.aload_n 0, 1) := by decide +kernel
theorem d_Mo_invert_57 : decode b_Mo_invert 57 = .ok (.aload_n 0, 1) := by decide +kernel
theorem d_Mo_invert_58 : decode b_Mo_invert 58 = .ok (.getfield 35, 3) := by decide +kernel
theorem d_Mo_invert_61 : decode b_Mo_invert 61 = .ok (.aload_n 1, 1) := by decide +kernel
theorem d_Mo_invert_62 : decode b_Mo_invert 62 = .ok (.aload_n 0, 1) := by decide +kernel
theorem d_Mo_invert_63 : decode b_Mo_invert 63 = .ok (.getfield 35, 3) := by decide +kernel
theorem d_Mo_invert_66 : decode b_Mo_invert 66 = .ok (.invokevirtual 58, 3) := by decide +kernel
theorem d_Mo_invert_69 : decode b_Mo_invert 69 = .ok (.iinc 3 (-1), 3) := by decide +kernel
theorem d_Mo_invert_72 : decode b_Mo_invert 72 = .ok (.goto (-57), 3) := by decide +kernel
theorem d_Mo_invert_75 : decode b_Mo_invert 75 = .ok (.aload_n 0, 1) := by decide +kernel
theorem d_Mo_invert_76 : decode b_Mo_invert 76 = .ok (.getfield 35, 3) := by decide +kernel
theorem d_Mo_invert_79 : decode b_Mo_invert 79 = .ok (.aload_n 2, 1) := by decide +kernel
theorem d_Mo_invert_80 : decode b_Mo_invert 80 = .ok (.invokestatic 42, 3) := by decide +kernel
theorem d_Mo_invert_83 : decode b_Mo_invert 83 = .ok (.return_, 1) := by decide +kernel
theorem fl_Mo_35 : FL "PrimeKeys$Modulus" 35 1 8 := ⟨R_Mo, F_Mo, 9, rfl, u_Mo, by decide, rfl, tb_1 (List.mem_of_getElem? (i := 112) (by decide +kernel)) rfl⟩
theorem fl_Mo_17 : FL "PrimeKeys$Modulus" 17 1 1 := ⟨R_Mo, F_Mo, 9, rfl, u_Mo, by decide, rfl, tb_1 (List.mem_of_getElem? (i := 105) (by decide +kernel)) rfl⟩
abbrev rm_Mo_invert : Room := { frames := 3, cells := 0, slots := 0, locals := 84 }
def B_Mo_invert_69 (K15 : HP → Nat → Nat → Nat → Int32 → Option (HP)) (h : HP) (a0 : Nat) (a1 : Nat) (a2 : Nat) (a3 : Int32) : Option (HP) :=
  lt (a3 + Int32.ofInt (-1)) fun x12 =>
  K15 h a0 a1 a2 x12
set_option maxHeartbeats 4000000 in
set_option maxRecDepth 100000 in
theorem bk_Mo_invert_69 {l : Launch} {x : CX} {h0 h' : HP} (C : EV x b_Mo_invert "PrimeKeys$Modulus" 4 rm_Mo_invert) (T : CT x (none) rm_Mo_invert h0 none h') (hl0 : x.1.2.1 = l) (K15 : HP → Nat → Nat → Nat → Int32 → Option (HP)) (hK15 : ∀ (h : HP) (a0 : Nat) (a1 : Nat) (a2 : Nat) (a3 : Int32), K15 h a0 a1 a2 a3 = some h' → GG x 0 0 h 15 [(0, .ref a0), (1, .ref a1), (2, .ref a2), (3, .int a3)] []) (h : HP) (a0 : Nat) (a1 : Nat) (a2 : Nat) (a3 : Int32) (hr : B_Mo_invert_69 K15 h a0 a1 a2 a3 = some h') : GG x 0 0 h 69 [(0, .ref a0), (1, .ref a1), (2, .ref a2), (3, .int a3)] [] := by
  unfold B_Mo_invert_69 at hr
  obtain ⟨x12, ex12⟩ : ∃ z, z = a3 + Int32.ofInt (-1) := ⟨_, rfl⟩
  have hr := of_lt ex12 hr
  refine g_iinc (lv' := [(3, .int x12), (0, .ref a0), (1, .ref a1), (2, .ref a2)]) C 3 rfl d_Mo_invert_69 ex12.symm (by decide) rfl ?_
  refine g_goto (tgt := 15) C d_Mo_invert_72 (by decide) ?_
  refine g_lv [1, 2, 3, 0] rfl ?_
  exact hK15 h a0 a1 a2 x12 hr
def B_Mo_invert_15 (K15 : HP → Nat → Nat → Nat → Int32 → Option (HP)) (h : HP) (a0 : Nat) (a1 : Nat) (a2 : Nat) (a3 : Int32) : Option (HP) :=
  if a3 < 0 then
  bnd (gR h a0 1 8) fun k4 =>
  bnd (P_Li_copy h k4 a2) fun h5 =>
  some h5
  else
  bnd (gR h a0 1 8) fun k6 =>
  bnd (gR h a0 1 8) fun k7 =>
  bnd (gR h a0 1 8) fun k8 =>
  ob h a0 1 (
  bnd (P_Mo_multiply h a0 k6 k7 k8) fun h9 =>
  bnd (gR h9 a0 1 1) fun k10 =>
  bnd (ldJ h9 k10 (a3 / 29)) fun v11 =>
  if lg_cmp ((v11 >>> (Int32.toInt64 (a3 - a3 / 29 * 29) &&& 63)) &&& 1) 1 = 0 then
  bnd (gR h9 a0 1 8) fun k13 =>
  bnd (gR h9 a0 1 8) fun k14 =>
  ob h9 a0 1 (
  bnd (P_Mo_multiply h9 a0 k13 a1 k14) fun h15 =>
  B_Mo_invert_69 K15 h15 a0 a1 a2 a3)
  else
  B_Mo_invert_69 K15 h9 a0 a1 a2 a3)
set_option maxHeartbeats 4000000 in
set_option maxRecDepth 100000 in
theorem bk_Mo_invert_15 {l : Launch} {x : CX} {h0 h' : HP} (C : EV x b_Mo_invert "PrimeKeys$Modulus" 4 rm_Mo_invert) (T : CT x (none) rm_Mo_invert h0 none h') (hl0 : x.1.2.1 = l) (K15 : HP → Nat → Nat → Nat → Int32 → Option (HP)) (hK15 : ∀ (h : HP) (a0 : Nat) (a1 : Nat) (a2 : Nat) (a3 : Int32), K15 h a0 a1 a2 a3 = some h' → GG x 0 0 h 15 [(0, .ref a0), (1, .ref a1), (2, .ref a2), (3, .int a3)] []) (h : HP) (a0 : Nat) (a1 : Nat) (a2 : Nat) (a3 : Int32) (hr : B_Mo_invert_15 K15 h a0 a1 a2 a3 = some h') : GG x 0 0 h 15 [(0, .ref a0), (1, .ref a1), (2, .ref a2), (3, .int a3)] [] := by
  unfold B_Mo_invert_15 at hr
  refine g_iload_n C 3 rfl d_Mo_invert_15 rfl ?_
  refine g_if_lt (tgt := 75) C d_Mo_invert_16 (by decide) (fun z => ?_) (fun z => ?_)
  · have hr := of_if z hr
    refine g_aload_n C 0 rfl d_Mo_invert_75 rfl ?_
    obtain ⟨k4, ek4, hr⟩ := of_bnd hr
    refine g_getR C fl_Mo_35 ek4 d_Mo_invert_76 ?_
    refine g_aload_n C 2 rfl d_Mo_invert_79 rfl ?_
    obtain ⟨h5, eh5, hr⟩ := of_bnd hr
    refine g_callS (pa := [.ref k4, .ref a2]) C hl0 (c_Li_copy eh5) cd_Mo_42 kw_st_Li_copy (by decide) rfl rfl (Nat.le_of_ble_eq_true rfl) d_Mo_invert_80 ?_
    cases hr
    exact g_vreturn C T (by decide) (by decide) d_Mo_invert_83
  · have hr := of_el z hr
    refine g_aload_n C 0 rfl d_Mo_invert_19 rfl ?_
    refine g_aload_n C 0 rfl d_Mo_invert_20 rfl ?_
    obtain ⟨k6, ek6, hr⟩ := of_bnd hr
    refine g_getR C fl_Mo_35 ek6 d_Mo_invert_21 ?_
    refine g_aload_n C 0 rfl d_Mo_invert_24 rfl ?_
    obtain ⟨k7, ek7, hr⟩ := of_bnd hr
    refine g_getR C fl_Mo_35 ek7 d_Mo_invert_25 ?_
    refine g_aload_n C 0 rfl d_Mo_invert_28 rfl ?_
    obtain ⟨k8, ek8, hr⟩ := of_bnd hr
    refine g_getR C fl_Mo_35 ek8 d_Mo_invert_29 ?_
    obtain ⟨fsh9, hoh9, hr⟩ := of_ob hr
    obtain ⟨h9, eh9, hr⟩ := of_bnd hr
    refine g_callV (pa := [.ref k6, .ref k7, .ref k8]) C hl0 (c_Mo_multiply eh9) cd_Mo_58 kw_in_Mo_multiply kw_se_Mo_multiply hoh9 rfl rfl (by decide) rfl rfl (Nat.le_of_ble_eq_true rfl) d_Mo_invert_32 ?_
    refine g_aload_n C 0 rfl d_Mo_invert_35 rfl ?_
    obtain ⟨k10, ek10, hr⟩ := of_bnd hr
    refine g_getR C fl_Mo_17 ek10 d_Mo_invert_36 ?_
    refine g_iload_n C 3 rfl d_Mo_invert_39 rfl ?_
    refine g_bipush (v := 29) C d_Mo_invert_40 (by decide) ?_
    refine g_idiv C d_Mo_invert_42 (by decide) ?_
    obtain ⟨v11, ev11, hr⟩ := of_bnd hr
    refine g_laload C ev11 d_Mo_invert_43 ?_
    refine g_iload_n C 3 rfl d_Mo_invert_44 rfl ?_
    refine g_bipush (v := 29) C d_Mo_invert_45 (by decide) ?_
    refine g_irem C d_Mo_invert_47 (by decide) ?_
    refine g_lshr C d_Mo_invert_48 ?_
    refine g_lconst (v := 1) C d_Mo_invert_49 (by decide) ?_
    refine g_land C d_Mo_invert_50 ?_
    refine g_lconst (v := 1) C d_Mo_invert_51 (by decide) ?_
    refine g_lcmp C d_Mo_invert_52 ?_
    refine g_if_ne (tgt := 69) C d_Mo_invert_53 (by decide) (fun z => ?_) (fun z => ?_)
    · have hr := of_el z hr
      exact bk_Mo_invert_69 C T hl0 K15 hK15 h9 a0 a1 a2 a3 hr
    · have hr := of_if z hr
      refine g_aload_n C 0 rfl d_Mo_invert_56 rfl ?_
      refine g_aload_n C 0 rfl d_Mo_invert_57 rfl ?_
      obtain ⟨k13, ek13, hr⟩ := of_bnd hr
      refine g_getR C fl_Mo_35 ek13 d_Mo_invert_58 ?_
      refine g_aload_n C 1 rfl d_Mo_invert_61 rfl ?_
      refine g_aload_n C 0 rfl d_Mo_invert_62 rfl ?_
      obtain ⟨k14, ek14, hr⟩ := of_bnd hr
      refine g_getR C fl_Mo_35 ek14 d_Mo_invert_63 ?_
      obtain ⟨fsh15, hoh15, hr⟩ := of_ob hr
      obtain ⟨h15, eh15, hr⟩ := of_bnd hr
      refine g_callV (pa := [.ref k13, .ref a1, .ref k14]) C hl0 (c_Mo_multiply eh15) cd_Mo_58 kw_in_Mo_multiply kw_se_Mo_multiply hoh15 rfl rfl (by decide) rfl rfl (Nat.le_of_ble_eq_true rfl) d_Mo_invert_66 ?_
      exact bk_Mo_invert_69 C T hl0 K15 hK15 h15 a0 a1 a2 a3 hr
def L_Mo_invert_15 : Nat → HP → Nat → Nat → Nat → Int32 → Option (HP)
  | 0, _, _, _, _, _ => none
  | f + 1, h, a0, a1, a2, a3 => B_Mo_invert_15 (L_Mo_invert_15 f) h a0 a1 a2 a3
theorem lp_Mo_invert_15 {l : Launch} {x : CX} {h0 h' : HP} (C : EV x b_Mo_invert "PrimeKeys$Modulus" 4 rm_Mo_invert) (T : CT x (none) rm_Mo_invert h0 none h') (hl0 : x.1.2.1 = l) : ∀ (f : Nat) (h : HP) (a0 : Nat) (a1 : Nat) (a2 : Nat) (a3 : Int32), L_Mo_invert_15 f h a0 a1 a2 a3 = some h' → GG x 0 0 h 15 [(0, .ref a0), (1, .ref a1), (2, .ref a2), (3, .int a3)] [] := by
  intro f
  induction f with
  | zero => intro h a0 a1 a2 a3 hr; have hr : (none : Option (HP)) = some h' := hr; cases hr
  | succ f ih => intro h a0 a1 a2 a3 hr; exact bk_Mo_invert_15 C T hl0 (L_Mo_invert_15 f) ih h a0 a1 a2 a3 hr
def P_Mo_invert (h : HP) (p0 : Nat) (p1 : Nat) (p2 : Nat) : Option (HP) :=
  bnd (gR h p0 1 3) fun k1 =>
  bnd (gR h p0 1 8) fun k2 =>
  bnd (P_Li_copy h k1 k2) fun h3 =>
  L_Mo_invert_15 FU h3 p0 p1 p2 255
set_option maxHeartbeats 4000000 in
set_option maxRecDepth 100000 in
theorem c_Mo_invert {l : Launch} {h h' : HP} {p0 p1 p2 : _} (hr : P_Mo_invert h p0 p1 p2 = some h') : MP l y_Mo_invert (Cond.code y_Mo_invert b_Mo_invert 4 none :: TB) rm_Mo_invert h [.ref p0, .ref p1, .ref p2] none h' := by
  refine MP_intro (cc := b_Mo_invert) (by decide) (Nat.le_of_ble_eq_true rfl) (fun x hl0 C T hin => ?_)
  unfold P_Mo_invert at hr
  show GG x 0 0 h 0 [(0, .ref p0), (1, .ref p1), (2, .ref p2)] []
  refine g_aload_n C 0 rfl d_Mo_invert_0 rfl ?_
  obtain ⟨k1, ek1, hr⟩ := of_bnd hr
  refine g_getR C fl_Mo_23 ek1 d_Mo_invert_1 ?_
  refine g_aload_n C 0 rfl d_Mo_invert_4 rfl ?_
  obtain ⟨k2, ek2, hr⟩ := of_bnd hr
  refine g_getR C fl_Mo_35 ek2 d_Mo_invert_5 ?_
  obtain ⟨h3, eh3, hr⟩ := of_bnd hr
  refine g_callS (pa := [.ref k1, .ref k2]) C hl0 (c_Li_copy eh3) cd_Mo_42 kw_st_Li_copy (by decide) rfl rfl (Nat.le_of_ble_eq_true rfl) d_Mo_invert_8 ?_
  refine g_sipush (v := 255) C d_Mo_invert_11 (by decide) ?_
  refine g_istore_n (lv' := [(3, .int 255), (0, .ref p0), (1, .ref p1), (2, .ref p2)]) C d_Mo_invert_14 rfl (by decide) rfl ?_
  refine g_lv [1, 2, 3, 0] rfl ?_
  exact lp_Mo_invert_15 C T hl0 FU h3 p0 p1 p2 255 hr
abbrev b_Mo_new : ByteArray := prog_4_method_1_code
abbrev y_Mo_new : MethodName := ⟨"PrimeKeys$Modulus", "<init>", "([I)V"⟩
theorem d_Mo_new_0 : decode b_Mo_new 0 = .ok (.aload_n 0, 1) := by decide +kernel
theorem d_Mo_new_1 : decode b_Mo_new 1 = .ok (.invokespecial 5, 3) := by decide +kernel
theorem d_Mo_new_4 : decode b_Mo_new 4 = .ok (.aload_n 0, 1) := by decide +kernel
theorem d_Mo_new_5 : decode b_Mo_new 5 = .ok (.bipush 9, 2) := by decide +kernel
theorem d_Mo_new_7 : decode b_Mo_new 7 = .ok (.newarray .long, 2) := by decide +kernel
theorem d_Mo_new_9 : decode b_Mo_new 9 = .ok (.putfield 11, 3) := by decide +kernel
theorem d_Mo_new_12 : decode b_Mo_new 12 = .ok (.aload_n 0, 1) := by decide +kernel
theorem d_Mo_new_13 : decode b_Mo_new 13 = .ok (.bipush 9, 2) := by decide +kernel
theorem d_Mo_new_15 : decode b_Mo_new 15 = .ok (.newarray .long, 2) := by decide +kernel
theorem d_Mo_new_17 : decode b_Mo_new 17 = .ok (.putfield 17, 3) := by decide +kernel
theorem d_Mo_new_20 : decode b_Mo_new 20 = .ok (.aload_n 0, 1) := by decide +kernel
theorem d_Mo_new_21 : decode b_Mo_new 21 = .ok (.bipush 9, 2) := by decide +kernel
theorem d_Mo_new_23 : decode b_Mo_new 23 = .ok (.newarray .long, 2) := by decide +kernel
theorem d_Mo_new_25 : decode b_Mo_new 25 = .ok (.putfield 20, 3) := by decide +kernel
theorem d_Mo_new_28 : decode b_Mo_new 28 = .ok (.aload_n 0, 1) := by decide +kernel
theorem d_Mo_new_29 : decode b_Mo_new 29 = .ok (.bipush 9, 2) := by decide +kernel
theorem d_Mo_new_31 : decode b_Mo_new 31 = .ok (.newarray .long, 2) := by decide +kernel
theorem d_Mo_new_33 : decode b_Mo_new 33 = .ok (.putfield 23, 3) := by decide +kernel
theorem d_Mo_new_36 : decode b_Mo_new 36 = .ok (.aload_n 0, 1) := by decide +kernel
theorem d_Mo_new_37 : decode b_Mo_new 37 = .ok (.bipush 9, 2) := by decide +kernel
theorem d_Mo_new_39 : decode b_Mo_new 39 = .ok (.newarray .long, 2) := by decide +kernel
theorem d_Mo_new_41 : decode b_Mo_new 41 = .ok (.putfield 26, 3) := by decide +kernel
theorem d_Mo_new_44 : decode b_Mo_new 44 = .ok (.aload_n 0, 1) := by decide +kernel
theorem d_Mo_new_45 : decode b_Mo_new 45 = .ok (.bipush 17, 2) := by decide +kernel
theorem d_Mo_new_47 : decode b_Mo_new 47 = .ok (.newarray .long, 2) := by decide +kernel
theorem d_Mo_new_49 : decode b_Mo_new 49 = .ok (.putfield 29, 3) := by decide +kernel
theorem d_Mo_new_52 : decode b_Mo_new 52 = .ok (.aload_n 0, 1) := by decide +kernel
theorem d_Mo_new_53 : decode b_Mo_new 53 = .ok (.bipush 9, 2) := by decide +kernel
theorem d_Mo_new_55 : decode b_Mo_new 55 = .ok (.newarray .long, 2) := by decide +kernel
theorem d_Mo_new_57 : decode b_Mo_new 57 = .ok (.putfield 32, 3) := by decide +kernel
theorem d_Mo_new_60 : decode b_Mo_new 60 = .ok (.aload_n 0, 1) := by decide +kernel
theorem d_Mo_new_61 : decode b_Mo_new 61 = .ok (.bipush 9, 2) := by decide +kernel
theorem d_Mo_new_63 : decode b_Mo_new 63 = .ok (.newarray .long, 2) := by decide +kernel
theorem d_Mo_new_65 : decode b_Mo_new 65 = .ok (.putfield 35, 3) := by decide +kernel
theorem d_Mo_new_68 : decode b_Mo_new 68 = .ok (.aload_n 1, 1) := by decide +kernel
theorem d_Mo_new_69 : decode b_Mo_new 69 = .ok (.aload_n 0, 1) := by decide +kernel
theorem d_Mo_new_70 : decode b_Mo_new 70 = .ok (.getfield 11, 3) := by decide +kernel
theorem d_Mo_new_73 : decode b_Mo_new 73 = .ok (.invokestatic 38, 3) := by decide +kernel
theorem d_Mo_new_76 : decode b_Mo_new 76 = .ok (.aload_n 0, 1) := by decide +kernel
theorem d_Mo_new_77 : decode b_Mo_new 77 = .ok (.getfield 11, 3) := by decide +kernel
theorem d_Mo_new_80 : decode b_Mo_new 80 = .ok (.aload_n 0, 1) := by decide +kernel
theorem d_Mo_new_81 : decode b_Mo_new 81 = .ok (.getfield 17, 3) := by decide +kernel
theorem d_Mo_new_84 : decode b_Mo_new 84 = .ok (.invokestatic 42, 3) := by decide +kernel
theorem d_Mo_new_87 : decode b_Mo_new 87 = .ok (.aload_n 0, 1) := by decide +kernel
theorem d_Mo_new_88 : decode b_Mo_new 88 = .ok (.getfield 17, 3) := by decide +kernel
theorem d_Mo_new_91 : decode b_Mo_new 91 = .ok (.iconst 0, 1) := by decide +kernel
theorem d_Mo_new_92 : decode b_Mo_new 92 = .ok (.dup2, 1) := by decide +kernel
theorem d_Mo_new_93 : decode b_Mo_new 93 = .ok (.laload, 1) := by decide +kernel
theorem d_Mo_new_94 : decode b_Mo_new 94 = .ok (.ldc2_w 46, 3) := by decide +kernel
theorem d_Mo_new_97 : decode b_Mo_new 97 = .ok (.lsub, 1) := by decide +kernel
theorem d_Mo_new_98 : decode b_Mo_new 98 = .ok (.lastore, 1) := by decide +kernel
theorem d_Mo_new_99 : decode b_Mo_new 99 = .ok (.aload_n 0, 1) := by decide +kernel
theorem d_Mo_new_100 : decode b_Mo_new 100 = .ok (.getfield 20, 3) := by decide +kernel
theorem d_Mo_new_103 : decode b_Mo_new 103 = .ok (.iconst 0, 1) := by decide +kernel
theorem d_Mo_new_104 : decode b_Mo_new 104 = .ok (.lconst 1, 1) := by decide +kernel
theorem d_Mo_new_105 : decode b_Mo_new 105 = .ok (.lastore, 1) := by decide +kernel
theorem d_Mo_new_106 : decode b_Mo_new 106 = .ok (.aload_n 0, 1) := by decide +kernel
theorem d_Mo_new_107 : decode b_Mo_new 107 = .ok (.getfield 20, 3) := by decide +kernel
theorem d_Mo_new_110 : decode b_Mo_new 110 = .ok (.aload_n 0, 1) := by decide +kernel
theorem d_Mo_new_111 : decode b_Mo_new 111 = .ok (.getfield 23, 3) := by decide +kernel
theorem d_Mo_new_114 : decode b_Mo_new 114 = .ok (.invokestatic 42, 3) := by decide +kernel
theorem d_Mo_new_117 : decode b_Mo_new 117 = .ok (.iconst 0, 1) := by decide +kernel
theorem d_Mo_new_118 : decode b_Mo_new 118 = .ok (.istore_n 2, 1) := by decide +kernel
theorem d_Mo_new_119 : decode b_Mo_new 119 = .ok (.iload_n 2, 1) := by decide +kernel
theorem d_Mo_new_120 : decode b_Mo_new 120 = .ok (.sipush 261, 3) := by decide +kernel
theorem d_Mo_new_123 : decode b_Mo_new 123 = .ok (.if_icmp .ge 25, 3) := by decide +kernel
theorem d_Mo_new_126 : decode b_Mo_new 126 = .ok (.aload_n 0, 1) := by decide +kernel
theorem d_Mo_new_127 : decode b_Mo_new 127 = .ok (.aload_n 0, 1) := by decide +kernel
theorem d_Mo_new_128 : decode b_Mo_new 128 = .ok (.getfield 23, 3) := by decide +kernel
theorem d_Mo_new_131 : decode b_Mo_new 131 = .ok (.aload_n 0, 1) := by decide +kernel
theorem d_Mo_new_132 : decode b_Mo_new 132 = .ok (.getfield 23, 3) := by decide +kernel
theorem d_Mo_new_135 : decode b_Mo_new 135 = .ok (.aload_n 0, 1) := by decide +kernel
theorem d_Mo_new_136 : decode b_Mo_new 136 = .ok (.getfield 23, 3) := by decide +kernel
theorem d_Mo_new_139 : decode b_Mo_new 139 = .ok (.invokevirtual 48, 3) := by decide +kernel
theorem d_Mo_new_142 : decode b_Mo_new 142 = .ok (.iinc 2 1, 3) := by decide +kernel
theorem d_Mo_new_145 : decode b_Mo_new 145 = .ok (.goto (-26), 3) := by decide +kernel
theorem d_Mo_new_148 : decode b_Mo_new 148 = .ok (.aload_n 0, 1) := by decide +kernel
theorem d_Mo_new_149 : decode b_Mo_new 149 = .ok (.getfield 23, 3) := by decide +kernel
theorem d_Mo_new_152 : decode b_Mo_new 152 = .ok (.aload_n 0, 1) := by decide +kernel
theorem d_Mo_new_153 : decode b_Mo_new 153 = .ok (.getfield 26, 3) := by decide +kernel
theorem d_Mo_new_156 : decode b_Mo_new 156 = .ok (.invokestatic 42, 3) := by decide +kernel
theorem d_Mo_new_159 : decode b_Mo_new 159 = .ok (.iconst 0, 1) := by decide +kernel
theorem d_Mo_new_160 : decode b_Mo_new 160 = .ok (.istore_n 2, 1) := by decide +kernel
theorem d_Mo_new_161 : decode b_Mo_new 161 = .ok (.iload_n 2, 1) := by decide +kernel
theorem d_Mo_new_162 : decode b_Mo_new 162 = .ok (.sipush 261, 3) := by decide +kernel
theorem d_Mo_new_165 : decode b_Mo_new 165 = .ok (.if_icmp .ge 25, 3) := by decide +kernel
theorem d_Mo_new_168 : decode b_Mo_new 168 = .ok (.aload_n 0, 1) := by decide +kernel
theorem d_Mo_new_169 : decode b_Mo_new 169 = .ok (.aload_n 0, 1) := by decide +kernel
theorem d_Mo_new_170 : decode b_Mo_new 170 = .ok (.getfield 26, 3) := by decide +kernel
theorem d_Mo_new_173 : decode b_Mo_new 173 = .ok (.aload_n 0, 1) := by decide +kernel
theorem d_Mo_new_174 : decode b_Mo_new 174 = .ok (.getfield 26, 3) := by decide +kernel
theorem d_Mo_new_177 : decode b_Mo_new 177 = .ok (.aload_n 0, 1) := by decide +kernel
theorem d_Mo_new_178 : decode b_Mo_new 178 = .ok (.getfield 26, 3) := by decide +kernel
theorem d_Mo_new_181 : decode b_Mo_new 181 = .ok (.invokevirtual 48, 3) := by decide +kernel
theorem d_Mo_new_184 : decode b_Mo_new 184 = .ok (.iinc 2 1, 3) := by decide +kernel
theorem d_Mo_new_187 : decode b_Mo_new 187 = .ok (.goto (-26), 3) := by decide +kernel
theorem d_Mo_new_190 : decode b_Mo_new 190 = .ok (.lconst 1, 1) := by decide +kernel
theorem d_Mo_new_191 : decode b_Mo_new 191 = .ok (.lstore_n 2, 1) := by decide +kernel
theorem d_Mo_new_192 : decode b_Mo_new 192 = .ok (.iconst 0, 1) := by decide +kernel
theorem d_Mo_new_193 : decode b_Mo_new 193 = .ok (.istore 4, 2) := by decide +kernel
theorem d_Mo_new_195 : decode b_Mo_new 195 = .ok (.iload 4, 2) := by decide +kernel
theorem d_Mo_new_197 : decode b_Mo_new 197 = .ok (.iconst 5, 1) := by decide +kernel
theorem d_Mo_new_198 : decode b_Mo_new 198 = .ok (.if_icmp .ge 24, 3) := by decide +kernel
theorem d_Mo_new_201 : decode b_Mo_new 201 = .ok (.lload_n 2, 1) := by decide +kernel
theorem d_Mo_new_202 : decode b_Mo_new 202 = .ok (.ldc2_w 46, 3) := by decide +kernel
theorem d_Mo_new_205 : decode b_Mo_new 205 = .ok (.aload_n 0, 1) := by decide +kernel
theorem d_Mo_new_206 : decode b_Mo_new 206 = .ok (.getfield 11, 3) := by decide +kernel
theorem d_Mo_new_209 : decode b_Mo_new 209 = .ok (.iconst 0, 1) := by decide +kernel
theorem d_Mo_new_210 : decode b_Mo_new 210 = .ok (.laload, 1) := by decide +kernel
theorem d_Mo_new_211 : decode b_Mo_new 211 = .ok (.lload_n 2, 1) := by decide +kernel
theorem d_Mo_new_212 : decode b_Mo_new 212 = .ok (.lmul, 1) := by decide +kernel
theorem d_Mo_new_213 : decode b_Mo_new 213 = .ok (.lsub, 1) := by decide +kernel
theorem d_Mo_new_214 : decode b_Mo_new 214 = .ok (.lmul, 1) := by decide +kernel
theorem d_Mo_new_215 : decode b_Mo_new 215 = .ok (.lstore_n 2, 1) := by decide +kernel
theorem d_Mo_new_216 : decode b_Mo_new 216 = .ok (.iinc 4 1, 3) := by decide +kernel
theorem d_Mo_new_219 : decode b_Mo_new 219 = .ok (.goto (-24), 3) := by decide +kernel
theorem d_Mo_new_222 : decode b_Mo_new 222 = .ok (.aload_n 0, 1) := by decide +kernel
theorem d_Mo_new_223 : decode b_Mo_new 223 = .ok (.lload_n 2, 1) := by decide +kernel
theorem d_Mo_new_224 : decode b_Mo_new 224 = .ok (.lneg, 1) := by decide +kernel
theorem d_Mo_new_225 : decode b_Mo_new 225 = .ok (.ldc2_w 52, 3) := by decide +kernel
theorem d_Mo_new_228 : decode b_Mo_new 228 = .ok (.land, 1) := by decide +kernel
theorem d_Mo_new_229 : decode b_Mo_new 229 = .ok (.putfield 54, 3) := by decide +kernel
theorem d_Mo_new_232 : decode b_Mo_new 232 = .ok (.return_, 1) := by decide +kernel
theorem fp_Mo_11 : FP "PrimeKeys$Modulus" 11 1 0 (.array .long) true := ⟨R_Mo, F_Mo, 9, t_Mo, rfl, u_Mo, by decide, rfl, tb_1 (List.mem_of_getElem? (i := 104) (by decide +kernel)) rfl, t_Mo_ok, n_Mo, rfl, by decide +kernel⟩
theorem fp_Mo_17 : FP "PrimeKeys$Modulus" 17 1 1 (.array .long) true := ⟨R_Mo, F_Mo, 9, t_Mo, rfl, u_Mo, by decide, rfl, tb_1 (List.mem_of_getElem? (i := 105) (by decide +kernel)) rfl, t_Mo_ok, n_Mo, rfl, by decide +kernel⟩
theorem fp_Mo_20 : FP "PrimeKeys$Modulus" 20 1 2 (.array .long) true := ⟨R_Mo, F_Mo, 9, t_Mo, rfl, u_Mo, by decide, rfl, tb_1 (List.mem_of_getElem? (i := 106) (by decide +kernel)) rfl, t_Mo_ok, n_Mo, rfl, by decide +kernel⟩
theorem fp_Mo_23 : FP "PrimeKeys$Modulus" 23 1 3 (.array .long) true := ⟨R_Mo, F_Mo, 9, t_Mo, rfl, u_Mo, by decide, rfl, tb_1 (List.mem_of_getElem? (i := 107) (by decide +kernel)) rfl, t_Mo_ok, n_Mo, rfl, by decide +kernel⟩
theorem fp_Mo_26 : FP "PrimeKeys$Modulus" 26 1 4 (.array .long) true := ⟨R_Mo, F_Mo, 9, t_Mo, rfl, u_Mo, by decide, rfl, tb_1 (List.mem_of_getElem? (i := 108) (by decide +kernel)) rfl, t_Mo_ok, n_Mo, rfl, by decide +kernel⟩
theorem fp_Mo_29 : FP "PrimeKeys$Modulus" 29 1 6 (.array .long) true := ⟨R_Mo, F_Mo, 9, t_Mo, rfl, u_Mo, by decide, rfl, tb_1 (List.mem_of_getElem? (i := 110) (by decide +kernel)) rfl, t_Mo_ok, n_Mo, rfl, by decide +kernel⟩
theorem fp_Mo_32 : FP "PrimeKeys$Modulus" 32 1 7 (.array .long) true := ⟨R_Mo, F_Mo, 9, t_Mo, rfl, u_Mo, by decide, rfl, tb_1 (List.mem_of_getElem? (i := 111) (by decide +kernel)) rfl, t_Mo_ok, n_Mo, rfl, by decide +kernel⟩
theorem fp_Mo_35 : FP "PrimeKeys$Modulus" 35 1 8 (.array .long) true := ⟨R_Mo, F_Mo, 9, t_Mo, rfl, u_Mo, by decide, rfl, tb_1 (List.mem_of_getElem? (i := 112) (by decide +kernel)) rfl, t_Mo_ok, n_Mo, rfl, by decide +kernel⟩
theorem fp_Mo_54 : FP "PrimeKeys$Modulus" 54 1 5 .long true := ⟨R_Mo, F_Mo, 9, t_Mo, rfl, u_Mo, by decide, rfl, tb_1 (List.mem_of_getElem? (i := 109) (by decide +kernel)) rfl, t_Mo_ok, n_Mo, rfl, by decide +kernel⟩
theorem kw_4 : Cond.methodLink "PrimeKeys$Modulus" 5 Lib.objectInit ∈ TB := tb_1 (List.mem_of_getElem? (i := 69) (by decide +kernel)) rfl
theorem kw_5 : Cond.constantLong "PrimeKeys$Modulus" 46 2 ∈ TB := tb_1 (List.mem_of_getElem? (i := 89) (by decide +kernel)) rfl
theorem cd_Mo_48 : CD "PrimeKeys$Modulus" 48 y_Mo_add b_Mo_add 7 none 3 := ⟨tb_1 (List.mem_of_getElem? (i := 93) rfl) rfl, tb_1 (List.mem_of_getElem? (i := 4) (by decide +kernel)) rfl, tb_1 (List.mem_of_getElem? (i := 90) (by decide +kernel)) rfl, by decide +kernel⟩
theorem kw_in_Mo_add : Cond.instanceMethod y_Mo_add ∈ TB := tb_1 (List.mem_of_getElem? (i := 91) (by decide +kernel)) rfl
theorem kw_se_Mo_add : Cond.selects "PrimeKeys$Modulus" y_Mo_add y_Mo_add ∈ TB := tb_1 (List.mem_of_getElem? (i := 92) (by decide +kernel)) rfl
theorem cd_Mo_38 : CD "PrimeKeys$Modulus" 38 y_Li_readWords b_Li_readWords 4 none 2 := ⟨tb_1 (List.mem_of_getElem? (i := 72) rfl) rfl, tb_1 (List.mem_of_getElem? (i := 5) (by decide +kernel)) rfl, tb_1 (List.mem_of_getElem? (i := 70) (by decide +kernel)) rfl, by decide +kernel⟩
theorem kw_st_Li_readWords : Cond.static y_Li_readWords ∈ TB := tb_1 (List.mem_of_getElem? (i := 71) (by decide +kernel)) rfl
abbrev rm_Mo_new : Room := { frames := 3, cells := 9, slots := 112, locals := 74 }
def B_Mo_new_195 (K119 : HP → Nat → Int32 → Option (HP)) (K161 : HP → Nat → Int32 → Option (HP)) (K195 : HP → Nat → Int64 → Int32 → Option (HP)) (h : HP) (a0 : Nat) (a2 : Int64) (a4 : Int32) : Option (HP) :=
  if 5 ≤ a4 then
  bnd (pV h a0 1 5 (.long ((-a2) &&& 536870911))) fun h41 =>
  some h41
  else
  bnd (gR h a0 1 0) fun k42 =>
  bnd (ldJ h k42 0) fun v43 =>
  lt (a2 * (2 - (v43 * a2))) fun x44 =>
  lt (a4 + Int32.ofInt 1) fun x45 =>
  K195 h a0 x44 x45
set_option maxHeartbeats 4000000 in
set_option maxRecDepth 100000 in
theorem bk_Mo_new_195 {l : Launch} {x : CX} {h0 h' : HP} (C : EV x b_Mo_new "PrimeKeys$Modulus" 5 rm_Mo_new) (T : CT x (none) rm_Mo_new h0 none h') (hl0 : x.1.2.1 = l) (hin : x.2.1.2.2.2.1.name = "<init>") (K119 : HP → Nat → Int32 → Option (HP)) (K161 : HP → Nat → Int32 → Option (HP)) (K195 : HP → Nat → Int64 → Int32 → Option (HP)) (hK119 : ∀ (h : HP) (a0 : Nat) (a2 : Int32), K119 h a0 a2 = some h' → GG x 9 112 h 119 [(0, .ref a0), (2, .int a2)] []) (hK161 : ∀ (h : HP) (a0 : Nat) (a2 : Int32), K161 h a0 a2 = some h' → GG x 9 112 h 161 [(0, .ref a0), (2, .int a2)] []) (hK195 : ∀ (h : HP) (a0 : Nat) (a2 : Int64) (a4 : Int32), K195 h a0 a2 a4 = some h' → GG x 9 112 h 195 [(0, .ref a0), (2, .long a2), (4, .int a4)] []) (h : HP) (a0 : Nat) (a2 : Int64) (a4 : Int32) (hr : B_Mo_new_195 K119 K161 K195 h a0 a2 a4 = some h') : GG x 9 112 h 195 [(0, .ref a0), (2, .long a2), (4, .int a4)] [] := by
  unfold B_Mo_new_195 at hr
  refine g_iload C 2 rfl d_Mo_new_195 ?_
  refine g_iconst (v := 5) C d_Mo_new_197 (by decide) ?_
  refine g_icmp_ge (tgt := 222) C d_Mo_new_198 (by decide) (fun z => ?_) (fun z => ?_)
  · have hr := of_if z hr
    refine g_aload_n C 0 rfl d_Mo_new_222 rfl ?_
    refine g_lload_n C 1 rfl d_Mo_new_223 rfl ?_
    refine g_lneg C d_Mo_new_224 ?_
    refine g_ldc2 (v := 536870911) C d_Mo_new_225 kw_2 ?_
    refine g_land C d_Mo_new_228 ?_
    obtain ⟨h41, eh41, hr⟩ := of_bnd hr
    refine g_putF C fp_Mo_54 hin rfl eh41 (fun _ => rfl) (fun _ => rfl) d_Mo_new_229 ?_
    cases hr
    exact g_vreturn C T (by decide) (by decide) d_Mo_new_232
  · have hr := of_el z hr
    refine g_lload_n C 1 rfl d_Mo_new_201 rfl ?_
    refine g_ldc2 (v := 2) C d_Mo_new_202 kw_5 ?_
    refine g_aload_n C 0 rfl d_Mo_new_205 rfl ?_
    obtain ⟨k42, ek42, hr⟩ := of_bnd hr
    refine g_getR C fl_Mo_11 ek42 d_Mo_new_206 ?_
    refine g_iconst (v := 0) C d_Mo_new_209 (by decide) ?_
    obtain ⟨v43, ev43, hr⟩ := of_bnd hr
    refine g_laload C ev43 d_Mo_new_210 ?_
    refine g_lload_n C 1 rfl d_Mo_new_211 rfl ?_
    refine g_lmul C d_Mo_new_212 ?_
    refine g_lsub C d_Mo_new_213 ?_
    refine g_lmul C d_Mo_new_214 ?_
    refine g_topl (fun x44 ex44 => ?_)
    have hr := of_lt ex44 hr
    refine g_lstore_n (lv' := [(2, .long x44), (0, .ref a0), (4, .int a4)]) C d_Mo_new_215 rfl (by decide) rfl ?_
    obtain ⟨x45, ex45⟩ : ∃ z, z = a4 + Int32.ofInt 1 := ⟨_, rfl⟩
    have hr := of_lt ex45 hr
    refine g_iinc (lv' := [(4, .int x45), (2, .long x44), (0, .ref a0)]) C 2 rfl d_Mo_new_216 ex45.symm (by decide) rfl ?_
    refine g_goto (tgt := 195) C d_Mo_new_219 (by decide) ?_
    refine g_lv [2, 1, 0] rfl ?_
    exact hK195 h a0 x44 x45 hr
def L_Mo_new_195 (K119 : HP → Nat → Int32 → Option (HP)) (K161 : HP → Nat → Int32 → Option (HP)) : Nat → HP → Nat → Int64 → Int32 → Option (HP)
  | 0, _, _, _, _ => none
  | f + 1, h, a0, a2, a4 => B_Mo_new_195 K119 K161 (L_Mo_new_195 K119 K161 f) h a0 a2 a4
theorem lp_Mo_new_195 {l : Launch} {x : CX} {h0 h' : HP} (C : EV x b_Mo_new "PrimeKeys$Modulus" 5 rm_Mo_new) (T : CT x (none) rm_Mo_new h0 none h') (hl0 : x.1.2.1 = l) (hin : x.2.1.2.2.2.1.name = "<init>") (K119 : HP → Nat → Int32 → Option (HP)) (K161 : HP → Nat → Int32 → Option (HP)) (hK119 : ∀ (h : HP) (a0 : Nat) (a2 : Int32), K119 h a0 a2 = some h' → GG x 9 112 h 119 [(0, .ref a0), (2, .int a2)] []) (hK161 : ∀ (h : HP) (a0 : Nat) (a2 : Int32), K161 h a0 a2 = some h' → GG x 9 112 h 161 [(0, .ref a0), (2, .int a2)] []) : ∀ (f : Nat) (h : HP) (a0 : Nat) (a2 : Int64) (a4 : Int32), L_Mo_new_195 K119 K161 f h a0 a2 a4 = some h' → GG x 9 112 h 195 [(0, .ref a0), (2, .long a2), (4, .int a4)] [] := by
  intro f
  induction f with
  | zero => intro h a0 a2 a4 hr; have hr : (none : Option (HP)) = some h' := hr; cases hr
  | succ f ih => intro h a0 a2 a4 hr; exact bk_Mo_new_195 C T hl0 hin K119 K161 (L_Mo_new_195 K119 K161 f) hK119 hK161 ih h a0 a2 a4 hr
def B_Mo_new_161 (K119 : HP → Nat → Int32 → Option (HP)) (K161 : HP → Nat → Int32 → Option (HP)) (h : HP) (a0 : Nat) (a2 : Int32) : Option (HP) :=
  if 261 ≤ a2 then
  L_Mo_new_195 K119 K161 FU h a0 1 0
  else
  bnd (gR h a0 1 4) fun k46 =>
  bnd (gR h a0 1 4) fun k47 =>
  bnd (gR h a0 1 4) fun k48 =>
  ob h a0 1 (
  bnd (P_Mo_add h a0 k46 k47 k48) fun h49 =>
  lt (a2 + Int32.ofInt 1) fun x50 =>
  K161 h49 a0 x50)
set_option maxHeartbeats 4000000 in
set_option maxRecDepth 100000 in
theorem bk_Mo_new_161 {l : Launch} {x : CX} {h0 h' : HP} (C : EV x b_Mo_new "PrimeKeys$Modulus" 5 rm_Mo_new) (T : CT x (none) rm_Mo_new h0 none h') (hl0 : x.1.2.1 = l) (hin : x.2.1.2.2.2.1.name = "<init>") (K119 : HP → Nat → Int32 → Option (HP)) (K161 : HP → Nat → Int32 → Option (HP)) (hK119 : ∀ (h : HP) (a0 : Nat) (a2 : Int32), K119 h a0 a2 = some h' → GG x 9 112 h 119 [(0, .ref a0), (2, .int a2)] []) (hK161 : ∀ (h : HP) (a0 : Nat) (a2 : Int32), K161 h a0 a2 = some h' → GG x 9 112 h 161 [(0, .ref a0), (2, .int a2)] []) (h : HP) (a0 : Nat) (a2 : Int32) (hr : B_Mo_new_161 K119 K161 h a0 a2 = some h') : GG x 9 112 h 161 [(0, .ref a0), (2, .int a2)] [] := by
  unfold B_Mo_new_161 at hr
  refine g_iload_n C 1 rfl d_Mo_new_161 rfl ?_
  refine g_sipush (v := 261) C d_Mo_new_162 (by decide) ?_
  refine g_icmp_ge (tgt := 190) C d_Mo_new_165 (by decide) (fun z => ?_) (fun z => ?_)
  · have hr := of_if z hr
    refine g_lconst (v := 1) C d_Mo_new_190 (by decide) ?_
    refine g_lstore_n (lv' := [(2, .long 1), (0, .ref a0)]) C d_Mo_new_191 rfl (by decide) rfl ?_
    refine g_iconst (v := 0) C d_Mo_new_192 (by decide) ?_
    refine g_istore (lv' := [(4, .int 0), (2, .long 1), (0, .ref a0)]) C d_Mo_new_193 (by decide) rfl ?_
    refine g_lv [2, 1, 0] rfl ?_
    exact lp_Mo_new_195 C T hl0 hin K119 K161 hK119 hK161 FU h a0 1 0 hr
  · have hr := of_el z hr
    refine g_aload_n C 0 rfl d_Mo_new_168 rfl ?_
    refine g_aload_n C 0 rfl d_Mo_new_169 rfl ?_
    obtain ⟨k46, ek46, hr⟩ := of_bnd hr
    refine g_getR C fl_Mo_26 ek46 d_Mo_new_170 ?_
    refine g_aload_n C 0 rfl d_Mo_new_173 rfl ?_
    obtain ⟨k47, ek47, hr⟩ := of_bnd hr
    refine g_getR C fl_Mo_26 ek47 d_Mo_new_174 ?_
    refine g_aload_n C 0 rfl d_Mo_new_177 rfl ?_
    obtain ⟨k48, ek48, hr⟩ := of_bnd hr
    refine g_getR C fl_Mo_26 ek48 d_Mo_new_178 ?_
    obtain ⟨fsh49, hoh49, hr⟩ := of_ob hr
    obtain ⟨h49, eh49, hr⟩ := of_bnd hr
    refine g_callV (pa := [.ref k46, .ref k47, .ref k48]) C hl0 (c_Mo_add eh49) cd_Mo_48 kw_in_Mo_add kw_se_Mo_add hoh49 rfl rfl (by decide) rfl rfl (Nat.le_of_ble_eq_true rfl) d_Mo_new_181 ?_
    obtain ⟨x50, ex50⟩ : ∃ z, z = a2 + Int32.ofInt 1 := ⟨_, rfl⟩
    have hr := of_lt ex50 hr
    refine g_iinc (lv' := [(2, .int x50), (0, .ref a0)]) C 1 rfl d_Mo_new_184 ex50.symm (by decide) rfl ?_
    refine g_goto (tgt := 161) C d_Mo_new_187 (by decide) ?_
    refine g_lv [1, 0] rfl ?_
    exact hK161 h49 a0 x50 hr
def L_Mo_new_161 (K119 : HP → Nat → Int32 → Option (HP)) : Nat → HP → Nat → Int32 → Option (HP)
  | 0, _, _, _ => none
  | f + 1, h, a0, a2 => B_Mo_new_161 K119 (L_Mo_new_161 K119 f) h a0 a2
theorem lp_Mo_new_161 {l : Launch} {x : CX} {h0 h' : HP} (C : EV x b_Mo_new "PrimeKeys$Modulus" 5 rm_Mo_new) (T : CT x (none) rm_Mo_new h0 none h') (hl0 : x.1.2.1 = l) (hin : x.2.1.2.2.2.1.name = "<init>") (K119 : HP → Nat → Int32 → Option (HP)) (hK119 : ∀ (h : HP) (a0 : Nat) (a2 : Int32), K119 h a0 a2 = some h' → GG x 9 112 h 119 [(0, .ref a0), (2, .int a2)] []) : ∀ (f : Nat) (h : HP) (a0 : Nat) (a2 : Int32), L_Mo_new_161 K119 f h a0 a2 = some h' → GG x 9 112 h 161 [(0, .ref a0), (2, .int a2)] [] := by
  intro f
  induction f with
  | zero => intro h a0 a2 hr; have hr : (none : Option (HP)) = some h' := hr; cases hr
  | succ f ih => intro h a0 a2 hr; exact bk_Mo_new_161 C T hl0 hin K119 (L_Mo_new_161 K119 f) hK119 ih h a0 a2 hr
def B_Mo_new_119 (K119 : HP → Nat → Int32 → Option (HP)) (h : HP) (a0 : Nat) (a2 : Int32) : Option (HP) :=
  if 261 ≤ a2 then
  bnd (gR h a0 1 3) fun k38 =>
  bnd (gR h a0 1 4) fun k39 =>
  bnd (P_Li_copy h k38 k39) fun h40 =>
  L_Mo_new_161 K119 FU h40 a0 0
  else
  bnd (gR h a0 1 3) fun k51 =>
  bnd (gR h a0 1 3) fun k52 =>
  bnd (gR h a0 1 3) fun k53 =>
  ob h a0 1 (
  bnd (P_Mo_add h a0 k51 k52 k53) fun h54 =>
  lt (a2 + Int32.ofInt 1) fun x55 =>
  K119 h54 a0 x55)
set_option maxHeartbeats 4000000 in
set_option maxRecDepth 100000 in
theorem bk_Mo_new_119 {l : Launch} {x : CX} {h0 h' : HP} (C : EV x b_Mo_new "PrimeKeys$Modulus" 5 rm_Mo_new) (T : CT x (none) rm_Mo_new h0 none h') (hl0 : x.1.2.1 = l) (hin : x.2.1.2.2.2.1.name = "<init>") (K119 : HP → Nat → Int32 → Option (HP)) (hK119 : ∀ (h : HP) (a0 : Nat) (a2 : Int32), K119 h a0 a2 = some h' → GG x 9 112 h 119 [(0, .ref a0), (2, .int a2)] []) (h : HP) (a0 : Nat) (a2 : Int32) (hr : B_Mo_new_119 K119 h a0 a2 = some h') : GG x 9 112 h 119 [(0, .ref a0), (2, .int a2)] [] := by
  unfold B_Mo_new_119 at hr
  refine g_iload_n C 1 rfl d_Mo_new_119 rfl ?_
  refine g_sipush (v := 261) C d_Mo_new_120 (by decide) ?_
  refine g_icmp_ge (tgt := 148) C d_Mo_new_123 (by decide) (fun z => ?_) (fun z => ?_)
  · have hr := of_if z hr
    refine g_aload_n C 0 rfl d_Mo_new_148 rfl ?_
    obtain ⟨k38, ek38, hr⟩ := of_bnd hr
    refine g_getR C fl_Mo_23 ek38 d_Mo_new_149 ?_
    refine g_aload_n C 0 rfl d_Mo_new_152 rfl ?_
    obtain ⟨k39, ek39, hr⟩ := of_bnd hr
    refine g_getR C fl_Mo_26 ek39 d_Mo_new_153 ?_
    obtain ⟨h40, eh40, hr⟩ := of_bnd hr
    refine g_callS (pa := [.ref k38, .ref k39]) C hl0 (c_Li_copy eh40) cd_Mo_42 kw_st_Li_copy (by decide) rfl rfl (Nat.le_of_ble_eq_true rfl) d_Mo_new_156 ?_
    refine g_iconst (v := 0) C d_Mo_new_159 (by decide) ?_
    refine g_istore_n (lv' := [(2, .int 0), (0, .ref a0)]) C d_Mo_new_160 rfl (by decide) rfl ?_
    refine g_lv [1, 0] rfl ?_
    exact lp_Mo_new_161 C T hl0 hin K119 hK119 FU h40 a0 0 hr
  · have hr := of_el z hr
    refine g_aload_n C 0 rfl d_Mo_new_126 rfl ?_
    refine g_aload_n C 0 rfl d_Mo_new_127 rfl ?_
    obtain ⟨k51, ek51, hr⟩ := of_bnd hr
    refine g_getR C fl_Mo_23 ek51 d_Mo_new_128 ?_
    refine g_aload_n C 0 rfl d_Mo_new_131 rfl ?_
    obtain ⟨k52, ek52, hr⟩ := of_bnd hr
    refine g_getR C fl_Mo_23 ek52 d_Mo_new_132 ?_
    refine g_aload_n C 0 rfl d_Mo_new_135 rfl ?_
    obtain ⟨k53, ek53, hr⟩ := of_bnd hr
    refine g_getR C fl_Mo_23 ek53 d_Mo_new_136 ?_
    obtain ⟨fsh54, hoh54, hr⟩ := of_ob hr
    obtain ⟨h54, eh54, hr⟩ := of_bnd hr
    refine g_callV (pa := [.ref k51, .ref k52, .ref k53]) C hl0 (c_Mo_add eh54) cd_Mo_48 kw_in_Mo_add kw_se_Mo_add hoh54 rfl rfl (by decide) rfl rfl (Nat.le_of_ble_eq_true rfl) d_Mo_new_139 ?_
    obtain ⟨x55, ex55⟩ : ∃ z, z = a2 + Int32.ofInt 1 := ⟨_, rfl⟩
    have hr := of_lt ex55 hr
    refine g_iinc (lv' := [(2, .int x55), (0, .ref a0)]) C 1 rfl d_Mo_new_142 ex55.symm (by decide) rfl ?_
    refine g_goto (tgt := 119) C d_Mo_new_145 (by decide) ?_
    refine g_lv [1, 0] rfl ?_
    exact hK119 h54 a0 x55 hr
def L_Mo_new_119 : Nat → HP → Nat → Int32 → Option (HP)
  | 0, _, _, _ => none
  | f + 1, h, a0, a2 => B_Mo_new_119 (L_Mo_new_119 f) h a0 a2
theorem lp_Mo_new_119 {l : Launch} {x : CX} {h0 h' : HP} (C : EV x b_Mo_new "PrimeKeys$Modulus" 5 rm_Mo_new) (T : CT x (none) rm_Mo_new h0 none h') (hl0 : x.1.2.1 = l) (hin : x.2.1.2.2.2.1.name = "<init>") : ∀ (f : Nat) (h : HP) (a0 : Nat) (a2 : Int32), L_Mo_new_119 f h a0 a2 = some h' → GG x 9 112 h 119 [(0, .ref a0), (2, .int a2)] [] := by
  intro f
  induction f with
  | zero => intro h a0 a2 hr; have hr : (none : Option (HP)) = some h' := hr; cases hr
  | succ f ih => intro h a0 a2 hr; exact bk_Mo_new_119 C T hl0 hin (L_Mo_new_119 f) ih h a0 a2 hr
def P_Mo_new (h : HP) (p0 : Nat) (p1 : Nat) : Option (HP) :=
  lt (h ++ [pJ 9 (fun _ => 0)]) fun h1 =>
  lt h.length fun k2 =>
  bnd (pV h1 p0 1 0 (.ref k2)) fun h3 =>
  lt (h3 ++ [pJ 9 (fun _ => 0)]) fun h4 =>
  lt h3.length fun k5 =>
  bnd (pV h4 p0 1 1 (.ref k5)) fun h6 =>
  lt (h6 ++ [pJ 9 (fun _ => 0)]) fun h7 =>
  lt h6.length fun k8 =>
  bnd (pV h7 p0 1 2 (.ref k8)) fun h9 =>
  lt (h9 ++ [pJ 9 (fun _ => 0)]) fun h10 =>
  lt h9.length fun k11 =>
  bnd (pV h10 p0 1 3 (.ref k11)) fun h12 =>
  lt (h12 ++ [pJ 9 (fun _ => 0)]) fun h13 =>
  lt h12.length fun k14 =>
  bnd (pV h13 p0 1 4 (.ref k14)) fun h15 =>
  lt (h15 ++ [pJ 17 (fun _ => 0)]) fun h16 =>
  lt h15.length fun k17 =>
  bnd (pV h16 p0 1 6 (.ref k17)) fun h18 =>
  lt (h18 ++ [pJ 9 (fun _ => 0)]) fun h19 =>
  lt h18.length fun k20 =>
  bnd (pV h19 p0 1 7 (.ref k20)) fun h21 =>
  lt (h21 ++ [pJ 9 (fun _ => 0)]) fun h22 =>
  lt h21.length fun k23 =>
  bnd (pV h22 p0 1 8 (.ref k23)) fun h24 =>
  bnd (gR h24 p0 1 0) fun k25 =>
  bnd (P_Li_readWords h24 p1 k25) fun h26 =>
  bnd (gR h26 p0 1 0) fun k27 =>
  bnd (gR h26 p0 1 1) fun k28 =>
  bnd (P_Li_copy h26 k27 k28) fun h29 =>
  bnd (gR h29 p0 1 1) fun k30 =>
  bnd (ldJ h29 k30 0) fun v31 =>
  bnd (stJ h29 k30 0 (v31 - 2)) fun h32 =>
  bnd (gR h32 p0 1 2) fun k33 =>
  bnd (stJ h32 k33 0 1) fun h34 =>
  bnd (gR h34 p0 1 2) fun k35 =>
  bnd (gR h34 p0 1 3) fun k36 =>
  bnd (P_Li_copy h34 k35 k36) fun h37 =>
  L_Mo_new_119 FU h37 p0 0
set_option maxHeartbeats 4000000 in
set_option maxRecDepth 100000 in
theorem c_Mo_new {l : Launch} {h h' : HP} {p0 p1 : _} (hr : P_Mo_new h p0 p1 = some h') : MP l y_Mo_new (Cond.code y_Mo_new b_Mo_new 5 none :: TB) rm_Mo_new h [.ref p0, .retAddr p1] none h' := by
  refine MP_intro (cc := b_Mo_new) (by decide) (Nat.le_of_ble_eq_true rfl) (fun x hl0 C T hin => ?_)
  unfold P_Mo_new at hr
  show GG x 0 0 h 0 [(0, .ref p0), (1, .retAddr p1)] []
  refine g_aload_n C 0 rfl d_Mo_new_0 rfl ?_
  refine g_objInit C kw_4 kw_oi kw_oc (by decide) (Nat.le_of_ble_eq_true rfl) d_Mo_new_1 ?_
  refine g_aload_n C 0 rfl d_Mo_new_4 rfl ?_
  refine g_bipush (v := 9) C d_Mo_new_5 (by decide) ?_
  obtain ⟨h1, eh1⟩ : ∃ z, z = h ++ [pJ 9 (fun _ => 0)] := ⟨_, rfl⟩
  have hr := of_lt eh1 hr
  obtain ⟨k2, ek2⟩ : ∃ z, z = h.length := ⟨_, rfl⟩
  have hr := of_lt ek2 hr
  refine g_newJE (n' := 9) C eh1 ek2 (by decide) (by decide) (by decide) (by decide) (by decide) d_Mo_new_7 ?_
  obtain ⟨h3, eh3, hr⟩ := of_bnd hr
  refine g_putF C fp_Mo_11 hin rfl eh3 (fun _ => rfl) (fun _ => rfl) d_Mo_new_9 ?_
  refine g_aload_n C 0 rfl d_Mo_new_12 rfl ?_
  refine g_bipush (v := 9) C d_Mo_new_13 (by decide) ?_
  obtain ⟨h4, eh4⟩ : ∃ z, z = h3 ++ [pJ 9 (fun _ => 0)] := ⟨_, rfl⟩
  have hr := of_lt eh4 hr
  obtain ⟨k5, ek5⟩ : ∃ z, z = h3.length := ⟨_, rfl⟩
  have hr := of_lt ek5 hr
  refine g_newJE (n' := 9) C eh4 ek5 (by decide) (by decide) (by decide) (by decide) (by decide) d_Mo_new_15 ?_
  obtain ⟨h6, eh6, hr⟩ := of_bnd hr
  refine g_putF C fp_Mo_17 hin rfl eh6 (fun _ => rfl) (fun _ => rfl) d_Mo_new_17 ?_
  refine g_aload_n C 0 rfl d_Mo_new_20 rfl ?_
  refine g_bipush (v := 9) C d_Mo_new_21 (by decide) ?_
  obtain ⟨h7, eh7⟩ : ∃ z, z = h6 ++ [pJ 9 (fun _ => 0)] := ⟨_, rfl⟩
  have hr := of_lt eh7 hr
  obtain ⟨k8, ek8⟩ : ∃ z, z = h6.length := ⟨_, rfl⟩
  have hr := of_lt ek8 hr
  refine g_newJE (n' := 9) C eh7 ek8 (by decide) (by decide) (by decide) (by decide) (by decide) d_Mo_new_23 ?_
  obtain ⟨h9, eh9, hr⟩ := of_bnd hr
  refine g_putF C fp_Mo_20 hin rfl eh9 (fun _ => rfl) (fun _ => rfl) d_Mo_new_25 ?_
  refine g_aload_n C 0 rfl d_Mo_new_28 rfl ?_
  refine g_bipush (v := 9) C d_Mo_new_29 (by decide) ?_
  obtain ⟨h10, eh10⟩ : ∃ z, z = h9 ++ [pJ 9 (fun _ => 0)] := ⟨_, rfl⟩
  have hr := of_lt eh10 hr
  obtain ⟨k11, ek11⟩ : ∃ z, z = h9.length := ⟨_, rfl⟩
  have hr := of_lt ek11 hr
  refine g_newJE (n' := 9) C eh10 ek11 (by decide) (by decide) (by decide) (by decide) (by decide) d_Mo_new_31 ?_
  obtain ⟨h12, eh12, hr⟩ := of_bnd hr
  refine g_putF C fp_Mo_23 hin rfl eh12 (fun _ => rfl) (fun _ => rfl) d_Mo_new_33 ?_
  refine g_aload_n C 0 rfl d_Mo_new_36 rfl ?_
  refine g_bipush (v := 9) C d_Mo_new_37 (by decide) ?_
  obtain ⟨h13, eh13⟩ : ∃ z, z = h12 ++ [pJ 9 (fun _ => 0)] := ⟨_, rfl⟩
  have hr := of_lt eh13 hr
  obtain ⟨k14, ek14⟩ : ∃ z, z = h12.length := ⟨_, rfl⟩
  have hr := of_lt ek14 hr
  refine g_newJE (n' := 9) C eh13 ek14 (by decide) (by decide) (by decide) (by decide) (by decide) d_Mo_new_39 ?_
  obtain ⟨h15, eh15, hr⟩ := of_bnd hr
  refine g_putF C fp_Mo_26 hin rfl eh15 (fun _ => rfl) (fun _ => rfl) d_Mo_new_41 ?_
  refine g_aload_n C 0 rfl d_Mo_new_44 rfl ?_
  refine g_bipush (v := 17) C d_Mo_new_45 (by decide) ?_
  obtain ⟨h16, eh16⟩ : ∃ z, z = h15 ++ [pJ 17 (fun _ => 0)] := ⟨_, rfl⟩
  have hr := of_lt eh16 hr
  obtain ⟨k17, ek17⟩ : ∃ z, z = h15.length := ⟨_, rfl⟩
  have hr := of_lt ek17 hr
  refine g_newJE (n' := 17) C eh16 ek17 (by decide) (by decide) (by decide) (by decide) (by decide) d_Mo_new_47 ?_
  obtain ⟨h18, eh18, hr⟩ := of_bnd hr
  refine g_putF C fp_Mo_29 hin rfl eh18 (fun _ => rfl) (fun _ => rfl) d_Mo_new_49 ?_
  refine g_aload_n C 0 rfl d_Mo_new_52 rfl ?_
  refine g_bipush (v := 9) C d_Mo_new_53 (by decide) ?_
  obtain ⟨h19, eh19⟩ : ∃ z, z = h18 ++ [pJ 9 (fun _ => 0)] := ⟨_, rfl⟩
  have hr := of_lt eh19 hr
  obtain ⟨k20, ek20⟩ : ∃ z, z = h18.length := ⟨_, rfl⟩
  have hr := of_lt ek20 hr
  refine g_newJE (n' := 9) C eh19 ek20 (by decide) (by decide) (by decide) (by decide) (by decide) d_Mo_new_55 ?_
  obtain ⟨h21, eh21, hr⟩ := of_bnd hr
  refine g_putF C fp_Mo_32 hin rfl eh21 (fun _ => rfl) (fun _ => rfl) d_Mo_new_57 ?_
  refine g_aload_n C 0 rfl d_Mo_new_60 rfl ?_
  refine g_bipush (v := 9) C d_Mo_new_61 (by decide) ?_
  obtain ⟨h22, eh22⟩ : ∃ z, z = h21 ++ [pJ 9 (fun _ => 0)] := ⟨_, rfl⟩
  have hr := of_lt eh22 hr
  obtain ⟨k23, ek23⟩ : ∃ z, z = h21.length := ⟨_, rfl⟩
  have hr := of_lt ek23 hr
  refine g_newJE (n' := 9) C eh22 ek23 (by decide) (by decide) (by decide) (by decide) (by decide) d_Mo_new_63 ?_
  obtain ⟨h24, eh24, hr⟩ := of_bnd hr
  refine g_putF C fp_Mo_35 hin rfl eh24 (fun _ => rfl) (fun _ => rfl) d_Mo_new_65 ?_
  refine g_aload_nT C 1 rfl d_Mo_new_68 rfl ?_
  refine g_aload_n C 0 rfl d_Mo_new_69 rfl ?_
  obtain ⟨k25, ek25, hr⟩ := of_bnd hr
  refine g_getR C fl_Mo_11 ek25 d_Mo_new_70 ?_
  obtain ⟨h26, eh26, hr⟩ := of_bnd hr
  refine g_callS (pa := [.retAddr p1, .ref k25]) C hl0 (c_Li_readWords eh26) cd_Mo_38 kw_st_Li_readWords (by decide) rfl rfl (Nat.le_of_ble_eq_true rfl) d_Mo_new_73 ?_
  refine g_aload_n C 0 rfl d_Mo_new_76 rfl ?_
  obtain ⟨k27, ek27, hr⟩ := of_bnd hr
  refine g_getR C fl_Mo_11 ek27 d_Mo_new_77 ?_
  refine g_aload_n C 0 rfl d_Mo_new_80 rfl ?_
  obtain ⟨k28, ek28, hr⟩ := of_bnd hr
  refine g_getR C fl_Mo_17 ek28 d_Mo_new_81 ?_
  obtain ⟨h29, eh29, hr⟩ := of_bnd hr
  refine g_callS (pa := [.ref k27, .ref k28]) C hl0 (c_Li_copy eh29) cd_Mo_42 kw_st_Li_copy (by decide) rfl rfl (Nat.le_of_ble_eq_true rfl) d_Mo_new_84 ?_
  refine g_aload_n C 0 rfl d_Mo_new_87 rfl ?_
  obtain ⟨k30, ek30, hr⟩ := of_bnd hr
  refine g_getR C fl_Mo_17 ek30 d_Mo_new_88 ?_
  refine g_iconst (v := 0) C d_Mo_new_91 (by decide) ?_
  refine g_dup2_11 C d_Mo_new_92 rfl rfl ?_
  obtain ⟨v31, ev31, hr⟩ := of_bnd hr
  refine g_laload C ev31 d_Mo_new_93 ?_
  refine g_ldc2 (v := 2) C d_Mo_new_94 kw_5 ?_
  refine g_lsub C d_Mo_new_97 ?_
  obtain ⟨h32, eh32, hr⟩ := of_bnd hr
  refine g_lastore C eh32 d_Mo_new_98 ?_
  refine g_aload_n C 0 rfl d_Mo_new_99 rfl ?_
  obtain ⟨k33, ek33, hr⟩ := of_bnd hr
  refine g_getR C fl_Mo_20 ek33 d_Mo_new_100 ?_
  refine g_iconst (v := 0) C d_Mo_new_103 (by decide) ?_
  refine g_lconst (v := 1) C d_Mo_new_104 (by decide) ?_
  obtain ⟨h34, eh34, hr⟩ := of_bnd hr
  refine g_lastore C eh34 d_Mo_new_105 ?_
  refine g_aload_n C 0 rfl d_Mo_new_106 rfl ?_
  obtain ⟨k35, ek35, hr⟩ := of_bnd hr
  refine g_getR C fl_Mo_20 ek35 d_Mo_new_107 ?_
  refine g_aload_n C 0 rfl d_Mo_new_110 rfl ?_
  obtain ⟨k36, ek36, hr⟩ := of_bnd hr
  refine g_getR C fl_Mo_23 ek36 d_Mo_new_111 ?_
  obtain ⟨h37, eh37, hr⟩ := of_bnd hr
  refine g_callS (pa := [.ref k35, .ref k36]) C hl0 (c_Li_copy eh37) cd_Mo_42 kw_st_Li_copy (by decide) rfl rfl (Nat.le_of_ble_eq_true rfl) d_Mo_new_114 ?_
  refine g_iconst (v := 0) C d_Mo_new_117 (by decide) ?_
  refine g_istore_n (lv' := [(2, .int 0), (0, .ref p0), (1, .retAddr p1)]) C d_Mo_new_118 rfl (by decide) rfl ?_
  refine g_lv [1, 0] rfl ?_
  exact lp_Mo_new_119 C T hl0 hin FU h37 p0 0 hr
end
section
/-! a copy out of a static table of ints -/
theorem i32_nn {z : Int32} (hz : ¬ z < 0) : z.toInt = (z.toNatClampNeg : Int) := by
  have h0 : (0 : Int) ≤ z.toInt := by simpa using Int32.le_iff_toInt_le.mp (Int32.not_lt.mp hz)
  show z.toInt = ((z.toInt.toNat : Nat) : Int)
  omega
theorem cpT_of {h h' : HP} {t b : Nat} {sp dp n : Int32} (e : cpT h t sp b dp n = some h') : ∃ n1 g, t < 7 ∧ h[b]? = some (pI n1 g) ∧ ¬ sp < 0 ∧ ¬ dp < 0 ∧ ¬ n < 0 ∧ sp.toNatClampNeg + n.toNatClampNeg ≤ (stab t).1 ∧ dp.toNatClampNeg + n.toNatClampNeg ≤ n1 ∧ h' = h.set b (pI n1 (va_cpy (stab t).2 g sp.toNatClampNeg dp.toNatClampNeg n.toNatClampNeg)) := by
  unfold cpT at e
  split at e
  · split at e
    · cases e
    · rename_i n1 g hb hc
      exact ⟨n1, g, Nat.lt_of_not_le fun z => hc (Or.inl z), hb, fun z => hc (Or.inr (Or.inl z)), fun z => hc (Or.inr (Or.inr (Or.inl z))), fun z => hc (Or.inr (Or.inr (Or.inr (Or.inl z)))), Nat.le_of_not_lt fun z => hc (Or.inr (Or.inr (Or.inr (Or.inr (Or.inl z))))), Nat.le_of_not_lt fun z => hc (Or.inr (Or.inr (Or.inr (Or.inr (Or.inr z))))), (Option.some.inj e).symm⟩
  · cases e
set_option maxHeartbeats 4000000 in
theorem g_copyT {x : CX} {cc : ByteArray} {own : String} {N : Nat} {rm : Room} {cells slots pc : Nat} {h h' : HP} {lv : List (Nat × Value)} {st : List Value} (C : EV x cc own N rm) {idx t b : Nat} {sp dp n : Int32} (e : cpT h t sp b dp n = some h') (w : Cond.methodLink own idx arraycopyName ∈ TB) (hf : 1 ≤ rm.frames) (hw : (st.map fun v => v.category).sum + (nativeFrameWords "java/lang/System" "arraycopy" 5 + 11) ≤ rm.locals) (d : decode cc pc = .ok (.invokestatic idx, 3)) (kk : GG x cells slots h' (pc + 3) lv st) : GG x cells slots h pc lv (.int n :: .int dp :: .ref b :: .int sp :: .retAddr t :: st) := by
  obtain ⟨n1, g, h7, hb, c1, c2, c3, c4, c5, rfl⟩ := cpT_of e
  intro ad H locs ls h1 h2 h3 h4 hP hD hS hl
  have hT0 := (C.hS t h7).2
  rw [← h4.2.1] at hT0
  obtain ⟨scr, s1, ⟨s6, k0, hk0, cm0, hkk0⟩, s3, s4, -, s5, s7⟩ := hT0
  have hc0 : H[ad.2 t]? = some scr := by rw [hS.2.1 _ (Array.getElem?_eq_some_iff.mp s1).1 s7]; exact s1
  have ha1 := wd_get (tg := x.2.2.1.2.1) (ad := ad) hb
  have hc1 : H[ad.1 b]? = some (vp_cell (x.2.2.1.2.1 1) (n1, .inl g)) := hP b _ ha1
  obtain ⟨-, k1, hk1, cm1, hkk1⟩ := (C.hK.2 1 _ rfl).1 n1 (fun j => .int (g j))
  intro T hT X
  obtain ⟨vm', X', step⟩ := X.arraycopy C.hx C.ho (C.ht _ w) (C.ht _ kw_an) (C.ht _ kw_as) (C.ht _ kw_ai) (src := ad.2 t) (dst := ad.1 b) (cs := scr) (cd := vp_cell (x.2.2.1.2.1 1) (n1, .inl g)) (srcPos := sp) (destPos := dp) (n := n) (by rw [hT]; exact hc0) (by rw [hT]; exact hc1)
    s6 (fun _ h => by cases h) s3 (fun h => by cases h) hk0 hk1 hkk0 hkk1 (by simp [refKind]) c1 c2 c3
    (by rw [i32_nn c1, i32_nn c3]; omega)
    (by rw [i32_nn c2, i32_nn c3]; show ¬ _ > ((arrV (x.2.2.1.2.1 1) n1 (fun j => .int (g j))).slots.size : Int); rw [arrV_size]; omega)
    (fun vm₁ _ i hi => by
      have e9 : scr.slots.getD (sp.toNatClampNeg + i) .null = .int ((stab t).2 (sp.toNatClampNeg + i)) := by
        rw [Array.getD_eq_getD_getElem?, s5 _ (by omega)]; rfl
      rw [e9]
      exact ⟨rfl, trivial⟩)
    (g := F0 x.2.1.1 pc ls (.int n :: .int dp :: .ref (ad.1 b) :: .int sp :: .ref (ad.2 t) :: st.map (vv ad))) rfl (by rw [C.hm, ← C.hn]; exact hl.1) (rest := st.map (vv ad)) rfl (by rw [C.hb]; exact d) (by rw [C.hR]; exact hf) (by show 2 * 0 + _ + _ ≤ _; rw [st_cat, C.hR]; omega)
  have e1 : copied scr (vp_cell (x.2.2.1.2.1 1) (n1, .inl g)) sp dp n = vp_cell (x.2.2.1.2.1 1) (n1, .inl (va_cpy (stab t).2 g sp.toNatClampNeg dp.toNatClampNeg n.toNatClampNeg)) := va_copiedX (fun z => .int z) scr (x.2.2.1.2.1 1) (stab t).2 g s5 c4
  rw [e1] at X' step
  have hl9 : ad.1 b < H.size := (Array.getElem?_eq_some_iff.mp hc1).1
  generalize hq : vp_cell (x.2.2.1.2.1 1) (n1, .inl (va_cpy (stab t).2 g sp.toNatClampNeg dp.toNatClampNeg n.toNatClampNeg)) = cell at X' step
  have hheap : ((T.setVm vm').setCell (ad.1 b) cell).heap = H.setIfInBounds (ad.1 b) cell := by rw [← hT]; rfl
  have oq : ∀ q : Nat, q ≠ ad.1 b → (H.setIfInBounds (ad.1 b) cell)[q]? = H[q]? := fun q hq => by simp [Array.getElem?_setIfInBounds, Ne.symm hq]
  have e2 := wd_set (tg := x.2.2.1.2.1) (ad := ad) (h := h) (k := b) (c := pI n1 (va_cpy (stab t).2 g sp.toNatClampNeg dp.toNatClampNeg n.toNatClampNeg))
  have hP1 := hP.set hD ha1 (e := cv x.2.2.1.2.1 ad (pI n1 (va_cpy (stab t).2 g sp.toNatClampNeg dp.toNatClampNeg n.toNatClampNeg))) (show (H.setIfInBounds (ad.1 b) cell)[ad.1 b]? = some (vp_cell _ _) by simp [Array.getElem?_setIfInBounds, hl9, ← hq]) oq
  have hD1 := hD.set (e := cv x.2.2.1.2.1 ad (pI n1 (va_cpy (stab t).2 g sp.toNatClampNeg dp.toNatClampNeg n.toNatClampNeg))) ha1
  rw [e2] at hP1 hD1
  have hA1 : x.2.2.1.2.2.1 (ad.1 b) := hD.2 b _ ha1
  obtain ⟨t2, a1, b1⟩ := kk ad (H.setIfInBounds (ad.1 b) cell) _ ls (wfh_set h1 trivial) (by rw [List.length_set]; exact wfs_t (wfs_t (wfs_t (wfs_t (wfs_t h2))))) (by rw [List.length_set]; exact h3) (by rw [List.length_set]; exact h4) hP1 hD1 ⟨by simp; exact hS.1, fun q g1 g2 => by
      rw [oq q (fun z => g2 (by rw [z]; exact hA1))]
      exact hS.2.1 q g1 g2, fun q hq => by
      rcases List.mem_append.mp hq with z | z
      · exact hS.2.2 q z
      · obtain ⟨y, -, hy⟩ := List.mem_map.mp z
        rw [← hy]
        exact hA1⟩ hl _ hheap X'
  exact ⟨t2, step t2 a1, b1⟩
end
section
abbrev b_Sh_new : ByteArray := prog_7_method_1_code
abbrev y_Sh_new : MethodName := ⟨"PrimeKeys$Sha256", "<init>", "()V"⟩
theorem d_Sh_new_0 : decode b_Sh_new 0 = .ok (.aload_n 0, 1) := by decide +kernel
theorem d_Sh_new_1 : decode b_Sh_new 1 = .ok (.invokespecial 1, 3) := by decide +kernel
theorem d_Sh_new_4 : decode b_Sh_new 4 = .ok (.aload_n 0, 1) := by decide +kernel
theorem d_Sh_new_5 : decode b_Sh_new 5 = .ok (.bipush 8, 2) := by decide +kernel
theorem d_Sh_new_7 : decode b_Sh_new 7 = .ok (.newarray .int, 2) := by decide +kernel
theorem d_Sh_new_9 : decode b_Sh_new 9 = .ok (.putfield 9, 3) := by decide +kernel
theorem d_Sh_new_12 : decode b_Sh_new 12 = .ok (.aload_n 0, 1) := by decide +kernel
theorem d_Sh_new_13 : decode b_Sh_new 13 = .ok (.bipush 64, 2) := by decide +kernel
theorem d_Sh_new_15 : decode b_Sh_new 15 = .ok (.newarray .int, 2) := by decide +kernel
theorem d_Sh_new_17 : decode b_Sh_new 17 = .ok (.putfield 13, 3) := by decide +kernel
theorem d_Sh_new_20 : decode b_Sh_new 20 = .ok (.aload_n 0, 1) := by decide +kernel
theorem d_Sh_new_21 : decode b_Sh_new 21 = .ok (.bipush 64, 2) := by decide +kernel
theorem d_Sh_new_23 : decode b_Sh_new 23 = .ok (.newarray .byte, 2) := by decide +kernel
theorem d_Sh_new_25 : decode b_Sh_new 25 = .ok (.putfield 16, 3) := by decide +kernel
theorem d_Sh_new_28 : decode b_Sh_new 28 = .ok (.aload_n 0, 1) := by decide +kernel
theorem d_Sh_new_29 : decode b_Sh_new 29 = .ok (.iconst 0, 1) := by decide +kernel
theorem d_Sh_new_30 : decode b_Sh_new 30 = .ok (.putfield 20, 3) := by decide +kernel
theorem d_Sh_new_33 : decode b_Sh_new 33 = .ok (.aload_n 0, 1) := by decide +kernel
theorem d_Sh_new_34 : decode b_Sh_new 34 = .ok (.iconst 0, 1) := by decide +kernel
theorem d_Sh_new_35 : decode b_Sh_new 35 = .ok (.putfield 24, 3) := by decide +kernel
theorem d_Sh_new_38 : decode b_Sh_new 38 = .ok (.return_, 1) := by decide +kernel
theorem fp_Sh_9 : FP "PrimeKeys$Sha256" 9 4 0 (.array .int) true := ⟨R_Sh, F_Sh, 5, t_Sh, rfl, u_Sh, by decide, rfl, tb_1 (List.mem_of_getElem? (i := 38) (by decide +kernel)) rfl, t_Sh_ok, n_Sh, rfl, by decide +kernel⟩
theorem fp_Sh_13 : FP "PrimeKeys$Sha256" 13 4 1 (.array .int) true := ⟨R_Sh, F_Sh, 5, t_Sh, rfl, u_Sh, by decide, rfl, tb_1 (List.mem_of_getElem? (i := 39) (by decide +kernel)) rfl, t_Sh_ok, n_Sh, rfl, by decide +kernel⟩
theorem fp_Sh_16 : FP "PrimeKeys$Sha256" 16 4 2 (.array .byte) true := ⟨R_Sh, F_Sh, 5, t_Sh, rfl, u_Sh, by decide, rfl, tb_1 (List.mem_of_getElem? (i := 40) (by decide +kernel)) rfl, t_Sh_ok, n_Sh, rfl, by decide +kernel⟩
theorem fp_Sh_20 : FP "PrimeKeys$Sha256" 20 4 3 .int false := ⟨R_Sh, F_Sh, 5, t_Sh, rfl, u_Sh, by decide, rfl, tb_1 (List.mem_of_getElem? (i := 41) (by decide +kernel)) rfl, t_Sh_ok, n_Sh, rfl, by decide +kernel⟩
theorem fp_Sh_24 : FP "PrimeKeys$Sha256" 24 4 4 .int false := ⟨R_Sh, F_Sh, 5, t_Sh, rfl, u_Sh, by decide, rfl, tb_1 (List.mem_of_getElem? (i := 42) (by decide +kernel)) rfl, t_Sh_ok, n_Sh, rfl, by decide +kernel⟩
theorem kw_6 : Cond.methodLink "PrimeKeys$Sha256" 1 Lib.objectInit ∈ TB := tb_1 (List.mem_of_getElem? (i := 37) (by decide +kernel)) rfl
abbrev rm_Sh_new : Room := { frames := 1, cells := 3, slots := 136, locals := 20 }
def P_Sh_new (h : HP) (p0 : Nat) : Option (HP) :=
  lt (h ++ [pI 8 (fun _ => 0)]) fun h1 =>
  lt h.length fun k2 =>
  bnd (pV h1 p0 4 0 (.ref k2)) fun h3 =>
  lt (h3 ++ [pI 64 (fun _ => 0)]) fun h4 =>
  lt h3.length fun k5 =>
  bnd (pV h4 p0 4 1 (.ref k5)) fun h6 =>
  lt (h6 ++ [pB 64 (fun _ => 0)]) fun h7 =>
  lt h6.length fun k8 =>
  bnd (pV h7 p0 4 2 (.ref k8)) fun h9 =>
  bnd (pV h9 p0 4 3 (.int 0)) fun h10 =>
  bnd (pV h10 p0 4 4 (.int 0)) fun h11 =>
  some h11
set_option maxHeartbeats 4000000 in
set_option maxRecDepth 100000 in
theorem c_Sh_new {l : Launch} {h h' : HP} {p0 : _} (hr : P_Sh_new h p0 = some h') : MP l y_Sh_new (Cond.code y_Sh_new b_Sh_new 1 none :: TB) rm_Sh_new h [.ref p0] none h' := by
  refine MP_intro (cc := b_Sh_new) (by decide) (Nat.le_of_ble_eq_true rfl) (fun x hl0 C T hin => ?_)
  unfold P_Sh_new at hr
  show GG x 0 0 h 0 [(0, .ref p0)] []
  refine g_aload_n C 0 rfl d_Sh_new_0 rfl ?_
  refine g_objInit C kw_6 kw_oi kw_oc (by decide) (Nat.le_of_ble_eq_true rfl) d_Sh_new_1 ?_
  refine g_aload_n C 0 rfl d_Sh_new_4 rfl ?_
  refine g_bipush (v := 8) C d_Sh_new_5 (by decide) ?_
  obtain ⟨h1, eh1⟩ : ∃ z, z = h ++ [pI 8 (fun _ => 0)] := ⟨_, rfl⟩
  have hr := of_lt eh1 hr
  obtain ⟨k2, ek2⟩ : ∃ z, z = h.length := ⟨_, rfl⟩
  have hr := of_lt ek2 hr
  refine g_newIE (n' := 8) C eh1 ek2 (by decide) (by decide) (by decide) (by decide) (by decide) d_Sh_new_7 ?_
  obtain ⟨h3, eh3, hr⟩ := of_bnd hr
  refine g_putF C fp_Sh_9 hin rfl eh3 (fun _ => rfl) (fun _ => rfl) d_Sh_new_9 ?_
  refine g_aload_n C 0 rfl d_Sh_new_12 rfl ?_
  refine g_bipush (v := 64) C d_Sh_new_13 (by decide) ?_
  obtain ⟨h4, eh4⟩ : ∃ z, z = h3 ++ [pI 64 (fun _ => 0)] := ⟨_, rfl⟩
  have hr := of_lt eh4 hr
  obtain ⟨k5, ek5⟩ : ∃ z, z = h3.length := ⟨_, rfl⟩
  have hr := of_lt ek5 hr
  refine g_newIE (n' := 64) C eh4 ek5 (by decide) (by decide) (by decide) (by decide) (by decide) d_Sh_new_15 ?_
  obtain ⟨h6, eh6, hr⟩ := of_bnd hr
  refine g_putF C fp_Sh_13 hin rfl eh6 (fun _ => rfl) (fun _ => rfl) d_Sh_new_17 ?_
  refine g_aload_n C 0 rfl d_Sh_new_20 rfl ?_
  refine g_bipush (v := 64) C d_Sh_new_21 (by decide) ?_
  obtain ⟨h7, eh7⟩ : ∃ z, z = h6 ++ [pB 64 (fun _ => 0)] := ⟨_, rfl⟩
  have hr := of_lt eh7 hr
  obtain ⟨k8, ek8⟩ : ∃ z, z = h6.length := ⟨_, rfl⟩
  have hr := of_lt ek8 hr
  refine g_newBE (n' := 64) C eh7 ek8 (by decide) (by decide) (by decide) (by decide) (by decide) d_Sh_new_23 ?_
  obtain ⟨h9, eh9, hr⟩ := of_bnd hr
  refine g_putF C fp_Sh_16 hin rfl eh9 (fun _ => rfl) (fun _ => rfl) d_Sh_new_25 ?_
  refine g_aload_n C 0 rfl d_Sh_new_28 rfl ?_
  refine g_iconst (v := 0) C d_Sh_new_29 (by decide) ?_
  obtain ⟨h10, eh10, hr⟩ := of_bnd hr
  refine g_putI C fp_Sh_20 eh10 d_Sh_new_30 ?_
  refine g_aload_n C 0 rfl d_Sh_new_33 rfl ?_
  refine g_iconst (v := 0) C d_Sh_new_34 (by decide) ?_
  obtain ⟨h11, eh11, hr⟩ := of_bnd hr
  refine g_putI C fp_Sh_24 eh11 d_Sh_new_35 ?_
  cases hr
  exact g_vreturn C T (by decide) (by decide) d_Sh_new_38
abbrev b_Sh_begin : ByteArray := prog_7_method_3_code
abbrev y_Sh_begin : MethodName := ⟨"PrimeKeys$Sha256", "begin", "()V"⟩
theorem d_Sh_begin_0 : decode b_Sh_begin 0 = .ok (.getstatic 38, 3) := by decide +kernel
theorem d_Sh_begin_3 : decode b_Sh_begin 3 = .ok (.iconst 0, 1) := by decide +kernel
theorem d_Sh_begin_4 : decode b_Sh_begin 4 = .ok (.aload_n 0, 1) := by decide +kernel
theorem d_Sh_begin_5 : decode b_Sh_begin 5 = .ok (.getfield 9, 3) := by decide +kernel
theorem d_Sh_begin_8 : decode b_Sh_begin 8 = .ok (.iconst 0, 1) := by decide +kernel
theorem d_Sh_begin_9 : decode b_Sh_begin 9 = .ok (.bipush 8, 2) := by decide +kernel
theorem d_Sh_begin_11 : decode b_Sh_begin 11 = .ok (.invokestatic 41, 3) := by decide +kernel
theorem d_Sh_begin_14 : decode b_Sh_begin 14 = .ok (.aload_n 0, 1) := by decide +kernel
theorem d_Sh_begin_15 : decode b_Sh_begin 15 = .ok (.iconst 0, 1) := by decide +kernel
theorem d_Sh_begin_16 : decode b_Sh_begin 16 = .ok (.putfield 20, 3) := by decide +kernel
theorem d_Sh_begin_19 : decode b_Sh_begin 19 = .ok (.aload_n 0, 1) := by decide +kernel
theorem d_Sh_begin_20 : decode b_Sh_begin 20 = .ok (.iconst 0, 1) := by decide +kernel
theorem d_Sh_begin_21 : decode b_Sh_begin 21 = .ok (.putfield 24, 3) := by decide +kernel
theorem d_Sh_begin_24 : decode b_Sh_begin 24 = .ok (.return_, 1) := by decide +kernel
theorem fl_Sh_9 : FL "PrimeKeys$Sha256" 9 4 0 := ⟨R_Sh, F_Sh, 5, rfl, u_Sh, by decide, rfl, tb_1 (List.mem_of_getElem? (i := 38) (by decide +kernel)) rfl⟩
theorem kw_7 : Cond.fieldLink "PrimeKeys$Sha256" 38 (stC 0) (stN 0) "[I" ∈ TB := tb_2 (List.mem_of_getElem? (i := 111) (by decide +kernel)) rfl
theorem kw_8 : Cond.methodLink "PrimeKeys$Sha256" 41 arraycopyName ∈ TB := tb_2 (List.mem_of_getElem? (i := 113) (by decide +kernel)) rfl
abbrev rm_Sh_begin : Room := { frames := 1, cells := 0, slots := 0, locals := 26 }
def P_Sh_begin (h : HP) (p0 : Nat) : Option (HP) :=
  bnd (gR h p0 4 0) fun k1 =>
  bnd (cpT h 0 0 k1 0 8) fun h2 =>
  bnd (pV h2 p0 4 3 (.int 0)) fun h3 =>
  bnd (pV h3 p0 4 4 (.int 0)) fun h4 =>
  some h4
set_option maxHeartbeats 4000000 in
set_option maxRecDepth 100000 in
theorem c_Sh_begin {l : Launch} {h h' : HP} {p0 : _} (hr : P_Sh_begin h p0 = some h') : MP l y_Sh_begin (Cond.code y_Sh_begin b_Sh_begin 1 none :: TB) rm_Sh_begin h [.ref p0] none h' := by
  refine MP_intro (cc := b_Sh_begin) (by decide) (Nat.le_of_ble_eq_true rfl) (fun x hl0 C T hin => ?_)
  unfold P_Sh_begin at hr
  show GG x 0 0 h 0 [(0, .ref p0)] []
  refine g_gets (t := 0) C (by decide) kw_7 d_Sh_begin_0 ?_
  refine g_iconst (v := 0) C d_Sh_begin_3 (by decide) ?_
  refine g_aload_n C 0 rfl d_Sh_begin_4 rfl ?_
  obtain ⟨k1, ek1, hr⟩ := of_bnd hr
  refine g_getR C fl_Sh_9 ek1 d_Sh_begin_5 ?_
  refine g_iconst (v := 0) C d_Sh_begin_8 (by decide) ?_
  refine g_bipush (v := 8) C d_Sh_begin_9 (by decide) ?_
  obtain ⟨h2, eh2, hr⟩ := of_bnd hr
  refine g_copyT C eh2 kw_8 (Nat.le_of_ble_eq_true rfl) (Nat.le_of_ble_eq_true rfl) d_Sh_begin_11 ?_
  refine g_aload_n C 0 rfl d_Sh_begin_14 rfl ?_
  refine g_iconst (v := 0) C d_Sh_begin_15 (by decide) ?_
  obtain ⟨h3, eh3, hr⟩ := of_bnd hr
  refine g_putI C fp_Sh_20 eh3 d_Sh_begin_16 ?_
  refine g_aload_n C 0 rfl d_Sh_begin_19 rfl ?_
  refine g_iconst (v := 0) C d_Sh_begin_20 (by decide) ?_
  obtain ⟨h4, eh4, hr⟩ := of_bnd hr
  refine g_putI C fp_Sh_24 eh4 d_Sh_begin_21 ?_
  cases hr
  exact g_vreturn C T (by decide) (by decide) d_Sh_begin_24
abbrev b_Sh_fillSchedule : ByteArray := prog_7_method_8_code
abbrev y_Sh_fillSchedule : MethodName := ⟨"PrimeKeys$Sha256", "fillSchedule", "()V"⟩
theorem d_Sh_fillSchedule_0 : decode b_Sh_fillSchedule 0 = .ok (.iconst 0, 1) := by decide +kernel
theorem d_Sh_fillSchedule_1 : decode b_Sh_fillSchedule 1 = .ok (.istore_n 1, 1) := by decide +kernel
theorem d_Sh_fillSchedule_2 : decode b_Sh_fillSchedule 2 = .ok (.iload_n 1, 1) := by decide +kernel
theorem d_Sh_fillSchedule_3 : decode b_Sh_fillSchedule 3 = .ok (.bipush 16, 2) := by decide +kernel
theorem d_Sh_fillSchedule_5 : decode b_Sh_fillSchedule 5 = .ok (.if_icmp .ge 73, 3) := by decide +kernel
theorem d_Sh_fillSchedule_8 : decode b_Sh_fillSchedule 8 = .ok (.iconst 4, 1) := by decide +kernel
theorem d_Sh_fillSchedule_9 : decode b_Sh_fillSchedule 9 = .ok (.iload_n 1, 1) := by decide +kernel
theorem d_Sh_fillSchedule_10 : decode b_Sh_fillSchedule 10 = .ok (.imul, 1) := by decide +kernel
theorem d_Sh_fillSchedule_11 : decode b_Sh_fillSchedule 11 = .ok (.istore_n 2, 1) := by decide +kernel
theorem d_Sh_fillSchedule_12 : decode b_Sh_fillSchedule 12 = .ok (.aload_n 0, 1) := by decide +kernel
theorem d_Sh_fillSchedule_13 : decode b_Sh_fillSchedule 13 = .ok (.getfield 13, 3) := by decide +kernel
theorem d_Sh_fillSchedule_16 : decode b_Sh_fillSchedule 16 = .ok (.iload_n 1, 1) := by decide +kernel
theorem d_Sh_fillSchedule_17 : decode b_Sh_fillSchedule 17 = .ok (.aload_n 0, 1) := by decide +kernel
theorem d_Sh_fillSchedule_18 : decode b_Sh_fillSchedule 18 = .ok (.getfield 16, 3) := by decide +kernel
theorem d_Sh_fillSchedule_21 : decode b_Sh_fillSchedule 21 = .ok (.iload_n 2, 1) := by decide +kernel
theorem d_Sh_fillSchedule_22 : decode b_Sh_fillSchedule 22 = .ok (.baload, 1) := by decide +kernel
theorem d_Sh_fillSchedule_23 : decode b_Sh_fillSchedule 23 = .ok (.bipush 24, 2) := by decide +kernel
theorem d_Sh_fillSchedule_25 : decode b_Sh_fillSchedule 25 = .ok (.ishl, 1) := by decide +kernel
theorem d_Sh_fillSchedule_26 : decode b_Sh_fillSchedule 26 = .ok (.aload_n 0, 1) := by decide +kernel
theorem d_Sh_fillSchedule_27 : decode b_Sh_fillSchedule 27 = .ok (.getfield 16, 3) := by decide +kernel
theorem d_Sh_fillSchedule_30 : decode b_Sh_fillSchedule 30 = .ok (.iload_n 2, 1) := by decide +kernel
theorem d_Sh_fillSchedule_31 : decode b_Sh_fillSchedule 31 = .ok (.iconst 1, 1) := by decide +kernel
theorem d_Sh_fillSchedule_32 : decode b_Sh_fillSchedule 32 = .ok (.iadd, 1) := by decide +kernel
theorem d_Sh_fillSchedule_33 : decode b_Sh_fillSchedule 33 = .ok (.baload, 1) := by decide +kernel
theorem d_Sh_fillSchedule_34 : decode b_Sh_fillSchedule 34 = .ok (.sipush 255, 3) := by decide +kernel
theorem d_Sh_fillSchedule_37 : decode b_Sh_fillSchedule 37 = .ok (.iand, 1) := by decide +kernel
theorem d_Sh_fillSchedule_38 : decode b_Sh_fillSchedule 38 = .ok (.bipush 16, 2) := by decide +kernel
theorem d_Sh_fillSchedule_40 : decode b_Sh_fillSchedule 40 = .ok (.ishl, 1) := by decide +kernel
theorem d_Sh_fillSchedule_41 : decode b_Sh_fillSchedule 41 = .ok (.ior, 1) := by decide +kernel
theorem d_Sh_fillSchedule_42 : decode b_Sh_fillSchedule 42 = .ok (.aload_n 0, 1) := by decide +kernel
theorem d_Sh_fillSchedule_43 : decode b_Sh_fillSchedule 43 = .ok (.getfield 16, 3) := by decide +kernel
theorem d_Sh_fillSchedule_46 : decode b_Sh_fillSchedule 46 = .ok (.iload_n 2, 1) := by decide +kernel
theorem d_Sh_fillSchedule_47 : decode b_Sh_fillSchedule 47 = .ok (.iconst 2, 1) := by decide +kernel
theorem d_Sh_fillSchedule_48 : decode b_Sh_fillSchedule 48 = .ok (.iadd, 1) := by decide +kernel
theorem d_Sh_fillSchedule_49 : decode b_Sh_fillSchedule 49 = .ok (.baload, 1) := by decide +kernel
theorem d_Sh_fillSchedule_50 : decode b_Sh_fillSchedule 50 = .ok (.sipush 255, 3) := by decide +kernel
theorem d_Sh_fillSchedule_53 : decode b_Sh_fillSchedule 53 = .ok (.iand, 1) := by decide +kernel
theorem d_Sh_fillSchedule_54 : decode b_Sh_fillSchedule 54 = .ok (.bipush 8, 2) := by decide +kernel
theorem d_Sh_fillSchedule_56 : decode b_Sh_fillSchedule 56 = .ok (.ishl, 1) := by decide +kernel
theorem d_Sh_fillSchedule_57 : decode b_Sh_fillSchedule 57 = .ok (.ior, 1) := by decide +kernel
theorem d_Sh_fillSchedule_58 : decode b_Sh_fillSchedule 58 = .ok (.aload_n 0, 1) := by decide +kernel
theorem d_Sh_fillSchedule_59 : decode b_Sh_fillSchedule 59 = .ok (.getfield 16, 3) := by decide +kernel
theorem d_Sh_fillSchedule_62 : decode b_Sh_fillSchedule 62 = .ok (.iload_n 2, 1) := by decide +kernel
theorem d_Sh_fillSchedule_63 : decode b_Sh_fillSchedule 63 = .ok (.iconst 3, 1) := by decide +kernel
theorem d_Sh_fillSchedule_64 : decode b_Sh_fillSchedule 64 = .ok (.iadd, 1) := by decide +kernel
theorem d_Sh_fillSchedule_65 : decode b_Sh_fillSchedule 65 = .ok (.baload, 1) := by decide +kernel
theorem d_Sh_fillSchedule_66 : decode b_Sh_fillSchedule 66 = .ok (.sipush 255, 3) := by decide +kernel
theorem d_Sh_fillSchedule_69 : decode b_Sh_fillSchedule 69 = .ok (.iand, 1) := by decide +kernel
theorem d_Sh_fillSchedule_70 : decode b_Sh_fillSchedule 70 = .ok (.ior, 1) := by decide +kernel
theorem d_Sh_fillSchedule_71 : decode b_Sh_fillSchedule 71 = .ok (.iastore, 1) := by decide +kernel
theorem d_Sh_fillSchedule_72 : decode b_Sh_fillSchedule 72 = .ok (.iinc 1 1, 3) := by decide +kernel
theorem d_Sh_fillSchedule_75 : decode b_Sh_fillSchedule 75 = .ok (.goto (-73), 3) := by decide +kernel
theorem d_Sh_fillSchedule_78 : decode b_Sh_fillSchedule 78 = .ok (.bipush 16, 2) := by decide +kernel
theorem d_Sh_fillSchedule_80 : decode b_Sh_fillSchedule 80 = .ok (.istore_n 1, 1) := by decide +kernel
theorem d_Sh_fillSchedule_81 : decode b_Sh_fillSchedule 81 = .ok (.iload_n 1, 1) := by decide +kernel
theorem d_Sh_fillSchedule_82 : decode b_Sh_fillSchedule 82 = .ok (.bipush 64, 2) := by decide +kernel
theorem d_Sh_fillSchedule_84 : decode b_Sh_fillSchedule 84 = .ok (.if_icmp .ge 110, 3) := by decide +kernel
theorem d_Sh_fillSchedule_87 : decode b_Sh_fillSchedule 87 = .ok (.aload_n 0, 1) := by decide +kernel
theorem d_Sh_fillSchedule_88 : decode b_Sh_fillSchedule 88 = .ok (.getfield 13, 3) := by decide +kernel
theorem d_Sh_fillSchedule_91 : decode b_Sh_fillSchedule 91 = .ok (.iload_n 1, 1) := by decide +kernel
theorem d_Sh_fillSchedule_92 : decode b_Sh_fillSchedule 92 = .ok (.bipush 15, 2) := by decide +kernel
theorem d_Sh_fillSchedule_94 : decode b_Sh_fillSchedule 94 = .ok (.isub, 1) := by decide +kernel
theorem d_Sh_fillSchedule_95 : decode b_Sh_fillSchedule 95 = .ok (.iaload, 1) := by decide +kernel
theorem d_Sh_fillSchedule_96 : decode b_Sh_fillSchedule 96 = .ok (.istore_n 2, 1) := by decide +kernel
theorem d_Sh_fillSchedule_97 : decode b_Sh_fillSchedule 97 = .ok (.aload_n 0, 1) := by decide +kernel
theorem d_Sh_fillSchedule_98 : decode b_Sh_fillSchedule 98 = .ok (.getfield 13, 3) := by decide +kernel
theorem d_Sh_fillSchedule_101 : decode b_Sh_fillSchedule 101 = .ok (.iload_n 1, 1) := by decide +kernel
theorem d_Sh_fillSchedule_102 : decode b_Sh_fillSchedule 102 = .ok (.iconst 2, 1) := by decide +kernel
theorem d_Sh_fillSchedule_103 : decode b_Sh_fillSchedule 103 = .ok (.isub, 1) := by decide +kernel
theorem d_Sh_fillSchedule_104 : decode b_Sh_fillSchedule 104 = .ok (.iaload, 1) := by decide +kernel
theorem d_Sh_fillSchedule_105 : decode b_Sh_fillSchedule 105 = .ok (.istore_n 3, 1) := by decide +kernel
theorem d_Sh_fillSchedule_106 : decode b_Sh_fillSchedule 106 = .ok (.iload_n 2, 1) := by decide +kernel
theorem d_Sh_fillSchedule_107 : decode b_Sh_fillSchedule 107 = .ok (.bipush 7, 2) := by decide +kernel
theorem d_Sh_fillSchedule_109 : decode b_Sh_fillSchedule 109 = .ok (.iushr, 1) := by decide +kernel
theorem d_Sh_fillSchedule_110 : decode b_Sh_fillSchedule 110 = .ok (.iload_n 2, 1) := by decide +kernel
theorem d_Sh_fillSchedule_111 : decode b_Sh_fillSchedule 111 = .ok (.bipush 25, 2) := by decide +kernel
theorem d_Sh_fillSchedule_113 : decode b_Sh_fillSchedule 113 = .ok (.ishl, 1) := by decide +kernel
theorem d_Sh_fillSchedule_114 : decode b_Sh_fillSchedule 114 = .ok (.ior, 1) := by decide +kernel
theorem d_Sh_fillSchedule_115 : decode b_Sh_fillSchedule 115 = .ok (.iload_n 2, 1) := by decide +kernel
theorem d_Sh_fillSchedule_116 : decode b_Sh_fillSchedule 116 = .ok (.bipush 18, 2) := by decide +kernel
theorem d_Sh_fillSchedule_118 : decode b_Sh_fillSchedule 118 = .ok (.iushr, 1) := by decide +kernel
theorem d_Sh_fillSchedule_119 : decode b_Sh_fillSchedule 119 = .ok (.iload_n 2, 1) := by decide +kernel
theorem d_Sh_fillSchedule_120 : decode b_Sh_fillSchedule 120 = .ok (.bipush 14, 2) := by decide +kernel
theorem d_Sh_fillSchedule_122 : decode b_Sh_fillSchedule 122 = .ok (.ishl, 1) := by decide +kernel
theorem d_Sh_fillSchedule_123 : decode b_Sh_fillSchedule 123 = .ok (.ior, 1) := by decide +kernel
theorem d_Sh_fillSchedule_124 : decode b_Sh_fillSchedule 124 = .ok (.ixor, 1) := by decide +kernel
theorem d_Sh_fillSchedule_125 : decode b_Sh_fillSchedule 125 = .ok (.iload_n 2, 1) := by decide +kernel
theorem d_Sh_fillSchedule_126 : decode b_Sh_fillSchedule 126 = .ok (.iconst 3, 1) := by decide +kernel
theorem d_Sh_fillSchedule_127 : decode b_Sh_fillSchedule 127 = .ok (.iushr, 1) := by decide +kernel
theorem d_Sh_fillSchedule_128 : decode b_Sh_fillSchedule 128 = .ok (.ixor, 1) := by decide +kernel
theorem d_Sh_fillSchedule_129 : decode b_Sh_fillSchedule 129 = .ok (.istore 4, 2) := by decide +kernel
theorem d_Sh_fillSchedule_131 : decode b_Sh_fillSchedule 131 = .ok (.iload_n 3, 1) := by decide +kernel
theorem d_Sh_fillSchedule_132 : decode b_Sh_fillSchedule 132 = .ok (.bipush 17, 2) := by decide +kernel
theorem d_Sh_fillSchedule_134 : decode b_Sh_fillSchedule 134 = .ok (.iushr, 1) := by decide +kernel
theorem d_Sh_fillSchedule_135 : decode b_Sh_fillSchedule 135 = .ok (.iload_n 3, 1) := by decide +kernel
theorem d_Sh_fillSchedule_136 : decode b_Sh_fillSchedule 136 = .ok (.bipush 15, 2) := by decide +kernel
theorem d_Sh_fillSchedule_138 : decode b_Sh_fillSchedule 138 = .ok (.ishl, 1) := by decide +kernel
theorem d_Sh_fillSchedule_139 : decode b_Sh_fillSchedule 139 = .ok (.ior, 1) := by decide +kernel
theorem d_Sh_fillSchedule_140 : decode b_Sh_fillSchedule 140 = .ok (.iload_n 3, 1) := by decide +kernel
theorem d_Sh_fillSchedule_141 : decode b_Sh_fillSchedule 141 = .ok (.bipush 19, 2) := by decide +kernel
theorem d_Sh_fillSchedule_143 : decode b_Sh_fillSchedule 143 = .ok (.iushr, 1) := by decide +kernel
theorem d_Sh_fillSchedule_144 : decode b_Sh_fillSchedule 144 = .ok (.iload_n 3, 1) := by decide +kernel
theorem d_Sh_fillSchedule_145 : decode b_Sh_fillSchedule 145 = .ok (.bipush 13, 2) := by decide +kernel
theorem d_Sh_fillSchedule_147 : decode b_Sh_fillSchedule 147 = .ok (.ishl, 1) := by decide +kernel
theorem d_Sh_fillSchedule_148 : decode b_Sh_fillSchedule 148 = .ok (.ior, 1) := by decide +kernel
theorem d_Sh_fillSchedule_149 : decode b_Sh_fillSchedule 149 = .ok (.ixor, 1) := by decide +kernel
theorem d_Sh_fillSchedule_150 : decode b_Sh_fillSchedule 150 = .ok (.iload_n 3, 1) := by decide +kernel
theorem d_Sh_fillSchedule_151 : decode b_Sh_fillSchedule 151 = .ok (.bipush 10, 2) := by decide +kernel
theorem d_Sh_fillSchedule_153 : decode b_Sh_fillSchedule 153 = .ok (.iushr, 1) := by decide +kernel
theorem d_Sh_fillSchedule_154 : decode b_Sh_fillSchedule 154 = .ok (.ixor, 1) := by decide +kernel
theorem d_Sh_fillSchedule_155 : decode b_Sh_fillSchedule 155 = .ok (.istore 5, 2) := by decide +kernel
theorem d_Sh_fillSchedule_157 : decode b_Sh_fillSchedule 157 = .ok (.aload_n 0, 1) := by decide +kernel
theorem d_Sh_fillSchedule_158 : decode b_Sh_fillSchedule 158 = .ok (.getfield 13, 3) := by decide +kernel
theorem d_Sh_fillSchedule_161 : decode b_Sh_fillSchedule 161 = .ok (.iload_n 1, 1) := by decide +kernel
theorem d_Sh_fillSchedule_162 : decode b_Sh_fillSchedule 162 = .ok (.iload 5, 2) := by decide +kernel
theorem d_Sh_fillSchedule_164 : decode b_Sh_fillSchedule 164 = .ok (.aload_n 0, 1) := by decide +kernel
theorem d_Sh_fillSchedule_165 : decode b_Sh_fillSchedule 165 = .ok (.getfield 13, 3) := by decide +kernel
theorem d_Sh_fillSchedule_168 : decode b_Sh_fillSchedule 168 = .ok (.iload_n 1, 1) := by decide +kernel
theorem d_Sh_fillSchedule_169 : decode b_Sh_fillSchedule 169 = .ok (.bipush 7, 2) := by decide +kernel
theorem d_Sh_fillSchedule_171 : decode b_Sh_fillSchedule 171 = .ok (.isub, 1) := by decide +kernel
theorem d_Sh_fillSchedule_172 : decode b_Sh_fillSchedule 172 = .ok (.iaload, 1) := by decide +kernel
theorem d_Sh_fillSchedule_173 : decode b_Sh_fillSchedule 173 = .ok (.iadd, 1) := by decide +kernel
theorem d_Sh_fillSchedule_174 : decode b_Sh_fillSchedule 174 = .ok (.iload 4, 2) := by decide +kernel
theorem d_Sh_fillSchedule_176 : decode b_Sh_fillSchedule 176 = .ok (.iadd, 1) := by decide +kernel
theorem d_Sh_fillSchedule_177 : decode b_Sh_fillSchedule 177 = .ok (.aload_n 0, 1) := by decide +kernel
theorem d_Sh_fillSchedule_178 : decode b_Sh_fillSchedule 178 = .ok (.getfield 13, 3) := by decide +kernel
theorem d_Sh_fillSchedule_181 : decode b_Sh_fillSchedule 181 = .ok (.iload_n 1, 1) := by decide +kernel
theorem d_Sh_fillSchedule_182 : decode b_Sh_fillSchedule 182 = .ok (.bipush 16, 2) := by decide +kernel
theorem d_Sh_fillSchedule_184 : decode b_Sh_fillSchedule 184 = .ok (.isub, 1) := by decide +kernel
theorem d_Sh_fillSchedule_185 : decode b_Sh_fillSchedule 185 = .ok (.iaload, 1) := by decide +kernel
theorem d_Sh_fillSchedule_186 : decode b_Sh_fillSchedule 186 = .ok (.iadd, 1) := by decide +kernel
theorem d_Sh_fillSchedule_187 : decode b_Sh_fillSchedule 187 = .ok (.iastore, 1) := by decide +kernel
theorem d_Sh_fillSchedule_188 : decode b_Sh_fillSchedule 188 = .ok (.iinc 1 1, 3) := by decide +kernel
theorem d_Sh_fillSchedule_191 : decode b_Sh_fillSchedule 191 = .ok (.goto (-110), 3) := by decide +kernel
theorem d_Sh_fillSchedule_194 : decode b_Sh_fillSchedule 194 = .ok (.return_, 1) := by decide +kernel
theorem fl_Sh_13 : FL "PrimeKeys$Sha256" 13 4 1 := ⟨R_Sh, F_Sh, 5, rfl, u_Sh, by decide, rfl, tb_1 (List.mem_of_getElem? (i := 39) (by decide +kernel)) rfl⟩
theorem fl_Sh_16 : FL "PrimeKeys$Sha256" 16 4 2 := ⟨R_Sh, F_Sh, 5, rfl, u_Sh, by decide, rfl, tb_1 (List.mem_of_getElem? (i := 40) (by decide +kernel)) rfl⟩
abbrev rm_Sh_fillSchedule : Room := { frames := 0, cells := 0, slots := 0, locals := 0 }
def B_Sh_fillSchedule_81 (K2 : HP → Nat → Int32 → Option (HP)) (K81 : HP → Nat → Int32 → Option (HP)) (h : HP) (a0 : Nat) (a1 : Int32) : Option (HP) :=
  if 64 ≤ a1 then
  some h
  else
  bnd (gR h a0 4 1) fun k1 =>
  bnd (ldI h k1 (a1 - 15)) fun v2 =>
  bnd (gR h a0 4 1) fun k3 =>
  bnd (ldI h k3 (a1 - 2)) fun v4 =>
  lt (((((v2.toUInt32 >>> (Int32.toUInt32 7 &&& Int32.toUInt32 31)).toInt32) ||| (v2 <<< (25 &&& 31))) ^^^ (((v2.toUInt32 >>> (Int32.toUInt32 18 &&& Int32.toUInt32 31)).toInt32) ||| (v2 <<< (14 &&& 31)))) ^^^ ((v2.toUInt32 >>> (Int32.toUInt32 3 &&& Int32.toUInt32 31)).toInt32)) fun x5 =>
  lt (((((v4.toUInt32 >>> (Int32.toUInt32 17 &&& Int32.toUInt32 31)).toInt32) ||| (v4 <<< (15 &&& 31))) ^^^ (((v4.toUInt32 >>> (Int32.toUInt32 19 &&& Int32.toUInt32 31)).toInt32) ||| (v4 <<< (13 &&& 31)))) ^^^ ((v4.toUInt32 >>> (Int32.toUInt32 10 &&& Int32.toUInt32 31)).toInt32)) fun x6 =>
  bnd (gR h a0 4 1) fun k7 =>
  bnd (gR h a0 4 1) fun k8 =>
  bnd (ldI h k8 (a1 - 7)) fun v9 =>
  bnd (gR h a0 4 1) fun k10 =>
  bnd (ldI h k10 (a1 - 16)) fun v11 =>
  bnd (stI h k7 a1 (((x6 + v9) + x5) + v11)) fun h12 =>
  lt (a1 + Int32.ofInt 1) fun x13 =>
  K81 h12 a0 x13
set_option maxHeartbeats 4000000 in
set_option maxRecDepth 100000 in
theorem bk_Sh_fillSchedule_81 {l : Launch} {x : CX} {h0 h' : HP} (C : EV x b_Sh_fillSchedule "PrimeKeys$Sha256" 6 rm_Sh_fillSchedule) (T : CT x (none) rm_Sh_fillSchedule h0 none h') (hl0 : x.1.2.1 = l) (K2 : HP → Nat → Int32 → Option (HP)) (K81 : HP → Nat → Int32 → Option (HP)) (hK2 : ∀ (h : HP) (a0 : Nat) (a1 : Int32), K2 h a0 a1 = some h' → GG x 0 0 h 2 [(0, .ref a0), (1, .int a1)] []) (hK81 : ∀ (h : HP) (a0 : Nat) (a1 : Int32), K81 h a0 a1 = some h' → GG x 0 0 h 81 [(0, .ref a0), (1, .int a1)] []) (h : HP) (a0 : Nat) (a1 : Int32) (hr : B_Sh_fillSchedule_81 K2 K81 h a0 a1 = some h') : GG x 0 0 h 81 [(0, .ref a0), (1, .int a1)] [] := by
  unfold B_Sh_fillSchedule_81 at hr
  refine g_iload_n C 1 rfl d_Sh_fillSchedule_81 rfl ?_
  refine g_bipush (v := 64) C d_Sh_fillSchedule_82 (by decide) ?_
  refine g_icmp_ge (tgt := 194) C d_Sh_fillSchedule_84 (by decide) (fun z => ?_) (fun z => ?_)
  · have hr := of_if z hr
    cases hr
    exact g_vreturn C T (by decide) (by decide) d_Sh_fillSchedule_194
  · have hr := of_el z hr
    refine g_aload_n C 0 rfl d_Sh_fillSchedule_87 rfl ?_
    obtain ⟨k1, ek1, hr⟩ := of_bnd hr
    refine g_getR C fl_Sh_13 ek1 d_Sh_fillSchedule_88 ?_
    refine g_iload_n C 1 rfl d_Sh_fillSchedule_91 rfl ?_
    refine g_bipush (v := 15) C d_Sh_fillSchedule_92 (by decide) ?_
    refine g_isub C d_Sh_fillSchedule_94 ?_
    obtain ⟨v2, ev2, hr⟩ := of_bnd hr
    refine g_iaload C ev2 d_Sh_fillSchedule_95 ?_
    refine g_istore_n (lv' := [(2, .int v2), (0, .ref a0), (1, .int a1)]) C d_Sh_fillSchedule_96 rfl (by decide) rfl ?_
    refine g_aload_n C 1 rfl d_Sh_fillSchedule_97 rfl ?_
    obtain ⟨k3, ek3, hr⟩ := of_bnd hr
    refine g_getR C fl_Sh_13 ek3 d_Sh_fillSchedule_98 ?_
    refine g_iload_n C 2 rfl d_Sh_fillSchedule_101 rfl ?_
    refine g_iconst (v := 2) C d_Sh_fillSchedule_102 (by decide) ?_
    refine g_isub C d_Sh_fillSchedule_103 ?_
    obtain ⟨v4, ev4, hr⟩ := of_bnd hr
    refine g_iaload C ev4 d_Sh_fillSchedule_104 ?_
    refine g_istore_n (lv' := [(3, .int v4), (2, .int v2), (0, .ref a0), (1, .int a1)]) C d_Sh_fillSchedule_105 rfl (by decide) rfl ?_
    refine g_iload_n C 1 rfl d_Sh_fillSchedule_106 rfl ?_
    refine g_bipush (v := 7) C d_Sh_fillSchedule_107 (by decide) ?_
    refine g_iushr C d_Sh_fillSchedule_109 ?_
    refine g_iload_n C 1 rfl d_Sh_fillSchedule_110 rfl ?_
    refine g_bipush (v := 25) C d_Sh_fillSchedule_111 (by decide) ?_
    refine g_ishl C d_Sh_fillSchedule_113 ?_
    refine g_ior C d_Sh_fillSchedule_114 ?_
    refine g_iload_n C 1 rfl d_Sh_fillSchedule_115 rfl ?_
    refine g_bipush (v := 18) C d_Sh_fillSchedule_116 (by decide) ?_
    refine g_iushr C d_Sh_fillSchedule_118 ?_
    refine g_iload_n C 1 rfl d_Sh_fillSchedule_119 rfl ?_
    refine g_bipush (v := 14) C d_Sh_fillSchedule_120 (by decide) ?_
    refine g_ishl C d_Sh_fillSchedule_122 ?_
    refine g_ior C d_Sh_fillSchedule_123 ?_
    refine g_ixor C d_Sh_fillSchedule_124 ?_
    refine g_iload_n C 1 rfl d_Sh_fillSchedule_125 rfl ?_
    refine g_iconst (v := 3) C d_Sh_fillSchedule_126 (by decide) ?_
    refine g_iushr C d_Sh_fillSchedule_127 ?_
    refine g_ixor C d_Sh_fillSchedule_128 ?_
    refine g_topi (fun x5 ex5 => ?_)
    have hr := of_lt ex5 hr
    refine g_istore (lv' := [(4, .int x5), (3, .int v4), (2, .int v2), (0, .ref a0), (1, .int a1)]) C d_Sh_fillSchedule_129 (by decide) rfl ?_
    refine g_iload_n C 1 rfl d_Sh_fillSchedule_131 rfl ?_
    refine g_bipush (v := 17) C d_Sh_fillSchedule_132 (by decide) ?_
    refine g_iushr C d_Sh_fillSchedule_134 ?_
    refine g_iload_n C 1 rfl d_Sh_fillSchedule_135 rfl ?_
    refine g_bipush (v := 15) C d_Sh_fillSchedule_136 (by decide) ?_
    refine g_ishl C d_Sh_fillSchedule_138 ?_
    refine g_ior C d_Sh_fillSchedule_139 ?_
    refine g_iload_n C 1 rfl d_Sh_fillSchedule_140 rfl ?_
    refine g_bipush (v := 19) C d_Sh_fillSchedule_141 (by decide) ?_
    refine g_iushr C d_Sh_fillSchedule_143 ?_
    refine g_iload_n C 1 rfl d_Sh_fillSchedule_144 rfl ?_
    refine g_bipush (v := 13) C d_Sh_fillSchedule_145 (by decide) ?_
    refine g_ishl C d_Sh_fillSchedule_147 ?_
    refine g_ior C d_Sh_fillSchedule_148 ?_
    refine g_ixor C d_Sh_fillSchedule_149 ?_
    refine g_iload_n C 1 rfl d_Sh_fillSchedule_150 rfl ?_
    refine g_bipush (v := 10) C d_Sh_fillSchedule_151 (by decide) ?_
    refine g_iushr C d_Sh_fillSchedule_153 ?_
    refine g_ixor C d_Sh_fillSchedule_154 ?_
    refine g_topi (fun x6 ex6 => ?_)
    have hr := of_lt ex6 hr
    refine g_istore (lv' := [(5, .int x6), (4, .int x5), (3, .int v4), (2, .int v2), (0, .ref a0), (1, .int a1)]) C d_Sh_fillSchedule_155 (by decide) rfl ?_
    refine g_aload_n C 4 rfl d_Sh_fillSchedule_157 rfl ?_
    obtain ⟨k7, ek7, hr⟩ := of_bnd hr
    refine g_getR C fl_Sh_13 ek7 d_Sh_fillSchedule_158 ?_
    refine g_iload_n C 5 rfl d_Sh_fillSchedule_161 rfl ?_
    refine g_iload C 0 rfl d_Sh_fillSchedule_162 ?_
    refine g_aload_n C 4 rfl d_Sh_fillSchedule_164 rfl ?_
    obtain ⟨k8, ek8, hr⟩ := of_bnd hr
    refine g_getR C fl_Sh_13 ek8 d_Sh_fillSchedule_165 ?_
    refine g_iload_n C 5 rfl d_Sh_fillSchedule_168 rfl ?_
    refine g_bipush (v := 7) C d_Sh_fillSchedule_169 (by decide) ?_
    refine g_isub C d_Sh_fillSchedule_171 ?_
    obtain ⟨v9, ev9, hr⟩ := of_bnd hr
    refine g_iaload C ev9 d_Sh_fillSchedule_172 ?_
    refine g_iadd C d_Sh_fillSchedule_173 ?_
    refine g_iload C 1 rfl d_Sh_fillSchedule_174 ?_
    refine g_iadd C d_Sh_fillSchedule_176 ?_
    refine g_aload_n C 4 rfl d_Sh_fillSchedule_177 rfl ?_
    obtain ⟨k10, ek10, hr⟩ := of_bnd hr
    refine g_getR C fl_Sh_13 ek10 d_Sh_fillSchedule_178 ?_
    refine g_iload_n C 5 rfl d_Sh_fillSchedule_181 rfl ?_
    refine g_bipush (v := 16) C d_Sh_fillSchedule_182 (by decide) ?_
    refine g_isub C d_Sh_fillSchedule_184 ?_
    obtain ⟨v11, ev11, hr⟩ := of_bnd hr
    refine g_iaload C ev11 d_Sh_fillSchedule_185 ?_
    refine g_iadd C d_Sh_fillSchedule_186 ?_
    obtain ⟨h12, eh12, hr⟩ := of_bnd hr
    refine g_iastore C eh12 d_Sh_fillSchedule_187 ?_
    obtain ⟨x13, ex13⟩ : ∃ z, z = a1 + Int32.ofInt 1 := ⟨_, rfl⟩
    have hr := of_lt ex13 hr
    refine g_iinc (lv' := [(1, .int x13), (5, .int x6), (4, .int x5), (3, .int v4), (2, .int v2), (0, .ref a0)]) C 5 rfl d_Sh_fillSchedule_188 ex13.symm (by decide) rfl ?_
    refine g_goto (tgt := 81) C d_Sh_fillSchedule_191 (by decide) ?_
    refine g_lv [5, 0] rfl ?_
    exact hK81 h12 a0 x13 hr
def L_Sh_fillSchedule_81 (K2 : HP → Nat → Int32 → Option (HP)) : Nat → HP → Nat → Int32 → Option (HP)
  | 0, _, _, _ => none
  | f + 1, h, a0, a1 => B_Sh_fillSchedule_81 K2 (L_Sh_fillSchedule_81 K2 f) h a0 a1
theorem lp_Sh_fillSchedule_81 {l : Launch} {x : CX} {h0 h' : HP} (C : EV x b_Sh_fillSchedule "PrimeKeys$Sha256" 6 rm_Sh_fillSchedule) (T : CT x (none) rm_Sh_fillSchedule h0 none h') (hl0 : x.1.2.1 = l) (K2 : HP → Nat → Int32 → Option (HP)) (hK2 : ∀ (h : HP) (a0 : Nat) (a1 : Int32), K2 h a0 a1 = some h' → GG x 0 0 h 2 [(0, .ref a0), (1, .int a1)] []) : ∀ (f : Nat) (h : HP) (a0 : Nat) (a1 : Int32), L_Sh_fillSchedule_81 K2 f h a0 a1 = some h' → GG x 0 0 h 81 [(0, .ref a0), (1, .int a1)] [] := by
  intro f
  induction f with
  | zero => intro h a0 a1 hr; have hr : (none : Option (HP)) = some h' := hr; cases hr
  | succ f ih => intro h a0 a1 hr; exact bk_Sh_fillSchedule_81 C T hl0 K2 (L_Sh_fillSchedule_81 K2 f) hK2 ih h a0 a1 hr
def B_Sh_fillSchedule_2 (K2 : HP → Nat → Int32 → Option (HP)) (h : HP) (a0 : Nat) (a1 : Int32) : Option (HP) :=
  if 16 ≤ a1 then
  L_Sh_fillSchedule_81 K2 FU h a0 16
  else
  lt (4 * a1) fun x14 =>
  bnd (gR h a0 4 1) fun k15 =>
  bnd (gR h a0 4 2) fun k16 =>
  bnd (ldB h k16 x14) fun v17 =>
  bnd (gR h a0 4 2) fun k18 =>
  bnd (ldB h k18 (x14 + 1)) fun v19 =>
  bnd (gR h a0 4 2) fun k20 =>
  bnd (ldB h k20 (x14 + 2)) fun v21 =>
  bnd (gR h a0 4 2) fun k22 =>
  bnd (ldB h k22 (x14 + 3)) fun v23 =>
  bnd (stI h k15 a1 ((((v17 <<< (24 &&& 31)) ||| ((v19 &&& 255) <<< (16 &&& 31))) ||| ((v21 &&& 255) <<< (8 &&& 31))) ||| (v23 &&& 255))) fun h24 =>
  lt (a1 + Int32.ofInt 1) fun x25 =>
  K2 h24 a0 x25
set_option maxHeartbeats 4000000 in
set_option maxRecDepth 100000 in
theorem bk_Sh_fillSchedule_2 {l : Launch} {x : CX} {h0 h' : HP} (C : EV x b_Sh_fillSchedule "PrimeKeys$Sha256" 6 rm_Sh_fillSchedule) (T : CT x (none) rm_Sh_fillSchedule h0 none h') (hl0 : x.1.2.1 = l) (K2 : HP → Nat → Int32 → Option (HP)) (hK2 : ∀ (h : HP) (a0 : Nat) (a1 : Int32), K2 h a0 a1 = some h' → GG x 0 0 h 2 [(0, .ref a0), (1, .int a1)] []) (h : HP) (a0 : Nat) (a1 : Int32) (hr : B_Sh_fillSchedule_2 K2 h a0 a1 = some h') : GG x 0 0 h 2 [(0, .ref a0), (1, .int a1)] [] := by
  unfold B_Sh_fillSchedule_2 at hr
  refine g_iload_n C 1 rfl d_Sh_fillSchedule_2 rfl ?_
  refine g_bipush (v := 16) C d_Sh_fillSchedule_3 (by decide) ?_
  refine g_icmp_ge (tgt := 78) C d_Sh_fillSchedule_5 (by decide) (fun z => ?_) (fun z => ?_)
  · have hr := of_if z hr
    refine g_bipush (v := 16) C d_Sh_fillSchedule_78 (by decide) ?_
    refine g_istore_n (lv' := [(1, .int 16), (0, .ref a0)]) C d_Sh_fillSchedule_80 rfl (by decide) rfl ?_
    refine g_lv [1, 0] rfl ?_
    exact lp_Sh_fillSchedule_81 C T hl0 K2 hK2 FU h a0 16 hr
  · have hr := of_el z hr
    refine g_iconst (v := 4) C d_Sh_fillSchedule_8 (by decide) ?_
    refine g_iload_n C 1 rfl d_Sh_fillSchedule_9 rfl ?_
    refine g_imul C d_Sh_fillSchedule_10 ?_
    refine g_topi (fun x14 ex14 => ?_)
    have hr := of_lt ex14 hr
    refine g_istore_n (lv' := [(2, .int x14), (0, .ref a0), (1, .int a1)]) C d_Sh_fillSchedule_11 rfl (by decide) rfl ?_
    refine g_aload_n C 1 rfl d_Sh_fillSchedule_12 rfl ?_
    obtain ⟨k15, ek15, hr⟩ := of_bnd hr
    refine g_getR C fl_Sh_13 ek15 d_Sh_fillSchedule_13 ?_
    refine g_iload_n C 2 rfl d_Sh_fillSchedule_16 rfl ?_
    refine g_aload_n C 1 rfl d_Sh_fillSchedule_17 rfl ?_
    obtain ⟨k16, ek16, hr⟩ := of_bnd hr
    refine g_getR C fl_Sh_16 ek16 d_Sh_fillSchedule_18 ?_
    refine g_iload_n C 0 rfl d_Sh_fillSchedule_21 rfl ?_
    obtain ⟨v17, ev17, hr⟩ := of_bnd hr
    refine g_baload C ev17 d_Sh_fillSchedule_22 ?_
    refine g_bipush (v := 24) C d_Sh_fillSchedule_23 (by decide) ?_
    refine g_ishl C d_Sh_fillSchedule_25 ?_
    refine g_aload_n C 1 rfl d_Sh_fillSchedule_26 rfl ?_
    obtain ⟨k18, ek18, hr⟩ := of_bnd hr
    refine g_getR C fl_Sh_16 ek18 d_Sh_fillSchedule_27 ?_
    refine g_iload_n C 0 rfl d_Sh_fillSchedule_30 rfl ?_
    refine g_iconst (v := 1) C d_Sh_fillSchedule_31 (by decide) ?_
    refine g_iadd C d_Sh_fillSchedule_32 ?_
    obtain ⟨v19, ev19, hr⟩ := of_bnd hr
    refine g_baload C ev19 d_Sh_fillSchedule_33 ?_
    refine g_sipush (v := 255) C d_Sh_fillSchedule_34 (by decide) ?_
    refine g_iand C d_Sh_fillSchedule_37 ?_
    refine g_bipush (v := 16) C d_Sh_fillSchedule_38 (by decide) ?_
    refine g_ishl C d_Sh_fillSchedule_40 ?_
    refine g_ior C d_Sh_fillSchedule_41 ?_
    refine g_aload_n C 1 rfl d_Sh_fillSchedule_42 rfl ?_
    obtain ⟨k20, ek20, hr⟩ := of_bnd hr
    refine g_getR C fl_Sh_16 ek20 d_Sh_fillSchedule_43 ?_
    refine g_iload_n C 0 rfl d_Sh_fillSchedule_46 rfl ?_
    refine g_iconst (v := 2) C d_Sh_fillSchedule_47 (by decide) ?_
    refine g_iadd C d_Sh_fillSchedule_48 ?_
    obtain ⟨v21, ev21, hr⟩ := of_bnd hr
    refine g_baload C ev21 d_Sh_fillSchedule_49 ?_
    refine g_sipush (v := 255) C d_Sh_fillSchedule_50 (by decide) ?_
    refine g_iand C d_Sh_fillSchedule_53 ?_
    refine g_bipush (v := 8) C d_Sh_fillSchedule_54 (by decide) ?_
    refine g_ishl C d_Sh_fillSchedule_56 ?_
    refine g_ior C d_Sh_fillSchedule_57 ?_
    refine g_aload_n C 1 rfl d_Sh_fillSchedule_58 rfl ?_
    obtain ⟨k22, ek22, hr⟩ := of_bnd hr
    refine g_getR C fl_Sh_16 ek22 d_Sh_fillSchedule_59 ?_
    refine g_iload_n C 0 rfl d_Sh_fillSchedule_62 rfl ?_
    refine g_iconst (v := 3) C d_Sh_fillSchedule_63 (by decide) ?_
    refine g_iadd C d_Sh_fillSchedule_64 ?_
    obtain ⟨v23, ev23, hr⟩ := of_bnd hr
    refine g_baload C ev23 d_Sh_fillSchedule_65 ?_
    refine g_sipush (v := 255) C d_Sh_fillSchedule_66 (by decide) ?_
    refine g_iand C d_Sh_fillSchedule_69 ?_
    refine g_ior C d_Sh_fillSchedule_70 ?_
    obtain ⟨h24, eh24, hr⟩ := of_bnd hr
    refine g_iastore C eh24 d_Sh_fillSchedule_71 ?_
    obtain ⟨x25, ex25⟩ : ∃ z, z = a1 + Int32.ofInt 1 := ⟨_, rfl⟩
    have hr := of_lt ex25 hr
    refine g_iinc (lv' := [(1, .int x25), (2, .int x14), (0, .ref a0)]) C 2 rfl d_Sh_fillSchedule_72 ex25.symm (by decide) rfl ?_
    refine g_goto (tgt := 2) C d_Sh_fillSchedule_75 (by decide) ?_
    refine g_lv [2, 0] rfl ?_
    exact hK2 h24 a0 x25 hr
def L_Sh_fillSchedule_2 : Nat → HP → Nat → Int32 → Option (HP)
  | 0, _, _, _ => none
  | f + 1, h, a0, a1 => B_Sh_fillSchedule_2 (L_Sh_fillSchedule_2 f) h a0 a1
theorem lp_Sh_fillSchedule_2 {l : Launch} {x : CX} {h0 h' : HP} (C : EV x b_Sh_fillSchedule "PrimeKeys$Sha256" 6 rm_Sh_fillSchedule) (T : CT x (none) rm_Sh_fillSchedule h0 none h') (hl0 : x.1.2.1 = l) : ∀ (f : Nat) (h : HP) (a0 : Nat) (a1 : Int32), L_Sh_fillSchedule_2 f h a0 a1 = some h' → GG x 0 0 h 2 [(0, .ref a0), (1, .int a1)] [] := by
  intro f
  induction f with
  | zero => intro h a0 a1 hr; have hr : (none : Option (HP)) = some h' := hr; cases hr
  | succ f ih => intro h a0 a1 hr; exact bk_Sh_fillSchedule_2 C T hl0 (L_Sh_fillSchedule_2 f) ih h a0 a1 hr
def P_Sh_fillSchedule (h : HP) (p0 : Nat) : Option (HP) :=
  L_Sh_fillSchedule_2 FU h p0 0
set_option maxHeartbeats 4000000 in
set_option maxRecDepth 100000 in
theorem c_Sh_fillSchedule {l : Launch} {h h' : HP} {p0 : _} (hr : P_Sh_fillSchedule h p0 = some h') : MP l y_Sh_fillSchedule (Cond.code y_Sh_fillSchedule b_Sh_fillSchedule 6 none :: TB) rm_Sh_fillSchedule h [.ref p0] none h' := by
  refine MP_intro (cc := b_Sh_fillSchedule) (by decide) (Nat.le_of_ble_eq_true rfl) (fun x hl0 C T hin => ?_)
  unfold P_Sh_fillSchedule at hr
  show GG x 0 0 h 0 [(0, .ref p0)] []
  refine g_iconst (v := 0) C d_Sh_fillSchedule_0 (by decide) ?_
  refine g_istore_n (lv' := [(1, .int 0), (0, .ref p0)]) C d_Sh_fillSchedule_1 rfl (by decide) rfl ?_
  refine g_lv [1, 0] rfl ?_
  exact lp_Sh_fillSchedule_2 C T hl0 FU h p0 0 hr
abbrev b_Sh_mixBlock : ByteArray := prog_7_method_7_code
abbrev y_Sh_mixBlock : MethodName := ⟨"PrimeKeys$Sha256", "mixBlock", "()V"⟩
theorem d_Sh_mixBlock_0 : decode b_Sh_mixBlock 0 = .ok (.aload_n 0, 1) := by decide +kernel
theorem d_Sh_mixBlock_1 : decode b_Sh_mixBlock 1 = .ok (.invokevirtual 59, 3) := by decide +kernel
theorem d_Sh_mixBlock_4 : decode b_Sh_mixBlock 4 = .ok (.aload_n 0, 1) := by decide +kernel
theorem d_Sh_mixBlock_5 : decode b_Sh_mixBlock 5 = .ok (.getfield 9, 3) := by decide +kernel
theorem d_Sh_mixBlock_8 : decode b_Sh_mixBlock 8 = .ok (.iconst 0, 1) := by decide +kernel
theorem d_Sh_mixBlock_9 : decode b_Sh_mixBlock 9 = .ok (.iaload, 1) := by decide +kernel
theorem d_Sh_mixBlock_10 : decode b_Sh_mixBlock 10 = .ok (.istore_n 1, 1) := by decide +kernel
theorem d_Sh_mixBlock_11 : decode b_Sh_mixBlock 11 = .ok (.aload_n 0, 1) := by decide +kernel
theorem d_Sh_mixBlock_12 : decode b_Sh_mixBlock 12 = .ok (.getfield 9, 3) := by decide +kernel
theorem d_Sh_mixBlock_15 : decode b_Sh_mixBlock 15 = .ok (.iconst 1, 1) := by decide +kernel
theorem d_Sh_mixBlock_16 : decode b_Sh_mixBlock 16 = .ok (.iaload, 1) := by decide +kernel
theorem d_Sh_mixBlock_17 : decode b_Sh_mixBlock 17 = .ok (.istore_n 2, 1) := by decide +kernel
theorem d_Sh_mixBlock_18 : decode b_Sh_mixBlock 18 = .ok (.aload_n 0, 1) := by decide +kernel
theorem d_Sh_mixBlock_19 : decode b_Sh_mixBlock 19 = .ok (.getfield 9, 3) := by decide +kernel
theorem d_Sh_mixBlock_22 : decode b_Sh_mixBlock 22 = .ok (.iconst 2, 1) := by decide +kernel
theorem d_Sh_mixBlock_23 : decode b_Sh_mixBlock 23 = .ok (.iaload, 1) := by decide +kernel
theorem d_Sh_mixBlock_24 : decode b_Sh_mixBlock 24 = .ok (.istore_n 3, 1) := by decide +kernel
theorem d_Sh_mixBlock_25 : decode b_Sh_mixBlock 25 = .ok (.aload_n 0, 1) := by decide +kernel
theorem d_Sh_mixBlock_26 : decode b_Sh_mixBlock 26 = .ok (.getfield 9, 3) := by decide +kernel
theorem d_Sh_mixBlock_29 : decode b_Sh_mixBlock 29 = .ok (.iconst 3, 1) := by decide +kernel
theorem d_Sh_mixBlock_30 : decode b_Sh_mixBlock 30 = .ok (.iaload, 1) := by decide +kernel
theorem d_Sh_mixBlock_31 : decode b_Sh_mixBlock 31 = .ok (.istore 4, 2) := by decide +kernel
theorem d_Sh_mixBlock_33 : decode b_Sh_mixBlock 33 = .ok (.aload_n 0, 1) := by decide +kernel
theorem d_Sh_mixBlock_34 : decode b_Sh_mixBlock 34 = .ok (.getfield 9, 3) := by decide +kernel
theorem d_Sh_mixBlock_37 : decode b_Sh_mixBlock 37 = .ok (.iconst 4, 1) := by decide +kernel
theorem d_Sh_mixBlock_38 : decode b_Sh_mixBlock 38 = .ok (.iaload, 1) := by decide +kernel
theorem d_Sh_mixBlock_39 : decode b_Sh_mixBlock 39 = .ok (.istore 5, 2) := by decide +kernel
theorem d_Sh_mixBlock_41 : decode b_Sh_mixBlock 41 = .ok (.aload_n 0, 1) := by decide +kernel
theorem d_Sh_mixBlock_42 : decode b_Sh_mixBlock 42 = .ok (.getfield 9, 3) := by decide +kernel
theorem d_Sh_mixBlock_45 : decode b_Sh_mixBlock 45 = .ok (.iconst 5, 1) := by decide +kernel
theorem d_Sh_mixBlock_46 : decode b_Sh_mixBlock 46 = .ok (.iaload, 1) := by decide +kernel
theorem d_Sh_mixBlock_47 : decode b_Sh_mixBlock 47 = .ok (.istore 6, 2) := by decide +kernel
theorem d_Sh_mixBlock_49 : decode b_Sh_mixBlock 49 = .ok (.aload_n 0, 1) := by decide +kernel
theorem d_Sh_mixBlock_50 : decode b_Sh_mixBlock 50 = .ok (.getfield 9, 3) := by decide +kernel
theorem d_Sh_mixBlock_53 : decode b_Sh_mixBlock 53 = .ok (.bipush 6, 2) := by decide +kernel
theorem d_Sh_mixBlock_55 : decode b_Sh_mixBlock 55 = .ok (.iaload, 1) := by decide +kernel
theorem d_Sh_mixBlock_56 : decode b_Sh_mixBlock 56 = .ok (.istore 7, 2) := by decide +kernel
theorem d_Sh_mixBlock_58 : decode b_Sh_mixBlock 58 = .ok (.aload_n 0, 1) := by decide +kernel
theorem d_Sh_mixBlock_59 : decode b_Sh_mixBlock 59 = .ok (.getfield 9, 3) := by decide +kernel
theorem d_Sh_mixBlock_62 : decode b_Sh_mixBlock 62 = .ok (.bipush 7, 2) := by decide +kernel
theorem d_Sh_mixBlock_64 : decode b_Sh_mixBlock 64 = .ok (.iaload, 1) := by decide +kernel
theorem d_Sh_mixBlock_65 : decode b_Sh_mixBlock 65 = .ok (.istore 8, 2) := by decide +kernel
theorem d_Sh_mixBlock_67 : decode b_Sh_mixBlock 67 = .ok (.iconst 0, 1) := by decide +kernel
theorem d_Sh_mixBlock_68 : decode b_Sh_mixBlock 68 = .ok (.istore 9, 2) := by decide +kernel
theorem d_Sh_mixBlock_70 : decode b_Sh_mixBlock 70 = .ok (.iload 9, 2) := by decide +kernel
theorem d_Sh_mixBlock_72 : decode b_Sh_mixBlock 72 = .ok (.bipush 64, 2) := by decide +kernel
theorem d_Sh_mixBlock_74 : decode b_Sh_mixBlock 74 = .ok (.if_icmp .ge 160, 3) := by decide +kernel
theorem d_Sh_mixBlock_77 : decode b_Sh_mixBlock 77 = .ok (.iload 5, 2) := by decide +kernel
theorem d_Sh_mixBlock_79 : decode b_Sh_mixBlock 79 = .ok (.bipush 6, 2) := by decide +kernel
theorem d_Sh_mixBlock_81 : decode b_Sh_mixBlock 81 = .ok (.iushr, 1) := by decide +kernel
theorem d_Sh_mixBlock_82 : decode b_Sh_mixBlock 82 = .ok (.iload 5, 2) := by decide +kernel
theorem d_Sh_mixBlock_84 : decode b_Sh_mixBlock 84 = .ok (.bipush 26, 2) := by decide +kernel
theorem d_Sh_mixBlock_86 : decode b_Sh_mixBlock 86 = .ok (.ishl, 1) := by decide +kernel
theorem d_Sh_mixBlock_87 : decode b_Sh_mixBlock 87 = .ok (.ior, 1) := by decide +kernel
theorem d_Sh_mixBlock_88 : decode b_Sh_mixBlock 88 = .ok (.iload 5, 2) := by decide +kernel
theorem d_Sh_mixBlock_90 : decode b_Sh_mixBlock 90 = .ok (.bipush 11, 2) := by decide +kernel
theorem d_Sh_mixBlock_92 : decode b_Sh_mixBlock 92 = .ok (.iushr, 1) := by decide +kernel
theorem d_Sh_mixBlock_93 : decode b_Sh_mixBlock 93 = .ok (.iload 5, 2) := by decide +kernel
theorem d_Sh_mixBlock_95 : decode b_Sh_mixBlock 95 = .ok (.bipush 21, 2) := by decide +kernel
theorem d_Sh_mixBlock_97 : decode b_Sh_mixBlock 97 = .ok (.ishl, 1) := by decide +kernel
theorem d_Sh_mixBlock_98 : decode b_Sh_mixBlock 98 = .ok (.ior, 1) := by decide +kernel
theorem d_Sh_mixBlock_99 : decode b_Sh_mixBlock 99 = .ok (.ixor, 1) := by decide +kernel
theorem d_Sh_mixBlock_100 : decode b_Sh_mixBlock 100 = .ok (.iload 5, 2) := by decide +kernel
theorem d_Sh_mixBlock_102 : decode b_Sh_mixBlock 102 = .ok (.bipush 25, 2) := by decide +kernel
theorem d_Sh_mixBlock_104 : decode b_Sh_mixBlock 104 = .ok (.iushr, 1) := by decide +kernel
theorem d_Sh_mixBlock_105 : decode b_Sh_mixBlock 105 = .ok (.iload 5, 2) := by decide +kernel
theorem d_Sh_mixBlock_107 : decode b_Sh_mixBlock 107 = .ok (.bipush 7, 2) := by decide +kernel
theorem d_Sh_mixBlock_109 : decode b_Sh_mixBlock 109 = .ok (.ishl, 1) := by decide +kernel
theorem d_Sh_mixBlock_110 : decode b_Sh_mixBlock 110 = .ok (.ior, 1) := by decide +kernel
theorem d_Sh_mixBlock_111 : decode b_Sh_mixBlock 111 = .ok (.ixor, 1) := by decide +kernel
theorem d_Sh_mixBlock_112 : decode b_Sh_mixBlock 112 = .ok (.istore 10, 2) := by decide +kernel
theorem d_Sh_mixBlock_114 : decode b_Sh_mixBlock 114 = .ok (.iload_n 1, 1) := by decide +kernel
theorem d_Sh_mixBlock_115 : decode b_Sh_mixBlock 115 = .ok (.iconst 2, 1) := by decide +kernel
theorem d_Sh_mixBlock_116 : decode b_Sh_mixBlock 116 = .ok (.iushr, 1) := by decide +kernel
theorem d_Sh_mixBlock_117 : decode b_Sh_mixBlock 117 = .ok (.iload_n 1, 1) := by decide +kernel
theorem d_Sh_mixBlock_118 : decode b_Sh_mixBlock 118 = .ok (.bipush 30, 2) := by decide +kernel
theorem d_Sh_mixBlock_120 : decode b_Sh_mixBlock 120 = .ok (.ishl, 1) := by decide +kernel
theorem d_Sh_mixBlock_121 : decode b_Sh_mixBlock 121 = .ok (.ior, 1) := by decide +kernel
theorem d_Sh_mixBlock_122 : decode b_Sh_mixBlock 122 = .ok (.iload_n 1, 1) := by decide +kernel
theorem d_Sh_mixBlock_123 : decode b_Sh_mixBlock 123 = .ok (.bipush 13, 2) := by decide +kernel
theorem d_Sh_mixBlock_125 : decode b_Sh_mixBlock 125 = .ok (.iushr, 1) := by decide +kernel
theorem d_Sh_mixBlock_126 : decode b_Sh_mixBlock 126 = .ok (.iload_n 1, 1) := by decide +kernel
theorem d_Sh_mixBlock_127 : decode b_Sh_mixBlock 127 = .ok (.bipush 19, 2) := by decide +kernel
theorem d_Sh_mixBlock_129 : decode b_Sh_mixBlock 129 = .ok (.ishl, 1) := by decide +kernel
theorem d_Sh_mixBlock_130 : decode b_Sh_mixBlock 130 = .ok (.ior, 1) := by decide +kernel
theorem d_Sh_mixBlock_131 : decode b_Sh_mixBlock 131 = .ok (.ixor, 1) := by decide +kernel
theorem d_Sh_mixBlock_132 : decode b_Sh_mixBlock 132 = .ok (.iload_n 1, 1) := by decide +kernel
theorem d_Sh_mixBlock_133 : decode b_Sh_mixBlock 133 = .ok (.bipush 22, 2) := by decide +kernel
theorem d_Sh_mixBlock_135 : decode b_Sh_mixBlock 135 = .ok (.iushr, 1) := by decide +kernel
theorem d_Sh_mixBlock_136 : decode b_Sh_mixBlock 136 = .ok (.iload_n 1, 1) := by decide +kernel
theorem d_Sh_mixBlock_137 : decode b_Sh_mixBlock 137 = .ok (.bipush 10, 2) := by decide +kernel
theorem d_Sh_mixBlock_139 : decode b_Sh_mixBlock 139 = .ok (.ishl, 1) := by decide +kernel
theorem d_Sh_mixBlock_140 : decode b_Sh_mixBlock 140 = .ok (.ior, 1) := by decide +kernel
theorem d_Sh_mixBlock_141 : decode b_Sh_mixBlock 141 = .ok (.ixor, 1) := by decide +kernel
theorem d_Sh_mixBlock_142 : decode b_Sh_mixBlock 142 = .ok (.istore 11, 2) := by decide +kernel
theorem d_Sh_mixBlock_144 : decode b_Sh_mixBlock 144 = .ok (.iload 8, 2) := by decide +kernel
theorem d_Sh_mixBlock_146 : decode b_Sh_mixBlock 146 = .ok (.iload 10, 2) := by decide +kernel
theorem d_Sh_mixBlock_148 : decode b_Sh_mixBlock 148 = .ok (.iadd, 1) := by decide +kernel
theorem d_Sh_mixBlock_149 : decode b_Sh_mixBlock 149 = .ok (.iload 5, 2) := by decide +kernel
theorem d_Sh_mixBlock_151 : decode b_Sh_mixBlock 151 = .ok (.iload 6, 2) := by decide +kernel
theorem d_Sh_mixBlock_153 : decode b_Sh_mixBlock 153 = .ok (.iand, 1) := by decide +kernel
theorem d_Sh_mixBlock_154 : decode b_Sh_mixBlock 154 = .ok (.iload 5, 2) := by decide +kernel
theorem d_Sh_mixBlock_156 : decode b_Sh_mixBlock 156 = .ok (.iconst (-1), 1) := by decide +kernel
theorem d_Sh_mixBlock_157 : decode b_Sh_mixBlock 157 = .ok (.ixor, 1) := by decide +kernel
theorem d_Sh_mixBlock_158 : decode b_Sh_mixBlock 158 = .ok (.iload 7, 2) := by decide +kernel
theorem d_Sh_mixBlock_160 : decode b_Sh_mixBlock 160 = .ok (.iand, 1) := by decide +kernel
theorem d_Sh_mixBlock_161 : decode b_Sh_mixBlock 161 = .ok (.ixor, 1) := by decide +kernel
theorem d_Sh_mixBlock_162 : decode b_Sh_mixBlock 162 = .ok (.iadd, 1) := by decide +kernel
theorem d_Sh_mixBlock_163 : decode b_Sh_mixBlock 163 = .ok (.getstatic 62, 3) := by decide +kernel
theorem d_Sh_mixBlock_166 : decode b_Sh_mixBlock 166 = .ok (.iload 9, 2) := by decide +kernel
theorem d_Sh_mixBlock_168 : decode b_Sh_mixBlock 168 = .ok (.iaload, 1) := by decide +kernel
theorem d_Sh_mixBlock_169 : decode b_Sh_mixBlock 169 = .ok (.iadd, 1) := by decide +kernel
theorem d_Sh_mixBlock_170 : decode b_Sh_mixBlock 170 = .ok (.aload_n 0, 1) := by decide +kernel
theorem d_Sh_mixBlock_171 : decode b_Sh_mixBlock 171 = .ok (.getfield 13, 3) := by decide +kernel
theorem d_Sh_mixBlock_174 : decode b_Sh_mixBlock 174 = .ok (.iload 9, 2) := by decide +kernel
theorem d_Sh_mixBlock_176 : decode b_Sh_mixBlock 176 = .ok (.iaload, 1) := by decide +kernel
theorem d_Sh_mixBlock_177 : decode b_Sh_mixBlock 177 = .ok (.iadd, 1) := by decide +kernel
theorem d_Sh_mixBlock_178 : decode b_Sh_mixBlock 178 = .ok (.istore 12, 2) := by decide +kernel
theorem d_Sh_mixBlock_180 : decode b_Sh_mixBlock 180 = .ok (.iload 11, 2) := by decide +kernel
theorem d_Sh_mixBlock_182 : decode b_Sh_mixBlock 182 = .ok (.iload_n 1, 1) := by decide +kernel
theorem d_Sh_mixBlock_183 : decode b_Sh_mixBlock 183 = .ok (.iload_n 2, 1) := by decide +kernel
theorem d_Sh_mixBlock_184 : decode b_Sh_mixBlock 184 = .ok (.iand, 1) := by decide +kernel
theorem d_Sh_mixBlock_185 : decode b_Sh_mixBlock 185 = .ok (.iload_n 1, 1) := by decide +kernel
theorem d_Sh_mixBlock_186 : decode b_Sh_mixBlock 186 = .ok (.iload_n 3, 1) := by decide +kernel
theorem d_Sh_mixBlock_187 : decode b_Sh_mixBlock 187 = .ok (.iand, 1) := by decide +kernel
theorem d_Sh_mixBlock_188 : decode b_Sh_mixBlock 188 = .ok (.ixor, 1) := by decide +kernel
theorem d_Sh_mixBlock_189 : decode b_Sh_mixBlock 189 = .ok (.iload_n 2, 1) := by decide +kernel
theorem d_Sh_mixBlock_190 : decode b_Sh_mixBlock 190 = .ok (.iload_n 3, 1) := by decide +kernel
theorem d_Sh_mixBlock_191 : decode b_Sh_mixBlock 191 = .ok (.iand, 1) := by decide +kernel
theorem d_Sh_mixBlock_192 : decode b_Sh_mixBlock 192 = .ok (.ixor, 1) := by decide +kernel
theorem d_Sh_mixBlock_193 : decode b_Sh_mixBlock 193 = .ok (.iadd, 1) := by decide +kernel
theorem d_Sh_mixBlock_194 : decode b_Sh_mixBlock 194 = .ok (.istore 13, 2) := by decide +kernel
theorem d_Sh_mixBlock_196 : decode b_Sh_mixBlock 196 = .ok (.iload 7, 2) := by decide +kernel
theorem d_Sh_mixBlock_198 : decode b_Sh_mixBlock 198 = .ok (.istore 8, 2) := by decide +kernel
theorem d_Sh_mixBlock_200 : decode b_Sh_mixBlock 200 = .ok (.iload 6, 2) := by decide +kernel
theorem d_Sh_mixBlock_202 : decode b_Sh_mixBlock 202 = .ok (.istore 7, 2) := by decide +kernel
theorem d_Sh_mixBlock_204 : decode b_Sh_mixBlock 204 = .ok (.iload 5, 2) := by decide +kernel
theorem d_Sh_mixBlock_206 : decode b_Sh_mixBlock 206 = .ok (.istore 6, 2) := by decide +kernel
theorem d_Sh_mixBlock_208 : decode b_Sh_mixBlock 208 = .ok (.iload 4, 2) := by decide +kernel
theorem d_Sh_mixBlock_210 : decode b_Sh_mixBlock 210 = .ok (.iload 12, 2) := by decide +kernel
theorem d_Sh_mixBlock_212 : decode b_Sh_mixBlock 212 = .ok (.iadd, 1) := by decide +kernel
theorem d_Sh_mixBlock_213 : decode b_Sh_mixBlock 213 = .ok (.istore 5, 2) := by decide +kernel
theorem d_Sh_mixBlock_215 : decode b_Sh_mixBlock 215 = .ok (.iload_n 3, 1) := by decide +kernel
theorem d_Sh_mixBlock_216 : decode b_Sh_mixBlock 216 = .ok (.istore 4, 2) := by decide +kernel
theorem d_Sh_mixBlock_218 : decode b_Sh_mixBlock 218 = .ok (.iload_n 2, 1) := by decide +kernel
theorem d_Sh_mixBlock_219 : decode b_Sh_mixBlock 219 = .ok (.istore_n 3, 1) := by decide +kernel
theorem d_Sh_mixBlock_220 : decode b_Sh_mixBlock 220 = .ok (.iload_n 1, 1) := by decide +kernel
theorem d_Sh_mixBlock_221 : decode b_Sh_mixBlock 221 = .ok (.istore_n 2, 1) := by decide +kernel
theorem d_Sh_mixBlock_222 : decode b_Sh_mixBlock 222 = .ok (.iload 12, 2) := by decide +kernel
theorem d_Sh_mixBlock_224 : decode b_Sh_mixBlock 224 = .ok (.iload 13, 2) := by decide +kernel
theorem d_Sh_mixBlock_226 : decode b_Sh_mixBlock 226 = .ok (.iadd, 1) := by decide +kernel
theorem d_Sh_mixBlock_227 : decode b_Sh_mixBlock 227 = .ok (.istore_n 1, 1) := by decide +kernel
theorem d_Sh_mixBlock_228 : decode b_Sh_mixBlock 228 = .ok (.iinc 9 1, 3) := by decide +kernel
theorem d_Sh_mixBlock_231 : decode b_Sh_mixBlock 231 = .ok (.goto (-161), 3) := by decide +kernel
theorem d_Sh_mixBlock_234 : decode b_Sh_mixBlock 234 = .ok (.aload_n 0, 1) := by decide +kernel
theorem d_Sh_mixBlock_235 : decode b_Sh_mixBlock 235 = .ok (.getfield 9, 3) := by decide +kernel
theorem d_Sh_mixBlock_238 : decode b_Sh_mixBlock 238 = .ok (.iconst 0, 1) := by decide +kernel
theorem d_Sh_mixBlock_239 : decode b_Sh_mixBlock 239 = .ok (.dup2, 1) := by decide +kernel
theorem d_Sh_mixBlock_240 : decode b_Sh_mixBlock 240 = .ok (.iaload, 1) := by decide +kernel
theorem d_Sh_mixBlock_241 : decode b_Sh_mixBlock 241 = .ok (.iload_n 1, 1) := by decide +kernel
theorem d_Sh_mixBlock_242 : decode b_Sh_mixBlock 242 = .ok (.iadd, 1) := by decide +kernel
theorem d_Sh_mixBlock_243 : decode b_Sh_mixBlock 243 = .ok (.iastore, 1) := by decide +kernel
theorem d_Sh_mixBlock_244 : decode b_Sh_mixBlock 244 = .ok (.aload_n 0, 1) := by decide +kernel
theorem d_Sh_mixBlock_245 : decode b_Sh_mixBlock 245 = .ok (.getfield 9, 3) := by decide +kernel
theorem d_Sh_mixBlock_248 : decode b_Sh_mixBlock 248 = .ok (.iconst 1, 1) := by decide +kernel
theorem d_Sh_mixBlock_249 : decode b_Sh_mixBlock 249 = .ok (.dup2, 1) := by decide +kernel
theorem d_Sh_mixBlock_250 : decode b_Sh_mixBlock 250 = .ok (.iaload, 1) := by decide +kernel
theorem d_Sh_mixBlock_251 : decode b_Sh_mixBlock 251 = .ok (.iload_n 2, 1) := by decide +kernel
theorem d_Sh_mixBlock_252 : decode b_Sh_mixBlock 252 = .ok (.iadd, 1) := by decide +kernel
theorem d_Sh_mixBlock_253 : decode b_Sh_mixBlock 253 = .ok (.iastore, 1) := by decide +kernel
theorem d_Sh_mixBlock_254 : decode b_Sh_mixBlock 254 = .ok (.aload_n 0, 1) := by decide +kernel
theorem d_Sh_mixBlock_255 : decode b_Sh_mixBlock 255 = .ok (.getfield 9, 3) := by decide +kernel
theorem d_Sh_mixBlock_258 : decode b_Sh_mixBlock 258 = .ok (.iconst 2, 1) := by decide +kernel
theorem d_Sh_mixBlock_259 : decode b_Sh_mixBlock 259 = .ok (.dup2, 1) := by decide +kernel
theorem d_Sh_mixBlock_260 : decode b_Sh_mixBlock 260 = .ok (.iaload, 1) := by decide +kernel
theorem d_Sh_mixBlock_261 : decode b_Sh_mixBlock 261 = .ok (.iload_n 3, 1) := by decide +kernel
theorem d_Sh_mixBlock_262 : decode b_Sh_mixBlock 262 = .ok (.iadd, 1) := by decide +kernel
theorem d_Sh_mixBlock_263 : decode b_Sh_mixBlock 263 = .ok (.iastore, 1) := by decide +kernel
theorem d_Sh_mixBlock_264 : decode b_Sh_mixBlock 264 = .ok (.aload_n 0, 1) := by decide +kernel
theorem d_Sh_mixBlock_265 : decode b_Sh_mixBlock 265 = .ok (.getfield 9, 3) := by decide +kernel
theorem d_Sh_mixBlock_268 : decode b_Sh_mixBlock 268 = .ok (.iconst 3, 1) := by decide +kernel
theorem d_Sh_mixBlock_269 : decode b_Sh_mixBlock 269 = .ok (.dup2, 1) := by decide +kernel
theorem d_Sh_mixBlock_270 : decode b_Sh_mixBlock 270 = .ok (.iaload, 1) := by decide +kernel
theorem d_Sh_mixBlock_271 : decode b_Sh_mixBlock 271 = .ok (.iload 4, 2) := by decide +kernel
theorem d_Sh_mixBlock_273 : decode b_Sh_mixBlock 273 = .ok (.iadd, 1) := by decide +kernel
theorem d_Sh_mixBlock_274 : decode b_Sh_mixBlock 274 = .ok (.iastore, 1) := by decide +kernel
theorem d_Sh_mixBlock_275 : decode b_Sh_mixBlock 275 = .ok (.aload_n 0, 1) := by decide +kernel
theorem d_Sh_mixBlock_276 : decode b_Sh_mixBlock 276 = .ok (.getfield 9, 3) := by decide +kernel
theorem d_Sh_mixBlock_279 : decode b_Sh_mixBlock 279 = .ok (.iconst 4, 1) := by decide +kernel
theorem d_Sh_mixBlock_280 : decode b_Sh_mixBlock 280 = .ok (.dup2, 1) := by decide +kernel
theorem d_Sh_mixBlock_281 : decode b_Sh_mixBlock 281 = .ok (.iaload, 1) := by decide +kernel
theorem d_Sh_mixBlock_282 : decode b_Sh_mixBlock 282 = .ok (.iload 5, 2) := by decide +kernel
theorem d_Sh_mixBlock_284 : decode b_Sh_mixBlock 284 = .ok (.iadd, 1) := by decide +kernel
theorem d_Sh_mixBlock_285 : decode b_Sh_mixBlock 285 = .ok (.iastore, 1) := by decide +kernel
theorem d_Sh_mixBlock_286 : decode b_Sh_mixBlock 286 = .ok (.aload_n 0, 1) := by decide +kernel
theorem d_Sh_mixBlock_287 : decode b_Sh_mixBlock 287 = .ok (.getfield 9, 3) := by decide +kernel
theorem d_Sh_mixBlock_290 : decode b_Sh_mixBlock 290 = .ok (.iconst 5, 1) := by decide +kernel
theorem d_Sh_mixBlock_291 : decode b_Sh_mixBlock 291 = .ok (.dup2, 1) := by decide +kernel
theorem d_Sh_mixBlock_292 : decode b_Sh_mixBlock 292 = .ok (.iaload, 1) := by decide +kernel
theorem d_Sh_mixBlock_293 : decode b_Sh_mixBlock 293 = .ok (.iload 6, 2) := by decide +kernel
theorem d_Sh_mixBlock_295 : decode b_Sh_mixBlock 295 = .ok (.iadd, 1) := by decide +kernel
theorem d_Sh_mixBlock_296 : decode b_Sh_mixBlock 296 = .ok (.iastore, 1) := by decide +kernel
theorem d_Sh_mixBlock_297 : decode b_Sh_mixBlock 297 = .ok (.aload_n 0, 1) := by decide +kernel
theorem d_Sh_mixBlock_298 : decode b_Sh_mixBlock 298 = .ok (.getfield 9, 3) := by decide +kernel
theorem d_Sh_mixBlock_301 : decode b_Sh_mixBlock 301 = .ok (.bipush 6, 2) := by decide +kernel
theorem d_Sh_mixBlock_303 : decode b_Sh_mixBlock 303 = .ok (.dup2, 1) := by decide +kernel
theorem d_Sh_mixBlock_304 : decode b_Sh_mixBlock 304 = .ok (.iaload, 1) := by decide +kernel
theorem d_Sh_mixBlock_305 : decode b_Sh_mixBlock 305 = .ok (.iload 7, 2) := by decide +kernel
theorem d_Sh_mixBlock_307 : decode b_Sh_mixBlock 307 = .ok (.iadd, 1) := by decide +kernel
theorem d_Sh_mixBlock_308 : decode b_Sh_mixBlock 308 = .ok (.iastore, 1) := by decide +kernel
theorem d_Sh_mixBlock_309 : decode b_Sh_mixBlock 309 = .ok (.aload_n 0, 1) := by decide +kernel
theorem d_Sh_mixBlock_310 : decode b_Sh_mixBlock 310 = .ok (.getfield 9, 3) := by decide +kernel
theorem d_Sh_mixBlock_313 : decode b_Sh_mixBlock 313 = .ok (.bipush 7, 2) := by decide +kernel
theorem d_Sh_mixBlock_315 : decode b_Sh_mixBlock 315 = .ok (.dup2, 1) := by decide +kernel
theorem d_Sh_mixBlock_316 : decode b_Sh_mixBlock 316 = .ok (.iaload, 1) := by decide +kernel
theorem d_Sh_mixBlock_317 : decode b_Sh_mixBlock 317 = .ok (.iload 8, 2) := by decide +kernel
theorem d_Sh_mixBlock_319 : decode b_Sh_mixBlock 319 = .ok (.iadd, 1) := by decide +kernel
theorem d_Sh_mixBlock_320 : decode b_Sh_mixBlock 320 = .ok (.iastore, 1) := by decide +kernel
theorem d_Sh_mixBlock_321 : decode b_Sh_mixBlock 321 = .ok (.aload_n 0, 1) := by decide +kernel
theorem d_Sh_mixBlock_322 : decode b_Sh_mixBlock 322 = .ok (.iconst 0, 1) := by decide +kernel
theorem d_Sh_mixBlock_323 : decode b_Sh_mixBlock 323 = .ok (.putfield 20, 3) := by decide +kernel
theorem d_Sh_mixBlock_326 : decode b_Sh_mixBlock 326 = .ok (.return_, 1) := by decide +kernel
theorem kw_9 : Cond.fieldLink "PrimeKeys$Sha256" 62 (stC 1) (stN 1) "[I" ∈ TB := tb_2 (List.mem_of_getElem? (i := 126) (by decide +kernel)) rfl
theorem cd_Sh_59 : CD "PrimeKeys$Sha256" 59 y_Sh_fillSchedule b_Sh_fillSchedule 6 none 0 := ⟨tb_2 (List.mem_of_getElem? (i := 125) rfl) rfl, tb_1 (List.mem_of_getElem? (i := 2) (by decide +kernel)) rfl, tb_2 (List.mem_of_getElem? (i := 122) (by decide +kernel)) rfl, by decide +kernel⟩
theorem kw_in_Sh_fillSchedule : Cond.instanceMethod y_Sh_fillSchedule ∈ TB := tb_2 (List.mem_of_getElem? (i := 124) (by decide +kernel)) rfl
theorem kw_se_Sh_fillSchedule : Cond.selects "PrimeKeys$Sha256" y_Sh_fillSchedule y_Sh_fillSchedule ∈ TB := tb_p (q := (y_Sh_fillSchedule, 5)) (by decide +kernel)
abbrev rm_Sh_mixBlock : Room := { frames := 1, cells := 0, slots := 0, locals := 25 }
def B_Sh_mixBlock_70 (K70 : HP → Nat → Int32 → Int32 → Int32 → Int32 → Int32 → Int32 → Int32 → Int32 → Int32 → Option (HP)) (h : HP) (a0 : Nat) (a1 : Int32) (a2 : Int32) (a3 : Int32) (a4 : Int32) (a5 : Int32) (a6 : Int32) (a7 : Int32) (a8 : Int32) (a9 : Int32) : Option (HP) :=
  if 64 ≤ a9 then
  bnd (gR h a0 4 0) fun k18 =>
  bnd (ldI h k18 0) fun v19 =>
  bnd (stI h k18 0 (v19 + a1)) fun h20 =>
  bnd (gR h20 a0 4 0) fun k21 =>
  bnd (ldI h20 k21 1) fun v22 =>
  bnd (stI h20 k21 1 (v22 + a2)) fun h23 =>
  bnd (gR h23 a0 4 0) fun k24 =>
  bnd (ldI h23 k24 2) fun v25 =>
  bnd (stI h23 k24 2 (v25 + a3)) fun h26 =>
  bnd (gR h26 a0 4 0) fun k27 =>
  bnd (ldI h26 k27 3) fun v28 =>
  bnd (stI h26 k27 3 (v28 + a4)) fun h29 =>
  bnd (gR h29 a0 4 0) fun k30 =>
  bnd (ldI h29 k30 4) fun v31 =>
  bnd (stI h29 k30 4 (v31 + a5)) fun h32 =>
  bnd (gR h32 a0 4 0) fun k33 =>
  bnd (ldI h32 k33 5) fun v34 =>
  bnd (stI h32 k33 5 (v34 + a6)) fun h35 =>
  bnd (gR h35 a0 4 0) fun k36 =>
  bnd (ldI h35 k36 6) fun v37 =>
  bnd (stI h35 k36 6 (v37 + a7)) fun h38 =>
  bnd (gR h38 a0 4 0) fun k39 =>
  bnd (ldI h38 k39 7) fun v40 =>
  bnd (stI h38 k39 7 (v40 + a8)) fun h41 =>
  bnd (pV h41 a0 4 3 (.int 0)) fun h42 =>
  some h42
  else
  lt (((((a5.toUInt32 >>> (Int32.toUInt32 6 &&& Int32.toUInt32 31)).toInt32) ||| (a5 <<< (26 &&& 31))) ^^^ (((a5.toUInt32 >>> (Int32.toUInt32 11 &&& Int32.toUInt32 31)).toInt32) ||| (a5 <<< (21 &&& 31)))) ^^^ (((a5.toUInt32 >>> (Int32.toUInt32 25 &&& Int32.toUInt32 31)).toInt32) ||| (a5 <<< (7 &&& 31)))) fun x43 =>
  lt (((((a1.toUInt32 >>> (Int32.toUInt32 2 &&& Int32.toUInt32 31)).toInt32) ||| (a1 <<< (30 &&& 31))) ^^^ (((a1.toUInt32 >>> (Int32.toUInt32 13 &&& Int32.toUInt32 31)).toInt32) ||| (a1 <<< (19 &&& 31)))) ^^^ (((a1.toUInt32 >>> (Int32.toUInt32 22 &&& Int32.toUInt32 31)).toInt32) ||| (a1 <<< (10 &&& 31)))) fun x44 =>
  bnd (tdI 1 a9) fun v45 =>
  bnd (gR h a0 4 1) fun k46 =>
  bnd (ldI h k46 a9) fun v47 =>
  lt ((((a8 + x43) + ((a5 &&& a6) ^^^ ((a5 ^^^ ((-1))) &&& a7))) + v45) + v47) fun x48 =>
  lt (x44 + (((a1 &&& a2) ^^^ (a1 &&& a3)) ^^^ (a2 &&& a3))) fun x49 =>
  lt (a4 + x48) fun x50 =>
  lt (x48 + x49) fun x51 =>
  lt (a9 + Int32.ofInt 1) fun x52 =>
  K70 h a0 x51 a1 a2 a3 x50 a5 a6 a7 x52
set_option maxHeartbeats 4000000 in
set_option maxRecDepth 100000 in
theorem bk_Sh_mixBlock_70 {l : Launch} {x : CX} {h0 h' : HP} (C : EV x b_Sh_mixBlock "PrimeKeys$Sha256" 14 rm_Sh_mixBlock) (T : CT x (none) rm_Sh_mixBlock h0 none h') (hl0 : x.1.2.1 = l) (K70 : HP → Nat → Int32 → Int32 → Int32 → Int32 → Int32 → Int32 → Int32 → Int32 → Int32 → Option (HP)) (hK70 : ∀ (h : HP) (a0 : Nat) (a1 : Int32) (a2 : Int32) (a3 : Int32) (a4 : Int32) (a5 : Int32) (a6 : Int32) (a7 : Int32) (a8 : Int32) (a9 : Int32), K70 h a0 a1 a2 a3 a4 a5 a6 a7 a8 a9 = some h' → GG x 0 0 h 70 [(0, .ref a0), (1, .int a1), (2, .int a2), (3, .int a3), (4, .int a4), (5, .int a5), (6, .int a6), (7, .int a7), (8, .int a8), (9, .int a9)] []) (h : HP) (a0 : Nat) (a1 : Int32) (a2 : Int32) (a3 : Int32) (a4 : Int32) (a5 : Int32) (a6 : Int32) (a7 : Int32) (a8 : Int32) (a9 : Int32) (hr : B_Sh_mixBlock_70 K70 h a0 a1 a2 a3 a4 a5 a6 a7 a8 a9 = some h') : GG x 0 0 h 70 [(0, .ref a0), (1, .int a1), (2, .int a2), (3, .int a3), (4, .int a4), (5, .int a5), (6, .int a6), (7, .int a7), (8, .int a8), (9, .int a9)] [] := by
  unfold B_Sh_mixBlock_70 at hr
  refine g_iload C 9 rfl d_Sh_mixBlock_70 ?_
  refine g_bipush (v := 64) C d_Sh_mixBlock_72 (by decide) ?_
  refine g_icmp_ge (tgt := 234) C d_Sh_mixBlock_74 (by decide) (fun z => ?_) (fun z => ?_)
  · have hr := of_if z hr
    refine g_aload_n C 0 rfl d_Sh_mixBlock_234 rfl ?_
    obtain ⟨k18, ek18, hr⟩ := of_bnd hr
    refine g_getR C fl_Sh_9 ek18 d_Sh_mixBlock_235 ?_
    refine g_iconst (v := 0) C d_Sh_mixBlock_238 (by decide) ?_
    refine g_dup2_11 C d_Sh_mixBlock_239 rfl rfl ?_
    obtain ⟨v19, ev19, hr⟩ := of_bnd hr
    refine g_iaload C ev19 d_Sh_mixBlock_240 ?_
    refine g_iload_n C 1 rfl d_Sh_mixBlock_241 rfl ?_
    refine g_iadd C d_Sh_mixBlock_242 ?_
    obtain ⟨h20, eh20, hr⟩ := of_bnd hr
    refine g_iastore C eh20 d_Sh_mixBlock_243 ?_
    refine g_aload_n C 0 rfl d_Sh_mixBlock_244 rfl ?_
    obtain ⟨k21, ek21, hr⟩ := of_bnd hr
    refine g_getR C fl_Sh_9 ek21 d_Sh_mixBlock_245 ?_
    refine g_iconst (v := 1) C d_Sh_mixBlock_248 (by decide) ?_
    refine g_dup2_11 C d_Sh_mixBlock_249 rfl rfl ?_
    obtain ⟨v22, ev22, hr⟩ := of_bnd hr
    refine g_iaload C ev22 d_Sh_mixBlock_250 ?_
    refine g_iload_n C 2 rfl d_Sh_mixBlock_251 rfl ?_
    refine g_iadd C d_Sh_mixBlock_252 ?_
    obtain ⟨h23, eh23, hr⟩ := of_bnd hr
    refine g_iastore C eh23 d_Sh_mixBlock_253 ?_
    refine g_aload_n C 0 rfl d_Sh_mixBlock_254 rfl ?_
    obtain ⟨k24, ek24, hr⟩ := of_bnd hr
    refine g_getR C fl_Sh_9 ek24 d_Sh_mixBlock_255 ?_
    refine g_iconst (v := 2) C d_Sh_mixBlock_258 (by decide) ?_
    refine g_dup2_11 C d_Sh_mixBlock_259 rfl rfl ?_
    obtain ⟨v25, ev25, hr⟩ := of_bnd hr
    refine g_iaload C ev25 d_Sh_mixBlock_260 ?_
    refine g_iload_n C 3 rfl d_Sh_mixBlock_261 rfl ?_
    refine g_iadd C d_Sh_mixBlock_262 ?_
    obtain ⟨h26, eh26, hr⟩ := of_bnd hr
    refine g_iastore C eh26 d_Sh_mixBlock_263 ?_
    refine g_aload_n C 0 rfl d_Sh_mixBlock_264 rfl ?_
    obtain ⟨k27, ek27, hr⟩ := of_bnd hr
    refine g_getR C fl_Sh_9 ek27 d_Sh_mixBlock_265 ?_
    refine g_iconst (v := 3) C d_Sh_mixBlock_268 (by decide) ?_
    refine g_dup2_11 C d_Sh_mixBlock_269 rfl rfl ?_
    obtain ⟨v28, ev28, hr⟩ := of_bnd hr
    refine g_iaload C ev28 d_Sh_mixBlock_270 ?_
    refine g_iload C 4 rfl d_Sh_mixBlock_271 ?_
    refine g_iadd C d_Sh_mixBlock_273 ?_
    obtain ⟨h29, eh29, hr⟩ := of_bnd hr
    refine g_iastore C eh29 d_Sh_mixBlock_274 ?_
    refine g_aload_n C 0 rfl d_Sh_mixBlock_275 rfl ?_
    obtain ⟨k30, ek30, hr⟩ := of_bnd hr
    refine g_getR C fl_Sh_9 ek30 d_Sh_mixBlock_276 ?_
    refine g_iconst (v := 4) C d_Sh_mixBlock_279 (by decide) ?_
    refine g_dup2_11 C d_Sh_mixBlock_280 rfl rfl ?_
    obtain ⟨v31, ev31, hr⟩ := of_bnd hr
    refine g_iaload C ev31 d_Sh_mixBlock_281 ?_
    refine g_iload C 5 rfl d_Sh_mixBlock_282 ?_
    refine g_iadd C d_Sh_mixBlock_284 ?_
    obtain ⟨h32, eh32, hr⟩ := of_bnd hr
    refine g_iastore C eh32 d_Sh_mixBlock_285 ?_
    refine g_aload_n C 0 rfl d_Sh_mixBlock_286 rfl ?_
    obtain ⟨k33, ek33, hr⟩ := of_bnd hr
    refine g_getR C fl_Sh_9 ek33 d_Sh_mixBlock_287 ?_
    refine g_iconst (v := 5) C d_Sh_mixBlock_290 (by decide) ?_
    refine g_dup2_11 C d_Sh_mixBlock_291 rfl rfl ?_
    obtain ⟨v34, ev34, hr⟩ := of_bnd hr
    refine g_iaload C ev34 d_Sh_mixBlock_292 ?_
    refine g_iload C 6 rfl d_Sh_mixBlock_293 ?_
    refine g_iadd C d_Sh_mixBlock_295 ?_
    obtain ⟨h35, eh35, hr⟩ := of_bnd hr
    refine g_iastore C eh35 d_Sh_mixBlock_296 ?_
    refine g_aload_n C 0 rfl d_Sh_mixBlock_297 rfl ?_
    obtain ⟨k36, ek36, hr⟩ := of_bnd hr
    refine g_getR C fl_Sh_9 ek36 d_Sh_mixBlock_298 ?_
    refine g_bipush (v := 6) C d_Sh_mixBlock_301 (by decide) ?_
    refine g_dup2_11 C d_Sh_mixBlock_303 rfl rfl ?_
    obtain ⟨v37, ev37, hr⟩ := of_bnd hr
    refine g_iaload C ev37 d_Sh_mixBlock_304 ?_
    refine g_iload C 7 rfl d_Sh_mixBlock_305 ?_
    refine g_iadd C d_Sh_mixBlock_307 ?_
    obtain ⟨h38, eh38, hr⟩ := of_bnd hr
    refine g_iastore C eh38 d_Sh_mixBlock_308 ?_
    refine g_aload_n C 0 rfl d_Sh_mixBlock_309 rfl ?_
    obtain ⟨k39, ek39, hr⟩ := of_bnd hr
    refine g_getR C fl_Sh_9 ek39 d_Sh_mixBlock_310 ?_
    refine g_bipush (v := 7) C d_Sh_mixBlock_313 (by decide) ?_
    refine g_dup2_11 C d_Sh_mixBlock_315 rfl rfl ?_
    obtain ⟨v40, ev40, hr⟩ := of_bnd hr
    refine g_iaload C ev40 d_Sh_mixBlock_316 ?_
    refine g_iload C 8 rfl d_Sh_mixBlock_317 ?_
    refine g_iadd C d_Sh_mixBlock_319 ?_
    obtain ⟨h41, eh41, hr⟩ := of_bnd hr
    refine g_iastore C eh41 d_Sh_mixBlock_320 ?_
    refine g_aload_n C 0 rfl d_Sh_mixBlock_321 rfl ?_
    refine g_iconst (v := 0) C d_Sh_mixBlock_322 (by decide) ?_
    obtain ⟨h42, eh42, hr⟩ := of_bnd hr
    refine g_putI C fp_Sh_20 eh42 d_Sh_mixBlock_323 ?_
    cases hr
    exact g_vreturn C T (by decide) (by decide) d_Sh_mixBlock_326
  · have hr := of_el z hr
    refine g_iload C 5 rfl d_Sh_mixBlock_77 ?_
    refine g_bipush (v := 6) C d_Sh_mixBlock_79 (by decide) ?_
    refine g_iushr C d_Sh_mixBlock_81 ?_
    refine g_iload C 5 rfl d_Sh_mixBlock_82 ?_
    refine g_bipush (v := 26) C d_Sh_mixBlock_84 (by decide) ?_
    refine g_ishl C d_Sh_mixBlock_86 ?_
    refine g_ior C d_Sh_mixBlock_87 ?_
    refine g_iload C 5 rfl d_Sh_mixBlock_88 ?_
    refine g_bipush (v := 11) C d_Sh_mixBlock_90 (by decide) ?_
    refine g_iushr C d_Sh_mixBlock_92 ?_
    refine g_iload C 5 rfl d_Sh_mixBlock_93 ?_
    refine g_bipush (v := 21) C d_Sh_mixBlock_95 (by decide) ?_
    refine g_ishl C d_Sh_mixBlock_97 ?_
    refine g_ior C d_Sh_mixBlock_98 ?_
    refine g_ixor C d_Sh_mixBlock_99 ?_
    refine g_iload C 5 rfl d_Sh_mixBlock_100 ?_
    refine g_bipush (v := 25) C d_Sh_mixBlock_102 (by decide) ?_
    refine g_iushr C d_Sh_mixBlock_104 ?_
    refine g_iload C 5 rfl d_Sh_mixBlock_105 ?_
    refine g_bipush (v := 7) C d_Sh_mixBlock_107 (by decide) ?_
    refine g_ishl C d_Sh_mixBlock_109 ?_
    refine g_ior C d_Sh_mixBlock_110 ?_
    refine g_ixor C d_Sh_mixBlock_111 ?_
    refine g_topi (fun x43 ex43 => ?_)
    have hr := of_lt ex43 hr
    refine g_istore (lv' := [(10, .int x43), (0, .ref a0), (1, .int a1), (2, .int a2), (3, .int a3), (4, .int a4), (5, .int a5), (6, .int a6), (7, .int a7), (8, .int a8), (9, .int a9)]) C d_Sh_mixBlock_112 (by decide) rfl ?_
    refine g_iload_n C 2 rfl d_Sh_mixBlock_114 rfl ?_
    refine g_iconst (v := 2) C d_Sh_mixBlock_115 (by decide) ?_
    refine g_iushr C d_Sh_mixBlock_116 ?_
    refine g_iload_n C 2 rfl d_Sh_mixBlock_117 rfl ?_
    refine g_bipush (v := 30) C d_Sh_mixBlock_118 (by decide) ?_
    refine g_ishl C d_Sh_mixBlock_120 ?_
    refine g_ior C d_Sh_mixBlock_121 ?_
    refine g_iload_n C 2 rfl d_Sh_mixBlock_122 rfl ?_
    refine g_bipush (v := 13) C d_Sh_mixBlock_123 (by decide) ?_
    refine g_iushr C d_Sh_mixBlock_125 ?_
    refine g_iload_n C 2 rfl d_Sh_mixBlock_126 rfl ?_
    refine g_bipush (v := 19) C d_Sh_mixBlock_127 (by decide) ?_
    refine g_ishl C d_Sh_mixBlock_129 ?_
    refine g_ior C d_Sh_mixBlock_130 ?_
    refine g_ixor C d_Sh_mixBlock_131 ?_
    refine g_iload_n C 2 rfl d_Sh_mixBlock_132 rfl ?_
    refine g_bipush (v := 22) C d_Sh_mixBlock_133 (by decide) ?_
    refine g_iushr C d_Sh_mixBlock_135 ?_
    refine g_iload_n C 2 rfl d_Sh_mixBlock_136 rfl ?_
    refine g_bipush (v := 10) C d_Sh_mixBlock_137 (by decide) ?_
    refine g_ishl C d_Sh_mixBlock_139 ?_
    refine g_ior C d_Sh_mixBlock_140 ?_
    refine g_ixor C d_Sh_mixBlock_141 ?_
    refine g_topi (fun x44 ex44 => ?_)
    have hr := of_lt ex44 hr
    refine g_istore (lv' := [(11, .int x44), (10, .int x43), (0, .ref a0), (1, .int a1), (2, .int a2), (3, .int a3), (4, .int a4), (5, .int a5), (6, .int a6), (7, .int a7), (8, .int a8), (9, .int a9)]) C d_Sh_mixBlock_142 (by decide) rfl ?_
    refine g_iload C 10 rfl d_Sh_mixBlock_144 ?_
    refine g_iload C 1 rfl d_Sh_mixBlock_146 ?_
    refine g_iadd C d_Sh_mixBlock_148 ?_
    refine g_iload C 7 rfl d_Sh_mixBlock_149 ?_
    refine g_iload C 8 rfl d_Sh_mixBlock_151 ?_
    refine g_iand C d_Sh_mixBlock_153 ?_
    refine g_iload C 7 rfl d_Sh_mixBlock_154 ?_
    refine g_iconst (v := (-1)) C d_Sh_mixBlock_156 (by decide) ?_
    refine g_ixor C d_Sh_mixBlock_157 ?_
    refine g_iload C 9 rfl d_Sh_mixBlock_158 ?_
    refine g_iand C d_Sh_mixBlock_160 ?_
    refine g_ixor C d_Sh_mixBlock_161 ?_
    refine g_iadd C d_Sh_mixBlock_162 ?_
    refine g_gets (t := 1) C (by decide) kw_9 d_Sh_mixBlock_163 ?_
    refine g_iload C 11 rfl d_Sh_mixBlock_166 ?_
    obtain ⟨v45, ev45, hr⟩ := of_bnd hr
    refine g_ialoadT C ev45 d_Sh_mixBlock_168 ?_
    refine g_iadd C d_Sh_mixBlock_169 ?_
    refine g_aload_n C 2 rfl d_Sh_mixBlock_170 rfl ?_
    obtain ⟨k46, ek46, hr⟩ := of_bnd hr
    refine g_getR C fl_Sh_13 ek46 d_Sh_mixBlock_171 ?_
    refine g_iload C 11 rfl d_Sh_mixBlock_174 ?_
    obtain ⟨v47, ev47, hr⟩ := of_bnd hr
    refine g_iaload C ev47 d_Sh_mixBlock_176 ?_
    refine g_iadd C d_Sh_mixBlock_177 ?_
    refine g_topi (fun x48 ex48 => ?_)
    have hr := of_lt ex48 hr
    refine g_istore (lv' := [(12, .int x48), (11, .int x44), (10, .int x43), (0, .ref a0), (1, .int a1), (2, .int a2), (3, .int a3), (4, .int a4), (5, .int a5), (6, .int a6), (7, .int a7), (8, .int a8), (9, .int a9)]) C d_Sh_mixBlock_178 (by decide) rfl ?_
    refine g_iload C 1 rfl d_Sh_mixBlock_180 ?_
    refine g_iload_n C 4 rfl d_Sh_mixBlock_182 rfl ?_
    refine g_iload_n C 5 rfl d_Sh_mixBlock_183 rfl ?_
    refine g_iand C d_Sh_mixBlock_184 ?_
    refine g_iload_n C 4 rfl d_Sh_mixBlock_185 rfl ?_
    refine g_iload_n C 6 rfl d_Sh_mixBlock_186 rfl ?_
    refine g_iand C d_Sh_mixBlock_187 ?_
    refine g_ixor C d_Sh_mixBlock_188 ?_
    refine g_iload_n C 5 rfl d_Sh_mixBlock_189 rfl ?_
    refine g_iload_n C 6 rfl d_Sh_mixBlock_190 rfl ?_
    refine g_iand C d_Sh_mixBlock_191 ?_
    refine g_ixor C d_Sh_mixBlock_192 ?_
    refine g_iadd C d_Sh_mixBlock_193 ?_
    refine g_topi (fun x49 ex49 => ?_)
    have hr := of_lt ex49 hr
    refine g_istore (lv' := [(13, .int x49), (12, .int x48), (11, .int x44), (10, .int x43), (0, .ref a0), (1, .int a1), (2, .int a2), (3, .int a3), (4, .int a4), (5, .int a5), (6, .int a6), (7, .int a7), (8, .int a8), (9, .int a9)]) C d_Sh_mixBlock_194 (by decide) rfl ?_
    refine g_iload C 11 rfl d_Sh_mixBlock_196 ?_
    refine g_istore (lv' := [(8, .int a7), (13, .int x49), (12, .int x48), (11, .int x44), (10, .int x43), (0, .ref a0), (1, .int a1), (2, .int a2), (3, .int a3), (4, .int a4), (5, .int a5), (6, .int a6), (7, .int a7), (9, .int a9)]) C d_Sh_mixBlock_198 (by decide) rfl ?_
    refine g_iload C 11 rfl d_Sh_mixBlock_200 ?_
    refine g_istore (lv' := [(7, .int a6), (8, .int a7), (13, .int x49), (12, .int x48), (11, .int x44), (10, .int x43), (0, .ref a0), (1, .int a1), (2, .int a2), (3, .int a3), (4, .int a4), (5, .int a5), (6, .int a6), (9, .int a9)]) C d_Sh_mixBlock_202 (by decide) rfl ?_
    refine g_iload C 11 rfl d_Sh_mixBlock_204 ?_
    refine g_istore (lv' := [(6, .int a5), (7, .int a6), (8, .int a7), (13, .int x49), (12, .int x48), (11, .int x44), (10, .int x43), (0, .ref a0), (1, .int a1), (2, .int a2), (3, .int a3), (4, .int a4), (5, .int a5), (9, .int a9)]) C d_Sh_mixBlock_206 (by decide) rfl ?_
    refine g_iload C 11 rfl d_Sh_mixBlock_208 ?_
    refine g_iload C 4 rfl d_Sh_mixBlock_210 ?_
    refine g_iadd C d_Sh_mixBlock_212 ?_
    refine g_topi (fun x50 ex50 => ?_)
    have hr := of_lt ex50 hr
    refine g_istore (lv' := [(5, .int x50), (6, .int a5), (7, .int a6), (8, .int a7), (13, .int x49), (12, .int x48), (11, .int x44), (10, .int x43), (0, .ref a0), (1, .int a1), (2, .int a2), (3, .int a3), (4, .int a4), (9, .int a9)]) C d_Sh_mixBlock_213 (by decide) rfl ?_
    refine g_iload_n C 11 rfl d_Sh_mixBlock_215 rfl ?_
    refine g_istore (lv' := [(4, .int a3), (5, .int x50), (6, .int a5), (7, .int a6), (8, .int a7), (13, .int x49), (12, .int x48), (11, .int x44), (10, .int x43), (0, .ref a0), (1, .int a1), (2, .int a2), (3, .int a3), (9, .int a9)]) C d_Sh_mixBlock_216 (by decide) rfl ?_
    refine g_iload_n C 11 rfl d_Sh_mixBlock_218 rfl ?_
    refine g_istore_n (lv' := [(3, .int a2), (4, .int a3), (5, .int x50), (6, .int a5), (7, .int a6), (8, .int a7), (13, .int x49), (12, .int x48), (11, .int x44), (10, .int x43), (0, .ref a0), (1, .int a1), (2, .int a2), (9, .int a9)]) C d_Sh_mixBlock_219 rfl (by decide) rfl ?_
    refine g_iload_n C 11 rfl d_Sh_mixBlock_220 rfl ?_
    refine g_istore_n (lv' := [(2, .int a1), (3, .int a2), (4, .int a3), (5, .int x50), (6, .int a5), (7, .int a6), (8, .int a7), (13, .int x49), (12, .int x48), (11, .int x44), (10, .int x43), (0, .ref a0), (1, .int a1), (9, .int a9)]) C d_Sh_mixBlock_221 rfl (by decide) rfl ?_
    refine g_iload C 8 rfl d_Sh_mixBlock_222 ?_
    refine g_iload C 7 rfl d_Sh_mixBlock_224 ?_
    refine g_iadd C d_Sh_mixBlock_226 ?_
    refine g_topi (fun x51 ex51 => ?_)
    have hr := of_lt ex51 hr
    refine g_istore_n (lv' := [(1, .int x51), (2, .int a1), (3, .int a2), (4, .int a3), (5, .int x50), (6, .int a5), (7, .int a6), (8, .int a7), (13, .int x49), (12, .int x48), (11, .int x44), (10, .int x43), (0, .ref a0), (9, .int a9)]) C d_Sh_mixBlock_227 rfl (by decide) rfl ?_
    obtain ⟨x52, ex52⟩ : ∃ z, z = a9 + Int32.ofInt 1 := ⟨_, rfl⟩
    have hr := of_lt ex52 hr
    refine g_iinc (lv' := [(9, .int x52), (1, .int x51), (2, .int a1), (3, .int a2), (4, .int a3), (5, .int x50), (6, .int a5), (7, .int a6), (8, .int a7), (13, .int x49), (12, .int x48), (11, .int x44), (10, .int x43), (0, .ref a0)]) C 13 rfl d_Sh_mixBlock_228 ex52.symm (by decide) rfl ?_
    refine g_goto (tgt := 70) C d_Sh_mixBlock_231 (by decide) ?_
    refine g_lv [13, 1, 2, 3, 4, 5, 6, 7, 8, 0] rfl ?_
    exact hK70 h a0 x51 a1 a2 a3 x50 a5 a6 a7 x52 hr
def L_Sh_mixBlock_70 : Nat → HP → Nat → Int32 → Int32 → Int32 → Int32 → Int32 → Int32 → Int32 → Int32 → Int32 → Option (HP)
  | 0, _, _, _, _, _, _, _, _, _, _, _ => none
  | f + 1, h, a0, a1, a2, a3, a4, a5, a6, a7, a8, a9 => B_Sh_mixBlock_70 (L_Sh_mixBlock_70 f) h a0 a1 a2 a3 a4 a5 a6 a7 a8 a9
theorem lp_Sh_mixBlock_70 {l : Launch} {x : CX} {h0 h' : HP} (C : EV x b_Sh_mixBlock "PrimeKeys$Sha256" 14 rm_Sh_mixBlock) (T : CT x (none) rm_Sh_mixBlock h0 none h') (hl0 : x.1.2.1 = l) : ∀ (f : Nat) (h : HP) (a0 : Nat) (a1 : Int32) (a2 : Int32) (a3 : Int32) (a4 : Int32) (a5 : Int32) (a6 : Int32) (a7 : Int32) (a8 : Int32) (a9 : Int32), L_Sh_mixBlock_70 f h a0 a1 a2 a3 a4 a5 a6 a7 a8 a9 = some h' → GG x 0 0 h 70 [(0, .ref a0), (1, .int a1), (2, .int a2), (3, .int a3), (4, .int a4), (5, .int a5), (6, .int a6), (7, .int a7), (8, .int a8), (9, .int a9)] [] := by
  intro f
  induction f with
  | zero => intro h a0 a1 a2 a3 a4 a5 a6 a7 a8 a9 hr; have hr : (none : Option (HP)) = some h' := hr; cases hr
  | succ f ih => intro h a0 a1 a2 a3 a4 a5 a6 a7 a8 a9 hr; exact bk_Sh_mixBlock_70 C T hl0 (L_Sh_mixBlock_70 f) ih h a0 a1 a2 a3 a4 a5 a6 a7 a8 a9 hr
def P_Sh_mixBlock (h : HP) (p0 : Nat) : Option (HP) :=
  ob h p0 4 (
  bnd (P_Sh_fillSchedule h p0) fun h1 =>
  bnd (gR h1 p0 4 0) fun k2 =>
  bnd (ldI h1 k2 0) fun v3 =>
  bnd (gR h1 p0 4 0) fun k4 =>
  bnd (ldI h1 k4 1) fun v5 =>
  bnd (gR h1 p0 4 0) fun k6 =>
  bnd (ldI h1 k6 2) fun v7 =>
  bnd (gR h1 p0 4 0) fun k8 =>
  bnd (ldI h1 k8 3) fun v9 =>
  bnd (gR h1 p0 4 0) fun k10 =>
  bnd (ldI h1 k10 4) fun v11 =>
  bnd (gR h1 p0 4 0) fun k12 =>
  bnd (ldI h1 k12 5) fun v13 =>
  bnd (gR h1 p0 4 0) fun k14 =>
  bnd (ldI h1 k14 6) fun v15 =>
  bnd (gR h1 p0 4 0) fun k16 =>
  bnd (ldI h1 k16 7) fun v17 =>
  L_Sh_mixBlock_70 FU h1 p0 v3 v5 v7 v9 v11 v13 v15 v17 0)
set_option maxHeartbeats 4000000 in
set_option maxRecDepth 100000 in
theorem c_Sh_mixBlock {l : Launch} {h h' : HP} {p0 : _} (hr : P_Sh_mixBlock h p0 = some h') : MP l y_Sh_mixBlock (Cond.code y_Sh_mixBlock b_Sh_mixBlock 14 none :: TB) rm_Sh_mixBlock h [.ref p0] none h' := by
  refine MP_intro (cc := b_Sh_mixBlock) (by decide) (Nat.le_of_ble_eq_true rfl) (fun x hl0 C T hin => ?_)
  unfold P_Sh_mixBlock at hr
  show GG x 0 0 h 0 [(0, .ref p0)] []
  refine g_aload_n C 0 rfl d_Sh_mixBlock_0 rfl ?_
  obtain ⟨fsh1, hoh1, hr⟩ := of_ob hr
  obtain ⟨h1, eh1, hr⟩ := of_bnd hr
  refine g_callV (pa := []) C hl0 (c_Sh_fillSchedule eh1) cd_Sh_59 kw_in_Sh_fillSchedule kw_se_Sh_fillSchedule hoh1 rfl rfl (by decide) rfl rfl (Nat.le_of_ble_eq_true rfl) d_Sh_mixBlock_1 ?_
  refine g_aload_n C 0 rfl d_Sh_mixBlock_4 rfl ?_
  obtain ⟨k2, ek2, hr⟩ := of_bnd hr
  refine g_getR C fl_Sh_9 ek2 d_Sh_mixBlock_5 ?_
  refine g_iconst (v := 0) C d_Sh_mixBlock_8 (by decide) ?_
  obtain ⟨v3, ev3, hr⟩ := of_bnd hr
  refine g_iaload C ev3 d_Sh_mixBlock_9 ?_
  refine g_istore_n (lv' := [(1, .int v3), (0, .ref p0)]) C d_Sh_mixBlock_10 rfl (by decide) rfl ?_
  refine g_aload_n C 1 rfl d_Sh_mixBlock_11 rfl ?_
  obtain ⟨k4, ek4, hr⟩ := of_bnd hr
  refine g_getR C fl_Sh_9 ek4 d_Sh_mixBlock_12 ?_
  refine g_iconst (v := 1) C d_Sh_mixBlock_15 (by decide) ?_
  obtain ⟨v5, ev5, hr⟩ := of_bnd hr
  refine g_iaload C ev5 d_Sh_mixBlock_16 ?_
  refine g_istore_n (lv' := [(2, .int v5), (1, .int v3), (0, .ref p0)]) C d_Sh_mixBlock_17 rfl (by decide) rfl ?_
  refine g_aload_n C 2 rfl d_Sh_mixBlock_18 rfl ?_
  obtain ⟨k6, ek6, hr⟩ := of_bnd hr
  refine g_getR C fl_Sh_9 ek6 d_Sh_mixBlock_19 ?_
  refine g_iconst (v := 2) C d_Sh_mixBlock_22 (by decide) ?_
  obtain ⟨v7, ev7, hr⟩ := of_bnd hr
  refine g_iaload C ev7 d_Sh_mixBlock_23 ?_
  refine g_istore_n (lv' := [(3, .int v7), (2, .int v5), (1, .int v3), (0, .ref p0)]) C d_Sh_mixBlock_24 rfl (by decide) rfl ?_
  refine g_aload_n C 3 rfl d_Sh_mixBlock_25 rfl ?_
  obtain ⟨k8, ek8, hr⟩ := of_bnd hr
  refine g_getR C fl_Sh_9 ek8 d_Sh_mixBlock_26 ?_
  refine g_iconst (v := 3) C d_Sh_mixBlock_29 (by decide) ?_
  obtain ⟨v9, ev9, hr⟩ := of_bnd hr
  refine g_iaload C ev9 d_Sh_mixBlock_30 ?_
  refine g_istore (lv' := [(4, .int v9), (3, .int v7), (2, .int v5), (1, .int v3), (0, .ref p0)]) C d_Sh_mixBlock_31 (by decide) rfl ?_
  refine g_aload_n C 4 rfl d_Sh_mixBlock_33 rfl ?_
  obtain ⟨k10, ek10, hr⟩ := of_bnd hr
  refine g_getR C fl_Sh_9 ek10 d_Sh_mixBlock_34 ?_
  refine g_iconst (v := 4) C d_Sh_mixBlock_37 (by decide) ?_
  obtain ⟨v11, ev11, hr⟩ := of_bnd hr
  refine g_iaload C ev11 d_Sh_mixBlock_38 ?_
  refine g_istore (lv' := [(5, .int v11), (4, .int v9), (3, .int v7), (2, .int v5), (1, .int v3), (0, .ref p0)]) C d_Sh_mixBlock_39 (by decide) rfl ?_
  refine g_aload_n C 5 rfl d_Sh_mixBlock_41 rfl ?_
  obtain ⟨k12, ek12, hr⟩ := of_bnd hr
  refine g_getR C fl_Sh_9 ek12 d_Sh_mixBlock_42 ?_
  refine g_iconst (v := 5) C d_Sh_mixBlock_45 (by decide) ?_
  obtain ⟨v13, ev13, hr⟩ := of_bnd hr
  refine g_iaload C ev13 d_Sh_mixBlock_46 ?_
  refine g_istore (lv' := [(6, .int v13), (5, .int v11), (4, .int v9), (3, .int v7), (2, .int v5), (1, .int v3), (0, .ref p0)]) C d_Sh_mixBlock_47 (by decide) rfl ?_
  refine g_aload_n C 6 rfl d_Sh_mixBlock_49 rfl ?_
  obtain ⟨k14, ek14, hr⟩ := of_bnd hr
  refine g_getR C fl_Sh_9 ek14 d_Sh_mixBlock_50 ?_
  refine g_bipush (v := 6) C d_Sh_mixBlock_53 (by decide) ?_
  obtain ⟨v15, ev15, hr⟩ := of_bnd hr
  refine g_iaload C ev15 d_Sh_mixBlock_55 ?_
  refine g_istore (lv' := [(7, .int v15), (6, .int v13), (5, .int v11), (4, .int v9), (3, .int v7), (2, .int v5), (1, .int v3), (0, .ref p0)]) C d_Sh_mixBlock_56 (by decide) rfl ?_
  refine g_aload_n C 7 rfl d_Sh_mixBlock_58 rfl ?_
  obtain ⟨k16, ek16, hr⟩ := of_bnd hr
  refine g_getR C fl_Sh_9 ek16 d_Sh_mixBlock_59 ?_
  refine g_bipush (v := 7) C d_Sh_mixBlock_62 (by decide) ?_
  obtain ⟨v17, ev17, hr⟩ := of_bnd hr
  refine g_iaload C ev17 d_Sh_mixBlock_64 ?_
  refine g_istore (lv' := [(8, .int v17), (7, .int v15), (6, .int v13), (5, .int v11), (4, .int v9), (3, .int v7), (2, .int v5), (1, .int v3), (0, .ref p0)]) C d_Sh_mixBlock_65 (by decide) rfl ?_
  refine g_iconst (v := 0) C d_Sh_mixBlock_67 (by decide) ?_
  refine g_istore (lv' := [(9, .int 0), (8, .int v17), (7, .int v15), (6, .int v13), (5, .int v11), (4, .int v9), (3, .int v7), (2, .int v5), (1, .int v3), (0, .ref p0)]) C d_Sh_mixBlock_68 (by decide) rfl ?_
  refine g_lv [9, 8, 7, 6, 5, 4, 3, 2, 1, 0] rfl ?_
  exact lp_Sh_mixBlock_70 C T hl0 FU h1 p0 v3 v5 v7 v9 v11 v13 v15 v17 0 hr
abbrev b_Sh_clearRestOfBlock : ByteArray := prog_7_method_6_code
abbrev y_Sh_clearRestOfBlock : MethodName := ⟨"PrimeKeys$Sha256", "clearRestOfBlock", "()V"⟩
theorem d_Sh_clearRestOfBlock_0 : decode b_Sh_clearRestOfBlock 0 = .ok (.aload_n 0, 1) := by decide +kernel
theorem d_Sh_clearRestOfBlock_1 : decode b_Sh_clearRestOfBlock 1 = .ok (.getfield 20, 3) := by decide +kernel
theorem d_Sh_clearRestOfBlock_4 : decode b_Sh_clearRestOfBlock 4 = .ok (.istore_n 1, 1) := by decide +kernel
theorem d_Sh_clearRestOfBlock_5 : decode b_Sh_clearRestOfBlock 5 = .ok (.iload_n 1, 1) := by decide +kernel
theorem d_Sh_clearRestOfBlock_6 : decode b_Sh_clearRestOfBlock 6 = .ok (.bipush 64, 2) := by decide +kernel
theorem d_Sh_clearRestOfBlock_8 : decode b_Sh_clearRestOfBlock 8 = .ok (.if_icmp .ge 16, 3) := by decide +kernel
theorem d_Sh_clearRestOfBlock_11 : decode b_Sh_clearRestOfBlock 11 = .ok (.aload_n 0, 1) := by decide +kernel
theorem d_Sh_clearRestOfBlock_12 : decode b_Sh_clearRestOfBlock 12 = .ok (.getfield 16, 3) := by decide +kernel
theorem d_Sh_clearRestOfBlock_15 : decode b_Sh_clearRestOfBlock 15 = .ok (.iload_n 1, 1) := by decide +kernel
theorem d_Sh_clearRestOfBlock_16 : decode b_Sh_clearRestOfBlock 16 = .ok (.iconst 0, 1) := by decide +kernel
theorem d_Sh_clearRestOfBlock_17 : decode b_Sh_clearRestOfBlock 17 = .ok (.bastore, 1) := by decide +kernel
theorem d_Sh_clearRestOfBlock_18 : decode b_Sh_clearRestOfBlock 18 = .ok (.iinc 1 1, 3) := by decide +kernel
theorem d_Sh_clearRestOfBlock_21 : decode b_Sh_clearRestOfBlock 21 = .ok (.goto (-16), 3) := by decide +kernel
theorem d_Sh_clearRestOfBlock_24 : decode b_Sh_clearRestOfBlock 24 = .ok (.return_, 1) := by decide +kernel
theorem fl_Sh_20 : FL "PrimeKeys$Sha256" 20 4 3 := ⟨R_Sh, F_Sh, 5, rfl, u_Sh, by decide, rfl, tb_1 (List.mem_of_getElem? (i := 41) (by decide +kernel)) rfl⟩
abbrev rm_Sh_clearRestOfBlock : Room := { frames := 0, cells := 0, slots := 0, locals := 0 }
def B_Sh_clearRestOfBlock_5 (K5 : HP → Nat → Int32 → Option (HP)) (h : HP) (a0 : Nat) (a1 : Int32) : Option (HP) :=
  if 64 ≤ a1 then
  some h
  else
  bnd (gR h a0 4 2) fun k2 =>
  bnd (stB h k2 a1 0) fun h3 =>
  lt (a1 + Int32.ofInt 1) fun x4 =>
  K5 h3 a0 x4
set_option maxHeartbeats 4000000 in
set_option maxRecDepth 100000 in
theorem bk_Sh_clearRestOfBlock_5 {l : Launch} {x : CX} {h0 h' : HP} (C : EV x b_Sh_clearRestOfBlock "PrimeKeys$Sha256" 2 rm_Sh_clearRestOfBlock) (T : CT x (none) rm_Sh_clearRestOfBlock h0 none h') (hl0 : x.1.2.1 = l) (K5 : HP → Nat → Int32 → Option (HP)) (hK5 : ∀ (h : HP) (a0 : Nat) (a1 : Int32), K5 h a0 a1 = some h' → GG x 0 0 h 5 [(0, .ref a0), (1, .int a1)] []) (h : HP) (a0 : Nat) (a1 : Int32) (hr : B_Sh_clearRestOfBlock_5 K5 h a0 a1 = some h') : GG x 0 0 h 5 [(0, .ref a0), (1, .int a1)] [] := by
  unfold B_Sh_clearRestOfBlock_5 at hr
  refine g_iload_n C 1 rfl d_Sh_clearRestOfBlock_5 rfl ?_
  refine g_bipush (v := 64) C d_Sh_clearRestOfBlock_6 (by decide) ?_
  refine g_icmp_ge (tgt := 24) C d_Sh_clearRestOfBlock_8 (by decide) (fun z => ?_) (fun z => ?_)
  · have hr := of_if z hr
    cases hr
    exact g_vreturn C T (by decide) (by decide) d_Sh_clearRestOfBlock_24
  · have hr := of_el z hr
    refine g_aload_n C 0 rfl d_Sh_clearRestOfBlock_11 rfl ?_
    obtain ⟨k2, ek2, hr⟩ := of_bnd hr
    refine g_getR C fl_Sh_16 ek2 d_Sh_clearRestOfBlock_12 ?_
    refine g_iload_n C 1 rfl d_Sh_clearRestOfBlock_15 rfl ?_
    refine g_iconst (v := 0) C d_Sh_clearRestOfBlock_16 (by decide) ?_
    obtain ⟨h3, eh3, hr⟩ := of_bnd hr
    refine g_bastore C eh3 d_Sh_clearRestOfBlock_17 ?_
    obtain ⟨x4, ex4⟩ : ∃ z, z = a1 + Int32.ofInt 1 := ⟨_, rfl⟩
    have hr := of_lt ex4 hr
    refine g_iinc (lv' := [(1, .int x4), (0, .ref a0)]) C 1 rfl d_Sh_clearRestOfBlock_18 ex4.symm (by decide) rfl ?_
    refine g_goto (tgt := 5) C d_Sh_clearRestOfBlock_21 (by decide) ?_
    refine g_lv [1, 0] rfl ?_
    exact hK5 h3 a0 x4 hr
def L_Sh_clearRestOfBlock_5 : Nat → HP → Nat → Int32 → Option (HP)
  | 0, _, _, _ => none
  | f + 1, h, a0, a1 => B_Sh_clearRestOfBlock_5 (L_Sh_clearRestOfBlock_5 f) h a0 a1
theorem lp_Sh_clearRestOfBlock_5 {l : Launch} {x : CX} {h0 h' : HP} (C : EV x b_Sh_clearRestOfBlock "PrimeKeys$Sha256" 2 rm_Sh_clearRestOfBlock) (T : CT x (none) rm_Sh_clearRestOfBlock h0 none h') (hl0 : x.1.2.1 = l) : ∀ (f : Nat) (h : HP) (a0 : Nat) (a1 : Int32), L_Sh_clearRestOfBlock_5 f h a0 a1 = some h' → GG x 0 0 h 5 [(0, .ref a0), (1, .int a1)] [] := by
  intro f
  induction f with
  | zero => intro h a0 a1 hr; have hr : (none : Option (HP)) = some h' := hr; cases hr
  | succ f ih => intro h a0 a1 hr; exact bk_Sh_clearRestOfBlock_5 C T hl0 (L_Sh_clearRestOfBlock_5 f) ih h a0 a1 hr
def P_Sh_clearRestOfBlock (h : HP) (p0 : Nat) : Option (HP) :=
  bnd (gI h p0 4 3) fun v1 =>
  L_Sh_clearRestOfBlock_5 FU h p0 v1
set_option maxHeartbeats 4000000 in
set_option maxRecDepth 100000 in
theorem c_Sh_clearRestOfBlock {l : Launch} {h h' : HP} {p0 : _} (hr : P_Sh_clearRestOfBlock h p0 = some h') : MP l y_Sh_clearRestOfBlock (Cond.code y_Sh_clearRestOfBlock b_Sh_clearRestOfBlock 2 none :: TB) rm_Sh_clearRestOfBlock h [.ref p0] none h' := by
  refine MP_intro (cc := b_Sh_clearRestOfBlock) (by decide) (Nat.le_of_ble_eq_true rfl) (fun x hl0 C T hin => ?_)
  unfold P_Sh_clearRestOfBlock at hr
  show GG x 0 0 h 0 [(0, .ref p0)] []
  refine g_aload_n C 0 rfl d_Sh_clearRestOfBlock_0 rfl ?_
  obtain ⟨v1, ev1, hr⟩ := of_bnd hr
  refine g_getI C fl_Sh_20 ev1 d_Sh_clearRestOfBlock_1 ?_
  refine g_istore_n (lv' := [(1, .int v1), (0, .ref p0)]) C d_Sh_clearRestOfBlock_4 rfl (by decide) rfl ?_
  refine g_lv [1, 0] rfl ?_
  exact lp_Sh_clearRestOfBlock_5 C T hl0 FU h p0 v1 hr
abbrev b_Sh_take : ByteArray := prog_7_method_4_code
abbrev y_Sh_take : MethodName := ⟨"PrimeKeys$Sha256", "take", "([BI)V"⟩
theorem d_Sh_take_0 : decode b_Sh_take 0 = .ok (.iconst 0, 1) := by decide +kernel
theorem d_Sh_take_1 : decode b_Sh_take 1 = .ok (.istore_n 3, 1) := by decide +kernel
theorem d_Sh_take_2 : decode b_Sh_take 2 = .ok (.iload_n 3, 1) := by decide +kernel
theorem d_Sh_take_3 : decode b_Sh_take 3 = .ok (.iload_n 2, 1) := by decide +kernel
theorem d_Sh_take_4 : decode b_Sh_take 4 = .ok (.if_icmp .ge 44, 3) := by decide +kernel
theorem d_Sh_take_7 : decode b_Sh_take 7 = .ok (.aload_n 0, 1) := by decide +kernel
theorem d_Sh_take_8 : decode b_Sh_take 8 = .ok (.getfield 16, 3) := by decide +kernel
theorem d_Sh_take_11 : decode b_Sh_take 11 = .ok (.aload_n 0, 1) := by decide +kernel
theorem d_Sh_take_12 : decode b_Sh_take 12 = .ok (.getfield 20, 3) := by decide +kernel
theorem d_Sh_take_15 : decode b_Sh_take 15 = .ok (.aload_n 1, 1) := by decide +kernel
theorem d_Sh_take_16 : decode b_Sh_take 16 = .ok (.iload_n 3, 1) := by decide +kernel
theorem d_Sh_take_17 : decode b_Sh_take 17 = .ok (.baload, 1) := by decide +kernel
theorem d_Sh_take_18 : decode b_Sh_take 18 = .ok (.bastore, 1) := by decide +kernel
theorem d_Sh_take_19 : decode b_Sh_take 19 = .ok (.aload_n 0, 1) := by decide +kernel
theorem d_Sh_take_20 : decode b_Sh_take 20 = .ok (.dup, 1) := by decide +kernel
theorem d_Sh_take_21 : decode b_Sh_take 21 = .ok (.getfield 20, 3) := by decide +kernel
theorem d_Sh_take_24 : decode b_Sh_take 24 = .ok (.iconst 1, 1) := by decide +kernel
theorem d_Sh_take_25 : decode b_Sh_take 25 = .ok (.iadd, 1) := by decide +kernel
theorem d_Sh_take_26 : decode b_Sh_take 26 = .ok (.putfield 20, 3) := by decide +kernel
theorem d_Sh_take_29 : decode b_Sh_take 29 = .ok (.aload_n 0, 1) := by decide +kernel
theorem d_Sh_take_30 : decode b_Sh_take 30 = .ok (.getfield 20, 3) := by decide +kernel
theorem d_Sh_take_33 : decode b_Sh_take 33 = .ok (.bipush 64, 2) := by decide +kernel
theorem d_Sh_take_35 : decode b_Sh_take 35 = .ok (.if_icmp .ne 7, 3) := by decide +kernel
theorem d_Sh_take_38 : decode b_Sh_take 38 = .ok (.aload_n 0, 1) := by decide +kernel
theorem d_Sh_take_39 : decode b_Sh_take 39 = .ok (.invokevirtual 47, 3) := by decide +kernel
theorem d_Sh_take_42 : decode b_Sh_take 42 = .ok (.iinc 3 1, 3) := by decide +kernel
theorem d_Sh_take_45 : decode b_Sh_take 45 = .ok (.goto (-43), 3) := by decide +kernel
theorem d_Sh_take_48 : decode b_Sh_take 48 = .ok (.aload_n 0, 1) := by decide +kernel
theorem d_Sh_take_49 : decode b_Sh_take 49 = .ok (.dup, 1) := by decide +kernel
theorem d_Sh_take_50 : decode b_Sh_take 50 = .ok (.getfield 24, 3) := by decide +kernel
theorem d_Sh_take_53 : decode b_Sh_take 53 = .ok (.iload_n 2, 1) := by decide +kernel
theorem d_Sh_take_54 : decode b_Sh_take 54 = .ok (.iadd, 1) := by decide +kernel
theorem d_Sh_take_55 : decode b_Sh_take 55 = .ok (.putfield 24, 3) := by decide +kernel
theorem d_Sh_take_58 : decode b_Sh_take 58 = .ok (.return_, 1) := by decide +kernel
theorem fl_Sh_24 : FL "PrimeKeys$Sha256" 24 4 4 := ⟨R_Sh, F_Sh, 5, rfl, u_Sh, by decide, rfl, tb_1 (List.mem_of_getElem? (i := 42) (by decide +kernel)) rfl⟩
theorem cd_Sh_47 : CD "PrimeKeys$Sha256" 47 y_Sh_mixBlock b_Sh_mixBlock 14 none 0 := ⟨tb_2 (List.mem_of_getElem? (i := 121) rfl) rfl, tb_1 (List.mem_of_getElem? (i := 2) (by decide +kernel)) rfl, tb_2 (List.mem_of_getElem? (i := 118) (by decide +kernel)) rfl, by decide +kernel⟩
theorem kw_in_Sh_mixBlock : Cond.instanceMethod y_Sh_mixBlock ∈ TB := tb_2 (List.mem_of_getElem? (i := 120) (by decide +kernel)) rfl
theorem kw_se_Sh_mixBlock : Cond.selects "PrimeKeys$Sha256" y_Sh_mixBlock y_Sh_mixBlock ∈ TB := tb_p (q := (y_Sh_mixBlock, 5)) (by decide +kernel)
abbrev rm_Sh_take : Room := { frames := 2, cells := 0, slots := 0, locals := 58 }
def B_Sh_take_42 (K2 : HP → Nat → Nat → Int32 → Int32 → Option (HP)) (h : HP) (a0 : Nat) (a1 : Nat) (a2 : Int32) (a3 : Int32) : Option (HP) :=
  lt (a3 + Int32.ofInt 1) fun x10 =>
  K2 h a0 a1 a2 x10
set_option maxHeartbeats 4000000 in
set_option maxRecDepth 100000 in
theorem bk_Sh_take_42 {l : Launch} {x : CX} {h0 h' : HP} (C : EV x b_Sh_take "PrimeKeys$Sha256" 4 rm_Sh_take) (T : CT x (none) rm_Sh_take h0 none h') (hl0 : x.1.2.1 = l) (K2 : HP → Nat → Nat → Int32 → Int32 → Option (HP)) (hK2 : ∀ (h : HP) (a0 : Nat) (a1 : Nat) (a2 : Int32) (a3 : Int32), K2 h a0 a1 a2 a3 = some h' → GG x 0 0 h 2 [(0, .ref a0), (1, .ref a1), (2, .int a2), (3, .int a3)] []) (h : HP) (a0 : Nat) (a1 : Nat) (a2 : Int32) (a3 : Int32) (hr : B_Sh_take_42 K2 h a0 a1 a2 a3 = some h') : GG x 0 0 h 42 [(0, .ref a0), (1, .ref a1), (2, .int a2), (3, .int a3)] [] := by
  unfold B_Sh_take_42 at hr
  obtain ⟨x10, ex10⟩ : ∃ z, z = a3 + Int32.ofInt 1 := ⟨_, rfl⟩
  have hr := of_lt ex10 hr
  refine g_iinc (lv' := [(3, .int x10), (0, .ref a0), (1, .ref a1), (2, .int a2)]) C 3 rfl d_Sh_take_42 ex10.symm (by decide) rfl ?_
  refine g_goto (tgt := 2) C d_Sh_take_45 (by decide) ?_
  refine g_lv [1, 2, 3, 0] rfl ?_
  exact hK2 h a0 a1 a2 x10 hr
def B_Sh_take_2 (K2 : HP → Nat → Nat → Int32 → Int32 → Option (HP)) (h : HP) (a0 : Nat) (a1 : Nat) (a2 : Int32) (a3 : Int32) : Option (HP) :=
  if a2 ≤ a3 then
  bnd (gI h a0 4 4) fun v1 =>
  bnd (pV h a0 4 4 (.int (v1 + a2))) fun h2 =>
  some h2
  else
  bnd (gR h a0 4 2) fun k3 =>
  bnd (gI h a0 4 3) fun v4 =>
  bnd (ldB h a1 a3) fun v5 =>
  bnd (stB h k3 v4 v5) fun h6 =>
  bnd (gI h6 a0 4 3) fun v7 =>
  bnd (pV h6 a0 4 3 (.int (v7 + 1))) fun h8 =>
  bnd (gI h8 a0 4 3) fun v9 =>
  if v9 = 64 then
  ob h8 a0 4 (
  bnd (P_Sh_mixBlock h8 a0) fun h11 =>
  B_Sh_take_42 K2 h11 a0 a1 a2 a3)
  else
  B_Sh_take_42 K2 h8 a0 a1 a2 a3
set_option maxHeartbeats 4000000 in
set_option maxRecDepth 100000 in
theorem bk_Sh_take_2 {l : Launch} {x : CX} {h0 h' : HP} (C : EV x b_Sh_take "PrimeKeys$Sha256" 4 rm_Sh_take) (T : CT x (none) rm_Sh_take h0 none h') (hl0 : x.1.2.1 = l) (K2 : HP → Nat → Nat → Int32 → Int32 → Option (HP)) (hK2 : ∀ (h : HP) (a0 : Nat) (a1 : Nat) (a2 : Int32) (a3 : Int32), K2 h a0 a1 a2 a3 = some h' → GG x 0 0 h 2 [(0, .ref a0), (1, .ref a1), (2, .int a2), (3, .int a3)] []) (h : HP) (a0 : Nat) (a1 : Nat) (a2 : Int32) (a3 : Int32) (hr : B_Sh_take_2 K2 h a0 a1 a2 a3 = some h') : GG x 0 0 h 2 [(0, .ref a0), (1, .ref a1), (2, .int a2), (3, .int a3)] [] := by
  unfold B_Sh_take_2 at hr
  refine g_iload_n C 3 rfl d_Sh_take_2 rfl ?_
  refine g_iload_n C 2 rfl d_Sh_take_3 rfl ?_
  refine g_icmp_ge (tgt := 48) C d_Sh_take_4 (by decide) (fun z => ?_) (fun z => ?_)
  · have hr := of_if z hr
    refine g_aload_n C 0 rfl d_Sh_take_48 rfl ?_
    refine g_dup C d_Sh_take_49 rfl ?_
    obtain ⟨v1, ev1, hr⟩ := of_bnd hr
    refine g_getI C fl_Sh_24 ev1 d_Sh_take_50 ?_
    refine g_iload_n C 2 rfl d_Sh_take_53 rfl ?_
    refine g_iadd C d_Sh_take_54 ?_
    obtain ⟨h2, eh2, hr⟩ := of_bnd hr
    refine g_putI C fp_Sh_24 eh2 d_Sh_take_55 ?_
    cases hr
    exact g_vreturn C T (by decide) (by decide) d_Sh_take_58
  · have hr := of_el z hr
    refine g_aload_n C 0 rfl d_Sh_take_7 rfl ?_
    obtain ⟨k3, ek3, hr⟩ := of_bnd hr
    refine g_getR C fl_Sh_16 ek3 d_Sh_take_8 ?_
    refine g_aload_n C 0 rfl d_Sh_take_11 rfl ?_
    obtain ⟨v4, ev4, hr⟩ := of_bnd hr
    refine g_getI C fl_Sh_20 ev4 d_Sh_take_12 ?_
    refine g_aload_n C 1 rfl d_Sh_take_15 rfl ?_
    refine g_iload_n C 3 rfl d_Sh_take_16 rfl ?_
    obtain ⟨v5, ev5, hr⟩ := of_bnd hr
    refine g_baload C ev5 d_Sh_take_17 ?_
    obtain ⟨h6, eh6, hr⟩ := of_bnd hr
    refine g_bastore C eh6 d_Sh_take_18 ?_
    refine g_aload_n C 0 rfl d_Sh_take_19 rfl ?_
    refine g_dup C d_Sh_take_20 rfl ?_
    obtain ⟨v7, ev7, hr⟩ := of_bnd hr
    refine g_getI C fl_Sh_20 ev7 d_Sh_take_21 ?_
    refine g_iconst (v := 1) C d_Sh_take_24 (by decide) ?_
    refine g_iadd C d_Sh_take_25 ?_
    obtain ⟨h8, eh8, hr⟩ := of_bnd hr
    refine g_putI C fp_Sh_20 eh8 d_Sh_take_26 ?_
    refine g_aload_n C 0 rfl d_Sh_take_29 rfl ?_
    obtain ⟨v9, ev9, hr⟩ := of_bnd hr
    refine g_getI C fl_Sh_20 ev9 d_Sh_take_30 ?_
    refine g_bipush (v := 64) C d_Sh_take_33 (by decide) ?_
    refine g_icmp_ne (tgt := 42) C d_Sh_take_35 (by decide) (fun z => ?_) (fun z => ?_)
    · have hr := of_el z hr
      exact bk_Sh_take_42 C T hl0 K2 hK2 h8 a0 a1 a2 a3 hr
    · have hr := of_if z hr
      refine g_aload_n C 0 rfl d_Sh_take_38 rfl ?_
      obtain ⟨fsh11, hoh11, hr⟩ := of_ob hr
      obtain ⟨h11, eh11, hr⟩ := of_bnd hr
      refine g_callV (pa := []) C hl0 (c_Sh_mixBlock eh11) cd_Sh_47 kw_in_Sh_mixBlock kw_se_Sh_mixBlock hoh11 rfl rfl (by decide) rfl rfl (Nat.le_of_ble_eq_true rfl) d_Sh_take_39 ?_
      exact bk_Sh_take_42 C T hl0 K2 hK2 h11 a0 a1 a2 a3 hr
def L_Sh_take_2 : Nat → HP → Nat → Nat → Int32 → Int32 → Option (HP)
  | 0, _, _, _, _, _ => none
  | f + 1, h, a0, a1, a2, a3 => B_Sh_take_2 (L_Sh_take_2 f) h a0 a1 a2 a3
theorem lp_Sh_take_2 {l : Launch} {x : CX} {h0 h' : HP} (C : EV x b_Sh_take "PrimeKeys$Sha256" 4 rm_Sh_take) (T : CT x (none) rm_Sh_take h0 none h') (hl0 : x.1.2.1 = l) : ∀ (f : Nat) (h : HP) (a0 : Nat) (a1 : Nat) (a2 : Int32) (a3 : Int32), L_Sh_take_2 f h a0 a1 a2 a3 = some h' → GG x 0 0 h 2 [(0, .ref a0), (1, .ref a1), (2, .int a2), (3, .int a3)] [] := by
  intro f
  induction f with
  | zero => intro h a0 a1 a2 a3 hr; have hr : (none : Option (HP)) = some h' := hr; cases hr
  | succ f ih => intro h a0 a1 a2 a3 hr; exact bk_Sh_take_2 C T hl0 (L_Sh_take_2 f) ih h a0 a1 a2 a3 hr
def P_Sh_take (h : HP) (p0 : Nat) (p1 : Nat) (p2 : Int32) : Option (HP) :=
  L_Sh_take_2 FU h p0 p1 p2 0
set_option maxHeartbeats 4000000 in
set_option maxRecDepth 100000 in
theorem c_Sh_take {l : Launch} {h h' : HP} {p0 p1 p2 : _} (hr : P_Sh_take h p0 p1 p2 = some h') : MP l y_Sh_take (Cond.code y_Sh_take b_Sh_take 4 none :: TB) rm_Sh_take h [.ref p0, .ref p1, .int p2] none h' := by
  refine MP_intro (cc := b_Sh_take) (by decide) (Nat.le_of_ble_eq_true rfl) (fun x hl0 C T hin => ?_)
  unfold P_Sh_take at hr
  show GG x 0 0 h 0 [(0, .ref p0), (1, .ref p1), (2, .int p2)] []
  refine g_iconst (v := 0) C d_Sh_take_0 (by decide) ?_
  refine g_istore_n (lv' := [(3, .int 0), (0, .ref p0), (1, .ref p1), (2, .int p2)]) C d_Sh_take_1 rfl (by decide) rfl ?_
  refine g_lv [1, 2, 3, 0] rfl ?_
  exact lp_Sh_take_2 C T hl0 FU h p0 p1 p2 0 hr
abbrev b_Sh_finish : ByteArray := prog_7_method_5_code
abbrev y_Sh_finish : MethodName := ⟨"PrimeKeys$Sha256", "finish", "([B)V"⟩
theorem d_Sh_finish_0 : decode b_Sh_finish 0 = .ok (.aload_n 0, 1) := by decide +kernel
theorem d_Sh_finish_1 : decode b_Sh_finish 1 = .ok (.getfield 16, 3) := by decide +kernel
theorem d_Sh_finish_4 : decode b_Sh_finish 4 = .ok (.aload_n 0, 1) := by decide +kernel
theorem d_Sh_finish_5 : decode b_Sh_finish 5 = .ok (.getfield 20, 3) := by decide +kernel
theorem d_Sh_finish_8 : decode b_Sh_finish 8 = .ok (.bipush (-128), 2) := by decide +kernel
theorem d_Sh_finish_10 : decode b_Sh_finish 10 = .ok (.bastore, 1) := by decide +kernel
theorem d_Sh_finish_11 : decode b_Sh_finish 11 = .ok (.aload_n 0, 1) := by decide +kernel
theorem d_Sh_finish_12 : decode b_Sh_finish 12 = .ok (.dup, 1) := by decide +kernel
theorem d_Sh_finish_13 : decode b_Sh_finish 13 = .ok (.getfield 20, 3) := by decide +kernel
theorem d_Sh_finish_16 : decode b_Sh_finish 16 = .ok (.iconst 1, 1) := by decide +kernel
theorem d_Sh_finish_17 : decode b_Sh_finish 17 = .ok (.iadd, 1) := by decide +kernel
theorem d_Sh_finish_18 : decode b_Sh_finish 18 = .ok (.putfield 20, 3) := by decide +kernel
theorem d_Sh_finish_21 : decode b_Sh_finish 21 = .ok (.aload_n 0, 1) := by decide +kernel
theorem d_Sh_finish_22 : decode b_Sh_finish 22 = .ok (.getfield 20, 3) := by decide +kernel
theorem d_Sh_finish_25 : decode b_Sh_finish 25 = .ok (.bipush 56, 2) := by decide +kernel
theorem d_Sh_finish_27 : decode b_Sh_finish 27 = .ok (.if_icmp .le 11, 3) := by decide +kernel
theorem d_Sh_finish_30 : decode b_Sh_finish 30 = .ok (.aload_n 0, 1) := by decide +kernel
theorem d_Sh_finish_31 : decode b_Sh_finish 31 = .ok (.invokevirtual 50, 3) := by decide +kernel
theorem d_Sh_finish_34 : decode b_Sh_finish 34 = .ok (.aload_n 0, 1) := by decide +kernel
theorem d_Sh_finish_35 : decode b_Sh_finish 35 = .ok (.invokevirtual 47, 3) := by decide +kernel
theorem d_Sh_finish_38 : decode b_Sh_finish 38 = .ok (.aload_n 0, 1) := by decide +kernel
theorem d_Sh_finish_39 : decode b_Sh_finish 39 = .ok (.invokevirtual 50, 3) := by decide +kernel
theorem d_Sh_finish_42 : decode b_Sh_finish 42 = .ok (.bipush 8, 2) := by decide +kernel
theorem d_Sh_finish_44 : decode b_Sh_finish 44 = .ok (.aload_n 0, 1) := by decide +kernel
theorem d_Sh_finish_45 : decode b_Sh_finish 45 = .ok (.getfield 24, 3) := by decide +kernel
theorem d_Sh_finish_48 : decode b_Sh_finish 48 = .ok (.imul, 1) := by decide +kernel
theorem d_Sh_finish_49 : decode b_Sh_finish 49 = .ok (.aload_n 0, 1) := by decide +kernel
theorem d_Sh_finish_50 : decode b_Sh_finish 50 = .ok (.getfield 16, 3) := by decide +kernel
theorem d_Sh_finish_53 : decode b_Sh_finish 53 = .ok (.bipush 60, 2) := by decide +kernel
theorem d_Sh_finish_55 : decode b_Sh_finish 55 = .ok (.invokestatic 53, 3) := by decide +kernel
theorem d_Sh_finish_58 : decode b_Sh_finish 58 = .ok (.aload_n 0, 1) := by decide +kernel
theorem d_Sh_finish_59 : decode b_Sh_finish 59 = .ok (.invokevirtual 47, 3) := by decide +kernel
theorem d_Sh_finish_62 : decode b_Sh_finish 62 = .ok (.iconst 0, 1) := by decide +kernel
theorem d_Sh_finish_63 : decode b_Sh_finish 63 = .ok (.istore_n 2, 1) := by decide +kernel
theorem d_Sh_finish_64 : decode b_Sh_finish 64 = .ok (.iload_n 2, 1) := by decide +kernel
theorem d_Sh_finish_65 : decode b_Sh_finish 65 = .ok (.bipush 8, 2) := by decide +kernel
theorem d_Sh_finish_67 : decode b_Sh_finish 67 = .ok (.if_icmp .ge 22, 3) := by decide +kernel
theorem d_Sh_finish_70 : decode b_Sh_finish 70 = .ok (.aload_n 0, 1) := by decide +kernel
theorem d_Sh_finish_71 : decode b_Sh_finish 71 = .ok (.getfield 9, 3) := by decide +kernel
theorem d_Sh_finish_74 : decode b_Sh_finish 74 = .ok (.iload_n 2, 1) := by decide +kernel
theorem d_Sh_finish_75 : decode b_Sh_finish 75 = .ok (.iaload, 1) := by decide +kernel
theorem d_Sh_finish_76 : decode b_Sh_finish 76 = .ok (.aload_n 1, 1) := by decide +kernel
theorem d_Sh_finish_77 : decode b_Sh_finish 77 = .ok (.iconst 4, 1) := by decide +kernel
theorem d_Sh_finish_78 : decode b_Sh_finish 78 = .ok (.iload_n 2, 1) := by decide +kernel
theorem d_Sh_finish_79 : decode b_Sh_finish 79 = .ok (.imul, 1) := by decide +kernel
theorem d_Sh_finish_80 : decode b_Sh_finish 80 = .ok (.invokestatic 53, 3) := by decide +kernel
theorem d_Sh_finish_83 : decode b_Sh_finish 83 = .ok (.iinc 2 1, 3) := by decide +kernel
theorem d_Sh_finish_86 : decode b_Sh_finish 86 = .ok (.goto (-22), 3) := by decide +kernel
theorem d_Sh_finish_89 : decode b_Sh_finish 89 = .ok (.return_, 1) := by decide +kernel
theorem cd_Sh_53 : CD "PrimeKeys$Sha256" 53 y_Wo_put b_Wo_put 3 none 3 := ⟨tb_1 (List.mem_of_getElem? (i := 75) rfl) rfl, tb_1 (List.mem_of_getElem? (i := 6) (by decide +kernel)) rfl, tb_2 (List.mem_of_getElem? (i := 136) (by decide +kernel)) rfl, by decide +kernel⟩
theorem cd_Sh_50 : CD "PrimeKeys$Sha256" 50 y_Sh_clearRestOfBlock b_Sh_clearRestOfBlock 2 none 0 := ⟨tb_2 (List.mem_of_getElem? (i := 135) rfl) rfl, tb_1 (List.mem_of_getElem? (i := 2) (by decide +kernel)) rfl, tb_2 (List.mem_of_getElem? (i := 132) (by decide +kernel)) rfl, by decide +kernel⟩
theorem kw_in_Sh_clearRestOfBlock : Cond.instanceMethod y_Sh_clearRestOfBlock ∈ TB := tb_2 (List.mem_of_getElem? (i := 134) (by decide +kernel)) rfl
theorem kw_se_Sh_clearRestOfBlock : Cond.selects "PrimeKeys$Sha256" y_Sh_clearRestOfBlock y_Sh_clearRestOfBlock ∈ TB := tb_p (q := (y_Sh_clearRestOfBlock, 5)) (by decide +kernel)
abbrev rm_Sh_finish : Room := { frames := 2, cells := 0, slots := 0, locals := 58 }
def B_Sh_finish_64 (K64 : HP → Nat → Nat → Int32 → Option (HP)) (h : HP) (a0 : Nat) (a1 : Nat) (a2 : Int32) : Option (HP) :=
  if 8 ≤ a2 then
  some h
  else
  bnd (gR h a0 4 0) fun k12 =>
  bnd (ldI h k12 a2) fun v13 =>
  bnd (P_Wo_put h v13 a1 (4 * a2)) fun h14 =>
  lt (a2 + Int32.ofInt 1) fun x15 =>
  K64 h14 a0 a1 x15
set_option maxHeartbeats 4000000 in
set_option maxRecDepth 100000 in
theorem bk_Sh_finish_64 {l : Launch} {x : CX} {h0 h' : HP} (C : EV x b_Sh_finish "PrimeKeys$Sha256" 3 rm_Sh_finish) (T : CT x (none) rm_Sh_finish h0 none h') (hl0 : x.1.2.1 = l) (K64 : HP → Nat → Nat → Int32 → Option (HP)) (hK64 : ∀ (h : HP) (a0 : Nat) (a1 : Nat) (a2 : Int32), K64 h a0 a1 a2 = some h' → GG x 0 0 h 64 [(0, .ref a0), (1, .ref a1), (2, .int a2)] []) (h : HP) (a0 : Nat) (a1 : Nat) (a2 : Int32) (hr : B_Sh_finish_64 K64 h a0 a1 a2 = some h') : GG x 0 0 h 64 [(0, .ref a0), (1, .ref a1), (2, .int a2)] [] := by
  unfold B_Sh_finish_64 at hr
  refine g_iload_n C 2 rfl d_Sh_finish_64 rfl ?_
  refine g_bipush (v := 8) C d_Sh_finish_65 (by decide) ?_
  refine g_icmp_ge (tgt := 89) C d_Sh_finish_67 (by decide) (fun z => ?_) (fun z => ?_)
  · have hr := of_if z hr
    cases hr
    exact g_vreturn C T (by decide) (by decide) d_Sh_finish_89
  · have hr := of_el z hr
    refine g_aload_n C 0 rfl d_Sh_finish_70 rfl ?_
    obtain ⟨k12, ek12, hr⟩ := of_bnd hr
    refine g_getR C fl_Sh_9 ek12 d_Sh_finish_71 ?_
    refine g_iload_n C 2 rfl d_Sh_finish_74 rfl ?_
    obtain ⟨v13, ev13, hr⟩ := of_bnd hr
    refine g_iaload C ev13 d_Sh_finish_75 ?_
    refine g_aload_n C 1 rfl d_Sh_finish_76 rfl ?_
    refine g_iconst (v := 4) C d_Sh_finish_77 (by decide) ?_
    refine g_iload_n C 2 rfl d_Sh_finish_78 rfl ?_
    refine g_imul C d_Sh_finish_79 ?_
    obtain ⟨h14, eh14, hr⟩ := of_bnd hr
    refine g_callS (pa := [.int v13, .ref a1, .int (4 * a2)]) C hl0 (c_Wo_put eh14) cd_Sh_53 kw_st_Wo_put (by decide) rfl rfl (Nat.le_of_ble_eq_true rfl) d_Sh_finish_80 ?_
    obtain ⟨x15, ex15⟩ : ∃ z, z = a2 + Int32.ofInt 1 := ⟨_, rfl⟩
    have hr := of_lt ex15 hr
    refine g_iinc (lv' := [(2, .int x15), (0, .ref a0), (1, .ref a1)]) C 2 rfl d_Sh_finish_83 ex15.symm (by decide) rfl ?_
    refine g_goto (tgt := 64) C d_Sh_finish_86 (by decide) ?_
    refine g_lv [1, 2, 0] rfl ?_
    exact hK64 h14 a0 a1 x15 hr
def L_Sh_finish_64 : Nat → HP → Nat → Nat → Int32 → Option (HP)
  | 0, _, _, _, _ => none
  | f + 1, h, a0, a1, a2 => B_Sh_finish_64 (L_Sh_finish_64 f) h a0 a1 a2
theorem lp_Sh_finish_64 {l : Launch} {x : CX} {h0 h' : HP} (C : EV x b_Sh_finish "PrimeKeys$Sha256" 3 rm_Sh_finish) (T : CT x (none) rm_Sh_finish h0 none h') (hl0 : x.1.2.1 = l) : ∀ (f : Nat) (h : HP) (a0 : Nat) (a1 : Nat) (a2 : Int32), L_Sh_finish_64 f h a0 a1 a2 = some h' → GG x 0 0 h 64 [(0, .ref a0), (1, .ref a1), (2, .int a2)] [] := by
  intro f
  induction f with
  | zero => intro h a0 a1 a2 hr; have hr : (none : Option (HP)) = some h' := hr; cases hr
  | succ f ih => intro h a0 a1 a2 hr; exact bk_Sh_finish_64 C T hl0 (L_Sh_finish_64 f) ih h a0 a1 a2 hr
def B_Sh_finish_38 (h : HP) (a0 : Nat) (a1 : Nat) : Option (HP) :=
  ob h a0 4 (
  bnd (P_Sh_clearRestOfBlock h a0) fun h7 =>
  bnd (gI h7 a0 4 4) fun v8 =>
  bnd (gR h7 a0 4 2) fun k9 =>
  bnd (P_Wo_put h7 (8 * v8) k9 60) fun h10 =>
  ob h10 a0 4 (
  bnd (P_Sh_mixBlock h10 a0) fun h11 =>
  L_Sh_finish_64 FU h11 a0 a1 0))
set_option maxHeartbeats 4000000 in
set_option maxRecDepth 100000 in
theorem bk_Sh_finish_38 {l : Launch} {x : CX} {h0 h' : HP} (C : EV x b_Sh_finish "PrimeKeys$Sha256" 3 rm_Sh_finish) (T : CT x (none) rm_Sh_finish h0 none h') (hl0 : x.1.2.1 = l) (h : HP) (a0 : Nat) (a1 : Nat) (hr : B_Sh_finish_38 h a0 a1 = some h') : GG x 0 0 h 38 [(0, .ref a0), (1, .ref a1)] [] := by
  unfold B_Sh_finish_38 at hr
  refine g_aload_n C 0 rfl d_Sh_finish_38 rfl ?_
  obtain ⟨fsh7, hoh7, hr⟩ := of_ob hr
  obtain ⟨h7, eh7, hr⟩ := of_bnd hr
  refine g_callV (pa := []) C hl0 (c_Sh_clearRestOfBlock eh7) cd_Sh_50 kw_in_Sh_clearRestOfBlock kw_se_Sh_clearRestOfBlock hoh7 rfl rfl (by decide) rfl rfl (Nat.le_of_ble_eq_true rfl) d_Sh_finish_39 ?_
  refine g_bipush (v := 8) C d_Sh_finish_42 (by decide) ?_
  refine g_aload_n C 0 rfl d_Sh_finish_44 rfl ?_
  obtain ⟨v8, ev8, hr⟩ := of_bnd hr
  refine g_getI C fl_Sh_24 ev8 d_Sh_finish_45 ?_
  refine g_imul C d_Sh_finish_48 ?_
  refine g_aload_n C 0 rfl d_Sh_finish_49 rfl ?_
  obtain ⟨k9, ek9, hr⟩ := of_bnd hr
  refine g_getR C fl_Sh_16 ek9 d_Sh_finish_50 ?_
  refine g_bipush (v := 60) C d_Sh_finish_53 (by decide) ?_
  obtain ⟨h10, eh10, hr⟩ := of_bnd hr
  refine g_callS (pa := [.int (8 * v8), .ref k9, .int 60]) C hl0 (c_Wo_put eh10) cd_Sh_53 kw_st_Wo_put (by decide) rfl rfl (Nat.le_of_ble_eq_true rfl) d_Sh_finish_55 ?_
  refine g_aload_n C 0 rfl d_Sh_finish_58 rfl ?_
  obtain ⟨fsh11, hoh11, hr⟩ := of_ob hr
  obtain ⟨h11, eh11, hr⟩ := of_bnd hr
  refine g_callV (pa := []) C hl0 (c_Sh_mixBlock eh11) cd_Sh_47 kw_in_Sh_mixBlock kw_se_Sh_mixBlock hoh11 rfl rfl (by decide) rfl rfl (Nat.le_of_ble_eq_true rfl) d_Sh_finish_59 ?_
  refine g_iconst (v := 0) C d_Sh_finish_62 (by decide) ?_
  refine g_istore_n (lv' := [(2, .int 0), (0, .ref a0), (1, .ref a1)]) C d_Sh_finish_63 rfl (by decide) rfl ?_
  refine g_lv [1, 2, 0] rfl ?_
  exact lp_Sh_finish_64 C T hl0 FU h11 a0 a1 0 hr
def P_Sh_finish (h : HP) (p0 : Nat) (p1 : Nat) : Option (HP) :=
  bnd (gR h p0 4 2) fun k1 =>
  bnd (gI h p0 4 3) fun v2 =>
  bnd (stB h k1 v2 ((-128))) fun h3 =>
  bnd (gI h3 p0 4 3) fun v4 =>
  bnd (pV h3 p0 4 3 (.int (v4 + 1))) fun h5 =>
  bnd (gI h5 p0 4 3) fun v6 =>
  if v6 ≤ 56 then
  B_Sh_finish_38 h5 p0 p1
  else
  ob h5 p0 4 (
  bnd (P_Sh_clearRestOfBlock h5 p0) fun h16 =>
  ob h16 p0 4 (
  bnd (P_Sh_mixBlock h16 p0) fun h17 =>
  B_Sh_finish_38 h17 p0 p1))
set_option maxHeartbeats 4000000 in
set_option maxRecDepth 100000 in
theorem c_Sh_finish {l : Launch} {h h' : HP} {p0 p1 : _} (hr : P_Sh_finish h p0 p1 = some h') : MP l y_Sh_finish (Cond.code y_Sh_finish b_Sh_finish 3 none :: TB) rm_Sh_finish h [.ref p0, .ref p1] none h' := by
  refine MP_intro (cc := b_Sh_finish) (by decide) (Nat.le_of_ble_eq_true rfl) (fun x hl0 C T hin => ?_)
  unfold P_Sh_finish at hr
  show GG x 0 0 h 0 [(0, .ref p0), (1, .ref p1)] []
  refine g_aload_n C 0 rfl d_Sh_finish_0 rfl ?_
  obtain ⟨k1, ek1, hr⟩ := of_bnd hr
  refine g_getR C fl_Sh_16 ek1 d_Sh_finish_1 ?_
  refine g_aload_n C 0 rfl d_Sh_finish_4 rfl ?_
  obtain ⟨v2, ev2, hr⟩ := of_bnd hr
  refine g_getI C fl_Sh_20 ev2 d_Sh_finish_5 ?_
  refine g_bipush (v := (-128)) C d_Sh_finish_8 (by decide) ?_
  obtain ⟨h3, eh3, hr⟩ := of_bnd hr
  refine g_bastore C eh3 d_Sh_finish_10 ?_
  refine g_aload_n C 0 rfl d_Sh_finish_11 rfl ?_
  refine g_dup C d_Sh_finish_12 rfl ?_
  obtain ⟨v4, ev4, hr⟩ := of_bnd hr
  refine g_getI C fl_Sh_20 ev4 d_Sh_finish_13 ?_
  refine g_iconst (v := 1) C d_Sh_finish_16 (by decide) ?_
  refine g_iadd C d_Sh_finish_17 ?_
  obtain ⟨h5, eh5, hr⟩ := of_bnd hr
  refine g_putI C fp_Sh_20 eh5 d_Sh_finish_18 ?_
  refine g_aload_n C 0 rfl d_Sh_finish_21 rfl ?_
  obtain ⟨v6, ev6, hr⟩ := of_bnd hr
  refine g_getI C fl_Sh_20 ev6 d_Sh_finish_22 ?_
  refine g_bipush (v := 56) C d_Sh_finish_25 (by decide) ?_
  refine g_icmp_le (tgt := 38) C d_Sh_finish_27 (by decide) (fun z => ?_) (fun z => ?_)
  · have hr := of_if z hr
    exact bk_Sh_finish_38 C T hl0 h5 p0 p1 hr
  · have hr := of_el z hr
    refine g_aload_n C 0 rfl d_Sh_finish_30 rfl ?_
    obtain ⟨fsh16, hoh16, hr⟩ := of_ob hr
    obtain ⟨h16, eh16, hr⟩ := of_bnd hr
    refine g_callV (pa := []) C hl0 (c_Sh_clearRestOfBlock eh16) cd_Sh_50 kw_in_Sh_clearRestOfBlock kw_se_Sh_clearRestOfBlock hoh16 rfl rfl (by decide) rfl rfl (Nat.le_of_ble_eq_true rfl) d_Sh_finish_31 ?_
    refine g_aload_n C 0 rfl d_Sh_finish_34 rfl ?_
    obtain ⟨fsh17, hoh17, hr⟩ := of_ob hr
    obtain ⟨h17, eh17, hr⟩ := of_bnd hr
    refine g_callV (pa := []) C hl0 (c_Sh_mixBlock eh17) cd_Sh_47 kw_in_Sh_mixBlock kw_se_Sh_mixBlock hoh17 rfl rfl (by decide) rfl rfl (Nat.le_of_ble_eq_true rfl) d_Sh_finish_35 ?_
    exact bk_Sh_finish_38 C T hl0 h17 p0 p1 hr
abbrev b_Sh_digest : ByteArray := prog_7_method_2_code
abbrev y_Sh_digest : MethodName := ⟨"PrimeKeys$Sha256", "digest", "([BI[B)V"⟩
theorem d_Sh_digest_0 : decode b_Sh_digest 0 = .ok (.aload_n 0, 1) := by decide +kernel
theorem d_Sh_digest_1 : decode b_Sh_digest 1 = .ok (.invokevirtual 27, 3) := by decide +kernel
theorem d_Sh_digest_4 : decode b_Sh_digest 4 = .ok (.aload_n 0, 1) := by decide +kernel
theorem d_Sh_digest_5 : decode b_Sh_digest 5 = .ok (.aload_n 1, 1) := by decide +kernel
theorem d_Sh_digest_6 : decode b_Sh_digest 6 = .ok (.iload_n 2, 1) := by decide +kernel
theorem d_Sh_digest_7 : decode b_Sh_digest 7 = .ok (.invokevirtual 30, 3) := by decide +kernel
theorem d_Sh_digest_10 : decode b_Sh_digest 10 = .ok (.aload_n 0, 1) := by decide +kernel
theorem d_Sh_digest_11 : decode b_Sh_digest 11 = .ok (.aload_n 3, 1) := by decide +kernel
theorem d_Sh_digest_12 : decode b_Sh_digest 12 = .ok (.invokevirtual 34, 3) := by decide +kernel
theorem d_Sh_digest_15 : decode b_Sh_digest 15 = .ok (.return_, 1) := by decide +kernel
theorem cd_Sh_34 : CD "PrimeKeys$Sha256" 34 y_Sh_finish b_Sh_finish 3 none 1 := ⟨tb_2 (List.mem_of_getElem? (i := 131) rfl) rfl, tb_1 (List.mem_of_getElem? (i := 2) (by decide +kernel)) rfl, tb_2 (List.mem_of_getElem? (i := 128) (by decide +kernel)) rfl, by decide +kernel⟩
theorem kw_in_Sh_finish : Cond.instanceMethod y_Sh_finish ∈ TB := tb_2 (List.mem_of_getElem? (i := 129) (by decide +kernel)) rfl
theorem kw_se_Sh_finish : Cond.selects "PrimeKeys$Sha256" y_Sh_finish y_Sh_finish ∈ TB := tb_2 (List.mem_of_getElem? (i := 130) (by decide +kernel)) rfl
theorem cd_Sh_30 : CD "PrimeKeys$Sha256" 30 y_Sh_take b_Sh_take 4 none 2 := ⟨tb_2 (List.mem_of_getElem? (i := 117) rfl) rfl, tb_1 (List.mem_of_getElem? (i := 2) (by decide +kernel)) rfl, tb_2 (List.mem_of_getElem? (i := 114) (by decide +kernel)) rfl, by decide +kernel⟩
theorem kw_in_Sh_take : Cond.instanceMethod y_Sh_take ∈ TB := tb_2 (List.mem_of_getElem? (i := 115) (by decide +kernel)) rfl
theorem kw_se_Sh_take : Cond.selects "PrimeKeys$Sha256" y_Sh_take y_Sh_take ∈ TB := tb_2 (List.mem_of_getElem? (i := 116) (by decide +kernel)) rfl
theorem cd_Sh_27 : CD "PrimeKeys$Sha256" 27 y_Sh_begin b_Sh_begin 1 none 0 := ⟨tb_2 (List.mem_of_getElem? (i := 110) rfl) rfl, tb_1 (List.mem_of_getElem? (i := 2) (by decide +kernel)) rfl, tb_2 (List.mem_of_getElem? (i := 107) (by decide +kernel)) rfl, by decide +kernel⟩
theorem kw_in_Sh_begin : Cond.instanceMethod y_Sh_begin ∈ TB := tb_2 (List.mem_of_getElem? (i := 108) (by decide +kernel)) rfl
theorem kw_se_Sh_begin : Cond.selects "PrimeKeys$Sha256" y_Sh_begin y_Sh_begin ∈ TB := tb_2 (List.mem_of_getElem? (i := 109) (by decide +kernel)) rfl
abbrev rm_Sh_digest : Room := { frames := 3, cells := 0, slots := 0, locals := 81 }
def P_Sh_digest (h : HP) (p0 : Nat) (p1 : Nat) (p2 : Int32) (p3 : Nat) : Option (HP) :=
  ob h p0 4 (
  bnd (P_Sh_begin h p0) fun h1 =>
  ob h1 p0 4 (
  bnd (P_Sh_take h1 p0 p1 p2) fun h2 =>
  ob h2 p0 4 (
  bnd (P_Sh_finish h2 p0 p3) fun h3 =>
  some h3)))
set_option maxHeartbeats 4000000 in
set_option maxRecDepth 100000 in
theorem c_Sh_digest {l : Launch} {h h' : HP} {p0 p1 p2 p3 : _} (hr : P_Sh_digest h p0 p1 p2 p3 = some h') : MP l y_Sh_digest (Cond.code y_Sh_digest b_Sh_digest 4 none :: TB) rm_Sh_digest h [.ref p0, .ref p1, .int p2, .ref p3] none h' := by
  refine MP_intro (cc := b_Sh_digest) (by decide) (Nat.le_of_ble_eq_true rfl) (fun x hl0 C T hin => ?_)
  unfold P_Sh_digest at hr
  show GG x 0 0 h 0 [(0, .ref p0), (1, .ref p1), (2, .int p2), (3, .ref p3)] []
  refine g_aload_n C 0 rfl d_Sh_digest_0 rfl ?_
  obtain ⟨fsh1, hoh1, hr⟩ := of_ob hr
  obtain ⟨h1, eh1, hr⟩ := of_bnd hr
  refine g_callV (pa := []) C hl0 (c_Sh_begin eh1) cd_Sh_27 kw_in_Sh_begin kw_se_Sh_begin hoh1 rfl rfl (by decide) rfl rfl (Nat.le_of_ble_eq_true rfl) d_Sh_digest_1 ?_
  refine g_aload_n C 0 rfl d_Sh_digest_4 rfl ?_
  refine g_aload_n C 1 rfl d_Sh_digest_5 rfl ?_
  refine g_iload_n C 2 rfl d_Sh_digest_6 rfl ?_
  obtain ⟨fsh2, hoh2, hr⟩ := of_ob hr
  obtain ⟨h2, eh2, hr⟩ := of_bnd hr
  refine g_callV (pa := [.ref p1, .int p2]) C hl0 (c_Sh_take eh2) cd_Sh_30 kw_in_Sh_take kw_se_Sh_take hoh2 rfl rfl (by decide) rfl rfl (Nat.le_of_ble_eq_true rfl) d_Sh_digest_7 ?_
  refine g_aload_n C 0 rfl d_Sh_digest_10 rfl ?_
  refine g_aload_n C 3 rfl d_Sh_digest_11 rfl ?_
  obtain ⟨fsh3, hoh3, hr⟩ := of_ob hr
  obtain ⟨h3, eh3, hr⟩ := of_bnd hr
  refine g_callV (pa := [.ref p3]) C hl0 (c_Sh_finish eh3) cd_Sh_34 kw_in_Sh_finish kw_se_Sh_finish hoh3 rfl rfl (by decide) rfl rfl (Nat.le_of_ble_eq_true rfl) d_Sh_digest_12 ?_
  cases hr
  exact g_vreturn C T (by decide) (by decide) d_Sh_digest_15
end
section
abbrev b_Po_new : ByteArray := prog_6_method_1_code
abbrev y_Po_new : MethodName := ⟨"PrimeKeys$Point", "<init>", "()V"⟩
theorem d_Po_new_0 : decode b_Po_new 0 = .ok (.aload_n 0, 1) := by decide +kernel
theorem d_Po_new_1 : decode b_Po_new 1 = .ok (.invokespecial 1, 3) := by decide +kernel
theorem d_Po_new_4 : decode b_Po_new 4 = .ok (.aload_n 0, 1) := by decide +kernel
theorem d_Po_new_5 : decode b_Po_new 5 = .ok (.bipush 9, 2) := by decide +kernel
theorem d_Po_new_7 : decode b_Po_new 7 = .ok (.newarray .long, 2) := by decide +kernel
theorem d_Po_new_9 : decode b_Po_new 9 = .ok (.putfield 9, 3) := by decide +kernel
theorem d_Po_new_12 : decode b_Po_new 12 = .ok (.aload_n 0, 1) := by decide +kernel
theorem d_Po_new_13 : decode b_Po_new 13 = .ok (.bipush 9, 2) := by decide +kernel
theorem d_Po_new_15 : decode b_Po_new 15 = .ok (.newarray .long, 2) := by decide +kernel
theorem d_Po_new_17 : decode b_Po_new 17 = .ok (.putfield 15, 3) := by decide +kernel
theorem d_Po_new_20 : decode b_Po_new 20 = .ok (.aload_n 0, 1) := by decide +kernel
theorem d_Po_new_21 : decode b_Po_new 21 = .ok (.bipush 9, 2) := by decide +kernel
theorem d_Po_new_23 : decode b_Po_new 23 = .ok (.newarray .long, 2) := by decide +kernel
theorem d_Po_new_25 : decode b_Po_new 25 = .ok (.putfield 18, 3) := by decide +kernel
theorem d_Po_new_28 : decode b_Po_new 28 = .ok (.return_, 1) := by decide +kernel
theorem fp_Po_9 : FP "PrimeKeys$Point" 9 3 0 (.array .long) true := ⟨R_Po, F_Po, 3, t_Po, rfl, u_Po, by decide, rfl, tb_1 (List.mem_of_getElem? (i := 142) (by decide +kernel)) rfl, t_Po_ok, n_Po, rfl, by decide +kernel⟩
theorem fp_Po_15 : FP "PrimeKeys$Point" 15 3 1 (.array .long) true := ⟨R_Po, F_Po, 3, t_Po, rfl, u_Po, by decide, rfl, tb_1 (List.mem_of_getElem? (i := 144) (by decide +kernel)) rfl, t_Po_ok, n_Po, rfl, by decide +kernel⟩
theorem fp_Po_18 : FP "PrimeKeys$Point" 18 3 2 (.array .long) true := ⟨R_Po, F_Po, 3, t_Po, rfl, u_Po, by decide, rfl, tb_1 (List.mem_of_getElem? (i := 146) (by decide +kernel)) rfl, t_Po_ok, n_Po, rfl, by decide +kernel⟩
theorem kw_10 : Cond.methodLink "PrimeKeys$Point" 1 Lib.objectInit ∈ TB := tb_1 (List.mem_of_getElem? (i := 141) (by decide +kernel)) rfl
abbrev rm_Po_new : Room := { frames := 1, cells := 3, slots := 27, locals := 20 }
def P_Po_new (h : HP) (p0 : Nat) : Option (HP) :=
  lt (h ++ [pJ 9 (fun _ => 0)]) fun h1 =>
  lt h.length fun k2 =>
  bnd (pV h1 p0 3 0 (.ref k2)) fun h3 =>
  lt (h3 ++ [pJ 9 (fun _ => 0)]) fun h4 =>
  lt h3.length fun k5 =>
  bnd (pV h4 p0 3 1 (.ref k5)) fun h6 =>
  lt (h6 ++ [pJ 9 (fun _ => 0)]) fun h7 =>
  lt h6.length fun k8 =>
  bnd (pV h7 p0 3 2 (.ref k8)) fun h9 =>
  some h9
set_option maxHeartbeats 4000000 in
set_option maxRecDepth 100000 in
theorem c_Po_new {l : Launch} {h h' : HP} {p0 : _} (hr : P_Po_new h p0 = some h') : MP l y_Po_new (Cond.code y_Po_new b_Po_new 1 none :: TB) rm_Po_new h [.ref p0] none h' := by
  refine MP_intro (cc := b_Po_new) (by decide) (Nat.le_of_ble_eq_true rfl) (fun x hl0 C T hin => ?_)
  unfold P_Po_new at hr
  show GG x 0 0 h 0 [(0, .ref p0)] []
  refine g_aload_n C 0 rfl d_Po_new_0 rfl ?_
  refine g_objInit C kw_10 kw_oi kw_oc (by decide) (Nat.le_of_ble_eq_true rfl) d_Po_new_1 ?_
  refine g_aload_n C 0 rfl d_Po_new_4 rfl ?_
  refine g_bipush (v := 9) C d_Po_new_5 (by decide) ?_
  obtain ⟨h1, eh1⟩ : ∃ z, z = h ++ [pJ 9 (fun _ => 0)] := ⟨_, rfl⟩
  have hr := of_lt eh1 hr
  obtain ⟨k2, ek2⟩ : ∃ z, z = h.length := ⟨_, rfl⟩
  have hr := of_lt ek2 hr
  refine g_newJE (n' := 9) C eh1 ek2 (by decide) (by decide) (by decide) (by decide) (by decide) d_Po_new_7 ?_
  obtain ⟨h3, eh3, hr⟩ := of_bnd hr
  refine g_putF C fp_Po_9 hin rfl eh3 (fun _ => rfl) (fun _ => rfl) d_Po_new_9 ?_
  refine g_aload_n C 0 rfl d_Po_new_12 rfl ?_
  refine g_bipush (v := 9) C d_Po_new_13 (by decide) ?_
  obtain ⟨h4, eh4⟩ : ∃ z, z = h3 ++ [pJ 9 (fun _ => 0)] := ⟨_, rfl⟩
  have hr := of_lt eh4 hr
  obtain ⟨k5, ek5⟩ : ∃ z, z = h3.length := ⟨_, rfl⟩
  have hr := of_lt ek5 hr
  refine g_newJE (n' := 9) C eh4 ek5 (by decide) (by decide) (by decide) (by decide) (by decide) d_Po_new_15 ?_
  obtain ⟨h6, eh6, hr⟩ := of_bnd hr
  refine g_putF C fp_Po_15 hin rfl eh6 (fun _ => rfl) (fun _ => rfl) d_Po_new_17 ?_
  refine g_aload_n C 0 rfl d_Po_new_20 rfl ?_
  refine g_bipush (v := 9) C d_Po_new_21 (by decide) ?_
  obtain ⟨h7, eh7⟩ : ∃ z, z = h6 ++ [pJ 9 (fun _ => 0)] := ⟨_, rfl⟩
  have hr := of_lt eh7 hr
  obtain ⟨k8, ek8⟩ : ∃ z, z = h6.length := ⟨_, rfl⟩
  have hr := of_lt ek8 hr
  refine g_newJE (n' := 9) C eh7 ek8 (by decide) (by decide) (by decide) (by decide) (by decide) d_Po_new_23 ?_
  obtain ⟨h9, eh9, hr⟩ := of_bnd hr
  refine g_putF C fp_Po_18 hin rfl eh9 (fun _ => rfl) (fun _ => rfl) d_Po_new_25 ?_
  cases hr
  exact g_vreturn C T (by decide) (by decide) d_Po_new_28
abbrev b_Po_setNeutral : ByteArray := prog_6_method_2_code
abbrev y_Po_setNeutral : MethodName := ⟨"PrimeKeys$Point", "setNeutral", "()V"⟩
theorem d_Po_setNeutral_0 : decode b_Po_setNeutral 0 = .ok (.aload_n 0, 1) := by decide +kernel
theorem d_Po_setNeutral_1 : decode b_Po_setNeutral 1 = .ok (.getfield 9, 3) := by decide +kernel
theorem d_Po_setNeutral_4 : decode b_Po_setNeutral 4 = .ok (.lconst 0, 1) := by decide +kernel
theorem d_Po_setNeutral_5 : decode b_Po_setNeutral 5 = .ok (.invokestatic 21, 3) := by decide +kernel
theorem d_Po_setNeutral_8 : decode b_Po_setNeutral 8 = .ok (.aload_n 0, 1) := by decide +kernel
theorem d_Po_setNeutral_9 : decode b_Po_setNeutral 9 = .ok (.getfield 15, 3) := by decide +kernel
theorem d_Po_setNeutral_12 : decode b_Po_setNeutral 12 = .ok (.lconst 0, 1) := by decide +kernel
theorem d_Po_setNeutral_13 : decode b_Po_setNeutral 13 = .ok (.invokestatic 21, 3) := by decide +kernel
theorem d_Po_setNeutral_16 : decode b_Po_setNeutral 16 = .ok (.aload_n 0, 1) := by decide +kernel
theorem d_Po_setNeutral_17 : decode b_Po_setNeutral 17 = .ok (.getfield 18, 3) := by decide +kernel
theorem d_Po_setNeutral_20 : decode b_Po_setNeutral 20 = .ok (.lconst 0, 1) := by decide +kernel
theorem d_Po_setNeutral_21 : decode b_Po_setNeutral 21 = .ok (.invokestatic 21, 3) := by decide +kernel
theorem d_Po_setNeutral_24 : decode b_Po_setNeutral 24 = .ok (.return_, 1) := by decide +kernel
theorem fl_Po_9 : FL "PrimeKeys$Point" 9 3 0 := ⟨R_Po, F_Po, 3, rfl, u_Po, by decide, rfl, tb_1 (List.mem_of_getElem? (i := 142) (by decide +kernel)) rfl⟩
theorem fl_Po_15 : FL "PrimeKeys$Point" 15 3 1 := ⟨R_Po, F_Po, 3, rfl, u_Po, by decide, rfl, tb_1 (List.mem_of_getElem? (i := 144) (by decide +kernel)) rfl⟩
theorem fl_Po_18 : FL "PrimeKeys$Point" 18 3 2 := ⟨R_Po, F_Po, 3, rfl, u_Po, by decide, rfl, tb_1 (List.mem_of_getElem? (i := 146) (by decide +kernel)) rfl⟩
theorem cd_Po_21 : CD "PrimeKeys$Point" 21 y_Ar_fill_J b_Ar_fill_J 5 none 2 := ⟨tb_1 (List.mem_of_getElem? (i := 81) rfl) rfl, tb_1 (List.mem_of_getElem? (i := 7) (by decide +kernel)) rfl, tb_1 (List.mem_of_getElem? (i := 231) (by decide +kernel)) rfl, by decide +kernel⟩
abbrev rm_Po_setNeutral : Room := { frames := 1, cells := 0, slots := 0, locals := 24 }
def P_Po_setNeutral (h : HP) (p0 : Nat) : Option (HP) :=
  bnd (gR h p0 3 0) fun k1 =>
  bnd (P_Ar_fill_J h k1 0) fun h2 =>
  bnd (gR h2 p0 3 1) fun k3 =>
  bnd (P_Ar_fill_J h2 k3 0) fun h4 =>
  bnd (gR h4 p0 3 2) fun k5 =>
  bnd (P_Ar_fill_J h4 k5 0) fun h6 =>
  some h6
set_option maxHeartbeats 4000000 in
set_option maxRecDepth 100000 in
theorem c_Po_setNeutral {l : Launch} {h h' : HP} {p0 : _} (hr : P_Po_setNeutral h p0 = some h') : MP l y_Po_setNeutral (Cond.code y_Po_setNeutral b_Po_setNeutral 1 none :: TB) rm_Po_setNeutral h [.ref p0] none h' := by
  refine MP_intro (cc := b_Po_setNeutral) (by decide) (Nat.le_of_ble_eq_true rfl) (fun x hl0 C T hin => ?_)
  unfold P_Po_setNeutral at hr
  show GG x 0 0 h 0 [(0, .ref p0)] []
  refine g_aload_n C 0 rfl d_Po_setNeutral_0 rfl ?_
  obtain ⟨k1, ek1, hr⟩ := of_bnd hr
  refine g_getR C fl_Po_9 ek1 d_Po_setNeutral_1 ?_
  refine g_lconst (v := 0) C d_Po_setNeutral_4 (by decide) ?_
  obtain ⟨h2, eh2, hr⟩ := of_bnd hr
  refine g_callS (pa := [.ref k1, .long 0]) C hl0 (c_Ar_fill_J eh2) cd_Po_21 kw_st_Ar_fill_J (by decide) rfl rfl (Nat.le_of_ble_eq_true rfl) d_Po_setNeutral_5 ?_
  refine g_aload_n C 0 rfl d_Po_setNeutral_8 rfl ?_
  obtain ⟨k3, ek3, hr⟩ := of_bnd hr
  refine g_getR C fl_Po_15 ek3 d_Po_setNeutral_9 ?_
  refine g_lconst (v := 0) C d_Po_setNeutral_12 (by decide) ?_
  obtain ⟨h4, eh4, hr⟩ := of_bnd hr
  refine g_callS (pa := [.ref k3, .long 0]) C hl0 (c_Ar_fill_J eh4) cd_Po_21 kw_st_Ar_fill_J (by decide) rfl rfl (Nat.le_of_ble_eq_true rfl) d_Po_setNeutral_13 ?_
  refine g_aload_n C 0 rfl d_Po_setNeutral_16 rfl ?_
  obtain ⟨k5, ek5, hr⟩ := of_bnd hr
  refine g_getR C fl_Po_18 ek5 d_Po_setNeutral_17 ?_
  refine g_lconst (v := 0) C d_Po_setNeutral_20 (by decide) ?_
  obtain ⟨h6, eh6, hr⟩ := of_bnd hr
  refine g_callS (pa := [.ref k5, .long 0]) C hl0 (c_Ar_fill_J eh6) cd_Po_21 kw_st_Ar_fill_J (by decide) rfl rfl (Nat.le_of_ble_eq_true rfl) d_Po_setNeutral_21 ?_
  cases hr
  exact g_vreturn C T (by decide) (by decide) d_Po_setNeutral_24
abbrev b_Po_isNeutral : ByteArray := prog_6_method_3_code
abbrev y_Po_isNeutral : MethodName := ⟨"PrimeKeys$Point", "isNeutral", "()Z"⟩
theorem d_Po_isNeutral_0 : decode b_Po_isNeutral 0 = .ok (.aload_n 0, 1) := by decide +kernel
theorem d_Po_isNeutral_1 : decode b_Po_isNeutral 1 = .ok (.getfield 18, 3) := by decide +kernel
theorem d_Po_isNeutral_4 : decode b_Po_isNeutral 4 = .ok (.invokestatic 27, 3) := by decide +kernel
theorem d_Po_isNeutral_7 : decode b_Po_isNeutral 7 = .ok (.ireturn, 1) := by decide +kernel
theorem cd_Po_27 : CD "PrimeKeys$Point" 27 y_Li_areZero b_Li_areZero 4 (some .boolean) 1 := ⟨tb_1 (List.mem_of_getElem? (i := 214) rfl) rfl, tb_1 (List.mem_of_getElem? (i := 5) (by decide +kernel)) rfl, tb_1 (List.mem_of_getElem? (i := 212) (by decide +kernel)) rfl, by decide +kernel⟩
theorem kw_st_Li_areZero : Cond.static y_Li_areZero ∈ TB := tb_1 (List.mem_of_getElem? (i := 213) (by decide +kernel)) rfl
abbrev rm_Po_isNeutral : Room := { frames := 1, cells := 0, slots := 0, locals := 23 }
def P_Po_isNeutral (h : HP) (p0 : Nat) : Option (Int32 × HP) :=
  bnd (gR h p0 3 2) fun k1 =>
  bnd2 (P_Li_areZero h k1) fun v3 h2 =>
  gd (v3 = 0 ∨ v3 = 1) (some (v3, h2))
set_option maxHeartbeats 4000000 in
set_option maxRecDepth 100000 in
theorem c_Po_isNeutral {l : Launch} {h h' : HP} {p0 : _} {r' : Int32} (hr : P_Po_isNeutral h p0 = some (r', h')) : MP l y_Po_isNeutral (Cond.code y_Po_isNeutral b_Po_isNeutral 1 (some .boolean) :: TB) rm_Po_isNeutral h [.ref p0] (some (.int r')) h' := by
  refine MP_intro (cc := b_Po_isNeutral) (by decide) (Nat.le_of_ble_eq_true rfl) (fun x hl0 C T hin => ?_)
  unfold P_Po_isNeutral at hr
  show GG x 0 0 h 0 [(0, .ref p0)] []
  refine g_aload_n C 0 rfl d_Po_isNeutral_0 rfl ?_
  obtain ⟨k1, ek1, hr⟩ := of_bnd hr
  refine g_getR C fl_Po_18 ek1 d_Po_isNeutral_1 ?_
  obtain ⟨v3, h2, eh2, hr⟩ := of_bnd2 hr
  refine g_callS (pa := [.ref k1]) C hl0 (c_Li_areZero eh2) cd_Po_27 kw_st_Li_areZero (by decide) rfl rfl (Nat.le_of_ble_eq_true rfl) d_Po_isNeutral_4 ?_
  obtain ⟨hz, hr⟩ := of_gd hr
  cases hr
  exact g_ireturn C T (nar_z hz) (by decide) (by decide) d_Po_isNeutral_7
abbrev b_Po_set : ByteArray := prog_6_method_4_code
abbrev y_Po_set : MethodName := ⟨"PrimeKeys$Point", "set", "(LPrimeKeys$Point;)V"⟩
theorem d_Po_set_0 : decode b_Po_set 0 = .ok (.aload_n 1, 1) := by decide +kernel
theorem d_Po_set_1 : decode b_Po_set 1 = .ok (.getfield 9, 3) := by decide +kernel
theorem d_Po_set_4 : decode b_Po_set 4 = .ok (.aload_n 0, 1) := by decide +kernel
theorem d_Po_set_5 : decode b_Po_set 5 = .ok (.getfield 9, 3) := by decide +kernel
theorem d_Po_set_8 : decode b_Po_set 8 = .ok (.invokestatic 31, 3) := by decide +kernel
theorem d_Po_set_11 : decode b_Po_set 11 = .ok (.aload_n 1, 1) := by decide +kernel
theorem d_Po_set_12 : decode b_Po_set 12 = .ok (.getfield 15, 3) := by decide +kernel
theorem d_Po_set_15 : decode b_Po_set 15 = .ok (.aload_n 0, 1) := by decide +kernel
theorem d_Po_set_16 : decode b_Po_set 16 = .ok (.getfield 15, 3) := by decide +kernel
theorem d_Po_set_19 : decode b_Po_set 19 = .ok (.invokestatic 31, 3) := by decide +kernel
theorem d_Po_set_22 : decode b_Po_set 22 = .ok (.aload_n 1, 1) := by decide +kernel
theorem d_Po_set_23 : decode b_Po_set 23 = .ok (.getfield 18, 3) := by decide +kernel
theorem d_Po_set_26 : decode b_Po_set 26 = .ok (.aload_n 0, 1) := by decide +kernel
theorem d_Po_set_27 : decode b_Po_set 27 = .ok (.getfield 18, 3) := by decide +kernel
theorem d_Po_set_30 : decode b_Po_set 30 = .ok (.invokestatic 31, 3) := by decide +kernel
theorem d_Po_set_33 : decode b_Po_set 33 = .ok (.return_, 1) := by decide +kernel
theorem cd_Po_31 : CD "PrimeKeys$Point" 31 y_Li_copy b_Li_copy 2 none 2 := ⟨tb_1 (List.mem_of_getElem? (i := 85) rfl) rfl, tb_1 (List.mem_of_getElem? (i := 5) (by decide +kernel)) rfl, tb_1 (List.mem_of_getElem? (i := 219) (by decide +kernel)) rfl, by decide +kernel⟩
abbrev rm_Po_set : Room := { frames := 2, cells := 0, slots := 0, locals := 47 }
def P_Po_set (h : HP) (p0 : Nat) (p1 : Nat) : Option (HP) :=
  bnd (gR h p1 3 0) fun k1 =>
  bnd (gR h p0 3 0) fun k2 =>
  bnd (P_Li_copy h k1 k2) fun h3 =>
  bnd (gR h3 p1 3 1) fun k4 =>
  bnd (gR h3 p0 3 1) fun k5 =>
  bnd (P_Li_copy h3 k4 k5) fun h6 =>
  bnd (gR h6 p1 3 2) fun k7 =>
  bnd (gR h6 p0 3 2) fun k8 =>
  bnd (P_Li_copy h6 k7 k8) fun h9 =>
  some h9
set_option maxHeartbeats 4000000 in
set_option maxRecDepth 100000 in
theorem c_Po_set {l : Launch} {h h' : HP} {p0 p1 : _} (hr : P_Po_set h p0 p1 = some h') : MP l y_Po_set (Cond.code y_Po_set b_Po_set 2 none :: TB) rm_Po_set h [.ref p0, .ref p1] none h' := by
  refine MP_intro (cc := b_Po_set) (by decide) (Nat.le_of_ble_eq_true rfl) (fun x hl0 C T hin => ?_)
  unfold P_Po_set at hr
  show GG x 0 0 h 0 [(0, .ref p0), (1, .ref p1)] []
  refine g_aload_n C 1 rfl d_Po_set_0 rfl ?_
  obtain ⟨k1, ek1, hr⟩ := of_bnd hr
  refine g_getR C fl_Po_9 ek1 d_Po_set_1 ?_
  refine g_aload_n C 0 rfl d_Po_set_4 rfl ?_
  obtain ⟨k2, ek2, hr⟩ := of_bnd hr
  refine g_getR C fl_Po_9 ek2 d_Po_set_5 ?_
  obtain ⟨h3, eh3, hr⟩ := of_bnd hr
  refine g_callS (pa := [.ref k1, .ref k2]) C hl0 (c_Li_copy eh3) cd_Po_31 kw_st_Li_copy (by decide) rfl rfl (Nat.le_of_ble_eq_true rfl) d_Po_set_8 ?_
  refine g_aload_n C 1 rfl d_Po_set_11 rfl ?_
  obtain ⟨k4, ek4, hr⟩ := of_bnd hr
  refine g_getR C fl_Po_15 ek4 d_Po_set_12 ?_
  refine g_aload_n C 0 rfl d_Po_set_15 rfl ?_
  obtain ⟨k5, ek5, hr⟩ := of_bnd hr
  refine g_getR C fl_Po_15 ek5 d_Po_set_16 ?_
  obtain ⟨h6, eh6, hr⟩ := of_bnd hr
  refine g_callS (pa := [.ref k4, .ref k5]) C hl0 (c_Li_copy eh6) cd_Po_31 kw_st_Li_copy (by decide) rfl rfl (Nat.le_of_ble_eq_true rfl) d_Po_set_19 ?_
  refine g_aload_n C 1 rfl d_Po_set_22 rfl ?_
  obtain ⟨k7, ek7, hr⟩ := of_bnd hr
  refine g_getR C fl_Po_18 ek7 d_Po_set_23 ?_
  refine g_aload_n C 0 rfl d_Po_set_26 rfl ?_
  obtain ⟨k8, ek8, hr⟩ := of_bnd hr
  refine g_getR C fl_Po_18 ek8 d_Po_set_27 ?_
  obtain ⟨h9, eh9, hr⟩ := of_bnd hr
  refine g_callS (pa := [.ref k7, .ref k8]) C hl0 (c_Li_copy eh9) cd_Po_31 kw_st_Li_copy (by decide) rfl rfl (Nat.le_of_ble_eq_true rfl) d_Po_set_30 ?_
  cases hr
  exact g_vreturn C T (by decide) (by decide) d_Po_set_33
end
