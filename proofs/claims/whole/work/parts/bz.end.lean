theorem i_vc : Claimed_1_1 ∧ Claimed_1_2 := vc_from pure_
