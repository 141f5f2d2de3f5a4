/-! THE CLAIM -/
theorem i_vc : Claimed_1_1 ∧ Claimed_1_2 := i_vc_open (la_claim (la_fin cap_ok room_ok))
