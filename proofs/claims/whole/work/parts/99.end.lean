/-! the owed statement -/
theorem z_law : zLaw := z_law_of z_begin
theorem i_vc : Claimed_1_1 ∧ Claimed_1_2 := i_vc_of z_law
