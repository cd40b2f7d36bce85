/-! THE END -/
theorem i_vc : Claimed_1_1 ∧ Claimed_1_2 := en_vc wh_goal
