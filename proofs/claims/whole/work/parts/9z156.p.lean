-- part 156: the claim
theorem i_vc : Claimed_1_1 ∧ Claimed_1_2 := p_vc p_goal
