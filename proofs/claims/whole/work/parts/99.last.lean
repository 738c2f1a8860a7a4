theorem q_goal_holds : q_goal := l_goal l_rd l_tk
theorem i_vc : Claimed_1_1 ∧ Claimed_1_2 := lw_main q_goal_holds
