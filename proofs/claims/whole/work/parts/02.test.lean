theorem t_test : lw_tbl.length = lw_tbl.length := rfl
theorem i_vc : Claimed_1_1 ∧ Claimed_1_2 := sorry
