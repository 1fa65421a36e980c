/-! The whole claim. -/
theorem pr_all (l : Launch) (hlt : l.stackTraces = false) : PRall l := ⟨pr_put l hlt, pr_bits l hlt, pr_mode l hlt, pr_flags l hlt, pr_work l hlt, pr_compare l hlt, pr_of l hlt, pr_whole l hlt, pr_turn l hlt, pr_kind l hlt, pr_negate l hlt⟩
theorem i_vc : Claimed_1_1 ∧ Claimed_1_2 := whole_open pr_all
