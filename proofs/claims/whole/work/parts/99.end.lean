theorem pure_fact : PureFact := by
  sorry
theorem i_vc : Claimed_1_1 ∧ Claimed_1_2 := i_vc0 pure_fact
