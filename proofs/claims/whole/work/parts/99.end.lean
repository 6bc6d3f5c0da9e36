theorem all_calls : AllCalls Inv := ⟨k_feed, k_town, k_fault, k_street, k_goer, k_why, k_by, k_go, k_sign, k_bollards, k_put, k_undo, k_judge, k_perform, k_day, k_soonest, k_way, k_rows, k_when, k_bound, k_reach, k_meet, k_meetAt, k_ring, k_laws, k_bylaw, k_shut, k_needed, k_from, k_bollardsBy, k_attempt, k_forces, k_best, k_chance, k_mean, k_likeliest, k_numbers, k_write, k_lists, k_image, k_restore, k_count⟩
theorem pure_fact : PureFact := pure_of all_calls inv_S0
theorem i_vc : Claimed_1_1 ∧ Claimed_1_2 := i_vc0 pure_fact
