theorem i_vc : Claimed_1_1 ∧ Claimed_1_2 := z_end (q_whole (fun hI hc hm h1 => a_load hI hc hm h1) (fun hI hc hm h1 => a_query hI hc hm h1))
