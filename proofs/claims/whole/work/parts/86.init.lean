theorem i_start : q_St q_Mi := by
  sorry
