theorem st_fair {M : q_Mem} (hS : q_St M) : q_Step M (fX11_fair M) (fun M1 => fX12_fair M1) := by
  sorry
theorem st_has {M : q_Mem} (hS : q_St M) (x1 : Int) (h1 : q_R x1) : q_Step M (fX11_has x1 M) (fun M1 => fX12_has x1 M1) := by
  sorry
theorem st_letter {M : q_Mem} (hS : q_St M) (x1 x2 x3 : Int) (h1 : q_R x1) (h2 : q_R x2) (h3 : q_R x3) : q_Step M (fX11_letter x1 x2 x3 M) (fun M1 => fX12_letter x1 x2 x3 M1) := by
  sorry
theorem st_stall {M : q_Mem} (hS : q_St M) (x1 x2 : Int) (h1 : q_R x1) (h2 : q_R x2) : q_Step M (fX11_stall x1 x2 M) (fun M1 => fX12_stall x1 x2 M1) := by
  sorry
theorem st_coin {M : q_Mem} (hS : q_St M) (x1 x2 : Int) (h1 : q_R x1) (h2 : q_R x2) : q_Step M (fX11_coin x1 x2 M) (fun M1 => fX12_coin x1 x2 M1) := by
  sorry
theorem st_shadow {M : q_Mem} (hS : q_St M) (x1 x2 x3 : Int) (h1 : q_R x1) (h2 : q_R x2) (h3 : q_R x3) : q_Step M (fX11_shadow x1 x2 x3 M) (fun M1 => fX12_shadow x1 x2 x3 M1) := by
  sorry
theorem st_buys {M : q_Mem} (hS : q_St M) (x1 x2 x3 : Int) (h1 : q_R x1) (h2 : q_R x2) (h3 : q_R x3) : q_Step M (fX11_buys x1 x2 x3 M) (fun M1 => fX12_buys x1 x2 x3 M1) := by
  sorry
theorem st_kept {M : q_Mem} (hS : q_St M) (x1 x2 : Int) (h1 : q_R x1) (h2 : q_R x2) : q_Step M (fX11_kept x1 x2 M) (fun M1 => fX12_kept x1 x2 M1) := by
  sorry
theorem st_when {M : q_Mem} (hS : q_St M) (x1 x2 x3 : Int) (h1 : q_R x1) (h2 : q_R x2) (h3 : q_R x3) : q_Step M (fX11_when x1 x2 x3 M) (fun M1 => fX12_when x1 x2 x3 M1) := by
  sorry
theorem st_round {M : q_Mem} (hS : q_St M) (x1 x2 : Int) (h1 : q_R x1) (h2 : q_R x2) : q_Step M (fX11_round x1 x2 M) (fun M1 => fX12_round x1 x2 M1) := by
  sorry
theorem st_blocked {M : q_Mem} (hS : q_St M) (x1 : Int) (h1 : q_R x1) : q_Step M (fX11_blocked x1 M) (fun M1 => fX12_blocked x1 M1) := by
  sorry
theorem st_strike {M : q_Mem} (hS : q_St M) (x1 x2 : Int) (h1 : q_R x1) (h2 : q_R x2) : q_Step M (fX11_strike x1 x2 M) (fun M1 => fX12_strike x1 x2 M1) := by
  sorry
theorem st_handy {M : q_Mem} (hS : q_St M) (x1 : Int) (h1 : q_R x1) : q_Step M (fX11_handy x1 M) (fun M1 => fX12_handy x1 M1) := by
  sorry
theorem st_odd {M : q_Mem} (hS : q_St M) (x1 x2 x3 : Int) (h1 : q_R x1) (h2 : q_R x2) (h3 : q_R x3) : q_Step M (fX11_odd x1 x2 x3 M) (fun M1 => fX12_odd x1 x2 x3 M1) := by
  sorry
theorem st_bridge {M : q_Mem} (hS : q_St M) (x1 x2 : Int) (h1 : q_R x1) (h2 : q_R x2) : q_Step M (fX11_bridge x1 x2 M) (fun M1 => fX12_bridge x1 x2 M1) := by
  sorry
theorem st_change {M : q_Mem} (hS : q_St M) (x1 x2 x3 : Int) (h1 : q_R x1) (h2 : q_R x2) (h3 : q_R x3) : q_Step M (fX11_change x1 x2 x3 M) (fun M1 => fX12_change x1 x2 x3 M1) := by
  sorry
theorem st_chalked {M : q_Mem} (hS : q_St M) (x1 x2 x3 : Int) (h1 : q_R x1) (h2 : q_R x2) (h3 : q_R x3) : q_Step M (fX11_chalked x1 x2 x3 M) (fun M1 => fX12_chalked x1 x2 x3 M1) := by
  sorry
theorem st_see {M : q_Mem} (hS : q_St M) : q_Step M (fX11_see M) (fun M1 => fX12_see M1) := by
  sorry
theorem st_minutes {M : q_Mem} (hS : q_St M) (x1 : Int) (h1 : q_R x1) : q_Step M (fX11_minutes x1 M) (fun M1 => fX12_minutes x1 M1) := by
  sorry
theorem st_lamps {M : q_Mem} (hS : q_St M) (x1 : Int) (h1 : q_R x1) : q_Step M (fX11_lamps x1 M) (fun M1 => fX12_lamps x1 M1) := by
  sorry
theorem st_walk {M : q_Mem} (hS : q_St M) (x1 : Int) (h1 : q_R x1) : q_Step M (fX11_walk x1 M) (fun M1 => fX12_walk x1 M1) := by
  sorry
theorem st_pause {M : q_Mem} (hS : q_St M) (x1 : Int) (h1 : q_R x1) : q_Step M (fX11_pause x1 M) (fun M1 => fX12_pause x1 M1) := by
  sorry
theorem st_buy {M : q_Mem} (hS : q_St M) (x1 x2 : Int) (h1 : q_R x1) (h2 : q_R x2) : q_Step M (fX11_buy x1 x2 M) (fun M1 => fX12_buy x1 x2 M1) := by
  sorry
theorem st_chance {M : q_Mem} (hS : q_St M) (x1 : Int) (h1 : q_R x1) : q_Step M (fX11_chance x1 M) (fun M1 => fX12_chance x1 M1) := by
  sorry
theorem st_undo {M : q_Mem} (hS : q_St M) : q_Step M (fX11_undo M) (fun M1 => fX12_undo M1) := by
  sorry
theorem st_ask {M : q_Mem} (hS : q_St M) : q_StepA M (fX11_ask M) (fun M1 => fX12_ask M1) := by
  sorry
theorem st_image {M : q_Mem} (hS : q_St M) : q_Step M (fX11_image M) (fun M1 => fX12_image M1) := by
  sorry
theorem st_on {M : q_Mem} (hS : q_St M) : q_Step M (fX11_on M) (fun M1 => fX12_on M1) := by
  sorry
