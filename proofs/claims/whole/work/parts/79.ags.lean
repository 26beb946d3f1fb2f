/-! Class and model agree, call by call (those that still stand open). -/
theorem ag_bidder (a1 : Int) (a2 : Int) (ha1 : ok32 a1) (ha2 : ok32 a2) : Ag (fun σ => fX9_bidder 0 a1 a2 σ) (fun σ => fX10_bidder 49 a1 a2 σ) := by
  sorry
theorem ag_bidders (a1 : Int) (a2 : Int) (a3 : Int) (ha1 : ok32 a1) (ha2 : ok32 a2) (ha3 : ok32 a3) : Ag (fun σ => fX9_bidders 0 a1 a2 a3 σ) (fun σ => fX10_bidders 49 a1 a2 a3 σ) := by
  sorry
theorem ag_mend (a1 : Int) (a2 : Int) (a3 : Int) (ha1 : ok32 a1) (ha2 : ok32 a2) (ha3 : ok32 a3) : Ag (fun σ => fX9_mend 0 a1 a2 a3 σ) (fun σ => fX10_mend 49 a1 a2 a3 σ) := by
  sorry
theorem ag_law : Ag (fun σ => fX9_law 0 σ) (fun σ => fX10_law 49 σ) := by
  sorry
theorem ag_years (a1 : Int) (a2 : Int) (ha1 : ok32 a1) (ha2 : ok32 a2) : Ag (fun σ => fX9_years 0 a1 a2 σ) (fun σ => fX10_years 49 a1 a2 σ) := by
  sorry
theorem ag_wins (a1 : Int) (ha1 : ok32 a1) : Ag (fun σ => fX9_wins 0 a1 σ) (fun σ => fX10_wins 49 a1 σ) := by
  sorry
theorem ag_sale (a1 : Int) (a2 : Int) (ha1 : ok32 a1) (ha2 : ok32 a2) : Ag (fun σ => fX9_sale 0 a1 a2 σ) (fun σ => fX10_sale 49 a1 a2 σ) := by
  sorry
theorem ag_after (a1 : Int) (a2 : Int) (a3 : Int) (ha1 : ok32 a1) (ha2 : ok32 a2) (ha3 : ok32 a3) : Ag (fun σ => fX9_after 0 a1 a2 a3 σ) (fun σ => fX10_after 49 a1 a2 a3 σ) := by
  sorry
theorem ag_bestOrder (a1 : Int) (a2 : Int) (ha1 : ok32 a1) (ha2 : ok32 a2) : Ag (fun σ => fX9_bestOrder 0 a1 a2 σ) (fun σ => fX10_bestOrder 49 a1 a2 σ) := by
  sorry
theorem ag_feign (a1 : Int) (ha1 : ok32 a1) : Ag (fun σ => fX9_feign 0 a1 σ) (fun σ => fX10_feign 49 a1 σ) := by
  sorry
theorem ag_examined (a1 : Int) (a2 : Int) (ha1 : ok32 a1) (ha2 : ok32 a2) : Ag (fun σ => fX9_examined 0 a1 a2 σ) (fun σ => fX10_examined 49 a1 a2 σ) := by
  sorry
theorem ag_dealt (a1 : Int) (ha1 : ok32 a1) : Ag (fun σ => fX9_dealt 0 a1 σ) (fun σ => fX10_dealt 49 a1 σ) := by
  sorry
theorem ag_hands : Ag (fun σ => fX9_hands 0 σ) (fun σ => fX10_hands 49 σ) := by
  sorry
theorem ag_later (a1 : Int) (a2 : Int) (a3 : Int) (ha1 : ok32 a1) (ha2 : ok32 a2) (ha3 : ok32 a3) : Ag (fun σ => fX9_later 0 a1 a2 a3 σ) (fun σ => fX10_later 49 a1 a2 a3 σ) := by
  sorry
theorem ag_missed (a1 : Int) (ha1 : ok32 a1) : Ag (fun σ => fX9_missed 0 a1 σ) (fun σ => fX10_missed 49 a1 σ) := by
  sorry
theorem ag_judge (a1 : Int) (ha1 : ok32 a1) : Ag (fun σ => fX9_judge 0 a1 σ) (fun σ => fX10_judge 49 a1 σ) := by
  sorry
theorem ag_fits (a1 : Int) (a2 : Int) (a3 : Int) (ha1 : ok32 a1) (ha2 : ok32 a2) (ha3 : ok32 a3) : Ag (fun σ => fX9_fits 0 a1 a2 a3 σ) (fun σ => fX10_fits 49 a1 a2 a3 σ) := by
  sorry
theorem ag_byTurns (a1 : Int) (a2 : Int) (a3 : Int) (a4 : Int) (ha1 : ok32 a1) (ha2 : ok32 a2) (ha3 : ok32 a3) (ha4 : ok32 a4) : Ag (fun σ => fX9_byTurns 0 a1 a2 a3 a4 σ) (fun σ => fX10_byTurns 49 a1 a2 a3 a4 σ) := by
  sorry
theorem ag_drawn (a1 : Int) (a2 : Int) (a3 : Int) (a4 : Int) (ha1 : ok32 a1) (ha2 : ok32 a2) (ha3 : ok32 a3) (ha4 : ok32 a4) : Ag (fun σ => fX9_drawn 0 a1 a2 a3 a4 σ) (fun σ => fX10_drawn 49 a1 a2 a3 a4 σ) := by
  sorry
theorem ag_putUp (a1 : Int) (ha1 : ok32 a1) : Ag (fun σ => fX9_putUp 0 a1 σ) (fun σ => fX10_putUp 49 a1 σ) := by
  sorry
theorem ag_loses (a1 : Int) (ha1 : ok32 a1) : Ag (fun σ => fX9_loses 0 a1 σ) (fun σ => fX10_loses 49 a1 σ) := by
  sorry
theorem ag_year : Ag (fun σ => fX9_year 0 σ) (fun σ => fX10_year 49 σ) := by
  sorry
theorem ag_image : Ag (fun σ => fX9_image 0 σ) (fun σ => fX10_image 49 σ) := by
  sorry
theorem ag_back : Ag (fun σ => fX9_back 0 σ) (fun σ => fX10_back 49 σ) := by
  sorry
theorem ag_act (a1 : Int) (a2 : Int) (a3 : Int) (ha1 : ok32 a1) (ha2 : ok32 a2) (ha3 : ok32 a3) : Ag (fun σ => fX9_act 0 a1 a2 a3 σ) (fun σ => fX10_act 49 a1 a2 a3 σ) := by
  sorry
theorem ag_row (a1 : Int) (a2 : Int) (a3 : Int) (ha1 : ok32 a1) (ha2 : ok32 a2) (ha3 : ok32 a3) : Ag (fun σ => fX9_row 0 a1 a2 a3 σ) (fun σ => fX10_row 49 a1 a2 a3 σ) := by
  sorry
theorem ag_shift (a1 : Int) (a2 : Int) (a3 : Int) (a4 : Int) (a5 : Int) (ha1 : ok32 a1) (ha2 : ok32 a2) (ha3 : ok32 a3) (ha4 : ok32 a4) (ha5 : ok32 a5) : Ag (fun σ => fX9_shift 0 a1 a2 a3 a4 a5 σ) (fun σ => fX10_shift 49 a1 a2 a3 a4 a5 σ) := by
  sorry
theorem ag_taken (a1 : Int) (a2 : Int) (ha1 : ok32 a1) (ha2 : ok32 a2) : Ag (fun σ => fX9_taken 0 a1 a2 σ) (fun σ => fX10_taken 49 a1 a2 σ) := by
  sorry
