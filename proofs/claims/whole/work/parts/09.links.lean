/-! The words of the tables that the walks use, by their places (printed by my program). -/
theorem ok_m1 : ok32 (-1) := ⟨by decide, by decide⟩
theorem ok_0 : ok32 0 := ⟨by decide, by decide⟩
theorem ok_1 : ok32 1 := ⟨by decide, by decide⟩
theorem ok_2 : ok32 2 := ⟨by decide, by decide⟩
theorem ok_3 : ok32 3 := ⟨by decide, by decide⟩
theorem ok_4 : ok32 4 := ⟨by decide, by decide⟩
theorem ok_5 : ok32 5 := ⟨by decide, by decide⟩
theorem bp_m126 : ok32 (-126) ∧ (Int8.ofInt (-126)).toInt32 = Int32.ofInt (-126) := ⟨⟨by decide, by decide⟩, by decide +kernel⟩
theorem bp_m100 : ok32 (-100) ∧ (Int8.ofInt (-100)).toInt32 = Int32.ofInt (-100) := ⟨⟨by decide, by decide⟩, by decide +kernel⟩
theorem bp_m59 : ok32 (-59) ∧ (Int8.ofInt (-59)).toInt32 = Int32.ofInt (-59) := ⟨⟨by decide, by decide⟩, by decide +kernel⟩
theorem bp_m33 : ok32 (-33) ∧ (Int8.ofInt (-33)).toInt32 = Int32.ofInt (-33) := ⟨⟨by decide, by decide⟩, by decide +kernel⟩
theorem bp_m14 : ok32 (-14) ∧ (Int8.ofInt (-14)).toInt32 = Int32.ofInt (-14) := ⟨⟨by decide, by decide⟩, by decide +kernel⟩
theorem bp_m13 : ok32 (-13) ∧ (Int8.ofInt (-13)).toInt32 = Int32.ofInt (-13) := ⟨⟨by decide, by decide⟩, by decide +kernel⟩
theorem bp_m12 : ok32 (-12) ∧ (Int8.ofInt (-12)).toInt32 = Int32.ofInt (-12) := ⟨⟨by decide, by decide⟩, by decide +kernel⟩
theorem bp_m11 : ok32 (-11) ∧ (Int8.ofInt (-11)).toInt32 = Int32.ofInt (-11) := ⟨⟨by decide, by decide⟩, by decide +kernel⟩
theorem bp_m5 : ok32 (-5) ∧ (Int8.ofInt (-5)).toInt32 = Int32.ofInt (-5) := ⟨⟨by decide, by decide⟩, by decide +kernel⟩
theorem bp_m3 : ok32 (-3) ∧ (Int8.ofInt (-3)).toInt32 = Int32.ofInt (-3) := ⟨⟨by decide, by decide⟩, by decide +kernel⟩
theorem bp_m2 : ok32 (-2) ∧ (Int8.ofInt (-2)).toInt32 = Int32.ofInt (-2) := ⟨⟨by decide, by decide⟩, by decide +kernel⟩
theorem bp_6 : ok32 6 ∧ (Int8.ofInt 6).toInt32 = Int32.ofInt 6 := ⟨⟨by decide, by decide⟩, by decide +kernel⟩
theorem bp_7 : ok32 7 ∧ (Int8.ofInt 7).toInt32 = Int32.ofInt 7 := ⟨⟨by decide, by decide⟩, by decide +kernel⟩
theorem bp_8 : ok32 8 ∧ (Int8.ofInt 8).toInt32 = Int32.ofInt 8 := ⟨⟨by decide, by decide⟩, by decide +kernel⟩
theorem bp_9 : ok32 9 ∧ (Int8.ofInt 9).toInt32 = Int32.ofInt 9 := ⟨⟨by decide, by decide⟩, by decide +kernel⟩
theorem bp_10 : ok32 10 ∧ (Int8.ofInt 10).toInt32 = Int32.ofInt 10 := ⟨⟨by decide, by decide⟩, by decide +kernel⟩
theorem bp_11 : ok32 11 ∧ (Int8.ofInt 11).toInt32 = Int32.ofInt 11 := ⟨⟨by decide, by decide⟩, by decide +kernel⟩
theorem bp_12 : ok32 12 ∧ (Int8.ofInt 12).toInt32 = Int32.ofInt 12 := ⟨⟨by decide, by decide⟩, by decide +kernel⟩
theorem bp_13 : ok32 13 ∧ (Int8.ofInt 13).toInt32 = Int32.ofInt 13 := ⟨⟨by decide, by decide⟩, by decide +kernel⟩
theorem bp_14 : ok32 14 ∧ (Int8.ofInt 14).toInt32 = Int32.ofInt 14 := ⟨⟨by decide, by decide⟩, by decide +kernel⟩
theorem bp_15 : ok32 15 ∧ (Int8.ofInt 15).toInt32 = Int32.ofInt 15 := ⟨⟨by decide, by decide⟩, by decide +kernel⟩
theorem bp_16 : ok32 16 ∧ (Int8.ofInt 16).toInt32 = Int32.ofInt 16 := ⟨⟨by decide, by decide⟩, by decide +kernel⟩
theorem bp_17 : ok32 17 ∧ (Int8.ofInt 17).toInt32 = Int32.ofInt 17 := ⟨⟨by decide, by decide⟩, by decide +kernel⟩
theorem bp_18 : ok32 18 ∧ (Int8.ofInt 18).toInt32 = Int32.ofInt 18 := ⟨⟨by decide, by decide⟩, by decide +kernel⟩
theorem bp_20 : ok32 20 ∧ (Int8.ofInt 20).toInt32 = Int32.ofInt 20 := ⟨⟨by decide, by decide⟩, by decide +kernel⟩
theorem bp_21 : ok32 21 ∧ (Int8.ofInt 21).toInt32 = Int32.ofInt 21 := ⟨⟨by decide, by decide⟩, by decide +kernel⟩
theorem bp_24 : ok32 24 ∧ (Int8.ofInt 24).toInt32 = Int32.ofInt 24 := ⟨⟨by decide, by decide⟩, by decide +kernel⟩
theorem bp_28 : ok32 28 ∧ (Int8.ofInt 28).toInt32 = Int32.ofInt 28 := ⟨⟨by decide, by decide⟩, by decide +kernel⟩
theorem bp_30 : ok32 30 ∧ (Int8.ofInt 30).toInt32 = Int32.ofInt 30 := ⟨⟨by decide, by decide⟩, by decide +kernel⟩
theorem bp_31 : ok32 31 ∧ (Int8.ofInt 31).toInt32 = Int32.ofInt 31 := ⟨⟨by decide, by decide⟩, by decide +kernel⟩
theorem bp_33 : ok32 33 ∧ (Int8.ofInt 33).toInt32 = Int32.ofInt 33 := ⟨⟨by decide, by decide⟩, by decide +kernel⟩
theorem bp_36 : ok32 36 ∧ (Int8.ofInt 36).toInt32 = Int32.ofInt 36 := ⟨⟨by decide, by decide⟩, by decide +kernel⟩
theorem bp_37 : ok32 37 ∧ (Int8.ofInt 37).toInt32 = Int32.ofInt 37 := ⟨⟨by decide, by decide⟩, by decide +kernel⟩
theorem bp_38 : ok32 38 ∧ (Int8.ofInt 38).toInt32 = Int32.ofInt 38 := ⟨⟨by decide, by decide⟩, by decide +kernel⟩
theorem bp_39 : ok32 39 ∧ (Int8.ofInt 39).toInt32 = Int32.ofInt 39 := ⟨⟨by decide, by decide⟩, by decide +kernel⟩
theorem bp_40 : ok32 40 ∧ (Int8.ofInt 40).toInt32 = Int32.ofInt 40 := ⟨⟨by decide, by decide⟩, by decide +kernel⟩
theorem bp_41 : ok32 41 ∧ (Int8.ofInt 41).toInt32 = Int32.ofInt 41 := ⟨⟨by decide, by decide⟩, by decide +kernel⟩
theorem bp_42 : ok32 42 ∧ (Int8.ofInt 42).toInt32 = Int32.ofInt 42 := ⟨⟨by decide, by decide⟩, by decide +kernel⟩
theorem bp_43 : ok32 43 ∧ (Int8.ofInt 43).toInt32 = Int32.ofInt 43 := ⟨⟨by decide, by decide⟩, by decide +kernel⟩
theorem bp_45 : ok32 45 ∧ (Int8.ofInt 45).toInt32 = Int32.ofInt 45 := ⟨⟨by decide, by decide⟩, by decide +kernel⟩
theorem bp_47 : ok32 47 ∧ (Int8.ofInt 47).toInt32 = Int32.ofInt 47 := ⟨⟨by decide, by decide⟩, by decide +kernel⟩
theorem bp_48 : ok32 48 ∧ (Int8.ofInt 48).toInt32 = Int32.ofInt 48 := ⟨⟨by decide, by decide⟩, by decide +kernel⟩
theorem bp_50 : ok32 50 ∧ (Int8.ofInt 50).toInt32 = Int32.ofInt 50 := ⟨⟨by decide, by decide⟩, by decide +kernel⟩
theorem bp_57 : ok32 57 ∧ (Int8.ofInt 57).toInt32 = Int32.ofInt 57 := ⟨⟨by decide, by decide⟩, by decide +kernel⟩
theorem bp_59 : ok32 59 ∧ (Int8.ofInt 59).toInt32 = Int32.ofInt 59 := ⟨⟨by decide, by decide⟩, by decide +kernel⟩
theorem bp_60 : ok32 60 ∧ (Int8.ofInt 60).toInt32 = Int32.ofInt 60 := ⟨⟨by decide, by decide⟩, by decide +kernel⟩
theorem bp_61 : ok32 61 ∧ (Int8.ofInt 61).toInt32 = Int32.ofInt 61 := ⟨⟨by decide, by decide⟩, by decide +kernel⟩
theorem bp_62 : ok32 62 ∧ (Int8.ofInt 62).toInt32 = Int32.ofInt 62 := ⟨⟨by decide, by decide⟩, by decide +kernel⟩
theorem bp_63 : ok32 63 ∧ (Int8.ofInt 63).toInt32 = Int32.ofInt 63 := ⟨⟨by decide, by decide⟩, by decide +kernel⟩
theorem bp_64 : ok32 64 ∧ (Int8.ofInt 64).toInt32 = Int32.ofInt 64 := ⟨⟨by decide, by decide⟩, by decide +kernel⟩
theorem bp_70 : ok32 70 ∧ (Int8.ofInt 70).toInt32 = Int32.ofInt 70 := ⟨⟨by decide, by decide⟩, by decide +kernel⟩
theorem bp_80 : ok32 80 ∧ (Int8.ofInt 80).toInt32 = Int32.ofInt 80 := ⟨⟨by decide, by decide⟩, by decide +kernel⟩
theorem bp_81 : ok32 81 ∧ (Int8.ofInt 81).toInt32 = Int32.ofInt 81 := ⟨⟨by decide, by decide⟩, by decide +kernel⟩
theorem bp_99 : ok32 99 ∧ (Int8.ofInt 99).toInt32 = Int32.ofInt 99 := ⟨⟨by decide, by decide⟩, by decide +kernel⟩
theorem bp_100 : ok32 100 ∧ (Int8.ofInt 100).toInt32 = Int32.ofInt 100 := ⟨⟨by decide, by decide⟩, by decide +kernel⟩
theorem bp_120 : ok32 120 ∧ (Int8.ofInt 120).toInt32 = Int32.ofInt 120 := ⟨⟨by decide, by decide⟩, by decide +kernel⟩
theorem bp_124 : ok32 124 ∧ (Int8.ofInt 124).toInt32 = Int32.ofInt 124 := ⟨⟨by decide, by decide⟩, by decide +kernel⟩
theorem sp_m1000 : ok32 (-1000) ∧ (Int16.ofInt (-1000)).toInt32 = Int32.ofInt (-1000) := ⟨⟨by decide, by decide⟩, by decide +kernel⟩
theorem sp_156 : ok32 156 ∧ (Int16.ofInt 156).toInt32 = Int32.ofInt 156 := ⟨⟨by decide, by decide⟩, by decide +kernel⟩
theorem sp_255 : ok32 255 ∧ (Int16.ofInt 255).toInt32 = Int32.ofInt 255 := ⟨⟨by decide, by decide⟩, by decide +kernel⟩
theorem sp_12345 : ok32 12345 ∧ (Int16.ofInt 12345).toInt32 = Int32.ofInt 12345 := ⟨⟨by decide, by decide⟩, by decide +kernel⟩
theorem lc_0 : ok64 0 ∧ Int64.ofNat ((0 : Fin 2) : Nat) = Int64.ofInt 0 := ⟨⟨by decide, by decide⟩, by decide +kernel⟩
theorem lc_1 : ok64 1 ∧ Int64.ofNat ((1 : Fin 2) : Nat) = Int64.ofInt 1 := ⟨⟨by decide, by decide⟩, by decide +kernel⟩
theorem kRX1_66 : ok64 4782969 ∧ Cond.constantLong RX1 66 (Int64.ofInt 4782969) ∈ lw_w := ⟨⟨by decide, by decide⟩, lw_w_in (l := lw_tbl) 772 rfl (by decide +kernel) (by decide +kernel)⟩
theorem kRX1_77 : ok64 9 ∧ Cond.constantLong RX1 77 (Int64.ofInt 9) ∈ lw_w := ⟨⟨by decide, by decide⟩, lw_w_in (l := lw_tbl) 790 rfl (by decide +kernel) (by decide +kernel)⟩
theorem kRX7_128 : ok32 1103515245 ∧ Cond.constant RX7 128 (Int32.ofInt 1103515245) ∈ lw_w := ⟨⟨by decide, by decide⟩, lw_w_in (l := lw_tbl) 877 rfl (by decide +kernel) (by decide +kernel)⟩
theorem kRX7_135 : ok64 10 ∧ Cond.constantLong RX7 135 (Int64.ofInt 10) ∈ lw_w := ⟨⟨by decide, by decide⟩, lw_w_in (l := lw_tbl) 836 rfl (by decide +kernel) (by decide +kernel)⟩
theorem kRX9_121 : ok32 (-2000000000) ∧ Cond.constant RX9 121 (Int32.ofInt (-2000000000)) ∈ lw_w := ⟨⟨by decide, by decide⟩, lw_w_in (l := lw_tbl) 465 rfl (by decide +kernel) (by decide +kernel)⟩
theorem kRX9_328 : ok64 (-9223372036854775808) ∧ Cond.constantLong RX9 328 (Int64.ofInt (-9223372036854775808)) ∈ lw_w := ⟨⟨by decide, by decide⟩, lw_w_in (l := lw_tbl) 1030 rfl (by decide +kernel) (by decide +kernel)⟩
theorem kRX10_116 : ok64 3 ∧ Cond.constantLong RX10 116 (Int64.ofInt 3) ∈ lw_w := ⟨⟨by decide, by decide⟩, lw_w_in (l := lw_tbl) 1215 rfl (by decide +kernel) (by decide +kernel)⟩
theorem kRX10_135 : ok32 (-2000000000) ∧ Cond.constant RX10 135 (Int32.ofInt (-2000000000)) ∈ lw_w := ⟨⟨by decide, by decide⟩, lw_w_in (l := lw_tbl) 1240 rfl (by decide +kernel) (by decide +kernel)⟩
theorem kRX10_316 : ok32 1103515245 ∧ Cond.constant RX10 316 (Int32.ofInt 1103515245) ∈ lw_w := ⟨⟨by decide, by decide⟩, lw_w_in (l := lw_tbl) 1493 rfl (by decide +kernel) (by decide +kernel)⟩
theorem kRX10_358 : ok64 (-9223372036854775808) ∧ Cond.constantLong RX10 358 (Int64.ofInt (-9223372036854775808)) ∈ lw_w := ⟨⟨by decide, by decide⟩, lw_w_in (l := lw_tbl) 1580 rfl (by decide +kernel) (by decide +kernel)⟩
theorem gsRX1_68 : Cond.fieldLink RX1 68 "MissedSale$Dealing" "WEIGHT" "[J" ∈ lw_w := lw_w_in (l := lw_tbl) 773 rfl (by decide +kernel) (by decide +kernel)
theorem gsRX5_26 : Cond.fieldLink RX5 26 "MissedSale$Lots" "ABOVE" "[I" ∈ lw_w := lw_w_in (l := lw_tbl) 967 rfl (by decide +kernel) (by decide +kernel)
theorem gsRX5_45 : Cond.fieldLink RX5 45 "MissedSale$Lots" "OWN" "[I" ∈ lw_w := lw_w_in (l := lw_tbl) 965 rfl (by decide +kernel) (by decide +kernel)
theorem gsRX8_82 : Cond.fieldLink RX8 82 "MissedSale$Ways" "MOVE_ORDER" "[I" ∈ lw_w := lw_w_in (l := lw_tbl) 854 rfl (by decide +kernel) (by decide +kernel)
theorem gsRX8_98 : Cond.fieldLinkNest RX8 98 "MissedSale" "MOST" "[I" "MissedSale" ∈ lw_tbl := List.mem_of_getElem? (i := 861) (by decide +kernel)
theorem gsRX9_206 : Cond.fieldLink RX9 206 "MissedSale" "MOST" "[I" ∈ lw_w := lw_w_in (l := lw_tbl) 414 rfl (by decide +kernel) (by decide +kernel)
theorem kRJ6_265 : ok32 1431655765 ∧ Cond.constant RJ6 265 (Int32.ofInt 1431655765) ∈ lw_w := ⟨⟨by decide, by decide⟩, lw_w_in (l := lw_tbl) 723 rfl (by decide +kernel) (by decide +kernel)⟩
theorem kRJ6_266 : ok32 858993459 ∧ Cond.constant RJ6 266 (Int32.ofInt 858993459) ∈ lw_w := ⟨⟨by decide, by decide⟩, lw_w_in (l := lw_tbl) 724 rfl (by decide +kernel) (by decide +kernel)⟩
theorem kRJ6_267 : ok32 252645135 ∧ Cond.constant RJ6 267 (Int32.ofInt 252645135) ∈ lw_w := ⟨⟨by decide, by decide⟩, lw_w_in (l := lw_tbl) 725 rfl (by decide +kernel) (by decide +kernel)⟩
theorem gwX0 : wsX00.all goodWord = true := by decide +kernel
theorem iwX0 : ∀ w ∈ wsX00, w ∈ lw_w := fun w h => List.mem_filter.mpr ⟨inX0 w h, List.all_eq_true.mp gwX0 w h⟩
theorem vc_0 : vwCl[0]? = some (RX0, TX0, 3) := rfl
theorem gwX1 : wsX10.all goodWord = true := by decide +kernel
theorem iwX1 : ∀ w ∈ wsX10, w ∈ lw_w := fun w h => List.mem_filter.mpr ⟨inX1 w h, List.all_eq_true.mp gwX1 w h⟩
theorem vc_1 : vwCl[1]? = some (RX1, TX1, 3) := rfl
theorem gwX2 : wsX20.all goodWord = true := by decide +kernel
theorem iwX2 : ∀ w ∈ wsX20, w ∈ lw_w := fun w h => List.mem_filter.mpr ⟨inX2 w h, List.all_eq_true.mp gwX2 w h⟩
theorem vc_2 : vwCl[2]? = some (RX2, TX2, 4) := rfl
theorem gwX3 : wsX30.all goodWord = true := by decide +kernel
theorem iwX3 : ∀ w ∈ wsX30, w ∈ lw_w := fun w h => List.mem_filter.mpr ⟨inX3 w h, List.all_eq_true.mp gwX3 w h⟩
theorem vc_3 : vwCl[3]? = some (RX3, TX3, 3) := rfl
theorem gwX4 : wsX40.all goodWord = true := by decide +kernel
theorem iwX4 : ∀ w ∈ wsX40, w ∈ lw_w := fun w h => List.mem_filter.mpr ⟨inX4 w h, List.all_eq_true.mp gwX4 w h⟩
theorem vc_4 : vwCl[4]? = some (RX4, TX4, 10) := rfl
theorem gwX5 : wsX50.all goodWord = true := by decide +kernel
theorem iwX5 : ∀ w ∈ wsX50, w ∈ lw_w := fun w h => List.mem_filter.mpr ⟨inX5 w h, List.all_eq_true.mp gwX5 w h⟩
theorem vc_5 : vwCl[5]? = some (RX5, TX5, 5) := rfl
theorem gwX6 : wsX60.all goodWord = true := by decide +kernel
theorem iwX6 : ∀ w ∈ wsX60, w ∈ lw_w := fun w h => List.mem_filter.mpr ⟨inX6 w h, List.all_eq_true.mp gwX6 w h⟩
theorem vc_6 : vwCl[6]? = some (RX6, TX6, 5) := rfl
theorem gwX7 : wsX70.all goodWord = true := by decide +kernel
theorem iwX7 : ∀ w ∈ wsX70, w ∈ lw_w := fun w h => List.mem_filter.mpr ⟨inX7 w h, List.all_eq_true.mp gwX7 w h⟩
theorem vc_7 : vwCl[7]? = some (RX7, TX7, 12) := rfl
theorem gwX8 : wsX80.all goodWord = true := by decide +kernel
theorem iwX8 : ∀ w ∈ wsX80, w ∈ lw_w := fun w h => List.mem_filter.mpr ⟨inX8 w h, List.all_eq_true.mp gwX8 w h⟩
theorem vc_8 : vwCl[8]? = some (RX8, TX8, 6) := rfl
theorem gwX9 : wsX90.all goodWord = true := by decide +kernel
theorem iwX9 : ∀ w ∈ wsX90, w ∈ lw_w := fun w h => List.mem_filter.mpr ⟨inX9 w h, List.all_eq_true.mp gwX9 w h⟩
theorem vc_9 : vwCl[9]? = some (RX9, TX9, 10) := rfl
theorem gwX10 : wsX100.all goodWord = true := by decide +kernel
theorem iwX10 : ∀ w ∈ wsX100, w ∈ lw_w := fun w h => List.mem_filter.mpr ⟨inX10 w h, List.all_eq_true.mp gwX10 w h⟩
theorem vc_10 : vwCl[10]? = some (RX10, TX10, 45) := rfl
theorem lfRX9_10 : FL RX9 10 9 0 := ⟨RX9, TX9, 10, rfl, by decide, iwX9, Or.inl (lw_w_in (l := lw_tbl) 364 rfl (by decide +kernel) (by decide +kernel))⟩
theorem lfRX9_19 : FL RX9 19 9 1 := ⟨RX9, TX9, 10, rfl, by decide, iwX9, Or.inl (lw_w_in (l := lw_tbl) 365 rfl (by decide +kernel) (by decide +kernel))⟩
theorem lfRX9_28 : FL RX9 28 9 2 := ⟨RX9, TX9, 10, rfl, by decide, iwX9, Or.inl (lw_w_in (l := lw_tbl) 366 rfl (by decide +kernel) (by decide +kernel))⟩
theorem lfRX9_37 : FL RX9 37 9 3 := ⟨RX9, TX9, 10, rfl, by decide, iwX9, Or.inl (lw_w_in (l := lw_tbl) 367 rfl (by decide +kernel) (by decide +kernel))⟩
theorem lfRX9_44 : FL RX9 44 9 4 := ⟨RX9, TX9, 10, rfl, by decide, iwX9, Or.inl (lw_w_in (l := lw_tbl) 368 rfl (by decide +kernel) (by decide +kernel))⟩
theorem lfRX9_51 : FL RX9 51 9 5 := ⟨RX9, TX9, 10, rfl, by decide, iwX9, Or.inl (lw_w_in (l := lw_tbl) 369 rfl (by decide +kernel) (by decide +kernel))⟩
theorem lfRX9_58 : FL RX9 58 9 6 := ⟨RX9, TX9, 10, rfl, by decide, iwX9, Or.inl (lw_w_in (l := lw_tbl) 370 rfl (by decide +kernel) (by decide +kernel))⟩
theorem lfRX9_65 : FL RX9 65 9 7 := ⟨RX9, TX9, 10, rfl, by decide, iwX9, Or.inl (lw_w_in (l := lw_tbl) 371 rfl (by decide +kernel) (by decide +kernel))⟩
theorem lfRX9_69 : FL RX9 69 9 9 := ⟨RX9, TX9, 10, rfl, by decide, iwX9, Or.inl (lw_w_in (l := lw_tbl) 373 rfl (by decide +kernel) (by decide +kernel))⟩
theorem lfRX9_75 : FL RX9 75 9 8 := ⟨RX9, TX9, 10, rfl, by decide, iwX9, Or.inl (lw_w_in (l := lw_tbl) 372 rfl (by decide +kernel) (by decide +kernel))⟩
theorem lfRX9_96 : FL RX9 96 6 1 := ⟨RX6, TX6, 5, rfl, by decide, iwX6, Or.inr ⟨"MissedSale", List.mem_of_getElem? (i := 346) (by decide +kernel)⟩⟩
theorem lfRX9_155 : FL RX9 155 7 5 := ⟨RX7, TX7, 12, rfl, by decide, iwX7, Or.inr ⟨"MissedSale", List.mem_of_getElem? (i := 191) (by decide +kernel)⟩⟩
theorem lfRX9_174 : FL RX9 174 7 7 := ⟨RX7, TX7, 12, rfl, by decide, iwX7, Or.inr ⟨"MissedSale", List.mem_of_getElem? (i := 195) (by decide +kernel)⟩⟩
theorem lfRX9_177 : FL RX9 177 7 6 := ⟨RX7, TX7, 12, rfl, by decide, iwX7, Or.inr ⟨"MissedSale", List.mem_of_getElem? (i := 193) (by decide +kernel)⟩⟩
theorem lfRX9_183 : FL RX9 183 7 2 := ⟨RX7, TX7, 12, rfl, by decide, iwX7, Or.inr ⟨"MissedSale", List.mem_of_getElem? (i := 187) (by decide +kernel)⟩⟩
theorem lfRX9_186 : FL RX9 186 7 11 := ⟨RX7, TX7, 12, rfl, by decide, iwX7, Or.inr ⟨"MissedSale", List.mem_of_getElem? (i := 205) (by decide +kernel)⟩⟩
theorem lfRX9_189 : FL RX9 189 7 10 := ⟨RX7, TX7, 12, rfl, by decide, iwX7, Or.inr ⟨"MissedSale", List.mem_of_getElem? (i := 203) (by decide +kernel)⟩⟩
theorem lfRX9_192 : FL RX9 192 7 8 := ⟨RX7, TX7, 12, rfl, by decide, iwX7, Or.inr ⟨"MissedSale", List.mem_of_getElem? (i := 199) (by decide +kernel)⟩⟩
theorem lfRX9_203 : FL RX9 203 8 2 := ⟨RX8, TX8, 6, rfl, by decide, iwX8, Or.inr ⟨"MissedSale", List.mem_of_getElem? (i := 240) (by decide +kernel)⟩⟩
theorem lfRX9_209 : FL RX9 209 7 0 := ⟨RX7, TX7, 12, rfl, by decide, iwX7, Or.inr ⟨"MissedSale", List.mem_of_getElem? (i := 182) (by decide +kernel)⟩⟩
theorem lfRX9_222 : FL RX9 222 2 2 := ⟨RX2, TX2, 4, rfl, by decide, iwX2, Or.inr ⟨"MissedSale", List.mem_of_getElem? (i := 116) (by decide +kernel)⟩⟩
theorem lfRX9_253 : FL RX9 253 8 5 := ⟨RX8, TX8, 6, rfl, by decide, iwX8, Or.inr ⟨"MissedSale", List.mem_of_getElem? (i := 244) (by decide +kernel)⟩⟩
theorem lfRX9_275 : FL RX9 275 3 2 := ⟨RX3, TX3, 3, rfl, by decide, iwX3, Or.inr ⟨"MissedSale", List.mem_of_getElem? (i := 304) (by decide +kernel)⟩⟩
theorem lfRX9_282 : FL RX9 282 0 1 := ⟨RX0, TX0, 3, rfl, by decide, iwX0, Or.inr ⟨"MissedSale", List.mem_of_getElem? (i := 283) (by decide +kernel)⟩⟩
theorem lfRX9_289 : FL RX9 289 0 2 := ⟨RX0, TX0, 3, rfl, by decide, iwX0, Or.inr ⟨"MissedSale", List.mem_of_getElem? (i := 285) (by decide +kernel)⟩⟩
theorem lfRX9_330 : FL RX9 330 6 3 := ⟨RX6, TX6, 5, rfl, by decide, iwX6, Or.inr ⟨"MissedSale", List.mem_of_getElem? (i := 350) (by decide +kernel)⟩⟩
theorem lfRX9_333 : FL RX9 333 6 0 := ⟨RX6, TX6, 5, rfl, by decide, iwX6, Or.inr ⟨"MissedSale", List.mem_of_getElem? (i := 344) (by decide +kernel)⟩⟩
theorem lfRX9_343 : FL RX9 343 6 2 := ⟨RX6, TX6, 5, rfl, by decide, iwX6, Or.inr ⟨"MissedSale", List.mem_of_getElem? (i := 348) (by decide +kernel)⟩⟩
theorem lfRX9_352 : FL RX9 352 2 3 := ⟨RX2, TX2, 4, rfl, by decide, iwX2, Or.inr ⟨"MissedSale", List.mem_of_getElem? (i := 122) (by decide +kernel)⟩⟩
theorem lfRX9_355 : FL RX9 355 4 5 := ⟨RX4, TX4, 10, rfl, by decide, iwX4, Or.inr ⟨"MissedSale", List.mem_of_getElem? (i := 145) (by decide +kernel)⟩⟩
theorem lfRX9_358 : FL RX9 358 5 2 := ⟨RX5, TX5, 5, rfl, by decide, iwX5, Or.inr ⟨"MissedSale", List.mem_of_getElem? (i := 321) (by decide +kernel)⟩⟩
theorem lfRX9_361 : FL RX9 361 5 3 := ⟨RX5, TX5, 5, rfl, by decide, iwX5, Or.inr ⟨"MissedSale", List.mem_of_getElem? (i := 323) (by decide +kernel)⟩⟩
theorem lfRX0_9 : FL RX0 9 0 0 := ⟨RX0, TX0, 3, rfl, by decide, iwX0, Or.inl (lw_w_in (l := lw_tbl) 281 rfl (by decide +kernel) (by decide +kernel))⟩
theorem lfRX0_13 : FL RX0 13 0 2 := ⟨RX0, TX0, 3, rfl, by decide, iwX0, Or.inl (lw_w_in (l := lw_tbl) 284 rfl (by decide +kernel) (by decide +kernel))⟩
theorem lfRX0_17 : FL RX0 17 0 1 := ⟨RX0, TX0, 3, rfl, by decide, iwX0, Or.inl (lw_w_in (l := lw_tbl) 282 rfl (by decide +kernel) (by decide +kernel))⟩
theorem lfRX1_9 : FL RX1 9 1 0 := ⟨RX1, TX1, 3, rfl, by decide, iwX1, Or.inl (lw_w_in (l := lw_tbl) 264 rfl (by decide +kernel) (by decide +kernel))⟩
theorem lfRX1_15 : FL RX1 15 1 1 := ⟨RX1, TX1, 3, rfl, by decide, iwX1, Or.inl (lw_w_in (l := lw_tbl) 265 rfl (by decide +kernel) (by decide +kernel))⟩
theorem lfRX1_18 : FL RX1 18 7 8 := ⟨RX7, TX7, 12, rfl, by decide, iwX7, Or.inr ⟨"MissedSale", List.mem_of_getElem? (i := 196) (by decide +kernel)⟩⟩
theorem lfRX1_30 : FL RX1 30 7 0 := ⟨RX7, TX7, 12, rfl, by decide, iwX7, Or.inr ⟨"MissedSale", List.mem_of_getElem? (i := 180) (by decide +kernel)⟩⟩
theorem lfRX1_34 : FL RX1 34 2 3 := ⟨RX2, TX2, 4, rfl, by decide, iwX2, Or.inr ⟨"MissedSale", List.mem_of_getElem? (i := 117) (by decide +kernel)⟩⟩
theorem lfRX1_47 : FL RX1 47 1 2 := ⟨RX1, TX1, 3, rfl, by decide, iwX1, Or.inl (lw_w_in (l := lw_tbl) 266 rfl (by decide +kernel) (by decide +kernel))⟩
theorem lfRX1_51 : FL RX1 51 2 2 := ⟨RX2, TX2, 4, rfl, by decide, iwX2, Or.inr ⟨"MissedSale", List.mem_of_getElem? (i := 113) (by decide +kernel)⟩⟩
theorem lfRX1_58 : FL RX1 58 7 2 := ⟨RX7, TX7, 12, rfl, by decide, iwX7, Or.inr ⟨"MissedSale", List.mem_of_getElem? (i := 186) (by decide +kernel)⟩⟩
theorem lfRX2_11 : FL RX2 11 2 0 := ⟨RX2, TX2, 4, rfl, by decide, iwX2, Or.inl (lw_w_in (l := lw_tbl) 110 rfl (by decide +kernel) (by decide +kernel))⟩
theorem lfRX2_15 : FL RX2 15 2 1 := ⟨RX2, TX2, 4, rfl, by decide, iwX2, Or.inl (lw_w_in (l := lw_tbl) 111 rfl (by decide +kernel) (by decide +kernel))⟩
theorem lfRX2_18 : FL RX2 18 2 2 := ⟨RX2, TX2, 4, rfl, by decide, iwX2, Or.inl (lw_w_in (l := lw_tbl) 112 rfl (by decide +kernel) (by decide +kernel))⟩
theorem lfRX2_22 : FL RX2 22 2 3 := ⟨RX2, TX2, 4, rfl, by decide, iwX2, Or.inl (lw_w_in (l := lw_tbl) 118 rfl (by decide +kernel) (by decide +kernel))⟩
theorem lfRX3_12 : FL RX3 12 3 0 := ⟨RX3, TX3, 3, rfl, by decide, iwX3, Or.inl (lw_w_in (l := lw_tbl) 301 rfl (by decide +kernel) (by decide +kernel))⟩
theorem lfRX3_18 : FL RX3 18 3 1 := ⟨RX3, TX3, 3, rfl, by decide, iwX3, Or.inl (lw_w_in (l := lw_tbl) 302 rfl (by decide +kernel) (by decide +kernel))⟩
theorem lfRX3_32 : FL RX3 32 3 2 := ⟨RX3, TX3, 3, rfl, by decide, iwX3, Or.inl (lw_w_in (l := lw_tbl) 303 rfl (by decide +kernel) (by decide +kernel))⟩
theorem lfRX3_36 : FL RX3 36 2 2 := ⟨RX2, TX2, 4, rfl, by decide, iwX2, Or.inr ⟨"MissedSale", List.mem_of_getElem? (i := 114) (by decide +kernel)⟩⟩
theorem lfRX3_48 : FL RX3 48 2 3 := ⟨RX2, TX2, 4, rfl, by decide, iwX2, Or.inr ⟨"MissedSale", List.mem_of_getElem? (i := 119) (by decide +kernel)⟩⟩
theorem lfRX4_9 : FL RX4 9 4 0 := ⟨RX4, TX4, 10, rfl, by decide, iwX4, Or.inl (lw_w_in (l := lw_tbl) 139 rfl (by decide +kernel) (by decide +kernel))⟩
theorem lfRX4_13 : FL RX4 13 4 1 := ⟨RX4, TX4, 10, rfl, by decide, iwX4, Or.inl (lw_w_in (l := lw_tbl) 140 rfl (by decide +kernel) (by decide +kernel))⟩
theorem lfRX4_16 : FL RX4 16 4 2 := ⟨RX4, TX4, 10, rfl, by decide, iwX4, Or.inl (lw_w_in (l := lw_tbl) 141 rfl (by decide +kernel) (by decide +kernel))⟩
theorem lfRX4_19 : FL RX4 19 4 3 := ⟨RX4, TX4, 10, rfl, by decide, iwX4, Or.inl (lw_w_in (l := lw_tbl) 142 rfl (by decide +kernel) (by decide +kernel))⟩
theorem lfRX4_22 : FL RX4 22 4 4 := ⟨RX4, TX4, 10, rfl, by decide, iwX4, Or.inl (lw_w_in (l := lw_tbl) 143 rfl (by decide +kernel) (by decide +kernel))⟩
theorem lfRX4_25 : FL RX4 25 4 5 := ⟨RX4, TX4, 10, rfl, by decide, iwX4, Or.inl (lw_w_in (l := lw_tbl) 144 rfl (by decide +kernel) (by decide +kernel))⟩
theorem lfRX4_29 : FL RX4 29 4 6 := ⟨RX4, TX4, 10, rfl, by decide, iwX4, Or.inl (lw_w_in (l := lw_tbl) 146 rfl (by decide +kernel) (by decide +kernel))⟩
theorem lfRX4_32 : FL RX4 32 4 7 := ⟨RX4, TX4, 10, rfl, by decide, iwX4, Or.inl (lw_w_in (l := lw_tbl) 147 rfl (by decide +kernel) (by decide +kernel))⟩
theorem lfRX4_39 : FL RX4 39 4 8 := ⟨RX4, TX4, 10, rfl, by decide, iwX4, Or.inl (lw_w_in (l := lw_tbl) 148 rfl (by decide +kernel) (by decide +kernel))⟩
theorem lfRX4_42 : FL RX4 42 4 9 := ⟨RX4, TX4, 10, rfl, by decide, iwX4, Or.inl (lw_w_in (l := lw_tbl) 149 rfl (by decide +kernel) (by decide +kernel))⟩
theorem lfRX5_11 : FL RX5 11 5 0 := ⟨RX5, TX5, 5, rfl, by decide, iwX5, Or.inl (lw_w_in (l := lw_tbl) 318 rfl (by decide +kernel) (by decide +kernel))⟩
theorem lfRX5_15 : FL RX5 15 5 1 := ⟨RX5, TX5, 5, rfl, by decide, iwX5, Or.inl (lw_w_in (l := lw_tbl) 319 rfl (by decide +kernel) (by decide +kernel))⟩
theorem lfRX5_18 : FL RX5 18 5 2 := ⟨RX5, TX5, 5, rfl, by decide, iwX5, Or.inl (lw_w_in (l := lw_tbl) 320 rfl (by decide +kernel) (by decide +kernel))⟩
theorem lfRX5_29 : FL RX5 29 5 3 := ⟨RX5, TX5, 5, rfl, by decide, iwX5, Or.inl (lw_w_in (l := lw_tbl) 322 rfl (by decide +kernel) (by decide +kernel))⟩
theorem lfRX5_38 : FL RX5 38 5 4 := ⟨RX5, TX5, 5, rfl, by decide, iwX5, Or.inl (lw_w_in (l := lw_tbl) 324 rfl (by decide +kernel) (by decide +kernel))⟩
theorem lfRX6_9 : FL RX6 9 6 0 := ⟨RX6, TX6, 5, rfl, by decide, iwX6, Or.inl (lw_w_in (l := lw_tbl) 343 rfl (by decide +kernel) (by decide +kernel))⟩
theorem lfRX6_15 : FL RX6 15 6 1 := ⟨RX6, TX6, 5, rfl, by decide, iwX6, Or.inl (lw_w_in (l := lw_tbl) 345 rfl (by decide +kernel) (by decide +kernel))⟩
theorem lfRX6_19 : FL RX6 19 6 4 := ⟨RX6, TX6, 5, rfl, by decide, iwX6, Or.inl (lw_w_in (l := lw_tbl) 351 rfl (by decide +kernel) (by decide +kernel))⟩
theorem lfRX6_22 : FL RX6 22 6 2 := ⟨RX6, TX6, 5, rfl, by decide, iwX6, Or.inl (lw_w_in (l := lw_tbl) 347 rfl (by decide +kernel) (by decide +kernel))⟩
theorem lfRX6_25 : FL RX6 25 6 3 := ⟨RX6, TX6, 5, rfl, by decide, iwX6, Or.inl (lw_w_in (l := lw_tbl) 349 rfl (by decide +kernel) (by decide +kernel))⟩
theorem lfRX7_12 : FL RX7 12 7 0 := ⟨RX7, TX7, 12, rfl, by decide, iwX7, Or.inl (lw_w_in (l := lw_tbl) 179 rfl (by decide +kernel) (by decide +kernel))⟩
theorem lfRX7_18 : FL RX7 18 7 2 := ⟨RX7, TX7, 12, rfl, by decide, iwX7, Or.inl (lw_w_in (l := lw_tbl) 184 rfl (by decide +kernel) (by decide +kernel))⟩
theorem lfRX7_22 : FL RX7 22 7 3 := ⟨RX7, TX7, 12, rfl, by decide, iwX7, Or.inl (lw_w_in (l := lw_tbl) 188 rfl (by decide +kernel) (by decide +kernel))⟩
theorem lfRX7_25 : FL RX7 25 7 4 := ⟨RX7, TX7, 12, rfl, by decide, iwX7, Or.inl (lw_w_in (l := lw_tbl) 189 rfl (by decide +kernel) (by decide +kernel))⟩
theorem lfRX7_28 : FL RX7 28 7 5 := ⟨RX7, TX7, 12, rfl, by decide, iwX7, Or.inl (lw_w_in (l := lw_tbl) 190 rfl (by decide +kernel) (by decide +kernel))⟩
theorem lfRX7_31 : FL RX7 31 7 6 := ⟨RX7, TX7, 12, rfl, by decide, iwX7, Or.inl (lw_w_in (l := lw_tbl) 192 rfl (by decide +kernel) (by decide +kernel))⟩
theorem lfRX7_34 : FL RX7 34 7 1 := ⟨RX7, TX7, 12, rfl, by decide, iwX7, Or.inl (lw_w_in (l := lw_tbl) 183 rfl (by decide +kernel) (by decide +kernel))⟩
theorem lfRX7_51 : FL RX7 51 7 8 := ⟨RX7, TX7, 12, rfl, by decide, iwX7, Or.inl (lw_w_in (l := lw_tbl) 197 rfl (by decide +kernel) (by decide +kernel))⟩
theorem lfRX7_55 : FL RX7 55 7 9 := ⟨RX7, TX7, 12, rfl, by decide, iwX7, Or.inl (lw_w_in (l := lw_tbl) 200 rfl (by decide +kernel) (by decide +kernel))⟩
theorem lfRX7_58 : FL RX7 58 7 10 := ⟨RX7, TX7, 12, rfl, by decide, iwX7, Or.inl (lw_w_in (l := lw_tbl) 202 rfl (by decide +kernel) (by decide +kernel))⟩
theorem lfRX7_61 : FL RX7 61 7 11 := ⟨RX7, TX7, 12, rfl, by decide, iwX7, Or.inl (lw_w_in (l := lw_tbl) 204 rfl (by decide +kernel) (by decide +kernel))⟩
theorem lfRX7_64 : FL RX7 64 2 2 := ⟨RX2, TX2, 4, rfl, by decide, iwX2, Or.inr ⟨"MissedSale", List.mem_of_getElem? (i := 115) (by decide +kernel)⟩⟩
theorem lfRX7_93 : FL RX7 93 2 3 := ⟨RX2, TX2, 4, rfl, by decide, iwX2, Or.inr ⟨"MissedSale", List.mem_of_getElem? (i := 121) (by decide +kernel)⟩⟩
theorem lfRX7_116 : FL RX7 116 7 7 := ⟨RX7, TX7, 12, rfl, by decide, iwX7, Or.inl (lw_w_in (l := lw_tbl) 194 rfl (by decide +kernel) (by decide +kernel))⟩
theorem lfRX7_129 : FL RX7 129 6 4 := ⟨RX6, TX6, 5, rfl, by decide, iwX6, Or.inr ⟨"MissedSale", List.mem_of_getElem? (i := 352) (by decide +kernel)⟩⟩
theorem lfRX8_11 : FL RX8 11 8 1 := ⟨RX8, TX8, 6, rfl, by decide, iwX8, Or.inl (lw_w_in (l := lw_tbl) 238 rfl (by decide +kernel) (by decide +kernel))⟩
theorem lfRX8_15 : FL RX8 15 8 2 := ⟨RX8, TX8, 6, rfl, by decide, iwX8, Or.inl (lw_w_in (l := lw_tbl) 239 rfl (by decide +kernel) (by decide +kernel))⟩
theorem lfRX8_18 : FL RX8 18 8 0 := ⟨RX8, TX8, 6, rfl, by decide, iwX8, Or.inl (lw_w_in (l := lw_tbl) 237 rfl (by decide +kernel) (by decide +kernel))⟩
theorem lfRX8_22 : FL RX8 22 8 3 := ⟨RX8, TX8, 6, rfl, by decide, iwX8, Or.inl (lw_w_in (l := lw_tbl) 241 rfl (by decide +kernel) (by decide +kernel))⟩
theorem lfRX8_32 : FL RX8 32 8 4 := ⟨RX8, TX8, 6, rfl, by decide, iwX8, Or.inl (lw_w_in (l := lw_tbl) 242 rfl (by decide +kernel) (by decide +kernel))⟩
theorem lfRX8_39 : FL RX8 39 7 2 := ⟨RX7, TX7, 12, rfl, by decide, iwX7, Or.inr ⟨"MissedSale", List.mem_of_getElem? (i := 185) (by decide +kernel)⟩⟩
theorem lfRX8_50 : FL RX8 50 7 8 := ⟨RX7, TX7, 12, rfl, by decide, iwX7, Or.inr ⟨"MissedSale", List.mem_of_getElem? (i := 198) (by decide +kernel)⟩⟩
theorem lfRX8_61 : FL RX8 61 7 0 := ⟨RX7, TX7, 12, rfl, by decide, iwX7, Or.inr ⟨"MissedSale", List.mem_of_getElem? (i := 181) (by decide +kernel)⟩⟩
theorem lfRX8_65 : FL RX8 65 2 3 := ⟨RX2, TX2, 4, rfl, by decide, iwX2, Or.inr ⟨"MissedSale", List.mem_of_getElem? (i := 120) (by decide +kernel)⟩⟩
theorem lfRX8_70 : FL RX8 70 7 9 := ⟨RX7, TX7, 12, rfl, by decide, iwX7, Or.inr ⟨"MissedSale", List.mem_of_getElem? (i := 201) (by decide +kernel)⟩⟩
theorem lfRX8_89 : FL RX8 89 8 5 := ⟨RX8, TX8, 6, rfl, by decide, iwX8, Or.inl (lw_w_in (l := lw_tbl) 243 rfl (by decide +kernel) (by decide +kernel))⟩
theorem lfRX10_9 : FL RX10 9 10 1 := ⟨RX10, TX10, 45, rfl, by decide, iwX10, Or.inl (lw_w_in (l := lw_tbl) 1058 rfl (by decide +kernel) (by decide +kernel))⟩
theorem lfRX10_15 : FL RX10 15 10 2 := ⟨RX10, TX10, 45, rfl, by decide, iwX10, Or.inl (lw_w_in (l := lw_tbl) 1059 rfl (by decide +kernel) (by decide +kernel))⟩
theorem lfRX10_18 : FL RX10 18 10 3 := ⟨RX10, TX10, 45, rfl, by decide, iwX10, Or.inl (lw_w_in (l := lw_tbl) 1060 rfl (by decide +kernel) (by decide +kernel))⟩
theorem lfRX10_21 : FL RX10 21 10 4 := ⟨RX10, TX10, 45, rfl, by decide, iwX10, Or.inl (lw_w_in (l := lw_tbl) 1061 rfl (by decide +kernel) (by decide +kernel))⟩
theorem lfRX10_24 : FL RX10 24 10 6 := ⟨RX10, TX10, 45, rfl, by decide, iwX10, Or.inl (lw_w_in (l := lw_tbl) 1063 rfl (by decide +kernel) (by decide +kernel))⟩
theorem lfRX10_27 : FL RX10 27 10 8 := ⟨RX10, TX10, 45, rfl, by decide, iwX10, Or.inl (lw_w_in (l := lw_tbl) 1065 rfl (by decide +kernel) (by decide +kernel))⟩
theorem lfRX10_30 : FL RX10 30 10 11 := ⟨RX10, TX10, 45, rfl, by decide, iwX10, Or.inl (lw_w_in (l := lw_tbl) 1068 rfl (by decide +kernel) (by decide +kernel))⟩
theorem lfRX10_33 : FL RX10 33 10 12 := ⟨RX10, TX10, 45, rfl, by decide, iwX10, Or.inl (lw_w_in (l := lw_tbl) 1069 rfl (by decide +kernel) (by decide +kernel))⟩
theorem lfRX10_36 : FL RX10 36 10 13 := ⟨RX10, TX10, 45, rfl, by decide, iwX10, Or.inl (lw_w_in (l := lw_tbl) 1070 rfl (by decide +kernel) (by decide +kernel))⟩
theorem lfRX10_39 : FL RX10 39 10 14 := ⟨RX10, TX10, 45, rfl, by decide, iwX10, Or.inl (lw_w_in (l := lw_tbl) 1071 rfl (by decide +kernel) (by decide +kernel))⟩
theorem lfRX10_42 : FL RX10 42 10 19 := ⟨RX10, TX10, 45, rfl, by decide, iwX10, Or.inl (lw_w_in (l := lw_tbl) 1076 rfl (by decide +kernel) (by decide +kernel))⟩
theorem lfRX10_45 : FL RX10 45 10 20 := ⟨RX10, TX10, 45, rfl, by decide, iwX10, Or.inl (lw_w_in (l := lw_tbl) 1077 rfl (by decide +kernel) (by decide +kernel))⟩
theorem lfRX10_48 : FL RX10 48 10 21 := ⟨RX10, TX10, 45, rfl, by decide, iwX10, Or.inl (lw_w_in (l := lw_tbl) 1078 rfl (by decide +kernel) (by decide +kernel))⟩
theorem lfRX10_51 : FL RX10 51 10 22 := ⟨RX10, TX10, 45, rfl, by decide, iwX10, Or.inl (lw_w_in (l := lw_tbl) 1079 rfl (by decide +kernel) (by decide +kernel))⟩
theorem lfRX10_54 : FL RX10 54 10 23 := ⟨RX10, TX10, 45, rfl, by decide, iwX10, Or.inl (lw_w_in (l := lw_tbl) 1080 rfl (by decide +kernel) (by decide +kernel))⟩
theorem lfRX10_57 : FL RX10 57 10 24 := ⟨RX10, TX10, 45, rfl, by decide, iwX10, Or.inl (lw_w_in (l := lw_tbl) 1081 rfl (by decide +kernel) (by decide +kernel))⟩
theorem lfRX10_60 : FL RX10 60 10 25 := ⟨RX10, TX10, 45, rfl, by decide, iwX10, Or.inl (lw_w_in (l := lw_tbl) 1082 rfl (by decide +kernel) (by decide +kernel))⟩
theorem lfRX10_63 : FL RX10 63 10 29 := ⟨RX10, TX10, 45, rfl, by decide, iwX10, Or.inl (lw_w_in (l := lw_tbl) 1086 rfl (by decide +kernel) (by decide +kernel))⟩
theorem lfRX10_66 : FL RX10 66 10 30 := ⟨RX10, TX10, 45, rfl, by decide, iwX10, Or.inl (lw_w_in (l := lw_tbl) 1087 rfl (by decide +kernel) (by decide +kernel))⟩
theorem lfRX10_69 : FL RX10 69 10 33 := ⟨RX10, TX10, 45, rfl, by decide, iwX10, Or.inl (lw_w_in (l := lw_tbl) 1090 rfl (by decide +kernel) (by decide +kernel))⟩
theorem lfRX10_72 : FL RX10 72 10 35 := ⟨RX10, TX10, 45, rfl, by decide, iwX10, Or.inl (lw_w_in (l := lw_tbl) 1092 rfl (by decide +kernel) (by decide +kernel))⟩
theorem lfRX10_75 : FL RX10 75 10 37 := ⟨RX10, TX10, 45, rfl, by decide, iwX10, Or.inl (lw_w_in (l := lw_tbl) 1094 rfl (by decide +kernel) (by decide +kernel))⟩
theorem lfRX10_78 : FL RX10 78 10 38 := ⟨RX10, TX10, 45, rfl, by decide, iwX10, Or.inl (lw_w_in (l := lw_tbl) 1095 rfl (by decide +kernel) (by decide +kernel))⟩
theorem lfRX10_81 : FL RX10 81 10 39 := ⟨RX10, TX10, 45, rfl, by decide, iwX10, Or.inl (lw_w_in (l := lw_tbl) 1096 rfl (by decide +kernel) (by decide +kernel))⟩
theorem lfRX10_84 : FL RX10 84 10 40 := ⟨RX10, TX10, 45, rfl, by decide, iwX10, Or.inl (lw_w_in (l := lw_tbl) 1097 rfl (by decide +kernel) (by decide +kernel))⟩
theorem lfRX10_88 : FL RX10 88 10 41 := ⟨RX10, TX10, 45, rfl, by decide, iwX10, Or.inl (lw_w_in (l := lw_tbl) 1098 rfl (by decide +kernel) (by decide +kernel))⟩
theorem lfRX10_91 : FL RX10 91 10 42 := ⟨RX10, TX10, 45, rfl, by decide, iwX10, Or.inl (lw_w_in (l := lw_tbl) 1099 rfl (by decide +kernel) (by decide +kernel))⟩
theorem lfRX10_94 : FL RX10 94 10 43 := ⟨RX10, TX10, 45, rfl, by decide, iwX10, Or.inl (lw_w_in (l := lw_tbl) 1100 rfl (by decide +kernel) (by decide +kernel))⟩
theorem lfRX10_97 : FL RX10 97 10 0 := ⟨RX10, TX10, 45, rfl, by decide, iwX10, Or.inl (lw_w_in (l := lw_tbl) 1057 rfl (by decide +kernel) (by decide +kernel))⟩
theorem lfRX10_105 : FL RX10 105 10 5 := ⟨RX10, TX10, 45, rfl, by decide, iwX10, Or.inl (lw_w_in (l := lw_tbl) 1062 rfl (by decide +kernel) (by decide +kernel))⟩
theorem lfRX10_143 : FL RX10 143 10 32 := ⟨RX10, TX10, 45, rfl, by decide, iwX10, Or.inl (lw_w_in (l := lw_tbl) 1089 rfl (by decide +kernel) (by decide +kernel))⟩
theorem lfRX10_146 : FL RX10 146 10 31 := ⟨RX10, TX10, 45, rfl, by decide, iwX10, Or.inl (lw_w_in (l := lw_tbl) 1088 rfl (by decide +kernel) (by decide +kernel))⟩
theorem lfRX10_149 : FL RX10 149 10 7 := ⟨RX10, TX10, 45, rfl, by decide, iwX10, Or.inl (lw_w_in (l := lw_tbl) 1064 rfl (by decide +kernel) (by decide +kernel))⟩
theorem lfRX10_152 : FL RX10 152 10 15 := ⟨RX10, TX10, 45, rfl, by decide, iwX10, Or.inl (lw_w_in (l := lw_tbl) 1072 rfl (by decide +kernel) (by decide +kernel))⟩
theorem lfRX10_159 : FL RX10 159 10 17 := ⟨RX10, TX10, 45, rfl, by decide, iwX10, Or.inl (lw_w_in (l := lw_tbl) 1074 rfl (by decide +kernel) (by decide +kernel))⟩
theorem lfRX10_173 : FL RX10 173 10 16 := ⟨RX10, TX10, 45, rfl, by decide, iwX10, Or.inl (lw_w_in (l := lw_tbl) 1073 rfl (by decide +kernel) (by decide +kernel))⟩
theorem lfRX10_197 : FL RX10 197 10 18 := ⟨RX10, TX10, 45, rfl, by decide, iwX10, Or.inl (lw_w_in (l := lw_tbl) 1075 rfl (by decide +kernel) (by decide +kernel))⟩
theorem lfRX10_203 : FL RX10 203 10 9 := ⟨RX10, TX10, 45, rfl, by decide, iwX10, Or.inl (lw_w_in (l := lw_tbl) 1066 rfl (by decide +kernel) (by decide +kernel))⟩
theorem lfRX10_207 : FL RX10 207 10 10 := ⟨RX10, TX10, 45, rfl, by decide, iwX10, Or.inl (lw_w_in (l := lw_tbl) 1067 rfl (by decide +kernel) (by decide +kernel))⟩
theorem lfRX10_267 : FL RX10 267 10 44 := ⟨RX10, TX10, 45, rfl, by decide, iwX10, Or.inl (lw_w_in (l := lw_tbl) 1101 rfl (by decide +kernel) (by decide +kernel))⟩
theorem lfRX10_317 : FL RX10 317 10 26 := ⟨RX10, TX10, 45, rfl, by decide, iwX10, Or.inl (lw_w_in (l := lw_tbl) 1083 rfl (by decide +kernel) (by decide +kernel))⟩
theorem lfRX10_320 : FL RX10 320 10 27 := ⟨RX10, TX10, 45, rfl, by decide, iwX10, Or.inl (lw_w_in (l := lw_tbl) 1084 rfl (by decide +kernel) (by decide +kernel))⟩
theorem lfRX10_323 : FL RX10 323 10 28 := ⟨RX10, TX10, 45, rfl, by decide, iwX10, Or.inl (lw_w_in (l := lw_tbl) 1085 rfl (by decide +kernel) (by decide +kernel))⟩
theorem lfRX10_326 : FL RX10 326 10 36 := ⟨RX10, TX10, 45, rfl, by decide, iwX10, Or.inl (lw_w_in (l := lw_tbl) 1093 rfl (by decide +kernel) (by decide +kernel))⟩
theorem lfRX10_348 : FL RX10 348 10 34 := ⟨RX10, TX10, 45, rfl, by decide, iwX10, Or.inl (lw_w_in (l := lw_tbl) 1091 rfl (by decide +kernel) (by decide +kernel))⟩
theorem fp_0_1 : FP 0 1 .int := ⟨RX0, TX0, 3, tyX0, rfl, tyX0_ok, nmX0, by decide, by decide +kernel⟩
theorem fp_0_2 : FP 0 2 .int := ⟨RX0, TX0, 3, tyX0, rfl, tyX0_ok, nmX0, by decide, by decide +kernel⟩
theorem fp_1_2 : FP 1 2 .long := ⟨RX1, TX1, 3, tyX1, rfl, tyX1_ok, nmX1, by decide, by decide +kernel⟩
theorem fp_2_2 : FP 2 2 .int := ⟨RX2, TX2, 4, tyX2, rfl, tyX2_ok, nmX2, by decide, by decide +kernel⟩
theorem fp_2_3 : FP 2 3 .int := ⟨RX2, TX2, 4, tyX2, rfl, tyX2_ok, nmX2, by decide, by decide +kernel⟩
theorem fp_3_2 : FP 3 2 .boolean := ⟨RX3, TX3, 3, tyX3, rfl, tyX3_ok, nmX3, by decide, by decide +kernel⟩
theorem fp_4_3 : FP 4 3 (.array .int) := ⟨RX4, TX4, 10, tyX4, rfl, tyX4_ok, nmX4, by decide, by decide +kernel⟩
theorem fp_4_4 : FP 4 4 (.array .int) := ⟨RX4, TX4, 10, tyX4, rfl, tyX4_ok, nmX4, by decide, by decide +kernel⟩
theorem fp_4_5 : FP 4 5 .int := ⟨RX4, TX4, 10, tyX4, rfl, tyX4_ok, nmX4, by decide, by decide +kernel⟩
theorem fp_4_6 : FP 4 6 .int := ⟨RX4, TX4, 10, tyX4, rfl, tyX4_ok, nmX4, by decide, by decide +kernel⟩
theorem fp_4_7 : FP 4 7 .int := ⟨RX4, TX4, 10, tyX4, rfl, tyX4_ok, nmX4, by decide, by decide +kernel⟩
theorem fp_4_8 : FP 4 8 .int := ⟨RX4, TX4, 10, tyX4, rfl, tyX4_ok, nmX4, by decide, by decide +kernel⟩
theorem fp_4_9 : FP 4 9 .boolean := ⟨RX4, TX4, 10, tyX4, rfl, tyX4_ok, nmX4, by decide, by decide +kernel⟩
theorem fp_5_2 : FP 5 2 .int := ⟨RX5, TX5, 5, tyX5, rfl, tyX5_ok, nmX5, by decide, by decide +kernel⟩
theorem fp_5_3 : FP 5 3 .int := ⟨RX5, TX5, 5, tyX5, rfl, tyX5_ok, nmX5, by decide, by decide +kernel⟩
theorem fp_5_4 : FP 5 4 .int := ⟨RX5, TX5, 5, tyX5, rfl, tyX5_ok, nmX5, by decide, by decide +kernel⟩
theorem fp_6_1 : FP 6 1 .int := ⟨RX6, TX6, 5, tyX6, rfl, tyX6_ok, nmX6, by decide, by decide +kernel⟩
theorem fp_6_2 : FP 6 2 .int := ⟨RX6, TX6, 5, tyX6, rfl, tyX6_ok, nmX6, by decide, by decide +kernel⟩
theorem fp_6_3 : FP 6 3 .int := ⟨RX6, TX6, 5, tyX6, rfl, tyX6_ok, nmX6, by decide, by decide +kernel⟩
theorem fp_6_4 : FP 6 4 .int := ⟨RX6, TX6, 5, tyX6, rfl, tyX6_ok, nmX6, by decide, by decide +kernel⟩
theorem fp_7_7 : FP 7 7 .int := ⟨RX7, TX7, 12, tyX7, rfl, tyX7_ok, nmX7, by decide, by decide +kernel⟩
theorem fp_7_8 : FP 7 8 .int := ⟨RX7, TX7, 12, tyX7, rfl, tyX7_ok, nmX7, by decide, by decide +kernel⟩
theorem fp_7_9 : FP 7 9 .int := ⟨RX7, TX7, 12, tyX7, rfl, tyX7_ok, nmX7, by decide, by decide +kernel⟩
theorem fp_7_10 : FP 7 10 .int := ⟨RX7, TX7, 12, tyX7, rfl, tyX7_ok, nmX7, by decide, by decide +kernel⟩
theorem fp_7_11 : FP 7 11 .int := ⟨RX7, TX7, 12, tyX7, rfl, tyX7_ok, nmX7, by decide, by decide +kernel⟩
theorem fp_8_3 : FP 8 3 .int := ⟨RX8, TX8, 6, tyX8, rfl, tyX8_ok, nmX8, by decide, by decide +kernel⟩
theorem fp_8_4 : FP 8 4 .int := ⟨RX8, TX8, 6, tyX8, rfl, tyX8_ok, nmX8, by decide, by decide +kernel⟩
theorem fp_8_5 : FP 8 5 .int := ⟨RX8, TX8, 6, tyX8, rfl, tyX8_ok, nmX8, by decide, by decide +kernel⟩
theorem fp_10_0 : FP 10 0 .int := ⟨RX10, TX10, 45, tyX10, rfl, tyX10_ok, nmX10, by decide, by decide +kernel⟩
theorem fp_10_5 : FP 10 5 .int := ⟨RX10, TX10, 45, tyX10, rfl, tyX10_ok, nmX10, by decide, by decide +kernel⟩
theorem fp_10_7 : FP 10 7 .int := ⟨RX10, TX10, 45, tyX10, rfl, tyX10_ok, nmX10, by decide, by decide +kernel⟩
theorem fp_10_9 : FP 10 9 .boolean := ⟨RX10, TX10, 45, tyX10, rfl, tyX10_ok, nmX10, by decide, by decide +kernel⟩
theorem fp_10_10 : FP 10 10 .int := ⟨RX10, TX10, 45, tyX10, rfl, tyX10_ok, nmX10, by decide, by decide +kernel⟩
theorem fp_10_15 : FP 10 15 .int := ⟨RX10, TX10, 45, tyX10, rfl, tyX10_ok, nmX10, by decide, by decide +kernel⟩
theorem fp_10_16 : FP 10 16 .int := ⟨RX10, TX10, 45, tyX10, rfl, tyX10_ok, nmX10, by decide, by decide +kernel⟩
theorem fp_10_17 : FP 10 17 .int := ⟨RX10, TX10, 45, tyX10, rfl, tyX10_ok, nmX10, by decide, by decide +kernel⟩
theorem fp_10_18 : FP 10 18 .int := ⟨RX10, TX10, 45, tyX10, rfl, tyX10_ok, nmX10, by decide, by decide +kernel⟩
theorem fp_10_26 : FP 10 26 .boolean := ⟨RX10, TX10, 45, tyX10, rfl, tyX10_ok, nmX10, by decide, by decide +kernel⟩
theorem fp_10_27 : FP 10 27 .int := ⟨RX10, TX10, 45, tyX10, rfl, tyX10_ok, nmX10, by decide, by decide +kernel⟩
theorem fp_10_28 : FP 10 28 .int := ⟨RX10, TX10, 45, tyX10, rfl, tyX10_ok, nmX10, by decide, by decide +kernel⟩
theorem fp_10_31 : FP 10 31 .int := ⟨RX10, TX10, 45, tyX10, rfl, tyX10_ok, nmX10, by decide, by decide +kernel⟩
theorem fp_10_32 : FP 10 32 .int := ⟨RX10, TX10, 45, tyX10, rfl, tyX10_ok, nmX10, by decide, by decide +kernel⟩
theorem fp_10_34 : FP 10 34 .int := ⟨RX10, TX10, 45, tyX10, rfl, tyX10_ok, nmX10, by decide, by decide +kernel⟩
theorem fp_10_36 : FP 10 36 .int := ⟨RX10, TX10, 45, tyX10, rfl, tyX10_ok, nmX10, by decide, by decide +kernel⟩
theorem fp_10_44 : FP 10 44 .int := ⟨RX10, TX10, 45, tyX10, rfl, tyX10_ok, nmX10, by decide, by decide +kernel⟩
theorem ft_0_0 {c : Nat} (h : isO 0 c = true) : (fsO c)[0]? = some (2, some (RF c 0)) := (by decide +kernel : ∀ c, c < 78 → isO 0 c = true → (fsO c)[0]? = some (2, some (RF c 0))) c (isO_lt h) h
theorem ft_0_1 {c : Nat} (h : isO 0 c = true) : (fsO c)[1]? = some (0, none) := (by decide +kernel : ∀ c, c < 78 → isO 0 c = true → (fsO c)[1]? = some (0, none)) c (isO_lt h) h
theorem ft_0_2 {c : Nat} (h : isO 0 c = true) : (fsO c)[2]? = some (0, none) := (by decide +kernel : ∀ c, c < 78 → isO 0 c = true → (fsO c)[2]? = some (0, none)) c (isO_lt h) h
theorem ft_1_0 {c : Nat} (h : isO 1 c = true) : (fsO c)[0]? = some (2, some (RF c 0)) := (by decide +kernel : ∀ c, c < 78 → isO 1 c = true → (fsO c)[0]? = some (2, some (RF c 0))) c (isO_lt h) h
theorem ft_1_1 {c : Nat} (h : isO 1 c = true) : (fsO c)[1]? = some (2, some (RF c 1)) := (by decide +kernel : ∀ c, c < 78 → isO 1 c = true → (fsO c)[1]? = some (2, some (RF c 1))) c (isO_lt h) h
theorem ft_1_2 {c : Nat} (h : isO 1 c = true) : (fsO c)[2]? = some (1, none) := (by decide +kernel : ∀ c, c < 78 → isO 1 c = true → (fsO c)[2]? = some (1, none)) c (isO_lt h) h
theorem ft_2_0 {c : Nat} (h : isO 2 c = true) : (fsO c)[0]? = some (2, some (RF c 0)) := (by decide +kernel : ∀ c, c < 78 → isO 2 c = true → (fsO c)[0]? = some (2, some (RF c 0))) c (isO_lt h) h
theorem ft_2_1 {c : Nat} (h : isO 2 c = true) : (fsO c)[1]? = some (2, some (RF c 1)) := (by decide +kernel : ∀ c, c < 78 → isO 2 c = true → (fsO c)[1]? = some (2, some (RF c 1))) c (isO_lt h) h
theorem ft_2_2 {c : Nat} (h : isO 2 c = true) : (fsO c)[2]? = some (0, none) := (by decide +kernel : ∀ c, c < 78 → isO 2 c = true → (fsO c)[2]? = some (0, none)) c (isO_lt h) h
theorem ft_2_3 {c : Nat} (h : isO 2 c = true) : (fsO c)[3]? = some (0, none) := (by decide +kernel : ∀ c, c < 78 → isO 2 c = true → (fsO c)[3]? = some (0, none)) c (isO_lt h) h
theorem ft_3_0 {c : Nat} (h : isO 3 c = true) : (fsO c)[0]? = some (2, some (RF c 0)) := (by decide +kernel : ∀ c, c < 78 → isO 3 c = true → (fsO c)[0]? = some (2, some (RF c 0))) c (isO_lt h) h
theorem ft_3_1 {c : Nat} (h : isO 3 c = true) : (fsO c)[1]? = some (2, some (RF c 1)) := (by decide +kernel : ∀ c, c < 78 → isO 3 c = true → (fsO c)[1]? = some (2, some (RF c 1))) c (isO_lt h) h
theorem ft_3_2 {c : Nat} (h : isO 3 c = true) : (fsO c)[2]? = some (3, none) := (by decide +kernel : ∀ c, c < 78 → isO 3 c = true → (fsO c)[2]? = some (3, none)) c (isO_lt h) h
theorem ft_4_0 {c : Nat} (h : isO 4 c = true) : (fsO c)[0]? = some (2, some (RF c 0)) := (by decide +kernel : ∀ c, c < 78 → isO 4 c = true → (fsO c)[0]? = some (2, some (RF c 0))) c (isO_lt h) h
theorem ft_4_1 {c : Nat} (h : isO 4 c = true) : (fsO c)[1]? = some (2, some (RF c 1)) := (by decide +kernel : ∀ c, c < 78 → isO 4 c = true → (fsO c)[1]? = some (2, some (RF c 1))) c (isO_lt h) h
theorem ft_4_2 {c : Nat} (h : isO 4 c = true) : (fsO c)[2]? = some (2, some (RF c 2)) := (by decide +kernel : ∀ c, c < 78 → isO 4 c = true → (fsO c)[2]? = some (2, some (RF c 2))) c (isO_lt h) h
theorem ft_4_3 {c : Nat} (h : isO 4 c = true) : (fsO c)[3]? = some (4, none) := (by decide +kernel : ∀ c, c < 78 → isO 4 c = true → (fsO c)[3]? = some (4, none)) c (isO_lt h) h
theorem ft_4_4 {c : Nat} (h : isO 4 c = true) : (fsO c)[4]? = some (4, none) := (by decide +kernel : ∀ c, c < 78 → isO 4 c = true → (fsO c)[4]? = some (4, none)) c (isO_lt h) h
theorem ft_4_5 {c : Nat} (h : isO 4 c = true) : (fsO c)[5]? = some (0, none) := (by decide +kernel : ∀ c, c < 78 → isO 4 c = true → (fsO c)[5]? = some (0, none)) c (isO_lt h) h
theorem ft_4_6 {c : Nat} (h : isO 4 c = true) : (fsO c)[6]? = some (0, none) := (by decide +kernel : ∀ c, c < 78 → isO 4 c = true → (fsO c)[6]? = some (0, none)) c (isO_lt h) h
theorem ft_4_7 {c : Nat} (h : isO 4 c = true) : (fsO c)[7]? = some (0, none) := (by decide +kernel : ∀ c, c < 78 → isO 4 c = true → (fsO c)[7]? = some (0, none)) c (isO_lt h) h
theorem ft_4_8 {c : Nat} (h : isO 4 c = true) : (fsO c)[8]? = some (0, none) := (by decide +kernel : ∀ c, c < 78 → isO 4 c = true → (fsO c)[8]? = some (0, none)) c (isO_lt h) h
theorem ft_4_9 {c : Nat} (h : isO 4 c = true) : (fsO c)[9]? = some (3, none) := (by decide +kernel : ∀ c, c < 78 → isO 4 c = true → (fsO c)[9]? = some (3, none)) c (isO_lt h) h
theorem ft_5_0 {c : Nat} (h : isO 5 c = true) : (fsO c)[0]? = some (2, some (RF c 0)) := (by decide +kernel : ∀ c, c < 78 → isO 5 c = true → (fsO c)[0]? = some (2, some (RF c 0))) c (isO_lt h) h
theorem ft_5_1 {c : Nat} (h : isO 5 c = true) : (fsO c)[1]? = some (2, some (RF c 1)) := (by decide +kernel : ∀ c, c < 78 → isO 5 c = true → (fsO c)[1]? = some (2, some (RF c 1))) c (isO_lt h) h
theorem ft_5_2 {c : Nat} (h : isO 5 c = true) : (fsO c)[2]? = some (0, none) := (by decide +kernel : ∀ c, c < 78 → isO 5 c = true → (fsO c)[2]? = some (0, none)) c (isO_lt h) h
theorem ft_5_3 {c : Nat} (h : isO 5 c = true) : (fsO c)[3]? = some (0, none) := (by decide +kernel : ∀ c, c < 78 → isO 5 c = true → (fsO c)[3]? = some (0, none)) c (isO_lt h) h
theorem ft_5_4 {c : Nat} (h : isO 5 c = true) : (fsO c)[4]? = some (0, none) := (by decide +kernel : ∀ c, c < 78 → isO 5 c = true → (fsO c)[4]? = some (0, none)) c (isO_lt h) h
theorem ft_6_0 {c : Nat} (h : isO 6 c = true) : (fsO c)[0]? = some (2, some (RF c 0)) := (by decide +kernel : ∀ c, c < 78 → isO 6 c = true → (fsO c)[0]? = some (2, some (RF c 0))) c (isO_lt h) h
theorem ft_6_1 {c : Nat} (h : isO 6 c = true) : (fsO c)[1]? = some (0, none) := (by decide +kernel : ∀ c, c < 78 → isO 6 c = true → (fsO c)[1]? = some (0, none)) c (isO_lt h) h
theorem ft_6_2 {c : Nat} (h : isO 6 c = true) : (fsO c)[2]? = some (0, none) := (by decide +kernel : ∀ c, c < 78 → isO 6 c = true → (fsO c)[2]? = some (0, none)) c (isO_lt h) h
theorem ft_6_3 {c : Nat} (h : isO 6 c = true) : (fsO c)[3]? = some (0, none) := (by decide +kernel : ∀ c, c < 78 → isO 6 c = true → (fsO c)[3]? = some (0, none)) c (isO_lt h) h
theorem ft_6_4 {c : Nat} (h : isO 6 c = true) : (fsO c)[4]? = some (0, none) := (by decide +kernel : ∀ c, c < 78 → isO 6 c = true → (fsO c)[4]? = some (0, none)) c (isO_lt h) h
theorem ft_7_0 {c : Nat} (h : isO 7 c = true) : (fsO c)[0]? = some (2, some (RF c 0)) := (by decide +kernel : ∀ c, c < 78 → isO 7 c = true → (fsO c)[0]? = some (2, some (RF c 0))) c (isO_lt h) h
theorem ft_7_1 {c : Nat} (h : isO 7 c = true) : (fsO c)[1]? = some (2, some (RF c 1)) := (by decide +kernel : ∀ c, c < 78 → isO 7 c = true → (fsO c)[1]? = some (2, some (RF c 1))) c (isO_lt h) h
theorem ft_7_2 {c : Nat} (h : isO 7 c = true) : (fsO c)[2]? = some (2, some (RF c 2)) := (by decide +kernel : ∀ c, c < 78 → isO 7 c = true → (fsO c)[2]? = some (2, some (RF c 2))) c (isO_lt h) h
theorem ft_7_3 {c : Nat} (h : isO 7 c = true) : (fsO c)[3]? = some (2, some (RF c 3)) := (by decide +kernel : ∀ c, c < 78 → isO 7 c = true → (fsO c)[3]? = some (2, some (RF c 3))) c (isO_lt h) h
theorem ft_7_4 {c : Nat} (h : isO 7 c = true) : (fsO c)[4]? = some (2, some (RF c 4)) := (by decide +kernel : ∀ c, c < 78 → isO 7 c = true → (fsO c)[4]? = some (2, some (RF c 4))) c (isO_lt h) h
theorem ft_7_5 {c : Nat} (h : isO 7 c = true) : (fsO c)[5]? = some (2, some (RF c 5)) := (by decide +kernel : ∀ c, c < 78 → isO 7 c = true → (fsO c)[5]? = some (2, some (RF c 5))) c (isO_lt h) h
theorem ft_7_6 {c : Nat} (h : isO 7 c = true) : (fsO c)[6]? = some (2, some (RF c 6)) := (by decide +kernel : ∀ c, c < 78 → isO 7 c = true → (fsO c)[6]? = some (2, some (RF c 6))) c (isO_lt h) h
theorem ft_7_7 {c : Nat} (h : isO 7 c = true) : (fsO c)[7]? = some (0, none) := (by decide +kernel : ∀ c, c < 78 → isO 7 c = true → (fsO c)[7]? = some (0, none)) c (isO_lt h) h
theorem ft_7_8 {c : Nat} (h : isO 7 c = true) : (fsO c)[8]? = some (0, none) := (by decide +kernel : ∀ c, c < 78 → isO 7 c = true → (fsO c)[8]? = some (0, none)) c (isO_lt h) h
theorem ft_7_9 {c : Nat} (h : isO 7 c = true) : (fsO c)[9]? = some (0, none) := (by decide +kernel : ∀ c, c < 78 → isO 7 c = true → (fsO c)[9]? = some (0, none)) c (isO_lt h) h
theorem ft_7_10 {c : Nat} (h : isO 7 c = true) : (fsO c)[10]? = some (0, none) := (by decide +kernel : ∀ c, c < 78 → isO 7 c = true → (fsO c)[10]? = some (0, none)) c (isO_lt h) h
theorem ft_7_11 {c : Nat} (h : isO 7 c = true) : (fsO c)[11]? = some (0, none) := (by decide +kernel : ∀ c, c < 78 → isO 7 c = true → (fsO c)[11]? = some (0, none)) c (isO_lt h) h
theorem ft_8_0 {c : Nat} (h : isO 8 c = true) : (fsO c)[0]? = some (2, some (RF c 0)) := (by decide +kernel : ∀ c, c < 78 → isO 8 c = true → (fsO c)[0]? = some (2, some (RF c 0))) c (isO_lt h) h
theorem ft_8_1 {c : Nat} (h : isO 8 c = true) : (fsO c)[1]? = some (2, some (RF c 1)) := (by decide +kernel : ∀ c, c < 78 → isO 8 c = true → (fsO c)[1]? = some (2, some (RF c 1))) c (isO_lt h) h
theorem ft_8_2 {c : Nat} (h : isO 8 c = true) : (fsO c)[2]? = some (2, some (RF c 2)) := (by decide +kernel : ∀ c, c < 78 → isO 8 c = true → (fsO c)[2]? = some (2, some (RF c 2))) c (isO_lt h) h
theorem ft_8_3 {c : Nat} (h : isO 8 c = true) : (fsO c)[3]? = some (0, none) := (by decide +kernel : ∀ c, c < 78 → isO 8 c = true → (fsO c)[3]? = some (0, none)) c (isO_lt h) h
theorem ft_8_4 {c : Nat} (h : isO 8 c = true) : (fsO c)[4]? = some (0, none) := (by decide +kernel : ∀ c, c < 78 → isO 8 c = true → (fsO c)[4]? = some (0, none)) c (isO_lt h) h
theorem ft_8_5 {c : Nat} (h : isO 8 c = true) : (fsO c)[5]? = some (0, none) := (by decide +kernel : ∀ c, c < 78 → isO 8 c = true → (fsO c)[5]? = some (0, none)) c (isO_lt h) h
theorem ft_9_0 {c : Nat} (h : isO 9 c = true) : (fsO c)[0]? = some (2, some (RF c 0)) := (by decide +kernel : ∀ c, c < 78 → isO 9 c = true → (fsO c)[0]? = some (2, some (RF c 0))) c (isO_lt h) h
theorem ft_9_1 {c : Nat} (h : isO 9 c = true) : (fsO c)[1]? = some (2, some (RF c 1)) := (by decide +kernel : ∀ c, c < 78 → isO 9 c = true → (fsO c)[1]? = some (2, some (RF c 1))) c (isO_lt h) h
theorem ft_9_2 {c : Nat} (h : isO 9 c = true) : (fsO c)[2]? = some (2, some (RF c 2)) := (by decide +kernel : ∀ c, c < 78 → isO 9 c = true → (fsO c)[2]? = some (2, some (RF c 2))) c (isO_lt h) h
theorem ft_9_3 {c : Nat} (h : isO 9 c = true) : (fsO c)[3]? = some (2, some (RF c 3)) := (by decide +kernel : ∀ c, c < 78 → isO 9 c = true → (fsO c)[3]? = some (2, some (RF c 3))) c (isO_lt h) h
theorem ft_9_4 {c : Nat} (h : isO 9 c = true) : (fsO c)[4]? = some (2, some (RF c 4)) := (by decide +kernel : ∀ c, c < 78 → isO 9 c = true → (fsO c)[4]? = some (2, some (RF c 4))) c (isO_lt h) h
theorem ft_9_5 {c : Nat} (h : isO 9 c = true) : (fsO c)[5]? = some (2, some (RF c 5)) := (by decide +kernel : ∀ c, c < 78 → isO 9 c = true → (fsO c)[5]? = some (2, some (RF c 5))) c (isO_lt h) h
theorem ft_9_6 {c : Nat} (h : isO 9 c = true) : (fsO c)[6]? = some (2, some (RF c 6)) := (by decide +kernel : ∀ c, c < 78 → isO 9 c = true → (fsO c)[6]? = some (2, some (RF c 6))) c (isO_lt h) h
theorem ft_9_7 {c : Nat} (h : isO 9 c = true) : (fsO c)[7]? = some (2, some (RF c 7)) := (by decide +kernel : ∀ c, c < 78 → isO 9 c = true → (fsO c)[7]? = some (2, some (RF c 7))) c (isO_lt h) h
theorem ft_9_8 {c : Nat} (h : isO 9 c = true) : (fsO c)[8]? = some (2, some (RF c 8)) := (by decide +kernel : ∀ c, c < 78 → isO 9 c = true → (fsO c)[8]? = some (2, some (RF c 8))) c (isO_lt h) h
theorem ft_9_9 {c : Nat} (h : isO 9 c = true) : (fsO c)[9]? = some (2, some (RF c 9)) := (by decide +kernel : ∀ c, c < 78 → isO 9 c = true → (fsO c)[9]? = some (2, some (RF c 9))) c (isO_lt h) h
theorem ft_10_0 {c : Nat} (h : isO 10 c = true) : (fsO c)[0]? = some (0, none) := (by decide +kernel : ∀ c, c < 78 → isO 10 c = true → (fsO c)[0]? = some (0, none)) c (isO_lt h) h
theorem ft_10_1 {c : Nat} (h : isO 10 c = true) : (fsO c)[1]? = some (2, some (RF c 1)) := (by decide +kernel : ∀ c, c < 78 → isO 10 c = true → (fsO c)[1]? = some (2, some (RF c 1))) c (isO_lt h) h
theorem ft_10_2 {c : Nat} (h : isO 10 c = true) : (fsO c)[2]? = some (2, some (RF c 2)) := (by decide +kernel : ∀ c, c < 78 → isO 10 c = true → (fsO c)[2]? = some (2, some (RF c 2))) c (isO_lt h) h
theorem ft_10_3 {c : Nat} (h : isO 10 c = true) : (fsO c)[3]? = some (2, some (RF c 3)) := (by decide +kernel : ∀ c, c < 78 → isO 10 c = true → (fsO c)[3]? = some (2, some (RF c 3))) c (isO_lt h) h
theorem ft_10_4 {c : Nat} (h : isO 10 c = true) : (fsO c)[4]? = some (2, some (RF c 4)) := (by decide +kernel : ∀ c, c < 78 → isO 10 c = true → (fsO c)[4]? = some (2, some (RF c 4))) c (isO_lt h) h
theorem ft_10_5 {c : Nat} (h : isO 10 c = true) : (fsO c)[5]? = some (0, none) := (by decide +kernel : ∀ c, c < 78 → isO 10 c = true → (fsO c)[5]? = some (0, none)) c (isO_lt h) h
theorem ft_10_6 {c : Nat} (h : isO 10 c = true) : (fsO c)[6]? = some (2, some (RF c 6)) := (by decide +kernel : ∀ c, c < 78 → isO 10 c = true → (fsO c)[6]? = some (2, some (RF c 6))) c (isO_lt h) h
theorem ft_10_7 {c : Nat} (h : isO 10 c = true) : (fsO c)[7]? = some (0, none) := (by decide +kernel : ∀ c, c < 78 → isO 10 c = true → (fsO c)[7]? = some (0, none)) c (isO_lt h) h
theorem ft_10_8 {c : Nat} (h : isO 10 c = true) : (fsO c)[8]? = some (2, some (RF c 8)) := (by decide +kernel : ∀ c, c < 78 → isO 10 c = true → (fsO c)[8]? = some (2, some (RF c 8))) c (isO_lt h) h
theorem ft_10_9 {c : Nat} (h : isO 10 c = true) : (fsO c)[9]? = some (3, none) := (by decide +kernel : ∀ c, c < 78 → isO 10 c = true → (fsO c)[9]? = some (3, none)) c (isO_lt h) h
theorem ft_10_10 {c : Nat} (h : isO 10 c = true) : (fsO c)[10]? = some (0, none) := (by decide +kernel : ∀ c, c < 78 → isO 10 c = true → (fsO c)[10]? = some (0, none)) c (isO_lt h) h
theorem ft_10_11 {c : Nat} (h : isO 10 c = true) : (fsO c)[11]? = some (2, some (RF c 11)) := (by decide +kernel : ∀ c, c < 78 → isO 10 c = true → (fsO c)[11]? = some (2, some (RF c 11))) c (isO_lt h) h
theorem ft_10_12 {c : Nat} (h : isO 10 c = true) : (fsO c)[12]? = some (2, some (RF c 12)) := (by decide +kernel : ∀ c, c < 78 → isO 10 c = true → (fsO c)[12]? = some (2, some (RF c 12))) c (isO_lt h) h
theorem ft_10_13 {c : Nat} (h : isO 10 c = true) : (fsO c)[13]? = some (2, some (RF c 13)) := (by decide +kernel : ∀ c, c < 78 → isO 10 c = true → (fsO c)[13]? = some (2, some (RF c 13))) c (isO_lt h) h
theorem ft_10_14 {c : Nat} (h : isO 10 c = true) : (fsO c)[14]? = some (2, some (RF c 14)) := (by decide +kernel : ∀ c, c < 78 → isO 10 c = true → (fsO c)[14]? = some (2, some (RF c 14))) c (isO_lt h) h
theorem ft_10_15 {c : Nat} (h : isO 10 c = true) : (fsO c)[15]? = some (0, none) := (by decide +kernel : ∀ c, c < 78 → isO 10 c = true → (fsO c)[15]? = some (0, none)) c (isO_lt h) h
theorem ft_10_16 {c : Nat} (h : isO 10 c = true) : (fsO c)[16]? = some (0, none) := (by decide +kernel : ∀ c, c < 78 → isO 10 c = true → (fsO c)[16]? = some (0, none)) c (isO_lt h) h
theorem ft_10_17 {c : Nat} (h : isO 10 c = true) : (fsO c)[17]? = some (0, none) := (by decide +kernel : ∀ c, c < 78 → isO 10 c = true → (fsO c)[17]? = some (0, none)) c (isO_lt h) h
theorem ft_10_18 {c : Nat} (h : isO 10 c = true) : (fsO c)[18]? = some (0, none) := (by decide +kernel : ∀ c, c < 78 → isO 10 c = true → (fsO c)[18]? = some (0, none)) c (isO_lt h) h
theorem ft_10_19 {c : Nat} (h : isO 10 c = true) : (fsO c)[19]? = some (2, some (RF c 19)) := (by decide +kernel : ∀ c, c < 78 → isO 10 c = true → (fsO c)[19]? = some (2, some (RF c 19))) c (isO_lt h) h
theorem ft_10_20 {c : Nat} (h : isO 10 c = true) : (fsO c)[20]? = some (2, some (RF c 20)) := (by decide +kernel : ∀ c, c < 78 → isO 10 c = true → (fsO c)[20]? = some (2, some (RF c 20))) c (isO_lt h) h
theorem ft_10_21 {c : Nat} (h : isO 10 c = true) : (fsO c)[21]? = some (2, some (RF c 21)) := (by decide +kernel : ∀ c, c < 78 → isO 10 c = true → (fsO c)[21]? = some (2, some (RF c 21))) c (isO_lt h) h
theorem ft_10_22 {c : Nat} (h : isO 10 c = true) : (fsO c)[22]? = some (2, some (RF c 22)) := (by decide +kernel : ∀ c, c < 78 → isO 10 c = true → (fsO c)[22]? = some (2, some (RF c 22))) c (isO_lt h) h
theorem ft_10_23 {c : Nat} (h : isO 10 c = true) : (fsO c)[23]? = some (2, some (RF c 23)) := (by decide +kernel : ∀ c, c < 78 → isO 10 c = true → (fsO c)[23]? = some (2, some (RF c 23))) c (isO_lt h) h
theorem ft_10_24 {c : Nat} (h : isO 10 c = true) : (fsO c)[24]? = some (2, some (RF c 24)) := (by decide +kernel : ∀ c, c < 78 → isO 10 c = true → (fsO c)[24]? = some (2, some (RF c 24))) c (isO_lt h) h
theorem ft_10_25 {c : Nat} (h : isO 10 c = true) : (fsO c)[25]? = some (2, some (RF c 25)) := (by decide +kernel : ∀ c, c < 78 → isO 10 c = true → (fsO c)[25]? = some (2, some (RF c 25))) c (isO_lt h) h
theorem ft_10_26 {c : Nat} (h : isO 10 c = true) : (fsO c)[26]? = some (3, none) := (by decide +kernel : ∀ c, c < 78 → isO 10 c = true → (fsO c)[26]? = some (3, none)) c (isO_lt h) h
theorem ft_10_27 {c : Nat} (h : isO 10 c = true) : (fsO c)[27]? = some (0, none) := (by decide +kernel : ∀ c, c < 78 → isO 10 c = true → (fsO c)[27]? = some (0, none)) c (isO_lt h) h
theorem ft_10_28 {c : Nat} (h : isO 10 c = true) : (fsO c)[28]? = some (0, none) := (by decide +kernel : ∀ c, c < 78 → isO 10 c = true → (fsO c)[28]? = some (0, none)) c (isO_lt h) h
theorem ft_10_29 {c : Nat} (h : isO 10 c = true) : (fsO c)[29]? = some (2, some (RF c 29)) := (by decide +kernel : ∀ c, c < 78 → isO 10 c = true → (fsO c)[29]? = some (2, some (RF c 29))) c (isO_lt h) h
theorem ft_10_30 {c : Nat} (h : isO 10 c = true) : (fsO c)[30]? = some (2, some (RF c 30)) := (by decide +kernel : ∀ c, c < 78 → isO 10 c = true → (fsO c)[30]? = some (2, some (RF c 30))) c (isO_lt h) h
theorem ft_10_31 {c : Nat} (h : isO 10 c = true) : (fsO c)[31]? = some (0, none) := (by decide +kernel : ∀ c, c < 78 → isO 10 c = true → (fsO c)[31]? = some (0, none)) c (isO_lt h) h
theorem ft_10_32 {c : Nat} (h : isO 10 c = true) : (fsO c)[32]? = some (0, none) := (by decide +kernel : ∀ c, c < 78 → isO 10 c = true → (fsO c)[32]? = some (0, none)) c (isO_lt h) h
theorem ft_10_33 {c : Nat} (h : isO 10 c = true) : (fsO c)[33]? = some (2, some (RF c 33)) := (by decide +kernel : ∀ c, c < 78 → isO 10 c = true → (fsO c)[33]? = some (2, some (RF c 33))) c (isO_lt h) h
theorem ft_10_34 {c : Nat} (h : isO 10 c = true) : (fsO c)[34]? = some (0, none) := (by decide +kernel : ∀ c, c < 78 → isO 10 c = true → (fsO c)[34]? = some (0, none)) c (isO_lt h) h
theorem ft_10_35 {c : Nat} (h : isO 10 c = true) : (fsO c)[35]? = some (2, some (RF c 35)) := (by decide +kernel : ∀ c, c < 78 → isO 10 c = true → (fsO c)[35]? = some (2, some (RF c 35))) c (isO_lt h) h
theorem ft_10_36 {c : Nat} (h : isO 10 c = true) : (fsO c)[36]? = some (0, none) := (by decide +kernel : ∀ c, c < 78 → isO 10 c = true → (fsO c)[36]? = some (0, none)) c (isO_lt h) h
theorem ft_10_37 {c : Nat} (h : isO 10 c = true) : (fsO c)[37]? = some (2, some (RF c 37)) := (by decide +kernel : ∀ c, c < 78 → isO 10 c = true → (fsO c)[37]? = some (2, some (RF c 37))) c (isO_lt h) h
theorem ft_10_38 {c : Nat} (h : isO 10 c = true) : (fsO c)[38]? = some (2, some (RF c 38)) := (by decide +kernel : ∀ c, c < 78 → isO 10 c = true → (fsO c)[38]? = some (2, some (RF c 38))) c (isO_lt h) h
theorem ft_10_39 {c : Nat} (h : isO 10 c = true) : (fsO c)[39]? = some (2, some (RF c 39)) := (by decide +kernel : ∀ c, c < 78 → isO 10 c = true → (fsO c)[39]? = some (2, some (RF c 39))) c (isO_lt h) h
theorem ft_10_40 {c : Nat} (h : isO 10 c = true) : (fsO c)[40]? = some (2, some (RF c 40)) := (by decide +kernel : ∀ c, c < 78 → isO 10 c = true → (fsO c)[40]? = some (2, some (RF c 40))) c (isO_lt h) h
theorem ft_10_41 {c : Nat} (h : isO 10 c = true) : (fsO c)[41]? = some (2, some (RF c 41)) := (by decide +kernel : ∀ c, c < 78 → isO 10 c = true → (fsO c)[41]? = some (2, some (RF c 41))) c (isO_lt h) h
theorem ft_10_42 {c : Nat} (h : isO 10 c = true) : (fsO c)[42]? = some (2, some (RF c 42)) := (by decide +kernel : ∀ c, c < 78 → isO 10 c = true → (fsO c)[42]? = some (2, some (RF c 42))) c (isO_lt h) h
theorem ft_10_43 {c : Nat} (h : isO 10 c = true) : (fsO c)[43]? = some (2, some (RF c 43)) := (by decide +kernel : ∀ c, c < 78 → isO 10 c = true → (fsO c)[43]? = some (2, some (RF c 43))) c (isO_lt h) h
theorem ft_10_44 {c : Nat} (h : isO 10 c = true) : (fsO c)[44]? = some (0, none) := (by decide +kernel : ∀ c, c < 78 → isO 10 c = true → (fsO c)[44]? = some (0, none)) c (isO_lt h) h
theorem rf_0_0 {c : Nat} (h : isO 0 c = true) : isA 1 (RF c 0) = true := (by decide +kernel : ∀ c, c < 78 → isO 0 c = true → isA 1 (RF c 0) = true) c (isO_lt h) h
theorem rf_1_0 {c : Nat} (h : isO 1 c = true) : isA 2 (RF c 0) = true := (by decide +kernel : ∀ c, c < 78 → isO 1 c = true → isA 2 (RF c 0) = true) c (isO_lt h) h
theorem rf_1_1 {c : Nat} (h : isO 1 c = true) : isA 2 (RF c 1) = true := (by decide +kernel : ∀ c, c < 78 → isO 1 c = true → isA 2 (RF c 1) = true) c (isO_lt h) h
theorem rf_2_0 {c : Nat} (h : isO 2 c = true) : isA 1 (RF c 0) = true := (by decide +kernel : ∀ c, c < 78 → isO 2 c = true → isA 1 (RF c 0) = true) c (isO_lt h) h
theorem rf_2_1 {c : Nat} (h : isO 2 c = true) : isA 1 (RF c 1) = true := (by decide +kernel : ∀ c, c < 78 → isO 2 c = true → isA 1 (RF c 1) = true) c (isO_lt h) h
theorem rf_3_0 {c : Nat} (h : isO 3 c = true) : isO 2 (RF c 0) = true := (by decide +kernel : ∀ c, c < 78 → isO 3 c = true → isO 2 (RF c 0) = true) c (isO_lt h) h
theorem rf_3_1 {c : Nat} (h : isO 3 c = true) : isA 1 (RF c 1) = true := (by decide +kernel : ∀ c, c < 78 → isO 3 c = true → isA 1 (RF c 1) = true) c (isO_lt h) h
theorem rf_4_0 {c : Nat} (h : isO 4 c = true) : isA 1 (RF c 0) = true := (by decide +kernel : ∀ c, c < 78 → isO 4 c = true → isA 1 (RF c 0) = true) c (isO_lt h) h
theorem rf_4_1 {c : Nat} (h : isO 4 c = true) : isA 1 (RF c 1) = true := (by decide +kernel : ∀ c, c < 78 → isO 4 c = true → isA 1 (RF c 1) = true) c (isO_lt h) h
theorem rf_4_2 {c : Nat} (h : isO 4 c = true) : isA 1 (RF c 2) = true := (by decide +kernel : ∀ c, c < 78 → isO 4 c = true → isA 1 (RF c 2) = true) c (isO_lt h) h
theorem rf_5_0 {c : Nat} (h : isO 5 c = true) : isA 1 (RF c 0) = true := (by decide +kernel : ∀ c, c < 78 → isO 5 c = true → isA 1 (RF c 0) = true) c (isO_lt h) h
theorem rf_5_1 {c : Nat} (h : isO 5 c = true) : isA 1 (RF c 1) = true := (by decide +kernel : ∀ c, c < 78 → isO 5 c = true → isA 1 (RF c 1) = true) c (isO_lt h) h
theorem rf_6_0 {c : Nat} (h : isO 6 c = true) : isA 2 (RF c 0) = true := (by decide +kernel : ∀ c, c < 78 → isO 6 c = true → isA 2 (RF c 0) = true) c (isO_lt h) h
theorem rf_7_0 {c : Nat} (h : isO 7 c = true) : isO 2 (RF c 0) = true := (by decide +kernel : ∀ c, c < 78 → isO 7 c = true → isO 2 (RF c 0) = true) c (isO_lt h) h
theorem rf_7_1 {c : Nat} (h : isO 7 c = true) : isO 4 (RF c 1) = true := (by decide +kernel : ∀ c, c < 78 → isO 7 c = true → isO 4 (RF c 1) = true) c (isO_lt h) h
theorem rf_7_2 {c : Nat} (h : isO 7 c = true) : isA 1 (RF c 2) = true := (by decide +kernel : ∀ c, c < 78 → isO 7 c = true → isA 1 (RF c 2) = true) c (isO_lt h) h
theorem rf_7_3 {c : Nat} (h : isO 7 c = true) : isA 1 (RF c 3) = true := (by decide +kernel : ∀ c, c < 78 → isO 7 c = true → isA 1 (RF c 3) = true) c (isO_lt h) h
theorem rf_7_4 {c : Nat} (h : isO 7 c = true) : isA 1 (RF c 4) = true := (by decide +kernel : ∀ c, c < 78 → isO 7 c = true → isA 1 (RF c 4) = true) c (isO_lt h) h
theorem rf_7_5 {c : Nat} (h : isO 7 c = true) : isA 1 (RF c 5) = true := (by decide +kernel : ∀ c, c < 78 → isO 7 c = true → isA 1 (RF c 5) = true) c (isO_lt h) h
theorem rf_7_6 {c : Nat} (h : isO 7 c = true) : isA 1 (RF c 6) = true := (by decide +kernel : ∀ c, c < 78 → isO 7 c = true → isA 1 (RF c 6) = true) c (isO_lt h) h
theorem rf_8_0 {c : Nat} (h : isO 8 c = true) : isO 7 (RF c 0) = true := (by decide +kernel : ∀ c, c < 78 → isO 8 c = true → isO 7 (RF c 0) = true) c (isO_lt h) h
theorem rf_8_1 {c : Nat} (h : isO 8 c = true) : isA 1 (RF c 1) = true := (by decide +kernel : ∀ c, c < 78 → isO 8 c = true → isA 1 (RF c 1) = true) c (isO_lt h) h
theorem rf_8_2 {c : Nat} (h : isO 8 c = true) : isA 1 (RF c 2) = true := (by decide +kernel : ∀ c, c < 78 → isO 8 c = true → isA 1 (RF c 2) = true) c (isO_lt h) h
theorem rf_9_0 {c : Nat} (h : isO 9 c = true) : isO 2 (RF c 0) = true := (by decide +kernel : ∀ c, c < 78 → isO 9 c = true → isO 2 (RF c 0) = true) c (isO_lt h) h
theorem rf_9_1 {c : Nat} (h : isO 9 c = true) : isO 4 (RF c 1) = true := (by decide +kernel : ∀ c, c < 78 → isO 9 c = true → isO 4 (RF c 1) = true) c (isO_lt h) h
theorem rf_9_2 {c : Nat} (h : isO 9 c = true) : isO 7 (RF c 2) = true := (by decide +kernel : ∀ c, c < 78 → isO 9 c = true → isO 7 (RF c 2) = true) c (isO_lt h) h
theorem rf_9_3 {c : Nat} (h : isO 9 c = true) : isO 8 (RF c 3) = true := (by decide +kernel : ∀ c, c < 78 → isO 9 c = true → isO 8 (RF c 3) = true) c (isO_lt h) h
theorem rf_9_4 {c : Nat} (h : isO 9 c = true) : isO 1 (RF c 4) = true := (by decide +kernel : ∀ c, c < 78 → isO 9 c = true → isO 1 (RF c 4) = true) c (isO_lt h) h
theorem rf_9_5 {c : Nat} (h : isO 9 c = true) : isO 0 (RF c 5) = true := (by decide +kernel : ∀ c, c < 78 → isO 9 c = true → isO 0 (RF c 5) = true) c (isO_lt h) h
theorem rf_9_6 {c : Nat} (h : isO 9 c = true) : isO 3 (RF c 6) = true := (by decide +kernel : ∀ c, c < 78 → isO 9 c = true → isO 3 (RF c 6) = true) c (isO_lt h) h
theorem rf_9_7 {c : Nat} (h : isO 9 c = true) : isO 5 (RF c 7) = true := (by decide +kernel : ∀ c, c < 78 → isO 9 c = true → isO 5 (RF c 7) = true) c (isO_lt h) h
theorem rf_9_8 {c : Nat} (h : isO 9 c = true) : isA 3 (RF c 8) = true := (by decide +kernel : ∀ c, c < 78 → isO 9 c = true → isA 3 (RF c 8) = true) c (isO_lt h) h
theorem rf_9_9 {c : Nat} (h : isO 9 c = true) : isA 1 (RF c 9) = true := (by decide +kernel : ∀ c, c < 78 → isO 9 c = true → isA 1 (RF c 9) = true) c (isO_lt h) h
theorem rf_10_1 {c : Nat} (h : isO 10 c = true) : isA 1 (RF c 1) = true := (by decide +kernel : ∀ c, c < 78 → isO 10 c = true → isA 1 (RF c 1) = true) c (isO_lt h) h
theorem rf_10_2 {c : Nat} (h : isO 10 c = true) : isA 1 (RF c 2) = true := (by decide +kernel : ∀ c, c < 78 → isO 10 c = true → isA 1 (RF c 2) = true) c (isO_lt h) h
theorem rf_10_3 {c : Nat} (h : isO 10 c = true) : isA 1 (RF c 3) = true := (by decide +kernel : ∀ c, c < 78 → isO 10 c = true → isA 1 (RF c 3) = true) c (isO_lt h) h
theorem rf_10_4 {c : Nat} (h : isO 10 c = true) : isA 1 (RF c 4) = true := (by decide +kernel : ∀ c, c < 78 → isO 10 c = true → isA 1 (RF c 4) = true) c (isO_lt h) h
theorem rf_10_6 {c : Nat} (h : isO 10 c = true) : isA 1 (RF c 6) = true := (by decide +kernel : ∀ c, c < 78 → isO 10 c = true → isA 1 (RF c 6) = true) c (isO_lt h) h
theorem rf_10_8 {c : Nat} (h : isO 10 c = true) : isA 1 (RF c 8) = true := (by decide +kernel : ∀ c, c < 78 → isO 10 c = true → isA 1 (RF c 8) = true) c (isO_lt h) h
theorem rf_10_11 {c : Nat} (h : isO 10 c = true) : isA 1 (RF c 11) = true := (by decide +kernel : ∀ c, c < 78 → isO 10 c = true → isA 1 (RF c 11) = true) c (isO_lt h) h
theorem rf_10_12 {c : Nat} (h : isO 10 c = true) : isA 1 (RF c 12) = true := (by decide +kernel : ∀ c, c < 78 → isO 10 c = true → isA 1 (RF c 12) = true) c (isO_lt h) h
theorem rf_10_13 {c : Nat} (h : isO 10 c = true) : isA 1 (RF c 13) = true := (by decide +kernel : ∀ c, c < 78 → isO 10 c = true → isA 1 (RF c 13) = true) c (isO_lt h) h
theorem rf_10_14 {c : Nat} (h : isO 10 c = true) : isA 1 (RF c 14) = true := (by decide +kernel : ∀ c, c < 78 → isO 10 c = true → isA 1 (RF c 14) = true) c (isO_lt h) h
theorem rf_10_19 {c : Nat} (h : isO 10 c = true) : isA 1 (RF c 19) = true := (by decide +kernel : ∀ c, c < 78 → isO 10 c = true → isA 1 (RF c 19) = true) c (isO_lt h) h
theorem rf_10_20 {c : Nat} (h : isO 10 c = true) : isA 1 (RF c 20) = true := (by decide +kernel : ∀ c, c < 78 → isO 10 c = true → isA 1 (RF c 20) = true) c (isO_lt h) h
theorem rf_10_21 {c : Nat} (h : isO 10 c = true) : isA 1 (RF c 21) = true := (by decide +kernel : ∀ c, c < 78 → isO 10 c = true → isA 1 (RF c 21) = true) c (isO_lt h) h
theorem rf_10_22 {c : Nat} (h : isO 10 c = true) : isA 1 (RF c 22) = true := (by decide +kernel : ∀ c, c < 78 → isO 10 c = true → isA 1 (RF c 22) = true) c (isO_lt h) h
theorem rf_10_23 {c : Nat} (h : isO 10 c = true) : isA 1 (RF c 23) = true := (by decide +kernel : ∀ c, c < 78 → isO 10 c = true → isA 1 (RF c 23) = true) c (isO_lt h) h
theorem rf_10_24 {c : Nat} (h : isO 10 c = true) : isA 1 (RF c 24) = true := (by decide +kernel : ∀ c, c < 78 → isO 10 c = true → isA 1 (RF c 24) = true) c (isO_lt h) h
theorem rf_10_25 {c : Nat} (h : isO 10 c = true) : isA 1 (RF c 25) = true := (by decide +kernel : ∀ c, c < 78 → isO 10 c = true → isA 1 (RF c 25) = true) c (isO_lt h) h
theorem rf_10_29 {c : Nat} (h : isO 10 c = true) : isA 1 (RF c 29) = true := (by decide +kernel : ∀ c, c < 78 → isO 10 c = true → isA 1 (RF c 29) = true) c (isO_lt h) h
theorem rf_10_30 {c : Nat} (h : isO 10 c = true) : isA 1 (RF c 30) = true := (by decide +kernel : ∀ c, c < 78 → isO 10 c = true → isA 1 (RF c 30) = true) c (isO_lt h) h
theorem rf_10_33 {c : Nat} (h : isO 10 c = true) : isA 1 (RF c 33) = true := (by decide +kernel : ∀ c, c < 78 → isO 10 c = true → isA 1 (RF c 33) = true) c (isO_lt h) h
theorem rf_10_35 {c : Nat} (h : isO 10 c = true) : isA 1 (RF c 35) = true := (by decide +kernel : ∀ c, c < 78 → isO 10 c = true → isA 1 (RF c 35) = true) c (isO_lt h) h
theorem rf_10_37 {c : Nat} (h : isO 10 c = true) : isA 1 (RF c 37) = true := (by decide +kernel : ∀ c, c < 78 → isO 10 c = true → isA 1 (RF c 37) = true) c (isO_lt h) h
theorem rf_10_38 {c : Nat} (h : isO 10 c = true) : isA 1 (RF c 38) = true := (by decide +kernel : ∀ c, c < 78 → isO 10 c = true → isA 1 (RF c 38) = true) c (isO_lt h) h
theorem rf_10_39 {c : Nat} (h : isO 10 c = true) : isA 1 (RF c 39) = true := (by decide +kernel : ∀ c, c < 78 → isO 10 c = true → isA 1 (RF c 39) = true) c (isO_lt h) h
theorem rf_10_40 {c : Nat} (h : isO 10 c = true) : isA 2 (RF c 40) = true := (by decide +kernel : ∀ c, c < 78 → isO 10 c = true → isA 2 (RF c 40) = true) c (isO_lt h) h
theorem rf_10_41 {c : Nat} (h : isO 10 c = true) : isA 1 (RF c 41) = true := (by decide +kernel : ∀ c, c < 78 → isO 10 c = true → isA 1 (RF c 41) = true) c (isO_lt h) h
theorem rf_10_42 {c : Nat} (h : isO 10 c = true) : isA 1 (RF c 42) = true := (by decide +kernel : ∀ c, c < 78 → isO 10 c = true → isA 1 (RF c 42) = true) c (isO_lt h) h
theorem rf_10_43 {c : Nat} (h : isO 10 c = true) : isA 1 (RF c 43) = true := (by decide +kernel : ∀ c, c < 78 → isO 10 c = true → isA 1 (RF c 43) = true) c (isO_lt h) h
theorem mlRX9_80 : ML RX9 80 yX2_addThing := Or.inl (lw_w_in (l := lw_tbl) 399 rfl (by decide +kernel) (by decide +kernel))
theorem mlRX9_84 : ML RX9 84 yX9_isWithin := Or.inl (lw_w_in (l := lw_tbl) 411 rfl (by decide +kernel) (by decide +kernel))
theorem mlRX9_88 : ML RX9 88 yX2_addBidder := Or.inl (lw_w_in (l := lw_tbl) 416 rfl (by decide +kernel) (by decide +kernel))
theorem mlRX9_92 : ML RX9 92 yX9_isShelf := Or.inl (lw_w_in (l := lw_tbl) 424 rfl (by decide +kernel) (by decide +kernel))
theorem mlRX9_100 : ML RX9 100 yX6_holdsBytes := Or.inl (lw_w_in (l := lw_tbl) 427 rfl (by decide +kernel) (by decide +kernel))
theorem mlRX9_104 : ML RX9 104 yX6_hasRun := Or.inl (lw_w_in (l := lw_tbl) 431 rfl (by decide +kernel) (by decide +kernel))
theorem mlRX9_107 : ML RX9 107 yX9_comesFrom := Or.inl (lw_w_in (l := lw_tbl) 435 rfl (by decide +kernel) (by decide +kernel))
theorem mlRX9_111 : ML RX9 111 yX6_at := Or.inl (lw_w_in (l := lw_tbl) 439 rfl (by decide +kernel) (by decide +kernel))
theorem mlRX9_115 : ML RX9 115 yX2_has := Or.inl (lw_w_in (l := lw_tbl) 448 rfl (by decide +kernel) (by decide +kernel))
theorem mlRX9_118 : ML RX9 118 yX9_mayBe := Or.inl (lw_w_in (l := lw_tbl) 460 rfl (by decide +kernel) (by decide +kernel))
theorem mlRX9_122 : ML RX9 122 yX2_number := Or.inl (lw_w_in (l := lw_tbl) 466 rfl (by decide +kernel) (by decide +kernel))
theorem mlRX9_126 : ML RX9 126 yX2_become := Or.inl (lw_w_in (l := lw_tbl) 470 rfl (by decide +kernel) (by decide +kernel))
theorem mlRX9_130 : ML RX9 130 yX0_came := Or.inl (lw_w_in (l := lw_tbl) 471 rfl (by decide +kernel) (by decide +kernel))
theorem mlRX9_134 : ML RX9 134 yX4_isTapeFull := Or.inl (lw_w_in (l := lw_tbl) 486 rfl (by decide +kernel) (by decide +kernel))
theorem mlRX9_137 : ML RX9 137 yX4_comes := Or.inl (lw_w_in (l := lw_tbl) 490 rfl (by decide +kernel) (by decide +kernel))
theorem mlRX9_140 : ML RX9 140 yX4_fromTape := Or.inl (lw_w_in (l := lw_tbl) 498 rfl (by decide +kernel) (by decide +kernel))
theorem mlRX9_144 : ML RX9 144 yX9_isPair := Or.inl (lw_w_in (l := lw_tbl) 632 rfl (by decide +kernel) (by decide +kernel))
theorem mlRX9_147 : ML RX9 147 yX7_begin := Or.inl (lw_w_in (l := lw_tbl) 637 rfl (by decide +kernel) (by decide +kernel))
theorem mlRX9_151 : ML RX9 151 yX7_considers := Or.inl (lw_w_in (l := lw_tbl) 655 rfl (by decide +kernel) (by decide +kernel))
theorem mlRX9_158 : ML RX9 158 yX7_bid := Or.inl (lw_w_in (l := lw_tbl) 674 rfl (by decide +kernel) (by decide +kernel))
theorem mlRX9_161 : ML RX9 161 yX2_hasThing := Or.inl (lw_w_in (l := lw_tbl) 636 rfl (by decide +kernel) (by decide +kernel))
theorem mlRX9_164 : ML RX9 164 yX7_winner := Or.inl (lw_w_in (l := lw_tbl) 682 rfl (by decide +kernel) (by decide +kernel))
theorem mlRX9_167 : ML RX9 167 yX6_refusesBytes := Or.inl (lw_w_in (l := lw_tbl) 691 rfl (by decide +kernel) (by decide +kernel))
theorem mlRX9_170 : ML RX9 170 yX7_sellsAll := Or.inl (lw_w_in (l := lw_tbl) 696 rfl (by decide +kernel) (by decide +kernel))
theorem mlRX9_180 : ML RX9 180 yX2_hasBidder := Or.inl (lw_w_in (l := lw_tbl) 464 rfl (by decide +kernel) (by decide +kernel))
theorem mlRX9_195 : ML RX9 195 yJ6_bitCount_0f7a4 := Or.inl (lw_w_in (l := lw_tbl) 720 rfl (by decide +kernel) (by decide +kernel))
theorem mlRX9_200 : ML RX9 200 yX8_orders := Or.inl (lw_w_in (l := lw_tbl) 726 rfl (by decide +kernel) (by decide +kernel))
theorem mlRX9_210 : ML RX9 210 yX8_fewestExamined := Or.inl (lw_w_in (l := lw_tbl) 749 rfl (by decide +kernel) (by decide +kernel))
theorem mlRX9_213 : ML RX9 213 yX1_deals := Or.inl (lw_w_in (l := lw_tbl) 759 rfl (by decide +kernel) (by decide +kernel))
theorem mlRX9_216 : ML RX9 216 yX1_total := Or.inl (lw_w_in (l := lw_tbl) 782 rfl (by decide +kernel) (by decide +kernel))
theorem mlRX9_219 : ML RX9 219 yX1_share := Or.inl (lw_w_in (l := lw_tbl) 786 rfl (by decide +kernel) (by decide +kernel))
theorem mlRX9_225 : ML RX9 225 yX7_wouldChange := Or.inl (lw_w_in (l := lw_tbl) 795 rfl (by decide +kernel) (by decide +kernel))
theorem mlRX9_228 : ML RX9 228 yX2_yearPasses := Or.inl (lw_w_in (l := lw_tbl) 803 rfl (by decide +kernel) (by decide +kernel))
theorem mlRX9_231 : ML RX9 231 yX2_missedBits := Or.inl (lw_w_in (l := lw_tbl) 809 rfl (by decide +kernel) (by decide +kernel))
theorem mlRX9_234 : ML RX9 234 yX2_missedLongest := Or.inl (lw_w_in (l := lw_tbl) 817 rfl (by decide +kernel) (by decide +kernel))
theorem mlRX9_237 : ML RX9 237 yX9_areShelves := Or.inl (lw_w_in (l := lw_tbl) 825 rfl (by decide +kernel) (by decide +kernel))
theorem mlRX9_240 : ML RX9 240 yX9_refusesBoth := Or.inl (lw_w_in (l := lw_tbl) 828 rfl (by decide +kernel) (by decide +kernel))
theorem mlRX9_243 : ML RX9 243 yX7_firstWrong := Or.inl (lw_w_in (l := lw_tbl) 832 rfl (by decide +kernel) (by decide +kernel))
theorem mlRX9_247 : ML RX9 247 yX7_varies := Or.inl (lw_w_in (l := lw_tbl) 841 rfl (by decide +kernel) (by decide +kernel))
theorem mlRX9_250 : ML RX9 250 yX8_turns := Or.inl (lw_w_in (l := lw_tbl) 850 rfl (by decide +kernel) (by decide +kernel))
theorem mlRX9_256 : ML RX9 256 yX7_restarts := Or.inl (lw_w_in (l := lw_tbl) 872 rfl (by decide +kernel) (by decide +kernel))
theorem mlRX9_259 : ML RX9 259 yX7_sellsByDraws := Or.inl (lw_w_in (l := lw_tbl) 873 rfl (by decide +kernel) (by decide +kernel))
theorem mlRX9_263 : ML RX9 263 yX7_misses := Or.inl (lw_w_in (l := lw_tbl) 886 rfl (by decide +kernel) (by decide +kernel))
theorem lmRX9_266 : Cond.methodLink RX9 266 Lib.Math.min.name ∈ lw_w := lw_w_in (l := lw_tbl) 887 rfl (by decide +kernel) (by decide +kernel)
theorem mlRX9_271 : ML RX9 271 yX3_takes := Or.inl (lw_w_in (l := lw_tbl) 904 rfl (by decide +kernel) (by decide +kernel))
theorem mlRX9_279 : ML RX9 279 yX3_laysBack := Or.inl (lw_w_in (l := lw_tbl) 914 rfl (by decide +kernel) (by decide +kernel))
theorem mlRX9_285 : ML RX9 285 yX0_unmake := Or.inl (lw_w_in (l := lw_tbl) 924 rfl (by decide +kernel) (by decide +kernel))
theorem mlRX9_292 : ML RX9 292 yX0_remake := Or.inl (lw_w_in (l := lw_tbl) 933 rfl (by decide +kernel) (by decide +kernel))
theorem mlRX9_295 : ML RX9 295 yX5_isFull := Or.inl (lw_w_in (l := lw_tbl) 941 rfl (by decide +kernel) (by decide +kernel))
theorem mlRX9_298 : ML RX9 298 yX5_add := Or.inl (lw_w_in (l := lw_tbl) 945 rfl (by decide +kernel) (by decide +kernel))
theorem mlRX9_301 : ML RX9 301 yX5_acts := Or.inl (lw_w_in (l := lw_tbl) 953 rfl (by decide +kernel) (by decide +kernel))
theorem mlRX9_304 : ML RX9 304 yX5_traced := Or.inl (lw_w_in (l := lw_tbl) 981 rfl (by decide +kernel) (by decide +kernel))
theorem mlRX9_307 : ML RX9 307 yX5_has := Or.inl (lw_w_in (l := lw_tbl) 990 rfl (by decide +kernel) (by decide +kernel))
theorem mlRX9_309 : ML RX9 309 yX6_holdNothing := Or.inl (lw_w_in (l := lw_tbl) 991 rfl (by decide +kernel) (by decide +kernel))
theorem mlRX9_312 : ML RX9 312 yX6_holdLot := Or.inl (lw_w_in (l := lw_tbl) 995 rfl (by decide +kernel) (by decide +kernel))
theorem mlRX9_315 : ML RX9 315 yX6_holdRow := Or.inl (lw_w_in (l := lw_tbl) 1003 rfl (by decide +kernel) (by decide +kernel))
theorem mlRX9_319 : ML RX9 319 yX9_refusesElement := Or.inl (lw_w_in (l := lw_tbl) 1014 rfl (by decide +kernel) (by decide +kernel))
theorem mlRX9_322 : ML RX9 322 yX6_lay := Or.inl (lw_w_in (l := lw_tbl) 1018 rfl (by decide +kernel) (by decide +kernel))
theorem lmRX9_337 : Cond.methodLink RX9 337 arraycopyName ∈ lw_w := lw_w_in (l := lw_tbl) 1035 rfl (by decide +kernel) (by decide +kernel)
theorem mlRX9_346 : ML RX9 346 yX5_kindOf := Or.inl (lw_w_in (l := lw_tbl) 1040 rfl (by decide +kernel) (by decide +kernel))
theorem mlRX9_349 : ML RX9 349 yX5_isUnder := Or.inl (lw_w_in (l := lw_tbl) 1044 rfl (by decide +kernel) (by decide +kernel))
theorem lmRX0_20 : Cond.methodLink RX0 20 arraycopyName ∈ lw_w := lw_w_in (l := lw_tbl) 475 rfl (by decide +kernel) (by decide +kernel)
theorem mlRX0_26 : ML RX0 26 yX2_become := Or.inl (lw_w_in (l := lw_tbl) 928 rfl (by decide +kernel) (by decide +kernel))
theorem mlRX1_24 : ML RX1 24 yJ7_fill_d0a16 := Or.inl (lw_w_in (l := lw_tbl) 763 rfl (by decide +kernel) (by decide +kernel))
theorem mlRX1_39 : ML RX1 39 yX1_weigh := Or.inl (lw_w_in (l := lw_tbl) 766 rfl (by decide +kernel) (by decide +kernel))
theorem mlRX1_43 : ML RX1 43 yX1_bestOf := Or.inl (lw_w_in (l := lw_tbl) 775 rfl (by decide +kernel) (by decide +kernel))
theorem mlRX1_54 : ML RX1 54 yX2_number := Or.inl (lw_w_in (l := lw_tbl) 770 rfl (by decide +kernel) (by decide +kernel))
theorem mlRX1_62 : ML RX1 62 yX7_misses := Or.inl (lw_w_in (l := lw_tbl) 771 rfl (by decide +kernel) (by decide +kernel))
theorem lmRX1_71 : Cond.methodLink RX1 71 Lib.MathLoose.max_long.x ∈ lw_w := lw_w_in (l := lw_tbl) 779 rfl (by decide +kernel) (by decide +kernel)
theorem mlRX2_25 : ML RX2 25 yX2_hasThing := Or.inl (lw_w_in (l := lw_tbl) 452 rfl (by decide +kernel) (by decide +kernel))
theorem mlRX2_29 : ML RX2 29 yX2_hasBidder := Or.inl (lw_w_in (l := lw_tbl) 456 rfl (by decide +kernel) (by decide +kernel))
theorem mlRX2_32 : ML RX2 32 yX2_become := Or.inl (lw_w_in (l := lw_tbl) 403 rfl (by decide +kernel) (by decide +kernel))
theorem lmRX2_36 : Cond.methodLink RX2 36 arraycopyName ∈ lw_w := lw_w_in (l := lw_tbl) 645 rfl (by decide +kernel) (by decide +kernel)
theorem mlRX2_42 : ML RX2 42 yX2_number := Or.inl (lw_w_in (l := lw_tbl) 807 rfl (by decide +kernel) (by decide +kernel))
theorem lmRX2_46 : Cond.methodLink RX2 46 Lib.Math.max.name ∈ lw_w := lw_w_in (l := lw_tbl) 808 rfl (by decide +kernel) (by decide +kernel)
theorem mlRX3_22 : ML RX3 22 yX2_copies := Or.inl (lw_w_in (l := lw_tbl) 908 rfl (by decide +kernel) (by decide +kernel))
theorem lmRX3_26 : Cond.methodLink RX3 26 arraycopyName ∈ lw_w := lw_w_in (l := lw_tbl) 909 rfl (by decide +kernel) (by decide +kernel)
theorem mlRX3_40 : ML RX3 40 yX2_number := Or.inl (lw_w_in (l := lw_tbl) 918 rfl (by decide +kernel) (by decide +kernel))
theorem mlRX3_44 : ML RX3 44 yX2_become := Or.inl (lw_w_in (l := lw_tbl) 919 rfl (by decide +kernel) (by decide +kernel))
theorem mlRX4_35 : ML RX4 35 yX4_readLines := Or.inl (lw_w_in (l := lw_tbl) 502 rfl (by decide +kernel) (by decide +kernel))
theorem mlRX4_46 : ML RX4 46 yX4_readLine := Or.inl (lw_w_in (l := lw_tbl) 506 rfl (by decide +kernel) (by decide +kernel))
theorem mlRX4_49 : ML RX4 49 yX4_takes := Or.inl (lw_w_in (l := lw_tbl) 620 rfl (by decide +kernel) (by decide +kernel))
theorem mlRX4_53 : ML RX4 53 yX4_readRank := Or.inl (lw_w_in (l := lw_tbl) 510 rfl (by decide +kernel) (by decide +kernel))
theorem mlRX4_57 : ML RX4 57 yX4_emit := Or.inl (lw_w_in (l := lw_tbl) 529 rfl (by decide +kernel) (by decide +kernel))
theorem mlRX4_61 : ML RX4 61 yX4_readOperand := Or.inl (lw_w_in (l := lw_tbl) 514 rfl (by decide +kernel) (by decide +kernel))
theorem mlRX4_64 : ML RX4 64 yX4_next := Or.inl (lw_w_in (l := lw_tbl) 518 rfl (by decide +kernel) (by decide +kernel))
theorem mlRX4_68 : ML RX4 68 yX4_rankOf := Or.inl (lw_w_in (l := lw_tbl) 624 rfl (by decide +kernel) (by decide +kernel))
theorem mlRX4_72 : ML RX4 72 yX4_isDigit := Or.inl (lw_w_in (l := lw_tbl) 522 rfl (by decide +kernel) (by decide +kernel))
theorem mlRX4_75 : ML RX4 75 yX4_readNumber := Or.inl (lw_w_in (l := lw_tbl) 525 rfl (by decide +kernel) (by decide +kernel))
theorem lmRX4_80 : Cond.methodLink RX4 80 yJ0_indexOf_0f7a4 ∈ lw_w := lw_w_in (l := lw_tbl) 534 rfl (by decide +kernel) (by decide +kernel)
theorem lmRX4_85 : Cond.methodLink RX4 85 Lib.Math.min.name ∈ lw_w := lw_w_in (l := lw_tbl) 667 rfl (by decide +kernel) (by decide +kernel)
theorem lmRX4_91 : Cond.methodLink RX4 91 Lib.Math.max.name ∈ lw_w := lw_w_in (l := lw_tbl) 668 rfl (by decide +kernel) (by decide +kernel)
theorem mlRX4_94 : ML RX4 94 yX4_worked := Or.inl (lw_w_in (l := lw_tbl) 669 rfl (by decide +kernel) (by decide +kernel))
theorem mlRX5_22 : ML RX5 22 yX5_has := Or.inl (lw_w_in (l := lw_tbl) 957 rfl (by decide +kernel) (by decide +kernel))
theorem lmRX5_32 : Cond.methodLink RX5 32 Lib.Math.min.name ∈ lw_w := lw_w_in (l := lw_tbl) 985 rfl (by decide +kernel) (by decide +kernel)
theorem mlRX5_41 : ML RX5 41 yX5_runs := Or.inl (lw_w_in (l := lw_tbl) 961 rfl (by decide +kernel) (by decide +kernel))
theorem mlRX5_48 : ML RX5 48 yX5_runBody := Or.inl (lw_w_in (l := lw_tbl) 969 rfl (by decide +kernel) (by decide +kernel))
theorem mlRX5_51 : ML RX5 51 yX5_own := Or.inl (lw_w_in (l := lw_tbl) 973 rfl (by decide +kernel) (by decide +kernel))
theorem lmRX6_28 : Cond.methodLink RX6 28 Lib.Math.min.name ∈ lw_w := lw_w_in (l := lw_tbl) 1007 rfl (by decide +kernel) (by decide +kernel)
theorem lmRX6_34 : Cond.methodLink RX6 34 Lib.Math.max.name ∈ lw_w := lw_w_in (l := lw_tbl) 1008 rfl (by decide +kernel) (by decide +kernel)
theorem mlRX6_37 : ML RX6 37 yJ7_fill_d0a16 := Or.inl (lw_w_in (l := lw_tbl) 1009 rfl (by decide +kernel) (by decide +kernel))
theorem mlRX6_43 : ML RX6 43 yX6_holdsBytes := Or.inl (lw_w_in (l := lw_tbl) 695 rfl (by decide +kernel) (by decide +kernel))
theorem mlRX6_47 : ML RX6 47 yX6_hasRun := Or.inl (lw_w_in (l := lw_tbl) 443 rfl (by decide +kernel) (by decide +kernel))
theorem mlRX6_51 : ML RX6 51 yX6_kept := Or.inl (lw_w_in (l := lw_tbl) 1022 rfl (by decide +kernel) (by decide +kernel))
theorem mlRX7_38 : ML RX7 38 yX2_copies := Or.inl (lw_w_in (l := lw_tbl) 641 rfl (by decide +kernel) (by decide +kernel))
theorem mlRX7_42 : ML RX7 42 yJ7_fill_53178 := Or.inl (lw_w_in (l := lw_tbl) 646 rfl (by decide +kernel) (by decide +kernel))
theorem mlRX7_48 : ML RX7 48 yX7_restarts := Or.inl (lw_w_in (l := lw_tbl) 649 rfl (by decide +kernel) (by decide +kernel))
theorem mlRX7_67 : ML RX7 67 yX2_number := Or.inl (lw_w_in (l := lw_tbl) 653 rfl (by decide +kernel) (by decide +kernel))
theorem mlRX7_71 : ML RX7 71 yX2_hasBidder := Or.inl (lw_w_in (l := lw_tbl) 654 rfl (by decide +kernel) (by decide +kernel))
theorem mlRX7_75 : ML RX7 75 yX2_become := Or.inl (lw_w_in (l := lw_tbl) 845 rfl (by decide +kernel) (by decide +kernel))
theorem mlRX7_79 : ML RX7 79 yX4_gives := Or.inl (lw_w_in (l := lw_tbl) 663 rfl (by decide +kernel) (by decide +kernel))
theorem lmRX7_85 : Cond.methodLink RX7 85 Lib.Math.min.name ∈ lw_w := lw_w_in (l := lw_tbl) 672 rfl (by decide +kernel) (by decide +kernel)
theorem lmRX7_90 : Cond.methodLink RX7 90 Lib.Math.max.name ∈ lw_w := lw_w_in (l := lw_tbl) 673 rfl (by decide +kernel) (by decide +kernel)
theorem mlRX7_96 : ML RX7 96 yX7_misses := Or.inl (lw_w_in (l := lw_tbl) 659 rfl (by decide +kernel) (by decide +kernel))
theorem mlRX7_100 : ML RX7 100 yX7_bid := Or.inl (lw_w_in (l := lw_tbl) 686 rfl (by decide +kernel) (by decide +kernel))
theorem mlRX7_104 : ML RX7 104 yX7_considers := Or.inl (lw_w_in (l := lw_tbl) 710 rfl (by decide +kernel) (by decide +kernel))
theorem mlRX7_108 : ML RX7 108 yX7_winner := Or.inl (lw_w_in (l := lw_tbl) 711 rfl (by decide +kernel) (by decide +kernel))
theorem mlRX7_112 : ML RX7 112 yX7_lengthOf := Or.inl (lw_w_in (l := lw_tbl) 700 rfl (by decide +kernel) (by decide +kernel))
theorem mlRX7_119 : ML RX7 119 yX6_at := Or.inl (lw_w_in (l := lw_tbl) 704 rfl (by decide +kernel) (by decide +kernel))
theorem mlRX7_125 : ML RX7 125 yX7_sellsOne := Or.inl (lw_w_in (l := lw_tbl) 706 rfl (by decide +kernel) (by decide +kernel))
theorem mlRX7_132 : ML RX7 132 yX2_hasThing := Or.inl (lw_w_in (l := lw_tbl) 705 rfl (by decide +kernel) (by decide +kernel))
theorem lmRX8_26 : Cond.methodLink RX8 26 Lib.Math.min.name ∈ lw_w := lw_w_in (l := lw_tbl) 730 rfl (by decide +kernel) (by decide +kernel)
theorem mlRX8_35 : ML RX8 35 yX8_tryOrder := Or.inl (lw_w_in (l := lw_tbl) 731 rfl (by decide +kernel) (by decide +kernel))
theorem lmRX8_44 : Cond.methodLink RX8 44 arraycopyName ∈ lw_w := lw_w_in (l := lw_tbl) 735 rfl (by decide +kernel) (by decide +kernel)
theorem mlRX8_53 : ML RX8 53 yX7_sellsOne := Or.inl (lw_w_in (l := lw_tbl) 736 rfl (by decide +kernel) (by decide +kernel))
theorem mlRX8_57 : ML RX8 57 yX7_unsellsOne := Or.inl (lw_w_in (l := lw_tbl) 737 rfl (by decide +kernel) (by decide +kernel))
theorem mlRX8_73 : ML RX8 73 yJ6_bitCount_0f7a4 := Or.inl (lw_w_in (l := lw_tbl) 753 rfl (by decide +kernel) (by decide +kernel))
theorem mlRX8_78 : ML RX8 78 yX7_winner := Or.inl (lw_w_in (l := lw_tbl) 754 rfl (by decide +kernel) (by decide +kernel))
theorem mlRX8_85 : ML RX8 85 yX8_moved := Or.inl (lw_w_in (l := lw_tbl) 856 rfl (by decide +kernel) (by decide +kernel))
theorem lmRX8_92 : Cond.methodLink RX8 92 Lib.Math.max.name ∈ lw_w := lw_w_in (l := lw_tbl) 867 rfl (by decide +kernel) (by decide +kernel)
theorem mlRX8_95 : ML RX8 95 yX2_number := Or.inl (lw_w_in (l := lw_tbl) 860 rfl (by decide +kernel) (by decide +kernel))
theorem mlRX8_101 : ML RX8 101 yX2_become := Or.inl (lw_w_in (l := lw_tbl) 862 rfl (by decide +kernel) (by decide +kernel))
theorem mlRX8_104 : ML RX8 104 yX8_outcome := Or.inl (lw_w_in (l := lw_tbl) 863 rfl (by decide +kernel) (by decide +kernel))
theorem mlRX10_101 : ML RX10 101 yX10_within := Or.inl (lw_w_in (l := lw_tbl) 1197 rfl (by decide +kernel) (by decide +kernel))
theorem mlRX10_108 : ML RX10 108 yX10_newOne := Or.inl (lw_w_in (l := lw_tbl) 1204 rfl (by decide +kernel) (by decide +kernel))
theorem mlRX10_112 : ML RX10 112 yX10_isShelf := Or.inl (lw_w_in (l := lw_tbl) 1212 rfl (by decide +kernel) (by decide +kernel))
theorem mlRX10_118 : ML RX10 118 yX10_toldAt := Or.inl (lw_w_in (l := lw_tbl) 1216 rfl (by decide +kernel) (by decide +kernel))
theorem mlRX10_122 : ML RX10 122 yX10_isThing := Or.inl (lw_w_in (l := lw_tbl) 1228 rfl (by decide +kernel) (by decide +kernel))
theorem mlRX10_125 : ML RX10 125 yX10_isOne := Or.inl (lw_w_in (l := lw_tbl) 1232 rfl (by decide +kernel) (by decide +kernel))
theorem mlRX10_128 : ML RX10 128 yX10_isOf := Or.inl (lw_w_in (l := lw_tbl) 1224 rfl (by decide +kernel) (by decide +kernel))
theorem mlRX10_132 : ML RX10 132 yX10_isFit := Or.inl (lw_w_in (l := lw_tbl) 1236 rfl (by decide +kernel) (by decide +kernel))
theorem mlRX10_136 : ML RX10 136 yX10_get := Or.inl (lw_w_in (l := lw_tbl) 1241 rfl (by decide +kernel) (by decide +kernel))
theorem mlRX10_139 : ML RX10 139 yX10_becomes := Or.inl (lw_w_in (l := lw_tbl) 1245 rfl (by decide +kernel) (by decide +kernel))
theorem mlRX10_155 : ML RX10 155 yX10_sign := Or.inl (lw_w_in (l := lw_tbl) 1301 rfl (by decide +kernel) (by decide +kernel))
theorem mlRX10_162 : ML RX10 162 yX10_isDigit := Or.inl (lw_w_in (l := lw_tbl) 1297 rfl (by decide +kernel) (by decide +kernel))
theorem mlRX10_166 : ML RX10 166 yX10_codes := Or.inl (lw_w_in (l := lw_tbl) 1305 rfl (by decide +kernel) (by decide +kernel))
theorem mlRX10_169 : ML RX10 169 yX10_nameOf := Or.inl (lw_w_in (l := lw_tbl) 1309 rfl (by decide +kernel) (by decide +kernel))
theorem mlRX10_176 : ML RX10 176 yX10_is := Or.inl (lw_w_in (l := lw_tbl) 1312 rfl (by decide +kernel) (by decide +kernel))
theorem mlRX10_179 : ML RX10 179 yX10_isO := Or.inl (lw_w_in (l := lw_tbl) 1293 rfl (by decide +kernel) (by decide +kernel))
theorem mlRX10_182 : ML RX10 182 yX10_isE := Or.inl (lw_w_in (l := lw_tbl) 1273 rfl (by decide +kernel) (by decide +kernel))
theorem mlRX10_185 : ML RX10 185 yX10_isP := Or.inl (lw_w_in (l := lw_tbl) 1289 rfl (by decide +kernel) (by decide +kernel))
theorem mlRX10_188 : ML RX10 188 yX10_isS := Or.inl (lw_w_in (l := lw_tbl) 1285 rfl (by decide +kernel) (by decide +kernel))
theorem mlRX10_191 : ML RX10 191 yX10_isB := Or.inl (lw_w_in (l := lw_tbl) 1281 rfl (by decide +kernel) (by decide +kernel))
theorem mlRX10_194 : ML RX10 194 yX10_isA := Or.inl (lw_w_in (l := lw_tbl) 1277 rfl (by decide +kernel) (by decide +kernel))
theorem mlRX10_200 : ML RX10 200 yX10_isLine := Or.inl (lw_w_in (l := lw_tbl) 1269 rfl (by decide +kernel) (by decide +kernel))
theorem mlRX10_210 : ML RX10 210 yX10_both := Or.inl (lw_w_in (l := lw_tbl) 1344 rfl (by decide +kernel) (by decide +kernel))
theorem mlRX10_213 : ML RX10 213 yX10_worked := Or.inl (lw_w_in (l := lw_tbl) 1340 rfl (by decide +kernel) (by decide +kernel))
theorem mlRX10_216 : ML RX10 216 yX10_missing := Or.inl (lw_w_in (l := lw_tbl) 1332 rfl (by decide +kernel) (by decide +kernel))
theorem mlRX10_219 : ML RX10 219 yX10_byLaw := Or.inl (lw_w_in (l := lw_tbl) 1336 rfl (by decide +kernel) (by decide +kernel))
theorem lmRX10_222 : Cond.methodLink RX10 222 Lib.Math.min.name ∈ lw_w := lw_w_in (l := lw_tbl) 1347 rfl (by decide +kernel) (by decide +kernel)
theorem lmRX10_227 : Cond.methodLink RX10 227 Lib.Math.max.name ∈ lw_w := lw_w_in (l := lw_tbl) 1348 rfl (by decide +kernel) (by decide +kernel)
theorem mlRX10_230 : ML RX10 230 yX10_countOf := Or.inl (lw_w_in (l := lw_tbl) 1324 rfl (by decide +kernel) (by decide +kernel))
theorem mlRX10_233 : ML RX10 233 yX10_yearsOf := Or.inl (lw_w_in (l := lw_tbl) 1328 rfl (by decide +kernel) (by decide +kernel))
theorem mlRX10_236 : ML RX10 236 yX10_wouldMiss := Or.inl (lw_w_in (l := lw_tbl) 1320 rfl (by decide +kernel) (by decide +kernel))
theorem mlRX10_239 : ML RX10 239 yX10_bidOf := Or.inl (lw_w_in (l := lw_tbl) 1349 rfl (by decide +kernel) (by decide +kernel))
theorem mlRX10_242 : ML RX10 242 yX10_winner := Or.inl (lw_w_in (l := lw_tbl) 1357 rfl (by decide +kernel) (by decide +kernel))
theorem mlRX10_245 : ML RX10 245 yX10_isForSale := Or.inl (lw_w_in (l := lw_tbl) 1381 rfl (by decide +kernel) (by decide +kernel))
theorem mlRX10_248 : ML RX10 248 yX10_laysBack := Or.inl (lw_w_in (l := lw_tbl) 1389 rfl (by decide +kernel) (by decide +kernel))
theorem mlRX10_252 : ML RX10 252 yX10_noBytes := Or.inl (lw_w_in (l := lw_tbl) 1365 rfl (by decide +kernel) (by decide +kernel))
theorem mlRX10_255 : ML RX10 255 yX10_listed := Or.inl (lw_w_in (l := lw_tbl) 1369 rfl (by decide +kernel) (by decide +kernel))
theorem mlRX10_258 : ML RX10 258 yX10_keeps := Or.inl (lw_w_in (l := lw_tbl) 1373 rfl (by decide +kernel) (by decide +kernel))
theorem mlRX10_262 : ML RX10 262 yX10_goes := Or.inl (lw_w_in (l := lw_tbl) 1377 rfl (by decide +kernel) (by decide +kernel))
theorem mlRX10_265 : ML RX10 265 yX10_laysBack_ := Or.inl (lw_w_in (l := lw_tbl) 1385 rfl (by decide +kernel) (by decide +kernel))
theorem mlRX10_270 : ML RX10 270 yX10_orders := Or.inl (lw_w_in (l := lw_tbl) 1406 rfl (by decide +kernel) (by decide +kernel))
theorem mlRX10_273 : ML RX10 273 yX10_forSale := Or.inl (lw_w_in (l := lw_tbl) 1401 rfl (by decide +kernel) (by decide +kernel))
theorem mlRX10_276 : ML RX10 276 yJ6_bitCount_0f7a4 := Or.inl (lw_w_in (l := lw_tbl) 1405 rfl (by decide +kernel) (by decide +kernel))
theorem mlRX10_281 : ML RX10 281 yX10_deals := Or.inl (lw_w_in (l := lw_tbl) 1422 rfl (by decide +kernel) (by decide +kernel))
theorem mlRX10_284 : ML RX10 284 yX10_wouldChange := Or.inl (lw_w_in (l := lw_tbl) 1430 rfl (by decide +kernel) (by decide +kernel))
theorem mlRX10_287 : ML RX10 287 yX10_less := Or.inl (lw_w_in (l := lw_tbl) 1442 rfl (by decide +kernel) (by decide +kernel))
theorem mlRX10_290 : ML RX10 290 yX10_passes := Or.inl (lw_w_in (l := lw_tbl) 1438 rfl (by decide +kernel) (by decide +kernel))
theorem mlRX10_293 : ML RX10 293 yX10_missedNow := Or.inl (lw_w_in (l := lw_tbl) 1445 rfl (by decide +kernel) (by decide +kernel))
theorem mlRX10_296 : ML RX10 296 yX10_quiet := Or.inl (lw_w_in (l := lw_tbl) 1453 rfl (by decide +kernel) (by decide +kernel))
theorem mlRX10_299 : ML RX10 299 yX10_longest := Or.inl (lw_w_in (l := lw_tbl) 1457 rfl (by decide +kernel) (by decide +kernel))
theorem mlRX10_302 : ML RX10 302 yX10_noBook := Or.inl (lw_w_in (l := lw_tbl) 1465 rfl (by decide +kernel) (by decide +kernel))
theorem mlRX10_305 : ML RX10 305 yX10_unlike := Or.inl (lw_w_in (l := lw_tbl) 1469 rfl (by decide +kernel) (by decide +kernel))
theorem mlRX10_308 : ML RX10 308 yX10_turnBy := Or.inl (lw_w_in (l := lw_tbl) 1481 rfl (by decide +kernel) (by decide +kernel))
theorem mlRX10_312 : ML RX10 312 yX10_turnFrom := Or.inl (lw_w_in (l := lw_tbl) 1485 rfl (by decide +kernel) (by decide +kernel))
theorem mlRX10_329 : ML RX10 329 yX10_ran := Or.inl (lw_w_in (l := lw_tbl) 1534 rfl (by decide +kernel) (by decide +kernel))
theorem mlRX10_333 : ML RX10 333 yX10_bidsBy := Or.inl (lw_w_in (l := lw_tbl) 1530 rfl (by decide +kernel) (by decide +kernel))
theorem mlRX10_336 : ML RX10 336 yX10_above := Or.inl (lw_w_in (l := lw_tbl) 1538 rfl (by decide +kernel) (by decide +kernel))
theorem mlRX10_339 : ML RX10 339 yX10_missesBy := Or.inl (lw_w_in (l := lw_tbl) 1541 rfl (by decide +kernel) (by decide +kernel))
theorem mlRX10_342 : ML RX10 342 yX10_losesBy := Or.inl (lw_w_in (l := lw_tbl) 1545 rfl (by decide +kernel) (by decide +kernel))
theorem mlRX10_345 : ML RX10 345 yX10_tells := Or.inl (lw_w_in (l := lw_tbl) 1549 rfl (by decide +kernel) (by decide +kernel))
theorem mlRX10_351 : ML RX10 351 yX10_isRow := Or.inl (lw_w_in (l := lw_tbl) 1569 rfl (by decide +kernel) (by decide +kernel))
theorem mlRX10_354 : ML RX10 354 yX10_kept := Or.inl (lw_w_in (l := lw_tbl) 1573 rfl (by decide +kernel) (by decide +kernel))
theorem miJ6_bitCount_0f7a4 : MI yJ6_bitCount_0f7a4 cJ6_bitCount_0f7a4 1 (some .int) 1 := ⟨lw_w_in (l := lw_tbl) 722 rfl (by decide +kernel) (by decide +kernel), lw_w_in (l := lw_tbl) 95 rfl (by decide +kernel) (by decide +kernel), by decide +kernel, by decide +kernel, by decide +kernel⟩
theorem miJ7_fill_53178 : MI yJ7_fill_53178 cJ7_fill_53178 4 none 2 := ⟨lw_w_in (l := lw_tbl) 648 rfl (by decide +kernel) (by decide +kernel), lw_w_in (l := lw_tbl) 94 rfl (by decide +kernel) (by decide +kernel), by decide +kernel, by decide +kernel, by decide +kernel⟩
theorem miJ7_fill_d0a16 : MI yJ7_fill_d0a16 cJ7_fill_d0a16 5 none 2 := ⟨lw_w_in (l := lw_tbl) 765 rfl (by decide +kernel) (by decide +kernel), lw_w_in (l := lw_tbl) 94 rfl (by decide +kernel) (by decide +kernel), by decide +kernel, by decide +kernel, by decide +kernel⟩
theorem miX0_came : MI yX0_came cX0_came 6 none 4 := ⟨lw_w_in (l := lw_tbl) 474 rfl (by decide +kernel) (by decide +kernel), lw_w_in (l := lw_tbl) 82 rfl (by decide +kernel) (by decide +kernel), by decide +kernel, by decide +kernel, by decide +kernel⟩
theorem miX0_remake : MI yX0_remake cX0_remake 3 (some .int) 1 := ⟨lw_w_in (l := lw_tbl) 936 rfl (by decide +kernel) (by decide +kernel), lw_w_in (l := lw_tbl) 82 rfl (by decide +kernel) (by decide +kernel), by decide +kernel, by decide +kernel, by decide +kernel⟩
theorem miX0_unmake : MI yX0_unmake cX0_unmake 3 (some .int) 1 := ⟨lw_w_in (l := lw_tbl) 927 rfl (by decide +kernel) (by decide +kernel), lw_w_in (l := lw_tbl) 82 rfl (by decide +kernel) (by decide +kernel), by decide +kernel, by decide +kernel, by decide +kernel⟩
theorem miX10_above : MI yX10_above cX10_above 1 (some .int) 1 := ⟨lw_w_in (l := lw_tbl) 1540 rfl (by decide +kernel) (by decide +kernel), lw_w_in (l := lw_tbl) 86 rfl (by decide +kernel) (by decide +kernel), by decide +kernel, by decide +kernel, by decide +kernel⟩
theorem miX10_becomes : MI yX10_becomes cX10_becomes 4 none 3 := ⟨lw_w_in (l := lw_tbl) 1248 rfl (by decide +kernel) (by decide +kernel), lw_w_in (l := lw_tbl) 86 rfl (by decide +kernel) (by decide +kernel), by decide +kernel, by decide +kernel, by decide +kernel⟩
theorem miX10_bidOf : MI yX10_bidOf cX10_bidOf 5 (some .int) 2 := ⟨lw_w_in (l := lw_tbl) 1352 rfl (by decide +kernel) (by decide +kernel), lw_w_in (l := lw_tbl) 86 rfl (by decide +kernel) (by decide +kernel), by decide +kernel, by decide +kernel, by decide +kernel⟩
theorem miX10_bidsBy : MI yX10_bidsBy cX10_bidsBy 4 (some .int) 3 := ⟨lw_w_in (l := lw_tbl) 1533 rfl (by decide +kernel) (by decide +kernel), lw_w_in (l := lw_tbl) 86 rfl (by decide +kernel) (by decide +kernel), by decide +kernel, by decide +kernel, by decide +kernel⟩
theorem miX10_both : MI yX10_both cX10_both 3 (some .int) 3 := ⟨lw_w_in (l := lw_tbl) 1346 rfl (by decide +kernel) (by decide +kernel), lw_w_in (l := lw_tbl) 86 rfl (by decide +kernel) (by decide +kernel), by decide +kernel, by decide +kernel, by decide +kernel⟩
theorem miX10_byLaw : MI yX10_byLaw cX10_byLaw 2 (some .int) 0 := ⟨lw_w_in (l := lw_tbl) 1339 rfl (by decide +kernel) (by decide +kernel), lw_w_in (l := lw_tbl) 86 rfl (by decide +kernel) (by decide +kernel), by decide +kernel, by decide +kernel, by decide +kernel⟩
theorem miX10_codes : MI yX10_codes cX10_codes 2 (some .boolean) 1 := ⟨lw_w_in (l := lw_tbl) 1308 rfl (by decide +kernel) (by decide +kernel), lw_w_in (l := lw_tbl) 86 rfl (by decide +kernel) (by decide +kernel), by decide +kernel, by decide +kernel, by decide +kernel⟩
theorem miX10_countOf : MI yX10_countOf cX10_countOf 4 (some .int) 1 := ⟨lw_w_in (l := lw_tbl) 1327 rfl (by decide +kernel) (by decide +kernel), lw_w_in (l := lw_tbl) 86 rfl (by decide +kernel) (by decide +kernel), by decide +kernel, by decide +kernel, by decide +kernel⟩
theorem miX10_deals : MI yX10_deals cX10_deals 5 none 3 := ⟨lw_w_in (l := lw_tbl) 1425 rfl (by decide +kernel) (by decide +kernel), lw_w_in (l := lw_tbl) 86 rfl (by decide +kernel) (by decide +kernel), by decide +kernel, by decide +kernel, by decide +kernel⟩
theorem miX10_forSale : MI yX10_forSale cX10_forSale 3 (some .int) 0 := ⟨lw_w_in (l := lw_tbl) 1404 rfl (by decide +kernel) (by decide +kernel), lw_w_in (l := lw_tbl) 86 rfl (by decide +kernel) (by decide +kernel), by decide +kernel, by decide +kernel, by decide +kernel⟩
theorem miX10_get : MI yX10_get cX10_get 3 (some .int) 2 := ⟨lw_w_in (l := lw_tbl) 1244 rfl (by decide +kernel) (by decide +kernel), lw_w_in (l := lw_tbl) 86 rfl (by decide +kernel) (by decide +kernel), by decide +kernel, by decide +kernel, by decide +kernel⟩
theorem miX10_goes : MI yX10_goes cX10_goes 3 (some .int) 1 := ⟨lw_w_in (l := lw_tbl) 1380 rfl (by decide +kernel) (by decide +kernel), lw_w_in (l := lw_tbl) 86 rfl (by decide +kernel) (by decide +kernel), by decide +kernel, by decide +kernel, by decide +kernel⟩
theorem miX10_is : MI yX10_is cX10_is 2 (some .boolean) 1 := ⟨lw_w_in (l := lw_tbl) 1315 rfl (by decide +kernel) (by decide +kernel), lw_w_in (l := lw_tbl) 86 rfl (by decide +kernel) (by decide +kernel), by decide +kernel, by decide +kernel, by decide +kernel⟩
theorem miX10_isA : MI yX10_isA cX10_isA 1 (some .boolean) 0 := ⟨lw_w_in (l := lw_tbl) 1280 rfl (by decide +kernel) (by decide +kernel), lw_w_in (l := lw_tbl) 86 rfl (by decide +kernel) (by decide +kernel), by decide +kernel, by decide +kernel, by decide +kernel⟩
theorem miX10_isB : MI yX10_isB cX10_isB 2 (some .boolean) 0 := ⟨lw_w_in (l := lw_tbl) 1284 rfl (by decide +kernel) (by decide +kernel), lw_w_in (l := lw_tbl) 86 rfl (by decide +kernel) (by decide +kernel), by decide +kernel, by decide +kernel, by decide +kernel⟩
theorem miX10_isDigit : MI yX10_isDigit cX10_isDigit 1 (some .boolean) 0 := ⟨lw_w_in (l := lw_tbl) 1300 rfl (by decide +kernel) (by decide +kernel), lw_w_in (l := lw_tbl) 86 rfl (by decide +kernel) (by decide +kernel), by decide +kernel, by decide +kernel, by decide +kernel⟩
theorem miX10_isE : MI yX10_isE cX10_isE 1 (some .boolean) 0 := ⟨lw_w_in (l := lw_tbl) 1276 rfl (by decide +kernel) (by decide +kernel), lw_w_in (l := lw_tbl) 86 rfl (by decide +kernel) (by decide +kernel), by decide +kernel, by decide +kernel, by decide +kernel⟩
theorem miX10_isFit : MI yX10_isFit cX10_isFit 3 (some .boolean) 2 := ⟨lw_w_in (l := lw_tbl) 1239 rfl (by decide +kernel) (by decide +kernel), lw_w_in (l := lw_tbl) 86 rfl (by decide +kernel) (by decide +kernel), by decide +kernel, by decide +kernel, by decide +kernel⟩
theorem miX10_isForSale : MI yX10_isForSale cX10_isForSale 2 (some .boolean) 1 := ⟨lw_w_in (l := lw_tbl) 1384 rfl (by decide +kernel) (by decide +kernel), lw_w_in (l := lw_tbl) 86 rfl (by decide +kernel) (by decide +kernel), by decide +kernel, by decide +kernel, by decide +kernel⟩
theorem miX10_isLine : MI yX10_isLine cX10_isLine 1 (some .boolean) 0 := ⟨lw_w_in (l := lw_tbl) 1272 rfl (by decide +kernel) (by decide +kernel), lw_w_in (l := lw_tbl) 86 rfl (by decide +kernel) (by decide +kernel), by decide +kernel, by decide +kernel, by decide +kernel⟩
theorem miX10_isO : MI yX10_isO cX10_isO 3 (some .boolean) 0 := ⟨lw_w_in (l := lw_tbl) 1296 rfl (by decide +kernel) (by decide +kernel), lw_w_in (l := lw_tbl) 86 rfl (by decide +kernel) (by decide +kernel), by decide +kernel, by decide +kernel, by decide +kernel⟩
theorem miX10_isOf : MI yX10_isOf cX10_isOf 3 (some .boolean) 2 := ⟨lw_w_in (l := lw_tbl) 1227 rfl (by decide +kernel) (by decide +kernel), lw_w_in (l := lw_tbl) 86 rfl (by decide +kernel) (by decide +kernel), by decide +kernel, by decide +kernel, by decide +kernel⟩
theorem miX10_isOne : MI yX10_isOne cX10_isOne 2 (some .boolean) 1 := ⟨lw_w_in (l := lw_tbl) 1235 rfl (by decide +kernel) (by decide +kernel), lw_w_in (l := lw_tbl) 86 rfl (by decide +kernel) (by decide +kernel), by decide +kernel, by decide +kernel, by decide +kernel⟩
theorem miX10_isP : MI yX10_isP cX10_isP 2 (some .boolean) 0 := ⟨lw_w_in (l := lw_tbl) 1292 rfl (by decide +kernel) (by decide +kernel), lw_w_in (l := lw_tbl) 86 rfl (by decide +kernel) (by decide +kernel), by decide +kernel, by decide +kernel, by decide +kernel⟩
theorem miX10_isRow : MI yX10_isRow cX10_isRow 2 (some .boolean) 1 := ⟨lw_w_in (l := lw_tbl) 1572 rfl (by decide +kernel) (by decide +kernel), lw_w_in (l := lw_tbl) 86 rfl (by decide +kernel) (by decide +kernel), by decide +kernel, by decide +kernel, by decide +kernel⟩
theorem miX10_isS : MI yX10_isS cX10_isS 2 (some .boolean) 0 := ⟨lw_w_in (l := lw_tbl) 1288 rfl (by decide +kernel) (by decide +kernel), lw_w_in (l := lw_tbl) 86 rfl (by decide +kernel) (by decide +kernel), by decide +kernel, by decide +kernel, by decide +kernel⟩
theorem miX10_isShelf : MI yX10_isShelf cX10_isShelf 1 (some .boolean) 1 := ⟨lw_w_in (l := lw_tbl) 1214 rfl (by decide +kernel) (by decide +kernel), lw_w_in (l := lw_tbl) 86 rfl (by decide +kernel) (by decide +kernel), by decide +kernel, by decide +kernel, by decide +kernel⟩
theorem miX10_isThing : MI yX10_isThing cX10_isThing 2 (some .boolean) 1 := ⟨lw_w_in (l := lw_tbl) 1231 rfl (by decide +kernel) (by decide +kernel), lw_w_in (l := lw_tbl) 86 rfl (by decide +kernel) (by decide +kernel), by decide +kernel, by decide +kernel, by decide +kernel⟩
theorem miX10_keeps : MI yX10_keeps cX10_keeps 3 none 1 := ⟨lw_w_in (l := lw_tbl) 1376 rfl (by decide +kernel) (by decide +kernel), lw_w_in (l := lw_tbl) 86 rfl (by decide +kernel) (by decide +kernel), by decide +kernel, by decide +kernel, by decide +kernel⟩
theorem miX10_kept : MI yX10_kept cX10_kept 3 (some .long) 2 := ⟨lw_w_in (l := lw_tbl) 1575 rfl (by decide +kernel) (by decide +kernel), lw_w_in (l := lw_tbl) 86 rfl (by decide +kernel) (by decide +kernel), by decide +kernel, by decide +kernel, by decide +kernel⟩
theorem miX10_laysBack : MI yX10_laysBack cX10_laysBack 5 none 3 := ⟨lw_w_in (l := lw_tbl) 1392 rfl (by decide +kernel) (by decide +kernel), lw_w_in (l := lw_tbl) 86 rfl (by decide +kernel) (by decide +kernel), by decide +kernel, by decide +kernel, by decide +kernel⟩
theorem miX10_laysBack_ : MI yX10_laysBack_ cX10_laysBack_ 1 none 0 := ⟨lw_w_in (l := lw_tbl) 1388 rfl (by decide +kernel) (by decide +kernel), lw_w_in (l := lw_tbl) 86 rfl (by decide +kernel) (by decide +kernel), by decide +kernel, by decide +kernel, by decide +kernel⟩
theorem miX10_less : MI yX10_less cX10_less 1 (some .int) 1 := ⟨lw_w_in (l := lw_tbl) 1444 rfl (by decide +kernel) (by decide +kernel), lw_w_in (l := lw_tbl) 86 rfl (by decide +kernel) (by decide +kernel), by decide +kernel, by decide +kernel, by decide +kernel⟩
theorem miX10_listed : MI yX10_listed cX10_listed 3 (some .int) 1 := ⟨lw_w_in (l := lw_tbl) 1372 rfl (by decide +kernel) (by decide +kernel), lw_w_in (l := lw_tbl) 86 rfl (by decide +kernel) (by decide +kernel), by decide +kernel, by decide +kernel, by decide +kernel⟩
theorem miX10_longest : MI yX10_longest cX10_longest 3 (some .int) 0 := ⟨lw_w_in (l := lw_tbl) 1460 rfl (by decide +kernel) (by decide +kernel), lw_w_in (l := lw_tbl) 86 rfl (by decide +kernel) (by decide +kernel), by decide +kernel, by decide +kernel, by decide +kernel⟩
theorem miX10_losesBy : MI yX10_losesBy cX10_losesBy 5 (some .int) 3 := ⟨lw_w_in (l := lw_tbl) 1548 rfl (by decide +kernel) (by decide +kernel), lw_w_in (l := lw_tbl) 86 rfl (by decide +kernel) (by decide +kernel), by decide +kernel, by decide +kernel, by decide +kernel⟩
theorem miX10_missedNow : MI yX10_missedNow cX10_missedNow 3 (some .int) 0 := ⟨lw_w_in (l := lw_tbl) 1448 rfl (by decide +kernel) (by decide +kernel), lw_w_in (l := lw_tbl) 86 rfl (by decide +kernel) (by decide +kernel), by decide +kernel, by decide +kernel, by decide +kernel⟩
theorem miX10_missesBy : MI yX10_missesBy cX10_missesBy 5 (some .int) 3 := ⟨lw_w_in (l := lw_tbl) 1544 rfl (by decide +kernel) (by decide +kernel), lw_w_in (l := lw_tbl) 86 rfl (by decide +kernel) (by decide +kernel), by decide +kernel, by decide +kernel, by decide +kernel⟩
theorem miX10_missing : MI yX10_missing cX10_missing 4 (some .int) 1 := ⟨lw_w_in (l := lw_tbl) 1335 rfl (by decide +kernel) (by decide +kernel), lw_w_in (l := lw_tbl) 86 rfl (by decide +kernel) (by decide +kernel), by decide +kernel, by decide +kernel, by decide +kernel⟩
theorem miX10_nameOf : MI yX10_nameOf cX10_nameOf 1 (some .int) 1 := ⟨lw_w_in (l := lw_tbl) 1311 rfl (by decide +kernel) (by decide +kernel), lw_w_in (l := lw_tbl) 86 rfl (by decide +kernel) (by decide +kernel), by decide +kernel, by decide +kernel, by decide +kernel⟩
theorem miX10_newOne : MI yX10_newOne cX10_newOne 5 (some .int) 3 := ⟨lw_w_in (l := lw_tbl) 1207 rfl (by decide +kernel) (by decide +kernel), lw_w_in (l := lw_tbl) 86 rfl (by decide +kernel) (by decide +kernel), by decide +kernel, by decide +kernel, by decide +kernel⟩
theorem miX10_noBook : MI yX10_noBook cX10_noBook 3 (some .int) 1 := ⟨lw_w_in (l := lw_tbl) 1468 rfl (by decide +kernel) (by decide +kernel), lw_w_in (l := lw_tbl) 86 rfl (by decide +kernel) (by decide +kernel), by decide +kernel, by decide +kernel, by decide +kernel⟩
theorem miX10_noBytes : MI yX10_noBytes cX10_noBytes 2 (some .int) 1 := ⟨lw_w_in (l := lw_tbl) 1368 rfl (by decide +kernel) (by decide +kernel), lw_w_in (l := lw_tbl) 86 rfl (by decide +kernel) (by decide +kernel), by decide +kernel, by decide +kernel, by decide +kernel⟩
theorem miX10_orders : MI yX10_orders cX10_orders 6 none 3 := ⟨lw_w_in (l := lw_tbl) 1409 rfl (by decide +kernel) (by decide +kernel), lw_w_in (l := lw_tbl) 86 rfl (by decide +kernel) (by decide +kernel), by decide +kernel, by decide +kernel, by decide +kernel⟩
theorem miX10_passes : MI yX10_passes cX10_passes 2 none 0 := ⟨lw_w_in (l := lw_tbl) 1441 rfl (by decide +kernel) (by decide +kernel), lw_w_in (l := lw_tbl) 86 rfl (by decide +kernel) (by decide +kernel), by decide +kernel, by decide +kernel, by decide +kernel⟩
theorem miX10_quiet : MI yX10_quiet cX10_quiet 3 (some .int) 0 := ⟨lw_w_in (l := lw_tbl) 1456 rfl (by decide +kernel) (by decide +kernel), lw_w_in (l := lw_tbl) 86 rfl (by decide +kernel) (by decide +kernel), by decide +kernel, by decide +kernel, by decide +kernel⟩
theorem miX10_ran : MI yX10_ran cX10_ran 2 none 1 := ⟨lw_w_in (l := lw_tbl) 1537 rfl (by decide +kernel) (by decide +kernel), lw_w_in (l := lw_tbl) 86 rfl (by decide +kernel) (by decide +kernel), by decide +kernel, by decide +kernel, by decide +kernel⟩
theorem miX10_sign : MI yX10_sign cX10_sign 1 (some .int) 0 := ⟨lw_w_in (l := lw_tbl) 1304 rfl (by decide +kernel) (by decide +kernel), lw_w_in (l := lw_tbl) 86 rfl (by decide +kernel) (by decide +kernel), by decide +kernel, by decide +kernel, by decide +kernel⟩
theorem miX10_tells : MI yX10_tells cX10_tells 5 (some .int) 3 := ⟨lw_w_in (l := lw_tbl) 1552 rfl (by decide +kernel) (by decide +kernel), lw_w_in (l := lw_tbl) 86 rfl (by decide +kernel) (by decide +kernel), by decide +kernel, by decide +kernel, by decide +kernel⟩
theorem miX10_toldAt : MI yX10_toldAt cX10_toldAt 3 (some .int) 2 := ⟨lw_w_in (l := lw_tbl) 1219 rfl (by decide +kernel) (by decide +kernel), lw_w_in (l := lw_tbl) 86 rfl (by decide +kernel) (by decide +kernel), by decide +kernel, by decide +kernel, by decide +kernel⟩
theorem miX10_turnBy : MI yX10_turnBy cX10_turnBy 11 (some .int) 5 := ⟨lw_w_in (l := lw_tbl) 1484 rfl (by decide +kernel) (by decide +kernel), lw_w_in (l := lw_tbl) 86 rfl (by decide +kernel) (by decide +kernel), by decide +kernel, by decide +kernel, by decide +kernel⟩
theorem miX10_turnFrom : MI yX10_turnFrom cX10_turnFrom 8 (some .int) 4 := ⟨lw_w_in (l := lw_tbl) 1488 rfl (by decide +kernel) (by decide +kernel), lw_w_in (l := lw_tbl) 86 rfl (by decide +kernel) (by decide +kernel), by decide +kernel, by decide +kernel, by decide +kernel⟩
theorem miX10_unlike : MI yX10_unlike cX10_unlike 8 (some .int) 1 := ⟨lw_w_in (l := lw_tbl) 1472 rfl (by decide +kernel) (by decide +kernel), lw_w_in (l := lw_tbl) 86 rfl (by decide +kernel) (by decide +kernel), by decide +kernel, by decide +kernel, by decide +kernel⟩
theorem miX10_winner : MI yX10_winner cX10_winner 6 (some .int) 1 := ⟨lw_w_in (l := lw_tbl) 1360 rfl (by decide +kernel) (by decide +kernel), lw_w_in (l := lw_tbl) 86 rfl (by decide +kernel) (by decide +kernel), by decide +kernel, by decide +kernel, by decide +kernel⟩
theorem miX10_within : MI yX10_within cX10_within 3 (some .boolean) 3 := ⟨lw_w_in (l := lw_tbl) 1199 rfl (by decide +kernel) (by decide +kernel), lw_w_in (l := lw_tbl) 86 rfl (by decide +kernel) (by decide +kernel), by decide +kernel, by decide +kernel, by decide +kernel⟩
theorem miX10_worked : MI yX10_worked cX10_worked 6 (some .int) 2 := ⟨lw_w_in (l := lw_tbl) 1343 rfl (by decide +kernel) (by decide +kernel), lw_w_in (l := lw_tbl) 86 rfl (by decide +kernel) (by decide +kernel), by decide +kernel, by decide +kernel, by decide +kernel⟩
theorem miX10_wouldChange : MI yX10_wouldChange cX10_wouldChange 5 (some .boolean) 3 := ⟨lw_w_in (l := lw_tbl) 1433 rfl (by decide +kernel) (by decide +kernel), lw_w_in (l := lw_tbl) 86 rfl (by decide +kernel) (by decide +kernel), by decide +kernel, by decide +kernel, by decide +kernel⟩
theorem miX10_wouldMiss : MI yX10_wouldMiss cX10_wouldMiss 3 (some .int) 2 := ⟨lw_w_in (l := lw_tbl) 1323 rfl (by decide +kernel) (by decide +kernel), lw_w_in (l := lw_tbl) 86 rfl (by decide +kernel) (by decide +kernel), by decide +kernel, by decide +kernel, by decide +kernel⟩
theorem miX10_yearsOf : MI yX10_yearsOf cX10_yearsOf 5 (some .int) 3 := ⟨lw_w_in (l := lw_tbl) 1331 rfl (by decide +kernel) (by decide +kernel), lw_w_in (l := lw_tbl) 86 rfl (by decide +kernel) (by decide +kernel), by decide +kernel, by decide +kernel, by decide +kernel⟩
theorem miX1_bestOf : MI yX1_bestOf cX1_bestOf 5 (some .long) 1 := ⟨lw_w_in (l := lw_tbl) 778 rfl (by decide +kernel) (by decide +kernel), lw_w_in (l := lw_tbl) 81 rfl (by decide +kernel) (by decide +kernel), by decide +kernel, by decide +kernel, by decide +kernel⟩
theorem miX1_deals : MI yX1_deals cX1_deals 5 none 1 := ⟨lw_w_in (l := lw_tbl) 762 rfl (by decide +kernel) (by decide +kernel), lw_w_in (l := lw_tbl) 81 rfl (by decide +kernel) (by decide +kernel), by decide +kernel, by decide +kernel, by decide +kernel⟩
theorem miX1_share : MI yX1_share cX1_share 2 (some .int) 1 := ⟨lw_w_in (l := lw_tbl) 789 rfl (by decide +kernel) (by decide +kernel), lw_w_in (l := lw_tbl) 81 rfl (by decide +kernel) (by decide +kernel), by decide +kernel, by decide +kernel, by decide +kernel⟩
theorem miX1_total : MI yX1_total cX1_total 1 (some .int) 0 := ⟨lw_w_in (l := lw_tbl) 785 rfl (by decide +kernel) (by decide +kernel), lw_w_in (l := lw_tbl) 81 rfl (by decide +kernel) (by decide +kernel), by decide +kernel, by decide +kernel, by decide +kernel⟩
theorem miX1_weigh : MI yX1_weigh cX1_weigh 7 none 2 := ⟨lw_w_in (l := lw_tbl) 769 rfl (by decide +kernel) (by decide +kernel), lw_w_in (l := lw_tbl) 81 rfl (by decide +kernel) (by decide +kernel), by decide +kernel, by decide +kernel, by decide +kernel⟩
theorem miX2_addBidder : MI yX2_addBidder cX2_addBidder 6 (some .int) 3 := ⟨lw_w_in (l := lw_tbl) 419 rfl (by decide +kernel) (by decide +kernel), lw_w_in (l := lw_tbl) 77 rfl (by decide +kernel) (by decide +kernel), by decide +kernel, by decide +kernel, by decide +kernel⟩
theorem miX2_addThing : MI yX2_addThing cX2_addThing 3 (some .int) 1 := ⟨lw_w_in (l := lw_tbl) 402 rfl (by decide +kernel) (by decide +kernel), lw_w_in (l := lw_tbl) 77 rfl (by decide +kernel) (by decide +kernel), by decide +kernel, by decide +kernel, by decide +kernel⟩
theorem miX2_become : MI yX2_become cX2_become 4 none 3 := ⟨lw_w_in (l := lw_tbl) 406 rfl (by decide +kernel) (by decide +kernel), lw_w_in (l := lw_tbl) 77 rfl (by decide +kernel) (by decide +kernel), by decide +kernel, by decide +kernel, by decide +kernel⟩
theorem miX2_copies : MI yX2_copies cX2_copies 2 none 1 := ⟨lw_w_in (l := lw_tbl) 644 rfl (by decide +kernel) (by decide +kernel), lw_w_in (l := lw_tbl) 77 rfl (by decide +kernel) (by decide +kernel), by decide +kernel, by decide +kernel, by decide +kernel⟩
theorem miX2_has : MI yX2_has cX2_has 3 (some .boolean) 2 := ⟨lw_w_in (l := lw_tbl) 451 rfl (by decide +kernel) (by decide +kernel), lw_w_in (l := lw_tbl) 77 rfl (by decide +kernel) (by decide +kernel), by decide +kernel, by decide +kernel, by decide +kernel⟩
theorem miX2_hasBidder : MI yX2_hasBidder cX2_hasBidder 2 (some .boolean) 1 := ⟨lw_w_in (l := lw_tbl) 459 rfl (by decide +kernel) (by decide +kernel), lw_w_in (l := lw_tbl) 77 rfl (by decide +kernel) (by decide +kernel), by decide +kernel, by decide +kernel, by decide +kernel⟩
theorem miX2_hasThing : MI yX2_hasThing cX2_hasThing 2 (some .boolean) 1 := ⟨lw_w_in (l := lw_tbl) 455 rfl (by decide +kernel) (by decide +kernel), lw_w_in (l := lw_tbl) 77 rfl (by decide +kernel) (by decide +kernel), by decide +kernel, by decide +kernel, by decide +kernel⟩
theorem miX2_missedBits : MI yX2_missedBits cX2_missedBits 3 (some .int) 0 := ⟨lw_w_in (l := lw_tbl) 812 rfl (by decide +kernel) (by decide +kernel), lw_w_in (l := lw_tbl) 77 rfl (by decide +kernel) (by decide +kernel), by decide +kernel, by decide +kernel, by decide +kernel⟩
theorem miX2_missedLongest : MI yX2_missedLongest cX2_missedLongest 4 (some .int) 0 := ⟨lw_w_in (l := lw_tbl) 820 rfl (by decide +kernel) (by decide +kernel), lw_w_in (l := lw_tbl) 77 rfl (by decide +kernel) (by decide +kernel), by decide +kernel, by decide +kernel, by decide +kernel⟩
theorem miX2_number : MI yX2_number cX2_number 3 (some .int) 2 := ⟨lw_w_in (l := lw_tbl) 469 rfl (by decide +kernel) (by decide +kernel), lw_w_in (l := lw_tbl) 77 rfl (by decide +kernel) (by decide +kernel), by decide +kernel, by decide +kernel, by decide +kernel⟩
theorem miX2_yearPasses : MI yX2_yearPasses cX2_yearPasses 3 none 0 := ⟨lw_w_in (l := lw_tbl) 806 rfl (by decide +kernel) (by decide +kernel), lw_w_in (l := lw_tbl) 77 rfl (by decide +kernel) (by decide +kernel), by decide +kernel, by decide +kernel, by decide +kernel⟩
theorem miX3_laysBack : MI yX3_laysBack cX3_laysBack 4 none 2 := ⟨lw_w_in (l := lw_tbl) 917 rfl (by decide +kernel) (by decide +kernel), lw_w_in (l := lw_tbl) 83 rfl (by decide +kernel) (by decide +kernel), by decide +kernel, by decide +kernel, by decide +kernel⟩
theorem miX3_takes : MI yX3_takes cX3_takes 3 none 2 := ⟨lw_w_in (l := lw_tbl) 907 rfl (by decide +kernel) (by decide +kernel), lw_w_in (l := lw_tbl) 83 rfl (by decide +kernel) (by decide +kernel), by decide +kernel, by decide +kernel, by decide +kernel⟩
theorem miX4_comes : MI yX4_comes cX4_comes 2 (some .int) 1 := ⟨lw_w_in (l := lw_tbl) 493 rfl (by decide +kernel) (by decide +kernel), lw_w_in (l := lw_tbl) 78 rfl (by decide +kernel) (by decide +kernel), by decide +kernel, by decide +kernel, by decide +kernel⟩
theorem miX4_emit : MI yX4_emit cX4_emit 2 none 1 := ⟨lw_w_in (l := lw_tbl) 532 rfl (by decide +kernel) (by decide +kernel), lw_w_in (l := lw_tbl) 78 rfl (by decide +kernel) (by decide +kernel), by decide +kernel, by decide +kernel, by decide +kernel⟩
theorem miX4_fromTape : MI yX4_fromTape cX4_fromTape 3 (some .int) 0 := ⟨lw_w_in (l := lw_tbl) 501 rfl (by decide +kernel) (by decide +kernel), lw_w_in (l := lw_tbl) 78 rfl (by decide +kernel) (by decide +kernel), by decide +kernel, by decide +kernel, by decide +kernel⟩
theorem miX4_gives : MI yX4_gives cX4_gives 11 (some .int) 6 := ⟨lw_w_in (l := lw_tbl) 666 rfl (by decide +kernel) (by decide +kernel), lw_w_in (l := lw_tbl) 78 rfl (by decide +kernel) (by decide +kernel), by decide +kernel, by decide +kernel, by decide +kernel⟩
theorem miX4_isDigit : MI yX4_isDigit cX4_isDigit 1 (some .boolean) 1 := ⟨lw_w_in (l := lw_tbl) 524 rfl (by decide +kernel) (by decide +kernel), lw_w_in (l := lw_tbl) 78 rfl (by decide +kernel) (by decide +kernel), by decide +kernel, by decide +kernel, by decide +kernel⟩
theorem miX4_isTapeFull : MI yX4_isTapeFull cX4_isTapeFull 1 (some .boolean) 0 := ⟨lw_w_in (l := lw_tbl) 489 rfl (by decide +kernel) (by decide +kernel), lw_w_in (l := lw_tbl) 78 rfl (by decide +kernel) (by decide +kernel), by decide +kernel, by decide +kernel, by decide +kernel⟩
theorem miX4_next : MI yX4_next cX4_next 1 (some .int) 0 := ⟨lw_w_in (l := lw_tbl) 521 rfl (by decide +kernel) (by decide +kernel), lw_w_in (l := lw_tbl) 78 rfl (by decide +kernel) (by decide +kernel), by decide +kernel, by decide +kernel, by decide +kernel⟩
theorem miX4_rankOf : MI yX4_rankOf cX4_rankOf 1 (some .int) 1 := ⟨lw_w_in (l := lw_tbl) 626 rfl (by decide +kernel) (by decide +kernel), lw_w_in (l := lw_tbl) 78 rfl (by decide +kernel) (by decide +kernel), by decide +kernel, by decide +kernel, by decide +kernel⟩
theorem miX4_readLine : MI yX4_readLine cX4_readLine 2 (some .boolean) 0 := ⟨lw_w_in (l := lw_tbl) 509 rfl (by decide +kernel) (by decide +kernel), lw_w_in (l := lw_tbl) 78 rfl (by decide +kernel) (by decide +kernel), by decide +kernel, by decide +kernel, by decide +kernel⟩
theorem miX4_readLines : MI yX4_readLines cX4_readLines 2 (some .boolean) 0 := ⟨lw_w_in (l := lw_tbl) 505 rfl (by decide +kernel) (by decide +kernel), lw_w_in (l := lw_tbl) 78 rfl (by decide +kernel) (by decide +kernel), by decide +kernel, by decide +kernel, by decide +kernel⟩
theorem miX4_readNumber : MI yX4_readNumber cX4_readNumber 3 (some .boolean) 0 := ⟨lw_w_in (l := lw_tbl) 528 rfl (by decide +kernel) (by decide +kernel), lw_w_in (l := lw_tbl) 78 rfl (by decide +kernel) (by decide +kernel), by decide +kernel, by decide +kernel, by decide +kernel⟩
theorem miX4_readOperand : MI yX4_readOperand cX4_readOperand 4 (some .boolean) 1 := ⟨lw_w_in (l := lw_tbl) 517 rfl (by decide +kernel) (by decide +kernel), lw_w_in (l := lw_tbl) 78 rfl (by decide +kernel) (by decide +kernel), by decide +kernel, by decide +kernel, by decide +kernel⟩
theorem miX4_readRank : MI yX4_readRank cX4_readRank 6 (some .boolean) 2 := ⟨lw_w_in (l := lw_tbl) 513 rfl (by decide +kernel) (by decide +kernel), lw_w_in (l := lw_tbl) 78 rfl (by decide +kernel) (by decide +kernel), by decide +kernel, by decide +kernel, by decide +kernel⟩
theorem miX4_takes : MI yX4_takes cX4_takes 2 (some .boolean) 1 := ⟨lw_w_in (l := lw_tbl) 623 rfl (by decide +kernel) (by decide +kernel), lw_w_in (l := lw_tbl) 78 rfl (by decide +kernel) (by decide +kernel), by decide +kernel, by decide +kernel, by decide +kernel⟩
theorem miX4_worked : MI yX4_worked cX4_worked 3 (some .int) 3 := ⟨lw_w_in (l := lw_tbl) 671 rfl (by decide +kernel) (by decide +kernel), lw_w_in (l := lw_tbl) 78 rfl (by decide +kernel) (by decide +kernel), by decide +kernel, by decide +kernel, by decide +kernel⟩
theorem miX5_acts : MI yX5_acts cX5_acts 4 (some .int) 3 := ⟨lw_w_in (l := lw_tbl) 956 rfl (by decide +kernel) (by decide +kernel), lw_w_in (l := lw_tbl) 84 rfl (by decide +kernel) (by decide +kernel), by decide +kernel, by decide +kernel, by decide +kernel⟩
theorem miX5_add : MI yX5_add cX5_add 3 (some .int) 1 := ⟨lw_w_in (l := lw_tbl) 948 rfl (by decide +kernel) (by decide +kernel), lw_w_in (l := lw_tbl) 84 rfl (by decide +kernel) (by decide +kernel), by decide +kernel, by decide +kernel, by decide +kernel⟩
theorem miX5_has : MI yX5_has cX5_has 2 (some .boolean) 1 := ⟨lw_w_in (l := lw_tbl) 960 rfl (by decide +kernel) (by decide +kernel), lw_w_in (l := lw_tbl) 84 rfl (by decide +kernel) (by decide +kernel), by decide +kernel, by decide +kernel, by decide +kernel⟩
theorem miX5_isFull : MI yX5_isFull cX5_isFull 1 (some .boolean) 0 := ⟨lw_w_in (l := lw_tbl) 944 rfl (by decide +kernel) (by decide +kernel), lw_w_in (l := lw_tbl) 84 rfl (by decide +kernel) (by decide +kernel), by decide +kernel, by decide +kernel, by decide +kernel⟩
theorem miX5_isUnder : MI yX5_isUnder cX5_isUnder 4 (some .boolean) 2 := ⟨lw_w_in (l := lw_tbl) 1046 rfl (by decide +kernel) (by decide +kernel), lw_w_in (l := lw_tbl) 84 rfl (by decide +kernel) (by decide +kernel), by decide +kernel, by decide +kernel, by decide +kernel⟩
theorem miX5_kindOf : MI yX5_kindOf cX5_kindOf 2 (some .int) 1 := ⟨lw_w_in (l := lw_tbl) 1043 rfl (by decide +kernel) (by decide +kernel), lw_w_in (l := lw_tbl) 84 rfl (by decide +kernel) (by decide +kernel), by decide +kernel, by decide +kernel, by decide +kernel⟩
theorem miX5_own : MI yX5_own cX5_own 4 (some .int) 3 := ⟨lw_w_in (l := lw_tbl) 976 rfl (by decide +kernel) (by decide +kernel), lw_w_in (l := lw_tbl) 84 rfl (by decide +kernel) (by decide +kernel), by decide +kernel, by decide +kernel, by decide +kernel⟩
theorem miX5_runBody : MI yX5_runBody cX5_runBody 5 (some .int) 4 := ⟨lw_w_in (l := lw_tbl) 972 rfl (by decide +kernel) (by decide +kernel), lw_w_in (l := lw_tbl) 84 rfl (by decide +kernel) (by decide +kernel), by decide +kernel, by decide +kernel, by decide +kernel⟩
theorem miX5_runs : MI yX5_runs cX5_runs 8 (some .int) 4 := ⟨lw_w_in (l := lw_tbl) 964 rfl (by decide +kernel) (by decide +kernel), lw_w_in (l := lw_tbl) 84 rfl (by decide +kernel) (by decide +kernel), by decide +kernel, by decide +kernel, by decide +kernel⟩
theorem miX5_traced : MI yX5_traced cX5_traced 2 (some .int) 1 := ⟨lw_w_in (l := lw_tbl) 984 rfl (by decide +kernel) (by decide +kernel), lw_w_in (l := lw_tbl) 84 rfl (by decide +kernel) (by decide +kernel), by decide +kernel, by decide +kernel, by decide +kernel⟩
theorem miX6_at : MI yX6_at cX6_at 2 (some .long) 1 := ⟨lw_w_in (l := lw_tbl) 442 rfl (by decide +kernel) (by decide +kernel), lw_w_in (l := lw_tbl) 85 rfl (by decide +kernel) (by decide +kernel), by decide +kernel, by decide +kernel, by decide +kernel⟩
theorem miX6_hasRun : MI yX6_hasRun cX6_hasRun 3 (some .boolean) 2 := ⟨lw_w_in (l := lw_tbl) 434 rfl (by decide +kernel) (by decide +kernel), lw_w_in (l := lw_tbl) 85 rfl (by decide +kernel) (by decide +kernel), by decide +kernel, by decide +kernel, by decide +kernel⟩
theorem miX6_holdLot : MI yX6_holdLot cX6_holdLot 2 none 1 := ⟨lw_w_in (l := lw_tbl) 998 rfl (by decide +kernel) (by decide +kernel), lw_w_in (l := lw_tbl) 85 rfl (by decide +kernel) (by decide +kernel), by decide +kernel, by decide +kernel, by decide +kernel⟩
theorem miX6_holdNothing : MI yX6_holdNothing cX6_holdNothing 1 none 0 := ⟨lw_w_in (l := lw_tbl) 994 rfl (by decide +kernel) (by decide +kernel), lw_w_in (l := lw_tbl) 85 rfl (by decide +kernel) (by decide +kernel), by decide +kernel, by decide +kernel, by decide +kernel⟩
theorem miX6_holdRow : MI yX6_holdRow cX6_holdRow 3 none 2 := ⟨lw_w_in (l := lw_tbl) 1006 rfl (by decide +kernel) (by decide +kernel), lw_w_in (l := lw_tbl) 85 rfl (by decide +kernel) (by decide +kernel), by decide +kernel, by decide +kernel, by decide +kernel⟩
theorem miX6_holdsBytes : MI yX6_holdsBytes cX6_holdsBytes 1 (some .boolean) 0 := ⟨lw_w_in (l := lw_tbl) 430 rfl (by decide +kernel) (by decide +kernel), lw_w_in (l := lw_tbl) 85 rfl (by decide +kernel) (by decide +kernel), by decide +kernel, by decide +kernel, by decide +kernel⟩
theorem miX6_kept : MI yX6_kept cX6_kept 3 (some .long) 1 := ⟨lw_w_in (l := lw_tbl) 1025 rfl (by decide +kernel) (by decide +kernel), lw_w_in (l := lw_tbl) 85 rfl (by decide +kernel) (by decide +kernel), by decide +kernel, by decide +kernel, by decide +kernel⟩
theorem miX6_lay : MI yX6_lay cX6_lay 4 none 2 := ⟨lw_w_in (l := lw_tbl) 1021 rfl (by decide +kernel) (by decide +kernel), lw_w_in (l := lw_tbl) 85 rfl (by decide +kernel) (by decide +kernel), by decide +kernel, by decide +kernel, by decide +kernel⟩
theorem miX6_refusesBytes : MI yX6_refusesBytes cX6_refusesBytes 1 (some .int) 0 := ⟨lw_w_in (l := lw_tbl) 694 rfl (by decide +kernel) (by decide +kernel), lw_w_in (l := lw_tbl) 85 rfl (by decide +kernel) (by decide +kernel), by decide +kernel, by decide +kernel, by decide +kernel⟩
theorem miX7_begin : MI yX7_begin cX7_begin 2 none 1 := ⟨lw_w_in (l := lw_tbl) 640 rfl (by decide +kernel) (by decide +kernel), lw_w_in (l := lw_tbl) 79 rfl (by decide +kernel) (by decide +kernel), by decide +kernel, by decide +kernel, by decide +kernel⟩
theorem miX7_bid : MI yX7_bid cX7_bid 3 (some .int) 1 := ⟨lw_w_in (l := lw_tbl) 677 rfl (by decide +kernel) (by decide +kernel), lw_w_in (l := lw_tbl) 79 rfl (by decide +kernel) (by decide +kernel), by decide +kernel, by decide +kernel, by decide +kernel⟩
theorem miX7_considers : MI yX7_considers cX7_considers 4 none 1 := ⟨lw_w_in (l := lw_tbl) 658 rfl (by decide +kernel) (by decide +kernel), lw_w_in (l := lw_tbl) 79 rfl (by decide +kernel) (by decide +kernel), by decide +kernel, by decide +kernel, by decide +kernel⟩
theorem miX7_firstWrong : MI yX7_firstWrong cX7_firstWrong 5 (some .int) 2 := ⟨lw_w_in (l := lw_tbl) 835 rfl (by decide +kernel) (by decide +kernel), lw_w_in (l := lw_tbl) 79 rfl (by decide +kernel) (by decide +kernel), by decide +kernel, by decide +kernel, by decide +kernel⟩
theorem miX7_lengthOf : MI yX7_lengthOf cX7_lengthOf 4 (some .int) 1 := ⟨lw_w_in (l := lw_tbl) 703 rfl (by decide +kernel) (by decide +kernel), lw_w_in (l := lw_tbl) 79 rfl (by decide +kernel) (by decide +kernel), by decide +kernel, by decide +kernel, by decide +kernel⟩
theorem miX7_misses : MI yX7_misses cX7_misses 6 (some .int) 3 := ⟨lw_w_in (l := lw_tbl) 662 rfl (by decide +kernel) (by decide +kernel), lw_w_in (l := lw_tbl) 79 rfl (by decide +kernel) (by decide +kernel), by decide +kernel, by decide +kernel, by decide +kernel⟩
theorem miX7_restarts : MI yX7_restarts cX7_restarts 4 none 0 := ⟨lw_w_in (l := lw_tbl) 652 rfl (by decide +kernel) (by decide +kernel), lw_w_in (l := lw_tbl) 79 rfl (by decide +kernel) (by decide +kernel), by decide +kernel, by decide +kernel, by decide +kernel⟩
theorem miX7_sellsAll : MI yX7_sellsAll cX7_sellsAll 3 none 1 := ⟨lw_w_in (l := lw_tbl) 699 rfl (by decide +kernel) (by decide +kernel), lw_w_in (l := lw_tbl) 79 rfl (by decide +kernel) (by decide +kernel), by decide +kernel, by decide +kernel, by decide +kernel⟩
theorem miX7_sellsByDraws : MI yX7_sellsByDraws cX7_sellsByDraws 6 (some .int) 3 := ⟨lw_w_in (l := lw_tbl) 876 rfl (by decide +kernel) (by decide +kernel), lw_w_in (l := lw_tbl) 79 rfl (by decide +kernel) (by decide +kernel), by decide +kernel, by decide +kernel, by decide +kernel⟩
theorem miX7_sellsOne : MI yX7_sellsOne cX7_sellsOne 3 (some .int) 1 := ⟨lw_w_in (l := lw_tbl) 709 rfl (by decide +kernel) (by decide +kernel), lw_w_in (l := lw_tbl) 79 rfl (by decide +kernel) (by decide +kernel), by decide +kernel, by decide +kernel, by decide +kernel⟩
theorem miX7_unsellsOne : MI yX7_unsellsOne cX7_unsellsOne 3 none 2 := ⟨lw_w_in (l := lw_tbl) 740 rfl (by decide +kernel) (by decide +kernel), lw_w_in (l := lw_tbl) 79 rfl (by decide +kernel) (by decide +kernel), by decide +kernel, by decide +kernel, by decide +kernel⟩
theorem miX7_varies : MI yX7_varies cX7_varies 5 none 3 := ⟨lw_w_in (l := lw_tbl) 844 rfl (by decide +kernel) (by decide +kernel), lw_w_in (l := lw_tbl) 79 rfl (by decide +kernel) (by decide +kernel), by decide +kernel, by decide +kernel, by decide +kernel⟩
theorem miX7_winner : MI yX7_winner cX7_winner 5 (some .int) 0 := ⟨lw_w_in (l := lw_tbl) 685 rfl (by decide +kernel) (by decide +kernel), lw_w_in (l := lw_tbl) 79 rfl (by decide +kernel) (by decide +kernel), by decide +kernel, by decide +kernel, by decide +kernel⟩
theorem miX7_wouldChange : MI yX7_wouldChange cX7_wouldChange 6 (some .boolean) 2 := ⟨lw_w_in (l := lw_tbl) 798 rfl (by decide +kernel) (by decide +kernel), lw_w_in (l := lw_tbl) 79 rfl (by decide +kernel) (by decide +kernel), by decide +kernel, by decide +kernel, by decide +kernel⟩
theorem miX8_fewestExamined : MI yX8_fewestExamined cX8_fewestExamined 6 (some .int) 1 := ⟨lw_w_in (l := lw_tbl) 752 rfl (by decide +kernel) (by decide +kernel), lw_w_in (l := lw_tbl) 80 rfl (by decide +kernel) (by decide +kernel), by decide +kernel, by decide +kernel, by decide +kernel⟩
theorem miX8_moved : MI yX8_moved cX8_moved 9 (some .int) 4 := ⟨lw_w_in (l := lw_tbl) 859 rfl (by decide +kernel) (by decide +kernel), lw_w_in (l := lw_tbl) 80 rfl (by decide +kernel) (by decide +kernel), by decide +kernel, by decide +kernel, by decide +kernel⟩
theorem miX8_orders : MI yX8_orders cX8_orders 3 (some .int) 2 := ⟨lw_w_in (l := lw_tbl) 729 rfl (by decide +kernel) (by decide +kernel), lw_w_in (l := lw_tbl) 80 rfl (by decide +kernel) (by decide +kernel), by decide +kernel, by decide +kernel, by decide +kernel⟩
theorem miX8_outcome : MI yX8_outcome cX8_outcome 6 (some .int) 3 := ⟨lw_w_in (l := lw_tbl) 866 rfl (by decide +kernel) (by decide +kernel), lw_w_in (l := lw_tbl) 80 rfl (by decide +kernel) (by decide +kernel), by decide +kernel, by decide +kernel, by decide +kernel⟩
theorem miX8_tryOrder : MI yX8_tryOrder cX8_tryOrder 7 none 3 := ⟨lw_w_in (l := lw_tbl) 734 rfl (by decide +kernel) (by decide +kernel), lw_w_in (l := lw_tbl) 80 rfl (by decide +kernel) (by decide +kernel), by decide +kernel, by decide +kernel, by decide +kernel⟩
theorem miX8_turns : MI yX8_turns cX8_turns 7 (some .int) 3 := ⟨lw_w_in (l := lw_tbl) 853 rfl (by decide +kernel) (by decide +kernel), lw_w_in (l := lw_tbl) 80 rfl (by decide +kernel) (by decide +kernel), by decide +kernel, by decide +kernel, by decide +kernel⟩
theorem miX9_areShelves : MI yX9_areShelves cX9_areShelves 1 (some .boolean) 1 := ⟨lw_w_in (l := lw_tbl) 827 rfl (by decide +kernel) (by decide +kernel), lw_w_in (l := lw_tbl) 76 rfl (by decide +kernel) (by decide +kernel), by decide +kernel, by decide +kernel, by decide +kernel⟩
theorem miX9_comesFrom : MI yX9_comesFrom cX9_comesFrom 6 (some .boolean) 2 := ⟨lw_w_in (l := lw_tbl) 438 rfl (by decide +kernel) (by decide +kernel), lw_w_in (l := lw_tbl) 76 rfl (by decide +kernel) (by decide +kernel), by decide +kernel, by decide +kernel, by decide +kernel⟩
theorem miX9_isPair : MI yX9_isPair cX9_isPair 2 (some .boolean) 1 := ⟨lw_w_in (l := lw_tbl) 635 rfl (by decide +kernel) (by decide +kernel), lw_w_in (l := lw_tbl) 76 rfl (by decide +kernel) (by decide +kernel), by decide +kernel, by decide +kernel, by decide +kernel⟩
theorem miX9_isShelf : MI yX9_isShelf cX9_isShelf 1 (some .boolean) 1 := ⟨lw_w_in (l := lw_tbl) 426 rfl (by decide +kernel) (by decide +kernel), lw_w_in (l := lw_tbl) 76 rfl (by decide +kernel) (by decide +kernel), by decide +kernel, by decide +kernel, by decide +kernel⟩
theorem miX9_isWithin : MI yX9_isWithin cX9_isWithin 2 (some .boolean) 2 := ⟨lw_w_in (l := lw_tbl) 413 rfl (by decide +kernel) (by decide +kernel), lw_w_in (l := lw_tbl) 76 rfl (by decide +kernel) (by decide +kernel), by decide +kernel, by decide +kernel, by decide +kernel⟩
theorem miX9_mayBe : MI yX9_mayBe cX9_mayBe 3 (some .boolean) 2 := ⟨lw_w_in (l := lw_tbl) 463 rfl (by decide +kernel) (by decide +kernel), lw_w_in (l := lw_tbl) 76 rfl (by decide +kernel) (by decide +kernel), by decide +kernel, by decide +kernel, by decide +kernel⟩
theorem miX9_refusesBoth : MI yX9_refusesBoth cX9_refusesBoth 3 (some .int) 1 := ⟨lw_w_in (l := lw_tbl) 831 rfl (by decide +kernel) (by decide +kernel), lw_w_in (l := lw_tbl) 76 rfl (by decide +kernel) (by decide +kernel), by decide +kernel, by decide +kernel, by decide +kernel⟩
theorem miX9_refusesElement : MI yX9_refusesElement cX9_refusesElement 3 (some .int) 2 := ⟨lw_w_in (l := lw_tbl) 1017 rfl (by decide +kernel) (by decide +kernel), lw_w_in (l := lw_tbl) 76 rfl (by decide +kernel) (by decide +kernel), by decide +kernel, by decide +kernel, by decide +kernel⟩
theorem mvX0_came : MV yX0_came := ⟨lw_w_in (l := lw_tbl) 472 rfl (by decide +kernel) (by decide +kernel), lw_w_in (l := lw_tbl) 473 rfl (by decide +kernel) (by decide +kernel)⟩
theorem mvX0_remake : MV yX0_remake := ⟨lw_w_in (l := lw_tbl) 934 rfl (by decide +kernel) (by decide +kernel), lw_w_in (l := lw_tbl) 935 rfl (by decide +kernel) (by decide +kernel)⟩
theorem mvX0_unmake : MV yX0_unmake := ⟨lw_w_in (l := lw_tbl) 925 rfl (by decide +kernel) (by decide +kernel), lw_w_in (l := lw_tbl) 926 rfl (by decide +kernel) (by decide +kernel)⟩
theorem mvX10_becomes : MV yX10_becomes := ⟨lw_w_in (l := lw_tbl) 1247 rfl (by decide +kernel) (by decide +kernel), lw_w_in (l := lw_tbl) 30 rfl (by decide +kernel) (by decide +kernel)⟩
theorem mvX10_bidOf : MV yX10_bidOf := ⟨lw_w_in (l := lw_tbl) 1351 rfl (by decide +kernel) (by decide +kernel), lw_w_in (l := lw_tbl) 48 rfl (by decide +kernel) (by decide +kernel)⟩
theorem mvX10_bidsBy : MV yX10_bidsBy := ⟨lw_w_in (l := lw_tbl) 1532 rfl (by decide +kernel) (by decide +kernel), lw_w_in (l := lw_tbl) 69 rfl (by decide +kernel) (by decide +kernel)⟩
theorem mvX10_byLaw : MV yX10_byLaw := ⟨lw_w_in (l := lw_tbl) 1338 rfl (by decide +kernel) (by decide +kernel), lw_w_in (l := lw_tbl) 46 rfl (by decide +kernel) (by decide +kernel)⟩
theorem mvX10_codes : MV yX10_codes := ⟨lw_w_in (l := lw_tbl) 1307 rfl (by decide +kernel) (by decide +kernel), lw_w_in (l := lw_tbl) 40 rfl (by decide +kernel) (by decide +kernel)⟩
theorem mvX10_countOf : MV yX10_countOf := ⟨lw_w_in (l := lw_tbl) 1326 rfl (by decide +kernel) (by decide +kernel), lw_w_in (l := lw_tbl) 43 rfl (by decide +kernel) (by decide +kernel)⟩
theorem mvX10_deals : MV yX10_deals := ⟨lw_w_in (l := lw_tbl) 1424 rfl (by decide +kernel) (by decide +kernel), lw_w_in (l := lw_tbl) 59 rfl (by decide +kernel) (by decide +kernel)⟩
theorem mvX10_forSale : MV yX10_forSale := ⟨lw_w_in (l := lw_tbl) 1403 rfl (by decide +kernel) (by decide +kernel), lw_w_in (l := lw_tbl) 57 rfl (by decide +kernel) (by decide +kernel)⟩
theorem mvX10_get : MV yX10_get := ⟨lw_w_in (l := lw_tbl) 1243 rfl (by decide +kernel) (by decide +kernel), lw_w_in (l := lw_tbl) 29 rfl (by decide +kernel) (by decide +kernel)⟩
theorem mvX10_goes : MV yX10_goes := ⟨lw_w_in (l := lw_tbl) 1379 rfl (by decide +kernel) (by decide +kernel), lw_w_in (l := lw_tbl) 53 rfl (by decide +kernel) (by decide +kernel)⟩
theorem mvX10_is : MV yX10_is := ⟨lw_w_in (l := lw_tbl) 1314 rfl (by decide +kernel) (by decide +kernel), lw_w_in (l := lw_tbl) 41 rfl (by decide +kernel) (by decide +kernel)⟩
theorem mvX10_isA : MV yX10_isA := ⟨lw_w_in (l := lw_tbl) 1279 rfl (by decide +kernel) (by decide +kernel), lw_w_in (l := lw_tbl) 33 rfl (by decide +kernel) (by decide +kernel)⟩
theorem mvX10_isB : MV yX10_isB := ⟨lw_w_in (l := lw_tbl) 1283 rfl (by decide +kernel) (by decide +kernel), lw_w_in (l := lw_tbl) 34 rfl (by decide +kernel) (by decide +kernel)⟩
theorem mvX10_isDigit : MV yX10_isDigit := ⟨lw_w_in (l := lw_tbl) 1299 rfl (by decide +kernel) (by decide +kernel), lw_w_in (l := lw_tbl) 38 rfl (by decide +kernel) (by decide +kernel)⟩
theorem mvX10_isE : MV yX10_isE := ⟨lw_w_in (l := lw_tbl) 1275 rfl (by decide +kernel) (by decide +kernel), lw_w_in (l := lw_tbl) 32 rfl (by decide +kernel) (by decide +kernel)⟩
theorem mvX10_isFit : MV yX10_isFit := ⟨lw_w_in (l := lw_tbl) 1238 rfl (by decide +kernel) (by decide +kernel), lw_w_in (l := lw_tbl) 28 rfl (by decide +kernel) (by decide +kernel)⟩
theorem mvX10_isForSale : MV yX10_isForSale := ⟨lw_w_in (l := lw_tbl) 1383 rfl (by decide +kernel) (by decide +kernel), lw_w_in (l := lw_tbl) 54 rfl (by decide +kernel) (by decide +kernel)⟩
theorem mvX10_isLine : MV yX10_isLine := ⟨lw_w_in (l := lw_tbl) 1271 rfl (by decide +kernel) (by decide +kernel), lw_w_in (l := lw_tbl) 31 rfl (by decide +kernel) (by decide +kernel)⟩
theorem mvX10_isO : MV yX10_isO := ⟨lw_w_in (l := lw_tbl) 1295 rfl (by decide +kernel) (by decide +kernel), lw_w_in (l := lw_tbl) 37 rfl (by decide +kernel) (by decide +kernel)⟩
theorem mvX10_isOf : MV yX10_isOf := ⟨lw_w_in (l := lw_tbl) 1226 rfl (by decide +kernel) (by decide +kernel), lw_w_in (l := lw_tbl) 25 rfl (by decide +kernel) (by decide +kernel)⟩
theorem mvX10_isOne : MV yX10_isOne := ⟨lw_w_in (l := lw_tbl) 1234 rfl (by decide +kernel) (by decide +kernel), lw_w_in (l := lw_tbl) 27 rfl (by decide +kernel) (by decide +kernel)⟩
theorem mvX10_isP : MV yX10_isP := ⟨lw_w_in (l := lw_tbl) 1291 rfl (by decide +kernel) (by decide +kernel), lw_w_in (l := lw_tbl) 36 rfl (by decide +kernel) (by decide +kernel)⟩
theorem mvX10_isRow : MV yX10_isRow := ⟨lw_w_in (l := lw_tbl) 1571 rfl (by decide +kernel) (by decide +kernel), lw_w_in (l := lw_tbl) 74 rfl (by decide +kernel) (by decide +kernel)⟩
theorem mvX10_isS : MV yX10_isS := ⟨lw_w_in (l := lw_tbl) 1287 rfl (by decide +kernel) (by decide +kernel), lw_w_in (l := lw_tbl) 35 rfl (by decide +kernel) (by decide +kernel)⟩
theorem mvX10_isThing : MV yX10_isThing := ⟨lw_w_in (l := lw_tbl) 1230 rfl (by decide +kernel) (by decide +kernel), lw_w_in (l := lw_tbl) 26 rfl (by decide +kernel) (by decide +kernel)⟩
theorem mvX10_keeps : MV yX10_keeps := ⟨lw_w_in (l := lw_tbl) 1375 rfl (by decide +kernel) (by decide +kernel), lw_w_in (l := lw_tbl) 52 rfl (by decide +kernel) (by decide +kernel)⟩
theorem mvX10_laysBack : MV yX10_laysBack := ⟨lw_w_in (l := lw_tbl) 1391 rfl (by decide +kernel) (by decide +kernel), lw_w_in (l := lw_tbl) 56 rfl (by decide +kernel) (by decide +kernel)⟩
theorem mvX10_laysBack_ : MV yX10_laysBack_ := ⟨lw_w_in (l := lw_tbl) 1387 rfl (by decide +kernel) (by decide +kernel), lw_w_in (l := lw_tbl) 55 rfl (by decide +kernel) (by decide +kernel)⟩
theorem mvX10_listed : MV yX10_listed := ⟨lw_w_in (l := lw_tbl) 1371 rfl (by decide +kernel) (by decide +kernel), lw_w_in (l := lw_tbl) 51 rfl (by decide +kernel) (by decide +kernel)⟩
theorem mvX10_longest : MV yX10_longest := ⟨lw_w_in (l := lw_tbl) 1459 rfl (by decide +kernel) (by decide +kernel), lw_w_in (l := lw_tbl) 64 rfl (by decide +kernel) (by decide +kernel)⟩
theorem mvX10_losesBy : MV yX10_losesBy := ⟨lw_w_in (l := lw_tbl) 1547 rfl (by decide +kernel) (by decide +kernel), lw_w_in (l := lw_tbl) 72 rfl (by decide +kernel) (by decide +kernel)⟩
theorem mvX10_missedNow : MV yX10_missedNow := ⟨lw_w_in (l := lw_tbl) 1447 rfl (by decide +kernel) (by decide +kernel), lw_w_in (l := lw_tbl) 62 rfl (by decide +kernel) (by decide +kernel)⟩
theorem mvX10_missesBy : MV yX10_missesBy := ⟨lw_w_in (l := lw_tbl) 1543 rfl (by decide +kernel) (by decide +kernel), lw_w_in (l := lw_tbl) 71 rfl (by decide +kernel) (by decide +kernel)⟩
theorem mvX10_missing : MV yX10_missing := ⟨lw_w_in (l := lw_tbl) 1334 rfl (by decide +kernel) (by decide +kernel), lw_w_in (l := lw_tbl) 45 rfl (by decide +kernel) (by decide +kernel)⟩
theorem mvX10_newOne : MV yX10_newOne := ⟨lw_w_in (l := lw_tbl) 1206 rfl (by decide +kernel) (by decide +kernel), lw_w_in (l := lw_tbl) 23 rfl (by decide +kernel) (by decide +kernel)⟩
theorem mvX10_noBook : MV yX10_noBook := ⟨lw_w_in (l := lw_tbl) 1467 rfl (by decide +kernel) (by decide +kernel), lw_w_in (l := lw_tbl) 65 rfl (by decide +kernel) (by decide +kernel)⟩
theorem mvX10_noBytes : MV yX10_noBytes := ⟨lw_w_in (l := lw_tbl) 1367 rfl (by decide +kernel) (by decide +kernel), lw_w_in (l := lw_tbl) 50 rfl (by decide +kernel) (by decide +kernel)⟩
theorem mvX10_orders : MV yX10_orders := ⟨lw_w_in (l := lw_tbl) 1408 rfl (by decide +kernel) (by decide +kernel), lw_w_in (l := lw_tbl) 58 rfl (by decide +kernel) (by decide +kernel)⟩
theorem mvX10_passes : MV yX10_passes := ⟨lw_w_in (l := lw_tbl) 1440 rfl (by decide +kernel) (by decide +kernel), lw_w_in (l := lw_tbl) 61 rfl (by decide +kernel) (by decide +kernel)⟩
theorem mvX10_quiet : MV yX10_quiet := ⟨lw_w_in (l := lw_tbl) 1455 rfl (by decide +kernel) (by decide +kernel), lw_w_in (l := lw_tbl) 63 rfl (by decide +kernel) (by decide +kernel)⟩
theorem mvX10_ran : MV yX10_ran := ⟨lw_w_in (l := lw_tbl) 1536 rfl (by decide +kernel) (by decide +kernel), lw_w_in (l := lw_tbl) 70 rfl (by decide +kernel) (by decide +kernel)⟩
theorem mvX10_sign : MV yX10_sign := ⟨lw_w_in (l := lw_tbl) 1303 rfl (by decide +kernel) (by decide +kernel), lw_w_in (l := lw_tbl) 39 rfl (by decide +kernel) (by decide +kernel)⟩
theorem mvX10_tells : MV yX10_tells := ⟨lw_w_in (l := lw_tbl) 1551 rfl (by decide +kernel) (by decide +kernel), lw_w_in (l := lw_tbl) 73 rfl (by decide +kernel) (by decide +kernel)⟩
theorem mvX10_toldAt : MV yX10_toldAt := ⟨lw_w_in (l := lw_tbl) 1218 rfl (by decide +kernel) (by decide +kernel), lw_w_in (l := lw_tbl) 24 rfl (by decide +kernel) (by decide +kernel)⟩
theorem mvX10_turnBy : MV yX10_turnBy := ⟨lw_w_in (l := lw_tbl) 1483 rfl (by decide +kernel) (by decide +kernel), lw_w_in (l := lw_tbl) 67 rfl (by decide +kernel) (by decide +kernel)⟩
theorem mvX10_turnFrom : MV yX10_turnFrom := ⟨lw_w_in (l := lw_tbl) 1487 rfl (by decide +kernel) (by decide +kernel), lw_w_in (l := lw_tbl) 68 rfl (by decide +kernel) (by decide +kernel)⟩
theorem mvX10_unlike : MV yX10_unlike := ⟨lw_w_in (l := lw_tbl) 1471 rfl (by decide +kernel) (by decide +kernel), lw_w_in (l := lw_tbl) 66 rfl (by decide +kernel) (by decide +kernel)⟩
theorem mvX10_winner : MV yX10_winner := ⟨lw_w_in (l := lw_tbl) 1359 rfl (by decide +kernel) (by decide +kernel), lw_w_in (l := lw_tbl) 49 rfl (by decide +kernel) (by decide +kernel)⟩
theorem mvX10_worked : MV yX10_worked := ⟨lw_w_in (l := lw_tbl) 1342 rfl (by decide +kernel) (by decide +kernel), lw_w_in (l := lw_tbl) 47 rfl (by decide +kernel) (by decide +kernel)⟩
theorem mvX10_wouldChange : MV yX10_wouldChange := ⟨lw_w_in (l := lw_tbl) 1432 rfl (by decide +kernel) (by decide +kernel), lw_w_in (l := lw_tbl) 60 rfl (by decide +kernel) (by decide +kernel)⟩
theorem mvX10_wouldMiss : MV yX10_wouldMiss := ⟨lw_w_in (l := lw_tbl) 1322 rfl (by decide +kernel) (by decide +kernel), lw_w_in (l := lw_tbl) 42 rfl (by decide +kernel) (by decide +kernel)⟩
theorem mvX10_yearsOf : MV yX10_yearsOf := ⟨lw_w_in (l := lw_tbl) 1330 rfl (by decide +kernel) (by decide +kernel), lw_w_in (l := lw_tbl) 44 rfl (by decide +kernel) (by decide +kernel)⟩
theorem mvX1_bestOf : MV yX1_bestOf := ⟨lw_w_in (l := lw_tbl) 777 rfl (by decide +kernel) (by decide +kernel), lw_w_in (l := lw_tbl) 14 rfl (by decide +kernel) (by decide +kernel)⟩
theorem mvX1_deals : MV yX1_deals := ⟨lw_w_in (l := lw_tbl) 760 rfl (by decide +kernel) (by decide +kernel), lw_w_in (l := lw_tbl) 761 rfl (by decide +kernel) (by decide +kernel)⟩
theorem mvX1_share : MV yX1_share := ⟨lw_w_in (l := lw_tbl) 787 rfl (by decide +kernel) (by decide +kernel), lw_w_in (l := lw_tbl) 788 rfl (by decide +kernel) (by decide +kernel)⟩
theorem mvX1_total : MV yX1_total := ⟨lw_w_in (l := lw_tbl) 783 rfl (by decide +kernel) (by decide +kernel), lw_w_in (l := lw_tbl) 784 rfl (by decide +kernel) (by decide +kernel)⟩
theorem mvX1_weigh : MV yX1_weigh := ⟨lw_w_in (l := lw_tbl) 768 rfl (by decide +kernel) (by decide +kernel), lw_w_in (l := lw_tbl) 13 rfl (by decide +kernel) (by decide +kernel)⟩
theorem mvX2_addBidder : MV yX2_addBidder := ⟨lw_w_in (l := lw_tbl) 417 rfl (by decide +kernel) (by decide +kernel), lw_w_in (l := lw_tbl) 418 rfl (by decide +kernel) (by decide +kernel)⟩
theorem mvX2_addThing : MV yX2_addThing := ⟨lw_w_in (l := lw_tbl) 400 rfl (by decide +kernel) (by decide +kernel), lw_w_in (l := lw_tbl) 401 rfl (by decide +kernel) (by decide +kernel)⟩
theorem mvX2_become : MV yX2_become := ⟨lw_w_in (l := lw_tbl) 404 rfl (by decide +kernel) (by decide +kernel), lw_w_in (l := lw_tbl) 405 rfl (by decide +kernel) (by decide +kernel)⟩
theorem mvX2_copies : MV yX2_copies := ⟨lw_w_in (l := lw_tbl) 642 rfl (by decide +kernel) (by decide +kernel), lw_w_in (l := lw_tbl) 643 rfl (by decide +kernel) (by decide +kernel)⟩
theorem mvX2_has : MV yX2_has := ⟨lw_w_in (l := lw_tbl) 449 rfl (by decide +kernel) (by decide +kernel), lw_w_in (l := lw_tbl) 450 rfl (by decide +kernel) (by decide +kernel)⟩
theorem mvX2_hasBidder : MV yX2_hasBidder := ⟨lw_w_in (l := lw_tbl) 457 rfl (by decide +kernel) (by decide +kernel), lw_w_in (l := lw_tbl) 458 rfl (by decide +kernel) (by decide +kernel)⟩
theorem mvX2_hasThing : MV yX2_hasThing := ⟨lw_w_in (l := lw_tbl) 453 rfl (by decide +kernel) (by decide +kernel), lw_w_in (l := lw_tbl) 454 rfl (by decide +kernel) (by decide +kernel)⟩
theorem mvX2_missedBits : MV yX2_missedBits := ⟨lw_w_in (l := lw_tbl) 810 rfl (by decide +kernel) (by decide +kernel), lw_w_in (l := lw_tbl) 811 rfl (by decide +kernel) (by decide +kernel)⟩
theorem mvX2_missedLongest : MV yX2_missedLongest := ⟨lw_w_in (l := lw_tbl) 818 rfl (by decide +kernel) (by decide +kernel), lw_w_in (l := lw_tbl) 819 rfl (by decide +kernel) (by decide +kernel)⟩
theorem mvX2_number : MV yX2_number := ⟨lw_w_in (l := lw_tbl) 467 rfl (by decide +kernel) (by decide +kernel), lw_w_in (l := lw_tbl) 468 rfl (by decide +kernel) (by decide +kernel)⟩
theorem mvX2_yearPasses : MV yX2_yearPasses := ⟨lw_w_in (l := lw_tbl) 804 rfl (by decide +kernel) (by decide +kernel), lw_w_in (l := lw_tbl) 805 rfl (by decide +kernel) (by decide +kernel)⟩
theorem mvX3_laysBack : MV yX3_laysBack := ⟨lw_w_in (l := lw_tbl) 915 rfl (by decide +kernel) (by decide +kernel), lw_w_in (l := lw_tbl) 916 rfl (by decide +kernel) (by decide +kernel)⟩
theorem mvX3_takes : MV yX3_takes := ⟨lw_w_in (l := lw_tbl) 905 rfl (by decide +kernel) (by decide +kernel), lw_w_in (l := lw_tbl) 906 rfl (by decide +kernel) (by decide +kernel)⟩
theorem mvX4_comes : MV yX4_comes := ⟨lw_w_in (l := lw_tbl) 491 rfl (by decide +kernel) (by decide +kernel), lw_w_in (l := lw_tbl) 492 rfl (by decide +kernel) (by decide +kernel)⟩
theorem mvX4_emit : MV yX4_emit := ⟨lw_w_in (l := lw_tbl) 531 rfl (by decide +kernel) (by decide +kernel), lw_w_in (l := lw_tbl) 8 rfl (by decide +kernel) (by decide +kernel)⟩
theorem mvX4_fromTape : MV yX4_fromTape := ⟨lw_w_in (l := lw_tbl) 499 rfl (by decide +kernel) (by decide +kernel), lw_w_in (l := lw_tbl) 500 rfl (by decide +kernel) (by decide +kernel)⟩
theorem mvX4_gives : MV yX4_gives := ⟨lw_w_in (l := lw_tbl) 664 rfl (by decide +kernel) (by decide +kernel), lw_w_in (l := lw_tbl) 665 rfl (by decide +kernel) (by decide +kernel)⟩
theorem mvX4_isTapeFull : MV yX4_isTapeFull := ⟨lw_w_in (l := lw_tbl) 487 rfl (by decide +kernel) (by decide +kernel), lw_w_in (l := lw_tbl) 488 rfl (by decide +kernel) (by decide +kernel)⟩
theorem mvX4_next : MV yX4_next := ⟨lw_w_in (l := lw_tbl) 520 rfl (by decide +kernel) (by decide +kernel), lw_w_in (l := lw_tbl) 6 rfl (by decide +kernel) (by decide +kernel)⟩
theorem mvX4_readLine : MV yX4_readLine := ⟨lw_w_in (l := lw_tbl) 508 rfl (by decide +kernel) (by decide +kernel), lw_w_in (l := lw_tbl) 3 rfl (by decide +kernel) (by decide +kernel)⟩
theorem mvX4_readLines : MV yX4_readLines := ⟨lw_w_in (l := lw_tbl) 504 rfl (by decide +kernel) (by decide +kernel), lw_w_in (l := lw_tbl) 2 rfl (by decide +kernel) (by decide +kernel)⟩
theorem mvX4_readNumber : MV yX4_readNumber := ⟨lw_w_in (l := lw_tbl) 527 rfl (by decide +kernel) (by decide +kernel), lw_w_in (l := lw_tbl) 7 rfl (by decide +kernel) (by decide +kernel)⟩
theorem mvX4_readOperand : MV yX4_readOperand := ⟨lw_w_in (l := lw_tbl) 516 rfl (by decide +kernel) (by decide +kernel), lw_w_in (l := lw_tbl) 5 rfl (by decide +kernel) (by decide +kernel)⟩
theorem mvX4_readRank : MV yX4_readRank := ⟨lw_w_in (l := lw_tbl) 512 rfl (by decide +kernel) (by decide +kernel), lw_w_in (l := lw_tbl) 4 rfl (by decide +kernel) (by decide +kernel)⟩
theorem mvX4_takes : MV yX4_takes := ⟨lw_w_in (l := lw_tbl) 622 rfl (by decide +kernel) (by decide +kernel), lw_w_in (l := lw_tbl) 9 rfl (by decide +kernel) (by decide +kernel)⟩
theorem mvX5_acts : MV yX5_acts := ⟨lw_w_in (l := lw_tbl) 954 rfl (by decide +kernel) (by decide +kernel), lw_w_in (l := lw_tbl) 955 rfl (by decide +kernel) (by decide +kernel)⟩
theorem mvX5_add : MV yX5_add := ⟨lw_w_in (l := lw_tbl) 946 rfl (by decide +kernel) (by decide +kernel), lw_w_in (l := lw_tbl) 947 rfl (by decide +kernel) (by decide +kernel)⟩
theorem mvX5_has : MV yX5_has := ⟨lw_w_in (l := lw_tbl) 958 rfl (by decide +kernel) (by decide +kernel), lw_w_in (l := lw_tbl) 959 rfl (by decide +kernel) (by decide +kernel)⟩
theorem mvX5_isFull : MV yX5_isFull := ⟨lw_w_in (l := lw_tbl) 942 rfl (by decide +kernel) (by decide +kernel), lw_w_in (l := lw_tbl) 943 rfl (by decide +kernel) (by decide +kernel)⟩
theorem mvX5_kindOf : MV yX5_kindOf := ⟨lw_w_in (l := lw_tbl) 1041 rfl (by decide +kernel) (by decide +kernel), lw_w_in (l := lw_tbl) 1042 rfl (by decide +kernel) (by decide +kernel)⟩
theorem mvX5_own : MV yX5_own := ⟨lw_w_in (l := lw_tbl) 975 rfl (by decide +kernel) (by decide +kernel), lw_w_in (l := lw_tbl) 20 rfl (by decide +kernel) (by decide +kernel)⟩
theorem mvX5_runBody : MV yX5_runBody := ⟨lw_w_in (l := lw_tbl) 971 rfl (by decide +kernel) (by decide +kernel), lw_w_in (l := lw_tbl) 19 rfl (by decide +kernel) (by decide +kernel)⟩
theorem mvX5_runs : MV yX5_runs := ⟨lw_w_in (l := lw_tbl) 963 rfl (by decide +kernel) (by decide +kernel), lw_w_in (l := lw_tbl) 18 rfl (by decide +kernel) (by decide +kernel)⟩
theorem mvX5_traced : MV yX5_traced := ⟨lw_w_in (l := lw_tbl) 982 rfl (by decide +kernel) (by decide +kernel), lw_w_in (l := lw_tbl) 983 rfl (by decide +kernel) (by decide +kernel)⟩
theorem mvX6_at : MV yX6_at := ⟨lw_w_in (l := lw_tbl) 440 rfl (by decide +kernel) (by decide +kernel), lw_w_in (l := lw_tbl) 441 rfl (by decide +kernel) (by decide +kernel)⟩
theorem mvX6_hasRun : MV yX6_hasRun := ⟨lw_w_in (l := lw_tbl) 432 rfl (by decide +kernel) (by decide +kernel), lw_w_in (l := lw_tbl) 433 rfl (by decide +kernel) (by decide +kernel)⟩
theorem mvX6_holdLot : MV yX6_holdLot := ⟨lw_w_in (l := lw_tbl) 996 rfl (by decide +kernel) (by decide +kernel), lw_w_in (l := lw_tbl) 997 rfl (by decide +kernel) (by decide +kernel)⟩
theorem mvX6_holdNothing : MV yX6_holdNothing := ⟨lw_w_in (l := lw_tbl) 992 rfl (by decide +kernel) (by decide +kernel), lw_w_in (l := lw_tbl) 993 rfl (by decide +kernel) (by decide +kernel)⟩
theorem mvX6_holdRow : MV yX6_holdRow := ⟨lw_w_in (l := lw_tbl) 1004 rfl (by decide +kernel) (by decide +kernel), lw_w_in (l := lw_tbl) 1005 rfl (by decide +kernel) (by decide +kernel)⟩
theorem mvX6_holdsBytes : MV yX6_holdsBytes := ⟨lw_w_in (l := lw_tbl) 428 rfl (by decide +kernel) (by decide +kernel), lw_w_in (l := lw_tbl) 429 rfl (by decide +kernel) (by decide +kernel)⟩
theorem mvX6_kept : MV yX6_kept := ⟨lw_w_in (l := lw_tbl) 1024 rfl (by decide +kernel) (by decide +kernel), lw_w_in (l := lw_tbl) 22 rfl (by decide +kernel) (by decide +kernel)⟩
theorem mvX6_lay : MV yX6_lay := ⟨lw_w_in (l := lw_tbl) 1019 rfl (by decide +kernel) (by decide +kernel), lw_w_in (l := lw_tbl) 1020 rfl (by decide +kernel) (by decide +kernel)⟩
theorem mvX6_refusesBytes : MV yX6_refusesBytes := ⟨lw_w_in (l := lw_tbl) 692 rfl (by decide +kernel) (by decide +kernel), lw_w_in (l := lw_tbl) 693 rfl (by decide +kernel) (by decide +kernel)⟩
theorem mvX7_begin : MV yX7_begin := ⟨lw_w_in (l := lw_tbl) 638 rfl (by decide +kernel) (by decide +kernel), lw_w_in (l := lw_tbl) 639 rfl (by decide +kernel) (by decide +kernel)⟩
theorem mvX7_bid : MV yX7_bid := ⟨lw_w_in (l := lw_tbl) 675 rfl (by decide +kernel) (by decide +kernel), lw_w_in (l := lw_tbl) 676 rfl (by decide +kernel) (by decide +kernel)⟩
theorem mvX7_considers : MV yX7_considers := ⟨lw_w_in (l := lw_tbl) 656 rfl (by decide +kernel) (by decide +kernel), lw_w_in (l := lw_tbl) 657 rfl (by decide +kernel) (by decide +kernel)⟩
theorem mvX7_firstWrong : MV yX7_firstWrong := ⟨lw_w_in (l := lw_tbl) 833 rfl (by decide +kernel) (by decide +kernel), lw_w_in (l := lw_tbl) 834 rfl (by decide +kernel) (by decide +kernel)⟩
theorem mvX7_lengthOf : MV yX7_lengthOf := ⟨lw_w_in (l := lw_tbl) 702 rfl (by decide +kernel) (by decide +kernel), lw_w_in (l := lw_tbl) 11 rfl (by decide +kernel) (by decide +kernel)⟩
theorem mvX7_misses : MV yX7_misses := ⟨lw_w_in (l := lw_tbl) 660 rfl (by decide +kernel) (by decide +kernel), lw_w_in (l := lw_tbl) 661 rfl (by decide +kernel) (by decide +kernel)⟩
theorem mvX7_restarts : MV yX7_restarts := ⟨lw_w_in (l := lw_tbl) 650 rfl (by decide +kernel) (by decide +kernel), lw_w_in (l := lw_tbl) 651 rfl (by decide +kernel) (by decide +kernel)⟩
theorem mvX7_sellsAll : MV yX7_sellsAll := ⟨lw_w_in (l := lw_tbl) 697 rfl (by decide +kernel) (by decide +kernel), lw_w_in (l := lw_tbl) 698 rfl (by decide +kernel) (by decide +kernel)⟩
theorem mvX7_sellsByDraws : MV yX7_sellsByDraws := ⟨lw_w_in (l := lw_tbl) 874 rfl (by decide +kernel) (by decide +kernel), lw_w_in (l := lw_tbl) 875 rfl (by decide +kernel) (by decide +kernel)⟩
theorem mvX7_sellsOne : MV yX7_sellsOne := ⟨lw_w_in (l := lw_tbl) 707 rfl (by decide +kernel) (by decide +kernel), lw_w_in (l := lw_tbl) 708 rfl (by decide +kernel) (by decide +kernel)⟩
theorem mvX7_unsellsOne : MV yX7_unsellsOne := ⟨lw_w_in (l := lw_tbl) 738 rfl (by decide +kernel) (by decide +kernel), lw_w_in (l := lw_tbl) 739 rfl (by decide +kernel) (by decide +kernel)⟩
theorem mvX7_varies : MV yX7_varies := ⟨lw_w_in (l := lw_tbl) 842 rfl (by decide +kernel) (by decide +kernel), lw_w_in (l := lw_tbl) 843 rfl (by decide +kernel) (by decide +kernel)⟩
theorem mvX7_winner : MV yX7_winner := ⟨lw_w_in (l := lw_tbl) 683 rfl (by decide +kernel) (by decide +kernel), lw_w_in (l := lw_tbl) 684 rfl (by decide +kernel) (by decide +kernel)⟩
theorem mvX7_wouldChange : MV yX7_wouldChange := ⟨lw_w_in (l := lw_tbl) 796 rfl (by decide +kernel) (by decide +kernel), lw_w_in (l := lw_tbl) 797 rfl (by decide +kernel) (by decide +kernel)⟩
theorem mvX8_fewestExamined : MV yX8_fewestExamined := ⟨lw_w_in (l := lw_tbl) 750 rfl (by decide +kernel) (by decide +kernel), lw_w_in (l := lw_tbl) 751 rfl (by decide +kernel) (by decide +kernel)⟩
theorem mvX8_moved : MV yX8_moved := ⟨lw_w_in (l := lw_tbl) 858 rfl (by decide +kernel) (by decide +kernel), lw_w_in (l := lw_tbl) 16 rfl (by decide +kernel) (by decide +kernel)⟩
theorem mvX8_orders : MV yX8_orders := ⟨lw_w_in (l := lw_tbl) 727 rfl (by decide +kernel) (by decide +kernel), lw_w_in (l := lw_tbl) 728 rfl (by decide +kernel) (by decide +kernel)⟩
theorem mvX8_outcome : MV yX8_outcome := ⟨lw_w_in (l := lw_tbl) 865 rfl (by decide +kernel) (by decide +kernel), lw_w_in (l := lw_tbl) 17 rfl (by decide +kernel) (by decide +kernel)⟩
theorem mvX8_tryOrder : MV yX8_tryOrder := ⟨lw_w_in (l := lw_tbl) 733 rfl (by decide +kernel) (by decide +kernel), lw_w_in (l := lw_tbl) 12 rfl (by decide +kernel) (by decide +kernel)⟩
theorem mvX8_turns : MV yX8_turns := ⟨lw_w_in (l := lw_tbl) 851 rfl (by decide +kernel) (by decide +kernel), lw_w_in (l := lw_tbl) 852 rfl (by decide +kernel) (by decide +kernel)⟩
theorem mvX9_comesFrom : MV yX9_comesFrom := ⟨lw_w_in (l := lw_tbl) 437 rfl (by decide +kernel) (by decide +kernel), lw_w_in (l := lw_tbl) 0 rfl (by decide +kernel) (by decide +kernel)⟩
theorem mvX9_isPair : MV yX9_isPair := ⟨lw_w_in (l := lw_tbl) 634 rfl (by decide +kernel) (by decide +kernel), lw_w_in (l := lw_tbl) 10 rfl (by decide +kernel) (by decide +kernel)⟩
theorem mvX9_mayBe : MV yX9_mayBe := ⟨lw_w_in (l := lw_tbl) 462 rfl (by decide +kernel) (by decide +kernel), lw_w_in (l := lw_tbl) 1 rfl (by decide +kernel) (by decide +kernel)⟩
theorem mvX9_refusesBoth : MV yX9_refusesBoth := ⟨lw_w_in (l := lw_tbl) 830 rfl (by decide +kernel) (by decide +kernel), lw_w_in (l := lw_tbl) 15 rfl (by decide +kernel) (by decide +kernel)⟩
theorem mvX9_refusesElement : MV yX9_refusesElement := ⟨lw_w_in (l := lw_tbl) 1016 rfl (by decide +kernel) (by decide +kernel), lw_w_in (l := lw_tbl) 21 rfl (by decide +kernel) (by decide +kernel)⟩
theorem msJ6_bitCount_0f7a4 : Cond.static yJ6_bitCount_0f7a4 ∈ lw_w := lw_w_in (l := lw_tbl) 721 rfl (by decide +kernel) (by decide +kernel)
theorem msJ7_fill_53178 : Cond.static yJ7_fill_53178 ∈ lw_w := lw_w_in (l := lw_tbl) 647 rfl (by decide +kernel) (by decide +kernel)
theorem msJ7_fill_d0a16 : Cond.static yJ7_fill_d0a16 ∈ lw_w := lw_w_in (l := lw_tbl) 764 rfl (by decide +kernel) (by decide +kernel)
theorem msX10_above : Cond.static yX10_above ∈ lw_w := lw_w_in (l := lw_tbl) 1539 rfl (by decide +kernel) (by decide +kernel)
theorem msX10_both : Cond.static yX10_both ∈ lw_w := lw_w_in (l := lw_tbl) 1345 rfl (by decide +kernel) (by decide +kernel)
theorem msX10_isShelf : Cond.static yX10_isShelf ∈ lw_w := lw_w_in (l := lw_tbl) 1213 rfl (by decide +kernel) (by decide +kernel)
theorem msX10_kept : Cond.static yX10_kept ∈ lw_w := lw_w_in (l := lw_tbl) 1574 rfl (by decide +kernel) (by decide +kernel)
theorem msX10_less : Cond.static yX10_less ∈ lw_w := lw_w_in (l := lw_tbl) 1443 rfl (by decide +kernel) (by decide +kernel)
theorem msX10_nameOf : Cond.static yX10_nameOf ∈ lw_w := lw_w_in (l := lw_tbl) 1310 rfl (by decide +kernel) (by decide +kernel)
theorem msX10_within : Cond.static yX10_within ∈ lw_w := lw_w_in (l := lw_tbl) 1198 rfl (by decide +kernel) (by decide +kernel)
theorem msX4_isDigit : Cond.static yX4_isDigit ∈ lw_w := lw_w_in (l := lw_tbl) 523 rfl (by decide +kernel) (by decide +kernel)
theorem msX4_rankOf : Cond.static yX4_rankOf ∈ lw_w := lw_w_in (l := lw_tbl) 625 rfl (by decide +kernel) (by decide +kernel)
theorem msX4_worked : Cond.static yX4_worked ∈ lw_w := lw_w_in (l := lw_tbl) 670 rfl (by decide +kernel) (by decide +kernel)
theorem msX5_isUnder : Cond.static yX5_isUnder ∈ lw_w := lw_w_in (l := lw_tbl) 1045 rfl (by decide +kernel) (by decide +kernel)
theorem msX9_areShelves : Cond.static yX9_areShelves ∈ lw_w := lw_w_in (l := lw_tbl) 826 rfl (by decide +kernel) (by decide +kernel)
theorem msX9_isShelf : Cond.static yX9_isShelf ∈ lw_w := lw_w_in (l := lw_tbl) 425 rfl (by decide +kernel) (by decide +kernel)
theorem msX9_isWithin : Cond.static yX9_isWithin ∈ lw_w := lw_w_in (l := lw_tbl) 412 rfl (by decide +kernel) (by decide +kernel)
theorem mn_1 : Cond.static Lib.Math.min.name ∈ lw_w := lw_w_in (l := lw_tbl) 566 rfl (by decide +kernel) (by decide +kernel)
theorem mx_1 : Cond.static Lib.Math.max.name ∈ lw_w := lw_w_in (l := lw_tbl) 563 rfl (by decide +kernel) (by decide +kernel)
theorem ml_1 : Cond.static Lib.MathLoose.max_long.x ∈ lw_w := lw_w_in (l := lw_tbl) 780 rfl (by decide +kernel) (by decide +kernel)
theorem mn_2 : Cond.initialized "java/lang/Math" ∈ lw_w := lw_w_in (l := lw_tbl) 90 rfl (by decide +kernel) (by decide +kernel)
theorem mn_3 : Cond.code Lib.Math.min.name Lib.Math.min.code 2 (some .int) ∈ lw_w := lw_w_in (l := lw_tbl) 567 rfl (by decide +kernel) (by decide +kernel)
theorem mx_3 : Cond.code Lib.Math.max.name Lib.Math.max.code 2 (some .int) ∈ lw_w := lw_w_in (l := lw_tbl) 564 rfl (by decide +kernel) (by decide +kernel)
theorem ml_3 : Cond.code Lib.MathLoose.max_long.x Lib.MathLoose.max_long.code 4 (some .long) ∈ lw_w := lw_w_in (l := lw_tbl) 781 rfl (by decide +kernel) (by decide +kernel)
theorem ac_1 : Cond.native arraycopyName ∈ lw_w := lw_w_in (l := lw_tbl) 477 rfl (by decide +kernel) (by decide +kernel)
theorem ac_2 : Cond.static arraycopyName ∈ lw_w := lw_w_in (l := lw_tbl) 476 rfl (by decide +kernel) (by decide +kernel)
theorem ac_3 : Cond.initialized "java/lang/System" ∈ lw_w := lw_w_in (l := lw_tbl) 87 rfl (by decide +kernel) (by decide +kernel)
abbrev stv0 : List Int := [3, 6, 1, 99, 9, 99, 9, 9, 1, 9, 9, 9, 9]
theorem stv0_ok (i : Nat) : ok32 (stv0.getD i 0) := by
  rcases Nat.lt_or_ge i 13 with h | h
  · exact (by decide : ∀ i, i < 13 → (-2147483648 ≤ stv0.getD i 0 ∧ stv0.getD i 0 < 2147483648)) i h
  · have e : stv0.getD i 0 = 0 := by rw [List.getD_eq_getElem?_getD, List.getElem?_eq_none h]; rfl
    rw [e]
    exact ok32_0
abbrev stv1 : List Int := [531441, 59049, 6561, 729, 81, 9, 1]
theorem stv1_ok (i : Nat) : ok64 (stv1.getD i 0) := by
  rcases Nat.lt_or_ge i 7 with h | h
  · exact (by decide : ∀ i, i < 7 → (-9223372036854775808 ≤ stv1.getD i 0 ∧ stv1.getD i 0 < 9223372036854775808)) i h
  · have e : stv1.getD i 0 = 0 := by rw [List.getD_eq_getElem?_getD, List.getElem?_eq_none h]; rfl
    rw [e]
    exact ok64_0
abbrev stv2 : List Int := [-1, 0, 0, 2, 1, 3, 0, 4]
theorem stv2_ok (i : Nat) : ok32 (stv2.getD i 0) := by
  rcases Nat.lt_or_ge i 8 with h | h
  · exact (by decide : ∀ i, i < 8 → (-2147483648 ≤ stv2.getD i 0 ∧ stv2.getD i 0 < 2147483648)) i h
  · have e : stv2.getD i 0 = 0 := by rw [List.getD_eq_getElem?_getD, List.getElem?_eq_none h]; rfl
    rw [e]
    exact ok32_0
abbrev stv3 : List Int := [1, 10, 11, 2, 20, 0, 0, 0, 0, 30, 0, 0, 0, 41, 40, 0, 0, 0, 50, 0, 0, 0, 0, 60, 70, 0, 0, 0, 0, 80, 0, 81]
theorem stv3_ok (i : Nat) : ok32 (stv3.getD i 0) := by
  rcases Nat.lt_or_ge i 32 with h | h
  · exact (by decide : ∀ i, i < 32 → (-2147483648 ≤ stv3.getD i 0 ∧ stv3.getD i 0 < 2147483648)) i h
  · have e : stv3.getD i 0 = 0 := by rw [List.getD_eq_getElem?_getD, List.getElem?_eq_none h]; rfl
    rw [e]
    exact ok32_0
abbrev stv4 : List Int := [2, 0, 1]
theorem stv4_ok (i : Nat) : ok32 (stv4.getD i 0) := by
  rcases Nat.lt_or_ge i 3 with h | h
  · exact (by decide : ∀ i, i < 3 → (-2147483648 ≤ stv4.getD i 0 ∧ stv4.getD i 0 < 2147483648)) i h
  · have e : stv4.getD i 0 = 0 := by rw [List.getD_eq_getElem?_getD, List.getElem?_eq_none h]; rfl
    rw [e]
    exact ok32_0
def DEP : Nat := 200
