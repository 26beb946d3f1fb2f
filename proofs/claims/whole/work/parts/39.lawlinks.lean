/-! The words that the law itself uses. -/
theorem bp_32 : ok32 32 ∧ (Int8.ofInt 32).toInt32 = Int32.ofInt 32 := ⟨⟨by decide, by decide⟩, by decide +kernel⟩
theorem kRL_162 : ok64 4294967295 ∧ Cond.constantLong RL 162 (Int64.ofInt 4294967295) ∈ lw_w := ⟨⟨by decide, by decide⟩, lw_w_in (l := lw_tbl) 1593 rfl (by decide +kernel) (by decide +kernel)⟩
theorem mlRL_13 : ML RL 13 yX9_thing := Or.inl (lw_w_in (l := lw_tbl) 395 rfl (by decide +kernel) (by decide +kernel))
theorem mlRL_17 : ML RL 17 yX10_thing := Or.inl (lw_w_in (l := lw_tbl) 1193 rfl (by decide +kernel) (by decide +kernel))
theorem mlRL_18 : ML RL 18 yX9_bidder := Or.inl (lw_w_in (l := lw_tbl) 407 rfl (by decide +kernel) (by decide +kernel))
theorem mlRL_22 : ML RL 22 yX10_bidder := Or.inl (lw_w_in (l := lw_tbl) 1200 rfl (by decide +kernel) (by decide +kernel))
theorem mlRL_23 : ML RL 23 yX9_bidders := Or.inl (lw_w_in (l := lw_tbl) 420 rfl (by decide +kernel) (by decide +kernel))
theorem mlRL_27 : ML RL 27 yX10_bidders := Or.inl (lw_w_in (l := lw_tbl) 1208 rfl (by decide +kernel) (by decide +kernel))
theorem mlRL_28 : ML RL 28 yX9_mend := Or.inl (lw_w_in (l := lw_tbl) 444 rfl (by decide +kernel) (by decide +kernel))
theorem mlRL_31 : ML RL 31 yX10_mend := Or.inl (lw_w_in (l := lw_tbl) 1220 rfl (by decide +kernel) (by decide +kernel))
theorem mlRL_32 : ML RL 32 yX9_of := Or.inl (lw_w_in (l := lw_tbl) 478 rfl (by decide +kernel) (by decide +kernel))
theorem mlRL_35 : ML RL 35 yX10_of := Or.inl (lw_w_in (l := lw_tbl) 1249 rfl (by decide +kernel) (by decide +kernel))
theorem mlRL_36 : ML RL 36 yX9_feed := Or.inl (lw_w_in (l := lw_tbl) 482 rfl (by decide +kernel) (by decide +kernel))
theorem mlRL_39 : ML RL 39 yX10_feed := Or.inl (lw_w_in (l := lw_tbl) 1261 rfl (by decide +kernel) (by decide +kernel))
theorem mlRL_40 : ML RL 40 yX9_law := Or.inl (lw_w_in (l := lw_tbl) 494 rfl (by decide +kernel) (by decide +kernel))
theorem mlRL_44 : ML RL 44 yX10_law := Or.inl (lw_w_in (l := lw_tbl) 1265 rfl (by decide +kernel) (by decide +kernel))
theorem mlRL_45 : ML RL 45 yX9_years := Or.inl (lw_w_in (l := lw_tbl) 628 rfl (by decide +kernel) (by decide +kernel))
theorem mlRL_48 : ML RL 48 yX10_years := Or.inl (lw_w_in (l := lw_tbl) 1316 rfl (by decide +kernel) (by decide +kernel))
theorem mlRL_49 : ML RL 49 yX9_wins := Or.inl (lw_w_in (l := lw_tbl) 678 rfl (by decide +kernel) (by decide +kernel))
theorem mlRL_52 : ML RL 52 yX10_wins := Or.inl (lw_w_in (l := lw_tbl) 1353 rfl (by decide +kernel) (by decide +kernel))
theorem mlRL_53 : ML RL 53 yX9_sale := Or.inl (lw_w_in (l := lw_tbl) 687 rfl (by decide +kernel) (by decide +kernel))
theorem mlRL_56 : ML RL 56 yX10_sale := Or.inl (lw_w_in (l := lw_tbl) 1361 rfl (by decide +kernel) (by decide +kernel))
theorem mlRL_57 : ML RL 57 yX9_after := Or.inl (lw_w_in (l := lw_tbl) 712 rfl (by decide +kernel) (by decide +kernel))
theorem mlRL_60 : ML RL 60 yX10_after := Or.inl (lw_w_in (l := lw_tbl) 1393 rfl (by decide +kernel) (by decide +kernel))
theorem mlRL_61 : ML RL 61 yX9_bestOrder := Or.inl (lw_w_in (l := lw_tbl) 716 rfl (by decide +kernel) (by decide +kernel))
theorem mlRL_64 : ML RL 64 yX10_bestOrder := Or.inl (lw_w_in (l := lw_tbl) 1397 rfl (by decide +kernel) (by decide +kernel))
theorem mlRL_65 : ML RL 65 yX9_feign := Or.inl (lw_w_in (l := lw_tbl) 741 rfl (by decide +kernel) (by decide +kernel))
theorem mlRL_68 : ML RL 68 yX10_feign := Or.inl (lw_w_in (l := lw_tbl) 1410 rfl (by decide +kernel) (by decide +kernel))
theorem mlRL_69 : ML RL 69 yX9_examined := Or.inl (lw_w_in (l := lw_tbl) 745 rfl (by decide +kernel) (by decide +kernel))
theorem mlRL_72 : ML RL 72 yX10_examined := Or.inl (lw_w_in (l := lw_tbl) 1414 rfl (by decide +kernel) (by decide +kernel))
theorem mlRL_73 : ML RL 73 yX9_dealt := Or.inl (lw_w_in (l := lw_tbl) 755 rfl (by decide +kernel) (by decide +kernel))
theorem mlRL_76 : ML RL 76 yX10_dealt := Or.inl (lw_w_in (l := lw_tbl) 1418 rfl (by decide +kernel) (by decide +kernel))
theorem mlRL_77 : ML RL 77 yX9_hands := Or.inl (lw_w_in (l := lw_tbl) 791 rfl (by decide +kernel) (by decide +kernel))
theorem mlRL_80 : ML RL 80 yX10_hands := Or.inl (lw_w_in (l := lw_tbl) 1426 rfl (by decide +kernel) (by decide +kernel))
theorem mlRL_81 : ML RL 81 yX9_later := Or.inl (lw_w_in (l := lw_tbl) 799 rfl (by decide +kernel) (by decide +kernel))
theorem mlRL_84 : ML RL 84 yX10_later := Or.inl (lw_w_in (l := lw_tbl) 1434 rfl (by decide +kernel) (by decide +kernel))
theorem mlRL_85 : ML RL 85 yX9_missed := Or.inl (lw_w_in (l := lw_tbl) 813 rfl (by decide +kernel) (by decide +kernel))
theorem mlRL_88 : ML RL 88 yX10_missed := Or.inl (lw_w_in (l := lw_tbl) 1449 rfl (by decide +kernel) (by decide +kernel))
theorem mlRL_89 : ML RL 89 yX9_judge := Or.inl (lw_w_in (l := lw_tbl) 821 rfl (by decide +kernel) (by decide +kernel))
theorem mlRL_92 : ML RL 92 yX10_judge := Or.inl (lw_w_in (l := lw_tbl) 1461 rfl (by decide +kernel) (by decide +kernel))
theorem mlRL_93 : ML RL 93 yX9_fits := Or.inl (lw_w_in (l := lw_tbl) 837 rfl (by decide +kernel) (by decide +kernel))
theorem mlRL_96 : ML RL 96 yX10_fits := Or.inl (lw_w_in (l := lw_tbl) 1473 rfl (by decide +kernel) (by decide +kernel))
theorem mlRL_97 : ML RL 97 yX9_byTurns := Or.inl (lw_w_in (l := lw_tbl) 846 rfl (by decide +kernel) (by decide +kernel))
theorem mlRL_101 : ML RL 101 yX10_byTurns := Or.inl (lw_w_in (l := lw_tbl) 1477 rfl (by decide +kernel) (by decide +kernel))
theorem mlRL_102 : ML RL 102 yX9_drawn := Or.inl (lw_w_in (l := lw_tbl) 868 rfl (by decide +kernel) (by decide +kernel))
theorem mlRL_105 : ML RL 105 yX10_drawn := Or.inl (lw_w_in (l := lw_tbl) 1489 rfl (by decide +kernel) (by decide +kernel))
theorem mlRL_106 : ML RL 106 yX9_putUp := Or.inl (lw_w_in (l := lw_tbl) 878 rfl (by decide +kernel) (by decide +kernel))
theorem mlRL_109 : ML RL 109 yX10_putUp := Or.inl (lw_w_in (l := lw_tbl) 1494 rfl (by decide +kernel) (by decide +kernel))
theorem mlRL_110 : ML RL 110 yX9_loses := Or.inl (lw_w_in (l := lw_tbl) 882 rfl (by decide +kernel) (by decide +kernel))
theorem mlRL_113 : ML RL 113 yX10_loses := Or.inl (lw_w_in (l := lw_tbl) 1498 rfl (by decide +kernel) (by decide +kernel))
theorem mlRL_114 : ML RL 114 yX9_slip := Or.inl (lw_w_in (l := lw_tbl) 888 rfl (by decide +kernel) (by decide +kernel))
theorem mlRL_117 : ML RL 117 yX10_slip := Or.inl (lw_w_in (l := lw_tbl) 1502 rfl (by decide +kernel) (by decide +kernel))
theorem mlRL_118 : ML RL 118 yX9_year := Or.inl (lw_w_in (l := lw_tbl) 892 rfl (by decide +kernel) (by decide +kernel))
theorem mlRL_121 : ML RL 121 yX10_year := Or.inl (lw_w_in (l := lw_tbl) 1506 rfl (by decide +kernel) (by decide +kernel))
theorem mlRL_122 : ML RL 122 yX9_led := Or.inl (lw_w_in (l := lw_tbl) 896 rfl (by decide +kernel) (by decide +kernel))
theorem mlRL_125 : ML RL 125 yX10_led := Or.inl (lw_w_in (l := lw_tbl) 1510 rfl (by decide +kernel) (by decide +kernel))
theorem mlRL_126 : ML RL 126 yX9_image := Or.inl (lw_w_in (l := lw_tbl) 900 rfl (by decide +kernel) (by decide +kernel))
theorem mlRL_129 : ML RL 129 yX10_image := Or.inl (lw_w_in (l := lw_tbl) 1514 rfl (by decide +kernel) (by decide +kernel))
theorem mlRL_130 : ML RL 130 yX9_back := Or.inl (lw_w_in (l := lw_tbl) 910 rfl (by decide +kernel) (by decide +kernel))
theorem mlRL_133 : ML RL 133 yX10_back := Or.inl (lw_w_in (l := lw_tbl) 1518 rfl (by decide +kernel) (by decide +kernel))
theorem mlRL_134 : ML RL 134 yX9_undo := Or.inl (lw_w_in (l := lw_tbl) 920 rfl (by decide +kernel) (by decide +kernel))
theorem mlRL_137 : ML RL 137 yX10_undo := Or.inl (lw_w_in (l := lw_tbl) 1253 rfl (by decide +kernel) (by decide +kernel))
theorem mlRL_138 : ML RL 138 yX9_redo := Or.inl (lw_w_in (l := lw_tbl) 929 rfl (by decide +kernel) (by decide +kernel))
theorem mlRL_141 : ML RL 141 yX10_redo := Or.inl (lw_w_in (l := lw_tbl) 1257 rfl (by decide +kernel) (by decide +kernel))
theorem mlRL_142 : ML RL 142 yX9_body := Or.inl (lw_w_in (l := lw_tbl) 937 rfl (by decide +kernel) (by decide +kernel))
theorem mlRL_145 : ML RL 145 yX10_body := Or.inl (lw_w_in (l := lw_tbl) 1522 rfl (by decide +kernel) (by decide +kernel))
theorem mlRL_146 : ML RL 146 yX9_act := Or.inl (lw_w_in (l := lw_tbl) 949 rfl (by decide +kernel) (by decide +kernel))
theorem mlRL_149 : ML RL 149 yX10_act := Or.inl (lw_w_in (l := lw_tbl) 1526 rfl (by decide +kernel) (by decide +kernel))
theorem mlRL_150 : ML RL 150 yX9_trace := Or.inl (lw_w_in (l := lw_tbl) 977 rfl (by decide +kernel) (by decide +kernel))
theorem mlRL_153 : ML RL 153 yX10_trace := Or.inl (lw_w_in (l := lw_tbl) 1553 rfl (by decide +kernel) (by decide +kernel))
theorem mlRL_154 : ML RL 154 yX9_keep := Or.inl (lw_w_in (l := lw_tbl) 986 rfl (by decide +kernel) (by decide +kernel))
theorem mlRL_157 : ML RL 157 yX10_keep := Or.inl (lw_w_in (l := lw_tbl) 1557 rfl (by decide +kernel) (by decide +kernel))
theorem mlRL_158 : ML RL 158 yX9_row := Or.inl (lw_w_in (l := lw_tbl) 999 rfl (by decide +kernel) (by decide +kernel))
theorem mlRL_161 : ML RL 161 yX10_row := Or.inl (lw_w_in (l := lw_tbl) 1561 rfl (by decide +kernel) (by decide +kernel))
theorem mlRL_164 : ML RL 164 yX9_put := Or.inl (lw_w_in (l := lw_tbl) 1010 rfl (by decide +kernel) (by decide +kernel))
theorem mlRL_168 : ML RL 168 yX10_put := Or.inl (lw_w_in (l := lw_tbl) 1565 rfl (by decide +kernel) (by decide +kernel))
theorem mlRL_169 : ML RL 169 yX9_element := Or.inl (lw_w_in (l := lw_tbl) 1026 rfl (by decide +kernel) (by decide +kernel))
theorem mlRL_173 : ML RL 173 yX10_element := Or.inl (lw_w_in (l := lw_tbl) 1576 rfl (by decide +kernel) (by decide +kernel))
theorem mlRL_174 : ML RL 174 yX9_shift := Or.inl (lw_w_in (l := lw_tbl) 1031 rfl (by decide +kernel) (by decide +kernel))
theorem mlRL_178 : ML RL 178 yX10_shift := Or.inl (lw_w_in (l := lw_tbl) 1581 rfl (by decide +kernel) (by decide +kernel))
theorem mlRL_179 : ML RL 179 yX9_taken := Or.inl (lw_w_in (l := lw_tbl) 1036 rfl (by decide +kernel) (by decide +kernel))
theorem mlRL_182 : ML RL 182 yX10_taken := Or.inl (lw_w_in (l := lw_tbl) 1585 rfl (by decide +kernel) (by decide +kernel))
theorem mlRL_183 : ML RL 183 yX9_count := Or.inl (lw_w_in (l := lw_tbl) 1047 rfl (by decide +kernel) (by decide +kernel))
theorem mlRL_186 : ML RL 186 yX10_count := Or.inl (lw_w_in (l := lw_tbl) 1589 rfl (by decide +kernel) (by decide +kernel))
theorem miX10_act : MI yX10_act cX10_act 5 (some .int) 3 := ⟨lw_w_in (l := lw_tbl) 1529 rfl (by decide +kernel) (by decide +kernel), lw_w_in (l := lw_tbl) 86 rfl (by decide +kernel) (by decide +kernel), by decide +kernel, by decide +kernel, by decide +kernel⟩
theorem miX10_after : MI yX10_after cX10_after 10 (some .int) 3 := ⟨lw_w_in (l := lw_tbl) 1396 rfl (by decide +kernel) (by decide +kernel), lw_w_in (l := lw_tbl) 86 rfl (by decide +kernel) (by decide +kernel), by decide +kernel, by decide +kernel, by decide +kernel⟩
theorem miX10_back : MI yX10_back cX10_back 2 (some .int) 0 := ⟨lw_w_in (l := lw_tbl) 1521 rfl (by decide +kernel) (by decide +kernel), lw_w_in (l := lw_tbl) 86 rfl (by decide +kernel) (by decide +kernel), by decide +kernel, by decide +kernel, by decide +kernel⟩
theorem miX10_bestOrder : MI yX10_bestOrder cX10_bestOrder 4 (some .int) 2 := ⟨lw_w_in (l := lw_tbl) 1400 rfl (by decide +kernel) (by decide +kernel), lw_w_in (l := lw_tbl) 86 rfl (by decide +kernel) (by decide +kernel), by decide +kernel, by decide +kernel, by decide +kernel⟩
theorem miX10_bidder : MI yX10_bidder cX10_bidder 3 (some .int) 2 := ⟨lw_w_in (l := lw_tbl) 1203 rfl (by decide +kernel) (by decide +kernel), lw_w_in (l := lw_tbl) 86 rfl (by decide +kernel) (by decide +kernel), by decide +kernel, by decide +kernel, by decide +kernel⟩
theorem miX10_bidders : MI yX10_bidders cX10_bidders 9 (some .int) 3 := ⟨lw_w_in (l := lw_tbl) 1211 rfl (by decide +kernel) (by decide +kernel), lw_w_in (l := lw_tbl) 86 rfl (by decide +kernel) (by decide +kernel), by decide +kernel, by decide +kernel, by decide +kernel⟩
theorem miX10_body : MI yX10_body cX10_body 2 (some .int) 1 := ⟨lw_w_in (l := lw_tbl) 1525 rfl (by decide +kernel) (by decide +kernel), lw_w_in (l := lw_tbl) 86 rfl (by decide +kernel) (by decide +kernel), by decide +kernel, by decide +kernel, by decide +kernel⟩
theorem miX10_byTurns : MI yX10_byTurns cX10_byTurns 9 (some .int) 4 := ⟨lw_w_in (l := lw_tbl) 1480 rfl (by decide +kernel) (by decide +kernel), lw_w_in (l := lw_tbl) 86 rfl (by decide +kernel) (by decide +kernel), by decide +kernel, by decide +kernel, by decide +kernel⟩
theorem miX10_count : MI yX10_count cX10_count 2 (some .int) 1 := ⟨lw_w_in (l := lw_tbl) 1592 rfl (by decide +kernel) (by decide +kernel), lw_w_in (l := lw_tbl) 86 rfl (by decide +kernel) (by decide +kernel), by decide +kernel, by decide +kernel, by decide +kernel⟩
theorem miX10_dealt : MI yX10_dealt cX10_dealt 2 (some .int) 1 := ⟨lw_w_in (l := lw_tbl) 1421 rfl (by decide +kernel) (by decide +kernel), lw_w_in (l := lw_tbl) 86 rfl (by decide +kernel) (by decide +kernel), by decide +kernel, by decide +kernel, by decide +kernel⟩
theorem miX10_drawn : MI yX10_drawn cX10_drawn 12 (some .int) 4 := ⟨lw_w_in (l := lw_tbl) 1492 rfl (by decide +kernel) (by decide +kernel), lw_w_in (l := lw_tbl) 86 rfl (by decide +kernel) (by decide +kernel), by decide +kernel, by decide +kernel, by decide +kernel⟩
theorem miX10_element : MI yX10_element cX10_element 3 (some .long) 2 := ⟨lw_w_in (l := lw_tbl) 1579 rfl (by decide +kernel) (by decide +kernel), lw_w_in (l := lw_tbl) 86 rfl (by decide +kernel) (by decide +kernel), by decide +kernel, by decide +kernel, by decide +kernel⟩
theorem miX10_examined : MI yX10_examined cX10_examined 6 (some .int) 2 := ⟨lw_w_in (l := lw_tbl) 1417 rfl (by decide +kernel) (by decide +kernel), lw_w_in (l := lw_tbl) 86 rfl (by decide +kernel) (by decide +kernel), by decide +kernel, by decide +kernel, by decide +kernel⟩
theorem miX10_feed : MI yX10_feed cX10_feed 2 (some .int) 1 := ⟨lw_w_in (l := lw_tbl) 1264 rfl (by decide +kernel) (by decide +kernel), lw_w_in (l := lw_tbl) 86 rfl (by decide +kernel) (by decide +kernel), by decide +kernel, by decide +kernel, by decide +kernel⟩
theorem miX10_feign : MI yX10_feign cX10_feign 6 (some .int) 1 := ⟨lw_w_in (l := lw_tbl) 1413 rfl (by decide +kernel) (by decide +kernel), lw_w_in (l := lw_tbl) 86 rfl (by decide +kernel) (by decide +kernel), by decide +kernel, by decide +kernel, by decide +kernel⟩
theorem miX10_fits : MI yX10_fits cX10_fits 10 (some .int) 3 := ⟨lw_w_in (l := lw_tbl) 1476 rfl (by decide +kernel) (by decide +kernel), lw_w_in (l := lw_tbl) 86 rfl (by decide +kernel) (by decide +kernel), by decide +kernel, by decide +kernel, by decide +kernel⟩
theorem miX10_hands : MI yX10_hands cX10_hands 4 (some .int) 0 := ⟨lw_w_in (l := lw_tbl) 1429 rfl (by decide +kernel) (by decide +kernel), lw_w_in (l := lw_tbl) 86 rfl (by decide +kernel) (by decide +kernel), by decide +kernel, by decide +kernel, by decide +kernel⟩
theorem miX10_image : MI yX10_image cX10_image 2 (some .int) 0 := ⟨lw_w_in (l := lw_tbl) 1517 rfl (by decide +kernel) (by decide +kernel), lw_w_in (l := lw_tbl) 86 rfl (by decide +kernel) (by decide +kernel), by decide +kernel, by decide +kernel, by decide +kernel⟩
theorem miX10_judge : MI yX10_judge cX10_judge 3 (some .int) 1 := ⟨lw_w_in (l := lw_tbl) 1464 rfl (by decide +kernel) (by decide +kernel), lw_w_in (l := lw_tbl) 86 rfl (by decide +kernel) (by decide +kernel), by decide +kernel, by decide +kernel, by decide +kernel⟩
theorem miX10_keep : MI yX10_keep cX10_keep 3 (some .int) 2 := ⟨lw_w_in (l := lw_tbl) 1560 rfl (by decide +kernel) (by decide +kernel), lw_w_in (l := lw_tbl) 86 rfl (by decide +kernel) (by decide +kernel), by decide +kernel, by decide +kernel, by decide +kernel⟩
theorem miX10_later : MI yX10_later cX10_later 5 (some .int) 3 := ⟨lw_w_in (l := lw_tbl) 1437 rfl (by decide +kernel) (by decide +kernel), lw_w_in (l := lw_tbl) 86 rfl (by decide +kernel) (by decide +kernel), by decide +kernel, by decide +kernel, by decide +kernel⟩
theorem miX10_law : MI yX10_law cX10_law 4 (some .int) 0 := ⟨lw_w_in (l := lw_tbl) 1268 rfl (by decide +kernel) (by decide +kernel), lw_w_in (l := lw_tbl) 86 rfl (by decide +kernel) (by decide +kernel), by decide +kernel, by decide +kernel, by decide +kernel⟩
theorem miX10_led : MI yX10_led cX10_led 2 (some .int) 1 := ⟨lw_w_in (l := lw_tbl) 1513 rfl (by decide +kernel) (by decide +kernel), lw_w_in (l := lw_tbl) 86 rfl (by decide +kernel) (by decide +kernel), by decide +kernel, by decide +kernel, by decide +kernel⟩
theorem miX10_loses : MI yX10_loses cX10_loses 3 (some .int) 1 := ⟨lw_w_in (l := lw_tbl) 1501 rfl (by decide +kernel) (by decide +kernel), lw_w_in (l := lw_tbl) 86 rfl (by decide +kernel) (by decide +kernel), by decide +kernel, by decide +kernel, by decide +kernel⟩
theorem miX10_mend : MI yX10_mend cX10_mend 6 (some .int) 3 := ⟨lw_w_in (l := lw_tbl) 1223 rfl (by decide +kernel) (by decide +kernel), lw_w_in (l := lw_tbl) 86 rfl (by decide +kernel) (by decide +kernel), by decide +kernel, by decide +kernel, by decide +kernel⟩
theorem miX10_missed : MI yX10_missed cX10_missed 2 (some .int) 1 := ⟨lw_w_in (l := lw_tbl) 1452 rfl (by decide +kernel) (by decide +kernel), lw_w_in (l := lw_tbl) 86 rfl (by decide +kernel) (by decide +kernel), by decide +kernel, by decide +kernel, by decide +kernel⟩
theorem miX10_of : MI yX10_of cX10_of 3 (some .int) 2 := ⟨lw_w_in (l := lw_tbl) 1252 rfl (by decide +kernel) (by decide +kernel), lw_w_in (l := lw_tbl) 86 rfl (by decide +kernel) (by decide +kernel), by decide +kernel, by decide +kernel, by decide +kernel⟩
theorem miX10_put : MI yX10_put cX10_put 5 (some .int) 3 := ⟨lw_w_in (l := lw_tbl) 1568 rfl (by decide +kernel) (by decide +kernel), lw_w_in (l := lw_tbl) 86 rfl (by decide +kernel) (by decide +kernel), by decide +kernel, by decide +kernel, by decide +kernel⟩
theorem miX10_putUp : MI yX10_putUp cX10_putUp 3 (some .int) 1 := ⟨lw_w_in (l := lw_tbl) 1497 rfl (by decide +kernel) (by decide +kernel), lw_w_in (l := lw_tbl) 86 rfl (by decide +kernel) (by decide +kernel), by decide +kernel, by decide +kernel, by decide +kernel⟩
theorem miX10_redo : MI yX10_redo cX10_redo 1 (some .int) 0 := ⟨lw_w_in (l := lw_tbl) 1260 rfl (by decide +kernel) (by decide +kernel), lw_w_in (l := lw_tbl) 86 rfl (by decide +kernel) (by decide +kernel), by decide +kernel, by decide +kernel, by decide +kernel⟩
theorem miX10_row : MI yX10_row cX10_row 5 (some .int) 3 := ⟨lw_w_in (l := lw_tbl) 1564 rfl (by decide +kernel) (by decide +kernel), lw_w_in (l := lw_tbl) 86 rfl (by decide +kernel) (by decide +kernel), by decide +kernel, by decide +kernel, by decide +kernel⟩
theorem miX10_sale : MI yX10_sale cX10_sale 6 (some .int) 2 := ⟨lw_w_in (l := lw_tbl) 1364 rfl (by decide +kernel) (by decide +kernel), lw_w_in (l := lw_tbl) 86 rfl (by decide +kernel) (by decide +kernel), by decide +kernel, by decide +kernel, by decide +kernel⟩
theorem miX10_shift : MI yX10_shift cX10_shift 7 (some .int) 5 := ⟨lw_w_in (l := lw_tbl) 1584 rfl (by decide +kernel) (by decide +kernel), lw_w_in (l := lw_tbl) 86 rfl (by decide +kernel) (by decide +kernel), by decide +kernel, by decide +kernel, by decide +kernel⟩
theorem miX10_slip : MI yX10_slip cX10_slip 4 (some .int) 2 := ⟨lw_w_in (l := lw_tbl) 1505 rfl (by decide +kernel) (by decide +kernel), lw_w_in (l := lw_tbl) 86 rfl (by decide +kernel) (by decide +kernel), by decide +kernel, by decide +kernel, by decide +kernel⟩
theorem miX10_taken : MI yX10_taken cX10_taken 5 (some .int) 2 := ⟨lw_w_in (l := lw_tbl) 1588 rfl (by decide +kernel) (by decide +kernel), lw_w_in (l := lw_tbl) 86 rfl (by decide +kernel) (by decide +kernel), by decide +kernel, by decide +kernel, by decide +kernel⟩
theorem miX10_thing : MI yX10_thing cX10_thing 2 (some .int) 1 := ⟨lw_w_in (l := lw_tbl) 1196 rfl (by decide +kernel) (by decide +kernel), lw_w_in (l := lw_tbl) 86 rfl (by decide +kernel) (by decide +kernel), by decide +kernel, by decide +kernel, by decide +kernel⟩
theorem miX10_trace : MI yX10_trace cX10_trace 2 (some .int) 1 := ⟨lw_w_in (l := lw_tbl) 1556 rfl (by decide +kernel) (by decide +kernel), lw_w_in (l := lw_tbl) 86 rfl (by decide +kernel) (by decide +kernel), by decide +kernel, by decide +kernel, by decide +kernel⟩
theorem miX10_undo : MI yX10_undo cX10_undo 1 (some .int) 0 := ⟨lw_w_in (l := lw_tbl) 1256 rfl (by decide +kernel) (by decide +kernel), lw_w_in (l := lw_tbl) 86 rfl (by decide +kernel) (by decide +kernel), by decide +kernel, by decide +kernel, by decide +kernel⟩
theorem miX10_wins : MI yX10_wins cX10_wins 2 (some .int) 1 := ⟨lw_w_in (l := lw_tbl) 1356 rfl (by decide +kernel) (by decide +kernel), lw_w_in (l := lw_tbl) 86 rfl (by decide +kernel) (by decide +kernel), by decide +kernel, by decide +kernel, by decide +kernel⟩
theorem miX10_year : MI yX10_year cX10_year 1 (some .int) 0 := ⟨lw_w_in (l := lw_tbl) 1509 rfl (by decide +kernel) (by decide +kernel), lw_w_in (l := lw_tbl) 86 rfl (by decide +kernel) (by decide +kernel), by decide +kernel, by decide +kernel, by decide +kernel⟩
theorem miX10_years : MI yX10_years cX10_years 3 (some .int) 2 := ⟨lw_w_in (l := lw_tbl) 1319 rfl (by decide +kernel) (by decide +kernel), lw_w_in (l := lw_tbl) 86 rfl (by decide +kernel) (by decide +kernel), by decide +kernel, by decide +kernel, by decide +kernel⟩
theorem miX9_act : MI yX9_act cX9_act 4 (some .int) 3 := ⟨lw_w_in (l := lw_tbl) 952 rfl (by decide +kernel) (by decide +kernel), lw_w_in (l := lw_tbl) 76 rfl (by decide +kernel) (by decide +kernel), by decide +kernel, by decide +kernel, by decide +kernel⟩
theorem miX9_after : MI yX9_after cX9_after 6 (some .int) 3 := ⟨lw_w_in (l := lw_tbl) 715 rfl (by decide +kernel) (by decide +kernel), lw_w_in (l := lw_tbl) 76 rfl (by decide +kernel) (by decide +kernel), by decide +kernel, by decide +kernel, by decide +kernel⟩
theorem miX9_back : MI yX9_back cX9_back 1 (some .int) 0 := ⟨lw_w_in (l := lw_tbl) 913 rfl (by decide +kernel) (by decide +kernel), lw_w_in (l := lw_tbl) 76 rfl (by decide +kernel) (by decide +kernel), by decide +kernel, by decide +kernel, by decide +kernel⟩
theorem miX9_bestOrder : MI yX9_bestOrder cX9_bestOrder 5 (some .int) 2 := ⟨lw_w_in (l := lw_tbl) 719 rfl (by decide +kernel) (by decide +kernel), lw_w_in (l := lw_tbl) 76 rfl (by decide +kernel) (by decide +kernel), by decide +kernel, by decide +kernel, by decide +kernel⟩
theorem miX9_bidder : MI yX9_bidder cX9_bidder 3 (some .int) 2 := ⟨lw_w_in (l := lw_tbl) 410 rfl (by decide +kernel) (by decide +kernel), lw_w_in (l := lw_tbl) 76 rfl (by decide +kernel) (by decide +kernel), by decide +kernel, by decide +kernel, by decide +kernel⟩
theorem miX9_bidders : MI yX9_bidders cX9_bidders 7 (some .int) 3 := ⟨lw_w_in (l := lw_tbl) 423 rfl (by decide +kernel) (by decide +kernel), lw_w_in (l := lw_tbl) 76 rfl (by decide +kernel) (by decide +kernel), by decide +kernel, by decide +kernel, by decide +kernel⟩
theorem miX9_body : MI yX9_body cX9_body 2 (some .int) 1 := ⟨lw_w_in (l := lw_tbl) 940 rfl (by decide +kernel) (by decide +kernel), lw_w_in (l := lw_tbl) 76 rfl (by decide +kernel) (by decide +kernel), by decide +kernel, by decide +kernel, by decide +kernel⟩
theorem miX9_byTurns : MI yX9_byTurns cX9_byTurns 6 (some .int) 4 := ⟨lw_w_in (l := lw_tbl) 849 rfl (by decide +kernel) (by decide +kernel), lw_w_in (l := lw_tbl) 76 rfl (by decide +kernel) (by decide +kernel), by decide +kernel, by decide +kernel, by decide +kernel⟩
theorem miX9_count : MI yX9_count cX9_count 2 (some .int) 1 := ⟨lw_w_in (l := lw_tbl) 1050 rfl (by decide +kernel) (by decide +kernel), lw_w_in (l := lw_tbl) 76 rfl (by decide +kernel) (by decide +kernel), by decide +kernel, by decide +kernel, by decide +kernel⟩
theorem miX9_dealt : MI yX9_dealt cX9_dealt 2 (some .int) 1 := ⟨lw_w_in (l := lw_tbl) 758 rfl (by decide +kernel) (by decide +kernel), lw_w_in (l := lw_tbl) 76 rfl (by decide +kernel) (by decide +kernel), by decide +kernel, by decide +kernel, by decide +kernel⟩
theorem miX9_drawn : MI yX9_drawn cX9_drawn 10 (some .int) 4 := ⟨lw_w_in (l := lw_tbl) 871 rfl (by decide +kernel) (by decide +kernel), lw_w_in (l := lw_tbl) 76 rfl (by decide +kernel) (by decide +kernel), by decide +kernel, by decide +kernel, by decide +kernel⟩
theorem miX9_element : MI yX9_element cX9_element 3 (some .long) 2 := ⟨lw_w_in (l := lw_tbl) 1029 rfl (by decide +kernel) (by decide +kernel), lw_w_in (l := lw_tbl) 76 rfl (by decide +kernel) (by decide +kernel), by decide +kernel, by decide +kernel, by decide +kernel⟩
theorem miX9_examined : MI yX9_examined cX9_examined 4 (some .int) 2 := ⟨lw_w_in (l := lw_tbl) 748 rfl (by decide +kernel) (by decide +kernel), lw_w_in (l := lw_tbl) 76 rfl (by decide +kernel) (by decide +kernel), by decide +kernel, by decide +kernel, by decide +kernel⟩
theorem miX9_feed : MI yX9_feed cX9_feed 2 (some .int) 1 := ⟨lw_w_in (l := lw_tbl) 485 rfl (by decide +kernel) (by decide +kernel), lw_w_in (l := lw_tbl) 76 rfl (by decide +kernel) (by decide +kernel), by decide +kernel, by decide +kernel, by decide +kernel⟩
theorem miX9_feign : MI yX9_feign cX9_feign 4 (some .int) 1 := ⟨lw_w_in (l := lw_tbl) 744 rfl (by decide +kernel) (by decide +kernel), lw_w_in (l := lw_tbl) 76 rfl (by decide +kernel) (by decide +kernel), by decide +kernel, by decide +kernel, by decide +kernel⟩
theorem miX9_fits : MI yX9_fits cX9_fits 9 (some .int) 3 := ⟨lw_w_in (l := lw_tbl) 840 rfl (by decide +kernel) (by decide +kernel), lw_w_in (l := lw_tbl) 76 rfl (by decide +kernel) (by decide +kernel), by decide +kernel, by decide +kernel, by decide +kernel⟩
theorem miX9_hands : MI yX9_hands cX9_hands 4 (some .int) 0 := ⟨lw_w_in (l := lw_tbl) 794 rfl (by decide +kernel) (by decide +kernel), lw_w_in (l := lw_tbl) 76 rfl (by decide +kernel) (by decide +kernel), by decide +kernel, by decide +kernel, by decide +kernel⟩
theorem miX9_image : MI yX9_image cX9_image 1 (some .int) 0 := ⟨lw_w_in (l := lw_tbl) 903 rfl (by decide +kernel) (by decide +kernel), lw_w_in (l := lw_tbl) 76 rfl (by decide +kernel) (by decide +kernel), by decide +kernel, by decide +kernel, by decide +kernel⟩
theorem miX9_judge : MI yX9_judge cX9_judge 3 (some .int) 1 := ⟨lw_w_in (l := lw_tbl) 824 rfl (by decide +kernel) (by decide +kernel), lw_w_in (l := lw_tbl) 76 rfl (by decide +kernel) (by decide +kernel), by decide +kernel, by decide +kernel, by decide +kernel⟩
theorem miX9_keep : MI yX9_keep cX9_keep 3 (some .int) 2 := ⟨lw_w_in (l := lw_tbl) 989 rfl (by decide +kernel) (by decide +kernel), lw_w_in (l := lw_tbl) 76 rfl (by decide +kernel) (by decide +kernel), by decide +kernel, by decide +kernel, by decide +kernel⟩
theorem miX9_later : MI yX9_later cX9_later 6 (some .int) 3 := ⟨lw_w_in (l := lw_tbl) 802 rfl (by decide +kernel) (by decide +kernel), lw_w_in (l := lw_tbl) 76 rfl (by decide +kernel) (by decide +kernel), by decide +kernel, by decide +kernel, by decide +kernel⟩
theorem miX9_law : MI yX9_law cX9_law 1 (some .int) 0 := ⟨lw_w_in (l := lw_tbl) 497 rfl (by decide +kernel) (by decide +kernel), lw_w_in (l := lw_tbl) 76 rfl (by decide +kernel) (by decide +kernel), by decide +kernel, by decide +kernel, by decide +kernel⟩
theorem miX9_led : MI yX9_led cX9_led 2 (some .int) 1 := ⟨lw_w_in (l := lw_tbl) 899 rfl (by decide +kernel) (by decide +kernel), lw_w_in (l := lw_tbl) 76 rfl (by decide +kernel) (by decide +kernel), by decide +kernel, by decide +kernel, by decide +kernel⟩
theorem miX9_loses : MI yX9_loses cX9_loses 6 (some .int) 1 := ⟨lw_w_in (l := lw_tbl) 885 rfl (by decide +kernel) (by decide +kernel), lw_w_in (l := lw_tbl) 76 rfl (by decide +kernel) (by decide +kernel), by decide +kernel, by decide +kernel, by decide +kernel⟩
theorem miX9_mend : MI yX9_mend cX9_mend 5 (some .int) 3 := ⟨lw_w_in (l := lw_tbl) 447 rfl (by decide +kernel) (by decide +kernel), lw_w_in (l := lw_tbl) 76 rfl (by decide +kernel) (by decide +kernel), by decide +kernel, by decide +kernel, by decide +kernel⟩
theorem miX9_missed : MI yX9_missed cX9_missed 4 (some .int) 1 := ⟨lw_w_in (l := lw_tbl) 816 rfl (by decide +kernel) (by decide +kernel), lw_w_in (l := lw_tbl) 76 rfl (by decide +kernel) (by decide +kernel), by decide +kernel, by decide +kernel, by decide +kernel⟩
theorem miX9_of : MI yX9_of cX9_of 3 (some .int) 2 := ⟨lw_w_in (l := lw_tbl) 481 rfl (by decide +kernel) (by decide +kernel), lw_w_in (l := lw_tbl) 76 rfl (by decide +kernel) (by decide +kernel), by decide +kernel, by decide +kernel, by decide +kernel⟩
theorem miX9_put : MI yX9_put cX9_put 6 (some .int) 3 := ⟨lw_w_in (l := lw_tbl) 1013 rfl (by decide +kernel) (by decide +kernel), lw_w_in (l := lw_tbl) 76 rfl (by decide +kernel) (by decide +kernel), by decide +kernel, by decide +kernel, by decide +kernel⟩
theorem miX9_putUp : MI yX9_putUp cX9_putUp 3 (some .int) 1 := ⟨lw_w_in (l := lw_tbl) 881 rfl (by decide +kernel) (by decide +kernel), lw_w_in (l := lw_tbl) 76 rfl (by decide +kernel) (by decide +kernel), by decide +kernel, by decide +kernel, by decide +kernel⟩
theorem miX9_redo : MI yX9_redo cX9_redo 1 (some .int) 0 := ⟨lw_w_in (l := lw_tbl) 932 rfl (by decide +kernel) (by decide +kernel), lw_w_in (l := lw_tbl) 76 rfl (by decide +kernel) (by decide +kernel), by decide +kernel, by decide +kernel, by decide +kernel⟩
theorem miX9_row : MI yX9_row cX9_row 4 (some .int) 3 := ⟨lw_w_in (l := lw_tbl) 1002 rfl (by decide +kernel) (by decide +kernel), lw_w_in (l := lw_tbl) 76 rfl (by decide +kernel) (by decide +kernel), by decide +kernel, by decide +kernel, by decide +kernel⟩
theorem miX9_sale : MI yX9_sale cX9_sale 4 (some .int) 2 := ⟨lw_w_in (l := lw_tbl) 690 rfl (by decide +kernel) (by decide +kernel), lw_w_in (l := lw_tbl) 76 rfl (by decide +kernel) (by decide +kernel), by decide +kernel, by decide +kernel, by decide +kernel⟩
theorem miX9_shift : MI yX9_shift cX9_shift 8 (some .int) 5 := ⟨lw_w_in (l := lw_tbl) 1034 rfl (by decide +kernel) (by decide +kernel), lw_w_in (l := lw_tbl) 76 rfl (by decide +kernel) (by decide +kernel), by decide +kernel, by decide +kernel, by decide +kernel⟩
theorem miX9_slip : MI yX9_slip cX9_slip 4 (some .int) 2 := ⟨lw_w_in (l := lw_tbl) 891 rfl (by decide +kernel) (by decide +kernel), lw_w_in (l := lw_tbl) 76 rfl (by decide +kernel) (by decide +kernel), by decide +kernel, by decide +kernel, by decide +kernel⟩
theorem miX9_taken : MI yX9_taken cX9_taken 5 (some .int) 2 := ⟨lw_w_in (l := lw_tbl) 1039 rfl (by decide +kernel) (by decide +kernel), lw_w_in (l := lw_tbl) 76 rfl (by decide +kernel) (by decide +kernel), by decide +kernel, by decide +kernel, by decide +kernel⟩
theorem miX9_thing : MI yX9_thing cX9_thing 2 (some .int) 1 := ⟨lw_w_in (l := lw_tbl) 398 rfl (by decide +kernel) (by decide +kernel), lw_w_in (l := lw_tbl) 76 rfl (by decide +kernel) (by decide +kernel), by decide +kernel, by decide +kernel, by decide +kernel⟩
theorem miX9_trace : MI yX9_trace cX9_trace 2 (some .int) 1 := ⟨lw_w_in (l := lw_tbl) 980 rfl (by decide +kernel) (by decide +kernel), lw_w_in (l := lw_tbl) 76 rfl (by decide +kernel) (by decide +kernel), by decide +kernel, by decide +kernel, by decide +kernel⟩
theorem miX9_undo : MI yX9_undo cX9_undo 1 (some .int) 0 := ⟨lw_w_in (l := lw_tbl) 923 rfl (by decide +kernel) (by decide +kernel), lw_w_in (l := lw_tbl) 76 rfl (by decide +kernel) (by decide +kernel), by decide +kernel, by decide +kernel, by decide +kernel⟩
theorem miX9_wins : MI yX9_wins cX9_wins 2 (some .int) 1 := ⟨lw_w_in (l := lw_tbl) 681 rfl (by decide +kernel) (by decide +kernel), lw_w_in (l := lw_tbl) 76 rfl (by decide +kernel) (by decide +kernel), by decide +kernel, by decide +kernel, by decide +kernel⟩
theorem miX9_year : MI yX9_year cX9_year 1 (some .int) 0 := ⟨lw_w_in (l := lw_tbl) 895 rfl (by decide +kernel) (by decide +kernel), lw_w_in (l := lw_tbl) 76 rfl (by decide +kernel) (by decide +kernel), by decide +kernel, by decide +kernel, by decide +kernel⟩
theorem miX9_years : MI yX9_years cX9_years 3 (some .int) 2 := ⟨lw_w_in (l := lw_tbl) 631 rfl (by decide +kernel) (by decide +kernel), lw_w_in (l := lw_tbl) 76 rfl (by decide +kernel) (by decide +kernel), by decide +kernel, by decide +kernel, by decide +kernel⟩
theorem mvX10_act : MV yX10_act := ⟨lw_w_in (l := lw_tbl) 1527 rfl (by decide +kernel) (by decide +kernel), lw_w_in (l := lw_tbl) 1528 rfl (by decide +kernel) (by decide +kernel)⟩
theorem mvX10_after : MV yX10_after := ⟨lw_w_in (l := lw_tbl) 1394 rfl (by decide +kernel) (by decide +kernel), lw_w_in (l := lw_tbl) 1395 rfl (by decide +kernel) (by decide +kernel)⟩
theorem mvX10_back : MV yX10_back := ⟨lw_w_in (l := lw_tbl) 1519 rfl (by decide +kernel) (by decide +kernel), lw_w_in (l := lw_tbl) 1520 rfl (by decide +kernel) (by decide +kernel)⟩
theorem mvX10_bestOrder : MV yX10_bestOrder := ⟨lw_w_in (l := lw_tbl) 1398 rfl (by decide +kernel) (by decide +kernel), lw_w_in (l := lw_tbl) 1399 rfl (by decide +kernel) (by decide +kernel)⟩
theorem mvX10_bidder : MV yX10_bidder := ⟨lw_w_in (l := lw_tbl) 1201 rfl (by decide +kernel) (by decide +kernel), lw_w_in (l := lw_tbl) 1202 rfl (by decide +kernel) (by decide +kernel)⟩
theorem mvX10_bidders : MV yX10_bidders := ⟨lw_w_in (l := lw_tbl) 1209 rfl (by decide +kernel) (by decide +kernel), lw_w_in (l := lw_tbl) 1210 rfl (by decide +kernel) (by decide +kernel)⟩
theorem mvX10_body : MV yX10_body := ⟨lw_w_in (l := lw_tbl) 1523 rfl (by decide +kernel) (by decide +kernel), lw_w_in (l := lw_tbl) 1524 rfl (by decide +kernel) (by decide +kernel)⟩
theorem mvX10_byTurns : MV yX10_byTurns := ⟨lw_w_in (l := lw_tbl) 1478 rfl (by decide +kernel) (by decide +kernel), lw_w_in (l := lw_tbl) 1479 rfl (by decide +kernel) (by decide +kernel)⟩
theorem mvX10_count : MV yX10_count := ⟨lw_w_in (l := lw_tbl) 1590 rfl (by decide +kernel) (by decide +kernel), lw_w_in (l := lw_tbl) 1591 rfl (by decide +kernel) (by decide +kernel)⟩
theorem mvX10_dealt : MV yX10_dealt := ⟨lw_w_in (l := lw_tbl) 1419 rfl (by decide +kernel) (by decide +kernel), lw_w_in (l := lw_tbl) 1420 rfl (by decide +kernel) (by decide +kernel)⟩
theorem mvX10_drawn : MV yX10_drawn := ⟨lw_w_in (l := lw_tbl) 1490 rfl (by decide +kernel) (by decide +kernel), lw_w_in (l := lw_tbl) 1491 rfl (by decide +kernel) (by decide +kernel)⟩
theorem mvX10_element : MV yX10_element := ⟨lw_w_in (l := lw_tbl) 1577 rfl (by decide +kernel) (by decide +kernel), lw_w_in (l := lw_tbl) 1578 rfl (by decide +kernel) (by decide +kernel)⟩
theorem mvX10_examined : MV yX10_examined := ⟨lw_w_in (l := lw_tbl) 1415 rfl (by decide +kernel) (by decide +kernel), lw_w_in (l := lw_tbl) 1416 rfl (by decide +kernel) (by decide +kernel)⟩
theorem mvX10_feed : MV yX10_feed := ⟨lw_w_in (l := lw_tbl) 1262 rfl (by decide +kernel) (by decide +kernel), lw_w_in (l := lw_tbl) 1263 rfl (by decide +kernel) (by decide +kernel)⟩
theorem mvX10_feign : MV yX10_feign := ⟨lw_w_in (l := lw_tbl) 1411 rfl (by decide +kernel) (by decide +kernel), lw_w_in (l := lw_tbl) 1412 rfl (by decide +kernel) (by decide +kernel)⟩
theorem mvX10_fits : MV yX10_fits := ⟨lw_w_in (l := lw_tbl) 1474 rfl (by decide +kernel) (by decide +kernel), lw_w_in (l := lw_tbl) 1475 rfl (by decide +kernel) (by decide +kernel)⟩
theorem mvX10_hands : MV yX10_hands := ⟨lw_w_in (l := lw_tbl) 1427 rfl (by decide +kernel) (by decide +kernel), lw_w_in (l := lw_tbl) 1428 rfl (by decide +kernel) (by decide +kernel)⟩
theorem mvX10_image : MV yX10_image := ⟨lw_w_in (l := lw_tbl) 1515 rfl (by decide +kernel) (by decide +kernel), lw_w_in (l := lw_tbl) 1516 rfl (by decide +kernel) (by decide +kernel)⟩
theorem mvX10_judge : MV yX10_judge := ⟨lw_w_in (l := lw_tbl) 1462 rfl (by decide +kernel) (by decide +kernel), lw_w_in (l := lw_tbl) 1463 rfl (by decide +kernel) (by decide +kernel)⟩
theorem mvX10_keep : MV yX10_keep := ⟨lw_w_in (l := lw_tbl) 1558 rfl (by decide +kernel) (by decide +kernel), lw_w_in (l := lw_tbl) 1559 rfl (by decide +kernel) (by decide +kernel)⟩
theorem mvX10_later : MV yX10_later := ⟨lw_w_in (l := lw_tbl) 1435 rfl (by decide +kernel) (by decide +kernel), lw_w_in (l := lw_tbl) 1436 rfl (by decide +kernel) (by decide +kernel)⟩
theorem mvX10_law : MV yX10_law := ⟨lw_w_in (l := lw_tbl) 1266 rfl (by decide +kernel) (by decide +kernel), lw_w_in (l := lw_tbl) 1267 rfl (by decide +kernel) (by decide +kernel)⟩
theorem mvX10_led : MV yX10_led := ⟨lw_w_in (l := lw_tbl) 1511 rfl (by decide +kernel) (by decide +kernel), lw_w_in (l := lw_tbl) 1512 rfl (by decide +kernel) (by decide +kernel)⟩
theorem mvX10_loses : MV yX10_loses := ⟨lw_w_in (l := lw_tbl) 1499 rfl (by decide +kernel) (by decide +kernel), lw_w_in (l := lw_tbl) 1500 rfl (by decide +kernel) (by decide +kernel)⟩
theorem mvX10_mend : MV yX10_mend := ⟨lw_w_in (l := lw_tbl) 1221 rfl (by decide +kernel) (by decide +kernel), lw_w_in (l := lw_tbl) 1222 rfl (by decide +kernel) (by decide +kernel)⟩
theorem mvX10_missed : MV yX10_missed := ⟨lw_w_in (l := lw_tbl) 1450 rfl (by decide +kernel) (by decide +kernel), lw_w_in (l := lw_tbl) 1451 rfl (by decide +kernel) (by decide +kernel)⟩
theorem mvX10_of : MV yX10_of := ⟨lw_w_in (l := lw_tbl) 1250 rfl (by decide +kernel) (by decide +kernel), lw_w_in (l := lw_tbl) 1251 rfl (by decide +kernel) (by decide +kernel)⟩
theorem mvX10_put : MV yX10_put := ⟨lw_w_in (l := lw_tbl) 1566 rfl (by decide +kernel) (by decide +kernel), lw_w_in (l := lw_tbl) 1567 rfl (by decide +kernel) (by decide +kernel)⟩
theorem mvX10_putUp : MV yX10_putUp := ⟨lw_w_in (l := lw_tbl) 1495 rfl (by decide +kernel) (by decide +kernel), lw_w_in (l := lw_tbl) 1496 rfl (by decide +kernel) (by decide +kernel)⟩
theorem mvX10_redo : MV yX10_redo := ⟨lw_w_in (l := lw_tbl) 1258 rfl (by decide +kernel) (by decide +kernel), lw_w_in (l := lw_tbl) 1259 rfl (by decide +kernel) (by decide +kernel)⟩
theorem mvX10_row : MV yX10_row := ⟨lw_w_in (l := lw_tbl) 1562 rfl (by decide +kernel) (by decide +kernel), lw_w_in (l := lw_tbl) 1563 rfl (by decide +kernel) (by decide +kernel)⟩
theorem mvX10_sale : MV yX10_sale := ⟨lw_w_in (l := lw_tbl) 1362 rfl (by decide +kernel) (by decide +kernel), lw_w_in (l := lw_tbl) 1363 rfl (by decide +kernel) (by decide +kernel)⟩
theorem mvX10_shift : MV yX10_shift := ⟨lw_w_in (l := lw_tbl) 1582 rfl (by decide +kernel) (by decide +kernel), lw_w_in (l := lw_tbl) 1583 rfl (by decide +kernel) (by decide +kernel)⟩
theorem mvX10_slip : MV yX10_slip := ⟨lw_w_in (l := lw_tbl) 1503 rfl (by decide +kernel) (by decide +kernel), lw_w_in (l := lw_tbl) 1504 rfl (by decide +kernel) (by decide +kernel)⟩
theorem mvX10_taken : MV yX10_taken := ⟨lw_w_in (l := lw_tbl) 1586 rfl (by decide +kernel) (by decide +kernel), lw_w_in (l := lw_tbl) 1587 rfl (by decide +kernel) (by decide +kernel)⟩
theorem mvX10_thing : MV yX10_thing := ⟨lw_w_in (l := lw_tbl) 1194 rfl (by decide +kernel) (by decide +kernel), lw_w_in (l := lw_tbl) 1195 rfl (by decide +kernel) (by decide +kernel)⟩
theorem mvX10_trace : MV yX10_trace := ⟨lw_w_in (l := lw_tbl) 1554 rfl (by decide +kernel) (by decide +kernel), lw_w_in (l := lw_tbl) 1555 rfl (by decide +kernel) (by decide +kernel)⟩
theorem mvX10_undo : MV yX10_undo := ⟨lw_w_in (l := lw_tbl) 1254 rfl (by decide +kernel) (by decide +kernel), lw_w_in (l := lw_tbl) 1255 rfl (by decide +kernel) (by decide +kernel)⟩
theorem mvX10_wins : MV yX10_wins := ⟨lw_w_in (l := lw_tbl) 1354 rfl (by decide +kernel) (by decide +kernel), lw_w_in (l := lw_tbl) 1355 rfl (by decide +kernel) (by decide +kernel)⟩
theorem mvX10_year : MV yX10_year := ⟨lw_w_in (l := lw_tbl) 1507 rfl (by decide +kernel) (by decide +kernel), lw_w_in (l := lw_tbl) 1508 rfl (by decide +kernel) (by decide +kernel)⟩
theorem mvX10_years : MV yX10_years := ⟨lw_w_in (l := lw_tbl) 1317 rfl (by decide +kernel) (by decide +kernel), lw_w_in (l := lw_tbl) 1318 rfl (by decide +kernel) (by decide +kernel)⟩
theorem mvX9_act : MV yX9_act := ⟨lw_w_in (l := lw_tbl) 950 rfl (by decide +kernel) (by decide +kernel), lw_w_in (l := lw_tbl) 951 rfl (by decide +kernel) (by decide +kernel)⟩
theorem mvX9_after : MV yX9_after := ⟨lw_w_in (l := lw_tbl) 713 rfl (by decide +kernel) (by decide +kernel), lw_w_in (l := lw_tbl) 714 rfl (by decide +kernel) (by decide +kernel)⟩
theorem mvX9_back : MV yX9_back := ⟨lw_w_in (l := lw_tbl) 911 rfl (by decide +kernel) (by decide +kernel), lw_w_in (l := lw_tbl) 912 rfl (by decide +kernel) (by decide +kernel)⟩
theorem mvX9_bestOrder : MV yX9_bestOrder := ⟨lw_w_in (l := lw_tbl) 717 rfl (by decide +kernel) (by decide +kernel), lw_w_in (l := lw_tbl) 718 rfl (by decide +kernel) (by decide +kernel)⟩
theorem mvX9_bidder : MV yX9_bidder := ⟨lw_w_in (l := lw_tbl) 408 rfl (by decide +kernel) (by decide +kernel), lw_w_in (l := lw_tbl) 409 rfl (by decide +kernel) (by decide +kernel)⟩
theorem mvX9_bidders : MV yX9_bidders := ⟨lw_w_in (l := lw_tbl) 421 rfl (by decide +kernel) (by decide +kernel), lw_w_in (l := lw_tbl) 422 rfl (by decide +kernel) (by decide +kernel)⟩
theorem mvX9_body : MV yX9_body := ⟨lw_w_in (l := lw_tbl) 938 rfl (by decide +kernel) (by decide +kernel), lw_w_in (l := lw_tbl) 939 rfl (by decide +kernel) (by decide +kernel)⟩
theorem mvX9_byTurns : MV yX9_byTurns := ⟨lw_w_in (l := lw_tbl) 847 rfl (by decide +kernel) (by decide +kernel), lw_w_in (l := lw_tbl) 848 rfl (by decide +kernel) (by decide +kernel)⟩
theorem mvX9_count : MV yX9_count := ⟨lw_w_in (l := lw_tbl) 1048 rfl (by decide +kernel) (by decide +kernel), lw_w_in (l := lw_tbl) 1049 rfl (by decide +kernel) (by decide +kernel)⟩
theorem mvX9_dealt : MV yX9_dealt := ⟨lw_w_in (l := lw_tbl) 756 rfl (by decide +kernel) (by decide +kernel), lw_w_in (l := lw_tbl) 757 rfl (by decide +kernel) (by decide +kernel)⟩
theorem mvX9_drawn : MV yX9_drawn := ⟨lw_w_in (l := lw_tbl) 869 rfl (by decide +kernel) (by decide +kernel), lw_w_in (l := lw_tbl) 870 rfl (by decide +kernel) (by decide +kernel)⟩
theorem mvX9_element : MV yX9_element := ⟨lw_w_in (l := lw_tbl) 1027 rfl (by decide +kernel) (by decide +kernel), lw_w_in (l := lw_tbl) 1028 rfl (by decide +kernel) (by decide +kernel)⟩
theorem mvX9_examined : MV yX9_examined := ⟨lw_w_in (l := lw_tbl) 746 rfl (by decide +kernel) (by decide +kernel), lw_w_in (l := lw_tbl) 747 rfl (by decide +kernel) (by decide +kernel)⟩
theorem mvX9_feed : MV yX9_feed := ⟨lw_w_in (l := lw_tbl) 483 rfl (by decide +kernel) (by decide +kernel), lw_w_in (l := lw_tbl) 484 rfl (by decide +kernel) (by decide +kernel)⟩
theorem mvX9_feign : MV yX9_feign := ⟨lw_w_in (l := lw_tbl) 742 rfl (by decide +kernel) (by decide +kernel), lw_w_in (l := lw_tbl) 743 rfl (by decide +kernel) (by decide +kernel)⟩
theorem mvX9_fits : MV yX9_fits := ⟨lw_w_in (l := lw_tbl) 838 rfl (by decide +kernel) (by decide +kernel), lw_w_in (l := lw_tbl) 839 rfl (by decide +kernel) (by decide +kernel)⟩
theorem mvX9_hands : MV yX9_hands := ⟨lw_w_in (l := lw_tbl) 792 rfl (by decide +kernel) (by decide +kernel), lw_w_in (l := lw_tbl) 793 rfl (by decide +kernel) (by decide +kernel)⟩
theorem mvX9_image : MV yX9_image := ⟨lw_w_in (l := lw_tbl) 901 rfl (by decide +kernel) (by decide +kernel), lw_w_in (l := lw_tbl) 902 rfl (by decide +kernel) (by decide +kernel)⟩
theorem mvX9_judge : MV yX9_judge := ⟨lw_w_in (l := lw_tbl) 822 rfl (by decide +kernel) (by decide +kernel), lw_w_in (l := lw_tbl) 823 rfl (by decide +kernel) (by decide +kernel)⟩
theorem mvX9_keep : MV yX9_keep := ⟨lw_w_in (l := lw_tbl) 987 rfl (by decide +kernel) (by decide +kernel), lw_w_in (l := lw_tbl) 988 rfl (by decide +kernel) (by decide +kernel)⟩
theorem mvX9_later : MV yX9_later := ⟨lw_w_in (l := lw_tbl) 800 rfl (by decide +kernel) (by decide +kernel), lw_w_in (l := lw_tbl) 801 rfl (by decide +kernel) (by decide +kernel)⟩
theorem mvX9_law : MV yX9_law := ⟨lw_w_in (l := lw_tbl) 495 rfl (by decide +kernel) (by decide +kernel), lw_w_in (l := lw_tbl) 496 rfl (by decide +kernel) (by decide +kernel)⟩
theorem mvX9_led : MV yX9_led := ⟨lw_w_in (l := lw_tbl) 897 rfl (by decide +kernel) (by decide +kernel), lw_w_in (l := lw_tbl) 898 rfl (by decide +kernel) (by decide +kernel)⟩
theorem mvX9_loses : MV yX9_loses := ⟨lw_w_in (l := lw_tbl) 883 rfl (by decide +kernel) (by decide +kernel), lw_w_in (l := lw_tbl) 884 rfl (by decide +kernel) (by decide +kernel)⟩
theorem mvX9_mend : MV yX9_mend := ⟨lw_w_in (l := lw_tbl) 445 rfl (by decide +kernel) (by decide +kernel), lw_w_in (l := lw_tbl) 446 rfl (by decide +kernel) (by decide +kernel)⟩
theorem mvX9_missed : MV yX9_missed := ⟨lw_w_in (l := lw_tbl) 814 rfl (by decide +kernel) (by decide +kernel), lw_w_in (l := lw_tbl) 815 rfl (by decide +kernel) (by decide +kernel)⟩
theorem mvX9_of : MV yX9_of := ⟨lw_w_in (l := lw_tbl) 479 rfl (by decide +kernel) (by decide +kernel), lw_w_in (l := lw_tbl) 480 rfl (by decide +kernel) (by decide +kernel)⟩
theorem mvX9_put : MV yX9_put := ⟨lw_w_in (l := lw_tbl) 1011 rfl (by decide +kernel) (by decide +kernel), lw_w_in (l := lw_tbl) 1012 rfl (by decide +kernel) (by decide +kernel)⟩
theorem mvX9_putUp : MV yX9_putUp := ⟨lw_w_in (l := lw_tbl) 879 rfl (by decide +kernel) (by decide +kernel), lw_w_in (l := lw_tbl) 880 rfl (by decide +kernel) (by decide +kernel)⟩
theorem mvX9_redo : MV yX9_redo := ⟨lw_w_in (l := lw_tbl) 930 rfl (by decide +kernel) (by decide +kernel), lw_w_in (l := lw_tbl) 931 rfl (by decide +kernel) (by decide +kernel)⟩
theorem mvX9_row : MV yX9_row := ⟨lw_w_in (l := lw_tbl) 1000 rfl (by decide +kernel) (by decide +kernel), lw_w_in (l := lw_tbl) 1001 rfl (by decide +kernel) (by decide +kernel)⟩
theorem mvX9_sale : MV yX9_sale := ⟨lw_w_in (l := lw_tbl) 688 rfl (by decide +kernel) (by decide +kernel), lw_w_in (l := lw_tbl) 689 rfl (by decide +kernel) (by decide +kernel)⟩
theorem mvX9_shift : MV yX9_shift := ⟨lw_w_in (l := lw_tbl) 1032 rfl (by decide +kernel) (by decide +kernel), lw_w_in (l := lw_tbl) 1033 rfl (by decide +kernel) (by decide +kernel)⟩
theorem mvX9_slip : MV yX9_slip := ⟨lw_w_in (l := lw_tbl) 889 rfl (by decide +kernel) (by decide +kernel), lw_w_in (l := lw_tbl) 890 rfl (by decide +kernel) (by decide +kernel)⟩
theorem mvX9_taken : MV yX9_taken := ⟨lw_w_in (l := lw_tbl) 1037 rfl (by decide +kernel) (by decide +kernel), lw_w_in (l := lw_tbl) 1038 rfl (by decide +kernel) (by decide +kernel)⟩
theorem mvX9_thing : MV yX9_thing := ⟨lw_w_in (l := lw_tbl) 396 rfl (by decide +kernel) (by decide +kernel), lw_w_in (l := lw_tbl) 397 rfl (by decide +kernel) (by decide +kernel)⟩
theorem mvX9_trace : MV yX9_trace := ⟨lw_w_in (l := lw_tbl) 978 rfl (by decide +kernel) (by decide +kernel), lw_w_in (l := lw_tbl) 979 rfl (by decide +kernel) (by decide +kernel)⟩
theorem mvX9_undo : MV yX9_undo := ⟨lw_w_in (l := lw_tbl) 921 rfl (by decide +kernel) (by decide +kernel), lw_w_in (l := lw_tbl) 922 rfl (by decide +kernel) (by decide +kernel)⟩
theorem mvX9_wins : MV yX9_wins := ⟨lw_w_in (l := lw_tbl) 679 rfl (by decide +kernel) (by decide +kernel), lw_w_in (l := lw_tbl) 680 rfl (by decide +kernel) (by decide +kernel)⟩
theorem mvX9_year : MV yX9_year := ⟨lw_w_in (l := lw_tbl) 893 rfl (by decide +kernel) (by decide +kernel), lw_w_in (l := lw_tbl) 894 rfl (by decide +kernel) (by decide +kernel)⟩
theorem mvX9_years : MV yX9_years := ⟨lw_w_in (l := lw_tbl) 629 rfl (by decide +kernel) (by decide +kernel), lw_w_in (l := lw_tbl) 630 rfl (by decide +kernel) (by decide +kernel)⟩
