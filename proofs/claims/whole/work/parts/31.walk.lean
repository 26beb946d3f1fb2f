/-! Walks (printed by my program). -/
theorem dX8_outcome_0 : decode cX8_outcome 0 = .ok (.iload_n 3, 1) := by decide +kernel
theorem dX8_outcome_1 : decode cX8_outcome 1 = .ok (.ifCond .gt 34, 3) := by decide +kernel
theorem dX8_outcome_4 : decode cX8_outcome 4 = .ok (.aload_n 0, 1) := by decide +kernel
theorem dX8_outcome_5 : decode cX8_outcome 5 = .ok (.getfield 18, 3) := by decide +kernel
theorem dX8_outcome_8 : decode cX8_outcome 8 = .ok (.invokevirtual 78, 3) := by decide +kernel
theorem dX8_outcome_11 : decode cX8_outcome 11 = .ok (.istore 4, 2) := by decide +kernel
theorem dX8_outcome_13 : decode cX8_outcome 13 = .ok (.iload 4, 2) := by decide +kernel
theorem dX8_outcome_15 : decode cX8_outcome 15 = .ok (.iload_n 1, 1) := by decide +kernel
theorem dX8_outcome_16 : decode cX8_outcome 16 = .ok (.if_icmp .ne 7, 3) := by decide +kernel
theorem dX8_outcome_19 : decode cX8_outcome 19 = .ok (.iconst 1, 1) := by decide +kernel
theorem dX8_outcome_20 : decode cX8_outcome 20 = .ok (.goto 14, 3) := by decide +kernel
theorem dX8_outcome_23 : decode cX8_outcome 23 = .ok (.iload 4, 2) := by decide +kernel
theorem dX8_outcome_25 : decode cX8_outcome 25 = .ok (.iload_n 2, 1) := by decide +kernel
theorem dX8_outcome_26 : decode cX8_outcome 26 = .ok (.if_icmp .ne 7, 3) := by decide +kernel
theorem dX8_outcome_29 : decode cX8_outcome 29 = .ok (.iconst (-1), 1) := by decide +kernel
theorem dX8_outcome_30 : decode cX8_outcome 30 = .ok (.goto 4, 3) := by decide +kernel
theorem dX8_outcome_33 : decode cX8_outcome 33 = .ok (.iconst 0, 1) := by decide +kernel
theorem dX8_outcome_34 : decode cX8_outcome 34 = .ok (.ireturn, 1) := by decide +kernel
theorem dX8_outcome_35 : decode cX8_outcome 35 = .ok (.iconst (-1), 1) := by decide +kernel
theorem dX8_outcome_36 : decode cX8_outcome 36 = .ok (.istore 4, 2) := by decide +kernel
theorem dX8_outcome_38 : decode cX8_outcome 38 = .ok (.iconst 0, 1) := by decide +kernel
theorem dX8_outcome_39 : decode cX8_outcome 39 = .ok (.istore 5, 2) := by decide +kernel
theorem dX8_outcome_41 : decode cX8_outcome 41 = .ok (.iload 5, 2) := by decide +kernel
theorem dX8_outcome_43 : decode cX8_outcome 43 = .ok (.iconst 3, 1) := by decide +kernel
theorem dX8_outcome_44 : decode cX8_outcome 44 = .ok (.if_icmp .ge 37, 3) := by decide +kernel
theorem dX8_outcome_47 : decode cX8_outcome 47 = .ok (.iload 4, 2) := by decide +kernel
theorem dX8_outcome_49 : decode cX8_outcome 49 = .ok (.iconst 1, 1) := by decide +kernel
theorem dX8_outcome_50 : decode cX8_outcome 50 = .ok (.if_icmp .ge 31, 3) := by decide +kernel
theorem dX8_outcome_53 : decode cX8_outcome 53 = .ok (.iload 4, 2) := by decide +kernel
theorem dX8_outcome_55 : decode cX8_outcome 55 = .ok (.aload_n 0, 1) := by decide +kernel
theorem dX8_outcome_56 : decode cX8_outcome 56 = .ok (.iload_n 1, 1) := by decide +kernel
theorem dX8_outcome_57 : decode cX8_outcome 57 = .ok (.iload_n 2, 1) := by decide +kernel
theorem dX8_outcome_58 : decode cX8_outcome 58 = .ok (.iload_n 3, 1) := by decide +kernel
theorem dX8_outcome_59 : decode cX8_outcome 59 = .ok (.iconst 1, 1) := by decide +kernel
theorem dX8_outcome_60 : decode cX8_outcome 60 = .ok (.isub, 1) := by decide +kernel
theorem dX8_outcome_61 : decode cX8_outcome 61 = .ok (.getstatic 82, 3) := by decide +kernel
theorem dX8_outcome_64 : decode cX8_outcome 64 = .ok (.iload 5, 2) := by decide +kernel
theorem dX8_outcome_66 : decode cX8_outcome 66 = .ok (.iaload, 1) := by decide +kernel
theorem dX8_outcome_67 : decode cX8_outcome 67 = .ok (.invokevirtual 85, 3) := by decide +kernel
theorem dX8_outcome_70 : decode cX8_outcome 70 = .ok (.invokestatic 92, 3) := by decide +kernel
theorem dX8_outcome_73 : decode cX8_outcome 73 = .ok (.istore 4, 2) := by decide +kernel
theorem dX8_outcome_75 : decode cX8_outcome 75 = .ok (.iinc 5 1, 3) := by decide +kernel
theorem dX8_outcome_78 : decode cX8_outcome 78 = .ok (.goto (-37), 3) := by decide +kernel
theorem dX8_outcome_81 : decode cX8_outcome 81 = .ok (.iload 4, 2) := by decide +kernel
theorem dX8_outcome_83 : decode cX8_outcome 83 = .ok (.ireturn, 1) := by decide +kernel
theorem dX8_moved_0 : decode cX8_moved 0 = .ok (.aload_n 0, 1) := by decide +kernel
theorem dX8_moved_1 : decode cX8_moved 1 = .ok (.getfield 18, 3) := by decide +kernel
theorem dX8_moved_4 : decode cX8_moved 4 = .ok (.getfield 61, 3) := by decide +kernel
theorem dX8_moved_7 : decode cX8_moved 7 = .ok (.astore 5, 2) := by decide +kernel
theorem dX8_moved_9 : decode cX8_moved 9 = .ok (.aload 5, 2) := by decide +kernel
theorem dX8_moved_11 : decode cX8_moved 11 = .ok (.iload_n 1, 1) := by decide +kernel
theorem dX8_moved_12 : decode cX8_moved 12 = .ok (.bipush 7, 2) := by decide +kernel
theorem dX8_moved_14 : decode cX8_moved 14 = .ok (.invokevirtual 95, 3) := by decide +kernel
theorem dX8_moved_17 : decode cX8_moved 17 = .ok (.istore 6, 2) := by decide +kernel
theorem dX8_moved_19 : decode cX8_moved 19 = .ok (.aload 5, 2) := by decide +kernel
theorem dX8_moved_21 : decode cX8_moved 21 = .ok (.iload_n 2, 1) := by decide +kernel
theorem dX8_moved_22 : decode cX8_moved 22 = .ok (.bipush 8, 2) := by decide +kernel
theorem dX8_moved_24 : decode cX8_moved 24 = .ok (.invokevirtual 95, 3) := by decide +kernel
theorem dX8_moved_27 : decode cX8_moved 27 = .ok (.istore 7, 2) := by decide +kernel
theorem dX8_moved_29 : decode cX8_moved 29 = .ok (.iload 4, 2) := by decide +kernel
theorem dX8_moved_31 : decode cX8_moved 31 = .ok (.ifCond .ne 27, 3) := by decide +kernel
theorem dX8_moved_34 : decode cX8_moved 34 = .ok (.aload 5, 2) := by decide +kernel
theorem dX8_moved_36 : decode cX8_moved 36 = .ok (.iload_n 1, 1) := by decide +kernel
theorem dX8_moved_37 : decode cX8_moved 37 = .ok (.bipush 7, 2) := by decide +kernel
theorem dX8_moved_39 : decode cX8_moved 39 = .ok (.getstatic 98, 3) := by decide +kernel
theorem dX8_moved_42 : decode cX8_moved 42 = .ok (.bipush 7, 2) := by decide +kernel
theorem dX8_moved_44 : decode cX8_moved 44 = .ok (.iaload, 1) := by decide +kernel
theorem dX8_moved_45 : decode cX8_moved 45 = .ok (.iload 6, 2) := by decide +kernel
theorem dX8_moved_47 : decode cX8_moved 47 = .ok (.iconst 1, 1) := by decide +kernel
theorem dX8_moved_48 : decode cX8_moved 48 = .ok (.iadd, 1) := by decide +kernel
theorem dX8_moved_49 : decode cX8_moved 49 = .ok (.invokestatic 26, 3) := by decide +kernel
theorem dX8_moved_52 : decode cX8_moved 52 = .ok (.invokevirtual 101, 3) := by decide +kernel
theorem dX8_moved_55 : decode cX8_moved 55 = .ok (.goto 18, 3) := by decide +kernel
theorem dX8_moved_58 : decode cX8_moved 58 = .ok (.iload 4, 2) := by decide +kernel
theorem dX8_moved_60 : decode cX8_moved 60 = .ok (.iconst 1, 1) := by decide +kernel
theorem dX8_moved_61 : decode cX8_moved 61 = .ok (.if_icmp .ne 12, 3) := by decide +kernel
theorem dX8_moved_64 : decode cX8_moved 64 = .ok (.aload 5, 2) := by decide +kernel
theorem dX8_moved_66 : decode cX8_moved 66 = .ok (.iload_n 2, 1) := by decide +kernel
theorem dX8_moved_67 : decode cX8_moved 67 = .ok (.bipush 8, 2) := by decide +kernel
theorem dX8_moved_69 : decode cX8_moved 69 = .ok (.iconst 1, 1) := by decide +kernel
theorem dX8_moved_70 : decode cX8_moved 70 = .ok (.invokevirtual 101, 3) := by decide +kernel
theorem dX8_moved_73 : decode cX8_moved 73 = .ok (.aload_n 0, 1) := by decide +kernel
theorem dX8_moved_74 : decode cX8_moved 74 = .ok (.iload_n 2, 1) := by decide +kernel
theorem dX8_moved_75 : decode cX8_moved 75 = .ok (.iload_n 1, 1) := by decide +kernel
theorem dX8_moved_76 : decode cX8_moved 76 = .ok (.iload_n 3, 1) := by decide +kernel
theorem dX8_moved_77 : decode cX8_moved 77 = .ok (.invokevirtual 104, 3) := by decide +kernel
theorem dX8_moved_80 : decode cX8_moved 80 = .ok (.ineg, 1) := by decide +kernel
theorem dX8_moved_81 : decode cX8_moved 81 = .ok (.istore 8, 2) := by decide +kernel
theorem dX8_moved_83 : decode cX8_moved 83 = .ok (.aload 5, 2) := by decide +kernel
theorem dX8_moved_85 : decode cX8_moved 85 = .ok (.iload_n 1, 1) := by decide +kernel
theorem dX8_moved_86 : decode cX8_moved 86 = .ok (.bipush 7, 2) := by decide +kernel
theorem dX8_moved_88 : decode cX8_moved 88 = .ok (.iload 6, 2) := by decide +kernel
theorem dX8_moved_90 : decode cX8_moved 90 = .ok (.invokevirtual 101, 3) := by decide +kernel
theorem dX8_moved_93 : decode cX8_moved 93 = .ok (.aload 5, 2) := by decide +kernel
theorem dX8_moved_95 : decode cX8_moved 95 = .ok (.iload_n 2, 1) := by decide +kernel
theorem dX8_moved_96 : decode cX8_moved 96 = .ok (.bipush 8, 2) := by decide +kernel
theorem dX8_moved_98 : decode cX8_moved 98 = .ok (.iload 7, 2) := by decide +kernel
theorem dX8_moved_100 : decode cX8_moved 100 = .ok (.invokevirtual 101, 3) := by decide +kernel
theorem dX8_moved_103 : decode cX8_moved 103 = .ok (.iload 8, 2) := by decide +kernel
theorem dX8_moved_105 : decode cX8_moved 105 = .ok (.ireturn, 1) := by decide +kernel
theorem bX8_moved_73 {K : KT} {g : GT} {cm sm : Nat} {cs : Nat × Nat} {fr : Nat} {c0 : Nat} {x1 : Int} {x2 : Int} {x3 : Int} {x4 : Int} {cl : Nat → List Int → St → Option (Int × St)} {frc : Nat} {r : Int} {σ' : St} (hC : Ctx K g RX8 cX8_moved 9 fr cm sm) (hcs : cs.1 ≤ cm ∧ cs.2 ≤ sm) (h0 : isO 8 c0 = true) (hf : frc + 1 ≤ fr) (hf0 : 3 ≤ fr) (hl0 : ∀ (a0 : Int) (a1 : Int) (a2 : Int) (a3 : Int) (r : Int) (σ σ' : St), cl 0 [a0, a1, a2, a3] σ = some (r, σ') → Cn (Kl K) g yX8_moved cX8_moved 9 (some .int) frc 0 0 [vr c0, vi a0, vi a1, vi a2, vi a3] (SH0, σ) (some (vi r)) (SH0, σ')) (hl1 : ∀ (a0 : Int) (a1 : Int) (a2 : Int) (r : Int) (σ σ' : St), cl 1 [a0, a1, a2] σ = some (r, σ') → Cn (Kl K) g yX8_outcome cX8_outcome 6 (some .int) frc 0 0 [vr c0, vi a0, vi a1, vi a2] (SH0, σ) (some (vi r)) (SH0, σ')) (hR : RetI K g cX8_moved 9 cs r (SH0, σ')) : ∀ (c5 : Nat) (x6 : Int) (x7 : Int) (σ : St), isO 2 c5 = true → fX8_moved_73 cl c0 x1 x2 x3 x4 c5 x6 x7 σ = some (r, σ') → G K g 9 cs 73 [(0, vr c0), (1, vi x1), (2, vi x2), (3, vi x3), (4, vi x4), (5, vr c5), (6, vi x6), (7, vi x7)] [] (SH0, σ) := by
  intro c5 x6 x7 σ h5 h
  unfold fX8_moved_73 at h
  refine g_aload_n hC dX8_moved_73 0 rfl rfl ?_
  refine g_iload_n hC dX8_moved_74 2 rfl rfl ?_
  refine g_iload_n hC dX8_moved_75 1 rfl rfl ?_
  refine g_iload_n hC dX8_moved_76 3 rfl rfl ?_
  obtain ⟨⟨r1, s1⟩, e1, h⟩ := of_bind h
  try dsimp only at h
  refine s_callVi hC dX8_moved_77 (hl1 _ _ _ _ _ _ e1) miX8_outcome mvX8_outcome mlRX8_104 (isO_spec h0) vc_8 rfl rfl (Nat.le_of_ble_eq_true rfl) hf (Nat.le_of_ble_eq_true rfl) hcs ?_
  refine g_ineg hC dX8_moved_80 ?_
  refine g_istore hC dX8_moved_81 (Nat.le_of_ble_eq_true rfl) rfl ?_
  refine g_aload hC dX8_moved_83 6 rfl ?_
  refine g_iload_n hC dX8_moved_85 2 rfl rfl ?_
  refine g_bipush hC dX8_moved_86 bp_7 ?_
  refine g_iload hC dX8_moved_88 7 rfl ?_
  obtain ⟨s2, e2, h⟩ := of_bind h
  try dsimp only at h
  refine s_callVv hC dX8_moved_90 (tX2_become h5 e2) miX2_become mvX2_become mlRX8_101 (isO_spec h5) vc_2 rfl rfl (Nat.le_of_ble_eq_true rfl) (by omega) (Nat.le_of_ble_eq_true rfl) hcs ?_
  refine g_aload hC dX8_moved_93 6 rfl ?_
  refine g_iload_n hC dX8_moved_95 3 rfl rfl ?_
  refine g_bipush hC dX8_moved_96 bp_8 ?_
  refine g_iload hC dX8_moved_98 8 rfl ?_
  obtain ⟨s3, e3, h⟩ := of_bind h
  try dsimp only at h
  refine s_callVv hC dX8_moved_100 (tX2_become h5 e3) miX2_become mvX2_become mlRX8_101 (isO_spec h5) vc_2 rfl rfl (Nat.le_of_ble_eq_true rfl) (by omega) (Nat.le_of_ble_eq_true rfl) hcs ?_
  refine g_iload hC dX8_moved_103 0 rfl ?_
  exact ret_i h hR dX8_moved_105
theorem bX8_moved_0 {K : KT} {g : GT} {cm sm : Nat} {cs : Nat × Nat} {fr : Nat} {c0 : Nat} {x1 : Int} {x2 : Int} {x3 : Int} {x4 : Int} {cl : Nat → List Int → St → Option (Int × St)} {frc : Nat} {r : Int} {σ' : St} (hC : Ctx K g RX8 cX8_moved 9 fr cm sm) (hcs : cs.1 ≤ cm ∧ cs.2 ≤ sm) (h0 : isO 8 c0 = true) (hf : frc + 1 ≤ fr) (hf0 : 3 ≤ fr) (hl0 : ∀ (a0 : Int) (a1 : Int) (a2 : Int) (a3 : Int) (r : Int) (σ σ' : St), cl 0 [a0, a1, a2, a3] σ = some (r, σ') → Cn (Kl K) g yX8_moved cX8_moved 9 (some .int) frc 0 0 [vr c0, vi a0, vi a1, vi a2, vi a3] (SH0, σ) (some (vi r)) (SH0, σ')) (hl1 : ∀ (a0 : Int) (a1 : Int) (a2 : Int) (r : Int) (σ σ' : St), cl 1 [a0, a1, a2] σ = some (r, σ') → Cn (Kl K) g yX8_outcome cX8_outcome 6 (some .int) frc 0 0 [vr c0, vi a0, vi a1, vi a2] (SH0, σ) (some (vi r)) (SH0, σ')) (hR : RetI K g cX8_moved 9 cs r (SH0, σ')) : ∀ (σ : St), fX8_moved cl c0 x1 x2 x3 x4 σ = some (r, σ') → G K g 9 cs 0 [(0, vr c0), (1, vi x1), (2, vi x2), (3, vi x3), (4, vi x4)] [] (SH0, σ) := by
  intro σ h
  unfold fX8_moved at h
  refine g_aload_n hC dX8_moved_0 0 rfl rfl ?_
  refine g_getr hC dX8_moved_1 lfRX8_18 (isO_spec h0) (ft_8_0 h0) ?_
  refine g_getr hC dX8_moved_4 lfRX8_61 (isO_spec (rf_8_0 h0)) (ft_7_0 (rf_8_0 h0)) ?_
  refine g_astore hC dX8_moved_7 (Nat.le_of_ble_eq_true rfl) rfl ?_
  refine g_aload hC dX8_moved_9 0 rfl ?_
  refine g_iload_n hC dX8_moved_11 2 rfl rfl ?_
  refine g_bipush hC dX8_moved_12 bp_7 ?_
  obtain ⟨⟨r1, s1⟩, e1, h⟩ := of_bind h
  try dsimp only at h
  refine s_callVi hC dX8_moved_14 (tX2_number (rf_7_0 (rf_8_0 h0)) e1) miX2_number mvX2_number mlRX8_95 (isO_spec (rf_7_0 (rf_8_0 h0))) vc_2 rfl rfl (Nat.le_of_ble_eq_true rfl) (by omega) (Nat.le_of_ble_eq_true rfl) hcs ?_
  refine g_istore hC dX8_moved_17 (Nat.le_of_ble_eq_true rfl) rfl ?_
  refine g_aload hC dX8_moved_19 1 rfl ?_
  refine g_iload_n hC dX8_moved_21 4 rfl rfl ?_
  refine g_bipush hC dX8_moved_22 bp_8 ?_
  obtain ⟨⟨r2, s2⟩, e2, h⟩ := of_bind h
  try dsimp only at h
  refine s_callVi hC dX8_moved_24 (tX2_number (rf_7_0 (rf_8_0 h0)) e2) miX2_number mvX2_number mlRX8_95 (isO_spec (rf_7_0 (rf_8_0 h0))) vc_2 rfl rfl (Nat.le_of_ble_eq_true rfl) (by omega) (Nat.le_of_ble_eq_true rfl) hcs ?_
  refine g_istore hC dX8_moved_27 (Nat.le_of_ble_eq_true rfl) rfl ?_
  refine g_iload hC dX8_moved_29 7 rfl ?_
  refine g_if_ne hC dX8_moved_31 (tgt := 58) (by decide) (fun h9 => ?_) (fun h9 => ?_)
  · rw [if_neg h9] at h
    refine g_iload hC dX8_moved_58 7 rfl ?_
    refine g_iconst hC dX8_moved_60 ok_1 ?_
    refine g_icmp_ne hC dX8_moved_61 (tgt := 73) (by decide) (fun h9 => ?_) (fun h9 => ?_)
    · rw [if_neg h9] at h
      exact g_pick [3, 4, 5, 6, 7, 2, 1, 0] rfl (bX8_moved_73 hC hcs h0 hf hf0 hl0 hl1 hR _ _ _ _ (rf_7_0 (rf_8_0 h0)) h)
    · rw [if_pos h9] at h
      refine g_aload hC dX8_moved_64 2 rfl ?_
      refine g_iload_n hC dX8_moved_66 5 rfl rfl ?_
      refine g_bipush hC dX8_moved_67 bp_8 ?_
      refine g_iconst hC dX8_moved_69 ok_1 ?_
      obtain ⟨s3, e3, h⟩ := of_bind h
      try dsimp only at h
      refine s_callVv hC dX8_moved_70 (tX2_become (rf_7_0 (rf_8_0 h0)) e3) miX2_become mvX2_become mlRX8_101 (isO_spec (rf_7_0 (rf_8_0 h0))) vc_2 rfl rfl (Nat.le_of_ble_eq_true rfl) (by omega) (Nat.le_of_ble_eq_true rfl) hcs ?_
      exact g_pick [3, 4, 5, 6, 7, 2, 1, 0] rfl (bX8_moved_73 hC hcs h0 hf hf0 hl0 hl1 hR _ _ _ _ (rf_7_0 (rf_8_0 h0)) h)
  · rw [if_pos h9] at h
    refine g_aload hC dX8_moved_34 2 rfl ?_
    refine g_iload_n hC dX8_moved_36 4 rfl rfl ?_
    refine g_bipush hC dX8_moved_37 bp_7 ?_
    refine g_getsN (k := 0) hC dX8_moved_39 rfl gsRX8_98 ?_
    refine g_bipush hC dX8_moved_42 bp_7 ?_
    obtain ⟨b9, h⟩ := of_ite h
    refine g_oald (x := 0) hC dX8_moved_44 (xs := stv0) rfl b9 (stv0_ok _) ?_
    refine g_iload hC dX8_moved_45 1 rfl ?_
    refine g_iconst hC dX8_moved_47 ok_1 ?_
    refine g_iadd hC dX8_moved_48 ?_
    refine g_min hC dX8_moved_49 lmRX8_26 mn_1 mn_2 mn_3 (Nat.le_of_ble_eq_true rfl) (by omega) hcs ?_
    obtain ⟨s4, e4, h⟩ := of_bind h
    try dsimp only at h
    refine s_callVv hC dX8_moved_52 (tX2_become (rf_7_0 (rf_8_0 h0)) e4) miX2_become mvX2_become mlRX8_101 (isO_spec (rf_7_0 (rf_8_0 h0))) vc_2 rfl rfl (Nat.le_of_ble_eq_true rfl) (by omega) (Nat.le_of_ble_eq_true rfl) hcs ?_
    refine g_goto hC dX8_moved_55 (tgt := 73) (by decide) ?_
    exact g_pick [3, 4, 5, 6, 7, 2, 1, 0] rfl (bX8_moved_73 hC hcs h0 hf hf0 hl0 hl1 hR _ _ _ _ (rf_7_0 (rf_8_0 h0)) h)
theorem bX8_outcome_41 {K : KT} {g : GT} {cm sm : Nat} {cs : Nat × Nat} {fr : Nat} {c0 : Nat} {x1 : Int} {x2 : Int} {x3 : Int} {cl : Nat → List Int → St → Option (Int × St)} {frc : Nat} {r : Int} {σ' : St} (hC : Ctx K g RX8 cX8_outcome 6 fr cm sm) (hcs : cs.1 ≤ cm ∧ cs.2 ≤ sm) (h0 : isO 8 c0 = true) (hf : frc + 1 ≤ fr) (hf0 : 3 ≤ fr) (hl0 : ∀ (a0 : Int) (a1 : Int) (a2 : Int) (a3 : Int) (r : Int) (σ σ' : St), cl 0 [a0, a1, a2, a3] σ = some (r, σ') → Cn (Kl K) g yX8_moved cX8_moved 9 (some .int) frc 0 0 [vr c0, vi a0, vi a1, vi a2, vi a3] (SH0, σ) (some (vi r)) (SH0, σ')) (hl1 : ∀ (a0 : Int) (a1 : Int) (a2 : Int) (r : Int) (σ σ' : St), cl 1 [a0, a1, a2] σ = some (r, σ') → Cn (Kl K) g yX8_outcome cX8_outcome 6 (some .int) frc 0 0 [vr c0, vi a0, vi a1, vi a2] (SH0, σ) (some (vi r)) (SH0, σ')) (hR : RetI K g cX8_outcome 6 cs r (SH0, σ')) : ∀ (n : Nat) (x4 : Int) (x5 : Int) (σ : St), fX8_outcome_41 cl c0 x1 x2 x3 n x4 x5 σ = some (r, σ') → G K g 6 cs 41 [(0, vr c0), (1, vi x1), (2, vi x2), (3, vi x3), (4, vi x4), (5, vi x5)] [] (SH0, σ) := by
  intro n
  induction n with
  | zero =>
    intro x4 x5 σ h
    rw [fX8_outcome_41.eq_1] at h
    cases h
  | succ n ih =>
    intro x4 x5 σ h
    rw [fX8_outcome_41.eq_2] at h
    refine g_iload hC dX8_outcome_41 5 rfl ?_
    refine g_iconst hC dX8_outcome_43 ok_3 ?_
    refine g_icmp_ge hC dX8_outcome_44 (tgt := 81) (by decide) (fun h9 => ?_) (fun h9 => ?_)
    · rw [if_pos h9] at h
      refine g_iload hC dX8_outcome_81 4 rfl ?_
      exact ret_i h hR dX8_outcome_83
    · rw [if_neg h9] at h
      refine g_iload hC dX8_outcome_47 4 rfl ?_
      refine g_iconst hC dX8_outcome_49 ok_1 ?_
      refine g_icmp_ge hC dX8_outcome_50 (tgt := 81) (by decide) (fun h9 => ?_) (fun h9 => ?_)
      · rw [if_pos h9] at h
        refine g_iload hC dX8_outcome_81 4 rfl ?_
        exact ret_i h hR dX8_outcome_83
      · rw [if_neg h9] at h
        refine g_iload hC dX8_outcome_53 4 rfl ?_
        refine g_aload_n hC dX8_outcome_55 0 rfl rfl ?_
        refine g_iload_n hC dX8_outcome_56 1 rfl rfl ?_
        refine g_iload_n hC dX8_outcome_57 2 rfl rfl ?_
        refine g_iload_n hC dX8_outcome_58 3 rfl rfl ?_
        refine g_iconst hC dX8_outcome_59 ok_1 ?_
        refine g_isub hC dX8_outcome_60 ?_
        refine g_gets (k := 4) hC dX8_outcome_61 rfl gsRX8_82 ?_
        refine g_iload hC dX8_outcome_64 5 rfl ?_
        obtain ⟨b9, h⟩ := of_ite h
        refine g_oald (x := 0) hC dX8_outcome_66 (xs := stv4) rfl b9 (stv4_ok _) ?_
        obtain ⟨⟨r1, s1⟩, e1, h⟩ := of_bind h
        try dsimp only at h
        refine s_callVi hC dX8_outcome_67 (hl0 _ _ _ _ _ _ _ e1) miX8_moved mvX8_moved mlRX8_85 (isO_spec h0) vc_8 rfl rfl (Nat.le_of_ble_eq_true rfl) hf (Nat.le_of_ble_eq_true rfl) hcs ?_
        refine g_max hC dX8_outcome_70 lmRX8_92 mx_1 mn_2 mx_3 (Nat.le_of_ble_eq_true rfl) (by omega) hcs ?_
        refine g_istore hC dX8_outcome_73 (Nat.le_of_ble_eq_true rfl) rfl ?_
        refine g_iinc hC dX8_outcome_75 5 rfl (Nat.le_of_ble_eq_true rfl) rfl ?_
        refine g_goto hC dX8_outcome_78 (tgt := 41) (by decide) ?_
        exact g_pick [2, 3, 4, 5, 1, 0] rfl (ih _ _ _ h)
theorem bX8_outcome_0 {K : KT} {g : GT} {cm sm : Nat} {cs : Nat × Nat} {fr : Nat} {c0 : Nat} {x1 : Int} {x2 : Int} {x3 : Int} {cl : Nat → List Int → St → Option (Int × St)} {frc : Nat} {r : Int} {σ' : St} (hC : Ctx K g RX8 cX8_outcome 6 fr cm sm) (hcs : cs.1 ≤ cm ∧ cs.2 ≤ sm) (h0 : isO 8 c0 = true) (hf : frc + 1 ≤ fr) (hf0 : 3 ≤ fr) (hl0 : ∀ (a0 : Int) (a1 : Int) (a2 : Int) (a3 : Int) (r : Int) (σ σ' : St), cl 0 [a0, a1, a2, a3] σ = some (r, σ') → Cn (Kl K) g yX8_moved cX8_moved 9 (some .int) frc 0 0 [vr c0, vi a0, vi a1, vi a2, vi a3] (SH0, σ) (some (vi r)) (SH0, σ')) (hl1 : ∀ (a0 : Int) (a1 : Int) (a2 : Int) (r : Int) (σ σ' : St), cl 1 [a0, a1, a2] σ = some (r, σ') → Cn (Kl K) g yX8_outcome cX8_outcome 6 (some .int) frc 0 0 [vr c0, vi a0, vi a1, vi a2] (SH0, σ) (some (vi r)) (SH0, σ')) (hR : RetI K g cX8_outcome 6 cs r (SH0, σ')) : ∀ (σ : St), fX8_outcome cl c0 x1 x2 x3 σ = some (r, σ') → G K g 6 cs 0 [(0, vr c0), (1, vi x1), (2, vi x2), (3, vi x3)] [] (SH0, σ) := by
  intro σ h
  unfold fX8_outcome at h
  refine g_iload_n hC dX8_outcome_0 3 rfl rfl ?_
  refine g_if_gt hC dX8_outcome_1 (tgt := 35) (by decide) (fun h9 => ?_) (fun h9 => ?_)
  · rw [if_pos h9] at h
    refine g_iconst hC dX8_outcome_35 ok_m1 ?_
    refine g_istore hC dX8_outcome_36 (Nat.le_of_ble_eq_true rfl) rfl ?_
    refine g_iconst hC dX8_outcome_38 ok_0 ?_
    refine g_istore hC dX8_outcome_39 (Nat.le_of_ble_eq_true rfl) rfl ?_
    exact g_pick [2, 3, 4, 5, 1, 0] rfl (bX8_outcome_41 hC hcs h0 hf hf0 hl0 hl1 hR _ _ _ _ h)
  · rw [if_neg h9] at h
    refine g_aload_n hC dX8_outcome_4 0 rfl rfl ?_
    refine g_getr hC dX8_outcome_5 lfRX8_18 (isO_spec h0) (ft_8_0 h0) ?_
    obtain ⟨⟨r1, s1⟩, e1, h⟩ := of_bind h
    try dsimp only at h
    refine s_callVi hC dX8_outcome_8 (tX7_winner (rf_8_0 h0) e1) miX7_winner mvX7_winner mlRX8_78 (isO_spec (rf_8_0 h0)) vc_7 rfl rfl (Nat.le_of_ble_eq_true rfl) (by omega) (Nat.le_of_ble_eq_true rfl) hcs ?_
    refine g_istore hC dX8_outcome_11 (Nat.le_of_ble_eq_true rfl) rfl ?_
    refine g_iload hC dX8_outcome_13 0 rfl ?_
    refine g_iload_n hC dX8_outcome_15 2 rfl rfl ?_
    refine g_icmp_ne hC dX8_outcome_16 (tgt := 23) (by decide) (fun h9 => ?_) (fun h9 => ?_)
    · rw [if_neg h9] at h
      refine g_iload hC dX8_outcome_23 0 rfl ?_
      refine g_iload_n hC dX8_outcome_25 3 rfl rfl ?_
      refine g_icmp_ne hC dX8_outcome_26 (tgt := 33) (by decide) (fun h9 => ?_) (fun h9 => ?_)
      · rw [if_neg h9] at h
        refine g_iconst hC dX8_outcome_33 ok_0 ?_
        exact ret_i h hR dX8_outcome_34
      · rw [if_pos h9] at h
        refine g_iconst hC dX8_outcome_29 ok_m1 ?_
        refine g_goto hC dX8_outcome_30 (tgt := 34) (by decide) ?_
        exact ret_i h hR dX8_outcome_34
    · rw [if_pos h9] at h
      refine g_iconst hC dX8_outcome_19 ok_1 ?_
      refine g_goto hC dX8_outcome_20 (tgt := 34) (by decide) ?_
      exact ret_i h hR dX8_outcome_34
theorem cgX8_moved {l : Launch} {g : GT} {c0 : Nat} (h0 : isO 8 c0 = true) : ∀ d : Nat, (∀ (a0 : Int) (a1 : Int) (a2 : Int) (a3 : Int) (r : Int) (σ σ' : St), gX8_moved c0 d 0 [a0, a1, a2, a3] σ = some (r, σ') → Cn l g yX8_moved cX8_moved 9 (some .int) (3 + d) 0 0 [vr c0, vi a0, vi a1, vi a2, vi a3] (SH0, σ) (some (vi r)) (SH0, σ')) ∧ (∀ (a0 : Int) (a1 : Int) (a2 : Int) (r : Int) (σ σ' : St), gX8_moved c0 d 1 [a0, a1, a2] σ = some (r, σ') → Cn l g yX8_outcome cX8_outcome 6 (some .int) (3 + d) 0 0 [vr c0, vi a0, vi a1, vi a2] (SH0, σ) (some (vi r)) (SH0, σ')) := by
  intro d
  induction d with
  | zero =>
    refine ⟨?_, ?_⟩
    · intro a0 a1 a2 a3 r σ σ' h
      rw [gX8_moved_0] at h
      cases h
    · intro a0 a1 a2 r σ σ' h
      rw [gX8_moved_0] at h
      cases h
  | succ d ih =>
    obtain ⟨i0, i1⟩ := ih
    refine ⟨?_, ?_⟩
    · intro a0 a1 a2 a3 r σ σ' h
      rw [gX8_moved_s] at h
      have h : (fX8_moved (gX8_moved c0 d) c0 a0 a1 a2 a3 σ) = some (r, σ') := h
      exact Cn.ofI (by decide) (Nat.le_of_ble_eq_true rfl) (fun K e hC hR => by
        subst e
        exact bX8_moved_0 hC ⟨Nat.le_refl _, Nat.le_refl _⟩ h0 (frc := 3 + d) (by omega) (by omega) i0 i1 hR _ h)
    · intro a0 a1 a2 r σ σ' h
      rw [gX8_moved_s] at h
      have h : (fX8_outcome (gX8_moved c0 d) c0 a0 a1 a2 σ) = some (r, σ') := h
      exact Cn.ofI (by decide) (Nat.le_of_ble_eq_true rfl) (fun K e hC hR => by
        subst e
        exact bX8_outcome_0 hC ⟨Nat.le_refl _, Nat.le_refl _⟩ h0 (frc := 3 + d) (by omega) (by omega) i0 i1 hR _ h)

theorem tX8_moved {l : Launch} {g : GT} {c0 : Nat} {a0 : Int} {a1 : Int} {a2 : Int} {a3 : Int} {σ σ' : St} {r : Int} (h0 : isO 8 c0 = true) (h : hX8_moved c0 a0 a1 a2 a3 σ = some (r, σ')) : Cn l g yX8_moved cX8_moved 9 (some .int) 203 0 0 [vr c0, vi a0, vi a1, vi a2, vi a3] (SH0, σ) (some (vi r)) (SH0, σ') := by
  unfold hX8_moved at h
  exact (cgX8_moved h0 DEP).1 _ _ _ _ _ _ _ h
theorem tX8_outcome {l : Launch} {g : GT} {c0 : Nat} {a0 : Int} {a1 : Int} {a2 : Int} {σ σ' : St} {r : Int} (h0 : isO 8 c0 = true) (h : hX8_outcome c0 a0 a1 a2 σ = some (r, σ')) : Cn l g yX8_outcome cX8_outcome 6 (some .int) 203 0 0 [vr c0, vi a0, vi a1, vi a2] (SH0, σ) (some (vi r)) (SH0, σ') := by
  unfold hX8_outcome at h
  exact (cgX8_moved h0 DEP).2 _ _ _ _ _ _ h
theorem dX8_turns_0 : decode cX8_turns 0 = .ok (.bipush (-2), 2) := by decide +kernel
theorem dX8_turns_2 : decode cX8_turns 2 = .ok (.istore 4, 2) := by decide +kernel
theorem dX8_turns_4 : decode cX8_turns 4 = .ok (.iconst 0, 1) := by decide +kernel
theorem dX8_turns_5 : decode cX8_turns 5 = .ok (.istore 5, 2) := by decide +kernel
theorem dX8_turns_7 : decode cX8_turns 7 = .ok (.iload 5, 2) := by decide +kernel
theorem dX8_turns_9 : decode cX8_turns 9 = .ok (.iconst 3, 1) := by decide +kernel
theorem dX8_turns_10 : decode cX8_turns 10 = .ok (.if_icmp .ge 47, 3) := by decide +kernel
theorem dX8_turns_13 : decode cX8_turns 13 = .ok (.aload_n 0, 1) := by decide +kernel
theorem dX8_turns_14 : decode cX8_turns 14 = .ok (.iload_n 1, 1) := by decide +kernel
theorem dX8_turns_15 : decode cX8_turns 15 = .ok (.iload_n 2, 1) := by decide +kernel
theorem dX8_turns_16 : decode cX8_turns 16 = .ok (.iload_n 3, 1) := by decide +kernel
theorem dX8_turns_17 : decode cX8_turns 17 = .ok (.iconst 1, 1) := by decide +kernel
theorem dX8_turns_18 : decode cX8_turns 18 = .ok (.isub, 1) := by decide +kernel
theorem dX8_turns_19 : decode cX8_turns 19 = .ok (.getstatic 82, 3) := by decide +kernel
theorem dX8_turns_22 : decode cX8_turns 22 = .ok (.iload 5, 2) := by decide +kernel
theorem dX8_turns_24 : decode cX8_turns 24 = .ok (.iaload, 1) := by decide +kernel
theorem dX8_turns_25 : decode cX8_turns 25 = .ok (.invokevirtual 85, 3) := by decide +kernel
theorem dX8_turns_28 : decode cX8_turns 28 = .ok (.istore 6, 2) := by decide +kernel
theorem dX8_turns_30 : decode cX8_turns 30 = .ok (.iload 6, 2) := by decide +kernel
theorem dX8_turns_32 : decode cX8_turns 32 = .ok (.iload 4, 2) := by decide +kernel
theorem dX8_turns_34 : decode cX8_turns 34 = .ok (.if_icmp .le 17, 3) := by decide +kernel
theorem dX8_turns_37 : decode cX8_turns 37 = .ok (.iload 6, 2) := by decide +kernel
theorem dX8_turns_39 : decode cX8_turns 39 = .ok (.istore 4, 2) := by decide +kernel
theorem dX8_turns_41 : decode cX8_turns 41 = .ok (.aload_n 0, 1) := by decide +kernel
theorem dX8_turns_42 : decode cX8_turns 42 = .ok (.getstatic 82, 3) := by decide +kernel
theorem dX8_turns_45 : decode cX8_turns 45 = .ok (.iload 5, 2) := by decide +kernel
theorem dX8_turns_47 : decode cX8_turns 47 = .ok (.iaload, 1) := by decide +kernel
theorem dX8_turns_48 : decode cX8_turns 48 = .ok (.putfield 89, 3) := by decide +kernel
theorem dX8_turns_51 : decode cX8_turns 51 = .ok (.iinc 5 1, 3) := by decide +kernel
theorem dX8_turns_54 : decode cX8_turns 54 = .ok (.goto (-47), 3) := by decide +kernel
theorem dX8_turns_57 : decode cX8_turns 57 = .ok (.iload 4, 2) := by decide +kernel
theorem dX8_turns_59 : decode cX8_turns 59 = .ok (.ireturn, 1) := by decide +kernel
theorem bX8_turns_51 {K : KT} {g : GT} {cm sm : Nat} {cs : Nat × Nat} {c0 : Nat} {x1 : Int} {x2 : Int} {x3 : Int} {k7 : Int → Int → St → Option (Int × St)} {r : Int} {σ' : St} (hC : Ctx K g RX8 cX8_turns 7 204 cm sm) (hcs : cs.1 ≤ cm ∧ cs.2 ≤ sm) (h0 : isO 8 c0 = true) (hk7 : ∀ (x4 : Int) (x5 : Int) (σ : St), k7 x4 x5 σ = some (r, σ') → G K g 7 cs 7 [(0, vr c0), (1, vi x1), (2, vi x2), (3, vi x3), (4, vi x4), (5, vi x5)] [] (SH0, σ)) (hR : RetI K g cX8_turns 7 cs r (SH0, σ')) : ∀ (x4 : Int) (x5 : Int) (σ : St), fX8_turns_51 c0 x1 x2 x3 k7 x4 x5 σ = some (r, σ') → G K g 7 cs 51 [(0, vr c0), (1, vi x1), (2, vi x2), (3, vi x3), (4, vi x4), (5, vi x5)] [] (SH0, σ) := by
  intro x4 x5 σ h
  unfold fX8_turns_51 at h
  refine g_iinc hC dX8_turns_51 5 rfl (Nat.le_of_ble_eq_true rfl) rfl ?_
  refine g_goto hC dX8_turns_54 (tgt := 7) (by decide) ?_
  exact g_pick [1, 2, 3, 4, 5, 0] rfl (hk7 _ _ _ h)
theorem bX8_turns_7 {K : KT} {g : GT} {cm sm : Nat} {cs : Nat × Nat} {c0 : Nat} {x1 : Int} {x2 : Int} {x3 : Int} {r : Int} {σ' : St} (hC : Ctx K g RX8 cX8_turns 7 204 cm sm) (hcs : cs.1 ≤ cm ∧ cs.2 ≤ sm) (h0 : isO 8 c0 = true) (hR : RetI K g cX8_turns 7 cs r (SH0, σ')) : ∀ (n : Nat) (x4 : Int) (x5 : Int) (σ : St), fX8_turns_7 c0 x1 x2 x3 n x4 x5 σ = some (r, σ') → G K g 7 cs 7 [(0, vr c0), (1, vi x1), (2, vi x2), (3, vi x3), (4, vi x4), (5, vi x5)] [] (SH0, σ) := by
  intro n
  induction n with
  | zero =>
    intro x4 x5 σ h
    rw [fX8_turns_7.eq_1] at h
    cases h
  | succ n ih =>
    intro x4 x5 σ h
    rw [fX8_turns_7.eq_2] at h
    refine g_iload hC dX8_turns_7 5 rfl ?_
    refine g_iconst hC dX8_turns_9 ok_3 ?_
    refine g_icmp_ge hC dX8_turns_10 (tgt := 57) (by decide) (fun h9 => ?_) (fun h9 => ?_)
    · rw [if_pos h9] at h
      refine g_iload hC dX8_turns_57 4 rfl ?_
      exact ret_i h hR dX8_turns_59
    · rw [if_neg h9] at h
      refine g_aload_n hC dX8_turns_13 0 rfl rfl ?_
      refine g_iload_n hC dX8_turns_14 1 rfl rfl ?_
      refine g_iload_n hC dX8_turns_15 2 rfl rfl ?_
      refine g_iload_n hC dX8_turns_16 3 rfl rfl ?_
      refine g_iconst hC dX8_turns_17 ok_1 ?_
      refine g_isub hC dX8_turns_18 ?_
      refine g_gets (k := 4) hC dX8_turns_19 rfl gsRX8_82 ?_
      refine g_iload hC dX8_turns_22 5 rfl ?_
      obtain ⟨b9, h⟩ := of_ite h
      refine g_oald (x := 0) hC dX8_turns_24 (xs := stv4) rfl b9 (stv4_ok _) ?_
      obtain ⟨⟨r1, s1⟩, e1, h⟩ := of_bind h
      try dsimp only at h
      refine s_callVi hC dX8_turns_25 (tX8_moved h0 e1) miX8_moved mvX8_moved mlRX8_85 (isO_spec h0) vc_8 rfl rfl (Nat.le_of_ble_eq_true rfl) (Nat.le_of_ble_eq_true rfl) (Nat.le_of_ble_eq_true rfl) hcs ?_
      refine g_istore hC dX8_turns_28 (Nat.le_of_ble_eq_true rfl) rfl ?_
      refine g_iload hC dX8_turns_30 0 rfl ?_
      refine g_iload hC dX8_turns_32 5 rfl ?_
      refine g_icmp_le hC dX8_turns_34 (tgt := 51) (by decide) (fun h9 => ?_) (fun h9 => ?_)
      · rw [if_pos h9] at h
        exact g_pick [1, 2, 3, 4, 5, 6] rfl (bX8_turns_51 hC hcs h0 ih hR _ _ _ h)
      · rw [if_neg h9] at h
        refine g_iload hC dX8_turns_37 0 rfl ?_
        refine g_istore hC dX8_turns_39 (Nat.le_of_ble_eq_true rfl) rfl ?_
        refine g_aload_n hC dX8_turns_41 2 rfl rfl ?_
        refine g_gets (k := 4) hC dX8_turns_42 rfl gsRX8_82 ?_
        refine g_iload hC dX8_turns_45 6 rfl ?_
        obtain ⟨b9, h⟩ := of_ite h
        refine g_oald (x := 0) hC dX8_turns_47 (xs := stv4) rfl b9 (stv4_ok _) ?_
        refine g_puti hC dX8_turns_48 lfRX8_89 fp_8_5 (isO_spec h0) (ft_8_5 h0) ?_
        exact g_pick [2, 3, 4, 5, 0, 6] rfl (bX8_turns_51 hC hcs h0 ih hR _ _ _ h)
theorem bX8_turns_0 {K : KT} {g : GT} {cm sm : Nat} {cs : Nat × Nat} {c0 : Nat} {x1 : Int} {x2 : Int} {x3 : Int} {r : Int} {σ' : St} (hC : Ctx K g RX8 cX8_turns 7 204 cm sm) (hcs : cs.1 ≤ cm ∧ cs.2 ≤ sm) (h0 : isO 8 c0 = true) (hR : RetI K g cX8_turns 7 cs r (SH0, σ')) : ∀ (σ : St), fX8_turns c0 x1 x2 x3 σ = some (r, σ') → G K g 7 cs 0 [(0, vr c0), (1, vi x1), (2, vi x2), (3, vi x3)] [] (SH0, σ) := by
  intro σ h
  unfold fX8_turns at h
  refine g_bipush hC dX8_turns_0 bp_m2 ?_
  refine g_istore hC dX8_turns_2 (Nat.le_of_ble_eq_true rfl) rfl ?_
  refine g_iconst hC dX8_turns_4 ok_0 ?_
  refine g_istore hC dX8_turns_5 (Nat.le_of_ble_eq_true rfl) rfl ?_
  exact g_pick [2, 3, 4, 5, 1, 0] rfl (bX8_turns_7 hC hcs h0 hR _ _ _ _ h)
theorem tX8_turns {l : Launch} {g : GT} {c0 : Nat} {x1 : Int} {x2 : Int} {x3 : Int} {σ σ' : St} {r : Int} (h0 : isO 8 c0 = true) (h : fX8_turns c0 x1 x2 x3 σ = some (r, σ')) : Cn l g yX8_turns cX8_turns 7 (some .int) 204 0 0 [vr c0, vi x1, vi x2, vi x3] (SH0, σ) (some (vi r)) (SH0, σ') :=
  Cn.ofI (by decide) (Nat.le_of_ble_eq_true rfl) (fun K e hC hR => (bX8_turns_0 hC ⟨Nat.le_refl _, Nat.le_refl _⟩ h0 hR _ h))
theorem dX9_byTurns_0 : decode cX9_byTurns 0 = .ok (.iload_n 1, 1) := by decide +kernel
theorem dX9_byTurns_1 : decode cX9_byTurns 1 = .ok (.ifCond .lt 74, 3) := by decide +kernel
theorem dX9_byTurns_4 : decode cX9_byTurns 4 = .ok (.aload_n 0, 1) := by decide +kernel
theorem dX9_byTurns_5 : decode cX9_byTurns 5 = .ok (.getfield 10, 3) := by decide +kernel
theorem dX9_byTurns_8 : decode cX9_byTurns 8 = .ok (.iload_n 1, 1) := by decide +kernel
theorem dX9_byTurns_9 : decode cX9_byTurns 9 = .ok (.bipush 10, 2) := by decide +kernel
theorem dX9_byTurns_11 : decode cX9_byTurns 11 = .ok (.idiv, 1) := by decide +kernel
theorem dX9_byTurns_12 : decode cX9_byTurns 12 = .ok (.invokevirtual 180, 3) := by decide +kernel
theorem dX9_byTurns_15 : decode cX9_byTurns 15 = .ok (.ifCond .eq 60, 3) := by decide +kernel
theorem dX9_byTurns_18 : decode cX9_byTurns 18 = .ok (.aload_n 0, 1) := by decide +kernel
theorem dX9_byTurns_19 : decode cX9_byTurns 19 = .ok (.getfield 10, 3) := by decide +kernel
theorem dX9_byTurns_22 : decode cX9_byTurns 22 = .ok (.iload_n 1, 1) := by decide +kernel
theorem dX9_byTurns_23 : decode cX9_byTurns 23 = .ok (.bipush 10, 2) := by decide +kernel
theorem dX9_byTurns_25 : decode cX9_byTurns 25 = .ok (.irem, 1) := by decide +kernel
theorem dX9_byTurns_26 : decode cX9_byTurns 26 = .ok (.invokevirtual 180, 3) := by decide +kernel
theorem dX9_byTurns_29 : decode cX9_byTurns 29 = .ok (.ifCond .eq 46, 3) := by decide +kernel
theorem dX9_byTurns_32 : decode cX9_byTurns 32 = .ok (.iload_n 1, 1) := by decide +kernel
theorem dX9_byTurns_33 : decode cX9_byTurns 33 = .ok (.bipush 10, 2) := by decide +kernel
theorem dX9_byTurns_35 : decode cX9_byTurns 35 = .ok (.idiv, 1) := by decide +kernel
theorem dX9_byTurns_36 : decode cX9_byTurns 36 = .ok (.iload_n 1, 1) := by decide +kernel
theorem dX9_byTurns_37 : decode cX9_byTurns 37 = .ok (.bipush 10, 2) := by decide +kernel
theorem dX9_byTurns_39 : decode cX9_byTurns 39 = .ok (.irem, 1) := by decide +kernel
theorem dX9_byTurns_40 : decode cX9_byTurns 40 = .ok (.if_icmp .eq 35, 3) := by decide +kernel
theorem dX9_byTurns_43 : decode cX9_byTurns 43 = .ok (.aload_n 0, 1) := by decide +kernel
theorem dX9_byTurns_44 : decode cX9_byTurns 44 = .ok (.getfield 10, 3) := by decide +kernel
theorem dX9_byTurns_47 : decode cX9_byTurns 47 = .ok (.iload_n 2, 1) := by decide +kernel
theorem dX9_byTurns_48 : decode cX9_byTurns 48 = .ok (.invokevirtual 161, 3) := by decide +kernel
theorem dX9_byTurns_51 : decode cX9_byTurns 51 = .ok (.ifCond .eq 24, 3) := by decide +kernel
theorem dX9_byTurns_54 : decode cX9_byTurns 54 = .ok (.iload_n 3, 1) := by decide +kernel
theorem dX9_byTurns_55 : decode cX9_byTurns 55 = .ok (.iconst 1, 1) := by decide +kernel
theorem dX9_byTurns_56 : decode cX9_byTurns 56 = .ok (.if_icmp .lt 19, 3) := by decide +kernel
theorem dX9_byTurns_59 : decode cX9_byTurns 59 = .ok (.iload_n 3, 1) := by decide +kernel
theorem dX9_byTurns_60 : decode cX9_byTurns 60 = .ok (.iconst 5, 1) := by decide +kernel
theorem dX9_byTurns_61 : decode cX9_byTurns 61 = .ok (.if_icmp .gt 14, 3) := by decide +kernel
theorem dX9_byTurns_64 : decode cX9_byTurns 64 = .ok (.iload 4, 2) := by decide +kernel
theorem dX9_byTurns_66 : decode cX9_byTurns 66 = .ok (.ifCond .lt 9, 3) := by decide +kernel
theorem dX9_byTurns_69 : decode cX9_byTurns 69 = .ok (.iload 4, 2) := by decide +kernel
theorem dX9_byTurns_71 : decode cX9_byTurns 71 = .ok (.iconst 1, 1) := by decide +kernel
theorem dX9_byTurns_72 : decode cX9_byTurns 72 = .ok (.if_icmp .le 6, 3) := by decide +kernel
theorem dX9_byTurns_75 : decode cX9_byTurns 75 = .ok (.ldc 121, 2) := by decide +kernel
theorem dX9_byTurns_77 : decode cX9_byTurns 77 = .ok (.ireturn, 1) := by decide +kernel
theorem dX9_byTurns_78 : decode cX9_byTurns 78 = .ok (.aload_n 0, 1) := by decide +kernel
theorem dX9_byTurns_79 : decode cX9_byTurns 79 = .ok (.getfield 28, 3) := by decide +kernel
theorem dX9_byTurns_82 : decode cX9_byTurns 82 = .ok (.aload_n 0, 1) := by decide +kernel
theorem dX9_byTurns_83 : decode cX9_byTurns 83 = .ok (.getfield 10, 3) := by decide +kernel
theorem dX9_byTurns_86 : decode cX9_byTurns 86 = .ok (.invokevirtual 147, 3) := by decide +kernel
theorem dX9_byTurns_89 : decode cX9_byTurns 89 = .ok (.aload_n 0, 1) := by decide +kernel
theorem dX9_byTurns_90 : decode cX9_byTurns 90 = .ok (.getfield 28, 3) := by decide +kernel
theorem dX9_byTurns_93 : decode cX9_byTurns 93 = .ok (.iload_n 2, 1) := by decide +kernel
theorem dX9_byTurns_94 : decode cX9_byTurns 94 = .ok (.invokevirtual 151, 3) := by decide +kernel
theorem dX9_byTurns_97 : decode cX9_byTurns 97 = .ok (.aload_n 0, 1) := by decide +kernel
theorem dX9_byTurns_98 : decode cX9_byTurns 98 = .ok (.getfield 37, 3) := by decide +kernel
theorem dX9_byTurns_101 : decode cX9_byTurns 101 = .ok (.iload_n 1, 1) := by decide +kernel
theorem dX9_byTurns_102 : decode cX9_byTurns 102 = .ok (.bipush 10, 2) := by decide +kernel
theorem dX9_byTurns_104 : decode cX9_byTurns 104 = .ok (.idiv, 1) := by decide +kernel
theorem dX9_byTurns_105 : decode cX9_byTurns 105 = .ok (.iload_n 1, 1) := by decide +kernel
theorem dX9_byTurns_106 : decode cX9_byTurns 106 = .ok (.bipush 10, 2) := by decide +kernel
theorem dX9_byTurns_108 : decode cX9_byTurns 108 = .ok (.irem, 1) := by decide +kernel
theorem dX9_byTurns_109 : decode cX9_byTurns 109 = .ok (.iload_n 3, 1) := by decide +kernel
theorem dX9_byTurns_110 : decode cX9_byTurns 110 = .ok (.invokevirtual 250, 3) := by decide +kernel
theorem dX9_byTurns_113 : decode cX9_byTurns 113 = .ok (.istore 5, 2) := by decide +kernel
theorem dX9_byTurns_115 : decode cX9_byTurns 115 = .ok (.iload 4, 2) := by decide +kernel
theorem dX9_byTurns_117 : decode cX9_byTurns 117 = .ok (.ifCond .ne 8, 3) := by decide +kernel
theorem dX9_byTurns_120 : decode cX9_byTurns 120 = .ok (.iload 5, 2) := by decide +kernel
theorem dX9_byTurns_122 : decode cX9_byTurns 122 = .ok (.goto 10, 3) := by decide +kernel
theorem dX9_byTurns_125 : decode cX9_byTurns 125 = .ok (.aload_n 0, 1) := by decide +kernel
theorem dX9_byTurns_126 : decode cX9_byTurns 126 = .ok (.getfield 37, 3) := by decide +kernel
theorem dX9_byTurns_129 : decode cX9_byTurns 129 = .ok (.getfield 253, 3) := by decide +kernel
theorem dX9_byTurns_132 : decode cX9_byTurns 132 = .ok (.ireturn, 1) := by decide +kernel
theorem bX9_byTurns_0 {K : KT} {g : GT} {cm sm : Nat} {cs : Nat × Nat} {c0 : Nat} {x1 : Int} {x2 : Int} {x3 : Int} {x4 : Int} {r : Int} {σ' : St} (hC : Ctx K g RX9 cX9_byTurns 6 205 cm sm) (hcs : cs.1 ≤ cm ∧ cs.2 ≤ sm) (h0 : isO 9 c0 = true) (hR : RetI K g cX9_byTurns 6 cs r (SH0, σ')) : ∀ (σ : St), fX9_byTurns c0 x1 x2 x3 x4 σ = some (r, σ') → G K g 6 cs 0 [(0, vr c0), (1, vi x1), (2, vi x2), (3, vi x3), (4, vi x4)] [] (SH0, σ) := by
  intro σ h
  unfold fX9_byTurns at h
  refine g_iload_n hC dX9_byTurns_0 1 rfl rfl ?_
  refine g_if_lt hC dX9_byTurns_1 (tgt := 75) (by decide) (fun h9 => ?_) (fun h9 => ?_)
  · rw [if_pos h9] at h
    refine g_ldc hC dX9_byTurns_75 kRX9_121 ?_
    exact ret_i h hR dX9_byTurns_77
  · rw [if_neg h9] at h
    refine g_aload_n hC dX9_byTurns_4 0 rfl rfl ?_
    refine g_getr hC dX9_byTurns_5 lfRX9_10 (isO_spec h0) (ft_9_0 h0) ?_
    refine g_iload_n hC dX9_byTurns_8 1 rfl rfl ?_
    refine g_bipush hC dX9_byTurns_9 bp_10 ?_
    refine g_idiv hC dX9_byTurns_11 (by decide) ?_
    obtain ⟨⟨r1, s1⟩, e1, h⟩ := of_bind h
    try dsimp only at h
    refine s_callVi hC dX9_byTurns_12 (tX2_hasBidder (rf_9_0 h0) e1) miX2_hasBidder mvX2_hasBidder mlRX9_180 (isO_spec (rf_9_0 h0)) vc_2 rfl rfl (Nat.le_of_ble_eq_true rfl) (Nat.le_of_ble_eq_true rfl) (Nat.le_of_ble_eq_true rfl) hcs ?_
    refine g_if_eq hC dX9_byTurns_15 (tgt := 75) (by decide) (fun h9 => ?_) (fun h9 => ?_)
    · rw [if_pos h9] at h
      refine g_ldc hC dX9_byTurns_75 kRX9_121 ?_
      exact ret_i h hR dX9_byTurns_77
    · rw [if_neg h9] at h
      refine g_aload_n hC dX9_byTurns_18 0 rfl rfl ?_
      refine g_getr hC dX9_byTurns_19 lfRX9_10 (isO_spec h0) (ft_9_0 h0) ?_
      refine g_iload_n hC dX9_byTurns_22 1 rfl rfl ?_
      refine g_bipush hC dX9_byTurns_23 bp_10 ?_
      refine g_irem hC dX9_byTurns_25 (by decide) ?_
      obtain ⟨⟨r2, s2⟩, e2, h⟩ := of_bind h
      try dsimp only at h
      refine s_callVi hC dX9_byTurns_26 (tX2_hasBidder (rf_9_0 h0) e2) miX2_hasBidder mvX2_hasBidder mlRX9_180 (isO_spec (rf_9_0 h0)) vc_2 rfl rfl (Nat.le_of_ble_eq_true rfl) (Nat.le_of_ble_eq_true rfl) (Nat.le_of_ble_eq_true rfl) hcs ?_
      refine g_if_eq hC dX9_byTurns_29 (tgt := 75) (by decide) (fun h9 => ?_) (fun h9 => ?_)
      · rw [if_pos h9] at h
        refine g_ldc hC dX9_byTurns_75 kRX9_121 ?_
        exact ret_i h hR dX9_byTurns_77
      · rw [if_neg h9] at h
        refine g_iload_n hC dX9_byTurns_32 1 rfl rfl ?_
        refine g_bipush hC dX9_byTurns_33 bp_10 ?_
        refine g_idiv hC dX9_byTurns_35 (by decide) ?_
        refine g_iload_n hC dX9_byTurns_36 1 rfl rfl ?_
        refine g_bipush hC dX9_byTurns_37 bp_10 ?_
        refine g_irem hC dX9_byTurns_39 (by decide) ?_
        refine g_icmp_eq hC dX9_byTurns_40 (tgt := 75) (by decide) (fun h9 => ?_) (fun h9 => ?_)
        · rw [if_pos h9] at h
          refine g_ldc hC dX9_byTurns_75 kRX9_121 ?_
          exact ret_i h hR dX9_byTurns_77
        · rw [if_neg h9] at h
          refine g_aload_n hC dX9_byTurns_43 0 rfl rfl ?_
          refine g_getr hC dX9_byTurns_44 lfRX9_10 (isO_spec h0) (ft_9_0 h0) ?_
          refine g_iload_n hC dX9_byTurns_47 2 rfl rfl ?_
          obtain ⟨⟨r3, s3⟩, e3, h⟩ := of_bind h
          try dsimp only at h
          refine s_callVi hC dX9_byTurns_48 (tX2_hasThing (rf_9_0 h0) e3) miX2_hasThing mvX2_hasThing mlRX9_161 (isO_spec (rf_9_0 h0)) vc_2 rfl rfl (Nat.le_of_ble_eq_true rfl) (Nat.le_of_ble_eq_true rfl) (Nat.le_of_ble_eq_true rfl) hcs ?_
          refine g_if_eq hC dX9_byTurns_51 (tgt := 75) (by decide) (fun h9 => ?_) (fun h9 => ?_)
          · rw [if_pos h9] at h
            refine g_ldc hC dX9_byTurns_75 kRX9_121 ?_
            exact ret_i h hR dX9_byTurns_77
          · rw [if_neg h9] at h
            refine g_iload_n hC dX9_byTurns_54 3 rfl rfl ?_
            refine g_iconst hC dX9_byTurns_55 ok_1 ?_
            refine g_icmp_lt hC dX9_byTurns_56 (tgt := 75) (by decide) (fun h9 => ?_) (fun h9 => ?_)
            · rw [if_pos h9] at h
              refine g_ldc hC dX9_byTurns_75 kRX9_121 ?_
              exact ret_i h hR dX9_byTurns_77
            · rw [if_neg h9] at h
              refine g_iload_n hC dX9_byTurns_59 3 rfl rfl ?_
              refine g_iconst hC dX9_byTurns_60 ok_5 ?_
              refine g_icmp_gt hC dX9_byTurns_61 (tgt := 75) (by decide) (fun h9 => ?_) (fun h9 => ?_)
              · rw [if_pos h9] at h
                refine g_ldc hC dX9_byTurns_75 kRX9_121 ?_
                exact ret_i h hR dX9_byTurns_77
              · rw [if_neg h9] at h
                refine g_iload hC dX9_byTurns_64 4 rfl ?_
                refine g_if_lt hC dX9_byTurns_66 (tgt := 75) (by decide) (fun h9 => ?_) (fun h9 => ?_)
                · rw [if_pos h9] at h
                  refine g_ldc hC dX9_byTurns_75 kRX9_121 ?_
                  exact ret_i h hR dX9_byTurns_77
                · rw [if_neg h9] at h
                  refine g_iload hC dX9_byTurns_69 4 rfl ?_
                  refine g_iconst hC dX9_byTurns_71 ok_1 ?_
                  refine g_icmp_le hC dX9_byTurns_72 (tgt := 78) (by decide) (fun h9 => ?_) (fun h9 => ?_)
                  · rw [if_pos h9] at h
                    refine g_aload_n hC dX9_byTurns_78 0 rfl rfl ?_
                    refine g_getr hC dX9_byTurns_79 lfRX9_28 (isO_spec h0) (ft_9_2 h0) ?_
                    refine g_aload_n hC dX9_byTurns_82 0 rfl rfl ?_
                    refine g_getr hC dX9_byTurns_83 lfRX9_10 (isO_spec h0) (ft_9_0 h0) ?_
                    obtain ⟨s4, e4, h⟩ := of_bind h
                    try dsimp only at h
                    refine s_callVv hC dX9_byTurns_86 (tX7_begin (rf_9_2 h0) (rf_9_0 h0) e4) miX7_begin mvX7_begin mlRX9_147 (isO_spec (rf_9_2 h0)) vc_7 rfl rfl (Nat.le_of_ble_eq_true rfl) (Nat.le_of_ble_eq_true rfl) (Nat.le_of_ble_eq_true rfl) hcs ?_
                    refine g_aload_n hC dX9_byTurns_89 0 rfl rfl ?_
                    refine g_getr hC dX9_byTurns_90 lfRX9_28 (isO_spec h0) (ft_9_2 h0) ?_
                    refine g_iload_n hC dX9_byTurns_93 2 rfl rfl ?_
                    obtain ⟨s5, e5, h⟩ := of_bind h
                    try dsimp only at h
                    refine s_callVv hC dX9_byTurns_94 (tX7_considers (rf_9_2 h0) e5) miX7_considers mvX7_considers mlRX9_151 (isO_spec (rf_9_2 h0)) vc_7 rfl rfl (Nat.le_of_ble_eq_true rfl) (Nat.le_of_ble_eq_true rfl) (Nat.le_of_ble_eq_true rfl) hcs ?_
                    refine g_aload_n hC dX9_byTurns_97 0 rfl rfl ?_
                    refine g_getr hC dX9_byTurns_98 lfRX9_37 (isO_spec h0) (ft_9_3 h0) ?_
                    refine g_iload_n hC dX9_byTurns_101 1 rfl rfl ?_
                    refine g_bipush hC dX9_byTurns_102 bp_10 ?_
                    refine g_idiv hC dX9_byTurns_104 (by decide) ?_
                    refine g_iload_n hC dX9_byTurns_105 1 rfl rfl ?_
                    refine g_bipush hC dX9_byTurns_106 bp_10 ?_
                    refine g_irem hC dX9_byTurns_108 (by decide) ?_
                    refine g_iload_n hC dX9_byTurns_109 3 rfl rfl ?_
                    obtain ⟨⟨r6, s6⟩, e6, h⟩ := of_bind h
                    try dsimp only at h
                    refine s_callVi hC dX9_byTurns_110 (tX8_turns (rf_9_3 h0) e6) miX8_turns mvX8_turns mlRX9_250 (isO_spec (rf_9_3 h0)) vc_8 rfl rfl (Nat.le_of_ble_eq_true rfl) (Nat.le_of_ble_eq_true rfl) (Nat.le_of_ble_eq_true rfl) hcs ?_
                    refine g_istore hC dX9_byTurns_113 (Nat.le_of_ble_eq_true rfl) rfl ?_
                    refine g_iload hC dX9_byTurns_115 5 rfl ?_
                    refine g_if_ne hC dX9_byTurns_117 (tgt := 125) (by decide) (fun h9 => ?_) (fun h9 => ?_)
                    · rw [if_neg h9] at h
                      refine g_aload_n hC dX9_byTurns_125 1 rfl rfl ?_
                      refine g_getr hC dX9_byTurns_126 lfRX9_37 (isO_spec h0) (ft_9_3 h0) ?_
                      refine g_geti hC dX9_byTurns_129 lfRX9_253 (isO_spec (rf_9_3 h0)) (ft_8_5 (rf_9_3 h0)) ?_
                      exact ret_i h hR dX9_byTurns_132
                    · rw [if_pos h9] at h
                      refine g_iload hC dX9_byTurns_120 0 rfl ?_
                      refine g_goto hC dX9_byTurns_122 (tgt := 132) (by decide) ?_
                      exact ret_i h hR dX9_byTurns_132
                  · rw [if_neg h9] at h
                    refine g_ldc hC dX9_byTurns_75 kRX9_121 ?_
                    exact ret_i h hR dX9_byTurns_77
theorem tX9_byTurns {l : Launch} {g : GT} {c0 : Nat} {x1 : Int} {x2 : Int} {x3 : Int} {x4 : Int} {σ σ' : St} {r : Int} (h0 : isO 9 c0 = true) (h : fX9_byTurns c0 x1 x2 x3 x4 σ = some (r, σ')) : Cn l g yX9_byTurns cX9_byTurns 6 (some .int) 205 0 0 [vr c0, vi x1, vi x2, vi x3, vi x4] (SH0, σ) (some (vi r)) (SH0, σ') :=
  Cn.ofI (by decide) (Nat.le_of_ble_eq_true rfl) (fun K e hC hR => (bX9_byTurns_0 hC ⟨Nat.le_refl _, Nat.le_refl _⟩ h0 hR _ h))
theorem dX9_count_0 : decode cX9_count 0 = .ok (.iload_n 1, 1) := by decide +kernel
theorem dX9_count_1 : decode cX9_count 1 = .ok (.tableswitch 87 0 5 #[39, 47, 55, 63, 71, 79], 39) := by decide +kernel
theorem dX9_count_40 : decode cX9_count 40 = .ok (.aload_n 0, 1) := by decide +kernel
theorem dX9_count_41 : decode cX9_count 41 = .ok (.getfield 10, 3) := by decide +kernel
theorem dX9_count_44 : decode cX9_count 44 = .ok (.getfield 222, 3) := by decide +kernel
theorem dX9_count_47 : decode cX9_count 47 = .ok (.ireturn, 1) := by decide +kernel
theorem dX9_count_48 : decode cX9_count 48 = .ok (.aload_n 0, 1) := by decide +kernel
theorem dX9_count_49 : decode cX9_count 49 = .ok (.getfield 10, 3) := by decide +kernel
theorem dX9_count_52 : decode cX9_count 52 = .ok (.getfield 352, 3) := by decide +kernel
theorem dX9_count_55 : decode cX9_count 55 = .ok (.ireturn, 1) := by decide +kernel
theorem dX9_count_56 : decode cX9_count 56 = .ok (.aload_n 0, 1) := by decide +kernel
theorem dX9_count_57 : decode cX9_count 57 = .ok (.getfield 19, 3) := by decide +kernel
theorem dX9_count_60 : decode cX9_count 60 = .ok (.getfield 355, 3) := by decide +kernel
theorem dX9_count_63 : decode cX9_count 63 = .ok (.ireturn, 1) := by decide +kernel
theorem dX9_count_64 : decode cX9_count 64 = .ok (.aload_n 0, 1) := by decide +kernel
theorem dX9_count_65 : decode cX9_count 65 = .ok (.getfield 51, 3) := by decide +kernel
theorem dX9_count_68 : decode cX9_count 68 = .ok (.getfield 282, 3) := by decide +kernel
theorem dX9_count_71 : decode cX9_count 71 = .ok (.ireturn, 1) := by decide +kernel
theorem dX9_count_72 : decode cX9_count 72 = .ok (.aload_n 0, 1) := by decide +kernel
theorem dX9_count_73 : decode cX9_count 73 = .ok (.getfield 65, 3) := by decide +kernel
theorem dX9_count_76 : decode cX9_count 76 = .ok (.getfield 358, 3) := by decide +kernel
theorem dX9_count_79 : decode cX9_count 79 = .ok (.ireturn, 1) := by decide +kernel
theorem dX9_count_80 : decode cX9_count 80 = .ok (.aload_n 0, 1) := by decide +kernel
theorem dX9_count_81 : decode cX9_count 81 = .ok (.getfield 65, 3) := by decide +kernel
theorem dX9_count_84 : decode cX9_count 84 = .ok (.getfield 361, 3) := by decide +kernel
theorem dX9_count_87 : decode cX9_count 87 = .ok (.ireturn, 1) := by decide +kernel
theorem dX9_count_88 : decode cX9_count 88 = .ok (.iconst (-1), 1) := by decide +kernel
theorem dX9_count_89 : decode cX9_count 89 = .ok (.ireturn, 1) := by decide +kernel
theorem bX9_count_0 {K : KT} {g : GT} {cm sm : Nat} {cs : Nat × Nat} {c0 : Nat} {x1 : Int} {r : Int} {σ' : St} (hC : Ctx K g RX9 cX9_count 2 0 cm sm) (hcs : cs.1 ≤ cm ∧ cs.2 ≤ sm) (h0 : isO 9 c0 = true) (hR : RetI K g cX9_count 2 cs r (SH0, σ')) : ∀ (σ : St), fX9_count c0 x1 σ = some (r, σ') → G K g 2 cs 0 [(0, vr c0), (1, vi x1)] [] (SH0, σ) := by
  intro σ h
  unfold fX9_count at h
  refine g_iload_n hC dX9_count_0 1 rfl rfl ?_
  by_cases h9 : x1 = 0
  · rw [if_pos h9] at h
    refine g_table hC dX9_count_1 40 (Or.inr (by (try dsimp only); rw [h9]; exact ⟨by decide, by decide, 39, rfl, by decide⟩)) ?_
    refine g_aload_n hC dX9_count_40 0 rfl rfl ?_
    refine g_getr hC dX9_count_41 lfRX9_10 (isO_spec h0) (ft_9_0 h0) ?_
    refine g_geti hC dX9_count_44 lfRX9_222 (isO_spec (rf_9_0 h0)) (ft_2_2 (rf_9_0 h0)) ?_
    exact ret_i h hR dX9_count_47
  rw [if_neg h9] at h
  have n1 := h9
  clear h9
  by_cases h9 : x1 = 1
  · rw [if_pos h9] at h
    refine g_table hC dX9_count_1 48 (Or.inr (by (try dsimp only); rw [h9]; exact ⟨by decide, by decide, 47, rfl, by decide⟩)) ?_
    refine g_aload_n hC dX9_count_48 0 rfl rfl ?_
    refine g_getr hC dX9_count_49 lfRX9_10 (isO_spec h0) (ft_9_0 h0) ?_
    refine g_geti hC dX9_count_52 lfRX9_352 (isO_spec (rf_9_0 h0)) (ft_2_3 (rf_9_0 h0)) ?_
    exact ret_i h hR dX9_count_55
  rw [if_neg h9] at h
  have n2 := h9
  clear h9
  by_cases h9 : x1 = 2
  · rw [if_pos h9] at h
    refine g_table hC dX9_count_1 56 (Or.inr (by (try dsimp only); rw [h9]; exact ⟨by decide, by decide, 55, rfl, by decide⟩)) ?_
    refine g_aload_n hC dX9_count_56 0 rfl rfl ?_
    refine g_getr hC dX9_count_57 lfRX9_19 (isO_spec h0) (ft_9_1 h0) ?_
    refine g_geti hC dX9_count_60 lfRX9_355 (isO_spec (rf_9_1 h0)) (ft_4_5 (rf_9_1 h0)) ?_
    exact ret_i h hR dX9_count_63
  rw [if_neg h9] at h
  have n3 := h9
  clear h9
  by_cases h9 : x1 = 3
  · rw [if_pos h9] at h
    refine g_table hC dX9_count_1 64 (Or.inr (by (try dsimp only); rw [h9]; exact ⟨by decide, by decide, 63, rfl, by decide⟩)) ?_
    refine g_aload_n hC dX9_count_64 0 rfl rfl ?_
    refine g_getr hC dX9_count_65 lfRX9_51 (isO_spec h0) (ft_9_5 h0) ?_
    refine g_geti hC dX9_count_68 lfRX9_282 (isO_spec (rf_9_5 h0)) (ft_0_1 (rf_9_5 h0)) ?_
    exact ret_i h hR dX9_count_71
  rw [if_neg h9] at h
  have n4 := h9
  clear h9
  by_cases h9 : x1 = 4
  · rw [if_pos h9] at h
    refine g_table hC dX9_count_1 72 (Or.inr (by (try dsimp only); rw [h9]; exact ⟨by decide, by decide, 71, rfl, by decide⟩)) ?_
    refine g_aload_n hC dX9_count_72 0 rfl rfl ?_
    refine g_getr hC dX9_count_73 lfRX9_65 (isO_spec h0) (ft_9_7 h0) ?_
    refine g_geti hC dX9_count_76 lfRX9_358 (isO_spec (rf_9_7 h0)) (ft_5_2 (rf_9_7 h0)) ?_
    exact ret_i h hR dX9_count_79
  rw [if_neg h9] at h
  have n5 := h9
  clear h9
  by_cases h9 : x1 = 5
  · rw [if_pos h9] at h
    refine g_table hC dX9_count_1 80 (Or.inr (by (try dsimp only); rw [h9]; exact ⟨by decide, by decide, 79, rfl, by decide⟩)) ?_
    refine g_aload_n hC dX9_count_80 0 rfl rfl ?_
    refine g_getr hC dX9_count_81 lfRX9_65 (isO_spec h0) (ft_9_7 h0) ?_
    refine g_geti hC dX9_count_84 lfRX9_361 (isO_spec (rf_9_7 h0)) (ft_5_3 (rf_9_7 h0)) ?_
    exact ret_i h hR dX9_count_87
  rw [if_neg h9] at h
  have n6 := h9
  clear h9
  refine g_table hC dX9_count_1 88 (by
    exact Or.inl ⟨by (try dsimp only); omega, by decide⟩) ?_
  refine g_iconst hC dX9_count_88 ok_m1 ?_
  exact ret_i h hR dX9_count_89
theorem tX9_count {l : Launch} {g : GT} {c0 : Nat} {x1 : Int} {σ σ' : St} {r : Int} (h0 : isO 9 c0 = true) (h : fX9_count c0 x1 σ = some (r, σ')) : Cn l g yX9_count cX9_count 2 (some .int) 0 0 0 [vr c0, vi x1] (SH0, σ) (some (vi r)) (SH0, σ') :=
  Cn.ofI (by decide) (Nat.le_of_ble_eq_true rfl) (fun K e hC hR => (bX9_count_0 hC ⟨Nat.le_refl _, Nat.le_refl _⟩ h0 hR _ h))
theorem dJ7_fill_d0a16_0 : decode cJ7_fill_d0a16 0 = .ok (.iconst 0, 1) := by decide +kernel
theorem dJ7_fill_d0a16_1 : decode cJ7_fill_d0a16 1 = .ok (.istore_n 3, 1) := by decide +kernel
theorem dJ7_fill_d0a16_2 : decode cJ7_fill_d0a16 2 = .ok (.aload_n 0, 1) := by decide +kernel
theorem dJ7_fill_d0a16_3 : decode cJ7_fill_d0a16 3 = .ok (.arraylength, 1) := by decide +kernel
theorem dJ7_fill_d0a16_4 : decode cJ7_fill_d0a16 4 = .ok (.istore 4, 2) := by decide +kernel
theorem dJ7_fill_d0a16_6 : decode cJ7_fill_d0a16 6 = .ok (.iload_n 3, 1) := by decide +kernel
theorem dJ7_fill_d0a16_7 : decode cJ7_fill_d0a16 7 = .ok (.iload 4, 2) := by decide +kernel
theorem dJ7_fill_d0a16_9 : decode cJ7_fill_d0a16 9 = .ok (.if_icmp .ge 13, 3) := by decide +kernel
theorem dJ7_fill_d0a16_12 : decode cJ7_fill_d0a16 12 = .ok (.aload_n 0, 1) := by decide +kernel
theorem dJ7_fill_d0a16_13 : decode cJ7_fill_d0a16 13 = .ok (.iload_n 3, 1) := by decide +kernel
theorem dJ7_fill_d0a16_14 : decode cJ7_fill_d0a16 14 = .ok (.lload_n 1, 1) := by decide +kernel
theorem dJ7_fill_d0a16_15 : decode cJ7_fill_d0a16 15 = .ok (.lastore, 1) := by decide +kernel
theorem dJ7_fill_d0a16_16 : decode cJ7_fill_d0a16 16 = .ok (.iinc 3 1, 3) := by decide +kernel
theorem dJ7_fill_d0a16_19 : decode cJ7_fill_d0a16 19 = .ok (.goto (-13), 3) := by decide +kernel
theorem dJ7_fill_d0a16_22 : decode cJ7_fill_d0a16 22 = .ok (.return_, 1) := by decide +kernel
theorem bJ7_fill_d0a16_6 {K : KT} {g : GT} {cm sm : Nat} {cs : Nat × Nat} {c0 : Nat} {x1 : Int} {σ' : St} (hC : Ctx K g RJ7 cJ7_fill_d0a16 5 0 cm sm) (hcs : cs.1 ≤ cm ∧ cs.2 ≤ sm) (h0 : isA 2 c0 = true) (hR : RetV K g cJ7_fill_d0a16 5 cs (SH0, σ')) : ∀ (n : Nat) (x3 : Int) (x4 : Int) (σ : St), fJ7_fill_d0a16_6 c0 x1 n x3 x4 σ = some σ' → G K g 5 cs 6 [(0, vr c0), (1, vl x1), (3, vi x3), (4, vi x4)] [] (SH0, σ) := by
  intro n
  induction n with
  | zero =>
    intro x3 x4 σ h
    rw [fJ7_fill_d0a16_6.eq_1] at h
    cases h
  | succ n ih =>
    intro x3 x4 σ h
    rw [fJ7_fill_d0a16_6.eq_2] at h
    refine g_iload_n hC dJ7_fill_d0a16_6 2 rfl rfl ?_
    refine g_iload hC dJ7_fill_d0a16_7 3 rfl ?_
    refine g_icmp_ge hC dJ7_fill_d0a16_9 (tgt := 22) (by decide) (fun h9 => ?_) (fun h9 => ?_)
    · rw [if_pos h9] at h
      exact ret_v h hR dJ7_fill_d0a16_22
    · rw [if_neg h9] at h
      refine g_aload_n hC dJ7_fill_d0a16_12 0 rfl rfl ?_
      refine g_iload_n hC dJ7_fill_d0a16_13 2 rfl rfl ?_
      refine g_lload_n hC dJ7_fill_d0a16_14 1 rfl rfl ?_
      obtain ⟨b9, h⟩ := of_ite h
      refine g_last hC dJ7_fill_d0a16_15 (isA_spec h0) b9 ?_
      refine g_iinc hC dJ7_fill_d0a16_16 2 rfl (Nat.le_of_ble_eq_true rfl) rfl ?_
      refine g_goto hC dJ7_fill_d0a16_19 (tgt := 6) (by decide) ?_
      exact g_pick [1, 2, 0, 3] rfl (ih _ _ _ h)
theorem bJ7_fill_d0a16_0 {K : KT} {g : GT} {cm sm : Nat} {cs : Nat × Nat} {c0 : Nat} {x1 : Int} {σ' : St} (hC : Ctx K g RJ7 cJ7_fill_d0a16 5 0 cm sm) (hcs : cs.1 ≤ cm ∧ cs.2 ≤ sm) (h0 : isA 2 c0 = true) (hR : RetV K g cJ7_fill_d0a16 5 cs (SH0, σ')) : ∀ (σ : St), fJ7_fill_d0a16 c0 x1 σ = some σ' → G K g 5 cs 0 [(0, vr c0), (1, vl x1)] [] (SH0, σ) := by
  intro σ h
  unfold fJ7_fill_d0a16 at h
  refine g_iconst hC dJ7_fill_d0a16_0 ok_0 ?_
  refine g_istore_n hC dJ7_fill_d0a16_1 rfl (Nat.le_of_ble_eq_true rfl) rfl ?_
  refine g_aload_n hC dJ7_fill_d0a16_2 1 rfl rfl ?_
  refine g_alen hC dJ7_fill_d0a16_3 (Or.inr (isA_spec h0)) (ok_LN _) ?_
  refine g_istore hC dJ7_fill_d0a16_4 (Nat.le_of_ble_eq_true rfl) rfl ?_
  exact g_pick [2, 3, 1, 0] rfl (bJ7_fill_d0a16_6 hC hcs h0 hR _ _ _ _ h)
theorem tJ7_fill_d0a16 {l : Launch} {g : GT} {c0 : Nat} {x1 : Int} {σ σ' : St} (h0 : isA 2 c0 = true) (h : fJ7_fill_d0a16 c0 x1 σ = some σ') : Cn l g yJ7_fill_d0a16 cJ7_fill_d0a16 5 none 0 0 0 [vr c0, vl x1] (SH0, σ) none (SH0, σ') :=
  Cn.ofV (by decide) (Nat.le_of_ble_eq_true rfl) (fun K e hC hR => (bJ7_fill_d0a16_0 hC ⟨Nat.le_refl _, Nat.le_refl _⟩ h0 hR _ h))
theorem dX1_bestOf_0 : decode cX1_bestOf 0 = .ok (.aload_n 0, 1) := by decide +kernel
theorem dX1_bestOf_1 : decode cX1_bestOf 1 = .ok (.getfield 9, 3) := by decide +kernel
theorem dX1_bestOf_4 : decode cX1_bestOf 4 = .ok (.iload_n 1, 1) := by decide +kernel
theorem dX1_bestOf_5 : decode cX1_bestOf 5 = .ok (.laload, 1) := by decide +kernel
theorem dX1_bestOf_6 : decode cX1_bestOf 6 = .ok (.lstore_n 2, 1) := by decide +kernel
theorem dX1_bestOf_7 : decode cX1_bestOf 7 = .ok (.iconst 0, 1) := by decide +kernel
theorem dX1_bestOf_8 : decode cX1_bestOf 8 = .ok (.istore 4, 2) := by decide +kernel
theorem dX1_bestOf_10 : decode cX1_bestOf 10 = .ok (.iload 4, 2) := by decide +kernel
theorem dX1_bestOf_12 : decode cX1_bestOf 12 = .ok (.bipush 8, 2) := by decide +kernel
theorem dX1_bestOf_14 : decode cX1_bestOf 14 = .ok (.if_icmp .ge 44, 3) := by decide +kernel
theorem dX1_bestOf_17 : decode cX1_bestOf 17 = .ok (.iload_n 1, 1) := by decide +kernel
theorem dX1_bestOf_18 : decode cX1_bestOf 18 = .ok (.iload 4, 2) := by decide +kernel
theorem dX1_bestOf_20 : decode cX1_bestOf 20 = .ok (.ishr, 1) := by decide +kernel
theorem dX1_bestOf_21 : decode cX1_bestOf 21 = .ok (.iconst 1, 1) := by decide +kernel
theorem dX1_bestOf_22 : decode cX1_bestOf 22 = .ok (.iand, 1) := by decide +kernel
theorem dX1_bestOf_23 : decode cX1_bestOf 23 = .ok (.ifCond .eq 29, 3) := by decide +kernel
theorem dX1_bestOf_26 : decode cX1_bestOf 26 = .ok (.lload_n 2, 1) := by decide +kernel
theorem dX1_bestOf_27 : decode cX1_bestOf 27 = .ok (.aload_n 0, 1) := by decide +kernel
theorem dX1_bestOf_28 : decode cX1_bestOf 28 = .ok (.getfield 15, 3) := by decide +kernel
theorem dX1_bestOf_31 : decode cX1_bestOf 31 = .ok (.iload 4, 2) := by decide +kernel
theorem dX1_bestOf_33 : decode cX1_bestOf 33 = .ok (.laload, 1) := by decide +kernel
theorem dX1_bestOf_34 : decode cX1_bestOf 34 = .ok (.aload_n 0, 1) := by decide +kernel
theorem dX1_bestOf_35 : decode cX1_bestOf 35 = .ok (.getfield 9, 3) := by decide +kernel
theorem dX1_bestOf_38 : decode cX1_bestOf 38 = .ok (.iload_n 1, 1) := by decide +kernel
theorem dX1_bestOf_39 : decode cX1_bestOf 39 = .ok (.iconst 1, 1) := by decide +kernel
theorem dX1_bestOf_40 : decode cX1_bestOf 40 = .ok (.iload 4, 2) := by decide +kernel
theorem dX1_bestOf_42 : decode cX1_bestOf 42 = .ok (.ishl, 1) := by decide +kernel
theorem dX1_bestOf_43 : decode cX1_bestOf 43 = .ok (.iconst (-1), 1) := by decide +kernel
theorem dX1_bestOf_44 : decode cX1_bestOf 44 = .ok (.ixor, 1) := by decide +kernel
theorem dX1_bestOf_45 : decode cX1_bestOf 45 = .ok (.iand, 1) := by decide +kernel
theorem dX1_bestOf_46 : decode cX1_bestOf 46 = .ok (.laload, 1) := by decide +kernel
theorem dX1_bestOf_47 : decode cX1_bestOf 47 = .ok (.ladd, 1) := by decide +kernel
theorem dX1_bestOf_48 : decode cX1_bestOf 48 = .ok (.invokestatic 71, 3) := by decide +kernel
theorem dX1_bestOf_51 : decode cX1_bestOf 51 = .ok (.lstore_n 2, 1) := by decide +kernel
theorem dX1_bestOf_52 : decode cX1_bestOf 52 = .ok (.iinc 4 1, 3) := by decide +kernel
theorem dX1_bestOf_55 : decode cX1_bestOf 55 = .ok (.goto (-45), 3) := by decide +kernel
theorem dX1_bestOf_58 : decode cX1_bestOf 58 = .ok (.lload_n 2, 1) := by decide +kernel
theorem dX1_bestOf_59 : decode cX1_bestOf 59 = .ok (.lreturn, 1) := by decide +kernel
theorem bX1_bestOf_52 {K : KT} {g : GT} {cm sm : Nat} {cs : Nat × Nat} {c0 : Nat} {x1 : Int} {k10 : Int → Int → St → Option (Int × St)} {r : Int} {σ' : St} (hC : Ctx K g RX1 cX1_bestOf 5 1 cm sm) (hcs : cs.1 ≤ cm ∧ cs.2 ≤ sm) (h0 : isO 1 c0 = true) (hk10 : ∀ (x2 : Int) (x4 : Int) (σ : St), k10 x2 x4 σ = some (r, σ') → G K g 5 cs 10 [(0, vr c0), (1, vi x1), (2, vl x2), (4, vi x4)] [] (SH0, σ)) (hR : RetL K g cX1_bestOf 5 cs r (SH0, σ')) : ∀ (x2 : Int) (x4 : Int) (σ : St), fX1_bestOf_52 c0 x1 k10 x2 x4 σ = some (r, σ') → G K g 5 cs 52 [(0, vr c0), (1, vi x1), (2, vl x2), (4, vi x4)] [] (SH0, σ) := by
  intro x2 x4 σ h
  unfold fX1_bestOf_52 at h
  refine g_iinc hC dX1_bestOf_52 3 rfl (Nat.le_of_ble_eq_true rfl) rfl ?_
  refine g_goto hC dX1_bestOf_55 (tgt := 10) (by decide) ?_
  exact g_pick [1, 2, 3, 0] rfl (hk10 _ _ _ h)
theorem bX1_bestOf_10 {K : KT} {g : GT} {cm sm : Nat} {cs : Nat × Nat} {c0 : Nat} {x1 : Int} {r : Int} {σ' : St} (hC : Ctx K g RX1 cX1_bestOf 5 1 cm sm) (hcs : cs.1 ≤ cm ∧ cs.2 ≤ sm) (h0 : isO 1 c0 = true) (hR : RetL K g cX1_bestOf 5 cs r (SH0, σ')) : ∀ (n : Nat) (x2 : Int) (x4 : Int) (σ : St), fX1_bestOf_10 c0 x1 n x2 x4 σ = some (r, σ') → G K g 5 cs 10 [(0, vr c0), (1, vi x1), (2, vl x2), (4, vi x4)] [] (SH0, σ) := by
  intro n
  induction n with
  | zero =>
    intro x2 x4 σ h
    rw [fX1_bestOf_10.eq_1] at h
    cases h
  | succ n ih =>
    intro x2 x4 σ h
    rw [fX1_bestOf_10.eq_2] at h
    refine g_iload hC dX1_bestOf_10 3 rfl ?_
    refine g_bipush hC dX1_bestOf_12 bp_8 ?_
    refine g_icmp_ge hC dX1_bestOf_14 (tgt := 58) (by decide) (fun h9 => ?_) (fun h9 => ?_)
    · rw [if_pos h9] at h
      refine g_lload_n hC dX1_bestOf_58 2 rfl rfl ?_
      exact ret_l h hR dX1_bestOf_59
    · rw [if_neg h9] at h
      refine g_iload_n hC dX1_bestOf_17 1 rfl rfl ?_
      refine g_iload hC dX1_bestOf_18 3 rfl ?_
      refine g_ishr hC dX1_bestOf_20 ?_
      refine g_iconst hC dX1_bestOf_21 ok_1 ?_
      refine g_iand hC dX1_bestOf_22 ?_
      refine g_if_eq hC dX1_bestOf_23 (tgt := 52) (by decide) (fun h9 => ?_) (fun h9 => ?_)
      · rw [if_pos h9] at h
        exact g_pick [0, 1, 2, 3] rfl (bX1_bestOf_52 hC hcs h0 ih hR _ _ _ h)
      · rw [if_neg h9] at h
        refine g_lload_n hC dX1_bestOf_26 2 rfl rfl ?_
        refine g_aload_n hC dX1_bestOf_27 0 rfl rfl ?_
        refine g_getr hC dX1_bestOf_28 lfRX1_15 (isO_spec h0) (ft_1_1 h0) ?_
        refine g_iload hC dX1_bestOf_31 3 rfl ?_
        obtain ⟨b9, h⟩ := of_ite h
        refine g_lald hC dX1_bestOf_33 (isA_spec (rf_1_1 h0)) b9 ?_
        refine g_aload_n hC dX1_bestOf_34 0 rfl rfl ?_
        refine g_getr hC dX1_bestOf_35 lfRX1_9 (isO_spec h0) (ft_1_0 h0) ?_
        refine g_iload_n hC dX1_bestOf_38 1 rfl rfl ?_
        refine g_iconst hC dX1_bestOf_39 ok_1 ?_
        refine g_iload hC dX1_bestOf_40 3 rfl ?_
        refine g_ishl hC dX1_bestOf_42 ?_
        refine g_iconst hC dX1_bestOf_43 ok_m1 ?_
        refine g_ixor hC dX1_bestOf_44 ?_
        refine g_iand hC dX1_bestOf_45 ?_
        obtain ⟨b9, h⟩ := of_ite h
        refine g_lald hC dX1_bestOf_46 (isA_spec (rf_1_0 h0)) b9 ?_
        refine g_ladd hC dX1_bestOf_47 ?_
        refine g_maxl hC dX1_bestOf_48 lmRX1_71 ml_1 mn_2 ml_3 (Nat.le_of_ble_eq_true rfl) (Nat.le_of_ble_eq_true rfl) hcs ?_
        refine g_lstore_n hC dX1_bestOf_51 rfl (Nat.le_of_ble_eq_true rfl) rfl ?_
        exact g_pick [1, 2, 0, 3] rfl (bX1_bestOf_52 hC hcs h0 ih hR _ _ _ h)
theorem bX1_bestOf_0 {K : KT} {g : GT} {cm sm : Nat} {cs : Nat × Nat} {c0 : Nat} {x1 : Int} {r : Int} {σ' : St} (hC : Ctx K g RX1 cX1_bestOf 5 1 cm sm) (hcs : cs.1 ≤ cm ∧ cs.2 ≤ sm) (h0 : isO 1 c0 = true) (hR : RetL K g cX1_bestOf 5 cs r (SH0, σ')) : ∀ (σ : St), fX1_bestOf c0 x1 σ = some (r, σ') → G K g 5 cs 0 [(0, vr c0), (1, vi x1)] [] (SH0, σ) := by
  intro σ h
  unfold fX1_bestOf at h
  refine g_aload_n hC dX1_bestOf_0 0 rfl rfl ?_
  refine g_getr hC dX1_bestOf_1 lfRX1_9 (isO_spec h0) (ft_1_0 h0) ?_
  refine g_iload_n hC dX1_bestOf_4 1 rfl rfl ?_
  obtain ⟨b9, h⟩ := of_ite h
  refine g_lald hC dX1_bestOf_5 (isA_spec (rf_1_0 h0)) b9 ?_
  refine g_lstore_n hC dX1_bestOf_6 rfl (Nat.le_of_ble_eq_true rfl) rfl ?_
  refine g_iconst hC dX1_bestOf_7 ok_0 ?_
  refine g_istore hC dX1_bestOf_8 (Nat.le_of_ble_eq_true rfl) rfl ?_
  exact g_pick [2, 3, 1, 0] rfl (bX1_bestOf_10 hC hcs h0 hR _ _ _ _ h)
theorem tX1_bestOf {l : Launch} {g : GT} {c0 : Nat} {x1 : Int} {σ σ' : St} {r : Int} (h0 : isO 1 c0 = true) (h : fX1_bestOf c0 x1 σ = some (r, σ')) : Cn l g yX1_bestOf cX1_bestOf 5 (some .long) 1 0 0 [vr c0, vi x1] (SH0, σ) (some (vl r)) (SH0, σ') :=
  Cn.ofL (by decide) (Nat.le_of_ble_eq_true rfl) (fun K e hC hR => (bX1_bestOf_0 hC ⟨Nat.le_refl _, Nat.le_refl _⟩ h0 hR _ h))
theorem dX1_weigh_0 : decode cX1_weigh 0 = .ok (.iconst 0, 1) := by decide +kernel
theorem dX1_weigh_1 : decode cX1_weigh 1 = .ok (.istore_n 3, 1) := by decide +kernel
theorem dX1_weigh_2 : decode cX1_weigh 2 = .ok (.iload_n 3, 1) := by decide +kernel
theorem dX1_weigh_3 : decode cX1_weigh 3 = .ok (.aload_n 1, 1) := by decide +kernel
theorem dX1_weigh_4 : decode cX1_weigh 4 = .ok (.getfield 30, 3) := by decide +kernel
theorem dX1_weigh_7 : decode cX1_weigh 7 = .ok (.getfield 51, 3) := by decide +kernel
theorem dX1_weigh_10 : decode cX1_weigh 10 = .ok (.if_icmp .ge 60, 3) := by decide +kernel
theorem dX1_weigh_13 : decode cX1_weigh 13 = .ok (.aload_n 1, 1) := by decide +kernel
theorem dX1_weigh_14 : decode cX1_weigh 14 = .ok (.getfield 30, 3) := by decide +kernel
theorem dX1_weigh_17 : decode cX1_weigh 17 = .ok (.iload_n 3, 1) := by decide +kernel
theorem dX1_weigh_18 : decode cX1_weigh 18 = .ok (.iconst 0, 1) := by decide +kernel
theorem dX1_weigh_19 : decode cX1_weigh 19 = .ok (.invokevirtual 54, 3) := by decide +kernel
theorem dX1_weigh_22 : decode cX1_weigh 22 = .ok (.istore 4, 2) := by decide +kernel
theorem dX1_weigh_24 : decode cX1_weigh 24 = .ok (.aload_n 1, 1) := by decide +kernel
theorem dX1_weigh_25 : decode cX1_weigh 25 = .ok (.iload_n 2, 1) := by decide +kernel
theorem dX1_weigh_26 : decode cX1_weigh 26 = .ok (.iload 4, 2) := by decide +kernel
theorem dX1_weigh_28 : decode cX1_weigh 28 = .ok (.aload_n 1, 1) := by decide +kernel
theorem dX1_weigh_29 : decode cX1_weigh 29 = .ok (.getfield 58, 3) := by decide +kernel
theorem dX1_weigh_32 : decode cX1_weigh 32 = .ok (.iload_n 2, 1) := by decide +kernel
theorem dX1_weigh_33 : decode cX1_weigh 33 = .ok (.iaload, 1) := by decide +kernel
theorem dX1_weigh_34 : decode cX1_weigh 34 = .ok (.invokevirtual 62, 3) := by decide +kernel
theorem dX1_weigh_37 : decode cX1_weigh 37 = .ok (.i2l, 1) := by decide +kernel
theorem dX1_weigh_38 : decode cX1_weigh 38 = .ok (.lstore 5, 2) := by decide +kernel
theorem dX1_weigh_40 : decode cX1_weigh 40 = .ok (.aload_n 0, 1) := by decide +kernel
theorem dX1_weigh_41 : decode cX1_weigh 41 = .ok (.getfield 15, 3) := by decide +kernel
theorem dX1_weigh_44 : decode cX1_weigh 44 = .ok (.iload_n 3, 1) := by decide +kernel
theorem dX1_weigh_45 : decode cX1_weigh 45 = .ok (.lload 5, 2) := by decide +kernel
theorem dX1_weigh_47 : decode cX1_weigh 47 = .ok (.ldc2_w 66, 3) := by decide +kernel
theorem dX1_weigh_50 : decode cX1_weigh 50 = .ok (.lmul, 1) := by decide +kernel
theorem dX1_weigh_51 : decode cX1_weigh 51 = .ok (.bipush 8, 2) := by decide +kernel
theorem dX1_weigh_53 : decode cX1_weigh 53 = .ok (.iload_n 3, 1) := by decide +kernel
theorem dX1_weigh_54 : decode cX1_weigh 54 = .ok (.isub, 1) := by decide +kernel
theorem dX1_weigh_55 : decode cX1_weigh 55 = .ok (.i2l, 1) := by decide +kernel
theorem dX1_weigh_56 : decode cX1_weigh 56 = .ok (.getstatic 68, 3) := by decide +kernel
theorem dX1_weigh_59 : decode cX1_weigh 59 = .ok (.iload_n 2, 1) := by decide +kernel
theorem dX1_weigh_60 : decode cX1_weigh 60 = .ok (.laload, 1) := by decide +kernel
theorem dX1_weigh_61 : decode cX1_weigh 61 = .ok (.lmul, 1) := by decide +kernel
theorem dX1_weigh_62 : decode cX1_weigh 62 = .ok (.ladd, 1) := by decide +kernel
theorem dX1_weigh_63 : decode cX1_weigh 63 = .ok (.lastore, 1) := by decide +kernel
theorem dX1_weigh_64 : decode cX1_weigh 64 = .ok (.iinc 3 1, 3) := by decide +kernel
theorem dX1_weigh_67 : decode cX1_weigh 67 = .ok (.goto (-65), 3) := by decide +kernel
theorem dX1_weigh_70 : decode cX1_weigh 70 = .ok (.return_, 1) := by decide +kernel
theorem bX1_weigh_2 {K : KT} {g : GT} {cm sm : Nat} {cs : Nat × Nat} {c0 : Nat} {c1 : Nat} {x2 : Int} {σ' : St} (hC : Ctx K g RX1 cX1_weigh 7 3 cm sm) (hcs : cs.1 ≤ cm ∧ cs.2 ≤ sm) (h0 : isO 1 c0 = true) (h1 : isO 7 c1 = true) (hR : RetV K g cX1_weigh 7 cs (SH0, σ')) : ∀ (n : Nat) (x3 : Int) (σ : St), fX1_weigh_2 c0 c1 x2 n x3 σ = some σ' → G K g 7 cs 2 [(0, vr c0), (1, vr c1), (2, vi x2), (3, vi x3)] [] (SH0, σ) := by
  intro n
  induction n with
  | zero =>
    intro x3 σ h
    rw [fX1_weigh_2.eq_1] at h
    cases h
  | succ n ih =>
    intro x3 σ h
    rw [fX1_weigh_2.eq_2] at h
    refine g_iload_n hC dX1_weigh_2 3 rfl rfl ?_
    refine g_aload_n hC dX1_weigh_3 1 rfl rfl ?_
    refine g_getr hC dX1_weigh_4 lfRX1_30 (isO_spec h1) (ft_7_0 h1) ?_
    refine g_geti hC dX1_weigh_7 lfRX1_51 (isO_spec (rf_7_0 h1)) (ft_2_2 (rf_7_0 h1)) ?_
    refine g_icmp_ge hC dX1_weigh_10 (tgt := 70) (by decide) (fun h9 => ?_) (fun h9 => ?_)
    · rw [if_pos h9] at h
      exact ret_v h hR dX1_weigh_70
    · rw [if_neg h9] at h
      refine g_aload_n hC dX1_weigh_13 1 rfl rfl ?_
      refine g_getr hC dX1_weigh_14 lfRX1_30 (isO_spec h1) (ft_7_0 h1) ?_
      refine g_iload_n hC dX1_weigh_17 3 rfl rfl ?_
      refine g_iconst hC dX1_weigh_18 ok_0 ?_
      obtain ⟨⟨r1, s1⟩, e1, h⟩ := of_bind h
      try dsimp only at h
      refine s_callVi hC dX1_weigh_19 (tX2_number (rf_7_0 h1) e1) miX2_number mvX2_number mlRX1_54 (isO_spec (rf_7_0 h1)) vc_2 rfl rfl (Nat.le_of_ble_eq_true rfl) (Nat.le_of_ble_eq_true rfl) (Nat.le_of_ble_eq_true rfl) hcs ?_
      refine g_istore hC dX1_weigh_22 (Nat.le_of_ble_eq_true rfl) rfl ?_
      refine g_aload_n hC dX1_weigh_24 2 rfl rfl ?_
      refine g_iload_n hC dX1_weigh_25 3 rfl rfl ?_
      refine g_iload hC dX1_weigh_26 0 rfl ?_
      refine g_aload_n hC dX1_weigh_28 2 rfl rfl ?_
      refine g_getr hC dX1_weigh_29 lfRX1_58 (isO_spec h1) (ft_7_2 h1) ?_
      refine g_iload_n hC dX1_weigh_32 3 rfl rfl ?_
      obtain ⟨b9, h⟩ := of_ite h
      refine g_iald hC dX1_weigh_33 (isA_spec (rf_7_2 h1)) b9 ?_
      obtain ⟨⟨r2, s2⟩, e2, h⟩ := of_bind h
      try dsimp only at h
      refine s_callVi hC dX1_weigh_34 (tX7_misses h1 e2) miX7_misses mvX7_misses mlRX1_62 (isO_spec h1) vc_7 rfl rfl (Nat.le_of_ble_eq_true rfl) (Nat.le_of_ble_eq_true rfl) (Nat.le_of_ble_eq_true rfl) hcs ?_
      refine g_i2l hC dX1_weigh_37 ?_
      refine g_lstore hC dX1_weigh_38 (Nat.le_of_ble_eq_true rfl) rfl ?_
      refine g_aload_n hC dX1_weigh_40 2 rfl rfl ?_
      refine g_getr hC dX1_weigh_41 lfRX1_15 (isO_spec h0) (ft_1_1 h0) ?_
      refine g_iload_n hC dX1_weigh_44 5 rfl rfl ?_
      refine g_lload hC dX1_weigh_45 0 rfl ?_
      refine g_ldc2 hC dX1_weigh_47 kRX1_66 ?_
      refine g_lmul hC dX1_weigh_50 ?_
      refine g_bipush hC dX1_weigh_51 bp_8 ?_
      refine g_iload_n hC dX1_weigh_53 5 rfl rfl ?_
      refine g_isub hC dX1_weigh_54 ?_
      refine g_i2l hC dX1_weigh_55 ?_
      refine g_gets (k := 1) hC dX1_weigh_56 rfl gsRX1_68 ?_
      refine g_iload_n hC dX1_weigh_59 4 rfl rfl ?_
      obtain ⟨b9, h⟩ := of_ite h
      refine g_oaldl (x := 0) hC dX1_weigh_60 (xs := stv1) rfl b9 (stv1_ok _) ?_
      refine g_lmul hC dX1_weigh_61 ?_
      refine g_ladd hC dX1_weigh_62 ?_
      obtain ⟨b9, h⟩ := of_ite h
      refine g_last hC dX1_weigh_63 (isA_spec (rf_1_1 h0)) b9 ?_
      refine g_iinc hC dX1_weigh_64 5 rfl (Nat.le_of_ble_eq_true rfl) rfl ?_
      refine g_goto hC dX1_weigh_67 (tgt := 2) (by decide) ?_
      exact g_pick [3, 4, 5, 0] rfl (ih _ _ h)
theorem bX1_weigh_0 {K : KT} {g : GT} {cm sm : Nat} {cs : Nat × Nat} {c0 : Nat} {c1 : Nat} {x2 : Int} {σ' : St} (hC : Ctx K g RX1 cX1_weigh 7 3 cm sm) (hcs : cs.1 ≤ cm ∧ cs.2 ≤ sm) (h0 : isO 1 c0 = true) (h1 : isO 7 c1 = true) (hR : RetV K g cX1_weigh 7 cs (SH0, σ')) : ∀ (σ : St), fX1_weigh c0 c1 x2 σ = some σ' → G K g 7 cs 0 [(0, vr c0), (1, vr c1), (2, vi x2)] [] (SH0, σ) := by
  intro σ h
  unfold fX1_weigh at h
  refine g_iconst hC dX1_weigh_0 ok_0 ?_
  refine g_istore_n hC dX1_weigh_1 rfl (Nat.le_of_ble_eq_true rfl) rfl ?_
  exact g_pick [1, 2, 3, 0] rfl (bX1_weigh_2 hC hcs h0 h1 hR _ _ _ h)
theorem tX1_weigh {l : Launch} {g : GT} {c0 : Nat} {c1 : Nat} {x2 : Int} {σ σ' : St} (h0 : isO 1 c0 = true) (h1 : isO 7 c1 = true) (h : fX1_weigh c0 c1 x2 σ = some σ') : Cn l g yX1_weigh cX1_weigh 7 none 3 0 0 [vr c0, vr c1, vi x2] (SH0, σ) none (SH0, σ') :=
  Cn.ofV (by decide) (Nat.le_of_ble_eq_true rfl) (fun K e hC hR => (bX1_weigh_0 hC ⟨Nat.le_refl _, Nat.le_refl _⟩ h0 h1 hR _ h))
theorem dX1_deals_0 : decode cX1_deals 0 = .ok (.aload_n 1, 1) := by decide +kernel
theorem dX1_deals_1 : decode cX1_deals 1 = .ok (.getfield 18, 3) := by decide +kernel
theorem dX1_deals_4 : decode cX1_deals 4 = .ok (.aload_n 0, 1) := by decide +kernel
theorem dX1_deals_5 : decode cX1_deals 5 = .ok (.getfield 9, 3) := by decide +kernel
theorem dX1_deals_8 : decode cX1_deals 8 = .ok (.arraylength, 1) := by decide +kernel
theorem dX1_deals_9 : decode cX1_deals 9 = .ok (.iconst 1, 1) := by decide +kernel
theorem dX1_deals_10 : decode cX1_deals 10 = .ok (.isub, 1) := by decide +kernel
theorem dX1_deals_11 : decode cX1_deals 11 = .ok (.iand, 1) := by decide +kernel
theorem dX1_deals_12 : decode cX1_deals 12 = .ok (.istore_n 2, 1) := by decide +kernel
theorem dX1_deals_13 : decode cX1_deals 13 = .ok (.aload_n 0, 1) := by decide +kernel
theorem dX1_deals_14 : decode cX1_deals 14 = .ok (.getfield 9, 3) := by decide +kernel
theorem dX1_deals_17 : decode cX1_deals 17 = .ok (.lconst 0, 1) := by decide +kernel
theorem dX1_deals_18 : decode cX1_deals 18 = .ok (.invokestatic 24, 3) := by decide +kernel
theorem dX1_deals_21 : decode cX1_deals 21 = .ok (.aload_n 1, 1) := by decide +kernel
theorem dX1_deals_22 : decode cX1_deals 22 = .ok (.getfield 30, 3) := by decide +kernel
theorem dX1_deals_25 : decode cX1_deals 25 = .ok (.getfield 34, 3) := by decide +kernel
theorem dX1_deals_28 : decode cX1_deals 28 = .ok (.iconst 1, 1) := by decide +kernel
theorem dX1_deals_29 : decode cX1_deals 29 = .ok (.isub, 1) := by decide +kernel
theorem dX1_deals_30 : decode cX1_deals 30 = .ok (.istore_n 3, 1) := by decide +kernel
theorem dX1_deals_31 : decode cX1_deals 31 = .ok (.iload_n 3, 1) := by decide +kernel
theorem dX1_deals_32 : decode cX1_deals 32 = .ok (.ifCond .lt 51, 3) := by decide +kernel
theorem dX1_deals_35 : decode cX1_deals 35 = .ok (.aload_n 0, 1) := by decide +kernel
theorem dX1_deals_36 : decode cX1_deals 36 = .ok (.aload_n 1, 1) := by decide +kernel
theorem dX1_deals_37 : decode cX1_deals 37 = .ok (.iload_n 3, 1) := by decide +kernel
theorem dX1_deals_38 : decode cX1_deals 38 = .ok (.invokevirtual 39, 3) := by decide +kernel
theorem dX1_deals_41 : decode cX1_deals 41 = .ok (.iload_n 2, 1) := by decide +kernel
theorem dX1_deals_42 : decode cX1_deals 42 = .ok (.istore 4, 2) := by decide +kernel
theorem dX1_deals_44 : decode cX1_deals 44 = .ok (.iload 4, 2) := by decide +kernel
theorem dX1_deals_46 : decode cX1_deals 46 = .ok (.ifCond .le 31, 3) := by decide +kernel
theorem dX1_deals_49 : decode cX1_deals 49 = .ok (.iload 4, 2) := by decide +kernel
theorem dX1_deals_51 : decode cX1_deals 51 = .ok (.iload_n 2, 1) := by decide +kernel
theorem dX1_deals_52 : decode cX1_deals 52 = .ok (.iconst (-1), 1) := by decide +kernel
theorem dX1_deals_53 : decode cX1_deals 53 = .ok (.ixor, 1) := by decide +kernel
theorem dX1_deals_54 : decode cX1_deals 54 = .ok (.iand, 1) := by decide +kernel
theorem dX1_deals_55 : decode cX1_deals 55 = .ok (.ifCond .ne 16, 3) := by decide +kernel
theorem dX1_deals_58 : decode cX1_deals 58 = .ok (.aload_n 0, 1) := by decide +kernel
theorem dX1_deals_59 : decode cX1_deals 59 = .ok (.getfield 9, 3) := by decide +kernel
theorem dX1_deals_62 : decode cX1_deals 62 = .ok (.iload 4, 2) := by decide +kernel
theorem dX1_deals_64 : decode cX1_deals 64 = .ok (.aload_n 0, 1) := by decide +kernel
theorem dX1_deals_65 : decode cX1_deals 65 = .ok (.iload 4, 2) := by decide +kernel
theorem dX1_deals_67 : decode cX1_deals 67 = .ok (.invokevirtual 43, 3) := by decide +kernel
theorem dX1_deals_70 : decode cX1_deals 70 = .ok (.lastore, 1) := by decide +kernel
theorem dX1_deals_71 : decode cX1_deals 71 = .ok (.iinc 4 (-1), 3) := by decide +kernel
theorem dX1_deals_74 : decode cX1_deals 74 = .ok (.goto (-30), 3) := by decide +kernel
theorem dX1_deals_77 : decode cX1_deals 77 = .ok (.iinc 3 (-1), 3) := by decide +kernel
theorem dX1_deals_80 : decode cX1_deals 80 = .ok (.goto (-49), 3) := by decide +kernel
theorem dX1_deals_83 : decode cX1_deals 83 = .ok (.aload_n 0, 1) := by decide +kernel
theorem dX1_deals_84 : decode cX1_deals 84 = .ok (.aload_n 0, 1) := by decide +kernel
theorem dX1_deals_85 : decode cX1_deals 85 = .ok (.getfield 9, 3) := by decide +kernel
theorem dX1_deals_88 : decode cX1_deals 88 = .ok (.iload_n 2, 1) := by decide +kernel
theorem dX1_deals_89 : decode cX1_deals 89 = .ok (.laload, 1) := by decide +kernel
theorem dX1_deals_90 : decode cX1_deals 90 = .ok (.putfield 47, 3) := by decide +kernel
theorem dX1_deals_93 : decode cX1_deals 93 = .ok (.return_, 1) := by decide +kernel
theorem bX1_deals_71 {K : KT} {g : GT} {cm sm : Nat} {cs : Nat × Nat} {c0 : Nat} {c1 : Nat} {k31 : Int → Int → St → Option (St)} {k44 : Int → Int → Int → St → Option (St)} {σ' : St} (hC : Ctx K g RX1 cX1_deals 5 4 cm sm) (hcs : cs.1 ≤ cm ∧ cs.2 ≤ sm) (h0 : isO 1 c0 = true) (h1 : isO 7 c1 = true) (hk31 : ∀ (x2 : Int) (x3 : Int) (σ : St), k31 x2 x3 σ = some σ' → G K g 5 cs 31 [(0, vr c0), (1, vr c1), (2, vi x2), (3, vi x3)] [] (SH0, σ)) (hk44 : ∀ (x2 : Int) (x3 : Int) (x4 : Int) (σ : St), k44 x2 x3 x4 σ = some σ' → G K g 5 cs 44 [(0, vr c0), (1, vr c1), (2, vi x2), (3, vi x3), (4, vi x4)] [] (SH0, σ)) (hR : RetV K g cX1_deals 5 cs (SH0, σ')) : ∀ (x2 : Int) (x3 : Int) (x4 : Int) (σ : St), fX1_deals_71 c0 c1 k31 k44 x2 x3 x4 σ = some σ' → G K g 5 cs 71 [(0, vr c0), (1, vr c1), (2, vi x2), (3, vi x3), (4, vi x4)] [] (SH0, σ) := by
  intro x2 x3 x4 σ h
  unfold fX1_deals_71 at h
  refine g_iinc hC dX1_deals_71 4 rfl (Nat.le_of_ble_eq_true rfl) rfl ?_
  refine g_goto hC dX1_deals_74 (tgt := 44) (by decide) ?_
  exact g_pick [1, 2, 3, 4, 0] rfl (hk44 _ _ _ _ h)
theorem bX1_deals_44 {K : KT} {g : GT} {cm sm : Nat} {cs : Nat × Nat} {c0 : Nat} {c1 : Nat} {k31 : Int → Int → St → Option (St)} {σ' : St} (hC : Ctx K g RX1 cX1_deals 5 4 cm sm) (hcs : cs.1 ≤ cm ∧ cs.2 ≤ sm) (h0 : isO 1 c0 = true) (h1 : isO 7 c1 = true) (hk31 : ∀ (x2 : Int) (x3 : Int) (σ : St), k31 x2 x3 σ = some σ' → G K g 5 cs 31 [(0, vr c0), (1, vr c1), (2, vi x2), (3, vi x3)] [] (SH0, σ)) (hR : RetV K g cX1_deals 5 cs (SH0, σ')) : ∀ (n : Nat) (x2 : Int) (x3 : Int) (x4 : Int) (σ : St), fX1_deals_44 c0 c1 k31 n x2 x3 x4 σ = some σ' → G K g 5 cs 44 [(0, vr c0), (1, vr c1), (2, vi x2), (3, vi x3), (4, vi x4)] [] (SH0, σ) := by
  intro n
  induction n with
  | zero =>
    intro x2 x3 x4 σ h
    rw [fX1_deals_44.eq_1] at h
    cases h
  | succ n ih =>
    intro x2 x3 x4 σ h
    rw [fX1_deals_44.eq_2] at h
    refine g_iload hC dX1_deals_44 4 rfl ?_
    refine g_if_le hC dX1_deals_46 (tgt := 77) (by decide) (fun h9 => ?_) (fun h9 => ?_)
    · rw [if_pos h9] at h
      refine g_iinc hC dX1_deals_77 3 rfl (Nat.le_of_ble_eq_true rfl) rfl ?_
      refine g_goto hC dX1_deals_80 (tgt := 31) (by decide) ?_
      exact g_pick [1, 2, 3, 0] rfl (hk31 _ _ _ h)
    · rw [if_neg h9] at h
      refine g_iload hC dX1_deals_49 4 rfl ?_
      refine g_iload_n hC dX1_deals_51 2 rfl rfl ?_
      refine g_iconst hC dX1_deals_52 ok_m1 ?_
      refine g_ixor hC dX1_deals_53 ?_
      refine g_iand hC dX1_deals_54 ?_
      refine g_if_ne hC dX1_deals_55 (tgt := 71) (by decide) (fun h9 => ?_) (fun h9 => ?_)
      · rw [if_neg h9] at h
        exact g_pick [0, 1, 2, 3, 4] rfl (bX1_deals_71 hC hcs h0 h1 hk31 ih hR _ _ _ _ h)
      · rw [if_pos h9] at h
        refine g_aload_n hC dX1_deals_58 0 rfl rfl ?_
        refine g_getr hC dX1_deals_59 lfRX1_9 (isO_spec h0) (ft_1_0 h0) ?_
        refine g_iload hC dX1_deals_62 4 rfl ?_
        refine g_aload_n hC dX1_deals_64 0 rfl rfl ?_
        refine g_iload hC dX1_deals_65 4 rfl ?_
        obtain ⟨⟨r1, s1⟩, e1, h⟩ := of_bind h
        try dsimp only at h
        refine s_callVl hC dX1_deals_67 (tX1_bestOf h0 e1) miX1_bestOf mvX1_bestOf mlRX1_43 (isO_spec h0) vc_1 rfl rfl (Nat.le_of_ble_eq_true rfl) (Nat.le_of_ble_eq_true rfl) (Nat.le_of_ble_eq_true rfl) hcs ?_
        obtain ⟨b9, h⟩ := of_ite h
        refine g_last hC dX1_deals_70 (isA_spec (rf_1_0 h0)) b9 ?_
        exact g_pick [0, 1, 2, 3, 4] rfl (bX1_deals_71 hC hcs h0 h1 hk31 ih hR _ _ _ _ h)
theorem bX1_deals_31 {K : KT} {g : GT} {cm sm : Nat} {cs : Nat × Nat} {c0 : Nat} {c1 : Nat} {σ' : St} (hC : Ctx K g RX1 cX1_deals 5 4 cm sm) (hcs : cs.1 ≤ cm ∧ cs.2 ≤ sm) (h0 : isO 1 c0 = true) (h1 : isO 7 c1 = true) (hR : RetV K g cX1_deals 5 cs (SH0, σ')) : ∀ (n : Nat) (x2 : Int) (x3 : Int) (σ : St), fX1_deals_31 c0 c1 n x2 x3 σ = some σ' → G K g 5 cs 31 [(0, vr c0), (1, vr c1), (2, vi x2), (3, vi x3)] [] (SH0, σ) := by
  intro n
  induction n with
  | zero =>
    intro x2 x3 σ h
    rw [fX1_deals_31.eq_1] at h
    cases h
  | succ n ih =>
    intro x2 x3 σ h
    rw [fX1_deals_31.eq_2] at h
    refine g_iload_n hC dX1_deals_31 3 rfl rfl ?_
    refine g_if_lt hC dX1_deals_32 (tgt := 83) (by decide) (fun h9 => ?_) (fun h9 => ?_)
    · rw [if_pos h9] at h
      refine g_aload_n hC dX1_deals_83 0 rfl rfl ?_
      refine g_aload_n hC dX1_deals_84 0 rfl rfl ?_
      refine g_getr hC dX1_deals_85 lfRX1_9 (isO_spec h0) (ft_1_0 h0) ?_
      refine g_iload_n hC dX1_deals_88 2 rfl rfl ?_
      obtain ⟨b9, h⟩ := of_ite h
      refine g_lald hC dX1_deals_89 (isA_spec (rf_1_0 h0)) b9 ?_
      refine g_putl hC dX1_deals_90 lfRX1_47 fp_1_2 (isO_spec h0) (ft_1_2 h0) ?_
      exact ret_v h hR dX1_deals_93
    · rw [if_neg h9] at h
      refine g_aload_n hC dX1_deals_35 0 rfl rfl ?_
      refine g_aload_n hC dX1_deals_36 1 rfl rfl ?_
      refine g_iload_n hC dX1_deals_37 3 rfl rfl ?_
      obtain ⟨s1, e1, h⟩ := of_bind h
      try dsimp only at h
      refine s_callVv hC dX1_deals_38 (tX1_weigh h0 h1 e1) miX1_weigh mvX1_weigh mlRX1_39 (isO_spec h0) vc_1 rfl rfl (Nat.le_of_ble_eq_true rfl) (Nat.le_of_ble_eq_true rfl) (Nat.le_of_ble_eq_true rfl) hcs ?_
      refine g_iload_n hC dX1_deals_41 2 rfl rfl ?_
      refine g_istore hC dX1_deals_42 (Nat.le_of_ble_eq_true rfl) rfl ?_
      exact g_pick [1, 2, 3, 4, 0] rfl (bX1_deals_44 hC hcs h0 h1 ih hR _ _ _ _ _ h)
theorem bX1_deals_0 {K : KT} {g : GT} {cm sm : Nat} {cs : Nat × Nat} {c0 : Nat} {c1 : Nat} {σ' : St} (hC : Ctx K g RX1 cX1_deals 5 4 cm sm) (hcs : cs.1 ≤ cm ∧ cs.2 ≤ sm) (h0 : isO 1 c0 = true) (h1 : isO 7 c1 = true) (hR : RetV K g cX1_deals 5 cs (SH0, σ')) : ∀ (σ : St), fX1_deals c0 c1 σ = some σ' → G K g 5 cs 0 [(0, vr c0), (1, vr c1)] [] (SH0, σ) := by
  intro σ h
  unfold fX1_deals at h
  refine g_aload_n hC dX1_deals_0 1 rfl rfl ?_
  refine g_geti hC dX1_deals_1 lfRX1_18 (isO_spec h1) (ft_7_8 h1) ?_
  refine g_aload_n hC dX1_deals_4 0 rfl rfl ?_
  refine g_getr hC dX1_deals_5 lfRX1_9 (isO_spec h0) (ft_1_0 h0) ?_
  refine g_alen hC dX1_deals_8 (Or.inr (isA_spec (rf_1_0 h0))) (ok_LN _) ?_
  refine g_iconst hC dX1_deals_9 ok_1 ?_
  refine g_isub hC dX1_deals_10 ?_
  refine g_iand hC dX1_deals_11 ?_
  refine g_istore_n hC dX1_deals_12 rfl (Nat.le_of_ble_eq_true rfl) rfl ?_
  refine g_aload_n hC dX1_deals_13 1 rfl rfl ?_
  refine g_getr hC dX1_deals_14 lfRX1_9 (isO_spec h0) (ft_1_0 h0) ?_
  refine g_lconst hC dX1_deals_17 lc_0 ?_
  obtain ⟨s1, e1, h⟩ := of_bind h
  try dsimp only at h
  refine s_callSv hC dX1_deals_18 (tJ7_fill_d0a16 (rf_1_0 h0) e1) miJ7_fill_d0a16 msJ7_fill_d0a16 mlRX1_24 rfl rfl (Nat.le_of_ble_eq_true rfl) (Nat.le_of_ble_eq_true rfl) (Nat.le_of_ble_eq_true rfl) hcs ?_
  refine g_aload_n hC dX1_deals_21 2 rfl rfl ?_
  refine g_getr hC dX1_deals_22 lfRX1_30 (isO_spec h1) (ft_7_0 h1) ?_
  refine g_geti hC dX1_deals_25 lfRX1_34 (isO_spec (rf_7_0 h1)) (ft_2_3 (rf_7_0 h1)) ?_
  refine g_iconst hC dX1_deals_28 ok_1 ?_
  refine g_isub hC dX1_deals_29 ?_
  refine g_istore_n hC dX1_deals_30 rfl (Nat.le_of_ble_eq_true rfl) rfl ?_
  exact g_pick [2, 3, 1, 0] rfl (bX1_deals_31 hC hcs h0 h1 hR _ _ _ _ h)
theorem tX1_deals {l : Launch} {g : GT} {c0 : Nat} {c1 : Nat} {σ σ' : St} (h0 : isO 1 c0 = true) (h1 : isO 7 c1 = true) (h : fX1_deals c0 c1 σ = some σ') : Cn l g yX1_deals cX1_deals 5 none 4 0 0 [vr c0, vr c1] (SH0, σ) none (SH0, σ') :=
  Cn.ofV (by decide) (Nat.le_of_ble_eq_true rfl) (fun K e hC hR => (bX1_deals_0 hC ⟨Nat.le_refl _, Nat.le_refl _⟩ h0 h1 hR _ h))
theorem dX1_share_0 : decode cX1_share 0 = .ok (.bipush 8, 2) := by decide +kernel
theorem dX1_share_2 : decode cX1_share 2 = .ok (.aload_n 0, 1) := by decide +kernel
theorem dX1_share_3 : decode cX1_share 3 = .ok (.getfield 47, 3) := by decide +kernel
theorem dX1_share_6 : decode cX1_share 6 = .ok (.getstatic 68, 3) := by decide +kernel
theorem dX1_share_9 : decode cX1_share 9 = .ok (.iload_n 1, 1) := by decide +kernel
theorem dX1_share_10 : decode cX1_share 10 = .ok (.laload, 1) := by decide +kernel
theorem dX1_share_11 : decode cX1_share 11 = .ok (.ldiv, 1) := by decide +kernel
theorem dX1_share_12 : decode cX1_share 12 = .ok (.ldc2_w 77, 3) := by decide +kernel
theorem dX1_share_15 : decode cX1_share 15 = .ok (.lrem, 1) := by decide +kernel
theorem dX1_share_16 : decode cX1_share 16 = .ok (.l2i, 1) := by decide +kernel
theorem dX1_share_17 : decode cX1_share 17 = .ok (.isub, 1) := by decide +kernel
theorem dX1_share_18 : decode cX1_share 18 = .ok (.ireturn, 1) := by decide +kernel
theorem bX1_share_0 {K : KT} {g : GT} {cm sm : Nat} {cs : Nat × Nat} {c0 : Nat} {x1 : Int} {r : Int} {σ' : St} (hC : Ctx K g RX1 cX1_share 2 0 cm sm) (hcs : cs.1 ≤ cm ∧ cs.2 ≤ sm) (h0 : isO 1 c0 = true) (hR : RetI K g cX1_share 2 cs r (SH0, σ')) : ∀ (σ : St), fX1_share c0 x1 σ = some (r, σ') → G K g 2 cs 0 [(0, vr c0), (1, vi x1)] [] (SH0, σ) := by
  intro σ h
  unfold fX1_share at h
  refine g_bipush hC dX1_share_0 bp_8 ?_
  refine g_aload_n hC dX1_share_2 0 rfl rfl ?_
  refine g_getl hC dX1_share_3 lfRX1_47 (isO_spec h0) (ft_1_2 h0) ?_
  refine g_gets (k := 1) hC dX1_share_6 rfl gsRX1_68 ?_
  refine g_iload_n hC dX1_share_9 1 rfl rfl ?_
  obtain ⟨b9, h⟩ := of_ite h
  refine g_oaldl (x := 0) hC dX1_share_10 (xs := stv1) rfl b9 (stv1_ok _) ?_
  obtain ⟨b9, h⟩ := of_ite h
  refine g_ldiv hC dX1_share_11 b9 ?_
  refine g_ldc2 hC dX1_share_12 kRX1_77 ?_
  refine g_lrem hC dX1_share_15 (by decide) ?_
  refine g_l2i hC dX1_share_16 ?_
  refine g_isub hC dX1_share_17 ?_
  exact ret_i h hR dX1_share_18
theorem tX1_share {l : Launch} {g : GT} {c0 : Nat} {x1 : Int} {σ σ' : St} {r : Int} (h0 : isO 1 c0 = true) (h : fX1_share c0 x1 σ = some (r, σ')) : Cn l g yX1_share cX1_share 2 (some .int) 0 0 0 [vr c0, vi x1] (SH0, σ) (some (vi r)) (SH0, σ') :=
  Cn.ofI (by decide) (Nat.le_of_ble_eq_true rfl) (fun K e hC hR => (bX1_share_0 hC ⟨Nat.le_refl _, Nat.le_refl _⟩ h0 hR _ h))
theorem dX1_total_0 : decode cX1_total 0 = .ok (.aload_n 0, 1) := by decide +kernel
theorem dX1_total_1 : decode cX1_total 1 = .ok (.getfield 47, 3) := by decide +kernel
theorem dX1_total_4 : decode cX1_total 4 = .ok (.ldc2_w 66, 3) := by decide +kernel
theorem dX1_total_7 : decode cX1_total 7 = .ok (.ldiv, 1) := by decide +kernel
theorem dX1_total_8 : decode cX1_total 8 = .ok (.l2i, 1) := by decide +kernel
theorem dX1_total_9 : decode cX1_total 9 = .ok (.ireturn, 1) := by decide +kernel
theorem bX1_total_0 {K : KT} {g : GT} {cm sm : Nat} {cs : Nat × Nat} {c0 : Nat} {r : Int} {σ' : St} (hC : Ctx K g RX1 cX1_total 1 0 cm sm) (hcs : cs.1 ≤ cm ∧ cs.2 ≤ sm) (h0 : isO 1 c0 = true) (hR : RetI K g cX1_total 1 cs r (SH0, σ')) : ∀ (σ : St), fX1_total c0 σ = some (r, σ') → G K g 1 cs 0 [(0, vr c0)] [] (SH0, σ) := by
  intro σ h
  unfold fX1_total at h
  refine g_aload_n hC dX1_total_0 0 rfl rfl ?_
  refine g_getl hC dX1_total_1 lfRX1_47 (isO_spec h0) (ft_1_2 h0) ?_
  refine g_ldc2 hC dX1_total_4 kRX1_66 ?_
  refine g_ldiv hC dX1_total_7 (by decide) ?_
  refine g_l2i hC dX1_total_8 ?_
  exact ret_i h hR dX1_total_9
theorem tX1_total {l : Launch} {g : GT} {c0 : Nat} {σ σ' : St} {r : Int} (h0 : isO 1 c0 = true) (h : fX1_total c0 σ = some (r, σ')) : Cn l g yX1_total cX1_total 1 (some .int) 0 0 0 [vr c0] (SH0, σ) (some (vi r)) (SH0, σ') :=
  Cn.ofI (by decide) (Nat.le_of_ble_eq_true rfl) (fun K e hC hR => (bX1_total_0 hC ⟨Nat.le_refl _, Nat.le_refl _⟩ h0 hR _ h))
theorem dX9_dealt_0 : decode cX9_dealt 0 = .ok (.iload_n 1, 1) := by decide +kernel
theorem dX9_dealt_1 : decode cX9_dealt 1 = .ok (.iconst (-1), 1) := by decide +kernel
theorem dX9_dealt_2 : decode cX9_dealt 2 = .ok (.if_icmp .eq 16, 3) := by decide +kernel
theorem dX9_dealt_5 : decode cX9_dealt 5 = .ok (.aload_n 0, 1) := by decide +kernel
theorem dX9_dealt_6 : decode cX9_dealt 6 = .ok (.getfield 10, 3) := by decide +kernel
theorem dX9_dealt_9 : decode cX9_dealt 9 = .ok (.iload_n 1, 1) := by decide +kernel
theorem dX9_dealt_10 : decode cX9_dealt 10 = .ok (.invokevirtual 180, 3) := by decide +kernel
theorem dX9_dealt_13 : decode cX9_dealt 13 = .ok (.ifCond .ne 5, 3) := by decide +kernel
theorem dX9_dealt_16 : decode cX9_dealt 16 = .ok (.iconst (-1), 1) := by decide +kernel
theorem dX9_dealt_17 : decode cX9_dealt 17 = .ok (.ireturn, 1) := by decide +kernel
theorem dX9_dealt_18 : decode cX9_dealt 18 = .ok (.aload_n 0, 1) := by decide +kernel
theorem dX9_dealt_19 : decode cX9_dealt 19 = .ok (.getfield 28, 3) := by decide +kernel
theorem dX9_dealt_22 : decode cX9_dealt 22 = .ok (.aload_n 0, 1) := by decide +kernel
theorem dX9_dealt_23 : decode cX9_dealt 23 = .ok (.getfield 10, 3) := by decide +kernel
theorem dX9_dealt_26 : decode cX9_dealt 26 = .ok (.invokevirtual 147, 3) := by decide +kernel
theorem dX9_dealt_29 : decode cX9_dealt 29 = .ok (.aload_n 0, 1) := by decide +kernel
theorem dX9_dealt_30 : decode cX9_dealt 30 = .ok (.getfield 44, 3) := by decide +kernel
theorem dX9_dealt_33 : decode cX9_dealt 33 = .ok (.aload_n 0, 1) := by decide +kernel
theorem dX9_dealt_34 : decode cX9_dealt 34 = .ok (.getfield 28, 3) := by decide +kernel
theorem dX9_dealt_37 : decode cX9_dealt 37 = .ok (.invokevirtual 213, 3) := by decide +kernel
theorem dX9_dealt_40 : decode cX9_dealt 40 = .ok (.iload_n 1, 1) := by decide +kernel
theorem dX9_dealt_41 : decode cX9_dealt 41 = .ok (.ifCond .ge 13, 3) := by decide +kernel
theorem dX9_dealt_44 : decode cX9_dealt 44 = .ok (.aload_n 0, 1) := by decide +kernel
theorem dX9_dealt_45 : decode cX9_dealt 45 = .ok (.getfield 44, 3) := by decide +kernel
theorem dX9_dealt_48 : decode cX9_dealt 48 = .ok (.invokevirtual 216, 3) := by decide +kernel
theorem dX9_dealt_51 : decode cX9_dealt 51 = .ok (.goto 11, 3) := by decide +kernel
theorem dX9_dealt_54 : decode cX9_dealt 54 = .ok (.aload_n 0, 1) := by decide +kernel
theorem dX9_dealt_55 : decode cX9_dealt 55 = .ok (.getfield 44, 3) := by decide +kernel
theorem dX9_dealt_58 : decode cX9_dealt 58 = .ok (.iload_n 1, 1) := by decide +kernel
theorem dX9_dealt_59 : decode cX9_dealt 59 = .ok (.invokevirtual 219, 3) := by decide +kernel
theorem dX9_dealt_62 : decode cX9_dealt 62 = .ok (.ireturn, 1) := by decide +kernel
theorem bX9_dealt_18 {K : KT} {g : GT} {cm sm : Nat} {cs : Nat × Nat} {c0 : Nat} {x1 : Int} {r : Int} {σ' : St} (hC : Ctx K g RX9 cX9_dealt 2 5 cm sm) (hcs : cs.1 ≤ cm ∧ cs.2 ≤ sm) (h0 : isO 9 c0 = true) (hR : RetI K g cX9_dealt 2 cs r (SH0, σ')) : ∀ (σ : St), fX9_dealt_18 c0 x1 σ = some (r, σ') → G K g 2 cs 18 [(0, vr c0), (1, vi x1)] [] (SH0, σ) := by
  intro σ h
  unfold fX9_dealt_18 at h
  refine g_aload_n hC dX9_dealt_18 0 rfl rfl ?_
  refine g_getr hC dX9_dealt_19 lfRX9_28 (isO_spec h0) (ft_9_2 h0) ?_
  refine g_aload_n hC dX9_dealt_22 0 rfl rfl ?_
  refine g_getr hC dX9_dealt_23 lfRX9_10 (isO_spec h0) (ft_9_0 h0) ?_
  obtain ⟨s1, e1, h⟩ := of_bind h
  try dsimp only at h
  refine s_callVv hC dX9_dealt_26 (tX7_begin (rf_9_2 h0) (rf_9_0 h0) e1) miX7_begin mvX7_begin mlRX9_147 (isO_spec (rf_9_2 h0)) vc_7 rfl rfl (Nat.le_of_ble_eq_true rfl) (Nat.le_of_ble_eq_true rfl) (Nat.le_of_ble_eq_true rfl) hcs ?_
  refine g_aload_n hC dX9_dealt_29 0 rfl rfl ?_
  refine g_getr hC dX9_dealt_30 lfRX9_44 (isO_spec h0) (ft_9_4 h0) ?_
  refine g_aload_n hC dX9_dealt_33 0 rfl rfl ?_
  refine g_getr hC dX9_dealt_34 lfRX9_28 (isO_spec h0) (ft_9_2 h0) ?_
  obtain ⟨s2, e2, h⟩ := of_bind h
  try dsimp only at h
  refine s_callVv hC dX9_dealt_37 (tX1_deals (rf_9_4 h0) (rf_9_2 h0) e2) miX1_deals mvX1_deals mlRX9_213 (isO_spec (rf_9_4 h0)) vc_1 rfl rfl (Nat.le_of_ble_eq_true rfl) (Nat.le_of_ble_eq_true rfl) (Nat.le_of_ble_eq_true rfl) hcs ?_
  refine g_iload_n hC dX9_dealt_40 1 rfl rfl ?_
  refine g_if_ge hC dX9_dealt_41 (tgt := 54) (by decide) (fun h9 => ?_) (fun h9 => ?_)
  · rw [if_pos h9] at h
    refine g_aload_n hC dX9_dealt_54 0 rfl rfl ?_
    refine g_getr hC dX9_dealt_55 lfRX9_44 (isO_spec h0) (ft_9_4 h0) ?_
    refine g_iload_n hC dX9_dealt_58 1 rfl rfl ?_
    obtain ⟨⟨r3, s3⟩, e3, h⟩ := of_bind h
    try dsimp only at h
    refine s_callVi hC dX9_dealt_59 (tX1_share (rf_9_4 h0) e3) miX1_share mvX1_share mlRX9_219 (isO_spec (rf_9_4 h0)) vc_1 rfl rfl (Nat.le_of_ble_eq_true rfl) (Nat.le_of_ble_eq_true rfl) (Nat.le_of_ble_eq_true rfl) hcs ?_
    exact ret_i h hR dX9_dealt_62
  · rw [if_neg h9] at h
    refine g_aload_n hC dX9_dealt_44 0 rfl rfl ?_
    refine g_getr hC dX9_dealt_45 lfRX9_44 (isO_spec h0) (ft_9_4 h0) ?_
    obtain ⟨⟨r4, s4⟩, e4, h⟩ := of_bind h
    try dsimp only at h
    refine s_callVi hC dX9_dealt_48 (tX1_total (rf_9_4 h0) e4) miX1_total mvX1_total mlRX9_216 (isO_spec (rf_9_4 h0)) vc_1 rfl rfl (Nat.le_of_ble_eq_true rfl) (Nat.le_of_ble_eq_true rfl) (Nat.le_of_ble_eq_true rfl) hcs ?_
    refine g_goto hC dX9_dealt_51 (tgt := 62) (by decide) ?_
    exact ret_i h hR dX9_dealt_62
theorem bX9_dealt_0 {K : KT} {g : GT} {cm sm : Nat} {cs : Nat × Nat} {c0 : Nat} {x1 : Int} {r : Int} {σ' : St} (hC : Ctx K g RX9 cX9_dealt 2 5 cm sm) (hcs : cs.1 ≤ cm ∧ cs.2 ≤ sm) (h0 : isO 9 c0 = true) (hR : RetI K g cX9_dealt 2 cs r (SH0, σ')) : ∀ (σ : St), fX9_dealt c0 x1 σ = some (r, σ') → G K g 2 cs 0 [(0, vr c0), (1, vi x1)] [] (SH0, σ) := by
  intro σ h
  unfold fX9_dealt at h
  refine g_iload_n hC dX9_dealt_0 1 rfl rfl ?_
  refine g_iconst hC dX9_dealt_1 ok_m1 ?_
  refine g_icmp_eq hC dX9_dealt_2 (tgt := 18) (by decide) (fun h9 => ?_) (fun h9 => ?_)
  · rw [if_pos h9] at h
    exact g_pick [0, 1] rfl (bX9_dealt_18 hC hcs h0 hR _ h)
  · rw [if_neg h9] at h
    refine g_aload_n hC dX9_dealt_5 0 rfl rfl ?_
    refine g_getr hC dX9_dealt_6 lfRX9_10 (isO_spec h0) (ft_9_0 h0) ?_
    refine g_iload_n hC dX9_dealt_9 1 rfl rfl ?_
    obtain ⟨⟨r1, s1⟩, e1, h⟩ := of_bind h
    try dsimp only at h
    refine s_callVi hC dX9_dealt_10 (tX2_hasBidder (rf_9_0 h0) e1) miX2_hasBidder mvX2_hasBidder mlRX9_180 (isO_spec (rf_9_0 h0)) vc_2 rfl rfl (Nat.le_of_ble_eq_true rfl) (Nat.le_of_ble_eq_true rfl) (Nat.le_of_ble_eq_true rfl) hcs ?_
    refine g_if_ne hC dX9_dealt_13 (tgt := 18) (by decide) (fun h9 => ?_) (fun h9 => ?_)
    · rw [if_neg h9] at h
      exact g_pick [0, 1] rfl (bX9_dealt_18 hC hcs h0 hR _ h)
    · rw [if_pos h9] at h
      refine g_iconst hC dX9_dealt_16 ok_m1 ?_
      exact ret_i h hR dX9_dealt_17
theorem tX9_dealt {l : Launch} {g : GT} {c0 : Nat} {x1 : Int} {σ σ' : St} {r : Int} (h0 : isO 9 c0 = true) (h : fX9_dealt c0 x1 σ = some (r, σ')) : Cn l g yX9_dealt cX9_dealt 2 (some .int) 5 0 0 [vr c0, vi x1] (SH0, σ) (some (vi r)) (SH0, σ') :=
  Cn.ofI (by decide) (Nat.le_of_ble_eq_true rfl) (fun K e hC hR => (bX9_dealt_0 hC ⟨Nat.le_refl _, Nat.le_refl _⟩ h0 hR _ h))
theorem dX7_sellsByDraws_0 : decode cX7_sellsByDraws 0 = .ok (.aload_n 0, 1) := by decide +kernel
theorem dX7_sellsByDraws_1 : decode cX7_sellsByDraws 1 = .ok (.aload_n 0, 1) := by decide +kernel
theorem dX7_sellsByDraws_2 : decode cX7_sellsByDraws 2 = .ok (.aload_n 1, 1) := by decide +kernel
theorem dX7_sellsByDraws_3 : decode cX7_sellsByDraws 3 = .ok (.invokevirtual 112, 3) := by decide +kernel
theorem dX7_sellsByDraws_6 : decode cX7_sellsByDraws 6 = .ok (.putfield 116, 3) := by decide +kernel
theorem dX7_sellsByDraws_9 : decode cX7_sellsByDraws 9 = .ok (.iload_n 2, 1) := by decide +kernel
theorem dX7_sellsByDraws_10 : decode cX7_sellsByDraws 10 = .ok (.istore 4, 2) := by decide +kernel
theorem dX7_sellsByDraws_12 : decode cX7_sellsByDraws 12 = .ok (.iconst 0, 1) := by decide +kernel
theorem dX7_sellsByDraws_13 : decode cX7_sellsByDraws 13 = .ok (.istore 5, 2) := by decide +kernel
theorem dX7_sellsByDraws_15 : decode cX7_sellsByDraws 15 = .ok (.iload 5, 2) := by decide +kernel
theorem dX7_sellsByDraws_17 : decode cX7_sellsByDraws 17 = .ok (.aload_n 0, 1) := by decide +kernel
theorem dX7_sellsByDraws_18 : decode cX7_sellsByDraws 18 = .ok (.getfield 116, 3) := by decide +kernel
theorem dX7_sellsByDraws_21 : decode cX7_sellsByDraws 21 = .ok (.if_icmp .ge 84, 3) := by decide +kernel
theorem dX7_sellsByDraws_24 : decode cX7_sellsByDraws 24 = .ok (.iload 4, 2) := by decide +kernel
theorem dX7_sellsByDraws_26 : decode cX7_sellsByDraws 26 = .ok (.ldc 128, 2) := by decide +kernel
theorem dX7_sellsByDraws_28 : decode cX7_sellsByDraws 28 = .ok (.imul, 1) := by decide +kernel
theorem dX7_sellsByDraws_29 : decode cX7_sellsByDraws 29 = .ok (.sipush 12345, 3) := by decide +kernel
theorem dX7_sellsByDraws_32 : decode cX7_sellsByDraws 32 = .ok (.iadd, 1) := by decide +kernel
theorem dX7_sellsByDraws_33 : decode cX7_sellsByDraws 33 = .ok (.istore 4, 2) := by decide +kernel
theorem dX7_sellsByDraws_35 : decode cX7_sellsByDraws 35 = .ok (.aload_n 0, 1) := by decide +kernel
theorem dX7_sellsByDraws_36 : decode cX7_sellsByDraws 36 = .ok (.getfield 12, 3) := by decide +kernel
theorem dX7_sellsByDraws_39 : decode cX7_sellsByDraws 39 = .ok (.getfield 93, 3) := by decide +kernel
theorem dX7_sellsByDraws_42 : decode cX7_sellsByDraws 42 = .ok (.ifCond .le 39, 3) := by decide +kernel
theorem dX7_sellsByDraws_45 : decode cX7_sellsByDraws 45 = .ok (.iload 4, 2) := by decide +kernel
theorem dX7_sellsByDraws_47 : decode cX7_sellsByDraws 47 = .ok (.bipush 16, 2) := by decide +kernel
theorem dX7_sellsByDraws_49 : decode cX7_sellsByDraws 49 = .ok (.iushr, 1) := by decide +kernel
theorem dX7_sellsByDraws_50 : decode cX7_sellsByDraws 50 = .ok (.bipush 12, 2) := by decide +kernel
theorem dX7_sellsByDraws_52 : decode cX7_sellsByDraws 52 = .ok (.irem, 1) := by decide +kernel
theorem dX7_sellsByDraws_53 : decode cX7_sellsByDraws 53 = .ok (.iload_n 3, 1) := by decide +kernel
theorem dX7_sellsByDraws_54 : decode cX7_sellsByDraws 54 = .ok (.if_icmp .ge 27, 3) := by decide +kernel
theorem dX7_sellsByDraws_57 : decode cX7_sellsByDraws 57 = .ok (.aload_n 0, 1) := by decide +kernel
theorem dX7_sellsByDraws_58 : decode cX7_sellsByDraws 58 = .ok (.dup, 1) := by decide +kernel
theorem dX7_sellsByDraws_59 : decode cX7_sellsByDraws 59 = .ok (.getfield 55, 3) := by decide +kernel
theorem dX7_sellsByDraws_62 : decode cX7_sellsByDraws 62 = .ok (.iconst 1, 1) := by decide +kernel
theorem dX7_sellsByDraws_63 : decode cX7_sellsByDraws 63 = .ok (.iload 4, 2) := by decide +kernel
theorem dX7_sellsByDraws_65 : decode cX7_sellsByDraws 65 = .ok (.bipush 8, 2) := by decide +kernel
theorem dX7_sellsByDraws_67 : decode cX7_sellsByDraws 67 = .ok (.iushr, 1) := by decide +kernel
theorem dX7_sellsByDraws_68 : decode cX7_sellsByDraws 68 = .ok (.aload_n 0, 1) := by decide +kernel
theorem dX7_sellsByDraws_69 : decode cX7_sellsByDraws 69 = .ok (.getfield 12, 3) := by decide +kernel
theorem dX7_sellsByDraws_72 : decode cX7_sellsByDraws 72 = .ok (.getfield 93, 3) := by decide +kernel
theorem dX7_sellsByDraws_75 : decode cX7_sellsByDraws 75 = .ok (.irem, 1) := by decide +kernel
theorem dX7_sellsByDraws_76 : decode cX7_sellsByDraws 76 = .ok (.ishl, 1) := by decide +kernel
theorem dX7_sellsByDraws_77 : decode cX7_sellsByDraws 77 = .ok (.ior, 1) := by decide +kernel
theorem dX7_sellsByDraws_78 : decode cX7_sellsByDraws 78 = .ok (.putfield 55, 3) := by decide +kernel
theorem dX7_sellsByDraws_81 : decode cX7_sellsByDraws 81 = .ok (.aload_n 0, 1) := by decide +kernel
theorem dX7_sellsByDraws_82 : decode cX7_sellsByDraws 82 = .ok (.getfield 31, 3) := by decide +kernel
theorem dX7_sellsByDraws_85 : decode cX7_sellsByDraws 85 = .ok (.iload 5, 2) := by decide +kernel
theorem dX7_sellsByDraws_87 : decode cX7_sellsByDraws 87 = .ok (.aload_n 0, 1) := by decide +kernel
theorem dX7_sellsByDraws_88 : decode cX7_sellsByDraws 88 = .ok (.aload_n 1, 1) := by decide +kernel
theorem dX7_sellsByDraws_89 : decode cX7_sellsByDraws 89 = .ok (.iload 5, 2) := by decide +kernel
theorem dX7_sellsByDraws_91 : decode cX7_sellsByDraws 91 = .ok (.invokevirtual 119, 3) := by decide +kernel
theorem dX7_sellsByDraws_94 : decode cX7_sellsByDraws 94 = .ok (.l2i, 1) := by decide +kernel
theorem dX7_sellsByDraws_95 : decode cX7_sellsByDraws 95 = .ok (.invokevirtual 125, 3) := by decide +kernel
theorem dX7_sellsByDraws_98 : decode cX7_sellsByDraws 98 = .ok (.iastore, 1) := by decide +kernel
theorem dX7_sellsByDraws_99 : decode cX7_sellsByDraws 99 = .ok (.iinc 5 1, 3) := by decide +kernel
theorem dX7_sellsByDraws_102 : decode cX7_sellsByDraws 102 = .ok (.goto (-87), 3) := by decide +kernel
theorem dX7_sellsByDraws_105 : decode cX7_sellsByDraws 105 = .ok (.iload 4, 2) := by decide +kernel
theorem dX7_sellsByDraws_107 : decode cX7_sellsByDraws 107 = .ok (.ireturn, 1) := by decide +kernel
theorem bX7_sellsByDraws_81 {K : KT} {g : GT} {cm sm : Nat} {cs : Nat × Nat} {c0 : Nat} {c1 : Nat} {x2 : Int} {x3 : Int} {k15 : Int → Int → St → Option (Int × St)} {r : Int} {σ' : St} (hC : Ctx K g RX7 cX7_sellsByDraws 6 5 cm sm) (hcs : cs.1 ≤ cm ∧ cs.2 ≤ sm) (h0 : isO 7 c0 = true) (h1 : isO 6 c1 = true) (hk15 : ∀ (x4 : Int) (x5 : Int) (σ : St), k15 x4 x5 σ = some (r, σ') → G K g 6 cs 15 [(0, vr c0), (1, vr c1), (2, vi x2), (3, vi x3), (4, vi x4), (5, vi x5)] [] (SH0, σ)) (hR : RetI K g cX7_sellsByDraws 6 cs r (SH0, σ')) : ∀ (x4 : Int) (x5 : Int) (σ : St), fX7_sellsByDraws_81 c0 c1 x2 x3 k15 x4 x5 σ = some (r, σ') → G K g 6 cs 81 [(0, vr c0), (1, vr c1), (2, vi x2), (3, vi x3), (4, vi x4), (5, vi x5)] [] (SH0, σ) := by
  intro x4 x5 σ h
  unfold fX7_sellsByDraws_81 at h
  refine g_aload_n hC dX7_sellsByDraws_81 0 rfl rfl ?_
  refine g_getr hC dX7_sellsByDraws_82 lfRX7_31 (isO_spec h0) (ft_7_6 h0) ?_
  refine g_iload hC dX7_sellsByDraws_85 5 rfl ?_
  refine g_aload_n hC dX7_sellsByDraws_87 0 rfl rfl ?_
  refine g_aload_n hC dX7_sellsByDraws_88 1 rfl rfl ?_
  refine g_iload hC dX7_sellsByDraws_89 5 rfl ?_
  obtain ⟨⟨r1, s1⟩, e1, h⟩ := of_bind h
  try dsimp only at h
  refine s_callVl hC dX7_sellsByDraws_91 (tX6_at h1 e1) miX6_at mvX6_at mlRX7_119 (isO_spec h1) vc_6 rfl rfl (Nat.le_of_ble_eq_true rfl) (Nat.le_of_ble_eq_true rfl) (Nat.le_of_ble_eq_true rfl) hcs ?_
  refine g_l2i hC dX7_sellsByDraws_94 ?_
  obtain ⟨⟨r2, s2⟩, e2, h⟩ := of_bind h
  try dsimp only at h
  refine s_callVi hC dX7_sellsByDraws_95 (tX7_sellsOne h0 e2) miX7_sellsOne mvX7_sellsOne mlRX7_125 (isO_spec h0) vc_7 rfl rfl (Nat.le_of_ble_eq_true rfl) (Nat.le_of_ble_eq_true rfl) (Nat.le_of_ble_eq_true rfl) hcs ?_
  obtain ⟨b9, h⟩ := of_ite h
  refine g_iast hC dX7_sellsByDraws_98 (isA_spec (rf_7_6 h0)) b9 ?_
  refine g_iinc hC dX7_sellsByDraws_99 5 rfl (Nat.le_of_ble_eq_true rfl) rfl ?_
  refine g_goto hC dX7_sellsByDraws_102 (tgt := 15) (by decide) ?_
  exact g_pick [1, 2, 3, 4, 5, 0] rfl (hk15 _ _ _ h)
theorem bX7_sellsByDraws_15 {K : KT} {g : GT} {cm sm : Nat} {cs : Nat × Nat} {c0 : Nat} {c1 : Nat} {x2 : Int} {x3 : Int} {r : Int} {σ' : St} (hC : Ctx K g RX7 cX7_sellsByDraws 6 5 cm sm) (hcs : cs.1 ≤ cm ∧ cs.2 ≤ sm) (h0 : isO 7 c0 = true) (h1 : isO 6 c1 = true) (hR : RetI K g cX7_sellsByDraws 6 cs r (SH0, σ')) : ∀ (n : Nat) (x4 : Int) (x5 : Int) (σ : St), fX7_sellsByDraws_15 c0 c1 x2 x3 n x4 x5 σ = some (r, σ') → G K g 6 cs 15 [(0, vr c0), (1, vr c1), (2, vi x2), (3, vi x3), (4, vi x4), (5, vi x5)] [] (SH0, σ) := by
  intro n
  induction n with
  | zero =>
    intro x4 x5 σ h
    rw [fX7_sellsByDraws_15.eq_1] at h
    cases h
  | succ n ih =>
    intro x4 x5 σ h
    rw [fX7_sellsByDraws_15.eq_2] at h
    refine g_iload hC dX7_sellsByDraws_15 5 rfl ?_
    refine g_aload_n hC dX7_sellsByDraws_17 0 rfl rfl ?_
    refine g_geti hC dX7_sellsByDraws_18 lfRX7_116 (isO_spec h0) (ft_7_7 h0) ?_
    refine g_icmp_ge hC dX7_sellsByDraws_21 (tgt := 105) (by decide) (fun h9 => ?_) (fun h9 => ?_)
    · rw [if_pos h9] at h
      refine g_iload hC dX7_sellsByDraws_105 4 rfl ?_
      exact ret_i h hR dX7_sellsByDraws_107
    · rw [if_neg h9] at h
      refine g_iload hC dX7_sellsByDraws_24 4 rfl ?_
      refine g_ldc hC dX7_sellsByDraws_26 kRX7_128 ?_
      refine g_imul hC dX7_sellsByDraws_28 ?_
      refine g_sipush hC dX7_sellsByDraws_29 sp_12345 ?_
      refine g_iadd hC dX7_sellsByDraws_32 ?_
      refine g_istore hC dX7_sellsByDraws_33 (Nat.le_of_ble_eq_true rfl) rfl ?_
      refine g_aload_n hC dX7_sellsByDraws_35 1 rfl rfl ?_
      refine g_getr hC dX7_sellsByDraws_36 lfRX7_12 (isO_spec h0) (ft_7_0 h0) ?_
      refine g_geti hC dX7_sellsByDraws_39 lfRX7_93 (isO_spec (rf_7_0 h0)) (ft_2_3 (rf_7_0 h0)) ?_
      refine g_if_le hC dX7_sellsByDraws_42 (tgt := 81) (by decide) (fun h9 => ?_) (fun h9 => ?_)
      · rw [if_pos h9] at h
        exact g_pick [1, 2, 3, 4, 0, 5] rfl (bX7_sellsByDraws_81 hC hcs h0 h1 ih hR _ _ _ h)
      · rw [if_neg h9] at h
        refine g_iload hC dX7_sellsByDraws_45 0 rfl ?_
        refine g_bipush hC dX7_sellsByDraws_47 bp_16 ?_
        refine g_iushr hC dX7_sellsByDraws_49 ?_
        refine g_bipush hC dX7_sellsByDraws_50 bp_12 ?_
        refine g_irem hC dX7_sellsByDraws_52 (by decide) ?_
        refine g_iload_n hC dX7_sellsByDraws_53 4 rfl rfl ?_
        refine g_icmp_ge hC dX7_sellsByDraws_54 (tgt := 81) (by decide) (fun h9 => ?_) (fun h9 => ?_)
        · rw [if_pos h9] at h
          exact g_pick [1, 2, 3, 4, 0, 5] rfl (bX7_sellsByDraws_81 hC hcs h0 h1 ih hR _ _ _ h)
        · rw [if_neg h9] at h
          refine g_aload_n hC dX7_sellsByDraws_57 1 rfl rfl ?_
          refine g_dup hC dX7_sellsByDraws_58 rfl ?_
          refine g_geti hC dX7_sellsByDraws_59 lfRX7_55 (isO_spec h0) (ft_7_9 h0) ?_
          refine g_iconst hC dX7_sellsByDraws_62 ok_1 ?_
          refine g_iload hC dX7_sellsByDraws_63 0 rfl ?_
          refine g_bipush hC dX7_sellsByDraws_65 bp_8 ?_
          refine g_iushr hC dX7_sellsByDraws_67 ?_
          refine g_aload_n hC dX7_sellsByDraws_68 1 rfl rfl ?_
          refine g_getr hC dX7_sellsByDraws_69 lfRX7_12 (isO_spec h0) (ft_7_0 h0) ?_
          refine g_geti hC dX7_sellsByDraws_72 lfRX7_93 (isO_spec (rf_7_0 h0)) (ft_2_3 (rf_7_0 h0)) ?_
          obtain ⟨b9, h⟩ := of_ite h
          refine g_irem hC dX7_sellsByDraws_75 b9 ?_
          refine g_ishl hC dX7_sellsByDraws_76 ?_
          refine g_ior hC dX7_sellsByDraws_77 ?_
          refine g_puti hC dX7_sellsByDraws_78 lfRX7_55 fp_7_9 (isO_spec h0) (ft_7_9 h0) ?_
          exact g_pick [1, 2, 3, 4, 0, 5] rfl (bX7_sellsByDraws_81 hC hcs h0 h1 ih hR _ _ _ h)
theorem bX7_sellsByDraws_0 {K : KT} {g : GT} {cm sm : Nat} {cs : Nat × Nat} {c0 : Nat} {c1 : Nat} {x2 : Int} {x3 : Int} {r : Int} {σ' : St} (hC : Ctx K g RX7 cX7_sellsByDraws 6 5 cm sm) (hcs : cs.1 ≤ cm ∧ cs.2 ≤ sm) (h0 : isO 7 c0 = true) (h1 : isO 6 c1 = true) (hR : RetI K g cX7_sellsByDraws 6 cs r (SH0, σ')) : ∀ (σ : St), fX7_sellsByDraws c0 c1 x2 x3 σ = some (r, σ') → G K g 6 cs 0 [(0, vr c0), (1, vr c1), (2, vi x2), (3, vi x3)] [] (SH0, σ) := by
  intro σ h
  unfold fX7_sellsByDraws at h
  refine g_aload_n hC dX7_sellsByDraws_0 0 rfl rfl ?_
  refine g_aload_n hC dX7_sellsByDraws_1 0 rfl rfl ?_
  refine g_aload_n hC dX7_sellsByDraws_2 1 rfl rfl ?_
  obtain ⟨⟨r1, s1⟩, e1, h⟩ := of_bind h
  try dsimp only at h
  refine s_callVi hC dX7_sellsByDraws_3 (tX7_lengthOf h0 h1 e1) miX7_lengthOf mvX7_lengthOf mlRX7_112 (isO_spec h0) vc_7 rfl rfl (Nat.le_of_ble_eq_true rfl) (Nat.le_of_ble_eq_true rfl) (Nat.le_of_ble_eq_true rfl) hcs ?_
  refine g_puti hC dX7_sellsByDraws_6 lfRX7_116 fp_7_7 (isO_spec h0) (ft_7_7 h0) ?_
  refine g_iload_n hC dX7_sellsByDraws_9 2 rfl rfl ?_
  refine g_istore hC dX7_sellsByDraws_10 (Nat.le_of_ble_eq_true rfl) rfl ?_
  refine g_iconst hC dX7_sellsByDraws_12 ok_0 ?_
  refine g_istore hC dX7_sellsByDraws_13 (Nat.le_of_ble_eq_true rfl) rfl ?_
  exact g_pick [2, 3, 4, 5, 1, 0] rfl (bX7_sellsByDraws_15 hC hcs h0 h1 hR _ _ _ _ h)
theorem tX7_sellsByDraws {l : Launch} {g : GT} {c0 : Nat} {c1 : Nat} {x2 : Int} {x3 : Int} {σ σ' : St} {r : Int} (h0 : isO 7 c0 = true) (h1 : isO 6 c1 = true) (h : fX7_sellsByDraws c0 c1 x2 x3 σ = some (r, σ')) : Cn l g yX7_sellsByDraws cX7_sellsByDraws 6 (some .int) 5 0 0 [vr c0, vr c1, vi x2, vi x3] (SH0, σ) (some (vi r)) (SH0, σ') :=
  Cn.ofI (by decide) (Nat.le_of_ble_eq_true rfl) (fun K e hC hR => (bX7_sellsByDraws_0 hC ⟨Nat.le_refl _, Nat.le_refl _⟩ h0 h1 hR _ h))
