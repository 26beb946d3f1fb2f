/-! Walks (printed by my program). -/
theorem dX7_wouldChange_0 : decode cX7_wouldChange 0 = .ok (.aload_n 0, 1) := by decide +kernel
theorem dX7_wouldChange_1 : decode cX7_wouldChange 1 = .ok (.getfield 12, 3) := by decide +kernel
theorem dX7_wouldChange_4 : decode cX7_wouldChange 4 = .ok (.iload_n 1, 1) := by decide +kernel
theorem dX7_wouldChange_5 : decode cX7_wouldChange 5 = .ok (.iconst 1, 1) := by decide +kernel
theorem dX7_wouldChange_6 : decode cX7_wouldChange 6 = .ok (.invokevirtual 67, 3) := by decide +kernel
theorem dX7_wouldChange_9 : decode cX7_wouldChange 9 = .ok (.istore_n 3, 1) := by decide +kernel
theorem dX7_wouldChange_10 : decode cX7_wouldChange 10 = .ok (.aload_n 0, 1) := by decide +kernel
theorem dX7_wouldChange_11 : decode cX7_wouldChange 11 = .ok (.getfield 12, 3) := by decide +kernel
theorem dX7_wouldChange_14 : decode cX7_wouldChange 14 = .ok (.iload_n 2, 1) := by decide +kernel
theorem dX7_wouldChange_15 : decode cX7_wouldChange 15 = .ok (.iconst 1, 1) := by decide +kernel
theorem dX7_wouldChange_16 : decode cX7_wouldChange 16 = .ok (.invokevirtual 67, 3) := by decide +kernel
theorem dX7_wouldChange_19 : decode cX7_wouldChange 19 = .ok (.istore 4, 2) := by decide +kernel
theorem dX7_wouldChange_21 : decode cX7_wouldChange 21 = .ok (.aload_n 0, 1) := by decide +kernel
theorem dX7_wouldChange_22 : decode cX7_wouldChange 22 = .ok (.getfield 12, 3) := by decide +kernel
theorem dX7_wouldChange_25 : decode cX7_wouldChange 25 = .ok (.iload_n 3, 1) := by decide +kernel
theorem dX7_wouldChange_26 : decode cX7_wouldChange 26 = .ok (.invokevirtual 71, 3) := by decide +kernel
theorem dX7_wouldChange_29 : decode cX7_wouldChange 29 = .ok (.ifCond .eq 45, 3) := by decide +kernel
theorem dX7_wouldChange_32 : decode cX7_wouldChange 32 = .ok (.aload_n 0, 1) := by decide +kernel
theorem dX7_wouldChange_33 : decode cX7_wouldChange 33 = .ok (.getfield 12, 3) := by decide +kernel
theorem dX7_wouldChange_36 : decode cX7_wouldChange 36 = .ok (.iload 4, 2) := by decide +kernel
theorem dX7_wouldChange_38 : decode cX7_wouldChange 38 = .ok (.invokevirtual 71, 3) := by decide +kernel
theorem dX7_wouldChange_41 : decode cX7_wouldChange 41 = .ok (.ifCond .eq 33, 3) := by decide +kernel
theorem dX7_wouldChange_44 : decode cX7_wouldChange 44 = .ok (.iload_n 3, 1) := by decide +kernel
theorem dX7_wouldChange_45 : decode cX7_wouldChange 45 = .ok (.iload 4, 2) := by decide +kernel
theorem dX7_wouldChange_47 : decode cX7_wouldChange 47 = .ok (.if_icmp .eq 27, 3) := by decide +kernel
theorem dX7_wouldChange_50 : decode cX7_wouldChange 50 = .ok (.aload_n 0, 1) := by decide +kernel
theorem dX7_wouldChange_51 : decode cX7_wouldChange 51 = .ok (.getfield 12, 3) := by decide +kernel
theorem dX7_wouldChange_54 : decode cX7_wouldChange 54 = .ok (.iload_n 1, 1) := by decide +kernel
theorem dX7_wouldChange_55 : decode cX7_wouldChange 55 = .ok (.iconst 2, 1) := by decide +kernel
theorem dX7_wouldChange_56 : decode cX7_wouldChange 56 = .ok (.invokevirtual 67, 3) := by decide +kernel
theorem dX7_wouldChange_59 : decode cX7_wouldChange 59 = .ok (.ifCond .ne 15, 3) := by decide +kernel
theorem dX7_wouldChange_62 : decode cX7_wouldChange 62 = .ok (.aload_n 0, 1) := by decide +kernel
theorem dX7_wouldChange_63 : decode cX7_wouldChange 63 = .ok (.getfield 12, 3) := by decide +kernel
theorem dX7_wouldChange_66 : decode cX7_wouldChange 66 = .ok (.iload_n 2, 1) := by decide +kernel
theorem dX7_wouldChange_67 : decode cX7_wouldChange 67 = .ok (.iconst 2, 1) := by decide +kernel
theorem dX7_wouldChange_68 : decode cX7_wouldChange 68 = .ok (.invokevirtual 67, 3) := by decide +kernel
theorem dX7_wouldChange_71 : decode cX7_wouldChange 71 = .ok (.ifCond .eq 5, 3) := by decide +kernel
theorem dX7_wouldChange_74 : decode cX7_wouldChange 74 = .ok (.iconst 0, 1) := by decide +kernel
theorem dX7_wouldChange_75 : decode cX7_wouldChange 75 = .ok (.ireturn, 1) := by decide +kernel
theorem dX7_wouldChange_76 : decode cX7_wouldChange 76 = .ok (.aload_n 0, 1) := by decide +kernel
theorem dX7_wouldChange_77 : decode cX7_wouldChange 77 = .ok (.getfield 18, 3) := by decide +kernel
theorem dX7_wouldChange_80 : decode cX7_wouldChange 80 = .ok (.iload_n 3, 1) := by decide +kernel
theorem dX7_wouldChange_81 : decode cX7_wouldChange 81 = .ok (.iaload, 1) := by decide +kernel
theorem dX7_wouldChange_82 : decode cX7_wouldChange 82 = .ok (.iconst 1, 1) := by decide +kernel
theorem dX7_wouldChange_83 : decode cX7_wouldChange 83 = .ok (.isub, 1) := by decide +kernel
theorem dX7_wouldChange_84 : decode cX7_wouldChange 84 = .ok (.istore 5, 2) := by decide +kernel
theorem dX7_wouldChange_86 : decode cX7_wouldChange 86 = .ok (.aload_n 0, 1) := by decide +kernel
theorem dX7_wouldChange_87 : decode cX7_wouldChange 87 = .ok (.iload_n 3, 1) := by decide +kernel
theorem dX7_wouldChange_88 : decode cX7_wouldChange 88 = .ok (.aload_n 0, 1) := by decide +kernel
theorem dX7_wouldChange_89 : decode cX7_wouldChange 89 = .ok (.getfield 12, 3) := by decide +kernel
theorem dX7_wouldChange_92 : decode cX7_wouldChange 92 = .ok (.iload_n 2, 1) := by decide +kernel
theorem dX7_wouldChange_93 : decode cX7_wouldChange 93 = .ok (.iconst 0, 1) := by decide +kernel
theorem dX7_wouldChange_94 : decode cX7_wouldChange 94 = .ok (.invokevirtual 67, 3) := by decide +kernel
theorem dX7_wouldChange_97 : decode cX7_wouldChange 97 = .ok (.iload 5, 2) := by decide +kernel
theorem dX7_wouldChange_99 : decode cX7_wouldChange 99 = .ok (.invokevirtual 96, 3) := by decide +kernel
theorem dX7_wouldChange_102 : decode cX7_wouldChange 102 = .ok (.aload_n 0, 1) := by decide +kernel
theorem dX7_wouldChange_103 : decode cX7_wouldChange 103 = .ok (.iload_n 3, 1) := by decide +kernel
theorem dX7_wouldChange_104 : decode cX7_wouldChange 104 = .ok (.aload_n 0, 1) := by decide +kernel
theorem dX7_wouldChange_105 : decode cX7_wouldChange 105 = .ok (.getfield 12, 3) := by decide +kernel
theorem dX7_wouldChange_108 : decode cX7_wouldChange 108 = .ok (.iload_n 1, 1) := by decide +kernel
theorem dX7_wouldChange_109 : decode cX7_wouldChange 109 = .ok (.iconst 0, 1) := by decide +kernel
theorem dX7_wouldChange_110 : decode cX7_wouldChange 110 = .ok (.invokevirtual 67, 3) := by decide +kernel
theorem dX7_wouldChange_113 : decode cX7_wouldChange 113 = .ok (.iload 5, 2) := by decide +kernel
theorem dX7_wouldChange_115 : decode cX7_wouldChange 115 = .ok (.invokevirtual 96, 3) := by decide +kernel
theorem dX7_wouldChange_118 : decode cX7_wouldChange 118 = .ok (.if_icmp .le 7, 3) := by decide +kernel
theorem dX7_wouldChange_121 : decode cX7_wouldChange 121 = .ok (.iconst 1, 1) := by decide +kernel
theorem dX7_wouldChange_122 : decode cX7_wouldChange 122 = .ok (.goto 4, 3) := by decide +kernel
theorem dX7_wouldChange_125 : decode cX7_wouldChange 125 = .ok (.iconst 0, 1) := by decide +kernel
theorem dX7_wouldChange_126 : decode cX7_wouldChange 126 = .ok (.ireturn, 1) := by decide +kernel
theorem bX7_wouldChange_0 {K : KT} {g : GT} {cm sm : Nat} {cs : Nat × Nat} {c0 : Nat} {x1 : Int} {x2 : Int} {r : Int} {σ' : St} (hC : Ctx K g RX7 cX7_wouldChange 6 3 cm sm) (hcs : cs.1 ≤ cm ∧ cs.2 ≤ sm) (h0 : isO 7 c0 = true) (hR : RetZ K g cX7_wouldChange 6 cs r (SH0, σ')) : ∀ (σ : St), fX7_wouldChange c0 x1 x2 σ = some (r, σ') → G K g 6 cs 0 [(0, vr c0), (1, vi x1), (2, vi x2)] [] (SH0, σ) := by
  intro σ h
  unfold fX7_wouldChange at h
  refine g_aload_n hC dX7_wouldChange_0 0 rfl rfl ?_
  refine g_getr hC dX7_wouldChange_1 lfRX7_12 (isO_spec h0) (ft_7_0 h0) ?_
  refine g_iload_n hC dX7_wouldChange_4 1 rfl rfl ?_
  refine g_iconst hC dX7_wouldChange_5 ok_1 ?_
  obtain ⟨⟨r1, s1⟩, e1, h⟩ := of_bind h
  try dsimp only at h
  refine s_callVi hC dX7_wouldChange_6 (tX2_number (rf_7_0 h0) e1) miX2_number mvX2_number mlRX7_67 (isO_spec (rf_7_0 h0)) vc_2 rfl rfl (Nat.le_of_ble_eq_true rfl) (Nat.le_of_ble_eq_true rfl) (Nat.le_of_ble_eq_true rfl) hcs ?_
  refine g_istore_n hC dX7_wouldChange_9 rfl (Nat.le_of_ble_eq_true rfl) rfl ?_
  refine g_aload_n hC dX7_wouldChange_10 1 rfl rfl ?_
  refine g_getr hC dX7_wouldChange_11 lfRX7_12 (isO_spec h0) (ft_7_0 h0) ?_
  refine g_iload_n hC dX7_wouldChange_14 3 rfl rfl ?_
  refine g_iconst hC dX7_wouldChange_15 ok_1 ?_
  obtain ⟨⟨r2, s2⟩, e2, h⟩ := of_bind h
  try dsimp only at h
  refine s_callVi hC dX7_wouldChange_16 (tX2_number (rf_7_0 h0) e2) miX2_number mvX2_number mlRX7_67 (isO_spec (rf_7_0 h0)) vc_2 rfl rfl (Nat.le_of_ble_eq_true rfl) (Nat.le_of_ble_eq_true rfl) (Nat.le_of_ble_eq_true rfl) hcs ?_
  refine g_istore hC dX7_wouldChange_19 (Nat.le_of_ble_eq_true rfl) rfl ?_
  refine g_aload_n hC dX7_wouldChange_21 2 rfl rfl ?_
  refine g_getr hC dX7_wouldChange_22 lfRX7_12 (isO_spec h0) (ft_7_0 h0) ?_
  refine g_iload_n hC dX7_wouldChange_25 1 rfl rfl ?_
  obtain ⟨⟨r3, s3⟩, e3, h⟩ := of_bind h
  try dsimp only at h
  refine s_callVi hC dX7_wouldChange_26 (tX2_hasBidder (rf_7_0 h0) e3) miX2_hasBidder mvX2_hasBidder mlRX7_71 (isO_spec (rf_7_0 h0)) vc_2 rfl rfl (Nat.le_of_ble_eq_true rfl) (Nat.le_of_ble_eq_true rfl) (Nat.le_of_ble_eq_true rfl) hcs ?_
  refine g_if_eq hC dX7_wouldChange_29 (tgt := 74) (by decide) (fun h9 => ?_) (fun h9 => ?_)
  · rw [if_pos h9] at h
    refine g_iconst hC dX7_wouldChange_74 ok_0 ?_
    exact ret_z h hR (by decide) dX7_wouldChange_75
  · rw [if_neg h9] at h
    refine g_aload_n hC dX7_wouldChange_32 2 rfl rfl ?_
    refine g_getr hC dX7_wouldChange_33 lfRX7_12 (isO_spec h0) (ft_7_0 h0) ?_
    refine g_iload hC dX7_wouldChange_36 0 rfl ?_
    obtain ⟨⟨r4, s4⟩, e4, h⟩ := of_bind h
    try dsimp only at h
    refine s_callVi hC dX7_wouldChange_38 (tX2_hasBidder (rf_7_0 h0) e4) miX2_hasBidder mvX2_hasBidder mlRX7_71 (isO_spec (rf_7_0 h0)) vc_2 rfl rfl (Nat.le_of_ble_eq_true rfl) (Nat.le_of_ble_eq_true rfl) (Nat.le_of_ble_eq_true rfl) hcs ?_
    refine g_if_eq hC dX7_wouldChange_41 (tgt := 74) (by decide) (fun h9 => ?_) (fun h9 => ?_)
    · rw [if_pos h9] at h
      refine g_iconst hC dX7_wouldChange_74 ok_0 ?_
      exact ret_z h hR (by decide) dX7_wouldChange_75
    · rw [if_neg h9] at h
      refine g_iload_n hC dX7_wouldChange_44 1 rfl rfl ?_
      refine g_iload hC dX7_wouldChange_45 0 rfl ?_
      refine g_icmp_eq hC dX7_wouldChange_47 (tgt := 74) (by decide) (fun h9 => ?_) (fun h9 => ?_)
      · rw [if_pos h9] at h
        refine g_iconst hC dX7_wouldChange_74 ok_0 ?_
        exact ret_z h hR (by decide) dX7_wouldChange_75
      · rw [if_neg h9] at h
        refine g_aload_n hC dX7_wouldChange_50 2 rfl rfl ?_
        refine g_getr hC dX7_wouldChange_51 lfRX7_12 (isO_spec h0) (ft_7_0 h0) ?_
        refine g_iload_n hC dX7_wouldChange_54 3 rfl rfl ?_
        refine g_iconst hC dX7_wouldChange_55 ok_2 ?_
        obtain ⟨⟨r5, s5⟩, e5, h⟩ := of_bind h
        try dsimp only at h
        refine s_callVi hC dX7_wouldChange_56 (tX2_number (rf_7_0 h0) e5) miX2_number mvX2_number mlRX7_67 (isO_spec (rf_7_0 h0)) vc_2 rfl rfl (Nat.le_of_ble_eq_true rfl) (Nat.le_of_ble_eq_true rfl) (Nat.le_of_ble_eq_true rfl) hcs ?_
        refine g_if_ne hC dX7_wouldChange_59 (tgt := 74) (by decide) (fun h9 => ?_) (fun h9 => ?_)
        · rw [if_neg h9] at h
          refine g_iconst hC dX7_wouldChange_74 ok_0 ?_
          exact ret_z h hR (by decide) dX7_wouldChange_75
        · rw [if_pos h9] at h
          refine g_aload_n hC dX7_wouldChange_62 2 rfl rfl ?_
          refine g_getr hC dX7_wouldChange_63 lfRX7_12 (isO_spec h0) (ft_7_0 h0) ?_
          refine g_iload_n hC dX7_wouldChange_66 4 rfl rfl ?_
          refine g_iconst hC dX7_wouldChange_67 ok_2 ?_
          obtain ⟨⟨r6, s6⟩, e6, h⟩ := of_bind h
          try dsimp only at h
          refine s_callVi hC dX7_wouldChange_68 (tX2_number (rf_7_0 h0) e6) miX2_number mvX2_number mlRX7_67 (isO_spec (rf_7_0 h0)) vc_2 rfl rfl (Nat.le_of_ble_eq_true rfl) (Nat.le_of_ble_eq_true rfl) (Nat.le_of_ble_eq_true rfl) hcs ?_
          refine g_if_eq hC dX7_wouldChange_71 (tgt := 76) (by decide) (fun h9 => ?_) (fun h9 => ?_)
          · rw [if_pos h9] at h
            refine g_aload_n hC dX7_wouldChange_76 2 rfl rfl ?_
            refine g_getr hC dX7_wouldChange_77 lfRX7_18 (isO_spec h0) (ft_7_2 h0) ?_
            refine g_iload_n hC dX7_wouldChange_80 1 rfl rfl ?_
            obtain ⟨b9, h⟩ := of_ite h
            refine g_iald hC dX7_wouldChange_81 (isA_spec (rf_7_2 h0)) b9 ?_
            refine g_iconst hC dX7_wouldChange_82 ok_1 ?_
            refine g_isub hC dX7_wouldChange_83 ?_
            refine g_istore hC dX7_wouldChange_84 (Nat.le_of_ble_eq_true rfl) rfl ?_
            refine g_aload_n hC dX7_wouldChange_86 3 rfl rfl ?_
            refine g_iload_n hC dX7_wouldChange_87 2 rfl rfl ?_
            refine g_aload_n hC dX7_wouldChange_88 3 rfl rfl ?_
            refine g_getr hC dX7_wouldChange_89 lfRX7_12 (isO_spec h0) (ft_7_0 h0) ?_
            refine g_iload_n hC dX7_wouldChange_92 5 rfl rfl ?_
            refine g_iconst hC dX7_wouldChange_93 ok_0 ?_
            obtain ⟨⟨r7, s7⟩, e7, h⟩ := of_bind h
            try dsimp only at h
            refine s_callVi hC dX7_wouldChange_94 (tX2_number (rf_7_0 h0) e7) miX2_number mvX2_number mlRX7_67 (isO_spec (rf_7_0 h0)) vc_2 rfl rfl (Nat.le_of_ble_eq_true rfl) (Nat.le_of_ble_eq_true rfl) (Nat.le_of_ble_eq_true rfl) hcs ?_
            refine g_iload hC dX7_wouldChange_97 0 rfl ?_
            obtain ⟨⟨r8, s8⟩, e8, h⟩ := of_bind h
            try dsimp only at h
            refine s_callVi hC dX7_wouldChange_99 (tX7_misses h0 e8) miX7_misses mvX7_misses mlRX7_96 (isO_spec h0) vc_7 rfl rfl (Nat.le_of_ble_eq_true rfl) (Nat.le_of_ble_eq_true rfl) (Nat.le_of_ble_eq_true rfl) hcs ?_
            refine g_aload_n hC dX7_wouldChange_102 3 rfl rfl ?_
            refine g_iload_n hC dX7_wouldChange_103 2 rfl rfl ?_
            refine g_aload_n hC dX7_wouldChange_104 3 rfl rfl ?_
            refine g_getr hC dX7_wouldChange_105 lfRX7_12 (isO_spec h0) (ft_7_0 h0) ?_
            refine g_iload_n hC dX7_wouldChange_108 4 rfl rfl ?_
            refine g_iconst hC dX7_wouldChange_109 ok_0 ?_
            obtain ⟨⟨r9, s9⟩, e9, h⟩ := of_bind h
            try dsimp only at h
            refine s_callVi hC dX7_wouldChange_110 (tX2_number (rf_7_0 h0) e9) miX2_number mvX2_number mlRX7_67 (isO_spec (rf_7_0 h0)) vc_2 rfl rfl (Nat.le_of_ble_eq_true rfl) (Nat.le_of_ble_eq_true rfl) (Nat.le_of_ble_eq_true rfl) hcs ?_
            refine g_iload hC dX7_wouldChange_113 0 rfl ?_
            obtain ⟨⟨r10, s10⟩, e10, h⟩ := of_bind h
            try dsimp only at h
            refine s_callVi hC dX7_wouldChange_115 (tX7_misses h0 e10) miX7_misses mvX7_misses mlRX7_96 (isO_spec h0) vc_7 rfl rfl (Nat.le_of_ble_eq_true rfl) (Nat.le_of_ble_eq_true rfl) (Nat.le_of_ble_eq_true rfl) hcs ?_
            refine g_icmp_le hC dX7_wouldChange_118 (tgt := 125) (by decide) (fun h9 => ?_) (fun h9 => ?_)
            · rw [if_pos h9] at h
              refine g_iconst hC dX7_wouldChange_125 ok_0 ?_
              exact ret_z h hR (by decide) dX7_wouldChange_126
            · rw [if_neg h9] at h
              refine g_iconst hC dX7_wouldChange_121 ok_1 ?_
              refine g_goto hC dX7_wouldChange_122 (tgt := 126) (by decide) ?_
              exact ret_z h hR (by decide) dX7_wouldChange_126
          · rw [if_neg h9] at h
            refine g_iconst hC dX7_wouldChange_74 ok_0 ?_
            exact ret_z h hR (by decide) dX7_wouldChange_75
theorem tX7_wouldChange {l : Launch} {g : GT} {c0 : Nat} {x1 : Int} {x2 : Int} {σ σ' : St} {r : Int} (h0 : isO 7 c0 = true) (h : fX7_wouldChange c0 x1 x2 σ = some (r, σ')) : Cn l g yX7_wouldChange cX7_wouldChange 6 (some .boolean) 3 0 0 [vr c0, vi x1, vi x2] (SH0, σ) (some (vi r)) (SH0, σ') :=
  Cn.ofZ (by decide) (Nat.le_of_ble_eq_true rfl) (fun K e hC hR => (bX7_wouldChange_0 hC ⟨Nat.le_refl _, Nat.le_refl _⟩ h0 hR _ h))
theorem dX9_hands_0 : decode cX9_hands 0 = .ok (.aload_n 0, 1) := by decide +kernel
theorem dX9_hands_1 : decode cX9_hands 1 = .ok (.getfield 28, 3) := by decide +kernel
theorem dX9_hands_4 : decode cX9_hands 4 = .ok (.aload_n 0, 1) := by decide +kernel
theorem dX9_hands_5 : decode cX9_hands 5 = .ok (.getfield 10, 3) := by decide +kernel
theorem dX9_hands_8 : decode cX9_hands 8 = .ok (.invokevirtual 147, 3) := by decide +kernel
theorem dX9_hands_11 : decode cX9_hands 11 = .ok (.iconst 0, 1) := by decide +kernel
theorem dX9_hands_12 : decode cX9_hands 12 = .ok (.istore_n 1, 1) := by decide +kernel
theorem dX9_hands_13 : decode cX9_hands 13 = .ok (.iconst 0, 1) := by decide +kernel
theorem dX9_hands_14 : decode cX9_hands 14 = .ok (.istore_n 2, 1) := by decide +kernel
theorem dX9_hands_15 : decode cX9_hands 15 = .ok (.iload_n 2, 1) := by decide +kernel
theorem dX9_hands_16 : decode cX9_hands 16 = .ok (.aload_n 0, 1) := by decide +kernel
theorem dX9_hands_17 : decode cX9_hands 17 = .ok (.getfield 10, 3) := by decide +kernel
theorem dX9_hands_20 : decode cX9_hands 20 = .ok (.getfield 222, 3) := by decide +kernel
theorem dX9_hands_23 : decode cX9_hands 23 = .ok (.if_icmp .ge 57, 3) := by decide +kernel
theorem dX9_hands_26 : decode cX9_hands 26 = .ok (.iload_n 2, 1) := by decide +kernel
theorem dX9_hands_27 : decode cX9_hands 27 = .ok (.iconst 1, 1) := by decide +kernel
theorem dX9_hands_28 : decode cX9_hands 28 = .ok (.iadd, 1) := by decide +kernel
theorem dX9_hands_29 : decode cX9_hands 29 = .ok (.istore_n 3, 1) := by decide +kernel
theorem dX9_hands_30 : decode cX9_hands 30 = .ok (.iload_n 3, 1) := by decide +kernel
theorem dX9_hands_31 : decode cX9_hands 31 = .ok (.aload_n 0, 1) := by decide +kernel
theorem dX9_hands_32 : decode cX9_hands 32 = .ok (.getfield 10, 3) := by decide +kernel
theorem dX9_hands_35 : decode cX9_hands 35 = .ok (.getfield 222, 3) := by decide +kernel
theorem dX9_hands_38 : decode cX9_hands 38 = .ok (.if_icmp .ge 36, 3) := by decide +kernel
theorem dX9_hands_41 : decode cX9_hands 41 = .ok (.aload_n 0, 1) := by decide +kernel
theorem dX9_hands_42 : decode cX9_hands 42 = .ok (.getfield 28, 3) := by decide +kernel
theorem dX9_hands_45 : decode cX9_hands 45 = .ok (.iload_n 2, 1) := by decide +kernel
theorem dX9_hands_46 : decode cX9_hands 46 = .ok (.iload_n 3, 1) := by decide +kernel
theorem dX9_hands_47 : decode cX9_hands 47 = .ok (.invokevirtual 225, 3) := by decide +kernel
theorem dX9_hands_50 : decode cX9_hands 50 = .ok (.ifCond .eq 18, 3) := by decide +kernel
theorem dX9_hands_53 : decode cX9_hands 53 = .ok (.aload_n 0, 1) := by decide +kernel
theorem dX9_hands_54 : decode cX9_hands 54 = .ok (.getfield 28, 3) := by decide +kernel
theorem dX9_hands_57 : decode cX9_hands 57 = .ok (.iload_n 3, 1) := by decide +kernel
theorem dX9_hands_58 : decode cX9_hands 58 = .ok (.iload_n 2, 1) := by decide +kernel
theorem dX9_hands_59 : decode cX9_hands 59 = .ok (.invokevirtual 225, 3) := by decide +kernel
theorem dX9_hands_62 : decode cX9_hands 62 = .ok (.ifCond .eq 6, 3) := by decide +kernel
theorem dX9_hands_65 : decode cX9_hands 65 = .ok (.iinc 1 1, 3) := by decide +kernel
theorem dX9_hands_68 : decode cX9_hands 68 = .ok (.iinc 3 1, 3) := by decide +kernel
theorem dX9_hands_71 : decode cX9_hands 71 = .ok (.goto (-41), 3) := by decide +kernel
theorem dX9_hands_74 : decode cX9_hands 74 = .ok (.iinc 2 1, 3) := by decide +kernel
theorem dX9_hands_77 : decode cX9_hands 77 = .ok (.goto (-62), 3) := by decide +kernel
theorem dX9_hands_80 : decode cX9_hands 80 = .ok (.iload_n 1, 1) := by decide +kernel
theorem dX9_hands_81 : decode cX9_hands 81 = .ok (.ireturn, 1) := by decide +kernel
theorem bX9_hands_68 {K : KT} {g : GT} {cm sm : Nat} {cs : Nat × Nat} {c0 : Nat} {k15 : Int → Int → St → Option (Int × St)} {k30 : Int → Int → Int → St → Option (Int × St)} {r : Int} {σ' : St} (hC : Ctx K g RX9 cX9_hands 4 4 cm sm) (hcs : cs.1 ≤ cm ∧ cs.2 ≤ sm) (h0 : isO 9 c0 = true) (hk15 : ∀ (x1 : Int) (x2 : Int) (σ : St), k15 x1 x2 σ = some (r, σ') → G K g 4 cs 15 [(0, vr c0), (1, vi x1), (2, vi x2)] [] (SH0, σ)) (hk30 : ∀ (x1 : Int) (x2 : Int) (x3 : Int) (σ : St), k30 x1 x2 x3 σ = some (r, σ') → G K g 4 cs 30 [(0, vr c0), (1, vi x1), (2, vi x2), (3, vi x3)] [] (SH0, σ)) (hR : RetI K g cX9_hands 4 cs r (SH0, σ')) : ∀ (x1 : Int) (x2 : Int) (x3 : Int) (σ : St), fX9_hands_68 c0 k15 k30 x1 x2 x3 σ = some (r, σ') → G K g 4 cs 68 [(0, vr c0), (1, vi x1), (2, vi x2), (3, vi x3)] [] (SH0, σ) := by
  intro x1 x2 x3 σ h
  unfold fX9_hands_68 at h
  refine g_iinc hC dX9_hands_68 3 rfl (Nat.le_of_ble_eq_true rfl) rfl ?_
  refine g_goto hC dX9_hands_71 (tgt := 30) (by decide) ?_
  exact g_pick [1, 2, 3, 0] rfl (hk30 _ _ _ _ h)
theorem bX9_hands_30 {K : KT} {g : GT} {cm sm : Nat} {cs : Nat × Nat} {c0 : Nat} {k15 : Int → Int → St → Option (Int × St)} {r : Int} {σ' : St} (hC : Ctx K g RX9 cX9_hands 4 4 cm sm) (hcs : cs.1 ≤ cm ∧ cs.2 ≤ sm) (h0 : isO 9 c0 = true) (hk15 : ∀ (x1 : Int) (x2 : Int) (σ : St), k15 x1 x2 σ = some (r, σ') → G K g 4 cs 15 [(0, vr c0), (1, vi x1), (2, vi x2)] [] (SH0, σ)) (hR : RetI K g cX9_hands 4 cs r (SH0, σ')) : ∀ (n : Nat) (x1 : Int) (x2 : Int) (x3 : Int) (σ : St), fX9_hands_30 c0 k15 n x1 x2 x3 σ = some (r, σ') → G K g 4 cs 30 [(0, vr c0), (1, vi x1), (2, vi x2), (3, vi x3)] [] (SH0, σ) := by
  intro n
  induction n with
  | zero =>
    intro x1 x2 x3 σ h
    rw [fX9_hands_30.eq_1] at h
    cases h
  | succ n ih =>
    intro x1 x2 x3 σ h
    rw [fX9_hands_30.eq_2] at h
    refine g_iload_n hC dX9_hands_30 3 rfl rfl ?_
    refine g_aload_n hC dX9_hands_31 0 rfl rfl ?_
    refine g_getr hC dX9_hands_32 lfRX9_10 (isO_spec h0) (ft_9_0 h0) ?_
    refine g_geti hC dX9_hands_35 lfRX9_222 (isO_spec (rf_9_0 h0)) (ft_2_2 (rf_9_0 h0)) ?_
    refine g_icmp_ge hC dX9_hands_38 (tgt := 74) (by decide) (fun h9 => ?_) (fun h9 => ?_)
    · rw [if_pos h9] at h
      refine g_iinc hC dX9_hands_74 2 rfl (Nat.le_of_ble_eq_true rfl) rfl ?_
      refine g_goto hC dX9_hands_77 (tgt := 15) (by decide) ?_
      exact g_pick [1, 2, 0] rfl (hk15 _ _ _ h)
    · rw [if_neg h9] at h
      refine g_aload_n hC dX9_hands_41 0 rfl rfl ?_
      refine g_getr hC dX9_hands_42 lfRX9_28 (isO_spec h0) (ft_9_2 h0) ?_
      refine g_iload_n hC dX9_hands_45 2 rfl rfl ?_
      refine g_iload_n hC dX9_hands_46 3 rfl rfl ?_
      obtain ⟨⟨r1, s1⟩, e1, h⟩ := of_bind h
      try dsimp only at h
      refine s_callVi hC dX9_hands_47 (tX7_wouldChange (rf_9_2 h0) e1) miX7_wouldChange mvX7_wouldChange mlRX9_225 (isO_spec (rf_9_2 h0)) vc_7 rfl rfl (Nat.le_of_ble_eq_true rfl) (Nat.le_of_ble_eq_true rfl) (Nat.le_of_ble_eq_true rfl) hcs ?_
      refine g_if_eq hC dX9_hands_50 (tgt := 68) (by decide) (fun h9 => ?_) (fun h9 => ?_)
      · rw [if_pos h9] at h
        exact g_pick [0, 1, 2, 3] rfl (bX9_hands_68 hC hcs h0 hk15 ih hR _ _ _ _ h)
      · rw [if_neg h9] at h
        refine g_aload_n hC dX9_hands_53 0 rfl rfl ?_
        refine g_getr hC dX9_hands_54 lfRX9_28 (isO_spec h0) (ft_9_2 h0) ?_
        refine g_iload_n hC dX9_hands_57 3 rfl rfl ?_
        refine g_iload_n hC dX9_hands_58 2 rfl rfl ?_
        obtain ⟨⟨r2, s2⟩, e2, h⟩ := of_bind h
        try dsimp only at h
        refine s_callVi hC dX9_hands_59 (tX7_wouldChange (rf_9_2 h0) e2) miX7_wouldChange mvX7_wouldChange mlRX9_225 (isO_spec (rf_9_2 h0)) vc_7 rfl rfl (Nat.le_of_ble_eq_true rfl) (Nat.le_of_ble_eq_true rfl) (Nat.le_of_ble_eq_true rfl) hcs ?_
        refine g_if_eq hC dX9_hands_62 (tgt := 68) (by decide) (fun h9 => ?_) (fun h9 => ?_)
        · rw [if_pos h9] at h
          exact g_pick [0, 1, 2, 3] rfl (bX9_hands_68 hC hcs h0 hk15 ih hR _ _ _ _ h)
        · rw [if_neg h9] at h
          refine g_iinc hC dX9_hands_65 1 rfl (Nat.le_of_ble_eq_true rfl) rfl ?_
          exact g_pick [1, 0, 2, 3] rfl (bX9_hands_68 hC hcs h0 hk15 ih hR _ _ _ _ h)
theorem bX9_hands_15 {K : KT} {g : GT} {cm sm : Nat} {cs : Nat × Nat} {c0 : Nat} {r : Int} {σ' : St} (hC : Ctx K g RX9 cX9_hands 4 4 cm sm) (hcs : cs.1 ≤ cm ∧ cs.2 ≤ sm) (h0 : isO 9 c0 = true) (hR : RetI K g cX9_hands 4 cs r (SH0, σ')) : ∀ (n : Nat) (x1 : Int) (x2 : Int) (σ : St), fX9_hands_15 c0 n x1 x2 σ = some (r, σ') → G K g 4 cs 15 [(0, vr c0), (1, vi x1), (2, vi x2)] [] (SH0, σ) := by
  intro n
  induction n with
  | zero =>
    intro x1 x2 σ h
    rw [fX9_hands_15.eq_1] at h
    cases h
  | succ n ih =>
    intro x1 x2 σ h
    rw [fX9_hands_15.eq_2] at h
    refine g_iload_n hC dX9_hands_15 2 rfl rfl ?_
    refine g_aload_n hC dX9_hands_16 0 rfl rfl ?_
    refine g_getr hC dX9_hands_17 lfRX9_10 (isO_spec h0) (ft_9_0 h0) ?_
    refine g_geti hC dX9_hands_20 lfRX9_222 (isO_spec (rf_9_0 h0)) (ft_2_2 (rf_9_0 h0)) ?_
    refine g_icmp_ge hC dX9_hands_23 (tgt := 80) (by decide) (fun h9 => ?_) (fun h9 => ?_)
    · rw [if_pos h9] at h
      refine g_iload_n hC dX9_hands_80 1 rfl rfl ?_
      exact ret_i h hR dX9_hands_81
    · rw [if_neg h9] at h
      refine g_iload_n hC dX9_hands_26 2 rfl rfl ?_
      refine g_iconst hC dX9_hands_27 ok_1 ?_
      refine g_iadd hC dX9_hands_28 ?_
      refine g_istore_n hC dX9_hands_29 rfl (Nat.le_of_ble_eq_true rfl) rfl ?_
      exact g_pick [1, 2, 3, 0] rfl (bX9_hands_30 hC hcs h0 ih hR _ _ _ _ _ h)
theorem bX9_hands_0 {K : KT} {g : GT} {cm sm : Nat} {cs : Nat × Nat} {c0 : Nat} {r : Int} {σ' : St} (hC : Ctx K g RX9 cX9_hands 4 4 cm sm) (hcs : cs.1 ≤ cm ∧ cs.2 ≤ sm) (h0 : isO 9 c0 = true) (hR : RetI K g cX9_hands 4 cs r (SH0, σ')) : ∀ (σ : St), fX9_hands c0 σ = some (r, σ') → G K g 4 cs 0 [(0, vr c0)] [] (SH0, σ) := by
  intro σ h
  unfold fX9_hands at h
  refine g_aload_n hC dX9_hands_0 0 rfl rfl ?_
  refine g_getr hC dX9_hands_1 lfRX9_28 (isO_spec h0) (ft_9_2 h0) ?_
  refine g_aload_n hC dX9_hands_4 0 rfl rfl ?_
  refine g_getr hC dX9_hands_5 lfRX9_10 (isO_spec h0) (ft_9_0 h0) ?_
  obtain ⟨s1, e1, h⟩ := of_bind h
  try dsimp only at h
  refine s_callVv hC dX9_hands_8 (tX7_begin (rf_9_2 h0) (rf_9_0 h0) e1) miX7_begin mvX7_begin mlRX9_147 (isO_spec (rf_9_2 h0)) vc_7 rfl rfl (Nat.le_of_ble_eq_true rfl) (Nat.le_of_ble_eq_true rfl) (Nat.le_of_ble_eq_true rfl) hcs ?_
  refine g_iconst hC dX9_hands_11 ok_0 ?_
  refine g_istore_n hC dX9_hands_12 rfl (Nat.le_of_ble_eq_true rfl) rfl ?_
  refine g_iconst hC dX9_hands_13 ok_0 ?_
  refine g_istore_n hC dX9_hands_14 rfl (Nat.le_of_ble_eq_true rfl) rfl ?_
  exact g_pick [2, 1, 0] rfl (bX9_hands_15 hC hcs h0 hR _ _ _ _ h)
theorem tX9_hands {l : Launch} {g : GT} {c0 : Nat} {σ σ' : St} {r : Int} (h0 : isO 9 c0 = true) (h : fX9_hands c0 σ = some (r, σ')) : Cn l g yX9_hands cX9_hands 4 (some .int) 4 0 0 [vr c0] (SH0, σ) (some (vi r)) (SH0, σ') :=
  Cn.ofI (by decide) (Nat.le_of_ble_eq_true rfl) (fun K e hC hR => (bX9_hands_0 hC ⟨Nat.le_refl _, Nat.le_refl _⟩ h0 hR _ h))
theorem dX3_takes_0 : decode cX3_takes 0 = .ok (.aload_n 0, 1) := by decide +kernel
theorem dX3_takes_1 : decode cX3_takes 1 = .ok (.getfield 12, 3) := by decide +kernel
theorem dX3_takes_4 : decode cX3_takes 4 = .ok (.aload_n 1, 1) := by decide +kernel
theorem dX3_takes_5 : decode cX3_takes 5 = .ok (.invokevirtual 22, 3) := by decide +kernel
theorem dX3_takes_8 : decode cX3_takes 8 = .ok (.aload_n 2, 1) := by decide +kernel
theorem dX3_takes_9 : decode cX3_takes 9 = .ok (.iconst 0, 1) := by decide +kernel
theorem dX3_takes_10 : decode cX3_takes 10 = .ok (.aload_n 0, 1) := by decide +kernel
theorem dX3_takes_11 : decode cX3_takes 11 = .ok (.getfield 18, 3) := by decide +kernel
theorem dX3_takes_14 : decode cX3_takes 14 = .ok (.iconst 0, 1) := by decide +kernel
theorem dX3_takes_15 : decode cX3_takes 15 = .ok (.iconst 5, 1) := by decide +kernel
theorem dX3_takes_16 : decode cX3_takes 16 = .ok (.invokestatic 26, 3) := by decide +kernel
theorem dX3_takes_19 : decode cX3_takes 19 = .ok (.aload_n 0, 1) := by decide +kernel
theorem dX3_takes_20 : decode cX3_takes 20 = .ok (.iconst 1, 1) := by decide +kernel
theorem dX3_takes_21 : decode cX3_takes 21 = .ok (.putfield 32, 3) := by decide +kernel
theorem dX3_takes_24 : decode cX3_takes 24 = .ok (.return_, 1) := by decide +kernel
theorem bX3_takes_0 {K : KT} {g : GT} {cm sm : Nat} {cs : Nat × Nat} {c0 : Nat} {c1 : Nat} {c2 : Nat} {σ' : St} (hC : Ctx K g RX3 cX3_takes 3 2 cm sm) (hcs : cs.1 ≤ cm ∧ cs.2 ≤ sm) (h0 : isO 3 c0 = true) (h1 : isO 2 c1 = true) (h2 : isA 1 c2 = true) (hR : RetV K g cX3_takes 3 cs (SH0, σ')) : ∀ (σ : St), fX3_takes c0 c1 c2 σ = some σ' → G K g 3 cs 0 [(0, vr c0), (1, vr c1), (2, vr c2)] [] (SH0, σ) := by
  intro σ h
  unfold fX3_takes at h
  refine g_aload_n hC dX3_takes_0 0 rfl rfl ?_
  refine g_getr hC dX3_takes_1 lfRX3_12 (isO_spec h0) (ft_3_0 h0) ?_
  refine g_aload_n hC dX3_takes_4 1 rfl rfl ?_
  obtain ⟨s1, e1, h⟩ := of_bind h
  try dsimp only at h
  refine s_callVv hC dX3_takes_5 (tX2_copies (rf_3_0 h0) h1 e1) miX2_copies mvX2_copies mlRX3_22 (isO_spec (rf_3_0 h0)) vc_2 rfl rfl (Nat.le_of_ble_eq_true rfl) (Nat.le_of_ble_eq_true rfl) (Nat.le_of_ble_eq_true rfl) hcs ?_
  refine g_aload_n hC dX3_takes_8 2 rfl rfl ?_
  refine g_iconst hC dX3_takes_9 ok_0 ?_
  refine g_aload_n hC dX3_takes_10 0 rfl rfl ?_
  refine g_getr hC dX3_takes_11 lfRX3_18 (isO_spec h0) (ft_3_1 h0) ?_
  refine g_iconst hC dX3_takes_14 ok_0 ?_
  refine g_iconst hC dX3_takes_15 ok_5 ?_
  obtain ⟨b9, h⟩ := of_ite h
  refine g_copyi hC dX3_takes_16 lmRX3_26 ac_1 ac_2 ac_3 (Nat.le_of_ble_eq_true rfl) (Nat.le_of_ble_eq_true rfl) (isA_spec h2) (isA_spec (rf_3_1 h0)) b9 ?_
  refine g_aload_n hC dX3_takes_19 0 rfl rfl ?_
  refine g_iconst hC dX3_takes_20 ok_1 ?_
  refine g_putz hC dX3_takes_21 lfRX3_32 fp_3_2 (isO_spec h0) (ft_3_2 h0) (by decide) ?_
  exact ret_v h hR dX3_takes_24
theorem tX3_takes {l : Launch} {g : GT} {c0 : Nat} {c1 : Nat} {c2 : Nat} {σ σ' : St} (h0 : isO 3 c0 = true) (h1 : isO 2 c1 = true) (h2 : isA 1 c2 = true) (h : fX3_takes c0 c1 c2 σ = some σ') : Cn l g yX3_takes cX3_takes 3 none 2 0 0 [vr c0, vr c1, vr c2] (SH0, σ) none (SH0, σ') :=
  Cn.ofV (by decide) (Nat.le_of_ble_eq_true rfl) (fun K e hC hR => (bX3_takes_0 hC ⟨Nat.le_refl _, Nat.le_refl _⟩ h0 h1 h2 hR _ h))
theorem dX9_image_0 : decode cX9_image 0 = .ok (.aload_n 0, 1) := by decide +kernel
theorem dX9_image_1 : decode cX9_image 1 = .ok (.getfield 58, 3) := by decide +kernel
theorem dX9_image_4 : decode cX9_image 4 = .ok (.aload_n 0, 1) := by decide +kernel
theorem dX9_image_5 : decode cX9_image 5 = .ok (.getfield 10, 3) := by decide +kernel
theorem dX9_image_8 : decode cX9_image 8 = .ok (.aload_n 0, 1) := by decide +kernel
theorem dX9_image_9 : decode cX9_image 9 = .ok (.getfield 69, 3) := by decide +kernel
theorem dX9_image_12 : decode cX9_image 12 = .ok (.invokevirtual 271, 3) := by decide +kernel
theorem dX9_image_15 : decode cX9_image 15 = .ok (.aload_n 0, 1) := by decide +kernel
theorem dX9_image_16 : decode cX9_image 16 = .ok (.getfield 69, 3) := by decide +kernel
theorem dX9_image_19 : decode cX9_image 19 = .ok (.iconst 4, 1) := by decide +kernel
theorem dX9_image_20 : decode cX9_image 20 = .ok (.iaload, 1) := by decide +kernel
theorem dX9_image_21 : decode cX9_image 21 = .ok (.ireturn, 1) := by decide +kernel
theorem bX9_image_0 {K : KT} {g : GT} {cm sm : Nat} {cs : Nat × Nat} {c0 : Nat} {r : Int} {σ' : St} (hC : Ctx K g RX9 cX9_image 1 3 cm sm) (hcs : cs.1 ≤ cm ∧ cs.2 ≤ sm) (h0 : isO 9 c0 = true) (hR : RetI K g cX9_image 1 cs r (SH0, σ')) : ∀ (σ : St), fX9_image c0 σ = some (r, σ') → G K g 1 cs 0 [(0, vr c0)] [] (SH0, σ) := by
  intro σ h
  unfold fX9_image at h
  refine g_aload_n hC dX9_image_0 0 rfl rfl ?_
  refine g_getr hC dX9_image_1 lfRX9_58 (isO_spec h0) (ft_9_6 h0) ?_
  refine g_aload_n hC dX9_image_4 0 rfl rfl ?_
  refine g_getr hC dX9_image_5 lfRX9_10 (isO_spec h0) (ft_9_0 h0) ?_
  refine g_aload_n hC dX9_image_8 0 rfl rfl ?_
  refine g_getr hC dX9_image_9 lfRX9_69 (isO_spec h0) (ft_9_9 h0) ?_
  obtain ⟨s1, e1, h⟩ := of_bind h
  try dsimp only at h
  refine s_callVv hC dX9_image_12 (tX3_takes (rf_9_6 h0) (rf_9_0 h0) (rf_9_9 h0) e1) miX3_takes mvX3_takes mlRX9_271 (isO_spec (rf_9_6 h0)) vc_3 rfl rfl (Nat.le_of_ble_eq_true rfl) (Nat.le_of_ble_eq_true rfl) (Nat.le_of_ble_eq_true rfl) hcs ?_
  refine g_aload_n hC dX9_image_15 0 rfl rfl ?_
  refine g_getr hC dX9_image_16 lfRX9_69 (isO_spec h0) (ft_9_9 h0) ?_
  refine g_iconst hC dX9_image_19 ok_4 ?_
  obtain ⟨b9, h⟩ := of_ite h
  refine g_iald hC dX9_image_20 (isA_spec (rf_9_9 h0)) b9 ?_
  exact ret_i h hR dX9_image_21
theorem tX9_image {l : Launch} {g : GT} {c0 : Nat} {σ σ' : St} {r : Int} (h0 : isO 9 c0 = true) (h : fX9_image c0 σ = some (r, σ')) : Cn l g yX9_image cX9_image 1 (some .int) 3 0 0 [vr c0] (SH0, σ) (some (vi r)) (SH0, σ') :=
  Cn.ofI (by decide) (Nat.le_of_ble_eq_true rfl) (fun K e hC hR => (bX9_image_0 hC ⟨Nat.le_refl _, Nat.le_refl _⟩ h0 hR _ h))
theorem dX9_judge_0 : decode cX9_judge 0 = .ok (.iload_n 1, 1) := by decide +kernel
theorem dX9_judge_1 : decode cX9_judge 1 = .ok (.invokestatic 237, 3) := by decide +kernel
theorem dX9_judge_4 : decode cX9_judge 4 = .ok (.ifCond .ne 5, 3) := by decide +kernel
theorem dX9_judge_7 : decode cX9_judge 7 = .ok (.iconst (-1), 1) := by decide +kernel
theorem dX9_judge_8 : decode cX9_judge 8 = .ok (.ireturn, 1) := by decide +kernel
theorem dX9_judge_9 : decode cX9_judge 9 = .ok (.aload_n 0, 1) := by decide +kernel
theorem dX9_judge_10 : decode cX9_judge 10 = .ok (.iload_n 1, 1) := by decide +kernel
theorem dX9_judge_11 : decode cX9_judge 11 = .ok (.invokevirtual 240, 3) := by decide +kernel
theorem dX9_judge_14 : decode cX9_judge 14 = .ok (.istore_n 2, 1) := by decide +kernel
theorem dX9_judge_15 : decode cX9_judge 15 = .ok (.iload_n 2, 1) := by decide +kernel
theorem dX9_judge_16 : decode cX9_judge 16 = .ok (.ifCond .eq 5, 3) := by decide +kernel
theorem dX9_judge_19 : decode cX9_judge 19 = .ok (.iload_n 2, 1) := by decide +kernel
theorem dX9_judge_20 : decode cX9_judge 20 = .ok (.ireturn, 1) := by decide +kernel
theorem dX9_judge_21 : decode cX9_judge 21 = .ok (.aload_n 0, 1) := by decide +kernel
theorem dX9_judge_22 : decode cX9_judge 22 = .ok (.getfield 28, 3) := by decide +kernel
theorem dX9_judge_25 : decode cX9_judge 25 = .ok (.aload_n 0, 1) := by decide +kernel
theorem dX9_judge_26 : decode cX9_judge 26 = .ok (.getfield 10, 3) := by decide +kernel
theorem dX9_judge_29 : decode cX9_judge 29 = .ok (.invokevirtual 147, 3) := by decide +kernel
theorem dX9_judge_32 : decode cX9_judge 32 = .ok (.aload_n 0, 1) := by decide +kernel
theorem dX9_judge_33 : decode cX9_judge 33 = .ok (.getfield 28, 3) := by decide +kernel
theorem dX9_judge_36 : decode cX9_judge 36 = .ok (.aload_n 0, 1) := by decide +kernel
theorem dX9_judge_37 : decode cX9_judge 37 = .ok (.getfield 75, 3) := by decide +kernel
theorem dX9_judge_40 : decode cX9_judge 40 = .ok (.iload_n 1, 1) := by decide +kernel
theorem dX9_judge_41 : decode cX9_judge 41 = .ok (.bipush 10, 2) := by decide +kernel
theorem dX9_judge_43 : decode cX9_judge 43 = .ok (.idiv, 1) := by decide +kernel
theorem dX9_judge_44 : decode cX9_judge 44 = .ok (.aaload, 1) := by decide +kernel
theorem dX9_judge_45 : decode cX9_judge 45 = .ok (.aload_n 0, 1) := by decide +kernel
theorem dX9_judge_46 : decode cX9_judge 46 = .ok (.getfield 75, 3) := by decide +kernel
theorem dX9_judge_49 : decode cX9_judge 49 = .ok (.iload_n 1, 1) := by decide +kernel
theorem dX9_judge_50 : decode cX9_judge 50 = .ok (.bipush 10, 2) := by decide +kernel
theorem dX9_judge_52 : decode cX9_judge 52 = .ok (.irem, 1) := by decide +kernel
theorem dX9_judge_53 : decode cX9_judge 53 = .ok (.aaload, 1) := by decide +kernel
theorem dX9_judge_54 : decode cX9_judge 54 = .ok (.invokevirtual 243, 3) := by decide +kernel
theorem dX9_judge_57 : decode cX9_judge 57 = .ok (.ireturn, 1) := by decide +kernel
theorem bX9_judge_0 {K : KT} {g : GT} {cm sm : Nat} {cs : Nat × Nat} {c0 : Nat} {x1 : Int} {r : Int} {σ' : St} (hC : Ctx K g RX9 cX9_judge 3 6 cm sm) (hcs : cs.1 ≤ cm ∧ cs.2 ≤ sm) (h0 : isO 9 c0 = true) (hR : RetI K g cX9_judge 3 cs r (SH0, σ')) : ∀ (σ : St), fX9_judge c0 x1 σ = some (r, σ') → G K g 3 cs 0 [(0, vr c0), (1, vi x1)] [] (SH0, σ) := by
  intro σ h
  unfold fX9_judge at h
  refine g_iload_n hC dX9_judge_0 1 rfl rfl ?_
  obtain ⟨⟨r1, s1⟩, e1, h⟩ := of_bind h
  try dsimp only at h
  refine s_callSi hC dX9_judge_1 (tX9_areShelves e1) miX9_areShelves msX9_areShelves mlRX9_237 rfl rfl (Nat.le_of_ble_eq_true rfl) (Nat.le_of_ble_eq_true rfl) (Nat.le_of_ble_eq_true rfl) hcs ?_
  refine g_if_ne hC dX9_judge_4 (tgt := 9) (by decide) (fun h9 => ?_) (fun h9 => ?_)
  · rw [if_neg h9] at h
    refine g_aload_n hC dX9_judge_9 0 rfl rfl ?_
    refine g_iload_n hC dX9_judge_10 1 rfl rfl ?_
    obtain ⟨⟨r2, s2⟩, e2, h⟩ := of_bind h
    try dsimp only at h
    refine s_callVi hC dX9_judge_11 (tX9_refusesBoth h0 e2) miX9_refusesBoth mvX9_refusesBoth mlRX9_240 (isO_spec h0) vc_9 rfl rfl (Nat.le_of_ble_eq_true rfl) (Nat.le_of_ble_eq_true rfl) (Nat.le_of_ble_eq_true rfl) hcs ?_
    refine g_istore_n hC dX9_judge_14 rfl (Nat.le_of_ble_eq_true rfl) rfl ?_
    refine g_iload_n hC dX9_judge_15 0 rfl rfl ?_
    refine g_if_eq hC dX9_judge_16 (tgt := 21) (by decide) (fun h9 => ?_) (fun h9 => ?_)
    · rw [if_pos h9] at h
      refine g_aload_n hC dX9_judge_21 1 rfl rfl ?_
      refine g_getr hC dX9_judge_22 lfRX9_28 (isO_spec h0) (ft_9_2 h0) ?_
      refine g_aload_n hC dX9_judge_25 1 rfl rfl ?_
      refine g_getr hC dX9_judge_26 lfRX9_10 (isO_spec h0) (ft_9_0 h0) ?_
      obtain ⟨s3, e3, h⟩ := of_bind h
      try dsimp only at h
      refine s_callVv hC dX9_judge_29 (tX7_begin (rf_9_2 h0) (rf_9_0 h0) e3) miX7_begin mvX7_begin mlRX9_147 (isO_spec (rf_9_2 h0)) vc_7 rfl rfl (Nat.le_of_ble_eq_true rfl) (Nat.le_of_ble_eq_true rfl) (Nat.le_of_ble_eq_true rfl) hcs ?_
      refine g_aload_n hC dX9_judge_32 1 rfl rfl ?_
      refine g_getr hC dX9_judge_33 lfRX9_28 (isO_spec h0) (ft_9_2 h0) ?_
      refine g_aload_n hC dX9_judge_36 1 rfl rfl ?_
      refine g_getr hC dX9_judge_37 lfRX9_75 (isO_spec h0) (ft_9_8 h0) ?_
      refine g_iload_n hC dX9_judge_40 2 rfl rfl ?_
      refine g_bipush hC dX9_judge_41 bp_10 ?_
      refine g_idiv hC dX9_judge_43 (by decide) ?_
      obtain ⟨b9, h⟩ := of_ite h
      refine g_aald hC dX9_judge_44 (isA_spec (rf_9_8 h0)) b9 (sh_at (rf_9_8 h0) b9).1 ?_
      have b24 := (sh_at (rf_9_8 h0) b9).2
      refine g_aload_n hC dX9_judge_45 1 rfl rfl ?_
      refine g_getr hC dX9_judge_46 lfRX9_75 (isO_spec h0) (ft_9_8 h0) ?_
      refine g_iload_n hC dX9_judge_49 2 rfl rfl ?_
      refine g_bipush hC dX9_judge_50 bp_10 ?_
      refine g_irem hC dX9_judge_52 (by decide) ?_
      obtain ⟨b9, h⟩ := of_ite h
      refine g_aald hC dX9_judge_53 (isA_spec (rf_9_8 h0)) b9 (sh_at (rf_9_8 h0) b9).1 ?_
      have b25 := (sh_at (rf_9_8 h0) b9).2
      obtain ⟨⟨r6, s6⟩, e6, h⟩ := of_bind h
      try dsimp only at h
      refine s_callVi hC dX9_judge_54 (tX7_firstWrong (rf_9_2 h0) b24 b25 e6) miX7_firstWrong mvX7_firstWrong mlRX9_243 (isO_spec (rf_9_2 h0)) vc_7 rfl rfl (Nat.le_of_ble_eq_true rfl) (Nat.le_of_ble_eq_true rfl) (Nat.le_of_ble_eq_true rfl) hcs ?_
      exact ret_i h hR dX9_judge_57
    · rw [if_neg h9] at h
      refine g_iload_n hC dX9_judge_19 0 rfl rfl ?_
      exact ret_i h hR dX9_judge_20
  · rw [if_pos h9] at h
    refine g_iconst hC dX9_judge_7 ok_m1 ?_
    exact ret_i h hR dX9_judge_8
theorem tX9_judge {l : Launch} {g : GT} {c0 : Nat} {x1 : Int} {σ σ' : St} {r : Int} (h0 : isO 9 c0 = true) (h : fX9_judge c0 x1 σ = some (r, σ')) : Cn l g yX9_judge cX9_judge 3 (some .int) 6 0 0 [vr c0, vi x1] (SH0, σ) (some (vi r)) (SH0, σ') :=
  Cn.ofI (by decide) (Nat.le_of_ble_eq_true rfl) (fun K e hC hR => (bX9_judge_0 hC ⟨Nat.le_refl _, Nat.le_refl _⟩ h0 hR _ h))
theorem dX6_holdLot_0 : decode cX6_holdLot 0 = .ok (.aload_n 0, 1) := by decide +kernel
theorem dX6_holdLot_1 : decode cX6_holdLot 1 = .ok (.iconst 1, 1) := by decide +kernel
theorem dX6_holdLot_2 : decode cX6_holdLot 2 = .ok (.putfield 15, 3) := by decide +kernel
theorem dX6_holdLot_5 : decode cX6_holdLot 5 = .ok (.aload_n 0, 1) := by decide +kernel
theorem dX6_holdLot_6 : decode cX6_holdLot 6 = .ok (.iload_n 1, 1) := by decide +kernel
theorem dX6_holdLot_7 : decode cX6_holdLot 7 = .ok (.putfield 22, 3) := by decide +kernel
theorem dX6_holdLot_10 : decode cX6_holdLot 10 = .ok (.aload_n 0, 1) := by decide +kernel
theorem dX6_holdLot_11 : decode cX6_holdLot 11 = .ok (.iconst 0, 1) := by decide +kernel
theorem dX6_holdLot_12 : decode cX6_holdLot 12 = .ok (.putfield 19, 3) := by decide +kernel
theorem dX6_holdLot_15 : decode cX6_holdLot 15 = .ok (.return_, 1) := by decide +kernel
theorem bX6_holdLot_0 {K : KT} {g : GT} {cm sm : Nat} {cs : Nat × Nat} {c0 : Nat} {x1 : Int} {σ' : St} (hC : Ctx K g RX6 cX6_holdLot 2 0 cm sm) (hcs : cs.1 ≤ cm ∧ cs.2 ≤ sm) (h0 : isO 6 c0 = true) (hR : RetV K g cX6_holdLot 2 cs (SH0, σ')) : ∀ (σ : St), fX6_holdLot c0 x1 σ = some σ' → G K g 2 cs 0 [(0, vr c0), (1, vi x1)] [] (SH0, σ) := by
  intro σ h
  unfold fX6_holdLot at h
  refine g_aload_n hC dX6_holdLot_0 0 rfl rfl ?_
  refine g_iconst hC dX6_holdLot_1 ok_1 ?_
  refine g_puti hC dX6_holdLot_2 lfRX6_15 fp_6_1 (isO_spec h0) (ft_6_1 h0) ?_
  refine g_aload_n hC dX6_holdLot_5 0 rfl rfl ?_
  refine g_iload_n hC dX6_holdLot_6 1 rfl rfl ?_
  refine g_puti hC dX6_holdLot_7 lfRX6_22 fp_6_2 (isO_spec h0) (ft_6_2 h0) ?_
  refine g_aload_n hC dX6_holdLot_10 0 rfl rfl ?_
  refine g_iconst hC dX6_holdLot_11 ok_0 ?_
  refine g_puti hC dX6_holdLot_12 lfRX6_19 fp_6_4 (isO_spec h0) (ft_6_4 h0) ?_
  exact ret_v h hR dX6_holdLot_15
theorem tX6_holdLot {l : Launch} {g : GT} {c0 : Nat} {x1 : Int} {σ σ' : St} (h0 : isO 6 c0 = true) (h : fX6_holdLot c0 x1 σ = some σ') : Cn l g yX6_holdLot cX6_holdLot 2 none 0 0 0 [vr c0, vi x1] (SH0, σ) none (SH0, σ') :=
  Cn.ofV (by decide) (Nat.le_of_ble_eq_true rfl) (fun K e hC hR => (bX6_holdLot_0 hC ⟨Nat.le_refl _, Nat.le_refl _⟩ h0 hR _ h))
theorem dX6_holdNothing_0 : decode cX6_holdNothing 0 = .ok (.aload_n 0, 1) := by decide +kernel
theorem dX6_holdNothing_1 : decode cX6_holdNothing 1 = .ok (.iconst 0, 1) := by decide +kernel
theorem dX6_holdNothing_2 : decode cX6_holdNothing 2 = .ok (.putfield 15, 3) := by decide +kernel
theorem dX6_holdNothing_5 : decode cX6_holdNothing 5 = .ok (.aload_n 0, 1) := by decide +kernel
theorem dX6_holdNothing_6 : decode cX6_holdNothing 6 = .ok (.iconst 0, 1) := by decide +kernel
theorem dX6_holdNothing_7 : decode cX6_holdNothing 7 = .ok (.putfield 19, 3) := by decide +kernel
theorem dX6_holdNothing_10 : decode cX6_holdNothing 10 = .ok (.return_, 1) := by decide +kernel
theorem bX6_holdNothing_0 {K : KT} {g : GT} {cm sm : Nat} {cs : Nat × Nat} {c0 : Nat} {σ' : St} (hC : Ctx K g RX6 cX6_holdNothing 1 0 cm sm) (hcs : cs.1 ≤ cm ∧ cs.2 ≤ sm) (h0 : isO 6 c0 = true) (hR : RetV K g cX6_holdNothing 1 cs (SH0, σ')) : ∀ (σ : St), fX6_holdNothing c0 σ = some σ' → G K g 1 cs 0 [(0, vr c0)] [] (SH0, σ) := by
  intro σ h
  unfold fX6_holdNothing at h
  refine g_aload_n hC dX6_holdNothing_0 0 rfl rfl ?_
  refine g_iconst hC dX6_holdNothing_1 ok_0 ?_
  refine g_puti hC dX6_holdNothing_2 lfRX6_15 fp_6_1 (isO_spec h0) (ft_6_1 h0) ?_
  refine g_aload_n hC dX6_holdNothing_5 0 rfl rfl ?_
  refine g_iconst hC dX6_holdNothing_6 ok_0 ?_
  refine g_puti hC dX6_holdNothing_7 lfRX6_19 fp_6_4 (isO_spec h0) (ft_6_4 h0) ?_
  exact ret_v h hR dX6_holdNothing_10
theorem tX6_holdNothing {l : Launch} {g : GT} {c0 : Nat} {σ σ' : St} (h0 : isO 6 c0 = true) (h : fX6_holdNothing c0 σ = some σ') : Cn l g yX6_holdNothing cX6_holdNothing 1 none 0 0 0 [vr c0] (SH0, σ) none (SH0, σ') :=
  Cn.ofV (by decide) (Nat.le_of_ble_eq_true rfl) (fun K e hC hR => (bX6_holdNothing_0 hC ⟨Nat.le_refl _, Nat.le_refl _⟩ h0 hR _ h))
theorem dX9_keep_0 : decode cX9_keep 0 = .ok (.iload_n 1, 1) := by decide +kernel
theorem dX9_keep_1 : decode cX9_keep 1 = .ok (.invokestatic 92, 3) := by decide +kernel
theorem dX9_keep_4 : decode cX9_keep 4 = .ok (.ifCond .eq 19, 3) := by decide +kernel
theorem dX9_keep_7 : decode cX9_keep 7 = .ok (.iload_n 2, 1) := by decide +kernel
theorem dX9_keep_8 : decode cX9_keep 8 = .ok (.iconst (-1), 1) := by decide +kernel
theorem dX9_keep_9 : decode cX9_keep 9 = .ok (.if_icmp .eq 16, 3) := by decide +kernel
theorem dX9_keep_12 : decode cX9_keep 12 = .ok (.aload_n 0, 1) := by decide +kernel
theorem dX9_keep_13 : decode cX9_keep 13 = .ok (.getfield 65, 3) := by decide +kernel
theorem dX9_keep_16 : decode cX9_keep 16 = .ok (.iload_n 2, 1) := by decide +kernel
theorem dX9_keep_17 : decode cX9_keep 17 = .ok (.invokevirtual 307, 3) := by decide +kernel
theorem dX9_keep_20 : decode cX9_keep 20 = .ok (.ifCond .ne 5, 3) := by decide +kernel
theorem dX9_keep_23 : decode cX9_keep 23 = .ok (.iconst (-1), 1) := by decide +kernel
theorem dX9_keep_24 : decode cX9_keep 24 = .ok (.ireturn, 1) := by decide +kernel
theorem dX9_keep_25 : decode cX9_keep 25 = .ok (.iload_n 2, 1) := by decide +kernel
theorem dX9_keep_26 : decode cX9_keep 26 = .ok (.ifCond .ge 15, 3) := by decide +kernel
theorem dX9_keep_29 : decode cX9_keep 29 = .ok (.aload_n 0, 1) := by decide +kernel
theorem dX9_keep_30 : decode cX9_keep 30 = .ok (.getfield 75, 3) := by decide +kernel
theorem dX9_keep_33 : decode cX9_keep 33 = .ok (.iload_n 1, 1) := by decide +kernel
theorem dX9_keep_34 : decode cX9_keep 34 = .ok (.aaload, 1) := by decide +kernel
theorem dX9_keep_35 : decode cX9_keep 35 = .ok (.invokevirtual 309, 3) := by decide +kernel
theorem dX9_keep_38 : decode cX9_keep 38 = .ok (.goto 13, 3) := by decide +kernel
theorem dX9_keep_41 : decode cX9_keep 41 = .ok (.aload_n 0, 1) := by decide +kernel
theorem dX9_keep_42 : decode cX9_keep 42 = .ok (.getfield 75, 3) := by decide +kernel
theorem dX9_keep_45 : decode cX9_keep 45 = .ok (.iload_n 1, 1) := by decide +kernel
theorem dX9_keep_46 : decode cX9_keep 46 = .ok (.aaload, 1) := by decide +kernel
theorem dX9_keep_47 : decode cX9_keep 47 = .ok (.iload_n 2, 1) := by decide +kernel
theorem dX9_keep_48 : decode cX9_keep 48 = .ok (.invokevirtual 312, 3) := by decide +kernel
theorem dX9_keep_51 : decode cX9_keep 51 = .ok (.iconst 1, 1) := by decide +kernel
theorem dX9_keep_52 : decode cX9_keep 52 = .ok (.ireturn, 1) := by decide +kernel
theorem bX9_keep_25 {K : KT} {g : GT} {cm sm : Nat} {cs : Nat × Nat} {c0 : Nat} {x1 : Int} {x2 : Int} {r : Int} {σ' : St} (hC : Ctx K g RX9 cX9_keep 3 1 cm sm) (hcs : cs.1 ≤ cm ∧ cs.2 ≤ sm) (h0 : isO 9 c0 = true) (hR : RetI K g cX9_keep 3 cs r (SH0, σ')) : ∀ (σ : St), fX9_keep_25 c0 x1 x2 σ = some (r, σ') → G K g 3 cs 25 [(0, vr c0), (1, vi x1), (2, vi x2)] [] (SH0, σ) := by
  intro σ h
  unfold fX9_keep_25 at h
  refine g_iload_n hC dX9_keep_25 2 rfl rfl ?_
  refine g_if_ge hC dX9_keep_26 (tgt := 41) (by decide) (fun h9 => ?_) (fun h9 => ?_)
  · rw [if_pos h9] at h
    refine g_aload_n hC dX9_keep_41 0 rfl rfl ?_
    refine g_getr hC dX9_keep_42 lfRX9_75 (isO_spec h0) (ft_9_8 h0) ?_
    refine g_iload_n hC dX9_keep_45 1 rfl rfl ?_
    obtain ⟨b9, h⟩ := of_ite h
    refine g_aald hC dX9_keep_46 (isA_spec (rf_9_8 h0)) b9 (sh_at (rf_9_8 h0) b9).1 ?_
    have b21 := (sh_at (rf_9_8 h0) b9).2
    refine g_iload_n hC dX9_keep_47 2 rfl rfl ?_
    obtain ⟨s2, e2, h⟩ := of_bind h
    try dsimp only at h
    refine s_callVv hC dX9_keep_48 (tX6_holdLot b21 e2) miX6_holdLot mvX6_holdLot mlRX9_312 (isO_spec b21) vc_6 rfl rfl (Nat.le_of_ble_eq_true rfl) (Nat.le_of_ble_eq_true rfl) (Nat.le_of_ble_eq_true rfl) hcs ?_
    refine g_iconst hC dX9_keep_51 ok_1 ?_
    exact ret_i h hR dX9_keep_52
  · rw [if_neg h9] at h
    refine g_aload_n hC dX9_keep_29 0 rfl rfl ?_
    refine g_getr hC dX9_keep_30 lfRX9_75 (isO_spec h0) (ft_9_8 h0) ?_
    refine g_iload_n hC dX9_keep_33 1 rfl rfl ?_
    obtain ⟨b9, h⟩ := of_ite h
    refine g_aald hC dX9_keep_34 (isA_spec (rf_9_8 h0)) b9 (sh_at (rf_9_8 h0) b9).1 ?_
    have b23 := (sh_at (rf_9_8 h0) b9).2
    obtain ⟨s4, e4, h⟩ := of_bind h
    try dsimp only at h
    refine s_callVv hC dX9_keep_35 (tX6_holdNothing b23 e4) miX6_holdNothing mvX6_holdNothing mlRX9_309 (isO_spec b23) vc_6 rfl rfl (Nat.le_of_ble_eq_true rfl) (Nat.le_of_ble_eq_true rfl) (Nat.le_of_ble_eq_true rfl) hcs ?_
    refine g_goto hC dX9_keep_38 (tgt := 51) (by decide) ?_
    refine g_iconst hC dX9_keep_51 ok_1 ?_
    exact ret_i h hR dX9_keep_52
theorem bX9_keep_0 {K : KT} {g : GT} {cm sm : Nat} {cs : Nat × Nat} {c0 : Nat} {x1 : Int} {x2 : Int} {r : Int} {σ' : St} (hC : Ctx K g RX9 cX9_keep 3 1 cm sm) (hcs : cs.1 ≤ cm ∧ cs.2 ≤ sm) (h0 : isO 9 c0 = true) (hR : RetI K g cX9_keep 3 cs r (SH0, σ')) : ∀ (σ : St), fX9_keep c0 x1 x2 σ = some (r, σ') → G K g 3 cs 0 [(0, vr c0), (1, vi x1), (2, vi x2)] [] (SH0, σ) := by
  intro σ h
  unfold fX9_keep at h
  refine g_iload_n hC dX9_keep_0 1 rfl rfl ?_
  obtain ⟨⟨r1, s1⟩, e1, h⟩ := of_bind h
  try dsimp only at h
  refine s_callSi hC dX9_keep_1 (tX9_isShelf e1) miX9_isShelf msX9_isShelf mlRX9_92 rfl rfl (Nat.le_of_ble_eq_true rfl) (Nat.le_of_ble_eq_true rfl) (Nat.le_of_ble_eq_true rfl) hcs ?_
  refine g_if_eq hC dX9_keep_4 (tgt := 23) (by decide) (fun h9 => ?_) (fun h9 => ?_)
  · rw [if_pos h9] at h
    refine g_iconst hC dX9_keep_23 ok_m1 ?_
    exact ret_i h hR dX9_keep_24
  · rw [if_neg h9] at h
    refine g_iload_n hC dX9_keep_7 2 rfl rfl ?_
    refine g_iconst hC dX9_keep_8 ok_m1 ?_
    refine g_icmp_eq hC dX9_keep_9 (tgt := 25) (by decide) (fun h9 => ?_) (fun h9 => ?_)
    · rw [if_pos h9] at h
      exact g_pick [0, 1, 2] rfl (bX9_keep_25 hC hcs h0 hR _ h)
    · rw [if_neg h9] at h
      refine g_aload_n hC dX9_keep_12 0 rfl rfl ?_
      refine g_getr hC dX9_keep_13 lfRX9_65 (isO_spec h0) (ft_9_7 h0) ?_
      refine g_iload_n hC dX9_keep_16 2 rfl rfl ?_
      obtain ⟨⟨r2, s2⟩, e2, h⟩ := of_bind h
      try dsimp only at h
      refine s_callVi hC dX9_keep_17 (tX5_has (rf_9_7 h0) e2) miX5_has mvX5_has mlRX9_307 (isO_spec (rf_9_7 h0)) vc_5 rfl rfl (Nat.le_of_ble_eq_true rfl) (Nat.le_of_ble_eq_true rfl) (Nat.le_of_ble_eq_true rfl) hcs ?_
      refine g_if_ne hC dX9_keep_20 (tgt := 25) (by decide) (fun h9 => ?_) (fun h9 => ?_)
      · rw [if_neg h9] at h
        exact g_pick [0, 1, 2] rfl (bX9_keep_25 hC hcs h0 hR _ h)
      · rw [if_pos h9] at h
        refine g_iconst hC dX9_keep_23 ok_m1 ?_
        exact ret_i h hR dX9_keep_24
theorem tX9_keep {l : Launch} {g : GT} {c0 : Nat} {x1 : Int} {x2 : Int} {σ σ' : St} {r : Int} (h0 : isO 9 c0 = true) (h : fX9_keep c0 x1 x2 σ = some (r, σ')) : Cn l g yX9_keep cX9_keep 3 (some .int) 1 0 0 [vr c0, vi x1, vi x2] (SH0, σ) (some (vi r)) (SH0, σ') :=
  Cn.ofI (by decide) (Nat.le_of_ble_eq_true rfl) (fun K e hC hR => (bX9_keep_0 hC ⟨Nat.le_refl _, Nat.le_refl _⟩ h0 hR _ h))
theorem dX2_missedBits_0 : decode cX2_missedBits 0 = .ok (.iconst 0, 1) := by decide +kernel
theorem dX2_missedBits_1 : decode cX2_missedBits 1 = .ok (.istore_n 1, 1) := by decide +kernel
theorem dX2_missedBits_2 : decode cX2_missedBits 2 = .ok (.iconst 0, 1) := by decide +kernel
theorem dX2_missedBits_3 : decode cX2_missedBits 3 = .ok (.istore_n 2, 1) := by decide +kernel
theorem dX2_missedBits_4 : decode cX2_missedBits 4 = .ok (.iload_n 2, 1) := by decide +kernel
theorem dX2_missedBits_5 : decode cX2_missedBits 5 = .ok (.aload_n 0, 1) := by decide +kernel
theorem dX2_missedBits_6 : decode cX2_missedBits 6 = .ok (.getfield 18, 3) := by decide +kernel
theorem dX2_missedBits_9 : decode cX2_missedBits 9 = .ok (.if_icmp .ge 24, 3) := by decide +kernel
theorem dX2_missedBits_12 : decode cX2_missedBits 12 = .ok (.aload_n 0, 1) := by decide +kernel
theorem dX2_missedBits_13 : decode cX2_missedBits 13 = .ok (.iload_n 2, 1) := by decide +kernel
theorem dX2_missedBits_14 : decode cX2_missedBits 14 = .ok (.iconst 3, 1) := by decide +kernel
theorem dX2_missedBits_15 : decode cX2_missedBits 15 = .ok (.invokevirtual 42, 3) := by decide +kernel
theorem dX2_missedBits_18 : decode cX2_missedBits 18 = .ok (.ifCond .le 9, 3) := by decide +kernel
theorem dX2_missedBits_21 : decode cX2_missedBits 21 = .ok (.iload_n 1, 1) := by decide +kernel
theorem dX2_missedBits_22 : decode cX2_missedBits 22 = .ok (.iconst 1, 1) := by decide +kernel
theorem dX2_missedBits_23 : decode cX2_missedBits 23 = .ok (.iload_n 2, 1) := by decide +kernel
theorem dX2_missedBits_24 : decode cX2_missedBits 24 = .ok (.ishl, 1) := by decide +kernel
theorem dX2_missedBits_25 : decode cX2_missedBits 25 = .ok (.ior, 1) := by decide +kernel
theorem dX2_missedBits_26 : decode cX2_missedBits 26 = .ok (.istore_n 1, 1) := by decide +kernel
theorem dX2_missedBits_27 : decode cX2_missedBits 27 = .ok (.iinc 2 1, 3) := by decide +kernel
theorem dX2_missedBits_30 : decode cX2_missedBits 30 = .ok (.goto (-26), 3) := by decide +kernel
theorem dX2_missedBits_33 : decode cX2_missedBits 33 = .ok (.iload_n 1, 1) := by decide +kernel
theorem dX2_missedBits_34 : decode cX2_missedBits 34 = .ok (.ireturn, 1) := by decide +kernel
theorem bX2_missedBits_27 {K : KT} {g : GT} {cm sm : Nat} {cs : Nat × Nat} {c0 : Nat} {k4 : Int → Int → St → Option (Int × St)} {r : Int} {σ' : St} (hC : Ctx K g RX2 cX2_missedBits 3 1 cm sm) (hcs : cs.1 ≤ cm ∧ cs.2 ≤ sm) (h0 : isO 2 c0 = true) (hk4 : ∀ (x1 : Int) (x2 : Int) (σ : St), k4 x1 x2 σ = some (r, σ') → G K g 3 cs 4 [(0, vr c0), (1, vi x1), (2, vi x2)] [] (SH0, σ)) (hR : RetI K g cX2_missedBits 3 cs r (SH0, σ')) : ∀ (x1 : Int) (x2 : Int) (σ : St), fX2_missedBits_27 c0 k4 x1 x2 σ = some (r, σ') → G K g 3 cs 27 [(0, vr c0), (1, vi x1), (2, vi x2)] [] (SH0, σ) := by
  intro x1 x2 σ h
  unfold fX2_missedBits_27 at h
  refine g_iinc hC dX2_missedBits_27 2 rfl (Nat.le_of_ble_eq_true rfl) rfl ?_
  refine g_goto hC dX2_missedBits_30 (tgt := 4) (by decide) ?_
  exact g_pick [1, 2, 0] rfl (hk4 _ _ _ h)
theorem bX2_missedBits_4 {K : KT} {g : GT} {cm sm : Nat} {cs : Nat × Nat} {c0 : Nat} {r : Int} {σ' : St} (hC : Ctx K g RX2 cX2_missedBits 3 1 cm sm) (hcs : cs.1 ≤ cm ∧ cs.2 ≤ sm) (h0 : isO 2 c0 = true) (hR : RetI K g cX2_missedBits 3 cs r (SH0, σ')) : ∀ (n : Nat) (x1 : Int) (x2 : Int) (σ : St), fX2_missedBits_4 c0 n x1 x2 σ = some (r, σ') → G K g 3 cs 4 [(0, vr c0), (1, vi x1), (2, vi x2)] [] (SH0, σ) := by
  intro n
  induction n with
  | zero =>
    intro x1 x2 σ h
    rw [fX2_missedBits_4.eq_1] at h
    cases h
  | succ n ih =>
    intro x1 x2 σ h
    rw [fX2_missedBits_4.eq_2] at h
    refine g_iload_n hC dX2_missedBits_4 2 rfl rfl ?_
    refine g_aload_n hC dX2_missedBits_5 0 rfl rfl ?_
    refine g_geti hC dX2_missedBits_6 lfRX2_18 (isO_spec h0) (ft_2_2 h0) ?_
    refine g_icmp_ge hC dX2_missedBits_9 (tgt := 33) (by decide) (fun h9 => ?_) (fun h9 => ?_)
    · rw [if_pos h9] at h
      refine g_iload_n hC dX2_missedBits_33 1 rfl rfl ?_
      exact ret_i h hR dX2_missedBits_34
    · rw [if_neg h9] at h
      refine g_aload_n hC dX2_missedBits_12 0 rfl rfl ?_
      refine g_iload_n hC dX2_missedBits_13 2 rfl rfl ?_
      refine g_iconst hC dX2_missedBits_14 ok_3 ?_
      obtain ⟨⟨r1, s1⟩, e1, h⟩ := of_bind h
      try dsimp only at h
      refine s_callVi hC dX2_missedBits_15 (tX2_number h0 e1) miX2_number mvX2_number mlRX2_42 (isO_spec h0) vc_2 rfl rfl (Nat.le_of_ble_eq_true rfl) (Nat.le_of_ble_eq_true rfl) (Nat.le_of_ble_eq_true rfl) hcs ?_
      refine g_if_le hC dX2_missedBits_18 (tgt := 27) (by decide) (fun h9 => ?_) (fun h9 => ?_)
      · rw [if_pos h9] at h
        exact g_pick [0, 1, 2] rfl (bX2_missedBits_27 hC hcs h0 ih hR _ _ _ h)
      · rw [if_neg h9] at h
        refine g_iload_n hC dX2_missedBits_21 1 rfl rfl ?_
        refine g_iconst hC dX2_missedBits_22 ok_1 ?_
        refine g_iload_n hC dX2_missedBits_23 2 rfl rfl ?_
        refine g_ishl hC dX2_missedBits_24 ?_
        refine g_ior hC dX2_missedBits_25 ?_
        refine g_istore_n hC dX2_missedBits_26 rfl (Nat.le_of_ble_eq_true rfl) rfl ?_
        exact g_pick [1, 0, 2] rfl (bX2_missedBits_27 hC hcs h0 ih hR _ _ _ h)
theorem bX2_missedBits_0 {K : KT} {g : GT} {cm sm : Nat} {cs : Nat × Nat} {c0 : Nat} {r : Int} {σ' : St} (hC : Ctx K g RX2 cX2_missedBits 3 1 cm sm) (hcs : cs.1 ≤ cm ∧ cs.2 ≤ sm) (h0 : isO 2 c0 = true) (hR : RetI K g cX2_missedBits 3 cs r (SH0, σ')) : ∀ (σ : St), fX2_missedBits c0 σ = some (r, σ') → G K g 3 cs 0 [(0, vr c0)] [] (SH0, σ) := by
  intro σ h
  unfold fX2_missedBits at h
  refine g_iconst hC dX2_missedBits_0 ok_0 ?_
  refine g_istore_n hC dX2_missedBits_1 rfl (Nat.le_of_ble_eq_true rfl) rfl ?_
  refine g_iconst hC dX2_missedBits_2 ok_0 ?_
  refine g_istore_n hC dX2_missedBits_3 rfl (Nat.le_of_ble_eq_true rfl) rfl ?_
  exact g_pick [2, 1, 0] rfl (bX2_missedBits_4 hC hcs h0 hR _ _ _ _ h)
theorem tX2_missedBits {l : Launch} {g : GT} {c0 : Nat} {σ σ' : St} {r : Int} (h0 : isO 2 c0 = true) (h : fX2_missedBits c0 σ = some (r, σ')) : Cn l g yX2_missedBits cX2_missedBits 3 (some .int) 1 0 0 [vr c0] (SH0, σ) (some (vi r)) (SH0, σ') :=
  Cn.ofI (by decide) (Nat.le_of_ble_eq_true rfl) (fun K e hC hR => (bX2_missedBits_0 hC ⟨Nat.le_refl _, Nat.le_refl _⟩ h0 hR _ h))
theorem dX2_yearPasses_0 : decode cX2_yearPasses 0 = .ok (.iconst 0, 1) := by decide +kernel
theorem dX2_yearPasses_1 : decode cX2_yearPasses 1 = .ok (.istore_n 1, 1) := by decide +kernel
theorem dX2_yearPasses_2 : decode cX2_yearPasses 2 = .ok (.iload_n 1, 1) := by decide +kernel
theorem dX2_yearPasses_3 : decode cX2_yearPasses 3 = .ok (.aload_n 0, 1) := by decide +kernel
theorem dX2_yearPasses_4 : decode cX2_yearPasses 4 = .ok (.getfield 18, 3) := by decide +kernel
theorem dX2_yearPasses_7 : decode cX2_yearPasses 7 = .ok (.if_icmp .ge 27, 3) := by decide +kernel
theorem dX2_yearPasses_10 : decode cX2_yearPasses 10 = .ok (.aload_n 0, 1) := by decide +kernel
theorem dX2_yearPasses_11 : decode cX2_yearPasses 11 = .ok (.iload_n 1, 1) := by decide +kernel
theorem dX2_yearPasses_12 : decode cX2_yearPasses 12 = .ok (.iconst 3, 1) := by decide +kernel
theorem dX2_yearPasses_13 : decode cX2_yearPasses 13 = .ok (.iconst 0, 1) := by decide +kernel
theorem dX2_yearPasses_14 : decode cX2_yearPasses 14 = .ok (.aload_n 0, 1) := by decide +kernel
theorem dX2_yearPasses_15 : decode cX2_yearPasses 15 = .ok (.iload_n 1, 1) := by decide +kernel
theorem dX2_yearPasses_16 : decode cX2_yearPasses 16 = .ok (.iconst 3, 1) := by decide +kernel
theorem dX2_yearPasses_17 : decode cX2_yearPasses 17 = .ok (.invokevirtual 42, 3) := by decide +kernel
theorem dX2_yearPasses_20 : decode cX2_yearPasses 20 = .ok (.iconst 1, 1) := by decide +kernel
theorem dX2_yearPasses_21 : decode cX2_yearPasses 21 = .ok (.isub, 1) := by decide +kernel
theorem dX2_yearPasses_22 : decode cX2_yearPasses 22 = .ok (.invokestatic 46, 3) := by decide +kernel
theorem dX2_yearPasses_25 : decode cX2_yearPasses 25 = .ok (.invokevirtual 32, 3) := by decide +kernel
theorem dX2_yearPasses_28 : decode cX2_yearPasses 28 = .ok (.iinc 1 1, 3) := by decide +kernel
theorem dX2_yearPasses_31 : decode cX2_yearPasses 31 = .ok (.goto (-29), 3) := by decide +kernel
theorem dX2_yearPasses_34 : decode cX2_yearPasses 34 = .ok (.iconst 0, 1) := by decide +kernel
theorem dX2_yearPasses_35 : decode cX2_yearPasses 35 = .ok (.istore_n 1, 1) := by decide +kernel
theorem dX2_yearPasses_36 : decode cX2_yearPasses 36 = .ok (.iload_n 1, 1) := by decide +kernel
theorem dX2_yearPasses_37 : decode cX2_yearPasses 37 = .ok (.aload_n 0, 1) := by decide +kernel
theorem dX2_yearPasses_38 : decode cX2_yearPasses 38 = .ok (.getfield 22, 3) := by decide +kernel
theorem dX2_yearPasses_41 : decode cX2_yearPasses 41 = .ok (.if_icmp .ge 53, 3) := by decide +kernel
theorem dX2_yearPasses_44 : decode cX2_yearPasses 44 = .ok (.iconst 0, 1) := by decide +kernel
theorem dX2_yearPasses_45 : decode cX2_yearPasses 45 = .ok (.aload_n 0, 1) := by decide +kernel
theorem dX2_yearPasses_46 : decode cX2_yearPasses 46 = .ok (.iload_n 1, 1) := by decide +kernel
theorem dX2_yearPasses_47 : decode cX2_yearPasses 47 = .ok (.iconst 5, 1) := by decide +kernel
theorem dX2_yearPasses_48 : decode cX2_yearPasses 48 = .ok (.invokevirtual 42, 3) := by decide +kernel
theorem dX2_yearPasses_51 : decode cX2_yearPasses 51 = .ok (.iconst 1, 1) := by decide +kernel
theorem dX2_yearPasses_52 : decode cX2_yearPasses 52 = .ok (.isub, 1) := by decide +kernel
theorem dX2_yearPasses_53 : decode cX2_yearPasses 53 = .ok (.invokestatic 46, 3) := by decide +kernel
theorem dX2_yearPasses_56 : decode cX2_yearPasses 56 = .ok (.istore_n 2, 1) := by decide +kernel
theorem dX2_yearPasses_57 : decode cX2_yearPasses 57 = .ok (.aload_n 0, 1) := by decide +kernel
theorem dX2_yearPasses_58 : decode cX2_yearPasses 58 = .ok (.iload_n 1, 1) := by decide +kernel
theorem dX2_yearPasses_59 : decode cX2_yearPasses 59 = .ok (.iconst 5, 1) := by decide +kernel
theorem dX2_yearPasses_60 : decode cX2_yearPasses 60 = .ok (.iload_n 2, 1) := by decide +kernel
theorem dX2_yearPasses_61 : decode cX2_yearPasses 61 = .ok (.invokevirtual 32, 3) := by decide +kernel
theorem dX2_yearPasses_64 : decode cX2_yearPasses 64 = .ok (.iload_n 2, 1) := by decide +kernel
theorem dX2_yearPasses_65 : decode cX2_yearPasses 65 = .ok (.ifCond .ne 23, 3) := by decide +kernel
theorem dX2_yearPasses_68 : decode cX2_yearPasses 68 = .ok (.aload_n 0, 1) := by decide +kernel
theorem dX2_yearPasses_69 : decode cX2_yearPasses 69 = .ok (.iload_n 1, 1) := by decide +kernel
theorem dX2_yearPasses_70 : decode cX2_yearPasses 70 = .ok (.bipush 6, 2) := by decide +kernel
theorem dX2_yearPasses_72 : decode cX2_yearPasses 72 = .ok (.iconst 0, 1) := by decide +kernel
theorem dX2_yearPasses_73 : decode cX2_yearPasses 73 = .ok (.aload_n 0, 1) := by decide +kernel
theorem dX2_yearPasses_74 : decode cX2_yearPasses 74 = .ok (.iload_n 1, 1) := by decide +kernel
theorem dX2_yearPasses_75 : decode cX2_yearPasses 75 = .ok (.bipush 6, 2) := by decide +kernel
theorem dX2_yearPasses_77 : decode cX2_yearPasses 77 = .ok (.invokevirtual 42, 3) := by decide +kernel
theorem dX2_yearPasses_80 : decode cX2_yearPasses 80 = .ok (.iconst 1, 1) := by decide +kernel
theorem dX2_yearPasses_81 : decode cX2_yearPasses 81 = .ok (.isub, 1) := by decide +kernel
theorem dX2_yearPasses_82 : decode cX2_yearPasses 82 = .ok (.invokestatic 46, 3) := by decide +kernel
theorem dX2_yearPasses_85 : decode cX2_yearPasses 85 = .ok (.invokevirtual 32, 3) := by decide +kernel
theorem dX2_yearPasses_88 : decode cX2_yearPasses 88 = .ok (.iinc 1 1, 3) := by decide +kernel
theorem dX2_yearPasses_91 : decode cX2_yearPasses 91 = .ok (.goto (-55), 3) := by decide +kernel
theorem dX2_yearPasses_94 : decode cX2_yearPasses 94 = .ok (.return_, 1) := by decide +kernel
theorem bX2_yearPasses_88 {K : KT} {g : GT} {cm sm : Nat} {cs : Nat × Nat} {c0 : Nat} {k36 : Int → St → Option (St)} {σ' : St} (hC : Ctx K g RX2 cX2_yearPasses 3 1 cm sm) (hcs : cs.1 ≤ cm ∧ cs.2 ≤ sm) (h0 : isO 2 c0 = true) (hk36 : ∀ (x1 : Int) (σ : St), k36 x1 σ = some σ' → G K g 3 cs 36 [(0, vr c0), (1, vi x1)] [] (SH0, σ)) (hR : RetV K g cX2_yearPasses 3 cs (SH0, σ')) : ∀ (x1 : Int) (σ : St), fX2_yearPasses_88 c0 k36 x1 σ = some σ' → G K g 3 cs 88 [(0, vr c0), (1, vi x1)] [] (SH0, σ) := by
  intro x1 σ h
  unfold fX2_yearPasses_88 at h
  refine g_iinc hC dX2_yearPasses_88 1 rfl (Nat.le_of_ble_eq_true rfl) rfl ?_
  refine g_goto hC dX2_yearPasses_91 (tgt := 36) (by decide) ?_
  exact g_pick [1, 0] rfl (hk36 _ _ h)
theorem bX2_yearPasses_36 {K : KT} {g : GT} {cm sm : Nat} {cs : Nat × Nat} {c0 : Nat} {σ' : St} (hC : Ctx K g RX2 cX2_yearPasses 3 1 cm sm) (hcs : cs.1 ≤ cm ∧ cs.2 ≤ sm) (h0 : isO 2 c0 = true) (hR : RetV K g cX2_yearPasses 3 cs (SH0, σ')) : ∀ (n : Nat) (x1 : Int) (σ : St), fX2_yearPasses_36 c0 n x1 σ = some σ' → G K g 3 cs 36 [(0, vr c0), (1, vi x1)] [] (SH0, σ) := by
  intro n
  induction n with
  | zero =>
    intro x1 σ h
    rw [fX2_yearPasses_36.eq_1] at h
    cases h
  | succ n ih =>
    intro x1 σ h
    rw [fX2_yearPasses_36.eq_2] at h
    refine g_iload_n hC dX2_yearPasses_36 1 rfl rfl ?_
    refine g_aload_n hC dX2_yearPasses_37 0 rfl rfl ?_
    refine g_geti hC dX2_yearPasses_38 lfRX2_22 (isO_spec h0) (ft_2_3 h0) ?_
    refine g_icmp_ge hC dX2_yearPasses_41 (tgt := 94) (by decide) (fun h9 => ?_) (fun h9 => ?_)
    · rw [if_pos h9] at h
      exact ret_v h hR dX2_yearPasses_94
    · rw [if_neg h9] at h
      refine g_iconst hC dX2_yearPasses_44 ok_0 ?_
      refine g_aload_n hC dX2_yearPasses_45 0 rfl rfl ?_
      refine g_iload_n hC dX2_yearPasses_46 1 rfl rfl ?_
      refine g_iconst hC dX2_yearPasses_47 ok_5 ?_
      obtain ⟨⟨r1, s1⟩, e1, h⟩ := of_bind h
      try dsimp only at h
      refine s_callVi hC dX2_yearPasses_48 (tX2_number h0 e1) miX2_number mvX2_number mlRX2_42 (isO_spec h0) vc_2 rfl rfl (Nat.le_of_ble_eq_true rfl) (Nat.le_of_ble_eq_true rfl) (Nat.le_of_ble_eq_true rfl) hcs ?_
      refine g_iconst hC dX2_yearPasses_51 ok_1 ?_
      refine g_isub hC dX2_yearPasses_52 ?_
      refine g_max hC dX2_yearPasses_53 lmRX2_46 mx_1 mn_2 mx_3 (Nat.le_of_ble_eq_true rfl) (Nat.le_of_ble_eq_true rfl) hcs ?_
      refine g_istore_n hC dX2_yearPasses_56 rfl (Nat.le_of_ble_eq_true rfl) rfl ?_
      refine g_aload_n hC dX2_yearPasses_57 1 rfl rfl ?_
      refine g_iload_n hC dX2_yearPasses_58 2 rfl rfl ?_
      refine g_iconst hC dX2_yearPasses_59 ok_5 ?_
      refine g_iload_n hC dX2_yearPasses_60 0 rfl rfl ?_
      obtain ⟨s2, e2, h⟩ := of_bind h
      try dsimp only at h
      refine s_callVv hC dX2_yearPasses_61 (tX2_become h0 e2) miX2_become mvX2_become mlRX2_32 (isO_spec h0) vc_2 rfl rfl (Nat.le_of_ble_eq_true rfl) (Nat.le_of_ble_eq_true rfl) (Nat.le_of_ble_eq_true rfl) hcs ?_
      refine g_iload_n hC dX2_yearPasses_64 0 rfl rfl ?_
      refine g_if_ne hC dX2_yearPasses_65 (tgt := 88) (by decide) (fun h9 => ?_) (fun h9 => ?_)
      · rw [if_neg h9] at h
        exact g_pick [1, 2] rfl (bX2_yearPasses_88 hC hcs h0 ih hR _ _ h)
      · rw [if_pos h9] at h
        refine g_aload_n hC dX2_yearPasses_68 1 rfl rfl ?_
        refine g_iload_n hC dX2_yearPasses_69 2 rfl rfl ?_
        refine g_bipush hC dX2_yearPasses_70 bp_6 ?_
        refine g_iconst hC dX2_yearPasses_72 ok_0 ?_
        refine g_aload_n hC dX2_yearPasses_73 1 rfl rfl ?_
        refine g_iload_n hC dX2_yearPasses_74 2 rfl rfl ?_
        refine g_bipush hC dX2_yearPasses_75 bp_6 ?_
        obtain ⟨⟨r3, s3⟩, e3, h⟩ := of_bind h
        try dsimp only at h
        refine s_callVi hC dX2_yearPasses_77 (tX2_number h0 e3) miX2_number mvX2_number mlRX2_42 (isO_spec h0) vc_2 rfl rfl (Nat.le_of_ble_eq_true rfl) (Nat.le_of_ble_eq_true rfl) (Nat.le_of_ble_eq_true rfl) hcs ?_
        refine g_iconst hC dX2_yearPasses_80 ok_1 ?_
        refine g_isub hC dX2_yearPasses_81 ?_
        refine g_max hC dX2_yearPasses_82 lmRX2_46 mx_1 mn_2 mx_3 (Nat.le_of_ble_eq_true rfl) (Nat.le_of_ble_eq_true rfl) hcs ?_
        obtain ⟨s4, e4, h⟩ := of_bind h
        try dsimp only at h
        refine s_callVv hC dX2_yearPasses_85 (tX2_become h0 e4) miX2_become mvX2_become mlRX2_32 (isO_spec h0) vc_2 rfl rfl (Nat.le_of_ble_eq_true rfl) (Nat.le_of_ble_eq_true rfl) (Nat.le_of_ble_eq_true rfl) hcs ?_
        exact g_pick [1, 2] rfl (bX2_yearPasses_88 hC hcs h0 ih hR _ _ h)
theorem bX2_yearPasses_2 {K : KT} {g : GT} {cm sm : Nat} {cs : Nat × Nat} {c0 : Nat} {σ' : St} (hC : Ctx K g RX2 cX2_yearPasses 3 1 cm sm) (hcs : cs.1 ≤ cm ∧ cs.2 ≤ sm) (h0 : isO 2 c0 = true) (hR : RetV K g cX2_yearPasses 3 cs (SH0, σ')) : ∀ (n : Nat) (x1 : Int) (σ : St), fX2_yearPasses_2 c0 n x1 σ = some σ' → G K g 3 cs 2 [(0, vr c0), (1, vi x1)] [] (SH0, σ) := by
  intro n
  induction n with
  | zero =>
    intro x1 σ h
    rw [fX2_yearPasses_2.eq_1] at h
    cases h
  | succ n ih =>
    intro x1 σ h
    rw [fX2_yearPasses_2.eq_2] at h
    refine g_iload_n hC dX2_yearPasses_2 1 rfl rfl ?_
    refine g_aload_n hC dX2_yearPasses_3 0 rfl rfl ?_
    refine g_geti hC dX2_yearPasses_4 lfRX2_18 (isO_spec h0) (ft_2_2 h0) ?_
    refine g_icmp_ge hC dX2_yearPasses_7 (tgt := 34) (by decide) (fun h9 => ?_) (fun h9 => ?_)
    · rw [if_pos h9] at h
      refine g_iconst hC dX2_yearPasses_34 ok_0 ?_
      refine g_istore_n hC dX2_yearPasses_35 rfl (Nat.le_of_ble_eq_true rfl) rfl ?_
      exact g_pick [1, 0] rfl (bX2_yearPasses_36 hC hcs h0 hR _ _ _ h)
    · rw [if_neg h9] at h
      refine g_aload_n hC dX2_yearPasses_10 0 rfl rfl ?_
      refine g_iload_n hC dX2_yearPasses_11 1 rfl rfl ?_
      refine g_iconst hC dX2_yearPasses_12 ok_3 ?_
      refine g_iconst hC dX2_yearPasses_13 ok_0 ?_
      refine g_aload_n hC dX2_yearPasses_14 0 rfl rfl ?_
      refine g_iload_n hC dX2_yearPasses_15 1 rfl rfl ?_
      refine g_iconst hC dX2_yearPasses_16 ok_3 ?_
      obtain ⟨⟨r1, s1⟩, e1, h⟩ := of_bind h
      try dsimp only at h
      refine s_callVi hC dX2_yearPasses_17 (tX2_number h0 e1) miX2_number mvX2_number mlRX2_42 (isO_spec h0) vc_2 rfl rfl (Nat.le_of_ble_eq_true rfl) (Nat.le_of_ble_eq_true rfl) (Nat.le_of_ble_eq_true rfl) hcs ?_
      refine g_iconst hC dX2_yearPasses_20 ok_1 ?_
      refine g_isub hC dX2_yearPasses_21 ?_
      refine g_max hC dX2_yearPasses_22 lmRX2_46 mx_1 mn_2 mx_3 (Nat.le_of_ble_eq_true rfl) (Nat.le_of_ble_eq_true rfl) hcs ?_
      obtain ⟨s2, e2, h⟩ := of_bind h
      try dsimp only at h
      refine s_callVv hC dX2_yearPasses_25 (tX2_become h0 e2) miX2_become mvX2_become mlRX2_32 (isO_spec h0) vc_2 rfl rfl (Nat.le_of_ble_eq_true rfl) (Nat.le_of_ble_eq_true rfl) (Nat.le_of_ble_eq_true rfl) hcs ?_
      refine g_iinc hC dX2_yearPasses_28 1 rfl (Nat.le_of_ble_eq_true rfl) rfl ?_
      refine g_goto hC dX2_yearPasses_31 (tgt := 2) (by decide) ?_
      exact g_pick [1, 0] rfl (ih _ _ h)
theorem bX2_yearPasses_0 {K : KT} {g : GT} {cm sm : Nat} {cs : Nat × Nat} {c0 : Nat} {σ' : St} (hC : Ctx K g RX2 cX2_yearPasses 3 1 cm sm) (hcs : cs.1 ≤ cm ∧ cs.2 ≤ sm) (h0 : isO 2 c0 = true) (hR : RetV K g cX2_yearPasses 3 cs (SH0, σ')) : ∀ (σ : St), fX2_yearPasses c0 σ = some σ' → G K g 3 cs 0 [(0, vr c0)] [] (SH0, σ) := by
  intro σ h
  unfold fX2_yearPasses at h
  refine g_iconst hC dX2_yearPasses_0 ok_0 ?_
  refine g_istore_n hC dX2_yearPasses_1 rfl (Nat.le_of_ble_eq_true rfl) rfl ?_
  exact g_pick [1, 0] rfl (bX2_yearPasses_2 hC hcs h0 hR _ _ _ h)
theorem tX2_yearPasses {l : Launch} {g : GT} {c0 : Nat} {σ σ' : St} (h0 : isO 2 c0 = true) (h : fX2_yearPasses c0 σ = some σ') : Cn l g yX2_yearPasses cX2_yearPasses 3 none 1 0 0 [vr c0] (SH0, σ) none (SH0, σ') :=
  Cn.ofV (by decide) (Nat.le_of_ble_eq_true rfl) (fun K e hC hR => (bX2_yearPasses_0 hC ⟨Nat.le_refl _, Nat.le_refl _⟩ h0 hR _ h))
theorem dX9_later_0 : decode cX9_later 0 = .ok (.iload_n 3, 1) := by decide +kernel
theorem dX9_later_1 : decode cX9_later 1 = .ok (.ifCond .ne 15, 3) := by decide +kernel
theorem dX9_later_4 : decode cX9_later 4 = .ok (.iload_n 2, 1) := by decide +kernel
theorem dX9_later_5 : decode cX9_later 5 = .ok (.ifCond .ne 7, 3) := by decide +kernel
theorem dX9_later_8 : decode cX9_later 8 = .ok (.iconst 1, 1) := by decide +kernel
theorem dX9_later_9 : decode cX9_later 9 = .ok (.goto 33, 3) := by decide +kernel
theorem dX9_later_12 : decode cX9_later 12 = .ok (.iconst 0, 1) := by decide +kernel
theorem dX9_later_13 : decode cX9_later 13 = .ok (.goto 29, 3) := by decide +kernel
theorem dX9_later_16 : decode cX9_later 16 = .ok (.iload_n 3, 1) := by decide +kernel
theorem dX9_later_17 : decode cX9_later 17 = .ok (.iconst 1, 1) := by decide +kernel
theorem dX9_later_18 : decode cX9_later 18 = .ok (.if_icmp .eq 8, 3) := by decide +kernel
theorem dX9_later_21 : decode cX9_later 21 = .ok (.iload_n 3, 1) := by decide +kernel
theorem dX9_later_22 : decode cX9_later 22 = .ok (.iconst 2, 1) := by decide +kernel
theorem dX9_later_23 : decode cX9_later 23 = .ok (.if_icmp .ne 18, 3) := by decide +kernel
theorem dX9_later_26 : decode cX9_later 26 = .ok (.aload_n 0, 1) := by decide +kernel
theorem dX9_later_27 : decode cX9_later 27 = .ok (.getfield 10, 3) := by decide +kernel
theorem dX9_later_30 : decode cX9_later 30 = .ok (.iload_n 2, 1) := by decide +kernel
theorem dX9_later_31 : decode cX9_later 31 = .ok (.invokevirtual 180, 3) := by decide +kernel
theorem dX9_later_34 : decode cX9_later 34 = .ok (.ifCond .eq 7, 3) := by decide +kernel
theorem dX9_later_37 : decode cX9_later 37 = .ok (.iconst 1, 1) := by decide +kernel
theorem dX9_later_38 : decode cX9_later 38 = .ok (.goto 4, 3) := by decide +kernel
theorem dX9_later_41 : decode cX9_later 41 = .ok (.iconst 0, 1) := by decide +kernel
theorem dX9_later_42 : decode cX9_later 42 = .ok (.istore 4, 2) := by decide +kernel
theorem dX9_later_44 : decode cX9_later 44 = .ok (.iload_n 1, 1) := by decide +kernel
theorem dX9_later_45 : decode cX9_later 45 = .ok (.ifCond .lt 14, 3) := by decide +kernel
theorem dX9_later_48 : decode cX9_later 48 = .ok (.iload_n 1, 1) := by decide +kernel
theorem dX9_later_49 : decode cX9_later 49 = .ok (.bipush 60, 2) := by decide +kernel
theorem dX9_later_51 : decode cX9_later 51 = .ok (.if_icmp .gt 8, 3) := by decide +kernel
theorem dX9_later_54 : decode cX9_later 54 = .ok (.iload 4, 2) := by decide +kernel
theorem dX9_later_56 : decode cX9_later 56 = .ok (.ifCond .ne 5, 3) := by decide +kernel
theorem dX9_later_59 : decode cX9_later 59 = .ok (.iconst (-1), 1) := by decide +kernel
theorem dX9_later_60 : decode cX9_later 60 = .ok (.ireturn, 1) := by decide +kernel
theorem dX9_later_61 : decode cX9_later 61 = .ok (.aload_n 0, 1) := by decide +kernel
theorem dX9_later_62 : decode cX9_later 62 = .ok (.getfield 28, 3) := by decide +kernel
theorem dX9_later_65 : decode cX9_later 65 = .ok (.aload_n 0, 1) := by decide +kernel
theorem dX9_later_66 : decode cX9_later 66 = .ok (.getfield 10, 3) := by decide +kernel
theorem dX9_later_69 : decode cX9_later 69 = .ok (.invokevirtual 147, 3) := by decide +kernel
theorem dX9_later_72 : decode cX9_later 72 = .ok (.iconst 0, 1) := by decide +kernel
theorem dX9_later_73 : decode cX9_later 73 = .ok (.istore 5, 2) := by decide +kernel
theorem dX9_later_75 : decode cX9_later 75 = .ok (.iload 5, 2) := by decide +kernel
theorem dX9_later_77 : decode cX9_later 77 = .ok (.iload_n 1, 1) := by decide +kernel
theorem dX9_later_78 : decode cX9_later 78 = .ok (.if_icmp .ge 19, 3) := by decide +kernel
theorem dX9_later_81 : decode cX9_later 81 = .ok (.aload_n 0, 1) := by decide +kernel
theorem dX9_later_82 : decode cX9_later 82 = .ok (.getfield 28, 3) := by decide +kernel
theorem dX9_later_85 : decode cX9_later 85 = .ok (.getfield 209, 3) := by decide +kernel
theorem dX9_later_88 : decode cX9_later 88 = .ok (.invokevirtual 228, 3) := by decide +kernel
theorem dX9_later_91 : decode cX9_later 91 = .ok (.iinc 5 1, 3) := by decide +kernel
theorem dX9_later_94 : decode cX9_later 94 = .ok (.goto (-19), 3) := by decide +kernel
theorem dX9_later_97 : decode cX9_later 97 = .ok (.iload_n 3, 1) := by decide +kernel
theorem dX9_later_98 : decode cX9_later 98 = .ok (.ifCond .ne 14, 3) := by decide +kernel
theorem dX9_later_101 : decode cX9_later 101 = .ok (.aload_n 0, 1) := by decide +kernel
theorem dX9_later_102 : decode cX9_later 102 = .ok (.getfield 28, 3) := by decide +kernel
theorem dX9_later_105 : decode cX9_later 105 = .ok (.getfield 209, 3) := by decide +kernel
theorem dX9_later_108 : decode cX9_later 108 = .ok (.invokevirtual 231, 3) := by decide +kernel
theorem dX9_later_111 : decode cX9_later 111 = .ok (.ireturn, 1) := by decide +kernel
theorem dX9_later_112 : decode cX9_later 112 = .ok (.aload_n 0, 1) := by decide +kernel
theorem dX9_later_113 : decode cX9_later 113 = .ok (.getfield 28, 3) := by decide +kernel
theorem dX9_later_116 : decode cX9_later 116 = .ok (.getfield 209, 3) := by decide +kernel
theorem dX9_later_119 : decode cX9_later 119 = .ok (.iload_n 2, 1) := by decide +kernel
theorem dX9_later_120 : decode cX9_later 120 = .ok (.iload_n 3, 1) := by decide +kernel
theorem dX9_later_121 : decode cX9_later 121 = .ok (.iconst 1, 1) := by decide +kernel
theorem dX9_later_122 : decode cX9_later 122 = .ok (.if_icmp .ne 7, 3) := by decide +kernel
theorem dX9_later_125 : decode cX9_later 125 = .ok (.iconst 5, 1) := by decide +kernel
theorem dX9_later_126 : decode cX9_later 126 = .ok (.goto 5, 3) := by decide +kernel
theorem dX9_later_129 : decode cX9_later 129 = .ok (.bipush 6, 2) := by decide +kernel
theorem dX9_later_131 : decode cX9_later 131 = .ok (.invokevirtual 122, 3) := by decide +kernel
theorem dX9_later_134 : decode cX9_later 134 = .ok (.ireturn, 1) := by decide +kernel
theorem bX9_later_131 {K : KT} {g : GT} {cm sm : Nat} {cs : Nat × Nat} {c0 : Nat} {x1 : Int} {x2 : Int} {x3 : Int} {r : Int} {σ' : St} (hC : Ctx K g RX9 cX9_later 6 3 cm sm) (hcs : cs.1 ≤ cm ∧ cs.2 ≤ sm) (h0 : isO 9 c0 = true) (hR : RetI K g cX9_later 6 cs r (SH0, σ')) : ∀ (d0 : Nat) (y1 : Int) (y2 : Int) (σ : St), isO 2 d0 = true → fX9_later_131 c0 x1 x2 x3 d0 y1 y2 σ = some (r, σ') → G K g 6 cs 131 [(0, vr c0), (1, vi x1), (2, vi x2), (3, vi x3)] [vi y2, vi y1, vr d0] (SH0, σ) := by
  intro d0 y1 y2 σ hd0 h
  unfold fX9_later_131 at h
  obtain ⟨⟨r1, s1⟩, e1, h⟩ := of_bind h
  try dsimp only at h
  refine s_callVi hC dX9_later_131 (tX2_number hd0 e1) miX2_number mvX2_number mlRX9_122 (isO_spec hd0) vc_2 rfl rfl (Nat.le_of_ble_eq_true rfl) (Nat.le_of_ble_eq_true rfl) (Nat.le_of_ble_eq_true rfl) hcs ?_
  exact ret_i h hR dX9_later_134
theorem bX9_later_75 {K : KT} {g : GT} {cm sm : Nat} {cs : Nat × Nat} {c0 : Nat} {x1 : Int} {x2 : Int} {x3 : Int} {r : Int} {σ' : St} (hC : Ctx K g RX9 cX9_later 6 3 cm sm) (hcs : cs.1 ≤ cm ∧ cs.2 ≤ sm) (h0 : isO 9 c0 = true) (hR : RetI K g cX9_later 6 cs r (SH0, σ')) : ∀ (n : Nat) (x5 : Int) (σ : St), fX9_later_75 c0 x1 x2 x3 n x5 σ = some (r, σ') → G K g 6 cs 75 [(0, vr c0), (1, vi x1), (2, vi x2), (3, vi x3), (5, vi x5)] [] (SH0, σ) := by
  intro n
  induction n with
  | zero =>
    intro x5 σ h
    rw [fX9_later_75.eq_1] at h
    cases h
  | succ n ih =>
    intro x5 σ h
    rw [fX9_later_75.eq_2] at h
    refine g_iload hC dX9_later_75 4 rfl ?_
    refine g_iload_n hC dX9_later_77 1 rfl rfl ?_
    refine g_icmp_ge hC dX9_later_78 (tgt := 97) (by decide) (fun h9 => ?_) (fun h9 => ?_)
    · rw [if_pos h9] at h
      refine g_iload_n hC dX9_later_97 3 rfl rfl ?_
      refine g_if_ne hC dX9_later_98 (tgt := 112) (by decide) (fun h9 => ?_) (fun h9 => ?_)
      · rw [if_neg h9] at h
        refine g_aload_n hC dX9_later_112 0 rfl rfl ?_
        refine g_getr hC dX9_later_113 lfRX9_28 (isO_spec h0) (ft_9_2 h0) ?_
        refine g_getr hC dX9_later_116 lfRX9_209 (isO_spec (rf_9_2 h0)) (ft_7_0 (rf_9_2 h0)) ?_
        refine g_iload_n hC dX9_later_119 2 rfl rfl ?_
        refine g_iload_n hC dX9_later_120 3 rfl rfl ?_
        refine g_iconst hC dX9_later_121 ok_1 ?_
        refine g_icmp_ne hC dX9_later_122 (tgt := 129) (by decide) (fun h9 => ?_) (fun h9 => ?_)
        · rw [if_neg h9] at h
          refine g_bipush hC dX9_later_129 bp_6 ?_
          exact g_pick [0, 1, 2, 3] rfl (bX9_later_131 hC hcs h0 hR _ _ _ _ (rf_7_0 (rf_9_2 h0)) h)
        · rw [if_pos h9] at h
          refine g_iconst hC dX9_later_125 ok_5 ?_
          refine g_goto hC dX9_later_126 (tgt := 131) (by decide) ?_
          exact g_pick [0, 1, 2, 3] rfl (bX9_later_131 hC hcs h0 hR _ _ _ _ (rf_7_0 (rf_9_2 h0)) h)
      · rw [if_pos h9] at h
        refine g_aload_n hC dX9_later_101 0 rfl rfl ?_
        refine g_getr hC dX9_later_102 lfRX9_28 (isO_spec h0) (ft_9_2 h0) ?_
        refine g_getr hC dX9_later_105 lfRX9_209 (isO_spec (rf_9_2 h0)) (ft_7_0 (rf_9_2 h0)) ?_
        obtain ⟨⟨r1, s1⟩, e1, h⟩ := of_bind h
        try dsimp only at h
        refine s_callVi hC dX9_later_108 (tX2_missedBits (rf_7_0 (rf_9_2 h0)) e1) miX2_missedBits mvX2_missedBits mlRX9_231 (isO_spec (rf_7_0 (rf_9_2 h0))) vc_2 rfl rfl (Nat.le_of_ble_eq_true rfl) (Nat.le_of_ble_eq_true rfl) (Nat.le_of_ble_eq_true rfl) hcs ?_
        exact ret_i h hR dX9_later_111
    · rw [if_neg h9] at h
      refine g_aload_n hC dX9_later_81 0 rfl rfl ?_
      refine g_getr hC dX9_later_82 lfRX9_28 (isO_spec h0) (ft_9_2 h0) ?_
      refine g_getr hC dX9_later_85 lfRX9_209 (isO_spec (rf_9_2 h0)) (ft_7_0 (rf_9_2 h0)) ?_
      obtain ⟨s2, e2, h⟩ := of_bind h
      try dsimp only at h
      refine s_callVv hC dX9_later_88 (tX2_yearPasses (rf_7_0 (rf_9_2 h0)) e2) miX2_yearPasses mvX2_yearPasses mlRX9_228 (isO_spec (rf_7_0 (rf_9_2 h0))) vc_2 rfl rfl (Nat.le_of_ble_eq_true rfl) (Nat.le_of_ble_eq_true rfl) (Nat.le_of_ble_eq_true rfl) hcs ?_
      refine g_iinc hC dX9_later_91 4 rfl (Nat.le_of_ble_eq_true rfl) rfl ?_
      refine g_goto hC dX9_later_94 (tgt := 75) (by decide) ?_
      exact g_pick [1, 2, 3, 4, 0] rfl (ih _ _ h)
theorem bX9_later_42 {K : KT} {g : GT} {cm sm : Nat} {cs : Nat × Nat} {c0 : Nat} {x1 : Int} {x2 : Int} {x3 : Int} {r : Int} {σ' : St} (hC : Ctx K g RX9 cX9_later 6 3 cm sm) (hcs : cs.1 ≤ cm ∧ cs.2 ≤ sm) (h0 : isO 9 c0 = true) (hR : RetI K g cX9_later 6 cs r (SH0, σ')) : ∀ (y0 : Int) (σ : St), fX9_later_42 c0 x1 x2 x3 y0 σ = some (r, σ') → G K g 6 cs 42 [(0, vr c0), (1, vi x1), (2, vi x2), (3, vi x3)] [vi y0] (SH0, σ) := by
  intro y0 σ h
  unfold fX9_later_42 at h
  refine g_istore hC dX9_later_42 (Nat.le_of_ble_eq_true rfl) rfl ?_
  refine g_iload_n hC dX9_later_44 2 rfl rfl ?_
  refine g_if_lt hC dX9_later_45 (tgt := 59) (by decide) (fun h9 => ?_) (fun h9 => ?_)
  · rw [if_pos h9] at h
    refine g_iconst hC dX9_later_59 ok_m1 ?_
    exact ret_i h hR dX9_later_60
  · rw [if_neg h9] at h
    refine g_iload_n hC dX9_later_48 2 rfl rfl ?_
    refine g_bipush hC dX9_later_49 bp_60 ?_
    refine g_icmp_gt hC dX9_later_51 (tgt := 59) (by decide) (fun h9 => ?_) (fun h9 => ?_)
    · rw [if_pos h9] at h
      refine g_iconst hC dX9_later_59 ok_m1 ?_
      exact ret_i h hR dX9_later_60
    · rw [if_neg h9] at h
      refine g_iload hC dX9_later_54 0 rfl ?_
      refine g_if_ne hC dX9_later_56 (tgt := 61) (by decide) (fun h9 => ?_) (fun h9 => ?_)
      · rw [if_neg h9] at h
        refine g_aload_n hC dX9_later_61 1 rfl rfl ?_
        refine g_getr hC dX9_later_62 lfRX9_28 (isO_spec h0) (ft_9_2 h0) ?_
        refine g_aload_n hC dX9_later_65 1 rfl rfl ?_
        refine g_getr hC dX9_later_66 lfRX9_10 (isO_spec h0) (ft_9_0 h0) ?_
        obtain ⟨s1, e1, h⟩ := of_bind h
        try dsimp only at h
        refine s_callVv hC dX9_later_69 (tX7_begin (rf_9_2 h0) (rf_9_0 h0) e1) miX7_begin mvX7_begin mlRX9_147 (isO_spec (rf_9_2 h0)) vc_7 rfl rfl (Nat.le_of_ble_eq_true rfl) (Nat.le_of_ble_eq_true rfl) (Nat.le_of_ble_eq_true rfl) hcs ?_
        refine g_iconst hC dX9_later_72 ok_0 ?_
        refine g_istore hC dX9_later_73 (Nat.le_of_ble_eq_true rfl) rfl ?_
        exact g_pick [2, 3, 4, 5, 0] rfl (bX9_later_75 hC hcs h0 hR _ _ _ h)
      · rw [if_pos h9] at h
        refine g_iconst hC dX9_later_59 ok_m1 ?_
        exact ret_i h hR dX9_later_60
theorem bX9_later_41 {K : KT} {g : GT} {cm sm : Nat} {cs : Nat × Nat} {c0 : Nat} {x1 : Int} {x2 : Int} {x3 : Int} {r : Int} {σ' : St} (hC : Ctx K g RX9 cX9_later 6 3 cm sm) (hcs : cs.1 ≤ cm ∧ cs.2 ≤ sm) (h0 : isO 9 c0 = true) (hR : RetI K g cX9_later 6 cs r (SH0, σ')) : ∀ (σ : St), fX9_later_41 c0 x1 x2 x3 σ = some (r, σ') → G K g 6 cs 41 [(0, vr c0), (1, vi x1), (2, vi x2), (3, vi x3)] [] (SH0, σ) := by
  intro σ h
  unfold fX9_later_41 at h
  refine g_iconst hC dX9_later_41 ok_0 ?_
  exact g_pick [0, 1, 2, 3] rfl (bX9_later_42 hC hcs h0 hR _ _ h)
theorem bX9_later_26 {K : KT} {g : GT} {cm sm : Nat} {cs : Nat × Nat} {c0 : Nat} {x1 : Int} {x2 : Int} {x3 : Int} {r : Int} {σ' : St} (hC : Ctx K g RX9 cX9_later 6 3 cm sm) (hcs : cs.1 ≤ cm ∧ cs.2 ≤ sm) (h0 : isO 9 c0 = true) (hR : RetI K g cX9_later 6 cs r (SH0, σ')) : ∀ (σ : St), fX9_later_26 c0 x1 x2 x3 σ = some (r, σ') → G K g 6 cs 26 [(0, vr c0), (1, vi x1), (2, vi x2), (3, vi x3)] [] (SH0, σ) := by
  intro σ h
  unfold fX9_later_26 at h
  refine g_aload_n hC dX9_later_26 0 rfl rfl ?_
  refine g_getr hC dX9_later_27 lfRX9_10 (isO_spec h0) (ft_9_0 h0) ?_
  refine g_iload_n hC dX9_later_30 2 rfl rfl ?_
  obtain ⟨⟨r1, s1⟩, e1, h⟩ := of_bind h
  try dsimp only at h
  refine s_callVi hC dX9_later_31 (tX2_hasBidder (rf_9_0 h0) e1) miX2_hasBidder mvX2_hasBidder mlRX9_180 (isO_spec (rf_9_0 h0)) vc_2 rfl rfl (Nat.le_of_ble_eq_true rfl) (Nat.le_of_ble_eq_true rfl) (Nat.le_of_ble_eq_true rfl) hcs ?_
  refine g_if_eq hC dX9_later_34 (tgt := 41) (by decide) (fun h9 => ?_) (fun h9 => ?_)
  · rw [if_pos h9] at h
    exact g_pick [0, 1, 2, 3] rfl (bX9_later_41 hC hcs h0 hR _ h)
  · rw [if_neg h9] at h
    refine g_iconst hC dX9_later_37 ok_1 ?_
    refine g_goto hC dX9_later_38 (tgt := 42) (by decide) ?_
    exact g_pick [0, 1, 2, 3] rfl (bX9_later_42 hC hcs h0 hR _ _ h)
theorem bX9_later_0 {K : KT} {g : GT} {cm sm : Nat} {cs : Nat × Nat} {c0 : Nat} {x1 : Int} {x2 : Int} {x3 : Int} {r : Int} {σ' : St} (hC : Ctx K g RX9 cX9_later 6 3 cm sm) (hcs : cs.1 ≤ cm ∧ cs.2 ≤ sm) (h0 : isO 9 c0 = true) (hR : RetI K g cX9_later 6 cs r (SH0, σ')) : ∀ (σ : St), fX9_later c0 x1 x2 x3 σ = some (r, σ') → G K g 6 cs 0 [(0, vr c0), (1, vi x1), (2, vi x2), (3, vi x3)] [] (SH0, σ) := by
  intro σ h
  unfold fX9_later at h
  refine g_iload_n hC dX9_later_0 3 rfl rfl ?_
  refine g_if_ne hC dX9_later_1 (tgt := 16) (by decide) (fun h9 => ?_) (fun h9 => ?_)
  · rw [if_neg h9] at h
    refine g_iload_n hC dX9_later_16 3 rfl rfl ?_
    refine g_iconst hC dX9_later_17 ok_1 ?_
    refine g_icmp_eq hC dX9_later_18 (tgt := 26) (by decide) (fun h9 => ?_) (fun h9 => ?_)
    · rw [if_pos h9] at h
      exact g_pick [0, 1, 2, 3] rfl (bX9_later_26 hC hcs h0 hR _ h)
    · rw [if_neg h9] at h
      refine g_iload_n hC dX9_later_21 3 rfl rfl ?_
      refine g_iconst hC dX9_later_22 ok_2 ?_
      refine g_icmp_ne hC dX9_later_23 (tgt := 41) (by decide) (fun h9 => ?_) (fun h9 => ?_)
      · rw [if_neg h9] at h
        exact g_pick [0, 1, 2, 3] rfl (bX9_later_41 hC hcs h0 hR _ h)
      · rw [if_pos h9] at h
        exact g_pick [0, 1, 2, 3] rfl (bX9_later_26 hC hcs h0 hR _ h)
  · rw [if_pos h9] at h
    refine g_iload_n hC dX9_later_4 2 rfl rfl ?_
    refine g_if_ne hC dX9_later_5 (tgt := 12) (by decide) (fun h9 => ?_) (fun h9 => ?_)
    · rw [if_neg h9] at h
      refine g_iconst hC dX9_later_12 ok_0 ?_
      refine g_goto hC dX9_later_13 (tgt := 42) (by decide) ?_
      exact g_pick [0, 1, 2, 3] rfl (bX9_later_42 hC hcs h0 hR _ _ h)
    · rw [if_pos h9] at h
      refine g_iconst hC dX9_later_8 ok_1 ?_
      refine g_goto hC dX9_later_9 (tgt := 42) (by decide) ?_
      exact g_pick [0, 1, 2, 3] rfl (bX9_later_42 hC hcs h0 hR _ _ h)
theorem tX9_later {l : Launch} {g : GT} {c0 : Nat} {x1 : Int} {x2 : Int} {x3 : Int} {σ σ' : St} {r : Int} (h0 : isO 9 c0 = true) (h : fX9_later c0 x1 x2 x3 σ = some (r, σ')) : Cn l g yX9_later cX9_later 6 (some .int) 3 0 0 [vr c0, vi x1, vi x2, vi x3] (SH0, σ) (some (vi r)) (SH0, σ') :=
  Cn.ofI (by decide) (Nat.le_of_ble_eq_true rfl) (fun K e hC hR => (bX9_later_0 hC ⟨Nat.le_refl _, Nat.le_refl _⟩ h0 hR _ h))
theorem dX4_emit_0 : decode cX4_emit 0 = .ok (.aload_n 0, 1) := by decide +kernel
theorem dX4_emit_1 : decode cX4_emit 1 = .ok (.getfield 32, 3) := by decide +kernel
theorem dX4_emit_4 : decode cX4_emit 4 = .ok (.aload_n 0, 1) := by decide +kernel
theorem dX4_emit_5 : decode cX4_emit 5 = .ok (.getfield 22, 3) := by decide +kernel
theorem dX4_emit_8 : decode cX4_emit 8 = .ok (.arraylength, 1) := by decide +kernel
theorem dX4_emit_9 : decode cX4_emit 9 = .ok (.if_icmp .ge 23, 3) := by decide +kernel
theorem dX4_emit_12 : decode cX4_emit 12 = .ok (.aload_n 0, 1) := by decide +kernel
theorem dX4_emit_13 : decode cX4_emit 13 = .ok (.getfield 22, 3) := by decide +kernel
theorem dX4_emit_16 : decode cX4_emit 16 = .ok (.aload_n 0, 1) := by decide +kernel
theorem dX4_emit_17 : decode cX4_emit 17 = .ok (.getfield 32, 3) := by decide +kernel
theorem dX4_emit_20 : decode cX4_emit 20 = .ok (.iload_n 1, 1) := by decide +kernel
theorem dX4_emit_21 : decode cX4_emit 21 = .ok (.iastore, 1) := by decide +kernel
theorem dX4_emit_22 : decode cX4_emit 22 = .ok (.aload_n 0, 1) := by decide +kernel
theorem dX4_emit_23 : decode cX4_emit 23 = .ok (.dup, 1) := by decide +kernel
theorem dX4_emit_24 : decode cX4_emit 24 = .ok (.getfield 32, 3) := by decide +kernel
theorem dX4_emit_27 : decode cX4_emit 27 = .ok (.iconst 1, 1) := by decide +kernel
theorem dX4_emit_28 : decode cX4_emit 28 = .ok (.iadd, 1) := by decide +kernel
theorem dX4_emit_29 : decode cX4_emit 29 = .ok (.putfield 32, 3) := by decide +kernel
theorem dX4_emit_32 : decode cX4_emit 32 = .ok (.return_, 1) := by decide +kernel
theorem bX4_emit_0 {K : KT} {g : GT} {cm sm : Nat} {cs : Nat × Nat} {c0 : Nat} {x1 : Int} {σ' : St} (hC : Ctx K g RX4 cX4_emit 2 0 cm sm) (hcs : cs.1 ≤ cm ∧ cs.2 ≤ sm) (h0 : isO 4 c0 = true) (hR : RetV K g cX4_emit 2 cs (SH0, σ')) : ∀ (σ : St), fX4_emit c0 x1 σ = some σ' → G K g 2 cs 0 [(0, vr c0), (1, vi x1)] [] (SH0, σ) := by
  intro σ h
  unfold fX4_emit at h
  refine g_aload_n hC dX4_emit_0 0 rfl rfl ?_
  refine g_geti hC dX4_emit_1 lfRX4_32 (isO_spec h0) (ft_4_7 h0) ?_
  refine g_aload_n hC dX4_emit_4 0 rfl rfl ?_
  obtain ⟨b21, h⟩ := of_ite h
  refine g_getd hC dX4_emit_5 lfRX4_22 (isO_spec h0) (ft_4_4 h0) ?_
  refine g_alen hC dX4_emit_8 (Or.inl (isA_spec b21)) (ok_LN _) ?_
  refine g_icmp_ge hC dX4_emit_9 (tgt := 32) (by decide) (fun h9 => ?_) (fun h9 => ?_)
  · rw [if_pos h9] at h
    exact ret_v h hR dX4_emit_32
  · rw [if_neg h9] at h
    refine g_aload_n hC dX4_emit_12 0 rfl rfl ?_
    obtain ⟨b22, h⟩ := of_ite h
    refine g_getd hC dX4_emit_13 lfRX4_22 (isO_spec h0) (ft_4_4 h0) ?_
    refine g_aload_n hC dX4_emit_16 0 rfl rfl ?_
    refine g_geti hC dX4_emit_17 lfRX4_32 (isO_spec h0) (ft_4_7 h0) ?_
    refine g_iload_n hC dX4_emit_20 1 rfl rfl ?_
    obtain ⟨b9, h⟩ := of_ite h
    refine g_iast hC dX4_emit_21 (isA_spec b22) b9 ?_
    refine g_aload_n hC dX4_emit_22 0 rfl rfl ?_
    refine g_dup hC dX4_emit_23 rfl ?_
    refine g_geti hC dX4_emit_24 lfRX4_32 (isO_spec h0) (ft_4_7 h0) ?_
    refine g_iconst hC dX4_emit_27 ok_1 ?_
    refine g_iadd hC dX4_emit_28 ?_
    refine g_puti hC dX4_emit_29 lfRX4_32 fp_4_7 (isO_spec h0) (ft_4_7 h0) ?_
    exact ret_v h hR dX4_emit_32
theorem tX4_emit {l : Launch} {g : GT} {c0 : Nat} {x1 : Int} {σ σ' : St} (h0 : isO 4 c0 = true) (h : fX4_emit c0 x1 σ = some σ') : Cn l g yX4_emit cX4_emit 2 none 0 0 0 [vr c0, vi x1] (SH0, σ) none (SH0, σ') :=
  Cn.ofV (by decide) (Nat.le_of_ble_eq_true rfl) (fun K e hC hR => (bX4_emit_0 hC ⟨Nat.le_refl _, Nat.le_refl _⟩ h0 hR _ h))
theorem dX4_next_0 : decode cX4_next 0 = .ok (.aload_n 0, 1) := by decide +kernel
theorem dX4_next_1 : decode cX4_next 1 = .ok (.getfield 29, 3) := by decide +kernel
theorem dX4_next_4 : decode cX4_next 4 = .ok (.aload_n 0, 1) := by decide +kernel
theorem dX4_next_5 : decode cX4_next 5 = .ok (.getfield 25, 3) := by decide +kernel
theorem dX4_next_8 : decode cX4_next 8 = .ok (.if_icmp .ge 24, 3) := by decide +kernel
theorem dX4_next_11 : decode cX4_next 11 = .ok (.aload_n 0, 1) := by decide +kernel
theorem dX4_next_12 : decode cX4_next 12 = .ok (.getfield 29, 3) := by decide +kernel
theorem dX4_next_15 : decode cX4_next 15 = .ok (.bipush 120, 2) := by decide +kernel
theorem dX4_next_17 : decode cX4_next 17 = .ok (.if_icmp .ge 15, 3) := by decide +kernel
theorem dX4_next_20 : decode cX4_next 20 = .ok (.aload_n 0, 1) := by decide +kernel
theorem dX4_next_21 : decode cX4_next 21 = .ok (.getfield 9, 3) := by decide +kernel
theorem dX4_next_24 : decode cX4_next 24 = .ok (.aload_n 0, 1) := by decide +kernel
theorem dX4_next_25 : decode cX4_next 25 = .ok (.getfield 29, 3) := by decide +kernel
theorem dX4_next_28 : decode cX4_next 28 = .ok (.iaload, 1) := by decide +kernel
theorem dX4_next_29 : decode cX4_next 29 = .ok (.goto 4, 3) := by decide +kernel
theorem dX4_next_32 : decode cX4_next 32 = .ok (.iconst (-1), 1) := by decide +kernel
theorem dX4_next_33 : decode cX4_next 33 = .ok (.ireturn, 1) := by decide +kernel
theorem bX4_next_0 {K : KT} {g : GT} {cm sm : Nat} {cs : Nat × Nat} {c0 : Nat} {r : Int} {σ' : St} (hC : Ctx K g RX4 cX4_next 1 0 cm sm) (hcs : cs.1 ≤ cm ∧ cs.2 ≤ sm) (h0 : isO 4 c0 = true) (hR : RetI K g cX4_next 1 cs r (SH0, σ')) : ∀ (σ : St), fX4_next c0 σ = some (r, σ') → G K g 1 cs 0 [(0, vr c0)] [] (SH0, σ) := by
  intro σ h
  unfold fX4_next at h
  refine g_aload_n hC dX4_next_0 0 rfl rfl ?_
  refine g_geti hC dX4_next_1 lfRX4_29 (isO_spec h0) (ft_4_6 h0) ?_
  refine g_aload_n hC dX4_next_4 0 rfl rfl ?_
  refine g_geti hC dX4_next_5 lfRX4_25 (isO_spec h0) (ft_4_5 h0) ?_
  refine g_icmp_ge hC dX4_next_8 (tgt := 32) (by decide) (fun h9 => ?_) (fun h9 => ?_)
  · rw [if_pos h9] at h
    refine g_iconst hC dX4_next_32 ok_m1 ?_
    exact ret_i h hR dX4_next_33
  · rw [if_neg h9] at h
    refine g_aload_n hC dX4_next_11 0 rfl rfl ?_
    refine g_geti hC dX4_next_12 lfRX4_29 (isO_spec h0) (ft_4_6 h0) ?_
    refine g_bipush hC dX4_next_15 bp_120 ?_
    refine g_icmp_ge hC dX4_next_17 (tgt := 32) (by decide) (fun h9 => ?_) (fun h9 => ?_)
    · rw [if_pos h9] at h
      refine g_iconst hC dX4_next_32 ok_m1 ?_
      exact ret_i h hR dX4_next_33
    · rw [if_neg h9] at h
      refine g_aload_n hC dX4_next_20 0 rfl rfl ?_
      refine g_getr hC dX4_next_21 lfRX4_9 (isO_spec h0) (ft_4_0 h0) ?_
      refine g_aload_n hC dX4_next_24 0 rfl rfl ?_
      refine g_geti hC dX4_next_25 lfRX4_29 (isO_spec h0) (ft_4_6 h0) ?_
      obtain ⟨b9, h⟩ := of_ite h
      refine g_iald hC dX4_next_28 (isA_spec (rf_4_0 h0)) b9 ?_
      refine g_goto hC dX4_next_29 (tgt := 33) (by decide) ?_
      exact ret_i h hR dX4_next_33
theorem tX4_next {l : Launch} {g : GT} {c0 : Nat} {σ σ' : St} {r : Int} (h0 : isO 4 c0 = true) (h : fX4_next c0 σ = some (r, σ')) : Cn l g yX4_next cX4_next 1 (some .int) 0 0 0 [vr c0] (SH0, σ) (some (vi r)) (SH0, σ') :=
  Cn.ofI (by decide) (Nat.le_of_ble_eq_true rfl) (fun K e hC hR => (bX4_next_0 hC ⟨Nat.le_refl _, Nat.le_refl _⟩ h0 hR _ h))
theorem dX4_rankOf_0 : decode cX4_rankOf 0 = .ok (.iload_n 0, 1) := by decide +kernel
theorem dX4_rankOf_1 : decode cX4_rankOf 1 = .ok (.lookupswitch 101 #[(37, 99), (38, 93), (42, 99), (43, 97), (45, 97), (47, 99), (60, 95), (61, 95), (62, 95), (124, 91)], 91) := by decide +kernel
theorem dX4_rankOf_92 : decode cX4_rankOf 92 = .ok (.iconst 0, 1) := by decide +kernel
theorem dX4_rankOf_93 : decode cX4_rankOf 93 = .ok (.ireturn, 1) := by decide +kernel
theorem dX4_rankOf_94 : decode cX4_rankOf 94 = .ok (.iconst 1, 1) := by decide +kernel
theorem dX4_rankOf_95 : decode cX4_rankOf 95 = .ok (.ireturn, 1) := by decide +kernel
theorem dX4_rankOf_96 : decode cX4_rankOf 96 = .ok (.iconst 2, 1) := by decide +kernel
theorem dX4_rankOf_97 : decode cX4_rankOf 97 = .ok (.ireturn, 1) := by decide +kernel
theorem dX4_rankOf_98 : decode cX4_rankOf 98 = .ok (.iconst 3, 1) := by decide +kernel
theorem dX4_rankOf_99 : decode cX4_rankOf 99 = .ok (.ireturn, 1) := by decide +kernel
theorem dX4_rankOf_100 : decode cX4_rankOf 100 = .ok (.iconst 4, 1) := by decide +kernel
theorem dX4_rankOf_101 : decode cX4_rankOf 101 = .ok (.ireturn, 1) := by decide +kernel
theorem dX4_rankOf_102 : decode cX4_rankOf 102 = .ok (.iconst (-1), 1) := by decide +kernel
theorem dX4_rankOf_103 : decode cX4_rankOf 103 = .ok (.ireturn, 1) := by decide +kernel
theorem bX4_rankOf_0 {K : KT} {g : GT} {cm sm : Nat} {cs : Nat × Nat} {x0 : Int} {r : Int} {σ' : St} (hC : Ctx K g RX4 cX4_rankOf 1 0 cm sm) (hcs : cs.1 ≤ cm ∧ cs.2 ≤ sm) (hR : RetI K g cX4_rankOf 1 cs r (SH0, σ')) : ∀ (σ : St), fX4_rankOf x0 σ = some (r, σ') → G K g 1 cs 0 [(0, vi x0)] [] (SH0, σ) := by
  intro σ h
  unfold fX4_rankOf at h
  refine g_iload_n hC dX4_rankOf_0 0 rfl rfl ?_
  by_cases h9 : x0 = 37
  · rw [if_pos h9] at h
    refine g_lookup hC dX4_rankOf_1 (by decide) 99 100 (by (try dsimp only); rw [h9]; rfl) (by decide) ?_
    refine g_iconst hC dX4_rankOf_100 ok_4 ?_
    exact ret_i h hR dX4_rankOf_101
  rw [if_neg h9] at h
  have n1 := h9
  clear h9
  by_cases h9 : x0 = 38
  · rw [if_pos h9] at h
    refine g_lookup hC dX4_rankOf_1 (by decide) 93 94 (by (try dsimp only); rw [h9]; rfl) (by decide) ?_
    refine g_iconst hC dX4_rankOf_94 ok_1 ?_
    exact ret_i h hR dX4_rankOf_95
  rw [if_neg h9] at h
  have n2 := h9
  clear h9
  by_cases h9 : x0 = 42
  · rw [if_pos h9] at h
    refine g_lookup hC dX4_rankOf_1 (by decide) 99 100 (by (try dsimp only); rw [h9]; rfl) (by decide) ?_
    refine g_iconst hC dX4_rankOf_100 ok_4 ?_
    exact ret_i h hR dX4_rankOf_101
  rw [if_neg h9] at h
  have n3 := h9
  clear h9
  by_cases h9 : x0 = 43
  · rw [if_pos h9] at h
    refine g_lookup hC dX4_rankOf_1 (by decide) 97 98 (by (try dsimp only); rw [h9]; rfl) (by decide) ?_
    refine g_iconst hC dX4_rankOf_98 ok_3 ?_
    exact ret_i h hR dX4_rankOf_99
  rw [if_neg h9] at h
  have n4 := h9
  clear h9
  by_cases h9 : x0 = 45
  · rw [if_pos h9] at h
    refine g_lookup hC dX4_rankOf_1 (by decide) 97 98 (by (try dsimp only); rw [h9]; rfl) (by decide) ?_
    refine g_iconst hC dX4_rankOf_98 ok_3 ?_
    exact ret_i h hR dX4_rankOf_99
  rw [if_neg h9] at h
  have n5 := h9
  clear h9
  by_cases h9 : x0 = 47
  · rw [if_pos h9] at h
    refine g_lookup hC dX4_rankOf_1 (by decide) 99 100 (by (try dsimp only); rw [h9]; rfl) (by decide) ?_
    refine g_iconst hC dX4_rankOf_100 ok_4 ?_
    exact ret_i h hR dX4_rankOf_101
  rw [if_neg h9] at h
  have n6 := h9
  clear h9
  by_cases h9 : x0 = 60
  · rw [if_pos h9] at h
    refine g_lookup hC dX4_rankOf_1 (by decide) 95 96 (by (try dsimp only); rw [h9]; rfl) (by decide) ?_
    refine g_iconst hC dX4_rankOf_96 ok_2 ?_
    exact ret_i h hR dX4_rankOf_97
  rw [if_neg h9] at h
  have n7 := h9
  clear h9
  by_cases h9 : x0 = 61
  · rw [if_pos h9] at h
    refine g_lookup hC dX4_rankOf_1 (by decide) 95 96 (by (try dsimp only); rw [h9]; rfl) (by decide) ?_
    refine g_iconst hC dX4_rankOf_96 ok_2 ?_
    exact ret_i h hR dX4_rankOf_97
  rw [if_neg h9] at h
  have n8 := h9
  clear h9
  by_cases h9 : x0 = 62
  · rw [if_pos h9] at h
    refine g_lookup hC dX4_rankOf_1 (by decide) 95 96 (by (try dsimp only); rw [h9]; rfl) (by decide) ?_
    refine g_iconst hC dX4_rankOf_96 ok_2 ?_
    exact ret_i h hR dX4_rankOf_97
  rw [if_neg h9] at h
  have n9 := h9
  clear h9
  by_cases h9 : x0 = 124
  · rw [if_pos h9] at h
    refine g_lookup hC dX4_rankOf_1 (by decide) 91 92 (by (try dsimp only); rw [h9]; rfl) (by decide) ?_
    refine g_iconst hC dX4_rankOf_92 ok_0 ?_
    exact ret_i h hR dX4_rankOf_93
  rw [if_neg h9] at h
  have n10 := h9
  clear h9
  refine g_lookup hC dX4_rankOf_1 (by decide) 101 102 (by simp [Op.lookupswitch.offset, Ne.symm n1, n1, Ne.symm n2, n2, Ne.symm n3, n3, Ne.symm n4, n4, Ne.symm n5, n5, Ne.symm n6, n6, Ne.symm n7, n7, Ne.symm n8, n8, Ne.symm n9, n9, Ne.symm n10, n10]) (by decide) ?_
  refine g_iconst hC dX4_rankOf_102 ok_m1 ?_
  exact ret_i h hR dX4_rankOf_103
theorem tX4_rankOf {l : Launch} {g : GT} {x0 : Int} {σ σ' : St} {r : Int} (h : fX4_rankOf x0 σ = some (r, σ')) : Cn l g yX4_rankOf cX4_rankOf 1 (some .int) 0 0 0 [vi x0] (SH0, σ) (some (vi r)) (SH0, σ') :=
  Cn.ofI (by decide) (Nat.le_of_ble_eq_true rfl) (fun K e hC hR => (bX4_rankOf_0 hC ⟨Nat.le_refl _, Nat.le_refl _⟩ hR _ h))
theorem dX4_isDigit_0 : decode cX4_isDigit 0 = .ok (.iload_n 0, 1) := by decide +kernel
theorem dX4_isDigit_1 : decode cX4_isDigit 1 = .ok (.bipush 48, 2) := by decide +kernel
theorem dX4_isDigit_3 : decode cX4_isDigit 3 = .ok (.if_icmp .lt 13, 3) := by decide +kernel
theorem dX4_isDigit_6 : decode cX4_isDigit 6 = .ok (.iload_n 0, 1) := by decide +kernel
theorem dX4_isDigit_7 : decode cX4_isDigit 7 = .ok (.bipush 57, 2) := by decide +kernel
theorem dX4_isDigit_9 : decode cX4_isDigit 9 = .ok (.if_icmp .gt 7, 3) := by decide +kernel
theorem dX4_isDigit_12 : decode cX4_isDigit 12 = .ok (.iconst 1, 1) := by decide +kernel
theorem dX4_isDigit_13 : decode cX4_isDigit 13 = .ok (.goto 4, 3) := by decide +kernel
theorem dX4_isDigit_16 : decode cX4_isDigit 16 = .ok (.iconst 0, 1) := by decide +kernel
theorem dX4_isDigit_17 : decode cX4_isDigit 17 = .ok (.ireturn, 1) := by decide +kernel
theorem bX4_isDigit_0 {K : KT} {g : GT} {cm sm : Nat} {cs : Nat × Nat} {x0 : Int} {r : Int} {σ' : St} (hC : Ctx K g RX4 cX4_isDigit 1 0 cm sm) (hcs : cs.1 ≤ cm ∧ cs.2 ≤ sm) (hR : RetZ K g cX4_isDigit 1 cs r (SH0, σ')) : ∀ (σ : St), fX4_isDigit x0 σ = some (r, σ') → G K g 1 cs 0 [(0, vi x0)] [] (SH0, σ) := by
  intro σ h
  unfold fX4_isDigit at h
  refine g_iload_n hC dX4_isDigit_0 0 rfl rfl ?_
  refine g_bipush hC dX4_isDigit_1 bp_48 ?_
  refine g_icmp_lt hC dX4_isDigit_3 (tgt := 16) (by decide) (fun h9 => ?_) (fun h9 => ?_)
  · rw [if_pos h9] at h
    refine g_iconst hC dX4_isDigit_16 ok_0 ?_
    exact ret_z h hR (by decide) dX4_isDigit_17
  · rw [if_neg h9] at h
    refine g_iload_n hC dX4_isDigit_6 0 rfl rfl ?_
    refine g_bipush hC dX4_isDigit_7 bp_57 ?_
    refine g_icmp_gt hC dX4_isDigit_9 (tgt := 16) (by decide) (fun h9 => ?_) (fun h9 => ?_)
    · rw [if_pos h9] at h
      refine g_iconst hC dX4_isDigit_16 ok_0 ?_
      exact ret_z h hR (by decide) dX4_isDigit_17
    · rw [if_neg h9] at h
      refine g_iconst hC dX4_isDigit_12 ok_1 ?_
      refine g_goto hC dX4_isDigit_13 (tgt := 17) (by decide) ?_
      exact ret_z h hR (by decide) dX4_isDigit_17
theorem tX4_isDigit {l : Launch} {g : GT} {x0 : Int} {σ σ' : St} {r : Int} (h : fX4_isDigit x0 σ = some (r, σ')) : Cn l g yX4_isDigit cX4_isDigit 1 (some .boolean) 0 0 0 [vi x0] (SH0, σ) (some (vi r)) (SH0, σ') :=
  Cn.ofZ (by decide) (Nat.le_of_ble_eq_true rfl) (fun K e hC hR => (bX4_isDigit_0 hC ⟨Nat.le_refl _, Nat.le_refl _⟩ hR _ h))
theorem dX4_readNumber_0 : decode cX4_readNumber 0 = .ok (.iconst 0, 1) := by decide +kernel
theorem dX4_readNumber_1 : decode cX4_readNumber 1 = .ok (.istore_n 1, 1) := by decide +kernel
theorem dX4_readNumber_2 : decode cX4_readNumber 2 = .ok (.iconst 0, 1) := by decide +kernel
theorem dX4_readNumber_3 : decode cX4_readNumber 3 = .ok (.istore_n 2, 1) := by decide +kernel
theorem dX4_readNumber_4 : decode cX4_readNumber 4 = .ok (.iload_n 2, 1) := by decide +kernel
theorem dX4_readNumber_5 : decode cX4_readNumber 5 = .ok (.iconst 4, 1) := by decide +kernel
theorem dX4_readNumber_6 : decode cX4_readNumber 6 = .ok (.if_icmp .ge 42, 3) := by decide +kernel
theorem dX4_readNumber_9 : decode cX4_readNumber 9 = .ok (.aload_n 0, 1) := by decide +kernel
theorem dX4_readNumber_10 : decode cX4_readNumber 10 = .ok (.invokevirtual 64, 3) := by decide +kernel
theorem dX4_readNumber_13 : decode cX4_readNumber 13 = .ok (.invokestatic 72, 3) := by decide +kernel
theorem dX4_readNumber_16 : decode cX4_readNumber 16 = .ok (.ifCond .eq 32, 3) := by decide +kernel
theorem dX4_readNumber_19 : decode cX4_readNumber 19 = .ok (.iload_n 1, 1) := by decide +kernel
theorem dX4_readNumber_20 : decode cX4_readNumber 20 = .ok (.bipush 10, 2) := by decide +kernel
theorem dX4_readNumber_22 : decode cX4_readNumber 22 = .ok (.imul, 1) := by decide +kernel
theorem dX4_readNumber_23 : decode cX4_readNumber 23 = .ok (.aload_n 0, 1) := by decide +kernel
theorem dX4_readNumber_24 : decode cX4_readNumber 24 = .ok (.invokevirtual 64, 3) := by decide +kernel
theorem dX4_readNumber_27 : decode cX4_readNumber 27 = .ok (.iadd, 1) := by decide +kernel
theorem dX4_readNumber_28 : decode cX4_readNumber 28 = .ok (.bipush 48, 2) := by decide +kernel
theorem dX4_readNumber_30 : decode cX4_readNumber 30 = .ok (.isub, 1) := by decide +kernel
theorem dX4_readNumber_31 : decode cX4_readNumber 31 = .ok (.istore_n 1, 1) := by decide +kernel
theorem dX4_readNumber_32 : decode cX4_readNumber 32 = .ok (.aload_n 0, 1) := by decide +kernel
theorem dX4_readNumber_33 : decode cX4_readNumber 33 = .ok (.dup, 1) := by decide +kernel
theorem dX4_readNumber_34 : decode cX4_readNumber 34 = .ok (.getfield 29, 3) := by decide +kernel
theorem dX4_readNumber_37 : decode cX4_readNumber 37 = .ok (.iconst 1, 1) := by decide +kernel
theorem dX4_readNumber_38 : decode cX4_readNumber 38 = .ok (.iadd, 1) := by decide +kernel
theorem dX4_readNumber_39 : decode cX4_readNumber 39 = .ok (.putfield 29, 3) := by decide +kernel
theorem dX4_readNumber_42 : decode cX4_readNumber 42 = .ok (.iinc 2 1, 3) := by decide +kernel
theorem dX4_readNumber_45 : decode cX4_readNumber 45 = .ok (.goto (-41), 3) := by decide +kernel
theorem dX4_readNumber_48 : decode cX4_readNumber 48 = .ok (.aload_n 0, 1) := by decide +kernel
theorem dX4_readNumber_49 : decode cX4_readNumber 49 = .ok (.iload_n 1, 1) := by decide +kernel
theorem dX4_readNumber_50 : decode cX4_readNumber 50 = .ok (.invokevirtual 57, 3) := by decide +kernel
theorem dX4_readNumber_53 : decode cX4_readNumber 53 = .ok (.iconst 1, 1) := by decide +kernel
theorem dX4_readNumber_54 : decode cX4_readNumber 54 = .ok (.ireturn, 1) := by decide +kernel
theorem bX4_readNumber_48 {K : KT} {g : GT} {cm sm : Nat} {cs : Nat × Nat} {c0 : Nat} {r : Int} {σ' : St} (hC : Ctx K g RX4 cX4_readNumber 3 1 cm sm) (hcs : cs.1 ≤ cm ∧ cs.2 ≤ sm) (h0 : isO 4 c0 = true) (hR : RetZ K g cX4_readNumber 3 cs r (SH0, σ')) : ∀ (x1 : Int) (σ : St), fX4_readNumber_48 c0 x1 σ = some (r, σ') → G K g 3 cs 48 [(0, vr c0), (1, vi x1)] [] (SH0, σ) := by
  intro x1 σ h
  unfold fX4_readNumber_48 at h
  refine g_aload_n hC dX4_readNumber_48 0 rfl rfl ?_
  refine g_iload_n hC dX4_readNumber_49 1 rfl rfl ?_
  obtain ⟨s1, e1, h⟩ := of_bind h
  try dsimp only at h
  refine s_callVv hC dX4_readNumber_50 (tX4_emit h0 e1) miX4_emit mvX4_emit mlRX4_57 (isO_spec h0) vc_4 rfl rfl (Nat.le_of_ble_eq_true rfl) (Nat.le_of_ble_eq_true rfl) (Nat.le_of_ble_eq_true rfl) hcs ?_
  refine g_iconst hC dX4_readNumber_53 ok_1 ?_
  exact ret_z h hR (by decide) dX4_readNumber_54
theorem bX4_readNumber_4 {K : KT} {g : GT} {cm sm : Nat} {cs : Nat × Nat} {c0 : Nat} {r : Int} {σ' : St} (hC : Ctx K g RX4 cX4_readNumber 3 1 cm sm) (hcs : cs.1 ≤ cm ∧ cs.2 ≤ sm) (h0 : isO 4 c0 = true) (hR : RetZ K g cX4_readNumber 3 cs r (SH0, σ')) : ∀ (n : Nat) (x1 : Int) (x2 : Int) (σ : St), fX4_readNumber_4 c0 n x1 x2 σ = some (r, σ') → G K g 3 cs 4 [(0, vr c0), (1, vi x1), (2, vi x2)] [] (SH0, σ) := by
  intro n
  induction n with
  | zero =>
    intro x1 x2 σ h
    rw [fX4_readNumber_4.eq_1] at h
    cases h
  | succ n ih =>
    intro x1 x2 σ h
    rw [fX4_readNumber_4.eq_2] at h
    refine g_iload_n hC dX4_readNumber_4 2 rfl rfl ?_
    refine g_iconst hC dX4_readNumber_5 ok_4 ?_
    refine g_icmp_ge hC dX4_readNumber_6 (tgt := 48) (by decide) (fun h9 => ?_) (fun h9 => ?_)
    · rw [if_pos h9] at h
      exact g_pick [0, 1] rfl (bX4_readNumber_48 hC hcs h0 hR _ _ h)
    · rw [if_neg h9] at h
      refine g_aload_n hC dX4_readNumber_9 0 rfl rfl ?_
      obtain ⟨⟨r1, s1⟩, e1, h⟩ := of_bind h
      try dsimp only at h
      refine s_callVi hC dX4_readNumber_10 (tX4_next h0 e1) miX4_next mvX4_next mlRX4_64 (isO_spec h0) vc_4 rfl rfl (Nat.le_of_ble_eq_true rfl) (Nat.le_of_ble_eq_true rfl) (Nat.le_of_ble_eq_true rfl) hcs ?_
      obtain ⟨⟨r2, s2⟩, e2, h⟩ := of_bind h
      try dsimp only at h
      refine s_callSi hC dX4_readNumber_13 (tX4_isDigit e2) miX4_isDigit msX4_isDigit mlRX4_72 rfl rfl (Nat.le_of_ble_eq_true rfl) (Nat.le_of_ble_eq_true rfl) (Nat.le_of_ble_eq_true rfl) hcs ?_
      refine g_if_eq hC dX4_readNumber_16 (tgt := 48) (by decide) (fun h9 => ?_) (fun h9 => ?_)
      · rw [if_pos h9] at h
        exact g_pick [0, 1] rfl (bX4_readNumber_48 hC hcs h0 hR _ _ h)
      · rw [if_neg h9] at h
        refine g_iload_n hC dX4_readNumber_19 1 rfl rfl ?_
        refine g_bipush hC dX4_readNumber_20 bp_10 ?_
        refine g_imul hC dX4_readNumber_22 ?_
        refine g_aload_n hC dX4_readNumber_23 0 rfl rfl ?_
        obtain ⟨⟨r3, s3⟩, e3, h⟩ := of_bind h
        try dsimp only at h
        refine s_callVi hC dX4_readNumber_24 (tX4_next h0 e3) miX4_next mvX4_next mlRX4_64 (isO_spec h0) vc_4 rfl rfl (Nat.le_of_ble_eq_true rfl) (Nat.le_of_ble_eq_true rfl) (Nat.le_of_ble_eq_true rfl) hcs ?_
        refine g_iadd hC dX4_readNumber_27 ?_
        refine g_bipush hC dX4_readNumber_28 bp_48 ?_
        refine g_isub hC dX4_readNumber_30 ?_
        refine g_istore_n hC dX4_readNumber_31 rfl (Nat.le_of_ble_eq_true rfl) rfl ?_
        refine g_aload_n hC dX4_readNumber_32 1 rfl rfl ?_
        refine g_dup hC dX4_readNumber_33 rfl ?_
        refine g_geti hC dX4_readNumber_34 lfRX4_29 (isO_spec h0) (ft_4_6 h0) ?_
        refine g_iconst hC dX4_readNumber_37 ok_1 ?_
        refine g_iadd hC dX4_readNumber_38 ?_
        refine g_puti hC dX4_readNumber_39 lfRX4_29 fp_4_6 (isO_spec h0) (ft_4_6 h0) ?_
        refine g_iinc hC dX4_readNumber_42 2 rfl (Nat.le_of_ble_eq_true rfl) rfl ?_
        refine g_goto hC dX4_readNumber_45 (tgt := 4) (by decide) ?_
        exact g_pick [2, 1, 0] rfl (ih _ _ _ h)
theorem bX4_readNumber_0 {K : KT} {g : GT} {cm sm : Nat} {cs : Nat × Nat} {c0 : Nat} {r : Int} {σ' : St} (hC : Ctx K g RX4 cX4_readNumber 3 1 cm sm) (hcs : cs.1 ≤ cm ∧ cs.2 ≤ sm) (h0 : isO 4 c0 = true) (hR : RetZ K g cX4_readNumber 3 cs r (SH0, σ')) : ∀ (σ : St), fX4_readNumber c0 σ = some (r, σ') → G K g 3 cs 0 [(0, vr c0)] [] (SH0, σ) := by
  intro σ h
  unfold fX4_readNumber at h
  refine g_iconst hC dX4_readNumber_0 ok_0 ?_
  refine g_istore_n hC dX4_readNumber_1 rfl (Nat.le_of_ble_eq_true rfl) rfl ?_
  refine g_iconst hC dX4_readNumber_2 ok_0 ?_
  refine g_istore_n hC dX4_readNumber_3 rfl (Nat.le_of_ble_eq_true rfl) rfl ?_
  exact g_pick [2, 1, 0] rfl (bX4_readNumber_4 hC hcs h0 hR _ _ _ _ h)
theorem tX4_readNumber {l : Launch} {g : GT} {c0 : Nat} {σ σ' : St} {r : Int} (h0 : isO 4 c0 = true) (h : fX4_readNumber c0 σ = some (r, σ')) : Cn l g yX4_readNumber cX4_readNumber 3 (some .boolean) 1 0 0 [vr c0] (SH0, σ) (some (vi r)) (SH0, σ') :=
  Cn.ofZ (by decide) (Nat.le_of_ble_eq_true rfl) (fun K e hC hR => (bX4_readNumber_0 hC ⟨Nat.le_refl _, Nat.le_refl _⟩ h0 hR _ h))
theorem dX4_takes_0 : decode cX4_takes 0 = .ok (.aload_n 0, 1) := by decide +kernel
theorem dX4_takes_1 : decode cX4_takes 1 = .ok (.invokevirtual 64, 3) := by decide +kernel
theorem dX4_takes_4 : decode cX4_takes 4 = .ok (.iload_n 1, 1) := by decide +kernel
theorem dX4_takes_5 : decode cX4_takes 5 = .ok (.if_icmp .eq 5, 3) := by decide +kernel
theorem dX4_takes_8 : decode cX4_takes 8 = .ok (.iconst 0, 1) := by decide +kernel
theorem dX4_takes_9 : decode cX4_takes 9 = .ok (.ireturn, 1) := by decide +kernel
theorem dX4_takes_10 : decode cX4_takes 10 = .ok (.aload_n 0, 1) := by decide +kernel
theorem dX4_takes_11 : decode cX4_takes 11 = .ok (.dup, 1) := by decide +kernel
theorem dX4_takes_12 : decode cX4_takes 12 = .ok (.getfield 29, 3) := by decide +kernel
theorem dX4_takes_15 : decode cX4_takes 15 = .ok (.iconst 1, 1) := by decide +kernel
theorem dX4_takes_16 : decode cX4_takes 16 = .ok (.iadd, 1) := by decide +kernel
theorem dX4_takes_17 : decode cX4_takes 17 = .ok (.putfield 29, 3) := by decide +kernel
theorem dX4_takes_20 : decode cX4_takes 20 = .ok (.iconst 1, 1) := by decide +kernel
theorem dX4_takes_21 : decode cX4_takes 21 = .ok (.ireturn, 1) := by decide +kernel
theorem bX4_takes_0 {K : KT} {g : GT} {cm sm : Nat} {cs : Nat × Nat} {c0 : Nat} {x1 : Int} {r : Int} {σ' : St} (hC : Ctx K g RX4 cX4_takes 2 1 cm sm) (hcs : cs.1 ≤ cm ∧ cs.2 ≤ sm) (h0 : isO 4 c0 = true) (hR : RetZ K g cX4_takes 2 cs r (SH0, σ')) : ∀ (σ : St), fX4_takes c0 x1 σ = some (r, σ') → G K g 2 cs 0 [(0, vr c0), (1, vi x1)] [] (SH0, σ) := by
  intro σ h
  unfold fX4_takes at h
  refine g_aload_n hC dX4_takes_0 0 rfl rfl ?_
  obtain ⟨⟨r1, s1⟩, e1, h⟩ := of_bind h
  try dsimp only at h
  refine s_callVi hC dX4_takes_1 (tX4_next h0 e1) miX4_next mvX4_next mlRX4_64 (isO_spec h0) vc_4 rfl rfl (Nat.le_of_ble_eq_true rfl) (Nat.le_of_ble_eq_true rfl) (Nat.le_of_ble_eq_true rfl) hcs ?_
  refine g_iload_n hC dX4_takes_4 1 rfl rfl ?_
  refine g_icmp_eq hC dX4_takes_5 (tgt := 10) (by decide) (fun h9 => ?_) (fun h9 => ?_)
  · rw [if_pos h9] at h
    refine g_aload_n hC dX4_takes_10 0 rfl rfl ?_
    refine g_dup hC dX4_takes_11 rfl ?_
    refine g_geti hC dX4_takes_12 lfRX4_29 (isO_spec h0) (ft_4_6 h0) ?_
    refine g_iconst hC dX4_takes_15 ok_1 ?_
    refine g_iadd hC dX4_takes_16 ?_
    refine g_puti hC dX4_takes_17 lfRX4_29 fp_4_6 (isO_spec h0) (ft_4_6 h0) ?_
    refine g_iconst hC dX4_takes_20 ok_1 ?_
    exact ret_z h hR (by decide) dX4_takes_21
  · rw [if_neg h9] at h
    refine g_iconst hC dX4_takes_8 ok_0 ?_
    exact ret_z h hR (by decide) dX4_takes_9
theorem tX4_takes {l : Launch} {g : GT} {c0 : Nat} {x1 : Int} {σ σ' : St} {r : Int} (h0 : isO 4 c0 = true) (h : fX4_takes c0 x1 σ = some (r, σ')) : Cn l g yX4_takes cX4_takes 2 (some .boolean) 1 0 0 [vr c0, vi x1] (SH0, σ) (some (vi r)) (SH0, σ') :=
  Cn.ofZ (by decide) (Nat.le_of_ble_eq_true rfl) (fun K e hC hR => (bX4_takes_0 hC ⟨Nat.le_refl _, Nat.le_refl _⟩ h0 hR _ h))
