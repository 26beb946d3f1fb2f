/-! Walks (printed by my program). -/
theorem dX3_laysBack_0 : decode cX3_laysBack 0 = .ok (.iconst 0, 1) := by decide +kernel
theorem dX3_laysBack_1 : decode cX3_laysBack 1 = .ok (.istore_n 3, 1) := by decide +kernel
theorem dX3_laysBack_2 : decode cX3_laysBack 2 = .ok (.iload_n 3, 1) := by decide +kernel
theorem dX3_laysBack_3 : decode cX3_laysBack 3 = .ok (.aload_n 0, 1) := by decide +kernel
theorem dX3_laysBack_4 : decode cX3_laysBack 4 = .ok (.getfield 12, 3) := by decide +kernel
theorem dX3_laysBack_7 : decode cX3_laysBack 7 = .ok (.getfield 36, 3) := by decide +kernel
theorem dX3_laysBack_10 : decode cX3_laysBack 10 = .ok (.if_icmp .ge 54, 3) := by decide +kernel
theorem dX3_laysBack_13 : decode cX3_laysBack 13 = .ok (.aload_n 1, 1) := by decide +kernel
theorem dX3_laysBack_14 : decode cX3_laysBack 14 = .ok (.iload_n 3, 1) := by decide +kernel
theorem dX3_laysBack_15 : decode cX3_laysBack 15 = .ok (.iconst 1, 1) := by decide +kernel
theorem dX3_laysBack_16 : decode cX3_laysBack 16 = .ok (.aload_n 0, 1) := by decide +kernel
theorem dX3_laysBack_17 : decode cX3_laysBack 17 = .ok (.getfield 12, 3) := by decide +kernel
theorem dX3_laysBack_20 : decode cX3_laysBack 20 = .ok (.iload_n 3, 1) := by decide +kernel
theorem dX3_laysBack_21 : decode cX3_laysBack 21 = .ok (.iconst 1, 1) := by decide +kernel
theorem dX3_laysBack_22 : decode cX3_laysBack 22 = .ok (.invokevirtual 40, 3) := by decide +kernel
theorem dX3_laysBack_25 : decode cX3_laysBack 25 = .ok (.invokevirtual 44, 3) := by decide +kernel
theorem dX3_laysBack_28 : decode cX3_laysBack 28 = .ok (.aload_n 1, 1) := by decide +kernel
theorem dX3_laysBack_29 : decode cX3_laysBack 29 = .ok (.iload_n 3, 1) := by decide +kernel
theorem dX3_laysBack_30 : decode cX3_laysBack 30 = .ok (.iconst 2, 1) := by decide +kernel
theorem dX3_laysBack_31 : decode cX3_laysBack 31 = .ok (.aload_n 0, 1) := by decide +kernel
theorem dX3_laysBack_32 : decode cX3_laysBack 32 = .ok (.getfield 12, 3) := by decide +kernel
theorem dX3_laysBack_35 : decode cX3_laysBack 35 = .ok (.iload_n 3, 1) := by decide +kernel
theorem dX3_laysBack_36 : decode cX3_laysBack 36 = .ok (.iconst 2, 1) := by decide +kernel
theorem dX3_laysBack_37 : decode cX3_laysBack 37 = .ok (.invokevirtual 40, 3) := by decide +kernel
theorem dX3_laysBack_40 : decode cX3_laysBack 40 = .ok (.invokevirtual 44, 3) := by decide +kernel
theorem dX3_laysBack_43 : decode cX3_laysBack 43 = .ok (.aload_n 1, 1) := by decide +kernel
theorem dX3_laysBack_44 : decode cX3_laysBack 44 = .ok (.iload_n 3, 1) := by decide +kernel
theorem dX3_laysBack_45 : decode cX3_laysBack 45 = .ok (.iconst 3, 1) := by decide +kernel
theorem dX3_laysBack_46 : decode cX3_laysBack 46 = .ok (.aload_n 0, 1) := by decide +kernel
theorem dX3_laysBack_47 : decode cX3_laysBack 47 = .ok (.getfield 12, 3) := by decide +kernel
theorem dX3_laysBack_50 : decode cX3_laysBack 50 = .ok (.iload_n 3, 1) := by decide +kernel
theorem dX3_laysBack_51 : decode cX3_laysBack 51 = .ok (.iconst 3, 1) := by decide +kernel
theorem dX3_laysBack_52 : decode cX3_laysBack 52 = .ok (.invokevirtual 40, 3) := by decide +kernel
theorem dX3_laysBack_55 : decode cX3_laysBack 55 = .ok (.invokevirtual 44, 3) := by decide +kernel
theorem dX3_laysBack_58 : decode cX3_laysBack 58 = .ok (.iinc 3 1, 3) := by decide +kernel
theorem dX3_laysBack_61 : decode cX3_laysBack 61 = .ok (.goto (-59), 3) := by decide +kernel
theorem dX3_laysBack_64 : decode cX3_laysBack 64 = .ok (.iconst 0, 1) := by decide +kernel
theorem dX3_laysBack_65 : decode cX3_laysBack 65 = .ok (.istore_n 3, 1) := by decide +kernel
theorem dX3_laysBack_66 : decode cX3_laysBack 66 = .ok (.iload_n 3, 1) := by decide +kernel
theorem dX3_laysBack_67 : decode cX3_laysBack 67 = .ok (.aload_n 0, 1) := by decide +kernel
theorem dX3_laysBack_68 : decode cX3_laysBack 68 = .ok (.getfield 12, 3) := by decide +kernel
theorem dX3_laysBack_71 : decode cX3_laysBack 71 = .ok (.getfield 48, 3) := by decide +kernel
theorem dX3_laysBack_74 : decode cX3_laysBack 74 = .ok (.if_icmp .ge 58, 3) := by decide +kernel
theorem dX3_laysBack_77 : decode cX3_laysBack 77 = .ok (.aload_n 1, 1) := by decide +kernel
theorem dX3_laysBack_78 : decode cX3_laysBack 78 = .ok (.iload_n 3, 1) := by decide +kernel
theorem dX3_laysBack_79 : decode cX3_laysBack 79 = .ok (.bipush 8, 2) := by decide +kernel
theorem dX3_laysBack_81 : decode cX3_laysBack 81 = .ok (.aload_n 0, 1) := by decide +kernel
theorem dX3_laysBack_82 : decode cX3_laysBack 82 = .ok (.getfield 12, 3) := by decide +kernel
theorem dX3_laysBack_85 : decode cX3_laysBack 85 = .ok (.iload_n 3, 1) := by decide +kernel
theorem dX3_laysBack_86 : decode cX3_laysBack 86 = .ok (.bipush 8, 2) := by decide +kernel
theorem dX3_laysBack_88 : decode cX3_laysBack 88 = .ok (.invokevirtual 40, 3) := by decide +kernel
theorem dX3_laysBack_91 : decode cX3_laysBack 91 = .ok (.invokevirtual 44, 3) := by decide +kernel
theorem dX3_laysBack_94 : decode cX3_laysBack 94 = .ok (.aload_n 1, 1) := by decide +kernel
theorem dX3_laysBack_95 : decode cX3_laysBack 95 = .ok (.iload_n 3, 1) := by decide +kernel
theorem dX3_laysBack_96 : decode cX3_laysBack 96 = .ok (.iconst 5, 1) := by decide +kernel
theorem dX3_laysBack_97 : decode cX3_laysBack 97 = .ok (.aload_n 0, 1) := by decide +kernel
theorem dX3_laysBack_98 : decode cX3_laysBack 98 = .ok (.getfield 12, 3) := by decide +kernel
theorem dX3_laysBack_101 : decode cX3_laysBack 101 = .ok (.iload_n 3, 1) := by decide +kernel
theorem dX3_laysBack_102 : decode cX3_laysBack 102 = .ok (.iconst 5, 1) := by decide +kernel
theorem dX3_laysBack_103 : decode cX3_laysBack 103 = .ok (.invokevirtual 40, 3) := by decide +kernel
theorem dX3_laysBack_106 : decode cX3_laysBack 106 = .ok (.invokevirtual 44, 3) := by decide +kernel
theorem dX3_laysBack_109 : decode cX3_laysBack 109 = .ok (.aload_n 1, 1) := by decide +kernel
theorem dX3_laysBack_110 : decode cX3_laysBack 110 = .ok (.iload_n 3, 1) := by decide +kernel
theorem dX3_laysBack_111 : decode cX3_laysBack 111 = .ok (.bipush 6, 2) := by decide +kernel
theorem dX3_laysBack_113 : decode cX3_laysBack 113 = .ok (.aload_n 0, 1) := by decide +kernel
theorem dX3_laysBack_114 : decode cX3_laysBack 114 = .ok (.getfield 12, 3) := by decide +kernel
theorem dX3_laysBack_117 : decode cX3_laysBack 117 = .ok (.iload_n 3, 1) := by decide +kernel
theorem dX3_laysBack_118 : decode cX3_laysBack 118 = .ok (.bipush 6, 2) := by decide +kernel
theorem dX3_laysBack_120 : decode cX3_laysBack 120 = .ok (.invokevirtual 40, 3) := by decide +kernel
theorem dX3_laysBack_123 : decode cX3_laysBack 123 = .ok (.invokevirtual 44, 3) := by decide +kernel
theorem dX3_laysBack_126 : decode cX3_laysBack 126 = .ok (.iinc 3 1, 3) := by decide +kernel
theorem dX3_laysBack_129 : decode cX3_laysBack 129 = .ok (.goto (-63), 3) := by decide +kernel
theorem dX3_laysBack_132 : decode cX3_laysBack 132 = .ok (.aload_n 0, 1) := by decide +kernel
theorem dX3_laysBack_133 : decode cX3_laysBack 133 = .ok (.getfield 18, 3) := by decide +kernel
theorem dX3_laysBack_136 : decode cX3_laysBack 136 = .ok (.iconst 0, 1) := by decide +kernel
theorem dX3_laysBack_137 : decode cX3_laysBack 137 = .ok (.aload_n 2, 1) := by decide +kernel
theorem dX3_laysBack_138 : decode cX3_laysBack 138 = .ok (.iconst 0, 1) := by decide +kernel
theorem dX3_laysBack_139 : decode cX3_laysBack 139 = .ok (.iconst 5, 1) := by decide +kernel
theorem dX3_laysBack_140 : decode cX3_laysBack 140 = .ok (.invokestatic 26, 3) := by decide +kernel
theorem dX3_laysBack_143 : decode cX3_laysBack 143 = .ok (.return_, 1) := by decide +kernel
theorem bX3_laysBack_66 {K : KT} {g : GT} {cm sm : Nat} {cs : Nat × Nat} {c0 : Nat} {c1 : Nat} {c2 : Nat} {σ' : St} (hC : Ctx K g RX3 cX3_laysBack 4 1 cm sm) (hcs : cs.1 ≤ cm ∧ cs.2 ≤ sm) (h0 : isO 3 c0 = true) (h1 : isO 2 c1 = true) (h2 : isA 1 c2 = true) (hR : RetV K g cX3_laysBack 4 cs (SH0, σ')) : ∀ (n : Nat) (x3 : Int) (σ : St), fX3_laysBack_66 c0 c1 c2 n x3 σ = some σ' → G K g 4 cs 66 [(0, vr c0), (1, vr c1), (2, vr c2), (3, vi x3)] [] (SH0, σ) := by
  intro n
  induction n with
  | zero =>
    intro x3 σ h
    rw [fX3_laysBack_66.eq_1] at h
    cases h
  | succ n ih =>
    intro x3 σ h
    rw [fX3_laysBack_66.eq_2] at h
    refine g_iload_n hC dX3_laysBack_66 3 rfl rfl ?_
    refine g_aload_n hC dX3_laysBack_67 0 rfl rfl ?_
    refine g_getr hC dX3_laysBack_68 lfRX3_12 (isO_spec h0) (ft_3_0 h0) ?_
    refine g_geti hC dX3_laysBack_71 lfRX3_48 (isO_spec (rf_3_0 h0)) (ft_2_3 (rf_3_0 h0)) ?_
    refine g_icmp_ge hC dX3_laysBack_74 (tgt := 132) (by decide) (fun h9 => ?_) (fun h9 => ?_)
    · rw [if_pos h9] at h
      refine g_aload_n hC dX3_laysBack_132 0 rfl rfl ?_
      refine g_getr hC dX3_laysBack_133 lfRX3_18 (isO_spec h0) (ft_3_1 h0) ?_
      refine g_iconst hC dX3_laysBack_136 ok_0 ?_
      refine g_aload_n hC dX3_laysBack_137 2 rfl rfl ?_
      refine g_iconst hC dX3_laysBack_138 ok_0 ?_
      refine g_iconst hC dX3_laysBack_139 ok_5 ?_
      obtain ⟨b9, h⟩ := of_ite h
      refine g_copyi hC dX3_laysBack_140 lmRX3_26 ac_1 ac_2 ac_3 (Nat.le_of_ble_eq_true rfl) (Nat.le_of_ble_eq_true rfl) (isA_spec (rf_3_1 h0)) (isA_spec h2) b9 ?_
      exact ret_v h hR dX3_laysBack_143
    · rw [if_neg h9] at h
      refine g_aload_n hC dX3_laysBack_77 1 rfl rfl ?_
      refine g_iload_n hC dX3_laysBack_78 3 rfl rfl ?_
      refine g_bipush hC dX3_laysBack_79 bp_8 ?_
      refine g_aload_n hC dX3_laysBack_81 0 rfl rfl ?_
      refine g_getr hC dX3_laysBack_82 lfRX3_12 (isO_spec h0) (ft_3_0 h0) ?_
      refine g_iload_n hC dX3_laysBack_85 3 rfl rfl ?_
      refine g_bipush hC dX3_laysBack_86 bp_8 ?_
      obtain ⟨⟨r1, s1⟩, e1, h⟩ := of_bind h
      try dsimp only at h
      refine s_callVi hC dX3_laysBack_88 (tX2_number (rf_3_0 h0) e1) miX2_number mvX2_number mlRX3_40 (isO_spec (rf_3_0 h0)) vc_2 rfl rfl (Nat.le_of_ble_eq_true rfl) (Nat.le_of_ble_eq_true rfl) (Nat.le_of_ble_eq_true rfl) hcs ?_
      obtain ⟨s2, e2, h⟩ := of_bind h
      try dsimp only at h
      refine s_callVv hC dX3_laysBack_91 (tX2_become h1 e2) miX2_become mvX2_become mlRX3_44 (isO_spec h1) vc_2 rfl rfl (Nat.le_of_ble_eq_true rfl) (Nat.le_of_ble_eq_true rfl) (Nat.le_of_ble_eq_true rfl) hcs ?_
      refine g_aload_n hC dX3_laysBack_94 1 rfl rfl ?_
      refine g_iload_n hC dX3_laysBack_95 3 rfl rfl ?_
      refine g_iconst hC dX3_laysBack_96 ok_5 ?_
      refine g_aload_n hC dX3_laysBack_97 0 rfl rfl ?_
      refine g_getr hC dX3_laysBack_98 lfRX3_12 (isO_spec h0) (ft_3_0 h0) ?_
      refine g_iload_n hC dX3_laysBack_101 3 rfl rfl ?_
      refine g_iconst hC dX3_laysBack_102 ok_5 ?_
      obtain ⟨⟨r3, s3⟩, e3, h⟩ := of_bind h
      try dsimp only at h
      refine s_callVi hC dX3_laysBack_103 (tX2_number (rf_3_0 h0) e3) miX2_number mvX2_number mlRX3_40 (isO_spec (rf_3_0 h0)) vc_2 rfl rfl (Nat.le_of_ble_eq_true rfl) (Nat.le_of_ble_eq_true rfl) (Nat.le_of_ble_eq_true rfl) hcs ?_
      obtain ⟨s4, e4, h⟩ := of_bind h
      try dsimp only at h
      refine s_callVv hC dX3_laysBack_106 (tX2_become h1 e4) miX2_become mvX2_become mlRX3_44 (isO_spec h1) vc_2 rfl rfl (Nat.le_of_ble_eq_true rfl) (Nat.le_of_ble_eq_true rfl) (Nat.le_of_ble_eq_true rfl) hcs ?_
      refine g_aload_n hC dX3_laysBack_109 1 rfl rfl ?_
      refine g_iload_n hC dX3_laysBack_110 3 rfl rfl ?_
      refine g_bipush hC dX3_laysBack_111 bp_6 ?_
      refine g_aload_n hC dX3_laysBack_113 0 rfl rfl ?_
      refine g_getr hC dX3_laysBack_114 lfRX3_12 (isO_spec h0) (ft_3_0 h0) ?_
      refine g_iload_n hC dX3_laysBack_117 3 rfl rfl ?_
      refine g_bipush hC dX3_laysBack_118 bp_6 ?_
      obtain ⟨⟨r5, s5⟩, e5, h⟩ := of_bind h
      try dsimp only at h
      refine s_callVi hC dX3_laysBack_120 (tX2_number (rf_3_0 h0) e5) miX2_number mvX2_number mlRX3_40 (isO_spec (rf_3_0 h0)) vc_2 rfl rfl (Nat.le_of_ble_eq_true rfl) (Nat.le_of_ble_eq_true rfl) (Nat.le_of_ble_eq_true rfl) hcs ?_
      obtain ⟨s6, e6, h⟩ := of_bind h
      try dsimp only at h
      refine s_callVv hC dX3_laysBack_123 (tX2_become h1 e6) miX2_become mvX2_become mlRX3_44 (isO_spec h1) vc_2 rfl rfl (Nat.le_of_ble_eq_true rfl) (Nat.le_of_ble_eq_true rfl) (Nat.le_of_ble_eq_true rfl) hcs ?_
      refine g_iinc hC dX3_laysBack_126 3 rfl (Nat.le_of_ble_eq_true rfl) rfl ?_
      refine g_goto hC dX3_laysBack_129 (tgt := 66) (by decide) ?_
      exact g_pick [1, 2, 3, 0] rfl (ih _ _ h)
theorem bX3_laysBack_2 {K : KT} {g : GT} {cm sm : Nat} {cs : Nat × Nat} {c0 : Nat} {c1 : Nat} {c2 : Nat} {σ' : St} (hC : Ctx K g RX3 cX3_laysBack 4 1 cm sm) (hcs : cs.1 ≤ cm ∧ cs.2 ≤ sm) (h0 : isO 3 c0 = true) (h1 : isO 2 c1 = true) (h2 : isA 1 c2 = true) (hR : RetV K g cX3_laysBack 4 cs (SH0, σ')) : ∀ (n : Nat) (x3 : Int) (σ : St), fX3_laysBack_2 c0 c1 c2 n x3 σ = some σ' → G K g 4 cs 2 [(0, vr c0), (1, vr c1), (2, vr c2), (3, vi x3)] [] (SH0, σ) := by
  intro n
  induction n with
  | zero =>
    intro x3 σ h
    rw [fX3_laysBack_2.eq_1] at h
    cases h
  | succ n ih =>
    intro x3 σ h
    rw [fX3_laysBack_2.eq_2] at h
    refine g_iload_n hC dX3_laysBack_2 3 rfl rfl ?_
    refine g_aload_n hC dX3_laysBack_3 0 rfl rfl ?_
    refine g_getr hC dX3_laysBack_4 lfRX3_12 (isO_spec h0) (ft_3_0 h0) ?_
    refine g_geti hC dX3_laysBack_7 lfRX3_36 (isO_spec (rf_3_0 h0)) (ft_2_2 (rf_3_0 h0)) ?_
    refine g_icmp_ge hC dX3_laysBack_10 (tgt := 64) (by decide) (fun h9 => ?_) (fun h9 => ?_)
    · rw [if_pos h9] at h
      refine g_iconst hC dX3_laysBack_64 ok_0 ?_
      refine g_istore_n hC dX3_laysBack_65 rfl (Nat.le_of_ble_eq_true rfl) rfl ?_
      exact g_pick [1, 2, 3, 0] rfl (bX3_laysBack_66 hC hcs h0 h1 h2 hR _ _ _ h)
    · rw [if_neg h9] at h
      refine g_aload_n hC dX3_laysBack_13 1 rfl rfl ?_
      refine g_iload_n hC dX3_laysBack_14 3 rfl rfl ?_
      refine g_iconst hC dX3_laysBack_15 ok_1 ?_
      refine g_aload_n hC dX3_laysBack_16 0 rfl rfl ?_
      refine g_getr hC dX3_laysBack_17 lfRX3_12 (isO_spec h0) (ft_3_0 h0) ?_
      refine g_iload_n hC dX3_laysBack_20 3 rfl rfl ?_
      refine g_iconst hC dX3_laysBack_21 ok_1 ?_
      obtain ⟨⟨r1, s1⟩, e1, h⟩ := of_bind h
      try dsimp only at h
      refine s_callVi hC dX3_laysBack_22 (tX2_number (rf_3_0 h0) e1) miX2_number mvX2_number mlRX3_40 (isO_spec (rf_3_0 h0)) vc_2 rfl rfl (Nat.le_of_ble_eq_true rfl) (Nat.le_of_ble_eq_true rfl) (Nat.le_of_ble_eq_true rfl) hcs ?_
      obtain ⟨s2, e2, h⟩ := of_bind h
      try dsimp only at h
      refine s_callVv hC dX3_laysBack_25 (tX2_become h1 e2) miX2_become mvX2_become mlRX3_44 (isO_spec h1) vc_2 rfl rfl (Nat.le_of_ble_eq_true rfl) (Nat.le_of_ble_eq_true rfl) (Nat.le_of_ble_eq_true rfl) hcs ?_
      refine g_aload_n hC dX3_laysBack_28 1 rfl rfl ?_
      refine g_iload_n hC dX3_laysBack_29 3 rfl rfl ?_
      refine g_iconst hC dX3_laysBack_30 ok_2 ?_
      refine g_aload_n hC dX3_laysBack_31 0 rfl rfl ?_
      refine g_getr hC dX3_laysBack_32 lfRX3_12 (isO_spec h0) (ft_3_0 h0) ?_
      refine g_iload_n hC dX3_laysBack_35 3 rfl rfl ?_
      refine g_iconst hC dX3_laysBack_36 ok_2 ?_
      obtain ⟨⟨r3, s3⟩, e3, h⟩ := of_bind h
      try dsimp only at h
      refine s_callVi hC dX3_laysBack_37 (tX2_number (rf_3_0 h0) e3) miX2_number mvX2_number mlRX3_40 (isO_spec (rf_3_0 h0)) vc_2 rfl rfl (Nat.le_of_ble_eq_true rfl) (Nat.le_of_ble_eq_true rfl) (Nat.le_of_ble_eq_true rfl) hcs ?_
      obtain ⟨s4, e4, h⟩ := of_bind h
      try dsimp only at h
      refine s_callVv hC dX3_laysBack_40 (tX2_become h1 e4) miX2_become mvX2_become mlRX3_44 (isO_spec h1) vc_2 rfl rfl (Nat.le_of_ble_eq_true rfl) (Nat.le_of_ble_eq_true rfl) (Nat.le_of_ble_eq_true rfl) hcs ?_
      refine g_aload_n hC dX3_laysBack_43 1 rfl rfl ?_
      refine g_iload_n hC dX3_laysBack_44 3 rfl rfl ?_
      refine g_iconst hC dX3_laysBack_45 ok_3 ?_
      refine g_aload_n hC dX3_laysBack_46 0 rfl rfl ?_
      refine g_getr hC dX3_laysBack_47 lfRX3_12 (isO_spec h0) (ft_3_0 h0) ?_
      refine g_iload_n hC dX3_laysBack_50 3 rfl rfl ?_
      refine g_iconst hC dX3_laysBack_51 ok_3 ?_
      obtain ⟨⟨r5, s5⟩, e5, h⟩ := of_bind h
      try dsimp only at h
      refine s_callVi hC dX3_laysBack_52 (tX2_number (rf_3_0 h0) e5) miX2_number mvX2_number mlRX3_40 (isO_spec (rf_3_0 h0)) vc_2 rfl rfl (Nat.le_of_ble_eq_true rfl) (Nat.le_of_ble_eq_true rfl) (Nat.le_of_ble_eq_true rfl) hcs ?_
      obtain ⟨s6, e6, h⟩ := of_bind h
      try dsimp only at h
      refine s_callVv hC dX3_laysBack_55 (tX2_become h1 e6) miX2_become mvX2_become mlRX3_44 (isO_spec h1) vc_2 rfl rfl (Nat.le_of_ble_eq_true rfl) (Nat.le_of_ble_eq_true rfl) (Nat.le_of_ble_eq_true rfl) hcs ?_
      refine g_iinc hC dX3_laysBack_58 3 rfl (Nat.le_of_ble_eq_true rfl) rfl ?_
      refine g_goto hC dX3_laysBack_61 (tgt := 2) (by decide) ?_
      exact g_pick [1, 2, 3, 0] rfl (ih _ _ h)
theorem bX3_laysBack_0 {K : KT} {g : GT} {cm sm : Nat} {cs : Nat × Nat} {c0 : Nat} {c1 : Nat} {c2 : Nat} {σ' : St} (hC : Ctx K g RX3 cX3_laysBack 4 1 cm sm) (hcs : cs.1 ≤ cm ∧ cs.2 ≤ sm) (h0 : isO 3 c0 = true) (h1 : isO 2 c1 = true) (h2 : isA 1 c2 = true) (hR : RetV K g cX3_laysBack 4 cs (SH0, σ')) : ∀ (σ : St), fX3_laysBack c0 c1 c2 σ = some σ' → G K g 4 cs 0 [(0, vr c0), (1, vr c1), (2, vr c2)] [] (SH0, σ) := by
  intro σ h
  unfold fX3_laysBack at h
  refine g_iconst hC dX3_laysBack_0 ok_0 ?_
  refine g_istore_n hC dX3_laysBack_1 rfl (Nat.le_of_ble_eq_true rfl) rfl ?_
  exact g_pick [1, 2, 3, 0] rfl (bX3_laysBack_2 hC hcs h0 h1 h2 hR _ _ _ h)
theorem tX3_laysBack {l : Launch} {g : GT} {c0 : Nat} {c1 : Nat} {c2 : Nat} {σ σ' : St} (h0 : isO 3 c0 = true) (h1 : isO 2 c1 = true) (h2 : isA 1 c2 = true) (h : fX3_laysBack c0 c1 c2 σ = some σ') : Cn l g yX3_laysBack cX3_laysBack 4 none 1 0 0 [vr c0, vr c1, vr c2] (SH0, σ) none (SH0, σ') :=
  Cn.ofV (by decide) (Nat.le_of_ble_eq_true rfl) (fun K e hC hR => (bX3_laysBack_0 hC ⟨Nat.le_refl _, Nat.le_refl _⟩ h0 h1 h2 hR _ h))
theorem dX9_back_0 : decode cX9_back 0 = .ok (.aload_n 0, 1) := by decide +kernel
theorem dX9_back_1 : decode cX9_back 1 = .ok (.getfield 58, 3) := by decide +kernel
theorem dX9_back_4 : decode cX9_back 4 = .ok (.getfield 275, 3) := by decide +kernel
theorem dX9_back_7 : decode cX9_back 7 = .ok (.ifCond .ne 6, 3) := by decide +kernel
theorem dX9_back_10 : decode cX9_back 10 = .ok (.bipush (-5), 2) := by decide +kernel
theorem dX9_back_12 : decode cX9_back 12 = .ok (.ireturn, 1) := by decide +kernel
theorem dX9_back_13 : decode cX9_back 13 = .ok (.aload_n 0, 1) := by decide +kernel
theorem dX9_back_14 : decode cX9_back 14 = .ok (.getfield 58, 3) := by decide +kernel
theorem dX9_back_17 : decode cX9_back 17 = .ok (.aload_n 0, 1) := by decide +kernel
theorem dX9_back_18 : decode cX9_back 18 = .ok (.getfield 10, 3) := by decide +kernel
theorem dX9_back_21 : decode cX9_back 21 = .ok (.aload_n 0, 1) := by decide +kernel
theorem dX9_back_22 : decode cX9_back 22 = .ok (.getfield 69, 3) := by decide +kernel
theorem dX9_back_25 : decode cX9_back 25 = .ok (.invokevirtual 279, 3) := by decide +kernel
theorem dX9_back_28 : decode cX9_back 28 = .ok (.aload_n 0, 1) := by decide +kernel
theorem dX9_back_29 : decode cX9_back 29 = .ok (.getfield 69, 3) := by decide +kernel
theorem dX9_back_32 : decode cX9_back 32 = .ok (.iconst 4, 1) := by decide +kernel
theorem dX9_back_33 : decode cX9_back 33 = .ok (.iaload, 1) := by decide +kernel
theorem dX9_back_34 : decode cX9_back 34 = .ok (.ireturn, 1) := by decide +kernel
theorem bX9_back_0 {K : KT} {g : GT} {cm sm : Nat} {cs : Nat × Nat} {c0 : Nat} {r : Int} {σ' : St} (hC : Ctx K g RX9 cX9_back 1 2 cm sm) (hcs : cs.1 ≤ cm ∧ cs.2 ≤ sm) (h0 : isO 9 c0 = true) (hR : RetI K g cX9_back 1 cs r (SH0, σ')) : ∀ (σ : St), fX9_back c0 σ = some (r, σ') → G K g 1 cs 0 [(0, vr c0)] [] (SH0, σ) := by
  intro σ h
  unfold fX9_back at h
  refine g_aload_n hC dX9_back_0 0 rfl rfl ?_
  refine g_getr hC dX9_back_1 lfRX9_58 (isO_spec h0) (ft_9_6 h0) ?_
  refine g_getz hC dX9_back_4 lfRX9_275 (isO_spec (rf_9_6 h0)) (ft_3_2 (rf_9_6 h0)) ?_
  refine g_if_ne hC dX9_back_7 (tgt := 13) (by decide) (fun h9 => ?_) (fun h9 => ?_)
  · rw [if_neg h9] at h
    refine g_aload_n hC dX9_back_13 0 rfl rfl ?_
    refine g_getr hC dX9_back_14 lfRX9_58 (isO_spec h0) (ft_9_6 h0) ?_
    refine g_aload_n hC dX9_back_17 0 rfl rfl ?_
    refine g_getr hC dX9_back_18 lfRX9_10 (isO_spec h0) (ft_9_0 h0) ?_
    refine g_aload_n hC dX9_back_21 0 rfl rfl ?_
    refine g_getr hC dX9_back_22 lfRX9_69 (isO_spec h0) (ft_9_9 h0) ?_
    obtain ⟨s1, e1, h⟩ := of_bind h
    try dsimp only at h
    refine s_callVv hC dX9_back_25 (tX3_laysBack (rf_9_6 h0) (rf_9_0 h0) (rf_9_9 h0) e1) miX3_laysBack mvX3_laysBack mlRX9_279 (isO_spec (rf_9_6 h0)) vc_3 rfl rfl (Nat.le_of_ble_eq_true rfl) (Nat.le_of_ble_eq_true rfl) (Nat.le_of_ble_eq_true rfl) hcs ?_
    refine g_aload_n hC dX9_back_28 0 rfl rfl ?_
    refine g_getr hC dX9_back_29 lfRX9_69 (isO_spec h0) (ft_9_9 h0) ?_
    refine g_iconst hC dX9_back_32 ok_4 ?_
    obtain ⟨b9, h⟩ := of_ite h
    refine g_iald hC dX9_back_33 (isA_spec (rf_9_9 h0)) b9 ?_
    exact ret_i h hR dX9_back_34
  · rw [if_pos h9] at h
    refine g_bipush hC dX9_back_10 bp_m5 ?_
    exact ret_i h hR dX9_back_12
theorem tX9_back {l : Launch} {g : GT} {c0 : Nat} {σ σ' : St} {r : Int} (h0 : isO 9 c0 = true) (h : fX9_back c0 σ = some (r, σ')) : Cn l g yX9_back cX9_back 1 (some .int) 2 0 0 [vr c0] (SH0, σ) (some (vi r)) (SH0, σ') :=
  Cn.ofI (by decide) (Nat.le_of_ble_eq_true rfl) (fun K e hC hR => (bX9_back_0 hC ⟨Nat.le_refl _, Nat.le_refl _⟩ h0 hR _ h))
theorem dX7_unsellsOne_0 : decode cX7_unsellsOne 0 = .ok (.iload_n 2, 1) := by decide +kernel
theorem dX7_unsellsOne_1 : decode cX7_unsellsOne 1 = .ok (.bipush 9, 2) := by decide +kernel
theorem dX7_unsellsOne_3 : decode cX7_unsellsOne 3 = .ok (.if_icmp .eq 9, 3) := by decide +kernel
theorem dX7_unsellsOne_6 : decode cX7_unsellsOne 6 = .ok (.iload_n 2, 1) := by decide +kernel
theorem dX7_unsellsOne_7 : decode cX7_unsellsOne 7 = .ok (.bipush (-2), 2) := by decide +kernel
theorem dX7_unsellsOne_9 : decode cX7_unsellsOne 9 = .ok (.if_icmp .ne 4, 3) := by decide +kernel
theorem dX7_unsellsOne_12 : decode cX7_unsellsOne 12 = .ok (.return_, 1) := by decide +kernel
theorem dX7_unsellsOne_13 : decode cX7_unsellsOne 13 = .ok (.aload_n 0, 1) := by decide +kernel
theorem dX7_unsellsOne_14 : decode cX7_unsellsOne 14 = .ok (.dup, 1) := by decide +kernel
theorem dX7_unsellsOne_15 : decode cX7_unsellsOne 15 = .ok (.getfield 51, 3) := by decide +kernel
theorem dX7_unsellsOne_18 : decode cX7_unsellsOne 18 = .ok (.iconst 1, 1) := by decide +kernel
theorem dX7_unsellsOne_19 : decode cX7_unsellsOne 19 = .ok (.iload_n 1, 1) := by decide +kernel
theorem dX7_unsellsOne_20 : decode cX7_unsellsOne 20 = .ok (.ishl, 1) := by decide +kernel
theorem dX7_unsellsOne_21 : decode cX7_unsellsOne 21 = .ok (.ior, 1) := by decide +kernel
theorem dX7_unsellsOne_22 : decode cX7_unsellsOne 22 = .ok (.putfield 51, 3) := by decide +kernel
theorem dX7_unsellsOne_25 : decode cX7_unsellsOne 25 = .ok (.iload_n 2, 1) := by decide +kernel
theorem dX7_unsellsOne_26 : decode cX7_unsellsOne 26 = .ok (.bipush 8, 2) := by decide +kernel
theorem dX7_unsellsOne_28 : decode cX7_unsellsOne 28 = .ok (.if_icmp .ne 16, 3) := by decide +kernel
theorem dX7_unsellsOne_31 : decode cX7_unsellsOne 31 = .ok (.aload_n 0, 1) := by decide +kernel
theorem dX7_unsellsOne_32 : decode cX7_unsellsOne 32 = .ok (.dup, 1) := by decide +kernel
theorem dX7_unsellsOne_33 : decode cX7_unsellsOne 33 = .ok (.getfield 61, 3) := by decide +kernel
theorem dX7_unsellsOne_36 : decode cX7_unsellsOne 36 = .ok (.iconst 1, 1) := by decide +kernel
theorem dX7_unsellsOne_37 : decode cX7_unsellsOne 37 = .ok (.isub, 1) := by decide +kernel
theorem dX7_unsellsOne_38 : decode cX7_unsellsOne 38 = .ok (.putfield 61, 3) := by decide +kernel
theorem dX7_unsellsOne_41 : decode cX7_unsellsOne 41 = .ok (.goto 34, 3) := by decide +kernel
theorem dX7_unsellsOne_44 : decode cX7_unsellsOne 44 = .ok (.aload_n 0, 1) := by decide +kernel
theorem dX7_unsellsOne_45 : decode cX7_unsellsOne 45 = .ok (.getfield 12, 3) := by decide +kernel
theorem dX7_unsellsOne_48 : decode cX7_unsellsOne 48 = .ok (.iload_n 2, 1) := by decide +kernel
theorem dX7_unsellsOne_49 : decode cX7_unsellsOne 49 = .ok (.invokevirtual 71, 3) := by decide +kernel
theorem dX7_unsellsOne_52 : decode cX7_unsellsOne 52 = .ok (.ifCond .eq 23, 3) := by decide +kernel
theorem dX7_unsellsOne_55 : decode cX7_unsellsOne 55 = .ok (.aload_n 0, 1) := by decide +kernel
theorem dX7_unsellsOne_56 : decode cX7_unsellsOne 56 = .ok (.dup, 1) := by decide +kernel
theorem dX7_unsellsOne_57 : decode cX7_unsellsOne 57 = .ok (.getfield 58, 3) := by decide +kernel
theorem dX7_unsellsOne_60 : decode cX7_unsellsOne 60 = .ok (.iconst 1, 1) := by decide +kernel
theorem dX7_unsellsOne_61 : decode cX7_unsellsOne 61 = .ok (.isub, 1) := by decide +kernel
theorem dX7_unsellsOne_62 : decode cX7_unsellsOne 62 = .ok (.putfield 58, 3) := by decide +kernel
theorem dX7_unsellsOne_65 : decode cX7_unsellsOne 65 = .ok (.aload_n 0, 1) := by decide +kernel
theorem dX7_unsellsOne_66 : decode cX7_unsellsOne 66 = .ok (.getfield 18, 3) := by decide +kernel
theorem dX7_unsellsOne_69 : decode cX7_unsellsOne 69 = .ok (.iload_n 2, 1) := by decide +kernel
theorem dX7_unsellsOne_70 : decode cX7_unsellsOne 70 = .ok (.dup2, 1) := by decide +kernel
theorem dX7_unsellsOne_71 : decode cX7_unsellsOne 71 = .ok (.iaload, 1) := by decide +kernel
theorem dX7_unsellsOne_72 : decode cX7_unsellsOne 72 = .ok (.iconst 1, 1) := by decide +kernel
theorem dX7_unsellsOne_73 : decode cX7_unsellsOne 73 = .ok (.isub, 1) := by decide +kernel
theorem dX7_unsellsOne_74 : decode cX7_unsellsOne 74 = .ok (.iastore, 1) := by decide +kernel
theorem dX7_unsellsOne_75 : decode cX7_unsellsOne 75 = .ok (.return_, 1) := by decide +kernel
theorem bX7_unsellsOne_0 {K : KT} {g : GT} {cm sm : Nat} {cs : Nat × Nat} {c0 : Nat} {x1 : Int} {x2 : Int} {σ' : St} (hC : Ctx K g RX7 cX7_unsellsOne 3 1 cm sm) (hcs : cs.1 ≤ cm ∧ cs.2 ≤ sm) (h0 : isO 7 c0 = true) (hR : RetV K g cX7_unsellsOne 3 cs (SH0, σ')) : ∀ (σ : St), fX7_unsellsOne c0 x1 x2 σ = some σ' → G K g 3 cs 0 [(0, vr c0), (1, vi x1), (2, vi x2)] [] (SH0, σ) := by
  intro σ h
  unfold fX7_unsellsOne at h
  refine g_iload_n hC dX7_unsellsOne_0 2 rfl rfl ?_
  refine g_bipush hC dX7_unsellsOne_1 bp_9 ?_
  refine g_icmp_eq hC dX7_unsellsOne_3 (tgt := 12) (by decide) (fun h9 => ?_) (fun h9 => ?_)
  · rw [if_pos h9] at h
    exact ret_v h hR dX7_unsellsOne_12
  · rw [if_neg h9] at h
    refine g_iload_n hC dX7_unsellsOne_6 2 rfl rfl ?_
    refine g_bipush hC dX7_unsellsOne_7 bp_m2 ?_
    refine g_icmp_ne hC dX7_unsellsOne_9 (tgt := 13) (by decide) (fun h9 => ?_) (fun h9 => ?_)
    · rw [if_neg h9] at h
      refine g_aload_n hC dX7_unsellsOne_13 0 rfl rfl ?_
      refine g_dup hC dX7_unsellsOne_14 rfl ?_
      refine g_geti hC dX7_unsellsOne_15 lfRX7_51 (isO_spec h0) (ft_7_8 h0) ?_
      refine g_iconst hC dX7_unsellsOne_18 ok_1 ?_
      refine g_iload_n hC dX7_unsellsOne_19 1 rfl rfl ?_
      refine g_ishl hC dX7_unsellsOne_20 ?_
      refine g_ior hC dX7_unsellsOne_21 ?_
      refine g_puti hC dX7_unsellsOne_22 lfRX7_51 fp_7_8 (isO_spec h0) (ft_7_8 h0) ?_
      refine g_iload_n hC dX7_unsellsOne_25 2 rfl rfl ?_
      refine g_bipush hC dX7_unsellsOne_26 bp_8 ?_
      refine g_icmp_ne hC dX7_unsellsOne_28 (tgt := 44) (by decide) (fun h9 => ?_) (fun h9 => ?_)
      · rw [if_neg h9] at h
        refine g_aload_n hC dX7_unsellsOne_44 0 rfl rfl ?_
        refine g_getr hC dX7_unsellsOne_45 lfRX7_12 (isO_spec h0) (ft_7_0 h0) ?_
        refine g_iload_n hC dX7_unsellsOne_48 2 rfl rfl ?_
        obtain ⟨⟨r1, s1⟩, e1, h⟩ := of_bind h
        try dsimp only at h
        refine s_callVi hC dX7_unsellsOne_49 (tX2_hasBidder (rf_7_0 h0) e1) miX2_hasBidder mvX2_hasBidder mlRX7_71 (isO_spec (rf_7_0 h0)) vc_2 rfl rfl (Nat.le_of_ble_eq_true rfl) (Nat.le_of_ble_eq_true rfl) (Nat.le_of_ble_eq_true rfl) hcs ?_
        refine g_if_eq hC dX7_unsellsOne_52 (tgt := 75) (by decide) (fun h9 => ?_) (fun h9 => ?_)
        · rw [if_pos h9] at h
          exact ret_v h hR dX7_unsellsOne_75
        · rw [if_neg h9] at h
          refine g_aload_n hC dX7_unsellsOne_55 0 rfl rfl ?_
          refine g_dup hC dX7_unsellsOne_56 rfl ?_
          refine g_geti hC dX7_unsellsOne_57 lfRX7_58 (isO_spec h0) (ft_7_10 h0) ?_
          refine g_iconst hC dX7_unsellsOne_60 ok_1 ?_
          refine g_isub hC dX7_unsellsOne_61 ?_
          refine g_puti hC dX7_unsellsOne_62 lfRX7_58 fp_7_10 (isO_spec h0) (ft_7_10 h0) ?_
          refine g_aload_n hC dX7_unsellsOne_65 0 rfl rfl ?_
          refine g_getr hC dX7_unsellsOne_66 lfRX7_18 (isO_spec h0) (ft_7_2 h0) ?_
          refine g_iload_n hC dX7_unsellsOne_69 2 rfl rfl ?_
          refine g_dup2 hC dX7_unsellsOne_70 rfl rfl ?_
          obtain ⟨b9, h⟩ := of_ite h
          refine g_iald hC dX7_unsellsOne_71 (isA_spec (rf_7_2 h0)) b9 ?_
          refine g_iconst hC dX7_unsellsOne_72 ok_1 ?_
          refine g_isub hC dX7_unsellsOne_73 ?_
          obtain ⟨b9, h⟩ := of_ite h
          refine g_iast hC dX7_unsellsOne_74 (isA_spec (rf_7_2 h0)) b9 ?_
          exact ret_v h hR dX7_unsellsOne_75
      · rw [if_pos h9] at h
        refine g_aload_n hC dX7_unsellsOne_31 0 rfl rfl ?_
        refine g_dup hC dX7_unsellsOne_32 rfl ?_
        refine g_geti hC dX7_unsellsOne_33 lfRX7_61 (isO_spec h0) (ft_7_11 h0) ?_
        refine g_iconst hC dX7_unsellsOne_36 ok_1 ?_
        refine g_isub hC dX7_unsellsOne_37 ?_
        refine g_puti hC dX7_unsellsOne_38 lfRX7_61 fp_7_11 (isO_spec h0) (ft_7_11 h0) ?_
        refine g_goto hC dX7_unsellsOne_41 (tgt := 75) (by decide) ?_
        exact ret_v h hR dX7_unsellsOne_75
    · rw [if_pos h9] at h
      exact ret_v h hR dX7_unsellsOne_12
theorem tX7_unsellsOne {l : Launch} {g : GT} {c0 : Nat} {x1 : Int} {x2 : Int} {σ σ' : St} (h0 : isO 7 c0 = true) (h : fX7_unsellsOne c0 x1 x2 σ = some σ') : Cn l g yX7_unsellsOne cX7_unsellsOne 3 none 1 0 0 [vr c0, vi x1, vi x2] (SH0, σ) none (SH0, σ') :=
  Cn.ofV (by decide) (Nat.le_of_ble_eq_true rfl) (fun K e hC hR => (bX7_unsellsOne_0 hC ⟨Nat.le_refl _, Nat.le_refl _⟩ h0 hR _ h))
theorem dX8_tryOrder_0 : decode cX8_tryOrder 0 = .ok (.iload_n 2, 1) := by decide +kernel
theorem dX8_tryOrder_1 : decode cX8_tryOrder 1 = .ok (.aload_n 0, 1) := by decide +kernel
theorem dX8_tryOrder_2 : decode cX8_tryOrder 2 = .ok (.getfield 32, 3) := by decide +kernel
theorem dX8_tryOrder_5 : decode cX8_tryOrder 5 = .ok (.if_icmp .lt 47, 3) := by decide +kernel
theorem dX8_tryOrder_8 : decode cX8_tryOrder 8 = .ok (.aload_n 0, 1) := by decide +kernel
theorem dX8_tryOrder_9 : decode cX8_tryOrder 9 = .ok (.getfield 18, 3) := by decide +kernel
theorem dX8_tryOrder_12 : decode cX8_tryOrder 12 = .ok (.getfield 39, 3) := by decide +kernel
theorem dX8_tryOrder_15 : decode cX8_tryOrder 15 = .ok (.iload_n 1, 1) := by decide +kernel
theorem dX8_tryOrder_16 : decode cX8_tryOrder 16 = .ok (.iaload, 1) := by decide +kernel
theorem dX8_tryOrder_17 : decode cX8_tryOrder 17 = .ok (.aload_n 0, 1) := by decide +kernel
theorem dX8_tryOrder_18 : decode cX8_tryOrder 18 = .ok (.getfield 22, 3) := by decide +kernel
theorem dX8_tryOrder_21 : decode cX8_tryOrder 21 = .ok (.if_icmp .le 30, 3) := by decide +kernel
theorem dX8_tryOrder_24 : decode cX8_tryOrder 24 = .ok (.aload_n 0, 1) := by decide +kernel
theorem dX8_tryOrder_25 : decode cX8_tryOrder 25 = .ok (.aload_n 0, 1) := by decide +kernel
theorem dX8_tryOrder_26 : decode cX8_tryOrder 26 = .ok (.getfield 18, 3) := by decide +kernel
theorem dX8_tryOrder_29 : decode cX8_tryOrder 29 = .ok (.getfield 39, 3) := by decide +kernel
theorem dX8_tryOrder_32 : decode cX8_tryOrder 32 = .ok (.iload_n 1, 1) := by decide +kernel
theorem dX8_tryOrder_33 : decode cX8_tryOrder 33 = .ok (.iaload, 1) := by decide +kernel
theorem dX8_tryOrder_34 : decode cX8_tryOrder 34 = .ok (.putfield 22, 3) := by decide +kernel
theorem dX8_tryOrder_37 : decode cX8_tryOrder 37 = .ok (.aload_n 0, 1) := by decide +kernel
theorem dX8_tryOrder_38 : decode cX8_tryOrder 38 = .ok (.getfield 11, 3) := by decide +kernel
theorem dX8_tryOrder_41 : decode cX8_tryOrder 41 = .ok (.iconst 0, 1) := by decide +kernel
theorem dX8_tryOrder_42 : decode cX8_tryOrder 42 = .ok (.aload_n 0, 1) := by decide +kernel
theorem dX8_tryOrder_43 : decode cX8_tryOrder 43 = .ok (.getfield 15, 3) := by decide +kernel
theorem dX8_tryOrder_46 : decode cX8_tryOrder 46 = .ok (.iconst 0, 1) := by decide +kernel
theorem dX8_tryOrder_47 : decode cX8_tryOrder 47 = .ok (.iconst 5, 1) := by decide +kernel
theorem dX8_tryOrder_48 : decode cX8_tryOrder 48 = .ok (.invokestatic 44, 3) := by decide +kernel
theorem dX8_tryOrder_51 : decode cX8_tryOrder 51 = .ok (.return_, 1) := by decide +kernel
theorem dX8_tryOrder_52 : decode cX8_tryOrder 52 = .ok (.aload_n 0, 1) := by decide +kernel
theorem dX8_tryOrder_53 : decode cX8_tryOrder 53 = .ok (.getfield 18, 3) := by decide +kernel
theorem dX8_tryOrder_56 : decode cX8_tryOrder 56 = .ok (.getfield 50, 3) := by decide +kernel
theorem dX8_tryOrder_59 : decode cX8_tryOrder 59 = .ok (.iload_n 3, 1) := by decide +kernel
theorem dX8_tryOrder_60 : decode cX8_tryOrder 60 = .ok (.iconst (-1), 1) := by decide +kernel
theorem dX8_tryOrder_61 : decode cX8_tryOrder 61 = .ok (.ixor, 1) := by decide +kernel
theorem dX8_tryOrder_62 : decode cX8_tryOrder 62 = .ok (.iand, 1) := by decide +kernel
theorem dX8_tryOrder_63 : decode cX8_tryOrder 63 = .ok (.istore 4, 2) := by decide +kernel
theorem dX8_tryOrder_65 : decode cX8_tryOrder 65 = .ok (.iconst 0, 1) := by decide +kernel
theorem dX8_tryOrder_66 : decode cX8_tryOrder 66 = .ok (.istore 5, 2) := by decide +kernel
theorem dX8_tryOrder_68 : decode cX8_tryOrder 68 = .ok (.iload 5, 2) := by decide +kernel
theorem dX8_tryOrder_70 : decode cX8_tryOrder 70 = .ok (.bipush 8, 2) := by decide +kernel
theorem dX8_tryOrder_72 : decode cX8_tryOrder 72 = .ok (.if_icmp .ge 63, 3) := by decide +kernel
theorem dX8_tryOrder_75 : decode cX8_tryOrder 75 = .ok (.iload 4, 2) := by decide +kernel
theorem dX8_tryOrder_77 : decode cX8_tryOrder 77 = .ok (.iload 5, 2) := by decide +kernel
theorem dX8_tryOrder_79 : decode cX8_tryOrder 79 = .ok (.ishr, 1) := by decide +kernel
theorem dX8_tryOrder_80 : decode cX8_tryOrder 80 = .ok (.iconst 1, 1) := by decide +kernel
theorem dX8_tryOrder_81 : decode cX8_tryOrder 81 = .ok (.iand, 1) := by decide +kernel
theorem dX8_tryOrder_82 : decode cX8_tryOrder 82 = .ok (.ifCond .eq 47, 3) := by decide +kernel
theorem dX8_tryOrder_85 : decode cX8_tryOrder 85 = .ok (.aload_n 0, 1) := by decide +kernel
theorem dX8_tryOrder_86 : decode cX8_tryOrder 86 = .ok (.getfield 11, 3) := by decide +kernel
theorem dX8_tryOrder_89 : decode cX8_tryOrder 89 = .ok (.iload_n 2, 1) := by decide +kernel
theorem dX8_tryOrder_90 : decode cX8_tryOrder 90 = .ok (.iload 5, 2) := by decide +kernel
theorem dX8_tryOrder_92 : decode cX8_tryOrder 92 = .ok (.iastore, 1) := by decide +kernel
theorem dX8_tryOrder_93 : decode cX8_tryOrder 93 = .ok (.aload_n 0, 1) := by decide +kernel
theorem dX8_tryOrder_94 : decode cX8_tryOrder 94 = .ok (.getfield 18, 3) := by decide +kernel
theorem dX8_tryOrder_97 : decode cX8_tryOrder 97 = .ok (.iload 5, 2) := by decide +kernel
theorem dX8_tryOrder_99 : decode cX8_tryOrder 99 = .ok (.invokevirtual 53, 3) := by decide +kernel
theorem dX8_tryOrder_102 : decode cX8_tryOrder 102 = .ok (.istore 6, 2) := by decide +kernel
theorem dX8_tryOrder_104 : decode cX8_tryOrder 104 = .ok (.aload_n 0, 1) := by decide +kernel
theorem dX8_tryOrder_105 : decode cX8_tryOrder 105 = .ok (.iload_n 1, 1) := by decide +kernel
theorem dX8_tryOrder_106 : decode cX8_tryOrder 106 = .ok (.iload_n 2, 1) := by decide +kernel
theorem dX8_tryOrder_107 : decode cX8_tryOrder 107 = .ok (.iconst 1, 1) := by decide +kernel
theorem dX8_tryOrder_108 : decode cX8_tryOrder 108 = .ok (.iadd, 1) := by decide +kernel
theorem dX8_tryOrder_109 : decode cX8_tryOrder 109 = .ok (.iload_n 3, 1) := by decide +kernel
theorem dX8_tryOrder_110 : decode cX8_tryOrder 110 = .ok (.iconst 1, 1) := by decide +kernel
theorem dX8_tryOrder_111 : decode cX8_tryOrder 111 = .ok (.iload 5, 2) := by decide +kernel
theorem dX8_tryOrder_113 : decode cX8_tryOrder 113 = .ok (.ishl, 1) := by decide +kernel
theorem dX8_tryOrder_114 : decode cX8_tryOrder 114 = .ok (.ior, 1) := by decide +kernel
theorem dX8_tryOrder_115 : decode cX8_tryOrder 115 = .ok (.invokevirtual 35, 3) := by decide +kernel
theorem dX8_tryOrder_118 : decode cX8_tryOrder 118 = .ok (.aload_n 0, 1) := by decide +kernel
theorem dX8_tryOrder_119 : decode cX8_tryOrder 119 = .ok (.getfield 18, 3) := by decide +kernel
theorem dX8_tryOrder_122 : decode cX8_tryOrder 122 = .ok (.iload 5, 2) := by decide +kernel
theorem dX8_tryOrder_124 : decode cX8_tryOrder 124 = .ok (.iload 6, 2) := by decide +kernel
theorem dX8_tryOrder_126 : decode cX8_tryOrder 126 = .ok (.invokevirtual 57, 3) := by decide +kernel
theorem dX8_tryOrder_129 : decode cX8_tryOrder 129 = .ok (.iinc 5 1, 3) := by decide +kernel
theorem dX8_tryOrder_132 : decode cX8_tryOrder 132 = .ok (.goto (-64), 3) := by decide +kernel
theorem dX8_tryOrder_135 : decode cX8_tryOrder 135 = .ok (.return_, 1) := by decide +kernel
theorem bX8_tryOrder_129 {K : KT} {g : GT} {cm sm : Nat} {cs : Nat × Nat} {fr : Nat} {c0 : Nat} {x1 : Int} {x2 : Int} {x3 : Int} {cl : Nat → List Int → St → Option (Int × St)} {frc : Nat} {k68 : Int → Int → St → Option (St)} {σ' : St} (hC : Ctx K g RX8 cX8_tryOrder 7 fr cm sm) (hcs : cs.1 ≤ cm ∧ cs.2 ≤ sm) (h0 : isO 8 c0 = true) (hf : frc + 1 ≤ fr) (hf0 : 5 ≤ fr) (hl0 : ∀ (a0 : Int) (a1 : Int) (a2 : Int) (r : Int) (σ σ' : St), cl 0 [a0, a1, a2] σ = some (r, σ') → Cn (Kl K) g yX8_tryOrder cX8_tryOrder 7 none frc 0 0 [vr c0, vi a0, vi a1, vi a2] (SH0, σ) none (SH0, σ')) (hk68 : ∀ (x4 : Int) (x5 : Int) (σ : St), k68 x4 x5 σ = some σ' → G K g 7 cs 68 [(0, vr c0), (1, vi x1), (2, vi x2), (3, vi x3), (4, vi x4), (5, vi x5)] [] (SH0, σ)) (hR : RetV K g cX8_tryOrder 7 cs (SH0, σ')) : ∀ (x4 : Int) (x5 : Int) (σ : St), fX8_tryOrder_129 cl c0 x1 x2 x3 k68 x4 x5 σ = some σ' → G K g 7 cs 129 [(0, vr c0), (1, vi x1), (2, vi x2), (3, vi x3), (4, vi x4), (5, vi x5)] [] (SH0, σ) := by
  intro x4 x5 σ h
  unfold fX8_tryOrder_129 at h
  refine g_iinc hC dX8_tryOrder_129 5 rfl (Nat.le_of_ble_eq_true rfl) rfl ?_
  refine g_goto hC dX8_tryOrder_132 (tgt := 68) (by decide) ?_
  exact g_pick [1, 2, 3, 4, 5, 0] rfl (hk68 _ _ _ h)
theorem bX8_tryOrder_68 {K : KT} {g : GT} {cm sm : Nat} {cs : Nat × Nat} {fr : Nat} {c0 : Nat} {x1 : Int} {x2 : Int} {x3 : Int} {cl : Nat → List Int → St → Option (Int × St)} {frc : Nat} {σ' : St} (hC : Ctx K g RX8 cX8_tryOrder 7 fr cm sm) (hcs : cs.1 ≤ cm ∧ cs.2 ≤ sm) (h0 : isO 8 c0 = true) (hf : frc + 1 ≤ fr) (hf0 : 5 ≤ fr) (hl0 : ∀ (a0 : Int) (a1 : Int) (a2 : Int) (r : Int) (σ σ' : St), cl 0 [a0, a1, a2] σ = some (r, σ') → Cn (Kl K) g yX8_tryOrder cX8_tryOrder 7 none frc 0 0 [vr c0, vi a0, vi a1, vi a2] (SH0, σ) none (SH0, σ')) (hR : RetV K g cX8_tryOrder 7 cs (SH0, σ')) : ∀ (n : Nat) (x4 : Int) (x5 : Int) (σ : St), fX8_tryOrder_68 cl c0 x1 x2 x3 n x4 x5 σ = some σ' → G K g 7 cs 68 [(0, vr c0), (1, vi x1), (2, vi x2), (3, vi x3), (4, vi x4), (5, vi x5)] [] (SH0, σ) := by
  intro n
  induction n with
  | zero =>
    intro x4 x5 σ h
    rw [fX8_tryOrder_68.eq_1] at h
    cases h
  | succ n ih =>
    intro x4 x5 σ h
    rw [fX8_tryOrder_68.eq_2] at h
    refine g_iload hC dX8_tryOrder_68 5 rfl ?_
    refine g_bipush hC dX8_tryOrder_70 bp_8 ?_
    refine g_icmp_ge hC dX8_tryOrder_72 (tgt := 135) (by decide) (fun h9 => ?_) (fun h9 => ?_)
    · rw [if_pos h9] at h
      exact ret_v h hR dX8_tryOrder_135
    · rw [if_neg h9] at h
      refine g_iload hC dX8_tryOrder_75 4 rfl ?_
      refine g_iload hC dX8_tryOrder_77 5 rfl ?_
      refine g_ishr hC dX8_tryOrder_79 ?_
      refine g_iconst hC dX8_tryOrder_80 ok_1 ?_
      refine g_iand hC dX8_tryOrder_81 ?_
      refine g_if_eq hC dX8_tryOrder_82 (tgt := 129) (by decide) (fun h9 => ?_) (fun h9 => ?_)
      · rw [if_pos h9] at h
        exact g_pick [0, 1, 2, 3, 4, 5] rfl (bX8_tryOrder_129 hC hcs h0 hf hf0 hl0 ih hR _ _ _ h)
      · rw [if_neg h9] at h
        refine g_aload_n hC dX8_tryOrder_85 0 rfl rfl ?_
        refine g_getr hC dX8_tryOrder_86 lfRX8_11 (isO_spec h0) (ft_8_1 h0) ?_
        refine g_iload_n hC dX8_tryOrder_89 2 rfl rfl ?_
        refine g_iload hC dX8_tryOrder_90 5 rfl ?_
        obtain ⟨b9, h⟩ := of_ite h
        refine g_iast hC dX8_tryOrder_92 (isA_spec (rf_8_1 h0)) b9 ?_
        refine g_aload_n hC dX8_tryOrder_93 0 rfl rfl ?_
        refine g_getr hC dX8_tryOrder_94 lfRX8_18 (isO_spec h0) (ft_8_0 h0) ?_
        refine g_iload hC dX8_tryOrder_97 5 rfl ?_
        obtain ⟨⟨r1, s1⟩, e1, h⟩ := of_bind h
        try dsimp only at h
        refine s_callVi hC dX8_tryOrder_99 (tX7_sellsOne (rf_8_0 h0) e1) miX7_sellsOne mvX7_sellsOne mlRX8_53 (isO_spec (rf_8_0 h0)) vc_7 rfl rfl (Nat.le_of_ble_eq_true rfl) (by omega) (Nat.le_of_ble_eq_true rfl) hcs ?_
        refine g_istore hC dX8_tryOrder_102 (Nat.le_of_ble_eq_true rfl) rfl ?_
        refine g_aload_n hC dX8_tryOrder_104 1 rfl rfl ?_
        refine g_iload_n hC dX8_tryOrder_105 2 rfl rfl ?_
        refine g_iload_n hC dX8_tryOrder_106 3 rfl rfl ?_
        refine g_iconst hC dX8_tryOrder_107 ok_1 ?_
        refine g_iadd hC dX8_tryOrder_108 ?_
        refine g_iload_n hC dX8_tryOrder_109 4 rfl rfl ?_
        refine g_iconst hC dX8_tryOrder_110 ok_1 ?_
        refine g_iload hC dX8_tryOrder_111 6 rfl ?_
        refine g_ishl hC dX8_tryOrder_113 ?_
        refine g_ior hC dX8_tryOrder_114 ?_
        obtain ⟨⟨r2, s2⟩, e2, h⟩ := of_bind h
        try dsimp only at h
        refine s_callVv hC dX8_tryOrder_115 (hl0 _ _ _ _ _ _ e2) miX8_tryOrder mvX8_tryOrder mlRX8_35 (isO_spec h0) vc_8 rfl rfl (Nat.le_of_ble_eq_true rfl) hf (Nat.le_of_ble_eq_true rfl) hcs ?_
        refine g_aload_n hC dX8_tryOrder_118 1 rfl rfl ?_
        refine g_getr hC dX8_tryOrder_119 lfRX8_18 (isO_spec h0) (ft_8_0 h0) ?_
        refine g_iload hC dX8_tryOrder_122 6 rfl ?_
        refine g_iload hC dX8_tryOrder_124 0 rfl ?_
        obtain ⟨s3, e3, h⟩ := of_bind h
        try dsimp only at h
        refine s_callVv hC dX8_tryOrder_126 (tX7_unsellsOne (rf_8_0 h0) e3) miX7_unsellsOne mvX7_unsellsOne mlRX8_57 (isO_spec (rf_8_0 h0)) vc_7 rfl rfl (Nat.le_of_ble_eq_true rfl) (by omega) (Nat.le_of_ble_eq_true rfl) hcs ?_
        exact g_pick [1, 2, 3, 4, 5, 6] rfl (bX8_tryOrder_129 hC hcs h0 hf hf0 hl0 ih hR _ _ _ h)
theorem bX8_tryOrder_0 {K : KT} {g : GT} {cm sm : Nat} {cs : Nat × Nat} {fr : Nat} {c0 : Nat} {x1 : Int} {x2 : Int} {x3 : Int} {cl : Nat → List Int → St → Option (Int × St)} {frc : Nat} {σ' : St} (hC : Ctx K g RX8 cX8_tryOrder 7 fr cm sm) (hcs : cs.1 ≤ cm ∧ cs.2 ≤ sm) (h0 : isO 8 c0 = true) (hf : frc + 1 ≤ fr) (hf0 : 5 ≤ fr) (hl0 : ∀ (a0 : Int) (a1 : Int) (a2 : Int) (r : Int) (σ σ' : St), cl 0 [a0, a1, a2] σ = some (r, σ') → Cn (Kl K) g yX8_tryOrder cX8_tryOrder 7 none frc 0 0 [vr c0, vi a0, vi a1, vi a2] (SH0, σ) none (SH0, σ')) (hR : RetV K g cX8_tryOrder 7 cs (SH0, σ')) : ∀ (σ : St), fX8_tryOrder cl c0 x1 x2 x3 σ = some σ' → G K g 7 cs 0 [(0, vr c0), (1, vi x1), (2, vi x2), (3, vi x3)] [] (SH0, σ) := by
  intro σ h
  unfold fX8_tryOrder at h
  refine g_iload_n hC dX8_tryOrder_0 2 rfl rfl ?_
  refine g_aload_n hC dX8_tryOrder_1 0 rfl rfl ?_
  refine g_geti hC dX8_tryOrder_2 lfRX8_32 (isO_spec h0) (ft_8_4 h0) ?_
  refine g_icmp_lt hC dX8_tryOrder_5 (tgt := 52) (by decide) (fun h9 => ?_) (fun h9 => ?_)
  · rw [if_pos h9] at h
    refine g_aload_n hC dX8_tryOrder_52 0 rfl rfl ?_
    refine g_getr hC dX8_tryOrder_53 lfRX8_18 (isO_spec h0) (ft_8_0 h0) ?_
    refine g_geti hC dX8_tryOrder_56 lfRX8_50 (isO_spec (rf_8_0 h0)) (ft_7_8 (rf_8_0 h0)) ?_
    refine g_iload_n hC dX8_tryOrder_59 3 rfl rfl ?_
    refine g_iconst hC dX8_tryOrder_60 ok_m1 ?_
    refine g_ixor hC dX8_tryOrder_61 ?_
    refine g_iand hC dX8_tryOrder_62 ?_
    refine g_istore hC dX8_tryOrder_63 (Nat.le_of_ble_eq_true rfl) rfl ?_
    refine g_iconst hC dX8_tryOrder_65 ok_0 ?_
    refine g_istore hC dX8_tryOrder_66 (Nat.le_of_ble_eq_true rfl) rfl ?_
    exact g_pick [2, 3, 4, 5, 1, 0] rfl (bX8_tryOrder_68 hC hcs h0 hf hf0 hl0 hR _ _ _ _ h)
  · rw [if_neg h9] at h
    refine g_aload_n hC dX8_tryOrder_8 0 rfl rfl ?_
    refine g_getr hC dX8_tryOrder_9 lfRX8_18 (isO_spec h0) (ft_8_0 h0) ?_
    refine g_getr hC dX8_tryOrder_12 lfRX8_39 (isO_spec (rf_8_0 h0)) (ft_7_2 (rf_8_0 h0)) ?_
    refine g_iload_n hC dX8_tryOrder_15 1 rfl rfl ?_
    obtain ⟨b9, h⟩ := of_ite h
    refine g_iald hC dX8_tryOrder_16 (isA_spec (rf_7_2 (rf_8_0 h0))) b9 ?_
    refine g_aload_n hC dX8_tryOrder_17 0 rfl rfl ?_
    refine g_geti hC dX8_tryOrder_18 lfRX8_22 (isO_spec h0) (ft_8_3 h0) ?_
    refine g_icmp_le hC dX8_tryOrder_21 (tgt := 51) (by decide) (fun h9 => ?_) (fun h9 => ?_)
    · rw [if_pos h9] at h
      exact ret_v h hR dX8_tryOrder_51
    · rw [if_neg h9] at h
      refine g_aload_n hC dX8_tryOrder_24 0 rfl rfl ?_
      refine g_aload_n hC dX8_tryOrder_25 0 rfl rfl ?_
      refine g_getr hC dX8_tryOrder_26 lfRX8_18 (isO_spec h0) (ft_8_0 h0) ?_
      refine g_getr hC dX8_tryOrder_29 lfRX8_39 (isO_spec (rf_8_0 h0)) (ft_7_2 (rf_8_0 h0)) ?_
      refine g_iload_n hC dX8_tryOrder_32 1 rfl rfl ?_
      obtain ⟨b9, h⟩ := of_ite h
      refine g_iald hC dX8_tryOrder_33 (isA_spec (rf_7_2 (rf_8_0 h0))) b9 ?_
      refine g_puti hC dX8_tryOrder_34 lfRX8_22 fp_8_3 (isO_spec h0) (ft_8_3 h0) ?_
      refine g_aload_n hC dX8_tryOrder_37 0 rfl rfl ?_
      refine g_getr hC dX8_tryOrder_38 lfRX8_11 (isO_spec h0) (ft_8_1 h0) ?_
      refine g_iconst hC dX8_tryOrder_41 ok_0 ?_
      refine g_aload_n hC dX8_tryOrder_42 0 rfl rfl ?_
      refine g_getr hC dX8_tryOrder_43 lfRX8_15 (isO_spec h0) (ft_8_2 h0) ?_
      refine g_iconst hC dX8_tryOrder_46 ok_0 ?_
      refine g_iconst hC dX8_tryOrder_47 ok_5 ?_
      obtain ⟨b9, h⟩ := of_ite h
      refine g_copyi hC dX8_tryOrder_48 lmRX8_44 ac_1 ac_2 ac_3 (Nat.le_of_ble_eq_true rfl) (by omega) (isA_spec (rf_8_1 h0)) (isA_spec (rf_8_2 h0)) b9 ?_
      exact ret_v h hR dX8_tryOrder_51
theorem cgX8_tryOrder {l : Launch} {g : GT} {c0 : Nat} (h0 : isO 8 c0 = true) : ∀ d : Nat, ∀ (a0 : Int) (a1 : Int) (a2 : Int) (r : Int) (σ σ' : St), gX8_tryOrder c0 d 0 [a0, a1, a2] σ = some (r, σ') → Cn l g yX8_tryOrder cX8_tryOrder 7 none (5 + d) 0 0 [vr c0, vi a0, vi a1, vi a2] (SH0, σ) none (SH0, σ') := by
  intro d
  induction d with
  | zero =>
    · intro a0 a1 a2 r σ σ' h
      rw [gX8_tryOrder_0] at h
      cases h
  | succ d ih =>
    have i0 := ih
    · intro a0 a1 a2 r σ σ' h
      rw [gX8_tryOrder_s] at h
      have h : (Option.bind (fX8_tryOrder (gX8_tryOrder c0 d) c0 a0 a1 a2 σ) fun q => some (0, q)) = some (r, σ') := h
      obtain ⟨s1, e1, h⟩ := of_bind h
      cases h
      exact Cn.ofV (by decide) (Nat.le_of_ble_eq_true rfl) (fun K e hC hR => by
        subst e
        exact bX8_tryOrder_0 hC ⟨Nat.le_refl _, Nat.le_refl _⟩ h0 (frc := 5 + d) (by omega) (by omega) i0 hR _ e1)

theorem tX8_tryOrder {l : Launch} {g : GT} {c0 : Nat} {a0 : Int} {a1 : Int} {a2 : Int} {σ σ' : St} (h0 : isO 8 c0 = true) (h : hX8_tryOrder c0 a0 a1 a2 σ = some σ') : Cn l g yX8_tryOrder cX8_tryOrder 7 none 205 0 0 [vr c0, vi a0, vi a1, vi a2] (SH0, σ) none (SH0, σ') := by
  unfold hX8_tryOrder at h
  obtain ⟨⟨r, s1⟩, e1, h⟩ := of_bind h
  cases h
  exact (cgX8_tryOrder h0 DEP) _ _ _ _ _ _ e1
theorem dX8_orders_0 : decode cX8_orders 0 = .ok (.aload_n 0, 1) := by decide +kernel
theorem dX8_orders_1 : decode cX8_orders 1 = .ok (.iconst (-1), 1) := by decide +kernel
theorem dX8_orders_2 : decode cX8_orders 2 = .ok (.putfield 22, 3) := by decide +kernel
theorem dX8_orders_5 : decode cX8_orders 5 = .ok (.aload_n 0, 1) := by decide +kernel
theorem dX8_orders_6 : decode cX8_orders 6 = .ok (.iload_n 2, 1) := by decide +kernel
theorem dX8_orders_7 : decode cX8_orders 7 = .ok (.iconst 5, 1) := by decide +kernel
theorem dX8_orders_8 : decode cX8_orders 8 = .ok (.invokestatic 26, 3) := by decide +kernel
theorem dX8_orders_11 : decode cX8_orders 11 = .ok (.putfield 32, 3) := by decide +kernel
theorem dX8_orders_14 : decode cX8_orders 14 = .ok (.aload_n 0, 1) := by decide +kernel
theorem dX8_orders_15 : decode cX8_orders 15 = .ok (.iload_n 1, 1) := by decide +kernel
theorem dX8_orders_16 : decode cX8_orders 16 = .ok (.iconst 0, 1) := by decide +kernel
theorem dX8_orders_17 : decode cX8_orders 17 = .ok (.iconst 0, 1) := by decide +kernel
theorem dX8_orders_18 : decode cX8_orders 18 = .ok (.invokevirtual 35, 3) := by decide +kernel
theorem dX8_orders_21 : decode cX8_orders 21 = .ok (.aload_n 0, 1) := by decide +kernel
theorem dX8_orders_22 : decode cX8_orders 22 = .ok (.getfield 22, 3) := by decide +kernel
theorem dX8_orders_25 : decode cX8_orders 25 = .ok (.ireturn, 1) := by decide +kernel
theorem bX8_orders_0 {K : KT} {g : GT} {cm sm : Nat} {cs : Nat × Nat} {c0 : Nat} {x1 : Int} {x2 : Int} {r : Int} {σ' : St} (hC : Ctx K g RX8 cX8_orders 3 206 cm sm) (hcs : cs.1 ≤ cm ∧ cs.2 ≤ sm) (h0 : isO 8 c0 = true) (hR : RetI K g cX8_orders 3 cs r (SH0, σ')) : ∀ (σ : St), fX8_orders c0 x1 x2 σ = some (r, σ') → G K g 3 cs 0 [(0, vr c0), (1, vi x1), (2, vi x2)] [] (SH0, σ) := by
  intro σ h
  unfold fX8_orders at h
  refine g_aload_n hC dX8_orders_0 0 rfl rfl ?_
  refine g_iconst hC dX8_orders_1 ok_m1 ?_
  refine g_puti hC dX8_orders_2 lfRX8_22 fp_8_3 (isO_spec h0) (ft_8_3 h0) ?_
  refine g_aload_n hC dX8_orders_5 0 rfl rfl ?_
  refine g_iload_n hC dX8_orders_6 2 rfl rfl ?_
  refine g_iconst hC dX8_orders_7 ok_5 ?_
  refine g_min hC dX8_orders_8 lmRX8_26 mn_1 mn_2 mn_3 (Nat.le_of_ble_eq_true rfl) (Nat.le_of_ble_eq_true rfl) hcs ?_
  refine g_puti hC dX8_orders_11 lfRX8_32 fp_8_4 (isO_spec h0) (ft_8_4 h0) ?_
  refine g_aload_n hC dX8_orders_14 0 rfl rfl ?_
  refine g_iload_n hC dX8_orders_15 1 rfl rfl ?_
  refine g_iconst hC dX8_orders_16 ok_0 ?_
  refine g_iconst hC dX8_orders_17 ok_0 ?_
  obtain ⟨s1, e1, h⟩ := of_bind h
  try dsimp only at h
  refine s_callVv hC dX8_orders_18 (tX8_tryOrder h0 e1) miX8_tryOrder mvX8_tryOrder mlRX8_35 (isO_spec h0) vc_8 rfl rfl (Nat.le_of_ble_eq_true rfl) (Nat.le_of_ble_eq_true rfl) (Nat.le_of_ble_eq_true rfl) hcs ?_
  refine g_aload_n hC dX8_orders_21 0 rfl rfl ?_
  refine g_geti hC dX8_orders_22 lfRX8_22 (isO_spec h0) (ft_8_3 h0) ?_
  exact ret_i h hR dX8_orders_25
theorem tX8_orders {l : Launch} {g : GT} {c0 : Nat} {x1 : Int} {x2 : Int} {σ σ' : St} {r : Int} (h0 : isO 8 c0 = true) (h : fX8_orders c0 x1 x2 σ = some (r, σ')) : Cn l g yX8_orders cX8_orders 3 (some .int) 206 0 0 [vr c0, vi x1, vi x2] (SH0, σ) (some (vi r)) (SH0, σ') :=
  Cn.ofI (by decide) (Nat.le_of_ble_eq_true rfl) (fun K e hC hR => (bX8_orders_0 hC ⟨Nat.le_refl _, Nat.le_refl _⟩ h0 hR _ h))
theorem dX9_bestOrder_0 : decode cX9_bestOrder 0 = .ok (.aload_n 0, 1) := by decide +kernel
theorem dX9_bestOrder_1 : decode cX9_bestOrder 1 = .ok (.getfield 10, 3) := by decide +kernel
theorem dX9_bestOrder_4 : decode cX9_bestOrder 4 = .ok (.iload_n 1, 1) := by decide +kernel
theorem dX9_bestOrder_5 : decode cX9_bestOrder 5 = .ok (.invokevirtual 180, 3) := by decide +kernel
theorem dX9_bestOrder_8 : decode cX9_bestOrder 8 = .ok (.ifCond .eq 8, 3) := by decide +kernel
theorem dX9_bestOrder_11 : decode cX9_bestOrder 11 = .ok (.iload_n 2, 1) := by decide +kernel
theorem dX9_bestOrder_12 : decode cX9_bestOrder 12 = .ok (.iconst (-1), 1) := by decide +kernel
theorem dX9_bestOrder_13 : decode cX9_bestOrder 13 = .ok (.if_icmp .ge 5, 3) := by decide +kernel
theorem dX9_bestOrder_16 : decode cX9_bestOrder 16 = .ok (.iconst (-1), 1) := by decide +kernel
theorem dX9_bestOrder_17 : decode cX9_bestOrder 17 = .ok (.ireturn, 1) := by decide +kernel
theorem dX9_bestOrder_18 : decode cX9_bestOrder 18 = .ok (.aload_n 0, 1) := by decide +kernel
theorem dX9_bestOrder_19 : decode cX9_bestOrder 19 = .ok (.getfield 28, 3) := by decide +kernel
theorem dX9_bestOrder_22 : decode cX9_bestOrder 22 = .ok (.aload_n 0, 1) := by decide +kernel
theorem dX9_bestOrder_23 : decode cX9_bestOrder 23 = .ok (.getfield 10, 3) := by decide +kernel
theorem dX9_bestOrder_26 : decode cX9_bestOrder 26 = .ok (.invokevirtual 147, 3) := by decide +kernel
theorem dX9_bestOrder_29 : decode cX9_bestOrder 29 = .ok (.aload_n 0, 1) := by decide +kernel
theorem dX9_bestOrder_30 : decode cX9_bestOrder 30 = .ok (.getfield 28, 3) := by decide +kernel
theorem dX9_bestOrder_33 : decode cX9_bestOrder 33 = .ok (.getfield 192, 3) := by decide +kernel
theorem dX9_bestOrder_36 : decode cX9_bestOrder 36 = .ok (.invokestatic 195, 3) := by decide +kernel
theorem dX9_bestOrder_39 : decode cX9_bestOrder 39 = .ok (.istore_n 3, 1) := by decide +kernel
theorem dX9_bestOrder_40 : decode cX9_bestOrder 40 = .ok (.iload_n 3, 1) := by decide +kernel
theorem dX9_bestOrder_41 : decode cX9_bestOrder 41 = .ok (.iconst 5, 1) := by decide +kernel
theorem dX9_bestOrder_42 : decode cX9_bestOrder 42 = .ok (.if_icmp .le 6, 3) := by decide +kernel
theorem dX9_bestOrder_45 : decode cX9_bestOrder 45 = .ok (.bipush (-5), 2) := by decide +kernel
theorem dX9_bestOrder_47 : decode cX9_bestOrder 47 = .ok (.ireturn, 1) := by decide +kernel
theorem dX9_bestOrder_48 : decode cX9_bestOrder 48 = .ok (.aload_n 0, 1) := by decide +kernel
theorem dX9_bestOrder_49 : decode cX9_bestOrder 49 = .ok (.getfield 37, 3) := by decide +kernel
theorem dX9_bestOrder_52 : decode cX9_bestOrder 52 = .ok (.iload_n 1, 1) := by decide +kernel
theorem dX9_bestOrder_53 : decode cX9_bestOrder 53 = .ok (.iload_n 3, 1) := by decide +kernel
theorem dX9_bestOrder_54 : decode cX9_bestOrder 54 = .ok (.invokevirtual 200, 3) := by decide +kernel
theorem dX9_bestOrder_57 : decode cX9_bestOrder 57 = .ok (.istore 4, 2) := by decide +kernel
theorem dX9_bestOrder_59 : decode cX9_bestOrder 59 = .ok (.iload_n 2, 1) := by decide +kernel
theorem dX9_bestOrder_60 : decode cX9_bestOrder 60 = .ok (.ifCond .ge 6, 3) := by decide +kernel
theorem dX9_bestOrder_63 : decode cX9_bestOrder 63 = .ok (.iload 4, 2) := by decide +kernel
theorem dX9_bestOrder_65 : decode cX9_bestOrder 65 = .ok (.ireturn, 1) := by decide +kernel
theorem dX9_bestOrder_66 : decode cX9_bestOrder 66 = .ok (.iload_n 2, 1) := by decide +kernel
theorem dX9_bestOrder_67 : decode cX9_bestOrder 67 = .ok (.iload_n 3, 1) := by decide +kernel
theorem dX9_bestOrder_68 : decode cX9_bestOrder 68 = .ok (.if_icmp .ge 15, 3) := by decide +kernel
theorem dX9_bestOrder_71 : decode cX9_bestOrder 71 = .ok (.aload_n 0, 1) := by decide +kernel
theorem dX9_bestOrder_72 : decode cX9_bestOrder 72 = .ok (.getfield 37, 3) := by decide +kernel
theorem dX9_bestOrder_75 : decode cX9_bestOrder 75 = .ok (.getfield 203, 3) := by decide +kernel
theorem dX9_bestOrder_78 : decode cX9_bestOrder 78 = .ok (.iload_n 2, 1) := by decide +kernel
theorem dX9_bestOrder_79 : decode cX9_bestOrder 79 = .ok (.iaload, 1) := by decide +kernel
theorem dX9_bestOrder_80 : decode cX9_bestOrder 80 = .ok (.goto 5, 3) := by decide +kernel
theorem dX9_bestOrder_83 : decode cX9_bestOrder 83 = .ok (.bipush (-2), 2) := by decide +kernel
theorem dX9_bestOrder_85 : decode cX9_bestOrder 85 = .ok (.ireturn, 1) := by decide +kernel
theorem bX9_bestOrder_0 {K : KT} {g : GT} {cm sm : Nat} {cs : Nat × Nat} {c0 : Nat} {x1 : Int} {x2 : Int} {r : Int} {σ' : St} (hC : Ctx K g RX9 cX9_bestOrder 5 207 cm sm) (hcs : cs.1 ≤ cm ∧ cs.2 ≤ sm) (h0 : isO 9 c0 = true) (hR : RetI K g cX9_bestOrder 5 cs r (SH0, σ')) : ∀ (σ : St), fX9_bestOrder c0 x1 x2 σ = some (r, σ') → G K g 5 cs 0 [(0, vr c0), (1, vi x1), (2, vi x2)] [] (SH0, σ) := by
  intro σ h
  unfold fX9_bestOrder at h
  refine g_aload_n hC dX9_bestOrder_0 0 rfl rfl ?_
  refine g_getr hC dX9_bestOrder_1 lfRX9_10 (isO_spec h0) (ft_9_0 h0) ?_
  refine g_iload_n hC dX9_bestOrder_4 1 rfl rfl ?_
  obtain ⟨⟨r1, s1⟩, e1, h⟩ := of_bind h
  try dsimp only at h
  refine s_callVi hC dX9_bestOrder_5 (tX2_hasBidder (rf_9_0 h0) e1) miX2_hasBidder mvX2_hasBidder mlRX9_180 (isO_spec (rf_9_0 h0)) vc_2 rfl rfl (Nat.le_of_ble_eq_true rfl) (Nat.le_of_ble_eq_true rfl) (Nat.le_of_ble_eq_true rfl) hcs ?_
  refine g_if_eq hC dX9_bestOrder_8 (tgt := 16) (by decide) (fun h9 => ?_) (fun h9 => ?_)
  · rw [if_pos h9] at h
    refine g_iconst hC dX9_bestOrder_16 ok_m1 ?_
    exact ret_i h hR dX9_bestOrder_17
  · rw [if_neg h9] at h
    refine g_iload_n hC dX9_bestOrder_11 2 rfl rfl ?_
    refine g_iconst hC dX9_bestOrder_12 ok_m1 ?_
    refine g_icmp_ge hC dX9_bestOrder_13 (tgt := 18) (by decide) (fun h9 => ?_) (fun h9 => ?_)
    · rw [if_pos h9] at h
      refine g_aload_n hC dX9_bestOrder_18 0 rfl rfl ?_
      refine g_getr hC dX9_bestOrder_19 lfRX9_28 (isO_spec h0) (ft_9_2 h0) ?_
      refine g_aload_n hC dX9_bestOrder_22 0 rfl rfl ?_
      refine g_getr hC dX9_bestOrder_23 lfRX9_10 (isO_spec h0) (ft_9_0 h0) ?_
      obtain ⟨s2, e2, h⟩ := of_bind h
      try dsimp only at h
      refine s_callVv hC dX9_bestOrder_26 (tX7_begin (rf_9_2 h0) (rf_9_0 h0) e2) miX7_begin mvX7_begin mlRX9_147 (isO_spec (rf_9_2 h0)) vc_7 rfl rfl (Nat.le_of_ble_eq_true rfl) (Nat.le_of_ble_eq_true rfl) (Nat.le_of_ble_eq_true rfl) hcs ?_
      refine g_aload_n hC dX9_bestOrder_29 0 rfl rfl ?_
      refine g_getr hC dX9_bestOrder_30 lfRX9_28 (isO_spec h0) (ft_9_2 h0) ?_
      refine g_geti hC dX9_bestOrder_33 lfRX9_192 (isO_spec (rf_9_2 h0)) (ft_7_8 (rf_9_2 h0)) ?_
      obtain ⟨⟨r3, s3⟩, e3, h⟩ := of_bind h
      try dsimp only at h
      refine s_callSi hC dX9_bestOrder_36 (tJ6_bitCount_0f7a4 e3) miJ6_bitCount_0f7a4 msJ6_bitCount_0f7a4 mlRX9_195 rfl rfl (Nat.le_of_ble_eq_true rfl) (Nat.le_of_ble_eq_true rfl) (Nat.le_of_ble_eq_true rfl) hcs ?_
      refine g_istore_n hC dX9_bestOrder_39 rfl (Nat.le_of_ble_eq_true rfl) rfl ?_
      refine g_iload_n hC dX9_bestOrder_40 0 rfl rfl ?_
      refine g_iconst hC dX9_bestOrder_41 ok_5 ?_
      refine g_icmp_le hC dX9_bestOrder_42 (tgt := 48) (by decide) (fun h9 => ?_) (fun h9 => ?_)
      · rw [if_pos h9] at h
        refine g_aload_n hC dX9_bestOrder_48 1 rfl rfl ?_
        refine g_getr hC dX9_bestOrder_49 lfRX9_37 (isO_spec h0) (ft_9_3 h0) ?_
        refine g_iload_n hC dX9_bestOrder_52 2 rfl rfl ?_
        refine g_iload_n hC dX9_bestOrder_53 0 rfl rfl ?_
        obtain ⟨⟨r4, s4⟩, e4, h⟩ := of_bind h
        try dsimp only at h
        refine s_callVi hC dX9_bestOrder_54 (tX8_orders (rf_9_3 h0) e4) miX8_orders mvX8_orders mlRX9_200 (isO_spec (rf_9_3 h0)) vc_8 rfl rfl (Nat.le_of_ble_eq_true rfl) (Nat.le_of_ble_eq_true rfl) (Nat.le_of_ble_eq_true rfl) hcs ?_
        refine g_istore hC dX9_bestOrder_57 (Nat.le_of_ble_eq_true rfl) rfl ?_
        refine g_iload_n hC dX9_bestOrder_59 4 rfl rfl ?_
        refine g_if_ge hC dX9_bestOrder_60 (tgt := 66) (by decide) (fun h9 => ?_) (fun h9 => ?_)
        · rw [if_pos h9] at h
          refine g_iload_n hC dX9_bestOrder_66 4 rfl rfl ?_
          refine g_iload_n hC dX9_bestOrder_67 1 rfl rfl ?_
          refine g_icmp_ge hC dX9_bestOrder_68 (tgt := 83) (by decide) (fun h9 => ?_) (fun h9 => ?_)
          · rw [if_pos h9] at h
            refine g_bipush hC dX9_bestOrder_83 bp_m2 ?_
            exact ret_i h hR dX9_bestOrder_85
          · rw [if_neg h9] at h
            refine g_aload_n hC dX9_bestOrder_71 2 rfl rfl ?_
            refine g_getr hC dX9_bestOrder_72 lfRX9_37 (isO_spec h0) (ft_9_3 h0) ?_
            refine g_getr hC dX9_bestOrder_75 lfRX9_203 (isO_spec (rf_9_3 h0)) (ft_8_2 (rf_9_3 h0)) ?_
            refine g_iload_n hC dX9_bestOrder_78 4 rfl rfl ?_
            obtain ⟨b9, h⟩ := of_ite h
            refine g_iald hC dX9_bestOrder_79 (isA_spec (rf_8_2 (rf_9_3 h0))) b9 ?_
            refine g_goto hC dX9_bestOrder_80 (tgt := 85) (by decide) ?_
            exact ret_i h hR dX9_bestOrder_85
        · rw [if_neg h9] at h
          refine g_iload hC dX9_bestOrder_63 0 rfl ?_
          exact ret_i h hR dX9_bestOrder_65
      · rw [if_neg h9] at h
        refine g_bipush hC dX9_bestOrder_45 bp_m5 ?_
        exact ret_i h hR dX9_bestOrder_47
    · rw [if_neg h9] at h
      refine g_iconst hC dX9_bestOrder_16 ok_m1 ?_
      exact ret_i h hR dX9_bestOrder_17
theorem tX9_bestOrder {l : Launch} {g : GT} {c0 : Nat} {x1 : Int} {x2 : Int} {σ σ' : St} {r : Int} (h0 : isO 9 c0 = true) (h : fX9_bestOrder c0 x1 x2 σ = some (r, σ')) : Cn l g yX9_bestOrder cX9_bestOrder 5 (some .int) 207 0 0 [vr c0, vi x1, vi x2] (SH0, σ) (some (vi r)) (SH0, σ') :=
  Cn.ofI (by decide) (Nat.le_of_ble_eq_true rfl) (fun K e hC hR => (bX9_bestOrder_0 hC ⟨Nat.le_refl _, Nat.le_refl _⟩ h0 hR _ h))
theorem dX2_addBidder_0 : decode cX2_addBidder 0 = .ok (.aload_n 0, 1) := by decide +kernel
theorem dX2_addBidder_1 : decode cX2_addBidder 1 = .ok (.getfield 22, 3) := by decide +kernel
theorem dX2_addBidder_4 : decode cX2_addBidder 4 = .ok (.bipush 7, 2) := by decide +kernel
theorem dX2_addBidder_6 : decode cX2_addBidder 6 = .ok (.if_icmp .lt 6, 3) := by decide +kernel
theorem dX2_addBidder_9 : decode cX2_addBidder 9 = .ok (.bipush (-3), 2) := by decide +kernel
theorem dX2_addBidder_11 : decode cX2_addBidder 11 = .ok (.ireturn, 1) := by decide +kernel
theorem dX2_addBidder_12 : decode cX2_addBidder 12 = .ok (.aload_n 0, 1) := by decide +kernel
theorem dX2_addBidder_13 : decode cX2_addBidder 13 = .ok (.getfield 22, 3) := by decide +kernel
theorem dX2_addBidder_16 : decode cX2_addBidder 16 = .ok (.istore 4, 2) := by decide +kernel
theorem dX2_addBidder_18 : decode cX2_addBidder 18 = .ok (.aload_n 0, 1) := by decide +kernel
theorem dX2_addBidder_19 : decode cX2_addBidder 19 = .ok (.dup, 1) := by decide +kernel
theorem dX2_addBidder_20 : decode cX2_addBidder 20 = .ok (.getfield 22, 3) := by decide +kernel
theorem dX2_addBidder_23 : decode cX2_addBidder 23 = .ok (.iconst 1, 1) := by decide +kernel
theorem dX2_addBidder_24 : decode cX2_addBidder 24 = .ok (.iadd, 1) := by decide +kernel
theorem dX2_addBidder_25 : decode cX2_addBidder 25 = .ok (.putfield 22, 3) := by decide +kernel
theorem dX2_addBidder_28 : decode cX2_addBidder 28 = .ok (.aload_n 0, 1) := by decide +kernel
theorem dX2_addBidder_29 : decode cX2_addBidder 29 = .ok (.iload 4, 2) := by decide +kernel
theorem dX2_addBidder_31 : decode cX2_addBidder 31 = .ok (.iconst 4, 1) := by decide +kernel
theorem dX2_addBidder_32 : decode cX2_addBidder 32 = .ok (.iload_n 1, 1) := by decide +kernel
theorem dX2_addBidder_33 : decode cX2_addBidder 33 = .ok (.invokevirtual 32, 3) := by decide +kernel
theorem dX2_addBidder_36 : decode cX2_addBidder 36 = .ok (.aload_n 0, 1) := by decide +kernel
theorem dX2_addBidder_37 : decode cX2_addBidder 37 = .ok (.iload 4, 2) := by decide +kernel
theorem dX2_addBidder_39 : decode cX2_addBidder 39 = .ok (.iconst 5, 1) := by decide +kernel
theorem dX2_addBidder_40 : decode cX2_addBidder 40 = .ok (.iload_n 2, 1) := by decide +kernel
theorem dX2_addBidder_41 : decode cX2_addBidder 41 = .ok (.invokevirtual 32, 3) := by decide +kernel
theorem dX2_addBidder_44 : decode cX2_addBidder 44 = .ok (.aload_n 0, 1) := by decide +kernel
theorem dX2_addBidder_45 : decode cX2_addBidder 45 = .ok (.iload 4, 2) := by decide +kernel
theorem dX2_addBidder_47 : decode cX2_addBidder 47 = .ok (.bipush 7, 2) := by decide +kernel
theorem dX2_addBidder_49 : decode cX2_addBidder 49 = .ok (.iload_n 3, 1) := by decide +kernel
theorem dX2_addBidder_50 : decode cX2_addBidder 50 = .ok (.invokevirtual 32, 3) := by decide +kernel
theorem dX2_addBidder_53 : decode cX2_addBidder 53 = .ok (.iconst 0, 1) := by decide +kernel
theorem dX2_addBidder_54 : decode cX2_addBidder 54 = .ok (.istore 5, 2) := by decide +kernel
theorem dX2_addBidder_56 : decode cX2_addBidder 56 = .ok (.iload 5, 2) := by decide +kernel
theorem dX2_addBidder_58 : decode cX2_addBidder 58 = .ok (.iconst 4, 1) := by decide +kernel
theorem dX2_addBidder_59 : decode cX2_addBidder 59 = .ok (.if_icmp .ge 21, 3) := by decide +kernel
theorem dX2_addBidder_62 : decode cX2_addBidder 62 = .ok (.aload_n 0, 1) := by decide +kernel
theorem dX2_addBidder_63 : decode cX2_addBidder 63 = .ok (.iload 4, 2) := by decide +kernel
theorem dX2_addBidder_65 : decode cX2_addBidder 65 = .ok (.bipush 9, 2) := by decide +kernel
theorem dX2_addBidder_67 : decode cX2_addBidder 67 = .ok (.iload 5, 2) := by decide +kernel
theorem dX2_addBidder_69 : decode cX2_addBidder 69 = .ok (.iadd, 1) := by decide +kernel
theorem dX2_addBidder_70 : decode cX2_addBidder 70 = .ok (.iconst 5, 1) := by decide +kernel
theorem dX2_addBidder_71 : decode cX2_addBidder 71 = .ok (.invokevirtual 32, 3) := by decide +kernel
theorem dX2_addBidder_74 : decode cX2_addBidder 74 = .ok (.iinc 5 1, 3) := by decide +kernel
theorem dX2_addBidder_77 : decode cX2_addBidder 77 = .ok (.goto (-21), 3) := by decide +kernel
theorem dX2_addBidder_80 : decode cX2_addBidder 80 = .ok (.iload 4, 2) := by decide +kernel
theorem dX2_addBidder_82 : decode cX2_addBidder 82 = .ok (.ireturn, 1) := by decide +kernel
theorem bX2_addBidder_56 {K : KT} {g : GT} {cm sm : Nat} {cs : Nat × Nat} {c0 : Nat} {x1 : Int} {x2 : Int} {x3 : Int} {r : Int} {σ' : St} (hC : Ctx K g RX2 cX2_addBidder 6 1 cm sm) (hcs : cs.1 ≤ cm ∧ cs.2 ≤ sm) (h0 : isO 2 c0 = true) (hR : RetI K g cX2_addBidder 6 cs r (SH0, σ')) : ∀ (n : Nat) (x4 : Int) (x5 : Int) (σ : St), fX2_addBidder_56 c0 x1 x2 x3 n x4 x5 σ = some (r, σ') → G K g 6 cs 56 [(0, vr c0), (1, vi x1), (2, vi x2), (3, vi x3), (4, vi x4), (5, vi x5)] [] (SH0, σ) := by
  intro n
  induction n with
  | zero =>
    intro x4 x5 σ h
    rw [fX2_addBidder_56.eq_1] at h
    cases h
  | succ n ih =>
    intro x4 x5 σ h
    rw [fX2_addBidder_56.eq_2] at h
    refine g_iload hC dX2_addBidder_56 5 rfl ?_
    refine g_iconst hC dX2_addBidder_58 ok_4 ?_
    refine g_icmp_ge hC dX2_addBidder_59 (tgt := 80) (by decide) (fun h9 => ?_) (fun h9 => ?_)
    · rw [if_pos h9] at h
      refine g_iload hC dX2_addBidder_80 4 rfl ?_
      exact ret_i h hR dX2_addBidder_82
    · rw [if_neg h9] at h
      refine g_aload_n hC dX2_addBidder_62 0 rfl rfl ?_
      refine g_iload hC dX2_addBidder_63 4 rfl ?_
      refine g_bipush hC dX2_addBidder_65 bp_9 ?_
      refine g_iload hC dX2_addBidder_67 5 rfl ?_
      refine g_iadd hC dX2_addBidder_69 ?_
      refine g_iconst hC dX2_addBidder_70 ok_5 ?_
      obtain ⟨s1, e1, h⟩ := of_bind h
      try dsimp only at h
      refine s_callVv hC dX2_addBidder_71 (tX2_become h0 e1) miX2_become mvX2_become mlRX2_32 (isO_spec h0) vc_2 rfl rfl (Nat.le_of_ble_eq_true rfl) (Nat.le_of_ble_eq_true rfl) (Nat.le_of_ble_eq_true rfl) hcs ?_
      refine g_iinc hC dX2_addBidder_74 5 rfl (Nat.le_of_ble_eq_true rfl) rfl ?_
      refine g_goto hC dX2_addBidder_77 (tgt := 56) (by decide) ?_
      exact g_pick [1, 2, 3, 4, 5, 0] rfl (ih _ _ _ h)
theorem bX2_addBidder_0 {K : KT} {g : GT} {cm sm : Nat} {cs : Nat × Nat} {c0 : Nat} {x1 : Int} {x2 : Int} {x3 : Int} {r : Int} {σ' : St} (hC : Ctx K g RX2 cX2_addBidder 6 1 cm sm) (hcs : cs.1 ≤ cm ∧ cs.2 ≤ sm) (h0 : isO 2 c0 = true) (hR : RetI K g cX2_addBidder 6 cs r (SH0, σ')) : ∀ (σ : St), fX2_addBidder c0 x1 x2 x3 σ = some (r, σ') → G K g 6 cs 0 [(0, vr c0), (1, vi x1), (2, vi x2), (3, vi x3)] [] (SH0, σ) := by
  intro σ h
  unfold fX2_addBidder at h
  refine g_aload_n hC dX2_addBidder_0 0 rfl rfl ?_
  refine g_geti hC dX2_addBidder_1 lfRX2_22 (isO_spec h0) (ft_2_3 h0) ?_
  refine g_bipush hC dX2_addBidder_4 bp_7 ?_
  refine g_icmp_lt hC dX2_addBidder_6 (tgt := 12) (by decide) (fun h9 => ?_) (fun h9 => ?_)
  · rw [if_pos h9] at h
    refine g_aload_n hC dX2_addBidder_12 0 rfl rfl ?_
    refine g_geti hC dX2_addBidder_13 lfRX2_22 (isO_spec h0) (ft_2_3 h0) ?_
    refine g_istore hC dX2_addBidder_16 (Nat.le_of_ble_eq_true rfl) rfl ?_
    refine g_aload_n hC dX2_addBidder_18 1 rfl rfl ?_
    refine g_dup hC dX2_addBidder_19 rfl ?_
    refine g_geti hC dX2_addBidder_20 lfRX2_22 (isO_spec h0) (ft_2_3 h0) ?_
    refine g_iconst hC dX2_addBidder_23 ok_1 ?_
    refine g_iadd hC dX2_addBidder_24 ?_
    refine g_puti hC dX2_addBidder_25 lfRX2_22 fp_2_3 (isO_spec h0) (ft_2_3 h0) ?_
    refine g_aload_n hC dX2_addBidder_28 1 rfl rfl ?_
    refine g_iload hC dX2_addBidder_29 0 rfl ?_
    refine g_iconst hC dX2_addBidder_31 ok_4 ?_
    refine g_iload_n hC dX2_addBidder_32 2 rfl rfl ?_
    obtain ⟨s1, e1, h⟩ := of_bind h
    try dsimp only at h
    refine s_callVv hC dX2_addBidder_33 (tX2_become h0 e1) miX2_become mvX2_become mlRX2_32 (isO_spec h0) vc_2 rfl rfl (Nat.le_of_ble_eq_true rfl) (Nat.le_of_ble_eq_true rfl) (Nat.le_of_ble_eq_true rfl) hcs ?_
    refine g_aload_n hC dX2_addBidder_36 1 rfl rfl ?_
    refine g_iload hC dX2_addBidder_37 0 rfl ?_
    refine g_iconst hC dX2_addBidder_39 ok_5 ?_
    refine g_iload_n hC dX2_addBidder_40 3 rfl rfl ?_
    obtain ⟨s2, e2, h⟩ := of_bind h
    try dsimp only at h
    refine s_callVv hC dX2_addBidder_41 (tX2_become h0 e2) miX2_become mvX2_become mlRX2_32 (isO_spec h0) vc_2 rfl rfl (Nat.le_of_ble_eq_true rfl) (Nat.le_of_ble_eq_true rfl) (Nat.le_of_ble_eq_true rfl) hcs ?_
    refine g_aload_n hC dX2_addBidder_44 1 rfl rfl ?_
    refine g_iload hC dX2_addBidder_45 0 rfl ?_
    refine g_bipush hC dX2_addBidder_47 bp_7 ?_
    refine g_iload_n hC dX2_addBidder_49 4 rfl rfl ?_
    obtain ⟨s3, e3, h⟩ := of_bind h
    try dsimp only at h
    refine s_callVv hC dX2_addBidder_50 (tX2_become h0 e3) miX2_become mvX2_become mlRX2_32 (isO_spec h0) vc_2 rfl rfl (Nat.le_of_ble_eq_true rfl) (Nat.le_of_ble_eq_true rfl) (Nat.le_of_ble_eq_true rfl) hcs ?_
    refine g_iconst hC dX2_addBidder_53 ok_0 ?_
    refine g_istore hC dX2_addBidder_54 (Nat.le_of_ble_eq_true rfl) rfl ?_
    exact g_pick [2, 3, 4, 5, 1, 0] rfl (bX2_addBidder_56 hC hcs h0 hR _ _ _ _ h)
  · rw [if_neg h9] at h
    refine g_bipush hC dX2_addBidder_9 bp_m3 ?_
    exact ret_i h hR dX2_addBidder_11
theorem tX2_addBidder {l : Launch} {g : GT} {c0 : Nat} {x1 : Int} {x2 : Int} {x3 : Int} {σ σ' : St} {r : Int} (h0 : isO 2 c0 = true) (h : fX2_addBidder c0 x1 x2 x3 σ = some (r, σ')) : Cn l g yX2_addBidder cX2_addBidder 6 (some .int) 1 0 0 [vr c0, vi x1, vi x2, vi x3] (SH0, σ) (some (vi r)) (SH0, σ') :=
  Cn.ofI (by decide) (Nat.le_of_ble_eq_true rfl) (fun K e hC hR => (bX2_addBidder_0 hC ⟨Nat.le_refl _, Nat.le_refl _⟩ h0 hR _ h))
theorem dX9_isWithin_0 : decode cX9_isWithin 0 = .ok (.iload_n 1, 1) := by decide +kernel
theorem dX9_isWithin_1 : decode cX9_isWithin 1 = .ok (.ifCond .lt 16, 3) := by decide +kernel
theorem dX9_isWithin_4 : decode cX9_isWithin 4 = .ok (.iload_n 1, 1) := by decide +kernel
theorem dX9_isWithin_5 : decode cX9_isWithin 5 = .ok (.getstatic 206, 3) := by decide +kernel
theorem dX9_isWithin_8 : decode cX9_isWithin 8 = .ok (.iload_n 0, 1) := by decide +kernel
theorem dX9_isWithin_9 : decode cX9_isWithin 9 = .ok (.iaload, 1) := by decide +kernel
theorem dX9_isWithin_10 : decode cX9_isWithin 10 = .ok (.if_icmp .gt 7, 3) := by decide +kernel
theorem dX9_isWithin_13 : decode cX9_isWithin 13 = .ok (.iconst 1, 1) := by decide +kernel
theorem dX9_isWithin_14 : decode cX9_isWithin 14 = .ok (.goto 4, 3) := by decide +kernel
theorem dX9_isWithin_17 : decode cX9_isWithin 17 = .ok (.iconst 0, 1) := by decide +kernel
theorem dX9_isWithin_18 : decode cX9_isWithin 18 = .ok (.ireturn, 1) := by decide +kernel
theorem bX9_isWithin_0 {K : KT} {g : GT} {cm sm : Nat} {cs : Nat × Nat} {x0 : Int} {x1 : Int} {r : Int} {σ' : St} (hC : Ctx K g RX9 cX9_isWithin 2 0 cm sm) (hcs : cs.1 ≤ cm ∧ cs.2 ≤ sm) (hR : RetZ K g cX9_isWithin 2 cs r (SH0, σ')) : ∀ (σ : St), fX9_isWithin x0 x1 σ = some (r, σ') → G K g 2 cs 0 [(0, vi x0), (1, vi x1)] [] (SH0, σ) := by
  intro σ h
  unfold fX9_isWithin at h
  refine g_iload_n hC dX9_isWithin_0 1 rfl rfl ?_
  refine g_if_lt hC dX9_isWithin_1 (tgt := 17) (by decide) (fun h9 => ?_) (fun h9 => ?_)
  · rw [if_pos h9] at h
    refine g_iconst hC dX9_isWithin_17 ok_0 ?_
    exact ret_z h hR (by decide) dX9_isWithin_18
  · rw [if_neg h9] at h
    refine g_iload_n hC dX9_isWithin_4 1 rfl rfl ?_
    refine g_gets (k := 0) hC dX9_isWithin_5 rfl gsRX9_206 ?_
    refine g_iload_n hC dX9_isWithin_8 0 rfl rfl ?_
    obtain ⟨b9, h⟩ := of_ite h
    refine g_oald (x := 0) hC dX9_isWithin_9 (xs := stv0) rfl b9 (stv0_ok _) ?_
    refine g_icmp_gt hC dX9_isWithin_10 (tgt := 17) (by decide) (fun h9 => ?_) (fun h9 => ?_)
    · rw [if_pos h9] at h
      refine g_iconst hC dX9_isWithin_17 ok_0 ?_
      exact ret_z h hR (by decide) dX9_isWithin_18
    · rw [if_neg h9] at h
      refine g_iconst hC dX9_isWithin_13 ok_1 ?_
      refine g_goto hC dX9_isWithin_14 (tgt := 18) (by decide) ?_
      exact ret_z h hR (by decide) dX9_isWithin_18
theorem tX9_isWithin {l : Launch} {g : GT} {x0 : Int} {x1 : Int} {σ σ' : St} {r : Int} (h : fX9_isWithin x0 x1 σ = some (r, σ')) : Cn l g yX9_isWithin cX9_isWithin 2 (some .boolean) 0 0 0 [vi x0, vi x1] (SH0, σ) (some (vi r)) (SH0, σ') :=
  Cn.ofZ (by decide) (Nat.le_of_ble_eq_true rfl) (fun K e hC hR => (bX9_isWithin_0 hC ⟨Nat.le_refl _, Nat.le_refl _⟩ hR _ h))
theorem dX9_bidder_0 : decode cX9_bidder 0 = .ok (.iconst 4, 1) := by decide +kernel
theorem dX9_bidder_1 : decode cX9_bidder 1 = .ok (.iload_n 1, 1) := by decide +kernel
theorem dX9_bidder_2 : decode cX9_bidder 2 = .ok (.invokestatic 84, 3) := by decide +kernel
theorem dX9_bidder_5 : decode cX9_bidder 5 = .ok (.ifCond .eq 11, 3) := by decide +kernel
theorem dX9_bidder_8 : decode cX9_bidder 8 = .ok (.iconst 5, 1) := by decide +kernel
theorem dX9_bidder_9 : decode cX9_bidder 9 = .ok (.iload_n 2, 1) := by decide +kernel
theorem dX9_bidder_10 : decode cX9_bidder 10 = .ok (.invokestatic 84, 3) := by decide +kernel
theorem dX9_bidder_13 : decode cX9_bidder 13 = .ok (.ifCond .ne 5, 3) := by decide +kernel
theorem dX9_bidder_16 : decode cX9_bidder 16 = .ok (.iconst (-1), 1) := by decide +kernel
theorem dX9_bidder_17 : decode cX9_bidder 17 = .ok (.ireturn, 1) := by decide +kernel
theorem dX9_bidder_18 : decode cX9_bidder 18 = .ok (.aload_n 0, 1) := by decide +kernel
theorem dX9_bidder_19 : decode cX9_bidder 19 = .ok (.getfield 10, 3) := by decide +kernel
theorem dX9_bidder_22 : decode cX9_bidder 22 = .ok (.iload_n 1, 1) := by decide +kernel
theorem dX9_bidder_23 : decode cX9_bidder 23 = .ok (.iload_n 2, 1) := by decide +kernel
theorem dX9_bidder_24 : decode cX9_bidder 24 = .ok (.iconst 0, 1) := by decide +kernel
theorem dX9_bidder_25 : decode cX9_bidder 25 = .ok (.invokevirtual 88, 3) := by decide +kernel
theorem dX9_bidder_28 : decode cX9_bidder 28 = .ok (.ireturn, 1) := by decide +kernel
theorem bX9_bidder_0 {K : KT} {g : GT} {cm sm : Nat} {cs : Nat × Nat} {c0 : Nat} {x1 : Int} {x2 : Int} {r : Int} {σ' : St} (hC : Ctx K g RX9 cX9_bidder 3 2 cm sm) (hcs : cs.1 ≤ cm ∧ cs.2 ≤ sm) (h0 : isO 9 c0 = true) (hR : RetI K g cX9_bidder 3 cs r (SH0, σ')) : ∀ (σ : St), fX9_bidder c0 x1 x2 σ = some (r, σ') → G K g 3 cs 0 [(0, vr c0), (1, vi x1), (2, vi x2)] [] (SH0, σ) := by
  intro σ h
  unfold fX9_bidder at h
  refine g_iconst hC dX9_bidder_0 ok_4 ?_
  refine g_iload_n hC dX9_bidder_1 1 rfl rfl ?_
  obtain ⟨⟨r1, s1⟩, e1, h⟩ := of_bind h
  try dsimp only at h
  refine s_callSi hC dX9_bidder_2 (tX9_isWithin e1) miX9_isWithin msX9_isWithin mlRX9_84 rfl rfl (Nat.le_of_ble_eq_true rfl) (Nat.le_of_ble_eq_true rfl) (Nat.le_of_ble_eq_true rfl) hcs ?_
  refine g_if_eq hC dX9_bidder_5 (tgt := 16) (by decide) (fun h9 => ?_) (fun h9 => ?_)
  · rw [if_pos h9] at h
    refine g_iconst hC dX9_bidder_16 ok_m1 ?_
    exact ret_i h hR dX9_bidder_17
  · rw [if_neg h9] at h
    refine g_iconst hC dX9_bidder_8 ok_5 ?_
    refine g_iload_n hC dX9_bidder_9 2 rfl rfl ?_
    obtain ⟨⟨r2, s2⟩, e2, h⟩ := of_bind h
    try dsimp only at h
    refine s_callSi hC dX9_bidder_10 (tX9_isWithin e2) miX9_isWithin msX9_isWithin mlRX9_84 rfl rfl (Nat.le_of_ble_eq_true rfl) (Nat.le_of_ble_eq_true rfl) (Nat.le_of_ble_eq_true rfl) hcs ?_
    refine g_if_ne hC dX9_bidder_13 (tgt := 18) (by decide) (fun h9 => ?_) (fun h9 => ?_)
    · rw [if_neg h9] at h
      refine g_aload_n hC dX9_bidder_18 0 rfl rfl ?_
      refine g_getr hC dX9_bidder_19 lfRX9_10 (isO_spec h0) (ft_9_0 h0) ?_
      refine g_iload_n hC dX9_bidder_22 1 rfl rfl ?_
      refine g_iload_n hC dX9_bidder_23 2 rfl rfl ?_
      refine g_iconst hC dX9_bidder_24 ok_0 ?_
      obtain ⟨⟨r3, s3⟩, e3, h⟩ := of_bind h
      try dsimp only at h
      refine s_callVi hC dX9_bidder_25 (tX2_addBidder (rf_9_0 h0) e3) miX2_addBidder mvX2_addBidder mlRX9_88 (isO_spec (rf_9_0 h0)) vc_2 rfl rfl (Nat.le_of_ble_eq_true rfl) (Nat.le_of_ble_eq_true rfl) (Nat.le_of_ble_eq_true rfl) hcs ?_
      exact ret_i h hR dX9_bidder_28
    · rw [if_pos h9] at h
      refine g_iconst hC dX9_bidder_16 ok_m1 ?_
      exact ret_i h hR dX9_bidder_17
theorem tX9_bidder {l : Launch} {g : GT} {c0 : Nat} {x1 : Int} {x2 : Int} {σ σ' : St} {r : Int} (h0 : isO 9 c0 = true) (h : fX9_bidder c0 x1 x2 σ = some (r, σ')) : Cn l g yX9_bidder cX9_bidder 3 (some .int) 2 0 0 [vr c0, vi x1, vi x2] (SH0, σ) (some (vi r)) (SH0, σ') :=
  Cn.ofI (by decide) (Nat.le_of_ble_eq_true rfl) (fun K e hC hR => (bX9_bidder_0 hC ⟨Nat.le_refl _, Nat.le_refl _⟩ h0 hR _ h))
theorem dX9_comesFrom_0 : decode cX9_comesFrom 0 = .ok (.aload_n 1, 1) := by decide +kernel
theorem dX9_comesFrom_1 : decode cX9_comesFrom 1 = .ok (.iload_n 2, 1) := by decide +kernel
theorem dX9_comesFrom_2 : decode cX9_comesFrom 2 = .ok (.invokevirtual 111, 3) := by decide +kernel
theorem dX9_comesFrom_5 : decode cX9_comesFrom 5 = .ok (.l2i, 1) := by decide +kernel
theorem dX9_comesFrom_6 : decode cX9_comesFrom 6 = .ok (.istore_n 3, 1) := by decide +kernel
theorem dX9_comesFrom_7 : decode cX9_comesFrom 7 = .ok (.aload_n 1, 1) := by decide +kernel
theorem dX9_comesFrom_8 : decode cX9_comesFrom 8 = .ok (.iload_n 2, 1) := by decide +kernel
theorem dX9_comesFrom_9 : decode cX9_comesFrom 9 = .ok (.iconst 1, 1) := by decide +kernel
theorem dX9_comesFrom_10 : decode cX9_comesFrom 10 = .ok (.iadd, 1) := by decide +kernel
theorem dX9_comesFrom_11 : decode cX9_comesFrom 11 = .ok (.invokevirtual 111, 3) := by decide +kernel
theorem dX9_comesFrom_14 : decode cX9_comesFrom 14 = .ok (.l2i, 1) := by decide +kernel
theorem dX9_comesFrom_15 : decode cX9_comesFrom 15 = .ok (.istore 4, 2) := by decide +kernel
theorem dX9_comesFrom_17 : decode cX9_comesFrom 17 = .ok (.aload_n 1, 1) := by decide +kernel
theorem dX9_comesFrom_18 : decode cX9_comesFrom 18 = .ok (.iload_n 2, 1) := by decide +kernel
theorem dX9_comesFrom_19 : decode cX9_comesFrom 19 = .ok (.iconst 2, 1) := by decide +kernel
theorem dX9_comesFrom_20 : decode cX9_comesFrom 20 = .ok (.iadd, 1) := by decide +kernel
theorem dX9_comesFrom_21 : decode cX9_comesFrom 21 = .ok (.invokevirtual 111, 3) := by decide +kernel
theorem dX9_comesFrom_24 : decode cX9_comesFrom 24 = .ok (.l2i, 1) := by decide +kernel
theorem dX9_comesFrom_25 : decode cX9_comesFrom 25 = .ok (.istore 5, 2) := by decide +kernel
theorem dX9_comesFrom_27 : decode cX9_comesFrom 27 = .ok (.iconst 4, 1) := by decide +kernel
theorem dX9_comesFrom_28 : decode cX9_comesFrom 28 = .ok (.iload_n 3, 1) := by decide +kernel
theorem dX9_comesFrom_29 : decode cX9_comesFrom 29 = .ok (.invokestatic 84, 3) := by decide +kernel
theorem dX9_comesFrom_32 : decode cX9_comesFrom 32 = .ok (.ifCond .eq 43, 3) := by decide +kernel
theorem dX9_comesFrom_35 : decode cX9_comesFrom 35 = .ok (.iconst 5, 1) := by decide +kernel
theorem dX9_comesFrom_36 : decode cX9_comesFrom 36 = .ok (.iload 4, 2) := by decide +kernel
theorem dX9_comesFrom_38 : decode cX9_comesFrom 38 = .ok (.invokestatic 84, 3) := by decide +kernel
theorem dX9_comesFrom_41 : decode cX9_comesFrom 41 = .ok (.ifCond .eq 34, 3) := by decide +kernel
theorem dX9_comesFrom_44 : decode cX9_comesFrom 44 = .ok (.bipush 7, 2) := by decide +kernel
theorem dX9_comesFrom_46 : decode cX9_comesFrom 46 = .ok (.iload 5, 2) := by decide +kernel
theorem dX9_comesFrom_48 : decode cX9_comesFrom 48 = .ok (.invokestatic 84, 3) := by decide +kernel
theorem dX9_comesFrom_51 : decode cX9_comesFrom 51 = .ok (.ifCond .eq 24, 3) := by decide +kernel
theorem dX9_comesFrom_54 : decode cX9_comesFrom 54 = .ok (.aload_n 0, 1) := by decide +kernel
theorem dX9_comesFrom_55 : decode cX9_comesFrom 55 = .ok (.getfield 10, 3) := by decide +kernel
theorem dX9_comesFrom_58 : decode cX9_comesFrom 58 = .ok (.iload_n 3, 1) := by decide +kernel
theorem dX9_comesFrom_59 : decode cX9_comesFrom 59 = .ok (.iload 4, 2) := by decide +kernel
theorem dX9_comesFrom_61 : decode cX9_comesFrom 61 = .ok (.iload 5, 2) := by decide +kernel
theorem dX9_comesFrom_63 : decode cX9_comesFrom 63 = .ok (.invokevirtual 88, 3) := by decide +kernel
theorem dX9_comesFrom_66 : decode cX9_comesFrom 66 = .ok (.bipush (-3), 2) := by decide +kernel
theorem dX9_comesFrom_68 : decode cX9_comesFrom 68 = .ok (.if_icmp .eq 7, 3) := by decide +kernel
theorem dX9_comesFrom_71 : decode cX9_comesFrom 71 = .ok (.iconst 1, 1) := by decide +kernel
theorem dX9_comesFrom_72 : decode cX9_comesFrom 72 = .ok (.goto 4, 3) := by decide +kernel
theorem dX9_comesFrom_75 : decode cX9_comesFrom 75 = .ok (.iconst 0, 1) := by decide +kernel
theorem dX9_comesFrom_76 : decode cX9_comesFrom 76 = .ok (.ireturn, 1) := by decide +kernel
theorem bX9_comesFrom_0 {K : KT} {g : GT} {cm sm : Nat} {cs : Nat × Nat} {c0 : Nat} {c1 : Nat} {x2 : Int} {r : Int} {σ' : St} (hC : Ctx K g RX9 cX9_comesFrom 6 2 cm sm) (hcs : cs.1 ≤ cm ∧ cs.2 ≤ sm) (h0 : isO 9 c0 = true) (h1 : isO 6 c1 = true) (hR : RetZ K g cX9_comesFrom 6 cs r (SH0, σ')) : ∀ (σ : St), fX9_comesFrom c0 c1 x2 σ = some (r, σ') → G K g 6 cs 0 [(0, vr c0), (1, vr c1), (2, vi x2)] [] (SH0, σ) := by
  intro σ h
  unfold fX9_comesFrom at h
  refine g_aload_n hC dX9_comesFrom_0 1 rfl rfl ?_
  refine g_iload_n hC dX9_comesFrom_1 2 rfl rfl ?_
  obtain ⟨⟨r1, s1⟩, e1, h⟩ := of_bind h
  try dsimp only at h
  refine s_callVl hC dX9_comesFrom_2 (tX6_at h1 e1) miX6_at mvX6_at mlRX9_111 (isO_spec h1) vc_6 rfl rfl (Nat.le_of_ble_eq_true rfl) (Nat.le_of_ble_eq_true rfl) (Nat.le_of_ble_eq_true rfl) hcs ?_
  refine g_l2i hC dX9_comesFrom_5 ?_
  refine g_istore_n hC dX9_comesFrom_6 rfl (Nat.le_of_ble_eq_true rfl) rfl ?_
  refine g_aload_n hC dX9_comesFrom_7 2 rfl rfl ?_
  refine g_iload_n hC dX9_comesFrom_8 3 rfl rfl ?_
  refine g_iconst hC dX9_comesFrom_9 ok_1 ?_
  refine g_iadd hC dX9_comesFrom_10 ?_
  obtain ⟨⟨r2, s2⟩, e2, h⟩ := of_bind h
  try dsimp only at h
  refine s_callVl hC dX9_comesFrom_11 (tX6_at h1 e2) miX6_at mvX6_at mlRX9_111 (isO_spec h1) vc_6 rfl rfl (Nat.le_of_ble_eq_true rfl) (Nat.le_of_ble_eq_true rfl) (Nat.le_of_ble_eq_true rfl) hcs ?_
  refine g_l2i hC dX9_comesFrom_14 ?_
  refine g_istore hC dX9_comesFrom_15 (Nat.le_of_ble_eq_true rfl) rfl ?_
  refine g_aload_n hC dX9_comesFrom_17 3 rfl rfl ?_
  refine g_iload_n hC dX9_comesFrom_18 4 rfl rfl ?_
  refine g_iconst hC dX9_comesFrom_19 ok_2 ?_
  refine g_iadd hC dX9_comesFrom_20 ?_
  obtain ⟨⟨r3, s3⟩, e3, h⟩ := of_bind h
  try dsimp only at h
  refine s_callVl hC dX9_comesFrom_21 (tX6_at h1 e3) miX6_at mvX6_at mlRX9_111 (isO_spec h1) vc_6 rfl rfl (Nat.le_of_ble_eq_true rfl) (Nat.le_of_ble_eq_true rfl) (Nat.le_of_ble_eq_true rfl) hcs ?_
  refine g_l2i hC dX9_comesFrom_24 ?_
  refine g_istore hC dX9_comesFrom_25 (Nat.le_of_ble_eq_true rfl) rfl ?_
  refine g_iconst hC dX9_comesFrom_27 ok_4 ?_
  refine g_iload_n hC dX9_comesFrom_28 2 rfl rfl ?_
  obtain ⟨⟨r4, s4⟩, e4, h⟩ := of_bind h
  try dsimp only at h
  refine s_callSi hC dX9_comesFrom_29 (tX9_isWithin e4) miX9_isWithin msX9_isWithin mlRX9_84 rfl rfl (Nat.le_of_ble_eq_true rfl) (Nat.le_of_ble_eq_true rfl) (Nat.le_of_ble_eq_true rfl) hcs ?_
  refine g_if_eq hC dX9_comesFrom_32 (tgt := 75) (by decide) (fun h9 => ?_) (fun h9 => ?_)
  · rw [if_pos h9] at h
    refine g_iconst hC dX9_comesFrom_75 ok_0 ?_
    exact ret_z h hR (by decide) dX9_comesFrom_76
  · rw [if_neg h9] at h
    refine g_iconst hC dX9_comesFrom_35 ok_5 ?_
    refine g_iload hC dX9_comesFrom_36 1 rfl ?_
    obtain ⟨⟨r5, s5⟩, e5, h⟩ := of_bind h
    try dsimp only at h
    refine s_callSi hC dX9_comesFrom_38 (tX9_isWithin e5) miX9_isWithin msX9_isWithin mlRX9_84 rfl rfl (Nat.le_of_ble_eq_true rfl) (Nat.le_of_ble_eq_true rfl) (Nat.le_of_ble_eq_true rfl) hcs ?_
    refine g_if_eq hC dX9_comesFrom_41 (tgt := 75) (by decide) (fun h9 => ?_) (fun h9 => ?_)
    · rw [if_pos h9] at h
      refine g_iconst hC dX9_comesFrom_75 ok_0 ?_
      exact ret_z h hR (by decide) dX9_comesFrom_76
    · rw [if_neg h9] at h
      refine g_bipush hC dX9_comesFrom_44 bp_7 ?_
      refine g_iload hC dX9_comesFrom_46 0 rfl ?_
      obtain ⟨⟨r6, s6⟩, e6, h⟩ := of_bind h
      try dsimp only at h
      refine s_callSi hC dX9_comesFrom_48 (tX9_isWithin e6) miX9_isWithin msX9_isWithin mlRX9_84 rfl rfl (Nat.le_of_ble_eq_true rfl) (Nat.le_of_ble_eq_true rfl) (Nat.le_of_ble_eq_true rfl) hcs ?_
      refine g_if_eq hC dX9_comesFrom_51 (tgt := 75) (by decide) (fun h9 => ?_) (fun h9 => ?_)
      · rw [if_pos h9] at h
        refine g_iconst hC dX9_comesFrom_75 ok_0 ?_
        exact ret_z h hR (by decide) dX9_comesFrom_76
      · rw [if_neg h9] at h
        refine g_aload_n hC dX9_comesFrom_54 3 rfl rfl ?_
        refine g_getr hC dX9_comesFrom_55 lfRX9_10 (isO_spec h0) (ft_9_0 h0) ?_
        refine g_iload_n hC dX9_comesFrom_58 2 rfl rfl ?_
        refine g_iload hC dX9_comesFrom_59 1 rfl ?_
        refine g_iload hC dX9_comesFrom_61 0 rfl ?_
        obtain ⟨⟨r7, s7⟩, e7, h⟩ := of_bind h
        try dsimp only at h
        refine s_callVi hC dX9_comesFrom_63 (tX2_addBidder (rf_9_0 h0) e7) miX2_addBidder mvX2_addBidder mlRX9_88 (isO_spec (rf_9_0 h0)) vc_2 rfl rfl (Nat.le_of_ble_eq_true rfl) (Nat.le_of_ble_eq_true rfl) (Nat.le_of_ble_eq_true rfl) hcs ?_
        refine g_bipush hC dX9_comesFrom_66 bp_m3 ?_
        refine g_icmp_eq hC dX9_comesFrom_68 (tgt := 75) (by decide) (fun h9 => ?_) (fun h9 => ?_)
        · rw [if_pos h9] at h
          refine g_iconst hC dX9_comesFrom_75 ok_0 ?_
          exact ret_z h hR (by decide) dX9_comesFrom_76
        · rw [if_neg h9] at h
          refine g_iconst hC dX9_comesFrom_71 ok_1 ?_
          refine g_goto hC dX9_comesFrom_72 (tgt := 76) (by decide) ?_
          exact ret_z h hR (by decide) dX9_comesFrom_76
theorem tX9_comesFrom {l : Launch} {g : GT} {c0 : Nat} {c1 : Nat} {x2 : Int} {σ σ' : St} {r : Int} (h0 : isO 9 c0 = true) (h1 : isO 6 c1 = true) (h : fX9_comesFrom c0 c1 x2 σ = some (r, σ')) : Cn l g yX9_comesFrom cX9_comesFrom 6 (some .boolean) 2 0 0 [vr c0, vr c1, vi x2] (SH0, σ) (some (vi r)) (SH0, σ') :=
  Cn.ofZ (by decide) (Nat.le_of_ble_eq_true rfl) (fun K e hC hR => (bX9_comesFrom_0 hC ⟨Nat.le_refl _, Nat.le_refl _⟩ h0 h1 hR _ h))
theorem dX9_bidders_0 : decode cX9_bidders 0 = .ok (.iload_n 1, 1) := by decide +kernel
theorem dX9_bidders_1 : decode cX9_bidders 1 = .ok (.invokestatic 92, 3) := by decide +kernel
theorem dX9_bidders_4 : decode cX9_bidders 4 = .ok (.ifCond .eq 14, 3) := by decide +kernel
theorem dX9_bidders_7 : decode cX9_bidders 7 = .ok (.iload_n 3, 1) := by decide +kernel
theorem dX9_bidders_8 : decode cX9_bidders 8 = .ok (.iconst 1, 1) := by decide +kernel
theorem dX9_bidders_9 : decode cX9_bidders 9 = .ok (.if_icmp .lt 9, 3) := by decide +kernel
theorem dX9_bidders_12 : decode cX9_bidders 12 = .ok (.iload_n 3, 1) := by decide +kernel
theorem dX9_bidders_13 : decode cX9_bidders 13 = .ok (.bipush 7, 2) := by decide +kernel
theorem dX9_bidders_15 : decode cX9_bidders 15 = .ok (.if_icmp .le 5, 3) := by decide +kernel
theorem dX9_bidders_18 : decode cX9_bidders 18 = .ok (.iconst (-1), 1) := by decide +kernel
theorem dX9_bidders_19 : decode cX9_bidders 19 = .ok (.ireturn, 1) := by decide +kernel
theorem dX9_bidders_20 : decode cX9_bidders 20 = .ok (.aload_n 0, 1) := by decide +kernel
theorem dX9_bidders_21 : decode cX9_bidders 21 = .ok (.getfield 75, 3) := by decide +kernel
theorem dX9_bidders_24 : decode cX9_bidders 24 = .ok (.iload_n 1, 1) := by decide +kernel
theorem dX9_bidders_25 : decode cX9_bidders 25 = .ok (.aaload, 1) := by decide +kernel
theorem dX9_bidders_26 : decode cX9_bidders 26 = .ok (.astore 4, 2) := by decide +kernel
theorem dX9_bidders_28 : decode cX9_bidders 28 = .ok (.aload 4, 2) := by decide +kernel
theorem dX9_bidders_30 : decode cX9_bidders 30 = .ok (.getfield 96, 3) := by decide +kernel
theorem dX9_bidders_33 : decode cX9_bidders 33 = .ok (.ifCond .ne 5, 3) := by decide +kernel
theorem dX9_bidders_36 : decode cX9_bidders 36 = .ok (.iconst 0, 1) := by decide +kernel
theorem dX9_bidders_37 : decode cX9_bidders 37 = .ok (.ireturn, 1) := by decide +kernel
theorem dX9_bidders_38 : decode cX9_bidders 38 = .ok (.aload 4, 2) := by decide +kernel
theorem dX9_bidders_40 : decode cX9_bidders 40 = .ok (.invokevirtual 100, 3) := by decide +kernel
theorem dX9_bidders_43 : decode cX9_bidders 43 = .ok (.ifCond .ne 6, 3) := by decide +kernel
theorem dX9_bidders_46 : decode cX9_bidders 46 = .ok (.bipush (-12), 2) := by decide +kernel
theorem dX9_bidders_48 : decode cX9_bidders 48 = .ok (.ireturn, 1) := by decide +kernel
theorem dX9_bidders_49 : decode cX9_bidders 49 = .ok (.iconst 0, 1) := by decide +kernel
theorem dX9_bidders_50 : decode cX9_bidders 50 = .ok (.istore 5, 2) := by decide +kernel
theorem dX9_bidders_52 : decode cX9_bidders 52 = .ok (.iload_n 2, 1) := by decide +kernel
theorem dX9_bidders_53 : decode cX9_bidders 53 = .ok (.istore 6, 2) := by decide +kernel
theorem dX9_bidders_55 : decode cX9_bidders 55 = .ok (.iload 5, 2) := by decide +kernel
theorem dX9_bidders_57 : decode cX9_bidders 57 = .ok (.iload_n 3, 1) := by decide +kernel
theorem dX9_bidders_58 : decode cX9_bidders 58 = .ok (.if_icmp .ge 37, 3) := by decide +kernel
theorem dX9_bidders_61 : decode cX9_bidders 61 = .ok (.aload 4, 2) := by decide +kernel
theorem dX9_bidders_63 : decode cX9_bidders 63 = .ok (.iload 6, 2) := by decide +kernel
theorem dX9_bidders_65 : decode cX9_bidders 65 = .ok (.iconst 3, 1) := by decide +kernel
theorem dX9_bidders_66 : decode cX9_bidders 66 = .ok (.invokevirtual 104, 3) := by decide +kernel
theorem dX9_bidders_69 : decode cX9_bidders 69 = .ok (.ifCond .eq 26, 3) := by decide +kernel
theorem dX9_bidders_72 : decode cX9_bidders 72 = .ok (.aload_n 0, 1) := by decide +kernel
theorem dX9_bidders_73 : decode cX9_bidders 73 = .ok (.aload 4, 2) := by decide +kernel
theorem dX9_bidders_75 : decode cX9_bidders 75 = .ok (.iload 6, 2) := by decide +kernel
theorem dX9_bidders_77 : decode cX9_bidders 77 = .ok (.invokevirtual 107, 3) := by decide +kernel
theorem dX9_bidders_80 : decode cX9_bidders 80 = .ok (.ifCond .ne 6, 3) := by decide +kernel
theorem dX9_bidders_83 : decode cX9_bidders 83 = .ok (.goto 12, 3) := by decide +kernel
theorem dX9_bidders_86 : decode cX9_bidders 86 = .ok (.iinc 5 1, 3) := by decide +kernel
theorem dX9_bidders_89 : decode cX9_bidders 89 = .ok (.iinc 6 3, 3) := by decide +kernel
theorem dX9_bidders_92 : decode cX9_bidders 92 = .ok (.goto (-37), 3) := by decide +kernel
theorem dX9_bidders_95 : decode cX9_bidders 95 = .ok (.iload 5, 2) := by decide +kernel
theorem dX9_bidders_97 : decode cX9_bidders 97 = .ok (.ireturn, 1) := by decide +kernel
theorem bX9_bidders_55 {K : KT} {g : GT} {cm sm : Nat} {cs : Nat × Nat} {c0 : Nat} {x1 : Int} {x2 : Int} {x3 : Int} {r : Int} {σ' : St} (hC : Ctx K g RX9 cX9_bidders 7 3 cm sm) (hcs : cs.1 ≤ cm ∧ cs.2 ≤ sm) (h0 : isO 9 c0 = true) (hR : RetI K g cX9_bidders 7 cs r (SH0, σ')) : ∀ (n : Nat) (c4 : Nat) (x5 : Int) (x6 : Int) (σ : St), isO 6 c4 = true → fX9_bidders_55 c0 x1 x2 x3 n c4 x5 x6 σ = some (r, σ') → G K g 7 cs 55 [(0, vr c0), (1, vi x1), (2, vi x2), (3, vi x3), (4, vr c4), (5, vi x5), (6, vi x6)] [] (SH0, σ) := by
  intro n
  induction n with
  | zero =>
    intro c4 x5 x6 σ h4 h
    rw [fX9_bidders_55.eq_1] at h
    cases h
  | succ n ih =>
    intro c4 x5 x6 σ h4 h
    rw [fX9_bidders_55.eq_2] at h
    refine g_iload hC dX9_bidders_55 5 rfl ?_
    refine g_iload_n hC dX9_bidders_57 3 rfl rfl ?_
    refine g_icmp_ge hC dX9_bidders_58 (tgt := 95) (by decide) (fun h9 => ?_) (fun h9 => ?_)
    · rw [if_pos h9] at h
      refine g_iload hC dX9_bidders_95 5 rfl ?_
      exact ret_i h hR dX9_bidders_97
    · rw [if_neg h9] at h
      refine g_aload hC dX9_bidders_61 4 rfl ?_
      refine g_iload hC dX9_bidders_63 6 rfl ?_
      refine g_iconst hC dX9_bidders_65 ok_3 ?_
      obtain ⟨⟨r1, s1⟩, e1, h⟩ := of_bind h
      try dsimp only at h
      refine s_callVi hC dX9_bidders_66 (tX6_hasRun h4 e1) miX6_hasRun mvX6_hasRun mlRX9_104 (isO_spec h4) vc_6 rfl rfl (Nat.le_of_ble_eq_true rfl) (Nat.le_of_ble_eq_true rfl) (Nat.le_of_ble_eq_true rfl) hcs ?_
      refine g_if_eq hC dX9_bidders_69 (tgt := 95) (by decide) (fun h9 => ?_) (fun h9 => ?_)
      · rw [if_pos h9] at h
        refine g_iload hC dX9_bidders_95 5 rfl ?_
        exact ret_i h hR dX9_bidders_97
      · rw [if_neg h9] at h
        refine g_aload_n hC dX9_bidders_72 0 rfl rfl ?_
        refine g_aload hC dX9_bidders_73 4 rfl ?_
        refine g_iload hC dX9_bidders_75 6 rfl ?_
        obtain ⟨⟨r2, s2⟩, e2, h⟩ := of_bind h
        try dsimp only at h
        refine s_callVi hC dX9_bidders_77 (tX9_comesFrom h0 h4 e2) miX9_comesFrom mvX9_comesFrom mlRX9_107 (isO_spec h0) vc_9 rfl rfl (Nat.le_of_ble_eq_true rfl) (Nat.le_of_ble_eq_true rfl) (Nat.le_of_ble_eq_true rfl) hcs ?_
        refine g_if_ne hC dX9_bidders_80 (tgt := 86) (by decide) (fun h9 => ?_) (fun h9 => ?_)
        · rw [if_neg h9] at h
          refine g_iinc hC dX9_bidders_86 5 rfl (Nat.le_of_ble_eq_true rfl) rfl ?_
          refine g_iinc hC dX9_bidders_89 6 rfl (Nat.le_of_ble_eq_true rfl) rfl ?_
          refine g_goto hC dX9_bidders_92 (tgt := 55) (by decide) ?_
          exact g_pick [2, 3, 4, 5, 6, 1, 0] rfl (ih _ _ _ _ h4 h)
        · rw [if_pos h9] at h
          refine g_goto hC dX9_bidders_83 (tgt := 95) (by decide) ?_
          refine g_iload hC dX9_bidders_95 5 rfl ?_
          exact ret_i h hR dX9_bidders_97
theorem bX9_bidders_0 {K : KT} {g : GT} {cm sm : Nat} {cs : Nat × Nat} {c0 : Nat} {x1 : Int} {x2 : Int} {x3 : Int} {r : Int} {σ' : St} (hC : Ctx K g RX9 cX9_bidders 7 3 cm sm) (hcs : cs.1 ≤ cm ∧ cs.2 ≤ sm) (h0 : isO 9 c0 = true) (hR : RetI K g cX9_bidders 7 cs r (SH0, σ')) : ∀ (σ : St), fX9_bidders c0 x1 x2 x3 σ = some (r, σ') → G K g 7 cs 0 [(0, vr c0), (1, vi x1), (2, vi x2), (3, vi x3)] [] (SH0, σ) := by
  intro σ h
  unfold fX9_bidders at h
  refine g_iload_n hC dX9_bidders_0 1 rfl rfl ?_
  obtain ⟨⟨r1, s1⟩, e1, h⟩ := of_bind h
  try dsimp only at h
  refine s_callSi hC dX9_bidders_1 (tX9_isShelf e1) miX9_isShelf msX9_isShelf mlRX9_92 rfl rfl (Nat.le_of_ble_eq_true rfl) (Nat.le_of_ble_eq_true rfl) (Nat.le_of_ble_eq_true rfl) hcs ?_
  refine g_if_eq hC dX9_bidders_4 (tgt := 18) (by decide) (fun h9 => ?_) (fun h9 => ?_)
  · rw [if_pos h9] at h
    refine g_iconst hC dX9_bidders_18 ok_m1 ?_
    exact ret_i h hR dX9_bidders_19
  · rw [if_neg h9] at h
    refine g_iload_n hC dX9_bidders_7 3 rfl rfl ?_
    refine g_iconst hC dX9_bidders_8 ok_1 ?_
    refine g_icmp_lt hC dX9_bidders_9 (tgt := 18) (by decide) (fun h9 => ?_) (fun h9 => ?_)
    · rw [if_pos h9] at h
      refine g_iconst hC dX9_bidders_18 ok_m1 ?_
      exact ret_i h hR dX9_bidders_19
    · rw [if_neg h9] at h
      refine g_iload_n hC dX9_bidders_12 3 rfl rfl ?_
      refine g_bipush hC dX9_bidders_13 bp_7 ?_
      refine g_icmp_le hC dX9_bidders_15 (tgt := 20) (by decide) (fun h9 => ?_) (fun h9 => ?_)
      · rw [if_pos h9] at h
        refine g_aload_n hC dX9_bidders_20 0 rfl rfl ?_
        refine g_getr hC dX9_bidders_21 lfRX9_75 (isO_spec h0) (ft_9_8 h0) ?_
        refine g_iload_n hC dX9_bidders_24 1 rfl rfl ?_
        obtain ⟨b9, h⟩ := of_ite h
        refine g_aald hC dX9_bidders_25 (isA_spec (rf_9_8 h0)) b9 (sh_at (rf_9_8 h0) b9).1 ?_
        have b22 := (sh_at (rf_9_8 h0) b9).2
        refine g_astore hC dX9_bidders_26 (Nat.le_of_ble_eq_true rfl) rfl ?_
        refine g_aload hC dX9_bidders_28 0 rfl ?_
        refine g_geti hC dX9_bidders_30 lfRX9_96 (isO_spec b22) (ft_6_1 b22) ?_
        refine g_if_ne hC dX9_bidders_33 (tgt := 38) (by decide) (fun h9 => ?_) (fun h9 => ?_)
        · rw [if_neg h9] at h
          refine g_aload hC dX9_bidders_38 0 rfl ?_
          obtain ⟨⟨r3, s3⟩, e3, h⟩ := of_bind h
          try dsimp only at h
          refine s_callVi hC dX9_bidders_40 (tX6_holdsBytes b22 e3) miX6_holdsBytes mvX6_holdsBytes mlRX9_100 (isO_spec b22) vc_6 rfl rfl (Nat.le_of_ble_eq_true rfl) (Nat.le_of_ble_eq_true rfl) (Nat.le_of_ble_eq_true rfl) hcs ?_
          refine g_if_ne hC dX9_bidders_43 (tgt := 49) (by decide) (fun h9 => ?_) (fun h9 => ?_)
          · rw [if_neg h9] at h
            refine g_iconst hC dX9_bidders_49 ok_0 ?_
            refine g_istore hC dX9_bidders_50 (Nat.le_of_ble_eq_true rfl) rfl ?_
            refine g_iload_n hC dX9_bidders_52 4 rfl rfl ?_
            refine g_istore hC dX9_bidders_53 (Nat.le_of_ble_eq_true rfl) rfl ?_
            exact g_pick [3, 4, 5, 6, 2, 1, 0] rfl (bX9_bidders_55 hC hcs h0 hR _ _ _ _ _ b22 h)
          · rw [if_pos h9] at h
            refine g_bipush hC dX9_bidders_46 bp_m12 ?_
            exact ret_i h hR dX9_bidders_48
        · rw [if_pos h9] at h
          refine g_iconst hC dX9_bidders_36 ok_0 ?_
          exact ret_i h hR dX9_bidders_37
      · rw [if_neg h9] at h
        refine g_iconst hC dX9_bidders_18 ok_m1 ?_
        exact ret_i h hR dX9_bidders_19
theorem tX9_bidders {l : Launch} {g : GT} {c0 : Nat} {x1 : Int} {x2 : Int} {x3 : Int} {σ σ' : St} {r : Int} (h0 : isO 9 c0 = true) (h : fX9_bidders c0 x1 x2 x3 σ = some (r, σ')) : Cn l g yX9_bidders cX9_bidders 7 (some .int) 3 0 0 [vr c0, vi x1, vi x2, vi x3] (SH0, σ) (some (vi r)) (SH0, σ') :=
  Cn.ofI (by decide) (Nat.le_of_ble_eq_true rfl) (fun K e hC hR => (bX9_bidders_0 hC ⟨Nat.le_refl _, Nat.le_refl _⟩ h0 hR _ h))
theorem dX5_add_0 : decode cX5_add 0 = .ok (.aload_n 0, 1) := by decide +kernel
theorem dX5_add_1 : decode cX5_add 1 = .ok (.getfield 18, 3) := by decide +kernel
theorem dX5_add_4 : decode cX5_add 4 = .ok (.istore_n 2, 1) := by decide +kernel
theorem dX5_add_5 : decode cX5_add 5 = .ok (.iload_n 2, 1) := by decide +kernel
theorem dX5_add_6 : decode cX5_add 6 = .ok (.bipush 50, 2) := by decide +kernel
theorem dX5_add_8 : decode cX5_add 8 = .ok (.if_icmp .ge 20, 3) := by decide +kernel
theorem dX5_add_11 : decode cX5_add 11 = .ok (.aload_n 0, 1) := by decide +kernel
theorem dX5_add_12 : decode cX5_add 12 = .ok (.getfield 11, 3) := by decide +kernel
theorem dX5_add_15 : decode cX5_add 15 = .ok (.iload_n 2, 1) := by decide +kernel
theorem dX5_add_16 : decode cX5_add 16 = .ok (.iload_n 1, 1) := by decide +kernel
theorem dX5_add_17 : decode cX5_add 17 = .ok (.iastore, 1) := by decide +kernel
theorem dX5_add_18 : decode cX5_add 18 = .ok (.aload_n 0, 1) := by decide +kernel
theorem dX5_add_19 : decode cX5_add 19 = .ok (.dup, 1) := by decide +kernel
theorem dX5_add_20 : decode cX5_add 20 = .ok (.getfield 18, 3) := by decide +kernel
theorem dX5_add_23 : decode cX5_add 23 = .ok (.iconst 1, 1) := by decide +kernel
theorem dX5_add_24 : decode cX5_add 24 = .ok (.iadd, 1) := by decide +kernel
theorem dX5_add_25 : decode cX5_add 25 = .ok (.putfield 18, 3) := by decide +kernel
theorem dX5_add_28 : decode cX5_add 28 = .ok (.iload_n 2, 1) := by decide +kernel
theorem dX5_add_29 : decode cX5_add 29 = .ok (.ireturn, 1) := by decide +kernel
theorem bX5_add_0 {K : KT} {g : GT} {cm sm : Nat} {cs : Nat × Nat} {c0 : Nat} {x1 : Int} {r : Int} {σ' : St} (hC : Ctx K g RX5 cX5_add 3 0 cm sm) (hcs : cs.1 ≤ cm ∧ cs.2 ≤ sm) (h0 : isO 5 c0 = true) (hR : RetI K g cX5_add 3 cs r (SH0, σ')) : ∀ (σ : St), fX5_add c0 x1 σ = some (r, σ') → G K g 3 cs 0 [(0, vr c0), (1, vi x1)] [] (SH0, σ) := by
  intro σ h
  unfold fX5_add at h
  refine g_aload_n hC dX5_add_0 0 rfl rfl ?_
  refine g_geti hC dX5_add_1 lfRX5_18 (isO_spec h0) (ft_5_2 h0) ?_
  refine g_istore_n hC dX5_add_4 rfl (Nat.le_of_ble_eq_true rfl) rfl ?_
  refine g_iload_n hC dX5_add_5 0 rfl rfl ?_
  refine g_bipush hC dX5_add_6 bp_50 ?_
  refine g_icmp_ge hC dX5_add_8 (tgt := 28) (by decide) (fun h9 => ?_) (fun h9 => ?_)
  · rw [if_pos h9] at h
    refine g_iload_n hC dX5_add_28 0 rfl rfl ?_
    exact ret_i h hR dX5_add_29
  · rw [if_neg h9] at h
    refine g_aload_n hC dX5_add_11 1 rfl rfl ?_
    refine g_getr hC dX5_add_12 lfRX5_11 (isO_spec h0) (ft_5_0 h0) ?_
    refine g_iload_n hC dX5_add_15 0 rfl rfl ?_
    refine g_iload_n hC dX5_add_16 2 rfl rfl ?_
    obtain ⟨b9, h⟩ := of_ite h
    refine g_iast hC dX5_add_17 (isA_spec (rf_5_0 h0)) b9 ?_
    refine g_aload_n hC dX5_add_18 1 rfl rfl ?_
    refine g_dup hC dX5_add_19 rfl ?_
    refine g_geti hC dX5_add_20 lfRX5_18 (isO_spec h0) (ft_5_2 h0) ?_
    refine g_iconst hC dX5_add_23 ok_1 ?_
    refine g_iadd hC dX5_add_24 ?_
    refine g_puti hC dX5_add_25 lfRX5_18 fp_5_2 (isO_spec h0) (ft_5_2 h0) ?_
    refine g_iload_n hC dX5_add_28 0 rfl rfl ?_
    exact ret_i h hR dX5_add_29
theorem tX5_add {l : Launch} {g : GT} {c0 : Nat} {x1 : Int} {σ σ' : St} {r : Int} (h0 : isO 5 c0 = true) (h : fX5_add c0 x1 σ = some (r, σ')) : Cn l g yX5_add cX5_add 3 (some .int) 0 0 0 [vr c0, vi x1] (SH0, σ) (some (vi r)) (SH0, σ') :=
  Cn.ofI (by decide) (Nat.le_of_ble_eq_true rfl) (fun K e hC hR => (bX5_add_0 hC ⟨Nat.le_refl _, Nat.le_refl _⟩ h0 hR _ h))
theorem dX5_isFull_0 : decode cX5_isFull 0 = .ok (.aload_n 0, 1) := by decide +kernel
theorem dX5_isFull_1 : decode cX5_isFull 1 = .ok (.getfield 18, 3) := by decide +kernel
theorem dX5_isFull_4 : decode cX5_isFull 4 = .ok (.bipush 50, 2) := by decide +kernel
theorem dX5_isFull_6 : decode cX5_isFull 6 = .ok (.if_icmp .lt 7, 3) := by decide +kernel
theorem dX5_isFull_9 : decode cX5_isFull 9 = .ok (.iconst 1, 1) := by decide +kernel
theorem dX5_isFull_10 : decode cX5_isFull 10 = .ok (.goto 4, 3) := by decide +kernel
theorem dX5_isFull_13 : decode cX5_isFull 13 = .ok (.iconst 0, 1) := by decide +kernel
theorem dX5_isFull_14 : decode cX5_isFull 14 = .ok (.ireturn, 1) := by decide +kernel
theorem bX5_isFull_0 {K : KT} {g : GT} {cm sm : Nat} {cs : Nat × Nat} {c0 : Nat} {r : Int} {σ' : St} (hC : Ctx K g RX5 cX5_isFull 1 0 cm sm) (hcs : cs.1 ≤ cm ∧ cs.2 ≤ sm) (h0 : isO 5 c0 = true) (hR : RetZ K g cX5_isFull 1 cs r (SH0, σ')) : ∀ (σ : St), fX5_isFull c0 σ = some (r, σ') → G K g 1 cs 0 [(0, vr c0)] [] (SH0, σ) := by
  intro σ h
  unfold fX5_isFull at h
  refine g_aload_n hC dX5_isFull_0 0 rfl rfl ?_
  refine g_geti hC dX5_isFull_1 lfRX5_18 (isO_spec h0) (ft_5_2 h0) ?_
  refine g_bipush hC dX5_isFull_4 bp_50 ?_
  refine g_icmp_lt hC dX5_isFull_6 (tgt := 13) (by decide) (fun h9 => ?_) (fun h9 => ?_)
  · rw [if_pos h9] at h
    refine g_iconst hC dX5_isFull_13 ok_0 ?_
    exact ret_z h hR (by decide) dX5_isFull_14
  · rw [if_neg h9] at h
    refine g_iconst hC dX5_isFull_9 ok_1 ?_
    refine g_goto hC dX5_isFull_10 (tgt := 14) (by decide) ?_
    exact ret_z h hR (by decide) dX5_isFull_14
theorem tX5_isFull {l : Launch} {g : GT} {c0 : Nat} {σ σ' : St} {r : Int} (h0 : isO 5 c0 = true) (h : fX5_isFull c0 σ = some (r, σ')) : Cn l g yX5_isFull cX5_isFull 1 (some .boolean) 0 0 0 [vr c0] (SH0, σ) (some (vi r)) (SH0, σ') :=
  Cn.ofZ (by decide) (Nat.le_of_ble_eq_true rfl) (fun K e hC hR => (bX5_isFull_0 hC ⟨Nat.le_refl _, Nat.le_refl _⟩ h0 hR _ h))
theorem dX9_body_0 : decode cX9_body 0 = .ok (.iload_n 1, 1) := by decide +kernel
theorem dX9_body_1 : decode cX9_body 1 = .ok (.ifCond .lt 9, 3) := by decide +kernel
theorem dX9_body_4 : decode cX9_body 4 = .ok (.iload_n 1, 1) := by decide +kernel
theorem dX9_body_5 : decode cX9_body 5 = .ok (.bipush 8, 2) := by decide +kernel
theorem dX9_body_7 : decode cX9_body 7 = .ok (.if_icmp .lt 5, 3) := by decide +kernel
theorem dX9_body_10 : decode cX9_body 10 = .ok (.iconst (-1), 1) := by decide +kernel
theorem dX9_body_11 : decode cX9_body 11 = .ok (.ireturn, 1) := by decide +kernel
theorem dX9_body_12 : decode cX9_body 12 = .ok (.aload_n 0, 1) := by decide +kernel
theorem dX9_body_13 : decode cX9_body 13 = .ok (.getfield 65, 3) := by decide +kernel
theorem dX9_body_16 : decode cX9_body 16 = .ok (.invokevirtual 295, 3) := by decide +kernel
theorem dX9_body_19 : decode cX9_body 19 = .ok (.ifCond .eq 8, 3) := by decide +kernel
theorem dX9_body_22 : decode cX9_body 22 = .ok (.bipush (-3), 2) := by decide +kernel
theorem dX9_body_24 : decode cX9_body 24 = .ok (.goto 11, 3) := by decide +kernel
theorem dX9_body_27 : decode cX9_body 27 = .ok (.aload_n 0, 1) := by decide +kernel
theorem dX9_body_28 : decode cX9_body 28 = .ok (.getfield 65, 3) := by decide +kernel
theorem dX9_body_31 : decode cX9_body 31 = .ok (.iload_n 1, 1) := by decide +kernel
theorem dX9_body_32 : decode cX9_body 32 = .ok (.invokevirtual 298, 3) := by decide +kernel
theorem dX9_body_35 : decode cX9_body 35 = .ok (.ireturn, 1) := by decide +kernel
theorem bX9_body_0 {K : KT} {g : GT} {cm sm : Nat} {cs : Nat × Nat} {c0 : Nat} {x1 : Int} {r : Int} {σ' : St} (hC : Ctx K g RX9 cX9_body 2 1 cm sm) (hcs : cs.1 ≤ cm ∧ cs.2 ≤ sm) (h0 : isO 9 c0 = true) (hR : RetI K g cX9_body 2 cs r (SH0, σ')) : ∀ (σ : St), fX9_body c0 x1 σ = some (r, σ') → G K g 2 cs 0 [(0, vr c0), (1, vi x1)] [] (SH0, σ) := by
  intro σ h
  unfold fX9_body at h
  refine g_iload_n hC dX9_body_0 1 rfl rfl ?_
  refine g_if_lt hC dX9_body_1 (tgt := 10) (by decide) (fun h9 => ?_) (fun h9 => ?_)
  · rw [if_pos h9] at h
    refine g_iconst hC dX9_body_10 ok_m1 ?_
    exact ret_i h hR dX9_body_11
  · rw [if_neg h9] at h
    refine g_iload_n hC dX9_body_4 1 rfl rfl ?_
    refine g_bipush hC dX9_body_5 bp_8 ?_
    refine g_icmp_lt hC dX9_body_7 (tgt := 12) (by decide) (fun h9 => ?_) (fun h9 => ?_)
    · rw [if_pos h9] at h
      refine g_aload_n hC dX9_body_12 0 rfl rfl ?_
      refine g_getr hC dX9_body_13 lfRX9_65 (isO_spec h0) (ft_9_7 h0) ?_
      obtain ⟨⟨r1, s1⟩, e1, h⟩ := of_bind h
      try dsimp only at h
      refine s_callVi hC dX9_body_16 (tX5_isFull (rf_9_7 h0) e1) miX5_isFull mvX5_isFull mlRX9_295 (isO_spec (rf_9_7 h0)) vc_5 rfl rfl (Nat.le_of_ble_eq_true rfl) (Nat.le_of_ble_eq_true rfl) (Nat.le_of_ble_eq_true rfl) hcs ?_
      refine g_if_eq hC dX9_body_19 (tgt := 27) (by decide) (fun h9 => ?_) (fun h9 => ?_)
      · rw [if_pos h9] at h
        refine g_aload_n hC dX9_body_27 0 rfl rfl ?_
        refine g_getr hC dX9_body_28 lfRX9_65 (isO_spec h0) (ft_9_7 h0) ?_
        refine g_iload_n hC dX9_body_31 1 rfl rfl ?_
        obtain ⟨⟨r2, s2⟩, e2, h⟩ := of_bind h
        try dsimp only at h
        refine s_callVi hC dX9_body_32 (tX5_add (rf_9_7 h0) e2) miX5_add mvX5_add mlRX9_298 (isO_spec (rf_9_7 h0)) vc_5 rfl rfl (Nat.le_of_ble_eq_true rfl) (Nat.le_of_ble_eq_true rfl) (Nat.le_of_ble_eq_true rfl) hcs ?_
        exact ret_i h hR dX9_body_35
      · rw [if_neg h9] at h
        refine g_bipush hC dX9_body_22 bp_m3 ?_
        refine g_goto hC dX9_body_24 (tgt := 35) (by decide) ?_
        exact ret_i h hR dX9_body_35
    · rw [if_neg h9] at h
      refine g_iconst hC dX9_body_10 ok_m1 ?_
      exact ret_i h hR dX9_body_11
theorem tX9_body {l : Launch} {g : GT} {c0 : Nat} {x1 : Int} {σ σ' : St} {r : Int} (h0 : isO 9 c0 = true) (h : fX9_body c0 x1 σ = some (r, σ')) : Cn l g yX9_body cX9_body 2 (some .int) 1 0 0 [vr c0, vi x1] (SH0, σ) (some (vi r)) (SH0, σ') :=
  Cn.ofI (by decide) (Nat.le_of_ble_eq_true rfl) (fun K e hC hR => (bX9_body_0 hC ⟨Nat.le_refl _, Nat.le_refl _⟩ h0 hR _ h))
