/-! Walks (printed by my program). -/
theorem dX10_sale_0 : decode cX10_sale 0 = .ok (.iload_n 1, 1) := by decide +kernel
theorem dX10_sale_1 : decode cX10_sale 1 = .ok (.invokestatic 112, 3) := by decide +kernel
theorem dX10_sale_4 : decode cX10_sale 4 = .ok (.ifCond .eq 13, 3) := by decide +kernel
theorem dX10_sale_7 : decode cX10_sale 7 = .ok (.iload_n 2, 1) := by decide +kernel
theorem dX10_sale_8 : decode cX10_sale 8 = .ok (.iconst 0, 1) := by decide +kernel
theorem dX10_sale_9 : decode cX10_sale 9 = .ok (.bipush 15, 2) := by decide +kernel
theorem dX10_sale_11 : decode cX10_sale 11 = .ok (.invokestatic 101, 3) := by decide +kernel
theorem dX10_sale_14 : decode cX10_sale 14 = .ok (.ifCond .ne 5, 3) := by decide +kernel
theorem dX10_sale_17 : decode cX10_sale 17 = .ok (.iconst (-1), 1) := by decide +kernel
theorem dX10_sale_18 : decode cX10_sale 18 = .ok (.ireturn, 1) := by decide +kernel
theorem dX10_sale_19 : decode cX10_sale 19 = .ok (.aload_n 0, 1) := by decide +kernel
theorem dX10_sale_20 : decode cX10_sale 20 = .ok (.iload_n 1, 1) := by decide +kernel
theorem dX10_sale_21 : decode cX10_sale 21 = .ok (.invokevirtual 252, 3) := by decide +kernel
theorem dX10_sale_24 : decode cX10_sale 24 = .ok (.istore_n 3, 1) := by decide +kernel
theorem dX10_sale_25 : decode cX10_sale 25 = .ok (.iload_n 3, 1) := by decide +kernel
theorem dX10_sale_26 : decode cX10_sale 26 = .ok (.ifCond .ge 5, 3) := by decide +kernel
theorem dX10_sale_29 : decode cX10_sale 29 = .ok (.iload_n 3, 1) := by decide +kernel
theorem dX10_sale_30 : decode cX10_sale 30 = .ok (.ireturn, 1) := by decide +kernel
theorem dX10_sale_31 : decode cX10_sale 31 = .ok (.iload_n 2, 1) := by decide +kernel
theorem dX10_sale_32 : decode cX10_sale 32 = .ok (.aload_n 0, 1) := by decide +kernel
theorem dX10_sale_33 : decode cX10_sale 33 = .ok (.iload_n 1, 1) := by decide +kernel
theorem dX10_sale_34 : decode cX10_sale 34 = .ok (.invokevirtual 255, 3) := by decide +kernel
theorem dX10_sale_37 : decode cX10_sale 37 = .ok (.if_icmp .lt 6, 3) := by decide +kernel
theorem dX10_sale_40 : decode cX10_sale 40 = .ok (.bipush (-2), 2) := by decide +kernel
theorem dX10_sale_42 : decode cX10_sale 42 = .ok (.ireturn, 1) := by decide +kernel
theorem dX10_sale_43 : decode cX10_sale 43 = .ok (.aload_n 0, 1) := by decide +kernel
theorem dX10_sale_44 : decode cX10_sale 44 = .ok (.aload_n 0, 1) := by decide +kernel
theorem dX10_sale_45 : decode cX10_sale 45 = .ok (.getfield 88, 3) := by decide +kernel
theorem dX10_sale_48 : decode cX10_sale 48 = .ok (.invokevirtual 258, 3) := by decide +kernel
theorem dX10_sale_51 : decode cX10_sale 51 = .ok (.bipush (-2), 2) := by decide +kernel
theorem dX10_sale_53 : decode cX10_sale 53 = .ok (.istore 4, 2) := by decide +kernel
theorem dX10_sale_55 : decode cX10_sale 55 = .ok (.iconst 0, 1) := by decide +kernel
theorem dX10_sale_56 : decode cX10_sale 56 = .ok (.istore 5, 2) := by decide +kernel
theorem dX10_sale_58 : decode cX10_sale 58 = .ok (.iload 5, 2) := by decide +kernel
theorem dX10_sale_60 : decode cX10_sale 60 = .ok (.iload_n 2, 1) := by decide +kernel
theorem dX10_sale_61 : decode cX10_sale 61 = .ok (.if_icmp .gt 22, 3) := by decide +kernel
theorem dX10_sale_64 : decode cX10_sale 64 = .ok (.aload_n 0, 1) := by decide +kernel
theorem dX10_sale_65 : decode cX10_sale 65 = .ok (.aload_n 0, 1) := by decide +kernel
theorem dX10_sale_66 : decode cX10_sale 66 = .ok (.iload_n 1, 1) := by decide +kernel
theorem dX10_sale_67 : decode cX10_sale 67 = .ok (.iload 5, 2) := by decide +kernel
theorem dX10_sale_69 : decode cX10_sale 69 = .ok (.invokevirtual 118, 3) := by decide +kernel
theorem dX10_sale_72 : decode cX10_sale 72 = .ok (.invokevirtual 262, 3) := by decide +kernel
theorem dX10_sale_75 : decode cX10_sale 75 = .ok (.istore 4, 2) := by decide +kernel
theorem dX10_sale_77 : decode cX10_sale 77 = .ok (.iinc 5 1, 3) := by decide +kernel
theorem dX10_sale_80 : decode cX10_sale 80 = .ok (.goto (-22), 3) := by decide +kernel
theorem dX10_sale_83 : decode cX10_sale 83 = .ok (.aload_n 0, 1) := by decide +kernel
theorem dX10_sale_84 : decode cX10_sale 84 = .ok (.invokevirtual 265, 3) := by decide +kernel
theorem dX10_sale_87 : decode cX10_sale 87 = .ok (.iload 4, 2) := by decide +kernel
theorem dX10_sale_89 : decode cX10_sale 89 = .ok (.ireturn, 1) := by decide +kernel
theorem bX10_sale_58 {K : KT} {g : GT} {cm sm : Nat} {cs : Nat × Nat} {c0 : Nat} {x1 : Int} {x2 : Int} {r : Int} {σ' : St} (hC : Ctx K g RX10 cX10_sale 6 8 cm sm) (hcs : cs.1 ≤ cm ∧ cs.2 ≤ sm) (h0 : isO 10 c0 = true) (hR : RetI K g cX10_sale 6 cs r (SH0, σ')) : ∀ (n : Nat) (x4 : Int) (x5 : Int) (σ : St), fX10_sale_58 c0 x1 x2 n x4 x5 σ = some (r, σ') → G K g 6 cs 58 [(0, vr c0), (1, vi x1), (2, vi x2), (4, vi x4), (5, vi x5)] [] (SH0, σ) := by
  intro n
  induction n with
  | zero =>
    intro x4 x5 σ h
    rw [fX10_sale_58.eq_1] at h
    cases h
  | succ n ih =>
    intro x4 x5 σ h
    rw [fX10_sale_58.eq_2] at h
    refine g_iload hC dX10_sale_58 4 rfl ?_
    refine g_iload_n hC dX10_sale_60 2 rfl rfl ?_
    refine g_icmp_gt hC dX10_sale_61 (tgt := 83) (by decide) (fun h9 => ?_) (fun h9 => ?_)
    · rw [if_pos h9] at h
      refine g_aload_n hC dX10_sale_83 0 rfl rfl ?_
      obtain ⟨s1, e1, h⟩ := of_bind h
      try dsimp only at h
      refine s_callVv hC dX10_sale_84 (tX10_laysBack_ h0 e1) miX10_laysBack_ mvX10_laysBack_ mlRX10_265 (isO_spec h0) vc_10 rfl rfl (Nat.le_of_ble_eq_true rfl) (Nat.le_of_ble_eq_true rfl) (Nat.le_of_ble_eq_true rfl) hcs ?_
      refine g_iload hC dX10_sale_87 3 rfl ?_
      exact ret_i h hR dX10_sale_89
    · rw [if_neg h9] at h
      refine g_aload_n hC dX10_sale_64 0 rfl rfl ?_
      refine g_aload_n hC dX10_sale_65 0 rfl rfl ?_
      refine g_iload_n hC dX10_sale_66 1 rfl rfl ?_
      refine g_iload hC dX10_sale_67 4 rfl ?_
      obtain ⟨⟨r2, s2⟩, e2, h⟩ := of_bind h
      try dsimp only at h
      refine s_callVi hC dX10_sale_69 (tX10_toldAt h0 e2) miX10_toldAt mvX10_toldAt mlRX10_118 (isO_spec h0) vc_10 rfl rfl (Nat.le_of_ble_eq_true rfl) (Nat.le_of_ble_eq_true rfl) (Nat.le_of_ble_eq_true rfl) hcs ?_
      obtain ⟨⟨r3, s3⟩, e3, h⟩ := of_bind h
      try dsimp only at h
      refine s_callVi hC dX10_sale_72 (tX10_goes h0 e3) miX10_goes mvX10_goes mlRX10_262 (isO_spec h0) vc_10 rfl rfl (Nat.le_of_ble_eq_true rfl) (Nat.le_of_ble_eq_true rfl) (Nat.le_of_ble_eq_true rfl) hcs ?_
      refine g_istore hC dX10_sale_75 (Nat.le_of_ble_eq_true rfl) rfl ?_
      refine g_iinc hC dX10_sale_77 4 rfl (Nat.le_of_ble_eq_true rfl) rfl ?_
      refine g_goto hC dX10_sale_80 (tgt := 58) (by decide) ?_
      exact g_pick [2, 3, 4, 1, 0] rfl (ih _ _ _ h)
theorem bX10_sale_0 {K : KT} {g : GT} {cm sm : Nat} {cs : Nat × Nat} {c0 : Nat} {x1 : Int} {x2 : Int} {r : Int} {σ' : St} (hC : Ctx K g RX10 cX10_sale 6 8 cm sm) (hcs : cs.1 ≤ cm ∧ cs.2 ≤ sm) (h0 : isO 10 c0 = true) (hR : RetI K g cX10_sale 6 cs r (SH0, σ')) : ∀ (σ : St), fX10_sale c0 x1 x2 σ = some (r, σ') → G K g 6 cs 0 [(0, vr c0), (1, vi x1), (2, vi x2)] [] (SH0, σ) := by
  intro σ h
  unfold fX10_sale at h
  refine g_iload_n hC dX10_sale_0 1 rfl rfl ?_
  obtain ⟨⟨r1, s1⟩, e1, h⟩ := of_bind h
  try dsimp only at h
  refine s_callSi hC dX10_sale_1 (tX10_isShelf e1) miX10_isShelf msX10_isShelf mlRX10_112 rfl rfl (Nat.le_of_ble_eq_true rfl) (Nat.le_of_ble_eq_true rfl) (Nat.le_of_ble_eq_true rfl) hcs ?_
  refine g_if_eq hC dX10_sale_4 (tgt := 17) (by decide) (fun h9 => ?_) (fun h9 => ?_)
  · rw [if_pos h9] at h
    refine g_iconst hC dX10_sale_17 ok_m1 ?_
    exact ret_i h hR dX10_sale_18
  · rw [if_neg h9] at h
    refine g_iload_n hC dX10_sale_7 2 rfl rfl ?_
    refine g_iconst hC dX10_sale_8 ok_0 ?_
    refine g_bipush hC dX10_sale_9 bp_15 ?_
    obtain ⟨⟨r2, s2⟩, e2, h⟩ := of_bind h
    try dsimp only at h
    refine s_callSi hC dX10_sale_11 (tX10_within e2) miX10_within msX10_within mlRX10_101 rfl rfl (Nat.le_of_ble_eq_true rfl) (Nat.le_of_ble_eq_true rfl) (Nat.le_of_ble_eq_true rfl) hcs ?_
    refine g_if_ne hC dX10_sale_14 (tgt := 19) (by decide) (fun h9 => ?_) (fun h9 => ?_)
    · rw [if_neg h9] at h
      refine g_aload_n hC dX10_sale_19 0 rfl rfl ?_
      refine g_iload_n hC dX10_sale_20 1 rfl rfl ?_
      obtain ⟨⟨r3, s3⟩, e3, h⟩ := of_bind h
      try dsimp only at h
      refine s_callVi hC dX10_sale_21 (tX10_noBytes h0 e3) miX10_noBytes mvX10_noBytes mlRX10_252 (isO_spec h0) vc_10 rfl rfl (Nat.le_of_ble_eq_true rfl) (Nat.le_of_ble_eq_true rfl) (Nat.le_of_ble_eq_true rfl) hcs ?_
      refine g_istore_n hC dX10_sale_24 rfl (Nat.le_of_ble_eq_true rfl) rfl ?_
      refine g_iload_n hC dX10_sale_25 0 rfl rfl ?_
      refine g_if_ge hC dX10_sale_26 (tgt := 31) (by decide) (fun h9 => ?_) (fun h9 => ?_)
      · rw [if_pos h9] at h
        refine g_iload_n hC dX10_sale_31 3 rfl rfl ?_
        refine g_aload_n hC dX10_sale_32 1 rfl rfl ?_
        refine g_iload_n hC dX10_sale_33 2 rfl rfl ?_
        obtain ⟨⟨r4, s4⟩, e4, h⟩ := of_bind h
        try dsimp only at h
        refine s_callVi hC dX10_sale_34 (tX10_listed h0 e4) miX10_listed mvX10_listed mlRX10_255 (isO_spec h0) vc_10 rfl rfl (Nat.le_of_ble_eq_true rfl) (Nat.le_of_ble_eq_true rfl) (Nat.le_of_ble_eq_true rfl) hcs ?_
        refine g_icmp_lt hC dX10_sale_37 (tgt := 43) (by decide) (fun h9 => ?_) (fun h9 => ?_)
        · rw [if_pos h9] at h
          refine g_aload_n hC dX10_sale_43 1 rfl rfl ?_
          refine g_aload_n hC dX10_sale_44 1 rfl rfl ?_
          refine g_getr hC dX10_sale_45 lfRX10_88 (isO_spec h0) (ft_10_41 h0) ?_
          obtain ⟨s5, e5, h⟩ := of_bind h
          try dsimp only at h
          refine s_callVv hC dX10_sale_48 (tX10_keeps h0 (rf_10_41 h0) e5) miX10_keeps mvX10_keeps mlRX10_258 (isO_spec h0) vc_10 rfl rfl (Nat.le_of_ble_eq_true rfl) (Nat.le_of_ble_eq_true rfl) (Nat.le_of_ble_eq_true rfl) hcs ?_
          refine g_bipush hC dX10_sale_51 bp_m2 ?_
          refine g_istore hC dX10_sale_53 (Nat.le_of_ble_eq_true rfl) rfl ?_
          refine g_iconst hC dX10_sale_55 ok_0 ?_
          refine g_istore hC dX10_sale_56 (Nat.le_of_ble_eq_true rfl) rfl ?_
          exact g_pick [3, 4, 5, 1, 0] rfl (bX10_sale_58 hC hcs h0 hR _ _ _ _ h)
        · rw [if_neg h9] at h
          refine g_bipush hC dX10_sale_40 bp_m2 ?_
          exact ret_i h hR dX10_sale_42
      · rw [if_neg h9] at h
        refine g_iload_n hC dX10_sale_29 0 rfl rfl ?_
        exact ret_i h hR dX10_sale_30
    · rw [if_pos h9] at h
      refine g_iconst hC dX10_sale_17 ok_m1 ?_
      exact ret_i h hR dX10_sale_18
theorem tX10_sale {l : Launch} {g : GT} {c0 : Nat} {x1 : Int} {x2 : Int} {σ σ' : St} {r : Int} (h0 : isO 10 c0 = true) (h : fX10_sale c0 x1 x2 σ = some (r, σ')) : Cn l g yX10_sale cX10_sale 6 (some .int) 8 0 0 [vr c0, vi x1, vi x2] (SH0, σ) (some (vi r)) (SH0, σ') :=
  Cn.ofI (by decide) (Nat.le_of_ble_eq_true rfl) (fun K e hC hR => (bX10_sale_0 hC ⟨Nat.le_refl _, Nat.le_refl _⟩ h0 hR _ h))
theorem dX10_shift_0 : decode cX10_shift 0 = .ok (.iload_n 1, 1) := by decide +kernel
theorem dX10_shift_1 : decode cX10_shift 1 = .ok (.invokestatic 112, 3) := by decide +kernel
theorem dX10_shift_4 : decode cX10_shift 4 = .ok (.ifCond .eq 10, 3) := by decide +kernel
theorem dX10_shift_7 : decode cX10_shift 7 = .ok (.iload_n 3, 1) := by decide +kernel
theorem dX10_shift_8 : decode cX10_shift 8 = .ok (.invokestatic 112, 3) := by decide +kernel
theorem dX10_shift_11 : decode cX10_shift 11 = .ok (.ifCond .ne 5, 3) := by decide +kernel
theorem dX10_shift_14 : decode cX10_shift 14 = .ok (.iconst (-1), 1) := by decide +kernel
theorem dX10_shift_15 : decode cX10_shift 15 = .ok (.ireturn, 1) := by decide +kernel
theorem dX10_shift_16 : decode cX10_shift 16 = .ok (.aload_n 0, 1) := by decide +kernel
theorem dX10_shift_17 : decode cX10_shift 17 = .ok (.getfield 78, 3) := by decide +kernel
theorem dX10_shift_20 : decode cX10_shift 20 = .ok (.iload_n 1, 1) := by decide +kernel
theorem dX10_shift_21 : decode cX10_shift 21 = .ok (.iaload, 1) := by decide +kernel
theorem dX10_shift_22 : decode cX10_shift 22 = .ok (.iconst (-1), 1) := by decide +kernel
theorem dX10_shift_23 : decode cX10_shift 23 = .ok (.if_icmp .eq 13, 3) := by decide +kernel
theorem dX10_shift_26 : decode cX10_shift 26 = .ok (.aload_n 0, 1) := by decide +kernel
theorem dX10_shift_27 : decode cX10_shift 27 = .ok (.getfield 78, 3) := by decide +kernel
theorem dX10_shift_30 : decode cX10_shift 30 = .ok (.iload_n 3, 1) := by decide +kernel
theorem dX10_shift_31 : decode cX10_shift 31 = .ok (.iaload, 1) := by decide +kernel
theorem dX10_shift_32 : decode cX10_shift 32 = .ok (.iconst (-1), 1) := by decide +kernel
theorem dX10_shift_33 : decode cX10_shift 33 = .ok (.if_icmp .ne 6, 3) := by decide +kernel
theorem dX10_shift_36 : decode cX10_shift 36 = .ok (.bipush (-11), 2) := by decide +kernel
theorem dX10_shift_38 : decode cX10_shift 38 = .ok (.ireturn, 1) := by decide +kernel
theorem dX10_shift_39 : decode cX10_shift 39 = .ok (.aload_n 0, 1) := by decide +kernel
theorem dX10_shift_40 : decode cX10_shift 40 = .ok (.iload_n 1, 1) := by decide +kernel
theorem dX10_shift_41 : decode cX10_shift 41 = .ok (.invokevirtual 351, 3) := by decide +kernel
theorem dX10_shift_44 : decode cX10_shift 44 = .ok (.ifCond .eq 26, 3) := by decide +kernel
theorem dX10_shift_47 : decode cX10_shift 47 = .ok (.aload_n 0, 1) := by decide +kernel
theorem dX10_shift_48 : decode cX10_shift 48 = .ok (.iload_n 3, 1) := by decide +kernel
theorem dX10_shift_49 : decode cX10_shift 49 = .ok (.invokevirtual 351, 3) := by decide +kernel
theorem dX10_shift_52 : decode cX10_shift 52 = .ok (.ifCond .eq 18, 3) := by decide +kernel
theorem dX10_shift_55 : decode cX10_shift 55 = .ok (.aload_n 0, 1) := by decide +kernel
theorem dX10_shift_56 : decode cX10_shift 56 = .ok (.getfield 78, 3) := by decide +kernel
theorem dX10_shift_59 : decode cX10_shift 59 = .ok (.iload_n 1, 1) := by decide +kernel
theorem dX10_shift_60 : decode cX10_shift 60 = .ok (.iaload, 1) := by decide +kernel
theorem dX10_shift_61 : decode cX10_shift 61 = .ok (.aload_n 0, 1) := by decide +kernel
theorem dX10_shift_62 : decode cX10_shift 62 = .ok (.getfield 78, 3) := by decide +kernel
theorem dX10_shift_65 : decode cX10_shift 65 = .ok (.iload_n 3, 1) := by decide +kernel
theorem dX10_shift_66 : decode cX10_shift 66 = .ok (.iaload, 1) := by decide +kernel
theorem dX10_shift_67 : decode cX10_shift 67 = .ok (.if_icmp .eq 6, 3) := by decide +kernel
theorem dX10_shift_70 : decode cX10_shift 70 = .ok (.bipush (-12), 2) := by decide +kernel
theorem dX10_shift_72 : decode cX10_shift 72 = .ok (.ireturn, 1) := by decide +kernel
theorem dX10_shift_73 : decode cX10_shift 73 = .ok (.iload 5, 2) := by decide +kernel
theorem dX10_shift_75 : decode cX10_shift 75 = .ok (.ifCond .lt 47, 3) := by decide +kernel
theorem dX10_shift_78 : decode cX10_shift 78 = .ok (.iload_n 2, 1) := by decide +kernel
theorem dX10_shift_79 : decode cX10_shift 79 = .ok (.ifCond .lt 43, 3) := by decide +kernel
theorem dX10_shift_82 : decode cX10_shift 82 = .ok (.iload 4, 2) := by decide +kernel
theorem dX10_shift_84 : decode cX10_shift 84 = .ok (.ifCond .lt 38, 3) := by decide +kernel
theorem dX10_shift_87 : decode cX10_shift 87 = .ok (.iload_n 2, 1) := by decide +kernel
theorem dX10_shift_88 : decode cX10_shift 88 = .ok (.i2l, 1) := by decide +kernel
theorem dX10_shift_89 : decode cX10_shift 89 = .ok (.iload 5, 2) := by decide +kernel
theorem dX10_shift_91 : decode cX10_shift 91 = .ok (.i2l, 1) := by decide +kernel
theorem dX10_shift_92 : decode cX10_shift 92 = .ok (.ladd, 1) := by decide +kernel
theorem dX10_shift_93 : decode cX10_shift 93 = .ok (.aload_n 0, 1) := by decide +kernel
theorem dX10_shift_94 : decode cX10_shift 94 = .ok (.getfield 81, 3) := by decide +kernel
theorem dX10_shift_97 : decode cX10_shift 97 = .ok (.iload_n 1, 1) := by decide +kernel
theorem dX10_shift_98 : decode cX10_shift 98 = .ok (.iaload, 1) := by decide +kernel
theorem dX10_shift_99 : decode cX10_shift 99 = .ok (.i2l, 1) := by decide +kernel
theorem dX10_shift_100 : decode cX10_shift 100 = .ok (.lcmp, 1) := by decide +kernel
theorem dX10_shift_101 : decode cX10_shift 101 = .ok (.ifCond .gt 21, 3) := by decide +kernel
theorem dX10_shift_104 : decode cX10_shift 104 = .ok (.iload 4, 2) := by decide +kernel
theorem dX10_shift_106 : decode cX10_shift 106 = .ok (.i2l, 1) := by decide +kernel
theorem dX10_shift_107 : decode cX10_shift 107 = .ok (.iload 5, 2) := by decide +kernel
theorem dX10_shift_109 : decode cX10_shift 109 = .ok (.i2l, 1) := by decide +kernel
theorem dX10_shift_110 : decode cX10_shift 110 = .ok (.ladd, 1) := by decide +kernel
theorem dX10_shift_111 : decode cX10_shift 111 = .ok (.aload_n 0, 1) := by decide +kernel
theorem dX10_shift_112 : decode cX10_shift 112 = .ok (.getfield 81, 3) := by decide +kernel
theorem dX10_shift_115 : decode cX10_shift 115 = .ok (.iload_n 3, 1) := by decide +kernel
theorem dX10_shift_116 : decode cX10_shift 116 = .ok (.iaload, 1) := by decide +kernel
theorem dX10_shift_117 : decode cX10_shift 117 = .ok (.i2l, 1) := by decide +kernel
theorem dX10_shift_118 : decode cX10_shift 118 = .ok (.lcmp, 1) := by decide +kernel
theorem dX10_shift_119 : decode cX10_shift 119 = .ok (.ifCond .le 6, 3) := by decide +kernel
theorem dX10_shift_122 : decode cX10_shift 122 = .ok (.bipush (-13), 2) := by decide +kernel
theorem dX10_shift_124 : decode cX10_shift 124 = .ok (.ireturn, 1) := by decide +kernel
theorem dX10_shift_125 : decode cX10_shift 125 = .ok (.iload_n 1, 1) := by decide +kernel
theorem dX10_shift_126 : decode cX10_shift 126 = .ok (.iload_n 3, 1) := by decide +kernel
theorem dX10_shift_127 : decode cX10_shift 127 = .ok (.if_icmp .ne 58, 3) := by decide +kernel
theorem dX10_shift_130 : decode cX10_shift 130 = .ok (.iload_n 2, 1) := by decide +kernel
theorem dX10_shift_131 : decode cX10_shift 131 = .ok (.iload 4, 2) := by decide +kernel
theorem dX10_shift_133 : decode cX10_shift 133 = .ok (.if_icmp .ge 52, 3) := by decide +kernel
theorem dX10_shift_136 : decode cX10_shift 136 = .ok (.iload 5, 2) := by decide +kernel
theorem dX10_shift_138 : decode cX10_shift 138 = .ok (.iconst 1, 1) := by decide +kernel
theorem dX10_shift_139 : decode cX10_shift 139 = .ok (.isub, 1) := by decide +kernel
theorem dX10_shift_140 : decode cX10_shift 140 = .ok (.istore 6, 2) := by decide +kernel
theorem dX10_shift_142 : decode cX10_shift 142 = .ok (.iload 6, 2) := by decide +kernel
theorem dX10_shift_144 : decode cX10_shift 144 = .ok (.ifCond .lt 38, 3) := by decide +kernel
theorem dX10_shift_147 : decode cX10_shift 147 = .ok (.aload_n 0, 1) := by decide +kernel
theorem dX10_shift_148 : decode cX10_shift 148 = .ok (.getfield 84, 3) := by decide +kernel
theorem dX10_shift_151 : decode cX10_shift 151 = .ok (.bipush 60, 2) := by decide +kernel
theorem dX10_shift_153 : decode cX10_shift 153 = .ok (.iload_n 3, 1) := by decide +kernel
theorem dX10_shift_154 : decode cX10_shift 154 = .ok (.imul, 1) := by decide +kernel
theorem dX10_shift_155 : decode cX10_shift 155 = .ok (.iload 4, 2) := by decide +kernel
theorem dX10_shift_157 : decode cX10_shift 157 = .ok (.iadd, 1) := by decide +kernel
theorem dX10_shift_158 : decode cX10_shift 158 = .ok (.iload 6, 2) := by decide +kernel
theorem dX10_shift_160 : decode cX10_shift 160 = .ok (.iadd, 1) := by decide +kernel
theorem dX10_shift_161 : decode cX10_shift 161 = .ok (.aload_n 0, 1) := by decide +kernel
theorem dX10_shift_162 : decode cX10_shift 162 = .ok (.getfield 84, 3) := by decide +kernel
theorem dX10_shift_165 : decode cX10_shift 165 = .ok (.bipush 60, 2) := by decide +kernel
theorem dX10_shift_167 : decode cX10_shift 167 = .ok (.iload_n 1, 1) := by decide +kernel
theorem dX10_shift_168 : decode cX10_shift 168 = .ok (.imul, 1) := by decide +kernel
theorem dX10_shift_169 : decode cX10_shift 169 = .ok (.iload_n 2, 1) := by decide +kernel
theorem dX10_shift_170 : decode cX10_shift 170 = .ok (.iadd, 1) := by decide +kernel
theorem dX10_shift_171 : decode cX10_shift 171 = .ok (.iload 6, 2) := by decide +kernel
theorem dX10_shift_173 : decode cX10_shift 173 = .ok (.iadd, 1) := by decide +kernel
theorem dX10_shift_174 : decode cX10_shift 174 = .ok (.laload, 1) := by decide +kernel
theorem dX10_shift_175 : decode cX10_shift 175 = .ok (.lastore, 1) := by decide +kernel
theorem dX10_shift_176 : decode cX10_shift 176 = .ok (.iinc 6 (-1), 3) := by decide +kernel
theorem dX10_shift_179 : decode cX10_shift 179 = .ok (.goto (-37), 3) := by decide +kernel
theorem dX10_shift_182 : decode cX10_shift 182 = .ok (.goto 48, 3) := by decide +kernel
theorem dX10_shift_185 : decode cX10_shift 185 = .ok (.iconst 0, 1) := by decide +kernel
theorem dX10_shift_186 : decode cX10_shift 186 = .ok (.istore 6, 2) := by decide +kernel
theorem dX10_shift_188 : decode cX10_shift 188 = .ok (.iload 6, 2) := by decide +kernel
theorem dX10_shift_190 : decode cX10_shift 190 = .ok (.iload 5, 2) := by decide +kernel
theorem dX10_shift_192 : decode cX10_shift 192 = .ok (.if_icmp .ge 38, 3) := by decide +kernel
theorem dX10_shift_195 : decode cX10_shift 195 = .ok (.aload_n 0, 1) := by decide +kernel
theorem dX10_shift_196 : decode cX10_shift 196 = .ok (.getfield 84, 3) := by decide +kernel
theorem dX10_shift_199 : decode cX10_shift 199 = .ok (.bipush 60, 2) := by decide +kernel
theorem dX10_shift_201 : decode cX10_shift 201 = .ok (.iload_n 3, 1) := by decide +kernel
theorem dX10_shift_202 : decode cX10_shift 202 = .ok (.imul, 1) := by decide +kernel
theorem dX10_shift_203 : decode cX10_shift 203 = .ok (.iload 4, 2) := by decide +kernel
theorem dX10_shift_205 : decode cX10_shift 205 = .ok (.iadd, 1) := by decide +kernel
theorem dX10_shift_206 : decode cX10_shift 206 = .ok (.iload 6, 2) := by decide +kernel
theorem dX10_shift_208 : decode cX10_shift 208 = .ok (.iadd, 1) := by decide +kernel
theorem dX10_shift_209 : decode cX10_shift 209 = .ok (.aload_n 0, 1) := by decide +kernel
theorem dX10_shift_210 : decode cX10_shift 210 = .ok (.getfield 84, 3) := by decide +kernel
theorem dX10_shift_213 : decode cX10_shift 213 = .ok (.bipush 60, 2) := by decide +kernel
theorem dX10_shift_215 : decode cX10_shift 215 = .ok (.iload_n 1, 1) := by decide +kernel
theorem dX10_shift_216 : decode cX10_shift 216 = .ok (.imul, 1) := by decide +kernel
theorem dX10_shift_217 : decode cX10_shift 217 = .ok (.iload_n 2, 1) := by decide +kernel
theorem dX10_shift_218 : decode cX10_shift 218 = .ok (.iadd, 1) := by decide +kernel
theorem dX10_shift_219 : decode cX10_shift 219 = .ok (.iload 6, 2) := by decide +kernel
theorem dX10_shift_221 : decode cX10_shift 221 = .ok (.iadd, 1) := by decide +kernel
theorem dX10_shift_222 : decode cX10_shift 222 = .ok (.laload, 1) := by decide +kernel
theorem dX10_shift_223 : decode cX10_shift 223 = .ok (.lastore, 1) := by decide +kernel
theorem dX10_shift_224 : decode cX10_shift 224 = .ok (.iinc 6 1, 3) := by decide +kernel
theorem dX10_shift_227 : decode cX10_shift 227 = .ok (.goto (-39), 3) := by decide +kernel
theorem dX10_shift_230 : decode cX10_shift 230 = .ok (.iload 5, 2) := by decide +kernel
theorem dX10_shift_232 : decode cX10_shift 232 = .ok (.ireturn, 1) := by decide +kernel
theorem bX10_shift_142 {K : KT} {g : GT} {cm sm : Nat} {cs : Nat × Nat} {c0 : Nat} {x1 : Int} {x2 : Int} {x3 : Int} {x4 : Int} {x5 : Int} {r : Int} {σ' : St} (hC : Ctx K g RX10 cX10_shift 7 2 cm sm) (hcs : cs.1 ≤ cm ∧ cs.2 ≤ sm) (h0 : isO 10 c0 = true) (hR : RetI K g cX10_shift 7 cs r (SH0, σ')) : ∀ (n : Nat) (x6 : Int) (σ : St), fX10_shift_142 c0 x1 x2 x3 x4 x5 n x6 σ = some (r, σ') → G K g 7 cs 142 [(0, vr c0), (1, vi x1), (2, vi x2), (3, vi x3), (4, vi x4), (5, vi x5), (6, vi x6)] [] (SH0, σ) := by
  intro n
  induction n with
  | zero =>
    intro x6 σ h
    rw [fX10_shift_142.eq_1] at h
    cases h
  | succ n ih =>
    intro x6 σ h
    rw [fX10_shift_142.eq_2] at h
    refine g_iload hC dX10_shift_142 6 rfl ?_
    refine g_if_lt hC dX10_shift_144 (tgt := 182) (by decide) (fun h9 => ?_) (fun h9 => ?_)
    · rw [if_pos h9] at h
      refine g_goto hC dX10_shift_182 (tgt := 230) (by decide) ?_
      refine g_iload hC dX10_shift_230 5 rfl ?_
      exact ret_i h hR dX10_shift_232
    · rw [if_neg h9] at h
      refine g_aload_n hC dX10_shift_147 0 rfl rfl ?_
      refine g_getr hC dX10_shift_148 lfRX10_84 (isO_spec h0) (ft_10_40 h0) ?_
      refine g_bipush hC dX10_shift_151 bp_60 ?_
      refine g_iload_n hC dX10_shift_153 3 rfl rfl ?_
      refine g_imul hC dX10_shift_154 ?_
      refine g_iload hC dX10_shift_155 4 rfl ?_
      refine g_iadd hC dX10_shift_157 ?_
      refine g_iload hC dX10_shift_158 6 rfl ?_
      refine g_iadd hC dX10_shift_160 ?_
      refine g_aload_n hC dX10_shift_161 0 rfl rfl ?_
      refine g_getr hC dX10_shift_162 lfRX10_84 (isO_spec h0) (ft_10_40 h0) ?_
      refine g_bipush hC dX10_shift_165 bp_60 ?_
      refine g_iload_n hC dX10_shift_167 1 rfl rfl ?_
      refine g_imul hC dX10_shift_168 ?_
      refine g_iload_n hC dX10_shift_169 2 rfl rfl ?_
      refine g_iadd hC dX10_shift_170 ?_
      refine g_iload hC dX10_shift_171 6 rfl ?_
      refine g_iadd hC dX10_shift_173 ?_
      obtain ⟨b9, h⟩ := of_ite h
      refine g_lald hC dX10_shift_174 (isA_spec (rf_10_40 h0)) b9 ?_
      obtain ⟨b9, h⟩ := of_ite h
      refine g_last hC dX10_shift_175 (isA_spec (rf_10_40 h0)) b9 ?_
      refine g_iinc hC dX10_shift_176 6 rfl (Nat.le_of_ble_eq_true rfl) rfl ?_
      refine g_goto hC dX10_shift_179 (tgt := 142) (by decide) ?_
      exact g_pick [1, 2, 3, 4, 5, 6, 0] rfl (ih _ _ h)
theorem bX10_shift_188 {K : KT} {g : GT} {cm sm : Nat} {cs : Nat × Nat} {c0 : Nat} {x1 : Int} {x2 : Int} {x3 : Int} {x4 : Int} {x5 : Int} {r : Int} {σ' : St} (hC : Ctx K g RX10 cX10_shift 7 2 cm sm) (hcs : cs.1 ≤ cm ∧ cs.2 ≤ sm) (h0 : isO 10 c0 = true) (hR : RetI K g cX10_shift 7 cs r (SH0, σ')) : ∀ (n : Nat) (x6 : Int) (σ : St), fX10_shift_188 c0 x1 x2 x3 x4 x5 n x6 σ = some (r, σ') → G K g 7 cs 188 [(0, vr c0), (1, vi x1), (2, vi x2), (3, vi x3), (4, vi x4), (5, vi x5), (6, vi x6)] [] (SH0, σ) := by
  intro n
  induction n with
  | zero =>
    intro x6 σ h
    rw [fX10_shift_188.eq_1] at h
    cases h
  | succ n ih =>
    intro x6 σ h
    rw [fX10_shift_188.eq_2] at h
    refine g_iload hC dX10_shift_188 6 rfl ?_
    refine g_iload hC dX10_shift_190 5 rfl ?_
    refine g_icmp_ge hC dX10_shift_192 (tgt := 230) (by decide) (fun h9 => ?_) (fun h9 => ?_)
    · rw [if_pos h9] at h
      refine g_iload hC dX10_shift_230 5 rfl ?_
      exact ret_i h hR dX10_shift_232
    · rw [if_neg h9] at h
      refine g_aload_n hC dX10_shift_195 0 rfl rfl ?_
      refine g_getr hC dX10_shift_196 lfRX10_84 (isO_spec h0) (ft_10_40 h0) ?_
      refine g_bipush hC dX10_shift_199 bp_60 ?_
      refine g_iload_n hC dX10_shift_201 3 rfl rfl ?_
      refine g_imul hC dX10_shift_202 ?_
      refine g_iload hC dX10_shift_203 4 rfl ?_
      refine g_iadd hC dX10_shift_205 ?_
      refine g_iload hC dX10_shift_206 6 rfl ?_
      refine g_iadd hC dX10_shift_208 ?_
      refine g_aload_n hC dX10_shift_209 0 rfl rfl ?_
      refine g_getr hC dX10_shift_210 lfRX10_84 (isO_spec h0) (ft_10_40 h0) ?_
      refine g_bipush hC dX10_shift_213 bp_60 ?_
      refine g_iload_n hC dX10_shift_215 1 rfl rfl ?_
      refine g_imul hC dX10_shift_216 ?_
      refine g_iload_n hC dX10_shift_217 2 rfl rfl ?_
      refine g_iadd hC dX10_shift_218 ?_
      refine g_iload hC dX10_shift_219 6 rfl ?_
      refine g_iadd hC dX10_shift_221 ?_
      obtain ⟨b9, h⟩ := of_ite h
      refine g_lald hC dX10_shift_222 (isA_spec (rf_10_40 h0)) b9 ?_
      obtain ⟨b9, h⟩ := of_ite h
      refine g_last hC dX10_shift_223 (isA_spec (rf_10_40 h0)) b9 ?_
      refine g_iinc hC dX10_shift_224 6 rfl (Nat.le_of_ble_eq_true rfl) rfl ?_
      refine g_goto hC dX10_shift_227 (tgt := 188) (by decide) ?_
      exact g_pick [1, 2, 3, 4, 5, 6, 0] rfl (ih _ _ h)
theorem bX10_shift_185 {K : KT} {g : GT} {cm sm : Nat} {cs : Nat × Nat} {c0 : Nat} {x1 : Int} {x2 : Int} {x3 : Int} {x4 : Int} {x5 : Int} {r : Int} {σ' : St} (hC : Ctx K g RX10 cX10_shift 7 2 cm sm) (hcs : cs.1 ≤ cm ∧ cs.2 ≤ sm) (h0 : isO 10 c0 = true) (hR : RetI K g cX10_shift 7 cs r (SH0, σ')) : ∀ (σ : St), fX10_shift_185 c0 x1 x2 x3 x4 x5 σ = some (r, σ') → G K g 7 cs 185 [(0, vr c0), (1, vi x1), (2, vi x2), (3, vi x3), (4, vi x4), (5, vi x5)] [] (SH0, σ) := by
  intro σ h
  unfold fX10_shift_185 at h
  refine g_iconst hC dX10_shift_185 ok_0 ?_
  refine g_istore hC dX10_shift_186 (Nat.le_of_ble_eq_true rfl) rfl ?_
  exact g_pick [1, 2, 3, 4, 5, 6, 0] rfl (bX10_shift_188 hC hcs h0 hR _ _ _ h)
theorem bX10_shift_0 {K : KT} {g : GT} {cm sm : Nat} {cs : Nat × Nat} {c0 : Nat} {x1 : Int} {x2 : Int} {x3 : Int} {x4 : Int} {x5 : Int} {r : Int} {σ' : St} (hC : Ctx K g RX10 cX10_shift 7 2 cm sm) (hcs : cs.1 ≤ cm ∧ cs.2 ≤ sm) (h0 : isO 10 c0 = true) (hR : RetI K g cX10_shift 7 cs r (SH0, σ')) : ∀ (σ : St), fX10_shift c0 x1 x2 x3 x4 x5 σ = some (r, σ') → G K g 7 cs 0 [(0, vr c0), (1, vi x1), (2, vi x2), (3, vi x3), (4, vi x4), (5, vi x5)] [] (SH0, σ) := by
  intro σ h
  unfold fX10_shift at h
  refine g_iload_n hC dX10_shift_0 1 rfl rfl ?_
  obtain ⟨⟨r1, s1⟩, e1, h⟩ := of_bind h
  try dsimp only at h
  refine s_callSi hC dX10_shift_1 (tX10_isShelf e1) miX10_isShelf msX10_isShelf mlRX10_112 rfl rfl (Nat.le_of_ble_eq_true rfl) (Nat.le_of_ble_eq_true rfl) (Nat.le_of_ble_eq_true rfl) hcs ?_
  refine g_if_eq hC dX10_shift_4 (tgt := 14) (by decide) (fun h9 => ?_) (fun h9 => ?_)
  · rw [if_pos h9] at h
    refine g_iconst hC dX10_shift_14 ok_m1 ?_
    exact ret_i h hR dX10_shift_15
  · rw [if_neg h9] at h
    refine g_iload_n hC dX10_shift_7 3 rfl rfl ?_
    obtain ⟨⟨r2, s2⟩, e2, h⟩ := of_bind h
    try dsimp only at h
    refine s_callSi hC dX10_shift_8 (tX10_isShelf e2) miX10_isShelf msX10_isShelf mlRX10_112 rfl rfl (Nat.le_of_ble_eq_true rfl) (Nat.le_of_ble_eq_true rfl) (Nat.le_of_ble_eq_true rfl) hcs ?_
    refine g_if_ne hC dX10_shift_11 (tgt := 16) (by decide) (fun h9 => ?_) (fun h9 => ?_)
    · rw [if_neg h9] at h
      refine g_aload_n hC dX10_shift_16 0 rfl rfl ?_
      refine g_getr hC dX10_shift_17 lfRX10_78 (isO_spec h0) (ft_10_38 h0) ?_
      refine g_iload_n hC dX10_shift_20 1 rfl rfl ?_
      obtain ⟨b9, h⟩ := of_ite h
      refine g_iald hC dX10_shift_21 (isA_spec (rf_10_38 h0)) b9 ?_
      refine g_iconst hC dX10_shift_22 ok_m1 ?_
      refine g_icmp_eq hC dX10_shift_23 (tgt := 36) (by decide) (fun h9 => ?_) (fun h9 => ?_)
      · rw [if_pos h9] at h
        refine g_bipush hC dX10_shift_36 bp_m11 ?_
        exact ret_i h hR dX10_shift_38
      · rw [if_neg h9] at h
        refine g_aload_n hC dX10_shift_26 0 rfl rfl ?_
        refine g_getr hC dX10_shift_27 lfRX10_78 (isO_spec h0) (ft_10_38 h0) ?_
        refine g_iload_n hC dX10_shift_30 3 rfl rfl ?_
        obtain ⟨b9, h⟩ := of_ite h
        refine g_iald hC dX10_shift_31 (isA_spec (rf_10_38 h0)) b9 ?_
        refine g_iconst hC dX10_shift_32 ok_m1 ?_
        refine g_icmp_ne hC dX10_shift_33 (tgt := 39) (by decide) (fun h9 => ?_) (fun h9 => ?_)
        · rw [if_neg h9] at h
          refine g_aload_n hC dX10_shift_39 0 rfl rfl ?_
          refine g_iload_n hC dX10_shift_40 1 rfl rfl ?_
          obtain ⟨⟨r3, s3⟩, e3, h⟩ := of_bind h
          try dsimp only at h
          refine s_callVi hC dX10_shift_41 (tX10_isRow h0 e3) miX10_isRow mvX10_isRow mlRX10_351 (isO_spec h0) vc_10 rfl rfl (Nat.le_of_ble_eq_true rfl) (Nat.le_of_ble_eq_true rfl) (Nat.le_of_ble_eq_true rfl) hcs ?_
          refine g_if_eq hC dX10_shift_44 (tgt := 70) (by decide) (fun h9 => ?_) (fun h9 => ?_)
          · rw [if_pos h9] at h
            refine g_bipush hC dX10_shift_70 bp_m12 ?_
            exact ret_i h hR dX10_shift_72
          · rw [if_neg h9] at h
            refine g_aload_n hC dX10_shift_47 0 rfl rfl ?_
            refine g_iload_n hC dX10_shift_48 3 rfl rfl ?_
            obtain ⟨⟨r4, s4⟩, e4, h⟩ := of_bind h
            try dsimp only at h
            refine s_callVi hC dX10_shift_49 (tX10_isRow h0 e4) miX10_isRow mvX10_isRow mlRX10_351 (isO_spec h0) vc_10 rfl rfl (Nat.le_of_ble_eq_true rfl) (Nat.le_of_ble_eq_true rfl) (Nat.le_of_ble_eq_true rfl) hcs ?_
            refine g_if_eq hC dX10_shift_52 (tgt := 70) (by decide) (fun h9 => ?_) (fun h9 => ?_)
            · rw [if_pos h9] at h
              refine g_bipush hC dX10_shift_70 bp_m12 ?_
              exact ret_i h hR dX10_shift_72
            · rw [if_neg h9] at h
              refine g_aload_n hC dX10_shift_55 0 rfl rfl ?_
              refine g_getr hC dX10_shift_56 lfRX10_78 (isO_spec h0) (ft_10_38 h0) ?_
              refine g_iload_n hC dX10_shift_59 1 rfl rfl ?_
              obtain ⟨b9, h⟩ := of_ite h
              refine g_iald hC dX10_shift_60 (isA_spec (rf_10_38 h0)) b9 ?_
              refine g_aload_n hC dX10_shift_61 0 rfl rfl ?_
              refine g_getr hC dX10_shift_62 lfRX10_78 (isO_spec h0) (ft_10_38 h0) ?_
              refine g_iload_n hC dX10_shift_65 3 rfl rfl ?_
              obtain ⟨b9, h⟩ := of_ite h
              refine g_iald hC dX10_shift_66 (isA_spec (rf_10_38 h0)) b9 ?_
              refine g_icmp_eq hC dX10_shift_67 (tgt := 73) (by decide) (fun h9 => ?_) (fun h9 => ?_)
              · rw [if_pos h9] at h
                refine g_iload hC dX10_shift_73 5 rfl ?_
                refine g_if_lt hC dX10_shift_75 (tgt := 122) (by decide) (fun h9 => ?_) (fun h9 => ?_)
                · rw [if_pos h9] at h
                  refine g_bipush hC dX10_shift_122 bp_m13 ?_
                  exact ret_i h hR dX10_shift_124
                · rw [if_neg h9] at h
                  refine g_iload_n hC dX10_shift_78 2 rfl rfl ?_
                  refine g_if_lt hC dX10_shift_79 (tgt := 122) (by decide) (fun h9 => ?_) (fun h9 => ?_)
                  · rw [if_pos h9] at h
                    refine g_bipush hC dX10_shift_122 bp_m13 ?_
                    exact ret_i h hR dX10_shift_124
                  · rw [if_neg h9] at h
                    refine g_iload hC dX10_shift_82 4 rfl ?_
                    refine g_if_lt hC dX10_shift_84 (tgt := 122) (by decide) (fun h9 => ?_) (fun h9 => ?_)
                    · rw [if_pos h9] at h
                      refine g_bipush hC dX10_shift_122 bp_m13 ?_
                      exact ret_i h hR dX10_shift_124
                    · rw [if_neg h9] at h
                      refine g_iload_n hC dX10_shift_87 2 rfl rfl ?_
                      refine g_i2l hC dX10_shift_88 ?_
                      refine g_iload hC dX10_shift_89 5 rfl ?_
                      refine g_i2l hC dX10_shift_91 ?_
                      refine g_ladd hC dX10_shift_92 ?_
                      refine g_aload_n hC dX10_shift_93 0 rfl rfl ?_
                      refine g_getr hC dX10_shift_94 lfRX10_81 (isO_spec h0) (ft_10_39 h0) ?_
                      refine g_iload_n hC dX10_shift_97 1 rfl rfl ?_
                      obtain ⟨b9, h⟩ := of_ite h
                      refine g_iald hC dX10_shift_98 (isA_spec (rf_10_39 h0)) b9 ?_
                      refine g_i2l hC dX10_shift_99 ?_
                      refine g_lcmp hC dX10_shift_100 ?_
                      refine g_if_gt hC dX10_shift_101 (tgt := 122) (by decide) (fun h9 => ?_) (fun h9 => ?_)
                      · rw [if_pos h9] at h
                        refine g_bipush hC dX10_shift_122 bp_m13 ?_
                        exact ret_i h hR dX10_shift_124
                      · rw [if_neg h9] at h
                        refine g_iload hC dX10_shift_104 4 rfl ?_
                        refine g_i2l hC dX10_shift_106 ?_
                        refine g_iload hC dX10_shift_107 5 rfl ?_
                        refine g_i2l hC dX10_shift_109 ?_
                        refine g_ladd hC dX10_shift_110 ?_
                        refine g_aload_n hC dX10_shift_111 0 rfl rfl ?_
                        refine g_getr hC dX10_shift_112 lfRX10_81 (isO_spec h0) (ft_10_39 h0) ?_
                        refine g_iload_n hC dX10_shift_115 3 rfl rfl ?_
                        obtain ⟨b9, h⟩ := of_ite h
                        refine g_iald hC dX10_shift_116 (isA_spec (rf_10_39 h0)) b9 ?_
                        refine g_i2l hC dX10_shift_117 ?_
                        refine g_lcmp hC dX10_shift_118 ?_
                        refine g_if_le hC dX10_shift_119 (tgt := 125) (by decide) (fun h9 => ?_) (fun h9 => ?_)
                        · rw [if_pos h9] at h
                          refine g_iload_n hC dX10_shift_125 1 rfl rfl ?_
                          refine g_iload_n hC dX10_shift_126 3 rfl rfl ?_
                          refine g_icmp_ne hC dX10_shift_127 (tgt := 185) (by decide) (fun h9 => ?_) (fun h9 => ?_)
                          · rw [if_neg h9] at h
                            exact g_pick [0, 1, 2, 3, 4, 5] rfl (bX10_shift_185 hC hcs h0 hR _ h)
                          · rw [if_pos h9] at h
                            refine g_iload_n hC dX10_shift_130 2 rfl rfl ?_
                            refine g_iload hC dX10_shift_131 4 rfl ?_
                            refine g_icmp_ge hC dX10_shift_133 (tgt := 185) (by decide) (fun h9 => ?_) (fun h9 => ?_)
                            · rw [if_pos h9] at h
                              exact g_pick [0, 1, 2, 3, 4, 5] rfl (bX10_shift_185 hC hcs h0 hR _ h)
                            · rw [if_neg h9] at h
                              refine g_iload hC dX10_shift_136 5 rfl ?_
                              refine g_iconst hC dX10_shift_138 ok_1 ?_
                              refine g_isub hC dX10_shift_139 ?_
                              refine g_istore hC dX10_shift_140 (Nat.le_of_ble_eq_true rfl) rfl ?_
                              exact g_pick [1, 2, 3, 4, 5, 6, 0] rfl (bX10_shift_142 hC hcs h0 hR _ _ _ h)
                        · rw [if_neg h9] at h
                          refine g_bipush hC dX10_shift_122 bp_m13 ?_
                          exact ret_i h hR dX10_shift_124
              · rw [if_neg h9] at h
                refine g_bipush hC dX10_shift_70 bp_m12 ?_
                exact ret_i h hR dX10_shift_72
        · rw [if_pos h9] at h
          refine g_bipush hC dX10_shift_36 bp_m11 ?_
          exact ret_i h hR dX10_shift_38
    · rw [if_pos h9] at h
      refine g_iconst hC dX10_shift_14 ok_m1 ?_
      exact ret_i h hR dX10_shift_15
theorem tX10_shift {l : Launch} {g : GT} {c0 : Nat} {x1 : Int} {x2 : Int} {x3 : Int} {x4 : Int} {x5 : Int} {σ σ' : St} {r : Int} (h0 : isO 10 c0 = true) (h : fX10_shift c0 x1 x2 x3 x4 x5 σ = some (r, σ')) : Cn l g yX10_shift cX10_shift 7 (some .int) 2 0 0 [vr c0, vi x1, vi x2, vi x3, vi x4, vi x5] (SH0, σ) (some (vi r)) (SH0, σ') :=
  Cn.ofI (by decide) (Nat.le_of_ble_eq_true rfl) (fun K e hC hR => (bX10_shift_0 hC ⟨Nat.le_refl _, Nat.le_refl _⟩ h0 hR _ h))
theorem dX10_slip_0 : decode cX10_slip 0 = .ok (.aload_n 0, 1) := by decide +kernel
theorem dX10_slip_1 : decode cX10_slip 1 = .ok (.iload_n 1, 1) := by decide +kernel
theorem dX10_slip_2 : decode cX10_slip 2 = .ok (.invokevirtual 125, 3) := by decide +kernel
theorem dX10_slip_5 : decode cX10_slip 5 = .ok (.ifCond .eq 12, 3) := by decide +kernel
theorem dX10_slip_8 : decode cX10_slip 8 = .ok (.iload_n 2, 1) := by decide +kernel
theorem dX10_slip_9 : decode cX10_slip 9 = .ok (.iconst 0, 1) := by decide +kernel
theorem dX10_slip_10 : decode cX10_slip 10 = .ok (.iconst 1, 1) := by decide +kernel
theorem dX10_slip_11 : decode cX10_slip 11 = .ok (.invokestatic 101, 3) := by decide +kernel
theorem dX10_slip_14 : decode cX10_slip 14 = .ok (.ifCond .ne 5, 3) := by decide +kernel
theorem dX10_slip_17 : decode cX10_slip 17 = .ok (.iconst (-1), 1) := by decide +kernel
theorem dX10_slip_18 : decode cX10_slip 18 = .ok (.ireturn, 1) := by decide +kernel
theorem dX10_slip_19 : decode cX10_slip 19 = .ok (.aload_n 0, 1) := by decide +kernel
theorem dX10_slip_20 : decode cX10_slip 20 = .ok (.getfield 24, 3) := by decide +kernel
theorem dX10_slip_23 : decode cX10_slip 23 = .ok (.bipush 28, 2) := by decide +kernel
theorem dX10_slip_25 : decode cX10_slip 25 = .ok (.iload_n 1, 1) := by decide +kernel
theorem dX10_slip_26 : decode cX10_slip 26 = .ok (.iadd, 1) := by decide +kernel
theorem dX10_slip_27 : decode cX10_slip 27 = .ok (.iaload, 1) := by decide +kernel
theorem dX10_slip_28 : decode cX10_slip 28 = .ok (.istore_n 3, 1) := by decide +kernel
theorem dX10_slip_29 : decode cX10_slip 29 = .ok (.aload_n 0, 1) := by decide +kernel
theorem dX10_slip_30 : decode cX10_slip 30 = .ok (.getfield 24, 3) := by decide +kernel
theorem dX10_slip_33 : decode cX10_slip 33 = .ok (.bipush 28, 2) := by decide +kernel
theorem dX10_slip_35 : decode cX10_slip 35 = .ok (.iload_n 1, 1) := by decide +kernel
theorem dX10_slip_36 : decode cX10_slip 36 = .ok (.iadd, 1) := by decide +kernel
theorem dX10_slip_37 : decode cX10_slip 37 = .ok (.iload_n 2, 1) := by decide +kernel
theorem dX10_slip_38 : decode cX10_slip 38 = .ok (.iastore, 1) := by decide +kernel
theorem dX10_slip_39 : decode cX10_slip 39 = .ok (.aload_n 0, 1) := by decide +kernel
theorem dX10_slip_40 : decode cX10_slip 40 = .ok (.getfield 60, 3) := by decide +kernel
theorem dX10_slip_43 : decode cX10_slip 43 = .ok (.iconst 3, 1) := by decide +kernel
theorem dX10_slip_44 : decode cX10_slip 44 = .ok (.dup2, 1) := by decide +kernel
theorem dX10_slip_45 : decode cX10_slip 45 = .ok (.iaload, 1) := by decide +kernel
theorem dX10_slip_46 : decode cX10_slip 46 = .ok (.iload_n 2, 1) := by decide +kernel
theorem dX10_slip_47 : decode cX10_slip 47 = .ok (.iadd, 1) := by decide +kernel
theorem dX10_slip_48 : decode cX10_slip 48 = .ok (.iastore, 1) := by decide +kernel
theorem dX10_slip_49 : decode cX10_slip 49 = .ok (.iload_n 3, 1) := by decide +kernel
theorem dX10_slip_50 : decode cX10_slip 50 = .ok (.ireturn, 1) := by decide +kernel
theorem bX10_slip_0 {K : KT} {g : GT} {cm sm : Nat} {cs : Nat × Nat} {c0 : Nat} {x1 : Int} {x2 : Int} {r : Int} {σ' : St} (hC : Ctx K g RX10 cX10_slip 4 2 cm sm) (hcs : cs.1 ≤ cm ∧ cs.2 ≤ sm) (h0 : isO 10 c0 = true) (hR : RetI K g cX10_slip 4 cs r (SH0, σ')) : ∀ (σ : St), fX10_slip c0 x1 x2 σ = some (r, σ') → G K g 4 cs 0 [(0, vr c0), (1, vi x1), (2, vi x2)] [] (SH0, σ) := by
  intro σ h
  unfold fX10_slip at h
  refine g_aload_n hC dX10_slip_0 0 rfl rfl ?_
  refine g_iload_n hC dX10_slip_1 1 rfl rfl ?_
  obtain ⟨⟨r1, s1⟩, e1, h⟩ := of_bind h
  try dsimp only at h
  refine s_callVi hC dX10_slip_2 (tX10_isOne h0 e1) miX10_isOne mvX10_isOne mlRX10_125 (isO_spec h0) vc_10 rfl rfl (Nat.le_of_ble_eq_true rfl) (Nat.le_of_ble_eq_true rfl) (Nat.le_of_ble_eq_true rfl) hcs ?_
  refine g_if_eq hC dX10_slip_5 (tgt := 17) (by decide) (fun h9 => ?_) (fun h9 => ?_)
  · rw [if_pos h9] at h
    refine g_iconst hC dX10_slip_17 ok_m1 ?_
    exact ret_i h hR dX10_slip_18
  · rw [if_neg h9] at h
    refine g_iload_n hC dX10_slip_8 2 rfl rfl ?_
    refine g_iconst hC dX10_slip_9 ok_0 ?_
    refine g_iconst hC dX10_slip_10 ok_1 ?_
    obtain ⟨⟨r2, s2⟩, e2, h⟩ := of_bind h
    try dsimp only at h
    refine s_callSi hC dX10_slip_11 (tX10_within e2) miX10_within msX10_within mlRX10_101 rfl rfl (Nat.le_of_ble_eq_true rfl) (Nat.le_of_ble_eq_true rfl) (Nat.le_of_ble_eq_true rfl) hcs ?_
    refine g_if_ne hC dX10_slip_14 (tgt := 19) (by decide) (fun h9 => ?_) (fun h9 => ?_)
    · rw [if_neg h9] at h
      refine g_aload_n hC dX10_slip_19 0 rfl rfl ?_
      refine g_getr hC dX10_slip_20 lfRX10_24 (isO_spec h0) (ft_10_6 h0) ?_
      refine g_bipush hC dX10_slip_23 bp_28 ?_
      refine g_iload_n hC dX10_slip_25 1 rfl rfl ?_
      refine g_iadd hC dX10_slip_26 ?_
      obtain ⟨b9, h⟩ := of_ite h
      refine g_iald hC dX10_slip_27 (isA_spec (rf_10_6 h0)) b9 ?_
      refine g_istore_n hC dX10_slip_28 rfl (Nat.le_of_ble_eq_true rfl) rfl ?_
      refine g_aload_n hC dX10_slip_29 1 rfl rfl ?_
      refine g_getr hC dX10_slip_30 lfRX10_24 (isO_spec h0) (ft_10_6 h0) ?_
      refine g_bipush hC dX10_slip_33 bp_28 ?_
      refine g_iload_n hC dX10_slip_35 2 rfl rfl ?_
      refine g_iadd hC dX10_slip_36 ?_
      refine g_iload_n hC dX10_slip_37 3 rfl rfl ?_
      obtain ⟨b9, h⟩ := of_ite h
      refine g_iast hC dX10_slip_38 (isA_spec (rf_10_6 h0)) b9 ?_
      refine g_aload_n hC dX10_slip_39 1 rfl rfl ?_
      refine g_getr hC dX10_slip_40 lfRX10_60 (isO_spec h0) (ft_10_25 h0) ?_
      refine g_iconst hC dX10_slip_43 ok_3 ?_
      refine g_dup2 hC dX10_slip_44 rfl rfl ?_
      obtain ⟨b9, h⟩ := of_ite h
      refine g_iald hC dX10_slip_45 (isA_spec (rf_10_25 h0)) b9 ?_
      refine g_iload_n hC dX10_slip_46 3 rfl rfl ?_
      refine g_iadd hC dX10_slip_47 ?_
      obtain ⟨b9, h⟩ := of_ite h
      refine g_iast hC dX10_slip_48 (isA_spec (rf_10_25 h0)) b9 ?_
      refine g_iload_n hC dX10_slip_49 0 rfl rfl ?_
      exact ret_i h hR dX10_slip_50
    · rw [if_pos h9] at h
      refine g_iconst hC dX10_slip_17 ok_m1 ?_
      exact ret_i h hR dX10_slip_18
theorem tX10_slip {l : Launch} {g : GT} {c0 : Nat} {x1 : Int} {x2 : Int} {σ σ' : St} {r : Int} (h0 : isO 10 c0 = true) (h : fX10_slip c0 x1 x2 σ = some (r, σ')) : Cn l g yX10_slip cX10_slip 4 (some .int) 2 0 0 [vr c0, vi x1, vi x2] (SH0, σ) (some (vi r)) (SH0, σ') :=
  Cn.ofI (by decide) (Nat.le_of_ble_eq_true rfl) (fun K e hC hR => (bX10_slip_0 hC ⟨Nat.le_refl _, Nat.le_refl _⟩ h0 hR _ h))
theorem dX10_taken_0 : decode cX10_taken 0 = .ok (.iload_n 1, 1) := by decide +kernel
theorem dX10_taken_1 : decode cX10_taken 1 = .ok (.invokestatic 112, 3) := by decide +kernel
theorem dX10_taken_4 : decode cX10_taken 4 = .ok (.ifCond .eq 13, 3) := by decide +kernel
theorem dX10_taken_7 : decode cX10_taken 7 = .ok (.iload_n 2, 1) := by decide +kernel
theorem dX10_taken_8 : decode cX10_taken 8 = .ok (.iconst 0, 1) := by decide +kernel
theorem dX10_taken_9 : decode cX10_taken 9 = .ok (.bipush 7, 2) := by decide +kernel
theorem dX10_taken_11 : decode cX10_taken 11 = .ok (.invokestatic 101, 3) := by decide +kernel
theorem dX10_taken_14 : decode cX10_taken 14 = .ok (.ifCond .ne 5, 3) := by decide +kernel
theorem dX10_taken_17 : decode cX10_taken 17 = .ok (.iconst (-1), 1) := by decide +kernel
theorem dX10_taken_18 : decode cX10_taken 18 = .ok (.ireturn, 1) := by decide +kernel
theorem dX10_taken_19 : decode cX10_taken 19 = .ok (.aload_n 0, 1) := by decide +kernel
theorem dX10_taken_20 : decode cX10_taken 20 = .ok (.getfield 78, 3) := by decide +kernel
theorem dX10_taken_23 : decode cX10_taken 23 = .ok (.iload_n 1, 1) := by decide +kernel
theorem dX10_taken_24 : decode cX10_taken 24 = .ok (.iaload, 1) := by decide +kernel
theorem dX10_taken_25 : decode cX10_taken 25 = .ok (.iconst (-1), 1) := by decide +kernel
theorem dX10_taken_26 : decode cX10_taken 26 = .ok (.if_icmp .ne 6, 3) := by decide +kernel
theorem dX10_taken_29 : decode cX10_taken 29 = .ok (.bipush (-11), 2) := by decide +kernel
theorem dX10_taken_31 : decode cX10_taken 31 = .ok (.ireturn, 1) := by decide +kernel
theorem dX10_taken_32 : decode cX10_taken 32 = .ok (.aload_n 0, 1) := by decide +kernel
theorem dX10_taken_33 : decode cX10_taken 33 = .ok (.iload_n 1, 1) := by decide +kernel
theorem dX10_taken_34 : decode cX10_taken 34 = .ok (.invokevirtual 351, 3) := by decide +kernel
theorem dX10_taken_37 : decode cX10_taken 37 = .ok (.ifCond .eq 6, 3) := by decide +kernel
theorem dX10_taken_40 : decode cX10_taken 40 = .ok (.bipush (-12), 2) := by decide +kernel
theorem dX10_taken_42 : decode cX10_taken 42 = .ok (.ireturn, 1) := by decide +kernel
theorem dX10_taken_43 : decode cX10_taken 43 = .ok (.aload_n 0, 1) := by decide +kernel
theorem dX10_taken_44 : decode cX10_taken 44 = .ok (.getfield 72, 3) := by decide +kernel
theorem dX10_taken_47 : decode cX10_taken 47 = .ok (.aload_n 0, 1) := by decide +kernel
theorem dX10_taken_48 : decode cX10_taken 48 = .ok (.getfield 78, 3) := by decide +kernel
theorem dX10_taken_51 : decode cX10_taken 51 = .ok (.iload_n 1, 1) := by decide +kernel
theorem dX10_taken_52 : decode cX10_taken 52 = .ok (.iaload, 1) := by decide +kernel
theorem dX10_taken_53 : decode cX10_taken 53 = .ok (.bipush 10, 2) := by decide +kernel
theorem dX10_taken_55 : decode cX10_taken 55 = .ok (.isub, 1) := by decide +kernel
theorem dX10_taken_56 : decode cX10_taken 56 = .ok (.iaload, 1) := by decide +kernel
theorem dX10_taken_57 : decode cX10_taken 57 = .ok (.istore_n 3, 1) := by decide +kernel
theorem dX10_taken_58 : decode cX10_taken 58 = .ok (.iload_n 3, 1) := by decide +kernel
theorem dX10_taken_59 : decode cX10_taken 59 = .ok (.istore 4, 2) := by decide +kernel
theorem dX10_taken_61 : decode cX10_taken 61 = .ok (.iload 4, 2) := by decide +kernel
theorem dX10_taken_63 : decode cX10_taken 63 = .ok (.iload_n 2, 1) := by decide +kernel
theorem dX10_taken_64 : decode cX10_taken 64 = .ok (.if_icmp .eq 18, 3) := by decide +kernel
theorem dX10_taken_67 : decode cX10_taken 67 = .ok (.iload 4, 2) := by decide +kernel
theorem dX10_taken_69 : decode cX10_taken 69 = .ok (.ifCond .le 13, 3) := by decide +kernel
theorem dX10_taken_72 : decode cX10_taken 72 = .ok (.iload 4, 2) := by decide +kernel
theorem dX10_taken_74 : decode cX10_taken 74 = .ok (.invokestatic 336, 3) := by decide +kernel
theorem dX10_taken_77 : decode cX10_taken 77 = .ok (.istore 4, 2) := by decide +kernel
theorem dX10_taken_79 : decode cX10_taken 79 = .ok (.goto (-18), 3) := by decide +kernel
theorem dX10_taken_82 : decode cX10_taken 82 = .ok (.iload 4, 2) := by decide +kernel
theorem dX10_taken_84 : decode cX10_taken 84 = .ok (.iload_n 2, 1) := by decide +kernel
theorem dX10_taken_85 : decode cX10_taken 85 = .ok (.if_icmp .ne 7, 3) := by decide +kernel
theorem dX10_taken_88 : decode cX10_taken 88 = .ok (.iload_n 3, 1) := by decide +kernel
theorem dX10_taken_89 : decode cX10_taken 89 = .ok (.goto 5, 3) := by decide +kernel
theorem dX10_taken_92 : decode cX10_taken 92 = .ok (.bipush (-12), 2) := by decide +kernel
theorem dX10_taken_94 : decode cX10_taken 94 = .ok (.ireturn, 1) := by decide +kernel
theorem bX10_taken_82 {K : KT} {g : GT} {cm sm : Nat} {cs : Nat × Nat} {c0 : Nat} {x1 : Int} {x2 : Int} {r : Int} {σ' : St} (hC : Ctx K g RX10 cX10_taken 5 2 cm sm) (hcs : cs.1 ≤ cm ∧ cs.2 ≤ sm) (h0 : isO 10 c0 = true) (hR : RetI K g cX10_taken 5 cs r (SH0, σ')) : ∀ (x3 : Int) (x4 : Int) (σ : St), fX10_taken_82 c0 x1 x2 x3 x4 σ = some (r, σ') → G K g 5 cs 82 [(0, vr c0), (1, vi x1), (2, vi x2), (3, vi x3), (4, vi x4)] [] (SH0, σ) := by
  intro x3 x4 σ h
  unfold fX10_taken_82 at h
  refine g_iload hC dX10_taken_82 4 rfl ?_
  refine g_iload_n hC dX10_taken_84 2 rfl rfl ?_
  refine g_icmp_ne hC dX10_taken_85 (tgt := 92) (by decide) (fun h9 => ?_) (fun h9 => ?_)
  · rw [if_neg h9] at h
    refine g_bipush hC dX10_taken_92 bp_m12 ?_
    exact ret_i h hR dX10_taken_94
  · rw [if_pos h9] at h
    refine g_iload_n hC dX10_taken_88 3 rfl rfl ?_
    refine g_goto hC dX10_taken_89 (tgt := 94) (by decide) ?_
    exact ret_i h hR dX10_taken_94
theorem bX10_taken_61 {K : KT} {g : GT} {cm sm : Nat} {cs : Nat × Nat} {c0 : Nat} {x1 : Int} {x2 : Int} {r : Int} {σ' : St} (hC : Ctx K g RX10 cX10_taken 5 2 cm sm) (hcs : cs.1 ≤ cm ∧ cs.2 ≤ sm) (h0 : isO 10 c0 = true) (hR : RetI K g cX10_taken 5 cs r (SH0, σ')) : ∀ (n : Nat) (x3 : Int) (x4 : Int) (σ : St), fX10_taken_61 c0 x1 x2 n x3 x4 σ = some (r, σ') → G K g 5 cs 61 [(0, vr c0), (1, vi x1), (2, vi x2), (3, vi x3), (4, vi x4)] [] (SH0, σ) := by
  intro n
  induction n with
  | zero =>
    intro x3 x4 σ h
    rw [fX10_taken_61.eq_1] at h
    cases h
  | succ n ih =>
    intro x3 x4 σ h
    rw [fX10_taken_61.eq_2] at h
    refine g_iload hC dX10_taken_61 4 rfl ?_
    refine g_iload_n hC dX10_taken_63 2 rfl rfl ?_
    refine g_icmp_eq hC dX10_taken_64 (tgt := 82) (by decide) (fun h9 => ?_) (fun h9 => ?_)
    · rw [if_pos h9] at h
      exact g_pick [0, 1, 2, 3, 4] rfl (bX10_taken_82 hC hcs h0 hR _ _ _ h)
    · rw [if_neg h9] at h
      refine g_iload hC dX10_taken_67 4 rfl ?_
      refine g_if_le hC dX10_taken_69 (tgt := 82) (by decide) (fun h9 => ?_) (fun h9 => ?_)
      · rw [if_pos h9] at h
        exact g_pick [0, 1, 2, 3, 4] rfl (bX10_taken_82 hC hcs h0 hR _ _ _ h)
      · rw [if_neg h9] at h
        refine g_iload hC dX10_taken_72 4 rfl ?_
        obtain ⟨⟨r1, s1⟩, e1, h⟩ := of_bind h
        try dsimp only at h
        refine s_callSi hC dX10_taken_74 (tX10_above e1) miX10_above msX10_above mlRX10_336 rfl rfl (Nat.le_of_ble_eq_true rfl) (Nat.le_of_ble_eq_true rfl) (Nat.le_of_ble_eq_true rfl) hcs ?_
        refine g_istore hC dX10_taken_77 (Nat.le_of_ble_eq_true rfl) rfl ?_
        refine g_goto hC dX10_taken_79 (tgt := 61) (by decide) ?_
        exact g_pick [1, 2, 3, 4, 0] rfl (ih _ _ _ h)
theorem bX10_taken_0 {K : KT} {g : GT} {cm sm : Nat} {cs : Nat × Nat} {c0 : Nat} {x1 : Int} {x2 : Int} {r : Int} {σ' : St} (hC : Ctx K g RX10 cX10_taken 5 2 cm sm) (hcs : cs.1 ≤ cm ∧ cs.2 ≤ sm) (h0 : isO 10 c0 = true) (hR : RetI K g cX10_taken 5 cs r (SH0, σ')) : ∀ (σ : St), fX10_taken c0 x1 x2 σ = some (r, σ') → G K g 5 cs 0 [(0, vr c0), (1, vi x1), (2, vi x2)] [] (SH0, σ) := by
  intro σ h
  unfold fX10_taken at h
  refine g_iload_n hC dX10_taken_0 1 rfl rfl ?_
  obtain ⟨⟨r1, s1⟩, e1, h⟩ := of_bind h
  try dsimp only at h
  refine s_callSi hC dX10_taken_1 (tX10_isShelf e1) miX10_isShelf msX10_isShelf mlRX10_112 rfl rfl (Nat.le_of_ble_eq_true rfl) (Nat.le_of_ble_eq_true rfl) (Nat.le_of_ble_eq_true rfl) hcs ?_
  refine g_if_eq hC dX10_taken_4 (tgt := 17) (by decide) (fun h9 => ?_) (fun h9 => ?_)
  · rw [if_pos h9] at h
    refine g_iconst hC dX10_taken_17 ok_m1 ?_
    exact ret_i h hR dX10_taken_18
  · rw [if_neg h9] at h
    refine g_iload_n hC dX10_taken_7 2 rfl rfl ?_
    refine g_iconst hC dX10_taken_8 ok_0 ?_
    refine g_bipush hC dX10_taken_9 bp_7 ?_
    obtain ⟨⟨r2, s2⟩, e2, h⟩ := of_bind h
    try dsimp only at h
    refine s_callSi hC dX10_taken_11 (tX10_within e2) miX10_within msX10_within mlRX10_101 rfl rfl (Nat.le_of_ble_eq_true rfl) (Nat.le_of_ble_eq_true rfl) (Nat.le_of_ble_eq_true rfl) hcs ?_
    refine g_if_ne hC dX10_taken_14 (tgt := 19) (by decide) (fun h9 => ?_) (fun h9 => ?_)
    · rw [if_neg h9] at h
      refine g_aload_n hC dX10_taken_19 0 rfl rfl ?_
      refine g_getr hC dX10_taken_20 lfRX10_78 (isO_spec h0) (ft_10_38 h0) ?_
      refine g_iload_n hC dX10_taken_23 1 rfl rfl ?_
      obtain ⟨b9, h⟩ := of_ite h
      refine g_iald hC dX10_taken_24 (isA_spec (rf_10_38 h0)) b9 ?_
      refine g_iconst hC dX10_taken_25 ok_m1 ?_
      refine g_icmp_ne hC dX10_taken_26 (tgt := 32) (by decide) (fun h9 => ?_) (fun h9 => ?_)
      · rw [if_neg h9] at h
        refine g_aload_n hC dX10_taken_32 0 rfl rfl ?_
        refine g_iload_n hC dX10_taken_33 1 rfl rfl ?_
        obtain ⟨⟨r3, s3⟩, e3, h⟩ := of_bind h
        try dsimp only at h
        refine s_callVi hC dX10_taken_34 (tX10_isRow h0 e3) miX10_isRow mvX10_isRow mlRX10_351 (isO_spec h0) vc_10 rfl rfl (Nat.le_of_ble_eq_true rfl) (Nat.le_of_ble_eq_true rfl) (Nat.le_of_ble_eq_true rfl) hcs ?_
        refine g_if_eq hC dX10_taken_37 (tgt := 43) (by decide) (fun h9 => ?_) (fun h9 => ?_)
        · rw [if_pos h9] at h
          refine g_aload_n hC dX10_taken_43 0 rfl rfl ?_
          refine g_getr hC dX10_taken_44 lfRX10_72 (isO_spec h0) (ft_10_35 h0) ?_
          refine g_aload_n hC dX10_taken_47 0 rfl rfl ?_
          refine g_getr hC dX10_taken_48 lfRX10_78 (isO_spec h0) (ft_10_38 h0) ?_
          refine g_iload_n hC dX10_taken_51 1 rfl rfl ?_
          obtain ⟨b9, h⟩ := of_ite h
          refine g_iald hC dX10_taken_52 (isA_spec (rf_10_38 h0)) b9 ?_
          refine g_bipush hC dX10_taken_53 bp_10 ?_
          refine g_isub hC dX10_taken_55 ?_
          obtain ⟨b9, h⟩ := of_ite h
          refine g_iald hC dX10_taken_56 (isA_spec (rf_10_35 h0)) b9 ?_
          refine g_istore_n hC dX10_taken_57 rfl (Nat.le_of_ble_eq_true rfl) rfl ?_
          refine g_iload_n hC dX10_taken_58 0 rfl rfl ?_
          refine g_istore hC dX10_taken_59 (Nat.le_of_ble_eq_true rfl) rfl ?_
          exact g_pick [2, 3, 4, 1, 0] rfl (bX10_taken_61 hC hcs h0 hR _ _ _ _ h)
        · rw [if_neg h9] at h
          refine g_bipush hC dX10_taken_40 bp_m12 ?_
          exact ret_i h hR dX10_taken_42
      · rw [if_pos h9] at h
        refine g_bipush hC dX10_taken_29 bp_m11 ?_
        exact ret_i h hR dX10_taken_31
    · rw [if_pos h9] at h
      refine g_iconst hC dX10_taken_17 ok_m1 ?_
      exact ret_i h hR dX10_taken_18
theorem tX10_taken {l : Launch} {g : GT} {c0 : Nat} {x1 : Int} {x2 : Int} {σ σ' : St} {r : Int} (h0 : isO 10 c0 = true) (h : fX10_taken c0 x1 x2 σ = some (r, σ')) : Cn l g yX10_taken cX10_taken 5 (some .int) 2 0 0 [vr c0, vi x1, vi x2] (SH0, σ) (some (vi r)) (SH0, σ') :=
  Cn.ofI (by decide) (Nat.le_of_ble_eq_true rfl) (fun K e hC hR => (bX10_taken_0 hC ⟨Nat.le_refl _, Nat.le_refl _⟩ h0 hR _ h))
theorem dX10_thing_0 : decode cX10_thing 0 = .ok (.iload_n 1, 1) := by decide +kernel
theorem dX10_thing_1 : decode cX10_thing 1 = .ok (.iconst 0, 1) := by decide +kernel
theorem dX10_thing_2 : decode cX10_thing 2 = .ok (.iconst 3, 1) := by decide +kernel
theorem dX10_thing_3 : decode cX10_thing 3 = .ok (.invokestatic 101, 3) := by decide +kernel
theorem dX10_thing_6 : decode cX10_thing 6 = .ok (.ifCond .ne 5, 3) := by decide +kernel
theorem dX10_thing_9 : decode cX10_thing 9 = .ok (.iconst (-1), 1) := by decide +kernel
theorem dX10_thing_10 : decode cX10_thing 10 = .ok (.ireturn, 1) := by decide +kernel
theorem dX10_thing_11 : decode cX10_thing 11 = .ok (.aload_n 0, 1) := by decide +kernel
theorem dX10_thing_12 : decode cX10_thing 12 = .ok (.getfield 97, 3) := by decide +kernel
theorem dX10_thing_15 : decode cX10_thing 15 = .ok (.bipush 8, 2) := by decide +kernel
theorem dX10_thing_17 : decode cX10_thing 17 = .ok (.if_icmp .ne 6, 3) := by decide +kernel
theorem dX10_thing_20 : decode cX10_thing 20 = .ok (.bipush (-3), 2) := by decide +kernel
theorem dX10_thing_22 : decode cX10_thing 22 = .ok (.ireturn, 1) := by decide +kernel
theorem dX10_thing_23 : decode cX10_thing 23 = .ok (.aload_n 0, 1) := by decide +kernel
theorem dX10_thing_24 : decode cX10_thing 24 = .ok (.getfield 9, 3) := by decide +kernel
theorem dX10_thing_27 : decode cX10_thing 27 = .ok (.aload_n 0, 1) := by decide +kernel
theorem dX10_thing_28 : decode cX10_thing 28 = .ok (.getfield 97, 3) := by decide +kernel
theorem dX10_thing_31 : decode cX10_thing 31 = .ok (.iload_n 1, 1) := by decide +kernel
theorem dX10_thing_32 : decode cX10_thing 32 = .ok (.iastore, 1) := by decide +kernel
theorem dX10_thing_33 : decode cX10_thing 33 = .ok (.aload_n 0, 1) := by decide +kernel
theorem dX10_thing_34 : decode cX10_thing 34 = .ok (.getfield 15, 3) := by decide +kernel
theorem dX10_thing_37 : decode cX10_thing 37 = .ok (.aload_n 0, 1) := by decide +kernel
theorem dX10_thing_38 : decode cX10_thing 38 = .ok (.getfield 97, 3) := by decide +kernel
theorem dX10_thing_41 : decode cX10_thing 41 = .ok (.iconst (-1), 1) := by decide +kernel
theorem dX10_thing_42 : decode cX10_thing 42 = .ok (.iastore, 1) := by decide +kernel
theorem dX10_thing_43 : decode cX10_thing 43 = .ok (.aload_n 0, 1) := by decide +kernel
theorem dX10_thing_44 : decode cX10_thing 44 = .ok (.getfield 18, 3) := by decide +kernel
theorem dX10_thing_47 : decode cX10_thing 47 = .ok (.aload_n 0, 1) := by decide +kernel
theorem dX10_thing_48 : decode cX10_thing 48 = .ok (.getfield 97, 3) := by decide +kernel
theorem dX10_thing_51 : decode cX10_thing 51 = .ok (.iconst 0, 1) := by decide +kernel
theorem dX10_thing_52 : decode cX10_thing 52 = .ok (.iastore, 1) := by decide +kernel
theorem dX10_thing_53 : decode cX10_thing 53 = .ok (.aload_n 0, 1) := by decide +kernel
theorem dX10_thing_54 : decode cX10_thing 54 = .ok (.getfield 21, 3) := by decide +kernel
theorem dX10_thing_57 : decode cX10_thing 57 = .ok (.aload_n 0, 1) := by decide +kernel
theorem dX10_thing_58 : decode cX10_thing 58 = .ok (.getfield 97, 3) := by decide +kernel
theorem dX10_thing_61 : decode cX10_thing 61 = .ok (.iconst 0, 1) := by decide +kernel
theorem dX10_thing_62 : decode cX10_thing 62 = .ok (.iastore, 1) := by decide +kernel
theorem dX10_thing_63 : decode cX10_thing 63 = .ok (.aload_n 0, 1) := by decide +kernel
theorem dX10_thing_64 : decode cX10_thing 64 = .ok (.dup, 1) := by decide +kernel
theorem dX10_thing_65 : decode cX10_thing 65 = .ok (.getfield 97, 3) := by decide +kernel
theorem dX10_thing_68 : decode cX10_thing 68 = .ok (.dup_x1, 1) := by decide +kernel
theorem dX10_thing_69 : decode cX10_thing 69 = .ok (.iconst 1, 1) := by decide +kernel
theorem dX10_thing_70 : decode cX10_thing 70 = .ok (.iadd, 1) := by decide +kernel
theorem dX10_thing_71 : decode cX10_thing 71 = .ok (.putfield 97, 3) := by decide +kernel
theorem dX10_thing_74 : decode cX10_thing 74 = .ok (.ireturn, 1) := by decide +kernel
theorem bX10_thing_63 {K : KT} {g : GT} {cm sm : Nat} {cs : Nat × Nat} {c0 : Nat} {x1 : Int} {r : Int} {σ' : St} (hC : Ctx K g RX10 cX10_thing 2 1 cm sm) (hcs : cs.1 ≤ cm ∧ cs.2 ≤ sm) (h0 : isO 10 c0 = true) (hR : RetI K g cX10_thing 2 cs r (SH0, σ')) : ∀ (σ : St), fX10_thing_63 c0 x1 σ = some (r, σ') → G K g 2 cs 63 [(0, vr c0), (1, vi x1)] [] (SH0, σ) := by
  intro σ h
  unfold fX10_thing_63 at h
  refine g_aload_n hC dX10_thing_63 0 rfl rfl ?_
  refine g_dup hC dX10_thing_64 rfl ?_
  refine g_geti hC dX10_thing_65 lfRX10_97 (isO_spec h0) (ft_10_0 h0) ?_
  refine g_dup_x1 hC dX10_thing_68 rfl rfl ?_
  refine g_iconst hC dX10_thing_69 ok_1 ?_
  refine g_iadd hC dX10_thing_70 ?_
  refine g_puti hC dX10_thing_71 lfRX10_97 fp_10_0 (isO_spec h0) (ft_10_0 h0) ?_
  exact ret_i h hR dX10_thing_74
theorem bX10_thing_53 {K : KT} {g : GT} {cm sm : Nat} {cs : Nat × Nat} {c0 : Nat} {x1 : Int} {r : Int} {σ' : St} (hC : Ctx K g RX10 cX10_thing 2 1 cm sm) (hcs : cs.1 ≤ cm ∧ cs.2 ≤ sm) (h0 : isO 10 c0 = true) (hR : RetI K g cX10_thing 2 cs r (SH0, σ')) : ∀ (σ : St), fX10_thing_53 c0 x1 σ = some (r, σ') → G K g 2 cs 53 [(0, vr c0), (1, vi x1)] [] (SH0, σ) := by
  intro σ h
  unfold fX10_thing_53 at h
  refine g_aload_n hC dX10_thing_53 0 rfl rfl ?_
  refine g_getr hC dX10_thing_54 lfRX10_21 (isO_spec h0) (ft_10_4 h0) ?_
  refine g_aload_n hC dX10_thing_57 0 rfl rfl ?_
  refine g_geti hC dX10_thing_58 lfRX10_97 (isO_spec h0) (ft_10_0 h0) ?_
  refine g_iconst hC dX10_thing_61 ok_0 ?_
  obtain ⟨b9, h⟩ := of_ite h
  refine g_iast hC dX10_thing_62 (isA_spec (rf_10_4 h0)) b9 ?_
  exact g_pick [0, 1] rfl (bX10_thing_63 hC hcs h0 hR _ h)
theorem bX10_thing_0 {K : KT} {g : GT} {cm sm : Nat} {cs : Nat × Nat} {c0 : Nat} {x1 : Int} {r : Int} {σ' : St} (hC : Ctx K g RX10 cX10_thing 2 1 cm sm) (hcs : cs.1 ≤ cm ∧ cs.2 ≤ sm) (h0 : isO 10 c0 = true) (hR : RetI K g cX10_thing 2 cs r (SH0, σ')) : ∀ (σ : St), fX10_thing c0 x1 σ = some (r, σ') → G K g 2 cs 0 [(0, vr c0), (1, vi x1)] [] (SH0, σ) := by
  intro σ h
  unfold fX10_thing at h
  refine g_iload_n hC dX10_thing_0 1 rfl rfl ?_
  refine g_iconst hC dX10_thing_1 ok_0 ?_
  refine g_iconst hC dX10_thing_2 ok_3 ?_
  obtain ⟨⟨r1, s1⟩, e1, h⟩ := of_bind h
  try dsimp only at h
  refine s_callSi hC dX10_thing_3 (tX10_within e1) miX10_within msX10_within mlRX10_101 rfl rfl (Nat.le_of_ble_eq_true rfl) (Nat.le_of_ble_eq_true rfl) (Nat.le_of_ble_eq_true rfl) hcs ?_
  refine g_if_ne hC dX10_thing_6 (tgt := 11) (by decide) (fun h9 => ?_) (fun h9 => ?_)
  · rw [if_neg h9] at h
    refine g_aload_n hC dX10_thing_11 0 rfl rfl ?_
    refine g_geti hC dX10_thing_12 lfRX10_97 (isO_spec h0) (ft_10_0 h0) ?_
    refine g_bipush hC dX10_thing_15 bp_8 ?_
    refine g_icmp_ne hC dX10_thing_17 (tgt := 23) (by decide) (fun h9 => ?_) (fun h9 => ?_)
    · rw [if_neg h9] at h
      refine g_aload_n hC dX10_thing_23 0 rfl rfl ?_
      refine g_getr hC dX10_thing_24 lfRX10_9 (isO_spec h0) (ft_10_1 h0) ?_
      refine g_aload_n hC dX10_thing_27 0 rfl rfl ?_
      refine g_geti hC dX10_thing_28 lfRX10_97 (isO_spec h0) (ft_10_0 h0) ?_
      refine g_iload_n hC dX10_thing_31 1 rfl rfl ?_
      obtain ⟨b9, h⟩ := of_ite h
      refine g_iast hC dX10_thing_32 (isA_spec (rf_10_1 h0)) b9 ?_
      refine g_aload_n hC dX10_thing_33 0 rfl rfl ?_
      refine g_getr hC dX10_thing_34 lfRX10_15 (isO_spec h0) (ft_10_2 h0) ?_
      refine g_aload_n hC dX10_thing_37 0 rfl rfl ?_
      refine g_geti hC dX10_thing_38 lfRX10_97 (isO_spec h0) (ft_10_0 h0) ?_
      refine g_iconst hC dX10_thing_41 ok_m1 ?_
      obtain ⟨b9, h⟩ := of_ite h
      refine g_iast hC dX10_thing_42 (isA_spec (rf_10_2 h0)) b9 ?_
      refine g_aload_n hC dX10_thing_43 0 rfl rfl ?_
      refine g_getr hC dX10_thing_44 lfRX10_18 (isO_spec h0) (ft_10_3 h0) ?_
      refine g_aload_n hC dX10_thing_47 0 rfl rfl ?_
      refine g_geti hC dX10_thing_48 lfRX10_97 (isO_spec h0) (ft_10_0 h0) ?_
      refine g_iconst hC dX10_thing_51 ok_0 ?_
      obtain ⟨b9, h⟩ := of_ite h
      refine g_iast hC dX10_thing_52 (isA_spec (rf_10_3 h0)) b9 ?_
      exact g_pick [0, 1] rfl (bX10_thing_53 hC hcs h0 hR _ h)
    · rw [if_pos h9] at h
      refine g_bipush hC dX10_thing_20 bp_m3 ?_
      exact ret_i h hR dX10_thing_22
  · rw [if_pos h9] at h
    refine g_iconst hC dX10_thing_9 ok_m1 ?_
    exact ret_i h hR dX10_thing_10
theorem tX10_thing {l : Launch} {g : GT} {c0 : Nat} {x1 : Int} {σ σ' : St} {r : Int} (h0 : isO 10 c0 = true) (h : fX10_thing c0 x1 σ = some (r, σ')) : Cn l g yX10_thing cX10_thing 2 (some .int) 1 0 0 [vr c0, vi x1] (SH0, σ) (some (vi r)) (SH0, σ') :=
  Cn.ofI (by decide) (Nat.le_of_ble_eq_true rfl) (fun K e hC hR => (bX10_thing_0 hC ⟨Nat.le_refl _, Nat.le_refl _⟩ h0 hR _ h))
theorem dX10_trace_0 : decode cX10_trace 0 = .ok (.iload_n 1, 1) := by decide +kernel
theorem dX10_trace_1 : decode cX10_trace 1 = .ok (.iconst 0, 1) := by decide +kernel
theorem dX10_trace_2 : decode cX10_trace 2 = .ok (.bipush 24, 2) := by decide +kernel
theorem dX10_trace_4 : decode cX10_trace 4 = .ok (.aload_n 0, 1) := by decide +kernel
theorem dX10_trace_5 : decode cX10_trace 5 = .ok (.getfield 326, 3) := by decide +kernel
theorem dX10_trace_8 : decode cX10_trace 8 = .ok (.invokestatic 222, 3) := by decide +kernel
theorem dX10_trace_11 : decode cX10_trace 11 = .ok (.iconst 1, 1) := by decide +kernel
theorem dX10_trace_12 : decode cX10_trace 12 = .ok (.isub, 1) := by decide +kernel
theorem dX10_trace_13 : decode cX10_trace 13 = .ok (.invokestatic 101, 3) := by decide +kernel
theorem dX10_trace_16 : decode cX10_trace 16 = .ok (.ifCond .eq 12, 3) := by decide +kernel
theorem dX10_trace_19 : decode cX10_trace 19 = .ok (.aload_n 0, 1) := by decide +kernel
theorem dX10_trace_20 : decode cX10_trace 20 = .ok (.getfield 75, 3) := by decide +kernel
theorem dX10_trace_23 : decode cX10_trace 23 = .ok (.iload_n 1, 1) := by decide +kernel
theorem dX10_trace_24 : decode cX10_trace 24 = .ok (.iaload, 1) := by decide +kernel
theorem dX10_trace_25 : decode cX10_trace 25 = .ok (.goto 4, 3) := by decide +kernel
theorem dX10_trace_28 : decode cX10_trace 28 = .ok (.iconst (-1), 1) := by decide +kernel
theorem dX10_trace_29 : decode cX10_trace 29 = .ok (.ireturn, 1) := by decide +kernel
theorem bX10_trace_0 {K : KT} {g : GT} {cm sm : Nat} {cs : Nat × Nat} {c0 : Nat} {x1 : Int} {r : Int} {σ' : St} (hC : Ctx K g RX10 cX10_trace 2 1 cm sm) (hcs : cs.1 ≤ cm ∧ cs.2 ≤ sm) (h0 : isO 10 c0 = true) (hR : RetI K g cX10_trace 2 cs r (SH0, σ')) : ∀ (σ : St), fX10_trace c0 x1 σ = some (r, σ') → G K g 2 cs 0 [(0, vr c0), (1, vi x1)] [] (SH0, σ) := by
  intro σ h
  unfold fX10_trace at h
  refine g_iload_n hC dX10_trace_0 1 rfl rfl ?_
  refine g_iconst hC dX10_trace_1 ok_0 ?_
  refine g_bipush hC dX10_trace_2 bp_24 ?_
  refine g_aload_n hC dX10_trace_4 0 rfl rfl ?_
  refine g_geti hC dX10_trace_5 lfRX10_326 (isO_spec h0) (ft_10_36 h0) ?_
  refine g_min hC dX10_trace_8 lmRX10_222 mn_1 mn_2 mn_3 (Nat.le_of_ble_eq_true rfl) (Nat.le_of_ble_eq_true rfl) hcs ?_
  refine g_iconst hC dX10_trace_11 ok_1 ?_
  refine g_isub hC dX10_trace_12 ?_
  obtain ⟨⟨r1, s1⟩, e1, h⟩ := of_bind h
  try dsimp only at h
  refine s_callSi hC dX10_trace_13 (tX10_within e1) miX10_within msX10_within mlRX10_101 rfl rfl (Nat.le_of_ble_eq_true rfl) (Nat.le_of_ble_eq_true rfl) (Nat.le_of_ble_eq_true rfl) hcs ?_
  refine g_if_eq hC dX10_trace_16 (tgt := 28) (by decide) (fun h9 => ?_) (fun h9 => ?_)
  · rw [if_pos h9] at h
    refine g_iconst hC dX10_trace_28 ok_m1 ?_
    exact ret_i h hR dX10_trace_29
  · rw [if_neg h9] at h
    refine g_aload_n hC dX10_trace_19 0 rfl rfl ?_
    refine g_getr hC dX10_trace_20 lfRX10_75 (isO_spec h0) (ft_10_37 h0) ?_
    refine g_iload_n hC dX10_trace_23 1 rfl rfl ?_
    obtain ⟨b9, h⟩ := of_ite h
    refine g_iald hC dX10_trace_24 (isA_spec (rf_10_37 h0)) b9 ?_
    refine g_goto hC dX10_trace_25 (tgt := 29) (by decide) ?_
    exact ret_i h hR dX10_trace_29
theorem tX10_trace {l : Launch} {g : GT} {c0 : Nat} {x1 : Int} {σ σ' : St} {r : Int} (h0 : isO 10 c0 = true) (h : fX10_trace c0 x1 σ = some (r, σ')) : Cn l g yX10_trace cX10_trace 2 (some .int) 1 0 0 [vr c0, vi x1] (SH0, σ) (some (vi r)) (SH0, σ') :=
  Cn.ofI (by decide) (Nat.le_of_ble_eq_true rfl) (fun K e hC hR => (bX10_trace_0 hC ⟨Nat.le_refl _, Nat.le_refl _⟩ h0 hR _ h))
theorem dX10_undo_0 : decode cX10_undo 0 = .ok (.aload_n 0, 1) := by decide +kernel
theorem dX10_undo_1 : decode cX10_undo 1 = .ok (.getfield 143, 3) := by decide +kernel
theorem dX10_undo_4 : decode cX10_undo 4 = .ok (.ifCond .ne 6, 3) := by decide +kernel
theorem dX10_undo_7 : decode cX10_undo 7 = .ok (.bipush (-5), 2) := by decide +kernel
theorem dX10_undo_9 : decode cX10_undo 9 = .ok (.ireturn, 1) := by decide +kernel
theorem dX10_undo_10 : decode cX10_undo 10 = .ok (.aload_n 0, 1) := by decide +kernel
theorem dX10_undo_11 : decode cX10_undo 11 = .ok (.dup, 1) := by decide +kernel
theorem dX10_undo_12 : decode cX10_undo 12 = .ok (.getfield 143, 3) := by decide +kernel
theorem dX10_undo_15 : decode cX10_undo 15 = .ok (.iconst 1, 1) := by decide +kernel
theorem dX10_undo_16 : decode cX10_undo 16 = .ok (.isub, 1) := by decide +kernel
theorem dX10_undo_17 : decode cX10_undo 17 = .ok (.putfield 143, 3) := by decide +kernel
theorem dX10_undo_20 : decode cX10_undo 20 = .ok (.aload_n 0, 1) := by decide +kernel
theorem dX10_undo_21 : decode cX10_undo 21 = .ok (.aload_n 0, 1) := by decide +kernel
theorem dX10_undo_22 : decode cX10_undo 22 = .ok (.getfield 69, 3) := by decide +kernel
theorem dX10_undo_25 : decode cX10_undo 25 = .ok (.iconst 4, 1) := by decide +kernel
theorem dX10_undo_26 : decode cX10_undo 26 = .ok (.aload_n 0, 1) := by decide +kernel
theorem dX10_undo_27 : decode cX10_undo 27 = .ok (.getfield 143, 3) := by decide +kernel
theorem dX10_undo_30 : decode cX10_undo 30 = .ok (.imul, 1) := by decide +kernel
theorem dX10_undo_31 : decode cX10_undo 31 = .ok (.iaload, 1) := by decide +kernel
theorem dX10_undo_32 : decode cX10_undo 32 = .ok (.aload_n 0, 1) := by decide +kernel
theorem dX10_undo_33 : decode cX10_undo 33 = .ok (.getfield 69, 3) := by decide +kernel
theorem dX10_undo_36 : decode cX10_undo 36 = .ok (.iconst 4, 1) := by decide +kernel
theorem dX10_undo_37 : decode cX10_undo 37 = .ok (.aload_n 0, 1) := by decide +kernel
theorem dX10_undo_38 : decode cX10_undo 38 = .ok (.getfield 143, 3) := by decide +kernel
theorem dX10_undo_41 : decode cX10_undo 41 = .ok (.imul, 1) := by decide +kernel
theorem dX10_undo_42 : decode cX10_undo 42 = .ok (.iconst 1, 1) := by decide +kernel
theorem dX10_undo_43 : decode cX10_undo 43 = .ok (.iadd, 1) := by decide +kernel
theorem dX10_undo_44 : decode cX10_undo 44 = .ok (.iaload, 1) := by decide +kernel
theorem dX10_undo_45 : decode cX10_undo 45 = .ok (.aload_n 0, 1) := by decide +kernel
theorem dX10_undo_46 : decode cX10_undo 46 = .ok (.getfield 69, 3) := by decide +kernel
theorem dX10_undo_49 : decode cX10_undo 49 = .ok (.iconst 4, 1) := by decide +kernel
theorem dX10_undo_50 : decode cX10_undo 50 = .ok (.aload_n 0, 1) := by decide +kernel
theorem dX10_undo_51 : decode cX10_undo 51 = .ok (.getfield 143, 3) := by decide +kernel
theorem dX10_undo_54 : decode cX10_undo 54 = .ok (.imul, 1) := by decide +kernel
theorem dX10_undo_55 : decode cX10_undo 55 = .ok (.iconst 2, 1) := by decide +kernel
theorem dX10_undo_56 : decode cX10_undo 56 = .ok (.iadd, 1) := by decide +kernel
theorem dX10_undo_57 : decode cX10_undo 57 = .ok (.iaload, 1) := by decide +kernel
theorem dX10_undo_58 : decode cX10_undo 58 = .ok (.invokevirtual 139, 3) := by decide +kernel
theorem dX10_undo_61 : decode cX10_undo 61 = .ok (.aload_n 0, 1) := by decide +kernel
theorem dX10_undo_62 : decode cX10_undo 62 = .ok (.getfield 143, 3) := by decide +kernel
theorem dX10_undo_65 : decode cX10_undo 65 = .ok (.ireturn, 1) := by decide +kernel
theorem bX10_undo_0 {K : KT} {g : GT} {cm sm : Nat} {cs : Nat × Nat} {c0 : Nat} {r : Int} {σ' : St} (hC : Ctx K g RX10 cX10_undo 1 1 cm sm) (hcs : cs.1 ≤ cm ∧ cs.2 ≤ sm) (h0 : isO 10 c0 = true) (hR : RetI K g cX10_undo 1 cs r (SH0, σ')) : ∀ (σ : St), fX10_undo c0 σ = some (r, σ') → G K g 1 cs 0 [(0, vr c0)] [] (SH0, σ) := by
  intro σ h
  unfold fX10_undo at h
  refine g_aload_n hC dX10_undo_0 0 rfl rfl ?_
  refine g_geti hC dX10_undo_1 lfRX10_143 (isO_spec h0) (ft_10_32 h0) ?_
  refine g_if_ne hC dX10_undo_4 (tgt := 10) (by decide) (fun h9 => ?_) (fun h9 => ?_)
  · rw [if_neg h9] at h
    refine g_aload_n hC dX10_undo_10 0 rfl rfl ?_
    refine g_dup hC dX10_undo_11 rfl ?_
    refine g_geti hC dX10_undo_12 lfRX10_143 (isO_spec h0) (ft_10_32 h0) ?_
    refine g_iconst hC dX10_undo_15 ok_1 ?_
    refine g_isub hC dX10_undo_16 ?_
    refine g_puti hC dX10_undo_17 lfRX10_143 fp_10_32 (isO_spec h0) (ft_10_32 h0) ?_
    refine g_aload_n hC dX10_undo_20 0 rfl rfl ?_
    refine g_aload_n hC dX10_undo_21 0 rfl rfl ?_
    refine g_getr hC dX10_undo_22 lfRX10_69 (isO_spec h0) (ft_10_33 h0) ?_
    refine g_iconst hC dX10_undo_25 ok_4 ?_
    refine g_aload_n hC dX10_undo_26 0 rfl rfl ?_
    refine g_geti hC dX10_undo_27 lfRX10_143 (isO_spec h0) (ft_10_32 h0) ?_
    refine g_imul hC dX10_undo_30 ?_
    obtain ⟨b9, h⟩ := of_ite h
    refine g_iald hC dX10_undo_31 (isA_spec (rf_10_33 h0)) b9 ?_
    refine g_aload_n hC dX10_undo_32 0 rfl rfl ?_
    refine g_getr hC dX10_undo_33 lfRX10_69 (isO_spec h0) (ft_10_33 h0) ?_
    refine g_iconst hC dX10_undo_36 ok_4 ?_
    refine g_aload_n hC dX10_undo_37 0 rfl rfl ?_
    refine g_geti hC dX10_undo_38 lfRX10_143 (isO_spec h0) (ft_10_32 h0) ?_
    refine g_imul hC dX10_undo_41 ?_
    refine g_iconst hC dX10_undo_42 ok_1 ?_
    refine g_iadd hC dX10_undo_43 ?_
    obtain ⟨b9, h⟩ := of_ite h
    refine g_iald hC dX10_undo_44 (isA_spec (rf_10_33 h0)) b9 ?_
    refine g_aload_n hC dX10_undo_45 0 rfl rfl ?_
    refine g_getr hC dX10_undo_46 lfRX10_69 (isO_spec h0) (ft_10_33 h0) ?_
    refine g_iconst hC dX10_undo_49 ok_4 ?_
    refine g_aload_n hC dX10_undo_50 0 rfl rfl ?_
    refine g_geti hC dX10_undo_51 lfRX10_143 (isO_spec h0) (ft_10_32 h0) ?_
    refine g_imul hC dX10_undo_54 ?_
    refine g_iconst hC dX10_undo_55 ok_2 ?_
    refine g_iadd hC dX10_undo_56 ?_
    obtain ⟨b9, h⟩ := of_ite h
    refine g_iald hC dX10_undo_57 (isA_spec (rf_10_33 h0)) b9 ?_
    obtain ⟨s1, e1, h⟩ := of_bind h
    try dsimp only at h
    refine s_callVv hC dX10_undo_58 (tX10_becomes h0 e1) miX10_becomes mvX10_becomes mlRX10_139 (isO_spec h0) vc_10 rfl rfl (Nat.le_of_ble_eq_true rfl) (Nat.le_of_ble_eq_true rfl) (Nat.le_of_ble_eq_true rfl) hcs ?_
    refine g_aload_n hC dX10_undo_61 0 rfl rfl ?_
    refine g_geti hC dX10_undo_62 lfRX10_143 (isO_spec h0) (ft_10_32 h0) ?_
    exact ret_i h hR dX10_undo_65
  · rw [if_pos h9] at h
    refine g_bipush hC dX10_undo_7 bp_m5 ?_
    exact ret_i h hR dX10_undo_9
theorem tX10_undo {l : Launch} {g : GT} {c0 : Nat} {σ σ' : St} {r : Int} (h0 : isO 10 c0 = true) (h : fX10_undo c0 σ = some (r, σ')) : Cn l g yX10_undo cX10_undo 1 (some .int) 1 0 0 [vr c0] (SH0, σ) (some (vi r)) (SH0, σ') :=
  Cn.ofI (by decide) (Nat.le_of_ble_eq_true rfl) (fun K e hC hR => (bX10_undo_0 hC ⟨Nat.le_refl _, Nat.le_refl _⟩ h0 hR _ h))
theorem dX10_wins_0 : decode cX10_wins 0 = .ok (.aload_n 0, 1) := by decide +kernel
theorem dX10_wins_1 : decode cX10_wins 1 = .ok (.iload_n 1, 1) := by decide +kernel
theorem dX10_wins_2 : decode cX10_wins 2 = .ok (.invokevirtual 122, 3) := by decide +kernel
theorem dX10_wins_5 : decode cX10_wins 5 = .ok (.ifCond .eq 11, 3) := by decide +kernel
theorem dX10_wins_8 : decode cX10_wins 8 = .ok (.aload_n 0, 1) := by decide +kernel
theorem dX10_wins_9 : decode cX10_wins 9 = .ok (.iload_n 1, 1) := by decide +kernel
theorem dX10_wins_10 : decode cX10_wins 10 = .ok (.invokevirtual 242, 3) := by decide +kernel
theorem dX10_wins_13 : decode cX10_wins 13 = .ok (.goto 4, 3) := by decide +kernel
theorem dX10_wins_16 : decode cX10_wins 16 = .ok (.iconst (-1), 1) := by decide +kernel
theorem dX10_wins_17 : decode cX10_wins 17 = .ok (.ireturn, 1) := by decide +kernel
theorem bX10_wins_0 {K : KT} {g : GT} {cm sm : Nat} {cs : Nat × Nat} {c0 : Nat} {x1 : Int} {r : Int} {σ' : St} (hC : Ctx K g RX10 cX10_wins 2 7 cm sm) (hcs : cs.1 ≤ cm ∧ cs.2 ≤ sm) (h0 : isO 10 c0 = true) (hR : RetI K g cX10_wins 2 cs r (SH0, σ')) : ∀ (σ : St), fX10_wins c0 x1 σ = some (r, σ') → G K g 2 cs 0 [(0, vr c0), (1, vi x1)] [] (SH0, σ) := by
  intro σ h
  unfold fX10_wins at h
  refine g_aload_n hC dX10_wins_0 0 rfl rfl ?_
  refine g_iload_n hC dX10_wins_1 1 rfl rfl ?_
  obtain ⟨⟨r1, s1⟩, e1, h⟩ := of_bind h
  try dsimp only at h
  refine s_callVi hC dX10_wins_2 (tX10_isThing h0 e1) miX10_isThing mvX10_isThing mlRX10_122 (isO_spec h0) vc_10 rfl rfl (Nat.le_of_ble_eq_true rfl) (Nat.le_of_ble_eq_true rfl) (Nat.le_of_ble_eq_true rfl) hcs ?_
  refine g_if_eq hC dX10_wins_5 (tgt := 16) (by decide) (fun h9 => ?_) (fun h9 => ?_)
  · rw [if_pos h9] at h
    refine g_iconst hC dX10_wins_16 ok_m1 ?_
    exact ret_i h hR dX10_wins_17
  · rw [if_neg h9] at h
    refine g_aload_n hC dX10_wins_8 0 rfl rfl ?_
    refine g_iload_n hC dX10_wins_9 1 rfl rfl ?_
    obtain ⟨⟨r2, s2⟩, e2, h⟩ := of_bind h
    try dsimp only at h
    refine s_callVi hC dX10_wins_10 (tX10_winner h0 e2) miX10_winner mvX10_winner mlRX10_242 (isO_spec h0) vc_10 rfl rfl (Nat.le_of_ble_eq_true rfl) (Nat.le_of_ble_eq_true rfl) (Nat.le_of_ble_eq_true rfl) hcs ?_
    refine g_goto hC dX10_wins_13 (tgt := 17) (by decide) ?_
    exact ret_i h hR dX10_wins_17
theorem tX10_wins {l : Launch} {g : GT} {c0 : Nat} {x1 : Int} {σ σ' : St} {r : Int} (h0 : isO 10 c0 = true) (h : fX10_wins c0 x1 σ = some (r, σ')) : Cn l g yX10_wins cX10_wins 2 (some .int) 7 0 0 [vr c0, vi x1] (SH0, σ) (some (vi r)) (SH0, σ') :=
  Cn.ofI (by decide) (Nat.le_of_ble_eq_true rfl) (fun K e hC hR => (bX10_wins_0 hC ⟨Nat.le_refl _, Nat.le_refl _⟩ h0 hR _ h))
theorem dX10_year_0 : decode cX10_year 0 = .ok (.aload_n 0, 1) := by decide +kernel
theorem dX10_year_1 : decode cX10_year 1 = .ok (.invokevirtual 290, 3) := by decide +kernel
theorem dX10_year_4 : decode cX10_year 4 = .ok (.aload_n 0, 1) := by decide +kernel
theorem dX10_year_5 : decode cX10_year 5 = .ok (.getfield 60, 3) := by decide +kernel
theorem dX10_year_8 : decode cX10_year 8 = .ok (.iconst 4, 1) := by decide +kernel
theorem dX10_year_9 : decode cX10_year 9 = .ok (.dup2, 1) := by decide +kernel
theorem dX10_year_10 : decode cX10_year 10 = .ok (.iaload, 1) := by decide +kernel
theorem dX10_year_11 : decode cX10_year 11 = .ok (.iconst 1, 1) := by decide +kernel
theorem dX10_year_12 : decode cX10_year 12 = .ok (.iadd, 1) := by decide +kernel
theorem dX10_year_13 : decode cX10_year 13 = .ok (.iastore, 1) := by decide +kernel
theorem dX10_year_14 : decode cX10_year 14 = .ok (.aload_n 0, 1) := by decide +kernel
theorem dX10_year_15 : decode cX10_year 15 = .ok (.invokevirtual 293, 3) := by decide +kernel
theorem dX10_year_18 : decode cX10_year 18 = .ok (.invokestatic 276, 3) := by decide +kernel
theorem dX10_year_21 : decode cX10_year 21 = .ok (.ireturn, 1) := by decide +kernel
theorem bX10_year_0 {K : KT} {g : GT} {cm sm : Nat} {cs : Nat × Nat} {c0 : Nat} {r : Int} {σ' : St} (hC : Ctx K g RX10 cX10_year 1 3 cm sm) (hcs : cs.1 ≤ cm ∧ cs.2 ≤ sm) (h0 : isO 10 c0 = true) (hR : RetI K g cX10_year 1 cs r (SH0, σ')) : ∀ (σ : St), fX10_year c0 σ = some (r, σ') → G K g 1 cs 0 [(0, vr c0)] [] (SH0, σ) := by
  intro σ h
  unfold fX10_year at h
  refine g_aload_n hC dX10_year_0 0 rfl rfl ?_
  obtain ⟨s1, e1, h⟩ := of_bind h
  try dsimp only at h
  refine s_callVv hC dX10_year_1 (tX10_passes h0 e1) miX10_passes mvX10_passes mlRX10_290 (isO_spec h0) vc_10 rfl rfl (Nat.le_of_ble_eq_true rfl) (Nat.le_of_ble_eq_true rfl) (Nat.le_of_ble_eq_true rfl) hcs ?_
  refine g_aload_n hC dX10_year_4 0 rfl rfl ?_
  refine g_getr hC dX10_year_5 lfRX10_60 (isO_spec h0) (ft_10_25 h0) ?_
  refine g_iconst hC dX10_year_8 ok_4 ?_
  refine g_dup2 hC dX10_year_9 rfl rfl ?_
  obtain ⟨b9, h⟩ := of_ite h
  refine g_iald hC dX10_year_10 (isA_spec (rf_10_25 h0)) b9 ?_
  refine g_iconst hC dX10_year_11 ok_1 ?_
  refine g_iadd hC dX10_year_12 ?_
  obtain ⟨b9, h⟩ := of_ite h
  refine g_iast hC dX10_year_13 (isA_spec (rf_10_25 h0)) b9 ?_
  refine g_aload_n hC dX10_year_14 0 rfl rfl ?_
  obtain ⟨⟨r2, s2⟩, e2, h⟩ := of_bind h
  try dsimp only at h
  refine s_callVi hC dX10_year_15 (tX10_missedNow h0 e2) miX10_missedNow mvX10_missedNow mlRX10_293 (isO_spec h0) vc_10 rfl rfl (Nat.le_of_ble_eq_true rfl) (Nat.le_of_ble_eq_true rfl) (Nat.le_of_ble_eq_true rfl) hcs ?_
  obtain ⟨⟨r3, s3⟩, e3, h⟩ := of_bind h
  try dsimp only at h
  refine s_callSi hC dX10_year_18 (tJ6_bitCount_0f7a4 e3) miJ6_bitCount_0f7a4 msJ6_bitCount_0f7a4 mlRX10_276 rfl rfl (Nat.le_of_ble_eq_true rfl) (Nat.le_of_ble_eq_true rfl) (Nat.le_of_ble_eq_true rfl) hcs ?_
  exact ret_i h hR dX10_year_21
theorem tX10_year {l : Launch} {g : GT} {c0 : Nat} {σ σ' : St} {r : Int} (h0 : isO 10 c0 = true) (h : fX10_year c0 σ = some (r, σ')) : Cn l g yX10_year cX10_year 1 (some .int) 3 0 0 [vr c0] (SH0, σ) (some (vi r)) (SH0, σ') :=
  Cn.ofI (by decide) (Nat.le_of_ble_eq_true rfl) (fun K e hC hR => (bX10_year_0 hC ⟨Nat.le_refl _, Nat.le_refl _⟩ h0 hR _ h))
theorem dX10_years_0 : decode cX10_years 0 = .ok (.iload_n 1, 1) := by decide +kernel
theorem dX10_years_1 : decode cX10_years 1 = .ok (.ifCond .lt 34, 3) := by decide +kernel
theorem dX10_years_4 : decode cX10_years 4 = .ok (.aload_n 0, 1) := by decide +kernel
theorem dX10_years_5 : decode cX10_years 5 = .ok (.iload_n 1, 1) := by decide +kernel
theorem dX10_years_6 : decode cX10_years 6 = .ok (.bipush 10, 2) := by decide +kernel
theorem dX10_years_8 : decode cX10_years 8 = .ok (.idiv, 1) := by decide +kernel
theorem dX10_years_9 : decode cX10_years 9 = .ok (.invokevirtual 125, 3) := by decide +kernel
theorem dX10_years_12 : decode cX10_years 12 = .ok (.ifCond .eq 23, 3) := by decide +kernel
theorem dX10_years_15 : decode cX10_years 15 = .ok (.aload_n 0, 1) := by decide +kernel
theorem dX10_years_16 : decode cX10_years 16 = .ok (.iload_n 1, 1) := by decide +kernel
theorem dX10_years_17 : decode cX10_years 17 = .ok (.bipush 10, 2) := by decide +kernel
theorem dX10_years_19 : decode cX10_years 19 = .ok (.irem, 1) := by decide +kernel
theorem dX10_years_20 : decode cX10_years 20 = .ok (.invokevirtual 122, 3) := by decide +kernel
theorem dX10_years_23 : decode cX10_years 23 = .ok (.ifCond .eq 12, 3) := by decide +kernel
theorem dX10_years_26 : decode cX10_years 26 = .ok (.iload_n 2, 1) := by decide +kernel
theorem dX10_years_27 : decode cX10_years 27 = .ok (.iconst 0, 1) := by decide +kernel
theorem dX10_years_28 : decode cX10_years 28 = .ok (.iconst 1, 1) := by decide +kernel
theorem dX10_years_29 : decode cX10_years 29 = .ok (.invokestatic 101, 3) := by decide +kernel
theorem dX10_years_32 : decode cX10_years 32 = .ok (.ifCond .ne 5, 3) := by decide +kernel
theorem dX10_years_35 : decode cX10_years 35 = .ok (.iconst (-1), 1) := by decide +kernel
theorem dX10_years_36 : decode cX10_years 36 = .ok (.ireturn, 1) := by decide +kernel
theorem dX10_years_37 : decode cX10_years 37 = .ok (.iload_n 2, 1) := by decide +kernel
theorem dX10_years_38 : decode cX10_years 38 = .ok (.ifCond .ne 18, 3) := by decide +kernel
theorem dX10_years_41 : decode cX10_years 41 = .ok (.aload_n 0, 1) := by decide +kernel
theorem dX10_years_42 : decode cX10_years 42 = .ok (.iload_n 1, 1) := by decide +kernel
theorem dX10_years_43 : decode cX10_years 43 = .ok (.bipush 10, 2) := by decide +kernel
theorem dX10_years_45 : decode cX10_years 45 = .ok (.idiv, 1) := by decide +kernel
theorem dX10_years_46 : decode cX10_years 46 = .ok (.iload_n 1, 1) := by decide +kernel
theorem dX10_years_47 : decode cX10_years 47 = .ok (.bipush 10, 2) := by decide +kernel
theorem dX10_years_49 : decode cX10_years 49 = .ok (.irem, 1) := by decide +kernel
theorem dX10_years_50 : decode cX10_years 50 = .ok (.invokevirtual 236, 3) := by decide +kernel
theorem dX10_years_53 : decode cX10_years 53 = .ok (.goto 15, 3) := by decide +kernel
theorem dX10_years_56 : decode cX10_years 56 = .ok (.aload_n 0, 1) := by decide +kernel
theorem dX10_years_57 : decode cX10_years 57 = .ok (.iload_n 1, 1) := by decide +kernel
theorem dX10_years_58 : decode cX10_years 58 = .ok (.bipush 10, 2) := by decide +kernel
theorem dX10_years_60 : decode cX10_years 60 = .ok (.idiv, 1) := by decide +kernel
theorem dX10_years_61 : decode cX10_years 61 = .ok (.iload_n 1, 1) := by decide +kernel
theorem dX10_years_62 : decode cX10_years 62 = .ok (.bipush 10, 2) := by decide +kernel
theorem dX10_years_64 : decode cX10_years 64 = .ok (.irem, 1) := by decide +kernel
theorem dX10_years_65 : decode cX10_years 65 = .ok (.invokevirtual 239, 3) := by decide +kernel
theorem dX10_years_68 : decode cX10_years 68 = .ok (.ireturn, 1) := by decide +kernel
theorem bX10_years_0 {K : KT} {g : GT} {cm sm : Nat} {cs : Nat × Nat} {c0 : Nat} {x1 : Int} {x2 : Int} {r : Int} {σ' : St} (hC : Ctx K g RX10 cX10_years 3 6 cm sm) (hcs : cs.1 ≤ cm ∧ cs.2 ≤ sm) (h0 : isO 10 c0 = true) (hR : RetI K g cX10_years 3 cs r (SH0, σ')) : ∀ (σ : St), fX10_years c0 x1 x2 σ = some (r, σ') → G K g 3 cs 0 [(0, vr c0), (1, vi x1), (2, vi x2)] [] (SH0, σ) := by
  intro σ h
  unfold fX10_years at h
  refine g_iload_n hC dX10_years_0 1 rfl rfl ?_
  refine g_if_lt hC dX10_years_1 (tgt := 35) (by decide) (fun h9 => ?_) (fun h9 => ?_)
  · rw [if_pos h9] at h
    refine g_iconst hC dX10_years_35 ok_m1 ?_
    exact ret_i h hR dX10_years_36
  · rw [if_neg h9] at h
    refine g_aload_n hC dX10_years_4 0 rfl rfl ?_
    refine g_iload_n hC dX10_years_5 1 rfl rfl ?_
    refine g_bipush hC dX10_years_6 bp_10 ?_
    refine g_idiv hC dX10_years_8 (by decide) ?_
    obtain ⟨⟨r1, s1⟩, e1, h⟩ := of_bind h
    try dsimp only at h
    refine s_callVi hC dX10_years_9 (tX10_isOne h0 e1) miX10_isOne mvX10_isOne mlRX10_125 (isO_spec h0) vc_10 rfl rfl (Nat.le_of_ble_eq_true rfl) (Nat.le_of_ble_eq_true rfl) (Nat.le_of_ble_eq_true rfl) hcs ?_
    refine g_if_eq hC dX10_years_12 (tgt := 35) (by decide) (fun h9 => ?_) (fun h9 => ?_)
    · rw [if_pos h9] at h
      refine g_iconst hC dX10_years_35 ok_m1 ?_
      exact ret_i h hR dX10_years_36
    · rw [if_neg h9] at h
      refine g_aload_n hC dX10_years_15 0 rfl rfl ?_
      refine g_iload_n hC dX10_years_16 1 rfl rfl ?_
      refine g_bipush hC dX10_years_17 bp_10 ?_
      refine g_irem hC dX10_years_19 (by decide) ?_
      obtain ⟨⟨r2, s2⟩, e2, h⟩ := of_bind h
      try dsimp only at h
      refine s_callVi hC dX10_years_20 (tX10_isThing h0 e2) miX10_isThing mvX10_isThing mlRX10_122 (isO_spec h0) vc_10 rfl rfl (Nat.le_of_ble_eq_true rfl) (Nat.le_of_ble_eq_true rfl) (Nat.le_of_ble_eq_true rfl) hcs ?_
      refine g_if_eq hC dX10_years_23 (tgt := 35) (by decide) (fun h9 => ?_) (fun h9 => ?_)
      · rw [if_pos h9] at h
        refine g_iconst hC dX10_years_35 ok_m1 ?_
        exact ret_i h hR dX10_years_36
      · rw [if_neg h9] at h
        refine g_iload_n hC dX10_years_26 2 rfl rfl ?_
        refine g_iconst hC dX10_years_27 ok_0 ?_
        refine g_iconst hC dX10_years_28 ok_1 ?_
        obtain ⟨⟨r3, s3⟩, e3, h⟩ := of_bind h
        try dsimp only at h
        refine s_callSi hC dX10_years_29 (tX10_within e3) miX10_within msX10_within mlRX10_101 rfl rfl (Nat.le_of_ble_eq_true rfl) (Nat.le_of_ble_eq_true rfl) (Nat.le_of_ble_eq_true rfl) hcs ?_
        refine g_if_ne hC dX10_years_32 (tgt := 37) (by decide) (fun h9 => ?_) (fun h9 => ?_)
        · rw [if_neg h9] at h
          refine g_iload_n hC dX10_years_37 2 rfl rfl ?_
          refine g_if_ne hC dX10_years_38 (tgt := 56) (by decide) (fun h9 => ?_) (fun h9 => ?_)
          · rw [if_neg h9] at h
            refine g_aload_n hC dX10_years_56 0 rfl rfl ?_
            refine g_iload_n hC dX10_years_57 1 rfl rfl ?_
            refine g_bipush hC dX10_years_58 bp_10 ?_
            refine g_idiv hC dX10_years_60 (by decide) ?_
            refine g_iload_n hC dX10_years_61 1 rfl rfl ?_
            refine g_bipush hC dX10_years_62 bp_10 ?_
            refine g_irem hC dX10_years_64 (by decide) ?_
            obtain ⟨⟨r4, s4⟩, e4, h⟩ := of_bind h
            try dsimp only at h
            refine s_callVi hC dX10_years_65 (tX10_bidOf h0 e4) miX10_bidOf mvX10_bidOf mlRX10_239 (isO_spec h0) vc_10 rfl rfl (Nat.le_of_ble_eq_true rfl) (Nat.le_of_ble_eq_true rfl) (Nat.le_of_ble_eq_true rfl) hcs ?_
            exact ret_i h hR dX10_years_68
          · rw [if_pos h9] at h
            refine g_aload_n hC dX10_years_41 0 rfl rfl ?_
            refine g_iload_n hC dX10_years_42 1 rfl rfl ?_
            refine g_bipush hC dX10_years_43 bp_10 ?_
            refine g_idiv hC dX10_years_45 (by decide) ?_
            refine g_iload_n hC dX10_years_46 1 rfl rfl ?_
            refine g_bipush hC dX10_years_47 bp_10 ?_
            refine g_irem hC dX10_years_49 (by decide) ?_
            obtain ⟨⟨r5, s5⟩, e5, h⟩ := of_bind h
            try dsimp only at h
            refine s_callVi hC dX10_years_50 (tX10_wouldMiss h0 e5) miX10_wouldMiss mvX10_wouldMiss mlRX10_236 (isO_spec h0) vc_10 rfl rfl (Nat.le_of_ble_eq_true rfl) (Nat.le_of_ble_eq_true rfl) (Nat.le_of_ble_eq_true rfl) hcs ?_
            refine g_goto hC dX10_years_53 (tgt := 68) (by decide) ?_
            exact ret_i h hR dX10_years_68
        · rw [if_pos h9] at h
          refine g_iconst hC dX10_years_35 ok_m1 ?_
          exact ret_i h hR dX10_years_36
theorem tX10_years {l : Launch} {g : GT} {c0 : Nat} {x1 : Int} {x2 : Int} {σ σ' : St} {r : Int} (h0 : isO 10 c0 = true) (h : fX10_years c0 x1 x2 σ = some (r, σ')) : Cn l g yX10_years cX10_years 3 (some .int) 6 0 0 [vr c0, vi x1, vi x2] (SH0, σ) (some (vi r)) (SH0, σ') :=
  Cn.ofI (by decide) (Nat.le_of_ble_eq_true rfl) (fun K e hC hR => (bX10_years_0 hC ⟨Nat.le_refl _, Nat.le_refl _⟩ h0 hR _ h))
theorem dX5_has_0 : decode cX5_has 0 = .ok (.iload_n 1, 1) := by decide +kernel
theorem dX5_has_1 : decode cX5_has 1 = .ok (.ifCond .lt 15, 3) := by decide +kernel
theorem dX5_has_4 : decode cX5_has 4 = .ok (.iload_n 1, 1) := by decide +kernel
theorem dX5_has_5 : decode cX5_has 5 = .ok (.aload_n 0, 1) := by decide +kernel
theorem dX5_has_6 : decode cX5_has 6 = .ok (.getfield 18, 3) := by decide +kernel
theorem dX5_has_9 : decode cX5_has 9 = .ok (.if_icmp .ge 7, 3) := by decide +kernel
theorem dX5_has_12 : decode cX5_has 12 = .ok (.iconst 1, 1) := by decide +kernel
theorem dX5_has_13 : decode cX5_has 13 = .ok (.goto 4, 3) := by decide +kernel
theorem dX5_has_16 : decode cX5_has 16 = .ok (.iconst 0, 1) := by decide +kernel
theorem dX5_has_17 : decode cX5_has 17 = .ok (.ireturn, 1) := by decide +kernel
theorem bX5_has_0 {K : KT} {g : GT} {cm sm : Nat} {cs : Nat × Nat} {c0 : Nat} {x1 : Int} {r : Int} {σ' : St} (hC : Ctx K g RX5 cX5_has 2 0 cm sm) (hcs : cs.1 ≤ cm ∧ cs.2 ≤ sm) (h0 : isO 5 c0 = true) (hR : RetZ K g cX5_has 2 cs r (SH0, σ')) : ∀ (σ : St), fX5_has c0 x1 σ = some (r, σ') → G K g 2 cs 0 [(0, vr c0), (1, vi x1)] [] (SH0, σ) := by
  intro σ h
  unfold fX5_has at h
  refine g_iload_n hC dX5_has_0 1 rfl rfl ?_
  refine g_if_lt hC dX5_has_1 (tgt := 16) (by decide) (fun h9 => ?_) (fun h9 => ?_)
  · rw [if_pos h9] at h
    refine g_iconst hC dX5_has_16 ok_0 ?_
    exact ret_z h hR (by decide) dX5_has_17
  · rw [if_neg h9] at h
    refine g_iload_n hC dX5_has_4 1 rfl rfl ?_
    refine g_aload_n hC dX5_has_5 0 rfl rfl ?_
    refine g_geti hC dX5_has_6 lfRX5_18 (isO_spec h0) (ft_5_2 h0) ?_
    refine g_icmp_ge hC dX5_has_9 (tgt := 16) (by decide) (fun h9 => ?_) (fun h9 => ?_)
    · rw [if_pos h9] at h
      refine g_iconst hC dX5_has_16 ok_0 ?_
      exact ret_z h hR (by decide) dX5_has_17
    · rw [if_neg h9] at h
      refine g_iconst hC dX5_has_12 ok_1 ?_
      refine g_goto hC dX5_has_13 (tgt := 17) (by decide) ?_
      exact ret_z h hR (by decide) dX5_has_17
theorem tX5_has {l : Launch} {g : GT} {c0 : Nat} {x1 : Int} {σ σ' : St} {r : Int} (h0 : isO 5 c0 = true) (h : fX5_has c0 x1 σ = some (r, σ')) : Cn l g yX5_has cX5_has 2 (some .boolean) 0 0 0 [vr c0, vi x1] (SH0, σ) (some (vi r)) (SH0, σ') :=
  Cn.ofZ (by decide) (Nat.le_of_ble_eq_true rfl) (fun K e hC hR => (bX5_has_0 hC ⟨Nat.le_refl _, Nat.le_refl _⟩ h0 hR _ h))
