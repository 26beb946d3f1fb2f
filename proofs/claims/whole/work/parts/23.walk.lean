/-! Walks (printed by my program). -/
theorem dX10_byTurns_0 : decode cX10_byTurns 0 = .ok (.iload_n 1, 1) := by decide +kernel
theorem dX10_byTurns_1 : decode cX10_byTurns 1 = .ok (.ifCond .lt 63, 3) := by decide +kernel
theorem dX10_byTurns_4 : decode cX10_byTurns 4 = .ok (.aload_n 0, 1) := by decide +kernel
theorem dX10_byTurns_5 : decode cX10_byTurns 5 = .ok (.iload_n 1, 1) := by decide +kernel
theorem dX10_byTurns_6 : decode cX10_byTurns 6 = .ok (.bipush 10, 2) := by decide +kernel
theorem dX10_byTurns_8 : decode cX10_byTurns 8 = .ok (.idiv, 1) := by decide +kernel
theorem dX10_byTurns_9 : decode cX10_byTurns 9 = .ok (.invokevirtual 125, 3) := by decide +kernel
theorem dX10_byTurns_12 : decode cX10_byTurns 12 = .ok (.ifCond .eq 52, 3) := by decide +kernel
theorem dX10_byTurns_15 : decode cX10_byTurns 15 = .ok (.aload_n 0, 1) := by decide +kernel
theorem dX10_byTurns_16 : decode cX10_byTurns 16 = .ok (.iload_n 1, 1) := by decide +kernel
theorem dX10_byTurns_17 : decode cX10_byTurns 17 = .ok (.bipush 10, 2) := by decide +kernel
theorem dX10_byTurns_19 : decode cX10_byTurns 19 = .ok (.irem, 1) := by decide +kernel
theorem dX10_byTurns_20 : decode cX10_byTurns 20 = .ok (.invokevirtual 125, 3) := by decide +kernel
theorem dX10_byTurns_23 : decode cX10_byTurns 23 = .ok (.ifCond .eq 41, 3) := by decide +kernel
theorem dX10_byTurns_26 : decode cX10_byTurns 26 = .ok (.iload_n 1, 1) := by decide +kernel
theorem dX10_byTurns_27 : decode cX10_byTurns 27 = .ok (.bipush 10, 2) := by decide +kernel
theorem dX10_byTurns_29 : decode cX10_byTurns 29 = .ok (.idiv, 1) := by decide +kernel
theorem dX10_byTurns_30 : decode cX10_byTurns 30 = .ok (.iload_n 1, 1) := by decide +kernel
theorem dX10_byTurns_31 : decode cX10_byTurns 31 = .ok (.bipush 10, 2) := by decide +kernel
theorem dX10_byTurns_33 : decode cX10_byTurns 33 = .ok (.irem, 1) := by decide +kernel
theorem dX10_byTurns_34 : decode cX10_byTurns 34 = .ok (.if_icmp .eq 30, 3) := by decide +kernel
theorem dX10_byTurns_37 : decode cX10_byTurns 37 = .ok (.aload_n 0, 1) := by decide +kernel
theorem dX10_byTurns_38 : decode cX10_byTurns 38 = .ok (.iload_n 2, 1) := by decide +kernel
theorem dX10_byTurns_39 : decode cX10_byTurns 39 = .ok (.invokevirtual 122, 3) := by decide +kernel
theorem dX10_byTurns_42 : decode cX10_byTurns 42 = .ok (.ifCond .eq 22, 3) := by decide +kernel
theorem dX10_byTurns_45 : decode cX10_byTurns 45 = .ok (.iload_n 3, 1) := by decide +kernel
theorem dX10_byTurns_46 : decode cX10_byTurns 46 = .ok (.iconst 1, 1) := by decide +kernel
theorem dX10_byTurns_47 : decode cX10_byTurns 47 = .ok (.iconst 5, 1) := by decide +kernel
theorem dX10_byTurns_48 : decode cX10_byTurns 48 = .ok (.invokestatic 101, 3) := by decide +kernel
theorem dX10_byTurns_51 : decode cX10_byTurns 51 = .ok (.ifCond .eq 13, 3) := by decide +kernel
theorem dX10_byTurns_54 : decode cX10_byTurns 54 = .ok (.iload 4, 2) := by decide +kernel
theorem dX10_byTurns_56 : decode cX10_byTurns 56 = .ok (.iconst 0, 1) := by decide +kernel
theorem dX10_byTurns_57 : decode cX10_byTurns 57 = .ok (.iconst 1, 1) := by decide +kernel
theorem dX10_byTurns_58 : decode cX10_byTurns 58 = .ok (.invokestatic 101, 3) := by decide +kernel
theorem dX10_byTurns_61 : decode cX10_byTurns 61 = .ok (.ifCond .ne 6, 3) := by decide +kernel
theorem dX10_byTurns_64 : decode cX10_byTurns 64 = .ok (.ldc 135, 2) := by decide +kernel
theorem dX10_byTurns_66 : decode cX10_byTurns 66 = .ok (.ireturn, 1) := by decide +kernel
theorem dX10_byTurns_67 : decode cX10_byTurns 67 = .ok (.aload_n 0, 1) := by decide +kernel
theorem dX10_byTurns_68 : decode cX10_byTurns 68 = .ok (.iconst 0, 1) := by decide +kernel
theorem dX10_byTurns_69 : decode cX10_byTurns 69 = .ok (.iload_n 3, 1) := by decide +kernel
theorem dX10_byTurns_70 : decode cX10_byTurns 70 = .ok (.iload_n 1, 1) := by decide +kernel
theorem dX10_byTurns_71 : decode cX10_byTurns 71 = .ok (.iload_n 2, 1) := by decide +kernel
theorem dX10_byTurns_72 : decode cX10_byTurns 72 = .ok (.iconst 2, 1) := by decide +kernel
theorem dX10_byTurns_73 : decode cX10_byTurns 73 = .ok (.invokevirtual 308, 3) := by decide +kernel
theorem dX10_byTurns_76 : decode cX10_byTurns 76 = .ok (.istore 5, 2) := by decide +kernel
theorem dX10_byTurns_78 : decode cX10_byTurns 78 = .ok (.iconst 2, 1) := by decide +kernel
theorem dX10_byTurns_79 : decode cX10_byTurns 79 = .ok (.istore 6, 2) := by decide +kernel
theorem dX10_byTurns_81 : decode cX10_byTurns 81 = .ok (.iconst 0, 1) := by decide +kernel
theorem dX10_byTurns_82 : decode cX10_byTurns 82 = .ok (.istore 7, 2) := by decide +kernel
theorem dX10_byTurns_84 : decode cX10_byTurns 84 = .ok (.iload 7, 2) := by decide +kernel
theorem dX10_byTurns_86 : decode cX10_byTurns 86 = .ok (.iconst 2, 1) := by decide +kernel
theorem dX10_byTurns_87 : decode cX10_byTurns 87 = .ok (.if_icmp .ge 39, 3) := by decide +kernel
theorem dX10_byTurns_90 : decode cX10_byTurns 90 = .ok (.aload_n 0, 1) := by decide +kernel
theorem dX10_byTurns_91 : decode cX10_byTurns 91 = .ok (.iconst 0, 1) := by decide +kernel
theorem dX10_byTurns_92 : decode cX10_byTurns 92 = .ok (.iload_n 3, 1) := by decide +kernel
theorem dX10_byTurns_93 : decode cX10_byTurns 93 = .ok (.iload_n 1, 1) := by decide +kernel
theorem dX10_byTurns_94 : decode cX10_byTurns 94 = .ok (.iload_n 2, 1) := by decide +kernel
theorem dX10_byTurns_95 : decode cX10_byTurns 95 = .ok (.iload 7, 2) := by decide +kernel
theorem dX10_byTurns_97 : decode cX10_byTurns 97 = .ok (.invokevirtual 308, 3) := by decide +kernel
theorem dX10_byTurns_100 : decode cX10_byTurns 100 = .ok (.istore 8, 2) := by decide +kernel
theorem dX10_byTurns_102 : decode cX10_byTurns 102 = .ok (.iload 8, 2) := by decide +kernel
theorem dX10_byTurns_104 : decode cX10_byTurns 104 = .ok (.iload 5, 2) := by decide +kernel
theorem dX10_byTurns_106 : decode cX10_byTurns 106 = .ok (.if_icmp .gt 6, 3) := by decide +kernel
theorem dX10_byTurns_109 : decode cX10_byTurns 109 = .ok (.goto 11, 3) := by decide +kernel
theorem dX10_byTurns_112 : decode cX10_byTurns 112 = .ok (.iload 8, 2) := by decide +kernel
theorem dX10_byTurns_114 : decode cX10_byTurns 114 = .ok (.istore 5, 2) := by decide +kernel
theorem dX10_byTurns_116 : decode cX10_byTurns 116 = .ok (.iload 7, 2) := by decide +kernel
theorem dX10_byTurns_118 : decode cX10_byTurns 118 = .ok (.istore 6, 2) := by decide +kernel
theorem dX10_byTurns_120 : decode cX10_byTurns 120 = .ok (.iinc 7 1, 3) := by decide +kernel
theorem dX10_byTurns_123 : decode cX10_byTurns 123 = .ok (.goto (-39), 3) := by decide +kernel
theorem dX10_byTurns_126 : decode cX10_byTurns 126 = .ok (.iload 4, 2) := by decide +kernel
theorem dX10_byTurns_128 : decode cX10_byTurns 128 = .ok (.ifCond .ne 8, 3) := by decide +kernel
theorem dX10_byTurns_131 : decode cX10_byTurns 131 = .ok (.iload 5, 2) := by decide +kernel
theorem dX10_byTurns_133 : decode cX10_byTurns 133 = .ok (.goto 5, 3) := by decide +kernel
theorem dX10_byTurns_136 : decode cX10_byTurns 136 = .ok (.iload 6, 2) := by decide +kernel
theorem dX10_byTurns_138 : decode cX10_byTurns 138 = .ok (.ireturn, 1) := by decide +kernel
theorem bX10_byTurns_120 {K : KT} {g : GT} {cm sm : Nat} {cs : Nat × Nat} {c0 : Nat} {x1 : Int} {x2 : Int} {x3 : Int} {x4 : Int} {k84 : Int → Int → Int → St → Option (Int × St)} {r : Int} {σ' : St} (hC : Ctx K g RX10 cX10_byTurns 9 208 cm sm) (hcs : cs.1 ≤ cm ∧ cs.2 ≤ sm) (h0 : isO 10 c0 = true) (hk84 : ∀ (x5 : Int) (x6 : Int) (x7 : Int) (σ : St), k84 x5 x6 x7 σ = some (r, σ') → G K g 9 cs 84 [(0, vr c0), (1, vi x1), (2, vi x2), (3, vi x3), (4, vi x4), (5, vi x5), (6, vi x6), (7, vi x7)] [] (SH0, σ)) (hR : RetI K g cX10_byTurns 9 cs r (SH0, σ')) : ∀ (x5 : Int) (x6 : Int) (x7 : Int) (σ : St), fX10_byTurns_120 c0 x1 x2 x3 x4 k84 x5 x6 x7 σ = some (r, σ') → G K g 9 cs 120 [(0, vr c0), (1, vi x1), (2, vi x2), (3, vi x3), (4, vi x4), (5, vi x5), (6, vi x6), (7, vi x7)] [] (SH0, σ) := by
  intro x5 x6 x7 σ h
  unfold fX10_byTurns_120 at h
  refine g_iinc hC dX10_byTurns_120 7 rfl (Nat.le_of_ble_eq_true rfl) rfl ?_
  refine g_goto hC dX10_byTurns_123 (tgt := 84) (by decide) ?_
  exact g_pick [1, 2, 3, 4, 5, 6, 7, 0] rfl (hk84 _ _ _ _ h)
theorem bX10_byTurns_84 {K : KT} {g : GT} {cm sm : Nat} {cs : Nat × Nat} {c0 : Nat} {x1 : Int} {x2 : Int} {x3 : Int} {x4 : Int} {r : Int} {σ' : St} (hC : Ctx K g RX10 cX10_byTurns 9 208 cm sm) (hcs : cs.1 ≤ cm ∧ cs.2 ≤ sm) (h0 : isO 10 c0 = true) (hR : RetI K g cX10_byTurns 9 cs r (SH0, σ')) : ∀ (n : Nat) (x5 : Int) (x6 : Int) (x7 : Int) (σ : St), fX10_byTurns_84 c0 x1 x2 x3 x4 n x5 x6 x7 σ = some (r, σ') → G K g 9 cs 84 [(0, vr c0), (1, vi x1), (2, vi x2), (3, vi x3), (4, vi x4), (5, vi x5), (6, vi x6), (7, vi x7)] [] (SH0, σ) := by
  intro n
  induction n with
  | zero =>
    intro x5 x6 x7 σ h
    rw [fX10_byTurns_84.eq_1] at h
    cases h
  | succ n ih =>
    intro x5 x6 x7 σ h
    rw [fX10_byTurns_84.eq_2] at h
    refine g_iload hC dX10_byTurns_84 7 rfl ?_
    refine g_iconst hC dX10_byTurns_86 ok_2 ?_
    refine g_icmp_ge hC dX10_byTurns_87 (tgt := 126) (by decide) (fun h9 => ?_) (fun h9 => ?_)
    · rw [if_pos h9] at h
      refine g_iload hC dX10_byTurns_126 4 rfl ?_
      refine g_if_ne hC dX10_byTurns_128 (tgt := 136) (by decide) (fun h9 => ?_) (fun h9 => ?_)
      · rw [if_neg h9] at h
        refine g_iload hC dX10_byTurns_136 6 rfl ?_
        exact ret_i h hR dX10_byTurns_138
      · rw [if_pos h9] at h
        refine g_iload hC dX10_byTurns_131 5 rfl ?_
        refine g_goto hC dX10_byTurns_133 (tgt := 138) (by decide) ?_
        exact ret_i h hR dX10_byTurns_138
    · rw [if_neg h9] at h
      refine g_aload_n hC dX10_byTurns_90 0 rfl rfl ?_
      refine g_iconst hC dX10_byTurns_91 ok_0 ?_
      refine g_iload_n hC dX10_byTurns_92 3 rfl rfl ?_
      refine g_iload_n hC dX10_byTurns_93 1 rfl rfl ?_
      refine g_iload_n hC dX10_byTurns_94 2 rfl rfl ?_
      refine g_iload hC dX10_byTurns_95 7 rfl ?_
      obtain ⟨⟨r1, s1⟩, e1, h⟩ := of_bind h
      try dsimp only at h
      refine s_callVi hC dX10_byTurns_97 (tX10_turnBy h0 e1) miX10_turnBy mvX10_turnBy mlRX10_308 (isO_spec h0) vc_10 rfl rfl (Nat.le_of_ble_eq_true rfl) (Nat.le_of_ble_eq_true rfl) (Nat.le_of_ble_eq_true rfl) hcs ?_
      refine g_istore hC dX10_byTurns_100 (Nat.le_of_ble_eq_true rfl) rfl ?_
      refine g_iload hC dX10_byTurns_102 0 rfl ?_
      refine g_iload hC dX10_byTurns_104 6 rfl ?_
      refine g_icmp_gt hC dX10_byTurns_106 (tgt := 112) (by decide) (fun h9 => ?_) (fun h9 => ?_)
      · rw [if_pos h9] at h
        refine g_iload hC dX10_byTurns_112 0 rfl ?_
        refine g_istore hC dX10_byTurns_114 (Nat.le_of_ble_eq_true rfl) rfl ?_
        refine g_iload hC dX10_byTurns_116 8 rfl ?_
        refine g_istore hC dX10_byTurns_118 (Nat.le_of_ble_eq_true rfl) rfl ?_
        exact g_pick [3, 4, 5, 6, 7, 1, 0, 8] rfl (bX10_byTurns_120 hC hcs h0 ih hR _ _ _ _ h)
      · rw [if_neg h9] at h
        refine g_goto hC dX10_byTurns_109 (tgt := 120) (by decide) ?_
        exact g_pick [1, 2, 3, 4, 5, 6, 7, 8] rfl (bX10_byTurns_120 hC hcs h0 ih hR _ _ _ _ h)
theorem bX10_byTurns_0 {K : KT} {g : GT} {cm sm : Nat} {cs : Nat × Nat} {c0 : Nat} {x1 : Int} {x2 : Int} {x3 : Int} {x4 : Int} {r : Int} {σ' : St} (hC : Ctx K g RX10 cX10_byTurns 9 208 cm sm) (hcs : cs.1 ≤ cm ∧ cs.2 ≤ sm) (h0 : isO 10 c0 = true) (hR : RetI K g cX10_byTurns 9 cs r (SH0, σ')) : ∀ (σ : St), fX10_byTurns c0 x1 x2 x3 x4 σ = some (r, σ') → G K g 9 cs 0 [(0, vr c0), (1, vi x1), (2, vi x2), (3, vi x3), (4, vi x4)] [] (SH0, σ) := by
  intro σ h
  unfold fX10_byTurns at h
  refine g_iload_n hC dX10_byTurns_0 1 rfl rfl ?_
  refine g_if_lt hC dX10_byTurns_1 (tgt := 64) (by decide) (fun h9 => ?_) (fun h9 => ?_)
  · rw [if_pos h9] at h
    refine g_ldc hC dX10_byTurns_64 kRX10_135 ?_
    exact ret_i h hR dX10_byTurns_66
  · rw [if_neg h9] at h
    refine g_aload_n hC dX10_byTurns_4 0 rfl rfl ?_
    refine g_iload_n hC dX10_byTurns_5 1 rfl rfl ?_
    refine g_bipush hC dX10_byTurns_6 bp_10 ?_
    refine g_idiv hC dX10_byTurns_8 (by decide) ?_
    obtain ⟨⟨r1, s1⟩, e1, h⟩ := of_bind h
    try dsimp only at h
    refine s_callVi hC dX10_byTurns_9 (tX10_isOne h0 e1) miX10_isOne mvX10_isOne mlRX10_125 (isO_spec h0) vc_10 rfl rfl (Nat.le_of_ble_eq_true rfl) (Nat.le_of_ble_eq_true rfl) (Nat.le_of_ble_eq_true rfl) hcs ?_
    refine g_if_eq hC dX10_byTurns_12 (tgt := 64) (by decide) (fun h9 => ?_) (fun h9 => ?_)
    · rw [if_pos h9] at h
      refine g_ldc hC dX10_byTurns_64 kRX10_135 ?_
      exact ret_i h hR dX10_byTurns_66
    · rw [if_neg h9] at h
      refine g_aload_n hC dX10_byTurns_15 0 rfl rfl ?_
      refine g_iload_n hC dX10_byTurns_16 1 rfl rfl ?_
      refine g_bipush hC dX10_byTurns_17 bp_10 ?_
      refine g_irem hC dX10_byTurns_19 (by decide) ?_
      obtain ⟨⟨r2, s2⟩, e2, h⟩ := of_bind h
      try dsimp only at h
      refine s_callVi hC dX10_byTurns_20 (tX10_isOne h0 e2) miX10_isOne mvX10_isOne mlRX10_125 (isO_spec h0) vc_10 rfl rfl (Nat.le_of_ble_eq_true rfl) (Nat.le_of_ble_eq_true rfl) (Nat.le_of_ble_eq_true rfl) hcs ?_
      refine g_if_eq hC dX10_byTurns_23 (tgt := 64) (by decide) (fun h9 => ?_) (fun h9 => ?_)
      · rw [if_pos h9] at h
        refine g_ldc hC dX10_byTurns_64 kRX10_135 ?_
        exact ret_i h hR dX10_byTurns_66
      · rw [if_neg h9] at h
        refine g_iload_n hC dX10_byTurns_26 1 rfl rfl ?_
        refine g_bipush hC dX10_byTurns_27 bp_10 ?_
        refine g_idiv hC dX10_byTurns_29 (by decide) ?_
        refine g_iload_n hC dX10_byTurns_30 1 rfl rfl ?_
        refine g_bipush hC dX10_byTurns_31 bp_10 ?_
        refine g_irem hC dX10_byTurns_33 (by decide) ?_
        refine g_icmp_eq hC dX10_byTurns_34 (tgt := 64) (by decide) (fun h9 => ?_) (fun h9 => ?_)
        · rw [if_pos h9] at h
          refine g_ldc hC dX10_byTurns_64 kRX10_135 ?_
          exact ret_i h hR dX10_byTurns_66
        · rw [if_neg h9] at h
          refine g_aload_n hC dX10_byTurns_37 0 rfl rfl ?_
          refine g_iload_n hC dX10_byTurns_38 2 rfl rfl ?_
          obtain ⟨⟨r3, s3⟩, e3, h⟩ := of_bind h
          try dsimp only at h
          refine s_callVi hC dX10_byTurns_39 (tX10_isThing h0 e3) miX10_isThing mvX10_isThing mlRX10_122 (isO_spec h0) vc_10 rfl rfl (Nat.le_of_ble_eq_true rfl) (Nat.le_of_ble_eq_true rfl) (Nat.le_of_ble_eq_true rfl) hcs ?_
          refine g_if_eq hC dX10_byTurns_42 (tgt := 64) (by decide) (fun h9 => ?_) (fun h9 => ?_)
          · rw [if_pos h9] at h
            refine g_ldc hC dX10_byTurns_64 kRX10_135 ?_
            exact ret_i h hR dX10_byTurns_66
          · rw [if_neg h9] at h
            refine g_iload_n hC dX10_byTurns_45 3 rfl rfl ?_
            refine g_iconst hC dX10_byTurns_46 ok_1 ?_
            refine g_iconst hC dX10_byTurns_47 ok_5 ?_
            obtain ⟨⟨r4, s4⟩, e4, h⟩ := of_bind h
            try dsimp only at h
            refine s_callSi hC dX10_byTurns_48 (tX10_within e4) miX10_within msX10_within mlRX10_101 rfl rfl (Nat.le_of_ble_eq_true rfl) (Nat.le_of_ble_eq_true rfl) (Nat.le_of_ble_eq_true rfl) hcs ?_
            refine g_if_eq hC dX10_byTurns_51 (tgt := 64) (by decide) (fun h9 => ?_) (fun h9 => ?_)
            · rw [if_pos h9] at h
              refine g_ldc hC dX10_byTurns_64 kRX10_135 ?_
              exact ret_i h hR dX10_byTurns_66
            · rw [if_neg h9] at h
              refine g_iload hC dX10_byTurns_54 4 rfl ?_
              refine g_iconst hC dX10_byTurns_56 ok_0 ?_
              refine g_iconst hC dX10_byTurns_57 ok_1 ?_
              obtain ⟨⟨r5, s5⟩, e5, h⟩ := of_bind h
              try dsimp only at h
              refine s_callSi hC dX10_byTurns_58 (tX10_within e5) miX10_within msX10_within mlRX10_101 rfl rfl (Nat.le_of_ble_eq_true rfl) (Nat.le_of_ble_eq_true rfl) (Nat.le_of_ble_eq_true rfl) hcs ?_
              refine g_if_ne hC dX10_byTurns_61 (tgt := 67) (by decide) (fun h9 => ?_) (fun h9 => ?_)
              · rw [if_neg h9] at h
                refine g_aload_n hC dX10_byTurns_67 0 rfl rfl ?_
                refine g_iconst hC dX10_byTurns_68 ok_0 ?_
                refine g_iload_n hC dX10_byTurns_69 3 rfl rfl ?_
                refine g_iload_n hC dX10_byTurns_70 1 rfl rfl ?_
                refine g_iload_n hC dX10_byTurns_71 2 rfl rfl ?_
                refine g_iconst hC dX10_byTurns_72 ok_2 ?_
                obtain ⟨⟨r6, s6⟩, e6, h⟩ := of_bind h
                try dsimp only at h
                refine s_callVi hC dX10_byTurns_73 (tX10_turnBy h0 e6) miX10_turnBy mvX10_turnBy mlRX10_308 (isO_spec h0) vc_10 rfl rfl (Nat.le_of_ble_eq_true rfl) (Nat.le_of_ble_eq_true rfl) (Nat.le_of_ble_eq_true rfl) hcs ?_
                refine g_istore hC dX10_byTurns_76 (Nat.le_of_ble_eq_true rfl) rfl ?_
                refine g_iconst hC dX10_byTurns_78 ok_2 ?_
                refine g_istore hC dX10_byTurns_79 (Nat.le_of_ble_eq_true rfl) rfl ?_
                refine g_iconst hC dX10_byTurns_81 ok_0 ?_
                refine g_istore hC dX10_byTurns_82 (Nat.le_of_ble_eq_true rfl) rfl ?_
                exact g_pick [3, 4, 5, 6, 7, 2, 1, 0] rfl (bX10_byTurns_84 hC hcs h0 hR _ _ _ _ _ h)
              · rw [if_pos h9] at h
                refine g_ldc hC dX10_byTurns_64 kRX10_135 ?_
                exact ret_i h hR dX10_byTurns_66
theorem tX10_byTurns {l : Launch} {g : GT} {c0 : Nat} {x1 : Int} {x2 : Int} {x3 : Int} {x4 : Int} {σ σ' : St} {r : Int} (h0 : isO 10 c0 = true) (h : fX10_byTurns c0 x1 x2 x3 x4 σ = some (r, σ')) : Cn l g yX10_byTurns cX10_byTurns 9 (some .int) 208 0 0 [vr c0, vi x1, vi x2, vi x3, vi x4] (SH0, σ) (some (vi r)) (SH0, σ') :=
  Cn.ofI (by decide) (Nat.le_of_ble_eq_true rfl) (fun K e hC hR => (bX10_byTurns_0 hC ⟨Nat.le_refl _, Nat.le_refl _⟩ h0 hR _ h))
theorem dX10_count_0 : decode cX10_count 0 = .ok (.iload_n 1, 1) := by decide +kernel
theorem dX10_count_1 : decode cX10_count 1 = .ok (.tableswitch 69 0 5 #[39, 44, 49, 54, 59, 64], 39) := by decide +kernel
theorem dX10_count_40 : decode cX10_count 40 = .ok (.aload_n 0, 1) := by decide +kernel
theorem dX10_count_41 : decode cX10_count 41 = .ok (.getfield 97, 3) := by decide +kernel
theorem dX10_count_44 : decode cX10_count 44 = .ok (.ireturn, 1) := by decide +kernel
theorem dX10_count_45 : decode cX10_count 45 = .ok (.aload_n 0, 1) := by decide +kernel
theorem dX10_count_46 : decode cX10_count 46 = .ok (.getfield 105, 3) := by decide +kernel
theorem dX10_count_49 : decode cX10_count 49 = .ok (.ireturn, 1) := by decide +kernel
theorem dX10_count_50 : decode cX10_count 50 = .ok (.aload_n 0, 1) := by decide +kernel
theorem dX10_count_51 : decode cX10_count 51 = .ok (.getfield 149, 3) := by decide +kernel
theorem dX10_count_54 : decode cX10_count 54 = .ok (.ireturn, 1) := by decide +kernel
theorem dX10_count_55 : decode cX10_count 55 = .ok (.aload_n 0, 1) := by decide +kernel
theorem dX10_count_56 : decode cX10_count 56 = .ok (.getfield 143, 3) := by decide +kernel
theorem dX10_count_59 : decode cX10_count 59 = .ok (.ireturn, 1) := by decide +kernel
theorem dX10_count_60 : decode cX10_count 60 = .ok (.aload_n 0, 1) := by decide +kernel
theorem dX10_count_61 : decode cX10_count 61 = .ok (.getfield 348, 3) := by decide +kernel
theorem dX10_count_64 : decode cX10_count 64 = .ok (.ireturn, 1) := by decide +kernel
theorem dX10_count_65 : decode cX10_count 65 = .ok (.aload_n 0, 1) := by decide +kernel
theorem dX10_count_66 : decode cX10_count 66 = .ok (.getfield 326, 3) := by decide +kernel
theorem dX10_count_69 : decode cX10_count 69 = .ok (.ireturn, 1) := by decide +kernel
theorem dX10_count_70 : decode cX10_count 70 = .ok (.iconst (-1), 1) := by decide +kernel
theorem dX10_count_71 : decode cX10_count 71 = .ok (.ireturn, 1) := by decide +kernel
theorem bX10_count_0 {K : KT} {g : GT} {cm sm : Nat} {cs : Nat × Nat} {c0 : Nat} {x1 : Int} {r : Int} {σ' : St} (hC : Ctx K g RX10 cX10_count 2 0 cm sm) (hcs : cs.1 ≤ cm ∧ cs.2 ≤ sm) (h0 : isO 10 c0 = true) (hR : RetI K g cX10_count 2 cs r (SH0, σ')) : ∀ (σ : St), fX10_count c0 x1 σ = some (r, σ') → G K g 2 cs 0 [(0, vr c0), (1, vi x1)] [] (SH0, σ) := by
  intro σ h
  unfold fX10_count at h
  refine g_iload_n hC dX10_count_0 1 rfl rfl ?_
  by_cases h9 : x1 = 0
  · rw [if_pos h9] at h
    refine g_table hC dX10_count_1 40 (Or.inr (by (try dsimp only); rw [h9]; exact ⟨by decide, by decide, 39, rfl, by decide⟩)) ?_
    refine g_aload_n hC dX10_count_40 0 rfl rfl ?_
    refine g_geti hC dX10_count_41 lfRX10_97 (isO_spec h0) (ft_10_0 h0) ?_
    exact ret_i h hR dX10_count_44
  rw [if_neg h9] at h
  have n1 := h9
  clear h9
  by_cases h9 : x1 = 1
  · rw [if_pos h9] at h
    refine g_table hC dX10_count_1 45 (Or.inr (by (try dsimp only); rw [h9]; exact ⟨by decide, by decide, 44, rfl, by decide⟩)) ?_
    refine g_aload_n hC dX10_count_45 0 rfl rfl ?_
    refine g_geti hC dX10_count_46 lfRX10_105 (isO_spec h0) (ft_10_5 h0) ?_
    exact ret_i h hR dX10_count_49
  rw [if_neg h9] at h
  have n2 := h9
  clear h9
  by_cases h9 : x1 = 2
  · rw [if_pos h9] at h
    refine g_table hC dX10_count_1 50 (Or.inr (by (try dsimp only); rw [h9]; exact ⟨by decide, by decide, 49, rfl, by decide⟩)) ?_
    refine g_aload_n hC dX10_count_50 0 rfl rfl ?_
    refine g_geti hC dX10_count_51 lfRX10_149 (isO_spec h0) (ft_10_7 h0) ?_
    exact ret_i h hR dX10_count_54
  rw [if_neg h9] at h
  have n3 := h9
  clear h9
  by_cases h9 : x1 = 3
  · rw [if_pos h9] at h
    refine g_table hC dX10_count_1 55 (Or.inr (by (try dsimp only); rw [h9]; exact ⟨by decide, by decide, 54, rfl, by decide⟩)) ?_
    refine g_aload_n hC dX10_count_55 0 rfl rfl ?_
    refine g_geti hC dX10_count_56 lfRX10_143 (isO_spec h0) (ft_10_32 h0) ?_
    exact ret_i h hR dX10_count_59
  rw [if_neg h9] at h
  have n4 := h9
  clear h9
  by_cases h9 : x1 = 4
  · rw [if_pos h9] at h
    refine g_table hC dX10_count_1 60 (Or.inr (by (try dsimp only); rw [h9]; exact ⟨by decide, by decide, 59, rfl, by decide⟩)) ?_
    refine g_aload_n hC dX10_count_60 0 rfl rfl ?_
    refine g_geti hC dX10_count_61 lfRX10_348 (isO_spec h0) (ft_10_34 h0) ?_
    exact ret_i h hR dX10_count_64
  rw [if_neg h9] at h
  have n5 := h9
  clear h9
  by_cases h9 : x1 = 5
  · rw [if_pos h9] at h
    refine g_table hC dX10_count_1 65 (Or.inr (by (try dsimp only); rw [h9]; exact ⟨by decide, by decide, 64, rfl, by decide⟩)) ?_
    refine g_aload_n hC dX10_count_65 0 rfl rfl ?_
    refine g_geti hC dX10_count_66 lfRX10_326 (isO_spec h0) (ft_10_36 h0) ?_
    exact ret_i h hR dX10_count_69
  rw [if_neg h9] at h
  have n6 := h9
  clear h9
  refine g_table hC dX10_count_1 70 (by
    exact Or.inl ⟨by (try dsimp only); omega, by decide⟩) ?_
  refine g_iconst hC dX10_count_70 ok_m1 ?_
  exact ret_i h hR dX10_count_71
theorem tX10_count {l : Launch} {g : GT} {c0 : Nat} {x1 : Int} {σ σ' : St} {r : Int} (h0 : isO 10 c0 = true) (h : fX10_count c0 x1 σ = some (r, σ')) : Cn l g yX10_count cX10_count 2 (some .int) 0 0 0 [vr c0, vi x1] (SH0, σ) (some (vi r)) (SH0, σ') :=
  Cn.ofI (by decide) (Nat.le_of_ble_eq_true rfl) (fun K e hC hR => (bX10_count_0 hC ⟨Nat.le_refl _, Nat.le_refl _⟩ h0 hR _ h))
theorem dX10_deals_0 : decode cX10_deals 0 = .ok (.iload_n 1, 1) := by decide +kernel
theorem dX10_deals_1 : decode cX10_deals 1 = .ok (.aload_n 0, 1) := by decide +kernel
theorem dX10_deals_2 : decode cX10_deals 2 = .ok (.getfield 105, 3) := by decide +kernel
theorem dX10_deals_5 : decode cX10_deals 5 = .ok (.if_icmp .ne 48, 3) := by decide +kernel
theorem dX10_deals_8 : decode cX10_deals 8 = .ok (.iload_n 3, 1) := by decide +kernel
theorem dX10_deals_9 : decode cX10_deals 9 = .ok (.aload_n 0, 1) := by decide +kernel
theorem dX10_deals_10 : decode cX10_deals 10 = .ok (.getfield 267, 3) := by decide +kernel
theorem dX10_deals_13 : decode cX10_deals 13 = .ok (.if_icmp .gt 4, 3) := by decide +kernel
theorem dX10_deals_16 : decode cX10_deals 16 = .ok (.return_, 1) := by decide +kernel
theorem dX10_deals_17 : decode cX10_deals 17 = .ok (.aload_n 0, 1) := by decide +kernel
theorem dX10_deals_18 : decode cX10_deals 18 = .ok (.iload_n 3, 1) := by decide +kernel
theorem dX10_deals_19 : decode cX10_deals 19 = .ok (.putfield 267, 3) := by decide +kernel
theorem dX10_deals_22 : decode cX10_deals 22 = .ok (.iconst 0, 1) := by decide +kernel
theorem dX10_deals_23 : decode cX10_deals 23 = .ok (.istore 4, 2) := by decide +kernel
theorem dX10_deals_25 : decode cX10_deals 25 = .ok (.iload 4, 2) := by decide +kernel
theorem dX10_deals_27 : decode cX10_deals 27 = .ok (.bipush 7, 2) := by decide +kernel
theorem dX10_deals_29 : decode cX10_deals 29 = .ok (.if_icmp .ge 23, 3) := by decide +kernel
theorem dX10_deals_32 : decode cX10_deals 32 = .ok (.aload_n 0, 1) := by decide +kernel
theorem dX10_deals_33 : decode cX10_deals 33 = .ok (.getfield 94, 3) := by decide +kernel
theorem dX10_deals_36 : decode cX10_deals 36 = .ok (.iload 4, 2) := by decide +kernel
theorem dX10_deals_38 : decode cX10_deals 38 = .ok (.aload_n 0, 1) := by decide +kernel
theorem dX10_deals_39 : decode cX10_deals 39 = .ok (.getfield 91, 3) := by decide +kernel
theorem dX10_deals_42 : decode cX10_deals 42 = .ok (.iload 4, 2) := by decide +kernel
theorem dX10_deals_44 : decode cX10_deals 44 = .ok (.iaload, 1) := by decide +kernel
theorem dX10_deals_45 : decode cX10_deals 45 = .ok (.iastore, 1) := by decide +kernel
theorem dX10_deals_46 : decode cX10_deals 46 = .ok (.iinc 4 1, 3) := by decide +kernel
theorem dX10_deals_49 : decode cX10_deals 49 = .ok (.goto (-24), 3) := by decide +kernel
theorem dX10_deals_52 : decode cX10_deals 52 = .ok (.return_, 1) := by decide +kernel
theorem dX10_deals_53 : decode cX10_deals 53 = .ok (.iconst 0, 1) := by decide +kernel
theorem dX10_deals_54 : decode cX10_deals 54 = .ok (.istore 4, 2) := by decide +kernel
theorem dX10_deals_56 : decode cX10_deals 56 = .ok (.iload 4, 2) := by decide +kernel
theorem dX10_deals_58 : decode cX10_deals 58 = .ok (.aload_n 0, 1) := by decide +kernel
theorem dX10_deals_59 : decode cX10_deals 59 = .ok (.getfield 97, 3) := by decide +kernel
theorem dX10_deals_62 : decode cX10_deals 62 = .ok (.if_icmp .ge 53, 3) := by decide +kernel
theorem dX10_deals_65 : decode cX10_deals 65 = .ok (.iload_n 2, 1) := by decide +kernel
theorem dX10_deals_66 : decode cX10_deals 66 = .ok (.iload 4, 2) := by decide +kernel
theorem dX10_deals_68 : decode cX10_deals 68 = .ok (.ishr, 1) := by decide +kernel
theorem dX10_deals_69 : decode cX10_deals 69 = .ok (.iconst 1, 1) := by decide +kernel
theorem dX10_deals_70 : decode cX10_deals 70 = .ok (.iand, 1) := by decide +kernel
theorem dX10_deals_71 : decode cX10_deals 71 = .ok (.ifCond .ne 6, 3) := by decide +kernel
theorem dX10_deals_74 : decode cX10_deals 74 = .ok (.goto 35, 3) := by decide +kernel
theorem dX10_deals_77 : decode cX10_deals 77 = .ok (.aload_n 0, 1) := by decide +kernel
theorem dX10_deals_78 : decode cX10_deals 78 = .ok (.getfield 91, 3) := by decide +kernel
theorem dX10_deals_81 : decode cX10_deals 81 = .ok (.iload_n 1, 1) := by decide +kernel
theorem dX10_deals_82 : decode cX10_deals 82 = .ok (.iload 4, 2) := by decide +kernel
theorem dX10_deals_84 : decode cX10_deals 84 = .ok (.iastore, 1) := by decide +kernel
theorem dX10_deals_85 : decode cX10_deals 85 = .ok (.aload_n 0, 1) := by decide +kernel
theorem dX10_deals_86 : decode cX10_deals 86 = .ok (.iload_n 1, 1) := by decide +kernel
theorem dX10_deals_87 : decode cX10_deals 87 = .ok (.iconst 1, 1) := by decide +kernel
theorem dX10_deals_88 : decode cX10_deals 88 = .ok (.iadd, 1) := by decide +kernel
theorem dX10_deals_89 : decode cX10_deals 89 = .ok (.iload_n 2, 1) := by decide +kernel
theorem dX10_deals_90 : decode cX10_deals 90 = .ok (.iconst 1, 1) := by decide +kernel
theorem dX10_deals_91 : decode cX10_deals 91 = .ok (.iload 4, 2) := by decide +kernel
theorem dX10_deals_93 : decode cX10_deals 93 = .ok (.ishl, 1) := by decide +kernel
theorem dX10_deals_94 : decode cX10_deals 94 = .ok (.iconst (-1), 1) := by decide +kernel
theorem dX10_deals_95 : decode cX10_deals 95 = .ok (.ixor, 1) := by decide +kernel
theorem dX10_deals_96 : decode cX10_deals 96 = .ok (.iand, 1) := by decide +kernel
theorem dX10_deals_97 : decode cX10_deals 97 = .ok (.iload_n 3, 1) := by decide +kernel
theorem dX10_deals_98 : decode cX10_deals 98 = .ok (.aload_n 0, 1) := by decide +kernel
theorem dX10_deals_99 : decode cX10_deals 99 = .ok (.iload_n 1, 1) := by decide +kernel
theorem dX10_deals_100 : decode cX10_deals 100 = .ok (.iload 4, 2) := by decide +kernel
theorem dX10_deals_102 : decode cX10_deals 102 = .ok (.invokevirtual 236, 3) := by decide +kernel
theorem dX10_deals_105 : decode cX10_deals 105 = .ok (.iadd, 1) := by decide +kernel
theorem dX10_deals_106 : decode cX10_deals 106 = .ok (.invokevirtual 281, 3) := by decide +kernel
theorem dX10_deals_109 : decode cX10_deals 109 = .ok (.iinc 4 1, 3) := by decide +kernel
theorem dX10_deals_112 : decode cX10_deals 112 = .ok (.goto (-56), 3) := by decide +kernel
theorem dX10_deals_115 : decode cX10_deals 115 = .ok (.aload_n 0, 1) := by decide +kernel
theorem dX10_deals_116 : decode cX10_deals 116 = .ok (.getfield 91, 3) := by decide +kernel
theorem dX10_deals_119 : decode cX10_deals 119 = .ok (.iload_n 1, 1) := by decide +kernel
theorem dX10_deals_120 : decode cX10_deals 120 = .ok (.bipush 8, 2) := by decide +kernel
theorem dX10_deals_122 : decode cX10_deals 122 = .ok (.iastore, 1) := by decide +kernel
theorem dX10_deals_123 : decode cX10_deals 123 = .ok (.aload_n 0, 1) := by decide +kernel
theorem dX10_deals_124 : decode cX10_deals 124 = .ok (.iload_n 1, 1) := by decide +kernel
theorem dX10_deals_125 : decode cX10_deals 125 = .ok (.iconst 1, 1) := by decide +kernel
theorem dX10_deals_126 : decode cX10_deals 126 = .ok (.iadd, 1) := by decide +kernel
theorem dX10_deals_127 : decode cX10_deals 127 = .ok (.iload_n 2, 1) := by decide +kernel
theorem dX10_deals_128 : decode cX10_deals 128 = .ok (.iload_n 3, 1) := by decide +kernel
theorem dX10_deals_129 : decode cX10_deals 129 = .ok (.invokevirtual 281, 3) := by decide +kernel
theorem dX10_deals_132 : decode cX10_deals 132 = .ok (.return_, 1) := by decide +kernel
theorem bX10_deals_25 {K : KT} {g : GT} {cm sm : Nat} {cs : Nat × Nat} {fr : Nat} {c0 : Nat} {x1 : Int} {x2 : Int} {x3 : Int} {cl : Nat → List Int → St → Option (Int × St)} {frc : Nat} {σ' : St} (hC : Ctx K g RX10 cX10_deals 5 fr cm sm) (hcs : cs.1 ≤ cm ∧ cs.2 ≤ sm) (h0 : isO 10 c0 = true) (hf : frc + 1 ≤ fr) (hf0 : 5 ≤ fr) (hl0 : ∀ (a0 : Int) (a1 : Int) (a2 : Int) (r : Int) (σ σ' : St), cl 0 [a0, a1, a2] σ = some (r, σ') → Cn (Kl K) g yX10_deals cX10_deals 5 none frc 0 0 [vr c0, vi a0, vi a1, vi a2] (SH0, σ) none (SH0, σ')) (hR : RetV K g cX10_deals 5 cs (SH0, σ')) : ∀ (n : Nat) (x4 : Int) (σ : St), fX10_deals_25 cl c0 x1 x2 x3 n x4 σ = some σ' → G K g 5 cs 25 [(0, vr c0), (1, vi x1), (2, vi x2), (3, vi x3), (4, vi x4)] [] (SH0, σ) := by
  intro n
  induction n with
  | zero =>
    intro x4 σ h
    rw [fX10_deals_25.eq_1] at h
    cases h
  | succ n ih =>
    intro x4 σ h
    rw [fX10_deals_25.eq_2] at h
    refine g_iload hC dX10_deals_25 4 rfl ?_
    refine g_bipush hC dX10_deals_27 bp_7 ?_
    refine g_icmp_ge hC dX10_deals_29 (tgt := 52) (by decide) (fun h9 => ?_) (fun h9 => ?_)
    · rw [if_pos h9] at h
      exact ret_v h hR dX10_deals_52
    · rw [if_neg h9] at h
      refine g_aload_n hC dX10_deals_32 0 rfl rfl ?_
      refine g_getr hC dX10_deals_33 lfRX10_94 (isO_spec h0) (ft_10_43 h0) ?_
      refine g_iload hC dX10_deals_36 4 rfl ?_
      refine g_aload_n hC dX10_deals_38 0 rfl rfl ?_
      refine g_getr hC dX10_deals_39 lfRX10_91 (isO_spec h0) (ft_10_42 h0) ?_
      refine g_iload hC dX10_deals_42 4 rfl ?_
      obtain ⟨b9, h⟩ := of_ite h
      refine g_iald hC dX10_deals_44 (isA_spec (rf_10_42 h0)) b9 ?_
      obtain ⟨b9, h⟩ := of_ite h
      refine g_iast hC dX10_deals_45 (isA_spec (rf_10_43 h0)) b9 ?_
      refine g_iinc hC dX10_deals_46 4 rfl (Nat.le_of_ble_eq_true rfl) rfl ?_
      refine g_goto hC dX10_deals_49 (tgt := 25) (by decide) ?_
      exact g_pick [1, 2, 3, 4, 0] rfl (ih _ _ h)
theorem bX10_deals_109 {K : KT} {g : GT} {cm sm : Nat} {cs : Nat × Nat} {fr : Nat} {c0 : Nat} {x1 : Int} {x2 : Int} {x3 : Int} {cl : Nat → List Int → St → Option (Int × St)} {frc : Nat} {k56 : Int → St → Option (St)} {σ' : St} (hC : Ctx K g RX10 cX10_deals 5 fr cm sm) (hcs : cs.1 ≤ cm ∧ cs.2 ≤ sm) (h0 : isO 10 c0 = true) (hf : frc + 1 ≤ fr) (hf0 : 5 ≤ fr) (hl0 : ∀ (a0 : Int) (a1 : Int) (a2 : Int) (r : Int) (σ σ' : St), cl 0 [a0, a1, a2] σ = some (r, σ') → Cn (Kl K) g yX10_deals cX10_deals 5 none frc 0 0 [vr c0, vi a0, vi a1, vi a2] (SH0, σ) none (SH0, σ')) (hk56 : ∀ (x4 : Int) (σ : St), k56 x4 σ = some σ' → G K g 5 cs 56 [(0, vr c0), (1, vi x1), (2, vi x2), (3, vi x3), (4, vi x4)] [] (SH0, σ)) (hR : RetV K g cX10_deals 5 cs (SH0, σ')) : ∀ (x4 : Int) (σ : St), fX10_deals_109 cl c0 x1 x2 x3 k56 x4 σ = some σ' → G K g 5 cs 109 [(0, vr c0), (1, vi x1), (2, vi x2), (3, vi x3), (4, vi x4)] [] (SH0, σ) := by
  intro x4 σ h
  unfold fX10_deals_109 at h
  refine g_iinc hC dX10_deals_109 4 rfl (Nat.le_of_ble_eq_true rfl) rfl ?_
  refine g_goto hC dX10_deals_112 (tgt := 56) (by decide) ?_
  exact g_pick [1, 2, 3, 4, 0] rfl (hk56 _ _ h)
theorem bX10_deals_56 {K : KT} {g : GT} {cm sm : Nat} {cs : Nat × Nat} {fr : Nat} {c0 : Nat} {x1 : Int} {x2 : Int} {x3 : Int} {cl : Nat → List Int → St → Option (Int × St)} {frc : Nat} {σ' : St} (hC : Ctx K g RX10 cX10_deals 5 fr cm sm) (hcs : cs.1 ≤ cm ∧ cs.2 ≤ sm) (h0 : isO 10 c0 = true) (hf : frc + 1 ≤ fr) (hf0 : 5 ≤ fr) (hl0 : ∀ (a0 : Int) (a1 : Int) (a2 : Int) (r : Int) (σ σ' : St), cl 0 [a0, a1, a2] σ = some (r, σ') → Cn (Kl K) g yX10_deals cX10_deals 5 none frc 0 0 [vr c0, vi a0, vi a1, vi a2] (SH0, σ) none (SH0, σ')) (hR : RetV K g cX10_deals 5 cs (SH0, σ')) : ∀ (n : Nat) (x4 : Int) (σ : St), fX10_deals_56 cl c0 x1 x2 x3 n x4 σ = some σ' → G K g 5 cs 56 [(0, vr c0), (1, vi x1), (2, vi x2), (3, vi x3), (4, vi x4)] [] (SH0, σ) := by
  intro n
  induction n with
  | zero =>
    intro x4 σ h
    rw [fX10_deals_56.eq_1] at h
    cases h
  | succ n ih =>
    intro x4 σ h
    rw [fX10_deals_56.eq_2] at h
    refine g_iload hC dX10_deals_56 4 rfl ?_
    refine g_aload_n hC dX10_deals_58 0 rfl rfl ?_
    refine g_geti hC dX10_deals_59 lfRX10_97 (isO_spec h0) (ft_10_0 h0) ?_
    refine g_icmp_ge hC dX10_deals_62 (tgt := 115) (by decide) (fun h9 => ?_) (fun h9 => ?_)
    · rw [if_pos h9] at h
      refine g_aload_n hC dX10_deals_115 0 rfl rfl ?_
      refine g_getr hC dX10_deals_116 lfRX10_91 (isO_spec h0) (ft_10_42 h0) ?_
      refine g_iload_n hC dX10_deals_119 1 rfl rfl ?_
      refine g_bipush hC dX10_deals_120 bp_8 ?_
      obtain ⟨b9, h⟩ := of_ite h
      refine g_iast hC dX10_deals_122 (isA_spec (rf_10_42 h0)) b9 ?_
      refine g_aload_n hC dX10_deals_123 0 rfl rfl ?_
      refine g_iload_n hC dX10_deals_124 1 rfl rfl ?_
      refine g_iconst hC dX10_deals_125 ok_1 ?_
      refine g_iadd hC dX10_deals_126 ?_
      refine g_iload_n hC dX10_deals_127 2 rfl rfl ?_
      refine g_iload_n hC dX10_deals_128 3 rfl rfl ?_
      obtain ⟨⟨r1, s1⟩, e1, h⟩ := of_bind h
      try dsimp only at h
      refine s_callVv hC dX10_deals_129 (hl0 _ _ _ _ _ _ e1) miX10_deals mvX10_deals mlRX10_281 (isO_spec h0) vc_10 rfl rfl (Nat.le_of_ble_eq_true rfl) hf (Nat.le_of_ble_eq_true rfl) hcs ?_
      exact ret_v h hR dX10_deals_132
    · rw [if_neg h9] at h
      refine g_iload_n hC dX10_deals_65 2 rfl rfl ?_
      refine g_iload hC dX10_deals_66 4 rfl ?_
      refine g_ishr hC dX10_deals_68 ?_
      refine g_iconst hC dX10_deals_69 ok_1 ?_
      refine g_iand hC dX10_deals_70 ?_
      refine g_if_ne hC dX10_deals_71 (tgt := 77) (by decide) (fun h9 => ?_) (fun h9 => ?_)
      · rw [if_neg h9] at h
        refine g_aload_n hC dX10_deals_77 0 rfl rfl ?_
        refine g_getr hC dX10_deals_78 lfRX10_91 (isO_spec h0) (ft_10_42 h0) ?_
        refine g_iload_n hC dX10_deals_81 1 rfl rfl ?_
        refine g_iload hC dX10_deals_82 4 rfl ?_
        obtain ⟨b9, h⟩ := of_ite h
        refine g_iast hC dX10_deals_84 (isA_spec (rf_10_42 h0)) b9 ?_
        refine g_aload_n hC dX10_deals_85 0 rfl rfl ?_
        refine g_iload_n hC dX10_deals_86 1 rfl rfl ?_
        refine g_iconst hC dX10_deals_87 ok_1 ?_
        refine g_iadd hC dX10_deals_88 ?_
        refine g_iload_n hC dX10_deals_89 2 rfl rfl ?_
        refine g_iconst hC dX10_deals_90 ok_1 ?_
        refine g_iload hC dX10_deals_91 4 rfl ?_
        refine g_ishl hC dX10_deals_93 ?_
        refine g_iconst hC dX10_deals_94 ok_m1 ?_
        refine g_ixor hC dX10_deals_95 ?_
        refine g_iand hC dX10_deals_96 ?_
        refine g_iload_n hC dX10_deals_97 3 rfl rfl ?_
        refine g_aload_n hC dX10_deals_98 0 rfl rfl ?_
        refine g_iload_n hC dX10_deals_99 1 rfl rfl ?_
        refine g_iload hC dX10_deals_100 4 rfl ?_
        obtain ⟨⟨r2, s2⟩, e2, h⟩ := of_bind h
        try dsimp only at h
        refine s_callVi hC dX10_deals_102 (tX10_wouldMiss h0 e2) miX10_wouldMiss mvX10_wouldMiss mlRX10_236 (isO_spec h0) vc_10 rfl rfl (Nat.le_of_ble_eq_true rfl) (by omega) (Nat.le_of_ble_eq_true rfl) hcs ?_
        refine g_iadd hC dX10_deals_105 ?_
        obtain ⟨⟨r3, s3⟩, e3, h⟩ := of_bind h
        try dsimp only at h
        refine s_callVv hC dX10_deals_106 (hl0 _ _ _ _ _ _ e3) miX10_deals mvX10_deals mlRX10_281 (isO_spec h0) vc_10 rfl rfl (Nat.le_of_ble_eq_true rfl) hf (Nat.le_of_ble_eq_true rfl) hcs ?_
        exact g_pick [0, 1, 2, 3, 4] rfl (bX10_deals_109 hC hcs h0 hf hf0 hl0 ih hR _ _ h)
      · rw [if_pos h9] at h
        refine g_goto hC dX10_deals_74 (tgt := 109) (by decide) ?_
        exact g_pick [0, 1, 2, 3, 4] rfl (bX10_deals_109 hC hcs h0 hf hf0 hl0 ih hR _ _ h)
theorem bX10_deals_0 {K : KT} {g : GT} {cm sm : Nat} {cs : Nat × Nat} {fr : Nat} {c0 : Nat} {x1 : Int} {x2 : Int} {x3 : Int} {cl : Nat → List Int → St → Option (Int × St)} {frc : Nat} {σ' : St} (hC : Ctx K g RX10 cX10_deals 5 fr cm sm) (hcs : cs.1 ≤ cm ∧ cs.2 ≤ sm) (h0 : isO 10 c0 = true) (hf : frc + 1 ≤ fr) (hf0 : 5 ≤ fr) (hl0 : ∀ (a0 : Int) (a1 : Int) (a2 : Int) (r : Int) (σ σ' : St), cl 0 [a0, a1, a2] σ = some (r, σ') → Cn (Kl K) g yX10_deals cX10_deals 5 none frc 0 0 [vr c0, vi a0, vi a1, vi a2] (SH0, σ) none (SH0, σ')) (hR : RetV K g cX10_deals 5 cs (SH0, σ')) : ∀ (σ : St), fX10_deals cl c0 x1 x2 x3 σ = some σ' → G K g 5 cs 0 [(0, vr c0), (1, vi x1), (2, vi x2), (3, vi x3)] [] (SH0, σ) := by
  intro σ h
  unfold fX10_deals at h
  refine g_iload_n hC dX10_deals_0 1 rfl rfl ?_
  refine g_aload_n hC dX10_deals_1 0 rfl rfl ?_
  refine g_geti hC dX10_deals_2 lfRX10_105 (isO_spec h0) (ft_10_5 h0) ?_
  refine g_icmp_ne hC dX10_deals_5 (tgt := 53) (by decide) (fun h9 => ?_) (fun h9 => ?_)
  · rw [if_neg h9] at h
    refine g_iconst hC dX10_deals_53 ok_0 ?_
    refine g_istore hC dX10_deals_54 (Nat.le_of_ble_eq_true rfl) rfl ?_
    exact g_pick [1, 2, 3, 4, 0] rfl (bX10_deals_56 hC hcs h0 hf hf0 hl0 hR _ _ _ h)
  · rw [if_pos h9] at h
    refine g_iload_n hC dX10_deals_8 3 rfl rfl ?_
    refine g_aload_n hC dX10_deals_9 0 rfl rfl ?_
    refine g_geti hC dX10_deals_10 lfRX10_267 (isO_spec h0) (ft_10_44 h0) ?_
    refine g_icmp_gt hC dX10_deals_13 (tgt := 17) (by decide) (fun h9 => ?_) (fun h9 => ?_)
    · rw [if_pos h9] at h
      refine g_aload_n hC dX10_deals_17 0 rfl rfl ?_
      refine g_iload_n hC dX10_deals_18 3 rfl rfl ?_
      refine g_puti hC dX10_deals_19 lfRX10_267 fp_10_44 (isO_spec h0) (ft_10_44 h0) ?_
      refine g_iconst hC dX10_deals_22 ok_0 ?_
      refine g_istore hC dX10_deals_23 (Nat.le_of_ble_eq_true rfl) rfl ?_
      exact g_pick [1, 2, 3, 4, 0] rfl (bX10_deals_25 hC hcs h0 hf hf0 hl0 hR _ _ _ h)
    · rw [if_neg h9] at h
      exact ret_v h hR dX10_deals_16
theorem cgX10_deals {l : Launch} {g : GT} {c0 : Nat} (h0 : isO 10 c0 = true) : ∀ d : Nat, ∀ (a0 : Int) (a1 : Int) (a2 : Int) (r : Int) (σ σ' : St), gX10_deals c0 d 0 [a0, a1, a2] σ = some (r, σ') → Cn l g yX10_deals cX10_deals 5 none (5 + d) 0 0 [vr c0, vi a0, vi a1, vi a2] (SH0, σ) none (SH0, σ') := by
  intro d
  induction d with
  | zero =>
    · intro a0 a1 a2 r σ σ' h
      rw [gX10_deals_0] at h
      cases h
  | succ d ih =>
    have i0 := ih
    · intro a0 a1 a2 r σ σ' h
      rw [gX10_deals_s] at h
      have h : (Option.bind (fX10_deals (gX10_deals c0 d) c0 a0 a1 a2 σ) fun q => some (0, q)) = some (r, σ') := h
      obtain ⟨s1, e1, h⟩ := of_bind h
      cases h
      exact Cn.ofV (by decide) (Nat.le_of_ble_eq_true rfl) (fun K e hC hR => by
        subst e
        exact bX10_deals_0 hC ⟨Nat.le_refl _, Nat.le_refl _⟩ h0 (frc := 5 + d) (by omega) (by omega) i0 hR _ e1)

theorem tX10_deals {l : Launch} {g : GT} {c0 : Nat} {a0 : Int} {a1 : Int} {a2 : Int} {σ σ' : St} (h0 : isO 10 c0 = true) (h : hX10_deals c0 a0 a1 a2 σ = some σ') : Cn l g yX10_deals cX10_deals 5 none 205 0 0 [vr c0, vi a0, vi a1, vi a2] (SH0, σ) none (SH0, σ') := by
  unfold hX10_deals at h
  obtain ⟨⟨r, s1⟩, e1, h⟩ := of_bind h
  cases h
  exact (cgX10_deals h0 DEP) _ _ _ _ _ _ e1
theorem dX10_dealt_0 : decode cX10_dealt 0 = .ok (.iload_n 1, 1) := by decide +kernel
theorem dX10_dealt_1 : decode cX10_dealt 1 = .ok (.iconst (-1), 1) := by decide +kernel
theorem dX10_dealt_2 : decode cX10_dealt 2 = .ok (.if_icmp .eq 13, 3) := by decide +kernel
theorem dX10_dealt_5 : decode cX10_dealt 5 = .ok (.aload_n 0, 1) := by decide +kernel
theorem dX10_dealt_6 : decode cX10_dealt 6 = .ok (.iload_n 1, 1) := by decide +kernel
theorem dX10_dealt_7 : decode cX10_dealt 7 = .ok (.invokevirtual 125, 3) := by decide +kernel
theorem dX10_dealt_10 : decode cX10_dealt 10 = .ok (.ifCond .ne 5, 3) := by decide +kernel
theorem dX10_dealt_13 : decode cX10_dealt 13 = .ok (.iconst (-1), 1) := by decide +kernel
theorem dX10_dealt_14 : decode cX10_dealt 14 = .ok (.ireturn, 1) := by decide +kernel
theorem dX10_dealt_15 : decode cX10_dealt 15 = .ok (.aload_n 0, 1) := by decide +kernel
theorem dX10_dealt_16 : decode cX10_dealt 16 = .ok (.iconst (-1), 1) := by decide +kernel
theorem dX10_dealt_17 : decode cX10_dealt 17 = .ok (.putfield 267, 3) := by decide +kernel
theorem dX10_dealt_20 : decode cX10_dealt 20 = .ok (.aload_n 0, 1) := by decide +kernel
theorem dX10_dealt_21 : decode cX10_dealt 21 = .ok (.iconst 0, 1) := by decide +kernel
theorem dX10_dealt_22 : decode cX10_dealt 22 = .ok (.aload_n 0, 1) := by decide +kernel
theorem dX10_dealt_23 : decode cX10_dealt 23 = .ok (.invokevirtual 273, 3) := by decide +kernel
theorem dX10_dealt_26 : decode cX10_dealt 26 = .ok (.iconst 0, 1) := by decide +kernel
theorem dX10_dealt_27 : decode cX10_dealt 27 = .ok (.invokevirtual 281, 3) := by decide +kernel
theorem dX10_dealt_30 : decode cX10_dealt 30 = .ok (.iload_n 1, 1) := by decide +kernel
theorem dX10_dealt_31 : decode cX10_dealt 31 = .ok (.iconst (-1), 1) := by decide +kernel
theorem dX10_dealt_32 : decode cX10_dealt 32 = .ok (.if_icmp .ne 10, 3) := by decide +kernel
theorem dX10_dealt_35 : decode cX10_dealt 35 = .ok (.aload_n 0, 1) := by decide +kernel
theorem dX10_dealt_36 : decode cX10_dealt 36 = .ok (.getfield 267, 3) := by decide +kernel
theorem dX10_dealt_39 : decode cX10_dealt 39 = .ok (.goto 9, 3) := by decide +kernel
theorem dX10_dealt_42 : decode cX10_dealt 42 = .ok (.aload_n 0, 1) := by decide +kernel
theorem dX10_dealt_43 : decode cX10_dealt 43 = .ok (.getfield 94, 3) := by decide +kernel
theorem dX10_dealt_46 : decode cX10_dealt 46 = .ok (.iload_n 1, 1) := by decide +kernel
theorem dX10_dealt_47 : decode cX10_dealt 47 = .ok (.iaload, 1) := by decide +kernel
theorem dX10_dealt_48 : decode cX10_dealt 48 = .ok (.ireturn, 1) := by decide +kernel
theorem bX10_dealt_15 {K : KT} {g : GT} {cm sm : Nat} {cs : Nat × Nat} {c0 : Nat} {x1 : Int} {r : Int} {σ' : St} (hC : Ctx K g RX10 cX10_dealt 2 206 cm sm) (hcs : cs.1 ≤ cm ∧ cs.2 ≤ sm) (h0 : isO 10 c0 = true) (hR : RetI K g cX10_dealt 2 cs r (SH0, σ')) : ∀ (σ : St), fX10_dealt_15 c0 x1 σ = some (r, σ') → G K g 2 cs 15 [(0, vr c0), (1, vi x1)] [] (SH0, σ) := by
  intro σ h
  unfold fX10_dealt_15 at h
  refine g_aload_n hC dX10_dealt_15 0 rfl rfl ?_
  refine g_iconst hC dX10_dealt_16 ok_m1 ?_
  refine g_puti hC dX10_dealt_17 lfRX10_267 fp_10_44 (isO_spec h0) (ft_10_44 h0) ?_
  refine g_aload_n hC dX10_dealt_20 0 rfl rfl ?_
  refine g_iconst hC dX10_dealt_21 ok_0 ?_
  refine g_aload_n hC dX10_dealt_22 0 rfl rfl ?_
  obtain ⟨⟨r1, s1⟩, e1, h⟩ := of_bind h
  try dsimp only at h
  refine s_callVi hC dX10_dealt_23 (tX10_forSale h0 e1) miX10_forSale mvX10_forSale mlRX10_273 (isO_spec h0) vc_10 rfl rfl (Nat.le_of_ble_eq_true rfl) (Nat.le_of_ble_eq_true rfl) (Nat.le_of_ble_eq_true rfl) hcs ?_
  refine g_iconst hC dX10_dealt_26 ok_0 ?_
  obtain ⟨s2, e2, h⟩ := of_bind h
  try dsimp only at h
  refine s_callVv hC dX10_dealt_27 (tX10_deals h0 e2) miX10_deals mvX10_deals mlRX10_281 (isO_spec h0) vc_10 rfl rfl (Nat.le_of_ble_eq_true rfl) (Nat.le_of_ble_eq_true rfl) (Nat.le_of_ble_eq_true rfl) hcs ?_
  refine g_iload_n hC dX10_dealt_30 1 rfl rfl ?_
  refine g_iconst hC dX10_dealt_31 ok_m1 ?_
  refine g_icmp_ne hC dX10_dealt_32 (tgt := 42) (by decide) (fun h9 => ?_) (fun h9 => ?_)
  · rw [if_neg h9] at h
    refine g_aload_n hC dX10_dealt_42 0 rfl rfl ?_
    refine g_getr hC dX10_dealt_43 lfRX10_94 (isO_spec h0) (ft_10_43 h0) ?_
    refine g_iload_n hC dX10_dealt_46 1 rfl rfl ?_
    obtain ⟨b9, h⟩ := of_ite h
    refine g_iald hC dX10_dealt_47 (isA_spec (rf_10_43 h0)) b9 ?_
    exact ret_i h hR dX10_dealt_48
  · rw [if_pos h9] at h
    refine g_aload_n hC dX10_dealt_35 0 rfl rfl ?_
    refine g_geti hC dX10_dealt_36 lfRX10_267 (isO_spec h0) (ft_10_44 h0) ?_
    refine g_goto hC dX10_dealt_39 (tgt := 48) (by decide) ?_
    exact ret_i h hR dX10_dealt_48
theorem bX10_dealt_0 {K : KT} {g : GT} {cm sm : Nat} {cs : Nat × Nat} {c0 : Nat} {x1 : Int} {r : Int} {σ' : St} (hC : Ctx K g RX10 cX10_dealt 2 206 cm sm) (hcs : cs.1 ≤ cm ∧ cs.2 ≤ sm) (h0 : isO 10 c0 = true) (hR : RetI K g cX10_dealt 2 cs r (SH0, σ')) : ∀ (σ : St), fX10_dealt c0 x1 σ = some (r, σ') → G K g 2 cs 0 [(0, vr c0), (1, vi x1)] [] (SH0, σ) := by
  intro σ h
  unfold fX10_dealt at h
  refine g_iload_n hC dX10_dealt_0 1 rfl rfl ?_
  refine g_iconst hC dX10_dealt_1 ok_m1 ?_
  refine g_icmp_eq hC dX10_dealt_2 (tgt := 15) (by decide) (fun h9 => ?_) (fun h9 => ?_)
  · rw [if_pos h9] at h
    exact g_pick [0, 1] rfl (bX10_dealt_15 hC hcs h0 hR _ h)
  · rw [if_neg h9] at h
    refine g_aload_n hC dX10_dealt_5 0 rfl rfl ?_
    refine g_iload_n hC dX10_dealt_6 1 rfl rfl ?_
    obtain ⟨⟨r1, s1⟩, e1, h⟩ := of_bind h
    try dsimp only at h
    refine s_callVi hC dX10_dealt_7 (tX10_isOne h0 e1) miX10_isOne mvX10_isOne mlRX10_125 (isO_spec h0) vc_10 rfl rfl (Nat.le_of_ble_eq_true rfl) (Nat.le_of_ble_eq_true rfl) (Nat.le_of_ble_eq_true rfl) hcs ?_
    refine g_if_ne hC dX10_dealt_10 (tgt := 15) (by decide) (fun h9 => ?_) (fun h9 => ?_)
    · rw [if_neg h9] at h
      exact g_pick [0, 1] rfl (bX10_dealt_15 hC hcs h0 hR _ h)
    · rw [if_pos h9] at h
      refine g_iconst hC dX10_dealt_13 ok_m1 ?_
      exact ret_i h hR dX10_dealt_14
theorem tX10_dealt {l : Launch} {g : GT} {c0 : Nat} {x1 : Int} {σ σ' : St} {r : Int} (h0 : isO 10 c0 = true) (h : fX10_dealt c0 x1 σ = some (r, σ')) : Cn l g yX10_dealt cX10_dealt 2 (some .int) 206 0 0 [vr c0, vi x1] (SH0, σ) (some (vi r)) (SH0, σ') :=
  Cn.ofI (by decide) (Nat.le_of_ble_eq_true rfl) (fun K e hC hR => (bX10_dealt_0 hC ⟨Nat.le_refl _, Nat.le_refl _⟩ h0 hR _ h))
theorem dX10_drawn_0 : decode cX10_drawn 0 = .ok (.iload_n 2, 1) := by decide +kernel
theorem dX10_drawn_1 : decode cX10_drawn 1 = .ok (.invokestatic 112, 3) := by decide +kernel
theorem dX10_drawn_4 : decode cX10_drawn 4 = .ok (.ifCond .eq 44, 3) := by decide +kernel
theorem dX10_drawn_7 : decode cX10_drawn 7 = .ok (.iload_n 3, 1) := by decide +kernel
theorem dX10_drawn_8 : decode cX10_drawn 8 = .ok (.ifCond .lt 40, 3) := by decide +kernel
theorem dX10_drawn_11 : decode cX10_drawn 11 = .ok (.iload_n 3, 1) := by decide +kernel
theorem dX10_drawn_12 : decode cX10_drawn 12 = .ok (.bipush 100, 2) := by decide +kernel
theorem dX10_drawn_14 : decode cX10_drawn 14 = .ok (.idiv, 1) := by decide +kernel
theorem dX10_drawn_15 : decode cX10_drawn 15 = .ok (.iconst 1, 1) := by decide +kernel
theorem dX10_drawn_16 : decode cX10_drawn 16 = .ok (.bipush 30, 2) := by decide +kernel
theorem dX10_drawn_18 : decode cX10_drawn 18 = .ok (.invokestatic 101, 3) := by decide +kernel
theorem dX10_drawn_21 : decode cX10_drawn 21 = .ok (.ifCond .eq 27, 3) := by decide +kernel
theorem dX10_drawn_24 : decode cX10_drawn 24 = .ok (.iload_n 3, 1) := by decide +kernel
theorem dX10_drawn_25 : decode cX10_drawn 25 = .ok (.bipush 100, 2) := by decide +kernel
theorem dX10_drawn_27 : decode cX10_drawn 27 = .ok (.irem, 1) := by decide +kernel
theorem dX10_drawn_28 : decode cX10_drawn 28 = .ok (.bipush 12, 2) := by decide +kernel
theorem dX10_drawn_30 : decode cX10_drawn 30 = .ok (.if_icmp .gt 18, 3) := by decide +kernel
theorem dX10_drawn_33 : decode cX10_drawn 33 = .ok (.iload 4, 2) := by decide +kernel
theorem dX10_drawn_35 : decode cX10_drawn 35 = .ok (.iconst (-1), 1) := by decide +kernel
theorem dX10_drawn_36 : decode cX10_drawn 36 = .ok (.if_icmp .eq 14, 3) := by decide +kernel
theorem dX10_drawn_39 : decode cX10_drawn 39 = .ok (.aload_n 0, 1) := by decide +kernel
theorem dX10_drawn_40 : decode cX10_drawn 40 = .ok (.iload 4, 2) := by decide +kernel
theorem dX10_drawn_42 : decode cX10_drawn 42 = .ok (.invokevirtual 125, 3) := by decide +kernel
theorem dX10_drawn_45 : decode cX10_drawn 45 = .ok (.ifCond .ne 5, 3) := by decide +kernel
theorem dX10_drawn_48 : decode cX10_drawn 48 = .ok (.iconst (-1), 1) := by decide +kernel
theorem dX10_drawn_49 : decode cX10_drawn 49 = .ok (.ireturn, 1) := by decide +kernel
theorem dX10_drawn_50 : decode cX10_drawn 50 = .ok (.aload_n 0, 1) := by decide +kernel
theorem dX10_drawn_51 : decode cX10_drawn 51 = .ok (.iload_n 2, 1) := by decide +kernel
theorem dX10_drawn_52 : decode cX10_drawn 52 = .ok (.invokevirtual 252, 3) := by decide +kernel
theorem dX10_drawn_55 : decode cX10_drawn 55 = .ok (.istore 5, 2) := by decide +kernel
theorem dX10_drawn_57 : decode cX10_drawn 57 = .ok (.iload 5, 2) := by decide +kernel
theorem dX10_drawn_59 : decode cX10_drawn 59 = .ok (.ifCond .ge 6, 3) := by decide +kernel
theorem dX10_drawn_62 : decode cX10_drawn 62 = .ok (.iload 5, 2) := by decide +kernel
theorem dX10_drawn_64 : decode cX10_drawn 64 = .ok (.ireturn, 1) := by decide +kernel
theorem dX10_drawn_65 : decode cX10_drawn 65 = .ok (.aload_n 0, 1) := by decide +kernel
theorem dX10_drawn_66 : decode cX10_drawn 66 = .ok (.aload_n 0, 1) := by decide +kernel
theorem dX10_drawn_67 : decode cX10_drawn 67 = .ok (.getfield 88, 3) := by decide +kernel
theorem dX10_drawn_70 : decode cX10_drawn 70 = .ok (.invokevirtual 258, 3) := by decide +kernel
theorem dX10_drawn_73 : decode cX10_drawn 73 = .ok (.iload_n 1, 1) := by decide +kernel
theorem dX10_drawn_74 : decode cX10_drawn 74 = .ok (.istore 6, 2) := by decide +kernel
theorem dX10_drawn_76 : decode cX10_drawn 76 = .ok (.iconst 0, 1) := by decide +kernel
theorem dX10_drawn_77 : decode cX10_drawn 77 = .ok (.istore 7, 2) := by decide +kernel
theorem dX10_drawn_79 : decode cX10_drawn 79 = .ok (.aload_n 0, 1) := by decide +kernel
theorem dX10_drawn_80 : decode cX10_drawn 80 = .ok (.iload_n 2, 1) := by decide +kernel
theorem dX10_drawn_81 : decode cX10_drawn 81 = .ok (.invokevirtual 255, 3) := by decide +kernel
theorem dX10_drawn_84 : decode cX10_drawn 84 = .ok (.istore 8, 2) := by decide +kernel
theorem dX10_drawn_86 : decode cX10_drawn 86 = .ok (.iconst 0, 1) := by decide +kernel
theorem dX10_drawn_87 : decode cX10_drawn 87 = .ok (.istore 9, 2) := by decide +kernel
theorem dX10_drawn_89 : decode cX10_drawn 89 = .ok (.iload 9, 2) := by decide +kernel
theorem dX10_drawn_91 : decode cX10_drawn 91 = .ok (.iload_n 3, 1) := by decide +kernel
theorem dX10_drawn_92 : decode cX10_drawn 92 = .ok (.bipush 100, 2) := by decide +kernel
theorem dX10_drawn_94 : decode cX10_drawn 94 = .ok (.idiv, 1) := by decide +kernel
theorem dX10_drawn_95 : decode cX10_drawn 95 = .ok (.if_icmp .ge 116, 3) := by decide +kernel
theorem dX10_drawn_98 : decode cX10_drawn 98 = .ok (.iconst 0, 1) := by decide +kernel
theorem dX10_drawn_99 : decode cX10_drawn 99 = .ok (.istore 10, 2) := by decide +kernel
theorem dX10_drawn_101 : decode cX10_drawn 101 = .ok (.iload 10, 2) := by decide +kernel
theorem dX10_drawn_103 : decode cX10_drawn 103 = .ok (.iload 8, 2) := by decide +kernel
theorem dX10_drawn_105 : decode cX10_drawn 105 = .ok (.if_icmp .ge 96, 3) := by decide +kernel
theorem dX10_drawn_108 : decode cX10_drawn 108 = .ok (.iload 6, 2) := by decide +kernel
theorem dX10_drawn_110 : decode cX10_drawn 110 = .ok (.ldc_w 316, 3) := by decide +kernel
theorem dX10_drawn_113 : decode cX10_drawn 113 = .ok (.imul, 1) := by decide +kernel
theorem dX10_drawn_114 : decode cX10_drawn 114 = .ok (.sipush 12345, 3) := by decide +kernel
theorem dX10_drawn_117 : decode cX10_drawn 117 = .ok (.iadd, 1) := by decide +kernel
theorem dX10_drawn_118 : decode cX10_drawn 118 = .ok (.istore 6, 2) := by decide +kernel
theorem dX10_drawn_120 : decode cX10_drawn 120 = .ok (.aload_n 0, 1) := by decide +kernel
theorem dX10_drawn_121 : decode cX10_drawn 121 = .ok (.getfield 105, 3) := by decide +kernel
theorem dX10_drawn_124 : decode cX10_drawn 124 = .ok (.ifCond .le 37, 3) := by decide +kernel
theorem dX10_drawn_127 : decode cX10_drawn 127 = .ok (.iload 6, 2) := by decide +kernel
theorem dX10_drawn_129 : decode cX10_drawn 129 = .ok (.bipush 16, 2) := by decide +kernel
theorem dX10_drawn_131 : decode cX10_drawn 131 = .ok (.iushr, 1) := by decide +kernel
theorem dX10_drawn_132 : decode cX10_drawn 132 = .ok (.bipush 12, 2) := by decide +kernel
theorem dX10_drawn_134 : decode cX10_drawn 134 = .ok (.irem, 1) := by decide +kernel
theorem dX10_drawn_135 : decode cX10_drawn 135 = .ok (.iload_n 3, 1) := by decide +kernel
theorem dX10_drawn_136 : decode cX10_drawn 136 = .ok (.bipush 100, 2) := by decide +kernel
theorem dX10_drawn_138 : decode cX10_drawn 138 = .ok (.irem, 1) := by decide +kernel
theorem dX10_drawn_139 : decode cX10_drawn 139 = .ok (.if_icmp .ge 22, 3) := by decide +kernel
theorem dX10_drawn_142 : decode cX10_drawn 142 = .ok (.aload_n 0, 1) := by decide +kernel
theorem dX10_drawn_143 : decode cX10_drawn 143 = .ok (.getfield 24, 3) := by decide +kernel
theorem dX10_drawn_146 : decode cX10_drawn 146 = .ok (.bipush 28, 2) := by decide +kernel
theorem dX10_drawn_148 : decode cX10_drawn 148 = .ok (.iload 6, 2) := by decide +kernel
theorem dX10_drawn_150 : decode cX10_drawn 150 = .ok (.bipush 8, 2) := by decide +kernel
theorem dX10_drawn_152 : decode cX10_drawn 152 = .ok (.iushr, 1) := by decide +kernel
theorem dX10_drawn_153 : decode cX10_drawn 153 = .ok (.aload_n 0, 1) := by decide +kernel
theorem dX10_drawn_154 : decode cX10_drawn 154 = .ok (.getfield 105, 3) := by decide +kernel
theorem dX10_drawn_157 : decode cX10_drawn 157 = .ok (.irem, 1) := by decide +kernel
theorem dX10_drawn_158 : decode cX10_drawn 158 = .ok (.iadd, 1) := by decide +kernel
theorem dX10_drawn_159 : decode cX10_drawn 159 = .ok (.iconst 1, 1) := by decide +kernel
theorem dX10_drawn_160 : decode cX10_drawn 160 = .ok (.iastore, 1) := by decide +kernel
theorem dX10_drawn_161 : decode cX10_drawn 161 = .ok (.aload_n 0, 1) := by decide +kernel
theorem dX10_drawn_162 : decode cX10_drawn 162 = .ok (.aload_n 0, 1) := by decide +kernel
theorem dX10_drawn_163 : decode cX10_drawn 163 = .ok (.iload_n 2, 1) := by decide +kernel
theorem dX10_drawn_164 : decode cX10_drawn 164 = .ok (.iload 10, 2) := by decide +kernel
theorem dX10_drawn_166 : decode cX10_drawn 166 = .ok (.invokevirtual 118, 3) := by decide +kernel
theorem dX10_drawn_169 : decode cX10_drawn 169 = .ok (.invokevirtual 262, 3) := by decide +kernel
theorem dX10_drawn_172 : decode cX10_drawn 172 = .ok (.istore 11, 2) := by decide +kernel
theorem dX10_drawn_174 : decode cX10_drawn 174 = .ok (.iload 11, 2) := by decide +kernel
theorem dX10_drawn_176 : decode cX10_drawn 176 = .ok (.iload 4, 2) := by decide +kernel
theorem dX10_drawn_178 : decode cX10_drawn 178 = .ok (.iconst (-1), 1) := by decide +kernel
theorem dX10_drawn_179 : decode cX10_drawn 179 = .ok (.if_icmp .ne 8, 3) := by decide +kernel
theorem dX10_drawn_182 : decode cX10_drawn 182 = .ok (.bipush 8, 2) := by decide +kernel
theorem dX10_drawn_184 : decode cX10_drawn 184 = .ok (.goto 5, 3) := by decide +kernel
theorem dX10_drawn_187 : decode cX10_drawn 187 = .ok (.iload 4, 2) := by decide +kernel
theorem dX10_drawn_189 : decode cX10_drawn 189 = .ok (.if_icmp .ne 6, 3) := by decide +kernel
theorem dX10_drawn_192 : decode cX10_drawn 192 = .ok (.iinc 7 1, 3) := by decide +kernel
theorem dX10_drawn_195 : decode cX10_drawn 195 = .ok (.iinc 10 1, 3) := by decide +kernel
theorem dX10_drawn_198 : decode cX10_drawn 198 = .ok (.goto (-97), 3) := by decide +kernel
theorem dX10_drawn_201 : decode cX10_drawn 201 = .ok (.aload_n 0, 1) := by decide +kernel
theorem dX10_drawn_202 : decode cX10_drawn 202 = .ok (.invokevirtual 265, 3) := by decide +kernel
theorem dX10_drawn_205 : decode cX10_drawn 205 = .ok (.iinc 9 1, 3) := by decide +kernel
theorem dX10_drawn_208 : decode cX10_drawn 208 = .ok (.goto (-119), 3) := by decide +kernel
theorem dX10_drawn_211 : decode cX10_drawn 211 = .ok (.iload 7, 2) := by decide +kernel
theorem dX10_drawn_213 : decode cX10_drawn 213 = .ok (.ireturn, 1) := by decide +kernel
theorem bX10_drawn_195 {K : KT} {g : GT} {cm sm : Nat} {cs : Nat × Nat} {c0 : Nat} {x1 : Int} {x2 : Int} {x3 : Int} {x4 : Int} {k89 : Int → Int → Int → Int → St → Option (Int × St)} {k101 : Int → Int → Int → Int → Int → St → Option (Int × St)} {r : Int} {σ' : St} (hC : Ctx K g RX10 cX10_drawn 12 8 cm sm) (hcs : cs.1 ≤ cm ∧ cs.2 ≤ sm) (h0 : isO 10 c0 = true) (hk89 : ∀ (x6 : Int) (x7 : Int) (x8 : Int) (x9 : Int) (σ : St), k89 x6 x7 x8 x9 σ = some (r, σ') → G K g 12 cs 89 [(0, vr c0), (1, vi x1), (2, vi x2), (3, vi x3), (4, vi x4), (6, vi x6), (7, vi x7), (8, vi x8), (9, vi x9)] [] (SH0, σ)) (hk101 : ∀ (x6 : Int) (x7 : Int) (x8 : Int) (x9 : Int) (x10 : Int) (σ : St), k101 x6 x7 x8 x9 x10 σ = some (r, σ') → G K g 12 cs 101 [(0, vr c0), (1, vi x1), (2, vi x2), (3, vi x3), (4, vi x4), (6, vi x6), (7, vi x7), (8, vi x8), (9, vi x9), (10, vi x10)] [] (SH0, σ)) (hR : RetI K g cX10_drawn 12 cs r (SH0, σ')) : ∀ (x6 : Int) (x7 : Int) (x8 : Int) (x9 : Int) (x10 : Int) (σ : St), fX10_drawn_195 c0 x1 x2 x3 x4 k89 k101 x6 x7 x8 x9 x10 σ = some (r, σ') → G K g 12 cs 195 [(0, vr c0), (1, vi x1), (2, vi x2), (3, vi x3), (4, vi x4), (6, vi x6), (7, vi x7), (8, vi x8), (9, vi x9), (10, vi x10)] [] (SH0, σ) := by
  intro x6 x7 x8 x9 x10 σ h
  unfold fX10_drawn_195 at h
  refine g_iinc hC dX10_drawn_195 9 rfl (Nat.le_of_ble_eq_true rfl) rfl ?_
  refine g_goto hC dX10_drawn_198 (tgt := 101) (by decide) ?_
  exact g_pick [1, 2, 3, 4, 5, 6, 7, 8, 9, 0] rfl (hk101 _ _ _ _ _ _ h)
theorem bX10_drawn_189 {K : KT} {g : GT} {cm sm : Nat} {cs : Nat × Nat} {c0 : Nat} {x1 : Int} {x2 : Int} {x3 : Int} {x4 : Int} {k89 : Int → Int → Int → Int → St → Option (Int × St)} {k101 : Int → Int → Int → Int → Int → St → Option (Int × St)} {r : Int} {σ' : St} (hC : Ctx K g RX10 cX10_drawn 12 8 cm sm) (hcs : cs.1 ≤ cm ∧ cs.2 ≤ sm) (h0 : isO 10 c0 = true) (hk89 : ∀ (x6 : Int) (x7 : Int) (x8 : Int) (x9 : Int) (σ : St), k89 x6 x7 x8 x9 σ = some (r, σ') → G K g 12 cs 89 [(0, vr c0), (1, vi x1), (2, vi x2), (3, vi x3), (4, vi x4), (6, vi x6), (7, vi x7), (8, vi x8), (9, vi x9)] [] (SH0, σ)) (hk101 : ∀ (x6 : Int) (x7 : Int) (x8 : Int) (x9 : Int) (x10 : Int) (σ : St), k101 x6 x7 x8 x9 x10 σ = some (r, σ') → G K g 12 cs 101 [(0, vr c0), (1, vi x1), (2, vi x2), (3, vi x3), (4, vi x4), (6, vi x6), (7, vi x7), (8, vi x8), (9, vi x9), (10, vi x10)] [] (SH0, σ)) (hR : RetI K g cX10_drawn 12 cs r (SH0, σ')) : ∀ (x6 : Int) (x7 : Int) (x8 : Int) (x9 : Int) (x10 : Int) (y0 : Int) (y1 : Int) (σ : St), fX10_drawn_189 c0 x1 x2 x3 x4 k89 k101 x6 x7 x8 x9 x10 y0 y1 σ = some (r, σ') → G K g 12 cs 189 [(0, vr c0), (1, vi x1), (2, vi x2), (3, vi x3), (4, vi x4), (6, vi x6), (7, vi x7), (8, vi x8), (9, vi x9), (10, vi x10)] [vi y1, vi y0] (SH0, σ) := by
  intro x6 x7 x8 x9 x10 y0 y1 σ h
  unfold fX10_drawn_189 at h
  refine g_icmp_ne hC dX10_drawn_189 (tgt := 195) (by decide) (fun h9 => ?_) (fun h9 => ?_)
  · rw [if_neg h9] at h
    exact g_pick [0, 1, 2, 3, 4, 5, 6, 7, 8, 9] rfl (bX10_drawn_195 hC hcs h0 hk89 hk101 hR _ _ _ _ _ _ h)
  · rw [if_pos h9] at h
    refine g_iinc hC dX10_drawn_192 6 rfl (Nat.le_of_ble_eq_true rfl) rfl ?_
    exact g_pick [1, 2, 3, 4, 5, 6, 0, 7, 8, 9] rfl (bX10_drawn_195 hC hcs h0 hk89 hk101 hR _ _ _ _ _ _ h)
theorem bX10_drawn_161 {K : KT} {g : GT} {cm sm : Nat} {cs : Nat × Nat} {c0 : Nat} {x1 : Int} {x2 : Int} {x3 : Int} {x4 : Int} {k89 : Int → Int → Int → Int → St → Option (Int × St)} {k101 : Int → Int → Int → Int → Int → St → Option (Int × St)} {r : Int} {σ' : St} (hC : Ctx K g RX10 cX10_drawn 12 8 cm sm) (hcs : cs.1 ≤ cm ∧ cs.2 ≤ sm) (h0 : isO 10 c0 = true) (hk89 : ∀ (x6 : Int) (x7 : Int) (x8 : Int) (x9 : Int) (σ : St), k89 x6 x7 x8 x9 σ = some (r, σ') → G K g 12 cs 89 [(0, vr c0), (1, vi x1), (2, vi x2), (3, vi x3), (4, vi x4), (6, vi x6), (7, vi x7), (8, vi x8), (9, vi x9)] [] (SH0, σ)) (hk101 : ∀ (x6 : Int) (x7 : Int) (x8 : Int) (x9 : Int) (x10 : Int) (σ : St), k101 x6 x7 x8 x9 x10 σ = some (r, σ') → G K g 12 cs 101 [(0, vr c0), (1, vi x1), (2, vi x2), (3, vi x3), (4, vi x4), (6, vi x6), (7, vi x7), (8, vi x8), (9, vi x9), (10, vi x10)] [] (SH0, σ)) (hR : RetI K g cX10_drawn 12 cs r (SH0, σ')) : ∀ (x6 : Int) (x7 : Int) (x8 : Int) (x9 : Int) (x10 : Int) (σ : St), fX10_drawn_161 c0 x1 x2 x3 x4 k89 k101 x6 x7 x8 x9 x10 σ = some (r, σ') → G K g 12 cs 161 [(0, vr c0), (1, vi x1), (2, vi x2), (3, vi x3), (4, vi x4), (6, vi x6), (7, vi x7), (8, vi x8), (9, vi x9), (10, vi x10)] [] (SH0, σ) := by
  intro x6 x7 x8 x9 x10 σ h
  unfold fX10_drawn_161 at h
  refine g_aload_n hC dX10_drawn_161 0 rfl rfl ?_
  refine g_aload_n hC dX10_drawn_162 0 rfl rfl ?_
  refine g_iload_n hC dX10_drawn_163 2 rfl rfl ?_
  refine g_iload hC dX10_drawn_164 9 rfl ?_
  obtain ⟨⟨r1, s1⟩, e1, h⟩ := of_bind h
  try dsimp only at h
  refine s_callVi hC dX10_drawn_166 (tX10_toldAt h0 e1) miX10_toldAt mvX10_toldAt mlRX10_118 (isO_spec h0) vc_10 rfl rfl (Nat.le_of_ble_eq_true rfl) (Nat.le_of_ble_eq_true rfl) (Nat.le_of_ble_eq_true rfl) hcs ?_
  obtain ⟨⟨r2, s2⟩, e2, h⟩ := of_bind h
  try dsimp only at h
  refine s_callVi hC dX10_drawn_169 (tX10_goes h0 e2) miX10_goes mvX10_goes mlRX10_262 (isO_spec h0) vc_10 rfl rfl (Nat.le_of_ble_eq_true rfl) (Nat.le_of_ble_eq_true rfl) (Nat.le_of_ble_eq_true rfl) hcs ?_
  refine g_istore hC dX10_drawn_172 (Nat.le_of_ble_eq_true rfl) rfl ?_
  refine g_iload hC dX10_drawn_174 0 rfl ?_
  refine g_iload hC dX10_drawn_176 5 rfl ?_
  refine g_iconst hC dX10_drawn_178 ok_m1 ?_
  refine g_icmp_ne hC dX10_drawn_179 (tgt := 187) (by decide) (fun h9 => ?_) (fun h9 => ?_)
  · rw [if_neg h9] at h
    refine g_iload hC dX10_drawn_187 5 rfl ?_
    exact g_pick [1, 2, 3, 4, 5, 6, 7, 8, 9, 10] rfl (bX10_drawn_189 hC hcs h0 hk89 hk101 hR _ _ _ _ _ _ _ _ h)
  · rw [if_pos h9] at h
    refine g_bipush hC dX10_drawn_182 bp_8 ?_
    refine g_goto hC dX10_drawn_184 (tgt := 189) (by decide) ?_
    exact g_pick [1, 2, 3, 4, 5, 6, 7, 8, 9, 10] rfl (bX10_drawn_189 hC hcs h0 hk89 hk101 hR _ _ _ _ _ _ _ _ h)
theorem bX10_drawn_101 {K : KT} {g : GT} {cm sm : Nat} {cs : Nat × Nat} {c0 : Nat} {x1 : Int} {x2 : Int} {x3 : Int} {x4 : Int} {k89 : Int → Int → Int → Int → St → Option (Int × St)} {r : Int} {σ' : St} (hC : Ctx K g RX10 cX10_drawn 12 8 cm sm) (hcs : cs.1 ≤ cm ∧ cs.2 ≤ sm) (h0 : isO 10 c0 = true) (hk89 : ∀ (x6 : Int) (x7 : Int) (x8 : Int) (x9 : Int) (σ : St), k89 x6 x7 x8 x9 σ = some (r, σ') → G K g 12 cs 89 [(0, vr c0), (1, vi x1), (2, vi x2), (3, vi x3), (4, vi x4), (6, vi x6), (7, vi x7), (8, vi x8), (9, vi x9)] [] (SH0, σ)) (hR : RetI K g cX10_drawn 12 cs r (SH0, σ')) : ∀ (n : Nat) (x6 : Int) (x7 : Int) (x8 : Int) (x9 : Int) (x10 : Int) (σ : St), fX10_drawn_101 c0 x1 x2 x3 x4 k89 n x6 x7 x8 x9 x10 σ = some (r, σ') → G K g 12 cs 101 [(0, vr c0), (1, vi x1), (2, vi x2), (3, vi x3), (4, vi x4), (6, vi x6), (7, vi x7), (8, vi x8), (9, vi x9), (10, vi x10)] [] (SH0, σ) := by
  intro n
  induction n with
  | zero =>
    intro x6 x7 x8 x9 x10 σ h
    rw [fX10_drawn_101.eq_1] at h
    cases h
  | succ n ih =>
    intro x6 x7 x8 x9 x10 σ h
    rw [fX10_drawn_101.eq_2] at h
    refine g_iload hC dX10_drawn_101 9 rfl ?_
    refine g_iload hC dX10_drawn_103 7 rfl ?_
    refine g_icmp_ge hC dX10_drawn_105 (tgt := 201) (by decide) (fun h9 => ?_) (fun h9 => ?_)
    · rw [if_pos h9] at h
      refine g_aload_n hC dX10_drawn_201 0 rfl rfl ?_
      obtain ⟨s1, e1, h⟩ := of_bind h
      try dsimp only at h
      refine s_callVv hC dX10_drawn_202 (tX10_laysBack_ h0 e1) miX10_laysBack_ mvX10_laysBack_ mlRX10_265 (isO_spec h0) vc_10 rfl rfl (Nat.le_of_ble_eq_true rfl) (Nat.le_of_ble_eq_true rfl) (Nat.le_of_ble_eq_true rfl) hcs ?_
      refine g_iinc hC dX10_drawn_205 8 rfl (Nat.le_of_ble_eq_true rfl) rfl ?_
      refine g_goto hC dX10_drawn_208 (tgt := 89) (by decide) ?_
      exact g_pick [1, 2, 3, 4, 5, 6, 7, 8, 0] rfl (hk89 _ _ _ _ _ h)
    · rw [if_neg h9] at h
      refine g_iload hC dX10_drawn_108 5 rfl ?_
      refine g_ldcw hC dX10_drawn_110 kRX10_316 ?_
      refine g_imul hC dX10_drawn_113 ?_
      refine g_sipush hC dX10_drawn_114 sp_12345 ?_
      refine g_iadd hC dX10_drawn_117 ?_
      refine g_istore hC dX10_drawn_118 (Nat.le_of_ble_eq_true rfl) rfl ?_
      refine g_aload_n hC dX10_drawn_120 1 rfl rfl ?_
      refine g_geti hC dX10_drawn_121 lfRX10_105 (isO_spec h0) (ft_10_5 h0) ?_
      refine g_if_le hC dX10_drawn_124 (tgt := 161) (by decide) (fun h9 => ?_) (fun h9 => ?_)
      · rw [if_pos h9] at h
        exact g_pick [1, 2, 3, 4, 5, 0, 6, 7, 8, 9] rfl (bX10_drawn_161 hC hcs h0 hk89 ih hR _ _ _ _ _ _ h)
      · rw [if_neg h9] at h
        refine g_iload hC dX10_drawn_127 0 rfl ?_
        refine g_bipush hC dX10_drawn_129 bp_16 ?_
        refine g_iushr hC dX10_drawn_131 ?_
        refine g_bipush hC dX10_drawn_132 bp_12 ?_
        refine g_irem hC dX10_drawn_134 (by decide) ?_
        refine g_iload_n hC dX10_drawn_135 4 rfl rfl ?_
        refine g_bipush hC dX10_drawn_136 bp_100 ?_
        refine g_irem hC dX10_drawn_138 (by decide) ?_
        refine g_icmp_ge hC dX10_drawn_139 (tgt := 161) (by decide) (fun h9 => ?_) (fun h9 => ?_)
        · rw [if_pos h9] at h
          exact g_pick [1, 2, 3, 4, 5, 0, 6, 7, 8, 9] rfl (bX10_drawn_161 hC hcs h0 hk89 ih hR _ _ _ _ _ _ h)
        · rw [if_neg h9] at h
          refine g_aload_n hC dX10_drawn_142 1 rfl rfl ?_
          refine g_getr hC dX10_drawn_143 lfRX10_24 (isO_spec h0) (ft_10_6 h0) ?_
          refine g_bipush hC dX10_drawn_146 bp_28 ?_
          refine g_iload hC dX10_drawn_148 0 rfl ?_
          refine g_bipush hC dX10_drawn_150 bp_8 ?_
          refine g_iushr hC dX10_drawn_152 ?_
          refine g_aload_n hC dX10_drawn_153 1 rfl rfl ?_
          refine g_geti hC dX10_drawn_154 lfRX10_105 (isO_spec h0) (ft_10_5 h0) ?_
          obtain ⟨b9, h⟩ := of_ite h
          refine g_irem hC dX10_drawn_157 b9 ?_
          refine g_iadd hC dX10_drawn_158 ?_
          refine g_iconst hC dX10_drawn_159 ok_1 ?_
          obtain ⟨b9, h⟩ := of_ite h
          refine g_iast hC dX10_drawn_160 (isA_spec (rf_10_6 h0)) b9 ?_
          exact g_pick [1, 2, 3, 4, 5, 0, 6, 7, 8, 9] rfl (bX10_drawn_161 hC hcs h0 hk89 ih hR _ _ _ _ _ _ h)
theorem bX10_drawn_89 {K : KT} {g : GT} {cm sm : Nat} {cs : Nat × Nat} {c0 : Nat} {x1 : Int} {x2 : Int} {x3 : Int} {x4 : Int} {r : Int} {σ' : St} (hC : Ctx K g RX10 cX10_drawn 12 8 cm sm) (hcs : cs.1 ≤ cm ∧ cs.2 ≤ sm) (h0 : isO 10 c0 = true) (hR : RetI K g cX10_drawn 12 cs r (SH0, σ')) : ∀ (n : Nat) (x6 : Int) (x7 : Int) (x8 : Int) (x9 : Int) (σ : St), fX10_drawn_89 c0 x1 x2 x3 x4 n x6 x7 x8 x9 σ = some (r, σ') → G K g 12 cs 89 [(0, vr c0), (1, vi x1), (2, vi x2), (3, vi x3), (4, vi x4), (6, vi x6), (7, vi x7), (8, vi x8), (9, vi x9)] [] (SH0, σ) := by
  intro n
  induction n with
  | zero =>
    intro x6 x7 x8 x9 σ h
    rw [fX10_drawn_89.eq_1] at h
    cases h
  | succ n ih =>
    intro x6 x7 x8 x9 σ h
    rw [fX10_drawn_89.eq_2] at h
    refine g_iload hC dX10_drawn_89 8 rfl ?_
    refine g_iload_n hC dX10_drawn_91 3 rfl rfl ?_
    refine g_bipush hC dX10_drawn_92 bp_100 ?_
    refine g_idiv hC dX10_drawn_94 (by decide) ?_
    refine g_icmp_ge hC dX10_drawn_95 (tgt := 211) (by decide) (fun h9 => ?_) (fun h9 => ?_)
    · rw [if_pos h9] at h
      refine g_iload hC dX10_drawn_211 6 rfl ?_
      exact ret_i h hR dX10_drawn_213
    · rw [if_neg h9] at h
      refine g_iconst hC dX10_drawn_98 ok_0 ?_
      refine g_istore hC dX10_drawn_99 (Nat.le_of_ble_eq_true rfl) rfl ?_
      exact g_pick [1, 2, 3, 4, 5, 6, 7, 8, 9, 0] rfl (bX10_drawn_101 hC hcs h0 ih hR _ _ _ _ _ _ _ h)
theorem bX10_drawn_50 {K : KT} {g : GT} {cm sm : Nat} {cs : Nat × Nat} {c0 : Nat} {x1 : Int} {x2 : Int} {x3 : Int} {x4 : Int} {r : Int} {σ' : St} (hC : Ctx K g RX10 cX10_drawn 12 8 cm sm) (hcs : cs.1 ≤ cm ∧ cs.2 ≤ sm) (h0 : isO 10 c0 = true) (hR : RetI K g cX10_drawn 12 cs r (SH0, σ')) : ∀ (σ : St), fX10_drawn_50 c0 x1 x2 x3 x4 σ = some (r, σ') → G K g 12 cs 50 [(0, vr c0), (1, vi x1), (2, vi x2), (3, vi x3), (4, vi x4)] [] (SH0, σ) := by
  intro σ h
  unfold fX10_drawn_50 at h
  refine g_aload_n hC dX10_drawn_50 0 rfl rfl ?_
  refine g_iload_n hC dX10_drawn_51 2 rfl rfl ?_
  obtain ⟨⟨r1, s1⟩, e1, h⟩ := of_bind h
  try dsimp only at h
  refine s_callVi hC dX10_drawn_52 (tX10_noBytes h0 e1) miX10_noBytes mvX10_noBytes mlRX10_252 (isO_spec h0) vc_10 rfl rfl (Nat.le_of_ble_eq_true rfl) (Nat.le_of_ble_eq_true rfl) (Nat.le_of_ble_eq_true rfl) hcs ?_
  refine g_istore hC dX10_drawn_55 (Nat.le_of_ble_eq_true rfl) rfl ?_
  refine g_iload hC dX10_drawn_57 0 rfl ?_
  refine g_if_ge hC dX10_drawn_59 (tgt := 65) (by decide) (fun h9 => ?_) (fun h9 => ?_)
  · rw [if_pos h9] at h
    refine g_aload_n hC dX10_drawn_65 1 rfl rfl ?_
    refine g_aload_n hC dX10_drawn_66 1 rfl rfl ?_
    refine g_getr hC dX10_drawn_67 lfRX10_88 (isO_spec h0) (ft_10_41 h0) ?_
    obtain ⟨s2, e2, h⟩ := of_bind h
    try dsimp only at h
    refine s_callVv hC dX10_drawn_70 (tX10_keeps h0 (rf_10_41 h0) e2) miX10_keeps mvX10_keeps mlRX10_258 (isO_spec h0) vc_10 rfl rfl (Nat.le_of_ble_eq_true rfl) (Nat.le_of_ble_eq_true rfl) (Nat.le_of_ble_eq_true rfl) hcs ?_
    refine g_iload_n hC dX10_drawn_73 2 rfl rfl ?_
    refine g_istore hC dX10_drawn_74 (Nat.le_of_ble_eq_true rfl) rfl ?_
    refine g_iconst hC dX10_drawn_76 ok_0 ?_
    refine g_istore hC dX10_drawn_77 (Nat.le_of_ble_eq_true rfl) rfl ?_
    refine g_aload_n hC dX10_drawn_79 3 rfl rfl ?_
    refine g_iload_n hC dX10_drawn_80 5 rfl rfl ?_
    obtain ⟨⟨r3, s3⟩, e3, h⟩ := of_bind h
    try dsimp only at h
    refine s_callVi hC dX10_drawn_81 (tX10_listed h0 e3) miX10_listed mvX10_listed mlRX10_255 (isO_spec h0) vc_10 rfl rfl (Nat.le_of_ble_eq_true rfl) (Nat.le_of_ble_eq_true rfl) (Nat.le_of_ble_eq_true rfl) hcs ?_
    refine g_istore hC dX10_drawn_84 (Nat.le_of_ble_eq_true rfl) rfl ?_
    refine g_iconst hC dX10_drawn_86 ok_0 ?_
    refine g_istore hC dX10_drawn_87 (Nat.le_of_ble_eq_true rfl) rfl ?_
    exact g_pick [5, 6, 7, 8, 9, 3, 2, 1, 0] rfl (bX10_drawn_89 hC hcs h0 hR _ _ _ _ _ _ h)
  · rw [if_neg h9] at h
    refine g_iload hC dX10_drawn_62 0 rfl ?_
    exact ret_i h hR dX10_drawn_64
theorem bX10_drawn_0 {K : KT} {g : GT} {cm sm : Nat} {cs : Nat × Nat} {c0 : Nat} {x1 : Int} {x2 : Int} {x3 : Int} {x4 : Int} {r : Int} {σ' : St} (hC : Ctx K g RX10 cX10_drawn 12 8 cm sm) (hcs : cs.1 ≤ cm ∧ cs.2 ≤ sm) (h0 : isO 10 c0 = true) (hR : RetI K g cX10_drawn 12 cs r (SH0, σ')) : ∀ (σ : St), fX10_drawn c0 x1 x2 x3 x4 σ = some (r, σ') → G K g 12 cs 0 [(0, vr c0), (1, vi x1), (2, vi x2), (3, vi x3), (4, vi x4)] [] (SH0, σ) := by
  intro σ h
  unfold fX10_drawn at h
  refine g_iload_n hC dX10_drawn_0 2 rfl rfl ?_
  obtain ⟨⟨r1, s1⟩, e1, h⟩ := of_bind h
  try dsimp only at h
  refine s_callSi hC dX10_drawn_1 (tX10_isShelf e1) miX10_isShelf msX10_isShelf mlRX10_112 rfl rfl (Nat.le_of_ble_eq_true rfl) (Nat.le_of_ble_eq_true rfl) (Nat.le_of_ble_eq_true rfl) hcs ?_
  refine g_if_eq hC dX10_drawn_4 (tgt := 48) (by decide) (fun h9 => ?_) (fun h9 => ?_)
  · rw [if_pos h9] at h
    refine g_iconst hC dX10_drawn_48 ok_m1 ?_
    exact ret_i h hR dX10_drawn_49
  · rw [if_neg h9] at h
    refine g_iload_n hC dX10_drawn_7 3 rfl rfl ?_
    refine g_if_lt hC dX10_drawn_8 (tgt := 48) (by decide) (fun h9 => ?_) (fun h9 => ?_)
    · rw [if_pos h9] at h
      refine g_iconst hC dX10_drawn_48 ok_m1 ?_
      exact ret_i h hR dX10_drawn_49
    · rw [if_neg h9] at h
      refine g_iload_n hC dX10_drawn_11 3 rfl rfl ?_
      refine g_bipush hC dX10_drawn_12 bp_100 ?_
      refine g_idiv hC dX10_drawn_14 (by decide) ?_
      refine g_iconst hC dX10_drawn_15 ok_1 ?_
      refine g_bipush hC dX10_drawn_16 bp_30 ?_
      obtain ⟨⟨r2, s2⟩, e2, h⟩ := of_bind h
      try dsimp only at h
      refine s_callSi hC dX10_drawn_18 (tX10_within e2) miX10_within msX10_within mlRX10_101 rfl rfl (Nat.le_of_ble_eq_true rfl) (Nat.le_of_ble_eq_true rfl) (Nat.le_of_ble_eq_true rfl) hcs ?_
      refine g_if_eq hC dX10_drawn_21 (tgt := 48) (by decide) (fun h9 => ?_) (fun h9 => ?_)
      · rw [if_pos h9] at h
        refine g_iconst hC dX10_drawn_48 ok_m1 ?_
        exact ret_i h hR dX10_drawn_49
      · rw [if_neg h9] at h
        refine g_iload_n hC dX10_drawn_24 3 rfl rfl ?_
        refine g_bipush hC dX10_drawn_25 bp_100 ?_
        refine g_irem hC dX10_drawn_27 (by decide) ?_
        refine g_bipush hC dX10_drawn_28 bp_12 ?_
        refine g_icmp_gt hC dX10_drawn_30 (tgt := 48) (by decide) (fun h9 => ?_) (fun h9 => ?_)
        · rw [if_pos h9] at h
          refine g_iconst hC dX10_drawn_48 ok_m1 ?_
          exact ret_i h hR dX10_drawn_49
        · rw [if_neg h9] at h
          refine g_iload hC dX10_drawn_33 4 rfl ?_
          refine g_iconst hC dX10_drawn_35 ok_m1 ?_
          refine g_icmp_eq hC dX10_drawn_36 (tgt := 50) (by decide) (fun h9 => ?_) (fun h9 => ?_)
          · rw [if_pos h9] at h
            exact g_pick [0, 1, 2, 3, 4] rfl (bX10_drawn_50 hC hcs h0 hR _ h)
          · rw [if_neg h9] at h
            refine g_aload_n hC dX10_drawn_39 0 rfl rfl ?_
            refine g_iload hC dX10_drawn_40 4 rfl ?_
            obtain ⟨⟨r3, s3⟩, e3, h⟩ := of_bind h
            try dsimp only at h
            refine s_callVi hC dX10_drawn_42 (tX10_isOne h0 e3) miX10_isOne mvX10_isOne mlRX10_125 (isO_spec h0) vc_10 rfl rfl (Nat.le_of_ble_eq_true rfl) (Nat.le_of_ble_eq_true rfl) (Nat.le_of_ble_eq_true rfl) hcs ?_
            refine g_if_ne hC dX10_drawn_45 (tgt := 50) (by decide) (fun h9 => ?_) (fun h9 => ?_)
            · rw [if_neg h9] at h
              exact g_pick [0, 1, 2, 3, 4] rfl (bX10_drawn_50 hC hcs h0 hR _ h)
            · rw [if_pos h9] at h
              refine g_iconst hC dX10_drawn_48 ok_m1 ?_
              exact ret_i h hR dX10_drawn_49
theorem tX10_drawn {l : Launch} {g : GT} {c0 : Nat} {x1 : Int} {x2 : Int} {x3 : Int} {x4 : Int} {σ σ' : St} {r : Int} (h0 : isO 10 c0 = true) (h : fX10_drawn c0 x1 x2 x3 x4 σ = some (r, σ')) : Cn l g yX10_drawn cX10_drawn 12 (some .int) 8 0 0 [vr c0, vi x1, vi x2, vi x3, vi x4] (SH0, σ) (some (vi r)) (SH0, σ') :=
  Cn.ofI (by decide) (Nat.le_of_ble_eq_true rfl) (fun K e hC hR => (bX10_drawn_0 hC ⟨Nat.le_refl _, Nat.le_refl _⟩ h0 hR _ h))
theorem dX10_isRow_0 : decode cX10_isRow 0 = .ok (.aload_n 0, 1) := by decide +kernel
theorem dX10_isRow_1 : decode cX10_isRow 1 = .ok (.getfield 78, 3) := by decide +kernel
theorem dX10_isRow_4 : decode cX10_isRow 4 = .ok (.iload_n 1, 1) := by decide +kernel
theorem dX10_isRow_5 : decode cX10_isRow 5 = .ok (.iaload, 1) := by decide +kernel
theorem dX10_isRow_6 : decode cX10_isRow 6 = .ok (.iconst 0, 1) := by decide +kernel
theorem dX10_isRow_7 : decode cX10_isRow 7 = .ok (.iconst 4, 1) := by decide +kernel
theorem dX10_isRow_8 : decode cX10_isRow 8 = .ok (.invokestatic 101, 3) := by decide +kernel
theorem dX10_isRow_11 : decode cX10_isRow 11 = .ok (.ireturn, 1) := by decide +kernel
theorem bX10_isRow_0 {K : KT} {g : GT} {cm sm : Nat} {cs : Nat × Nat} {c0 : Nat} {x1 : Int} {r : Int} {σ' : St} (hC : Ctx K g RX10 cX10_isRow 2 1 cm sm) (hcs : cs.1 ≤ cm ∧ cs.2 ≤ sm) (h0 : isO 10 c0 = true) (hR : RetZ K g cX10_isRow 2 cs r (SH0, σ')) : ∀ (σ : St), fX10_isRow c0 x1 σ = some (r, σ') → G K g 2 cs 0 [(0, vr c0), (1, vi x1)] [] (SH0, σ) := by
  intro σ h
  unfold fX10_isRow at h
  refine g_aload_n hC dX10_isRow_0 0 rfl rfl ?_
  refine g_getr hC dX10_isRow_1 lfRX10_78 (isO_spec h0) (ft_10_38 h0) ?_
  refine g_iload_n hC dX10_isRow_4 1 rfl rfl ?_
  obtain ⟨b9, h⟩ := of_ite h
  refine g_iald hC dX10_isRow_5 (isA_spec (rf_10_38 h0)) b9 ?_
  refine g_iconst hC dX10_isRow_6 ok_0 ?_
  refine g_iconst hC dX10_isRow_7 ok_4 ?_
  obtain ⟨⟨r1, s1⟩, e1, h⟩ := of_bind h
  try dsimp only at h
  refine s_callSi hC dX10_isRow_8 (tX10_within e1) miX10_within msX10_within mlRX10_101 rfl rfl (Nat.le_of_ble_eq_true rfl) (Nat.le_of_ble_eq_true rfl) (Nat.le_of_ble_eq_true rfl) hcs ?_
  obtain ⟨b9, h⟩ := of_ite h
  exact ret_z h hR b9 dX10_isRow_11
theorem tX10_isRow {l : Launch} {g : GT} {c0 : Nat} {x1 : Int} {σ σ' : St} {r : Int} (h0 : isO 10 c0 = true) (h : fX10_isRow c0 x1 σ = some (r, σ')) : Cn l g yX10_isRow cX10_isRow 2 (some .boolean) 1 0 0 [vr c0, vi x1] (SH0, σ) (some (vi r)) (SH0, σ') :=
  Cn.ofZ (by decide) (Nat.le_of_ble_eq_true rfl) (fun K e hC hR => (bX10_isRow_0 hC ⟨Nat.le_refl _, Nat.le_refl _⟩ h0 hR _ h))
theorem dX10_element_0 : decode cX10_element 0 = .ok (.iload_n 1, 1) := by decide +kernel
theorem dX10_element_1 : decode cX10_element 1 = .ok (.invokestatic 112, 3) := by decide +kernel
theorem dX10_element_4 : decode cX10_element 4 = .ok (.ifCond .eq 41, 3) := by decide +kernel
theorem dX10_element_7 : decode cX10_element 7 = .ok (.aload_n 0, 1) := by decide +kernel
theorem dX10_element_8 : decode cX10_element 8 = .ok (.iload_n 1, 1) := by decide +kernel
theorem dX10_element_9 : decode cX10_element 9 = .ok (.invokevirtual 351, 3) := by decide +kernel
theorem dX10_element_12 : decode cX10_element 12 = .ok (.ifCond .eq 33, 3) := by decide +kernel
theorem dX10_element_15 : decode cX10_element 15 = .ok (.iload_n 2, 1) := by decide +kernel
theorem dX10_element_16 : decode cX10_element 16 = .ok (.iconst 0, 1) := by decide +kernel
theorem dX10_element_17 : decode cX10_element 17 = .ok (.aload_n 0, 1) := by decide +kernel
theorem dX10_element_18 : decode cX10_element 18 = .ok (.getfield 81, 3) := by decide +kernel
theorem dX10_element_21 : decode cX10_element 21 = .ok (.iload_n 1, 1) := by decide +kernel
theorem dX10_element_22 : decode cX10_element 22 = .ok (.iaload, 1) := by decide +kernel
theorem dX10_element_23 : decode cX10_element 23 = .ok (.iconst 1, 1) := by decide +kernel
theorem dX10_element_24 : decode cX10_element 24 = .ok (.isub, 1) := by decide +kernel
theorem dX10_element_25 : decode cX10_element 25 = .ok (.invokestatic 101, 3) := by decide +kernel
theorem dX10_element_28 : decode cX10_element 28 = .ok (.ifCond .eq 17, 3) := by decide +kernel
theorem dX10_element_31 : decode cX10_element 31 = .ok (.aload_n 0, 1) := by decide +kernel
theorem dX10_element_32 : decode cX10_element 32 = .ok (.getfield 84, 3) := by decide +kernel
theorem dX10_element_35 : decode cX10_element 35 = .ok (.bipush 60, 2) := by decide +kernel
theorem dX10_element_37 : decode cX10_element 37 = .ok (.iload_n 1, 1) := by decide +kernel
theorem dX10_element_38 : decode cX10_element 38 = .ok (.imul, 1) := by decide +kernel
theorem dX10_element_39 : decode cX10_element 39 = .ok (.iload_n 2, 1) := by decide +kernel
theorem dX10_element_40 : decode cX10_element 40 = .ok (.iadd, 1) := by decide +kernel
theorem dX10_element_41 : decode cX10_element 41 = .ok (.laload, 1) := by decide +kernel
theorem dX10_element_42 : decode cX10_element 42 = .ok (.goto 6, 3) := by decide +kernel
theorem dX10_element_45 : decode cX10_element 45 = .ok (.ldc2_w 358, 3) := by decide +kernel
theorem dX10_element_48 : decode cX10_element 48 = .ok (.lreturn, 1) := by decide +kernel
theorem bX10_element_0 {K : KT} {g : GT} {cm sm : Nat} {cs : Nat × Nat} {c0 : Nat} {x1 : Int} {x2 : Int} {r : Int} {σ' : St} (hC : Ctx K g RX10 cX10_element 3 2 cm sm) (hcs : cs.1 ≤ cm ∧ cs.2 ≤ sm) (h0 : isO 10 c0 = true) (hR : RetL K g cX10_element 3 cs r (SH0, σ')) : ∀ (σ : St), fX10_element c0 x1 x2 σ = some (r, σ') → G K g 3 cs 0 [(0, vr c0), (1, vi x1), (2, vi x2)] [] (SH0, σ) := by
  intro σ h
  unfold fX10_element at h
  refine g_iload_n hC dX10_element_0 1 rfl rfl ?_
  obtain ⟨⟨r1, s1⟩, e1, h⟩ := of_bind h
  try dsimp only at h
  refine s_callSi hC dX10_element_1 (tX10_isShelf e1) miX10_isShelf msX10_isShelf mlRX10_112 rfl rfl (Nat.le_of_ble_eq_true rfl) (Nat.le_of_ble_eq_true rfl) (Nat.le_of_ble_eq_true rfl) hcs ?_
  refine g_if_eq hC dX10_element_4 (tgt := 45) (by decide) (fun h9 => ?_) (fun h9 => ?_)
  · rw [if_pos h9] at h
    refine g_ldc2 hC dX10_element_45 kRX10_358 ?_
    exact ret_l h hR dX10_element_48
  · rw [if_neg h9] at h
    refine g_aload_n hC dX10_element_7 0 rfl rfl ?_
    refine g_iload_n hC dX10_element_8 1 rfl rfl ?_
    obtain ⟨⟨r2, s2⟩, e2, h⟩ := of_bind h
    try dsimp only at h
    refine s_callVi hC dX10_element_9 (tX10_isRow h0 e2) miX10_isRow mvX10_isRow mlRX10_351 (isO_spec h0) vc_10 rfl rfl (Nat.le_of_ble_eq_true rfl) (Nat.le_of_ble_eq_true rfl) (Nat.le_of_ble_eq_true rfl) hcs ?_
    refine g_if_eq hC dX10_element_12 (tgt := 45) (by decide) (fun h9 => ?_) (fun h9 => ?_)
    · rw [if_pos h9] at h
      refine g_ldc2 hC dX10_element_45 kRX10_358 ?_
      exact ret_l h hR dX10_element_48
    · rw [if_neg h9] at h
      refine g_iload_n hC dX10_element_15 2 rfl rfl ?_
      refine g_iconst hC dX10_element_16 ok_0 ?_
      refine g_aload_n hC dX10_element_17 0 rfl rfl ?_
      refine g_getr hC dX10_element_18 lfRX10_81 (isO_spec h0) (ft_10_39 h0) ?_
      refine g_iload_n hC dX10_element_21 1 rfl rfl ?_
      obtain ⟨b9, h⟩ := of_ite h
      refine g_iald hC dX10_element_22 (isA_spec (rf_10_39 h0)) b9 ?_
      refine g_iconst hC dX10_element_23 ok_1 ?_
      refine g_isub hC dX10_element_24 ?_
      obtain ⟨⟨r3, s3⟩, e3, h⟩ := of_bind h
      try dsimp only at h
      refine s_callSi hC dX10_element_25 (tX10_within e3) miX10_within msX10_within mlRX10_101 rfl rfl (Nat.le_of_ble_eq_true rfl) (Nat.le_of_ble_eq_true rfl) (Nat.le_of_ble_eq_true rfl) hcs ?_
      refine g_if_eq hC dX10_element_28 (tgt := 45) (by decide) (fun h9 => ?_) (fun h9 => ?_)
      · rw [if_pos h9] at h
        refine g_ldc2 hC dX10_element_45 kRX10_358 ?_
        exact ret_l h hR dX10_element_48
      · rw [if_neg h9] at h
        refine g_aload_n hC dX10_element_31 0 rfl rfl ?_
        refine g_getr hC dX10_element_32 lfRX10_84 (isO_spec h0) (ft_10_40 h0) ?_
        refine g_bipush hC dX10_element_35 bp_60 ?_
        refine g_iload_n hC dX10_element_37 1 rfl rfl ?_
        refine g_imul hC dX10_element_38 ?_
        refine g_iload_n hC dX10_element_39 2 rfl rfl ?_
        refine g_iadd hC dX10_element_40 ?_
        obtain ⟨b9, h⟩ := of_ite h
        refine g_lald hC dX10_element_41 (isA_spec (rf_10_40 h0)) b9 ?_
        refine g_goto hC dX10_element_42 (tgt := 48) (by decide) ?_
        exact ret_l h hR dX10_element_48
theorem tX10_element {l : Launch} {g : GT} {c0 : Nat} {x1 : Int} {x2 : Int} {σ σ' : St} {r : Int} (h0 : isO 10 c0 = true) (h : fX10_element c0 x1 x2 σ = some (r, σ')) : Cn l g yX10_element cX10_element 3 (some .long) 2 0 0 [vr c0, vi x1, vi x2] (SH0, σ) (some (vl r)) (SH0, σ') :=
  Cn.ofL (by decide) (Nat.le_of_ble_eq_true rfl) (fun K e hC hR => (bX10_element_0 hC ⟨Nat.le_refl _, Nat.le_refl _⟩ h0 hR _ h))
theorem dX10_examined_0 : decode cX10_examined 0 = .ok (.iload_n 1, 1) := by decide +kernel
theorem dX10_examined_1 : decode cX10_examined 1 = .ok (.ifCond .lt 34, 3) := by decide +kernel
theorem dX10_examined_4 : decode cX10_examined 4 = .ok (.aload_n 0, 1) := by decide +kernel
theorem dX10_examined_5 : decode cX10_examined 5 = .ok (.iload_n 1, 1) := by decide +kernel
theorem dX10_examined_6 : decode cX10_examined 6 = .ok (.bipush 10, 2) := by decide +kernel
theorem dX10_examined_8 : decode cX10_examined 8 = .ok (.idiv, 1) := by decide +kernel
theorem dX10_examined_9 : decode cX10_examined 9 = .ok (.invokevirtual 125, 3) := by decide +kernel
theorem dX10_examined_12 : decode cX10_examined 12 = .ok (.ifCond .eq 23, 3) := by decide +kernel
theorem dX10_examined_15 : decode cX10_examined 15 = .ok (.aload_n 0, 1) := by decide +kernel
theorem dX10_examined_16 : decode cX10_examined 16 = .ok (.iload_n 1, 1) := by decide +kernel
theorem dX10_examined_17 : decode cX10_examined 17 = .ok (.bipush 10, 2) := by decide +kernel
theorem dX10_examined_19 : decode cX10_examined 19 = .ok (.irem, 1) := by decide +kernel
theorem dX10_examined_20 : decode cX10_examined 20 = .ok (.invokevirtual 122, 3) := by decide +kernel
theorem dX10_examined_23 : decode cX10_examined 23 = .ok (.ifCond .eq 12, 3) := by decide +kernel
theorem dX10_examined_26 : decode cX10_examined 26 = .ok (.iload_n 2, 1) := by decide +kernel
theorem dX10_examined_27 : decode cX10_examined 27 = .ok (.iconst 0, 1) := by decide +kernel
theorem dX10_examined_28 : decode cX10_examined 28 = .ok (.iconst 1, 1) := by decide +kernel
theorem dX10_examined_29 : decode cX10_examined 29 = .ok (.invokestatic 101, 3) := by decide +kernel
theorem dX10_examined_32 : decode cX10_examined 32 = .ok (.ifCond .ne 5, 3) := by decide +kernel
theorem dX10_examined_35 : decode cX10_examined 35 = .ok (.iconst (-1), 1) := by decide +kernel
theorem dX10_examined_36 : decode cX10_examined 36 = .ok (.ireturn, 1) := by decide +kernel
theorem dX10_examined_37 : decode cX10_examined 37 = .ok (.aload_n 0, 1) := by decide +kernel
theorem dX10_examined_38 : decode cX10_examined 38 = .ok (.aload_n 0, 1) := by decide +kernel
theorem dX10_examined_39 : decode cX10_examined 39 = .ok (.getfield 88, 3) := by decide +kernel
theorem dX10_examined_42 : decode cX10_examined 42 = .ok (.invokevirtual 258, 3) := by decide +kernel
theorem dX10_examined_45 : decode cX10_examined 45 = .ok (.bipush (-2), 2) := by decide +kernel
theorem dX10_examined_47 : decode cX10_examined 47 = .ok (.istore_n 3, 1) := by decide +kernel
theorem dX10_examined_48 : decode cX10_examined 48 = .ok (.iconst 0, 1) := by decide +kernel
theorem dX10_examined_49 : decode cX10_examined 49 = .ok (.istore 4, 2) := by decide +kernel
theorem dX10_examined_51 : decode cX10_examined 51 = .ok (.iload 4, 2) := by decide +kernel
theorem dX10_examined_53 : decode cX10_examined 53 = .ok (.iconst 1, 1) := by decide +kernel
theorem dX10_examined_54 : decode cX10_examined 54 = .ok (.aload_n 0, 1) := by decide +kernel
theorem dX10_examined_55 : decode cX10_examined 55 = .ok (.getfield 105, 3) := by decide +kernel
theorem dX10_examined_58 : decode cX10_examined 58 = .ok (.ishl, 1) := by decide +kernel
theorem dX10_examined_59 : decode cX10_examined 59 = .ok (.if_icmp .ge 101, 3) := by decide +kernel
theorem dX10_examined_62 : decode cX10_examined 62 = .ok (.iconst 0, 1) := by decide +kernel
theorem dX10_examined_63 : decode cX10_examined 63 = .ok (.istore 5, 2) := by decide +kernel
theorem dX10_examined_65 : decode cX10_examined 65 = .ok (.iload 5, 2) := by decide +kernel
theorem dX10_examined_67 : decode cX10_examined 67 = .ok (.aload_n 0, 1) := by decide +kernel
theorem dX10_examined_68 : decode cX10_examined 68 = .ok (.getfield 105, 3) := by decide +kernel
theorem dX10_examined_71 : decode cX10_examined 71 = .ok (.if_icmp .ge 31, 3) := by decide +kernel
theorem dX10_examined_74 : decode cX10_examined 74 = .ok (.iload 4, 2) := by decide +kernel
theorem dX10_examined_76 : decode cX10_examined 76 = .ok (.iload 5, 2) := by decide +kernel
theorem dX10_examined_78 : decode cX10_examined 78 = .ok (.ishr, 1) := by decide +kernel
theorem dX10_examined_79 : decode cX10_examined 79 = .ok (.iconst 1, 1) := by decide +kernel
theorem dX10_examined_80 : decode cX10_examined 80 = .ok (.iand, 1) := by decide +kernel
theorem dX10_examined_81 : decode cX10_examined 81 = .ok (.iconst 1, 1) := by decide +kernel
theorem dX10_examined_82 : decode cX10_examined 82 = .ok (.if_icmp .ne 14, 3) := by decide +kernel
theorem dX10_examined_85 : decode cX10_examined 85 = .ok (.aload_n 0, 1) := by decide +kernel
theorem dX10_examined_86 : decode cX10_examined 86 = .ok (.getfield 24, 3) := by decide +kernel
theorem dX10_examined_89 : decode cX10_examined 89 = .ok (.bipush 28, 2) := by decide +kernel
theorem dX10_examined_91 : decode cX10_examined 91 = .ok (.iload 5, 2) := by decide +kernel
theorem dX10_examined_93 : decode cX10_examined 93 = .ok (.iadd, 1) := by decide +kernel
theorem dX10_examined_94 : decode cX10_examined 94 = .ok (.iconst 1, 1) := by decide +kernel
theorem dX10_examined_95 : decode cX10_examined 95 = .ok (.iastore, 1) := by decide +kernel
theorem dX10_examined_96 : decode cX10_examined 96 = .ok (.iinc 5 1, 3) := by decide +kernel
theorem dX10_examined_99 : decode cX10_examined 99 = .ok (.goto (-34), 3) := by decide +kernel
theorem dX10_examined_102 : decode cX10_examined 102 = .ok (.aload_n 0, 1) := by decide +kernel
theorem dX10_examined_103 : decode cX10_examined 103 = .ok (.iload_n 1, 1) := by decide +kernel
theorem dX10_examined_104 : decode cX10_examined 104 = .ok (.bipush 10, 2) := by decide +kernel
theorem dX10_examined_106 : decode cX10_examined 106 = .ok (.irem, 1) := by decide +kernel
theorem dX10_examined_107 : decode cX10_examined 107 = .ok (.invokevirtual 242, 3) := by decide +kernel
theorem dX10_examined_110 : decode cX10_examined 110 = .ok (.iload_n 1, 1) := by decide +kernel
theorem dX10_examined_111 : decode cX10_examined 111 = .ok (.bipush 10, 2) := by decide +kernel
theorem dX10_examined_113 : decode cX10_examined 113 = .ok (.idiv, 1) := by decide +kernel
theorem dX10_examined_114 : decode cX10_examined 114 = .ok (.if_icmp .ne 7, 3) := by decide +kernel
theorem dX10_examined_117 : decode cX10_examined 117 = .ok (.iconst 1, 1) := by decide +kernel
theorem dX10_examined_118 : decode cX10_examined 118 = .ok (.goto 4, 3) := by decide +kernel
theorem dX10_examined_121 : decode cX10_examined 121 = .ok (.iconst 0, 1) := by decide +kernel
theorem dX10_examined_122 : decode cX10_examined 122 = .ok (.istore 5, 2) := by decide +kernel
theorem dX10_examined_124 : decode cX10_examined 124 = .ok (.aload_n 0, 1) := by decide +kernel
theorem dX10_examined_125 : decode cX10_examined 125 = .ok (.invokevirtual 265, 3) := by decide +kernel
theorem dX10_examined_128 : decode cX10_examined 128 = .ok (.iload 5, 2) := by decide +kernel
theorem dX10_examined_130 : decode cX10_examined 130 = .ok (.ifCond .eq 24, 3) := by decide +kernel
theorem dX10_examined_133 : decode cX10_examined 133 = .ok (.iload_n 3, 1) := by decide +kernel
theorem dX10_examined_134 : decode cX10_examined 134 = .ok (.bipush (-2), 2) := by decide +kernel
theorem dX10_examined_136 : decode cX10_examined 136 = .ok (.if_icmp .eq 15, 3) := by decide +kernel
theorem dX10_examined_139 : decode cX10_examined 139 = .ok (.iload 4, 2) := by decide +kernel
theorem dX10_examined_141 : decode cX10_examined 141 = .ok (.invokestatic 276, 3) := by decide +kernel
theorem dX10_examined_144 : decode cX10_examined 144 = .ok (.iload_n 3, 1) := by decide +kernel
theorem dX10_examined_145 : decode cX10_examined 145 = .ok (.invokestatic 276, 3) := by decide +kernel
theorem dX10_examined_148 : decode cX10_examined 148 = .ok (.if_icmp .ge 6, 3) := by decide +kernel
theorem dX10_examined_151 : decode cX10_examined 151 = .ok (.iload 4, 2) := by decide +kernel
theorem dX10_examined_153 : decode cX10_examined 153 = .ok (.istore_n 3, 1) := by decide +kernel
theorem dX10_examined_154 : decode cX10_examined 154 = .ok (.iinc 4 1, 3) := by decide +kernel
theorem dX10_examined_157 : decode cX10_examined 157 = .ok (.goto (-106), 3) := by decide +kernel
theorem dX10_examined_160 : decode cX10_examined 160 = .ok (.iload_n 2, 1) := by decide +kernel
theorem dX10_examined_161 : decode cX10_examined 161 = .ok (.iconst 1, 1) := by decide +kernel
theorem dX10_examined_162 : decode cX10_examined 162 = .ok (.if_icmp .eq 9, 3) := by decide +kernel
theorem dX10_examined_165 : decode cX10_examined 165 = .ok (.iload_n 3, 1) := by decide +kernel
theorem dX10_examined_166 : decode cX10_examined 166 = .ok (.bipush (-2), 2) := by decide +kernel
theorem dX10_examined_168 : decode cX10_examined 168 = .ok (.if_icmp .ne 7, 3) := by decide +kernel
theorem dX10_examined_171 : decode cX10_examined 171 = .ok (.iload_n 3, 1) := by decide +kernel
theorem dX10_examined_172 : decode cX10_examined 172 = .ok (.goto 7, 3) := by decide +kernel
theorem dX10_examined_175 : decode cX10_examined 175 = .ok (.iload_n 3, 1) := by decide +kernel
theorem dX10_examined_176 : decode cX10_examined 176 = .ok (.invokestatic 276, 3) := by decide +kernel
theorem dX10_examined_179 : decode cX10_examined 179 = .ok (.ireturn, 1) := by decide +kernel
theorem bX10_examined_96 {K : KT} {g : GT} {cm sm : Nat} {cs : Nat × Nat} {c0 : Nat} {x1 : Int} {x2 : Int} {k51 : Int → Int → St → Option (Int × St)} {k65 : Int → Int → Int → St → Option (Int × St)} {r : Int} {σ' : St} (hC : Ctx K g RX10 cX10_examined 6 7 cm sm) (hcs : cs.1 ≤ cm ∧ cs.2 ≤ sm) (h0 : isO 10 c0 = true) (hk51 : ∀ (x3 : Int) (x4 : Int) (σ : St), k51 x3 x4 σ = some (r, σ') → G K g 6 cs 51 [(0, vr c0), (1, vi x1), (2, vi x2), (3, vi x3), (4, vi x4)] [] (SH0, σ)) (hk65 : ∀ (x3 : Int) (x4 : Int) (x5 : Int) (σ : St), k65 x3 x4 x5 σ = some (r, σ') → G K g 6 cs 65 [(0, vr c0), (1, vi x1), (2, vi x2), (3, vi x3), (4, vi x4), (5, vi x5)] [] (SH0, σ)) (hR : RetI K g cX10_examined 6 cs r (SH0, σ')) : ∀ (x3 : Int) (x4 : Int) (x5 : Int) (σ : St), fX10_examined_96 c0 x1 x2 k51 k65 x3 x4 x5 σ = some (r, σ') → G K g 6 cs 96 [(0, vr c0), (1, vi x1), (2, vi x2), (3, vi x3), (4, vi x4), (5, vi x5)] [] (SH0, σ) := by
  intro x3 x4 x5 σ h
  unfold fX10_examined_96 at h
  refine g_iinc hC dX10_examined_96 5 rfl (Nat.le_of_ble_eq_true rfl) rfl ?_
  refine g_goto hC dX10_examined_99 (tgt := 65) (by decide) ?_
  exact g_pick [1, 2, 3, 4, 5, 0] rfl (hk65 _ _ _ _ h)
theorem bX10_examined_154 {K : KT} {g : GT} {cm sm : Nat} {cs : Nat × Nat} {c0 : Nat} {x1 : Int} {x2 : Int} {k51 : Int → Int → St → Option (Int × St)} {r : Int} {σ' : St} (hC : Ctx K g RX10 cX10_examined 6 7 cm sm) (hcs : cs.1 ≤ cm ∧ cs.2 ≤ sm) (h0 : isO 10 c0 = true) (hk51 : ∀ (x3 : Int) (x4 : Int) (σ : St), k51 x3 x4 σ = some (r, σ') → G K g 6 cs 51 [(0, vr c0), (1, vi x1), (2, vi x2), (3, vi x3), (4, vi x4)] [] (SH0, σ)) (hR : RetI K g cX10_examined 6 cs r (SH0, σ')) : ∀ (x3 : Int) (x4 : Int) (σ : St), fX10_examined_154 c0 x1 x2 k51 x3 x4 σ = some (r, σ') → G K g 6 cs 154 [(0, vr c0), (1, vi x1), (2, vi x2), (3, vi x3), (4, vi x4)] [] (SH0, σ) := by
  intro x3 x4 σ h
  unfold fX10_examined_154 at h
  refine g_iinc hC dX10_examined_154 4 rfl (Nat.le_of_ble_eq_true rfl) rfl ?_
  refine g_goto hC dX10_examined_157 (tgt := 51) (by decide) ?_
  exact g_pick [1, 2, 3, 4, 0] rfl (hk51 _ _ _ h)
theorem bX10_examined_151 {K : KT} {g : GT} {cm sm : Nat} {cs : Nat × Nat} {c0 : Nat} {x1 : Int} {x2 : Int} {k51 : Int → Int → St → Option (Int × St)} {r : Int} {σ' : St} (hC : Ctx K g RX10 cX10_examined 6 7 cm sm) (hcs : cs.1 ≤ cm ∧ cs.2 ≤ sm) (h0 : isO 10 c0 = true) (hk51 : ∀ (x3 : Int) (x4 : Int) (σ : St), k51 x3 x4 σ = some (r, σ') → G K g 6 cs 51 [(0, vr c0), (1, vi x1), (2, vi x2), (3, vi x3), (4, vi x4)] [] (SH0, σ)) (hR : RetI K g cX10_examined 6 cs r (SH0, σ')) : ∀ (x4 : Int) (σ : St), fX10_examined_151 c0 x1 x2 k51 x4 σ = some (r, σ') → G K g 6 cs 151 [(0, vr c0), (1, vi x1), (2, vi x2), (4, vi x4)] [] (SH0, σ) := by
  intro x4 σ h
  unfold fX10_examined_151 at h
  refine g_iload hC dX10_examined_151 3 rfl ?_
  refine g_istore_n hC dX10_examined_153 rfl (Nat.le_of_ble_eq_true rfl) rfl ?_
  exact g_pick [1, 2, 3, 0, 4] rfl (bX10_examined_154 hC hcs h0 hk51 hR _ _ _ h)
theorem bX10_examined_122 {K : KT} {g : GT} {cm sm : Nat} {cs : Nat × Nat} {c0 : Nat} {x1 : Int} {x2 : Int} {k51 : Int → Int → St → Option (Int × St)} {r : Int} {σ' : St} (hC : Ctx K g RX10 cX10_examined 6 7 cm sm) (hcs : cs.1 ≤ cm ∧ cs.2 ≤ sm) (h0 : isO 10 c0 = true) (hk51 : ∀ (x3 : Int) (x4 : Int) (σ : St), k51 x3 x4 σ = some (r, σ') → G K g 6 cs 51 [(0, vr c0), (1, vi x1), (2, vi x2), (3, vi x3), (4, vi x4)] [] (SH0, σ)) (hR : RetI K g cX10_examined 6 cs r (SH0, σ')) : ∀ (x3 : Int) (x4 : Int) (y0 : Int) (σ : St), fX10_examined_122 c0 x1 x2 k51 x3 x4 y0 σ = some (r, σ') → G K g 6 cs 122 [(0, vr c0), (1, vi x1), (2, vi x2), (3, vi x3), (4, vi x4)] [vi y0] (SH0, σ) := by
  intro x3 x4 y0 σ h
  unfold fX10_examined_122 at h
  refine g_istore hC dX10_examined_122 (Nat.le_of_ble_eq_true rfl) rfl ?_
  refine g_aload_n hC dX10_examined_124 1 rfl rfl ?_
  obtain ⟨s1, e1, h⟩ := of_bind h
  try dsimp only at h
  refine s_callVv hC dX10_examined_125 (tX10_laysBack_ h0 e1) miX10_laysBack_ mvX10_laysBack_ mlRX10_265 (isO_spec h0) vc_10 rfl rfl (Nat.le_of_ble_eq_true rfl) (Nat.le_of_ble_eq_true rfl) (Nat.le_of_ble_eq_true rfl) hcs ?_
  refine g_iload hC dX10_examined_128 0 rfl ?_
  refine g_if_eq hC dX10_examined_130 (tgt := 154) (by decide) (fun h9 => ?_) (fun h9 => ?_)
  · rw [if_pos h9] at h
    exact g_pick [1, 2, 3, 4, 5] rfl (bX10_examined_154 hC hcs h0 hk51 hR _ _ _ h)
  · rw [if_neg h9] at h
    refine g_iload_n hC dX10_examined_133 4 rfl rfl ?_
    refine g_bipush hC dX10_examined_134 bp_m2 ?_
    refine g_icmp_eq hC dX10_examined_136 (tgt := 151) (by decide) (fun h9 => ?_) (fun h9 => ?_)
    · rw [if_pos h9] at h
      exact g_pick [1, 2, 3, 5] rfl (bX10_examined_151 hC hcs h0 hk51 hR _ _ h)
    · rw [if_neg h9] at h
      refine g_iload hC dX10_examined_139 5 rfl ?_
      obtain ⟨⟨r2, s2⟩, e2, h⟩ := of_bind h
      try dsimp only at h
      refine s_callSi hC dX10_examined_141 (tJ6_bitCount_0f7a4 e2) miJ6_bitCount_0f7a4 msJ6_bitCount_0f7a4 mlRX10_276 rfl rfl (Nat.le_of_ble_eq_true rfl) (Nat.le_of_ble_eq_true rfl) (Nat.le_of_ble_eq_true rfl) hcs ?_
      refine g_iload_n hC dX10_examined_144 4 rfl rfl ?_
      obtain ⟨⟨r3, s3⟩, e3, h⟩ := of_bind h
      try dsimp only at h
      refine s_callSi hC dX10_examined_145 (tJ6_bitCount_0f7a4 e3) miJ6_bitCount_0f7a4 msJ6_bitCount_0f7a4 mlRX10_276 rfl rfl (Nat.le_of_ble_eq_true rfl) (Nat.le_of_ble_eq_true rfl) (Nat.le_of_ble_eq_true rfl) hcs ?_
      refine g_icmp_ge hC dX10_examined_148 (tgt := 154) (by decide) (fun h9 => ?_) (fun h9 => ?_)
      · rw [if_pos h9] at h
        exact g_pick [1, 2, 3, 4, 5] rfl (bX10_examined_154 hC hcs h0 hk51 hR _ _ _ h)
      · rw [if_neg h9] at h
        exact g_pick [1, 2, 3, 5] rfl (bX10_examined_151 hC hcs h0 hk51 hR _ _ h)
theorem bX10_examined_65 {K : KT} {g : GT} {cm sm : Nat} {cs : Nat × Nat} {c0 : Nat} {x1 : Int} {x2 : Int} {k51 : Int → Int → St → Option (Int × St)} {r : Int} {σ' : St} (hC : Ctx K g RX10 cX10_examined 6 7 cm sm) (hcs : cs.1 ≤ cm ∧ cs.2 ≤ sm) (h0 : isO 10 c0 = true) (hk51 : ∀ (x3 : Int) (x4 : Int) (σ : St), k51 x3 x4 σ = some (r, σ') → G K g 6 cs 51 [(0, vr c0), (1, vi x1), (2, vi x2), (3, vi x3), (4, vi x4)] [] (SH0, σ)) (hR : RetI K g cX10_examined 6 cs r (SH0, σ')) : ∀ (n : Nat) (x3 : Int) (x4 : Int) (x5 : Int) (σ : St), fX10_examined_65 c0 x1 x2 k51 n x3 x4 x5 σ = some (r, σ') → G K g 6 cs 65 [(0, vr c0), (1, vi x1), (2, vi x2), (3, vi x3), (4, vi x4), (5, vi x5)] [] (SH0, σ) := by
  intro n
  induction n with
  | zero =>
    intro x3 x4 x5 σ h
    rw [fX10_examined_65.eq_1] at h
    cases h
  | succ n ih =>
    intro x3 x4 x5 σ h
    rw [fX10_examined_65.eq_2] at h
    refine g_iload hC dX10_examined_65 5 rfl ?_
    refine g_aload_n hC dX10_examined_67 0 rfl rfl ?_
    refine g_geti hC dX10_examined_68 lfRX10_105 (isO_spec h0) (ft_10_5 h0) ?_
    refine g_icmp_ge hC dX10_examined_71 (tgt := 102) (by decide) (fun h9 => ?_) (fun h9 => ?_)
    · rw [if_pos h9] at h
      refine g_aload_n hC dX10_examined_102 0 rfl rfl ?_
      refine g_iload_n hC dX10_examined_103 1 rfl rfl ?_
      refine g_bipush hC dX10_examined_104 bp_10 ?_
      refine g_irem hC dX10_examined_106 (by decide) ?_
      obtain ⟨⟨r1, s1⟩, e1, h⟩ := of_bind h
      try dsimp only at h
      refine s_callVi hC dX10_examined_107 (tX10_winner h0 e1) miX10_winner mvX10_winner mlRX10_242 (isO_spec h0) vc_10 rfl rfl (Nat.le_of_ble_eq_true rfl) (Nat.le_of_ble_eq_true rfl) (Nat.le_of_ble_eq_true rfl) hcs ?_
      refine g_iload_n hC dX10_examined_110 1 rfl rfl ?_
      refine g_bipush hC dX10_examined_111 bp_10 ?_
      refine g_idiv hC dX10_examined_113 (by decide) ?_
      refine g_icmp_ne hC dX10_examined_114 (tgt := 121) (by decide) (fun h9 => ?_) (fun h9 => ?_)
      · rw [if_neg h9] at h
        refine g_iconst hC dX10_examined_121 ok_0 ?_
        exact g_pick [0, 1, 2, 3, 4] rfl (bX10_examined_122 hC hcs h0 hk51 hR _ _ _ _ h)
      · rw [if_pos h9] at h
        refine g_iconst hC dX10_examined_117 ok_1 ?_
        refine g_goto hC dX10_examined_118 (tgt := 122) (by decide) ?_
        exact g_pick [0, 1, 2, 3, 4] rfl (bX10_examined_122 hC hcs h0 hk51 hR _ _ _ _ h)
    · rw [if_neg h9] at h
      refine g_iload hC dX10_examined_74 4 rfl ?_
      refine g_iload hC dX10_examined_76 5 rfl ?_
      refine g_ishr hC dX10_examined_78 ?_
      refine g_iconst hC dX10_examined_79 ok_1 ?_
      refine g_iand hC dX10_examined_80 ?_
      refine g_iconst hC dX10_examined_81 ok_1 ?_
      refine g_icmp_ne hC dX10_examined_82 (tgt := 96) (by decide) (fun h9 => ?_) (fun h9 => ?_)
      · rw [if_neg h9] at h
        exact g_pick [0, 1, 2, 3, 4, 5] rfl (bX10_examined_96 hC hcs h0 hk51 ih hR _ _ _ _ h)
      · rw [if_pos h9] at h
        refine g_aload_n hC dX10_examined_85 0 rfl rfl ?_
        refine g_getr hC dX10_examined_86 lfRX10_24 (isO_spec h0) (ft_10_6 h0) ?_
        refine g_bipush hC dX10_examined_89 bp_28 ?_
        refine g_iload hC dX10_examined_91 5 rfl ?_
        refine g_iadd hC dX10_examined_93 ?_
        refine g_iconst hC dX10_examined_94 ok_1 ?_
        obtain ⟨b9, h⟩ := of_ite h
        refine g_iast hC dX10_examined_95 (isA_spec (rf_10_6 h0)) b9 ?_
        exact g_pick [0, 1, 2, 3, 4, 5] rfl (bX10_examined_96 hC hcs h0 hk51 ih hR _ _ _ _ h)
theorem bX10_examined_51 {K : KT} {g : GT} {cm sm : Nat} {cs : Nat × Nat} {c0 : Nat} {x1 : Int} {x2 : Int} {r : Int} {σ' : St} (hC : Ctx K g RX10 cX10_examined 6 7 cm sm) (hcs : cs.1 ≤ cm ∧ cs.2 ≤ sm) (h0 : isO 10 c0 = true) (hR : RetI K g cX10_examined 6 cs r (SH0, σ')) : ∀ (n : Nat) (x3 : Int) (x4 : Int) (σ : St), fX10_examined_51 c0 x1 x2 n x3 x4 σ = some (r, σ') → G K g 6 cs 51 [(0, vr c0), (1, vi x1), (2, vi x2), (3, vi x3), (4, vi x4)] [] (SH0, σ) := by
  intro n
  induction n with
  | zero =>
    intro x3 x4 σ h
    rw [fX10_examined_51.eq_1] at h
    cases h
  | succ n ih =>
    intro x3 x4 σ h
    rw [fX10_examined_51.eq_2] at h
    refine g_iload hC dX10_examined_51 4 rfl ?_
    refine g_iconst hC dX10_examined_53 ok_1 ?_
    refine g_aload_n hC dX10_examined_54 0 rfl rfl ?_
    refine g_geti hC dX10_examined_55 lfRX10_105 (isO_spec h0) (ft_10_5 h0) ?_
    refine g_ishl hC dX10_examined_58 ?_
    refine g_icmp_ge hC dX10_examined_59 (tgt := 160) (by decide) (fun h9 => ?_) (fun h9 => ?_)
    · rw [if_pos h9] at h
      refine g_iload_n hC dX10_examined_160 2 rfl rfl ?_
      refine g_iconst hC dX10_examined_161 ok_1 ?_
      refine g_icmp_eq hC dX10_examined_162 (tgt := 171) (by decide) (fun h9 => ?_) (fun h9 => ?_)
      · rw [if_pos h9] at h
        refine g_iload_n hC dX10_examined_171 3 rfl rfl ?_
        refine g_goto hC dX10_examined_172 (tgt := 179) (by decide) ?_
        exact ret_i h hR dX10_examined_179
      · rw [if_neg h9] at h
        refine g_iload_n hC dX10_examined_165 3 rfl rfl ?_
        refine g_bipush hC dX10_examined_166 bp_m2 ?_
        refine g_icmp_ne hC dX10_examined_168 (tgt := 175) (by decide) (fun h9 => ?_) (fun h9 => ?_)
        · rw [if_neg h9] at h
          refine g_iload_n hC dX10_examined_175 3 rfl rfl ?_
          obtain ⟨⟨r1, s1⟩, e1, h⟩ := of_bind h
          try dsimp only at h
          refine s_callSi hC dX10_examined_176 (tJ6_bitCount_0f7a4 e1) miJ6_bitCount_0f7a4 msJ6_bitCount_0f7a4 mlRX10_276 rfl rfl (Nat.le_of_ble_eq_true rfl) (Nat.le_of_ble_eq_true rfl) (Nat.le_of_ble_eq_true rfl) hcs ?_
          exact ret_i h hR dX10_examined_179
        · rw [if_pos h9] at h
          refine g_iload_n hC dX10_examined_171 3 rfl rfl ?_
          refine g_goto hC dX10_examined_172 (tgt := 179) (by decide) ?_
          exact ret_i h hR dX10_examined_179
    · rw [if_neg h9] at h
      refine g_iconst hC dX10_examined_62 ok_0 ?_
      refine g_istore hC dX10_examined_63 (Nat.le_of_ble_eq_true rfl) rfl ?_
      exact g_pick [1, 2, 3, 4, 5, 0] rfl (bX10_examined_65 hC hcs h0 ih hR _ _ _ _ _ h)
theorem bX10_examined_0 {K : KT} {g : GT} {cm sm : Nat} {cs : Nat × Nat} {c0 : Nat} {x1 : Int} {x2 : Int} {r : Int} {σ' : St} (hC : Ctx K g RX10 cX10_examined 6 7 cm sm) (hcs : cs.1 ≤ cm ∧ cs.2 ≤ sm) (h0 : isO 10 c0 = true) (hR : RetI K g cX10_examined 6 cs r (SH0, σ')) : ∀ (σ : St), fX10_examined c0 x1 x2 σ = some (r, σ') → G K g 6 cs 0 [(0, vr c0), (1, vi x1), (2, vi x2)] [] (SH0, σ) := by
  intro σ h
  unfold fX10_examined at h
  refine g_iload_n hC dX10_examined_0 1 rfl rfl ?_
  refine g_if_lt hC dX10_examined_1 (tgt := 35) (by decide) (fun h9 => ?_) (fun h9 => ?_)
  · rw [if_pos h9] at h
    refine g_iconst hC dX10_examined_35 ok_m1 ?_
    exact ret_i h hR dX10_examined_36
  · rw [if_neg h9] at h
    refine g_aload_n hC dX10_examined_4 0 rfl rfl ?_
    refine g_iload_n hC dX10_examined_5 1 rfl rfl ?_
    refine g_bipush hC dX10_examined_6 bp_10 ?_
    refine g_idiv hC dX10_examined_8 (by decide) ?_
    obtain ⟨⟨r1, s1⟩, e1, h⟩ := of_bind h
    try dsimp only at h
    refine s_callVi hC dX10_examined_9 (tX10_isOne h0 e1) miX10_isOne mvX10_isOne mlRX10_125 (isO_spec h0) vc_10 rfl rfl (Nat.le_of_ble_eq_true rfl) (Nat.le_of_ble_eq_true rfl) (Nat.le_of_ble_eq_true rfl) hcs ?_
    refine g_if_eq hC dX10_examined_12 (tgt := 35) (by decide) (fun h9 => ?_) (fun h9 => ?_)
    · rw [if_pos h9] at h
      refine g_iconst hC dX10_examined_35 ok_m1 ?_
      exact ret_i h hR dX10_examined_36
    · rw [if_neg h9] at h
      refine g_aload_n hC dX10_examined_15 0 rfl rfl ?_
      refine g_iload_n hC dX10_examined_16 1 rfl rfl ?_
      refine g_bipush hC dX10_examined_17 bp_10 ?_
      refine g_irem hC dX10_examined_19 (by decide) ?_
      obtain ⟨⟨r2, s2⟩, e2, h⟩ := of_bind h
      try dsimp only at h
      refine s_callVi hC dX10_examined_20 (tX10_isThing h0 e2) miX10_isThing mvX10_isThing mlRX10_122 (isO_spec h0) vc_10 rfl rfl (Nat.le_of_ble_eq_true rfl) (Nat.le_of_ble_eq_true rfl) (Nat.le_of_ble_eq_true rfl) hcs ?_
      refine g_if_eq hC dX10_examined_23 (tgt := 35) (by decide) (fun h9 => ?_) (fun h9 => ?_)
      · rw [if_pos h9] at h
        refine g_iconst hC dX10_examined_35 ok_m1 ?_
        exact ret_i h hR dX10_examined_36
      · rw [if_neg h9] at h
        refine g_iload_n hC dX10_examined_26 2 rfl rfl ?_
        refine g_iconst hC dX10_examined_27 ok_0 ?_
        refine g_iconst hC dX10_examined_28 ok_1 ?_
        obtain ⟨⟨r3, s3⟩, e3, h⟩ := of_bind h
        try dsimp only at h
        refine s_callSi hC dX10_examined_29 (tX10_within e3) miX10_within msX10_within mlRX10_101 rfl rfl (Nat.le_of_ble_eq_true rfl) (Nat.le_of_ble_eq_true rfl) (Nat.le_of_ble_eq_true rfl) hcs ?_
        refine g_if_ne hC dX10_examined_32 (tgt := 37) (by decide) (fun h9 => ?_) (fun h9 => ?_)
        · rw [if_neg h9] at h
          refine g_aload_n hC dX10_examined_37 0 rfl rfl ?_
          refine g_aload_n hC dX10_examined_38 0 rfl rfl ?_
          refine g_getr hC dX10_examined_39 lfRX10_88 (isO_spec h0) (ft_10_41 h0) ?_
          obtain ⟨s4, e4, h⟩ := of_bind h
          try dsimp only at h
          refine s_callVv hC dX10_examined_42 (tX10_keeps h0 (rf_10_41 h0) e4) miX10_keeps mvX10_keeps mlRX10_258 (isO_spec h0) vc_10 rfl rfl (Nat.le_of_ble_eq_true rfl) (Nat.le_of_ble_eq_true rfl) (Nat.le_of_ble_eq_true rfl) hcs ?_
          refine g_bipush hC dX10_examined_45 bp_m2 ?_
          refine g_istore_n hC dX10_examined_47 rfl (Nat.le_of_ble_eq_true rfl) rfl ?_
          refine g_iconst hC dX10_examined_48 ok_0 ?_
          refine g_istore hC dX10_examined_49 (Nat.le_of_ble_eq_true rfl) rfl ?_
          exact g_pick [2, 3, 4, 1, 0] rfl (bX10_examined_51 hC hcs h0 hR _ _ _ _ h)
        · rw [if_pos h9] at h
          refine g_iconst hC dX10_examined_35 ok_m1 ?_
          exact ret_i h hR dX10_examined_36
theorem tX10_examined {l : Launch} {g : GT} {c0 : Nat} {x1 : Int} {x2 : Int} {σ σ' : St} {r : Int} (h0 : isO 10 c0 = true) (h : fX10_examined c0 x1 x2 σ = some (r, σ')) : Cn l g yX10_examined cX10_examined 6 (some .int) 7 0 0 [vr c0, vi x1, vi x2] (SH0, σ) (some (vi r)) (SH0, σ') :=
  Cn.ofI (by decide) (Nat.le_of_ble_eq_true rfl) (fun K e hC hR => (bX10_examined_0 hC ⟨Nat.le_refl _, Nat.le_refl _⟩ h0 hR _ h))
theorem dX10_feed_0 : decode cX10_feed 0 = .ok (.iload_n 1, 1) := by decide +kernel
theorem dX10_feed_1 : decode cX10_feed 1 = .ok (.iconst 0, 1) := by decide +kernel
theorem dX10_feed_2 : decode cX10_feed 2 = .ok (.sipush 255, 3) := by decide +kernel
theorem dX10_feed_5 : decode cX10_feed 5 = .ok (.invokestatic 101, 3) := by decide +kernel
theorem dX10_feed_8 : decode cX10_feed 8 = .ok (.ifCond .ne 5, 3) := by decide +kernel
theorem dX10_feed_11 : decode cX10_feed 11 = .ok (.iconst (-1), 1) := by decide +kernel
theorem dX10_feed_12 : decode cX10_feed 12 = .ok (.ireturn, 1) := by decide +kernel
theorem dX10_feed_13 : decode cX10_feed 13 = .ok (.aload_n 0, 1) := by decide +kernel
theorem dX10_feed_14 : decode cX10_feed 14 = .ok (.getfield 149, 3) := by decide +kernel
theorem dX10_feed_17 : decode cX10_feed 17 = .ok (.bipush 120, 2) := by decide +kernel
theorem dX10_feed_19 : decode cX10_feed 19 = .ok (.if_icmp .ne 6, 3) := by decide +kernel
theorem dX10_feed_22 : decode cX10_feed 22 = .ok (.bipush (-3), 2) := by decide +kernel
theorem dX10_feed_24 : decode cX10_feed 24 = .ok (.ireturn, 1) := by decide +kernel
theorem dX10_feed_25 : decode cX10_feed 25 = .ok (.aload_n 0, 1) := by decide +kernel
theorem dX10_feed_26 : decode cX10_feed 26 = .ok (.getfield 27, 3) := by decide +kernel
theorem dX10_feed_29 : decode cX10_feed 29 = .ok (.aload_n 0, 1) := by decide +kernel
theorem dX10_feed_30 : decode cX10_feed 30 = .ok (.dup, 1) := by decide +kernel
theorem dX10_feed_31 : decode cX10_feed 31 = .ok (.getfield 149, 3) := by decide +kernel
theorem dX10_feed_34 : decode cX10_feed 34 = .ok (.dup_x1, 1) := by decide +kernel
theorem dX10_feed_35 : decode cX10_feed 35 = .ok (.iconst 1, 1) := by decide +kernel
theorem dX10_feed_36 : decode cX10_feed 36 = .ok (.iadd, 1) := by decide +kernel
theorem dX10_feed_37 : decode cX10_feed 37 = .ok (.putfield 149, 3) := by decide +kernel
theorem dX10_feed_40 : decode cX10_feed 40 = .ok (.iload_n 1, 1) := by decide +kernel
theorem dX10_feed_41 : decode cX10_feed 41 = .ok (.iastore, 1) := by decide +kernel
theorem dX10_feed_42 : decode cX10_feed 42 = .ok (.aload_n 0, 1) := by decide +kernel
theorem dX10_feed_43 : decode cX10_feed 43 = .ok (.getfield 149, 3) := by decide +kernel
theorem dX10_feed_46 : decode cX10_feed 46 = .ok (.ireturn, 1) := by decide +kernel
theorem bX10_feed_0 {K : KT} {g : GT} {cm sm : Nat} {cs : Nat × Nat} {c0 : Nat} {x1 : Int} {r : Int} {σ' : St} (hC : Ctx K g RX10 cX10_feed 2 1 cm sm) (hcs : cs.1 ≤ cm ∧ cs.2 ≤ sm) (h0 : isO 10 c0 = true) (hR : RetI K g cX10_feed 2 cs r (SH0, σ')) : ∀ (σ : St), fX10_feed c0 x1 σ = some (r, σ') → G K g 2 cs 0 [(0, vr c0), (1, vi x1)] [] (SH0, σ) := by
  intro σ h
  unfold fX10_feed at h
  refine g_iload_n hC dX10_feed_0 1 rfl rfl ?_
  refine g_iconst hC dX10_feed_1 ok_0 ?_
  refine g_sipush hC dX10_feed_2 sp_255 ?_
  obtain ⟨⟨r1, s1⟩, e1, h⟩ := of_bind h
  try dsimp only at h
  refine s_callSi hC dX10_feed_5 (tX10_within e1) miX10_within msX10_within mlRX10_101 rfl rfl (Nat.le_of_ble_eq_true rfl) (Nat.le_of_ble_eq_true rfl) (Nat.le_of_ble_eq_true rfl) hcs ?_
  refine g_if_ne hC dX10_feed_8 (tgt := 13) (by decide) (fun h9 => ?_) (fun h9 => ?_)
  · rw [if_neg h9] at h
    refine g_aload_n hC dX10_feed_13 0 rfl rfl ?_
    refine g_geti hC dX10_feed_14 lfRX10_149 (isO_spec h0) (ft_10_7 h0) ?_
    refine g_bipush hC dX10_feed_17 bp_120 ?_
    refine g_icmp_ne hC dX10_feed_19 (tgt := 25) (by decide) (fun h9 => ?_) (fun h9 => ?_)
    · rw [if_neg h9] at h
      refine g_aload_n hC dX10_feed_25 0 rfl rfl ?_
      refine g_getr hC dX10_feed_26 lfRX10_27 (isO_spec h0) (ft_10_8 h0) ?_
      refine g_aload_n hC dX10_feed_29 0 rfl rfl ?_
      refine g_dup hC dX10_feed_30 rfl ?_
      refine g_geti hC dX10_feed_31 lfRX10_149 (isO_spec h0) (ft_10_7 h0) ?_
      refine g_dup_x1 hC dX10_feed_34 rfl rfl ?_
      refine g_iconst hC dX10_feed_35 ok_1 ?_
      refine g_iadd hC dX10_feed_36 ?_
      refine g_puti hC dX10_feed_37 lfRX10_149 fp_10_7 (isO_spec h0) (ft_10_7 h0) ?_
      refine g_iload_n hC dX10_feed_40 1 rfl rfl ?_
      obtain ⟨b9, h⟩ := of_ite h
      refine g_iast hC dX10_feed_41 (isA_spec (rf_10_8 h0)) b9 ?_
      refine g_aload_n hC dX10_feed_42 0 rfl rfl ?_
      refine g_geti hC dX10_feed_43 lfRX10_149 (isO_spec h0) (ft_10_7 h0) ?_
      exact ret_i h hR dX10_feed_46
    · rw [if_pos h9] at h
      refine g_bipush hC dX10_feed_22 bp_m3 ?_
      exact ret_i h hR dX10_feed_24
  · rw [if_pos h9] at h
    refine g_iconst hC dX10_feed_11 ok_m1 ?_
    exact ret_i h hR dX10_feed_12
theorem tX10_feed {l : Launch} {g : GT} {c0 : Nat} {x1 : Int} {σ σ' : St} {r : Int} (h0 : isO 10 c0 = true) (h : fX10_feed c0 x1 σ = some (r, σ')) : Cn l g yX10_feed cX10_feed 2 (some .int) 1 0 0 [vr c0, vi x1] (SH0, σ) (some (vi r)) (SH0, σ') :=
  Cn.ofI (by decide) (Nat.le_of_ble_eq_true rfl) (fun K e hC hR => (bX10_feed_0 hC ⟨Nat.le_refl _, Nat.le_refl _⟩ h0 hR _ h))
theorem dX10_feign_0 : decode cX10_feign 0 = .ok (.iload_n 1, 1) := by decide +kernel
theorem dX10_feign_1 : decode cX10_feign 1 = .ok (.ifCond .lt 25, 3) := by decide +kernel
theorem dX10_feign_4 : decode cX10_feign 4 = .ok (.aload_n 0, 1) := by decide +kernel
theorem dX10_feign_5 : decode cX10_feign 5 = .ok (.iload_n 1, 1) := by decide +kernel
theorem dX10_feign_6 : decode cX10_feign 6 = .ok (.bipush 10, 2) := by decide +kernel
theorem dX10_feign_8 : decode cX10_feign 8 = .ok (.idiv, 1) := by decide +kernel
theorem dX10_feign_9 : decode cX10_feign 9 = .ok (.invokevirtual 125, 3) := by decide +kernel
theorem dX10_feign_12 : decode cX10_feign 12 = .ok (.ifCond .eq 14, 3) := by decide +kernel
theorem dX10_feign_15 : decode cX10_feign 15 = .ok (.aload_n 0, 1) := by decide +kernel
theorem dX10_feign_16 : decode cX10_feign 16 = .ok (.iload_n 1, 1) := by decide +kernel
theorem dX10_feign_17 : decode cX10_feign 17 = .ok (.bipush 10, 2) := by decide +kernel
theorem dX10_feign_19 : decode cX10_feign 19 = .ok (.irem, 1) := by decide +kernel
theorem dX10_feign_20 : decode cX10_feign 20 = .ok (.invokevirtual 122, 3) := by decide +kernel
theorem dX10_feign_23 : decode cX10_feign 23 = .ok (.ifCond .ne 5, 3) := by decide +kernel
theorem dX10_feign_26 : decode cX10_feign 26 = .ok (.iconst (-1), 1) := by decide +kernel
theorem dX10_feign_27 : decode cX10_feign 27 = .ok (.ireturn, 1) := by decide +kernel
theorem dX10_feign_28 : decode cX10_feign 28 = .ok (.iload_n 1, 1) := by decide +kernel
theorem dX10_feign_29 : decode cX10_feign 29 = .ok (.bipush 10, 2) := by decide +kernel
theorem dX10_feign_31 : decode cX10_feign 31 = .ok (.idiv, 1) := by decide +kernel
theorem dX10_feign_32 : decode cX10_feign 32 = .ok (.istore_n 2, 1) := by decide +kernel
theorem dX10_feign_33 : decode cX10_feign 33 = .ok (.aload_n 0, 1) := by decide +kernel
theorem dX10_feign_34 : decode cX10_feign 34 = .ok (.getfield 24, 3) := by decide +kernel
theorem dX10_feign_37 : decode cX10_feign 37 = .ok (.bipush 21, 2) := by decide +kernel
theorem dX10_feign_39 : decode cX10_feign 39 = .ok (.iload_n 2, 1) := by decide +kernel
theorem dX10_feign_40 : decode cX10_feign 40 = .ok (.iadd, 1) := by decide +kernel
theorem dX10_feign_41 : decode cX10_feign 41 = .ok (.iaload, 1) := by decide +kernel
theorem dX10_feign_42 : decode cX10_feign 42 = .ok (.istore_n 3, 1) := by decide +kernel
theorem dX10_feign_43 : decode cX10_feign 43 = .ok (.bipush (-2), 2) := by decide +kernel
theorem dX10_feign_45 : decode cX10_feign 45 = .ok (.istore 4, 2) := by decide +kernel
theorem dX10_feign_47 : decode cX10_feign 47 = .ok (.bipush 9, 2) := by decide +kernel
theorem dX10_feign_49 : decode cX10_feign 49 = .ok (.istore 5, 2) := by decide +kernel
theorem dX10_feign_51 : decode cX10_feign 51 = .ok (.iload 5, 2) := by decide +kernel
theorem dX10_feign_53 : decode cX10_feign 53 = .ok (.ifCond .lt 36, 3) := by decide +kernel
theorem dX10_feign_56 : decode cX10_feign 56 = .ok (.aload_n 0, 1) := by decide +kernel
theorem dX10_feign_57 : decode cX10_feign 57 = .ok (.getfield 24, 3) := by decide +kernel
theorem dX10_feign_60 : decode cX10_feign 60 = .ok (.bipush 21, 2) := by decide +kernel
theorem dX10_feign_62 : decode cX10_feign 62 = .ok (.iload_n 2, 1) := by decide +kernel
theorem dX10_feign_63 : decode cX10_feign 63 = .ok (.iadd, 1) := by decide +kernel
theorem dX10_feign_64 : decode cX10_feign 64 = .ok (.iload 5, 2) := by decide +kernel
theorem dX10_feign_66 : decode cX10_feign 66 = .ok (.iastore, 1) := by decide +kernel
theorem dX10_feign_67 : decode cX10_feign 67 = .ok (.aload_n 0, 1) := by decide +kernel
theorem dX10_feign_68 : decode cX10_feign 68 = .ok (.iload_n 1, 1) := by decide +kernel
theorem dX10_feign_69 : decode cX10_feign 69 = .ok (.bipush 10, 2) := by decide +kernel
theorem dX10_feign_71 : decode cX10_feign 71 = .ok (.irem, 1) := by decide +kernel
theorem dX10_feign_72 : decode cX10_feign 72 = .ok (.invokevirtual 242, 3) := by decide +kernel
theorem dX10_feign_75 : decode cX10_feign 75 = .ok (.iload_n 2, 1) := by decide +kernel
theorem dX10_feign_76 : decode cX10_feign 76 = .ok (.if_icmp .ne 7, 3) := by decide +kernel
theorem dX10_feign_79 : decode cX10_feign 79 = .ok (.iload 5, 2) := by decide +kernel
theorem dX10_feign_81 : decode cX10_feign 81 = .ok (.istore 4, 2) := by decide +kernel
theorem dX10_feign_83 : decode cX10_feign 83 = .ok (.iinc 5 (-1), 3) := by decide +kernel
theorem dX10_feign_86 : decode cX10_feign 86 = .ok (.goto (-35), 3) := by decide +kernel
theorem dX10_feign_89 : decode cX10_feign 89 = .ok (.aload_n 0, 1) := by decide +kernel
theorem dX10_feign_90 : decode cX10_feign 90 = .ok (.getfield 24, 3) := by decide +kernel
theorem dX10_feign_93 : decode cX10_feign 93 = .ok (.bipush 21, 2) := by decide +kernel
theorem dX10_feign_95 : decode cX10_feign 95 = .ok (.iload_n 2, 1) := by decide +kernel
theorem dX10_feign_96 : decode cX10_feign 96 = .ok (.iadd, 1) := by decide +kernel
theorem dX10_feign_97 : decode cX10_feign 97 = .ok (.iload_n 3, 1) := by decide +kernel
theorem dX10_feign_98 : decode cX10_feign 98 = .ok (.iastore, 1) := by decide +kernel
theorem dX10_feign_99 : decode cX10_feign 99 = .ok (.iload 4, 2) := by decide +kernel
theorem dX10_feign_101 : decode cX10_feign 101 = .ok (.ireturn, 1) := by decide +kernel
theorem bX10_feign_83 {K : KT} {g : GT} {cm sm : Nat} {cs : Nat × Nat} {c0 : Nat} {x1 : Int} {k51 : Int → Int → Int → Int → St → Option (Int × St)} {r : Int} {σ' : St} (hC : Ctx K g RX10 cX10_feign 6 7 cm sm) (hcs : cs.1 ≤ cm ∧ cs.2 ≤ sm) (h0 : isO 10 c0 = true) (hk51 : ∀ (x2 : Int) (x3 : Int) (x4 : Int) (x5 : Int) (σ : St), k51 x2 x3 x4 x5 σ = some (r, σ') → G K g 6 cs 51 [(0, vr c0), (1, vi x1), (2, vi x2), (3, vi x3), (4, vi x4), (5, vi x5)] [] (SH0, σ)) (hR : RetI K g cX10_feign 6 cs r (SH0, σ')) : ∀ (x2 : Int) (x3 : Int) (x4 : Int) (x5 : Int) (σ : St), fX10_feign_83 c0 x1 k51 x2 x3 x4 x5 σ = some (r, σ') → G K g 6 cs 83 [(0, vr c0), (1, vi x1), (2, vi x2), (3, vi x3), (4, vi x4), (5, vi x5)] [] (SH0, σ) := by
  intro x2 x3 x4 x5 σ h
  unfold fX10_feign_83 at h
  refine g_iinc hC dX10_feign_83 5 rfl (Nat.le_of_ble_eq_true rfl) rfl ?_
  refine g_goto hC dX10_feign_86 (tgt := 51) (by decide) ?_
  exact g_pick [1, 2, 3, 4, 5, 0] rfl (hk51 _ _ _ _ _ h)
theorem bX10_feign_51 {K : KT} {g : GT} {cm sm : Nat} {cs : Nat × Nat} {c0 : Nat} {x1 : Int} {r : Int} {σ' : St} (hC : Ctx K g RX10 cX10_feign 6 7 cm sm) (hcs : cs.1 ≤ cm ∧ cs.2 ≤ sm) (h0 : isO 10 c0 = true) (hR : RetI K g cX10_feign 6 cs r (SH0, σ')) : ∀ (n : Nat) (x2 : Int) (x3 : Int) (x4 : Int) (x5 : Int) (σ : St), fX10_feign_51 c0 x1 n x2 x3 x4 x5 σ = some (r, σ') → G K g 6 cs 51 [(0, vr c0), (1, vi x1), (2, vi x2), (3, vi x3), (4, vi x4), (5, vi x5)] [] (SH0, σ) := by
  intro n
  induction n with
  | zero =>
    intro x2 x3 x4 x5 σ h
    rw [fX10_feign_51.eq_1] at h
    cases h
  | succ n ih =>
    intro x2 x3 x4 x5 σ h
    rw [fX10_feign_51.eq_2] at h
    refine g_iload hC dX10_feign_51 5 rfl ?_
    refine g_if_lt hC dX10_feign_53 (tgt := 89) (by decide) (fun h9 => ?_) (fun h9 => ?_)
    · rw [if_pos h9] at h
      refine g_aload_n hC dX10_feign_89 0 rfl rfl ?_
      refine g_getr hC dX10_feign_90 lfRX10_24 (isO_spec h0) (ft_10_6 h0) ?_
      refine g_bipush hC dX10_feign_93 bp_21 ?_
      refine g_iload_n hC dX10_feign_95 2 rfl rfl ?_
      refine g_iadd hC dX10_feign_96 ?_
      refine g_iload_n hC dX10_feign_97 3 rfl rfl ?_
      obtain ⟨b9, h⟩ := of_ite h
      refine g_iast hC dX10_feign_98 (isA_spec (rf_10_6 h0)) b9 ?_
      refine g_iload hC dX10_feign_99 4 rfl ?_
      exact ret_i h hR dX10_feign_101
    · rw [if_neg h9] at h
      refine g_aload_n hC dX10_feign_56 0 rfl rfl ?_
      refine g_getr hC dX10_feign_57 lfRX10_24 (isO_spec h0) (ft_10_6 h0) ?_
      refine g_bipush hC dX10_feign_60 bp_21 ?_
      refine g_iload_n hC dX10_feign_62 2 rfl rfl ?_
      refine g_iadd hC dX10_feign_63 ?_
      refine g_iload hC dX10_feign_64 5 rfl ?_
      obtain ⟨b9, h⟩ := of_ite h
      refine g_iast hC dX10_feign_66 (isA_spec (rf_10_6 h0)) b9 ?_
      refine g_aload_n hC dX10_feign_67 0 rfl rfl ?_
      refine g_iload_n hC dX10_feign_68 1 rfl rfl ?_
      refine g_bipush hC dX10_feign_69 bp_10 ?_
      refine g_irem hC dX10_feign_71 (by decide) ?_
      obtain ⟨⟨r1, s1⟩, e1, h⟩ := of_bind h
      try dsimp only at h
      refine s_callVi hC dX10_feign_72 (tX10_winner h0 e1) miX10_winner mvX10_winner mlRX10_242 (isO_spec h0) vc_10 rfl rfl (Nat.le_of_ble_eq_true rfl) (Nat.le_of_ble_eq_true rfl) (Nat.le_of_ble_eq_true rfl) hcs ?_
      refine g_iload_n hC dX10_feign_75 2 rfl rfl ?_
      refine g_icmp_ne hC dX10_feign_76 (tgt := 83) (by decide) (fun h9 => ?_) (fun h9 => ?_)
      · rw [if_neg h9] at h
        exact g_pick [0, 1, 2, 3, 4, 5] rfl (bX10_feign_83 hC hcs h0 ih hR _ _ _ _ _ h)
      · rw [if_pos h9] at h
        refine g_iload hC dX10_feign_79 5 rfl ?_
        refine g_istore hC dX10_feign_81 (Nat.le_of_ble_eq_true rfl) rfl ?_
        exact g_pick [1, 2, 3, 4, 0, 5] rfl (bX10_feign_83 hC hcs h0 ih hR _ _ _ _ _ h)
theorem bX10_feign_0 {K : KT} {g : GT} {cm sm : Nat} {cs : Nat × Nat} {c0 : Nat} {x1 : Int} {r : Int} {σ' : St} (hC : Ctx K g RX10 cX10_feign 6 7 cm sm) (hcs : cs.1 ≤ cm ∧ cs.2 ≤ sm) (h0 : isO 10 c0 = true) (hR : RetI K g cX10_feign 6 cs r (SH0, σ')) : ∀ (σ : St), fX10_feign c0 x1 σ = some (r, σ') → G K g 6 cs 0 [(0, vr c0), (1, vi x1)] [] (SH0, σ) := by
  intro σ h
  unfold fX10_feign at h
  refine g_iload_n hC dX10_feign_0 1 rfl rfl ?_
  refine g_if_lt hC dX10_feign_1 (tgt := 26) (by decide) (fun h9 => ?_) (fun h9 => ?_)
  · rw [if_pos h9] at h
    refine g_iconst hC dX10_feign_26 ok_m1 ?_
    exact ret_i h hR dX10_feign_27
  · rw [if_neg h9] at h
    refine g_aload_n hC dX10_feign_4 0 rfl rfl ?_
    refine g_iload_n hC dX10_feign_5 1 rfl rfl ?_
    refine g_bipush hC dX10_feign_6 bp_10 ?_
    refine g_idiv hC dX10_feign_8 (by decide) ?_
    obtain ⟨⟨r1, s1⟩, e1, h⟩ := of_bind h
    try dsimp only at h
    refine s_callVi hC dX10_feign_9 (tX10_isOne h0 e1) miX10_isOne mvX10_isOne mlRX10_125 (isO_spec h0) vc_10 rfl rfl (Nat.le_of_ble_eq_true rfl) (Nat.le_of_ble_eq_true rfl) (Nat.le_of_ble_eq_true rfl) hcs ?_
    refine g_if_eq hC dX10_feign_12 (tgt := 26) (by decide) (fun h9 => ?_) (fun h9 => ?_)
    · rw [if_pos h9] at h
      refine g_iconst hC dX10_feign_26 ok_m1 ?_
      exact ret_i h hR dX10_feign_27
    · rw [if_neg h9] at h
      refine g_aload_n hC dX10_feign_15 0 rfl rfl ?_
      refine g_iload_n hC dX10_feign_16 1 rfl rfl ?_
      refine g_bipush hC dX10_feign_17 bp_10 ?_
      refine g_irem hC dX10_feign_19 (by decide) ?_
      obtain ⟨⟨r2, s2⟩, e2, h⟩ := of_bind h
      try dsimp only at h
      refine s_callVi hC dX10_feign_20 (tX10_isThing h0 e2) miX10_isThing mvX10_isThing mlRX10_122 (isO_spec h0) vc_10 rfl rfl (Nat.le_of_ble_eq_true rfl) (Nat.le_of_ble_eq_true rfl) (Nat.le_of_ble_eq_true rfl) hcs ?_
      refine g_if_ne hC dX10_feign_23 (tgt := 28) (by decide) (fun h9 => ?_) (fun h9 => ?_)
      · rw [if_neg h9] at h
        refine g_iload_n hC dX10_feign_28 1 rfl rfl ?_
        refine g_bipush hC dX10_feign_29 bp_10 ?_
        refine g_idiv hC dX10_feign_31 (by decide) ?_
        refine g_istore_n hC dX10_feign_32 rfl (Nat.le_of_ble_eq_true rfl) rfl ?_
        refine g_aload_n hC dX10_feign_33 1 rfl rfl ?_
        refine g_getr hC dX10_feign_34 lfRX10_24 (isO_spec h0) (ft_10_6 h0) ?_
        refine g_bipush hC dX10_feign_37 bp_21 ?_
        refine g_iload_n hC dX10_feign_39 0 rfl rfl ?_
        refine g_iadd hC dX10_feign_40 ?_
        obtain ⟨b9, h⟩ := of_ite h
        refine g_iald hC dX10_feign_41 (isA_spec (rf_10_6 h0)) b9 ?_
        refine g_istore_n hC dX10_feign_42 rfl (Nat.le_of_ble_eq_true rfl) rfl ?_
        refine g_bipush hC dX10_feign_43 bp_m2 ?_
        refine g_istore hC dX10_feign_45 (Nat.le_of_ble_eq_true rfl) rfl ?_
        refine g_bipush hC dX10_feign_47 bp_9 ?_
        refine g_istore hC dX10_feign_49 (Nat.le_of_ble_eq_true rfl) rfl ?_
        exact g_pick [4, 5, 3, 2, 1, 0] rfl (bX10_feign_51 hC hcs h0 hR _ _ _ _ _ _ h)
      · rw [if_pos h9] at h
        refine g_iconst hC dX10_feign_26 ok_m1 ?_
        exact ret_i h hR dX10_feign_27
theorem tX10_feign {l : Launch} {g : GT} {c0 : Nat} {x1 : Int} {σ σ' : St} {r : Int} (h0 : isO 10 c0 = true) (h : fX10_feign c0 x1 σ = some (r, σ')) : Cn l g yX10_feign cX10_feign 6 (some .int) 7 0 0 [vr c0, vi x1] (SH0, σ) (some (vi r)) (SH0, σ') :=
  Cn.ofI (by decide) (Nat.le_of_ble_eq_true rfl) (fun K e hC hR => (bX10_feign_0 hC ⟨Nat.le_refl _, Nat.le_refl _⟩ h0 hR _ h))
