/-! Walks (printed by my program). -/
theorem dX9_years_0 : decode cX9_years 0 = .ok (.aload_n 0, 1) := by decide +kernel
theorem dX9_years_1 : decode cX9_years 1 = .ok (.iload_n 1, 1) := by decide +kernel
theorem dX9_years_2 : decode cX9_years 2 = .ok (.invokevirtual 144, 3) := by decide +kernel
theorem dX9_years_5 : decode cX9_years 5 = .ok (.ifCond .eq 12, 3) := by decide +kernel
theorem dX9_years_8 : decode cX9_years 8 = .ok (.iload_n 2, 1) := by decide +kernel
theorem dX9_years_9 : decode cX9_years 9 = .ok (.ifCond .lt 8, 3) := by decide +kernel
theorem dX9_years_12 : decode cX9_years 12 = .ok (.iload_n 2, 1) := by decide +kernel
theorem dX9_years_13 : decode cX9_years 13 = .ok (.iconst 1, 1) := by decide +kernel
theorem dX9_years_14 : decode cX9_years 14 = .ok (.if_icmp .le 5, 3) := by decide +kernel
theorem dX9_years_17 : decode cX9_years 17 = .ok (.iconst (-1), 1) := by decide +kernel
theorem dX9_years_18 : decode cX9_years 18 = .ok (.ireturn, 1) := by decide +kernel
theorem dX9_years_19 : decode cX9_years 19 = .ok (.aload_n 0, 1) := by decide +kernel
theorem dX9_years_20 : decode cX9_years 20 = .ok (.getfield 28, 3) := by decide +kernel
theorem dX9_years_23 : decode cX9_years 23 = .ok (.aload_n 0, 1) := by decide +kernel
theorem dX9_years_24 : decode cX9_years 24 = .ok (.getfield 10, 3) := by decide +kernel
theorem dX9_years_27 : decode cX9_years 27 = .ok (.invokevirtual 147, 3) := by decide +kernel
theorem dX9_years_30 : decode cX9_years 30 = .ok (.aload_n 0, 1) := by decide +kernel
theorem dX9_years_31 : decode cX9_years 31 = .ok (.getfield 28, 3) := by decide +kernel
theorem dX9_years_34 : decode cX9_years 34 = .ok (.iload_n 1, 1) := by decide +kernel
theorem dX9_years_35 : decode cX9_years 35 = .ok (.bipush 10, 2) := by decide +kernel
theorem dX9_years_37 : decode cX9_years 37 = .ok (.irem, 1) := by decide +kernel
theorem dX9_years_38 : decode cX9_years 38 = .ok (.invokevirtual 151, 3) := by decide +kernel
theorem dX9_years_41 : decode cX9_years 41 = .ok (.iload_n 2, 1) := by decide +kernel
theorem dX9_years_42 : decode cX9_years 42 = .ok (.ifCond .ne 18, 3) := by decide +kernel
theorem dX9_years_45 : decode cX9_years 45 = .ok (.aload_n 0, 1) := by decide +kernel
theorem dX9_years_46 : decode cX9_years 46 = .ok (.getfield 28, 3) := by decide +kernel
theorem dX9_years_49 : decode cX9_years 49 = .ok (.getfield 155, 3) := by decide +kernel
theorem dX9_years_52 : decode cX9_years 52 = .ok (.iload_n 1, 1) := by decide +kernel
theorem dX9_years_53 : decode cX9_years 53 = .ok (.bipush 10, 2) := by decide +kernel
theorem dX9_years_55 : decode cX9_years 55 = .ok (.idiv, 1) := by decide +kernel
theorem dX9_years_56 : decode cX9_years 56 = .ok (.iaload, 1) := by decide +kernel
theorem dX9_years_57 : decode cX9_years 57 = .ok (.goto 14, 3) := by decide +kernel
theorem dX9_years_60 : decode cX9_years 60 = .ok (.aload_n 0, 1) := by decide +kernel
theorem dX9_years_61 : decode cX9_years 61 = .ok (.getfield 28, 3) := by decide +kernel
theorem dX9_years_64 : decode cX9_years 64 = .ok (.iload_n 1, 1) := by decide +kernel
theorem dX9_years_65 : decode cX9_years 65 = .ok (.bipush 10, 2) := by decide +kernel
theorem dX9_years_67 : decode cX9_years 67 = .ok (.idiv, 1) := by decide +kernel
theorem dX9_years_68 : decode cX9_years 68 = .ok (.invokevirtual 158, 3) := by decide +kernel
theorem dX9_years_71 : decode cX9_years 71 = .ok (.ireturn, 1) := by decide +kernel
theorem bX9_years_0 {K : KT} {g : GT} {cm sm : Nat} {cs : Nat × Nat} {c0 : Nat} {x1 : Int} {x2 : Int} {r : Int} {σ' : St} (hC : Ctx K g RX9 cX9_years 3 4 cm sm) (hcs : cs.1 ≤ cm ∧ cs.2 ≤ sm) (h0 : isO 9 c0 = true) (hR : RetI K g cX9_years 3 cs r (SH0, σ')) : ∀ (σ : St), fX9_years c0 x1 x2 σ = some (r, σ') → G K g 3 cs 0 [(0, vr c0), (1, vi x1), (2, vi x2)] [] (SH0, σ) := by
  intro σ h
  unfold fX9_years at h
  refine g_aload_n hC dX9_years_0 0 rfl rfl ?_
  refine g_iload_n hC dX9_years_1 1 rfl rfl ?_
  obtain ⟨⟨r1, s1⟩, e1, h⟩ := of_bind h
  try dsimp only at h
  refine s_callVi hC dX9_years_2 (tX9_isPair h0 e1) miX9_isPair mvX9_isPair mlRX9_144 (isO_spec h0) vc_9 rfl rfl (Nat.le_of_ble_eq_true rfl) (Nat.le_of_ble_eq_true rfl) (Nat.le_of_ble_eq_true rfl) hcs ?_
  refine g_if_eq hC dX9_years_5 (tgt := 17) (by decide) (fun h9 => ?_) (fun h9 => ?_)
  · rw [if_pos h9] at h
    refine g_iconst hC dX9_years_17 ok_m1 ?_
    exact ret_i h hR dX9_years_18
  · rw [if_neg h9] at h
    refine g_iload_n hC dX9_years_8 2 rfl rfl ?_
    refine g_if_lt hC dX9_years_9 (tgt := 17) (by decide) (fun h9 => ?_) (fun h9 => ?_)
    · rw [if_pos h9] at h
      refine g_iconst hC dX9_years_17 ok_m1 ?_
      exact ret_i h hR dX9_years_18
    · rw [if_neg h9] at h
      refine g_iload_n hC dX9_years_12 2 rfl rfl ?_
      refine g_iconst hC dX9_years_13 ok_1 ?_
      refine g_icmp_le hC dX9_years_14 (tgt := 19) (by decide) (fun h9 => ?_) (fun h9 => ?_)
      · rw [if_pos h9] at h
        refine g_aload_n hC dX9_years_19 0 rfl rfl ?_
        refine g_getr hC dX9_years_20 lfRX9_28 (isO_spec h0) (ft_9_2 h0) ?_
        refine g_aload_n hC dX9_years_23 0 rfl rfl ?_
        refine g_getr hC dX9_years_24 lfRX9_10 (isO_spec h0) (ft_9_0 h0) ?_
        obtain ⟨s2, e2, h⟩ := of_bind h
        try dsimp only at h
        refine s_callVv hC dX9_years_27 (tX7_begin (rf_9_2 h0) (rf_9_0 h0) e2) miX7_begin mvX7_begin mlRX9_147 (isO_spec (rf_9_2 h0)) vc_7 rfl rfl (Nat.le_of_ble_eq_true rfl) (Nat.le_of_ble_eq_true rfl) (Nat.le_of_ble_eq_true rfl) hcs ?_
        refine g_aload_n hC dX9_years_30 0 rfl rfl ?_
        refine g_getr hC dX9_years_31 lfRX9_28 (isO_spec h0) (ft_9_2 h0) ?_
        refine g_iload_n hC dX9_years_34 1 rfl rfl ?_
        refine g_bipush hC dX9_years_35 bp_10 ?_
        refine g_irem hC dX9_years_37 (by decide) ?_
        obtain ⟨s3, e3, h⟩ := of_bind h
        try dsimp only at h
        refine s_callVv hC dX9_years_38 (tX7_considers (rf_9_2 h0) e3) miX7_considers mvX7_considers mlRX9_151 (isO_spec (rf_9_2 h0)) vc_7 rfl rfl (Nat.le_of_ble_eq_true rfl) (Nat.le_of_ble_eq_true rfl) (Nat.le_of_ble_eq_true rfl) hcs ?_
        refine g_iload_n hC dX9_years_41 2 rfl rfl ?_
        refine g_if_ne hC dX9_years_42 (tgt := 60) (by decide) (fun h9 => ?_) (fun h9 => ?_)
        · rw [if_neg h9] at h
          refine g_aload_n hC dX9_years_60 0 rfl rfl ?_
          refine g_getr hC dX9_years_61 lfRX9_28 (isO_spec h0) (ft_9_2 h0) ?_
          refine g_iload_n hC dX9_years_64 1 rfl rfl ?_
          refine g_bipush hC dX9_years_65 bp_10 ?_
          refine g_idiv hC dX9_years_67 (by decide) ?_
          obtain ⟨⟨r4, s4⟩, e4, h⟩ := of_bind h
          try dsimp only at h
          refine s_callVi hC dX9_years_68 (tX7_bid (rf_9_2 h0) e4) miX7_bid mvX7_bid mlRX9_158 (isO_spec (rf_9_2 h0)) vc_7 rfl rfl (Nat.le_of_ble_eq_true rfl) (Nat.le_of_ble_eq_true rfl) (Nat.le_of_ble_eq_true rfl) hcs ?_
          exact ret_i h hR dX9_years_71
        · rw [if_pos h9] at h
          refine g_aload_n hC dX9_years_45 0 rfl rfl ?_
          refine g_getr hC dX9_years_46 lfRX9_28 (isO_spec h0) (ft_9_2 h0) ?_
          refine g_getr hC dX9_years_49 lfRX9_155 (isO_spec (rf_9_2 h0)) (ft_7_5 (rf_9_2 h0)) ?_
          refine g_iload_n hC dX9_years_52 1 rfl rfl ?_
          refine g_bipush hC dX9_years_53 bp_10 ?_
          refine g_idiv hC dX9_years_55 (by decide) ?_
          obtain ⟨b9, h⟩ := of_ite h
          refine g_iald hC dX9_years_56 (isA_spec (rf_7_5 (rf_9_2 h0))) b9 ?_
          refine g_goto hC dX9_years_57 (tgt := 71) (by decide) ?_
          exact ret_i h hR dX9_years_71
      · rw [if_neg h9] at h
        refine g_iconst hC dX9_years_17 ok_m1 ?_
        exact ret_i h hR dX9_years_18
theorem tX9_years {l : Launch} {g : GT} {c0 : Nat} {x1 : Int} {x2 : Int} {σ σ' : St} {r : Int} (h0 : isO 9 c0 = true) (h : fX9_years c0 x1 x2 σ = some (r, σ')) : Cn l g yX9_years cX9_years 3 (some .int) 4 0 0 [vr c0, vi x1, vi x2] (SH0, σ) (some (vi r)) (SH0, σ') :=
  Cn.ofI (by decide) (Nat.le_of_ble_eq_true rfl) (fun K e hC hR => (bX9_years_0 hC ⟨Nat.le_refl _, Nat.le_refl _⟩ h0 hR _ h))
