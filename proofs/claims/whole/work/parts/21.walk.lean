/-! Walks (printed by my program). -/
theorem dX10_yearsOf_0 : decode cX10_yearsOf 0 = .ok (.aload_n 0, 1) := by decide +kernel
theorem dX10_yearsOf_1 : decode cX10_yearsOf 1 = .ok (.getfield 57, 3) := by decide +kernel
theorem dX10_yearsOf_4 : decode cX10_yearsOf 4 = .ok (.iconst 0, 1) := by decide +kernel
theorem dX10_yearsOf_5 : decode cX10_yearsOf 5 = .ok (.aload_n 0, 1) := by decide +kernel
theorem dX10_yearsOf_6 : decode cX10_yearsOf 6 = .ok (.getfield 24, 3) := by decide +kernel
theorem dX10_yearsOf_9 : decode cX10_yearsOf 9 = .ok (.iload_n 1, 1) := by decide +kernel
theorem dX10_yearsOf_10 : decode cX10_yearsOf 10 = .ok (.iaload, 1) := by decide +kernel
theorem dX10_yearsOf_11 : decode cX10_yearsOf 11 = .ok (.iastore, 1) := by decide +kernel
theorem dX10_yearsOf_12 : decode cX10_yearsOf 12 = .ok (.aload_n 0, 1) := by decide +kernel
theorem dX10_yearsOf_13 : decode cX10_yearsOf 13 = .ok (.getfield 57, 3) := by decide +kernel
theorem dX10_yearsOf_16 : decode cX10_yearsOf 16 = .ok (.iconst 1, 1) := by decide +kernel
theorem dX10_yearsOf_17 : decode cX10_yearsOf 17 = .ok (.aload_n 0, 1) := by decide +kernel
theorem dX10_yearsOf_18 : decode cX10_yearsOf 18 = .ok (.getfield 24, 3) := by decide +kernel
theorem dX10_yearsOf_21 : decode cX10_yearsOf 21 = .ok (.bipush 7, 2) := by decide +kernel
theorem dX10_yearsOf_23 : decode cX10_yearsOf 23 = .ok (.iload_n 1, 1) := by decide +kernel
theorem dX10_yearsOf_24 : decode cX10_yearsOf 24 = .ok (.iadd, 1) := by decide +kernel
theorem dX10_yearsOf_25 : decode cX10_yearsOf 25 = .ok (.iaload, 1) := by decide +kernel
theorem dX10_yearsOf_26 : decode cX10_yearsOf 26 = .ok (.iastore, 1) := by decide +kernel
theorem dX10_yearsOf_27 : decode cX10_yearsOf 27 = .ok (.aload_n 0, 1) := by decide +kernel
theorem dX10_yearsOf_28 : decode cX10_yearsOf 28 = .ok (.getfield 57, 3) := by decide +kernel
theorem dX10_yearsOf_31 : decode cX10_yearsOf 31 = .ok (.iconst 2, 1) := by decide +kernel
theorem dX10_yearsOf_32 : decode cX10_yearsOf 32 = .ok (.aload_n 0, 1) := by decide +kernel
theorem dX10_yearsOf_33 : decode cX10_yearsOf 33 = .ok (.getfield 24, 3) := by decide +kernel
theorem dX10_yearsOf_36 : decode cX10_yearsOf 36 = .ok (.bipush 14, 2) := by decide +kernel
theorem dX10_yearsOf_38 : decode cX10_yearsOf 38 = .ok (.iload_n 1, 1) := by decide +kernel
theorem dX10_yearsOf_39 : decode cX10_yearsOf 39 = .ok (.iadd, 1) := by decide +kernel
theorem dX10_yearsOf_40 : decode cX10_yearsOf 40 = .ok (.iaload, 1) := by decide +kernel
theorem dX10_yearsOf_41 : decode cX10_yearsOf 41 = .ok (.iastore, 1) := by decide +kernel
theorem dX10_yearsOf_42 : decode cX10_yearsOf 42 = .ok (.aload_n 0, 1) := by decide +kernel
theorem dX10_yearsOf_43 : decode cX10_yearsOf 43 = .ok (.getfield 57, 3) := by decide +kernel
theorem dX10_yearsOf_46 : decode cX10_yearsOf 46 = .ok (.iconst 3, 1) := by decide +kernel
theorem dX10_yearsOf_47 : decode cX10_yearsOf 47 = .ok (.aload_n 0, 1) := by decide +kernel
theorem dX10_yearsOf_48 : decode cX10_yearsOf 48 = .ok (.getfield 24, 3) := by decide +kernel
theorem dX10_yearsOf_51 : decode cX10_yearsOf 51 = .ok (.bipush 7, 2) := by decide +kernel
theorem dX10_yearsOf_53 : decode cX10_yearsOf 53 = .ok (.iconst 5, 1) := by decide +kernel
theorem dX10_yearsOf_54 : decode cX10_yearsOf 54 = .ok (.iload_n 2, 1) := by decide +kernel
theorem dX10_yearsOf_55 : decode cX10_yearsOf 55 = .ok (.iadd, 1) := by decide +kernel
theorem dX10_yearsOf_56 : decode cX10_yearsOf 56 = .ok (.imul, 1) := by decide +kernel
theorem dX10_yearsOf_57 : decode cX10_yearsOf 57 = .ok (.iload_n 1, 1) := by decide +kernel
theorem dX10_yearsOf_58 : decode cX10_yearsOf 58 = .ok (.iadd, 1) := by decide +kernel
theorem dX10_yearsOf_59 : decode cX10_yearsOf 59 = .ok (.iaload, 1) := by decide +kernel
theorem dX10_yearsOf_60 : decode cX10_yearsOf 60 = .ok (.iastore, 1) := by decide +kernel
theorem dX10_yearsOf_61 : decode cX10_yearsOf 61 = .ok (.aload_n 0, 1) := by decide +kernel
theorem dX10_yearsOf_62 : decode cX10_yearsOf 62 = .ok (.getfield 57, 3) := by decide +kernel
theorem dX10_yearsOf_65 : decode cX10_yearsOf 65 = .ok (.iconst 4, 1) := by decide +kernel
theorem dX10_yearsOf_66 : decode cX10_yearsOf 66 = .ok (.iload_n 3, 1) := by decide +kernel
theorem dX10_yearsOf_67 : decode cX10_yearsOf 67 = .ok (.iastore, 1) := by decide +kernel
theorem dX10_yearsOf_68 : decode cX10_yearsOf 68 = .ok (.aload_n 0, 1) := by decide +kernel
theorem dX10_yearsOf_69 : decode cX10_yearsOf 69 = .ok (.getfield 57, 3) := by decide +kernel
theorem dX10_yearsOf_72 : decode cX10_yearsOf 72 = .ok (.iconst 5, 1) := by decide +kernel
theorem dX10_yearsOf_73 : decode cX10_yearsOf 73 = .ok (.aload_n 0, 1) := by decide +kernel
theorem dX10_yearsOf_74 : decode cX10_yearsOf 74 = .ok (.iload_n 1, 1) := by decide +kernel
theorem dX10_yearsOf_75 : decode cX10_yearsOf 75 = .ok (.invokevirtual 216, 3) := by decide +kernel
theorem dX10_yearsOf_78 : decode cX10_yearsOf 78 = .ok (.iastore, 1) := by decide +kernel
theorem dX10_yearsOf_79 : decode cX10_yearsOf 79 = .ok (.aload_n 0, 1) := by decide +kernel
theorem dX10_yearsOf_80 : decode cX10_yearsOf 80 = .ok (.getfield 203, 3) := by decide +kernel
theorem dX10_yearsOf_83 : decode cX10_yearsOf 83 = .ok (.ifCond .eq 10, 3) := by decide +kernel
theorem dX10_yearsOf_86 : decode cX10_yearsOf 86 = .ok (.aload_n 0, 1) := by decide +kernel
theorem dX10_yearsOf_87 : decode cX10_yearsOf 87 = .ok (.invokevirtual 219, 3) := by decide +kernel
theorem dX10_yearsOf_90 : decode cX10_yearsOf 90 = .ok (.goto 36, 3) := by decide +kernel
theorem dX10_yearsOf_93 : decode cX10_yearsOf 93 = .ok (.aload_n 0, 1) := by decide +kernel
theorem dX10_yearsOf_94 : decode cX10_yearsOf 94 = .ok (.getfield 57, 3) := by decide +kernel
theorem dX10_yearsOf_97 : decode cX10_yearsOf 97 = .ok (.iconst 0, 1) := by decide +kernel
theorem dX10_yearsOf_98 : decode cX10_yearsOf 98 = .ok (.iaload, 1) := by decide +kernel
theorem dX10_yearsOf_99 : decode cX10_yearsOf 99 = .ok (.aload_n 0, 1) := by decide +kernel
theorem dX10_yearsOf_100 : decode cX10_yearsOf 100 = .ok (.getfield 57, 3) := by decide +kernel
theorem dX10_yearsOf_103 : decode cX10_yearsOf 103 = .ok (.iconst 3, 1) := by decide +kernel
theorem dX10_yearsOf_104 : decode cX10_yearsOf 104 = .ok (.iaload, 1) := by decide +kernel
theorem dX10_yearsOf_105 : decode cX10_yearsOf 105 = .ok (.imul, 1) := by decide +kernel
theorem dX10_yearsOf_106 : decode cX10_yearsOf 106 = .ok (.aload_n 0, 1) := by decide +kernel
theorem dX10_yearsOf_107 : decode cX10_yearsOf 107 = .ok (.getfield 57, 3) := by decide +kernel
theorem dX10_yearsOf_110 : decode cX10_yearsOf 110 = .ok (.iconst 1, 1) := by decide +kernel
theorem dX10_yearsOf_111 : decode cX10_yearsOf 111 = .ok (.iaload, 1) := by decide +kernel
theorem dX10_yearsOf_112 : decode cX10_yearsOf 112 = .ok (.aload_n 0, 1) := by decide +kernel
theorem dX10_yearsOf_113 : decode cX10_yearsOf 113 = .ok (.getfield 57, 3) := by decide +kernel
theorem dX10_yearsOf_116 : decode cX10_yearsOf 116 = .ok (.iconst 2, 1) := by decide +kernel
theorem dX10_yearsOf_117 : decode cX10_yearsOf 117 = .ok (.iaload, 1) := by decide +kernel
theorem dX10_yearsOf_118 : decode cX10_yearsOf 118 = .ok (.iadd, 1) := by decide +kernel
theorem dX10_yearsOf_119 : decode cX10_yearsOf 119 = .ok (.invokestatic 222, 3) := by decide +kernel
theorem dX10_yearsOf_122 : decode cX10_yearsOf 122 = .ok (.iconst 5, 1) := by decide +kernel
theorem dX10_yearsOf_123 : decode cX10_yearsOf 123 = .ok (.iload_n 3, 1) := by decide +kernel
theorem dX10_yearsOf_124 : decode cX10_yearsOf 124 = .ok (.imul, 1) := by decide +kernel
theorem dX10_yearsOf_125 : decode cX10_yearsOf 125 = .ok (.isub, 1) := by decide +kernel
theorem dX10_yearsOf_126 : decode cX10_yearsOf 126 = .ok (.istore 4, 2) := by decide +kernel
theorem dX10_yearsOf_128 : decode cX10_yearsOf 128 = .ok (.iconst 0, 1) := by decide +kernel
theorem dX10_yearsOf_129 : decode cX10_yearsOf 129 = .ok (.bipush 99, 2) := by decide +kernel
theorem dX10_yearsOf_131 : decode cX10_yearsOf 131 = .ok (.iload 4, 2) := by decide +kernel
theorem dX10_yearsOf_133 : decode cX10_yearsOf 133 = .ok (.invokestatic 222, 3) := by decide +kernel
theorem dX10_yearsOf_136 : decode cX10_yearsOf 136 = .ok (.invokestatic 227, 3) := by decide +kernel
theorem dX10_yearsOf_139 : decode cX10_yearsOf 139 = .ok (.ireturn, 1) := by decide +kernel
theorem bX10_yearsOf_126 {K : KT} {g : GT} {cm sm : Nat} {cs : Nat × Nat} {c0 : Nat} {x1 : Int} {x2 : Int} {x3 : Int} {r : Int} {σ' : St} (hC : Ctx K g RX10 cX10_yearsOf 5 3 cm sm) (hcs : cs.1 ≤ cm ∧ cs.2 ≤ sm) (h0 : isO 10 c0 = true) (hR : RetI K g cX10_yearsOf 5 cs r (SH0, σ')) : ∀ (y0 : Int) (σ : St), fX10_yearsOf_126 c0 x1 x2 x3 y0 σ = some (r, σ') → G K g 5 cs 126 [(0, vr c0), (1, vi x1), (2, vi x2), (3, vi x3)] [vi y0] (SH0, σ) := by
  intro y0 σ h
  unfold fX10_yearsOf_126 at h
  refine g_istore hC dX10_yearsOf_126 (Nat.le_of_ble_eq_true rfl) rfl ?_
  refine g_iconst hC dX10_yearsOf_128 ok_0 ?_
  refine g_bipush hC dX10_yearsOf_129 bp_99 ?_
  refine g_iload hC dX10_yearsOf_131 0 rfl ?_
  refine g_min hC dX10_yearsOf_133 lmRX10_222 mn_1 mn_2 mn_3 (Nat.le_of_ble_eq_true rfl) (Nat.le_of_ble_eq_true rfl) hcs ?_
  refine g_max hC dX10_yearsOf_136 lmRX10_227 mx_1 mn_2 mx_3 (Nat.le_of_ble_eq_true rfl) (Nat.le_of_ble_eq_true rfl) hcs ?_
  exact ret_i h hR dX10_yearsOf_139
theorem bX10_yearsOf_68 {K : KT} {g : GT} {cm sm : Nat} {cs : Nat × Nat} {c0 : Nat} {x1 : Int} {x2 : Int} {x3 : Int} {r : Int} {σ' : St} (hC : Ctx K g RX10 cX10_yearsOf 5 3 cm sm) (hcs : cs.1 ≤ cm ∧ cs.2 ≤ sm) (h0 : isO 10 c0 = true) (hR : RetI K g cX10_yearsOf 5 cs r (SH0, σ')) : ∀ (σ : St), fX10_yearsOf_68 c0 x1 x2 x3 σ = some (r, σ') → G K g 5 cs 68 [(0, vr c0), (1, vi x1), (2, vi x2), (3, vi x3)] [] (SH0, σ) := by
  intro σ h
  unfold fX10_yearsOf_68 at h
  refine g_aload_n hC dX10_yearsOf_68 0 rfl rfl ?_
  refine g_getr hC dX10_yearsOf_69 lfRX10_57 (isO_spec h0) (ft_10_24 h0) ?_
  refine g_iconst hC dX10_yearsOf_72 ok_5 ?_
  refine g_aload_n hC dX10_yearsOf_73 0 rfl rfl ?_
  refine g_iload_n hC dX10_yearsOf_74 1 rfl rfl ?_
  obtain ⟨⟨r1, s1⟩, e1, h⟩ := of_bind h
  try dsimp only at h
  refine s_callVi hC dX10_yearsOf_75 (tX10_missing h0 e1) miX10_missing mvX10_missing mlRX10_216 (isO_spec h0) vc_10 rfl rfl (Nat.le_of_ble_eq_true rfl) (Nat.le_of_ble_eq_true rfl) (Nat.le_of_ble_eq_true rfl) hcs ?_
  obtain ⟨b9, h⟩ := of_ite h
  refine g_iast hC dX10_yearsOf_78 (isA_spec (rf_10_24 h0)) b9 ?_
  refine g_aload_n hC dX10_yearsOf_79 0 rfl rfl ?_
  refine g_getz hC dX10_yearsOf_80 lfRX10_203 (isO_spec h0) (ft_10_9 h0) ?_
  refine g_if_eq hC dX10_yearsOf_83 (tgt := 93) (by decide) (fun h9 => ?_) (fun h9 => ?_)
  · rw [if_pos h9] at h
    refine g_aload_n hC dX10_yearsOf_93 0 rfl rfl ?_
    refine g_getr hC dX10_yearsOf_94 lfRX10_57 (isO_spec h0) (ft_10_24 h0) ?_
    refine g_iconst hC dX10_yearsOf_97 ok_0 ?_
    obtain ⟨b9, h⟩ := of_ite h
    refine g_iald hC dX10_yearsOf_98 (isA_spec (rf_10_24 h0)) b9 ?_
    refine g_aload_n hC dX10_yearsOf_99 0 rfl rfl ?_
    refine g_getr hC dX10_yearsOf_100 lfRX10_57 (isO_spec h0) (ft_10_24 h0) ?_
    refine g_iconst hC dX10_yearsOf_103 ok_3 ?_
    obtain ⟨b9, h⟩ := of_ite h
    refine g_iald hC dX10_yearsOf_104 (isA_spec (rf_10_24 h0)) b9 ?_
    refine g_imul hC dX10_yearsOf_105 ?_
    refine g_aload_n hC dX10_yearsOf_106 0 rfl rfl ?_
    refine g_getr hC dX10_yearsOf_107 lfRX10_57 (isO_spec h0) (ft_10_24 h0) ?_
    refine g_iconst hC dX10_yearsOf_110 ok_1 ?_
    obtain ⟨b9, h⟩ := of_ite h
    refine g_iald hC dX10_yearsOf_111 (isA_spec (rf_10_24 h0)) b9 ?_
    refine g_aload_n hC dX10_yearsOf_112 0 rfl rfl ?_
    refine g_getr hC dX10_yearsOf_113 lfRX10_57 (isO_spec h0) (ft_10_24 h0) ?_
    refine g_iconst hC dX10_yearsOf_116 ok_2 ?_
    obtain ⟨b9, h⟩ := of_ite h
    refine g_iald hC dX10_yearsOf_117 (isA_spec (rf_10_24 h0)) b9 ?_
    refine g_iadd hC dX10_yearsOf_118 ?_
    refine g_min hC dX10_yearsOf_119 lmRX10_222 mn_1 mn_2 mn_3 (Nat.le_of_ble_eq_true rfl) (Nat.le_of_ble_eq_true rfl) hcs ?_
    refine g_iconst hC dX10_yearsOf_122 ok_5 ?_
    refine g_iload_n hC dX10_yearsOf_123 3 rfl rfl ?_
    refine g_imul hC dX10_yearsOf_124 ?_
    refine g_isub hC dX10_yearsOf_125 ?_
    exact g_pick [0, 1, 2, 3] rfl (bX10_yearsOf_126 hC hcs h0 hR _ _ h)
  · rw [if_neg h9] at h
    refine g_aload_n hC dX10_yearsOf_86 0 rfl rfl ?_
    obtain ⟨⟨r2, s2⟩, e2, h⟩ := of_bind h
    try dsimp only at h
    refine s_callVi hC dX10_yearsOf_87 (tX10_byLaw h0 e2) miX10_byLaw mvX10_byLaw mlRX10_219 (isO_spec h0) vc_10 rfl rfl (Nat.le_of_ble_eq_true rfl) (Nat.le_of_ble_eq_true rfl) (Nat.le_of_ble_eq_true rfl) hcs ?_
    refine g_goto hC dX10_yearsOf_90 (tgt := 126) (by decide) ?_
    exact g_pick [0, 1, 2, 3] rfl (bX10_yearsOf_126 hC hcs h0 hR _ _ h)
theorem bX10_yearsOf_61 {K : KT} {g : GT} {cm sm : Nat} {cs : Nat × Nat} {c0 : Nat} {x1 : Int} {x2 : Int} {x3 : Int} {r : Int} {σ' : St} (hC : Ctx K g RX10 cX10_yearsOf 5 3 cm sm) (hcs : cs.1 ≤ cm ∧ cs.2 ≤ sm) (h0 : isO 10 c0 = true) (hR : RetI K g cX10_yearsOf 5 cs r (SH0, σ')) : ∀ (σ : St), fX10_yearsOf_61 c0 x1 x2 x3 σ = some (r, σ') → G K g 5 cs 61 [(0, vr c0), (1, vi x1), (2, vi x2), (3, vi x3)] [] (SH0, σ) := by
  intro σ h
  unfold fX10_yearsOf_61 at h
  refine g_aload_n hC dX10_yearsOf_61 0 rfl rfl ?_
  refine g_getr hC dX10_yearsOf_62 lfRX10_57 (isO_spec h0) (ft_10_24 h0) ?_
  refine g_iconst hC dX10_yearsOf_65 ok_4 ?_
  refine g_iload_n hC dX10_yearsOf_66 3 rfl rfl ?_
  obtain ⟨b9, h⟩ := of_ite h
  refine g_iast hC dX10_yearsOf_67 (isA_spec (rf_10_24 h0)) b9 ?_
  exact g_pick [0, 1, 2, 3] rfl (bX10_yearsOf_68 hC hcs h0 hR _ h)
theorem bX10_yearsOf_42 {K : KT} {g : GT} {cm sm : Nat} {cs : Nat × Nat} {c0 : Nat} {x1 : Int} {x2 : Int} {x3 : Int} {r : Int} {σ' : St} (hC : Ctx K g RX10 cX10_yearsOf 5 3 cm sm) (hcs : cs.1 ≤ cm ∧ cs.2 ≤ sm) (h0 : isO 10 c0 = true) (hR : RetI K g cX10_yearsOf 5 cs r (SH0, σ')) : ∀ (σ : St), fX10_yearsOf_42 c0 x1 x2 x3 σ = some (r, σ') → G K g 5 cs 42 [(0, vr c0), (1, vi x1), (2, vi x2), (3, vi x3)] [] (SH0, σ) := by
  intro σ h
  unfold fX10_yearsOf_42 at h
  refine g_aload_n hC dX10_yearsOf_42 0 rfl rfl ?_
  refine g_getr hC dX10_yearsOf_43 lfRX10_57 (isO_spec h0) (ft_10_24 h0) ?_
  refine g_iconst hC dX10_yearsOf_46 ok_3 ?_
  refine g_aload_n hC dX10_yearsOf_47 0 rfl rfl ?_
  refine g_getr hC dX10_yearsOf_48 lfRX10_24 (isO_spec h0) (ft_10_6 h0) ?_
  refine g_bipush hC dX10_yearsOf_51 bp_7 ?_
  refine g_iconst hC dX10_yearsOf_53 ok_5 ?_
  refine g_iload_n hC dX10_yearsOf_54 2 rfl rfl ?_
  refine g_iadd hC dX10_yearsOf_55 ?_
  refine g_imul hC dX10_yearsOf_56 ?_
  refine g_iload_n hC dX10_yearsOf_57 1 rfl rfl ?_
  refine g_iadd hC dX10_yearsOf_58 ?_
  obtain ⟨b9, h⟩ := of_ite h
  refine g_iald hC dX10_yearsOf_59 (isA_spec (rf_10_6 h0)) b9 ?_
  obtain ⟨b9, h⟩ := of_ite h
  refine g_iast hC dX10_yearsOf_60 (isA_spec (rf_10_24 h0)) b9 ?_
  exact g_pick [0, 1, 2, 3] rfl (bX10_yearsOf_61 hC hcs h0 hR _ h)
theorem bX10_yearsOf_0 {K : KT} {g : GT} {cm sm : Nat} {cs : Nat × Nat} {c0 : Nat} {x1 : Int} {x2 : Int} {x3 : Int} {r : Int} {σ' : St} (hC : Ctx K g RX10 cX10_yearsOf 5 3 cm sm) (hcs : cs.1 ≤ cm ∧ cs.2 ≤ sm) (h0 : isO 10 c0 = true) (hR : RetI K g cX10_yearsOf 5 cs r (SH0, σ')) : ∀ (σ : St), fX10_yearsOf c0 x1 x2 x3 σ = some (r, σ') → G K g 5 cs 0 [(0, vr c0), (1, vi x1), (2, vi x2), (3, vi x3)] [] (SH0, σ) := by
  intro σ h
  unfold fX10_yearsOf at h
  refine g_aload_n hC dX10_yearsOf_0 0 rfl rfl ?_
  refine g_getr hC dX10_yearsOf_1 lfRX10_57 (isO_spec h0) (ft_10_24 h0) ?_
  refine g_iconst hC dX10_yearsOf_4 ok_0 ?_
  refine g_aload_n hC dX10_yearsOf_5 0 rfl rfl ?_
  refine g_getr hC dX10_yearsOf_6 lfRX10_24 (isO_spec h0) (ft_10_6 h0) ?_
  refine g_iload_n hC dX10_yearsOf_9 1 rfl rfl ?_
  obtain ⟨b9, h⟩ := of_ite h
  refine g_iald hC dX10_yearsOf_10 (isA_spec (rf_10_6 h0)) b9 ?_
  obtain ⟨b9, h⟩ := of_ite h
  refine g_iast hC dX10_yearsOf_11 (isA_spec (rf_10_24 h0)) b9 ?_
  refine g_aload_n hC dX10_yearsOf_12 0 rfl rfl ?_
  refine g_getr hC dX10_yearsOf_13 lfRX10_57 (isO_spec h0) (ft_10_24 h0) ?_
  refine g_iconst hC dX10_yearsOf_16 ok_1 ?_
  refine g_aload_n hC dX10_yearsOf_17 0 rfl rfl ?_
  refine g_getr hC dX10_yearsOf_18 lfRX10_24 (isO_spec h0) (ft_10_6 h0) ?_
  refine g_bipush hC dX10_yearsOf_21 bp_7 ?_
  refine g_iload_n hC dX10_yearsOf_23 1 rfl rfl ?_
  refine g_iadd hC dX10_yearsOf_24 ?_
  obtain ⟨b9, h⟩ := of_ite h
  refine g_iald hC dX10_yearsOf_25 (isA_spec (rf_10_6 h0)) b9 ?_
  obtain ⟨b9, h⟩ := of_ite h
  refine g_iast hC dX10_yearsOf_26 (isA_spec (rf_10_24 h0)) b9 ?_
  refine g_aload_n hC dX10_yearsOf_27 0 rfl rfl ?_
  refine g_getr hC dX10_yearsOf_28 lfRX10_57 (isO_spec h0) (ft_10_24 h0) ?_
  refine g_iconst hC dX10_yearsOf_31 ok_2 ?_
  refine g_aload_n hC dX10_yearsOf_32 0 rfl rfl ?_
  refine g_getr hC dX10_yearsOf_33 lfRX10_24 (isO_spec h0) (ft_10_6 h0) ?_
  refine g_bipush hC dX10_yearsOf_36 bp_14 ?_
  refine g_iload_n hC dX10_yearsOf_38 1 rfl rfl ?_
  refine g_iadd hC dX10_yearsOf_39 ?_
  obtain ⟨b9, h⟩ := of_ite h
  refine g_iald hC dX10_yearsOf_40 (isA_spec (rf_10_6 h0)) b9 ?_
  obtain ⟨b9, h⟩ := of_ite h
  refine g_iast hC dX10_yearsOf_41 (isA_spec (rf_10_24 h0)) b9 ?_
  exact g_pick [0, 1, 2, 3] rfl (bX10_yearsOf_42 hC hcs h0 hR _ h)
theorem tX10_yearsOf {l : Launch} {g : GT} {c0 : Nat} {x1 : Int} {x2 : Int} {x3 : Int} {σ σ' : St} {r : Int} (h0 : isO 10 c0 = true) (h : fX10_yearsOf c0 x1 x2 x3 σ = some (r, σ')) : Cn l g yX10_yearsOf cX10_yearsOf 5 (some .int) 3 0 0 [vr c0, vi x1, vi x2, vi x3] (SH0, σ) (some (vi r)) (SH0, σ') :=
  Cn.ofI (by decide) (Nat.le_of_ble_eq_true rfl) (fun K e hC hR => (bX10_yearsOf_0 hC ⟨Nat.le_refl _, Nat.le_refl _⟩ h0 hR _ h))
theorem dX10_wouldMiss_0 : decode cX10_wouldMiss 0 = .ok (.aload_n 0, 1) := by decide +kernel
theorem dX10_wouldMiss_1 : decode cX10_wouldMiss 1 = .ok (.iload_n 1, 1) := by decide +kernel
theorem dX10_wouldMiss_2 : decode cX10_wouldMiss 2 = .ok (.aload_n 0, 1) := by decide +kernel
theorem dX10_wouldMiss_3 : decode cX10_wouldMiss 3 = .ok (.getfield 9, 3) := by decide +kernel
theorem dX10_wouldMiss_6 : decode cX10_wouldMiss 6 = .ok (.iload_n 2, 1) := by decide +kernel
theorem dX10_wouldMiss_7 : decode cX10_wouldMiss 7 = .ok (.iaload, 1) := by decide +kernel
theorem dX10_wouldMiss_8 : decode cX10_wouldMiss 8 = .ok (.aload_n 0, 1) := by decide +kernel
theorem dX10_wouldMiss_9 : decode cX10_wouldMiss 9 = .ok (.iload_n 1, 1) := by decide +kernel
theorem dX10_wouldMiss_10 : decode cX10_wouldMiss 10 = .ok (.invokevirtual 230, 3) := by decide +kernel
theorem dX10_wouldMiss_13 : decode cX10_wouldMiss 13 = .ok (.invokevirtual 233, 3) := by decide +kernel
theorem dX10_wouldMiss_16 : decode cX10_wouldMiss 16 = .ok (.ireturn, 1) := by decide +kernel
theorem bX10_wouldMiss_0 {K : KT} {g : GT} {cm sm : Nat} {cs : Nat × Nat} {c0 : Nat} {x1 : Int} {x2 : Int} {r : Int} {σ' : St} (hC : Ctx K g RX10 cX10_wouldMiss 3 4 cm sm) (hcs : cs.1 ≤ cm ∧ cs.2 ≤ sm) (h0 : isO 10 c0 = true) (hR : RetI K g cX10_wouldMiss 3 cs r (SH0, σ')) : ∀ (σ : St), fX10_wouldMiss c0 x1 x2 σ = some (r, σ') → G K g 3 cs 0 [(0, vr c0), (1, vi x1), (2, vi x2)] [] (SH0, σ) := by
  intro σ h
  unfold fX10_wouldMiss at h
  refine g_aload_n hC dX10_wouldMiss_0 0 rfl rfl ?_
  refine g_iload_n hC dX10_wouldMiss_1 1 rfl rfl ?_
  refine g_aload_n hC dX10_wouldMiss_2 0 rfl rfl ?_
  refine g_getr hC dX10_wouldMiss_3 lfRX10_9 (isO_spec h0) (ft_10_1 h0) ?_
  refine g_iload_n hC dX10_wouldMiss_6 2 rfl rfl ?_
  obtain ⟨b9, h⟩ := of_ite h
  refine g_iald hC dX10_wouldMiss_7 (isA_spec (rf_10_1 h0)) b9 ?_
  refine g_aload_n hC dX10_wouldMiss_8 0 rfl rfl ?_
  refine g_iload_n hC dX10_wouldMiss_9 1 rfl rfl ?_
  obtain ⟨⟨r1, s1⟩, e1, h⟩ := of_bind h
  try dsimp only at h
  refine s_callVi hC dX10_wouldMiss_10 (tX10_countOf h0 e1) miX10_countOf mvX10_countOf mlRX10_230 (isO_spec h0) vc_10 rfl rfl (Nat.le_of_ble_eq_true rfl) (Nat.le_of_ble_eq_true rfl) (Nat.le_of_ble_eq_true rfl) hcs ?_
  obtain ⟨⟨r2, s2⟩, e2, h⟩ := of_bind h
  try dsimp only at h
  refine s_callVi hC dX10_wouldMiss_13 (tX10_yearsOf h0 e2) miX10_yearsOf mvX10_yearsOf mlRX10_233 (isO_spec h0) vc_10 rfl rfl (Nat.le_of_ble_eq_true rfl) (Nat.le_of_ble_eq_true rfl) (Nat.le_of_ble_eq_true rfl) hcs ?_
  exact ret_i h hR dX10_wouldMiss_16
theorem tX10_wouldMiss {l : Launch} {g : GT} {c0 : Nat} {x1 : Int} {x2 : Int} {σ σ' : St} {r : Int} (h0 : isO 10 c0 = true) (h : fX10_wouldMiss c0 x1 x2 σ = some (r, σ')) : Cn l g yX10_wouldMiss cX10_wouldMiss 3 (some .int) 4 0 0 [vr c0, vi x1, vi x2] (SH0, σ) (some (vi r)) (SH0, σ') :=
  Cn.ofI (by decide) (Nat.le_of_ble_eq_true rfl) (fun K e hC hR => (bX10_wouldMiss_0 hC ⟨Nat.le_refl _, Nat.le_refl _⟩ h0 hR _ h))
theorem dX10_bidOf_0 : decode cX10_bidOf 0 = .ok (.aload_n 0, 1) := by decide +kernel
theorem dX10_bidOf_1 : decode cX10_bidOf 1 = .ok (.iload_n 1, 1) := by decide +kernel
theorem dX10_bidOf_2 : decode cX10_bidOf 2 = .ok (.iload_n 2, 1) := by decide +kernel
theorem dX10_bidOf_3 : decode cX10_bidOf 3 = .ok (.invokevirtual 236, 3) := by decide +kernel
theorem dX10_bidOf_6 : decode cX10_bidOf 6 = .ok (.istore_n 3, 1) := by decide +kernel
theorem dX10_bidOf_7 : decode cX10_bidOf 7 = .ok (.aload_n 0, 1) := by decide +kernel
theorem dX10_bidOf_8 : decode cX10_bidOf 8 = .ok (.getfield 24, 3) := by decide +kernel
theorem dX10_bidOf_11 : decode cX10_bidOf 11 = .ok (.bipush 21, 2) := by decide +kernel
theorem dX10_bidOf_13 : decode cX10_bidOf 13 = .ok (.iload_n 1, 1) := by decide +kernel
theorem dX10_bidOf_14 : decode cX10_bidOf 14 = .ok (.iadd, 1) := by decide +kernel
theorem dX10_bidOf_15 : decode cX10_bidOf 15 = .ok (.iaload, 1) := by decide +kernel
theorem dX10_bidOf_16 : decode cX10_bidOf 16 = .ok (.istore 4, 2) := by decide +kernel
theorem dX10_bidOf_18 : decode cX10_bidOf 18 = .ok (.aload_n 0, 1) := by decide +kernel
theorem dX10_bidOf_19 : decode cX10_bidOf 19 = .ok (.getfield 24, 3) := by decide +kernel
theorem dX10_bidOf_22 : decode cX10_bidOf 22 = .ok (.bipush 28, 2) := by decide +kernel
theorem dX10_bidOf_24 : decode cX10_bidOf 24 = .ok (.iload_n 1, 1) := by decide +kernel
theorem dX10_bidOf_25 : decode cX10_bidOf 25 = .ok (.iadd, 1) := by decide +kernel
theorem dX10_bidOf_26 : decode cX10_bidOf 26 = .ok (.iaload, 1) := by decide +kernel
theorem dX10_bidOf_27 : decode cX10_bidOf 27 = .ok (.iconst 1, 1) := by decide +kernel
theorem dX10_bidOf_28 : decode cX10_bidOf 28 = .ok (.if_icmp .ne 14, 3) := by decide +kernel
theorem dX10_bidOf_31 : decode cX10_bidOf 31 = .ok (.iload 4, 2) := by decide +kernel
theorem dX10_bidOf_33 : decode cX10_bidOf 33 = .ok (.ifCond .le 7, 3) := by decide +kernel
theorem dX10_bidOf_36 : decode cX10_bidOf 36 = .ok (.iconst 0, 1) := by decide +kernel
theorem dX10_bidOf_37 : decode cX10_bidOf 37 = .ok (.goto 4, 3) := by decide +kernel
theorem dX10_bidOf_40 : decode cX10_bidOf 40 = .ok (.iload_n 3, 1) := by decide +kernel
theorem dX10_bidOf_41 : decode cX10_bidOf 41 = .ok (.ireturn, 1) := by decide +kernel
theorem dX10_bidOf_42 : decode cX10_bidOf 42 = .ok (.bipush 99, 2) := by decide +kernel
theorem dX10_bidOf_44 : decode cX10_bidOf 44 = .ok (.iload_n 3, 1) := by decide +kernel
theorem dX10_bidOf_45 : decode cX10_bidOf 45 = .ok (.iload 4, 2) := by decide +kernel
theorem dX10_bidOf_47 : decode cX10_bidOf 47 = .ok (.iadd, 1) := by decide +kernel
theorem dX10_bidOf_48 : decode cX10_bidOf 48 = .ok (.invokestatic 222, 3) := by decide +kernel
theorem dX10_bidOf_51 : decode cX10_bidOf 51 = .ok (.ireturn, 1) := by decide +kernel
theorem bX10_bidOf_0 {K : KT} {g : GT} {cm sm : Nat} {cs : Nat × Nat} {c0 : Nat} {x1 : Int} {x2 : Int} {r : Int} {σ' : St} (hC : Ctx K g RX10 cX10_bidOf 5 5 cm sm) (hcs : cs.1 ≤ cm ∧ cs.2 ≤ sm) (h0 : isO 10 c0 = true) (hR : RetI K g cX10_bidOf 5 cs r (SH0, σ')) : ∀ (σ : St), fX10_bidOf c0 x1 x2 σ = some (r, σ') → G K g 5 cs 0 [(0, vr c0), (1, vi x1), (2, vi x2)] [] (SH0, σ) := by
  intro σ h
  unfold fX10_bidOf at h
  refine g_aload_n hC dX10_bidOf_0 0 rfl rfl ?_
  refine g_iload_n hC dX10_bidOf_1 1 rfl rfl ?_
  refine g_iload_n hC dX10_bidOf_2 2 rfl rfl ?_
  obtain ⟨⟨r1, s1⟩, e1, h⟩ := of_bind h
  try dsimp only at h
  refine s_callVi hC dX10_bidOf_3 (tX10_wouldMiss h0 e1) miX10_wouldMiss mvX10_wouldMiss mlRX10_236 (isO_spec h0) vc_10 rfl rfl (Nat.le_of_ble_eq_true rfl) (Nat.le_of_ble_eq_true rfl) (Nat.le_of_ble_eq_true rfl) hcs ?_
  refine g_istore_n hC dX10_bidOf_6 rfl (Nat.le_of_ble_eq_true rfl) rfl ?_
  refine g_aload_n hC dX10_bidOf_7 1 rfl rfl ?_
  refine g_getr hC dX10_bidOf_8 lfRX10_24 (isO_spec h0) (ft_10_6 h0) ?_
  refine g_bipush hC dX10_bidOf_11 bp_21 ?_
  refine g_iload_n hC dX10_bidOf_13 2 rfl rfl ?_
  refine g_iadd hC dX10_bidOf_14 ?_
  obtain ⟨b9, h⟩ := of_ite h
  refine g_iald hC dX10_bidOf_15 (isA_spec (rf_10_6 h0)) b9 ?_
  refine g_istore hC dX10_bidOf_16 (Nat.le_of_ble_eq_true rfl) rfl ?_
  refine g_aload_n hC dX10_bidOf_18 2 rfl rfl ?_
  refine g_getr hC dX10_bidOf_19 lfRX10_24 (isO_spec h0) (ft_10_6 h0) ?_
  refine g_bipush hC dX10_bidOf_22 bp_28 ?_
  refine g_iload_n hC dX10_bidOf_24 3 rfl rfl ?_
  refine g_iadd hC dX10_bidOf_25 ?_
  obtain ⟨b9, h⟩ := of_ite h
  refine g_iald hC dX10_bidOf_26 (isA_spec (rf_10_6 h0)) b9 ?_
  refine g_iconst hC dX10_bidOf_27 ok_1 ?_
  refine g_icmp_ne hC dX10_bidOf_28 (tgt := 42) (by decide) (fun h9 => ?_) (fun h9 => ?_)
  · rw [if_neg h9] at h
    refine g_bipush hC dX10_bidOf_42 bp_99 ?_
    refine g_iload_n hC dX10_bidOf_44 1 rfl rfl ?_
    refine g_iload hC dX10_bidOf_45 0 rfl ?_
    refine g_iadd hC dX10_bidOf_47 ?_
    refine g_min hC dX10_bidOf_48 lmRX10_222 mn_1 mn_2 mn_3 (Nat.le_of_ble_eq_true rfl) (Nat.le_of_ble_eq_true rfl) hcs ?_
    exact ret_i h hR dX10_bidOf_51
  · rw [if_pos h9] at h
    refine g_iload hC dX10_bidOf_31 0 rfl ?_
    refine g_if_le hC dX10_bidOf_33 (tgt := 40) (by decide) (fun h9 => ?_) (fun h9 => ?_)
    · rw [if_pos h9] at h
      refine g_iload_n hC dX10_bidOf_40 1 rfl rfl ?_
      exact ret_i h hR dX10_bidOf_41
    · rw [if_neg h9] at h
      refine g_iconst hC dX10_bidOf_36 ok_0 ?_
      refine g_goto hC dX10_bidOf_37 (tgt := 41) (by decide) ?_
      exact ret_i h hR dX10_bidOf_41
theorem tX10_bidOf {l : Launch} {g : GT} {c0 : Nat} {x1 : Int} {x2 : Int} {σ σ' : St} {r : Int} (h0 : isO 10 c0 = true) (h : fX10_bidOf c0 x1 x2 σ = some (r, σ')) : Cn l g yX10_bidOf cX10_bidOf 5 (some .int) 5 0 0 [vr c0, vi x1, vi x2] (SH0, σ) (some (vi r)) (SH0, σ') :=
  Cn.ofI (by decide) (Nat.le_of_ble_eq_true rfl) (fun K e hC hR => (bX10_bidOf_0 hC ⟨Nat.le_refl _, Nat.le_refl _⟩ h0 hR _ h))
theorem dX10_winner_0 : decode cX10_winner 0 = .ok (.bipush (-2), 2) := by decide +kernel
theorem dX10_winner_2 : decode cX10_winner 2 = .ok (.istore_n 2, 1) := by decide +kernel
theorem dX10_winner_3 : decode cX10_winner 3 = .ok (.iconst 0, 1) := by decide +kernel
theorem dX10_winner_4 : decode cX10_winner 4 = .ok (.istore_n 3, 1) := by decide +kernel
theorem dX10_winner_5 : decode cX10_winner 5 = .ok (.iconst 0, 1) := by decide +kernel
theorem dX10_winner_6 : decode cX10_winner 6 = .ok (.istore 4, 2) := by decide +kernel
theorem dX10_winner_8 : decode cX10_winner 8 = .ok (.iload 4, 2) := by decide +kernel
theorem dX10_winner_10 : decode cX10_winner 10 = .ok (.aload_n 0, 1) := by decide +kernel
theorem dX10_winner_11 : decode cX10_winner 11 = .ok (.getfield 105, 3) := by decide +kernel
theorem dX10_winner_14 : decode cX10_winner 14 = .ok (.if_icmp .ge 49, 3) := by decide +kernel
theorem dX10_winner_17 : decode cX10_winner 17 = .ok (.aload_n 0, 1) := by decide +kernel
theorem dX10_winner_18 : decode cX10_winner 18 = .ok (.iload 4, 2) := by decide +kernel
theorem dX10_winner_20 : decode cX10_winner 20 = .ok (.iload_n 1, 1) := by decide +kernel
theorem dX10_winner_21 : decode cX10_winner 21 = .ok (.invokevirtual 239, 3) := by decide +kernel
theorem dX10_winner_24 : decode cX10_winner 24 = .ok (.istore 5, 2) := by decide +kernel
theorem dX10_winner_26 : decode cX10_winner 26 = .ok (.iload 5, 2) := by decide +kernel
theorem dX10_winner_28 : decode cX10_winner 28 = .ok (.ifCond .eq 29, 3) := by decide +kernel
theorem dX10_winner_31 : decode cX10_winner 31 = .ok (.iload 5, 2) := by decide +kernel
theorem dX10_winner_33 : decode cX10_winner 33 = .ok (.iload_n 3, 1) := by decide +kernel
theorem dX10_winner_34 : decode cX10_winner 34 = .ok (.if_icmp .ge 6, 3) := by decide +kernel
theorem dX10_winner_37 : decode cX10_winner 37 = .ok (.goto 20, 3) := by decide +kernel
theorem dX10_winner_40 : decode cX10_winner 40 = .ok (.iload 5, 2) := by decide +kernel
theorem dX10_winner_42 : decode cX10_winner 42 = .ok (.iload_n 3, 1) := by decide +kernel
theorem dX10_winner_43 : decode cX10_winner 43 = .ok (.if_icmp .ne 8, 3) := by decide +kernel
theorem dX10_winner_46 : decode cX10_winner 46 = .ok (.bipush 8, 2) := by decide +kernel
theorem dX10_winner_48 : decode cX10_winner 48 = .ok (.goto 5, 3) := by decide +kernel
theorem dX10_winner_51 : decode cX10_winner 51 = .ok (.iload 4, 2) := by decide +kernel
theorem dX10_winner_53 : decode cX10_winner 53 = .ok (.istore_n 2, 1) := by decide +kernel
theorem dX10_winner_54 : decode cX10_winner 54 = .ok (.iload 5, 2) := by decide +kernel
theorem dX10_winner_56 : decode cX10_winner 56 = .ok (.istore_n 3, 1) := by decide +kernel
theorem dX10_winner_57 : decode cX10_winner 57 = .ok (.iinc 4 1, 3) := by decide +kernel
theorem dX10_winner_60 : decode cX10_winner 60 = .ok (.goto (-52), 3) := by decide +kernel
theorem dX10_winner_63 : decode cX10_winner 63 = .ok (.iload_n 2, 1) := by decide +kernel
theorem dX10_winner_64 : decode cX10_winner 64 = .ok (.ireturn, 1) := by decide +kernel
theorem bX10_winner_57 {K : KT} {g : GT} {cm sm : Nat} {cs : Nat × Nat} {c0 : Nat} {x1 : Int} {k8 : Int → Int → Int → St → Option (Int × St)} {r : Int} {σ' : St} (hC : Ctx K g RX10 cX10_winner 6 6 cm sm) (hcs : cs.1 ≤ cm ∧ cs.2 ≤ sm) (h0 : isO 10 c0 = true) (hk8 : ∀ (x2 : Int) (x3 : Int) (x4 : Int) (σ : St), k8 x2 x3 x4 σ = some (r, σ') → G K g 6 cs 8 [(0, vr c0), (1, vi x1), (2, vi x2), (3, vi x3), (4, vi x4)] [] (SH0, σ)) (hR : RetI K g cX10_winner 6 cs r (SH0, σ')) : ∀ (x2 : Int) (x3 : Int) (x4 : Int) (σ : St), fX10_winner_57 c0 x1 k8 x2 x3 x4 σ = some (r, σ') → G K g 6 cs 57 [(0, vr c0), (1, vi x1), (2, vi x2), (3, vi x3), (4, vi x4)] [] (SH0, σ) := by
  intro x2 x3 x4 σ h
  unfold fX10_winner_57 at h
  refine g_iinc hC dX10_winner_57 4 rfl (Nat.le_of_ble_eq_true rfl) rfl ?_
  refine g_goto hC dX10_winner_60 (tgt := 8) (by decide) ?_
  exact g_pick [1, 2, 3, 4, 0] rfl (hk8 _ _ _ _ h)
theorem bX10_winner_53 {K : KT} {g : GT} {cm sm : Nat} {cs : Nat × Nat} {c0 : Nat} {x1 : Int} {k8 : Int → Int → Int → St → Option (Int × St)} {r : Int} {σ' : St} (hC : Ctx K g RX10 cX10_winner 6 6 cm sm) (hcs : cs.1 ≤ cm ∧ cs.2 ≤ sm) (h0 : isO 10 c0 = true) (hk8 : ∀ (x2 : Int) (x3 : Int) (x4 : Int) (σ : St), k8 x2 x3 x4 σ = some (r, σ') → G K g 6 cs 8 [(0, vr c0), (1, vi x1), (2, vi x2), (3, vi x3), (4, vi x4)] [] (SH0, σ)) (hR : RetI K g cX10_winner 6 cs r (SH0, σ')) : ∀ (x4 : Int) (x5 : Int) (y0 : Int) (σ : St), fX10_winner_53 c0 x1 k8 x4 x5 y0 σ = some (r, σ') → G K g 6 cs 53 [(0, vr c0), (1, vi x1), (4, vi x4), (5, vi x5)] [vi y0] (SH0, σ) := by
  intro x4 x5 y0 σ h
  unfold fX10_winner_53 at h
  refine g_istore_n hC dX10_winner_53 rfl (Nat.le_of_ble_eq_true rfl) rfl ?_
  refine g_iload hC dX10_winner_54 4 rfl ?_
  refine g_istore_n hC dX10_winner_56 rfl (Nat.le_of_ble_eq_true rfl) rfl ?_
  exact g_pick [2, 3, 1, 0, 4] rfl (bX10_winner_57 hC hcs h0 hk8 hR _ _ _ _ h)
theorem bX10_winner_8 {K : KT} {g : GT} {cm sm : Nat} {cs : Nat × Nat} {c0 : Nat} {x1 : Int} {r : Int} {σ' : St} (hC : Ctx K g RX10 cX10_winner 6 6 cm sm) (hcs : cs.1 ≤ cm ∧ cs.2 ≤ sm) (h0 : isO 10 c0 = true) (hR : RetI K g cX10_winner 6 cs r (SH0, σ')) : ∀ (n : Nat) (x2 : Int) (x3 : Int) (x4 : Int) (σ : St), fX10_winner_8 c0 x1 n x2 x3 x4 σ = some (r, σ') → G K g 6 cs 8 [(0, vr c0), (1, vi x1), (2, vi x2), (3, vi x3), (4, vi x4)] [] (SH0, σ) := by
  intro n
  induction n with
  | zero =>
    intro x2 x3 x4 σ h
    rw [fX10_winner_8.eq_1] at h
    cases h
  | succ n ih =>
    intro x2 x3 x4 σ h
    rw [fX10_winner_8.eq_2] at h
    refine g_iload hC dX10_winner_8 4 rfl ?_
    refine g_aload_n hC dX10_winner_10 0 rfl rfl ?_
    refine g_geti hC dX10_winner_11 lfRX10_105 (isO_spec h0) (ft_10_5 h0) ?_
    refine g_icmp_ge hC dX10_winner_14 (tgt := 63) (by decide) (fun h9 => ?_) (fun h9 => ?_)
    · rw [if_pos h9] at h
      refine g_iload_n hC dX10_winner_63 2 rfl rfl ?_
      exact ret_i h hR dX10_winner_64
    · rw [if_neg h9] at h
      refine g_aload_n hC dX10_winner_17 0 rfl rfl ?_
      refine g_iload hC dX10_winner_18 4 rfl ?_
      refine g_iload_n hC dX10_winner_20 1 rfl rfl ?_
      obtain ⟨⟨r1, s1⟩, e1, h⟩ := of_bind h
      try dsimp only at h
      refine s_callVi hC dX10_winner_21 (tX10_bidOf h0 e1) miX10_bidOf mvX10_bidOf mlRX10_239 (isO_spec h0) vc_10 rfl rfl (Nat.le_of_ble_eq_true rfl) (Nat.le_of_ble_eq_true rfl) (Nat.le_of_ble_eq_true rfl) hcs ?_
      refine g_istore hC dX10_winner_24 (Nat.le_of_ble_eq_true rfl) rfl ?_
      refine g_iload hC dX10_winner_26 0 rfl ?_
      refine g_if_eq hC dX10_winner_28 (tgt := 57) (by decide) (fun h9 => ?_) (fun h9 => ?_)
      · rw [if_pos h9] at h
        exact g_pick [1, 2, 3, 4, 5] rfl (bX10_winner_57 hC hcs h0 ih hR _ _ _ _ h)
      · rw [if_neg h9] at h
        refine g_iload hC dX10_winner_31 0 rfl ?_
        refine g_iload_n hC dX10_winner_33 4 rfl rfl ?_
        refine g_icmp_ge hC dX10_winner_34 (tgt := 40) (by decide) (fun h9 => ?_) (fun h9 => ?_)
        · rw [if_pos h9] at h
          refine g_iload hC dX10_winner_40 0 rfl ?_
          refine g_iload_n hC dX10_winner_42 4 rfl rfl ?_
          refine g_icmp_ne hC dX10_winner_43 (tgt := 51) (by decide) (fun h9 => ?_) (fun h9 => ?_)
          · rw [if_neg h9] at h
            refine g_iload hC dX10_winner_51 5 rfl ?_
            exact g_pick [1, 2, 5, 0] rfl (bX10_winner_53 hC hcs h0 ih hR _ _ _ _ h)
          · rw [if_pos h9] at h
            refine g_bipush hC dX10_winner_46 bp_8 ?_
            refine g_goto hC dX10_winner_48 (tgt := 53) (by decide) ?_
            exact g_pick [1, 2, 5, 0] rfl (bX10_winner_53 hC hcs h0 ih hR _ _ _ _ h)
        · rw [if_neg h9] at h
          refine g_goto hC dX10_winner_37 (tgt := 57) (by decide) ?_
          exact g_pick [1, 2, 3, 4, 5] rfl (bX10_winner_57 hC hcs h0 ih hR _ _ _ _ h)
theorem bX10_winner_0 {K : KT} {g : GT} {cm sm : Nat} {cs : Nat × Nat} {c0 : Nat} {x1 : Int} {r : Int} {σ' : St} (hC : Ctx K g RX10 cX10_winner 6 6 cm sm) (hcs : cs.1 ≤ cm ∧ cs.2 ≤ sm) (h0 : isO 10 c0 = true) (hR : RetI K g cX10_winner 6 cs r (SH0, σ')) : ∀ (σ : St), fX10_winner c0 x1 σ = some (r, σ') → G K g 6 cs 0 [(0, vr c0), (1, vi x1)] [] (SH0, σ) := by
  intro σ h
  unfold fX10_winner at h
  refine g_bipush hC dX10_winner_0 bp_m2 ?_
  refine g_istore_n hC dX10_winner_2 rfl (Nat.le_of_ble_eq_true rfl) rfl ?_
  refine g_iconst hC dX10_winner_3 ok_0 ?_
  refine g_istore_n hC dX10_winner_4 rfl (Nat.le_of_ble_eq_true rfl) rfl ?_
  refine g_iconst hC dX10_winner_5 ok_0 ?_
  refine g_istore hC dX10_winner_6 (Nat.le_of_ble_eq_true rfl) rfl ?_
  exact g_pick [3, 4, 2, 1, 0] rfl (bX10_winner_8 hC hcs h0 hR _ _ _ _ _ h)
theorem tX10_winner {l : Launch} {g : GT} {c0 : Nat} {x1 : Int} {σ σ' : St} {r : Int} (h0 : isO 10 c0 = true) (h : fX10_winner c0 x1 σ = some (r, σ')) : Cn l g yX10_winner cX10_winner 6 (some .int) 6 0 0 [vr c0, vi x1] (SH0, σ) (some (vi r)) (SH0, σ') :=
  Cn.ofI (by decide) (Nat.le_of_ble_eq_true rfl) (fun K e hC hR => (bX10_winner_0 hC ⟨Nat.le_refl _, Nat.le_refl _⟩ h0 hR _ h))
theorem dX10_goes_0 : decode cX10_goes 0 = .ok (.aload_n 0, 1) := by decide +kernel
theorem dX10_goes_1 : decode cX10_goes 1 = .ok (.iload_n 1, 1) := by decide +kernel
theorem dX10_goes_2 : decode cX10_goes 2 = .ok (.invokevirtual 245, 3) := by decide +kernel
theorem dX10_goes_5 : decode cX10_goes 5 = .ok (.ifCond .ne 6, 3) := by decide +kernel
theorem dX10_goes_8 : decode cX10_goes 8 = .ok (.bipush 9, 2) := by decide +kernel
theorem dX10_goes_10 : decode cX10_goes 10 = .ok (.ireturn, 1) := by decide +kernel
theorem dX10_goes_11 : decode cX10_goes 11 = .ok (.aload_n 0, 1) := by decide +kernel
theorem dX10_goes_12 : decode cX10_goes 12 = .ok (.iload_n 1, 1) := by decide +kernel
theorem dX10_goes_13 : decode cX10_goes 13 = .ok (.invokevirtual 242, 3) := by decide +kernel
theorem dX10_goes_16 : decode cX10_goes 16 = .ok (.istore_n 2, 1) := by decide +kernel
theorem dX10_goes_17 : decode cX10_goes 17 = .ok (.iload_n 2, 1) := by decide +kernel
theorem dX10_goes_18 : decode cX10_goes 18 = .ok (.bipush 8, 2) := by decide +kernel
theorem dX10_goes_20 : decode cX10_goes 20 = .ok (.if_icmp .ne 20, 3) := by decide +kernel
theorem dX10_goes_23 : decode cX10_goes 23 = .ok (.aload_n 0, 1) := by decide +kernel
theorem dX10_goes_24 : decode cX10_goes 24 = .ok (.getfield 18, 3) := by decide +kernel
theorem dX10_goes_27 : decode cX10_goes 27 = .ok (.iload_n 1, 1) := by decide +kernel
theorem dX10_goes_28 : decode cX10_goes 28 = .ok (.iconst 1, 1) := by decide +kernel
theorem dX10_goes_29 : decode cX10_goes 29 = .ok (.iastore, 1) := by decide +kernel
theorem dX10_goes_30 : decode cX10_goes 30 = .ok (.aload_n 0, 1) := by decide +kernel
theorem dX10_goes_31 : decode cX10_goes 31 = .ok (.getfield 21, 3) := by decide +kernel
theorem dX10_goes_34 : decode cX10_goes 34 = .ok (.iload_n 1, 1) := by decide +kernel
theorem dX10_goes_35 : decode cX10_goes 35 = .ok (.iconst 0, 1) := by decide +kernel
theorem dX10_goes_36 : decode cX10_goes 36 = .ok (.iastore, 1) := by decide +kernel
theorem dX10_goes_37 : decode cX10_goes 37 = .ok (.goto 16, 3) := by decide +kernel
theorem dX10_goes_40 : decode cX10_goes 40 = .ok (.iload_n 2, 1) := by decide +kernel
theorem dX10_goes_41 : decode cX10_goes 41 = .ok (.bipush (-2), 2) := by decide +kernel
theorem dX10_goes_43 : decode cX10_goes 43 = .ok (.if_icmp .eq 10, 3) := by decide +kernel
theorem dX10_goes_46 : decode cX10_goes 46 = .ok (.aload_n 0, 1) := by decide +kernel
theorem dX10_goes_47 : decode cX10_goes 47 = .ok (.getfield 15, 3) := by decide +kernel
theorem dX10_goes_50 : decode cX10_goes 50 = .ok (.iload_n 1, 1) := by decide +kernel
theorem dX10_goes_51 : decode cX10_goes 51 = .ok (.iload_n 2, 1) := by decide +kernel
theorem dX10_goes_52 : decode cX10_goes 52 = .ok (.iastore, 1) := by decide +kernel
theorem dX10_goes_53 : decode cX10_goes 53 = .ok (.iload_n 2, 1) := by decide +kernel
theorem dX10_goes_54 : decode cX10_goes 54 = .ok (.ireturn, 1) := by decide +kernel
theorem bX10_goes_0 {K : KT} {g : GT} {cm sm : Nat} {cs : Nat × Nat} {c0 : Nat} {x1 : Int} {r : Int} {σ' : St} (hC : Ctx K g RX10 cX10_goes 3 7 cm sm) (hcs : cs.1 ≤ cm ∧ cs.2 ≤ sm) (h0 : isO 10 c0 = true) (hR : RetI K g cX10_goes 3 cs r (SH0, σ')) : ∀ (σ : St), fX10_goes c0 x1 σ = some (r, σ') → G K g 3 cs 0 [(0, vr c0), (1, vi x1)] [] (SH0, σ) := by
  intro σ h
  unfold fX10_goes at h
  refine g_aload_n hC dX10_goes_0 0 rfl rfl ?_
  refine g_iload_n hC dX10_goes_1 1 rfl rfl ?_
  obtain ⟨⟨r1, s1⟩, e1, h⟩ := of_bind h
  try dsimp only at h
  refine s_callVi hC dX10_goes_2 (tX10_isForSale h0 e1) miX10_isForSale mvX10_isForSale mlRX10_245 (isO_spec h0) vc_10 rfl rfl (Nat.le_of_ble_eq_true rfl) (Nat.le_of_ble_eq_true rfl) (Nat.le_of_ble_eq_true rfl) hcs ?_
  refine g_if_ne hC dX10_goes_5 (tgt := 11) (by decide) (fun h9 => ?_) (fun h9 => ?_)
  · rw [if_neg h9] at h
    refine g_aload_n hC dX10_goes_11 0 rfl rfl ?_
    refine g_iload_n hC dX10_goes_12 1 rfl rfl ?_
    obtain ⟨⟨r2, s2⟩, e2, h⟩ := of_bind h
    try dsimp only at h
    refine s_callVi hC dX10_goes_13 (tX10_winner h0 e2) miX10_winner mvX10_winner mlRX10_242 (isO_spec h0) vc_10 rfl rfl (Nat.le_of_ble_eq_true rfl) (Nat.le_of_ble_eq_true rfl) (Nat.le_of_ble_eq_true rfl) hcs ?_
    refine g_istore_n hC dX10_goes_16 rfl (Nat.le_of_ble_eq_true rfl) rfl ?_
    refine g_iload_n hC dX10_goes_17 0 rfl rfl ?_
    refine g_bipush hC dX10_goes_18 bp_8 ?_
    refine g_icmp_ne hC dX10_goes_20 (tgt := 40) (by decide) (fun h9 => ?_) (fun h9 => ?_)
    · rw [if_neg h9] at h
      refine g_iload_n hC dX10_goes_40 0 rfl rfl ?_
      refine g_bipush hC dX10_goes_41 bp_m2 ?_
      refine g_icmp_eq hC dX10_goes_43 (tgt := 53) (by decide) (fun h9 => ?_) (fun h9 => ?_)
      · rw [if_pos h9] at h
        refine g_iload_n hC dX10_goes_53 0 rfl rfl ?_
        exact ret_i h hR dX10_goes_54
      · rw [if_neg h9] at h
        refine g_aload_n hC dX10_goes_46 1 rfl rfl ?_
        refine g_getr hC dX10_goes_47 lfRX10_15 (isO_spec h0) (ft_10_2 h0) ?_
        refine g_iload_n hC dX10_goes_50 2 rfl rfl ?_
        refine g_iload_n hC dX10_goes_51 0 rfl rfl ?_
        obtain ⟨b9, h⟩ := of_ite h
        refine g_iast hC dX10_goes_52 (isA_spec (rf_10_2 h0)) b9 ?_
        refine g_iload_n hC dX10_goes_53 0 rfl rfl ?_
        exact ret_i h hR dX10_goes_54
    · rw [if_pos h9] at h
      refine g_aload_n hC dX10_goes_23 1 rfl rfl ?_
      refine g_getr hC dX10_goes_24 lfRX10_18 (isO_spec h0) (ft_10_3 h0) ?_
      refine g_iload_n hC dX10_goes_27 2 rfl rfl ?_
      refine g_iconst hC dX10_goes_28 ok_1 ?_
      obtain ⟨b9, h⟩ := of_ite h
      refine g_iast hC dX10_goes_29 (isA_spec (rf_10_3 h0)) b9 ?_
      refine g_aload_n hC dX10_goes_30 1 rfl rfl ?_
      refine g_getr hC dX10_goes_31 lfRX10_21 (isO_spec h0) (ft_10_4 h0) ?_
      refine g_iload_n hC dX10_goes_34 2 rfl rfl ?_
      refine g_iconst hC dX10_goes_35 ok_0 ?_
      obtain ⟨b9, h⟩ := of_ite h
      refine g_iast hC dX10_goes_36 (isA_spec (rf_10_4 h0)) b9 ?_
      refine g_goto hC dX10_goes_37 (tgt := 53) (by decide) ?_
      refine g_iload_n hC dX10_goes_53 0 rfl rfl ?_
      exact ret_i h hR dX10_goes_54
  · rw [if_pos h9] at h
    refine g_bipush hC dX10_goes_8 bp_9 ?_
    exact ret_i h hR dX10_goes_10
theorem tX10_goes {l : Launch} {g : GT} {c0 : Nat} {x1 : Int} {σ σ' : St} {r : Int} (h0 : isO 10 c0 = true) (h : fX10_goes c0 x1 σ = some (r, σ')) : Cn l g yX10_goes cX10_goes 3 (some .int) 7 0 0 [vr c0, vi x1] (SH0, σ) (some (vi r)) (SH0, σ') :=
  Cn.ofI (by decide) (Nat.le_of_ble_eq_true rfl) (fun K e hC hR => (bX10_goes_0 hC ⟨Nat.le_refl _, Nat.le_refl _⟩ h0 hR _ h))
theorem dX10_isOne_0 : decode cX10_isOne 0 = .ok (.iload_n 1, 1) := by decide +kernel
theorem dX10_isOne_1 : decode cX10_isOne 1 = .ok (.iconst 0, 1) := by decide +kernel
theorem dX10_isOne_2 : decode cX10_isOne 2 = .ok (.aload_n 0, 1) := by decide +kernel
theorem dX10_isOne_3 : decode cX10_isOne 3 = .ok (.getfield 105, 3) := by decide +kernel
theorem dX10_isOne_6 : decode cX10_isOne 6 = .ok (.iconst 1, 1) := by decide +kernel
theorem dX10_isOne_7 : decode cX10_isOne 7 = .ok (.isub, 1) := by decide +kernel
theorem dX10_isOne_8 : decode cX10_isOne 8 = .ok (.invokestatic 101, 3) := by decide +kernel
theorem dX10_isOne_11 : decode cX10_isOne 11 = .ok (.ireturn, 1) := by decide +kernel
theorem bX10_isOne_0 {K : KT} {g : GT} {cm sm : Nat} {cs : Nat × Nat} {c0 : Nat} {x1 : Int} {r : Int} {σ' : St} (hC : Ctx K g RX10 cX10_isOne 2 1 cm sm) (hcs : cs.1 ≤ cm ∧ cs.2 ≤ sm) (h0 : isO 10 c0 = true) (hR : RetZ K g cX10_isOne 2 cs r (SH0, σ')) : ∀ (σ : St), fX10_isOne c0 x1 σ = some (r, σ') → G K g 2 cs 0 [(0, vr c0), (1, vi x1)] [] (SH0, σ) := by
  intro σ h
  unfold fX10_isOne at h
  refine g_iload_n hC dX10_isOne_0 1 rfl rfl ?_
  refine g_iconst hC dX10_isOne_1 ok_0 ?_
  refine g_aload_n hC dX10_isOne_2 0 rfl rfl ?_
  refine g_geti hC dX10_isOne_3 lfRX10_105 (isO_spec h0) (ft_10_5 h0) ?_
  refine g_iconst hC dX10_isOne_6 ok_1 ?_
  refine g_isub hC dX10_isOne_7 ?_
  obtain ⟨⟨r1, s1⟩, e1, h⟩ := of_bind h
  try dsimp only at h
  refine s_callSi hC dX10_isOne_8 (tX10_within e1) miX10_within msX10_within mlRX10_101 rfl rfl (Nat.le_of_ble_eq_true rfl) (Nat.le_of_ble_eq_true rfl) (Nat.le_of_ble_eq_true rfl) hcs ?_
  obtain ⟨b9, h⟩ := of_ite h
  exact ret_z h hR b9 dX10_isOne_11
theorem tX10_isOne {l : Launch} {g : GT} {c0 : Nat} {x1 : Int} {σ σ' : St} {r : Int} (h0 : isO 10 c0 = true) (h : fX10_isOne c0 x1 σ = some (r, σ')) : Cn l g yX10_isOne cX10_isOne 2 (some .boolean) 1 0 0 [vr c0, vi x1] (SH0, σ) (some (vi r)) (SH0, σ') :=
  Cn.ofZ (by decide) (Nat.le_of_ble_eq_true rfl) (fun K e hC hR => (bX10_isOne_0 hC ⟨Nat.le_refl _, Nat.le_refl _⟩ h0 hR _ h))
theorem dX10_isShelf_0 : decode cX10_isShelf 0 = .ok (.iload_n 0, 1) := by decide +kernel
theorem dX10_isShelf_1 : decode cX10_isShelf 1 = .ok (.iconst 0, 1) := by decide +kernel
theorem dX10_isShelf_2 : decode cX10_isShelf 2 = .ok (.iconst 5, 1) := by decide +kernel
theorem dX10_isShelf_3 : decode cX10_isShelf 3 = .ok (.invokestatic 101, 3) := by decide +kernel
theorem dX10_isShelf_6 : decode cX10_isShelf 6 = .ok (.ireturn, 1) := by decide +kernel
theorem bX10_isShelf_0 {K : KT} {g : GT} {cm sm : Nat} {cs : Nat × Nat} {x0 : Int} {r : Int} {σ' : St} (hC : Ctx K g RX10 cX10_isShelf 1 1 cm sm) (hcs : cs.1 ≤ cm ∧ cs.2 ≤ sm) (hR : RetZ K g cX10_isShelf 1 cs r (SH0, σ')) : ∀ (σ : St), fX10_isShelf x0 σ = some (r, σ') → G K g 1 cs 0 [(0, vi x0)] [] (SH0, σ) := by
  intro σ h
  unfold fX10_isShelf at h
  refine g_iload_n hC dX10_isShelf_0 0 rfl rfl ?_
  refine g_iconst hC dX10_isShelf_1 ok_0 ?_
  refine g_iconst hC dX10_isShelf_2 ok_5 ?_
  obtain ⟨⟨r1, s1⟩, e1, h⟩ := of_bind h
  try dsimp only at h
  refine s_callSi hC dX10_isShelf_3 (tX10_within e1) miX10_within msX10_within mlRX10_101 rfl rfl (Nat.le_of_ble_eq_true rfl) (Nat.le_of_ble_eq_true rfl) (Nat.le_of_ble_eq_true rfl) hcs ?_
  obtain ⟨b9, h⟩ := of_ite h
  exact ret_z h hR b9 dX10_isShelf_6
theorem tX10_isShelf {l : Launch} {g : GT} {x0 : Int} {σ σ' : St} {r : Int} (h : fX10_isShelf x0 σ = some (r, σ')) : Cn l g yX10_isShelf cX10_isShelf 1 (some .boolean) 1 0 0 [vi x0] (SH0, σ) (some (vi r)) (SH0, σ') :=
  Cn.ofZ (by decide) (Nat.le_of_ble_eq_true rfl) (fun K e hC hR => (bX10_isShelf_0 hC ⟨Nat.le_refl _, Nat.le_refl _⟩ hR _ h))
theorem dX10_keeps_0 : decode cX10_keeps 0 = .ok (.iconst 0, 1) := by decide +kernel
theorem dX10_keeps_1 : decode cX10_keeps 1 = .ok (.istore_n 2, 1) := by decide +kernel
theorem dX10_keeps_2 : decode cX10_keeps 2 = .ok (.iload_n 2, 1) := by decide +kernel
theorem dX10_keeps_3 : decode cX10_keeps 3 = .ok (.bipush 8, 2) := by decide +kernel
theorem dX10_keeps_5 : decode cX10_keeps 5 = .ok (.if_icmp .ge 42, 3) := by decide +kernel
theorem dX10_keeps_8 : decode cX10_keeps 8 = .ok (.aload_n 1, 1) := by decide +kernel
theorem dX10_keeps_9 : decode cX10_keeps 9 = .ok (.iload_n 2, 1) := by decide +kernel
theorem dX10_keeps_10 : decode cX10_keeps 10 = .ok (.aload_n 0, 1) := by decide +kernel
theorem dX10_keeps_11 : decode cX10_keeps 11 = .ok (.getfield 15, 3) := by decide +kernel
theorem dX10_keeps_14 : decode cX10_keeps 14 = .ok (.iload_n 2, 1) := by decide +kernel
theorem dX10_keeps_15 : decode cX10_keeps 15 = .ok (.iaload, 1) := by decide +kernel
theorem dX10_keeps_16 : decode cX10_keeps 16 = .ok (.iastore, 1) := by decide +kernel
theorem dX10_keeps_17 : decode cX10_keeps 17 = .ok (.aload_n 1, 1) := by decide +kernel
theorem dX10_keeps_18 : decode cX10_keeps 18 = .ok (.bipush 8, 2) := by decide +kernel
theorem dX10_keeps_20 : decode cX10_keeps 20 = .ok (.iload_n 2, 1) := by decide +kernel
theorem dX10_keeps_21 : decode cX10_keeps 21 = .ok (.iadd, 1) := by decide +kernel
theorem dX10_keeps_22 : decode cX10_keeps 22 = .ok (.aload_n 0, 1) := by decide +kernel
theorem dX10_keeps_23 : decode cX10_keeps 23 = .ok (.getfield 18, 3) := by decide +kernel
theorem dX10_keeps_26 : decode cX10_keeps 26 = .ok (.iload_n 2, 1) := by decide +kernel
theorem dX10_keeps_27 : decode cX10_keeps 27 = .ok (.iaload, 1) := by decide +kernel
theorem dX10_keeps_28 : decode cX10_keeps 28 = .ok (.iastore, 1) := by decide +kernel
theorem dX10_keeps_29 : decode cX10_keeps 29 = .ok (.aload_n 1, 1) := by decide +kernel
theorem dX10_keeps_30 : decode cX10_keeps 30 = .ok (.bipush 16, 2) := by decide +kernel
theorem dX10_keeps_32 : decode cX10_keeps 32 = .ok (.iload_n 2, 1) := by decide +kernel
theorem dX10_keeps_33 : decode cX10_keeps 33 = .ok (.iadd, 1) := by decide +kernel
theorem dX10_keeps_34 : decode cX10_keeps 34 = .ok (.aload_n 0, 1) := by decide +kernel
theorem dX10_keeps_35 : decode cX10_keeps 35 = .ok (.getfield 21, 3) := by decide +kernel
theorem dX10_keeps_38 : decode cX10_keeps 38 = .ok (.iload_n 2, 1) := by decide +kernel
theorem dX10_keeps_39 : decode cX10_keeps 39 = .ok (.iaload, 1) := by decide +kernel
theorem dX10_keeps_40 : decode cX10_keeps 40 = .ok (.iastore, 1) := by decide +kernel
theorem dX10_keeps_41 : decode cX10_keeps 41 = .ok (.iinc 2 1, 3) := by decide +kernel
theorem dX10_keeps_44 : decode cX10_keeps 44 = .ok (.goto (-42), 3) := by decide +kernel
theorem dX10_keeps_47 : decode cX10_keeps 47 = .ok (.iconst 0, 1) := by decide +kernel
theorem dX10_keeps_48 : decode cX10_keeps 48 = .ok (.istore_n 2, 1) := by decide +kernel
theorem dX10_keeps_49 : decode cX10_keeps 49 = .ok (.iload_n 2, 1) := by decide +kernel
theorem dX10_keeps_50 : decode cX10_keeps 50 = .ok (.bipush 7, 2) := by decide +kernel
theorem dX10_keeps_52 : decode cX10_keeps 52 = .ok (.if_icmp .ge 54, 3) := by decide +kernel
theorem dX10_keeps_55 : decode cX10_keeps 55 = .ok (.aload_n 1, 1) := by decide +kernel
theorem dX10_keeps_56 : decode cX10_keeps 56 = .ok (.bipush 24, 2) := by decide +kernel
theorem dX10_keeps_58 : decode cX10_keeps 58 = .ok (.iload_n 2, 1) := by decide +kernel
theorem dX10_keeps_59 : decode cX10_keeps 59 = .ok (.iadd, 1) := by decide +kernel
theorem dX10_keeps_60 : decode cX10_keeps 60 = .ok (.aload_n 0, 1) := by decide +kernel
theorem dX10_keeps_61 : decode cX10_keeps 61 = .ok (.getfield 24, 3) := by decide +kernel
theorem dX10_keeps_64 : decode cX10_keeps 64 = .ok (.bipush 28, 2) := by decide +kernel
theorem dX10_keeps_66 : decode cX10_keeps 66 = .ok (.iload_n 2, 1) := by decide +kernel
theorem dX10_keeps_67 : decode cX10_keeps 67 = .ok (.iadd, 1) := by decide +kernel
theorem dX10_keeps_68 : decode cX10_keeps 68 = .ok (.iaload, 1) := by decide +kernel
theorem dX10_keeps_69 : decode cX10_keeps 69 = .ok (.iastore, 1) := by decide +kernel
theorem dX10_keeps_70 : decode cX10_keeps 70 = .ok (.aload_n 1, 1) := by decide +kernel
theorem dX10_keeps_71 : decode cX10_keeps 71 = .ok (.bipush 31, 2) := by decide +kernel
theorem dX10_keeps_73 : decode cX10_keeps 73 = .ok (.iload_n 2, 1) := by decide +kernel
theorem dX10_keeps_74 : decode cX10_keeps 74 = .ok (.iadd, 1) := by decide +kernel
theorem dX10_keeps_75 : decode cX10_keeps 75 = .ok (.aload_n 0, 1) := by decide +kernel
theorem dX10_keeps_76 : decode cX10_keeps 76 = .ok (.getfield 24, 3) := by decide +kernel
theorem dX10_keeps_79 : decode cX10_keeps 79 = .ok (.bipush 7, 2) := by decide +kernel
theorem dX10_keeps_81 : decode cX10_keeps 81 = .ok (.iload_n 2, 1) := by decide +kernel
theorem dX10_keeps_82 : decode cX10_keeps 82 = .ok (.iadd, 1) := by decide +kernel
theorem dX10_keeps_83 : decode cX10_keeps 83 = .ok (.iaload, 1) := by decide +kernel
theorem dX10_keeps_84 : decode cX10_keeps 84 = .ok (.iastore, 1) := by decide +kernel
theorem dX10_keeps_85 : decode cX10_keeps 85 = .ok (.aload_n 1, 1) := by decide +kernel
theorem dX10_keeps_86 : decode cX10_keeps 86 = .ok (.bipush 38, 2) := by decide +kernel
theorem dX10_keeps_88 : decode cX10_keeps 88 = .ok (.iload_n 2, 1) := by decide +kernel
theorem dX10_keeps_89 : decode cX10_keeps 89 = .ok (.iadd, 1) := by decide +kernel
theorem dX10_keeps_90 : decode cX10_keeps 90 = .ok (.aload_n 0, 1) := by decide +kernel
theorem dX10_keeps_91 : decode cX10_keeps 91 = .ok (.getfield 24, 3) := by decide +kernel
theorem dX10_keeps_94 : decode cX10_keeps 94 = .ok (.bipush 14, 2) := by decide +kernel
theorem dX10_keeps_96 : decode cX10_keeps 96 = .ok (.iload_n 2, 1) := by decide +kernel
theorem dX10_keeps_97 : decode cX10_keeps 97 = .ok (.iadd, 1) := by decide +kernel
theorem dX10_keeps_98 : decode cX10_keeps 98 = .ok (.iaload, 1) := by decide +kernel
theorem dX10_keeps_99 : decode cX10_keeps 99 = .ok (.iastore, 1) := by decide +kernel
theorem dX10_keeps_100 : decode cX10_keeps 100 = .ok (.iinc 2 1, 3) := by decide +kernel
theorem dX10_keeps_103 : decode cX10_keeps 103 = .ok (.goto (-54), 3) := by decide +kernel
theorem dX10_keeps_106 : decode cX10_keeps 106 = .ok (.return_, 1) := by decide +kernel
theorem bX10_keeps_44 {K : KT} {g : GT} {cm sm : Nat} {cs : Nat × Nat} {c0 : Nat} {c1 : Nat} {k2 : Int → St → Option (St)} {σ' : St} (hC : Ctx K g RX10 cX10_keeps 3 0 cm sm) (hcs : cs.1 ≤ cm ∧ cs.2 ≤ sm) (h0 : isO 10 c0 = true) (h1 : isA 1 c1 = true) (hk2 : ∀ (x2 : Int) (σ : St), k2 x2 σ = some σ' → G K g 3 cs 2 [(0, vr c0), (1, vr c1), (2, vi x2)] [] (SH0, σ)) (hR : RetV K g cX10_keeps 3 cs (SH0, σ')) : ∀ (x2 : Int) (σ : St), fX10_keeps_44 c0 c1 k2 x2 σ = some σ' → G K g 3 cs 44 [(0, vr c0), (1, vr c1), (2, vi x2)] [] (SH0, σ) := by
  intro x2 σ h
  unfold fX10_keeps_44 at h
  refine g_goto hC dX10_keeps_44 (tgt := 2) (by decide) ?_
  exact g_pick [0, 1, 2] rfl (hk2 _ _ h)
theorem bX10_keeps_41 {K : KT} {g : GT} {cm sm : Nat} {cs : Nat × Nat} {c0 : Nat} {c1 : Nat} {k2 : Int → St → Option (St)} {σ' : St} (hC : Ctx K g RX10 cX10_keeps 3 0 cm sm) (hcs : cs.1 ≤ cm ∧ cs.2 ≤ sm) (h0 : isO 10 c0 = true) (h1 : isA 1 c1 = true) (hk2 : ∀ (x2 : Int) (σ : St), k2 x2 σ = some σ' → G K g 3 cs 2 [(0, vr c0), (1, vr c1), (2, vi x2)] [] (SH0, σ)) (hR : RetV K g cX10_keeps 3 cs (SH0, σ')) : ∀ (x2 : Int) (σ : St), fX10_keeps_41 c0 c1 k2 x2 σ = some σ' → G K g 3 cs 41 [(0, vr c0), (1, vr c1), (2, vi x2)] [] (SH0, σ) := by
  intro x2 σ h
  unfold fX10_keeps_41 at h
  refine g_iinc hC dX10_keeps_41 2 rfl (Nat.le_of_ble_eq_true rfl) rfl ?_
  exact g_pick [1, 2, 0] rfl (bX10_keeps_44 hC hcs h0 h1 hk2 hR _ _ h)
theorem bX10_keeps_103 {K : KT} {g : GT} {cm sm : Nat} {cs : Nat × Nat} {c0 : Nat} {c1 : Nat} {k49 : Int → St → Option (St)} {σ' : St} (hC : Ctx K g RX10 cX10_keeps 3 0 cm sm) (hcs : cs.1 ≤ cm ∧ cs.2 ≤ sm) (h0 : isO 10 c0 = true) (h1 : isA 1 c1 = true) (hk49 : ∀ (x2 : Int) (σ : St), k49 x2 σ = some σ' → G K g 3 cs 49 [(0, vr c0), (1, vr c1), (2, vi x2)] [] (SH0, σ)) (hR : RetV K g cX10_keeps 3 cs (SH0, σ')) : ∀ (x2 : Int) (σ : St), fX10_keeps_103 c0 c1 k49 x2 σ = some σ' → G K g 3 cs 103 [(0, vr c0), (1, vr c1), (2, vi x2)] [] (SH0, σ) := by
  intro x2 σ h
  unfold fX10_keeps_103 at h
  refine g_goto hC dX10_keeps_103 (tgt := 49) (by decide) ?_
  exact g_pick [0, 1, 2] rfl (hk49 _ _ h)
theorem bX10_keeps_100 {K : KT} {g : GT} {cm sm : Nat} {cs : Nat × Nat} {c0 : Nat} {c1 : Nat} {k49 : Int → St → Option (St)} {σ' : St} (hC : Ctx K g RX10 cX10_keeps 3 0 cm sm) (hcs : cs.1 ≤ cm ∧ cs.2 ≤ sm) (h0 : isO 10 c0 = true) (h1 : isA 1 c1 = true) (hk49 : ∀ (x2 : Int) (σ : St), k49 x2 σ = some σ' → G K g 3 cs 49 [(0, vr c0), (1, vr c1), (2, vi x2)] [] (SH0, σ)) (hR : RetV K g cX10_keeps 3 cs (SH0, σ')) : ∀ (x2 : Int) (σ : St), fX10_keeps_100 c0 c1 k49 x2 σ = some σ' → G K g 3 cs 100 [(0, vr c0), (1, vr c1), (2, vi x2)] [] (SH0, σ) := by
  intro x2 σ h
  unfold fX10_keeps_100 at h
  refine g_iinc hC dX10_keeps_100 2 rfl (Nat.le_of_ble_eq_true rfl) rfl ?_
  exact g_pick [1, 2, 0] rfl (bX10_keeps_103 hC hcs h0 h1 hk49 hR _ _ h)
theorem bX10_keeps_49 {K : KT} {g : GT} {cm sm : Nat} {cs : Nat × Nat} {c0 : Nat} {c1 : Nat} {σ' : St} (hC : Ctx K g RX10 cX10_keeps 3 0 cm sm) (hcs : cs.1 ≤ cm ∧ cs.2 ≤ sm) (h0 : isO 10 c0 = true) (h1 : isA 1 c1 = true) (hR : RetV K g cX10_keeps 3 cs (SH0, σ')) : ∀ (n : Nat) (x2 : Int) (σ : St), fX10_keeps_49 c0 c1 n x2 σ = some σ' → G K g 3 cs 49 [(0, vr c0), (1, vr c1), (2, vi x2)] [] (SH0, σ) := by
  intro n
  induction n with
  | zero =>
    intro x2 σ h
    rw [fX10_keeps_49.eq_1] at h
    cases h
  | succ n ih =>
    intro x2 σ h
    rw [fX10_keeps_49.eq_2] at h
    refine g_iload_n hC dX10_keeps_49 2 rfl rfl ?_
    refine g_bipush hC dX10_keeps_50 bp_7 ?_
    refine g_icmp_ge hC dX10_keeps_52 (tgt := 106) (by decide) (fun h9 => ?_) (fun h9 => ?_)
    · rw [if_pos h9] at h
      exact ret_v h hR dX10_keeps_106
    · rw [if_neg h9] at h
      refine g_aload_n hC dX10_keeps_55 1 rfl rfl ?_
      refine g_bipush hC dX10_keeps_56 bp_24 ?_
      refine g_iload_n hC dX10_keeps_58 2 rfl rfl ?_
      refine g_iadd hC dX10_keeps_59 ?_
      refine g_aload_n hC dX10_keeps_60 0 rfl rfl ?_
      refine g_getr hC dX10_keeps_61 lfRX10_24 (isO_spec h0) (ft_10_6 h0) ?_
      refine g_bipush hC dX10_keeps_64 bp_28 ?_
      refine g_iload_n hC dX10_keeps_66 2 rfl rfl ?_
      refine g_iadd hC dX10_keeps_67 ?_
      obtain ⟨b9, h⟩ := of_ite h
      refine g_iald hC dX10_keeps_68 (isA_spec (rf_10_6 h0)) b9 ?_
      obtain ⟨b9, h⟩ := of_ite h
      refine g_iast hC dX10_keeps_69 (isA_spec h1) b9 ?_
      refine g_aload_n hC dX10_keeps_70 1 rfl rfl ?_
      refine g_bipush hC dX10_keeps_71 bp_31 ?_
      refine g_iload_n hC dX10_keeps_73 2 rfl rfl ?_
      refine g_iadd hC dX10_keeps_74 ?_
      refine g_aload_n hC dX10_keeps_75 0 rfl rfl ?_
      refine g_getr hC dX10_keeps_76 lfRX10_24 (isO_spec h0) (ft_10_6 h0) ?_
      refine g_bipush hC dX10_keeps_79 bp_7 ?_
      refine g_iload_n hC dX10_keeps_81 2 rfl rfl ?_
      refine g_iadd hC dX10_keeps_82 ?_
      obtain ⟨b9, h⟩ := of_ite h
      refine g_iald hC dX10_keeps_83 (isA_spec (rf_10_6 h0)) b9 ?_
      obtain ⟨b9, h⟩ := of_ite h
      refine g_iast hC dX10_keeps_84 (isA_spec h1) b9 ?_
      refine g_aload_n hC dX10_keeps_85 1 rfl rfl ?_
      refine g_bipush hC dX10_keeps_86 bp_38 ?_
      refine g_iload_n hC dX10_keeps_88 2 rfl rfl ?_
      refine g_iadd hC dX10_keeps_89 ?_
      refine g_aload_n hC dX10_keeps_90 0 rfl rfl ?_
      refine g_getr hC dX10_keeps_91 lfRX10_24 (isO_spec h0) (ft_10_6 h0) ?_
      refine g_bipush hC dX10_keeps_94 bp_14 ?_
      refine g_iload_n hC dX10_keeps_96 2 rfl rfl ?_
      refine g_iadd hC dX10_keeps_97 ?_
      obtain ⟨b9, h⟩ := of_ite h
      refine g_iald hC dX10_keeps_98 (isA_spec (rf_10_6 h0)) b9 ?_
      obtain ⟨b9, h⟩ := of_ite h
      refine g_iast hC dX10_keeps_99 (isA_spec h1) b9 ?_
      exact g_pick [0, 1, 2] rfl (bX10_keeps_100 hC hcs h0 h1 ih hR _ _ h)
theorem bX10_keeps_2 {K : KT} {g : GT} {cm sm : Nat} {cs : Nat × Nat} {c0 : Nat} {c1 : Nat} {σ' : St} (hC : Ctx K g RX10 cX10_keeps 3 0 cm sm) (hcs : cs.1 ≤ cm ∧ cs.2 ≤ sm) (h0 : isO 10 c0 = true) (h1 : isA 1 c1 = true) (hR : RetV K g cX10_keeps 3 cs (SH0, σ')) : ∀ (n : Nat) (x2 : Int) (σ : St), fX10_keeps_2 c0 c1 n x2 σ = some σ' → G K g 3 cs 2 [(0, vr c0), (1, vr c1), (2, vi x2)] [] (SH0, σ) := by
  intro n
  induction n with
  | zero =>
    intro x2 σ h
    rw [fX10_keeps_2.eq_1] at h
    cases h
  | succ n ih =>
    intro x2 σ h
    rw [fX10_keeps_2.eq_2] at h
    refine g_iload_n hC dX10_keeps_2 2 rfl rfl ?_
    refine g_bipush hC dX10_keeps_3 bp_8 ?_
    refine g_icmp_ge hC dX10_keeps_5 (tgt := 47) (by decide) (fun h9 => ?_) (fun h9 => ?_)
    · rw [if_pos h9] at h
      refine g_iconst hC dX10_keeps_47 ok_0 ?_
      refine g_istore_n hC dX10_keeps_48 rfl (Nat.le_of_ble_eq_true rfl) rfl ?_
      exact g_pick [1, 2, 0] rfl (bX10_keeps_49 hC hcs h0 h1 hR _ _ _ h)
    · rw [if_neg h9] at h
      refine g_aload_n hC dX10_keeps_8 1 rfl rfl ?_
      refine g_iload_n hC dX10_keeps_9 2 rfl rfl ?_
      refine g_aload_n hC dX10_keeps_10 0 rfl rfl ?_
      refine g_getr hC dX10_keeps_11 lfRX10_15 (isO_spec h0) (ft_10_2 h0) ?_
      refine g_iload_n hC dX10_keeps_14 2 rfl rfl ?_
      obtain ⟨b9, h⟩ := of_ite h
      refine g_iald hC dX10_keeps_15 (isA_spec (rf_10_2 h0)) b9 ?_
      obtain ⟨b9, h⟩ := of_ite h
      refine g_iast hC dX10_keeps_16 (isA_spec h1) b9 ?_
      refine g_aload_n hC dX10_keeps_17 1 rfl rfl ?_
      refine g_bipush hC dX10_keeps_18 bp_8 ?_
      refine g_iload_n hC dX10_keeps_20 2 rfl rfl ?_
      refine g_iadd hC dX10_keeps_21 ?_
      refine g_aload_n hC dX10_keeps_22 0 rfl rfl ?_
      refine g_getr hC dX10_keeps_23 lfRX10_18 (isO_spec h0) (ft_10_3 h0) ?_
      refine g_iload_n hC dX10_keeps_26 2 rfl rfl ?_
      obtain ⟨b9, h⟩ := of_ite h
      refine g_iald hC dX10_keeps_27 (isA_spec (rf_10_3 h0)) b9 ?_
      obtain ⟨b9, h⟩ := of_ite h
      refine g_iast hC dX10_keeps_28 (isA_spec h1) b9 ?_
      refine g_aload_n hC dX10_keeps_29 1 rfl rfl ?_
      refine g_bipush hC dX10_keeps_30 bp_16 ?_
      refine g_iload_n hC dX10_keeps_32 2 rfl rfl ?_
      refine g_iadd hC dX10_keeps_33 ?_
      refine g_aload_n hC dX10_keeps_34 0 rfl rfl ?_
      refine g_getr hC dX10_keeps_35 lfRX10_21 (isO_spec h0) (ft_10_4 h0) ?_
      refine g_iload_n hC dX10_keeps_38 2 rfl rfl ?_
      obtain ⟨b9, h⟩ := of_ite h
      refine g_iald hC dX10_keeps_39 (isA_spec (rf_10_4 h0)) b9 ?_
      obtain ⟨b9, h⟩ := of_ite h
      refine g_iast hC dX10_keeps_40 (isA_spec h1) b9 ?_
      exact g_pick [0, 1, 2] rfl (bX10_keeps_41 hC hcs h0 h1 ih hR _ _ h)
theorem bX10_keeps_0 {K : KT} {g : GT} {cm sm : Nat} {cs : Nat × Nat} {c0 : Nat} {c1 : Nat} {σ' : St} (hC : Ctx K g RX10 cX10_keeps 3 0 cm sm) (hcs : cs.1 ≤ cm ∧ cs.2 ≤ sm) (h0 : isO 10 c0 = true) (h1 : isA 1 c1 = true) (hR : RetV K g cX10_keeps 3 cs (SH0, σ')) : ∀ (σ : St), fX10_keeps c0 c1 σ = some σ' → G K g 3 cs 0 [(0, vr c0), (1, vr c1)] [] (SH0, σ) := by
  intro σ h
  unfold fX10_keeps at h
  refine g_iconst hC dX10_keeps_0 ok_0 ?_
  refine g_istore_n hC dX10_keeps_1 rfl (Nat.le_of_ble_eq_true rfl) rfl ?_
  exact g_pick [1, 2, 0] rfl (bX10_keeps_2 hC hcs h0 h1 hR _ _ _ h)
theorem tX10_keeps {l : Launch} {g : GT} {c0 : Nat} {c1 : Nat} {σ σ' : St} (h0 : isO 10 c0 = true) (h1 : isA 1 c1 = true) (h : fX10_keeps c0 c1 σ = some σ') : Cn l g yX10_keeps cX10_keeps 3 none 0 0 0 [vr c0, vr c1] (SH0, σ) none (SH0, σ') :=
  Cn.ofV (by decide) (Nat.le_of_ble_eq_true rfl) (fun K e hC hR => (bX10_keeps_0 hC ⟨Nat.le_refl _, Nat.le_refl _⟩ h0 h1 hR _ h))
theorem dX10_laysBack_0 : decode cX10_laysBack 0 = .ok (.iconst 0, 1) := by decide +kernel
theorem dX10_laysBack_1 : decode cX10_laysBack 1 = .ok (.istore 4, 2) := by decide +kernel
theorem dX10_laysBack_3 : decode cX10_laysBack 3 = .ok (.iload 4, 2) := by decide +kernel
theorem dX10_laysBack_5 : decode cX10_laysBack 5 = .ok (.iload_n 2, 1) := by decide +kernel
theorem dX10_laysBack_6 : decode cX10_laysBack 6 = .ok (.if_icmp .ge 48, 3) := by decide +kernel
theorem dX10_laysBack_9 : decode cX10_laysBack 9 = .ok (.aload_n 0, 1) := by decide +kernel
theorem dX10_laysBack_10 : decode cX10_laysBack 10 = .ok (.getfield 15, 3) := by decide +kernel
theorem dX10_laysBack_13 : decode cX10_laysBack 13 = .ok (.iload 4, 2) := by decide +kernel
theorem dX10_laysBack_15 : decode cX10_laysBack 15 = .ok (.aload_n 1, 1) := by decide +kernel
theorem dX10_laysBack_16 : decode cX10_laysBack 16 = .ok (.iload 4, 2) := by decide +kernel
theorem dX10_laysBack_18 : decode cX10_laysBack 18 = .ok (.iaload, 1) := by decide +kernel
theorem dX10_laysBack_19 : decode cX10_laysBack 19 = .ok (.iastore, 1) := by decide +kernel
theorem dX10_laysBack_20 : decode cX10_laysBack 20 = .ok (.aload_n 0, 1) := by decide +kernel
theorem dX10_laysBack_21 : decode cX10_laysBack 21 = .ok (.getfield 18, 3) := by decide +kernel
theorem dX10_laysBack_24 : decode cX10_laysBack 24 = .ok (.iload 4, 2) := by decide +kernel
theorem dX10_laysBack_26 : decode cX10_laysBack 26 = .ok (.aload_n 1, 1) := by decide +kernel
theorem dX10_laysBack_27 : decode cX10_laysBack 27 = .ok (.bipush 8, 2) := by decide +kernel
theorem dX10_laysBack_29 : decode cX10_laysBack 29 = .ok (.iload 4, 2) := by decide +kernel
theorem dX10_laysBack_31 : decode cX10_laysBack 31 = .ok (.iadd, 1) := by decide +kernel
theorem dX10_laysBack_32 : decode cX10_laysBack 32 = .ok (.iaload, 1) := by decide +kernel
theorem dX10_laysBack_33 : decode cX10_laysBack 33 = .ok (.iastore, 1) := by decide +kernel
theorem dX10_laysBack_34 : decode cX10_laysBack 34 = .ok (.aload_n 0, 1) := by decide +kernel
theorem dX10_laysBack_35 : decode cX10_laysBack 35 = .ok (.getfield 21, 3) := by decide +kernel
theorem dX10_laysBack_38 : decode cX10_laysBack 38 = .ok (.iload 4, 2) := by decide +kernel
theorem dX10_laysBack_40 : decode cX10_laysBack 40 = .ok (.aload_n 1, 1) := by decide +kernel
theorem dX10_laysBack_41 : decode cX10_laysBack 41 = .ok (.bipush 16, 2) := by decide +kernel
theorem dX10_laysBack_43 : decode cX10_laysBack 43 = .ok (.iload 4, 2) := by decide +kernel
theorem dX10_laysBack_45 : decode cX10_laysBack 45 = .ok (.iadd, 1) := by decide +kernel
theorem dX10_laysBack_46 : decode cX10_laysBack 46 = .ok (.iaload, 1) := by decide +kernel
theorem dX10_laysBack_47 : decode cX10_laysBack 47 = .ok (.iastore, 1) := by decide +kernel
theorem dX10_laysBack_48 : decode cX10_laysBack 48 = .ok (.iinc 4 1, 3) := by decide +kernel
theorem dX10_laysBack_51 : decode cX10_laysBack 51 = .ok (.goto (-48), 3) := by decide +kernel
theorem dX10_laysBack_54 : decode cX10_laysBack 54 = .ok (.iconst 0, 1) := by decide +kernel
theorem dX10_laysBack_55 : decode cX10_laysBack 55 = .ok (.istore 4, 2) := by decide +kernel
theorem dX10_laysBack_57 : decode cX10_laysBack 57 = .ok (.iload 4, 2) := by decide +kernel
theorem dX10_laysBack_59 : decode cX10_laysBack 59 = .ok (.iload_n 3, 1) := by decide +kernel
theorem dX10_laysBack_60 : decode cX10_laysBack 60 = .ok (.if_icmp .ge 60, 3) := by decide +kernel
theorem dX10_laysBack_63 : decode cX10_laysBack 63 = .ok (.aload_n 0, 1) := by decide +kernel
theorem dX10_laysBack_64 : decode cX10_laysBack 64 = .ok (.getfield 24, 3) := by decide +kernel
theorem dX10_laysBack_67 : decode cX10_laysBack 67 = .ok (.bipush 28, 2) := by decide +kernel
theorem dX10_laysBack_69 : decode cX10_laysBack 69 = .ok (.iload 4, 2) := by decide +kernel
theorem dX10_laysBack_71 : decode cX10_laysBack 71 = .ok (.iadd, 1) := by decide +kernel
theorem dX10_laysBack_72 : decode cX10_laysBack 72 = .ok (.aload_n 1, 1) := by decide +kernel
theorem dX10_laysBack_73 : decode cX10_laysBack 73 = .ok (.bipush 24, 2) := by decide +kernel
theorem dX10_laysBack_75 : decode cX10_laysBack 75 = .ok (.iload 4, 2) := by decide +kernel
theorem dX10_laysBack_77 : decode cX10_laysBack 77 = .ok (.iadd, 1) := by decide +kernel
theorem dX10_laysBack_78 : decode cX10_laysBack 78 = .ok (.iaload, 1) := by decide +kernel
theorem dX10_laysBack_79 : decode cX10_laysBack 79 = .ok (.iastore, 1) := by decide +kernel
theorem dX10_laysBack_80 : decode cX10_laysBack 80 = .ok (.aload_n 0, 1) := by decide +kernel
theorem dX10_laysBack_81 : decode cX10_laysBack 81 = .ok (.getfield 24, 3) := by decide +kernel
theorem dX10_laysBack_84 : decode cX10_laysBack 84 = .ok (.bipush 7, 2) := by decide +kernel
theorem dX10_laysBack_86 : decode cX10_laysBack 86 = .ok (.iload 4, 2) := by decide +kernel
theorem dX10_laysBack_88 : decode cX10_laysBack 88 = .ok (.iadd, 1) := by decide +kernel
theorem dX10_laysBack_89 : decode cX10_laysBack 89 = .ok (.aload_n 1, 1) := by decide +kernel
theorem dX10_laysBack_90 : decode cX10_laysBack 90 = .ok (.bipush 31, 2) := by decide +kernel
theorem dX10_laysBack_92 : decode cX10_laysBack 92 = .ok (.iload 4, 2) := by decide +kernel
theorem dX10_laysBack_94 : decode cX10_laysBack 94 = .ok (.iadd, 1) := by decide +kernel
theorem dX10_laysBack_95 : decode cX10_laysBack 95 = .ok (.iaload, 1) := by decide +kernel
theorem dX10_laysBack_96 : decode cX10_laysBack 96 = .ok (.iastore, 1) := by decide +kernel
theorem dX10_laysBack_97 : decode cX10_laysBack 97 = .ok (.aload_n 0, 1) := by decide +kernel
theorem dX10_laysBack_98 : decode cX10_laysBack 98 = .ok (.getfield 24, 3) := by decide +kernel
theorem dX10_laysBack_101 : decode cX10_laysBack 101 = .ok (.bipush 14, 2) := by decide +kernel
theorem dX10_laysBack_103 : decode cX10_laysBack 103 = .ok (.iload 4, 2) := by decide +kernel
theorem dX10_laysBack_105 : decode cX10_laysBack 105 = .ok (.iadd, 1) := by decide +kernel
theorem dX10_laysBack_106 : decode cX10_laysBack 106 = .ok (.aload_n 1, 1) := by decide +kernel
theorem dX10_laysBack_107 : decode cX10_laysBack 107 = .ok (.bipush 38, 2) := by decide +kernel
theorem dX10_laysBack_109 : decode cX10_laysBack 109 = .ok (.iload 4, 2) := by decide +kernel
theorem dX10_laysBack_111 : decode cX10_laysBack 111 = .ok (.iadd, 1) := by decide +kernel
theorem dX10_laysBack_112 : decode cX10_laysBack 112 = .ok (.iaload, 1) := by decide +kernel
theorem dX10_laysBack_113 : decode cX10_laysBack 113 = .ok (.iastore, 1) := by decide +kernel
theorem dX10_laysBack_114 : decode cX10_laysBack 114 = .ok (.iinc 4 1, 3) := by decide +kernel
theorem dX10_laysBack_117 : decode cX10_laysBack 117 = .ok (.goto (-60), 3) := by decide +kernel
theorem dX10_laysBack_120 : decode cX10_laysBack 120 = .ok (.return_, 1) := by decide +kernel
theorem bX10_laysBack_51 {K : KT} {g : GT} {cm sm : Nat} {cs : Nat × Nat} {c0 : Nat} {c1 : Nat} {x2 : Int} {x3 : Int} {k3 : Int → St → Option (St)} {σ' : St} (hC : Ctx K g RX10 cX10_laysBack 5 0 cm sm) (hcs : cs.1 ≤ cm ∧ cs.2 ≤ sm) (h0 : isO 10 c0 = true) (h1 : isA 1 c1 = true) (hk3 : ∀ (x4 : Int) (σ : St), k3 x4 σ = some σ' → G K g 5 cs 3 [(0, vr c0), (1, vr c1), (2, vi x2), (3, vi x3), (4, vi x4)] [] (SH0, σ)) (hR : RetV K g cX10_laysBack 5 cs (SH0, σ')) : ∀ (x4 : Int) (σ : St), fX10_laysBack_51 c0 c1 x2 x3 k3 x4 σ = some σ' → G K g 5 cs 51 [(0, vr c0), (1, vr c1), (2, vi x2), (3, vi x3), (4, vi x4)] [] (SH0, σ) := by
  intro x4 σ h
  unfold fX10_laysBack_51 at h
  refine g_goto hC dX10_laysBack_51 (tgt := 3) (by decide) ?_
  exact g_pick [0, 1, 2, 3, 4] rfl (hk3 _ _ h)
theorem bX10_laysBack_48 {K : KT} {g : GT} {cm sm : Nat} {cs : Nat × Nat} {c0 : Nat} {c1 : Nat} {x2 : Int} {x3 : Int} {k3 : Int → St → Option (St)} {σ' : St} (hC : Ctx K g RX10 cX10_laysBack 5 0 cm sm) (hcs : cs.1 ≤ cm ∧ cs.2 ≤ sm) (h0 : isO 10 c0 = true) (h1 : isA 1 c1 = true) (hk3 : ∀ (x4 : Int) (σ : St), k3 x4 σ = some σ' → G K g 5 cs 3 [(0, vr c0), (1, vr c1), (2, vi x2), (3, vi x3), (4, vi x4)] [] (SH0, σ)) (hR : RetV K g cX10_laysBack 5 cs (SH0, σ')) : ∀ (x4 : Int) (σ : St), fX10_laysBack_48 c0 c1 x2 x3 k3 x4 σ = some σ' → G K g 5 cs 48 [(0, vr c0), (1, vr c1), (2, vi x2), (3, vi x3), (4, vi x4)] [] (SH0, σ) := by
  intro x4 σ h
  unfold fX10_laysBack_48 at h
  refine g_iinc hC dX10_laysBack_48 4 rfl (Nat.le_of_ble_eq_true rfl) rfl ?_
  exact g_pick [1, 2, 3, 4, 0] rfl (bX10_laysBack_51 hC hcs h0 h1 hk3 hR _ _ h)
theorem bX10_laysBack_117 {K : KT} {g : GT} {cm sm : Nat} {cs : Nat × Nat} {c0 : Nat} {c1 : Nat} {x2 : Int} {x3 : Int} {k57 : Int → St → Option (St)} {σ' : St} (hC : Ctx K g RX10 cX10_laysBack 5 0 cm sm) (hcs : cs.1 ≤ cm ∧ cs.2 ≤ sm) (h0 : isO 10 c0 = true) (h1 : isA 1 c1 = true) (hk57 : ∀ (x4 : Int) (σ : St), k57 x4 σ = some σ' → G K g 5 cs 57 [(0, vr c0), (1, vr c1), (2, vi x2), (3, vi x3), (4, vi x4)] [] (SH0, σ)) (hR : RetV K g cX10_laysBack 5 cs (SH0, σ')) : ∀ (x4 : Int) (σ : St), fX10_laysBack_117 c0 c1 x2 x3 k57 x4 σ = some σ' → G K g 5 cs 117 [(0, vr c0), (1, vr c1), (2, vi x2), (3, vi x3), (4, vi x4)] [] (SH0, σ) := by
  intro x4 σ h
  unfold fX10_laysBack_117 at h
  refine g_goto hC dX10_laysBack_117 (tgt := 57) (by decide) ?_
  exact g_pick [0, 1, 2, 3, 4] rfl (hk57 _ _ h)
theorem bX10_laysBack_114 {K : KT} {g : GT} {cm sm : Nat} {cs : Nat × Nat} {c0 : Nat} {c1 : Nat} {x2 : Int} {x3 : Int} {k57 : Int → St → Option (St)} {σ' : St} (hC : Ctx K g RX10 cX10_laysBack 5 0 cm sm) (hcs : cs.1 ≤ cm ∧ cs.2 ≤ sm) (h0 : isO 10 c0 = true) (h1 : isA 1 c1 = true) (hk57 : ∀ (x4 : Int) (σ : St), k57 x4 σ = some σ' → G K g 5 cs 57 [(0, vr c0), (1, vr c1), (2, vi x2), (3, vi x3), (4, vi x4)] [] (SH0, σ)) (hR : RetV K g cX10_laysBack 5 cs (SH0, σ')) : ∀ (x4 : Int) (σ : St), fX10_laysBack_114 c0 c1 x2 x3 k57 x4 σ = some σ' → G K g 5 cs 114 [(0, vr c0), (1, vr c1), (2, vi x2), (3, vi x3), (4, vi x4)] [] (SH0, σ) := by
  intro x4 σ h
  unfold fX10_laysBack_114 at h
  refine g_iinc hC dX10_laysBack_114 4 rfl (Nat.le_of_ble_eq_true rfl) rfl ?_
  exact g_pick [1, 2, 3, 4, 0] rfl (bX10_laysBack_117 hC hcs h0 h1 hk57 hR _ _ h)
theorem bX10_laysBack_57 {K : KT} {g : GT} {cm sm : Nat} {cs : Nat × Nat} {c0 : Nat} {c1 : Nat} {x2 : Int} {x3 : Int} {σ' : St} (hC : Ctx K g RX10 cX10_laysBack 5 0 cm sm) (hcs : cs.1 ≤ cm ∧ cs.2 ≤ sm) (h0 : isO 10 c0 = true) (h1 : isA 1 c1 = true) (hR : RetV K g cX10_laysBack 5 cs (SH0, σ')) : ∀ (n : Nat) (x4 : Int) (σ : St), fX10_laysBack_57 c0 c1 x2 x3 n x4 σ = some σ' → G K g 5 cs 57 [(0, vr c0), (1, vr c1), (2, vi x2), (3, vi x3), (4, vi x4)] [] (SH0, σ) := by
  intro n
  induction n with
  | zero =>
    intro x4 σ h
    rw [fX10_laysBack_57.eq_1] at h
    cases h
  | succ n ih =>
    intro x4 σ h
    rw [fX10_laysBack_57.eq_2] at h
    refine g_iload hC dX10_laysBack_57 4 rfl ?_
    refine g_iload_n hC dX10_laysBack_59 3 rfl rfl ?_
    refine g_icmp_ge hC dX10_laysBack_60 (tgt := 120) (by decide) (fun h9 => ?_) (fun h9 => ?_)
    · rw [if_pos h9] at h
      exact ret_v h hR dX10_laysBack_120
    · rw [if_neg h9] at h
      refine g_aload_n hC dX10_laysBack_63 0 rfl rfl ?_
      refine g_getr hC dX10_laysBack_64 lfRX10_24 (isO_spec h0) (ft_10_6 h0) ?_
      refine g_bipush hC dX10_laysBack_67 bp_28 ?_
      refine g_iload hC dX10_laysBack_69 4 rfl ?_
      refine g_iadd hC dX10_laysBack_71 ?_
      refine g_aload_n hC dX10_laysBack_72 1 rfl rfl ?_
      refine g_bipush hC dX10_laysBack_73 bp_24 ?_
      refine g_iload hC dX10_laysBack_75 4 rfl ?_
      refine g_iadd hC dX10_laysBack_77 ?_
      obtain ⟨b9, h⟩ := of_ite h
      refine g_iald hC dX10_laysBack_78 (isA_spec h1) b9 ?_
      obtain ⟨b9, h⟩ := of_ite h
      refine g_iast hC dX10_laysBack_79 (isA_spec (rf_10_6 h0)) b9 ?_
      refine g_aload_n hC dX10_laysBack_80 0 rfl rfl ?_
      refine g_getr hC dX10_laysBack_81 lfRX10_24 (isO_spec h0) (ft_10_6 h0) ?_
      refine g_bipush hC dX10_laysBack_84 bp_7 ?_
      refine g_iload hC dX10_laysBack_86 4 rfl ?_
      refine g_iadd hC dX10_laysBack_88 ?_
      refine g_aload_n hC dX10_laysBack_89 1 rfl rfl ?_
      refine g_bipush hC dX10_laysBack_90 bp_31 ?_
      refine g_iload hC dX10_laysBack_92 4 rfl ?_
      refine g_iadd hC dX10_laysBack_94 ?_
      obtain ⟨b9, h⟩ := of_ite h
      refine g_iald hC dX10_laysBack_95 (isA_spec h1) b9 ?_
      obtain ⟨b9, h⟩ := of_ite h
      refine g_iast hC dX10_laysBack_96 (isA_spec (rf_10_6 h0)) b9 ?_
      refine g_aload_n hC dX10_laysBack_97 0 rfl rfl ?_
      refine g_getr hC dX10_laysBack_98 lfRX10_24 (isO_spec h0) (ft_10_6 h0) ?_
      refine g_bipush hC dX10_laysBack_101 bp_14 ?_
      refine g_iload hC dX10_laysBack_103 4 rfl ?_
      refine g_iadd hC dX10_laysBack_105 ?_
      refine g_aload_n hC dX10_laysBack_106 1 rfl rfl ?_
      refine g_bipush hC dX10_laysBack_107 bp_38 ?_
      refine g_iload hC dX10_laysBack_109 4 rfl ?_
      refine g_iadd hC dX10_laysBack_111 ?_
      obtain ⟨b9, h⟩ := of_ite h
      refine g_iald hC dX10_laysBack_112 (isA_spec h1) b9 ?_
      obtain ⟨b9, h⟩ := of_ite h
      refine g_iast hC dX10_laysBack_113 (isA_spec (rf_10_6 h0)) b9 ?_
      exact g_pick [0, 1, 2, 3, 4] rfl (bX10_laysBack_114 hC hcs h0 h1 ih hR _ _ h)
theorem bX10_laysBack_3 {K : KT} {g : GT} {cm sm : Nat} {cs : Nat × Nat} {c0 : Nat} {c1 : Nat} {x2 : Int} {x3 : Int} {σ' : St} (hC : Ctx K g RX10 cX10_laysBack 5 0 cm sm) (hcs : cs.1 ≤ cm ∧ cs.2 ≤ sm) (h0 : isO 10 c0 = true) (h1 : isA 1 c1 = true) (hR : RetV K g cX10_laysBack 5 cs (SH0, σ')) : ∀ (n : Nat) (x4 : Int) (σ : St), fX10_laysBack_3 c0 c1 x2 x3 n x4 σ = some σ' → G K g 5 cs 3 [(0, vr c0), (1, vr c1), (2, vi x2), (3, vi x3), (4, vi x4)] [] (SH0, σ) := by
  intro n
  induction n with
  | zero =>
    intro x4 σ h
    rw [fX10_laysBack_3.eq_1] at h
    cases h
  | succ n ih =>
    intro x4 σ h
    rw [fX10_laysBack_3.eq_2] at h
    refine g_iload hC dX10_laysBack_3 4 rfl ?_
    refine g_iload_n hC dX10_laysBack_5 2 rfl rfl ?_
    refine g_icmp_ge hC dX10_laysBack_6 (tgt := 54) (by decide) (fun h9 => ?_) (fun h9 => ?_)
    · rw [if_pos h9] at h
      refine g_iconst hC dX10_laysBack_54 ok_0 ?_
      refine g_istore hC dX10_laysBack_55 (Nat.le_of_ble_eq_true rfl) rfl ?_
      exact g_pick [1, 2, 3, 4, 0] rfl (bX10_laysBack_57 hC hcs h0 h1 hR _ _ _ h)
    · rw [if_neg h9] at h
      refine g_aload_n hC dX10_laysBack_9 0 rfl rfl ?_
      refine g_getr hC dX10_laysBack_10 lfRX10_15 (isO_spec h0) (ft_10_2 h0) ?_
      refine g_iload hC dX10_laysBack_13 4 rfl ?_
      refine g_aload_n hC dX10_laysBack_15 1 rfl rfl ?_
      refine g_iload hC dX10_laysBack_16 4 rfl ?_
      obtain ⟨b9, h⟩ := of_ite h
      refine g_iald hC dX10_laysBack_18 (isA_spec h1) b9 ?_
      obtain ⟨b9, h⟩ := of_ite h
      refine g_iast hC dX10_laysBack_19 (isA_spec (rf_10_2 h0)) b9 ?_
      refine g_aload_n hC dX10_laysBack_20 0 rfl rfl ?_
      refine g_getr hC dX10_laysBack_21 lfRX10_18 (isO_spec h0) (ft_10_3 h0) ?_
      refine g_iload hC dX10_laysBack_24 4 rfl ?_
      refine g_aload_n hC dX10_laysBack_26 1 rfl rfl ?_
      refine g_bipush hC dX10_laysBack_27 bp_8 ?_
      refine g_iload hC dX10_laysBack_29 4 rfl ?_
      refine g_iadd hC dX10_laysBack_31 ?_
      obtain ⟨b9, h⟩ := of_ite h
      refine g_iald hC dX10_laysBack_32 (isA_spec h1) b9 ?_
      obtain ⟨b9, h⟩ := of_ite h
      refine g_iast hC dX10_laysBack_33 (isA_spec (rf_10_3 h0)) b9 ?_
      refine g_aload_n hC dX10_laysBack_34 0 rfl rfl ?_
      refine g_getr hC dX10_laysBack_35 lfRX10_21 (isO_spec h0) (ft_10_4 h0) ?_
      refine g_iload hC dX10_laysBack_38 4 rfl ?_
      refine g_aload_n hC dX10_laysBack_40 1 rfl rfl ?_
      refine g_bipush hC dX10_laysBack_41 bp_16 ?_
      refine g_iload hC dX10_laysBack_43 4 rfl ?_
      refine g_iadd hC dX10_laysBack_45 ?_
      obtain ⟨b9, h⟩ := of_ite h
      refine g_iald hC dX10_laysBack_46 (isA_spec h1) b9 ?_
      obtain ⟨b9, h⟩ := of_ite h
      refine g_iast hC dX10_laysBack_47 (isA_spec (rf_10_4 h0)) b9 ?_
      exact g_pick [0, 1, 2, 3, 4] rfl (bX10_laysBack_48 hC hcs h0 h1 ih hR _ _ h)
theorem bX10_laysBack_0 {K : KT} {g : GT} {cm sm : Nat} {cs : Nat × Nat} {c0 : Nat} {c1 : Nat} {x2 : Int} {x3 : Int} {σ' : St} (hC : Ctx K g RX10 cX10_laysBack 5 0 cm sm) (hcs : cs.1 ≤ cm ∧ cs.2 ≤ sm) (h0 : isO 10 c0 = true) (h1 : isA 1 c1 = true) (hR : RetV K g cX10_laysBack 5 cs (SH0, σ')) : ∀ (σ : St), fX10_laysBack c0 c1 x2 x3 σ = some σ' → G K g 5 cs 0 [(0, vr c0), (1, vr c1), (2, vi x2), (3, vi x3)] [] (SH0, σ) := by
  intro σ h
  unfold fX10_laysBack at h
  refine g_iconst hC dX10_laysBack_0 ok_0 ?_
  refine g_istore hC dX10_laysBack_1 (Nat.le_of_ble_eq_true rfl) rfl ?_
  exact g_pick [1, 2, 3, 4, 0] rfl (bX10_laysBack_3 hC hcs h0 h1 hR _ _ _ h)
theorem tX10_laysBack {l : Launch} {g : GT} {c0 : Nat} {c1 : Nat} {x2 : Int} {x3 : Int} {σ σ' : St} (h0 : isO 10 c0 = true) (h1 : isA 1 c1 = true) (h : fX10_laysBack c0 c1 x2 x3 σ = some σ') : Cn l g yX10_laysBack cX10_laysBack 5 none 0 0 0 [vr c0, vr c1, vi x2, vi x3] (SH0, σ) none (SH0, σ') :=
  Cn.ofV (by decide) (Nat.le_of_ble_eq_true rfl) (fun K e hC hR => (bX10_laysBack_0 hC ⟨Nat.le_refl _, Nat.le_refl _⟩ h0 h1 hR _ h))
theorem dX10_laysBack__0 : decode cX10_laysBack_ 0 = .ok (.aload_n 0, 1) := by decide +kernel
theorem dX10_laysBack__1 : decode cX10_laysBack_ 1 = .ok (.aload_n 0, 1) := by decide +kernel
theorem dX10_laysBack__2 : decode cX10_laysBack_ 2 = .ok (.getfield 88, 3) := by decide +kernel
theorem dX10_laysBack__5 : decode cX10_laysBack_ 5 = .ok (.bipush 8, 2) := by decide +kernel
theorem dX10_laysBack__7 : decode cX10_laysBack_ 7 = .ok (.bipush 7, 2) := by decide +kernel
theorem dX10_laysBack__9 : decode cX10_laysBack_ 9 = .ok (.invokevirtual 248, 3) := by decide +kernel
theorem dX10_laysBack__12 : decode cX10_laysBack_ 12 = .ok (.return_, 1) := by decide +kernel
theorem bX10_laysBack__0 {K : KT} {g : GT} {cm sm : Nat} {cs : Nat × Nat} {c0 : Nat} {σ' : St} (hC : Ctx K g RX10 cX10_laysBack_ 1 1 cm sm) (hcs : cs.1 ≤ cm ∧ cs.2 ≤ sm) (h0 : isO 10 c0 = true) (hR : RetV K g cX10_laysBack_ 1 cs (SH0, σ')) : ∀ (σ : St), fX10_laysBack_ c0 σ = some σ' → G K g 1 cs 0 [(0, vr c0)] [] (SH0, σ) := by
  intro σ h
  unfold fX10_laysBack_ at h
  refine g_aload_n hC dX10_laysBack__0 0 rfl rfl ?_
  refine g_aload_n hC dX10_laysBack__1 0 rfl rfl ?_
  refine g_getr hC dX10_laysBack__2 lfRX10_88 (isO_spec h0) (ft_10_41 h0) ?_
  refine g_bipush hC dX10_laysBack__5 bp_8 ?_
  refine g_bipush hC dX10_laysBack__7 bp_7 ?_
  obtain ⟨s1, e1, h⟩ := of_bind h
  try dsimp only at h
  refine s_callVv hC dX10_laysBack__9 (tX10_laysBack h0 (rf_10_41 h0) e1) miX10_laysBack mvX10_laysBack mlRX10_248 (isO_spec h0) vc_10 rfl rfl (Nat.le_of_ble_eq_true rfl) (Nat.le_of_ble_eq_true rfl) (Nat.le_of_ble_eq_true rfl) hcs ?_
  exact ret_v h hR dX10_laysBack__12
theorem tX10_laysBack_ {l : Launch} {g : GT} {c0 : Nat} {σ σ' : St} (h0 : isO 10 c0 = true) (h : fX10_laysBack_ c0 σ = some σ') : Cn l g yX10_laysBack_ cX10_laysBack_ 1 none 1 0 0 [vr c0] (SH0, σ) none (SH0, σ') :=
  Cn.ofV (by decide) (Nat.le_of_ble_eq_true rfl) (fun K e hC hR => (bX10_laysBack__0 hC ⟨Nat.le_refl _, Nat.le_refl _⟩ h0 hR _ h))
theorem dX10_isThing_0 : decode cX10_isThing 0 = .ok (.iload_n 1, 1) := by decide +kernel
theorem dX10_isThing_1 : decode cX10_isThing 1 = .ok (.iconst 0, 1) := by decide +kernel
theorem dX10_isThing_2 : decode cX10_isThing 2 = .ok (.aload_n 0, 1) := by decide +kernel
theorem dX10_isThing_3 : decode cX10_isThing 3 = .ok (.getfield 97, 3) := by decide +kernel
theorem dX10_isThing_6 : decode cX10_isThing 6 = .ok (.iconst 1, 1) := by decide +kernel
theorem dX10_isThing_7 : decode cX10_isThing 7 = .ok (.isub, 1) := by decide +kernel
theorem dX10_isThing_8 : decode cX10_isThing 8 = .ok (.invokestatic 101, 3) := by decide +kernel
theorem dX10_isThing_11 : decode cX10_isThing 11 = .ok (.ireturn, 1) := by decide +kernel
theorem bX10_isThing_0 {K : KT} {g : GT} {cm sm : Nat} {cs : Nat × Nat} {c0 : Nat} {x1 : Int} {r : Int} {σ' : St} (hC : Ctx K g RX10 cX10_isThing 2 1 cm sm) (hcs : cs.1 ≤ cm ∧ cs.2 ≤ sm) (h0 : isO 10 c0 = true) (hR : RetZ K g cX10_isThing 2 cs r (SH0, σ')) : ∀ (σ : St), fX10_isThing c0 x1 σ = some (r, σ') → G K g 2 cs 0 [(0, vr c0), (1, vi x1)] [] (SH0, σ) := by
  intro σ h
  unfold fX10_isThing at h
  refine g_iload_n hC dX10_isThing_0 1 rfl rfl ?_
  refine g_iconst hC dX10_isThing_1 ok_0 ?_
  refine g_aload_n hC dX10_isThing_2 0 rfl rfl ?_
  refine g_geti hC dX10_isThing_3 lfRX10_97 (isO_spec h0) (ft_10_0 h0) ?_
  refine g_iconst hC dX10_isThing_6 ok_1 ?_
  refine g_isub hC dX10_isThing_7 ?_
  obtain ⟨⟨r1, s1⟩, e1, h⟩ := of_bind h
  try dsimp only at h
  refine s_callSi hC dX10_isThing_8 (tX10_within e1) miX10_within msX10_within mlRX10_101 rfl rfl (Nat.le_of_ble_eq_true rfl) (Nat.le_of_ble_eq_true rfl) (Nat.le_of_ble_eq_true rfl) hcs ?_
  obtain ⟨b9, h⟩ := of_ite h
  exact ret_z h hR b9 dX10_isThing_11
theorem tX10_isThing {l : Launch} {g : GT} {c0 : Nat} {x1 : Int} {σ σ' : St} {r : Int} (h0 : isO 10 c0 = true) (h : fX10_isThing c0 x1 σ = some (r, σ')) : Cn l g yX10_isThing cX10_isThing 2 (some .boolean) 1 0 0 [vr c0, vi x1] (SH0, σ) (some (vi r)) (SH0, σ') :=
  Cn.ofZ (by decide) (Nat.le_of_ble_eq_true rfl) (fun K e hC hR => (bX10_isThing_0 hC ⟨Nat.le_refl _, Nat.le_refl _⟩ h0 hR _ h))
theorem dX10_toldAt_0 : decode cX10_toldAt 0 = .ok (.aload_n 0, 1) := by decide +kernel
theorem dX10_toldAt_1 : decode cX10_toldAt 1 = .ok (.getfield 84, 3) := by decide +kernel
theorem dX10_toldAt_4 : decode cX10_toldAt 4 = .ok (.bipush 60, 2) := by decide +kernel
theorem dX10_toldAt_6 : decode cX10_toldAt 6 = .ok (.iload_n 1, 1) := by decide +kernel
theorem dX10_toldAt_7 : decode cX10_toldAt 7 = .ok (.imul, 1) := by decide +kernel
theorem dX10_toldAt_8 : decode cX10_toldAt 8 = .ok (.iload_n 2, 1) := by decide +kernel
theorem dX10_toldAt_9 : decode cX10_toldAt 9 = .ok (.iadd, 1) := by decide +kernel
theorem dX10_toldAt_10 : decode cX10_toldAt 10 = .ok (.laload, 1) := by decide +kernel
theorem dX10_toldAt_11 : decode cX10_toldAt 11 = .ok (.l2i, 1) := by decide +kernel
theorem dX10_toldAt_12 : decode cX10_toldAt 12 = .ok (.ireturn, 1) := by decide +kernel
theorem bX10_toldAt_0 {K : KT} {g : GT} {cm sm : Nat} {cs : Nat × Nat} {c0 : Nat} {x1 : Int} {x2 : Int} {r : Int} {σ' : St} (hC : Ctx K g RX10 cX10_toldAt 3 0 cm sm) (hcs : cs.1 ≤ cm ∧ cs.2 ≤ sm) (h0 : isO 10 c0 = true) (hR : RetI K g cX10_toldAt 3 cs r (SH0, σ')) : ∀ (σ : St), fX10_toldAt c0 x1 x2 σ = some (r, σ') → G K g 3 cs 0 [(0, vr c0), (1, vi x1), (2, vi x2)] [] (SH0, σ) := by
  intro σ h
  unfold fX10_toldAt at h
  refine g_aload_n hC dX10_toldAt_0 0 rfl rfl ?_
  refine g_getr hC dX10_toldAt_1 lfRX10_84 (isO_spec h0) (ft_10_40 h0) ?_
  refine g_bipush hC dX10_toldAt_4 bp_60 ?_
  refine g_iload_n hC dX10_toldAt_6 1 rfl rfl ?_
  refine g_imul hC dX10_toldAt_7 ?_
  refine g_iload_n hC dX10_toldAt_8 2 rfl rfl ?_
  refine g_iadd hC dX10_toldAt_9 ?_
  obtain ⟨b9, h⟩ := of_ite h
  refine g_lald hC dX10_toldAt_10 (isA_spec (rf_10_40 h0)) b9 ?_
  refine g_l2i hC dX10_toldAt_11 ?_
  exact ret_i h hR dX10_toldAt_12
theorem tX10_toldAt {l : Launch} {g : GT} {c0 : Nat} {x1 : Int} {x2 : Int} {σ σ' : St} {r : Int} (h0 : isO 10 c0 = true) (h : fX10_toldAt c0 x1 x2 σ = some (r, σ')) : Cn l g yX10_toldAt cX10_toldAt 3 (some .int) 0 0 0 [vr c0, vi x1, vi x2] (SH0, σ) (some (vi r)) (SH0, σ') :=
  Cn.ofI (by decide) (Nat.le_of_ble_eq_true rfl) (fun K e hC hR => (bX10_toldAt_0 hC ⟨Nat.le_refl _, Nat.le_refl _⟩ h0 hR _ h))
theorem dX10_listed_0 : decode cX10_listed 0 = .ok (.iconst 0, 1) := by decide +kernel
theorem dX10_listed_1 : decode cX10_listed 1 = .ok (.istore_n 2, 1) := by decide +kernel
theorem dX10_listed_2 : decode cX10_listed 2 = .ok (.iload_n 2, 1) := by decide +kernel
theorem dX10_listed_3 : decode cX10_listed 3 = .ok (.aload_n 0, 1) := by decide +kernel
theorem dX10_listed_4 : decode cX10_listed 4 = .ok (.getfield 81, 3) := by decide +kernel
theorem dX10_listed_7 : decode cX10_listed 7 = .ok (.iload_n 1, 1) := by decide +kernel
theorem dX10_listed_8 : decode cX10_listed 8 = .ok (.iaload, 1) := by decide +kernel
theorem dX10_listed_9 : decode cX10_listed 9 = .ok (.if_icmp .ge 28, 3) := by decide +kernel
theorem dX10_listed_12 : decode cX10_listed 12 = .ok (.iload_n 2, 1) := by decide +kernel
theorem dX10_listed_13 : decode cX10_listed 13 = .ok (.bipush 16, 2) := by decide +kernel
theorem dX10_listed_15 : decode cX10_listed 15 = .ok (.if_icmp .ge 22, 3) := by decide +kernel
theorem dX10_listed_18 : decode cX10_listed 18 = .ok (.aload_n 0, 1) := by decide +kernel
theorem dX10_listed_19 : decode cX10_listed 19 = .ok (.aload_n 0, 1) := by decide +kernel
theorem dX10_listed_20 : decode cX10_listed 20 = .ok (.iload_n 1, 1) := by decide +kernel
theorem dX10_listed_21 : decode cX10_listed 21 = .ok (.iload_n 2, 1) := by decide +kernel
theorem dX10_listed_22 : decode cX10_listed 22 = .ok (.invokevirtual 118, 3) := by decide +kernel
theorem dX10_listed_25 : decode cX10_listed 25 = .ok (.invokevirtual 122, 3) := by decide +kernel
theorem dX10_listed_28 : decode cX10_listed 28 = .ok (.ifCond .eq 9, 3) := by decide +kernel
theorem dX10_listed_31 : decode cX10_listed 31 = .ok (.iinc 2 1, 3) := by decide +kernel
theorem dX10_listed_34 : decode cX10_listed 34 = .ok (.goto (-32), 3) := by decide +kernel
theorem dX10_listed_37 : decode cX10_listed 37 = .ok (.iload_n 2, 1) := by decide +kernel
theorem dX10_listed_38 : decode cX10_listed 38 = .ok (.ireturn, 1) := by decide +kernel
theorem bX10_listed_2 {K : KT} {g : GT} {cm sm : Nat} {cs : Nat × Nat} {c0 : Nat} {x1 : Int} {r : Int} {σ' : St} (hC : Ctx K g RX10 cX10_listed 3 2 cm sm) (hcs : cs.1 ≤ cm ∧ cs.2 ≤ sm) (h0 : isO 10 c0 = true) (hR : RetI K g cX10_listed 3 cs r (SH0, σ')) : ∀ (n : Nat) (x2 : Int) (σ : St), fX10_listed_2 c0 x1 n x2 σ = some (r, σ') → G K g 3 cs 2 [(0, vr c0), (1, vi x1), (2, vi x2)] [] (SH0, σ) := by
  intro n
  induction n with
  | zero =>
    intro x2 σ h
    rw [fX10_listed_2.eq_1] at h
    cases h
  | succ n ih =>
    intro x2 σ h
    rw [fX10_listed_2.eq_2] at h
    refine g_iload_n hC dX10_listed_2 2 rfl rfl ?_
    refine g_aload_n hC dX10_listed_3 0 rfl rfl ?_
    refine g_getr hC dX10_listed_4 lfRX10_81 (isO_spec h0) (ft_10_39 h0) ?_
    refine g_iload_n hC dX10_listed_7 1 rfl rfl ?_
    obtain ⟨b9, h⟩ := of_ite h
    refine g_iald hC dX10_listed_8 (isA_spec (rf_10_39 h0)) b9 ?_
    refine g_icmp_ge hC dX10_listed_9 (tgt := 37) (by decide) (fun h9 => ?_) (fun h9 => ?_)
    · rw [if_pos h9] at h
      refine g_iload_n hC dX10_listed_37 2 rfl rfl ?_
      exact ret_i h hR dX10_listed_38
    · rw [if_neg h9] at h
      refine g_iload_n hC dX10_listed_12 2 rfl rfl ?_
      refine g_bipush hC dX10_listed_13 bp_16 ?_
      refine g_icmp_ge hC dX10_listed_15 (tgt := 37) (by decide) (fun h9 => ?_) (fun h9 => ?_)
      · rw [if_pos h9] at h
        refine g_iload_n hC dX10_listed_37 2 rfl rfl ?_
        exact ret_i h hR dX10_listed_38
      · rw [if_neg h9] at h
        refine g_aload_n hC dX10_listed_18 0 rfl rfl ?_
        refine g_aload_n hC dX10_listed_19 0 rfl rfl ?_
        refine g_iload_n hC dX10_listed_20 1 rfl rfl ?_
        refine g_iload_n hC dX10_listed_21 2 rfl rfl ?_
        obtain ⟨⟨r1, s1⟩, e1, h⟩ := of_bind h
        try dsimp only at h
        refine s_callVi hC dX10_listed_22 (tX10_toldAt h0 e1) miX10_toldAt mvX10_toldAt mlRX10_118 (isO_spec h0) vc_10 rfl rfl (Nat.le_of_ble_eq_true rfl) (Nat.le_of_ble_eq_true rfl) (Nat.le_of_ble_eq_true rfl) hcs ?_
        obtain ⟨⟨r2, s2⟩, e2, h⟩ := of_bind h
        try dsimp only at h
        refine s_callVi hC dX10_listed_25 (tX10_isThing h0 e2) miX10_isThing mvX10_isThing mlRX10_122 (isO_spec h0) vc_10 rfl rfl (Nat.le_of_ble_eq_true rfl) (Nat.le_of_ble_eq_true rfl) (Nat.le_of_ble_eq_true rfl) hcs ?_
        refine g_if_eq hC dX10_listed_28 (tgt := 37) (by decide) (fun h9 => ?_) (fun h9 => ?_)
        · rw [if_pos h9] at h
          refine g_iload_n hC dX10_listed_37 2 rfl rfl ?_
          exact ret_i h hR dX10_listed_38
        · rw [if_neg h9] at h
          refine g_iinc hC dX10_listed_31 2 rfl (Nat.le_of_ble_eq_true rfl) rfl ?_
          refine g_goto hC dX10_listed_34 (tgt := 2) (by decide) ?_
          exact g_pick [1, 2, 0] rfl (ih _ _ h)
theorem bX10_listed_0 {K : KT} {g : GT} {cm sm : Nat} {cs : Nat × Nat} {c0 : Nat} {x1 : Int} {r : Int} {σ' : St} (hC : Ctx K g RX10 cX10_listed 3 2 cm sm) (hcs : cs.1 ≤ cm ∧ cs.2 ≤ sm) (h0 : isO 10 c0 = true) (hR : RetI K g cX10_listed 3 cs r (SH0, σ')) : ∀ (σ : St), fX10_listed c0 x1 σ = some (r, σ') → G K g 3 cs 0 [(0, vr c0), (1, vi x1)] [] (SH0, σ) := by
  intro σ h
  unfold fX10_listed at h
  refine g_iconst hC dX10_listed_0 ok_0 ?_
  refine g_istore_n hC dX10_listed_1 rfl (Nat.le_of_ble_eq_true rfl) rfl ?_
  exact g_pick [1, 2, 0] rfl (bX10_listed_2 hC hcs h0 hR _ _ _ h)
theorem tX10_listed {l : Launch} {g : GT} {c0 : Nat} {x1 : Int} {σ σ' : St} {r : Int} (h0 : isO 10 c0 = true) (h : fX10_listed c0 x1 σ = some (r, σ')) : Cn l g yX10_listed cX10_listed 3 (some .int) 2 0 0 [vr c0, vi x1] (SH0, σ) (some (vi r)) (SH0, σ') :=
  Cn.ofI (by decide) (Nat.le_of_ble_eq_true rfl) (fun K e hC hR => (bX10_listed_0 hC ⟨Nat.le_refl _, Nat.le_refl _⟩ h0 hR _ h))
theorem dX10_noBytes_0 : decode cX10_noBytes 0 = .ok (.aload_n 0, 1) := by decide +kernel
theorem dX10_noBytes_1 : decode cX10_noBytes 1 = .ok (.getfield 78, 3) := by decide +kernel
theorem dX10_noBytes_4 : decode cX10_noBytes 4 = .ok (.iload_n 1, 1) := by decide +kernel
theorem dX10_noBytes_5 : decode cX10_noBytes 5 = .ok (.iaload, 1) := by decide +kernel
theorem dX10_noBytes_6 : decode cX10_noBytes 6 = .ok (.iconst (-1), 1) := by decide +kernel
theorem dX10_noBytes_7 : decode cX10_noBytes 7 = .ok (.if_icmp .ne 8, 3) := by decide +kernel
theorem dX10_noBytes_10 : decode cX10_noBytes 10 = .ok (.bipush (-11), 2) := by decide +kernel
theorem dX10_noBytes_12 : decode cX10_noBytes 12 = .ok (.goto 18, 3) := by decide +kernel
theorem dX10_noBytes_15 : decode cX10_noBytes 15 = .ok (.aload_n 0, 1) := by decide +kernel
theorem dX10_noBytes_16 : decode cX10_noBytes 16 = .ok (.getfield 78, 3) := by decide +kernel
theorem dX10_noBytes_19 : decode cX10_noBytes 19 = .ok (.iload_n 1, 1) := by decide +kernel
theorem dX10_noBytes_20 : decode cX10_noBytes 20 = .ok (.iaload, 1) := by decide +kernel
theorem dX10_noBytes_21 : decode cX10_noBytes 21 = .ok (.ifCond .eq 8, 3) := by decide +kernel
theorem dX10_noBytes_24 : decode cX10_noBytes 24 = .ok (.bipush (-12), 2) := by decide +kernel
theorem dX10_noBytes_26 : decode cX10_noBytes 26 = .ok (.goto 4, 3) := by decide +kernel
theorem dX10_noBytes_29 : decode cX10_noBytes 29 = .ok (.iconst 0, 1) := by decide +kernel
theorem dX10_noBytes_30 : decode cX10_noBytes 30 = .ok (.ireturn, 1) := by decide +kernel
theorem bX10_noBytes_0 {K : KT} {g : GT} {cm sm : Nat} {cs : Nat × Nat} {c0 : Nat} {x1 : Int} {r : Int} {σ' : St} (hC : Ctx K g RX10 cX10_noBytes 2 0 cm sm) (hcs : cs.1 ≤ cm ∧ cs.2 ≤ sm) (h0 : isO 10 c0 = true) (hR : RetI K g cX10_noBytes 2 cs r (SH0, σ')) : ∀ (σ : St), fX10_noBytes c0 x1 σ = some (r, σ') → G K g 2 cs 0 [(0, vr c0), (1, vi x1)] [] (SH0, σ) := by
  intro σ h
  unfold fX10_noBytes at h
  refine g_aload_n hC dX10_noBytes_0 0 rfl rfl ?_
  refine g_getr hC dX10_noBytes_1 lfRX10_78 (isO_spec h0) (ft_10_38 h0) ?_
  refine g_iload_n hC dX10_noBytes_4 1 rfl rfl ?_
  obtain ⟨b9, h⟩ := of_ite h
  refine g_iald hC dX10_noBytes_5 (isA_spec (rf_10_38 h0)) b9 ?_
  refine g_iconst hC dX10_noBytes_6 ok_m1 ?_
  refine g_icmp_ne hC dX10_noBytes_7 (tgt := 15) (by decide) (fun h9 => ?_) (fun h9 => ?_)
  · rw [if_neg h9] at h
    refine g_aload_n hC dX10_noBytes_15 0 rfl rfl ?_
    refine g_getr hC dX10_noBytes_16 lfRX10_78 (isO_spec h0) (ft_10_38 h0) ?_
    refine g_iload_n hC dX10_noBytes_19 1 rfl rfl ?_
    obtain ⟨b9, h⟩ := of_ite h
    refine g_iald hC dX10_noBytes_20 (isA_spec (rf_10_38 h0)) b9 ?_
    refine g_if_eq hC dX10_noBytes_21 (tgt := 29) (by decide) (fun h9 => ?_) (fun h9 => ?_)
    · rw [if_pos h9] at h
      refine g_iconst hC dX10_noBytes_29 ok_0 ?_
      exact ret_i h hR dX10_noBytes_30
    · rw [if_neg h9] at h
      refine g_bipush hC dX10_noBytes_24 bp_m12 ?_
      refine g_goto hC dX10_noBytes_26 (tgt := 30) (by decide) ?_
      exact ret_i h hR dX10_noBytes_30
  · rw [if_pos h9] at h
    refine g_bipush hC dX10_noBytes_10 bp_m11 ?_
    refine g_goto hC dX10_noBytes_12 (tgt := 30) (by decide) ?_
    exact ret_i h hR dX10_noBytes_30
theorem tX10_noBytes {l : Launch} {g : GT} {c0 : Nat} {x1 : Int} {σ σ' : St} {r : Int} (h0 : isO 10 c0 = true) (h : fX10_noBytes c0 x1 σ = some (r, σ')) : Cn l g yX10_noBytes cX10_noBytes 2 (some .int) 0 0 0 [vr c0, vi x1] (SH0, σ) (some (vi r)) (SH0, σ') :=
  Cn.ofI (by decide) (Nat.le_of_ble_eq_true rfl) (fun K e hC hR => (bX10_noBytes_0 hC ⟨Nat.le_refl _, Nat.le_refl _⟩ h0 hR _ h))
theorem dX10_after_0 : decode cX10_after 0 = .ok (.iload_n 1, 1) := by decide +kernel
theorem dX10_after_1 : decode cX10_after 1 = .ok (.invokestatic 112, 3) := by decide +kernel
theorem dX10_after_4 : decode cX10_after 4 = .ok (.ifCond .eq 31, 3) := by decide +kernel
theorem dX10_after_7 : decode cX10_after 7 = .ok (.iload_n 3, 1) := by decide +kernel
theorem dX10_after_8 : decode cX10_after 8 = .ok (.iconst 0, 1) := by decide +kernel
theorem dX10_after_9 : decode cX10_after 9 = .ok (.iconst 2, 1) := by decide +kernel
theorem dX10_after_10 : decode cX10_after 10 = .ok (.invokestatic 101, 3) := by decide +kernel
theorem dX10_after_13 : decode cX10_after 13 = .ok (.ifCond .eq 22, 3) := by decide +kernel
theorem dX10_after_16 : decode cX10_after 16 = .ok (.iload_n 3, 1) := by decide +kernel
theorem dX10_after_17 : decode cX10_after 17 = .ok (.ifCond .ne 14, 3) := by decide +kernel
theorem dX10_after_20 : decode cX10_after 20 = .ok (.aload_n 0, 1) := by decide +kernel
theorem dX10_after_21 : decode cX10_after 21 = .ok (.iload_n 2, 1) := by decide +kernel
theorem dX10_after_22 : decode cX10_after 22 = .ok (.invokevirtual 125, 3) := by decide +kernel
theorem dX10_after_25 : decode cX10_after 25 = .ok (.ifCond .eq 10, 3) := by decide +kernel
theorem dX10_after_28 : decode cX10_after 28 = .ok (.goto 9, 3) := by decide +kernel
theorem dX10_after_31 : decode cX10_after 31 = .ok (.iload_n 2, 1) := by decide +kernel
theorem dX10_after_32 : decode cX10_after 32 = .ok (.ifCond .eq 5, 3) := by decide +kernel
theorem dX10_after_35 : decode cX10_after 35 = .ok (.iconst (-1), 1) := by decide +kernel
theorem dX10_after_36 : decode cX10_after 36 = .ok (.ireturn, 1) := by decide +kernel
theorem dX10_after_37 : decode cX10_after 37 = .ok (.aload_n 0, 1) := by decide +kernel
theorem dX10_after_38 : decode cX10_after 38 = .ok (.iload_n 1, 1) := by decide +kernel
theorem dX10_after_39 : decode cX10_after 39 = .ok (.invokevirtual 252, 3) := by decide +kernel
theorem dX10_after_42 : decode cX10_after 42 = .ok (.istore 4, 2) := by decide +kernel
theorem dX10_after_44 : decode cX10_after 44 = .ok (.iload 4, 2) := by decide +kernel
theorem dX10_after_46 : decode cX10_after 46 = .ok (.ifCond .ge 6, 3) := by decide +kernel
theorem dX10_after_49 : decode cX10_after 49 = .ok (.iload 4, 2) := by decide +kernel
theorem dX10_after_51 : decode cX10_after 51 = .ok (.ireturn, 1) := by decide +kernel
theorem dX10_after_52 : decode cX10_after 52 = .ok (.aload_n 0, 1) := by decide +kernel
theorem dX10_after_53 : decode cX10_after 53 = .ok (.aload_n 0, 1) := by decide +kernel
theorem dX10_after_54 : decode cX10_after 54 = .ok (.getfield 88, 3) := by decide +kernel
theorem dX10_after_57 : decode cX10_after 57 = .ok (.invokevirtual 258, 3) := by decide +kernel
theorem dX10_after_60 : decode cX10_after 60 = .ok (.iconst 0, 1) := by decide +kernel
theorem dX10_after_61 : decode cX10_after 61 = .ok (.istore 5, 2) := by decide +kernel
theorem dX10_after_63 : decode cX10_after 63 = .ok (.iconst 0, 1) := by decide +kernel
theorem dX10_after_64 : decode cX10_after 64 = .ok (.istore 6, 2) := by decide +kernel
theorem dX10_after_66 : decode cX10_after 66 = .ok (.aload_n 0, 1) := by decide +kernel
theorem dX10_after_67 : decode cX10_after 67 = .ok (.iload_n 1, 1) := by decide +kernel
theorem dX10_after_68 : decode cX10_after 68 = .ok (.invokevirtual 255, 3) := by decide +kernel
theorem dX10_after_71 : decode cX10_after 71 = .ok (.istore 7, 2) := by decide +kernel
theorem dX10_after_73 : decode cX10_after 73 = .ok (.iconst 0, 1) := by decide +kernel
theorem dX10_after_74 : decode cX10_after 74 = .ok (.istore 8, 2) := by decide +kernel
theorem dX10_after_76 : decode cX10_after 76 = .ok (.iload 8, 2) := by decide +kernel
theorem dX10_after_78 : decode cX10_after 78 = .ok (.iload 7, 2) := by decide +kernel
theorem dX10_after_80 : decode cX10_after 80 = .ok (.if_icmp .ge 49, 3) := by decide +kernel
theorem dX10_after_83 : decode cX10_after 83 = .ok (.aload_n 0, 1) := by decide +kernel
theorem dX10_after_84 : decode cX10_after 84 = .ok (.aload_n 0, 1) := by decide +kernel
theorem dX10_after_85 : decode cX10_after 85 = .ok (.iload_n 1, 1) := by decide +kernel
theorem dX10_after_86 : decode cX10_after 86 = .ok (.iload 8, 2) := by decide +kernel
theorem dX10_after_88 : decode cX10_after 88 = .ok (.invokevirtual 118, 3) := by decide +kernel
theorem dX10_after_91 : decode cX10_after 91 = .ok (.invokevirtual 262, 3) := by decide +kernel
theorem dX10_after_94 : decode cX10_after 94 = .ok (.istore 9, 2) := by decide +kernel
theorem dX10_after_96 : decode cX10_after 96 = .ok (.iload 9, 2) := by decide +kernel
theorem dX10_after_98 : decode cX10_after 98 = .ok (.bipush 8, 2) := by decide +kernel
theorem dX10_after_100 : decode cX10_after 100 = .ok (.if_icmp .ne 9, 3) := by decide +kernel
theorem dX10_after_103 : decode cX10_after 103 = .ok (.iinc 5 1, 3) := by decide +kernel
theorem dX10_after_106 : decode cX10_after 106 = .ok (.goto 17, 3) := by decide +kernel
theorem dX10_after_109 : decode cX10_after 109 = .ok (.iload 9, 2) := by decide +kernel
theorem dX10_after_111 : decode cX10_after 111 = .ok (.iconst 0, 1) := by decide +kernel
theorem dX10_after_112 : decode cX10_after 112 = .ok (.bipush 6, 2) := by decide +kernel
theorem dX10_after_114 : decode cX10_after 114 = .ok (.invokestatic 101, 3) := by decide +kernel
theorem dX10_after_117 : decode cX10_after 117 = .ok (.ifCond .eq 6, 3) := by decide +kernel
theorem dX10_after_120 : decode cX10_after 120 = .ok (.iinc 6 1, 3) := by decide +kernel
theorem dX10_after_123 : decode cX10_after 123 = .ok (.iinc 8 1, 3) := by decide +kernel
theorem dX10_after_126 : decode cX10_after 126 = .ok (.goto (-50), 3) := by decide +kernel
theorem dX10_after_129 : decode cX10_after 129 = .ok (.iload_n 3, 1) := by decide +kernel
theorem dX10_after_130 : decode cX10_after 130 = .ok (.ifCond .ne 11, 3) := by decide +kernel
theorem dX10_after_133 : decode cX10_after 133 = .ok (.aload_n 0, 1) := by decide +kernel
theorem dX10_after_134 : decode cX10_after 134 = .ok (.iload_n 2, 1) := by decide +kernel
theorem dX10_after_135 : decode cX10_after 135 = .ok (.invokevirtual 230, 3) := by decide +kernel
theorem dX10_after_138 : decode cX10_after 138 = .ok (.goto 4, 3) := by decide +kernel
theorem dX10_after_141 : decode cX10_after 141 = .ok (.iconst 0, 1) := by decide +kernel
theorem dX10_after_142 : decode cX10_after 142 = .ok (.istore 8, 2) := by decide +kernel
theorem dX10_after_144 : decode cX10_after 144 = .ok (.aload_n 0, 1) := by decide +kernel
theorem dX10_after_145 : decode cX10_after 145 = .ok (.invokevirtual 265, 3) := by decide +kernel
theorem dX10_after_148 : decode cX10_after 148 = .ok (.iload_n 3, 1) := by decide +kernel
theorem dX10_after_149 : decode cX10_after 149 = .ok (.ifCond .ne 8, 3) := by decide +kernel
theorem dX10_after_152 : decode cX10_after 152 = .ok (.iload 8, 2) := by decide +kernel
theorem dX10_after_154 : decode cX10_after 154 = .ok (.goto 15, 3) := by decide +kernel
theorem dX10_after_157 : decode cX10_after 157 = .ok (.iload_n 3, 1) := by decide +kernel
theorem dX10_after_158 : decode cX10_after 158 = .ok (.iconst 1, 1) := by decide +kernel
theorem dX10_after_159 : decode cX10_after 159 = .ok (.if_icmp .ne 8, 3) := by decide +kernel
theorem dX10_after_162 : decode cX10_after 162 = .ok (.iload 5, 2) := by decide +kernel
theorem dX10_after_164 : decode cX10_after 164 = .ok (.goto 5, 3) := by decide +kernel
theorem dX10_after_167 : decode cX10_after 167 = .ok (.iload 6, 2) := by decide +kernel
theorem dX10_after_169 : decode cX10_after 169 = .ok (.ireturn, 1) := by decide +kernel
theorem bX10_after_123 {K : KT} {g : GT} {cm sm : Nat} {cs : Nat × Nat} {c0 : Nat} {x1 : Int} {x2 : Int} {x3 : Int} {k76 : Int → Int → Int → Int → St → Option (Int × St)} {r : Int} {σ' : St} (hC : Ctx K g RX10 cX10_after 10 8 cm sm) (hcs : cs.1 ≤ cm ∧ cs.2 ≤ sm) (h0 : isO 10 c0 = true) (hk76 : ∀ (x5 : Int) (x6 : Int) (x7 : Int) (x8 : Int) (σ : St), k76 x5 x6 x7 x8 σ = some (r, σ') → G K g 10 cs 76 [(0, vr c0), (1, vi x1), (2, vi x2), (3, vi x3), (5, vi x5), (6, vi x6), (7, vi x7), (8, vi x8)] [] (SH0, σ)) (hR : RetI K g cX10_after 10 cs r (SH0, σ')) : ∀ (x5 : Int) (x6 : Int) (x7 : Int) (x8 : Int) (σ : St), fX10_after_123 c0 x1 x2 x3 k76 x5 x6 x7 x8 σ = some (r, σ') → G K g 10 cs 123 [(0, vr c0), (1, vi x1), (2, vi x2), (3, vi x3), (5, vi x5), (6, vi x6), (7, vi x7), (8, vi x8)] [] (SH0, σ) := by
  intro x5 x6 x7 x8 σ h
  unfold fX10_after_123 at h
  refine g_iinc hC dX10_after_123 7 rfl (Nat.le_of_ble_eq_true rfl) rfl ?_
  refine g_goto hC dX10_after_126 (tgt := 76) (by decide) ?_
  exact g_pick [1, 2, 3, 4, 5, 6, 7, 0] rfl (hk76 _ _ _ _ _ h)
theorem bX10_after_142 {K : KT} {g : GT} {cm sm : Nat} {cs : Nat × Nat} {c0 : Nat} {x1 : Int} {x2 : Int} {x3 : Int} {r : Int} {σ' : St} (hC : Ctx K g RX10 cX10_after 10 8 cm sm) (hcs : cs.1 ≤ cm ∧ cs.2 ≤ sm) (h0 : isO 10 c0 = true) (hR : RetI K g cX10_after 10 cs r (SH0, σ')) : ∀ (x5 : Int) (x6 : Int) (y0 : Int) (σ : St), fX10_after_142 c0 x1 x2 x3 x5 x6 y0 σ = some (r, σ') → G K g 10 cs 142 [(0, vr c0), (1, vi x1), (2, vi x2), (3, vi x3), (5, vi x5), (6, vi x6)] [vi y0] (SH0, σ) := by
  intro x5 x6 y0 σ h
  unfold fX10_after_142 at h
  refine g_istore hC dX10_after_142 (Nat.le_of_ble_eq_true rfl) rfl ?_
  refine g_aload_n hC dX10_after_144 1 rfl rfl ?_
  obtain ⟨s1, e1, h⟩ := of_bind h
  try dsimp only at h
  refine s_callVv hC dX10_after_145 (tX10_laysBack_ h0 e1) miX10_laysBack_ mvX10_laysBack_ mlRX10_265 (isO_spec h0) vc_10 rfl rfl (Nat.le_of_ble_eq_true rfl) (Nat.le_of_ble_eq_true rfl) (Nat.le_of_ble_eq_true rfl) hcs ?_
  refine g_iload_n hC dX10_after_148 4 rfl rfl ?_
  refine g_if_ne hC dX10_after_149 (tgt := 157) (by decide) (fun h9 => ?_) (fun h9 => ?_)
  · rw [if_neg h9] at h
    refine g_iload_n hC dX10_after_157 4 rfl rfl ?_
    refine g_iconst hC dX10_after_158 ok_1 ?_
    refine g_icmp_ne hC dX10_after_159 (tgt := 167) (by decide) (fun h9 => ?_) (fun h9 => ?_)
    · rw [if_neg h9] at h
      refine g_iload hC dX10_after_167 6 rfl ?_
      exact ret_i h hR dX10_after_169
    · rw [if_pos h9] at h
      refine g_iload hC dX10_after_162 5 rfl ?_
      refine g_goto hC dX10_after_164 (tgt := 169) (by decide) ?_
      exact ret_i h hR dX10_after_169
  · rw [if_pos h9] at h
    refine g_iload hC dX10_after_152 0 rfl ?_
    refine g_goto hC dX10_after_154 (tgt := 169) (by decide) ?_
    exact ret_i h hR dX10_after_169
theorem bX10_after_76 {K : KT} {g : GT} {cm sm : Nat} {cs : Nat × Nat} {c0 : Nat} {x1 : Int} {x2 : Int} {x3 : Int} {r : Int} {σ' : St} (hC : Ctx K g RX10 cX10_after 10 8 cm sm) (hcs : cs.1 ≤ cm ∧ cs.2 ≤ sm) (h0 : isO 10 c0 = true) (hR : RetI K g cX10_after 10 cs r (SH0, σ')) : ∀ (n : Nat) (x5 : Int) (x6 : Int) (x7 : Int) (x8 : Int) (σ : St), fX10_after_76 c0 x1 x2 x3 n x5 x6 x7 x8 σ = some (r, σ') → G K g 10 cs 76 [(0, vr c0), (1, vi x1), (2, vi x2), (3, vi x3), (5, vi x5), (6, vi x6), (7, vi x7), (8, vi x8)] [] (SH0, σ) := by
  intro n
  induction n with
  | zero =>
    intro x5 x6 x7 x8 σ h
    rw [fX10_after_76.eq_1] at h
    cases h
  | succ n ih =>
    intro x5 x6 x7 x8 σ h
    rw [fX10_after_76.eq_2] at h
    refine g_iload hC dX10_after_76 7 rfl ?_
    refine g_iload hC dX10_after_78 6 rfl ?_
    refine g_icmp_ge hC dX10_after_80 (tgt := 129) (by decide) (fun h9 => ?_) (fun h9 => ?_)
    · rw [if_pos h9] at h
      refine g_iload_n hC dX10_after_129 3 rfl rfl ?_
      refine g_if_ne hC dX10_after_130 (tgt := 141) (by decide) (fun h9 => ?_) (fun h9 => ?_)
      · rw [if_neg h9] at h
        refine g_iconst hC dX10_after_141 ok_0 ?_
        exact g_pick [0, 1, 2, 3, 4, 5] rfl (bX10_after_142 hC hcs h0 hR _ _ _ _ h)
      · rw [if_pos h9] at h
        refine g_aload_n hC dX10_after_133 0 rfl rfl ?_
        refine g_iload_n hC dX10_after_134 2 rfl rfl ?_
        obtain ⟨⟨r1, s1⟩, e1, h⟩ := of_bind h
        try dsimp only at h
        refine s_callVi hC dX10_after_135 (tX10_countOf h0 e1) miX10_countOf mvX10_countOf mlRX10_230 (isO_spec h0) vc_10 rfl rfl (Nat.le_of_ble_eq_true rfl) (Nat.le_of_ble_eq_true rfl) (Nat.le_of_ble_eq_true rfl) hcs ?_
        refine g_goto hC dX10_after_138 (tgt := 142) (by decide) ?_
        exact g_pick [0, 1, 2, 3, 4, 5] rfl (bX10_after_142 hC hcs h0 hR _ _ _ _ h)
    · rw [if_neg h9] at h
      refine g_aload_n hC dX10_after_83 0 rfl rfl ?_
      refine g_aload_n hC dX10_after_84 0 rfl rfl ?_
      refine g_iload_n hC dX10_after_85 1 rfl rfl ?_
      refine g_iload hC dX10_after_86 7 rfl ?_
      obtain ⟨⟨r2, s2⟩, e2, h⟩ := of_bind h
      try dsimp only at h
      refine s_callVi hC dX10_after_88 (tX10_toldAt h0 e2) miX10_toldAt mvX10_toldAt mlRX10_118 (isO_spec h0) vc_10 rfl rfl (Nat.le_of_ble_eq_true rfl) (Nat.le_of_ble_eq_true rfl) (Nat.le_of_ble_eq_true rfl) hcs ?_
      obtain ⟨⟨r3, s3⟩, e3, h⟩ := of_bind h
      try dsimp only at h
      refine s_callVi hC dX10_after_91 (tX10_goes h0 e3) miX10_goes mvX10_goes mlRX10_262 (isO_spec h0) vc_10 rfl rfl (Nat.le_of_ble_eq_true rfl) (Nat.le_of_ble_eq_true rfl) (Nat.le_of_ble_eq_true rfl) hcs ?_
      refine g_istore hC dX10_after_94 (Nat.le_of_ble_eq_true rfl) rfl ?_
      refine g_iload hC dX10_after_96 0 rfl ?_
      refine g_bipush hC dX10_after_98 bp_8 ?_
      refine g_icmp_ne hC dX10_after_100 (tgt := 109) (by decide) (fun h9 => ?_) (fun h9 => ?_)
      · rw [if_neg h9] at h
        refine g_iload hC dX10_after_109 0 rfl ?_
        refine g_iconst hC dX10_after_111 ok_0 ?_
        refine g_bipush hC dX10_after_112 bp_6 ?_
        obtain ⟨⟨r4, s4⟩, e4, h⟩ := of_bind h
        try dsimp only at h
        refine s_callSi hC dX10_after_114 (tX10_within e4) miX10_within msX10_within mlRX10_101 rfl rfl (Nat.le_of_ble_eq_true rfl) (Nat.le_of_ble_eq_true rfl) (Nat.le_of_ble_eq_true rfl) hcs ?_
        refine g_if_eq hC dX10_after_117 (tgt := 123) (by decide) (fun h9 => ?_) (fun h9 => ?_)
        · rw [if_pos h9] at h
          exact g_pick [1, 2, 3, 4, 5, 6, 7, 8] rfl (bX10_after_123 hC hcs h0 ih hR _ _ _ _ _ h)
        · rw [if_neg h9] at h
          refine g_iinc hC dX10_after_120 6 rfl (Nat.le_of_ble_eq_true rfl) rfl ?_
          exact g_pick [2, 3, 4, 5, 6, 0, 7, 8] rfl (bX10_after_123 hC hcs h0 ih hR _ _ _ _ _ h)
      · rw [if_pos h9] at h
        refine g_iinc hC dX10_after_103 5 rfl (Nat.le_of_ble_eq_true rfl) rfl ?_
        refine g_goto hC dX10_after_106 (tgt := 123) (by decide) ?_
        exact g_pick [2, 3, 4, 5, 0, 6, 7, 8] rfl (bX10_after_123 hC hcs h0 ih hR _ _ _ _ _ h)
theorem bX10_after_37 {K : KT} {g : GT} {cm sm : Nat} {cs : Nat × Nat} {c0 : Nat} {x1 : Int} {x2 : Int} {x3 : Int} {r : Int} {σ' : St} (hC : Ctx K g RX10 cX10_after 10 8 cm sm) (hcs : cs.1 ≤ cm ∧ cs.2 ≤ sm) (h0 : isO 10 c0 = true) (hR : RetI K g cX10_after 10 cs r (SH0, σ')) : ∀ (σ : St), fX10_after_37 c0 x1 x2 x3 σ = some (r, σ') → G K g 10 cs 37 [(0, vr c0), (1, vi x1), (2, vi x2), (3, vi x3)] [] (SH0, σ) := by
  intro σ h
  unfold fX10_after_37 at h
  refine g_aload_n hC dX10_after_37 0 rfl rfl ?_
  refine g_iload_n hC dX10_after_38 1 rfl rfl ?_
  obtain ⟨⟨r1, s1⟩, e1, h⟩ := of_bind h
  try dsimp only at h
  refine s_callVi hC dX10_after_39 (tX10_noBytes h0 e1) miX10_noBytes mvX10_noBytes mlRX10_252 (isO_spec h0) vc_10 rfl rfl (Nat.le_of_ble_eq_true rfl) (Nat.le_of_ble_eq_true rfl) (Nat.le_of_ble_eq_true rfl) hcs ?_
  refine g_istore hC dX10_after_42 (Nat.le_of_ble_eq_true rfl) rfl ?_
  refine g_iload hC dX10_after_44 0 rfl ?_
  refine g_if_ge hC dX10_after_46 (tgt := 52) (by decide) (fun h9 => ?_) (fun h9 => ?_)
  · rw [if_pos h9] at h
    refine g_aload_n hC dX10_after_52 1 rfl rfl ?_
    refine g_aload_n hC dX10_after_53 1 rfl rfl ?_
    refine g_getr hC dX10_after_54 lfRX10_88 (isO_spec h0) (ft_10_41 h0) ?_
    obtain ⟨s2, e2, h⟩ := of_bind h
    try dsimp only at h
    refine s_callVv hC dX10_after_57 (tX10_keeps h0 (rf_10_41 h0) e2) miX10_keeps mvX10_keeps mlRX10_258 (isO_spec h0) vc_10 rfl rfl (Nat.le_of_ble_eq_true rfl) (Nat.le_of_ble_eq_true rfl) (Nat.le_of_ble_eq_true rfl) hcs ?_
    refine g_iconst hC dX10_after_60 ok_0 ?_
    refine g_istore hC dX10_after_61 (Nat.le_of_ble_eq_true rfl) rfl ?_
    refine g_iconst hC dX10_after_63 ok_0 ?_
    refine g_istore hC dX10_after_64 (Nat.le_of_ble_eq_true rfl) rfl ?_
    refine g_aload_n hC dX10_after_66 3 rfl rfl ?_
    refine g_iload_n hC dX10_after_67 4 rfl rfl ?_
    obtain ⟨⟨r3, s3⟩, e3, h⟩ := of_bind h
    try dsimp only at h
    refine s_callVi hC dX10_after_68 (tX10_listed h0 e3) miX10_listed mvX10_listed mlRX10_255 (isO_spec h0) vc_10 rfl rfl (Nat.le_of_ble_eq_true rfl) (Nat.le_of_ble_eq_true rfl) (Nat.le_of_ble_eq_true rfl) hcs ?_
    refine g_istore hC dX10_after_71 (Nat.le_of_ble_eq_true rfl) rfl ?_
    refine g_iconst hC dX10_after_73 ok_0 ?_
    refine g_istore hC dX10_after_74 (Nat.le_of_ble_eq_true rfl) rfl ?_
    exact g_pick [5, 6, 7, 8, 3, 2, 1, 0] rfl (bX10_after_76 hC hcs h0 hR _ _ _ _ _ _ h)
  · rw [if_neg h9] at h
    refine g_iload hC dX10_after_49 0 rfl ?_
    exact ret_i h hR dX10_after_51
theorem bX10_after_0 {K : KT} {g : GT} {cm sm : Nat} {cs : Nat × Nat} {c0 : Nat} {x1 : Int} {x2 : Int} {x3 : Int} {r : Int} {σ' : St} (hC : Ctx K g RX10 cX10_after 10 8 cm sm) (hcs : cs.1 ≤ cm ∧ cs.2 ≤ sm) (h0 : isO 10 c0 = true) (hR : RetI K g cX10_after 10 cs r (SH0, σ')) : ∀ (σ : St), fX10_after c0 x1 x2 x3 σ = some (r, σ') → G K g 10 cs 0 [(0, vr c0), (1, vi x1), (2, vi x2), (3, vi x3)] [] (SH0, σ) := by
  intro σ h
  unfold fX10_after at h
  refine g_iload_n hC dX10_after_0 1 rfl rfl ?_
  obtain ⟨⟨r1, s1⟩, e1, h⟩ := of_bind h
  try dsimp only at h
  refine s_callSi hC dX10_after_1 (tX10_isShelf e1) miX10_isShelf msX10_isShelf mlRX10_112 rfl rfl (Nat.le_of_ble_eq_true rfl) (Nat.le_of_ble_eq_true rfl) (Nat.le_of_ble_eq_true rfl) hcs ?_
  refine g_if_eq hC dX10_after_4 (tgt := 35) (by decide) (fun h9 => ?_) (fun h9 => ?_)
  · rw [if_pos h9] at h
    refine g_iconst hC dX10_after_35 ok_m1 ?_
    exact ret_i h hR dX10_after_36
  · rw [if_neg h9] at h
    refine g_iload_n hC dX10_after_7 3 rfl rfl ?_
    refine g_iconst hC dX10_after_8 ok_0 ?_
    refine g_iconst hC dX10_after_9 ok_2 ?_
    obtain ⟨⟨r2, s2⟩, e2, h⟩ := of_bind h
    try dsimp only at h
    refine s_callSi hC dX10_after_10 (tX10_within e2) miX10_within msX10_within mlRX10_101 rfl rfl (Nat.le_of_ble_eq_true rfl) (Nat.le_of_ble_eq_true rfl) (Nat.le_of_ble_eq_true rfl) hcs ?_
    refine g_if_eq hC dX10_after_13 (tgt := 35) (by decide) (fun h9 => ?_) (fun h9 => ?_)
    · rw [if_pos h9] at h
      refine g_iconst hC dX10_after_35 ok_m1 ?_
      exact ret_i h hR dX10_after_36
    · rw [if_neg h9] at h
      refine g_iload_n hC dX10_after_16 3 rfl rfl ?_
      refine g_if_ne hC dX10_after_17 (tgt := 31) (by decide) (fun h9 => ?_) (fun h9 => ?_)
      · rw [if_neg h9] at h
        refine g_iload_n hC dX10_after_31 2 rfl rfl ?_
        refine g_if_eq hC dX10_after_32 (tgt := 37) (by decide) (fun h9 => ?_) (fun h9 => ?_)
        · rw [if_pos h9] at h
          exact g_pick [0, 1, 2, 3] rfl (bX10_after_37 hC hcs h0 hR _ h)
        · rw [if_neg h9] at h
          refine g_iconst hC dX10_after_35 ok_m1 ?_
          exact ret_i h hR dX10_after_36
      · rw [if_pos h9] at h
        refine g_aload_n hC dX10_after_20 0 rfl rfl ?_
        refine g_iload_n hC dX10_after_21 2 rfl rfl ?_
        obtain ⟨⟨r3, s3⟩, e3, h⟩ := of_bind h
        try dsimp only at h
        refine s_callVi hC dX10_after_22 (tX10_isOne h0 e3) miX10_isOne mvX10_isOne mlRX10_125 (isO_spec h0) vc_10 rfl rfl (Nat.le_of_ble_eq_true rfl) (Nat.le_of_ble_eq_true rfl) (Nat.le_of_ble_eq_true rfl) hcs ?_
        refine g_if_eq hC dX10_after_25 (tgt := 35) (by decide) (fun h9 => ?_) (fun h9 => ?_)
        · rw [if_pos h9] at h
          refine g_iconst hC dX10_after_35 ok_m1 ?_
          exact ret_i h hR dX10_after_36
        · rw [if_neg h9] at h
          refine g_goto hC dX10_after_28 (tgt := 37) (by decide) ?_
          exact g_pick [0, 1, 2, 3] rfl (bX10_after_37 hC hcs h0 hR _ h)
theorem tX10_after {l : Launch} {g : GT} {c0 : Nat} {x1 : Int} {x2 : Int} {x3 : Int} {σ σ' : St} {r : Int} (h0 : isO 10 c0 = true) (h : fX10_after c0 x1 x2 x3 σ = some (r, σ')) : Cn l g yX10_after cX10_after 10 (some .int) 8 0 0 [vr c0, vi x1, vi x2, vi x3] (SH0, σ) (some (vi r)) (SH0, σ') :=
  Cn.ofI (by decide) (Nat.le_of_ble_eq_true rfl) (fun K e hC hR => (bX10_after_0 hC ⟨Nat.le_refl _, Nat.le_refl _⟩ h0 hR _ h))
theorem dX10_back_0 : decode cX10_back 0 = .ok (.aload_n 0, 1) := by decide +kernel
theorem dX10_back_1 : decode cX10_back 1 = .ok (.getfield 317, 3) := by decide +kernel
theorem dX10_back_4 : decode cX10_back 4 = .ok (.ifCond .ne 6, 3) := by decide +kernel
theorem dX10_back_7 : decode cX10_back 7 = .ok (.bipush (-5), 2) := by decide +kernel
theorem dX10_back_9 : decode cX10_back 9 = .ok (.ireturn, 1) := by decide +kernel
theorem dX10_back_10 : decode cX10_back 10 = .ok (.aload_n 0, 1) := by decide +kernel
theorem dX10_back_11 : decode cX10_back 11 = .ok (.aload_n 0, 1) := by decide +kernel
theorem dX10_back_12 : decode cX10_back 12 = .ok (.getfield 63, 3) := by decide +kernel
theorem dX10_back_15 : decode cX10_back 15 = .ok (.aload_n 0, 1) := by decide +kernel
theorem dX10_back_16 : decode cX10_back 16 = .ok (.getfield 320, 3) := by decide +kernel
theorem dX10_back_19 : decode cX10_back 19 = .ok (.aload_n 0, 1) := by decide +kernel
theorem dX10_back_20 : decode cX10_back 20 = .ok (.getfield 323, 3) := by decide +kernel
theorem dX10_back_23 : decode cX10_back 23 = .ok (.invokevirtual 248, 3) := by decide +kernel
theorem dX10_back_26 : decode cX10_back 26 = .ok (.iconst 0, 1) := by decide +kernel
theorem dX10_back_27 : decode cX10_back 27 = .ok (.istore_n 1, 1) := by decide +kernel
theorem dX10_back_28 : decode cX10_back 28 = .ok (.iload_n 1, 1) := by decide +kernel
theorem dX10_back_29 : decode cX10_back 29 = .ok (.iconst 5, 1) := by decide +kernel
theorem dX10_back_30 : decode cX10_back 30 = .ok (.if_icmp .ge 21, 3) := by decide +kernel
theorem dX10_back_33 : decode cX10_back 33 = .ok (.aload_n 0, 1) := by decide +kernel
theorem dX10_back_34 : decode cX10_back 34 = .ok (.getfield 60, 3) := by decide +kernel
theorem dX10_back_37 : decode cX10_back 37 = .ok (.iload_n 1, 1) := by decide +kernel
theorem dX10_back_38 : decode cX10_back 38 = .ok (.aload_n 0, 1) := by decide +kernel
theorem dX10_back_39 : decode cX10_back 39 = .ok (.getfield 66, 3) := by decide +kernel
theorem dX10_back_42 : decode cX10_back 42 = .ok (.iload_n 1, 1) := by decide +kernel
theorem dX10_back_43 : decode cX10_back 43 = .ok (.iaload, 1) := by decide +kernel
theorem dX10_back_44 : decode cX10_back 44 = .ok (.iastore, 1) := by decide +kernel
theorem dX10_back_45 : decode cX10_back 45 = .ok (.iinc 1 1, 3) := by decide +kernel
theorem dX10_back_48 : decode cX10_back 48 = .ok (.goto (-20), 3) := by decide +kernel
theorem dX10_back_51 : decode cX10_back 51 = .ok (.aload_n 0, 1) := by decide +kernel
theorem dX10_back_52 : decode cX10_back 52 = .ok (.getfield 60, 3) := by decide +kernel
theorem dX10_back_55 : decode cX10_back 55 = .ok (.iconst 4, 1) := by decide +kernel
theorem dX10_back_56 : decode cX10_back 56 = .ok (.iaload, 1) := by decide +kernel
theorem dX10_back_57 : decode cX10_back 57 = .ok (.ireturn, 1) := by decide +kernel
theorem bX10_back_28 {K : KT} {g : GT} {cm sm : Nat} {cs : Nat × Nat} {c0 : Nat} {r : Int} {σ' : St} (hC : Ctx K g RX10 cX10_back 2 1 cm sm) (hcs : cs.1 ≤ cm ∧ cs.2 ≤ sm) (h0 : isO 10 c0 = true) (hR : RetI K g cX10_back 2 cs r (SH0, σ')) : ∀ (n : Nat) (x1 : Int) (σ : St), fX10_back_28 c0 n x1 σ = some (r, σ') → G K g 2 cs 28 [(0, vr c0), (1, vi x1)] [] (SH0, σ) := by
  intro n
  induction n with
  | zero =>
    intro x1 σ h
    rw [fX10_back_28.eq_1] at h
    cases h
  | succ n ih =>
    intro x1 σ h
    rw [fX10_back_28.eq_2] at h
    refine g_iload_n hC dX10_back_28 1 rfl rfl ?_
    refine g_iconst hC dX10_back_29 ok_5 ?_
    refine g_icmp_ge hC dX10_back_30 (tgt := 51) (by decide) (fun h9 => ?_) (fun h9 => ?_)
    · rw [if_pos h9] at h
      refine g_aload_n hC dX10_back_51 0 rfl rfl ?_
      refine g_getr hC dX10_back_52 lfRX10_60 (isO_spec h0) (ft_10_25 h0) ?_
      refine g_iconst hC dX10_back_55 ok_4 ?_
      obtain ⟨b9, h⟩ := of_ite h
      refine g_iald hC dX10_back_56 (isA_spec (rf_10_25 h0)) b9 ?_
      exact ret_i h hR dX10_back_57
    · rw [if_neg h9] at h
      refine g_aload_n hC dX10_back_33 0 rfl rfl ?_
      refine g_getr hC dX10_back_34 lfRX10_60 (isO_spec h0) (ft_10_25 h0) ?_
      refine g_iload_n hC dX10_back_37 1 rfl rfl ?_
      refine g_aload_n hC dX10_back_38 0 rfl rfl ?_
      refine g_getr hC dX10_back_39 lfRX10_66 (isO_spec h0) (ft_10_30 h0) ?_
      refine g_iload_n hC dX10_back_42 1 rfl rfl ?_
      obtain ⟨b9, h⟩ := of_ite h
      refine g_iald hC dX10_back_43 (isA_spec (rf_10_30 h0)) b9 ?_
      obtain ⟨b9, h⟩ := of_ite h
      refine g_iast hC dX10_back_44 (isA_spec (rf_10_25 h0)) b9 ?_
      refine g_iinc hC dX10_back_45 1 rfl (Nat.le_of_ble_eq_true rfl) rfl ?_
      refine g_goto hC dX10_back_48 (tgt := 28) (by decide) ?_
      exact g_pick [1, 0] rfl (ih _ _ h)
theorem bX10_back_0 {K : KT} {g : GT} {cm sm : Nat} {cs : Nat × Nat} {c0 : Nat} {r : Int} {σ' : St} (hC : Ctx K g RX10 cX10_back 2 1 cm sm) (hcs : cs.1 ≤ cm ∧ cs.2 ≤ sm) (h0 : isO 10 c0 = true) (hR : RetI K g cX10_back 2 cs r (SH0, σ')) : ∀ (σ : St), fX10_back c0 σ = some (r, σ') → G K g 2 cs 0 [(0, vr c0)] [] (SH0, σ) := by
  intro σ h
  unfold fX10_back at h
  refine g_aload_n hC dX10_back_0 0 rfl rfl ?_
  refine g_getz hC dX10_back_1 lfRX10_317 (isO_spec h0) (ft_10_26 h0) ?_
  refine g_if_ne hC dX10_back_4 (tgt := 10) (by decide) (fun h9 => ?_) (fun h9 => ?_)
  · rw [if_neg h9] at h
    refine g_aload_n hC dX10_back_10 0 rfl rfl ?_
    refine g_aload_n hC dX10_back_11 0 rfl rfl ?_
    refine g_getr hC dX10_back_12 lfRX10_63 (isO_spec h0) (ft_10_29 h0) ?_
    refine g_aload_n hC dX10_back_15 0 rfl rfl ?_
    refine g_geti hC dX10_back_16 lfRX10_320 (isO_spec h0) (ft_10_27 h0) ?_
    refine g_aload_n hC dX10_back_19 0 rfl rfl ?_
    refine g_geti hC dX10_back_20 lfRX10_323 (isO_spec h0) (ft_10_28 h0) ?_
    obtain ⟨s1, e1, h⟩ := of_bind h
    try dsimp only at h
    refine s_callVv hC dX10_back_23 (tX10_laysBack h0 (rf_10_29 h0) e1) miX10_laysBack mvX10_laysBack mlRX10_248 (isO_spec h0) vc_10 rfl rfl (Nat.le_of_ble_eq_true rfl) (Nat.le_of_ble_eq_true rfl) (Nat.le_of_ble_eq_true rfl) hcs ?_
    refine g_iconst hC dX10_back_26 ok_0 ?_
    refine g_istore_n hC dX10_back_27 rfl (Nat.le_of_ble_eq_true rfl) rfl ?_
    exact g_pick [1, 0] rfl (bX10_back_28 hC hcs h0 hR _ _ _ h)
  · rw [if_pos h9] at h
    refine g_bipush hC dX10_back_7 bp_m5 ?_
    exact ret_i h hR dX10_back_9
theorem tX10_back {l : Launch} {g : GT} {c0 : Nat} {σ σ' : St} {r : Int} (h0 : isO 10 c0 = true) (h : fX10_back c0 σ = some (r, σ')) : Cn l g yX10_back cX10_back 2 (some .int) 1 0 0 [vr c0] (SH0, σ) (some (vi r)) (SH0, σ') :=
  Cn.ofI (by decide) (Nat.le_of_ble_eq_true rfl) (fun K e hC hR => (bX10_back_0 hC ⟨Nat.le_refl _, Nat.le_refl _⟩ h0 hR _ h))
theorem dJ6_bitCount_0f7a4_0 : decode cJ6_bitCount_0f7a4 0 = .ok (.iload_n 0, 1) := by decide +kernel
theorem dJ6_bitCount_0f7a4_1 : decode cJ6_bitCount_0f7a4 1 = .ok (.iload_n 0, 1) := by decide +kernel
theorem dJ6_bitCount_0f7a4_2 : decode cJ6_bitCount_0f7a4 2 = .ok (.iconst 1, 1) := by decide +kernel
theorem dJ6_bitCount_0f7a4_3 : decode cJ6_bitCount_0f7a4 3 = .ok (.iushr, 1) := by decide +kernel
theorem dJ6_bitCount_0f7a4_4 : decode cJ6_bitCount_0f7a4 4 = .ok (.ldc_w 265, 3) := by decide +kernel
theorem dJ6_bitCount_0f7a4_7 : decode cJ6_bitCount_0f7a4 7 = .ok (.iand, 1) := by decide +kernel
theorem dJ6_bitCount_0f7a4_8 : decode cJ6_bitCount_0f7a4 8 = .ok (.isub, 1) := by decide +kernel
theorem dJ6_bitCount_0f7a4_9 : decode cJ6_bitCount_0f7a4 9 = .ok (.istore_n 0, 1) := by decide +kernel
theorem dJ6_bitCount_0f7a4_10 : decode cJ6_bitCount_0f7a4 10 = .ok (.iload_n 0, 1) := by decide +kernel
theorem dJ6_bitCount_0f7a4_11 : decode cJ6_bitCount_0f7a4 11 = .ok (.ldc_w 266, 3) := by decide +kernel
theorem dJ6_bitCount_0f7a4_14 : decode cJ6_bitCount_0f7a4 14 = .ok (.iand, 1) := by decide +kernel
theorem dJ6_bitCount_0f7a4_15 : decode cJ6_bitCount_0f7a4 15 = .ok (.iload_n 0, 1) := by decide +kernel
theorem dJ6_bitCount_0f7a4_16 : decode cJ6_bitCount_0f7a4 16 = .ok (.iconst 2, 1) := by decide +kernel
theorem dJ6_bitCount_0f7a4_17 : decode cJ6_bitCount_0f7a4 17 = .ok (.iushr, 1) := by decide +kernel
theorem dJ6_bitCount_0f7a4_18 : decode cJ6_bitCount_0f7a4 18 = .ok (.ldc_w 266, 3) := by decide +kernel
theorem dJ6_bitCount_0f7a4_21 : decode cJ6_bitCount_0f7a4 21 = .ok (.iand, 1) := by decide +kernel
theorem dJ6_bitCount_0f7a4_22 : decode cJ6_bitCount_0f7a4 22 = .ok (.iadd, 1) := by decide +kernel
theorem dJ6_bitCount_0f7a4_23 : decode cJ6_bitCount_0f7a4 23 = .ok (.istore_n 0, 1) := by decide +kernel
theorem dJ6_bitCount_0f7a4_24 : decode cJ6_bitCount_0f7a4 24 = .ok (.iload_n 0, 1) := by decide +kernel
theorem dJ6_bitCount_0f7a4_25 : decode cJ6_bitCount_0f7a4 25 = .ok (.iload_n 0, 1) := by decide +kernel
theorem dJ6_bitCount_0f7a4_26 : decode cJ6_bitCount_0f7a4 26 = .ok (.iconst 4, 1) := by decide +kernel
theorem dJ6_bitCount_0f7a4_27 : decode cJ6_bitCount_0f7a4 27 = .ok (.iushr, 1) := by decide +kernel
theorem dJ6_bitCount_0f7a4_28 : decode cJ6_bitCount_0f7a4 28 = .ok (.iadd, 1) := by decide +kernel
theorem dJ6_bitCount_0f7a4_29 : decode cJ6_bitCount_0f7a4 29 = .ok (.ldc_w 267, 3) := by decide +kernel
theorem dJ6_bitCount_0f7a4_32 : decode cJ6_bitCount_0f7a4 32 = .ok (.iand, 1) := by decide +kernel
theorem dJ6_bitCount_0f7a4_33 : decode cJ6_bitCount_0f7a4 33 = .ok (.istore_n 0, 1) := by decide +kernel
theorem dJ6_bitCount_0f7a4_34 : decode cJ6_bitCount_0f7a4 34 = .ok (.iload_n 0, 1) := by decide +kernel
theorem dJ6_bitCount_0f7a4_35 : decode cJ6_bitCount_0f7a4 35 = .ok (.iload_n 0, 1) := by decide +kernel
theorem dJ6_bitCount_0f7a4_36 : decode cJ6_bitCount_0f7a4 36 = .ok (.bipush 8, 2) := by decide +kernel
theorem dJ6_bitCount_0f7a4_38 : decode cJ6_bitCount_0f7a4 38 = .ok (.iushr, 1) := by decide +kernel
theorem dJ6_bitCount_0f7a4_39 : decode cJ6_bitCount_0f7a4 39 = .ok (.iadd, 1) := by decide +kernel
theorem dJ6_bitCount_0f7a4_40 : decode cJ6_bitCount_0f7a4 40 = .ok (.istore_n 0, 1) := by decide +kernel
theorem dJ6_bitCount_0f7a4_41 : decode cJ6_bitCount_0f7a4 41 = .ok (.iload_n 0, 1) := by decide +kernel
theorem dJ6_bitCount_0f7a4_42 : decode cJ6_bitCount_0f7a4 42 = .ok (.iload_n 0, 1) := by decide +kernel
theorem dJ6_bitCount_0f7a4_43 : decode cJ6_bitCount_0f7a4 43 = .ok (.bipush 16, 2) := by decide +kernel
theorem dJ6_bitCount_0f7a4_45 : decode cJ6_bitCount_0f7a4 45 = .ok (.iushr, 1) := by decide +kernel
theorem dJ6_bitCount_0f7a4_46 : decode cJ6_bitCount_0f7a4 46 = .ok (.iadd, 1) := by decide +kernel
theorem dJ6_bitCount_0f7a4_47 : decode cJ6_bitCount_0f7a4 47 = .ok (.istore_n 0, 1) := by decide +kernel
theorem dJ6_bitCount_0f7a4_48 : decode cJ6_bitCount_0f7a4 48 = .ok (.iload_n 0, 1) := by decide +kernel
theorem dJ6_bitCount_0f7a4_49 : decode cJ6_bitCount_0f7a4 49 = .ok (.bipush 63, 2) := by decide +kernel
theorem dJ6_bitCount_0f7a4_51 : decode cJ6_bitCount_0f7a4 51 = .ok (.iand, 1) := by decide +kernel
theorem dJ6_bitCount_0f7a4_52 : decode cJ6_bitCount_0f7a4 52 = .ok (.ireturn, 1) := by decide +kernel
theorem bJ6_bitCount_0f7a4_41 {K : KT} {g : GT} {cm sm : Nat} {cs : Nat × Nat} {r : Int} {σ' : St} (hC : Ctx K g RJ6 cJ6_bitCount_0f7a4 1 0 cm sm) (hcs : cs.1 ≤ cm ∧ cs.2 ≤ sm) (hR : RetI K g cJ6_bitCount_0f7a4 1 cs r (SH0, σ')) : ∀ (x0 : Int) (σ : St), fJ6_bitCount_0f7a4_41 x0 σ = some (r, σ') → G K g 1 cs 41 [(0, vi x0)] [] (SH0, σ) := by
  intro x0 σ h
  unfold fJ6_bitCount_0f7a4_41 at h
  refine g_iload_n hC dJ6_bitCount_0f7a4_41 0 rfl rfl ?_
  refine g_iload_n hC dJ6_bitCount_0f7a4_42 0 rfl rfl ?_
  refine g_bipush hC dJ6_bitCount_0f7a4_43 bp_16 ?_
  refine g_iushr hC dJ6_bitCount_0f7a4_45 ?_
  refine g_iadd hC dJ6_bitCount_0f7a4_46 ?_
  refine g_istore_n hC dJ6_bitCount_0f7a4_47 rfl (Nat.le_of_ble_eq_true rfl) rfl ?_
  refine g_iload_n hC dJ6_bitCount_0f7a4_48 0 rfl rfl ?_
  refine g_bipush hC dJ6_bitCount_0f7a4_49 bp_63 ?_
  refine g_iand hC dJ6_bitCount_0f7a4_51 ?_
  exact ret_i h hR dJ6_bitCount_0f7a4_52
theorem bJ6_bitCount_0f7a4_34 {K : KT} {g : GT} {cm sm : Nat} {cs : Nat × Nat} {r : Int} {σ' : St} (hC : Ctx K g RJ6 cJ6_bitCount_0f7a4 1 0 cm sm) (hcs : cs.1 ≤ cm ∧ cs.2 ≤ sm) (hR : RetI K g cJ6_bitCount_0f7a4 1 cs r (SH0, σ')) : ∀ (x0 : Int) (σ : St), fJ6_bitCount_0f7a4_34 x0 σ = some (r, σ') → G K g 1 cs 34 [(0, vi x0)] [] (SH0, σ) := by
  intro x0 σ h
  unfold fJ6_bitCount_0f7a4_34 at h
  refine g_iload_n hC dJ6_bitCount_0f7a4_34 0 rfl rfl ?_
  refine g_iload_n hC dJ6_bitCount_0f7a4_35 0 rfl rfl ?_
  refine g_bipush hC dJ6_bitCount_0f7a4_36 bp_8 ?_
  refine g_iushr hC dJ6_bitCount_0f7a4_38 ?_
  refine g_iadd hC dJ6_bitCount_0f7a4_39 ?_
  refine g_istore_n hC dJ6_bitCount_0f7a4_40 rfl (Nat.le_of_ble_eq_true rfl) rfl ?_
  exact g_pick [0] rfl (bJ6_bitCount_0f7a4_41 hC hcs hR _ _ h)
theorem bJ6_bitCount_0f7a4_0 {K : KT} {g : GT} {cm sm : Nat} {cs : Nat × Nat} {r : Int} {σ' : St} (hC : Ctx K g RJ6 cJ6_bitCount_0f7a4 1 0 cm sm) (hcs : cs.1 ≤ cm ∧ cs.2 ≤ sm) (hR : RetI K g cJ6_bitCount_0f7a4 1 cs r (SH0, σ')) : ∀ (x0 : Int) (σ : St), fJ6_bitCount_0f7a4 x0 σ = some (r, σ') → G K g 1 cs 0 [(0, vi x0)] [] (SH0, σ) := by
  intro x0 σ h
  unfold fJ6_bitCount_0f7a4 at h
  refine g_iload_n hC dJ6_bitCount_0f7a4_0 0 rfl rfl ?_
  refine g_iload_n hC dJ6_bitCount_0f7a4_1 0 rfl rfl ?_
  refine g_iconst hC dJ6_bitCount_0f7a4_2 ok_1 ?_
  refine g_iushr hC dJ6_bitCount_0f7a4_3 ?_
  refine g_ldcw hC dJ6_bitCount_0f7a4_4 kRJ6_265 ?_
  refine g_iand hC dJ6_bitCount_0f7a4_7 ?_
  refine g_isub hC dJ6_bitCount_0f7a4_8 ?_
  refine g_istore_n hC dJ6_bitCount_0f7a4_9 rfl (Nat.le_of_ble_eq_true rfl) rfl ?_
  refine g_iload_n hC dJ6_bitCount_0f7a4_10 0 rfl rfl ?_
  refine g_ldcw hC dJ6_bitCount_0f7a4_11 kRJ6_266 ?_
  refine g_iand hC dJ6_bitCount_0f7a4_14 ?_
  refine g_iload_n hC dJ6_bitCount_0f7a4_15 0 rfl rfl ?_
  refine g_iconst hC dJ6_bitCount_0f7a4_16 ok_2 ?_
  refine g_iushr hC dJ6_bitCount_0f7a4_17 ?_
  refine g_ldcw hC dJ6_bitCount_0f7a4_18 kRJ6_266 ?_
  refine g_iand hC dJ6_bitCount_0f7a4_21 ?_
  refine g_iadd hC dJ6_bitCount_0f7a4_22 ?_
  refine g_istore_n hC dJ6_bitCount_0f7a4_23 rfl (Nat.le_of_ble_eq_true rfl) rfl ?_
  refine g_iload_n hC dJ6_bitCount_0f7a4_24 0 rfl rfl ?_
  refine g_iload_n hC dJ6_bitCount_0f7a4_25 0 rfl rfl ?_
  refine g_iconst hC dJ6_bitCount_0f7a4_26 ok_4 ?_
  refine g_iushr hC dJ6_bitCount_0f7a4_27 ?_
  refine g_iadd hC dJ6_bitCount_0f7a4_28 ?_
  refine g_ldcw hC dJ6_bitCount_0f7a4_29 kRJ6_267 ?_
  refine g_iand hC dJ6_bitCount_0f7a4_32 ?_
  refine g_istore_n hC dJ6_bitCount_0f7a4_33 rfl (Nat.le_of_ble_eq_true rfl) rfl ?_
  exact g_pick [0] rfl (bJ6_bitCount_0f7a4_34 hC hcs hR _ _ h)
theorem tJ6_bitCount_0f7a4 {l : Launch} {g : GT} {x0 : Int} {σ σ' : St} {r : Int} (h : fJ6_bitCount_0f7a4 x0 σ = some (r, σ')) : Cn l g yJ6_bitCount_0f7a4 cJ6_bitCount_0f7a4 1 (some .int) 0 0 0 [vi x0] (SH0, σ) (some (vi r)) (SH0, σ') :=
  Cn.ofI (by decide) (Nat.le_of_ble_eq_true rfl) (fun K e hC hR => (bJ6_bitCount_0f7a4_0 hC ⟨Nat.le_refl _, Nat.le_refl _⟩ hR _ _ h))
