/-! Walks (printed by my program). -/
theorem dX10_law_0 : decode cX10_law 0 = .ok (.aload_n 0, 1) := by decide +kernel
theorem dX10_law_1 : decode cX10_law 1 = .ok (.iconst 0, 1) := by decide +kernel
theorem dX10_law_2 : decode cX10_law 2 = .ok (.putfield 152, 3) := by decide +kernel
theorem dX10_law_5 : decode cX10_law 5 = .ok (.aload_n 0, 1) := by decide +kernel
theorem dX10_law_6 : decode cX10_law 6 = .ok (.iconst 0, 1) := by decide +kernel
theorem dX10_law_7 : decode cX10_law 7 = .ok (.putfield 173, 3) := by decide +kernel
theorem dX10_law_10 : decode cX10_law 10 = .ok (.aload_n 0, 1) := by decide +kernel
theorem dX10_law_11 : decode cX10_law 11 = .ok (.iconst 0, 1) := by decide +kernel
theorem dX10_law_12 : decode cX10_law 12 = .ok (.putfield 159, 3) := by decide +kernel
theorem dX10_law_15 : decode cX10_law 15 = .ok (.aload_n 0, 1) := by decide +kernel
theorem dX10_law_16 : decode cX10_law 16 = .ok (.iconst 0, 1) := by decide +kernel
theorem dX10_law_17 : decode cX10_law 17 = .ok (.putfield 197, 3) := by decide +kernel
theorem dX10_law_20 : decode cX10_law 20 = .ok (.aload_n 0, 1) := by decide +kernel
theorem dX10_law_21 : decode cX10_law 21 = .ok (.invokevirtual 200, 3) := by decide +kernel
theorem dX10_law_24 : decode cX10_law 24 = .ok (.istore_n 1, 1) := by decide +kernel
theorem dX10_law_25 : decode cX10_law 25 = .ok (.iload_n 1, 1) := by decide +kernel
theorem dX10_law_26 : decode cX10_law 26 = .ok (.ifCond .eq 20, 3) := by decide +kernel
theorem dX10_law_29 : decode cX10_law 29 = .ok (.aload_n 0, 1) := by decide +kernel
theorem dX10_law_30 : decode cX10_law 30 = .ok (.bipush 59, 2) := by decide +kernel
theorem dX10_law_32 : decode cX10_law 32 = .ok (.invokevirtual 176, 3) := by decide +kernel
theorem dX10_law_35 : decode cX10_law 35 = .ok (.ifCond .eq 11, 3) := by decide +kernel
theorem dX10_law_38 : decode cX10_law 38 = .ok (.aload_n 0, 1) := by decide +kernel
theorem dX10_law_39 : decode cX10_law 39 = .ok (.invokevirtual 200, 3) := by decide +kernel
theorem dX10_law_42 : decode cX10_law 42 = .ok (.istore_n 1, 1) := by decide +kernel
theorem dX10_law_43 : decode cX10_law 43 = .ok (.goto (-18), 3) := by decide +kernel
theorem dX10_law_46 : decode cX10_law 46 = .ok (.iload_n 1, 1) := by decide +kernel
theorem dX10_law_47 : decode cX10_law 47 = .ok (.ifCond .eq 18, 3) := by decide +kernel
theorem dX10_law_50 : decode cX10_law 50 = .ok (.aload_n 0, 1) := by decide +kernel
theorem dX10_law_51 : decode cX10_law 51 = .ok (.getfield 152, 3) := by decide +kernel
theorem dX10_law_54 : decode cX10_law 54 = .ok (.aload_n 0, 1) := by decide +kernel
theorem dX10_law_55 : decode cX10_law 55 = .ok (.getfield 149, 3) := by decide +kernel
theorem dX10_law_58 : decode cX10_law 58 = .ok (.if_icmp .ne 7, 3) := by decide +kernel
theorem dX10_law_61 : decode cX10_law 61 = .ok (.iconst 1, 1) := by decide +kernel
theorem dX10_law_62 : decode cX10_law 62 = .ok (.goto 4, 3) := by decide +kernel
theorem dX10_law_65 : decode cX10_law 65 = .ok (.iconst 0, 1) := by decide +kernel
theorem dX10_law_66 : decode cX10_law 66 = .ok (.istore_n 2, 1) := by decide +kernel
theorem dX10_law_67 : decode cX10_law 67 = .ok (.aload_n 0, 1) := by decide +kernel
theorem dX10_law_68 : decode cX10_law 68 = .ok (.iconst 0, 1) := by decide +kernel
theorem dX10_law_69 : decode cX10_law 69 = .ok (.putfield 149, 3) := by decide +kernel
theorem dX10_law_72 : decode cX10_law 72 = .ok (.iload_n 2, 1) := by decide +kernel
theorem dX10_law_73 : decode cX10_law 73 = .ok (.ifCond .ne 11, 3) := by decide +kernel
theorem dX10_law_76 : decode cX10_law 76 = .ok (.bipush (-100), 2) := by decide +kernel
theorem dX10_law_78 : decode cX10_law 78 = .ok (.aload_n 0, 1) := by decide +kernel
theorem dX10_law_79 : decode cX10_law 79 = .ok (.getfield 152, 3) := by decide +kernel
theorem dX10_law_82 : decode cX10_law 82 = .ok (.isub, 1) := by decide +kernel
theorem dX10_law_83 : decode cX10_law 83 = .ok (.ireturn, 1) := by decide +kernel
theorem dX10_law_84 : decode cX10_law 84 = .ok (.aload_n 0, 1) := by decide +kernel
theorem dX10_law_85 : decode cX10_law 85 = .ok (.iconst 1, 1) := by decide +kernel
theorem dX10_law_86 : decode cX10_law 86 = .ok (.putfield 203, 3) := by decide +kernel
theorem dX10_law_89 : decode cX10_law 89 = .ok (.aload_n 0, 1) := by decide +kernel
theorem dX10_law_90 : decode cX10_law 90 = .ok (.aload_n 0, 1) := by decide +kernel
theorem dX10_law_91 : decode cX10_law 91 = .ok (.getfield 197, 3) := by decide +kernel
theorem dX10_law_94 : decode cX10_law 94 = .ok (.putfield 207, 3) := by decide +kernel
theorem dX10_law_97 : decode cX10_law 97 = .ok (.iconst 0, 1) := by decide +kernel
theorem dX10_law_98 : decode cX10_law 98 = .ok (.istore_n 3, 1) := by decide +kernel
theorem dX10_law_99 : decode cX10_law 99 = .ok (.iload_n 3, 1) := by decide +kernel
theorem dX10_law_100 : decode cX10_law 100 = .ok (.aload_n 0, 1) := by decide +kernel
theorem dX10_law_101 : decode cX10_law 101 = .ok (.getfield 207, 3) := by decide +kernel
theorem dX10_law_104 : decode cX10_law 104 = .ok (.if_icmp .ge 45, 3) := by decide +kernel
theorem dX10_law_107 : decode cX10_law 107 = .ok (.aload_n 0, 1) := by decide +kernel
theorem dX10_law_108 : decode cX10_law 108 = .ok (.getfield 30, 3) := by decide +kernel
theorem dX10_law_111 : decode cX10_law 111 = .ok (.iload_n 3, 1) := by decide +kernel
theorem dX10_law_112 : decode cX10_law 112 = .ok (.aload_n 0, 1) := by decide +kernel
theorem dX10_law_113 : decode cX10_law 113 = .ok (.getfield 42, 3) := by decide +kernel
theorem dX10_law_116 : decode cX10_law 116 = .ok (.iload_n 3, 1) := by decide +kernel
theorem dX10_law_117 : decode cX10_law 117 = .ok (.iaload, 1) := by decide +kernel
theorem dX10_law_118 : decode cX10_law 118 = .ok (.iastore, 1) := by decide +kernel
theorem dX10_law_119 : decode cX10_law 119 = .ok (.aload_n 0, 1) := by decide +kernel
theorem dX10_law_120 : decode cX10_law 120 = .ok (.getfield 33, 3) := by decide +kernel
theorem dX10_law_123 : decode cX10_law 123 = .ok (.iload_n 3, 1) := by decide +kernel
theorem dX10_law_124 : decode cX10_law 124 = .ok (.aload_n 0, 1) := by decide +kernel
theorem dX10_law_125 : decode cX10_law 125 = .ok (.getfield 45, 3) := by decide +kernel
theorem dX10_law_128 : decode cX10_law 128 = .ok (.iload_n 3, 1) := by decide +kernel
theorem dX10_law_129 : decode cX10_law 129 = .ok (.iaload, 1) := by decide +kernel
theorem dX10_law_130 : decode cX10_law 130 = .ok (.iastore, 1) := by decide +kernel
theorem dX10_law_131 : decode cX10_law 131 = .ok (.aload_n 0, 1) := by decide +kernel
theorem dX10_law_132 : decode cX10_law 132 = .ok (.getfield 36, 3) := by decide +kernel
theorem dX10_law_135 : decode cX10_law 135 = .ok (.iload_n 3, 1) := by decide +kernel
theorem dX10_law_136 : decode cX10_law 136 = .ok (.aload_n 0, 1) := by decide +kernel
theorem dX10_law_137 : decode cX10_law 137 = .ok (.getfield 48, 3) := by decide +kernel
theorem dX10_law_140 : decode cX10_law 140 = .ok (.iload_n 3, 1) := by decide +kernel
theorem dX10_law_141 : decode cX10_law 141 = .ok (.iaload, 1) := by decide +kernel
theorem dX10_law_142 : decode cX10_law 142 = .ok (.iastore, 1) := by decide +kernel
theorem dX10_law_143 : decode cX10_law 143 = .ok (.iinc 3 1, 3) := by decide +kernel
theorem dX10_law_146 : decode cX10_law 146 = .ok (.goto (-47), 3) := by decide +kernel
theorem dX10_law_149 : decode cX10_law 149 = .ok (.iconst 0, 1) := by decide +kernel
theorem dX10_law_150 : decode cX10_law 150 = .ok (.istore_n 3, 1) := by decide +kernel
theorem dX10_law_151 : decode cX10_law 151 = .ok (.iload_n 3, 1) := by decide +kernel
theorem dX10_law_152 : decode cX10_law 152 = .ok (.aload_n 0, 1) := by decide +kernel
theorem dX10_law_153 : decode cX10_law 153 = .ok (.getfield 159, 3) := by decide +kernel
theorem dX10_law_156 : decode cX10_law 156 = .ok (.if_icmp .ge 21, 3) := by decide +kernel
theorem dX10_law_159 : decode cX10_law 159 = .ok (.aload_n 0, 1) := by decide +kernel
theorem dX10_law_160 : decode cX10_law 160 = .ok (.getfield 39, 3) := by decide +kernel
theorem dX10_law_163 : decode cX10_law 163 = .ok (.iload_n 3, 1) := by decide +kernel
theorem dX10_law_164 : decode cX10_law 164 = .ok (.aload_n 0, 1) := by decide +kernel
theorem dX10_law_165 : decode cX10_law 165 = .ok (.getfield 51, 3) := by decide +kernel
theorem dX10_law_168 : decode cX10_law 168 = .ok (.iload_n 3, 1) := by decide +kernel
theorem dX10_law_169 : decode cX10_law 169 = .ok (.iaload, 1) := by decide +kernel
theorem dX10_law_170 : decode cX10_law 170 = .ok (.iastore, 1) := by decide +kernel
theorem dX10_law_171 : decode cX10_law 171 = .ok (.iinc 3 1, 3) := by decide +kernel
theorem dX10_law_174 : decode cX10_law 174 = .ok (.goto (-23), 3) := by decide +kernel
theorem dX10_law_177 : decode cX10_law 177 = .ok (.iconst 1, 1) := by decide +kernel
theorem dX10_law_178 : decode cX10_law 178 = .ok (.ireturn, 1) := by decide +kernel
theorem bX10_law_146 {K : KT} {g : GT} {cm sm : Nat} {cs : Nat × Nat} {c0 : Nat} {k99 : Int → St → Option (Int × St)} {r : Int} {σ' : St} (hC : Ctx K g RX10 cX10_law 4 204 cm sm) (hcs : cs.1 ≤ cm ∧ cs.2 ≤ sm) (h0 : isO 10 c0 = true) (hk99 : ∀ (x3 : Int) (σ : St), k99 x3 σ = some (r, σ') → G K g 4 cs 99 [(0, vr c0), (3, vi x3)] [] (SH0, σ)) (hR : RetI K g cX10_law 4 cs r (SH0, σ')) : ∀ (x3 : Int) (σ : St), fX10_law_146 c0 k99 x3 σ = some (r, σ') → G K g 4 cs 146 [(0, vr c0), (3, vi x3)] [] (SH0, σ) := by
  intro x3 σ h
  unfold fX10_law_146 at h
  refine g_goto hC dX10_law_146 (tgt := 99) (by decide) ?_
  exact g_pick [0, 1] rfl (hk99 _ _ h)
theorem bX10_law_143 {K : KT} {g : GT} {cm sm : Nat} {cs : Nat × Nat} {c0 : Nat} {k99 : Int → St → Option (Int × St)} {r : Int} {σ' : St} (hC : Ctx K g RX10 cX10_law 4 204 cm sm) (hcs : cs.1 ≤ cm ∧ cs.2 ≤ sm) (h0 : isO 10 c0 = true) (hk99 : ∀ (x3 : Int) (σ : St), k99 x3 σ = some (r, σ') → G K g 4 cs 99 [(0, vr c0), (3, vi x3)] [] (SH0, σ)) (hR : RetI K g cX10_law 4 cs r (SH0, σ')) : ∀ (x3 : Int) (σ : St), fX10_law_143 c0 k99 x3 σ = some (r, σ') → G K g 4 cs 143 [(0, vr c0), (3, vi x3)] [] (SH0, σ) := by
  intro x3 σ h
  unfold fX10_law_143 at h
  refine g_iinc hC dX10_law_143 1 rfl (Nat.le_of_ble_eq_true rfl) rfl ?_
  exact g_pick [1, 0] rfl (bX10_law_146 hC hcs h0 hk99 hR _ _ h)
theorem bX10_law_151 {K : KT} {g : GT} {cm sm : Nat} {cs : Nat × Nat} {c0 : Nat} {r : Int} {σ' : St} (hC : Ctx K g RX10 cX10_law 4 204 cm sm) (hcs : cs.1 ≤ cm ∧ cs.2 ≤ sm) (h0 : isO 10 c0 = true) (hR : RetI K g cX10_law 4 cs r (SH0, σ')) : ∀ (n : Nat) (x3 : Int) (σ : St), fX10_law_151 c0 n x3 σ = some (r, σ') → G K g 4 cs 151 [(0, vr c0), (3, vi x3)] [] (SH0, σ) := by
  intro n
  induction n with
  | zero =>
    intro x3 σ h
    rw [fX10_law_151.eq_1] at h
    cases h
  | succ n ih =>
    intro x3 σ h
    rw [fX10_law_151.eq_2] at h
    refine g_iload_n hC dX10_law_151 1 rfl rfl ?_
    refine g_aload_n hC dX10_law_152 0 rfl rfl ?_
    refine g_geti hC dX10_law_153 lfRX10_159 (isO_spec h0) (ft_10_17 h0) ?_
    refine g_icmp_ge hC dX10_law_156 (tgt := 177) (by decide) (fun h9 => ?_) (fun h9 => ?_)
    · rw [if_pos h9] at h
      refine g_iconst hC dX10_law_177 ok_1 ?_
      exact ret_i h hR dX10_law_178
    · rw [if_neg h9] at h
      refine g_aload_n hC dX10_law_159 0 rfl rfl ?_
      refine g_getr hC dX10_law_160 lfRX10_39 (isO_spec h0) (ft_10_14 h0) ?_
      refine g_iload_n hC dX10_law_163 1 rfl rfl ?_
      refine g_aload_n hC dX10_law_164 0 rfl rfl ?_
      refine g_getr hC dX10_law_165 lfRX10_51 (isO_spec h0) (ft_10_22 h0) ?_
      refine g_iload_n hC dX10_law_168 1 rfl rfl ?_
      obtain ⟨b9, h⟩ := of_ite h
      refine g_iald hC dX10_law_169 (isA_spec (rf_10_22 h0)) b9 ?_
      obtain ⟨b9, h⟩ := of_ite h
      refine g_iast hC dX10_law_170 (isA_spec (rf_10_14 h0)) b9 ?_
      refine g_iinc hC dX10_law_171 1 rfl (Nat.le_of_ble_eq_true rfl) rfl ?_
      refine g_goto hC dX10_law_174 (tgt := 151) (by decide) ?_
      exact g_pick [1, 0] rfl (ih _ _ h)
theorem bX10_law_99 {K : KT} {g : GT} {cm sm : Nat} {cs : Nat × Nat} {c0 : Nat} {r : Int} {σ' : St} (hC : Ctx K g RX10 cX10_law 4 204 cm sm) (hcs : cs.1 ≤ cm ∧ cs.2 ≤ sm) (h0 : isO 10 c0 = true) (hR : RetI K g cX10_law 4 cs r (SH0, σ')) : ∀ (n : Nat) (x3 : Int) (σ : St), fX10_law_99 c0 n x3 σ = some (r, σ') → G K g 4 cs 99 [(0, vr c0), (3, vi x3)] [] (SH0, σ) := by
  intro n
  induction n with
  | zero =>
    intro x3 σ h
    rw [fX10_law_99.eq_1] at h
    cases h
  | succ n ih =>
    intro x3 σ h
    rw [fX10_law_99.eq_2] at h
    refine g_iload_n hC dX10_law_99 1 rfl rfl ?_
    refine g_aload_n hC dX10_law_100 0 rfl rfl ?_
    refine g_geti hC dX10_law_101 lfRX10_207 (isO_spec h0) (ft_10_10 h0) ?_
    refine g_icmp_ge hC dX10_law_104 (tgt := 149) (by decide) (fun h9 => ?_) (fun h9 => ?_)
    · rw [if_pos h9] at h
      refine g_iconst hC dX10_law_149 ok_0 ?_
      refine g_istore_n hC dX10_law_150 rfl (Nat.le_of_ble_eq_true rfl) rfl ?_
      exact g_pick [1, 0] rfl (bX10_law_151 hC hcs h0 hR _ _ _ h)
    · rw [if_neg h9] at h
      refine g_aload_n hC dX10_law_107 0 rfl rfl ?_
      refine g_getr hC dX10_law_108 lfRX10_30 (isO_spec h0) (ft_10_11 h0) ?_
      refine g_iload_n hC dX10_law_111 1 rfl rfl ?_
      refine g_aload_n hC dX10_law_112 0 rfl rfl ?_
      refine g_getr hC dX10_law_113 lfRX10_42 (isO_spec h0) (ft_10_19 h0) ?_
      refine g_iload_n hC dX10_law_116 1 rfl rfl ?_
      obtain ⟨b9, h⟩ := of_ite h
      refine g_iald hC dX10_law_117 (isA_spec (rf_10_19 h0)) b9 ?_
      obtain ⟨b9, h⟩ := of_ite h
      refine g_iast hC dX10_law_118 (isA_spec (rf_10_11 h0)) b9 ?_
      refine g_aload_n hC dX10_law_119 0 rfl rfl ?_
      refine g_getr hC dX10_law_120 lfRX10_33 (isO_spec h0) (ft_10_12 h0) ?_
      refine g_iload_n hC dX10_law_123 1 rfl rfl ?_
      refine g_aload_n hC dX10_law_124 0 rfl rfl ?_
      refine g_getr hC dX10_law_125 lfRX10_45 (isO_spec h0) (ft_10_20 h0) ?_
      refine g_iload_n hC dX10_law_128 1 rfl rfl ?_
      obtain ⟨b9, h⟩ := of_ite h
      refine g_iald hC dX10_law_129 (isA_spec (rf_10_20 h0)) b9 ?_
      obtain ⟨b9, h⟩ := of_ite h
      refine g_iast hC dX10_law_130 (isA_spec (rf_10_12 h0)) b9 ?_
      refine g_aload_n hC dX10_law_131 0 rfl rfl ?_
      refine g_getr hC dX10_law_132 lfRX10_36 (isO_spec h0) (ft_10_13 h0) ?_
      refine g_iload_n hC dX10_law_135 1 rfl rfl ?_
      refine g_aload_n hC dX10_law_136 0 rfl rfl ?_
      refine g_getr hC dX10_law_137 lfRX10_48 (isO_spec h0) (ft_10_21 h0) ?_
      refine g_iload_n hC dX10_law_140 1 rfl rfl ?_
      obtain ⟨b9, h⟩ := of_ite h
      refine g_iald hC dX10_law_141 (isA_spec (rf_10_21 h0)) b9 ?_
      obtain ⟨b9, h⟩ := of_ite h
      refine g_iast hC dX10_law_142 (isA_spec (rf_10_13 h0)) b9 ?_
      exact g_pick [0, 1] rfl (bX10_law_143 hC hcs h0 ih hR _ _ h)
theorem bX10_law_66 {K : KT} {g : GT} {cm sm : Nat} {cs : Nat × Nat} {c0 : Nat} {r : Int} {σ' : St} (hC : Ctx K g RX10 cX10_law 4 204 cm sm) (hcs : cs.1 ≤ cm ∧ cs.2 ≤ sm) (h0 : isO 10 c0 = true) (hR : RetI K g cX10_law 4 cs r (SH0, σ')) : ∀ (y0 : Int) (σ : St), fX10_law_66 c0 y0 σ = some (r, σ') → G K g 4 cs 66 [(0, vr c0)] [vi y0] (SH0, σ) := by
  intro y0 σ h
  unfold fX10_law_66 at h
  refine g_istore_n hC dX10_law_66 rfl (Nat.le_of_ble_eq_true rfl) rfl ?_
  refine g_aload_n hC dX10_law_67 1 rfl rfl ?_
  refine g_iconst hC dX10_law_68 ok_0 ?_
  refine g_puti hC dX10_law_69 lfRX10_149 fp_10_7 (isO_spec h0) (ft_10_7 h0) ?_
  refine g_iload_n hC dX10_law_72 0 rfl rfl ?_
  refine g_if_ne hC dX10_law_73 (tgt := 84) (by decide) (fun h9 => ?_) (fun h9 => ?_)
  · rw [if_neg h9] at h
    refine g_aload_n hC dX10_law_84 1 rfl rfl ?_
    refine g_iconst hC dX10_law_85 ok_1 ?_
    refine g_putz hC dX10_law_86 lfRX10_203 fp_10_9 (isO_spec h0) (ft_10_9 h0) (by decide) ?_
    refine g_aload_n hC dX10_law_89 1 rfl rfl ?_
    refine g_aload_n hC dX10_law_90 1 rfl rfl ?_
    refine g_geti hC dX10_law_91 lfRX10_197 (isO_spec h0) (ft_10_18 h0) ?_
    refine g_puti hC dX10_law_94 lfRX10_207 fp_10_10 (isO_spec h0) (ft_10_10 h0) ?_
    refine g_iconst hC dX10_law_97 ok_0 ?_
    refine g_istore_n hC dX10_law_98 rfl (Nat.le_of_ble_eq_true rfl) rfl ?_
    exact g_pick [2, 0] rfl (bX10_law_99 hC hcs h0 hR _ _ _ h)
  · rw [if_pos h9] at h
    refine g_bipush hC dX10_law_76 bp_m100 ?_
    refine g_aload_n hC dX10_law_78 1 rfl rfl ?_
    refine g_geti hC dX10_law_79 lfRX10_152 (isO_spec h0) (ft_10_15 h0) ?_
    refine g_isub hC dX10_law_82 ?_
    exact ret_i h hR dX10_law_83
theorem bX10_law_65 {K : KT} {g : GT} {cm sm : Nat} {cs : Nat × Nat} {c0 : Nat} {r : Int} {σ' : St} (hC : Ctx K g RX10 cX10_law 4 204 cm sm) (hcs : cs.1 ≤ cm ∧ cs.2 ≤ sm) (h0 : isO 10 c0 = true) (hR : RetI K g cX10_law 4 cs r (SH0, σ')) : ∀ (σ : St), fX10_law_65 c0 σ = some (r, σ') → G K g 4 cs 65 [(0, vr c0)] [] (SH0, σ) := by
  intro σ h
  unfold fX10_law_65 at h
  refine g_iconst hC dX10_law_65 ok_0 ?_
  exact g_pick [0] rfl (bX10_law_66 hC hcs h0 hR _ _ h)
theorem bX10_law_46 {K : KT} {g : GT} {cm sm : Nat} {cs : Nat × Nat} {c0 : Nat} {r : Int} {σ' : St} (hC : Ctx K g RX10 cX10_law 4 204 cm sm) (hcs : cs.1 ≤ cm ∧ cs.2 ≤ sm) (h0 : isO 10 c0 = true) (hR : RetI K g cX10_law 4 cs r (SH0, σ')) : ∀ (x1 : Int) (σ : St), fX10_law_46 c0 x1 σ = some (r, σ') → G K g 4 cs 46 [(0, vr c0), (1, vi x1)] [] (SH0, σ) := by
  intro x1 σ h
  unfold fX10_law_46 at h
  refine g_iload_n hC dX10_law_46 1 rfl rfl ?_
  refine g_if_eq hC dX10_law_47 (tgt := 65) (by decide) (fun h9 => ?_) (fun h9 => ?_)
  · rw [if_pos h9] at h
    exact g_pick [0] rfl (bX10_law_65 hC hcs h0 hR _ h)
  · rw [if_neg h9] at h
    refine g_aload_n hC dX10_law_50 0 rfl rfl ?_
    refine g_geti hC dX10_law_51 lfRX10_152 (isO_spec h0) (ft_10_15 h0) ?_
    refine g_aload_n hC dX10_law_54 0 rfl rfl ?_
    refine g_geti hC dX10_law_55 lfRX10_149 (isO_spec h0) (ft_10_7 h0) ?_
    refine g_icmp_ne hC dX10_law_58 (tgt := 65) (by decide) (fun h9 => ?_) (fun h9 => ?_)
    · rw [if_neg h9] at h
      exact g_pick [0] rfl (bX10_law_65 hC hcs h0 hR _ h)
    · rw [if_pos h9] at h
      refine g_iconst hC dX10_law_61 ok_1 ?_
      refine g_goto hC dX10_law_62 (tgt := 66) (by decide) ?_
      exact g_pick [0] rfl (bX10_law_66 hC hcs h0 hR _ _ h)
theorem bX10_law_25 {K : KT} {g : GT} {cm sm : Nat} {cs : Nat × Nat} {c0 : Nat} {r : Int} {σ' : St} (hC : Ctx K g RX10 cX10_law 4 204 cm sm) (hcs : cs.1 ≤ cm ∧ cs.2 ≤ sm) (h0 : isO 10 c0 = true) (hR : RetI K g cX10_law 4 cs r (SH0, σ')) : ∀ (n : Nat) (x1 : Int) (σ : St), fX10_law_25 c0 n x1 σ = some (r, σ') → G K g 4 cs 25 [(0, vr c0), (1, vi x1)] [] (SH0, σ) := by
  intro n
  induction n with
  | zero =>
    intro x1 σ h
    rw [fX10_law_25.eq_1] at h
    cases h
  | succ n ih =>
    intro x1 σ h
    rw [fX10_law_25.eq_2] at h
    refine g_iload_n hC dX10_law_25 1 rfl rfl ?_
    refine g_if_eq hC dX10_law_26 (tgt := 46) (by decide) (fun h9 => ?_) (fun h9 => ?_)
    · rw [if_pos h9] at h
      exact g_pick [0, 1] rfl (bX10_law_46 hC hcs h0 hR _ _ h)
    · rw [if_neg h9] at h
      refine g_aload_n hC dX10_law_29 0 rfl rfl ?_
      refine g_bipush hC dX10_law_30 bp_59 ?_
      obtain ⟨⟨r1, s1⟩, e1, h⟩ := of_bind h
      try dsimp only at h
      refine s_callVi hC dX10_law_32 (tX10_is h0 e1) miX10_is mvX10_is mlRX10_176 (isO_spec h0) vc_10 rfl rfl (Nat.le_of_ble_eq_true rfl) (Nat.le_of_ble_eq_true rfl) (Nat.le_of_ble_eq_true rfl) hcs ?_
      refine g_if_eq hC dX10_law_35 (tgt := 46) (by decide) (fun h9 => ?_) (fun h9 => ?_)
      · rw [if_pos h9] at h
        exact g_pick [0, 1] rfl (bX10_law_46 hC hcs h0 hR _ _ h)
      · rw [if_neg h9] at h
        refine g_aload_n hC dX10_law_38 0 rfl rfl ?_
        obtain ⟨⟨r2, s2⟩, e2, h⟩ := of_bind h
        try dsimp only at h
        refine s_callVi hC dX10_law_39 (tX10_isLine h0 e2) miX10_isLine mvX10_isLine mlRX10_200 (isO_spec h0) vc_10 rfl rfl (Nat.le_of_ble_eq_true rfl) (Nat.le_of_ble_eq_true rfl) (Nat.le_of_ble_eq_true rfl) hcs ?_
        refine g_istore_n hC dX10_law_42 rfl (Nat.le_of_ble_eq_true rfl) rfl ?_
        refine g_goto hC dX10_law_43 (tgt := 25) (by decide) ?_
        exact g_pick [1, 0] rfl (ih _ _ h)
theorem bX10_law_0 {K : KT} {g : GT} {cm sm : Nat} {cs : Nat × Nat} {c0 : Nat} {r : Int} {σ' : St} (hC : Ctx K g RX10 cX10_law 4 204 cm sm) (hcs : cs.1 ≤ cm ∧ cs.2 ≤ sm) (h0 : isO 10 c0 = true) (hR : RetI K g cX10_law 4 cs r (SH0, σ')) : ∀ (σ : St), fX10_law c0 σ = some (r, σ') → G K g 4 cs 0 [(0, vr c0)] [] (SH0, σ) := by
  intro σ h
  unfold fX10_law at h
  refine g_aload_n hC dX10_law_0 0 rfl rfl ?_
  refine g_iconst hC dX10_law_1 ok_0 ?_
  refine g_puti hC dX10_law_2 lfRX10_152 fp_10_15 (isO_spec h0) (ft_10_15 h0) ?_
  refine g_aload_n hC dX10_law_5 0 rfl rfl ?_
  refine g_iconst hC dX10_law_6 ok_0 ?_
  refine g_puti hC dX10_law_7 lfRX10_173 fp_10_16 (isO_spec h0) (ft_10_16 h0) ?_
  refine g_aload_n hC dX10_law_10 0 rfl rfl ?_
  refine g_iconst hC dX10_law_11 ok_0 ?_
  refine g_puti hC dX10_law_12 lfRX10_159 fp_10_17 (isO_spec h0) (ft_10_17 h0) ?_
  refine g_aload_n hC dX10_law_15 0 rfl rfl ?_
  refine g_iconst hC dX10_law_16 ok_0 ?_
  refine g_puti hC dX10_law_17 lfRX10_197 fp_10_18 (isO_spec h0) (ft_10_18 h0) ?_
  refine g_aload_n hC dX10_law_20 0 rfl rfl ?_
  obtain ⟨⟨r1, s1⟩, e1, h⟩ := of_bind h
  try dsimp only at h
  refine s_callVi hC dX10_law_21 (tX10_isLine h0 e1) miX10_isLine mvX10_isLine mlRX10_200 (isO_spec h0) vc_10 rfl rfl (Nat.le_of_ble_eq_true rfl) (Nat.le_of_ble_eq_true rfl) (Nat.le_of_ble_eq_true rfl) hcs ?_
  refine g_istore_n hC dX10_law_24 rfl (Nat.le_of_ble_eq_true rfl) rfl ?_
  exact g_pick [1, 0] rfl (bX10_law_25 hC hcs h0 hR _ _ _ h)
theorem tX10_law {l : Launch} {g : GT} {c0 : Nat} {σ σ' : St} {r : Int} (h0 : isO 10 c0 = true) (h : fX10_law c0 σ = some (r, σ')) : Cn l g yX10_law cX10_law 4 (some .int) 204 0 0 [vr c0] (SH0, σ) (some (vi r)) (SH0, σ') :=
  Cn.ofI (by decide) (Nat.le_of_ble_eq_true rfl) (fun K e hC hR => (bX10_law_0 hC ⟨Nat.le_refl _, Nat.le_refl _⟩ h0 hR _ h))
theorem dX10_led_0 : decode cX10_led 0 = .ok (.iload_n 1, 1) := by decide +kernel
theorem dX10_led_1 : decode cX10_led 1 = .ok (.iconst 0, 1) := by decide +kernel
theorem dX10_led_2 : decode cX10_led 2 = .ok (.iconst 4, 1) := by decide +kernel
theorem dX10_led_3 : decode cX10_led 3 = .ok (.invokestatic 101, 3) := by decide +kernel
theorem dX10_led_6 : decode cX10_led 6 = .ok (.ifCond .eq 12, 3) := by decide +kernel
theorem dX10_led_9 : decode cX10_led 9 = .ok (.aload_n 0, 1) := by decide +kernel
theorem dX10_led_10 : decode cX10_led 10 = .ok (.getfield 60, 3) := by decide +kernel
theorem dX10_led_13 : decode cX10_led 13 = .ok (.iload_n 1, 1) := by decide +kernel
theorem dX10_led_14 : decode cX10_led 14 = .ok (.iaload, 1) := by decide +kernel
theorem dX10_led_15 : decode cX10_led 15 = .ok (.goto 4, 3) := by decide +kernel
theorem dX10_led_18 : decode cX10_led 18 = .ok (.iconst (-1), 1) := by decide +kernel
theorem dX10_led_19 : decode cX10_led 19 = .ok (.ireturn, 1) := by decide +kernel
theorem bX10_led_0 {K : KT} {g : GT} {cm sm : Nat} {cs : Nat × Nat} {c0 : Nat} {x1 : Int} {r : Int} {σ' : St} (hC : Ctx K g RX10 cX10_led 2 1 cm sm) (hcs : cs.1 ≤ cm ∧ cs.2 ≤ sm) (h0 : isO 10 c0 = true) (hR : RetI K g cX10_led 2 cs r (SH0, σ')) : ∀ (σ : St), fX10_led c0 x1 σ = some (r, σ') → G K g 2 cs 0 [(0, vr c0), (1, vi x1)] [] (SH0, σ) := by
  intro σ h
  unfold fX10_led at h
  refine g_iload_n hC dX10_led_0 1 rfl rfl ?_
  refine g_iconst hC dX10_led_1 ok_0 ?_
  refine g_iconst hC dX10_led_2 ok_4 ?_
  obtain ⟨⟨r1, s1⟩, e1, h⟩ := of_bind h
  try dsimp only at h
  refine s_callSi hC dX10_led_3 (tX10_within e1) miX10_within msX10_within mlRX10_101 rfl rfl (Nat.le_of_ble_eq_true rfl) (Nat.le_of_ble_eq_true rfl) (Nat.le_of_ble_eq_true rfl) hcs ?_
  refine g_if_eq hC dX10_led_6 (tgt := 18) (by decide) (fun h9 => ?_) (fun h9 => ?_)
  · rw [if_pos h9] at h
    refine g_iconst hC dX10_led_18 ok_m1 ?_
    exact ret_i h hR dX10_led_19
  · rw [if_neg h9] at h
    refine g_aload_n hC dX10_led_9 0 rfl rfl ?_
    refine g_getr hC dX10_led_10 lfRX10_60 (isO_spec h0) (ft_10_25 h0) ?_
    refine g_iload_n hC dX10_led_13 1 rfl rfl ?_
    obtain ⟨b9, h⟩ := of_ite h
    refine g_iald hC dX10_led_14 (isA_spec (rf_10_25 h0)) b9 ?_
    refine g_goto hC dX10_led_15 (tgt := 19) (by decide) ?_
    exact ret_i h hR dX10_led_19
theorem tX10_led {l : Launch} {g : GT} {c0 : Nat} {x1 : Int} {σ σ' : St} {r : Int} (h0 : isO 10 c0 = true) (h : fX10_led c0 x1 σ = some (r, σ')) : Cn l g yX10_led cX10_led 2 (some .int) 1 0 0 [vr c0, vi x1] (SH0, σ) (some (vi r)) (SH0, σ') :=
  Cn.ofI (by decide) (Nat.le_of_ble_eq_true rfl) (fun K e hC hR => (bX10_led_0 hC ⟨Nat.le_refl _, Nat.le_refl _⟩ h0 hR _ h))
theorem dX10_loses_0 : decode cX10_loses 0 = .ok (.aload_n 0, 1) := by decide +kernel
theorem dX10_loses_1 : decode cX10_loses 1 = .ok (.iload_n 1, 1) := by decide +kernel
theorem dX10_loses_2 : decode cX10_loses 2 = .ok (.invokevirtual 122, 3) := by decide +kernel
theorem dX10_loses_5 : decode cX10_loses 5 = .ok (.ifCond .ne 5, 3) := by decide +kernel
theorem dX10_loses_8 : decode cX10_loses 8 = .ok (.iconst (-1), 1) := by decide +kernel
theorem dX10_loses_9 : decode cX10_loses 9 = .ok (.ireturn, 1) := by decide +kernel
theorem dX10_loses_10 : decode cX10_loses 10 = .ok (.aload_n 0, 1) := by decide +kernel
theorem dX10_loses_11 : decode cX10_loses 11 = .ok (.getfield 15, 3) := by decide +kernel
theorem dX10_loses_14 : decode cX10_loses 14 = .ok (.iload_n 1, 1) := by decide +kernel
theorem dX10_loses_15 : decode cX10_loses 15 = .ok (.iaload, 1) := by decide +kernel
theorem dX10_loses_16 : decode cX10_loses 16 = .ok (.iconst (-1), 1) := by decide +kernel
theorem dX10_loses_17 : decode cX10_loses 17 = .ok (.if_icmp .eq 13, 3) := by decide +kernel
theorem dX10_loses_20 : decode cX10_loses 20 = .ok (.aload_n 0, 1) := by decide +kernel
theorem dX10_loses_21 : decode cX10_loses 21 = .ok (.getfield 18, 3) := by decide +kernel
theorem dX10_loses_24 : decode cX10_loses 24 = .ok (.iload_n 1, 1) := by decide +kernel
theorem dX10_loses_25 : decode cX10_loses 25 = .ok (.iaload, 1) := by decide +kernel
theorem dX10_loses_26 : decode cX10_loses 26 = .ok (.iconst 1, 1) := by decide +kernel
theorem dX10_loses_27 : decode cX10_loses 27 = .ok (.if_icmp .ne 6, 3) := by decide +kernel
theorem dX10_loses_30 : decode cX10_loses 30 = .ok (.bipush (-5), 2) := by decide +kernel
theorem dX10_loses_32 : decode cX10_loses 32 = .ok (.ireturn, 1) := by decide +kernel
theorem dX10_loses_33 : decode cX10_loses 33 = .ok (.aload_n 0, 1) := by decide +kernel
theorem dX10_loses_34 : decode cX10_loses 34 = .ok (.getfield 15, 3) := by decide +kernel
theorem dX10_loses_37 : decode cX10_loses 37 = .ok (.iload_n 1, 1) := by decide +kernel
theorem dX10_loses_38 : decode cX10_loses 38 = .ok (.iaload, 1) := by decide +kernel
theorem dX10_loses_39 : decode cX10_loses 39 = .ok (.istore_n 2, 1) := by decide +kernel
theorem dX10_loses_40 : decode cX10_loses 40 = .ok (.aload_n 0, 1) := by decide +kernel
theorem dX10_loses_41 : decode cX10_loses 41 = .ok (.getfield 21, 3) := by decide +kernel
theorem dX10_loses_44 : decode cX10_loses 44 = .ok (.iload_n 1, 1) := by decide +kernel
theorem dX10_loses_45 : decode cX10_loses 45 = .ok (.aload_n 0, 1) := by decide +kernel
theorem dX10_loses_46 : decode cX10_loses 46 = .ok (.iload_n 2, 1) := by decide +kernel
theorem dX10_loses_47 : decode cX10_loses 47 = .ok (.aload_n 0, 1) := by decide +kernel
theorem dX10_loses_48 : decode cX10_loses 48 = .ok (.getfield 9, 3) := by decide +kernel
theorem dX10_loses_51 : decode cX10_loses 51 = .ok (.iload_n 1, 1) := by decide +kernel
theorem dX10_loses_52 : decode cX10_loses 52 = .ok (.iaload, 1) := by decide +kernel
theorem dX10_loses_53 : decode cX10_loses 53 = .ok (.aload_n 0, 1) := by decide +kernel
theorem dX10_loses_54 : decode cX10_loses 54 = .ok (.iload_n 2, 1) := by decide +kernel
theorem dX10_loses_55 : decode cX10_loses 55 = .ok (.invokevirtual 230, 3) := by decide +kernel
theorem dX10_loses_58 : decode cX10_loses 58 = .ok (.iconst 1, 1) := by decide +kernel
theorem dX10_loses_59 : decode cX10_loses 59 = .ok (.isub, 1) := by decide +kernel
theorem dX10_loses_60 : decode cX10_loses 60 = .ok (.invokevirtual 233, 3) := by decide +kernel
theorem dX10_loses_63 : decode cX10_loses 63 = .ok (.aload_n 0, 1) := by decide +kernel
theorem dX10_loses_64 : decode cX10_loses 64 = .ok (.getfield 24, 3) := by decide +kernel
theorem dX10_loses_67 : decode cX10_loses 67 = .ok (.bipush 7, 2) := by decide +kernel
theorem dX10_loses_69 : decode cX10_loses 69 = .ok (.iload_n 2, 1) := by decide +kernel
theorem dX10_loses_70 : decode cX10_loses 70 = .ok (.iadd, 1) := by decide +kernel
theorem dX10_loses_71 : decode cX10_loses 71 = .ok (.iaload, 1) := by decide +kernel
theorem dX10_loses_72 : decode cX10_loses 72 = .ok (.aload_n 0, 1) := by decide +kernel
theorem dX10_loses_73 : decode cX10_loses 73 = .ok (.getfield 24, 3) := by decide +kernel
theorem dX10_loses_76 : decode cX10_loses 76 = .ok (.bipush 14, 2) := by decide +kernel
theorem dX10_loses_78 : decode cX10_loses 78 = .ok (.iload_n 2, 1) := by decide +kernel
theorem dX10_loses_79 : decode cX10_loses 79 = .ok (.iadd, 1) := by decide +kernel
theorem dX10_loses_80 : decode cX10_loses 80 = .ok (.iaload, 1) := by decide +kernel
theorem dX10_loses_81 : decode cX10_loses 81 = .ok (.iadd, 1) := by decide +kernel
theorem dX10_loses_82 : decode cX10_loses 82 = .ok (.invokestatic 222, 3) := by decide +kernel
theorem dX10_loses_85 : decode cX10_loses 85 = .ok (.iastore, 1) := by decide +kernel
theorem dX10_loses_86 : decode cX10_loses 86 = .ok (.aload_n 0, 1) := by decide +kernel
theorem dX10_loses_87 : decode cX10_loses 87 = .ok (.getfield 18, 3) := by decide +kernel
theorem dX10_loses_90 : decode cX10_loses 90 = .ok (.iload_n 1, 1) := by decide +kernel
theorem dX10_loses_91 : decode cX10_loses 91 = .ok (.iconst 1, 1) := by decide +kernel
theorem dX10_loses_92 : decode cX10_loses 92 = .ok (.iastore, 1) := by decide +kernel
theorem dX10_loses_93 : decode cX10_loses 93 = .ok (.aload_n 0, 1) := by decide +kernel
theorem dX10_loses_94 : decode cX10_loses 94 = .ok (.getfield 60, 3) := by decide +kernel
theorem dX10_loses_97 : decode cX10_loses 97 = .ok (.iconst 2, 1) := by decide +kernel
theorem dX10_loses_98 : decode cX10_loses 98 = .ok (.dup2, 1) := by decide +kernel
theorem dX10_loses_99 : decode cX10_loses 99 = .ok (.iaload, 1) := by decide +kernel
theorem dX10_loses_100 : decode cX10_loses 100 = .ok (.iconst 1, 1) := by decide +kernel
theorem dX10_loses_101 : decode cX10_loses 101 = .ok (.iadd, 1) := by decide +kernel
theorem dX10_loses_102 : decode cX10_loses 102 = .ok (.iastore, 1) := by decide +kernel
theorem dX10_loses_103 : decode cX10_loses 103 = .ok (.aload_n 0, 1) := by decide +kernel
theorem dX10_loses_104 : decode cX10_loses 104 = .ok (.getfield 21, 3) := by decide +kernel
theorem dX10_loses_107 : decode cX10_loses 107 = .ok (.iload_n 1, 1) := by decide +kernel
theorem dX10_loses_108 : decode cX10_loses 108 = .ok (.iaload, 1) := by decide +kernel
theorem dX10_loses_109 : decode cX10_loses 109 = .ok (.ireturn, 1) := by decide +kernel
theorem bX10_loses_0 {K : KT} {g : GT} {cm sm : Nat} {cs : Nat × Nat} {c0 : Nat} {x1 : Int} {r : Int} {σ' : St} (hC : Ctx K g RX10 cX10_loses 3 4 cm sm) (hcs : cs.1 ≤ cm ∧ cs.2 ≤ sm) (h0 : isO 10 c0 = true) (hR : RetI K g cX10_loses 3 cs r (SH0, σ')) : ∀ (σ : St), fX10_loses c0 x1 σ = some (r, σ') → G K g 3 cs 0 [(0, vr c0), (1, vi x1)] [] (SH0, σ) := by
  intro σ h
  unfold fX10_loses at h
  refine g_aload_n hC dX10_loses_0 0 rfl rfl ?_
  refine g_iload_n hC dX10_loses_1 1 rfl rfl ?_
  obtain ⟨⟨r1, s1⟩, e1, h⟩ := of_bind h
  try dsimp only at h
  refine s_callVi hC dX10_loses_2 (tX10_isThing h0 e1) miX10_isThing mvX10_isThing mlRX10_122 (isO_spec h0) vc_10 rfl rfl (Nat.le_of_ble_eq_true rfl) (Nat.le_of_ble_eq_true rfl) (Nat.le_of_ble_eq_true rfl) hcs ?_
  refine g_if_ne hC dX10_loses_5 (tgt := 10) (by decide) (fun h9 => ?_) (fun h9 => ?_)
  · rw [if_neg h9] at h
    refine g_aload_n hC dX10_loses_10 0 rfl rfl ?_
    refine g_getr hC dX10_loses_11 lfRX10_15 (isO_spec h0) (ft_10_2 h0) ?_
    refine g_iload_n hC dX10_loses_14 1 rfl rfl ?_
    obtain ⟨b9, h⟩ := of_ite h
    refine g_iald hC dX10_loses_15 (isA_spec (rf_10_2 h0)) b9 ?_
    refine g_iconst hC dX10_loses_16 ok_m1 ?_
    refine g_icmp_eq hC dX10_loses_17 (tgt := 30) (by decide) (fun h9 => ?_) (fun h9 => ?_)
    · rw [if_pos h9] at h
      refine g_bipush hC dX10_loses_30 bp_m5 ?_
      exact ret_i h hR dX10_loses_32
    · rw [if_neg h9] at h
      refine g_aload_n hC dX10_loses_20 0 rfl rfl ?_
      refine g_getr hC dX10_loses_21 lfRX10_18 (isO_spec h0) (ft_10_3 h0) ?_
      refine g_iload_n hC dX10_loses_24 1 rfl rfl ?_
      obtain ⟨b9, h⟩ := of_ite h
      refine g_iald hC dX10_loses_25 (isA_spec (rf_10_3 h0)) b9 ?_
      refine g_iconst hC dX10_loses_26 ok_1 ?_
      refine g_icmp_ne hC dX10_loses_27 (tgt := 33) (by decide) (fun h9 => ?_) (fun h9 => ?_)
      · rw [if_neg h9] at h
        refine g_aload_n hC dX10_loses_33 0 rfl rfl ?_
        refine g_getr hC dX10_loses_34 lfRX10_15 (isO_spec h0) (ft_10_2 h0) ?_
        refine g_iload_n hC dX10_loses_37 1 rfl rfl ?_
        obtain ⟨b9, h⟩ := of_ite h
        refine g_iald hC dX10_loses_38 (isA_spec (rf_10_2 h0)) b9 ?_
        refine g_istore_n hC dX10_loses_39 rfl (Nat.le_of_ble_eq_true rfl) rfl ?_
        refine g_aload_n hC dX10_loses_40 1 rfl rfl ?_
        refine g_getr hC dX10_loses_41 lfRX10_21 (isO_spec h0) (ft_10_4 h0) ?_
        refine g_iload_n hC dX10_loses_44 2 rfl rfl ?_
        refine g_aload_n hC dX10_loses_45 1 rfl rfl ?_
        refine g_iload_n hC dX10_loses_46 0 rfl rfl ?_
        refine g_aload_n hC dX10_loses_47 1 rfl rfl ?_
        refine g_getr hC dX10_loses_48 lfRX10_9 (isO_spec h0) (ft_10_1 h0) ?_
        refine g_iload_n hC dX10_loses_51 2 rfl rfl ?_
        obtain ⟨b9, h⟩ := of_ite h
        refine g_iald hC dX10_loses_52 (isA_spec (rf_10_1 h0)) b9 ?_
        refine g_aload_n hC dX10_loses_53 1 rfl rfl ?_
        refine g_iload_n hC dX10_loses_54 0 rfl rfl ?_
        obtain ⟨⟨r2, s2⟩, e2, h⟩ := of_bind h
        try dsimp only at h
        refine s_callVi hC dX10_loses_55 (tX10_countOf h0 e2) miX10_countOf mvX10_countOf mlRX10_230 (isO_spec h0) vc_10 rfl rfl (Nat.le_of_ble_eq_true rfl) (Nat.le_of_ble_eq_true rfl) (Nat.le_of_ble_eq_true rfl) hcs ?_
        refine g_iconst hC dX10_loses_58 ok_1 ?_
        refine g_isub hC dX10_loses_59 ?_
        obtain ⟨⟨r3, s3⟩, e3, h⟩ := of_bind h
        try dsimp only at h
        refine s_callVi hC dX10_loses_60 (tX10_yearsOf h0 e3) miX10_yearsOf mvX10_yearsOf mlRX10_233 (isO_spec h0) vc_10 rfl rfl (Nat.le_of_ble_eq_true rfl) (Nat.le_of_ble_eq_true rfl) (Nat.le_of_ble_eq_true rfl) hcs ?_
        refine g_aload_n hC dX10_loses_63 1 rfl rfl ?_
        refine g_getr hC dX10_loses_64 lfRX10_24 (isO_spec h0) (ft_10_6 h0) ?_
        refine g_bipush hC dX10_loses_67 bp_7 ?_
        refine g_iload_n hC dX10_loses_69 0 rfl rfl ?_
        refine g_iadd hC dX10_loses_70 ?_
        obtain ⟨b9, h⟩ := of_ite h
        refine g_iald hC dX10_loses_71 (isA_spec (rf_10_6 h0)) b9 ?_
        refine g_aload_n hC dX10_loses_72 1 rfl rfl ?_
        refine g_getr hC dX10_loses_73 lfRX10_24 (isO_spec h0) (ft_10_6 h0) ?_
        refine g_bipush hC dX10_loses_76 bp_14 ?_
        refine g_iload_n hC dX10_loses_78 0 rfl rfl ?_
        refine g_iadd hC dX10_loses_79 ?_
        obtain ⟨b9, h⟩ := of_ite h
        refine g_iald hC dX10_loses_80 (isA_spec (rf_10_6 h0)) b9 ?_
        refine g_iadd hC dX10_loses_81 ?_
        refine g_min hC dX10_loses_82 lmRX10_222 mn_1 mn_2 mn_3 (Nat.le_of_ble_eq_true rfl) (Nat.le_of_ble_eq_true rfl) hcs ?_
        obtain ⟨b9, h⟩ := of_ite h
        refine g_iast hC dX10_loses_85 (isA_spec (rf_10_4 h0)) b9 ?_
        refine g_aload_n hC dX10_loses_86 1 rfl rfl ?_
        refine g_getr hC dX10_loses_87 lfRX10_18 (isO_spec h0) (ft_10_3 h0) ?_
        refine g_iload_n hC dX10_loses_90 2 rfl rfl ?_
        refine g_iconst hC dX10_loses_91 ok_1 ?_
        obtain ⟨b9, h⟩ := of_ite h
        refine g_iast hC dX10_loses_92 (isA_spec (rf_10_3 h0)) b9 ?_
        refine g_aload_n hC dX10_loses_93 1 rfl rfl ?_
        refine g_getr hC dX10_loses_94 lfRX10_60 (isO_spec h0) (ft_10_25 h0) ?_
        refine g_iconst hC dX10_loses_97 ok_2 ?_
        refine g_dup2 hC dX10_loses_98 rfl rfl ?_
        obtain ⟨b9, h⟩ := of_ite h
        refine g_iald hC dX10_loses_99 (isA_spec (rf_10_25 h0)) b9 ?_
        refine g_iconst hC dX10_loses_100 ok_1 ?_
        refine g_iadd hC dX10_loses_101 ?_
        obtain ⟨b9, h⟩ := of_ite h
        refine g_iast hC dX10_loses_102 (isA_spec (rf_10_25 h0)) b9 ?_
        refine g_aload_n hC dX10_loses_103 1 rfl rfl ?_
        refine g_getr hC dX10_loses_104 lfRX10_21 (isO_spec h0) (ft_10_4 h0) ?_
        refine g_iload_n hC dX10_loses_107 2 rfl rfl ?_
        obtain ⟨b9, h⟩ := of_ite h
        refine g_iald hC dX10_loses_108 (isA_spec (rf_10_4 h0)) b9 ?_
        exact ret_i h hR dX10_loses_109
      · rw [if_pos h9] at h
        refine g_bipush hC dX10_loses_30 bp_m5 ?_
        exact ret_i h hR dX10_loses_32
  · rw [if_pos h9] at h
    refine g_iconst hC dX10_loses_8 ok_m1 ?_
    exact ret_i h hR dX10_loses_9
theorem tX10_loses {l : Launch} {g : GT} {c0 : Nat} {x1 : Int} {σ σ' : St} {r : Int} (h0 : isO 10 c0 = true) (h : fX10_loses c0 x1 σ = some (r, σ')) : Cn l g yX10_loses cX10_loses 3 (some .int) 4 0 0 [vr c0, vi x1] (SH0, σ) (some (vi r)) (SH0, σ') :=
  Cn.ofI (by decide) (Nat.le_of_ble_eq_true rfl) (fun K e hC hR => (bX10_loses_0 hC ⟨Nat.le_refl _, Nat.le_refl _⟩ h0 hR _ h))
theorem dX10_isFit_0 : decode cX10_isFit 0 = .ok (.iload_n 1, 1) := by decide +kernel
theorem dX10_isFit_1 : decode cX10_isFit 1 = .ok (.tableswitch 92 0 8 #[51, 58, 77, 84, 92, 84, 92, 92, 77], 51) := by decide +kernel
theorem dX10_isFit_52 : decode cX10_isFit 52 = .ok (.iload_n 2, 1) := by decide +kernel
theorem dX10_isFit_53 : decode cX10_isFit 53 = .ok (.iconst 0, 1) := by decide +kernel
theorem dX10_isFit_54 : decode cX10_isFit 54 = .ok (.iconst 3, 1) := by decide +kernel
theorem dX10_isFit_55 : decode cX10_isFit 55 = .ok (.invokestatic 101, 3) := by decide +kernel
theorem dX10_isFit_58 : decode cX10_isFit 58 = .ok (.ireturn, 1) := by decide +kernel
theorem dX10_isFit_59 : decode cX10_isFit 59 = .ok (.iload_n 2, 1) := by decide +kernel
theorem dX10_isFit_60 : decode cX10_isFit 60 = .ok (.iconst (-1), 1) := by decide +kernel
theorem dX10_isFit_61 : decode cX10_isFit 61 = .ok (.if_icmp .eq 11, 3) := by decide +kernel
theorem dX10_isFit_64 : decode cX10_isFit 64 = .ok (.aload_n 0, 1) := by decide +kernel
theorem dX10_isFit_65 : decode cX10_isFit 65 = .ok (.iload_n 2, 1) := by decide +kernel
theorem dX10_isFit_66 : decode cX10_isFit 66 = .ok (.invokevirtual 125, 3) := by decide +kernel
theorem dX10_isFit_69 : decode cX10_isFit 69 = .ok (.ifCond .eq 7, 3) := by decide +kernel
theorem dX10_isFit_72 : decode cX10_isFit 72 = .ok (.iconst 1, 1) := by decide +kernel
theorem dX10_isFit_73 : decode cX10_isFit 73 = .ok (.goto 4, 3) := by decide +kernel
theorem dX10_isFit_76 : decode cX10_isFit 76 = .ok (.iconst 0, 1) := by decide +kernel
theorem dX10_isFit_77 : decode cX10_isFit 77 = .ok (.ireturn, 1) := by decide +kernel
theorem dX10_isFit_78 : decode cX10_isFit 78 = .ok (.iload_n 2, 1) := by decide +kernel
theorem dX10_isFit_79 : decode cX10_isFit 79 = .ok (.iconst 0, 1) := by decide +kernel
theorem dX10_isFit_80 : decode cX10_isFit 80 = .ok (.iconst 1, 1) := by decide +kernel
theorem dX10_isFit_81 : decode cX10_isFit 81 = .ok (.invokestatic 101, 3) := by decide +kernel
theorem dX10_isFit_84 : decode cX10_isFit 84 = .ok (.ireturn, 1) := by decide +kernel
theorem dX10_isFit_85 : decode cX10_isFit 85 = .ok (.iload_n 2, 1) := by decide +kernel
theorem dX10_isFit_86 : decode cX10_isFit 86 = .ok (.iconst 0, 1) := by decide +kernel
theorem dX10_isFit_87 : decode cX10_isFit 87 = .ok (.bipush 99, 2) := by decide +kernel
theorem dX10_isFit_89 : decode cX10_isFit 89 = .ok (.invokestatic 101, 3) := by decide +kernel
theorem dX10_isFit_92 : decode cX10_isFit 92 = .ok (.ireturn, 1) := by decide +kernel
theorem dX10_isFit_93 : decode cX10_isFit 93 = .ok (.iload_n 2, 1) := by decide +kernel
theorem dX10_isFit_94 : decode cX10_isFit 94 = .ok (.iconst 0, 1) := by decide +kernel
theorem dX10_isFit_95 : decode cX10_isFit 95 = .ok (.bipush 9, 2) := by decide +kernel
theorem dX10_isFit_97 : decode cX10_isFit 97 = .ok (.invokestatic 101, 3) := by decide +kernel
theorem dX10_isFit_100 : decode cX10_isFit 100 = .ok (.ireturn, 1) := by decide +kernel
theorem bX10_isFit_0 {K : KT} {g : GT} {cm sm : Nat} {cs : Nat × Nat} {c0 : Nat} {x1 : Int} {x2 : Int} {r : Int} {σ' : St} (hC : Ctx K g RX10 cX10_isFit 3 2 cm sm) (hcs : cs.1 ≤ cm ∧ cs.2 ≤ sm) (h0 : isO 10 c0 = true) (hR : RetZ K g cX10_isFit 3 cs r (SH0, σ')) : ∀ (σ : St), fX10_isFit c0 x1 x2 σ = some (r, σ') → G K g 3 cs 0 [(0, vr c0), (1, vi x1), (2, vi x2)] [] (SH0, σ) := by
  intro σ h
  unfold fX10_isFit at h
  refine g_iload_n hC dX10_isFit_0 1 rfl rfl ?_
  by_cases h9 : x1 = 0
  · rw [if_pos h9] at h
    refine g_table hC dX10_isFit_1 52 (Or.inr (by (try dsimp only); rw [h9]; exact ⟨by decide, by decide, 51, rfl, by decide⟩)) ?_
    refine g_iload_n hC dX10_isFit_52 2 rfl rfl ?_
    refine g_iconst hC dX10_isFit_53 ok_0 ?_
    refine g_iconst hC dX10_isFit_54 ok_3 ?_
    obtain ⟨⟨r1, s1⟩, e1, h⟩ := of_bind h
    try dsimp only at h
    refine s_callSi hC dX10_isFit_55 (tX10_within e1) miX10_within msX10_within mlRX10_101 rfl rfl (Nat.le_of_ble_eq_true rfl) (Nat.le_of_ble_eq_true rfl) (Nat.le_of_ble_eq_true rfl) hcs ?_
    obtain ⟨b9, h⟩ := of_ite h
    exact ret_z h hR b9 dX10_isFit_58
  rw [if_neg h9] at h
  have n2 := h9
  clear h9
  by_cases h9 : x1 = 1
  · rw [if_pos h9] at h
    refine g_table hC dX10_isFit_1 59 (Or.inr (by (try dsimp only); rw [h9]; exact ⟨by decide, by decide, 58, rfl, by decide⟩)) ?_
    refine g_iload_n hC dX10_isFit_59 2 rfl rfl ?_
    refine g_iconst hC dX10_isFit_60 ok_m1 ?_
    refine g_icmp_eq hC dX10_isFit_61 (tgt := 72) (by decide) (fun h9 => ?_) (fun h9 => ?_)
    · rw [if_pos h9] at h
      refine g_iconst hC dX10_isFit_72 ok_1 ?_
      refine g_goto hC dX10_isFit_73 (tgt := 77) (by decide) ?_
      exact ret_z h hR (by decide) dX10_isFit_77
    · rw [if_neg h9] at h
      refine g_aload_n hC dX10_isFit_64 0 rfl rfl ?_
      refine g_iload_n hC dX10_isFit_65 2 rfl rfl ?_
      obtain ⟨⟨r3, s3⟩, e3, h⟩ := of_bind h
      try dsimp only at h
      refine s_callVi hC dX10_isFit_66 (tX10_isOne h0 e3) miX10_isOne mvX10_isOne mlRX10_125 (isO_spec h0) vc_10 rfl rfl (Nat.le_of_ble_eq_true rfl) (Nat.le_of_ble_eq_true rfl) (Nat.le_of_ble_eq_true rfl) hcs ?_
      refine g_if_eq hC dX10_isFit_69 (tgt := 76) (by decide) (fun h9 => ?_) (fun h9 => ?_)
      · rw [if_pos h9] at h
        refine g_iconst hC dX10_isFit_76 ok_0 ?_
        exact ret_z h hR (by decide) dX10_isFit_77
      · rw [if_neg h9] at h
        refine g_iconst hC dX10_isFit_72 ok_1 ?_
        refine g_goto hC dX10_isFit_73 (tgt := 77) (by decide) ?_
        exact ret_z h hR (by decide) dX10_isFit_77
  rw [if_neg h9] at h
  have n4 := h9
  clear h9
  by_cases h9 : x1 = 2
  · rw [if_pos h9] at h
    refine g_table hC dX10_isFit_1 78 (Or.inr (by (try dsimp only); rw [h9]; exact ⟨by decide, by decide, 77, rfl, by decide⟩)) ?_
    refine g_iload_n hC dX10_isFit_78 2 rfl rfl ?_
    refine g_iconst hC dX10_isFit_79 ok_0 ?_
    refine g_iconst hC dX10_isFit_80 ok_1 ?_
    obtain ⟨⟨r5, s5⟩, e5, h⟩ := of_bind h
    try dsimp only at h
    refine s_callSi hC dX10_isFit_81 (tX10_within e5) miX10_within msX10_within mlRX10_101 rfl rfl (Nat.le_of_ble_eq_true rfl) (Nat.le_of_ble_eq_true rfl) (Nat.le_of_ble_eq_true rfl) hcs ?_
    obtain ⟨b9, h⟩ := of_ite h
    exact ret_z h hR b9 dX10_isFit_84
  rw [if_neg h9] at h
  have n6 := h9
  clear h9
  by_cases h9 : x1 = 3
  · rw [if_pos h9] at h
    refine g_table hC dX10_isFit_1 85 (Or.inr (by (try dsimp only); rw [h9]; exact ⟨by decide, by decide, 84, rfl, by decide⟩)) ?_
    refine g_iload_n hC dX10_isFit_85 2 rfl rfl ?_
    refine g_iconst hC dX10_isFit_86 ok_0 ?_
    refine g_bipush hC dX10_isFit_87 bp_99 ?_
    obtain ⟨⟨r7, s7⟩, e7, h⟩ := of_bind h
    try dsimp only at h
    refine s_callSi hC dX10_isFit_89 (tX10_within e7) miX10_within msX10_within mlRX10_101 rfl rfl (Nat.le_of_ble_eq_true rfl) (Nat.le_of_ble_eq_true rfl) (Nat.le_of_ble_eq_true rfl) hcs ?_
    obtain ⟨b9, h⟩ := of_ite h
    exact ret_z h hR b9 dX10_isFit_92
  rw [if_neg h9] at h
  have n8 := h9
  clear h9
  by_cases h9 : x1 = 5
  · rw [if_pos h9] at h
    refine g_table hC dX10_isFit_1 85 (Or.inr (by (try dsimp only); rw [h9]; exact ⟨by decide, by decide, 84, rfl, by decide⟩)) ?_
    refine g_iload_n hC dX10_isFit_85 2 rfl rfl ?_
    refine g_iconst hC dX10_isFit_86 ok_0 ?_
    refine g_bipush hC dX10_isFit_87 bp_99 ?_
    obtain ⟨⟨r9, s9⟩, e9, h⟩ := of_bind h
    try dsimp only at h
    refine s_callSi hC dX10_isFit_89 (tX10_within e9) miX10_within msX10_within mlRX10_101 rfl rfl (Nat.le_of_ble_eq_true rfl) (Nat.le_of_ble_eq_true rfl) (Nat.le_of_ble_eq_true rfl) hcs ?_
    obtain ⟨b9, h⟩ := of_ite h
    exact ret_z h hR b9 dX10_isFit_92
  rw [if_neg h9] at h
  have n10 := h9
  clear h9
  by_cases h9 : x1 = 8
  · rw [if_pos h9] at h
    refine g_table hC dX10_isFit_1 78 (Or.inr (by (try dsimp only); rw [h9]; exact ⟨by decide, by decide, 77, rfl, by decide⟩)) ?_
    refine g_iload_n hC dX10_isFit_78 2 rfl rfl ?_
    refine g_iconst hC dX10_isFit_79 ok_0 ?_
    refine g_iconst hC dX10_isFit_80 ok_1 ?_
    obtain ⟨⟨r11, s11⟩, e11, h⟩ := of_bind h
    try dsimp only at h
    refine s_callSi hC dX10_isFit_81 (tX10_within e11) miX10_within msX10_within mlRX10_101 rfl rfl (Nat.le_of_ble_eq_true rfl) (Nat.le_of_ble_eq_true rfl) (Nat.le_of_ble_eq_true rfl) hcs ?_
    obtain ⟨b9, h⟩ := of_ite h
    exact ret_z h hR b9 dX10_isFit_84
  rw [if_neg h9] at h
  have n12 := h9
  clear h9
  refine g_table hC dX10_isFit_1 93 (by
    by_cases z0 : x1 = 4
    · exact Or.inr (by (try dsimp only); rw [z0]; exact ⟨by decide, by decide, 92, rfl, by decide⟩)
    by_cases z1 : x1 = 6
    · exact Or.inr (by (try dsimp only); rw [z1]; exact ⟨by decide, by decide, 92, rfl, by decide⟩)
    by_cases z2 : x1 = 7
    · exact Or.inr (by (try dsimp only); rw [z2]; exact ⟨by decide, by decide, 92, rfl, by decide⟩)
    exact Or.inl ⟨by (try dsimp only); omega, by decide⟩) ?_
  refine g_iload_n hC dX10_isFit_93 2 rfl rfl ?_
  refine g_iconst hC dX10_isFit_94 ok_0 ?_
  refine g_bipush hC dX10_isFit_95 bp_9 ?_
  obtain ⟨⟨r13, s13⟩, e13, h⟩ := of_bind h
  try dsimp only at h
  refine s_callSi hC dX10_isFit_97 (tX10_within e13) miX10_within msX10_within mlRX10_101 rfl rfl (Nat.le_of_ble_eq_true rfl) (Nat.le_of_ble_eq_true rfl) (Nat.le_of_ble_eq_true rfl) hcs ?_
  obtain ⟨b9, h⟩ := of_ite h
  exact ret_z h hR b9 dX10_isFit_100
theorem tX10_isFit {l : Launch} {g : GT} {c0 : Nat} {x1 : Int} {x2 : Int} {σ σ' : St} {r : Int} (h0 : isO 10 c0 = true) (h : fX10_isFit c0 x1 x2 σ = some (r, σ')) : Cn l g yX10_isFit cX10_isFit 3 (some .boolean) 2 0 0 [vr c0, vi x1, vi x2] (SH0, σ) (some (vi r)) (SH0, σ') :=
  Cn.ofZ (by decide) (Nat.le_of_ble_eq_true rfl) (fun K e hC hR => (bX10_isFit_0 hC ⟨Nat.le_refl _, Nat.le_refl _⟩ h0 hR _ h))
theorem dX10_isOf_0 : decode cX10_isOf 0 = .ok (.iload_n 2, 1) := by decide +kernel
theorem dX10_isOf_1 : decode cX10_isOf 1 = .ok (.iconst 0, 1) := by decide +kernel
theorem dX10_isOf_2 : decode cX10_isOf 2 = .ok (.iconst 3, 1) := by decide +kernel
theorem dX10_isOf_3 : decode cX10_isOf 3 = .ok (.invokestatic 101, 3) := by decide +kernel
theorem dX10_isOf_6 : decode cX10_isOf 6 = .ok (.ifCond .eq 11, 3) := by decide +kernel
theorem dX10_isOf_9 : decode cX10_isOf 9 = .ok (.aload_n 0, 1) := by decide +kernel
theorem dX10_isOf_10 : decode cX10_isOf 10 = .ok (.iload_n 1, 1) := by decide +kernel
theorem dX10_isOf_11 : decode cX10_isOf 11 = .ok (.invokevirtual 122, 3) := by decide +kernel
theorem dX10_isOf_14 : decode cX10_isOf 14 = .ok (.goto 26, 3) := by decide +kernel
theorem dX10_isOf_17 : decode cX10_isOf 17 = .ok (.iload_n 2, 1) := by decide +kernel
theorem dX10_isOf_18 : decode cX10_isOf 18 = .ok (.iconst 4, 1) := by decide +kernel
theorem dX10_isOf_19 : decode cX10_isOf 19 = .ok (.bipush 12, 2) := by decide +kernel
theorem dX10_isOf_21 : decode cX10_isOf 21 = .ok (.invokestatic 101, 3) := by decide +kernel
theorem dX10_isOf_24 : decode cX10_isOf 24 = .ok (.ifCond .eq 15, 3) := by decide +kernel
theorem dX10_isOf_27 : decode cX10_isOf 27 = .ok (.aload_n 0, 1) := by decide +kernel
theorem dX10_isOf_28 : decode cX10_isOf 28 = .ok (.iload_n 1, 1) := by decide +kernel
theorem dX10_isOf_29 : decode cX10_isOf 29 = .ok (.invokevirtual 125, 3) := by decide +kernel
theorem dX10_isOf_32 : decode cX10_isOf 32 = .ok (.ifCond .eq 7, 3) := by decide +kernel
theorem dX10_isOf_35 : decode cX10_isOf 35 = .ok (.iconst 1, 1) := by decide +kernel
theorem dX10_isOf_36 : decode cX10_isOf 36 = .ok (.goto 4, 3) := by decide +kernel
theorem dX10_isOf_39 : decode cX10_isOf 39 = .ok (.iconst 0, 1) := by decide +kernel
theorem dX10_isOf_40 : decode cX10_isOf 40 = .ok (.ireturn, 1) := by decide +kernel
theorem bX10_isOf_0 {K : KT} {g : GT} {cm sm : Nat} {cs : Nat × Nat} {c0 : Nat} {x1 : Int} {x2 : Int} {r : Int} {σ' : St} (hC : Ctx K g RX10 cX10_isOf 3 2 cm sm) (hcs : cs.1 ≤ cm ∧ cs.2 ≤ sm) (h0 : isO 10 c0 = true) (hR : RetZ K g cX10_isOf 3 cs r (SH0, σ')) : ∀ (σ : St), fX10_isOf c0 x1 x2 σ = some (r, σ') → G K g 3 cs 0 [(0, vr c0), (1, vi x1), (2, vi x2)] [] (SH0, σ) := by
  intro σ h
  unfold fX10_isOf at h
  refine g_iload_n hC dX10_isOf_0 2 rfl rfl ?_
  refine g_iconst hC dX10_isOf_1 ok_0 ?_
  refine g_iconst hC dX10_isOf_2 ok_3 ?_
  obtain ⟨⟨r1, s1⟩, e1, h⟩ := of_bind h
  try dsimp only at h
  refine s_callSi hC dX10_isOf_3 (tX10_within e1) miX10_within msX10_within mlRX10_101 rfl rfl (Nat.le_of_ble_eq_true rfl) (Nat.le_of_ble_eq_true rfl) (Nat.le_of_ble_eq_true rfl) hcs ?_
  refine g_if_eq hC dX10_isOf_6 (tgt := 17) (by decide) (fun h9 => ?_) (fun h9 => ?_)
  · rw [if_pos h9] at h
    refine g_iload_n hC dX10_isOf_17 2 rfl rfl ?_
    refine g_iconst hC dX10_isOf_18 ok_4 ?_
    refine g_bipush hC dX10_isOf_19 bp_12 ?_
    obtain ⟨⟨r2, s2⟩, e2, h⟩ := of_bind h
    try dsimp only at h
    refine s_callSi hC dX10_isOf_21 (tX10_within e2) miX10_within msX10_within mlRX10_101 rfl rfl (Nat.le_of_ble_eq_true rfl) (Nat.le_of_ble_eq_true rfl) (Nat.le_of_ble_eq_true rfl) hcs ?_
    refine g_if_eq hC dX10_isOf_24 (tgt := 39) (by decide) (fun h9 => ?_) (fun h9 => ?_)
    · rw [if_pos h9] at h
      refine g_iconst hC dX10_isOf_39 ok_0 ?_
      exact ret_z h hR (by decide) dX10_isOf_40
    · rw [if_neg h9] at h
      refine g_aload_n hC dX10_isOf_27 0 rfl rfl ?_
      refine g_iload_n hC dX10_isOf_28 1 rfl rfl ?_
      obtain ⟨⟨r3, s3⟩, e3, h⟩ := of_bind h
      try dsimp only at h
      refine s_callVi hC dX10_isOf_29 (tX10_isOne h0 e3) miX10_isOne mvX10_isOne mlRX10_125 (isO_spec h0) vc_10 rfl rfl (Nat.le_of_ble_eq_true rfl) (Nat.le_of_ble_eq_true rfl) (Nat.le_of_ble_eq_true rfl) hcs ?_
      refine g_if_eq hC dX10_isOf_32 (tgt := 39) (by decide) (fun h9 => ?_) (fun h9 => ?_)
      · rw [if_pos h9] at h
        refine g_iconst hC dX10_isOf_39 ok_0 ?_
        exact ret_z h hR (by decide) dX10_isOf_40
      · rw [if_neg h9] at h
        refine g_iconst hC dX10_isOf_35 ok_1 ?_
        refine g_goto hC dX10_isOf_36 (tgt := 40) (by decide) ?_
        exact ret_z h hR (by decide) dX10_isOf_40
  · rw [if_neg h9] at h
    refine g_aload_n hC dX10_isOf_9 0 rfl rfl ?_
    refine g_iload_n hC dX10_isOf_10 1 rfl rfl ?_
    obtain ⟨⟨r4, s4⟩, e4, h⟩ := of_bind h
    try dsimp only at h
    refine s_callVi hC dX10_isOf_11 (tX10_isThing h0 e4) miX10_isThing mvX10_isThing mlRX10_122 (isO_spec h0) vc_10 rfl rfl (Nat.le_of_ble_eq_true rfl) (Nat.le_of_ble_eq_true rfl) (Nat.le_of_ble_eq_true rfl) hcs ?_
    refine g_goto hC dX10_isOf_14 (tgt := 40) (by decide) ?_
    obtain ⟨b9, h⟩ := of_ite h
    exact ret_z h hR b9 dX10_isOf_40
theorem tX10_isOf {l : Launch} {g : GT} {c0 : Nat} {x1 : Int} {x2 : Int} {σ σ' : St} {r : Int} (h0 : isO 10 c0 = true) (h : fX10_isOf c0 x1 x2 σ = some (r, σ')) : Cn l g yX10_isOf cX10_isOf 3 (some .boolean) 2 0 0 [vr c0, vi x1, vi x2] (SH0, σ) (some (vi r)) (SH0, σ') :=
  Cn.ofZ (by decide) (Nat.le_of_ble_eq_true rfl) (fun K e hC hR => (bX10_isOf_0 hC ⟨Nat.le_refl _, Nat.le_refl _⟩ h0 hR _ h))
theorem dX10_mend_0 : decode cX10_mend 0 = .ok (.aload_n 0, 1) := by decide +kernel
theorem dX10_mend_1 : decode cX10_mend 1 = .ok (.iload_n 1, 1) := by decide +kernel
theorem dX10_mend_2 : decode cX10_mend 2 = .ok (.iload_n 2, 1) := by decide +kernel
theorem dX10_mend_3 : decode cX10_mend 3 = .ok (.invokevirtual 128, 3) := by decide +kernel
theorem dX10_mend_6 : decode cX10_mend 6 = .ok (.ifCond .eq 12, 3) := by decide +kernel
theorem dX10_mend_9 : decode cX10_mend 9 = .ok (.aload_n 0, 1) := by decide +kernel
theorem dX10_mend_10 : decode cX10_mend 10 = .ok (.iload_n 2, 1) := by decide +kernel
theorem dX10_mend_11 : decode cX10_mend 11 = .ok (.iload_n 3, 1) := by decide +kernel
theorem dX10_mend_12 : decode cX10_mend 12 = .ok (.invokevirtual 132, 3) := by decide +kernel
theorem dX10_mend_15 : decode cX10_mend 15 = .ok (.ifCond .ne 6, 3) := by decide +kernel
theorem dX10_mend_18 : decode cX10_mend 18 = .ok (.ldc 135, 2) := by decide +kernel
theorem dX10_mend_20 : decode cX10_mend 20 = .ok (.ireturn, 1) := by decide +kernel
theorem dX10_mend_21 : decode cX10_mend 21 = .ok (.aload_n 0, 1) := by decide +kernel
theorem dX10_mend_22 : decode cX10_mend 22 = .ok (.iload_n 1, 1) := by decide +kernel
theorem dX10_mend_23 : decode cX10_mend 23 = .ok (.iload_n 2, 1) := by decide +kernel
theorem dX10_mend_24 : decode cX10_mend 24 = .ok (.invokevirtual 136, 3) := by decide +kernel
theorem dX10_mend_27 : decode cX10_mend 27 = .ok (.istore 4, 2) := by decide +kernel
theorem dX10_mend_29 : decode cX10_mend 29 = .ok (.iload 4, 2) := by decide +kernel
theorem dX10_mend_31 : decode cX10_mend 31 = .ok (.iload_n 3, 1) := by decide +kernel
theorem dX10_mend_32 : decode cX10_mend 32 = .ok (.if_icmp .ne 6, 3) := by decide +kernel
theorem dX10_mend_35 : decode cX10_mend 35 = .ok (.iload 4, 2) := by decide +kernel
theorem dX10_mend_37 : decode cX10_mend 37 = .ok (.ireturn, 1) := by decide +kernel
theorem dX10_mend_38 : decode cX10_mend 38 = .ok (.aload_n 0, 1) := by decide +kernel
theorem dX10_mend_39 : decode cX10_mend 39 = .ok (.iload_n 1, 1) := by decide +kernel
theorem dX10_mend_40 : decode cX10_mend 40 = .ok (.iload_n 2, 1) := by decide +kernel
theorem dX10_mend_41 : decode cX10_mend 41 = .ok (.iload_n 3, 1) := by decide +kernel
theorem dX10_mend_42 : decode cX10_mend 42 = .ok (.invokevirtual 139, 3) := by decide +kernel
theorem dX10_mend_45 : decode cX10_mend 45 = .ok (.aload_n 0, 1) := by decide +kernel
theorem dX10_mend_46 : decode cX10_mend 46 = .ok (.getfield 143, 3) := by decide +kernel
theorem dX10_mend_49 : decode cX10_mend 49 = .ok (.bipush 40, 2) := by decide +kernel
theorem dX10_mend_51 : decode cX10_mend 51 = .ok (.if_icmp .ne 46, 3) := by decide +kernel
theorem dX10_mend_54 : decode cX10_mend 54 = .ok (.iconst 0, 1) := by decide +kernel
theorem dX10_mend_55 : decode cX10_mend 55 = .ok (.istore 5, 2) := by decide +kernel
theorem dX10_mend_57 : decode cX10_mend 57 = .ok (.iload 5, 2) := by decide +kernel
theorem dX10_mend_59 : decode cX10_mend 59 = .ok (.sipush 156, 3) := by decide +kernel
theorem dX10_mend_62 : decode cX10_mend 62 = .ok (.if_icmp .ge 25, 3) := by decide +kernel
theorem dX10_mend_65 : decode cX10_mend 65 = .ok (.aload_n 0, 1) := by decide +kernel
theorem dX10_mend_66 : decode cX10_mend 66 = .ok (.getfield 69, 3) := by decide +kernel
theorem dX10_mend_69 : decode cX10_mend 69 = .ok (.iload 5, 2) := by decide +kernel
theorem dX10_mend_71 : decode cX10_mend 71 = .ok (.aload_n 0, 1) := by decide +kernel
theorem dX10_mend_72 : decode cX10_mend 72 = .ok (.getfield 69, 3) := by decide +kernel
theorem dX10_mend_75 : decode cX10_mend 75 = .ok (.iload 5, 2) := by decide +kernel
theorem dX10_mend_77 : decode cX10_mend 77 = .ok (.iconst 4, 1) := by decide +kernel
theorem dX10_mend_78 : decode cX10_mend 78 = .ok (.iadd, 1) := by decide +kernel
theorem dX10_mend_79 : decode cX10_mend 79 = .ok (.iaload, 1) := by decide +kernel
theorem dX10_mend_80 : decode cX10_mend 80 = .ok (.iastore, 1) := by decide +kernel
theorem dX10_mend_81 : decode cX10_mend 81 = .ok (.iinc 5 1, 3) := by decide +kernel
theorem dX10_mend_84 : decode cX10_mend 84 = .ok (.goto (-27), 3) := by decide +kernel
theorem dX10_mend_87 : decode cX10_mend 87 = .ok (.aload_n 0, 1) := by decide +kernel
theorem dX10_mend_88 : decode cX10_mend 88 = .ok (.dup, 1) := by decide +kernel
theorem dX10_mend_89 : decode cX10_mend 89 = .ok (.getfield 143, 3) := by decide +kernel
theorem dX10_mend_92 : decode cX10_mend 92 = .ok (.iconst 1, 1) := by decide +kernel
theorem dX10_mend_93 : decode cX10_mend 93 = .ok (.isub, 1) := by decide +kernel
theorem dX10_mend_94 : decode cX10_mend 94 = .ok (.putfield 143, 3) := by decide +kernel
theorem dX10_mend_97 : decode cX10_mend 97 = .ok (.aload_n 0, 1) := by decide +kernel
theorem dX10_mend_98 : decode cX10_mend 98 = .ok (.getfield 69, 3) := by decide +kernel
theorem dX10_mend_101 : decode cX10_mend 101 = .ok (.iconst 4, 1) := by decide +kernel
theorem dX10_mend_102 : decode cX10_mend 102 = .ok (.aload_n 0, 1) := by decide +kernel
theorem dX10_mend_103 : decode cX10_mend 103 = .ok (.getfield 143, 3) := by decide +kernel
theorem dX10_mend_106 : decode cX10_mend 106 = .ok (.imul, 1) := by decide +kernel
theorem dX10_mend_107 : decode cX10_mend 107 = .ok (.iload_n 1, 1) := by decide +kernel
theorem dX10_mend_108 : decode cX10_mend 108 = .ok (.iastore, 1) := by decide +kernel
theorem dX10_mend_109 : decode cX10_mend 109 = .ok (.aload_n 0, 1) := by decide +kernel
theorem dX10_mend_110 : decode cX10_mend 110 = .ok (.getfield 69, 3) := by decide +kernel
theorem dX10_mend_113 : decode cX10_mend 113 = .ok (.iconst 4, 1) := by decide +kernel
theorem dX10_mend_114 : decode cX10_mend 114 = .ok (.aload_n 0, 1) := by decide +kernel
theorem dX10_mend_115 : decode cX10_mend 115 = .ok (.getfield 143, 3) := by decide +kernel
theorem dX10_mend_118 : decode cX10_mend 118 = .ok (.imul, 1) := by decide +kernel
theorem dX10_mend_119 : decode cX10_mend 119 = .ok (.iconst 1, 1) := by decide +kernel
theorem dX10_mend_120 : decode cX10_mend 120 = .ok (.iadd, 1) := by decide +kernel
theorem dX10_mend_121 : decode cX10_mend 121 = .ok (.iload_n 2, 1) := by decide +kernel
theorem dX10_mend_122 : decode cX10_mend 122 = .ok (.iastore, 1) := by decide +kernel
theorem dX10_mend_123 : decode cX10_mend 123 = .ok (.aload_n 0, 1) := by decide +kernel
theorem dX10_mend_124 : decode cX10_mend 124 = .ok (.getfield 69, 3) := by decide +kernel
theorem dX10_mend_127 : decode cX10_mend 127 = .ok (.iconst 4, 1) := by decide +kernel
theorem dX10_mend_128 : decode cX10_mend 128 = .ok (.aload_n 0, 1) := by decide +kernel
theorem dX10_mend_129 : decode cX10_mend 129 = .ok (.getfield 143, 3) := by decide +kernel
theorem dX10_mend_132 : decode cX10_mend 132 = .ok (.imul, 1) := by decide +kernel
theorem dX10_mend_133 : decode cX10_mend 133 = .ok (.iconst 2, 1) := by decide +kernel
theorem dX10_mend_134 : decode cX10_mend 134 = .ok (.iadd, 1) := by decide +kernel
theorem dX10_mend_135 : decode cX10_mend 135 = .ok (.iload 4, 2) := by decide +kernel
theorem dX10_mend_137 : decode cX10_mend 137 = .ok (.iastore, 1) := by decide +kernel
theorem dX10_mend_138 : decode cX10_mend 138 = .ok (.aload_n 0, 1) := by decide +kernel
theorem dX10_mend_139 : decode cX10_mend 139 = .ok (.getfield 69, 3) := by decide +kernel
theorem dX10_mend_142 : decode cX10_mend 142 = .ok (.iconst 4, 1) := by decide +kernel
theorem dX10_mend_143 : decode cX10_mend 143 = .ok (.aload_n 0, 1) := by decide +kernel
theorem dX10_mend_144 : decode cX10_mend 144 = .ok (.getfield 143, 3) := by decide +kernel
theorem dX10_mend_147 : decode cX10_mend 147 = .ok (.imul, 1) := by decide +kernel
theorem dX10_mend_148 : decode cX10_mend 148 = .ok (.iconst 3, 1) := by decide +kernel
theorem dX10_mend_149 : decode cX10_mend 149 = .ok (.iadd, 1) := by decide +kernel
theorem dX10_mend_150 : decode cX10_mend 150 = .ok (.iload_n 3, 1) := by decide +kernel
theorem dX10_mend_151 : decode cX10_mend 151 = .ok (.iastore, 1) := by decide +kernel
theorem dX10_mend_152 : decode cX10_mend 152 = .ok (.aload_n 0, 1) := by decide +kernel
theorem dX10_mend_153 : decode cX10_mend 153 = .ok (.dup, 1) := by decide +kernel
theorem dX10_mend_154 : decode cX10_mend 154 = .ok (.getfield 143, 3) := by decide +kernel
theorem dX10_mend_157 : decode cX10_mend 157 = .ok (.iconst 1, 1) := by decide +kernel
theorem dX10_mend_158 : decode cX10_mend 158 = .ok (.iadd, 1) := by decide +kernel
theorem dX10_mend_159 : decode cX10_mend 159 = .ok (.putfield 143, 3) := by decide +kernel
theorem dX10_mend_162 : decode cX10_mend 162 = .ok (.aload_n 0, 1) := by decide +kernel
theorem dX10_mend_163 : decode cX10_mend 163 = .ok (.aload_n 0, 1) := by decide +kernel
theorem dX10_mend_164 : decode cX10_mend 164 = .ok (.getfield 143, 3) := by decide +kernel
theorem dX10_mend_167 : decode cX10_mend 167 = .ok (.putfield 146, 3) := by decide +kernel
theorem dX10_mend_170 : decode cX10_mend 170 = .ok (.iload 4, 2) := by decide +kernel
theorem dX10_mend_172 : decode cX10_mend 172 = .ok (.ireturn, 1) := by decide +kernel
theorem bX10_mend_162 {K : KT} {g : GT} {cm sm : Nat} {cs : Nat × Nat} {c0 : Nat} {x1 : Int} {x2 : Int} {x3 : Int} {r : Int} {σ' : St} (hC : Ctx K g RX10 cX10_mend 6 3 cm sm) (hcs : cs.1 ≤ cm ∧ cs.2 ≤ sm) (h0 : isO 10 c0 = true) (hR : RetI K g cX10_mend 6 cs r (SH0, σ')) : ∀ (x4 : Int) (σ : St), fX10_mend_162 c0 x1 x2 x3 x4 σ = some (r, σ') → G K g 6 cs 162 [(0, vr c0), (1, vi x1), (2, vi x2), (3, vi x3), (4, vi x4)] [] (SH0, σ) := by
  intro x4 σ h
  unfold fX10_mend_162 at h
  refine g_aload_n hC dX10_mend_162 0 rfl rfl ?_
  refine g_aload_n hC dX10_mend_163 0 rfl rfl ?_
  refine g_geti hC dX10_mend_164 lfRX10_143 (isO_spec h0) (ft_10_32 h0) ?_
  refine g_puti hC dX10_mend_167 lfRX10_146 fp_10_31 (isO_spec h0) (ft_10_31 h0) ?_
  refine g_iload hC dX10_mend_170 4 rfl ?_
  exact ret_i h hR dX10_mend_172
theorem bX10_mend_152 {K : KT} {g : GT} {cm sm : Nat} {cs : Nat × Nat} {c0 : Nat} {x1 : Int} {x2 : Int} {x3 : Int} {r : Int} {σ' : St} (hC : Ctx K g RX10 cX10_mend 6 3 cm sm) (hcs : cs.1 ≤ cm ∧ cs.2 ≤ sm) (h0 : isO 10 c0 = true) (hR : RetI K g cX10_mend 6 cs r (SH0, σ')) : ∀ (x4 : Int) (σ : St), fX10_mend_152 c0 x1 x2 x3 x4 σ = some (r, σ') → G K g 6 cs 152 [(0, vr c0), (1, vi x1), (2, vi x2), (3, vi x3), (4, vi x4)] [] (SH0, σ) := by
  intro x4 σ h
  unfold fX10_mend_152 at h
  refine g_aload_n hC dX10_mend_152 0 rfl rfl ?_
  refine g_dup hC dX10_mend_153 rfl ?_
  refine g_geti hC dX10_mend_154 lfRX10_143 (isO_spec h0) (ft_10_32 h0) ?_
  refine g_iconst hC dX10_mend_157 ok_1 ?_
  refine g_iadd hC dX10_mend_158 ?_
  refine g_puti hC dX10_mend_159 lfRX10_143 fp_10_32 (isO_spec h0) (ft_10_32 h0) ?_
  exact g_pick [0, 1, 2, 3, 4] rfl (bX10_mend_162 hC hcs h0 hR _ _ h)
theorem bX10_mend_138 {K : KT} {g : GT} {cm sm : Nat} {cs : Nat × Nat} {c0 : Nat} {x1 : Int} {x2 : Int} {x3 : Int} {r : Int} {σ' : St} (hC : Ctx K g RX10 cX10_mend 6 3 cm sm) (hcs : cs.1 ≤ cm ∧ cs.2 ≤ sm) (h0 : isO 10 c0 = true) (hR : RetI K g cX10_mend 6 cs r (SH0, σ')) : ∀ (x4 : Int) (σ : St), fX10_mend_138 c0 x1 x2 x3 x4 σ = some (r, σ') → G K g 6 cs 138 [(0, vr c0), (1, vi x1), (2, vi x2), (3, vi x3), (4, vi x4)] [] (SH0, σ) := by
  intro x4 σ h
  unfold fX10_mend_138 at h
  refine g_aload_n hC dX10_mend_138 0 rfl rfl ?_
  refine g_getr hC dX10_mend_139 lfRX10_69 (isO_spec h0) (ft_10_33 h0) ?_
  refine g_iconst hC dX10_mend_142 ok_4 ?_
  refine g_aload_n hC dX10_mend_143 0 rfl rfl ?_
  refine g_geti hC dX10_mend_144 lfRX10_143 (isO_spec h0) (ft_10_32 h0) ?_
  refine g_imul hC dX10_mend_147 ?_
  refine g_iconst hC dX10_mend_148 ok_3 ?_
  refine g_iadd hC dX10_mend_149 ?_
  refine g_iload_n hC dX10_mend_150 3 rfl rfl ?_
  obtain ⟨b9, h⟩ := of_ite h
  refine g_iast hC dX10_mend_151 (isA_spec (rf_10_33 h0)) b9 ?_
  exact g_pick [0, 1, 2, 3, 4] rfl (bX10_mend_152 hC hcs h0 hR _ _ h)
theorem bX10_mend_97 {K : KT} {g : GT} {cm sm : Nat} {cs : Nat × Nat} {c0 : Nat} {x1 : Int} {x2 : Int} {x3 : Int} {r : Int} {σ' : St} (hC : Ctx K g RX10 cX10_mend 6 3 cm sm) (hcs : cs.1 ≤ cm ∧ cs.2 ≤ sm) (h0 : isO 10 c0 = true) (hR : RetI K g cX10_mend 6 cs r (SH0, σ')) : ∀ (x4 : Int) (σ : St), fX10_mend_97 c0 x1 x2 x3 x4 σ = some (r, σ') → G K g 6 cs 97 [(0, vr c0), (1, vi x1), (2, vi x2), (3, vi x3), (4, vi x4)] [] (SH0, σ) := by
  intro x4 σ h
  unfold fX10_mend_97 at h
  refine g_aload_n hC dX10_mend_97 0 rfl rfl ?_
  refine g_getr hC dX10_mend_98 lfRX10_69 (isO_spec h0) (ft_10_33 h0) ?_
  refine g_iconst hC dX10_mend_101 ok_4 ?_
  refine g_aload_n hC dX10_mend_102 0 rfl rfl ?_
  refine g_geti hC dX10_mend_103 lfRX10_143 (isO_spec h0) (ft_10_32 h0) ?_
  refine g_imul hC dX10_mend_106 ?_
  refine g_iload_n hC dX10_mend_107 1 rfl rfl ?_
  obtain ⟨b9, h⟩ := of_ite h
  refine g_iast hC dX10_mend_108 (isA_spec (rf_10_33 h0)) b9 ?_
  refine g_aload_n hC dX10_mend_109 0 rfl rfl ?_
  refine g_getr hC dX10_mend_110 lfRX10_69 (isO_spec h0) (ft_10_33 h0) ?_
  refine g_iconst hC dX10_mend_113 ok_4 ?_
  refine g_aload_n hC dX10_mend_114 0 rfl rfl ?_
  refine g_geti hC dX10_mend_115 lfRX10_143 (isO_spec h0) (ft_10_32 h0) ?_
  refine g_imul hC dX10_mend_118 ?_
  refine g_iconst hC dX10_mend_119 ok_1 ?_
  refine g_iadd hC dX10_mend_120 ?_
  refine g_iload_n hC dX10_mend_121 2 rfl rfl ?_
  obtain ⟨b9, h⟩ := of_ite h
  refine g_iast hC dX10_mend_122 (isA_spec (rf_10_33 h0)) b9 ?_
  refine g_aload_n hC dX10_mend_123 0 rfl rfl ?_
  refine g_getr hC dX10_mend_124 lfRX10_69 (isO_spec h0) (ft_10_33 h0) ?_
  refine g_iconst hC dX10_mend_127 ok_4 ?_
  refine g_aload_n hC dX10_mend_128 0 rfl rfl ?_
  refine g_geti hC dX10_mend_129 lfRX10_143 (isO_spec h0) (ft_10_32 h0) ?_
  refine g_imul hC dX10_mend_132 ?_
  refine g_iconst hC dX10_mend_133 ok_2 ?_
  refine g_iadd hC dX10_mend_134 ?_
  refine g_iload hC dX10_mend_135 4 rfl ?_
  obtain ⟨b9, h⟩ := of_ite h
  refine g_iast hC dX10_mend_137 (isA_spec (rf_10_33 h0)) b9 ?_
  exact g_pick [0, 1, 2, 3, 4] rfl (bX10_mend_138 hC hcs h0 hR _ _ h)
theorem bX10_mend_57 {K : KT} {g : GT} {cm sm : Nat} {cs : Nat × Nat} {c0 : Nat} {x1 : Int} {x2 : Int} {x3 : Int} {r : Int} {σ' : St} (hC : Ctx K g RX10 cX10_mend 6 3 cm sm) (hcs : cs.1 ≤ cm ∧ cs.2 ≤ sm) (h0 : isO 10 c0 = true) (hR : RetI K g cX10_mend 6 cs r (SH0, σ')) : ∀ (n : Nat) (x4 : Int) (x5 : Int) (σ : St), fX10_mend_57 c0 x1 x2 x3 n x4 x5 σ = some (r, σ') → G K g 6 cs 57 [(0, vr c0), (1, vi x1), (2, vi x2), (3, vi x3), (4, vi x4), (5, vi x5)] [] (SH0, σ) := by
  intro n
  induction n with
  | zero =>
    intro x4 x5 σ h
    rw [fX10_mend_57.eq_1] at h
    cases h
  | succ n ih =>
    intro x4 x5 σ h
    rw [fX10_mend_57.eq_2] at h
    refine g_iload hC dX10_mend_57 5 rfl ?_
    refine g_sipush hC dX10_mend_59 sp_156 ?_
    refine g_icmp_ge hC dX10_mend_62 (tgt := 87) (by decide) (fun h9 => ?_) (fun h9 => ?_)
    · rw [if_pos h9] at h
      refine g_aload_n hC dX10_mend_87 0 rfl rfl ?_
      refine g_dup hC dX10_mend_88 rfl ?_
      refine g_geti hC dX10_mend_89 lfRX10_143 (isO_spec h0) (ft_10_32 h0) ?_
      refine g_iconst hC dX10_mend_92 ok_1 ?_
      refine g_isub hC dX10_mend_93 ?_
      refine g_puti hC dX10_mend_94 lfRX10_143 fp_10_32 (isO_spec h0) (ft_10_32 h0) ?_
      exact g_pick [0, 1, 2, 3, 4] rfl (bX10_mend_97 hC hcs h0 hR _ _ h)
    · rw [if_neg h9] at h
      refine g_aload_n hC dX10_mend_65 0 rfl rfl ?_
      refine g_getr hC dX10_mend_66 lfRX10_69 (isO_spec h0) (ft_10_33 h0) ?_
      refine g_iload hC dX10_mend_69 5 rfl ?_
      refine g_aload_n hC dX10_mend_71 0 rfl rfl ?_
      refine g_getr hC dX10_mend_72 lfRX10_69 (isO_spec h0) (ft_10_33 h0) ?_
      refine g_iload hC dX10_mend_75 5 rfl ?_
      refine g_iconst hC dX10_mend_77 ok_4 ?_
      refine g_iadd hC dX10_mend_78 ?_
      obtain ⟨b9, h⟩ := of_ite h
      refine g_iald hC dX10_mend_79 (isA_spec (rf_10_33 h0)) b9 ?_
      obtain ⟨b9, h⟩ := of_ite h
      refine g_iast hC dX10_mend_80 (isA_spec (rf_10_33 h0)) b9 ?_
      refine g_iinc hC dX10_mend_81 5 rfl (Nat.le_of_ble_eq_true rfl) rfl ?_
      refine g_goto hC dX10_mend_84 (tgt := 57) (by decide) ?_
      exact g_pick [1, 2, 3, 4, 5, 0] rfl (ih _ _ _ h)
theorem bX10_mend_0 {K : KT} {g : GT} {cm sm : Nat} {cs : Nat × Nat} {c0 : Nat} {x1 : Int} {x2 : Int} {x3 : Int} {r : Int} {σ' : St} (hC : Ctx K g RX10 cX10_mend 6 3 cm sm) (hcs : cs.1 ≤ cm ∧ cs.2 ≤ sm) (h0 : isO 10 c0 = true) (hR : RetI K g cX10_mend 6 cs r (SH0, σ')) : ∀ (σ : St), fX10_mend c0 x1 x2 x3 σ = some (r, σ') → G K g 6 cs 0 [(0, vr c0), (1, vi x1), (2, vi x2), (3, vi x3)] [] (SH0, σ) := by
  intro σ h
  unfold fX10_mend at h
  refine g_aload_n hC dX10_mend_0 0 rfl rfl ?_
  refine g_iload_n hC dX10_mend_1 1 rfl rfl ?_
  refine g_iload_n hC dX10_mend_2 2 rfl rfl ?_
  obtain ⟨⟨r1, s1⟩, e1, h⟩ := of_bind h
  try dsimp only at h
  refine s_callVi hC dX10_mend_3 (tX10_isOf h0 e1) miX10_isOf mvX10_isOf mlRX10_128 (isO_spec h0) vc_10 rfl rfl (Nat.le_of_ble_eq_true rfl) (Nat.le_of_ble_eq_true rfl) (Nat.le_of_ble_eq_true rfl) hcs ?_
  refine g_if_eq hC dX10_mend_6 (tgt := 18) (by decide) (fun h9 => ?_) (fun h9 => ?_)
  · rw [if_pos h9] at h
    refine g_ldc hC dX10_mend_18 kRX10_135 ?_
    exact ret_i h hR dX10_mend_20
  · rw [if_neg h9] at h
    refine g_aload_n hC dX10_mend_9 0 rfl rfl ?_
    refine g_iload_n hC dX10_mend_10 2 rfl rfl ?_
    refine g_iload_n hC dX10_mend_11 3 rfl rfl ?_
    obtain ⟨⟨r2, s2⟩, e2, h⟩ := of_bind h
    try dsimp only at h
    refine s_callVi hC dX10_mend_12 (tX10_isFit h0 e2) miX10_isFit mvX10_isFit mlRX10_132 (isO_spec h0) vc_10 rfl rfl (Nat.le_of_ble_eq_true rfl) (Nat.le_of_ble_eq_true rfl) (Nat.le_of_ble_eq_true rfl) hcs ?_
    refine g_if_ne hC dX10_mend_15 (tgt := 21) (by decide) (fun h9 => ?_) (fun h9 => ?_)
    · rw [if_neg h9] at h
      refine g_aload_n hC dX10_mend_21 0 rfl rfl ?_
      refine g_iload_n hC dX10_mend_22 1 rfl rfl ?_
      refine g_iload_n hC dX10_mend_23 2 rfl rfl ?_
      obtain ⟨⟨r3, s3⟩, e3, h⟩ := of_bind h
      try dsimp only at h
      refine s_callVi hC dX10_mend_24 (tX10_get h0 e3) miX10_get mvX10_get mlRX10_136 (isO_spec h0) vc_10 rfl rfl (Nat.le_of_ble_eq_true rfl) (Nat.le_of_ble_eq_true rfl) (Nat.le_of_ble_eq_true rfl) hcs ?_
      refine g_istore hC dX10_mend_27 (Nat.le_of_ble_eq_true rfl) rfl ?_
      refine g_iload hC dX10_mend_29 0 rfl ?_
      refine g_iload_n hC dX10_mend_31 4 rfl rfl ?_
      refine g_icmp_ne hC dX10_mend_32 (tgt := 38) (by decide) (fun h9 => ?_) (fun h9 => ?_)
      · rw [if_neg h9] at h
        refine g_aload_n hC dX10_mend_38 1 rfl rfl ?_
        refine g_iload_n hC dX10_mend_39 2 rfl rfl ?_
        refine g_iload_n hC dX10_mend_40 3 rfl rfl ?_
        refine g_iload_n hC dX10_mend_41 4 rfl rfl ?_
        obtain ⟨s4, e4, h⟩ := of_bind h
        try dsimp only at h
        refine s_callVv hC dX10_mend_42 (tX10_becomes h0 e4) miX10_becomes mvX10_becomes mlRX10_139 (isO_spec h0) vc_10 rfl rfl (Nat.le_of_ble_eq_true rfl) (Nat.le_of_ble_eq_true rfl) (Nat.le_of_ble_eq_true rfl) hcs ?_
        refine g_aload_n hC dX10_mend_45 1 rfl rfl ?_
        refine g_geti hC dX10_mend_46 lfRX10_143 (isO_spec h0) (ft_10_32 h0) ?_
        refine g_bipush hC dX10_mend_49 bp_40 ?_
        refine g_icmp_ne hC dX10_mend_51 (tgt := 97) (by decide) (fun h9 => ?_) (fun h9 => ?_)
        · rw [if_neg h9] at h
          exact g_pick [1, 2, 3, 4, 0] rfl (bX10_mend_97 hC hcs h0 hR _ _ h)
        · rw [if_pos h9] at h
          refine g_iconst hC dX10_mend_54 ok_0 ?_
          refine g_istore hC dX10_mend_55 (Nat.le_of_ble_eq_true rfl) rfl ?_
          exact g_pick [2, 3, 4, 5, 1, 0] rfl (bX10_mend_57 hC hcs h0 hR _ _ _ _ h)
      · rw [if_pos h9] at h
        refine g_iload hC dX10_mend_35 0 rfl ?_
        exact ret_i h hR dX10_mend_37
    · rw [if_pos h9] at h
      refine g_ldc hC dX10_mend_18 kRX10_135 ?_
      exact ret_i h hR dX10_mend_20
theorem tX10_mend {l : Launch} {g : GT} {c0 : Nat} {x1 : Int} {x2 : Int} {x3 : Int} {σ σ' : St} {r : Int} (h0 : isO 10 c0 = true) (h : fX10_mend c0 x1 x2 x3 σ = some (r, σ')) : Cn l g yX10_mend cX10_mend 6 (some .int) 3 0 0 [vr c0, vi x1, vi x2, vi x3] (SH0, σ) (some (vi r)) (SH0, σ') :=
  Cn.ofI (by decide) (Nat.le_of_ble_eq_true rfl) (fun K e hC hR => (bX10_mend_0 hC ⟨Nat.le_refl _, Nat.le_refl _⟩ h0 hR _ h))
theorem dX10_longest_0 : decode cX10_longest 0 = .ok (.bipush (-2), 2) := by decide +kernel
theorem dX10_longest_2 : decode cX10_longest 2 = .ok (.istore_n 1, 1) := by decide +kernel
theorem dX10_longest_3 : decode cX10_longest 3 = .ok (.iconst 0, 1) := by decide +kernel
theorem dX10_longest_4 : decode cX10_longest 4 = .ok (.istore_n 2, 1) := by decide +kernel
theorem dX10_longest_5 : decode cX10_longest 5 = .ok (.iload_n 2, 1) := by decide +kernel
theorem dX10_longest_6 : decode cX10_longest 6 = .ok (.aload_n 0, 1) := by decide +kernel
theorem dX10_longest_7 : decode cX10_longest 7 = .ok (.getfield 97, 3) := by decide +kernel
theorem dX10_longest_10 : decode cX10_longest 10 = .ok (.if_icmp .ge 36, 3) := by decide +kernel
theorem dX10_longest_13 : decode cX10_longest 13 = .ok (.aload_n 0, 1) := by decide +kernel
theorem dX10_longest_14 : decode cX10_longest 14 = .ok (.getfield 21, 3) := by decide +kernel
theorem dX10_longest_17 : decode cX10_longest 17 = .ok (.iload_n 2, 1) := by decide +kernel
theorem dX10_longest_18 : decode cX10_longest 18 = .ok (.iaload, 1) := by decide +kernel
theorem dX10_longest_19 : decode cX10_longest 19 = .ok (.iload_n 1, 1) := by decide +kernel
theorem dX10_longest_20 : decode cX10_longest 20 = .ok (.bipush (-2), 2) := by decide +kernel
theorem dX10_longest_22 : decode cX10_longest 22 = .ok (.if_icmp .ne 7, 3) := by decide +kernel
theorem dX10_longest_25 : decode cX10_longest 25 = .ok (.iconst 0, 1) := by decide +kernel
theorem dX10_longest_26 : decode cX10_longest 26 = .ok (.goto 9, 3) := by decide +kernel
theorem dX10_longest_29 : decode cX10_longest 29 = .ok (.aload_n 0, 1) := by decide +kernel
theorem dX10_longest_30 : decode cX10_longest 30 = .ok (.getfield 21, 3) := by decide +kernel
theorem dX10_longest_33 : decode cX10_longest 33 = .ok (.iload_n 1, 1) := by decide +kernel
theorem dX10_longest_34 : decode cX10_longest 34 = .ok (.iaload, 1) := by decide +kernel
theorem dX10_longest_35 : decode cX10_longest 35 = .ok (.if_icmp .le 5, 3) := by decide +kernel
theorem dX10_longest_38 : decode cX10_longest 38 = .ok (.iload_n 2, 1) := by decide +kernel
theorem dX10_longest_39 : decode cX10_longest 39 = .ok (.istore_n 1, 1) := by decide +kernel
theorem dX10_longest_40 : decode cX10_longest 40 = .ok (.iinc 2 1, 3) := by decide +kernel
theorem dX10_longest_43 : decode cX10_longest 43 = .ok (.goto (-38), 3) := by decide +kernel
theorem dX10_longest_46 : decode cX10_longest 46 = .ok (.iload_n 1, 1) := by decide +kernel
theorem dX10_longest_47 : decode cX10_longest 47 = .ok (.ireturn, 1) := by decide +kernel
theorem bX10_longest_40 {K : KT} {g : GT} {cm sm : Nat} {cs : Nat × Nat} {c0 : Nat} {k5 : Int → Int → St → Option (Int × St)} {r : Int} {σ' : St} (hC : Ctx K g RX10 cX10_longest 3 0 cm sm) (hcs : cs.1 ≤ cm ∧ cs.2 ≤ sm) (h0 : isO 10 c0 = true) (hk5 : ∀ (x1 : Int) (x2 : Int) (σ : St), k5 x1 x2 σ = some (r, σ') → G K g 3 cs 5 [(0, vr c0), (1, vi x1), (2, vi x2)] [] (SH0, σ)) (hR : RetI K g cX10_longest 3 cs r (SH0, σ')) : ∀ (x1 : Int) (x2 : Int) (σ : St), fX10_longest_40 c0 k5 x1 x2 σ = some (r, σ') → G K g 3 cs 40 [(0, vr c0), (1, vi x1), (2, vi x2)] [] (SH0, σ) := by
  intro x1 x2 σ h
  unfold fX10_longest_40 at h
  refine g_iinc hC dX10_longest_40 2 rfl (Nat.le_of_ble_eq_true rfl) rfl ?_
  refine g_goto hC dX10_longest_43 (tgt := 5) (by decide) ?_
  exact g_pick [1, 2, 0] rfl (hk5 _ _ _ h)
theorem bX10_longest_35 {K : KT} {g : GT} {cm sm : Nat} {cs : Nat × Nat} {c0 : Nat} {k5 : Int → Int → St → Option (Int × St)} {r : Int} {σ' : St} (hC : Ctx K g RX10 cX10_longest 3 0 cm sm) (hcs : cs.1 ≤ cm ∧ cs.2 ≤ sm) (h0 : isO 10 c0 = true) (hk5 : ∀ (x1 : Int) (x2 : Int) (σ : St), k5 x1 x2 σ = some (r, σ') → G K g 3 cs 5 [(0, vr c0), (1, vi x1), (2, vi x2)] [] (SH0, σ)) (hR : RetI K g cX10_longest 3 cs r (SH0, σ')) : ∀ (x1 : Int) (x2 : Int) (y0 : Int) (y1 : Int) (σ : St), fX10_longest_35 c0 k5 x1 x2 y0 y1 σ = some (r, σ') → G K g 3 cs 35 [(0, vr c0), (1, vi x1), (2, vi x2)] [vi y1, vi y0] (SH0, σ) := by
  intro x1 x2 y0 y1 σ h
  unfold fX10_longest_35 at h
  refine g_icmp_le hC dX10_longest_35 (tgt := 40) (by decide) (fun h9 => ?_) (fun h9 => ?_)
  · rw [if_pos h9] at h
    exact g_pick [0, 1, 2] rfl (bX10_longest_40 hC hcs h0 hk5 hR _ _ _ h)
  · rw [if_neg h9] at h
    refine g_iload_n hC dX10_longest_38 2 rfl rfl ?_
    refine g_istore_n hC dX10_longest_39 rfl (Nat.le_of_ble_eq_true rfl) rfl ?_
    exact g_pick [1, 0, 2] rfl (bX10_longest_40 hC hcs h0 hk5 hR _ _ _ h)
theorem bX10_longest_5 {K : KT} {g : GT} {cm sm : Nat} {cs : Nat × Nat} {c0 : Nat} {r : Int} {σ' : St} (hC : Ctx K g RX10 cX10_longest 3 0 cm sm) (hcs : cs.1 ≤ cm ∧ cs.2 ≤ sm) (h0 : isO 10 c0 = true) (hR : RetI K g cX10_longest 3 cs r (SH0, σ')) : ∀ (n : Nat) (x1 : Int) (x2 : Int) (σ : St), fX10_longest_5 c0 n x1 x2 σ = some (r, σ') → G K g 3 cs 5 [(0, vr c0), (1, vi x1), (2, vi x2)] [] (SH0, σ) := by
  intro n
  induction n with
  | zero =>
    intro x1 x2 σ h
    rw [fX10_longest_5.eq_1] at h
    cases h
  | succ n ih =>
    intro x1 x2 σ h
    rw [fX10_longest_5.eq_2] at h
    refine g_iload_n hC dX10_longest_5 2 rfl rfl ?_
    refine g_aload_n hC dX10_longest_6 0 rfl rfl ?_
    refine g_geti hC dX10_longest_7 lfRX10_97 (isO_spec h0) (ft_10_0 h0) ?_
    refine g_icmp_ge hC dX10_longest_10 (tgt := 46) (by decide) (fun h9 => ?_) (fun h9 => ?_)
    · rw [if_pos h9] at h
      refine g_iload_n hC dX10_longest_46 1 rfl rfl ?_
      exact ret_i h hR dX10_longest_47
    · rw [if_neg h9] at h
      refine g_aload_n hC dX10_longest_13 0 rfl rfl ?_
      refine g_getr hC dX10_longest_14 lfRX10_21 (isO_spec h0) (ft_10_4 h0) ?_
      refine g_iload_n hC dX10_longest_17 2 rfl rfl ?_
      obtain ⟨b9, h⟩ := of_ite h
      refine g_iald hC dX10_longest_18 (isA_spec (rf_10_4 h0)) b9 ?_
      refine g_iload_n hC dX10_longest_19 1 rfl rfl ?_
      refine g_bipush hC dX10_longest_20 bp_m2 ?_
      refine g_icmp_ne hC dX10_longest_22 (tgt := 29) (by decide) (fun h9 => ?_) (fun h9 => ?_)
      · rw [if_neg h9] at h
        refine g_aload_n hC dX10_longest_29 0 rfl rfl ?_
        refine g_getr hC dX10_longest_30 lfRX10_21 (isO_spec h0) (ft_10_4 h0) ?_
        refine g_iload_n hC dX10_longest_33 1 rfl rfl ?_
        obtain ⟨b9, h⟩ := of_ite h
        refine g_iald hC dX10_longest_34 (isA_spec (rf_10_4 h0)) b9 ?_
        exact g_pick [0, 1, 2] rfl (bX10_longest_35 hC hcs h0 ih hR _ _ _ _ _ h)
      · rw [if_pos h9] at h
        refine g_iconst hC dX10_longest_25 ok_0 ?_
        refine g_goto hC dX10_longest_26 (tgt := 35) (by decide) ?_
        exact g_pick [0, 1, 2] rfl (bX10_longest_35 hC hcs h0 ih hR _ _ _ _ _ h)
theorem bX10_longest_0 {K : KT} {g : GT} {cm sm : Nat} {cs : Nat × Nat} {c0 : Nat} {r : Int} {σ' : St} (hC : Ctx K g RX10 cX10_longest 3 0 cm sm) (hcs : cs.1 ≤ cm ∧ cs.2 ≤ sm) (h0 : isO 10 c0 = true) (hR : RetI K g cX10_longest 3 cs r (SH0, σ')) : ∀ (σ : St), fX10_longest c0 σ = some (r, σ') → G K g 3 cs 0 [(0, vr c0)] [] (SH0, σ) := by
  intro σ h
  unfold fX10_longest at h
  refine g_bipush hC dX10_longest_0 bp_m2 ?_
  refine g_istore_n hC dX10_longest_2 rfl (Nat.le_of_ble_eq_true rfl) rfl ?_
  refine g_iconst hC dX10_longest_3 ok_0 ?_
  refine g_istore_n hC dX10_longest_4 rfl (Nat.le_of_ble_eq_true rfl) rfl ?_
  exact g_pick [2, 1, 0] rfl (bX10_longest_5 hC hcs h0 hR _ _ _ _ h)
theorem tX10_longest {l : Launch} {g : GT} {c0 : Nat} {σ σ' : St} {r : Int} (h0 : isO 10 c0 = true) (h : fX10_longest c0 σ = some (r, σ')) : Cn l g yX10_longest cX10_longest 3 (some .int) 0 0 0 [vr c0] (SH0, σ) (some (vi r)) (SH0, σ') :=
  Cn.ofI (by decide) (Nat.le_of_ble_eq_true rfl) (fun K e hC hR => (bX10_longest_0 hC ⟨Nat.le_refl _, Nat.le_refl _⟩ h0 hR _ h))
theorem dX10_quiet_0 : decode cX10_quiet 0 = .ok (.iconst 0, 1) := by decide +kernel
theorem dX10_quiet_1 : decode cX10_quiet 1 = .ok (.istore_n 1, 1) := by decide +kernel
theorem dX10_quiet_2 : decode cX10_quiet 2 = .ok (.iconst 0, 1) := by decide +kernel
theorem dX10_quiet_3 : decode cX10_quiet 3 = .ok (.istore_n 2, 1) := by decide +kernel
theorem dX10_quiet_4 : decode cX10_quiet 4 = .ok (.iload_n 2, 1) := by decide +kernel
theorem dX10_quiet_5 : decode cX10_quiet 5 = .ok (.aload_n 0, 1) := by decide +kernel
theorem dX10_quiet_6 : decode cX10_quiet 6 = .ok (.getfield 97, 3) := by decide +kernel
theorem dX10_quiet_9 : decode cX10_quiet 9 = .ok (.if_icmp .ge 20, 3) := by decide +kernel
theorem dX10_quiet_12 : decode cX10_quiet 12 = .ok (.iload_n 1, 1) := by decide +kernel
theorem dX10_quiet_13 : decode cX10_quiet 13 = .ok (.aload_n 0, 1) := by decide +kernel
theorem dX10_quiet_14 : decode cX10_quiet 14 = .ok (.getfield 21, 3) := by decide +kernel
theorem dX10_quiet_17 : decode cX10_quiet 17 = .ok (.iload_n 2, 1) := by decide +kernel
theorem dX10_quiet_18 : decode cX10_quiet 18 = .ok (.iaload, 1) := by decide +kernel
theorem dX10_quiet_19 : decode cX10_quiet 19 = .ok (.invokestatic 227, 3) := by decide +kernel
theorem dX10_quiet_22 : decode cX10_quiet 22 = .ok (.istore_n 1, 1) := by decide +kernel
theorem dX10_quiet_23 : decode cX10_quiet 23 = .ok (.iinc 2 1, 3) := by decide +kernel
theorem dX10_quiet_26 : decode cX10_quiet 26 = .ok (.goto (-22), 3) := by decide +kernel
theorem dX10_quiet_29 : decode cX10_quiet 29 = .ok (.iload_n 1, 1) := by decide +kernel
theorem dX10_quiet_30 : decode cX10_quiet 30 = .ok (.bipush 60, 2) := by decide +kernel
theorem dX10_quiet_32 : decode cX10_quiet 32 = .ok (.if_icmp .le 8, 3) := by decide +kernel
theorem dX10_quiet_35 : decode cX10_quiet 35 = .ok (.bipush (-2), 2) := by decide +kernel
theorem dX10_quiet_37 : decode cX10_quiet 37 = .ok (.goto 4, 3) := by decide +kernel
theorem dX10_quiet_40 : decode cX10_quiet 40 = .ok (.iload_n 1, 1) := by decide +kernel
theorem dX10_quiet_41 : decode cX10_quiet 41 = .ok (.ireturn, 1) := by decide +kernel
theorem bX10_quiet_4 {K : KT} {g : GT} {cm sm : Nat} {cs : Nat × Nat} {c0 : Nat} {r : Int} {σ' : St} (hC : Ctx K g RX10 cX10_quiet 3 1 cm sm) (hcs : cs.1 ≤ cm ∧ cs.2 ≤ sm) (h0 : isO 10 c0 = true) (hR : RetI K g cX10_quiet 3 cs r (SH0, σ')) : ∀ (n : Nat) (x1 : Int) (x2 : Int) (σ : St), fX10_quiet_4 c0 n x1 x2 σ = some (r, σ') → G K g 3 cs 4 [(0, vr c0), (1, vi x1), (2, vi x2)] [] (SH0, σ) := by
  intro n
  induction n with
  | zero =>
    intro x1 x2 σ h
    rw [fX10_quiet_4.eq_1] at h
    cases h
  | succ n ih =>
    intro x1 x2 σ h
    rw [fX10_quiet_4.eq_2] at h
    refine g_iload_n hC dX10_quiet_4 2 rfl rfl ?_
    refine g_aload_n hC dX10_quiet_5 0 rfl rfl ?_
    refine g_geti hC dX10_quiet_6 lfRX10_97 (isO_spec h0) (ft_10_0 h0) ?_
    refine g_icmp_ge hC dX10_quiet_9 (tgt := 29) (by decide) (fun h9 => ?_) (fun h9 => ?_)
    · rw [if_pos h9] at h
      refine g_iload_n hC dX10_quiet_29 1 rfl rfl ?_
      refine g_bipush hC dX10_quiet_30 bp_60 ?_
      refine g_icmp_le hC dX10_quiet_32 (tgt := 40) (by decide) (fun h9 => ?_) (fun h9 => ?_)
      · rw [if_pos h9] at h
        refine g_iload_n hC dX10_quiet_40 1 rfl rfl ?_
        exact ret_i h hR dX10_quiet_41
      · rw [if_neg h9] at h
        refine g_bipush hC dX10_quiet_35 bp_m2 ?_
        refine g_goto hC dX10_quiet_37 (tgt := 41) (by decide) ?_
        exact ret_i h hR dX10_quiet_41
    · rw [if_neg h9] at h
      refine g_iload_n hC dX10_quiet_12 1 rfl rfl ?_
      refine g_aload_n hC dX10_quiet_13 0 rfl rfl ?_
      refine g_getr hC dX10_quiet_14 lfRX10_21 (isO_spec h0) (ft_10_4 h0) ?_
      refine g_iload_n hC dX10_quiet_17 2 rfl rfl ?_
      obtain ⟨b9, h⟩ := of_ite h
      refine g_iald hC dX10_quiet_18 (isA_spec (rf_10_4 h0)) b9 ?_
      refine g_max hC dX10_quiet_19 lmRX10_227 mx_1 mn_2 mx_3 (Nat.le_of_ble_eq_true rfl) (Nat.le_of_ble_eq_true rfl) hcs ?_
      refine g_istore_n hC dX10_quiet_22 rfl (Nat.le_of_ble_eq_true rfl) rfl ?_
      refine g_iinc hC dX10_quiet_23 2 rfl (Nat.le_of_ble_eq_true rfl) rfl ?_
      refine g_goto hC dX10_quiet_26 (tgt := 4) (by decide) ?_
      exact g_pick [2, 1, 0] rfl (ih _ _ _ h)
theorem bX10_quiet_0 {K : KT} {g : GT} {cm sm : Nat} {cs : Nat × Nat} {c0 : Nat} {r : Int} {σ' : St} (hC : Ctx K g RX10 cX10_quiet 3 1 cm sm) (hcs : cs.1 ≤ cm ∧ cs.2 ≤ sm) (h0 : isO 10 c0 = true) (hR : RetI K g cX10_quiet 3 cs r (SH0, σ')) : ∀ (σ : St), fX10_quiet c0 σ = some (r, σ') → G K g 3 cs 0 [(0, vr c0)] [] (SH0, σ) := by
  intro σ h
  unfold fX10_quiet at h
  refine g_iconst hC dX10_quiet_0 ok_0 ?_
  refine g_istore_n hC dX10_quiet_1 rfl (Nat.le_of_ble_eq_true rfl) rfl ?_
  refine g_iconst hC dX10_quiet_2 ok_0 ?_
  refine g_istore_n hC dX10_quiet_3 rfl (Nat.le_of_ble_eq_true rfl) rfl ?_
  exact g_pick [2, 1, 0] rfl (bX10_quiet_4 hC hcs h0 hR _ _ _ _ h)
theorem tX10_quiet {l : Launch} {g : GT} {c0 : Nat} {σ σ' : St} {r : Int} (h0 : isO 10 c0 = true) (h : fX10_quiet c0 σ = some (r, σ')) : Cn l g yX10_quiet cX10_quiet 3 (some .int) 1 0 0 [vr c0] (SH0, σ) (some (vi r)) (SH0, σ') :=
  Cn.ofI (by decide) (Nat.le_of_ble_eq_true rfl) (fun K e hC hR => (bX10_quiet_0 hC ⟨Nat.le_refl _, Nat.le_refl _⟩ h0 hR _ h))
theorem dX10_missed_0 : decode cX10_missed 0 = .ok (.iload_n 1, 1) := by decide +kernel
theorem dX10_missed_1 : decode cX10_missed 1 = .ok (.ifCond .ne 10, 3) := by decide +kernel
theorem dX10_missed_4 : decode cX10_missed 4 = .ok (.aload_n 0, 1) := by decide +kernel
theorem dX10_missed_5 : decode cX10_missed 5 = .ok (.invokevirtual 296, 3) := by decide +kernel
theorem dX10_missed_8 : decode cX10_missed 8 = .ok (.goto 16, 3) := by decide +kernel
theorem dX10_missed_11 : decode cX10_missed 11 = .ok (.iload_n 1, 1) := by decide +kernel
theorem dX10_missed_12 : decode cX10_missed 12 = .ok (.iconst 1, 1) := by decide +kernel
theorem dX10_missed_13 : decode cX10_missed 13 = .ok (.if_icmp .ne 10, 3) := by decide +kernel
theorem dX10_missed_16 : decode cX10_missed 16 = .ok (.aload_n 0, 1) := by decide +kernel
theorem dX10_missed_17 : decode cX10_missed 17 = .ok (.invokevirtual 299, 3) := by decide +kernel
theorem dX10_missed_20 : decode cX10_missed 20 = .ok (.goto 4, 3) := by decide +kernel
theorem dX10_missed_23 : decode cX10_missed 23 = .ok (.iconst (-1), 1) := by decide +kernel
theorem dX10_missed_24 : decode cX10_missed 24 = .ok (.ireturn, 1) := by decide +kernel
theorem bX10_missed_0 {K : KT} {g : GT} {cm sm : Nat} {cs : Nat × Nat} {c0 : Nat} {x1 : Int} {r : Int} {σ' : St} (hC : Ctx K g RX10 cX10_missed 2 2 cm sm) (hcs : cs.1 ≤ cm ∧ cs.2 ≤ sm) (h0 : isO 10 c0 = true) (hR : RetI K g cX10_missed 2 cs r (SH0, σ')) : ∀ (σ : St), fX10_missed c0 x1 σ = some (r, σ') → G K g 2 cs 0 [(0, vr c0), (1, vi x1)] [] (SH0, σ) := by
  intro σ h
  unfold fX10_missed at h
  refine g_iload_n hC dX10_missed_0 1 rfl rfl ?_
  refine g_if_ne hC dX10_missed_1 (tgt := 11) (by decide) (fun h9 => ?_) (fun h9 => ?_)
  · rw [if_neg h9] at h
    refine g_iload_n hC dX10_missed_11 1 rfl rfl ?_
    refine g_iconst hC dX10_missed_12 ok_1 ?_
    refine g_icmp_ne hC dX10_missed_13 (tgt := 23) (by decide) (fun h9 => ?_) (fun h9 => ?_)
    · rw [if_neg h9] at h
      refine g_iconst hC dX10_missed_23 ok_m1 ?_
      exact ret_i h hR dX10_missed_24
    · rw [if_pos h9] at h
      refine g_aload_n hC dX10_missed_16 0 rfl rfl ?_
      obtain ⟨⟨r1, s1⟩, e1, h⟩ := of_bind h
      try dsimp only at h
      refine s_callVi hC dX10_missed_17 (tX10_longest h0 e1) miX10_longest mvX10_longest mlRX10_299 (isO_spec h0) vc_10 rfl rfl (Nat.le_of_ble_eq_true rfl) (Nat.le_of_ble_eq_true rfl) (Nat.le_of_ble_eq_true rfl) hcs ?_
      refine g_goto hC dX10_missed_20 (tgt := 24) (by decide) ?_
      exact ret_i h hR dX10_missed_24
  · rw [if_pos h9] at h
    refine g_aload_n hC dX10_missed_4 0 rfl rfl ?_
    obtain ⟨⟨r2, s2⟩, e2, h⟩ := of_bind h
    try dsimp only at h
    refine s_callVi hC dX10_missed_5 (tX10_quiet h0 e2) miX10_quiet mvX10_quiet mlRX10_296 (isO_spec h0) vc_10 rfl rfl (Nat.le_of_ble_eq_true rfl) (Nat.le_of_ble_eq_true rfl) (Nat.le_of_ble_eq_true rfl) hcs ?_
    refine g_goto hC dX10_missed_8 (tgt := 24) (by decide) ?_
    exact ret_i h hR dX10_missed_24
theorem tX10_missed {l : Launch} {g : GT} {c0 : Nat} {x1 : Int} {σ σ' : St} {r : Int} (h0 : isO 10 c0 = true) (h : fX10_missed c0 x1 σ = some (r, σ')) : Cn l g yX10_missed cX10_missed 2 (some .int) 2 0 0 [vr c0, vi x1] (SH0, σ) (some (vi r)) (SH0, σ') :=
  Cn.ofI (by decide) (Nat.le_of_ble_eq_true rfl) (fun K e hC hR => (bX10_missed_0 hC ⟨Nat.le_refl _, Nat.le_refl _⟩ h0 hR _ h))
theorem dX10_of_0 : decode cX10_of 0 = .ok (.aload_n 0, 1) := by decide +kernel
theorem dX10_of_1 : decode cX10_of 1 = .ok (.iload_n 1, 1) := by decide +kernel
theorem dX10_of_2 : decode cX10_of 2 = .ok (.iload_n 2, 1) := by decide +kernel
theorem dX10_of_3 : decode cX10_of 3 = .ok (.invokevirtual 128, 3) := by decide +kernel
theorem dX10_of_6 : decode cX10_of 6 = .ok (.ifCond .eq 12, 3) := by decide +kernel
theorem dX10_of_9 : decode cX10_of 9 = .ok (.aload_n 0, 1) := by decide +kernel
theorem dX10_of_10 : decode cX10_of 10 = .ok (.iload_n 1, 1) := by decide +kernel
theorem dX10_of_11 : decode cX10_of 11 = .ok (.iload_n 2, 1) := by decide +kernel
theorem dX10_of_12 : decode cX10_of 12 = .ok (.invokevirtual 136, 3) := by decide +kernel
theorem dX10_of_15 : decode cX10_of 15 = .ok (.goto 5, 3) := by decide +kernel
theorem dX10_of_18 : decode cX10_of 18 = .ok (.ldc 135, 2) := by decide +kernel
theorem dX10_of_20 : decode cX10_of 20 = .ok (.ireturn, 1) := by decide +kernel
theorem bX10_of_0 {K : KT} {g : GT} {cm sm : Nat} {cs : Nat × Nat} {c0 : Nat} {x1 : Int} {x2 : Int} {r : Int} {σ' : St} (hC : Ctx K g RX10 cX10_of 3 3 cm sm) (hcs : cs.1 ≤ cm ∧ cs.2 ≤ sm) (h0 : isO 10 c0 = true) (hR : RetI K g cX10_of 3 cs r (SH0, σ')) : ∀ (σ : St), fX10_of c0 x1 x2 σ = some (r, σ') → G K g 3 cs 0 [(0, vr c0), (1, vi x1), (2, vi x2)] [] (SH0, σ) := by
  intro σ h
  unfold fX10_of at h
  refine g_aload_n hC dX10_of_0 0 rfl rfl ?_
  refine g_iload_n hC dX10_of_1 1 rfl rfl ?_
  refine g_iload_n hC dX10_of_2 2 rfl rfl ?_
  obtain ⟨⟨r1, s1⟩, e1, h⟩ := of_bind h
  try dsimp only at h
  refine s_callVi hC dX10_of_3 (tX10_isOf h0 e1) miX10_isOf mvX10_isOf mlRX10_128 (isO_spec h0) vc_10 rfl rfl (Nat.le_of_ble_eq_true rfl) (Nat.le_of_ble_eq_true rfl) (Nat.le_of_ble_eq_true rfl) hcs ?_
  refine g_if_eq hC dX10_of_6 (tgt := 18) (by decide) (fun h9 => ?_) (fun h9 => ?_)
  · rw [if_pos h9] at h
    refine g_ldc hC dX10_of_18 kRX10_135 ?_
    exact ret_i h hR dX10_of_20
  · rw [if_neg h9] at h
    refine g_aload_n hC dX10_of_9 0 rfl rfl ?_
    refine g_iload_n hC dX10_of_10 1 rfl rfl ?_
    refine g_iload_n hC dX10_of_11 2 rfl rfl ?_
    obtain ⟨⟨r2, s2⟩, e2, h⟩ := of_bind h
    try dsimp only at h
    refine s_callVi hC dX10_of_12 (tX10_get h0 e2) miX10_get mvX10_get mlRX10_136 (isO_spec h0) vc_10 rfl rfl (Nat.le_of_ble_eq_true rfl) (Nat.le_of_ble_eq_true rfl) (Nat.le_of_ble_eq_true rfl) hcs ?_
    refine g_goto hC dX10_of_15 (tgt := 20) (by decide) ?_
    exact ret_i h hR dX10_of_20
theorem tX10_of {l : Launch} {g : GT} {c0 : Nat} {x1 : Int} {x2 : Int} {σ σ' : St} {r : Int} (h0 : isO 10 c0 = true) (h : fX10_of c0 x1 x2 σ = some (r, σ')) : Cn l g yX10_of cX10_of 3 (some .int) 3 0 0 [vr c0, vi x1, vi x2] (SH0, σ) (some (vi r)) (SH0, σ') :=
  Cn.ofI (by decide) (Nat.le_of_ble_eq_true rfl) (fun K e hC hR => (bX10_of_0 hC ⟨Nat.le_refl _, Nat.le_refl _⟩ h0 hR _ h))
theorem dX10_kept_0 : decode cX10_kept 0 = .ok (.iload_n 0, 1) := by decide +kernel
theorem dX10_kept_1 : decode cX10_kept 1 = .ok (.tableswitch 47 0 3 #[31, 36, 41, 45], 31) := by decide +kernel
theorem dX10_kept_32 : decode cX10_kept 32 = .ok (.lload_n 1, 1) := by decide +kernel
theorem dX10_kept_33 : decode cX10_kept 33 = .ok (.l2i, 1) := by decide +kernel
theorem dX10_kept_34 : decode cX10_kept 34 = .ok (.i2b, 1) := by decide +kernel
theorem dX10_kept_35 : decode cX10_kept 35 = .ok (.i2l, 1) := by decide +kernel
theorem dX10_kept_36 : decode cX10_kept 36 = .ok (.lreturn, 1) := by decide +kernel
theorem dX10_kept_37 : decode cX10_kept 37 = .ok (.lload_n 1, 1) := by decide +kernel
theorem dX10_kept_38 : decode cX10_kept 38 = .ok (.l2i, 1) := by decide +kernel
theorem dX10_kept_39 : decode cX10_kept 39 = .ok (.i2s, 1) := by decide +kernel
theorem dX10_kept_40 : decode cX10_kept 40 = .ok (.i2l, 1) := by decide +kernel
theorem dX10_kept_41 : decode cX10_kept 41 = .ok (.lreturn, 1) := by decide +kernel
theorem dX10_kept_42 : decode cX10_kept 42 = .ok (.lload_n 1, 1) := by decide +kernel
theorem dX10_kept_43 : decode cX10_kept 43 = .ok (.l2i, 1) := by decide +kernel
theorem dX10_kept_44 : decode cX10_kept 44 = .ok (.i2l, 1) := by decide +kernel
theorem dX10_kept_45 : decode cX10_kept 45 = .ok (.lreturn, 1) := by decide +kernel
theorem dX10_kept_46 : decode cX10_kept 46 = .ok (.lload_n 1, 1) := by decide +kernel
theorem dX10_kept_47 : decode cX10_kept 47 = .ok (.lreturn, 1) := by decide +kernel
theorem dX10_kept_48 : decode cX10_kept 48 = .ok (.lload_n 1, 1) := by decide +kernel
theorem dX10_kept_49 : decode cX10_kept 49 = .ok (.lconst 0, 1) := by decide +kernel
theorem dX10_kept_50 : decode cX10_kept 50 = .ok (.lcmp, 1) := by decide +kernel
theorem dX10_kept_51 : decode cX10_kept 51 = .ok (.ifCond .eq 7, 3) := by decide +kernel
theorem dX10_kept_54 : decode cX10_kept 54 = .ok (.lconst 1, 1) := by decide +kernel
theorem dX10_kept_55 : decode cX10_kept 55 = .ok (.goto 4, 3) := by decide +kernel
theorem dX10_kept_58 : decode cX10_kept 58 = .ok (.lconst 0, 1) := by decide +kernel
theorem dX10_kept_59 : decode cX10_kept 59 = .ok (.lreturn, 1) := by decide +kernel
theorem bX10_kept_0 {K : KT} {g : GT} {cm sm : Nat} {cs : Nat × Nat} {x0 : Int} {x1 : Int} {r : Int} {σ' : St} (hC : Ctx K g RX10 cX10_kept 3 0 cm sm) (hcs : cs.1 ≤ cm ∧ cs.2 ≤ sm) (hR : RetL K g cX10_kept 3 cs r (SH0, σ')) : ∀ (σ : St), fX10_kept x0 x1 σ = some (r, σ') → G K g 3 cs 0 [(0, vi x0), (1, vl x1)] [] (SH0, σ) := by
  intro σ h
  unfold fX10_kept at h
  refine g_iload_n hC dX10_kept_0 0 rfl rfl ?_
  by_cases h9 : x0 = 0
  · rw [if_pos h9] at h
    refine g_table hC dX10_kept_1 32 (Or.inr (by (try dsimp only); rw [h9]; exact ⟨by decide, by decide, 31, rfl, by decide⟩)) ?_
    refine g_lload_n hC dX10_kept_32 1 rfl rfl ?_
    refine g_l2i hC dX10_kept_33 ?_
    refine g_i2b hC dX10_kept_34 ?_
    refine g_i2l hC dX10_kept_35 ?_
    exact ret_l h hR dX10_kept_36
  rw [if_neg h9] at h
  have n1 := h9
  clear h9
  by_cases h9 : x0 = 1
  · rw [if_pos h9] at h
    refine g_table hC dX10_kept_1 37 (Or.inr (by (try dsimp only); rw [h9]; exact ⟨by decide, by decide, 36, rfl, by decide⟩)) ?_
    refine g_lload_n hC dX10_kept_37 1 rfl rfl ?_
    refine g_l2i hC dX10_kept_38 ?_
    refine g_i2s hC dX10_kept_39 ?_
    refine g_i2l hC dX10_kept_40 ?_
    exact ret_l h hR dX10_kept_41
  rw [if_neg h9] at h
  have n2 := h9
  clear h9
  by_cases h9 : x0 = 2
  · rw [if_pos h9] at h
    refine g_table hC dX10_kept_1 42 (Or.inr (by (try dsimp only); rw [h9]; exact ⟨by decide, by decide, 41, rfl, by decide⟩)) ?_
    refine g_lload_n hC dX10_kept_42 1 rfl rfl ?_
    refine g_l2i hC dX10_kept_43 ?_
    refine g_i2l hC dX10_kept_44 ?_
    exact ret_l h hR dX10_kept_45
  rw [if_neg h9] at h
  have n3 := h9
  clear h9
  by_cases h9 : x0 = 3
  · rw [if_pos h9] at h
    refine g_table hC dX10_kept_1 46 (Or.inr (by (try dsimp only); rw [h9]; exact ⟨by decide, by decide, 45, rfl, by decide⟩)) ?_
    refine g_lload_n hC dX10_kept_46 1 rfl rfl ?_
    exact ret_l h hR dX10_kept_47
  rw [if_neg h9] at h
  have n4 := h9
  clear h9
  refine g_table hC dX10_kept_1 48 (by
    exact Or.inl ⟨by (try dsimp only); omega, by decide⟩) ?_
  refine g_lload_n hC dX10_kept_48 1 rfl rfl ?_
  refine g_lconst hC dX10_kept_49 lc_0 ?_
  refine g_lcmp hC dX10_kept_50 ?_
  refine g_if_eq hC dX10_kept_51 (tgt := 58) (by decide) (fun h9 => ?_) (fun h9 => ?_)
  · rw [if_pos h9] at h
    refine g_lconst hC dX10_kept_58 lc_0 ?_
    exact ret_l h hR dX10_kept_59
  · rw [if_neg h9] at h
    refine g_lconst hC dX10_kept_54 lc_1 ?_
    refine g_goto hC dX10_kept_55 (tgt := 59) (by decide) ?_
    exact ret_l h hR dX10_kept_59
theorem tX10_kept {l : Launch} {g : GT} {x0 : Int} {x1 : Int} {σ σ' : St} {r : Int} (h : fX10_kept x0 x1 σ = some (r, σ')) : Cn l g yX10_kept cX10_kept 3 (some .long) 0 0 0 [vi x0, vl x1] (SH0, σ) (some (vl r)) (SH0, σ') :=
  Cn.ofL (by decide) (Nat.le_of_ble_eq_true rfl) (fun K e hC hR => (bX10_kept_0 hC ⟨Nat.le_refl _, Nat.le_refl _⟩ hR _ h))
theorem dX10_put_0 : decode cX10_put 0 = .ok (.iload_n 1, 1) := by decide +kernel
theorem dX10_put_1 : decode cX10_put 1 = .ok (.invokestatic 112, 3) := by decide +kernel
theorem dX10_put_4 : decode cX10_put 4 = .ok (.ifCond .ne 5, 3) := by decide +kernel
theorem dX10_put_7 : decode cX10_put 7 = .ok (.iconst (-1), 1) := by decide +kernel
theorem dX10_put_8 : decode cX10_put 8 = .ok (.ireturn, 1) := by decide +kernel
theorem dX10_put_9 : decode cX10_put 9 = .ok (.aload_n 0, 1) := by decide +kernel
theorem dX10_put_10 : decode cX10_put 10 = .ok (.getfield 78, 3) := by decide +kernel
theorem dX10_put_13 : decode cX10_put 13 = .ok (.iload_n 1, 1) := by decide +kernel
theorem dX10_put_14 : decode cX10_put 14 = .ok (.iaload, 1) := by decide +kernel
theorem dX10_put_15 : decode cX10_put 15 = .ok (.iconst (-1), 1) := by decide +kernel
theorem dX10_put_16 : decode cX10_put 16 = .ok (.if_icmp .ne 6, 3) := by decide +kernel
theorem dX10_put_19 : decode cX10_put 19 = .ok (.bipush (-11), 2) := by decide +kernel
theorem dX10_put_21 : decode cX10_put 21 = .ok (.ireturn, 1) := by decide +kernel
theorem dX10_put_22 : decode cX10_put 22 = .ok (.aload_n 0, 1) := by decide +kernel
theorem dX10_put_23 : decode cX10_put 23 = .ok (.iload_n 1, 1) := by decide +kernel
theorem dX10_put_24 : decode cX10_put 24 = .ok (.invokevirtual 351, 3) := by decide +kernel
theorem dX10_put_27 : decode cX10_put 27 = .ok (.ifCond .ne 6, 3) := by decide +kernel
theorem dX10_put_30 : decode cX10_put 30 = .ok (.bipush (-12), 2) := by decide +kernel
theorem dX10_put_32 : decode cX10_put 32 = .ok (.ireturn, 1) := by decide +kernel
theorem dX10_put_33 : decode cX10_put 33 = .ok (.iload_n 2, 1) := by decide +kernel
theorem dX10_put_34 : decode cX10_put 34 = .ok (.iconst 0, 1) := by decide +kernel
theorem dX10_put_35 : decode cX10_put 35 = .ok (.aload_n 0, 1) := by decide +kernel
theorem dX10_put_36 : decode cX10_put 36 = .ok (.getfield 81, 3) := by decide +kernel
theorem dX10_put_39 : decode cX10_put 39 = .ok (.iload_n 1, 1) := by decide +kernel
theorem dX10_put_40 : decode cX10_put 40 = .ok (.iaload, 1) := by decide +kernel
theorem dX10_put_41 : decode cX10_put 41 = .ok (.iconst 1, 1) := by decide +kernel
theorem dX10_put_42 : decode cX10_put 42 = .ok (.isub, 1) := by decide +kernel
theorem dX10_put_43 : decode cX10_put 43 = .ok (.invokestatic 101, 3) := by decide +kernel
theorem dX10_put_46 : decode cX10_put 46 = .ok (.ifCond .ne 6, 3) := by decide +kernel
theorem dX10_put_49 : decode cX10_put 49 = .ok (.bipush (-13), 2) := by decide +kernel
theorem dX10_put_51 : decode cX10_put 51 = .ok (.ireturn, 1) := by decide +kernel
theorem dX10_put_52 : decode cX10_put 52 = .ok (.aload_n 0, 1) := by decide +kernel
theorem dX10_put_53 : decode cX10_put 53 = .ok (.getfield 84, 3) := by decide +kernel
theorem dX10_put_56 : decode cX10_put 56 = .ok (.bipush 60, 2) := by decide +kernel
theorem dX10_put_58 : decode cX10_put 58 = .ok (.iload_n 1, 1) := by decide +kernel
theorem dX10_put_59 : decode cX10_put 59 = .ok (.imul, 1) := by decide +kernel
theorem dX10_put_60 : decode cX10_put 60 = .ok (.iload_n 2, 1) := by decide +kernel
theorem dX10_put_61 : decode cX10_put 61 = .ok (.iadd, 1) := by decide +kernel
theorem dX10_put_62 : decode cX10_put 62 = .ok (.aload_n 0, 1) := by decide +kernel
theorem dX10_put_63 : decode cX10_put 63 = .ok (.getfield 78, 3) := by decide +kernel
theorem dX10_put_66 : decode cX10_put 66 = .ok (.iload_n 1, 1) := by decide +kernel
theorem dX10_put_67 : decode cX10_put 67 = .ok (.iaload, 1) := by decide +kernel
theorem dX10_put_68 : decode cX10_put 68 = .ok (.lload_n 3, 1) := by decide +kernel
theorem dX10_put_69 : decode cX10_put 69 = .ok (.invokestatic 354, 3) := by decide +kernel
theorem dX10_put_72 : decode cX10_put 72 = .ok (.lastore, 1) := by decide +kernel
theorem dX10_put_73 : decode cX10_put 73 = .ok (.iconst 1, 1) := by decide +kernel
theorem dX10_put_74 : decode cX10_put 74 = .ok (.ireturn, 1) := by decide +kernel
theorem bX10_put_0 {K : KT} {g : GT} {cm sm : Nat} {cs : Nat × Nat} {c0 : Nat} {x1 : Int} {x2 : Int} {x3 : Int} {r : Int} {σ' : St} (hC : Ctx K g RX10 cX10_put 5 2 cm sm) (hcs : cs.1 ≤ cm ∧ cs.2 ≤ sm) (h0 : isO 10 c0 = true) (hR : RetI K g cX10_put 5 cs r (SH0, σ')) : ∀ (σ : St), fX10_put c0 x1 x2 x3 σ = some (r, σ') → G K g 5 cs 0 [(0, vr c0), (1, vi x1), (2, vi x2), (3, vl x3)] [] (SH0, σ) := by
  intro σ h
  unfold fX10_put at h
  refine g_iload_n hC dX10_put_0 1 rfl rfl ?_
  obtain ⟨⟨r1, s1⟩, e1, h⟩ := of_bind h
  try dsimp only at h
  refine s_callSi hC dX10_put_1 (tX10_isShelf e1) miX10_isShelf msX10_isShelf mlRX10_112 rfl rfl (Nat.le_of_ble_eq_true rfl) (Nat.le_of_ble_eq_true rfl) (Nat.le_of_ble_eq_true rfl) hcs ?_
  refine g_if_ne hC dX10_put_4 (tgt := 9) (by decide) (fun h9 => ?_) (fun h9 => ?_)
  · rw [if_neg h9] at h
    refine g_aload_n hC dX10_put_9 0 rfl rfl ?_
    refine g_getr hC dX10_put_10 lfRX10_78 (isO_spec h0) (ft_10_38 h0) ?_
    refine g_iload_n hC dX10_put_13 1 rfl rfl ?_
    obtain ⟨b9, h⟩ := of_ite h
    refine g_iald hC dX10_put_14 (isA_spec (rf_10_38 h0)) b9 ?_
    refine g_iconst hC dX10_put_15 ok_m1 ?_
    refine g_icmp_ne hC dX10_put_16 (tgt := 22) (by decide) (fun h9 => ?_) (fun h9 => ?_)
    · rw [if_neg h9] at h
      refine g_aload_n hC dX10_put_22 0 rfl rfl ?_
      refine g_iload_n hC dX10_put_23 1 rfl rfl ?_
      obtain ⟨⟨r2, s2⟩, e2, h⟩ := of_bind h
      try dsimp only at h
      refine s_callVi hC dX10_put_24 (tX10_isRow h0 e2) miX10_isRow mvX10_isRow mlRX10_351 (isO_spec h0) vc_10 rfl rfl (Nat.le_of_ble_eq_true rfl) (Nat.le_of_ble_eq_true rfl) (Nat.le_of_ble_eq_true rfl) hcs ?_
      refine g_if_ne hC dX10_put_27 (tgt := 33) (by decide) (fun h9 => ?_) (fun h9 => ?_)
      · rw [if_neg h9] at h
        refine g_iload_n hC dX10_put_33 2 rfl rfl ?_
        refine g_iconst hC dX10_put_34 ok_0 ?_
        refine g_aload_n hC dX10_put_35 0 rfl rfl ?_
        refine g_getr hC dX10_put_36 lfRX10_81 (isO_spec h0) (ft_10_39 h0) ?_
        refine g_iload_n hC dX10_put_39 1 rfl rfl ?_
        obtain ⟨b9, h⟩ := of_ite h
        refine g_iald hC dX10_put_40 (isA_spec (rf_10_39 h0)) b9 ?_
        refine g_iconst hC dX10_put_41 ok_1 ?_
        refine g_isub hC dX10_put_42 ?_
        obtain ⟨⟨r3, s3⟩, e3, h⟩ := of_bind h
        try dsimp only at h
        refine s_callSi hC dX10_put_43 (tX10_within e3) miX10_within msX10_within mlRX10_101 rfl rfl (Nat.le_of_ble_eq_true rfl) (Nat.le_of_ble_eq_true rfl) (Nat.le_of_ble_eq_true rfl) hcs ?_
        refine g_if_ne hC dX10_put_46 (tgt := 52) (by decide) (fun h9 => ?_) (fun h9 => ?_)
        · rw [if_neg h9] at h
          refine g_aload_n hC dX10_put_52 0 rfl rfl ?_
          refine g_getr hC dX10_put_53 lfRX10_84 (isO_spec h0) (ft_10_40 h0) ?_
          refine g_bipush hC dX10_put_56 bp_60 ?_
          refine g_iload_n hC dX10_put_58 1 rfl rfl ?_
          refine g_imul hC dX10_put_59 ?_
          refine g_iload_n hC dX10_put_60 2 rfl rfl ?_
          refine g_iadd hC dX10_put_61 ?_
          refine g_aload_n hC dX10_put_62 0 rfl rfl ?_
          refine g_getr hC dX10_put_63 lfRX10_78 (isO_spec h0) (ft_10_38 h0) ?_
          refine g_iload_n hC dX10_put_66 1 rfl rfl ?_
          obtain ⟨b9, h⟩ := of_ite h
          refine g_iald hC dX10_put_67 (isA_spec (rf_10_38 h0)) b9 ?_
          refine g_lload_n hC dX10_put_68 3 rfl rfl ?_
          obtain ⟨⟨r4, s4⟩, e4, h⟩ := of_bind h
          try dsimp only at h
          refine s_callSl hC dX10_put_69 (tX10_kept e4) miX10_kept msX10_kept mlRX10_354 rfl rfl (Nat.le_of_ble_eq_true rfl) (Nat.le_of_ble_eq_true rfl) (Nat.le_of_ble_eq_true rfl) hcs ?_
          obtain ⟨b9, h⟩ := of_ite h
          refine g_last hC dX10_put_72 (isA_spec (rf_10_40 h0)) b9 ?_
          refine g_iconst hC dX10_put_73 ok_1 ?_
          exact ret_i h hR dX10_put_74
        · rw [if_pos h9] at h
          refine g_bipush hC dX10_put_49 bp_m13 ?_
          exact ret_i h hR dX10_put_51
      · rw [if_pos h9] at h
        refine g_bipush hC dX10_put_30 bp_m12 ?_
        exact ret_i h hR dX10_put_32
    · rw [if_pos h9] at h
      refine g_bipush hC dX10_put_19 bp_m11 ?_
      exact ret_i h hR dX10_put_21
  · rw [if_pos h9] at h
    refine g_iconst hC dX10_put_7 ok_m1 ?_
    exact ret_i h hR dX10_put_8
theorem tX10_put {l : Launch} {g : GT} {c0 : Nat} {x1 : Int} {x2 : Int} {x3 : Int} {σ σ' : St} {r : Int} (h0 : isO 10 c0 = true) (h : fX10_put c0 x1 x2 x3 σ = some (r, σ')) : Cn l g yX10_put cX10_put 5 (some .int) 2 0 0 [vr c0, vi x1, vi x2, vl x3] (SH0, σ) (some (vi r)) (SH0, σ') :=
  Cn.ofI (by decide) (Nat.le_of_ble_eq_true rfl) (fun K e hC hR => (bX10_put_0 hC ⟨Nat.le_refl _, Nat.le_refl _⟩ h0 hR _ h))
theorem dX10_putUp_0 : decode cX10_putUp 0 = .ok (.aload_n 0, 1) := by decide +kernel
theorem dX10_putUp_1 : decode cX10_putUp 1 = .ok (.iload_n 1, 1) := by decide +kernel
theorem dX10_putUp_2 : decode cX10_putUp 2 = .ok (.invokevirtual 122, 3) := by decide +kernel
theorem dX10_putUp_5 : decode cX10_putUp 5 = .ok (.ifCond .ne 5, 3) := by decide +kernel
theorem dX10_putUp_8 : decode cX10_putUp 8 = .ok (.iconst (-1), 1) := by decide +kernel
theorem dX10_putUp_9 : decode cX10_putUp 9 = .ok (.ireturn, 1) := by decide +kernel
theorem dX10_putUp_10 : decode cX10_putUp 10 = .ok (.aload_n 0, 1) := by decide +kernel
theorem dX10_putUp_11 : decode cX10_putUp 11 = .ok (.iload_n 1, 1) := by decide +kernel
theorem dX10_putUp_12 : decode cX10_putUp 12 = .ok (.invokevirtual 245, 3) := by decide +kernel
theorem dX10_putUp_15 : decode cX10_putUp 15 = .ok (.ifCond .ne 6, 3) := by decide +kernel
theorem dX10_putUp_18 : decode cX10_putUp 18 = .ok (.bipush (-5), 2) := by decide +kernel
theorem dX10_putUp_20 : decode cX10_putUp 20 = .ok (.ireturn, 1) := by decide +kernel
theorem dX10_putUp_21 : decode cX10_putUp 21 = .ok (.aload_n 0, 1) := by decide +kernel
theorem dX10_putUp_22 : decode cX10_putUp 22 = .ok (.iload_n 1, 1) := by decide +kernel
theorem dX10_putUp_23 : decode cX10_putUp 23 = .ok (.invokevirtual 262, 3) := by decide +kernel
theorem dX10_putUp_26 : decode cX10_putUp 26 = .ok (.istore_n 2, 1) := by decide +kernel
theorem dX10_putUp_27 : decode cX10_putUp 27 = .ok (.iload_n 2, 1) := by decide +kernel
theorem dX10_putUp_28 : decode cX10_putUp 28 = .ok (.bipush 8, 2) := by decide +kernel
theorem dX10_putUp_30 : decode cX10_putUp 30 = .ok (.if_icmp .ne 16, 3) := by decide +kernel
theorem dX10_putUp_33 : decode cX10_putUp 33 = .ok (.aload_n 0, 1) := by decide +kernel
theorem dX10_putUp_34 : decode cX10_putUp 34 = .ok (.getfield 60, 3) := by decide +kernel
theorem dX10_putUp_37 : decode cX10_putUp 37 = .ok (.iconst 1, 1) := by decide +kernel
theorem dX10_putUp_38 : decode cX10_putUp 38 = .ok (.dup2, 1) := by decide +kernel
theorem dX10_putUp_39 : decode cX10_putUp 39 = .ok (.iaload, 1) := by decide +kernel
theorem dX10_putUp_40 : decode cX10_putUp 40 = .ok (.iconst 1, 1) := by decide +kernel
theorem dX10_putUp_41 : decode cX10_putUp 41 = .ok (.iadd, 1) := by decide +kernel
theorem dX10_putUp_42 : decode cX10_putUp 42 = .ok (.iastore, 1) := by decide +kernel
theorem dX10_putUp_43 : decode cX10_putUp 43 = .ok (.goto 19, 3) := by decide +kernel
theorem dX10_putUp_46 : decode cX10_putUp 46 = .ok (.iload_n 2, 1) := by decide +kernel
theorem dX10_putUp_47 : decode cX10_putUp 47 = .ok (.bipush (-2), 2) := by decide +kernel
theorem dX10_putUp_49 : decode cX10_putUp 49 = .ok (.if_icmp .eq 13, 3) := by decide +kernel
theorem dX10_putUp_52 : decode cX10_putUp 52 = .ok (.aload_n 0, 1) := by decide +kernel
theorem dX10_putUp_53 : decode cX10_putUp 53 = .ok (.getfield 60, 3) := by decide +kernel
theorem dX10_putUp_56 : decode cX10_putUp 56 = .ok (.iconst 0, 1) := by decide +kernel
theorem dX10_putUp_57 : decode cX10_putUp 57 = .ok (.dup2, 1) := by decide +kernel
theorem dX10_putUp_58 : decode cX10_putUp 58 = .ok (.iaload, 1) := by decide +kernel
theorem dX10_putUp_59 : decode cX10_putUp 59 = .ok (.iconst 1, 1) := by decide +kernel
theorem dX10_putUp_60 : decode cX10_putUp 60 = .ok (.iadd, 1) := by decide +kernel
theorem dX10_putUp_61 : decode cX10_putUp 61 = .ok (.iastore, 1) := by decide +kernel
theorem dX10_putUp_62 : decode cX10_putUp 62 = .ok (.iload_n 2, 1) := by decide +kernel
theorem dX10_putUp_63 : decode cX10_putUp 63 = .ok (.ireturn, 1) := by decide +kernel
theorem bX10_putUp_0 {K : KT} {g : GT} {cm sm : Nat} {cs : Nat × Nat} {c0 : Nat} {x1 : Int} {r : Int} {σ' : St} (hC : Ctx K g RX10 cX10_putUp 3 8 cm sm) (hcs : cs.1 ≤ cm ∧ cs.2 ≤ sm) (h0 : isO 10 c0 = true) (hR : RetI K g cX10_putUp 3 cs r (SH0, σ')) : ∀ (σ : St), fX10_putUp c0 x1 σ = some (r, σ') → G K g 3 cs 0 [(0, vr c0), (1, vi x1)] [] (SH0, σ) := by
  intro σ h
  unfold fX10_putUp at h
  refine g_aload_n hC dX10_putUp_0 0 rfl rfl ?_
  refine g_iload_n hC dX10_putUp_1 1 rfl rfl ?_
  obtain ⟨⟨r1, s1⟩, e1, h⟩ := of_bind h
  try dsimp only at h
  refine s_callVi hC dX10_putUp_2 (tX10_isThing h0 e1) miX10_isThing mvX10_isThing mlRX10_122 (isO_spec h0) vc_10 rfl rfl (Nat.le_of_ble_eq_true rfl) (Nat.le_of_ble_eq_true rfl) (Nat.le_of_ble_eq_true rfl) hcs ?_
  refine g_if_ne hC dX10_putUp_5 (tgt := 10) (by decide) (fun h9 => ?_) (fun h9 => ?_)
  · rw [if_neg h9] at h
    refine g_aload_n hC dX10_putUp_10 0 rfl rfl ?_
    refine g_iload_n hC dX10_putUp_11 1 rfl rfl ?_
    obtain ⟨⟨r2, s2⟩, e2, h⟩ := of_bind h
    try dsimp only at h
    refine s_callVi hC dX10_putUp_12 (tX10_isForSale h0 e2) miX10_isForSale mvX10_isForSale mlRX10_245 (isO_spec h0) vc_10 rfl rfl (Nat.le_of_ble_eq_true rfl) (Nat.le_of_ble_eq_true rfl) (Nat.le_of_ble_eq_true rfl) hcs ?_
    refine g_if_ne hC dX10_putUp_15 (tgt := 21) (by decide) (fun h9 => ?_) (fun h9 => ?_)
    · rw [if_neg h9] at h
      refine g_aload_n hC dX10_putUp_21 0 rfl rfl ?_
      refine g_iload_n hC dX10_putUp_22 1 rfl rfl ?_
      obtain ⟨⟨r3, s3⟩, e3, h⟩ := of_bind h
      try dsimp only at h
      refine s_callVi hC dX10_putUp_23 (tX10_goes h0 e3) miX10_goes mvX10_goes mlRX10_262 (isO_spec h0) vc_10 rfl rfl (Nat.le_of_ble_eq_true rfl) (Nat.le_of_ble_eq_true rfl) (Nat.le_of_ble_eq_true rfl) hcs ?_
      refine g_istore_n hC dX10_putUp_26 rfl (Nat.le_of_ble_eq_true rfl) rfl ?_
      refine g_iload_n hC dX10_putUp_27 0 rfl rfl ?_
      refine g_bipush hC dX10_putUp_28 bp_8 ?_
      refine g_icmp_ne hC dX10_putUp_30 (tgt := 46) (by decide) (fun h9 => ?_) (fun h9 => ?_)
      · rw [if_neg h9] at h
        refine g_iload_n hC dX10_putUp_46 0 rfl rfl ?_
        refine g_bipush hC dX10_putUp_47 bp_m2 ?_
        refine g_icmp_eq hC dX10_putUp_49 (tgt := 62) (by decide) (fun h9 => ?_) (fun h9 => ?_)
        · rw [if_pos h9] at h
          refine g_iload_n hC dX10_putUp_62 0 rfl rfl ?_
          exact ret_i h hR dX10_putUp_63
        · rw [if_neg h9] at h
          refine g_aload_n hC dX10_putUp_52 1 rfl rfl ?_
          refine g_getr hC dX10_putUp_53 lfRX10_60 (isO_spec h0) (ft_10_25 h0) ?_
          refine g_iconst hC dX10_putUp_56 ok_0 ?_
          refine g_dup2 hC dX10_putUp_57 rfl rfl ?_
          obtain ⟨b9, h⟩ := of_ite h
          refine g_iald hC dX10_putUp_58 (isA_spec (rf_10_25 h0)) b9 ?_
          refine g_iconst hC dX10_putUp_59 ok_1 ?_
          refine g_iadd hC dX10_putUp_60 ?_
          obtain ⟨b9, h⟩ := of_ite h
          refine g_iast hC dX10_putUp_61 (isA_spec (rf_10_25 h0)) b9 ?_
          refine g_iload_n hC dX10_putUp_62 0 rfl rfl ?_
          exact ret_i h hR dX10_putUp_63
      · rw [if_pos h9] at h
        refine g_aload_n hC dX10_putUp_33 1 rfl rfl ?_
        refine g_getr hC dX10_putUp_34 lfRX10_60 (isO_spec h0) (ft_10_25 h0) ?_
        refine g_iconst hC dX10_putUp_37 ok_1 ?_
        refine g_dup2 hC dX10_putUp_38 rfl rfl ?_
        obtain ⟨b9, h⟩ := of_ite h
        refine g_iald hC dX10_putUp_39 (isA_spec (rf_10_25 h0)) b9 ?_
        refine g_iconst hC dX10_putUp_40 ok_1 ?_
        refine g_iadd hC dX10_putUp_41 ?_
        obtain ⟨b9, h⟩ := of_ite h
        refine g_iast hC dX10_putUp_42 (isA_spec (rf_10_25 h0)) b9 ?_
        refine g_goto hC dX10_putUp_43 (tgt := 62) (by decide) ?_
        refine g_iload_n hC dX10_putUp_62 0 rfl rfl ?_
        exact ret_i h hR dX10_putUp_63
    · rw [if_pos h9] at h
      refine g_bipush hC dX10_putUp_18 bp_m5 ?_
      exact ret_i h hR dX10_putUp_20
  · rw [if_pos h9] at h
    refine g_iconst hC dX10_putUp_8 ok_m1 ?_
    exact ret_i h hR dX10_putUp_9
theorem tX10_putUp {l : Launch} {g : GT} {c0 : Nat} {x1 : Int} {σ σ' : St} {r : Int} (h0 : isO 10 c0 = true) (h : fX10_putUp c0 x1 σ = some (r, σ')) : Cn l g yX10_putUp cX10_putUp 3 (some .int) 8 0 0 [vr c0, vi x1] (SH0, σ) (some (vi r)) (SH0, σ') :=
  Cn.ofI (by decide) (Nat.le_of_ble_eq_true rfl) (fun K e hC hR => (bX10_putUp_0 hC ⟨Nat.le_refl _, Nat.le_refl _⟩ h0 hR _ h))
theorem dX10_redo_0 : decode cX10_redo 0 = .ok (.aload_n 0, 1) := by decide +kernel
theorem dX10_redo_1 : decode cX10_redo 1 = .ok (.getfield 143, 3) := by decide +kernel
theorem dX10_redo_4 : decode cX10_redo 4 = .ok (.aload_n 0, 1) := by decide +kernel
theorem dX10_redo_5 : decode cX10_redo 5 = .ok (.getfield 146, 3) := by decide +kernel
theorem dX10_redo_8 : decode cX10_redo 8 = .ok (.if_icmp .ne 6, 3) := by decide +kernel
theorem dX10_redo_11 : decode cX10_redo 11 = .ok (.bipush (-5), 2) := by decide +kernel
theorem dX10_redo_13 : decode cX10_redo 13 = .ok (.ireturn, 1) := by decide +kernel
theorem dX10_redo_14 : decode cX10_redo 14 = .ok (.aload_n 0, 1) := by decide +kernel
theorem dX10_redo_15 : decode cX10_redo 15 = .ok (.aload_n 0, 1) := by decide +kernel
theorem dX10_redo_16 : decode cX10_redo 16 = .ok (.getfield 69, 3) := by decide +kernel
theorem dX10_redo_19 : decode cX10_redo 19 = .ok (.iconst 4, 1) := by decide +kernel
theorem dX10_redo_20 : decode cX10_redo 20 = .ok (.aload_n 0, 1) := by decide +kernel
theorem dX10_redo_21 : decode cX10_redo 21 = .ok (.getfield 143, 3) := by decide +kernel
theorem dX10_redo_24 : decode cX10_redo 24 = .ok (.imul, 1) := by decide +kernel
theorem dX10_redo_25 : decode cX10_redo 25 = .ok (.iaload, 1) := by decide +kernel
theorem dX10_redo_26 : decode cX10_redo 26 = .ok (.aload_n 0, 1) := by decide +kernel
theorem dX10_redo_27 : decode cX10_redo 27 = .ok (.getfield 69, 3) := by decide +kernel
theorem dX10_redo_30 : decode cX10_redo 30 = .ok (.iconst 4, 1) := by decide +kernel
theorem dX10_redo_31 : decode cX10_redo 31 = .ok (.aload_n 0, 1) := by decide +kernel
theorem dX10_redo_32 : decode cX10_redo 32 = .ok (.getfield 143, 3) := by decide +kernel
theorem dX10_redo_35 : decode cX10_redo 35 = .ok (.imul, 1) := by decide +kernel
theorem dX10_redo_36 : decode cX10_redo 36 = .ok (.iconst 1, 1) := by decide +kernel
theorem dX10_redo_37 : decode cX10_redo 37 = .ok (.iadd, 1) := by decide +kernel
theorem dX10_redo_38 : decode cX10_redo 38 = .ok (.iaload, 1) := by decide +kernel
theorem dX10_redo_39 : decode cX10_redo 39 = .ok (.aload_n 0, 1) := by decide +kernel
theorem dX10_redo_40 : decode cX10_redo 40 = .ok (.getfield 69, 3) := by decide +kernel
theorem dX10_redo_43 : decode cX10_redo 43 = .ok (.iconst 4, 1) := by decide +kernel
theorem dX10_redo_44 : decode cX10_redo 44 = .ok (.aload_n 0, 1) := by decide +kernel
theorem dX10_redo_45 : decode cX10_redo 45 = .ok (.getfield 143, 3) := by decide +kernel
theorem dX10_redo_48 : decode cX10_redo 48 = .ok (.imul, 1) := by decide +kernel
theorem dX10_redo_49 : decode cX10_redo 49 = .ok (.iconst 3, 1) := by decide +kernel
theorem dX10_redo_50 : decode cX10_redo 50 = .ok (.iadd, 1) := by decide +kernel
theorem dX10_redo_51 : decode cX10_redo 51 = .ok (.iaload, 1) := by decide +kernel
theorem dX10_redo_52 : decode cX10_redo 52 = .ok (.invokevirtual 139, 3) := by decide +kernel
theorem dX10_redo_55 : decode cX10_redo 55 = .ok (.aload_n 0, 1) := by decide +kernel
theorem dX10_redo_56 : decode cX10_redo 56 = .ok (.dup, 1) := by decide +kernel
theorem dX10_redo_57 : decode cX10_redo 57 = .ok (.getfield 143, 3) := by decide +kernel
theorem dX10_redo_60 : decode cX10_redo 60 = .ok (.iconst 1, 1) := by decide +kernel
theorem dX10_redo_61 : decode cX10_redo 61 = .ok (.iadd, 1) := by decide +kernel
theorem dX10_redo_62 : decode cX10_redo 62 = .ok (.putfield 143, 3) := by decide +kernel
theorem dX10_redo_65 : decode cX10_redo 65 = .ok (.aload_n 0, 1) := by decide +kernel
theorem dX10_redo_66 : decode cX10_redo 66 = .ok (.getfield 146, 3) := by decide +kernel
theorem dX10_redo_69 : decode cX10_redo 69 = .ok (.aload_n 0, 1) := by decide +kernel
theorem dX10_redo_70 : decode cX10_redo 70 = .ok (.getfield 143, 3) := by decide +kernel
theorem dX10_redo_73 : decode cX10_redo 73 = .ok (.isub, 1) := by decide +kernel
theorem dX10_redo_74 : decode cX10_redo 74 = .ok (.ireturn, 1) := by decide +kernel
theorem bX10_redo_0 {K : KT} {g : GT} {cm sm : Nat} {cs : Nat × Nat} {c0 : Nat} {r : Int} {σ' : St} (hC : Ctx K g RX10 cX10_redo 1 1 cm sm) (hcs : cs.1 ≤ cm ∧ cs.2 ≤ sm) (h0 : isO 10 c0 = true) (hR : RetI K g cX10_redo 1 cs r (SH0, σ')) : ∀ (σ : St), fX10_redo c0 σ = some (r, σ') → G K g 1 cs 0 [(0, vr c0)] [] (SH0, σ) := by
  intro σ h
  unfold fX10_redo at h
  refine g_aload_n hC dX10_redo_0 0 rfl rfl ?_
  refine g_geti hC dX10_redo_1 lfRX10_143 (isO_spec h0) (ft_10_32 h0) ?_
  refine g_aload_n hC dX10_redo_4 0 rfl rfl ?_
  refine g_geti hC dX10_redo_5 lfRX10_146 (isO_spec h0) (ft_10_31 h0) ?_
  refine g_icmp_ne hC dX10_redo_8 (tgt := 14) (by decide) (fun h9 => ?_) (fun h9 => ?_)
  · rw [if_neg h9] at h
    refine g_aload_n hC dX10_redo_14 0 rfl rfl ?_
    refine g_aload_n hC dX10_redo_15 0 rfl rfl ?_
    refine g_getr hC dX10_redo_16 lfRX10_69 (isO_spec h0) (ft_10_33 h0) ?_
    refine g_iconst hC dX10_redo_19 ok_4 ?_
    refine g_aload_n hC dX10_redo_20 0 rfl rfl ?_
    refine g_geti hC dX10_redo_21 lfRX10_143 (isO_spec h0) (ft_10_32 h0) ?_
    refine g_imul hC dX10_redo_24 ?_
    obtain ⟨b9, h⟩ := of_ite h
    refine g_iald hC dX10_redo_25 (isA_spec (rf_10_33 h0)) b9 ?_
    refine g_aload_n hC dX10_redo_26 0 rfl rfl ?_
    refine g_getr hC dX10_redo_27 lfRX10_69 (isO_spec h0) (ft_10_33 h0) ?_
    refine g_iconst hC dX10_redo_30 ok_4 ?_
    refine g_aload_n hC dX10_redo_31 0 rfl rfl ?_
    refine g_geti hC dX10_redo_32 lfRX10_143 (isO_spec h0) (ft_10_32 h0) ?_
    refine g_imul hC dX10_redo_35 ?_
    refine g_iconst hC dX10_redo_36 ok_1 ?_
    refine g_iadd hC dX10_redo_37 ?_
    obtain ⟨b9, h⟩ := of_ite h
    refine g_iald hC dX10_redo_38 (isA_spec (rf_10_33 h0)) b9 ?_
    refine g_aload_n hC dX10_redo_39 0 rfl rfl ?_
    refine g_getr hC dX10_redo_40 lfRX10_69 (isO_spec h0) (ft_10_33 h0) ?_
    refine g_iconst hC dX10_redo_43 ok_4 ?_
    refine g_aload_n hC dX10_redo_44 0 rfl rfl ?_
    refine g_geti hC dX10_redo_45 lfRX10_143 (isO_spec h0) (ft_10_32 h0) ?_
    refine g_imul hC dX10_redo_48 ?_
    refine g_iconst hC dX10_redo_49 ok_3 ?_
    refine g_iadd hC dX10_redo_50 ?_
    obtain ⟨b9, h⟩ := of_ite h
    refine g_iald hC dX10_redo_51 (isA_spec (rf_10_33 h0)) b9 ?_
    obtain ⟨s1, e1, h⟩ := of_bind h
    try dsimp only at h
    refine s_callVv hC dX10_redo_52 (tX10_becomes h0 e1) miX10_becomes mvX10_becomes mlRX10_139 (isO_spec h0) vc_10 rfl rfl (Nat.le_of_ble_eq_true rfl) (Nat.le_of_ble_eq_true rfl) (Nat.le_of_ble_eq_true rfl) hcs ?_
    refine g_aload_n hC dX10_redo_55 0 rfl rfl ?_
    refine g_dup hC dX10_redo_56 rfl ?_
    refine g_geti hC dX10_redo_57 lfRX10_143 (isO_spec h0) (ft_10_32 h0) ?_
    refine g_iconst hC dX10_redo_60 ok_1 ?_
    refine g_iadd hC dX10_redo_61 ?_
    refine g_puti hC dX10_redo_62 lfRX10_143 fp_10_32 (isO_spec h0) (ft_10_32 h0) ?_
    refine g_aload_n hC dX10_redo_65 0 rfl rfl ?_
    refine g_geti hC dX10_redo_66 lfRX10_146 (isO_spec h0) (ft_10_31 h0) ?_
    refine g_aload_n hC dX10_redo_69 0 rfl rfl ?_
    refine g_geti hC dX10_redo_70 lfRX10_143 (isO_spec h0) (ft_10_32 h0) ?_
    refine g_isub hC dX10_redo_73 ?_
    exact ret_i h hR dX10_redo_74
  · rw [if_pos h9] at h
    refine g_bipush hC dX10_redo_11 bp_m5 ?_
    exact ret_i h hR dX10_redo_13
theorem tX10_redo {l : Launch} {g : GT} {c0 : Nat} {σ σ' : St} {r : Int} (h0 : isO 10 c0 = true) (h : fX10_redo c0 σ = some (r, σ')) : Cn l g yX10_redo cX10_redo 1 (some .int) 1 0 0 [vr c0] (SH0, σ) (some (vi r)) (SH0, σ') :=
  Cn.ofI (by decide) (Nat.le_of_ble_eq_true rfl) (fun K e hC hR => (bX10_redo_0 hC ⟨Nat.le_refl _, Nat.le_refl _⟩ h0 hR _ h))
theorem dX10_row_0 : decode cX10_row 0 = .ok (.iload_n 1, 1) := by decide +kernel
theorem dX10_row_1 : decode cX10_row 1 = .ok (.invokestatic 112, 3) := by decide +kernel
theorem dX10_row_4 : decode cX10_row 4 = .ok (.ifCond .eq 18, 3) := by decide +kernel
theorem dX10_row_7 : decode cX10_row 7 = .ok (.iload_n 2, 1) := by decide +kernel
theorem dX10_row_8 : decode cX10_row 8 = .ok (.iconst 0, 1) := by decide +kernel
theorem dX10_row_9 : decode cX10_row 9 = .ok (.iconst 4, 1) := by decide +kernel
theorem dX10_row_10 : decode cX10_row 10 = .ok (.invokestatic 101, 3) := by decide +kernel
theorem dX10_row_13 : decode cX10_row 13 = .ok (.ifCond .eq 9, 3) := by decide +kernel
theorem dX10_row_16 : decode cX10_row 16 = .ok (.iload_n 3, 1) := by decide +kernel
theorem dX10_row_17 : decode cX10_row 17 = .ok (.bipush 60, 2) := by decide +kernel
theorem dX10_row_19 : decode cX10_row 19 = .ok (.if_icmp .le 5, 3) := by decide +kernel
theorem dX10_row_22 : decode cX10_row 22 = .ok (.iconst (-1), 1) := by decide +kernel
theorem dX10_row_23 : decode cX10_row 23 = .ok (.ireturn, 1) := by decide +kernel
theorem dX10_row_24 : decode cX10_row 24 = .ok (.iload_n 3, 1) := by decide +kernel
theorem dX10_row_25 : decode cX10_row 25 = .ok (.ifCond .ge 6, 3) := by decide +kernel
theorem dX10_row_28 : decode cX10_row 28 = .ok (.bipush (-14), 2) := by decide +kernel
theorem dX10_row_30 : decode cX10_row 30 = .ok (.ireturn, 1) := by decide +kernel
theorem dX10_row_31 : decode cX10_row 31 = .ok (.aload_n 0, 1) := by decide +kernel
theorem dX10_row_32 : decode cX10_row 32 = .ok (.getfield 78, 3) := by decide +kernel
theorem dX10_row_35 : decode cX10_row 35 = .ok (.iload_n 1, 1) := by decide +kernel
theorem dX10_row_36 : decode cX10_row 36 = .ok (.iload_n 2, 1) := by decide +kernel
theorem dX10_row_37 : decode cX10_row 37 = .ok (.iastore, 1) := by decide +kernel
theorem dX10_row_38 : decode cX10_row 38 = .ok (.aload_n 0, 1) := by decide +kernel
theorem dX10_row_39 : decode cX10_row 39 = .ok (.getfield 81, 3) := by decide +kernel
theorem dX10_row_42 : decode cX10_row 42 = .ok (.iload_n 1, 1) := by decide +kernel
theorem dX10_row_43 : decode cX10_row 43 = .ok (.iload_n 3, 1) := by decide +kernel
theorem dX10_row_44 : decode cX10_row 44 = .ok (.iastore, 1) := by decide +kernel
theorem dX10_row_45 : decode cX10_row 45 = .ok (.iconst 0, 1) := by decide +kernel
theorem dX10_row_46 : decode cX10_row 46 = .ok (.istore 4, 2) := by decide +kernel
theorem dX10_row_48 : decode cX10_row 48 = .ok (.iload 4, 2) := by decide +kernel
theorem dX10_row_50 : decode cX10_row 50 = .ok (.bipush 60, 2) := by decide +kernel
theorem dX10_row_52 : decode cX10_row 52 = .ok (.if_icmp .ge 22, 3) := by decide +kernel
theorem dX10_row_55 : decode cX10_row 55 = .ok (.aload_n 0, 1) := by decide +kernel
theorem dX10_row_56 : decode cX10_row 56 = .ok (.getfield 84, 3) := by decide +kernel
theorem dX10_row_59 : decode cX10_row 59 = .ok (.bipush 60, 2) := by decide +kernel
theorem dX10_row_61 : decode cX10_row 61 = .ok (.iload_n 1, 1) := by decide +kernel
theorem dX10_row_62 : decode cX10_row 62 = .ok (.imul, 1) := by decide +kernel
theorem dX10_row_63 : decode cX10_row 63 = .ok (.iload 4, 2) := by decide +kernel
theorem dX10_row_65 : decode cX10_row 65 = .ok (.iadd, 1) := by decide +kernel
theorem dX10_row_66 : decode cX10_row 66 = .ok (.lconst 0, 1) := by decide +kernel
theorem dX10_row_67 : decode cX10_row 67 = .ok (.lastore, 1) := by decide +kernel
theorem dX10_row_68 : decode cX10_row 68 = .ok (.iinc 4 1, 3) := by decide +kernel
theorem dX10_row_71 : decode cX10_row 71 = .ok (.goto (-23), 3) := by decide +kernel
theorem dX10_row_74 : decode cX10_row 74 = .ok (.iconst 1, 1) := by decide +kernel
theorem dX10_row_75 : decode cX10_row 75 = .ok (.ireturn, 1) := by decide +kernel
theorem bX10_row_48 {K : KT} {g : GT} {cm sm : Nat} {cs : Nat × Nat} {c0 : Nat} {x1 : Int} {x2 : Int} {x3 : Int} {r : Int} {σ' : St} (hC : Ctx K g RX10 cX10_row 5 2 cm sm) (hcs : cs.1 ≤ cm ∧ cs.2 ≤ sm) (h0 : isO 10 c0 = true) (hR : RetI K g cX10_row 5 cs r (SH0, σ')) : ∀ (n : Nat) (x4 : Int) (σ : St), fX10_row_48 c0 x1 x2 x3 n x4 σ = some (r, σ') → G K g 5 cs 48 [(0, vr c0), (1, vi x1), (2, vi x2), (3, vi x3), (4, vi x4)] [] (SH0, σ) := by
  intro n
  induction n with
  | zero =>
    intro x4 σ h
    rw [fX10_row_48.eq_1] at h
    cases h
  | succ n ih =>
    intro x4 σ h
    rw [fX10_row_48.eq_2] at h
    refine g_iload hC dX10_row_48 4 rfl ?_
    refine g_bipush hC dX10_row_50 bp_60 ?_
    refine g_icmp_ge hC dX10_row_52 (tgt := 74) (by decide) (fun h9 => ?_) (fun h9 => ?_)
    · rw [if_pos h9] at h
      refine g_iconst hC dX10_row_74 ok_1 ?_
      exact ret_i h hR dX10_row_75
    · rw [if_neg h9] at h
      refine g_aload_n hC dX10_row_55 0 rfl rfl ?_
      refine g_getr hC dX10_row_56 lfRX10_84 (isO_spec h0) (ft_10_40 h0) ?_
      refine g_bipush hC dX10_row_59 bp_60 ?_
      refine g_iload_n hC dX10_row_61 1 rfl rfl ?_
      refine g_imul hC dX10_row_62 ?_
      refine g_iload hC dX10_row_63 4 rfl ?_
      refine g_iadd hC dX10_row_65 ?_
      refine g_lconst hC dX10_row_66 lc_0 ?_
      obtain ⟨b9, h⟩ := of_ite h
      refine g_last hC dX10_row_67 (isA_spec (rf_10_40 h0)) b9 ?_
      refine g_iinc hC dX10_row_68 4 rfl (Nat.le_of_ble_eq_true rfl) rfl ?_
      refine g_goto hC dX10_row_71 (tgt := 48) (by decide) ?_
      exact g_pick [1, 2, 3, 4, 0] rfl (ih _ _ h)
theorem bX10_row_0 {K : KT} {g : GT} {cm sm : Nat} {cs : Nat × Nat} {c0 : Nat} {x1 : Int} {x2 : Int} {x3 : Int} {r : Int} {σ' : St} (hC : Ctx K g RX10 cX10_row 5 2 cm sm) (hcs : cs.1 ≤ cm ∧ cs.2 ≤ sm) (h0 : isO 10 c0 = true) (hR : RetI K g cX10_row 5 cs r (SH0, σ')) : ∀ (σ : St), fX10_row c0 x1 x2 x3 σ = some (r, σ') → G K g 5 cs 0 [(0, vr c0), (1, vi x1), (2, vi x2), (3, vi x3)] [] (SH0, σ) := by
  intro σ h
  unfold fX10_row at h
  refine g_iload_n hC dX10_row_0 1 rfl rfl ?_
  obtain ⟨⟨r1, s1⟩, e1, h⟩ := of_bind h
  try dsimp only at h
  refine s_callSi hC dX10_row_1 (tX10_isShelf e1) miX10_isShelf msX10_isShelf mlRX10_112 rfl rfl (Nat.le_of_ble_eq_true rfl) (Nat.le_of_ble_eq_true rfl) (Nat.le_of_ble_eq_true rfl) hcs ?_
  refine g_if_eq hC dX10_row_4 (tgt := 22) (by decide) (fun h9 => ?_) (fun h9 => ?_)
  · rw [if_pos h9] at h
    refine g_iconst hC dX10_row_22 ok_m1 ?_
    exact ret_i h hR dX10_row_23
  · rw [if_neg h9] at h
    refine g_iload_n hC dX10_row_7 2 rfl rfl ?_
    refine g_iconst hC dX10_row_8 ok_0 ?_
    refine g_iconst hC dX10_row_9 ok_4 ?_
    obtain ⟨⟨r2, s2⟩, e2, h⟩ := of_bind h
    try dsimp only at h
    refine s_callSi hC dX10_row_10 (tX10_within e2) miX10_within msX10_within mlRX10_101 rfl rfl (Nat.le_of_ble_eq_true rfl) (Nat.le_of_ble_eq_true rfl) (Nat.le_of_ble_eq_true rfl) hcs ?_
    refine g_if_eq hC dX10_row_13 (tgt := 22) (by decide) (fun h9 => ?_) (fun h9 => ?_)
    · rw [if_pos h9] at h
      refine g_iconst hC dX10_row_22 ok_m1 ?_
      exact ret_i h hR dX10_row_23
    · rw [if_neg h9] at h
      refine g_iload_n hC dX10_row_16 3 rfl rfl ?_
      refine g_bipush hC dX10_row_17 bp_60 ?_
      refine g_icmp_le hC dX10_row_19 (tgt := 24) (by decide) (fun h9 => ?_) (fun h9 => ?_)
      · rw [if_pos h9] at h
        refine g_iload_n hC dX10_row_24 3 rfl rfl ?_
        refine g_if_ge hC dX10_row_25 (tgt := 31) (by decide) (fun h9 => ?_) (fun h9 => ?_)
        · rw [if_pos h9] at h
          refine g_aload_n hC dX10_row_31 0 rfl rfl ?_
          refine g_getr hC dX10_row_32 lfRX10_78 (isO_spec h0) (ft_10_38 h0) ?_
          refine g_iload_n hC dX10_row_35 1 rfl rfl ?_
          refine g_iload_n hC dX10_row_36 2 rfl rfl ?_
          obtain ⟨b9, h⟩ := of_ite h
          refine g_iast hC dX10_row_37 (isA_spec (rf_10_38 h0)) b9 ?_
          refine g_aload_n hC dX10_row_38 0 rfl rfl ?_
          refine g_getr hC dX10_row_39 lfRX10_81 (isO_spec h0) (ft_10_39 h0) ?_
          refine g_iload_n hC dX10_row_42 1 rfl rfl ?_
          refine g_iload_n hC dX10_row_43 3 rfl rfl ?_
          obtain ⟨b9, h⟩ := of_ite h
          refine g_iast hC dX10_row_44 (isA_spec (rf_10_39 h0)) b9 ?_
          refine g_iconst hC dX10_row_45 ok_0 ?_
          refine g_istore hC dX10_row_46 (Nat.le_of_ble_eq_true rfl) rfl ?_
          exact g_pick [1, 2, 3, 4, 0] rfl (bX10_row_48 hC hcs h0 hR _ _ _ h)
        · rw [if_neg h9] at h
          refine g_bipush hC dX10_row_28 bp_m14 ?_
          exact ret_i h hR dX10_row_30
      · rw [if_neg h9] at h
        refine g_iconst hC dX10_row_22 ok_m1 ?_
        exact ret_i h hR dX10_row_23
theorem tX10_row {l : Launch} {g : GT} {c0 : Nat} {x1 : Int} {x2 : Int} {x3 : Int} {σ σ' : St} {r : Int} (h0 : isO 10 c0 = true) (h : fX10_row c0 x1 x2 x3 σ = some (r, σ')) : Cn l g yX10_row cX10_row 5 (some .int) 2 0 0 [vr c0, vi x1, vi x2, vi x3] (SH0, σ) (some (vi r)) (SH0, σ') :=
  Cn.ofI (by decide) (Nat.le_of_ble_eq_true rfl) (fun K e hC hR => (bX10_row_0 hC ⟨Nat.le_refl _, Nat.le_refl _⟩ h0 hR _ h))
