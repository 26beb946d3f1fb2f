/-! Walks (printed by my program). -/
theorem dX9_drawn_0 : decode cX9_drawn 0 = .ok (.iload_n 2, 1) := by decide +kernel
theorem dX9_drawn_1 : decode cX9_drawn 1 = .ok (.invokestatic 92, 3) := by decide +kernel
theorem dX9_drawn_4 : decode cX9_drawn 4 = .ok (.ifCond .eq 45, 3) := by decide +kernel
theorem dX9_drawn_7 : decode cX9_drawn 7 = .ok (.iload_n 3, 1) := by decide +kernel
theorem dX9_drawn_8 : decode cX9_drawn 8 = .ok (.bipush 100, 2) := by decide +kernel
theorem dX9_drawn_10 : decode cX9_drawn 10 = .ok (.if_icmp .lt 39, 3) := by decide +kernel
theorem dX9_drawn_13 : decode cX9_drawn 13 = .ok (.iload_n 3, 1) := by decide +kernel
theorem dX9_drawn_14 : decode cX9_drawn 14 = .ok (.bipush 100, 2) := by decide +kernel
theorem dX9_drawn_16 : decode cX9_drawn 16 = .ok (.idiv, 1) := by decide +kernel
theorem dX9_drawn_17 : decode cX9_drawn 17 = .ok (.bipush 30, 2) := by decide +kernel
theorem dX9_drawn_19 : decode cX9_drawn 19 = .ok (.if_icmp .gt 30, 3) := by decide +kernel
theorem dX9_drawn_22 : decode cX9_drawn 22 = .ok (.iload_n 3, 1) := by decide +kernel
theorem dX9_drawn_23 : decode cX9_drawn 23 = .ok (.bipush 100, 2) := by decide +kernel
theorem dX9_drawn_25 : decode cX9_drawn 25 = .ok (.irem, 1) := by decide +kernel
theorem dX9_drawn_26 : decode cX9_drawn 26 = .ok (.bipush 12, 2) := by decide +kernel
theorem dX9_drawn_28 : decode cX9_drawn 28 = .ok (.if_icmp .gt 21, 3) := by decide +kernel
theorem dX9_drawn_31 : decode cX9_drawn 31 = .ok (.iload 4, 2) := by decide +kernel
theorem dX9_drawn_33 : decode cX9_drawn 33 = .ok (.iconst (-1), 1) := by decide +kernel
theorem dX9_drawn_34 : decode cX9_drawn 34 = .ok (.if_icmp .eq 17, 3) := by decide +kernel
theorem dX9_drawn_37 : decode cX9_drawn 37 = .ok (.aload_n 0, 1) := by decide +kernel
theorem dX9_drawn_38 : decode cX9_drawn 38 = .ok (.getfield 10, 3) := by decide +kernel
theorem dX9_drawn_41 : decode cX9_drawn 41 = .ok (.iload 4, 2) := by decide +kernel
theorem dX9_drawn_43 : decode cX9_drawn 43 = .ok (.invokevirtual 180, 3) := by decide +kernel
theorem dX9_drawn_46 : decode cX9_drawn 46 = .ok (.ifCond .ne 5, 3) := by decide +kernel
theorem dX9_drawn_49 : decode cX9_drawn 49 = .ok (.iconst (-1), 1) := by decide +kernel
theorem dX9_drawn_50 : decode cX9_drawn 50 = .ok (.ireturn, 1) := by decide +kernel
theorem dX9_drawn_51 : decode cX9_drawn 51 = .ok (.aload_n 0, 1) := by decide +kernel
theorem dX9_drawn_52 : decode cX9_drawn 52 = .ok (.getfield 75, 3) := by decide +kernel
theorem dX9_drawn_55 : decode cX9_drawn 55 = .ok (.iload_n 2, 1) := by decide +kernel
theorem dX9_drawn_56 : decode cX9_drawn 56 = .ok (.aaload, 1) := by decide +kernel
theorem dX9_drawn_57 : decode cX9_drawn 57 = .ok (.invokevirtual 167, 3) := by decide +kernel
theorem dX9_drawn_60 : decode cX9_drawn 60 = .ok (.istore 5, 2) := by decide +kernel
theorem dX9_drawn_62 : decode cX9_drawn 62 = .ok (.iload 5, 2) := by decide +kernel
theorem dX9_drawn_64 : decode cX9_drawn 64 = .ok (.ifCond .eq 6, 3) := by decide +kernel
theorem dX9_drawn_67 : decode cX9_drawn 67 = .ok (.iload 5, 2) := by decide +kernel
theorem dX9_drawn_69 : decode cX9_drawn 69 = .ok (.ireturn, 1) := by decide +kernel
theorem dX9_drawn_70 : decode cX9_drawn 70 = .ok (.aload_n 0, 1) := by decide +kernel
theorem dX9_drawn_71 : decode cX9_drawn 71 = .ok (.getfield 28, 3) := by decide +kernel
theorem dX9_drawn_74 : decode cX9_drawn 74 = .ok (.aload_n 0, 1) := by decide +kernel
theorem dX9_drawn_75 : decode cX9_drawn 75 = .ok (.getfield 10, 3) := by decide +kernel
theorem dX9_drawn_78 : decode cX9_drawn 78 = .ok (.invokevirtual 147, 3) := by decide +kernel
theorem dX9_drawn_81 : decode cX9_drawn 81 = .ok (.iload_n 1, 1) := by decide +kernel
theorem dX9_drawn_82 : decode cX9_drawn 82 = .ok (.istore 6, 2) := by decide +kernel
theorem dX9_drawn_84 : decode cX9_drawn 84 = .ok (.iconst 0, 1) := by decide +kernel
theorem dX9_drawn_85 : decode cX9_drawn 85 = .ok (.istore 7, 2) := by decide +kernel
theorem dX9_drawn_87 : decode cX9_drawn 87 = .ok (.iconst 0, 1) := by decide +kernel
theorem dX9_drawn_88 : decode cX9_drawn 88 = .ok (.istore 8, 2) := by decide +kernel
theorem dX9_drawn_90 : decode cX9_drawn 90 = .ok (.iload 8, 2) := by decide +kernel
theorem dX9_drawn_92 : decode cX9_drawn 92 = .ok (.iload_n 3, 1) := by decide +kernel
theorem dX9_drawn_93 : decode cX9_drawn 93 = .ok (.bipush 100, 2) := by decide +kernel
theorem dX9_drawn_95 : decode cX9_drawn 95 = .ok (.idiv, 1) := by decide +kernel
theorem dX9_drawn_96 : decode cX9_drawn 96 = .ok (.if_icmp .ge 91, 3) := by decide +kernel
theorem dX9_drawn_99 : decode cX9_drawn 99 = .ok (.aload_n 0, 1) := by decide +kernel
theorem dX9_drawn_100 : decode cX9_drawn 100 = .ok (.getfield 28, 3) := by decide +kernel
theorem dX9_drawn_103 : decode cX9_drawn 103 = .ok (.invokevirtual 256, 3) := by decide +kernel
theorem dX9_drawn_106 : decode cX9_drawn 106 = .ok (.iload 4, 2) := by decide +kernel
theorem dX9_drawn_108 : decode cX9_drawn 108 = .ok (.ifCond .ge 7, 3) := by decide +kernel
theorem dX9_drawn_111 : decode cX9_drawn 111 = .ok (.iconst 0, 1) := by decide +kernel
theorem dX9_drawn_112 : decode cX9_drawn 112 = .ok (.goto 13, 3) := by decide +kernel
theorem dX9_drawn_115 : decode cX9_drawn 115 = .ok (.aload_n 0, 1) := by decide +kernel
theorem dX9_drawn_116 : decode cX9_drawn 116 = .ok (.getfield 28, 3) := by decide +kernel
theorem dX9_drawn_119 : decode cX9_drawn 119 = .ok (.getfield 183, 3) := by decide +kernel
theorem dX9_drawn_122 : decode cX9_drawn 122 = .ok (.iload 4, 2) := by decide +kernel
theorem dX9_drawn_124 : decode cX9_drawn 124 = .ok (.iaload, 1) := by decide +kernel
theorem dX9_drawn_125 : decode cX9_drawn 125 = .ok (.istore 9, 2) := by decide +kernel
theorem dX9_drawn_127 : decode cX9_drawn 127 = .ok (.aload_n 0, 1) := by decide +kernel
theorem dX9_drawn_128 : decode cX9_drawn 128 = .ok (.getfield 28, 3) := by decide +kernel
theorem dX9_drawn_131 : decode cX9_drawn 131 = .ok (.aload_n 0, 1) := by decide +kernel
theorem dX9_drawn_132 : decode cX9_drawn 132 = .ok (.getfield 75, 3) := by decide +kernel
theorem dX9_drawn_135 : decode cX9_drawn 135 = .ok (.iload_n 2, 1) := by decide +kernel
theorem dX9_drawn_136 : decode cX9_drawn 136 = .ok (.aaload, 1) := by decide +kernel
theorem dX9_drawn_137 : decode cX9_drawn 137 = .ok (.iload 6, 2) := by decide +kernel
theorem dX9_drawn_139 : decode cX9_drawn 139 = .ok (.iload_n 3, 1) := by decide +kernel
theorem dX9_drawn_140 : decode cX9_drawn 140 = .ok (.bipush 100, 2) := by decide +kernel
theorem dX9_drawn_142 : decode cX9_drawn 142 = .ok (.irem, 1) := by decide +kernel
theorem dX9_drawn_143 : decode cX9_drawn 143 = .ok (.invokevirtual 259, 3) := by decide +kernel
theorem dX9_drawn_146 : decode cX9_drawn 146 = .ok (.istore 6, 2) := by decide +kernel
theorem dX9_drawn_148 : decode cX9_drawn 148 = .ok (.iload 7, 2) := by decide +kernel
theorem dX9_drawn_150 : decode cX9_drawn 150 = .ok (.iload 4, 2) := by decide +kernel
theorem dX9_drawn_152 : decode cX9_drawn 152 = .ok (.ifCond .ge 13, 3) := by decide +kernel
theorem dX9_drawn_155 : decode cX9_drawn 155 = .ok (.aload_n 0, 1) := by decide +kernel
theorem dX9_drawn_156 : decode cX9_drawn 156 = .ok (.getfield 28, 3) := by decide +kernel
theorem dX9_drawn_159 : decode cX9_drawn 159 = .ok (.getfield 186, 3) := by decide +kernel
theorem dX9_drawn_162 : decode cX9_drawn 162 = .ok (.goto 16, 3) := by decide +kernel
theorem dX9_drawn_165 : decode cX9_drawn 165 = .ok (.aload_n 0, 1) := by decide +kernel
theorem dX9_drawn_166 : decode cX9_drawn 166 = .ok (.getfield 28, 3) := by decide +kernel
theorem dX9_drawn_169 : decode cX9_drawn 169 = .ok (.getfield 183, 3) := by decide +kernel
theorem dX9_drawn_172 : decode cX9_drawn 172 = .ok (.iload 4, 2) := by decide +kernel
theorem dX9_drawn_174 : decode cX9_drawn 174 = .ok (.iaload, 1) := by decide +kernel
theorem dX9_drawn_175 : decode cX9_drawn 175 = .ok (.iload 9, 2) := by decide +kernel
theorem dX9_drawn_177 : decode cX9_drawn 177 = .ok (.isub, 1) := by decide +kernel
theorem dX9_drawn_178 : decode cX9_drawn 178 = .ok (.iadd, 1) := by decide +kernel
theorem dX9_drawn_179 : decode cX9_drawn 179 = .ok (.istore 7, 2) := by decide +kernel
theorem dX9_drawn_181 : decode cX9_drawn 181 = .ok (.iinc 8 1, 3) := by decide +kernel
theorem dX9_drawn_184 : decode cX9_drawn 184 = .ok (.goto (-94), 3) := by decide +kernel
theorem dX9_drawn_187 : decode cX9_drawn 187 = .ok (.iload 7, 2) := by decide +kernel
theorem dX9_drawn_189 : decode cX9_drawn 189 = .ok (.ireturn, 1) := by decide +kernel
theorem bX9_drawn_178 {K : KT} {g : GT} {cm sm : Nat} {cs : Nat × Nat} {c0 : Nat} {x1 : Int} {x2 : Int} {x3 : Int} {x4 : Int} {k90 : Int → Int → Int → St → Option (Int × St)} {r : Int} {σ' : St} (hC : Ctx K g RX9 cX9_drawn 10 6 cm sm) (hcs : cs.1 ≤ cm ∧ cs.2 ≤ sm) (h0 : isO 9 c0 = true) (hk90 : ∀ (x6 : Int) (x7 : Int) (x8 : Int) (σ : St), k90 x6 x7 x8 σ = some (r, σ') → G K g 10 cs 90 [(0, vr c0), (1, vi x1), (2, vi x2), (3, vi x3), (4, vi x4), (6, vi x6), (7, vi x7), (8, vi x8)] [] (SH0, σ)) (hR : RetI K g cX9_drawn 10 cs r (SH0, σ')) : ∀ (x6 : Int) (x8 : Int) (y0 : Int) (y1 : Int) (σ : St), fX9_drawn_178 c0 x1 x2 x3 x4 k90 x6 x8 y0 y1 σ = some (r, σ') → G K g 10 cs 178 [(0, vr c0), (1, vi x1), (2, vi x2), (3, vi x3), (4, vi x4), (6, vi x6), (8, vi x8)] [vi y1, vi y0] (SH0, σ) := by
  intro x6 x8 y0 y1 σ h
  unfold fX9_drawn_178 at h
  refine g_iadd hC dX9_drawn_178 ?_
  refine g_istore hC dX9_drawn_179 (Nat.le_of_ble_eq_true rfl) rfl ?_
  refine g_iinc hC dX9_drawn_181 7 rfl (Nat.le_of_ble_eq_true rfl) rfl ?_
  refine g_goto hC dX9_drawn_184 (tgt := 90) (by decide) ?_
  exact g_pick [2, 3, 4, 5, 6, 7, 1, 0] rfl (hk90 _ _ _ _ h)
theorem bX9_drawn_125 {K : KT} {g : GT} {cm sm : Nat} {cs : Nat × Nat} {c0 : Nat} {x1 : Int} {x2 : Int} {x3 : Int} {x4 : Int} {k90 : Int → Int → Int → St → Option (Int × St)} {r : Int} {σ' : St} (hC : Ctx K g RX9 cX9_drawn 10 6 cm sm) (hcs : cs.1 ≤ cm ∧ cs.2 ≤ sm) (h0 : isO 9 c0 = true) (hk90 : ∀ (x6 : Int) (x7 : Int) (x8 : Int) (σ : St), k90 x6 x7 x8 σ = some (r, σ') → G K g 10 cs 90 [(0, vr c0), (1, vi x1), (2, vi x2), (3, vi x3), (4, vi x4), (6, vi x6), (7, vi x7), (8, vi x8)] [] (SH0, σ)) (hR : RetI K g cX9_drawn 10 cs r (SH0, σ')) : ∀ (x6 : Int) (x7 : Int) (x8 : Int) (y0 : Int) (σ : St), fX9_drawn_125 c0 x1 x2 x3 x4 k90 x6 x7 x8 y0 σ = some (r, σ') → G K g 10 cs 125 [(0, vr c0), (1, vi x1), (2, vi x2), (3, vi x3), (4, vi x4), (6, vi x6), (7, vi x7), (8, vi x8)] [vi y0] (SH0, σ) := by
  intro x6 x7 x8 y0 σ h
  unfold fX9_drawn_125 at h
  refine g_istore hC dX9_drawn_125 (Nat.le_of_ble_eq_true rfl) rfl ?_
  refine g_aload_n hC dX9_drawn_127 1 rfl rfl ?_
  refine g_getr hC dX9_drawn_128 lfRX9_28 (isO_spec h0) (ft_9_2 h0) ?_
  refine g_aload_n hC dX9_drawn_131 1 rfl rfl ?_
  refine g_getr hC dX9_drawn_132 lfRX9_75 (isO_spec h0) (ft_9_8 h0) ?_
  refine g_iload_n hC dX9_drawn_135 3 rfl rfl ?_
  obtain ⟨b9, h⟩ := of_ite h
  refine g_aald hC dX9_drawn_136 (isA_spec (rf_9_8 h0)) b9 (sh_at (rf_9_8 h0) b9).1 ?_
  have b21 := (sh_at (rf_9_8 h0) b9).2
  refine g_iload hC dX9_drawn_137 6 rfl ?_
  refine g_iload_n hC dX9_drawn_139 4 rfl rfl ?_
  refine g_bipush hC dX9_drawn_140 bp_100 ?_
  refine g_irem hC dX9_drawn_142 (by decide) ?_
  obtain ⟨⟨r2, s2⟩, e2, h⟩ := of_bind h
  try dsimp only at h
  refine s_callVi hC dX9_drawn_143 (tX7_sellsByDraws (rf_9_2 h0) b21 e2) miX7_sellsByDraws mvX7_sellsByDraws mlRX9_259 (isO_spec (rf_9_2 h0)) vc_7 rfl rfl (Nat.le_of_ble_eq_true rfl) (Nat.le_of_ble_eq_true rfl) (Nat.le_of_ble_eq_true rfl) hcs ?_
  refine g_istore hC dX9_drawn_146 (Nat.le_of_ble_eq_true rfl) rfl ?_
  refine g_iload hC dX9_drawn_148 7 rfl ?_
  refine g_iload hC dX9_drawn_150 6 rfl ?_
  refine g_if_ge hC dX9_drawn_152 (tgt := 165) (by decide) (fun h9 => ?_) (fun h9 => ?_)
  · rw [if_pos h9] at h
    refine g_aload_n hC dX9_drawn_165 2 rfl rfl ?_
    refine g_getr hC dX9_drawn_166 lfRX9_28 (isO_spec h0) (ft_9_2 h0) ?_
    refine g_getr hC dX9_drawn_169 lfRX9_183 (isO_spec (rf_9_2 h0)) (ft_7_2 (rf_9_2 h0)) ?_
    refine g_iload hC dX9_drawn_172 6 rfl ?_
    obtain ⟨b9, h⟩ := of_ite h
    refine g_iald hC dX9_drawn_174 (isA_spec (rf_7_2 (rf_9_2 h0))) b9 ?_
    refine g_iload hC dX9_drawn_175 1 rfl ?_
    refine g_isub hC dX9_drawn_177 ?_
    exact g_pick [2, 3, 4, 5, 6, 0, 8] rfl (bX9_drawn_178 hC hcs h0 hk90 hR _ _ _ _ _ h)
  · rw [if_neg h9] at h
    refine g_aload_n hC dX9_drawn_155 2 rfl rfl ?_
    refine g_getr hC dX9_drawn_156 lfRX9_28 (isO_spec h0) (ft_9_2 h0) ?_
    refine g_geti hC dX9_drawn_159 lfRX9_186 (isO_spec (rf_9_2 h0)) (ft_7_11 (rf_9_2 h0)) ?_
    refine g_goto hC dX9_drawn_162 (tgt := 178) (by decide) ?_
    exact g_pick [2, 3, 4, 5, 6, 0, 8] rfl (bX9_drawn_178 hC hcs h0 hk90 hR _ _ _ _ _ h)
theorem bX9_drawn_90 {K : KT} {g : GT} {cm sm : Nat} {cs : Nat × Nat} {c0 : Nat} {x1 : Int} {x2 : Int} {x3 : Int} {x4 : Int} {r : Int} {σ' : St} (hC : Ctx K g RX9 cX9_drawn 10 6 cm sm) (hcs : cs.1 ≤ cm ∧ cs.2 ≤ sm) (h0 : isO 9 c0 = true) (hR : RetI K g cX9_drawn 10 cs r (SH0, σ')) : ∀ (n : Nat) (x6 : Int) (x7 : Int) (x8 : Int) (σ : St), fX9_drawn_90 c0 x1 x2 x3 x4 n x6 x7 x8 σ = some (r, σ') → G K g 10 cs 90 [(0, vr c0), (1, vi x1), (2, vi x2), (3, vi x3), (4, vi x4), (6, vi x6), (7, vi x7), (8, vi x8)] [] (SH0, σ) := by
  intro n
  induction n with
  | zero =>
    intro x6 x7 x8 σ h
    rw [fX9_drawn_90.eq_1] at h
    cases h
  | succ n ih =>
    intro x6 x7 x8 σ h
    rw [fX9_drawn_90.eq_2] at h
    refine g_iload hC dX9_drawn_90 7 rfl ?_
    refine g_iload_n hC dX9_drawn_92 3 rfl rfl ?_
    refine g_bipush hC dX9_drawn_93 bp_100 ?_
    refine g_idiv hC dX9_drawn_95 (by decide) ?_
    refine g_icmp_ge hC dX9_drawn_96 (tgt := 187) (by decide) (fun h9 => ?_) (fun h9 => ?_)
    · rw [if_pos h9] at h
      refine g_iload hC dX9_drawn_187 6 rfl ?_
      exact ret_i h hR dX9_drawn_189
    · rw [if_neg h9] at h
      refine g_aload_n hC dX9_drawn_99 0 rfl rfl ?_
      refine g_getr hC dX9_drawn_100 lfRX9_28 (isO_spec h0) (ft_9_2 h0) ?_
      obtain ⟨s1, e1, h⟩ := of_bind h
      try dsimp only at h
      refine s_callVv hC dX9_drawn_103 (tX7_restarts (rf_9_2 h0) e1) miX7_restarts mvX7_restarts mlRX9_256 (isO_spec (rf_9_2 h0)) vc_7 rfl rfl (Nat.le_of_ble_eq_true rfl) (Nat.le_of_ble_eq_true rfl) (Nat.le_of_ble_eq_true rfl) hcs ?_
      refine g_iload hC dX9_drawn_106 4 rfl ?_
      refine g_if_ge hC dX9_drawn_108 (tgt := 115) (by decide) (fun h9 => ?_) (fun h9 => ?_)
      · rw [if_pos h9] at h
        refine g_aload_n hC dX9_drawn_115 0 rfl rfl ?_
        refine g_getr hC dX9_drawn_116 lfRX9_28 (isO_spec h0) (ft_9_2 h0) ?_
        refine g_getr hC dX9_drawn_119 lfRX9_183 (isO_spec (rf_9_2 h0)) (ft_7_2 (rf_9_2 h0)) ?_
        refine g_iload hC dX9_drawn_122 4 rfl ?_
        obtain ⟨b9, h⟩ := of_ite h
        refine g_iald hC dX9_drawn_124 (isA_spec (rf_7_2 (rf_9_2 h0))) b9 ?_
        exact g_pick [0, 1, 2, 3, 4, 5, 6, 7] rfl (bX9_drawn_125 hC hcs h0 ih hR _ _ _ _ _ h)
      · rw [if_neg h9] at h
        refine g_iconst hC dX9_drawn_111 ok_0 ?_
        refine g_goto hC dX9_drawn_112 (tgt := 125) (by decide) ?_
        exact g_pick [0, 1, 2, 3, 4, 5, 6, 7] rfl (bX9_drawn_125 hC hcs h0 ih hR _ _ _ _ _ h)
theorem bX9_drawn_51 {K : KT} {g : GT} {cm sm : Nat} {cs : Nat × Nat} {c0 : Nat} {x1 : Int} {x2 : Int} {x3 : Int} {x4 : Int} {r : Int} {σ' : St} (hC : Ctx K g RX9 cX9_drawn 10 6 cm sm) (hcs : cs.1 ≤ cm ∧ cs.2 ≤ sm) (h0 : isO 9 c0 = true) (hR : RetI K g cX9_drawn 10 cs r (SH0, σ')) : ∀ (σ : St), fX9_drawn_51 c0 x1 x2 x3 x4 σ = some (r, σ') → G K g 10 cs 51 [(0, vr c0), (1, vi x1), (2, vi x2), (3, vi x3), (4, vi x4)] [] (SH0, σ) := by
  intro σ h
  unfold fX9_drawn_51 at h
  refine g_aload_n hC dX9_drawn_51 0 rfl rfl ?_
  refine g_getr hC dX9_drawn_52 lfRX9_75 (isO_spec h0) (ft_9_8 h0) ?_
  refine g_iload_n hC dX9_drawn_55 2 rfl rfl ?_
  obtain ⟨b9, h⟩ := of_ite h
  refine g_aald hC dX9_drawn_56 (isA_spec (rf_9_8 h0)) b9 (sh_at (rf_9_8 h0) b9).1 ?_
  have b21 := (sh_at (rf_9_8 h0) b9).2
  obtain ⟨⟨r2, s2⟩, e2, h⟩ := of_bind h
  try dsimp only at h
  refine s_callVi hC dX9_drawn_57 (tX6_refusesBytes b21 e2) miX6_refusesBytes mvX6_refusesBytes mlRX9_167 (isO_spec b21) vc_6 rfl rfl (Nat.le_of_ble_eq_true rfl) (Nat.le_of_ble_eq_true rfl) (Nat.le_of_ble_eq_true rfl) hcs ?_
  refine g_istore hC dX9_drawn_60 (Nat.le_of_ble_eq_true rfl) rfl ?_
  refine g_iload hC dX9_drawn_62 0 rfl ?_
  refine g_if_eq hC dX9_drawn_64 (tgt := 70) (by decide) (fun h9 => ?_) (fun h9 => ?_)
  · rw [if_pos h9] at h
    refine g_aload_n hC dX9_drawn_70 1 rfl rfl ?_
    refine g_getr hC dX9_drawn_71 lfRX9_28 (isO_spec h0) (ft_9_2 h0) ?_
    refine g_aload_n hC dX9_drawn_74 1 rfl rfl ?_
    refine g_getr hC dX9_drawn_75 lfRX9_10 (isO_spec h0) (ft_9_0 h0) ?_
    obtain ⟨s3, e3, h⟩ := of_bind h
    try dsimp only at h
    refine s_callVv hC dX9_drawn_78 (tX7_begin (rf_9_2 h0) (rf_9_0 h0) e3) miX7_begin mvX7_begin mlRX9_147 (isO_spec (rf_9_2 h0)) vc_7 rfl rfl (Nat.le_of_ble_eq_true rfl) (Nat.le_of_ble_eq_true rfl) (Nat.le_of_ble_eq_true rfl) hcs ?_
    refine g_iload_n hC dX9_drawn_81 2 rfl rfl ?_
    refine g_istore hC dX9_drawn_82 (Nat.le_of_ble_eq_true rfl) rfl ?_
    refine g_iconst hC dX9_drawn_84 ok_0 ?_
    refine g_istore hC dX9_drawn_85 (Nat.le_of_ble_eq_true rfl) rfl ?_
    refine g_iconst hC dX9_drawn_87 ok_0 ?_
    refine g_istore hC dX9_drawn_88 (Nat.le_of_ble_eq_true rfl) rfl ?_
    exact g_pick [4, 5, 6, 7, 8, 2, 1, 0] rfl (bX9_drawn_90 hC hcs h0 hR _ _ _ _ _ h)
  · rw [if_neg h9] at h
    refine g_iload hC dX9_drawn_67 0 rfl ?_
    exact ret_i h hR dX9_drawn_69
theorem bX9_drawn_0 {K : KT} {g : GT} {cm sm : Nat} {cs : Nat × Nat} {c0 : Nat} {x1 : Int} {x2 : Int} {x3 : Int} {x4 : Int} {r : Int} {σ' : St} (hC : Ctx K g RX9 cX9_drawn 10 6 cm sm) (hcs : cs.1 ≤ cm ∧ cs.2 ≤ sm) (h0 : isO 9 c0 = true) (hR : RetI K g cX9_drawn 10 cs r (SH0, σ')) : ∀ (σ : St), fX9_drawn c0 x1 x2 x3 x4 σ = some (r, σ') → G K g 10 cs 0 [(0, vr c0), (1, vi x1), (2, vi x2), (3, vi x3), (4, vi x4)] [] (SH0, σ) := by
  intro σ h
  unfold fX9_drawn at h
  refine g_iload_n hC dX9_drawn_0 2 rfl rfl ?_
  obtain ⟨⟨r1, s1⟩, e1, h⟩ := of_bind h
  try dsimp only at h
  refine s_callSi hC dX9_drawn_1 (tX9_isShelf e1) miX9_isShelf msX9_isShelf mlRX9_92 rfl rfl (Nat.le_of_ble_eq_true rfl) (Nat.le_of_ble_eq_true rfl) (Nat.le_of_ble_eq_true rfl) hcs ?_
  refine g_if_eq hC dX9_drawn_4 (tgt := 49) (by decide) (fun h9 => ?_) (fun h9 => ?_)
  · rw [if_pos h9] at h
    refine g_iconst hC dX9_drawn_49 ok_m1 ?_
    exact ret_i h hR dX9_drawn_50
  · rw [if_neg h9] at h
    refine g_iload_n hC dX9_drawn_7 3 rfl rfl ?_
    refine g_bipush hC dX9_drawn_8 bp_100 ?_
    refine g_icmp_lt hC dX9_drawn_10 (tgt := 49) (by decide) (fun h9 => ?_) (fun h9 => ?_)
    · rw [if_pos h9] at h
      refine g_iconst hC dX9_drawn_49 ok_m1 ?_
      exact ret_i h hR dX9_drawn_50
    · rw [if_neg h9] at h
      refine g_iload_n hC dX9_drawn_13 3 rfl rfl ?_
      refine g_bipush hC dX9_drawn_14 bp_100 ?_
      refine g_idiv hC dX9_drawn_16 (by decide) ?_
      refine g_bipush hC dX9_drawn_17 bp_30 ?_
      refine g_icmp_gt hC dX9_drawn_19 (tgt := 49) (by decide) (fun h9 => ?_) (fun h9 => ?_)
      · rw [if_pos h9] at h
        refine g_iconst hC dX9_drawn_49 ok_m1 ?_
        exact ret_i h hR dX9_drawn_50
      · rw [if_neg h9] at h
        refine g_iload_n hC dX9_drawn_22 3 rfl rfl ?_
        refine g_bipush hC dX9_drawn_23 bp_100 ?_
        refine g_irem hC dX9_drawn_25 (by decide) ?_
        refine g_bipush hC dX9_drawn_26 bp_12 ?_
        refine g_icmp_gt hC dX9_drawn_28 (tgt := 49) (by decide) (fun h9 => ?_) (fun h9 => ?_)
        · rw [if_pos h9] at h
          refine g_iconst hC dX9_drawn_49 ok_m1 ?_
          exact ret_i h hR dX9_drawn_50
        · rw [if_neg h9] at h
          refine g_iload hC dX9_drawn_31 4 rfl ?_
          refine g_iconst hC dX9_drawn_33 ok_m1 ?_
          refine g_icmp_eq hC dX9_drawn_34 (tgt := 51) (by decide) (fun h9 => ?_) (fun h9 => ?_)
          · rw [if_pos h9] at h
            exact g_pick [0, 1, 2, 3, 4] rfl (bX9_drawn_51 hC hcs h0 hR _ h)
          · rw [if_neg h9] at h
            refine g_aload_n hC dX9_drawn_37 0 rfl rfl ?_
            refine g_getr hC dX9_drawn_38 lfRX9_10 (isO_spec h0) (ft_9_0 h0) ?_
            refine g_iload hC dX9_drawn_41 4 rfl ?_
            obtain ⟨⟨r2, s2⟩, e2, h⟩ := of_bind h
            try dsimp only at h
            refine s_callVi hC dX9_drawn_43 (tX2_hasBidder (rf_9_0 h0) e2) miX2_hasBidder mvX2_hasBidder mlRX9_180 (isO_spec (rf_9_0 h0)) vc_2 rfl rfl (Nat.le_of_ble_eq_true rfl) (Nat.le_of_ble_eq_true rfl) (Nat.le_of_ble_eq_true rfl) hcs ?_
            refine g_if_ne hC dX9_drawn_46 (tgt := 51) (by decide) (fun h9 => ?_) (fun h9 => ?_)
            · rw [if_neg h9] at h
              exact g_pick [0, 1, 2, 3, 4] rfl (bX9_drawn_51 hC hcs h0 hR _ h)
            · rw [if_pos h9] at h
              refine g_iconst hC dX9_drawn_49 ok_m1 ?_
              exact ret_i h hR dX9_drawn_50
theorem tX9_drawn {l : Launch} {g : GT} {c0 : Nat} {x1 : Int} {x2 : Int} {x3 : Int} {x4 : Int} {σ σ' : St} {r : Int} (h0 : isO 9 c0 = true) (h : fX9_drawn c0 x1 x2 x3 x4 σ = some (r, σ')) : Cn l g yX9_drawn cX9_drawn 10 (some .int) 6 0 0 [vr c0, vi x1, vi x2, vi x3, vi x4] (SH0, σ) (some (vi r)) (SH0, σ') :=
  Cn.ofI (by decide) (Nat.le_of_ble_eq_true rfl) (fun K e hC hR => (bX9_drawn_0 hC ⟨Nat.le_refl _, Nat.le_refl _⟩ h0 hR _ h))
theorem dX9_refusesElement_0 : decode cX9_refusesElement 0 = .ok (.iload_n 1, 1) := by decide +kernel
theorem dX9_refusesElement_1 : decode cX9_refusesElement 1 = .ok (.invokestatic 92, 3) := by decide +kernel
theorem dX9_refusesElement_4 : decode cX9_refusesElement 4 = .ok (.ifCond .ne 5, 3) := by decide +kernel
theorem dX9_refusesElement_7 : decode cX9_refusesElement 7 = .ok (.iconst (-1), 1) := by decide +kernel
theorem dX9_refusesElement_8 : decode cX9_refusesElement 8 = .ok (.ireturn, 1) := by decide +kernel
theorem dX9_refusesElement_9 : decode cX9_refusesElement 9 = .ok (.aload_n 0, 1) := by decide +kernel
theorem dX9_refusesElement_10 : decode cX9_refusesElement 10 = .ok (.getfield 75, 3) := by decide +kernel
theorem dX9_refusesElement_13 : decode cX9_refusesElement 13 = .ok (.iload_n 1, 1) := by decide +kernel
theorem dX9_refusesElement_14 : decode cX9_refusesElement 14 = .ok (.aaload, 1) := by decide +kernel
theorem dX9_refusesElement_15 : decode cX9_refusesElement 15 = .ok (.getfield 96, 3) := by decide +kernel
theorem dX9_refusesElement_18 : decode cX9_refusesElement 18 = .ok (.ifCond .ne 6, 3) := by decide +kernel
theorem dX9_refusesElement_21 : decode cX9_refusesElement 21 = .ok (.bipush (-11), 2) := by decide +kernel
theorem dX9_refusesElement_23 : decode cX9_refusesElement 23 = .ok (.ireturn, 1) := by decide +kernel
theorem dX9_refusesElement_24 : decode cX9_refusesElement 24 = .ok (.aload_n 0, 1) := by decide +kernel
theorem dX9_refusesElement_25 : decode cX9_refusesElement 25 = .ok (.getfield 75, 3) := by decide +kernel
theorem dX9_refusesElement_28 : decode cX9_refusesElement 28 = .ok (.iload_n 1, 1) := by decide +kernel
theorem dX9_refusesElement_29 : decode cX9_refusesElement 29 = .ok (.aaload, 1) := by decide +kernel
theorem dX9_refusesElement_30 : decode cX9_refusesElement 30 = .ok (.getfield 96, 3) := by decide +kernel
theorem dX9_refusesElement_33 : decode cX9_refusesElement 33 = .ok (.iconst 2, 1) := by decide +kernel
theorem dX9_refusesElement_34 : decode cX9_refusesElement 34 = .ok (.if_icmp .eq 6, 3) := by decide +kernel
theorem dX9_refusesElement_37 : decode cX9_refusesElement 37 = .ok (.bipush (-12), 2) := by decide +kernel
theorem dX9_refusesElement_39 : decode cX9_refusesElement 39 = .ok (.ireturn, 1) := by decide +kernel
theorem dX9_refusesElement_40 : decode cX9_refusesElement 40 = .ok (.aload_n 0, 1) := by decide +kernel
theorem dX9_refusesElement_41 : decode cX9_refusesElement 41 = .ok (.getfield 75, 3) := by decide +kernel
theorem dX9_refusesElement_44 : decode cX9_refusesElement 44 = .ok (.iload_n 1, 1) := by decide +kernel
theorem dX9_refusesElement_45 : decode cX9_refusesElement 45 = .ok (.aaload, 1) := by decide +kernel
theorem dX9_refusesElement_46 : decode cX9_refusesElement 46 = .ok (.iload_n 2, 1) := by decide +kernel
theorem dX9_refusesElement_47 : decode cX9_refusesElement 47 = .ok (.iconst 1, 1) := by decide +kernel
theorem dX9_refusesElement_48 : decode cX9_refusesElement 48 = .ok (.invokevirtual 104, 3) := by decide +kernel
theorem dX9_refusesElement_51 : decode cX9_refusesElement 51 = .ok (.ifCond .eq 7, 3) := by decide +kernel
theorem dX9_refusesElement_54 : decode cX9_refusesElement 54 = .ok (.iconst 0, 1) := by decide +kernel
theorem dX9_refusesElement_55 : decode cX9_refusesElement 55 = .ok (.goto 5, 3) := by decide +kernel
theorem dX9_refusesElement_58 : decode cX9_refusesElement 58 = .ok (.bipush (-13), 2) := by decide +kernel
theorem dX9_refusesElement_60 : decode cX9_refusesElement 60 = .ok (.ireturn, 1) := by decide +kernel
theorem bX9_refusesElement_0 {K : KT} {g : GT} {cm sm : Nat} {cs : Nat × Nat} {c0 : Nat} {x1 : Int} {x2 : Int} {r : Int} {σ' : St} (hC : Ctx K g RX9 cX9_refusesElement 3 1 cm sm) (hcs : cs.1 ≤ cm ∧ cs.2 ≤ sm) (h0 : isO 9 c0 = true) (hR : RetI K g cX9_refusesElement 3 cs r (SH0, σ')) : ∀ (σ : St), fX9_refusesElement c0 x1 x2 σ = some (r, σ') → G K g 3 cs 0 [(0, vr c0), (1, vi x1), (2, vi x2)] [] (SH0, σ) := by
  intro σ h
  unfold fX9_refusesElement at h
  refine g_iload_n hC dX9_refusesElement_0 1 rfl rfl ?_
  obtain ⟨⟨r1, s1⟩, e1, h⟩ := of_bind h
  try dsimp only at h
  refine s_callSi hC dX9_refusesElement_1 (tX9_isShelf e1) miX9_isShelf msX9_isShelf mlRX9_92 rfl rfl (Nat.le_of_ble_eq_true rfl) (Nat.le_of_ble_eq_true rfl) (Nat.le_of_ble_eq_true rfl) hcs ?_
  refine g_if_ne hC dX9_refusesElement_4 (tgt := 9) (by decide) (fun h9 => ?_) (fun h9 => ?_)
  · rw [if_neg h9] at h
    refine g_aload_n hC dX9_refusesElement_9 0 rfl rfl ?_
    refine g_getr hC dX9_refusesElement_10 lfRX9_75 (isO_spec h0) (ft_9_8 h0) ?_
    refine g_iload_n hC dX9_refusesElement_13 1 rfl rfl ?_
    obtain ⟨b9, h⟩ := of_ite h
    refine g_aald hC dX9_refusesElement_14 (isA_spec (rf_9_8 h0)) b9 (sh_at (rf_9_8 h0) b9).1 ?_
    have b22 := (sh_at (rf_9_8 h0) b9).2
    refine g_geti hC dX9_refusesElement_15 lfRX9_96 (isO_spec b22) (ft_6_1 b22) ?_
    refine g_if_ne hC dX9_refusesElement_18 (tgt := 24) (by decide) (fun h9 => ?_) (fun h9 => ?_)
    · rw [if_neg h9] at h
      refine g_aload_n hC dX9_refusesElement_24 0 rfl rfl ?_
      refine g_getr hC dX9_refusesElement_25 lfRX9_75 (isO_spec h0) (ft_9_8 h0) ?_
      refine g_iload_n hC dX9_refusesElement_28 1 rfl rfl ?_
      obtain ⟨b9, h⟩ := of_ite h
      refine g_aald hC dX9_refusesElement_29 (isA_spec (rf_9_8 h0)) b9 (sh_at (rf_9_8 h0) b9).1 ?_
      have b23 := (sh_at (rf_9_8 h0) b9).2
      refine g_geti hC dX9_refusesElement_30 lfRX9_96 (isO_spec b23) (ft_6_1 b23) ?_
      refine g_iconst hC dX9_refusesElement_33 ok_2 ?_
      refine g_icmp_eq hC dX9_refusesElement_34 (tgt := 40) (by decide) (fun h9 => ?_) (fun h9 => ?_)
      · rw [if_pos h9] at h
        refine g_aload_n hC dX9_refusesElement_40 0 rfl rfl ?_
        refine g_getr hC dX9_refusesElement_41 lfRX9_75 (isO_spec h0) (ft_9_8 h0) ?_
        refine g_iload_n hC dX9_refusesElement_44 1 rfl rfl ?_
        obtain ⟨b9, h⟩ := of_ite h
        refine g_aald hC dX9_refusesElement_45 (isA_spec (rf_9_8 h0)) b9 (sh_at (rf_9_8 h0) b9).1 ?_
        have b24 := (sh_at (rf_9_8 h0) b9).2
        refine g_iload_n hC dX9_refusesElement_46 2 rfl rfl ?_
        refine g_iconst hC dX9_refusesElement_47 ok_1 ?_
        obtain ⟨⟨r5, s5⟩, e5, h⟩ := of_bind h
        try dsimp only at h
        refine s_callVi hC dX9_refusesElement_48 (tX6_hasRun b24 e5) miX6_hasRun mvX6_hasRun mlRX9_104 (isO_spec b24) vc_6 rfl rfl (Nat.le_of_ble_eq_true rfl) (Nat.le_of_ble_eq_true rfl) (Nat.le_of_ble_eq_true rfl) hcs ?_
        refine g_if_eq hC dX9_refusesElement_51 (tgt := 58) (by decide) (fun h9 => ?_) (fun h9 => ?_)
        · rw [if_pos h9] at h
          refine g_bipush hC dX9_refusesElement_58 bp_m13 ?_
          exact ret_i h hR dX9_refusesElement_60
        · rw [if_neg h9] at h
          refine g_iconst hC dX9_refusesElement_54 ok_0 ?_
          refine g_goto hC dX9_refusesElement_55 (tgt := 60) (by decide) ?_
          exact ret_i h hR dX9_refusesElement_60
      · rw [if_neg h9] at h
        refine g_bipush hC dX9_refusesElement_37 bp_m12 ?_
        exact ret_i h hR dX9_refusesElement_39
    · rw [if_pos h9] at h
      refine g_bipush hC dX9_refusesElement_21 bp_m11 ?_
      exact ret_i h hR dX9_refusesElement_23
  · rw [if_pos h9] at h
    refine g_iconst hC dX9_refusesElement_7 ok_m1 ?_
    exact ret_i h hR dX9_refusesElement_8
theorem tX9_refusesElement {l : Launch} {g : GT} {c0 : Nat} {x1 : Int} {x2 : Int} {σ σ' : St} {r : Int} (h0 : isO 9 c0 = true) (h : fX9_refusesElement c0 x1 x2 σ = some (r, σ')) : Cn l g yX9_refusesElement cX9_refusesElement 3 (some .int) 1 0 0 [vr c0, vi x1, vi x2] (SH0, σ) (some (vi r)) (SH0, σ') :=
  Cn.ofI (by decide) (Nat.le_of_ble_eq_true rfl) (fun K e hC hR => (bX9_refusesElement_0 hC ⟨Nat.le_refl _, Nat.le_refl _⟩ h0 hR _ h))
theorem dX9_element_0 : decode cX9_element 0 = .ok (.aload_n 0, 1) := by decide +kernel
theorem dX9_element_1 : decode cX9_element 1 = .ok (.iload_n 1, 1) := by decide +kernel
theorem dX9_element_2 : decode cX9_element 2 = .ok (.iload_n 2, 1) := by decide +kernel
theorem dX9_element_3 : decode cX9_element 3 = .ok (.invokevirtual 319, 3) := by decide +kernel
theorem dX9_element_6 : decode cX9_element 6 = .ok (.ifCond .eq 9, 3) := by decide +kernel
theorem dX9_element_9 : decode cX9_element 9 = .ok (.ldc2_w 328, 3) := by decide +kernel
theorem dX9_element_12 : decode cX9_element 12 = .ok (.goto 13, 3) := by decide +kernel
theorem dX9_element_15 : decode cX9_element 15 = .ok (.aload_n 0, 1) := by decide +kernel
theorem dX9_element_16 : decode cX9_element 16 = .ok (.getfield 75, 3) := by decide +kernel
theorem dX9_element_19 : decode cX9_element 19 = .ok (.iload_n 1, 1) := by decide +kernel
theorem dX9_element_20 : decode cX9_element 20 = .ok (.aaload, 1) := by decide +kernel
theorem dX9_element_21 : decode cX9_element 21 = .ok (.iload_n 2, 1) := by decide +kernel
theorem dX9_element_22 : decode cX9_element 22 = .ok (.invokevirtual 111, 3) := by decide +kernel
theorem dX9_element_25 : decode cX9_element 25 = .ok (.lreturn, 1) := by decide +kernel
theorem bX9_element_0 {K : KT} {g : GT} {cm sm : Nat} {cs : Nat × Nat} {c0 : Nat} {x1 : Int} {x2 : Int} {r : Int} {σ' : St} (hC : Ctx K g RX9 cX9_element 3 2 cm sm) (hcs : cs.1 ≤ cm ∧ cs.2 ≤ sm) (h0 : isO 9 c0 = true) (hR : RetL K g cX9_element 3 cs r (SH0, σ')) : ∀ (σ : St), fX9_element c0 x1 x2 σ = some (r, σ') → G K g 3 cs 0 [(0, vr c0), (1, vi x1), (2, vi x2)] [] (SH0, σ) := by
  intro σ h
  unfold fX9_element at h
  refine g_aload_n hC dX9_element_0 0 rfl rfl ?_
  refine g_iload_n hC dX9_element_1 1 rfl rfl ?_
  refine g_iload_n hC dX9_element_2 2 rfl rfl ?_
  obtain ⟨⟨r1, s1⟩, e1, h⟩ := of_bind h
  try dsimp only at h
  refine s_callVi hC dX9_element_3 (tX9_refusesElement h0 e1) miX9_refusesElement mvX9_refusesElement mlRX9_319 (isO_spec h0) vc_9 rfl rfl (Nat.le_of_ble_eq_true rfl) (Nat.le_of_ble_eq_true rfl) (Nat.le_of_ble_eq_true rfl) hcs ?_
  refine g_if_eq hC dX9_element_6 (tgt := 15) (by decide) (fun h9 => ?_) (fun h9 => ?_)
  · rw [if_pos h9] at h
    refine g_aload_n hC dX9_element_15 0 rfl rfl ?_
    refine g_getr hC dX9_element_16 lfRX9_75 (isO_spec h0) (ft_9_8 h0) ?_
    refine g_iload_n hC dX9_element_19 1 rfl rfl ?_
    obtain ⟨b9, h⟩ := of_ite h
    refine g_aald hC dX9_element_20 (isA_spec (rf_9_8 h0)) b9 (sh_at (rf_9_8 h0) b9).1 ?_
    have b22 := (sh_at (rf_9_8 h0) b9).2
    refine g_iload_n hC dX9_element_21 2 rfl rfl ?_
    obtain ⟨⟨r3, s3⟩, e3, h⟩ := of_bind h
    try dsimp only at h
    refine s_callVl hC dX9_element_22 (tX6_at b22 e3) miX6_at mvX6_at mlRX9_111 (isO_spec b22) vc_6 rfl rfl (Nat.le_of_ble_eq_true rfl) (Nat.le_of_ble_eq_true rfl) (Nat.le_of_ble_eq_true rfl) hcs ?_
    exact ret_l h hR dX9_element_25
  · rw [if_neg h9] at h
    refine g_ldc2 hC dX9_element_9 kRX9_328 ?_
    refine g_goto hC dX9_element_12 (tgt := 25) (by decide) ?_
    exact ret_l h hR dX9_element_25
theorem tX9_element {l : Launch} {g : GT} {c0 : Nat} {x1 : Int} {x2 : Int} {σ σ' : St} {r : Int} (h0 : isO 9 c0 = true) (h : fX9_element c0 x1 x2 σ = some (r, σ')) : Cn l g yX9_element cX9_element 3 (some .long) 2 0 0 [vr c0, vi x1, vi x2] (SH0, σ) (some (vl r)) (SH0, σ') :=
  Cn.ofL (by decide) (Nat.le_of_ble_eq_true rfl) (fun K e hC hR => (bX9_element_0 hC ⟨Nat.le_refl _, Nat.le_refl _⟩ h0 hR _ h))
theorem dX8_fewestExamined_0 : decode cX8_fewestExamined 0 = .ok (.bipush (-2), 2) := by decide +kernel
theorem dX8_fewestExamined_2 : decode cX8_fewestExamined 2 = .ok (.istore_n 2, 1) := by decide +kernel
theorem dX8_fewestExamined_3 : decode cX8_fewestExamined 3 = .ok (.bipush 8, 2) := by decide +kernel
theorem dX8_fewestExamined_5 : decode cX8_fewestExamined 5 = .ok (.istore_n 3, 1) := by decide +kernel
theorem dX8_fewestExamined_6 : decode cX8_fewestExamined 6 = .ok (.iconst 1, 1) := by decide +kernel
theorem dX8_fewestExamined_7 : decode cX8_fewestExamined 7 = .ok (.aload_n 0, 1) := by decide +kernel
theorem dX8_fewestExamined_8 : decode cX8_fewestExamined 8 = .ok (.getfield 18, 3) := by decide +kernel
theorem dX8_fewestExamined_11 : decode cX8_fewestExamined 11 = .ok (.getfield 61, 3) := by decide +kernel
theorem dX8_fewestExamined_14 : decode cX8_fewestExamined 14 = .ok (.getfield 65, 3) := by decide +kernel
theorem dX8_fewestExamined_17 : decode cX8_fewestExamined 17 = .ok (.ishl, 1) := by decide +kernel
theorem dX8_fewestExamined_18 : decode cX8_fewestExamined 18 = .ok (.istore 4, 2) := by decide +kernel
theorem dX8_fewestExamined_20 : decode cX8_fewestExamined 20 = .ok (.iconst 0, 1) := by decide +kernel
theorem dX8_fewestExamined_21 : decode cX8_fewestExamined 21 = .ok (.istore 5, 2) := by decide +kernel
theorem dX8_fewestExamined_23 : decode cX8_fewestExamined 23 = .ok (.iload 5, 2) := by decide +kernel
theorem dX8_fewestExamined_25 : decode cX8_fewestExamined 25 = .ok (.iload 4, 2) := by decide +kernel
theorem dX8_fewestExamined_27 : decode cX8_fewestExamined 27 = .ok (.if_icmp .ge 47, 3) := by decide +kernel
theorem dX8_fewestExamined_30 : decode cX8_fewestExamined 30 = .ok (.aload_n 0, 1) := by decide +kernel
theorem dX8_fewestExamined_31 : decode cX8_fewestExamined 31 = .ok (.getfield 18, 3) := by decide +kernel
theorem dX8_fewestExamined_34 : decode cX8_fewestExamined 34 = .ok (.iload 5, 2) := by decide +kernel
theorem dX8_fewestExamined_36 : decode cX8_fewestExamined 36 = .ok (.putfield 70, 3) := by decide +kernel
theorem dX8_fewestExamined_39 : decode cX8_fewestExamined 39 = .ok (.iload 5, 2) := by decide +kernel
theorem dX8_fewestExamined_41 : decode cX8_fewestExamined 41 = .ok (.invokestatic 73, 3) := by decide +kernel
theorem dX8_fewestExamined_44 : decode cX8_fewestExamined 44 = .ok (.iload_n 3, 1) := by decide +kernel
theorem dX8_fewestExamined_45 : decode cX8_fewestExamined 45 = .ok (.if_icmp .ge 23, 3) := by decide +kernel
theorem dX8_fewestExamined_48 : decode cX8_fewestExamined 48 = .ok (.aload_n 0, 1) := by decide +kernel
theorem dX8_fewestExamined_49 : decode cX8_fewestExamined 49 = .ok (.getfield 18, 3) := by decide +kernel
theorem dX8_fewestExamined_52 : decode cX8_fewestExamined 52 = .ok (.invokevirtual 78, 3) := by decide +kernel
theorem dX8_fewestExamined_55 : decode cX8_fewestExamined 55 = .ok (.iload_n 1, 1) := by decide +kernel
theorem dX8_fewestExamined_56 : decode cX8_fewestExamined 56 = .ok (.if_icmp .ne 12, 3) := by decide +kernel
theorem dX8_fewestExamined_59 : decode cX8_fewestExamined 59 = .ok (.iload 5, 2) := by decide +kernel
theorem dX8_fewestExamined_61 : decode cX8_fewestExamined 61 = .ok (.invokestatic 73, 3) := by decide +kernel
theorem dX8_fewestExamined_64 : decode cX8_fewestExamined 64 = .ok (.istore_n 3, 1) := by decide +kernel
theorem dX8_fewestExamined_65 : decode cX8_fewestExamined 65 = .ok (.iload 5, 2) := by decide +kernel
theorem dX8_fewestExamined_67 : decode cX8_fewestExamined 67 = .ok (.istore_n 2, 1) := by decide +kernel
theorem dX8_fewestExamined_68 : decode cX8_fewestExamined 68 = .ok (.iinc 5 1, 3) := by decide +kernel
theorem dX8_fewestExamined_71 : decode cX8_fewestExamined 71 = .ok (.goto (-48), 3) := by decide +kernel
theorem dX8_fewestExamined_74 : decode cX8_fewestExamined 74 = .ok (.iload_n 2, 1) := by decide +kernel
theorem dX8_fewestExamined_75 : decode cX8_fewestExamined 75 = .ok (.ireturn, 1) := by decide +kernel
theorem bX8_fewestExamined_68 {K : KT} {g : GT} {cm sm : Nat} {cs : Nat × Nat} {c0 : Nat} {x1 : Int} {k23 : Int → Int → Int → Int → St → Option (Int × St)} {r : Int} {σ' : St} (hC : Ctx K g RX8 cX8_fewestExamined 6 3 cm sm) (hcs : cs.1 ≤ cm ∧ cs.2 ≤ sm) (h0 : isO 8 c0 = true) (hk23 : ∀ (x2 : Int) (x3 : Int) (x4 : Int) (x5 : Int) (σ : St), k23 x2 x3 x4 x5 σ = some (r, σ') → G K g 6 cs 23 [(0, vr c0), (1, vi x1), (2, vi x2), (3, vi x3), (4, vi x4), (5, vi x5)] [] (SH0, σ)) (hR : RetI K g cX8_fewestExamined 6 cs r (SH0, σ')) : ∀ (x2 : Int) (x3 : Int) (x4 : Int) (x5 : Int) (σ : St), fX8_fewestExamined_68 c0 x1 k23 x2 x3 x4 x5 σ = some (r, σ') → G K g 6 cs 68 [(0, vr c0), (1, vi x1), (2, vi x2), (3, vi x3), (4, vi x4), (5, vi x5)] [] (SH0, σ) := by
  intro x2 x3 x4 x5 σ h
  unfold fX8_fewestExamined_68 at h
  refine g_iinc hC dX8_fewestExamined_68 5 rfl (Nat.le_of_ble_eq_true rfl) rfl ?_
  refine g_goto hC dX8_fewestExamined_71 (tgt := 23) (by decide) ?_
  exact g_pick [1, 2, 3, 4, 5, 0] rfl (hk23 _ _ _ _ _ h)
theorem bX8_fewestExamined_23 {K : KT} {g : GT} {cm sm : Nat} {cs : Nat × Nat} {c0 : Nat} {x1 : Int} {r : Int} {σ' : St} (hC : Ctx K g RX8 cX8_fewestExamined 6 3 cm sm) (hcs : cs.1 ≤ cm ∧ cs.2 ≤ sm) (h0 : isO 8 c0 = true) (hR : RetI K g cX8_fewestExamined 6 cs r (SH0, σ')) : ∀ (n : Nat) (x2 : Int) (x3 : Int) (x4 : Int) (x5 : Int) (σ : St), fX8_fewestExamined_23 c0 x1 n x2 x3 x4 x5 σ = some (r, σ') → G K g 6 cs 23 [(0, vr c0), (1, vi x1), (2, vi x2), (3, vi x3), (4, vi x4), (5, vi x5)] [] (SH0, σ) := by
  intro n
  induction n with
  | zero =>
    intro x2 x3 x4 x5 σ h
    rw [fX8_fewestExamined_23.eq_1] at h
    cases h
  | succ n ih =>
    intro x2 x3 x4 x5 σ h
    rw [fX8_fewestExamined_23.eq_2] at h
    refine g_iload hC dX8_fewestExamined_23 5 rfl ?_
    refine g_iload hC dX8_fewestExamined_25 4 rfl ?_
    refine g_icmp_ge hC dX8_fewestExamined_27 (tgt := 74) (by decide) (fun h9 => ?_) (fun h9 => ?_)
    · rw [if_pos h9] at h
      refine g_iload_n hC dX8_fewestExamined_74 2 rfl rfl ?_
      exact ret_i h hR dX8_fewestExamined_75
    · rw [if_neg h9] at h
      refine g_aload_n hC dX8_fewestExamined_30 0 rfl rfl ?_
      refine g_getr hC dX8_fewestExamined_31 lfRX8_18 (isO_spec h0) (ft_8_0 h0) ?_
      refine g_iload hC dX8_fewestExamined_34 5 rfl ?_
      refine g_puti hC dX8_fewestExamined_36 lfRX8_70 fp_7_9 (isO_spec (rf_8_0 h0)) (ft_7_9 (rf_8_0 h0)) ?_
      refine g_iload hC dX8_fewestExamined_39 5 rfl ?_
      obtain ⟨⟨r1, s1⟩, e1, h⟩ := of_bind h
      try dsimp only at h
      refine s_callSi hC dX8_fewestExamined_41 (tJ6_bitCount_0f7a4 e1) miJ6_bitCount_0f7a4 msJ6_bitCount_0f7a4 mlRX8_73 rfl rfl (Nat.le_of_ble_eq_true rfl) (Nat.le_of_ble_eq_true rfl) (Nat.le_of_ble_eq_true rfl) hcs ?_
      refine g_iload_n hC dX8_fewestExamined_44 3 rfl rfl ?_
      refine g_icmp_ge hC dX8_fewestExamined_45 (tgt := 68) (by decide) (fun h9 => ?_) (fun h9 => ?_)
      · rw [if_pos h9] at h
        exact g_pick [0, 1, 2, 3, 4, 5] rfl (bX8_fewestExamined_68 hC hcs h0 ih hR _ _ _ _ _ h)
      · rw [if_neg h9] at h
        refine g_aload_n hC dX8_fewestExamined_48 0 rfl rfl ?_
        refine g_getr hC dX8_fewestExamined_49 lfRX8_18 (isO_spec h0) (ft_8_0 h0) ?_
        obtain ⟨⟨r2, s2⟩, e2, h⟩ := of_bind h
        try dsimp only at h
        refine s_callVi hC dX8_fewestExamined_52 (tX7_winner (rf_8_0 h0) e2) miX7_winner mvX7_winner mlRX8_78 (isO_spec (rf_8_0 h0)) vc_7 rfl rfl (Nat.le_of_ble_eq_true rfl) (Nat.le_of_ble_eq_true rfl) (Nat.le_of_ble_eq_true rfl) hcs ?_
        refine g_iload_n hC dX8_fewestExamined_55 1 rfl rfl ?_
        refine g_icmp_ne hC dX8_fewestExamined_56 (tgt := 68) (by decide) (fun h9 => ?_) (fun h9 => ?_)
        · rw [if_neg h9] at h
          exact g_pick [0, 1, 2, 3, 4, 5] rfl (bX8_fewestExamined_68 hC hcs h0 ih hR _ _ _ _ _ h)
        · rw [if_pos h9] at h
          refine g_iload hC dX8_fewestExamined_59 5 rfl ?_
          obtain ⟨⟨r3, s3⟩, e3, h⟩ := of_bind h
          try dsimp only at h
          refine s_callSi hC dX8_fewestExamined_61 (tJ6_bitCount_0f7a4 e3) miJ6_bitCount_0f7a4 msJ6_bitCount_0f7a4 mlRX8_73 rfl rfl (Nat.le_of_ble_eq_true rfl) (Nat.le_of_ble_eq_true rfl) (Nat.le_of_ble_eq_true rfl) hcs ?_
          refine g_istore_n hC dX8_fewestExamined_64 rfl (Nat.le_of_ble_eq_true rfl) rfl ?_
          refine g_iload hC dX8_fewestExamined_65 5 rfl ?_
          refine g_istore_n hC dX8_fewestExamined_67 rfl (Nat.le_of_ble_eq_true rfl) rfl ?_
          exact g_pick [2, 3, 0, 1, 4, 5] rfl (bX8_fewestExamined_68 hC hcs h0 ih hR _ _ _ _ _ h)
theorem bX8_fewestExamined_0 {K : KT} {g : GT} {cm sm : Nat} {cs : Nat × Nat} {c0 : Nat} {x1 : Int} {r : Int} {σ' : St} (hC : Ctx K g RX8 cX8_fewestExamined 6 3 cm sm) (hcs : cs.1 ≤ cm ∧ cs.2 ≤ sm) (h0 : isO 8 c0 = true) (hR : RetI K g cX8_fewestExamined 6 cs r (SH0, σ')) : ∀ (σ : St), fX8_fewestExamined c0 x1 σ = some (r, σ') → G K g 6 cs 0 [(0, vr c0), (1, vi x1)] [] (SH0, σ) := by
  intro σ h
  unfold fX8_fewestExamined at h
  refine g_bipush hC dX8_fewestExamined_0 bp_m2 ?_
  refine g_istore_n hC dX8_fewestExamined_2 rfl (Nat.le_of_ble_eq_true rfl) rfl ?_
  refine g_bipush hC dX8_fewestExamined_3 bp_8 ?_
  refine g_istore_n hC dX8_fewestExamined_5 rfl (Nat.le_of_ble_eq_true rfl) rfl ?_
  refine g_iconst hC dX8_fewestExamined_6 ok_1 ?_
  refine g_aload_n hC dX8_fewestExamined_7 2 rfl rfl ?_
  refine g_getr hC dX8_fewestExamined_8 lfRX8_18 (isO_spec h0) (ft_8_0 h0) ?_
  refine g_getr hC dX8_fewestExamined_11 lfRX8_61 (isO_spec (rf_8_0 h0)) (ft_7_0 (rf_8_0 h0)) ?_
  refine g_geti hC dX8_fewestExamined_14 lfRX8_65 (isO_spec (rf_7_0 (rf_8_0 h0))) (ft_2_3 (rf_7_0 (rf_8_0 h0))) ?_
  refine g_ishl hC dX8_fewestExamined_17 ?_
  refine g_istore hC dX8_fewestExamined_18 (Nat.le_of_ble_eq_true rfl) rfl ?_
  refine g_iconst hC dX8_fewestExamined_20 ok_0 ?_
  refine g_istore hC dX8_fewestExamined_21 (Nat.le_of_ble_eq_true rfl) rfl ?_
  exact g_pick [4, 5, 3, 2, 1, 0] rfl (bX8_fewestExamined_23 hC hcs h0 hR _ _ _ _ _ _ h)
theorem tX8_fewestExamined {l : Launch} {g : GT} {c0 : Nat} {x1 : Int} {σ σ' : St} {r : Int} (h0 : isO 8 c0 = true) (h : fX8_fewestExamined c0 x1 σ = some (r, σ')) : Cn l g yX8_fewestExamined cX8_fewestExamined 6 (some .int) 3 0 0 [vr c0, vi x1] (SH0, σ) (some (vi r)) (SH0, σ') :=
  Cn.ofI (by decide) (Nat.le_of_ble_eq_true rfl) (fun K e hC hR => (bX8_fewestExamined_0 hC ⟨Nat.le_refl _, Nat.le_refl _⟩ h0 hR _ h))
theorem dX9_isPair_0 : decode cX9_isPair 0 = .ok (.iload_n 1, 1) := by decide +kernel
theorem dX9_isPair_1 : decode cX9_isPair 1 = .ok (.ifCond .lt 35, 3) := by decide +kernel
theorem dX9_isPair_4 : decode cX9_isPair 4 = .ok (.aload_n 0, 1) := by decide +kernel
theorem dX9_isPair_5 : decode cX9_isPair 5 = .ok (.getfield 10, 3) := by decide +kernel
theorem dX9_isPair_8 : decode cX9_isPair 8 = .ok (.iload_n 1, 1) := by decide +kernel
theorem dX9_isPair_9 : decode cX9_isPair 9 = .ok (.bipush 10, 2) := by decide +kernel
theorem dX9_isPair_11 : decode cX9_isPair 11 = .ok (.idiv, 1) := by decide +kernel
theorem dX9_isPair_12 : decode cX9_isPair 12 = .ok (.invokevirtual 180, 3) := by decide +kernel
theorem dX9_isPair_15 : decode cX9_isPair 15 = .ok (.ifCond .eq 21, 3) := by decide +kernel
theorem dX9_isPair_18 : decode cX9_isPair 18 = .ok (.aload_n 0, 1) := by decide +kernel
theorem dX9_isPair_19 : decode cX9_isPair 19 = .ok (.getfield 10, 3) := by decide +kernel
theorem dX9_isPair_22 : decode cX9_isPair 22 = .ok (.iload_n 1, 1) := by decide +kernel
theorem dX9_isPair_23 : decode cX9_isPair 23 = .ok (.bipush 10, 2) := by decide +kernel
theorem dX9_isPair_25 : decode cX9_isPair 25 = .ok (.irem, 1) := by decide +kernel
theorem dX9_isPair_26 : decode cX9_isPair 26 = .ok (.invokevirtual 161, 3) := by decide +kernel
theorem dX9_isPair_29 : decode cX9_isPair 29 = .ok (.ifCond .eq 7, 3) := by decide +kernel
theorem dX9_isPair_32 : decode cX9_isPair 32 = .ok (.iconst 1, 1) := by decide +kernel
theorem dX9_isPair_33 : decode cX9_isPair 33 = .ok (.goto 4, 3) := by decide +kernel
theorem dX9_isPair_36 : decode cX9_isPair 36 = .ok (.iconst 0, 1) := by decide +kernel
theorem dX9_isPair_37 : decode cX9_isPair 37 = .ok (.ireturn, 1) := by decide +kernel
theorem bX9_isPair_0 {K : KT} {g : GT} {cm sm : Nat} {cs : Nat × Nat} {c0 : Nat} {x1 : Int} {r : Int} {σ' : St} (hC : Ctx K g RX9 cX9_isPair 2 1 cm sm) (hcs : cs.1 ≤ cm ∧ cs.2 ≤ sm) (h0 : isO 9 c0 = true) (hR : RetZ K g cX9_isPair 2 cs r (SH0, σ')) : ∀ (σ : St), fX9_isPair c0 x1 σ = some (r, σ') → G K g 2 cs 0 [(0, vr c0), (1, vi x1)] [] (SH0, σ) := by
  intro σ h
  unfold fX9_isPair at h
  refine g_iload_n hC dX9_isPair_0 1 rfl rfl ?_
  refine g_if_lt hC dX9_isPair_1 (tgt := 36) (by decide) (fun h9 => ?_) (fun h9 => ?_)
  · rw [if_pos h9] at h
    refine g_iconst hC dX9_isPair_36 ok_0 ?_
    exact ret_z h hR (by decide) dX9_isPair_37
  · rw [if_neg h9] at h
    refine g_aload_n hC dX9_isPair_4 0 rfl rfl ?_
    refine g_getr hC dX9_isPair_5 lfRX9_10 (isO_spec h0) (ft_9_0 h0) ?_
    refine g_iload_n hC dX9_isPair_8 1 rfl rfl ?_
    refine g_bipush hC dX9_isPair_9 bp_10 ?_
    refine g_idiv hC dX9_isPair_11 (by decide) ?_
    obtain ⟨⟨r1, s1⟩, e1, h⟩ := of_bind h
    try dsimp only at h
    refine s_callVi hC dX9_isPair_12 (tX2_hasBidder (rf_9_0 h0) e1) miX2_hasBidder mvX2_hasBidder mlRX9_180 (isO_spec (rf_9_0 h0)) vc_2 rfl rfl (Nat.le_of_ble_eq_true rfl) (Nat.le_of_ble_eq_true rfl) (Nat.le_of_ble_eq_true rfl) hcs ?_
    refine g_if_eq hC dX9_isPair_15 (tgt := 36) (by decide) (fun h9 => ?_) (fun h9 => ?_)
    · rw [if_pos h9] at h
      refine g_iconst hC dX9_isPair_36 ok_0 ?_
      exact ret_z h hR (by decide) dX9_isPair_37
    · rw [if_neg h9] at h
      refine g_aload_n hC dX9_isPair_18 0 rfl rfl ?_
      refine g_getr hC dX9_isPair_19 lfRX9_10 (isO_spec h0) (ft_9_0 h0) ?_
      refine g_iload_n hC dX9_isPair_22 1 rfl rfl ?_
      refine g_bipush hC dX9_isPair_23 bp_10 ?_
      refine g_irem hC dX9_isPair_25 (by decide) ?_
      obtain ⟨⟨r2, s2⟩, e2, h⟩ := of_bind h
      try dsimp only at h
      refine s_callVi hC dX9_isPair_26 (tX2_hasThing (rf_9_0 h0) e2) miX2_hasThing mvX2_hasThing mlRX9_161 (isO_spec (rf_9_0 h0)) vc_2 rfl rfl (Nat.le_of_ble_eq_true rfl) (Nat.le_of_ble_eq_true rfl) (Nat.le_of_ble_eq_true rfl) hcs ?_
      refine g_if_eq hC dX9_isPair_29 (tgt := 36) (by decide) (fun h9 => ?_) (fun h9 => ?_)
      · rw [if_pos h9] at h
        refine g_iconst hC dX9_isPair_36 ok_0 ?_
        exact ret_z h hR (by decide) dX9_isPair_37
      · rw [if_neg h9] at h
        refine g_iconst hC dX9_isPair_32 ok_1 ?_
        refine g_goto hC dX9_isPair_33 (tgt := 37) (by decide) ?_
        exact ret_z h hR (by decide) dX9_isPair_37
theorem tX9_isPair {l : Launch} {g : GT} {c0 : Nat} {x1 : Int} {σ σ' : St} {r : Int} (h0 : isO 9 c0 = true) (h : fX9_isPair c0 x1 σ = some (r, σ')) : Cn l g yX9_isPair cX9_isPair 2 (some .boolean) 1 0 0 [vr c0, vi x1] (SH0, σ) (some (vi r)) (SH0, σ') :=
  Cn.ofZ (by decide) (Nat.le_of_ble_eq_true rfl) (fun K e hC hR => (bX9_isPair_0 hC ⟨Nat.le_refl _, Nat.le_refl _⟩ h0 hR _ h))
theorem dX9_examined_0 : decode cX9_examined 0 = .ok (.aload_n 0, 1) := by decide +kernel
theorem dX9_examined_1 : decode cX9_examined 1 = .ok (.iload_n 1, 1) := by decide +kernel
theorem dX9_examined_2 : decode cX9_examined 2 = .ok (.invokevirtual 144, 3) := by decide +kernel
theorem dX9_examined_5 : decode cX9_examined 5 = .ok (.ifCond .eq 12, 3) := by decide +kernel
theorem dX9_examined_8 : decode cX9_examined 8 = .ok (.iload_n 2, 1) := by decide +kernel
theorem dX9_examined_9 : decode cX9_examined 9 = .ok (.ifCond .lt 8, 3) := by decide +kernel
theorem dX9_examined_12 : decode cX9_examined 12 = .ok (.iload_n 2, 1) := by decide +kernel
theorem dX9_examined_13 : decode cX9_examined 13 = .ok (.iconst 1, 1) := by decide +kernel
theorem dX9_examined_14 : decode cX9_examined 14 = .ok (.if_icmp .le 5, 3) := by decide +kernel
theorem dX9_examined_17 : decode cX9_examined 17 = .ok (.iconst (-1), 1) := by decide +kernel
theorem dX9_examined_18 : decode cX9_examined 18 = .ok (.ireturn, 1) := by decide +kernel
theorem dX9_examined_19 : decode cX9_examined 19 = .ok (.aload_n 0, 1) := by decide +kernel
theorem dX9_examined_20 : decode cX9_examined 20 = .ok (.getfield 28, 3) := by decide +kernel
theorem dX9_examined_23 : decode cX9_examined 23 = .ok (.aload_n 0, 1) := by decide +kernel
theorem dX9_examined_24 : decode cX9_examined 24 = .ok (.getfield 10, 3) := by decide +kernel
theorem dX9_examined_27 : decode cX9_examined 27 = .ok (.invokevirtual 147, 3) := by decide +kernel
theorem dX9_examined_30 : decode cX9_examined 30 = .ok (.aload_n 0, 1) := by decide +kernel
theorem dX9_examined_31 : decode cX9_examined 31 = .ok (.getfield 28, 3) := by decide +kernel
theorem dX9_examined_34 : decode cX9_examined 34 = .ok (.iload_n 1, 1) := by decide +kernel
theorem dX9_examined_35 : decode cX9_examined 35 = .ok (.bipush 10, 2) := by decide +kernel
theorem dX9_examined_37 : decode cX9_examined 37 = .ok (.irem, 1) := by decide +kernel
theorem dX9_examined_38 : decode cX9_examined 38 = .ok (.invokevirtual 151, 3) := by decide +kernel
theorem dX9_examined_41 : decode cX9_examined 41 = .ok (.aload_n 0, 1) := by decide +kernel
theorem dX9_examined_42 : decode cX9_examined 42 = .ok (.getfield 37, 3) := by decide +kernel
theorem dX9_examined_45 : decode cX9_examined 45 = .ok (.iload_n 1, 1) := by decide +kernel
theorem dX9_examined_46 : decode cX9_examined 46 = .ok (.bipush 10, 2) := by decide +kernel
theorem dX9_examined_48 : decode cX9_examined 48 = .ok (.idiv, 1) := by decide +kernel
theorem dX9_examined_49 : decode cX9_examined 49 = .ok (.invokevirtual 210, 3) := by decide +kernel
theorem dX9_examined_52 : decode cX9_examined 52 = .ok (.istore_n 3, 1) := by decide +kernel
theorem dX9_examined_53 : decode cX9_examined 53 = .ok (.iload_n 3, 1) := by decide +kernel
theorem dX9_examined_54 : decode cX9_examined 54 = .ok (.ifCond .ge 6, 3) := by decide +kernel
theorem dX9_examined_57 : decode cX9_examined 57 = .ok (.bipush (-2), 2) := by decide +kernel
theorem dX9_examined_59 : decode cX9_examined 59 = .ok (.ireturn, 1) := by decide +kernel
theorem dX9_examined_60 : decode cX9_examined 60 = .ok (.iload_n 2, 1) := by decide +kernel
theorem dX9_examined_61 : decode cX9_examined 61 = .ok (.ifCond .ne 10, 3) := by decide +kernel
theorem dX9_examined_64 : decode cX9_examined 64 = .ok (.iload_n 3, 1) := by decide +kernel
theorem dX9_examined_65 : decode cX9_examined 65 = .ok (.invokestatic 195, 3) := by decide +kernel
theorem dX9_examined_68 : decode cX9_examined 68 = .ok (.goto 4, 3) := by decide +kernel
theorem dX9_examined_71 : decode cX9_examined 71 = .ok (.iload_n 3, 1) := by decide +kernel
theorem dX9_examined_72 : decode cX9_examined 72 = .ok (.ireturn, 1) := by decide +kernel
theorem bX9_examined_0 {K : KT} {g : GT} {cm sm : Nat} {cs : Nat × Nat} {c0 : Nat} {x1 : Int} {x2 : Int} {r : Int} {σ' : St} (hC : Ctx K g RX9 cX9_examined 4 4 cm sm) (hcs : cs.1 ≤ cm ∧ cs.2 ≤ sm) (h0 : isO 9 c0 = true) (hR : RetI K g cX9_examined 4 cs r (SH0, σ')) : ∀ (σ : St), fX9_examined c0 x1 x2 σ = some (r, σ') → G K g 4 cs 0 [(0, vr c0), (1, vi x1), (2, vi x2)] [] (SH0, σ) := by
  intro σ h
  unfold fX9_examined at h
  refine g_aload_n hC dX9_examined_0 0 rfl rfl ?_
  refine g_iload_n hC dX9_examined_1 1 rfl rfl ?_
  obtain ⟨⟨r1, s1⟩, e1, h⟩ := of_bind h
  try dsimp only at h
  refine s_callVi hC dX9_examined_2 (tX9_isPair h0 e1) miX9_isPair mvX9_isPair mlRX9_144 (isO_spec h0) vc_9 rfl rfl (Nat.le_of_ble_eq_true rfl) (Nat.le_of_ble_eq_true rfl) (Nat.le_of_ble_eq_true rfl) hcs ?_
  refine g_if_eq hC dX9_examined_5 (tgt := 17) (by decide) (fun h9 => ?_) (fun h9 => ?_)
  · rw [if_pos h9] at h
    refine g_iconst hC dX9_examined_17 ok_m1 ?_
    exact ret_i h hR dX9_examined_18
  · rw [if_neg h9] at h
    refine g_iload_n hC dX9_examined_8 2 rfl rfl ?_
    refine g_if_lt hC dX9_examined_9 (tgt := 17) (by decide) (fun h9 => ?_) (fun h9 => ?_)
    · rw [if_pos h9] at h
      refine g_iconst hC dX9_examined_17 ok_m1 ?_
      exact ret_i h hR dX9_examined_18
    · rw [if_neg h9] at h
      refine g_iload_n hC dX9_examined_12 2 rfl rfl ?_
      refine g_iconst hC dX9_examined_13 ok_1 ?_
      refine g_icmp_le hC dX9_examined_14 (tgt := 19) (by decide) (fun h9 => ?_) (fun h9 => ?_)
      · rw [if_pos h9] at h
        refine g_aload_n hC dX9_examined_19 0 rfl rfl ?_
        refine g_getr hC dX9_examined_20 lfRX9_28 (isO_spec h0) (ft_9_2 h0) ?_
        refine g_aload_n hC dX9_examined_23 0 rfl rfl ?_
        refine g_getr hC dX9_examined_24 lfRX9_10 (isO_spec h0) (ft_9_0 h0) ?_
        obtain ⟨s2, e2, h⟩ := of_bind h
        try dsimp only at h
        refine s_callVv hC dX9_examined_27 (tX7_begin (rf_9_2 h0) (rf_9_0 h0) e2) miX7_begin mvX7_begin mlRX9_147 (isO_spec (rf_9_2 h0)) vc_7 rfl rfl (Nat.le_of_ble_eq_true rfl) (Nat.le_of_ble_eq_true rfl) (Nat.le_of_ble_eq_true rfl) hcs ?_
        refine g_aload_n hC dX9_examined_30 0 rfl rfl ?_
        refine g_getr hC dX9_examined_31 lfRX9_28 (isO_spec h0) (ft_9_2 h0) ?_
        refine g_iload_n hC dX9_examined_34 1 rfl rfl ?_
        refine g_bipush hC dX9_examined_35 bp_10 ?_
        refine g_irem hC dX9_examined_37 (by decide) ?_
        obtain ⟨s3, e3, h⟩ := of_bind h
        try dsimp only at h
        refine s_callVv hC dX9_examined_38 (tX7_considers (rf_9_2 h0) e3) miX7_considers mvX7_considers mlRX9_151 (isO_spec (rf_9_2 h0)) vc_7 rfl rfl (Nat.le_of_ble_eq_true rfl) (Nat.le_of_ble_eq_true rfl) (Nat.le_of_ble_eq_true rfl) hcs ?_
        refine g_aload_n hC dX9_examined_41 0 rfl rfl ?_
        refine g_getr hC dX9_examined_42 lfRX9_37 (isO_spec h0) (ft_9_3 h0) ?_
        refine g_iload_n hC dX9_examined_45 1 rfl rfl ?_
        refine g_bipush hC dX9_examined_46 bp_10 ?_
        refine g_idiv hC dX9_examined_48 (by decide) ?_
        obtain ⟨⟨r4, s4⟩, e4, h⟩ := of_bind h
        try dsimp only at h
        refine s_callVi hC dX9_examined_49 (tX8_fewestExamined (rf_9_3 h0) e4) miX8_fewestExamined mvX8_fewestExamined mlRX9_210 (isO_spec (rf_9_3 h0)) vc_8 rfl rfl (Nat.le_of_ble_eq_true rfl) (Nat.le_of_ble_eq_true rfl) (Nat.le_of_ble_eq_true rfl) hcs ?_
        refine g_istore_n hC dX9_examined_52 rfl (Nat.le_of_ble_eq_true rfl) rfl ?_
        refine g_iload_n hC dX9_examined_53 0 rfl rfl ?_
        refine g_if_ge hC dX9_examined_54 (tgt := 60) (by decide) (fun h9 => ?_) (fun h9 => ?_)
        · rw [if_pos h9] at h
          refine g_iload_n hC dX9_examined_60 3 rfl rfl ?_
          refine g_if_ne hC dX9_examined_61 (tgt := 71) (by decide) (fun h9 => ?_) (fun h9 => ?_)
          · rw [if_neg h9] at h
            refine g_iload_n hC dX9_examined_71 0 rfl rfl ?_
            exact ret_i h hR dX9_examined_72
          · rw [if_pos h9] at h
            refine g_iload_n hC dX9_examined_64 0 rfl rfl ?_
            obtain ⟨⟨r5, s5⟩, e5, h⟩ := of_bind h
            try dsimp only at h
            refine s_callSi hC dX9_examined_65 (tJ6_bitCount_0f7a4 e5) miJ6_bitCount_0f7a4 msJ6_bitCount_0f7a4 mlRX9_195 rfl rfl (Nat.le_of_ble_eq_true rfl) (Nat.le_of_ble_eq_true rfl) (Nat.le_of_ble_eq_true rfl) hcs ?_
            refine g_goto hC dX9_examined_68 (tgt := 72) (by decide) ?_
            exact ret_i h hR dX9_examined_72
        · rw [if_neg h9] at h
          refine g_bipush hC dX9_examined_57 bp_m2 ?_
          exact ret_i h hR dX9_examined_59
      · rw [if_neg h9] at h
        refine g_iconst hC dX9_examined_17 ok_m1 ?_
        exact ret_i h hR dX9_examined_18
theorem tX9_examined {l : Launch} {g : GT} {c0 : Nat} {x1 : Int} {x2 : Int} {σ σ' : St} {r : Int} (h0 : isO 9 c0 = true) (h : fX9_examined c0 x1 x2 σ = some (r, σ')) : Cn l g yX9_examined cX9_examined 4 (some .int) 4 0 0 [vr c0, vi x1, vi x2] (SH0, σ) (some (vi r)) (SH0, σ') :=
  Cn.ofI (by decide) (Nat.le_of_ble_eq_true rfl) (fun K e hC hR => (bX9_examined_0 hC ⟨Nat.le_refl _, Nat.le_refl _⟩ h0 hR _ h))
theorem dX4_comes_0 : decode cX4_comes 0 = .ok (.aload_n 0, 1) := by decide +kernel
theorem dX4_comes_1 : decode cX4_comes 1 = .ok (.getfield 25, 3) := by decide +kernel
theorem dX4_comes_4 : decode cX4_comes 4 = .ok (.bipush 120, 2) := by decide +kernel
theorem dX4_comes_6 : decode cX4_comes 6 = .ok (.if_icmp .ge 23, 3) := by decide +kernel
theorem dX4_comes_9 : decode cX4_comes 9 = .ok (.aload_n 0, 1) := by decide +kernel
theorem dX4_comes_10 : decode cX4_comes 10 = .ok (.getfield 9, 3) := by decide +kernel
theorem dX4_comes_13 : decode cX4_comes 13 = .ok (.aload_n 0, 1) := by decide +kernel
theorem dX4_comes_14 : decode cX4_comes 14 = .ok (.getfield 25, 3) := by decide +kernel
theorem dX4_comes_17 : decode cX4_comes 17 = .ok (.iload_n 1, 1) := by decide +kernel
theorem dX4_comes_18 : decode cX4_comes 18 = .ok (.iastore, 1) := by decide +kernel
theorem dX4_comes_19 : decode cX4_comes 19 = .ok (.aload_n 0, 1) := by decide +kernel
theorem dX4_comes_20 : decode cX4_comes 20 = .ok (.dup, 1) := by decide +kernel
theorem dX4_comes_21 : decode cX4_comes 21 = .ok (.getfield 25, 3) := by decide +kernel
theorem dX4_comes_24 : decode cX4_comes 24 = .ok (.iconst 1, 1) := by decide +kernel
theorem dX4_comes_25 : decode cX4_comes 25 = .ok (.iadd, 1) := by decide +kernel
theorem dX4_comes_26 : decode cX4_comes 26 = .ok (.putfield 25, 3) := by decide +kernel
theorem dX4_comes_29 : decode cX4_comes 29 = .ok (.aload_n 0, 1) := by decide +kernel
theorem dX4_comes_30 : decode cX4_comes 30 = .ok (.getfield 25, 3) := by decide +kernel
theorem dX4_comes_33 : decode cX4_comes 33 = .ok (.ireturn, 1) := by decide +kernel
theorem bX4_comes_0 {K : KT} {g : GT} {cm sm : Nat} {cs : Nat × Nat} {c0 : Nat} {x1 : Int} {r : Int} {σ' : St} (hC : Ctx K g RX4 cX4_comes 2 0 cm sm) (hcs : cs.1 ≤ cm ∧ cs.2 ≤ sm) (h0 : isO 4 c0 = true) (hR : RetI K g cX4_comes 2 cs r (SH0, σ')) : ∀ (σ : St), fX4_comes c0 x1 σ = some (r, σ') → G K g 2 cs 0 [(0, vr c0), (1, vi x1)] [] (SH0, σ) := by
  intro σ h
  unfold fX4_comes at h
  refine g_aload_n hC dX4_comes_0 0 rfl rfl ?_
  refine g_geti hC dX4_comes_1 lfRX4_25 (isO_spec h0) (ft_4_5 h0) ?_
  refine g_bipush hC dX4_comes_4 bp_120 ?_
  refine g_icmp_ge hC dX4_comes_6 (tgt := 29) (by decide) (fun h9 => ?_) (fun h9 => ?_)
  · rw [if_pos h9] at h
    refine g_aload_n hC dX4_comes_29 0 rfl rfl ?_
    refine g_geti hC dX4_comes_30 lfRX4_25 (isO_spec h0) (ft_4_5 h0) ?_
    exact ret_i h hR dX4_comes_33
  · rw [if_neg h9] at h
    refine g_aload_n hC dX4_comes_9 0 rfl rfl ?_
    refine g_getr hC dX4_comes_10 lfRX4_9 (isO_spec h0) (ft_4_0 h0) ?_
    refine g_aload_n hC dX4_comes_13 0 rfl rfl ?_
    refine g_geti hC dX4_comes_14 lfRX4_25 (isO_spec h0) (ft_4_5 h0) ?_
    refine g_iload_n hC dX4_comes_17 1 rfl rfl ?_
    obtain ⟨b9, h⟩ := of_ite h
    refine g_iast hC dX4_comes_18 (isA_spec (rf_4_0 h0)) b9 ?_
    refine g_aload_n hC dX4_comes_19 0 rfl rfl ?_
    refine g_dup hC dX4_comes_20 rfl ?_
    refine g_geti hC dX4_comes_21 lfRX4_25 (isO_spec h0) (ft_4_5 h0) ?_
    refine g_iconst hC dX4_comes_24 ok_1 ?_
    refine g_iadd hC dX4_comes_25 ?_
    refine g_puti hC dX4_comes_26 lfRX4_25 fp_4_5 (isO_spec h0) (ft_4_5 h0) ?_
    refine g_aload_n hC dX4_comes_29 0 rfl rfl ?_
    refine g_geti hC dX4_comes_30 lfRX4_25 (isO_spec h0) (ft_4_5 h0) ?_
    exact ret_i h hR dX4_comes_33
theorem tX4_comes {l : Launch} {g : GT} {c0 : Nat} {x1 : Int} {σ σ' : St} {r : Int} (h0 : isO 4 c0 = true) (h : fX4_comes c0 x1 σ = some (r, σ')) : Cn l g yX4_comes cX4_comes 2 (some .int) 0 0 0 [vr c0, vi x1] (SH0, σ) (some (vi r)) (SH0, σ') :=
  Cn.ofI (by decide) (Nat.le_of_ble_eq_true rfl) (fun K e hC hR => (bX4_comes_0 hC ⟨Nat.le_refl _, Nat.le_refl _⟩ h0 hR _ h))
theorem dX4_isTapeFull_0 : decode cX4_isTapeFull 0 = .ok (.aload_n 0, 1) := by decide +kernel
theorem dX4_isTapeFull_1 : decode cX4_isTapeFull 1 = .ok (.getfield 25, 3) := by decide +kernel
theorem dX4_isTapeFull_4 : decode cX4_isTapeFull 4 = .ok (.bipush 120, 2) := by decide +kernel
theorem dX4_isTapeFull_6 : decode cX4_isTapeFull 6 = .ok (.if_icmp .lt 7, 3) := by decide +kernel
theorem dX4_isTapeFull_9 : decode cX4_isTapeFull 9 = .ok (.iconst 1, 1) := by decide +kernel
theorem dX4_isTapeFull_10 : decode cX4_isTapeFull 10 = .ok (.goto 4, 3) := by decide +kernel
theorem dX4_isTapeFull_13 : decode cX4_isTapeFull 13 = .ok (.iconst 0, 1) := by decide +kernel
theorem dX4_isTapeFull_14 : decode cX4_isTapeFull 14 = .ok (.ireturn, 1) := by decide +kernel
theorem bX4_isTapeFull_0 {K : KT} {g : GT} {cm sm : Nat} {cs : Nat × Nat} {c0 : Nat} {r : Int} {σ' : St} (hC : Ctx K g RX4 cX4_isTapeFull 1 0 cm sm) (hcs : cs.1 ≤ cm ∧ cs.2 ≤ sm) (h0 : isO 4 c0 = true) (hR : RetZ K g cX4_isTapeFull 1 cs r (SH0, σ')) : ∀ (σ : St), fX4_isTapeFull c0 σ = some (r, σ') → G K g 1 cs 0 [(0, vr c0)] [] (SH0, σ) := by
  intro σ h
  unfold fX4_isTapeFull at h
  refine g_aload_n hC dX4_isTapeFull_0 0 rfl rfl ?_
  refine g_geti hC dX4_isTapeFull_1 lfRX4_25 (isO_spec h0) (ft_4_5 h0) ?_
  refine g_bipush hC dX4_isTapeFull_4 bp_120 ?_
  refine g_icmp_lt hC dX4_isTapeFull_6 (tgt := 13) (by decide) (fun h9 => ?_) (fun h9 => ?_)
  · rw [if_pos h9] at h
    refine g_iconst hC dX4_isTapeFull_13 ok_0 ?_
    exact ret_z h hR (by decide) dX4_isTapeFull_14
  · rw [if_neg h9] at h
    refine g_iconst hC dX4_isTapeFull_9 ok_1 ?_
    refine g_goto hC dX4_isTapeFull_10 (tgt := 14) (by decide) ?_
    exact ret_z h hR (by decide) dX4_isTapeFull_14
theorem tX4_isTapeFull {l : Launch} {g : GT} {c0 : Nat} {σ σ' : St} {r : Int} (h0 : isO 4 c0 = true) (h : fX4_isTapeFull c0 σ = some (r, σ')) : Cn l g yX4_isTapeFull cX4_isTapeFull 1 (some .boolean) 0 0 0 [vr c0] (SH0, σ) (some (vi r)) (SH0, σ') :=
  Cn.ofZ (by decide) (Nat.le_of_ble_eq_true rfl) (fun K e hC hR => (bX4_isTapeFull_0 hC ⟨Nat.le_refl _, Nat.le_refl _⟩ h0 hR _ h))
theorem dX9_feed_0 : decode cX9_feed 0 = .ok (.iload_n 1, 1) := by decide +kernel
theorem dX9_feed_1 : decode cX9_feed 1 = .ok (.ifCond .lt 10, 3) := by decide +kernel
theorem dX9_feed_4 : decode cX9_feed 4 = .ok (.iload_n 1, 1) := by decide +kernel
theorem dX9_feed_5 : decode cX9_feed 5 = .ok (.sipush 255, 3) := by decide +kernel
theorem dX9_feed_8 : decode cX9_feed 8 = .ok (.if_icmp .le 5, 3) := by decide +kernel
theorem dX9_feed_11 : decode cX9_feed 11 = .ok (.iconst (-1), 1) := by decide +kernel
theorem dX9_feed_12 : decode cX9_feed 12 = .ok (.ireturn, 1) := by decide +kernel
theorem dX9_feed_13 : decode cX9_feed 13 = .ok (.aload_n 0, 1) := by decide +kernel
theorem dX9_feed_14 : decode cX9_feed 14 = .ok (.getfield 19, 3) := by decide +kernel
theorem dX9_feed_17 : decode cX9_feed 17 = .ok (.invokevirtual 134, 3) := by decide +kernel
theorem dX9_feed_20 : decode cX9_feed 20 = .ok (.ifCond .eq 8, 3) := by decide +kernel
theorem dX9_feed_23 : decode cX9_feed 23 = .ok (.bipush (-3), 2) := by decide +kernel
theorem dX9_feed_25 : decode cX9_feed 25 = .ok (.goto 11, 3) := by decide +kernel
theorem dX9_feed_28 : decode cX9_feed 28 = .ok (.aload_n 0, 1) := by decide +kernel
theorem dX9_feed_29 : decode cX9_feed 29 = .ok (.getfield 19, 3) := by decide +kernel
theorem dX9_feed_32 : decode cX9_feed 32 = .ok (.iload_n 1, 1) := by decide +kernel
theorem dX9_feed_33 : decode cX9_feed 33 = .ok (.invokevirtual 137, 3) := by decide +kernel
theorem dX9_feed_36 : decode cX9_feed 36 = .ok (.ireturn, 1) := by decide +kernel
theorem bX9_feed_0 {K : KT} {g : GT} {cm sm : Nat} {cs : Nat × Nat} {c0 : Nat} {x1 : Int} {r : Int} {σ' : St} (hC : Ctx K g RX9 cX9_feed 2 1 cm sm) (hcs : cs.1 ≤ cm ∧ cs.2 ≤ sm) (h0 : isO 9 c0 = true) (hR : RetI K g cX9_feed 2 cs r (SH0, σ')) : ∀ (σ : St), fX9_feed c0 x1 σ = some (r, σ') → G K g 2 cs 0 [(0, vr c0), (1, vi x1)] [] (SH0, σ) := by
  intro σ h
  unfold fX9_feed at h
  refine g_iload_n hC dX9_feed_0 1 rfl rfl ?_
  refine g_if_lt hC dX9_feed_1 (tgt := 11) (by decide) (fun h9 => ?_) (fun h9 => ?_)
  · rw [if_pos h9] at h
    refine g_iconst hC dX9_feed_11 ok_m1 ?_
    exact ret_i h hR dX9_feed_12
  · rw [if_neg h9] at h
    refine g_iload_n hC dX9_feed_4 1 rfl rfl ?_
    refine g_sipush hC dX9_feed_5 sp_255 ?_
    refine g_icmp_le hC dX9_feed_8 (tgt := 13) (by decide) (fun h9 => ?_) (fun h9 => ?_)
    · rw [if_pos h9] at h
      refine g_aload_n hC dX9_feed_13 0 rfl rfl ?_
      refine g_getr hC dX9_feed_14 lfRX9_19 (isO_spec h0) (ft_9_1 h0) ?_
      obtain ⟨⟨r1, s1⟩, e1, h⟩ := of_bind h
      try dsimp only at h
      refine s_callVi hC dX9_feed_17 (tX4_isTapeFull (rf_9_1 h0) e1) miX4_isTapeFull mvX4_isTapeFull mlRX9_134 (isO_spec (rf_9_1 h0)) vc_4 rfl rfl (Nat.le_of_ble_eq_true rfl) (Nat.le_of_ble_eq_true rfl) (Nat.le_of_ble_eq_true rfl) hcs ?_
      refine g_if_eq hC dX9_feed_20 (tgt := 28) (by decide) (fun h9 => ?_) (fun h9 => ?_)
      · rw [if_pos h9] at h
        refine g_aload_n hC dX9_feed_28 0 rfl rfl ?_
        refine g_getr hC dX9_feed_29 lfRX9_19 (isO_spec h0) (ft_9_1 h0) ?_
        refine g_iload_n hC dX9_feed_32 1 rfl rfl ?_
        obtain ⟨⟨r2, s2⟩, e2, h⟩ := of_bind h
        try dsimp only at h
        refine s_callVi hC dX9_feed_33 (tX4_comes (rf_9_1 h0) e2) miX4_comes mvX4_comes mlRX9_137 (isO_spec (rf_9_1 h0)) vc_4 rfl rfl (Nat.le_of_ble_eq_true rfl) (Nat.le_of_ble_eq_true rfl) (Nat.le_of_ble_eq_true rfl) hcs ?_
        exact ret_i h hR dX9_feed_36
      · rw [if_neg h9] at h
        refine g_bipush hC dX9_feed_23 bp_m3 ?_
        refine g_goto hC dX9_feed_25 (tgt := 36) (by decide) ?_
        exact ret_i h hR dX9_feed_36
    · rw [if_neg h9] at h
      refine g_iconst hC dX9_feed_11 ok_m1 ?_
      exact ret_i h hR dX9_feed_12
theorem tX9_feed {l : Launch} {g : GT} {c0 : Nat} {x1 : Int} {σ σ' : St} {r : Int} (h0 : isO 9 c0 = true) (h : fX9_feed c0 x1 σ = some (r, σ')) : Cn l g yX9_feed cX9_feed 2 (some .int) 1 0 0 [vr c0, vi x1] (SH0, σ) (some (vi r)) (SH0, σ') :=
  Cn.ofI (by decide) (Nat.le_of_ble_eq_true rfl) (fun K e hC hR => (bX9_feed_0 hC ⟨Nat.le_refl _, Nat.le_refl _⟩ h0 hR _ h))
theorem dX9_feign_0 : decode cX9_feign 0 = .ok (.aload_n 0, 1) := by decide +kernel
theorem dX9_feign_1 : decode cX9_feign 1 = .ok (.iload_n 1, 1) := by decide +kernel
theorem dX9_feign_2 : decode cX9_feign 2 = .ok (.invokevirtual 144, 3) := by decide +kernel
theorem dX9_feign_5 : decode cX9_feign 5 = .ok (.ifCond .ne 5, 3) := by decide +kernel
theorem dX9_feign_8 : decode cX9_feign 8 = .ok (.iconst (-1), 1) := by decide +kernel
theorem dX9_feign_9 : decode cX9_feign 9 = .ok (.ireturn, 1) := by decide +kernel
theorem dX9_feign_10 : decode cX9_feign 10 = .ok (.aload_n 0, 1) := by decide +kernel
theorem dX9_feign_11 : decode cX9_feign 11 = .ok (.getfield 28, 3) := by decide +kernel
theorem dX9_feign_14 : decode cX9_feign 14 = .ok (.aload_n 0, 1) := by decide +kernel
theorem dX9_feign_15 : decode cX9_feign 15 = .ok (.getfield 10, 3) := by decide +kernel
theorem dX9_feign_18 : decode cX9_feign 18 = .ok (.invokevirtual 147, 3) := by decide +kernel
theorem dX9_feign_21 : decode cX9_feign 21 = .ok (.aload_n 0, 1) := by decide +kernel
theorem dX9_feign_22 : decode cX9_feign 22 = .ok (.getfield 28, 3) := by decide +kernel
theorem dX9_feign_25 : decode cX9_feign 25 = .ok (.iload_n 1, 1) := by decide +kernel
theorem dX9_feign_26 : decode cX9_feign 26 = .ok (.bipush 10, 2) := by decide +kernel
theorem dX9_feign_28 : decode cX9_feign 28 = .ok (.irem, 1) := by decide +kernel
theorem dX9_feign_29 : decode cX9_feign 29 = .ok (.invokevirtual 151, 3) := by decide +kernel
theorem dX9_feign_32 : decode cX9_feign 32 = .ok (.iload_n 1, 1) := by decide +kernel
theorem dX9_feign_33 : decode cX9_feign 33 = .ok (.bipush 10, 2) := by decide +kernel
theorem dX9_feign_35 : decode cX9_feign 35 = .ok (.idiv, 1) := by decide +kernel
theorem dX9_feign_36 : decode cX9_feign 36 = .ok (.istore_n 2, 1) := by decide +kernel
theorem dX9_feign_37 : decode cX9_feign 37 = .ok (.iconst 0, 1) := by decide +kernel
theorem dX9_feign_38 : decode cX9_feign 38 = .ok (.istore_n 3, 1) := by decide +kernel
theorem dX9_feign_39 : decode cX9_feign 39 = .ok (.iload_n 3, 1) := by decide +kernel
theorem dX9_feign_40 : decode cX9_feign 40 = .ok (.getstatic 206, 3) := by decide +kernel
theorem dX9_feign_43 : decode cX9_feign 43 = .ok (.bipush 7, 2) := by decide +kernel
theorem dX9_feign_45 : decode cX9_feign 45 = .ok (.iaload, 1) := by decide +kernel
theorem dX9_feign_46 : decode cX9_feign 46 = .ok (.if_icmp .gt 36, 3) := by decide +kernel
theorem dX9_feign_49 : decode cX9_feign 49 = .ok (.aload_n 0, 1) := by decide +kernel
theorem dX9_feign_50 : decode cX9_feign 50 = .ok (.getfield 28, 3) := by decide +kernel
theorem dX9_feign_53 : decode cX9_feign 53 = .ok (.getfield 209, 3) := by decide +kernel
theorem dX9_feign_56 : decode cX9_feign 56 = .ok (.iload_n 2, 1) := by decide +kernel
theorem dX9_feign_57 : decode cX9_feign 57 = .ok (.bipush 7, 2) := by decide +kernel
theorem dX9_feign_59 : decode cX9_feign 59 = .ok (.iload_n 3, 1) := by decide +kernel
theorem dX9_feign_60 : decode cX9_feign 60 = .ok (.invokevirtual 126, 3) := by decide +kernel
theorem dX9_feign_63 : decode cX9_feign 63 = .ok (.aload_n 0, 1) := by decide +kernel
theorem dX9_feign_64 : decode cX9_feign 64 = .ok (.getfield 28, 3) := by decide +kernel
theorem dX9_feign_67 : decode cX9_feign 67 = .ok (.invokevirtual 164, 3) := by decide +kernel
theorem dX9_feign_70 : decode cX9_feign 70 = .ok (.iload_n 2, 1) := by decide +kernel
theorem dX9_feign_71 : decode cX9_feign 71 = .ok (.if_icmp .ne 5, 3) := by decide +kernel
theorem dX9_feign_74 : decode cX9_feign 74 = .ok (.iload_n 3, 1) := by decide +kernel
theorem dX9_feign_75 : decode cX9_feign 75 = .ok (.ireturn, 1) := by decide +kernel
theorem dX9_feign_76 : decode cX9_feign 76 = .ok (.iinc 3 1, 3) := by decide +kernel
theorem dX9_feign_79 : decode cX9_feign 79 = .ok (.goto (-40), 3) := by decide +kernel
theorem dX9_feign_82 : decode cX9_feign 82 = .ok (.bipush (-2), 2) := by decide +kernel
theorem dX9_feign_84 : decode cX9_feign 84 = .ok (.ireturn, 1) := by decide +kernel
theorem bX9_feign_39 {K : KT} {g : GT} {cm sm : Nat} {cs : Nat × Nat} {c0 : Nat} {x1 : Int} {r : Int} {σ' : St} (hC : Ctx K g RX9 cX9_feign 4 4 cm sm) (hcs : cs.1 ≤ cm ∧ cs.2 ≤ sm) (h0 : isO 9 c0 = true) (hR : RetI K g cX9_feign 4 cs r (SH0, σ')) : ∀ (n : Nat) (x2 : Int) (x3 : Int) (σ : St), fX9_feign_39 c0 x1 n x2 x3 σ = some (r, σ') → G K g 4 cs 39 [(0, vr c0), (1, vi x1), (2, vi x2), (3, vi x3)] [] (SH0, σ) := by
  intro n
  induction n with
  | zero =>
    intro x2 x3 σ h
    rw [fX9_feign_39.eq_1] at h
    cases h
  | succ n ih =>
    intro x2 x3 σ h
    rw [fX9_feign_39.eq_2] at h
    refine g_iload_n hC dX9_feign_39 3 rfl rfl ?_
    refine g_gets (k := 0) hC dX9_feign_40 rfl gsRX9_206 ?_
    refine g_bipush hC dX9_feign_43 bp_7 ?_
    obtain ⟨b9, h⟩ := of_ite h
    refine g_oald (x := 0) hC dX9_feign_45 (xs := stv0) rfl b9 (stv0_ok _) ?_
    refine g_icmp_gt hC dX9_feign_46 (tgt := 82) (by decide) (fun h9 => ?_) (fun h9 => ?_)
    · rw [if_pos h9] at h
      refine g_bipush hC dX9_feign_82 bp_m2 ?_
      exact ret_i h hR dX9_feign_84
    · rw [if_neg h9] at h
      refine g_aload_n hC dX9_feign_49 0 rfl rfl ?_
      refine g_getr hC dX9_feign_50 lfRX9_28 (isO_spec h0) (ft_9_2 h0) ?_
      refine g_getr hC dX9_feign_53 lfRX9_209 (isO_spec (rf_9_2 h0)) (ft_7_0 (rf_9_2 h0)) ?_
      refine g_iload_n hC dX9_feign_56 2 rfl rfl ?_
      refine g_bipush hC dX9_feign_57 bp_7 ?_
      refine g_iload_n hC dX9_feign_59 3 rfl rfl ?_
      obtain ⟨s1, e1, h⟩ := of_bind h
      try dsimp only at h
      refine s_callVv hC dX9_feign_60 (tX2_become (rf_7_0 (rf_9_2 h0)) e1) miX2_become mvX2_become mlRX9_126 (isO_spec (rf_7_0 (rf_9_2 h0))) vc_2 rfl rfl (Nat.le_of_ble_eq_true rfl) (Nat.le_of_ble_eq_true rfl) (Nat.le_of_ble_eq_true rfl) hcs ?_
      refine g_aload_n hC dX9_feign_63 0 rfl rfl ?_
      refine g_getr hC dX9_feign_64 lfRX9_28 (isO_spec h0) (ft_9_2 h0) ?_
      obtain ⟨⟨r2, s2⟩, e2, h⟩ := of_bind h
      try dsimp only at h
      refine s_callVi hC dX9_feign_67 (tX7_winner (rf_9_2 h0) e2) miX7_winner mvX7_winner mlRX9_164 (isO_spec (rf_9_2 h0)) vc_7 rfl rfl (Nat.le_of_ble_eq_true rfl) (Nat.le_of_ble_eq_true rfl) (Nat.le_of_ble_eq_true rfl) hcs ?_
      refine g_iload_n hC dX9_feign_70 2 rfl rfl ?_
      refine g_icmp_ne hC dX9_feign_71 (tgt := 76) (by decide) (fun h9 => ?_) (fun h9 => ?_)
      · rw [if_neg h9] at h
        refine g_iinc hC dX9_feign_76 3 rfl (Nat.le_of_ble_eq_true rfl) rfl ?_
        refine g_goto hC dX9_feign_79 (tgt := 39) (by decide) ?_
        exact g_pick [1, 2, 3, 0] rfl (ih _ _ _ h)
      · rw [if_pos h9] at h
        refine g_iload_n hC dX9_feign_74 3 rfl rfl ?_
        exact ret_i h hR dX9_feign_75
theorem bX9_feign_0 {K : KT} {g : GT} {cm sm : Nat} {cs : Nat × Nat} {c0 : Nat} {x1 : Int} {r : Int} {σ' : St} (hC : Ctx K g RX9 cX9_feign 4 4 cm sm) (hcs : cs.1 ≤ cm ∧ cs.2 ≤ sm) (h0 : isO 9 c0 = true) (hR : RetI K g cX9_feign 4 cs r (SH0, σ')) : ∀ (σ : St), fX9_feign c0 x1 σ = some (r, σ') → G K g 4 cs 0 [(0, vr c0), (1, vi x1)] [] (SH0, σ) := by
  intro σ h
  unfold fX9_feign at h
  refine g_aload_n hC dX9_feign_0 0 rfl rfl ?_
  refine g_iload_n hC dX9_feign_1 1 rfl rfl ?_
  obtain ⟨⟨r1, s1⟩, e1, h⟩ := of_bind h
  try dsimp only at h
  refine s_callVi hC dX9_feign_2 (tX9_isPair h0 e1) miX9_isPair mvX9_isPair mlRX9_144 (isO_spec h0) vc_9 rfl rfl (Nat.le_of_ble_eq_true rfl) (Nat.le_of_ble_eq_true rfl) (Nat.le_of_ble_eq_true rfl) hcs ?_
  refine g_if_ne hC dX9_feign_5 (tgt := 10) (by decide) (fun h9 => ?_) (fun h9 => ?_)
  · rw [if_neg h9] at h
    refine g_aload_n hC dX9_feign_10 0 rfl rfl ?_
    refine g_getr hC dX9_feign_11 lfRX9_28 (isO_spec h0) (ft_9_2 h0) ?_
    refine g_aload_n hC dX9_feign_14 0 rfl rfl ?_
    refine g_getr hC dX9_feign_15 lfRX9_10 (isO_spec h0) (ft_9_0 h0) ?_
    obtain ⟨s2, e2, h⟩ := of_bind h
    try dsimp only at h
    refine s_callVv hC dX9_feign_18 (tX7_begin (rf_9_2 h0) (rf_9_0 h0) e2) miX7_begin mvX7_begin mlRX9_147 (isO_spec (rf_9_2 h0)) vc_7 rfl rfl (Nat.le_of_ble_eq_true rfl) (Nat.le_of_ble_eq_true rfl) (Nat.le_of_ble_eq_true rfl) hcs ?_
    refine g_aload_n hC dX9_feign_21 0 rfl rfl ?_
    refine g_getr hC dX9_feign_22 lfRX9_28 (isO_spec h0) (ft_9_2 h0) ?_
    refine g_iload_n hC dX9_feign_25 1 rfl rfl ?_
    refine g_bipush hC dX9_feign_26 bp_10 ?_
    refine g_irem hC dX9_feign_28 (by decide) ?_
    obtain ⟨s3, e3, h⟩ := of_bind h
    try dsimp only at h
    refine s_callVv hC dX9_feign_29 (tX7_considers (rf_9_2 h0) e3) miX7_considers mvX7_considers mlRX9_151 (isO_spec (rf_9_2 h0)) vc_7 rfl rfl (Nat.le_of_ble_eq_true rfl) (Nat.le_of_ble_eq_true rfl) (Nat.le_of_ble_eq_true rfl) hcs ?_
    refine g_iload_n hC dX9_feign_32 1 rfl rfl ?_
    refine g_bipush hC dX9_feign_33 bp_10 ?_
    refine g_idiv hC dX9_feign_35 (by decide) ?_
    refine g_istore_n hC dX9_feign_36 rfl (Nat.le_of_ble_eq_true rfl) rfl ?_
    refine g_iconst hC dX9_feign_37 ok_0 ?_
    refine g_istore_n hC dX9_feign_38 rfl (Nat.le_of_ble_eq_true rfl) rfl ?_
    exact g_pick [2, 3, 1, 0] rfl (bX9_feign_39 hC hcs h0 hR _ _ _ _ h)
  · rw [if_pos h9] at h
    refine g_iconst hC dX9_feign_8 ok_m1 ?_
    exact ret_i h hR dX9_feign_9
theorem tX9_feign {l : Launch} {g : GT} {c0 : Nat} {x1 : Int} {σ σ' : St} {r : Int} (h0 : isO 9 c0 = true) (h : fX9_feign c0 x1 σ = some (r, σ')) : Cn l g yX9_feign cX9_feign 4 (some .int) 4 0 0 [vr c0, vi x1] (SH0, σ) (some (vi r)) (SH0, σ') :=
  Cn.ofI (by decide) (Nat.le_of_ble_eq_true rfl) (fun K e hC hR => (bX9_feign_0 hC ⟨Nat.le_refl _, Nat.le_refl _⟩ h0 hR _ h))
theorem dX7_firstWrong_0 : decode cX7_firstWrong 0 = .ok (.aload_n 0, 1) := by decide +kernel
theorem dX7_firstWrong_1 : decode cX7_firstWrong 1 = .ok (.aload_n 0, 1) := by decide +kernel
theorem dX7_firstWrong_2 : decode cX7_firstWrong 2 = .ok (.aload_n 1, 1) := by decide +kernel
theorem dX7_firstWrong_3 : decode cX7_firstWrong 3 = .ok (.invokevirtual 112, 3) := by decide +kernel
theorem dX7_firstWrong_6 : decode cX7_firstWrong 6 = .ok (.putfield 116, 3) := by decide +kernel
theorem dX7_firstWrong_9 : decode cX7_firstWrong 9 = .ok (.iconst 0, 1) := by decide +kernel
theorem dX7_firstWrong_10 : decode cX7_firstWrong 10 = .ok (.istore_n 3, 1) := by decide +kernel
theorem dX7_firstWrong_11 : decode cX7_firstWrong 11 = .ok (.iload_n 3, 1) := by decide +kernel
theorem dX7_firstWrong_12 : decode cX7_firstWrong 12 = .ok (.aload_n 2, 1) := by decide +kernel
theorem dX7_firstWrong_13 : decode cX7_firstWrong 13 = .ok (.getfield 129, 3) := by decide +kernel
theorem dX7_firstWrong_16 : decode cX7_firstWrong 16 = .ok (.if_icmp .ge 57, 3) := by decide +kernel
theorem dX7_firstWrong_19 : decode cX7_firstWrong 19 = .ok (.iload_n 3, 1) := by decide +kernel
theorem dX7_firstWrong_20 : decode cX7_firstWrong 20 = .ok (.aload_n 0, 1) := by decide +kernel
theorem dX7_firstWrong_21 : decode cX7_firstWrong 21 = .ok (.getfield 116, 3) := by decide +kernel
theorem dX7_firstWrong_24 : decode cX7_firstWrong 24 = .ok (.if_icmp .lt 5, 3) := by decide +kernel
theorem dX7_firstWrong_27 : decode cX7_firstWrong 27 = .ok (.iload_n 3, 1) := by decide +kernel
theorem dX7_firstWrong_28 : decode cX7_firstWrong 28 = .ok (.ireturn, 1) := by decide +kernel
theorem dX7_firstWrong_29 : decode cX7_firstWrong 29 = .ok (.aload_n 0, 1) := by decide +kernel
theorem dX7_firstWrong_30 : decode cX7_firstWrong 30 = .ok (.aload_n 1, 1) := by decide +kernel
theorem dX7_firstWrong_31 : decode cX7_firstWrong 31 = .ok (.iload_n 3, 1) := by decide +kernel
theorem dX7_firstWrong_32 : decode cX7_firstWrong 32 = .ok (.invokevirtual 119, 3) := by decide +kernel
theorem dX7_firstWrong_35 : decode cX7_firstWrong 35 = .ok (.l2i, 1) := by decide +kernel
theorem dX7_firstWrong_36 : decode cX7_firstWrong 36 = .ok (.invokevirtual 125, 3) := by decide +kernel
theorem dX7_firstWrong_39 : decode cX7_firstWrong 39 = .ok (.istore 4, 2) := by decide +kernel
theorem dX7_firstWrong_41 : decode cX7_firstWrong 41 = .ok (.aload_n 2, 1) := by decide +kernel
theorem dX7_firstWrong_42 : decode cX7_firstWrong 42 = .ok (.iload_n 3, 1) := by decide +kernel
theorem dX7_firstWrong_43 : decode cX7_firstWrong 43 = .ok (.invokevirtual 119, 3) := by decide +kernel
theorem dX7_firstWrong_46 : decode cX7_firstWrong 46 = .ok (.ldc2_w 135, 3) := by decide +kernel
theorem dX7_firstWrong_49 : decode cX7_firstWrong 49 = .ok (.lcmp, 1) := by decide +kernel
theorem dX7_firstWrong_50 : decode cX7_firstWrong 50 = .ok (.ifCond .eq 17, 3) := by decide +kernel
theorem dX7_firstWrong_53 : decode cX7_firstWrong 53 = .ok (.aload_n 2, 1) := by decide +kernel
theorem dX7_firstWrong_54 : decode cX7_firstWrong 54 = .ok (.iload_n 3, 1) := by decide +kernel
theorem dX7_firstWrong_55 : decode cX7_firstWrong 55 = .ok (.invokevirtual 119, 3) := by decide +kernel
theorem dX7_firstWrong_58 : decode cX7_firstWrong 58 = .ok (.iload 4, 2) := by decide +kernel
theorem dX7_firstWrong_60 : decode cX7_firstWrong 60 = .ok (.i2l, 1) := by decide +kernel
theorem dX7_firstWrong_61 : decode cX7_firstWrong 61 = .ok (.lcmp, 1) := by decide +kernel
theorem dX7_firstWrong_62 : decode cX7_firstWrong 62 = .ok (.ifCond .eq 5, 3) := by decide +kernel
theorem dX7_firstWrong_65 : decode cX7_firstWrong 65 = .ok (.iload_n 3, 1) := by decide +kernel
theorem dX7_firstWrong_66 : decode cX7_firstWrong 66 = .ok (.ireturn, 1) := by decide +kernel
theorem dX7_firstWrong_67 : decode cX7_firstWrong 67 = .ok (.iinc 3 1, 3) := by decide +kernel
theorem dX7_firstWrong_70 : decode cX7_firstWrong 70 = .ok (.goto (-59), 3) := by decide +kernel
theorem dX7_firstWrong_73 : decode cX7_firstWrong 73 = .ok (.bipush (-2), 2) := by decide +kernel
theorem dX7_firstWrong_75 : decode cX7_firstWrong 75 = .ok (.ireturn, 1) := by decide +kernel
theorem bX7_firstWrong_67 {K : KT} {g : GT} {cm sm : Nat} {cs : Nat × Nat} {c0 : Nat} {c1 : Nat} {c2 : Nat} {k11 : Int → St → Option (Int × St)} {r : Int} {σ' : St} (hC : Ctx K g RX7 cX7_firstWrong 5 5 cm sm) (hcs : cs.1 ≤ cm ∧ cs.2 ≤ sm) (h0 : isO 7 c0 = true) (h1 : isO 6 c1 = true) (h2 : isO 6 c2 = true) (hk11 : ∀ (x3 : Int) (σ : St), k11 x3 σ = some (r, σ') → G K g 5 cs 11 [(0, vr c0), (1, vr c1), (2, vr c2), (3, vi x3)] [] (SH0, σ)) (hR : RetI K g cX7_firstWrong 5 cs r (SH0, σ')) : ∀ (x3 : Int) (σ : St), fX7_firstWrong_67 c0 c1 c2 k11 x3 σ = some (r, σ') → G K g 5 cs 67 [(0, vr c0), (1, vr c1), (2, vr c2), (3, vi x3)] [] (SH0, σ) := by
  intro x3 σ h
  unfold fX7_firstWrong_67 at h
  refine g_iinc hC dX7_firstWrong_67 3 rfl (Nat.le_of_ble_eq_true rfl) rfl ?_
  refine g_goto hC dX7_firstWrong_70 (tgt := 11) (by decide) ?_
  exact g_pick [1, 2, 3, 0] rfl (hk11 _ _ h)
theorem bX7_firstWrong_11 {K : KT} {g : GT} {cm sm : Nat} {cs : Nat × Nat} {c0 : Nat} {c1 : Nat} {c2 : Nat} {r : Int} {σ' : St} (hC : Ctx K g RX7 cX7_firstWrong 5 5 cm sm) (hcs : cs.1 ≤ cm ∧ cs.2 ≤ sm) (h0 : isO 7 c0 = true) (h1 : isO 6 c1 = true) (h2 : isO 6 c2 = true) (hR : RetI K g cX7_firstWrong 5 cs r (SH0, σ')) : ∀ (n : Nat) (x3 : Int) (σ : St), fX7_firstWrong_11 c0 c1 c2 n x3 σ = some (r, σ') → G K g 5 cs 11 [(0, vr c0), (1, vr c1), (2, vr c2), (3, vi x3)] [] (SH0, σ) := by
  intro n
  induction n with
  | zero =>
    intro x3 σ h
    rw [fX7_firstWrong_11.eq_1] at h
    cases h
  | succ n ih =>
    intro x3 σ h
    rw [fX7_firstWrong_11.eq_2] at h
    refine g_iload_n hC dX7_firstWrong_11 3 rfl rfl ?_
    refine g_aload_n hC dX7_firstWrong_12 2 rfl rfl ?_
    refine g_geti hC dX7_firstWrong_13 lfRX7_129 (isO_spec h2) (ft_6_4 h2) ?_
    refine g_icmp_ge hC dX7_firstWrong_16 (tgt := 73) (by decide) (fun h9 => ?_) (fun h9 => ?_)
    · rw [if_pos h9] at h
      refine g_bipush hC dX7_firstWrong_73 bp_m2 ?_
      exact ret_i h hR dX7_firstWrong_75
    · rw [if_neg h9] at h
      refine g_iload_n hC dX7_firstWrong_19 3 rfl rfl ?_
      refine g_aload_n hC dX7_firstWrong_20 0 rfl rfl ?_
      refine g_geti hC dX7_firstWrong_21 lfRX7_116 (isO_spec h0) (ft_7_7 h0) ?_
      refine g_icmp_lt hC dX7_firstWrong_24 (tgt := 29) (by decide) (fun h9 => ?_) (fun h9 => ?_)
      · rw [if_pos h9] at h
        refine g_aload_n hC dX7_firstWrong_29 0 rfl rfl ?_
        refine g_aload_n hC dX7_firstWrong_30 1 rfl rfl ?_
        refine g_iload_n hC dX7_firstWrong_31 3 rfl rfl ?_
        obtain ⟨⟨r1, s1⟩, e1, h⟩ := of_bind h
        try dsimp only at h
        refine s_callVl hC dX7_firstWrong_32 (tX6_at h1 e1) miX6_at mvX6_at mlRX7_119 (isO_spec h1) vc_6 rfl rfl (Nat.le_of_ble_eq_true rfl) (Nat.le_of_ble_eq_true rfl) (Nat.le_of_ble_eq_true rfl) hcs ?_
        refine g_l2i hC dX7_firstWrong_35 ?_
        obtain ⟨⟨r2, s2⟩, e2, h⟩ := of_bind h
        try dsimp only at h
        refine s_callVi hC dX7_firstWrong_36 (tX7_sellsOne h0 e2) miX7_sellsOne mvX7_sellsOne mlRX7_125 (isO_spec h0) vc_7 rfl rfl (Nat.le_of_ble_eq_true rfl) (Nat.le_of_ble_eq_true rfl) (Nat.le_of_ble_eq_true rfl) hcs ?_
        refine g_istore hC dX7_firstWrong_39 (Nat.le_of_ble_eq_true rfl) rfl ?_
        refine g_aload_n hC dX7_firstWrong_41 3 rfl rfl ?_
        refine g_iload_n hC dX7_firstWrong_42 4 rfl rfl ?_
        obtain ⟨⟨r3, s3⟩, e3, h⟩ := of_bind h
        try dsimp only at h
        refine s_callVl hC dX7_firstWrong_43 (tX6_at h2 e3) miX6_at mvX6_at mlRX7_119 (isO_spec h2) vc_6 rfl rfl (Nat.le_of_ble_eq_true rfl) (Nat.le_of_ble_eq_true rfl) (Nat.le_of_ble_eq_true rfl) hcs ?_
        refine g_ldc2 hC dX7_firstWrong_46 kRX7_135 ?_
        refine g_lcmp hC dX7_firstWrong_49 ?_
        refine g_if_eq hC dX7_firstWrong_50 (tgt := 67) (by decide) (fun h9 => ?_) (fun h9 => ?_)
        · rw [if_pos h9] at h
          exact g_pick [1, 2, 3, 4] rfl (bX7_firstWrong_67 hC hcs h0 h1 h2 ih hR _ _ h)
        · rw [if_neg h9] at h
          refine g_aload_n hC dX7_firstWrong_53 3 rfl rfl ?_
          refine g_iload_n hC dX7_firstWrong_54 4 rfl rfl ?_
          obtain ⟨⟨r4, s4⟩, e4, h⟩ := of_bind h
          try dsimp only at h
          refine s_callVl hC dX7_firstWrong_55 (tX6_at h2 e4) miX6_at mvX6_at mlRX7_119 (isO_spec h2) vc_6 rfl rfl (Nat.le_of_ble_eq_true rfl) (Nat.le_of_ble_eq_true rfl) (Nat.le_of_ble_eq_true rfl) hcs ?_
          refine g_iload hC dX7_firstWrong_58 0 rfl ?_
          refine g_i2l hC dX7_firstWrong_60 ?_
          refine g_lcmp hC dX7_firstWrong_61 ?_
          refine g_if_eq hC dX7_firstWrong_62 (tgt := 67) (by decide) (fun h9 => ?_) (fun h9 => ?_)
          · rw [if_pos h9] at h
            exact g_pick [1, 2, 3, 4] rfl (bX7_firstWrong_67 hC hcs h0 h1 h2 ih hR _ _ h)
          · rw [if_neg h9] at h
            refine g_iload_n hC dX7_firstWrong_65 4 rfl rfl ?_
            exact ret_i h hR dX7_firstWrong_66
      · rw [if_neg h9] at h
        refine g_iload_n hC dX7_firstWrong_27 3 rfl rfl ?_
        exact ret_i h hR dX7_firstWrong_28
theorem bX7_firstWrong_0 {K : KT} {g : GT} {cm sm : Nat} {cs : Nat × Nat} {c0 : Nat} {c1 : Nat} {c2 : Nat} {r : Int} {σ' : St} (hC : Ctx K g RX7 cX7_firstWrong 5 5 cm sm) (hcs : cs.1 ≤ cm ∧ cs.2 ≤ sm) (h0 : isO 7 c0 = true) (h1 : isO 6 c1 = true) (h2 : isO 6 c2 = true) (hR : RetI K g cX7_firstWrong 5 cs r (SH0, σ')) : ∀ (σ : St), fX7_firstWrong c0 c1 c2 σ = some (r, σ') → G K g 5 cs 0 [(0, vr c0), (1, vr c1), (2, vr c2)] [] (SH0, σ) := by
  intro σ h
  unfold fX7_firstWrong at h
  refine g_aload_n hC dX7_firstWrong_0 0 rfl rfl ?_
  refine g_aload_n hC dX7_firstWrong_1 0 rfl rfl ?_
  refine g_aload_n hC dX7_firstWrong_2 1 rfl rfl ?_
  obtain ⟨⟨r1, s1⟩, e1, h⟩ := of_bind h
  try dsimp only at h
  refine s_callVi hC dX7_firstWrong_3 (tX7_lengthOf h0 h1 e1) miX7_lengthOf mvX7_lengthOf mlRX7_112 (isO_spec h0) vc_7 rfl rfl (Nat.le_of_ble_eq_true rfl) (Nat.le_of_ble_eq_true rfl) (Nat.le_of_ble_eq_true rfl) hcs ?_
  refine g_puti hC dX7_firstWrong_6 lfRX7_116 fp_7_7 (isO_spec h0) (ft_7_7 h0) ?_
  refine g_iconst hC dX7_firstWrong_9 ok_0 ?_
  refine g_istore_n hC dX7_firstWrong_10 rfl (Nat.le_of_ble_eq_true rfl) rfl ?_
  exact g_pick [1, 2, 3, 0] rfl (bX7_firstWrong_11 hC hcs h0 h1 h2 hR _ _ _ h)
theorem tX7_firstWrong {l : Launch} {g : GT} {c0 : Nat} {c1 : Nat} {c2 : Nat} {σ σ' : St} {r : Int} (h0 : isO 7 c0 = true) (h1 : isO 6 c1 = true) (h2 : isO 6 c2 = true) (h : fX7_firstWrong c0 c1 c2 σ = some (r, σ')) : Cn l g yX7_firstWrong cX7_firstWrong 5 (some .int) 5 0 0 [vr c0, vr c1, vr c2] (SH0, σ) (some (vi r)) (SH0, σ') :=
  Cn.ofI (by decide) (Nat.le_of_ble_eq_true rfl) (fun K e hC hR => (bX7_firstWrong_0 hC ⟨Nat.le_refl _, Nat.le_refl _⟩ h0 h1 h2 hR _ h))
theorem dX7_varies_0 : decode cX7_varies 0 = .ok (.aload_n 0, 1) := by decide +kernel
theorem dX7_varies_1 : decode cX7_varies 1 = .ok (.getfield 12, 3) := by decide +kernel
theorem dX7_varies_4 : decode cX7_varies 4 = .ok (.iload_n 1, 1) := by decide +kernel
theorem dX7_varies_5 : decode cX7_varies 5 = .ok (.iload_n 2, 1) := by decide +kernel
theorem dX7_varies_6 : decode cX7_varies 6 = .ok (.iload_n 3, 1) := by decide +kernel
theorem dX7_varies_7 : decode cX7_varies 7 = .ok (.invokevirtual 75, 3) := by decide +kernel
theorem dX7_varies_10 : decode cX7_varies 10 = .ok (.aload_n 0, 1) := by decide +kernel
theorem dX7_varies_11 : decode cX7_varies 11 = .ok (.getfield 12, 3) := by decide +kernel
theorem dX7_varies_14 : decode cX7_varies 14 = .ok (.iload_n 1, 1) := by decide +kernel
theorem dX7_varies_15 : decode cX7_varies 15 = .ok (.invokevirtual 71, 3) := by decide +kernel
theorem dX7_varies_18 : decode cX7_varies 18 = .ok (.ifCond .eq 34, 3) := by decide +kernel
theorem dX7_varies_21 : decode cX7_varies 21 = .ok (.iconst 0, 1) := by decide +kernel
theorem dX7_varies_22 : decode cX7_varies 22 = .ok (.istore 4, 2) := by decide +kernel
theorem dX7_varies_24 : decode cX7_varies 24 = .ok (.iload 4, 2) := by decide +kernel
theorem dX7_varies_26 : decode cX7_varies 26 = .ok (.bipush 36, 2) := by decide +kernel
theorem dX7_varies_28 : decode cX7_varies 28 = .ok (.if_icmp .ge 24, 3) := by decide +kernel
theorem dX7_varies_31 : decode cX7_varies 31 = .ok (.aload_n 0, 1) := by decide +kernel
theorem dX7_varies_32 : decode cX7_varies 32 = .ok (.getfield 25, 3) := by decide +kernel
theorem dX7_varies_35 : decode cX7_varies 35 = .ok (.iload_n 1, 1) := by decide +kernel
theorem dX7_varies_36 : decode cX7_varies 36 = .ok (.iconst 4, 1) := by decide +kernel
theorem dX7_varies_37 : decode cX7_varies 37 = .ok (.imul, 1) := by decide +kernel
theorem dX7_varies_38 : decode cX7_varies 38 = .ok (.bipush 9, 2) := by decide +kernel
theorem dX7_varies_40 : decode cX7_varies 40 = .ok (.imul, 1) := by decide +kernel
theorem dX7_varies_41 : decode cX7_varies 41 = .ok (.iload 4, 2) := by decide +kernel
theorem dX7_varies_43 : decode cX7_varies 43 = .ok (.iadd, 1) := by decide +kernel
theorem dX7_varies_44 : decode cX7_varies 44 = .ok (.iconst (-1), 1) := by decide +kernel
theorem dX7_varies_45 : decode cX7_varies 45 = .ok (.iastore, 1) := by decide +kernel
theorem dX7_varies_46 : decode cX7_varies 46 = .ok (.iinc 4 1, 3) := by decide +kernel
theorem dX7_varies_49 : decode cX7_varies 49 = .ok (.goto (-25), 3) := by decide +kernel
theorem dX7_varies_52 : decode cX7_varies 52 = .ok (.aload_n 0, 1) := by decide +kernel
theorem dX7_varies_53 : decode cX7_varies 53 = .ok (.invokevirtual 48, 3) := by decide +kernel
theorem dX7_varies_56 : decode cX7_varies 56 = .ok (.return_, 1) := by decide +kernel
theorem bX7_varies_52 {K : KT} {g : GT} {cm sm : Nat} {cs : Nat × Nat} {c0 : Nat} {x1 : Int} {x2 : Int} {x3 : Int} {σ' : St} (hC : Ctx K g RX7 cX7_varies 5 2 cm sm) (hcs : cs.1 ≤ cm ∧ cs.2 ≤ sm) (h0 : isO 7 c0 = true) (hR : RetV K g cX7_varies 5 cs (SH0, σ')) : ∀ (σ : St), fX7_varies_52 c0 x1 x2 x3 σ = some σ' → G K g 5 cs 52 [(0, vr c0), (1, vi x1), (2, vi x2), (3, vi x3)] [] (SH0, σ) := by
  intro σ h
  unfold fX7_varies_52 at h
  refine g_aload_n hC dX7_varies_52 0 rfl rfl ?_
  obtain ⟨s1, e1, h⟩ := of_bind h
  try dsimp only at h
  refine s_callVv hC dX7_varies_53 (tX7_restarts h0 e1) miX7_restarts mvX7_restarts mlRX7_48 (isO_spec h0) vc_7 rfl rfl (Nat.le_of_ble_eq_true rfl) (Nat.le_of_ble_eq_true rfl) (Nat.le_of_ble_eq_true rfl) hcs ?_
  exact ret_v h hR dX7_varies_56
theorem bX7_varies_24 {K : KT} {g : GT} {cm sm : Nat} {cs : Nat × Nat} {c0 : Nat} {x1 : Int} {x2 : Int} {x3 : Int} {σ' : St} (hC : Ctx K g RX7 cX7_varies 5 2 cm sm) (hcs : cs.1 ≤ cm ∧ cs.2 ≤ sm) (h0 : isO 7 c0 = true) (hR : RetV K g cX7_varies 5 cs (SH0, σ')) : ∀ (n : Nat) (x4 : Int) (σ : St), fX7_varies_24 c0 x1 x2 x3 n x4 σ = some σ' → G K g 5 cs 24 [(0, vr c0), (1, vi x1), (2, vi x2), (3, vi x3), (4, vi x4)] [] (SH0, σ) := by
  intro n
  induction n with
  | zero =>
    intro x4 σ h
    rw [fX7_varies_24.eq_1] at h
    cases h
  | succ n ih =>
    intro x4 σ h
    rw [fX7_varies_24.eq_2] at h
    refine g_iload hC dX7_varies_24 4 rfl ?_
    refine g_bipush hC dX7_varies_26 bp_36 ?_
    refine g_icmp_ge hC dX7_varies_28 (tgt := 52) (by decide) (fun h9 => ?_) (fun h9 => ?_)
    · rw [if_pos h9] at h
      exact g_pick [0, 1, 2, 3] rfl (bX7_varies_52 hC hcs h0 hR _ h)
    · rw [if_neg h9] at h
      refine g_aload_n hC dX7_varies_31 0 rfl rfl ?_
      refine g_getr hC dX7_varies_32 lfRX7_25 (isO_spec h0) (ft_7_4 h0) ?_
      refine g_iload_n hC dX7_varies_35 1 rfl rfl ?_
      refine g_iconst hC dX7_varies_36 ok_4 ?_
      refine g_imul hC dX7_varies_37 ?_
      refine g_bipush hC dX7_varies_38 bp_9 ?_
      refine g_imul hC dX7_varies_40 ?_
      refine g_iload hC dX7_varies_41 4 rfl ?_
      refine g_iadd hC dX7_varies_43 ?_
      refine g_iconst hC dX7_varies_44 ok_m1 ?_
      obtain ⟨b9, h⟩ := of_ite h
      refine g_iast hC dX7_varies_45 (isA_spec (rf_7_4 h0)) b9 ?_
      refine g_iinc hC dX7_varies_46 4 rfl (Nat.le_of_ble_eq_true rfl) rfl ?_
      refine g_goto hC dX7_varies_49 (tgt := 24) (by decide) ?_
      exact g_pick [1, 2, 3, 4, 0] rfl (ih _ _ h)
theorem bX7_varies_0 {K : KT} {g : GT} {cm sm : Nat} {cs : Nat × Nat} {c0 : Nat} {x1 : Int} {x2 : Int} {x3 : Int} {σ' : St} (hC : Ctx K g RX7 cX7_varies 5 2 cm sm) (hcs : cs.1 ≤ cm ∧ cs.2 ≤ sm) (h0 : isO 7 c0 = true) (hR : RetV K g cX7_varies 5 cs (SH0, σ')) : ∀ (σ : St), fX7_varies c0 x1 x2 x3 σ = some σ' → G K g 5 cs 0 [(0, vr c0), (1, vi x1), (2, vi x2), (3, vi x3)] [] (SH0, σ) := by
  intro σ h
  unfold fX7_varies at h
  refine g_aload_n hC dX7_varies_0 0 rfl rfl ?_
  refine g_getr hC dX7_varies_1 lfRX7_12 (isO_spec h0) (ft_7_0 h0) ?_
  refine g_iload_n hC dX7_varies_4 1 rfl rfl ?_
  refine g_iload_n hC dX7_varies_5 2 rfl rfl ?_
  refine g_iload_n hC dX7_varies_6 3 rfl rfl ?_
  obtain ⟨s1, e1, h⟩ := of_bind h
  try dsimp only at h
  refine s_callVv hC dX7_varies_7 (tX2_become (rf_7_0 h0) e1) miX2_become mvX2_become mlRX7_75 (isO_spec (rf_7_0 h0)) vc_2 rfl rfl (Nat.le_of_ble_eq_true rfl) (Nat.le_of_ble_eq_true rfl) (Nat.le_of_ble_eq_true rfl) hcs ?_
  refine g_aload_n hC dX7_varies_10 0 rfl rfl ?_
  refine g_getr hC dX7_varies_11 lfRX7_12 (isO_spec h0) (ft_7_0 h0) ?_
  refine g_iload_n hC dX7_varies_14 1 rfl rfl ?_
  obtain ⟨⟨r2, s2⟩, e2, h⟩ := of_bind h
  try dsimp only at h
  refine s_callVi hC dX7_varies_15 (tX2_hasBidder (rf_7_0 h0) e2) miX2_hasBidder mvX2_hasBidder mlRX7_71 (isO_spec (rf_7_0 h0)) vc_2 rfl rfl (Nat.le_of_ble_eq_true rfl) (Nat.le_of_ble_eq_true rfl) (Nat.le_of_ble_eq_true rfl) hcs ?_
  refine g_if_eq hC dX7_varies_18 (tgt := 52) (by decide) (fun h9 => ?_) (fun h9 => ?_)
  · rw [if_pos h9] at h
    exact g_pick [0, 1, 2, 3] rfl (bX7_varies_52 hC hcs h0 hR _ h)
  · rw [if_neg h9] at h
    refine g_iconst hC dX7_varies_21 ok_0 ?_
    refine g_istore hC dX7_varies_22 (Nat.le_of_ble_eq_true rfl) rfl ?_
    exact g_pick [1, 2, 3, 4, 0] rfl (bX7_varies_24 hC hcs h0 hR _ _ _ h)
theorem tX7_varies {l : Launch} {g : GT} {c0 : Nat} {x1 : Int} {x2 : Int} {x3 : Int} {σ σ' : St} (h0 : isO 7 c0 = true) (h : fX7_varies c0 x1 x2 x3 σ = some σ') : Cn l g yX7_varies cX7_varies 5 none 2 0 0 [vr c0, vi x1, vi x2, vi x3] (SH0, σ) none (SH0, σ') :=
  Cn.ofV (by decide) (Nat.le_of_ble_eq_true rfl) (fun K e hC hR => (bX7_varies_0 hC ⟨Nat.le_refl _, Nat.le_refl _⟩ h0 hR _ h))
theorem dX9_areShelves_0 : decode cX9_areShelves 0 = .ok (.iload_n 0, 1) := by decide +kernel
theorem dX9_areShelves_1 : decode cX9_areShelves 1 = .ok (.ifCond .lt 27, 3) := by decide +kernel
theorem dX9_areShelves_4 : decode cX9_areShelves 4 = .ok (.iload_n 0, 1) := by decide +kernel
theorem dX9_areShelves_5 : decode cX9_areShelves 5 = .ok (.bipush 10, 2) := by decide +kernel
theorem dX9_areShelves_7 : decode cX9_areShelves 7 = .ok (.idiv, 1) := by decide +kernel
theorem dX9_areShelves_8 : decode cX9_areShelves 8 = .ok (.invokestatic 92, 3) := by decide +kernel
theorem dX9_areShelves_11 : decode cX9_areShelves 11 = .ok (.ifCond .eq 17, 3) := by decide +kernel
theorem dX9_areShelves_14 : decode cX9_areShelves 14 = .ok (.iload_n 0, 1) := by decide +kernel
theorem dX9_areShelves_15 : decode cX9_areShelves 15 = .ok (.bipush 10, 2) := by decide +kernel
theorem dX9_areShelves_17 : decode cX9_areShelves 17 = .ok (.irem, 1) := by decide +kernel
theorem dX9_areShelves_18 : decode cX9_areShelves 18 = .ok (.invokestatic 92, 3) := by decide +kernel
theorem dX9_areShelves_21 : decode cX9_areShelves 21 = .ok (.ifCond .eq 7, 3) := by decide +kernel
theorem dX9_areShelves_24 : decode cX9_areShelves 24 = .ok (.iconst 1, 1) := by decide +kernel
theorem dX9_areShelves_25 : decode cX9_areShelves 25 = .ok (.goto 4, 3) := by decide +kernel
theorem dX9_areShelves_28 : decode cX9_areShelves 28 = .ok (.iconst 0, 1) := by decide +kernel
theorem dX9_areShelves_29 : decode cX9_areShelves 29 = .ok (.ireturn, 1) := by decide +kernel
theorem bX9_areShelves_0 {K : KT} {g : GT} {cm sm : Nat} {cs : Nat × Nat} {x0 : Int} {r : Int} {σ' : St} (hC : Ctx K g RX9 cX9_areShelves 1 1 cm sm) (hcs : cs.1 ≤ cm ∧ cs.2 ≤ sm) (hR : RetZ K g cX9_areShelves 1 cs r (SH0, σ')) : ∀ (σ : St), fX9_areShelves x0 σ = some (r, σ') → G K g 1 cs 0 [(0, vi x0)] [] (SH0, σ) := by
  intro σ h
  unfold fX9_areShelves at h
  refine g_iload_n hC dX9_areShelves_0 0 rfl rfl ?_
  refine g_if_lt hC dX9_areShelves_1 (tgt := 28) (by decide) (fun h9 => ?_) (fun h9 => ?_)
  · rw [if_pos h9] at h
    refine g_iconst hC dX9_areShelves_28 ok_0 ?_
    exact ret_z h hR (by decide) dX9_areShelves_29
  · rw [if_neg h9] at h
    refine g_iload_n hC dX9_areShelves_4 0 rfl rfl ?_
    refine g_bipush hC dX9_areShelves_5 bp_10 ?_
    refine g_idiv hC dX9_areShelves_7 (by decide) ?_
    obtain ⟨⟨r1, s1⟩, e1, h⟩ := of_bind h
    try dsimp only at h
    refine s_callSi hC dX9_areShelves_8 (tX9_isShelf e1) miX9_isShelf msX9_isShelf mlRX9_92 rfl rfl (Nat.le_of_ble_eq_true rfl) (Nat.le_of_ble_eq_true rfl) (Nat.le_of_ble_eq_true rfl) hcs ?_
    refine g_if_eq hC dX9_areShelves_11 (tgt := 28) (by decide) (fun h9 => ?_) (fun h9 => ?_)
    · rw [if_pos h9] at h
      refine g_iconst hC dX9_areShelves_28 ok_0 ?_
      exact ret_z h hR (by decide) dX9_areShelves_29
    · rw [if_neg h9] at h
      refine g_iload_n hC dX9_areShelves_14 0 rfl rfl ?_
      refine g_bipush hC dX9_areShelves_15 bp_10 ?_
      refine g_irem hC dX9_areShelves_17 (by decide) ?_
      obtain ⟨⟨r2, s2⟩, e2, h⟩ := of_bind h
      try dsimp only at h
      refine s_callSi hC dX9_areShelves_18 (tX9_isShelf e2) miX9_isShelf msX9_isShelf mlRX9_92 rfl rfl (Nat.le_of_ble_eq_true rfl) (Nat.le_of_ble_eq_true rfl) (Nat.le_of_ble_eq_true rfl) hcs ?_
      refine g_if_eq hC dX9_areShelves_21 (tgt := 28) (by decide) (fun h9 => ?_) (fun h9 => ?_)
      · rw [if_pos h9] at h
        refine g_iconst hC dX9_areShelves_28 ok_0 ?_
        exact ret_z h hR (by decide) dX9_areShelves_29
      · rw [if_neg h9] at h
        refine g_iconst hC dX9_areShelves_24 ok_1 ?_
        refine g_goto hC dX9_areShelves_25 (tgt := 29) (by decide) ?_
        exact ret_z h hR (by decide) dX9_areShelves_29
theorem tX9_areShelves {l : Launch} {g : GT} {x0 : Int} {σ σ' : St} {r : Int} (h : fX9_areShelves x0 σ = some (r, σ')) : Cn l g yX9_areShelves cX9_areShelves 1 (some .boolean) 1 0 0 [vi x0] (SH0, σ) (some (vi r)) (SH0, σ') :=
  Cn.ofZ (by decide) (Nat.le_of_ble_eq_true rfl) (fun K e hC hR => (bX9_areShelves_0 hC ⟨Nat.le_refl _, Nat.le_refl _⟩ hR _ h))
theorem dX9_refusesBoth_0 : decode cX9_refusesBoth 0 = .ok (.aload_n 0, 1) := by decide +kernel
theorem dX9_refusesBoth_1 : decode cX9_refusesBoth 1 = .ok (.getfield 75, 3) := by decide +kernel
theorem dX9_refusesBoth_4 : decode cX9_refusesBoth 4 = .ok (.iload_n 1, 1) := by decide +kernel
theorem dX9_refusesBoth_5 : decode cX9_refusesBoth 5 = .ok (.bipush 10, 2) := by decide +kernel
theorem dX9_refusesBoth_7 : decode cX9_refusesBoth 7 = .ok (.idiv, 1) := by decide +kernel
theorem dX9_refusesBoth_8 : decode cX9_refusesBoth 8 = .ok (.aaload, 1) := by decide +kernel
theorem dX9_refusesBoth_9 : decode cX9_refusesBoth 9 = .ok (.invokevirtual 167, 3) := by decide +kernel
theorem dX9_refusesBoth_12 : decode cX9_refusesBoth 12 = .ok (.istore_n 2, 1) := by decide +kernel
theorem dX9_refusesBoth_13 : decode cX9_refusesBoth 13 = .ok (.iload_n 2, 1) := by decide +kernel
theorem dX9_refusesBoth_14 : decode cX9_refusesBoth 14 = .ok (.ifCond .eq 7, 3) := by decide +kernel
theorem dX9_refusesBoth_17 : decode cX9_refusesBoth 17 = .ok (.iload_n 2, 1) := by decide +kernel
theorem dX9_refusesBoth_18 : decode cX9_refusesBoth 18 = .ok (.goto 15, 3) := by decide +kernel
theorem dX9_refusesBoth_21 : decode cX9_refusesBoth 21 = .ok (.aload_n 0, 1) := by decide +kernel
theorem dX9_refusesBoth_22 : decode cX9_refusesBoth 22 = .ok (.getfield 75, 3) := by decide +kernel
theorem dX9_refusesBoth_25 : decode cX9_refusesBoth 25 = .ok (.iload_n 1, 1) := by decide +kernel
theorem dX9_refusesBoth_26 : decode cX9_refusesBoth 26 = .ok (.bipush 10, 2) := by decide +kernel
theorem dX9_refusesBoth_28 : decode cX9_refusesBoth 28 = .ok (.irem, 1) := by decide +kernel
theorem dX9_refusesBoth_29 : decode cX9_refusesBoth 29 = .ok (.aaload, 1) := by decide +kernel
theorem dX9_refusesBoth_30 : decode cX9_refusesBoth 30 = .ok (.invokevirtual 167, 3) := by decide +kernel
theorem dX9_refusesBoth_33 : decode cX9_refusesBoth 33 = .ok (.ireturn, 1) := by decide +kernel
theorem bX9_refusesBoth_0 {K : KT} {g : GT} {cm sm : Nat} {cs : Nat × Nat} {c0 : Nat} {x1 : Int} {r : Int} {σ' : St} (hC : Ctx K g RX9 cX9_refusesBoth 3 2 cm sm) (hcs : cs.1 ≤ cm ∧ cs.2 ≤ sm) (h0 : isO 9 c0 = true) (hR : RetI K g cX9_refusesBoth 3 cs r (SH0, σ')) : ∀ (σ : St), fX9_refusesBoth c0 x1 σ = some (r, σ') → G K g 3 cs 0 [(0, vr c0), (1, vi x1)] [] (SH0, σ) := by
  intro σ h
  unfold fX9_refusesBoth at h
  refine g_aload_n hC dX9_refusesBoth_0 0 rfl rfl ?_
  refine g_getr hC dX9_refusesBoth_1 lfRX9_75 (isO_spec h0) (ft_9_8 h0) ?_
  refine g_iload_n hC dX9_refusesBoth_4 1 rfl rfl ?_
  refine g_bipush hC dX9_refusesBoth_5 bp_10 ?_
  refine g_idiv hC dX9_refusesBoth_7 (by decide) ?_
  obtain ⟨b9, h⟩ := of_ite h
  refine g_aald hC dX9_refusesBoth_8 (isA_spec (rf_9_8 h0)) b9 (sh_at (rf_9_8 h0) b9).1 ?_
  have b21 := (sh_at (rf_9_8 h0) b9).2
  obtain ⟨⟨r2, s2⟩, e2, h⟩ := of_bind h
  try dsimp only at h
  refine s_callVi hC dX9_refusesBoth_9 (tX6_refusesBytes b21 e2) miX6_refusesBytes mvX6_refusesBytes mlRX9_167 (isO_spec b21) vc_6 rfl rfl (Nat.le_of_ble_eq_true rfl) (Nat.le_of_ble_eq_true rfl) (Nat.le_of_ble_eq_true rfl) hcs ?_
  refine g_istore_n hC dX9_refusesBoth_12 rfl (Nat.le_of_ble_eq_true rfl) rfl ?_
  refine g_iload_n hC dX9_refusesBoth_13 0 rfl rfl ?_
  refine g_if_eq hC dX9_refusesBoth_14 (tgt := 21) (by decide) (fun h9 => ?_) (fun h9 => ?_)
  · rw [if_pos h9] at h
    refine g_aload_n hC dX9_refusesBoth_21 1 rfl rfl ?_
    refine g_getr hC dX9_refusesBoth_22 lfRX9_75 (isO_spec h0) (ft_9_8 h0) ?_
    refine g_iload_n hC dX9_refusesBoth_25 2 rfl rfl ?_
    refine g_bipush hC dX9_refusesBoth_26 bp_10 ?_
    refine g_irem hC dX9_refusesBoth_28 (by decide) ?_
    obtain ⟨b9, h⟩ := of_ite h
    refine g_aald hC dX9_refusesBoth_29 (isA_spec (rf_9_8 h0)) b9 (sh_at (rf_9_8 h0) b9).1 ?_
    have b23 := (sh_at (rf_9_8 h0) b9).2
    obtain ⟨⟨r4, s4⟩, e4, h⟩ := of_bind h
    try dsimp only at h
    refine s_callVi hC dX9_refusesBoth_30 (tX6_refusesBytes b23 e4) miX6_refusesBytes mvX6_refusesBytes mlRX9_167 (isO_spec b23) vc_6 rfl rfl (Nat.le_of_ble_eq_true rfl) (Nat.le_of_ble_eq_true rfl) (Nat.le_of_ble_eq_true rfl) hcs ?_
    exact ret_i h hR dX9_refusesBoth_33
  · rw [if_neg h9] at h
    refine g_iload_n hC dX9_refusesBoth_17 0 rfl rfl ?_
    refine g_goto hC dX9_refusesBoth_18 (tgt := 33) (by decide) ?_
    exact ret_i h hR dX9_refusesBoth_33
theorem tX9_refusesBoth {l : Launch} {g : GT} {c0 : Nat} {x1 : Int} {σ σ' : St} {r : Int} (h0 : isO 9 c0 = true) (h : fX9_refusesBoth c0 x1 σ = some (r, σ')) : Cn l g yX9_refusesBoth cX9_refusesBoth 3 (some .int) 2 0 0 [vr c0, vi x1] (SH0, σ) (some (vi r)) (SH0, σ') :=
  Cn.ofI (by decide) (Nat.le_of_ble_eq_true rfl) (fun K e hC hR => (bX9_refusesBoth_0 hC ⟨Nat.le_refl _, Nat.le_refl _⟩ h0 hR _ h))
theorem dX9_fits_0 : decode cX9_fits 0 = .ok (.iload_n 1, 1) := by decide +kernel
theorem dX9_fits_1 : decode cX9_fits 1 = .ok (.invokestatic 237, 3) := by decide +kernel
theorem dX9_fits_4 : decode cX9_fits 4 = .ok (.ifCond .eq 23, 3) := by decide +kernel
theorem dX9_fits_7 : decode cX9_fits 7 = .ok (.aload_n 0, 1) := by decide +kernel
theorem dX9_fits_8 : decode cX9_fits 8 = .ok (.getfield 10, 3) := by decide +kernel
theorem dX9_fits_11 : decode cX9_fits 11 = .ok (.iload_n 2, 1) := by decide +kernel
theorem dX9_fits_12 : decode cX9_fits 12 = .ok (.invokevirtual 180, 3) := by decide +kernel
theorem dX9_fits_15 : decode cX9_fits 15 = .ok (.ifCond .eq 12, 3) := by decide +kernel
theorem dX9_fits_18 : decode cX9_fits 18 = .ok (.iload_n 3, 1) := by decide +kernel
theorem dX9_fits_19 : decode cX9_fits 19 = .ok (.ifCond .lt 8, 3) := by decide +kernel
theorem dX9_fits_22 : decode cX9_fits 22 = .ok (.iload_n 3, 1) := by decide +kernel
theorem dX9_fits_23 : decode cX9_fits 23 = .ok (.iconst 3, 1) := by decide +kernel
theorem dX9_fits_24 : decode cX9_fits 24 = .ok (.if_icmp .le 5, 3) := by decide +kernel
theorem dX9_fits_27 : decode cX9_fits 27 = .ok (.iconst (-1), 1) := by decide +kernel
theorem dX9_fits_28 : decode cX9_fits 28 = .ok (.ireturn, 1) := by decide +kernel
theorem dX9_fits_29 : decode cX9_fits 29 = .ok (.aload_n 0, 1) := by decide +kernel
theorem dX9_fits_30 : decode cX9_fits 30 = .ok (.iload_n 1, 1) := by decide +kernel
theorem dX9_fits_31 : decode cX9_fits 31 = .ok (.invokevirtual 240, 3) := by decide +kernel
theorem dX9_fits_34 : decode cX9_fits 34 = .ok (.istore 4, 2) := by decide +kernel
theorem dX9_fits_36 : decode cX9_fits 36 = .ok (.iload 4, 2) := by decide +kernel
theorem dX9_fits_38 : decode cX9_fits 38 = .ok (.ifCond .eq 6, 3) := by decide +kernel
theorem dX9_fits_41 : decode cX9_fits 41 = .ok (.iload 4, 2) := by decide +kernel
theorem dX9_fits_43 : decode cX9_fits 43 = .ok (.ireturn, 1) := by decide +kernel
theorem dX9_fits_44 : decode cX9_fits 44 = .ok (.aload_n 0, 1) := by decide +kernel
theorem dX9_fits_45 : decode cX9_fits 45 = .ok (.getfield 28, 3) := by decide +kernel
theorem dX9_fits_48 : decode cX9_fits 48 = .ok (.aload_n 0, 1) := by decide +kernel
theorem dX9_fits_49 : decode cX9_fits 49 = .ok (.getfield 10, 3) := by decide +kernel
theorem dX9_fits_52 : decode cX9_fits 52 = .ok (.invokevirtual 147, 3) := by decide +kernel
theorem dX9_fits_55 : decode cX9_fits 55 = .ok (.iload_n 3, 1) := by decide +kernel
theorem dX9_fits_56 : decode cX9_fits 56 = .ok (.iconst 2, 1) := by decide +kernel
theorem dX9_fits_57 : decode cX9_fits 57 = .ok (.if_icmp .ge 7, 3) := by decide +kernel
theorem dX9_fits_60 : decode cX9_fits 60 = .ok (.iconst 4, 1) := by decide +kernel
theorem dX9_fits_61 : decode cX9_fits 61 = .ok (.goto 4, 3) := by decide +kernel
theorem dX9_fits_64 : decode cX9_fits 64 = .ok (.iconst 5, 1) := by decide +kernel
theorem dX9_fits_65 : decode cX9_fits 65 = .ok (.istore 5, 2) := by decide +kernel
theorem dX9_fits_67 : decode cX9_fits 67 = .ok (.iconst 0, 1) := by decide +kernel
theorem dX9_fits_68 : decode cX9_fits 68 = .ok (.istore 6, 2) := by decide +kernel
theorem dX9_fits_70 : decode cX9_fits 70 = .ok (.bipush (-2), 2) := by decide +kernel
theorem dX9_fits_72 : decode cX9_fits 72 = .ok (.istore 7, 2) := by decide +kernel
theorem dX9_fits_74 : decode cX9_fits 74 = .ok (.getstatic 206, 3) := by decide +kernel
theorem dX9_fits_77 : decode cX9_fits 77 = .ok (.iload 5, 2) := by decide +kernel
theorem dX9_fits_79 : decode cX9_fits 79 = .ok (.iaload, 1) := by decide +kernel
theorem dX9_fits_80 : decode cX9_fits 80 = .ok (.istore 8, 2) := by decide +kernel
theorem dX9_fits_82 : decode cX9_fits 82 = .ok (.iload 8, 2) := by decide +kernel
theorem dX9_fits_84 : decode cX9_fits 84 = .ok (.ifCond .lt 58, 3) := by decide +kernel
theorem dX9_fits_87 : decode cX9_fits 87 = .ok (.aload_n 0, 1) := by decide +kernel
theorem dX9_fits_88 : decode cX9_fits 88 = .ok (.getfield 28, 3) := by decide +kernel
theorem dX9_fits_91 : decode cX9_fits 91 = .ok (.iload_n 2, 1) := by decide +kernel
theorem dX9_fits_92 : decode cX9_fits 92 = .ok (.iload 5, 2) := by decide +kernel
theorem dX9_fits_94 : decode cX9_fits 94 = .ok (.iload 8, 2) := by decide +kernel
theorem dX9_fits_96 : decode cX9_fits 96 = .ok (.invokevirtual 247, 3) := by decide +kernel
theorem dX9_fits_99 : decode cX9_fits 99 = .ok (.aload_n 0, 1) := by decide +kernel
theorem dX9_fits_100 : decode cX9_fits 100 = .ok (.getfield 28, 3) := by decide +kernel
theorem dX9_fits_103 : decode cX9_fits 103 = .ok (.aload_n 0, 1) := by decide +kernel
theorem dX9_fits_104 : decode cX9_fits 104 = .ok (.getfield 75, 3) := by decide +kernel
theorem dX9_fits_107 : decode cX9_fits 107 = .ok (.iload_n 1, 1) := by decide +kernel
theorem dX9_fits_108 : decode cX9_fits 108 = .ok (.bipush 10, 2) := by decide +kernel
theorem dX9_fits_110 : decode cX9_fits 110 = .ok (.idiv, 1) := by decide +kernel
theorem dX9_fits_111 : decode cX9_fits 111 = .ok (.aaload, 1) := by decide +kernel
theorem dX9_fits_112 : decode cX9_fits 112 = .ok (.aload_n 0, 1) := by decide +kernel
theorem dX9_fits_113 : decode cX9_fits 113 = .ok (.getfield 75, 3) := by decide +kernel
theorem dX9_fits_116 : decode cX9_fits 116 = .ok (.iload_n 1, 1) := by decide +kernel
theorem dX9_fits_117 : decode cX9_fits 117 = .ok (.bipush 10, 2) := by decide +kernel
theorem dX9_fits_119 : decode cX9_fits 119 = .ok (.irem, 1) := by decide +kernel
theorem dX9_fits_120 : decode cX9_fits 120 = .ok (.aaload, 1) := by decide +kernel
theorem dX9_fits_121 : decode cX9_fits 121 = .ok (.invokevirtual 243, 3) := by decide +kernel
theorem dX9_fits_124 : decode cX9_fits 124 = .ok (.bipush (-2), 2) := by decide +kernel
theorem dX9_fits_126 : decode cX9_fits 126 = .ok (.if_icmp .ne 10, 3) := by decide +kernel
theorem dX9_fits_129 : decode cX9_fits 129 = .ok (.iinc 6 1, 3) := by decide +kernel
theorem dX9_fits_132 : decode cX9_fits 132 = .ok (.iload 8, 2) := by decide +kernel
theorem dX9_fits_134 : decode cX9_fits 134 = .ok (.istore 7, 2) := by decide +kernel
theorem dX9_fits_136 : decode cX9_fits 136 = .ok (.iinc 8 (-1), 3) := by decide +kernel
theorem dX9_fits_139 : decode cX9_fits 139 = .ok (.goto (-57), 3) := by decide +kernel
theorem dX9_fits_142 : decode cX9_fits 142 = .ok (.iload_n 3, 1) := by decide +kernel
theorem dX9_fits_143 : decode cX9_fits 143 = .ok (.iconst 2, 1) := by decide +kernel
theorem dX9_fits_144 : decode cX9_fits 144 = .ok (.irem, 1) := by decide +kernel
theorem dX9_fits_145 : decode cX9_fits 145 = .ok (.ifCond .ne 8, 3) := by decide +kernel
theorem dX9_fits_148 : decode cX9_fits 148 = .ok (.iload 6, 2) := by decide +kernel
theorem dX9_fits_150 : decode cX9_fits 150 = .ok (.goto 5, 3) := by decide +kernel
theorem dX9_fits_153 : decode cX9_fits 153 = .ok (.iload 7, 2) := by decide +kernel
theorem dX9_fits_155 : decode cX9_fits 155 = .ok (.ireturn, 1) := by decide +kernel
theorem bX9_fits_136 {K : KT} {g : GT} {cm sm : Nat} {cs : Nat × Nat} {c0 : Nat} {x1 : Int} {x2 : Int} {x3 : Int} {k82 : Int → Int → Int → Int → St → Option (Int × St)} {r : Int} {σ' : St} (hC : Ctx K g RX9 cX9_fits 9 6 cm sm) (hcs : cs.1 ≤ cm ∧ cs.2 ≤ sm) (h0 : isO 9 c0 = true) (hk82 : ∀ (x5 : Int) (x6 : Int) (x7 : Int) (x8 : Int) (σ : St), k82 x5 x6 x7 x8 σ = some (r, σ') → G K g 9 cs 82 [(0, vr c0), (1, vi x1), (2, vi x2), (3, vi x3), (5, vi x5), (6, vi x6), (7, vi x7), (8, vi x8)] [] (SH0, σ)) (hR : RetI K g cX9_fits 9 cs r (SH0, σ')) : ∀ (x5 : Int) (x6 : Int) (x7 : Int) (x8 : Int) (σ : St), fX9_fits_136 c0 x1 x2 x3 k82 x5 x6 x7 x8 σ = some (r, σ') → G K g 9 cs 136 [(0, vr c0), (1, vi x1), (2, vi x2), (3, vi x3), (5, vi x5), (6, vi x6), (7, vi x7), (8, vi x8)] [] (SH0, σ) := by
  intro x5 x6 x7 x8 σ h
  unfold fX9_fits_136 at h
  refine g_iinc hC dX9_fits_136 7 rfl (Nat.le_of_ble_eq_true rfl) rfl ?_
  refine g_goto hC dX9_fits_139 (tgt := 82) (by decide) ?_
  exact g_pick [1, 2, 3, 4, 5, 6, 7, 0] rfl (hk82 _ _ _ _ _ h)
theorem bX9_fits_82 {K : KT} {g : GT} {cm sm : Nat} {cs : Nat × Nat} {c0 : Nat} {x1 : Int} {x2 : Int} {x3 : Int} {r : Int} {σ' : St} (hC : Ctx K g RX9 cX9_fits 9 6 cm sm) (hcs : cs.1 ≤ cm ∧ cs.2 ≤ sm) (h0 : isO 9 c0 = true) (hR : RetI K g cX9_fits 9 cs r (SH0, σ')) : ∀ (n : Nat) (x5 : Int) (x6 : Int) (x7 : Int) (x8 : Int) (σ : St), fX9_fits_82 c0 x1 x2 x3 n x5 x6 x7 x8 σ = some (r, σ') → G K g 9 cs 82 [(0, vr c0), (1, vi x1), (2, vi x2), (3, vi x3), (5, vi x5), (6, vi x6), (7, vi x7), (8, vi x8)] [] (SH0, σ) := by
  intro n
  induction n with
  | zero =>
    intro x5 x6 x7 x8 σ h
    rw [fX9_fits_82.eq_1] at h
    cases h
  | succ n ih =>
    intro x5 x6 x7 x8 σ h
    rw [fX9_fits_82.eq_2] at h
    refine g_iload hC dX9_fits_82 7 rfl ?_
    refine g_if_lt hC dX9_fits_84 (tgt := 142) (by decide) (fun h9 => ?_) (fun h9 => ?_)
    · rw [if_pos h9] at h
      refine g_iload_n hC dX9_fits_142 3 rfl rfl ?_
      refine g_iconst hC dX9_fits_143 ok_2 ?_
      refine g_irem hC dX9_fits_144 (by decide) ?_
      refine g_if_ne hC dX9_fits_145 (tgt := 153) (by decide) (fun h9 => ?_) (fun h9 => ?_)
      · rw [if_neg h9] at h
        refine g_iload hC dX9_fits_153 6 rfl ?_
        exact ret_i h hR dX9_fits_155
      · rw [if_pos h9] at h
        refine g_iload hC dX9_fits_148 5 rfl ?_
        refine g_goto hC dX9_fits_150 (tgt := 155) (by decide) ?_
        exact ret_i h hR dX9_fits_155
    · rw [if_neg h9] at h
      refine g_aload_n hC dX9_fits_87 0 rfl rfl ?_
      refine g_getr hC dX9_fits_88 lfRX9_28 (isO_spec h0) (ft_9_2 h0) ?_
      refine g_iload_n hC dX9_fits_91 2 rfl rfl ?_
      refine g_iload hC dX9_fits_92 4 rfl ?_
      refine g_iload hC dX9_fits_94 7 rfl ?_
      obtain ⟨s1, e1, h⟩ := of_bind h
      try dsimp only at h
      refine s_callVv hC dX9_fits_96 (tX7_varies (rf_9_2 h0) e1) miX7_varies mvX7_varies mlRX9_247 (isO_spec (rf_9_2 h0)) vc_7 rfl rfl (Nat.le_of_ble_eq_true rfl) (Nat.le_of_ble_eq_true rfl) (Nat.le_of_ble_eq_true rfl) hcs ?_
      refine g_aload_n hC dX9_fits_99 0 rfl rfl ?_
      refine g_getr hC dX9_fits_100 lfRX9_28 (isO_spec h0) (ft_9_2 h0) ?_
      refine g_aload_n hC dX9_fits_103 0 rfl rfl ?_
      refine g_getr hC dX9_fits_104 lfRX9_75 (isO_spec h0) (ft_9_8 h0) ?_
      refine g_iload_n hC dX9_fits_107 1 rfl rfl ?_
      refine g_bipush hC dX9_fits_108 bp_10 ?_
      refine g_idiv hC dX9_fits_110 (by decide) ?_
      obtain ⟨b9, h⟩ := of_ite h
      refine g_aald hC dX9_fits_111 (isA_spec (rf_9_8 h0)) b9 (sh_at (rf_9_8 h0) b9).1 ?_
      have b22 := (sh_at (rf_9_8 h0) b9).2
      refine g_aload_n hC dX9_fits_112 0 rfl rfl ?_
      refine g_getr hC dX9_fits_113 lfRX9_75 (isO_spec h0) (ft_9_8 h0) ?_
      refine g_iload_n hC dX9_fits_116 1 rfl rfl ?_
      refine g_bipush hC dX9_fits_117 bp_10 ?_
      refine g_irem hC dX9_fits_119 (by decide) ?_
      obtain ⟨b9, h⟩ := of_ite h
      refine g_aald hC dX9_fits_120 (isA_spec (rf_9_8 h0)) b9 (sh_at (rf_9_8 h0) b9).1 ?_
      have b23 := (sh_at (rf_9_8 h0) b9).2
      obtain ⟨⟨r4, s4⟩, e4, h⟩ := of_bind h
      try dsimp only at h
      refine s_callVi hC dX9_fits_121 (tX7_firstWrong (rf_9_2 h0) b22 b23 e4) miX7_firstWrong mvX7_firstWrong mlRX9_243 (isO_spec (rf_9_2 h0)) vc_7 rfl rfl (Nat.le_of_ble_eq_true rfl) (Nat.le_of_ble_eq_true rfl) (Nat.le_of_ble_eq_true rfl) hcs ?_
      refine g_bipush hC dX9_fits_124 bp_m2 ?_
      refine g_icmp_ne hC dX9_fits_126 (tgt := 136) (by decide) (fun h9 => ?_) (fun h9 => ?_)
      · rw [if_neg h9] at h
        exact g_pick [0, 1, 2, 3, 4, 5, 6, 7] rfl (bX9_fits_136 hC hcs h0 ih hR _ _ _ _ _ h)
      · rw [if_pos h9] at h
        refine g_iinc hC dX9_fits_129 5 rfl (Nat.le_of_ble_eq_true rfl) rfl ?_
        refine g_iload hC dX9_fits_132 7 rfl ?_
        refine g_istore hC dX9_fits_134 (Nat.le_of_ble_eq_true rfl) rfl ?_
        exact g_pick [2, 3, 4, 5, 6, 1, 0, 7] rfl (bX9_fits_136 hC hcs h0 ih hR _ _ _ _ _ h)
theorem bX9_fits_65 {K : KT} {g : GT} {cm sm : Nat} {cs : Nat × Nat} {c0 : Nat} {x1 : Int} {x2 : Int} {x3 : Int} {r : Int} {σ' : St} (hC : Ctx K g RX9 cX9_fits 9 6 cm sm) (hcs : cs.1 ≤ cm ∧ cs.2 ≤ sm) (h0 : isO 9 c0 = true) (hR : RetI K g cX9_fits 9 cs r (SH0, σ')) : ∀ (y0 : Int) (σ : St), fX9_fits_65 c0 x1 x2 x3 y0 σ = some (r, σ') → G K g 9 cs 65 [(0, vr c0), (1, vi x1), (2, vi x2), (3, vi x3)] [vi y0] (SH0, σ) := by
  intro y0 σ h
  unfold fX9_fits_65 at h
  refine g_istore hC dX9_fits_65 (Nat.le_of_ble_eq_true rfl) rfl ?_
  refine g_iconst hC dX9_fits_67 ok_0 ?_
  refine g_istore hC dX9_fits_68 (Nat.le_of_ble_eq_true rfl) rfl ?_
  refine g_bipush hC dX9_fits_70 bp_m2 ?_
  refine g_istore hC dX9_fits_72 (Nat.le_of_ble_eq_true rfl) rfl ?_
  refine g_gets (k := 0) hC dX9_fits_74 rfl gsRX9_206 ?_
  refine g_iload hC dX9_fits_77 2 rfl ?_
  obtain ⟨b9, h⟩ := of_ite h
  refine g_oald (x := 0) hC dX9_fits_79 (xs := stv0) rfl b9 (stv0_ok _) ?_
  refine g_istore hC dX9_fits_80 (Nat.le_of_ble_eq_true rfl) rfl ?_
  exact g_pick [4, 5, 6, 7, 3, 2, 1, 0] rfl (bX9_fits_82 hC hcs h0 hR _ _ _ _ _ _ h)
theorem bX9_fits_0 {K : KT} {g : GT} {cm sm : Nat} {cs : Nat × Nat} {c0 : Nat} {x1 : Int} {x2 : Int} {x3 : Int} {r : Int} {σ' : St} (hC : Ctx K g RX9 cX9_fits 9 6 cm sm) (hcs : cs.1 ≤ cm ∧ cs.2 ≤ sm) (h0 : isO 9 c0 = true) (hR : RetI K g cX9_fits 9 cs r (SH0, σ')) : ∀ (σ : St), fX9_fits c0 x1 x2 x3 σ = some (r, σ') → G K g 9 cs 0 [(0, vr c0), (1, vi x1), (2, vi x2), (3, vi x3)] [] (SH0, σ) := by
  intro σ h
  unfold fX9_fits at h
  refine g_iload_n hC dX9_fits_0 1 rfl rfl ?_
  obtain ⟨⟨r1, s1⟩, e1, h⟩ := of_bind h
  try dsimp only at h
  refine s_callSi hC dX9_fits_1 (tX9_areShelves e1) miX9_areShelves msX9_areShelves mlRX9_237 rfl rfl (Nat.le_of_ble_eq_true rfl) (Nat.le_of_ble_eq_true rfl) (Nat.le_of_ble_eq_true rfl) hcs ?_
  refine g_if_eq hC dX9_fits_4 (tgt := 27) (by decide) (fun h9 => ?_) (fun h9 => ?_)
  · rw [if_pos h9] at h
    refine g_iconst hC dX9_fits_27 ok_m1 ?_
    exact ret_i h hR dX9_fits_28
  · rw [if_neg h9] at h
    refine g_aload_n hC dX9_fits_7 0 rfl rfl ?_
    refine g_getr hC dX9_fits_8 lfRX9_10 (isO_spec h0) (ft_9_0 h0) ?_
    refine g_iload_n hC dX9_fits_11 2 rfl rfl ?_
    obtain ⟨⟨r2, s2⟩, e2, h⟩ := of_bind h
    try dsimp only at h
    refine s_callVi hC dX9_fits_12 (tX2_hasBidder (rf_9_0 h0) e2) miX2_hasBidder mvX2_hasBidder mlRX9_180 (isO_spec (rf_9_0 h0)) vc_2 rfl rfl (Nat.le_of_ble_eq_true rfl) (Nat.le_of_ble_eq_true rfl) (Nat.le_of_ble_eq_true rfl) hcs ?_
    refine g_if_eq hC dX9_fits_15 (tgt := 27) (by decide) (fun h9 => ?_) (fun h9 => ?_)
    · rw [if_pos h9] at h
      refine g_iconst hC dX9_fits_27 ok_m1 ?_
      exact ret_i h hR dX9_fits_28
    · rw [if_neg h9] at h
      refine g_iload_n hC dX9_fits_18 3 rfl rfl ?_
      refine g_if_lt hC dX9_fits_19 (tgt := 27) (by decide) (fun h9 => ?_) (fun h9 => ?_)
      · rw [if_pos h9] at h
        refine g_iconst hC dX9_fits_27 ok_m1 ?_
        exact ret_i h hR dX9_fits_28
      · rw [if_neg h9] at h
        refine g_iload_n hC dX9_fits_22 3 rfl rfl ?_
        refine g_iconst hC dX9_fits_23 ok_3 ?_
        refine g_icmp_le hC dX9_fits_24 (tgt := 29) (by decide) (fun h9 => ?_) (fun h9 => ?_)
        · rw [if_pos h9] at h
          refine g_aload_n hC dX9_fits_29 0 rfl rfl ?_
          refine g_iload_n hC dX9_fits_30 1 rfl rfl ?_
          obtain ⟨⟨r3, s3⟩, e3, h⟩ := of_bind h
          try dsimp only at h
          refine s_callVi hC dX9_fits_31 (tX9_refusesBoth h0 e3) miX9_refusesBoth mvX9_refusesBoth mlRX9_240 (isO_spec h0) vc_9 rfl rfl (Nat.le_of_ble_eq_true rfl) (Nat.le_of_ble_eq_true rfl) (Nat.le_of_ble_eq_true rfl) hcs ?_
          refine g_istore hC dX9_fits_34 (Nat.le_of_ble_eq_true rfl) rfl ?_
          refine g_iload hC dX9_fits_36 0 rfl ?_
          refine g_if_eq hC dX9_fits_38 (tgt := 44) (by decide) (fun h9 => ?_) (fun h9 => ?_)
          · rw [if_pos h9] at h
            refine g_aload_n hC dX9_fits_44 1 rfl rfl ?_
            refine g_getr hC dX9_fits_45 lfRX9_28 (isO_spec h0) (ft_9_2 h0) ?_
            refine g_aload_n hC dX9_fits_48 1 rfl rfl ?_
            refine g_getr hC dX9_fits_49 lfRX9_10 (isO_spec h0) (ft_9_0 h0) ?_
            obtain ⟨s4, e4, h⟩ := of_bind h
            try dsimp only at h
            refine s_callVv hC dX9_fits_52 (tX7_begin (rf_9_2 h0) (rf_9_0 h0) e4) miX7_begin mvX7_begin mlRX9_147 (isO_spec (rf_9_2 h0)) vc_7 rfl rfl (Nat.le_of_ble_eq_true rfl) (Nat.le_of_ble_eq_true rfl) (Nat.le_of_ble_eq_true rfl) hcs ?_
            refine g_iload_n hC dX9_fits_55 4 rfl rfl ?_
            refine g_iconst hC dX9_fits_56 ok_2 ?_
            refine g_icmp_ge hC dX9_fits_57 (tgt := 64) (by decide) (fun h9 => ?_) (fun h9 => ?_)
            · rw [if_pos h9] at h
              refine g_iconst hC dX9_fits_64 ok_5 ?_
              exact g_pick [1, 2, 3, 4] rfl (bX9_fits_65 hC hcs h0 hR _ _ h)
            · rw [if_neg h9] at h
              refine g_iconst hC dX9_fits_60 ok_4 ?_
              refine g_goto hC dX9_fits_61 (tgt := 65) (by decide) ?_
              exact g_pick [1, 2, 3, 4] rfl (bX9_fits_65 hC hcs h0 hR _ _ h)
          · rw [if_neg h9] at h
            refine g_iload hC dX9_fits_41 0 rfl ?_
            exact ret_i h hR dX9_fits_43
        · rw [if_neg h9] at h
          refine g_iconst hC dX9_fits_27 ok_m1 ?_
          exact ret_i h hR dX9_fits_28
theorem tX9_fits {l : Launch} {g : GT} {c0 : Nat} {x1 : Int} {x2 : Int} {x3 : Int} {σ σ' : St} {r : Int} (h0 : isO 9 c0 = true) (h : fX9_fits c0 x1 x2 x3 σ = some (r, σ')) : Cn l g yX9_fits cX9_fits 9 (some .int) 6 0 0 [vr c0, vi x1, vi x2, vi x3] (SH0, σ) (some (vi r)) (SH0, σ') :=
  Cn.ofI (by decide) (Nat.le_of_ble_eq_true rfl) (fun K e hC hR => (bX9_fits_0 hC ⟨Nat.le_refl _, Nat.le_refl _⟩ h0 hR _ h))
