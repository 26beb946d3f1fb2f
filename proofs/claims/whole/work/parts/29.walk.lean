/-! Walks (printed by my program). -/
theorem dX4_worked_0 : decode cX4_worked 0 = .ok (.iload_n 0, 1) := by decide +kernel
theorem dX4_worked_1 : decode cX4_worked 1 = .ok (.lookupswitch 188 #[(37, 176), (38, 105), (42, 160), (43, 152), (45, 156), (47, 164), (60, 119), (61, 130), (62, 141), (124, 91)], 91) := by decide +kernel
theorem dX4_worked_92 : decode cX4_worked 92 = .ok (.iload_n 1, 1) := by decide +kernel
theorem dX4_worked_93 : decode cX4_worked 93 = .ok (.ifCond .ne 7, 3) := by decide +kernel
theorem dX4_worked_96 : decode cX4_worked 96 = .ok (.iload_n 2, 1) := by decide +kernel
theorem dX4_worked_97 : decode cX4_worked 97 = .ok (.ifCond .eq 7, 3) := by decide +kernel
theorem dX4_worked_100 : decode cX4_worked 100 = .ok (.iconst 1, 1) := by decide +kernel
theorem dX4_worked_101 : decode cX4_worked 101 = .ok (.goto 4, 3) := by decide +kernel
theorem dX4_worked_104 : decode cX4_worked 104 = .ok (.iconst 0, 1) := by decide +kernel
theorem dX4_worked_105 : decode cX4_worked 105 = .ok (.ireturn, 1) := by decide +kernel
theorem dX4_worked_106 : decode cX4_worked 106 = .ok (.iload_n 1, 1) := by decide +kernel
theorem dX4_worked_107 : decode cX4_worked 107 = .ok (.ifCond .eq 11, 3) := by decide +kernel
theorem dX4_worked_110 : decode cX4_worked 110 = .ok (.iload_n 2, 1) := by decide +kernel
theorem dX4_worked_111 : decode cX4_worked 111 = .ok (.ifCond .eq 7, 3) := by decide +kernel
theorem dX4_worked_114 : decode cX4_worked 114 = .ok (.iconst 1, 1) := by decide +kernel
theorem dX4_worked_115 : decode cX4_worked 115 = .ok (.goto 4, 3) := by decide +kernel
theorem dX4_worked_118 : decode cX4_worked 118 = .ok (.iconst 0, 1) := by decide +kernel
theorem dX4_worked_119 : decode cX4_worked 119 = .ok (.ireturn, 1) := by decide +kernel
theorem dX4_worked_120 : decode cX4_worked 120 = .ok (.iload_n 1, 1) := by decide +kernel
theorem dX4_worked_121 : decode cX4_worked 121 = .ok (.iload_n 2, 1) := by decide +kernel
theorem dX4_worked_122 : decode cX4_worked 122 = .ok (.if_icmp .ge 7, 3) := by decide +kernel
theorem dX4_worked_125 : decode cX4_worked 125 = .ok (.iconst 1, 1) := by decide +kernel
theorem dX4_worked_126 : decode cX4_worked 126 = .ok (.goto 4, 3) := by decide +kernel
theorem dX4_worked_129 : decode cX4_worked 129 = .ok (.iconst 0, 1) := by decide +kernel
theorem dX4_worked_130 : decode cX4_worked 130 = .ok (.ireturn, 1) := by decide +kernel
theorem dX4_worked_131 : decode cX4_worked 131 = .ok (.iload_n 1, 1) := by decide +kernel
theorem dX4_worked_132 : decode cX4_worked 132 = .ok (.iload_n 2, 1) := by decide +kernel
theorem dX4_worked_133 : decode cX4_worked 133 = .ok (.if_icmp .ne 7, 3) := by decide +kernel
theorem dX4_worked_136 : decode cX4_worked 136 = .ok (.iconst 1, 1) := by decide +kernel
theorem dX4_worked_137 : decode cX4_worked 137 = .ok (.goto 4, 3) := by decide +kernel
theorem dX4_worked_140 : decode cX4_worked 140 = .ok (.iconst 0, 1) := by decide +kernel
theorem dX4_worked_141 : decode cX4_worked 141 = .ok (.ireturn, 1) := by decide +kernel
theorem dX4_worked_142 : decode cX4_worked 142 = .ok (.iload_n 1, 1) := by decide +kernel
theorem dX4_worked_143 : decode cX4_worked 143 = .ok (.iload_n 2, 1) := by decide +kernel
theorem dX4_worked_144 : decode cX4_worked 144 = .ok (.if_icmp .le 7, 3) := by decide +kernel
theorem dX4_worked_147 : decode cX4_worked 147 = .ok (.iconst 1, 1) := by decide +kernel
theorem dX4_worked_148 : decode cX4_worked 148 = .ok (.goto 4, 3) := by decide +kernel
theorem dX4_worked_151 : decode cX4_worked 151 = .ok (.iconst 0, 1) := by decide +kernel
theorem dX4_worked_152 : decode cX4_worked 152 = .ok (.ireturn, 1) := by decide +kernel
theorem dX4_worked_153 : decode cX4_worked 153 = .ok (.iload_n 1, 1) := by decide +kernel
theorem dX4_worked_154 : decode cX4_worked 154 = .ok (.iload_n 2, 1) := by decide +kernel
theorem dX4_worked_155 : decode cX4_worked 155 = .ok (.iadd, 1) := by decide +kernel
theorem dX4_worked_156 : decode cX4_worked 156 = .ok (.ireturn, 1) := by decide +kernel
theorem dX4_worked_157 : decode cX4_worked 157 = .ok (.iload_n 1, 1) := by decide +kernel
theorem dX4_worked_158 : decode cX4_worked 158 = .ok (.iload_n 2, 1) := by decide +kernel
theorem dX4_worked_159 : decode cX4_worked 159 = .ok (.isub, 1) := by decide +kernel
theorem dX4_worked_160 : decode cX4_worked 160 = .ok (.ireturn, 1) := by decide +kernel
theorem dX4_worked_161 : decode cX4_worked 161 = .ok (.iload_n 1, 1) := by decide +kernel
theorem dX4_worked_162 : decode cX4_worked 162 = .ok (.iload_n 2, 1) := by decide +kernel
theorem dX4_worked_163 : decode cX4_worked 163 = .ok (.imul, 1) := by decide +kernel
theorem dX4_worked_164 : decode cX4_worked 164 = .ok (.ireturn, 1) := by decide +kernel
theorem dX4_worked_165 : decode cX4_worked 165 = .ok (.iload_n 2, 1) := by decide +kernel
theorem dX4_worked_166 : decode cX4_worked 166 = .ok (.ifCond .ne 7, 3) := by decide +kernel
theorem dX4_worked_169 : decode cX4_worked 169 = .ok (.iconst 0, 1) := by decide +kernel
theorem dX4_worked_170 : decode cX4_worked 170 = .ok (.goto 6, 3) := by decide +kernel
theorem dX4_worked_173 : decode cX4_worked 173 = .ok (.iload_n 1, 1) := by decide +kernel
theorem dX4_worked_174 : decode cX4_worked 174 = .ok (.iload_n 2, 1) := by decide +kernel
theorem dX4_worked_175 : decode cX4_worked 175 = .ok (.idiv, 1) := by decide +kernel
theorem dX4_worked_176 : decode cX4_worked 176 = .ok (.ireturn, 1) := by decide +kernel
theorem dX4_worked_177 : decode cX4_worked 177 = .ok (.iload_n 2, 1) := by decide +kernel
theorem dX4_worked_178 : decode cX4_worked 178 = .ok (.ifCond .ne 7, 3) := by decide +kernel
theorem dX4_worked_181 : decode cX4_worked 181 = .ok (.iconst 0, 1) := by decide +kernel
theorem dX4_worked_182 : decode cX4_worked 182 = .ok (.goto 6, 3) := by decide +kernel
theorem dX4_worked_185 : decode cX4_worked 185 = .ok (.iload_n 1, 1) := by decide +kernel
theorem dX4_worked_186 : decode cX4_worked 186 = .ok (.iload_n 2, 1) := by decide +kernel
theorem dX4_worked_187 : decode cX4_worked 187 = .ok (.irem, 1) := by decide +kernel
theorem dX4_worked_188 : decode cX4_worked 188 = .ok (.ireturn, 1) := by decide +kernel
theorem dX4_worked_189 : decode cX4_worked 189 = .ok (.iconst 0, 1) := by decide +kernel
theorem dX4_worked_190 : decode cX4_worked 190 = .ok (.ireturn, 1) := by decide +kernel
theorem bX4_worked_0 {K : KT} {g : GT} {cm sm : Nat} {cs : Nat × Nat} {x0 : Int} {x1 : Int} {x2 : Int} {r : Int} {σ' : St} (hC : Ctx K g RX4 cX4_worked 3 0 cm sm) (hcs : cs.1 ≤ cm ∧ cs.2 ≤ sm) (hR : RetI K g cX4_worked 3 cs r (SH0, σ')) : ∀ (σ : St), fX4_worked x0 x1 x2 σ = some (r, σ') → G K g 3 cs 0 [(0, vi x0), (1, vi x1), (2, vi x2)] [] (SH0, σ) := by
  intro σ h
  unfold fX4_worked at h
  refine g_iload_n hC dX4_worked_0 0 rfl rfl ?_
  by_cases h9 : x0 = 37
  · rw [if_pos h9] at h
    refine g_lookup hC dX4_worked_1 (by decide) 176 177 (by (try dsimp only); rw [h9]; rfl) (by decide) ?_
    refine g_iload_n hC dX4_worked_177 2 rfl rfl ?_
    refine g_if_ne hC dX4_worked_178 (tgt := 185) (by decide) (fun h9 => ?_) (fun h9 => ?_)
    · rw [if_neg h9] at h
      refine g_iload_n hC dX4_worked_185 1 rfl rfl ?_
      refine g_iload_n hC dX4_worked_186 2 rfl rfl ?_
      obtain ⟨b9, h⟩ := of_ite h
      refine g_irem hC dX4_worked_187 b9 ?_
      exact ret_i h hR dX4_worked_188
    · rw [if_pos h9] at h
      refine g_iconst hC dX4_worked_181 ok_0 ?_
      refine g_goto hC dX4_worked_182 (tgt := 188) (by decide) ?_
      exact ret_i h hR dX4_worked_188
  rw [if_neg h9] at h
  have n1 := h9
  clear h9
  by_cases h9 : x0 = 38
  · rw [if_pos h9] at h
    refine g_lookup hC dX4_worked_1 (by decide) 105 106 (by (try dsimp only); rw [h9]; rfl) (by decide) ?_
    refine g_iload_n hC dX4_worked_106 1 rfl rfl ?_
    refine g_if_eq hC dX4_worked_107 (tgt := 118) (by decide) (fun h9 => ?_) (fun h9 => ?_)
    · rw [if_pos h9] at h
      refine g_iconst hC dX4_worked_118 ok_0 ?_
      exact ret_i h hR dX4_worked_119
    · rw [if_neg h9] at h
      refine g_iload_n hC dX4_worked_110 2 rfl rfl ?_
      refine g_if_eq hC dX4_worked_111 (tgt := 118) (by decide) (fun h9 => ?_) (fun h9 => ?_)
      · rw [if_pos h9] at h
        refine g_iconst hC dX4_worked_118 ok_0 ?_
        exact ret_i h hR dX4_worked_119
      · rw [if_neg h9] at h
        refine g_iconst hC dX4_worked_114 ok_1 ?_
        refine g_goto hC dX4_worked_115 (tgt := 119) (by decide) ?_
        exact ret_i h hR dX4_worked_119
  rw [if_neg h9] at h
  have n2 := h9
  clear h9
  by_cases h9 : x0 = 42
  · rw [if_pos h9] at h
    refine g_lookup hC dX4_worked_1 (by decide) 160 161 (by (try dsimp only); rw [h9]; rfl) (by decide) ?_
    refine g_iload_n hC dX4_worked_161 1 rfl rfl ?_
    refine g_iload_n hC dX4_worked_162 2 rfl rfl ?_
    refine g_imul hC dX4_worked_163 ?_
    exact ret_i h hR dX4_worked_164
  rw [if_neg h9] at h
  have n3 := h9
  clear h9
  by_cases h9 : x0 = 43
  · rw [if_pos h9] at h
    refine g_lookup hC dX4_worked_1 (by decide) 152 153 (by (try dsimp only); rw [h9]; rfl) (by decide) ?_
    refine g_iload_n hC dX4_worked_153 1 rfl rfl ?_
    refine g_iload_n hC dX4_worked_154 2 rfl rfl ?_
    refine g_iadd hC dX4_worked_155 ?_
    exact ret_i h hR dX4_worked_156
  rw [if_neg h9] at h
  have n4 := h9
  clear h9
  by_cases h9 : x0 = 45
  · rw [if_pos h9] at h
    refine g_lookup hC dX4_worked_1 (by decide) 156 157 (by (try dsimp only); rw [h9]; rfl) (by decide) ?_
    refine g_iload_n hC dX4_worked_157 1 rfl rfl ?_
    refine g_iload_n hC dX4_worked_158 2 rfl rfl ?_
    refine g_isub hC dX4_worked_159 ?_
    exact ret_i h hR dX4_worked_160
  rw [if_neg h9] at h
  have n5 := h9
  clear h9
  by_cases h9 : x0 = 47
  · rw [if_pos h9] at h
    refine g_lookup hC dX4_worked_1 (by decide) 164 165 (by (try dsimp only); rw [h9]; rfl) (by decide) ?_
    refine g_iload_n hC dX4_worked_165 2 rfl rfl ?_
    refine g_if_ne hC dX4_worked_166 (tgt := 173) (by decide) (fun h9 => ?_) (fun h9 => ?_)
    · rw [if_neg h9] at h
      refine g_iload_n hC dX4_worked_173 1 rfl rfl ?_
      refine g_iload_n hC dX4_worked_174 2 rfl rfl ?_
      obtain ⟨b9, h⟩ := of_ite h
      refine g_idiv hC dX4_worked_175 b9 ?_
      exact ret_i h hR dX4_worked_176
    · rw [if_pos h9] at h
      refine g_iconst hC dX4_worked_169 ok_0 ?_
      refine g_goto hC dX4_worked_170 (tgt := 176) (by decide) ?_
      exact ret_i h hR dX4_worked_176
  rw [if_neg h9] at h
  have n6 := h9
  clear h9
  by_cases h9 : x0 = 60
  · rw [if_pos h9] at h
    refine g_lookup hC dX4_worked_1 (by decide) 119 120 (by (try dsimp only); rw [h9]; rfl) (by decide) ?_
    refine g_iload_n hC dX4_worked_120 1 rfl rfl ?_
    refine g_iload_n hC dX4_worked_121 2 rfl rfl ?_
    refine g_icmp_ge hC dX4_worked_122 (tgt := 129) (by decide) (fun h9 => ?_) (fun h9 => ?_)
    · rw [if_pos h9] at h
      refine g_iconst hC dX4_worked_129 ok_0 ?_
      exact ret_i h hR dX4_worked_130
    · rw [if_neg h9] at h
      refine g_iconst hC dX4_worked_125 ok_1 ?_
      refine g_goto hC dX4_worked_126 (tgt := 130) (by decide) ?_
      exact ret_i h hR dX4_worked_130
  rw [if_neg h9] at h
  have n7 := h9
  clear h9
  by_cases h9 : x0 = 61
  · rw [if_pos h9] at h
    refine g_lookup hC dX4_worked_1 (by decide) 130 131 (by (try dsimp only); rw [h9]; rfl) (by decide) ?_
    refine g_iload_n hC dX4_worked_131 1 rfl rfl ?_
    refine g_iload_n hC dX4_worked_132 2 rfl rfl ?_
    refine g_icmp_ne hC dX4_worked_133 (tgt := 140) (by decide) (fun h9 => ?_) (fun h9 => ?_)
    · rw [if_neg h9] at h
      refine g_iconst hC dX4_worked_140 ok_0 ?_
      exact ret_i h hR dX4_worked_141
    · rw [if_pos h9] at h
      refine g_iconst hC dX4_worked_136 ok_1 ?_
      refine g_goto hC dX4_worked_137 (tgt := 141) (by decide) ?_
      exact ret_i h hR dX4_worked_141
  rw [if_neg h9] at h
  have n8 := h9
  clear h9
  by_cases h9 : x0 = 62
  · rw [if_pos h9] at h
    refine g_lookup hC dX4_worked_1 (by decide) 141 142 (by (try dsimp only); rw [h9]; rfl) (by decide) ?_
    refine g_iload_n hC dX4_worked_142 1 rfl rfl ?_
    refine g_iload_n hC dX4_worked_143 2 rfl rfl ?_
    refine g_icmp_le hC dX4_worked_144 (tgt := 151) (by decide) (fun h9 => ?_) (fun h9 => ?_)
    · rw [if_pos h9] at h
      refine g_iconst hC dX4_worked_151 ok_0 ?_
      exact ret_i h hR dX4_worked_152
    · rw [if_neg h9] at h
      refine g_iconst hC dX4_worked_147 ok_1 ?_
      refine g_goto hC dX4_worked_148 (tgt := 152) (by decide) ?_
      exact ret_i h hR dX4_worked_152
  rw [if_neg h9] at h
  have n9 := h9
  clear h9
  by_cases h9 : x0 = 124
  · rw [if_pos h9] at h
    refine g_lookup hC dX4_worked_1 (by decide) 91 92 (by (try dsimp only); rw [h9]; rfl) (by decide) ?_
    refine g_iload_n hC dX4_worked_92 1 rfl rfl ?_
    refine g_if_ne hC dX4_worked_93 (tgt := 100) (by decide) (fun h9 => ?_) (fun h9 => ?_)
    · rw [if_neg h9] at h
      refine g_iconst hC dX4_worked_100 ok_1 ?_
      refine g_goto hC dX4_worked_101 (tgt := 105) (by decide) ?_
      exact ret_i h hR dX4_worked_105
    · rw [if_pos h9] at h
      refine g_iload_n hC dX4_worked_96 2 rfl rfl ?_
      refine g_if_eq hC dX4_worked_97 (tgt := 104) (by decide) (fun h9 => ?_) (fun h9 => ?_)
      · rw [if_pos h9] at h
        refine g_iconst hC dX4_worked_104 ok_0 ?_
        exact ret_i h hR dX4_worked_105
      · rw [if_neg h9] at h
        refine g_iconst hC dX4_worked_100 ok_1 ?_
        refine g_goto hC dX4_worked_101 (tgt := 105) (by decide) ?_
        exact ret_i h hR dX4_worked_105
  rw [if_neg h9] at h
  have n10 := h9
  clear h9
  refine g_lookup hC dX4_worked_1 (by decide) 188 189 (by simp [Op.lookupswitch.offset, Ne.symm n1, n1, Ne.symm n2, n2, Ne.symm n3, n3, Ne.symm n4, n4, Ne.symm n5, n5, Ne.symm n6, n6, Ne.symm n7, n7, Ne.symm n8, n8, Ne.symm n9, n9, Ne.symm n10, n10]) (by decide) ?_
  refine g_iconst hC dX4_worked_189 ok_0 ?_
  exact ret_i h hR dX4_worked_190
theorem tX4_worked {l : Launch} {g : GT} {x0 : Int} {x1 : Int} {x2 : Int} {σ σ' : St} {r : Int} (h : fX4_worked x0 x1 x2 σ = some (r, σ')) : Cn l g yX4_worked cX4_worked 3 (some .int) 0 0 0 [vi x0, vi x1, vi x2] (SH0, σ) (some (vi r)) (SH0, σ') :=
  Cn.ofI (by decide) (Nat.le_of_ble_eq_true rfl) (fun K e hC hR => (bX4_worked_0 hC ⟨Nat.le_refl _, Nat.le_refl _⟩ hR _ h))
theorem dX4_gives_0 : decode cX4_gives 0 = .ok (.aload_n 0, 1) := by decide +kernel
theorem dX4_gives_1 : decode cX4_gives 1 = .ok (.getfield 42, 3) := by decide +kernel
theorem dX4_gives_4 : decode cX4_gives 4 = .ok (.ifCond .ne 19, 3) := by decide +kernel
theorem dX4_gives_7 : decode cX4_gives 7 = .ok (.iload_n 1, 1) := by decide +kernel
theorem dX4_gives_8 : decode cX4_gives 8 = .ok (.iload 4, 2) := by decide +kernel
theorem dX4_gives_10 : decode cX4_gives 10 = .ok (.imul, 1) := by decide +kernel
theorem dX4_gives_11 : decode cX4_gives 11 = .ok (.iload_n 2, 1) := by decide +kernel
theorem dX4_gives_12 : decode cX4_gives 12 = .ok (.iload_n 3, 1) := by decide +kernel
theorem dX4_gives_13 : decode cX4_gives 13 = .ok (.iadd, 1) := by decide +kernel
theorem dX4_gives_14 : decode cX4_gives 14 = .ok (.invokestatic 85, 3) := by decide +kernel
theorem dX4_gives_17 : decode cX4_gives 17 = .ok (.iconst 5, 1) := by decide +kernel
theorem dX4_gives_18 : decode cX4_gives 18 = .ok (.iload 5, 2) := by decide +kernel
theorem dX4_gives_20 : decode cX4_gives 20 = .ok (.imul, 1) := by decide +kernel
theorem dX4_gives_21 : decode cX4_gives 21 = .ok (.isub, 1) := by decide +kernel
theorem dX4_gives_22 : decode cX4_gives 22 = .ok (.ireturn, 1) := by decide +kernel
theorem dX4_gives_23 : decode cX4_gives 23 = .ok (.aload_n 0, 1) := by decide +kernel
theorem dX4_gives_24 : decode cX4_gives 24 = .ok (.getfield 13, 3) := by decide +kernel
theorem dX4_gives_27 : decode cX4_gives 27 = .ok (.iconst 0, 1) := by decide +kernel
theorem dX4_gives_28 : decode cX4_gives 28 = .ok (.iload_n 1, 1) := by decide +kernel
theorem dX4_gives_29 : decode cX4_gives 29 = .ok (.iastore, 1) := by decide +kernel
theorem dX4_gives_30 : decode cX4_gives 30 = .ok (.aload_n 0, 1) := by decide +kernel
theorem dX4_gives_31 : decode cX4_gives 31 = .ok (.getfield 13, 3) := by decide +kernel
theorem dX4_gives_34 : decode cX4_gives 34 = .ok (.iconst 1, 1) := by decide +kernel
theorem dX4_gives_35 : decode cX4_gives 35 = .ok (.iload_n 2, 1) := by decide +kernel
theorem dX4_gives_36 : decode cX4_gives 36 = .ok (.iastore, 1) := by decide +kernel
theorem dX4_gives_37 : decode cX4_gives 37 = .ok (.aload_n 0, 1) := by decide +kernel
theorem dX4_gives_38 : decode cX4_gives 38 = .ok (.getfield 13, 3) := by decide +kernel
theorem dX4_gives_41 : decode cX4_gives 41 = .ok (.iconst 2, 1) := by decide +kernel
theorem dX4_gives_42 : decode cX4_gives 42 = .ok (.iload_n 3, 1) := by decide +kernel
theorem dX4_gives_43 : decode cX4_gives 43 = .ok (.iastore, 1) := by decide +kernel
theorem dX4_gives_44 : decode cX4_gives 44 = .ok (.aload_n 0, 1) := by decide +kernel
theorem dX4_gives_45 : decode cX4_gives 45 = .ok (.getfield 13, 3) := by decide +kernel
theorem dX4_gives_48 : decode cX4_gives 48 = .ok (.iconst 3, 1) := by decide +kernel
theorem dX4_gives_49 : decode cX4_gives 49 = .ok (.iload 4, 2) := by decide +kernel
theorem dX4_gives_51 : decode cX4_gives 51 = .ok (.iastore, 1) := by decide +kernel
theorem dX4_gives_52 : decode cX4_gives 52 = .ok (.aload_n 0, 1) := by decide +kernel
theorem dX4_gives_53 : decode cX4_gives 53 = .ok (.getfield 13, 3) := by decide +kernel
theorem dX4_gives_56 : decode cX4_gives 56 = .ok (.iconst 4, 1) := by decide +kernel
theorem dX4_gives_57 : decode cX4_gives 57 = .ok (.iload 5, 2) := by decide +kernel
theorem dX4_gives_59 : decode cX4_gives 59 = .ok (.iastore, 1) := by decide +kernel
theorem dX4_gives_60 : decode cX4_gives 60 = .ok (.aload_n 0, 1) := by decide +kernel
theorem dX4_gives_61 : decode cX4_gives 61 = .ok (.getfield 13, 3) := by decide +kernel
theorem dX4_gives_64 : decode cX4_gives 64 = .ok (.iconst 5, 1) := by decide +kernel
theorem dX4_gives_65 : decode cX4_gives 65 = .ok (.iload 6, 2) := by decide +kernel
theorem dX4_gives_67 : decode cX4_gives 67 = .ok (.iastore, 1) := by decide +kernel
theorem dX4_gives_68 : decode cX4_gives 68 = .ok (.iconst 0, 1) := by decide +kernel
theorem dX4_gives_69 : decode cX4_gives 69 = .ok (.istore 7, 2) := by decide +kernel
theorem dX4_gives_71 : decode cX4_gives 71 = .ok (.iconst 0, 1) := by decide +kernel
theorem dX4_gives_72 : decode cX4_gives 72 = .ok (.istore 8, 2) := by decide +kernel
theorem dX4_gives_74 : decode cX4_gives 74 = .ok (.iload 8, 2) := by decide +kernel
theorem dX4_gives_76 : decode cX4_gives 76 = .ok (.aload_n 0, 1) := by decide +kernel
theorem dX4_gives_77 : decode cX4_gives 77 = .ok (.getfield 39, 3) := by decide +kernel
theorem dX4_gives_80 : decode cX4_gives 80 = .ok (.if_icmp .ge 224, 3) := by decide +kernel
theorem dX4_gives_83 : decode cX4_gives 83 = .ok (.aload_n 0, 1) := by decide +kernel
theorem dX4_gives_84 : decode cX4_gives 84 = .ok (.getfield 19, 3) := by decide +kernel
theorem dX4_gives_87 : decode cX4_gives 87 = .ok (.iload 8, 2) := by decide +kernel
theorem dX4_gives_89 : decode cX4_gives 89 = .ok (.iaload, 1) := by decide +kernel
theorem dX4_gives_90 : decode cX4_gives 90 = .ok (.istore 9, 2) := by decide +kernel
theorem dX4_gives_92 : decode cX4_gives 92 = .ok (.iload 9, 2) := by decide +kernel
theorem dX4_gives_94 : decode cX4_gives 94 = .ok (.aload_n 0, 1) := by decide +kernel
theorem dX4_gives_95 : decode cX4_gives 95 = .ok (.getfield 13, 3) := by decide +kernel
theorem dX4_gives_98 : decode cX4_gives 98 = .ok (.arraylength, 1) := by decide +kernel
theorem dX4_gives_99 : decode cX4_gives 99 = .ok (.ineg, 1) := by decide +kernel
theorem dX4_gives_100 : decode cX4_gives 100 = .ok (.if_icmp .lt 44, 3) := by decide +kernel
theorem dX4_gives_103 : decode cX4_gives 103 = .ok (.iload 7, 2) := by decide +kernel
theorem dX4_gives_105 : decode cX4_gives 105 = .ok (.bipush 64, 2) := by decide +kernel
theorem dX4_gives_107 : decode cX4_gives 107 = .ok (.if_icmp .lt 5, 3) := by decide +kernel
theorem dX4_gives_110 : decode cX4_gives 110 = .ok (.iconst 0, 1) := by decide +kernel
theorem dX4_gives_111 : decode cX4_gives 111 = .ok (.ireturn, 1) := by decide +kernel
theorem dX4_gives_112 : decode cX4_gives 112 = .ok (.aload_n 0, 1) := by decide +kernel
theorem dX4_gives_113 : decode cX4_gives 113 = .ok (.getfield 16, 3) := by decide +kernel
theorem dX4_gives_116 : decode cX4_gives 116 = .ok (.iload 7, 2) := by decide +kernel
theorem dX4_gives_118 : decode cX4_gives 118 = .ok (.iload 9, 2) := by decide +kernel
theorem dX4_gives_120 : decode cX4_gives 120 = .ok (.ifCond .lt 8, 3) := by decide +kernel
theorem dX4_gives_123 : decode cX4_gives 123 = .ok (.iload 9, 2) := by decide +kernel
theorem dX4_gives_125 : decode cX4_gives 125 = .ok (.goto 12, 3) := by decide +kernel
theorem dX4_gives_128 : decode cX4_gives 128 = .ok (.aload_n 0, 1) := by decide +kernel
theorem dX4_gives_129 : decode cX4_gives 129 = .ok (.getfield 13, 3) := by decide +kernel
theorem dX4_gives_132 : decode cX4_gives 132 = .ok (.iconst (-1), 1) := by decide +kernel
theorem dX4_gives_133 : decode cX4_gives 133 = .ok (.iload 9, 2) := by decide +kernel
theorem dX4_gives_135 : decode cX4_gives 135 = .ok (.isub, 1) := by decide +kernel
theorem dX4_gives_136 : decode cX4_gives 136 = .ok (.iaload, 1) := by decide +kernel
theorem dX4_gives_137 : decode cX4_gives 137 = .ok (.iastore, 1) := by decide +kernel
theorem dX4_gives_138 : decode cX4_gives 138 = .ok (.iinc 7 1, 3) := by decide +kernel
theorem dX4_gives_141 : decode cX4_gives 141 = .ok (.goto 157, 3) := by decide +kernel
theorem dX4_gives_144 : decode cX4_gives 144 = .ok (.iload 7, 2) := by decide +kernel
theorem dX4_gives_146 : decode cX4_gives 146 = .ok (.iconst 1, 1) := by decide +kernel
theorem dX4_gives_147 : decode cX4_gives 147 = .ok (.if_icmp .ge 5, 3) := by decide +kernel
theorem dX4_gives_150 : decode cX4_gives 150 = .ok (.iconst 0, 1) := by decide +kernel
theorem dX4_gives_151 : decode cX4_gives 151 = .ok (.ireturn, 1) := by decide +kernel
theorem dX4_gives_152 : decode cX4_gives 152 = .ok (.aload_n 0, 1) := by decide +kernel
theorem dX4_gives_153 : decode cX4_gives 153 = .ok (.getfield 16, 3) := by decide +kernel
theorem dX4_gives_156 : decode cX4_gives 156 = .ok (.iload 7, 2) := by decide +kernel
theorem dX4_gives_158 : decode cX4_gives 158 = .ok (.iconst 1, 1) := by decide +kernel
theorem dX4_gives_159 : decode cX4_gives 159 = .ok (.isub, 1) := by decide +kernel
theorem dX4_gives_160 : decode cX4_gives 160 = .ok (.iaload, 1) := by decide +kernel
theorem dX4_gives_161 : decode cX4_gives 161 = .ok (.istore 10, 2) := by decide +kernel
theorem dX4_gives_163 : decode cX4_gives 163 = .ok (.iload 9, 2) := by decide +kernel
theorem dX4_gives_165 : decode cX4_gives 165 = .ok (.bipush (-59), 2) := by decide +kernel
theorem dX4_gives_167 : decode cX4_gives 167 = .ok (.if_icmp .ne 6, 3) := by decide +kernel
theorem dX4_gives_170 : decode cX4_gives 170 = .ok (.iload 10, 2) := by decide +kernel
theorem dX4_gives_172 : decode cX4_gives 172 = .ok (.ireturn, 1) := by decide +kernel
theorem dX4_gives_173 : decode cX4_gives 173 = .ok (.iload 9, 2) := by decide +kernel
theorem dX4_gives_175 : decode cX4_gives 175 = .ok (.sipush (-1000), 3) := by decide +kernel
theorem dX4_gives_178 : decode cX4_gives 178 = .ok (.if_icmp .gt 34, 3) := by decide +kernel
theorem dX4_gives_181 : decode cX4_gives 181 = .ok (.iinc 7 (-1), 3) := by decide +kernel
theorem dX4_gives_184 : decode cX4_gives 184 = .ok (.iload 10, 2) := by decide +kernel
theorem dX4_gives_186 : decode cX4_gives 186 = .ok (.ifCond .eq 8, 3) := by decide +kernel
theorem dX4_gives_189 : decode cX4_gives 189 = .ok (.iload 8, 2) := by decide +kernel
theorem dX4_gives_191 : decode cX4_gives 191 = .ok (.goto 16, 3) := by decide +kernel
theorem dX4_gives_194 : decode cX4_gives 194 = .ok (.iload 8, 2) := by decide +kernel
theorem dX4_gives_196 : decode cX4_gives 196 = .ok (.sipush (-1000), 3) := by decide +kernel
theorem dX4_gives_199 : decode cX4_gives 199 = .ok (.iload 9, 2) := by decide +kernel
theorem dX4_gives_201 : decode cX4_gives 201 = .ok (.isub, 1) := by decide +kernel
theorem dX4_gives_202 : decode cX4_gives 202 = .ok (.iconst 1, 1) := by decide +kernel
theorem dX4_gives_203 : decode cX4_gives 203 = .ok (.isub, 1) := by decide +kernel
theorem dX4_gives_204 : decode cX4_gives 204 = .ok (.invokestatic 91, 3) := by decide +kernel
theorem dX4_gives_207 : decode cX4_gives 207 = .ok (.istore 8, 2) := by decide +kernel
theorem dX4_gives_209 : decode cX4_gives 209 = .ok (.goto 89, 3) := by decide +kernel
theorem dX4_gives_212 : decode cX4_gives 212 = .ok (.iload 9, 2) := by decide +kernel
theorem dX4_gives_214 : decode cX4_gives 214 = .ok (.bipush (-33), 2) := by decide +kernel
theorem dX4_gives_216 : decode cX4_gives 216 = .ok (.if_icmp .eq 10, 3) := by decide +kernel
theorem dX4_gives_219 : decode cX4_gives 219 = .ok (.iload 9, 2) := by decide +kernel
theorem dX4_gives_221 : decode cX4_gives 221 = .ok (.bipush (-126), 2) := by decide +kernel
theorem dX4_gives_223 : decode cX4_gives 223 = .ok (.if_icmp .ne 38, 3) := by decide +kernel
theorem dX4_gives_226 : decode cX4_gives 226 = .ok (.aload_n 0, 1) := by decide +kernel
theorem dX4_gives_227 : decode cX4_gives 227 = .ok (.getfield 16, 3) := by decide +kernel
theorem dX4_gives_230 : decode cX4_gives 230 = .ok (.iload 7, 2) := by decide +kernel
theorem dX4_gives_232 : decode cX4_gives 232 = .ok (.iconst 1, 1) := by decide +kernel
theorem dX4_gives_233 : decode cX4_gives 233 = .ok (.isub, 1) := by decide +kernel
theorem dX4_gives_234 : decode cX4_gives 234 = .ok (.iload 9, 2) := by decide +kernel
theorem dX4_gives_236 : decode cX4_gives 236 = .ok (.bipush (-126), 2) := by decide +kernel
theorem dX4_gives_238 : decode cX4_gives 238 = .ok (.if_icmp .ne 9, 3) := by decide +kernel
theorem dX4_gives_241 : decode cX4_gives 241 = .ok (.iload 10, 2) := by decide +kernel
theorem dX4_gives_243 : decode cX4_gives 243 = .ok (.ineg, 1) := by decide +kernel
theorem dX4_gives_244 : decode cX4_gives 244 = .ok (.goto 13, 3) := by decide +kernel
theorem dX4_gives_247 : decode cX4_gives 247 = .ok (.iload 10, 2) := by decide +kernel
theorem dX4_gives_249 : decode cX4_gives 249 = .ok (.ifCond .ne 7, 3) := by decide +kernel
theorem dX4_gives_252 : decode cX4_gives 252 = .ok (.iconst 1, 1) := by decide +kernel
theorem dX4_gives_253 : decode cX4_gives 253 = .ok (.goto 4, 3) := by decide +kernel
theorem dX4_gives_256 : decode cX4_gives 256 = .ok (.iconst 0, 1) := by decide +kernel
theorem dX4_gives_257 : decode cX4_gives 257 = .ok (.iastore, 1) := by decide +kernel
theorem dX4_gives_258 : decode cX4_gives 258 = .ok (.goto 40, 3) := by decide +kernel
theorem dX4_gives_261 : decode cX4_gives 261 = .ok (.iload 7, 2) := by decide +kernel
theorem dX4_gives_263 : decode cX4_gives 263 = .ok (.iconst 2, 1) := by decide +kernel
theorem dX4_gives_264 : decode cX4_gives 264 = .ok (.if_icmp .ge 5, 3) := by decide +kernel
theorem dX4_gives_267 : decode cX4_gives 267 = .ok (.iconst 0, 1) := by decide +kernel
theorem dX4_gives_268 : decode cX4_gives 268 = .ok (.ireturn, 1) := by decide +kernel
theorem dX4_gives_269 : decode cX4_gives 269 = .ok (.iinc 7 (-1), 3) := by decide +kernel
theorem dX4_gives_272 : decode cX4_gives 272 = .ok (.aload_n 0, 1) := by decide +kernel
theorem dX4_gives_273 : decode cX4_gives 273 = .ok (.getfield 16, 3) := by decide +kernel
theorem dX4_gives_276 : decode cX4_gives 276 = .ok (.iload 7, 2) := by decide +kernel
theorem dX4_gives_278 : decode cX4_gives 278 = .ok (.iconst 1, 1) := by decide +kernel
theorem dX4_gives_279 : decode cX4_gives 279 = .ok (.isub, 1) := by decide +kernel
theorem dX4_gives_280 : decode cX4_gives 280 = .ok (.iload 9, 2) := by decide +kernel
theorem dX4_gives_282 : decode cX4_gives 282 = .ok (.ineg, 1) := by decide +kernel
theorem dX4_gives_283 : decode cX4_gives 283 = .ok (.aload_n 0, 1) := by decide +kernel
theorem dX4_gives_284 : decode cX4_gives 284 = .ok (.getfield 16, 3) := by decide +kernel
theorem dX4_gives_287 : decode cX4_gives 287 = .ok (.iload 7, 2) := by decide +kernel
theorem dX4_gives_289 : decode cX4_gives 289 = .ok (.iconst 1, 1) := by decide +kernel
theorem dX4_gives_290 : decode cX4_gives 290 = .ok (.isub, 1) := by decide +kernel
theorem dX4_gives_291 : decode cX4_gives 291 = .ok (.iaload, 1) := by decide +kernel
theorem dX4_gives_292 : decode cX4_gives 292 = .ok (.iload 10, 2) := by decide +kernel
theorem dX4_gives_294 : decode cX4_gives 294 = .ok (.invokestatic 94, 3) := by decide +kernel
theorem dX4_gives_297 : decode cX4_gives 297 = .ok (.iastore, 1) := by decide +kernel
theorem dX4_gives_298 : decode cX4_gives 298 = .ok (.iinc 8 1, 3) := by decide +kernel
theorem dX4_gives_301 : decode cX4_gives 301 = .ok (.goto (-227), 3) := by decide +kernel
theorem dX4_gives_304 : decode cX4_gives 304 = .ok (.iconst 0, 1) := by decide +kernel
theorem dX4_gives_305 : decode cX4_gives 305 = .ok (.ireturn, 1) := by decide +kernel
theorem bX4_gives_298 {K : KT} {g : GT} {cm sm : Nat} {cs : Nat × Nat} {c0 : Nat} {x1 : Int} {x2 : Int} {x3 : Int} {x4 : Int} {x5 : Int} {x6 : Int} {k74 : Int → Int → St → Option (Int × St)} {r : Int} {σ' : St} (hC : Ctx K g RX4 cX4_gives 11 1 cm sm) (hcs : cs.1 ≤ cm ∧ cs.2 ≤ sm) (h0 : isO 4 c0 = true) (hk74 : ∀ (x7 : Int) (x8 : Int) (σ : St), k74 x7 x8 σ = some (r, σ') → G K g 11 cs 74 [(0, vr c0), (1, vi x1), (2, vi x2), (3, vi x3), (4, vi x4), (5, vi x5), (6, vi x6), (7, vi x7), (8, vi x8)] [] (SH0, σ)) (hR : RetI K g cX4_gives 11 cs r (SH0, σ')) : ∀ (x7 : Int) (x8 : Int) (σ : St), fX4_gives_298 c0 x1 x2 x3 x4 x5 x6 k74 x7 x8 σ = some (r, σ') → G K g 11 cs 298 [(0, vr c0), (1, vi x1), (2, vi x2), (3, vi x3), (4, vi x4), (5, vi x5), (6, vi x6), (7, vi x7), (8, vi x8)] [] (SH0, σ) := by
  intro x7 x8 σ h
  unfold fX4_gives_298 at h
  refine g_iinc hC dX4_gives_298 8 rfl (Nat.le_of_ble_eq_true rfl) rfl ?_
  refine g_goto hC dX4_gives_301 (tgt := 74) (by decide) ?_
  exact g_pick [1, 2, 3, 4, 5, 6, 7, 8, 0] rfl (hk74 _ _ _ h)
theorem bX4_gives_137 {K : KT} {g : GT} {cm sm : Nat} {cs : Nat × Nat} {c0 : Nat} {x1 : Int} {x2 : Int} {x3 : Int} {x4 : Int} {x5 : Int} {x6 : Int} {k74 : Int → Int → St → Option (Int × St)} {r : Int} {σ' : St} (hC : Ctx K g RX4 cX4_gives 11 1 cm sm) (hcs : cs.1 ≤ cm ∧ cs.2 ≤ sm) (h0 : isO 4 c0 = true) (hk74 : ∀ (x7 : Int) (x8 : Int) (σ : St), k74 x7 x8 σ = some (r, σ') → G K g 11 cs 74 [(0, vr c0), (1, vi x1), (2, vi x2), (3, vi x3), (4, vi x4), (5, vi x5), (6, vi x6), (7, vi x7), (8, vi x8)] [] (SH0, σ)) (hR : RetI K g cX4_gives 11 cs r (SH0, σ')) : ∀ (x7 : Int) (x8 : Int) (d0 : Nat) (y1 : Int) (y2 : Int) (σ : St), isA 1 d0 = true → fX4_gives_137 c0 x1 x2 x3 x4 x5 x6 k74 x7 x8 d0 y1 y2 σ = some (r, σ') → G K g 11 cs 137 [(0, vr c0), (1, vi x1), (2, vi x2), (3, vi x3), (4, vi x4), (5, vi x5), (6, vi x6), (7, vi x7), (8, vi x8)] [vi y2, vi y1, vr d0] (SH0, σ) := by
  intro x7 x8 d0 y1 y2 σ hd0 h
  unfold fX4_gives_137 at h
  obtain ⟨b9, h⟩ := of_ite h
  refine g_iast hC dX4_gives_137 (isA_spec hd0) b9 ?_
  refine g_iinc hC dX4_gives_138 7 rfl (Nat.le_of_ble_eq_true rfl) rfl ?_
  refine g_goto hC dX4_gives_141 (tgt := 298) (by decide) ?_
  exact g_pick [1, 2, 3, 4, 5, 6, 7, 0, 8] rfl (bX4_gives_298 hC hcs h0 hk74 hR _ _ _ h)
theorem bX4_gives_207 {K : KT} {g : GT} {cm sm : Nat} {cs : Nat × Nat} {c0 : Nat} {x1 : Int} {x2 : Int} {x3 : Int} {x4 : Int} {x5 : Int} {x6 : Int} {k74 : Int → Int → St → Option (Int × St)} {r : Int} {σ' : St} (hC : Ctx K g RX4 cX4_gives 11 1 cm sm) (hcs : cs.1 ≤ cm ∧ cs.2 ≤ sm) (h0 : isO 4 c0 = true) (hk74 : ∀ (x7 : Int) (x8 : Int) (σ : St), k74 x7 x8 σ = some (r, σ') → G K g 11 cs 74 [(0, vr c0), (1, vi x1), (2, vi x2), (3, vi x3), (4, vi x4), (5, vi x5), (6, vi x6), (7, vi x7), (8, vi x8)] [] (SH0, σ)) (hR : RetI K g cX4_gives 11 cs r (SH0, σ')) : ∀ (x7 : Int) (y0 : Int) (σ : St), fX4_gives_207 c0 x1 x2 x3 x4 x5 x6 k74 x7 y0 σ = some (r, σ') → G K g 11 cs 207 [(0, vr c0), (1, vi x1), (2, vi x2), (3, vi x3), (4, vi x4), (5, vi x5), (6, vi x6), (7, vi x7)] [vi y0] (SH0, σ) := by
  intro x7 y0 σ h
  unfold fX4_gives_207 at h
  refine g_istore hC dX4_gives_207 (Nat.le_of_ble_eq_true rfl) rfl ?_
  refine g_goto hC dX4_gives_209 (tgt := 298) (by decide) ?_
  exact g_pick [1, 2, 3, 4, 5, 6, 7, 8, 0] rfl (bX4_gives_298 hC hcs h0 hk74 hR _ _ _ h)
theorem bX4_gives_257 {K : KT} {g : GT} {cm sm : Nat} {cs : Nat × Nat} {c0 : Nat} {x1 : Int} {x2 : Int} {x3 : Int} {x4 : Int} {x5 : Int} {x6 : Int} {k74 : Int → Int → St → Option (Int × St)} {r : Int} {σ' : St} (hC : Ctx K g RX4 cX4_gives 11 1 cm sm) (hcs : cs.1 ≤ cm ∧ cs.2 ≤ sm) (h0 : isO 4 c0 = true) (hk74 : ∀ (x7 : Int) (x8 : Int) (σ : St), k74 x7 x8 σ = some (r, σ') → G K g 11 cs 74 [(0, vr c0), (1, vi x1), (2, vi x2), (3, vi x3), (4, vi x4), (5, vi x5), (6, vi x6), (7, vi x7), (8, vi x8)] [] (SH0, σ)) (hR : RetI K g cX4_gives 11 cs r (SH0, σ')) : ∀ (x7 : Int) (x8 : Int) (d0 : Nat) (y1 : Int) (y2 : Int) (σ : St), isA 1 d0 = true → fX4_gives_257 c0 x1 x2 x3 x4 x5 x6 k74 x7 x8 d0 y1 y2 σ = some (r, σ') → G K g 11 cs 257 [(0, vr c0), (1, vi x1), (2, vi x2), (3, vi x3), (4, vi x4), (5, vi x5), (6, vi x6), (7, vi x7), (8, vi x8)] [vi y2, vi y1, vr d0] (SH0, σ) := by
  intro x7 x8 d0 y1 y2 σ hd0 h
  unfold fX4_gives_257 at h
  obtain ⟨b9, h⟩ := of_ite h
  refine g_iast hC dX4_gives_257 (isA_spec hd0) b9 ?_
  refine g_goto hC dX4_gives_258 (tgt := 298) (by decide) ?_
  exact g_pick [0, 1, 2, 3, 4, 5, 6, 7, 8] rfl (bX4_gives_298 hC hcs h0 hk74 hR _ _ _ h)
theorem bX4_gives_226 {K : KT} {g : GT} {cm sm : Nat} {cs : Nat × Nat} {c0 : Nat} {x1 : Int} {x2 : Int} {x3 : Int} {x4 : Int} {x5 : Int} {x6 : Int} {k74 : Int → Int → St → Option (Int × St)} {r : Int} {σ' : St} (hC : Ctx K g RX4 cX4_gives 11 1 cm sm) (hcs : cs.1 ≤ cm ∧ cs.2 ≤ sm) (h0 : isO 4 c0 = true) (hk74 : ∀ (x7 : Int) (x8 : Int) (σ : St), k74 x7 x8 σ = some (r, σ') → G K g 11 cs 74 [(0, vr c0), (1, vi x1), (2, vi x2), (3, vi x3), (4, vi x4), (5, vi x5), (6, vi x6), (7, vi x7), (8, vi x8)] [] (SH0, σ)) (hR : RetI K g cX4_gives 11 cs r (SH0, σ')) : ∀ (x7 : Int) (x8 : Int) (x9 : Int) (x10 : Int) (σ : St), fX4_gives_226 c0 x1 x2 x3 x4 x5 x6 k74 x7 x8 x9 x10 σ = some (r, σ') → G K g 11 cs 226 [(0, vr c0), (1, vi x1), (2, vi x2), (3, vi x3), (4, vi x4), (5, vi x5), (6, vi x6), (7, vi x7), (8, vi x8), (9, vi x9), (10, vi x10)] [] (SH0, σ) := by
  intro x7 x8 x9 x10 σ h
  unfold fX4_gives_226 at h
  refine g_aload_n hC dX4_gives_226 0 rfl rfl ?_
  refine g_getr hC dX4_gives_227 lfRX4_16 (isO_spec h0) (ft_4_2 h0) ?_
  refine g_iload hC dX4_gives_230 7 rfl ?_
  refine g_iconst hC dX4_gives_232 ok_1 ?_
  refine g_isub hC dX4_gives_233 ?_
  refine g_iload hC dX4_gives_234 9 rfl ?_
  refine g_bipush hC dX4_gives_236 bp_m126 ?_
  refine g_icmp_ne hC dX4_gives_238 (tgt := 247) (by decide) (fun h9 => ?_) (fun h9 => ?_)
  · rw [if_neg h9] at h
    refine g_iload hC dX4_gives_247 10 rfl ?_
    refine g_if_ne hC dX4_gives_249 (tgt := 256) (by decide) (fun h9 => ?_) (fun h9 => ?_)
    · rw [if_neg h9] at h
      refine g_iconst hC dX4_gives_256 ok_0 ?_
      exact g_pick [0, 1, 2, 3, 4, 5, 6, 7, 8] rfl (bX4_gives_257 hC hcs h0 hk74 hR _ _ _ _ _ _ (rf_4_2 h0) h)
    · rw [if_pos h9] at h
      refine g_iconst hC dX4_gives_252 ok_1 ?_
      refine g_goto hC dX4_gives_253 (tgt := 257) (by decide) ?_
      exact g_pick [0, 1, 2, 3, 4, 5, 6, 7, 8] rfl (bX4_gives_257 hC hcs h0 hk74 hR _ _ _ _ _ _ (rf_4_2 h0) h)
  · rw [if_pos h9] at h
    refine g_iload hC dX4_gives_241 10 rfl ?_
    refine g_ineg hC dX4_gives_243 ?_
    refine g_goto hC dX4_gives_244 (tgt := 257) (by decide) ?_
    exact g_pick [0, 1, 2, 3, 4, 5, 6, 7, 8] rfl (bX4_gives_257 hC hcs h0 hk74 hR _ _ _ _ _ _ (rf_4_2 h0) h)
theorem bX4_gives_74 {K : KT} {g : GT} {cm sm : Nat} {cs : Nat × Nat} {c0 : Nat} {x1 : Int} {x2 : Int} {x3 : Int} {x4 : Int} {x5 : Int} {x6 : Int} {r : Int} {σ' : St} (hC : Ctx K g RX4 cX4_gives 11 1 cm sm) (hcs : cs.1 ≤ cm ∧ cs.2 ≤ sm) (h0 : isO 4 c0 = true) (hR : RetI K g cX4_gives 11 cs r (SH0, σ')) : ∀ (n : Nat) (x7 : Int) (x8 : Int) (σ : St), fX4_gives_74 c0 x1 x2 x3 x4 x5 x6 n x7 x8 σ = some (r, σ') → G K g 11 cs 74 [(0, vr c0), (1, vi x1), (2, vi x2), (3, vi x3), (4, vi x4), (5, vi x5), (6, vi x6), (7, vi x7), (8, vi x8)] [] (SH0, σ) := by
  intro n
  induction n with
  | zero =>
    intro x7 x8 σ h
    rw [fX4_gives_74.eq_1] at h
    cases h
  | succ n ih =>
    intro x7 x8 σ h
    rw [fX4_gives_74.eq_2] at h
    refine g_iload hC dX4_gives_74 8 rfl ?_
    refine g_aload_n hC dX4_gives_76 0 rfl rfl ?_
    refine g_geti hC dX4_gives_77 lfRX4_39 (isO_spec h0) (ft_4_8 h0) ?_
    refine g_icmp_ge hC dX4_gives_80 (tgt := 304) (by decide) (fun h9 => ?_) (fun h9 => ?_)
    · rw [if_pos h9] at h
      refine g_iconst hC dX4_gives_304 ok_0 ?_
      exact ret_i h hR dX4_gives_305
    · rw [if_neg h9] at h
      refine g_aload_n hC dX4_gives_83 0 rfl rfl ?_
      obtain ⟨b21, h⟩ := of_ite h
      refine g_getd hC dX4_gives_84 lfRX4_19 (isO_spec h0) (ft_4_3 h0) ?_
      refine g_iload hC dX4_gives_87 8 rfl ?_
      obtain ⟨b9, h⟩ := of_ite h
      refine g_iald hC dX4_gives_89 (isA_spec b21) b9 ?_
      refine g_istore hC dX4_gives_90 (Nat.le_of_ble_eq_true rfl) rfl ?_
      refine g_iload hC dX4_gives_92 0 rfl ?_
      refine g_aload_n hC dX4_gives_94 1 rfl rfl ?_
      refine g_getr hC dX4_gives_95 lfRX4_13 (isO_spec h0) (ft_4_1 h0) ?_
      refine g_alen hC dX4_gives_98 (Or.inl (isA_spec (rf_4_1 h0))) (ok_LN _) ?_
      refine g_ineg hC dX4_gives_99 ?_
      refine g_icmp_lt hC dX4_gives_100 (tgt := 144) (by decide) (fun h9 => ?_) (fun h9 => ?_)
      · rw [if_pos h9] at h
        refine g_iload hC dX4_gives_144 8 rfl ?_
        refine g_iconst hC dX4_gives_146 ok_1 ?_
        refine g_icmp_ge hC dX4_gives_147 (tgt := 152) (by decide) (fun h9 => ?_) (fun h9 => ?_)
        · rw [if_pos h9] at h
          refine g_aload_n hC dX4_gives_152 1 rfl rfl ?_
          refine g_getr hC dX4_gives_153 lfRX4_16 (isO_spec h0) (ft_4_2 h0) ?_
          refine g_iload hC dX4_gives_156 8 rfl ?_
          refine g_iconst hC dX4_gives_158 ok_1 ?_
          refine g_isub hC dX4_gives_159 ?_
          obtain ⟨b9, h⟩ := of_ite h
          refine g_iald hC dX4_gives_160 (isA_spec (rf_4_2 h0)) b9 ?_
          refine g_istore hC dX4_gives_161 (Nat.le_of_ble_eq_true rfl) rfl ?_
          refine g_iload hC dX4_gives_163 1 rfl ?_
          refine g_bipush hC dX4_gives_165 bp_m59 ?_
          refine g_icmp_ne hC dX4_gives_167 (tgt := 173) (by decide) (fun h9 => ?_) (fun h9 => ?_)
          · rw [if_neg h9] at h
            refine g_iload hC dX4_gives_173 1 rfl ?_
            refine g_sipush hC dX4_gives_175 sp_m1000 ?_
            refine g_icmp_gt hC dX4_gives_178 (tgt := 212) (by decide) (fun h9 => ?_) (fun h9 => ?_)
            · rw [if_pos h9] at h
              refine g_iload hC dX4_gives_212 1 rfl ?_
              refine g_bipush hC dX4_gives_214 bp_m33 ?_
              refine g_icmp_eq hC dX4_gives_216 (tgt := 226) (by decide) (fun h9 => ?_) (fun h9 => ?_)
              · rw [if_pos h9] at h
                exact g_pick [2, 3, 4, 5, 6, 7, 8, 9, 10, 1, 0] rfl (bX4_gives_226 hC hcs h0 ih hR _ _ _ _ _ h)
              · rw [if_neg h9] at h
                refine g_iload hC dX4_gives_219 1 rfl ?_
                refine g_bipush hC dX4_gives_221 bp_m126 ?_
                refine g_icmp_ne hC dX4_gives_223 (tgt := 261) (by decide) (fun h9 => ?_) (fun h9 => ?_)
                · rw [if_neg h9] at h
                  refine g_iload hC dX4_gives_261 9 rfl ?_
                  refine g_iconst hC dX4_gives_263 ok_2 ?_
                  refine g_icmp_ge hC dX4_gives_264 (tgt := 269) (by decide) (fun h9 => ?_) (fun h9 => ?_)
                  · rw [if_pos h9] at h
                    refine g_iinc hC dX4_gives_269 9 rfl (Nat.le_of_ble_eq_true rfl) rfl ?_
                    refine g_aload_n hC dX4_gives_272 3 rfl rfl ?_
                    refine g_getr hC dX4_gives_273 lfRX4_16 (isO_spec h0) (ft_4_2 h0) ?_
                    refine g_iload hC dX4_gives_276 0 rfl ?_
                    refine g_iconst hC dX4_gives_278 ok_1 ?_
                    refine g_isub hC dX4_gives_279 ?_
                    refine g_iload hC dX4_gives_280 2 rfl ?_
                    refine g_ineg hC dX4_gives_282 ?_
                    refine g_aload_n hC dX4_gives_283 3 rfl rfl ?_
                    refine g_getr hC dX4_gives_284 lfRX4_16 (isO_spec h0) (ft_4_2 h0) ?_
                    refine g_iload hC dX4_gives_287 0 rfl ?_
                    refine g_iconst hC dX4_gives_289 ok_1 ?_
                    refine g_isub hC dX4_gives_290 ?_
                    obtain ⟨b9, h⟩ := of_ite h
                    refine g_iald hC dX4_gives_291 (isA_spec (rf_4_2 h0)) b9 ?_
                    refine g_iload hC dX4_gives_292 1 rfl ?_
                    obtain ⟨⟨r2, s2⟩, e2, h⟩ := of_bind h
                    try dsimp only at h
                    refine s_callSi hC dX4_gives_294 (tX4_worked e2) miX4_worked msX4_worked mlRX4_94 rfl rfl (Nat.le_of_ble_eq_true rfl) (Nat.le_of_ble_eq_true rfl) (Nat.le_of_ble_eq_true rfl) hcs ?_
                    obtain ⟨b9, h⟩ := of_ite h
                    refine g_iast hC dX4_gives_297 (isA_spec (rf_4_2 h0)) b9 ?_
                    exact g_pick [3, 4, 5, 6, 7, 8, 9, 0, 10] rfl (bX4_gives_298 hC hcs h0 ih hR _ _ _ h)
                  · rw [if_neg h9] at h
                    refine g_iconst hC dX4_gives_267 ok_0 ?_
                    exact ret_i h hR dX4_gives_268
                · rw [if_pos h9] at h
                  exact g_pick [2, 3, 4, 5, 6, 7, 8, 9, 10, 1, 0] rfl (bX4_gives_226 hC hcs h0 ih hR _ _ _ _ _ h)
            · rw [if_neg h9] at h
              refine g_iinc hC dX4_gives_181 9 rfl (Nat.le_of_ble_eq_true rfl) rfl ?_
              refine g_iload hC dX4_gives_184 1 rfl ?_
              refine g_if_eq hC dX4_gives_186 (tgt := 194) (by decide) (fun h9 => ?_) (fun h9 => ?_)
              · rw [if_pos h9] at h
                refine g_iload hC dX4_gives_194 10 rfl ?_
                refine g_sipush hC dX4_gives_196 sp_m1000 ?_
                refine g_iload hC dX4_gives_199 2 rfl ?_
                refine g_isub hC dX4_gives_201 ?_
                refine g_iconst hC dX4_gives_202 ok_1 ?_
                refine g_isub hC dX4_gives_203 ?_
                refine g_max hC dX4_gives_204 lmRX4_91 mx_1 mn_2 mx_3 (Nat.le_of_ble_eq_true rfl) (Nat.le_of_ble_eq_true rfl) hcs ?_
                exact g_pick [3, 4, 5, 6, 7, 8, 9, 0] rfl (bX4_gives_207 hC hcs h0 ih hR _ _ _ h)
              · rw [if_neg h9] at h
                refine g_iload hC dX4_gives_189 10 rfl ?_
                refine g_goto hC dX4_gives_191 (tgt := 207) (by decide) ?_
                exact g_pick [3, 4, 5, 6, 7, 8, 9, 0] rfl (bX4_gives_207 hC hcs h0 ih hR _ _ _ h)
          · rw [if_pos h9] at h
            refine g_iload hC dX4_gives_170 0 rfl ?_
            exact ret_i h hR dX4_gives_172
        · rw [if_neg h9] at h
          refine g_iconst hC dX4_gives_150 ok_0 ?_
          exact ret_i h hR dX4_gives_151
      · rw [if_neg h9] at h
        refine g_iload hC dX4_gives_103 8 rfl ?_
        refine g_bipush hC dX4_gives_105 bp_64 ?_
        refine g_icmp_lt hC dX4_gives_107 (tgt := 112) (by decide) (fun h9 => ?_) (fun h9 => ?_)
        · rw [if_pos h9] at h
          refine g_aload_n hC dX4_gives_112 1 rfl rfl ?_
          refine g_getr hC dX4_gives_113 lfRX4_16 (isO_spec h0) (ft_4_2 h0) ?_
          refine g_iload hC dX4_gives_116 8 rfl ?_
          refine g_iload hC dX4_gives_118 0 rfl ?_
          refine g_if_lt hC dX4_gives_120 (tgt := 128) (by decide) (fun h9 => ?_) (fun h9 => ?_)
          · rw [if_pos h9] at h
            refine g_aload_n hC dX4_gives_128 1 rfl rfl ?_
            refine g_getr hC dX4_gives_129 lfRX4_13 (isO_spec h0) (ft_4_1 h0) ?_
            refine g_iconst hC dX4_gives_132 ok_m1 ?_
            refine g_iload hC dX4_gives_133 0 rfl ?_
            refine g_isub hC dX4_gives_135 ?_
            obtain ⟨b9, h⟩ := of_ite h
            refine g_iald hC dX4_gives_136 (isA_spec (rf_4_1 h0)) b9 ?_
            exact g_pick [1, 2, 3, 4, 5, 6, 7, 8, 9] rfl (bX4_gives_137 hC hcs h0 ih hR _ _ _ _ _ _ (rf_4_2 h0) h)
          · rw [if_neg h9] at h
            refine g_iload hC dX4_gives_123 0 rfl ?_
            refine g_goto hC dX4_gives_125 (tgt := 137) (by decide) ?_
            exact g_pick [1, 2, 3, 4, 5, 6, 7, 8, 9] rfl (bX4_gives_137 hC hcs h0 ih hR _ _ _ _ _ _ (rf_4_2 h0) h)
        · rw [if_neg h9] at h
          refine g_iconst hC dX4_gives_110 ok_0 ?_
          exact ret_i h hR dX4_gives_111
theorem bX4_gives_0 {K : KT} {g : GT} {cm sm : Nat} {cs : Nat × Nat} {c0 : Nat} {x1 : Int} {x2 : Int} {x3 : Int} {x4 : Int} {x5 : Int} {x6 : Int} {r : Int} {σ' : St} (hC : Ctx K g RX4 cX4_gives 11 1 cm sm) (hcs : cs.1 ≤ cm ∧ cs.2 ≤ sm) (h0 : isO 4 c0 = true) (hR : RetI K g cX4_gives 11 cs r (SH0, σ')) : ∀ (σ : St), fX4_gives c0 x1 x2 x3 x4 x5 x6 σ = some (r, σ') → G K g 11 cs 0 [(0, vr c0), (1, vi x1), (2, vi x2), (3, vi x3), (4, vi x4), (5, vi x5), (6, vi x6)] [] (SH0, σ) := by
  intro σ h
  unfold fX4_gives at h
  refine g_aload_n hC dX4_gives_0 0 rfl rfl ?_
  refine g_getz hC dX4_gives_1 lfRX4_42 (isO_spec h0) (ft_4_9 h0) ?_
  refine g_if_ne hC dX4_gives_4 (tgt := 23) (by decide) (fun h9 => ?_) (fun h9 => ?_)
  · rw [if_neg h9] at h
    refine g_aload_n hC dX4_gives_23 0 rfl rfl ?_
    refine g_getr hC dX4_gives_24 lfRX4_13 (isO_spec h0) (ft_4_1 h0) ?_
    refine g_iconst hC dX4_gives_27 ok_0 ?_
    refine g_iload_n hC dX4_gives_28 1 rfl rfl ?_
    obtain ⟨b9, h⟩ := of_ite h
    refine g_iast hC dX4_gives_29 (isA_spec (rf_4_1 h0)) b9 ?_
    refine g_aload_n hC dX4_gives_30 0 rfl rfl ?_
    refine g_getr hC dX4_gives_31 lfRX4_13 (isO_spec h0) (ft_4_1 h0) ?_
    refine g_iconst hC dX4_gives_34 ok_1 ?_
    refine g_iload_n hC dX4_gives_35 2 rfl rfl ?_
    obtain ⟨b9, h⟩ := of_ite h
    refine g_iast hC dX4_gives_36 (isA_spec (rf_4_1 h0)) b9 ?_
    refine g_aload_n hC dX4_gives_37 0 rfl rfl ?_
    refine g_getr hC dX4_gives_38 lfRX4_13 (isO_spec h0) (ft_4_1 h0) ?_
    refine g_iconst hC dX4_gives_41 ok_2 ?_
    refine g_iload_n hC dX4_gives_42 3 rfl rfl ?_
    obtain ⟨b9, h⟩ := of_ite h
    refine g_iast hC dX4_gives_43 (isA_spec (rf_4_1 h0)) b9 ?_
    refine g_aload_n hC dX4_gives_44 0 rfl rfl ?_
    refine g_getr hC dX4_gives_45 lfRX4_13 (isO_spec h0) (ft_4_1 h0) ?_
    refine g_iconst hC dX4_gives_48 ok_3 ?_
    refine g_iload hC dX4_gives_49 4 rfl ?_
    obtain ⟨b9, h⟩ := of_ite h
    refine g_iast hC dX4_gives_51 (isA_spec (rf_4_1 h0)) b9 ?_
    refine g_aload_n hC dX4_gives_52 0 rfl rfl ?_
    refine g_getr hC dX4_gives_53 lfRX4_13 (isO_spec h0) (ft_4_1 h0) ?_
    refine g_iconst hC dX4_gives_56 ok_4 ?_
    refine g_iload hC dX4_gives_57 5 rfl ?_
    obtain ⟨b9, h⟩ := of_ite h
    refine g_iast hC dX4_gives_59 (isA_spec (rf_4_1 h0)) b9 ?_
    refine g_aload_n hC dX4_gives_60 0 rfl rfl ?_
    refine g_getr hC dX4_gives_61 lfRX4_13 (isO_spec h0) (ft_4_1 h0) ?_
    refine g_iconst hC dX4_gives_64 ok_5 ?_
    refine g_iload hC dX4_gives_65 6 rfl ?_
    obtain ⟨b9, h⟩ := of_ite h
    refine g_iast hC dX4_gives_67 (isA_spec (rf_4_1 h0)) b9 ?_
    refine g_iconst hC dX4_gives_68 ok_0 ?_
    refine g_istore hC dX4_gives_69 (Nat.le_of_ble_eq_true rfl) rfl ?_
    refine g_iconst hC dX4_gives_71 ok_0 ?_
    refine g_istore hC dX4_gives_72 (Nat.le_of_ble_eq_true rfl) rfl ?_
    exact g_pick [2, 3, 4, 5, 6, 7, 8, 1, 0] rfl (bX4_gives_74 hC hcs h0 hR _ _ _ _ h)
  · rw [if_pos h9] at h
    refine g_iload_n hC dX4_gives_7 1 rfl rfl ?_
    refine g_iload hC dX4_gives_8 4 rfl ?_
    refine g_imul hC dX4_gives_10 ?_
    refine g_iload_n hC dX4_gives_11 2 rfl rfl ?_
    refine g_iload_n hC dX4_gives_12 3 rfl rfl ?_
    refine g_iadd hC dX4_gives_13 ?_
    refine g_min hC dX4_gives_14 lmRX4_85 mn_1 mn_2 mn_3 (Nat.le_of_ble_eq_true rfl) (Nat.le_of_ble_eq_true rfl) hcs ?_
    refine g_iconst hC dX4_gives_17 ok_5 ?_
    refine g_iload hC dX4_gives_18 5 rfl ?_
    refine g_imul hC dX4_gives_20 ?_
    refine g_isub hC dX4_gives_21 ?_
    exact ret_i h hR dX4_gives_22
theorem tX4_gives {l : Launch} {g : GT} {c0 : Nat} {x1 : Int} {x2 : Int} {x3 : Int} {x4 : Int} {x5 : Int} {x6 : Int} {σ σ' : St} {r : Int} (h0 : isO 4 c0 = true) (h : fX4_gives c0 x1 x2 x3 x4 x5 x6 σ = some (r, σ')) : Cn l g yX4_gives cX4_gives 11 (some .int) 1 0 0 [vr c0, vi x1, vi x2, vi x3, vi x4, vi x5, vi x6] (SH0, σ) (some (vi r)) (SH0, σ') :=
  Cn.ofI (by decide) (Nat.le_of_ble_eq_true rfl) (fun K e hC hR => (bX4_gives_0 hC ⟨Nat.le_refl _, Nat.le_refl _⟩ h0 hR _ h))
theorem dX7_misses_0 : decode cX7_misses 0 = .ok (.aload_n 0, 1) := by decide +kernel
theorem dX7_misses_1 : decode cX7_misses 1 = .ok (.getfield 12, 3) := by decide +kernel
theorem dX7_misses_4 : decode cX7_misses 4 = .ok (.iload_n 1, 1) := by decide +kernel
theorem dX7_misses_5 : decode cX7_misses 5 = .ok (.invokevirtual 71, 3) := by decide +kernel
theorem dX7_misses_8 : decode cX7_misses 8 = .ok (.ifCond .eq 22, 3) := by decide +kernel
theorem dX7_misses_11 : decode cX7_misses 11 = .ok (.iload_n 2, 1) := by decide +kernel
theorem dX7_misses_12 : decode cX7_misses 12 = .ok (.ifCond .lt 18, 3) := by decide +kernel
theorem dX7_misses_15 : decode cX7_misses 15 = .ok (.iload_n 2, 1) := by decide +kernel
theorem dX7_misses_16 : decode cX7_misses 16 = .ok (.iconst 4, 1) := by decide +kernel
theorem dX7_misses_17 : decode cX7_misses 17 = .ok (.if_icmp .ge 13, 3) := by decide +kernel
theorem dX7_misses_20 : decode cX7_misses 20 = .ok (.iload_n 3, 1) := by decide +kernel
theorem dX7_misses_21 : decode cX7_misses 21 = .ok (.ifCond .lt 9, 3) := by decide +kernel
theorem dX7_misses_24 : decode cX7_misses 24 = .ok (.iload_n 3, 1) := by decide +kernel
theorem dX7_misses_25 : decode cX7_misses 25 = .ok (.bipush 9, 2) := by decide +kernel
theorem dX7_misses_27 : decode cX7_misses 27 = .ok (.if_icmp .lt 5, 3) := by decide +kernel
theorem dX7_misses_30 : decode cX7_misses 30 = .ok (.iconst 0, 1) := by decide +kernel
theorem dX7_misses_31 : decode cX7_misses 31 = .ok (.ireturn, 1) := by decide +kernel
theorem dX7_misses_32 : decode cX7_misses 32 = .ok (.iload_n 1, 1) := by decide +kernel
theorem dX7_misses_33 : decode cX7_misses 33 = .ok (.iconst 4, 1) := by decide +kernel
theorem dX7_misses_34 : decode cX7_misses 34 = .ok (.imul, 1) := by decide +kernel
theorem dX7_misses_35 : decode cX7_misses 35 = .ok (.iload_n 2, 1) := by decide +kernel
theorem dX7_misses_36 : decode cX7_misses 36 = .ok (.iadd, 1) := by decide +kernel
theorem dX7_misses_37 : decode cX7_misses 37 = .ok (.bipush 9, 2) := by decide +kernel
theorem dX7_misses_39 : decode cX7_misses 39 = .ok (.imul, 1) := by decide +kernel
theorem dX7_misses_40 : decode cX7_misses 40 = .ok (.iload_n 3, 1) := by decide +kernel
theorem dX7_misses_41 : decode cX7_misses 41 = .ok (.iadd, 1) := by decide +kernel
theorem dX7_misses_42 : decode cX7_misses 42 = .ok (.istore 4, 2) := by decide +kernel
theorem dX7_misses_44 : decode cX7_misses 44 = .ok (.aload_n 0, 1) := by decide +kernel
theorem dX7_misses_45 : decode cX7_misses 45 = .ok (.getfield 25, 3) := by decide +kernel
theorem dX7_misses_48 : decode cX7_misses 48 = .ok (.iload 4, 2) := by decide +kernel
theorem dX7_misses_50 : decode cX7_misses 50 = .ok (.iaload, 1) := by decide +kernel
theorem dX7_misses_51 : decode cX7_misses 51 = .ok (.iconst (-1), 1) := by decide +kernel
theorem dX7_misses_52 : decode cX7_misses 52 = .ok (.if_icmp .ne 77, 3) := by decide +kernel
theorem dX7_misses_55 : decode cX7_misses 55 = .ok (.aload_n 0, 1) := by decide +kernel
theorem dX7_misses_56 : decode cX7_misses 56 = .ok (.getfield 34, 3) := by decide +kernel
theorem dX7_misses_59 : decode cX7_misses 59 = .ok (.aload_n 0, 1) := by decide +kernel
theorem dX7_misses_60 : decode cX7_misses 60 = .ok (.getfield 12, 3) := by decide +kernel
theorem dX7_misses_63 : decode cX7_misses 63 = .ok (.iload_n 1, 1) := by decide +kernel
theorem dX7_misses_64 : decode cX7_misses 64 = .ok (.iconst 4, 1) := by decide +kernel
theorem dX7_misses_65 : decode cX7_misses 65 = .ok (.invokevirtual 67, 3) := by decide +kernel
theorem dX7_misses_68 : decode cX7_misses 68 = .ok (.aload_n 0, 1) := by decide +kernel
theorem dX7_misses_69 : decode cX7_misses 69 = .ok (.getfield 12, 3) := by decide +kernel
theorem dX7_misses_72 : decode cX7_misses 72 = .ok (.iload_n 1, 1) := by decide +kernel
theorem dX7_misses_73 : decode cX7_misses 73 = .ok (.iconst 5, 1) := by decide +kernel
theorem dX7_misses_74 : decode cX7_misses 74 = .ok (.invokevirtual 67, 3) := by decide +kernel
theorem dX7_misses_77 : decode cX7_misses 77 = .ok (.aload_n 0, 1) := by decide +kernel
theorem dX7_misses_78 : decode cX7_misses 78 = .ok (.getfield 12, 3) := by decide +kernel
theorem dX7_misses_81 : decode cX7_misses 81 = .ok (.iload_n 1, 1) := by decide +kernel
theorem dX7_misses_82 : decode cX7_misses 82 = .ok (.bipush 6, 2) := by decide +kernel
theorem dX7_misses_84 : decode cX7_misses 84 = .ok (.invokevirtual 67, 3) := by decide +kernel
theorem dX7_misses_87 : decode cX7_misses 87 = .ok (.aload_n 0, 1) := by decide +kernel
theorem dX7_misses_88 : decode cX7_misses 88 = .ok (.getfield 12, 3) := by decide +kernel
theorem dX7_misses_91 : decode cX7_misses 91 = .ok (.iload_n 1, 1) := by decide +kernel
theorem dX7_misses_92 : decode cX7_misses 92 = .ok (.bipush 9, 2) := by decide +kernel
theorem dX7_misses_94 : decode cX7_misses 94 = .ok (.iload_n 2, 1) := by decide +kernel
theorem dX7_misses_95 : decode cX7_misses 95 = .ok (.iadd, 1) := by decide +kernel
theorem dX7_misses_96 : decode cX7_misses 96 = .ok (.invokevirtual 67, 3) := by decide +kernel
theorem dX7_misses_99 : decode cX7_misses 99 = .ok (.iload_n 3, 1) := by decide +kernel
theorem dX7_misses_100 : decode cX7_misses 100 = .ok (.aload_n 0, 1) := by decide +kernel
theorem dX7_misses_101 : decode cX7_misses 101 = .ok (.getfield 22, 3) := by decide +kernel
theorem dX7_misses_104 : decode cX7_misses 104 = .ok (.iload_n 1, 1) := by decide +kernel
theorem dX7_misses_105 : decode cX7_misses 105 = .ok (.iaload, 1) := by decide +kernel
theorem dX7_misses_106 : decode cX7_misses 106 = .ok (.invokevirtual 79, 3) := by decide +kernel
theorem dX7_misses_109 : decode cX7_misses 109 = .ok (.istore 5, 2) := by decide +kernel
theorem dX7_misses_111 : decode cX7_misses 111 = .ok (.aload_n 0, 1) := by decide +kernel
theorem dX7_misses_112 : decode cX7_misses 112 = .ok (.getfield 25, 3) := by decide +kernel
theorem dX7_misses_115 : decode cX7_misses 115 = .ok (.iload 4, 2) := by decide +kernel
theorem dX7_misses_117 : decode cX7_misses 117 = .ok (.iconst 0, 1) := by decide +kernel
theorem dX7_misses_118 : decode cX7_misses 118 = .ok (.bipush 99, 2) := by decide +kernel
theorem dX7_misses_120 : decode cX7_misses 120 = .ok (.iload 5, 2) := by decide +kernel
theorem dX7_misses_122 : decode cX7_misses 122 = .ok (.invokestatic 85, 3) := by decide +kernel
theorem dX7_misses_125 : decode cX7_misses 125 = .ok (.invokestatic 90, 3) := by decide +kernel
theorem dX7_misses_128 : decode cX7_misses 128 = .ok (.iastore, 1) := by decide +kernel
theorem dX7_misses_129 : decode cX7_misses 129 = .ok (.aload_n 0, 1) := by decide +kernel
theorem dX7_misses_130 : decode cX7_misses 130 = .ok (.getfield 25, 3) := by decide +kernel
theorem dX7_misses_133 : decode cX7_misses 133 = .ok (.iload 4, 2) := by decide +kernel
theorem dX7_misses_135 : decode cX7_misses 135 = .ok (.iaload, 1) := by decide +kernel
theorem dX7_misses_136 : decode cX7_misses 136 = .ok (.ireturn, 1) := by decide +kernel
theorem bX7_misses_0 {K : KT} {g : GT} {cm sm : Nat} {cs : Nat × Nat} {c0 : Nat} {x1 : Int} {x2 : Int} {x3 : Int} {r : Int} {σ' : St} (hC : Ctx K g RX7 cX7_misses 6 2 cm sm) (hcs : cs.1 ≤ cm ∧ cs.2 ≤ sm) (h0 : isO 7 c0 = true) (hR : RetI K g cX7_misses 6 cs r (SH0, σ')) : ∀ (σ : St), fX7_misses c0 x1 x2 x3 σ = some (r, σ') → G K g 6 cs 0 [(0, vr c0), (1, vi x1), (2, vi x2), (3, vi x3)] [] (SH0, σ) := by
  intro σ h
  unfold fX7_misses at h
  refine g_aload_n hC dX7_misses_0 0 rfl rfl ?_
  refine g_getr hC dX7_misses_1 lfRX7_12 (isO_spec h0) (ft_7_0 h0) ?_
  refine g_iload_n hC dX7_misses_4 1 rfl rfl ?_
  obtain ⟨⟨r1, s1⟩, e1, h⟩ := of_bind h
  try dsimp only at h
  refine s_callVi hC dX7_misses_5 (tX2_hasBidder (rf_7_0 h0) e1) miX2_hasBidder mvX2_hasBidder mlRX7_71 (isO_spec (rf_7_0 h0)) vc_2 rfl rfl (Nat.le_of_ble_eq_true rfl) (Nat.le_of_ble_eq_true rfl) (Nat.le_of_ble_eq_true rfl) hcs ?_
  refine g_if_eq hC dX7_misses_8 (tgt := 30) (by decide) (fun h9 => ?_) (fun h9 => ?_)
  · rw [if_pos h9] at h
    refine g_iconst hC dX7_misses_30 ok_0 ?_
    exact ret_i h hR dX7_misses_31
  · rw [if_neg h9] at h
    refine g_iload_n hC dX7_misses_11 2 rfl rfl ?_
    refine g_if_lt hC dX7_misses_12 (tgt := 30) (by decide) (fun h9 => ?_) (fun h9 => ?_)
    · rw [if_pos h9] at h
      refine g_iconst hC dX7_misses_30 ok_0 ?_
      exact ret_i h hR dX7_misses_31
    · rw [if_neg h9] at h
      refine g_iload_n hC dX7_misses_15 2 rfl rfl ?_
      refine g_iconst hC dX7_misses_16 ok_4 ?_
      refine g_icmp_ge hC dX7_misses_17 (tgt := 30) (by decide) (fun h9 => ?_) (fun h9 => ?_)
      · rw [if_pos h9] at h
        refine g_iconst hC dX7_misses_30 ok_0 ?_
        exact ret_i h hR dX7_misses_31
      · rw [if_neg h9] at h
        refine g_iload_n hC dX7_misses_20 3 rfl rfl ?_
        refine g_if_lt hC dX7_misses_21 (tgt := 30) (by decide) (fun h9 => ?_) (fun h9 => ?_)
        · rw [if_pos h9] at h
          refine g_iconst hC dX7_misses_30 ok_0 ?_
          exact ret_i h hR dX7_misses_31
        · rw [if_neg h9] at h
          refine g_iload_n hC dX7_misses_24 3 rfl rfl ?_
          refine g_bipush hC dX7_misses_25 bp_9 ?_
          refine g_icmp_lt hC dX7_misses_27 (tgt := 32) (by decide) (fun h9 => ?_) (fun h9 => ?_)
          · rw [if_pos h9] at h
            refine g_iload_n hC dX7_misses_32 1 rfl rfl ?_
            refine g_iconst hC dX7_misses_33 ok_4 ?_
            refine g_imul hC dX7_misses_34 ?_
            refine g_iload_n hC dX7_misses_35 2 rfl rfl ?_
            refine g_iadd hC dX7_misses_36 ?_
            refine g_bipush hC dX7_misses_37 bp_9 ?_
            refine g_imul hC dX7_misses_39 ?_
            refine g_iload_n hC dX7_misses_40 3 rfl rfl ?_
            refine g_iadd hC dX7_misses_41 ?_
            refine g_istore hC dX7_misses_42 (Nat.le_of_ble_eq_true rfl) rfl ?_
            refine g_aload_n hC dX7_misses_44 1 rfl rfl ?_
            refine g_getr hC dX7_misses_45 lfRX7_25 (isO_spec h0) (ft_7_4 h0) ?_
            refine g_iload hC dX7_misses_48 0 rfl ?_
            obtain ⟨b9, h⟩ := of_ite h
            refine g_iald hC dX7_misses_50 (isA_spec (rf_7_4 h0)) b9 ?_
            refine g_iconst hC dX7_misses_51 ok_m1 ?_
            refine g_icmp_ne hC dX7_misses_52 (tgt := 129) (by decide) (fun h9 => ?_) (fun h9 => ?_)
            · rw [if_neg h9] at h
              refine g_aload_n hC dX7_misses_129 1 rfl rfl ?_
              refine g_getr hC dX7_misses_130 lfRX7_25 (isO_spec h0) (ft_7_4 h0) ?_
              refine g_iload hC dX7_misses_133 0 rfl ?_
              obtain ⟨b9, h⟩ := of_ite h
              refine g_iald hC dX7_misses_135 (isA_spec (rf_7_4 h0)) b9 ?_
              exact ret_i h hR dX7_misses_136
            · rw [if_pos h9] at h
              refine g_aload_n hC dX7_misses_55 1 rfl rfl ?_
              refine g_getr hC dX7_misses_56 lfRX7_34 (isO_spec h0) (ft_7_1 h0) ?_
              refine g_aload_n hC dX7_misses_59 1 rfl rfl ?_
              refine g_getr hC dX7_misses_60 lfRX7_12 (isO_spec h0) (ft_7_0 h0) ?_
              refine g_iload_n hC dX7_misses_63 2 rfl rfl ?_
              refine g_iconst hC dX7_misses_64 ok_4 ?_
              obtain ⟨⟨r2, s2⟩, e2, h⟩ := of_bind h
              try dsimp only at h
              refine s_callVi hC dX7_misses_65 (tX2_number (rf_7_0 h0) e2) miX2_number mvX2_number mlRX7_67 (isO_spec (rf_7_0 h0)) vc_2 rfl rfl (Nat.le_of_ble_eq_true rfl) (Nat.le_of_ble_eq_true rfl) (Nat.le_of_ble_eq_true rfl) hcs ?_
              refine g_aload_n hC dX7_misses_68 1 rfl rfl ?_
              refine g_getr hC dX7_misses_69 lfRX7_12 (isO_spec h0) (ft_7_0 h0) ?_
              refine g_iload_n hC dX7_misses_72 2 rfl rfl ?_
              refine g_iconst hC dX7_misses_73 ok_5 ?_
              obtain ⟨⟨r3, s3⟩, e3, h⟩ := of_bind h
              try dsimp only at h
              refine s_callVi hC dX7_misses_74 (tX2_number (rf_7_0 h0) e3) miX2_number mvX2_number mlRX7_67 (isO_spec (rf_7_0 h0)) vc_2 rfl rfl (Nat.le_of_ble_eq_true rfl) (Nat.le_of_ble_eq_true rfl) (Nat.le_of_ble_eq_true rfl) hcs ?_
              refine g_aload_n hC dX7_misses_77 1 rfl rfl ?_
              refine g_getr hC dX7_misses_78 lfRX7_12 (isO_spec h0) (ft_7_0 h0) ?_
              refine g_iload_n hC dX7_misses_81 2 rfl rfl ?_
              refine g_bipush hC dX7_misses_82 bp_6 ?_
              obtain ⟨⟨r4, s4⟩, e4, h⟩ := of_bind h
              try dsimp only at h
              refine s_callVi hC dX7_misses_84 (tX2_number (rf_7_0 h0) e4) miX2_number mvX2_number mlRX7_67 (isO_spec (rf_7_0 h0)) vc_2 rfl rfl (Nat.le_of_ble_eq_true rfl) (Nat.le_of_ble_eq_true rfl) (Nat.le_of_ble_eq_true rfl) hcs ?_
              refine g_aload_n hC dX7_misses_87 1 rfl rfl ?_
              refine g_getr hC dX7_misses_88 lfRX7_12 (isO_spec h0) (ft_7_0 h0) ?_
              refine g_iload_n hC dX7_misses_91 2 rfl rfl ?_
              refine g_bipush hC dX7_misses_92 bp_9 ?_
              refine g_iload_n hC dX7_misses_94 3 rfl rfl ?_
              refine g_iadd hC dX7_misses_95 ?_
              obtain ⟨⟨r5, s5⟩, e5, h⟩ := of_bind h
              try dsimp only at h
              refine s_callVi hC dX7_misses_96 (tX2_number (rf_7_0 h0) e5) miX2_number mvX2_number mlRX7_67 (isO_spec (rf_7_0 h0)) vc_2 rfl rfl (Nat.le_of_ble_eq_true rfl) (Nat.le_of_ble_eq_true rfl) (Nat.le_of_ble_eq_true rfl) hcs ?_
              refine g_iload_n hC dX7_misses_99 4 rfl rfl ?_
              refine g_aload_n hC dX7_misses_100 1 rfl rfl ?_
              refine g_getr hC dX7_misses_101 lfRX7_22 (isO_spec h0) (ft_7_3 h0) ?_
              refine g_iload_n hC dX7_misses_104 2 rfl rfl ?_
              obtain ⟨b9, h⟩ := of_ite h
              refine g_iald hC dX7_misses_105 (isA_spec (rf_7_3 h0)) b9 ?_
              obtain ⟨⟨r6, s6⟩, e6, h⟩ := of_bind h
              try dsimp only at h
              refine s_callVi hC dX7_misses_106 (tX4_gives (rf_7_1 h0) e6) miX4_gives mvX4_gives mlRX7_79 (isO_spec (rf_7_1 h0)) vc_4 rfl rfl (Nat.le_of_ble_eq_true rfl) (Nat.le_of_ble_eq_true rfl) (Nat.le_of_ble_eq_true rfl) hcs ?_
              refine g_istore hC dX7_misses_109 (Nat.le_of_ble_eq_true rfl) rfl ?_
              refine g_aload_n hC dX7_misses_111 2 rfl rfl ?_
              refine g_getr hC dX7_misses_112 lfRX7_25 (isO_spec h0) (ft_7_4 h0) ?_
              refine g_iload hC dX7_misses_115 1 rfl ?_
              refine g_iconst hC dX7_misses_117 ok_0 ?_
              refine g_bipush hC dX7_misses_118 bp_99 ?_
              refine g_iload hC dX7_misses_120 0 rfl ?_
              refine g_min hC dX7_misses_122 lmRX7_85 mn_1 mn_2 mn_3 (Nat.le_of_ble_eq_true rfl) (Nat.le_of_ble_eq_true rfl) hcs ?_
              refine g_max hC dX7_misses_125 lmRX7_90 mx_1 mn_2 mx_3 (Nat.le_of_ble_eq_true rfl) (Nat.le_of_ble_eq_true rfl) hcs ?_
              obtain ⟨b9, h⟩ := of_ite h
              refine g_iast hC dX7_misses_128 (isA_spec (rf_7_4 h0)) b9 ?_
              refine g_aload_n hC dX7_misses_129 2 rfl rfl ?_
              refine g_getr hC dX7_misses_130 lfRX7_25 (isO_spec h0) (ft_7_4 h0) ?_
              refine g_iload hC dX7_misses_133 1 rfl ?_
              obtain ⟨b9, h⟩ := of_ite h
              refine g_iald hC dX7_misses_135 (isA_spec (rf_7_4 h0)) b9 ?_
              exact ret_i h hR dX7_misses_136
          · rw [if_neg h9] at h
            refine g_iconst hC dX7_misses_30 ok_0 ?_
            exact ret_i h hR dX7_misses_31
theorem tX7_misses {l : Launch} {g : GT} {c0 : Nat} {x1 : Int} {x2 : Int} {x3 : Int} {σ σ' : St} {r : Int} (h0 : isO 7 c0 = true) (h : fX7_misses c0 x1 x2 x3 σ = some (r, σ')) : Cn l g yX7_misses cX7_misses 6 (some .int) 2 0 0 [vr c0, vi x1, vi x2, vi x3] (SH0, σ) (some (vi r)) (SH0, σ') :=
  Cn.ofI (by decide) (Nat.le_of_ble_eq_true rfl) (fun K e hC hR => (bX7_misses_0 hC ⟨Nat.le_refl _, Nat.le_refl _⟩ h0 hR _ h))
theorem dX7_considers_0 : decode cX7_considers 0 = .ok (.aload_n 0, 1) := by decide +kernel
theorem dX7_considers_1 : decode cX7_considers 1 = .ok (.getfield 12, 3) := by decide +kernel
theorem dX7_considers_4 : decode cX7_considers 4 = .ok (.iload_n 1, 1) := by decide +kernel
theorem dX7_considers_5 : decode cX7_considers 5 = .ok (.iconst 0, 1) := by decide +kernel
theorem dX7_considers_6 : decode cX7_considers 6 = .ok (.invokevirtual 67, 3) := by decide +kernel
theorem dX7_considers_9 : decode cX7_considers 9 = .ok (.istore_n 2, 1) := by decide +kernel
theorem dX7_considers_10 : decode cX7_considers 10 = .ok (.iconst 0, 1) := by decide +kernel
theorem dX7_considers_11 : decode cX7_considers 11 = .ok (.istore_n 3, 1) := by decide +kernel
theorem dX7_considers_12 : decode cX7_considers 12 = .ok (.iload_n 3, 1) := by decide +kernel
theorem dX7_considers_13 : decode cX7_considers 13 = .ok (.aload_n 0, 1) := by decide +kernel
theorem dX7_considers_14 : decode cX7_considers 14 = .ok (.getfield 12, 3) := by decide +kernel
theorem dX7_considers_17 : decode cX7_considers 17 = .ok (.getfield 93, 3) := by decide +kernel
theorem dX7_considers_20 : decode cX7_considers 20 = .ok (.if_icmp .ge 27, 3) := by decide +kernel
theorem dX7_considers_23 : decode cX7_considers 23 = .ok (.aload_n 0, 1) := by decide +kernel
theorem dX7_considers_24 : decode cX7_considers 24 = .ok (.getfield 28, 3) := by decide +kernel
theorem dX7_considers_27 : decode cX7_considers 27 = .ok (.iload_n 3, 1) := by decide +kernel
theorem dX7_considers_28 : decode cX7_considers 28 = .ok (.aload_n 0, 1) := by decide +kernel
theorem dX7_considers_29 : decode cX7_considers 29 = .ok (.iload_n 3, 1) := by decide +kernel
theorem dX7_considers_30 : decode cX7_considers 30 = .ok (.iload_n 2, 1) := by decide +kernel
theorem dX7_considers_31 : decode cX7_considers 31 = .ok (.aload_n 0, 1) := by decide +kernel
theorem dX7_considers_32 : decode cX7_considers 32 = .ok (.getfield 18, 3) := by decide +kernel
theorem dX7_considers_35 : decode cX7_considers 35 = .ok (.iload_n 3, 1) := by decide +kernel
theorem dX7_considers_36 : decode cX7_considers 36 = .ok (.iaload, 1) := by decide +kernel
theorem dX7_considers_37 : decode cX7_considers 37 = .ok (.invokevirtual 96, 3) := by decide +kernel
theorem dX7_considers_40 : decode cX7_considers 40 = .ok (.iastore, 1) := by decide +kernel
theorem dX7_considers_41 : decode cX7_considers 41 = .ok (.iinc 3 1, 3) := by decide +kernel
theorem dX7_considers_44 : decode cX7_considers 44 = .ok (.goto (-32), 3) := by decide +kernel
theorem dX7_considers_47 : decode cX7_considers 47 = .ok (.return_, 1) := by decide +kernel
theorem bX7_considers_12 {K : KT} {g : GT} {cm sm : Nat} {cs : Nat × Nat} {c0 : Nat} {x1 : Int} {σ' : St} (hC : Ctx K g RX7 cX7_considers 4 3 cm sm) (hcs : cs.1 ≤ cm ∧ cs.2 ≤ sm) (h0 : isO 7 c0 = true) (hR : RetV K g cX7_considers 4 cs (SH0, σ')) : ∀ (n : Nat) (x2 : Int) (x3 : Int) (σ : St), fX7_considers_12 c0 x1 n x2 x3 σ = some σ' → G K g 4 cs 12 [(0, vr c0), (1, vi x1), (2, vi x2), (3, vi x3)] [] (SH0, σ) := by
  intro n
  induction n with
  | zero =>
    intro x2 x3 σ h
    rw [fX7_considers_12.eq_1] at h
    cases h
  | succ n ih =>
    intro x2 x3 σ h
    rw [fX7_considers_12.eq_2] at h
    refine g_iload_n hC dX7_considers_12 3 rfl rfl ?_
    refine g_aload_n hC dX7_considers_13 0 rfl rfl ?_
    refine g_getr hC dX7_considers_14 lfRX7_12 (isO_spec h0) (ft_7_0 h0) ?_
    refine g_geti hC dX7_considers_17 lfRX7_93 (isO_spec (rf_7_0 h0)) (ft_2_3 (rf_7_0 h0)) ?_
    refine g_icmp_ge hC dX7_considers_20 (tgt := 47) (by decide) (fun h9 => ?_) (fun h9 => ?_)
    · rw [if_pos h9] at h
      exact ret_v h hR dX7_considers_47
    · rw [if_neg h9] at h
      refine g_aload_n hC dX7_considers_23 0 rfl rfl ?_
      refine g_getr hC dX7_considers_24 lfRX7_28 (isO_spec h0) (ft_7_5 h0) ?_
      refine g_iload_n hC dX7_considers_27 3 rfl rfl ?_
      refine g_aload_n hC dX7_considers_28 0 rfl rfl ?_
      refine g_iload_n hC dX7_considers_29 3 rfl rfl ?_
      refine g_iload_n hC dX7_considers_30 2 rfl rfl ?_
      refine g_aload_n hC dX7_considers_31 0 rfl rfl ?_
      refine g_getr hC dX7_considers_32 lfRX7_18 (isO_spec h0) (ft_7_2 h0) ?_
      refine g_iload_n hC dX7_considers_35 3 rfl rfl ?_
      obtain ⟨b9, h⟩ := of_ite h
      refine g_iald hC dX7_considers_36 (isA_spec (rf_7_2 h0)) b9 ?_
      obtain ⟨⟨r1, s1⟩, e1, h⟩ := of_bind h
      try dsimp only at h
      refine s_callVi hC dX7_considers_37 (tX7_misses h0 e1) miX7_misses mvX7_misses mlRX7_96 (isO_spec h0) vc_7 rfl rfl (Nat.le_of_ble_eq_true rfl) (Nat.le_of_ble_eq_true rfl) (Nat.le_of_ble_eq_true rfl) hcs ?_
      obtain ⟨b9, h⟩ := of_ite h
      refine g_iast hC dX7_considers_40 (isA_spec (rf_7_5 h0)) b9 ?_
      refine g_iinc hC dX7_considers_41 3 rfl (Nat.le_of_ble_eq_true rfl) rfl ?_
      refine g_goto hC dX7_considers_44 (tgt := 12) (by decide) ?_
      exact g_pick [1, 2, 3, 0] rfl (ih _ _ _ h)
theorem bX7_considers_0 {K : KT} {g : GT} {cm sm : Nat} {cs : Nat × Nat} {c0 : Nat} {x1 : Int} {σ' : St} (hC : Ctx K g RX7 cX7_considers 4 3 cm sm) (hcs : cs.1 ≤ cm ∧ cs.2 ≤ sm) (h0 : isO 7 c0 = true) (hR : RetV K g cX7_considers 4 cs (SH0, σ')) : ∀ (σ : St), fX7_considers c0 x1 σ = some σ' → G K g 4 cs 0 [(0, vr c0), (1, vi x1)] [] (SH0, σ) := by
  intro σ h
  unfold fX7_considers at h
  refine g_aload_n hC dX7_considers_0 0 rfl rfl ?_
  refine g_getr hC dX7_considers_1 lfRX7_12 (isO_spec h0) (ft_7_0 h0) ?_
  refine g_iload_n hC dX7_considers_4 1 rfl rfl ?_
  refine g_iconst hC dX7_considers_5 ok_0 ?_
  obtain ⟨⟨r1, s1⟩, e1, h⟩ := of_bind h
  try dsimp only at h
  refine s_callVi hC dX7_considers_6 (tX2_number (rf_7_0 h0) e1) miX2_number mvX2_number mlRX7_67 (isO_spec (rf_7_0 h0)) vc_2 rfl rfl (Nat.le_of_ble_eq_true rfl) (Nat.le_of_ble_eq_true rfl) (Nat.le_of_ble_eq_true rfl) hcs ?_
  refine g_istore_n hC dX7_considers_9 rfl (Nat.le_of_ble_eq_true rfl) rfl ?_
  refine g_iconst hC dX7_considers_10 ok_0 ?_
  refine g_istore_n hC dX7_considers_11 rfl (Nat.le_of_ble_eq_true rfl) rfl ?_
  exact g_pick [2, 3, 1, 0] rfl (bX7_considers_12 hC hcs h0 hR _ _ _ _ h)
theorem tX7_considers {l : Launch} {g : GT} {c0 : Nat} {x1 : Int} {σ σ' : St} (h0 : isO 7 c0 = true) (h : fX7_considers c0 x1 σ = some σ') : Cn l g yX7_considers cX7_considers 4 none 3 0 0 [vr c0, vi x1] (SH0, σ) none (SH0, σ') :=
  Cn.ofV (by decide) (Nat.le_of_ble_eq_true rfl) (fun K e hC hR => (bX7_considers_0 hC ⟨Nat.le_refl _, Nat.le_refl _⟩ h0 hR _ h))
theorem dX7_bid_0 : decode cX7_bid 0 = .ok (.aload_n 0, 1) := by decide +kernel
theorem dX7_bid_1 : decode cX7_bid 1 = .ok (.getfield 12, 3) := by decide +kernel
theorem dX7_bid_4 : decode cX7_bid 4 = .ok (.iload_n 1, 1) := by decide +kernel
theorem dX7_bid_5 : decode cX7_bid 5 = .ok (.bipush 7, 2) := by decide +kernel
theorem dX7_bid_7 : decode cX7_bid 7 = .ok (.invokevirtual 67, 3) := by decide +kernel
theorem dX7_bid_10 : decode cX7_bid 10 = .ok (.istore_n 2, 1) := by decide +kernel
theorem dX7_bid_11 : decode cX7_bid 11 = .ok (.aload_n 0, 1) := by decide +kernel
theorem dX7_bid_12 : decode cX7_bid 12 = .ok (.getfield 12, 3) := by decide +kernel
theorem dX7_bid_15 : decode cX7_bid 15 = .ok (.iload_n 1, 1) := by decide +kernel
theorem dX7_bid_16 : decode cX7_bid 16 = .ok (.bipush 8, 2) := by decide +kernel
theorem dX7_bid_18 : decode cX7_bid 18 = .ok (.invokevirtual 67, 3) := by decide +kernel
theorem dX7_bid_21 : decode cX7_bid 21 = .ok (.ifCond .ne 14, 3) := by decide +kernel
theorem dX7_bid_24 : decode cX7_bid 24 = .ok (.aload_n 0, 1) := by decide +kernel
theorem dX7_bid_25 : decode cX7_bid 25 = .ok (.getfield 55, 3) := by decide +kernel
theorem dX7_bid_28 : decode cX7_bid 28 = .ok (.iload_n 1, 1) := by decide +kernel
theorem dX7_bid_29 : decode cX7_bid 29 = .ok (.ishr, 1) := by decide +kernel
theorem dX7_bid_30 : decode cX7_bid 30 = .ok (.iconst 1, 1) := by decide +kernel
theorem dX7_bid_31 : decode cX7_bid 31 = .ok (.iand, 1) := by decide +kernel
theorem dX7_bid_32 : decode cX7_bid 32 = .ok (.ifCond .eq 18, 3) := by decide +kernel
theorem dX7_bid_35 : decode cX7_bid 35 = .ok (.iload_n 2, 1) := by decide +kernel
theorem dX7_bid_36 : decode cX7_bid 36 = .ok (.ifCond .le 7, 3) := by decide +kernel
theorem dX7_bid_39 : decode cX7_bid 39 = .ok (.iconst 0, 1) := by decide +kernel
theorem dX7_bid_40 : decode cX7_bid 40 = .ok (.goto 9, 3) := by decide +kernel
theorem dX7_bid_43 : decode cX7_bid 43 = .ok (.aload_n 0, 1) := by decide +kernel
theorem dX7_bid_44 : decode cX7_bid 44 = .ok (.getfield 28, 3) := by decide +kernel
theorem dX7_bid_47 : decode cX7_bid 47 = .ok (.iload_n 1, 1) := by decide +kernel
theorem dX7_bid_48 : decode cX7_bid 48 = .ok (.iaload, 1) := by decide +kernel
theorem dX7_bid_49 : decode cX7_bid 49 = .ok (.ireturn, 1) := by decide +kernel
theorem dX7_bid_50 : decode cX7_bid 50 = .ok (.bipush 99, 2) := by decide +kernel
theorem dX7_bid_52 : decode cX7_bid 52 = .ok (.aload_n 0, 1) := by decide +kernel
theorem dX7_bid_53 : decode cX7_bid 53 = .ok (.getfield 28, 3) := by decide +kernel
theorem dX7_bid_56 : decode cX7_bid 56 = .ok (.iload_n 1, 1) := by decide +kernel
theorem dX7_bid_57 : decode cX7_bid 57 = .ok (.iaload, 1) := by decide +kernel
theorem dX7_bid_58 : decode cX7_bid 58 = .ok (.iload_n 2, 1) := by decide +kernel
theorem dX7_bid_59 : decode cX7_bid 59 = .ok (.iadd, 1) := by decide +kernel
theorem dX7_bid_60 : decode cX7_bid 60 = .ok (.invokestatic 85, 3) := by decide +kernel
theorem dX7_bid_63 : decode cX7_bid 63 = .ok (.ireturn, 1) := by decide +kernel
theorem bX7_bid_35 {K : KT} {g : GT} {cm sm : Nat} {cs : Nat × Nat} {c0 : Nat} {x1 : Int} {r : Int} {σ' : St} (hC : Ctx K g RX7 cX7_bid 3 1 cm sm) (hcs : cs.1 ≤ cm ∧ cs.2 ≤ sm) (h0 : isO 7 c0 = true) (hR : RetI K g cX7_bid 3 cs r (SH0, σ')) : ∀ (x2 : Int) (σ : St), fX7_bid_35 c0 x1 x2 σ = some (r, σ') → G K g 3 cs 35 [(0, vr c0), (1, vi x1), (2, vi x2)] [] (SH0, σ) := by
  intro x2 σ h
  unfold fX7_bid_35 at h
  refine g_iload_n hC dX7_bid_35 2 rfl rfl ?_
  refine g_if_le hC dX7_bid_36 (tgt := 43) (by decide) (fun h9 => ?_) (fun h9 => ?_)
  · rw [if_pos h9] at h
    refine g_aload_n hC dX7_bid_43 0 rfl rfl ?_
    refine g_getr hC dX7_bid_44 lfRX7_28 (isO_spec h0) (ft_7_5 h0) ?_
    refine g_iload_n hC dX7_bid_47 1 rfl rfl ?_
    obtain ⟨b9, h⟩ := of_ite h
    refine g_iald hC dX7_bid_48 (isA_spec (rf_7_5 h0)) b9 ?_
    exact ret_i h hR dX7_bid_49
  · rw [if_neg h9] at h
    refine g_iconst hC dX7_bid_39 ok_0 ?_
    refine g_goto hC dX7_bid_40 (tgt := 49) (by decide) ?_
    exact ret_i h hR dX7_bid_49
theorem bX7_bid_0 {K : KT} {g : GT} {cm sm : Nat} {cs : Nat × Nat} {c0 : Nat} {x1 : Int} {r : Int} {σ' : St} (hC : Ctx K g RX7 cX7_bid 3 1 cm sm) (hcs : cs.1 ≤ cm ∧ cs.2 ≤ sm) (h0 : isO 7 c0 = true) (hR : RetI K g cX7_bid 3 cs r (SH0, σ')) : ∀ (σ : St), fX7_bid c0 x1 σ = some (r, σ') → G K g 3 cs 0 [(0, vr c0), (1, vi x1)] [] (SH0, σ) := by
  intro σ h
  unfold fX7_bid at h
  refine g_aload_n hC dX7_bid_0 0 rfl rfl ?_
  refine g_getr hC dX7_bid_1 lfRX7_12 (isO_spec h0) (ft_7_0 h0) ?_
  refine g_iload_n hC dX7_bid_4 1 rfl rfl ?_
  refine g_bipush hC dX7_bid_5 bp_7 ?_
  obtain ⟨⟨r1, s1⟩, e1, h⟩ := of_bind h
  try dsimp only at h
  refine s_callVi hC dX7_bid_7 (tX2_number (rf_7_0 h0) e1) miX2_number mvX2_number mlRX7_67 (isO_spec (rf_7_0 h0)) vc_2 rfl rfl (Nat.le_of_ble_eq_true rfl) (Nat.le_of_ble_eq_true rfl) (Nat.le_of_ble_eq_true rfl) hcs ?_
  refine g_istore_n hC dX7_bid_10 rfl (Nat.le_of_ble_eq_true rfl) rfl ?_
  refine g_aload_n hC dX7_bid_11 1 rfl rfl ?_
  refine g_getr hC dX7_bid_12 lfRX7_12 (isO_spec h0) (ft_7_0 h0) ?_
  refine g_iload_n hC dX7_bid_15 2 rfl rfl ?_
  refine g_bipush hC dX7_bid_16 bp_8 ?_
  obtain ⟨⟨r2, s2⟩, e2, h⟩ := of_bind h
  try dsimp only at h
  refine s_callVi hC dX7_bid_18 (tX2_number (rf_7_0 h0) e2) miX2_number mvX2_number mlRX7_67 (isO_spec (rf_7_0 h0)) vc_2 rfl rfl (Nat.le_of_ble_eq_true rfl) (Nat.le_of_ble_eq_true rfl) (Nat.le_of_ble_eq_true rfl) hcs ?_
  refine g_if_ne hC dX7_bid_21 (tgt := 35) (by decide) (fun h9 => ?_) (fun h9 => ?_)
  · rw [if_neg h9] at h
    exact g_pick [1, 2, 0] rfl (bX7_bid_35 hC hcs h0 hR _ _ h)
  · rw [if_pos h9] at h
    refine g_aload_n hC dX7_bid_24 1 rfl rfl ?_
    refine g_geti hC dX7_bid_25 lfRX7_55 (isO_spec h0) (ft_7_9 h0) ?_
    refine g_iload_n hC dX7_bid_28 2 rfl rfl ?_
    refine g_ishr hC dX7_bid_29 ?_
    refine g_iconst hC dX7_bid_30 ok_1 ?_
    refine g_iand hC dX7_bid_31 ?_
    refine g_if_eq hC dX7_bid_32 (tgt := 50) (by decide) (fun h9 => ?_) (fun h9 => ?_)
    · rw [if_pos h9] at h
      refine g_bipush hC dX7_bid_50 bp_99 ?_
      refine g_aload_n hC dX7_bid_52 1 rfl rfl ?_
      refine g_getr hC dX7_bid_53 lfRX7_28 (isO_spec h0) (ft_7_5 h0) ?_
      refine g_iload_n hC dX7_bid_56 2 rfl rfl ?_
      obtain ⟨b9, h⟩ := of_ite h
      refine g_iald hC dX7_bid_57 (isA_spec (rf_7_5 h0)) b9 ?_
      refine g_iload_n hC dX7_bid_58 0 rfl rfl ?_
      refine g_iadd hC dX7_bid_59 ?_
      refine g_min hC dX7_bid_60 lmRX7_85 mn_1 mn_2 mn_3 (Nat.le_of_ble_eq_true rfl) (Nat.le_of_ble_eq_true rfl) hcs ?_
      exact ret_i h hR dX7_bid_63
    · rw [if_neg h9] at h
      exact g_pick [1, 2, 0] rfl (bX7_bid_35 hC hcs h0 hR _ _ h)
theorem tX7_bid {l : Launch} {g : GT} {c0 : Nat} {x1 : Int} {σ σ' : St} {r : Int} (h0 : isO 7 c0 = true) (h : fX7_bid c0 x1 σ = some (r, σ')) : Cn l g yX7_bid cX7_bid 3 (some .int) 1 0 0 [vr c0, vi x1] (SH0, σ) (some (vi r)) (SH0, σ') :=
  Cn.ofI (by decide) (Nat.le_of_ble_eq_true rfl) (fun K e hC hR => (bX7_bid_0 hC ⟨Nat.le_refl _, Nat.le_refl _⟩ h0 hR _ h))
theorem dX7_winner_0 : decode cX7_winner 0 = .ok (.iconst 0, 1) := by decide +kernel
theorem dX7_winner_1 : decode cX7_winner 1 = .ok (.istore_n 1, 1) := by decide +kernel
theorem dX7_winner_2 : decode cX7_winner 2 = .ok (.bipush (-2), 2) := by decide +kernel
theorem dX7_winner_4 : decode cX7_winner 4 = .ok (.istore_n 2, 1) := by decide +kernel
theorem dX7_winner_5 : decode cX7_winner 5 = .ok (.iconst 0, 1) := by decide +kernel
theorem dX7_winner_6 : decode cX7_winner 6 = .ok (.istore_n 3, 1) := by decide +kernel
theorem dX7_winner_7 : decode cX7_winner 7 = .ok (.iload_n 3, 1) := by decide +kernel
theorem dX7_winner_8 : decode cX7_winner 8 = .ok (.aload_n 0, 1) := by decide +kernel
theorem dX7_winner_9 : decode cX7_winner 9 = .ok (.getfield 12, 3) := by decide +kernel
theorem dX7_winner_12 : decode cX7_winner 12 = .ok (.getfield 93, 3) := by decide +kernel
theorem dX7_winner_15 : decode cX7_winner 15 = .ok (.if_icmp .ge 44, 3) := by decide +kernel
theorem dX7_winner_18 : decode cX7_winner 18 = .ok (.aload_n 0, 1) := by decide +kernel
theorem dX7_winner_19 : decode cX7_winner 19 = .ok (.iload_n 3, 1) := by decide +kernel
theorem dX7_winner_20 : decode cX7_winner 20 = .ok (.invokevirtual 100, 3) := by decide +kernel
theorem dX7_winner_23 : decode cX7_winner 23 = .ok (.istore 4, 2) := by decide +kernel
theorem dX7_winner_25 : decode cX7_winner 25 = .ok (.iload 4, 2) := by decide +kernel
theorem dX7_winner_27 : decode cX7_winner 27 = .ok (.iload_n 1, 1) := by decide +kernel
theorem dX7_winner_28 : decode cX7_winner 28 = .ok (.if_icmp .le 11, 3) := by decide +kernel
theorem dX7_winner_31 : decode cX7_winner 31 = .ok (.iload 4, 2) := by decide +kernel
theorem dX7_winner_33 : decode cX7_winner 33 = .ok (.istore_n 1, 1) := by decide +kernel
theorem dX7_winner_34 : decode cX7_winner 34 = .ok (.iload_n 3, 1) := by decide +kernel
theorem dX7_winner_35 : decode cX7_winner 35 = .ok (.istore_n 2, 1) := by decide +kernel
theorem dX7_winner_36 : decode cX7_winner 36 = .ok (.goto 17, 3) := by decide +kernel
theorem dX7_winner_39 : decode cX7_winner 39 = .ok (.iload 4, 2) := by decide +kernel
theorem dX7_winner_41 : decode cX7_winner 41 = .ok (.iload_n 1, 1) := by decide +kernel
theorem dX7_winner_42 : decode cX7_winner 42 = .ok (.if_icmp .ne 11, 3) := by decide +kernel
theorem dX7_winner_45 : decode cX7_winner 45 = .ok (.iload 4, 2) := by decide +kernel
theorem dX7_winner_47 : decode cX7_winner 47 = .ok (.ifCond .le 6, 3) := by decide +kernel
theorem dX7_winner_50 : decode cX7_winner 50 = .ok (.bipush 8, 2) := by decide +kernel
theorem dX7_winner_52 : decode cX7_winner 52 = .ok (.istore_n 2, 1) := by decide +kernel
theorem dX7_winner_53 : decode cX7_winner 53 = .ok (.iinc 3 1, 3) := by decide +kernel
theorem dX7_winner_56 : decode cX7_winner 56 = .ok (.goto (-49), 3) := by decide +kernel
theorem dX7_winner_59 : decode cX7_winner 59 = .ok (.iload_n 2, 1) := by decide +kernel
theorem dX7_winner_60 : decode cX7_winner 60 = .ok (.ireturn, 1) := by decide +kernel
theorem bX7_winner_53 {K : KT} {g : GT} {cm sm : Nat} {cs : Nat × Nat} {c0 : Nat} {k7 : Int → Int → Int → St → Option (Int × St)} {r : Int} {σ' : St} (hC : Ctx K g RX7 cX7_winner 5 2 cm sm) (hcs : cs.1 ≤ cm ∧ cs.2 ≤ sm) (h0 : isO 7 c0 = true) (hk7 : ∀ (x1 : Int) (x2 : Int) (x3 : Int) (σ : St), k7 x1 x2 x3 σ = some (r, σ') → G K g 5 cs 7 [(0, vr c0), (1, vi x1), (2, vi x2), (3, vi x3)] [] (SH0, σ)) (hR : RetI K g cX7_winner 5 cs r (SH0, σ')) : ∀ (x1 : Int) (x2 : Int) (x3 : Int) (σ : St), fX7_winner_53 c0 k7 x1 x2 x3 σ = some (r, σ') → G K g 5 cs 53 [(0, vr c0), (1, vi x1), (2, vi x2), (3, vi x3)] [] (SH0, σ) := by
  intro x1 x2 x3 σ h
  unfold fX7_winner_53 at h
  refine g_iinc hC dX7_winner_53 3 rfl (Nat.le_of_ble_eq_true rfl) rfl ?_
  refine g_goto hC dX7_winner_56 (tgt := 7) (by decide) ?_
  exact g_pick [1, 2, 3, 0] rfl (hk7 _ _ _ _ h)
theorem bX7_winner_7 {K : KT} {g : GT} {cm sm : Nat} {cs : Nat × Nat} {c0 : Nat} {r : Int} {σ' : St} (hC : Ctx K g RX7 cX7_winner 5 2 cm sm) (hcs : cs.1 ≤ cm ∧ cs.2 ≤ sm) (h0 : isO 7 c0 = true) (hR : RetI K g cX7_winner 5 cs r (SH0, σ')) : ∀ (n : Nat) (x1 : Int) (x2 : Int) (x3 : Int) (σ : St), fX7_winner_7 c0 n x1 x2 x3 σ = some (r, σ') → G K g 5 cs 7 [(0, vr c0), (1, vi x1), (2, vi x2), (3, vi x3)] [] (SH0, σ) := by
  intro n
  induction n with
  | zero =>
    intro x1 x2 x3 σ h
    rw [fX7_winner_7.eq_1] at h
    cases h
  | succ n ih =>
    intro x1 x2 x3 σ h
    rw [fX7_winner_7.eq_2] at h
    refine g_iload_n hC dX7_winner_7 3 rfl rfl ?_
    refine g_aload_n hC dX7_winner_8 0 rfl rfl ?_
    refine g_getr hC dX7_winner_9 lfRX7_12 (isO_spec h0) (ft_7_0 h0) ?_
    refine g_geti hC dX7_winner_12 lfRX7_93 (isO_spec (rf_7_0 h0)) (ft_2_3 (rf_7_0 h0)) ?_
    refine g_icmp_ge hC dX7_winner_15 (tgt := 59) (by decide) (fun h9 => ?_) (fun h9 => ?_)
    · rw [if_pos h9] at h
      refine g_iload_n hC dX7_winner_59 2 rfl rfl ?_
      exact ret_i h hR dX7_winner_60
    · rw [if_neg h9] at h
      refine g_aload_n hC dX7_winner_18 0 rfl rfl ?_
      refine g_iload_n hC dX7_winner_19 3 rfl rfl ?_
      obtain ⟨⟨r1, s1⟩, e1, h⟩ := of_bind h
      try dsimp only at h
      refine s_callVi hC dX7_winner_20 (tX7_bid h0 e1) miX7_bid mvX7_bid mlRX7_100 (isO_spec h0) vc_7 rfl rfl (Nat.le_of_ble_eq_true rfl) (Nat.le_of_ble_eq_true rfl) (Nat.le_of_ble_eq_true rfl) hcs ?_
      refine g_istore hC dX7_winner_23 (Nat.le_of_ble_eq_true rfl) rfl ?_
      refine g_iload hC dX7_winner_25 0 rfl ?_
      refine g_iload_n hC dX7_winner_27 2 rfl rfl ?_
      refine g_icmp_le hC dX7_winner_28 (tgt := 39) (by decide) (fun h9 => ?_) (fun h9 => ?_)
      · rw [if_pos h9] at h
        refine g_iload hC dX7_winner_39 0 rfl ?_
        refine g_iload_n hC dX7_winner_41 2 rfl rfl ?_
        refine g_icmp_ne hC dX7_winner_42 (tgt := 53) (by decide) (fun h9 => ?_) (fun h9 => ?_)
        · rw [if_neg h9] at h
          exact g_pick [1, 2, 3, 4] rfl (bX7_winner_53 hC hcs h0 ih hR _ _ _ _ h)
        · rw [if_pos h9] at h
          refine g_iload hC dX7_winner_45 0 rfl ?_
          refine g_if_le hC dX7_winner_47 (tgt := 53) (by decide) (fun h9 => ?_) (fun h9 => ?_)
          · rw [if_pos h9] at h
            exact g_pick [1, 2, 3, 4] rfl (bX7_winner_53 hC hcs h0 ih hR _ _ _ _ h)
          · rw [if_neg h9] at h
            refine g_bipush hC dX7_winner_50 bp_8 ?_
            refine g_istore_n hC dX7_winner_52 rfl (Nat.le_of_ble_eq_true rfl) rfl ?_
            exact g_pick [2, 3, 0, 4] rfl (bX7_winner_53 hC hcs h0 ih hR _ _ _ _ h)
      · rw [if_neg h9] at h
        refine g_iload hC dX7_winner_31 0 rfl ?_
        refine g_istore_n hC dX7_winner_33 rfl (Nat.le_of_ble_eq_true rfl) rfl ?_
        refine g_iload_n hC dX7_winner_34 4 rfl rfl ?_
        refine g_istore_n hC dX7_winner_35 rfl (Nat.le_of_ble_eq_true rfl) rfl ?_
        refine g_goto hC dX7_winner_36 (tgt := 53) (by decide) ?_
        exact g_pick [3, 1, 0, 4] rfl (bX7_winner_53 hC hcs h0 ih hR _ _ _ _ h)
theorem bX7_winner_0 {K : KT} {g : GT} {cm sm : Nat} {cs : Nat × Nat} {c0 : Nat} {r : Int} {σ' : St} (hC : Ctx K g RX7 cX7_winner 5 2 cm sm) (hcs : cs.1 ≤ cm ∧ cs.2 ≤ sm) (h0 : isO 7 c0 = true) (hR : RetI K g cX7_winner 5 cs r (SH0, σ')) : ∀ (σ : St), fX7_winner c0 σ = some (r, σ') → G K g 5 cs 0 [(0, vr c0)] [] (SH0, σ) := by
  intro σ h
  unfold fX7_winner at h
  refine g_iconst hC dX7_winner_0 ok_0 ?_
  refine g_istore_n hC dX7_winner_1 rfl (Nat.le_of_ble_eq_true rfl) rfl ?_
  refine g_bipush hC dX7_winner_2 bp_m2 ?_
  refine g_istore_n hC dX7_winner_4 rfl (Nat.le_of_ble_eq_true rfl) rfl ?_
  refine g_iconst hC dX7_winner_5 ok_0 ?_
  refine g_istore_n hC dX7_winner_6 rfl (Nat.le_of_ble_eq_true rfl) rfl ?_
  exact g_pick [3, 2, 1, 0] rfl (bX7_winner_7 hC hcs h0 hR _ _ _ _ _ h)
theorem tX7_winner {l : Launch} {g : GT} {c0 : Nat} {σ σ' : St} {r : Int} (h0 : isO 7 c0 = true) (h : fX7_winner c0 σ = some (r, σ')) : Cn l g yX7_winner cX7_winner 5 (some .int) 2 0 0 [vr c0] (SH0, σ) (some (vi r)) (SH0, σ') :=
  Cn.ofI (by decide) (Nat.le_of_ble_eq_true rfl) (fun K e hC hR => (bX7_winner_0 hC ⟨Nat.le_refl _, Nat.le_refl _⟩ h0 hR _ h))
theorem dX7_sellsOne_0 : decode cX7_sellsOne 0 = .ok (.aload_n 0, 1) := by decide +kernel
theorem dX7_sellsOne_1 : decode cX7_sellsOne 1 = .ok (.getfield 51, 3) := by decide +kernel
theorem dX7_sellsOne_4 : decode cX7_sellsOne 4 = .ok (.iload_n 1, 1) := by decide +kernel
theorem dX7_sellsOne_5 : decode cX7_sellsOne 5 = .ok (.ishr, 1) := by decide +kernel
theorem dX7_sellsOne_6 : decode cX7_sellsOne 6 = .ok (.iconst 1, 1) := by decide +kernel
theorem dX7_sellsOne_7 : decode cX7_sellsOne 7 = .ok (.iand, 1) := by decide +kernel
theorem dX7_sellsOne_8 : decode cX7_sellsOne 8 = .ok (.ifCond .ne 6, 3) := by decide +kernel
theorem dX7_sellsOne_11 : decode cX7_sellsOne 11 = .ok (.bipush 9, 2) := by decide +kernel
theorem dX7_sellsOne_13 : decode cX7_sellsOne 13 = .ok (.ireturn, 1) := by decide +kernel
theorem dX7_sellsOne_14 : decode cX7_sellsOne 14 = .ok (.aload_n 0, 1) := by decide +kernel
theorem dX7_sellsOne_15 : decode cX7_sellsOne 15 = .ok (.iload_n 1, 1) := by decide +kernel
theorem dX7_sellsOne_16 : decode cX7_sellsOne 16 = .ok (.invokevirtual 104, 3) := by decide +kernel
theorem dX7_sellsOne_19 : decode cX7_sellsOne 19 = .ok (.aload_n 0, 1) := by decide +kernel
theorem dX7_sellsOne_20 : decode cX7_sellsOne 20 = .ok (.invokevirtual 108, 3) := by decide +kernel
theorem dX7_sellsOne_23 : decode cX7_sellsOne 23 = .ok (.istore_n 2, 1) := by decide +kernel
theorem dX7_sellsOne_24 : decode cX7_sellsOne 24 = .ok (.iload_n 2, 1) := by decide +kernel
theorem dX7_sellsOne_25 : decode cX7_sellsOne 25 = .ok (.bipush 8, 2) := by decide +kernel
theorem dX7_sellsOne_27 : decode cX7_sellsOne 27 = .ok (.if_icmp .ne 30, 3) := by decide +kernel
theorem dX7_sellsOne_30 : decode cX7_sellsOne 30 = .ok (.aload_n 0, 1) := by decide +kernel
theorem dX7_sellsOne_31 : decode cX7_sellsOne 31 = .ok (.dup, 1) := by decide +kernel
theorem dX7_sellsOne_32 : decode cX7_sellsOne 32 = .ok (.getfield 61, 3) := by decide +kernel
theorem dX7_sellsOne_35 : decode cX7_sellsOne 35 = .ok (.iconst 1, 1) := by decide +kernel
theorem dX7_sellsOne_36 : decode cX7_sellsOne 36 = .ok (.iadd, 1) := by decide +kernel
theorem dX7_sellsOne_37 : decode cX7_sellsOne 37 = .ok (.putfield 61, 3) := by decide +kernel
theorem dX7_sellsOne_40 : decode cX7_sellsOne 40 = .ok (.aload_n 0, 1) := by decide +kernel
theorem dX7_sellsOne_41 : decode cX7_sellsOne 41 = .ok (.dup, 1) := by decide +kernel
theorem dX7_sellsOne_42 : decode cX7_sellsOne 42 = .ok (.getfield 51, 3) := by decide +kernel
theorem dX7_sellsOne_45 : decode cX7_sellsOne 45 = .ok (.iconst 1, 1) := by decide +kernel
theorem dX7_sellsOne_46 : decode cX7_sellsOne 46 = .ok (.iload_n 1, 1) := by decide +kernel
theorem dX7_sellsOne_47 : decode cX7_sellsOne 47 = .ok (.ishl, 1) := by decide +kernel
theorem dX7_sellsOne_48 : decode cX7_sellsOne 48 = .ok (.iconst (-1), 1) := by decide +kernel
theorem dX7_sellsOne_49 : decode cX7_sellsOne 49 = .ok (.ixor, 1) := by decide +kernel
theorem dX7_sellsOne_50 : decode cX7_sellsOne 50 = .ok (.iand, 1) := by decide +kernel
theorem dX7_sellsOne_51 : decode cX7_sellsOne 51 = .ok (.putfield 51, 3) := by decide +kernel
theorem dX7_sellsOne_54 : decode cX7_sellsOne 54 = .ok (.goto 41, 3) := by decide +kernel
theorem dX7_sellsOne_57 : decode cX7_sellsOne 57 = .ok (.iload_n 2, 1) := by decide +kernel
theorem dX7_sellsOne_58 : decode cX7_sellsOne 58 = .ok (.ifCond .lt 37, 3) := by decide +kernel
theorem dX7_sellsOne_61 : decode cX7_sellsOne 61 = .ok (.aload_n 0, 1) := by decide +kernel
theorem dX7_sellsOne_62 : decode cX7_sellsOne 62 = .ok (.dup, 1) := by decide +kernel
theorem dX7_sellsOne_63 : decode cX7_sellsOne 63 = .ok (.getfield 58, 3) := by decide +kernel
theorem dX7_sellsOne_66 : decode cX7_sellsOne 66 = .ok (.iconst 1, 1) := by decide +kernel
theorem dX7_sellsOne_67 : decode cX7_sellsOne 67 = .ok (.iadd, 1) := by decide +kernel
theorem dX7_sellsOne_68 : decode cX7_sellsOne 68 = .ok (.putfield 58, 3) := by decide +kernel
theorem dX7_sellsOne_71 : decode cX7_sellsOne 71 = .ok (.aload_n 0, 1) := by decide +kernel
theorem dX7_sellsOne_72 : decode cX7_sellsOne 72 = .ok (.getfield 18, 3) := by decide +kernel
theorem dX7_sellsOne_75 : decode cX7_sellsOne 75 = .ok (.iload_n 2, 1) := by decide +kernel
theorem dX7_sellsOne_76 : decode cX7_sellsOne 76 = .ok (.dup2, 1) := by decide +kernel
theorem dX7_sellsOne_77 : decode cX7_sellsOne 77 = .ok (.iaload, 1) := by decide +kernel
theorem dX7_sellsOne_78 : decode cX7_sellsOne 78 = .ok (.iconst 1, 1) := by decide +kernel
theorem dX7_sellsOne_79 : decode cX7_sellsOne 79 = .ok (.iadd, 1) := by decide +kernel
theorem dX7_sellsOne_80 : decode cX7_sellsOne 80 = .ok (.iastore, 1) := by decide +kernel
theorem dX7_sellsOne_81 : decode cX7_sellsOne 81 = .ok (.aload_n 0, 1) := by decide +kernel
theorem dX7_sellsOne_82 : decode cX7_sellsOne 82 = .ok (.dup, 1) := by decide +kernel
theorem dX7_sellsOne_83 : decode cX7_sellsOne 83 = .ok (.getfield 51, 3) := by decide +kernel
theorem dX7_sellsOne_86 : decode cX7_sellsOne 86 = .ok (.iconst 1, 1) := by decide +kernel
theorem dX7_sellsOne_87 : decode cX7_sellsOne 87 = .ok (.iload_n 1, 1) := by decide +kernel
theorem dX7_sellsOne_88 : decode cX7_sellsOne 88 = .ok (.ishl, 1) := by decide +kernel
theorem dX7_sellsOne_89 : decode cX7_sellsOne 89 = .ok (.iconst (-1), 1) := by decide +kernel
theorem dX7_sellsOne_90 : decode cX7_sellsOne 90 = .ok (.ixor, 1) := by decide +kernel
theorem dX7_sellsOne_91 : decode cX7_sellsOne 91 = .ok (.iand, 1) := by decide +kernel
theorem dX7_sellsOne_92 : decode cX7_sellsOne 92 = .ok (.putfield 51, 3) := by decide +kernel
theorem dX7_sellsOne_95 : decode cX7_sellsOne 95 = .ok (.iload_n 2, 1) := by decide +kernel
theorem dX7_sellsOne_96 : decode cX7_sellsOne 96 = .ok (.ireturn, 1) := by decide +kernel
theorem bX7_sellsOne_0 {K : KT} {g : GT} {cm sm : Nat} {cs : Nat × Nat} {c0 : Nat} {x1 : Int} {r : Int} {σ' : St} (hC : Ctx K g RX7 cX7_sellsOne 3 4 cm sm) (hcs : cs.1 ≤ cm ∧ cs.2 ≤ sm) (h0 : isO 7 c0 = true) (hR : RetI K g cX7_sellsOne 3 cs r (SH0, σ')) : ∀ (σ : St), fX7_sellsOne c0 x1 σ = some (r, σ') → G K g 3 cs 0 [(0, vr c0), (1, vi x1)] [] (SH0, σ) := by
  intro σ h
  unfold fX7_sellsOne at h
  refine g_aload_n hC dX7_sellsOne_0 0 rfl rfl ?_
  refine g_geti hC dX7_sellsOne_1 lfRX7_51 (isO_spec h0) (ft_7_8 h0) ?_
  refine g_iload_n hC dX7_sellsOne_4 1 rfl rfl ?_
  refine g_ishr hC dX7_sellsOne_5 ?_
  refine g_iconst hC dX7_sellsOne_6 ok_1 ?_
  refine g_iand hC dX7_sellsOne_7 ?_
  refine g_if_ne hC dX7_sellsOne_8 (tgt := 14) (by decide) (fun h9 => ?_) (fun h9 => ?_)
  · rw [if_neg h9] at h
    refine g_aload_n hC dX7_sellsOne_14 0 rfl rfl ?_
    refine g_iload_n hC dX7_sellsOne_15 1 rfl rfl ?_
    obtain ⟨s1, e1, h⟩ := of_bind h
    try dsimp only at h
    refine s_callVv hC dX7_sellsOne_16 (tX7_considers h0 e1) miX7_considers mvX7_considers mlRX7_104 (isO_spec h0) vc_7 rfl rfl (Nat.le_of_ble_eq_true rfl) (Nat.le_of_ble_eq_true rfl) (Nat.le_of_ble_eq_true rfl) hcs ?_
    refine g_aload_n hC dX7_sellsOne_19 0 rfl rfl ?_
    obtain ⟨⟨r2, s2⟩, e2, h⟩ := of_bind h
    try dsimp only at h
    refine s_callVi hC dX7_sellsOne_20 (tX7_winner h0 e2) miX7_winner mvX7_winner mlRX7_108 (isO_spec h0) vc_7 rfl rfl (Nat.le_of_ble_eq_true rfl) (Nat.le_of_ble_eq_true rfl) (Nat.le_of_ble_eq_true rfl) hcs ?_
    refine g_istore_n hC dX7_sellsOne_23 rfl (Nat.le_of_ble_eq_true rfl) rfl ?_
    refine g_iload_n hC dX7_sellsOne_24 0 rfl rfl ?_
    refine g_bipush hC dX7_sellsOne_25 bp_8 ?_
    refine g_icmp_ne hC dX7_sellsOne_27 (tgt := 57) (by decide) (fun h9 => ?_) (fun h9 => ?_)
    · rw [if_neg h9] at h
      refine g_iload_n hC dX7_sellsOne_57 0 rfl rfl ?_
      refine g_if_lt hC dX7_sellsOne_58 (tgt := 95) (by decide) (fun h9 => ?_) (fun h9 => ?_)
      · rw [if_pos h9] at h
        refine g_iload_n hC dX7_sellsOne_95 0 rfl rfl ?_
        exact ret_i h hR dX7_sellsOne_96
      · rw [if_neg h9] at h
        refine g_aload_n hC dX7_sellsOne_61 1 rfl rfl ?_
        refine g_dup hC dX7_sellsOne_62 rfl ?_
        refine g_geti hC dX7_sellsOne_63 lfRX7_58 (isO_spec h0) (ft_7_10 h0) ?_
        refine g_iconst hC dX7_sellsOne_66 ok_1 ?_
        refine g_iadd hC dX7_sellsOne_67 ?_
        refine g_puti hC dX7_sellsOne_68 lfRX7_58 fp_7_10 (isO_spec h0) (ft_7_10 h0) ?_
        refine g_aload_n hC dX7_sellsOne_71 1 rfl rfl ?_
        refine g_getr hC dX7_sellsOne_72 lfRX7_18 (isO_spec h0) (ft_7_2 h0) ?_
        refine g_iload_n hC dX7_sellsOne_75 0 rfl rfl ?_
        refine g_dup2 hC dX7_sellsOne_76 rfl rfl ?_
        obtain ⟨b9, h⟩ := of_ite h
        refine g_iald hC dX7_sellsOne_77 (isA_spec (rf_7_2 h0)) b9 ?_
        refine g_iconst hC dX7_sellsOne_78 ok_1 ?_
        refine g_iadd hC dX7_sellsOne_79 ?_
        obtain ⟨b9, h⟩ := of_ite h
        refine g_iast hC dX7_sellsOne_80 (isA_spec (rf_7_2 h0)) b9 ?_
        refine g_aload_n hC dX7_sellsOne_81 1 rfl rfl ?_
        refine g_dup hC dX7_sellsOne_82 rfl ?_
        refine g_geti hC dX7_sellsOne_83 lfRX7_51 (isO_spec h0) (ft_7_8 h0) ?_
        refine g_iconst hC dX7_sellsOne_86 ok_1 ?_
        refine g_iload_n hC dX7_sellsOne_87 2 rfl rfl ?_
        refine g_ishl hC dX7_sellsOne_88 ?_
        refine g_iconst hC dX7_sellsOne_89 ok_m1 ?_
        refine g_ixor hC dX7_sellsOne_90 ?_
        refine g_iand hC dX7_sellsOne_91 ?_
        refine g_puti hC dX7_sellsOne_92 lfRX7_51 fp_7_8 (isO_spec h0) (ft_7_8 h0) ?_
        refine g_iload_n hC dX7_sellsOne_95 0 rfl rfl ?_
        exact ret_i h hR dX7_sellsOne_96
    · rw [if_pos h9] at h
      refine g_aload_n hC dX7_sellsOne_30 1 rfl rfl ?_
      refine g_dup hC dX7_sellsOne_31 rfl ?_
      refine g_geti hC dX7_sellsOne_32 lfRX7_61 (isO_spec h0) (ft_7_11 h0) ?_
      refine g_iconst hC dX7_sellsOne_35 ok_1 ?_
      refine g_iadd hC dX7_sellsOne_36 ?_
      refine g_puti hC dX7_sellsOne_37 lfRX7_61 fp_7_11 (isO_spec h0) (ft_7_11 h0) ?_
      refine g_aload_n hC dX7_sellsOne_40 1 rfl rfl ?_
      refine g_dup hC dX7_sellsOne_41 rfl ?_
      refine g_geti hC dX7_sellsOne_42 lfRX7_51 (isO_spec h0) (ft_7_8 h0) ?_
      refine g_iconst hC dX7_sellsOne_45 ok_1 ?_
      refine g_iload_n hC dX7_sellsOne_46 2 rfl rfl ?_
      refine g_ishl hC dX7_sellsOne_47 ?_
      refine g_iconst hC dX7_sellsOne_48 ok_m1 ?_
      refine g_ixor hC dX7_sellsOne_49 ?_
      refine g_iand hC dX7_sellsOne_50 ?_
      refine g_puti hC dX7_sellsOne_51 lfRX7_51 fp_7_8 (isO_spec h0) (ft_7_8 h0) ?_
      refine g_goto hC dX7_sellsOne_54 (tgt := 95) (by decide) ?_
      refine g_iload_n hC dX7_sellsOne_95 0 rfl rfl ?_
      exact ret_i h hR dX7_sellsOne_96
  · rw [if_pos h9] at h
    refine g_bipush hC dX7_sellsOne_11 bp_9 ?_
    exact ret_i h hR dX7_sellsOne_13
theorem tX7_sellsOne {l : Launch} {g : GT} {c0 : Nat} {x1 : Int} {σ σ' : St} {r : Int} (h0 : isO 7 c0 = true) (h : fX7_sellsOne c0 x1 σ = some (r, σ')) : Cn l g yX7_sellsOne cX7_sellsOne 3 (some .int) 4 0 0 [vr c0, vi x1] (SH0, σ) (some (vi r)) (SH0, σ') :=
  Cn.ofI (by decide) (Nat.le_of_ble_eq_true rfl) (fun K e hC hR => (bX7_sellsOne_0 hC ⟨Nat.le_refl _, Nat.le_refl _⟩ h0 hR _ h))
theorem dX7_sellsAll_0 : decode cX7_sellsAll 0 = .ok (.aload_n 0, 1) := by decide +kernel
theorem dX7_sellsAll_1 : decode cX7_sellsAll 1 = .ok (.aload_n 0, 1) := by decide +kernel
theorem dX7_sellsAll_2 : decode cX7_sellsAll 2 = .ok (.aload_n 1, 1) := by decide +kernel
theorem dX7_sellsAll_3 : decode cX7_sellsAll 3 = .ok (.invokevirtual 112, 3) := by decide +kernel
theorem dX7_sellsAll_6 : decode cX7_sellsAll 6 = .ok (.putfield 116, 3) := by decide +kernel
theorem dX7_sellsAll_9 : decode cX7_sellsAll 9 = .ok (.iconst 0, 1) := by decide +kernel
theorem dX7_sellsAll_10 : decode cX7_sellsAll 10 = .ok (.istore_n 2, 1) := by decide +kernel
theorem dX7_sellsAll_11 : decode cX7_sellsAll 11 = .ok (.iload_n 2, 1) := by decide +kernel
theorem dX7_sellsAll_12 : decode cX7_sellsAll 12 = .ok (.aload_n 0, 1) := by decide +kernel
theorem dX7_sellsAll_13 : decode cX7_sellsAll 13 = .ok (.getfield 116, 3) := by decide +kernel
theorem dX7_sellsAll_16 : decode cX7_sellsAll 16 = .ok (.if_icmp .ge 25, 3) := by decide +kernel
theorem dX7_sellsAll_19 : decode cX7_sellsAll 19 = .ok (.aload_n 0, 1) := by decide +kernel
theorem dX7_sellsAll_20 : decode cX7_sellsAll 20 = .ok (.getfield 31, 3) := by decide +kernel
theorem dX7_sellsAll_23 : decode cX7_sellsAll 23 = .ok (.iload_n 2, 1) := by decide +kernel
theorem dX7_sellsAll_24 : decode cX7_sellsAll 24 = .ok (.aload_n 0, 1) := by decide +kernel
theorem dX7_sellsAll_25 : decode cX7_sellsAll 25 = .ok (.aload_n 1, 1) := by decide +kernel
theorem dX7_sellsAll_26 : decode cX7_sellsAll 26 = .ok (.iload_n 2, 1) := by decide +kernel
theorem dX7_sellsAll_27 : decode cX7_sellsAll 27 = .ok (.invokevirtual 119, 3) := by decide +kernel
theorem dX7_sellsAll_30 : decode cX7_sellsAll 30 = .ok (.l2i, 1) := by decide +kernel
theorem dX7_sellsAll_31 : decode cX7_sellsAll 31 = .ok (.invokevirtual 125, 3) := by decide +kernel
theorem dX7_sellsAll_34 : decode cX7_sellsAll 34 = .ok (.iastore, 1) := by decide +kernel
theorem dX7_sellsAll_35 : decode cX7_sellsAll 35 = .ok (.iinc 2 1, 3) := by decide +kernel
theorem dX7_sellsAll_38 : decode cX7_sellsAll 38 = .ok (.goto (-27), 3) := by decide +kernel
theorem dX7_sellsAll_41 : decode cX7_sellsAll 41 = .ok (.return_, 1) := by decide +kernel
theorem bX7_sellsAll_11 {K : KT} {g : GT} {cm sm : Nat} {cs : Nat × Nat} {c0 : Nat} {c1 : Nat} {σ' : St} (hC : Ctx K g RX7 cX7_sellsAll 3 5 cm sm) (hcs : cs.1 ≤ cm ∧ cs.2 ≤ sm) (h0 : isO 7 c0 = true) (h1 : isO 6 c1 = true) (hR : RetV K g cX7_sellsAll 3 cs (SH0, σ')) : ∀ (n : Nat) (x2 : Int) (σ : St), fX7_sellsAll_11 c0 c1 n x2 σ = some σ' → G K g 3 cs 11 [(0, vr c0), (1, vr c1), (2, vi x2)] [] (SH0, σ) := by
  intro n
  induction n with
  | zero =>
    intro x2 σ h
    rw [fX7_sellsAll_11.eq_1] at h
    cases h
  | succ n ih =>
    intro x2 σ h
    rw [fX7_sellsAll_11.eq_2] at h
    refine g_iload_n hC dX7_sellsAll_11 2 rfl rfl ?_
    refine g_aload_n hC dX7_sellsAll_12 0 rfl rfl ?_
    refine g_geti hC dX7_sellsAll_13 lfRX7_116 (isO_spec h0) (ft_7_7 h0) ?_
    refine g_icmp_ge hC dX7_sellsAll_16 (tgt := 41) (by decide) (fun h9 => ?_) (fun h9 => ?_)
    · rw [if_pos h9] at h
      exact ret_v h hR dX7_sellsAll_41
    · rw [if_neg h9] at h
      refine g_aload_n hC dX7_sellsAll_19 0 rfl rfl ?_
      refine g_getr hC dX7_sellsAll_20 lfRX7_31 (isO_spec h0) (ft_7_6 h0) ?_
      refine g_iload_n hC dX7_sellsAll_23 2 rfl rfl ?_
      refine g_aload_n hC dX7_sellsAll_24 0 rfl rfl ?_
      refine g_aload_n hC dX7_sellsAll_25 1 rfl rfl ?_
      refine g_iload_n hC dX7_sellsAll_26 2 rfl rfl ?_
      obtain ⟨⟨r1, s1⟩, e1, h⟩ := of_bind h
      try dsimp only at h
      refine s_callVl hC dX7_sellsAll_27 (tX6_at h1 e1) miX6_at mvX6_at mlRX7_119 (isO_spec h1) vc_6 rfl rfl (Nat.le_of_ble_eq_true rfl) (Nat.le_of_ble_eq_true rfl) (Nat.le_of_ble_eq_true rfl) hcs ?_
      refine g_l2i hC dX7_sellsAll_30 ?_
      obtain ⟨⟨r2, s2⟩, e2, h⟩ := of_bind h
      try dsimp only at h
      refine s_callVi hC dX7_sellsAll_31 (tX7_sellsOne h0 e2) miX7_sellsOne mvX7_sellsOne mlRX7_125 (isO_spec h0) vc_7 rfl rfl (Nat.le_of_ble_eq_true rfl) (Nat.le_of_ble_eq_true rfl) (Nat.le_of_ble_eq_true rfl) hcs ?_
      obtain ⟨b9, h⟩ := of_ite h
      refine g_iast hC dX7_sellsAll_34 (isA_spec (rf_7_6 h0)) b9 ?_
      refine g_iinc hC dX7_sellsAll_35 2 rfl (Nat.le_of_ble_eq_true rfl) rfl ?_
      refine g_goto hC dX7_sellsAll_38 (tgt := 11) (by decide) ?_
      exact g_pick [1, 2, 0] rfl (ih _ _ h)
theorem bX7_sellsAll_0 {K : KT} {g : GT} {cm sm : Nat} {cs : Nat × Nat} {c0 : Nat} {c1 : Nat} {σ' : St} (hC : Ctx K g RX7 cX7_sellsAll 3 5 cm sm) (hcs : cs.1 ≤ cm ∧ cs.2 ≤ sm) (h0 : isO 7 c0 = true) (h1 : isO 6 c1 = true) (hR : RetV K g cX7_sellsAll 3 cs (SH0, σ')) : ∀ (σ : St), fX7_sellsAll c0 c1 σ = some σ' → G K g 3 cs 0 [(0, vr c0), (1, vr c1)] [] (SH0, σ) := by
  intro σ h
  unfold fX7_sellsAll at h
  refine g_aload_n hC dX7_sellsAll_0 0 rfl rfl ?_
  refine g_aload_n hC dX7_sellsAll_1 0 rfl rfl ?_
  refine g_aload_n hC dX7_sellsAll_2 1 rfl rfl ?_
  obtain ⟨⟨r1, s1⟩, e1, h⟩ := of_bind h
  try dsimp only at h
  refine s_callVi hC dX7_sellsAll_3 (tX7_lengthOf h0 h1 e1) miX7_lengthOf mvX7_lengthOf mlRX7_112 (isO_spec h0) vc_7 rfl rfl (Nat.le_of_ble_eq_true rfl) (Nat.le_of_ble_eq_true rfl) (Nat.le_of_ble_eq_true rfl) hcs ?_
  refine g_puti hC dX7_sellsAll_6 lfRX7_116 fp_7_7 (isO_spec h0) (ft_7_7 h0) ?_
  refine g_iconst hC dX7_sellsAll_9 ok_0 ?_
  refine g_istore_n hC dX7_sellsAll_10 rfl (Nat.le_of_ble_eq_true rfl) rfl ?_
  exact g_pick [1, 2, 0] rfl (bX7_sellsAll_11 hC hcs h0 h1 hR _ _ _ h)
theorem tX7_sellsAll {l : Launch} {g : GT} {c0 : Nat} {c1 : Nat} {σ σ' : St} (h0 : isO 7 c0 = true) (h1 : isO 6 c1 = true) (h : fX7_sellsAll c0 c1 σ = some σ') : Cn l g yX7_sellsAll cX7_sellsAll 3 none 5 0 0 [vr c0, vr c1] (SH0, σ) none (SH0, σ') :=
  Cn.ofV (by decide) (Nat.le_of_ble_eq_true rfl) (fun K e hC hR => (bX7_sellsAll_0 hC ⟨Nat.le_refl _, Nat.le_refl _⟩ h0 h1 hR _ h))
theorem dX9_isShelf_0 : decode cX9_isShelf 0 = .ok (.iload_n 0, 1) := by decide +kernel
theorem dX9_isShelf_1 : decode cX9_isShelf 1 = .ok (.ifCond .lt 13, 3) := by decide +kernel
theorem dX9_isShelf_4 : decode cX9_isShelf 4 = .ok (.iload_n 0, 1) := by decide +kernel
theorem dX9_isShelf_5 : decode cX9_isShelf 5 = .ok (.bipush 6, 2) := by decide +kernel
theorem dX9_isShelf_7 : decode cX9_isShelf 7 = .ok (.if_icmp .ge 7, 3) := by decide +kernel
theorem dX9_isShelf_10 : decode cX9_isShelf 10 = .ok (.iconst 1, 1) := by decide +kernel
theorem dX9_isShelf_11 : decode cX9_isShelf 11 = .ok (.goto 4, 3) := by decide +kernel
theorem dX9_isShelf_14 : decode cX9_isShelf 14 = .ok (.iconst 0, 1) := by decide +kernel
theorem dX9_isShelf_15 : decode cX9_isShelf 15 = .ok (.ireturn, 1) := by decide +kernel
theorem bX9_isShelf_0 {K : KT} {g : GT} {cm sm : Nat} {cs : Nat × Nat} {x0 : Int} {r : Int} {σ' : St} (hC : Ctx K g RX9 cX9_isShelf 1 0 cm sm) (hcs : cs.1 ≤ cm ∧ cs.2 ≤ sm) (hR : RetZ K g cX9_isShelf 1 cs r (SH0, σ')) : ∀ (σ : St), fX9_isShelf x0 σ = some (r, σ') → G K g 1 cs 0 [(0, vi x0)] [] (SH0, σ) := by
  intro σ h
  unfold fX9_isShelf at h
  refine g_iload_n hC dX9_isShelf_0 0 rfl rfl ?_
  refine g_if_lt hC dX9_isShelf_1 (tgt := 14) (by decide) (fun h9 => ?_) (fun h9 => ?_)
  · rw [if_pos h9] at h
    refine g_iconst hC dX9_isShelf_14 ok_0 ?_
    exact ret_z h hR (by decide) dX9_isShelf_15
  · rw [if_neg h9] at h
    refine g_iload_n hC dX9_isShelf_4 0 rfl rfl ?_
    refine g_bipush hC dX9_isShelf_5 bp_6 ?_
    refine g_icmp_ge hC dX9_isShelf_7 (tgt := 14) (by decide) (fun h9 => ?_) (fun h9 => ?_)
    · rw [if_pos h9] at h
      refine g_iconst hC dX9_isShelf_14 ok_0 ?_
      exact ret_z h hR (by decide) dX9_isShelf_15
    · rw [if_neg h9] at h
      refine g_iconst hC dX9_isShelf_10 ok_1 ?_
      refine g_goto hC dX9_isShelf_11 (tgt := 15) (by decide) ?_
      exact ret_z h hR (by decide) dX9_isShelf_15
theorem tX9_isShelf {l : Launch} {g : GT} {x0 : Int} {σ σ' : St} {r : Int} (h : fX9_isShelf x0 σ = some (r, σ')) : Cn l g yX9_isShelf cX9_isShelf 1 (some .boolean) 0 0 0 [vi x0] (SH0, σ) (some (vi r)) (SH0, σ') :=
  Cn.ofZ (by decide) (Nat.le_of_ble_eq_true rfl) (fun K e hC hR => (bX9_isShelf_0 hC ⟨Nat.le_refl _, Nat.le_refl _⟩ hR _ h))
theorem dX9_after_0 : decode cX9_after 0 = .ok (.iload_n 3, 1) := by decide +kernel
theorem dX9_after_1 : decode cX9_after 1 = .ok (.ifCond .ne 14, 3) := by decide +kernel
theorem dX9_after_4 : decode cX9_after 4 = .ok (.aload_n 0, 1) := by decide +kernel
theorem dX9_after_5 : decode cX9_after 5 = .ok (.getfield 10, 3) := by decide +kernel
theorem dX9_after_8 : decode cX9_after 8 = .ok (.iload_n 2, 1) := by decide +kernel
theorem dX9_after_9 : decode cX9_after 9 = .ok (.invokevirtual 180, 3) := by decide +kernel
theorem dX9_after_12 : decode cX9_after 12 = .ok (.goto 22, 3) := by decide +kernel
theorem dX9_after_15 : decode cX9_after 15 = .ok (.iload_n 3, 1) := by decide +kernel
theorem dX9_after_16 : decode cX9_after 16 = .ok (.iconst 1, 1) := by decide +kernel
theorem dX9_after_17 : decode cX9_after 17 = .ok (.if_icmp .eq 8, 3) := by decide +kernel
theorem dX9_after_20 : decode cX9_after 20 = .ok (.iload_n 3, 1) := by decide +kernel
theorem dX9_after_21 : decode cX9_after 21 = .ok (.iconst 2, 1) := by decide +kernel
theorem dX9_after_22 : decode cX9_after 22 = .ok (.if_icmp .ne 11, 3) := by decide +kernel
theorem dX9_after_25 : decode cX9_after 25 = .ok (.iload_n 2, 1) := by decide +kernel
theorem dX9_after_26 : decode cX9_after 26 = .ok (.ifCond .ne 7, 3) := by decide +kernel
theorem dX9_after_29 : decode cX9_after 29 = .ok (.iconst 1, 1) := by decide +kernel
theorem dX9_after_30 : decode cX9_after 30 = .ok (.goto 4, 3) := by decide +kernel
theorem dX9_after_33 : decode cX9_after 33 = .ok (.iconst 0, 1) := by decide +kernel
theorem dX9_after_34 : decode cX9_after 34 = .ok (.istore 4, 2) := by decide +kernel
theorem dX9_after_36 : decode cX9_after 36 = .ok (.iload_n 1, 1) := by decide +kernel
theorem dX9_after_37 : decode cX9_after 37 = .ok (.invokestatic 92, 3) := by decide +kernel
theorem dX9_after_40 : decode cX9_after 40 = .ok (.ifCond .eq 8, 3) := by decide +kernel
theorem dX9_after_43 : decode cX9_after 43 = .ok (.iload 4, 2) := by decide +kernel
theorem dX9_after_45 : decode cX9_after 45 = .ok (.ifCond .ne 5, 3) := by decide +kernel
theorem dX9_after_48 : decode cX9_after 48 = .ok (.iconst (-1), 1) := by decide +kernel
theorem dX9_after_49 : decode cX9_after 49 = .ok (.ireturn, 1) := by decide +kernel
theorem dX9_after_50 : decode cX9_after 50 = .ok (.aload_n 0, 1) := by decide +kernel
theorem dX9_after_51 : decode cX9_after 51 = .ok (.getfield 75, 3) := by decide +kernel
theorem dX9_after_54 : decode cX9_after 54 = .ok (.iload_n 1, 1) := by decide +kernel
theorem dX9_after_55 : decode cX9_after 55 = .ok (.aaload, 1) := by decide +kernel
theorem dX9_after_56 : decode cX9_after 56 = .ok (.invokevirtual 167, 3) := by decide +kernel
theorem dX9_after_59 : decode cX9_after 59 = .ok (.istore 5, 2) := by decide +kernel
theorem dX9_after_61 : decode cX9_after 61 = .ok (.iload 5, 2) := by decide +kernel
theorem dX9_after_63 : decode cX9_after 63 = .ok (.ifCond .eq 6, 3) := by decide +kernel
theorem dX9_after_66 : decode cX9_after 66 = .ok (.iload 5, 2) := by decide +kernel
theorem dX9_after_68 : decode cX9_after 68 = .ok (.ireturn, 1) := by decide +kernel
theorem dX9_after_69 : decode cX9_after 69 = .ok (.aload_n 0, 1) := by decide +kernel
theorem dX9_after_70 : decode cX9_after 70 = .ok (.getfield 28, 3) := by decide +kernel
theorem dX9_after_73 : decode cX9_after 73 = .ok (.aload_n 0, 1) := by decide +kernel
theorem dX9_after_74 : decode cX9_after 74 = .ok (.getfield 10, 3) := by decide +kernel
theorem dX9_after_77 : decode cX9_after 77 = .ok (.invokevirtual 147, 3) := by decide +kernel
theorem dX9_after_80 : decode cX9_after 80 = .ok (.aload_n 0, 1) := by decide +kernel
theorem dX9_after_81 : decode cX9_after 81 = .ok (.getfield 28, 3) := by decide +kernel
theorem dX9_after_84 : decode cX9_after 84 = .ok (.aload_n 0, 1) := by decide +kernel
theorem dX9_after_85 : decode cX9_after 85 = .ok (.getfield 75, 3) := by decide +kernel
theorem dX9_after_88 : decode cX9_after 88 = .ok (.iload_n 1, 1) := by decide +kernel
theorem dX9_after_89 : decode cX9_after 89 = .ok (.aaload, 1) := by decide +kernel
theorem dX9_after_90 : decode cX9_after 90 = .ok (.invokevirtual 170, 3) := by decide +kernel
theorem dX9_after_93 : decode cX9_after 93 = .ok (.iload_n 3, 1) := by decide +kernel
theorem dX9_after_94 : decode cX9_after 94 = .ok (.ifCond .ne 13, 3) := by decide +kernel
theorem dX9_after_97 : decode cX9_after 97 = .ok (.aload_n 0, 1) := by decide +kernel
theorem dX9_after_98 : decode cX9_after 98 = .ok (.getfield 28, 3) := by decide +kernel
theorem dX9_after_101 : decode cX9_after 101 = .ok (.getfield 183, 3) := by decide +kernel
theorem dX9_after_104 : decode cX9_after 104 = .ok (.iload_n 2, 1) := by decide +kernel
theorem dX9_after_105 : decode cX9_after 105 = .ok (.iaload, 1) := by decide +kernel
theorem dX9_after_106 : decode cX9_after 106 = .ok (.ireturn, 1) := by decide +kernel
theorem dX9_after_107 : decode cX9_after 107 = .ok (.iload_n 3, 1) := by decide +kernel
theorem dX9_after_108 : decode cX9_after 108 = .ok (.iconst 1, 1) := by decide +kernel
theorem dX9_after_109 : decode cX9_after 109 = .ok (.if_icmp .ne 13, 3) := by decide +kernel
theorem dX9_after_112 : decode cX9_after 112 = .ok (.aload_n 0, 1) := by decide +kernel
theorem dX9_after_113 : decode cX9_after 113 = .ok (.getfield 28, 3) := by decide +kernel
theorem dX9_after_116 : decode cX9_after 116 = .ok (.getfield 186, 3) := by decide +kernel
theorem dX9_after_119 : decode cX9_after 119 = .ok (.goto 10, 3) := by decide +kernel
theorem dX9_after_122 : decode cX9_after 122 = .ok (.aload_n 0, 1) := by decide +kernel
theorem dX9_after_123 : decode cX9_after 123 = .ok (.getfield 28, 3) := by decide +kernel
theorem dX9_after_126 : decode cX9_after 126 = .ok (.getfield 189, 3) := by decide +kernel
theorem dX9_after_129 : decode cX9_after 129 = .ok (.ireturn, 1) := by decide +kernel
theorem bX9_after_34 {K : KT} {g : GT} {cm sm : Nat} {cs : Nat × Nat} {c0 : Nat} {x1 : Int} {x2 : Int} {x3 : Int} {r : Int} {σ' : St} (hC : Ctx K g RX9 cX9_after 6 6 cm sm) (hcs : cs.1 ≤ cm ∧ cs.2 ≤ sm) (h0 : isO 9 c0 = true) (hR : RetI K g cX9_after 6 cs r (SH0, σ')) : ∀ (y0 : Int) (σ : St), fX9_after_34 c0 x1 x2 x3 y0 σ = some (r, σ') → G K g 6 cs 34 [(0, vr c0), (1, vi x1), (2, vi x2), (3, vi x3)] [vi y0] (SH0, σ) := by
  intro y0 σ h
  unfold fX9_after_34 at h
  refine g_istore hC dX9_after_34 (Nat.le_of_ble_eq_true rfl) rfl ?_
  refine g_iload_n hC dX9_after_36 2 rfl rfl ?_
  obtain ⟨⟨r1, s1⟩, e1, h⟩ := of_bind h
  try dsimp only at h
  refine s_callSi hC dX9_after_37 (tX9_isShelf e1) miX9_isShelf msX9_isShelf mlRX9_92 rfl rfl (Nat.le_of_ble_eq_true rfl) (Nat.le_of_ble_eq_true rfl) (Nat.le_of_ble_eq_true rfl) hcs ?_
  refine g_if_eq hC dX9_after_40 (tgt := 48) (by decide) (fun h9 => ?_) (fun h9 => ?_)
  · rw [if_pos h9] at h
    refine g_iconst hC dX9_after_48 ok_m1 ?_
    exact ret_i h hR dX9_after_49
  · rw [if_neg h9] at h
    refine g_iload hC dX9_after_43 0 rfl ?_
    refine g_if_ne hC dX9_after_45 (tgt := 50) (by decide) (fun h9 => ?_) (fun h9 => ?_)
    · rw [if_neg h9] at h
      refine g_aload_n hC dX9_after_50 1 rfl rfl ?_
      refine g_getr hC dX9_after_51 lfRX9_75 (isO_spec h0) (ft_9_8 h0) ?_
      refine g_iload_n hC dX9_after_54 2 rfl rfl ?_
      obtain ⟨b9, h⟩ := of_ite h
      refine g_aald hC dX9_after_55 (isA_spec (rf_9_8 h0)) b9 (sh_at (rf_9_8 h0) b9).1 ?_
      have b22 := (sh_at (rf_9_8 h0) b9).2
      obtain ⟨⟨r3, s3⟩, e3, h⟩ := of_bind h
      try dsimp only at h
      refine s_callVi hC dX9_after_56 (tX6_refusesBytes b22 e3) miX6_refusesBytes mvX6_refusesBytes mlRX9_167 (isO_spec b22) vc_6 rfl rfl (Nat.le_of_ble_eq_true rfl) (Nat.le_of_ble_eq_true rfl) (Nat.le_of_ble_eq_true rfl) hcs ?_
      refine g_istore hC dX9_after_59 (Nat.le_of_ble_eq_true rfl) rfl ?_
      refine g_iload hC dX9_after_61 0 rfl ?_
      refine g_if_eq hC dX9_after_63 (tgt := 69) (by decide) (fun h9 => ?_) (fun h9 => ?_)
      · rw [if_pos h9] at h
        refine g_aload_n hC dX9_after_69 2 rfl rfl ?_
        refine g_getr hC dX9_after_70 lfRX9_28 (isO_spec h0) (ft_9_2 h0) ?_
        refine g_aload_n hC dX9_after_73 2 rfl rfl ?_
        refine g_getr hC dX9_after_74 lfRX9_10 (isO_spec h0) (ft_9_0 h0) ?_
        obtain ⟨s4, e4, h⟩ := of_bind h
        try dsimp only at h
        refine s_callVv hC dX9_after_77 (tX7_begin (rf_9_2 h0) (rf_9_0 h0) e4) miX7_begin mvX7_begin mlRX9_147 (isO_spec (rf_9_2 h0)) vc_7 rfl rfl (Nat.le_of_ble_eq_true rfl) (Nat.le_of_ble_eq_true rfl) (Nat.le_of_ble_eq_true rfl) hcs ?_
        refine g_aload_n hC dX9_after_80 2 rfl rfl ?_
        refine g_getr hC dX9_after_81 lfRX9_28 (isO_spec h0) (ft_9_2 h0) ?_
        refine g_aload_n hC dX9_after_84 2 rfl rfl ?_
        refine g_getr hC dX9_after_85 lfRX9_75 (isO_spec h0) (ft_9_8 h0) ?_
        refine g_iload_n hC dX9_after_88 3 rfl rfl ?_
        obtain ⟨b9, h⟩ := of_ite h
        refine g_aald hC dX9_after_89 (isA_spec (rf_9_8 h0)) b9 (sh_at (rf_9_8 h0) b9).1 ?_
        have b25 := (sh_at (rf_9_8 h0) b9).2
        obtain ⟨s6, e6, h⟩ := of_bind h
        try dsimp only at h
        refine s_callVv hC dX9_after_90 (tX7_sellsAll (rf_9_2 h0) b25 e6) miX7_sellsAll mvX7_sellsAll mlRX9_170 (isO_spec (rf_9_2 h0)) vc_7 rfl rfl (Nat.le_of_ble_eq_true rfl) (Nat.le_of_ble_eq_true rfl) (Nat.le_of_ble_eq_true rfl) hcs ?_
        refine g_iload_n hC dX9_after_93 5 rfl rfl ?_
        refine g_if_ne hC dX9_after_94 (tgt := 107) (by decide) (fun h9 => ?_) (fun h9 => ?_)
        · rw [if_neg h9] at h
          refine g_iload_n hC dX9_after_107 5 rfl rfl ?_
          refine g_iconst hC dX9_after_108 ok_1 ?_
          refine g_icmp_ne hC dX9_after_109 (tgt := 122) (by decide) (fun h9 => ?_) (fun h9 => ?_)
          · rw [if_neg h9] at h
            refine g_aload_n hC dX9_after_122 2 rfl rfl ?_
            refine g_getr hC dX9_after_123 lfRX9_28 (isO_spec h0) (ft_9_2 h0) ?_
            refine g_geti hC dX9_after_126 lfRX9_189 (isO_spec (rf_9_2 h0)) (ft_7_10 (rf_9_2 h0)) ?_
            exact ret_i h hR dX9_after_129
          · rw [if_pos h9] at h
            refine g_aload_n hC dX9_after_112 2 rfl rfl ?_
            refine g_getr hC dX9_after_113 lfRX9_28 (isO_spec h0) (ft_9_2 h0) ?_
            refine g_geti hC dX9_after_116 lfRX9_186 (isO_spec (rf_9_2 h0)) (ft_7_11 (rf_9_2 h0)) ?_
            refine g_goto hC dX9_after_119 (tgt := 129) (by decide) ?_
            exact ret_i h hR dX9_after_129
        · rw [if_pos h9] at h
          refine g_aload_n hC dX9_after_97 2 rfl rfl ?_
          refine g_getr hC dX9_after_98 lfRX9_28 (isO_spec h0) (ft_9_2 h0) ?_
          refine g_getr hC dX9_after_101 lfRX9_183 (isO_spec (rf_9_2 h0)) (ft_7_2 (rf_9_2 h0)) ?_
          refine g_iload_n hC dX9_after_104 4 rfl rfl ?_
          obtain ⟨b9, h⟩ := of_ite h
          refine g_iald hC dX9_after_105 (isA_spec (rf_7_2 (rf_9_2 h0))) b9 ?_
          exact ret_i h hR dX9_after_106
      · rw [if_neg h9] at h
        refine g_iload hC dX9_after_66 0 rfl ?_
        exact ret_i h hR dX9_after_68
    · rw [if_pos h9] at h
      refine g_iconst hC dX9_after_48 ok_m1 ?_
      exact ret_i h hR dX9_after_49
theorem bX9_after_33 {K : KT} {g : GT} {cm sm : Nat} {cs : Nat × Nat} {c0 : Nat} {x1 : Int} {x2 : Int} {x3 : Int} {r : Int} {σ' : St} (hC : Ctx K g RX9 cX9_after 6 6 cm sm) (hcs : cs.1 ≤ cm ∧ cs.2 ≤ sm) (h0 : isO 9 c0 = true) (hR : RetI K g cX9_after 6 cs r (SH0, σ')) : ∀ (σ : St), fX9_after_33 c0 x1 x2 x3 σ = some (r, σ') → G K g 6 cs 33 [(0, vr c0), (1, vi x1), (2, vi x2), (3, vi x3)] [] (SH0, σ) := by
  intro σ h
  unfold fX9_after_33 at h
  refine g_iconst hC dX9_after_33 ok_0 ?_
  exact g_pick [0, 1, 2, 3] rfl (bX9_after_34 hC hcs h0 hR _ _ h)
theorem bX9_after_25 {K : KT} {g : GT} {cm sm : Nat} {cs : Nat × Nat} {c0 : Nat} {x1 : Int} {x2 : Int} {x3 : Int} {r : Int} {σ' : St} (hC : Ctx K g RX9 cX9_after 6 6 cm sm) (hcs : cs.1 ≤ cm ∧ cs.2 ≤ sm) (h0 : isO 9 c0 = true) (hR : RetI K g cX9_after 6 cs r (SH0, σ')) : ∀ (σ : St), fX9_after_25 c0 x1 x2 x3 σ = some (r, σ') → G K g 6 cs 25 [(0, vr c0), (1, vi x1), (2, vi x2), (3, vi x3)] [] (SH0, σ) := by
  intro σ h
  unfold fX9_after_25 at h
  refine g_iload_n hC dX9_after_25 2 rfl rfl ?_
  refine g_if_ne hC dX9_after_26 (tgt := 33) (by decide) (fun h9 => ?_) (fun h9 => ?_)
  · rw [if_neg h9] at h
    exact g_pick [0, 1, 2, 3] rfl (bX9_after_33 hC hcs h0 hR _ h)
  · rw [if_pos h9] at h
    refine g_iconst hC dX9_after_29 ok_1 ?_
    refine g_goto hC dX9_after_30 (tgt := 34) (by decide) ?_
    exact g_pick [0, 1, 2, 3] rfl (bX9_after_34 hC hcs h0 hR _ _ h)
theorem bX9_after_0 {K : KT} {g : GT} {cm sm : Nat} {cs : Nat × Nat} {c0 : Nat} {x1 : Int} {x2 : Int} {x3 : Int} {r : Int} {σ' : St} (hC : Ctx K g RX9 cX9_after 6 6 cm sm) (hcs : cs.1 ≤ cm ∧ cs.2 ≤ sm) (h0 : isO 9 c0 = true) (hR : RetI K g cX9_after 6 cs r (SH0, σ')) : ∀ (σ : St), fX9_after c0 x1 x2 x3 σ = some (r, σ') → G K g 6 cs 0 [(0, vr c0), (1, vi x1), (2, vi x2), (3, vi x3)] [] (SH0, σ) := by
  intro σ h
  unfold fX9_after at h
  refine g_iload_n hC dX9_after_0 3 rfl rfl ?_
  refine g_if_ne hC dX9_after_1 (tgt := 15) (by decide) (fun h9 => ?_) (fun h9 => ?_)
  · rw [if_neg h9] at h
    refine g_iload_n hC dX9_after_15 3 rfl rfl ?_
    refine g_iconst hC dX9_after_16 ok_1 ?_
    refine g_icmp_eq hC dX9_after_17 (tgt := 25) (by decide) (fun h9 => ?_) (fun h9 => ?_)
    · rw [if_pos h9] at h
      exact g_pick [0, 1, 2, 3] rfl (bX9_after_25 hC hcs h0 hR _ h)
    · rw [if_neg h9] at h
      refine g_iload_n hC dX9_after_20 3 rfl rfl ?_
      refine g_iconst hC dX9_after_21 ok_2 ?_
      refine g_icmp_ne hC dX9_after_22 (tgt := 33) (by decide) (fun h9 => ?_) (fun h9 => ?_)
      · rw [if_neg h9] at h
        exact g_pick [0, 1, 2, 3] rfl (bX9_after_33 hC hcs h0 hR _ h)
      · rw [if_pos h9] at h
        exact g_pick [0, 1, 2, 3] rfl (bX9_after_25 hC hcs h0 hR _ h)
  · rw [if_pos h9] at h
    refine g_aload_n hC dX9_after_4 0 rfl rfl ?_
    refine g_getr hC dX9_after_5 lfRX9_10 (isO_spec h0) (ft_9_0 h0) ?_
    refine g_iload_n hC dX9_after_8 2 rfl rfl ?_
    obtain ⟨⟨r1, s1⟩, e1, h⟩ := of_bind h
    try dsimp only at h
    refine s_callVi hC dX9_after_9 (tX2_hasBidder (rf_9_0 h0) e1) miX2_hasBidder mvX2_hasBidder mlRX9_180 (isO_spec (rf_9_0 h0)) vc_2 rfl rfl (Nat.le_of_ble_eq_true rfl) (Nat.le_of_ble_eq_true rfl) (Nat.le_of_ble_eq_true rfl) hcs ?_
    refine g_goto hC dX9_after_12 (tgt := 34) (by decide) ?_
    exact g_pick [0, 1, 2, 3] rfl (bX9_after_34 hC hcs h0 hR _ _ h)
theorem tX9_after {l : Launch} {g : GT} {c0 : Nat} {x1 : Int} {x2 : Int} {x3 : Int} {σ σ' : St} {r : Int} (h0 : isO 9 c0 = true) (h : fX9_after c0 x1 x2 x3 σ = some (r, σ')) : Cn l g yX9_after cX9_after 6 (some .int) 6 0 0 [vr c0, vi x1, vi x2, vi x3] (SH0, σ) (some (vi r)) (SH0, σ') :=
  Cn.ofI (by decide) (Nat.le_of_ble_eq_true rfl) (fun K e hC hR => (bX9_after_0 hC ⟨Nat.le_refl _, Nat.le_refl _⟩ h0 hR _ h))
theorem dX2_become_0 : decode cX2_become 0 = .ok (.iload_n 2, 1) := by decide +kernel
theorem dX2_become_1 : decode cX2_become 1 = .ok (.ifCond .lt 34, 3) := by decide +kernel
theorem dX2_become_4 : decode cX2_become 4 = .ok (.iload_n 2, 1) := by decide +kernel
theorem dX2_become_5 : decode cX2_become 5 = .ok (.iconst 4, 1) := by decide +kernel
theorem dX2_become_6 : decode cX2_become 6 = .ok (.if_icmp .ge 29, 3) := by decide +kernel
theorem dX2_become_9 : decode cX2_become 9 = .ok (.iload_n 1, 1) := by decide +kernel
theorem dX2_become_10 : decode cX2_become 10 = .ok (.ifCond .lt 25, 3) := by decide +kernel
theorem dX2_become_13 : decode cX2_become 13 = .ok (.iload_n 1, 1) := by decide +kernel
theorem dX2_become_14 : decode cX2_become 14 = .ok (.aload_n 0, 1) := by decide +kernel
theorem dX2_become_15 : decode cX2_become 15 = .ok (.getfield 18, 3) := by decide +kernel
theorem dX2_become_18 : decode cX2_become 18 = .ok (.if_icmp .ge 17, 3) := by decide +kernel
theorem dX2_become_21 : decode cX2_become 21 = .ok (.aload_n 0, 1) := by decide +kernel
theorem dX2_become_22 : decode cX2_become 22 = .ok (.getfield 11, 3) := by decide +kernel
theorem dX2_become_25 : decode cX2_become 25 = .ok (.iload_n 1, 1) := by decide +kernel
theorem dX2_become_26 : decode cX2_become 26 = .ok (.iconst 4, 1) := by decide +kernel
theorem dX2_become_27 : decode cX2_become 27 = .ok (.imul, 1) := by decide +kernel
theorem dX2_become_28 : decode cX2_become 28 = .ok (.iload_n 2, 1) := by decide +kernel
theorem dX2_become_29 : decode cX2_become 29 = .ok (.iadd, 1) := by decide +kernel
theorem dX2_become_30 : decode cX2_become 30 = .ok (.iload_n 3, 1) := by decide +kernel
theorem dX2_become_31 : decode cX2_become 31 = .ok (.iastore, 1) := by decide +kernel
theorem dX2_become_32 : decode cX2_become 32 = .ok (.goto 40, 3) := by decide +kernel
theorem dX2_become_35 : decode cX2_become 35 = .ok (.iload_n 2, 1) := by decide +kernel
theorem dX2_become_36 : decode cX2_become 36 = .ok (.iconst 4, 1) := by decide +kernel
theorem dX2_become_37 : decode cX2_become 37 = .ok (.if_icmp .lt 35, 3) := by decide +kernel
theorem dX2_become_40 : decode cX2_become 40 = .ok (.iload_n 2, 1) := by decide +kernel
theorem dX2_become_41 : decode cX2_become 41 = .ok (.bipush 13, 2) := by decide +kernel
theorem dX2_become_43 : decode cX2_become 43 = .ok (.if_icmp .ge 29, 3) := by decide +kernel
theorem dX2_become_46 : decode cX2_become 46 = .ok (.iload_n 1, 1) := by decide +kernel
theorem dX2_become_47 : decode cX2_become 47 = .ok (.ifCond .lt 25, 3) := by decide +kernel
theorem dX2_become_50 : decode cX2_become 50 = .ok (.iload_n 1, 1) := by decide +kernel
theorem dX2_become_51 : decode cX2_become 51 = .ok (.aload_n 0, 1) := by decide +kernel
theorem dX2_become_52 : decode cX2_become 52 = .ok (.getfield 22, 3) := by decide +kernel
theorem dX2_become_55 : decode cX2_become 55 = .ok (.if_icmp .ge 17, 3) := by decide +kernel
theorem dX2_become_58 : decode cX2_become 58 = .ok (.aload_n 0, 1) := by decide +kernel
theorem dX2_become_59 : decode cX2_become 59 = .ok (.getfield 15, 3) := by decide +kernel
theorem dX2_become_62 : decode cX2_become 62 = .ok (.iload_n 1, 1) := by decide +kernel
theorem dX2_become_63 : decode cX2_become 63 = .ok (.bipush 9, 2) := by decide +kernel
theorem dX2_become_65 : decode cX2_become 65 = .ok (.imul, 1) := by decide +kernel
theorem dX2_become_66 : decode cX2_become 66 = .ok (.iload_n 2, 1) := by decide +kernel
theorem dX2_become_67 : decode cX2_become 67 = .ok (.iadd, 1) := by decide +kernel
theorem dX2_become_68 : decode cX2_become 68 = .ok (.iconst 4, 1) := by decide +kernel
theorem dX2_become_69 : decode cX2_become 69 = .ok (.isub, 1) := by decide +kernel
theorem dX2_become_70 : decode cX2_become 70 = .ok (.iload_n 3, 1) := by decide +kernel
theorem dX2_become_71 : decode cX2_become 71 = .ok (.iastore, 1) := by decide +kernel
theorem dX2_become_72 : decode cX2_become 72 = .ok (.return_, 1) := by decide +kernel
theorem bX2_become_35 {K : KT} {g : GT} {cm sm : Nat} {cs : Nat × Nat} {c0 : Nat} {x1 : Int} {x2 : Int} {x3 : Int} {σ' : St} (hC : Ctx K g RX2 cX2_become 4 0 cm sm) (hcs : cs.1 ≤ cm ∧ cs.2 ≤ sm) (h0 : isO 2 c0 = true) (hR : RetV K g cX2_become 4 cs (SH0, σ')) : ∀ (σ : St), fX2_become_35 c0 x1 x2 x3 σ = some σ' → G K g 4 cs 35 [(0, vr c0), (1, vi x1), (2, vi x2), (3, vi x3)] [] (SH0, σ) := by
  intro σ h
  unfold fX2_become_35 at h
  refine g_iload_n hC dX2_become_35 2 rfl rfl ?_
  refine g_iconst hC dX2_become_36 ok_4 ?_
  refine g_icmp_lt hC dX2_become_37 (tgt := 72) (by decide) (fun h9 => ?_) (fun h9 => ?_)
  · rw [if_pos h9] at h
    exact ret_v h hR dX2_become_72
  · rw [if_neg h9] at h
    refine g_iload_n hC dX2_become_40 2 rfl rfl ?_
    refine g_bipush hC dX2_become_41 bp_13 ?_
    refine g_icmp_ge hC dX2_become_43 (tgt := 72) (by decide) (fun h9 => ?_) (fun h9 => ?_)
    · rw [if_pos h9] at h
      exact ret_v h hR dX2_become_72
    · rw [if_neg h9] at h
      refine g_iload_n hC dX2_become_46 1 rfl rfl ?_
      refine g_if_lt hC dX2_become_47 (tgt := 72) (by decide) (fun h9 => ?_) (fun h9 => ?_)
      · rw [if_pos h9] at h
        exact ret_v h hR dX2_become_72
      · rw [if_neg h9] at h
        refine g_iload_n hC dX2_become_50 1 rfl rfl ?_
        refine g_aload_n hC dX2_become_51 0 rfl rfl ?_
        refine g_geti hC dX2_become_52 lfRX2_22 (isO_spec h0) (ft_2_3 h0) ?_
        refine g_icmp_ge hC dX2_become_55 (tgt := 72) (by decide) (fun h9 => ?_) (fun h9 => ?_)
        · rw [if_pos h9] at h
          exact ret_v h hR dX2_become_72
        · rw [if_neg h9] at h
          refine g_aload_n hC dX2_become_58 0 rfl rfl ?_
          refine g_getr hC dX2_become_59 lfRX2_15 (isO_spec h0) (ft_2_1 h0) ?_
          refine g_iload_n hC dX2_become_62 1 rfl rfl ?_
          refine g_bipush hC dX2_become_63 bp_9 ?_
          refine g_imul hC dX2_become_65 ?_
          refine g_iload_n hC dX2_become_66 2 rfl rfl ?_
          refine g_iadd hC dX2_become_67 ?_
          refine g_iconst hC dX2_become_68 ok_4 ?_
          refine g_isub hC dX2_become_69 ?_
          refine g_iload_n hC dX2_become_70 3 rfl rfl ?_
          obtain ⟨b9, h⟩ := of_ite h
          refine g_iast hC dX2_become_71 (isA_spec (rf_2_1 h0)) b9 ?_
          exact ret_v h hR dX2_become_72
theorem bX2_become_0 {K : KT} {g : GT} {cm sm : Nat} {cs : Nat × Nat} {c0 : Nat} {x1 : Int} {x2 : Int} {x3 : Int} {σ' : St} (hC : Ctx K g RX2 cX2_become 4 0 cm sm) (hcs : cs.1 ≤ cm ∧ cs.2 ≤ sm) (h0 : isO 2 c0 = true) (hR : RetV K g cX2_become 4 cs (SH0, σ')) : ∀ (σ : St), fX2_become c0 x1 x2 x3 σ = some σ' → G K g 4 cs 0 [(0, vr c0), (1, vi x1), (2, vi x2), (3, vi x3)] [] (SH0, σ) := by
  intro σ h
  unfold fX2_become at h
  refine g_iload_n hC dX2_become_0 2 rfl rfl ?_
  refine g_if_lt hC dX2_become_1 (tgt := 35) (by decide) (fun h9 => ?_) (fun h9 => ?_)
  · rw [if_pos h9] at h
    exact g_pick [0, 1, 2, 3] rfl (bX2_become_35 hC hcs h0 hR _ h)
  · rw [if_neg h9] at h
    refine g_iload_n hC dX2_become_4 2 rfl rfl ?_
    refine g_iconst hC dX2_become_5 ok_4 ?_
    refine g_icmp_ge hC dX2_become_6 (tgt := 35) (by decide) (fun h9 => ?_) (fun h9 => ?_)
    · rw [if_pos h9] at h
      exact g_pick [0, 1, 2, 3] rfl (bX2_become_35 hC hcs h0 hR _ h)
    · rw [if_neg h9] at h
      refine g_iload_n hC dX2_become_9 1 rfl rfl ?_
      refine g_if_lt hC dX2_become_10 (tgt := 35) (by decide) (fun h9 => ?_) (fun h9 => ?_)
      · rw [if_pos h9] at h
        exact g_pick [0, 1, 2, 3] rfl (bX2_become_35 hC hcs h0 hR _ h)
      · rw [if_neg h9] at h
        refine g_iload_n hC dX2_become_13 1 rfl rfl ?_
        refine g_aload_n hC dX2_become_14 0 rfl rfl ?_
        refine g_geti hC dX2_become_15 lfRX2_18 (isO_spec h0) (ft_2_2 h0) ?_
        refine g_icmp_ge hC dX2_become_18 (tgt := 35) (by decide) (fun h9 => ?_) (fun h9 => ?_)
        · rw [if_pos h9] at h
          exact g_pick [0, 1, 2, 3] rfl (bX2_become_35 hC hcs h0 hR _ h)
        · rw [if_neg h9] at h
          refine g_aload_n hC dX2_become_21 0 rfl rfl ?_
          refine g_getr hC dX2_become_22 lfRX2_11 (isO_spec h0) (ft_2_0 h0) ?_
          refine g_iload_n hC dX2_become_25 1 rfl rfl ?_
          refine g_iconst hC dX2_become_26 ok_4 ?_
          refine g_imul hC dX2_become_27 ?_
          refine g_iload_n hC dX2_become_28 2 rfl rfl ?_
          refine g_iadd hC dX2_become_29 ?_
          refine g_iload_n hC dX2_become_30 3 rfl rfl ?_
          obtain ⟨b9, h⟩ := of_ite h
          refine g_iast hC dX2_become_31 (isA_spec (rf_2_0 h0)) b9 ?_
          refine g_goto hC dX2_become_32 (tgt := 72) (by decide) ?_
          exact ret_v h hR dX2_become_72
theorem tX2_become {l : Launch} {g : GT} {c0 : Nat} {x1 : Int} {x2 : Int} {x3 : Int} {σ σ' : St} (h0 : isO 2 c0 = true) (h : fX2_become c0 x1 x2 x3 σ = some σ') : Cn l g yX2_become cX2_become 4 none 0 0 0 [vr c0, vi x1, vi x2, vi x3] (SH0, σ) none (SH0, σ') :=
  Cn.ofV (by decide) (Nat.le_of_ble_eq_true rfl) (fun K e hC hR => (bX2_become_0 hC ⟨Nat.le_refl _, Nat.le_refl _⟩ h0 hR _ h))
