/-! Walks (printed by my program). -/
theorem dX10_sign_0 : decode cX10_sign 0 = .ok (.aload_n 0, 1) := by decide +kernel
theorem dX10_sign_1 : decode cX10_sign 1 = .ok (.getfield 152, 3) := by decide +kernel
theorem dX10_sign_4 : decode cX10_sign 4 = .ok (.aload_n 0, 1) := by decide +kernel
theorem dX10_sign_5 : decode cX10_sign 5 = .ok (.getfield 149, 3) := by decide +kernel
theorem dX10_sign_8 : decode cX10_sign 8 = .ok (.if_icmp .ge 15, 3) := by decide +kernel
theorem dX10_sign_11 : decode cX10_sign 11 = .ok (.aload_n 0, 1) := by decide +kernel
theorem dX10_sign_12 : decode cX10_sign 12 = .ok (.getfield 27, 3) := by decide +kernel
theorem dX10_sign_15 : decode cX10_sign 15 = .ok (.aload_n 0, 1) := by decide +kernel
theorem dX10_sign_16 : decode cX10_sign 16 = .ok (.getfield 152, 3) := by decide +kernel
theorem dX10_sign_19 : decode cX10_sign 19 = .ok (.iaload, 1) := by decide +kernel
theorem dX10_sign_20 : decode cX10_sign 20 = .ok (.goto 4, 3) := by decide +kernel
theorem dX10_sign_23 : decode cX10_sign 23 = .ok (.iconst (-1), 1) := by decide +kernel
theorem dX10_sign_24 : decode cX10_sign 24 = .ok (.ireturn, 1) := by decide +kernel
theorem bX10_sign_0 {K : KT} {g : GT} {cm sm : Nat} {cs : Nat × Nat} {c0 : Nat} {r : Int} {σ' : St} (hC : Ctx K g RX10 cX10_sign 1 0 cm sm) (hcs : cs.1 ≤ cm ∧ cs.2 ≤ sm) (h0 : isO 10 c0 = true) (hR : RetI K g cX10_sign 1 cs r (SH0, σ')) : ∀ (σ : St), fX10_sign c0 σ = some (r, σ') → G K g 1 cs 0 [(0, vr c0)] [] (SH0, σ) := by
  intro σ h
  unfold fX10_sign at h
  refine g_aload_n hC dX10_sign_0 0 rfl rfl ?_
  refine g_geti hC dX10_sign_1 lfRX10_152 (isO_spec h0) (ft_10_15 h0) ?_
  refine g_aload_n hC dX10_sign_4 0 rfl rfl ?_
  refine g_geti hC dX10_sign_5 lfRX10_149 (isO_spec h0) (ft_10_7 h0) ?_
  refine g_icmp_ge hC dX10_sign_8 (tgt := 23) (by decide) (fun h9 => ?_) (fun h9 => ?_)
  · rw [if_pos h9] at h
    refine g_iconst hC dX10_sign_23 ok_m1 ?_
    exact ret_i h hR dX10_sign_24
  · rw [if_neg h9] at h
    refine g_aload_n hC dX10_sign_11 0 rfl rfl ?_
    refine g_getr hC dX10_sign_12 lfRX10_27 (isO_spec h0) (ft_10_8 h0) ?_
    refine g_aload_n hC dX10_sign_15 0 rfl rfl ?_
    refine g_geti hC dX10_sign_16 lfRX10_152 (isO_spec h0) (ft_10_15 h0) ?_
    obtain ⟨b9, h⟩ := of_ite h
    refine g_iald hC dX10_sign_19 (isA_spec (rf_10_8 h0)) b9 ?_
    refine g_goto hC dX10_sign_20 (tgt := 24) (by decide) ?_
    exact ret_i h hR dX10_sign_24
theorem tX10_sign {l : Launch} {g : GT} {c0 : Nat} {σ σ' : St} {r : Int} (h0 : isO 10 c0 = true) (h : fX10_sign c0 σ = some (r, σ')) : Cn l g yX10_sign cX10_sign 1 (some .int) 0 0 0 [vr c0] (SH0, σ) (some (vi r)) (SH0, σ') :=
  Cn.ofI (by decide) (Nat.le_of_ble_eq_true rfl) (fun K e hC hR => (bX10_sign_0 hC ⟨Nat.le_refl _, Nat.le_refl _⟩ h0 hR _ h))
theorem dX10_is_0 : decode cX10_is 0 = .ok (.aload_n 0, 1) := by decide +kernel
theorem dX10_is_1 : decode cX10_is 1 = .ok (.invokevirtual 155, 3) := by decide +kernel
theorem dX10_is_4 : decode cX10_is 4 = .ok (.iload_n 1, 1) := by decide +kernel
theorem dX10_is_5 : decode cX10_is 5 = .ok (.if_icmp .eq 5, 3) := by decide +kernel
theorem dX10_is_8 : decode cX10_is 8 = .ok (.iconst 0, 1) := by decide +kernel
theorem dX10_is_9 : decode cX10_is 9 = .ok (.ireturn, 1) := by decide +kernel
theorem dX10_is_10 : decode cX10_is 10 = .ok (.aload_n 0, 1) := by decide +kernel
theorem dX10_is_11 : decode cX10_is 11 = .ok (.dup, 1) := by decide +kernel
theorem dX10_is_12 : decode cX10_is 12 = .ok (.getfield 152, 3) := by decide +kernel
theorem dX10_is_15 : decode cX10_is 15 = .ok (.iconst 1, 1) := by decide +kernel
theorem dX10_is_16 : decode cX10_is 16 = .ok (.iadd, 1) := by decide +kernel
theorem dX10_is_17 : decode cX10_is 17 = .ok (.putfield 152, 3) := by decide +kernel
theorem dX10_is_20 : decode cX10_is 20 = .ok (.iconst 1, 1) := by decide +kernel
theorem dX10_is_21 : decode cX10_is 21 = .ok (.ireturn, 1) := by decide +kernel
theorem bX10_is_0 {K : KT} {g : GT} {cm sm : Nat} {cs : Nat × Nat} {c0 : Nat} {x1 : Int} {r : Int} {σ' : St} (hC : Ctx K g RX10 cX10_is 2 1 cm sm) (hcs : cs.1 ≤ cm ∧ cs.2 ≤ sm) (h0 : isO 10 c0 = true) (hR : RetZ K g cX10_is 2 cs r (SH0, σ')) : ∀ (σ : St), fX10_is c0 x1 σ = some (r, σ') → G K g 2 cs 0 [(0, vr c0), (1, vi x1)] [] (SH0, σ) := by
  intro σ h
  unfold fX10_is at h
  refine g_aload_n hC dX10_is_0 0 rfl rfl ?_
  obtain ⟨⟨r1, s1⟩, e1, h⟩ := of_bind h
  try dsimp only at h
  refine s_callVi hC dX10_is_1 (tX10_sign h0 e1) miX10_sign mvX10_sign mlRX10_155 (isO_spec h0) vc_10 rfl rfl (Nat.le_of_ble_eq_true rfl) (Nat.le_of_ble_eq_true rfl) (Nat.le_of_ble_eq_true rfl) hcs ?_
  refine g_iload_n hC dX10_is_4 1 rfl rfl ?_
  refine g_icmp_eq hC dX10_is_5 (tgt := 10) (by decide) (fun h9 => ?_) (fun h9 => ?_)
  · rw [if_pos h9] at h
    refine g_aload_n hC dX10_is_10 0 rfl rfl ?_
    refine g_dup hC dX10_is_11 rfl ?_
    refine g_geti hC dX10_is_12 lfRX10_152 (isO_spec h0) (ft_10_15 h0) ?_
    refine g_iconst hC dX10_is_15 ok_1 ?_
    refine g_iadd hC dX10_is_16 ?_
    refine g_puti hC dX10_is_17 lfRX10_152 fp_10_15 (isO_spec h0) (ft_10_15 h0) ?_
    refine g_iconst hC dX10_is_20 ok_1 ?_
    exact ret_z h hR (by decide) dX10_is_21
  · rw [if_neg h9] at h
    refine g_iconst hC dX10_is_8 ok_0 ?_
    exact ret_z h hR (by decide) dX10_is_9
theorem tX10_is {l : Launch} {g : GT} {c0 : Nat} {x1 : Int} {σ σ' : St} {r : Int} (h0 : isO 10 c0 = true) (h : fX10_is c0 x1 σ = some (r, σ')) : Cn l g yX10_is cX10_is 2 (some .boolean) 1 0 0 [vr c0, vi x1] (SH0, σ) (some (vi r)) (SH0, σ') :=
  Cn.ofZ (by decide) (Nat.le_of_ble_eq_true rfl) (fun K e hC hR => (bX10_is_0 hC ⟨Nat.le_refl _, Nat.le_refl _⟩ h0 hR _ h))
theorem dX10_codes_0 : decode cX10_codes 0 = .ok (.aload_n 0, 1) := by decide +kernel
theorem dX10_codes_1 : decode cX10_codes 1 = .ok (.getfield 51, 3) := by decide +kernel
theorem dX10_codes_4 : decode cX10_codes 4 = .ok (.aload_n 0, 1) := by decide +kernel
theorem dX10_codes_5 : decode cX10_codes 5 = .ok (.dup, 1) := by decide +kernel
theorem dX10_codes_6 : decode cX10_codes 6 = .ok (.getfield 159, 3) := by decide +kernel
theorem dX10_codes_9 : decode cX10_codes 9 = .ok (.dup_x1, 1) := by decide +kernel
theorem dX10_codes_10 : decode cX10_codes 10 = .ok (.iconst 1, 1) := by decide +kernel
theorem dX10_codes_11 : decode cX10_codes 11 = .ok (.iadd, 1) := by decide +kernel
theorem dX10_codes_12 : decode cX10_codes 12 = .ok (.putfield 159, 3) := by decide +kernel
theorem dX10_codes_15 : decode cX10_codes 15 = .ok (.iload_n 1, 1) := by decide +kernel
theorem dX10_codes_16 : decode cX10_codes 16 = .ok (.iastore, 1) := by decide +kernel
theorem dX10_codes_17 : decode cX10_codes 17 = .ok (.iconst 1, 1) := by decide +kernel
theorem dX10_codes_18 : decode cX10_codes 18 = .ok (.ireturn, 1) := by decide +kernel
theorem bX10_codes_0 {K : KT} {g : GT} {cm sm : Nat} {cs : Nat × Nat} {c0 : Nat} {x1 : Int} {r : Int} {σ' : St} (hC : Ctx K g RX10 cX10_codes 2 0 cm sm) (hcs : cs.1 ≤ cm ∧ cs.2 ≤ sm) (h0 : isO 10 c0 = true) (hR : RetZ K g cX10_codes 2 cs r (SH0, σ')) : ∀ (σ : St), fX10_codes c0 x1 σ = some (r, σ') → G K g 2 cs 0 [(0, vr c0), (1, vi x1)] [] (SH0, σ) := by
  intro σ h
  unfold fX10_codes at h
  refine g_aload_n hC dX10_codes_0 0 rfl rfl ?_
  refine g_getr hC dX10_codes_1 lfRX10_51 (isO_spec h0) (ft_10_22 h0) ?_
  refine g_aload_n hC dX10_codes_4 0 rfl rfl ?_
  refine g_dup hC dX10_codes_5 rfl ?_
  refine g_geti hC dX10_codes_6 lfRX10_159 (isO_spec h0) (ft_10_17 h0) ?_
  refine g_dup_x1 hC dX10_codes_9 rfl rfl ?_
  refine g_iconst hC dX10_codes_10 ok_1 ?_
  refine g_iadd hC dX10_codes_11 ?_
  refine g_puti hC dX10_codes_12 lfRX10_159 fp_10_17 (isO_spec h0) (ft_10_17 h0) ?_
  refine g_iload_n hC dX10_codes_15 1 rfl rfl ?_
  obtain ⟨b9, h⟩ := of_ite h
  refine g_iast hC dX10_codes_16 (isA_spec (rf_10_22 h0)) b9 ?_
  refine g_iconst hC dX10_codes_17 ok_1 ?_
  exact ret_z h hR (by decide) dX10_codes_18
theorem tX10_codes {l : Launch} {g : GT} {c0 : Nat} {x1 : Int} {σ σ' : St} {r : Int} (h0 : isO 10 c0 = true) (h : fX10_codes c0 x1 σ = some (r, σ')) : Cn l g yX10_codes cX10_codes 2 (some .boolean) 0 0 0 [vr c0, vi x1] (SH0, σ) (some (vi r)) (SH0, σ') :=
  Cn.ofZ (by decide) (Nat.le_of_ble_eq_true rfl) (fun K e hC hR => (bX10_codes_0 hC ⟨Nat.le_refl _, Nat.le_refl _⟩ h0 hR _ h))
theorem dX10_isDigit_0 : decode cX10_isDigit 0 = .ok (.aload_n 0, 1) := by decide +kernel
theorem dX10_isDigit_1 : decode cX10_isDigit 1 = .ok (.invokevirtual 155, 3) := by decide +kernel
theorem dX10_isDigit_4 : decode cX10_isDigit 4 = .ok (.bipush 48, 2) := by decide +kernel
theorem dX10_isDigit_6 : decode cX10_isDigit 6 = .ok (.if_icmp .lt 16, 3) := by decide +kernel
theorem dX10_isDigit_9 : decode cX10_isDigit 9 = .ok (.aload_n 0, 1) := by decide +kernel
theorem dX10_isDigit_10 : decode cX10_isDigit 10 = .ok (.invokevirtual 155, 3) := by decide +kernel
theorem dX10_isDigit_13 : decode cX10_isDigit 13 = .ok (.bipush 57, 2) := by decide +kernel
theorem dX10_isDigit_15 : decode cX10_isDigit 15 = .ok (.if_icmp .gt 7, 3) := by decide +kernel
theorem dX10_isDigit_18 : decode cX10_isDigit 18 = .ok (.iconst 1, 1) := by decide +kernel
theorem dX10_isDigit_19 : decode cX10_isDigit 19 = .ok (.goto 4, 3) := by decide +kernel
theorem dX10_isDigit_22 : decode cX10_isDigit 22 = .ok (.iconst 0, 1) := by decide +kernel
theorem dX10_isDigit_23 : decode cX10_isDigit 23 = .ok (.ireturn, 1) := by decide +kernel
theorem bX10_isDigit_0 {K : KT} {g : GT} {cm sm : Nat} {cs : Nat × Nat} {c0 : Nat} {r : Int} {σ' : St} (hC : Ctx K g RX10 cX10_isDigit 1 1 cm sm) (hcs : cs.1 ≤ cm ∧ cs.2 ≤ sm) (h0 : isO 10 c0 = true) (hR : RetZ K g cX10_isDigit 1 cs r (SH0, σ')) : ∀ (σ : St), fX10_isDigit c0 σ = some (r, σ') → G K g 1 cs 0 [(0, vr c0)] [] (SH0, σ) := by
  intro σ h
  unfold fX10_isDigit at h
  refine g_aload_n hC dX10_isDigit_0 0 rfl rfl ?_
  obtain ⟨⟨r1, s1⟩, e1, h⟩ := of_bind h
  try dsimp only at h
  refine s_callVi hC dX10_isDigit_1 (tX10_sign h0 e1) miX10_sign mvX10_sign mlRX10_155 (isO_spec h0) vc_10 rfl rfl (Nat.le_of_ble_eq_true rfl) (Nat.le_of_ble_eq_true rfl) (Nat.le_of_ble_eq_true rfl) hcs ?_
  refine g_bipush hC dX10_isDigit_4 bp_48 ?_
  refine g_icmp_lt hC dX10_isDigit_6 (tgt := 22) (by decide) (fun h9 => ?_) (fun h9 => ?_)
  · rw [if_pos h9] at h
    refine g_iconst hC dX10_isDigit_22 ok_0 ?_
    exact ret_z h hR (by decide) dX10_isDigit_23
  · rw [if_neg h9] at h
    refine g_aload_n hC dX10_isDigit_9 0 rfl rfl ?_
    obtain ⟨⟨r2, s2⟩, e2, h⟩ := of_bind h
    try dsimp only at h
    refine s_callVi hC dX10_isDigit_10 (tX10_sign h0 e2) miX10_sign mvX10_sign mlRX10_155 (isO_spec h0) vc_10 rfl rfl (Nat.le_of_ble_eq_true rfl) (Nat.le_of_ble_eq_true rfl) (Nat.le_of_ble_eq_true rfl) hcs ?_
    refine g_bipush hC dX10_isDigit_13 bp_57 ?_
    refine g_icmp_gt hC dX10_isDigit_15 (tgt := 22) (by decide) (fun h9 => ?_) (fun h9 => ?_)
    · rw [if_pos h9] at h
      refine g_iconst hC dX10_isDigit_22 ok_0 ?_
      exact ret_z h hR (by decide) dX10_isDigit_23
    · rw [if_neg h9] at h
      refine g_iconst hC dX10_isDigit_18 ok_1 ?_
      refine g_goto hC dX10_isDigit_19 (tgt := 23) (by decide) ?_
      exact ret_z h hR (by decide) dX10_isDigit_23
theorem tX10_isDigit {l : Launch} {g : GT} {c0 : Nat} {σ σ' : St} {r : Int} (h0 : isO 10 c0 = true) (h : fX10_isDigit c0 σ = some (r, σ')) : Cn l g yX10_isDigit cX10_isDigit 1 (some .boolean) 1 0 0 [vr c0] (SH0, σ) (some (vi r)) (SH0, σ') :=
  Cn.ofZ (by decide) (Nat.le_of_ble_eq_true rfl) (fun K e hC hR => (bX10_isDigit_0 hC ⟨Nat.le_refl _, Nat.le_refl _⟩ h0 hR _ h))
theorem dX10_nameOf_0 : decode cX10_nameOf 0 = .ok (.iload_n 0, 1) := by decide +kernel
theorem dX10_nameOf_1 : decode cX10_nameOf 1 = .ok (.tableswitch 107 99 118 #[95, 107, 107, 107, 107, 99, 107, 107, 107, 97, 105, 103, 107, 107, 107, 107, 107, 107, 107, 101], 95) := by decide +kernel
theorem dX10_nameOf_96 : decode cX10_nameOf 96 = .ok (.iconst 0, 1) := by decide +kernel
theorem dX10_nameOf_97 : decode cX10_nameOf 97 = .ok (.ireturn, 1) := by decide +kernel
theorem dX10_nameOf_98 : decode cX10_nameOf 98 = .ok (.iconst 1, 1) := by decide +kernel
theorem dX10_nameOf_99 : decode cX10_nameOf 99 = .ok (.ireturn, 1) := by decide +kernel
theorem dX10_nameOf_100 : decode cX10_nameOf 100 = .ok (.iconst 2, 1) := by decide +kernel
theorem dX10_nameOf_101 : decode cX10_nameOf 101 = .ok (.ireturn, 1) := by decide +kernel
theorem dX10_nameOf_102 : decode cX10_nameOf 102 = .ok (.iconst 3, 1) := by decide +kernel
theorem dX10_nameOf_103 : decode cX10_nameOf 103 = .ok (.ireturn, 1) := by decide +kernel
theorem dX10_nameOf_104 : decode cX10_nameOf 104 = .ok (.iconst 4, 1) := by decide +kernel
theorem dX10_nameOf_105 : decode cX10_nameOf 105 = .ok (.ireturn, 1) := by decide +kernel
theorem dX10_nameOf_106 : decode cX10_nameOf 106 = .ok (.iconst 5, 1) := by decide +kernel
theorem dX10_nameOf_107 : decode cX10_nameOf 107 = .ok (.ireturn, 1) := by decide +kernel
theorem dX10_nameOf_108 : decode cX10_nameOf 108 = .ok (.iconst (-1), 1) := by decide +kernel
theorem dX10_nameOf_109 : decode cX10_nameOf 109 = .ok (.ireturn, 1) := by decide +kernel
theorem bX10_nameOf_0 {K : KT} {g : GT} {cm sm : Nat} {cs : Nat × Nat} {x0 : Int} {r : Int} {σ' : St} (hC : Ctx K g RX10 cX10_nameOf 1 0 cm sm) (hcs : cs.1 ≤ cm ∧ cs.2 ≤ sm) (hR : RetI K g cX10_nameOf 1 cs r (SH0, σ')) : ∀ (σ : St), fX10_nameOf x0 σ = some (r, σ') → G K g 1 cs 0 [(0, vi x0)] [] (SH0, σ) := by
  intro σ h
  unfold fX10_nameOf at h
  refine g_iload_n hC dX10_nameOf_0 0 rfl rfl ?_
  by_cases h9 : x0 = 99
  · rw [if_pos h9] at h
    refine g_table hC dX10_nameOf_1 96 (Or.inr (by (try dsimp only); rw [h9]; exact ⟨by decide, by decide, 95, rfl, by decide⟩)) ?_
    refine g_iconst hC dX10_nameOf_96 ok_0 ?_
    exact ret_i h hR dX10_nameOf_97
  rw [if_neg h9] at h
  have n1 := h9
  clear h9
  by_cases h9 : x0 = 104
  · rw [if_pos h9] at h
    refine g_table hC dX10_nameOf_1 100 (Or.inr (by (try dsimp only); rw [h9]; exact ⟨by decide, by decide, 99, rfl, by decide⟩)) ?_
    refine g_iconst hC dX10_nameOf_100 ok_2 ?_
    exact ret_i h hR dX10_nameOf_101
  rw [if_neg h9] at h
  have n2 := h9
  clear h9
  by_cases h9 : x0 = 108
  · rw [if_pos h9] at h
    refine g_table hC dX10_nameOf_1 98 (Or.inr (by (try dsimp only); rw [h9]; exact ⟨by decide, by decide, 97, rfl, by decide⟩)) ?_
    refine g_iconst hC dX10_nameOf_98 ok_1 ?_
    exact ret_i h hR dX10_nameOf_99
  rw [if_neg h9] at h
  have n3 := h9
  clear h9
  by_cases h9 : x0 = 109
  · rw [if_pos h9] at h
    refine g_table hC dX10_nameOf_1 106 (Or.inr (by (try dsimp only); rw [h9]; exact ⟨by decide, by decide, 105, rfl, by decide⟩)) ?_
    refine g_iconst hC dX10_nameOf_106 ok_5 ?_
    exact ret_i h hR dX10_nameOf_107
  rw [if_neg h9] at h
  have n4 := h9
  clear h9
  by_cases h9 : x0 = 110
  · rw [if_pos h9] at h
    refine g_table hC dX10_nameOf_1 104 (Or.inr (by (try dsimp only); rw [h9]; exact ⟨by decide, by decide, 103, rfl, by decide⟩)) ?_
    refine g_iconst hC dX10_nameOf_104 ok_4 ?_
    exact ret_i h hR dX10_nameOf_105
  rw [if_neg h9] at h
  have n5 := h9
  clear h9
  by_cases h9 : x0 = 118
  · rw [if_pos h9] at h
    refine g_table hC dX10_nameOf_1 102 (Or.inr (by (try dsimp only); rw [h9]; exact ⟨by decide, by decide, 101, rfl, by decide⟩)) ?_
    refine g_iconst hC dX10_nameOf_102 ok_3 ?_
    exact ret_i h hR dX10_nameOf_103
  rw [if_neg h9] at h
  have n6 := h9
  clear h9
  refine g_table hC dX10_nameOf_1 108 (by
    by_cases z0 : x0 = 100
    · exact Or.inr (by (try dsimp only); rw [z0]; exact ⟨by decide, by decide, 107, rfl, by decide⟩)
    by_cases z1 : x0 = 101
    · exact Or.inr (by (try dsimp only); rw [z1]; exact ⟨by decide, by decide, 107, rfl, by decide⟩)
    by_cases z2 : x0 = 102
    · exact Or.inr (by (try dsimp only); rw [z2]; exact ⟨by decide, by decide, 107, rfl, by decide⟩)
    by_cases z3 : x0 = 103
    · exact Or.inr (by (try dsimp only); rw [z3]; exact ⟨by decide, by decide, 107, rfl, by decide⟩)
    by_cases z4 : x0 = 105
    · exact Or.inr (by (try dsimp only); rw [z4]; exact ⟨by decide, by decide, 107, rfl, by decide⟩)
    by_cases z5 : x0 = 106
    · exact Or.inr (by (try dsimp only); rw [z5]; exact ⟨by decide, by decide, 107, rfl, by decide⟩)
    by_cases z6 : x0 = 107
    · exact Or.inr (by (try dsimp only); rw [z6]; exact ⟨by decide, by decide, 107, rfl, by decide⟩)
    by_cases z7 : x0 = 111
    · exact Or.inr (by (try dsimp only); rw [z7]; exact ⟨by decide, by decide, 107, rfl, by decide⟩)
    by_cases z8 : x0 = 112
    · exact Or.inr (by (try dsimp only); rw [z8]; exact ⟨by decide, by decide, 107, rfl, by decide⟩)
    by_cases z9 : x0 = 113
    · exact Or.inr (by (try dsimp only); rw [z9]; exact ⟨by decide, by decide, 107, rfl, by decide⟩)
    by_cases z10 : x0 = 114
    · exact Or.inr (by (try dsimp only); rw [z10]; exact ⟨by decide, by decide, 107, rfl, by decide⟩)
    by_cases z11 : x0 = 115
    · exact Or.inr (by (try dsimp only); rw [z11]; exact ⟨by decide, by decide, 107, rfl, by decide⟩)
    by_cases z12 : x0 = 116
    · exact Or.inr (by (try dsimp only); rw [z12]; exact ⟨by decide, by decide, 107, rfl, by decide⟩)
    by_cases z13 : x0 = 117
    · exact Or.inr (by (try dsimp only); rw [z13]; exact ⟨by decide, by decide, 107, rfl, by decide⟩)
    exact Or.inl ⟨by (try dsimp only); omega, by decide⟩) ?_
  refine g_iconst hC dX10_nameOf_108 ok_m1 ?_
  exact ret_i h hR dX10_nameOf_109
theorem tX10_nameOf {l : Launch} {g : GT} {x0 : Int} {σ σ' : St} {r : Int} (h : fX10_nameOf x0 σ = some (r, σ')) : Cn l g yX10_nameOf cX10_nameOf 1 (some .int) 0 0 0 [vi x0] (SH0, σ) (some (vi r)) (SH0, σ') :=
  Cn.ofI (by decide) (Nat.le_of_ble_eq_true rfl) (fun K e hC hR => (bX10_nameOf_0 hC ⟨Nat.le_refl _, Nat.le_refl _⟩ hR _ h))
theorem dX10_isO_0 : decode cX10_isO 0 = .ok (.aload_n 0, 1) := by decide +kernel
theorem dX10_isO_1 : decode cX10_isO 1 = .ok (.invokevirtual 162, 3) := by decide +kernel
theorem dX10_isO_4 : decode cX10_isO 4 = .ok (.ifCond .eq 62, 3) := by decide +kernel
theorem dX10_isO_7 : decode cX10_isO 7 = .ok (.iconst 0, 1) := by decide +kernel
theorem dX10_isO_8 : decode cX10_isO 8 = .ok (.istore_n 1, 1) := by decide +kernel
theorem dX10_isO_9 : decode cX10_isO 9 = .ok (.iconst 0, 1) := by decide +kernel
theorem dX10_isO_10 : decode cX10_isO 10 = .ok (.istore_n 2, 1) := by decide +kernel
theorem dX10_isO_11 : decode cX10_isO 11 = .ok (.iload_n 2, 1) := by decide +kernel
theorem dX10_isO_12 : decode cX10_isO 12 = .ok (.iconst 4, 1) := by decide +kernel
theorem dX10_isO_13 : decode cX10_isO 13 = .ok (.if_icmp .ge 44, 3) := by decide +kernel
theorem dX10_isO_16 : decode cX10_isO 16 = .ok (.aload_n 0, 1) := by decide +kernel
theorem dX10_isO_17 : decode cX10_isO 17 = .ok (.invokevirtual 162, 3) := by decide +kernel
theorem dX10_isO_20 : decode cX10_isO 20 = .ok (.ifCond .eq 37, 3) := by decide +kernel
theorem dX10_isO_23 : decode cX10_isO 23 = .ok (.bipush 10, 2) := by decide +kernel
theorem dX10_isO_25 : decode cX10_isO 25 = .ok (.iload_n 1, 1) := by decide +kernel
theorem dX10_isO_26 : decode cX10_isO 26 = .ok (.imul, 1) := by decide +kernel
theorem dX10_isO_27 : decode cX10_isO 27 = .ok (.aload_n 0, 1) := by decide +kernel
theorem dX10_isO_28 : decode cX10_isO 28 = .ok (.getfield 27, 3) := by decide +kernel
theorem dX10_isO_31 : decode cX10_isO 31 = .ok (.aload_n 0, 1) := by decide +kernel
theorem dX10_isO_32 : decode cX10_isO 32 = .ok (.getfield 152, 3) := by decide +kernel
theorem dX10_isO_35 : decode cX10_isO 35 = .ok (.iaload, 1) := by decide +kernel
theorem dX10_isO_36 : decode cX10_isO 36 = .ok (.iadd, 1) := by decide +kernel
theorem dX10_isO_37 : decode cX10_isO 37 = .ok (.bipush 48, 2) := by decide +kernel
theorem dX10_isO_39 : decode cX10_isO 39 = .ok (.isub, 1) := by decide +kernel
theorem dX10_isO_40 : decode cX10_isO 40 = .ok (.istore_n 1, 1) := by decide +kernel
theorem dX10_isO_41 : decode cX10_isO 41 = .ok (.aload_n 0, 1) := by decide +kernel
theorem dX10_isO_42 : decode cX10_isO 42 = .ok (.dup, 1) := by decide +kernel
theorem dX10_isO_43 : decode cX10_isO 43 = .ok (.getfield 152, 3) := by decide +kernel
theorem dX10_isO_46 : decode cX10_isO 46 = .ok (.iconst 1, 1) := by decide +kernel
theorem dX10_isO_47 : decode cX10_isO 47 = .ok (.iadd, 1) := by decide +kernel
theorem dX10_isO_48 : decode cX10_isO 48 = .ok (.putfield 152, 3) := by decide +kernel
theorem dX10_isO_51 : decode cX10_isO 51 = .ok (.iinc 2 1, 3) := by decide +kernel
theorem dX10_isO_54 : decode cX10_isO 54 = .ok (.goto (-43), 3) := by decide +kernel
theorem dX10_isO_57 : decode cX10_isO 57 = .ok (.aload_n 0, 1) := by decide +kernel
theorem dX10_isO_58 : decode cX10_isO 58 = .ok (.bipush 18, 2) := by decide +kernel
theorem dX10_isO_60 : decode cX10_isO 60 = .ok (.iload_n 1, 1) := by decide +kernel
theorem dX10_isO_61 : decode cX10_isO 61 = .ok (.iadd, 1) := by decide +kernel
theorem dX10_isO_62 : decode cX10_isO 62 = .ok (.invokevirtual 166, 3) := by decide +kernel
theorem dX10_isO_65 : decode cX10_isO 65 = .ok (.ireturn, 1) := by decide +kernel
theorem dX10_isO_66 : decode cX10_isO 66 = .ok (.aload_n 0, 1) := by decide +kernel
theorem dX10_isO_67 : decode cX10_isO 67 = .ok (.invokevirtual 155, 3) := by decide +kernel
theorem dX10_isO_70 : decode cX10_isO 70 = .ok (.invokestatic 169, 3) := by decide +kernel
theorem dX10_isO_73 : decode cX10_isO 73 = .ok (.istore_n 1, 1) := by decide +kernel
theorem dX10_isO_74 : decode cX10_isO 74 = .ok (.iload_n 1, 1) := by decide +kernel
theorem dX10_isO_75 : decode cX10_isO 75 = .ok (.ifCond .lt 19, 3) := by decide +kernel
theorem dX10_isO_78 : decode cX10_isO 78 = .ok (.aload_n 0, 1) := by decide +kernel
theorem dX10_isO_79 : decode cX10_isO 79 = .ok (.dup, 1) := by decide +kernel
theorem dX10_isO_80 : decode cX10_isO 80 = .ok (.getfield 152, 3) := by decide +kernel
theorem dX10_isO_83 : decode cX10_isO 83 = .ok (.iconst 1, 1) := by decide +kernel
theorem dX10_isO_84 : decode cX10_isO 84 = .ok (.iadd, 1) := by decide +kernel
theorem dX10_isO_85 : decode cX10_isO 85 = .ok (.putfield 152, 3) := by decide +kernel
theorem dX10_isO_88 : decode cX10_isO 88 = .ok (.aload_n 0, 1) := by decide +kernel
theorem dX10_isO_89 : decode cX10_isO 89 = .ok (.iload_n 1, 1) := by decide +kernel
theorem dX10_isO_90 : decode cX10_isO 90 = .ok (.invokevirtual 166, 3) := by decide +kernel
theorem dX10_isO_93 : decode cX10_isO 93 = .ok (.ireturn, 1) := by decide +kernel
theorem dX10_isO_94 : decode cX10_isO 94 = .ok (.aload_n 0, 1) := by decide +kernel
theorem dX10_isO_95 : decode cX10_isO 95 = .ok (.getfield 173, 3) := by decide +kernel
theorem dX10_isO_98 : decode cX10_isO 98 = .ok (.bipush 6, 2) := by decide +kernel
theorem dX10_isO_100 : decode cX10_isO 100 = .ok (.if_icmp .ne 5, 3) := by decide +kernel
theorem dX10_isO_103 : decode cX10_isO 103 = .ok (.iconst 0, 1) := by decide +kernel
theorem dX10_isO_104 : decode cX10_isO 104 = .ok (.ireturn, 1) := by decide +kernel
theorem dX10_isO_105 : decode cX10_isO 105 = .ok (.aload_n 0, 1) := by decide +kernel
theorem dX10_isO_106 : decode cX10_isO 106 = .ok (.dup, 1) := by decide +kernel
theorem dX10_isO_107 : decode cX10_isO 107 = .ok (.getfield 173, 3) := by decide +kernel
theorem dX10_isO_110 : decode cX10_isO 110 = .ok (.iconst 1, 1) := by decide +kernel
theorem dX10_isO_111 : decode cX10_isO 111 = .ok (.iadd, 1) := by decide +kernel
theorem dX10_isO_112 : decode cX10_isO 112 = .ok (.putfield 173, 3) := by decide +kernel
theorem dX10_isO_115 : decode cX10_isO 115 = .ok (.aload_n 0, 1) := by decide +kernel
theorem dX10_isO_116 : decode cX10_isO 116 = .ok (.bipush 33, 2) := by decide +kernel
theorem dX10_isO_118 : decode cX10_isO 118 = .ok (.invokevirtual 176, 3) := by decide +kernel
theorem dX10_isO_121 : decode cX10_isO 121 = .ok (.ifCond .eq 28, 3) := by decide +kernel
theorem dX10_isO_124 : decode cX10_isO 124 = .ok (.aload_n 0, 1) := by decide +kernel
theorem dX10_isO_125 : decode cX10_isO 125 = .ok (.invokevirtual 179, 3) := by decide +kernel
theorem dX10_isO_128 : decode cX10_isO 128 = .ok (.ifCond .eq 16, 3) := by decide +kernel
theorem dX10_isO_131 : decode cX10_isO 131 = .ok (.aload_n 0, 1) := by decide +kernel
theorem dX10_isO_132 : decode cX10_isO 132 = .ok (.bipush 16, 2) := by decide +kernel
theorem dX10_isO_134 : decode cX10_isO 134 = .ok (.invokevirtual 166, 3) := by decide +kernel
theorem dX10_isO_137 : decode cX10_isO 137 = .ok (.ifCond .eq 7, 3) := by decide +kernel
theorem dX10_isO_140 : decode cX10_isO 140 = .ok (.iconst 1, 1) := by decide +kernel
theorem dX10_isO_141 : decode cX10_isO 141 = .ok (.goto 4, 3) := by decide +kernel
theorem dX10_isO_144 : decode cX10_isO 144 = .ok (.iconst 0, 1) := by decide +kernel
theorem dX10_isO_145 : decode cX10_isO 145 = .ok (.istore_n 2, 1) := by decide +kernel
theorem dX10_isO_146 : decode cX10_isO 146 = .ok (.goto 68, 3) := by decide +kernel
theorem dX10_isO_149 : decode cX10_isO 149 = .ok (.aload_n 0, 1) := by decide +kernel
theorem dX10_isO_150 : decode cX10_isO 150 = .ok (.bipush 45, 2) := by decide +kernel
theorem dX10_isO_152 : decode cX10_isO 152 = .ok (.invokevirtual 176, 3) := by decide +kernel
theorem dX10_isO_155 : decode cX10_isO 155 = .ok (.ifCond .eq 28, 3) := by decide +kernel
theorem dX10_isO_158 : decode cX10_isO 158 = .ok (.aload_n 0, 1) := by decide +kernel
theorem dX10_isO_159 : decode cX10_isO 159 = .ok (.invokevirtual 179, 3) := by decide +kernel
theorem dX10_isO_162 : decode cX10_isO 162 = .ok (.ifCond .eq 16, 3) := by decide +kernel
theorem dX10_isO_165 : decode cX10_isO 165 = .ok (.aload_n 0, 1) := by decide +kernel
theorem dX10_isO_166 : decode cX10_isO 166 = .ok (.bipush 17, 2) := by decide +kernel
theorem dX10_isO_168 : decode cX10_isO 168 = .ok (.invokevirtual 166, 3) := by decide +kernel
theorem dX10_isO_171 : decode cX10_isO 171 = .ok (.ifCond .eq 7, 3) := by decide +kernel
theorem dX10_isO_174 : decode cX10_isO 174 = .ok (.iconst 1, 1) := by decide +kernel
theorem dX10_isO_175 : decode cX10_isO 175 = .ok (.goto 4, 3) := by decide +kernel
theorem dX10_isO_178 : decode cX10_isO 178 = .ok (.iconst 0, 1) := by decide +kernel
theorem dX10_isO_179 : decode cX10_isO 179 = .ok (.istore_n 2, 1) := by decide +kernel
theorem dX10_isO_180 : decode cX10_isO 180 = .ok (.goto 34, 3) := by decide +kernel
theorem dX10_isO_183 : decode cX10_isO 183 = .ok (.aload_n 0, 1) := by decide +kernel
theorem dX10_isO_184 : decode cX10_isO 184 = .ok (.bipush 40, 2) := by decide +kernel
theorem dX10_isO_186 : decode cX10_isO 186 = .ok (.invokevirtual 176, 3) := by decide +kernel
theorem dX10_isO_189 : decode cX10_isO 189 = .ok (.ifCond .eq 23, 3) := by decide +kernel
theorem dX10_isO_192 : decode cX10_isO 192 = .ok (.aload_n 0, 1) := by decide +kernel
theorem dX10_isO_193 : decode cX10_isO 193 = .ok (.invokevirtual 182, 3) := by decide +kernel
theorem dX10_isO_196 : decode cX10_isO 196 = .ok (.ifCond .eq 16, 3) := by decide +kernel
theorem dX10_isO_199 : decode cX10_isO 199 = .ok (.aload_n 0, 1) := by decide +kernel
theorem dX10_isO_200 : decode cX10_isO 200 = .ok (.bipush 41, 2) := by decide +kernel
theorem dX10_isO_202 : decode cX10_isO 202 = .ok (.invokevirtual 176, 3) := by decide +kernel
theorem dX10_isO_205 : decode cX10_isO 205 = .ok (.ifCond .eq 7, 3) := by decide +kernel
theorem dX10_isO_208 : decode cX10_isO 208 = .ok (.iconst 1, 1) := by decide +kernel
theorem dX10_isO_209 : decode cX10_isO 209 = .ok (.goto 4, 3) := by decide +kernel
theorem dX10_isO_212 : decode cX10_isO 212 = .ok (.iconst 0, 1) := by decide +kernel
theorem dX10_isO_213 : decode cX10_isO 213 = .ok (.istore_n 2, 1) := by decide +kernel
theorem dX10_isO_214 : decode cX10_isO 214 = .ok (.aload_n 0, 1) := by decide +kernel
theorem dX10_isO_215 : decode cX10_isO 215 = .ok (.dup, 1) := by decide +kernel
theorem dX10_isO_216 : decode cX10_isO 216 = .ok (.getfield 173, 3) := by decide +kernel
theorem dX10_isO_219 : decode cX10_isO 219 = .ok (.iconst 1, 1) := by decide +kernel
theorem dX10_isO_220 : decode cX10_isO 220 = .ok (.isub, 1) := by decide +kernel
theorem dX10_isO_221 : decode cX10_isO 221 = .ok (.putfield 173, 3) := by decide +kernel
theorem dX10_isO_224 : decode cX10_isO 224 = .ok (.iload_n 2, 1) := by decide +kernel
theorem dX10_isO_225 : decode cX10_isO 225 = .ok (.ireturn, 1) := by decide +kernel
theorem dX10_isP_0 : decode cX10_isP 0 = .ok (.aload_n 0, 1) := by decide +kernel
theorem dX10_isP_1 : decode cX10_isP 1 = .ok (.invokevirtual 179, 3) := by decide +kernel
theorem dX10_isP_4 : decode cX10_isP 4 = .ok (.ifCond .ne 5, 3) := by decide +kernel
theorem dX10_isP_7 : decode cX10_isP 7 = .ok (.iconst 0, 1) := by decide +kernel
theorem dX10_isP_8 : decode cX10_isP 8 = .ok (.ireturn, 1) := by decide +kernel
theorem dX10_isP_9 : decode cX10_isP 9 = .ok (.aload_n 0, 1) := by decide +kernel
theorem dX10_isP_10 : decode cX10_isP 10 = .ok (.invokevirtual 155, 3) := by decide +kernel
theorem dX10_isP_13 : decode cX10_isP 13 = .ok (.bipush 42, 2) := by decide +kernel
theorem dX10_isP_15 : decode cX10_isP 15 = .ok (.if_icmp .ne 8, 3) := by decide +kernel
theorem dX10_isP_18 : decode cX10_isP 18 = .ok (.bipush 13, 2) := by decide +kernel
theorem dX10_isP_20 : decode cX10_isP 20 = .ok (.goto 32, 3) := by decide +kernel
theorem dX10_isP_23 : decode cX10_isP 23 = .ok (.aload_n 0, 1) := by decide +kernel
theorem dX10_isP_24 : decode cX10_isP 24 = .ok (.invokevirtual 155, 3) := by decide +kernel
theorem dX10_isP_27 : decode cX10_isP 27 = .ok (.bipush 47, 2) := by decide +kernel
theorem dX10_isP_29 : decode cX10_isP 29 = .ok (.if_icmp .ne 8, 3) := by decide +kernel
theorem dX10_isP_32 : decode cX10_isP 32 = .ok (.bipush 14, 2) := by decide +kernel
theorem dX10_isP_34 : decode cX10_isP 34 = .ok (.goto 18, 3) := by decide +kernel
theorem dX10_isP_37 : decode cX10_isP 37 = .ok (.aload_n 0, 1) := by decide +kernel
theorem dX10_isP_38 : decode cX10_isP 38 = .ok (.invokevirtual 155, 3) := by decide +kernel
theorem dX10_isP_41 : decode cX10_isP 41 = .ok (.bipush 37, 2) := by decide +kernel
theorem dX10_isP_43 : decode cX10_isP 43 = .ok (.if_icmp .ne 8, 3) := by decide +kernel
theorem dX10_isP_46 : decode cX10_isP 46 = .ok (.bipush 15, 2) := by decide +kernel
theorem dX10_isP_48 : decode cX10_isP 48 = .ok (.goto 4, 3) := by decide +kernel
theorem dX10_isP_51 : decode cX10_isP 51 = .ok (.iconst (-1), 1) := by decide +kernel
theorem dX10_isP_52 : decode cX10_isP 52 = .ok (.istore_n 1, 1) := by decide +kernel
theorem dX10_isP_53 : decode cX10_isP 53 = .ok (.iload_n 1, 1) := by decide +kernel
theorem dX10_isP_54 : decode cX10_isP 54 = .ok (.ifCond .ge 5, 3) := by decide +kernel
theorem dX10_isP_57 : decode cX10_isP 57 = .ok (.iconst 1, 1) := by decide +kernel
theorem dX10_isP_58 : decode cX10_isP 58 = .ok (.ireturn, 1) := by decide +kernel
theorem dX10_isP_59 : decode cX10_isP 59 = .ok (.aload_n 0, 1) := by decide +kernel
theorem dX10_isP_60 : decode cX10_isP 60 = .ok (.dup, 1) := by decide +kernel
theorem dX10_isP_61 : decode cX10_isP 61 = .ok (.getfield 152, 3) := by decide +kernel
theorem dX10_isP_64 : decode cX10_isP 64 = .ok (.iconst 1, 1) := by decide +kernel
theorem dX10_isP_65 : decode cX10_isP 65 = .ok (.iadd, 1) := by decide +kernel
theorem dX10_isP_66 : decode cX10_isP 66 = .ok (.putfield 152, 3) := by decide +kernel
theorem dX10_isP_69 : decode cX10_isP 69 = .ok (.aload_n 0, 1) := by decide +kernel
theorem dX10_isP_70 : decode cX10_isP 70 = .ok (.invokevirtual 179, 3) := by decide +kernel
theorem dX10_isP_73 : decode cX10_isP 73 = .ok (.ifCond .ne 5, 3) := by decide +kernel
theorem dX10_isP_76 : decode cX10_isP 76 = .ok (.iconst 0, 1) := by decide +kernel
theorem dX10_isP_77 : decode cX10_isP 77 = .ok (.ireturn, 1) := by decide +kernel
theorem dX10_isP_78 : decode cX10_isP 78 = .ok (.aload_n 0, 1) := by decide +kernel
theorem dX10_isP_79 : decode cX10_isP 79 = .ok (.iload_n 1, 1) := by decide +kernel
theorem dX10_isP_80 : decode cX10_isP 80 = .ok (.invokevirtual 166, 3) := by decide +kernel
theorem dX10_isP_83 : decode cX10_isP 83 = .ok (.pop, 1) := by decide +kernel
theorem dX10_isP_84 : decode cX10_isP 84 = .ok (.goto (-75), 3) := by decide +kernel
theorem dX10_isS_0 : decode cX10_isS 0 = .ok (.aload_n 0, 1) := by decide +kernel
theorem dX10_isS_1 : decode cX10_isS 1 = .ok (.invokevirtual 185, 3) := by decide +kernel
theorem dX10_isS_4 : decode cX10_isS 4 = .ok (.ifCond .ne 5, 3) := by decide +kernel
theorem dX10_isS_7 : decode cX10_isS 7 = .ok (.iconst 0, 1) := by decide +kernel
theorem dX10_isS_8 : decode cX10_isS 8 = .ok (.ireturn, 1) := by decide +kernel
theorem dX10_isS_9 : decode cX10_isS 9 = .ok (.aload_n 0, 1) := by decide +kernel
theorem dX10_isS_10 : decode cX10_isS 10 = .ok (.invokevirtual 155, 3) := by decide +kernel
theorem dX10_isS_13 : decode cX10_isS 13 = .ok (.bipush 43, 2) := by decide +kernel
theorem dX10_isS_15 : decode cX10_isS 15 = .ok (.if_icmp .ne 8, 3) := by decide +kernel
theorem dX10_isS_18 : decode cX10_isS 18 = .ok (.bipush 11, 2) := by decide +kernel
theorem dX10_isS_20 : decode cX10_isS 20 = .ok (.goto 18, 3) := by decide +kernel
theorem dX10_isS_23 : decode cX10_isS 23 = .ok (.aload_n 0, 1) := by decide +kernel
theorem dX10_isS_24 : decode cX10_isS 24 = .ok (.invokevirtual 155, 3) := by decide +kernel
theorem dX10_isS_27 : decode cX10_isS 27 = .ok (.bipush 45, 2) := by decide +kernel
theorem dX10_isS_29 : decode cX10_isS 29 = .ok (.if_icmp .ne 8, 3) := by decide +kernel
theorem dX10_isS_32 : decode cX10_isS 32 = .ok (.bipush 12, 2) := by decide +kernel
theorem dX10_isS_34 : decode cX10_isS 34 = .ok (.goto 4, 3) := by decide +kernel
theorem dX10_isS_37 : decode cX10_isS 37 = .ok (.iconst (-1), 1) := by decide +kernel
theorem dX10_isS_38 : decode cX10_isS 38 = .ok (.istore_n 1, 1) := by decide +kernel
theorem dX10_isS_39 : decode cX10_isS 39 = .ok (.iload_n 1, 1) := by decide +kernel
theorem dX10_isS_40 : decode cX10_isS 40 = .ok (.ifCond .ge 5, 3) := by decide +kernel
theorem dX10_isS_43 : decode cX10_isS 43 = .ok (.iconst 1, 1) := by decide +kernel
theorem dX10_isS_44 : decode cX10_isS 44 = .ok (.ireturn, 1) := by decide +kernel
theorem dX10_isS_45 : decode cX10_isS 45 = .ok (.aload_n 0, 1) := by decide +kernel
theorem dX10_isS_46 : decode cX10_isS 46 = .ok (.dup, 1) := by decide +kernel
theorem dX10_isS_47 : decode cX10_isS 47 = .ok (.getfield 152, 3) := by decide +kernel
theorem dX10_isS_50 : decode cX10_isS 50 = .ok (.iconst 1, 1) := by decide +kernel
theorem dX10_isS_51 : decode cX10_isS 51 = .ok (.iadd, 1) := by decide +kernel
theorem dX10_isS_52 : decode cX10_isS 52 = .ok (.putfield 152, 3) := by decide +kernel
theorem dX10_isS_55 : decode cX10_isS 55 = .ok (.aload_n 0, 1) := by decide +kernel
theorem dX10_isS_56 : decode cX10_isS 56 = .ok (.invokevirtual 185, 3) := by decide +kernel
theorem dX10_isS_59 : decode cX10_isS 59 = .ok (.ifCond .ne 5, 3) := by decide +kernel
theorem dX10_isS_62 : decode cX10_isS 62 = .ok (.iconst 0, 1) := by decide +kernel
theorem dX10_isS_63 : decode cX10_isS 63 = .ok (.ireturn, 1) := by decide +kernel
theorem dX10_isS_64 : decode cX10_isS 64 = .ok (.aload_n 0, 1) := by decide +kernel
theorem dX10_isS_65 : decode cX10_isS 65 = .ok (.iload_n 1, 1) := by decide +kernel
theorem dX10_isS_66 : decode cX10_isS 66 = .ok (.invokevirtual 166, 3) := by decide +kernel
theorem dX10_isS_69 : decode cX10_isS 69 = .ok (.pop, 1) := by decide +kernel
theorem dX10_isS_70 : decode cX10_isS 70 = .ok (.goto (-61), 3) := by decide +kernel
theorem dX10_isB_0 : decode cX10_isB 0 = .ok (.aload_n 0, 1) := by decide +kernel
theorem dX10_isB_1 : decode cX10_isB 1 = .ok (.invokevirtual 188, 3) := by decide +kernel
theorem dX10_isB_4 : decode cX10_isB 4 = .ok (.ifCond .ne 5, 3) := by decide +kernel
theorem dX10_isB_7 : decode cX10_isB 7 = .ok (.iconst 0, 1) := by decide +kernel
theorem dX10_isB_8 : decode cX10_isB 8 = .ok (.ireturn, 1) := by decide +kernel
theorem dX10_isB_9 : decode cX10_isB 9 = .ok (.aload_n 0, 1) := by decide +kernel
theorem dX10_isB_10 : decode cX10_isB 10 = .ok (.invokevirtual 155, 3) := by decide +kernel
theorem dX10_isB_13 : decode cX10_isB 13 = .ok (.bipush 60, 2) := by decide +kernel
theorem dX10_isB_15 : decode cX10_isB 15 = .ok (.if_icmp .ne 8, 3) := by decide +kernel
theorem dX10_isB_18 : decode cX10_isB 18 = .ok (.bipush 8, 2) := by decide +kernel
theorem dX10_isB_20 : decode cX10_isB 20 = .ok (.goto 32, 3) := by decide +kernel
theorem dX10_isB_23 : decode cX10_isB 23 = .ok (.aload_n 0, 1) := by decide +kernel
theorem dX10_isB_24 : decode cX10_isB 24 = .ok (.invokevirtual 155, 3) := by decide +kernel
theorem dX10_isB_27 : decode cX10_isB 27 = .ok (.bipush 61, 2) := by decide +kernel
theorem dX10_isB_29 : decode cX10_isB 29 = .ok (.if_icmp .ne 8, 3) := by decide +kernel
theorem dX10_isB_32 : decode cX10_isB 32 = .ok (.bipush 9, 2) := by decide +kernel
theorem dX10_isB_34 : decode cX10_isB 34 = .ok (.goto 18, 3) := by decide +kernel
theorem dX10_isB_37 : decode cX10_isB 37 = .ok (.aload_n 0, 1) := by decide +kernel
theorem dX10_isB_38 : decode cX10_isB 38 = .ok (.invokevirtual 155, 3) := by decide +kernel
theorem dX10_isB_41 : decode cX10_isB 41 = .ok (.bipush 62, 2) := by decide +kernel
theorem dX10_isB_43 : decode cX10_isB 43 = .ok (.if_icmp .ne 8, 3) := by decide +kernel
theorem dX10_isB_46 : decode cX10_isB 46 = .ok (.bipush 10, 2) := by decide +kernel
theorem dX10_isB_48 : decode cX10_isB 48 = .ok (.goto 4, 3) := by decide +kernel
theorem dX10_isB_51 : decode cX10_isB 51 = .ok (.iconst (-1), 1) := by decide +kernel
theorem dX10_isB_52 : decode cX10_isB 52 = .ok (.istore_n 1, 1) := by decide +kernel
theorem dX10_isB_53 : decode cX10_isB 53 = .ok (.iload_n 1, 1) := by decide +kernel
theorem dX10_isB_54 : decode cX10_isB 54 = .ok (.ifCond .ge 5, 3) := by decide +kernel
theorem dX10_isB_57 : decode cX10_isB 57 = .ok (.iconst 1, 1) := by decide +kernel
theorem dX10_isB_58 : decode cX10_isB 58 = .ok (.ireturn, 1) := by decide +kernel
theorem dX10_isB_59 : decode cX10_isB 59 = .ok (.aload_n 0, 1) := by decide +kernel
theorem dX10_isB_60 : decode cX10_isB 60 = .ok (.dup, 1) := by decide +kernel
theorem dX10_isB_61 : decode cX10_isB 61 = .ok (.getfield 152, 3) := by decide +kernel
theorem dX10_isB_64 : decode cX10_isB 64 = .ok (.iconst 1, 1) := by decide +kernel
theorem dX10_isB_65 : decode cX10_isB 65 = .ok (.iadd, 1) := by decide +kernel
theorem dX10_isB_66 : decode cX10_isB 66 = .ok (.putfield 152, 3) := by decide +kernel
theorem dX10_isB_69 : decode cX10_isB 69 = .ok (.aload_n 0, 1) := by decide +kernel
theorem dX10_isB_70 : decode cX10_isB 70 = .ok (.invokevirtual 188, 3) := by decide +kernel
theorem dX10_isB_73 : decode cX10_isB 73 = .ok (.ifCond .eq 15, 3) := by decide +kernel
theorem dX10_isB_76 : decode cX10_isB 76 = .ok (.aload_n 0, 1) := by decide +kernel
theorem dX10_isB_77 : decode cX10_isB 77 = .ok (.iload_n 1, 1) := by decide +kernel
theorem dX10_isB_78 : decode cX10_isB 78 = .ok (.invokevirtual 166, 3) := by decide +kernel
theorem dX10_isB_81 : decode cX10_isB 81 = .ok (.ifCond .eq 7, 3) := by decide +kernel
theorem dX10_isB_84 : decode cX10_isB 84 = .ok (.iconst 1, 1) := by decide +kernel
theorem dX10_isB_85 : decode cX10_isB 85 = .ok (.goto 4, 3) := by decide +kernel
theorem dX10_isB_88 : decode cX10_isB 88 = .ok (.iconst 0, 1) := by decide +kernel
theorem dX10_isB_89 : decode cX10_isB 89 = .ok (.ireturn, 1) := by decide +kernel
theorem dX10_isA_0 : decode cX10_isA 0 = .ok (.aload_n 0, 1) := by decide +kernel
theorem dX10_isA_1 : decode cX10_isA 1 = .ok (.invokevirtual 191, 3) := by decide +kernel
theorem dX10_isA_4 : decode cX10_isA 4 = .ok (.ifCond .ne 5, 3) := by decide +kernel
theorem dX10_isA_7 : decode cX10_isA 7 = .ok (.iconst 0, 1) := by decide +kernel
theorem dX10_isA_8 : decode cX10_isA 8 = .ok (.ireturn, 1) := by decide +kernel
theorem dX10_isA_9 : decode cX10_isA 9 = .ok (.aload_n 0, 1) := by decide +kernel
theorem dX10_isA_10 : decode cX10_isA 10 = .ok (.bipush 38, 2) := by decide +kernel
theorem dX10_isA_12 : decode cX10_isA 12 = .ok (.invokevirtual 176, 3) := by decide +kernel
theorem dX10_isA_15 : decode cX10_isA 15 = .ok (.ifCond .eq 22, 3) := by decide +kernel
theorem dX10_isA_18 : decode cX10_isA 18 = .ok (.aload_n 0, 1) := by decide +kernel
theorem dX10_isA_19 : decode cX10_isA 19 = .ok (.invokevirtual 191, 3) := by decide +kernel
theorem dX10_isA_22 : decode cX10_isA 22 = .ok (.ifCond .ne 5, 3) := by decide +kernel
theorem dX10_isA_25 : decode cX10_isA 25 = .ok (.iconst 0, 1) := by decide +kernel
theorem dX10_isA_26 : decode cX10_isA 26 = .ok (.ireturn, 1) := by decide +kernel
theorem dX10_isA_27 : decode cX10_isA 27 = .ok (.aload_n 0, 1) := by decide +kernel
theorem dX10_isA_28 : decode cX10_isA 28 = .ok (.bipush 7, 2) := by decide +kernel
theorem dX10_isA_30 : decode cX10_isA 30 = .ok (.invokevirtual 166, 3) := by decide +kernel
theorem dX10_isA_33 : decode cX10_isA 33 = .ok (.pop, 1) := by decide +kernel
theorem dX10_isA_34 : decode cX10_isA 34 = .ok (.goto (-25), 3) := by decide +kernel
theorem dX10_isA_37 : decode cX10_isA 37 = .ok (.iconst 1, 1) := by decide +kernel
theorem dX10_isA_38 : decode cX10_isA 38 = .ok (.ireturn, 1) := by decide +kernel
theorem dX10_isE_0 : decode cX10_isE 0 = .ok (.aload_n 0, 1) := by decide +kernel
theorem dX10_isE_1 : decode cX10_isE 1 = .ok (.invokevirtual 194, 3) := by decide +kernel
theorem dX10_isE_4 : decode cX10_isE 4 = .ok (.ifCond .ne 5, 3) := by decide +kernel
theorem dX10_isE_7 : decode cX10_isE 7 = .ok (.iconst 0, 1) := by decide +kernel
theorem dX10_isE_8 : decode cX10_isE 8 = .ok (.ireturn, 1) := by decide +kernel
theorem dX10_isE_9 : decode cX10_isE 9 = .ok (.aload_n 0, 1) := by decide +kernel
theorem dX10_isE_10 : decode cX10_isE 10 = .ok (.bipush 124, 2) := by decide +kernel
theorem dX10_isE_12 : decode cX10_isE 12 = .ok (.invokevirtual 176, 3) := by decide +kernel
theorem dX10_isE_15 : decode cX10_isE 15 = .ok (.ifCond .eq 22, 3) := by decide +kernel
theorem dX10_isE_18 : decode cX10_isE 18 = .ok (.aload_n 0, 1) := by decide +kernel
theorem dX10_isE_19 : decode cX10_isE 19 = .ok (.invokevirtual 194, 3) := by decide +kernel
theorem dX10_isE_22 : decode cX10_isE 22 = .ok (.ifCond .ne 5, 3) := by decide +kernel
theorem dX10_isE_25 : decode cX10_isE 25 = .ok (.iconst 0, 1) := by decide +kernel
theorem dX10_isE_26 : decode cX10_isE 26 = .ok (.ireturn, 1) := by decide +kernel
theorem dX10_isE_27 : decode cX10_isE 27 = .ok (.aload_n 0, 1) := by decide +kernel
theorem dX10_isE_28 : decode cX10_isE 28 = .ok (.bipush 6, 2) := by decide +kernel
theorem dX10_isE_30 : decode cX10_isE 30 = .ok (.invokevirtual 166, 3) := by decide +kernel
theorem dX10_isE_33 : decode cX10_isE 33 = .ok (.pop, 1) := by decide +kernel
theorem dX10_isE_34 : decode cX10_isE 34 = .ok (.goto (-25), 3) := by decide +kernel
theorem dX10_isE_37 : decode cX10_isE 37 = .ok (.iconst 1, 1) := by decide +kernel
theorem dX10_isE_38 : decode cX10_isE 38 = .ok (.ireturn, 1) := by decide +kernel
theorem bX10_isA_9 {K : KT} {g : GT} {cm sm : Nat} {cs : Nat × Nat} {fr : Nat} {c0 : Nat} {cl : Nat → List Int → St → Option (Int × St)} {frc : Nat} {r : Int} {σ' : St} (hC : Ctx K g RX10 cX10_isA 1 fr cm sm) (hcs : cs.1 ≤ cm ∧ cs.2 ≤ sm) (h0 : isO 10 c0 = true) (hf : frc + 1 ≤ fr) (hf0 : 2 ≤ fr) (hl0 : ∀ (r : Int) (σ σ' : St), cl 0 [] σ = some (r, σ') → Cn (Kl K) g yX10_isA cX10_isA 1 (some .boolean) frc 0 0 [vr c0] (SH0, σ) (some (vi r)) (SH0, σ')) (hl1 : ∀ (r : Int) (σ σ' : St), cl 1 [] σ = some (r, σ') → Cn (Kl K) g yX10_isB cX10_isB 2 (some .boolean) frc 0 0 [vr c0] (SH0, σ) (some (vi r)) (SH0, σ')) (hl2 : ∀ (r : Int) (σ σ' : St), cl 2 [] σ = some (r, σ') → Cn (Kl K) g yX10_isE cX10_isE 1 (some .boolean) frc 0 0 [vr c0] (SH0, σ) (some (vi r)) (SH0, σ')) (hl3 : ∀ (r : Int) (σ σ' : St), cl 3 [] σ = some (r, σ') → Cn (Kl K) g yX10_isO cX10_isO 3 (some .boolean) frc 0 0 [vr c0] (SH0, σ) (some (vi r)) (SH0, σ')) (hl4 : ∀ (r : Int) (σ σ' : St), cl 4 [] σ = some (r, σ') → Cn (Kl K) g yX10_isP cX10_isP 2 (some .boolean) frc 0 0 [vr c0] (SH0, σ) (some (vi r)) (SH0, σ')) (hl5 : ∀ (r : Int) (σ σ' : St), cl 5 [] σ = some (r, σ') → Cn (Kl K) g yX10_isS cX10_isS 2 (some .boolean) frc 0 0 [vr c0] (SH0, σ) (some (vi r)) (SH0, σ')) (hR : RetZ K g cX10_isA 1 cs r (SH0, σ')) : ∀ (n : Nat) (σ : St), fX10_isA_9 cl c0 n σ = some (r, σ') → G K g 1 cs 9 [(0, vr c0)] [] (SH0, σ) := by
  intro n
  induction n with
  | zero =>
    intro σ h
    rw [fX10_isA_9.eq_1] at h
    cases h
  | succ n ih =>
    intro σ h
    rw [fX10_isA_9.eq_2] at h
    refine g_aload_n hC dX10_isA_9 0 rfl rfl ?_
    refine g_bipush hC dX10_isA_10 bp_38 ?_
    obtain ⟨⟨r1, s1⟩, e1, h⟩ := of_bind h
    try dsimp only at h
    refine s_callVi hC dX10_isA_12 (tX10_is h0 e1) miX10_is mvX10_is mlRX10_176 (isO_spec h0) vc_10 rfl rfl (Nat.le_of_ble_eq_true rfl) (by omega) (Nat.le_of_ble_eq_true rfl) hcs ?_
    refine g_if_eq hC dX10_isA_15 (tgt := 37) (by decide) (fun h9 => ?_) (fun h9 => ?_)
    · rw [if_pos h9] at h
      refine g_iconst hC dX10_isA_37 ok_1 ?_
      exact ret_z h hR (by decide) dX10_isA_38
    · rw [if_neg h9] at h
      refine g_aload_n hC dX10_isA_18 0 rfl rfl ?_
      obtain ⟨⟨r2, s2⟩, e2, h⟩ := of_bind h
      try dsimp only at h
      refine s_callVi hC dX10_isA_19 (hl1 _ _ _ e2) miX10_isB mvX10_isB mlRX10_191 (isO_spec h0) vc_10 rfl rfl (Nat.le_of_ble_eq_true rfl) hf (Nat.le_of_ble_eq_true rfl) hcs ?_
      refine g_if_ne hC dX10_isA_22 (tgt := 27) (by decide) (fun h9 => ?_) (fun h9 => ?_)
      · rw [if_neg h9] at h
        refine g_aload_n hC dX10_isA_27 0 rfl rfl ?_
        refine g_bipush hC dX10_isA_28 bp_7 ?_
        obtain ⟨⟨r3, s3⟩, e3, h⟩ := of_bind h
        try dsimp only at h
        refine s_callVi hC dX10_isA_30 (tX10_codes h0 e3) miX10_codes mvX10_codes mlRX10_166 (isO_spec h0) vc_10 rfl rfl (Nat.le_of_ble_eq_true rfl) (by omega) (Nat.le_of_ble_eq_true rfl) hcs ?_
        refine g_pop hC dX10_isA_33 rfl ?_
        refine g_goto hC dX10_isA_34 (tgt := 9) (by decide) ?_
        exact g_pick [0] rfl (ih _ h)
      · rw [if_pos h9] at h
        refine g_iconst hC dX10_isA_25 ok_0 ?_
        exact ret_z h hR (by decide) dX10_isA_26
theorem bX10_isA_0 {K : KT} {g : GT} {cm sm : Nat} {cs : Nat × Nat} {fr : Nat} {c0 : Nat} {cl : Nat → List Int → St → Option (Int × St)} {frc : Nat} {r : Int} {σ' : St} (hC : Ctx K g RX10 cX10_isA 1 fr cm sm) (hcs : cs.1 ≤ cm ∧ cs.2 ≤ sm) (h0 : isO 10 c0 = true) (hf : frc + 1 ≤ fr) (hf0 : 2 ≤ fr) (hl0 : ∀ (r : Int) (σ σ' : St), cl 0 [] σ = some (r, σ') → Cn (Kl K) g yX10_isA cX10_isA 1 (some .boolean) frc 0 0 [vr c0] (SH0, σ) (some (vi r)) (SH0, σ')) (hl1 : ∀ (r : Int) (σ σ' : St), cl 1 [] σ = some (r, σ') → Cn (Kl K) g yX10_isB cX10_isB 2 (some .boolean) frc 0 0 [vr c0] (SH0, σ) (some (vi r)) (SH0, σ')) (hl2 : ∀ (r : Int) (σ σ' : St), cl 2 [] σ = some (r, σ') → Cn (Kl K) g yX10_isE cX10_isE 1 (some .boolean) frc 0 0 [vr c0] (SH0, σ) (some (vi r)) (SH0, σ')) (hl3 : ∀ (r : Int) (σ σ' : St), cl 3 [] σ = some (r, σ') → Cn (Kl K) g yX10_isO cX10_isO 3 (some .boolean) frc 0 0 [vr c0] (SH0, σ) (some (vi r)) (SH0, σ')) (hl4 : ∀ (r : Int) (σ σ' : St), cl 4 [] σ = some (r, σ') → Cn (Kl K) g yX10_isP cX10_isP 2 (some .boolean) frc 0 0 [vr c0] (SH0, σ) (some (vi r)) (SH0, σ')) (hl5 : ∀ (r : Int) (σ σ' : St), cl 5 [] σ = some (r, σ') → Cn (Kl K) g yX10_isS cX10_isS 2 (some .boolean) frc 0 0 [vr c0] (SH0, σ) (some (vi r)) (SH0, σ')) (hR : RetZ K g cX10_isA 1 cs r (SH0, σ')) : ∀ (σ : St), fX10_isA cl c0 σ = some (r, σ') → G K g 1 cs 0 [(0, vr c0)] [] (SH0, σ) := by
  intro σ h
  unfold fX10_isA at h
  refine g_aload_n hC dX10_isA_0 0 rfl rfl ?_
  obtain ⟨⟨r1, s1⟩, e1, h⟩ := of_bind h
  try dsimp only at h
  refine s_callVi hC dX10_isA_1 (hl1 _ _ _ e1) miX10_isB mvX10_isB mlRX10_191 (isO_spec h0) vc_10 rfl rfl (Nat.le_of_ble_eq_true rfl) hf (Nat.le_of_ble_eq_true rfl) hcs ?_
  refine g_if_ne hC dX10_isA_4 (tgt := 9) (by decide) (fun h9 => ?_) (fun h9 => ?_)
  · rw [if_neg h9] at h
    exact g_pick [0] rfl (bX10_isA_9 hC hcs h0 hf hf0 hl0 hl1 hl2 hl3 hl4 hl5 hR _ _ h)
  · rw [if_pos h9] at h
    refine g_iconst hC dX10_isA_7 ok_0 ?_
    exact ret_z h hR (by decide) dX10_isA_8
theorem bX10_isB_52 {K : KT} {g : GT} {cm sm : Nat} {cs : Nat × Nat} {fr : Nat} {c0 : Nat} {cl : Nat → List Int → St → Option (Int × St)} {frc : Nat} {r : Int} {σ' : St} (hC : Ctx K g RX10 cX10_isB 2 fr cm sm) (hcs : cs.1 ≤ cm ∧ cs.2 ≤ sm) (h0 : isO 10 c0 = true) (hf : frc + 1 ≤ fr) (hf0 : 2 ≤ fr) (hl0 : ∀ (r : Int) (σ σ' : St), cl 0 [] σ = some (r, σ') → Cn (Kl K) g yX10_isA cX10_isA 1 (some .boolean) frc 0 0 [vr c0] (SH0, σ) (some (vi r)) (SH0, σ')) (hl1 : ∀ (r : Int) (σ σ' : St), cl 1 [] σ = some (r, σ') → Cn (Kl K) g yX10_isB cX10_isB 2 (some .boolean) frc 0 0 [vr c0] (SH0, σ) (some (vi r)) (SH0, σ')) (hl2 : ∀ (r : Int) (σ σ' : St), cl 2 [] σ = some (r, σ') → Cn (Kl K) g yX10_isE cX10_isE 1 (some .boolean) frc 0 0 [vr c0] (SH0, σ) (some (vi r)) (SH0, σ')) (hl3 : ∀ (r : Int) (σ σ' : St), cl 3 [] σ = some (r, σ') → Cn (Kl K) g yX10_isO cX10_isO 3 (some .boolean) frc 0 0 [vr c0] (SH0, σ) (some (vi r)) (SH0, σ')) (hl4 : ∀ (r : Int) (σ σ' : St), cl 4 [] σ = some (r, σ') → Cn (Kl K) g yX10_isP cX10_isP 2 (some .boolean) frc 0 0 [vr c0] (SH0, σ) (some (vi r)) (SH0, σ')) (hl5 : ∀ (r : Int) (σ σ' : St), cl 5 [] σ = some (r, σ') → Cn (Kl K) g yX10_isS cX10_isS 2 (some .boolean) frc 0 0 [vr c0] (SH0, σ) (some (vi r)) (SH0, σ')) (hR : RetZ K g cX10_isB 2 cs r (SH0, σ')) : ∀ (y0 : Int) (σ : St), fX10_isB_52 cl c0 y0 σ = some (r, σ') → G K g 2 cs 52 [(0, vr c0)] [vi y0] (SH0, σ) := by
  intro y0 σ h
  unfold fX10_isB_52 at h
  refine g_istore_n hC dX10_isB_52 rfl (Nat.le_of_ble_eq_true rfl) rfl ?_
  refine g_iload_n hC dX10_isB_53 0 rfl rfl ?_
  refine g_if_ge hC dX10_isB_54 (tgt := 59) (by decide) (fun h9 => ?_) (fun h9 => ?_)
  · rw [if_pos h9] at h
    refine g_aload_n hC dX10_isB_59 1 rfl rfl ?_
    refine g_dup hC dX10_isB_60 rfl ?_
    refine g_geti hC dX10_isB_61 lfRX10_152 (isO_spec h0) (ft_10_15 h0) ?_
    refine g_iconst hC dX10_isB_64 ok_1 ?_
    refine g_iadd hC dX10_isB_65 ?_
    refine g_puti hC dX10_isB_66 lfRX10_152 fp_10_15 (isO_spec h0) (ft_10_15 h0) ?_
    refine g_aload_n hC dX10_isB_69 1 rfl rfl ?_
    obtain ⟨⟨r1, s1⟩, e1, h⟩ := of_bind h
    try dsimp only at h
    refine s_callVi hC dX10_isB_70 (hl5 _ _ _ e1) miX10_isS mvX10_isS mlRX10_188 (isO_spec h0) vc_10 rfl rfl (Nat.le_of_ble_eq_true rfl) hf (Nat.le_of_ble_eq_true rfl) hcs ?_
    refine g_if_eq hC dX10_isB_73 (tgt := 88) (by decide) (fun h9 => ?_) (fun h9 => ?_)
    · rw [if_pos h9] at h
      refine g_iconst hC dX10_isB_88 ok_0 ?_
      exact ret_z h hR (by decide) dX10_isB_89
    · rw [if_neg h9] at h
      refine g_aload_n hC dX10_isB_76 1 rfl rfl ?_
      refine g_iload_n hC dX10_isB_77 0 rfl rfl ?_
      obtain ⟨⟨r2, s2⟩, e2, h⟩ := of_bind h
      try dsimp only at h
      refine s_callVi hC dX10_isB_78 (tX10_codes h0 e2) miX10_codes mvX10_codes mlRX10_166 (isO_spec h0) vc_10 rfl rfl (Nat.le_of_ble_eq_true rfl) (by omega) (Nat.le_of_ble_eq_true rfl) hcs ?_
      refine g_if_eq hC dX10_isB_81 (tgt := 88) (by decide) (fun h9 => ?_) (fun h9 => ?_)
      · rw [if_pos h9] at h
        refine g_iconst hC dX10_isB_88 ok_0 ?_
        exact ret_z h hR (by decide) dX10_isB_89
      · rw [if_neg h9] at h
        refine g_iconst hC dX10_isB_84 ok_1 ?_
        refine g_goto hC dX10_isB_85 (tgt := 89) (by decide) ?_
        exact ret_z h hR (by decide) dX10_isB_89
  · rw [if_neg h9] at h
    refine g_iconst hC dX10_isB_57 ok_1 ?_
    exact ret_z h hR (by decide) dX10_isB_58
theorem bX10_isB_0 {K : KT} {g : GT} {cm sm : Nat} {cs : Nat × Nat} {fr : Nat} {c0 : Nat} {cl : Nat → List Int → St → Option (Int × St)} {frc : Nat} {r : Int} {σ' : St} (hC : Ctx K g RX10 cX10_isB 2 fr cm sm) (hcs : cs.1 ≤ cm ∧ cs.2 ≤ sm) (h0 : isO 10 c0 = true) (hf : frc + 1 ≤ fr) (hf0 : 2 ≤ fr) (hl0 : ∀ (r : Int) (σ σ' : St), cl 0 [] σ = some (r, σ') → Cn (Kl K) g yX10_isA cX10_isA 1 (some .boolean) frc 0 0 [vr c0] (SH0, σ) (some (vi r)) (SH0, σ')) (hl1 : ∀ (r : Int) (σ σ' : St), cl 1 [] σ = some (r, σ') → Cn (Kl K) g yX10_isB cX10_isB 2 (some .boolean) frc 0 0 [vr c0] (SH0, σ) (some (vi r)) (SH0, σ')) (hl2 : ∀ (r : Int) (σ σ' : St), cl 2 [] σ = some (r, σ') → Cn (Kl K) g yX10_isE cX10_isE 1 (some .boolean) frc 0 0 [vr c0] (SH0, σ) (some (vi r)) (SH0, σ')) (hl3 : ∀ (r : Int) (σ σ' : St), cl 3 [] σ = some (r, σ') → Cn (Kl K) g yX10_isO cX10_isO 3 (some .boolean) frc 0 0 [vr c0] (SH0, σ) (some (vi r)) (SH0, σ')) (hl4 : ∀ (r : Int) (σ σ' : St), cl 4 [] σ = some (r, σ') → Cn (Kl K) g yX10_isP cX10_isP 2 (some .boolean) frc 0 0 [vr c0] (SH0, σ) (some (vi r)) (SH0, σ')) (hl5 : ∀ (r : Int) (σ σ' : St), cl 5 [] σ = some (r, σ') → Cn (Kl K) g yX10_isS cX10_isS 2 (some .boolean) frc 0 0 [vr c0] (SH0, σ) (some (vi r)) (SH0, σ')) (hR : RetZ K g cX10_isB 2 cs r (SH0, σ')) : ∀ (σ : St), fX10_isB cl c0 σ = some (r, σ') → G K g 2 cs 0 [(0, vr c0)] [] (SH0, σ) := by
  intro σ h
  unfold fX10_isB at h
  refine g_aload_n hC dX10_isB_0 0 rfl rfl ?_
  obtain ⟨⟨r1, s1⟩, e1, h⟩ := of_bind h
  try dsimp only at h
  refine s_callVi hC dX10_isB_1 (hl5 _ _ _ e1) miX10_isS mvX10_isS mlRX10_188 (isO_spec h0) vc_10 rfl rfl (Nat.le_of_ble_eq_true rfl) hf (Nat.le_of_ble_eq_true rfl) hcs ?_
  refine g_if_ne hC dX10_isB_4 (tgt := 9) (by decide) (fun h9 => ?_) (fun h9 => ?_)
  · rw [if_neg h9] at h
    refine g_aload_n hC dX10_isB_9 0 rfl rfl ?_
    obtain ⟨⟨r2, s2⟩, e2, h⟩ := of_bind h
    try dsimp only at h
    refine s_callVi hC dX10_isB_10 (tX10_sign h0 e2) miX10_sign mvX10_sign mlRX10_155 (isO_spec h0) vc_10 rfl rfl (Nat.le_of_ble_eq_true rfl) (by omega) (Nat.le_of_ble_eq_true rfl) hcs ?_
    refine g_bipush hC dX10_isB_13 bp_60 ?_
    refine g_icmp_ne hC dX10_isB_15 (tgt := 23) (by decide) (fun h9 => ?_) (fun h9 => ?_)
    · rw [if_neg h9] at h
      refine g_aload_n hC dX10_isB_23 0 rfl rfl ?_
      obtain ⟨⟨r3, s3⟩, e3, h⟩ := of_bind h
      try dsimp only at h
      refine s_callVi hC dX10_isB_24 (tX10_sign h0 e3) miX10_sign mvX10_sign mlRX10_155 (isO_spec h0) vc_10 rfl rfl (Nat.le_of_ble_eq_true rfl) (by omega) (Nat.le_of_ble_eq_true rfl) hcs ?_
      refine g_bipush hC dX10_isB_27 bp_61 ?_
      refine g_icmp_ne hC dX10_isB_29 (tgt := 37) (by decide) (fun h9 => ?_) (fun h9 => ?_)
      · rw [if_neg h9] at h
        refine g_aload_n hC dX10_isB_37 0 rfl rfl ?_
        obtain ⟨⟨r4, s4⟩, e4, h⟩ := of_bind h
        try dsimp only at h
        refine s_callVi hC dX10_isB_38 (tX10_sign h0 e4) miX10_sign mvX10_sign mlRX10_155 (isO_spec h0) vc_10 rfl rfl (Nat.le_of_ble_eq_true rfl) (by omega) (Nat.le_of_ble_eq_true rfl) hcs ?_
        refine g_bipush hC dX10_isB_41 bp_62 ?_
        refine g_icmp_ne hC dX10_isB_43 (tgt := 51) (by decide) (fun h9 => ?_) (fun h9 => ?_)
        · rw [if_neg h9] at h
          refine g_iconst hC dX10_isB_51 ok_m1 ?_
          exact g_pick [0] rfl (bX10_isB_52 hC hcs h0 hf hf0 hl0 hl1 hl2 hl3 hl4 hl5 hR _ _ h)
        · rw [if_pos h9] at h
          refine g_bipush hC dX10_isB_46 bp_10 ?_
          refine g_goto hC dX10_isB_48 (tgt := 52) (by decide) ?_
          exact g_pick [0] rfl (bX10_isB_52 hC hcs h0 hf hf0 hl0 hl1 hl2 hl3 hl4 hl5 hR _ _ h)
      · rw [if_pos h9] at h
        refine g_bipush hC dX10_isB_32 bp_9 ?_
        refine g_goto hC dX10_isB_34 (tgt := 52) (by decide) ?_
        exact g_pick [0] rfl (bX10_isB_52 hC hcs h0 hf hf0 hl0 hl1 hl2 hl3 hl4 hl5 hR _ _ h)
    · rw [if_pos h9] at h
      refine g_bipush hC dX10_isB_18 bp_8 ?_
      refine g_goto hC dX10_isB_20 (tgt := 52) (by decide) ?_
      exact g_pick [0] rfl (bX10_isB_52 hC hcs h0 hf hf0 hl0 hl1 hl2 hl3 hl4 hl5 hR _ _ h)
  · rw [if_pos h9] at h
    refine g_iconst hC dX10_isB_7 ok_0 ?_
    exact ret_z h hR (by decide) dX10_isB_8
theorem bX10_isE_9 {K : KT} {g : GT} {cm sm : Nat} {cs : Nat × Nat} {fr : Nat} {c0 : Nat} {cl : Nat → List Int → St → Option (Int × St)} {frc : Nat} {r : Int} {σ' : St} (hC : Ctx K g RX10 cX10_isE 1 fr cm sm) (hcs : cs.1 ≤ cm ∧ cs.2 ≤ sm) (h0 : isO 10 c0 = true) (hf : frc + 1 ≤ fr) (hf0 : 2 ≤ fr) (hl0 : ∀ (r : Int) (σ σ' : St), cl 0 [] σ = some (r, σ') → Cn (Kl K) g yX10_isA cX10_isA 1 (some .boolean) frc 0 0 [vr c0] (SH0, σ) (some (vi r)) (SH0, σ')) (hl1 : ∀ (r : Int) (σ σ' : St), cl 1 [] σ = some (r, σ') → Cn (Kl K) g yX10_isB cX10_isB 2 (some .boolean) frc 0 0 [vr c0] (SH0, σ) (some (vi r)) (SH0, σ')) (hl2 : ∀ (r : Int) (σ σ' : St), cl 2 [] σ = some (r, σ') → Cn (Kl K) g yX10_isE cX10_isE 1 (some .boolean) frc 0 0 [vr c0] (SH0, σ) (some (vi r)) (SH0, σ')) (hl3 : ∀ (r : Int) (σ σ' : St), cl 3 [] σ = some (r, σ') → Cn (Kl K) g yX10_isO cX10_isO 3 (some .boolean) frc 0 0 [vr c0] (SH0, σ) (some (vi r)) (SH0, σ')) (hl4 : ∀ (r : Int) (σ σ' : St), cl 4 [] σ = some (r, σ') → Cn (Kl K) g yX10_isP cX10_isP 2 (some .boolean) frc 0 0 [vr c0] (SH0, σ) (some (vi r)) (SH0, σ')) (hl5 : ∀ (r : Int) (σ σ' : St), cl 5 [] σ = some (r, σ') → Cn (Kl K) g yX10_isS cX10_isS 2 (some .boolean) frc 0 0 [vr c0] (SH0, σ) (some (vi r)) (SH0, σ')) (hR : RetZ K g cX10_isE 1 cs r (SH0, σ')) : ∀ (n : Nat) (σ : St), fX10_isE_9 cl c0 n σ = some (r, σ') → G K g 1 cs 9 [(0, vr c0)] [] (SH0, σ) := by
  intro n
  induction n with
  | zero =>
    intro σ h
    rw [fX10_isE_9.eq_1] at h
    cases h
  | succ n ih =>
    intro σ h
    rw [fX10_isE_9.eq_2] at h
    refine g_aload_n hC dX10_isE_9 0 rfl rfl ?_
    refine g_bipush hC dX10_isE_10 bp_124 ?_
    obtain ⟨⟨r1, s1⟩, e1, h⟩ := of_bind h
    try dsimp only at h
    refine s_callVi hC dX10_isE_12 (tX10_is h0 e1) miX10_is mvX10_is mlRX10_176 (isO_spec h0) vc_10 rfl rfl (Nat.le_of_ble_eq_true rfl) (by omega) (Nat.le_of_ble_eq_true rfl) hcs ?_
    refine g_if_eq hC dX10_isE_15 (tgt := 37) (by decide) (fun h9 => ?_) (fun h9 => ?_)
    · rw [if_pos h9] at h
      refine g_iconst hC dX10_isE_37 ok_1 ?_
      exact ret_z h hR (by decide) dX10_isE_38
    · rw [if_neg h9] at h
      refine g_aload_n hC dX10_isE_18 0 rfl rfl ?_
      obtain ⟨⟨r2, s2⟩, e2, h⟩ := of_bind h
      try dsimp only at h
      refine s_callVi hC dX10_isE_19 (hl0 _ _ _ e2) miX10_isA mvX10_isA mlRX10_194 (isO_spec h0) vc_10 rfl rfl (Nat.le_of_ble_eq_true rfl) hf (Nat.le_of_ble_eq_true rfl) hcs ?_
      refine g_if_ne hC dX10_isE_22 (tgt := 27) (by decide) (fun h9 => ?_) (fun h9 => ?_)
      · rw [if_neg h9] at h
        refine g_aload_n hC dX10_isE_27 0 rfl rfl ?_
        refine g_bipush hC dX10_isE_28 bp_6 ?_
        obtain ⟨⟨r3, s3⟩, e3, h⟩ := of_bind h
        try dsimp only at h
        refine s_callVi hC dX10_isE_30 (tX10_codes h0 e3) miX10_codes mvX10_codes mlRX10_166 (isO_spec h0) vc_10 rfl rfl (Nat.le_of_ble_eq_true rfl) (by omega) (Nat.le_of_ble_eq_true rfl) hcs ?_
        refine g_pop hC dX10_isE_33 rfl ?_
        refine g_goto hC dX10_isE_34 (tgt := 9) (by decide) ?_
        exact g_pick [0] rfl (ih _ h)
      · rw [if_pos h9] at h
        refine g_iconst hC dX10_isE_25 ok_0 ?_
        exact ret_z h hR (by decide) dX10_isE_26
theorem bX10_isE_0 {K : KT} {g : GT} {cm sm : Nat} {cs : Nat × Nat} {fr : Nat} {c0 : Nat} {cl : Nat → List Int → St → Option (Int × St)} {frc : Nat} {r : Int} {σ' : St} (hC : Ctx K g RX10 cX10_isE 1 fr cm sm) (hcs : cs.1 ≤ cm ∧ cs.2 ≤ sm) (h0 : isO 10 c0 = true) (hf : frc + 1 ≤ fr) (hf0 : 2 ≤ fr) (hl0 : ∀ (r : Int) (σ σ' : St), cl 0 [] σ = some (r, σ') → Cn (Kl K) g yX10_isA cX10_isA 1 (some .boolean) frc 0 0 [vr c0] (SH0, σ) (some (vi r)) (SH0, σ')) (hl1 : ∀ (r : Int) (σ σ' : St), cl 1 [] σ = some (r, σ') → Cn (Kl K) g yX10_isB cX10_isB 2 (some .boolean) frc 0 0 [vr c0] (SH0, σ) (some (vi r)) (SH0, σ')) (hl2 : ∀ (r : Int) (σ σ' : St), cl 2 [] σ = some (r, σ') → Cn (Kl K) g yX10_isE cX10_isE 1 (some .boolean) frc 0 0 [vr c0] (SH0, σ) (some (vi r)) (SH0, σ')) (hl3 : ∀ (r : Int) (σ σ' : St), cl 3 [] σ = some (r, σ') → Cn (Kl K) g yX10_isO cX10_isO 3 (some .boolean) frc 0 0 [vr c0] (SH0, σ) (some (vi r)) (SH0, σ')) (hl4 : ∀ (r : Int) (σ σ' : St), cl 4 [] σ = some (r, σ') → Cn (Kl K) g yX10_isP cX10_isP 2 (some .boolean) frc 0 0 [vr c0] (SH0, σ) (some (vi r)) (SH0, σ')) (hl5 : ∀ (r : Int) (σ σ' : St), cl 5 [] σ = some (r, σ') → Cn (Kl K) g yX10_isS cX10_isS 2 (some .boolean) frc 0 0 [vr c0] (SH0, σ) (some (vi r)) (SH0, σ')) (hR : RetZ K g cX10_isE 1 cs r (SH0, σ')) : ∀ (σ : St), fX10_isE cl c0 σ = some (r, σ') → G K g 1 cs 0 [(0, vr c0)] [] (SH0, σ) := by
  intro σ h
  unfold fX10_isE at h
  refine g_aload_n hC dX10_isE_0 0 rfl rfl ?_
  obtain ⟨⟨r1, s1⟩, e1, h⟩ := of_bind h
  try dsimp only at h
  refine s_callVi hC dX10_isE_1 (hl0 _ _ _ e1) miX10_isA mvX10_isA mlRX10_194 (isO_spec h0) vc_10 rfl rfl (Nat.le_of_ble_eq_true rfl) hf (Nat.le_of_ble_eq_true rfl) hcs ?_
  refine g_if_ne hC dX10_isE_4 (tgt := 9) (by decide) (fun h9 => ?_) (fun h9 => ?_)
  · rw [if_neg h9] at h
    exact g_pick [0] rfl (bX10_isE_9 hC hcs h0 hf hf0 hl0 hl1 hl2 hl3 hl4 hl5 hR _ _ h)
  · rw [if_pos h9] at h
    refine g_iconst hC dX10_isE_7 ok_0 ?_
    exact ret_z h hR (by decide) dX10_isE_8
theorem bX10_isO_57 {K : KT} {g : GT} {cm sm : Nat} {cs : Nat × Nat} {fr : Nat} {c0 : Nat} {cl : Nat → List Int → St → Option (Int × St)} {frc : Nat} {r : Int} {σ' : St} (hC : Ctx K g RX10 cX10_isO 3 fr cm sm) (hcs : cs.1 ≤ cm ∧ cs.2 ≤ sm) (h0 : isO 10 c0 = true) (hf : frc + 1 ≤ fr) (hf0 : 2 ≤ fr) (hl0 : ∀ (r : Int) (σ σ' : St), cl 0 [] σ = some (r, σ') → Cn (Kl K) g yX10_isA cX10_isA 1 (some .boolean) frc 0 0 [vr c0] (SH0, σ) (some (vi r)) (SH0, σ')) (hl1 : ∀ (r : Int) (σ σ' : St), cl 1 [] σ = some (r, σ') → Cn (Kl K) g yX10_isB cX10_isB 2 (some .boolean) frc 0 0 [vr c0] (SH0, σ) (some (vi r)) (SH0, σ')) (hl2 : ∀ (r : Int) (σ σ' : St), cl 2 [] σ = some (r, σ') → Cn (Kl K) g yX10_isE cX10_isE 1 (some .boolean) frc 0 0 [vr c0] (SH0, σ) (some (vi r)) (SH0, σ')) (hl3 : ∀ (r : Int) (σ σ' : St), cl 3 [] σ = some (r, σ') → Cn (Kl K) g yX10_isO cX10_isO 3 (some .boolean) frc 0 0 [vr c0] (SH0, σ) (some (vi r)) (SH0, σ')) (hl4 : ∀ (r : Int) (σ σ' : St), cl 4 [] σ = some (r, σ') → Cn (Kl K) g yX10_isP cX10_isP 2 (some .boolean) frc 0 0 [vr c0] (SH0, σ) (some (vi r)) (SH0, σ')) (hl5 : ∀ (r : Int) (σ σ' : St), cl 5 [] σ = some (r, σ') → Cn (Kl K) g yX10_isS cX10_isS 2 (some .boolean) frc 0 0 [vr c0] (SH0, σ) (some (vi r)) (SH0, σ')) (hR : RetZ K g cX10_isO 3 cs r (SH0, σ')) : ∀ (x1 : Int) (σ : St), fX10_isO_57 cl c0 x1 σ = some (r, σ') → G K g 3 cs 57 [(0, vr c0), (1, vi x1)] [] (SH0, σ) := by
  intro x1 σ h
  unfold fX10_isO_57 at h
  refine g_aload_n hC dX10_isO_57 0 rfl rfl ?_
  refine g_bipush hC dX10_isO_58 bp_18 ?_
  refine g_iload_n hC dX10_isO_60 1 rfl rfl ?_
  refine g_iadd hC dX10_isO_61 ?_
  obtain ⟨⟨r1, s1⟩, e1, h⟩ := of_bind h
  try dsimp only at h
  refine s_callVi hC dX10_isO_62 (tX10_codes h0 e1) miX10_codes mvX10_codes mlRX10_166 (isO_spec h0) vc_10 rfl rfl (Nat.le_of_ble_eq_true rfl) (by omega) (Nat.le_of_ble_eq_true rfl) hcs ?_
  obtain ⟨b9, h⟩ := of_ite h
  exact ret_z h hR b9 dX10_isO_65
theorem bX10_isO_11 {K : KT} {g : GT} {cm sm : Nat} {cs : Nat × Nat} {fr : Nat} {c0 : Nat} {cl : Nat → List Int → St → Option (Int × St)} {frc : Nat} {r : Int} {σ' : St} (hC : Ctx K g RX10 cX10_isO 3 fr cm sm) (hcs : cs.1 ≤ cm ∧ cs.2 ≤ sm) (h0 : isO 10 c0 = true) (hf : frc + 1 ≤ fr) (hf0 : 2 ≤ fr) (hl0 : ∀ (r : Int) (σ σ' : St), cl 0 [] σ = some (r, σ') → Cn (Kl K) g yX10_isA cX10_isA 1 (some .boolean) frc 0 0 [vr c0] (SH0, σ) (some (vi r)) (SH0, σ')) (hl1 : ∀ (r : Int) (σ σ' : St), cl 1 [] σ = some (r, σ') → Cn (Kl K) g yX10_isB cX10_isB 2 (some .boolean) frc 0 0 [vr c0] (SH0, σ) (some (vi r)) (SH0, σ')) (hl2 : ∀ (r : Int) (σ σ' : St), cl 2 [] σ = some (r, σ') → Cn (Kl K) g yX10_isE cX10_isE 1 (some .boolean) frc 0 0 [vr c0] (SH0, σ) (some (vi r)) (SH0, σ')) (hl3 : ∀ (r : Int) (σ σ' : St), cl 3 [] σ = some (r, σ') → Cn (Kl K) g yX10_isO cX10_isO 3 (some .boolean) frc 0 0 [vr c0] (SH0, σ) (some (vi r)) (SH0, σ')) (hl4 : ∀ (r : Int) (σ σ' : St), cl 4 [] σ = some (r, σ') → Cn (Kl K) g yX10_isP cX10_isP 2 (some .boolean) frc 0 0 [vr c0] (SH0, σ) (some (vi r)) (SH0, σ')) (hl5 : ∀ (r : Int) (σ σ' : St), cl 5 [] σ = some (r, σ') → Cn (Kl K) g yX10_isS cX10_isS 2 (some .boolean) frc 0 0 [vr c0] (SH0, σ) (some (vi r)) (SH0, σ')) (hR : RetZ K g cX10_isO 3 cs r (SH0, σ')) : ∀ (n : Nat) (x1 : Int) (x2 : Int) (σ : St), fX10_isO_11 cl c0 n x1 x2 σ = some (r, σ') → G K g 3 cs 11 [(0, vr c0), (1, vi x1), (2, vi x2)] [] (SH0, σ) := by
  intro n
  induction n with
  | zero =>
    intro x1 x2 σ h
    rw [fX10_isO_11.eq_1] at h
    cases h
  | succ n ih =>
    intro x1 x2 σ h
    rw [fX10_isO_11.eq_2] at h
    refine g_iload_n hC dX10_isO_11 2 rfl rfl ?_
    refine g_iconst hC dX10_isO_12 ok_4 ?_
    refine g_icmp_ge hC dX10_isO_13 (tgt := 57) (by decide) (fun h9 => ?_) (fun h9 => ?_)
    · rw [if_pos h9] at h
      exact g_pick [0, 1] rfl (bX10_isO_57 hC hcs h0 hf hf0 hl0 hl1 hl2 hl3 hl4 hl5 hR _ _ h)
    · rw [if_neg h9] at h
      refine g_aload_n hC dX10_isO_16 0 rfl rfl ?_
      obtain ⟨⟨r1, s1⟩, e1, h⟩ := of_bind h
      try dsimp only at h
      refine s_callVi hC dX10_isO_17 (tX10_isDigit h0 e1) miX10_isDigit mvX10_isDigit mlRX10_162 (isO_spec h0) vc_10 rfl rfl (Nat.le_of_ble_eq_true rfl) (by omega) (Nat.le_of_ble_eq_true rfl) hcs ?_
      refine g_if_eq hC dX10_isO_20 (tgt := 57) (by decide) (fun h9 => ?_) (fun h9 => ?_)
      · rw [if_pos h9] at h
        exact g_pick [0, 1] rfl (bX10_isO_57 hC hcs h0 hf hf0 hl0 hl1 hl2 hl3 hl4 hl5 hR _ _ h)
      · rw [if_neg h9] at h
        refine g_bipush hC dX10_isO_23 bp_10 ?_
        refine g_iload_n hC dX10_isO_25 1 rfl rfl ?_
        refine g_imul hC dX10_isO_26 ?_
        refine g_aload_n hC dX10_isO_27 0 rfl rfl ?_
        refine g_getr hC dX10_isO_28 lfRX10_27 (isO_spec h0) (ft_10_8 h0) ?_
        refine g_aload_n hC dX10_isO_31 0 rfl rfl ?_
        refine g_geti hC dX10_isO_32 lfRX10_152 (isO_spec h0) (ft_10_15 h0) ?_
        obtain ⟨b9, h⟩ := of_ite h
        refine g_iald hC dX10_isO_35 (isA_spec (rf_10_8 h0)) b9 ?_
        refine g_iadd hC dX10_isO_36 ?_
        refine g_bipush hC dX10_isO_37 bp_48 ?_
        refine g_isub hC dX10_isO_39 ?_
        refine g_istore_n hC dX10_isO_40 rfl (Nat.le_of_ble_eq_true rfl) rfl ?_
        refine g_aload_n hC dX10_isO_41 1 rfl rfl ?_
        refine g_dup hC dX10_isO_42 rfl ?_
        refine g_geti hC dX10_isO_43 lfRX10_152 (isO_spec h0) (ft_10_15 h0) ?_
        refine g_iconst hC dX10_isO_46 ok_1 ?_
        refine g_iadd hC dX10_isO_47 ?_
        refine g_puti hC dX10_isO_48 lfRX10_152 fp_10_15 (isO_spec h0) (ft_10_15 h0) ?_
        refine g_iinc hC dX10_isO_51 2 rfl (Nat.le_of_ble_eq_true rfl) rfl ?_
        refine g_goto hC dX10_isO_54 (tgt := 11) (by decide) ?_
        exact g_pick [2, 1, 0] rfl (ih _ _ _ h)
theorem bX10_isO_214 {K : KT} {g : GT} {cm sm : Nat} {cs : Nat × Nat} {fr : Nat} {c0 : Nat} {cl : Nat → List Int → St → Option (Int × St)} {frc : Nat} {r : Int} {σ' : St} (hC : Ctx K g RX10 cX10_isO 3 fr cm sm) (hcs : cs.1 ≤ cm ∧ cs.2 ≤ sm) (h0 : isO 10 c0 = true) (hf : frc + 1 ≤ fr) (hf0 : 2 ≤ fr) (hl0 : ∀ (r : Int) (σ σ' : St), cl 0 [] σ = some (r, σ') → Cn (Kl K) g yX10_isA cX10_isA 1 (some .boolean) frc 0 0 [vr c0] (SH0, σ) (some (vi r)) (SH0, σ')) (hl1 : ∀ (r : Int) (σ σ' : St), cl 1 [] σ = some (r, σ') → Cn (Kl K) g yX10_isB cX10_isB 2 (some .boolean) frc 0 0 [vr c0] (SH0, σ) (some (vi r)) (SH0, σ')) (hl2 : ∀ (r : Int) (σ σ' : St), cl 2 [] σ = some (r, σ') → Cn (Kl K) g yX10_isE cX10_isE 1 (some .boolean) frc 0 0 [vr c0] (SH0, σ) (some (vi r)) (SH0, σ')) (hl3 : ∀ (r : Int) (σ σ' : St), cl 3 [] σ = some (r, σ') → Cn (Kl K) g yX10_isO cX10_isO 3 (some .boolean) frc 0 0 [vr c0] (SH0, σ) (some (vi r)) (SH0, σ')) (hl4 : ∀ (r : Int) (σ σ' : St), cl 4 [] σ = some (r, σ') → Cn (Kl K) g yX10_isP cX10_isP 2 (some .boolean) frc 0 0 [vr c0] (SH0, σ) (some (vi r)) (SH0, σ')) (hl5 : ∀ (r : Int) (σ σ' : St), cl 5 [] σ = some (r, σ') → Cn (Kl K) g yX10_isS cX10_isS 2 (some .boolean) frc 0 0 [vr c0] (SH0, σ) (some (vi r)) (SH0, σ')) (hR : RetZ K g cX10_isO 3 cs r (SH0, σ')) : ∀ (x2 : Int) (σ : St), fX10_isO_214 cl c0 x2 σ = some (r, σ') → G K g 3 cs 214 [(0, vr c0), (2, vi x2)] [] (SH0, σ) := by
  intro x2 σ h
  unfold fX10_isO_214 at h
  refine g_aload_n hC dX10_isO_214 0 rfl rfl ?_
  refine g_dup hC dX10_isO_215 rfl ?_
  refine g_geti hC dX10_isO_216 lfRX10_173 (isO_spec h0) (ft_10_16 h0) ?_
  refine g_iconst hC dX10_isO_219 ok_1 ?_
  refine g_isub hC dX10_isO_220 ?_
  refine g_puti hC dX10_isO_221 lfRX10_173 fp_10_16 (isO_spec h0) (ft_10_16 h0) ?_
  refine g_iload_n hC dX10_isO_224 1 rfl rfl ?_
  obtain ⟨b9, h⟩ := of_ite h
  exact ret_z h hR b9 dX10_isO_225
theorem bX10_isO_145 {K : KT} {g : GT} {cm sm : Nat} {cs : Nat × Nat} {fr : Nat} {c0 : Nat} {cl : Nat → List Int → St → Option (Int × St)} {frc : Nat} {r : Int} {σ' : St} (hC : Ctx K g RX10 cX10_isO 3 fr cm sm) (hcs : cs.1 ≤ cm ∧ cs.2 ≤ sm) (h0 : isO 10 c0 = true) (hf : frc + 1 ≤ fr) (hf0 : 2 ≤ fr) (hl0 : ∀ (r : Int) (σ σ' : St), cl 0 [] σ = some (r, σ') → Cn (Kl K) g yX10_isA cX10_isA 1 (some .boolean) frc 0 0 [vr c0] (SH0, σ) (some (vi r)) (SH0, σ')) (hl1 : ∀ (r : Int) (σ σ' : St), cl 1 [] σ = some (r, σ') → Cn (Kl K) g yX10_isB cX10_isB 2 (some .boolean) frc 0 0 [vr c0] (SH0, σ) (some (vi r)) (SH0, σ')) (hl2 : ∀ (r : Int) (σ σ' : St), cl 2 [] σ = some (r, σ') → Cn (Kl K) g yX10_isE cX10_isE 1 (some .boolean) frc 0 0 [vr c0] (SH0, σ) (some (vi r)) (SH0, σ')) (hl3 : ∀ (r : Int) (σ σ' : St), cl 3 [] σ = some (r, σ') → Cn (Kl K) g yX10_isO cX10_isO 3 (some .boolean) frc 0 0 [vr c0] (SH0, σ) (some (vi r)) (SH0, σ')) (hl4 : ∀ (r : Int) (σ σ' : St), cl 4 [] σ = some (r, σ') → Cn (Kl K) g yX10_isP cX10_isP 2 (some .boolean) frc 0 0 [vr c0] (SH0, σ) (some (vi r)) (SH0, σ')) (hl5 : ∀ (r : Int) (σ σ' : St), cl 5 [] σ = some (r, σ') → Cn (Kl K) g yX10_isS cX10_isS 2 (some .boolean) frc 0 0 [vr c0] (SH0, σ) (some (vi r)) (SH0, σ')) (hR : RetZ K g cX10_isO 3 cs r (SH0, σ')) : ∀ (y0 : Int) (σ : St), fX10_isO_145 cl c0 y0 σ = some (r, σ') → G K g 3 cs 145 [(0, vr c0)] [vi y0] (SH0, σ) := by
  intro y0 σ h
  unfold fX10_isO_145 at h
  refine g_istore_n hC dX10_isO_145 rfl (Nat.le_of_ble_eq_true rfl) rfl ?_
  refine g_goto hC dX10_isO_146 (tgt := 214) (by decide) ?_
  exact g_pick [1, 0] rfl (bX10_isO_214 hC hcs h0 hf hf0 hl0 hl1 hl2 hl3 hl4 hl5 hR _ _ h)
theorem bX10_isO_144 {K : KT} {g : GT} {cm sm : Nat} {cs : Nat × Nat} {fr : Nat} {c0 : Nat} {cl : Nat → List Int → St → Option (Int × St)} {frc : Nat} {r : Int} {σ' : St} (hC : Ctx K g RX10 cX10_isO 3 fr cm sm) (hcs : cs.1 ≤ cm ∧ cs.2 ≤ sm) (h0 : isO 10 c0 = true) (hf : frc + 1 ≤ fr) (hf0 : 2 ≤ fr) (hl0 : ∀ (r : Int) (σ σ' : St), cl 0 [] σ = some (r, σ') → Cn (Kl K) g yX10_isA cX10_isA 1 (some .boolean) frc 0 0 [vr c0] (SH0, σ) (some (vi r)) (SH0, σ')) (hl1 : ∀ (r : Int) (σ σ' : St), cl 1 [] σ = some (r, σ') → Cn (Kl K) g yX10_isB cX10_isB 2 (some .boolean) frc 0 0 [vr c0] (SH0, σ) (some (vi r)) (SH0, σ')) (hl2 : ∀ (r : Int) (σ σ' : St), cl 2 [] σ = some (r, σ') → Cn (Kl K) g yX10_isE cX10_isE 1 (some .boolean) frc 0 0 [vr c0] (SH0, σ) (some (vi r)) (SH0, σ')) (hl3 : ∀ (r : Int) (σ σ' : St), cl 3 [] σ = some (r, σ') → Cn (Kl K) g yX10_isO cX10_isO 3 (some .boolean) frc 0 0 [vr c0] (SH0, σ) (some (vi r)) (SH0, σ')) (hl4 : ∀ (r : Int) (σ σ' : St), cl 4 [] σ = some (r, σ') → Cn (Kl K) g yX10_isP cX10_isP 2 (some .boolean) frc 0 0 [vr c0] (SH0, σ) (some (vi r)) (SH0, σ')) (hl5 : ∀ (r : Int) (σ σ' : St), cl 5 [] σ = some (r, σ') → Cn (Kl K) g yX10_isS cX10_isS 2 (some .boolean) frc 0 0 [vr c0] (SH0, σ) (some (vi r)) (SH0, σ')) (hR : RetZ K g cX10_isO 3 cs r (SH0, σ')) : ∀ (σ : St), fX10_isO_144 cl c0 σ = some (r, σ') → G K g 3 cs 144 [(0, vr c0)] [] (SH0, σ) := by
  intro σ h
  unfold fX10_isO_144 at h
  refine g_iconst hC dX10_isO_144 ok_0 ?_
  exact g_pick [0] rfl (bX10_isO_145 hC hcs h0 hf hf0 hl0 hl1 hl2 hl3 hl4 hl5 hR _ _ h)
theorem bX10_isO_179 {K : KT} {g : GT} {cm sm : Nat} {cs : Nat × Nat} {fr : Nat} {c0 : Nat} {cl : Nat → List Int → St → Option (Int × St)} {frc : Nat} {r : Int} {σ' : St} (hC : Ctx K g RX10 cX10_isO 3 fr cm sm) (hcs : cs.1 ≤ cm ∧ cs.2 ≤ sm) (h0 : isO 10 c0 = true) (hf : frc + 1 ≤ fr) (hf0 : 2 ≤ fr) (hl0 : ∀ (r : Int) (σ σ' : St), cl 0 [] σ = some (r, σ') → Cn (Kl K) g yX10_isA cX10_isA 1 (some .boolean) frc 0 0 [vr c0] (SH0, σ) (some (vi r)) (SH0, σ')) (hl1 : ∀ (r : Int) (σ σ' : St), cl 1 [] σ = some (r, σ') → Cn (Kl K) g yX10_isB cX10_isB 2 (some .boolean) frc 0 0 [vr c0] (SH0, σ) (some (vi r)) (SH0, σ')) (hl2 : ∀ (r : Int) (σ σ' : St), cl 2 [] σ = some (r, σ') → Cn (Kl K) g yX10_isE cX10_isE 1 (some .boolean) frc 0 0 [vr c0] (SH0, σ) (some (vi r)) (SH0, σ')) (hl3 : ∀ (r : Int) (σ σ' : St), cl 3 [] σ = some (r, σ') → Cn (Kl K) g yX10_isO cX10_isO 3 (some .boolean) frc 0 0 [vr c0] (SH0, σ) (some (vi r)) (SH0, σ')) (hl4 : ∀ (r : Int) (σ σ' : St), cl 4 [] σ = some (r, σ') → Cn (Kl K) g yX10_isP cX10_isP 2 (some .boolean) frc 0 0 [vr c0] (SH0, σ) (some (vi r)) (SH0, σ')) (hl5 : ∀ (r : Int) (σ σ' : St), cl 5 [] σ = some (r, σ') → Cn (Kl K) g yX10_isS cX10_isS 2 (some .boolean) frc 0 0 [vr c0] (SH0, σ) (some (vi r)) (SH0, σ')) (hR : RetZ K g cX10_isO 3 cs r (SH0, σ')) : ∀ (y0 : Int) (σ : St), fX10_isO_179 cl c0 y0 σ = some (r, σ') → G K g 3 cs 179 [(0, vr c0)] [vi y0] (SH0, σ) := by
  intro y0 σ h
  unfold fX10_isO_179 at h
  refine g_istore_n hC dX10_isO_179 rfl (Nat.le_of_ble_eq_true rfl) rfl ?_
  refine g_goto hC dX10_isO_180 (tgt := 214) (by decide) ?_
  exact g_pick [1, 0] rfl (bX10_isO_214 hC hcs h0 hf hf0 hl0 hl1 hl2 hl3 hl4 hl5 hR _ _ h)
theorem bX10_isO_178 {K : KT} {g : GT} {cm sm : Nat} {cs : Nat × Nat} {fr : Nat} {c0 : Nat} {cl : Nat → List Int → St → Option (Int × St)} {frc : Nat} {r : Int} {σ' : St} (hC : Ctx K g RX10 cX10_isO 3 fr cm sm) (hcs : cs.1 ≤ cm ∧ cs.2 ≤ sm) (h0 : isO 10 c0 = true) (hf : frc + 1 ≤ fr) (hf0 : 2 ≤ fr) (hl0 : ∀ (r : Int) (σ σ' : St), cl 0 [] σ = some (r, σ') → Cn (Kl K) g yX10_isA cX10_isA 1 (some .boolean) frc 0 0 [vr c0] (SH0, σ) (some (vi r)) (SH0, σ')) (hl1 : ∀ (r : Int) (σ σ' : St), cl 1 [] σ = some (r, σ') → Cn (Kl K) g yX10_isB cX10_isB 2 (some .boolean) frc 0 0 [vr c0] (SH0, σ) (some (vi r)) (SH0, σ')) (hl2 : ∀ (r : Int) (σ σ' : St), cl 2 [] σ = some (r, σ') → Cn (Kl K) g yX10_isE cX10_isE 1 (some .boolean) frc 0 0 [vr c0] (SH0, σ) (some (vi r)) (SH0, σ')) (hl3 : ∀ (r : Int) (σ σ' : St), cl 3 [] σ = some (r, σ') → Cn (Kl K) g yX10_isO cX10_isO 3 (some .boolean) frc 0 0 [vr c0] (SH0, σ) (some (vi r)) (SH0, σ')) (hl4 : ∀ (r : Int) (σ σ' : St), cl 4 [] σ = some (r, σ') → Cn (Kl K) g yX10_isP cX10_isP 2 (some .boolean) frc 0 0 [vr c0] (SH0, σ) (some (vi r)) (SH0, σ')) (hl5 : ∀ (r : Int) (σ σ' : St), cl 5 [] σ = some (r, σ') → Cn (Kl K) g yX10_isS cX10_isS 2 (some .boolean) frc 0 0 [vr c0] (SH0, σ) (some (vi r)) (SH0, σ')) (hR : RetZ K g cX10_isO 3 cs r (SH0, σ')) : ∀ (σ : St), fX10_isO_178 cl c0 σ = some (r, σ') → G K g 3 cs 178 [(0, vr c0)] [] (SH0, σ) := by
  intro σ h
  unfold fX10_isO_178 at h
  refine g_iconst hC dX10_isO_178 ok_0 ?_
  exact g_pick [0] rfl (bX10_isO_179 hC hcs h0 hf hf0 hl0 hl1 hl2 hl3 hl4 hl5 hR _ _ h)
theorem bX10_isO_213 {K : KT} {g : GT} {cm sm : Nat} {cs : Nat × Nat} {fr : Nat} {c0 : Nat} {cl : Nat → List Int → St → Option (Int × St)} {frc : Nat} {r : Int} {σ' : St} (hC : Ctx K g RX10 cX10_isO 3 fr cm sm) (hcs : cs.1 ≤ cm ∧ cs.2 ≤ sm) (h0 : isO 10 c0 = true) (hf : frc + 1 ≤ fr) (hf0 : 2 ≤ fr) (hl0 : ∀ (r : Int) (σ σ' : St), cl 0 [] σ = some (r, σ') → Cn (Kl K) g yX10_isA cX10_isA 1 (some .boolean) frc 0 0 [vr c0] (SH0, σ) (some (vi r)) (SH0, σ')) (hl1 : ∀ (r : Int) (σ σ' : St), cl 1 [] σ = some (r, σ') → Cn (Kl K) g yX10_isB cX10_isB 2 (some .boolean) frc 0 0 [vr c0] (SH0, σ) (some (vi r)) (SH0, σ')) (hl2 : ∀ (r : Int) (σ σ' : St), cl 2 [] σ = some (r, σ') → Cn (Kl K) g yX10_isE cX10_isE 1 (some .boolean) frc 0 0 [vr c0] (SH0, σ) (some (vi r)) (SH0, σ')) (hl3 : ∀ (r : Int) (σ σ' : St), cl 3 [] σ = some (r, σ') → Cn (Kl K) g yX10_isO cX10_isO 3 (some .boolean) frc 0 0 [vr c0] (SH0, σ) (some (vi r)) (SH0, σ')) (hl4 : ∀ (r : Int) (σ σ' : St), cl 4 [] σ = some (r, σ') → Cn (Kl K) g yX10_isP cX10_isP 2 (some .boolean) frc 0 0 [vr c0] (SH0, σ) (some (vi r)) (SH0, σ')) (hl5 : ∀ (r : Int) (σ σ' : St), cl 5 [] σ = some (r, σ') → Cn (Kl K) g yX10_isS cX10_isS 2 (some .boolean) frc 0 0 [vr c0] (SH0, σ) (some (vi r)) (SH0, σ')) (hR : RetZ K g cX10_isO 3 cs r (SH0, σ')) : ∀ (y0 : Int) (σ : St), fX10_isO_213 cl c0 y0 σ = some (r, σ') → G K g 3 cs 213 [(0, vr c0)] [vi y0] (SH0, σ) := by
  intro y0 σ h
  unfold fX10_isO_213 at h
  refine g_istore_n hC dX10_isO_213 rfl (Nat.le_of_ble_eq_true rfl) rfl ?_
  exact g_pick [1, 0] rfl (bX10_isO_214 hC hcs h0 hf hf0 hl0 hl1 hl2 hl3 hl4 hl5 hR _ _ h)
theorem bX10_isO_212 {K : KT} {g : GT} {cm sm : Nat} {cs : Nat × Nat} {fr : Nat} {c0 : Nat} {cl : Nat → List Int → St → Option (Int × St)} {frc : Nat} {r : Int} {σ' : St} (hC : Ctx K g RX10 cX10_isO 3 fr cm sm) (hcs : cs.1 ≤ cm ∧ cs.2 ≤ sm) (h0 : isO 10 c0 = true) (hf : frc + 1 ≤ fr) (hf0 : 2 ≤ fr) (hl0 : ∀ (r : Int) (σ σ' : St), cl 0 [] σ = some (r, σ') → Cn (Kl K) g yX10_isA cX10_isA 1 (some .boolean) frc 0 0 [vr c0] (SH0, σ) (some (vi r)) (SH0, σ')) (hl1 : ∀ (r : Int) (σ σ' : St), cl 1 [] σ = some (r, σ') → Cn (Kl K) g yX10_isB cX10_isB 2 (some .boolean) frc 0 0 [vr c0] (SH0, σ) (some (vi r)) (SH0, σ')) (hl2 : ∀ (r : Int) (σ σ' : St), cl 2 [] σ = some (r, σ') → Cn (Kl K) g yX10_isE cX10_isE 1 (some .boolean) frc 0 0 [vr c0] (SH0, σ) (some (vi r)) (SH0, σ')) (hl3 : ∀ (r : Int) (σ σ' : St), cl 3 [] σ = some (r, σ') → Cn (Kl K) g yX10_isO cX10_isO 3 (some .boolean) frc 0 0 [vr c0] (SH0, σ) (some (vi r)) (SH0, σ')) (hl4 : ∀ (r : Int) (σ σ' : St), cl 4 [] σ = some (r, σ') → Cn (Kl K) g yX10_isP cX10_isP 2 (some .boolean) frc 0 0 [vr c0] (SH0, σ) (some (vi r)) (SH0, σ')) (hl5 : ∀ (r : Int) (σ σ' : St), cl 5 [] σ = some (r, σ') → Cn (Kl K) g yX10_isS cX10_isS 2 (some .boolean) frc 0 0 [vr c0] (SH0, σ) (some (vi r)) (SH0, σ')) (hR : RetZ K g cX10_isO 3 cs r (SH0, σ')) : ∀ (σ : St), fX10_isO_212 cl c0 σ = some (r, σ') → G K g 3 cs 212 [(0, vr c0)] [] (SH0, σ) := by
  intro σ h
  unfold fX10_isO_212 at h
  refine g_iconst hC dX10_isO_212 ok_0 ?_
  exact g_pick [0] rfl (bX10_isO_213 hC hcs h0 hf hf0 hl0 hl1 hl2 hl3 hl4 hl5 hR _ _ h)
theorem bX10_isO_0 {K : KT} {g : GT} {cm sm : Nat} {cs : Nat × Nat} {fr : Nat} {c0 : Nat} {cl : Nat → List Int → St → Option (Int × St)} {frc : Nat} {r : Int} {σ' : St} (hC : Ctx K g RX10 cX10_isO 3 fr cm sm) (hcs : cs.1 ≤ cm ∧ cs.2 ≤ sm) (h0 : isO 10 c0 = true) (hf : frc + 1 ≤ fr) (hf0 : 2 ≤ fr) (hl0 : ∀ (r : Int) (σ σ' : St), cl 0 [] σ = some (r, σ') → Cn (Kl K) g yX10_isA cX10_isA 1 (some .boolean) frc 0 0 [vr c0] (SH0, σ) (some (vi r)) (SH0, σ')) (hl1 : ∀ (r : Int) (σ σ' : St), cl 1 [] σ = some (r, σ') → Cn (Kl K) g yX10_isB cX10_isB 2 (some .boolean) frc 0 0 [vr c0] (SH0, σ) (some (vi r)) (SH0, σ')) (hl2 : ∀ (r : Int) (σ σ' : St), cl 2 [] σ = some (r, σ') → Cn (Kl K) g yX10_isE cX10_isE 1 (some .boolean) frc 0 0 [vr c0] (SH0, σ) (some (vi r)) (SH0, σ')) (hl3 : ∀ (r : Int) (σ σ' : St), cl 3 [] σ = some (r, σ') → Cn (Kl K) g yX10_isO cX10_isO 3 (some .boolean) frc 0 0 [vr c0] (SH0, σ) (some (vi r)) (SH0, σ')) (hl4 : ∀ (r : Int) (σ σ' : St), cl 4 [] σ = some (r, σ') → Cn (Kl K) g yX10_isP cX10_isP 2 (some .boolean) frc 0 0 [vr c0] (SH0, σ) (some (vi r)) (SH0, σ')) (hl5 : ∀ (r : Int) (σ σ' : St), cl 5 [] σ = some (r, σ') → Cn (Kl K) g yX10_isS cX10_isS 2 (some .boolean) frc 0 0 [vr c0] (SH0, σ) (some (vi r)) (SH0, σ')) (hR : RetZ K g cX10_isO 3 cs r (SH0, σ')) : ∀ (σ : St), fX10_isO cl c0 σ = some (r, σ') → G K g 3 cs 0 [(0, vr c0)] [] (SH0, σ) := by
  intro σ h
  unfold fX10_isO at h
  refine g_aload_n hC dX10_isO_0 0 rfl rfl ?_
  obtain ⟨⟨r1, s1⟩, e1, h⟩ := of_bind h
  try dsimp only at h
  refine s_callVi hC dX10_isO_1 (tX10_isDigit h0 e1) miX10_isDigit mvX10_isDigit mlRX10_162 (isO_spec h0) vc_10 rfl rfl (Nat.le_of_ble_eq_true rfl) (by omega) (Nat.le_of_ble_eq_true rfl) hcs ?_
  refine g_if_eq hC dX10_isO_4 (tgt := 66) (by decide) (fun h9 => ?_) (fun h9 => ?_)
  · rw [if_pos h9] at h
    refine g_aload_n hC dX10_isO_66 0 rfl rfl ?_
    obtain ⟨⟨r2, s2⟩, e2, h⟩ := of_bind h
    try dsimp only at h
    refine s_callVi hC dX10_isO_67 (tX10_sign h0 e2) miX10_sign mvX10_sign mlRX10_155 (isO_spec h0) vc_10 rfl rfl (Nat.le_of_ble_eq_true rfl) (by omega) (Nat.le_of_ble_eq_true rfl) hcs ?_
    obtain ⟨⟨r3, s3⟩, e3, h⟩ := of_bind h
    try dsimp only at h
    refine s_callSi hC dX10_isO_70 (tX10_nameOf e3) miX10_nameOf msX10_nameOf mlRX10_169 rfl rfl (Nat.le_of_ble_eq_true rfl) (by omega) (Nat.le_of_ble_eq_true rfl) hcs ?_
    refine g_istore_n hC dX10_isO_73 rfl (Nat.le_of_ble_eq_true rfl) rfl ?_
    refine g_iload_n hC dX10_isO_74 0 rfl rfl ?_
    refine g_if_lt hC dX10_isO_75 (tgt := 94) (by decide) (fun h9 => ?_) (fun h9 => ?_)
    · rw [if_pos h9] at h
      refine g_aload_n hC dX10_isO_94 1 rfl rfl ?_
      refine g_geti hC dX10_isO_95 lfRX10_173 (isO_spec h0) (ft_10_16 h0) ?_
      refine g_bipush hC dX10_isO_98 bp_6 ?_
      refine g_icmp_ne hC dX10_isO_100 (tgt := 105) (by decide) (fun h9 => ?_) (fun h9 => ?_)
      · rw [if_neg h9] at h
        refine g_aload_n hC dX10_isO_105 1 rfl rfl ?_
        refine g_dup hC dX10_isO_106 rfl ?_
        refine g_geti hC dX10_isO_107 lfRX10_173 (isO_spec h0) (ft_10_16 h0) ?_
        refine g_iconst hC dX10_isO_110 ok_1 ?_
        refine g_iadd hC dX10_isO_111 ?_
        refine g_puti hC dX10_isO_112 lfRX10_173 fp_10_16 (isO_spec h0) (ft_10_16 h0) ?_
        refine g_aload_n hC dX10_isO_115 1 rfl rfl ?_
        refine g_bipush hC dX10_isO_116 bp_33 ?_
        obtain ⟨⟨r4, s4⟩, e4, h⟩ := of_bind h
        try dsimp only at h
        refine s_callVi hC dX10_isO_118 (tX10_is h0 e4) miX10_is mvX10_is mlRX10_176 (isO_spec h0) vc_10 rfl rfl (Nat.le_of_ble_eq_true rfl) (by omega) (Nat.le_of_ble_eq_true rfl) hcs ?_
        refine g_if_eq hC dX10_isO_121 (tgt := 149) (by decide) (fun h9 => ?_) (fun h9 => ?_)
        · rw [if_pos h9] at h
          refine g_aload_n hC dX10_isO_149 1 rfl rfl ?_
          refine g_bipush hC dX10_isO_150 bp_45 ?_
          obtain ⟨⟨r5, s5⟩, e5, h⟩ := of_bind h
          try dsimp only at h
          refine s_callVi hC dX10_isO_152 (tX10_is h0 e5) miX10_is mvX10_is mlRX10_176 (isO_spec h0) vc_10 rfl rfl (Nat.le_of_ble_eq_true rfl) (by omega) (Nat.le_of_ble_eq_true rfl) hcs ?_
          refine g_if_eq hC dX10_isO_155 (tgt := 183) (by decide) (fun h9 => ?_) (fun h9 => ?_)
          · rw [if_pos h9] at h
            refine g_aload_n hC dX10_isO_183 1 rfl rfl ?_
            refine g_bipush hC dX10_isO_184 bp_40 ?_
            obtain ⟨⟨r6, s6⟩, e6, h⟩ := of_bind h
            try dsimp only at h
            refine s_callVi hC dX10_isO_186 (tX10_is h0 e6) miX10_is mvX10_is mlRX10_176 (isO_spec h0) vc_10 rfl rfl (Nat.le_of_ble_eq_true rfl) (by omega) (Nat.le_of_ble_eq_true rfl) hcs ?_
            refine g_if_eq hC dX10_isO_189 (tgt := 212) (by decide) (fun h9 => ?_) (fun h9 => ?_)
            · rw [if_pos h9] at h
              exact g_pick [1] rfl (bX10_isO_212 hC hcs h0 hf hf0 hl0 hl1 hl2 hl3 hl4 hl5 hR _ h)
            · rw [if_neg h9] at h
              refine g_aload_n hC dX10_isO_192 1 rfl rfl ?_
              obtain ⟨⟨r7, s7⟩, e7, h⟩ := of_bind h
              try dsimp only at h
              refine s_callVi hC dX10_isO_193 (hl2 _ _ _ e7) miX10_isE mvX10_isE mlRX10_182 (isO_spec h0) vc_10 rfl rfl (Nat.le_of_ble_eq_true rfl) hf (Nat.le_of_ble_eq_true rfl) hcs ?_
              refine g_if_eq hC dX10_isO_196 (tgt := 212) (by decide) (fun h9 => ?_) (fun h9 => ?_)
              · rw [if_pos h9] at h
                exact g_pick [1] rfl (bX10_isO_212 hC hcs h0 hf hf0 hl0 hl1 hl2 hl3 hl4 hl5 hR _ h)
              · rw [if_neg h9] at h
                refine g_aload_n hC dX10_isO_199 1 rfl rfl ?_
                refine g_bipush hC dX10_isO_200 bp_41 ?_
                obtain ⟨⟨r8, s8⟩, e8, h⟩ := of_bind h
                try dsimp only at h
                refine s_callVi hC dX10_isO_202 (tX10_is h0 e8) miX10_is mvX10_is mlRX10_176 (isO_spec h0) vc_10 rfl rfl (Nat.le_of_ble_eq_true rfl) (by omega) (Nat.le_of_ble_eq_true rfl) hcs ?_
                refine g_if_eq hC dX10_isO_205 (tgt := 212) (by decide) (fun h9 => ?_) (fun h9 => ?_)
                · rw [if_pos h9] at h
                  exact g_pick [1] rfl (bX10_isO_212 hC hcs h0 hf hf0 hl0 hl1 hl2 hl3 hl4 hl5 hR _ h)
                · rw [if_neg h9] at h
                  refine g_iconst hC dX10_isO_208 ok_1 ?_
                  refine g_goto hC dX10_isO_209 (tgt := 213) (by decide) ?_
                  exact g_pick [1] rfl (bX10_isO_213 hC hcs h0 hf hf0 hl0 hl1 hl2 hl3 hl4 hl5 hR _ _ h)
          · rw [if_neg h9] at h
            refine g_aload_n hC dX10_isO_158 1 rfl rfl ?_
            obtain ⟨⟨r9, s9⟩, e9, h⟩ := of_bind h
            try dsimp only at h
            refine s_callVi hC dX10_isO_159 (hl3 _ _ _ e9) miX10_isO mvX10_isO mlRX10_179 (isO_spec h0) vc_10 rfl rfl (Nat.le_of_ble_eq_true rfl) hf (Nat.le_of_ble_eq_true rfl) hcs ?_
            refine g_if_eq hC dX10_isO_162 (tgt := 178) (by decide) (fun h9 => ?_) (fun h9 => ?_)
            · rw [if_pos h9] at h
              exact g_pick [1] rfl (bX10_isO_178 hC hcs h0 hf hf0 hl0 hl1 hl2 hl3 hl4 hl5 hR _ h)
            · rw [if_neg h9] at h
              refine g_aload_n hC dX10_isO_165 1 rfl rfl ?_
              refine g_bipush hC dX10_isO_166 bp_17 ?_
              obtain ⟨⟨r10, s10⟩, e10, h⟩ := of_bind h
              try dsimp only at h
              refine s_callVi hC dX10_isO_168 (tX10_codes h0 e10) miX10_codes mvX10_codes mlRX10_166 (isO_spec h0) vc_10 rfl rfl (Nat.le_of_ble_eq_true rfl) (by omega) (Nat.le_of_ble_eq_true rfl) hcs ?_
              refine g_if_eq hC dX10_isO_171 (tgt := 178) (by decide) (fun h9 => ?_) (fun h9 => ?_)
              · rw [if_pos h9] at h
                exact g_pick [1] rfl (bX10_isO_178 hC hcs h0 hf hf0 hl0 hl1 hl2 hl3 hl4 hl5 hR _ h)
              · rw [if_neg h9] at h
                refine g_iconst hC dX10_isO_174 ok_1 ?_
                refine g_goto hC dX10_isO_175 (tgt := 179) (by decide) ?_
                exact g_pick [1] rfl (bX10_isO_179 hC hcs h0 hf hf0 hl0 hl1 hl2 hl3 hl4 hl5 hR _ _ h)
        · rw [if_neg h9] at h
          refine g_aload_n hC dX10_isO_124 1 rfl rfl ?_
          obtain ⟨⟨r11, s11⟩, e11, h⟩ := of_bind h
          try dsimp only at h
          refine s_callVi hC dX10_isO_125 (hl3 _ _ _ e11) miX10_isO mvX10_isO mlRX10_179 (isO_spec h0) vc_10 rfl rfl (Nat.le_of_ble_eq_true rfl) hf (Nat.le_of_ble_eq_true rfl) hcs ?_
          refine g_if_eq hC dX10_isO_128 (tgt := 144) (by decide) (fun h9 => ?_) (fun h9 => ?_)
          · rw [if_pos h9] at h
            exact g_pick [1] rfl (bX10_isO_144 hC hcs h0 hf hf0 hl0 hl1 hl2 hl3 hl4 hl5 hR _ h)
          · rw [if_neg h9] at h
            refine g_aload_n hC dX10_isO_131 1 rfl rfl ?_
            refine g_bipush hC dX10_isO_132 bp_16 ?_
            obtain ⟨⟨r12, s12⟩, e12, h⟩ := of_bind h
            try dsimp only at h
            refine s_callVi hC dX10_isO_134 (tX10_codes h0 e12) miX10_codes mvX10_codes mlRX10_166 (isO_spec h0) vc_10 rfl rfl (Nat.le_of_ble_eq_true rfl) (by omega) (Nat.le_of_ble_eq_true rfl) hcs ?_
            refine g_if_eq hC dX10_isO_137 (tgt := 144) (by decide) (fun h9 => ?_) (fun h9 => ?_)
            · rw [if_pos h9] at h
              exact g_pick [1] rfl (bX10_isO_144 hC hcs h0 hf hf0 hl0 hl1 hl2 hl3 hl4 hl5 hR _ h)
            · rw [if_neg h9] at h
              refine g_iconst hC dX10_isO_140 ok_1 ?_
              refine g_goto hC dX10_isO_141 (tgt := 145) (by decide) ?_
              exact g_pick [1] rfl (bX10_isO_145 hC hcs h0 hf hf0 hl0 hl1 hl2 hl3 hl4 hl5 hR _ _ h)
      · rw [if_pos h9] at h
        refine g_iconst hC dX10_isO_103 ok_0 ?_
        exact ret_z h hR (by decide) dX10_isO_104
    · rw [if_neg h9] at h
      refine g_aload_n hC dX10_isO_78 1 rfl rfl ?_
      refine g_dup hC dX10_isO_79 rfl ?_
      refine g_geti hC dX10_isO_80 lfRX10_152 (isO_spec h0) (ft_10_15 h0) ?_
      refine g_iconst hC dX10_isO_83 ok_1 ?_
      refine g_iadd hC dX10_isO_84 ?_
      refine g_puti hC dX10_isO_85 lfRX10_152 fp_10_15 (isO_spec h0) (ft_10_15 h0) ?_
      refine g_aload_n hC dX10_isO_88 1 rfl rfl ?_
      refine g_iload_n hC dX10_isO_89 0 rfl rfl ?_
      obtain ⟨⟨r13, s13⟩, e13, h⟩ := of_bind h
      try dsimp only at h
      refine s_callVi hC dX10_isO_90 (tX10_codes h0 e13) miX10_codes mvX10_codes mlRX10_166 (isO_spec h0) vc_10 rfl rfl (Nat.le_of_ble_eq_true rfl) (by omega) (Nat.le_of_ble_eq_true rfl) hcs ?_
      obtain ⟨b9, h⟩ := of_ite h
      exact ret_z h hR b9 dX10_isO_93
  · rw [if_neg h9] at h
    refine g_iconst hC dX10_isO_7 ok_0 ?_
    refine g_istore_n hC dX10_isO_8 rfl (Nat.le_of_ble_eq_true rfl) rfl ?_
    refine g_iconst hC dX10_isO_9 ok_0 ?_
    refine g_istore_n hC dX10_isO_10 rfl (Nat.le_of_ble_eq_true rfl) rfl ?_
    exact g_pick [2, 1, 0] rfl (bX10_isO_11 hC hcs h0 hf hf0 hl0 hl1 hl2 hl3 hl4 hl5 hR _ _ _ _ h)
theorem bX10_isP_52 {K : KT} {g : GT} {cm sm : Nat} {cs : Nat × Nat} {fr : Nat} {c0 : Nat} {cl : Nat → List Int → St → Option (Int × St)} {frc : Nat} {k9 : St → Option (Int × St)} {r : Int} {σ' : St} (hC : Ctx K g RX10 cX10_isP 2 fr cm sm) (hcs : cs.1 ≤ cm ∧ cs.2 ≤ sm) (h0 : isO 10 c0 = true) (hf : frc + 1 ≤ fr) (hf0 : 2 ≤ fr) (hl0 : ∀ (r : Int) (σ σ' : St), cl 0 [] σ = some (r, σ') → Cn (Kl K) g yX10_isA cX10_isA 1 (some .boolean) frc 0 0 [vr c0] (SH0, σ) (some (vi r)) (SH0, σ')) (hl1 : ∀ (r : Int) (σ σ' : St), cl 1 [] σ = some (r, σ') → Cn (Kl K) g yX10_isB cX10_isB 2 (some .boolean) frc 0 0 [vr c0] (SH0, σ) (some (vi r)) (SH0, σ')) (hl2 : ∀ (r : Int) (σ σ' : St), cl 2 [] σ = some (r, σ') → Cn (Kl K) g yX10_isE cX10_isE 1 (some .boolean) frc 0 0 [vr c0] (SH0, σ) (some (vi r)) (SH0, σ')) (hl3 : ∀ (r : Int) (σ σ' : St), cl 3 [] σ = some (r, σ') → Cn (Kl K) g yX10_isO cX10_isO 3 (some .boolean) frc 0 0 [vr c0] (SH0, σ) (some (vi r)) (SH0, σ')) (hl4 : ∀ (r : Int) (σ σ' : St), cl 4 [] σ = some (r, σ') → Cn (Kl K) g yX10_isP cX10_isP 2 (some .boolean) frc 0 0 [vr c0] (SH0, σ) (some (vi r)) (SH0, σ')) (hl5 : ∀ (r : Int) (σ σ' : St), cl 5 [] σ = some (r, σ') → Cn (Kl K) g yX10_isS cX10_isS 2 (some .boolean) frc 0 0 [vr c0] (SH0, σ) (some (vi r)) (SH0, σ')) (hk9 : ∀ (σ : St), k9 σ = some (r, σ') → G K g 2 cs 9 [(0, vr c0)] [] (SH0, σ)) (hR : RetZ K g cX10_isP 2 cs r (SH0, σ')) : ∀ (y0 : Int) (σ : St), fX10_isP_52 cl c0 k9 y0 σ = some (r, σ') → G K g 2 cs 52 [(0, vr c0)] [vi y0] (SH0, σ) := by
  intro y0 σ h
  unfold fX10_isP_52 at h
  refine g_istore_n hC dX10_isP_52 rfl (Nat.le_of_ble_eq_true rfl) rfl ?_
  refine g_iload_n hC dX10_isP_53 0 rfl rfl ?_
  refine g_if_ge hC dX10_isP_54 (tgt := 59) (by decide) (fun h9 => ?_) (fun h9 => ?_)
  · rw [if_pos h9] at h
    refine g_aload_n hC dX10_isP_59 1 rfl rfl ?_
    refine g_dup hC dX10_isP_60 rfl ?_
    refine g_geti hC dX10_isP_61 lfRX10_152 (isO_spec h0) (ft_10_15 h0) ?_
    refine g_iconst hC dX10_isP_64 ok_1 ?_
    refine g_iadd hC dX10_isP_65 ?_
    refine g_puti hC dX10_isP_66 lfRX10_152 fp_10_15 (isO_spec h0) (ft_10_15 h0) ?_
    refine g_aload_n hC dX10_isP_69 1 rfl rfl ?_
    obtain ⟨⟨r1, s1⟩, e1, h⟩ := of_bind h
    try dsimp only at h
    refine s_callVi hC dX10_isP_70 (hl3 _ _ _ e1) miX10_isO mvX10_isO mlRX10_179 (isO_spec h0) vc_10 rfl rfl (Nat.le_of_ble_eq_true rfl) hf (Nat.le_of_ble_eq_true rfl) hcs ?_
    refine g_if_ne hC dX10_isP_73 (tgt := 78) (by decide) (fun h9 => ?_) (fun h9 => ?_)
    · rw [if_neg h9] at h
      refine g_aload_n hC dX10_isP_78 1 rfl rfl ?_
      refine g_iload_n hC dX10_isP_79 0 rfl rfl ?_
      obtain ⟨⟨r2, s2⟩, e2, h⟩ := of_bind h
      try dsimp only at h
      refine s_callVi hC dX10_isP_80 (tX10_codes h0 e2) miX10_codes mvX10_codes mlRX10_166 (isO_spec h0) vc_10 rfl rfl (Nat.le_of_ble_eq_true rfl) (by omega) (Nat.le_of_ble_eq_true rfl) hcs ?_
      refine g_pop hC dX10_isP_83 rfl ?_
      refine g_goto hC dX10_isP_84 (tgt := 9) (by decide) ?_
      exact g_pick [1] rfl (hk9 _ h)
    · rw [if_pos h9] at h
      refine g_iconst hC dX10_isP_76 ok_0 ?_
      exact ret_z h hR (by decide) dX10_isP_77
  · rw [if_neg h9] at h
    refine g_iconst hC dX10_isP_57 ok_1 ?_
    exact ret_z h hR (by decide) dX10_isP_58
theorem bX10_isP_9 {K : KT} {g : GT} {cm sm : Nat} {cs : Nat × Nat} {fr : Nat} {c0 : Nat} {cl : Nat → List Int → St → Option (Int × St)} {frc : Nat} {r : Int} {σ' : St} (hC : Ctx K g RX10 cX10_isP 2 fr cm sm) (hcs : cs.1 ≤ cm ∧ cs.2 ≤ sm) (h0 : isO 10 c0 = true) (hf : frc + 1 ≤ fr) (hf0 : 2 ≤ fr) (hl0 : ∀ (r : Int) (σ σ' : St), cl 0 [] σ = some (r, σ') → Cn (Kl K) g yX10_isA cX10_isA 1 (some .boolean) frc 0 0 [vr c0] (SH0, σ) (some (vi r)) (SH0, σ')) (hl1 : ∀ (r : Int) (σ σ' : St), cl 1 [] σ = some (r, σ') → Cn (Kl K) g yX10_isB cX10_isB 2 (some .boolean) frc 0 0 [vr c0] (SH0, σ) (some (vi r)) (SH0, σ')) (hl2 : ∀ (r : Int) (σ σ' : St), cl 2 [] σ = some (r, σ') → Cn (Kl K) g yX10_isE cX10_isE 1 (some .boolean) frc 0 0 [vr c0] (SH0, σ) (some (vi r)) (SH0, σ')) (hl3 : ∀ (r : Int) (σ σ' : St), cl 3 [] σ = some (r, σ') → Cn (Kl K) g yX10_isO cX10_isO 3 (some .boolean) frc 0 0 [vr c0] (SH0, σ) (some (vi r)) (SH0, σ')) (hl4 : ∀ (r : Int) (σ σ' : St), cl 4 [] σ = some (r, σ') → Cn (Kl K) g yX10_isP cX10_isP 2 (some .boolean) frc 0 0 [vr c0] (SH0, σ) (some (vi r)) (SH0, σ')) (hl5 : ∀ (r : Int) (σ σ' : St), cl 5 [] σ = some (r, σ') → Cn (Kl K) g yX10_isS cX10_isS 2 (some .boolean) frc 0 0 [vr c0] (SH0, σ) (some (vi r)) (SH0, σ')) (hR : RetZ K g cX10_isP 2 cs r (SH0, σ')) : ∀ (n : Nat) (σ : St), fX10_isP_9 cl c0 n σ = some (r, σ') → G K g 2 cs 9 [(0, vr c0)] [] (SH0, σ) := by
  intro n
  induction n with
  | zero =>
    intro σ h
    rw [fX10_isP_9.eq_1] at h
    cases h
  | succ n ih =>
    intro σ h
    rw [fX10_isP_9.eq_2] at h
    refine g_aload_n hC dX10_isP_9 0 rfl rfl ?_
    obtain ⟨⟨r1, s1⟩, e1, h⟩ := of_bind h
    try dsimp only at h
    refine s_callVi hC dX10_isP_10 (tX10_sign h0 e1) miX10_sign mvX10_sign mlRX10_155 (isO_spec h0) vc_10 rfl rfl (Nat.le_of_ble_eq_true rfl) (by omega) (Nat.le_of_ble_eq_true rfl) hcs ?_
    refine g_bipush hC dX10_isP_13 bp_42 ?_
    refine g_icmp_ne hC dX10_isP_15 (tgt := 23) (by decide) (fun h9 => ?_) (fun h9 => ?_)
    · rw [if_neg h9] at h
      refine g_aload_n hC dX10_isP_23 0 rfl rfl ?_
      obtain ⟨⟨r2, s2⟩, e2, h⟩ := of_bind h
      try dsimp only at h
      refine s_callVi hC dX10_isP_24 (tX10_sign h0 e2) miX10_sign mvX10_sign mlRX10_155 (isO_spec h0) vc_10 rfl rfl (Nat.le_of_ble_eq_true rfl) (by omega) (Nat.le_of_ble_eq_true rfl) hcs ?_
      refine g_bipush hC dX10_isP_27 bp_47 ?_
      refine g_icmp_ne hC dX10_isP_29 (tgt := 37) (by decide) (fun h9 => ?_) (fun h9 => ?_)
      · rw [if_neg h9] at h
        refine g_aload_n hC dX10_isP_37 0 rfl rfl ?_
        obtain ⟨⟨r3, s3⟩, e3, h⟩ := of_bind h
        try dsimp only at h
        refine s_callVi hC dX10_isP_38 (tX10_sign h0 e3) miX10_sign mvX10_sign mlRX10_155 (isO_spec h0) vc_10 rfl rfl (Nat.le_of_ble_eq_true rfl) (by omega) (Nat.le_of_ble_eq_true rfl) hcs ?_
        refine g_bipush hC dX10_isP_41 bp_37 ?_
        refine g_icmp_ne hC dX10_isP_43 (tgt := 51) (by decide) (fun h9 => ?_) (fun h9 => ?_)
        · rw [if_neg h9] at h
          refine g_iconst hC dX10_isP_51 ok_m1 ?_
          exact g_pick [0] rfl (bX10_isP_52 hC hcs h0 hf hf0 hl0 hl1 hl2 hl3 hl4 hl5 ih hR _ _ h)
        · rw [if_pos h9] at h
          refine g_bipush hC dX10_isP_46 bp_15 ?_
          refine g_goto hC dX10_isP_48 (tgt := 52) (by decide) ?_
          exact g_pick [0] rfl (bX10_isP_52 hC hcs h0 hf hf0 hl0 hl1 hl2 hl3 hl4 hl5 ih hR _ _ h)
      · rw [if_pos h9] at h
        refine g_bipush hC dX10_isP_32 bp_14 ?_
        refine g_goto hC dX10_isP_34 (tgt := 52) (by decide) ?_
        exact g_pick [0] rfl (bX10_isP_52 hC hcs h0 hf hf0 hl0 hl1 hl2 hl3 hl4 hl5 ih hR _ _ h)
    · rw [if_pos h9] at h
      refine g_bipush hC dX10_isP_18 bp_13 ?_
      refine g_goto hC dX10_isP_20 (tgt := 52) (by decide) ?_
      exact g_pick [0] rfl (bX10_isP_52 hC hcs h0 hf hf0 hl0 hl1 hl2 hl3 hl4 hl5 ih hR _ _ h)
theorem bX10_isP_0 {K : KT} {g : GT} {cm sm : Nat} {cs : Nat × Nat} {fr : Nat} {c0 : Nat} {cl : Nat → List Int → St → Option (Int × St)} {frc : Nat} {r : Int} {σ' : St} (hC : Ctx K g RX10 cX10_isP 2 fr cm sm) (hcs : cs.1 ≤ cm ∧ cs.2 ≤ sm) (h0 : isO 10 c0 = true) (hf : frc + 1 ≤ fr) (hf0 : 2 ≤ fr) (hl0 : ∀ (r : Int) (σ σ' : St), cl 0 [] σ = some (r, σ') → Cn (Kl K) g yX10_isA cX10_isA 1 (some .boolean) frc 0 0 [vr c0] (SH0, σ) (some (vi r)) (SH0, σ')) (hl1 : ∀ (r : Int) (σ σ' : St), cl 1 [] σ = some (r, σ') → Cn (Kl K) g yX10_isB cX10_isB 2 (some .boolean) frc 0 0 [vr c0] (SH0, σ) (some (vi r)) (SH0, σ')) (hl2 : ∀ (r : Int) (σ σ' : St), cl 2 [] σ = some (r, σ') → Cn (Kl K) g yX10_isE cX10_isE 1 (some .boolean) frc 0 0 [vr c0] (SH0, σ) (some (vi r)) (SH0, σ')) (hl3 : ∀ (r : Int) (σ σ' : St), cl 3 [] σ = some (r, σ') → Cn (Kl K) g yX10_isO cX10_isO 3 (some .boolean) frc 0 0 [vr c0] (SH0, σ) (some (vi r)) (SH0, σ')) (hl4 : ∀ (r : Int) (σ σ' : St), cl 4 [] σ = some (r, σ') → Cn (Kl K) g yX10_isP cX10_isP 2 (some .boolean) frc 0 0 [vr c0] (SH0, σ) (some (vi r)) (SH0, σ')) (hl5 : ∀ (r : Int) (σ σ' : St), cl 5 [] σ = some (r, σ') → Cn (Kl K) g yX10_isS cX10_isS 2 (some .boolean) frc 0 0 [vr c0] (SH0, σ) (some (vi r)) (SH0, σ')) (hR : RetZ K g cX10_isP 2 cs r (SH0, σ')) : ∀ (σ : St), fX10_isP cl c0 σ = some (r, σ') → G K g 2 cs 0 [(0, vr c0)] [] (SH0, σ) := by
  intro σ h
  unfold fX10_isP at h
  refine g_aload_n hC dX10_isP_0 0 rfl rfl ?_
  obtain ⟨⟨r1, s1⟩, e1, h⟩ := of_bind h
  try dsimp only at h
  refine s_callVi hC dX10_isP_1 (hl3 _ _ _ e1) miX10_isO mvX10_isO mlRX10_179 (isO_spec h0) vc_10 rfl rfl (Nat.le_of_ble_eq_true rfl) hf (Nat.le_of_ble_eq_true rfl) hcs ?_
  refine g_if_ne hC dX10_isP_4 (tgt := 9) (by decide) (fun h9 => ?_) (fun h9 => ?_)
  · rw [if_neg h9] at h
    exact g_pick [0] rfl (bX10_isP_9 hC hcs h0 hf hf0 hl0 hl1 hl2 hl3 hl4 hl5 hR _ _ h)
  · rw [if_pos h9] at h
    refine g_iconst hC dX10_isP_7 ok_0 ?_
    exact ret_z h hR (by decide) dX10_isP_8
theorem bX10_isS_38 {K : KT} {g : GT} {cm sm : Nat} {cs : Nat × Nat} {fr : Nat} {c0 : Nat} {cl : Nat → List Int → St → Option (Int × St)} {frc : Nat} {k9 : St → Option (Int × St)} {r : Int} {σ' : St} (hC : Ctx K g RX10 cX10_isS 2 fr cm sm) (hcs : cs.1 ≤ cm ∧ cs.2 ≤ sm) (h0 : isO 10 c0 = true) (hf : frc + 1 ≤ fr) (hf0 : 2 ≤ fr) (hl0 : ∀ (r : Int) (σ σ' : St), cl 0 [] σ = some (r, σ') → Cn (Kl K) g yX10_isA cX10_isA 1 (some .boolean) frc 0 0 [vr c0] (SH0, σ) (some (vi r)) (SH0, σ')) (hl1 : ∀ (r : Int) (σ σ' : St), cl 1 [] σ = some (r, σ') → Cn (Kl K) g yX10_isB cX10_isB 2 (some .boolean) frc 0 0 [vr c0] (SH0, σ) (some (vi r)) (SH0, σ')) (hl2 : ∀ (r : Int) (σ σ' : St), cl 2 [] σ = some (r, σ') → Cn (Kl K) g yX10_isE cX10_isE 1 (some .boolean) frc 0 0 [vr c0] (SH0, σ) (some (vi r)) (SH0, σ')) (hl3 : ∀ (r : Int) (σ σ' : St), cl 3 [] σ = some (r, σ') → Cn (Kl K) g yX10_isO cX10_isO 3 (some .boolean) frc 0 0 [vr c0] (SH0, σ) (some (vi r)) (SH0, σ')) (hl4 : ∀ (r : Int) (σ σ' : St), cl 4 [] σ = some (r, σ') → Cn (Kl K) g yX10_isP cX10_isP 2 (some .boolean) frc 0 0 [vr c0] (SH0, σ) (some (vi r)) (SH0, σ')) (hl5 : ∀ (r : Int) (σ σ' : St), cl 5 [] σ = some (r, σ') → Cn (Kl K) g yX10_isS cX10_isS 2 (some .boolean) frc 0 0 [vr c0] (SH0, σ) (some (vi r)) (SH0, σ')) (hk9 : ∀ (σ : St), k9 σ = some (r, σ') → G K g 2 cs 9 [(0, vr c0)] [] (SH0, σ)) (hR : RetZ K g cX10_isS 2 cs r (SH0, σ')) : ∀ (y0 : Int) (σ : St), fX10_isS_38 cl c0 k9 y0 σ = some (r, σ') → G K g 2 cs 38 [(0, vr c0)] [vi y0] (SH0, σ) := by
  intro y0 σ h
  unfold fX10_isS_38 at h
  refine g_istore_n hC dX10_isS_38 rfl (Nat.le_of_ble_eq_true rfl) rfl ?_
  refine g_iload_n hC dX10_isS_39 0 rfl rfl ?_
  refine g_if_ge hC dX10_isS_40 (tgt := 45) (by decide) (fun h9 => ?_) (fun h9 => ?_)
  · rw [if_pos h9] at h
    refine g_aload_n hC dX10_isS_45 1 rfl rfl ?_
    refine g_dup hC dX10_isS_46 rfl ?_
    refine g_geti hC dX10_isS_47 lfRX10_152 (isO_spec h0) (ft_10_15 h0) ?_
    refine g_iconst hC dX10_isS_50 ok_1 ?_
    refine g_iadd hC dX10_isS_51 ?_
    refine g_puti hC dX10_isS_52 lfRX10_152 fp_10_15 (isO_spec h0) (ft_10_15 h0) ?_
    refine g_aload_n hC dX10_isS_55 1 rfl rfl ?_
    obtain ⟨⟨r1, s1⟩, e1, h⟩ := of_bind h
    try dsimp only at h
    refine s_callVi hC dX10_isS_56 (hl4 _ _ _ e1) miX10_isP mvX10_isP mlRX10_185 (isO_spec h0) vc_10 rfl rfl (Nat.le_of_ble_eq_true rfl) hf (Nat.le_of_ble_eq_true rfl) hcs ?_
    refine g_if_ne hC dX10_isS_59 (tgt := 64) (by decide) (fun h9 => ?_) (fun h9 => ?_)
    · rw [if_neg h9] at h
      refine g_aload_n hC dX10_isS_64 1 rfl rfl ?_
      refine g_iload_n hC dX10_isS_65 0 rfl rfl ?_
      obtain ⟨⟨r2, s2⟩, e2, h⟩ := of_bind h
      try dsimp only at h
      refine s_callVi hC dX10_isS_66 (tX10_codes h0 e2) miX10_codes mvX10_codes mlRX10_166 (isO_spec h0) vc_10 rfl rfl (Nat.le_of_ble_eq_true rfl) (by omega) (Nat.le_of_ble_eq_true rfl) hcs ?_
      refine g_pop hC dX10_isS_69 rfl ?_
      refine g_goto hC dX10_isS_70 (tgt := 9) (by decide) ?_
      exact g_pick [1] rfl (hk9 _ h)
    · rw [if_pos h9] at h
      refine g_iconst hC dX10_isS_62 ok_0 ?_
      exact ret_z h hR (by decide) dX10_isS_63
  · rw [if_neg h9] at h
    refine g_iconst hC dX10_isS_43 ok_1 ?_
    exact ret_z h hR (by decide) dX10_isS_44
theorem bX10_isS_9 {K : KT} {g : GT} {cm sm : Nat} {cs : Nat × Nat} {fr : Nat} {c0 : Nat} {cl : Nat → List Int → St → Option (Int × St)} {frc : Nat} {r : Int} {σ' : St} (hC : Ctx K g RX10 cX10_isS 2 fr cm sm) (hcs : cs.1 ≤ cm ∧ cs.2 ≤ sm) (h0 : isO 10 c0 = true) (hf : frc + 1 ≤ fr) (hf0 : 2 ≤ fr) (hl0 : ∀ (r : Int) (σ σ' : St), cl 0 [] σ = some (r, σ') → Cn (Kl K) g yX10_isA cX10_isA 1 (some .boolean) frc 0 0 [vr c0] (SH0, σ) (some (vi r)) (SH0, σ')) (hl1 : ∀ (r : Int) (σ σ' : St), cl 1 [] σ = some (r, σ') → Cn (Kl K) g yX10_isB cX10_isB 2 (some .boolean) frc 0 0 [vr c0] (SH0, σ) (some (vi r)) (SH0, σ')) (hl2 : ∀ (r : Int) (σ σ' : St), cl 2 [] σ = some (r, σ') → Cn (Kl K) g yX10_isE cX10_isE 1 (some .boolean) frc 0 0 [vr c0] (SH0, σ) (some (vi r)) (SH0, σ')) (hl3 : ∀ (r : Int) (σ σ' : St), cl 3 [] σ = some (r, σ') → Cn (Kl K) g yX10_isO cX10_isO 3 (some .boolean) frc 0 0 [vr c0] (SH0, σ) (some (vi r)) (SH0, σ')) (hl4 : ∀ (r : Int) (σ σ' : St), cl 4 [] σ = some (r, σ') → Cn (Kl K) g yX10_isP cX10_isP 2 (some .boolean) frc 0 0 [vr c0] (SH0, σ) (some (vi r)) (SH0, σ')) (hl5 : ∀ (r : Int) (σ σ' : St), cl 5 [] σ = some (r, σ') → Cn (Kl K) g yX10_isS cX10_isS 2 (some .boolean) frc 0 0 [vr c0] (SH0, σ) (some (vi r)) (SH0, σ')) (hR : RetZ K g cX10_isS 2 cs r (SH0, σ')) : ∀ (n : Nat) (σ : St), fX10_isS_9 cl c0 n σ = some (r, σ') → G K g 2 cs 9 [(0, vr c0)] [] (SH0, σ) := by
  intro n
  induction n with
  | zero =>
    intro σ h
    rw [fX10_isS_9.eq_1] at h
    cases h
  | succ n ih =>
    intro σ h
    rw [fX10_isS_9.eq_2] at h
    refine g_aload_n hC dX10_isS_9 0 rfl rfl ?_
    obtain ⟨⟨r1, s1⟩, e1, h⟩ := of_bind h
    try dsimp only at h
    refine s_callVi hC dX10_isS_10 (tX10_sign h0 e1) miX10_sign mvX10_sign mlRX10_155 (isO_spec h0) vc_10 rfl rfl (Nat.le_of_ble_eq_true rfl) (by omega) (Nat.le_of_ble_eq_true rfl) hcs ?_
    refine g_bipush hC dX10_isS_13 bp_43 ?_
    refine g_icmp_ne hC dX10_isS_15 (tgt := 23) (by decide) (fun h9 => ?_) (fun h9 => ?_)
    · rw [if_neg h9] at h
      refine g_aload_n hC dX10_isS_23 0 rfl rfl ?_
      obtain ⟨⟨r2, s2⟩, e2, h⟩ := of_bind h
      try dsimp only at h
      refine s_callVi hC dX10_isS_24 (tX10_sign h0 e2) miX10_sign mvX10_sign mlRX10_155 (isO_spec h0) vc_10 rfl rfl (Nat.le_of_ble_eq_true rfl) (by omega) (Nat.le_of_ble_eq_true rfl) hcs ?_
      refine g_bipush hC dX10_isS_27 bp_45 ?_
      refine g_icmp_ne hC dX10_isS_29 (tgt := 37) (by decide) (fun h9 => ?_) (fun h9 => ?_)
      · rw [if_neg h9] at h
        refine g_iconst hC dX10_isS_37 ok_m1 ?_
        exact g_pick [0] rfl (bX10_isS_38 hC hcs h0 hf hf0 hl0 hl1 hl2 hl3 hl4 hl5 ih hR _ _ h)
      · rw [if_pos h9] at h
        refine g_bipush hC dX10_isS_32 bp_12 ?_
        refine g_goto hC dX10_isS_34 (tgt := 38) (by decide) ?_
        exact g_pick [0] rfl (bX10_isS_38 hC hcs h0 hf hf0 hl0 hl1 hl2 hl3 hl4 hl5 ih hR _ _ h)
    · rw [if_pos h9] at h
      refine g_bipush hC dX10_isS_18 bp_11 ?_
      refine g_goto hC dX10_isS_20 (tgt := 38) (by decide) ?_
      exact g_pick [0] rfl (bX10_isS_38 hC hcs h0 hf hf0 hl0 hl1 hl2 hl3 hl4 hl5 ih hR _ _ h)
theorem bX10_isS_0 {K : KT} {g : GT} {cm sm : Nat} {cs : Nat × Nat} {fr : Nat} {c0 : Nat} {cl : Nat → List Int → St → Option (Int × St)} {frc : Nat} {r : Int} {σ' : St} (hC : Ctx K g RX10 cX10_isS 2 fr cm sm) (hcs : cs.1 ≤ cm ∧ cs.2 ≤ sm) (h0 : isO 10 c0 = true) (hf : frc + 1 ≤ fr) (hf0 : 2 ≤ fr) (hl0 : ∀ (r : Int) (σ σ' : St), cl 0 [] σ = some (r, σ') → Cn (Kl K) g yX10_isA cX10_isA 1 (some .boolean) frc 0 0 [vr c0] (SH0, σ) (some (vi r)) (SH0, σ')) (hl1 : ∀ (r : Int) (σ σ' : St), cl 1 [] σ = some (r, σ') → Cn (Kl K) g yX10_isB cX10_isB 2 (some .boolean) frc 0 0 [vr c0] (SH0, σ) (some (vi r)) (SH0, σ')) (hl2 : ∀ (r : Int) (σ σ' : St), cl 2 [] σ = some (r, σ') → Cn (Kl K) g yX10_isE cX10_isE 1 (some .boolean) frc 0 0 [vr c0] (SH0, σ) (some (vi r)) (SH0, σ')) (hl3 : ∀ (r : Int) (σ σ' : St), cl 3 [] σ = some (r, σ') → Cn (Kl K) g yX10_isO cX10_isO 3 (some .boolean) frc 0 0 [vr c0] (SH0, σ) (some (vi r)) (SH0, σ')) (hl4 : ∀ (r : Int) (σ σ' : St), cl 4 [] σ = some (r, σ') → Cn (Kl K) g yX10_isP cX10_isP 2 (some .boolean) frc 0 0 [vr c0] (SH0, σ) (some (vi r)) (SH0, σ')) (hl5 : ∀ (r : Int) (σ σ' : St), cl 5 [] σ = some (r, σ') → Cn (Kl K) g yX10_isS cX10_isS 2 (some .boolean) frc 0 0 [vr c0] (SH0, σ) (some (vi r)) (SH0, σ')) (hR : RetZ K g cX10_isS 2 cs r (SH0, σ')) : ∀ (σ : St), fX10_isS cl c0 σ = some (r, σ') → G K g 2 cs 0 [(0, vr c0)] [] (SH0, σ) := by
  intro σ h
  unfold fX10_isS at h
  refine g_aload_n hC dX10_isS_0 0 rfl rfl ?_
  obtain ⟨⟨r1, s1⟩, e1, h⟩ := of_bind h
  try dsimp only at h
  refine s_callVi hC dX10_isS_1 (hl4 _ _ _ e1) miX10_isP mvX10_isP mlRX10_185 (isO_spec h0) vc_10 rfl rfl (Nat.le_of_ble_eq_true rfl) hf (Nat.le_of_ble_eq_true rfl) hcs ?_
  refine g_if_ne hC dX10_isS_4 (tgt := 9) (by decide) (fun h9 => ?_) (fun h9 => ?_)
  · rw [if_neg h9] at h
    exact g_pick [0] rfl (bX10_isS_9 hC hcs h0 hf hf0 hl0 hl1 hl2 hl3 hl4 hl5 hR _ _ h)
  · rw [if_pos h9] at h
    refine g_iconst hC dX10_isS_7 ok_0 ?_
    exact ret_z h hR (by decide) dX10_isS_8
theorem cgX10_isA {l : Launch} {g : GT} {c0 : Nat} (h0 : isO 10 c0 = true) : ∀ d : Nat, (∀ (r : Int) (σ σ' : St), gX10_isA c0 d 0 [] σ = some (r, σ') → Cn l g yX10_isA cX10_isA 1 (some .boolean) (2 + d) 0 0 [vr c0] (SH0, σ) (some (vi r)) (SH0, σ')) ∧ (∀ (r : Int) (σ σ' : St), gX10_isA c0 d 1 [] σ = some (r, σ') → Cn l g yX10_isB cX10_isB 2 (some .boolean) (2 + d) 0 0 [vr c0] (SH0, σ) (some (vi r)) (SH0, σ')) ∧ (∀ (r : Int) (σ σ' : St), gX10_isA c0 d 2 [] σ = some (r, σ') → Cn l g yX10_isE cX10_isE 1 (some .boolean) (2 + d) 0 0 [vr c0] (SH0, σ) (some (vi r)) (SH0, σ')) ∧ (∀ (r : Int) (σ σ' : St), gX10_isA c0 d 3 [] σ = some (r, σ') → Cn l g yX10_isO cX10_isO 3 (some .boolean) (2 + d) 0 0 [vr c0] (SH0, σ) (some (vi r)) (SH0, σ')) ∧ (∀ (r : Int) (σ σ' : St), gX10_isA c0 d 4 [] σ = some (r, σ') → Cn l g yX10_isP cX10_isP 2 (some .boolean) (2 + d) 0 0 [vr c0] (SH0, σ) (some (vi r)) (SH0, σ')) ∧ (∀ (r : Int) (σ σ' : St), gX10_isA c0 d 5 [] σ = some (r, σ') → Cn l g yX10_isS cX10_isS 2 (some .boolean) (2 + d) 0 0 [vr c0] (SH0, σ) (some (vi r)) (SH0, σ')) := by
  intro d
  induction d with
  | zero =>
    refine ⟨?_, ?_, ?_, ?_, ?_, ?_⟩
    · intro r σ σ' h
      rw [gX10_isA_0] at h
      cases h
    · intro r σ σ' h
      rw [gX10_isA_0] at h
      cases h
    · intro r σ σ' h
      rw [gX10_isA_0] at h
      cases h
    · intro r σ σ' h
      rw [gX10_isA_0] at h
      cases h
    · intro r σ σ' h
      rw [gX10_isA_0] at h
      cases h
    · intro r σ σ' h
      rw [gX10_isA_0] at h
      cases h
  | succ d ih =>
    obtain ⟨i0, i1, i2, i3, i4, i5⟩ := ih
    refine ⟨?_, ?_, ?_, ?_, ?_, ?_⟩
    · intro r σ σ' h
      rw [gX10_isA_s] at h
      have h : (fX10_isA (gX10_isA c0 d) c0 σ) = some (r, σ') := h
      exact Cn.ofZ (by decide) (Nat.le_of_ble_eq_true rfl) (fun K e hC hR => by
        subst e
        exact bX10_isA_0 hC ⟨Nat.le_refl _, Nat.le_refl _⟩ h0 (frc := 2 + d) (by omega) (by omega) i0 i1 i2 i3 i4 i5 hR _ h)
    · intro r σ σ' h
      rw [gX10_isA_s] at h
      have h : (fX10_isB (gX10_isA c0 d) c0 σ) = some (r, σ') := h
      exact Cn.ofZ (by decide) (Nat.le_of_ble_eq_true rfl) (fun K e hC hR => by
        subst e
        exact bX10_isB_0 hC ⟨Nat.le_refl _, Nat.le_refl _⟩ h0 (frc := 2 + d) (by omega) (by omega) i0 i1 i2 i3 i4 i5 hR _ h)
    · intro r σ σ' h
      rw [gX10_isA_s] at h
      have h : (fX10_isE (gX10_isA c0 d) c0 σ) = some (r, σ') := h
      exact Cn.ofZ (by decide) (Nat.le_of_ble_eq_true rfl) (fun K e hC hR => by
        subst e
        exact bX10_isE_0 hC ⟨Nat.le_refl _, Nat.le_refl _⟩ h0 (frc := 2 + d) (by omega) (by omega) i0 i1 i2 i3 i4 i5 hR _ h)
    · intro r σ σ' h
      rw [gX10_isA_s] at h
      have h : (fX10_isO (gX10_isA c0 d) c0 σ) = some (r, σ') := h
      exact Cn.ofZ (by decide) (Nat.le_of_ble_eq_true rfl) (fun K e hC hR => by
        subst e
        exact bX10_isO_0 hC ⟨Nat.le_refl _, Nat.le_refl _⟩ h0 (frc := 2 + d) (by omega) (by omega) i0 i1 i2 i3 i4 i5 hR _ h)
    · intro r σ σ' h
      rw [gX10_isA_s] at h
      have h : (fX10_isP (gX10_isA c0 d) c0 σ) = some (r, σ') := h
      exact Cn.ofZ (by decide) (Nat.le_of_ble_eq_true rfl) (fun K e hC hR => by
        subst e
        exact bX10_isP_0 hC ⟨Nat.le_refl _, Nat.le_refl _⟩ h0 (frc := 2 + d) (by omega) (by omega) i0 i1 i2 i3 i4 i5 hR _ h)
    · intro r σ σ' h
      rw [gX10_isA_s] at h
      have h : (fX10_isS (gX10_isA c0 d) c0 σ) = some (r, σ') := h
      exact Cn.ofZ (by decide) (Nat.le_of_ble_eq_true rfl) (fun K e hC hR => by
        subst e
        exact bX10_isS_0 hC ⟨Nat.le_refl _, Nat.le_refl _⟩ h0 (frc := 2 + d) (by omega) (by omega) i0 i1 i2 i3 i4 i5 hR _ h)

theorem tX10_isA {l : Launch} {g : GT} {c0 : Nat} {σ σ' : St} {r : Int} (h0 : isO 10 c0 = true) (h : hX10_isA c0 σ = some (r, σ')) : Cn l g yX10_isA cX10_isA 1 (some .boolean) 202 0 0 [vr c0] (SH0, σ) (some (vi r)) (SH0, σ') := by
  unfold hX10_isA at h
  exact (cgX10_isA h0 DEP).1 _ _ _ h
theorem tX10_isB {l : Launch} {g : GT} {c0 : Nat} {σ σ' : St} {r : Int} (h0 : isO 10 c0 = true) (h : hX10_isB c0 σ = some (r, σ')) : Cn l g yX10_isB cX10_isB 2 (some .boolean) 202 0 0 [vr c0] (SH0, σ) (some (vi r)) (SH0, σ') := by
  unfold hX10_isB at h
  exact (cgX10_isA h0 DEP).2.1 _ _ _ h
theorem tX10_isE {l : Launch} {g : GT} {c0 : Nat} {σ σ' : St} {r : Int} (h0 : isO 10 c0 = true) (h : hX10_isE c0 σ = some (r, σ')) : Cn l g yX10_isE cX10_isE 1 (some .boolean) 202 0 0 [vr c0] (SH0, σ) (some (vi r)) (SH0, σ') := by
  unfold hX10_isE at h
  exact (cgX10_isA h0 DEP).2.2.1 _ _ _ h
theorem tX10_isO {l : Launch} {g : GT} {c0 : Nat} {σ σ' : St} {r : Int} (h0 : isO 10 c0 = true) (h : hX10_isO c0 σ = some (r, σ')) : Cn l g yX10_isO cX10_isO 3 (some .boolean) 202 0 0 [vr c0] (SH0, σ) (some (vi r)) (SH0, σ') := by
  unfold hX10_isO at h
  exact (cgX10_isA h0 DEP).2.2.2.1 _ _ _ h
theorem tX10_isP {l : Launch} {g : GT} {c0 : Nat} {σ σ' : St} {r : Int} (h0 : isO 10 c0 = true) (h : hX10_isP c0 σ = some (r, σ')) : Cn l g yX10_isP cX10_isP 2 (some .boolean) 202 0 0 [vr c0] (SH0, σ) (some (vi r)) (SH0, σ') := by
  unfold hX10_isP at h
  exact (cgX10_isA h0 DEP).2.2.2.2.1 _ _ _ h
theorem tX10_isS {l : Launch} {g : GT} {c0 : Nat} {σ σ' : St} {r : Int} (h0 : isO 10 c0 = true) (h : hX10_isS c0 σ = some (r, σ')) : Cn l g yX10_isS cX10_isS 2 (some .boolean) 202 0 0 [vr c0] (SH0, σ) (some (vi r)) (SH0, σ') := by
  unfold hX10_isS at h
  exact (cgX10_isA h0 DEP).2.2.2.2.2 _ _ _ h
theorem dX10_isLine_0 : decode cX10_isLine 0 = .ok (.aload_n 0, 1) := by decide +kernel
theorem dX10_isLine_1 : decode cX10_isLine 1 = .ok (.getfield 42, 3) := by decide +kernel
theorem dX10_isLine_4 : decode cX10_isLine 4 = .ok (.aload_n 0, 1) := by decide +kernel
theorem dX10_isLine_5 : decode cX10_isLine 5 = .ok (.getfield 197, 3) := by decide +kernel
theorem dX10_isLine_8 : decode cX10_isLine 8 = .ok (.aload_n 0, 1) := by decide +kernel
theorem dX10_isLine_9 : decode cX10_isLine 9 = .ok (.getfield 159, 3) := by decide +kernel
theorem dX10_isLine_12 : decode cX10_isLine 12 = .ok (.iastore, 1) := by decide +kernel
theorem dX10_isLine_13 : decode cX10_isLine 13 = .ok (.aload_n 0, 1) := by decide +kernel
theorem dX10_isLine_14 : decode cX10_isLine 14 = .ok (.invokevirtual 182, 3) := by decide +kernel
theorem dX10_isLine_17 : decode cX10_isLine 17 = .ok (.ifCond .ne 5, 3) := by decide +kernel
theorem dX10_isLine_20 : decode cX10_isLine 20 = .ok (.iconst 0, 1) := by decide +kernel
theorem dX10_isLine_21 : decode cX10_isLine 21 = .ok (.ireturn, 1) := by decide +kernel
theorem dX10_isLine_22 : decode cX10_isLine 22 = .ok (.aload_n 0, 1) := by decide +kernel
theorem dX10_isLine_23 : decode cX10_isLine 23 = .ok (.getfield 45, 3) := by decide +kernel
theorem dX10_isLine_26 : decode cX10_isLine 26 = .ok (.aload_n 0, 1) := by decide +kernel
theorem dX10_isLine_27 : decode cX10_isLine 27 = .ok (.getfield 197, 3) := by decide +kernel
theorem dX10_isLine_30 : decode cX10_isLine 30 = .ok (.aload_n 0, 1) := by decide +kernel
theorem dX10_isLine_31 : decode cX10_isLine 31 = .ok (.getfield 42, 3) := by decide +kernel
theorem dX10_isLine_34 : decode cX10_isLine 34 = .ok (.aload_n 0, 1) := by decide +kernel
theorem dX10_isLine_35 : decode cX10_isLine 35 = .ok (.getfield 197, 3) := by decide +kernel
theorem dX10_isLine_38 : decode cX10_isLine 38 = .ok (.iaload, 1) := by decide +kernel
theorem dX10_isLine_39 : decode cX10_isLine 39 = .ok (.iastore, 1) := by decide +kernel
theorem dX10_isLine_40 : decode cX10_isLine 40 = .ok (.aload_n 0, 1) := by decide +kernel
theorem dX10_isLine_41 : decode cX10_isLine 41 = .ok (.bipush 63, 2) := by decide +kernel
theorem dX10_isLine_43 : decode cX10_isLine 43 = .ok (.invokevirtual 176, 3) := by decide +kernel
theorem dX10_isLine_46 : decode cX10_isLine 46 = .ok (.ifCond .eq 25, 3) := by decide +kernel
theorem dX10_isLine_49 : decode cX10_isLine 49 = .ok (.aload_n 0, 1) := by decide +kernel
theorem dX10_isLine_50 : decode cX10_isLine 50 = .ok (.getfield 45, 3) := by decide +kernel
theorem dX10_isLine_53 : decode cX10_isLine 53 = .ok (.aload_n 0, 1) := by decide +kernel
theorem dX10_isLine_54 : decode cX10_isLine 54 = .ok (.getfield 197, 3) := by decide +kernel
theorem dX10_isLine_57 : decode cX10_isLine 57 = .ok (.aload_n 0, 1) := by decide +kernel
theorem dX10_isLine_58 : decode cX10_isLine 58 = .ok (.getfield 159, 3) := by decide +kernel
theorem dX10_isLine_61 : decode cX10_isLine 61 = .ok (.iastore, 1) := by decide +kernel
theorem dX10_isLine_62 : decode cX10_isLine 62 = .ok (.aload_n 0, 1) := by decide +kernel
theorem dX10_isLine_63 : decode cX10_isLine 63 = .ok (.invokevirtual 182, 3) := by decide +kernel
theorem dX10_isLine_66 : decode cX10_isLine 66 = .ok (.ifCond .ne 5, 3) := by decide +kernel
theorem dX10_isLine_69 : decode cX10_isLine 69 = .ok (.iconst 0, 1) := by decide +kernel
theorem dX10_isLine_70 : decode cX10_isLine 70 = .ok (.ireturn, 1) := by decide +kernel
theorem dX10_isLine_71 : decode cX10_isLine 71 = .ok (.aload_n 0, 1) := by decide +kernel
theorem dX10_isLine_72 : decode cX10_isLine 72 = .ok (.getfield 48, 3) := by decide +kernel
theorem dX10_isLine_75 : decode cX10_isLine 75 = .ok (.aload_n 0, 1) := by decide +kernel
theorem dX10_isLine_76 : decode cX10_isLine 76 = .ok (.dup, 1) := by decide +kernel
theorem dX10_isLine_77 : decode cX10_isLine 77 = .ok (.getfield 197, 3) := by decide +kernel
theorem dX10_isLine_80 : decode cX10_isLine 80 = .ok (.dup_x1, 1) := by decide +kernel
theorem dX10_isLine_81 : decode cX10_isLine 81 = .ok (.iconst 1, 1) := by decide +kernel
theorem dX10_isLine_82 : decode cX10_isLine 82 = .ok (.iadd, 1) := by decide +kernel
theorem dX10_isLine_83 : decode cX10_isLine 83 = .ok (.putfield 197, 3) := by decide +kernel
theorem dX10_isLine_86 : decode cX10_isLine 86 = .ok (.aload_n 0, 1) := by decide +kernel
theorem dX10_isLine_87 : decode cX10_isLine 87 = .ok (.getfield 159, 3) := by decide +kernel
theorem dX10_isLine_90 : decode cX10_isLine 90 = .ok (.iastore, 1) := by decide +kernel
theorem dX10_isLine_91 : decode cX10_isLine 91 = .ok (.iconst 1, 1) := by decide +kernel
theorem dX10_isLine_92 : decode cX10_isLine 92 = .ok (.ireturn, 1) := by decide +kernel
theorem bX10_isLine_71 {K : KT} {g : GT} {cm sm : Nat} {cs : Nat × Nat} {c0 : Nat} {r : Int} {σ' : St} (hC : Ctx K g RX10 cX10_isLine 1 203 cm sm) (hcs : cs.1 ≤ cm ∧ cs.2 ≤ sm) (h0 : isO 10 c0 = true) (hR : RetZ K g cX10_isLine 1 cs r (SH0, σ')) : ∀ (σ : St), fX10_isLine_71 c0 σ = some (r, σ') → G K g 1 cs 71 [(0, vr c0)] [] (SH0, σ) := by
  intro σ h
  unfold fX10_isLine_71 at h
  refine g_aload_n hC dX10_isLine_71 0 rfl rfl ?_
  refine g_getr hC dX10_isLine_72 lfRX10_48 (isO_spec h0) (ft_10_21 h0) ?_
  refine g_aload_n hC dX10_isLine_75 0 rfl rfl ?_
  refine g_dup hC dX10_isLine_76 rfl ?_
  refine g_geti hC dX10_isLine_77 lfRX10_197 (isO_spec h0) (ft_10_18 h0) ?_
  refine g_dup_x1 hC dX10_isLine_80 rfl rfl ?_
  refine g_iconst hC dX10_isLine_81 ok_1 ?_
  refine g_iadd hC dX10_isLine_82 ?_
  refine g_puti hC dX10_isLine_83 lfRX10_197 fp_10_18 (isO_spec h0) (ft_10_18 h0) ?_
  refine g_aload_n hC dX10_isLine_86 0 rfl rfl ?_
  refine g_geti hC dX10_isLine_87 lfRX10_159 (isO_spec h0) (ft_10_17 h0) ?_
  obtain ⟨b9, h⟩ := of_ite h
  refine g_iast hC dX10_isLine_90 (isA_spec (rf_10_21 h0)) b9 ?_
  refine g_iconst hC dX10_isLine_91 ok_1 ?_
  exact ret_z h hR (by decide) dX10_isLine_92
theorem bX10_isLine_0 {K : KT} {g : GT} {cm sm : Nat} {cs : Nat × Nat} {c0 : Nat} {r : Int} {σ' : St} (hC : Ctx K g RX10 cX10_isLine 1 203 cm sm) (hcs : cs.1 ≤ cm ∧ cs.2 ≤ sm) (h0 : isO 10 c0 = true) (hR : RetZ K g cX10_isLine 1 cs r (SH0, σ')) : ∀ (σ : St), fX10_isLine c0 σ = some (r, σ') → G K g 1 cs 0 [(0, vr c0)] [] (SH0, σ) := by
  intro σ h
  unfold fX10_isLine at h
  refine g_aload_n hC dX10_isLine_0 0 rfl rfl ?_
  refine g_getr hC dX10_isLine_1 lfRX10_42 (isO_spec h0) (ft_10_19 h0) ?_
  refine g_aload_n hC dX10_isLine_4 0 rfl rfl ?_
  refine g_geti hC dX10_isLine_5 lfRX10_197 (isO_spec h0) (ft_10_18 h0) ?_
  refine g_aload_n hC dX10_isLine_8 0 rfl rfl ?_
  refine g_geti hC dX10_isLine_9 lfRX10_159 (isO_spec h0) (ft_10_17 h0) ?_
  obtain ⟨b9, h⟩ := of_ite h
  refine g_iast hC dX10_isLine_12 (isA_spec (rf_10_19 h0)) b9 ?_
  refine g_aload_n hC dX10_isLine_13 0 rfl rfl ?_
  obtain ⟨⟨r1, s1⟩, e1, h⟩ := of_bind h
  try dsimp only at h
  refine s_callVi hC dX10_isLine_14 (tX10_isE h0 e1) miX10_isE mvX10_isE mlRX10_182 (isO_spec h0) vc_10 rfl rfl (Nat.le_of_ble_eq_true rfl) (Nat.le_of_ble_eq_true rfl) (Nat.le_of_ble_eq_true rfl) hcs ?_
  refine g_if_ne hC dX10_isLine_17 (tgt := 22) (by decide) (fun h9 => ?_) (fun h9 => ?_)
  · rw [if_neg h9] at h
    refine g_aload_n hC dX10_isLine_22 0 rfl rfl ?_
    refine g_getr hC dX10_isLine_23 lfRX10_45 (isO_spec h0) (ft_10_20 h0) ?_
    refine g_aload_n hC dX10_isLine_26 0 rfl rfl ?_
    refine g_geti hC dX10_isLine_27 lfRX10_197 (isO_spec h0) (ft_10_18 h0) ?_
    refine g_aload_n hC dX10_isLine_30 0 rfl rfl ?_
    refine g_getr hC dX10_isLine_31 lfRX10_42 (isO_spec h0) (ft_10_19 h0) ?_
    refine g_aload_n hC dX10_isLine_34 0 rfl rfl ?_
    refine g_geti hC dX10_isLine_35 lfRX10_197 (isO_spec h0) (ft_10_18 h0) ?_
    obtain ⟨b9, h⟩ := of_ite h
    refine g_iald hC dX10_isLine_38 (isA_spec (rf_10_19 h0)) b9 ?_
    obtain ⟨b9, h⟩ := of_ite h
    refine g_iast hC dX10_isLine_39 (isA_spec (rf_10_20 h0)) b9 ?_
    refine g_aload_n hC dX10_isLine_40 0 rfl rfl ?_
    refine g_bipush hC dX10_isLine_41 bp_63 ?_
    obtain ⟨⟨r2, s2⟩, e2, h⟩ := of_bind h
    try dsimp only at h
    refine s_callVi hC dX10_isLine_43 (tX10_is h0 e2) miX10_is mvX10_is mlRX10_176 (isO_spec h0) vc_10 rfl rfl (Nat.le_of_ble_eq_true rfl) (Nat.le_of_ble_eq_true rfl) (Nat.le_of_ble_eq_true rfl) hcs ?_
    refine g_if_eq hC dX10_isLine_46 (tgt := 71) (by decide) (fun h9 => ?_) (fun h9 => ?_)
    · rw [if_pos h9] at h
      exact g_pick [0] rfl (bX10_isLine_71 hC hcs h0 hR _ h)
    · rw [if_neg h9] at h
      refine g_aload_n hC dX10_isLine_49 0 rfl rfl ?_
      refine g_getr hC dX10_isLine_50 lfRX10_45 (isO_spec h0) (ft_10_20 h0) ?_
      refine g_aload_n hC dX10_isLine_53 0 rfl rfl ?_
      refine g_geti hC dX10_isLine_54 lfRX10_197 (isO_spec h0) (ft_10_18 h0) ?_
      refine g_aload_n hC dX10_isLine_57 0 rfl rfl ?_
      refine g_geti hC dX10_isLine_58 lfRX10_159 (isO_spec h0) (ft_10_17 h0) ?_
      obtain ⟨b9, h⟩ := of_ite h
      refine g_iast hC dX10_isLine_61 (isA_spec (rf_10_20 h0)) b9 ?_
      refine g_aload_n hC dX10_isLine_62 0 rfl rfl ?_
      obtain ⟨⟨r3, s3⟩, e3, h⟩ := of_bind h
      try dsimp only at h
      refine s_callVi hC dX10_isLine_63 (tX10_isE h0 e3) miX10_isE mvX10_isE mlRX10_182 (isO_spec h0) vc_10 rfl rfl (Nat.le_of_ble_eq_true rfl) (Nat.le_of_ble_eq_true rfl) (Nat.le_of_ble_eq_true rfl) hcs ?_
      refine g_if_ne hC dX10_isLine_66 (tgt := 71) (by decide) (fun h9 => ?_) (fun h9 => ?_)
      · rw [if_neg h9] at h
        exact g_pick [0] rfl (bX10_isLine_71 hC hcs h0 hR _ h)
      · rw [if_pos h9] at h
        refine g_iconst hC dX10_isLine_69 ok_0 ?_
        exact ret_z h hR (by decide) dX10_isLine_70
  · rw [if_pos h9] at h
    refine g_iconst hC dX10_isLine_20 ok_0 ?_
    exact ret_z h hR (by decide) dX10_isLine_21
theorem tX10_isLine {l : Launch} {g : GT} {c0 : Nat} {σ σ' : St} {r : Int} (h0 : isO 10 c0 = true) (h : fX10_isLine c0 σ = some (r, σ')) : Cn l g yX10_isLine cX10_isLine 1 (some .boolean) 203 0 0 [vr c0] (SH0, σ) (some (vi r)) (SH0, σ') :=
  Cn.ofZ (by decide) (Nat.le_of_ble_eq_true rfl) (fun K e hC hR => (bX10_isLine_0 hC ⟨Nat.le_refl _, Nat.le_refl _⟩ h0 hR _ h))
