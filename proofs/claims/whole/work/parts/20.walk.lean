/-! Walks (printed by my program). -/
theorem dX10_above_0 : decode cX10_above 0 = .ok (.iload_n 0, 1) := by decide +kernel
theorem dX10_above_1 : decode cX10_above 1 = .ok (.tableswitch 43 3 7 #[35, 37, 39, 43, 41], 35) := by decide +kernel
theorem dX10_above_36 : decode cX10_above 36 = .ok (.iconst 2, 1) := by decide +kernel
theorem dX10_above_37 : decode cX10_above 37 = .ok (.ireturn, 1) := by decide +kernel
theorem dX10_above_38 : decode cX10_above 38 = .ok (.iconst 1, 1) := by decide +kernel
theorem dX10_above_39 : decode cX10_above 39 = .ok (.ireturn, 1) := by decide +kernel
theorem dX10_above_40 : decode cX10_above 40 = .ok (.iconst 3, 1) := by decide +kernel
theorem dX10_above_41 : decode cX10_above 41 = .ok (.ireturn, 1) := by decide +kernel
theorem dX10_above_42 : decode cX10_above 42 = .ok (.iconst 4, 1) := by decide +kernel
theorem dX10_above_43 : decode cX10_above 43 = .ok (.ireturn, 1) := by decide +kernel
theorem dX10_above_44 : decode cX10_above 44 = .ok (.iconst 0, 1) := by decide +kernel
theorem dX10_above_45 : decode cX10_above 45 = .ok (.ireturn, 1) := by decide +kernel
theorem bX10_above_0 {K : KT} {g : GT} {cm sm : Nat} {cs : Nat × Nat} {x0 : Int} {r : Int} {σ' : St} (hC : Ctx K g RX10 cX10_above 1 0 cm sm) (hcs : cs.1 ≤ cm ∧ cs.2 ≤ sm) (hR : RetI K g cX10_above 1 cs r (SH0, σ')) : ∀ (σ : St), fX10_above x0 σ = some (r, σ') → G K g 1 cs 0 [(0, vi x0)] [] (SH0, σ) := by
  intro σ h
  unfold fX10_above at h
  refine g_iload_n hC dX10_above_0 0 rfl rfl ?_
  by_cases h9 : x0 = 3
  · rw [if_pos h9] at h
    refine g_table hC dX10_above_1 36 (Or.inr (by (try dsimp only); rw [h9]; exact ⟨by decide, by decide, 35, rfl, by decide⟩)) ?_
    refine g_iconst hC dX10_above_36 ok_2 ?_
    exact ret_i h hR dX10_above_37
  rw [if_neg h9] at h
  have n1 := h9
  clear h9
  by_cases h9 : x0 = 4
  · rw [if_pos h9] at h
    refine g_table hC dX10_above_1 38 (Or.inr (by (try dsimp only); rw [h9]; exact ⟨by decide, by decide, 37, rfl, by decide⟩)) ?_
    refine g_iconst hC dX10_above_38 ok_1 ?_
    exact ret_i h hR dX10_above_39
  rw [if_neg h9] at h
  have n2 := h9
  clear h9
  by_cases h9 : x0 = 5
  · rw [if_pos h9] at h
    refine g_table hC dX10_above_1 40 (Or.inr (by (try dsimp only); rw [h9]; exact ⟨by decide, by decide, 39, rfl, by decide⟩)) ?_
    refine g_iconst hC dX10_above_40 ok_3 ?_
    exact ret_i h hR dX10_above_41
  rw [if_neg h9] at h
  have n3 := h9
  clear h9
  by_cases h9 : x0 = 7
  · rw [if_pos h9] at h
    refine g_table hC dX10_above_1 42 (Or.inr (by (try dsimp only); rw [h9]; exact ⟨by decide, by decide, 41, rfl, by decide⟩)) ?_
    refine g_iconst hC dX10_above_42 ok_4 ?_
    exact ret_i h hR dX10_above_43
  rw [if_neg h9] at h
  have n4 := h9
  clear h9
  refine g_table hC dX10_above_1 44 (by
    by_cases z0 : x0 = 6
    · exact Or.inr (by (try dsimp only); rw [z0]; exact ⟨by decide, by decide, 43, rfl, by decide⟩)
    exact Or.inl ⟨by (try dsimp only); omega, by decide⟩) ?_
  refine g_iconst hC dX10_above_44 ok_0 ?_
  exact ret_i h hR dX10_above_45
theorem tX10_above {l : Launch} {g : GT} {x0 : Int} {σ σ' : St} {r : Int} (h : fX10_above x0 σ = some (r, σ')) : Cn l g yX10_above cX10_above 1 (some .int) 0 0 0 [vi x0] (SH0, σ) (some (vi r)) (SH0, σ') :=
  Cn.ofI (by decide) (Nat.le_of_ble_eq_true rfl) (fun K e hC hR => (bX10_above_0 hC ⟨Nat.le_refl _, Nat.le_refl _⟩ hR _ h))
theorem dX10_ran_0 : decode cX10_ran 0 = .ok (.aload_n 0, 1) := by decide +kernel
theorem dX10_ran_1 : decode cX10_ran 1 = .ok (.getfield 326, 3) := by decide +kernel
theorem dX10_ran_4 : decode cX10_ran 4 = .ok (.bipush 24, 2) := by decide +kernel
theorem dX10_ran_6 : decode cX10_ran 6 = .ok (.if_icmp .ge 13, 3) := by decide +kernel
theorem dX10_ran_9 : decode cX10_ran 9 = .ok (.aload_n 0, 1) := by decide +kernel
theorem dX10_ran_10 : decode cX10_ran 10 = .ok (.getfield 75, 3) := by decide +kernel
theorem dX10_ran_13 : decode cX10_ran 13 = .ok (.aload_n 0, 1) := by decide +kernel
theorem dX10_ran_14 : decode cX10_ran 14 = .ok (.getfield 326, 3) := by decide +kernel
theorem dX10_ran_17 : decode cX10_ran 17 = .ok (.iload_n 1, 1) := by decide +kernel
theorem dX10_ran_18 : decode cX10_ran 18 = .ok (.iastore, 1) := by decide +kernel
theorem dX10_ran_19 : decode cX10_ran 19 = .ok (.aload_n 0, 1) := by decide +kernel
theorem dX10_ran_20 : decode cX10_ran 20 = .ok (.dup, 1) := by decide +kernel
theorem dX10_ran_21 : decode cX10_ran 21 = .ok (.getfield 326, 3) := by decide +kernel
theorem dX10_ran_24 : decode cX10_ran 24 = .ok (.iconst 1, 1) := by decide +kernel
theorem dX10_ran_25 : decode cX10_ran 25 = .ok (.iadd, 1) := by decide +kernel
theorem dX10_ran_26 : decode cX10_ran 26 = .ok (.putfield 326, 3) := by decide +kernel
theorem dX10_ran_29 : decode cX10_ran 29 = .ok (.return_, 1) := by decide +kernel
theorem bX10_ran_19 {K : KT} {g : GT} {cm sm : Nat} {cs : Nat × Nat} {c0 : Nat} {x1 : Int} {σ' : St} (hC : Ctx K g RX10 cX10_ran 2 0 cm sm) (hcs : cs.1 ≤ cm ∧ cs.2 ≤ sm) (h0 : isO 10 c0 = true) (hR : RetV K g cX10_ran 2 cs (SH0, σ')) : ∀ (σ : St), fX10_ran_19 c0 x1 σ = some σ' → G K g 2 cs 19 [(0, vr c0), (1, vi x1)] [] (SH0, σ) := by
  intro σ h
  unfold fX10_ran_19 at h
  refine g_aload_n hC dX10_ran_19 0 rfl rfl ?_
  refine g_dup hC dX10_ran_20 rfl ?_
  refine g_geti hC dX10_ran_21 lfRX10_326 (isO_spec h0) (ft_10_36 h0) ?_
  refine g_iconst hC dX10_ran_24 ok_1 ?_
  refine g_iadd hC dX10_ran_25 ?_
  refine g_puti hC dX10_ran_26 lfRX10_326 fp_10_36 (isO_spec h0) (ft_10_36 h0) ?_
  exact ret_v h hR dX10_ran_29
theorem bX10_ran_0 {K : KT} {g : GT} {cm sm : Nat} {cs : Nat × Nat} {c0 : Nat} {x1 : Int} {σ' : St} (hC : Ctx K g RX10 cX10_ran 2 0 cm sm) (hcs : cs.1 ≤ cm ∧ cs.2 ≤ sm) (h0 : isO 10 c0 = true) (hR : RetV K g cX10_ran 2 cs (SH0, σ')) : ∀ (σ : St), fX10_ran c0 x1 σ = some σ' → G K g 2 cs 0 [(0, vr c0), (1, vi x1)] [] (SH0, σ) := by
  intro σ h
  unfold fX10_ran at h
  refine g_aload_n hC dX10_ran_0 0 rfl rfl ?_
  refine g_geti hC dX10_ran_1 lfRX10_326 (isO_spec h0) (ft_10_36 h0) ?_
  refine g_bipush hC dX10_ran_4 bp_24 ?_
  refine g_icmp_ge hC dX10_ran_6 (tgt := 19) (by decide) (fun h9 => ?_) (fun h9 => ?_)
  · rw [if_pos h9] at h
    exact g_pick [0, 1] rfl (bX10_ran_19 hC hcs h0 hR _ h)
  · rw [if_neg h9] at h
    refine g_aload_n hC dX10_ran_9 0 rfl rfl ?_
    refine g_getr hC dX10_ran_10 lfRX10_75 (isO_spec h0) (ft_10_37 h0) ?_
    refine g_aload_n hC dX10_ran_13 0 rfl rfl ?_
    refine g_geti hC dX10_ran_14 lfRX10_326 (isO_spec h0) (ft_10_36 h0) ?_
    refine g_iload_n hC dX10_ran_17 1 rfl rfl ?_
    obtain ⟨b9, h⟩ := of_ite h
    refine g_iast hC dX10_ran_18 (isA_spec (rf_10_37 h0)) b9 ?_
    exact g_pick [0, 1] rfl (bX10_ran_19 hC hcs h0 hR _ h)
theorem tX10_ran {l : Launch} {g : GT} {c0 : Nat} {x1 : Int} {σ σ' : St} (h0 : isO 10 c0 = true) (h : fX10_ran c0 x1 σ = some σ') : Cn l g yX10_ran cX10_ran 2 none 0 0 0 [vr c0, vi x1] (SH0, σ) none (SH0, σ') :=
  Cn.ofV (by decide) (Nat.le_of_ble_eq_true rfl) (fun K e hC hR => (bX10_ran_0 hC ⟨Nat.le_refl _, Nat.le_refl _⟩ h0 hR _ h))
theorem dX10_bidsBy_0 : decode cX10_bidsBy 0 = .ok (.iload_n 2, 1) := by decide +kernel
theorem dX10_bidsBy_1 : decode cX10_bidsBy 1 = .ok (.lookupswitch 76 #[(0, 35), (1, 44), (6, 60)], 35) := by decide +kernel
theorem dX10_bidsBy_36 : decode cX10_bidsBy 36 = .ok (.aload_n 0, 1) := by decide +kernel
theorem dX10_bidsBy_37 : decode cX10_bidsBy 37 = .ok (.iconst 1, 1) := by decide +kernel
theorem dX10_bidsBy_38 : decode cX10_bidsBy 38 = .ok (.invokevirtual 329, 3) := by decide +kernel
theorem dX10_bidsBy_41 : decode cX10_bidsBy 41 = .ok (.iload_n 3, 1) := by decide +kernel
theorem dX10_bidsBy_42 : decode cX10_bidsBy 42 = .ok (.iload_n 1, 1) := by decide +kernel
theorem dX10_bidsBy_43 : decode cX10_bidsBy 43 = .ok (.iadd, 1) := by decide +kernel
theorem dX10_bidsBy_44 : decode cX10_bidsBy 44 = .ok (.ireturn, 1) := by decide +kernel
theorem dX10_bidsBy_45 : decode cX10_bidsBy 45 = .ok (.aload_n 0, 1) := by decide +kernel
theorem dX10_bidsBy_46 : decode cX10_bidsBy 46 = .ok (.bipush 20, 2) := by decide +kernel
theorem dX10_bidsBy_48 : decode cX10_bidsBy 48 = .ok (.invokevirtual 329, 3) := by decide +kernel
theorem dX10_bidsBy_51 : decode cX10_bidsBy 51 = .ok (.aload_n 0, 1) := by decide +kernel
theorem dX10_bidsBy_52 : decode cX10_bidsBy 52 = .ok (.iload_n 1, 1) := by decide +kernel
theorem dX10_bidsBy_53 : decode cX10_bidsBy 53 = .ok (.iconst 0, 1) := by decide +kernel
theorem dX10_bidsBy_54 : decode cX10_bidsBy 54 = .ok (.iload_n 3, 1) := by decide +kernel
theorem dX10_bidsBy_55 : decode cX10_bidsBy 55 = .ok (.invokevirtual 333, 3) := by decide +kernel
theorem dX10_bidsBy_58 : decode cX10_bidsBy 58 = .ok (.iconst 3, 1) := by decide +kernel
theorem dX10_bidsBy_59 : decode cX10_bidsBy 59 = .ok (.iadd, 1) := by decide +kernel
theorem dX10_bidsBy_60 : decode cX10_bidsBy 60 = .ok (.ireturn, 1) := by decide +kernel
theorem dX10_bidsBy_61 : decode cX10_bidsBy 61 = .ok (.aload_n 0, 1) := by decide +kernel
theorem dX10_bidsBy_62 : decode cX10_bidsBy 62 = .ok (.bipush 70, 2) := by decide +kernel
theorem dX10_bidsBy_64 : decode cX10_bidsBy 64 = .ok (.invokevirtual 329, 3) := by decide +kernel
theorem dX10_bidsBy_67 : decode cX10_bidsBy 67 = .ok (.aload_n 0, 1) := by decide +kernel
theorem dX10_bidsBy_68 : decode cX10_bidsBy 68 = .ok (.iload_n 1, 1) := by decide +kernel
theorem dX10_bidsBy_69 : decode cX10_bidsBy 69 = .ok (.iconst 0, 1) := by decide +kernel
theorem dX10_bidsBy_70 : decode cX10_bidsBy 70 = .ok (.iload_n 3, 1) := by decide +kernel
theorem dX10_bidsBy_71 : decode cX10_bidsBy 71 = .ok (.invokevirtual 333, 3) := by decide +kernel
theorem dX10_bidsBy_74 : decode cX10_bidsBy 74 = .ok (.iconst 2, 1) := by decide +kernel
theorem dX10_bidsBy_75 : decode cX10_bidsBy 75 = .ok (.imul, 1) := by decide +kernel
theorem dX10_bidsBy_76 : decode cX10_bidsBy 76 = .ok (.ireturn, 1) := by decide +kernel
theorem dX10_bidsBy_77 : decode cX10_bidsBy 77 = .ok (.aload_n 0, 1) := by decide +kernel
theorem dX10_bidsBy_78 : decode cX10_bidsBy 78 = .ok (.iload_n 1, 1) := by decide +kernel
theorem dX10_bidsBy_79 : decode cX10_bidsBy 79 = .ok (.iload_n 2, 1) := by decide +kernel
theorem dX10_bidsBy_80 : decode cX10_bidsBy 80 = .ok (.invokestatic 336, 3) := by decide +kernel
theorem dX10_bidsBy_83 : decode cX10_bidsBy 83 = .ok (.iload_n 3, 1) := by decide +kernel
theorem dX10_bidsBy_84 : decode cX10_bidsBy 84 = .ok (.invokevirtual 333, 3) := by decide +kernel
theorem dX10_bidsBy_87 : decode cX10_bidsBy 87 = .ok (.ireturn, 1) := by decide +kernel
theorem bX10_bidsBy_0 {K : KT} {g : GT} {cm sm : Nat} {cs : Nat × Nat} {fr : Nat} {c0 : Nat} {x1 : Int} {x2 : Int} {x3 : Int} {cl : Nat → List Int → St → Option (Int × St)} {frc : Nat} {r : Int} {σ' : St} (hC : Ctx K g RX10 cX10_bidsBy 4 fr cm sm) (hcs : cs.1 ≤ cm ∧ cs.2 ≤ sm) (h0 : isO 10 c0 = true) (hf : frc + 1 ≤ fr) (hf0 : 1 ≤ fr) (hl0 : ∀ (a0 : Int) (a1 : Int) (a2 : Int) (r : Int) (σ σ' : St), cl 0 [a0, a1, a2] σ = some (r, σ') → Cn (Kl K) g yX10_bidsBy cX10_bidsBy 4 (some .int) frc 0 0 [vr c0, vi a0, vi a1, vi a2] (SH0, σ) (some (vi r)) (SH0, σ')) (hR : RetI K g cX10_bidsBy 4 cs r (SH0, σ')) : ∀ (σ : St), fX10_bidsBy cl c0 x1 x2 x3 σ = some (r, σ') → G K g 4 cs 0 [(0, vr c0), (1, vi x1), (2, vi x2), (3, vi x3)] [] (SH0, σ) := by
  intro σ h
  unfold fX10_bidsBy at h
  refine g_iload_n hC dX10_bidsBy_0 2 rfl rfl ?_
  by_cases h9 : x2 = 0
  · rw [if_pos h9] at h
    refine g_lookup hC dX10_bidsBy_1 (by decide) 35 36 (by (try dsimp only); rw [h9]; rfl) (by decide) ?_
    refine g_aload_n hC dX10_bidsBy_36 0 rfl rfl ?_
    refine g_iconst hC dX10_bidsBy_37 ok_1 ?_
    obtain ⟨s1, e1, h⟩ := of_bind h
    try dsimp only at h
    refine s_callVv hC dX10_bidsBy_38 (tX10_ran h0 e1) miX10_ran mvX10_ran mlRX10_329 (isO_spec h0) vc_10 rfl rfl (Nat.le_of_ble_eq_true rfl) (by omega) (Nat.le_of_ble_eq_true rfl) hcs ?_
    refine g_iload_n hC dX10_bidsBy_41 3 rfl rfl ?_
    refine g_iload_n hC dX10_bidsBy_42 1 rfl rfl ?_
    refine g_iadd hC dX10_bidsBy_43 ?_
    exact ret_i h hR dX10_bidsBy_44
  rw [if_neg h9] at h
  have n2 := h9
  clear h9
  by_cases h9 : x2 = 1
  · rw [if_pos h9] at h
    refine g_lookup hC dX10_bidsBy_1 (by decide) 44 45 (by (try dsimp only); rw [h9]; rfl) (by decide) ?_
    refine g_aload_n hC dX10_bidsBy_45 0 rfl rfl ?_
    refine g_bipush hC dX10_bidsBy_46 bp_20 ?_
    obtain ⟨s3, e3, h⟩ := of_bind h
    try dsimp only at h
    refine s_callVv hC dX10_bidsBy_48 (tX10_ran h0 e3) miX10_ran mvX10_ran mlRX10_329 (isO_spec h0) vc_10 rfl rfl (Nat.le_of_ble_eq_true rfl) (by omega) (Nat.le_of_ble_eq_true rfl) hcs ?_
    refine g_aload_n hC dX10_bidsBy_51 0 rfl rfl ?_
    refine g_iload_n hC dX10_bidsBy_52 1 rfl rfl ?_
    refine g_iconst hC dX10_bidsBy_53 ok_0 ?_
    refine g_iload_n hC dX10_bidsBy_54 3 rfl rfl ?_
    obtain ⟨⟨r4, s4⟩, e4, h⟩ := of_bind h
    try dsimp only at h
    refine s_callVi hC dX10_bidsBy_55 (hl0 _ _ _ _ _ _ e4) miX10_bidsBy mvX10_bidsBy mlRX10_333 (isO_spec h0) vc_10 rfl rfl (Nat.le_of_ble_eq_true rfl) hf (Nat.le_of_ble_eq_true rfl) hcs ?_
    refine g_iconst hC dX10_bidsBy_58 ok_3 ?_
    refine g_iadd hC dX10_bidsBy_59 ?_
    exact ret_i h hR dX10_bidsBy_60
  rw [if_neg h9] at h
  have n5 := h9
  clear h9
  by_cases h9 : x2 = 6
  · rw [if_pos h9] at h
    refine g_lookup hC dX10_bidsBy_1 (by decide) 60 61 (by (try dsimp only); rw [h9]; rfl) (by decide) ?_
    refine g_aload_n hC dX10_bidsBy_61 0 rfl rfl ?_
    refine g_bipush hC dX10_bidsBy_62 bp_70 ?_
    obtain ⟨s6, e6, h⟩ := of_bind h
    try dsimp only at h
    refine s_callVv hC dX10_bidsBy_64 (tX10_ran h0 e6) miX10_ran mvX10_ran mlRX10_329 (isO_spec h0) vc_10 rfl rfl (Nat.le_of_ble_eq_true rfl) (by omega) (Nat.le_of_ble_eq_true rfl) hcs ?_
    refine g_aload_n hC dX10_bidsBy_67 0 rfl rfl ?_
    refine g_iload_n hC dX10_bidsBy_68 1 rfl rfl ?_
    refine g_iconst hC dX10_bidsBy_69 ok_0 ?_
    refine g_iload_n hC dX10_bidsBy_70 3 rfl rfl ?_
    obtain ⟨⟨r7, s7⟩, e7, h⟩ := of_bind h
    try dsimp only at h
    refine s_callVi hC dX10_bidsBy_71 (hl0 _ _ _ _ _ _ e7) miX10_bidsBy mvX10_bidsBy mlRX10_333 (isO_spec h0) vc_10 rfl rfl (Nat.le_of_ble_eq_true rfl) hf (Nat.le_of_ble_eq_true rfl) hcs ?_
    refine g_iconst hC dX10_bidsBy_74 ok_2 ?_
    refine g_imul hC dX10_bidsBy_75 ?_
    exact ret_i h hR dX10_bidsBy_76
  rw [if_neg h9] at h
  have n8 := h9
  clear h9
  refine g_lookup hC dX10_bidsBy_1 (by decide) 76 77 (by simp [Op.lookupswitch.offset, Ne.symm n2, n2, Ne.symm n5, n5, Ne.symm n8, n8]) (by decide) ?_
  refine g_aload_n hC dX10_bidsBy_77 0 rfl rfl ?_
  refine g_iload_n hC dX10_bidsBy_78 1 rfl rfl ?_
  refine g_iload_n hC dX10_bidsBy_79 2 rfl rfl ?_
  obtain ⟨⟨r9, s9⟩, e9, h⟩ := of_bind h
  try dsimp only at h
  refine s_callSi hC dX10_bidsBy_80 (tX10_above e9) miX10_above msX10_above mlRX10_336 rfl rfl (Nat.le_of_ble_eq_true rfl) (by omega) (Nat.le_of_ble_eq_true rfl) hcs ?_
  refine g_iload_n hC dX10_bidsBy_83 3 rfl rfl ?_
  obtain ⟨⟨r10, s10⟩, e10, h⟩ := of_bind h
  try dsimp only at h
  refine s_callVi hC dX10_bidsBy_84 (hl0 _ _ _ _ _ _ e10) miX10_bidsBy mvX10_bidsBy mlRX10_333 (isO_spec h0) vc_10 rfl rfl (Nat.le_of_ble_eq_true rfl) hf (Nat.le_of_ble_eq_true rfl) hcs ?_
  exact ret_i h hR dX10_bidsBy_87
theorem cgX10_bidsBy {l : Launch} {g : GT} {c0 : Nat} (h0 : isO 10 c0 = true) : ∀ d : Nat, ∀ (a0 : Int) (a1 : Int) (a2 : Int) (r : Int) (σ σ' : St), gX10_bidsBy c0 d 0 [a0, a1, a2] σ = some (r, σ') → Cn l g yX10_bidsBy cX10_bidsBy 4 (some .int) (1 + d) 0 0 [vr c0, vi a0, vi a1, vi a2] (SH0, σ) (some (vi r)) (SH0, σ') := by
  intro d
  induction d with
  | zero =>
    · intro a0 a1 a2 r σ σ' h
      rw [gX10_bidsBy_0] at h
      cases h
  | succ d ih =>
    have i0 := ih
    · intro a0 a1 a2 r σ σ' h
      rw [gX10_bidsBy_s] at h
      have h : (fX10_bidsBy (gX10_bidsBy c0 d) c0 a0 a1 a2 σ) = some (r, σ') := h
      exact Cn.ofI (by decide) (Nat.le_of_ble_eq_true rfl) (fun K e hC hR => by
        subst e
        exact bX10_bidsBy_0 hC ⟨Nat.le_refl _, Nat.le_refl _⟩ h0 (frc := 1 + d) (by omega) (by omega) i0 hR _ h)

theorem tX10_bidsBy {l : Launch} {g : GT} {c0 : Nat} {a0 : Int} {a1 : Int} {a2 : Int} {σ σ' : St} {r : Int} (h0 : isO 10 c0 = true) (h : hX10_bidsBy c0 a0 a1 a2 σ = some (r, σ')) : Cn l g yX10_bidsBy cX10_bidsBy 4 (some .int) 201 0 0 [vr c0, vi a0, vi a1, vi a2] (SH0, σ) (some (vi r)) (SH0, σ') := by
  unfold hX10_bidsBy at h
  exact (cgX10_bidsBy h0 DEP) _ _ _ _ _ _ h
theorem dX10_losesBy_0 : decode cX10_losesBy 0 = .ok (.iload_n 2, 1) := by decide +kernel
theorem dX10_losesBy_1 : decode cX10_losesBy 1 = .ok (.tableswitch 92 0 4 #[35, 92, 92, 45, 61], 35) := by decide +kernel
theorem dX10_losesBy_36 : decode cX10_losesBy 36 = .ok (.aload_n 0, 1) := by decide +kernel
theorem dX10_losesBy_37 : decode cX10_losesBy 37 = .ok (.bipush 11, 2) := by decide +kernel
theorem dX10_losesBy_39 : decode cX10_losesBy 39 = .ok (.invokevirtual 329, 3) := by decide +kernel
theorem dX10_losesBy_42 : decode cX10_losesBy 42 = .ok (.iload_n 3, 1) := by decide +kernel
theorem dX10_losesBy_43 : decode cX10_losesBy 43 = .ok (.iload_n 1, 1) := by decide +kernel
theorem dX10_losesBy_44 : decode cX10_losesBy 44 = .ok (.ixor, 1) := by decide +kernel
theorem dX10_losesBy_45 : decode cX10_losesBy 45 = .ok (.ireturn, 1) := by decide +kernel
theorem dX10_losesBy_46 : decode cX10_losesBy 46 = .ok (.aload_n 0, 1) := by decide +kernel
theorem dX10_losesBy_47 : decode cX10_losesBy 47 = .ok (.bipush 40, 2) := by decide +kernel
theorem dX10_losesBy_49 : decode cX10_losesBy 49 = .ok (.invokevirtual 329, 3) := by decide +kernel
theorem dX10_losesBy_52 : decode cX10_losesBy 52 = .ok (.aload_n 0, 1) := by decide +kernel
theorem dX10_losesBy_53 : decode cX10_losesBy 53 = .ok (.iload_n 1, 1) := by decide +kernel
theorem dX10_losesBy_54 : decode cX10_losesBy 54 = .ok (.iconst 2, 1) := by decide +kernel
theorem dX10_losesBy_55 : decode cX10_losesBy 55 = .ok (.iload_n 3, 1) := by decide +kernel
theorem dX10_losesBy_56 : decode cX10_losesBy 56 = .ok (.invokevirtual 342, 3) := by decide +kernel
theorem dX10_losesBy_59 : decode cX10_losesBy 59 = .ok (.iconst 3, 1) := by decide +kernel
theorem dX10_losesBy_60 : decode cX10_losesBy 60 = .ok (.imul, 1) := by decide +kernel
theorem dX10_losesBy_61 : decode cX10_losesBy 61 = .ok (.ireturn, 1) := by decide +kernel
theorem dX10_losesBy_62 : decode cX10_losesBy 62 = .ok (.aload_n 0, 1) := by decide +kernel
theorem dX10_losesBy_63 : decode cX10_losesBy 63 = .ok (.bipush 50, 2) := by decide +kernel
theorem dX10_losesBy_65 : decode cX10_losesBy 65 = .ok (.invokevirtual 329, 3) := by decide +kernel
theorem dX10_losesBy_68 : decode cX10_losesBy 68 = .ok (.aload_n 0, 1) := by decide +kernel
theorem dX10_losesBy_69 : decode cX10_losesBy 69 = .ok (.iload_n 1, 1) := by decide +kernel
theorem dX10_losesBy_70 : decode cX10_losesBy 70 = .ok (.iconst 1, 1) := by decide +kernel
theorem dX10_losesBy_71 : decode cX10_losesBy 71 = .ok (.iload_n 3, 1) := by decide +kernel
theorem dX10_losesBy_72 : decode cX10_losesBy 72 = .ok (.invokevirtual 342, 3) := by decide +kernel
theorem dX10_losesBy_75 : decode cX10_losesBy 75 = .ok (.istore 4, 2) := by decide +kernel
theorem dX10_losesBy_77 : decode cX10_losesBy 77 = .ok (.iload 4, 2) := by decide +kernel
theorem dX10_losesBy_79 : decode cX10_losesBy 79 = .ok (.aload_n 0, 1) := by decide +kernel
theorem dX10_losesBy_80 : decode cX10_losesBy 80 = .ok (.iload_n 1, 1) := by decide +kernel
theorem dX10_losesBy_81 : decode cX10_losesBy 81 = .ok (.aload_n 0, 1) := by decide +kernel
theorem dX10_losesBy_82 : decode cX10_losesBy 82 = .ok (.getfield 72, 3) := by decide +kernel
theorem dX10_losesBy_85 : decode cX10_losesBy 85 = .ok (.iload_n 1, 1) := by decide +kernel
theorem dX10_losesBy_86 : decode cX10_losesBy 86 = .ok (.iaload, 1) := by decide +kernel
theorem dX10_losesBy_87 : decode cX10_losesBy 87 = .ok (.iconst 2, 1) := by decide +kernel
theorem dX10_losesBy_88 : decode cX10_losesBy 88 = .ok (.invokevirtual 333, 3) := by decide +kernel
theorem dX10_losesBy_91 : decode cX10_losesBy 91 = .ok (.isub, 1) := by decide +kernel
theorem dX10_losesBy_92 : decode cX10_losesBy 92 = .ok (.ireturn, 1) := by decide +kernel
theorem dX10_losesBy_93 : decode cX10_losesBy 93 = .ok (.aload_n 0, 1) := by decide +kernel
theorem dX10_losesBy_94 : decode cX10_losesBy 94 = .ok (.iload_n 1, 1) := by decide +kernel
theorem dX10_losesBy_95 : decode cX10_losesBy 95 = .ok (.iload_n 2, 1) := by decide +kernel
theorem dX10_losesBy_96 : decode cX10_losesBy 96 = .ok (.invokestatic 336, 3) := by decide +kernel
theorem dX10_losesBy_99 : decode cX10_losesBy 99 = .ok (.iload_n 3, 1) := by decide +kernel
theorem dX10_losesBy_100 : decode cX10_losesBy 100 = .ok (.invokevirtual 342, 3) := by decide +kernel
theorem dX10_losesBy_103 : decode cX10_losesBy 103 = .ok (.ireturn, 1) := by decide +kernel
theorem bX10_losesBy_0 {K : KT} {g : GT} {cm sm : Nat} {cs : Nat × Nat} {fr : Nat} {c0 : Nat} {x1 : Int} {x2 : Int} {x3 : Int} {cl : Nat → List Int → St → Option (Int × St)} {frc : Nat} {r : Int} {σ' : St} (hC : Ctx K g RX10 cX10_losesBy 5 fr cm sm) (hcs : cs.1 ≤ cm ∧ cs.2 ≤ sm) (h0 : isO 10 c0 = true) (hf : frc + 1 ≤ fr) (hf0 : 202 ≤ fr) (hl0 : ∀ (a0 : Int) (a1 : Int) (a2 : Int) (r : Int) (σ σ' : St), cl 0 [a0, a1, a2] σ = some (r, σ') → Cn (Kl K) g yX10_losesBy cX10_losesBy 5 (some .int) frc 0 0 [vr c0, vi a0, vi a1, vi a2] (SH0, σ) (some (vi r)) (SH0, σ')) (hR : RetI K g cX10_losesBy 5 cs r (SH0, σ')) : ∀ (σ : St), fX10_losesBy cl c0 x1 x2 x3 σ = some (r, σ') → G K g 5 cs 0 [(0, vr c0), (1, vi x1), (2, vi x2), (3, vi x3)] [] (SH0, σ) := by
  intro σ h
  unfold fX10_losesBy at h
  refine g_iload_n hC dX10_losesBy_0 2 rfl rfl ?_
  by_cases h9 : x2 = 0
  · rw [if_pos h9] at h
    refine g_table hC dX10_losesBy_1 36 (Or.inr (by (try dsimp only); rw [h9]; exact ⟨by decide, by decide, 35, rfl, by decide⟩)) ?_
    refine g_aload_n hC dX10_losesBy_36 0 rfl rfl ?_
    refine g_bipush hC dX10_losesBy_37 bp_11 ?_
    obtain ⟨s1, e1, h⟩ := of_bind h
    try dsimp only at h
    refine s_callVv hC dX10_losesBy_39 (tX10_ran h0 e1) miX10_ran mvX10_ran mlRX10_329 (isO_spec h0) vc_10 rfl rfl (Nat.le_of_ble_eq_true rfl) (by omega) (Nat.le_of_ble_eq_true rfl) hcs ?_
    refine g_iload_n hC dX10_losesBy_42 3 rfl rfl ?_
    refine g_iload_n hC dX10_losesBy_43 1 rfl rfl ?_
    refine g_ixor hC dX10_losesBy_44 ?_
    exact ret_i h hR dX10_losesBy_45
  rw [if_neg h9] at h
  have n2 := h9
  clear h9
  by_cases h9 : x2 = 3
  · rw [if_pos h9] at h
    refine g_table hC dX10_losesBy_1 46 (Or.inr (by (try dsimp only); rw [h9]; exact ⟨by decide, by decide, 45, rfl, by decide⟩)) ?_
    refine g_aload_n hC dX10_losesBy_46 0 rfl rfl ?_
    refine g_bipush hC dX10_losesBy_47 bp_40 ?_
    obtain ⟨s3, e3, h⟩ := of_bind h
    try dsimp only at h
    refine s_callVv hC dX10_losesBy_49 (tX10_ran h0 e3) miX10_ran mvX10_ran mlRX10_329 (isO_spec h0) vc_10 rfl rfl (Nat.le_of_ble_eq_true rfl) (by omega) (Nat.le_of_ble_eq_true rfl) hcs ?_
    refine g_aload_n hC dX10_losesBy_52 0 rfl rfl ?_
    refine g_iload_n hC dX10_losesBy_53 1 rfl rfl ?_
    refine g_iconst hC dX10_losesBy_54 ok_2 ?_
    refine g_iload_n hC dX10_losesBy_55 3 rfl rfl ?_
    obtain ⟨⟨r4, s4⟩, e4, h⟩ := of_bind h
    try dsimp only at h
    refine s_callVi hC dX10_losesBy_56 (hl0 _ _ _ _ _ _ e4) miX10_losesBy mvX10_losesBy mlRX10_342 (isO_spec h0) vc_10 rfl rfl (Nat.le_of_ble_eq_true rfl) hf (Nat.le_of_ble_eq_true rfl) hcs ?_
    refine g_iconst hC dX10_losesBy_59 ok_3 ?_
    refine g_imul hC dX10_losesBy_60 ?_
    exact ret_i h hR dX10_losesBy_61
  rw [if_neg h9] at h
  have n5 := h9
  clear h9
  by_cases h9 : x2 = 4
  · rw [if_pos h9] at h
    refine g_table hC dX10_losesBy_1 62 (Or.inr (by (try dsimp only); rw [h9]; exact ⟨by decide, by decide, 61, rfl, by decide⟩)) ?_
    refine g_aload_n hC dX10_losesBy_62 0 rfl rfl ?_
    refine g_bipush hC dX10_losesBy_63 bp_50 ?_
    obtain ⟨s6, e6, h⟩ := of_bind h
    try dsimp only at h
    refine s_callVv hC dX10_losesBy_65 (tX10_ran h0 e6) miX10_ran mvX10_ran mlRX10_329 (isO_spec h0) vc_10 rfl rfl (Nat.le_of_ble_eq_true rfl) (by omega) (Nat.le_of_ble_eq_true rfl) hcs ?_
    refine g_aload_n hC dX10_losesBy_68 0 rfl rfl ?_
    refine g_iload_n hC dX10_losesBy_69 1 rfl rfl ?_
    refine g_iconst hC dX10_losesBy_70 ok_1 ?_
    refine g_iload_n hC dX10_losesBy_71 3 rfl rfl ?_
    obtain ⟨⟨r7, s7⟩, e7, h⟩ := of_bind h
    try dsimp only at h
    refine s_callVi hC dX10_losesBy_72 (hl0 _ _ _ _ _ _ e7) miX10_losesBy mvX10_losesBy mlRX10_342 (isO_spec h0) vc_10 rfl rfl (Nat.le_of_ble_eq_true rfl) hf (Nat.le_of_ble_eq_true rfl) hcs ?_
    refine g_istore hC dX10_losesBy_75 (Nat.le_of_ble_eq_true rfl) rfl ?_
    refine g_iload hC dX10_losesBy_77 0 rfl ?_
    refine g_aload_n hC dX10_losesBy_79 1 rfl rfl ?_
    refine g_iload_n hC dX10_losesBy_80 2 rfl rfl ?_
    refine g_aload_n hC dX10_losesBy_81 1 rfl rfl ?_
    refine g_getr hC dX10_losesBy_82 lfRX10_72 (isO_spec h0) (ft_10_35 h0) ?_
    refine g_iload_n hC dX10_losesBy_85 2 rfl rfl ?_
    obtain ⟨b9, h⟩ := of_ite h
    refine g_iald hC dX10_losesBy_86 (isA_spec (rf_10_35 h0)) b9 ?_
    refine g_iconst hC dX10_losesBy_87 ok_2 ?_
    obtain ⟨⟨r8, s8⟩, e8, h⟩ := of_bind h
    try dsimp only at h
    refine s_callVi hC dX10_losesBy_88 (tX10_bidsBy h0 e8) miX10_bidsBy mvX10_bidsBy mlRX10_333 (isO_spec h0) vc_10 rfl rfl (Nat.le_of_ble_eq_true rfl) (by omega) (Nat.le_of_ble_eq_true rfl) hcs ?_
    refine g_isub hC dX10_losesBy_91 ?_
    exact ret_i h hR dX10_losesBy_92
  rw [if_neg h9] at h
  have n9 := h9
  clear h9
  refine g_table hC dX10_losesBy_1 93 (by
    by_cases z0 : x2 = 1
    · exact Or.inr (by (try dsimp only); rw [z0]; exact ⟨by decide, by decide, 92, rfl, by decide⟩)
    by_cases z1 : x2 = 2
    · exact Or.inr (by (try dsimp only); rw [z1]; exact ⟨by decide, by decide, 92, rfl, by decide⟩)
    exact Or.inl ⟨by (try dsimp only); omega, by decide⟩) ?_
  refine g_aload_n hC dX10_losesBy_93 0 rfl rfl ?_
  refine g_iload_n hC dX10_losesBy_94 1 rfl rfl ?_
  refine g_iload_n hC dX10_losesBy_95 2 rfl rfl ?_
  obtain ⟨⟨r10, s10⟩, e10, h⟩ := of_bind h
  try dsimp only at h
  refine s_callSi hC dX10_losesBy_96 (tX10_above e10) miX10_above msX10_above mlRX10_336 rfl rfl (Nat.le_of_ble_eq_true rfl) (by omega) (Nat.le_of_ble_eq_true rfl) hcs ?_
  refine g_iload_n hC dX10_losesBy_99 3 rfl rfl ?_
  obtain ⟨⟨r11, s11⟩, e11, h⟩ := of_bind h
  try dsimp only at h
  refine s_callVi hC dX10_losesBy_100 (hl0 _ _ _ _ _ _ e11) miX10_losesBy mvX10_losesBy mlRX10_342 (isO_spec h0) vc_10 rfl rfl (Nat.le_of_ble_eq_true rfl) hf (Nat.le_of_ble_eq_true rfl) hcs ?_
  exact ret_i h hR dX10_losesBy_103
theorem cgX10_losesBy {l : Launch} {g : GT} {c0 : Nat} (h0 : isO 10 c0 = true) : ∀ d : Nat, ∀ (a0 : Int) (a1 : Int) (a2 : Int) (r : Int) (σ σ' : St), gX10_losesBy c0 d 0 [a0, a1, a2] σ = some (r, σ') → Cn l g yX10_losesBy cX10_losesBy 5 (some .int) (202 + d) 0 0 [vr c0, vi a0, vi a1, vi a2] (SH0, σ) (some (vi r)) (SH0, σ') := by
  intro d
  induction d with
  | zero =>
    · intro a0 a1 a2 r σ σ' h
      rw [gX10_losesBy_0] at h
      cases h
  | succ d ih =>
    have i0 := ih
    · intro a0 a1 a2 r σ σ' h
      rw [gX10_losesBy_s] at h
      have h : (fX10_losesBy (gX10_losesBy c0 d) c0 a0 a1 a2 σ) = some (r, σ') := h
      exact Cn.ofI (by decide) (Nat.le_of_ble_eq_true rfl) (fun K e hC hR => by
        subst e
        exact bX10_losesBy_0 hC ⟨Nat.le_refl _, Nat.le_refl _⟩ h0 (frc := 202 + d) (by omega) (by omega) i0 hR _ h)

theorem tX10_losesBy {l : Launch} {g : GT} {c0 : Nat} {a0 : Int} {a1 : Int} {a2 : Int} {σ σ' : St} {r : Int} (h0 : isO 10 c0 = true) (h : hX10_losesBy c0 a0 a1 a2 σ = some (r, σ')) : Cn l g yX10_losesBy cX10_losesBy 5 (some .int) 402 0 0 [vr c0, vi a0, vi a1, vi a2] (SH0, σ) (some (vi r)) (SH0, σ') := by
  unfold hX10_losesBy at h
  exact (cgX10_losesBy h0 DEP) _ _ _ _ _ _ h
theorem dX10_missesBy_0 : decode cX10_missesBy 0 = .ok (.iload_n 2, 1) := by decide +kernel
theorem dX10_missesBy_1 : decode cX10_missesBy 1 = .ok (.tableswitch 130 0 7 #[47, 130, 68, 83, 130, 130, 130, 99], 47) := by decide +kernel
theorem dX10_missesBy_48 : decode cX10_missesBy 48 = .ok (.aload_n 0, 1) := by decide +kernel
theorem dX10_missesBy_49 : decode cX10_missesBy 49 = .ok (.bipush 10, 2) := by decide +kernel
theorem dX10_missesBy_51 : decode cX10_missesBy 51 = .ok (.invokevirtual 329, 3) := by decide +kernel
theorem dX10_missesBy_54 : decode cX10_missesBy 54 = .ok (.aload_n 0, 1) := by decide +kernel
theorem dX10_missesBy_55 : decode cX10_missesBy 55 = .ok (.iload_n 1, 1) := by decide +kernel
theorem dX10_missesBy_56 : decode cX10_missesBy 56 = .ok (.aload_n 0, 1) := by decide +kernel
theorem dX10_missesBy_57 : decode cX10_missesBy 57 = .ok (.getfield 72, 3) := by decide +kernel
theorem dX10_missesBy_60 : decode cX10_missesBy 60 = .ok (.iload_n 1, 1) := by decide +kernel
theorem dX10_missesBy_61 : decode cX10_missesBy 61 = .ok (.iaload, 1) := by decide +kernel
theorem dX10_missesBy_62 : decode cX10_missesBy 62 = .ok (.iload_n 3, 1) := by decide +kernel
theorem dX10_missesBy_63 : decode cX10_missesBy 63 = .ok (.invokevirtual 333, 3) := by decide +kernel
theorem dX10_missesBy_66 : decode cX10_missesBy 66 = .ok (.iconst 2, 1) := by decide +kernel
theorem dX10_missesBy_67 : decode cX10_missesBy 67 = .ok (.imul, 1) := by decide +kernel
theorem dX10_missesBy_68 : decode cX10_missesBy 68 = .ok (.ireturn, 1) := by decide +kernel
theorem dX10_missesBy_69 : decode cX10_missesBy 69 = .ok (.aload_n 0, 1) := by decide +kernel
theorem dX10_missesBy_70 : decode cX10_missesBy 70 = .ok (.bipush 30, 2) := by decide +kernel
theorem dX10_missesBy_72 : decode cX10_missesBy 72 = .ok (.invokevirtual 329, 3) := by decide +kernel
theorem dX10_missesBy_75 : decode cX10_missesBy 75 = .ok (.aload_n 0, 1) := by decide +kernel
theorem dX10_missesBy_76 : decode cX10_missesBy 76 = .ok (.iload_n 1, 1) := by decide +kernel
theorem dX10_missesBy_77 : decode cX10_missesBy 77 = .ok (.iconst 0, 1) := by decide +kernel
theorem dX10_missesBy_78 : decode cX10_missesBy 78 = .ok (.iload_n 3, 1) := by decide +kernel
theorem dX10_missesBy_79 : decode cX10_missesBy 79 = .ok (.invokevirtual 339, 3) := by decide +kernel
theorem dX10_missesBy_82 : decode cX10_missesBy 82 = .ok (.ineg, 1) := by decide +kernel
theorem dX10_missesBy_83 : decode cX10_missesBy 83 = .ok (.ireturn, 1) := by decide +kernel
theorem dX10_missesBy_84 : decode cX10_missesBy 84 = .ok (.aload_n 0, 1) := by decide +kernel
theorem dX10_missesBy_85 : decode cX10_missesBy 85 = .ok (.bipush 41, 2) := by decide +kernel
theorem dX10_missesBy_87 : decode cX10_missesBy 87 = .ok (.invokevirtual 329, 3) := by decide +kernel
theorem dX10_missesBy_90 : decode cX10_missesBy 90 = .ok (.aload_n 0, 1) := by decide +kernel
theorem dX10_missesBy_91 : decode cX10_missesBy 91 = .ok (.iload_n 1, 1) := by decide +kernel
theorem dX10_missesBy_92 : decode cX10_missesBy 92 = .ok (.iconst 2, 1) := by decide +kernel
theorem dX10_missesBy_93 : decode cX10_missesBy 93 = .ok (.iload_n 3, 1) := by decide +kernel
theorem dX10_missesBy_94 : decode cX10_missesBy 94 = .ok (.iconst 1, 1) := by decide +kernel
theorem dX10_missesBy_95 : decode cX10_missesBy 95 = .ok (.iadd, 1) := by decide +kernel
theorem dX10_missesBy_96 : decode cX10_missesBy 96 = .ok (.invokevirtual 339, 3) := by decide +kernel
theorem dX10_missesBy_99 : decode cX10_missesBy 99 = .ok (.ireturn, 1) := by decide +kernel
theorem dX10_missesBy_100 : decode cX10_missesBy 100 = .ok (.aload_n 0, 1) := by decide +kernel
theorem dX10_missesBy_101 : decode cX10_missesBy 101 = .ok (.bipush 80, 2) := by decide +kernel
theorem dX10_missesBy_103 : decode cX10_missesBy 103 = .ok (.invokevirtual 329, 3) := by decide +kernel
theorem dX10_missesBy_106 : decode cX10_missesBy 106 = .ok (.aload_n 0, 1) := by decide +kernel
theorem dX10_missesBy_107 : decode cX10_missesBy 107 = .ok (.iload_n 1, 1) := by decide +kernel
theorem dX10_missesBy_108 : decode cX10_missesBy 108 = .ok (.iconst 4, 1) := by decide +kernel
theorem dX10_missesBy_109 : decode cX10_missesBy 109 = .ok (.iload_n 3, 1) := by decide +kernel
theorem dX10_missesBy_110 : decode cX10_missesBy 110 = .ok (.invokevirtual 339, 3) := by decide +kernel
theorem dX10_missesBy_113 : decode cX10_missesBy 113 = .ok (.istore 4, 2) := by decide +kernel
theorem dX10_missesBy_115 : decode cX10_missesBy 115 = .ok (.iload 4, 2) := by decide +kernel
theorem dX10_missesBy_117 : decode cX10_missesBy 117 = .ok (.aload_n 0, 1) := by decide +kernel
theorem dX10_missesBy_118 : decode cX10_missesBy 118 = .ok (.iload_n 1, 1) := by decide +kernel
theorem dX10_missesBy_119 : decode cX10_missesBy 119 = .ok (.aload_n 0, 1) := by decide +kernel
theorem dX10_missesBy_120 : decode cX10_missesBy 120 = .ok (.getfield 72, 3) := by decide +kernel
theorem dX10_missesBy_123 : decode cX10_missesBy 123 = .ok (.iload_n 1, 1) := by decide +kernel
theorem dX10_missesBy_124 : decode cX10_missesBy 124 = .ok (.iaload, 1) := by decide +kernel
theorem dX10_missesBy_125 : decode cX10_missesBy 125 = .ok (.iconst 2, 1) := by decide +kernel
theorem dX10_missesBy_126 : decode cX10_missesBy 126 = .ok (.invokevirtual 342, 3) := by decide +kernel
theorem dX10_missesBy_129 : decode cX10_missesBy 129 = .ok (.iadd, 1) := by decide +kernel
theorem dX10_missesBy_130 : decode cX10_missesBy 130 = .ok (.ireturn, 1) := by decide +kernel
theorem dX10_missesBy_131 : decode cX10_missesBy 131 = .ok (.aload_n 0, 1) := by decide +kernel
theorem dX10_missesBy_132 : decode cX10_missesBy 132 = .ok (.iload_n 1, 1) := by decide +kernel
theorem dX10_missesBy_133 : decode cX10_missesBy 133 = .ok (.iload_n 2, 1) := by decide +kernel
theorem dX10_missesBy_134 : decode cX10_missesBy 134 = .ok (.invokestatic 336, 3) := by decide +kernel
theorem dX10_missesBy_137 : decode cX10_missesBy 137 = .ok (.iload_n 3, 1) := by decide +kernel
theorem dX10_missesBy_138 : decode cX10_missesBy 138 = .ok (.invokevirtual 339, 3) := by decide +kernel
theorem dX10_missesBy_141 : decode cX10_missesBy 141 = .ok (.ireturn, 1) := by decide +kernel
theorem bX10_missesBy_0 {K : KT} {g : GT} {cm sm : Nat} {cs : Nat × Nat} {fr : Nat} {c0 : Nat} {x1 : Int} {x2 : Int} {x3 : Int} {cl : Nat → List Int → St → Option (Int × St)} {frc : Nat} {r : Int} {σ' : St} (hC : Ctx K g RX10 cX10_missesBy 5 fr cm sm) (hcs : cs.1 ≤ cm ∧ cs.2 ≤ sm) (h0 : isO 10 c0 = true) (hf : frc + 1 ≤ fr) (hf0 : 403 ≤ fr) (hl0 : ∀ (a0 : Int) (a1 : Int) (a2 : Int) (r : Int) (σ σ' : St), cl 0 [a0, a1, a2] σ = some (r, σ') → Cn (Kl K) g yX10_missesBy cX10_missesBy 5 (some .int) frc 0 0 [vr c0, vi a0, vi a1, vi a2] (SH0, σ) (some (vi r)) (SH0, σ')) (hR : RetI K g cX10_missesBy 5 cs r (SH0, σ')) : ∀ (σ : St), fX10_missesBy cl c0 x1 x2 x3 σ = some (r, σ') → G K g 5 cs 0 [(0, vr c0), (1, vi x1), (2, vi x2), (3, vi x3)] [] (SH0, σ) := by
  intro σ h
  unfold fX10_missesBy at h
  refine g_iload_n hC dX10_missesBy_0 2 rfl rfl ?_
  by_cases h9 : x2 = 0
  · rw [if_pos h9] at h
    refine g_table hC dX10_missesBy_1 48 (Or.inr (by (try dsimp only); rw [h9]; exact ⟨by decide, by decide, 47, rfl, by decide⟩)) ?_
    refine g_aload_n hC dX10_missesBy_48 0 rfl rfl ?_
    refine g_bipush hC dX10_missesBy_49 bp_10 ?_
    obtain ⟨s1, e1, h⟩ := of_bind h
    try dsimp only at h
    refine s_callVv hC dX10_missesBy_51 (tX10_ran h0 e1) miX10_ran mvX10_ran mlRX10_329 (isO_spec h0) vc_10 rfl rfl (Nat.le_of_ble_eq_true rfl) (by omega) (Nat.le_of_ble_eq_true rfl) hcs ?_
    refine g_aload_n hC dX10_missesBy_54 0 rfl rfl ?_
    refine g_iload_n hC dX10_missesBy_55 1 rfl rfl ?_
    refine g_aload_n hC dX10_missesBy_56 0 rfl rfl ?_
    refine g_getr hC dX10_missesBy_57 lfRX10_72 (isO_spec h0) (ft_10_35 h0) ?_
    refine g_iload_n hC dX10_missesBy_60 1 rfl rfl ?_
    obtain ⟨b9, h⟩ := of_ite h
    refine g_iald hC dX10_missesBy_61 (isA_spec (rf_10_35 h0)) b9 ?_
    refine g_iload_n hC dX10_missesBy_62 3 rfl rfl ?_
    obtain ⟨⟨r2, s2⟩, e2, h⟩ := of_bind h
    try dsimp only at h
    refine s_callVi hC dX10_missesBy_63 (tX10_bidsBy h0 e2) miX10_bidsBy mvX10_bidsBy mlRX10_333 (isO_spec h0) vc_10 rfl rfl (Nat.le_of_ble_eq_true rfl) (by omega) (Nat.le_of_ble_eq_true rfl) hcs ?_
    refine g_iconst hC dX10_missesBy_66 ok_2 ?_
    refine g_imul hC dX10_missesBy_67 ?_
    exact ret_i h hR dX10_missesBy_68
  rw [if_neg h9] at h
  have n3 := h9
  clear h9
  by_cases h9 : x2 = 2
  · rw [if_pos h9] at h
    refine g_table hC dX10_missesBy_1 69 (Or.inr (by (try dsimp only); rw [h9]; exact ⟨by decide, by decide, 68, rfl, by decide⟩)) ?_
    refine g_aload_n hC dX10_missesBy_69 0 rfl rfl ?_
    refine g_bipush hC dX10_missesBy_70 bp_30 ?_
    obtain ⟨s4, e4, h⟩ := of_bind h
    try dsimp only at h
    refine s_callVv hC dX10_missesBy_72 (tX10_ran h0 e4) miX10_ran mvX10_ran mlRX10_329 (isO_spec h0) vc_10 rfl rfl (Nat.le_of_ble_eq_true rfl) (by omega) (Nat.le_of_ble_eq_true rfl) hcs ?_
    refine g_aload_n hC dX10_missesBy_75 0 rfl rfl ?_
    refine g_iload_n hC dX10_missesBy_76 1 rfl rfl ?_
    refine g_iconst hC dX10_missesBy_77 ok_0 ?_
    refine g_iload_n hC dX10_missesBy_78 3 rfl rfl ?_
    obtain ⟨⟨r5, s5⟩, e5, h⟩ := of_bind h
    try dsimp only at h
    refine s_callVi hC dX10_missesBy_79 (hl0 _ _ _ _ _ _ e5) miX10_missesBy mvX10_missesBy mlRX10_339 (isO_spec h0) vc_10 rfl rfl (Nat.le_of_ble_eq_true rfl) hf (Nat.le_of_ble_eq_true rfl) hcs ?_
    refine g_ineg hC dX10_missesBy_82 ?_
    exact ret_i h hR dX10_missesBy_83
  rw [if_neg h9] at h
  have n6 := h9
  clear h9
  by_cases h9 : x2 = 3
  · rw [if_pos h9] at h
    refine g_table hC dX10_missesBy_1 84 (Or.inr (by (try dsimp only); rw [h9]; exact ⟨by decide, by decide, 83, rfl, by decide⟩)) ?_
    refine g_aload_n hC dX10_missesBy_84 0 rfl rfl ?_
    refine g_bipush hC dX10_missesBy_85 bp_41 ?_
    obtain ⟨s7, e7, h⟩ := of_bind h
    try dsimp only at h
    refine s_callVv hC dX10_missesBy_87 (tX10_ran h0 e7) miX10_ran mvX10_ran mlRX10_329 (isO_spec h0) vc_10 rfl rfl (Nat.le_of_ble_eq_true rfl) (by omega) (Nat.le_of_ble_eq_true rfl) hcs ?_
    refine g_aload_n hC dX10_missesBy_90 0 rfl rfl ?_
    refine g_iload_n hC dX10_missesBy_91 1 rfl rfl ?_
    refine g_iconst hC dX10_missesBy_92 ok_2 ?_
    refine g_iload_n hC dX10_missesBy_93 3 rfl rfl ?_
    refine g_iconst hC dX10_missesBy_94 ok_1 ?_
    refine g_iadd hC dX10_missesBy_95 ?_
    obtain ⟨⟨r8, s8⟩, e8, h⟩ := of_bind h
    try dsimp only at h
    refine s_callVi hC dX10_missesBy_96 (hl0 _ _ _ _ _ _ e8) miX10_missesBy mvX10_missesBy mlRX10_339 (isO_spec h0) vc_10 rfl rfl (Nat.le_of_ble_eq_true rfl) hf (Nat.le_of_ble_eq_true rfl) hcs ?_
    exact ret_i h hR dX10_missesBy_99
  rw [if_neg h9] at h
  have n9 := h9
  clear h9
  by_cases h9 : x2 = 7
  · rw [if_pos h9] at h
    refine g_table hC dX10_missesBy_1 100 (Or.inr (by (try dsimp only); rw [h9]; exact ⟨by decide, by decide, 99, rfl, by decide⟩)) ?_
    refine g_aload_n hC dX10_missesBy_100 0 rfl rfl ?_
    refine g_bipush hC dX10_missesBy_101 bp_80 ?_
    obtain ⟨s10, e10, h⟩ := of_bind h
    try dsimp only at h
    refine s_callVv hC dX10_missesBy_103 (tX10_ran h0 e10) miX10_ran mvX10_ran mlRX10_329 (isO_spec h0) vc_10 rfl rfl (Nat.le_of_ble_eq_true rfl) (by omega) (Nat.le_of_ble_eq_true rfl) hcs ?_
    refine g_aload_n hC dX10_missesBy_106 0 rfl rfl ?_
    refine g_iload_n hC dX10_missesBy_107 1 rfl rfl ?_
    refine g_iconst hC dX10_missesBy_108 ok_4 ?_
    refine g_iload_n hC dX10_missesBy_109 3 rfl rfl ?_
    obtain ⟨⟨r11, s11⟩, e11, h⟩ := of_bind h
    try dsimp only at h
    refine s_callVi hC dX10_missesBy_110 (hl0 _ _ _ _ _ _ e11) miX10_missesBy mvX10_missesBy mlRX10_339 (isO_spec h0) vc_10 rfl rfl (Nat.le_of_ble_eq_true rfl) hf (Nat.le_of_ble_eq_true rfl) hcs ?_
    refine g_istore hC dX10_missesBy_113 (Nat.le_of_ble_eq_true rfl) rfl ?_
    refine g_iload hC dX10_missesBy_115 0 rfl ?_
    refine g_aload_n hC dX10_missesBy_117 1 rfl rfl ?_
    refine g_iload_n hC dX10_missesBy_118 2 rfl rfl ?_
    refine g_aload_n hC dX10_missesBy_119 1 rfl rfl ?_
    refine g_getr hC dX10_missesBy_120 lfRX10_72 (isO_spec h0) (ft_10_35 h0) ?_
    refine g_iload_n hC dX10_missesBy_123 2 rfl rfl ?_
    obtain ⟨b9, h⟩ := of_ite h
    refine g_iald hC dX10_missesBy_124 (isA_spec (rf_10_35 h0)) b9 ?_
    refine g_iconst hC dX10_missesBy_125 ok_2 ?_
    obtain ⟨⟨r12, s12⟩, e12, h⟩ := of_bind h
    try dsimp only at h
    refine s_callVi hC dX10_missesBy_126 (tX10_losesBy h0 e12) miX10_losesBy mvX10_losesBy mlRX10_342 (isO_spec h0) vc_10 rfl rfl (Nat.le_of_ble_eq_true rfl) (by omega) (Nat.le_of_ble_eq_true rfl) hcs ?_
    refine g_iadd hC dX10_missesBy_129 ?_
    exact ret_i h hR dX10_missesBy_130
  rw [if_neg h9] at h
  have n13 := h9
  clear h9
  refine g_table hC dX10_missesBy_1 131 (by
    by_cases z0 : x2 = 1
    · exact Or.inr (by (try dsimp only); rw [z0]; exact ⟨by decide, by decide, 130, rfl, by decide⟩)
    by_cases z1 : x2 = 4
    · exact Or.inr (by (try dsimp only); rw [z1]; exact ⟨by decide, by decide, 130, rfl, by decide⟩)
    by_cases z2 : x2 = 5
    · exact Or.inr (by (try dsimp only); rw [z2]; exact ⟨by decide, by decide, 130, rfl, by decide⟩)
    by_cases z3 : x2 = 6
    · exact Or.inr (by (try dsimp only); rw [z3]; exact ⟨by decide, by decide, 130, rfl, by decide⟩)
    exact Or.inl ⟨by (try dsimp only); omega, by decide⟩) ?_
  refine g_aload_n hC dX10_missesBy_131 0 rfl rfl ?_
  refine g_iload_n hC dX10_missesBy_132 1 rfl rfl ?_
  refine g_iload_n hC dX10_missesBy_133 2 rfl rfl ?_
  obtain ⟨⟨r14, s14⟩, e14, h⟩ := of_bind h
  try dsimp only at h
  refine s_callSi hC dX10_missesBy_134 (tX10_above e14) miX10_above msX10_above mlRX10_336 rfl rfl (Nat.le_of_ble_eq_true rfl) (by omega) (Nat.le_of_ble_eq_true rfl) hcs ?_
  refine g_iload_n hC dX10_missesBy_137 3 rfl rfl ?_
  obtain ⟨⟨r15, s15⟩, e15, h⟩ := of_bind h
  try dsimp only at h
  refine s_callVi hC dX10_missesBy_138 (hl0 _ _ _ _ _ _ e15) miX10_missesBy mvX10_missesBy mlRX10_339 (isO_spec h0) vc_10 rfl rfl (Nat.le_of_ble_eq_true rfl) hf (Nat.le_of_ble_eq_true rfl) hcs ?_
  exact ret_i h hR dX10_missesBy_141
theorem cgX10_missesBy {l : Launch} {g : GT} {c0 : Nat} (h0 : isO 10 c0 = true) : ∀ d : Nat, ∀ (a0 : Int) (a1 : Int) (a2 : Int) (r : Int) (σ σ' : St), gX10_missesBy c0 d 0 [a0, a1, a2] σ = some (r, σ') → Cn l g yX10_missesBy cX10_missesBy 5 (some .int) (403 + d) 0 0 [vr c0, vi a0, vi a1, vi a2] (SH0, σ) (some (vi r)) (SH0, σ') := by
  intro d
  induction d with
  | zero =>
    · intro a0 a1 a2 r σ σ' h
      rw [gX10_missesBy_0] at h
      cases h
  | succ d ih =>
    have i0 := ih
    · intro a0 a1 a2 r σ σ' h
      rw [gX10_missesBy_s] at h
      have h : (fX10_missesBy (gX10_missesBy c0 d) c0 a0 a1 a2 σ) = some (r, σ') := h
      exact Cn.ofI (by decide) (Nat.le_of_ble_eq_true rfl) (fun K e hC hR => by
        subst e
        exact bX10_missesBy_0 hC ⟨Nat.le_refl _, Nat.le_refl _⟩ h0 (frc := 403 + d) (by omega) (by omega) i0 hR _ h)

theorem tX10_missesBy {l : Launch} {g : GT} {c0 : Nat} {a0 : Int} {a1 : Int} {a2 : Int} {σ σ' : St} {r : Int} (h0 : isO 10 c0 = true) (h : hX10_missesBy c0 a0 a1 a2 σ = some (r, σ')) : Cn l g yX10_missesBy cX10_missesBy 5 (some .int) 603 0 0 [vr c0, vi a0, vi a1, vi a2] (SH0, σ) (some (vi r)) (SH0, σ') := by
  unfold hX10_missesBy at h
  exact (cgX10_missesBy h0 DEP) _ _ _ _ _ _ h
theorem dX10_tells_0 : decode cX10_tells 0 = .ok (.iload_n 2, 1) := by decide +kernel
theorem dX10_tells_1 : decode cX10_tells 1 = .ok (.lookupswitch 102 #[(0, 35), (5, 70), (7, 86)], 35) := by decide +kernel
theorem dX10_tells_36 : decode cX10_tells 36 = .ok (.aload_n 0, 1) := by decide +kernel
theorem dX10_tells_37 : decode cX10_tells 37 = .ok (.iconst 2, 1) := by decide +kernel
theorem dX10_tells_38 : decode cX10_tells 38 = .ok (.invokevirtual 329, 3) := by decide +kernel
theorem dX10_tells_41 : decode cX10_tells 41 = .ok (.aload_n 0, 1) := by decide +kernel
theorem dX10_tells_42 : decode cX10_tells 42 = .ok (.iload_n 1, 1) := by decide +kernel
theorem dX10_tells_43 : decode cX10_tells 43 = .ok (.aload_n 0, 1) := by decide +kernel
theorem dX10_tells_44 : decode cX10_tells 44 = .ok (.getfield 72, 3) := by decide +kernel
theorem dX10_tells_47 : decode cX10_tells 47 = .ok (.iload_n 1, 1) := by decide +kernel
theorem dX10_tells_48 : decode cX10_tells 48 = .ok (.iaload, 1) := by decide +kernel
theorem dX10_tells_49 : decode cX10_tells 49 = .ok (.iload_n 3, 1) := by decide +kernel
theorem dX10_tells_50 : decode cX10_tells 50 = .ok (.invokevirtual 339, 3) := by decide +kernel
theorem dX10_tells_53 : decode cX10_tells 53 = .ok (.istore 4, 2) := by decide +kernel
theorem dX10_tells_55 : decode cX10_tells 55 = .ok (.iload 4, 2) := by decide +kernel
theorem dX10_tells_57 : decode cX10_tells 57 = .ok (.aload_n 0, 1) := by decide +kernel
theorem dX10_tells_58 : decode cX10_tells 58 = .ok (.iload_n 1, 1) := by decide +kernel
theorem dX10_tells_59 : decode cX10_tells 59 = .ok (.aload_n 0, 1) := by decide +kernel
theorem dX10_tells_60 : decode cX10_tells 60 = .ok (.getfield 72, 3) := by decide +kernel
theorem dX10_tells_63 : decode cX10_tells 63 = .ok (.iload_n 1, 1) := by decide +kernel
theorem dX10_tells_64 : decode cX10_tells 64 = .ok (.iaload, 1) := by decide +kernel
theorem dX10_tells_65 : decode cX10_tells 65 = .ok (.iconst 1, 1) := by decide +kernel
theorem dX10_tells_66 : decode cX10_tells 66 = .ok (.invokevirtual 342, 3) := by decide +kernel
theorem dX10_tells_69 : decode cX10_tells 69 = .ok (.isub, 1) := by decide +kernel
theorem dX10_tells_70 : decode cX10_tells 70 = .ok (.ireturn, 1) := by decide +kernel
theorem dX10_tells_71 : decode cX10_tells 71 = .ok (.aload_n 0, 1) := by decide +kernel
theorem dX10_tells_72 : decode cX10_tells 72 = .ok (.bipush 60, 2) := by decide +kernel
theorem dX10_tells_74 : decode cX10_tells 74 = .ok (.invokevirtual 329, 3) := by decide +kernel
theorem dX10_tells_77 : decode cX10_tells 77 = .ok (.aload_n 0, 1) := by decide +kernel
theorem dX10_tells_78 : decode cX10_tells 78 = .ok (.iload_n 1, 1) := by decide +kernel
theorem dX10_tells_79 : decode cX10_tells 79 = .ok (.iconst 3, 1) := by decide +kernel
theorem dX10_tells_80 : decode cX10_tells 80 = .ok (.iload_n 3, 1) := by decide +kernel
theorem dX10_tells_81 : decode cX10_tells 81 = .ok (.invokevirtual 345, 3) := by decide +kernel
theorem dX10_tells_84 : decode cX10_tells 84 = .ok (.iconst 5, 1) := by decide +kernel
theorem dX10_tells_85 : decode cX10_tells 85 = .ok (.ixor, 1) := by decide +kernel
theorem dX10_tells_86 : decode cX10_tells 86 = .ok (.ireturn, 1) := by decide +kernel
theorem dX10_tells_87 : decode cX10_tells 87 = .ok (.aload_n 0, 1) := by decide +kernel
theorem dX10_tells_88 : decode cX10_tells 88 = .ok (.bipush 81, 2) := by decide +kernel
theorem dX10_tells_90 : decode cX10_tells 90 = .ok (.invokevirtual 329, 3) := by decide +kernel
theorem dX10_tells_93 : decode cX10_tells 93 = .ok (.aload_n 0, 1) := by decide +kernel
theorem dX10_tells_94 : decode cX10_tells 94 = .ok (.iload_n 1, 1) := by decide +kernel
theorem dX10_tells_95 : decode cX10_tells 95 = .ok (.iconst 4, 1) := by decide +kernel
theorem dX10_tells_96 : decode cX10_tells 96 = .ok (.iload_n 3, 1) := by decide +kernel
theorem dX10_tells_97 : decode cX10_tells 97 = .ok (.invokevirtual 345, 3) := by decide +kernel
theorem dX10_tells_100 : decode cX10_tells 100 = .ok (.iconst 1, 1) := by decide +kernel
theorem dX10_tells_101 : decode cX10_tells 101 = .ok (.isub, 1) := by decide +kernel
theorem dX10_tells_102 : decode cX10_tells 102 = .ok (.ireturn, 1) := by decide +kernel
theorem dX10_tells_103 : decode cX10_tells 103 = .ok (.aload_n 0, 1) := by decide +kernel
theorem dX10_tells_104 : decode cX10_tells 104 = .ok (.iload_n 1, 1) := by decide +kernel
theorem dX10_tells_105 : decode cX10_tells 105 = .ok (.iload_n 2, 1) := by decide +kernel
theorem dX10_tells_106 : decode cX10_tells 106 = .ok (.invokestatic 336, 3) := by decide +kernel
theorem dX10_tells_109 : decode cX10_tells 109 = .ok (.iload_n 3, 1) := by decide +kernel
theorem dX10_tells_110 : decode cX10_tells 110 = .ok (.invokevirtual 345, 3) := by decide +kernel
theorem dX10_tells_113 : decode cX10_tells 113 = .ok (.ireturn, 1) := by decide +kernel
theorem bX10_tells_0 {K : KT} {g : GT} {cm sm : Nat} {cs : Nat × Nat} {fr : Nat} {c0 : Nat} {x1 : Int} {x2 : Int} {x3 : Int} {cl : Nat → List Int → St → Option (Int × St)} {frc : Nat} {r : Int} {σ' : St} (hC : Ctx K g RX10 cX10_tells 5 fr cm sm) (hcs : cs.1 ≤ cm ∧ cs.2 ≤ sm) (h0 : isO 10 c0 = true) (hf : frc + 1 ≤ fr) (hf0 : 604 ≤ fr) (hl0 : ∀ (a0 : Int) (a1 : Int) (a2 : Int) (r : Int) (σ σ' : St), cl 0 [a0, a1, a2] σ = some (r, σ') → Cn (Kl K) g yX10_tells cX10_tells 5 (some .int) frc 0 0 [vr c0, vi a0, vi a1, vi a2] (SH0, σ) (some (vi r)) (SH0, σ')) (hR : RetI K g cX10_tells 5 cs r (SH0, σ')) : ∀ (σ : St), fX10_tells cl c0 x1 x2 x3 σ = some (r, σ') → G K g 5 cs 0 [(0, vr c0), (1, vi x1), (2, vi x2), (3, vi x3)] [] (SH0, σ) := by
  intro σ h
  unfold fX10_tells at h
  refine g_iload_n hC dX10_tells_0 2 rfl rfl ?_
  by_cases h9 : x2 = 0
  · rw [if_pos h9] at h
    refine g_lookup hC dX10_tells_1 (by decide) 35 36 (by (try dsimp only); rw [h9]; rfl) (by decide) ?_
    refine g_aload_n hC dX10_tells_36 0 rfl rfl ?_
    refine g_iconst hC dX10_tells_37 ok_2 ?_
    obtain ⟨s1, e1, h⟩ := of_bind h
    try dsimp only at h
    refine s_callVv hC dX10_tells_38 (tX10_ran h0 e1) miX10_ran mvX10_ran mlRX10_329 (isO_spec h0) vc_10 rfl rfl (Nat.le_of_ble_eq_true rfl) (by omega) (Nat.le_of_ble_eq_true rfl) hcs ?_
    refine g_aload_n hC dX10_tells_41 0 rfl rfl ?_
    refine g_iload_n hC dX10_tells_42 1 rfl rfl ?_
    refine g_aload_n hC dX10_tells_43 0 rfl rfl ?_
    refine g_getr hC dX10_tells_44 lfRX10_72 (isO_spec h0) (ft_10_35 h0) ?_
    refine g_iload_n hC dX10_tells_47 1 rfl rfl ?_
    obtain ⟨b9, h⟩ := of_ite h
    refine g_iald hC dX10_tells_48 (isA_spec (rf_10_35 h0)) b9 ?_
    refine g_iload_n hC dX10_tells_49 3 rfl rfl ?_
    obtain ⟨⟨r2, s2⟩, e2, h⟩ := of_bind h
    try dsimp only at h
    refine s_callVi hC dX10_tells_50 (tX10_missesBy h0 e2) miX10_missesBy mvX10_missesBy mlRX10_339 (isO_spec h0) vc_10 rfl rfl (Nat.le_of_ble_eq_true rfl) (by omega) (Nat.le_of_ble_eq_true rfl) hcs ?_
    refine g_istore hC dX10_tells_53 (Nat.le_of_ble_eq_true rfl) rfl ?_
    refine g_iload hC dX10_tells_55 0 rfl ?_
    refine g_aload_n hC dX10_tells_57 1 rfl rfl ?_
    refine g_iload_n hC dX10_tells_58 2 rfl rfl ?_
    refine g_aload_n hC dX10_tells_59 1 rfl rfl ?_
    refine g_getr hC dX10_tells_60 lfRX10_72 (isO_spec h0) (ft_10_35 h0) ?_
    refine g_iload_n hC dX10_tells_63 2 rfl rfl ?_
    obtain ⟨b9, h⟩ := of_ite h
    refine g_iald hC dX10_tells_64 (isA_spec (rf_10_35 h0)) b9 ?_
    refine g_iconst hC dX10_tells_65 ok_1 ?_
    obtain ⟨⟨r3, s3⟩, e3, h⟩ := of_bind h
    try dsimp only at h
    refine s_callVi hC dX10_tells_66 (tX10_losesBy h0 e3) miX10_losesBy mvX10_losesBy mlRX10_342 (isO_spec h0) vc_10 rfl rfl (Nat.le_of_ble_eq_true rfl) (by omega) (Nat.le_of_ble_eq_true rfl) hcs ?_
    refine g_isub hC dX10_tells_69 ?_
    exact ret_i h hR dX10_tells_70
  rw [if_neg h9] at h
  have n4 := h9
  clear h9
  by_cases h9 : x2 = 5
  · rw [if_pos h9] at h
    refine g_lookup hC dX10_tells_1 (by decide) 70 71 (by (try dsimp only); rw [h9]; rfl) (by decide) ?_
    refine g_aload_n hC dX10_tells_71 0 rfl rfl ?_
    refine g_bipush hC dX10_tells_72 bp_60 ?_
    obtain ⟨s5, e5, h⟩ := of_bind h
    try dsimp only at h
    refine s_callVv hC dX10_tells_74 (tX10_ran h0 e5) miX10_ran mvX10_ran mlRX10_329 (isO_spec h0) vc_10 rfl rfl (Nat.le_of_ble_eq_true rfl) (by omega) (Nat.le_of_ble_eq_true rfl) hcs ?_
    refine g_aload_n hC dX10_tells_77 0 rfl rfl ?_
    refine g_iload_n hC dX10_tells_78 1 rfl rfl ?_
    refine g_iconst hC dX10_tells_79 ok_3 ?_
    refine g_iload_n hC dX10_tells_80 3 rfl rfl ?_
    obtain ⟨⟨r6, s6⟩, e6, h⟩ := of_bind h
    try dsimp only at h
    refine s_callVi hC dX10_tells_81 (hl0 _ _ _ _ _ _ e6) miX10_tells mvX10_tells mlRX10_345 (isO_spec h0) vc_10 rfl rfl (Nat.le_of_ble_eq_true rfl) hf (Nat.le_of_ble_eq_true rfl) hcs ?_
    refine g_iconst hC dX10_tells_84 ok_5 ?_
    refine g_ixor hC dX10_tells_85 ?_
    exact ret_i h hR dX10_tells_86
  rw [if_neg h9] at h
  have n7 := h9
  clear h9
  by_cases h9 : x2 = 7
  · rw [if_pos h9] at h
    refine g_lookup hC dX10_tells_1 (by decide) 86 87 (by (try dsimp only); rw [h9]; rfl) (by decide) ?_
    refine g_aload_n hC dX10_tells_87 0 rfl rfl ?_
    refine g_bipush hC dX10_tells_88 bp_81 ?_
    obtain ⟨s8, e8, h⟩ := of_bind h
    try dsimp only at h
    refine s_callVv hC dX10_tells_90 (tX10_ran h0 e8) miX10_ran mvX10_ran mlRX10_329 (isO_spec h0) vc_10 rfl rfl (Nat.le_of_ble_eq_true rfl) (by omega) (Nat.le_of_ble_eq_true rfl) hcs ?_
    refine g_aload_n hC dX10_tells_93 0 rfl rfl ?_
    refine g_iload_n hC dX10_tells_94 1 rfl rfl ?_
    refine g_iconst hC dX10_tells_95 ok_4 ?_
    refine g_iload_n hC dX10_tells_96 3 rfl rfl ?_
    obtain ⟨⟨r9, s9⟩, e9, h⟩ := of_bind h
    try dsimp only at h
    refine s_callVi hC dX10_tells_97 (hl0 _ _ _ _ _ _ e9) miX10_tells mvX10_tells mlRX10_345 (isO_spec h0) vc_10 rfl rfl (Nat.le_of_ble_eq_true rfl) hf (Nat.le_of_ble_eq_true rfl) hcs ?_
    refine g_iconst hC dX10_tells_100 ok_1 ?_
    refine g_isub hC dX10_tells_101 ?_
    exact ret_i h hR dX10_tells_102
  rw [if_neg h9] at h
  have n10 := h9
  clear h9
  refine g_lookup hC dX10_tells_1 (by decide) 102 103 (by simp [Op.lookupswitch.offset, Ne.symm n4, n4, Ne.symm n7, n7, Ne.symm n10, n10]) (by decide) ?_
  refine g_aload_n hC dX10_tells_103 0 rfl rfl ?_
  refine g_iload_n hC dX10_tells_104 1 rfl rfl ?_
  refine g_iload_n hC dX10_tells_105 2 rfl rfl ?_
  obtain ⟨⟨r11, s11⟩, e11, h⟩ := of_bind h
  try dsimp only at h
  refine s_callSi hC dX10_tells_106 (tX10_above e11) miX10_above msX10_above mlRX10_336 rfl rfl (Nat.le_of_ble_eq_true rfl) (by omega) (Nat.le_of_ble_eq_true rfl) hcs ?_
  refine g_iload_n hC dX10_tells_109 3 rfl rfl ?_
  obtain ⟨⟨r12, s12⟩, e12, h⟩ := of_bind h
  try dsimp only at h
  refine s_callVi hC dX10_tells_110 (hl0 _ _ _ _ _ _ e12) miX10_tells mvX10_tells mlRX10_345 (isO_spec h0) vc_10 rfl rfl (Nat.le_of_ble_eq_true rfl) hf (Nat.le_of_ble_eq_true rfl) hcs ?_
  exact ret_i h hR dX10_tells_113
theorem cgX10_tells {l : Launch} {g : GT} {c0 : Nat} (h0 : isO 10 c0 = true) : ∀ d : Nat, ∀ (a0 : Int) (a1 : Int) (a2 : Int) (r : Int) (σ σ' : St), gX10_tells c0 d 0 [a0, a1, a2] σ = some (r, σ') → Cn l g yX10_tells cX10_tells 5 (some .int) (604 + d) 0 0 [vr c0, vi a0, vi a1, vi a2] (SH0, σ) (some (vi r)) (SH0, σ') := by
  intro d
  induction d with
  | zero =>
    · intro a0 a1 a2 r σ σ' h
      rw [gX10_tells_0] at h
      cases h
  | succ d ih =>
    have i0 := ih
    · intro a0 a1 a2 r σ σ' h
      rw [gX10_tells_s] at h
      have h : (fX10_tells (gX10_tells c0 d) c0 a0 a1 a2 σ) = some (r, σ') := h
      exact Cn.ofI (by decide) (Nat.le_of_ble_eq_true rfl) (fun K e hC hR => by
        subst e
        exact bX10_tells_0 hC ⟨Nat.le_refl _, Nat.le_refl _⟩ h0 (frc := 604 + d) (by omega) (by omega) i0 hR _ h)

theorem tX10_tells {l : Launch} {g : GT} {c0 : Nat} {a0 : Int} {a1 : Int} {a2 : Int} {σ σ' : St} {r : Int} (h0 : isO 10 c0 = true) (h : hX10_tells c0 a0 a1 a2 σ = some (r, σ')) : Cn l g yX10_tells cX10_tells 5 (some .int) 804 0 0 [vr c0, vi a0, vi a1, vi a2] (SH0, σ) (some (vi r)) (SH0, σ') := by
  unfold hX10_tells at h
  exact (cgX10_tells h0 DEP) _ _ _ _ _ _ h
theorem dX10_within_0 : decode cX10_within 0 = .ok (.iload_n 0, 1) := by decide +kernel
theorem dX10_within_1 : decode cX10_within 1 = .ok (.iload_n 1, 1) := by decide +kernel
theorem dX10_within_2 : decode cX10_within 2 = .ok (.if_icmp .lt 12, 3) := by decide +kernel
theorem dX10_within_5 : decode cX10_within 5 = .ok (.iload_n 0, 1) := by decide +kernel
theorem dX10_within_6 : decode cX10_within 6 = .ok (.iload_n 2, 1) := by decide +kernel
theorem dX10_within_7 : decode cX10_within 7 = .ok (.if_icmp .gt 7, 3) := by decide +kernel
theorem dX10_within_10 : decode cX10_within 10 = .ok (.iconst 1, 1) := by decide +kernel
theorem dX10_within_11 : decode cX10_within 11 = .ok (.goto 4, 3) := by decide +kernel
theorem dX10_within_14 : decode cX10_within 14 = .ok (.iconst 0, 1) := by decide +kernel
theorem dX10_within_15 : decode cX10_within 15 = .ok (.ireturn, 1) := by decide +kernel
theorem bX10_within_0 {K : KT} {g : GT} {cm sm : Nat} {cs : Nat × Nat} {x0 : Int} {x1 : Int} {x2 : Int} {r : Int} {σ' : St} (hC : Ctx K g RX10 cX10_within 3 0 cm sm) (hcs : cs.1 ≤ cm ∧ cs.2 ≤ sm) (hR : RetZ K g cX10_within 3 cs r (SH0, σ')) : ∀ (σ : St), fX10_within x0 x1 x2 σ = some (r, σ') → G K g 3 cs 0 [(0, vi x0), (1, vi x1), (2, vi x2)] [] (SH0, σ) := by
  intro σ h
  unfold fX10_within at h
  refine g_iload_n hC dX10_within_0 0 rfl rfl ?_
  refine g_iload_n hC dX10_within_1 1 rfl rfl ?_
  refine g_icmp_lt hC dX10_within_2 (tgt := 14) (by decide) (fun h9 => ?_) (fun h9 => ?_)
  · rw [if_pos h9] at h
    refine g_iconst hC dX10_within_14 ok_0 ?_
    exact ret_z h hR (by decide) dX10_within_15
  · rw [if_neg h9] at h
    refine g_iload_n hC dX10_within_5 0 rfl rfl ?_
    refine g_iload_n hC dX10_within_6 2 rfl rfl ?_
    refine g_icmp_gt hC dX10_within_7 (tgt := 14) (by decide) (fun h9 => ?_) (fun h9 => ?_)
    · rw [if_pos h9] at h
      refine g_iconst hC dX10_within_14 ok_0 ?_
      exact ret_z h hR (by decide) dX10_within_15
    · rw [if_neg h9] at h
      refine g_iconst hC dX10_within_10 ok_1 ?_
      refine g_goto hC dX10_within_11 (tgt := 15) (by decide) ?_
      exact ret_z h hR (by decide) dX10_within_15
theorem tX10_within {l : Launch} {g : GT} {x0 : Int} {x1 : Int} {x2 : Int} {σ σ' : St} {r : Int} (h : fX10_within x0 x1 x2 σ = some (r, σ')) : Cn l g yX10_within cX10_within 3 (some .boolean) 0 0 0 [vi x0, vi x1, vi x2] (SH0, σ) (some (vi r)) (SH0, σ') :=
  Cn.ofZ (by decide) (Nat.le_of_ble_eq_true rfl) (fun K e hC hR => (bX10_within_0 hC ⟨Nat.le_refl _, Nat.le_refl _⟩ hR _ h))
theorem dX10_act_0 : decode cX10_act 0 = .ok (.aload_n 0, 1) := by decide +kernel
theorem dX10_act_1 : decode cX10_act 1 = .ok (.iconst 0, 1) := by decide +kernel
theorem dX10_act_2 : decode cX10_act 2 = .ok (.putfield 326, 3) := by decide +kernel
theorem dX10_act_5 : decode cX10_act 5 = .ok (.iload_n 1, 1) := by decide +kernel
theorem dX10_act_6 : decode cX10_act 6 = .ok (.iconst 0, 1) := by decide +kernel
theorem dX10_act_7 : decode cX10_act 7 = .ok (.aload_n 0, 1) := by decide +kernel
theorem dX10_act_8 : decode cX10_act 8 = .ok (.getfield 348, 3) := by decide +kernel
theorem dX10_act_11 : decode cX10_act 11 = .ok (.iconst 1, 1) := by decide +kernel
theorem dX10_act_12 : decode cX10_act 12 = .ok (.isub, 1) := by decide +kernel
theorem dX10_act_13 : decode cX10_act 13 = .ok (.invokestatic 101, 3) := by decide +kernel
theorem dX10_act_16 : decode cX10_act 16 = .ok (.ifCond .eq 12, 3) := by decide +kernel
theorem dX10_act_19 : decode cX10_act 19 = .ok (.iload_n 2, 1) := by decide +kernel
theorem dX10_act_20 : decode cX10_act 20 = .ok (.iconst 0, 1) := by decide +kernel
theorem dX10_act_21 : decode cX10_act 21 = .ok (.iconst 3, 1) := by decide +kernel
theorem dX10_act_22 : decode cX10_act 22 = .ok (.invokestatic 101, 3) := by decide +kernel
theorem dX10_act_25 : decode cX10_act 25 = .ok (.ifCond .ne 5, 3) := by decide +kernel
theorem dX10_act_28 : decode cX10_act 28 = .ok (.iconst 0, 1) := by decide +kernel
theorem dX10_act_29 : decode cX10_act 29 = .ok (.ireturn, 1) := by decide +kernel
theorem dX10_act_30 : decode cX10_act 30 = .ok (.aload_n 0, 1) := by decide +kernel
theorem dX10_act_31 : decode cX10_act 31 = .ok (.getfield 72, 3) := by decide +kernel
theorem dX10_act_34 : decode cX10_act 34 = .ok (.iload_n 1, 1) := by decide +kernel
theorem dX10_act_35 : decode cX10_act 35 = .ok (.iaload, 1) := by decide +kernel
theorem dX10_act_36 : decode cX10_act 36 = .ok (.istore 4, 2) := by decide +kernel
theorem dX10_act_38 : decode cX10_act 38 = .ok (.iload_n 2, 1) := by decide +kernel
theorem dX10_act_39 : decode cX10_act 39 = .ok (.ifCond .ne 14, 3) := by decide +kernel
theorem dX10_act_42 : decode cX10_act 42 = .ok (.aload_n 0, 1) := by decide +kernel
theorem dX10_act_43 : decode cX10_act 43 = .ok (.iload_n 1, 1) := by decide +kernel
theorem dX10_act_44 : decode cX10_act 44 = .ok (.iload 4, 2) := by decide +kernel
theorem dX10_act_46 : decode cX10_act 46 = .ok (.iload_n 3, 1) := by decide +kernel
theorem dX10_act_47 : decode cX10_act 47 = .ok (.invokevirtual 333, 3) := by decide +kernel
theorem dX10_act_50 : decode cX10_act 50 = .ok (.goto 43, 3) := by decide +kernel
theorem dX10_act_53 : decode cX10_act 53 = .ok (.iload_n 2, 1) := by decide +kernel
theorem dX10_act_54 : decode cX10_act 54 = .ok (.iconst 1, 1) := by decide +kernel
theorem dX10_act_55 : decode cX10_act 55 = .ok (.if_icmp .ne 14, 3) := by decide +kernel
theorem dX10_act_58 : decode cX10_act 58 = .ok (.aload_n 0, 1) := by decide +kernel
theorem dX10_act_59 : decode cX10_act 59 = .ok (.iload_n 1, 1) := by decide +kernel
theorem dX10_act_60 : decode cX10_act 60 = .ok (.iload 4, 2) := by decide +kernel
theorem dX10_act_62 : decode cX10_act 62 = .ok (.iload_n 3, 1) := by decide +kernel
theorem dX10_act_63 : decode cX10_act 63 = .ok (.invokevirtual 339, 3) := by decide +kernel
theorem dX10_act_66 : decode cX10_act 66 = .ok (.goto 27, 3) := by decide +kernel
theorem dX10_act_69 : decode cX10_act 69 = .ok (.iload_n 2, 1) := by decide +kernel
theorem dX10_act_70 : decode cX10_act 70 = .ok (.iconst 2, 1) := by decide +kernel
theorem dX10_act_71 : decode cX10_act 71 = .ok (.if_icmp .ne 14, 3) := by decide +kernel
theorem dX10_act_74 : decode cX10_act 74 = .ok (.aload_n 0, 1) := by decide +kernel
theorem dX10_act_75 : decode cX10_act 75 = .ok (.iload_n 1, 1) := by decide +kernel
theorem dX10_act_76 : decode cX10_act 76 = .ok (.iload 4, 2) := by decide +kernel
theorem dX10_act_78 : decode cX10_act 78 = .ok (.iload_n 3, 1) := by decide +kernel
theorem dX10_act_79 : decode cX10_act 79 = .ok (.invokevirtual 342, 3) := by decide +kernel
theorem dX10_act_82 : decode cX10_act 82 = .ok (.goto 11, 3) := by decide +kernel
theorem dX10_act_85 : decode cX10_act 85 = .ok (.aload_n 0, 1) := by decide +kernel
theorem dX10_act_86 : decode cX10_act 86 = .ok (.iload_n 1, 1) := by decide +kernel
theorem dX10_act_87 : decode cX10_act 87 = .ok (.iload 4, 2) := by decide +kernel
theorem dX10_act_89 : decode cX10_act 89 = .ok (.iload_n 3, 1) := by decide +kernel
theorem dX10_act_90 : decode cX10_act 90 = .ok (.invokevirtual 345, 3) := by decide +kernel
theorem dX10_act_93 : decode cX10_act 93 = .ok (.ireturn, 1) := by decide +kernel
theorem bX10_act_0 {K : KT} {g : GT} {cm sm : Nat} {cs : Nat × Nat} {c0 : Nat} {x1 : Int} {x2 : Int} {x3 : Int} {r : Int} {σ' : St} (hC : Ctx K g RX10 cX10_act 5 805 cm sm) (hcs : cs.1 ≤ cm ∧ cs.2 ≤ sm) (h0 : isO 10 c0 = true) (hR : RetI K g cX10_act 5 cs r (SH0, σ')) : ∀ (σ : St), fX10_act c0 x1 x2 x3 σ = some (r, σ') → G K g 5 cs 0 [(0, vr c0), (1, vi x1), (2, vi x2), (3, vi x3)] [] (SH0, σ) := by
  intro σ h
  unfold fX10_act at h
  refine g_aload_n hC dX10_act_0 0 rfl rfl ?_
  refine g_iconst hC dX10_act_1 ok_0 ?_
  refine g_puti hC dX10_act_2 lfRX10_326 fp_10_36 (isO_spec h0) (ft_10_36 h0) ?_
  refine g_iload_n hC dX10_act_5 1 rfl rfl ?_
  refine g_iconst hC dX10_act_6 ok_0 ?_
  refine g_aload_n hC dX10_act_7 0 rfl rfl ?_
  refine g_geti hC dX10_act_8 lfRX10_348 (isO_spec h0) (ft_10_34 h0) ?_
  refine g_iconst hC dX10_act_11 ok_1 ?_
  refine g_isub hC dX10_act_12 ?_
  obtain ⟨⟨r1, s1⟩, e1, h⟩ := of_bind h
  try dsimp only at h
  refine s_callSi hC dX10_act_13 (tX10_within e1) miX10_within msX10_within mlRX10_101 rfl rfl (Nat.le_of_ble_eq_true rfl) (Nat.le_of_ble_eq_true rfl) (Nat.le_of_ble_eq_true rfl) hcs ?_
  refine g_if_eq hC dX10_act_16 (tgt := 28) (by decide) (fun h9 => ?_) (fun h9 => ?_)
  · rw [if_pos h9] at h
    refine g_iconst hC dX10_act_28 ok_0 ?_
    exact ret_i h hR dX10_act_29
  · rw [if_neg h9] at h
    refine g_iload_n hC dX10_act_19 2 rfl rfl ?_
    refine g_iconst hC dX10_act_20 ok_0 ?_
    refine g_iconst hC dX10_act_21 ok_3 ?_
    obtain ⟨⟨r2, s2⟩, e2, h⟩ := of_bind h
    try dsimp only at h
    refine s_callSi hC dX10_act_22 (tX10_within e2) miX10_within msX10_within mlRX10_101 rfl rfl (Nat.le_of_ble_eq_true rfl) (Nat.le_of_ble_eq_true rfl) (Nat.le_of_ble_eq_true rfl) hcs ?_
    refine g_if_ne hC dX10_act_25 (tgt := 30) (by decide) (fun h9 => ?_) (fun h9 => ?_)
    · rw [if_neg h9] at h
      refine g_aload_n hC dX10_act_30 0 rfl rfl ?_
      refine g_getr hC dX10_act_31 lfRX10_72 (isO_spec h0) (ft_10_35 h0) ?_
      refine g_iload_n hC dX10_act_34 1 rfl rfl ?_
      obtain ⟨b9, h⟩ := of_ite h
      refine g_iald hC dX10_act_35 (isA_spec (rf_10_35 h0)) b9 ?_
      refine g_istore hC dX10_act_36 (Nat.le_of_ble_eq_true rfl) rfl ?_
      refine g_iload_n hC dX10_act_38 3 rfl rfl ?_
      refine g_if_ne hC dX10_act_39 (tgt := 53) (by decide) (fun h9 => ?_) (fun h9 => ?_)
      · rw [if_neg h9] at h
        refine g_iload_n hC dX10_act_53 3 rfl rfl ?_
        refine g_iconst hC dX10_act_54 ok_1 ?_
        refine g_icmp_ne hC dX10_act_55 (tgt := 69) (by decide) (fun h9 => ?_) (fun h9 => ?_)
        · rw [if_neg h9] at h
          refine g_iload_n hC dX10_act_69 3 rfl rfl ?_
          refine g_iconst hC dX10_act_70 ok_2 ?_
          refine g_icmp_ne hC dX10_act_71 (tgt := 85) (by decide) (fun h9 => ?_) (fun h9 => ?_)
          · rw [if_neg h9] at h
            refine g_aload_n hC dX10_act_85 1 rfl rfl ?_
            refine g_iload_n hC dX10_act_86 2 rfl rfl ?_
            refine g_iload hC dX10_act_87 0 rfl ?_
            refine g_iload_n hC dX10_act_89 4 rfl rfl ?_
            obtain ⟨⟨r3, s3⟩, e3, h⟩ := of_bind h
            try dsimp only at h
            refine s_callVi hC dX10_act_90 (tX10_tells h0 e3) miX10_tells mvX10_tells mlRX10_345 (isO_spec h0) vc_10 rfl rfl (Nat.le_of_ble_eq_true rfl) (Nat.le_of_ble_eq_true rfl) (Nat.le_of_ble_eq_true rfl) hcs ?_
            exact ret_i h hR dX10_act_93
          · rw [if_pos h9] at h
            refine g_aload_n hC dX10_act_74 1 rfl rfl ?_
            refine g_iload_n hC dX10_act_75 2 rfl rfl ?_
            refine g_iload hC dX10_act_76 0 rfl ?_
            refine g_iload_n hC dX10_act_78 4 rfl rfl ?_
            obtain ⟨⟨r4, s4⟩, e4, h⟩ := of_bind h
            try dsimp only at h
            refine s_callVi hC dX10_act_79 (tX10_losesBy h0 e4) miX10_losesBy mvX10_losesBy mlRX10_342 (isO_spec h0) vc_10 rfl rfl (Nat.le_of_ble_eq_true rfl) (Nat.le_of_ble_eq_true rfl) (Nat.le_of_ble_eq_true rfl) hcs ?_
            refine g_goto hC dX10_act_82 (tgt := 93) (by decide) ?_
            exact ret_i h hR dX10_act_93
        · rw [if_pos h9] at h
          refine g_aload_n hC dX10_act_58 1 rfl rfl ?_
          refine g_iload_n hC dX10_act_59 2 rfl rfl ?_
          refine g_iload hC dX10_act_60 0 rfl ?_
          refine g_iload_n hC dX10_act_62 4 rfl rfl ?_
          obtain ⟨⟨r5, s5⟩, e5, h⟩ := of_bind h
          try dsimp only at h
          refine s_callVi hC dX10_act_63 (tX10_missesBy h0 e5) miX10_missesBy mvX10_missesBy mlRX10_339 (isO_spec h0) vc_10 rfl rfl (Nat.le_of_ble_eq_true rfl) (Nat.le_of_ble_eq_true rfl) (Nat.le_of_ble_eq_true rfl) hcs ?_
          refine g_goto hC dX10_act_66 (tgt := 93) (by decide) ?_
          exact ret_i h hR dX10_act_93
      · rw [if_pos h9] at h
        refine g_aload_n hC dX10_act_42 1 rfl rfl ?_
        refine g_iload_n hC dX10_act_43 2 rfl rfl ?_
        refine g_iload hC dX10_act_44 0 rfl ?_
        refine g_iload_n hC dX10_act_46 4 rfl rfl ?_
        obtain ⟨⟨r6, s6⟩, e6, h⟩ := of_bind h
        try dsimp only at h
        refine s_callVi hC dX10_act_47 (tX10_bidsBy h0 e6) miX10_bidsBy mvX10_bidsBy mlRX10_333 (isO_spec h0) vc_10 rfl rfl (Nat.le_of_ble_eq_true rfl) (Nat.le_of_ble_eq_true rfl) (Nat.le_of_ble_eq_true rfl) hcs ?_
        refine g_goto hC dX10_act_50 (tgt := 93) (by decide) ?_
        exact ret_i h hR dX10_act_93
    · rw [if_pos h9] at h
      refine g_iconst hC dX10_act_28 ok_0 ?_
      exact ret_i h hR dX10_act_29
theorem tX10_act {l : Launch} {g : GT} {c0 : Nat} {x1 : Int} {x2 : Int} {x3 : Int} {σ σ' : St} {r : Int} (h0 : isO 10 c0 = true) (h : fX10_act c0 x1 x2 x3 σ = some (r, σ')) : Cn l g yX10_act cX10_act 5 (some .int) 805 0 0 [vr c0, vi x1, vi x2, vi x3] (SH0, σ) (some (vi r)) (SH0, σ') :=
  Cn.ofI (by decide) (Nat.le_of_ble_eq_true rfl) (fun K e hC hR => (bX10_act_0 hC ⟨Nat.le_refl _, Nat.le_refl _⟩ h0 hR _ h))
theorem dX10_countOf_0 : decode cX10_countOf 0 = .ok (.iconst 0, 1) := by decide +kernel
theorem dX10_countOf_1 : decode cX10_countOf 1 = .ok (.istore_n 2, 1) := by decide +kernel
theorem dX10_countOf_2 : decode cX10_countOf 2 = .ok (.iconst 0, 1) := by decide +kernel
theorem dX10_countOf_3 : decode cX10_countOf 3 = .ok (.istore_n 3, 1) := by decide +kernel
theorem dX10_countOf_4 : decode cX10_countOf 4 = .ok (.iload_n 3, 1) := by decide +kernel
theorem dX10_countOf_5 : decode cX10_countOf 5 = .ok (.aload_n 0, 1) := by decide +kernel
theorem dX10_countOf_6 : decode cX10_countOf 6 = .ok (.getfield 97, 3) := by decide +kernel
theorem dX10_countOf_9 : decode cX10_countOf 9 = .ok (.if_icmp .ge 31, 3) := by decide +kernel
theorem dX10_countOf_12 : decode cX10_countOf 12 = .ok (.aload_n 0, 1) := by decide +kernel
theorem dX10_countOf_13 : decode cX10_countOf 13 = .ok (.getfield 15, 3) := by decide +kernel
theorem dX10_countOf_16 : decode cX10_countOf 16 = .ok (.iload_n 3, 1) := by decide +kernel
theorem dX10_countOf_17 : decode cX10_countOf 17 = .ok (.iaload, 1) := by decide +kernel
theorem dX10_countOf_18 : decode cX10_countOf 18 = .ok (.iload_n 1, 1) := by decide +kernel
theorem dX10_countOf_19 : decode cX10_countOf 19 = .ok (.if_icmp .ne 15, 3) := by decide +kernel
theorem dX10_countOf_22 : decode cX10_countOf 22 = .ok (.aload_n 0, 1) := by decide +kernel
theorem dX10_countOf_23 : decode cX10_countOf 23 = .ok (.getfield 18, 3) := by decide +kernel
theorem dX10_countOf_26 : decode cX10_countOf 26 = .ok (.iload_n 3, 1) := by decide +kernel
theorem dX10_countOf_27 : decode cX10_countOf 27 = .ok (.iaload, 1) := by decide +kernel
theorem dX10_countOf_28 : decode cX10_countOf 28 = .ok (.ifCond .ne 6, 3) := by decide +kernel
theorem dX10_countOf_31 : decode cX10_countOf 31 = .ok (.iinc 2 1, 3) := by decide +kernel
theorem dX10_countOf_34 : decode cX10_countOf 34 = .ok (.iinc 3 1, 3) := by decide +kernel
theorem dX10_countOf_37 : decode cX10_countOf 37 = .ok (.goto (-33), 3) := by decide +kernel
theorem dX10_countOf_40 : decode cX10_countOf 40 = .ok (.iload_n 2, 1) := by decide +kernel
theorem dX10_countOf_41 : decode cX10_countOf 41 = .ok (.ireturn, 1) := by decide +kernel
theorem bX10_countOf_34 {K : KT} {g : GT} {cm sm : Nat} {cs : Nat × Nat} {c0 : Nat} {x1 : Int} {k4 : Int → Int → St → Option (Int × St)} {r : Int} {σ' : St} (hC : Ctx K g RX10 cX10_countOf 4 0 cm sm) (hcs : cs.1 ≤ cm ∧ cs.2 ≤ sm) (h0 : isO 10 c0 = true) (hk4 : ∀ (x2 : Int) (x3 : Int) (σ : St), k4 x2 x3 σ = some (r, σ') → G K g 4 cs 4 [(0, vr c0), (1, vi x1), (2, vi x2), (3, vi x3)] [] (SH0, σ)) (hR : RetI K g cX10_countOf 4 cs r (SH0, σ')) : ∀ (x2 : Int) (x3 : Int) (σ : St), fX10_countOf_34 c0 x1 k4 x2 x3 σ = some (r, σ') → G K g 4 cs 34 [(0, vr c0), (1, vi x1), (2, vi x2), (3, vi x3)] [] (SH0, σ) := by
  intro x2 x3 σ h
  unfold fX10_countOf_34 at h
  refine g_iinc hC dX10_countOf_34 3 rfl (Nat.le_of_ble_eq_true rfl) rfl ?_
  refine g_goto hC dX10_countOf_37 (tgt := 4) (by decide) ?_
  exact g_pick [1, 2, 3, 0] rfl (hk4 _ _ _ h)
theorem bX10_countOf_4 {K : KT} {g : GT} {cm sm : Nat} {cs : Nat × Nat} {c0 : Nat} {x1 : Int} {r : Int} {σ' : St} (hC : Ctx K g RX10 cX10_countOf 4 0 cm sm) (hcs : cs.1 ≤ cm ∧ cs.2 ≤ sm) (h0 : isO 10 c0 = true) (hR : RetI K g cX10_countOf 4 cs r (SH0, σ')) : ∀ (n : Nat) (x2 : Int) (x3 : Int) (σ : St), fX10_countOf_4 c0 x1 n x2 x3 σ = some (r, σ') → G K g 4 cs 4 [(0, vr c0), (1, vi x1), (2, vi x2), (3, vi x3)] [] (SH0, σ) := by
  intro n
  induction n with
  | zero =>
    intro x2 x3 σ h
    rw [fX10_countOf_4.eq_1] at h
    cases h
  | succ n ih =>
    intro x2 x3 σ h
    rw [fX10_countOf_4.eq_2] at h
    refine g_iload_n hC dX10_countOf_4 3 rfl rfl ?_
    refine g_aload_n hC dX10_countOf_5 0 rfl rfl ?_
    refine g_geti hC dX10_countOf_6 lfRX10_97 (isO_spec h0) (ft_10_0 h0) ?_
    refine g_icmp_ge hC dX10_countOf_9 (tgt := 40) (by decide) (fun h9 => ?_) (fun h9 => ?_)
    · rw [if_pos h9] at h
      refine g_iload_n hC dX10_countOf_40 2 rfl rfl ?_
      exact ret_i h hR dX10_countOf_41
    · rw [if_neg h9] at h
      refine g_aload_n hC dX10_countOf_12 0 rfl rfl ?_
      refine g_getr hC dX10_countOf_13 lfRX10_15 (isO_spec h0) (ft_10_2 h0) ?_
      refine g_iload_n hC dX10_countOf_16 3 rfl rfl ?_
      obtain ⟨b9, h⟩ := of_ite h
      refine g_iald hC dX10_countOf_17 (isA_spec (rf_10_2 h0)) b9 ?_
      refine g_iload_n hC dX10_countOf_18 1 rfl rfl ?_
      refine g_icmp_ne hC dX10_countOf_19 (tgt := 34) (by decide) (fun h9 => ?_) (fun h9 => ?_)
      · rw [if_neg h9] at h
        exact g_pick [0, 1, 2, 3] rfl (bX10_countOf_34 hC hcs h0 ih hR _ _ _ h)
      · rw [if_pos h9] at h
        refine g_aload_n hC dX10_countOf_22 0 rfl rfl ?_
        refine g_getr hC dX10_countOf_23 lfRX10_18 (isO_spec h0) (ft_10_3 h0) ?_
        refine g_iload_n hC dX10_countOf_26 3 rfl rfl ?_
        obtain ⟨b9, h⟩ := of_ite h
        refine g_iald hC dX10_countOf_27 (isA_spec (rf_10_3 h0)) b9 ?_
        refine g_if_ne hC dX10_countOf_28 (tgt := 34) (by decide) (fun h9 => ?_) (fun h9 => ?_)
        · rw [if_neg h9] at h
          exact g_pick [0, 1, 2, 3] rfl (bX10_countOf_34 hC hcs h0 ih hR _ _ _ h)
        · rw [if_pos h9] at h
          refine g_iinc hC dX10_countOf_31 2 rfl (Nat.le_of_ble_eq_true rfl) rfl ?_
          exact g_pick [1, 2, 0, 3] rfl (bX10_countOf_34 hC hcs h0 ih hR _ _ _ h)
theorem bX10_countOf_0 {K : KT} {g : GT} {cm sm : Nat} {cs : Nat × Nat} {c0 : Nat} {x1 : Int} {r : Int} {σ' : St} (hC : Ctx K g RX10 cX10_countOf 4 0 cm sm) (hcs : cs.1 ≤ cm ∧ cs.2 ≤ sm) (h0 : isO 10 c0 = true) (hR : RetI K g cX10_countOf 4 cs r (SH0, σ')) : ∀ (σ : St), fX10_countOf c0 x1 σ = some (r, σ') → G K g 4 cs 0 [(0, vr c0), (1, vi x1)] [] (SH0, σ) := by
  intro σ h
  unfold fX10_countOf at h
  refine g_iconst hC dX10_countOf_0 ok_0 ?_
  refine g_istore_n hC dX10_countOf_1 rfl (Nat.le_of_ble_eq_true rfl) rfl ?_
  refine g_iconst hC dX10_countOf_2 ok_0 ?_
  refine g_istore_n hC dX10_countOf_3 rfl (Nat.le_of_ble_eq_true rfl) rfl ?_
  exact g_pick [2, 3, 1, 0] rfl (bX10_countOf_4 hC hcs h0 hR _ _ _ _ h)
theorem tX10_countOf {l : Launch} {g : GT} {c0 : Nat} {x1 : Int} {σ σ' : St} {r : Int} (h0 : isO 10 c0 = true) (h : fX10_countOf c0 x1 σ = some (r, σ')) : Cn l g yX10_countOf cX10_countOf 4 (some .int) 0 0 0 [vr c0, vi x1] (SH0, σ) (some (vi r)) (SH0, σ') :=
  Cn.ofI (by decide) (Nat.le_of_ble_eq_true rfl) (fun K e hC hR => (bX10_countOf_0 hC ⟨Nat.le_refl _, Nat.le_refl _⟩ h0 hR _ h))
theorem dX10_isForSale_0 : decode cX10_isForSale 0 = .ok (.aload_n 0, 1) := by decide +kernel
theorem dX10_isForSale_1 : decode cX10_isForSale 1 = .ok (.getfield 15, 3) := by decide +kernel
theorem dX10_isForSale_4 : decode cX10_isForSale 4 = .ok (.iload_n 1, 1) := by decide +kernel
theorem dX10_isForSale_5 : decode cX10_isForSale 5 = .ok (.iaload, 1) := by decide +kernel
theorem dX10_isForSale_6 : decode cX10_isForSale 6 = .ok (.iconst (-1), 1) := by decide +kernel
theorem dX10_isForSale_7 : decode cX10_isForSale 7 = .ok (.if_icmp .ne 16, 3) := by decide +kernel
theorem dX10_isForSale_10 : decode cX10_isForSale 10 = .ok (.aload_n 0, 1) := by decide +kernel
theorem dX10_isForSale_11 : decode cX10_isForSale 11 = .ok (.getfield 18, 3) := by decide +kernel
theorem dX10_isForSale_14 : decode cX10_isForSale 14 = .ok (.iload_n 1, 1) := by decide +kernel
theorem dX10_isForSale_15 : decode cX10_isForSale 15 = .ok (.iaload, 1) := by decide +kernel
theorem dX10_isForSale_16 : decode cX10_isForSale 16 = .ok (.ifCond .ne 7, 3) := by decide +kernel
theorem dX10_isForSale_19 : decode cX10_isForSale 19 = .ok (.iconst 1, 1) := by decide +kernel
theorem dX10_isForSale_20 : decode cX10_isForSale 20 = .ok (.goto 4, 3) := by decide +kernel
theorem dX10_isForSale_23 : decode cX10_isForSale 23 = .ok (.iconst 0, 1) := by decide +kernel
theorem dX10_isForSale_24 : decode cX10_isForSale 24 = .ok (.ireturn, 1) := by decide +kernel
theorem bX10_isForSale_0 {K : KT} {g : GT} {cm sm : Nat} {cs : Nat × Nat} {c0 : Nat} {x1 : Int} {r : Int} {σ' : St} (hC : Ctx K g RX10 cX10_isForSale 2 0 cm sm) (hcs : cs.1 ≤ cm ∧ cs.2 ≤ sm) (h0 : isO 10 c0 = true) (hR : RetZ K g cX10_isForSale 2 cs r (SH0, σ')) : ∀ (σ : St), fX10_isForSale c0 x1 σ = some (r, σ') → G K g 2 cs 0 [(0, vr c0), (1, vi x1)] [] (SH0, σ) := by
  intro σ h
  unfold fX10_isForSale at h
  refine g_aload_n hC dX10_isForSale_0 0 rfl rfl ?_
  refine g_getr hC dX10_isForSale_1 lfRX10_15 (isO_spec h0) (ft_10_2 h0) ?_
  refine g_iload_n hC dX10_isForSale_4 1 rfl rfl ?_
  obtain ⟨b9, h⟩ := of_ite h
  refine g_iald hC dX10_isForSale_5 (isA_spec (rf_10_2 h0)) b9 ?_
  refine g_iconst hC dX10_isForSale_6 ok_m1 ?_
  refine g_icmp_ne hC dX10_isForSale_7 (tgt := 23) (by decide) (fun h9 => ?_) (fun h9 => ?_)
  · rw [if_neg h9] at h
    refine g_iconst hC dX10_isForSale_23 ok_0 ?_
    exact ret_z h hR (by decide) dX10_isForSale_24
  · rw [if_pos h9] at h
    refine g_aload_n hC dX10_isForSale_10 0 rfl rfl ?_
    refine g_getr hC dX10_isForSale_11 lfRX10_18 (isO_spec h0) (ft_10_3 h0) ?_
    refine g_iload_n hC dX10_isForSale_14 1 rfl rfl ?_
    obtain ⟨b9, h⟩ := of_ite h
    refine g_iald hC dX10_isForSale_15 (isA_spec (rf_10_3 h0)) b9 ?_
    refine g_if_ne hC dX10_isForSale_16 (tgt := 23) (by decide) (fun h9 => ?_) (fun h9 => ?_)
    · rw [if_neg h9] at h
      refine g_iconst hC dX10_isForSale_23 ok_0 ?_
      exact ret_z h hR (by decide) dX10_isForSale_24
    · rw [if_pos h9] at h
      refine g_iconst hC dX10_isForSale_19 ok_1 ?_
      refine g_goto hC dX10_isForSale_20 (tgt := 24) (by decide) ?_
      exact ret_z h hR (by decide) dX10_isForSale_24
theorem tX10_isForSale {l : Launch} {g : GT} {c0 : Nat} {x1 : Int} {σ σ' : St} {r : Int} (h0 : isO 10 c0 = true) (h : fX10_isForSale c0 x1 σ = some (r, σ')) : Cn l g yX10_isForSale cX10_isForSale 2 (some .boolean) 0 0 0 [vr c0, vi x1] (SH0, σ) (some (vi r)) (SH0, σ') :=
  Cn.ofZ (by decide) (Nat.le_of_ble_eq_true rfl) (fun K e hC hR => (bX10_isForSale_0 hC ⟨Nat.le_refl _, Nat.le_refl _⟩ h0 hR _ h))
theorem dX10_both_0 : decode cX10_both 0 = .ok (.iload_n 0, 1) := by decide +kernel
theorem dX10_both_1 : decode cX10_both 1 = .ok (.tableswitch 136 6 14 #[51, 65, 79, 90, 101, 112, 116, 120, 124], 51) := by decide +kernel
theorem dX10_both_52 : decode cX10_both 52 = .ok (.iload_n 1, 1) := by decide +kernel
theorem dX10_both_53 : decode cX10_both 53 = .ok (.ifCond .ne 7, 3) := by decide +kernel
theorem dX10_both_56 : decode cX10_both 56 = .ok (.iload_n 2, 1) := by decide +kernel
theorem dX10_both_57 : decode cX10_both 57 = .ok (.ifCond .eq 7, 3) := by decide +kernel
theorem dX10_both_60 : decode cX10_both 60 = .ok (.iconst 1, 1) := by decide +kernel
theorem dX10_both_61 : decode cX10_both 61 = .ok (.goto 4, 3) := by decide +kernel
theorem dX10_both_64 : decode cX10_both 64 = .ok (.iconst 0, 1) := by decide +kernel
theorem dX10_both_65 : decode cX10_both 65 = .ok (.ireturn, 1) := by decide +kernel
theorem dX10_both_66 : decode cX10_both 66 = .ok (.iload_n 1, 1) := by decide +kernel
theorem dX10_both_67 : decode cX10_both 67 = .ok (.ifCond .eq 11, 3) := by decide +kernel
theorem dX10_both_70 : decode cX10_both 70 = .ok (.iload_n 2, 1) := by decide +kernel
theorem dX10_both_71 : decode cX10_both 71 = .ok (.ifCond .eq 7, 3) := by decide +kernel
theorem dX10_both_74 : decode cX10_both 74 = .ok (.iconst 1, 1) := by decide +kernel
theorem dX10_both_75 : decode cX10_both 75 = .ok (.goto 4, 3) := by decide +kernel
theorem dX10_both_78 : decode cX10_both 78 = .ok (.iconst 0, 1) := by decide +kernel
theorem dX10_both_79 : decode cX10_both 79 = .ok (.ireturn, 1) := by decide +kernel
theorem dX10_both_80 : decode cX10_both 80 = .ok (.iload_n 1, 1) := by decide +kernel
theorem dX10_both_81 : decode cX10_both 81 = .ok (.iload_n 2, 1) := by decide +kernel
theorem dX10_both_82 : decode cX10_both 82 = .ok (.if_icmp .ge 7, 3) := by decide +kernel
theorem dX10_both_85 : decode cX10_both 85 = .ok (.iconst 1, 1) := by decide +kernel
theorem dX10_both_86 : decode cX10_both 86 = .ok (.goto 4, 3) := by decide +kernel
theorem dX10_both_89 : decode cX10_both 89 = .ok (.iconst 0, 1) := by decide +kernel
theorem dX10_both_90 : decode cX10_both 90 = .ok (.ireturn, 1) := by decide +kernel
theorem dX10_both_91 : decode cX10_both 91 = .ok (.iload_n 1, 1) := by decide +kernel
theorem dX10_both_92 : decode cX10_both 92 = .ok (.iload_n 2, 1) := by decide +kernel
theorem dX10_both_93 : decode cX10_both 93 = .ok (.if_icmp .ne 7, 3) := by decide +kernel
theorem dX10_both_96 : decode cX10_both 96 = .ok (.iconst 1, 1) := by decide +kernel
theorem dX10_both_97 : decode cX10_both 97 = .ok (.goto 4, 3) := by decide +kernel
theorem dX10_both_100 : decode cX10_both 100 = .ok (.iconst 0, 1) := by decide +kernel
theorem dX10_both_101 : decode cX10_both 101 = .ok (.ireturn, 1) := by decide +kernel
theorem dX10_both_102 : decode cX10_both 102 = .ok (.iload_n 1, 1) := by decide +kernel
theorem dX10_both_103 : decode cX10_both 103 = .ok (.iload_n 2, 1) := by decide +kernel
theorem dX10_both_104 : decode cX10_both 104 = .ok (.if_icmp .le 7, 3) := by decide +kernel
theorem dX10_both_107 : decode cX10_both 107 = .ok (.iconst 1, 1) := by decide +kernel
theorem dX10_both_108 : decode cX10_both 108 = .ok (.goto 4, 3) := by decide +kernel
theorem dX10_both_111 : decode cX10_both 111 = .ok (.iconst 0, 1) := by decide +kernel
theorem dX10_both_112 : decode cX10_both 112 = .ok (.ireturn, 1) := by decide +kernel
theorem dX10_both_113 : decode cX10_both 113 = .ok (.iload_n 1, 1) := by decide +kernel
theorem dX10_both_114 : decode cX10_both 114 = .ok (.iload_n 2, 1) := by decide +kernel
theorem dX10_both_115 : decode cX10_both 115 = .ok (.iadd, 1) := by decide +kernel
theorem dX10_both_116 : decode cX10_both 116 = .ok (.ireturn, 1) := by decide +kernel
theorem dX10_both_117 : decode cX10_both 117 = .ok (.iload_n 1, 1) := by decide +kernel
theorem dX10_both_118 : decode cX10_both 118 = .ok (.iload_n 2, 1) := by decide +kernel
theorem dX10_both_119 : decode cX10_both 119 = .ok (.isub, 1) := by decide +kernel
theorem dX10_both_120 : decode cX10_both 120 = .ok (.ireturn, 1) := by decide +kernel
theorem dX10_both_121 : decode cX10_both 121 = .ok (.iload_n 1, 1) := by decide +kernel
theorem dX10_both_122 : decode cX10_both 122 = .ok (.iload_n 2, 1) := by decide +kernel
theorem dX10_both_123 : decode cX10_both 123 = .ok (.imul, 1) := by decide +kernel
theorem dX10_both_124 : decode cX10_both 124 = .ok (.ireturn, 1) := by decide +kernel
theorem dX10_both_125 : decode cX10_both 125 = .ok (.iload_n 2, 1) := by decide +kernel
theorem dX10_both_126 : decode cX10_both 126 = .ok (.ifCond .ne 7, 3) := by decide +kernel
theorem dX10_both_129 : decode cX10_both 129 = .ok (.iconst 0, 1) := by decide +kernel
theorem dX10_both_130 : decode cX10_both 130 = .ok (.goto 6, 3) := by decide +kernel
theorem dX10_both_133 : decode cX10_both 133 = .ok (.iload_n 1, 1) := by decide +kernel
theorem dX10_both_134 : decode cX10_both 134 = .ok (.iload_n 2, 1) := by decide +kernel
theorem dX10_both_135 : decode cX10_both 135 = .ok (.idiv, 1) := by decide +kernel
theorem dX10_both_136 : decode cX10_both 136 = .ok (.ireturn, 1) := by decide +kernel
theorem dX10_both_137 : decode cX10_both 137 = .ok (.iload_n 2, 1) := by decide +kernel
theorem dX10_both_138 : decode cX10_both 138 = .ok (.ifCond .ne 7, 3) := by decide +kernel
theorem dX10_both_141 : decode cX10_both 141 = .ok (.iconst 0, 1) := by decide +kernel
theorem dX10_both_142 : decode cX10_both 142 = .ok (.goto 6, 3) := by decide +kernel
theorem dX10_both_145 : decode cX10_both 145 = .ok (.iload_n 1, 1) := by decide +kernel
theorem dX10_both_146 : decode cX10_both 146 = .ok (.iload_n 2, 1) := by decide +kernel
theorem dX10_both_147 : decode cX10_both 147 = .ok (.irem, 1) := by decide +kernel
theorem dX10_both_148 : decode cX10_both 148 = .ok (.ireturn, 1) := by decide +kernel
theorem bX10_both_0 {K : KT} {g : GT} {cm sm : Nat} {cs : Nat × Nat} {x0 : Int} {x1 : Int} {x2 : Int} {r : Int} {σ' : St} (hC : Ctx K g RX10 cX10_both 3 0 cm sm) (hcs : cs.1 ≤ cm ∧ cs.2 ≤ sm) (hR : RetI K g cX10_both 3 cs r (SH0, σ')) : ∀ (σ : St), fX10_both x0 x1 x2 σ = some (r, σ') → G K g 3 cs 0 [(0, vi x0), (1, vi x1), (2, vi x2)] [] (SH0, σ) := by
  intro σ h
  unfold fX10_both at h
  refine g_iload_n hC dX10_both_0 0 rfl rfl ?_
  by_cases h9 : x0 = 6
  · rw [if_pos h9] at h
    refine g_table hC dX10_both_1 52 (Or.inr (by (try dsimp only); rw [h9]; exact ⟨by decide, by decide, 51, rfl, by decide⟩)) ?_
    refine g_iload_n hC dX10_both_52 1 rfl rfl ?_
    refine g_if_ne hC dX10_both_53 (tgt := 60) (by decide) (fun h9 => ?_) (fun h9 => ?_)
    · rw [if_neg h9] at h
      refine g_iconst hC dX10_both_60 ok_1 ?_
      refine g_goto hC dX10_both_61 (tgt := 65) (by decide) ?_
      exact ret_i h hR dX10_both_65
    · rw [if_pos h9] at h
      refine g_iload_n hC dX10_both_56 2 rfl rfl ?_
      refine g_if_eq hC dX10_both_57 (tgt := 64) (by decide) (fun h9 => ?_) (fun h9 => ?_)
      · rw [if_pos h9] at h
        refine g_iconst hC dX10_both_64 ok_0 ?_
        exact ret_i h hR dX10_both_65
      · rw [if_neg h9] at h
        refine g_iconst hC dX10_both_60 ok_1 ?_
        refine g_goto hC dX10_both_61 (tgt := 65) (by decide) ?_
        exact ret_i h hR dX10_both_65
  rw [if_neg h9] at h
  have n1 := h9
  clear h9
  by_cases h9 : x0 = 7
  · rw [if_pos h9] at h
    refine g_table hC dX10_both_1 66 (Or.inr (by (try dsimp only); rw [h9]; exact ⟨by decide, by decide, 65, rfl, by decide⟩)) ?_
    refine g_iload_n hC dX10_both_66 1 rfl rfl ?_
    refine g_if_eq hC dX10_both_67 (tgt := 78) (by decide) (fun h9 => ?_) (fun h9 => ?_)
    · rw [if_pos h9] at h
      refine g_iconst hC dX10_both_78 ok_0 ?_
      exact ret_i h hR dX10_both_79
    · rw [if_neg h9] at h
      refine g_iload_n hC dX10_both_70 2 rfl rfl ?_
      refine g_if_eq hC dX10_both_71 (tgt := 78) (by decide) (fun h9 => ?_) (fun h9 => ?_)
      · rw [if_pos h9] at h
        refine g_iconst hC dX10_both_78 ok_0 ?_
        exact ret_i h hR dX10_both_79
      · rw [if_neg h9] at h
        refine g_iconst hC dX10_both_74 ok_1 ?_
        refine g_goto hC dX10_both_75 (tgt := 79) (by decide) ?_
        exact ret_i h hR dX10_both_79
  rw [if_neg h9] at h
  have n2 := h9
  clear h9
  by_cases h9 : x0 = 8
  · rw [if_pos h9] at h
    refine g_table hC dX10_both_1 80 (Or.inr (by (try dsimp only); rw [h9]; exact ⟨by decide, by decide, 79, rfl, by decide⟩)) ?_
    refine g_iload_n hC dX10_both_80 1 rfl rfl ?_
    refine g_iload_n hC dX10_both_81 2 rfl rfl ?_
    refine g_icmp_ge hC dX10_both_82 (tgt := 89) (by decide) (fun h9 => ?_) (fun h9 => ?_)
    · rw [if_pos h9] at h
      refine g_iconst hC dX10_both_89 ok_0 ?_
      exact ret_i h hR dX10_both_90
    · rw [if_neg h9] at h
      refine g_iconst hC dX10_both_85 ok_1 ?_
      refine g_goto hC dX10_both_86 (tgt := 90) (by decide) ?_
      exact ret_i h hR dX10_both_90
  rw [if_neg h9] at h
  have n3 := h9
  clear h9
  by_cases h9 : x0 = 9
  · rw [if_pos h9] at h
    refine g_table hC dX10_both_1 91 (Or.inr (by (try dsimp only); rw [h9]; exact ⟨by decide, by decide, 90, rfl, by decide⟩)) ?_
    refine g_iload_n hC dX10_both_91 1 rfl rfl ?_
    refine g_iload_n hC dX10_both_92 2 rfl rfl ?_
    refine g_icmp_ne hC dX10_both_93 (tgt := 100) (by decide) (fun h9 => ?_) (fun h9 => ?_)
    · rw [if_neg h9] at h
      refine g_iconst hC dX10_both_100 ok_0 ?_
      exact ret_i h hR dX10_both_101
    · rw [if_pos h9] at h
      refine g_iconst hC dX10_both_96 ok_1 ?_
      refine g_goto hC dX10_both_97 (tgt := 101) (by decide) ?_
      exact ret_i h hR dX10_both_101
  rw [if_neg h9] at h
  have n4 := h9
  clear h9
  by_cases h9 : x0 = 10
  · rw [if_pos h9] at h
    refine g_table hC dX10_both_1 102 (Or.inr (by (try dsimp only); rw [h9]; exact ⟨by decide, by decide, 101, rfl, by decide⟩)) ?_
    refine g_iload_n hC dX10_both_102 1 rfl rfl ?_
    refine g_iload_n hC dX10_both_103 2 rfl rfl ?_
    refine g_icmp_le hC dX10_both_104 (tgt := 111) (by decide) (fun h9 => ?_) (fun h9 => ?_)
    · rw [if_pos h9] at h
      refine g_iconst hC dX10_both_111 ok_0 ?_
      exact ret_i h hR dX10_both_112
    · rw [if_neg h9] at h
      refine g_iconst hC dX10_both_107 ok_1 ?_
      refine g_goto hC dX10_both_108 (tgt := 112) (by decide) ?_
      exact ret_i h hR dX10_both_112
  rw [if_neg h9] at h
  have n5 := h9
  clear h9
  by_cases h9 : x0 = 11
  · rw [if_pos h9] at h
    refine g_table hC dX10_both_1 113 (Or.inr (by (try dsimp only); rw [h9]; exact ⟨by decide, by decide, 112, rfl, by decide⟩)) ?_
    refine g_iload_n hC dX10_both_113 1 rfl rfl ?_
    refine g_iload_n hC dX10_both_114 2 rfl rfl ?_
    refine g_iadd hC dX10_both_115 ?_
    exact ret_i h hR dX10_both_116
  rw [if_neg h9] at h
  have n6 := h9
  clear h9
  by_cases h9 : x0 = 12
  · rw [if_pos h9] at h
    refine g_table hC dX10_both_1 117 (Or.inr (by (try dsimp only); rw [h9]; exact ⟨by decide, by decide, 116, rfl, by decide⟩)) ?_
    refine g_iload_n hC dX10_both_117 1 rfl rfl ?_
    refine g_iload_n hC dX10_both_118 2 rfl rfl ?_
    refine g_isub hC dX10_both_119 ?_
    exact ret_i h hR dX10_both_120
  rw [if_neg h9] at h
  have n7 := h9
  clear h9
  by_cases h9 : x0 = 13
  · rw [if_pos h9] at h
    refine g_table hC dX10_both_1 121 (Or.inr (by (try dsimp only); rw [h9]; exact ⟨by decide, by decide, 120, rfl, by decide⟩)) ?_
    refine g_iload_n hC dX10_both_121 1 rfl rfl ?_
    refine g_iload_n hC dX10_both_122 2 rfl rfl ?_
    refine g_imul hC dX10_both_123 ?_
    exact ret_i h hR dX10_both_124
  rw [if_neg h9] at h
  have n8 := h9
  clear h9
  by_cases h9 : x0 = 14
  · rw [if_pos h9] at h
    refine g_table hC dX10_both_1 125 (Or.inr (by (try dsimp only); rw [h9]; exact ⟨by decide, by decide, 124, rfl, by decide⟩)) ?_
    refine g_iload_n hC dX10_both_125 2 rfl rfl ?_
    refine g_if_ne hC dX10_both_126 (tgt := 133) (by decide) (fun h9 => ?_) (fun h9 => ?_)
    · rw [if_neg h9] at h
      refine g_iload_n hC dX10_both_133 1 rfl rfl ?_
      refine g_iload_n hC dX10_both_134 2 rfl rfl ?_
      obtain ⟨b9, h⟩ := of_ite h
      refine g_idiv hC dX10_both_135 b9 ?_
      exact ret_i h hR dX10_both_136
    · rw [if_pos h9] at h
      refine g_iconst hC dX10_both_129 ok_0 ?_
      refine g_goto hC dX10_both_130 (tgt := 136) (by decide) ?_
      exact ret_i h hR dX10_both_136
  rw [if_neg h9] at h
  have n9 := h9
  clear h9
  refine g_table hC dX10_both_1 137 (by
    exact Or.inl ⟨by (try dsimp only); omega, by decide⟩) ?_
  refine g_iload_n hC dX10_both_137 2 rfl rfl ?_
  refine g_if_ne hC dX10_both_138 (tgt := 145) (by decide) (fun h9 => ?_) (fun h9 => ?_)
  · rw [if_neg h9] at h
    refine g_iload_n hC dX10_both_145 1 rfl rfl ?_
    refine g_iload_n hC dX10_both_146 2 rfl rfl ?_
    obtain ⟨b9, h⟩ := of_ite h
    refine g_irem hC dX10_both_147 b9 ?_
    exact ret_i h hR dX10_both_148
  · rw [if_pos h9] at h
    refine g_iconst hC dX10_both_141 ok_0 ?_
    refine g_goto hC dX10_both_142 (tgt := 148) (by decide) ?_
    exact ret_i h hR dX10_both_148
theorem tX10_both {l : Launch} {g : GT} {x0 : Int} {x1 : Int} {x2 : Int} {σ σ' : St} {r : Int} (h : fX10_both x0 x1 x2 σ = some (r, σ')) : Cn l g yX10_both cX10_both 3 (some .int) 0 0 0 [vi x0, vi x1, vi x2] (SH0, σ) (some (vi r)) (SH0, σ') :=
  Cn.ofI (by decide) (Nat.le_of_ble_eq_true rfl) (fun K e hC hR => (bX10_both_0 hC ⟨Nat.le_refl _, Nat.le_refl _⟩ hR _ h))
theorem dX10_worked_0 : decode cX10_worked 0 = .ok (.iconst 0, 1) := by decide +kernel
theorem dX10_worked_1 : decode cX10_worked 1 = .ok (.istore_n 3, 1) := by decide +kernel
theorem dX10_worked_2 : decode cX10_worked 2 = .ok (.iload_n 1, 1) := by decide +kernel
theorem dX10_worked_3 : decode cX10_worked 3 = .ok (.istore 4, 2) := by decide +kernel
theorem dX10_worked_5 : decode cX10_worked 5 = .ok (.iload 4, 2) := by decide +kernel
theorem dX10_worked_7 : decode cX10_worked 7 = .ok (.iload_n 2, 1) := by decide +kernel
theorem dX10_worked_8 : decode cX10_worked 8 = .ok (.if_icmp .ge 155, 3) := by decide +kernel
theorem dX10_worked_11 : decode cX10_worked 11 = .ok (.aload_n 0, 1) := by decide +kernel
theorem dX10_worked_12 : decode cX10_worked 12 = .ok (.getfield 39, 3) := by decide +kernel
theorem dX10_worked_15 : decode cX10_worked 15 = .ok (.iload 4, 2) := by decide +kernel
theorem dX10_worked_17 : decode cX10_worked 17 = .ok (.iaload, 1) := by decide +kernel
theorem dX10_worked_18 : decode cX10_worked 18 = .ok (.istore 5, 2) := by decide +kernel
theorem dX10_worked_20 : decode cX10_worked 20 = .ok (.iload 5, 2) := by decide +kernel
theorem dX10_worked_22 : decode cX10_worked 22 = .ok (.bipush 18, 2) := by decide +kernel
theorem dX10_worked_24 : decode cX10_worked 24 = .ok (.if_icmp .ge 9, 3) := by decide +kernel
theorem dX10_worked_27 : decode cX10_worked 27 = .ok (.iload 5, 2) := by decide +kernel
theorem dX10_worked_29 : decode cX10_worked 29 = .ok (.iconst 5, 1) := by decide +kernel
theorem dX10_worked_30 : decode cX10_worked 30 = .ok (.if_icmp .gt 37, 3) := by decide +kernel
theorem dX10_worked_33 : decode cX10_worked 33 = .ok (.aload_n 0, 1) := by decide +kernel
theorem dX10_worked_34 : decode cX10_worked 34 = .ok (.getfield 54, 3) := by decide +kernel
theorem dX10_worked_37 : decode cX10_worked 37 = .ok (.iload_n 3, 1) := by decide +kernel
theorem dX10_worked_38 : decode cX10_worked 38 = .ok (.iinc 3 1, 3) := by decide +kernel
theorem dX10_worked_41 : decode cX10_worked 41 = .ok (.iload 5, 2) := by decide +kernel
theorem dX10_worked_43 : decode cX10_worked 43 = .ok (.bipush 18, 2) := by decide +kernel
theorem dX10_worked_45 : decode cX10_worked 45 = .ok (.if_icmp .lt 11, 3) := by decide +kernel
theorem dX10_worked_48 : decode cX10_worked 48 = .ok (.iload 5, 2) := by decide +kernel
theorem dX10_worked_50 : decode cX10_worked 50 = .ok (.bipush 18, 2) := by decide +kernel
theorem dX10_worked_52 : decode cX10_worked 52 = .ok (.isub, 1) := by decide +kernel
theorem dX10_worked_53 : decode cX10_worked 53 = .ok (.goto 10, 3) := by decide +kernel
theorem dX10_worked_56 : decode cX10_worked 56 = .ok (.aload_n 0, 1) := by decide +kernel
theorem dX10_worked_57 : decode cX10_worked 57 = .ok (.getfield 57, 3) := by decide +kernel
theorem dX10_worked_60 : decode cX10_worked 60 = .ok (.iload 5, 2) := by decide +kernel
theorem dX10_worked_62 : decode cX10_worked 62 = .ok (.iaload, 1) := by decide +kernel
theorem dX10_worked_63 : decode cX10_worked 63 = .ok (.iastore, 1) := by decide +kernel
theorem dX10_worked_64 : decode cX10_worked 64 = .ok (.goto 93, 3) := by decide +kernel
theorem dX10_worked_67 : decode cX10_worked 67 = .ok (.iload 5, 2) := by decide +kernel
theorem dX10_worked_69 : decode cX10_worked 69 = .ok (.bipush 16, 2) := by decide +kernel
theorem dX10_worked_71 : decode cX10_worked 71 = .ok (.if_icmp .eq 10, 3) := by decide +kernel
theorem dX10_worked_74 : decode cX10_worked 74 = .ok (.iload 5, 2) := by decide +kernel
theorem dX10_worked_76 : decode cX10_worked 76 = .ok (.bipush 17, 2) := by decide +kernel
theorem dX10_worked_78 : decode cX10_worked 78 = .ok (.if_icmp .ne 49, 3) := by decide +kernel
theorem dX10_worked_81 : decode cX10_worked 81 = .ok (.aload_n 0, 1) := by decide +kernel
theorem dX10_worked_82 : decode cX10_worked 82 = .ok (.getfield 54, 3) := by decide +kernel
theorem dX10_worked_85 : decode cX10_worked 85 = .ok (.iload_n 3, 1) := by decide +kernel
theorem dX10_worked_86 : decode cX10_worked 86 = .ok (.iconst 1, 1) := by decide +kernel
theorem dX10_worked_87 : decode cX10_worked 87 = .ok (.isub, 1) := by decide +kernel
theorem dX10_worked_88 : decode cX10_worked 88 = .ok (.iload 5, 2) := by decide +kernel
theorem dX10_worked_90 : decode cX10_worked 90 = .ok (.bipush 17, 2) := by decide +kernel
theorem dX10_worked_92 : decode cX10_worked 92 = .ok (.if_icmp .ne 15, 3) := by decide +kernel
theorem dX10_worked_95 : decode cX10_worked 95 = .ok (.aload_n 0, 1) := by decide +kernel
theorem dX10_worked_96 : decode cX10_worked 96 = .ok (.getfield 54, 3) := by decide +kernel
theorem dX10_worked_99 : decode cX10_worked 99 = .ok (.iload_n 3, 1) := by decide +kernel
theorem dX10_worked_100 : decode cX10_worked 100 = .ok (.iconst 1, 1) := by decide +kernel
theorem dX10_worked_101 : decode cX10_worked 101 = .ok (.isub, 1) := by decide +kernel
theorem dX10_worked_102 : decode cX10_worked 102 = .ok (.iaload, 1) := by decide +kernel
theorem dX10_worked_103 : decode cX10_worked 103 = .ok (.ineg, 1) := by decide +kernel
theorem dX10_worked_104 : decode cX10_worked 104 = .ok (.goto 19, 3) := by decide +kernel
theorem dX10_worked_107 : decode cX10_worked 107 = .ok (.aload_n 0, 1) := by decide +kernel
theorem dX10_worked_108 : decode cX10_worked 108 = .ok (.getfield 54, 3) := by decide +kernel
theorem dX10_worked_111 : decode cX10_worked 111 = .ok (.iload_n 3, 1) := by decide +kernel
theorem dX10_worked_112 : decode cX10_worked 112 = .ok (.iconst 1, 1) := by decide +kernel
theorem dX10_worked_113 : decode cX10_worked 113 = .ok (.isub, 1) := by decide +kernel
theorem dX10_worked_114 : decode cX10_worked 114 = .ok (.iaload, 1) := by decide +kernel
theorem dX10_worked_115 : decode cX10_worked 115 = .ok (.ifCond .ne 7, 3) := by decide +kernel
theorem dX10_worked_118 : decode cX10_worked 118 = .ok (.iconst 1, 1) := by decide +kernel
theorem dX10_worked_119 : decode cX10_worked 119 = .ok (.goto 4, 3) := by decide +kernel
theorem dX10_worked_122 : decode cX10_worked 122 = .ok (.iconst 0, 1) := by decide +kernel
theorem dX10_worked_123 : decode cX10_worked 123 = .ok (.iastore, 1) := by decide +kernel
theorem dX10_worked_124 : decode cX10_worked 124 = .ok (.goto 33, 3) := by decide +kernel
theorem dX10_worked_127 : decode cX10_worked 127 = .ok (.iinc 3 (-1), 3) := by decide +kernel
theorem dX10_worked_130 : decode cX10_worked 130 = .ok (.aload_n 0, 1) := by decide +kernel
theorem dX10_worked_131 : decode cX10_worked 131 = .ok (.getfield 54, 3) := by decide +kernel
theorem dX10_worked_134 : decode cX10_worked 134 = .ok (.iload_n 3, 1) := by decide +kernel
theorem dX10_worked_135 : decode cX10_worked 135 = .ok (.iconst 1, 1) := by decide +kernel
theorem dX10_worked_136 : decode cX10_worked 136 = .ok (.isub, 1) := by decide +kernel
theorem dX10_worked_137 : decode cX10_worked 137 = .ok (.iload 5, 2) := by decide +kernel
theorem dX10_worked_139 : decode cX10_worked 139 = .ok (.aload_n 0, 1) := by decide +kernel
theorem dX10_worked_140 : decode cX10_worked 140 = .ok (.getfield 54, 3) := by decide +kernel
theorem dX10_worked_143 : decode cX10_worked 143 = .ok (.iload_n 3, 1) := by decide +kernel
theorem dX10_worked_144 : decode cX10_worked 144 = .ok (.iconst 1, 1) := by decide +kernel
theorem dX10_worked_145 : decode cX10_worked 145 = .ok (.isub, 1) := by decide +kernel
theorem dX10_worked_146 : decode cX10_worked 146 = .ok (.iaload, 1) := by decide +kernel
theorem dX10_worked_147 : decode cX10_worked 147 = .ok (.aload_n 0, 1) := by decide +kernel
theorem dX10_worked_148 : decode cX10_worked 148 = .ok (.getfield 54, 3) := by decide +kernel
theorem dX10_worked_151 : decode cX10_worked 151 = .ok (.iload_n 3, 1) := by decide +kernel
theorem dX10_worked_152 : decode cX10_worked 152 = .ok (.iaload, 1) := by decide +kernel
theorem dX10_worked_153 : decode cX10_worked 153 = .ok (.invokestatic 210, 3) := by decide +kernel
theorem dX10_worked_156 : decode cX10_worked 156 = .ok (.iastore, 1) := by decide +kernel
theorem dX10_worked_157 : decode cX10_worked 157 = .ok (.iinc 4 1, 3) := by decide +kernel
theorem dX10_worked_160 : decode cX10_worked 160 = .ok (.goto (-155), 3) := by decide +kernel
theorem dX10_worked_163 : decode cX10_worked 163 = .ok (.aload_n 0, 1) := by decide +kernel
theorem dX10_worked_164 : decode cX10_worked 164 = .ok (.getfield 54, 3) := by decide +kernel
theorem dX10_worked_167 : decode cX10_worked 167 = .ok (.iconst 0, 1) := by decide +kernel
theorem dX10_worked_168 : decode cX10_worked 168 = .ok (.iaload, 1) := by decide +kernel
theorem dX10_worked_169 : decode cX10_worked 169 = .ok (.ireturn, 1) := by decide +kernel
theorem bX10_worked_157 {K : KT} {g : GT} {cm sm : Nat} {cs : Nat × Nat} {c0 : Nat} {x1 : Int} {x2 : Int} {k5 : Int → Int → St → Option (Int × St)} {r : Int} {σ' : St} (hC : Ctx K g RX10 cX10_worked 6 1 cm sm) (hcs : cs.1 ≤ cm ∧ cs.2 ≤ sm) (h0 : isO 10 c0 = true) (hk5 : ∀ (x3 : Int) (x4 : Int) (σ : St), k5 x3 x4 σ = some (r, σ') → G K g 6 cs 5 [(0, vr c0), (1, vi x1), (2, vi x2), (3, vi x3), (4, vi x4)] [] (SH0, σ)) (hR : RetI K g cX10_worked 6 cs r (SH0, σ')) : ∀ (x3 : Int) (x4 : Int) (σ : St), fX10_worked_157 c0 x1 x2 k5 x3 x4 σ = some (r, σ') → G K g 6 cs 157 [(0, vr c0), (1, vi x1), (2, vi x2), (3, vi x3), (4, vi x4)] [] (SH0, σ) := by
  intro x3 x4 σ h
  unfold fX10_worked_157 at h
  refine g_iinc hC dX10_worked_157 4 rfl (Nat.le_of_ble_eq_true rfl) rfl ?_
  refine g_goto hC dX10_worked_160 (tgt := 5) (by decide) ?_
  exact g_pick [1, 2, 3, 4, 0] rfl (hk5 _ _ _ h)
theorem bX10_worked_63 {K : KT} {g : GT} {cm sm : Nat} {cs : Nat × Nat} {c0 : Nat} {x1 : Int} {x2 : Int} {k5 : Int → Int → St → Option (Int × St)} {r : Int} {σ' : St} (hC : Ctx K g RX10 cX10_worked 6 1 cm sm) (hcs : cs.1 ≤ cm ∧ cs.2 ≤ sm) (h0 : isO 10 c0 = true) (hk5 : ∀ (x3 : Int) (x4 : Int) (σ : St), k5 x3 x4 σ = some (r, σ') → G K g 6 cs 5 [(0, vr c0), (1, vi x1), (2, vi x2), (3, vi x3), (4, vi x4)] [] (SH0, σ)) (hR : RetI K g cX10_worked 6 cs r (SH0, σ')) : ∀ (x3 : Int) (x4 : Int) (d0 : Nat) (y1 : Int) (y2 : Int) (σ : St), isA 1 d0 = true → fX10_worked_63 c0 x1 x2 k5 x3 x4 d0 y1 y2 σ = some (r, σ') → G K g 6 cs 63 [(0, vr c0), (1, vi x1), (2, vi x2), (3, vi x3), (4, vi x4)] [vi y2, vi y1, vr d0] (SH0, σ) := by
  intro x3 x4 d0 y1 y2 σ hd0 h
  unfold fX10_worked_63 at h
  obtain ⟨b9, h⟩ := of_ite h
  refine g_iast hC dX10_worked_63 (isA_spec hd0) b9 ?_
  refine g_goto hC dX10_worked_64 (tgt := 157) (by decide) ?_
  exact g_pick [0, 1, 2, 3, 4] rfl (bX10_worked_157 hC hcs h0 hk5 hR _ _ _ h)
theorem bX10_worked_33 {K : KT} {g : GT} {cm sm : Nat} {cs : Nat × Nat} {c0 : Nat} {x1 : Int} {x2 : Int} {k5 : Int → Int → St → Option (Int × St)} {r : Int} {σ' : St} (hC : Ctx K g RX10 cX10_worked 6 1 cm sm) (hcs : cs.1 ≤ cm ∧ cs.2 ≤ sm) (h0 : isO 10 c0 = true) (hk5 : ∀ (x3 : Int) (x4 : Int) (σ : St), k5 x3 x4 σ = some (r, σ') → G K g 6 cs 5 [(0, vr c0), (1, vi x1), (2, vi x2), (3, vi x3), (4, vi x4)] [] (SH0, σ)) (hR : RetI K g cX10_worked 6 cs r (SH0, σ')) : ∀ (x3 : Int) (x4 : Int) (x5 : Int) (σ : St), fX10_worked_33 c0 x1 x2 k5 x3 x4 x5 σ = some (r, σ') → G K g 6 cs 33 [(0, vr c0), (1, vi x1), (2, vi x2), (3, vi x3), (4, vi x4), (5, vi x5)] [] (SH0, σ) := by
  intro x3 x4 x5 σ h
  unfold fX10_worked_33 at h
  refine g_aload_n hC dX10_worked_33 0 rfl rfl ?_
  refine g_getr hC dX10_worked_34 lfRX10_54 (isO_spec h0) (ft_10_23 h0) ?_
  refine g_iload_n hC dX10_worked_37 3 rfl rfl ?_
  refine g_iinc hC dX10_worked_38 3 rfl (Nat.le_of_ble_eq_true rfl) rfl ?_
  refine g_iload hC dX10_worked_41 5 rfl ?_
  refine g_bipush hC dX10_worked_43 bp_18 ?_
  refine g_icmp_lt hC dX10_worked_45 (tgt := 56) (by decide) (fun h9 => ?_) (fun h9 => ?_)
  · rw [if_pos h9] at h
    refine g_aload_n hC dX10_worked_56 1 rfl rfl ?_
    refine g_getr hC dX10_worked_57 lfRX10_57 (isO_spec h0) (ft_10_24 h0) ?_
    refine g_iload hC dX10_worked_60 5 rfl ?_
    obtain ⟨b9, h⟩ := of_ite h
    refine g_iald hC dX10_worked_62 (isA_spec (rf_10_24 h0)) b9 ?_
    exact g_pick [1, 2, 3, 0, 4] rfl (bX10_worked_63 hC hcs h0 hk5 hR _ _ _ _ _ _ (rf_10_23 h0) h)
  · rw [if_neg h9] at h
    refine g_iload hC dX10_worked_48 5 rfl ?_
    refine g_bipush hC dX10_worked_50 bp_18 ?_
    refine g_isub hC dX10_worked_52 ?_
    refine g_goto hC dX10_worked_53 (tgt := 63) (by decide) ?_
    exact g_pick [1, 2, 3, 0, 4] rfl (bX10_worked_63 hC hcs h0 hk5 hR _ _ _ _ _ _ (rf_10_23 h0) h)
theorem bX10_worked_123 {K : KT} {g : GT} {cm sm : Nat} {cs : Nat × Nat} {c0 : Nat} {x1 : Int} {x2 : Int} {k5 : Int → Int → St → Option (Int × St)} {r : Int} {σ' : St} (hC : Ctx K g RX10 cX10_worked 6 1 cm sm) (hcs : cs.1 ≤ cm ∧ cs.2 ≤ sm) (h0 : isO 10 c0 = true) (hk5 : ∀ (x3 : Int) (x4 : Int) (σ : St), k5 x3 x4 σ = some (r, σ') → G K g 6 cs 5 [(0, vr c0), (1, vi x1), (2, vi x2), (3, vi x3), (4, vi x4)] [] (SH0, σ)) (hR : RetI K g cX10_worked 6 cs r (SH0, σ')) : ∀ (x3 : Int) (x4 : Int) (d0 : Nat) (y1 : Int) (y2 : Int) (σ : St), isA 1 d0 = true → fX10_worked_123 c0 x1 x2 k5 x3 x4 d0 y1 y2 σ = some (r, σ') → G K g 6 cs 123 [(0, vr c0), (1, vi x1), (2, vi x2), (3, vi x3), (4, vi x4)] [vi y2, vi y1, vr d0] (SH0, σ) := by
  intro x3 x4 d0 y1 y2 σ hd0 h
  unfold fX10_worked_123 at h
  obtain ⟨b9, h⟩ := of_ite h
  refine g_iast hC dX10_worked_123 (isA_spec hd0) b9 ?_
  refine g_goto hC dX10_worked_124 (tgt := 157) (by decide) ?_
  exact g_pick [0, 1, 2, 3, 4] rfl (bX10_worked_157 hC hcs h0 hk5 hR _ _ _ h)
theorem bX10_worked_81 {K : KT} {g : GT} {cm sm : Nat} {cs : Nat × Nat} {c0 : Nat} {x1 : Int} {x2 : Int} {k5 : Int → Int → St → Option (Int × St)} {r : Int} {σ' : St} (hC : Ctx K g RX10 cX10_worked 6 1 cm sm) (hcs : cs.1 ≤ cm ∧ cs.2 ≤ sm) (h0 : isO 10 c0 = true) (hk5 : ∀ (x3 : Int) (x4 : Int) (σ : St), k5 x3 x4 σ = some (r, σ') → G K g 6 cs 5 [(0, vr c0), (1, vi x1), (2, vi x2), (3, vi x3), (4, vi x4)] [] (SH0, σ)) (hR : RetI K g cX10_worked 6 cs r (SH0, σ')) : ∀ (x3 : Int) (x4 : Int) (x5 : Int) (σ : St), fX10_worked_81 c0 x1 x2 k5 x3 x4 x5 σ = some (r, σ') → G K g 6 cs 81 [(0, vr c0), (1, vi x1), (2, vi x2), (3, vi x3), (4, vi x4), (5, vi x5)] [] (SH0, σ) := by
  intro x3 x4 x5 σ h
  unfold fX10_worked_81 at h
  refine g_aload_n hC dX10_worked_81 0 rfl rfl ?_
  refine g_getr hC dX10_worked_82 lfRX10_54 (isO_spec h0) (ft_10_23 h0) ?_
  refine g_iload_n hC dX10_worked_85 3 rfl rfl ?_
  refine g_iconst hC dX10_worked_86 ok_1 ?_
  refine g_isub hC dX10_worked_87 ?_
  refine g_iload hC dX10_worked_88 5 rfl ?_
  refine g_bipush hC dX10_worked_90 bp_17 ?_
  refine g_icmp_ne hC dX10_worked_92 (tgt := 107) (by decide) (fun h9 => ?_) (fun h9 => ?_)
  · rw [if_neg h9] at h
    refine g_aload_n hC dX10_worked_107 0 rfl rfl ?_
    refine g_getr hC dX10_worked_108 lfRX10_54 (isO_spec h0) (ft_10_23 h0) ?_
    refine g_iload_n hC dX10_worked_111 3 rfl rfl ?_
    refine g_iconst hC dX10_worked_112 ok_1 ?_
    refine g_isub hC dX10_worked_113 ?_
    obtain ⟨b9, h⟩ := of_ite h
    refine g_iald hC dX10_worked_114 (isA_spec (rf_10_23 h0)) b9 ?_
    refine g_if_ne hC dX10_worked_115 (tgt := 122) (by decide) (fun h9 => ?_) (fun h9 => ?_)
    · rw [if_neg h9] at h
      refine g_iconst hC dX10_worked_122 ok_0 ?_
      exact g_pick [0, 1, 2, 3, 4] rfl (bX10_worked_123 hC hcs h0 hk5 hR _ _ _ _ _ _ (rf_10_23 h0) h)
    · rw [if_pos h9] at h
      refine g_iconst hC dX10_worked_118 ok_1 ?_
      refine g_goto hC dX10_worked_119 (tgt := 123) (by decide) ?_
      exact g_pick [0, 1, 2, 3, 4] rfl (bX10_worked_123 hC hcs h0 hk5 hR _ _ _ _ _ _ (rf_10_23 h0) h)
  · rw [if_pos h9] at h
    refine g_aload_n hC dX10_worked_95 0 rfl rfl ?_
    refine g_getr hC dX10_worked_96 lfRX10_54 (isO_spec h0) (ft_10_23 h0) ?_
    refine g_iload_n hC dX10_worked_99 3 rfl rfl ?_
    refine g_iconst hC dX10_worked_100 ok_1 ?_
    refine g_isub hC dX10_worked_101 ?_
    obtain ⟨b9, h⟩ := of_ite h
    refine g_iald hC dX10_worked_102 (isA_spec (rf_10_23 h0)) b9 ?_
    refine g_ineg hC dX10_worked_103 ?_
    refine g_goto hC dX10_worked_104 (tgt := 123) (by decide) ?_
    exact g_pick [0, 1, 2, 3, 4] rfl (bX10_worked_123 hC hcs h0 hk5 hR _ _ _ _ _ _ (rf_10_23 h0) h)
theorem bX10_worked_5 {K : KT} {g : GT} {cm sm : Nat} {cs : Nat × Nat} {c0 : Nat} {x1 : Int} {x2 : Int} {r : Int} {σ' : St} (hC : Ctx K g RX10 cX10_worked 6 1 cm sm) (hcs : cs.1 ≤ cm ∧ cs.2 ≤ sm) (h0 : isO 10 c0 = true) (hR : RetI K g cX10_worked 6 cs r (SH0, σ')) : ∀ (n : Nat) (x3 : Int) (x4 : Int) (σ : St), fX10_worked_5 c0 x1 x2 n x3 x4 σ = some (r, σ') → G K g 6 cs 5 [(0, vr c0), (1, vi x1), (2, vi x2), (3, vi x3), (4, vi x4)] [] (SH0, σ) := by
  intro n
  induction n with
  | zero =>
    intro x3 x4 σ h
    rw [fX10_worked_5.eq_1] at h
    cases h
  | succ n ih =>
    intro x3 x4 σ h
    rw [fX10_worked_5.eq_2] at h
    refine g_iload hC dX10_worked_5 4 rfl ?_
    refine g_iload_n hC dX10_worked_7 2 rfl rfl ?_
    refine g_icmp_ge hC dX10_worked_8 (tgt := 163) (by decide) (fun h9 => ?_) (fun h9 => ?_)
    · rw [if_pos h9] at h
      refine g_aload_n hC dX10_worked_163 0 rfl rfl ?_
      refine g_getr hC dX10_worked_164 lfRX10_54 (isO_spec h0) (ft_10_23 h0) ?_
      refine g_iconst hC dX10_worked_167 ok_0 ?_
      obtain ⟨b9, h⟩ := of_ite h
      refine g_iald hC dX10_worked_168 (isA_spec (rf_10_23 h0)) b9 ?_
      exact ret_i h hR dX10_worked_169
    · rw [if_neg h9] at h
      refine g_aload_n hC dX10_worked_11 0 rfl rfl ?_
      refine g_getr hC dX10_worked_12 lfRX10_39 (isO_spec h0) (ft_10_14 h0) ?_
      refine g_iload hC dX10_worked_15 4 rfl ?_
      obtain ⟨b9, h⟩ := of_ite h
      refine g_iald hC dX10_worked_17 (isA_spec (rf_10_14 h0)) b9 ?_
      refine g_istore hC dX10_worked_18 (Nat.le_of_ble_eq_true rfl) rfl ?_
      refine g_iload hC dX10_worked_20 0 rfl ?_
      refine g_bipush hC dX10_worked_22 bp_18 ?_
      refine g_icmp_ge hC dX10_worked_24 (tgt := 33) (by decide) (fun h9 => ?_) (fun h9 => ?_)
      · rw [if_pos h9] at h
        exact g_pick [1, 2, 3, 4, 5, 0] rfl (bX10_worked_33 hC hcs h0 ih hR _ _ _ _ h)
      · rw [if_neg h9] at h
        refine g_iload hC dX10_worked_27 0 rfl ?_
        refine g_iconst hC dX10_worked_29 ok_5 ?_
        refine g_icmp_gt hC dX10_worked_30 (tgt := 67) (by decide) (fun h9 => ?_) (fun h9 => ?_)
        · rw [if_pos h9] at h
          refine g_iload hC dX10_worked_67 0 rfl ?_
          refine g_bipush hC dX10_worked_69 bp_16 ?_
          refine g_icmp_eq hC dX10_worked_71 (tgt := 81) (by decide) (fun h9 => ?_) (fun h9 => ?_)
          · rw [if_pos h9] at h
            exact g_pick [1, 2, 3, 4, 5, 0] rfl (bX10_worked_81 hC hcs h0 ih hR _ _ _ _ h)
          · rw [if_neg h9] at h
            refine g_iload hC dX10_worked_74 0 rfl ?_
            refine g_bipush hC dX10_worked_76 bp_17 ?_
            refine g_icmp_ne hC dX10_worked_78 (tgt := 127) (by decide) (fun h9 => ?_) (fun h9 => ?_)
            · rw [if_neg h9] at h
              refine g_iinc hC dX10_worked_127 4 rfl (Nat.le_of_ble_eq_true rfl) rfl ?_
              refine g_aload_n hC dX10_worked_130 2 rfl rfl ?_
              refine g_getr hC dX10_worked_131 lfRX10_54 (isO_spec h0) (ft_10_23 h0) ?_
              refine g_iload_n hC dX10_worked_134 0 rfl rfl ?_
              refine g_iconst hC dX10_worked_135 ok_1 ?_
              refine g_isub hC dX10_worked_136 ?_
              refine g_iload hC dX10_worked_137 1 rfl ?_
              refine g_aload_n hC dX10_worked_139 2 rfl rfl ?_
              refine g_getr hC dX10_worked_140 lfRX10_54 (isO_spec h0) (ft_10_23 h0) ?_
              refine g_iload_n hC dX10_worked_143 0 rfl rfl ?_
              refine g_iconst hC dX10_worked_144 ok_1 ?_
              refine g_isub hC dX10_worked_145 ?_
              obtain ⟨b9, h⟩ := of_ite h
              refine g_iald hC dX10_worked_146 (isA_spec (rf_10_23 h0)) b9 ?_
              refine g_aload_n hC dX10_worked_147 2 rfl rfl ?_
              refine g_getr hC dX10_worked_148 lfRX10_54 (isO_spec h0) (ft_10_23 h0) ?_
              refine g_iload_n hC dX10_worked_151 0 rfl rfl ?_
              obtain ⟨b9, h⟩ := of_ite h
              refine g_iald hC dX10_worked_152 (isA_spec (rf_10_23 h0)) b9 ?_
              obtain ⟨⟨r1, s1⟩, e1, h⟩ := of_bind h
              try dsimp only at h
              refine s_callSi hC dX10_worked_153 (tX10_both e1) miX10_both msX10_both mlRX10_210 rfl rfl (Nat.le_of_ble_eq_true rfl) (Nat.le_of_ble_eq_true rfl) (Nat.le_of_ble_eq_true rfl) hcs ?_
              obtain ⟨b9, h⟩ := of_ite h
              refine g_iast hC dX10_worked_156 (isA_spec (rf_10_23 h0)) b9 ?_
              exact g_pick [2, 3, 4, 0, 5] rfl (bX10_worked_157 hC hcs h0 ih hR _ _ _ h)
            · rw [if_pos h9] at h
              exact g_pick [1, 2, 3, 4, 5, 0] rfl (bX10_worked_81 hC hcs h0 ih hR _ _ _ _ h)
        · rw [if_neg h9] at h
          exact g_pick [1, 2, 3, 4, 5, 0] rfl (bX10_worked_33 hC hcs h0 ih hR _ _ _ _ h)
theorem bX10_worked_0 {K : KT} {g : GT} {cm sm : Nat} {cs : Nat × Nat} {c0 : Nat} {x1 : Int} {x2 : Int} {r : Int} {σ' : St} (hC : Ctx K g RX10 cX10_worked 6 1 cm sm) (hcs : cs.1 ≤ cm ∧ cs.2 ≤ sm) (h0 : isO 10 c0 = true) (hR : RetI K g cX10_worked 6 cs r (SH0, σ')) : ∀ (σ : St), fX10_worked c0 x1 x2 σ = some (r, σ') → G K g 6 cs 0 [(0, vr c0), (1, vi x1), (2, vi x2)] [] (SH0, σ) := by
  intro σ h
  unfold fX10_worked at h
  refine g_iconst hC dX10_worked_0 ok_0 ?_
  refine g_istore_n hC dX10_worked_1 rfl (Nat.le_of_ble_eq_true rfl) rfl ?_
  refine g_iload_n hC dX10_worked_2 2 rfl rfl ?_
  refine g_istore hC dX10_worked_3 (Nat.le_of_ble_eq_true rfl) rfl ?_
  exact g_pick [2, 3, 4, 1, 0] rfl (bX10_worked_5 hC hcs h0 hR _ _ _ _ h)
theorem tX10_worked {l : Launch} {g : GT} {c0 : Nat} {x1 : Int} {x2 : Int} {σ σ' : St} {r : Int} (h0 : isO 10 c0 = true) (h : fX10_worked c0 x1 x2 σ = some (r, σ')) : Cn l g yX10_worked cX10_worked 6 (some .int) 1 0 0 [vr c0, vi x1, vi x2] (SH0, σ) (some (vi r)) (SH0, σ') :=
  Cn.ofI (by decide) (Nat.le_of_ble_eq_true rfl) (fun K e hC hR => (bX10_worked_0 hC ⟨Nat.le_refl _, Nat.le_refl _⟩ h0 hR _ h))
theorem dX10_byLaw_0 : decode cX10_byLaw 0 = .ok (.iconst 0, 1) := by decide +kernel
theorem dX10_byLaw_1 : decode cX10_byLaw 1 = .ok (.istore_n 1, 1) := by decide +kernel
theorem dX10_byLaw_2 : decode cX10_byLaw 2 = .ok (.iload_n 1, 1) := by decide +kernel
theorem dX10_byLaw_3 : decode cX10_byLaw 3 = .ok (.aload_n 0, 1) := by decide +kernel
theorem dX10_byLaw_4 : decode cX10_byLaw 4 = .ok (.getfield 207, 3) := by decide +kernel
theorem dX10_byLaw_7 : decode cX10_byLaw 7 = .ok (.if_icmp .ge 63, 3) := by decide +kernel
theorem dX10_byLaw_10 : decode cX10_byLaw 10 = .ok (.aload_n 0, 1) := by decide +kernel
theorem dX10_byLaw_11 : decode cX10_byLaw 11 = .ok (.getfield 33, 3) := by decide +kernel
theorem dX10_byLaw_14 : decode cX10_byLaw 14 = .ok (.iload_n 1, 1) := by decide +kernel
theorem dX10_byLaw_15 : decode cX10_byLaw 15 = .ok (.iaload, 1) := by decide +kernel
theorem dX10_byLaw_16 : decode cX10_byLaw 16 = .ok (.aload_n 0, 1) := by decide +kernel
theorem dX10_byLaw_17 : decode cX10_byLaw 17 = .ok (.getfield 30, 3) := by decide +kernel
theorem dX10_byLaw_20 : decode cX10_byLaw 20 = .ok (.iload_n 1, 1) := by decide +kernel
theorem dX10_byLaw_21 : decode cX10_byLaw 21 = .ok (.iaload, 1) := by decide +kernel
theorem dX10_byLaw_22 : decode cX10_byLaw 22 = .ok (.if_icmp .le 25, 3) := by decide +kernel
theorem dX10_byLaw_25 : decode cX10_byLaw 25 = .ok (.aload_n 0, 1) := by decide +kernel
theorem dX10_byLaw_26 : decode cX10_byLaw 26 = .ok (.aload_n 0, 1) := by decide +kernel
theorem dX10_byLaw_27 : decode cX10_byLaw 27 = .ok (.getfield 30, 3) := by decide +kernel
theorem dX10_byLaw_30 : decode cX10_byLaw 30 = .ok (.iload_n 1, 1) := by decide +kernel
theorem dX10_byLaw_31 : decode cX10_byLaw 31 = .ok (.iaload, 1) := by decide +kernel
theorem dX10_byLaw_32 : decode cX10_byLaw 32 = .ok (.aload_n 0, 1) := by decide +kernel
theorem dX10_byLaw_33 : decode cX10_byLaw 33 = .ok (.getfield 33, 3) := by decide +kernel
theorem dX10_byLaw_36 : decode cX10_byLaw 36 = .ok (.iload_n 1, 1) := by decide +kernel
theorem dX10_byLaw_37 : decode cX10_byLaw 37 = .ok (.iaload, 1) := by decide +kernel
theorem dX10_byLaw_38 : decode cX10_byLaw 38 = .ok (.invokevirtual 213, 3) := by decide +kernel
theorem dX10_byLaw_41 : decode cX10_byLaw 41 = .ok (.ifCond .ne 6, 3) := by decide +kernel
theorem dX10_byLaw_44 : decode cX10_byLaw 44 = .ok (.goto 20, 3) := by decide +kernel
theorem dX10_byLaw_47 : decode cX10_byLaw 47 = .ok (.aload_n 0, 1) := by decide +kernel
theorem dX10_byLaw_48 : decode cX10_byLaw 48 = .ok (.aload_n 0, 1) := by decide +kernel
theorem dX10_byLaw_49 : decode cX10_byLaw 49 = .ok (.getfield 33, 3) := by decide +kernel
theorem dX10_byLaw_52 : decode cX10_byLaw 52 = .ok (.iload_n 1, 1) := by decide +kernel
theorem dX10_byLaw_53 : decode cX10_byLaw 53 = .ok (.iaload, 1) := by decide +kernel
theorem dX10_byLaw_54 : decode cX10_byLaw 54 = .ok (.aload_n 0, 1) := by decide +kernel
theorem dX10_byLaw_55 : decode cX10_byLaw 55 = .ok (.getfield 36, 3) := by decide +kernel
theorem dX10_byLaw_58 : decode cX10_byLaw 58 = .ok (.iload_n 1, 1) := by decide +kernel
theorem dX10_byLaw_59 : decode cX10_byLaw 59 = .ok (.iaload, 1) := by decide +kernel
theorem dX10_byLaw_60 : decode cX10_byLaw 60 = .ok (.invokevirtual 213, 3) := by decide +kernel
theorem dX10_byLaw_63 : decode cX10_byLaw 63 = .ok (.ireturn, 1) := by decide +kernel
theorem dX10_byLaw_64 : decode cX10_byLaw 64 = .ok (.iinc 1 1, 3) := by decide +kernel
theorem dX10_byLaw_67 : decode cX10_byLaw 67 = .ok (.goto (-65), 3) := by decide +kernel
theorem dX10_byLaw_70 : decode cX10_byLaw 70 = .ok (.iconst 0, 1) := by decide +kernel
theorem dX10_byLaw_71 : decode cX10_byLaw 71 = .ok (.ireturn, 1) := by decide +kernel
theorem bX10_byLaw_47 {K : KT} {g : GT} {cm sm : Nat} {cs : Nat × Nat} {c0 : Nat} {r : Int} {σ' : St} (hC : Ctx K g RX10 cX10_byLaw 2 2 cm sm) (hcs : cs.1 ≤ cm ∧ cs.2 ≤ sm) (h0 : isO 10 c0 = true) (hR : RetI K g cX10_byLaw 2 cs r (SH0, σ')) : ∀ (x1 : Int) (σ : St), fX10_byLaw_47 c0 x1 σ = some (r, σ') → G K g 2 cs 47 [(0, vr c0), (1, vi x1)] [] (SH0, σ) := by
  intro x1 σ h
  unfold fX10_byLaw_47 at h
  refine g_aload_n hC dX10_byLaw_47 0 rfl rfl ?_
  refine g_aload_n hC dX10_byLaw_48 0 rfl rfl ?_
  refine g_getr hC dX10_byLaw_49 lfRX10_33 (isO_spec h0) (ft_10_12 h0) ?_
  refine g_iload_n hC dX10_byLaw_52 1 rfl rfl ?_
  obtain ⟨b9, h⟩ := of_ite h
  refine g_iald hC dX10_byLaw_53 (isA_spec (rf_10_12 h0)) b9 ?_
  refine g_aload_n hC dX10_byLaw_54 0 rfl rfl ?_
  refine g_getr hC dX10_byLaw_55 lfRX10_36 (isO_spec h0) (ft_10_13 h0) ?_
  refine g_iload_n hC dX10_byLaw_58 1 rfl rfl ?_
  obtain ⟨b9, h⟩ := of_ite h
  refine g_iald hC dX10_byLaw_59 (isA_spec (rf_10_13 h0)) b9 ?_
  obtain ⟨⟨r1, s1⟩, e1, h⟩ := of_bind h
  try dsimp only at h
  refine s_callVi hC dX10_byLaw_60 (tX10_worked h0 e1) miX10_worked mvX10_worked mlRX10_213 (isO_spec h0) vc_10 rfl rfl (Nat.le_of_ble_eq_true rfl) (Nat.le_of_ble_eq_true rfl) (Nat.le_of_ble_eq_true rfl) hcs ?_
  exact ret_i h hR dX10_byLaw_63
theorem bX10_byLaw_2 {K : KT} {g : GT} {cm sm : Nat} {cs : Nat × Nat} {c0 : Nat} {r : Int} {σ' : St} (hC : Ctx K g RX10 cX10_byLaw 2 2 cm sm) (hcs : cs.1 ≤ cm ∧ cs.2 ≤ sm) (h0 : isO 10 c0 = true) (hR : RetI K g cX10_byLaw 2 cs r (SH0, σ')) : ∀ (n : Nat) (x1 : Int) (σ : St), fX10_byLaw_2 c0 n x1 σ = some (r, σ') → G K g 2 cs 2 [(0, vr c0), (1, vi x1)] [] (SH0, σ) := by
  intro n
  induction n with
  | zero =>
    intro x1 σ h
    rw [fX10_byLaw_2.eq_1] at h
    cases h
  | succ n ih =>
    intro x1 σ h
    rw [fX10_byLaw_2.eq_2] at h
    refine g_iload_n hC dX10_byLaw_2 1 rfl rfl ?_
    refine g_aload_n hC dX10_byLaw_3 0 rfl rfl ?_
    refine g_geti hC dX10_byLaw_4 lfRX10_207 (isO_spec h0) (ft_10_10 h0) ?_
    refine g_icmp_ge hC dX10_byLaw_7 (tgt := 70) (by decide) (fun h9 => ?_) (fun h9 => ?_)
    · rw [if_pos h9] at h
      refine g_iconst hC dX10_byLaw_70 ok_0 ?_
      exact ret_i h hR dX10_byLaw_71
    · rw [if_neg h9] at h
      refine g_aload_n hC dX10_byLaw_10 0 rfl rfl ?_
      refine g_getr hC dX10_byLaw_11 lfRX10_33 (isO_spec h0) (ft_10_12 h0) ?_
      refine g_iload_n hC dX10_byLaw_14 1 rfl rfl ?_
      obtain ⟨b9, h⟩ := of_ite h
      refine g_iald hC dX10_byLaw_15 (isA_spec (rf_10_12 h0)) b9 ?_
      refine g_aload_n hC dX10_byLaw_16 0 rfl rfl ?_
      refine g_getr hC dX10_byLaw_17 lfRX10_30 (isO_spec h0) (ft_10_11 h0) ?_
      refine g_iload_n hC dX10_byLaw_20 1 rfl rfl ?_
      obtain ⟨b9, h⟩ := of_ite h
      refine g_iald hC dX10_byLaw_21 (isA_spec (rf_10_11 h0)) b9 ?_
      refine g_icmp_le hC dX10_byLaw_22 (tgt := 47) (by decide) (fun h9 => ?_) (fun h9 => ?_)
      · rw [if_pos h9] at h
        exact g_pick [0, 1] rfl (bX10_byLaw_47 hC hcs h0 hR _ _ h)
      · rw [if_neg h9] at h
        refine g_aload_n hC dX10_byLaw_25 0 rfl rfl ?_
        refine g_aload_n hC dX10_byLaw_26 0 rfl rfl ?_
        refine g_getr hC dX10_byLaw_27 lfRX10_30 (isO_spec h0) (ft_10_11 h0) ?_
        refine g_iload_n hC dX10_byLaw_30 1 rfl rfl ?_
        obtain ⟨b9, h⟩ := of_ite h
        refine g_iald hC dX10_byLaw_31 (isA_spec (rf_10_11 h0)) b9 ?_
        refine g_aload_n hC dX10_byLaw_32 0 rfl rfl ?_
        refine g_getr hC dX10_byLaw_33 lfRX10_33 (isO_spec h0) (ft_10_12 h0) ?_
        refine g_iload_n hC dX10_byLaw_36 1 rfl rfl ?_
        obtain ⟨b9, h⟩ := of_ite h
        refine g_iald hC dX10_byLaw_37 (isA_spec (rf_10_12 h0)) b9 ?_
        obtain ⟨⟨r1, s1⟩, e1, h⟩ := of_bind h
        try dsimp only at h
        refine s_callVi hC dX10_byLaw_38 (tX10_worked h0 e1) miX10_worked mvX10_worked mlRX10_213 (isO_spec h0) vc_10 rfl rfl (Nat.le_of_ble_eq_true rfl) (Nat.le_of_ble_eq_true rfl) (Nat.le_of_ble_eq_true rfl) hcs ?_
        refine g_if_ne hC dX10_byLaw_41 (tgt := 47) (by decide) (fun h9 => ?_) (fun h9 => ?_)
        · rw [if_neg h9] at h
          exact g_pick [0, 1] rfl (bX10_byLaw_47 hC hcs h0 hR _ _ h)
        · rw [if_pos h9] at h
          refine g_goto hC dX10_byLaw_44 (tgt := 64) (by decide) ?_
          refine g_iinc hC dX10_byLaw_64 1 rfl (Nat.le_of_ble_eq_true rfl) rfl ?_
          refine g_goto hC dX10_byLaw_67 (tgt := 2) (by decide) ?_
          exact g_pick [1, 0] rfl (ih _ _ h)
theorem bX10_byLaw_0 {K : KT} {g : GT} {cm sm : Nat} {cs : Nat × Nat} {c0 : Nat} {r : Int} {σ' : St} (hC : Ctx K g RX10 cX10_byLaw 2 2 cm sm) (hcs : cs.1 ≤ cm ∧ cs.2 ≤ sm) (h0 : isO 10 c0 = true) (hR : RetI K g cX10_byLaw 2 cs r (SH0, σ')) : ∀ (σ : St), fX10_byLaw c0 σ = some (r, σ') → G K g 2 cs 0 [(0, vr c0)] [] (SH0, σ) := by
  intro σ h
  unfold fX10_byLaw at h
  refine g_iconst hC dX10_byLaw_0 ok_0 ?_
  refine g_istore_n hC dX10_byLaw_1 rfl (Nat.le_of_ble_eq_true rfl) rfl ?_
  exact g_pick [1, 0] rfl (bX10_byLaw_2 hC hcs h0 hR _ _ _ h)
theorem tX10_byLaw {l : Launch} {g : GT} {c0 : Nat} {σ σ' : St} {r : Int} (h0 : isO 10 c0 = true) (h : fX10_byLaw c0 σ = some (r, σ')) : Cn l g yX10_byLaw cX10_byLaw 2 (some .int) 2 0 0 [vr c0] (SH0, σ) (some (vi r)) (SH0, σ') :=
  Cn.ofI (by decide) (Nat.le_of_ble_eq_true rfl) (fun K e hC hR => (bX10_byLaw_0 hC ⟨Nat.le_refl _, Nat.le_refl _⟩ h0 hR _ h))
theorem dX10_missing_0 : decode cX10_missing 0 = .ok (.iconst 0, 1) := by decide +kernel
theorem dX10_missing_1 : decode cX10_missing 1 = .ok (.istore_n 2, 1) := by decide +kernel
theorem dX10_missing_2 : decode cX10_missing 2 = .ok (.iconst 0, 1) := by decide +kernel
theorem dX10_missing_3 : decode cX10_missing 3 = .ok (.istore_n 3, 1) := by decide +kernel
theorem dX10_missing_4 : decode cX10_missing 4 = .ok (.iload_n 3, 1) := by decide +kernel
theorem dX10_missing_5 : decode cX10_missing 5 = .ok (.aload_n 0, 1) := by decide +kernel
theorem dX10_missing_6 : decode cX10_missing 6 = .ok (.getfield 97, 3) := by decide +kernel
theorem dX10_missing_9 : decode cX10_missing 9 = .ok (.if_icmp .ge 41, 3) := by decide +kernel
theorem dX10_missing_12 : decode cX10_missing 12 = .ok (.aload_n 0, 1) := by decide +kernel
theorem dX10_missing_13 : decode cX10_missing 13 = .ok (.getfield 15, 3) := by decide +kernel
theorem dX10_missing_16 : decode cX10_missing 16 = .ok (.iload_n 3, 1) := by decide +kernel
theorem dX10_missing_17 : decode cX10_missing 17 = .ok (.iaload, 1) := by decide +kernel
theorem dX10_missing_18 : decode cX10_missing 18 = .ok (.iload_n 1, 1) := by decide +kernel
theorem dX10_missing_19 : decode cX10_missing 19 = .ok (.if_icmp .ne 25, 3) := by decide +kernel
theorem dX10_missing_22 : decode cX10_missing 22 = .ok (.aload_n 0, 1) := by decide +kernel
theorem dX10_missing_23 : decode cX10_missing 23 = .ok (.getfield 18, 3) := by decide +kernel
theorem dX10_missing_26 : decode cX10_missing 26 = .ok (.iload_n 3, 1) := by decide +kernel
theorem dX10_missing_27 : decode cX10_missing 27 = .ok (.iaload, 1) := by decide +kernel
theorem dX10_missing_28 : decode cX10_missing 28 = .ok (.iconst 1, 1) := by decide +kernel
theorem dX10_missing_29 : decode cX10_missing 29 = .ok (.if_icmp .ne 15, 3) := by decide +kernel
theorem dX10_missing_32 : decode cX10_missing 32 = .ok (.aload_n 0, 1) := by decide +kernel
theorem dX10_missing_33 : decode cX10_missing 33 = .ok (.getfield 21, 3) := by decide +kernel
theorem dX10_missing_36 : decode cX10_missing 36 = .ok (.iload_n 3, 1) := by decide +kernel
theorem dX10_missing_37 : decode cX10_missing 37 = .ok (.iaload, 1) := by decide +kernel
theorem dX10_missing_38 : decode cX10_missing 38 = .ok (.ifCond .le 6, 3) := by decide +kernel
theorem dX10_missing_41 : decode cX10_missing 41 = .ok (.iinc 2 1, 3) := by decide +kernel
theorem dX10_missing_44 : decode cX10_missing 44 = .ok (.iinc 3 1, 3) := by decide +kernel
theorem dX10_missing_47 : decode cX10_missing 47 = .ok (.goto (-43), 3) := by decide +kernel
theorem dX10_missing_50 : decode cX10_missing 50 = .ok (.iload_n 2, 1) := by decide +kernel
theorem dX10_missing_51 : decode cX10_missing 51 = .ok (.ireturn, 1) := by decide +kernel
theorem bX10_missing_44 {K : KT} {g : GT} {cm sm : Nat} {cs : Nat × Nat} {c0 : Nat} {x1 : Int} {k4 : Int → Int → St → Option (Int × St)} {r : Int} {σ' : St} (hC : Ctx K g RX10 cX10_missing 4 0 cm sm) (hcs : cs.1 ≤ cm ∧ cs.2 ≤ sm) (h0 : isO 10 c0 = true) (hk4 : ∀ (x2 : Int) (x3 : Int) (σ : St), k4 x2 x3 σ = some (r, σ') → G K g 4 cs 4 [(0, vr c0), (1, vi x1), (2, vi x2), (3, vi x3)] [] (SH0, σ)) (hR : RetI K g cX10_missing 4 cs r (SH0, σ')) : ∀ (x2 : Int) (x3 : Int) (σ : St), fX10_missing_44 c0 x1 k4 x2 x3 σ = some (r, σ') → G K g 4 cs 44 [(0, vr c0), (1, vi x1), (2, vi x2), (3, vi x3)] [] (SH0, σ) := by
  intro x2 x3 σ h
  unfold fX10_missing_44 at h
  refine g_iinc hC dX10_missing_44 3 rfl (Nat.le_of_ble_eq_true rfl) rfl ?_
  refine g_goto hC dX10_missing_47 (tgt := 4) (by decide) ?_
  exact g_pick [1, 2, 3, 0] rfl (hk4 _ _ _ h)
theorem bX10_missing_4 {K : KT} {g : GT} {cm sm : Nat} {cs : Nat × Nat} {c0 : Nat} {x1 : Int} {r : Int} {σ' : St} (hC : Ctx K g RX10 cX10_missing 4 0 cm sm) (hcs : cs.1 ≤ cm ∧ cs.2 ≤ sm) (h0 : isO 10 c0 = true) (hR : RetI K g cX10_missing 4 cs r (SH0, σ')) : ∀ (n : Nat) (x2 : Int) (x3 : Int) (σ : St), fX10_missing_4 c0 x1 n x2 x3 σ = some (r, σ') → G K g 4 cs 4 [(0, vr c0), (1, vi x1), (2, vi x2), (3, vi x3)] [] (SH0, σ) := by
  intro n
  induction n with
  | zero =>
    intro x2 x3 σ h
    rw [fX10_missing_4.eq_1] at h
    cases h
  | succ n ih =>
    intro x2 x3 σ h
    rw [fX10_missing_4.eq_2] at h
    refine g_iload_n hC dX10_missing_4 3 rfl rfl ?_
    refine g_aload_n hC dX10_missing_5 0 rfl rfl ?_
    refine g_geti hC dX10_missing_6 lfRX10_97 (isO_spec h0) (ft_10_0 h0) ?_
    refine g_icmp_ge hC dX10_missing_9 (tgt := 50) (by decide) (fun h9 => ?_) (fun h9 => ?_)
    · rw [if_pos h9] at h
      refine g_iload_n hC dX10_missing_50 2 rfl rfl ?_
      exact ret_i h hR dX10_missing_51
    · rw [if_neg h9] at h
      refine g_aload_n hC dX10_missing_12 0 rfl rfl ?_
      refine g_getr hC dX10_missing_13 lfRX10_15 (isO_spec h0) (ft_10_2 h0) ?_
      refine g_iload_n hC dX10_missing_16 3 rfl rfl ?_
      obtain ⟨b9, h⟩ := of_ite h
      refine g_iald hC dX10_missing_17 (isA_spec (rf_10_2 h0)) b9 ?_
      refine g_iload_n hC dX10_missing_18 1 rfl rfl ?_
      refine g_icmp_ne hC dX10_missing_19 (tgt := 44) (by decide) (fun h9 => ?_) (fun h9 => ?_)
      · rw [if_neg h9] at h
        exact g_pick [0, 1, 2, 3] rfl (bX10_missing_44 hC hcs h0 ih hR _ _ _ h)
      · rw [if_pos h9] at h
        refine g_aload_n hC dX10_missing_22 0 rfl rfl ?_
        refine g_getr hC dX10_missing_23 lfRX10_18 (isO_spec h0) (ft_10_3 h0) ?_
        refine g_iload_n hC dX10_missing_26 3 rfl rfl ?_
        obtain ⟨b9, h⟩ := of_ite h
        refine g_iald hC dX10_missing_27 (isA_spec (rf_10_3 h0)) b9 ?_
        refine g_iconst hC dX10_missing_28 ok_1 ?_
        refine g_icmp_ne hC dX10_missing_29 (tgt := 44) (by decide) (fun h9 => ?_) (fun h9 => ?_)
        · rw [if_neg h9] at h
          exact g_pick [0, 1, 2, 3] rfl (bX10_missing_44 hC hcs h0 ih hR _ _ _ h)
        · rw [if_pos h9] at h
          refine g_aload_n hC dX10_missing_32 0 rfl rfl ?_
          refine g_getr hC dX10_missing_33 lfRX10_21 (isO_spec h0) (ft_10_4 h0) ?_
          refine g_iload_n hC dX10_missing_36 3 rfl rfl ?_
          obtain ⟨b9, h⟩ := of_ite h
          refine g_iald hC dX10_missing_37 (isA_spec (rf_10_4 h0)) b9 ?_
          refine g_if_le hC dX10_missing_38 (tgt := 44) (by decide) (fun h9 => ?_) (fun h9 => ?_)
          · rw [if_pos h9] at h
            exact g_pick [0, 1, 2, 3] rfl (bX10_missing_44 hC hcs h0 ih hR _ _ _ h)
          · rw [if_neg h9] at h
            refine g_iinc hC dX10_missing_41 2 rfl (Nat.le_of_ble_eq_true rfl) rfl ?_
            exact g_pick [1, 2, 0, 3] rfl (bX10_missing_44 hC hcs h0 ih hR _ _ _ h)
theorem bX10_missing_0 {K : KT} {g : GT} {cm sm : Nat} {cs : Nat × Nat} {c0 : Nat} {x1 : Int} {r : Int} {σ' : St} (hC : Ctx K g RX10 cX10_missing 4 0 cm sm) (hcs : cs.1 ≤ cm ∧ cs.2 ≤ sm) (h0 : isO 10 c0 = true) (hR : RetI K g cX10_missing 4 cs r (SH0, σ')) : ∀ (σ : St), fX10_missing c0 x1 σ = some (r, σ') → G K g 4 cs 0 [(0, vr c0), (1, vi x1)] [] (SH0, σ) := by
  intro σ h
  unfold fX10_missing at h
  refine g_iconst hC dX10_missing_0 ok_0 ?_
  refine g_istore_n hC dX10_missing_1 rfl (Nat.le_of_ble_eq_true rfl) rfl ?_
  refine g_iconst hC dX10_missing_2 ok_0 ?_
  refine g_istore_n hC dX10_missing_3 rfl (Nat.le_of_ble_eq_true rfl) rfl ?_
  exact g_pick [2, 3, 1, 0] rfl (bX10_missing_4 hC hcs h0 hR _ _ _ _ h)
theorem tX10_missing {l : Launch} {g : GT} {c0 : Nat} {x1 : Int} {σ σ' : St} {r : Int} (h0 : isO 10 c0 = true) (h : fX10_missing c0 x1 σ = some (r, σ')) : Cn l g yX10_missing cX10_missing 4 (some .int) 0 0 0 [vr c0, vi x1] (SH0, σ) (some (vi r)) (SH0, σ') :=
  Cn.ofI (by decide) (Nat.le_of_ble_eq_true rfl) (fun K e hC hR => (bX10_missing_0 hC ⟨Nat.le_refl _, Nat.le_refl _⟩ h0 hR _ h))
