/-! Walks (printed by my program). -/
theorem dX6_kept_0 : decode cX6_kept 0 = .ok (.aload_n 0, 1) := by decide +kernel
theorem dX6_kept_1 : decode cX6_kept 1 = .ok (.getfield 25, 3) := by decide +kernel
theorem dX6_kept_4 : decode cX6_kept 4 = .ok (.tableswitch 48 0 3 #[32, 37, 42, 46], 32) := by decide +kernel
theorem dX6_kept_36 : decode cX6_kept 36 = .ok (.lload_n 1, 1) := by decide +kernel
theorem dX6_kept_37 : decode cX6_kept 37 = .ok (.l2i, 1) := by decide +kernel
theorem dX6_kept_38 : decode cX6_kept 38 = .ok (.i2b, 1) := by decide +kernel
theorem dX6_kept_39 : decode cX6_kept 39 = .ok (.i2l, 1) := by decide +kernel
theorem dX6_kept_40 : decode cX6_kept 40 = .ok (.lreturn, 1) := by decide +kernel
theorem dX6_kept_41 : decode cX6_kept 41 = .ok (.lload_n 1, 1) := by decide +kernel
theorem dX6_kept_42 : decode cX6_kept 42 = .ok (.l2i, 1) := by decide +kernel
theorem dX6_kept_43 : decode cX6_kept 43 = .ok (.i2s, 1) := by decide +kernel
theorem dX6_kept_44 : decode cX6_kept 44 = .ok (.i2l, 1) := by decide +kernel
theorem dX6_kept_45 : decode cX6_kept 45 = .ok (.lreturn, 1) := by decide +kernel
theorem dX6_kept_46 : decode cX6_kept 46 = .ok (.lload_n 1, 1) := by decide +kernel
theorem dX6_kept_47 : decode cX6_kept 47 = .ok (.l2i, 1) := by decide +kernel
theorem dX6_kept_48 : decode cX6_kept 48 = .ok (.i2l, 1) := by decide +kernel
theorem dX6_kept_49 : decode cX6_kept 49 = .ok (.lreturn, 1) := by decide +kernel
theorem dX6_kept_50 : decode cX6_kept 50 = .ok (.lload_n 1, 1) := by decide +kernel
theorem dX6_kept_51 : decode cX6_kept 51 = .ok (.lreturn, 1) := by decide +kernel
theorem dX6_kept_52 : decode cX6_kept 52 = .ok (.lload_n 1, 1) := by decide +kernel
theorem dX6_kept_53 : decode cX6_kept 53 = .ok (.lconst 0, 1) := by decide +kernel
theorem dX6_kept_54 : decode cX6_kept 54 = .ok (.lcmp, 1) := by decide +kernel
theorem dX6_kept_55 : decode cX6_kept 55 = .ok (.ifCond .eq 7, 3) := by decide +kernel
theorem dX6_kept_58 : decode cX6_kept 58 = .ok (.lconst 1, 1) := by decide +kernel
theorem dX6_kept_59 : decode cX6_kept 59 = .ok (.goto 4, 3) := by decide +kernel
theorem dX6_kept_62 : decode cX6_kept 62 = .ok (.lconst 0, 1) := by decide +kernel
theorem dX6_kept_63 : decode cX6_kept 63 = .ok (.lreturn, 1) := by decide +kernel
theorem bX6_kept_0 {K : KT} {g : GT} {cm sm : Nat} {cs : Nat × Nat} {c0 : Nat} {x1 : Int} {r : Int} {σ' : St} (hC : Ctx K g RX6 cX6_kept 3 0 cm sm) (hcs : cs.1 ≤ cm ∧ cs.2 ≤ sm) (h0 : isO 6 c0 = true) (hR : RetL K g cX6_kept 3 cs r (SH0, σ')) : ∀ (σ : St), fX6_kept c0 x1 σ = some (r, σ') → G K g 3 cs 0 [(0, vr c0), (1, vl x1)] [] (SH0, σ) := by
  intro σ h
  unfold fX6_kept at h
  refine g_aload_n hC dX6_kept_0 0 rfl rfl ?_
  refine g_geti hC dX6_kept_1 lfRX6_25 (isO_spec h0) (ft_6_3 h0) ?_
  by_cases h9 : (σ c0 3) = 0
  · rw [if_pos h9] at h
    refine g_table hC dX6_kept_4 36 (Or.inr (by (try dsimp only); rw [h9]; exact ⟨by decide, by decide, 32, rfl, by decide⟩)) ?_
    refine g_lload_n hC dX6_kept_36 1 rfl rfl ?_
    refine g_l2i hC dX6_kept_37 ?_
    refine g_i2b hC dX6_kept_38 ?_
    refine g_i2l hC dX6_kept_39 ?_
    exact ret_l h hR dX6_kept_40
  rw [if_neg h9] at h
  have n1 := h9
  clear h9
  by_cases h9 : (σ c0 3) = 1
  · rw [if_pos h9] at h
    refine g_table hC dX6_kept_4 41 (Or.inr (by (try dsimp only); rw [h9]; exact ⟨by decide, by decide, 37, rfl, by decide⟩)) ?_
    refine g_lload_n hC dX6_kept_41 1 rfl rfl ?_
    refine g_l2i hC dX6_kept_42 ?_
    refine g_i2s hC dX6_kept_43 ?_
    refine g_i2l hC dX6_kept_44 ?_
    exact ret_l h hR dX6_kept_45
  rw [if_neg h9] at h
  have n2 := h9
  clear h9
  by_cases h9 : (σ c0 3) = 2
  · rw [if_pos h9] at h
    refine g_table hC dX6_kept_4 46 (Or.inr (by (try dsimp only); rw [h9]; exact ⟨by decide, by decide, 42, rfl, by decide⟩)) ?_
    refine g_lload_n hC dX6_kept_46 1 rfl rfl ?_
    refine g_l2i hC dX6_kept_47 ?_
    refine g_i2l hC dX6_kept_48 ?_
    exact ret_l h hR dX6_kept_49
  rw [if_neg h9] at h
  have n3 := h9
  clear h9
  by_cases h9 : (σ c0 3) = 3
  · rw [if_pos h9] at h
    refine g_table hC dX6_kept_4 50 (Or.inr (by (try dsimp only); rw [h9]; exact ⟨by decide, by decide, 46, rfl, by decide⟩)) ?_
    refine g_lload_n hC dX6_kept_50 1 rfl rfl ?_
    exact ret_l h hR dX6_kept_51
  rw [if_neg h9] at h
  have n4 := h9
  clear h9
  refine g_table hC dX6_kept_4 52 (by
    exact Or.inl ⟨by (try dsimp only); omega, by decide⟩) ?_
  refine g_lload_n hC dX6_kept_52 1 rfl rfl ?_
  refine g_lconst hC dX6_kept_53 lc_0 ?_
  refine g_lcmp hC dX6_kept_54 ?_
  refine g_if_eq hC dX6_kept_55 (tgt := 62) (by decide) (fun h9 => ?_) (fun h9 => ?_)
  · rw [if_pos h9] at h
    refine g_lconst hC dX6_kept_62 lc_0 ?_
    exact ret_l h hR dX6_kept_63
  · rw [if_neg h9] at h
    refine g_lconst hC dX6_kept_58 lc_1 ?_
    refine g_goto hC dX6_kept_59 (tgt := 63) (by decide) ?_
    exact ret_l h hR dX6_kept_63
theorem tX6_kept {l : Launch} {g : GT} {c0 : Nat} {x1 : Int} {σ σ' : St} {r : Int} (h0 : isO 6 c0 = true) (h : fX6_kept c0 x1 σ = some (r, σ')) : Cn l g yX6_kept cX6_kept 3 (some .long) 0 0 0 [vr c0, vl x1] (SH0, σ) (some (vl r)) (SH0, σ') :=
  Cn.ofL (by decide) (Nat.le_of_ble_eq_true rfl) (fun K e hC hR => (bX6_kept_0 hC ⟨Nat.le_refl _, Nat.le_refl _⟩ h0 hR _ h))
theorem dX6_lay_0 : decode cX6_lay 0 = .ok (.aload_n 0, 1) := by decide +kernel
theorem dX6_lay_1 : decode cX6_lay 1 = .ok (.iload_n 1, 1) := by decide +kernel
theorem dX6_lay_2 : decode cX6_lay 2 = .ok (.iconst 1, 1) := by decide +kernel
theorem dX6_lay_3 : decode cX6_lay 3 = .ok (.invokevirtual 47, 3) := by decide +kernel
theorem dX6_lay_6 : decode cX6_lay 6 = .ok (.ifCond .eq 14, 3) := by decide +kernel
theorem dX6_lay_9 : decode cX6_lay 9 = .ok (.aload_n 0, 1) := by decide +kernel
theorem dX6_lay_10 : decode cX6_lay 10 = .ok (.getfield 9, 3) := by decide +kernel
theorem dX6_lay_13 : decode cX6_lay 13 = .ok (.iload_n 1, 1) := by decide +kernel
theorem dX6_lay_14 : decode cX6_lay 14 = .ok (.aload_n 0, 1) := by decide +kernel
theorem dX6_lay_15 : decode cX6_lay 15 = .ok (.lload_n 2, 1) := by decide +kernel
theorem dX6_lay_16 : decode cX6_lay 16 = .ok (.invokevirtual 51, 3) := by decide +kernel
theorem dX6_lay_19 : decode cX6_lay 19 = .ok (.lastore, 1) := by decide +kernel
theorem dX6_lay_20 : decode cX6_lay 20 = .ok (.return_, 1) := by decide +kernel
theorem bX6_lay_0 {K : KT} {g : GT} {cm sm : Nat} {cs : Nat × Nat} {c0 : Nat} {x1 : Int} {x2 : Int} {σ' : St} (hC : Ctx K g RX6 cX6_lay 4 1 cm sm) (hcs : cs.1 ≤ cm ∧ cs.2 ≤ sm) (h0 : isO 6 c0 = true) (hR : RetV K g cX6_lay 4 cs (SH0, σ')) : ∀ (σ : St), fX6_lay c0 x1 x2 σ = some σ' → G K g 4 cs 0 [(0, vr c0), (1, vi x1), (2, vl x2)] [] (SH0, σ) := by
  intro σ h
  unfold fX6_lay at h
  refine g_aload_n hC dX6_lay_0 0 rfl rfl ?_
  refine g_iload_n hC dX6_lay_1 1 rfl rfl ?_
  refine g_iconst hC dX6_lay_2 ok_1 ?_
  obtain ⟨⟨r1, s1⟩, e1, h⟩ := of_bind h
  try dsimp only at h
  refine s_callVi hC dX6_lay_3 (tX6_hasRun h0 e1) miX6_hasRun mvX6_hasRun mlRX6_47 (isO_spec h0) vc_6 rfl rfl (Nat.le_of_ble_eq_true rfl) (Nat.le_of_ble_eq_true rfl) (Nat.le_of_ble_eq_true rfl) hcs ?_
  refine g_if_eq hC dX6_lay_6 (tgt := 20) (by decide) (fun h9 => ?_) (fun h9 => ?_)
  · rw [if_pos h9] at h
    exact ret_v h hR dX6_lay_20
  · rw [if_neg h9] at h
    refine g_aload_n hC dX6_lay_9 0 rfl rfl ?_
    refine g_getr hC dX6_lay_10 lfRX6_9 (isO_spec h0) (ft_6_0 h0) ?_
    refine g_iload_n hC dX6_lay_13 1 rfl rfl ?_
    refine g_aload_n hC dX6_lay_14 0 rfl rfl ?_
    refine g_lload_n hC dX6_lay_15 2 rfl rfl ?_
    obtain ⟨⟨r2, s2⟩, e2, h⟩ := of_bind h
    try dsimp only at h
    refine s_callVl hC dX6_lay_16 (tX6_kept h0 e2) miX6_kept mvX6_kept mlRX6_51 (isO_spec h0) vc_6 rfl rfl (Nat.le_of_ble_eq_true rfl) (Nat.le_of_ble_eq_true rfl) (Nat.le_of_ble_eq_true rfl) hcs ?_
    obtain ⟨b9, h⟩ := of_ite h
    refine g_last hC dX6_lay_19 (isA_spec (rf_6_0 h0)) b9 ?_
    exact ret_v h hR dX6_lay_20
theorem tX6_lay {l : Launch} {g : GT} {c0 : Nat} {x1 : Int} {x2 : Int} {σ σ' : St} (h0 : isO 6 c0 = true) (h : fX6_lay c0 x1 x2 σ = some σ') : Cn l g yX6_lay cX6_lay 4 none 1 0 0 [vr c0, vi x1, vl x2] (SH0, σ) none (SH0, σ') :=
  Cn.ofV (by decide) (Nat.le_of_ble_eq_true rfl) (fun K e hC hR => (bX6_lay_0 hC ⟨Nat.le_refl _, Nat.le_refl _⟩ h0 hR _ h))
theorem dX9_put_0 : decode cX9_put 0 = .ok (.aload_n 0, 1) := by decide +kernel
theorem dX9_put_1 : decode cX9_put 1 = .ok (.iload_n 1, 1) := by decide +kernel
theorem dX9_put_2 : decode cX9_put 2 = .ok (.iload_n 2, 1) := by decide +kernel
theorem dX9_put_3 : decode cX9_put 3 = .ok (.invokevirtual 319, 3) := by decide +kernel
theorem dX9_put_6 : decode cX9_put 6 = .ok (.istore 5, 2) := by decide +kernel
theorem dX9_put_8 : decode cX9_put 8 = .ok (.iload 5, 2) := by decide +kernel
theorem dX9_put_10 : decode cX9_put 10 = .ok (.ifCond .eq 6, 3) := by decide +kernel
theorem dX9_put_13 : decode cX9_put 13 = .ok (.iload 5, 2) := by decide +kernel
theorem dX9_put_15 : decode cX9_put 15 = .ok (.ireturn, 1) := by decide +kernel
theorem dX9_put_16 : decode cX9_put 16 = .ok (.aload_n 0, 1) := by decide +kernel
theorem dX9_put_17 : decode cX9_put 17 = .ok (.getfield 75, 3) := by decide +kernel
theorem dX9_put_20 : decode cX9_put 20 = .ok (.iload_n 1, 1) := by decide +kernel
theorem dX9_put_21 : decode cX9_put 21 = .ok (.aaload, 1) := by decide +kernel
theorem dX9_put_22 : decode cX9_put 22 = .ok (.iload_n 2, 1) := by decide +kernel
theorem dX9_put_23 : decode cX9_put 23 = .ok (.lload_n 3, 1) := by decide +kernel
theorem dX9_put_24 : decode cX9_put 24 = .ok (.invokevirtual 322, 3) := by decide +kernel
theorem dX9_put_27 : decode cX9_put 27 = .ok (.iconst 1, 1) := by decide +kernel
theorem dX9_put_28 : decode cX9_put 28 = .ok (.ireturn, 1) := by decide +kernel
theorem bX9_put_0 {K : KT} {g : GT} {cm sm : Nat} {cs : Nat × Nat} {c0 : Nat} {x1 : Int} {x2 : Int} {x3 : Int} {r : Int} {σ' : St} (hC : Ctx K g RX9 cX9_put 6 2 cm sm) (hcs : cs.1 ≤ cm ∧ cs.2 ≤ sm) (h0 : isO 9 c0 = true) (hR : RetI K g cX9_put 6 cs r (SH0, σ')) : ∀ (σ : St), fX9_put c0 x1 x2 x3 σ = some (r, σ') → G K g 6 cs 0 [(0, vr c0), (1, vi x1), (2, vi x2), (3, vl x3)] [] (SH0, σ) := by
  intro σ h
  unfold fX9_put at h
  refine g_aload_n hC dX9_put_0 0 rfl rfl ?_
  refine g_iload_n hC dX9_put_1 1 rfl rfl ?_
  refine g_iload_n hC dX9_put_2 2 rfl rfl ?_
  obtain ⟨⟨r1, s1⟩, e1, h⟩ := of_bind h
  try dsimp only at h
  refine s_callVi hC dX9_put_3 (tX9_refusesElement h0 e1) miX9_refusesElement mvX9_refusesElement mlRX9_319 (isO_spec h0) vc_9 rfl rfl (Nat.le_of_ble_eq_true rfl) (Nat.le_of_ble_eq_true rfl) (Nat.le_of_ble_eq_true rfl) hcs ?_
  refine g_istore hC dX9_put_6 (Nat.le_of_ble_eq_true rfl) rfl ?_
  refine g_iload hC dX9_put_8 0 rfl ?_
  refine g_if_eq hC dX9_put_10 (tgt := 16) (by decide) (fun h9 => ?_) (fun h9 => ?_)
  · rw [if_pos h9] at h
    refine g_aload_n hC dX9_put_16 1 rfl rfl ?_
    refine g_getr hC dX9_put_17 lfRX9_75 (isO_spec h0) (ft_9_8 h0) ?_
    refine g_iload_n hC dX9_put_20 2 rfl rfl ?_
    obtain ⟨b9, h⟩ := of_ite h
    refine g_aald hC dX9_put_21 (isA_spec (rf_9_8 h0)) b9 (sh_at (rf_9_8 h0) b9).1 ?_
    have b22 := (sh_at (rf_9_8 h0) b9).2
    refine g_iload_n hC dX9_put_22 3 rfl rfl ?_
    refine g_lload_n hC dX9_put_23 4 rfl rfl ?_
    obtain ⟨s3, e3, h⟩ := of_bind h
    try dsimp only at h
    refine s_callVv hC dX9_put_24 (tX6_lay b22 e3) miX6_lay mvX6_lay mlRX9_322 (isO_spec b22) vc_6 rfl rfl (Nat.le_of_ble_eq_true rfl) (Nat.le_of_ble_eq_true rfl) (Nat.le_of_ble_eq_true rfl) hcs ?_
    refine g_iconst hC dX9_put_27 ok_1 ?_
    exact ret_i h hR dX9_put_28
  · rw [if_neg h9] at h
    refine g_iload hC dX9_put_13 0 rfl ?_
    exact ret_i h hR dX9_put_15
theorem tX9_put {l : Launch} {g : GT} {c0 : Nat} {x1 : Int} {x2 : Int} {x3 : Int} {σ σ' : St} {r : Int} (h0 : isO 9 c0 = true) (h : fX9_put c0 x1 x2 x3 σ = some (r, σ')) : Cn l g yX9_put cX9_put 6 (some .int) 2 0 0 [vr c0, vi x1, vi x2, vl x3] (SH0, σ) (some (vi r)) (SH0, σ') :=
  Cn.ofI (by decide) (Nat.le_of_ble_eq_true rfl) (fun K e hC hR => (bX9_put_0 hC ⟨Nat.le_refl _, Nat.le_refl _⟩ h0 hR _ h))
theorem dX9_putUp_0 : decode cX9_putUp 0 = .ok (.aload_n 0, 1) := by decide +kernel
theorem dX9_putUp_1 : decode cX9_putUp 1 = .ok (.getfield 10, 3) := by decide +kernel
theorem dX9_putUp_4 : decode cX9_putUp 4 = .ok (.iload_n 1, 1) := by decide +kernel
theorem dX9_putUp_5 : decode cX9_putUp 5 = .ok (.invokevirtual 161, 3) := by decide +kernel
theorem dX9_putUp_8 : decode cX9_putUp 8 = .ok (.ifCond .ne 5, 3) := by decide +kernel
theorem dX9_putUp_11 : decode cX9_putUp 11 = .ok (.iconst (-1), 1) := by decide +kernel
theorem dX9_putUp_12 : decode cX9_putUp 12 = .ok (.ireturn, 1) := by decide +kernel
theorem dX9_putUp_13 : decode cX9_putUp 13 = .ok (.aload_n 0, 1) := by decide +kernel
theorem dX9_putUp_14 : decode cX9_putUp 14 = .ok (.getfield 10, 3) := by decide +kernel
theorem dX9_putUp_17 : decode cX9_putUp 17 = .ok (.iload_n 1, 1) := by decide +kernel
theorem dX9_putUp_18 : decode cX9_putUp 18 = .ok (.iconst 1, 1) := by decide +kernel
theorem dX9_putUp_19 : decode cX9_putUp 19 = .ok (.invokevirtual 122, 3) := by decide +kernel
theorem dX9_putUp_22 : decode cX9_putUp 22 = .ok (.ifCond .ge 15, 3) := by decide +kernel
theorem dX9_putUp_25 : decode cX9_putUp 25 = .ok (.aload_n 0, 1) := by decide +kernel
theorem dX9_putUp_26 : decode cX9_putUp 26 = .ok (.getfield 10, 3) := by decide +kernel
theorem dX9_putUp_29 : decode cX9_putUp 29 = .ok (.iload_n 1, 1) := by decide +kernel
theorem dX9_putUp_30 : decode cX9_putUp 30 = .ok (.iconst 2, 1) := by decide +kernel
theorem dX9_putUp_31 : decode cX9_putUp 31 = .ok (.invokevirtual 122, 3) := by decide +kernel
theorem dX9_putUp_34 : decode cX9_putUp 34 = .ok (.ifCond .eq 6, 3) := by decide +kernel
theorem dX9_putUp_37 : decode cX9_putUp 37 = .ok (.bipush (-5), 2) := by decide +kernel
theorem dX9_putUp_39 : decode cX9_putUp 39 = .ok (.ireturn, 1) := by decide +kernel
theorem dX9_putUp_40 : decode cX9_putUp 40 = .ok (.aload_n 0, 1) := by decide +kernel
theorem dX9_putUp_41 : decode cX9_putUp 41 = .ok (.getfield 28, 3) := by decide +kernel
theorem dX9_putUp_44 : decode cX9_putUp 44 = .ok (.aload_n 0, 1) := by decide +kernel
theorem dX9_putUp_45 : decode cX9_putUp 45 = .ok (.getfield 10, 3) := by decide +kernel
theorem dX9_putUp_48 : decode cX9_putUp 48 = .ok (.invokevirtual 147, 3) := by decide +kernel
theorem dX9_putUp_51 : decode cX9_putUp 51 = .ok (.aload_n 0, 1) := by decide +kernel
theorem dX9_putUp_52 : decode cX9_putUp 52 = .ok (.getfield 28, 3) := by decide +kernel
theorem dX9_putUp_55 : decode cX9_putUp 55 = .ok (.iload_n 1, 1) := by decide +kernel
theorem dX9_putUp_56 : decode cX9_putUp 56 = .ok (.invokevirtual 151, 3) := by decide +kernel
theorem dX9_putUp_59 : decode cX9_putUp 59 = .ok (.aload_n 0, 1) := by decide +kernel
theorem dX9_putUp_60 : decode cX9_putUp 60 = .ok (.getfield 28, 3) := by decide +kernel
theorem dX9_putUp_63 : decode cX9_putUp 63 = .ok (.invokevirtual 164, 3) := by decide +kernel
theorem dX9_putUp_66 : decode cX9_putUp 66 = .ok (.istore_n 2, 1) := by decide +kernel
theorem dX9_putUp_67 : decode cX9_putUp 67 = .ok (.iload_n 2, 1) := by decide +kernel
theorem dX9_putUp_68 : decode cX9_putUp 68 = .ok (.bipush 8, 2) := by decide +kernel
theorem dX9_putUp_70 : decode cX9_putUp 70 = .ok (.if_icmp .ne 36, 3) := by decide +kernel
theorem dX9_putUp_73 : decode cX9_putUp 73 = .ok (.aload_n 0, 1) := by decide +kernel
theorem dX9_putUp_74 : decode cX9_putUp 74 = .ok (.getfield 10, 3) := by decide +kernel
theorem dX9_putUp_77 : decode cX9_putUp 77 = .ok (.iload_n 1, 1) := by decide +kernel
theorem dX9_putUp_78 : decode cX9_putUp 78 = .ok (.iconst 2, 1) := by decide +kernel
theorem dX9_putUp_79 : decode cX9_putUp 79 = .ok (.iconst 1, 1) := by decide +kernel
theorem dX9_putUp_80 : decode cX9_putUp 80 = .ok (.invokevirtual 126, 3) := by decide +kernel
theorem dX9_putUp_83 : decode cX9_putUp 83 = .ok (.aload_n 0, 1) := by decide +kernel
theorem dX9_putUp_84 : decode cX9_putUp 84 = .ok (.getfield 10, 3) := by decide +kernel
theorem dX9_putUp_87 : decode cX9_putUp 87 = .ok (.iload_n 1, 1) := by decide +kernel
theorem dX9_putUp_88 : decode cX9_putUp 88 = .ok (.iconst 3, 1) := by decide +kernel
theorem dX9_putUp_89 : decode cX9_putUp 89 = .ok (.iconst 0, 1) := by decide +kernel
theorem dX9_putUp_90 : decode cX9_putUp 90 = .ok (.invokevirtual 126, 3) := by decide +kernel
theorem dX9_putUp_93 : decode cX9_putUp 93 = .ok (.aload_n 0, 1) := by decide +kernel
theorem dX9_putUp_94 : decode cX9_putUp 94 = .ok (.getfield 69, 3) := by decide +kernel
theorem dX9_putUp_97 : decode cX9_putUp 97 = .ok (.iconst 1, 1) := by decide +kernel
theorem dX9_putUp_98 : decode cX9_putUp 98 = .ok (.dup2, 1) := by decide +kernel
theorem dX9_putUp_99 : decode cX9_putUp 99 = .ok (.iaload, 1) := by decide +kernel
theorem dX9_putUp_100 : decode cX9_putUp 100 = .ok (.iconst 1, 1) := by decide +kernel
theorem dX9_putUp_101 : decode cX9_putUp 101 = .ok (.iadd, 1) := by decide +kernel
theorem dX9_putUp_102 : decode cX9_putUp 102 = .ok (.iastore, 1) := by decide +kernel
theorem dX9_putUp_103 : decode cX9_putUp 103 = .ok (.goto 27, 3) := by decide +kernel
theorem dX9_putUp_106 : decode cX9_putUp 106 = .ok (.iload_n 2, 1) := by decide +kernel
theorem dX9_putUp_107 : decode cX9_putUp 107 = .ok (.ifCond .lt 23, 3) := by decide +kernel
theorem dX9_putUp_110 : decode cX9_putUp 110 = .ok (.aload_n 0, 1) := by decide +kernel
theorem dX9_putUp_111 : decode cX9_putUp 111 = .ok (.getfield 10, 3) := by decide +kernel
theorem dX9_putUp_114 : decode cX9_putUp 114 = .ok (.iload_n 1, 1) := by decide +kernel
theorem dX9_putUp_115 : decode cX9_putUp 115 = .ok (.iconst 1, 1) := by decide +kernel
theorem dX9_putUp_116 : decode cX9_putUp 116 = .ok (.iload_n 2, 1) := by decide +kernel
theorem dX9_putUp_117 : decode cX9_putUp 117 = .ok (.invokevirtual 126, 3) := by decide +kernel
theorem dX9_putUp_120 : decode cX9_putUp 120 = .ok (.aload_n 0, 1) := by decide +kernel
theorem dX9_putUp_121 : decode cX9_putUp 121 = .ok (.getfield 69, 3) := by decide +kernel
theorem dX9_putUp_124 : decode cX9_putUp 124 = .ok (.iconst 0, 1) := by decide +kernel
theorem dX9_putUp_125 : decode cX9_putUp 125 = .ok (.dup2, 1) := by decide +kernel
theorem dX9_putUp_126 : decode cX9_putUp 126 = .ok (.iaload, 1) := by decide +kernel
theorem dX9_putUp_127 : decode cX9_putUp 127 = .ok (.iconst 1, 1) := by decide +kernel
theorem dX9_putUp_128 : decode cX9_putUp 128 = .ok (.iadd, 1) := by decide +kernel
theorem dX9_putUp_129 : decode cX9_putUp 129 = .ok (.iastore, 1) := by decide +kernel
theorem dX9_putUp_130 : decode cX9_putUp 130 = .ok (.iload_n 2, 1) := by decide +kernel
theorem dX9_putUp_131 : decode cX9_putUp 131 = .ok (.ireturn, 1) := by decide +kernel
theorem bX9_putUp_0 {K : KT} {g : GT} {cm sm : Nat} {cs : Nat × Nat} {c0 : Nat} {x1 : Int} {r : Int} {σ' : St} (hC : Ctx K g RX9 cX9_putUp 3 4 cm sm) (hcs : cs.1 ≤ cm ∧ cs.2 ≤ sm) (h0 : isO 9 c0 = true) (hR : RetI K g cX9_putUp 3 cs r (SH0, σ')) : ∀ (σ : St), fX9_putUp c0 x1 σ = some (r, σ') → G K g 3 cs 0 [(0, vr c0), (1, vi x1)] [] (SH0, σ) := by
  intro σ h
  unfold fX9_putUp at h
  refine g_aload_n hC dX9_putUp_0 0 rfl rfl ?_
  refine g_getr hC dX9_putUp_1 lfRX9_10 (isO_spec h0) (ft_9_0 h0) ?_
  refine g_iload_n hC dX9_putUp_4 1 rfl rfl ?_
  obtain ⟨⟨r1, s1⟩, e1, h⟩ := of_bind h
  try dsimp only at h
  refine s_callVi hC dX9_putUp_5 (tX2_hasThing (rf_9_0 h0) e1) miX2_hasThing mvX2_hasThing mlRX9_161 (isO_spec (rf_9_0 h0)) vc_2 rfl rfl (Nat.le_of_ble_eq_true rfl) (Nat.le_of_ble_eq_true rfl) (Nat.le_of_ble_eq_true rfl) hcs ?_
  refine g_if_ne hC dX9_putUp_8 (tgt := 13) (by decide) (fun h9 => ?_) (fun h9 => ?_)
  · rw [if_neg h9] at h
    refine g_aload_n hC dX9_putUp_13 0 rfl rfl ?_
    refine g_getr hC dX9_putUp_14 lfRX9_10 (isO_spec h0) (ft_9_0 h0) ?_
    refine g_iload_n hC dX9_putUp_17 1 rfl rfl ?_
    refine g_iconst hC dX9_putUp_18 ok_1 ?_
    obtain ⟨⟨r2, s2⟩, e2, h⟩ := of_bind h
    try dsimp only at h
    refine s_callVi hC dX9_putUp_19 (tX2_number (rf_9_0 h0) e2) miX2_number mvX2_number mlRX9_122 (isO_spec (rf_9_0 h0)) vc_2 rfl rfl (Nat.le_of_ble_eq_true rfl) (Nat.le_of_ble_eq_true rfl) (Nat.le_of_ble_eq_true rfl) hcs ?_
    refine g_if_ge hC dX9_putUp_22 (tgt := 37) (by decide) (fun h9 => ?_) (fun h9 => ?_)
    · rw [if_pos h9] at h
      refine g_bipush hC dX9_putUp_37 bp_m5 ?_
      exact ret_i h hR dX9_putUp_39
    · rw [if_neg h9] at h
      refine g_aload_n hC dX9_putUp_25 0 rfl rfl ?_
      refine g_getr hC dX9_putUp_26 lfRX9_10 (isO_spec h0) (ft_9_0 h0) ?_
      refine g_iload_n hC dX9_putUp_29 1 rfl rfl ?_
      refine g_iconst hC dX9_putUp_30 ok_2 ?_
      obtain ⟨⟨r3, s3⟩, e3, h⟩ := of_bind h
      try dsimp only at h
      refine s_callVi hC dX9_putUp_31 (tX2_number (rf_9_0 h0) e3) miX2_number mvX2_number mlRX9_122 (isO_spec (rf_9_0 h0)) vc_2 rfl rfl (Nat.le_of_ble_eq_true rfl) (Nat.le_of_ble_eq_true rfl) (Nat.le_of_ble_eq_true rfl) hcs ?_
      refine g_if_eq hC dX9_putUp_34 (tgt := 40) (by decide) (fun h9 => ?_) (fun h9 => ?_)
      · rw [if_pos h9] at h
        refine g_aload_n hC dX9_putUp_40 0 rfl rfl ?_
        refine g_getr hC dX9_putUp_41 lfRX9_28 (isO_spec h0) (ft_9_2 h0) ?_
        refine g_aload_n hC dX9_putUp_44 0 rfl rfl ?_
        refine g_getr hC dX9_putUp_45 lfRX9_10 (isO_spec h0) (ft_9_0 h0) ?_
        obtain ⟨s4, e4, h⟩ := of_bind h
        try dsimp only at h
        refine s_callVv hC dX9_putUp_48 (tX7_begin (rf_9_2 h0) (rf_9_0 h0) e4) miX7_begin mvX7_begin mlRX9_147 (isO_spec (rf_9_2 h0)) vc_7 rfl rfl (Nat.le_of_ble_eq_true rfl) (Nat.le_of_ble_eq_true rfl) (Nat.le_of_ble_eq_true rfl) hcs ?_
        refine g_aload_n hC dX9_putUp_51 0 rfl rfl ?_
        refine g_getr hC dX9_putUp_52 lfRX9_28 (isO_spec h0) (ft_9_2 h0) ?_
        refine g_iload_n hC dX9_putUp_55 1 rfl rfl ?_
        obtain ⟨s5, e5, h⟩ := of_bind h
        try dsimp only at h
        refine s_callVv hC dX9_putUp_56 (tX7_considers (rf_9_2 h0) e5) miX7_considers mvX7_considers mlRX9_151 (isO_spec (rf_9_2 h0)) vc_7 rfl rfl (Nat.le_of_ble_eq_true rfl) (Nat.le_of_ble_eq_true rfl) (Nat.le_of_ble_eq_true rfl) hcs ?_
        refine g_aload_n hC dX9_putUp_59 0 rfl rfl ?_
        refine g_getr hC dX9_putUp_60 lfRX9_28 (isO_spec h0) (ft_9_2 h0) ?_
        obtain ⟨⟨r6, s6⟩, e6, h⟩ := of_bind h
        try dsimp only at h
        refine s_callVi hC dX9_putUp_63 (tX7_winner (rf_9_2 h0) e6) miX7_winner mvX7_winner mlRX9_164 (isO_spec (rf_9_2 h0)) vc_7 rfl rfl (Nat.le_of_ble_eq_true rfl) (Nat.le_of_ble_eq_true rfl) (Nat.le_of_ble_eq_true rfl) hcs ?_
        refine g_istore_n hC dX9_putUp_66 rfl (Nat.le_of_ble_eq_true rfl) rfl ?_
        refine g_iload_n hC dX9_putUp_67 0 rfl rfl ?_
        refine g_bipush hC dX9_putUp_68 bp_8 ?_
        refine g_icmp_ne hC dX9_putUp_70 (tgt := 106) (by decide) (fun h9 => ?_) (fun h9 => ?_)
        · rw [if_neg h9] at h
          refine g_iload_n hC dX9_putUp_106 0 rfl rfl ?_
          refine g_if_lt hC dX9_putUp_107 (tgt := 130) (by decide) (fun h9 => ?_) (fun h9 => ?_)
          · rw [if_pos h9] at h
            refine g_iload_n hC dX9_putUp_130 0 rfl rfl ?_
            exact ret_i h hR dX9_putUp_131
          · rw [if_neg h9] at h
            refine g_aload_n hC dX9_putUp_110 1 rfl rfl ?_
            refine g_getr hC dX9_putUp_111 lfRX9_10 (isO_spec h0) (ft_9_0 h0) ?_
            refine g_iload_n hC dX9_putUp_114 2 rfl rfl ?_
            refine g_iconst hC dX9_putUp_115 ok_1 ?_
            refine g_iload_n hC dX9_putUp_116 0 rfl rfl ?_
            obtain ⟨s7, e7, h⟩ := of_bind h
            try dsimp only at h
            refine s_callVv hC dX9_putUp_117 (tX2_become (rf_9_0 h0) e7) miX2_become mvX2_become mlRX9_126 (isO_spec (rf_9_0 h0)) vc_2 rfl rfl (Nat.le_of_ble_eq_true rfl) (Nat.le_of_ble_eq_true rfl) (Nat.le_of_ble_eq_true rfl) hcs ?_
            refine g_aload_n hC dX9_putUp_120 1 rfl rfl ?_
            refine g_getr hC dX9_putUp_121 lfRX9_69 (isO_spec h0) (ft_9_9 h0) ?_
            refine g_iconst hC dX9_putUp_124 ok_0 ?_
            refine g_dup2 hC dX9_putUp_125 rfl rfl ?_
            obtain ⟨b9, h⟩ := of_ite h
            refine g_iald hC dX9_putUp_126 (isA_spec (rf_9_9 h0)) b9 ?_
            refine g_iconst hC dX9_putUp_127 ok_1 ?_
            refine g_iadd hC dX9_putUp_128 ?_
            obtain ⟨b9, h⟩ := of_ite h
            refine g_iast hC dX9_putUp_129 (isA_spec (rf_9_9 h0)) b9 ?_
            refine g_iload_n hC dX9_putUp_130 0 rfl rfl ?_
            exact ret_i h hR dX9_putUp_131
        · rw [if_pos h9] at h
          refine g_aload_n hC dX9_putUp_73 1 rfl rfl ?_
          refine g_getr hC dX9_putUp_74 lfRX9_10 (isO_spec h0) (ft_9_0 h0) ?_
          refine g_iload_n hC dX9_putUp_77 2 rfl rfl ?_
          refine g_iconst hC dX9_putUp_78 ok_2 ?_
          refine g_iconst hC dX9_putUp_79 ok_1 ?_
          obtain ⟨s8, e8, h⟩ := of_bind h
          try dsimp only at h
          refine s_callVv hC dX9_putUp_80 (tX2_become (rf_9_0 h0) e8) miX2_become mvX2_become mlRX9_126 (isO_spec (rf_9_0 h0)) vc_2 rfl rfl (Nat.le_of_ble_eq_true rfl) (Nat.le_of_ble_eq_true rfl) (Nat.le_of_ble_eq_true rfl) hcs ?_
          refine g_aload_n hC dX9_putUp_83 1 rfl rfl ?_
          refine g_getr hC dX9_putUp_84 lfRX9_10 (isO_spec h0) (ft_9_0 h0) ?_
          refine g_iload_n hC dX9_putUp_87 2 rfl rfl ?_
          refine g_iconst hC dX9_putUp_88 ok_3 ?_
          refine g_iconst hC dX9_putUp_89 ok_0 ?_
          obtain ⟨s9, e9, h⟩ := of_bind h
          try dsimp only at h
          refine s_callVv hC dX9_putUp_90 (tX2_become (rf_9_0 h0) e9) miX2_become mvX2_become mlRX9_126 (isO_spec (rf_9_0 h0)) vc_2 rfl rfl (Nat.le_of_ble_eq_true rfl) (Nat.le_of_ble_eq_true rfl) (Nat.le_of_ble_eq_true rfl) hcs ?_
          refine g_aload_n hC dX9_putUp_93 1 rfl rfl ?_
          refine g_getr hC dX9_putUp_94 lfRX9_69 (isO_spec h0) (ft_9_9 h0) ?_
          refine g_iconst hC dX9_putUp_97 ok_1 ?_
          refine g_dup2 hC dX9_putUp_98 rfl rfl ?_
          obtain ⟨b9, h⟩ := of_ite h
          refine g_iald hC dX9_putUp_99 (isA_spec (rf_9_9 h0)) b9 ?_
          refine g_iconst hC dX9_putUp_100 ok_1 ?_
          refine g_iadd hC dX9_putUp_101 ?_
          obtain ⟨b9, h⟩ := of_ite h
          refine g_iast hC dX9_putUp_102 (isA_spec (rf_9_9 h0)) b9 ?_
          refine g_goto hC dX9_putUp_103 (tgt := 130) (by decide) ?_
          refine g_iload_n hC dX9_putUp_130 0 rfl rfl ?_
          exact ret_i h hR dX9_putUp_131
      · rw [if_neg h9] at h
        refine g_bipush hC dX9_putUp_37 bp_m5 ?_
        exact ret_i h hR dX9_putUp_39
  · rw [if_pos h9] at h
    refine g_iconst hC dX9_putUp_11 ok_m1 ?_
    exact ret_i h hR dX9_putUp_12
theorem tX9_putUp {l : Launch} {g : GT} {c0 : Nat} {x1 : Int} {σ σ' : St} {r : Int} (h0 : isO 9 c0 = true) (h : fX9_putUp c0 x1 σ = some (r, σ')) : Cn l g yX9_putUp cX9_putUp 3 (some .int) 4 0 0 [vr c0, vi x1] (SH0, σ) (some (vi r)) (SH0, σ') :=
  Cn.ofI (by decide) (Nat.le_of_ble_eq_true rfl) (fun K e hC hR => (bX9_putUp_0 hC ⟨Nat.le_refl _, Nat.le_refl _⟩ h0 hR _ h))
theorem dX0_remake_0 : decode cX0_remake 0 = .ok (.aload_n 0, 1) := by decide +kernel
theorem dX0_remake_1 : decode cX0_remake 1 = .ok (.getfield 13, 3) := by decide +kernel
theorem dX0_remake_4 : decode cX0_remake 4 = .ok (.ifCond .le 65, 3) := by decide +kernel
theorem dX0_remake_7 : decode cX0_remake 7 = .ok (.aload_n 0, 1) := by decide +kernel
theorem dX0_remake_8 : decode cX0_remake 8 = .ok (.getfield 17, 3) := by decide +kernel
theorem dX0_remake_11 : decode cX0_remake 11 = .ok (.bipush 40, 2) := by decide +kernel
theorem dX0_remake_13 : decode cX0_remake 13 = .ok (.if_icmp .ge 56, 3) := by decide +kernel
theorem dX0_remake_16 : decode cX0_remake 16 = .ok (.aload_n 0, 1) := by decide +kernel
theorem dX0_remake_17 : decode cX0_remake 17 = .ok (.getfield 17, 3) := by decide +kernel
theorem dX0_remake_20 : decode cX0_remake 20 = .ok (.iconst 4, 1) := by decide +kernel
theorem dX0_remake_21 : decode cX0_remake 21 = .ok (.imul, 1) := by decide +kernel
theorem dX0_remake_22 : decode cX0_remake 22 = .ok (.istore_n 2, 1) := by decide +kernel
theorem dX0_remake_23 : decode cX0_remake 23 = .ok (.aload_n 1, 1) := by decide +kernel
theorem dX0_remake_24 : decode cX0_remake 24 = .ok (.aload_n 0, 1) := by decide +kernel
theorem dX0_remake_25 : decode cX0_remake 25 = .ok (.getfield 9, 3) := by decide +kernel
theorem dX0_remake_28 : decode cX0_remake 28 = .ok (.iload_n 2, 1) := by decide +kernel
theorem dX0_remake_29 : decode cX0_remake 29 = .ok (.iaload, 1) := by decide +kernel
theorem dX0_remake_30 : decode cX0_remake 30 = .ok (.aload_n 0, 1) := by decide +kernel
theorem dX0_remake_31 : decode cX0_remake 31 = .ok (.getfield 9, 3) := by decide +kernel
theorem dX0_remake_34 : decode cX0_remake 34 = .ok (.iload_n 2, 1) := by decide +kernel
theorem dX0_remake_35 : decode cX0_remake 35 = .ok (.iconst 1, 1) := by decide +kernel
theorem dX0_remake_36 : decode cX0_remake 36 = .ok (.iadd, 1) := by decide +kernel
theorem dX0_remake_37 : decode cX0_remake 37 = .ok (.iaload, 1) := by decide +kernel
theorem dX0_remake_38 : decode cX0_remake 38 = .ok (.aload_n 0, 1) := by decide +kernel
theorem dX0_remake_39 : decode cX0_remake 39 = .ok (.getfield 9, 3) := by decide +kernel
theorem dX0_remake_42 : decode cX0_remake 42 = .ok (.iload_n 2, 1) := by decide +kernel
theorem dX0_remake_43 : decode cX0_remake 43 = .ok (.iconst 3, 1) := by decide +kernel
theorem dX0_remake_44 : decode cX0_remake 44 = .ok (.iadd, 1) := by decide +kernel
theorem dX0_remake_45 : decode cX0_remake 45 = .ok (.iaload, 1) := by decide +kernel
theorem dX0_remake_46 : decode cX0_remake 46 = .ok (.invokevirtual 26, 3) := by decide +kernel
theorem dX0_remake_49 : decode cX0_remake 49 = .ok (.aload_n 0, 1) := by decide +kernel
theorem dX0_remake_50 : decode cX0_remake 50 = .ok (.dup, 1) := by decide +kernel
theorem dX0_remake_51 : decode cX0_remake 51 = .ok (.getfield 17, 3) := by decide +kernel
theorem dX0_remake_54 : decode cX0_remake 54 = .ok (.iconst 1, 1) := by decide +kernel
theorem dX0_remake_55 : decode cX0_remake 55 = .ok (.iadd, 1) := by decide +kernel
theorem dX0_remake_56 : decode cX0_remake 56 = .ok (.putfield 17, 3) := by decide +kernel
theorem dX0_remake_59 : decode cX0_remake 59 = .ok (.aload_n 0, 1) := by decide +kernel
theorem dX0_remake_60 : decode cX0_remake 60 = .ok (.dup, 1) := by decide +kernel
theorem dX0_remake_61 : decode cX0_remake 61 = .ok (.getfield 13, 3) := by decide +kernel
theorem dX0_remake_64 : decode cX0_remake 64 = .ok (.iconst 1, 1) := by decide +kernel
theorem dX0_remake_65 : decode cX0_remake 65 = .ok (.isub, 1) := by decide +kernel
theorem dX0_remake_66 : decode cX0_remake 66 = .ok (.putfield 13, 3) := by decide +kernel
theorem dX0_remake_69 : decode cX0_remake 69 = .ok (.aload_n 0, 1) := by decide +kernel
theorem dX0_remake_70 : decode cX0_remake 70 = .ok (.getfield 13, 3) := by decide +kernel
theorem dX0_remake_73 : decode cX0_remake 73 = .ok (.ireturn, 1) := by decide +kernel
theorem bX0_remake_0 {K : KT} {g : GT} {cm sm : Nat} {cs : Nat × Nat} {c0 : Nat} {c1 : Nat} {r : Int} {σ' : St} (hC : Ctx K g RX0 cX0_remake 3 1 cm sm) (hcs : cs.1 ≤ cm ∧ cs.2 ≤ sm) (h0 : isO 0 c0 = true) (h1 : isO 2 c1 = true) (hR : RetI K g cX0_remake 3 cs r (SH0, σ')) : ∀ (σ : St), fX0_remake c0 c1 σ = some (r, σ') → G K g 3 cs 0 [(0, vr c0), (1, vr c1)] [] (SH0, σ) := by
  intro σ h
  unfold fX0_remake at h
  refine g_aload_n hC dX0_remake_0 0 rfl rfl ?_
  refine g_geti hC dX0_remake_1 lfRX0_13 (isO_spec h0) (ft_0_2 h0) ?_
  refine g_if_le hC dX0_remake_4 (tgt := 69) (by decide) (fun h9 => ?_) (fun h9 => ?_)
  · rw [if_pos h9] at h
    refine g_aload_n hC dX0_remake_69 0 rfl rfl ?_
    refine g_geti hC dX0_remake_70 lfRX0_13 (isO_spec h0) (ft_0_2 h0) ?_
    exact ret_i h hR dX0_remake_73
  · rw [if_neg h9] at h
    refine g_aload_n hC dX0_remake_7 0 rfl rfl ?_
    refine g_geti hC dX0_remake_8 lfRX0_17 (isO_spec h0) (ft_0_1 h0) ?_
    refine g_bipush hC dX0_remake_11 bp_40 ?_
    refine g_icmp_ge hC dX0_remake_13 (tgt := 69) (by decide) (fun h9 => ?_) (fun h9 => ?_)
    · rw [if_pos h9] at h
      refine g_aload_n hC dX0_remake_69 0 rfl rfl ?_
      refine g_geti hC dX0_remake_70 lfRX0_13 (isO_spec h0) (ft_0_2 h0) ?_
      exact ret_i h hR dX0_remake_73
    · rw [if_neg h9] at h
      refine g_aload_n hC dX0_remake_16 0 rfl rfl ?_
      refine g_geti hC dX0_remake_17 lfRX0_17 (isO_spec h0) (ft_0_1 h0) ?_
      refine g_iconst hC dX0_remake_20 ok_4 ?_
      refine g_imul hC dX0_remake_21 ?_
      refine g_istore_n hC dX0_remake_22 rfl (Nat.le_of_ble_eq_true rfl) rfl ?_
      refine g_aload_n hC dX0_remake_23 2 rfl rfl ?_
      refine g_aload_n hC dX0_remake_24 1 rfl rfl ?_
      refine g_getr hC dX0_remake_25 lfRX0_9 (isO_spec h0) (ft_0_0 h0) ?_
      refine g_iload_n hC dX0_remake_28 0 rfl rfl ?_
      obtain ⟨b9, h⟩ := of_ite h
      refine g_iald hC dX0_remake_29 (isA_spec (rf_0_0 h0)) b9 ?_
      refine g_aload_n hC dX0_remake_30 1 rfl rfl ?_
      refine g_getr hC dX0_remake_31 lfRX0_9 (isO_spec h0) (ft_0_0 h0) ?_
      refine g_iload_n hC dX0_remake_34 0 rfl rfl ?_
      refine g_iconst hC dX0_remake_35 ok_1 ?_
      refine g_iadd hC dX0_remake_36 ?_
      obtain ⟨b9, h⟩ := of_ite h
      refine g_iald hC dX0_remake_37 (isA_spec (rf_0_0 h0)) b9 ?_
      refine g_aload_n hC dX0_remake_38 1 rfl rfl ?_
      refine g_getr hC dX0_remake_39 lfRX0_9 (isO_spec h0) (ft_0_0 h0) ?_
      refine g_iload_n hC dX0_remake_42 0 rfl rfl ?_
      refine g_iconst hC dX0_remake_43 ok_3 ?_
      refine g_iadd hC dX0_remake_44 ?_
      obtain ⟨b9, h⟩ := of_ite h
      refine g_iald hC dX0_remake_45 (isA_spec (rf_0_0 h0)) b9 ?_
      obtain ⟨s1, e1, h⟩ := of_bind h
      try dsimp only at h
      refine s_callVv hC dX0_remake_46 (tX2_become h1 e1) miX2_become mvX2_become mlRX0_26 (isO_spec h1) vc_2 rfl rfl (Nat.le_of_ble_eq_true rfl) (Nat.le_of_ble_eq_true rfl) (Nat.le_of_ble_eq_true rfl) hcs ?_
      refine g_aload_n hC dX0_remake_49 1 rfl rfl ?_
      refine g_dup hC dX0_remake_50 rfl ?_
      refine g_geti hC dX0_remake_51 lfRX0_17 (isO_spec h0) (ft_0_1 h0) ?_
      refine g_iconst hC dX0_remake_54 ok_1 ?_
      refine g_iadd hC dX0_remake_55 ?_
      refine g_puti hC dX0_remake_56 lfRX0_17 fp_0_1 (isO_spec h0) (ft_0_1 h0) ?_
      refine g_aload_n hC dX0_remake_59 1 rfl rfl ?_
      refine g_dup hC dX0_remake_60 rfl ?_
      refine g_geti hC dX0_remake_61 lfRX0_13 (isO_spec h0) (ft_0_2 h0) ?_
      refine g_iconst hC dX0_remake_64 ok_1 ?_
      refine g_isub hC dX0_remake_65 ?_
      refine g_puti hC dX0_remake_66 lfRX0_13 fp_0_2 (isO_spec h0) (ft_0_2 h0) ?_
      refine g_aload_n hC dX0_remake_69 1 rfl rfl ?_
      refine g_geti hC dX0_remake_70 lfRX0_13 (isO_spec h0) (ft_0_2 h0) ?_
      exact ret_i h hR dX0_remake_73
theorem tX0_remake {l : Launch} {g : GT} {c0 : Nat} {c1 : Nat} {σ σ' : St} {r : Int} (h0 : isO 0 c0 = true) (h1 : isO 2 c1 = true) (h : fX0_remake c0 c1 σ = some (r, σ')) : Cn l g yX0_remake cX0_remake 3 (some .int) 1 0 0 [vr c0, vr c1] (SH0, σ) (some (vi r)) (SH0, σ') :=
  Cn.ofI (by decide) (Nat.le_of_ble_eq_true rfl) (fun K e hC hR => (bX0_remake_0 hC ⟨Nat.le_refl _, Nat.le_refl _⟩ h0 h1 hR _ h))
theorem dX9_redo_0 : decode cX9_redo 0 = .ok (.aload_n 0, 1) := by decide +kernel
theorem dX9_redo_1 : decode cX9_redo 1 = .ok (.getfield 51, 3) := by decide +kernel
theorem dX9_redo_4 : decode cX9_redo 4 = .ok (.getfield 289, 3) := by decide +kernel
theorem dX9_redo_7 : decode cX9_redo 7 = .ok (.ifCond .ne 8, 3) := by decide +kernel
theorem dX9_redo_10 : decode cX9_redo 10 = .ok (.bipush (-5), 2) := by decide +kernel
theorem dX9_redo_12 : decode cX9_redo 12 = .ok (.goto 14, 3) := by decide +kernel
theorem dX9_redo_15 : decode cX9_redo 15 = .ok (.aload_n 0, 1) := by decide +kernel
theorem dX9_redo_16 : decode cX9_redo 16 = .ok (.getfield 51, 3) := by decide +kernel
theorem dX9_redo_19 : decode cX9_redo 19 = .ok (.aload_n 0, 1) := by decide +kernel
theorem dX9_redo_20 : decode cX9_redo 20 = .ok (.getfield 10, 3) := by decide +kernel
theorem dX9_redo_23 : decode cX9_redo 23 = .ok (.invokevirtual 292, 3) := by decide +kernel
theorem dX9_redo_26 : decode cX9_redo 26 = .ok (.ireturn, 1) := by decide +kernel
theorem bX9_redo_0 {K : KT} {g : GT} {cm sm : Nat} {cs : Nat × Nat} {c0 : Nat} {r : Int} {σ' : St} (hC : Ctx K g RX9 cX9_redo 1 2 cm sm) (hcs : cs.1 ≤ cm ∧ cs.2 ≤ sm) (h0 : isO 9 c0 = true) (hR : RetI K g cX9_redo 1 cs r (SH0, σ')) : ∀ (σ : St), fX9_redo c0 σ = some (r, σ') → G K g 1 cs 0 [(0, vr c0)] [] (SH0, σ) := by
  intro σ h
  unfold fX9_redo at h
  refine g_aload_n hC dX9_redo_0 0 rfl rfl ?_
  refine g_getr hC dX9_redo_1 lfRX9_51 (isO_spec h0) (ft_9_5 h0) ?_
  refine g_geti hC dX9_redo_4 lfRX9_289 (isO_spec (rf_9_5 h0)) (ft_0_2 (rf_9_5 h0)) ?_
  refine g_if_ne hC dX9_redo_7 (tgt := 15) (by decide) (fun h9 => ?_) (fun h9 => ?_)
  · rw [if_neg h9] at h
    refine g_aload_n hC dX9_redo_15 0 rfl rfl ?_
    refine g_getr hC dX9_redo_16 lfRX9_51 (isO_spec h0) (ft_9_5 h0) ?_
    refine g_aload_n hC dX9_redo_19 0 rfl rfl ?_
    refine g_getr hC dX9_redo_20 lfRX9_10 (isO_spec h0) (ft_9_0 h0) ?_
    obtain ⟨⟨r1, s1⟩, e1, h⟩ := of_bind h
    try dsimp only at h
    refine s_callVi hC dX9_redo_23 (tX0_remake (rf_9_5 h0) (rf_9_0 h0) e1) miX0_remake mvX0_remake mlRX9_292 (isO_spec (rf_9_5 h0)) vc_0 rfl rfl (Nat.le_of_ble_eq_true rfl) (Nat.le_of_ble_eq_true rfl) (Nat.le_of_ble_eq_true rfl) hcs ?_
    exact ret_i h hR dX9_redo_26
  · rw [if_pos h9] at h
    refine g_bipush hC dX9_redo_10 bp_m5 ?_
    refine g_goto hC dX9_redo_12 (tgt := 26) (by decide) ?_
    exact ret_i h hR dX9_redo_26
theorem tX9_redo {l : Launch} {g : GT} {c0 : Nat} {σ σ' : St} {r : Int} (h0 : isO 9 c0 = true) (h : fX9_redo c0 σ = some (r, σ')) : Cn l g yX9_redo cX9_redo 1 (some .int) 2 0 0 [vr c0] (SH0, σ) (some (vi r)) (SH0, σ') :=
  Cn.ofI (by decide) (Nat.le_of_ble_eq_true rfl) (fun K e hC hR => (bX9_redo_0 hC ⟨Nat.le_refl _, Nat.le_refl _⟩ h0 hR _ h))
theorem dX6_holdRow_0 : decode cX6_holdRow 0 = .ok (.aload_n 0, 1) := by decide +kernel
theorem dX6_holdRow_1 : decode cX6_holdRow 1 = .ok (.iconst 2, 1) := by decide +kernel
theorem dX6_holdRow_2 : decode cX6_holdRow 2 = .ok (.putfield 15, 3) := by decide +kernel
theorem dX6_holdRow_5 : decode cX6_holdRow 5 = .ok (.aload_n 0, 1) := by decide +kernel
theorem dX6_holdRow_6 : decode cX6_holdRow 6 = .ok (.iload_n 1, 1) := by decide +kernel
theorem dX6_holdRow_7 : decode cX6_holdRow 7 = .ok (.putfield 25, 3) := by decide +kernel
theorem dX6_holdRow_10 : decode cX6_holdRow 10 = .ok (.aload_n 0, 1) := by decide +kernel
theorem dX6_holdRow_11 : decode cX6_holdRow 11 = .ok (.iconst 0, 1) := by decide +kernel
theorem dX6_holdRow_12 : decode cX6_holdRow 12 = .ok (.bipush 60, 2) := by decide +kernel
theorem dX6_holdRow_14 : decode cX6_holdRow 14 = .ok (.iload_n 2, 1) := by decide +kernel
theorem dX6_holdRow_15 : decode cX6_holdRow 15 = .ok (.invokestatic 28, 3) := by decide +kernel
theorem dX6_holdRow_18 : decode cX6_holdRow 18 = .ok (.invokestatic 34, 3) := by decide +kernel
theorem dX6_holdRow_21 : decode cX6_holdRow 21 = .ok (.putfield 19, 3) := by decide +kernel
theorem dX6_holdRow_24 : decode cX6_holdRow 24 = .ok (.aload_n 0, 1) := by decide +kernel
theorem dX6_holdRow_25 : decode cX6_holdRow 25 = .ok (.getfield 9, 3) := by decide +kernel
theorem dX6_holdRow_28 : decode cX6_holdRow 28 = .ok (.lconst 0, 1) := by decide +kernel
theorem dX6_holdRow_29 : decode cX6_holdRow 29 = .ok (.invokestatic 37, 3) := by decide +kernel
theorem dX6_holdRow_32 : decode cX6_holdRow 32 = .ok (.return_, 1) := by decide +kernel
theorem bX6_holdRow_0 {K : KT} {g : GT} {cm sm : Nat} {cs : Nat × Nat} {c0 : Nat} {x1 : Int} {x2 : Int} {σ' : St} (hC : Ctx K g RX6 cX6_holdRow 3 1 cm sm) (hcs : cs.1 ≤ cm ∧ cs.2 ≤ sm) (h0 : isO 6 c0 = true) (hR : RetV K g cX6_holdRow 3 cs (SH0, σ')) : ∀ (σ : St), fX6_holdRow c0 x1 x2 σ = some σ' → G K g 3 cs 0 [(0, vr c0), (1, vi x1), (2, vi x2)] [] (SH0, σ) := by
  intro σ h
  unfold fX6_holdRow at h
  refine g_aload_n hC dX6_holdRow_0 0 rfl rfl ?_
  refine g_iconst hC dX6_holdRow_1 ok_2 ?_
  refine g_puti hC dX6_holdRow_2 lfRX6_15 fp_6_1 (isO_spec h0) (ft_6_1 h0) ?_
  refine g_aload_n hC dX6_holdRow_5 0 rfl rfl ?_
  refine g_iload_n hC dX6_holdRow_6 1 rfl rfl ?_
  refine g_puti hC dX6_holdRow_7 lfRX6_25 fp_6_3 (isO_spec h0) (ft_6_3 h0) ?_
  refine g_aload_n hC dX6_holdRow_10 0 rfl rfl ?_
  refine g_iconst hC dX6_holdRow_11 ok_0 ?_
  refine g_bipush hC dX6_holdRow_12 bp_60 ?_
  refine g_iload_n hC dX6_holdRow_14 2 rfl rfl ?_
  refine g_min hC dX6_holdRow_15 lmRX6_28 mn_1 mn_2 mn_3 (Nat.le_of_ble_eq_true rfl) (Nat.le_of_ble_eq_true rfl) hcs ?_
  refine g_max hC dX6_holdRow_18 lmRX6_34 mx_1 mn_2 mx_3 (Nat.le_of_ble_eq_true rfl) (Nat.le_of_ble_eq_true rfl) hcs ?_
  refine g_puti hC dX6_holdRow_21 lfRX6_19 fp_6_4 (isO_spec h0) (ft_6_4 h0) ?_
  refine g_aload_n hC dX6_holdRow_24 0 rfl rfl ?_
  refine g_getr hC dX6_holdRow_25 lfRX6_9 (isO_spec h0) (ft_6_0 h0) ?_
  refine g_lconst hC dX6_holdRow_28 lc_0 ?_
  obtain ⟨s1, e1, h⟩ := of_bind h
  try dsimp only at h
  refine s_callSv hC dX6_holdRow_29 (tJ7_fill_d0a16 (rf_6_0 h0) e1) miJ7_fill_d0a16 msJ7_fill_d0a16 mlRX6_37 rfl rfl (Nat.le_of_ble_eq_true rfl) (Nat.le_of_ble_eq_true rfl) (Nat.le_of_ble_eq_true rfl) hcs ?_
  exact ret_v h hR dX6_holdRow_32
theorem tX6_holdRow {l : Launch} {g : GT} {c0 : Nat} {x1 : Int} {x2 : Int} {σ σ' : St} (h0 : isO 6 c0 = true) (h : fX6_holdRow c0 x1 x2 σ = some σ') : Cn l g yX6_holdRow cX6_holdRow 3 none 1 0 0 [vr c0, vi x1, vi x2] (SH0, σ) none (SH0, σ') :=
  Cn.ofV (by decide) (Nat.le_of_ble_eq_true rfl) (fun K e hC hR => (bX6_holdRow_0 hC ⟨Nat.le_refl _, Nat.le_refl _⟩ h0 hR _ h))
theorem dX9_row_0 : decode cX9_row 0 = .ok (.iload_n 1, 1) := by decide +kernel
theorem dX9_row_1 : decode cX9_row 1 = .ok (.invokestatic 92, 3) := by decide +kernel
theorem dX9_row_4 : decode cX9_row 4 = .ok (.ifCond .eq 18, 3) := by decide +kernel
theorem dX9_row_7 : decode cX9_row 7 = .ok (.iload_n 2, 1) := by decide +kernel
theorem dX9_row_8 : decode cX9_row 8 = .ok (.ifCond .lt 14, 3) := by decide +kernel
theorem dX9_row_11 : decode cX9_row 11 = .ok (.iload_n 2, 1) := by decide +kernel
theorem dX9_row_12 : decode cX9_row 12 = .ok (.iconst 4, 1) := by decide +kernel
theorem dX9_row_13 : decode cX9_row 13 = .ok (.if_icmp .gt 9, 3) := by decide +kernel
theorem dX9_row_16 : decode cX9_row 16 = .ok (.iload_n 3, 1) := by decide +kernel
theorem dX9_row_17 : decode cX9_row 17 = .ok (.bipush 60, 2) := by decide +kernel
theorem dX9_row_19 : decode cX9_row 19 = .ok (.if_icmp .le 5, 3) := by decide +kernel
theorem dX9_row_22 : decode cX9_row 22 = .ok (.iconst (-1), 1) := by decide +kernel
theorem dX9_row_23 : decode cX9_row 23 = .ok (.ireturn, 1) := by decide +kernel
theorem dX9_row_24 : decode cX9_row 24 = .ok (.iload_n 3, 1) := by decide +kernel
theorem dX9_row_25 : decode cX9_row 25 = .ok (.ifCond .ge 6, 3) := by decide +kernel
theorem dX9_row_28 : decode cX9_row 28 = .ok (.bipush (-14), 2) := by decide +kernel
theorem dX9_row_30 : decode cX9_row 30 = .ok (.ireturn, 1) := by decide +kernel
theorem dX9_row_31 : decode cX9_row 31 = .ok (.aload_n 0, 1) := by decide +kernel
theorem dX9_row_32 : decode cX9_row 32 = .ok (.getfield 75, 3) := by decide +kernel
theorem dX9_row_35 : decode cX9_row 35 = .ok (.iload_n 1, 1) := by decide +kernel
theorem dX9_row_36 : decode cX9_row 36 = .ok (.aaload, 1) := by decide +kernel
theorem dX9_row_37 : decode cX9_row 37 = .ok (.iload_n 2, 1) := by decide +kernel
theorem dX9_row_38 : decode cX9_row 38 = .ok (.iload_n 3, 1) := by decide +kernel
theorem dX9_row_39 : decode cX9_row 39 = .ok (.invokevirtual 315, 3) := by decide +kernel
theorem dX9_row_42 : decode cX9_row 42 = .ok (.iconst 1, 1) := by decide +kernel
theorem dX9_row_43 : decode cX9_row 43 = .ok (.ireturn, 1) := by decide +kernel
theorem bX9_row_0 {K : KT} {g : GT} {cm sm : Nat} {cs : Nat × Nat} {c0 : Nat} {x1 : Int} {x2 : Int} {x3 : Int} {r : Int} {σ' : St} (hC : Ctx K g RX9 cX9_row 4 2 cm sm) (hcs : cs.1 ≤ cm ∧ cs.2 ≤ sm) (h0 : isO 9 c0 = true) (hR : RetI K g cX9_row 4 cs r (SH0, σ')) : ∀ (σ : St), fX9_row c0 x1 x2 x3 σ = some (r, σ') → G K g 4 cs 0 [(0, vr c0), (1, vi x1), (2, vi x2), (3, vi x3)] [] (SH0, σ) := by
  intro σ h
  unfold fX9_row at h
  refine g_iload_n hC dX9_row_0 1 rfl rfl ?_
  obtain ⟨⟨r1, s1⟩, e1, h⟩ := of_bind h
  try dsimp only at h
  refine s_callSi hC dX9_row_1 (tX9_isShelf e1) miX9_isShelf msX9_isShelf mlRX9_92 rfl rfl (Nat.le_of_ble_eq_true rfl) (Nat.le_of_ble_eq_true rfl) (Nat.le_of_ble_eq_true rfl) hcs ?_
  refine g_if_eq hC dX9_row_4 (tgt := 22) (by decide) (fun h9 => ?_) (fun h9 => ?_)
  · rw [if_pos h9] at h
    refine g_iconst hC dX9_row_22 ok_m1 ?_
    exact ret_i h hR dX9_row_23
  · rw [if_neg h9] at h
    refine g_iload_n hC dX9_row_7 2 rfl rfl ?_
    refine g_if_lt hC dX9_row_8 (tgt := 22) (by decide) (fun h9 => ?_) (fun h9 => ?_)
    · rw [if_pos h9] at h
      refine g_iconst hC dX9_row_22 ok_m1 ?_
      exact ret_i h hR dX9_row_23
    · rw [if_neg h9] at h
      refine g_iload_n hC dX9_row_11 2 rfl rfl ?_
      refine g_iconst hC dX9_row_12 ok_4 ?_
      refine g_icmp_gt hC dX9_row_13 (tgt := 22) (by decide) (fun h9 => ?_) (fun h9 => ?_)
      · rw [if_pos h9] at h
        refine g_iconst hC dX9_row_22 ok_m1 ?_
        exact ret_i h hR dX9_row_23
      · rw [if_neg h9] at h
        refine g_iload_n hC dX9_row_16 3 rfl rfl ?_
        refine g_bipush hC dX9_row_17 bp_60 ?_
        refine g_icmp_le hC dX9_row_19 (tgt := 24) (by decide) (fun h9 => ?_) (fun h9 => ?_)
        · rw [if_pos h9] at h
          refine g_iload_n hC dX9_row_24 3 rfl rfl ?_
          refine g_if_ge hC dX9_row_25 (tgt := 31) (by decide) (fun h9 => ?_) (fun h9 => ?_)
          · rw [if_pos h9] at h
            refine g_aload_n hC dX9_row_31 0 rfl rfl ?_
            refine g_getr hC dX9_row_32 lfRX9_75 (isO_spec h0) (ft_9_8 h0) ?_
            refine g_iload_n hC dX9_row_35 1 rfl rfl ?_
            obtain ⟨b9, h⟩ := of_ite h
            refine g_aald hC dX9_row_36 (isA_spec (rf_9_8 h0)) b9 (sh_at (rf_9_8 h0) b9).1 ?_
            have b22 := (sh_at (rf_9_8 h0) b9).2
            refine g_iload_n hC dX9_row_37 2 rfl rfl ?_
            refine g_iload_n hC dX9_row_38 3 rfl rfl ?_
            obtain ⟨s3, e3, h⟩ := of_bind h
            try dsimp only at h
            refine s_callVv hC dX9_row_39 (tX6_holdRow b22 e3) miX6_holdRow mvX6_holdRow mlRX9_315 (isO_spec b22) vc_6 rfl rfl (Nat.le_of_ble_eq_true rfl) (Nat.le_of_ble_eq_true rfl) (Nat.le_of_ble_eq_true rfl) hcs ?_
            refine g_iconst hC dX9_row_42 ok_1 ?_
            exact ret_i h hR dX9_row_43
          · rw [if_neg h9] at h
            refine g_bipush hC dX9_row_28 bp_m14 ?_
            exact ret_i h hR dX9_row_30
        · rw [if_neg h9] at h
          refine g_iconst hC dX9_row_22 ok_m1 ?_
          exact ret_i h hR dX9_row_23
theorem tX9_row {l : Launch} {g : GT} {c0 : Nat} {x1 : Int} {x2 : Int} {x3 : Int} {σ σ' : St} {r : Int} (h0 : isO 9 c0 = true) (h : fX9_row c0 x1 x2 x3 σ = some (r, σ')) : Cn l g yX9_row cX9_row 4 (some .int) 2 0 0 [vr c0, vi x1, vi x2, vi x3] (SH0, σ) (some (vi r)) (SH0, σ') :=
  Cn.ofI (by decide) (Nat.le_of_ble_eq_true rfl) (fun K e hC hR => (bX9_row_0 hC ⟨Nat.le_refl _, Nat.le_refl _⟩ h0 hR _ h))
theorem dX9_sale_0 : decode cX9_sale 0 = .ok (.iload_n 1, 1) := by decide +kernel
theorem dX9_sale_1 : decode cX9_sale 1 = .ok (.invokestatic 92, 3) := by decide +kernel
theorem dX9_sale_4 : decode cX9_sale 4 = .ok (.ifCond .eq 13, 3) := by decide +kernel
theorem dX9_sale_7 : decode cX9_sale 7 = .ok (.iload_n 2, 1) := by decide +kernel
theorem dX9_sale_8 : decode cX9_sale 8 = .ok (.ifCond .lt 9, 3) := by decide +kernel
theorem dX9_sale_11 : decode cX9_sale 11 = .ok (.iload_n 2, 1) := by decide +kernel
theorem dX9_sale_12 : decode cX9_sale 12 = .ok (.bipush 16, 2) := by decide +kernel
theorem dX9_sale_14 : decode cX9_sale 14 = .ok (.if_icmp .lt 5, 3) := by decide +kernel
theorem dX9_sale_17 : decode cX9_sale 17 = .ok (.iconst (-1), 1) := by decide +kernel
theorem dX9_sale_18 : decode cX9_sale 18 = .ok (.ireturn, 1) := by decide +kernel
theorem dX9_sale_19 : decode cX9_sale 19 = .ok (.aload_n 0, 1) := by decide +kernel
theorem dX9_sale_20 : decode cX9_sale 20 = .ok (.getfield 75, 3) := by decide +kernel
theorem dX9_sale_23 : decode cX9_sale 23 = .ok (.iload_n 1, 1) := by decide +kernel
theorem dX9_sale_24 : decode cX9_sale 24 = .ok (.aaload, 1) := by decide +kernel
theorem dX9_sale_25 : decode cX9_sale 25 = .ok (.invokevirtual 167, 3) := by decide +kernel
theorem dX9_sale_28 : decode cX9_sale 28 = .ok (.istore_n 3, 1) := by decide +kernel
theorem dX9_sale_29 : decode cX9_sale 29 = .ok (.iload_n 3, 1) := by decide +kernel
theorem dX9_sale_30 : decode cX9_sale 30 = .ok (.ifCond .eq 5, 3) := by decide +kernel
theorem dX9_sale_33 : decode cX9_sale 33 = .ok (.iload_n 3, 1) := by decide +kernel
theorem dX9_sale_34 : decode cX9_sale 34 = .ok (.ireturn, 1) := by decide +kernel
theorem dX9_sale_35 : decode cX9_sale 35 = .ok (.aload_n 0, 1) := by decide +kernel
theorem dX9_sale_36 : decode cX9_sale 36 = .ok (.getfield 28, 3) := by decide +kernel
theorem dX9_sale_39 : decode cX9_sale 39 = .ok (.aload_n 0, 1) := by decide +kernel
theorem dX9_sale_40 : decode cX9_sale 40 = .ok (.getfield 10, 3) := by decide +kernel
theorem dX9_sale_43 : decode cX9_sale 43 = .ok (.invokevirtual 147, 3) := by decide +kernel
theorem dX9_sale_46 : decode cX9_sale 46 = .ok (.aload_n 0, 1) := by decide +kernel
theorem dX9_sale_47 : decode cX9_sale 47 = .ok (.getfield 28, 3) := by decide +kernel
theorem dX9_sale_50 : decode cX9_sale 50 = .ok (.aload_n 0, 1) := by decide +kernel
theorem dX9_sale_51 : decode cX9_sale 51 = .ok (.getfield 75, 3) := by decide +kernel
theorem dX9_sale_54 : decode cX9_sale 54 = .ok (.iload_n 1, 1) := by decide +kernel
theorem dX9_sale_55 : decode cX9_sale 55 = .ok (.aaload, 1) := by decide +kernel
theorem dX9_sale_56 : decode cX9_sale 56 = .ok (.invokevirtual 170, 3) := by decide +kernel
theorem dX9_sale_59 : decode cX9_sale 59 = .ok (.iload_n 2, 1) := by decide +kernel
theorem dX9_sale_60 : decode cX9_sale 60 = .ok (.aload_n 0, 1) := by decide +kernel
theorem dX9_sale_61 : decode cX9_sale 61 = .ok (.getfield 28, 3) := by decide +kernel
theorem dX9_sale_64 : decode cX9_sale 64 = .ok (.getfield 174, 3) := by decide +kernel
theorem dX9_sale_67 : decode cX9_sale 67 = .ok (.if_icmp .ge 15, 3) := by decide +kernel
theorem dX9_sale_70 : decode cX9_sale 70 = .ok (.aload_n 0, 1) := by decide +kernel
theorem dX9_sale_71 : decode cX9_sale 71 = .ok (.getfield 28, 3) := by decide +kernel
theorem dX9_sale_74 : decode cX9_sale 74 = .ok (.getfield 177, 3) := by decide +kernel
theorem dX9_sale_77 : decode cX9_sale 77 = .ok (.iload_n 2, 1) := by decide +kernel
theorem dX9_sale_78 : decode cX9_sale 78 = .ok (.iaload, 1) := by decide +kernel
theorem dX9_sale_79 : decode cX9_sale 79 = .ok (.goto 5, 3) := by decide +kernel
theorem dX9_sale_82 : decode cX9_sale 82 = .ok (.bipush (-2), 2) := by decide +kernel
theorem dX9_sale_84 : decode cX9_sale 84 = .ok (.ireturn, 1) := by decide +kernel
theorem bX9_sale_0 {K : KT} {g : GT} {cm sm : Nat} {cs : Nat × Nat} {c0 : Nat} {x1 : Int} {x2 : Int} {r : Int} {σ' : St} (hC : Ctx K g RX9 cX9_sale 4 6 cm sm) (hcs : cs.1 ≤ cm ∧ cs.2 ≤ sm) (h0 : isO 9 c0 = true) (hR : RetI K g cX9_sale 4 cs r (SH0, σ')) : ∀ (σ : St), fX9_sale c0 x1 x2 σ = some (r, σ') → G K g 4 cs 0 [(0, vr c0), (1, vi x1), (2, vi x2)] [] (SH0, σ) := by
  intro σ h
  unfold fX9_sale at h
  refine g_iload_n hC dX9_sale_0 1 rfl rfl ?_
  obtain ⟨⟨r1, s1⟩, e1, h⟩ := of_bind h
  try dsimp only at h
  refine s_callSi hC dX9_sale_1 (tX9_isShelf e1) miX9_isShelf msX9_isShelf mlRX9_92 rfl rfl (Nat.le_of_ble_eq_true rfl) (Nat.le_of_ble_eq_true rfl) (Nat.le_of_ble_eq_true rfl) hcs ?_
  refine g_if_eq hC dX9_sale_4 (tgt := 17) (by decide) (fun h9 => ?_) (fun h9 => ?_)
  · rw [if_pos h9] at h
    refine g_iconst hC dX9_sale_17 ok_m1 ?_
    exact ret_i h hR dX9_sale_18
  · rw [if_neg h9] at h
    refine g_iload_n hC dX9_sale_7 2 rfl rfl ?_
    refine g_if_lt hC dX9_sale_8 (tgt := 17) (by decide) (fun h9 => ?_) (fun h9 => ?_)
    · rw [if_pos h9] at h
      refine g_iconst hC dX9_sale_17 ok_m1 ?_
      exact ret_i h hR dX9_sale_18
    · rw [if_neg h9] at h
      refine g_iload_n hC dX9_sale_11 2 rfl rfl ?_
      refine g_bipush hC dX9_sale_12 bp_16 ?_
      refine g_icmp_lt hC dX9_sale_14 (tgt := 19) (by decide) (fun h9 => ?_) (fun h9 => ?_)
      · rw [if_pos h9] at h
        refine g_aload_n hC dX9_sale_19 0 rfl rfl ?_
        refine g_getr hC dX9_sale_20 lfRX9_75 (isO_spec h0) (ft_9_8 h0) ?_
        refine g_iload_n hC dX9_sale_23 1 rfl rfl ?_
        obtain ⟨b9, h⟩ := of_ite h
        refine g_aald hC dX9_sale_24 (isA_spec (rf_9_8 h0)) b9 (sh_at (rf_9_8 h0) b9).1 ?_
        have b22 := (sh_at (rf_9_8 h0) b9).2
        obtain ⟨⟨r3, s3⟩, e3, h⟩ := of_bind h
        try dsimp only at h
        refine s_callVi hC dX9_sale_25 (tX6_refusesBytes b22 e3) miX6_refusesBytes mvX6_refusesBytes mlRX9_167 (isO_spec b22) vc_6 rfl rfl (Nat.le_of_ble_eq_true rfl) (Nat.le_of_ble_eq_true rfl) (Nat.le_of_ble_eq_true rfl) hcs ?_
        refine g_istore_n hC dX9_sale_28 rfl (Nat.le_of_ble_eq_true rfl) rfl ?_
        refine g_iload_n hC dX9_sale_29 0 rfl rfl ?_
        refine g_if_eq hC dX9_sale_30 (tgt := 35) (by decide) (fun h9 => ?_) (fun h9 => ?_)
        · rw [if_pos h9] at h
          refine g_aload_n hC dX9_sale_35 1 rfl rfl ?_
          refine g_getr hC dX9_sale_36 lfRX9_28 (isO_spec h0) (ft_9_2 h0) ?_
          refine g_aload_n hC dX9_sale_39 1 rfl rfl ?_
          refine g_getr hC dX9_sale_40 lfRX9_10 (isO_spec h0) (ft_9_0 h0) ?_
          obtain ⟨s4, e4, h⟩ := of_bind h
          try dsimp only at h
          refine s_callVv hC dX9_sale_43 (tX7_begin (rf_9_2 h0) (rf_9_0 h0) e4) miX7_begin mvX7_begin mlRX9_147 (isO_spec (rf_9_2 h0)) vc_7 rfl rfl (Nat.le_of_ble_eq_true rfl) (Nat.le_of_ble_eq_true rfl) (Nat.le_of_ble_eq_true rfl) hcs ?_
          refine g_aload_n hC dX9_sale_46 1 rfl rfl ?_
          refine g_getr hC dX9_sale_47 lfRX9_28 (isO_spec h0) (ft_9_2 h0) ?_
          refine g_aload_n hC dX9_sale_50 1 rfl rfl ?_
          refine g_getr hC dX9_sale_51 lfRX9_75 (isO_spec h0) (ft_9_8 h0) ?_
          refine g_iload_n hC dX9_sale_54 2 rfl rfl ?_
          obtain ⟨b9, h⟩ := of_ite h
          refine g_aald hC dX9_sale_55 (isA_spec (rf_9_8 h0)) b9 (sh_at (rf_9_8 h0) b9).1 ?_
          have b25 := (sh_at (rf_9_8 h0) b9).2
          obtain ⟨s6, e6, h⟩ := of_bind h
          try dsimp only at h
          refine s_callVv hC dX9_sale_56 (tX7_sellsAll (rf_9_2 h0) b25 e6) miX7_sellsAll mvX7_sellsAll mlRX9_170 (isO_spec (rf_9_2 h0)) vc_7 rfl rfl (Nat.le_of_ble_eq_true rfl) (Nat.le_of_ble_eq_true rfl) (Nat.le_of_ble_eq_true rfl) hcs ?_
          refine g_iload_n hC dX9_sale_59 3 rfl rfl ?_
          refine g_aload_n hC dX9_sale_60 1 rfl rfl ?_
          refine g_getr hC dX9_sale_61 lfRX9_28 (isO_spec h0) (ft_9_2 h0) ?_
          refine g_geti hC dX9_sale_64 lfRX9_174 (isO_spec (rf_9_2 h0)) (ft_7_7 (rf_9_2 h0)) ?_
          refine g_icmp_ge hC dX9_sale_67 (tgt := 82) (by decide) (fun h9 => ?_) (fun h9 => ?_)
          · rw [if_pos h9] at h
            refine g_bipush hC dX9_sale_82 bp_m2 ?_
            exact ret_i h hR dX9_sale_84
          · rw [if_neg h9] at h
            refine g_aload_n hC dX9_sale_70 1 rfl rfl ?_
            refine g_getr hC dX9_sale_71 lfRX9_28 (isO_spec h0) (ft_9_2 h0) ?_
            refine g_getr hC dX9_sale_74 lfRX9_177 (isO_spec (rf_9_2 h0)) (ft_7_6 (rf_9_2 h0)) ?_
            refine g_iload_n hC dX9_sale_77 3 rfl rfl ?_
            obtain ⟨b9, h⟩ := of_ite h
            refine g_iald hC dX9_sale_78 (isA_spec (rf_7_6 (rf_9_2 h0))) b9 ?_
            refine g_goto hC dX9_sale_79 (tgt := 84) (by decide) ?_
            exact ret_i h hR dX9_sale_84
        · rw [if_neg h9] at h
          refine g_iload_n hC dX9_sale_33 0 rfl rfl ?_
          exact ret_i h hR dX9_sale_34
      · rw [if_neg h9] at h
        refine g_iconst hC dX9_sale_17 ok_m1 ?_
        exact ret_i h hR dX9_sale_18
theorem tX9_sale {l : Launch} {g : GT} {c0 : Nat} {x1 : Int} {x2 : Int} {σ σ' : St} {r : Int} (h0 : isO 9 c0 = true) (h : fX9_sale c0 x1 x2 σ = some (r, σ')) : Cn l g yX9_sale cX9_sale 4 (some .int) 6 0 0 [vr c0, vi x1, vi x2] (SH0, σ) (some (vi r)) (SH0, σ') :=
  Cn.ofI (by decide) (Nat.le_of_ble_eq_true rfl) (fun K e hC hR => (bX9_sale_0 hC ⟨Nat.le_refl _, Nat.le_refl _⟩ h0 hR _ h))
theorem dX9_shift_0 : decode cX9_shift 0 = .ok (.iload_n 1, 1) := by decide +kernel
theorem dX9_shift_1 : decode cX9_shift 1 = .ok (.invokestatic 92, 3) := by decide +kernel
theorem dX9_shift_4 : decode cX9_shift 4 = .ok (.ifCond .eq 10, 3) := by decide +kernel
theorem dX9_shift_7 : decode cX9_shift 7 = .ok (.iload_n 3, 1) := by decide +kernel
theorem dX9_shift_8 : decode cX9_shift 8 = .ok (.invokestatic 92, 3) := by decide +kernel
theorem dX9_shift_11 : decode cX9_shift 11 = .ok (.ifCond .ne 5, 3) := by decide +kernel
theorem dX9_shift_14 : decode cX9_shift 14 = .ok (.iconst (-1), 1) := by decide +kernel
theorem dX9_shift_15 : decode cX9_shift 15 = .ok (.ireturn, 1) := by decide +kernel
theorem dX9_shift_16 : decode cX9_shift 16 = .ok (.aload_n 0, 1) := by decide +kernel
theorem dX9_shift_17 : decode cX9_shift 17 = .ok (.getfield 75, 3) := by decide +kernel
theorem dX9_shift_20 : decode cX9_shift 20 = .ok (.iload_n 1, 1) := by decide +kernel
theorem dX9_shift_21 : decode cX9_shift 21 = .ok (.aaload, 1) := by decide +kernel
theorem dX9_shift_22 : decode cX9_shift 22 = .ok (.astore 6, 2) := by decide +kernel
theorem dX9_shift_24 : decode cX9_shift 24 = .ok (.aload_n 0, 1) := by decide +kernel
theorem dX9_shift_25 : decode cX9_shift 25 = .ok (.getfield 75, 3) := by decide +kernel
theorem dX9_shift_28 : decode cX9_shift 28 = .ok (.iload_n 3, 1) := by decide +kernel
theorem dX9_shift_29 : decode cX9_shift 29 = .ok (.aaload, 1) := by decide +kernel
theorem dX9_shift_30 : decode cX9_shift 30 = .ok (.astore 7, 2) := by decide +kernel
theorem dX9_shift_32 : decode cX9_shift 32 = .ok (.aload 6, 2) := by decide +kernel
theorem dX9_shift_34 : decode cX9_shift 34 = .ok (.getfield 96, 3) := by decide +kernel
theorem dX9_shift_37 : decode cX9_shift 37 = .ok (.ifCond .eq 11, 3) := by decide +kernel
theorem dX9_shift_40 : decode cX9_shift 40 = .ok (.aload 7, 2) := by decide +kernel
theorem dX9_shift_42 : decode cX9_shift 42 = .ok (.getfield 96, 3) := by decide +kernel
theorem dX9_shift_45 : decode cX9_shift 45 = .ok (.ifCond .ne 6, 3) := by decide +kernel
theorem dX9_shift_48 : decode cX9_shift 48 = .ok (.bipush (-11), 2) := by decide +kernel
theorem dX9_shift_50 : decode cX9_shift 50 = .ok (.ireturn, 1) := by decide +kernel
theorem dX9_shift_51 : decode cX9_shift 51 = .ok (.aload 6, 2) := by decide +kernel
theorem dX9_shift_53 : decode cX9_shift 53 = .ok (.getfield 96, 3) := by decide +kernel
theorem dX9_shift_56 : decode cX9_shift 56 = .ok (.iconst 2, 1) := by decide +kernel
theorem dX9_shift_57 : decode cX9_shift 57 = .ok (.if_icmp .ne 25, 3) := by decide +kernel
theorem dX9_shift_60 : decode cX9_shift 60 = .ok (.aload 7, 2) := by decide +kernel
theorem dX9_shift_62 : decode cX9_shift 62 = .ok (.getfield 96, 3) := by decide +kernel
theorem dX9_shift_65 : decode cX9_shift 65 = .ok (.iconst 2, 1) := by decide +kernel
theorem dX9_shift_66 : decode cX9_shift 66 = .ok (.if_icmp .ne 16, 3) := by decide +kernel
theorem dX9_shift_69 : decode cX9_shift 69 = .ok (.aload 6, 2) := by decide +kernel
theorem dX9_shift_71 : decode cX9_shift 71 = .ok (.getfield 330, 3) := by decide +kernel
theorem dX9_shift_74 : decode cX9_shift 74 = .ok (.aload 7, 2) := by decide +kernel
theorem dX9_shift_76 : decode cX9_shift 76 = .ok (.getfield 330, 3) := by decide +kernel
theorem dX9_shift_79 : decode cX9_shift 79 = .ok (.if_icmp .eq 6, 3) := by decide +kernel
theorem dX9_shift_82 : decode cX9_shift 82 = .ok (.bipush (-12), 2) := by decide +kernel
theorem dX9_shift_84 : decode cX9_shift 84 = .ok (.ireturn, 1) := by decide +kernel
theorem dX9_shift_85 : decode cX9_shift 85 = .ok (.aload 6, 2) := by decide +kernel
theorem dX9_shift_87 : decode cX9_shift 87 = .ok (.iload_n 2, 1) := by decide +kernel
theorem dX9_shift_88 : decode cX9_shift 88 = .ok (.iload 5, 2) := by decide +kernel
theorem dX9_shift_90 : decode cX9_shift 90 = .ok (.invokevirtual 104, 3) := by decide +kernel
theorem dX9_shift_93 : decode cX9_shift 93 = .ok (.ifCond .eq 15, 3) := by decide +kernel
theorem dX9_shift_96 : decode cX9_shift 96 = .ok (.aload 7, 2) := by decide +kernel
theorem dX9_shift_98 : decode cX9_shift 98 = .ok (.iload 4, 2) := by decide +kernel
theorem dX9_shift_100 : decode cX9_shift 100 = .ok (.iload 5, 2) := by decide +kernel
theorem dX9_shift_102 : decode cX9_shift 102 = .ok (.invokevirtual 104, 3) := by decide +kernel
theorem dX9_shift_105 : decode cX9_shift 105 = .ok (.ifCond .ne 6, 3) := by decide +kernel
theorem dX9_shift_108 : decode cX9_shift 108 = .ok (.bipush (-13), 2) := by decide +kernel
theorem dX9_shift_110 : decode cX9_shift 110 = .ok (.ireturn, 1) := by decide +kernel
theorem dX9_shift_111 : decode cX9_shift 111 = .ok (.aload 6, 2) := by decide +kernel
theorem dX9_shift_113 : decode cX9_shift 113 = .ok (.getfield 333, 3) := by decide +kernel
theorem dX9_shift_116 : decode cX9_shift 116 = .ok (.iload_n 2, 1) := by decide +kernel
theorem dX9_shift_117 : decode cX9_shift 117 = .ok (.aload 7, 2) := by decide +kernel
theorem dX9_shift_119 : decode cX9_shift 119 = .ok (.getfield 333, 3) := by decide +kernel
theorem dX9_shift_122 : decode cX9_shift 122 = .ok (.iload 4, 2) := by decide +kernel
theorem dX9_shift_124 : decode cX9_shift 124 = .ok (.iload 5, 2) := by decide +kernel
theorem dX9_shift_126 : decode cX9_shift 126 = .ok (.invokestatic 337, 3) := by decide +kernel
theorem dX9_shift_129 : decode cX9_shift 129 = .ok (.iload 5, 2) := by decide +kernel
theorem dX9_shift_131 : decode cX9_shift 131 = .ok (.ireturn, 1) := by decide +kernel
theorem bX9_shift_0 {K : KT} {g : GT} {cm sm : Nat} {cs : Nat × Nat} {c0 : Nat} {x1 : Int} {x2 : Int} {x3 : Int} {x4 : Int} {x5 : Int} {r : Int} {σ' : St} (hC : Ctx K g RX9 cX9_shift 8 1 cm sm) (hcs : cs.1 ≤ cm ∧ cs.2 ≤ sm) (h0 : isO 9 c0 = true) (hR : RetI K g cX9_shift 8 cs r (SH0, σ')) : ∀ (σ : St), fX9_shift c0 x1 x2 x3 x4 x5 σ = some (r, σ') → G K g 8 cs 0 [(0, vr c0), (1, vi x1), (2, vi x2), (3, vi x3), (4, vi x4), (5, vi x5)] [] (SH0, σ) := by
  intro σ h
  unfold fX9_shift at h
  refine g_iload_n hC dX9_shift_0 1 rfl rfl ?_
  obtain ⟨⟨r1, s1⟩, e1, h⟩ := of_bind h
  try dsimp only at h
  refine s_callSi hC dX9_shift_1 (tX9_isShelf e1) miX9_isShelf msX9_isShelf mlRX9_92 rfl rfl (Nat.le_of_ble_eq_true rfl) (Nat.le_of_ble_eq_true rfl) (Nat.le_of_ble_eq_true rfl) hcs ?_
  refine g_if_eq hC dX9_shift_4 (tgt := 14) (by decide) (fun h9 => ?_) (fun h9 => ?_)
  · rw [if_pos h9] at h
    refine g_iconst hC dX9_shift_14 ok_m1 ?_
    exact ret_i h hR dX9_shift_15
  · rw [if_neg h9] at h
    refine g_iload_n hC dX9_shift_7 3 rfl rfl ?_
    obtain ⟨⟨r2, s2⟩, e2, h⟩ := of_bind h
    try dsimp only at h
    refine s_callSi hC dX9_shift_8 (tX9_isShelf e2) miX9_isShelf msX9_isShelf mlRX9_92 rfl rfl (Nat.le_of_ble_eq_true rfl) (Nat.le_of_ble_eq_true rfl) (Nat.le_of_ble_eq_true rfl) hcs ?_
    refine g_if_ne hC dX9_shift_11 (tgt := 16) (by decide) (fun h9 => ?_) (fun h9 => ?_)
    · rw [if_neg h9] at h
      refine g_aload_n hC dX9_shift_16 0 rfl rfl ?_
      refine g_getr hC dX9_shift_17 lfRX9_75 (isO_spec h0) (ft_9_8 h0) ?_
      refine g_iload_n hC dX9_shift_20 1 rfl rfl ?_
      obtain ⟨b9, h⟩ := of_ite h
      refine g_aald hC dX9_shift_21 (isA_spec (rf_9_8 h0)) b9 (sh_at (rf_9_8 h0) b9).1 ?_
      have b23 := (sh_at (rf_9_8 h0) b9).2
      refine g_astore hC dX9_shift_22 (Nat.le_of_ble_eq_true rfl) rfl ?_
      refine g_aload_n hC dX9_shift_24 1 rfl rfl ?_
      refine g_getr hC dX9_shift_25 lfRX9_75 (isO_spec h0) (ft_9_8 h0) ?_
      refine g_iload_n hC dX9_shift_28 4 rfl rfl ?_
      obtain ⟨b9, h⟩ := of_ite h
      refine g_aald hC dX9_shift_29 (isA_spec (rf_9_8 h0)) b9 (sh_at (rf_9_8 h0) b9).1 ?_
      have b24 := (sh_at (rf_9_8 h0) b9).2
      refine g_astore hC dX9_shift_30 (Nat.le_of_ble_eq_true rfl) rfl ?_
      refine g_aload hC dX9_shift_32 1 rfl ?_
      refine g_geti hC dX9_shift_34 lfRX9_96 (isO_spec b23) (ft_6_1 b23) ?_
      refine g_if_eq hC dX9_shift_37 (tgt := 48) (by decide) (fun h9 => ?_) (fun h9 => ?_)
      · rw [if_pos h9] at h
        refine g_bipush hC dX9_shift_48 bp_m11 ?_
        exact ret_i h hR dX9_shift_50
      · rw [if_neg h9] at h
        refine g_aload hC dX9_shift_40 0 rfl ?_
        refine g_geti hC dX9_shift_42 lfRX9_96 (isO_spec b24) (ft_6_1 b24) ?_
        refine g_if_ne hC dX9_shift_45 (tgt := 51) (by decide) (fun h9 => ?_) (fun h9 => ?_)
        · rw [if_neg h9] at h
          refine g_aload hC dX9_shift_51 1 rfl ?_
          refine g_geti hC dX9_shift_53 lfRX9_96 (isO_spec b23) (ft_6_1 b23) ?_
          refine g_iconst hC dX9_shift_56 ok_2 ?_
          refine g_icmp_ne hC dX9_shift_57 (tgt := 82) (by decide) (fun h9 => ?_) (fun h9 => ?_)
          · rw [if_neg h9] at h
            refine g_bipush hC dX9_shift_82 bp_m12 ?_
            exact ret_i h hR dX9_shift_84
          · rw [if_pos h9] at h
            refine g_aload hC dX9_shift_60 0 rfl ?_
            refine g_geti hC dX9_shift_62 lfRX9_96 (isO_spec b24) (ft_6_1 b24) ?_
            refine g_iconst hC dX9_shift_65 ok_2 ?_
            refine g_icmp_ne hC dX9_shift_66 (tgt := 82) (by decide) (fun h9 => ?_) (fun h9 => ?_)
            · rw [if_neg h9] at h
              refine g_bipush hC dX9_shift_82 bp_m12 ?_
              exact ret_i h hR dX9_shift_84
            · rw [if_pos h9] at h
              refine g_aload hC dX9_shift_69 1 rfl ?_
              refine g_geti hC dX9_shift_71 lfRX9_330 (isO_spec b23) (ft_6_3 b23) ?_
              refine g_aload hC dX9_shift_74 0 rfl ?_
              refine g_geti hC dX9_shift_76 lfRX9_330 (isO_spec b24) (ft_6_3 b24) ?_
              refine g_icmp_eq hC dX9_shift_79 (tgt := 85) (by decide) (fun h9 => ?_) (fun h9 => ?_)
              · rw [if_pos h9] at h
                refine g_aload hC dX9_shift_85 1 rfl ?_
                refine g_iload_n hC dX9_shift_87 4 rfl rfl ?_
                refine g_iload hC dX9_shift_88 7 rfl ?_
                obtain ⟨⟨r5, s5⟩, e5, h⟩ := of_bind h
                try dsimp only at h
                refine s_callVi hC dX9_shift_90 (tX6_hasRun b23 e5) miX6_hasRun mvX6_hasRun mlRX9_104 (isO_spec b23) vc_6 rfl rfl (Nat.le_of_ble_eq_true rfl) (Nat.le_of_ble_eq_true rfl) (Nat.le_of_ble_eq_true rfl) hcs ?_
                refine g_if_eq hC dX9_shift_93 (tgt := 108) (by decide) (fun h9 => ?_) (fun h9 => ?_)
                · rw [if_pos h9] at h
                  refine g_bipush hC dX9_shift_108 bp_m13 ?_
                  exact ret_i h hR dX9_shift_110
                · rw [if_neg h9] at h
                  refine g_aload hC dX9_shift_96 0 rfl ?_
                  refine g_iload hC dX9_shift_98 6 rfl ?_
                  refine g_iload hC dX9_shift_100 7 rfl ?_
                  obtain ⟨⟨r6, s6⟩, e6, h⟩ := of_bind h
                  try dsimp only at h
                  refine s_callVi hC dX9_shift_102 (tX6_hasRun b24 e6) miX6_hasRun mvX6_hasRun mlRX9_104 (isO_spec b24) vc_6 rfl rfl (Nat.le_of_ble_eq_true rfl) (Nat.le_of_ble_eq_true rfl) (Nat.le_of_ble_eq_true rfl) hcs ?_
                  refine g_if_ne hC dX9_shift_105 (tgt := 111) (by decide) (fun h9 => ?_) (fun h9 => ?_)
                  · rw [if_neg h9] at h
                    refine g_aload hC dX9_shift_111 1 rfl ?_
                    refine g_getr hC dX9_shift_113 lfRX9_333 (isO_spec b23) (ft_6_0 b23) ?_
                    refine g_iload_n hC dX9_shift_116 4 rfl rfl ?_
                    refine g_aload hC dX9_shift_117 0 rfl ?_
                    refine g_getr hC dX9_shift_119 lfRX9_333 (isO_spec b24) (ft_6_0 b24) ?_
                    refine g_iload hC dX9_shift_122 6 rfl ?_
                    refine g_iload hC dX9_shift_124 7 rfl ?_
                    obtain ⟨b9, h⟩ := of_ite h
                    refine g_copyl hC dX9_shift_126 lmRX9_337 ac_1 ac_2 ac_3 (Nat.le_of_ble_eq_true rfl) (Nat.le_of_ble_eq_true rfl) (isA_spec (rf_6_0 b23)) (isA_spec (rf_6_0 b24)) b9 ?_
                    refine g_iload hC dX9_shift_129 7 rfl ?_
                    exact ret_i h hR dX9_shift_131
                  · rw [if_pos h9] at h
                    refine g_bipush hC dX9_shift_108 bp_m13 ?_
                    exact ret_i h hR dX9_shift_110
              · rw [if_neg h9] at h
                refine g_bipush hC dX9_shift_82 bp_m12 ?_
                exact ret_i h hR dX9_shift_84
        · rw [if_pos h9] at h
          refine g_bipush hC dX9_shift_48 bp_m11 ?_
          exact ret_i h hR dX9_shift_50
    · rw [if_pos h9] at h
      refine g_iconst hC dX9_shift_14 ok_m1 ?_
      exact ret_i h hR dX9_shift_15
theorem tX9_shift {l : Launch} {g : GT} {c0 : Nat} {x1 : Int} {x2 : Int} {x3 : Int} {x4 : Int} {x5 : Int} {σ σ' : St} {r : Int} (h0 : isO 9 c0 = true) (h : fX9_shift c0 x1 x2 x3 x4 x5 σ = some (r, σ')) : Cn l g yX9_shift cX9_shift 8 (some .int) 1 0 0 [vr c0, vi x1, vi x2, vi x3, vi x4, vi x5] (SH0, σ) (some (vi r)) (SH0, σ') :=
  Cn.ofI (by decide) (Nat.le_of_ble_eq_true rfl) (fun K e hC hR => (bX9_shift_0 hC ⟨Nat.le_refl _, Nat.le_refl _⟩ h0 hR _ h))
theorem dX9_slip_0 : decode cX9_slip 0 = .ok (.aload_n 0, 1) := by decide +kernel
theorem dX9_slip_1 : decode cX9_slip 1 = .ok (.getfield 10, 3) := by decide +kernel
theorem dX9_slip_4 : decode cX9_slip 4 = .ok (.iload_n 1, 1) := by decide +kernel
theorem dX9_slip_5 : decode cX9_slip 5 = .ok (.invokevirtual 180, 3) := by decide +kernel
theorem dX9_slip_8 : decode cX9_slip 8 = .ok (.ifCond .eq 12, 3) := by decide +kernel
theorem dX9_slip_11 : decode cX9_slip 11 = .ok (.iload_n 2, 1) := by decide +kernel
theorem dX9_slip_12 : decode cX9_slip 12 = .ok (.ifCond .lt 8, 3) := by decide +kernel
theorem dX9_slip_15 : decode cX9_slip 15 = .ok (.iload_n 2, 1) := by decide +kernel
theorem dX9_slip_16 : decode cX9_slip 16 = .ok (.iconst 1, 1) := by decide +kernel
theorem dX9_slip_17 : decode cX9_slip 17 = .ok (.if_icmp .le 5, 3) := by decide +kernel
theorem dX9_slip_20 : decode cX9_slip 20 = .ok (.iconst (-1), 1) := by decide +kernel
theorem dX9_slip_21 : decode cX9_slip 21 = .ok (.ireturn, 1) := by decide +kernel
theorem dX9_slip_22 : decode cX9_slip 22 = .ok (.aload_n 0, 1) := by decide +kernel
theorem dX9_slip_23 : decode cX9_slip 23 = .ok (.getfield 10, 3) := by decide +kernel
theorem dX9_slip_26 : decode cX9_slip 26 = .ok (.iload_n 1, 1) := by decide +kernel
theorem dX9_slip_27 : decode cX9_slip 27 = .ok (.bipush 8, 2) := by decide +kernel
theorem dX9_slip_29 : decode cX9_slip 29 = .ok (.invokevirtual 122, 3) := by decide +kernel
theorem dX9_slip_32 : decode cX9_slip 32 = .ok (.istore_n 3, 1) := by decide +kernel
theorem dX9_slip_33 : decode cX9_slip 33 = .ok (.aload_n 0, 1) := by decide +kernel
theorem dX9_slip_34 : decode cX9_slip 34 = .ok (.getfield 10, 3) := by decide +kernel
theorem dX9_slip_37 : decode cX9_slip 37 = .ok (.iload_n 1, 1) := by decide +kernel
theorem dX9_slip_38 : decode cX9_slip 38 = .ok (.bipush 8, 2) := by decide +kernel
theorem dX9_slip_40 : decode cX9_slip 40 = .ok (.iload_n 2, 1) := by decide +kernel
theorem dX9_slip_41 : decode cX9_slip 41 = .ok (.invokevirtual 126, 3) := by decide +kernel
theorem dX9_slip_44 : decode cX9_slip 44 = .ok (.aload_n 0, 1) := by decide +kernel
theorem dX9_slip_45 : decode cX9_slip 45 = .ok (.getfield 69, 3) := by decide +kernel
theorem dX9_slip_48 : decode cX9_slip 48 = .ok (.iconst 3, 1) := by decide +kernel
theorem dX9_slip_49 : decode cX9_slip 49 = .ok (.dup2, 1) := by decide +kernel
theorem dX9_slip_50 : decode cX9_slip 50 = .ok (.iaload, 1) := by decide +kernel
theorem dX9_slip_51 : decode cX9_slip 51 = .ok (.iload_n 2, 1) := by decide +kernel
theorem dX9_slip_52 : decode cX9_slip 52 = .ok (.iadd, 1) := by decide +kernel
theorem dX9_slip_53 : decode cX9_slip 53 = .ok (.iastore, 1) := by decide +kernel
theorem dX9_slip_54 : decode cX9_slip 54 = .ok (.iload_n 3, 1) := by decide +kernel
theorem dX9_slip_55 : decode cX9_slip 55 = .ok (.ireturn, 1) := by decide +kernel
theorem bX9_slip_0 {K : KT} {g : GT} {cm sm : Nat} {cs : Nat × Nat} {c0 : Nat} {x1 : Int} {x2 : Int} {r : Int} {σ' : St} (hC : Ctx K g RX9 cX9_slip 4 1 cm sm) (hcs : cs.1 ≤ cm ∧ cs.2 ≤ sm) (h0 : isO 9 c0 = true) (hR : RetI K g cX9_slip 4 cs r (SH0, σ')) : ∀ (σ : St), fX9_slip c0 x1 x2 σ = some (r, σ') → G K g 4 cs 0 [(0, vr c0), (1, vi x1), (2, vi x2)] [] (SH0, σ) := by
  intro σ h
  unfold fX9_slip at h
  refine g_aload_n hC dX9_slip_0 0 rfl rfl ?_
  refine g_getr hC dX9_slip_1 lfRX9_10 (isO_spec h0) (ft_9_0 h0) ?_
  refine g_iload_n hC dX9_slip_4 1 rfl rfl ?_
  obtain ⟨⟨r1, s1⟩, e1, h⟩ := of_bind h
  try dsimp only at h
  refine s_callVi hC dX9_slip_5 (tX2_hasBidder (rf_9_0 h0) e1) miX2_hasBidder mvX2_hasBidder mlRX9_180 (isO_spec (rf_9_0 h0)) vc_2 rfl rfl (Nat.le_of_ble_eq_true rfl) (Nat.le_of_ble_eq_true rfl) (Nat.le_of_ble_eq_true rfl) hcs ?_
  refine g_if_eq hC dX9_slip_8 (tgt := 20) (by decide) (fun h9 => ?_) (fun h9 => ?_)
  · rw [if_pos h9] at h
    refine g_iconst hC dX9_slip_20 ok_m1 ?_
    exact ret_i h hR dX9_slip_21
  · rw [if_neg h9] at h
    refine g_iload_n hC dX9_slip_11 2 rfl rfl ?_
    refine g_if_lt hC dX9_slip_12 (tgt := 20) (by decide) (fun h9 => ?_) (fun h9 => ?_)
    · rw [if_pos h9] at h
      refine g_iconst hC dX9_slip_20 ok_m1 ?_
      exact ret_i h hR dX9_slip_21
    · rw [if_neg h9] at h
      refine g_iload_n hC dX9_slip_15 2 rfl rfl ?_
      refine g_iconst hC dX9_slip_16 ok_1 ?_
      refine g_icmp_le hC dX9_slip_17 (tgt := 22) (by decide) (fun h9 => ?_) (fun h9 => ?_)
      · rw [if_pos h9] at h
        refine g_aload_n hC dX9_slip_22 0 rfl rfl ?_
        refine g_getr hC dX9_slip_23 lfRX9_10 (isO_spec h0) (ft_9_0 h0) ?_
        refine g_iload_n hC dX9_slip_26 1 rfl rfl ?_
        refine g_bipush hC dX9_slip_27 bp_8 ?_
        obtain ⟨⟨r2, s2⟩, e2, h⟩ := of_bind h
        try dsimp only at h
        refine s_callVi hC dX9_slip_29 (tX2_number (rf_9_0 h0) e2) miX2_number mvX2_number mlRX9_122 (isO_spec (rf_9_0 h0)) vc_2 rfl rfl (Nat.le_of_ble_eq_true rfl) (Nat.le_of_ble_eq_true rfl) (Nat.le_of_ble_eq_true rfl) hcs ?_
        refine g_istore_n hC dX9_slip_32 rfl (Nat.le_of_ble_eq_true rfl) rfl ?_
        refine g_aload_n hC dX9_slip_33 1 rfl rfl ?_
        refine g_getr hC dX9_slip_34 lfRX9_10 (isO_spec h0) (ft_9_0 h0) ?_
        refine g_iload_n hC dX9_slip_37 2 rfl rfl ?_
        refine g_bipush hC dX9_slip_38 bp_8 ?_
        refine g_iload_n hC dX9_slip_40 3 rfl rfl ?_
        obtain ⟨s3, e3, h⟩ := of_bind h
        try dsimp only at h
        refine s_callVv hC dX9_slip_41 (tX2_become (rf_9_0 h0) e3) miX2_become mvX2_become mlRX9_126 (isO_spec (rf_9_0 h0)) vc_2 rfl rfl (Nat.le_of_ble_eq_true rfl) (Nat.le_of_ble_eq_true rfl) (Nat.le_of_ble_eq_true rfl) hcs ?_
        refine g_aload_n hC dX9_slip_44 1 rfl rfl ?_
        refine g_getr hC dX9_slip_45 lfRX9_69 (isO_spec h0) (ft_9_9 h0) ?_
        refine g_iconst hC dX9_slip_48 ok_3 ?_
        refine g_dup2 hC dX9_slip_49 rfl rfl ?_
        obtain ⟨b9, h⟩ := of_ite h
        refine g_iald hC dX9_slip_50 (isA_spec (rf_9_9 h0)) b9 ?_
        refine g_iload_n hC dX9_slip_51 3 rfl rfl ?_
        refine g_iadd hC dX9_slip_52 ?_
        obtain ⟨b9, h⟩ := of_ite h
        refine g_iast hC dX9_slip_53 (isA_spec (rf_9_9 h0)) b9 ?_
        refine g_iload_n hC dX9_slip_54 0 rfl rfl ?_
        exact ret_i h hR dX9_slip_55
      · rw [if_neg h9] at h
        refine g_iconst hC dX9_slip_20 ok_m1 ?_
        exact ret_i h hR dX9_slip_21
theorem tX9_slip {l : Launch} {g : GT} {c0 : Nat} {x1 : Int} {x2 : Int} {σ σ' : St} {r : Int} (h0 : isO 9 c0 = true) (h : fX9_slip c0 x1 x2 σ = some (r, σ')) : Cn l g yX9_slip cX9_slip 4 (some .int) 1 0 0 [vr c0, vi x1, vi x2] (SH0, σ) (some (vi r)) (SH0, σ') :=
  Cn.ofI (by decide) (Nat.le_of_ble_eq_true rfl) (fun K e hC hR => (bX9_slip_0 hC ⟨Nat.le_refl _, Nat.le_refl _⟩ h0 hR _ h))
theorem dX5_isUnder_0 : decode cX5_isUnder 0 = .ok (.iload_n 0, 1) := by decide +kernel
theorem dX5_isUnder_1 : decode cX5_isUnder 1 = .ok (.istore_n 2, 1) := by decide +kernel
theorem dX5_isUnder_2 : decode cX5_isUnder 2 = .ok (.iconst 0, 1) := by decide +kernel
theorem dX5_isUnder_3 : decode cX5_isUnder 3 = .ok (.istore_n 3, 1) := by decide +kernel
theorem dX5_isUnder_4 : decode cX5_isUnder 4 = .ok (.iload_n 3, 1) := by decide +kernel
theorem dX5_isUnder_5 : decode cX5_isUnder 5 = .ok (.bipush 8, 2) := by decide +kernel
theorem dX5_isUnder_7 : decode cX5_isUnder 7 = .ok (.if_icmp .ge 32, 3) := by decide +kernel
theorem dX5_isUnder_10 : decode cX5_isUnder 10 = .ok (.iload_n 2, 1) := by decide +kernel
theorem dX5_isUnder_11 : decode cX5_isUnder 11 = .ok (.ifCond .lt 28, 3) := by decide +kernel
theorem dX5_isUnder_14 : decode cX5_isUnder 14 = .ok (.iload_n 2, 1) := by decide +kernel
theorem dX5_isUnder_15 : decode cX5_isUnder 15 = .ok (.bipush 8, 2) := by decide +kernel
theorem dX5_isUnder_17 : decode cX5_isUnder 17 = .ok (.if_icmp .ge 22, 3) := by decide +kernel
theorem dX5_isUnder_20 : decode cX5_isUnder 20 = .ok (.iload_n 2, 1) := by decide +kernel
theorem dX5_isUnder_21 : decode cX5_isUnder 21 = .ok (.iload_n 1, 1) := by decide +kernel
theorem dX5_isUnder_22 : decode cX5_isUnder 22 = .ok (.if_icmp .ne 5, 3) := by decide +kernel
theorem dX5_isUnder_25 : decode cX5_isUnder 25 = .ok (.iconst 1, 1) := by decide +kernel
theorem dX5_isUnder_26 : decode cX5_isUnder 26 = .ok (.ireturn, 1) := by decide +kernel
theorem dX5_isUnder_27 : decode cX5_isUnder 27 = .ok (.getstatic 26, 3) := by decide +kernel
theorem dX5_isUnder_30 : decode cX5_isUnder 30 = .ok (.iload_n 2, 1) := by decide +kernel
theorem dX5_isUnder_31 : decode cX5_isUnder 31 = .ok (.iaload, 1) := by decide +kernel
theorem dX5_isUnder_32 : decode cX5_isUnder 32 = .ok (.istore_n 2, 1) := by decide +kernel
theorem dX5_isUnder_33 : decode cX5_isUnder 33 = .ok (.iinc 3 1, 3) := by decide +kernel
theorem dX5_isUnder_36 : decode cX5_isUnder 36 = .ok (.goto (-32), 3) := by decide +kernel
theorem dX5_isUnder_39 : decode cX5_isUnder 39 = .ok (.iconst 0, 1) := by decide +kernel
theorem dX5_isUnder_40 : decode cX5_isUnder 40 = .ok (.ireturn, 1) := by decide +kernel
theorem bX5_isUnder_4 {K : KT} {g : GT} {cm sm : Nat} {cs : Nat × Nat} {x0 : Int} {x1 : Int} {r : Int} {σ' : St} (hC : Ctx K g RX5 cX5_isUnder 4 0 cm sm) (hcs : cs.1 ≤ cm ∧ cs.2 ≤ sm) (hR : RetZ K g cX5_isUnder 4 cs r (SH0, σ')) : ∀ (n : Nat) (x2 : Int) (x3 : Int) (σ : St), fX5_isUnder_4 x0 x1 n x2 x3 σ = some (r, σ') → G K g 4 cs 4 [(0, vi x0), (1, vi x1), (2, vi x2), (3, vi x3)] [] (SH0, σ) := by
  intro n
  induction n with
  | zero =>
    intro x2 x3 σ h
    rw [fX5_isUnder_4.eq_1] at h
    cases h
  | succ n ih =>
    intro x2 x3 σ h
    rw [fX5_isUnder_4.eq_2] at h
    refine g_iload_n hC dX5_isUnder_4 3 rfl rfl ?_
    refine g_bipush hC dX5_isUnder_5 bp_8 ?_
    refine g_icmp_ge hC dX5_isUnder_7 (tgt := 39) (by decide) (fun h9 => ?_) (fun h9 => ?_)
    · rw [if_pos h9] at h
      refine g_iconst hC dX5_isUnder_39 ok_0 ?_
      exact ret_z h hR (by decide) dX5_isUnder_40
    · rw [if_neg h9] at h
      refine g_iload_n hC dX5_isUnder_10 2 rfl rfl ?_
      refine g_if_lt hC dX5_isUnder_11 (tgt := 39) (by decide) (fun h9 => ?_) (fun h9 => ?_)
      · rw [if_pos h9] at h
        refine g_iconst hC dX5_isUnder_39 ok_0 ?_
        exact ret_z h hR (by decide) dX5_isUnder_40
      · rw [if_neg h9] at h
        refine g_iload_n hC dX5_isUnder_14 2 rfl rfl ?_
        refine g_bipush hC dX5_isUnder_15 bp_8 ?_
        refine g_icmp_ge hC dX5_isUnder_17 (tgt := 39) (by decide) (fun h9 => ?_) (fun h9 => ?_)
        · rw [if_pos h9] at h
          refine g_iconst hC dX5_isUnder_39 ok_0 ?_
          exact ret_z h hR (by decide) dX5_isUnder_40
        · rw [if_neg h9] at h
          refine g_iload_n hC dX5_isUnder_20 2 rfl rfl ?_
          refine g_iload_n hC dX5_isUnder_21 1 rfl rfl ?_
          refine g_icmp_ne hC dX5_isUnder_22 (tgt := 27) (by decide) (fun h9 => ?_) (fun h9 => ?_)
          · rw [if_neg h9] at h
            refine g_gets (k := 2) hC dX5_isUnder_27 rfl gsRX5_26 ?_
            refine g_iload_n hC dX5_isUnder_30 2 rfl rfl ?_
            obtain ⟨b9, h⟩ := of_ite h
            refine g_oald (x := 0) hC dX5_isUnder_31 (xs := stv2) rfl b9 (stv2_ok _) ?_
            refine g_istore_n hC dX5_isUnder_32 rfl (Nat.le_of_ble_eq_true rfl) rfl ?_
            refine g_iinc hC dX5_isUnder_33 3 rfl (Nat.le_of_ble_eq_true rfl) rfl ?_
            refine g_goto hC dX5_isUnder_36 (tgt := 4) (by decide) ?_
            exact g_pick [2, 3, 1, 0] rfl (ih _ _ _ h)
          · rw [if_pos h9] at h
            refine g_iconst hC dX5_isUnder_25 ok_1 ?_
            exact ret_z h hR (by decide) dX5_isUnder_26
theorem bX5_isUnder_0 {K : KT} {g : GT} {cm sm : Nat} {cs : Nat × Nat} {x0 : Int} {x1 : Int} {r : Int} {σ' : St} (hC : Ctx K g RX5 cX5_isUnder 4 0 cm sm) (hcs : cs.1 ≤ cm ∧ cs.2 ≤ sm) (hR : RetZ K g cX5_isUnder 4 cs r (SH0, σ')) : ∀ (σ : St), fX5_isUnder x0 x1 σ = some (r, σ') → G K g 4 cs 0 [(0, vi x0), (1, vi x1)] [] (SH0, σ) := by
  intro σ h
  unfold fX5_isUnder at h
  refine g_iload_n hC dX5_isUnder_0 0 rfl rfl ?_
  refine g_istore_n hC dX5_isUnder_1 rfl (Nat.le_of_ble_eq_true rfl) rfl ?_
  refine g_iconst hC dX5_isUnder_2 ok_0 ?_
  refine g_istore_n hC dX5_isUnder_3 rfl (Nat.le_of_ble_eq_true rfl) rfl ?_
  exact g_pick [2, 3, 1, 0] rfl (bX5_isUnder_4 hC hcs hR _ _ _ _ h)
theorem tX5_isUnder {l : Launch} {g : GT} {x0 : Int} {x1 : Int} {σ σ' : St} {r : Int} (h : fX5_isUnder x0 x1 σ = some (r, σ')) : Cn l g yX5_isUnder cX5_isUnder 4 (some .boolean) 0 0 0 [vi x0, vi x1] (SH0, σ) (some (vi r)) (SH0, σ') :=
  Cn.ofZ (by decide) (Nat.le_of_ble_eq_true rfl) (fun K e hC hR => (bX5_isUnder_0 hC ⟨Nat.le_refl _, Nat.le_refl _⟩ hR _ h))
theorem dX5_kindOf_0 : decode cX5_kindOf 0 = .ok (.aload_n 0, 1) := by decide +kernel
theorem dX5_kindOf_1 : decode cX5_kindOf 1 = .ok (.iload_n 1, 1) := by decide +kernel
theorem dX5_kindOf_2 : decode cX5_kindOf 2 = .ok (.invokevirtual 22, 3) := by decide +kernel
theorem dX5_kindOf_5 : decode cX5_kindOf 5 = .ok (.ifCond .eq 12, 3) := by decide +kernel
theorem dX5_kindOf_8 : decode cX5_kindOf 8 = .ok (.aload_n 0, 1) := by decide +kernel
theorem dX5_kindOf_9 : decode cX5_kindOf 9 = .ok (.getfield 11, 3) := by decide +kernel
theorem dX5_kindOf_12 : decode cX5_kindOf 12 = .ok (.iload_n 1, 1) := by decide +kernel
theorem dX5_kindOf_13 : decode cX5_kindOf 13 = .ok (.iaload, 1) := by decide +kernel
theorem dX5_kindOf_14 : decode cX5_kindOf 14 = .ok (.goto 4, 3) := by decide +kernel
theorem dX5_kindOf_17 : decode cX5_kindOf 17 = .ok (.iconst (-1), 1) := by decide +kernel
theorem dX5_kindOf_18 : decode cX5_kindOf 18 = .ok (.ireturn, 1) := by decide +kernel
theorem bX5_kindOf_0 {K : KT} {g : GT} {cm sm : Nat} {cs : Nat × Nat} {c0 : Nat} {x1 : Int} {r : Int} {σ' : St} (hC : Ctx K g RX5 cX5_kindOf 2 1 cm sm) (hcs : cs.1 ≤ cm ∧ cs.2 ≤ sm) (h0 : isO 5 c0 = true) (hR : RetI K g cX5_kindOf 2 cs r (SH0, σ')) : ∀ (σ : St), fX5_kindOf c0 x1 σ = some (r, σ') → G K g 2 cs 0 [(0, vr c0), (1, vi x1)] [] (SH0, σ) := by
  intro σ h
  unfold fX5_kindOf at h
  refine g_aload_n hC dX5_kindOf_0 0 rfl rfl ?_
  refine g_iload_n hC dX5_kindOf_1 1 rfl rfl ?_
  obtain ⟨⟨r1, s1⟩, e1, h⟩ := of_bind h
  try dsimp only at h
  refine s_callVi hC dX5_kindOf_2 (tX5_has h0 e1) miX5_has mvX5_has mlRX5_22 (isO_spec h0) vc_5 rfl rfl (Nat.le_of_ble_eq_true rfl) (Nat.le_of_ble_eq_true rfl) (Nat.le_of_ble_eq_true rfl) hcs ?_
  refine g_if_eq hC dX5_kindOf_5 (tgt := 17) (by decide) (fun h9 => ?_) (fun h9 => ?_)
  · rw [if_pos h9] at h
    refine g_iconst hC dX5_kindOf_17 ok_m1 ?_
    exact ret_i h hR dX5_kindOf_18
  · rw [if_neg h9] at h
    refine g_aload_n hC dX5_kindOf_8 0 rfl rfl ?_
    refine g_getr hC dX5_kindOf_9 lfRX5_11 (isO_spec h0) (ft_5_0 h0) ?_
    refine g_iload_n hC dX5_kindOf_12 1 rfl rfl ?_
    obtain ⟨b9, h⟩ := of_ite h
    refine g_iald hC dX5_kindOf_13 (isA_spec (rf_5_0 h0)) b9 ?_
    refine g_goto hC dX5_kindOf_14 (tgt := 18) (by decide) ?_
    exact ret_i h hR dX5_kindOf_18
theorem tX5_kindOf {l : Launch} {g : GT} {c0 : Nat} {x1 : Int} {σ σ' : St} {r : Int} (h0 : isO 5 c0 = true) (h : fX5_kindOf c0 x1 σ = some (r, σ')) : Cn l g yX5_kindOf cX5_kindOf 2 (some .int) 1 0 0 [vr c0, vi x1] (SH0, σ) (some (vi r)) (SH0, σ') :=
  Cn.ofI (by decide) (Nat.le_of_ble_eq_true rfl) (fun K e hC hR => (bX5_kindOf_0 hC ⟨Nat.le_refl _, Nat.le_refl _⟩ h0 hR _ h))
theorem dX9_taken_0 : decode cX9_taken 0 = .ok (.iload_n 1, 1) := by decide +kernel
theorem dX9_taken_1 : decode cX9_taken 1 = .ok (.invokestatic 92, 3) := by decide +kernel
theorem dX9_taken_4 : decode cX9_taken 4 = .ok (.ifCond .eq 13, 3) := by decide +kernel
theorem dX9_taken_7 : decode cX9_taken 7 = .ok (.iload_n 2, 1) := by decide +kernel
theorem dX9_taken_8 : decode cX9_taken 8 = .ok (.ifCond .lt 9, 3) := by decide +kernel
theorem dX9_taken_11 : decode cX9_taken 11 = .ok (.iload_n 2, 1) := by decide +kernel
theorem dX9_taken_12 : decode cX9_taken 12 = .ok (.bipush 8, 2) := by decide +kernel
theorem dX9_taken_14 : decode cX9_taken 14 = .ok (.if_icmp .lt 5, 3) := by decide +kernel
theorem dX9_taken_17 : decode cX9_taken 17 = .ok (.iconst (-1), 1) := by decide +kernel
theorem dX9_taken_18 : decode cX9_taken 18 = .ok (.ireturn, 1) := by decide +kernel
theorem dX9_taken_19 : decode cX9_taken 19 = .ok (.aload_n 0, 1) := by decide +kernel
theorem dX9_taken_20 : decode cX9_taken 20 = .ok (.getfield 75, 3) := by decide +kernel
theorem dX9_taken_23 : decode cX9_taken 23 = .ok (.iload_n 1, 1) := by decide +kernel
theorem dX9_taken_24 : decode cX9_taken 24 = .ok (.aaload, 1) := by decide +kernel
theorem dX9_taken_25 : decode cX9_taken 25 = .ok (.astore_n 3, 1) := by decide +kernel
theorem dX9_taken_26 : decode cX9_taken 26 = .ok (.aload_n 3, 1) := by decide +kernel
theorem dX9_taken_27 : decode cX9_taken 27 = .ok (.getfield 96, 3) := by decide +kernel
theorem dX9_taken_30 : decode cX9_taken 30 = .ok (.ifCond .ne 6, 3) := by decide +kernel
theorem dX9_taken_33 : decode cX9_taken 33 = .ok (.bipush (-11), 2) := by decide +kernel
theorem dX9_taken_35 : decode cX9_taken 35 = .ok (.ireturn, 1) := by decide +kernel
theorem dX9_taken_36 : decode cX9_taken 36 = .ok (.aload_n 3, 1) := by decide +kernel
theorem dX9_taken_37 : decode cX9_taken 37 = .ok (.getfield 96, 3) := by decide +kernel
theorem dX9_taken_40 : decode cX9_taken 40 = .ok (.iconst 1, 1) := by decide +kernel
theorem dX9_taken_41 : decode cX9_taken 41 = .ok (.if_icmp .eq 6, 3) := by decide +kernel
theorem dX9_taken_44 : decode cX9_taken 44 = .ok (.bipush (-12), 2) := by decide +kernel
theorem dX9_taken_46 : decode cX9_taken 46 = .ok (.ireturn, 1) := by decide +kernel
theorem dX9_taken_47 : decode cX9_taken 47 = .ok (.aload_n 0, 1) := by decide +kernel
theorem dX9_taken_48 : decode cX9_taken 48 = .ok (.getfield 65, 3) := by decide +kernel
theorem dX9_taken_51 : decode cX9_taken 51 = .ok (.aload_n 3, 1) := by decide +kernel
theorem dX9_taken_52 : decode cX9_taken 52 = .ok (.getfield 343, 3) := by decide +kernel
theorem dX9_taken_55 : decode cX9_taken 55 = .ok (.invokevirtual 346, 3) := by decide +kernel
theorem dX9_taken_58 : decode cX9_taken 58 = .ok (.istore 4, 2) := by decide +kernel
theorem dX9_taken_60 : decode cX9_taken 60 = .ok (.iload 4, 2) := by decide +kernel
theorem dX9_taken_62 : decode cX9_taken 62 = .ok (.iload_n 2, 1) := by decide +kernel
theorem dX9_taken_63 : decode cX9_taken 63 = .ok (.invokestatic 349, 3) := by decide +kernel
theorem dX9_taken_66 : decode cX9_taken 66 = .ok (.ifCond .eq 8, 3) := by decide +kernel
theorem dX9_taken_69 : decode cX9_taken 69 = .ok (.iload 4, 2) := by decide +kernel
theorem dX9_taken_71 : decode cX9_taken 71 = .ok (.goto 5, 3) := by decide +kernel
theorem dX9_taken_74 : decode cX9_taken 74 = .ok (.bipush (-12), 2) := by decide +kernel
theorem dX9_taken_76 : decode cX9_taken 76 = .ok (.ireturn, 1) := by decide +kernel
theorem bX9_taken_0 {K : KT} {g : GT} {cm sm : Nat} {cs : Nat × Nat} {c0 : Nat} {x1 : Int} {x2 : Int} {r : Int} {σ' : St} (hC : Ctx K g RX9 cX9_taken 5 2 cm sm) (hcs : cs.1 ≤ cm ∧ cs.2 ≤ sm) (h0 : isO 9 c0 = true) (hR : RetI K g cX9_taken 5 cs r (SH0, σ')) : ∀ (σ : St), fX9_taken c0 x1 x2 σ = some (r, σ') → G K g 5 cs 0 [(0, vr c0), (1, vi x1), (2, vi x2)] [] (SH0, σ) := by
  intro σ h
  unfold fX9_taken at h
  refine g_iload_n hC dX9_taken_0 1 rfl rfl ?_
  obtain ⟨⟨r1, s1⟩, e1, h⟩ := of_bind h
  try dsimp only at h
  refine s_callSi hC dX9_taken_1 (tX9_isShelf e1) miX9_isShelf msX9_isShelf mlRX9_92 rfl rfl (Nat.le_of_ble_eq_true rfl) (Nat.le_of_ble_eq_true rfl) (Nat.le_of_ble_eq_true rfl) hcs ?_
  refine g_if_eq hC dX9_taken_4 (tgt := 17) (by decide) (fun h9 => ?_) (fun h9 => ?_)
  · rw [if_pos h9] at h
    refine g_iconst hC dX9_taken_17 ok_m1 ?_
    exact ret_i h hR dX9_taken_18
  · rw [if_neg h9] at h
    refine g_iload_n hC dX9_taken_7 2 rfl rfl ?_
    refine g_if_lt hC dX9_taken_8 (tgt := 17) (by decide) (fun h9 => ?_) (fun h9 => ?_)
    · rw [if_pos h9] at h
      refine g_iconst hC dX9_taken_17 ok_m1 ?_
      exact ret_i h hR dX9_taken_18
    · rw [if_neg h9] at h
      refine g_iload_n hC dX9_taken_11 2 rfl rfl ?_
      refine g_bipush hC dX9_taken_12 bp_8 ?_
      refine g_icmp_lt hC dX9_taken_14 (tgt := 19) (by decide) (fun h9 => ?_) (fun h9 => ?_)
      · rw [if_pos h9] at h
        refine g_aload_n hC dX9_taken_19 0 rfl rfl ?_
        refine g_getr hC dX9_taken_20 lfRX9_75 (isO_spec h0) (ft_9_8 h0) ?_
        refine g_iload_n hC dX9_taken_23 1 rfl rfl ?_
        obtain ⟨b9, h⟩ := of_ite h
        refine g_aald hC dX9_taken_24 (isA_spec (rf_9_8 h0)) b9 (sh_at (rf_9_8 h0) b9).1 ?_
        have b22 := (sh_at (rf_9_8 h0) b9).2
        refine g_astore_n hC dX9_taken_25 rfl (Nat.le_of_ble_eq_true rfl) rfl ?_
        refine g_aload_n hC dX9_taken_26 0 rfl rfl ?_
        refine g_geti hC dX9_taken_27 lfRX9_96 (isO_spec b22) (ft_6_1 b22) ?_
        refine g_if_ne hC dX9_taken_30 (tgt := 36) (by decide) (fun h9 => ?_) (fun h9 => ?_)
        · rw [if_neg h9] at h
          refine g_aload_n hC dX9_taken_36 0 rfl rfl ?_
          refine g_geti hC dX9_taken_37 lfRX9_96 (isO_spec b22) (ft_6_1 b22) ?_
          refine g_iconst hC dX9_taken_40 ok_1 ?_
          refine g_icmp_eq hC dX9_taken_41 (tgt := 47) (by decide) (fun h9 => ?_) (fun h9 => ?_)
          · rw [if_pos h9] at h
            refine g_aload_n hC dX9_taken_47 1 rfl rfl ?_
            refine g_getr hC dX9_taken_48 lfRX9_65 (isO_spec h0) (ft_9_7 h0) ?_
            refine g_aload_n hC dX9_taken_51 0 rfl rfl ?_
            refine g_geti hC dX9_taken_52 lfRX9_343 (isO_spec b22) (ft_6_2 b22) ?_
            obtain ⟨⟨r3, s3⟩, e3, h⟩ := of_bind h
            try dsimp only at h
            refine s_callVi hC dX9_taken_55 (tX5_kindOf (rf_9_7 h0) e3) miX5_kindOf mvX5_kindOf mlRX9_346 (isO_spec (rf_9_7 h0)) vc_5 rfl rfl (Nat.le_of_ble_eq_true rfl) (Nat.le_of_ble_eq_true rfl) (Nat.le_of_ble_eq_true rfl) hcs ?_
            refine g_istore hC dX9_taken_58 (Nat.le_of_ble_eq_true rfl) rfl ?_
            refine g_iload hC dX9_taken_60 0 rfl ?_
            refine g_iload_n hC dX9_taken_62 4 rfl rfl ?_
            obtain ⟨⟨r4, s4⟩, e4, h⟩ := of_bind h
            try dsimp only at h
            refine s_callSi hC dX9_taken_63 (tX5_isUnder e4) miX5_isUnder msX5_isUnder mlRX9_349 rfl rfl (Nat.le_of_ble_eq_true rfl) (Nat.le_of_ble_eq_true rfl) (Nat.le_of_ble_eq_true rfl) hcs ?_
            refine g_if_eq hC dX9_taken_66 (tgt := 74) (by decide) (fun h9 => ?_) (fun h9 => ?_)
            · rw [if_pos h9] at h
              refine g_bipush hC dX9_taken_74 bp_m12 ?_
              exact ret_i h hR dX9_taken_76
            · rw [if_neg h9] at h
              refine g_iload hC dX9_taken_69 0 rfl ?_
              refine g_goto hC dX9_taken_71 (tgt := 76) (by decide) ?_
              exact ret_i h hR dX9_taken_76
          · rw [if_neg h9] at h
            refine g_bipush hC dX9_taken_44 bp_m12 ?_
            exact ret_i h hR dX9_taken_46
        · rw [if_pos h9] at h
          refine g_bipush hC dX9_taken_33 bp_m11 ?_
          exact ret_i h hR dX9_taken_35
      · rw [if_neg h9] at h
        refine g_iconst hC dX9_taken_17 ok_m1 ?_
        exact ret_i h hR dX9_taken_18
theorem tX9_taken {l : Launch} {g : GT} {c0 : Nat} {x1 : Int} {x2 : Int} {σ σ' : St} {r : Int} (h0 : isO 9 c0 = true) (h : fX9_taken c0 x1 x2 σ = some (r, σ')) : Cn l g yX9_taken cX9_taken 5 (some .int) 2 0 0 [vr c0, vi x1, vi x2] (SH0, σ) (some (vi r)) (SH0, σ') :=
  Cn.ofI (by decide) (Nat.le_of_ble_eq_true rfl) (fun K e hC hR => (bX9_taken_0 hC ⟨Nat.le_refl _, Nat.le_refl _⟩ h0 hR _ h))
theorem dX2_addThing_0 : decode cX2_addThing 0 = .ok (.aload_n 0, 1) := by decide +kernel
theorem dX2_addThing_1 : decode cX2_addThing 1 = .ok (.getfield 18, 3) := by decide +kernel
theorem dX2_addThing_4 : decode cX2_addThing 4 = .ok (.bipush 8, 2) := by decide +kernel
theorem dX2_addThing_6 : decode cX2_addThing 6 = .ok (.if_icmp .lt 6, 3) := by decide +kernel
theorem dX2_addThing_9 : decode cX2_addThing 9 = .ok (.bipush (-3), 2) := by decide +kernel
theorem dX2_addThing_11 : decode cX2_addThing 11 = .ok (.ireturn, 1) := by decide +kernel
theorem dX2_addThing_12 : decode cX2_addThing 12 = .ok (.aload_n 0, 1) := by decide +kernel
theorem dX2_addThing_13 : decode cX2_addThing 13 = .ok (.getfield 18, 3) := by decide +kernel
theorem dX2_addThing_16 : decode cX2_addThing 16 = .ok (.istore_n 2, 1) := by decide +kernel
theorem dX2_addThing_17 : decode cX2_addThing 17 = .ok (.aload_n 0, 1) := by decide +kernel
theorem dX2_addThing_18 : decode cX2_addThing 18 = .ok (.dup, 1) := by decide +kernel
theorem dX2_addThing_19 : decode cX2_addThing 19 = .ok (.getfield 18, 3) := by decide +kernel
theorem dX2_addThing_22 : decode cX2_addThing 22 = .ok (.iconst 1, 1) := by decide +kernel
theorem dX2_addThing_23 : decode cX2_addThing 23 = .ok (.iadd, 1) := by decide +kernel
theorem dX2_addThing_24 : decode cX2_addThing 24 = .ok (.putfield 18, 3) := by decide +kernel
theorem dX2_addThing_27 : decode cX2_addThing 27 = .ok (.aload_n 0, 1) := by decide +kernel
theorem dX2_addThing_28 : decode cX2_addThing 28 = .ok (.iload_n 2, 1) := by decide +kernel
theorem dX2_addThing_29 : decode cX2_addThing 29 = .ok (.iconst 0, 1) := by decide +kernel
theorem dX2_addThing_30 : decode cX2_addThing 30 = .ok (.iload_n 1, 1) := by decide +kernel
theorem dX2_addThing_31 : decode cX2_addThing 31 = .ok (.invokevirtual 32, 3) := by decide +kernel
theorem dX2_addThing_34 : decode cX2_addThing 34 = .ok (.aload_n 0, 1) := by decide +kernel
theorem dX2_addThing_35 : decode cX2_addThing 35 = .ok (.iload_n 2, 1) := by decide +kernel
theorem dX2_addThing_36 : decode cX2_addThing 36 = .ok (.iconst 1, 1) := by decide +kernel
theorem dX2_addThing_37 : decode cX2_addThing 37 = .ok (.iconst (-1), 1) := by decide +kernel
theorem dX2_addThing_38 : decode cX2_addThing 38 = .ok (.invokevirtual 32, 3) := by decide +kernel
theorem dX2_addThing_41 : decode cX2_addThing 41 = .ok (.iload_n 2, 1) := by decide +kernel
theorem dX2_addThing_42 : decode cX2_addThing 42 = .ok (.ireturn, 1) := by decide +kernel
theorem bX2_addThing_0 {K : KT} {g : GT} {cm sm : Nat} {cs : Nat × Nat} {c0 : Nat} {x1 : Int} {r : Int} {σ' : St} (hC : Ctx K g RX2 cX2_addThing 3 1 cm sm) (hcs : cs.1 ≤ cm ∧ cs.2 ≤ sm) (h0 : isO 2 c0 = true) (hR : RetI K g cX2_addThing 3 cs r (SH0, σ')) : ∀ (σ : St), fX2_addThing c0 x1 σ = some (r, σ') → G K g 3 cs 0 [(0, vr c0), (1, vi x1)] [] (SH0, σ) := by
  intro σ h
  unfold fX2_addThing at h
  refine g_aload_n hC dX2_addThing_0 0 rfl rfl ?_
  refine g_geti hC dX2_addThing_1 lfRX2_18 (isO_spec h0) (ft_2_2 h0) ?_
  refine g_bipush hC dX2_addThing_4 bp_8 ?_
  refine g_icmp_lt hC dX2_addThing_6 (tgt := 12) (by decide) (fun h9 => ?_) (fun h9 => ?_)
  · rw [if_pos h9] at h
    refine g_aload_n hC dX2_addThing_12 0 rfl rfl ?_
    refine g_geti hC dX2_addThing_13 lfRX2_18 (isO_spec h0) (ft_2_2 h0) ?_
    refine g_istore_n hC dX2_addThing_16 rfl (Nat.le_of_ble_eq_true rfl) rfl ?_
    refine g_aload_n hC dX2_addThing_17 1 rfl rfl ?_
    refine g_dup hC dX2_addThing_18 rfl ?_
    refine g_geti hC dX2_addThing_19 lfRX2_18 (isO_spec h0) (ft_2_2 h0) ?_
    refine g_iconst hC dX2_addThing_22 ok_1 ?_
    refine g_iadd hC dX2_addThing_23 ?_
    refine g_puti hC dX2_addThing_24 lfRX2_18 fp_2_2 (isO_spec h0) (ft_2_2 h0) ?_
    refine g_aload_n hC dX2_addThing_27 1 rfl rfl ?_
    refine g_iload_n hC dX2_addThing_28 0 rfl rfl ?_
    refine g_iconst hC dX2_addThing_29 ok_0 ?_
    refine g_iload_n hC dX2_addThing_30 2 rfl rfl ?_
    obtain ⟨s1, e1, h⟩ := of_bind h
    try dsimp only at h
    refine s_callVv hC dX2_addThing_31 (tX2_become h0 e1) miX2_become mvX2_become mlRX2_32 (isO_spec h0) vc_2 rfl rfl (Nat.le_of_ble_eq_true rfl) (Nat.le_of_ble_eq_true rfl) (Nat.le_of_ble_eq_true rfl) hcs ?_
    refine g_aload_n hC dX2_addThing_34 1 rfl rfl ?_
    refine g_iload_n hC dX2_addThing_35 0 rfl rfl ?_
    refine g_iconst hC dX2_addThing_36 ok_1 ?_
    refine g_iconst hC dX2_addThing_37 ok_m1 ?_
    obtain ⟨s2, e2, h⟩ := of_bind h
    try dsimp only at h
    refine s_callVv hC dX2_addThing_38 (tX2_become h0 e2) miX2_become mvX2_become mlRX2_32 (isO_spec h0) vc_2 rfl rfl (Nat.le_of_ble_eq_true rfl) (Nat.le_of_ble_eq_true rfl) (Nat.le_of_ble_eq_true rfl) hcs ?_
    refine g_iload_n hC dX2_addThing_41 0 rfl rfl ?_
    exact ret_i h hR dX2_addThing_42
  · rw [if_neg h9] at h
    refine g_bipush hC dX2_addThing_9 bp_m3 ?_
    exact ret_i h hR dX2_addThing_11
theorem tX2_addThing {l : Launch} {g : GT} {c0 : Nat} {x1 : Int} {σ σ' : St} {r : Int} (h0 : isO 2 c0 = true) (h : fX2_addThing c0 x1 σ = some (r, σ')) : Cn l g yX2_addThing cX2_addThing 3 (some .int) 1 0 0 [vr c0, vi x1] (SH0, σ) (some (vi r)) (SH0, σ') :=
  Cn.ofI (by decide) (Nat.le_of_ble_eq_true rfl) (fun K e hC hR => (bX2_addThing_0 hC ⟨Nat.le_refl _, Nat.le_refl _⟩ h0 hR _ h))
theorem dX9_thing_0 : decode cX9_thing 0 = .ok (.iload_n 1, 1) := by decide +kernel
theorem dX9_thing_1 : decode cX9_thing 1 = .ok (.ifCond .lt 8, 3) := by decide +kernel
theorem dX9_thing_4 : decode cX9_thing 4 = .ok (.iload_n 1, 1) := by decide +kernel
theorem dX9_thing_5 : decode cX9_thing 5 = .ok (.iconst 4, 1) := by decide +kernel
theorem dX9_thing_6 : decode cX9_thing 6 = .ok (.if_icmp .lt 5, 3) := by decide +kernel
theorem dX9_thing_9 : decode cX9_thing 9 = .ok (.iconst (-1), 1) := by decide +kernel
theorem dX9_thing_10 : decode cX9_thing 10 = .ok (.ireturn, 1) := by decide +kernel
theorem dX9_thing_11 : decode cX9_thing 11 = .ok (.aload_n 0, 1) := by decide +kernel
theorem dX9_thing_12 : decode cX9_thing 12 = .ok (.getfield 10, 3) := by decide +kernel
theorem dX9_thing_15 : decode cX9_thing 15 = .ok (.iload_n 1, 1) := by decide +kernel
theorem dX9_thing_16 : decode cX9_thing 16 = .ok (.invokevirtual 80, 3) := by decide +kernel
theorem dX9_thing_19 : decode cX9_thing 19 = .ok (.ireturn, 1) := by decide +kernel
theorem bX9_thing_0 {K : KT} {g : GT} {cm sm : Nat} {cs : Nat × Nat} {c0 : Nat} {x1 : Int} {r : Int} {σ' : St} (hC : Ctx K g RX9 cX9_thing 2 2 cm sm) (hcs : cs.1 ≤ cm ∧ cs.2 ≤ sm) (h0 : isO 9 c0 = true) (hR : RetI K g cX9_thing 2 cs r (SH0, σ')) : ∀ (σ : St), fX9_thing c0 x1 σ = some (r, σ') → G K g 2 cs 0 [(0, vr c0), (1, vi x1)] [] (SH0, σ) := by
  intro σ h
  unfold fX9_thing at h
  refine g_iload_n hC dX9_thing_0 1 rfl rfl ?_
  refine g_if_lt hC dX9_thing_1 (tgt := 9) (by decide) (fun h9 => ?_) (fun h9 => ?_)
  · rw [if_pos h9] at h
    refine g_iconst hC dX9_thing_9 ok_m1 ?_
    exact ret_i h hR dX9_thing_10
  · rw [if_neg h9] at h
    refine g_iload_n hC dX9_thing_4 1 rfl rfl ?_
    refine g_iconst hC dX9_thing_5 ok_4 ?_
    refine g_icmp_lt hC dX9_thing_6 (tgt := 11) (by decide) (fun h9 => ?_) (fun h9 => ?_)
    · rw [if_pos h9] at h
      refine g_aload_n hC dX9_thing_11 0 rfl rfl ?_
      refine g_getr hC dX9_thing_12 lfRX9_10 (isO_spec h0) (ft_9_0 h0) ?_
      refine g_iload_n hC dX9_thing_15 1 rfl rfl ?_
      obtain ⟨⟨r1, s1⟩, e1, h⟩ := of_bind h
      try dsimp only at h
      refine s_callVi hC dX9_thing_16 (tX2_addThing (rf_9_0 h0) e1) miX2_addThing mvX2_addThing mlRX9_80 (isO_spec (rf_9_0 h0)) vc_2 rfl rfl (Nat.le_of_ble_eq_true rfl) (Nat.le_of_ble_eq_true rfl) (Nat.le_of_ble_eq_true rfl) hcs ?_
      exact ret_i h hR dX9_thing_19
    · rw [if_neg h9] at h
      refine g_iconst hC dX9_thing_9 ok_m1 ?_
      exact ret_i h hR dX9_thing_10
theorem tX9_thing {l : Launch} {g : GT} {c0 : Nat} {x1 : Int} {σ σ' : St} {r : Int} (h0 : isO 9 c0 = true) (h : fX9_thing c0 x1 σ = some (r, σ')) : Cn l g yX9_thing cX9_thing 2 (some .int) 2 0 0 [vr c0, vi x1] (SH0, σ) (some (vi r)) (SH0, σ') :=
  Cn.ofI (by decide) (Nat.le_of_ble_eq_true rfl) (fun K e hC hR => (bX9_thing_0 hC ⟨Nat.le_refl _, Nat.le_refl _⟩ h0 hR _ h))
theorem dX5_traced_0 : decode cX5_traced 0 = .ok (.iload_n 1, 1) := by decide +kernel
theorem dX5_traced_1 : decode cX5_traced 1 = .ok (.ifCond .lt 16, 3) := by decide +kernel
theorem dX5_traced_4 : decode cX5_traced 4 = .ok (.iload_n 1, 1) := by decide +kernel
theorem dX5_traced_5 : decode cX5_traced 5 = .ok (.aload_n 0, 1) := by decide +kernel
theorem dX5_traced_6 : decode cX5_traced 6 = .ok (.getfield 29, 3) := by decide +kernel
theorem dX5_traced_9 : decode cX5_traced 9 = .ok (.bipush 24, 2) := by decide +kernel
theorem dX5_traced_11 : decode cX5_traced 11 = .ok (.invokestatic 32, 3) := by decide +kernel
theorem dX5_traced_14 : decode cX5_traced 14 = .ok (.if_icmp .lt 7, 3) := by decide +kernel
theorem dX5_traced_17 : decode cX5_traced 17 = .ok (.iconst (-1), 1) := by decide +kernel
theorem dX5_traced_18 : decode cX5_traced 18 = .ok (.goto 9, 3) := by decide +kernel
theorem dX5_traced_21 : decode cX5_traced 21 = .ok (.aload_n 0, 1) := by decide +kernel
theorem dX5_traced_22 : decode cX5_traced 22 = .ok (.getfield 15, 3) := by decide +kernel
theorem dX5_traced_25 : decode cX5_traced 25 = .ok (.iload_n 1, 1) := by decide +kernel
theorem dX5_traced_26 : decode cX5_traced 26 = .ok (.iaload, 1) := by decide +kernel
theorem dX5_traced_27 : decode cX5_traced 27 = .ok (.ireturn, 1) := by decide +kernel
theorem bX5_traced_0 {K : KT} {g : GT} {cm sm : Nat} {cs : Nat × Nat} {c0 : Nat} {x1 : Int} {r : Int} {σ' : St} (hC : Ctx K g RX5 cX5_traced 2 1 cm sm) (hcs : cs.1 ≤ cm ∧ cs.2 ≤ sm) (h0 : isO 5 c0 = true) (hR : RetI K g cX5_traced 2 cs r (SH0, σ')) : ∀ (σ : St), fX5_traced c0 x1 σ = some (r, σ') → G K g 2 cs 0 [(0, vr c0), (1, vi x1)] [] (SH0, σ) := by
  intro σ h
  unfold fX5_traced at h
  refine g_iload_n hC dX5_traced_0 1 rfl rfl ?_
  refine g_if_lt hC dX5_traced_1 (tgt := 17) (by decide) (fun h9 => ?_) (fun h9 => ?_)
  · rw [if_pos h9] at h
    refine g_iconst hC dX5_traced_17 ok_m1 ?_
    refine g_goto hC dX5_traced_18 (tgt := 27) (by decide) ?_
    exact ret_i h hR dX5_traced_27
  · rw [if_neg h9] at h
    refine g_iload_n hC dX5_traced_4 1 rfl rfl ?_
    refine g_aload_n hC dX5_traced_5 0 rfl rfl ?_
    refine g_geti hC dX5_traced_6 lfRX5_29 (isO_spec h0) (ft_5_3 h0) ?_
    refine g_bipush hC dX5_traced_9 bp_24 ?_
    refine g_min hC dX5_traced_11 lmRX5_32 mn_1 mn_2 mn_3 (Nat.le_of_ble_eq_true rfl) (Nat.le_of_ble_eq_true rfl) hcs ?_
    refine g_icmp_lt hC dX5_traced_14 (tgt := 21) (by decide) (fun h9 => ?_) (fun h9 => ?_)
    · rw [if_pos h9] at h
      refine g_aload_n hC dX5_traced_21 0 rfl rfl ?_
      refine g_getr hC dX5_traced_22 lfRX5_15 (isO_spec h0) (ft_5_1 h0) ?_
      refine g_iload_n hC dX5_traced_25 1 rfl rfl ?_
      obtain ⟨b9, h⟩ := of_ite h
      refine g_iald hC dX5_traced_26 (isA_spec (rf_5_1 h0)) b9 ?_
      exact ret_i h hR dX5_traced_27
    · rw [if_neg h9] at h
      refine g_iconst hC dX5_traced_17 ok_m1 ?_
      refine g_goto hC dX5_traced_18 (tgt := 27) (by decide) ?_
      exact ret_i h hR dX5_traced_27
theorem tX5_traced {l : Launch} {g : GT} {c0 : Nat} {x1 : Int} {σ σ' : St} {r : Int} (h0 : isO 5 c0 = true) (h : fX5_traced c0 x1 σ = some (r, σ')) : Cn l g yX5_traced cX5_traced 2 (some .int) 1 0 0 [vr c0, vi x1] (SH0, σ) (some (vi r)) (SH0, σ') :=
  Cn.ofI (by decide) (Nat.le_of_ble_eq_true rfl) (fun K e hC hR => (bX5_traced_0 hC ⟨Nat.le_refl _, Nat.le_refl _⟩ h0 hR _ h))
theorem dX9_trace_0 : decode cX9_trace 0 = .ok (.aload_n 0, 1) := by decide +kernel
theorem dX9_trace_1 : decode cX9_trace 1 = .ok (.getfield 65, 3) := by decide +kernel
theorem dX9_trace_4 : decode cX9_trace 4 = .ok (.iload_n 1, 1) := by decide +kernel
theorem dX9_trace_5 : decode cX9_trace 5 = .ok (.invokevirtual 304, 3) := by decide +kernel
theorem dX9_trace_8 : decode cX9_trace 8 = .ok (.ireturn, 1) := by decide +kernel
theorem bX9_trace_0 {K : KT} {g : GT} {cm sm : Nat} {cs : Nat × Nat} {c0 : Nat} {x1 : Int} {r : Int} {σ' : St} (hC : Ctx K g RX9 cX9_trace 2 2 cm sm) (hcs : cs.1 ≤ cm ∧ cs.2 ≤ sm) (h0 : isO 9 c0 = true) (hR : RetI K g cX9_trace 2 cs r (SH0, σ')) : ∀ (σ : St), fX9_trace c0 x1 σ = some (r, σ') → G K g 2 cs 0 [(0, vr c0), (1, vi x1)] [] (SH0, σ) := by
  intro σ h
  unfold fX9_trace at h
  refine g_aload_n hC dX9_trace_0 0 rfl rfl ?_
  refine g_getr hC dX9_trace_1 lfRX9_65 (isO_spec h0) (ft_9_7 h0) ?_
  refine g_iload_n hC dX9_trace_4 1 rfl rfl ?_
  obtain ⟨⟨r1, s1⟩, e1, h⟩ := of_bind h
  try dsimp only at h
  refine s_callVi hC dX9_trace_5 (tX5_traced (rf_9_7 h0) e1) miX5_traced mvX5_traced mlRX9_304 (isO_spec (rf_9_7 h0)) vc_5 rfl rfl (Nat.le_of_ble_eq_true rfl) (Nat.le_of_ble_eq_true rfl) (Nat.le_of_ble_eq_true rfl) hcs ?_
  exact ret_i h hR dX9_trace_8
theorem tX9_trace {l : Launch} {g : GT} {c0 : Nat} {x1 : Int} {σ σ' : St} {r : Int} (h0 : isO 9 c0 = true) (h : fX9_trace c0 x1 σ = some (r, σ')) : Cn l g yX9_trace cX9_trace 2 (some .int) 2 0 0 [vr c0, vi x1] (SH0, σ) (some (vi r)) (SH0, σ') :=
  Cn.ofI (by decide) (Nat.le_of_ble_eq_true rfl) (fun K e hC hR => (bX9_trace_0 hC ⟨Nat.le_refl _, Nat.le_refl _⟩ h0 hR _ h))
theorem dX0_unmake_0 : decode cX0_unmake 0 = .ok (.aload_n 0, 1) := by decide +kernel
theorem dX0_unmake_1 : decode cX0_unmake 1 = .ok (.getfield 17, 3) := by decide +kernel
theorem dX0_unmake_4 : decode cX0_unmake 4 = .ok (.ifCond .le 56, 3) := by decide +kernel
theorem dX0_unmake_7 : decode cX0_unmake 7 = .ok (.aload_n 0, 1) := by decide +kernel
theorem dX0_unmake_8 : decode cX0_unmake 8 = .ok (.dup, 1) := by decide +kernel
theorem dX0_unmake_9 : decode cX0_unmake 9 = .ok (.getfield 17, 3) := by decide +kernel
theorem dX0_unmake_12 : decode cX0_unmake 12 = .ok (.iconst 1, 1) := by decide +kernel
theorem dX0_unmake_13 : decode cX0_unmake 13 = .ok (.isub, 1) := by decide +kernel
theorem dX0_unmake_14 : decode cX0_unmake 14 = .ok (.putfield 17, 3) := by decide +kernel
theorem dX0_unmake_17 : decode cX0_unmake 17 = .ok (.aload_n 0, 1) := by decide +kernel
theorem dX0_unmake_18 : decode cX0_unmake 18 = .ok (.dup, 1) := by decide +kernel
theorem dX0_unmake_19 : decode cX0_unmake 19 = .ok (.getfield 13, 3) := by decide +kernel
theorem dX0_unmake_22 : decode cX0_unmake 22 = .ok (.iconst 1, 1) := by decide +kernel
theorem dX0_unmake_23 : decode cX0_unmake 23 = .ok (.iadd, 1) := by decide +kernel
theorem dX0_unmake_24 : decode cX0_unmake 24 = .ok (.putfield 13, 3) := by decide +kernel
theorem dX0_unmake_27 : decode cX0_unmake 27 = .ok (.aload_n 0, 1) := by decide +kernel
theorem dX0_unmake_28 : decode cX0_unmake 28 = .ok (.getfield 17, 3) := by decide +kernel
theorem dX0_unmake_31 : decode cX0_unmake 31 = .ok (.iconst 4, 1) := by decide +kernel
theorem dX0_unmake_32 : decode cX0_unmake 32 = .ok (.imul, 1) := by decide +kernel
theorem dX0_unmake_33 : decode cX0_unmake 33 = .ok (.istore_n 2, 1) := by decide +kernel
theorem dX0_unmake_34 : decode cX0_unmake 34 = .ok (.aload_n 1, 1) := by decide +kernel
theorem dX0_unmake_35 : decode cX0_unmake 35 = .ok (.aload_n 0, 1) := by decide +kernel
theorem dX0_unmake_36 : decode cX0_unmake 36 = .ok (.getfield 9, 3) := by decide +kernel
theorem dX0_unmake_39 : decode cX0_unmake 39 = .ok (.iload_n 2, 1) := by decide +kernel
theorem dX0_unmake_40 : decode cX0_unmake 40 = .ok (.iaload, 1) := by decide +kernel
theorem dX0_unmake_41 : decode cX0_unmake 41 = .ok (.aload_n 0, 1) := by decide +kernel
theorem dX0_unmake_42 : decode cX0_unmake 42 = .ok (.getfield 9, 3) := by decide +kernel
theorem dX0_unmake_45 : decode cX0_unmake 45 = .ok (.iload_n 2, 1) := by decide +kernel
theorem dX0_unmake_46 : decode cX0_unmake 46 = .ok (.iconst 1, 1) := by decide +kernel
theorem dX0_unmake_47 : decode cX0_unmake 47 = .ok (.iadd, 1) := by decide +kernel
theorem dX0_unmake_48 : decode cX0_unmake 48 = .ok (.iaload, 1) := by decide +kernel
theorem dX0_unmake_49 : decode cX0_unmake 49 = .ok (.aload_n 0, 1) := by decide +kernel
theorem dX0_unmake_50 : decode cX0_unmake 50 = .ok (.getfield 9, 3) := by decide +kernel
theorem dX0_unmake_53 : decode cX0_unmake 53 = .ok (.iload_n 2, 1) := by decide +kernel
theorem dX0_unmake_54 : decode cX0_unmake 54 = .ok (.iconst 2, 1) := by decide +kernel
theorem dX0_unmake_55 : decode cX0_unmake 55 = .ok (.iadd, 1) := by decide +kernel
theorem dX0_unmake_56 : decode cX0_unmake 56 = .ok (.iaload, 1) := by decide +kernel
theorem dX0_unmake_57 : decode cX0_unmake 57 = .ok (.invokevirtual 26, 3) := by decide +kernel
theorem dX0_unmake_60 : decode cX0_unmake 60 = .ok (.aload_n 0, 1) := by decide +kernel
theorem dX0_unmake_61 : decode cX0_unmake 61 = .ok (.getfield 17, 3) := by decide +kernel
theorem dX0_unmake_64 : decode cX0_unmake 64 = .ok (.ireturn, 1) := by decide +kernel
theorem bX0_unmake_0 {K : KT} {g : GT} {cm sm : Nat} {cs : Nat × Nat} {c0 : Nat} {c1 : Nat} {r : Int} {σ' : St} (hC : Ctx K g RX0 cX0_unmake 3 1 cm sm) (hcs : cs.1 ≤ cm ∧ cs.2 ≤ sm) (h0 : isO 0 c0 = true) (h1 : isO 2 c1 = true) (hR : RetI K g cX0_unmake 3 cs r (SH0, σ')) : ∀ (σ : St), fX0_unmake c0 c1 σ = some (r, σ') → G K g 3 cs 0 [(0, vr c0), (1, vr c1)] [] (SH0, σ) := by
  intro σ h
  unfold fX0_unmake at h
  refine g_aload_n hC dX0_unmake_0 0 rfl rfl ?_
  refine g_geti hC dX0_unmake_1 lfRX0_17 (isO_spec h0) (ft_0_1 h0) ?_
  refine g_if_le hC dX0_unmake_4 (tgt := 60) (by decide) (fun h9 => ?_) (fun h9 => ?_)
  · rw [if_pos h9] at h
    refine g_aload_n hC dX0_unmake_60 0 rfl rfl ?_
    refine g_geti hC dX0_unmake_61 lfRX0_17 (isO_spec h0) (ft_0_1 h0) ?_
    exact ret_i h hR dX0_unmake_64
  · rw [if_neg h9] at h
    refine g_aload_n hC dX0_unmake_7 0 rfl rfl ?_
    refine g_dup hC dX0_unmake_8 rfl ?_
    refine g_geti hC dX0_unmake_9 lfRX0_17 (isO_spec h0) (ft_0_1 h0) ?_
    refine g_iconst hC dX0_unmake_12 ok_1 ?_
    refine g_isub hC dX0_unmake_13 ?_
    refine g_puti hC dX0_unmake_14 lfRX0_17 fp_0_1 (isO_spec h0) (ft_0_1 h0) ?_
    refine g_aload_n hC dX0_unmake_17 0 rfl rfl ?_
    refine g_dup hC dX0_unmake_18 rfl ?_
    refine g_geti hC dX0_unmake_19 lfRX0_13 (isO_spec h0) (ft_0_2 h0) ?_
    refine g_iconst hC dX0_unmake_22 ok_1 ?_
    refine g_iadd hC dX0_unmake_23 ?_
    refine g_puti hC dX0_unmake_24 lfRX0_13 fp_0_2 (isO_spec h0) (ft_0_2 h0) ?_
    refine g_aload_n hC dX0_unmake_27 0 rfl rfl ?_
    refine g_geti hC dX0_unmake_28 lfRX0_17 (isO_spec h0) (ft_0_1 h0) ?_
    refine g_iconst hC dX0_unmake_31 ok_4 ?_
    refine g_imul hC dX0_unmake_32 ?_
    refine g_istore_n hC dX0_unmake_33 rfl (Nat.le_of_ble_eq_true rfl) rfl ?_
    refine g_aload_n hC dX0_unmake_34 2 rfl rfl ?_
    refine g_aload_n hC dX0_unmake_35 1 rfl rfl ?_
    refine g_getr hC dX0_unmake_36 lfRX0_9 (isO_spec h0) (ft_0_0 h0) ?_
    refine g_iload_n hC dX0_unmake_39 0 rfl rfl ?_
    obtain ⟨b9, h⟩ := of_ite h
    refine g_iald hC dX0_unmake_40 (isA_spec (rf_0_0 h0)) b9 ?_
    refine g_aload_n hC dX0_unmake_41 1 rfl rfl ?_
    refine g_getr hC dX0_unmake_42 lfRX0_9 (isO_spec h0) (ft_0_0 h0) ?_
    refine g_iload_n hC dX0_unmake_45 0 rfl rfl ?_
    refine g_iconst hC dX0_unmake_46 ok_1 ?_
    refine g_iadd hC dX0_unmake_47 ?_
    obtain ⟨b9, h⟩ := of_ite h
    refine g_iald hC dX0_unmake_48 (isA_spec (rf_0_0 h0)) b9 ?_
    refine g_aload_n hC dX0_unmake_49 1 rfl rfl ?_
    refine g_getr hC dX0_unmake_50 lfRX0_9 (isO_spec h0) (ft_0_0 h0) ?_
    refine g_iload_n hC dX0_unmake_53 0 rfl rfl ?_
    refine g_iconst hC dX0_unmake_54 ok_2 ?_
    refine g_iadd hC dX0_unmake_55 ?_
    obtain ⟨b9, h⟩ := of_ite h
    refine g_iald hC dX0_unmake_56 (isA_spec (rf_0_0 h0)) b9 ?_
    obtain ⟨s1, e1, h⟩ := of_bind h
    try dsimp only at h
    refine s_callVv hC dX0_unmake_57 (tX2_become h1 e1) miX2_become mvX2_become mlRX0_26 (isO_spec h1) vc_2 rfl rfl (Nat.le_of_ble_eq_true rfl) (Nat.le_of_ble_eq_true rfl) (Nat.le_of_ble_eq_true rfl) hcs ?_
    refine g_aload_n hC dX0_unmake_60 1 rfl rfl ?_
    refine g_geti hC dX0_unmake_61 lfRX0_17 (isO_spec h0) (ft_0_1 h0) ?_
    exact ret_i h hR dX0_unmake_64
theorem tX0_unmake {l : Launch} {g : GT} {c0 : Nat} {c1 : Nat} {σ σ' : St} {r : Int} (h0 : isO 0 c0 = true) (h1 : isO 2 c1 = true) (h : fX0_unmake c0 c1 σ = some (r, σ')) : Cn l g yX0_unmake cX0_unmake 3 (some .int) 1 0 0 [vr c0, vr c1] (SH0, σ) (some (vi r)) (SH0, σ') :=
  Cn.ofI (by decide) (Nat.le_of_ble_eq_true rfl) (fun K e hC hR => (bX0_unmake_0 hC ⟨Nat.le_refl _, Nat.le_refl _⟩ h0 h1 hR _ h))
theorem dX9_undo_0 : decode cX9_undo 0 = .ok (.aload_n 0, 1) := by decide +kernel
theorem dX9_undo_1 : decode cX9_undo 1 = .ok (.getfield 51, 3) := by decide +kernel
theorem dX9_undo_4 : decode cX9_undo 4 = .ok (.getfield 282, 3) := by decide +kernel
theorem dX9_undo_7 : decode cX9_undo 7 = .ok (.ifCond .ne 8, 3) := by decide +kernel
theorem dX9_undo_10 : decode cX9_undo 10 = .ok (.bipush (-5), 2) := by decide +kernel
theorem dX9_undo_12 : decode cX9_undo 12 = .ok (.goto 14, 3) := by decide +kernel
theorem dX9_undo_15 : decode cX9_undo 15 = .ok (.aload_n 0, 1) := by decide +kernel
theorem dX9_undo_16 : decode cX9_undo 16 = .ok (.getfield 51, 3) := by decide +kernel
theorem dX9_undo_19 : decode cX9_undo 19 = .ok (.aload_n 0, 1) := by decide +kernel
theorem dX9_undo_20 : decode cX9_undo 20 = .ok (.getfield 10, 3) := by decide +kernel
theorem dX9_undo_23 : decode cX9_undo 23 = .ok (.invokevirtual 285, 3) := by decide +kernel
theorem dX9_undo_26 : decode cX9_undo 26 = .ok (.ireturn, 1) := by decide +kernel
theorem bX9_undo_0 {K : KT} {g : GT} {cm sm : Nat} {cs : Nat × Nat} {c0 : Nat} {r : Int} {σ' : St} (hC : Ctx K g RX9 cX9_undo 1 2 cm sm) (hcs : cs.1 ≤ cm ∧ cs.2 ≤ sm) (h0 : isO 9 c0 = true) (hR : RetI K g cX9_undo 1 cs r (SH0, σ')) : ∀ (σ : St), fX9_undo c0 σ = some (r, σ') → G K g 1 cs 0 [(0, vr c0)] [] (SH0, σ) := by
  intro σ h
  unfold fX9_undo at h
  refine g_aload_n hC dX9_undo_0 0 rfl rfl ?_
  refine g_getr hC dX9_undo_1 lfRX9_51 (isO_spec h0) (ft_9_5 h0) ?_
  refine g_geti hC dX9_undo_4 lfRX9_282 (isO_spec (rf_9_5 h0)) (ft_0_1 (rf_9_5 h0)) ?_
  refine g_if_ne hC dX9_undo_7 (tgt := 15) (by decide) (fun h9 => ?_) (fun h9 => ?_)
  · rw [if_neg h9] at h
    refine g_aload_n hC dX9_undo_15 0 rfl rfl ?_
    refine g_getr hC dX9_undo_16 lfRX9_51 (isO_spec h0) (ft_9_5 h0) ?_
    refine g_aload_n hC dX9_undo_19 0 rfl rfl ?_
    refine g_getr hC dX9_undo_20 lfRX9_10 (isO_spec h0) (ft_9_0 h0) ?_
    obtain ⟨⟨r1, s1⟩, e1, h⟩ := of_bind h
    try dsimp only at h
    refine s_callVi hC dX9_undo_23 (tX0_unmake (rf_9_5 h0) (rf_9_0 h0) e1) miX0_unmake mvX0_unmake mlRX9_285 (isO_spec (rf_9_5 h0)) vc_0 rfl rfl (Nat.le_of_ble_eq_true rfl) (Nat.le_of_ble_eq_true rfl) (Nat.le_of_ble_eq_true rfl) hcs ?_
    exact ret_i h hR dX9_undo_26
  · rw [if_pos h9] at h
    refine g_bipush hC dX9_undo_10 bp_m5 ?_
    refine g_goto hC dX9_undo_12 (tgt := 26) (by decide) ?_
    exact ret_i h hR dX9_undo_26
theorem tX9_undo {l : Launch} {g : GT} {c0 : Nat} {σ σ' : St} {r : Int} (h0 : isO 9 c0 = true) (h : fX9_undo c0 σ = some (r, σ')) : Cn l g yX9_undo cX9_undo 1 (some .int) 2 0 0 [vr c0] (SH0, σ) (some (vi r)) (SH0, σ') :=
  Cn.ofI (by decide) (Nat.le_of_ble_eq_true rfl) (fun K e hC hR => (bX9_undo_0 hC ⟨Nat.le_refl _, Nat.le_refl _⟩ h0 hR _ h))
theorem dX9_wins_0 : decode cX9_wins 0 = .ok (.aload_n 0, 1) := by decide +kernel
theorem dX9_wins_1 : decode cX9_wins 1 = .ok (.getfield 10, 3) := by decide +kernel
theorem dX9_wins_4 : decode cX9_wins 4 = .ok (.iload_n 1, 1) := by decide +kernel
theorem dX9_wins_5 : decode cX9_wins 5 = .ok (.invokevirtual 161, 3) := by decide +kernel
theorem dX9_wins_8 : decode cX9_wins 8 = .ok (.ifCond .ne 5, 3) := by decide +kernel
theorem dX9_wins_11 : decode cX9_wins 11 = .ok (.iconst (-1), 1) := by decide +kernel
theorem dX9_wins_12 : decode cX9_wins 12 = .ok (.ireturn, 1) := by decide +kernel
theorem dX9_wins_13 : decode cX9_wins 13 = .ok (.aload_n 0, 1) := by decide +kernel
theorem dX9_wins_14 : decode cX9_wins 14 = .ok (.getfield 28, 3) := by decide +kernel
theorem dX9_wins_17 : decode cX9_wins 17 = .ok (.aload_n 0, 1) := by decide +kernel
theorem dX9_wins_18 : decode cX9_wins 18 = .ok (.getfield 10, 3) := by decide +kernel
theorem dX9_wins_21 : decode cX9_wins 21 = .ok (.invokevirtual 147, 3) := by decide +kernel
theorem dX9_wins_24 : decode cX9_wins 24 = .ok (.aload_n 0, 1) := by decide +kernel
theorem dX9_wins_25 : decode cX9_wins 25 = .ok (.getfield 28, 3) := by decide +kernel
theorem dX9_wins_28 : decode cX9_wins 28 = .ok (.iload_n 1, 1) := by decide +kernel
theorem dX9_wins_29 : decode cX9_wins 29 = .ok (.invokevirtual 151, 3) := by decide +kernel
theorem dX9_wins_32 : decode cX9_wins 32 = .ok (.aload_n 0, 1) := by decide +kernel
theorem dX9_wins_33 : decode cX9_wins 33 = .ok (.getfield 28, 3) := by decide +kernel
theorem dX9_wins_36 : decode cX9_wins 36 = .ok (.invokevirtual 164, 3) := by decide +kernel
theorem dX9_wins_39 : decode cX9_wins 39 = .ok (.ireturn, 1) := by decide +kernel
theorem bX9_wins_0 {K : KT} {g : GT} {cm sm : Nat} {cs : Nat × Nat} {c0 : Nat} {x1 : Int} {r : Int} {σ' : St} (hC : Ctx K g RX9 cX9_wins 2 4 cm sm) (hcs : cs.1 ≤ cm ∧ cs.2 ≤ sm) (h0 : isO 9 c0 = true) (hR : RetI K g cX9_wins 2 cs r (SH0, σ')) : ∀ (σ : St), fX9_wins c0 x1 σ = some (r, σ') → G K g 2 cs 0 [(0, vr c0), (1, vi x1)] [] (SH0, σ) := by
  intro σ h
  unfold fX9_wins at h
  refine g_aload_n hC dX9_wins_0 0 rfl rfl ?_
  refine g_getr hC dX9_wins_1 lfRX9_10 (isO_spec h0) (ft_9_0 h0) ?_
  refine g_iload_n hC dX9_wins_4 1 rfl rfl ?_
  obtain ⟨⟨r1, s1⟩, e1, h⟩ := of_bind h
  try dsimp only at h
  refine s_callVi hC dX9_wins_5 (tX2_hasThing (rf_9_0 h0) e1) miX2_hasThing mvX2_hasThing mlRX9_161 (isO_spec (rf_9_0 h0)) vc_2 rfl rfl (Nat.le_of_ble_eq_true rfl) (Nat.le_of_ble_eq_true rfl) (Nat.le_of_ble_eq_true rfl) hcs ?_
  refine g_if_ne hC dX9_wins_8 (tgt := 13) (by decide) (fun h9 => ?_) (fun h9 => ?_)
  · rw [if_neg h9] at h
    refine g_aload_n hC dX9_wins_13 0 rfl rfl ?_
    refine g_getr hC dX9_wins_14 lfRX9_28 (isO_spec h0) (ft_9_2 h0) ?_
    refine g_aload_n hC dX9_wins_17 0 rfl rfl ?_
    refine g_getr hC dX9_wins_18 lfRX9_10 (isO_spec h0) (ft_9_0 h0) ?_
    obtain ⟨s2, e2, h⟩ := of_bind h
    try dsimp only at h
    refine s_callVv hC dX9_wins_21 (tX7_begin (rf_9_2 h0) (rf_9_0 h0) e2) miX7_begin mvX7_begin mlRX9_147 (isO_spec (rf_9_2 h0)) vc_7 rfl rfl (Nat.le_of_ble_eq_true rfl) (Nat.le_of_ble_eq_true rfl) (Nat.le_of_ble_eq_true rfl) hcs ?_
    refine g_aload_n hC dX9_wins_24 0 rfl rfl ?_
    refine g_getr hC dX9_wins_25 lfRX9_28 (isO_spec h0) (ft_9_2 h0) ?_
    refine g_iload_n hC dX9_wins_28 1 rfl rfl ?_
    obtain ⟨s3, e3, h⟩ := of_bind h
    try dsimp only at h
    refine s_callVv hC dX9_wins_29 (tX7_considers (rf_9_2 h0) e3) miX7_considers mvX7_considers mlRX9_151 (isO_spec (rf_9_2 h0)) vc_7 rfl rfl (Nat.le_of_ble_eq_true rfl) (Nat.le_of_ble_eq_true rfl) (Nat.le_of_ble_eq_true rfl) hcs ?_
    refine g_aload_n hC dX9_wins_32 0 rfl rfl ?_
    refine g_getr hC dX9_wins_33 lfRX9_28 (isO_spec h0) (ft_9_2 h0) ?_
    obtain ⟨⟨r4, s4⟩, e4, h⟩ := of_bind h
    try dsimp only at h
    refine s_callVi hC dX9_wins_36 (tX7_winner (rf_9_2 h0) e4) miX7_winner mvX7_winner mlRX9_164 (isO_spec (rf_9_2 h0)) vc_7 rfl rfl (Nat.le_of_ble_eq_true rfl) (Nat.le_of_ble_eq_true rfl) (Nat.le_of_ble_eq_true rfl) hcs ?_
    exact ret_i h hR dX9_wins_39
  · rw [if_pos h9] at h
    refine g_iconst hC dX9_wins_11 ok_m1 ?_
    exact ret_i h hR dX9_wins_12
theorem tX9_wins {l : Launch} {g : GT} {c0 : Nat} {x1 : Int} {σ σ' : St} {r : Int} (h0 : isO 9 c0 = true) (h : fX9_wins c0 x1 σ = some (r, σ')) : Cn l g yX9_wins cX9_wins 2 (some .int) 4 0 0 [vr c0, vi x1] (SH0, σ) (some (vi r)) (SH0, σ') :=
  Cn.ofI (by decide) (Nat.le_of_ble_eq_true rfl) (fun K e hC hR => (bX9_wins_0 hC ⟨Nat.le_refl _, Nat.le_refl _⟩ h0 hR _ h))
theorem dX9_year_0 : decode cX9_year 0 = .ok (.aload_n 0, 1) := by decide +kernel
theorem dX9_year_1 : decode cX9_year 1 = .ok (.getfield 10, 3) := by decide +kernel
theorem dX9_year_4 : decode cX9_year 4 = .ok (.invokevirtual 228, 3) := by decide +kernel
theorem dX9_year_7 : decode cX9_year 7 = .ok (.aload_n 0, 1) := by decide +kernel
theorem dX9_year_8 : decode cX9_year 8 = .ok (.getfield 69, 3) := by decide +kernel
theorem dX9_year_11 : decode cX9_year 11 = .ok (.iconst 4, 1) := by decide +kernel
theorem dX9_year_12 : decode cX9_year 12 = .ok (.dup2, 1) := by decide +kernel
theorem dX9_year_13 : decode cX9_year 13 = .ok (.iaload, 1) := by decide +kernel
theorem dX9_year_14 : decode cX9_year 14 = .ok (.iconst 1, 1) := by decide +kernel
theorem dX9_year_15 : decode cX9_year 15 = .ok (.iadd, 1) := by decide +kernel
theorem dX9_year_16 : decode cX9_year 16 = .ok (.iastore, 1) := by decide +kernel
theorem dX9_year_17 : decode cX9_year 17 = .ok (.aload_n 0, 1) := by decide +kernel
theorem dX9_year_18 : decode cX9_year 18 = .ok (.getfield 10, 3) := by decide +kernel
theorem dX9_year_21 : decode cX9_year 21 = .ok (.invokevirtual 231, 3) := by decide +kernel
theorem dX9_year_24 : decode cX9_year 24 = .ok (.invokestatic 195, 3) := by decide +kernel
theorem dX9_year_27 : decode cX9_year 27 = .ok (.ireturn, 1) := by decide +kernel
theorem bX9_year_0 {K : KT} {g : GT} {cm sm : Nat} {cs : Nat × Nat} {c0 : Nat} {r : Int} {σ' : St} (hC : Ctx K g RX9 cX9_year 1 2 cm sm) (hcs : cs.1 ≤ cm ∧ cs.2 ≤ sm) (h0 : isO 9 c0 = true) (hR : RetI K g cX9_year 1 cs r (SH0, σ')) : ∀ (σ : St), fX9_year c0 σ = some (r, σ') → G K g 1 cs 0 [(0, vr c0)] [] (SH0, σ) := by
  intro σ h
  unfold fX9_year at h
  refine g_aload_n hC dX9_year_0 0 rfl rfl ?_
  refine g_getr hC dX9_year_1 lfRX9_10 (isO_spec h0) (ft_9_0 h0) ?_
  obtain ⟨s1, e1, h⟩ := of_bind h
  try dsimp only at h
  refine s_callVv hC dX9_year_4 (tX2_yearPasses (rf_9_0 h0) e1) miX2_yearPasses mvX2_yearPasses mlRX9_228 (isO_spec (rf_9_0 h0)) vc_2 rfl rfl (Nat.le_of_ble_eq_true rfl) (Nat.le_of_ble_eq_true rfl) (Nat.le_of_ble_eq_true rfl) hcs ?_
  refine g_aload_n hC dX9_year_7 0 rfl rfl ?_
  refine g_getr hC dX9_year_8 lfRX9_69 (isO_spec h0) (ft_9_9 h0) ?_
  refine g_iconst hC dX9_year_11 ok_4 ?_
  refine g_dup2 hC dX9_year_12 rfl rfl ?_
  obtain ⟨b9, h⟩ := of_ite h
  refine g_iald hC dX9_year_13 (isA_spec (rf_9_9 h0)) b9 ?_
  refine g_iconst hC dX9_year_14 ok_1 ?_
  refine g_iadd hC dX9_year_15 ?_
  obtain ⟨b9, h⟩ := of_ite h
  refine g_iast hC dX9_year_16 (isA_spec (rf_9_9 h0)) b9 ?_
  refine g_aload_n hC dX9_year_17 0 rfl rfl ?_
  refine g_getr hC dX9_year_18 lfRX9_10 (isO_spec h0) (ft_9_0 h0) ?_
  obtain ⟨⟨r2, s2⟩, e2, h⟩ := of_bind h
  try dsimp only at h
  refine s_callVi hC dX9_year_21 (tX2_missedBits (rf_9_0 h0) e2) miX2_missedBits mvX2_missedBits mlRX9_231 (isO_spec (rf_9_0 h0)) vc_2 rfl rfl (Nat.le_of_ble_eq_true rfl) (Nat.le_of_ble_eq_true rfl) (Nat.le_of_ble_eq_true rfl) hcs ?_
  obtain ⟨⟨r3, s3⟩, e3, h⟩ := of_bind h
  try dsimp only at h
  refine s_callSi hC dX9_year_24 (tJ6_bitCount_0f7a4 e3) miJ6_bitCount_0f7a4 msJ6_bitCount_0f7a4 mlRX9_195 rfl rfl (Nat.le_of_ble_eq_true rfl) (Nat.le_of_ble_eq_true rfl) (Nat.le_of_ble_eq_true rfl) hcs ?_
  exact ret_i h hR dX9_year_27
theorem tX9_year {l : Launch} {g : GT} {c0 : Nat} {σ σ' : St} {r : Int} (h0 : isO 9 c0 = true) (h : fX9_year c0 σ = some (r, σ')) : Cn l g yX9_year cX9_year 1 (some .int) 2 0 0 [vr c0] (SH0, σ) (some (vi r)) (SH0, σ') :=
  Cn.ofI (by decide) (Nat.le_of_ble_eq_true rfl) (fun K e hC hR => (bX9_year_0 hC ⟨Nat.le_refl _, Nat.le_refl _⟩ h0 hR _ h))
