/-! Walks (printed by my program). -/
theorem dX10_becomes_0 : decode cX10_becomes 0 = .ok (.iload_n 2, 1) := by decide +kernel
theorem dX10_becomes_1 : decode cX10_becomes 1 = .ok (.tableswitch 63 0 3 #[31, 39, 47, 55], 31) := by decide +kernel
theorem dX10_becomes_32 : decode cX10_becomes 32 = .ok (.aload_n 0, 1) := by decide +kernel
theorem dX10_becomes_33 : decode cX10_becomes 33 = .ok (.getfield 9, 3) := by decide +kernel
theorem dX10_becomes_36 : decode cX10_becomes 36 = .ok (.iload_n 1, 1) := by decide +kernel
theorem dX10_becomes_37 : decode cX10_becomes 37 = .ok (.iload_n 3, 1) := by decide +kernel
theorem dX10_becomes_38 : decode cX10_becomes 38 = .ok (.iastore, 1) := by decide +kernel
theorem dX10_becomes_39 : decode cX10_becomes 39 = .ok (.return_, 1) := by decide +kernel
theorem dX10_becomes_40 : decode cX10_becomes 40 = .ok (.aload_n 0, 1) := by decide +kernel
theorem dX10_becomes_41 : decode cX10_becomes 41 = .ok (.getfield 15, 3) := by decide +kernel
theorem dX10_becomes_44 : decode cX10_becomes 44 = .ok (.iload_n 1, 1) := by decide +kernel
theorem dX10_becomes_45 : decode cX10_becomes 45 = .ok (.iload_n 3, 1) := by decide +kernel
theorem dX10_becomes_46 : decode cX10_becomes 46 = .ok (.iastore, 1) := by decide +kernel
theorem dX10_becomes_47 : decode cX10_becomes 47 = .ok (.return_, 1) := by decide +kernel
theorem dX10_becomes_48 : decode cX10_becomes 48 = .ok (.aload_n 0, 1) := by decide +kernel
theorem dX10_becomes_49 : decode cX10_becomes 49 = .ok (.getfield 18, 3) := by decide +kernel
theorem dX10_becomes_52 : decode cX10_becomes 52 = .ok (.iload_n 1, 1) := by decide +kernel
theorem dX10_becomes_53 : decode cX10_becomes 53 = .ok (.iload_n 3, 1) := by decide +kernel
theorem dX10_becomes_54 : decode cX10_becomes 54 = .ok (.iastore, 1) := by decide +kernel
theorem dX10_becomes_55 : decode cX10_becomes 55 = .ok (.return_, 1) := by decide +kernel
theorem dX10_becomes_56 : decode cX10_becomes 56 = .ok (.aload_n 0, 1) := by decide +kernel
theorem dX10_becomes_57 : decode cX10_becomes 57 = .ok (.getfield 21, 3) := by decide +kernel
theorem dX10_becomes_60 : decode cX10_becomes 60 = .ok (.iload_n 1, 1) := by decide +kernel
theorem dX10_becomes_61 : decode cX10_becomes 61 = .ok (.iload_n 3, 1) := by decide +kernel
theorem dX10_becomes_62 : decode cX10_becomes 62 = .ok (.iastore, 1) := by decide +kernel
theorem dX10_becomes_63 : decode cX10_becomes 63 = .ok (.return_, 1) := by decide +kernel
theorem dX10_becomes_64 : decode cX10_becomes 64 = .ok (.aload_n 0, 1) := by decide +kernel
theorem dX10_becomes_65 : decode cX10_becomes 65 = .ok (.getfield 24, 3) := by decide +kernel
theorem dX10_becomes_68 : decode cX10_becomes 68 = .ok (.bipush 7, 2) := by decide +kernel
theorem dX10_becomes_70 : decode cX10_becomes 70 = .ok (.iload_n 2, 1) := by decide +kernel
theorem dX10_becomes_71 : decode cX10_becomes 71 = .ok (.iconst 4, 1) := by decide +kernel
theorem dX10_becomes_72 : decode cX10_becomes 72 = .ok (.isub, 1) := by decide +kernel
theorem dX10_becomes_73 : decode cX10_becomes 73 = .ok (.imul, 1) := by decide +kernel
theorem dX10_becomes_74 : decode cX10_becomes 74 = .ok (.iload_n 1, 1) := by decide +kernel
theorem dX10_becomes_75 : decode cX10_becomes 75 = .ok (.iadd, 1) := by decide +kernel
theorem dX10_becomes_76 : decode cX10_becomes 76 = .ok (.iload_n 3, 1) := by decide +kernel
theorem dX10_becomes_77 : decode cX10_becomes 77 = .ok (.iastore, 1) := by decide +kernel
theorem dX10_becomes_78 : decode cX10_becomes 78 = .ok (.return_, 1) := by decide +kernel
theorem bX10_becomes_0 {K : KT} {g : GT} {cm sm : Nat} {cs : Nat × Nat} {c0 : Nat} {x1 : Int} {x2 : Int} {x3 : Int} {σ' : St} (hC : Ctx K g RX10 cX10_becomes 4 0 cm sm) (hcs : cs.1 ≤ cm ∧ cs.2 ≤ sm) (h0 : isO 10 c0 = true) (hR : RetV K g cX10_becomes 4 cs (SH0, σ')) : ∀ (σ : St), fX10_becomes c0 x1 x2 x3 σ = some σ' → G K g 4 cs 0 [(0, vr c0), (1, vi x1), (2, vi x2), (3, vi x3)] [] (SH0, σ) := by
  intro σ h
  unfold fX10_becomes at h
  refine g_iload_n hC dX10_becomes_0 2 rfl rfl ?_
  by_cases h9 : x2 = 0
  · rw [if_pos h9] at h
    refine g_table hC dX10_becomes_1 32 (Or.inr (by (try dsimp only); rw [h9]; exact ⟨by decide, by decide, 31, rfl, by decide⟩)) ?_
    refine g_aload_n hC dX10_becomes_32 0 rfl rfl ?_
    refine g_getr hC dX10_becomes_33 lfRX10_9 (isO_spec h0) (ft_10_1 h0) ?_
    refine g_iload_n hC dX10_becomes_36 1 rfl rfl ?_
    refine g_iload_n hC dX10_becomes_37 3 rfl rfl ?_
    obtain ⟨b9, h⟩ := of_ite h
    refine g_iast hC dX10_becomes_38 (isA_spec (rf_10_1 h0)) b9 ?_
    exact ret_v h hR dX10_becomes_39
  rw [if_neg h9] at h
  have n1 := h9
  clear h9
  by_cases h9 : x2 = 1
  · rw [if_pos h9] at h
    refine g_table hC dX10_becomes_1 40 (Or.inr (by (try dsimp only); rw [h9]; exact ⟨by decide, by decide, 39, rfl, by decide⟩)) ?_
    refine g_aload_n hC dX10_becomes_40 0 rfl rfl ?_
    refine g_getr hC dX10_becomes_41 lfRX10_15 (isO_spec h0) (ft_10_2 h0) ?_
    refine g_iload_n hC dX10_becomes_44 1 rfl rfl ?_
    refine g_iload_n hC dX10_becomes_45 3 rfl rfl ?_
    obtain ⟨b9, h⟩ := of_ite h
    refine g_iast hC dX10_becomes_46 (isA_spec (rf_10_2 h0)) b9 ?_
    exact ret_v h hR dX10_becomes_47
  rw [if_neg h9] at h
  have n2 := h9
  clear h9
  by_cases h9 : x2 = 2
  · rw [if_pos h9] at h
    refine g_table hC dX10_becomes_1 48 (Or.inr (by (try dsimp only); rw [h9]; exact ⟨by decide, by decide, 47, rfl, by decide⟩)) ?_
    refine g_aload_n hC dX10_becomes_48 0 rfl rfl ?_
    refine g_getr hC dX10_becomes_49 lfRX10_18 (isO_spec h0) (ft_10_3 h0) ?_
    refine g_iload_n hC dX10_becomes_52 1 rfl rfl ?_
    refine g_iload_n hC dX10_becomes_53 3 rfl rfl ?_
    obtain ⟨b9, h⟩ := of_ite h
    refine g_iast hC dX10_becomes_54 (isA_spec (rf_10_3 h0)) b9 ?_
    exact ret_v h hR dX10_becomes_55
  rw [if_neg h9] at h
  have n3 := h9
  clear h9
  by_cases h9 : x2 = 3
  · rw [if_pos h9] at h
    refine g_table hC dX10_becomes_1 56 (Or.inr (by (try dsimp only); rw [h9]; exact ⟨by decide, by decide, 55, rfl, by decide⟩)) ?_
    refine g_aload_n hC dX10_becomes_56 0 rfl rfl ?_
    refine g_getr hC dX10_becomes_57 lfRX10_21 (isO_spec h0) (ft_10_4 h0) ?_
    refine g_iload_n hC dX10_becomes_60 1 rfl rfl ?_
    refine g_iload_n hC dX10_becomes_61 3 rfl rfl ?_
    obtain ⟨b9, h⟩ := of_ite h
    refine g_iast hC dX10_becomes_62 (isA_spec (rf_10_4 h0)) b9 ?_
    exact ret_v h hR dX10_becomes_63
  rw [if_neg h9] at h
  have n4 := h9
  clear h9
  refine g_table hC dX10_becomes_1 64 (by
    exact Or.inl ⟨by (try dsimp only); omega, by decide⟩) ?_
  refine g_aload_n hC dX10_becomes_64 0 rfl rfl ?_
  refine g_getr hC dX10_becomes_65 lfRX10_24 (isO_spec h0) (ft_10_6 h0) ?_
  refine g_bipush hC dX10_becomes_68 bp_7 ?_
  refine g_iload_n hC dX10_becomes_70 2 rfl rfl ?_
  refine g_iconst hC dX10_becomes_71 ok_4 ?_
  refine g_isub hC dX10_becomes_72 ?_
  refine g_imul hC dX10_becomes_73 ?_
  refine g_iload_n hC dX10_becomes_74 1 rfl rfl ?_
  refine g_iadd hC dX10_becomes_75 ?_
  refine g_iload_n hC dX10_becomes_76 3 rfl rfl ?_
  obtain ⟨b9, h⟩ := of_ite h
  refine g_iast hC dX10_becomes_77 (isA_spec (rf_10_6 h0)) b9 ?_
  exact ret_v h hR dX10_becomes_78
theorem tX10_becomes {l : Launch} {g : GT} {c0 : Nat} {x1 : Int} {x2 : Int} {x3 : Int} {σ σ' : St} (h0 : isO 10 c0 = true) (h : fX10_becomes c0 x1 x2 x3 σ = some σ') : Cn l g yX10_becomes cX10_becomes 4 none 0 0 0 [vr c0, vi x1, vi x2, vi x3] (SH0, σ) none (SH0, σ') :=
  Cn.ofV (by decide) (Nat.le_of_ble_eq_true rfl) (fun K e hC hR => (bX10_becomes_0 hC ⟨Nat.le_refl _, Nat.le_refl _⟩ h0 hR _ h))
theorem dX10_get_0 : decode cX10_get 0 = .ok (.iload_n 2, 1) := by decide +kernel
theorem dX10_get_1 : decode cX10_get 1 = .ok (.tableswitch 59 0 3 #[31, 38, 45, 52], 31) := by decide +kernel
theorem dX10_get_32 : decode cX10_get 32 = .ok (.aload_n 0, 1) := by decide +kernel
theorem dX10_get_33 : decode cX10_get 33 = .ok (.getfield 9, 3) := by decide +kernel
theorem dX10_get_36 : decode cX10_get 36 = .ok (.iload_n 1, 1) := by decide +kernel
theorem dX10_get_37 : decode cX10_get 37 = .ok (.iaload, 1) := by decide +kernel
theorem dX10_get_38 : decode cX10_get 38 = .ok (.ireturn, 1) := by decide +kernel
theorem dX10_get_39 : decode cX10_get 39 = .ok (.aload_n 0, 1) := by decide +kernel
theorem dX10_get_40 : decode cX10_get 40 = .ok (.getfield 15, 3) := by decide +kernel
theorem dX10_get_43 : decode cX10_get 43 = .ok (.iload_n 1, 1) := by decide +kernel
theorem dX10_get_44 : decode cX10_get 44 = .ok (.iaload, 1) := by decide +kernel
theorem dX10_get_45 : decode cX10_get 45 = .ok (.ireturn, 1) := by decide +kernel
theorem dX10_get_46 : decode cX10_get 46 = .ok (.aload_n 0, 1) := by decide +kernel
theorem dX10_get_47 : decode cX10_get 47 = .ok (.getfield 18, 3) := by decide +kernel
theorem dX10_get_50 : decode cX10_get 50 = .ok (.iload_n 1, 1) := by decide +kernel
theorem dX10_get_51 : decode cX10_get 51 = .ok (.iaload, 1) := by decide +kernel
theorem dX10_get_52 : decode cX10_get 52 = .ok (.ireturn, 1) := by decide +kernel
theorem dX10_get_53 : decode cX10_get 53 = .ok (.aload_n 0, 1) := by decide +kernel
theorem dX10_get_54 : decode cX10_get 54 = .ok (.getfield 21, 3) := by decide +kernel
theorem dX10_get_57 : decode cX10_get 57 = .ok (.iload_n 1, 1) := by decide +kernel
theorem dX10_get_58 : decode cX10_get 58 = .ok (.iaload, 1) := by decide +kernel
theorem dX10_get_59 : decode cX10_get 59 = .ok (.ireturn, 1) := by decide +kernel
theorem dX10_get_60 : decode cX10_get 60 = .ok (.aload_n 0, 1) := by decide +kernel
theorem dX10_get_61 : decode cX10_get 61 = .ok (.getfield 24, 3) := by decide +kernel
theorem dX10_get_64 : decode cX10_get 64 = .ok (.bipush 7, 2) := by decide +kernel
theorem dX10_get_66 : decode cX10_get 66 = .ok (.iload_n 2, 1) := by decide +kernel
theorem dX10_get_67 : decode cX10_get 67 = .ok (.iconst 4, 1) := by decide +kernel
theorem dX10_get_68 : decode cX10_get 68 = .ok (.isub, 1) := by decide +kernel
theorem dX10_get_69 : decode cX10_get 69 = .ok (.imul, 1) := by decide +kernel
theorem dX10_get_70 : decode cX10_get 70 = .ok (.iload_n 1, 1) := by decide +kernel
theorem dX10_get_71 : decode cX10_get 71 = .ok (.iadd, 1) := by decide +kernel
theorem dX10_get_72 : decode cX10_get 72 = .ok (.iaload, 1) := by decide +kernel
theorem dX10_get_73 : decode cX10_get 73 = .ok (.ireturn, 1) := by decide +kernel
theorem bX10_get_0 {K : KT} {g : GT} {cm sm : Nat} {cs : Nat × Nat} {c0 : Nat} {x1 : Int} {x2 : Int} {r : Int} {σ' : St} (hC : Ctx K g RX10 cX10_get 3 0 cm sm) (hcs : cs.1 ≤ cm ∧ cs.2 ≤ sm) (h0 : isO 10 c0 = true) (hR : RetI K g cX10_get 3 cs r (SH0, σ')) : ∀ (σ : St), fX10_get c0 x1 x2 σ = some (r, σ') → G K g 3 cs 0 [(0, vr c0), (1, vi x1), (2, vi x2)] [] (SH0, σ) := by
  intro σ h
  unfold fX10_get at h
  refine g_iload_n hC dX10_get_0 2 rfl rfl ?_
  by_cases h9 : x2 = 0
  · rw [if_pos h9] at h
    refine g_table hC dX10_get_1 32 (Or.inr (by (try dsimp only); rw [h9]; exact ⟨by decide, by decide, 31, rfl, by decide⟩)) ?_
    refine g_aload_n hC dX10_get_32 0 rfl rfl ?_
    refine g_getr hC dX10_get_33 lfRX10_9 (isO_spec h0) (ft_10_1 h0) ?_
    refine g_iload_n hC dX10_get_36 1 rfl rfl ?_
    obtain ⟨b9, h⟩ := of_ite h
    refine g_iald hC dX10_get_37 (isA_spec (rf_10_1 h0)) b9 ?_
    exact ret_i h hR dX10_get_38
  rw [if_neg h9] at h
  have n1 := h9
  clear h9
  by_cases h9 : x2 = 1
  · rw [if_pos h9] at h
    refine g_table hC dX10_get_1 39 (Or.inr (by (try dsimp only); rw [h9]; exact ⟨by decide, by decide, 38, rfl, by decide⟩)) ?_
    refine g_aload_n hC dX10_get_39 0 rfl rfl ?_
    refine g_getr hC dX10_get_40 lfRX10_15 (isO_spec h0) (ft_10_2 h0) ?_
    refine g_iload_n hC dX10_get_43 1 rfl rfl ?_
    obtain ⟨b9, h⟩ := of_ite h
    refine g_iald hC dX10_get_44 (isA_spec (rf_10_2 h0)) b9 ?_
    exact ret_i h hR dX10_get_45
  rw [if_neg h9] at h
  have n2 := h9
  clear h9
  by_cases h9 : x2 = 2
  · rw [if_pos h9] at h
    refine g_table hC dX10_get_1 46 (Or.inr (by (try dsimp only); rw [h9]; exact ⟨by decide, by decide, 45, rfl, by decide⟩)) ?_
    refine g_aload_n hC dX10_get_46 0 rfl rfl ?_
    refine g_getr hC dX10_get_47 lfRX10_18 (isO_spec h0) (ft_10_3 h0) ?_
    refine g_iload_n hC dX10_get_50 1 rfl rfl ?_
    obtain ⟨b9, h⟩ := of_ite h
    refine g_iald hC dX10_get_51 (isA_spec (rf_10_3 h0)) b9 ?_
    exact ret_i h hR dX10_get_52
  rw [if_neg h9] at h
  have n3 := h9
  clear h9
  by_cases h9 : x2 = 3
  · rw [if_pos h9] at h
    refine g_table hC dX10_get_1 53 (Or.inr (by (try dsimp only); rw [h9]; exact ⟨by decide, by decide, 52, rfl, by decide⟩)) ?_
    refine g_aload_n hC dX10_get_53 0 rfl rfl ?_
    refine g_getr hC dX10_get_54 lfRX10_21 (isO_spec h0) (ft_10_4 h0) ?_
    refine g_iload_n hC dX10_get_57 1 rfl rfl ?_
    obtain ⟨b9, h⟩ := of_ite h
    refine g_iald hC dX10_get_58 (isA_spec (rf_10_4 h0)) b9 ?_
    exact ret_i h hR dX10_get_59
  rw [if_neg h9] at h
  have n4 := h9
  clear h9
  refine g_table hC dX10_get_1 60 (by
    exact Or.inl ⟨by (try dsimp only); omega, by decide⟩) ?_
  refine g_aload_n hC dX10_get_60 0 rfl rfl ?_
  refine g_getr hC dX10_get_61 lfRX10_24 (isO_spec h0) (ft_10_6 h0) ?_
  refine g_bipush hC dX10_get_64 bp_7 ?_
  refine g_iload_n hC dX10_get_66 2 rfl rfl ?_
  refine g_iconst hC dX10_get_67 ok_4 ?_
  refine g_isub hC dX10_get_68 ?_
  refine g_imul hC dX10_get_69 ?_
  refine g_iload_n hC dX10_get_70 1 rfl rfl ?_
  refine g_iadd hC dX10_get_71 ?_
  obtain ⟨b9, h⟩ := of_ite h
  refine g_iald hC dX10_get_72 (isA_spec (rf_10_6 h0)) b9 ?_
  exact ret_i h hR dX10_get_73
theorem tX10_get {l : Launch} {g : GT} {c0 : Nat} {x1 : Int} {x2 : Int} {σ σ' : St} {r : Int} (h0 : isO 10 c0 = true) (h : fX10_get c0 x1 x2 σ = some (r, σ')) : Cn l g yX10_get cX10_get 3 (some .int) 0 0 0 [vr c0, vi x1, vi x2] (SH0, σ) (some (vi r)) (SH0, σ') :=
  Cn.ofI (by decide) (Nat.le_of_ble_eq_true rfl) (fun K e hC hR => (bX10_get_0 hC ⟨Nat.le_refl _, Nat.le_refl _⟩ h0 hR _ h))
theorem dX10_noBook_0 : decode cX10_noBook 0 = .ok (.iload_n 1, 1) := by decide +kernel
theorem dX10_noBook_1 : decode cX10_noBook 1 = .ok (.ifCond .lt 23, 3) := by decide +kernel
theorem dX10_noBook_4 : decode cX10_noBook 4 = .ok (.iload_n 1, 1) := by decide +kernel
theorem dX10_noBook_5 : decode cX10_noBook 5 = .ok (.bipush 10, 2) := by decide +kernel
theorem dX10_noBook_7 : decode cX10_noBook 7 = .ok (.idiv, 1) := by decide +kernel
theorem dX10_noBook_8 : decode cX10_noBook 8 = .ok (.invokestatic 112, 3) := by decide +kernel
theorem dX10_noBook_11 : decode cX10_noBook 11 = .ok (.ifCond .eq 13, 3) := by decide +kernel
theorem dX10_noBook_14 : decode cX10_noBook 14 = .ok (.iload_n 1, 1) := by decide +kernel
theorem dX10_noBook_15 : decode cX10_noBook 15 = .ok (.bipush 10, 2) := by decide +kernel
theorem dX10_noBook_17 : decode cX10_noBook 17 = .ok (.irem, 1) := by decide +kernel
theorem dX10_noBook_18 : decode cX10_noBook 18 = .ok (.invokestatic 112, 3) := by decide +kernel
theorem dX10_noBook_21 : decode cX10_noBook 21 = .ok (.ifCond .ne 5, 3) := by decide +kernel
theorem dX10_noBook_24 : decode cX10_noBook 24 = .ok (.iconst (-1), 1) := by decide +kernel
theorem dX10_noBook_25 : decode cX10_noBook 25 = .ok (.ireturn, 1) := by decide +kernel
theorem dX10_noBook_26 : decode cX10_noBook 26 = .ok (.aload_n 0, 1) := by decide +kernel
theorem dX10_noBook_27 : decode cX10_noBook 27 = .ok (.iload_n 1, 1) := by decide +kernel
theorem dX10_noBook_28 : decode cX10_noBook 28 = .ok (.bipush 10, 2) := by decide +kernel
theorem dX10_noBook_30 : decode cX10_noBook 30 = .ok (.idiv, 1) := by decide +kernel
theorem dX10_noBook_31 : decode cX10_noBook 31 = .ok (.invokevirtual 252, 3) := by decide +kernel
theorem dX10_noBook_34 : decode cX10_noBook 34 = .ok (.istore_n 2, 1) := by decide +kernel
theorem dX10_noBook_35 : decode cX10_noBook 35 = .ok (.iload_n 2, 1) := by decide +kernel
theorem dX10_noBook_36 : decode cX10_noBook 36 = .ok (.ifCond .ge 7, 3) := by decide +kernel
theorem dX10_noBook_39 : decode cX10_noBook 39 = .ok (.iload_n 2, 1) := by decide +kernel
theorem dX10_noBook_40 : decode cX10_noBook 40 = .ok (.goto 11, 3) := by decide +kernel
theorem dX10_noBook_43 : decode cX10_noBook 43 = .ok (.aload_n 0, 1) := by decide +kernel
theorem dX10_noBook_44 : decode cX10_noBook 44 = .ok (.iload_n 1, 1) := by decide +kernel
theorem dX10_noBook_45 : decode cX10_noBook 45 = .ok (.bipush 10, 2) := by decide +kernel
theorem dX10_noBook_47 : decode cX10_noBook 47 = .ok (.irem, 1) := by decide +kernel
theorem dX10_noBook_48 : decode cX10_noBook 48 = .ok (.invokevirtual 252, 3) := by decide +kernel
theorem dX10_noBook_51 : decode cX10_noBook 51 = .ok (.ireturn, 1) := by decide +kernel
theorem bX10_noBook_0 {K : KT} {g : GT} {cm sm : Nat} {cs : Nat × Nat} {c0 : Nat} {x1 : Int} {r : Int} {σ' : St} (hC : Ctx K g RX10 cX10_noBook 3 2 cm sm) (hcs : cs.1 ≤ cm ∧ cs.2 ≤ sm) (h0 : isO 10 c0 = true) (hR : RetI K g cX10_noBook 3 cs r (SH0, σ')) : ∀ (σ : St), fX10_noBook c0 x1 σ = some (r, σ') → G K g 3 cs 0 [(0, vr c0), (1, vi x1)] [] (SH0, σ) := by
  intro σ h
  unfold fX10_noBook at h
  refine g_iload_n hC dX10_noBook_0 1 rfl rfl ?_
  refine g_if_lt hC dX10_noBook_1 (tgt := 24) (by decide) (fun h9 => ?_) (fun h9 => ?_)
  · rw [if_pos h9] at h
    refine g_iconst hC dX10_noBook_24 ok_m1 ?_
    exact ret_i h hR dX10_noBook_25
  · rw [if_neg h9] at h
    refine g_iload_n hC dX10_noBook_4 1 rfl rfl ?_
    refine g_bipush hC dX10_noBook_5 bp_10 ?_
    refine g_idiv hC dX10_noBook_7 (by decide) ?_
    obtain ⟨⟨r1, s1⟩, e1, h⟩ := of_bind h
    try dsimp only at h
    refine s_callSi hC dX10_noBook_8 (tX10_isShelf e1) miX10_isShelf msX10_isShelf mlRX10_112 rfl rfl (Nat.le_of_ble_eq_true rfl) (Nat.le_of_ble_eq_true rfl) (Nat.le_of_ble_eq_true rfl) hcs ?_
    refine g_if_eq hC dX10_noBook_11 (tgt := 24) (by decide) (fun h9 => ?_) (fun h9 => ?_)
    · rw [if_pos h9] at h
      refine g_iconst hC dX10_noBook_24 ok_m1 ?_
      exact ret_i h hR dX10_noBook_25
    · rw [if_neg h9] at h
      refine g_iload_n hC dX10_noBook_14 1 rfl rfl ?_
      refine g_bipush hC dX10_noBook_15 bp_10 ?_
      refine g_irem hC dX10_noBook_17 (by decide) ?_
      obtain ⟨⟨r2, s2⟩, e2, h⟩ := of_bind h
      try dsimp only at h
      refine s_callSi hC dX10_noBook_18 (tX10_isShelf e2) miX10_isShelf msX10_isShelf mlRX10_112 rfl rfl (Nat.le_of_ble_eq_true rfl) (Nat.le_of_ble_eq_true rfl) (Nat.le_of_ble_eq_true rfl) hcs ?_
      refine g_if_ne hC dX10_noBook_21 (tgt := 26) (by decide) (fun h9 => ?_) (fun h9 => ?_)
      · rw [if_neg h9] at h
        refine g_aload_n hC dX10_noBook_26 0 rfl rfl ?_
        refine g_iload_n hC dX10_noBook_27 1 rfl rfl ?_
        refine g_bipush hC dX10_noBook_28 bp_10 ?_
        refine g_idiv hC dX10_noBook_30 (by decide) ?_
        obtain ⟨⟨r3, s3⟩, e3, h⟩ := of_bind h
        try dsimp only at h
        refine s_callVi hC dX10_noBook_31 (tX10_noBytes h0 e3) miX10_noBytes mvX10_noBytes mlRX10_252 (isO_spec h0) vc_10 rfl rfl (Nat.le_of_ble_eq_true rfl) (Nat.le_of_ble_eq_true rfl) (Nat.le_of_ble_eq_true rfl) hcs ?_
        refine g_istore_n hC dX10_noBook_34 rfl (Nat.le_of_ble_eq_true rfl) rfl ?_
        refine g_iload_n hC dX10_noBook_35 0 rfl rfl ?_
        refine g_if_ge hC dX10_noBook_36 (tgt := 43) (by decide) (fun h9 => ?_) (fun h9 => ?_)
        · rw [if_pos h9] at h
          refine g_aload_n hC dX10_noBook_43 1 rfl rfl ?_
          refine g_iload_n hC dX10_noBook_44 2 rfl rfl ?_
          refine g_bipush hC dX10_noBook_45 bp_10 ?_
          refine g_irem hC dX10_noBook_47 (by decide) ?_
          obtain ⟨⟨r4, s4⟩, e4, h⟩ := of_bind h
          try dsimp only at h
          refine s_callVi hC dX10_noBook_48 (tX10_noBytes h0 e4) miX10_noBytes mvX10_noBytes mlRX10_252 (isO_spec h0) vc_10 rfl rfl (Nat.le_of_ble_eq_true rfl) (Nat.le_of_ble_eq_true rfl) (Nat.le_of_ble_eq_true rfl) hcs ?_
          exact ret_i h hR dX10_noBook_51
        · rw [if_neg h9] at h
          refine g_iload_n hC dX10_noBook_39 0 rfl rfl ?_
          refine g_goto hC dX10_noBook_40 (tgt := 51) (by decide) ?_
          exact ret_i h hR dX10_noBook_51
      · rw [if_pos h9] at h
        refine g_iconst hC dX10_noBook_24 ok_m1 ?_
        exact ret_i h hR dX10_noBook_25
theorem tX10_noBook {l : Launch} {g : GT} {c0 : Nat} {x1 : Int} {σ σ' : St} {r : Int} (h0 : isO 10 c0 = true) (h : fX10_noBook c0 x1 σ = some (r, σ')) : Cn l g yX10_noBook cX10_noBook 3 (some .int) 2 0 0 [vr c0, vi x1] (SH0, σ) (some (vi r)) (SH0, σ') :=
  Cn.ofI (by decide) (Nat.le_of_ble_eq_true rfl) (fun K e hC hR => (bX10_noBook_0 hC ⟨Nat.le_refl _, Nat.le_refl _⟩ h0 hR _ h))
theorem dX10_unlike_0 : decode cX10_unlike 0 = .ok (.iload_n 1, 1) := by decide +kernel
theorem dX10_unlike_1 : decode cX10_unlike 1 = .ok (.bipush 10, 2) := by decide +kernel
theorem dX10_unlike_3 : decode cX10_unlike 3 = .ok (.idiv, 1) := by decide +kernel
theorem dX10_unlike_4 : decode cX10_unlike 4 = .ok (.istore_n 2, 1) := by decide +kernel
theorem dX10_unlike_5 : decode cX10_unlike 5 = .ok (.iload_n 1, 1) := by decide +kernel
theorem dX10_unlike_6 : decode cX10_unlike 6 = .ok (.bipush 10, 2) := by decide +kernel
theorem dX10_unlike_8 : decode cX10_unlike 8 = .ok (.irem, 1) := by decide +kernel
theorem dX10_unlike_9 : decode cX10_unlike 9 = .ok (.istore_n 3, 1) := by decide +kernel
theorem dX10_unlike_10 : decode cX10_unlike 10 = .ok (.aload_n 0, 1) := by decide +kernel
theorem dX10_unlike_11 : decode cX10_unlike 11 = .ok (.aload_n 0, 1) := by decide +kernel
theorem dX10_unlike_12 : decode cX10_unlike 12 = .ok (.getfield 88, 3) := by decide +kernel
theorem dX10_unlike_15 : decode cX10_unlike 15 = .ok (.invokevirtual 258, 3) := by decide +kernel
theorem dX10_unlike_18 : decode cX10_unlike 18 = .ok (.aload_n 0, 1) := by decide +kernel
theorem dX10_unlike_19 : decode cX10_unlike 19 = .ok (.iload_n 2, 1) := by decide +kernel
theorem dX10_unlike_20 : decode cX10_unlike 20 = .ok (.invokevirtual 255, 3) := by decide +kernel
theorem dX10_unlike_23 : decode cX10_unlike 23 = .ok (.istore 4, 2) := by decide +kernel
theorem dX10_unlike_25 : decode cX10_unlike 25 = .ok (.bipush (-2), 2) := by decide +kernel
theorem dX10_unlike_27 : decode cX10_unlike 27 = .ok (.istore 5, 2) := by decide +kernel
theorem dX10_unlike_29 : decode cX10_unlike 29 = .ok (.iconst 0, 1) := by decide +kernel
theorem dX10_unlike_30 : decode cX10_unlike 30 = .ok (.istore 6, 2) := by decide +kernel
theorem dX10_unlike_32 : decode cX10_unlike 32 = .ok (.iload 6, 2) := by decide +kernel
theorem dX10_unlike_34 : decode cX10_unlike 34 = .ok (.aload_n 0, 1) := by decide +kernel
theorem dX10_unlike_35 : decode cX10_unlike 35 = .ok (.getfield 81, 3) := by decide +kernel
theorem dX10_unlike_38 : decode cX10_unlike 38 = .ok (.iload_n 3, 1) := by decide +kernel
theorem dX10_unlike_39 : decode cX10_unlike 39 = .ok (.iaload, 1) := by decide +kernel
theorem dX10_unlike_40 : decode cX10_unlike 40 = .ok (.if_icmp .ge 76, 3) := by decide +kernel
theorem dX10_unlike_43 : decode cX10_unlike 43 = .ok (.iload 5, 2) := by decide +kernel
theorem dX10_unlike_45 : decode cX10_unlike 45 = .ok (.bipush (-2), 2) := by decide +kernel
theorem dX10_unlike_47 : decode cX10_unlike 47 = .ok (.if_icmp .ne 69, 3) := by decide +kernel
theorem dX10_unlike_50 : decode cX10_unlike 50 = .ok (.iload 6, 2) := by decide +kernel
theorem dX10_unlike_52 : decode cX10_unlike 52 = .ok (.iload 4, 2) := by decide +kernel
theorem dX10_unlike_54 : decode cX10_unlike 54 = .ok (.if_icmp .ge 17, 3) := by decide +kernel
theorem dX10_unlike_57 : decode cX10_unlike 57 = .ok (.aload_n 0, 1) := by decide +kernel
theorem dX10_unlike_58 : decode cX10_unlike 58 = .ok (.aload_n 0, 1) := by decide +kernel
theorem dX10_unlike_59 : decode cX10_unlike 59 = .ok (.iload_n 2, 1) := by decide +kernel
theorem dX10_unlike_60 : decode cX10_unlike 60 = .ok (.iload 6, 2) := by decide +kernel
theorem dX10_unlike_62 : decode cX10_unlike 62 = .ok (.invokevirtual 118, 3) := by decide +kernel
theorem dX10_unlike_65 : decode cX10_unlike 65 = .ok (.invokevirtual 262, 3) := by decide +kernel
theorem dX10_unlike_68 : decode cX10_unlike 68 = .ok (.goto 5, 3) := by decide +kernel
theorem dX10_unlike_71 : decode cX10_unlike 71 = .ok (.bipush (-2), 2) := by decide +kernel
theorem dX10_unlike_73 : decode cX10_unlike 73 = .ok (.istore 7, 2) := by decide +kernel
theorem dX10_unlike_75 : decode cX10_unlike 75 = .ok (.iload 6, 2) := by decide +kernel
theorem dX10_unlike_77 : decode cX10_unlike 77 = .ok (.iload 4, 2) := by decide +kernel
theorem dX10_unlike_79 : decode cX10_unlike 79 = .ok (.if_icmp .ge 27, 3) := by decide +kernel
theorem dX10_unlike_82 : decode cX10_unlike 82 = .ok (.aload_n 0, 1) := by decide +kernel
theorem dX10_unlike_83 : decode cX10_unlike 83 = .ok (.iload_n 3, 1) := by decide +kernel
theorem dX10_unlike_84 : decode cX10_unlike 84 = .ok (.iload 6, 2) := by decide +kernel
theorem dX10_unlike_86 : decode cX10_unlike 86 = .ok (.invokevirtual 118, 3) := by decide +kernel
theorem dX10_unlike_89 : decode cX10_unlike 89 = .ok (.bipush 10, 2) := by decide +kernel
theorem dX10_unlike_91 : decode cX10_unlike 91 = .ok (.if_icmp .eq 19, 3) := by decide +kernel
theorem dX10_unlike_94 : decode cX10_unlike 94 = .ok (.aload_n 0, 1) := by decide +kernel
theorem dX10_unlike_95 : decode cX10_unlike 95 = .ok (.iload_n 3, 1) := by decide +kernel
theorem dX10_unlike_96 : decode cX10_unlike 96 = .ok (.iload 6, 2) := by decide +kernel
theorem dX10_unlike_98 : decode cX10_unlike 98 = .ok (.invokevirtual 118, 3) := by decide +kernel
theorem dX10_unlike_101 : decode cX10_unlike 101 = .ok (.iload 7, 2) := by decide +kernel
theorem dX10_unlike_103 : decode cX10_unlike 103 = .ok (.if_icmp .eq 7, 3) := by decide +kernel
theorem dX10_unlike_106 : decode cX10_unlike 106 = .ok (.iload 6, 2) := by decide +kernel
theorem dX10_unlike_108 : decode cX10_unlike 108 = .ok (.istore 5, 2) := by decide +kernel
theorem dX10_unlike_110 : decode cX10_unlike 110 = .ok (.iinc 6 1, 3) := by decide +kernel
theorem dX10_unlike_113 : decode cX10_unlike 113 = .ok (.goto (-81), 3) := by decide +kernel
theorem dX10_unlike_116 : decode cX10_unlike 116 = .ok (.aload_n 0, 1) := by decide +kernel
theorem dX10_unlike_117 : decode cX10_unlike 117 = .ok (.invokevirtual 265, 3) := by decide +kernel
theorem dX10_unlike_120 : decode cX10_unlike 120 = .ok (.iload 5, 2) := by decide +kernel
theorem dX10_unlike_122 : decode cX10_unlike 122 = .ok (.ireturn, 1) := by decide +kernel
theorem bX10_unlike_110 {K : KT} {g : GT} {cm sm : Nat} {cs : Nat × Nat} {c0 : Nat} {x1 : Int} {k32 : Int → Int → Int → Int → Int → St → Option (Int × St)} {r : Int} {σ' : St} (hC : Ctx K g RX10 cX10_unlike 8 8 cm sm) (hcs : cs.1 ≤ cm ∧ cs.2 ≤ sm) (h0 : isO 10 c0 = true) (hk32 : ∀ (x2 : Int) (x3 : Int) (x4 : Int) (x5 : Int) (x6 : Int) (σ : St), k32 x2 x3 x4 x5 x6 σ = some (r, σ') → G K g 8 cs 32 [(0, vr c0), (1, vi x1), (2, vi x2), (3, vi x3), (4, vi x4), (5, vi x5), (6, vi x6)] [] (SH0, σ)) (hR : RetI K g cX10_unlike 8 cs r (SH0, σ')) : ∀ (x2 : Int) (x3 : Int) (x4 : Int) (x5 : Int) (x6 : Int) (σ : St), fX10_unlike_110 c0 x1 k32 x2 x3 x4 x5 x6 σ = some (r, σ') → G K g 8 cs 110 [(0, vr c0), (1, vi x1), (2, vi x2), (3, vi x3), (4, vi x4), (5, vi x5), (6, vi x6)] [] (SH0, σ) := by
  intro x2 x3 x4 x5 x6 σ h
  unfold fX10_unlike_110 at h
  refine g_iinc hC dX10_unlike_110 6 rfl (Nat.le_of_ble_eq_true rfl) rfl ?_
  refine g_goto hC dX10_unlike_113 (tgt := 32) (by decide) ?_
  exact g_pick [1, 2, 3, 4, 5, 6, 0] rfl (hk32 _ _ _ _ _ _ h)
theorem bX10_unlike_106 {K : KT} {g : GT} {cm sm : Nat} {cs : Nat × Nat} {c0 : Nat} {x1 : Int} {k32 : Int → Int → Int → Int → Int → St → Option (Int × St)} {r : Int} {σ' : St} (hC : Ctx K g RX10 cX10_unlike 8 8 cm sm) (hcs : cs.1 ≤ cm ∧ cs.2 ≤ sm) (h0 : isO 10 c0 = true) (hk32 : ∀ (x2 : Int) (x3 : Int) (x4 : Int) (x5 : Int) (x6 : Int) (σ : St), k32 x2 x3 x4 x5 x6 σ = some (r, σ') → G K g 8 cs 32 [(0, vr c0), (1, vi x1), (2, vi x2), (3, vi x3), (4, vi x4), (5, vi x5), (6, vi x6)] [] (SH0, σ)) (hR : RetI K g cX10_unlike 8 cs r (SH0, σ')) : ∀ (x2 : Int) (x3 : Int) (x4 : Int) (x6 : Int) (σ : St), fX10_unlike_106 c0 x1 k32 x2 x3 x4 x6 σ = some (r, σ') → G K g 8 cs 106 [(0, vr c0), (1, vi x1), (2, vi x2), (3, vi x3), (4, vi x4), (6, vi x6)] [] (SH0, σ) := by
  intro x2 x3 x4 x6 σ h
  unfold fX10_unlike_106 at h
  refine g_iload hC dX10_unlike_106 5 rfl ?_
  refine g_istore hC dX10_unlike_108 (Nat.le_of_ble_eq_true rfl) rfl ?_
  exact g_pick [1, 2, 3, 4, 5, 0, 6] rfl (bX10_unlike_110 hC hcs h0 hk32 hR _ _ _ _ _ _ h)
theorem bX10_unlike_73 {K : KT} {g : GT} {cm sm : Nat} {cs : Nat × Nat} {c0 : Nat} {x1 : Int} {k32 : Int → Int → Int → Int → Int → St → Option (Int × St)} {r : Int} {σ' : St} (hC : Ctx K g RX10 cX10_unlike 8 8 cm sm) (hcs : cs.1 ≤ cm ∧ cs.2 ≤ sm) (h0 : isO 10 c0 = true) (hk32 : ∀ (x2 : Int) (x3 : Int) (x4 : Int) (x5 : Int) (x6 : Int) (σ : St), k32 x2 x3 x4 x5 x6 σ = some (r, σ') → G K g 8 cs 32 [(0, vr c0), (1, vi x1), (2, vi x2), (3, vi x3), (4, vi x4), (5, vi x5), (6, vi x6)] [] (SH0, σ)) (hR : RetI K g cX10_unlike 8 cs r (SH0, σ')) : ∀ (x2 : Int) (x3 : Int) (x4 : Int) (x5 : Int) (x6 : Int) (y0 : Int) (σ : St), fX10_unlike_73 c0 x1 k32 x2 x3 x4 x5 x6 y0 σ = some (r, σ') → G K g 8 cs 73 [(0, vr c0), (1, vi x1), (2, vi x2), (3, vi x3), (4, vi x4), (5, vi x5), (6, vi x6)] [vi y0] (SH0, σ) := by
  intro x2 x3 x4 x5 x6 y0 σ h
  unfold fX10_unlike_73 at h
  refine g_istore hC dX10_unlike_73 (Nat.le_of_ble_eq_true rfl) rfl ?_
  refine g_iload hC dX10_unlike_75 7 rfl ?_
  refine g_iload hC dX10_unlike_77 5 rfl ?_
  refine g_icmp_ge hC dX10_unlike_79 (tgt := 106) (by decide) (fun h9 => ?_) (fun h9 => ?_)
  · rw [if_pos h9] at h
    exact g_pick [1, 2, 3, 4, 5, 7] rfl (bX10_unlike_106 hC hcs h0 hk32 hR _ _ _ _ _ h)
  · rw [if_neg h9] at h
    refine g_aload_n hC dX10_unlike_82 1 rfl rfl ?_
    refine g_iload_n hC dX10_unlike_83 4 rfl rfl ?_
    refine g_iload hC dX10_unlike_84 7 rfl ?_
    obtain ⟨⟨r1, s1⟩, e1, h⟩ := of_bind h
    try dsimp only at h
    refine s_callVi hC dX10_unlike_86 (tX10_toldAt h0 e1) miX10_toldAt mvX10_toldAt mlRX10_118 (isO_spec h0) vc_10 rfl rfl (Nat.le_of_ble_eq_true rfl) (Nat.le_of_ble_eq_true rfl) (Nat.le_of_ble_eq_true rfl) hcs ?_
    refine g_bipush hC dX10_unlike_89 bp_10 ?_
    refine g_icmp_eq hC dX10_unlike_91 (tgt := 110) (by decide) (fun h9 => ?_) (fun h9 => ?_)
    · rw [if_pos h9] at h
      exact g_pick [1, 2, 3, 4, 5, 6, 7] rfl (bX10_unlike_110 hC hcs h0 hk32 hR _ _ _ _ _ _ h)
    · rw [if_neg h9] at h
      refine g_aload_n hC dX10_unlike_94 1 rfl rfl ?_
      refine g_iload_n hC dX10_unlike_95 4 rfl rfl ?_
      refine g_iload hC dX10_unlike_96 7 rfl ?_
      obtain ⟨⟨r2, s2⟩, e2, h⟩ := of_bind h
      try dsimp only at h
      refine s_callVi hC dX10_unlike_98 (tX10_toldAt h0 e2) miX10_toldAt mvX10_toldAt mlRX10_118 (isO_spec h0) vc_10 rfl rfl (Nat.le_of_ble_eq_true rfl) (Nat.le_of_ble_eq_true rfl) (Nat.le_of_ble_eq_true rfl) hcs ?_
      refine g_iload hC dX10_unlike_101 0 rfl ?_
      refine g_icmp_eq hC dX10_unlike_103 (tgt := 110) (by decide) (fun h9 => ?_) (fun h9 => ?_)
      · rw [if_pos h9] at h
        exact g_pick [1, 2, 3, 4, 5, 6, 7] rfl (bX10_unlike_110 hC hcs h0 hk32 hR _ _ _ _ _ _ h)
      · rw [if_neg h9] at h
        exact g_pick [1, 2, 3, 4, 5, 7] rfl (bX10_unlike_106 hC hcs h0 hk32 hR _ _ _ _ _ h)
theorem bX10_unlike_116 {K : KT} {g : GT} {cm sm : Nat} {cs : Nat × Nat} {c0 : Nat} {x1 : Int} {r : Int} {σ' : St} (hC : Ctx K g RX10 cX10_unlike 8 8 cm sm) (hcs : cs.1 ≤ cm ∧ cs.2 ≤ sm) (h0 : isO 10 c0 = true) (hR : RetI K g cX10_unlike 8 cs r (SH0, σ')) : ∀ (x5 : Int) (σ : St), fX10_unlike_116 c0 x1 x5 σ = some (r, σ') → G K g 8 cs 116 [(0, vr c0), (1, vi x1), (5, vi x5)] [] (SH0, σ) := by
  intro x5 σ h
  unfold fX10_unlike_116 at h
  refine g_aload_n hC dX10_unlike_116 0 rfl rfl ?_
  obtain ⟨s1, e1, h⟩ := of_bind h
  try dsimp only at h
  refine s_callVv hC dX10_unlike_117 (tX10_laysBack_ h0 e1) miX10_laysBack_ mvX10_laysBack_ mlRX10_265 (isO_spec h0) vc_10 rfl rfl (Nat.le_of_ble_eq_true rfl) (Nat.le_of_ble_eq_true rfl) (Nat.le_of_ble_eq_true rfl) hcs ?_
  refine g_iload hC dX10_unlike_120 2 rfl ?_
  exact ret_i h hR dX10_unlike_122
theorem bX10_unlike_32 {K : KT} {g : GT} {cm sm : Nat} {cs : Nat × Nat} {c0 : Nat} {x1 : Int} {r : Int} {σ' : St} (hC : Ctx K g RX10 cX10_unlike 8 8 cm sm) (hcs : cs.1 ≤ cm ∧ cs.2 ≤ sm) (h0 : isO 10 c0 = true) (hR : RetI K g cX10_unlike 8 cs r (SH0, σ')) : ∀ (n : Nat) (x2 : Int) (x3 : Int) (x4 : Int) (x5 : Int) (x6 : Int) (σ : St), fX10_unlike_32 c0 x1 n x2 x3 x4 x5 x6 σ = some (r, σ') → G K g 8 cs 32 [(0, vr c0), (1, vi x1), (2, vi x2), (3, vi x3), (4, vi x4), (5, vi x5), (6, vi x6)] [] (SH0, σ) := by
  intro n
  induction n with
  | zero =>
    intro x2 x3 x4 x5 x6 σ h
    rw [fX10_unlike_32.eq_1] at h
    cases h
  | succ n ih =>
    intro x2 x3 x4 x5 x6 σ h
    rw [fX10_unlike_32.eq_2] at h
    refine g_iload hC dX10_unlike_32 6 rfl ?_
    refine g_aload_n hC dX10_unlike_34 0 rfl rfl ?_
    refine g_getr hC dX10_unlike_35 lfRX10_81 (isO_spec h0) (ft_10_39 h0) ?_
    refine g_iload_n hC dX10_unlike_38 3 rfl rfl ?_
    obtain ⟨b9, h⟩ := of_ite h
    refine g_iald hC dX10_unlike_39 (isA_spec (rf_10_39 h0)) b9 ?_
    refine g_icmp_ge hC dX10_unlike_40 (tgt := 116) (by decide) (fun h9 => ?_) (fun h9 => ?_)
    · rw [if_pos h9] at h
      exact g_pick [0, 1, 5] rfl (bX10_unlike_116 hC hcs h0 hR _ _ h)
    · rw [if_neg h9] at h
      refine g_iload hC dX10_unlike_43 5 rfl ?_
      refine g_bipush hC dX10_unlike_45 bp_m2 ?_
      refine g_icmp_ne hC dX10_unlike_47 (tgt := 116) (by decide) (fun h9 => ?_) (fun h9 => ?_)
      · rw [if_neg h9] at h
        exact g_pick [0, 1, 5] rfl (bX10_unlike_116 hC hcs h0 hR _ _ h)
      · rw [if_pos h9] at h
        refine g_iload hC dX10_unlike_50 6 rfl ?_
        refine g_iload hC dX10_unlike_52 4 rfl ?_
        refine g_icmp_ge hC dX10_unlike_54 (tgt := 71) (by decide) (fun h9 => ?_) (fun h9 => ?_)
        · rw [if_pos h9] at h
          refine g_bipush hC dX10_unlike_71 bp_m2 ?_
          exact g_pick [0, 1, 2, 3, 4, 5, 6] rfl (bX10_unlike_73 hC hcs h0 ih hR _ _ _ _ _ _ _ h)
        · rw [if_neg h9] at h
          refine g_aload_n hC dX10_unlike_57 0 rfl rfl ?_
          refine g_aload_n hC dX10_unlike_58 0 rfl rfl ?_
          refine g_iload_n hC dX10_unlike_59 2 rfl rfl ?_
          refine g_iload hC dX10_unlike_60 6 rfl ?_
          obtain ⟨⟨r1, s1⟩, e1, h⟩ := of_bind h
          try dsimp only at h
          refine s_callVi hC dX10_unlike_62 (tX10_toldAt h0 e1) miX10_toldAt mvX10_toldAt mlRX10_118 (isO_spec h0) vc_10 rfl rfl (Nat.le_of_ble_eq_true rfl) (Nat.le_of_ble_eq_true rfl) (Nat.le_of_ble_eq_true rfl) hcs ?_
          obtain ⟨⟨r2, s2⟩, e2, h⟩ := of_bind h
          try dsimp only at h
          refine s_callVi hC dX10_unlike_65 (tX10_goes h0 e2) miX10_goes mvX10_goes mlRX10_262 (isO_spec h0) vc_10 rfl rfl (Nat.le_of_ble_eq_true rfl) (Nat.le_of_ble_eq_true rfl) (Nat.le_of_ble_eq_true rfl) hcs ?_
          refine g_goto hC dX10_unlike_68 (tgt := 73) (by decide) ?_
          exact g_pick [0, 1, 2, 3, 4, 5, 6] rfl (bX10_unlike_73 hC hcs h0 ih hR _ _ _ _ _ _ _ h)
theorem bX10_unlike_0 {K : KT} {g : GT} {cm sm : Nat} {cs : Nat × Nat} {c0 : Nat} {x1 : Int} {r : Int} {σ' : St} (hC : Ctx K g RX10 cX10_unlike 8 8 cm sm) (hcs : cs.1 ≤ cm ∧ cs.2 ≤ sm) (h0 : isO 10 c0 = true) (hR : RetI K g cX10_unlike 8 cs r (SH0, σ')) : ∀ (σ : St), fX10_unlike c0 x1 σ = some (r, σ') → G K g 8 cs 0 [(0, vr c0), (1, vi x1)] [] (SH0, σ) := by
  intro σ h
  unfold fX10_unlike at h
  refine g_iload_n hC dX10_unlike_0 1 rfl rfl ?_
  refine g_bipush hC dX10_unlike_1 bp_10 ?_
  refine g_idiv hC dX10_unlike_3 (by decide) ?_
  refine g_istore_n hC dX10_unlike_4 rfl (Nat.le_of_ble_eq_true rfl) rfl ?_
  refine g_iload_n hC dX10_unlike_5 2 rfl rfl ?_
  refine g_bipush hC dX10_unlike_6 bp_10 ?_
  refine g_irem hC dX10_unlike_8 (by decide) ?_
  refine g_istore_n hC dX10_unlike_9 rfl (Nat.le_of_ble_eq_true rfl) rfl ?_
  refine g_aload_n hC dX10_unlike_10 2 rfl rfl ?_
  refine g_aload_n hC dX10_unlike_11 2 rfl rfl ?_
  refine g_getr hC dX10_unlike_12 lfRX10_88 (isO_spec h0) (ft_10_41 h0) ?_
  obtain ⟨s1, e1, h⟩ := of_bind h
  try dsimp only at h
  refine s_callVv hC dX10_unlike_15 (tX10_keeps h0 (rf_10_41 h0) e1) miX10_keeps mvX10_keeps mlRX10_258 (isO_spec h0) vc_10 rfl rfl (Nat.le_of_ble_eq_true rfl) (Nat.le_of_ble_eq_true rfl) (Nat.le_of_ble_eq_true rfl) hcs ?_
  refine g_aload_n hC dX10_unlike_18 2 rfl rfl ?_
  refine g_iload_n hC dX10_unlike_19 1 rfl rfl ?_
  obtain ⟨⟨r2, s2⟩, e2, h⟩ := of_bind h
  try dsimp only at h
  refine s_callVi hC dX10_unlike_20 (tX10_listed h0 e2) miX10_listed mvX10_listed mlRX10_255 (isO_spec h0) vc_10 rfl rfl (Nat.le_of_ble_eq_true rfl) (Nat.le_of_ble_eq_true rfl) (Nat.le_of_ble_eq_true rfl) hcs ?_
  refine g_istore hC dX10_unlike_23 (Nat.le_of_ble_eq_true rfl) rfl ?_
  refine g_bipush hC dX10_unlike_25 bp_m2 ?_
  refine g_istore hC dX10_unlike_27 (Nat.le_of_ble_eq_true rfl) rfl ?_
  refine g_iconst hC dX10_unlike_29 ok_0 ?_
  refine g_istore hC dX10_unlike_30 (Nat.le_of_ble_eq_true rfl) rfl ?_
  exact g_pick [5, 6, 4, 3, 2, 1, 0] rfl (bX10_unlike_32 hC hcs h0 hR _ _ _ _ _ _ _ h)
theorem tX10_unlike {l : Launch} {g : GT} {c0 : Nat} {x1 : Int} {σ σ' : St} {r : Int} (h0 : isO 10 c0 = true) (h : fX10_unlike c0 x1 σ = some (r, σ')) : Cn l g yX10_unlike cX10_unlike 8 (some .int) 8 0 0 [vr c0, vi x1] (SH0, σ) (some (vi r)) (SH0, σ') :=
  Cn.ofI (by decide) (Nat.le_of_ble_eq_true rfl) (fun K e hC hR => (bX10_unlike_0 hC ⟨Nat.le_refl _, Nat.le_refl _⟩ h0 hR _ h))
theorem dX10_fits_0 : decode cX10_fits 0 = .ok (.aload_n 0, 1) := by decide +kernel
theorem dX10_fits_1 : decode cX10_fits 1 = .ok (.iload_n 1, 1) := by decide +kernel
theorem dX10_fits_2 : decode cX10_fits 2 = .ok (.invokevirtual 302, 3) := by decide +kernel
theorem dX10_fits_5 : decode cX10_fits 5 = .ok (.istore 4, 2) := by decide +kernel
theorem dX10_fits_7 : decode cX10_fits 7 = .ok (.iload 4, 2) := by decide +kernel
theorem dX10_fits_9 : decode cX10_fits 9 = .ok (.iconst (-1), 1) := by decide +kernel
theorem dX10_fits_10 : decode cX10_fits 10 = .ok (.if_icmp .eq 20, 3) := by decide +kernel
theorem dX10_fits_13 : decode cX10_fits 13 = .ok (.aload_n 0, 1) := by decide +kernel
theorem dX10_fits_14 : decode cX10_fits 14 = .ok (.iload_n 2, 1) := by decide +kernel
theorem dX10_fits_15 : decode cX10_fits 15 = .ok (.invokevirtual 125, 3) := by decide +kernel
theorem dX10_fits_18 : decode cX10_fits 18 = .ok (.ifCond .eq 12, 3) := by decide +kernel
theorem dX10_fits_21 : decode cX10_fits 21 = .ok (.iload_n 3, 1) := by decide +kernel
theorem dX10_fits_22 : decode cX10_fits 22 = .ok (.iconst 0, 1) := by decide +kernel
theorem dX10_fits_23 : decode cX10_fits 23 = .ok (.iconst 3, 1) := by decide +kernel
theorem dX10_fits_24 : decode cX10_fits 24 = .ok (.invokestatic 101, 3) := by decide +kernel
theorem dX10_fits_27 : decode cX10_fits 27 = .ok (.ifCond .ne 5, 3) := by decide +kernel
theorem dX10_fits_30 : decode cX10_fits 30 = .ok (.iconst (-1), 1) := by decide +kernel
theorem dX10_fits_31 : decode cX10_fits 31 = .ok (.ireturn, 1) := by decide +kernel
theorem dX10_fits_32 : decode cX10_fits 32 = .ok (.iload 4, 2) := by decide +kernel
theorem dX10_fits_34 : decode cX10_fits 34 = .ok (.ifCond .ge 6, 3) := by decide +kernel
theorem dX10_fits_37 : decode cX10_fits 37 = .ok (.iload 4, 2) := by decide +kernel
theorem dX10_fits_39 : decode cX10_fits 39 = .ok (.ireturn, 1) := by decide +kernel
theorem dX10_fits_40 : decode cX10_fits 40 = .ok (.iload_n 3, 1) := by decide +kernel
theorem dX10_fits_41 : decode cX10_fits 41 = .ok (.iconst 2, 1) := by decide +kernel
theorem dX10_fits_42 : decode cX10_fits 42 = .ok (.if_icmp .ge 7, 3) := by decide +kernel
theorem dX10_fits_45 : decode cX10_fits 45 = .ok (.iconst 4, 1) := by decide +kernel
theorem dX10_fits_46 : decode cX10_fits 46 = .ok (.goto 4, 3) := by decide +kernel
theorem dX10_fits_49 : decode cX10_fits 49 = .ok (.iconst 5, 1) := by decide +kernel
theorem dX10_fits_50 : decode cX10_fits 50 = .ok (.istore 5, 2) := by decide +kernel
theorem dX10_fits_52 : decode cX10_fits 52 = .ok (.aload_n 0, 1) := by decide +kernel
theorem dX10_fits_53 : decode cX10_fits 53 = .ok (.iload_n 2, 1) := by decide +kernel
theorem dX10_fits_54 : decode cX10_fits 54 = .ok (.iload 5, 2) := by decide +kernel
theorem dX10_fits_56 : decode cX10_fits 56 = .ok (.invokevirtual 136, 3) := by decide +kernel
theorem dX10_fits_59 : decode cX10_fits 59 = .ok (.istore 6, 2) := by decide +kernel
theorem dX10_fits_61 : decode cX10_fits 61 = .ok (.iconst 0, 1) := by decide +kernel
theorem dX10_fits_62 : decode cX10_fits 62 = .ok (.istore 7, 2) := by decide +kernel
theorem dX10_fits_64 : decode cX10_fits 64 = .ok (.bipush (-2), 2) := by decide +kernel
theorem dX10_fits_66 : decode cX10_fits 66 = .ok (.istore 8, 2) := by decide +kernel
theorem dX10_fits_68 : decode cX10_fits 68 = .ok (.iload 5, 2) := by decide +kernel
theorem dX10_fits_70 : decode cX10_fits 70 = .ok (.iconst 4, 1) := by decide +kernel
theorem dX10_fits_71 : decode cX10_fits 71 = .ok (.if_icmp .ne 8, 3) := by decide +kernel
theorem dX10_fits_74 : decode cX10_fits 74 = .ok (.bipush 9, 2) := by decide +kernel
theorem dX10_fits_76 : decode cX10_fits 76 = .ok (.goto 5, 3) := by decide +kernel
theorem dX10_fits_79 : decode cX10_fits 79 = .ok (.bipush 99, 2) := by decide +kernel
theorem dX10_fits_81 : decode cX10_fits 81 = .ok (.istore 9, 2) := by decide +kernel
theorem dX10_fits_83 : decode cX10_fits 83 = .ok (.iload 9, 2) := by decide +kernel
theorem dX10_fits_85 : decode cX10_fits 85 = .ok (.ifCond .lt 38, 3) := by decide +kernel
theorem dX10_fits_88 : decode cX10_fits 88 = .ok (.aload_n 0, 1) := by decide +kernel
theorem dX10_fits_89 : decode cX10_fits 89 = .ok (.iload_n 2, 1) := by decide +kernel
theorem dX10_fits_90 : decode cX10_fits 90 = .ok (.iload 5, 2) := by decide +kernel
theorem dX10_fits_92 : decode cX10_fits 92 = .ok (.iload 9, 2) := by decide +kernel
theorem dX10_fits_94 : decode cX10_fits 94 = .ok (.invokevirtual 139, 3) := by decide +kernel
theorem dX10_fits_97 : decode cX10_fits 97 = .ok (.aload_n 0, 1) := by decide +kernel
theorem dX10_fits_98 : decode cX10_fits 98 = .ok (.iload_n 1, 1) := by decide +kernel
theorem dX10_fits_99 : decode cX10_fits 99 = .ok (.invokevirtual 305, 3) := by decide +kernel
theorem dX10_fits_102 : decode cX10_fits 102 = .ok (.bipush (-2), 2) := by decide +kernel
theorem dX10_fits_104 : decode cX10_fits 104 = .ok (.if_icmp .eq 6, 3) := by decide +kernel
theorem dX10_fits_107 : decode cX10_fits 107 = .ok (.goto 10, 3) := by decide +kernel
theorem dX10_fits_110 : decode cX10_fits 110 = .ok (.iinc 7 1, 3) := by decide +kernel
theorem dX10_fits_113 : decode cX10_fits 113 = .ok (.iload 9, 2) := by decide +kernel
theorem dX10_fits_115 : decode cX10_fits 115 = .ok (.istore 8, 2) := by decide +kernel
theorem dX10_fits_117 : decode cX10_fits 117 = .ok (.iinc 9 (-1), 3) := by decide +kernel
theorem dX10_fits_120 : decode cX10_fits 120 = .ok (.goto (-37), 3) := by decide +kernel
theorem dX10_fits_123 : decode cX10_fits 123 = .ok (.aload_n 0, 1) := by decide +kernel
theorem dX10_fits_124 : decode cX10_fits 124 = .ok (.iload_n 2, 1) := by decide +kernel
theorem dX10_fits_125 : decode cX10_fits 125 = .ok (.iload 5, 2) := by decide +kernel
theorem dX10_fits_127 : decode cX10_fits 127 = .ok (.iload 6, 2) := by decide +kernel
theorem dX10_fits_129 : decode cX10_fits 129 = .ok (.invokevirtual 139, 3) := by decide +kernel
theorem dX10_fits_132 : decode cX10_fits 132 = .ok (.iload_n 3, 1) := by decide +kernel
theorem dX10_fits_133 : decode cX10_fits 133 = .ok (.iconst 2, 1) := by decide +kernel
theorem dX10_fits_134 : decode cX10_fits 134 = .ok (.irem, 1) := by decide +kernel
theorem dX10_fits_135 : decode cX10_fits 135 = .ok (.ifCond .ne 8, 3) := by decide +kernel
theorem dX10_fits_138 : decode cX10_fits 138 = .ok (.iload 7, 2) := by decide +kernel
theorem dX10_fits_140 : decode cX10_fits 140 = .ok (.goto 5, 3) := by decide +kernel
theorem dX10_fits_143 : decode cX10_fits 143 = .ok (.iload 8, 2) := by decide +kernel
theorem dX10_fits_145 : decode cX10_fits 145 = .ok (.ireturn, 1) := by decide +kernel
theorem bX10_fits_117 {K : KT} {g : GT} {cm sm : Nat} {cs : Nat × Nat} {c0 : Nat} {x1 : Int} {x2 : Int} {x3 : Int} {k83 : Int → Int → Int → Int → Int → St → Option (Int × St)} {r : Int} {σ' : St} (hC : Ctx K g RX10 cX10_fits 10 9 cm sm) (hcs : cs.1 ≤ cm ∧ cs.2 ≤ sm) (h0 : isO 10 c0 = true) (hk83 : ∀ (x5 : Int) (x6 : Int) (x7 : Int) (x8 : Int) (x9 : Int) (σ : St), k83 x5 x6 x7 x8 x9 σ = some (r, σ') → G K g 10 cs 83 [(0, vr c0), (1, vi x1), (2, vi x2), (3, vi x3), (5, vi x5), (6, vi x6), (7, vi x7), (8, vi x8), (9, vi x9)] [] (SH0, σ)) (hR : RetI K g cX10_fits 10 cs r (SH0, σ')) : ∀ (x5 : Int) (x6 : Int) (x7 : Int) (x8 : Int) (x9 : Int) (σ : St), fX10_fits_117 c0 x1 x2 x3 k83 x5 x6 x7 x8 x9 σ = some (r, σ') → G K g 10 cs 117 [(0, vr c0), (1, vi x1), (2, vi x2), (3, vi x3), (5, vi x5), (6, vi x6), (7, vi x7), (8, vi x8), (9, vi x9)] [] (SH0, σ) := by
  intro x5 x6 x7 x8 x9 σ h
  unfold fX10_fits_117 at h
  refine g_iinc hC dX10_fits_117 8 rfl (Nat.le_of_ble_eq_true rfl) rfl ?_
  refine g_goto hC dX10_fits_120 (tgt := 83) (by decide) ?_
  exact g_pick [1, 2, 3, 4, 5, 6, 7, 8, 0] rfl (hk83 _ _ _ _ _ _ h)
theorem bX10_fits_83 {K : KT} {g : GT} {cm sm : Nat} {cs : Nat × Nat} {c0 : Nat} {x1 : Int} {x2 : Int} {x3 : Int} {r : Int} {σ' : St} (hC : Ctx K g RX10 cX10_fits 10 9 cm sm) (hcs : cs.1 ≤ cm ∧ cs.2 ≤ sm) (h0 : isO 10 c0 = true) (hR : RetI K g cX10_fits 10 cs r (SH0, σ')) : ∀ (n : Nat) (x5 : Int) (x6 : Int) (x7 : Int) (x8 : Int) (x9 : Int) (σ : St), fX10_fits_83 c0 x1 x2 x3 n x5 x6 x7 x8 x9 σ = some (r, σ') → G K g 10 cs 83 [(0, vr c0), (1, vi x1), (2, vi x2), (3, vi x3), (5, vi x5), (6, vi x6), (7, vi x7), (8, vi x8), (9, vi x9)] [] (SH0, σ) := by
  intro n
  induction n with
  | zero =>
    intro x5 x6 x7 x8 x9 σ h
    rw [fX10_fits_83.eq_1] at h
    cases h
  | succ n ih =>
    intro x5 x6 x7 x8 x9 σ h
    rw [fX10_fits_83.eq_2] at h
    refine g_iload hC dX10_fits_83 8 rfl ?_
    refine g_if_lt hC dX10_fits_85 (tgt := 123) (by decide) (fun h9 => ?_) (fun h9 => ?_)
    · rw [if_pos h9] at h
      refine g_aload_n hC dX10_fits_123 0 rfl rfl ?_
      refine g_iload_n hC dX10_fits_124 2 rfl rfl ?_
      refine g_iload hC dX10_fits_125 4 rfl ?_
      refine g_iload hC dX10_fits_127 5 rfl ?_
      obtain ⟨s1, e1, h⟩ := of_bind h
      try dsimp only at h
      refine s_callVv hC dX10_fits_129 (tX10_becomes h0 e1) miX10_becomes mvX10_becomes mlRX10_139 (isO_spec h0) vc_10 rfl rfl (Nat.le_of_ble_eq_true rfl) (Nat.le_of_ble_eq_true rfl) (Nat.le_of_ble_eq_true rfl) hcs ?_
      refine g_iload_n hC dX10_fits_132 3 rfl rfl ?_
      refine g_iconst hC dX10_fits_133 ok_2 ?_
      refine g_irem hC dX10_fits_134 (by decide) ?_
      refine g_if_ne hC dX10_fits_135 (tgt := 143) (by decide) (fun h9 => ?_) (fun h9 => ?_)
      · rw [if_neg h9] at h
        refine g_iload hC dX10_fits_143 7 rfl ?_
        exact ret_i h hR dX10_fits_145
      · rw [if_pos h9] at h
        refine g_iload hC dX10_fits_138 6 rfl ?_
        refine g_goto hC dX10_fits_140 (tgt := 145) (by decide) ?_
        exact ret_i h hR dX10_fits_145
    · rw [if_neg h9] at h
      refine g_aload_n hC dX10_fits_88 0 rfl rfl ?_
      refine g_iload_n hC dX10_fits_89 2 rfl rfl ?_
      refine g_iload hC dX10_fits_90 4 rfl ?_
      refine g_iload hC dX10_fits_92 8 rfl ?_
      obtain ⟨s2, e2, h⟩ := of_bind h
      try dsimp only at h
      refine s_callVv hC dX10_fits_94 (tX10_becomes h0 e2) miX10_becomes mvX10_becomes mlRX10_139 (isO_spec h0) vc_10 rfl rfl (Nat.le_of_ble_eq_true rfl) (Nat.le_of_ble_eq_true rfl) (Nat.le_of_ble_eq_true rfl) hcs ?_
      refine g_aload_n hC dX10_fits_97 0 rfl rfl ?_
      refine g_iload_n hC dX10_fits_98 1 rfl rfl ?_
      obtain ⟨⟨r3, s3⟩, e3, h⟩ := of_bind h
      try dsimp only at h
      refine s_callVi hC dX10_fits_99 (tX10_unlike h0 e3) miX10_unlike mvX10_unlike mlRX10_305 (isO_spec h0) vc_10 rfl rfl (Nat.le_of_ble_eq_true rfl) (Nat.le_of_ble_eq_true rfl) (Nat.le_of_ble_eq_true rfl) hcs ?_
      refine g_bipush hC dX10_fits_102 bp_m2 ?_
      refine g_icmp_eq hC dX10_fits_104 (tgt := 110) (by decide) (fun h9 => ?_) (fun h9 => ?_)
      · rw [if_pos h9] at h
        refine g_iinc hC dX10_fits_110 6 rfl (Nat.le_of_ble_eq_true rfl) rfl ?_
        refine g_iload hC dX10_fits_113 8 rfl ?_
        refine g_istore hC dX10_fits_115 (Nat.le_of_ble_eq_true rfl) rfl ?_
        exact g_pick [2, 3, 4, 5, 6, 7, 1, 0, 8] rfl (bX10_fits_117 hC hcs h0 ih hR _ _ _ _ _ _ h)
      · rw [if_neg h9] at h
        refine g_goto hC dX10_fits_107 (tgt := 117) (by decide) ?_
        exact g_pick [0, 1, 2, 3, 4, 5, 6, 7, 8] rfl (bX10_fits_117 hC hcs h0 ih hR _ _ _ _ _ _ h)
theorem bX10_fits_81 {K : KT} {g : GT} {cm sm : Nat} {cs : Nat × Nat} {c0 : Nat} {x1 : Int} {x2 : Int} {x3 : Int} {r : Int} {σ' : St} (hC : Ctx K g RX10 cX10_fits 10 9 cm sm) (hcs : cs.1 ≤ cm ∧ cs.2 ≤ sm) (h0 : isO 10 c0 = true) (hR : RetI K g cX10_fits 10 cs r (SH0, σ')) : ∀ (x5 : Int) (x6 : Int) (x7 : Int) (x8 : Int) (y0 : Int) (σ : St), fX10_fits_81 c0 x1 x2 x3 x5 x6 x7 x8 y0 σ = some (r, σ') → G K g 10 cs 81 [(0, vr c0), (1, vi x1), (2, vi x2), (3, vi x3), (5, vi x5), (6, vi x6), (7, vi x7), (8, vi x8)] [vi y0] (SH0, σ) := by
  intro x5 x6 x7 x8 y0 σ h
  unfold fX10_fits_81 at h
  refine g_istore hC dX10_fits_81 (Nat.le_of_ble_eq_true rfl) rfl ?_
  exact g_pick [1, 2, 3, 4, 5, 6, 7, 8, 0] rfl (bX10_fits_83 hC hcs h0 hR _ _ _ _ _ _ _ h)
theorem bX10_fits_50 {K : KT} {g : GT} {cm sm : Nat} {cs : Nat × Nat} {c0 : Nat} {x1 : Int} {x2 : Int} {x3 : Int} {r : Int} {σ' : St} (hC : Ctx K g RX10 cX10_fits 10 9 cm sm) (hcs : cs.1 ≤ cm ∧ cs.2 ≤ sm) (h0 : isO 10 c0 = true) (hR : RetI K g cX10_fits 10 cs r (SH0, σ')) : ∀ (y0 : Int) (σ : St), fX10_fits_50 c0 x1 x2 x3 y0 σ = some (r, σ') → G K g 10 cs 50 [(0, vr c0), (1, vi x1), (2, vi x2), (3, vi x3)] [vi y0] (SH0, σ) := by
  intro y0 σ h
  unfold fX10_fits_50 at h
  refine g_istore hC dX10_fits_50 (Nat.le_of_ble_eq_true rfl) rfl ?_
  refine g_aload_n hC dX10_fits_52 1 rfl rfl ?_
  refine g_iload_n hC dX10_fits_53 3 rfl rfl ?_
  refine g_iload hC dX10_fits_54 0 rfl ?_
  obtain ⟨⟨r1, s1⟩, e1, h⟩ := of_bind h
  try dsimp only at h
  refine s_callVi hC dX10_fits_56 (tX10_get h0 e1) miX10_get mvX10_get mlRX10_136 (isO_spec h0) vc_10 rfl rfl (Nat.le_of_ble_eq_true rfl) (Nat.le_of_ble_eq_true rfl) (Nat.le_of_ble_eq_true rfl) hcs ?_
  refine g_istore hC dX10_fits_59 (Nat.le_of_ble_eq_true rfl) rfl ?_
  refine g_iconst hC dX10_fits_61 ok_0 ?_
  refine g_istore hC dX10_fits_62 (Nat.le_of_ble_eq_true rfl) rfl ?_
  refine g_bipush hC dX10_fits_64 bp_m2 ?_
  refine g_istore hC dX10_fits_66 (Nat.le_of_ble_eq_true rfl) rfl ?_
  refine g_iload hC dX10_fits_68 3 rfl ?_
  refine g_iconst hC dX10_fits_70 ok_4 ?_
  refine g_icmp_ne hC dX10_fits_71 (tgt := 79) (by decide) (fun h9 => ?_) (fun h9 => ?_)
  · rw [if_neg h9] at h
    refine g_bipush hC dX10_fits_79 bp_99 ?_
    exact g_pick [4, 5, 6, 7, 3, 2, 1, 0] rfl (bX10_fits_81 hC hcs h0 hR _ _ _ _ _ _ h)
  · rw [if_pos h9] at h
    refine g_bipush hC dX10_fits_74 bp_9 ?_
    refine g_goto hC dX10_fits_76 (tgt := 81) (by decide) ?_
    exact g_pick [4, 5, 6, 7, 3, 2, 1, 0] rfl (bX10_fits_81 hC hcs h0 hR _ _ _ _ _ _ h)
theorem bX10_fits_0 {K : KT} {g : GT} {cm sm : Nat} {cs : Nat × Nat} {c0 : Nat} {x1 : Int} {x2 : Int} {x3 : Int} {r : Int} {σ' : St} (hC : Ctx K g RX10 cX10_fits 10 9 cm sm) (hcs : cs.1 ≤ cm ∧ cs.2 ≤ sm) (h0 : isO 10 c0 = true) (hR : RetI K g cX10_fits 10 cs r (SH0, σ')) : ∀ (σ : St), fX10_fits c0 x1 x2 x3 σ = some (r, σ') → G K g 10 cs 0 [(0, vr c0), (1, vi x1), (2, vi x2), (3, vi x3)] [] (SH0, σ) := by
  intro σ h
  unfold fX10_fits at h
  refine g_aload_n hC dX10_fits_0 0 rfl rfl ?_
  refine g_iload_n hC dX10_fits_1 1 rfl rfl ?_
  obtain ⟨⟨r1, s1⟩, e1, h⟩ := of_bind h
  try dsimp only at h
  refine s_callVi hC dX10_fits_2 (tX10_noBook h0 e1) miX10_noBook mvX10_noBook mlRX10_302 (isO_spec h0) vc_10 rfl rfl (Nat.le_of_ble_eq_true rfl) (Nat.le_of_ble_eq_true rfl) (Nat.le_of_ble_eq_true rfl) hcs ?_
  refine g_istore hC dX10_fits_5 (Nat.le_of_ble_eq_true rfl) rfl ?_
  refine g_iload hC dX10_fits_7 0 rfl ?_
  refine g_iconst hC dX10_fits_9 ok_m1 ?_
  refine g_icmp_eq hC dX10_fits_10 (tgt := 30) (by decide) (fun h9 => ?_) (fun h9 => ?_)
  · rw [if_pos h9] at h
    refine g_iconst hC dX10_fits_30 ok_m1 ?_
    exact ret_i h hR dX10_fits_31
  · rw [if_neg h9] at h
    refine g_aload_n hC dX10_fits_13 1 rfl rfl ?_
    refine g_iload_n hC dX10_fits_14 3 rfl rfl ?_
    obtain ⟨⟨r2, s2⟩, e2, h⟩ := of_bind h
    try dsimp only at h
    refine s_callVi hC dX10_fits_15 (tX10_isOne h0 e2) miX10_isOne mvX10_isOne mlRX10_125 (isO_spec h0) vc_10 rfl rfl (Nat.le_of_ble_eq_true rfl) (Nat.le_of_ble_eq_true rfl) (Nat.le_of_ble_eq_true rfl) hcs ?_
    refine g_if_eq hC dX10_fits_18 (tgt := 30) (by decide) (fun h9 => ?_) (fun h9 => ?_)
    · rw [if_pos h9] at h
      refine g_iconst hC dX10_fits_30 ok_m1 ?_
      exact ret_i h hR dX10_fits_31
    · rw [if_neg h9] at h
      refine g_iload_n hC dX10_fits_21 4 rfl rfl ?_
      refine g_iconst hC dX10_fits_22 ok_0 ?_
      refine g_iconst hC dX10_fits_23 ok_3 ?_
      obtain ⟨⟨r3, s3⟩, e3, h⟩ := of_bind h
      try dsimp only at h
      refine s_callSi hC dX10_fits_24 (tX10_within e3) miX10_within msX10_within mlRX10_101 rfl rfl (Nat.le_of_ble_eq_true rfl) (Nat.le_of_ble_eq_true rfl) (Nat.le_of_ble_eq_true rfl) hcs ?_
      refine g_if_ne hC dX10_fits_27 (tgt := 32) (by decide) (fun h9 => ?_) (fun h9 => ?_)
      · rw [if_neg h9] at h
        refine g_iload hC dX10_fits_32 0 rfl ?_
        refine g_if_ge hC dX10_fits_34 (tgt := 40) (by decide) (fun h9 => ?_) (fun h9 => ?_)
        · rw [if_pos h9] at h
          refine g_iload_n hC dX10_fits_40 4 rfl rfl ?_
          refine g_iconst hC dX10_fits_41 ok_2 ?_
          refine g_icmp_ge hC dX10_fits_42 (tgt := 49) (by decide) (fun h9 => ?_) (fun h9 => ?_)
          · rw [if_pos h9] at h
            refine g_iconst hC dX10_fits_49 ok_5 ?_
            exact g_pick [1, 2, 3, 4] rfl (bX10_fits_50 hC hcs h0 hR _ _ h)
          · rw [if_neg h9] at h
            refine g_iconst hC dX10_fits_45 ok_4 ?_
            refine g_goto hC dX10_fits_46 (tgt := 50) (by decide) ?_
            exact g_pick [1, 2, 3, 4] rfl (bX10_fits_50 hC hcs h0 hR _ _ h)
        · rw [if_neg h9] at h
          refine g_iload hC dX10_fits_37 0 rfl ?_
          exact ret_i h hR dX10_fits_39
      · rw [if_pos h9] at h
        refine g_iconst hC dX10_fits_30 ok_m1 ?_
        exact ret_i h hR dX10_fits_31
theorem tX10_fits {l : Launch} {g : GT} {c0 : Nat} {x1 : Int} {x2 : Int} {x3 : Int} {σ σ' : St} {r : Int} (h0 : isO 10 c0 = true) (h : fX10_fits c0 x1 x2 x3 σ = some (r, σ')) : Cn l g yX10_fits cX10_fits 10 (some .int) 9 0 0 [vr c0, vi x1, vi x2, vi x3] (SH0, σ) (some (vi r)) (SH0, σ') :=
  Cn.ofI (by decide) (Nat.le_of_ble_eq_true rfl) (fun K e hC hR => (bX10_fits_0 hC ⟨Nat.le_refl _, Nat.le_refl _⟩ h0 hR _ h))
theorem dX10_wouldChange_0 : decode cX10_wouldChange 0 = .ok (.aload_n 0, 1) := by decide +kernel
theorem dX10_wouldChange_1 : decode cX10_wouldChange 1 = .ok (.iload_n 1, 1) := by decide +kernel
theorem dX10_wouldChange_2 : decode cX10_wouldChange 2 = .ok (.invokevirtual 230, 3) := by decide +kernel
theorem dX10_wouldChange_5 : decode cX10_wouldChange 5 = .ok (.iconst 1, 1) := by decide +kernel
theorem dX10_wouldChange_6 : decode cX10_wouldChange 6 = .ok (.isub, 1) := by decide +kernel
theorem dX10_wouldChange_7 : decode cX10_wouldChange 7 = .ok (.istore 4, 2) := by decide +kernel
theorem dX10_wouldChange_9 : decode cX10_wouldChange 9 = .ok (.aload_n 0, 1) := by decide +kernel
theorem dX10_wouldChange_10 : decode cX10_wouldChange 10 = .ok (.iload_n 1, 1) := by decide +kernel
theorem dX10_wouldChange_11 : decode cX10_wouldChange 11 = .ok (.aload_n 0, 1) := by decide +kernel
theorem dX10_wouldChange_12 : decode cX10_wouldChange 12 = .ok (.getfield 9, 3) := by decide +kernel
theorem dX10_wouldChange_15 : decode cX10_wouldChange 15 = .ok (.iload_n 3, 1) := by decide +kernel
theorem dX10_wouldChange_16 : decode cX10_wouldChange 16 = .ok (.iaload, 1) := by decide +kernel
theorem dX10_wouldChange_17 : decode cX10_wouldChange 17 = .ok (.iload 4, 2) := by decide +kernel
theorem dX10_wouldChange_19 : decode cX10_wouldChange 19 = .ok (.invokevirtual 233, 3) := by decide +kernel
theorem dX10_wouldChange_22 : decode cX10_wouldChange 22 = .ok (.aload_n 0, 1) := by decide +kernel
theorem dX10_wouldChange_23 : decode cX10_wouldChange 23 = .ok (.iload_n 1, 1) := by decide +kernel
theorem dX10_wouldChange_24 : decode cX10_wouldChange 24 = .ok (.aload_n 0, 1) := by decide +kernel
theorem dX10_wouldChange_25 : decode cX10_wouldChange 25 = .ok (.getfield 9, 3) := by decide +kernel
theorem dX10_wouldChange_28 : decode cX10_wouldChange 28 = .ok (.iload_n 2, 1) := by decide +kernel
theorem dX10_wouldChange_29 : decode cX10_wouldChange 29 = .ok (.iaload, 1) := by decide +kernel
theorem dX10_wouldChange_30 : decode cX10_wouldChange 30 = .ok (.iload 4, 2) := by decide +kernel
theorem dX10_wouldChange_32 : decode cX10_wouldChange 32 = .ok (.invokevirtual 233, 3) := by decide +kernel
theorem dX10_wouldChange_35 : decode cX10_wouldChange 35 = .ok (.if_icmp .le 7, 3) := by decide +kernel
theorem dX10_wouldChange_38 : decode cX10_wouldChange 38 = .ok (.iconst 1, 1) := by decide +kernel
theorem dX10_wouldChange_39 : decode cX10_wouldChange 39 = .ok (.goto 4, 3) := by decide +kernel
theorem dX10_wouldChange_42 : decode cX10_wouldChange 42 = .ok (.iconst 0, 1) := by decide +kernel
theorem dX10_wouldChange_43 : decode cX10_wouldChange 43 = .ok (.ireturn, 1) := by decide +kernel
theorem bX10_wouldChange_0 {K : KT} {g : GT} {cm sm : Nat} {cs : Nat × Nat} {c0 : Nat} {x1 : Int} {x2 : Int} {x3 : Int} {r : Int} {σ' : St} (hC : Ctx K g RX10 cX10_wouldChange 5 4 cm sm) (hcs : cs.1 ≤ cm ∧ cs.2 ≤ sm) (h0 : isO 10 c0 = true) (hR : RetZ K g cX10_wouldChange 5 cs r (SH0, σ')) : ∀ (σ : St), fX10_wouldChange c0 x1 x2 x3 σ = some (r, σ') → G K g 5 cs 0 [(0, vr c0), (1, vi x1), (2, vi x2), (3, vi x3)] [] (SH0, σ) := by
  intro σ h
  unfold fX10_wouldChange at h
  refine g_aload_n hC dX10_wouldChange_0 0 rfl rfl ?_
  refine g_iload_n hC dX10_wouldChange_1 1 rfl rfl ?_
  obtain ⟨⟨r1, s1⟩, e1, h⟩ := of_bind h
  try dsimp only at h
  refine s_callVi hC dX10_wouldChange_2 (tX10_countOf h0 e1) miX10_countOf mvX10_countOf mlRX10_230 (isO_spec h0) vc_10 rfl rfl (Nat.le_of_ble_eq_true rfl) (Nat.le_of_ble_eq_true rfl) (Nat.le_of_ble_eq_true rfl) hcs ?_
  refine g_iconst hC dX10_wouldChange_5 ok_1 ?_
  refine g_isub hC dX10_wouldChange_6 ?_
  refine g_istore hC dX10_wouldChange_7 (Nat.le_of_ble_eq_true rfl) rfl ?_
  refine g_aload_n hC dX10_wouldChange_9 1 rfl rfl ?_
  refine g_iload_n hC dX10_wouldChange_10 2 rfl rfl ?_
  refine g_aload_n hC dX10_wouldChange_11 1 rfl rfl ?_
  refine g_getr hC dX10_wouldChange_12 lfRX10_9 (isO_spec h0) (ft_10_1 h0) ?_
  refine g_iload_n hC dX10_wouldChange_15 4 rfl rfl ?_
  obtain ⟨b9, h⟩ := of_ite h
  refine g_iald hC dX10_wouldChange_16 (isA_spec (rf_10_1 h0)) b9 ?_
  refine g_iload hC dX10_wouldChange_17 0 rfl ?_
  obtain ⟨⟨r2, s2⟩, e2, h⟩ := of_bind h
  try dsimp only at h
  refine s_callVi hC dX10_wouldChange_19 (tX10_yearsOf h0 e2) miX10_yearsOf mvX10_yearsOf mlRX10_233 (isO_spec h0) vc_10 rfl rfl (Nat.le_of_ble_eq_true rfl) (Nat.le_of_ble_eq_true rfl) (Nat.le_of_ble_eq_true rfl) hcs ?_
  refine g_aload_n hC dX10_wouldChange_22 1 rfl rfl ?_
  refine g_iload_n hC dX10_wouldChange_23 2 rfl rfl ?_
  refine g_aload_n hC dX10_wouldChange_24 1 rfl rfl ?_
  refine g_getr hC dX10_wouldChange_25 lfRX10_9 (isO_spec h0) (ft_10_1 h0) ?_
  refine g_iload_n hC dX10_wouldChange_28 3 rfl rfl ?_
  obtain ⟨b9, h⟩ := of_ite h
  refine g_iald hC dX10_wouldChange_29 (isA_spec (rf_10_1 h0)) b9 ?_
  refine g_iload hC dX10_wouldChange_30 0 rfl ?_
  obtain ⟨⟨r3, s3⟩, e3, h⟩ := of_bind h
  try dsimp only at h
  refine s_callVi hC dX10_wouldChange_32 (tX10_yearsOf h0 e3) miX10_yearsOf mvX10_yearsOf mlRX10_233 (isO_spec h0) vc_10 rfl rfl (Nat.le_of_ble_eq_true rfl) (Nat.le_of_ble_eq_true rfl) (Nat.le_of_ble_eq_true rfl) hcs ?_
  refine g_icmp_le hC dX10_wouldChange_35 (tgt := 42) (by decide) (fun h9 => ?_) (fun h9 => ?_)
  · rw [if_pos h9] at h
    refine g_iconst hC dX10_wouldChange_42 ok_0 ?_
    exact ret_z h hR (by decide) dX10_wouldChange_43
  · rw [if_neg h9] at h
    refine g_iconst hC dX10_wouldChange_38 ok_1 ?_
    refine g_goto hC dX10_wouldChange_39 (tgt := 43) (by decide) ?_
    exact ret_z h hR (by decide) dX10_wouldChange_43
theorem tX10_wouldChange {l : Launch} {g : GT} {c0 : Nat} {x1 : Int} {x2 : Int} {x3 : Int} {σ σ' : St} {r : Int} (h0 : isO 10 c0 = true) (h : fX10_wouldChange c0 x1 x2 x3 σ = some (r, σ')) : Cn l g yX10_wouldChange cX10_wouldChange 5 (some .boolean) 4 0 0 [vr c0, vi x1, vi x2, vi x3] (SH0, σ) (some (vi r)) (SH0, σ') :=
  Cn.ofZ (by decide) (Nat.le_of_ble_eq_true rfl) (fun K e hC hR => (bX10_wouldChange_0 hC ⟨Nat.le_refl _, Nat.le_refl _⟩ h0 hR _ h))
theorem dX10_hands_0 : decode cX10_hands 0 = .ok (.iconst 0, 1) := by decide +kernel
theorem dX10_hands_1 : decode cX10_hands 1 = .ok (.istore_n 1, 1) := by decide +kernel
theorem dX10_hands_2 : decode cX10_hands 2 = .ok (.iconst 0, 1) := by decide +kernel
theorem dX10_hands_3 : decode cX10_hands 3 = .ok (.istore_n 2, 1) := by decide +kernel
theorem dX10_hands_4 : decode cX10_hands 4 = .ok (.iload_n 2, 1) := by decide +kernel
theorem dX10_hands_5 : decode cX10_hands 5 = .ok (.aload_n 0, 1) := by decide +kernel
theorem dX10_hands_6 : decode cX10_hands 6 = .ok (.getfield 97, 3) := by decide +kernel
theorem dX10_hands_9 : decode cX10_hands 9 = .ok (.if_icmp .ge 118, 3) := by decide +kernel
theorem dX10_hands_12 : decode cX10_hands 12 = .ok (.iload_n 2, 1) := by decide +kernel
theorem dX10_hands_13 : decode cX10_hands 13 = .ok (.iconst 1, 1) := by decide +kernel
theorem dX10_hands_14 : decode cX10_hands 14 = .ok (.iadd, 1) := by decide +kernel
theorem dX10_hands_15 : decode cX10_hands 15 = .ok (.istore_n 3, 1) := by decide +kernel
theorem dX10_hands_16 : decode cX10_hands 16 = .ok (.iload_n 3, 1) := by decide +kernel
theorem dX10_hands_17 : decode cX10_hands 17 = .ok (.aload_n 0, 1) := by decide +kernel
theorem dX10_hands_18 : decode cX10_hands 18 = .ok (.getfield 97, 3) := by decide +kernel
theorem dX10_hands_21 : decode cX10_hands 21 = .ok (.if_icmp .ge 100, 3) := by decide +kernel
theorem dX10_hands_24 : decode cX10_hands 24 = .ok (.aload_n 0, 1) := by decide +kernel
theorem dX10_hands_25 : decode cX10_hands 25 = .ok (.getfield 18, 3) := by decide +kernel
theorem dX10_hands_28 : decode cX10_hands 28 = .ok (.iload_n 2, 1) := by decide +kernel
theorem dX10_hands_29 : decode cX10_hands 29 = .ok (.iaload, 1) := by decide +kernel
theorem dX10_hands_30 : decode cX10_hands 30 = .ok (.iconst 1, 1) := by decide +kernel
theorem dX10_hands_31 : decode cX10_hands 31 = .ok (.if_icmp .eq 84, 3) := by decide +kernel
theorem dX10_hands_34 : decode cX10_hands 34 = .ok (.aload_n 0, 1) := by decide +kernel
theorem dX10_hands_35 : decode cX10_hands 35 = .ok (.getfield 18, 3) := by decide +kernel
theorem dX10_hands_38 : decode cX10_hands 38 = .ok (.iload_n 3, 1) := by decide +kernel
theorem dX10_hands_39 : decode cX10_hands 39 = .ok (.iaload, 1) := by decide +kernel
theorem dX10_hands_40 : decode cX10_hands 40 = .ok (.iconst 1, 1) := by decide +kernel
theorem dX10_hands_41 : decode cX10_hands 41 = .ok (.if_icmp .eq 74, 3) := by decide +kernel
theorem dX10_hands_44 : decode cX10_hands 44 = .ok (.aload_n 0, 1) := by decide +kernel
theorem dX10_hands_45 : decode cX10_hands 45 = .ok (.getfield 15, 3) := by decide +kernel
theorem dX10_hands_48 : decode cX10_hands 48 = .ok (.iload_n 2, 1) := by decide +kernel
theorem dX10_hands_49 : decode cX10_hands 49 = .ok (.iaload, 1) := by decide +kernel
theorem dX10_hands_50 : decode cX10_hands 50 = .ok (.iconst (-1), 1) := by decide +kernel
theorem dX10_hands_51 : decode cX10_hands 51 = .ok (.if_icmp .eq 64, 3) := by decide +kernel
theorem dX10_hands_54 : decode cX10_hands 54 = .ok (.aload_n 0, 1) := by decide +kernel
theorem dX10_hands_55 : decode cX10_hands 55 = .ok (.getfield 15, 3) := by decide +kernel
theorem dX10_hands_58 : decode cX10_hands 58 = .ok (.iload_n 3, 1) := by decide +kernel
theorem dX10_hands_59 : decode cX10_hands 59 = .ok (.iaload, 1) := by decide +kernel
theorem dX10_hands_60 : decode cX10_hands 60 = .ok (.iconst (-1), 1) := by decide +kernel
theorem dX10_hands_61 : decode cX10_hands 61 = .ok (.if_icmp .eq 54, 3) := by decide +kernel
theorem dX10_hands_64 : decode cX10_hands 64 = .ok (.aload_n 0, 1) := by decide +kernel
theorem dX10_hands_65 : decode cX10_hands 65 = .ok (.getfield 15, 3) := by decide +kernel
theorem dX10_hands_68 : decode cX10_hands 68 = .ok (.iload_n 2, 1) := by decide +kernel
theorem dX10_hands_69 : decode cX10_hands 69 = .ok (.iaload, 1) := by decide +kernel
theorem dX10_hands_70 : decode cX10_hands 70 = .ok (.aload_n 0, 1) := by decide +kernel
theorem dX10_hands_71 : decode cX10_hands 71 = .ok (.getfield 15, 3) := by decide +kernel
theorem dX10_hands_74 : decode cX10_hands 74 = .ok (.iload_n 3, 1) := by decide +kernel
theorem dX10_hands_75 : decode cX10_hands 75 = .ok (.iaload, 1) := by decide +kernel
theorem dX10_hands_76 : decode cX10_hands 76 = .ok (.if_icmp .ne 6, 3) := by decide +kernel
theorem dX10_hands_79 : decode cX10_hands 79 = .ok (.goto 36, 3) := by decide +kernel
theorem dX10_hands_82 : decode cX10_hands 82 = .ok (.aload_n 0, 1) := by decide +kernel
theorem dX10_hands_83 : decode cX10_hands 83 = .ok (.aload_n 0, 1) := by decide +kernel
theorem dX10_hands_84 : decode cX10_hands 84 = .ok (.getfield 15, 3) := by decide +kernel
theorem dX10_hands_87 : decode cX10_hands 87 = .ok (.iload_n 2, 1) := by decide +kernel
theorem dX10_hands_88 : decode cX10_hands 88 = .ok (.iaload, 1) := by decide +kernel
theorem dX10_hands_89 : decode cX10_hands 89 = .ok (.iload_n 2, 1) := by decide +kernel
theorem dX10_hands_90 : decode cX10_hands 90 = .ok (.iload_n 3, 1) := by decide +kernel
theorem dX10_hands_91 : decode cX10_hands 91 = .ok (.invokevirtual 284, 3) := by decide +kernel
theorem dX10_hands_94 : decode cX10_hands 94 = .ok (.ifCond .eq 21, 3) := by decide +kernel
theorem dX10_hands_97 : decode cX10_hands 97 = .ok (.aload_n 0, 1) := by decide +kernel
theorem dX10_hands_98 : decode cX10_hands 98 = .ok (.aload_n 0, 1) := by decide +kernel
theorem dX10_hands_99 : decode cX10_hands 99 = .ok (.getfield 15, 3) := by decide +kernel
theorem dX10_hands_102 : decode cX10_hands 102 = .ok (.iload_n 3, 1) := by decide +kernel
theorem dX10_hands_103 : decode cX10_hands 103 = .ok (.iaload, 1) := by decide +kernel
theorem dX10_hands_104 : decode cX10_hands 104 = .ok (.iload_n 3, 1) := by decide +kernel
theorem dX10_hands_105 : decode cX10_hands 105 = .ok (.iload_n 2, 1) := by decide +kernel
theorem dX10_hands_106 : decode cX10_hands 106 = .ok (.invokevirtual 284, 3) := by decide +kernel
theorem dX10_hands_109 : decode cX10_hands 109 = .ok (.ifCond .eq 6, 3) := by decide +kernel
theorem dX10_hands_112 : decode cX10_hands 112 = .ok (.iinc 1 1, 3) := by decide +kernel
theorem dX10_hands_115 : decode cX10_hands 115 = .ok (.iinc 3 1, 3) := by decide +kernel
theorem dX10_hands_118 : decode cX10_hands 118 = .ok (.goto (-102), 3) := by decide +kernel
theorem dX10_hands_121 : decode cX10_hands 121 = .ok (.iinc 2 1, 3) := by decide +kernel
theorem dX10_hands_124 : decode cX10_hands 124 = .ok (.goto (-120), 3) := by decide +kernel
theorem dX10_hands_127 : decode cX10_hands 127 = .ok (.iload_n 1, 1) := by decide +kernel
theorem dX10_hands_128 : decode cX10_hands 128 = .ok (.ireturn, 1) := by decide +kernel
theorem bX10_hands_115 {K : KT} {g : GT} {cm sm : Nat} {cs : Nat × Nat} {c0 : Nat} {k4 : Int → Int → St → Option (Int × St)} {k16 : Int → Int → Int → St → Option (Int × St)} {r : Int} {σ' : St} (hC : Ctx K g RX10 cX10_hands 4 5 cm sm) (hcs : cs.1 ≤ cm ∧ cs.2 ≤ sm) (h0 : isO 10 c0 = true) (hk4 : ∀ (x1 : Int) (x2 : Int) (σ : St), k4 x1 x2 σ = some (r, σ') → G K g 4 cs 4 [(0, vr c0), (1, vi x1), (2, vi x2)] [] (SH0, σ)) (hk16 : ∀ (x1 : Int) (x2 : Int) (x3 : Int) (σ : St), k16 x1 x2 x3 σ = some (r, σ') → G K g 4 cs 16 [(0, vr c0), (1, vi x1), (2, vi x2), (3, vi x3)] [] (SH0, σ)) (hR : RetI K g cX10_hands 4 cs r (SH0, σ')) : ∀ (x1 : Int) (x2 : Int) (x3 : Int) (σ : St), fX10_hands_115 c0 k4 k16 x1 x2 x3 σ = some (r, σ') → G K g 4 cs 115 [(0, vr c0), (1, vi x1), (2, vi x2), (3, vi x3)] [] (SH0, σ) := by
  intro x1 x2 x3 σ h
  unfold fX10_hands_115 at h
  refine g_iinc hC dX10_hands_115 3 rfl (Nat.le_of_ble_eq_true rfl) rfl ?_
  refine g_goto hC dX10_hands_118 (tgt := 16) (by decide) ?_
  exact g_pick [1, 2, 3, 0] rfl (hk16 _ _ _ _ h)
theorem bX10_hands_16 {K : KT} {g : GT} {cm sm : Nat} {cs : Nat × Nat} {c0 : Nat} {k4 : Int → Int → St → Option (Int × St)} {r : Int} {σ' : St} (hC : Ctx K g RX10 cX10_hands 4 5 cm sm) (hcs : cs.1 ≤ cm ∧ cs.2 ≤ sm) (h0 : isO 10 c0 = true) (hk4 : ∀ (x1 : Int) (x2 : Int) (σ : St), k4 x1 x2 σ = some (r, σ') → G K g 4 cs 4 [(0, vr c0), (1, vi x1), (2, vi x2)] [] (SH0, σ)) (hR : RetI K g cX10_hands 4 cs r (SH0, σ')) : ∀ (n : Nat) (x1 : Int) (x2 : Int) (x3 : Int) (σ : St), fX10_hands_16 c0 k4 n x1 x2 x3 σ = some (r, σ') → G K g 4 cs 16 [(0, vr c0), (1, vi x1), (2, vi x2), (3, vi x3)] [] (SH0, σ) := by
  intro n
  induction n with
  | zero =>
    intro x1 x2 x3 σ h
    rw [fX10_hands_16.eq_1] at h
    cases h
  | succ n ih =>
    intro x1 x2 x3 σ h
    rw [fX10_hands_16.eq_2] at h
    refine g_iload_n hC dX10_hands_16 3 rfl rfl ?_
    refine g_aload_n hC dX10_hands_17 0 rfl rfl ?_
    refine g_geti hC dX10_hands_18 lfRX10_97 (isO_spec h0) (ft_10_0 h0) ?_
    refine g_icmp_ge hC dX10_hands_21 (tgt := 121) (by decide) (fun h9 => ?_) (fun h9 => ?_)
    · rw [if_pos h9] at h
      refine g_iinc hC dX10_hands_121 2 rfl (Nat.le_of_ble_eq_true rfl) rfl ?_
      refine g_goto hC dX10_hands_124 (tgt := 4) (by decide) ?_
      exact g_pick [1, 2, 0] rfl (hk4 _ _ _ h)
    · rw [if_neg h9] at h
      refine g_aload_n hC dX10_hands_24 0 rfl rfl ?_
      refine g_getr hC dX10_hands_25 lfRX10_18 (isO_spec h0) (ft_10_3 h0) ?_
      refine g_iload_n hC dX10_hands_28 2 rfl rfl ?_
      obtain ⟨b9, h⟩ := of_ite h
      refine g_iald hC dX10_hands_29 (isA_spec (rf_10_3 h0)) b9 ?_
      refine g_iconst hC dX10_hands_30 ok_1 ?_
      refine g_icmp_eq hC dX10_hands_31 (tgt := 115) (by decide) (fun h9 => ?_) (fun h9 => ?_)
      · rw [if_pos h9] at h
        exact g_pick [0, 1, 2, 3] rfl (bX10_hands_115 hC hcs h0 hk4 ih hR _ _ _ _ h)
      · rw [if_neg h9] at h
        refine g_aload_n hC dX10_hands_34 0 rfl rfl ?_
        refine g_getr hC dX10_hands_35 lfRX10_18 (isO_spec h0) (ft_10_3 h0) ?_
        refine g_iload_n hC dX10_hands_38 3 rfl rfl ?_
        obtain ⟨b9, h⟩ := of_ite h
        refine g_iald hC dX10_hands_39 (isA_spec (rf_10_3 h0)) b9 ?_
        refine g_iconst hC dX10_hands_40 ok_1 ?_
        refine g_icmp_eq hC dX10_hands_41 (tgt := 115) (by decide) (fun h9 => ?_) (fun h9 => ?_)
        · rw [if_pos h9] at h
          exact g_pick [0, 1, 2, 3] rfl (bX10_hands_115 hC hcs h0 hk4 ih hR _ _ _ _ h)
        · rw [if_neg h9] at h
          refine g_aload_n hC dX10_hands_44 0 rfl rfl ?_
          refine g_getr hC dX10_hands_45 lfRX10_15 (isO_spec h0) (ft_10_2 h0) ?_
          refine g_iload_n hC dX10_hands_48 2 rfl rfl ?_
          obtain ⟨b9, h⟩ := of_ite h
          refine g_iald hC dX10_hands_49 (isA_spec (rf_10_2 h0)) b9 ?_
          refine g_iconst hC dX10_hands_50 ok_m1 ?_
          refine g_icmp_eq hC dX10_hands_51 (tgt := 115) (by decide) (fun h9 => ?_) (fun h9 => ?_)
          · rw [if_pos h9] at h
            exact g_pick [0, 1, 2, 3] rfl (bX10_hands_115 hC hcs h0 hk4 ih hR _ _ _ _ h)
          · rw [if_neg h9] at h
            refine g_aload_n hC dX10_hands_54 0 rfl rfl ?_
            refine g_getr hC dX10_hands_55 lfRX10_15 (isO_spec h0) (ft_10_2 h0) ?_
            refine g_iload_n hC dX10_hands_58 3 rfl rfl ?_
            obtain ⟨b9, h⟩ := of_ite h
            refine g_iald hC dX10_hands_59 (isA_spec (rf_10_2 h0)) b9 ?_
            refine g_iconst hC dX10_hands_60 ok_m1 ?_
            refine g_icmp_eq hC dX10_hands_61 (tgt := 115) (by decide) (fun h9 => ?_) (fun h9 => ?_)
            · rw [if_pos h9] at h
              exact g_pick [0, 1, 2, 3] rfl (bX10_hands_115 hC hcs h0 hk4 ih hR _ _ _ _ h)
            · rw [if_neg h9] at h
              refine g_aload_n hC dX10_hands_64 0 rfl rfl ?_
              refine g_getr hC dX10_hands_65 lfRX10_15 (isO_spec h0) (ft_10_2 h0) ?_
              refine g_iload_n hC dX10_hands_68 2 rfl rfl ?_
              obtain ⟨b9, h⟩ := of_ite h
              refine g_iald hC dX10_hands_69 (isA_spec (rf_10_2 h0)) b9 ?_
              refine g_aload_n hC dX10_hands_70 0 rfl rfl ?_
              refine g_getr hC dX10_hands_71 lfRX10_15 (isO_spec h0) (ft_10_2 h0) ?_
              refine g_iload_n hC dX10_hands_74 3 rfl rfl ?_
              obtain ⟨b9, h⟩ := of_ite h
              refine g_iald hC dX10_hands_75 (isA_spec (rf_10_2 h0)) b9 ?_
              refine g_icmp_ne hC dX10_hands_76 (tgt := 82) (by decide) (fun h9 => ?_) (fun h9 => ?_)
              · rw [if_neg h9] at h
                refine g_aload_n hC dX10_hands_82 0 rfl rfl ?_
                refine g_aload_n hC dX10_hands_83 0 rfl rfl ?_
                refine g_getr hC dX10_hands_84 lfRX10_15 (isO_spec h0) (ft_10_2 h0) ?_
                refine g_iload_n hC dX10_hands_87 2 rfl rfl ?_
                obtain ⟨b9, h⟩ := of_ite h
                refine g_iald hC dX10_hands_88 (isA_spec (rf_10_2 h0)) b9 ?_
                refine g_iload_n hC dX10_hands_89 2 rfl rfl ?_
                refine g_iload_n hC dX10_hands_90 3 rfl rfl ?_
                obtain ⟨⟨r1, s1⟩, e1, h⟩ := of_bind h
                try dsimp only at h
                refine s_callVi hC dX10_hands_91 (tX10_wouldChange h0 e1) miX10_wouldChange mvX10_wouldChange mlRX10_284 (isO_spec h0) vc_10 rfl rfl (Nat.le_of_ble_eq_true rfl) (Nat.le_of_ble_eq_true rfl) (Nat.le_of_ble_eq_true rfl) hcs ?_
                refine g_if_eq hC dX10_hands_94 (tgt := 115) (by decide) (fun h9 => ?_) (fun h9 => ?_)
                · rw [if_pos h9] at h
                  exact g_pick [0, 1, 2, 3] rfl (bX10_hands_115 hC hcs h0 hk4 ih hR _ _ _ _ h)
                · rw [if_neg h9] at h
                  refine g_aload_n hC dX10_hands_97 0 rfl rfl ?_
                  refine g_aload_n hC dX10_hands_98 0 rfl rfl ?_
                  refine g_getr hC dX10_hands_99 lfRX10_15 (isO_spec h0) (ft_10_2 h0) ?_
                  refine g_iload_n hC dX10_hands_102 3 rfl rfl ?_
                  obtain ⟨b9, h⟩ := of_ite h
                  refine g_iald hC dX10_hands_103 (isA_spec (rf_10_2 h0)) b9 ?_
                  refine g_iload_n hC dX10_hands_104 3 rfl rfl ?_
                  refine g_iload_n hC dX10_hands_105 2 rfl rfl ?_
                  obtain ⟨⟨r2, s2⟩, e2, h⟩ := of_bind h
                  try dsimp only at h
                  refine s_callVi hC dX10_hands_106 (tX10_wouldChange h0 e2) miX10_wouldChange mvX10_wouldChange mlRX10_284 (isO_spec h0) vc_10 rfl rfl (Nat.le_of_ble_eq_true rfl) (Nat.le_of_ble_eq_true rfl) (Nat.le_of_ble_eq_true rfl) hcs ?_
                  refine g_if_eq hC dX10_hands_109 (tgt := 115) (by decide) (fun h9 => ?_) (fun h9 => ?_)
                  · rw [if_pos h9] at h
                    exact g_pick [0, 1, 2, 3] rfl (bX10_hands_115 hC hcs h0 hk4 ih hR _ _ _ _ h)
                  · rw [if_neg h9] at h
                    refine g_iinc hC dX10_hands_112 1 rfl (Nat.le_of_ble_eq_true rfl) rfl ?_
                    exact g_pick [1, 0, 2, 3] rfl (bX10_hands_115 hC hcs h0 hk4 ih hR _ _ _ _ h)
              · rw [if_pos h9] at h
                refine g_goto hC dX10_hands_79 (tgt := 115) (by decide) ?_
                exact g_pick [0, 1, 2, 3] rfl (bX10_hands_115 hC hcs h0 hk4 ih hR _ _ _ _ h)
theorem bX10_hands_4 {K : KT} {g : GT} {cm sm : Nat} {cs : Nat × Nat} {c0 : Nat} {r : Int} {σ' : St} (hC : Ctx K g RX10 cX10_hands 4 5 cm sm) (hcs : cs.1 ≤ cm ∧ cs.2 ≤ sm) (h0 : isO 10 c0 = true) (hR : RetI K g cX10_hands 4 cs r (SH0, σ')) : ∀ (n : Nat) (x1 : Int) (x2 : Int) (σ : St), fX10_hands_4 c0 n x1 x2 σ = some (r, σ') → G K g 4 cs 4 [(0, vr c0), (1, vi x1), (2, vi x2)] [] (SH0, σ) := by
  intro n
  induction n with
  | zero =>
    intro x1 x2 σ h
    rw [fX10_hands_4.eq_1] at h
    cases h
  | succ n ih =>
    intro x1 x2 σ h
    rw [fX10_hands_4.eq_2] at h
    refine g_iload_n hC dX10_hands_4 2 rfl rfl ?_
    refine g_aload_n hC dX10_hands_5 0 rfl rfl ?_
    refine g_geti hC dX10_hands_6 lfRX10_97 (isO_spec h0) (ft_10_0 h0) ?_
    refine g_icmp_ge hC dX10_hands_9 (tgt := 127) (by decide) (fun h9 => ?_) (fun h9 => ?_)
    · rw [if_pos h9] at h
      refine g_iload_n hC dX10_hands_127 1 rfl rfl ?_
      exact ret_i h hR dX10_hands_128
    · rw [if_neg h9] at h
      refine g_iload_n hC dX10_hands_12 2 rfl rfl ?_
      refine g_iconst hC dX10_hands_13 ok_1 ?_
      refine g_iadd hC dX10_hands_14 ?_
      refine g_istore_n hC dX10_hands_15 rfl (Nat.le_of_ble_eq_true rfl) rfl ?_
      exact g_pick [1, 2, 3, 0] rfl (bX10_hands_16 hC hcs h0 ih hR _ _ _ _ _ h)
theorem bX10_hands_0 {K : KT} {g : GT} {cm sm : Nat} {cs : Nat × Nat} {c0 : Nat} {r : Int} {σ' : St} (hC : Ctx K g RX10 cX10_hands 4 5 cm sm) (hcs : cs.1 ≤ cm ∧ cs.2 ≤ sm) (h0 : isO 10 c0 = true) (hR : RetI K g cX10_hands 4 cs r (SH0, σ')) : ∀ (σ : St), fX10_hands c0 σ = some (r, σ') → G K g 4 cs 0 [(0, vr c0)] [] (SH0, σ) := by
  intro σ h
  unfold fX10_hands at h
  refine g_iconst hC dX10_hands_0 ok_0 ?_
  refine g_istore_n hC dX10_hands_1 rfl (Nat.le_of_ble_eq_true rfl) rfl ?_
  refine g_iconst hC dX10_hands_2 ok_0 ?_
  refine g_istore_n hC dX10_hands_3 rfl (Nat.le_of_ble_eq_true rfl) rfl ?_
  exact g_pick [2, 1, 0] rfl (bX10_hands_4 hC hcs h0 hR _ _ _ _ h)
theorem tX10_hands {l : Launch} {g : GT} {c0 : Nat} {σ σ' : St} {r : Int} (h0 : isO 10 c0 = true) (h : fX10_hands c0 σ = some (r, σ')) : Cn l g yX10_hands cX10_hands 4 (some .int) 5 0 0 [vr c0] (SH0, σ) (some (vi r)) (SH0, σ') :=
  Cn.ofI (by decide) (Nat.le_of_ble_eq_true rfl) (fun K e hC hR => (bX10_hands_0 hC ⟨Nat.le_refl _, Nat.le_refl _⟩ h0 hR _ h))
theorem dX10_image_0 : decode cX10_image 0 = .ok (.aload_n 0, 1) := by decide +kernel
theorem dX10_image_1 : decode cX10_image 1 = .ok (.iconst 1, 1) := by decide +kernel
theorem dX10_image_2 : decode cX10_image 2 = .ok (.putfield 317, 3) := by decide +kernel
theorem dX10_image_5 : decode cX10_image 5 = .ok (.aload_n 0, 1) := by decide +kernel
theorem dX10_image_6 : decode cX10_image 6 = .ok (.aload_n 0, 1) := by decide +kernel
theorem dX10_image_7 : decode cX10_image 7 = .ok (.getfield 97, 3) := by decide +kernel
theorem dX10_image_10 : decode cX10_image 10 = .ok (.putfield 320, 3) := by decide +kernel
theorem dX10_image_13 : decode cX10_image 13 = .ok (.aload_n 0, 1) := by decide +kernel
theorem dX10_image_14 : decode cX10_image 14 = .ok (.aload_n 0, 1) := by decide +kernel
theorem dX10_image_15 : decode cX10_image 15 = .ok (.getfield 105, 3) := by decide +kernel
theorem dX10_image_18 : decode cX10_image 18 = .ok (.putfield 323, 3) := by decide +kernel
theorem dX10_image_21 : decode cX10_image 21 = .ok (.aload_n 0, 1) := by decide +kernel
theorem dX10_image_22 : decode cX10_image 22 = .ok (.aload_n 0, 1) := by decide +kernel
theorem dX10_image_23 : decode cX10_image 23 = .ok (.getfield 63, 3) := by decide +kernel
theorem dX10_image_26 : decode cX10_image 26 = .ok (.invokevirtual 258, 3) := by decide +kernel
theorem dX10_image_29 : decode cX10_image 29 = .ok (.iconst 0, 1) := by decide +kernel
theorem dX10_image_30 : decode cX10_image 30 = .ok (.istore_n 1, 1) := by decide +kernel
theorem dX10_image_31 : decode cX10_image 31 = .ok (.iload_n 1, 1) := by decide +kernel
theorem dX10_image_32 : decode cX10_image 32 = .ok (.iconst 5, 1) := by decide +kernel
theorem dX10_image_33 : decode cX10_image 33 = .ok (.if_icmp .ge 21, 3) := by decide +kernel
theorem dX10_image_36 : decode cX10_image 36 = .ok (.aload_n 0, 1) := by decide +kernel
theorem dX10_image_37 : decode cX10_image 37 = .ok (.getfield 66, 3) := by decide +kernel
theorem dX10_image_40 : decode cX10_image 40 = .ok (.iload_n 1, 1) := by decide +kernel
theorem dX10_image_41 : decode cX10_image 41 = .ok (.aload_n 0, 1) := by decide +kernel
theorem dX10_image_42 : decode cX10_image 42 = .ok (.getfield 60, 3) := by decide +kernel
theorem dX10_image_45 : decode cX10_image 45 = .ok (.iload_n 1, 1) := by decide +kernel
theorem dX10_image_46 : decode cX10_image 46 = .ok (.iaload, 1) := by decide +kernel
theorem dX10_image_47 : decode cX10_image 47 = .ok (.iastore, 1) := by decide +kernel
theorem dX10_image_48 : decode cX10_image 48 = .ok (.iinc 1 1, 3) := by decide +kernel
theorem dX10_image_51 : decode cX10_image 51 = .ok (.goto (-20), 3) := by decide +kernel
theorem dX10_image_54 : decode cX10_image 54 = .ok (.aload_n 0, 1) := by decide +kernel
theorem dX10_image_55 : decode cX10_image 55 = .ok (.getfield 60, 3) := by decide +kernel
theorem dX10_image_58 : decode cX10_image 58 = .ok (.iconst 4, 1) := by decide +kernel
theorem dX10_image_59 : decode cX10_image 59 = .ok (.iaload, 1) := by decide +kernel
theorem dX10_image_60 : decode cX10_image 60 = .ok (.ireturn, 1) := by decide +kernel
theorem bX10_image_31 {K : KT} {g : GT} {cm sm : Nat} {cs : Nat × Nat} {c0 : Nat} {r : Int} {σ' : St} (hC : Ctx K g RX10 cX10_image 2 1 cm sm) (hcs : cs.1 ≤ cm ∧ cs.2 ≤ sm) (h0 : isO 10 c0 = true) (hR : RetI K g cX10_image 2 cs r (SH0, σ')) : ∀ (n : Nat) (x1 : Int) (σ : St), fX10_image_31 c0 n x1 σ = some (r, σ') → G K g 2 cs 31 [(0, vr c0), (1, vi x1)] [] (SH0, σ) := by
  intro n
  induction n with
  | zero =>
    intro x1 σ h
    rw [fX10_image_31.eq_1] at h
    cases h
  | succ n ih =>
    intro x1 σ h
    rw [fX10_image_31.eq_2] at h
    refine g_iload_n hC dX10_image_31 1 rfl rfl ?_
    refine g_iconst hC dX10_image_32 ok_5 ?_
    refine g_icmp_ge hC dX10_image_33 (tgt := 54) (by decide) (fun h9 => ?_) (fun h9 => ?_)
    · rw [if_pos h9] at h
      refine g_aload_n hC dX10_image_54 0 rfl rfl ?_
      refine g_getr hC dX10_image_55 lfRX10_60 (isO_spec h0) (ft_10_25 h0) ?_
      refine g_iconst hC dX10_image_58 ok_4 ?_
      obtain ⟨b9, h⟩ := of_ite h
      refine g_iald hC dX10_image_59 (isA_spec (rf_10_25 h0)) b9 ?_
      exact ret_i h hR dX10_image_60
    · rw [if_neg h9] at h
      refine g_aload_n hC dX10_image_36 0 rfl rfl ?_
      refine g_getr hC dX10_image_37 lfRX10_66 (isO_spec h0) (ft_10_30 h0) ?_
      refine g_iload_n hC dX10_image_40 1 rfl rfl ?_
      refine g_aload_n hC dX10_image_41 0 rfl rfl ?_
      refine g_getr hC dX10_image_42 lfRX10_60 (isO_spec h0) (ft_10_25 h0) ?_
      refine g_iload_n hC dX10_image_45 1 rfl rfl ?_
      obtain ⟨b9, h⟩ := of_ite h
      refine g_iald hC dX10_image_46 (isA_spec (rf_10_25 h0)) b9 ?_
      obtain ⟨b9, h⟩ := of_ite h
      refine g_iast hC dX10_image_47 (isA_spec (rf_10_30 h0)) b9 ?_
      refine g_iinc hC dX10_image_48 1 rfl (Nat.le_of_ble_eq_true rfl) rfl ?_
      refine g_goto hC dX10_image_51 (tgt := 31) (by decide) ?_
      exact g_pick [1, 0] rfl (ih _ _ h)
theorem bX10_image_0 {K : KT} {g : GT} {cm sm : Nat} {cs : Nat × Nat} {c0 : Nat} {r : Int} {σ' : St} (hC : Ctx K g RX10 cX10_image 2 1 cm sm) (hcs : cs.1 ≤ cm ∧ cs.2 ≤ sm) (h0 : isO 10 c0 = true) (hR : RetI K g cX10_image 2 cs r (SH0, σ')) : ∀ (σ : St), fX10_image c0 σ = some (r, σ') → G K g 2 cs 0 [(0, vr c0)] [] (SH0, σ) := by
  intro σ h
  unfold fX10_image at h
  refine g_aload_n hC dX10_image_0 0 rfl rfl ?_
  refine g_iconst hC dX10_image_1 ok_1 ?_
  refine g_putz hC dX10_image_2 lfRX10_317 fp_10_26 (isO_spec h0) (ft_10_26 h0) (by decide) ?_
  refine g_aload_n hC dX10_image_5 0 rfl rfl ?_
  refine g_aload_n hC dX10_image_6 0 rfl rfl ?_
  refine g_geti hC dX10_image_7 lfRX10_97 (isO_spec h0) (ft_10_0 h0) ?_
  refine g_puti hC dX10_image_10 lfRX10_320 fp_10_27 (isO_spec h0) (ft_10_27 h0) ?_
  refine g_aload_n hC dX10_image_13 0 rfl rfl ?_
  refine g_aload_n hC dX10_image_14 0 rfl rfl ?_
  refine g_geti hC dX10_image_15 lfRX10_105 (isO_spec h0) (ft_10_5 h0) ?_
  refine g_puti hC dX10_image_18 lfRX10_323 fp_10_28 (isO_spec h0) (ft_10_28 h0) ?_
  refine g_aload_n hC dX10_image_21 0 rfl rfl ?_
  refine g_aload_n hC dX10_image_22 0 rfl rfl ?_
  refine g_getr hC dX10_image_23 lfRX10_63 (isO_spec h0) (ft_10_29 h0) ?_
  obtain ⟨s1, e1, h⟩ := of_bind h
  try dsimp only at h
  refine s_callVv hC dX10_image_26 (tX10_keeps h0 (rf_10_29 h0) e1) miX10_keeps mvX10_keeps mlRX10_258 (isO_spec h0) vc_10 rfl rfl (Nat.le_of_ble_eq_true rfl) (Nat.le_of_ble_eq_true rfl) (Nat.le_of_ble_eq_true rfl) hcs ?_
  refine g_iconst hC dX10_image_29 ok_0 ?_
  refine g_istore_n hC dX10_image_30 rfl (Nat.le_of_ble_eq_true rfl) rfl ?_
  exact g_pick [1, 0] rfl (bX10_image_31 hC hcs h0 hR _ _ _ h)
theorem tX10_image {l : Launch} {g : GT} {c0 : Nat} {σ σ' : St} {r : Int} (h0 : isO 10 c0 = true) (h : fX10_image c0 σ = some (r, σ')) : Cn l g yX10_image cX10_image 2 (some .int) 1 0 0 [vr c0] (SH0, σ) (some (vi r)) (SH0, σ') :=
  Cn.ofI (by decide) (Nat.le_of_ble_eq_true rfl) (fun K e hC hR => (bX10_image_0 hC ⟨Nat.le_refl _, Nat.le_refl _⟩ h0 hR _ h))
theorem dX10_judge_0 : decode cX10_judge 0 = .ok (.aload_n 0, 1) := by decide +kernel
theorem dX10_judge_1 : decode cX10_judge 1 = .ok (.iload_n 1, 1) := by decide +kernel
theorem dX10_judge_2 : decode cX10_judge 2 = .ok (.invokevirtual 302, 3) := by decide +kernel
theorem dX10_judge_5 : decode cX10_judge 5 = .ok (.istore_n 2, 1) := by decide +kernel
theorem dX10_judge_6 : decode cX10_judge 6 = .ok (.iload_n 2, 1) := by decide +kernel
theorem dX10_judge_7 : decode cX10_judge 7 = .ok (.ifCond .ge 7, 3) := by decide +kernel
theorem dX10_judge_10 : decode cX10_judge 10 = .ok (.iload_n 2, 1) := by decide +kernel
theorem dX10_judge_11 : decode cX10_judge 11 = .ok (.goto 8, 3) := by decide +kernel
theorem dX10_judge_14 : decode cX10_judge 14 = .ok (.aload_n 0, 1) := by decide +kernel
theorem dX10_judge_15 : decode cX10_judge 15 = .ok (.iload_n 1, 1) := by decide +kernel
theorem dX10_judge_16 : decode cX10_judge 16 = .ok (.invokevirtual 305, 3) := by decide +kernel
theorem dX10_judge_19 : decode cX10_judge 19 = .ok (.ireturn, 1) := by decide +kernel
theorem bX10_judge_0 {K : KT} {g : GT} {cm sm : Nat} {cs : Nat × Nat} {c0 : Nat} {x1 : Int} {r : Int} {σ' : St} (hC : Ctx K g RX10 cX10_judge 3 9 cm sm) (hcs : cs.1 ≤ cm ∧ cs.2 ≤ sm) (h0 : isO 10 c0 = true) (hR : RetI K g cX10_judge 3 cs r (SH0, σ')) : ∀ (σ : St), fX10_judge c0 x1 σ = some (r, σ') → G K g 3 cs 0 [(0, vr c0), (1, vi x1)] [] (SH0, σ) := by
  intro σ h
  unfold fX10_judge at h
  refine g_aload_n hC dX10_judge_0 0 rfl rfl ?_
  refine g_iload_n hC dX10_judge_1 1 rfl rfl ?_
  obtain ⟨⟨r1, s1⟩, e1, h⟩ := of_bind h
  try dsimp only at h
  refine s_callVi hC dX10_judge_2 (tX10_noBook h0 e1) miX10_noBook mvX10_noBook mlRX10_302 (isO_spec h0) vc_10 rfl rfl (Nat.le_of_ble_eq_true rfl) (Nat.le_of_ble_eq_true rfl) (Nat.le_of_ble_eq_true rfl) hcs ?_
  refine g_istore_n hC dX10_judge_5 rfl (Nat.le_of_ble_eq_true rfl) rfl ?_
  refine g_iload_n hC dX10_judge_6 0 rfl rfl ?_
  refine g_if_ge hC dX10_judge_7 (tgt := 14) (by decide) (fun h9 => ?_) (fun h9 => ?_)
  · rw [if_pos h9] at h
    refine g_aload_n hC dX10_judge_14 1 rfl rfl ?_
    refine g_iload_n hC dX10_judge_15 2 rfl rfl ?_
    obtain ⟨⟨r2, s2⟩, e2, h⟩ := of_bind h
    try dsimp only at h
    refine s_callVi hC dX10_judge_16 (tX10_unlike h0 e2) miX10_unlike mvX10_unlike mlRX10_305 (isO_spec h0) vc_10 rfl rfl (Nat.le_of_ble_eq_true rfl) (Nat.le_of_ble_eq_true rfl) (Nat.le_of_ble_eq_true rfl) hcs ?_
    exact ret_i h hR dX10_judge_19
  · rw [if_neg h9] at h
    refine g_iload_n hC dX10_judge_10 0 rfl rfl ?_
    refine g_goto hC dX10_judge_11 (tgt := 19) (by decide) ?_
    exact ret_i h hR dX10_judge_19
theorem tX10_judge {l : Launch} {g : GT} {c0 : Nat} {x1 : Int} {σ σ' : St} {r : Int} (h0 : isO 10 c0 = true) (h : fX10_judge c0 x1 σ = some (r, σ')) : Cn l g yX10_judge cX10_judge 3 (some .int) 9 0 0 [vr c0, vi x1] (SH0, σ) (some (vi r)) (SH0, σ') :=
  Cn.ofI (by decide) (Nat.le_of_ble_eq_true rfl) (fun K e hC hR => (bX10_judge_0 hC ⟨Nat.le_refl _, Nat.le_refl _⟩ h0 hR _ h))
theorem dX10_keep_0 : decode cX10_keep 0 = .ok (.iload_n 1, 1) := by decide +kernel
theorem dX10_keep_1 : decode cX10_keep 1 = .ok (.invokestatic 112, 3) := by decide +kernel
theorem dX10_keep_4 : decode cX10_keep 4 = .ok (.ifCond .eq 17, 3) := by decide +kernel
theorem dX10_keep_7 : decode cX10_keep 7 = .ok (.iload_n 2, 1) := by decide +kernel
theorem dX10_keep_8 : decode cX10_keep 8 = .ok (.iconst (-1), 1) := by decide +kernel
theorem dX10_keep_9 : decode cX10_keep 9 = .ok (.aload_n 0, 1) := by decide +kernel
theorem dX10_keep_10 : decode cX10_keep 10 = .ok (.getfield 348, 3) := by decide +kernel
theorem dX10_keep_13 : decode cX10_keep 13 = .ok (.iconst 1, 1) := by decide +kernel
theorem dX10_keep_14 : decode cX10_keep 14 = .ok (.isub, 1) := by decide +kernel
theorem dX10_keep_15 : decode cX10_keep 15 = .ok (.invokestatic 101, 3) := by decide +kernel
theorem dX10_keep_18 : decode cX10_keep 18 = .ok (.ifCond .ne 5, 3) := by decide +kernel
theorem dX10_keep_21 : decode cX10_keep 21 = .ok (.iconst (-1), 1) := by decide +kernel
theorem dX10_keep_22 : decode cX10_keep 22 = .ok (.ireturn, 1) := by decide +kernel
theorem dX10_keep_23 : decode cX10_keep 23 = .ok (.aload_n 0, 1) := by decide +kernel
theorem dX10_keep_24 : decode cX10_keep 24 = .ok (.getfield 78, 3) := by decide +kernel
theorem dX10_keep_27 : decode cX10_keep 27 = .ok (.iload_n 1, 1) := by decide +kernel
theorem dX10_keep_28 : decode cX10_keep 28 = .ok (.iload_n 2, 1) := by decide +kernel
theorem dX10_keep_29 : decode cX10_keep 29 = .ok (.ifCond .ge 7, 3) := by decide +kernel
theorem dX10_keep_32 : decode cX10_keep 32 = .ok (.iconst (-1), 1) := by decide +kernel
theorem dX10_keep_33 : decode cX10_keep 33 = .ok (.goto 7, 3) := by decide +kernel
theorem dX10_keep_36 : decode cX10_keep 36 = .ok (.bipush 10, 2) := by decide +kernel
theorem dX10_keep_38 : decode cX10_keep 38 = .ok (.iload_n 2, 1) := by decide +kernel
theorem dX10_keep_39 : decode cX10_keep 39 = .ok (.iadd, 1) := by decide +kernel
theorem dX10_keep_40 : decode cX10_keep 40 = .ok (.iastore, 1) := by decide +kernel
theorem dX10_keep_41 : decode cX10_keep 41 = .ok (.aload_n 0, 1) := by decide +kernel
theorem dX10_keep_42 : decode cX10_keep 42 = .ok (.getfield 81, 3) := by decide +kernel
theorem dX10_keep_45 : decode cX10_keep 45 = .ok (.iload_n 1, 1) := by decide +kernel
theorem dX10_keep_46 : decode cX10_keep 46 = .ok (.iconst 0, 1) := by decide +kernel
theorem dX10_keep_47 : decode cX10_keep 47 = .ok (.iastore, 1) := by decide +kernel
theorem dX10_keep_48 : decode cX10_keep 48 = .ok (.iconst 1, 1) := by decide +kernel
theorem dX10_keep_49 : decode cX10_keep 49 = .ok (.ireturn, 1) := by decide +kernel
theorem bX10_keep_40 {K : KT} {g : GT} {cm sm : Nat} {cs : Nat × Nat} {c0 : Nat} {x1 : Int} {x2 : Int} {r : Int} {σ' : St} (hC : Ctx K g RX10 cX10_keep 3 2 cm sm) (hcs : cs.1 ≤ cm ∧ cs.2 ≤ sm) (h0 : isO 10 c0 = true) (hR : RetI K g cX10_keep 3 cs r (SH0, σ')) : ∀ (d0 : Nat) (y1 : Int) (y2 : Int) (σ : St), isA 1 d0 = true → fX10_keep_40 c0 x1 x2 d0 y1 y2 σ = some (r, σ') → G K g 3 cs 40 [(0, vr c0), (1, vi x1), (2, vi x2)] [vi y2, vi y1, vr d0] (SH0, σ) := by
  intro d0 y1 y2 σ hd0 h
  unfold fX10_keep_40 at h
  obtain ⟨b9, h⟩ := of_ite h
  refine g_iast hC dX10_keep_40 (isA_spec hd0) b9 ?_
  refine g_aload_n hC dX10_keep_41 0 rfl rfl ?_
  refine g_getr hC dX10_keep_42 lfRX10_81 (isO_spec h0) (ft_10_39 h0) ?_
  refine g_iload_n hC dX10_keep_45 1 rfl rfl ?_
  refine g_iconst hC dX10_keep_46 ok_0 ?_
  obtain ⟨b9, h⟩ := of_ite h
  refine g_iast hC dX10_keep_47 (isA_spec (rf_10_39 h0)) b9 ?_
  refine g_iconst hC dX10_keep_48 ok_1 ?_
  exact ret_i h hR dX10_keep_49
theorem bX10_keep_0 {K : KT} {g : GT} {cm sm : Nat} {cs : Nat × Nat} {c0 : Nat} {x1 : Int} {x2 : Int} {r : Int} {σ' : St} (hC : Ctx K g RX10 cX10_keep 3 2 cm sm) (hcs : cs.1 ≤ cm ∧ cs.2 ≤ sm) (h0 : isO 10 c0 = true) (hR : RetI K g cX10_keep 3 cs r (SH0, σ')) : ∀ (σ : St), fX10_keep c0 x1 x2 σ = some (r, σ') → G K g 3 cs 0 [(0, vr c0), (1, vi x1), (2, vi x2)] [] (SH0, σ) := by
  intro σ h
  unfold fX10_keep at h
  refine g_iload_n hC dX10_keep_0 1 rfl rfl ?_
  obtain ⟨⟨r1, s1⟩, e1, h⟩ := of_bind h
  try dsimp only at h
  refine s_callSi hC dX10_keep_1 (tX10_isShelf e1) miX10_isShelf msX10_isShelf mlRX10_112 rfl rfl (Nat.le_of_ble_eq_true rfl) (Nat.le_of_ble_eq_true rfl) (Nat.le_of_ble_eq_true rfl) hcs ?_
  refine g_if_eq hC dX10_keep_4 (tgt := 21) (by decide) (fun h9 => ?_) (fun h9 => ?_)
  · rw [if_pos h9] at h
    refine g_iconst hC dX10_keep_21 ok_m1 ?_
    exact ret_i h hR dX10_keep_22
  · rw [if_neg h9] at h
    refine g_iload_n hC dX10_keep_7 2 rfl rfl ?_
    refine g_iconst hC dX10_keep_8 ok_m1 ?_
    refine g_aload_n hC dX10_keep_9 0 rfl rfl ?_
    refine g_geti hC dX10_keep_10 lfRX10_348 (isO_spec h0) (ft_10_34 h0) ?_
    refine g_iconst hC dX10_keep_13 ok_1 ?_
    refine g_isub hC dX10_keep_14 ?_
    obtain ⟨⟨r2, s2⟩, e2, h⟩ := of_bind h
    try dsimp only at h
    refine s_callSi hC dX10_keep_15 (tX10_within e2) miX10_within msX10_within mlRX10_101 rfl rfl (Nat.le_of_ble_eq_true rfl) (Nat.le_of_ble_eq_true rfl) (Nat.le_of_ble_eq_true rfl) hcs ?_
    refine g_if_ne hC dX10_keep_18 (tgt := 23) (by decide) (fun h9 => ?_) (fun h9 => ?_)
    · rw [if_neg h9] at h
      refine g_aload_n hC dX10_keep_23 0 rfl rfl ?_
      refine g_getr hC dX10_keep_24 lfRX10_78 (isO_spec h0) (ft_10_38 h0) ?_
      refine g_iload_n hC dX10_keep_27 1 rfl rfl ?_
      refine g_iload_n hC dX10_keep_28 2 rfl rfl ?_
      refine g_if_ge hC dX10_keep_29 (tgt := 36) (by decide) (fun h9 => ?_) (fun h9 => ?_)
      · rw [if_pos h9] at h
        refine g_bipush hC dX10_keep_36 bp_10 ?_
        refine g_iload_n hC dX10_keep_38 2 rfl rfl ?_
        refine g_iadd hC dX10_keep_39 ?_
        exact g_pick [0, 1, 2] rfl (bX10_keep_40 hC hcs h0 hR _ _ _ _ (rf_10_38 h0) h)
      · rw [if_neg h9] at h
        refine g_iconst hC dX10_keep_32 ok_m1 ?_
        refine g_goto hC dX10_keep_33 (tgt := 40) (by decide) ?_
        exact g_pick [0, 1, 2] rfl (bX10_keep_40 hC hcs h0 hR _ _ _ _ (rf_10_38 h0) h)
    · rw [if_pos h9] at h
      refine g_iconst hC dX10_keep_21 ok_m1 ?_
      exact ret_i h hR dX10_keep_22
theorem tX10_keep {l : Launch} {g : GT} {c0 : Nat} {x1 : Int} {x2 : Int} {σ σ' : St} {r : Int} (h0 : isO 10 c0 = true) (h : fX10_keep c0 x1 x2 σ = some (r, σ')) : Cn l g yX10_keep cX10_keep 3 (some .int) 2 0 0 [vr c0, vi x1, vi x2] (SH0, σ) (some (vi r)) (SH0, σ') :=
  Cn.ofI (by decide) (Nat.le_of_ble_eq_true rfl) (fun K e hC hR => (bX10_keep_0 hC ⟨Nat.le_refl _, Nat.le_refl _⟩ h0 hR _ h))
theorem dX10_missedNow_0 : decode cX10_missedNow 0 = .ok (.iconst 0, 1) := by decide +kernel
theorem dX10_missedNow_1 : decode cX10_missedNow 1 = .ok (.istore_n 1, 1) := by decide +kernel
theorem dX10_missedNow_2 : decode cX10_missedNow 2 = .ok (.iconst 0, 1) := by decide +kernel
theorem dX10_missedNow_3 : decode cX10_missedNow 3 = .ok (.istore_n 2, 1) := by decide +kernel
theorem dX10_missedNow_4 : decode cX10_missedNow 4 = .ok (.iload_n 2, 1) := by decide +kernel
theorem dX10_missedNow_5 : decode cX10_missedNow 5 = .ok (.aload_n 0, 1) := by decide +kernel
theorem dX10_missedNow_6 : decode cX10_missedNow 6 = .ok (.getfield 97, 3) := by decide +kernel
theorem dX10_missedNow_9 : decode cX10_missedNow 9 = .ok (.if_icmp .ge 24, 3) := by decide +kernel
theorem dX10_missedNow_12 : decode cX10_missedNow 12 = .ok (.aload_n 0, 1) := by decide +kernel
theorem dX10_missedNow_13 : decode cX10_missedNow 13 = .ok (.getfield 21, 3) := by decide +kernel
theorem dX10_missedNow_16 : decode cX10_missedNow 16 = .ok (.iload_n 2, 1) := by decide +kernel
theorem dX10_missedNow_17 : decode cX10_missedNow 17 = .ok (.iaload, 1) := by decide +kernel
theorem dX10_missedNow_18 : decode cX10_missedNow 18 = .ok (.ifCond .le 9, 3) := by decide +kernel
theorem dX10_missedNow_21 : decode cX10_missedNow 21 = .ok (.iload_n 1, 1) := by decide +kernel
theorem dX10_missedNow_22 : decode cX10_missedNow 22 = .ok (.iconst 1, 1) := by decide +kernel
theorem dX10_missedNow_23 : decode cX10_missedNow 23 = .ok (.iload_n 2, 1) := by decide +kernel
theorem dX10_missedNow_24 : decode cX10_missedNow 24 = .ok (.ishl, 1) := by decide +kernel
theorem dX10_missedNow_25 : decode cX10_missedNow 25 = .ok (.ior, 1) := by decide +kernel
theorem dX10_missedNow_26 : decode cX10_missedNow 26 = .ok (.istore_n 1, 1) := by decide +kernel
theorem dX10_missedNow_27 : decode cX10_missedNow 27 = .ok (.iinc 2 1, 3) := by decide +kernel
theorem dX10_missedNow_30 : decode cX10_missedNow 30 = .ok (.goto (-26), 3) := by decide +kernel
theorem dX10_missedNow_33 : decode cX10_missedNow 33 = .ok (.iload_n 1, 1) := by decide +kernel
theorem dX10_missedNow_34 : decode cX10_missedNow 34 = .ok (.ireturn, 1) := by decide +kernel
theorem bX10_missedNow_27 {K : KT} {g : GT} {cm sm : Nat} {cs : Nat × Nat} {c0 : Nat} {k4 : Int → Int → St → Option (Int × St)} {r : Int} {σ' : St} (hC : Ctx K g RX10 cX10_missedNow 3 0 cm sm) (hcs : cs.1 ≤ cm ∧ cs.2 ≤ sm) (h0 : isO 10 c0 = true) (hk4 : ∀ (x1 : Int) (x2 : Int) (σ : St), k4 x1 x2 σ = some (r, σ') → G K g 3 cs 4 [(0, vr c0), (1, vi x1), (2, vi x2)] [] (SH0, σ)) (hR : RetI K g cX10_missedNow 3 cs r (SH0, σ')) : ∀ (x1 : Int) (x2 : Int) (σ : St), fX10_missedNow_27 c0 k4 x1 x2 σ = some (r, σ') → G K g 3 cs 27 [(0, vr c0), (1, vi x1), (2, vi x2)] [] (SH0, σ) := by
  intro x1 x2 σ h
  unfold fX10_missedNow_27 at h
  refine g_iinc hC dX10_missedNow_27 2 rfl (Nat.le_of_ble_eq_true rfl) rfl ?_
  refine g_goto hC dX10_missedNow_30 (tgt := 4) (by decide) ?_
  exact g_pick [1, 2, 0] rfl (hk4 _ _ _ h)
theorem bX10_missedNow_4 {K : KT} {g : GT} {cm sm : Nat} {cs : Nat × Nat} {c0 : Nat} {r : Int} {σ' : St} (hC : Ctx K g RX10 cX10_missedNow 3 0 cm sm) (hcs : cs.1 ≤ cm ∧ cs.2 ≤ sm) (h0 : isO 10 c0 = true) (hR : RetI K g cX10_missedNow 3 cs r (SH0, σ')) : ∀ (n : Nat) (x1 : Int) (x2 : Int) (σ : St), fX10_missedNow_4 c0 n x1 x2 σ = some (r, σ') → G K g 3 cs 4 [(0, vr c0), (1, vi x1), (2, vi x2)] [] (SH0, σ) := by
  intro n
  induction n with
  | zero =>
    intro x1 x2 σ h
    rw [fX10_missedNow_4.eq_1] at h
    cases h
  | succ n ih =>
    intro x1 x2 σ h
    rw [fX10_missedNow_4.eq_2] at h
    refine g_iload_n hC dX10_missedNow_4 2 rfl rfl ?_
    refine g_aload_n hC dX10_missedNow_5 0 rfl rfl ?_
    refine g_geti hC dX10_missedNow_6 lfRX10_97 (isO_spec h0) (ft_10_0 h0) ?_
    refine g_icmp_ge hC dX10_missedNow_9 (tgt := 33) (by decide) (fun h9 => ?_) (fun h9 => ?_)
    · rw [if_pos h9] at h
      refine g_iload_n hC dX10_missedNow_33 1 rfl rfl ?_
      exact ret_i h hR dX10_missedNow_34
    · rw [if_neg h9] at h
      refine g_aload_n hC dX10_missedNow_12 0 rfl rfl ?_
      refine g_getr hC dX10_missedNow_13 lfRX10_21 (isO_spec h0) (ft_10_4 h0) ?_
      refine g_iload_n hC dX10_missedNow_16 2 rfl rfl ?_
      obtain ⟨b9, h⟩ := of_ite h
      refine g_iald hC dX10_missedNow_17 (isA_spec (rf_10_4 h0)) b9 ?_
      refine g_if_le hC dX10_missedNow_18 (tgt := 27) (by decide) (fun h9 => ?_) (fun h9 => ?_)
      · rw [if_pos h9] at h
        exact g_pick [0, 1, 2] rfl (bX10_missedNow_27 hC hcs h0 ih hR _ _ _ h)
      · rw [if_neg h9] at h
        refine g_iload_n hC dX10_missedNow_21 1 rfl rfl ?_
        refine g_iconst hC dX10_missedNow_22 ok_1 ?_
        refine g_iload_n hC dX10_missedNow_23 2 rfl rfl ?_
        refine g_ishl hC dX10_missedNow_24 ?_
        refine g_ior hC dX10_missedNow_25 ?_
        refine g_istore_n hC dX10_missedNow_26 rfl (Nat.le_of_ble_eq_true rfl) rfl ?_
        exact g_pick [1, 0, 2] rfl (bX10_missedNow_27 hC hcs h0 ih hR _ _ _ h)
theorem bX10_missedNow_0 {K : KT} {g : GT} {cm sm : Nat} {cs : Nat × Nat} {c0 : Nat} {r : Int} {σ' : St} (hC : Ctx K g RX10 cX10_missedNow 3 0 cm sm) (hcs : cs.1 ≤ cm ∧ cs.2 ≤ sm) (h0 : isO 10 c0 = true) (hR : RetI K g cX10_missedNow 3 cs r (SH0, σ')) : ∀ (σ : St), fX10_missedNow c0 σ = some (r, σ') → G K g 3 cs 0 [(0, vr c0)] [] (SH0, σ) := by
  intro σ h
  unfold fX10_missedNow at h
  refine g_iconst hC dX10_missedNow_0 ok_0 ?_
  refine g_istore_n hC dX10_missedNow_1 rfl (Nat.le_of_ble_eq_true rfl) rfl ?_
  refine g_iconst hC dX10_missedNow_2 ok_0 ?_
  refine g_istore_n hC dX10_missedNow_3 rfl (Nat.le_of_ble_eq_true rfl) rfl ?_
  exact g_pick [2, 1, 0] rfl (bX10_missedNow_4 hC hcs h0 hR _ _ _ _ h)
theorem tX10_missedNow {l : Launch} {g : GT} {c0 : Nat} {σ σ' : St} {r : Int} (h0 : isO 10 c0 = true) (h : fX10_missedNow c0 σ = some (r, σ')) : Cn l g yX10_missedNow cX10_missedNow 3 (some .int) 0 0 0 [vr c0] (SH0, σ) (some (vi r)) (SH0, σ') :=
  Cn.ofI (by decide) (Nat.le_of_ble_eq_true rfl) (fun K e hC hR => (bX10_missedNow_0 hC ⟨Nat.le_refl _, Nat.le_refl _⟩ h0 hR _ h))
theorem dX10_less_0 : decode cX10_less 0 = .ok (.iconst 0, 1) := by decide +kernel
theorem dX10_less_1 : decode cX10_less 1 = .ok (.iload_n 0, 1) := by decide +kernel
theorem dX10_less_2 : decode cX10_less 2 = .ok (.iconst 1, 1) := by decide +kernel
theorem dX10_less_3 : decode cX10_less 3 = .ok (.isub, 1) := by decide +kernel
theorem dX10_less_4 : decode cX10_less 4 = .ok (.invokestatic 227, 3) := by decide +kernel
theorem dX10_less_7 : decode cX10_less 7 = .ok (.ireturn, 1) := by decide +kernel
theorem bX10_less_0 {K : KT} {g : GT} {cm sm : Nat} {cs : Nat × Nat} {x0 : Int} {r : Int} {σ' : St} (hC : Ctx K g RX10 cX10_less 1 1 cm sm) (hcs : cs.1 ≤ cm ∧ cs.2 ≤ sm) (hR : RetI K g cX10_less 1 cs r (SH0, σ')) : ∀ (σ : St), fX10_less x0 σ = some (r, σ') → G K g 1 cs 0 [(0, vi x0)] [] (SH0, σ) := by
  intro σ h
  unfold fX10_less at h
  refine g_iconst hC dX10_less_0 ok_0 ?_
  refine g_iload_n hC dX10_less_1 0 rfl rfl ?_
  refine g_iconst hC dX10_less_2 ok_1 ?_
  refine g_isub hC dX10_less_3 ?_
  refine g_max hC dX10_less_4 lmRX10_227 mx_1 mn_2 mx_3 (Nat.le_of_ble_eq_true rfl) (Nat.le_of_ble_eq_true rfl) hcs ?_
  exact ret_i h hR dX10_less_7
theorem tX10_less {l : Launch} {g : GT} {x0 : Int} {σ σ' : St} {r : Int} (h : fX10_less x0 σ = some (r, σ')) : Cn l g yX10_less cX10_less 1 (some .int) 1 0 0 [vi x0] (SH0, σ) (some (vi r)) (SH0, σ') :=
  Cn.ofI (by decide) (Nat.le_of_ble_eq_true rfl) (fun K e hC hR => (bX10_less_0 hC ⟨Nat.le_refl _, Nat.le_refl _⟩ hR _ h))
theorem dX10_passes_0 : decode cX10_passes 0 = .ok (.iconst 0, 1) := by decide +kernel
theorem dX10_passes_1 : decode cX10_passes 1 = .ok (.istore_n 1, 1) := by decide +kernel
theorem dX10_passes_2 : decode cX10_passes 2 = .ok (.iload_n 1, 1) := by decide +kernel
theorem dX10_passes_3 : decode cX10_passes 3 = .ok (.aload_n 0, 1) := by decide +kernel
theorem dX10_passes_4 : decode cX10_passes 4 = .ok (.getfield 97, 3) := by decide +kernel
theorem dX10_passes_7 : decode cX10_passes 7 = .ok (.if_icmp .ge 24, 3) := by decide +kernel
theorem dX10_passes_10 : decode cX10_passes 10 = .ok (.aload_n 0, 1) := by decide +kernel
theorem dX10_passes_11 : decode cX10_passes 11 = .ok (.getfield 21, 3) := by decide +kernel
theorem dX10_passes_14 : decode cX10_passes 14 = .ok (.iload_n 1, 1) := by decide +kernel
theorem dX10_passes_15 : decode cX10_passes 15 = .ok (.aload_n 0, 1) := by decide +kernel
theorem dX10_passes_16 : decode cX10_passes 16 = .ok (.getfield 21, 3) := by decide +kernel
theorem dX10_passes_19 : decode cX10_passes 19 = .ok (.iload_n 1, 1) := by decide +kernel
theorem dX10_passes_20 : decode cX10_passes 20 = .ok (.iaload, 1) := by decide +kernel
theorem dX10_passes_21 : decode cX10_passes 21 = .ok (.invokestatic 287, 3) := by decide +kernel
theorem dX10_passes_24 : decode cX10_passes 24 = .ok (.iastore, 1) := by decide +kernel
theorem dX10_passes_25 : decode cX10_passes 25 = .ok (.iinc 1 1, 3) := by decide +kernel
theorem dX10_passes_28 : decode cX10_passes 28 = .ok (.goto (-26), 3) := by decide +kernel
theorem dX10_passes_31 : decode cX10_passes 31 = .ok (.iconst 0, 1) := by decide +kernel
theorem dX10_passes_32 : decode cX10_passes 32 = .ok (.istore_n 1, 1) := by decide +kernel
theorem dX10_passes_33 : decode cX10_passes 33 = .ok (.iload_n 1, 1) := by decide +kernel
theorem dX10_passes_34 : decode cX10_passes 34 = .ok (.aload_n 0, 1) := by decide +kernel
theorem dX10_passes_35 : decode cX10_passes 35 = .ok (.getfield 105, 3) := by decide +kernel
theorem dX10_passes_38 : decode cX10_passes 38 = .ok (.if_icmp .ge 63, 3) := by decide +kernel
theorem dX10_passes_41 : decode cX10_passes 41 = .ok (.aload_n 0, 1) := by decide +kernel
theorem dX10_passes_42 : decode cX10_passes 42 = .ok (.getfield 24, 3) := by decide +kernel
theorem dX10_passes_45 : decode cX10_passes 45 = .ok (.bipush 7, 2) := by decide +kernel
theorem dX10_passes_47 : decode cX10_passes 47 = .ok (.iload_n 1, 1) := by decide +kernel
theorem dX10_passes_48 : decode cX10_passes 48 = .ok (.iadd, 1) := by decide +kernel
theorem dX10_passes_49 : decode cX10_passes 49 = .ok (.aload_n 0, 1) := by decide +kernel
theorem dX10_passes_50 : decode cX10_passes 50 = .ok (.getfield 24, 3) := by decide +kernel
theorem dX10_passes_53 : decode cX10_passes 53 = .ok (.bipush 7, 2) := by decide +kernel
theorem dX10_passes_55 : decode cX10_passes 55 = .ok (.iload_n 1, 1) := by decide +kernel
theorem dX10_passes_56 : decode cX10_passes 56 = .ok (.iadd, 1) := by decide +kernel
theorem dX10_passes_57 : decode cX10_passes 57 = .ok (.iaload, 1) := by decide +kernel
theorem dX10_passes_58 : decode cX10_passes 58 = .ok (.invokestatic 287, 3) := by decide +kernel
theorem dX10_passes_61 : decode cX10_passes 61 = .ok (.iastore, 1) := by decide +kernel
theorem dX10_passes_62 : decode cX10_passes 62 = .ok (.aload_n 0, 1) := by decide +kernel
theorem dX10_passes_63 : decode cX10_passes 63 = .ok (.getfield 24, 3) := by decide +kernel
theorem dX10_passes_66 : decode cX10_passes 66 = .ok (.bipush 7, 2) := by decide +kernel
theorem dX10_passes_68 : decode cX10_passes 68 = .ok (.iload_n 1, 1) := by decide +kernel
theorem dX10_passes_69 : decode cX10_passes 69 = .ok (.iadd, 1) := by decide +kernel
theorem dX10_passes_70 : decode cX10_passes 70 = .ok (.iaload, 1) := by decide +kernel
theorem dX10_passes_71 : decode cX10_passes 71 = .ok (.ifCond .ne 24, 3) := by decide +kernel
theorem dX10_passes_74 : decode cX10_passes 74 = .ok (.aload_n 0, 1) := by decide +kernel
theorem dX10_passes_75 : decode cX10_passes 75 = .ok (.getfield 24, 3) := by decide +kernel
theorem dX10_passes_78 : decode cX10_passes 78 = .ok (.bipush 14, 2) := by decide +kernel
theorem dX10_passes_80 : decode cX10_passes 80 = .ok (.iload_n 1, 1) := by decide +kernel
theorem dX10_passes_81 : decode cX10_passes 81 = .ok (.iadd, 1) := by decide +kernel
theorem dX10_passes_82 : decode cX10_passes 82 = .ok (.aload_n 0, 1) := by decide +kernel
theorem dX10_passes_83 : decode cX10_passes 83 = .ok (.getfield 24, 3) := by decide +kernel
theorem dX10_passes_86 : decode cX10_passes 86 = .ok (.bipush 14, 2) := by decide +kernel
theorem dX10_passes_88 : decode cX10_passes 88 = .ok (.iload_n 1, 1) := by decide +kernel
theorem dX10_passes_89 : decode cX10_passes 89 = .ok (.iadd, 1) := by decide +kernel
theorem dX10_passes_90 : decode cX10_passes 90 = .ok (.iaload, 1) := by decide +kernel
theorem dX10_passes_91 : decode cX10_passes 91 = .ok (.invokestatic 287, 3) := by decide +kernel
theorem dX10_passes_94 : decode cX10_passes 94 = .ok (.iastore, 1) := by decide +kernel
theorem dX10_passes_95 : decode cX10_passes 95 = .ok (.iinc 1 1, 3) := by decide +kernel
theorem dX10_passes_98 : decode cX10_passes 98 = .ok (.goto (-65), 3) := by decide +kernel
theorem dX10_passes_101 : decode cX10_passes 101 = .ok (.return_, 1) := by decide +kernel
theorem bX10_passes_95 {K : KT} {g : GT} {cm sm : Nat} {cs : Nat × Nat} {c0 : Nat} {k33 : Int → St → Option (St)} {σ' : St} (hC : Ctx K g RX10 cX10_passes 2 2 cm sm) (hcs : cs.1 ≤ cm ∧ cs.2 ≤ sm) (h0 : isO 10 c0 = true) (hk33 : ∀ (x1 : Int) (σ : St), k33 x1 σ = some σ' → G K g 2 cs 33 [(0, vr c0), (1, vi x1)] [] (SH0, σ)) (hR : RetV K g cX10_passes 2 cs (SH0, σ')) : ∀ (x1 : Int) (σ : St), fX10_passes_95 c0 k33 x1 σ = some σ' → G K g 2 cs 95 [(0, vr c0), (1, vi x1)] [] (SH0, σ) := by
  intro x1 σ h
  unfold fX10_passes_95 at h
  refine g_iinc hC dX10_passes_95 1 rfl (Nat.le_of_ble_eq_true rfl) rfl ?_
  refine g_goto hC dX10_passes_98 (tgt := 33) (by decide) ?_
  exact g_pick [1, 0] rfl (hk33 _ _ h)
theorem bX10_passes_33 {K : KT} {g : GT} {cm sm : Nat} {cs : Nat × Nat} {c0 : Nat} {σ' : St} (hC : Ctx K g RX10 cX10_passes 2 2 cm sm) (hcs : cs.1 ≤ cm ∧ cs.2 ≤ sm) (h0 : isO 10 c0 = true) (hR : RetV K g cX10_passes 2 cs (SH0, σ')) : ∀ (n : Nat) (x1 : Int) (σ : St), fX10_passes_33 c0 n x1 σ = some σ' → G K g 2 cs 33 [(0, vr c0), (1, vi x1)] [] (SH0, σ) := by
  intro n
  induction n with
  | zero =>
    intro x1 σ h
    rw [fX10_passes_33.eq_1] at h
    cases h
  | succ n ih =>
    intro x1 σ h
    rw [fX10_passes_33.eq_2] at h
    refine g_iload_n hC dX10_passes_33 1 rfl rfl ?_
    refine g_aload_n hC dX10_passes_34 0 rfl rfl ?_
    refine g_geti hC dX10_passes_35 lfRX10_105 (isO_spec h0) (ft_10_5 h0) ?_
    refine g_icmp_ge hC dX10_passes_38 (tgt := 101) (by decide) (fun h9 => ?_) (fun h9 => ?_)
    · rw [if_pos h9] at h
      exact ret_v h hR dX10_passes_101
    · rw [if_neg h9] at h
      refine g_aload_n hC dX10_passes_41 0 rfl rfl ?_
      refine g_getr hC dX10_passes_42 lfRX10_24 (isO_spec h0) (ft_10_6 h0) ?_
      refine g_bipush hC dX10_passes_45 bp_7 ?_
      refine g_iload_n hC dX10_passes_47 1 rfl rfl ?_
      refine g_iadd hC dX10_passes_48 ?_
      refine g_aload_n hC dX10_passes_49 0 rfl rfl ?_
      refine g_getr hC dX10_passes_50 lfRX10_24 (isO_spec h0) (ft_10_6 h0) ?_
      refine g_bipush hC dX10_passes_53 bp_7 ?_
      refine g_iload_n hC dX10_passes_55 1 rfl rfl ?_
      refine g_iadd hC dX10_passes_56 ?_
      obtain ⟨b9, h⟩ := of_ite h
      refine g_iald hC dX10_passes_57 (isA_spec (rf_10_6 h0)) b9 ?_
      obtain ⟨⟨r1, s1⟩, e1, h⟩ := of_bind h
      try dsimp only at h
      refine s_callSi hC dX10_passes_58 (tX10_less e1) miX10_less msX10_less mlRX10_287 rfl rfl (Nat.le_of_ble_eq_true rfl) (Nat.le_of_ble_eq_true rfl) (Nat.le_of_ble_eq_true rfl) hcs ?_
      obtain ⟨b9, h⟩ := of_ite h
      refine g_iast hC dX10_passes_61 (isA_spec (rf_10_6 h0)) b9 ?_
      refine g_aload_n hC dX10_passes_62 0 rfl rfl ?_
      refine g_getr hC dX10_passes_63 lfRX10_24 (isO_spec h0) (ft_10_6 h0) ?_
      refine g_bipush hC dX10_passes_66 bp_7 ?_
      refine g_iload_n hC dX10_passes_68 1 rfl rfl ?_
      refine g_iadd hC dX10_passes_69 ?_
      obtain ⟨b9, h⟩ := of_ite h
      refine g_iald hC dX10_passes_70 (isA_spec (rf_10_6 h0)) b9 ?_
      refine g_if_ne hC dX10_passes_71 (tgt := 95) (by decide) (fun h9 => ?_) (fun h9 => ?_)
      · rw [if_neg h9] at h
        exact g_pick [0, 1] rfl (bX10_passes_95 hC hcs h0 ih hR _ _ h)
      · rw [if_pos h9] at h
        refine g_aload_n hC dX10_passes_74 0 rfl rfl ?_
        refine g_getr hC dX10_passes_75 lfRX10_24 (isO_spec h0) (ft_10_6 h0) ?_
        refine g_bipush hC dX10_passes_78 bp_14 ?_
        refine g_iload_n hC dX10_passes_80 1 rfl rfl ?_
        refine g_iadd hC dX10_passes_81 ?_
        refine g_aload_n hC dX10_passes_82 0 rfl rfl ?_
        refine g_getr hC dX10_passes_83 lfRX10_24 (isO_spec h0) (ft_10_6 h0) ?_
        refine g_bipush hC dX10_passes_86 bp_14 ?_
        refine g_iload_n hC dX10_passes_88 1 rfl rfl ?_
        refine g_iadd hC dX10_passes_89 ?_
        obtain ⟨b9, h⟩ := of_ite h
        refine g_iald hC dX10_passes_90 (isA_spec (rf_10_6 h0)) b9 ?_
        obtain ⟨⟨r2, s2⟩, e2, h⟩ := of_bind h
        try dsimp only at h
        refine s_callSi hC dX10_passes_91 (tX10_less e2) miX10_less msX10_less mlRX10_287 rfl rfl (Nat.le_of_ble_eq_true rfl) (Nat.le_of_ble_eq_true rfl) (Nat.le_of_ble_eq_true rfl) hcs ?_
        obtain ⟨b9, h⟩ := of_ite h
        refine g_iast hC dX10_passes_94 (isA_spec (rf_10_6 h0)) b9 ?_
        exact g_pick [0, 1] rfl (bX10_passes_95 hC hcs h0 ih hR _ _ h)
theorem bX10_passes_2 {K : KT} {g : GT} {cm sm : Nat} {cs : Nat × Nat} {c0 : Nat} {σ' : St} (hC : Ctx K g RX10 cX10_passes 2 2 cm sm) (hcs : cs.1 ≤ cm ∧ cs.2 ≤ sm) (h0 : isO 10 c0 = true) (hR : RetV K g cX10_passes 2 cs (SH0, σ')) : ∀ (n : Nat) (x1 : Int) (σ : St), fX10_passes_2 c0 n x1 σ = some σ' → G K g 2 cs 2 [(0, vr c0), (1, vi x1)] [] (SH0, σ) := by
  intro n
  induction n with
  | zero =>
    intro x1 σ h
    rw [fX10_passes_2.eq_1] at h
    cases h
  | succ n ih =>
    intro x1 σ h
    rw [fX10_passes_2.eq_2] at h
    refine g_iload_n hC dX10_passes_2 1 rfl rfl ?_
    refine g_aload_n hC dX10_passes_3 0 rfl rfl ?_
    refine g_geti hC dX10_passes_4 lfRX10_97 (isO_spec h0) (ft_10_0 h0) ?_
    refine g_icmp_ge hC dX10_passes_7 (tgt := 31) (by decide) (fun h9 => ?_) (fun h9 => ?_)
    · rw [if_pos h9] at h
      refine g_iconst hC dX10_passes_31 ok_0 ?_
      refine g_istore_n hC dX10_passes_32 rfl (Nat.le_of_ble_eq_true rfl) rfl ?_
      exact g_pick [1, 0] rfl (bX10_passes_33 hC hcs h0 hR _ _ _ h)
    · rw [if_neg h9] at h
      refine g_aload_n hC dX10_passes_10 0 rfl rfl ?_
      refine g_getr hC dX10_passes_11 lfRX10_21 (isO_spec h0) (ft_10_4 h0) ?_
      refine g_iload_n hC dX10_passes_14 1 rfl rfl ?_
      refine g_aload_n hC dX10_passes_15 0 rfl rfl ?_
      refine g_getr hC dX10_passes_16 lfRX10_21 (isO_spec h0) (ft_10_4 h0) ?_
      refine g_iload_n hC dX10_passes_19 1 rfl rfl ?_
      obtain ⟨b9, h⟩ := of_ite h
      refine g_iald hC dX10_passes_20 (isA_spec (rf_10_4 h0)) b9 ?_
      obtain ⟨⟨r1, s1⟩, e1, h⟩ := of_bind h
      try dsimp only at h
      refine s_callSi hC dX10_passes_21 (tX10_less e1) miX10_less msX10_less mlRX10_287 rfl rfl (Nat.le_of_ble_eq_true rfl) (Nat.le_of_ble_eq_true rfl) (Nat.le_of_ble_eq_true rfl) hcs ?_
      obtain ⟨b9, h⟩ := of_ite h
      refine g_iast hC dX10_passes_24 (isA_spec (rf_10_4 h0)) b9 ?_
      refine g_iinc hC dX10_passes_25 1 rfl (Nat.le_of_ble_eq_true rfl) rfl ?_
      refine g_goto hC dX10_passes_28 (tgt := 2) (by decide) ?_
      exact g_pick [1, 0] rfl (ih _ _ h)
theorem bX10_passes_0 {K : KT} {g : GT} {cm sm : Nat} {cs : Nat × Nat} {c0 : Nat} {σ' : St} (hC : Ctx K g RX10 cX10_passes 2 2 cm sm) (hcs : cs.1 ≤ cm ∧ cs.2 ≤ sm) (h0 : isO 10 c0 = true) (hR : RetV K g cX10_passes 2 cs (SH0, σ')) : ∀ (σ : St), fX10_passes c0 σ = some σ' → G K g 2 cs 0 [(0, vr c0)] [] (SH0, σ) := by
  intro σ h
  unfold fX10_passes at h
  refine g_iconst hC dX10_passes_0 ok_0 ?_
  refine g_istore_n hC dX10_passes_1 rfl (Nat.le_of_ble_eq_true rfl) rfl ?_
  exact g_pick [1, 0] rfl (bX10_passes_2 hC hcs h0 hR _ _ _ h)
theorem tX10_passes {l : Launch} {g : GT} {c0 : Nat} {σ σ' : St} (h0 : isO 10 c0 = true) (h : fX10_passes c0 σ = some σ') : Cn l g yX10_passes cX10_passes 2 none 2 0 0 [vr c0] (SH0, σ) none (SH0, σ') :=
  Cn.ofV (by decide) (Nat.le_of_ble_eq_true rfl) (fun K e hC hR => (bX10_passes_0 hC ⟨Nat.le_refl _, Nat.le_refl _⟩ h0 hR _ h))
theorem dX10_later_0 : decode cX10_later 0 = .ok (.iload_n 1, 1) := by decide +kernel
theorem dX10_later_1 : decode cX10_later 1 = .ok (.iconst 0, 1) := by decide +kernel
theorem dX10_later_2 : decode cX10_later 2 = .ok (.bipush 60, 2) := by decide +kernel
theorem dX10_later_4 : decode cX10_later 4 = .ok (.invokestatic 101, 3) := by decide +kernel
theorem dX10_later_7 : decode cX10_later 7 = .ok (.ifCond .eq 31, 3) := by decide +kernel
theorem dX10_later_10 : decode cX10_later 10 = .ok (.iload_n 3, 1) := by decide +kernel
theorem dX10_later_11 : decode cX10_later 11 = .ok (.iconst 0, 1) := by decide +kernel
theorem dX10_later_12 : decode cX10_later 12 = .ok (.iconst 2, 1) := by decide +kernel
theorem dX10_later_13 : decode cX10_later 13 = .ok (.invokestatic 101, 3) := by decide +kernel
theorem dX10_later_16 : decode cX10_later 16 = .ok (.ifCond .eq 22, 3) := by decide +kernel
theorem dX10_later_19 : decode cX10_later 19 = .ok (.iload_n 3, 1) := by decide +kernel
theorem dX10_later_20 : decode cX10_later 20 = .ok (.ifCond .ne 10, 3) := by decide +kernel
theorem dX10_later_23 : decode cX10_later 23 = .ok (.iload_n 2, 1) := by decide +kernel
theorem dX10_later_24 : decode cX10_later 24 = .ok (.ifCond .ne 14, 3) := by decide +kernel
theorem dX10_later_27 : decode cX10_later 27 = .ok (.goto 13, 3) := by decide +kernel
theorem dX10_later_30 : decode cX10_later 30 = .ok (.aload_n 0, 1) := by decide +kernel
theorem dX10_later_31 : decode cX10_later 31 = .ok (.iload_n 2, 1) := by decide +kernel
theorem dX10_later_32 : decode cX10_later 32 = .ok (.invokevirtual 125, 3) := by decide +kernel
theorem dX10_later_35 : decode cX10_later 35 = .ok (.ifCond .ne 5, 3) := by decide +kernel
theorem dX10_later_38 : decode cX10_later 38 = .ok (.iconst (-1), 1) := by decide +kernel
theorem dX10_later_39 : decode cX10_later 39 = .ok (.ireturn, 1) := by decide +kernel
theorem dX10_later_40 : decode cX10_later 40 = .ok (.aload_n 0, 1) := by decide +kernel
theorem dX10_later_41 : decode cX10_later 41 = .ok (.aload_n 0, 1) := by decide +kernel
theorem dX10_later_42 : decode cX10_later 42 = .ok (.getfield 88, 3) := by decide +kernel
theorem dX10_later_45 : decode cX10_later 45 = .ok (.invokevirtual 258, 3) := by decide +kernel
theorem dX10_later_48 : decode cX10_later 48 = .ok (.iconst 0, 1) := by decide +kernel
theorem dX10_later_49 : decode cX10_later 49 = .ok (.istore 4, 2) := by decide +kernel
theorem dX10_later_51 : decode cX10_later 51 = .ok (.iload 4, 2) := by decide +kernel
theorem dX10_later_53 : decode cX10_later 53 = .ok (.iload_n 1, 1) := by decide +kernel
theorem dX10_later_54 : decode cX10_later 54 = .ok (.if_icmp .ge 13, 3) := by decide +kernel
theorem dX10_later_57 : decode cX10_later 57 = .ok (.aload_n 0, 1) := by decide +kernel
theorem dX10_later_58 : decode cX10_later 58 = .ok (.invokevirtual 290, 3) := by decide +kernel
theorem dX10_later_61 : decode cX10_later 61 = .ok (.iinc 4 1, 3) := by decide +kernel
theorem dX10_later_64 : decode cX10_later 64 = .ok (.goto (-13), 3) := by decide +kernel
theorem dX10_later_67 : decode cX10_later 67 = .ok (.iload_n 3, 1) := by decide +kernel
theorem dX10_later_68 : decode cX10_later 68 = .ok (.ifCond .ne 10, 3) := by decide +kernel
theorem dX10_later_71 : decode cX10_later 71 = .ok (.aload_n 0, 1) := by decide +kernel
theorem dX10_later_72 : decode cX10_later 72 = .ok (.invokevirtual 293, 3) := by decide +kernel
theorem dX10_later_75 : decode cX10_later 75 = .ok (.goto 14, 3) := by decide +kernel
theorem dX10_later_78 : decode cX10_later 78 = .ok (.aload_n 0, 1) := by decide +kernel
theorem dX10_later_79 : decode cX10_later 79 = .ok (.getfield 24, 3) := by decide +kernel
theorem dX10_later_82 : decode cX10_later 82 = .ok (.bipush 7, 2) := by decide +kernel
theorem dX10_later_84 : decode cX10_later 84 = .ok (.iload_n 3, 1) := by decide +kernel
theorem dX10_later_85 : decode cX10_later 85 = .ok (.imul, 1) := by decide +kernel
theorem dX10_later_86 : decode cX10_later 86 = .ok (.iload_n 2, 1) := by decide +kernel
theorem dX10_later_87 : decode cX10_later 87 = .ok (.iadd, 1) := by decide +kernel
theorem dX10_later_88 : decode cX10_later 88 = .ok (.iaload, 1) := by decide +kernel
theorem dX10_later_89 : decode cX10_later 89 = .ok (.istore 4, 2) := by decide +kernel
theorem dX10_later_91 : decode cX10_later 91 = .ok (.aload_n 0, 1) := by decide +kernel
theorem dX10_later_92 : decode cX10_later 92 = .ok (.invokevirtual 265, 3) := by decide +kernel
theorem dX10_later_95 : decode cX10_later 95 = .ok (.iload 4, 2) := by decide +kernel
theorem dX10_later_97 : decode cX10_later 97 = .ok (.ireturn, 1) := by decide +kernel
theorem bX10_later_89 {K : KT} {g : GT} {cm sm : Nat} {cs : Nat × Nat} {c0 : Nat} {x1 : Int} {x2 : Int} {x3 : Int} {r : Int} {σ' : St} (hC : Ctx K g RX10 cX10_later 5 3 cm sm) (hcs : cs.1 ≤ cm ∧ cs.2 ≤ sm) (h0 : isO 10 c0 = true) (hR : RetI K g cX10_later 5 cs r (SH0, σ')) : ∀ (y0 : Int) (σ : St), fX10_later_89 c0 x1 x2 x3 y0 σ = some (r, σ') → G K g 5 cs 89 [(0, vr c0), (1, vi x1), (2, vi x2), (3, vi x3)] [vi y0] (SH0, σ) := by
  intro y0 σ h
  unfold fX10_later_89 at h
  refine g_istore hC dX10_later_89 (Nat.le_of_ble_eq_true rfl) rfl ?_
  refine g_aload_n hC dX10_later_91 1 rfl rfl ?_
  obtain ⟨s1, e1, h⟩ := of_bind h
  try dsimp only at h
  refine s_callVv hC dX10_later_92 (tX10_laysBack_ h0 e1) miX10_laysBack_ mvX10_laysBack_ mlRX10_265 (isO_spec h0) vc_10 rfl rfl (Nat.le_of_ble_eq_true rfl) (Nat.le_of_ble_eq_true rfl) (Nat.le_of_ble_eq_true rfl) hcs ?_
  refine g_iload hC dX10_later_95 0 rfl ?_
  exact ret_i h hR dX10_later_97
theorem bX10_later_51 {K : KT} {g : GT} {cm sm : Nat} {cs : Nat × Nat} {c0 : Nat} {x1 : Int} {x2 : Int} {x3 : Int} {r : Int} {σ' : St} (hC : Ctx K g RX10 cX10_later 5 3 cm sm) (hcs : cs.1 ≤ cm ∧ cs.2 ≤ sm) (h0 : isO 10 c0 = true) (hR : RetI K g cX10_later 5 cs r (SH0, σ')) : ∀ (n : Nat) (x4 : Int) (σ : St), fX10_later_51 c0 x1 x2 x3 n x4 σ = some (r, σ') → G K g 5 cs 51 [(0, vr c0), (1, vi x1), (2, vi x2), (3, vi x3), (4, vi x4)] [] (SH0, σ) := by
  intro n
  induction n with
  | zero =>
    intro x4 σ h
    rw [fX10_later_51.eq_1] at h
    cases h
  | succ n ih =>
    intro x4 σ h
    rw [fX10_later_51.eq_2] at h
    refine g_iload hC dX10_later_51 4 rfl ?_
    refine g_iload_n hC dX10_later_53 1 rfl rfl ?_
    refine g_icmp_ge hC dX10_later_54 (tgt := 67) (by decide) (fun h9 => ?_) (fun h9 => ?_)
    · rw [if_pos h9] at h
      refine g_iload_n hC dX10_later_67 3 rfl rfl ?_
      refine g_if_ne hC dX10_later_68 (tgt := 78) (by decide) (fun h9 => ?_) (fun h9 => ?_)
      · rw [if_neg h9] at h
        refine g_aload_n hC dX10_later_78 0 rfl rfl ?_
        refine g_getr hC dX10_later_79 lfRX10_24 (isO_spec h0) (ft_10_6 h0) ?_
        refine g_bipush hC dX10_later_82 bp_7 ?_
        refine g_iload_n hC dX10_later_84 3 rfl rfl ?_
        refine g_imul hC dX10_later_85 ?_
        refine g_iload_n hC dX10_later_86 2 rfl rfl ?_
        refine g_iadd hC dX10_later_87 ?_
        obtain ⟨b9, h⟩ := of_ite h
        refine g_iald hC dX10_later_88 (isA_spec (rf_10_6 h0)) b9 ?_
        exact g_pick [0, 1, 2, 3] rfl (bX10_later_89 hC hcs h0 hR _ _ h)
      · rw [if_pos h9] at h
        refine g_aload_n hC dX10_later_71 0 rfl rfl ?_
        obtain ⟨⟨r1, s1⟩, e1, h⟩ := of_bind h
        try dsimp only at h
        refine s_callVi hC dX10_later_72 (tX10_missedNow h0 e1) miX10_missedNow mvX10_missedNow mlRX10_293 (isO_spec h0) vc_10 rfl rfl (Nat.le_of_ble_eq_true rfl) (Nat.le_of_ble_eq_true rfl) (Nat.le_of_ble_eq_true rfl) hcs ?_
        refine g_goto hC dX10_later_75 (tgt := 89) (by decide) ?_
        exact g_pick [0, 1, 2, 3] rfl (bX10_later_89 hC hcs h0 hR _ _ h)
    · rw [if_neg h9] at h
      refine g_aload_n hC dX10_later_57 0 rfl rfl ?_
      obtain ⟨s2, e2, h⟩ := of_bind h
      try dsimp only at h
      refine s_callVv hC dX10_later_58 (tX10_passes h0 e2) miX10_passes mvX10_passes mlRX10_290 (isO_spec h0) vc_10 rfl rfl (Nat.le_of_ble_eq_true rfl) (Nat.le_of_ble_eq_true rfl) (Nat.le_of_ble_eq_true rfl) hcs ?_
      refine g_iinc hC dX10_later_61 4 rfl (Nat.le_of_ble_eq_true rfl) rfl ?_
      refine g_goto hC dX10_later_64 (tgt := 51) (by decide) ?_
      exact g_pick [1, 2, 3, 4, 0] rfl (ih _ _ h)
theorem bX10_later_40 {K : KT} {g : GT} {cm sm : Nat} {cs : Nat × Nat} {c0 : Nat} {x1 : Int} {x2 : Int} {x3 : Int} {r : Int} {σ' : St} (hC : Ctx K g RX10 cX10_later 5 3 cm sm) (hcs : cs.1 ≤ cm ∧ cs.2 ≤ sm) (h0 : isO 10 c0 = true) (hR : RetI K g cX10_later 5 cs r (SH0, σ')) : ∀ (σ : St), fX10_later_40 c0 x1 x2 x3 σ = some (r, σ') → G K g 5 cs 40 [(0, vr c0), (1, vi x1), (2, vi x2), (3, vi x3)] [] (SH0, σ) := by
  intro σ h
  unfold fX10_later_40 at h
  refine g_aload_n hC dX10_later_40 0 rfl rfl ?_
  refine g_aload_n hC dX10_later_41 0 rfl rfl ?_
  refine g_getr hC dX10_later_42 lfRX10_88 (isO_spec h0) (ft_10_41 h0) ?_
  obtain ⟨s1, e1, h⟩ := of_bind h
  try dsimp only at h
  refine s_callVv hC dX10_later_45 (tX10_keeps h0 (rf_10_41 h0) e1) miX10_keeps mvX10_keeps mlRX10_258 (isO_spec h0) vc_10 rfl rfl (Nat.le_of_ble_eq_true rfl) (Nat.le_of_ble_eq_true rfl) (Nat.le_of_ble_eq_true rfl) hcs ?_
  refine g_iconst hC dX10_later_48 ok_0 ?_
  refine g_istore hC dX10_later_49 (Nat.le_of_ble_eq_true rfl) rfl ?_
  exact g_pick [1, 2, 3, 4, 0] rfl (bX10_later_51 hC hcs h0 hR _ _ _ h)
theorem bX10_later_0 {K : KT} {g : GT} {cm sm : Nat} {cs : Nat × Nat} {c0 : Nat} {x1 : Int} {x2 : Int} {x3 : Int} {r : Int} {σ' : St} (hC : Ctx K g RX10 cX10_later 5 3 cm sm) (hcs : cs.1 ≤ cm ∧ cs.2 ≤ sm) (h0 : isO 10 c0 = true) (hR : RetI K g cX10_later 5 cs r (SH0, σ')) : ∀ (σ : St), fX10_later c0 x1 x2 x3 σ = some (r, σ') → G K g 5 cs 0 [(0, vr c0), (1, vi x1), (2, vi x2), (3, vi x3)] [] (SH0, σ) := by
  intro σ h
  unfold fX10_later at h
  refine g_iload_n hC dX10_later_0 1 rfl rfl ?_
  refine g_iconst hC dX10_later_1 ok_0 ?_
  refine g_bipush hC dX10_later_2 bp_60 ?_
  obtain ⟨⟨r1, s1⟩, e1, h⟩ := of_bind h
  try dsimp only at h
  refine s_callSi hC dX10_later_4 (tX10_within e1) miX10_within msX10_within mlRX10_101 rfl rfl (Nat.le_of_ble_eq_true rfl) (Nat.le_of_ble_eq_true rfl) (Nat.le_of_ble_eq_true rfl) hcs ?_
  refine g_if_eq hC dX10_later_7 (tgt := 38) (by decide) (fun h9 => ?_) (fun h9 => ?_)
  · rw [if_pos h9] at h
    refine g_iconst hC dX10_later_38 ok_m1 ?_
    exact ret_i h hR dX10_later_39
  · rw [if_neg h9] at h
    refine g_iload_n hC dX10_later_10 3 rfl rfl ?_
    refine g_iconst hC dX10_later_11 ok_0 ?_
    refine g_iconst hC dX10_later_12 ok_2 ?_
    obtain ⟨⟨r2, s2⟩, e2, h⟩ := of_bind h
    try dsimp only at h
    refine s_callSi hC dX10_later_13 (tX10_within e2) miX10_within msX10_within mlRX10_101 rfl rfl (Nat.le_of_ble_eq_true rfl) (Nat.le_of_ble_eq_true rfl) (Nat.le_of_ble_eq_true rfl) hcs ?_
    refine g_if_eq hC dX10_later_16 (tgt := 38) (by decide) (fun h9 => ?_) (fun h9 => ?_)
    · rw [if_pos h9] at h
      refine g_iconst hC dX10_later_38 ok_m1 ?_
      exact ret_i h hR dX10_later_39
    · rw [if_neg h9] at h
      refine g_iload_n hC dX10_later_19 3 rfl rfl ?_
      refine g_if_ne hC dX10_later_20 (tgt := 30) (by decide) (fun h9 => ?_) (fun h9 => ?_)
      · rw [if_neg h9] at h
        refine g_aload_n hC dX10_later_30 0 rfl rfl ?_
        refine g_iload_n hC dX10_later_31 2 rfl rfl ?_
        obtain ⟨⟨r3, s3⟩, e3, h⟩ := of_bind h
        try dsimp only at h
        refine s_callVi hC dX10_later_32 (tX10_isOne h0 e3) miX10_isOne mvX10_isOne mlRX10_125 (isO_spec h0) vc_10 rfl rfl (Nat.le_of_ble_eq_true rfl) (Nat.le_of_ble_eq_true rfl) (Nat.le_of_ble_eq_true rfl) hcs ?_
        refine g_if_ne hC dX10_later_35 (tgt := 40) (by decide) (fun h9 => ?_) (fun h9 => ?_)
        · rw [if_neg h9] at h
          exact g_pick [0, 1, 2, 3] rfl (bX10_later_40 hC hcs h0 hR _ h)
        · rw [if_pos h9] at h
          refine g_iconst hC dX10_later_38 ok_m1 ?_
          exact ret_i h hR dX10_later_39
      · rw [if_pos h9] at h
        refine g_iload_n hC dX10_later_23 2 rfl rfl ?_
        refine g_if_ne hC dX10_later_24 (tgt := 38) (by decide) (fun h9 => ?_) (fun h9 => ?_)
        · rw [if_neg h9] at h
          refine g_iconst hC dX10_later_38 ok_m1 ?_
          exact ret_i h hR dX10_later_39
        · rw [if_pos h9] at h
          refine g_goto hC dX10_later_27 (tgt := 40) (by decide) ?_
          exact g_pick [0, 1, 2, 3] rfl (bX10_later_40 hC hcs h0 hR _ h)
theorem tX10_later {l : Launch} {g : GT} {c0 : Nat} {x1 : Int} {x2 : Int} {x3 : Int} {σ σ' : St} {r : Int} (h0 : isO 10 c0 = true) (h : fX10_later c0 x1 x2 x3 σ = some (r, σ')) : Cn l g yX10_later cX10_later 5 (some .int) 3 0 0 [vr c0, vi x1, vi x2, vi x3] (SH0, σ) (some (vi r)) (SH0, σ') :=
  Cn.ofI (by decide) (Nat.le_of_ble_eq_true rfl) (fun K e hC hR => (bX10_later_0 hC ⟨Nat.le_refl _, Nat.le_refl _⟩ h0 hR _ h))
