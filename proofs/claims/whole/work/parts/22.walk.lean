/-! Walks (printed by my program). -/
theorem dX10_forSale_0 : decode cX10_forSale 0 = .ok (.iconst 0, 1) := by decide +kernel
theorem dX10_forSale_1 : decode cX10_forSale 1 = .ok (.istore_n 1, 1) := by decide +kernel
theorem dX10_forSale_2 : decode cX10_forSale 2 = .ok (.iconst 0, 1) := by decide +kernel
theorem dX10_forSale_3 : decode cX10_forSale 3 = .ok (.istore_n 2, 1) := by decide +kernel
theorem dX10_forSale_4 : decode cX10_forSale 4 = .ok (.iload_n 2, 1) := by decide +kernel
theorem dX10_forSale_5 : decode cX10_forSale 5 = .ok (.aload_n 0, 1) := by decide +kernel
theorem dX10_forSale_6 : decode cX10_forSale 6 = .ok (.getfield 97, 3) := by decide +kernel
theorem dX10_forSale_9 : decode cX10_forSale 9 = .ok (.if_icmp .ge 23, 3) := by decide +kernel
theorem dX10_forSale_12 : decode cX10_forSale 12 = .ok (.aload_n 0, 1) := by decide +kernel
theorem dX10_forSale_13 : decode cX10_forSale 13 = .ok (.iload_n 2, 1) := by decide +kernel
theorem dX10_forSale_14 : decode cX10_forSale 14 = .ok (.invokevirtual 245, 3) := by decide +kernel
theorem dX10_forSale_17 : decode cX10_forSale 17 = .ok (.ifCond .eq 9, 3) := by decide +kernel
theorem dX10_forSale_20 : decode cX10_forSale 20 = .ok (.iload_n 1, 1) := by decide +kernel
theorem dX10_forSale_21 : decode cX10_forSale 21 = .ok (.iconst 1, 1) := by decide +kernel
theorem dX10_forSale_22 : decode cX10_forSale 22 = .ok (.iload_n 2, 1) := by decide +kernel
theorem dX10_forSale_23 : decode cX10_forSale 23 = .ok (.ishl, 1) := by decide +kernel
theorem dX10_forSale_24 : decode cX10_forSale 24 = .ok (.ior, 1) := by decide +kernel
theorem dX10_forSale_25 : decode cX10_forSale 25 = .ok (.istore_n 1, 1) := by decide +kernel
theorem dX10_forSale_26 : decode cX10_forSale 26 = .ok (.iinc 2 1, 3) := by decide +kernel
theorem dX10_forSale_29 : decode cX10_forSale 29 = .ok (.goto (-25), 3) := by decide +kernel
theorem dX10_forSale_32 : decode cX10_forSale 32 = .ok (.iload_n 1, 1) := by decide +kernel
theorem dX10_forSale_33 : decode cX10_forSale 33 = .ok (.ireturn, 1) := by decide +kernel
theorem bX10_forSale_26 {K : KT} {g : GT} {cm sm : Nat} {cs : Nat × Nat} {c0 : Nat} {k4 : Int → Int → St → Option (Int × St)} {r : Int} {σ' : St} (hC : Ctx K g RX10 cX10_forSale 3 1 cm sm) (hcs : cs.1 ≤ cm ∧ cs.2 ≤ sm) (h0 : isO 10 c0 = true) (hk4 : ∀ (x1 : Int) (x2 : Int) (σ : St), k4 x1 x2 σ = some (r, σ') → G K g 3 cs 4 [(0, vr c0), (1, vi x1), (2, vi x2)] [] (SH0, σ)) (hR : RetI K g cX10_forSale 3 cs r (SH0, σ')) : ∀ (x1 : Int) (x2 : Int) (σ : St), fX10_forSale_26 c0 k4 x1 x2 σ = some (r, σ') → G K g 3 cs 26 [(0, vr c0), (1, vi x1), (2, vi x2)] [] (SH0, σ) := by
  intro x1 x2 σ h
  unfold fX10_forSale_26 at h
  refine g_iinc hC dX10_forSale_26 2 rfl (Nat.le_of_ble_eq_true rfl) rfl ?_
  refine g_goto hC dX10_forSale_29 (tgt := 4) (by decide) ?_
  exact g_pick [1, 2, 0] rfl (hk4 _ _ _ h)
theorem bX10_forSale_4 {K : KT} {g : GT} {cm sm : Nat} {cs : Nat × Nat} {c0 : Nat} {r : Int} {σ' : St} (hC : Ctx K g RX10 cX10_forSale 3 1 cm sm) (hcs : cs.1 ≤ cm ∧ cs.2 ≤ sm) (h0 : isO 10 c0 = true) (hR : RetI K g cX10_forSale 3 cs r (SH0, σ')) : ∀ (n : Nat) (x1 : Int) (x2 : Int) (σ : St), fX10_forSale_4 c0 n x1 x2 σ = some (r, σ') → G K g 3 cs 4 [(0, vr c0), (1, vi x1), (2, vi x2)] [] (SH0, σ) := by
  intro n
  induction n with
  | zero =>
    intro x1 x2 σ h
    rw [fX10_forSale_4.eq_1] at h
    cases h
  | succ n ih =>
    intro x1 x2 σ h
    rw [fX10_forSale_4.eq_2] at h
    refine g_iload_n hC dX10_forSale_4 2 rfl rfl ?_
    refine g_aload_n hC dX10_forSale_5 0 rfl rfl ?_
    refine g_geti hC dX10_forSale_6 lfRX10_97 (isO_spec h0) (ft_10_0 h0) ?_
    refine g_icmp_ge hC dX10_forSale_9 (tgt := 32) (by decide) (fun h9 => ?_) (fun h9 => ?_)
    · rw [if_pos h9] at h
      refine g_iload_n hC dX10_forSale_32 1 rfl rfl ?_
      exact ret_i h hR dX10_forSale_33
    · rw [if_neg h9] at h
      refine g_aload_n hC dX10_forSale_12 0 rfl rfl ?_
      refine g_iload_n hC dX10_forSale_13 2 rfl rfl ?_
      obtain ⟨⟨r1, s1⟩, e1, h⟩ := of_bind h
      try dsimp only at h
      refine s_callVi hC dX10_forSale_14 (tX10_isForSale h0 e1) miX10_isForSale mvX10_isForSale mlRX10_245 (isO_spec h0) vc_10 rfl rfl (Nat.le_of_ble_eq_true rfl) (Nat.le_of_ble_eq_true rfl) (Nat.le_of_ble_eq_true rfl) hcs ?_
      refine g_if_eq hC dX10_forSale_17 (tgt := 26) (by decide) (fun h9 => ?_) (fun h9 => ?_)
      · rw [if_pos h9] at h
        exact g_pick [0, 1, 2] rfl (bX10_forSale_26 hC hcs h0 ih hR _ _ _ h)
      · rw [if_neg h9] at h
        refine g_iload_n hC dX10_forSale_20 1 rfl rfl ?_
        refine g_iconst hC dX10_forSale_21 ok_1 ?_
        refine g_iload_n hC dX10_forSale_22 2 rfl rfl ?_
        refine g_ishl hC dX10_forSale_23 ?_
        refine g_ior hC dX10_forSale_24 ?_
        refine g_istore_n hC dX10_forSale_25 rfl (Nat.le_of_ble_eq_true rfl) rfl ?_
        exact g_pick [1, 0, 2] rfl (bX10_forSale_26 hC hcs h0 ih hR _ _ _ h)
theorem bX10_forSale_0 {K : KT} {g : GT} {cm sm : Nat} {cs : Nat × Nat} {c0 : Nat} {r : Int} {σ' : St} (hC : Ctx K g RX10 cX10_forSale 3 1 cm sm) (hcs : cs.1 ≤ cm ∧ cs.2 ≤ sm) (h0 : isO 10 c0 = true) (hR : RetI K g cX10_forSale 3 cs r (SH0, σ')) : ∀ (σ : St), fX10_forSale c0 σ = some (r, σ') → G K g 3 cs 0 [(0, vr c0)] [] (SH0, σ) := by
  intro σ h
  unfold fX10_forSale at h
  refine g_iconst hC dX10_forSale_0 ok_0 ?_
  refine g_istore_n hC dX10_forSale_1 rfl (Nat.le_of_ble_eq_true rfl) rfl ?_
  refine g_iconst hC dX10_forSale_2 ok_0 ?_
  refine g_istore_n hC dX10_forSale_3 rfl (Nat.le_of_ble_eq_true rfl) rfl ?_
  exact g_pick [2, 1, 0] rfl (bX10_forSale_4 hC hcs h0 hR _ _ _ _ h)
theorem tX10_forSale {l : Launch} {g : GT} {c0 : Nat} {σ σ' : St} {r : Int} (h0 : isO 10 c0 = true) (h : fX10_forSale c0 σ = some (r, σ')) : Cn l g yX10_forSale cX10_forSale 3 (some .int) 1 0 0 [vr c0] (SH0, σ) (some (vi r)) (SH0, σ') :=
  Cn.ofI (by decide) (Nat.le_of_ble_eq_true rfl) (fun K e hC hR => (bX10_forSale_0 hC ⟨Nat.le_refl _, Nat.le_refl _⟩ h0 hR _ h))
theorem dX10_orders_0 : decode cX10_orders 0 = .ok (.iload_n 2, 1) := by decide +kernel
theorem dX10_orders_1 : decode cX10_orders 1 = .ok (.ifCond .ne 95, 3) := by decide +kernel
theorem dX10_orders_4 : decode cX10_orders 4 = .ok (.aload_n 0, 1) := by decide +kernel
theorem dX10_orders_5 : decode cX10_orders 5 = .ok (.aload_n 0, 1) := by decide +kernel
theorem dX10_orders_6 : decode cX10_orders 6 = .ok (.getfield 88, 3) := by decide +kernel
theorem dX10_orders_9 : decode cX10_orders 9 = .ok (.invokevirtual 258, 3) := by decide +kernel
theorem dX10_orders_12 : decode cX10_orders 12 = .ok (.iconst 0, 1) := by decide +kernel
theorem dX10_orders_13 : decode cX10_orders 13 = .ok (.istore 4, 2) := by decide +kernel
theorem dX10_orders_15 : decode cX10_orders 15 = .ok (.iload 4, 2) := by decide +kernel
theorem dX10_orders_17 : decode cX10_orders 17 = .ok (.iload_n 1, 1) := by decide +kernel
theorem dX10_orders_18 : decode cX10_orders 18 = .ok (.if_icmp .ge 21, 3) := by decide +kernel
theorem dX10_orders_21 : decode cX10_orders 21 = .ok (.aload_n 0, 1) := by decide +kernel
theorem dX10_orders_22 : decode cX10_orders 22 = .ok (.aload_n 0, 1) := by decide +kernel
theorem dX10_orders_23 : decode cX10_orders 23 = .ok (.getfield 91, 3) := by decide +kernel
theorem dX10_orders_26 : decode cX10_orders 26 = .ok (.iload 4, 2) := by decide +kernel
theorem dX10_orders_28 : decode cX10_orders 28 = .ok (.iaload, 1) := by decide +kernel
theorem dX10_orders_29 : decode cX10_orders 29 = .ok (.invokevirtual 262, 3) := by decide +kernel
theorem dX10_orders_32 : decode cX10_orders 32 = .ok (.pop, 1) := by decide +kernel
theorem dX10_orders_33 : decode cX10_orders 33 = .ok (.iinc 4 1, 3) := by decide +kernel
theorem dX10_orders_36 : decode cX10_orders 36 = .ok (.goto (-21), 3) := by decide +kernel
theorem dX10_orders_39 : decode cX10_orders 39 = .ok (.aload_n 0, 1) := by decide +kernel
theorem dX10_orders_40 : decode cX10_orders 40 = .ok (.iload_n 3, 1) := by decide +kernel
theorem dX10_orders_41 : decode cX10_orders 41 = .ok (.invokevirtual 230, 3) := by decide +kernel
theorem dX10_orders_44 : decode cX10_orders 44 = .ok (.istore 4, 2) := by decide +kernel
theorem dX10_orders_46 : decode cX10_orders 46 = .ok (.aload_n 0, 1) := by decide +kernel
theorem dX10_orders_47 : decode cX10_orders 47 = .ok (.invokevirtual 265, 3) := by decide +kernel
theorem dX10_orders_50 : decode cX10_orders 50 = .ok (.iload 4, 2) := by decide +kernel
theorem dX10_orders_52 : decode cX10_orders 52 = .ok (.aload_n 0, 1) := by decide +kernel
theorem dX10_orders_53 : decode cX10_orders 53 = .ok (.getfield 267, 3) := by decide +kernel
theorem dX10_orders_56 : decode cX10_orders 56 = .ok (.if_icmp .gt 4, 3) := by decide +kernel
theorem dX10_orders_59 : decode cX10_orders 59 = .ok (.return_, 1) := by decide +kernel
theorem dX10_orders_60 : decode cX10_orders 60 = .ok (.aload_n 0, 1) := by decide +kernel
theorem dX10_orders_61 : decode cX10_orders 61 = .ok (.iload 4, 2) := by decide +kernel
theorem dX10_orders_63 : decode cX10_orders 63 = .ok (.putfield 267, 3) := by decide +kernel
theorem dX10_orders_66 : decode cX10_orders 66 = .ok (.iconst 0, 1) := by decide +kernel
theorem dX10_orders_67 : decode cX10_orders 67 = .ok (.istore 5, 2) := by decide +kernel
theorem dX10_orders_69 : decode cX10_orders 69 = .ok (.iload 5, 2) := by decide +kernel
theorem dX10_orders_71 : decode cX10_orders 71 = .ok (.iload_n 1, 1) := by decide +kernel
theorem dX10_orders_72 : decode cX10_orders 72 = .ok (.if_icmp .ge 23, 3) := by decide +kernel
theorem dX10_orders_75 : decode cX10_orders 75 = .ok (.aload_n 0, 1) := by decide +kernel
theorem dX10_orders_76 : decode cX10_orders 76 = .ok (.getfield 94, 3) := by decide +kernel
theorem dX10_orders_79 : decode cX10_orders 79 = .ok (.iload 5, 2) := by decide +kernel
theorem dX10_orders_81 : decode cX10_orders 81 = .ok (.aload_n 0, 1) := by decide +kernel
theorem dX10_orders_82 : decode cX10_orders 82 = .ok (.getfield 91, 3) := by decide +kernel
theorem dX10_orders_85 : decode cX10_orders 85 = .ok (.iload 5, 2) := by decide +kernel
theorem dX10_orders_87 : decode cX10_orders 87 = .ok (.iaload, 1) := by decide +kernel
theorem dX10_orders_88 : decode cX10_orders 88 = .ok (.iastore, 1) := by decide +kernel
theorem dX10_orders_89 : decode cX10_orders 89 = .ok (.iinc 5 1, 3) := by decide +kernel
theorem dX10_orders_92 : decode cX10_orders 92 = .ok (.goto (-23), 3) := by decide +kernel
theorem dX10_orders_95 : decode cX10_orders 95 = .ok (.return_, 1) := by decide +kernel
theorem dX10_orders_96 : decode cX10_orders 96 = .ok (.iconst 0, 1) := by decide +kernel
theorem dX10_orders_97 : decode cX10_orders 97 = .ok (.istore 4, 2) := by decide +kernel
theorem dX10_orders_99 : decode cX10_orders 99 = .ok (.iload 4, 2) := by decide +kernel
theorem dX10_orders_101 : decode cX10_orders 101 = .ok (.aload_n 0, 1) := by decide +kernel
theorem dX10_orders_102 : decode cX10_orders 102 = .ok (.getfield 97, 3) := by decide +kernel
theorem dX10_orders_105 : decode cX10_orders 105 = .ok (.if_icmp .ge 45, 3) := by decide +kernel
theorem dX10_orders_108 : decode cX10_orders 108 = .ok (.iload_n 2, 1) := by decide +kernel
theorem dX10_orders_109 : decode cX10_orders 109 = .ok (.iload 4, 2) := by decide +kernel
theorem dX10_orders_111 : decode cX10_orders 111 = .ok (.ishr, 1) := by decide +kernel
theorem dX10_orders_112 : decode cX10_orders 112 = .ok (.iconst 1, 1) := by decide +kernel
theorem dX10_orders_113 : decode cX10_orders 113 = .ok (.iand, 1) := by decide +kernel
theorem dX10_orders_114 : decode cX10_orders 114 = .ok (.ifCond .ne 6, 3) := by decide +kernel
theorem dX10_orders_117 : decode cX10_orders 117 = .ok (.goto 27, 3) := by decide +kernel
theorem dX10_orders_120 : decode cX10_orders 120 = .ok (.aload_n 0, 1) := by decide +kernel
theorem dX10_orders_121 : decode cX10_orders 121 = .ok (.getfield 91, 3) := by decide +kernel
theorem dX10_orders_124 : decode cX10_orders 124 = .ok (.iload_n 1, 1) := by decide +kernel
theorem dX10_orders_125 : decode cX10_orders 125 = .ok (.iload 4, 2) := by decide +kernel
theorem dX10_orders_127 : decode cX10_orders 127 = .ok (.iastore, 1) := by decide +kernel
theorem dX10_orders_128 : decode cX10_orders 128 = .ok (.aload_n 0, 1) := by decide +kernel
theorem dX10_orders_129 : decode cX10_orders 129 = .ok (.iload_n 1, 1) := by decide +kernel
theorem dX10_orders_130 : decode cX10_orders 130 = .ok (.iconst 1, 1) := by decide +kernel
theorem dX10_orders_131 : decode cX10_orders 131 = .ok (.iadd, 1) := by decide +kernel
theorem dX10_orders_132 : decode cX10_orders 132 = .ok (.iload_n 2, 1) := by decide +kernel
theorem dX10_orders_133 : decode cX10_orders 133 = .ok (.iconst 1, 1) := by decide +kernel
theorem dX10_orders_134 : decode cX10_orders 134 = .ok (.iload 4, 2) := by decide +kernel
theorem dX10_orders_136 : decode cX10_orders 136 = .ok (.ishl, 1) := by decide +kernel
theorem dX10_orders_137 : decode cX10_orders 137 = .ok (.iconst (-1), 1) := by decide +kernel
theorem dX10_orders_138 : decode cX10_orders 138 = .ok (.ixor, 1) := by decide +kernel
theorem dX10_orders_139 : decode cX10_orders 139 = .ok (.iand, 1) := by decide +kernel
theorem dX10_orders_140 : decode cX10_orders 140 = .ok (.iload_n 3, 1) := by decide +kernel
theorem dX10_orders_141 : decode cX10_orders 141 = .ok (.invokevirtual 270, 3) := by decide +kernel
theorem dX10_orders_144 : decode cX10_orders 144 = .ok (.iinc 4 1, 3) := by decide +kernel
theorem dX10_orders_147 : decode cX10_orders 147 = .ok (.goto (-48), 3) := by decide +kernel
theorem dX10_orders_150 : decode cX10_orders 150 = .ok (.return_, 1) := by decide +kernel
theorem bX10_orders_69 {K : KT} {g : GT} {cm sm : Nat} {cs : Nat × Nat} {fr : Nat} {c0 : Nat} {x1 : Int} {x2 : Int} {x3 : Int} {cl : Nat → List Int → St → Option (Int × St)} {frc : Nat} {σ' : St} (hC : Ctx K g RX10 cX10_orders 6 fr cm sm) (hcs : cs.1 ≤ cm ∧ cs.2 ≤ sm) (h0 : isO 10 c0 = true) (hf : frc + 1 ≤ fr) (hf0 : 8 ≤ fr) (hl0 : ∀ (a0 : Int) (a1 : Int) (a2 : Int) (r : Int) (σ σ' : St), cl 0 [a0, a1, a2] σ = some (r, σ') → Cn (Kl K) g yX10_orders cX10_orders 6 none frc 0 0 [vr c0, vi a0, vi a1, vi a2] (SH0, σ) none (SH0, σ')) (hR : RetV K g cX10_orders 6 cs (SH0, σ')) : ∀ (n : Nat) (x5 : Int) (σ : St), fX10_orders_69 cl c0 x1 x2 x3 n x5 σ = some σ' → G K g 6 cs 69 [(0, vr c0), (1, vi x1), (2, vi x2), (3, vi x3), (5, vi x5)] [] (SH0, σ) := by
  intro n
  induction n with
  | zero =>
    intro x5 σ h
    rw [fX10_orders_69.eq_1] at h
    cases h
  | succ n ih =>
    intro x5 σ h
    rw [fX10_orders_69.eq_2] at h
    refine g_iload hC dX10_orders_69 4 rfl ?_
    refine g_iload_n hC dX10_orders_71 1 rfl rfl ?_
    refine g_icmp_ge hC dX10_orders_72 (tgt := 95) (by decide) (fun h9 => ?_) (fun h9 => ?_)
    · rw [if_pos h9] at h
      exact ret_v h hR dX10_orders_95
    · rw [if_neg h9] at h
      refine g_aload_n hC dX10_orders_75 0 rfl rfl ?_
      refine g_getr hC dX10_orders_76 lfRX10_94 (isO_spec h0) (ft_10_43 h0) ?_
      refine g_iload hC dX10_orders_79 4 rfl ?_
      refine g_aload_n hC dX10_orders_81 0 rfl rfl ?_
      refine g_getr hC dX10_orders_82 lfRX10_91 (isO_spec h0) (ft_10_42 h0) ?_
      refine g_iload hC dX10_orders_85 4 rfl ?_
      obtain ⟨b9, h⟩ := of_ite h
      refine g_iald hC dX10_orders_87 (isA_spec (rf_10_42 h0)) b9 ?_
      obtain ⟨b9, h⟩ := of_ite h
      refine g_iast hC dX10_orders_88 (isA_spec (rf_10_43 h0)) b9 ?_
      refine g_iinc hC dX10_orders_89 4 rfl (Nat.le_of_ble_eq_true rfl) rfl ?_
      refine g_goto hC dX10_orders_92 (tgt := 69) (by decide) ?_
      exact g_pick [1, 2, 3, 4, 0] rfl (ih _ _ h)
theorem bX10_orders_15 {K : KT} {g : GT} {cm sm : Nat} {cs : Nat × Nat} {fr : Nat} {c0 : Nat} {x1 : Int} {x2 : Int} {x3 : Int} {cl : Nat → List Int → St → Option (Int × St)} {frc : Nat} {σ' : St} (hC : Ctx K g RX10 cX10_orders 6 fr cm sm) (hcs : cs.1 ≤ cm ∧ cs.2 ≤ sm) (h0 : isO 10 c0 = true) (hf : frc + 1 ≤ fr) (hf0 : 8 ≤ fr) (hl0 : ∀ (a0 : Int) (a1 : Int) (a2 : Int) (r : Int) (σ σ' : St), cl 0 [a0, a1, a2] σ = some (r, σ') → Cn (Kl K) g yX10_orders cX10_orders 6 none frc 0 0 [vr c0, vi a0, vi a1, vi a2] (SH0, σ) none (SH0, σ')) (hR : RetV K g cX10_orders 6 cs (SH0, σ')) : ∀ (n : Nat) (x4 : Int) (σ : St), fX10_orders_15 cl c0 x1 x2 x3 n x4 σ = some σ' → G K g 6 cs 15 [(0, vr c0), (1, vi x1), (2, vi x2), (3, vi x3), (4, vi x4)] [] (SH0, σ) := by
  intro n
  induction n with
  | zero =>
    intro x4 σ h
    rw [fX10_orders_15.eq_1] at h
    cases h
  | succ n ih =>
    intro x4 σ h
    rw [fX10_orders_15.eq_2] at h
    refine g_iload hC dX10_orders_15 4 rfl ?_
    refine g_iload_n hC dX10_orders_17 1 rfl rfl ?_
    refine g_icmp_ge hC dX10_orders_18 (tgt := 39) (by decide) (fun h9 => ?_) (fun h9 => ?_)
    · rw [if_pos h9] at h
      refine g_aload_n hC dX10_orders_39 0 rfl rfl ?_
      refine g_iload_n hC dX10_orders_40 3 rfl rfl ?_
      obtain ⟨⟨r1, s1⟩, e1, h⟩ := of_bind h
      try dsimp only at h
      refine s_callVi hC dX10_orders_41 (tX10_countOf h0 e1) miX10_countOf mvX10_countOf mlRX10_230 (isO_spec h0) vc_10 rfl rfl (Nat.le_of_ble_eq_true rfl) (by omega) (Nat.le_of_ble_eq_true rfl) hcs ?_
      refine g_istore hC dX10_orders_44 (Nat.le_of_ble_eq_true rfl) rfl ?_
      refine g_aload_n hC dX10_orders_46 1 rfl rfl ?_
      obtain ⟨s2, e2, h⟩ := of_bind h
      try dsimp only at h
      refine s_callVv hC dX10_orders_47 (tX10_laysBack_ h0 e2) miX10_laysBack_ mvX10_laysBack_ mlRX10_265 (isO_spec h0) vc_10 rfl rfl (Nat.le_of_ble_eq_true rfl) (by omega) (Nat.le_of_ble_eq_true rfl) hcs ?_
      refine g_iload hC dX10_orders_50 0 rfl ?_
      refine g_aload_n hC dX10_orders_52 1 rfl rfl ?_
      refine g_geti hC dX10_orders_53 lfRX10_267 (isO_spec h0) (ft_10_44 h0) ?_
      refine g_icmp_gt hC dX10_orders_56 (tgt := 60) (by decide) (fun h9 => ?_) (fun h9 => ?_)
      · rw [if_pos h9] at h
        refine g_aload_n hC dX10_orders_60 1 rfl rfl ?_
        refine g_iload hC dX10_orders_61 0 rfl ?_
        refine g_puti hC dX10_orders_63 lfRX10_267 fp_10_44 (isO_spec h0) (ft_10_44 h0) ?_
        refine g_iconst hC dX10_orders_66 ok_0 ?_
        refine g_istore hC dX10_orders_67 (Nat.le_of_ble_eq_true rfl) rfl ?_
        exact g_pick [2, 3, 4, 5, 0] rfl (bX10_orders_69 hC hcs h0 hf hf0 hl0 hR _ _ _ h)
      · rw [if_neg h9] at h
        exact ret_v h hR dX10_orders_59
    · rw [if_neg h9] at h
      refine g_aload_n hC dX10_orders_21 0 rfl rfl ?_
      refine g_aload_n hC dX10_orders_22 0 rfl rfl ?_
      refine g_getr hC dX10_orders_23 lfRX10_91 (isO_spec h0) (ft_10_42 h0) ?_
      refine g_iload hC dX10_orders_26 4 rfl ?_
      obtain ⟨b9, h⟩ := of_ite h
      refine g_iald hC dX10_orders_28 (isA_spec (rf_10_42 h0)) b9 ?_
      obtain ⟨⟨r3, s3⟩, e3, h⟩ := of_bind h
      try dsimp only at h
      refine s_callVi hC dX10_orders_29 (tX10_goes h0 e3) miX10_goes mvX10_goes mlRX10_262 (isO_spec h0) vc_10 rfl rfl (Nat.le_of_ble_eq_true rfl) (by omega) (Nat.le_of_ble_eq_true rfl) hcs ?_
      refine g_pop hC dX10_orders_32 rfl ?_
      refine g_iinc hC dX10_orders_33 4 rfl (Nat.le_of_ble_eq_true rfl) rfl ?_
      refine g_goto hC dX10_orders_36 (tgt := 15) (by decide) ?_
      exact g_pick [1, 2, 3, 4, 0] rfl (ih _ _ h)
theorem bX10_orders_144 {K : KT} {g : GT} {cm sm : Nat} {cs : Nat × Nat} {fr : Nat} {c0 : Nat} {x1 : Int} {x2 : Int} {x3 : Int} {cl : Nat → List Int → St → Option (Int × St)} {frc : Nat} {k99 : Int → St → Option (St)} {σ' : St} (hC : Ctx K g RX10 cX10_orders 6 fr cm sm) (hcs : cs.1 ≤ cm ∧ cs.2 ≤ sm) (h0 : isO 10 c0 = true) (hf : frc + 1 ≤ fr) (hf0 : 8 ≤ fr) (hl0 : ∀ (a0 : Int) (a1 : Int) (a2 : Int) (r : Int) (σ σ' : St), cl 0 [a0, a1, a2] σ = some (r, σ') → Cn (Kl K) g yX10_orders cX10_orders 6 none frc 0 0 [vr c0, vi a0, vi a1, vi a2] (SH0, σ) none (SH0, σ')) (hk99 : ∀ (x4 : Int) (σ : St), k99 x4 σ = some σ' → G K g 6 cs 99 [(0, vr c0), (1, vi x1), (2, vi x2), (3, vi x3), (4, vi x4)] [] (SH0, σ)) (hR : RetV K g cX10_orders 6 cs (SH0, σ')) : ∀ (x4 : Int) (σ : St), fX10_orders_144 cl c0 x1 x2 x3 k99 x4 σ = some σ' → G K g 6 cs 144 [(0, vr c0), (1, vi x1), (2, vi x2), (3, vi x3), (4, vi x4)] [] (SH0, σ) := by
  intro x4 σ h
  unfold fX10_orders_144 at h
  refine g_iinc hC dX10_orders_144 4 rfl (Nat.le_of_ble_eq_true rfl) rfl ?_
  refine g_goto hC dX10_orders_147 (tgt := 99) (by decide) ?_
  exact g_pick [1, 2, 3, 4, 0] rfl (hk99 _ _ h)
theorem bX10_orders_99 {K : KT} {g : GT} {cm sm : Nat} {cs : Nat × Nat} {fr : Nat} {c0 : Nat} {x1 : Int} {x2 : Int} {x3 : Int} {cl : Nat → List Int → St → Option (Int × St)} {frc : Nat} {σ' : St} (hC : Ctx K g RX10 cX10_orders 6 fr cm sm) (hcs : cs.1 ≤ cm ∧ cs.2 ≤ sm) (h0 : isO 10 c0 = true) (hf : frc + 1 ≤ fr) (hf0 : 8 ≤ fr) (hl0 : ∀ (a0 : Int) (a1 : Int) (a2 : Int) (r : Int) (σ σ' : St), cl 0 [a0, a1, a2] σ = some (r, σ') → Cn (Kl K) g yX10_orders cX10_orders 6 none frc 0 0 [vr c0, vi a0, vi a1, vi a2] (SH0, σ) none (SH0, σ')) (hR : RetV K g cX10_orders 6 cs (SH0, σ')) : ∀ (n : Nat) (x4 : Int) (σ : St), fX10_orders_99 cl c0 x1 x2 x3 n x4 σ = some σ' → G K g 6 cs 99 [(0, vr c0), (1, vi x1), (2, vi x2), (3, vi x3), (4, vi x4)] [] (SH0, σ) := by
  intro n
  induction n with
  | zero =>
    intro x4 σ h
    rw [fX10_orders_99.eq_1] at h
    cases h
  | succ n ih =>
    intro x4 σ h
    rw [fX10_orders_99.eq_2] at h
    refine g_iload hC dX10_orders_99 4 rfl ?_
    refine g_aload_n hC dX10_orders_101 0 rfl rfl ?_
    refine g_geti hC dX10_orders_102 lfRX10_97 (isO_spec h0) (ft_10_0 h0) ?_
    refine g_icmp_ge hC dX10_orders_105 (tgt := 150) (by decide) (fun h9 => ?_) (fun h9 => ?_)
    · rw [if_pos h9] at h
      exact ret_v h hR dX10_orders_150
    · rw [if_neg h9] at h
      refine g_iload_n hC dX10_orders_108 2 rfl rfl ?_
      refine g_iload hC dX10_orders_109 4 rfl ?_
      refine g_ishr hC dX10_orders_111 ?_
      refine g_iconst hC dX10_orders_112 ok_1 ?_
      refine g_iand hC dX10_orders_113 ?_
      refine g_if_ne hC dX10_orders_114 (tgt := 120) (by decide) (fun h9 => ?_) (fun h9 => ?_)
      · rw [if_neg h9] at h
        refine g_aload_n hC dX10_orders_120 0 rfl rfl ?_
        refine g_getr hC dX10_orders_121 lfRX10_91 (isO_spec h0) (ft_10_42 h0) ?_
        refine g_iload_n hC dX10_orders_124 1 rfl rfl ?_
        refine g_iload hC dX10_orders_125 4 rfl ?_
        obtain ⟨b9, h⟩ := of_ite h
        refine g_iast hC dX10_orders_127 (isA_spec (rf_10_42 h0)) b9 ?_
        refine g_aload_n hC dX10_orders_128 0 rfl rfl ?_
        refine g_iload_n hC dX10_orders_129 1 rfl rfl ?_
        refine g_iconst hC dX10_orders_130 ok_1 ?_
        refine g_iadd hC dX10_orders_131 ?_
        refine g_iload_n hC dX10_orders_132 2 rfl rfl ?_
        refine g_iconst hC dX10_orders_133 ok_1 ?_
        refine g_iload hC dX10_orders_134 4 rfl ?_
        refine g_ishl hC dX10_orders_136 ?_
        refine g_iconst hC dX10_orders_137 ok_m1 ?_
        refine g_ixor hC dX10_orders_138 ?_
        refine g_iand hC dX10_orders_139 ?_
        refine g_iload_n hC dX10_orders_140 3 rfl rfl ?_
        obtain ⟨⟨r1, s1⟩, e1, h⟩ := of_bind h
        try dsimp only at h
        refine s_callVv hC dX10_orders_141 (hl0 _ _ _ _ _ _ e1) miX10_orders mvX10_orders mlRX10_270 (isO_spec h0) vc_10 rfl rfl (Nat.le_of_ble_eq_true rfl) hf (Nat.le_of_ble_eq_true rfl) hcs ?_
        exact g_pick [0, 1, 2, 3, 4] rfl (bX10_orders_144 hC hcs h0 hf hf0 hl0 ih hR _ _ h)
      · rw [if_pos h9] at h
        refine g_goto hC dX10_orders_117 (tgt := 144) (by decide) ?_
        exact g_pick [0, 1, 2, 3, 4] rfl (bX10_orders_144 hC hcs h0 hf hf0 hl0 ih hR _ _ h)
theorem bX10_orders_0 {K : KT} {g : GT} {cm sm : Nat} {cs : Nat × Nat} {fr : Nat} {c0 : Nat} {x1 : Int} {x2 : Int} {x3 : Int} {cl : Nat → List Int → St → Option (Int × St)} {frc : Nat} {σ' : St} (hC : Ctx K g RX10 cX10_orders 6 fr cm sm) (hcs : cs.1 ≤ cm ∧ cs.2 ≤ sm) (h0 : isO 10 c0 = true) (hf : frc + 1 ≤ fr) (hf0 : 8 ≤ fr) (hl0 : ∀ (a0 : Int) (a1 : Int) (a2 : Int) (r : Int) (σ σ' : St), cl 0 [a0, a1, a2] σ = some (r, σ') → Cn (Kl K) g yX10_orders cX10_orders 6 none frc 0 0 [vr c0, vi a0, vi a1, vi a2] (SH0, σ) none (SH0, σ')) (hR : RetV K g cX10_orders 6 cs (SH0, σ')) : ∀ (σ : St), fX10_orders cl c0 x1 x2 x3 σ = some σ' → G K g 6 cs 0 [(0, vr c0), (1, vi x1), (2, vi x2), (3, vi x3)] [] (SH0, σ) := by
  intro σ h
  unfold fX10_orders at h
  refine g_iload_n hC dX10_orders_0 2 rfl rfl ?_
  refine g_if_ne hC dX10_orders_1 (tgt := 96) (by decide) (fun h9 => ?_) (fun h9 => ?_)
  · rw [if_neg h9] at h
    refine g_iconst hC dX10_orders_96 ok_0 ?_
    refine g_istore hC dX10_orders_97 (Nat.le_of_ble_eq_true rfl) rfl ?_
    exact g_pick [1, 2, 3, 4, 0] rfl (bX10_orders_99 hC hcs h0 hf hf0 hl0 hR _ _ _ h)
  · rw [if_pos h9] at h
    refine g_aload_n hC dX10_orders_4 0 rfl rfl ?_
    refine g_aload_n hC dX10_orders_5 0 rfl rfl ?_
    refine g_getr hC dX10_orders_6 lfRX10_88 (isO_spec h0) (ft_10_41 h0) ?_
    obtain ⟨s1, e1, h⟩ := of_bind h
    try dsimp only at h
    refine s_callVv hC dX10_orders_9 (tX10_keeps h0 (rf_10_41 h0) e1) miX10_keeps mvX10_keeps mlRX10_258 (isO_spec h0) vc_10 rfl rfl (Nat.le_of_ble_eq_true rfl) (by omega) (Nat.le_of_ble_eq_true rfl) hcs ?_
    refine g_iconst hC dX10_orders_12 ok_0 ?_
    refine g_istore hC dX10_orders_13 (Nat.le_of_ble_eq_true rfl) rfl ?_
    exact g_pick [1, 2, 3, 4, 0] rfl (bX10_orders_15 hC hcs h0 hf hf0 hl0 hR _ _ _ h)
theorem cgX10_orders {l : Launch} {g : GT} {c0 : Nat} (h0 : isO 10 c0 = true) : ∀ d : Nat, ∀ (a0 : Int) (a1 : Int) (a2 : Int) (r : Int) (σ σ' : St), gX10_orders c0 d 0 [a0, a1, a2] σ = some (r, σ') → Cn l g yX10_orders cX10_orders 6 none (8 + d) 0 0 [vr c0, vi a0, vi a1, vi a2] (SH0, σ) none (SH0, σ') := by
  intro d
  induction d with
  | zero =>
    · intro a0 a1 a2 r σ σ' h
      rw [gX10_orders_0] at h
      cases h
  | succ d ih =>
    have i0 := ih
    · intro a0 a1 a2 r σ σ' h
      rw [gX10_orders_s] at h
      have h : (Option.bind (fX10_orders (gX10_orders c0 d) c0 a0 a1 a2 σ) fun q => some (0, q)) = some (r, σ') := h
      obtain ⟨s1, e1, h⟩ := of_bind h
      cases h
      exact Cn.ofV (by decide) (Nat.le_of_ble_eq_true rfl) (fun K e hC hR => by
        subst e
        exact bX10_orders_0 hC ⟨Nat.le_refl _, Nat.le_refl _⟩ h0 (frc := 8 + d) (by omega) (by omega) i0 hR _ e1)

theorem tX10_orders {l : Launch} {g : GT} {c0 : Nat} {a0 : Int} {a1 : Int} {a2 : Int} {σ σ' : St} (h0 : isO 10 c0 = true) (h : hX10_orders c0 a0 a1 a2 σ = some σ') : Cn l g yX10_orders cX10_orders 6 none 208 0 0 [vr c0, vi a0, vi a1, vi a2] (SH0, σ) none (SH0, σ') := by
  unfold hX10_orders at h
  obtain ⟨⟨r, s1⟩, e1, h⟩ := of_bind h
  cases h
  exact (cgX10_orders h0 DEP) _ _ _ _ _ _ e1
theorem dX10_bestOrder_0 : decode cX10_bestOrder 0 = .ok (.aload_n 0, 1) := by decide +kernel
theorem dX10_bestOrder_1 : decode cX10_bestOrder 1 = .ok (.iload_n 1, 1) := by decide +kernel
theorem dX10_bestOrder_2 : decode cX10_bestOrder 2 = .ok (.invokevirtual 125, 3) := by decide +kernel
theorem dX10_bestOrder_5 : decode cX10_bestOrder 5 = .ok (.ifCond .eq 8, 3) := by decide +kernel
theorem dX10_bestOrder_8 : decode cX10_bestOrder 8 = .ok (.iload_n 2, 1) := by decide +kernel
theorem dX10_bestOrder_9 : decode cX10_bestOrder 9 = .ok (.iconst (-1), 1) := by decide +kernel
theorem dX10_bestOrder_10 : decode cX10_bestOrder 10 = .ok (.if_icmp .ge 5, 3) := by decide +kernel
theorem dX10_bestOrder_13 : decode cX10_bestOrder 13 = .ok (.iconst (-1), 1) := by decide +kernel
theorem dX10_bestOrder_14 : decode cX10_bestOrder 14 = .ok (.ireturn, 1) := by decide +kernel
theorem dX10_bestOrder_15 : decode cX10_bestOrder 15 = .ok (.aload_n 0, 1) := by decide +kernel
theorem dX10_bestOrder_16 : decode cX10_bestOrder 16 = .ok (.invokevirtual 273, 3) := by decide +kernel
theorem dX10_bestOrder_19 : decode cX10_bestOrder 19 = .ok (.istore_n 3, 1) := by decide +kernel
theorem dX10_bestOrder_20 : decode cX10_bestOrder 20 = .ok (.iload_n 3, 1) := by decide +kernel
theorem dX10_bestOrder_21 : decode cX10_bestOrder 21 = .ok (.invokestatic 276, 3) := by decide +kernel
theorem dX10_bestOrder_24 : decode cX10_bestOrder 24 = .ok (.iconst 5, 1) := by decide +kernel
theorem dX10_bestOrder_25 : decode cX10_bestOrder 25 = .ok (.if_icmp .le 6, 3) := by decide +kernel
theorem dX10_bestOrder_28 : decode cX10_bestOrder 28 = .ok (.bipush (-5), 2) := by decide +kernel
theorem dX10_bestOrder_30 : decode cX10_bestOrder 30 = .ok (.ireturn, 1) := by decide +kernel
theorem dX10_bestOrder_31 : decode cX10_bestOrder 31 = .ok (.aload_n 0, 1) := by decide +kernel
theorem dX10_bestOrder_32 : decode cX10_bestOrder 32 = .ok (.iconst (-1), 1) := by decide +kernel
theorem dX10_bestOrder_33 : decode cX10_bestOrder 33 = .ok (.putfield 267, 3) := by decide +kernel
theorem dX10_bestOrder_36 : decode cX10_bestOrder 36 = .ok (.aload_n 0, 1) := by decide +kernel
theorem dX10_bestOrder_37 : decode cX10_bestOrder 37 = .ok (.iconst 0, 1) := by decide +kernel
theorem dX10_bestOrder_38 : decode cX10_bestOrder 38 = .ok (.iload_n 3, 1) := by decide +kernel
theorem dX10_bestOrder_39 : decode cX10_bestOrder 39 = .ok (.iload_n 1, 1) := by decide +kernel
theorem dX10_bestOrder_40 : decode cX10_bestOrder 40 = .ok (.invokevirtual 270, 3) := by decide +kernel
theorem dX10_bestOrder_43 : decode cX10_bestOrder 43 = .ok (.iload_n 2, 1) := by decide +kernel
theorem dX10_bestOrder_44 : decode cX10_bestOrder 44 = .ok (.iconst (-1), 1) := by decide +kernel
theorem dX10_bestOrder_45 : decode cX10_bestOrder 45 = .ok (.if_icmp .ne 10, 3) := by decide +kernel
theorem dX10_bestOrder_48 : decode cX10_bestOrder 48 = .ok (.aload_n 0, 1) := by decide +kernel
theorem dX10_bestOrder_49 : decode cX10_bestOrder 49 = .ok (.getfield 267, 3) := by decide +kernel
theorem dX10_bestOrder_52 : decode cX10_bestOrder 52 = .ok (.goto 22, 3) := by decide +kernel
theorem dX10_bestOrder_55 : decode cX10_bestOrder 55 = .ok (.iload_n 2, 1) := by decide +kernel
theorem dX10_bestOrder_56 : decode cX10_bestOrder 56 = .ok (.iload_n 3, 1) := by decide +kernel
theorem dX10_bestOrder_57 : decode cX10_bestOrder 57 = .ok (.invokestatic 276, 3) := by decide +kernel
theorem dX10_bestOrder_60 : decode cX10_bestOrder 60 = .ok (.if_icmp .ge 12, 3) := by decide +kernel
theorem dX10_bestOrder_63 : decode cX10_bestOrder 63 = .ok (.aload_n 0, 1) := by decide +kernel
theorem dX10_bestOrder_64 : decode cX10_bestOrder 64 = .ok (.getfield 94, 3) := by decide +kernel
theorem dX10_bestOrder_67 : decode cX10_bestOrder 67 = .ok (.iload_n 2, 1) := by decide +kernel
theorem dX10_bestOrder_68 : decode cX10_bestOrder 68 = .ok (.iaload, 1) := by decide +kernel
theorem dX10_bestOrder_69 : decode cX10_bestOrder 69 = .ok (.goto 5, 3) := by decide +kernel
theorem dX10_bestOrder_72 : decode cX10_bestOrder 72 = .ok (.bipush (-2), 2) := by decide +kernel
theorem dX10_bestOrder_74 : decode cX10_bestOrder 74 = .ok (.ireturn, 1) := by decide +kernel
theorem bX10_bestOrder_0 {K : KT} {g : GT} {cm sm : Nat} {cs : Nat × Nat} {c0 : Nat} {x1 : Int} {x2 : Int} {r : Int} {σ' : St} (hC : Ctx K g RX10 cX10_bestOrder 4 209 cm sm) (hcs : cs.1 ≤ cm ∧ cs.2 ≤ sm) (h0 : isO 10 c0 = true) (hR : RetI K g cX10_bestOrder 4 cs r (SH0, σ')) : ∀ (σ : St), fX10_bestOrder c0 x1 x2 σ = some (r, σ') → G K g 4 cs 0 [(0, vr c0), (1, vi x1), (2, vi x2)] [] (SH0, σ) := by
  intro σ h
  unfold fX10_bestOrder at h
  refine g_aload_n hC dX10_bestOrder_0 0 rfl rfl ?_
  refine g_iload_n hC dX10_bestOrder_1 1 rfl rfl ?_
  obtain ⟨⟨r1, s1⟩, e1, h⟩ := of_bind h
  try dsimp only at h
  refine s_callVi hC dX10_bestOrder_2 (tX10_isOne h0 e1) miX10_isOne mvX10_isOne mlRX10_125 (isO_spec h0) vc_10 rfl rfl (Nat.le_of_ble_eq_true rfl) (Nat.le_of_ble_eq_true rfl) (Nat.le_of_ble_eq_true rfl) hcs ?_
  refine g_if_eq hC dX10_bestOrder_5 (tgt := 13) (by decide) (fun h9 => ?_) (fun h9 => ?_)
  · rw [if_pos h9] at h
    refine g_iconst hC dX10_bestOrder_13 ok_m1 ?_
    exact ret_i h hR dX10_bestOrder_14
  · rw [if_neg h9] at h
    refine g_iload_n hC dX10_bestOrder_8 2 rfl rfl ?_
    refine g_iconst hC dX10_bestOrder_9 ok_m1 ?_
    refine g_icmp_ge hC dX10_bestOrder_10 (tgt := 15) (by decide) (fun h9 => ?_) (fun h9 => ?_)
    · rw [if_pos h9] at h
      refine g_aload_n hC dX10_bestOrder_15 0 rfl rfl ?_
      obtain ⟨⟨r2, s2⟩, e2, h⟩ := of_bind h
      try dsimp only at h
      refine s_callVi hC dX10_bestOrder_16 (tX10_forSale h0 e2) miX10_forSale mvX10_forSale mlRX10_273 (isO_spec h0) vc_10 rfl rfl (Nat.le_of_ble_eq_true rfl) (Nat.le_of_ble_eq_true rfl) (Nat.le_of_ble_eq_true rfl) hcs ?_
      refine g_istore_n hC dX10_bestOrder_19 rfl (Nat.le_of_ble_eq_true rfl) rfl ?_
      refine g_iload_n hC dX10_bestOrder_20 0 rfl rfl ?_
      obtain ⟨⟨r3, s3⟩, e3, h⟩ := of_bind h
      try dsimp only at h
      refine s_callSi hC dX10_bestOrder_21 (tJ6_bitCount_0f7a4 e3) miJ6_bitCount_0f7a4 msJ6_bitCount_0f7a4 mlRX10_276 rfl rfl (Nat.le_of_ble_eq_true rfl) (Nat.le_of_ble_eq_true rfl) (Nat.le_of_ble_eq_true rfl) hcs ?_
      refine g_iconst hC dX10_bestOrder_24 ok_5 ?_
      refine g_icmp_le hC dX10_bestOrder_25 (tgt := 31) (by decide) (fun h9 => ?_) (fun h9 => ?_)
      · rw [if_pos h9] at h
        refine g_aload_n hC dX10_bestOrder_31 1 rfl rfl ?_
        refine g_iconst hC dX10_bestOrder_32 ok_m1 ?_
        refine g_puti hC dX10_bestOrder_33 lfRX10_267 fp_10_44 (isO_spec h0) (ft_10_44 h0) ?_
        refine g_aload_n hC dX10_bestOrder_36 1 rfl rfl ?_
        refine g_iconst hC dX10_bestOrder_37 ok_0 ?_
        refine g_iload_n hC dX10_bestOrder_38 0 rfl rfl ?_
        refine g_iload_n hC dX10_bestOrder_39 2 rfl rfl ?_
        obtain ⟨s4, e4, h⟩ := of_bind h
        try dsimp only at h
        refine s_callVv hC dX10_bestOrder_40 (tX10_orders h0 e4) miX10_orders mvX10_orders mlRX10_270 (isO_spec h0) vc_10 rfl rfl (Nat.le_of_ble_eq_true rfl) (Nat.le_of_ble_eq_true rfl) (Nat.le_of_ble_eq_true rfl) hcs ?_
        refine g_iload_n hC dX10_bestOrder_43 3 rfl rfl ?_
        refine g_iconst hC dX10_bestOrder_44 ok_m1 ?_
        refine g_icmp_ne hC dX10_bestOrder_45 (tgt := 55) (by decide) (fun h9 => ?_) (fun h9 => ?_)
        · rw [if_neg h9] at h
          refine g_iload_n hC dX10_bestOrder_55 3 rfl rfl ?_
          refine g_iload_n hC dX10_bestOrder_56 0 rfl rfl ?_
          obtain ⟨⟨r5, s5⟩, e5, h⟩ := of_bind h
          try dsimp only at h
          refine s_callSi hC dX10_bestOrder_57 (tJ6_bitCount_0f7a4 e5) miJ6_bitCount_0f7a4 msJ6_bitCount_0f7a4 mlRX10_276 rfl rfl (Nat.le_of_ble_eq_true rfl) (Nat.le_of_ble_eq_true rfl) (Nat.le_of_ble_eq_true rfl) hcs ?_
          refine g_icmp_ge hC dX10_bestOrder_60 (tgt := 72) (by decide) (fun h9 => ?_) (fun h9 => ?_)
          · rw [if_pos h9] at h
            refine g_bipush hC dX10_bestOrder_72 bp_m2 ?_
            exact ret_i h hR dX10_bestOrder_74
          · rw [if_neg h9] at h
            refine g_aload_n hC dX10_bestOrder_63 1 rfl rfl ?_
            refine g_getr hC dX10_bestOrder_64 lfRX10_94 (isO_spec h0) (ft_10_43 h0) ?_
            refine g_iload_n hC dX10_bestOrder_67 3 rfl rfl ?_
            obtain ⟨b9, h⟩ := of_ite h
            refine g_iald hC dX10_bestOrder_68 (isA_spec (rf_10_43 h0)) b9 ?_
            refine g_goto hC dX10_bestOrder_69 (tgt := 74) (by decide) ?_
            exact ret_i h hR dX10_bestOrder_74
        · rw [if_pos h9] at h
          refine g_aload_n hC dX10_bestOrder_48 1 rfl rfl ?_
          refine g_geti hC dX10_bestOrder_49 lfRX10_267 (isO_spec h0) (ft_10_44 h0) ?_
          refine g_goto hC dX10_bestOrder_52 (tgt := 74) (by decide) ?_
          exact ret_i h hR dX10_bestOrder_74
      · rw [if_neg h9] at h
        refine g_bipush hC dX10_bestOrder_28 bp_m5 ?_
        exact ret_i h hR dX10_bestOrder_30
    · rw [if_neg h9] at h
      refine g_iconst hC dX10_bestOrder_13 ok_m1 ?_
      exact ret_i h hR dX10_bestOrder_14
theorem tX10_bestOrder {l : Launch} {g : GT} {c0 : Nat} {x1 : Int} {x2 : Int} {σ σ' : St} {r : Int} (h0 : isO 10 c0 = true) (h : fX10_bestOrder c0 x1 x2 σ = some (r, σ')) : Cn l g yX10_bestOrder cX10_bestOrder 4 (some .int) 209 0 0 [vr c0, vi x1, vi x2] (SH0, σ) (some (vi r)) (SH0, σ') :=
  Cn.ofI (by decide) (Nat.le_of_ble_eq_true rfl) (fun K e hC hR => (bX10_bestOrder_0 hC ⟨Nat.le_refl _, Nat.le_refl _⟩ h0 hR _ h))
theorem dX10_newOne_0 : decode cX10_newOne 0 = .ok (.iconst 0, 1) := by decide +kernel
theorem dX10_newOne_1 : decode cX10_newOne 1 = .ok (.istore 4, 2) := by decide +kernel
theorem dX10_newOne_3 : decode cX10_newOne 3 = .ok (.iload 4, 2) := by decide +kernel
theorem dX10_newOne_5 : decode cX10_newOne 5 = .ok (.bipush 9, 2) := by decide +kernel
theorem dX10_newOne_7 : decode cX10_newOne 7 = .ok (.if_icmp .ge 35, 3) := by decide +kernel
theorem dX10_newOne_10 : decode cX10_newOne 10 = .ok (.aload_n 0, 1) := by decide +kernel
theorem dX10_newOne_11 : decode cX10_newOne 11 = .ok (.getfield 24, 3) := by decide +kernel
theorem dX10_newOne_14 : decode cX10_newOne 14 = .ok (.bipush 7, 2) := by decide +kernel
theorem dX10_newOne_16 : decode cX10_newOne 16 = .ok (.iload 4, 2) := by decide +kernel
theorem dX10_newOne_18 : decode cX10_newOne 18 = .ok (.imul, 1) := by decide +kernel
theorem dX10_newOne_19 : decode cX10_newOne 19 = .ok (.aload_n 0, 1) := by decide +kernel
theorem dX10_newOne_20 : decode cX10_newOne 20 = .ok (.getfield 105, 3) := by decide +kernel
theorem dX10_newOne_23 : decode cX10_newOne 23 = .ok (.iadd, 1) := by decide +kernel
theorem dX10_newOne_24 : decode cX10_newOne 24 = .ok (.iload 4, 2) := by decide +kernel
theorem dX10_newOne_26 : decode cX10_newOne 26 = .ok (.iconst 4, 1) := by decide +kernel
theorem dX10_newOne_27 : decode cX10_newOne 27 = .ok (.if_icmp .le 7, 3) := by decide +kernel
theorem dX10_newOne_30 : decode cX10_newOne 30 = .ok (.iconst 5, 1) := by decide +kernel
theorem dX10_newOne_31 : decode cX10_newOne 31 = .ok (.goto 4, 3) := by decide +kernel
theorem dX10_newOne_34 : decode cX10_newOne 34 = .ok (.iconst 0, 1) := by decide +kernel
theorem dX10_newOne_35 : decode cX10_newOne 35 = .ok (.iastore, 1) := by decide +kernel
theorem dX10_newOne_36 : decode cX10_newOne 36 = .ok (.iinc 4 1, 3) := by decide +kernel
theorem dX10_newOne_39 : decode cX10_newOne 39 = .ok (.goto (-36), 3) := by decide +kernel
theorem dX10_newOne_42 : decode cX10_newOne 42 = .ok (.aload_n 0, 1) := by decide +kernel
theorem dX10_newOne_43 : decode cX10_newOne 43 = .ok (.getfield 24, 3) := by decide +kernel
theorem dX10_newOne_46 : decode cX10_newOne 46 = .ok (.aload_n 0, 1) := by decide +kernel
theorem dX10_newOne_47 : decode cX10_newOne 47 = .ok (.getfield 105, 3) := by decide +kernel
theorem dX10_newOne_50 : decode cX10_newOne 50 = .ok (.iload_n 1, 1) := by decide +kernel
theorem dX10_newOne_51 : decode cX10_newOne 51 = .ok (.iastore, 1) := by decide +kernel
theorem dX10_newOne_52 : decode cX10_newOne 52 = .ok (.aload_n 0, 1) := by decide +kernel
theorem dX10_newOne_53 : decode cX10_newOne 53 = .ok (.getfield 24, 3) := by decide +kernel
theorem dX10_newOne_56 : decode cX10_newOne 56 = .ok (.bipush 7, 2) := by decide +kernel
theorem dX10_newOne_58 : decode cX10_newOne 58 = .ok (.aload_n 0, 1) := by decide +kernel
theorem dX10_newOne_59 : decode cX10_newOne 59 = .ok (.getfield 105, 3) := by decide +kernel
theorem dX10_newOne_62 : decode cX10_newOne 62 = .ok (.iadd, 1) := by decide +kernel
theorem dX10_newOne_63 : decode cX10_newOne 63 = .ok (.iload_n 2, 1) := by decide +kernel
theorem dX10_newOne_64 : decode cX10_newOne 64 = .ok (.iastore, 1) := by decide +kernel
theorem dX10_newOne_65 : decode cX10_newOne 65 = .ok (.aload_n 0, 1) := by decide +kernel
theorem dX10_newOne_66 : decode cX10_newOne 66 = .ok (.getfield 24, 3) := by decide +kernel
theorem dX10_newOne_69 : decode cX10_newOne 69 = .ok (.bipush 21, 2) := by decide +kernel
theorem dX10_newOne_71 : decode cX10_newOne 71 = .ok (.aload_n 0, 1) := by decide +kernel
theorem dX10_newOne_72 : decode cX10_newOne 72 = .ok (.getfield 105, 3) := by decide +kernel
theorem dX10_newOne_75 : decode cX10_newOne 75 = .ok (.iadd, 1) := by decide +kernel
theorem dX10_newOne_76 : decode cX10_newOne 76 = .ok (.iload_n 3, 1) := by decide +kernel
theorem dX10_newOne_77 : decode cX10_newOne 77 = .ok (.iastore, 1) := by decide +kernel
theorem dX10_newOne_78 : decode cX10_newOne 78 = .ok (.aload_n 0, 1) := by decide +kernel
theorem dX10_newOne_79 : decode cX10_newOne 79 = .ok (.dup, 1) := by decide +kernel
theorem dX10_newOne_80 : decode cX10_newOne 80 = .ok (.getfield 105, 3) := by decide +kernel
theorem dX10_newOne_83 : decode cX10_newOne 83 = .ok (.dup_x1, 1) := by decide +kernel
theorem dX10_newOne_84 : decode cX10_newOne 84 = .ok (.iconst 1, 1) := by decide +kernel
theorem dX10_newOne_85 : decode cX10_newOne 85 = .ok (.iadd, 1) := by decide +kernel
theorem dX10_newOne_86 : decode cX10_newOne 86 = .ok (.putfield 105, 3) := by decide +kernel
theorem dX10_newOne_89 : decode cX10_newOne 89 = .ok (.ireturn, 1) := by decide +kernel
theorem bX10_newOne_35 {K : KT} {g : GT} {cm sm : Nat} {cs : Nat × Nat} {c0 : Nat} {x1 : Int} {x2 : Int} {x3 : Int} {k3 : Int → St → Option (Int × St)} {r : Int} {σ' : St} (hC : Ctx K g RX10 cX10_newOne 5 0 cm sm) (hcs : cs.1 ≤ cm ∧ cs.2 ≤ sm) (h0 : isO 10 c0 = true) (hk3 : ∀ (x4 : Int) (σ : St), k3 x4 σ = some (r, σ') → G K g 5 cs 3 [(0, vr c0), (1, vi x1), (2, vi x2), (3, vi x3), (4, vi x4)] [] (SH0, σ)) (hR : RetI K g cX10_newOne 5 cs r (SH0, σ')) : ∀ (x4 : Int) (d0 : Nat) (y1 : Int) (y2 : Int) (σ : St), isA 1 d0 = true → fX10_newOne_35 c0 x1 x2 x3 k3 x4 d0 y1 y2 σ = some (r, σ') → G K g 5 cs 35 [(0, vr c0), (1, vi x1), (2, vi x2), (3, vi x3), (4, vi x4)] [vi y2, vi y1, vr d0] (SH0, σ) := by
  intro x4 d0 y1 y2 σ hd0 h
  unfold fX10_newOne_35 at h
  obtain ⟨b9, h⟩ := of_ite h
  refine g_iast hC dX10_newOne_35 (isA_spec hd0) b9 ?_
  refine g_iinc hC dX10_newOne_36 4 rfl (Nat.le_of_ble_eq_true rfl) rfl ?_
  refine g_goto hC dX10_newOne_39 (tgt := 3) (by decide) ?_
  exact g_pick [1, 2, 3, 4, 0] rfl (hk3 _ _ h)
theorem bX10_newOne_78 {K : KT} {g : GT} {cm sm : Nat} {cs : Nat × Nat} {c0 : Nat} {x1 : Int} {x2 : Int} {x3 : Int} {r : Int} {σ' : St} (hC : Ctx K g RX10 cX10_newOne 5 0 cm sm) (hcs : cs.1 ≤ cm ∧ cs.2 ≤ sm) (h0 : isO 10 c0 = true) (hR : RetI K g cX10_newOne 5 cs r (SH0, σ')) : ∀ (σ : St), fX10_newOne_78 c0 x1 x2 x3 σ = some (r, σ') → G K g 5 cs 78 [(0, vr c0), (1, vi x1), (2, vi x2), (3, vi x3)] [] (SH0, σ) := by
  intro σ h
  unfold fX10_newOne_78 at h
  refine g_aload_n hC dX10_newOne_78 0 rfl rfl ?_
  refine g_dup hC dX10_newOne_79 rfl ?_
  refine g_geti hC dX10_newOne_80 lfRX10_105 (isO_spec h0) (ft_10_5 h0) ?_
  refine g_dup_x1 hC dX10_newOne_83 rfl rfl ?_
  refine g_iconst hC dX10_newOne_84 ok_1 ?_
  refine g_iadd hC dX10_newOne_85 ?_
  refine g_puti hC dX10_newOne_86 lfRX10_105 fp_10_5 (isO_spec h0) (ft_10_5 h0) ?_
  exact ret_i h hR dX10_newOne_89
theorem bX10_newOne_3 {K : KT} {g : GT} {cm sm : Nat} {cs : Nat × Nat} {c0 : Nat} {x1 : Int} {x2 : Int} {x3 : Int} {r : Int} {σ' : St} (hC : Ctx K g RX10 cX10_newOne 5 0 cm sm) (hcs : cs.1 ≤ cm ∧ cs.2 ≤ sm) (h0 : isO 10 c0 = true) (hR : RetI K g cX10_newOne 5 cs r (SH0, σ')) : ∀ (n : Nat) (x4 : Int) (σ : St), fX10_newOne_3 c0 x1 x2 x3 n x4 σ = some (r, σ') → G K g 5 cs 3 [(0, vr c0), (1, vi x1), (2, vi x2), (3, vi x3), (4, vi x4)] [] (SH0, σ) := by
  intro n
  induction n with
  | zero =>
    intro x4 σ h
    rw [fX10_newOne_3.eq_1] at h
    cases h
  | succ n ih =>
    intro x4 σ h
    rw [fX10_newOne_3.eq_2] at h
    refine g_iload hC dX10_newOne_3 4 rfl ?_
    refine g_bipush hC dX10_newOne_5 bp_9 ?_
    refine g_icmp_ge hC dX10_newOne_7 (tgt := 42) (by decide) (fun h9 => ?_) (fun h9 => ?_)
    · rw [if_pos h9] at h
      refine g_aload_n hC dX10_newOne_42 0 rfl rfl ?_
      refine g_getr hC dX10_newOne_43 lfRX10_24 (isO_spec h0) (ft_10_6 h0) ?_
      refine g_aload_n hC dX10_newOne_46 0 rfl rfl ?_
      refine g_geti hC dX10_newOne_47 lfRX10_105 (isO_spec h0) (ft_10_5 h0) ?_
      refine g_iload_n hC dX10_newOne_50 1 rfl rfl ?_
      obtain ⟨b9, h⟩ := of_ite h
      refine g_iast hC dX10_newOne_51 (isA_spec (rf_10_6 h0)) b9 ?_
      refine g_aload_n hC dX10_newOne_52 0 rfl rfl ?_
      refine g_getr hC dX10_newOne_53 lfRX10_24 (isO_spec h0) (ft_10_6 h0) ?_
      refine g_bipush hC dX10_newOne_56 bp_7 ?_
      refine g_aload_n hC dX10_newOne_58 0 rfl rfl ?_
      refine g_geti hC dX10_newOne_59 lfRX10_105 (isO_spec h0) (ft_10_5 h0) ?_
      refine g_iadd hC dX10_newOne_62 ?_
      refine g_iload_n hC dX10_newOne_63 2 rfl rfl ?_
      obtain ⟨b9, h⟩ := of_ite h
      refine g_iast hC dX10_newOne_64 (isA_spec (rf_10_6 h0)) b9 ?_
      refine g_aload_n hC dX10_newOne_65 0 rfl rfl ?_
      refine g_getr hC dX10_newOne_66 lfRX10_24 (isO_spec h0) (ft_10_6 h0) ?_
      refine g_bipush hC dX10_newOne_69 bp_21 ?_
      refine g_aload_n hC dX10_newOne_71 0 rfl rfl ?_
      refine g_geti hC dX10_newOne_72 lfRX10_105 (isO_spec h0) (ft_10_5 h0) ?_
      refine g_iadd hC dX10_newOne_75 ?_
      refine g_iload_n hC dX10_newOne_76 3 rfl rfl ?_
      obtain ⟨b9, h⟩ := of_ite h
      refine g_iast hC dX10_newOne_77 (isA_spec (rf_10_6 h0)) b9 ?_
      exact g_pick [0, 1, 2, 3] rfl (bX10_newOne_78 hC hcs h0 hR _ h)
    · rw [if_neg h9] at h
      refine g_aload_n hC dX10_newOne_10 0 rfl rfl ?_
      refine g_getr hC dX10_newOne_11 lfRX10_24 (isO_spec h0) (ft_10_6 h0) ?_
      refine g_bipush hC dX10_newOne_14 bp_7 ?_
      refine g_iload hC dX10_newOne_16 4 rfl ?_
      refine g_imul hC dX10_newOne_18 ?_
      refine g_aload_n hC dX10_newOne_19 0 rfl rfl ?_
      refine g_geti hC dX10_newOne_20 lfRX10_105 (isO_spec h0) (ft_10_5 h0) ?_
      refine g_iadd hC dX10_newOne_23 ?_
      refine g_iload hC dX10_newOne_24 4 rfl ?_
      refine g_iconst hC dX10_newOne_26 ok_4 ?_
      refine g_icmp_le hC dX10_newOne_27 (tgt := 34) (by decide) (fun h9 => ?_) (fun h9 => ?_)
      · rw [if_pos h9] at h
        refine g_iconst hC dX10_newOne_34 ok_0 ?_
        exact g_pick [0, 1, 2, 3, 4] rfl (bX10_newOne_35 hC hcs h0 ih hR _ _ _ _ _ (rf_10_6 h0) h)
      · rw [if_neg h9] at h
        refine g_iconst hC dX10_newOne_30 ok_5 ?_
        refine g_goto hC dX10_newOne_31 (tgt := 35) (by decide) ?_
        exact g_pick [0, 1, 2, 3, 4] rfl (bX10_newOne_35 hC hcs h0 ih hR _ _ _ _ _ (rf_10_6 h0) h)
theorem bX10_newOne_0 {K : KT} {g : GT} {cm sm : Nat} {cs : Nat × Nat} {c0 : Nat} {x1 : Int} {x2 : Int} {x3 : Int} {r : Int} {σ' : St} (hC : Ctx K g RX10 cX10_newOne 5 0 cm sm) (hcs : cs.1 ≤ cm ∧ cs.2 ≤ sm) (h0 : isO 10 c0 = true) (hR : RetI K g cX10_newOne 5 cs r (SH0, σ')) : ∀ (σ : St), fX10_newOne c0 x1 x2 x3 σ = some (r, σ') → G K g 5 cs 0 [(0, vr c0), (1, vi x1), (2, vi x2), (3, vi x3)] [] (SH0, σ) := by
  intro σ h
  unfold fX10_newOne at h
  refine g_iconst hC dX10_newOne_0 ok_0 ?_
  refine g_istore hC dX10_newOne_1 (Nat.le_of_ble_eq_true rfl) rfl ?_
  exact g_pick [1, 2, 3, 4, 0] rfl (bX10_newOne_3 hC hcs h0 hR _ _ _ h)
theorem tX10_newOne {l : Launch} {g : GT} {c0 : Nat} {x1 : Int} {x2 : Int} {x3 : Int} {σ σ' : St} {r : Int} (h0 : isO 10 c0 = true) (h : fX10_newOne c0 x1 x2 x3 σ = some (r, σ')) : Cn l g yX10_newOne cX10_newOne 5 (some .int) 0 0 0 [vr c0, vi x1, vi x2, vi x3] (SH0, σ) (some (vi r)) (SH0, σ') :=
  Cn.ofI (by decide) (Nat.le_of_ble_eq_true rfl) (fun K e hC hR => (bX10_newOne_0 hC ⟨Nat.le_refl _, Nat.le_refl _⟩ h0 hR _ h))
theorem dX10_bidder_0 : decode cX10_bidder 0 = .ok (.iload_n 1, 1) := by decide +kernel
theorem dX10_bidder_1 : decode cX10_bidder 1 = .ok (.iconst 0, 1) := by decide +kernel
theorem dX10_bidder_2 : decode cX10_bidder 2 = .ok (.bipush 9, 2) := by decide +kernel
theorem dX10_bidder_4 : decode cX10_bidder 4 = .ok (.invokestatic 101, 3) := by decide +kernel
theorem dX10_bidder_7 : decode cX10_bidder 7 = .ok (.ifCond .eq 13, 3) := by decide +kernel
theorem dX10_bidder_10 : decode cX10_bidder 10 = .ok (.iload_n 2, 1) := by decide +kernel
theorem dX10_bidder_11 : decode cX10_bidder 11 = .ok (.iconst 0, 1) := by decide +kernel
theorem dX10_bidder_12 : decode cX10_bidder 12 = .ok (.bipush 99, 2) := by decide +kernel
theorem dX10_bidder_14 : decode cX10_bidder 14 = .ok (.invokestatic 101, 3) := by decide +kernel
theorem dX10_bidder_17 : decode cX10_bidder 17 = .ok (.ifCond .ne 5, 3) := by decide +kernel
theorem dX10_bidder_20 : decode cX10_bidder 20 = .ok (.iconst (-1), 1) := by decide +kernel
theorem dX10_bidder_21 : decode cX10_bidder 21 = .ok (.ireturn, 1) := by decide +kernel
theorem dX10_bidder_22 : decode cX10_bidder 22 = .ok (.aload_n 0, 1) := by decide +kernel
theorem dX10_bidder_23 : decode cX10_bidder 23 = .ok (.getfield 105, 3) := by decide +kernel
theorem dX10_bidder_26 : decode cX10_bidder 26 = .ok (.bipush 7, 2) := by decide +kernel
theorem dX10_bidder_28 : decode cX10_bidder 28 = .ok (.if_icmp .ne 8, 3) := by decide +kernel
theorem dX10_bidder_31 : decode cX10_bidder 31 = .ok (.bipush (-3), 2) := by decide +kernel
theorem dX10_bidder_33 : decode cX10_bidder 33 = .ok (.goto 10, 3) := by decide +kernel
theorem dX10_bidder_36 : decode cX10_bidder 36 = .ok (.aload_n 0, 1) := by decide +kernel
theorem dX10_bidder_37 : decode cX10_bidder 37 = .ok (.iload_n 1, 1) := by decide +kernel
theorem dX10_bidder_38 : decode cX10_bidder 38 = .ok (.iload_n 2, 1) := by decide +kernel
theorem dX10_bidder_39 : decode cX10_bidder 39 = .ok (.iconst 0, 1) := by decide +kernel
theorem dX10_bidder_40 : decode cX10_bidder 40 = .ok (.invokevirtual 108, 3) := by decide +kernel
theorem dX10_bidder_43 : decode cX10_bidder 43 = .ok (.ireturn, 1) := by decide +kernel
theorem bX10_bidder_0 {K : KT} {g : GT} {cm sm : Nat} {cs : Nat × Nat} {c0 : Nat} {x1 : Int} {x2 : Int} {r : Int} {σ' : St} (hC : Ctx K g RX10 cX10_bidder 3 1 cm sm) (hcs : cs.1 ≤ cm ∧ cs.2 ≤ sm) (h0 : isO 10 c0 = true) (hR : RetI K g cX10_bidder 3 cs r (SH0, σ')) : ∀ (σ : St), fX10_bidder c0 x1 x2 σ = some (r, σ') → G K g 3 cs 0 [(0, vr c0), (1, vi x1), (2, vi x2)] [] (SH0, σ) := by
  intro σ h
  unfold fX10_bidder at h
  refine g_iload_n hC dX10_bidder_0 1 rfl rfl ?_
  refine g_iconst hC dX10_bidder_1 ok_0 ?_
  refine g_bipush hC dX10_bidder_2 bp_9 ?_
  obtain ⟨⟨r1, s1⟩, e1, h⟩ := of_bind h
  try dsimp only at h
  refine s_callSi hC dX10_bidder_4 (tX10_within e1) miX10_within msX10_within mlRX10_101 rfl rfl (Nat.le_of_ble_eq_true rfl) (Nat.le_of_ble_eq_true rfl) (Nat.le_of_ble_eq_true rfl) hcs ?_
  refine g_if_eq hC dX10_bidder_7 (tgt := 20) (by decide) (fun h9 => ?_) (fun h9 => ?_)
  · rw [if_pos h9] at h
    refine g_iconst hC dX10_bidder_20 ok_m1 ?_
    exact ret_i h hR dX10_bidder_21
  · rw [if_neg h9] at h
    refine g_iload_n hC dX10_bidder_10 2 rfl rfl ?_
    refine g_iconst hC dX10_bidder_11 ok_0 ?_
    refine g_bipush hC dX10_bidder_12 bp_99 ?_
    obtain ⟨⟨r2, s2⟩, e2, h⟩ := of_bind h
    try dsimp only at h
    refine s_callSi hC dX10_bidder_14 (tX10_within e2) miX10_within msX10_within mlRX10_101 rfl rfl (Nat.le_of_ble_eq_true rfl) (Nat.le_of_ble_eq_true rfl) (Nat.le_of_ble_eq_true rfl) hcs ?_
    refine g_if_ne hC dX10_bidder_17 (tgt := 22) (by decide) (fun h9 => ?_) (fun h9 => ?_)
    · rw [if_neg h9] at h
      refine g_aload_n hC dX10_bidder_22 0 rfl rfl ?_
      refine g_geti hC dX10_bidder_23 lfRX10_105 (isO_spec h0) (ft_10_5 h0) ?_
      refine g_bipush hC dX10_bidder_26 bp_7 ?_
      refine g_icmp_ne hC dX10_bidder_28 (tgt := 36) (by decide) (fun h9 => ?_) (fun h9 => ?_)
      · rw [if_neg h9] at h
        refine g_aload_n hC dX10_bidder_36 0 rfl rfl ?_
        refine g_iload_n hC dX10_bidder_37 1 rfl rfl ?_
        refine g_iload_n hC dX10_bidder_38 2 rfl rfl ?_
        refine g_iconst hC dX10_bidder_39 ok_0 ?_
        obtain ⟨⟨r3, s3⟩, e3, h⟩ := of_bind h
        try dsimp only at h
        refine s_callVi hC dX10_bidder_40 (tX10_newOne h0 e3) miX10_newOne mvX10_newOne mlRX10_108 (isO_spec h0) vc_10 rfl rfl (Nat.le_of_ble_eq_true rfl) (Nat.le_of_ble_eq_true rfl) (Nat.le_of_ble_eq_true rfl) hcs ?_
        exact ret_i h hR dX10_bidder_43
      · rw [if_pos h9] at h
        refine g_bipush hC dX10_bidder_31 bp_m3 ?_
        refine g_goto hC dX10_bidder_33 (tgt := 43) (by decide) ?_
        exact ret_i h hR dX10_bidder_43
    · rw [if_pos h9] at h
      refine g_iconst hC dX10_bidder_20 ok_m1 ?_
      exact ret_i h hR dX10_bidder_21
theorem tX10_bidder {l : Launch} {g : GT} {c0 : Nat} {x1 : Int} {x2 : Int} {σ σ' : St} {r : Int} (h0 : isO 10 c0 = true) (h : fX10_bidder c0 x1 x2 σ = some (r, σ')) : Cn l g yX10_bidder cX10_bidder 3 (some .int) 1 0 0 [vr c0, vi x1, vi x2] (SH0, σ) (some (vi r)) (SH0, σ') :=
  Cn.ofI (by decide) (Nat.le_of_ble_eq_true rfl) (fun K e hC hR => (bX10_bidder_0 hC ⟨Nat.le_refl _, Nat.le_refl _⟩ h0 hR _ h))
theorem dX10_bidders_0 : decode cX10_bidders 0 = .ok (.iload_n 1, 1) := by decide +kernel
theorem dX10_bidders_1 : decode cX10_bidders 1 = .ok (.invokestatic 112, 3) := by decide +kernel
theorem dX10_bidders_4 : decode cX10_bidders 4 = .ok (.ifCond .eq 13, 3) := by decide +kernel
theorem dX10_bidders_7 : decode cX10_bidders 7 = .ok (.iload_n 3, 1) := by decide +kernel
theorem dX10_bidders_8 : decode cX10_bidders 8 = .ok (.iconst 1, 1) := by decide +kernel
theorem dX10_bidders_9 : decode cX10_bidders 9 = .ok (.bipush 7, 2) := by decide +kernel
theorem dX10_bidders_11 : decode cX10_bidders 11 = .ok (.invokestatic 101, 3) := by decide +kernel
theorem dX10_bidders_14 : decode cX10_bidders 14 = .ok (.ifCond .ne 5, 3) := by decide +kernel
theorem dX10_bidders_17 : decode cX10_bidders 17 = .ok (.iconst (-1), 1) := by decide +kernel
theorem dX10_bidders_18 : decode cX10_bidders 18 = .ok (.ireturn, 1) := by decide +kernel
theorem dX10_bidders_19 : decode cX10_bidders 19 = .ok (.aload_n 0, 1) := by decide +kernel
theorem dX10_bidders_20 : decode cX10_bidders 20 = .ok (.getfield 78, 3) := by decide +kernel
theorem dX10_bidders_23 : decode cX10_bidders 23 = .ok (.iload_n 1, 1) := by decide +kernel
theorem dX10_bidders_24 : decode cX10_bidders 24 = .ok (.iaload, 1) := by decide +kernel
theorem dX10_bidders_25 : decode cX10_bidders 25 = .ok (.iconst (-1), 1) := by decide +kernel
theorem dX10_bidders_26 : decode cX10_bidders 26 = .ok (.if_icmp .ne 5, 3) := by decide +kernel
theorem dX10_bidders_29 : decode cX10_bidders 29 = .ok (.iconst 0, 1) := by decide +kernel
theorem dX10_bidders_30 : decode cX10_bidders 30 = .ok (.ireturn, 1) := by decide +kernel
theorem dX10_bidders_31 : decode cX10_bidders 31 = .ok (.aload_n 0, 1) := by decide +kernel
theorem dX10_bidders_32 : decode cX10_bidders 32 = .ok (.getfield 78, 3) := by decide +kernel
theorem dX10_bidders_35 : decode cX10_bidders 35 = .ok (.iload_n 1, 1) := by decide +kernel
theorem dX10_bidders_36 : decode cX10_bidders 36 = .ok (.iaload, 1) := by decide +kernel
theorem dX10_bidders_37 : decode cX10_bidders 37 = .ok (.ifCond .eq 6, 3) := by decide +kernel
theorem dX10_bidders_40 : decode cX10_bidders 40 = .ok (.bipush (-12), 2) := by decide +kernel
theorem dX10_bidders_42 : decode cX10_bidders 42 = .ok (.ireturn, 1) := by decide +kernel
theorem dX10_bidders_43 : decode cX10_bidders 43 = .ok (.iconst 0, 1) := by decide +kernel
theorem dX10_bidders_44 : decode cX10_bidders 44 = .ok (.istore 4, 2) := by decide +kernel
theorem dX10_bidders_46 : decode cX10_bidders 46 = .ok (.iconst 0, 1) := by decide +kernel
theorem dX10_bidders_47 : decode cX10_bidders 47 = .ok (.istore 5, 2) := by decide +kernel
theorem dX10_bidders_49 : decode cX10_bidders 49 = .ok (.iload 5, 2) := by decide +kernel
theorem dX10_bidders_51 : decode cX10_bidders 51 = .ok (.iload_n 3, 1) := by decide +kernel
theorem dX10_bidders_52 : decode cX10_bidders 52 = .ok (.if_icmp .ge 150, 3) := by decide +kernel
theorem dX10_bidders_55 : decode cX10_bidders 55 = .ok (.iload_n 2, 1) := by decide +kernel
theorem dX10_bidders_56 : decode cX10_bidders 56 = .ok (.i2l, 1) := by decide +kernel
theorem dX10_bidders_57 : decode cX10_bidders 57 = .ok (.ldc2_w 116, 3) := by decide +kernel
theorem dX10_bidders_60 : decode cX10_bidders 60 = .ok (.iload 5, 2) := by decide +kernel
theorem dX10_bidders_62 : decode cX10_bidders 62 = .ok (.i2l, 1) := by decide +kernel
theorem dX10_bidders_63 : decode cX10_bidders 63 = .ok (.lmul, 1) := by decide +kernel
theorem dX10_bidders_64 : decode cX10_bidders 64 = .ok (.ladd, 1) := by decide +kernel
theorem dX10_bidders_65 : decode cX10_bidders 65 = .ok (.lstore 6, 2) := by decide +kernel
theorem dX10_bidders_67 : decode cX10_bidders 67 = .ok (.lload 6, 2) := by decide +kernel
theorem dX10_bidders_69 : decode cX10_bidders 69 = .ok (.lconst 0, 1) := by decide +kernel
theorem dX10_bidders_70 : decode cX10_bidders 70 = .ok (.lcmp, 1) := by decide +kernel
theorem dX10_bidders_71 : decode cX10_bidders 71 = .ok (.ifCond .lt 29, 3) := by decide +kernel
theorem dX10_bidders_74 : decode cX10_bidders 74 = .ok (.lload 6, 2) := by decide +kernel
theorem dX10_bidders_76 : decode cX10_bidders 76 = .ok (.ldc2_w 116, 3) := by decide +kernel
theorem dX10_bidders_79 : decode cX10_bidders 79 = .ok (.ladd, 1) := by decide +kernel
theorem dX10_bidders_80 : decode cX10_bidders 80 = .ok (.aload_n 0, 1) := by decide +kernel
theorem dX10_bidders_81 : decode cX10_bidders 81 = .ok (.getfield 81, 3) := by decide +kernel
theorem dX10_bidders_84 : decode cX10_bidders 84 = .ok (.iload_n 1, 1) := by decide +kernel
theorem dX10_bidders_85 : decode cX10_bidders 85 = .ok (.iaload, 1) := by decide +kernel
theorem dX10_bidders_86 : decode cX10_bidders 86 = .ok (.i2l, 1) := by decide +kernel
theorem dX10_bidders_87 : decode cX10_bidders 87 = .ok (.lcmp, 1) := by decide +kernel
theorem dX10_bidders_88 : decode cX10_bidders 88 = .ok (.ifCond .gt 12, 3) := by decide +kernel
theorem dX10_bidders_91 : decode cX10_bidders 91 = .ok (.aload_n 0, 1) := by decide +kernel
theorem dX10_bidders_92 : decode cX10_bidders 92 = .ok (.getfield 105, 3) := by decide +kernel
theorem dX10_bidders_95 : decode cX10_bidders 95 = .ok (.bipush 7, 2) := by decide +kernel
theorem dX10_bidders_97 : decode cX10_bidders 97 = .ok (.if_icmp .ne 6, 3) := by decide +kernel
theorem dX10_bidders_100 : decode cX10_bidders 100 = .ok (.iload 4, 2) := by decide +kernel
theorem dX10_bidders_102 : decode cX10_bidders 102 = .ok (.ireturn, 1) := by decide +kernel
theorem dX10_bidders_103 : decode cX10_bidders 103 = .ok (.lload 6, 2) := by decide +kernel
theorem dX10_bidders_105 : decode cX10_bidders 105 = .ok (.l2i, 1) := by decide +kernel
theorem dX10_bidders_106 : decode cX10_bidders 106 = .ok (.istore 8, 2) := by decide +kernel
theorem dX10_bidders_108 : decode cX10_bidders 108 = .ok (.aload_n 0, 1) := by decide +kernel
theorem dX10_bidders_109 : decode cX10_bidders 109 = .ok (.iload_n 1, 1) := by decide +kernel
theorem dX10_bidders_110 : decode cX10_bidders 110 = .ok (.iload 8, 2) := by decide +kernel
theorem dX10_bidders_112 : decode cX10_bidders 112 = .ok (.invokevirtual 118, 3) := by decide +kernel
theorem dX10_bidders_115 : decode cX10_bidders 115 = .ok (.iconst 0, 1) := by decide +kernel
theorem dX10_bidders_116 : decode cX10_bidders 116 = .ok (.bipush 9, 2) := by decide +kernel
theorem dX10_bidders_118 : decode cX10_bidders 118 = .ok (.invokestatic 101, 3) := by decide +kernel
theorem dX10_bidders_121 : decode cX10_bidders 121 = .ok (.ifCond .eq 39, 3) := by decide +kernel
theorem dX10_bidders_124 : decode cX10_bidders 124 = .ok (.aload_n 0, 1) := by decide +kernel
theorem dX10_bidders_125 : decode cX10_bidders 125 = .ok (.iload_n 1, 1) := by decide +kernel
theorem dX10_bidders_126 : decode cX10_bidders 126 = .ok (.iload 8, 2) := by decide +kernel
theorem dX10_bidders_128 : decode cX10_bidders 128 = .ok (.iconst 1, 1) := by decide +kernel
theorem dX10_bidders_129 : decode cX10_bidders 129 = .ok (.iadd, 1) := by decide +kernel
theorem dX10_bidders_130 : decode cX10_bidders 130 = .ok (.invokevirtual 118, 3) := by decide +kernel
theorem dX10_bidders_133 : decode cX10_bidders 133 = .ok (.iconst 0, 1) := by decide +kernel
theorem dX10_bidders_134 : decode cX10_bidders 134 = .ok (.bipush 99, 2) := by decide +kernel
theorem dX10_bidders_136 : decode cX10_bidders 136 = .ok (.invokestatic 101, 3) := by decide +kernel
theorem dX10_bidders_139 : decode cX10_bidders 139 = .ok (.ifCond .eq 21, 3) := by decide +kernel
theorem dX10_bidders_142 : decode cX10_bidders 142 = .ok (.aload_n 0, 1) := by decide +kernel
theorem dX10_bidders_143 : decode cX10_bidders 143 = .ok (.iload_n 1, 1) := by decide +kernel
theorem dX10_bidders_144 : decode cX10_bidders 144 = .ok (.iload 8, 2) := by decide +kernel
theorem dX10_bidders_146 : decode cX10_bidders 146 = .ok (.iconst 2, 1) := by decide +kernel
theorem dX10_bidders_147 : decode cX10_bidders 147 = .ok (.iadd, 1) := by decide +kernel
theorem dX10_bidders_148 : decode cX10_bidders 148 = .ok (.invokevirtual 118, 3) := by decide +kernel
theorem dX10_bidders_151 : decode cX10_bidders 151 = .ok (.iconst 0, 1) := by decide +kernel
theorem dX10_bidders_152 : decode cX10_bidders 152 = .ok (.bipush 9, 2) := by decide +kernel
theorem dX10_bidders_154 : decode cX10_bidders 154 = .ok (.invokestatic 101, 3) := by decide +kernel
theorem dX10_bidders_157 : decode cX10_bidders 157 = .ok (.ifCond .ne 6, 3) := by decide +kernel
theorem dX10_bidders_160 : decode cX10_bidders 160 = .ok (.iload 4, 2) := by decide +kernel
theorem dX10_bidders_162 : decode cX10_bidders 162 = .ok (.ireturn, 1) := by decide +kernel
theorem dX10_bidders_163 : decode cX10_bidders 163 = .ok (.aload_n 0, 1) := by decide +kernel
theorem dX10_bidders_164 : decode cX10_bidders 164 = .ok (.aload_n 0, 1) := by decide +kernel
theorem dX10_bidders_165 : decode cX10_bidders 165 = .ok (.iload_n 1, 1) := by decide +kernel
theorem dX10_bidders_166 : decode cX10_bidders 166 = .ok (.iload 8, 2) := by decide +kernel
theorem dX10_bidders_168 : decode cX10_bidders 168 = .ok (.invokevirtual 118, 3) := by decide +kernel
theorem dX10_bidders_171 : decode cX10_bidders 171 = .ok (.aload_n 0, 1) := by decide +kernel
theorem dX10_bidders_172 : decode cX10_bidders 172 = .ok (.iload_n 1, 1) := by decide +kernel
theorem dX10_bidders_173 : decode cX10_bidders 173 = .ok (.iload 8, 2) := by decide +kernel
theorem dX10_bidders_175 : decode cX10_bidders 175 = .ok (.iconst 1, 1) := by decide +kernel
theorem dX10_bidders_176 : decode cX10_bidders 176 = .ok (.iadd, 1) := by decide +kernel
theorem dX10_bidders_177 : decode cX10_bidders 177 = .ok (.invokevirtual 118, 3) := by decide +kernel
theorem dX10_bidders_180 : decode cX10_bidders 180 = .ok (.aload_n 0, 1) := by decide +kernel
theorem dX10_bidders_181 : decode cX10_bidders 181 = .ok (.iload_n 1, 1) := by decide +kernel
theorem dX10_bidders_182 : decode cX10_bidders 182 = .ok (.iload 8, 2) := by decide +kernel
theorem dX10_bidders_184 : decode cX10_bidders 184 = .ok (.iconst 2, 1) := by decide +kernel
theorem dX10_bidders_185 : decode cX10_bidders 185 = .ok (.iadd, 1) := by decide +kernel
theorem dX10_bidders_186 : decode cX10_bidders 186 = .ok (.invokevirtual 118, 3) := by decide +kernel
theorem dX10_bidders_189 : decode cX10_bidders 189 = .ok (.invokevirtual 108, 3) := by decide +kernel
theorem dX10_bidders_192 : decode cX10_bidders 192 = .ok (.pop, 1) := by decide +kernel
theorem dX10_bidders_193 : decode cX10_bidders 193 = .ok (.iinc 4 1, 3) := by decide +kernel
theorem dX10_bidders_196 : decode cX10_bidders 196 = .ok (.iinc 5 1, 3) := by decide +kernel
theorem dX10_bidders_199 : decode cX10_bidders 199 = .ok (.goto (-150), 3) := by decide +kernel
theorem dX10_bidders_202 : decode cX10_bidders 202 = .ok (.iload 4, 2) := by decide +kernel
theorem dX10_bidders_204 : decode cX10_bidders 204 = .ok (.ireturn, 1) := by decide +kernel
theorem bX10_bidders_49 {K : KT} {g : GT} {cm sm : Nat} {cs : Nat × Nat} {c0 : Nat} {x1 : Int} {x2 : Int} {x3 : Int} {r : Int} {σ' : St} (hC : Ctx K g RX10 cX10_bidders 9 2 cm sm) (hcs : cs.1 ≤ cm ∧ cs.2 ≤ sm) (h0 : isO 10 c0 = true) (hR : RetI K g cX10_bidders 9 cs r (SH0, σ')) : ∀ (n : Nat) (x4 : Int) (x5 : Int) (σ : St), fX10_bidders_49 c0 x1 x2 x3 n x4 x5 σ = some (r, σ') → G K g 9 cs 49 [(0, vr c0), (1, vi x1), (2, vi x2), (3, vi x3), (4, vi x4), (5, vi x5)] [] (SH0, σ) := by
  intro n
  induction n with
  | zero =>
    intro x4 x5 σ h
    rw [fX10_bidders_49.eq_1] at h
    cases h
  | succ n ih =>
    intro x4 x5 σ h
    rw [fX10_bidders_49.eq_2] at h
    refine g_iload hC dX10_bidders_49 5 rfl ?_
    refine g_iload_n hC dX10_bidders_51 3 rfl rfl ?_
    refine g_icmp_ge hC dX10_bidders_52 (tgt := 202) (by decide) (fun h9 => ?_) (fun h9 => ?_)
    · rw [if_pos h9] at h
      refine g_iload hC dX10_bidders_202 4 rfl ?_
      exact ret_i h hR dX10_bidders_204
    · rw [if_neg h9] at h
      refine g_iload_n hC dX10_bidders_55 2 rfl rfl ?_
      refine g_i2l hC dX10_bidders_56 ?_
      refine g_ldc2 hC dX10_bidders_57 kRX10_116 ?_
      refine g_iload hC dX10_bidders_60 5 rfl ?_
      refine g_i2l hC dX10_bidders_62 ?_
      refine g_lmul hC dX10_bidders_63 ?_
      refine g_ladd hC dX10_bidders_64 ?_
      refine g_lstore hC dX10_bidders_65 (Nat.le_of_ble_eq_true rfl) rfl ?_
      refine g_lload hC dX10_bidders_67 0 rfl ?_
      refine g_lconst hC dX10_bidders_69 lc_0 ?_
      refine g_lcmp hC dX10_bidders_70 ?_
      refine g_if_lt hC dX10_bidders_71 (tgt := 100) (by decide) (fun h9 => ?_) (fun h9 => ?_)
      · rw [if_pos h9] at h
        refine g_iload hC dX10_bidders_100 5 rfl ?_
        exact ret_i h hR dX10_bidders_102
      · rw [if_neg h9] at h
        refine g_lload hC dX10_bidders_74 0 rfl ?_
        refine g_ldc2 hC dX10_bidders_76 kRX10_116 ?_
        refine g_ladd hC dX10_bidders_79 ?_
        refine g_aload_n hC dX10_bidders_80 1 rfl rfl ?_
        refine g_getr hC dX10_bidders_81 lfRX10_81 (isO_spec h0) (ft_10_39 h0) ?_
        refine g_iload_n hC dX10_bidders_84 2 rfl rfl ?_
        obtain ⟨b9, h⟩ := of_ite h
        refine g_iald hC dX10_bidders_85 (isA_spec (rf_10_39 h0)) b9 ?_
        refine g_i2l hC dX10_bidders_86 ?_
        refine g_lcmp hC dX10_bidders_87 ?_
        refine g_if_gt hC dX10_bidders_88 (tgt := 100) (by decide) (fun h9 => ?_) (fun h9 => ?_)
        · rw [if_pos h9] at h
          refine g_iload hC dX10_bidders_100 5 rfl ?_
          exact ret_i h hR dX10_bidders_102
        · rw [if_neg h9] at h
          refine g_aload_n hC dX10_bidders_91 1 rfl rfl ?_
          refine g_geti hC dX10_bidders_92 lfRX10_105 (isO_spec h0) (ft_10_5 h0) ?_
          refine g_bipush hC dX10_bidders_95 bp_7 ?_
          refine g_icmp_ne hC dX10_bidders_97 (tgt := 103) (by decide) (fun h9 => ?_) (fun h9 => ?_)
          · rw [if_neg h9] at h
            refine g_lload hC dX10_bidders_103 0 rfl ?_
            refine g_l2i hC dX10_bidders_105 ?_
            refine g_istore hC dX10_bidders_106 (Nat.le_of_ble_eq_true rfl) rfl ?_
            refine g_aload_n hC dX10_bidders_108 2 rfl rfl ?_
            refine g_iload_n hC dX10_bidders_109 3 rfl rfl ?_
            refine g_iload hC dX10_bidders_110 0 rfl ?_
            obtain ⟨⟨r1, s1⟩, e1, h⟩ := of_bind h
            try dsimp only at h
            refine s_callVi hC dX10_bidders_112 (tX10_toldAt h0 e1) miX10_toldAt mvX10_toldAt mlRX10_118 (isO_spec h0) vc_10 rfl rfl (Nat.le_of_ble_eq_true rfl) (Nat.le_of_ble_eq_true rfl) (Nat.le_of_ble_eq_true rfl) hcs ?_
            refine g_iconst hC dX10_bidders_115 ok_0 ?_
            refine g_bipush hC dX10_bidders_116 bp_9 ?_
            obtain ⟨⟨r2, s2⟩, e2, h⟩ := of_bind h
            try dsimp only at h
            refine s_callSi hC dX10_bidders_118 (tX10_within e2) miX10_within msX10_within mlRX10_101 rfl rfl (Nat.le_of_ble_eq_true rfl) (Nat.le_of_ble_eq_true rfl) (Nat.le_of_ble_eq_true rfl) hcs ?_
            refine g_if_eq hC dX10_bidders_121 (tgt := 160) (by decide) (fun h9 => ?_) (fun h9 => ?_)
            · rw [if_pos h9] at h
              refine g_iload hC dX10_bidders_160 6 rfl ?_
              exact ret_i h hR dX10_bidders_162
            · rw [if_neg h9] at h
              refine g_aload_n hC dX10_bidders_124 2 rfl rfl ?_
              refine g_iload_n hC dX10_bidders_125 3 rfl rfl ?_
              refine g_iload hC dX10_bidders_126 0 rfl ?_
              refine g_iconst hC dX10_bidders_128 ok_1 ?_
              refine g_iadd hC dX10_bidders_129 ?_
              obtain ⟨⟨r3, s3⟩, e3, h⟩ := of_bind h
              try dsimp only at h
              refine s_callVi hC dX10_bidders_130 (tX10_toldAt h0 e3) miX10_toldAt mvX10_toldAt mlRX10_118 (isO_spec h0) vc_10 rfl rfl (Nat.le_of_ble_eq_true rfl) (Nat.le_of_ble_eq_true rfl) (Nat.le_of_ble_eq_true rfl) hcs ?_
              refine g_iconst hC dX10_bidders_133 ok_0 ?_
              refine g_bipush hC dX10_bidders_134 bp_99 ?_
              obtain ⟨⟨r4, s4⟩, e4, h⟩ := of_bind h
              try dsimp only at h
              refine s_callSi hC dX10_bidders_136 (tX10_within e4) miX10_within msX10_within mlRX10_101 rfl rfl (Nat.le_of_ble_eq_true rfl) (Nat.le_of_ble_eq_true rfl) (Nat.le_of_ble_eq_true rfl) hcs ?_
              refine g_if_eq hC dX10_bidders_139 (tgt := 160) (by decide) (fun h9 => ?_) (fun h9 => ?_)
              · rw [if_pos h9] at h
                refine g_iload hC dX10_bidders_160 6 rfl ?_
                exact ret_i h hR dX10_bidders_162
              · rw [if_neg h9] at h
                refine g_aload_n hC dX10_bidders_142 2 rfl rfl ?_
                refine g_iload_n hC dX10_bidders_143 3 rfl rfl ?_
                refine g_iload hC dX10_bidders_144 0 rfl ?_
                refine g_iconst hC dX10_bidders_146 ok_2 ?_
                refine g_iadd hC dX10_bidders_147 ?_
                obtain ⟨⟨r5, s5⟩, e5, h⟩ := of_bind h
                try dsimp only at h
                refine s_callVi hC dX10_bidders_148 (tX10_toldAt h0 e5) miX10_toldAt mvX10_toldAt mlRX10_118 (isO_spec h0) vc_10 rfl rfl (Nat.le_of_ble_eq_true rfl) (Nat.le_of_ble_eq_true rfl) (Nat.le_of_ble_eq_true rfl) hcs ?_
                refine g_iconst hC dX10_bidders_151 ok_0 ?_
                refine g_bipush hC dX10_bidders_152 bp_9 ?_
                obtain ⟨⟨r6, s6⟩, e6, h⟩ := of_bind h
                try dsimp only at h
                refine s_callSi hC dX10_bidders_154 (tX10_within e6) miX10_within msX10_within mlRX10_101 rfl rfl (Nat.le_of_ble_eq_true rfl) (Nat.le_of_ble_eq_true rfl) (Nat.le_of_ble_eq_true rfl) hcs ?_
                refine g_if_ne hC dX10_bidders_157 (tgt := 163) (by decide) (fun h9 => ?_) (fun h9 => ?_)
                · rw [if_neg h9] at h
                  refine g_aload_n hC dX10_bidders_163 2 rfl rfl ?_
                  refine g_aload_n hC dX10_bidders_164 2 rfl rfl ?_
                  refine g_iload_n hC dX10_bidders_165 3 rfl rfl ?_
                  refine g_iload hC dX10_bidders_166 0 rfl ?_
                  obtain ⟨⟨r7, s7⟩, e7, h⟩ := of_bind h
                  try dsimp only at h
                  refine s_callVi hC dX10_bidders_168 (tX10_toldAt h0 e7) miX10_toldAt mvX10_toldAt mlRX10_118 (isO_spec h0) vc_10 rfl rfl (Nat.le_of_ble_eq_true rfl) (Nat.le_of_ble_eq_true rfl) (Nat.le_of_ble_eq_true rfl) hcs ?_
                  refine g_aload_n hC dX10_bidders_171 2 rfl rfl ?_
                  refine g_iload_n hC dX10_bidders_172 3 rfl rfl ?_
                  refine g_iload hC dX10_bidders_173 0 rfl ?_
                  refine g_iconst hC dX10_bidders_175 ok_1 ?_
                  refine g_iadd hC dX10_bidders_176 ?_
                  obtain ⟨⟨r8, s8⟩, e8, h⟩ := of_bind h
                  try dsimp only at h
                  refine s_callVi hC dX10_bidders_177 (tX10_toldAt h0 e8) miX10_toldAt mvX10_toldAt mlRX10_118 (isO_spec h0) vc_10 rfl rfl (Nat.le_of_ble_eq_true rfl) (Nat.le_of_ble_eq_true rfl) (Nat.le_of_ble_eq_true rfl) hcs ?_
                  refine g_aload_n hC dX10_bidders_180 2 rfl rfl ?_
                  refine g_iload_n hC dX10_bidders_181 3 rfl rfl ?_
                  refine g_iload hC dX10_bidders_182 0 rfl ?_
                  refine g_iconst hC dX10_bidders_184 ok_2 ?_
                  refine g_iadd hC dX10_bidders_185 ?_
                  obtain ⟨⟨r9, s9⟩, e9, h⟩ := of_bind h
                  try dsimp only at h
                  refine s_callVi hC dX10_bidders_186 (tX10_toldAt h0 e9) miX10_toldAt mvX10_toldAt mlRX10_118 (isO_spec h0) vc_10 rfl rfl (Nat.le_of_ble_eq_true rfl) (Nat.le_of_ble_eq_true rfl) (Nat.le_of_ble_eq_true rfl) hcs ?_
                  obtain ⟨⟨r10, s10⟩, e10, h⟩ := of_bind h
                  try dsimp only at h
                  refine s_callVi hC dX10_bidders_189 (tX10_newOne h0 e10) miX10_newOne mvX10_newOne mlRX10_108 (isO_spec h0) vc_10 rfl rfl (Nat.le_of_ble_eq_true rfl) (Nat.le_of_ble_eq_true rfl) (Nat.le_of_ble_eq_true rfl) hcs ?_
                  refine g_pop hC dX10_bidders_192 rfl ?_
                  refine g_iinc hC dX10_bidders_193 6 rfl (Nat.le_of_ble_eq_true rfl) rfl ?_
                  refine g_iinc hC dX10_bidders_196 7 rfl (Nat.le_of_ble_eq_true rfl) rfl ?_
                  refine g_goto hC dX10_bidders_199 (tgt := 49) (by decide) ?_
                  exact g_pick [4, 5, 6, 7, 1, 0] rfl (ih _ _ _ h)
                · rw [if_pos h9] at h
                  refine g_iload hC dX10_bidders_160 6 rfl ?_
                  exact ret_i h hR dX10_bidders_162
          · rw [if_pos h9] at h
            refine g_iload hC dX10_bidders_100 5 rfl ?_
            exact ret_i h hR dX10_bidders_102
theorem bX10_bidders_0 {K : KT} {g : GT} {cm sm : Nat} {cs : Nat × Nat} {c0 : Nat} {x1 : Int} {x2 : Int} {x3 : Int} {r : Int} {σ' : St} (hC : Ctx K g RX10 cX10_bidders 9 2 cm sm) (hcs : cs.1 ≤ cm ∧ cs.2 ≤ sm) (h0 : isO 10 c0 = true) (hR : RetI K g cX10_bidders 9 cs r (SH0, σ')) : ∀ (σ : St), fX10_bidders c0 x1 x2 x3 σ = some (r, σ') → G K g 9 cs 0 [(0, vr c0), (1, vi x1), (2, vi x2), (3, vi x3)] [] (SH0, σ) := by
  intro σ h
  unfold fX10_bidders at h
  refine g_iload_n hC dX10_bidders_0 1 rfl rfl ?_
  obtain ⟨⟨r1, s1⟩, e1, h⟩ := of_bind h
  try dsimp only at h
  refine s_callSi hC dX10_bidders_1 (tX10_isShelf e1) miX10_isShelf msX10_isShelf mlRX10_112 rfl rfl (Nat.le_of_ble_eq_true rfl) (Nat.le_of_ble_eq_true rfl) (Nat.le_of_ble_eq_true rfl) hcs ?_
  refine g_if_eq hC dX10_bidders_4 (tgt := 17) (by decide) (fun h9 => ?_) (fun h9 => ?_)
  · rw [if_pos h9] at h
    refine g_iconst hC dX10_bidders_17 ok_m1 ?_
    exact ret_i h hR dX10_bidders_18
  · rw [if_neg h9] at h
    refine g_iload_n hC dX10_bidders_7 3 rfl rfl ?_
    refine g_iconst hC dX10_bidders_8 ok_1 ?_
    refine g_bipush hC dX10_bidders_9 bp_7 ?_
    obtain ⟨⟨r2, s2⟩, e2, h⟩ := of_bind h
    try dsimp only at h
    refine s_callSi hC dX10_bidders_11 (tX10_within e2) miX10_within msX10_within mlRX10_101 rfl rfl (Nat.le_of_ble_eq_true rfl) (Nat.le_of_ble_eq_true rfl) (Nat.le_of_ble_eq_true rfl) hcs ?_
    refine g_if_ne hC dX10_bidders_14 (tgt := 19) (by decide) (fun h9 => ?_) (fun h9 => ?_)
    · rw [if_neg h9] at h
      refine g_aload_n hC dX10_bidders_19 0 rfl rfl ?_
      refine g_getr hC dX10_bidders_20 lfRX10_78 (isO_spec h0) (ft_10_38 h0) ?_
      refine g_iload_n hC dX10_bidders_23 1 rfl rfl ?_
      obtain ⟨b9, h⟩ := of_ite h
      refine g_iald hC dX10_bidders_24 (isA_spec (rf_10_38 h0)) b9 ?_
      refine g_iconst hC dX10_bidders_25 ok_m1 ?_
      refine g_icmp_ne hC dX10_bidders_26 (tgt := 31) (by decide) (fun h9 => ?_) (fun h9 => ?_)
      · rw [if_neg h9] at h
        refine g_aload_n hC dX10_bidders_31 0 rfl rfl ?_
        refine g_getr hC dX10_bidders_32 lfRX10_78 (isO_spec h0) (ft_10_38 h0) ?_
        refine g_iload_n hC dX10_bidders_35 1 rfl rfl ?_
        obtain ⟨b9, h⟩ := of_ite h
        refine g_iald hC dX10_bidders_36 (isA_spec (rf_10_38 h0)) b9 ?_
        refine g_if_eq hC dX10_bidders_37 (tgt := 43) (by decide) (fun h9 => ?_) (fun h9 => ?_)
        · rw [if_pos h9] at h
          refine g_iconst hC dX10_bidders_43 ok_0 ?_
          refine g_istore hC dX10_bidders_44 (Nat.le_of_ble_eq_true rfl) rfl ?_
          refine g_iconst hC dX10_bidders_46 ok_0 ?_
          refine g_istore hC dX10_bidders_47 (Nat.le_of_ble_eq_true rfl) rfl ?_
          exact g_pick [2, 3, 4, 5, 1, 0] rfl (bX10_bidders_49 hC hcs h0 hR _ _ _ _ h)
        · rw [if_neg h9] at h
          refine g_bipush hC dX10_bidders_40 bp_m12 ?_
          exact ret_i h hR dX10_bidders_42
      · rw [if_pos h9] at h
        refine g_iconst hC dX10_bidders_29 ok_0 ?_
        exact ret_i h hR dX10_bidders_30
    · rw [if_pos h9] at h
      refine g_iconst hC dX10_bidders_17 ok_m1 ?_
      exact ret_i h hR dX10_bidders_18
theorem tX10_bidders {l : Launch} {g : GT} {c0 : Nat} {x1 : Int} {x2 : Int} {x3 : Int} {σ σ' : St} {r : Int} (h0 : isO 10 c0 = true) (h : fX10_bidders c0 x1 x2 x3 σ = some (r, σ')) : Cn l g yX10_bidders cX10_bidders 9 (some .int) 2 0 0 [vr c0, vi x1, vi x2, vi x3] (SH0, σ) (some (vi r)) (SH0, σ') :=
  Cn.ofI (by decide) (Nat.le_of_ble_eq_true rfl) (fun K e hC hR => (bX10_bidders_0 hC ⟨Nat.le_refl _, Nat.le_refl _⟩ h0 hR _ h))
theorem dX10_body_0 : decode cX10_body 0 = .ok (.iload_n 1, 1) := by decide +kernel
theorem dX10_body_1 : decode cX10_body 1 = .ok (.iconst 0, 1) := by decide +kernel
theorem dX10_body_2 : decode cX10_body 2 = .ok (.bipush 7, 2) := by decide +kernel
theorem dX10_body_4 : decode cX10_body 4 = .ok (.invokestatic 101, 3) := by decide +kernel
theorem dX10_body_7 : decode cX10_body 7 = .ok (.ifCond .ne 5, 3) := by decide +kernel
theorem dX10_body_10 : decode cX10_body 10 = .ok (.iconst (-1), 1) := by decide +kernel
theorem dX10_body_11 : decode cX10_body 11 = .ok (.ireturn, 1) := by decide +kernel
theorem dX10_body_12 : decode cX10_body 12 = .ok (.aload_n 0, 1) := by decide +kernel
theorem dX10_body_13 : decode cX10_body 13 = .ok (.getfield 348, 3) := by decide +kernel
theorem dX10_body_16 : decode cX10_body 16 = .ok (.bipush 50, 2) := by decide +kernel
theorem dX10_body_18 : decode cX10_body 18 = .ok (.if_icmp .ne 6, 3) := by decide +kernel
theorem dX10_body_21 : decode cX10_body 21 = .ok (.bipush (-3), 2) := by decide +kernel
theorem dX10_body_23 : decode cX10_body 23 = .ok (.ireturn, 1) := by decide +kernel
theorem dX10_body_24 : decode cX10_body 24 = .ok (.aload_n 0, 1) := by decide +kernel
theorem dX10_body_25 : decode cX10_body 25 = .ok (.getfield 72, 3) := by decide +kernel
theorem dX10_body_28 : decode cX10_body 28 = .ok (.aload_n 0, 1) := by decide +kernel
theorem dX10_body_29 : decode cX10_body 29 = .ok (.getfield 348, 3) := by decide +kernel
theorem dX10_body_32 : decode cX10_body 32 = .ok (.iload_n 1, 1) := by decide +kernel
theorem dX10_body_33 : decode cX10_body 33 = .ok (.iastore, 1) := by decide +kernel
theorem dX10_body_34 : decode cX10_body 34 = .ok (.aload_n 0, 1) := by decide +kernel
theorem dX10_body_35 : decode cX10_body 35 = .ok (.dup, 1) := by decide +kernel
theorem dX10_body_36 : decode cX10_body 36 = .ok (.getfield 348, 3) := by decide +kernel
theorem dX10_body_39 : decode cX10_body 39 = .ok (.dup_x1, 1) := by decide +kernel
theorem dX10_body_40 : decode cX10_body 40 = .ok (.iconst 1, 1) := by decide +kernel
theorem dX10_body_41 : decode cX10_body 41 = .ok (.iadd, 1) := by decide +kernel
theorem dX10_body_42 : decode cX10_body 42 = .ok (.putfield 348, 3) := by decide +kernel
theorem dX10_body_45 : decode cX10_body 45 = .ok (.ireturn, 1) := by decide +kernel
theorem bX10_body_0 {K : KT} {g : GT} {cm sm : Nat} {cs : Nat × Nat} {c0 : Nat} {x1 : Int} {r : Int} {σ' : St} (hC : Ctx K g RX10 cX10_body 2 1 cm sm) (hcs : cs.1 ≤ cm ∧ cs.2 ≤ sm) (h0 : isO 10 c0 = true) (hR : RetI K g cX10_body 2 cs r (SH0, σ')) : ∀ (σ : St), fX10_body c0 x1 σ = some (r, σ') → G K g 2 cs 0 [(0, vr c0), (1, vi x1)] [] (SH0, σ) := by
  intro σ h
  unfold fX10_body at h
  refine g_iload_n hC dX10_body_0 1 rfl rfl ?_
  refine g_iconst hC dX10_body_1 ok_0 ?_
  refine g_bipush hC dX10_body_2 bp_7 ?_
  obtain ⟨⟨r1, s1⟩, e1, h⟩ := of_bind h
  try dsimp only at h
  refine s_callSi hC dX10_body_4 (tX10_within e1) miX10_within msX10_within mlRX10_101 rfl rfl (Nat.le_of_ble_eq_true rfl) (Nat.le_of_ble_eq_true rfl) (Nat.le_of_ble_eq_true rfl) hcs ?_
  refine g_if_ne hC dX10_body_7 (tgt := 12) (by decide) (fun h9 => ?_) (fun h9 => ?_)
  · rw [if_neg h9] at h
    refine g_aload_n hC dX10_body_12 0 rfl rfl ?_
    refine g_geti hC dX10_body_13 lfRX10_348 (isO_spec h0) (ft_10_34 h0) ?_
    refine g_bipush hC dX10_body_16 bp_50 ?_
    refine g_icmp_ne hC dX10_body_18 (tgt := 24) (by decide) (fun h9 => ?_) (fun h9 => ?_)
    · rw [if_neg h9] at h
      refine g_aload_n hC dX10_body_24 0 rfl rfl ?_
      refine g_getr hC dX10_body_25 lfRX10_72 (isO_spec h0) (ft_10_35 h0) ?_
      refine g_aload_n hC dX10_body_28 0 rfl rfl ?_
      refine g_geti hC dX10_body_29 lfRX10_348 (isO_spec h0) (ft_10_34 h0) ?_
      refine g_iload_n hC dX10_body_32 1 rfl rfl ?_
      obtain ⟨b9, h⟩ := of_ite h
      refine g_iast hC dX10_body_33 (isA_spec (rf_10_35 h0)) b9 ?_
      refine g_aload_n hC dX10_body_34 0 rfl rfl ?_
      refine g_dup hC dX10_body_35 rfl ?_
      refine g_geti hC dX10_body_36 lfRX10_348 (isO_spec h0) (ft_10_34 h0) ?_
      refine g_dup_x1 hC dX10_body_39 rfl rfl ?_
      refine g_iconst hC dX10_body_40 ok_1 ?_
      refine g_iadd hC dX10_body_41 ?_
      refine g_puti hC dX10_body_42 lfRX10_348 fp_10_34 (isO_spec h0) (ft_10_34 h0) ?_
      exact ret_i h hR dX10_body_45
    · rw [if_pos h9] at h
      refine g_bipush hC dX10_body_21 bp_m3 ?_
      exact ret_i h hR dX10_body_23
  · rw [if_pos h9] at h
    refine g_iconst hC dX10_body_10 ok_m1 ?_
    exact ret_i h hR dX10_body_11
theorem tX10_body {l : Launch} {g : GT} {c0 : Nat} {x1 : Int} {σ σ' : St} {r : Int} (h0 : isO 10 c0 = true) (h : fX10_body c0 x1 σ = some (r, σ')) : Cn l g yX10_body cX10_body 2 (some .int) 1 0 0 [vr c0, vi x1] (SH0, σ) (some (vi r)) (SH0, σ') :=
  Cn.ofI (by decide) (Nat.le_of_ble_eq_true rfl) (fun K e hC hR => (bX10_body_0 hC ⟨Nat.le_refl _, Nat.le_refl _⟩ h0 hR _ h))
theorem dX10_turnFrom_0 : decode cX10_turnFrom 0 = .ok (.iload_n 1, 1) := by decide +kernel
theorem dX10_turnFrom_1 : decode cX10_turnFrom 1 = .ok (.iload_n 2, 1) := by decide +kernel
theorem dX10_turnFrom_2 : decode cX10_turnFrom 2 = .ok (.if_icmp .ne 39, 3) := by decide +kernel
theorem dX10_turnFrom_5 : decode cX10_turnFrom 5 = .ok (.aload_n 0, 1) := by decide +kernel
theorem dX10_turnFrom_6 : decode cX10_turnFrom 6 = .ok (.iload 4, 2) := by decide +kernel
theorem dX10_turnFrom_8 : decode cX10_turnFrom 8 = .ok (.invokevirtual 242, 3) := by decide +kernel
theorem dX10_turnFrom_11 : decode cX10_turnFrom 11 = .ok (.iload_n 3, 1) := by decide +kernel
theorem dX10_turnFrom_12 : decode cX10_turnFrom 12 = .ok (.bipush 10, 2) := by decide +kernel
theorem dX10_turnFrom_14 : decode cX10_turnFrom 14 = .ok (.idiv, 1) := by decide +kernel
theorem dX10_turnFrom_15 : decode cX10_turnFrom 15 = .ok (.if_icmp .ne 7, 3) := by decide +kernel
theorem dX10_turnFrom_18 : decode cX10_turnFrom 18 = .ok (.iconst 1, 1) := by decide +kernel
theorem dX10_turnFrom_19 : decode cX10_turnFrom 19 = .ok (.goto 21, 3) := by decide +kernel
theorem dX10_turnFrom_22 : decode cX10_turnFrom 22 = .ok (.aload_n 0, 1) := by decide +kernel
theorem dX10_turnFrom_23 : decode cX10_turnFrom 23 = .ok (.iload 4, 2) := by decide +kernel
theorem dX10_turnFrom_25 : decode cX10_turnFrom 25 = .ok (.invokevirtual 242, 3) := by decide +kernel
theorem dX10_turnFrom_28 : decode cX10_turnFrom 28 = .ok (.iload_n 3, 1) := by decide +kernel
theorem dX10_turnFrom_29 : decode cX10_turnFrom 29 = .ok (.bipush 10, 2) := by decide +kernel
theorem dX10_turnFrom_31 : decode cX10_turnFrom 31 = .ok (.irem, 1) := by decide +kernel
theorem dX10_turnFrom_32 : decode cX10_turnFrom 32 = .ok (.if_icmp .ne 7, 3) := by decide +kernel
theorem dX10_turnFrom_35 : decode cX10_turnFrom 35 = .ok (.iconst (-1), 1) := by decide +kernel
theorem dX10_turnFrom_36 : decode cX10_turnFrom 36 = .ok (.goto 4, 3) := by decide +kernel
theorem dX10_turnFrom_39 : decode cX10_turnFrom 39 = .ok (.iconst 0, 1) := by decide +kernel
theorem dX10_turnFrom_40 : decode cX10_turnFrom 40 = .ok (.ireturn, 1) := by decide +kernel
theorem dX10_turnFrom_41 : decode cX10_turnFrom 41 = .ok (.aload_n 0, 1) := by decide +kernel
theorem dX10_turnFrom_42 : decode cX10_turnFrom 42 = .ok (.iload_n 1, 1) := by decide +kernel
theorem dX10_turnFrom_43 : decode cX10_turnFrom 43 = .ok (.iload_n 2, 1) := by decide +kernel
theorem dX10_turnFrom_44 : decode cX10_turnFrom 44 = .ok (.iload_n 3, 1) := by decide +kernel
theorem dX10_turnFrom_45 : decode cX10_turnFrom 45 = .ok (.iload 4, 2) := by decide +kernel
theorem dX10_turnFrom_47 : decode cX10_turnFrom 47 = .ok (.iconst 2, 1) := by decide +kernel
theorem dX10_turnFrom_48 : decode cX10_turnFrom 48 = .ok (.invokevirtual 308, 3) := by decide +kernel
theorem dX10_turnFrom_51 : decode cX10_turnFrom 51 = .ok (.istore 5, 2) := by decide +kernel
theorem dX10_turnFrom_53 : decode cX10_turnFrom 53 = .ok (.iconst 0, 1) := by decide +kernel
theorem dX10_turnFrom_54 : decode cX10_turnFrom 54 = .ok (.istore 6, 2) := by decide +kernel
theorem dX10_turnFrom_56 : decode cX10_turnFrom 56 = .ok (.iload 6, 2) := by decide +kernel
theorem dX10_turnFrom_58 : decode cX10_turnFrom 58 = .ok (.iconst 2, 1) := by decide +kernel
theorem dX10_turnFrom_59 : decode cX10_turnFrom 59 = .ok (.if_icmp .ge 47, 3) := by decide +kernel
theorem dX10_turnFrom_62 : decode cX10_turnFrom 62 = .ok (.aload_n 0, 1) := by decide +kernel
theorem dX10_turnFrom_63 : decode cX10_turnFrom 63 = .ok (.iload_n 1, 1) := by decide +kernel
theorem dX10_turnFrom_64 : decode cX10_turnFrom 64 = .ok (.iload_n 2, 1) := by decide +kernel
theorem dX10_turnFrom_65 : decode cX10_turnFrom 65 = .ok (.iload_n 3, 1) := by decide +kernel
theorem dX10_turnFrom_66 : decode cX10_turnFrom 66 = .ok (.iload 4, 2) := by decide +kernel
theorem dX10_turnFrom_68 : decode cX10_turnFrom 68 = .ok (.iload 6, 2) := by decide +kernel
theorem dX10_turnFrom_70 : decode cX10_turnFrom 70 = .ok (.invokevirtual 308, 3) := by decide +kernel
theorem dX10_turnFrom_73 : decode cX10_turnFrom 73 = .ok (.istore 7, 2) := by decide +kernel
theorem dX10_turnFrom_75 : decode cX10_turnFrom 75 = .ok (.iload_n 1, 1) := by decide +kernel
theorem dX10_turnFrom_76 : decode cX10_turnFrom 76 = .ok (.iconst 2, 1) := by decide +kernel
theorem dX10_turnFrom_77 : decode cX10_turnFrom 77 = .ok (.irem, 1) := by decide +kernel
theorem dX10_turnFrom_78 : decode cX10_turnFrom 78 = .ok (.ifCond .ne 13, 3) := by decide +kernel
theorem dX10_turnFrom_81 : decode cX10_turnFrom 81 = .ok (.iload 5, 2) := by decide +kernel
theorem dX10_turnFrom_83 : decode cX10_turnFrom 83 = .ok (.iload 7, 2) := by decide +kernel
theorem dX10_turnFrom_85 : decode cX10_turnFrom 85 = .ok (.invokestatic 227, 3) := by decide +kernel
theorem dX10_turnFrom_88 : decode cX10_turnFrom 88 = .ok (.goto 10, 3) := by decide +kernel
theorem dX10_turnFrom_91 : decode cX10_turnFrom 91 = .ok (.iload 5, 2) := by decide +kernel
theorem dX10_turnFrom_93 : decode cX10_turnFrom 93 = .ok (.iload 7, 2) := by decide +kernel
theorem dX10_turnFrom_95 : decode cX10_turnFrom 95 = .ok (.invokestatic 222, 3) := by decide +kernel
theorem dX10_turnFrom_98 : decode cX10_turnFrom 98 = .ok (.istore 5, 2) := by decide +kernel
theorem dX10_turnFrom_100 : decode cX10_turnFrom 100 = .ok (.iinc 6 1, 3) := by decide +kernel
theorem dX10_turnFrom_103 : decode cX10_turnFrom 103 = .ok (.goto (-47), 3) := by decide +kernel
theorem dX10_turnFrom_106 : decode cX10_turnFrom 106 = .ok (.iload 5, 2) := by decide +kernel
theorem dX10_turnFrom_108 : decode cX10_turnFrom 108 = .ok (.ireturn, 1) := by decide +kernel
theorem dX10_turnBy_0 : decode cX10_turnBy 0 = .ok (.iload_n 1, 1) := by decide +kernel
theorem dX10_turnBy_1 : decode cX10_turnBy 1 = .ok (.iconst 2, 1) := by decide +kernel
theorem dX10_turnBy_2 : decode cX10_turnBy 2 = .ok (.irem, 1) := by decide +kernel
theorem dX10_turnBy_3 : decode cX10_turnBy 3 = .ok (.ifCond .ne 10, 3) := by decide +kernel
theorem dX10_turnBy_6 : decode cX10_turnBy 6 = .ok (.iload_n 3, 1) := by decide +kernel
theorem dX10_turnBy_7 : decode cX10_turnBy 7 = .ok (.bipush 10, 2) := by decide +kernel
theorem dX10_turnBy_9 : decode cX10_turnBy 9 = .ok (.idiv, 1) := by decide +kernel
theorem dX10_turnBy_10 : decode cX10_turnBy 10 = .ok (.goto 7, 3) := by decide +kernel
theorem dX10_turnBy_13 : decode cX10_turnBy 13 = .ok (.iload_n 3, 1) := by decide +kernel
theorem dX10_turnBy_14 : decode cX10_turnBy 14 = .ok (.bipush 10, 2) := by decide +kernel
theorem dX10_turnBy_16 : decode cX10_turnBy 16 = .ok (.irem, 1) := by decide +kernel
theorem dX10_turnBy_17 : decode cX10_turnBy 17 = .ok (.istore 6, 2) := by decide +kernel
theorem dX10_turnBy_19 : decode cX10_turnBy 19 = .ok (.iload_n 1, 1) := by decide +kernel
theorem dX10_turnBy_20 : decode cX10_turnBy 20 = .ok (.iconst 2, 1) := by decide +kernel
theorem dX10_turnBy_21 : decode cX10_turnBy 21 = .ok (.irem, 1) := by decide +kernel
theorem dX10_turnBy_22 : decode cX10_turnBy 22 = .ok (.ifCond .ne 10, 3) := by decide +kernel
theorem dX10_turnBy_25 : decode cX10_turnBy 25 = .ok (.iload_n 3, 1) := by decide +kernel
theorem dX10_turnBy_26 : decode cX10_turnBy 26 = .ok (.bipush 10, 2) := by decide +kernel
theorem dX10_turnBy_28 : decode cX10_turnBy 28 = .ok (.irem, 1) := by decide +kernel
theorem dX10_turnBy_29 : decode cX10_turnBy 29 = .ok (.goto 7, 3) := by decide +kernel
theorem dX10_turnBy_32 : decode cX10_turnBy 32 = .ok (.iload_n 3, 1) := by decide +kernel
theorem dX10_turnBy_33 : decode cX10_turnBy 33 = .ok (.bipush 10, 2) := by decide +kernel
theorem dX10_turnBy_35 : decode cX10_turnBy 35 = .ok (.idiv, 1) := by decide +kernel
theorem dX10_turnBy_36 : decode cX10_turnBy 36 = .ok (.istore 7, 2) := by decide +kernel
theorem dX10_turnBy_38 : decode cX10_turnBy 38 = .ok (.aload_n 0, 1) := by decide +kernel
theorem dX10_turnBy_39 : decode cX10_turnBy 39 = .ok (.getfield 24, 3) := by decide +kernel
theorem dX10_turnBy_42 : decode cX10_turnBy 42 = .ok (.bipush 21, 2) := by decide +kernel
theorem dX10_turnBy_44 : decode cX10_turnBy 44 = .ok (.iload 6, 2) := by decide +kernel
theorem dX10_turnBy_46 : decode cX10_turnBy 46 = .ok (.iadd, 1) := by decide +kernel
theorem dX10_turnBy_47 : decode cX10_turnBy 47 = .ok (.iaload, 1) := by decide +kernel
theorem dX10_turnBy_48 : decode cX10_turnBy 48 = .ok (.istore 8, 2) := by decide +kernel
theorem dX10_turnBy_50 : decode cX10_turnBy 50 = .ok (.aload_n 0, 1) := by decide +kernel
theorem dX10_turnBy_51 : decode cX10_turnBy 51 = .ok (.getfield 24, 3) := by decide +kernel
theorem dX10_turnBy_54 : decode cX10_turnBy 54 = .ok (.bipush 28, 2) := by decide +kernel
theorem dX10_turnBy_56 : decode cX10_turnBy 56 = .ok (.iload 7, 2) := by decide +kernel
theorem dX10_turnBy_58 : decode cX10_turnBy 58 = .ok (.iadd, 1) := by decide +kernel
theorem dX10_turnBy_59 : decode cX10_turnBy 59 = .ok (.iaload, 1) := by decide +kernel
theorem dX10_turnBy_60 : decode cX10_turnBy 60 = .ok (.istore 9, 2) := by decide +kernel
theorem dX10_turnBy_62 : decode cX10_turnBy 62 = .ok (.iload 5, 2) := by decide +kernel
theorem dX10_turnBy_64 : decode cX10_turnBy 64 = .ok (.ifCond .ne 22, 3) := by decide +kernel
theorem dX10_turnBy_67 : decode cX10_turnBy 67 = .ok (.aload_n 0, 1) := by decide +kernel
theorem dX10_turnBy_68 : decode cX10_turnBy 68 = .ok (.getfield 24, 3) := by decide +kernel
theorem dX10_turnBy_71 : decode cX10_turnBy 71 = .ok (.bipush 21, 2) := by decide +kernel
theorem dX10_turnBy_73 : decode cX10_turnBy 73 = .ok (.iload 6, 2) := by decide +kernel
theorem dX10_turnBy_75 : decode cX10_turnBy 75 = .ok (.iadd, 1) := by decide +kernel
theorem dX10_turnBy_76 : decode cX10_turnBy 76 = .ok (.bipush 9, 2) := by decide +kernel
theorem dX10_turnBy_78 : decode cX10_turnBy 78 = .ok (.iload 8, 2) := by decide +kernel
theorem dX10_turnBy_80 : decode cX10_turnBy 80 = .ok (.iconst 1, 1) := by decide +kernel
theorem dX10_turnBy_81 : decode cX10_turnBy 81 = .ok (.iadd, 1) := by decide +kernel
theorem dX10_turnBy_82 : decode cX10_turnBy 82 = .ok (.invokestatic 222, 3) := by decide +kernel
theorem dX10_turnBy_85 : decode cX10_turnBy 85 = .ok (.iastore, 1) := by decide +kernel
theorem dX10_turnBy_86 : decode cX10_turnBy 86 = .ok (.iload 5, 2) := by decide +kernel
theorem dX10_turnBy_88 : decode cX10_turnBy 88 = .ok (.iconst 1, 1) := by decide +kernel
theorem dX10_turnBy_89 : decode cX10_turnBy 89 = .ok (.if_icmp .ne 14, 3) := by decide +kernel
theorem dX10_turnBy_92 : decode cX10_turnBy 92 = .ok (.aload_n 0, 1) := by decide +kernel
theorem dX10_turnBy_93 : decode cX10_turnBy 93 = .ok (.getfield 24, 3) := by decide +kernel
theorem dX10_turnBy_96 : decode cX10_turnBy 96 = .ok (.bipush 28, 2) := by decide +kernel
theorem dX10_turnBy_98 : decode cX10_turnBy 98 = .ok (.iload 7, 2) := by decide +kernel
theorem dX10_turnBy_100 : decode cX10_turnBy 100 = .ok (.iadd, 1) := by decide +kernel
theorem dX10_turnBy_101 : decode cX10_turnBy 101 = .ok (.iconst 1, 1) := by decide +kernel
theorem dX10_turnBy_102 : decode cX10_turnBy 102 = .ok (.iastore, 1) := by decide +kernel
theorem dX10_turnBy_103 : decode cX10_turnBy 103 = .ok (.aload_n 0, 1) := by decide +kernel
theorem dX10_turnBy_104 : decode cX10_turnBy 104 = .ok (.iload_n 1, 1) := by decide +kernel
theorem dX10_turnBy_105 : decode cX10_turnBy 105 = .ok (.iconst 1, 1) := by decide +kernel
theorem dX10_turnBy_106 : decode cX10_turnBy 106 = .ok (.iadd, 1) := by decide +kernel
theorem dX10_turnBy_107 : decode cX10_turnBy 107 = .ok (.iload_n 2, 1) := by decide +kernel
theorem dX10_turnBy_108 : decode cX10_turnBy 108 = .ok (.iload_n 3, 1) := by decide +kernel
theorem dX10_turnBy_109 : decode cX10_turnBy 109 = .ok (.iload 4, 2) := by decide +kernel
theorem dX10_turnBy_111 : decode cX10_turnBy 111 = .ok (.invokevirtual 312, 3) := by decide +kernel
theorem dX10_turnBy_114 : decode cX10_turnBy 114 = .ok (.istore 10, 2) := by decide +kernel
theorem dX10_turnBy_116 : decode cX10_turnBy 116 = .ok (.aload_n 0, 1) := by decide +kernel
theorem dX10_turnBy_117 : decode cX10_turnBy 117 = .ok (.getfield 24, 3) := by decide +kernel
theorem dX10_turnBy_120 : decode cX10_turnBy 120 = .ok (.bipush 21, 2) := by decide +kernel
theorem dX10_turnBy_122 : decode cX10_turnBy 122 = .ok (.iload 6, 2) := by decide +kernel
theorem dX10_turnBy_124 : decode cX10_turnBy 124 = .ok (.iadd, 1) := by decide +kernel
theorem dX10_turnBy_125 : decode cX10_turnBy 125 = .ok (.iload 8, 2) := by decide +kernel
theorem dX10_turnBy_127 : decode cX10_turnBy 127 = .ok (.iastore, 1) := by decide +kernel
theorem dX10_turnBy_128 : decode cX10_turnBy 128 = .ok (.aload_n 0, 1) := by decide +kernel
theorem dX10_turnBy_129 : decode cX10_turnBy 129 = .ok (.getfield 24, 3) := by decide +kernel
theorem dX10_turnBy_132 : decode cX10_turnBy 132 = .ok (.bipush 28, 2) := by decide +kernel
theorem dX10_turnBy_134 : decode cX10_turnBy 134 = .ok (.iload 7, 2) := by decide +kernel
theorem dX10_turnBy_136 : decode cX10_turnBy 136 = .ok (.iadd, 1) := by decide +kernel
theorem dX10_turnBy_137 : decode cX10_turnBy 137 = .ok (.iload 9, 2) := by decide +kernel
theorem dX10_turnBy_139 : decode cX10_turnBy 139 = .ok (.iastore, 1) := by decide +kernel
theorem dX10_turnBy_140 : decode cX10_turnBy 140 = .ok (.iload 10, 2) := by decide +kernel
theorem dX10_turnBy_142 : decode cX10_turnBy 142 = .ok (.ireturn, 1) := by decide +kernel
theorem bX10_turnBy_103 {K : KT} {g : GT} {cm sm : Nat} {cs : Nat × Nat} {fr : Nat} {c0 : Nat} {x1 : Int} {x2 : Int} {x3 : Int} {x4 : Int} {x5 : Int} {cl : Nat → List Int → St → Option (Int × St)} {frc : Nat} {r : Int} {σ' : St} (hC : Ctx K g RX10 cX10_turnBy 11 fr cm sm) (hcs : cs.1 ≤ cm ∧ cs.2 ≤ sm) (h0 : isO 10 c0 = true) (hf : frc + 1 ≤ fr) (hf0 : 7 ≤ fr) (hl0 : ∀ (a0 : Int) (a1 : Int) (a2 : Int) (a3 : Int) (a4 : Int) (r : Int) (σ σ' : St), cl 0 [a0, a1, a2, a3, a4] σ = some (r, σ') → Cn (Kl K) g yX10_turnBy cX10_turnBy 11 (some .int) frc 0 0 [vr c0, vi a0, vi a1, vi a2, vi a3, vi a4] (SH0, σ) (some (vi r)) (SH0, σ')) (hl1 : ∀ (a0 : Int) (a1 : Int) (a2 : Int) (a3 : Int) (r : Int) (σ σ' : St), cl 1 [a0, a1, a2, a3] σ = some (r, σ') → Cn (Kl K) g yX10_turnFrom cX10_turnFrom 8 (some .int) frc 0 0 [vr c0, vi a0, vi a1, vi a2, vi a3] (SH0, σ) (some (vi r)) (SH0, σ')) (hR : RetI K g cX10_turnBy 11 cs r (SH0, σ')) : ∀ (x6 : Int) (x7 : Int) (x8 : Int) (x9 : Int) (σ : St), fX10_turnBy_103 cl c0 x1 x2 x3 x4 x5 x6 x7 x8 x9 σ = some (r, σ') → G K g 11 cs 103 [(0, vr c0), (1, vi x1), (2, vi x2), (3, vi x3), (4, vi x4), (5, vi x5), (6, vi x6), (7, vi x7), (8, vi x8), (9, vi x9)] [] (SH0, σ) := by
  intro x6 x7 x8 x9 σ h
  unfold fX10_turnBy_103 at h
  refine g_aload_n hC dX10_turnBy_103 0 rfl rfl ?_
  refine g_iload_n hC dX10_turnBy_104 1 rfl rfl ?_
  refine g_iconst hC dX10_turnBy_105 ok_1 ?_
  refine g_iadd hC dX10_turnBy_106 ?_
  refine g_iload_n hC dX10_turnBy_107 2 rfl rfl ?_
  refine g_iload_n hC dX10_turnBy_108 3 rfl rfl ?_
  refine g_iload hC dX10_turnBy_109 4 rfl ?_
  obtain ⟨⟨r1, s1⟩, e1, h⟩ := of_bind h
  try dsimp only at h
  refine s_callVi hC dX10_turnBy_111 (hl1 _ _ _ _ _ _ _ e1) miX10_turnFrom mvX10_turnFrom mlRX10_312 (isO_spec h0) vc_10 rfl rfl (Nat.le_of_ble_eq_true rfl) hf (Nat.le_of_ble_eq_true rfl) hcs ?_
  refine g_istore hC dX10_turnBy_114 (Nat.le_of_ble_eq_true rfl) rfl ?_
  refine g_aload_n hC dX10_turnBy_116 1 rfl rfl ?_
  refine g_getr hC dX10_turnBy_117 lfRX10_24 (isO_spec h0) (ft_10_6 h0) ?_
  refine g_bipush hC dX10_turnBy_120 bp_21 ?_
  refine g_iload hC dX10_turnBy_122 7 rfl ?_
  refine g_iadd hC dX10_turnBy_124 ?_
  refine g_iload hC dX10_turnBy_125 9 rfl ?_
  obtain ⟨b9, h⟩ := of_ite h
  refine g_iast hC dX10_turnBy_127 (isA_spec (rf_10_6 h0)) b9 ?_
  refine g_aload_n hC dX10_turnBy_128 1 rfl rfl ?_
  refine g_getr hC dX10_turnBy_129 lfRX10_24 (isO_spec h0) (ft_10_6 h0) ?_
  refine g_bipush hC dX10_turnBy_132 bp_28 ?_
  refine g_iload hC dX10_turnBy_134 8 rfl ?_
  refine g_iadd hC dX10_turnBy_136 ?_
  refine g_iload hC dX10_turnBy_137 10 rfl ?_
  obtain ⟨b9, h⟩ := of_ite h
  refine g_iast hC dX10_turnBy_139 (isA_spec (rf_10_6 h0)) b9 ?_
  refine g_iload hC dX10_turnBy_140 0 rfl ?_
  exact ret_i h hR dX10_turnBy_142
theorem bX10_turnBy_86 {K : KT} {g : GT} {cm sm : Nat} {cs : Nat × Nat} {fr : Nat} {c0 : Nat} {x1 : Int} {x2 : Int} {x3 : Int} {x4 : Int} {x5 : Int} {cl : Nat → List Int → St → Option (Int × St)} {frc : Nat} {r : Int} {σ' : St} (hC : Ctx K g RX10 cX10_turnBy 11 fr cm sm) (hcs : cs.1 ≤ cm ∧ cs.2 ≤ sm) (h0 : isO 10 c0 = true) (hf : frc + 1 ≤ fr) (hf0 : 7 ≤ fr) (hl0 : ∀ (a0 : Int) (a1 : Int) (a2 : Int) (a3 : Int) (a4 : Int) (r : Int) (σ σ' : St), cl 0 [a0, a1, a2, a3, a4] σ = some (r, σ') → Cn (Kl K) g yX10_turnBy cX10_turnBy 11 (some .int) frc 0 0 [vr c0, vi a0, vi a1, vi a2, vi a3, vi a4] (SH0, σ) (some (vi r)) (SH0, σ')) (hl1 : ∀ (a0 : Int) (a1 : Int) (a2 : Int) (a3 : Int) (r : Int) (σ σ' : St), cl 1 [a0, a1, a2, a3] σ = some (r, σ') → Cn (Kl K) g yX10_turnFrom cX10_turnFrom 8 (some .int) frc 0 0 [vr c0, vi a0, vi a1, vi a2, vi a3] (SH0, σ) (some (vi r)) (SH0, σ')) (hR : RetI K g cX10_turnBy 11 cs r (SH0, σ')) : ∀ (x6 : Int) (x7 : Int) (x8 : Int) (x9 : Int) (σ : St), fX10_turnBy_86 cl c0 x1 x2 x3 x4 x5 x6 x7 x8 x9 σ = some (r, σ') → G K g 11 cs 86 [(0, vr c0), (1, vi x1), (2, vi x2), (3, vi x3), (4, vi x4), (5, vi x5), (6, vi x6), (7, vi x7), (8, vi x8), (9, vi x9)] [] (SH0, σ) := by
  intro x6 x7 x8 x9 σ h
  unfold fX10_turnBy_86 at h
  refine g_iload hC dX10_turnBy_86 5 rfl ?_
  refine g_iconst hC dX10_turnBy_88 ok_1 ?_
  refine g_icmp_ne hC dX10_turnBy_89 (tgt := 103) (by decide) (fun h9 => ?_) (fun h9 => ?_)
  · rw [if_neg h9] at h
    exact g_pick [0, 1, 2, 3, 4, 5, 6, 7, 8, 9] rfl (bX10_turnBy_103 hC hcs h0 hf hf0 hl0 hl1 hR _ _ _ _ _ h)
  · rw [if_pos h9] at h
    refine g_aload_n hC dX10_turnBy_92 0 rfl rfl ?_
    refine g_getr hC dX10_turnBy_93 lfRX10_24 (isO_spec h0) (ft_10_6 h0) ?_
    refine g_bipush hC dX10_turnBy_96 bp_28 ?_
    refine g_iload hC dX10_turnBy_98 7 rfl ?_
    refine g_iadd hC dX10_turnBy_100 ?_
    refine g_iconst hC dX10_turnBy_101 ok_1 ?_
    obtain ⟨b9, h⟩ := of_ite h
    refine g_iast hC dX10_turnBy_102 (isA_spec (rf_10_6 h0)) b9 ?_
    exact g_pick [0, 1, 2, 3, 4, 5, 6, 7, 8, 9] rfl (bX10_turnBy_103 hC hcs h0 hf hf0 hl0 hl1 hR _ _ _ _ _ h)
theorem bX10_turnBy_36 {K : KT} {g : GT} {cm sm : Nat} {cs : Nat × Nat} {fr : Nat} {c0 : Nat} {x1 : Int} {x2 : Int} {x3 : Int} {x4 : Int} {x5 : Int} {cl : Nat → List Int → St → Option (Int × St)} {frc : Nat} {r : Int} {σ' : St} (hC : Ctx K g RX10 cX10_turnBy 11 fr cm sm) (hcs : cs.1 ≤ cm ∧ cs.2 ≤ sm) (h0 : isO 10 c0 = true) (hf : frc + 1 ≤ fr) (hf0 : 7 ≤ fr) (hl0 : ∀ (a0 : Int) (a1 : Int) (a2 : Int) (a3 : Int) (a4 : Int) (r : Int) (σ σ' : St), cl 0 [a0, a1, a2, a3, a4] σ = some (r, σ') → Cn (Kl K) g yX10_turnBy cX10_turnBy 11 (some .int) frc 0 0 [vr c0, vi a0, vi a1, vi a2, vi a3, vi a4] (SH0, σ) (some (vi r)) (SH0, σ')) (hl1 : ∀ (a0 : Int) (a1 : Int) (a2 : Int) (a3 : Int) (r : Int) (σ σ' : St), cl 1 [a0, a1, a2, a3] σ = some (r, σ') → Cn (Kl K) g yX10_turnFrom cX10_turnFrom 8 (some .int) frc 0 0 [vr c0, vi a0, vi a1, vi a2, vi a3] (SH0, σ) (some (vi r)) (SH0, σ')) (hR : RetI K g cX10_turnBy 11 cs r (SH0, σ')) : ∀ (x6 : Int) (y0 : Int) (σ : St), fX10_turnBy_36 cl c0 x1 x2 x3 x4 x5 x6 y0 σ = some (r, σ') → G K g 11 cs 36 [(0, vr c0), (1, vi x1), (2, vi x2), (3, vi x3), (4, vi x4), (5, vi x5), (6, vi x6)] [vi y0] (SH0, σ) := by
  intro x6 y0 σ h
  unfold fX10_turnBy_36 at h
  refine g_istore hC dX10_turnBy_36 (Nat.le_of_ble_eq_true rfl) rfl ?_
  refine g_aload_n hC dX10_turnBy_38 1 rfl rfl ?_
  refine g_getr hC dX10_turnBy_39 lfRX10_24 (isO_spec h0) (ft_10_6 h0) ?_
  refine g_bipush hC dX10_turnBy_42 bp_21 ?_
  refine g_iload hC dX10_turnBy_44 7 rfl ?_
  refine g_iadd hC dX10_turnBy_46 ?_
  obtain ⟨b9, h⟩ := of_ite h
  refine g_iald hC dX10_turnBy_47 (isA_spec (rf_10_6 h0)) b9 ?_
  refine g_istore hC dX10_turnBy_48 (Nat.le_of_ble_eq_true rfl) rfl ?_
  refine g_aload_n hC dX10_turnBy_50 2 rfl rfl ?_
  refine g_getr hC dX10_turnBy_51 lfRX10_24 (isO_spec h0) (ft_10_6 h0) ?_
  refine g_bipush hC dX10_turnBy_54 bp_28 ?_
  refine g_iload hC dX10_turnBy_56 1 rfl ?_
  refine g_iadd hC dX10_turnBy_58 ?_
  obtain ⟨b9, h⟩ := of_ite h
  refine g_iald hC dX10_turnBy_59 (isA_spec (rf_10_6 h0)) b9 ?_
  refine g_istore hC dX10_turnBy_60 (Nat.le_of_ble_eq_true rfl) rfl ?_
  refine g_iload hC dX10_turnBy_62 8 rfl ?_
  refine g_if_ne hC dX10_turnBy_64 (tgt := 86) (by decide) (fun h9 => ?_) (fun h9 => ?_)
  · rw [if_neg h9] at h
    exact g_pick [3, 4, 5, 6, 7, 8, 9, 2, 1, 0] rfl (bX10_turnBy_86 hC hcs h0 hf hf0 hl0 hl1 hR _ _ _ _ _ h)
  · rw [if_pos h9] at h
    refine g_aload_n hC dX10_turnBy_67 3 rfl rfl ?_
    refine g_getr hC dX10_turnBy_68 lfRX10_24 (isO_spec h0) (ft_10_6 h0) ?_
    refine g_bipush hC dX10_turnBy_71 bp_21 ?_
    refine g_iload hC dX10_turnBy_73 9 rfl ?_
    refine g_iadd hC dX10_turnBy_75 ?_
    refine g_bipush hC dX10_turnBy_76 bp_9 ?_
    refine g_iload hC dX10_turnBy_78 1 rfl ?_
    refine g_iconst hC dX10_turnBy_80 ok_1 ?_
    refine g_iadd hC dX10_turnBy_81 ?_
    refine g_min hC dX10_turnBy_82 lmRX10_222 mn_1 mn_2 mn_3 (Nat.le_of_ble_eq_true rfl) (by omega) hcs ?_
    obtain ⟨b9, h⟩ := of_ite h
    refine g_iast hC dX10_turnBy_85 (isA_spec (rf_10_6 h0)) b9 ?_
    exact g_pick [3, 4, 5, 6, 7, 8, 9, 2, 1, 0] rfl (bX10_turnBy_86 hC hcs h0 hf hf0 hl0 hl1 hR _ _ _ _ _ h)
theorem bX10_turnBy_17 {K : KT} {g : GT} {cm sm : Nat} {cs : Nat × Nat} {fr : Nat} {c0 : Nat} {x1 : Int} {x2 : Int} {x3 : Int} {x4 : Int} {x5 : Int} {cl : Nat → List Int → St → Option (Int × St)} {frc : Nat} {r : Int} {σ' : St} (hC : Ctx K g RX10 cX10_turnBy 11 fr cm sm) (hcs : cs.1 ≤ cm ∧ cs.2 ≤ sm) (h0 : isO 10 c0 = true) (hf : frc + 1 ≤ fr) (hf0 : 7 ≤ fr) (hl0 : ∀ (a0 : Int) (a1 : Int) (a2 : Int) (a3 : Int) (a4 : Int) (r : Int) (σ σ' : St), cl 0 [a0, a1, a2, a3, a4] σ = some (r, σ') → Cn (Kl K) g yX10_turnBy cX10_turnBy 11 (some .int) frc 0 0 [vr c0, vi a0, vi a1, vi a2, vi a3, vi a4] (SH0, σ) (some (vi r)) (SH0, σ')) (hl1 : ∀ (a0 : Int) (a1 : Int) (a2 : Int) (a3 : Int) (r : Int) (σ σ' : St), cl 1 [a0, a1, a2, a3] σ = some (r, σ') → Cn (Kl K) g yX10_turnFrom cX10_turnFrom 8 (some .int) frc 0 0 [vr c0, vi a0, vi a1, vi a2, vi a3] (SH0, σ) (some (vi r)) (SH0, σ')) (hR : RetI K g cX10_turnBy 11 cs r (SH0, σ')) : ∀ (y0 : Int) (σ : St), fX10_turnBy_17 cl c0 x1 x2 x3 x4 x5 y0 σ = some (r, σ') → G K g 11 cs 17 [(0, vr c0), (1, vi x1), (2, vi x2), (3, vi x3), (4, vi x4), (5, vi x5)] [vi y0] (SH0, σ) := by
  intro y0 σ h
  unfold fX10_turnBy_17 at h
  refine g_istore hC dX10_turnBy_17 (Nat.le_of_ble_eq_true rfl) rfl ?_
  refine g_iload_n hC dX10_turnBy_19 2 rfl rfl ?_
  refine g_iconst hC dX10_turnBy_20 ok_2 ?_
  refine g_irem hC dX10_turnBy_21 (by decide) ?_
  refine g_if_ne hC dX10_turnBy_22 (tgt := 32) (by decide) (fun h9 => ?_) (fun h9 => ?_)
  · rw [if_neg h9] at h
    refine g_iload_n hC dX10_turnBy_32 4 rfl rfl ?_
    refine g_bipush hC dX10_turnBy_33 bp_10 ?_
    refine g_idiv hC dX10_turnBy_35 (by decide) ?_
    exact g_pick [1, 2, 3, 4, 5, 6, 0] rfl (bX10_turnBy_36 hC hcs h0 hf hf0 hl0 hl1 hR _ _ _ h)
  · rw [if_pos h9] at h
    refine g_iload_n hC dX10_turnBy_25 4 rfl rfl ?_
    refine g_bipush hC dX10_turnBy_26 bp_10 ?_
    refine g_irem hC dX10_turnBy_28 (by decide) ?_
    refine g_goto hC dX10_turnBy_29 (tgt := 36) (by decide) ?_
    exact g_pick [1, 2, 3, 4, 5, 6, 0] rfl (bX10_turnBy_36 hC hcs h0 hf hf0 hl0 hl1 hR _ _ _ h)
theorem bX10_turnBy_0 {K : KT} {g : GT} {cm sm : Nat} {cs : Nat × Nat} {fr : Nat} {c0 : Nat} {x1 : Int} {x2 : Int} {x3 : Int} {x4 : Int} {x5 : Int} {cl : Nat → List Int → St → Option (Int × St)} {frc : Nat} {r : Int} {σ' : St} (hC : Ctx K g RX10 cX10_turnBy 11 fr cm sm) (hcs : cs.1 ≤ cm ∧ cs.2 ≤ sm) (h0 : isO 10 c0 = true) (hf : frc + 1 ≤ fr) (hf0 : 7 ≤ fr) (hl0 : ∀ (a0 : Int) (a1 : Int) (a2 : Int) (a3 : Int) (a4 : Int) (r : Int) (σ σ' : St), cl 0 [a0, a1, a2, a3, a4] σ = some (r, σ') → Cn (Kl K) g yX10_turnBy cX10_turnBy 11 (some .int) frc 0 0 [vr c0, vi a0, vi a1, vi a2, vi a3, vi a4] (SH0, σ) (some (vi r)) (SH0, σ')) (hl1 : ∀ (a0 : Int) (a1 : Int) (a2 : Int) (a3 : Int) (r : Int) (σ σ' : St), cl 1 [a0, a1, a2, a3] σ = some (r, σ') → Cn (Kl K) g yX10_turnFrom cX10_turnFrom 8 (some .int) frc 0 0 [vr c0, vi a0, vi a1, vi a2, vi a3] (SH0, σ) (some (vi r)) (SH0, σ')) (hR : RetI K g cX10_turnBy 11 cs r (SH0, σ')) : ∀ (σ : St), fX10_turnBy cl c0 x1 x2 x3 x4 x5 σ = some (r, σ') → G K g 11 cs 0 [(0, vr c0), (1, vi x1), (2, vi x2), (3, vi x3), (4, vi x4), (5, vi x5)] [] (SH0, σ) := by
  intro σ h
  unfold fX10_turnBy at h
  refine g_iload_n hC dX10_turnBy_0 1 rfl rfl ?_
  refine g_iconst hC dX10_turnBy_1 ok_2 ?_
  refine g_irem hC dX10_turnBy_2 (by decide) ?_
  refine g_if_ne hC dX10_turnBy_3 (tgt := 13) (by decide) (fun h9 => ?_) (fun h9 => ?_)
  · rw [if_neg h9] at h
    refine g_iload_n hC dX10_turnBy_13 3 rfl rfl ?_
    refine g_bipush hC dX10_turnBy_14 bp_10 ?_
    refine g_irem hC dX10_turnBy_16 (by decide) ?_
    exact g_pick [0, 1, 2, 3, 4, 5] rfl (bX10_turnBy_17 hC hcs h0 hf hf0 hl0 hl1 hR _ _ h)
  · rw [if_pos h9] at h
    refine g_iload_n hC dX10_turnBy_6 3 rfl rfl ?_
    refine g_bipush hC dX10_turnBy_7 bp_10 ?_
    refine g_idiv hC dX10_turnBy_9 (by decide) ?_
    refine g_goto hC dX10_turnBy_10 (tgt := 17) (by decide) ?_
    exact g_pick [0, 1, 2, 3, 4, 5] rfl (bX10_turnBy_17 hC hcs h0 hf hf0 hl0 hl1 hR _ _ h)
theorem bX10_turnFrom_98 {K : KT} {g : GT} {cm sm : Nat} {cs : Nat × Nat} {fr : Nat} {c0 : Nat} {x1 : Int} {x2 : Int} {x3 : Int} {x4 : Int} {cl : Nat → List Int → St → Option (Int × St)} {frc : Nat} {k56 : Int → Int → St → Option (Int × St)} {r : Int} {σ' : St} (hC : Ctx K g RX10 cX10_turnFrom 8 fr cm sm) (hcs : cs.1 ≤ cm ∧ cs.2 ≤ sm) (h0 : isO 10 c0 = true) (hf : frc + 1 ≤ fr) (hf0 : 7 ≤ fr) (hl0 : ∀ (a0 : Int) (a1 : Int) (a2 : Int) (a3 : Int) (a4 : Int) (r : Int) (σ σ' : St), cl 0 [a0, a1, a2, a3, a4] σ = some (r, σ') → Cn (Kl K) g yX10_turnBy cX10_turnBy 11 (some .int) frc 0 0 [vr c0, vi a0, vi a1, vi a2, vi a3, vi a4] (SH0, σ) (some (vi r)) (SH0, σ')) (hl1 : ∀ (a0 : Int) (a1 : Int) (a2 : Int) (a3 : Int) (r : Int) (σ σ' : St), cl 1 [a0, a1, a2, a3] σ = some (r, σ') → Cn (Kl K) g yX10_turnFrom cX10_turnFrom 8 (some .int) frc 0 0 [vr c0, vi a0, vi a1, vi a2, vi a3] (SH0, σ) (some (vi r)) (SH0, σ')) (hk56 : ∀ (x5 : Int) (x6 : Int) (σ : St), k56 x5 x6 σ = some (r, σ') → G K g 8 cs 56 [(0, vr c0), (1, vi x1), (2, vi x2), (3, vi x3), (4, vi x4), (5, vi x5), (6, vi x6)] [] (SH0, σ)) (hR : RetI K g cX10_turnFrom 8 cs r (SH0, σ')) : ∀ (x6 : Int) (y0 : Int) (σ : St), fX10_turnFrom_98 cl c0 x1 x2 x3 x4 k56 x6 y0 σ = some (r, σ') → G K g 8 cs 98 [(0, vr c0), (1, vi x1), (2, vi x2), (3, vi x3), (4, vi x4), (6, vi x6)] [vi y0] (SH0, σ) := by
  intro x6 y0 σ h
  unfold fX10_turnFrom_98 at h
  refine g_istore hC dX10_turnFrom_98 (Nat.le_of_ble_eq_true rfl) rfl ?_
  refine g_iinc hC dX10_turnFrom_100 6 rfl (Nat.le_of_ble_eq_true rfl) rfl ?_
  refine g_goto hC dX10_turnFrom_103 (tgt := 56) (by decide) ?_
  exact g_pick [2, 3, 4, 5, 6, 1, 0] rfl (hk56 _ _ _ h)
theorem bX10_turnFrom_56 {K : KT} {g : GT} {cm sm : Nat} {cs : Nat × Nat} {fr : Nat} {c0 : Nat} {x1 : Int} {x2 : Int} {x3 : Int} {x4 : Int} {cl : Nat → List Int → St → Option (Int × St)} {frc : Nat} {r : Int} {σ' : St} (hC : Ctx K g RX10 cX10_turnFrom 8 fr cm sm) (hcs : cs.1 ≤ cm ∧ cs.2 ≤ sm) (h0 : isO 10 c0 = true) (hf : frc + 1 ≤ fr) (hf0 : 7 ≤ fr) (hl0 : ∀ (a0 : Int) (a1 : Int) (a2 : Int) (a3 : Int) (a4 : Int) (r : Int) (σ σ' : St), cl 0 [a0, a1, a2, a3, a4] σ = some (r, σ') → Cn (Kl K) g yX10_turnBy cX10_turnBy 11 (some .int) frc 0 0 [vr c0, vi a0, vi a1, vi a2, vi a3, vi a4] (SH0, σ) (some (vi r)) (SH0, σ')) (hl1 : ∀ (a0 : Int) (a1 : Int) (a2 : Int) (a3 : Int) (r : Int) (σ σ' : St), cl 1 [a0, a1, a2, a3] σ = some (r, σ') → Cn (Kl K) g yX10_turnFrom cX10_turnFrom 8 (some .int) frc 0 0 [vr c0, vi a0, vi a1, vi a2, vi a3] (SH0, σ) (some (vi r)) (SH0, σ')) (hR : RetI K g cX10_turnFrom 8 cs r (SH0, σ')) : ∀ (n : Nat) (x5 : Int) (x6 : Int) (σ : St), fX10_turnFrom_56 cl c0 x1 x2 x3 x4 n x5 x6 σ = some (r, σ') → G K g 8 cs 56 [(0, vr c0), (1, vi x1), (2, vi x2), (3, vi x3), (4, vi x4), (5, vi x5), (6, vi x6)] [] (SH0, σ) := by
  intro n
  induction n with
  | zero =>
    intro x5 x6 σ h
    rw [fX10_turnFrom_56.eq_1] at h
    cases h
  | succ n ih =>
    intro x5 x6 σ h
    rw [fX10_turnFrom_56.eq_2] at h
    refine g_iload hC dX10_turnFrom_56 6 rfl ?_
    refine g_iconst hC dX10_turnFrom_58 ok_2 ?_
    refine g_icmp_ge hC dX10_turnFrom_59 (tgt := 106) (by decide) (fun h9 => ?_) (fun h9 => ?_)
    · rw [if_pos h9] at h
      refine g_iload hC dX10_turnFrom_106 5 rfl ?_
      exact ret_i h hR dX10_turnFrom_108
    · rw [if_neg h9] at h
      refine g_aload_n hC dX10_turnFrom_62 0 rfl rfl ?_
      refine g_iload_n hC dX10_turnFrom_63 1 rfl rfl ?_
      refine g_iload_n hC dX10_turnFrom_64 2 rfl rfl ?_
      refine g_iload_n hC dX10_turnFrom_65 3 rfl rfl ?_
      refine g_iload hC dX10_turnFrom_66 4 rfl ?_
      refine g_iload hC dX10_turnFrom_68 6 rfl ?_
      obtain ⟨⟨r1, s1⟩, e1, h⟩ := of_bind h
      try dsimp only at h
      refine s_callVi hC dX10_turnFrom_70 (hl0 _ _ _ _ _ _ _ _ e1) miX10_turnBy mvX10_turnBy mlRX10_308 (isO_spec h0) vc_10 rfl rfl (Nat.le_of_ble_eq_true rfl) hf (Nat.le_of_ble_eq_true rfl) hcs ?_
      refine g_istore hC dX10_turnFrom_73 (Nat.le_of_ble_eq_true rfl) rfl ?_
      refine g_iload_n hC dX10_turnFrom_75 2 rfl rfl ?_
      refine g_iconst hC dX10_turnFrom_76 ok_2 ?_
      refine g_irem hC dX10_turnFrom_77 (by decide) ?_
      refine g_if_ne hC dX10_turnFrom_78 (tgt := 91) (by decide) (fun h9 => ?_) (fun h9 => ?_)
      · rw [if_neg h9] at h
        refine g_iload hC dX10_turnFrom_91 6 rfl ?_
        refine g_iload hC dX10_turnFrom_93 0 rfl ?_
        refine g_min hC dX10_turnFrom_95 lmRX10_222 mn_1 mn_2 mn_3 (Nat.le_of_ble_eq_true rfl) (by omega) hcs ?_
        exact g_pick [1, 2, 3, 4, 5, 7] rfl (bX10_turnFrom_98 hC hcs h0 hf hf0 hl0 hl1 ih hR _ _ _ h)
      · rw [if_pos h9] at h
        refine g_iload hC dX10_turnFrom_81 6 rfl ?_
        refine g_iload hC dX10_turnFrom_83 0 rfl ?_
        refine g_max hC dX10_turnFrom_85 lmRX10_227 mx_1 mn_2 mx_3 (Nat.le_of_ble_eq_true rfl) (by omega) hcs ?_
        refine g_goto hC dX10_turnFrom_88 (tgt := 98) (by decide) ?_
        exact g_pick [1, 2, 3, 4, 5, 7] rfl (bX10_turnFrom_98 hC hcs h0 hf hf0 hl0 hl1 ih hR _ _ _ h)
theorem bX10_turnFrom_0 {K : KT} {g : GT} {cm sm : Nat} {cs : Nat × Nat} {fr : Nat} {c0 : Nat} {x1 : Int} {x2 : Int} {x3 : Int} {x4 : Int} {cl : Nat → List Int → St → Option (Int × St)} {frc : Nat} {r : Int} {σ' : St} (hC : Ctx K g RX10 cX10_turnFrom 8 fr cm sm) (hcs : cs.1 ≤ cm ∧ cs.2 ≤ sm) (h0 : isO 10 c0 = true) (hf : frc + 1 ≤ fr) (hf0 : 7 ≤ fr) (hl0 : ∀ (a0 : Int) (a1 : Int) (a2 : Int) (a3 : Int) (a4 : Int) (r : Int) (σ σ' : St), cl 0 [a0, a1, a2, a3, a4] σ = some (r, σ') → Cn (Kl K) g yX10_turnBy cX10_turnBy 11 (some .int) frc 0 0 [vr c0, vi a0, vi a1, vi a2, vi a3, vi a4] (SH0, σ) (some (vi r)) (SH0, σ')) (hl1 : ∀ (a0 : Int) (a1 : Int) (a2 : Int) (a3 : Int) (r : Int) (σ σ' : St), cl 1 [a0, a1, a2, a3] σ = some (r, σ') → Cn (Kl K) g yX10_turnFrom cX10_turnFrom 8 (some .int) frc 0 0 [vr c0, vi a0, vi a1, vi a2, vi a3] (SH0, σ) (some (vi r)) (SH0, σ')) (hR : RetI K g cX10_turnFrom 8 cs r (SH0, σ')) : ∀ (σ : St), fX10_turnFrom cl c0 x1 x2 x3 x4 σ = some (r, σ') → G K g 8 cs 0 [(0, vr c0), (1, vi x1), (2, vi x2), (3, vi x3), (4, vi x4)] [] (SH0, σ) := by
  intro σ h
  unfold fX10_turnFrom at h
  refine g_iload_n hC dX10_turnFrom_0 1 rfl rfl ?_
  refine g_iload_n hC dX10_turnFrom_1 2 rfl rfl ?_
  refine g_icmp_ne hC dX10_turnFrom_2 (tgt := 41) (by decide) (fun h9 => ?_) (fun h9 => ?_)
  · rw [if_neg h9] at h
    refine g_aload_n hC dX10_turnFrom_41 0 rfl rfl ?_
    refine g_iload_n hC dX10_turnFrom_42 1 rfl rfl ?_
    refine g_iload_n hC dX10_turnFrom_43 2 rfl rfl ?_
    refine g_iload_n hC dX10_turnFrom_44 3 rfl rfl ?_
    refine g_iload hC dX10_turnFrom_45 4 rfl ?_
    refine g_iconst hC dX10_turnFrom_47 ok_2 ?_
    obtain ⟨⟨r1, s1⟩, e1, h⟩ := of_bind h
    try dsimp only at h
    refine s_callVi hC dX10_turnFrom_48 (hl0 _ _ _ _ _ _ _ _ e1) miX10_turnBy mvX10_turnBy mlRX10_308 (isO_spec h0) vc_10 rfl rfl (Nat.le_of_ble_eq_true rfl) hf (Nat.le_of_ble_eq_true rfl) hcs ?_
    refine g_istore hC dX10_turnFrom_51 (Nat.le_of_ble_eq_true rfl) rfl ?_
    refine g_iconst hC dX10_turnFrom_53 ok_0 ?_
    refine g_istore hC dX10_turnFrom_54 (Nat.le_of_ble_eq_true rfl) rfl ?_
    exact g_pick [2, 3, 4, 5, 6, 1, 0] rfl (bX10_turnFrom_56 hC hcs h0 hf hf0 hl0 hl1 hR _ _ _ _ h)
  · rw [if_pos h9] at h
    refine g_aload_n hC dX10_turnFrom_5 0 rfl rfl ?_
    refine g_iload hC dX10_turnFrom_6 4 rfl ?_
    obtain ⟨⟨r2, s2⟩, e2, h⟩ := of_bind h
    try dsimp only at h
    refine s_callVi hC dX10_turnFrom_8 (tX10_winner h0 e2) miX10_winner mvX10_winner mlRX10_242 (isO_spec h0) vc_10 rfl rfl (Nat.le_of_ble_eq_true rfl) (by omega) (Nat.le_of_ble_eq_true rfl) hcs ?_
    refine g_iload_n hC dX10_turnFrom_11 3 rfl rfl ?_
    refine g_bipush hC dX10_turnFrom_12 bp_10 ?_
    refine g_idiv hC dX10_turnFrom_14 (by decide) ?_
    refine g_icmp_ne hC dX10_turnFrom_15 (tgt := 22) (by decide) (fun h9 => ?_) (fun h9 => ?_)
    · rw [if_neg h9] at h
      refine g_aload_n hC dX10_turnFrom_22 0 rfl rfl ?_
      refine g_iload hC dX10_turnFrom_23 4 rfl ?_
      obtain ⟨⟨r3, s3⟩, e3, h⟩ := of_bind h
      try dsimp only at h
      refine s_callVi hC dX10_turnFrom_25 (tX10_winner h0 e3) miX10_winner mvX10_winner mlRX10_242 (isO_spec h0) vc_10 rfl rfl (Nat.le_of_ble_eq_true rfl) (by omega) (Nat.le_of_ble_eq_true rfl) hcs ?_
      refine g_iload_n hC dX10_turnFrom_28 3 rfl rfl ?_
      refine g_bipush hC dX10_turnFrom_29 bp_10 ?_
      refine g_irem hC dX10_turnFrom_31 (by decide) ?_
      refine g_icmp_ne hC dX10_turnFrom_32 (tgt := 39) (by decide) (fun h9 => ?_) (fun h9 => ?_)
      · rw [if_neg h9] at h
        refine g_iconst hC dX10_turnFrom_39 ok_0 ?_
        exact ret_i h hR dX10_turnFrom_40
      · rw [if_pos h9] at h
        refine g_iconst hC dX10_turnFrom_35 ok_m1 ?_
        refine g_goto hC dX10_turnFrom_36 (tgt := 40) (by decide) ?_
        exact ret_i h hR dX10_turnFrom_40
    · rw [if_pos h9] at h
      refine g_iconst hC dX10_turnFrom_18 ok_1 ?_
      refine g_goto hC dX10_turnFrom_19 (tgt := 40) (by decide) ?_
      exact ret_i h hR dX10_turnFrom_40
theorem cgX10_turnBy {l : Launch} {g : GT} {c0 : Nat} (h0 : isO 10 c0 = true) : ∀ d : Nat, (∀ (a0 : Int) (a1 : Int) (a2 : Int) (a3 : Int) (a4 : Int) (r : Int) (σ σ' : St), gX10_turnBy c0 d 0 [a0, a1, a2, a3, a4] σ = some (r, σ') → Cn l g yX10_turnBy cX10_turnBy 11 (some .int) (7 + d) 0 0 [vr c0, vi a0, vi a1, vi a2, vi a3, vi a4] (SH0, σ) (some (vi r)) (SH0, σ')) ∧ (∀ (a0 : Int) (a1 : Int) (a2 : Int) (a3 : Int) (r : Int) (σ σ' : St), gX10_turnBy c0 d 1 [a0, a1, a2, a3] σ = some (r, σ') → Cn l g yX10_turnFrom cX10_turnFrom 8 (some .int) (7 + d) 0 0 [vr c0, vi a0, vi a1, vi a2, vi a3] (SH0, σ) (some (vi r)) (SH0, σ')) := by
  intro d
  induction d with
  | zero =>
    refine ⟨?_, ?_⟩
    · intro a0 a1 a2 a3 a4 r σ σ' h
      rw [gX10_turnBy_0] at h
      cases h
    · intro a0 a1 a2 a3 r σ σ' h
      rw [gX10_turnBy_0] at h
      cases h
  | succ d ih =>
    obtain ⟨i0, i1⟩ := ih
    refine ⟨?_, ?_⟩
    · intro a0 a1 a2 a3 a4 r σ σ' h
      rw [gX10_turnBy_s] at h
      have h : (fX10_turnBy (gX10_turnBy c0 d) c0 a0 a1 a2 a3 a4 σ) = some (r, σ') := h
      exact Cn.ofI (by decide) (Nat.le_of_ble_eq_true rfl) (fun K e hC hR => by
        subst e
        exact bX10_turnBy_0 hC ⟨Nat.le_refl _, Nat.le_refl _⟩ h0 (frc := 7 + d) (by omega) (by omega) i0 i1 hR _ h)
    · intro a0 a1 a2 a3 r σ σ' h
      rw [gX10_turnBy_s] at h
      have h : (fX10_turnFrom (gX10_turnBy c0 d) c0 a0 a1 a2 a3 σ) = some (r, σ') := h
      exact Cn.ofI (by decide) (Nat.le_of_ble_eq_true rfl) (fun K e hC hR => by
        subst e
        exact bX10_turnFrom_0 hC ⟨Nat.le_refl _, Nat.le_refl _⟩ h0 (frc := 7 + d) (by omega) (by omega) i0 i1 hR _ h)

theorem tX10_turnBy {l : Launch} {g : GT} {c0 : Nat} {a0 : Int} {a1 : Int} {a2 : Int} {a3 : Int} {a4 : Int} {σ σ' : St} {r : Int} (h0 : isO 10 c0 = true) (h : hX10_turnBy c0 a0 a1 a2 a3 a4 σ = some (r, σ')) : Cn l g yX10_turnBy cX10_turnBy 11 (some .int) 207 0 0 [vr c0, vi a0, vi a1, vi a2, vi a3, vi a4] (SH0, σ) (some (vi r)) (SH0, σ') := by
  unfold hX10_turnBy at h
  exact (cgX10_turnBy h0 DEP).1 _ _ _ _ _ _ _ _ h
theorem tX10_turnFrom {l : Launch} {g : GT} {c0 : Nat} {a0 : Int} {a1 : Int} {a2 : Int} {a3 : Int} {σ σ' : St} {r : Int} (h0 : isO 10 c0 = true) (h : hX10_turnFrom c0 a0 a1 a2 a3 σ = some (r, σ')) : Cn l g yX10_turnFrom cX10_turnFrom 8 (some .int) 207 0 0 [vr c0, vi a0, vi a1, vi a2, vi a3] (SH0, σ) (some (vi r)) (SH0, σ') := by
  unfold hX10_turnFrom at h
  exact (cgX10_turnBy h0 DEP).2 _ _ _ _ _ _ _ h
