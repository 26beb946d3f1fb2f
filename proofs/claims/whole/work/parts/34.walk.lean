/-! Walks (printed by my program). -/
theorem dX4_readOperand_0 : decode cX4_readOperand 0 = .ok (.aload_n 0, 1) := by decide +kernel
theorem dX4_readOperand_1 : decode cX4_readOperand 1 = .ok (.invokevirtual 64, 3) := by decide +kernel
theorem dX4_readOperand_4 : decode cX4_readOperand 4 = .ok (.istore_n 2, 1) := by decide +kernel
theorem dX4_readOperand_5 : decode cX4_readOperand 5 = .ok (.iload_n 2, 1) := by decide +kernel
theorem dX4_readOperand_6 : decode cX4_readOperand 6 = .ok (.invokestatic 72, 3) := by decide +kernel
theorem dX4_readOperand_9 : decode cX4_readOperand 9 = .ok (.ifCond .eq 8, 3) := by decide +kernel
theorem dX4_readOperand_12 : decode cX4_readOperand 12 = .ok (.aload_n 0, 1) := by decide +kernel
theorem dX4_readOperand_13 : decode cX4_readOperand 13 = .ok (.invokevirtual 75, 3) := by decide +kernel
theorem dX4_readOperand_16 : decode cX4_readOperand 16 = .ok (.ireturn, 1) := by decide +kernel
theorem dX4_readOperand_17 : decode cX4_readOperand 17 = .ok (.iload_n 2, 1) := by decide +kernel
theorem dX4_readOperand_18 : decode cX4_readOperand 18 = .ok (.ifCond .ge 7, 3) := by decide +kernel
theorem dX4_readOperand_21 : decode cX4_readOperand 21 = .ok (.iconst (-1), 1) := by decide +kernel
theorem dX4_readOperand_22 : decode cX4_readOperand 22 = .ok (.goto 10, 3) := by decide +kernel
theorem dX4_readOperand_25 : decode cX4_readOperand 25 = .ok (.ldc 78, 2) := by decide +kernel
theorem dX4_readOperand_27 : decode cX4_readOperand 27 = .ok (.iload_n 2, 1) := by decide +kernel
theorem dX4_readOperand_28 : decode cX4_readOperand 28 = .ok (.i2c, 1) := by decide +kernel
theorem dX4_readOperand_29 : decode cX4_readOperand 29 = .ok (.invokevirtual 80, 3) := by decide +kernel
theorem dX4_readOperand_32 : decode cX4_readOperand 32 = .ok (.istore_n 3, 1) := by decide +kernel
theorem dX4_readOperand_33 : decode cX4_readOperand 33 = .ok (.iload_n 3, 1) := by decide +kernel
theorem dX4_readOperand_34 : decode cX4_readOperand 34 = .ok (.ifCond .lt 22, 3) := by decide +kernel
theorem dX4_readOperand_37 : decode cX4_readOperand 37 = .ok (.aload_n 0, 1) := by decide +kernel
theorem dX4_readOperand_38 : decode cX4_readOperand 38 = .ok (.dup, 1) := by decide +kernel
theorem dX4_readOperand_39 : decode cX4_readOperand 39 = .ok (.getfield 29, 3) := by decide +kernel
theorem dX4_readOperand_42 : decode cX4_readOperand 42 = .ok (.iconst 1, 1) := by decide +kernel
theorem dX4_readOperand_43 : decode cX4_readOperand 43 = .ok (.iadd, 1) := by decide +kernel
theorem dX4_readOperand_44 : decode cX4_readOperand 44 = .ok (.putfield 29, 3) := by decide +kernel
theorem dX4_readOperand_47 : decode cX4_readOperand 47 = .ok (.aload_n 0, 1) := by decide +kernel
theorem dX4_readOperand_48 : decode cX4_readOperand 48 = .ok (.iconst (-1), 1) := by decide +kernel
theorem dX4_readOperand_49 : decode cX4_readOperand 49 = .ok (.iload_n 3, 1) := by decide +kernel
theorem dX4_readOperand_50 : decode cX4_readOperand 50 = .ok (.isub, 1) := by decide +kernel
theorem dX4_readOperand_51 : decode cX4_readOperand 51 = .ok (.invokevirtual 57, 3) := by decide +kernel
theorem dX4_readOperand_54 : decode cX4_readOperand 54 = .ok (.iconst 1, 1) := by decide +kernel
theorem dX4_readOperand_55 : decode cX4_readOperand 55 = .ok (.ireturn, 1) := by decide +kernel
theorem dX4_readOperand_56 : decode cX4_readOperand 56 = .ok (.iload_n 1, 1) := by decide +kernel
theorem dX4_readOperand_57 : decode cX4_readOperand 57 = .ok (.bipush 6, 2) := by decide +kernel
theorem dX4_readOperand_59 : decode cX4_readOperand 59 = .ok (.if_icmp .lt 5, 3) := by decide +kernel
theorem dX4_readOperand_62 : decode cX4_readOperand 62 = .ok (.iconst 0, 1) := by decide +kernel
theorem dX4_readOperand_63 : decode cX4_readOperand 63 = .ok (.ireturn, 1) := by decide +kernel
theorem dX4_readOperand_64 : decode cX4_readOperand 64 = .ok (.aload_n 0, 1) := by decide +kernel
theorem dX4_readOperand_65 : decode cX4_readOperand 65 = .ok (.bipush 40, 2) := by decide +kernel
theorem dX4_readOperand_67 : decode cX4_readOperand 67 = .ok (.invokevirtual 49, 3) := by decide +kernel
theorem dX4_readOperand_70 : decode cX4_readOperand 70 = .ok (.ifCond .eq 29, 3) := by decide +kernel
theorem dX4_readOperand_73 : decode cX4_readOperand 73 = .ok (.aload_n 0, 1) := by decide +kernel
theorem dX4_readOperand_74 : decode cX4_readOperand 74 = .ok (.iconst 0, 1) := by decide +kernel
theorem dX4_readOperand_75 : decode cX4_readOperand 75 = .ok (.iload_n 1, 1) := by decide +kernel
theorem dX4_readOperand_76 : decode cX4_readOperand 76 = .ok (.iconst 1, 1) := by decide +kernel
theorem dX4_readOperand_77 : decode cX4_readOperand 77 = .ok (.iadd, 1) := by decide +kernel
theorem dX4_readOperand_78 : decode cX4_readOperand 78 = .ok (.invokevirtual 53, 3) := by decide +kernel
theorem dX4_readOperand_81 : decode cX4_readOperand 81 = .ok (.ifCond .eq 16, 3) := by decide +kernel
theorem dX4_readOperand_84 : decode cX4_readOperand 84 = .ok (.aload_n 0, 1) := by decide +kernel
theorem dX4_readOperand_85 : decode cX4_readOperand 85 = .ok (.bipush 41, 2) := by decide +kernel
theorem dX4_readOperand_87 : decode cX4_readOperand 87 = .ok (.invokevirtual 49, 3) := by decide +kernel
theorem dX4_readOperand_90 : decode cX4_readOperand 90 = .ok (.ifCond .eq 7, 3) := by decide +kernel
theorem dX4_readOperand_93 : decode cX4_readOperand 93 = .ok (.iconst 1, 1) := by decide +kernel
theorem dX4_readOperand_94 : decode cX4_readOperand 94 = .ok (.goto 4, 3) := by decide +kernel
theorem dX4_readOperand_97 : decode cX4_readOperand 97 = .ok (.iconst 0, 1) := by decide +kernel
theorem dX4_readOperand_98 : decode cX4_readOperand 98 = .ok (.ireturn, 1) := by decide +kernel
theorem dX4_readOperand_99 : decode cX4_readOperand 99 = .ok (.aload_n 0, 1) := by decide +kernel
theorem dX4_readOperand_100 : decode cX4_readOperand 100 = .ok (.bipush 33, 2) := by decide +kernel
theorem dX4_readOperand_102 : decode cX4_readOperand 102 = .ok (.invokevirtual 49, 3) := by decide +kernel
theorem dX4_readOperand_105 : decode cX4_readOperand 105 = .ok (.ifCond .ne 14, 3) := by decide +kernel
theorem dX4_readOperand_108 : decode cX4_readOperand 108 = .ok (.aload_n 0, 1) := by decide +kernel
theorem dX4_readOperand_109 : decode cX4_readOperand 109 = .ok (.bipush 45, 2) := by decide +kernel
theorem dX4_readOperand_111 : decode cX4_readOperand 111 = .ok (.invokevirtual 49, 3) := by decide +kernel
theorem dX4_readOperand_114 : decode cX4_readOperand 114 = .ok (.ifCond .ne 5, 3) := by decide +kernel
theorem dX4_readOperand_117 : decode cX4_readOperand 117 = .ok (.iconst 0, 1) := by decide +kernel
theorem dX4_readOperand_118 : decode cX4_readOperand 118 = .ok (.ireturn, 1) := by decide +kernel
theorem dX4_readOperand_119 : decode cX4_readOperand 119 = .ok (.aload_n 0, 1) := by decide +kernel
theorem dX4_readOperand_120 : decode cX4_readOperand 120 = .ok (.iload_n 1, 1) := by decide +kernel
theorem dX4_readOperand_121 : decode cX4_readOperand 121 = .ok (.iconst 1, 1) := by decide +kernel
theorem dX4_readOperand_122 : decode cX4_readOperand 122 = .ok (.iadd, 1) := by decide +kernel
theorem dX4_readOperand_123 : decode cX4_readOperand 123 = .ok (.invokevirtual 61, 3) := by decide +kernel
theorem dX4_readOperand_126 : decode cX4_readOperand 126 = .ok (.ifCond .ne 5, 3) := by decide +kernel
theorem dX4_readOperand_129 : decode cX4_readOperand 129 = .ok (.iconst 0, 1) := by decide +kernel
theorem dX4_readOperand_130 : decode cX4_readOperand 130 = .ok (.ireturn, 1) := by decide +kernel
theorem dX4_readOperand_131 : decode cX4_readOperand 131 = .ok (.aload_n 0, 1) := by decide +kernel
theorem dX4_readOperand_132 : decode cX4_readOperand 132 = .ok (.iload_n 2, 1) := by decide +kernel
theorem dX4_readOperand_133 : decode cX4_readOperand 133 = .ok (.bipush 45, 2) := by decide +kernel
theorem dX4_readOperand_135 : decode cX4_readOperand 135 = .ok (.if_icmp .ne 8, 3) := by decide +kernel
theorem dX4_readOperand_138 : decode cX4_readOperand 138 = .ok (.bipush (-126), 2) := by decide +kernel
theorem dX4_readOperand_140 : decode cX4_readOperand 140 = .ok (.goto 5, 3) := by decide +kernel
theorem dX4_readOperand_143 : decode cX4_readOperand 143 = .ok (.bipush (-33), 2) := by decide +kernel
theorem dX4_readOperand_145 : decode cX4_readOperand 145 = .ok (.invokevirtual 57, 3) := by decide +kernel
theorem dX4_readOperand_148 : decode cX4_readOperand 148 = .ok (.iconst 1, 1) := by decide +kernel
theorem dX4_readOperand_149 : decode cX4_readOperand 149 = .ok (.ireturn, 1) := by decide +kernel
theorem dX4_readRank_0 : decode cX4_readRank 0 = .ok (.iload_n 1, 1) := by decide +kernel
theorem dX4_readRank_1 : decode cX4_readRank 1 = .ok (.iconst 5, 1) := by decide +kernel
theorem dX4_readRank_2 : decode cX4_readRank 2 = .ok (.if_icmp .lt 9, 3) := by decide +kernel
theorem dX4_readRank_5 : decode cX4_readRank 5 = .ok (.aload_n 0, 1) := by decide +kernel
theorem dX4_readRank_6 : decode cX4_readRank 6 = .ok (.iload_n 2, 1) := by decide +kernel
theorem dX4_readRank_7 : decode cX4_readRank 7 = .ok (.invokevirtual 61, 3) := by decide +kernel
theorem dX4_readRank_10 : decode cX4_readRank 10 = .ok (.ireturn, 1) := by decide +kernel
theorem dX4_readRank_11 : decode cX4_readRank 11 = .ok (.aload_n 0, 1) := by decide +kernel
theorem dX4_readRank_12 : decode cX4_readRank 12 = .ok (.iload_n 1, 1) := by decide +kernel
theorem dX4_readRank_13 : decode cX4_readRank 13 = .ok (.iconst 1, 1) := by decide +kernel
theorem dX4_readRank_14 : decode cX4_readRank 14 = .ok (.iadd, 1) := by decide +kernel
theorem dX4_readRank_15 : decode cX4_readRank 15 = .ok (.iload_n 2, 1) := by decide +kernel
theorem dX4_readRank_16 : decode cX4_readRank 16 = .ok (.invokevirtual 53, 3) := by decide +kernel
theorem dX4_readRank_19 : decode cX4_readRank 19 = .ok (.ifCond .ne 5, 3) := by decide +kernel
theorem dX4_readRank_22 : decode cX4_readRank 22 = .ok (.iconst 0, 1) := by decide +kernel
theorem dX4_readRank_23 : decode cX4_readRank 23 = .ok (.ireturn, 1) := by decide +kernel
theorem dX4_readRank_24 : decode cX4_readRank 24 = .ok (.iload_n 1, 1) := by decide +kernel
theorem dX4_readRank_25 : decode cX4_readRank 25 = .ok (.iconst 2, 1) := by decide +kernel
theorem dX4_readRank_26 : decode cX4_readRank 26 = .ok (.if_icmp .ne 7, 3) := by decide +kernel
theorem dX4_readRank_29 : decode cX4_readRank 29 = .ok (.iconst 1, 1) := by decide +kernel
theorem dX4_readRank_30 : decode cX4_readRank 30 = .ok (.goto 5, 3) := by decide +kernel
theorem dX4_readRank_33 : decode cX4_readRank 33 = .ok (.bipush 120, 2) := by decide +kernel
theorem dX4_readRank_35 : decode cX4_readRank 35 = .ok (.istore_n 3, 1) := by decide +kernel
theorem dX4_readRank_36 : decode cX4_readRank 36 = .ok (.iconst 0, 1) := by decide +kernel
theorem dX4_readRank_37 : decode cX4_readRank 37 = .ok (.istore 4, 2) := by decide +kernel
theorem dX4_readRank_39 : decode cX4_readRank 39 = .ok (.iload 4, 2) := by decide +kernel
theorem dX4_readRank_41 : decode cX4_readRank 41 = .ok (.iload_n 3, 1) := by decide +kernel
theorem dX4_readRank_42 : decode cX4_readRank 42 = .ok (.if_icmp .ge 56, 3) := by decide +kernel
theorem dX4_readRank_45 : decode cX4_readRank 45 = .ok (.aload_n 0, 1) := by decide +kernel
theorem dX4_readRank_46 : decode cX4_readRank 46 = .ok (.invokevirtual 64, 3) := by decide +kernel
theorem dX4_readRank_49 : decode cX4_readRank 49 = .ok (.invokestatic 68, 3) := by decide +kernel
theorem dX4_readRank_52 : decode cX4_readRank 52 = .ok (.iload_n 1, 1) := by decide +kernel
theorem dX4_readRank_53 : decode cX4_readRank 53 = .ok (.if_icmp .ne 45, 3) := by decide +kernel
theorem dX4_readRank_56 : decode cX4_readRank 56 = .ok (.aload_n 0, 1) := by decide +kernel
theorem dX4_readRank_57 : decode cX4_readRank 57 = .ok (.invokevirtual 64, 3) := by decide +kernel
theorem dX4_readRank_60 : decode cX4_readRank 60 = .ok (.istore 5, 2) := by decide +kernel
theorem dX4_readRank_62 : decode cX4_readRank 62 = .ok (.aload_n 0, 1) := by decide +kernel
theorem dX4_readRank_63 : decode cX4_readRank 63 = .ok (.dup, 1) := by decide +kernel
theorem dX4_readRank_64 : decode cX4_readRank 64 = .ok (.getfield 29, 3) := by decide +kernel
theorem dX4_readRank_67 : decode cX4_readRank 67 = .ok (.iconst 1, 1) := by decide +kernel
theorem dX4_readRank_68 : decode cX4_readRank 68 = .ok (.iadd, 1) := by decide +kernel
theorem dX4_readRank_69 : decode cX4_readRank 69 = .ok (.putfield 29, 3) := by decide +kernel
theorem dX4_readRank_72 : decode cX4_readRank 72 = .ok (.aload_n 0, 1) := by decide +kernel
theorem dX4_readRank_73 : decode cX4_readRank 73 = .ok (.iload_n 1, 1) := by decide +kernel
theorem dX4_readRank_74 : decode cX4_readRank 74 = .ok (.iconst 1, 1) := by decide +kernel
theorem dX4_readRank_75 : decode cX4_readRank 75 = .ok (.iadd, 1) := by decide +kernel
theorem dX4_readRank_76 : decode cX4_readRank 76 = .ok (.iload_n 2, 1) := by decide +kernel
theorem dX4_readRank_77 : decode cX4_readRank 77 = .ok (.invokevirtual 53, 3) := by decide +kernel
theorem dX4_readRank_80 : decode cX4_readRank 80 = .ok (.ifCond .ne 5, 3) := by decide +kernel
theorem dX4_readRank_83 : decode cX4_readRank 83 = .ok (.iconst 0, 1) := by decide +kernel
theorem dX4_readRank_84 : decode cX4_readRank 84 = .ok (.ireturn, 1) := by decide +kernel
theorem dX4_readRank_85 : decode cX4_readRank 85 = .ok (.aload_n 0, 1) := by decide +kernel
theorem dX4_readRank_86 : decode cX4_readRank 86 = .ok (.iload 5, 2) := by decide +kernel
theorem dX4_readRank_88 : decode cX4_readRank 88 = .ok (.ineg, 1) := by decide +kernel
theorem dX4_readRank_89 : decode cX4_readRank 89 = .ok (.invokevirtual 57, 3) := by decide +kernel
theorem dX4_readRank_92 : decode cX4_readRank 92 = .ok (.iinc 4 1, 3) := by decide +kernel
theorem dX4_readRank_95 : decode cX4_readRank 95 = .ok (.goto (-56), 3) := by decide +kernel
theorem dX4_readRank_98 : decode cX4_readRank 98 = .ok (.iconst 1, 1) := by decide +kernel
theorem dX4_readRank_99 : decode cX4_readRank 99 = .ok (.ireturn, 1) := by decide +kernel
theorem bX4_readOperand_145 {K : KT} {g : GT} {cm sm : Nat} {cs : Nat × Nat} {fr : Nat} {c0 : Nat} {x1 : Int} {cl : Nat → List Int → St → Option (Int × St)} {frc : Nat} {r : Int} {σ' : St} (hC : Ctx K g RX4 cX4_readOperand 4 fr cm sm) (hcs : cs.1 ≤ cm ∧ cs.2 ≤ sm) (h0 : isO 4 c0 = true) (hf : frc + 1 ≤ fr) (hf0 : 8 ≤ fr) (hl0 : ∀ (a0 : Int) (r : Int) (σ σ' : St), cl 0 [a0] σ = some (r, σ') → Cn (Kl K) g yX4_readOperand cX4_readOperand 4 (some .boolean) frc 0 0 [vr c0, vi a0] (SH0, σ) (some (vi r)) (SH0, σ')) (hl1 : ∀ (a0 : Int) (a1 : Int) (r : Int) (σ σ' : St), cl 1 [a0, a1] σ = some (r, σ') → Cn (Kl K) g yX4_readRank cX4_readRank 6 (some .boolean) frc 0 0 [vr c0, vi a0, vi a1] (SH0, σ) (some (vi r)) (SH0, σ')) (hR : RetZ K g cX4_readOperand 4 cs r (SH0, σ')) : ∀ (d0 : Nat) (y1 : Int) (σ : St), isO 4 d0 = true → fX4_readOperand_145 cl c0 x1 d0 y1 σ = some (r, σ') → G K g 4 cs 145 [(0, vr c0), (1, vi x1)] [vi y1, vr d0] (SH0, σ) := by
  intro d0 y1 σ hd0 h
  unfold fX4_readOperand_145 at h
  obtain ⟨s1, e1, h⟩ := of_bind h
  try dsimp only at h
  refine s_callVv hC dX4_readOperand_145 (tX4_emit hd0 e1) miX4_emit mvX4_emit mlRX4_57 (isO_spec hd0) vc_4 rfl rfl (Nat.le_of_ble_eq_true rfl) (by omega) (Nat.le_of_ble_eq_true rfl) hcs ?_
  refine g_iconst hC dX4_readOperand_148 ok_1 ?_
  exact ret_z h hR (by decide) dX4_readOperand_149
theorem bX4_readOperand_119 {K : KT} {g : GT} {cm sm : Nat} {cs : Nat × Nat} {fr : Nat} {c0 : Nat} {x1 : Int} {cl : Nat → List Int → St → Option (Int × St)} {frc : Nat} {r : Int} {σ' : St} (hC : Ctx K g RX4 cX4_readOperand 4 fr cm sm) (hcs : cs.1 ≤ cm ∧ cs.2 ≤ sm) (h0 : isO 4 c0 = true) (hf : frc + 1 ≤ fr) (hf0 : 8 ≤ fr) (hl0 : ∀ (a0 : Int) (r : Int) (σ σ' : St), cl 0 [a0] σ = some (r, σ') → Cn (Kl K) g yX4_readOperand cX4_readOperand 4 (some .boolean) frc 0 0 [vr c0, vi a0] (SH0, σ) (some (vi r)) (SH0, σ')) (hl1 : ∀ (a0 : Int) (a1 : Int) (r : Int) (σ σ' : St), cl 1 [a0, a1] σ = some (r, σ') → Cn (Kl K) g yX4_readRank cX4_readRank 6 (some .boolean) frc 0 0 [vr c0, vi a0, vi a1] (SH0, σ) (some (vi r)) (SH0, σ')) (hR : RetZ K g cX4_readOperand 4 cs r (SH0, σ')) : ∀ (x2 : Int) (σ : St), fX4_readOperand_119 cl c0 x1 x2 σ = some (r, σ') → G K g 4 cs 119 [(0, vr c0), (1, vi x1), (2, vi x2)] [] (SH0, σ) := by
  intro x2 σ h
  unfold fX4_readOperand_119 at h
  refine g_aload_n hC dX4_readOperand_119 0 rfl rfl ?_
  refine g_iload_n hC dX4_readOperand_120 1 rfl rfl ?_
  refine g_iconst hC dX4_readOperand_121 ok_1 ?_
  refine g_iadd hC dX4_readOperand_122 ?_
  obtain ⟨⟨r1, s1⟩, e1, h⟩ := of_bind h
  try dsimp only at h
  refine s_callVi hC dX4_readOperand_123 (hl0 _ _ _ _ e1) miX4_readOperand mvX4_readOperand mlRX4_61 (isO_spec h0) vc_4 rfl rfl (Nat.le_of_ble_eq_true rfl) hf (Nat.le_of_ble_eq_true rfl) hcs ?_
  refine g_if_ne hC dX4_readOperand_126 (tgt := 131) (by decide) (fun h9 => ?_) (fun h9 => ?_)
  · rw [if_neg h9] at h
    refine g_aload_n hC dX4_readOperand_131 0 rfl rfl ?_
    refine g_iload_n hC dX4_readOperand_132 2 rfl rfl ?_
    refine g_bipush hC dX4_readOperand_133 bp_45 ?_
    refine g_icmp_ne hC dX4_readOperand_135 (tgt := 143) (by decide) (fun h9 => ?_) (fun h9 => ?_)
    · rw [if_neg h9] at h
      refine g_bipush hC dX4_readOperand_143 bp_m33 ?_
      exact g_pick [0, 1] rfl (bX4_readOperand_145 hC hcs h0 hf hf0 hl0 hl1 hR _ _ _ h0 h)
    · rw [if_pos h9] at h
      refine g_bipush hC dX4_readOperand_138 bp_m126 ?_
      refine g_goto hC dX4_readOperand_140 (tgt := 145) (by decide) ?_
      exact g_pick [0, 1] rfl (bX4_readOperand_145 hC hcs h0 hf hf0 hl0 hl1 hR _ _ _ h0 h)
  · rw [if_pos h9] at h
    refine g_iconst hC dX4_readOperand_129 ok_0 ?_
    exact ret_z h hR (by decide) dX4_readOperand_130
theorem bX4_readOperand_32 {K : KT} {g : GT} {cm sm : Nat} {cs : Nat × Nat} {fr : Nat} {c0 : Nat} {x1 : Int} {cl : Nat → List Int → St → Option (Int × St)} {frc : Nat} {r : Int} {σ' : St} (hC : Ctx K g RX4 cX4_readOperand 4 fr cm sm) (hcs : cs.1 ≤ cm ∧ cs.2 ≤ sm) (h0 : isO 4 c0 = true) (hf : frc + 1 ≤ fr) (hf0 : 8 ≤ fr) (hl0 : ∀ (a0 : Int) (r : Int) (σ σ' : St), cl 0 [a0] σ = some (r, σ') → Cn (Kl K) g yX4_readOperand cX4_readOperand 4 (some .boolean) frc 0 0 [vr c0, vi a0] (SH0, σ) (some (vi r)) (SH0, σ')) (hl1 : ∀ (a0 : Int) (a1 : Int) (r : Int) (σ σ' : St), cl 1 [a0, a1] σ = some (r, σ') → Cn (Kl K) g yX4_readRank cX4_readRank 6 (some .boolean) frc 0 0 [vr c0, vi a0, vi a1] (SH0, σ) (some (vi r)) (SH0, σ')) (hR : RetZ K g cX4_readOperand 4 cs r (SH0, σ')) : ∀ (x2 : Int) (y0 : Int) (σ : St), fX4_readOperand_32 cl c0 x1 x2 y0 σ = some (r, σ') → G K g 4 cs 32 [(0, vr c0), (1, vi x1), (2, vi x2)] [vi y0] (SH0, σ) := by
  intro x2 y0 σ h
  unfold fX4_readOperand_32 at h
  refine g_istore_n hC dX4_readOperand_32 rfl (Nat.le_of_ble_eq_true rfl) rfl ?_
  refine g_iload_n hC dX4_readOperand_33 0 rfl rfl ?_
  refine g_if_lt hC dX4_readOperand_34 (tgt := 56) (by decide) (fun h9 => ?_) (fun h9 => ?_)
  · rw [if_pos h9] at h
    refine g_iload_n hC dX4_readOperand_56 2 rfl rfl ?_
    refine g_bipush hC dX4_readOperand_57 bp_6 ?_
    refine g_icmp_lt hC dX4_readOperand_59 (tgt := 64) (by decide) (fun h9 => ?_) (fun h9 => ?_)
    · rw [if_pos h9] at h
      refine g_aload_n hC dX4_readOperand_64 1 rfl rfl ?_
      refine g_bipush hC dX4_readOperand_65 bp_40 ?_
      obtain ⟨⟨r1, s1⟩, e1, h⟩ := of_bind h
      try dsimp only at h
      refine s_callVi hC dX4_readOperand_67 (tX4_takes h0 e1) miX4_takes mvX4_takes mlRX4_49 (isO_spec h0) vc_4 rfl rfl (Nat.le_of_ble_eq_true rfl) (by omega) (Nat.le_of_ble_eq_true rfl) hcs ?_
      refine g_if_eq hC dX4_readOperand_70 (tgt := 99) (by decide) (fun h9 => ?_) (fun h9 => ?_)
      · rw [if_pos h9] at h
        refine g_aload_n hC dX4_readOperand_99 1 rfl rfl ?_
        refine g_bipush hC dX4_readOperand_100 bp_33 ?_
        obtain ⟨⟨r2, s2⟩, e2, h⟩ := of_bind h
        try dsimp only at h
        refine s_callVi hC dX4_readOperand_102 (tX4_takes h0 e2) miX4_takes mvX4_takes mlRX4_49 (isO_spec h0) vc_4 rfl rfl (Nat.le_of_ble_eq_true rfl) (by omega) (Nat.le_of_ble_eq_true rfl) hcs ?_
        refine g_if_ne hC dX4_readOperand_105 (tgt := 119) (by decide) (fun h9 => ?_) (fun h9 => ?_)
        · rw [if_neg h9] at h
          exact g_pick [1, 2, 3] rfl (bX4_readOperand_119 hC hcs h0 hf hf0 hl0 hl1 hR _ _ h)
        · rw [if_pos h9] at h
          refine g_aload_n hC dX4_readOperand_108 1 rfl rfl ?_
          refine g_bipush hC dX4_readOperand_109 bp_45 ?_
          obtain ⟨⟨r3, s3⟩, e3, h⟩ := of_bind h
          try dsimp only at h
          refine s_callVi hC dX4_readOperand_111 (tX4_takes h0 e3) miX4_takes mvX4_takes mlRX4_49 (isO_spec h0) vc_4 rfl rfl (Nat.le_of_ble_eq_true rfl) (by omega) (Nat.le_of_ble_eq_true rfl) hcs ?_
          refine g_if_ne hC dX4_readOperand_114 (tgt := 119) (by decide) (fun h9 => ?_) (fun h9 => ?_)
          · rw [if_neg h9] at h
            exact g_pick [1, 2, 3] rfl (bX4_readOperand_119 hC hcs h0 hf hf0 hl0 hl1 hR _ _ h)
          · rw [if_pos h9] at h
            refine g_iconst hC dX4_readOperand_117 ok_0 ?_
            exact ret_z h hR (by decide) dX4_readOperand_118
      · rw [if_neg h9] at h
        refine g_aload_n hC dX4_readOperand_73 1 rfl rfl ?_
        refine g_iconst hC dX4_readOperand_74 ok_0 ?_
        refine g_iload_n hC dX4_readOperand_75 2 rfl rfl ?_
        refine g_iconst hC dX4_readOperand_76 ok_1 ?_
        refine g_iadd hC dX4_readOperand_77 ?_
        obtain ⟨⟨r4, s4⟩, e4, h⟩ := of_bind h
        try dsimp only at h
        refine s_callVi hC dX4_readOperand_78 (hl1 _ _ _ _ _ e4) miX4_readRank mvX4_readRank mlRX4_53 (isO_spec h0) vc_4 rfl rfl (Nat.le_of_ble_eq_true rfl) hf (Nat.le_of_ble_eq_true rfl) hcs ?_
        refine g_if_eq hC dX4_readOperand_81 (tgt := 97) (by decide) (fun h9 => ?_) (fun h9 => ?_)
        · rw [if_pos h9] at h
          refine g_iconst hC dX4_readOperand_97 ok_0 ?_
          exact ret_z h hR (by decide) dX4_readOperand_98
        · rw [if_neg h9] at h
          refine g_aload_n hC dX4_readOperand_84 1 rfl rfl ?_
          refine g_bipush hC dX4_readOperand_85 bp_41 ?_
          obtain ⟨⟨r5, s5⟩, e5, h⟩ := of_bind h
          try dsimp only at h
          refine s_callVi hC dX4_readOperand_87 (tX4_takes h0 e5) miX4_takes mvX4_takes mlRX4_49 (isO_spec h0) vc_4 rfl rfl (Nat.le_of_ble_eq_true rfl) (by omega) (Nat.le_of_ble_eq_true rfl) hcs ?_
          refine g_if_eq hC dX4_readOperand_90 (tgt := 97) (by decide) (fun h9 => ?_) (fun h9 => ?_)
          · rw [if_pos h9] at h
            refine g_iconst hC dX4_readOperand_97 ok_0 ?_
            exact ret_z h hR (by decide) dX4_readOperand_98
          · rw [if_neg h9] at h
            refine g_iconst hC dX4_readOperand_93 ok_1 ?_
            refine g_goto hC dX4_readOperand_94 (tgt := 98) (by decide) ?_
            exact ret_z h hR (by decide) dX4_readOperand_98
    · rw [if_neg h9] at h
      refine g_iconst hC dX4_readOperand_62 ok_0 ?_
      exact ret_z h hR (by decide) dX4_readOperand_63
  · rw [if_neg h9] at h
    refine g_aload_n hC dX4_readOperand_37 1 rfl rfl ?_
    refine g_dup hC dX4_readOperand_38 rfl ?_
    refine g_geti hC dX4_readOperand_39 lfRX4_29 (isO_spec h0) (ft_4_6 h0) ?_
    refine g_iconst hC dX4_readOperand_42 ok_1 ?_
    refine g_iadd hC dX4_readOperand_43 ?_
    refine g_puti hC dX4_readOperand_44 lfRX4_29 fp_4_6 (isO_spec h0) (ft_4_6 h0) ?_
    refine g_aload_n hC dX4_readOperand_47 1 rfl rfl ?_
    refine g_iconst hC dX4_readOperand_48 ok_m1 ?_
    refine g_iload_n hC dX4_readOperand_49 0 rfl rfl ?_
    refine g_isub hC dX4_readOperand_50 ?_
    obtain ⟨s6, e6, h⟩ := of_bind h
    try dsimp only at h
    refine s_callVv hC dX4_readOperand_51 (tX4_emit h0 e6) miX4_emit mvX4_emit mlRX4_57 (isO_spec h0) vc_4 rfl rfl (Nat.le_of_ble_eq_true rfl) (by omega) (Nat.le_of_ble_eq_true rfl) hcs ?_
    refine g_iconst hC dX4_readOperand_54 ok_1 ?_
    exact ret_z h hR (by decide) dX4_readOperand_55
theorem bX4_readOperand_0 {K : KT} {g : GT} {cm sm : Nat} {cs : Nat × Nat} {fr : Nat} {c0 : Nat} {x1 : Int} {cl : Nat → List Int → St → Option (Int × St)} {frc : Nat} {r : Int} {σ' : St} (hC : Ctx K g RX4 cX4_readOperand 4 fr cm sm) (hcs : cs.1 ≤ cm ∧ cs.2 ≤ sm) (h0 : isO 4 c0 = true) (hf : frc + 1 ≤ fr) (hf0 : 8 ≤ fr) (hl0 : ∀ (a0 : Int) (r : Int) (σ σ' : St), cl 0 [a0] σ = some (r, σ') → Cn (Kl K) g yX4_readOperand cX4_readOperand 4 (some .boolean) frc 0 0 [vr c0, vi a0] (SH0, σ) (some (vi r)) (SH0, σ')) (hl1 : ∀ (a0 : Int) (a1 : Int) (r : Int) (σ σ' : St), cl 1 [a0, a1] σ = some (r, σ') → Cn (Kl K) g yX4_readRank cX4_readRank 6 (some .boolean) frc 0 0 [vr c0, vi a0, vi a1] (SH0, σ) (some (vi r)) (SH0, σ')) (hR : RetZ K g cX4_readOperand 4 cs r (SH0, σ')) : ∀ (σ : St), fX4_readOperand cl c0 x1 σ = some (r, σ') → G K g 4 cs 0 [(0, vr c0), (1, vi x1)] [] (SH0, σ) := by
  intro σ h
  unfold fX4_readOperand at h
  refine g_aload_n hC dX4_readOperand_0 0 rfl rfl ?_
  obtain ⟨⟨r1, s1⟩, e1, h⟩ := of_bind h
  try dsimp only at h
  refine s_callVi hC dX4_readOperand_1 (tX4_next h0 e1) miX4_next mvX4_next mlRX4_64 (isO_spec h0) vc_4 rfl rfl (Nat.le_of_ble_eq_true rfl) (by omega) (Nat.le_of_ble_eq_true rfl) hcs ?_
  refine g_istore_n hC dX4_readOperand_4 rfl (Nat.le_of_ble_eq_true rfl) rfl ?_
  refine g_iload_n hC dX4_readOperand_5 0 rfl rfl ?_
  obtain ⟨⟨r2, s2⟩, e2, h⟩ := of_bind h
  try dsimp only at h
  refine s_callSi hC dX4_readOperand_6 (tX4_isDigit e2) miX4_isDigit msX4_isDigit mlRX4_72 rfl rfl (Nat.le_of_ble_eq_true rfl) (by omega) (Nat.le_of_ble_eq_true rfl) hcs ?_
  refine g_if_eq hC dX4_readOperand_9 (tgt := 17) (by decide) (fun h9 => ?_) (fun h9 => ?_)
  · rw [if_pos h9] at h
    refine g_iload_n hC dX4_readOperand_17 0 rfl rfl ?_
    refine g_if_ge hC dX4_readOperand_18 (tgt := 25) (by decide) (fun h9 => ?_) (fun h9 => ?_)
    · rw [if_pos h9] at h
      refine g_ldcS hC dX4_readOperand_25 ?_
      refine g_iload_n hC dX4_readOperand_27 0 rfl rfl ?_
      refine g_i2c hC dX4_readOperand_28 ?_
      refine g_ixof hC dX4_readOperand_29 lmRX4_80 (Nat.le_of_ble_eq_true rfl) (by omega) hcs ?_
      exact g_pick [1, 2, 0] rfl (bX4_readOperand_32 hC hcs h0 hf hf0 hl0 hl1 hR _ _ _ h)
    · rw [if_neg h9] at h
      refine g_iconst hC dX4_readOperand_21 ok_m1 ?_
      refine g_goto hC dX4_readOperand_22 (tgt := 32) (by decide) ?_
      exact g_pick [1, 2, 0] rfl (bX4_readOperand_32 hC hcs h0 hf hf0 hl0 hl1 hR _ _ _ h)
  · rw [if_neg h9] at h
    refine g_aload_n hC dX4_readOperand_12 1 rfl rfl ?_
    obtain ⟨⟨r3, s3⟩, e3, h⟩ := of_bind h
    try dsimp only at h
    refine s_callVi hC dX4_readOperand_13 (tX4_readNumber h0 e3) miX4_readNumber mvX4_readNumber mlRX4_75 (isO_spec h0) vc_4 rfl rfl (Nat.le_of_ble_eq_true rfl) (by omega) (Nat.le_of_ble_eq_true rfl) hcs ?_
    obtain ⟨b9, h⟩ := of_ite h
    exact ret_z h hR b9 dX4_readOperand_16
theorem bX4_readRank_39 {K : KT} {g : GT} {cm sm : Nat} {cs : Nat × Nat} {fr : Nat} {c0 : Nat} {x1 : Int} {x2 : Int} {cl : Nat → List Int → St → Option (Int × St)} {frc : Nat} {r : Int} {σ' : St} (hC : Ctx K g RX4 cX4_readRank 6 fr cm sm) (hcs : cs.1 ≤ cm ∧ cs.2 ≤ sm) (h0 : isO 4 c0 = true) (hf : frc + 1 ≤ fr) (hf0 : 8 ≤ fr) (hl0 : ∀ (a0 : Int) (r : Int) (σ σ' : St), cl 0 [a0] σ = some (r, σ') → Cn (Kl K) g yX4_readOperand cX4_readOperand 4 (some .boolean) frc 0 0 [vr c0, vi a0] (SH0, σ) (some (vi r)) (SH0, σ')) (hl1 : ∀ (a0 : Int) (a1 : Int) (r : Int) (σ σ' : St), cl 1 [a0, a1] σ = some (r, σ') → Cn (Kl K) g yX4_readRank cX4_readRank 6 (some .boolean) frc 0 0 [vr c0, vi a0, vi a1] (SH0, σ) (some (vi r)) (SH0, σ')) (hR : RetZ K g cX4_readRank 6 cs r (SH0, σ')) : ∀ (n : Nat) (x3 : Int) (x4 : Int) (σ : St), fX4_readRank_39 cl c0 x1 x2 n x3 x4 σ = some (r, σ') → G K g 6 cs 39 [(0, vr c0), (1, vi x1), (2, vi x2), (3, vi x3), (4, vi x4)] [] (SH0, σ) := by
  intro n
  induction n with
  | zero =>
    intro x3 x4 σ h
    rw [fX4_readRank_39.eq_1] at h
    cases h
  | succ n ih =>
    intro x3 x4 σ h
    rw [fX4_readRank_39.eq_2] at h
    refine g_iload hC dX4_readRank_39 4 rfl ?_
    refine g_iload_n hC dX4_readRank_41 3 rfl rfl ?_
    refine g_icmp_ge hC dX4_readRank_42 (tgt := 98) (by decide) (fun h9 => ?_) (fun h9 => ?_)
    · rw [if_pos h9] at h
      refine g_iconst hC dX4_readRank_98 ok_1 ?_
      exact ret_z h hR (by decide) dX4_readRank_99
    · rw [if_neg h9] at h
      refine g_aload_n hC dX4_readRank_45 0 rfl rfl ?_
      obtain ⟨⟨r1, s1⟩, e1, h⟩ := of_bind h
      try dsimp only at h
      refine s_callVi hC dX4_readRank_46 (tX4_next h0 e1) miX4_next mvX4_next mlRX4_64 (isO_spec h0) vc_4 rfl rfl (Nat.le_of_ble_eq_true rfl) (by omega) (Nat.le_of_ble_eq_true rfl) hcs ?_
      obtain ⟨⟨r2, s2⟩, e2, h⟩ := of_bind h
      try dsimp only at h
      refine s_callSi hC dX4_readRank_49 (tX4_rankOf e2) miX4_rankOf msX4_rankOf mlRX4_68 rfl rfl (Nat.le_of_ble_eq_true rfl) (by omega) (Nat.le_of_ble_eq_true rfl) hcs ?_
      refine g_iload_n hC dX4_readRank_52 1 rfl rfl ?_
      refine g_icmp_ne hC dX4_readRank_53 (tgt := 98) (by decide) (fun h9 => ?_) (fun h9 => ?_)
      · rw [if_neg h9] at h
        refine g_iconst hC dX4_readRank_98 ok_1 ?_
        exact ret_z h hR (by decide) dX4_readRank_99
      · rw [if_pos h9] at h
        refine g_aload_n hC dX4_readRank_56 0 rfl rfl ?_
        obtain ⟨⟨r3, s3⟩, e3, h⟩ := of_bind h
        try dsimp only at h
        refine s_callVi hC dX4_readRank_57 (tX4_next h0 e3) miX4_next mvX4_next mlRX4_64 (isO_spec h0) vc_4 rfl rfl (Nat.le_of_ble_eq_true rfl) (by omega) (Nat.le_of_ble_eq_true rfl) hcs ?_
        refine g_istore hC dX4_readRank_60 (Nat.le_of_ble_eq_true rfl) rfl ?_
        refine g_aload_n hC dX4_readRank_62 1 rfl rfl ?_
        refine g_dup hC dX4_readRank_63 rfl ?_
        refine g_geti hC dX4_readRank_64 lfRX4_29 (isO_spec h0) (ft_4_6 h0) ?_
        refine g_iconst hC dX4_readRank_67 ok_1 ?_
        refine g_iadd hC dX4_readRank_68 ?_
        refine g_puti hC dX4_readRank_69 lfRX4_29 fp_4_6 (isO_spec h0) (ft_4_6 h0) ?_
        refine g_aload_n hC dX4_readRank_72 1 rfl rfl ?_
        refine g_iload_n hC dX4_readRank_73 2 rfl rfl ?_
        refine g_iconst hC dX4_readRank_74 ok_1 ?_
        refine g_iadd hC dX4_readRank_75 ?_
        refine g_iload_n hC dX4_readRank_76 3 rfl rfl ?_
        obtain ⟨⟨r4, s4⟩, e4, h⟩ := of_bind h
        try dsimp only at h
        refine s_callVi hC dX4_readRank_77 (hl1 _ _ _ _ _ e4) miX4_readRank mvX4_readRank mlRX4_53 (isO_spec h0) vc_4 rfl rfl (Nat.le_of_ble_eq_true rfl) hf (Nat.le_of_ble_eq_true rfl) hcs ?_
        refine g_if_ne hC dX4_readRank_80 (tgt := 85) (by decide) (fun h9 => ?_) (fun h9 => ?_)
        · rw [if_neg h9] at h
          refine g_aload_n hC dX4_readRank_85 1 rfl rfl ?_
          refine g_iload hC dX4_readRank_86 0 rfl ?_
          refine g_ineg hC dX4_readRank_88 ?_
          obtain ⟨s5, e5, h⟩ := of_bind h
          try dsimp only at h
          refine s_callVv hC dX4_readRank_89 (tX4_emit h0 e5) miX4_emit mvX4_emit mlRX4_57 (isO_spec h0) vc_4 rfl rfl (Nat.le_of_ble_eq_true rfl) (by omega) (Nat.le_of_ble_eq_true rfl) hcs ?_
          refine g_iinc hC dX4_readRank_92 5 rfl (Nat.le_of_ble_eq_true rfl) rfl ?_
          refine g_goto hC dX4_readRank_95 (tgt := 39) (by decide) ?_
          exact g_pick [2, 3, 4, 5, 0] rfl (ih _ _ _ h)
        · rw [if_pos h9] at h
          refine g_iconst hC dX4_readRank_83 ok_0 ?_
          exact ret_z h hR (by decide) dX4_readRank_84
theorem bX4_readRank_35 {K : KT} {g : GT} {cm sm : Nat} {cs : Nat × Nat} {fr : Nat} {c0 : Nat} {x1 : Int} {x2 : Int} {cl : Nat → List Int → St → Option (Int × St)} {frc : Nat} {r : Int} {σ' : St} (hC : Ctx K g RX4 cX4_readRank 6 fr cm sm) (hcs : cs.1 ≤ cm ∧ cs.2 ≤ sm) (h0 : isO 4 c0 = true) (hf : frc + 1 ≤ fr) (hf0 : 8 ≤ fr) (hl0 : ∀ (a0 : Int) (r : Int) (σ σ' : St), cl 0 [a0] σ = some (r, σ') → Cn (Kl K) g yX4_readOperand cX4_readOperand 4 (some .boolean) frc 0 0 [vr c0, vi a0] (SH0, σ) (some (vi r)) (SH0, σ')) (hl1 : ∀ (a0 : Int) (a1 : Int) (r : Int) (σ σ' : St), cl 1 [a0, a1] σ = some (r, σ') → Cn (Kl K) g yX4_readRank cX4_readRank 6 (some .boolean) frc 0 0 [vr c0, vi a0, vi a1] (SH0, σ) (some (vi r)) (SH0, σ')) (hR : RetZ K g cX4_readRank 6 cs r (SH0, σ')) : ∀ (y0 : Int) (σ : St), fX4_readRank_35 cl c0 x1 x2 y0 σ = some (r, σ') → G K g 6 cs 35 [(0, vr c0), (1, vi x1), (2, vi x2)] [vi y0] (SH0, σ) := by
  intro y0 σ h
  unfold fX4_readRank_35 at h
  refine g_istore_n hC dX4_readRank_35 rfl (Nat.le_of_ble_eq_true rfl) rfl ?_
  refine g_iconst hC dX4_readRank_36 ok_0 ?_
  refine g_istore hC dX4_readRank_37 (Nat.le_of_ble_eq_true rfl) rfl ?_
  exact g_pick [2, 3, 4, 1, 0] rfl (bX4_readRank_39 hC hcs h0 hf hf0 hl0 hl1 hR _ _ _ _ h)
theorem bX4_readRank_0 {K : KT} {g : GT} {cm sm : Nat} {cs : Nat × Nat} {fr : Nat} {c0 : Nat} {x1 : Int} {x2 : Int} {cl : Nat → List Int → St → Option (Int × St)} {frc : Nat} {r : Int} {σ' : St} (hC : Ctx K g RX4 cX4_readRank 6 fr cm sm) (hcs : cs.1 ≤ cm ∧ cs.2 ≤ sm) (h0 : isO 4 c0 = true) (hf : frc + 1 ≤ fr) (hf0 : 8 ≤ fr) (hl0 : ∀ (a0 : Int) (r : Int) (σ σ' : St), cl 0 [a0] σ = some (r, σ') → Cn (Kl K) g yX4_readOperand cX4_readOperand 4 (some .boolean) frc 0 0 [vr c0, vi a0] (SH0, σ) (some (vi r)) (SH0, σ')) (hl1 : ∀ (a0 : Int) (a1 : Int) (r : Int) (σ σ' : St), cl 1 [a0, a1] σ = some (r, σ') → Cn (Kl K) g yX4_readRank cX4_readRank 6 (some .boolean) frc 0 0 [vr c0, vi a0, vi a1] (SH0, σ) (some (vi r)) (SH0, σ')) (hR : RetZ K g cX4_readRank 6 cs r (SH0, σ')) : ∀ (σ : St), fX4_readRank cl c0 x1 x2 σ = some (r, σ') → G K g 6 cs 0 [(0, vr c0), (1, vi x1), (2, vi x2)] [] (SH0, σ) := by
  intro σ h
  unfold fX4_readRank at h
  refine g_iload_n hC dX4_readRank_0 1 rfl rfl ?_
  refine g_iconst hC dX4_readRank_1 ok_5 ?_
  refine g_icmp_lt hC dX4_readRank_2 (tgt := 11) (by decide) (fun h9 => ?_) (fun h9 => ?_)
  · rw [if_pos h9] at h
    refine g_aload_n hC dX4_readRank_11 0 rfl rfl ?_
    refine g_iload_n hC dX4_readRank_12 1 rfl rfl ?_
    refine g_iconst hC dX4_readRank_13 ok_1 ?_
    refine g_iadd hC dX4_readRank_14 ?_
    refine g_iload_n hC dX4_readRank_15 2 rfl rfl ?_
    obtain ⟨⟨r1, s1⟩, e1, h⟩ := of_bind h
    try dsimp only at h
    refine s_callVi hC dX4_readRank_16 (hl1 _ _ _ _ _ e1) miX4_readRank mvX4_readRank mlRX4_53 (isO_spec h0) vc_4 rfl rfl (Nat.le_of_ble_eq_true rfl) hf (Nat.le_of_ble_eq_true rfl) hcs ?_
    refine g_if_ne hC dX4_readRank_19 (tgt := 24) (by decide) (fun h9 => ?_) (fun h9 => ?_)
    · rw [if_neg h9] at h
      refine g_iload_n hC dX4_readRank_24 1 rfl rfl ?_
      refine g_iconst hC dX4_readRank_25 ok_2 ?_
      refine g_icmp_ne hC dX4_readRank_26 (tgt := 33) (by decide) (fun h9 => ?_) (fun h9 => ?_)
      · rw [if_neg h9] at h
        refine g_bipush hC dX4_readRank_33 bp_120 ?_
        exact g_pick [0, 1, 2] rfl (bX4_readRank_35 hC hcs h0 hf hf0 hl0 hl1 hR _ _ h)
      · rw [if_pos h9] at h
        refine g_iconst hC dX4_readRank_29 ok_1 ?_
        refine g_goto hC dX4_readRank_30 (tgt := 35) (by decide) ?_
        exact g_pick [0, 1, 2] rfl (bX4_readRank_35 hC hcs h0 hf hf0 hl0 hl1 hR _ _ h)
    · rw [if_pos h9] at h
      refine g_iconst hC dX4_readRank_22 ok_0 ?_
      exact ret_z h hR (by decide) dX4_readRank_23
  · rw [if_neg h9] at h
    refine g_aload_n hC dX4_readRank_5 0 rfl rfl ?_
    refine g_iload_n hC dX4_readRank_6 2 rfl rfl ?_
    obtain ⟨⟨r2, s2⟩, e2, h⟩ := of_bind h
    try dsimp only at h
    refine s_callVi hC dX4_readRank_7 (hl0 _ _ _ _ e2) miX4_readOperand mvX4_readOperand mlRX4_61 (isO_spec h0) vc_4 rfl rfl (Nat.le_of_ble_eq_true rfl) hf (Nat.le_of_ble_eq_true rfl) hcs ?_
    obtain ⟨b9, h⟩ := of_ite h
    exact ret_z h hR b9 dX4_readRank_10
theorem cgX4_readOperand {l : Launch} {g : GT} {c0 : Nat} (h0 : isO 4 c0 = true) : ∀ d : Nat, (∀ (a0 : Int) (r : Int) (σ σ' : St), gX4_readOperand c0 d 0 [a0] σ = some (r, σ') → Cn l g yX4_readOperand cX4_readOperand 4 (some .boolean) (8 + d) 0 0 [vr c0, vi a0] (SH0, σ) (some (vi r)) (SH0, σ')) ∧ (∀ (a0 : Int) (a1 : Int) (r : Int) (σ σ' : St), gX4_readOperand c0 d 1 [a0, a1] σ = some (r, σ') → Cn l g yX4_readRank cX4_readRank 6 (some .boolean) (8 + d) 0 0 [vr c0, vi a0, vi a1] (SH0, σ) (some (vi r)) (SH0, σ')) := by
  intro d
  induction d with
  | zero =>
    refine ⟨?_, ?_⟩
    · intro a0 r σ σ' h
      rw [gX4_readOperand_0] at h
      cases h
    · intro a0 a1 r σ σ' h
      rw [gX4_readOperand_0] at h
      cases h
  | succ d ih =>
    obtain ⟨i0, i1⟩ := ih
    refine ⟨?_, ?_⟩
    · intro a0 r σ σ' h
      rw [gX4_readOperand_s] at h
      have h : (fX4_readOperand (gX4_readOperand c0 d) c0 a0 σ) = some (r, σ') := h
      exact Cn.ofZ (by decide) (Nat.le_of_ble_eq_true rfl) (fun K e hC hR => by
        subst e
        exact bX4_readOperand_0 hC ⟨Nat.le_refl _, Nat.le_refl _⟩ h0 (frc := 8 + d) (by omega) (by omega) i0 i1 hR _ h)
    · intro a0 a1 r σ σ' h
      rw [gX4_readOperand_s] at h
      have h : (fX4_readRank (gX4_readOperand c0 d) c0 a0 a1 σ) = some (r, σ') := h
      exact Cn.ofZ (by decide) (Nat.le_of_ble_eq_true rfl) (fun K e hC hR => by
        subst e
        exact bX4_readRank_0 hC ⟨Nat.le_refl _, Nat.le_refl _⟩ h0 (frc := 8 + d) (by omega) (by omega) i0 i1 hR _ h)

theorem tX4_readOperand {l : Launch} {g : GT} {c0 : Nat} {a0 : Int} {σ σ' : St} {r : Int} (h0 : isO 4 c0 = true) (h : hX4_readOperand c0 a0 σ = some (r, σ')) : Cn l g yX4_readOperand cX4_readOperand 4 (some .boolean) 208 0 0 [vr c0, vi a0] (SH0, σ) (some (vi r)) (SH0, σ') := by
  unfold hX4_readOperand at h
  exact (cgX4_readOperand h0 DEP).1 _ _ _ _ h
theorem tX4_readRank {l : Launch} {g : GT} {c0 : Nat} {a0 : Int} {a1 : Int} {σ σ' : St} {r : Int} (h0 : isO 4 c0 = true) (h : hX4_readRank c0 a0 a1 σ = some (r, σ')) : Cn l g yX4_readRank cX4_readRank 6 (some .boolean) 208 0 0 [vr c0, vi a0, vi a1] (SH0, σ) (some (vi r)) (SH0, σ') := by
  unfold hX4_readRank at h
  exact (cgX4_readOperand h0 DEP).2 _ _ _ _ _ h
theorem dX4_readLine_0 : decode cX4_readLine 0 = .ok (.aload_n 0, 1) := by decide +kernel
theorem dX4_readLine_1 : decode cX4_readLine 1 = .ok (.iconst 0, 1) := by decide +kernel
theorem dX4_readLine_2 : decode cX4_readLine 2 = .ok (.iconst 0, 1) := by decide +kernel
theorem dX4_readLine_3 : decode cX4_readLine 3 = .ok (.invokevirtual 53, 3) := by decide +kernel
theorem dX4_readLine_6 : decode cX4_readLine 6 = .ok (.ifCond .ne 5, 3) := by decide +kernel
theorem dX4_readLine_9 : decode cX4_readLine 9 = .ok (.iconst 0, 1) := by decide +kernel
theorem dX4_readLine_10 : decode cX4_readLine 10 = .ok (.ireturn, 1) := by decide +kernel
theorem dX4_readLine_11 : decode cX4_readLine 11 = .ok (.aload_n 0, 1) := by decide +kernel
theorem dX4_readLine_12 : decode cX4_readLine 12 = .ok (.bipush 63, 2) := by decide +kernel
theorem dX4_readLine_14 : decode cX4_readLine 14 = .ok (.invokevirtual 49, 3) := by decide +kernel
theorem dX4_readLine_17 : decode cX4_readLine 17 = .ok (.ifCond .ne 11, 3) := by decide +kernel
theorem dX4_readLine_20 : decode cX4_readLine 20 = .ok (.aload_n 0, 1) := by decide +kernel
theorem dX4_readLine_21 : decode cX4_readLine 21 = .ok (.bipush (-59), 2) := by decide +kernel
theorem dX4_readLine_23 : decode cX4_readLine 23 = .ok (.invokevirtual 57, 3) := by decide +kernel
theorem dX4_readLine_26 : decode cX4_readLine 26 = .ok (.iconst 1, 1) := by decide +kernel
theorem dX4_readLine_27 : decode cX4_readLine 27 = .ok (.ireturn, 1) := by decide +kernel
theorem dX4_readLine_28 : decode cX4_readLine 28 = .ok (.aload_n 0, 1) := by decide +kernel
theorem dX4_readLine_29 : decode cX4_readLine 29 = .ok (.getfield 32, 3) := by decide +kernel
theorem dX4_readLine_32 : decode cX4_readLine 32 = .ok (.istore_n 1, 1) := by decide +kernel
theorem dX4_readLine_33 : decode cX4_readLine 33 = .ok (.aload_n 0, 1) := by decide +kernel
theorem dX4_readLine_34 : decode cX4_readLine 34 = .ok (.sipush (-1000), 3) := by decide +kernel
theorem dX4_readLine_37 : decode cX4_readLine 37 = .ok (.invokevirtual 57, 3) := by decide +kernel
theorem dX4_readLine_40 : decode cX4_readLine 40 = .ok (.aload_n 0, 1) := by decide +kernel
theorem dX4_readLine_41 : decode cX4_readLine 41 = .ok (.iconst 0, 1) := by decide +kernel
theorem dX4_readLine_42 : decode cX4_readLine 42 = .ok (.iconst 0, 1) := by decide +kernel
theorem dX4_readLine_43 : decode cX4_readLine 43 = .ok (.invokevirtual 53, 3) := by decide +kernel
theorem dX4_readLine_46 : decode cX4_readLine 46 = .ok (.ifCond .ne 5, 3) := by decide +kernel
theorem dX4_readLine_49 : decode cX4_readLine 49 = .ok (.iconst 0, 1) := by decide +kernel
theorem dX4_readLine_50 : decode cX4_readLine 50 = .ok (.ireturn, 1) := by decide +kernel
theorem dX4_readLine_51 : decode cX4_readLine 51 = .ok (.aload_n 0, 1) := by decide +kernel
theorem dX4_readLine_52 : decode cX4_readLine 52 = .ok (.bipush (-59), 2) := by decide +kernel
theorem dX4_readLine_54 : decode cX4_readLine 54 = .ok (.invokevirtual 57, 3) := by decide +kernel
theorem dX4_readLine_57 : decode cX4_readLine 57 = .ok (.iload_n 1, 1) := by decide +kernel
theorem dX4_readLine_58 : decode cX4_readLine 58 = .ok (.aload_n 0, 1) := by decide +kernel
theorem dX4_readLine_59 : decode cX4_readLine 59 = .ok (.getfield 22, 3) := by decide +kernel
theorem dX4_readLine_62 : decode cX4_readLine 62 = .ok (.arraylength, 1) := by decide +kernel
theorem dX4_readLine_63 : decode cX4_readLine 63 = .ok (.if_icmp .ge 17, 3) := by decide +kernel
theorem dX4_readLine_66 : decode cX4_readLine 66 = .ok (.aload_n 0, 1) := by decide +kernel
theorem dX4_readLine_67 : decode cX4_readLine 67 = .ok (.getfield 22, 3) := by decide +kernel
theorem dX4_readLine_70 : decode cX4_readLine 70 = .ok (.iload_n 1, 1) := by decide +kernel
theorem dX4_readLine_71 : decode cX4_readLine 71 = .ok (.sipush (-1000), 3) := by decide +kernel
theorem dX4_readLine_74 : decode cX4_readLine 74 = .ok (.aload_n 0, 1) := by decide +kernel
theorem dX4_readLine_75 : decode cX4_readLine 75 = .ok (.getfield 32, 3) := by decide +kernel
theorem dX4_readLine_78 : decode cX4_readLine 78 = .ok (.isub, 1) := by decide +kernel
theorem dX4_readLine_79 : decode cX4_readLine 79 = .ok (.iastore, 1) := by decide +kernel
theorem dX4_readLine_80 : decode cX4_readLine 80 = .ok (.iconst 1, 1) := by decide +kernel
theorem dX4_readLine_81 : decode cX4_readLine 81 = .ok (.ireturn, 1) := by decide +kernel
theorem bX4_readLine_0 {K : KT} {g : GT} {cm sm : Nat} {cs : Nat × Nat} {c0 : Nat} {r : Int} {σ' : St} (hC : Ctx K g RX4 cX4_readLine 2 209 cm sm) (hcs : cs.1 ≤ cm ∧ cs.2 ≤ sm) (h0 : isO 4 c0 = true) (hR : RetZ K g cX4_readLine 2 cs r (SH0, σ')) : ∀ (σ : St), fX4_readLine c0 σ = some (r, σ') → G K g 2 cs 0 [(0, vr c0)] [] (SH0, σ) := by
  intro σ h
  unfold fX4_readLine at h
  refine g_aload_n hC dX4_readLine_0 0 rfl rfl ?_
  refine g_iconst hC dX4_readLine_1 ok_0 ?_
  refine g_iconst hC dX4_readLine_2 ok_0 ?_
  obtain ⟨⟨r1, s1⟩, e1, h⟩ := of_bind h
  try dsimp only at h
  refine s_callVi hC dX4_readLine_3 (tX4_readRank h0 e1) miX4_readRank mvX4_readRank mlRX4_53 (isO_spec h0) vc_4 rfl rfl (Nat.le_of_ble_eq_true rfl) (Nat.le_of_ble_eq_true rfl) (Nat.le_of_ble_eq_true rfl) hcs ?_
  refine g_if_ne hC dX4_readLine_6 (tgt := 11) (by decide) (fun h9 => ?_) (fun h9 => ?_)
  · rw [if_neg h9] at h
    refine g_aload_n hC dX4_readLine_11 0 rfl rfl ?_
    refine g_bipush hC dX4_readLine_12 bp_63 ?_
    obtain ⟨⟨r2, s2⟩, e2, h⟩ := of_bind h
    try dsimp only at h
    refine s_callVi hC dX4_readLine_14 (tX4_takes h0 e2) miX4_takes mvX4_takes mlRX4_49 (isO_spec h0) vc_4 rfl rfl (Nat.le_of_ble_eq_true rfl) (Nat.le_of_ble_eq_true rfl) (Nat.le_of_ble_eq_true rfl) hcs ?_
    refine g_if_ne hC dX4_readLine_17 (tgt := 28) (by decide) (fun h9 => ?_) (fun h9 => ?_)
    · rw [if_neg h9] at h
      refine g_aload_n hC dX4_readLine_28 0 rfl rfl ?_
      refine g_geti hC dX4_readLine_29 lfRX4_32 (isO_spec h0) (ft_4_7 h0) ?_
      refine g_istore_n hC dX4_readLine_32 rfl (Nat.le_of_ble_eq_true rfl) rfl ?_
      refine g_aload_n hC dX4_readLine_33 1 rfl rfl ?_
      refine g_sipush hC dX4_readLine_34 sp_m1000 ?_
      obtain ⟨s3, e3, h⟩ := of_bind h
      try dsimp only at h
      refine s_callVv hC dX4_readLine_37 (tX4_emit h0 e3) miX4_emit mvX4_emit mlRX4_57 (isO_spec h0) vc_4 rfl rfl (Nat.le_of_ble_eq_true rfl) (Nat.le_of_ble_eq_true rfl) (Nat.le_of_ble_eq_true rfl) hcs ?_
      refine g_aload_n hC dX4_readLine_40 1 rfl rfl ?_
      refine g_iconst hC dX4_readLine_41 ok_0 ?_
      refine g_iconst hC dX4_readLine_42 ok_0 ?_
      obtain ⟨⟨r4, s4⟩, e4, h⟩ := of_bind h
      try dsimp only at h
      refine s_callVi hC dX4_readLine_43 (tX4_readRank h0 e4) miX4_readRank mvX4_readRank mlRX4_53 (isO_spec h0) vc_4 rfl rfl (Nat.le_of_ble_eq_true rfl) (Nat.le_of_ble_eq_true rfl) (Nat.le_of_ble_eq_true rfl) hcs ?_
      refine g_if_ne hC dX4_readLine_46 (tgt := 51) (by decide) (fun h9 => ?_) (fun h9 => ?_)
      · rw [if_neg h9] at h
        refine g_aload_n hC dX4_readLine_51 1 rfl rfl ?_
        refine g_bipush hC dX4_readLine_52 bp_m59 ?_
        obtain ⟨s5, e5, h⟩ := of_bind h
        try dsimp only at h
        refine s_callVv hC dX4_readLine_54 (tX4_emit h0 e5) miX4_emit mvX4_emit mlRX4_57 (isO_spec h0) vc_4 rfl rfl (Nat.le_of_ble_eq_true rfl) (Nat.le_of_ble_eq_true rfl) (Nat.le_of_ble_eq_true rfl) hcs ?_
        refine g_iload_n hC dX4_readLine_57 0 rfl rfl ?_
        refine g_aload_n hC dX4_readLine_58 1 rfl rfl ?_
        obtain ⟨b26, h⟩ := of_ite h
        refine g_getd hC dX4_readLine_59 lfRX4_22 (isO_spec h0) (ft_4_4 h0) ?_
        refine g_alen hC dX4_readLine_62 (Or.inl (isA_spec b26)) (ok_LN _) ?_
        refine g_icmp_ge hC dX4_readLine_63 (tgt := 80) (by decide) (fun h9 => ?_) (fun h9 => ?_)
        · rw [if_pos h9] at h
          refine g_iconst hC dX4_readLine_80 ok_1 ?_
          exact ret_z h hR (by decide) dX4_readLine_81
        · rw [if_neg h9] at h
          refine g_aload_n hC dX4_readLine_66 1 rfl rfl ?_
          obtain ⟨b27, h⟩ := of_ite h
          refine g_getd hC dX4_readLine_67 lfRX4_22 (isO_spec h0) (ft_4_4 h0) ?_
          refine g_iload_n hC dX4_readLine_70 0 rfl rfl ?_
          refine g_sipush hC dX4_readLine_71 sp_m1000 ?_
          refine g_aload_n hC dX4_readLine_74 1 rfl rfl ?_
          refine g_geti hC dX4_readLine_75 lfRX4_32 (isO_spec h0) (ft_4_7 h0) ?_
          refine g_isub hC dX4_readLine_78 ?_
          obtain ⟨b9, h⟩ := of_ite h
          refine g_iast hC dX4_readLine_79 (isA_spec b27) b9 ?_
          refine g_iconst hC dX4_readLine_80 ok_1 ?_
          exact ret_z h hR (by decide) dX4_readLine_81
      · rw [if_pos h9] at h
        refine g_iconst hC dX4_readLine_49 ok_0 ?_
        exact ret_z h hR (by decide) dX4_readLine_50
    · rw [if_pos h9] at h
      refine g_aload_n hC dX4_readLine_20 0 rfl rfl ?_
      refine g_bipush hC dX4_readLine_21 bp_m59 ?_
      obtain ⟨s8, e8, h⟩ := of_bind h
      try dsimp only at h
      refine s_callVv hC dX4_readLine_23 (tX4_emit h0 e8) miX4_emit mvX4_emit mlRX4_57 (isO_spec h0) vc_4 rfl rfl (Nat.le_of_ble_eq_true rfl) (Nat.le_of_ble_eq_true rfl) (Nat.le_of_ble_eq_true rfl) hcs ?_
      refine g_iconst hC dX4_readLine_26 ok_1 ?_
      exact ret_z h hR (by decide) dX4_readLine_27
  · rw [if_pos h9] at h
    refine g_iconst hC dX4_readLine_9 ok_0 ?_
    exact ret_z h hR (by decide) dX4_readLine_10
theorem tX4_readLine {l : Launch} {g : GT} {c0 : Nat} {σ σ' : St} {r : Int} (h0 : isO 4 c0 = true) (h : fX4_readLine c0 σ = some (r, σ')) : Cn l g yX4_readLine cX4_readLine 2 (some .boolean) 209 0 0 [vr c0] (SH0, σ) (some (vi r)) (SH0, σ') :=
  Cn.ofZ (by decide) (Nat.le_of_ble_eq_true rfl) (fun K e hC hR => (bX4_readLine_0 hC ⟨Nat.le_refl _, Nat.le_refl _⟩ h0 hR _ h))
theorem dX4_readLines_0 : decode cX4_readLines 0 = .ok (.iconst 0, 1) := by decide +kernel
theorem dX4_readLines_1 : decode cX4_readLines 1 = .ok (.istore_n 1, 1) := by decide +kernel
theorem dX4_readLines_2 : decode cX4_readLines 2 = .ok (.iload_n 1, 1) := by decide +kernel
theorem dX4_readLines_3 : decode cX4_readLines 3 = .ok (.bipush 120, 2) := by decide +kernel
theorem dX4_readLines_5 : decode cX4_readLines 5 = .ok (.if_icmp .gt 42, 3) := by decide +kernel
theorem dX4_readLines_8 : decode cX4_readLines 8 = .ok (.aload_n 0, 1) := by decide +kernel
theorem dX4_readLines_9 : decode cX4_readLines 9 = .ok (.invokevirtual 46, 3) := by decide +kernel
theorem dX4_readLines_12 : decode cX4_readLines 12 = .ok (.ifCond .ne 5, 3) := by decide +kernel
theorem dX4_readLines_15 : decode cX4_readLines 15 = .ok (.iconst 0, 1) := by decide +kernel
theorem dX4_readLines_16 : decode cX4_readLines 16 = .ok (.ireturn, 1) := by decide +kernel
theorem dX4_readLines_17 : decode cX4_readLines 17 = .ok (.aload_n 0, 1) := by decide +kernel
theorem dX4_readLines_18 : decode cX4_readLines 18 = .ok (.getfield 29, 3) := by decide +kernel
theorem dX4_readLines_21 : decode cX4_readLines 21 = .ok (.aload_n 0, 1) := by decide +kernel
theorem dX4_readLines_22 : decode cX4_readLines 22 = .ok (.getfield 25, 3) := by decide +kernel
theorem dX4_readLines_25 : decode cX4_readLines 25 = .ok (.if_icmp .ne 5, 3) := by decide +kernel
theorem dX4_readLines_28 : decode cX4_readLines 28 = .ok (.iconst 1, 1) := by decide +kernel
theorem dX4_readLines_29 : decode cX4_readLines 29 = .ok (.ireturn, 1) := by decide +kernel
theorem dX4_readLines_30 : decode cX4_readLines 30 = .ok (.aload_n 0, 1) := by decide +kernel
theorem dX4_readLines_31 : decode cX4_readLines 31 = .ok (.bipush 59, 2) := by decide +kernel
theorem dX4_readLines_33 : decode cX4_readLines 33 = .ok (.invokevirtual 49, 3) := by decide +kernel
theorem dX4_readLines_36 : decode cX4_readLines 36 = .ok (.ifCond .ne 5, 3) := by decide +kernel
theorem dX4_readLines_39 : decode cX4_readLines 39 = .ok (.iconst 0, 1) := by decide +kernel
theorem dX4_readLines_40 : decode cX4_readLines 40 = .ok (.ireturn, 1) := by decide +kernel
theorem dX4_readLines_41 : decode cX4_readLines 41 = .ok (.iinc 1 1, 3) := by decide +kernel
theorem dX4_readLines_44 : decode cX4_readLines 44 = .ok (.goto (-42), 3) := by decide +kernel
theorem dX4_readLines_47 : decode cX4_readLines 47 = .ok (.iconst 0, 1) := by decide +kernel
theorem dX4_readLines_48 : decode cX4_readLines 48 = .ok (.ireturn, 1) := by decide +kernel
theorem bX4_readLines_2 {K : KT} {g : GT} {cm sm : Nat} {cs : Nat × Nat} {c0 : Nat} {r : Int} {σ' : St} (hC : Ctx K g RX4 cX4_readLines 2 210 cm sm) (hcs : cs.1 ≤ cm ∧ cs.2 ≤ sm) (h0 : isO 4 c0 = true) (hR : RetZ K g cX4_readLines 2 cs r (SH0, σ')) : ∀ (n : Nat) (x1 : Int) (σ : St), fX4_readLines_2 c0 n x1 σ = some (r, σ') → G K g 2 cs 2 [(0, vr c0), (1, vi x1)] [] (SH0, σ) := by
  intro n
  induction n with
  | zero =>
    intro x1 σ h
    rw [fX4_readLines_2.eq_1] at h
    cases h
  | succ n ih =>
    intro x1 σ h
    rw [fX4_readLines_2.eq_2] at h
    refine g_iload_n hC dX4_readLines_2 1 rfl rfl ?_
    refine g_bipush hC dX4_readLines_3 bp_120 ?_
    refine g_icmp_gt hC dX4_readLines_5 (tgt := 47) (by decide) (fun h9 => ?_) (fun h9 => ?_)
    · rw [if_pos h9] at h
      refine g_iconst hC dX4_readLines_47 ok_0 ?_
      exact ret_z h hR (by decide) dX4_readLines_48
    · rw [if_neg h9] at h
      refine g_aload_n hC dX4_readLines_8 0 rfl rfl ?_
      obtain ⟨⟨r1, s1⟩, e1, h⟩ := of_bind h
      try dsimp only at h
      refine s_callVi hC dX4_readLines_9 (tX4_readLine h0 e1) miX4_readLine mvX4_readLine mlRX4_46 (isO_spec h0) vc_4 rfl rfl (Nat.le_of_ble_eq_true rfl) (Nat.le_of_ble_eq_true rfl) (Nat.le_of_ble_eq_true rfl) hcs ?_
      refine g_if_ne hC dX4_readLines_12 (tgt := 17) (by decide) (fun h9 => ?_) (fun h9 => ?_)
      · rw [if_neg h9] at h
        refine g_aload_n hC dX4_readLines_17 0 rfl rfl ?_
        refine g_geti hC dX4_readLines_18 lfRX4_29 (isO_spec h0) (ft_4_6 h0) ?_
        refine g_aload_n hC dX4_readLines_21 0 rfl rfl ?_
        refine g_geti hC dX4_readLines_22 lfRX4_25 (isO_spec h0) (ft_4_5 h0) ?_
        refine g_icmp_ne hC dX4_readLines_25 (tgt := 30) (by decide) (fun h9 => ?_) (fun h9 => ?_)
        · rw [if_neg h9] at h
          refine g_aload_n hC dX4_readLines_30 0 rfl rfl ?_
          refine g_bipush hC dX4_readLines_31 bp_59 ?_
          obtain ⟨⟨r2, s2⟩, e2, h⟩ := of_bind h
          try dsimp only at h
          refine s_callVi hC dX4_readLines_33 (tX4_takes h0 e2) miX4_takes mvX4_takes mlRX4_49 (isO_spec h0) vc_4 rfl rfl (Nat.le_of_ble_eq_true rfl) (Nat.le_of_ble_eq_true rfl) (Nat.le_of_ble_eq_true rfl) hcs ?_
          refine g_if_ne hC dX4_readLines_36 (tgt := 41) (by decide) (fun h9 => ?_) (fun h9 => ?_)
          · rw [if_neg h9] at h
            refine g_iinc hC dX4_readLines_41 1 rfl (Nat.le_of_ble_eq_true rfl) rfl ?_
            refine g_goto hC dX4_readLines_44 (tgt := 2) (by decide) ?_
            exact g_pick [1, 0] rfl (ih _ _ h)
          · rw [if_pos h9] at h
            refine g_iconst hC dX4_readLines_39 ok_0 ?_
            exact ret_z h hR (by decide) dX4_readLines_40
        · rw [if_pos h9] at h
          refine g_iconst hC dX4_readLines_28 ok_1 ?_
          exact ret_z h hR (by decide) dX4_readLines_29
      · rw [if_pos h9] at h
        refine g_iconst hC dX4_readLines_15 ok_0 ?_
        exact ret_z h hR (by decide) dX4_readLines_16
theorem bX4_readLines_0 {K : KT} {g : GT} {cm sm : Nat} {cs : Nat × Nat} {c0 : Nat} {r : Int} {σ' : St} (hC : Ctx K g RX4 cX4_readLines 2 210 cm sm) (hcs : cs.1 ≤ cm ∧ cs.2 ≤ sm) (h0 : isO 4 c0 = true) (hR : RetZ K g cX4_readLines 2 cs r (SH0, σ')) : ∀ (σ : St), fX4_readLines c0 σ = some (r, σ') → G K g 2 cs 0 [(0, vr c0)] [] (SH0, σ) := by
  intro σ h
  unfold fX4_readLines at h
  refine g_iconst hC dX4_readLines_0 ok_0 ?_
  refine g_istore_n hC dX4_readLines_1 rfl (Nat.le_of_ble_eq_true rfl) rfl ?_
  exact g_pick [1, 0] rfl (bX4_readLines_2 hC hcs h0 hR _ _ _ h)
theorem tX4_readLines {l : Launch} {g : GT} {c0 : Nat} {σ σ' : St} {r : Int} (h0 : isO 4 c0 = true) (h : fX4_readLines c0 σ = some (r, σ')) : Cn l g yX4_readLines cX4_readLines 2 (some .boolean) 210 0 0 [vr c0] (SH0, σ) (some (vi r)) (SH0, σ') :=
  Cn.ofZ (by decide) (Nat.le_of_ble_eq_true rfl) (fun K e hC hR => (bX4_readLines_0 hC ⟨Nat.le_refl _, Nat.le_refl _⟩ h0 hR _ h))
theorem dX4_fromTape_0 : decode cX4_fromTape 0 = .ok (.aload_n 0, 1) := by decide +kernel
theorem dX4_fromTape_1 : decode cX4_fromTape 1 = .ok (.iconst 0, 1) := by decide +kernel
theorem dX4_fromTape_2 : decode cX4_fromTape 2 = .ok (.putfield 29, 3) := by decide +kernel
theorem dX4_fromTape_5 : decode cX4_fromTape 5 = .ok (.aload_n 0, 1) := by decide +kernel
theorem dX4_fromTape_6 : decode cX4_fromTape 6 = .ok (.iconst 0, 1) := by decide +kernel
theorem dX4_fromTape_7 : decode cX4_fromTape 7 = .ok (.putfield 32, 3) := by decide +kernel
theorem dX4_fromTape_10 : decode cX4_fromTape 10 = .ok (.aload_n 0, 1) := by decide +kernel
theorem dX4_fromTape_11 : decode cX4_fromTape 11 = .ok (.invokevirtual 35, 3) := by decide +kernel
theorem dX4_fromTape_14 : decode cX4_fromTape 14 = .ok (.istore_n 1, 1) := by decide +kernel
theorem dX4_fromTape_15 : decode cX4_fromTape 15 = .ok (.iload_n 1, 1) := by decide +kernel
theorem dX4_fromTape_16 : decode cX4_fromTape 16 = .ok (.ifCond .eq 34, 3) := by decide +kernel
theorem dX4_fromTape_19 : decode cX4_fromTape 19 = .ok (.aload_n 0, 1) := by decide +kernel
theorem dX4_fromTape_20 : decode cX4_fromTape 20 = .ok (.getfield 19, 3) := by decide +kernel
theorem dX4_fromTape_23 : decode cX4_fromTape 23 = .ok (.astore_n 2, 1) := by decide +kernel
theorem dX4_fromTape_24 : decode cX4_fromTape 24 = .ok (.aload_n 0, 1) := by decide +kernel
theorem dX4_fromTape_25 : decode cX4_fromTape 25 = .ok (.aload_n 0, 1) := by decide +kernel
theorem dX4_fromTape_26 : decode cX4_fromTape 26 = .ok (.getfield 22, 3) := by decide +kernel
theorem dX4_fromTape_29 : decode cX4_fromTape 29 = .ok (.putfield 19, 3) := by decide +kernel
theorem dX4_fromTape_32 : decode cX4_fromTape 32 = .ok (.aload_n 0, 1) := by decide +kernel
theorem dX4_fromTape_33 : decode cX4_fromTape 33 = .ok (.aload_n 2, 1) := by decide +kernel
theorem dX4_fromTape_34 : decode cX4_fromTape 34 = .ok (.putfield 22, 3) := by decide +kernel
theorem dX4_fromTape_37 : decode cX4_fromTape 37 = .ok (.aload_n 0, 1) := by decide +kernel
theorem dX4_fromTape_38 : decode cX4_fromTape 38 = .ok (.aload_n 0, 1) := by decide +kernel
theorem dX4_fromTape_39 : decode cX4_fromTape 39 = .ok (.getfield 32, 3) := by decide +kernel
theorem dX4_fromTape_42 : decode cX4_fromTape 42 = .ok (.putfield 39, 3) := by decide +kernel
theorem dX4_fromTape_45 : decode cX4_fromTape 45 = .ok (.aload_n 0, 1) := by decide +kernel
theorem dX4_fromTape_46 : decode cX4_fromTape 46 = .ok (.iconst 1, 1) := by decide +kernel
theorem dX4_fromTape_47 : decode cX4_fromTape 47 = .ok (.putfield 42, 3) := by decide +kernel
theorem dX4_fromTape_50 : decode cX4_fromTape 50 = .ok (.aload_n 0, 1) := by decide +kernel
theorem dX4_fromTape_51 : decode cX4_fromTape 51 = .ok (.iconst 0, 1) := by decide +kernel
theorem dX4_fromTape_52 : decode cX4_fromTape 52 = .ok (.putfield 25, 3) := by decide +kernel
theorem dX4_fromTape_55 : decode cX4_fromTape 55 = .ok (.iload_n 1, 1) := by decide +kernel
theorem dX4_fromTape_56 : decode cX4_fromTape 56 = .ok (.ifCond .eq 7, 3) := by decide +kernel
theorem dX4_fromTape_59 : decode cX4_fromTape 59 = .ok (.iconst 1, 1) := by decide +kernel
theorem dX4_fromTape_60 : decode cX4_fromTape 60 = .ok (.goto 10, 3) := by decide +kernel
theorem dX4_fromTape_63 : decode cX4_fromTape 63 = .ok (.bipush (-100), 2) := by decide +kernel
theorem dX4_fromTape_65 : decode cX4_fromTape 65 = .ok (.aload_n 0, 1) := by decide +kernel
theorem dX4_fromTape_66 : decode cX4_fromTape 66 = .ok (.getfield 29, 3) := by decide +kernel
theorem dX4_fromTape_69 : decode cX4_fromTape 69 = .ok (.isub, 1) := by decide +kernel
theorem dX4_fromTape_70 : decode cX4_fromTape 70 = .ok (.ireturn, 1) := by decide +kernel
theorem bX4_fromTape_50 {K : KT} {g : GT} {cm sm : Nat} {cs : Nat × Nat} {c0 : Nat} {r : Int} {σ' : St} (hC : Ctx K g RX4 cX4_fromTape 3 211 cm sm) (hcs : cs.1 ≤ cm ∧ cs.2 ≤ sm) (h0 : isO 4 c0 = true) (hR : RetI K g cX4_fromTape 3 cs r (SH0, σ')) : ∀ (x1 : Int) (σ : St), fX4_fromTape_50 c0 x1 σ = some (r, σ') → G K g 3 cs 50 [(0, vr c0), (1, vi x1)] [] (SH0, σ) := by
  intro x1 σ h
  unfold fX4_fromTape_50 at h
  refine g_aload_n hC dX4_fromTape_50 0 rfl rfl ?_
  refine g_iconst hC dX4_fromTape_51 ok_0 ?_
  refine g_puti hC dX4_fromTape_52 lfRX4_25 fp_4_5 (isO_spec h0) (ft_4_5 h0) ?_
  refine g_iload_n hC dX4_fromTape_55 1 rfl rfl ?_
  refine g_if_eq hC dX4_fromTape_56 (tgt := 63) (by decide) (fun h9 => ?_) (fun h9 => ?_)
  · rw [if_pos h9] at h
    refine g_bipush hC dX4_fromTape_63 bp_m100 ?_
    refine g_aload_n hC dX4_fromTape_65 0 rfl rfl ?_
    refine g_geti hC dX4_fromTape_66 lfRX4_29 (isO_spec h0) (ft_4_6 h0) ?_
    refine g_isub hC dX4_fromTape_69 ?_
    exact ret_i h hR dX4_fromTape_70
  · rw [if_neg h9] at h
    refine g_iconst hC dX4_fromTape_59 ok_1 ?_
    refine g_goto hC dX4_fromTape_60 (tgt := 70) (by decide) ?_
    exact ret_i h hR dX4_fromTape_70
theorem bX4_fromTape_0 {K : KT} {g : GT} {cm sm : Nat} {cs : Nat × Nat} {c0 : Nat} {r : Int} {σ' : St} (hC : Ctx K g RX4 cX4_fromTape 3 211 cm sm) (hcs : cs.1 ≤ cm ∧ cs.2 ≤ sm) (h0 : isO 4 c0 = true) (hR : RetI K g cX4_fromTape 3 cs r (SH0, σ')) : ∀ (σ : St), fX4_fromTape c0 σ = some (r, σ') → G K g 3 cs 0 [(0, vr c0)] [] (SH0, σ) := by
  intro σ h
  unfold fX4_fromTape at h
  refine g_aload_n hC dX4_fromTape_0 0 rfl rfl ?_
  refine g_iconst hC dX4_fromTape_1 ok_0 ?_
  refine g_puti hC dX4_fromTape_2 lfRX4_29 fp_4_6 (isO_spec h0) (ft_4_6 h0) ?_
  refine g_aload_n hC dX4_fromTape_5 0 rfl rfl ?_
  refine g_iconst hC dX4_fromTape_6 ok_0 ?_
  refine g_puti hC dX4_fromTape_7 lfRX4_32 fp_4_7 (isO_spec h0) (ft_4_7 h0) ?_
  refine g_aload_n hC dX4_fromTape_10 0 rfl rfl ?_
  obtain ⟨⟨r1, s1⟩, e1, h⟩ := of_bind h
  try dsimp only at h
  refine s_callVi hC dX4_fromTape_11 (tX4_readLines h0 e1) miX4_readLines mvX4_readLines mlRX4_35 (isO_spec h0) vc_4 rfl rfl (Nat.le_of_ble_eq_true rfl) (Nat.le_of_ble_eq_true rfl) (Nat.le_of_ble_eq_true rfl) hcs ?_
  refine g_istore_n hC dX4_fromTape_14 rfl (Nat.le_of_ble_eq_true rfl) rfl ?_
  refine g_iload_n hC dX4_fromTape_15 0 rfl rfl ?_
  refine g_if_eq hC dX4_fromTape_16 (tgt := 50) (by decide) (fun h9 => ?_) (fun h9 => ?_)
  · rw [if_pos h9] at h
    exact g_pick [1, 0] rfl (bX4_fromTape_50 hC hcs h0 hR _ _ h)
  · rw [if_neg h9] at h
    refine g_aload_n hC dX4_fromTape_19 1 rfl rfl ?_
    obtain ⟨b22, h⟩ := of_ite h
    refine g_getd hC dX4_fromTape_20 lfRX4_19 (isO_spec h0) (ft_4_3 h0) ?_
    refine g_astore_n hC dX4_fromTape_23 rfl (Nat.le_of_ble_eq_true rfl) rfl ?_
    refine g_aload_n hC dX4_fromTape_24 2 rfl rfl ?_
    refine g_aload_n hC dX4_fromTape_25 2 rfl rfl ?_
    obtain ⟨b23, h⟩ := of_ite h
    refine g_getd hC dX4_fromTape_26 lfRX4_22 (isO_spec h0) (ft_4_4 h0) ?_
    refine g_putd hC dX4_fromTape_29 lfRX4_19 fp_4_3 (isO_spec h0) (ft_4_3 h0) ?_
    refine g_aload_n hC dX4_fromTape_32 2 rfl rfl ?_
    refine g_aload_n hC dX4_fromTape_33 0 rfl rfl ?_
    refine g_putd hC dX4_fromTape_34 lfRX4_22 fp_4_4 (isO_spec h0) (ft_4_4 h0) ?_
    refine g_aload_n hC dX4_fromTape_37 2 rfl rfl ?_
    refine g_aload_n hC dX4_fromTape_38 2 rfl rfl ?_
    refine g_geti hC dX4_fromTape_39 lfRX4_32 (isO_spec h0) (ft_4_7 h0) ?_
    refine g_puti hC dX4_fromTape_42 lfRX4_39 fp_4_8 (isO_spec h0) (ft_4_8 h0) ?_
    refine g_aload_n hC dX4_fromTape_45 2 rfl rfl ?_
    refine g_iconst hC dX4_fromTape_46 ok_1 ?_
    refine g_putz hC dX4_fromTape_47 lfRX4_42 fp_4_9 (isO_spec h0) (ft_4_9 h0) (by decide) ?_
    exact g_pick [2, 1] rfl (bX4_fromTape_50 hC hcs h0 hR _ _ h)
theorem tX4_fromTape {l : Launch} {g : GT} {c0 : Nat} {σ σ' : St} {r : Int} (h0 : isO 4 c0 = true) (h : fX4_fromTape c0 σ = some (r, σ')) : Cn l g yX4_fromTape cX4_fromTape 3 (some .int) 211 0 0 [vr c0] (SH0, σ) (some (vi r)) (SH0, σ') :=
  Cn.ofI (by decide) (Nat.le_of_ble_eq_true rfl) (fun K e hC hR => (bX4_fromTape_0 hC ⟨Nat.le_refl _, Nat.le_refl _⟩ h0 hR _ h))
theorem dX9_law_0 : decode cX9_law 0 = .ok (.aload_n 0, 1) := by decide +kernel
theorem dX9_law_1 : decode cX9_law 1 = .ok (.getfield 19, 3) := by decide +kernel
theorem dX9_law_4 : decode cX9_law 4 = .ok (.invokevirtual 140, 3) := by decide +kernel
theorem dX9_law_7 : decode cX9_law 7 = .ok (.ireturn, 1) := by decide +kernel
theorem bX9_law_0 {K : KT} {g : GT} {cm sm : Nat} {cs : Nat × Nat} {c0 : Nat} {r : Int} {σ' : St} (hC : Ctx K g RX9 cX9_law 1 212 cm sm) (hcs : cs.1 ≤ cm ∧ cs.2 ≤ sm) (h0 : isO 9 c0 = true) (hR : RetI K g cX9_law 1 cs r (SH0, σ')) : ∀ (σ : St), fX9_law c0 σ = some (r, σ') → G K g 1 cs 0 [(0, vr c0)] [] (SH0, σ) := by
  intro σ h
  unfold fX9_law at h
  refine g_aload_n hC dX9_law_0 0 rfl rfl ?_
  refine g_getr hC dX9_law_1 lfRX9_19 (isO_spec h0) (ft_9_1 h0) ?_
  obtain ⟨⟨r1, s1⟩, e1, h⟩ := of_bind h
  try dsimp only at h
  refine s_callVi hC dX9_law_4 (tX4_fromTape (rf_9_1 h0) e1) miX4_fromTape mvX4_fromTape mlRX9_140 (isO_spec (rf_9_1 h0)) vc_4 rfl rfl (Nat.le_of_ble_eq_true rfl) (Nat.le_of_ble_eq_true rfl) (Nat.le_of_ble_eq_true rfl) hcs ?_
  exact ret_i h hR dX9_law_7
theorem tX9_law {l : Launch} {g : GT} {c0 : Nat} {σ σ' : St} {r : Int} (h0 : isO 9 c0 = true) (h : fX9_law c0 σ = some (r, σ')) : Cn l g yX9_law cX9_law 1 (some .int) 212 0 0 [vr c0] (SH0, σ) (some (vi r)) (SH0, σ') :=
  Cn.ofI (by decide) (Nat.le_of_ble_eq_true rfl) (fun K e hC hR => (bX9_law_0 hC ⟨Nat.le_refl _, Nat.le_refl _⟩ h0 hR _ h))
theorem dX9_led_0 : decode cX9_led 0 = .ok (.iload_n 1, 1) := by decide +kernel
theorem dX9_led_1 : decode cX9_led 1 = .ok (.ifCond .lt 8, 3) := by decide +kernel
theorem dX9_led_4 : decode cX9_led 4 = .ok (.iload_n 1, 1) := by decide +kernel
theorem dX9_led_5 : decode cX9_led 5 = .ok (.iconst 5, 1) := by decide +kernel
theorem dX9_led_6 : decode cX9_led 6 = .ok (.if_icmp .lt 7, 3) := by decide +kernel
theorem dX9_led_9 : decode cX9_led 9 = .ok (.iconst (-1), 1) := by decide +kernel
theorem dX9_led_10 : decode cX9_led 10 = .ok (.goto 9, 3) := by decide +kernel
theorem dX9_led_13 : decode cX9_led 13 = .ok (.aload_n 0, 1) := by decide +kernel
theorem dX9_led_14 : decode cX9_led 14 = .ok (.getfield 69, 3) := by decide +kernel
theorem dX9_led_17 : decode cX9_led 17 = .ok (.iload_n 1, 1) := by decide +kernel
theorem dX9_led_18 : decode cX9_led 18 = .ok (.iaload, 1) := by decide +kernel
theorem dX9_led_19 : decode cX9_led 19 = .ok (.ireturn, 1) := by decide +kernel
theorem bX9_led_0 {K : KT} {g : GT} {cm sm : Nat} {cs : Nat × Nat} {c0 : Nat} {x1 : Int} {r : Int} {σ' : St} (hC : Ctx K g RX9 cX9_led 2 0 cm sm) (hcs : cs.1 ≤ cm ∧ cs.2 ≤ sm) (h0 : isO 9 c0 = true) (hR : RetI K g cX9_led 2 cs r (SH0, σ')) : ∀ (σ : St), fX9_led c0 x1 σ = some (r, σ') → G K g 2 cs 0 [(0, vr c0), (1, vi x1)] [] (SH0, σ) := by
  intro σ h
  unfold fX9_led at h
  refine g_iload_n hC dX9_led_0 1 rfl rfl ?_
  refine g_if_lt hC dX9_led_1 (tgt := 9) (by decide) (fun h9 => ?_) (fun h9 => ?_)
  · rw [if_pos h9] at h
    refine g_iconst hC dX9_led_9 ok_m1 ?_
    refine g_goto hC dX9_led_10 (tgt := 19) (by decide) ?_
    exact ret_i h hR dX9_led_19
  · rw [if_neg h9] at h
    refine g_iload_n hC dX9_led_4 1 rfl rfl ?_
    refine g_iconst hC dX9_led_5 ok_5 ?_
    refine g_icmp_lt hC dX9_led_6 (tgt := 13) (by decide) (fun h9 => ?_) (fun h9 => ?_)
    · rw [if_pos h9] at h
      refine g_aload_n hC dX9_led_13 0 rfl rfl ?_
      refine g_getr hC dX9_led_14 lfRX9_69 (isO_spec h0) (ft_9_9 h0) ?_
      refine g_iload_n hC dX9_led_17 1 rfl rfl ?_
      obtain ⟨b9, h⟩ := of_ite h
      refine g_iald hC dX9_led_18 (isA_spec (rf_9_9 h0)) b9 ?_
      exact ret_i h hR dX9_led_19
    · rw [if_neg h9] at h
      refine g_iconst hC dX9_led_9 ok_m1 ?_
      refine g_goto hC dX9_led_10 (tgt := 19) (by decide) ?_
      exact ret_i h hR dX9_led_19
theorem tX9_led {l : Launch} {g : GT} {c0 : Nat} {x1 : Int} {σ σ' : St} {r : Int} (h0 : isO 9 c0 = true) (h : fX9_led c0 x1 σ = some (r, σ')) : Cn l g yX9_led cX9_led 2 (some .int) 0 0 0 [vr c0, vi x1] (SH0, σ) (some (vi r)) (SH0, σ') :=
  Cn.ofI (by decide) (Nat.le_of_ble_eq_true rfl) (fun K e hC hR => (bX9_led_0 hC ⟨Nat.le_refl _, Nat.le_refl _⟩ h0 hR _ h))
theorem dX9_loses_0 : decode cX9_loses 0 = .ok (.aload_n 0, 1) := by decide +kernel
theorem dX9_loses_1 : decode cX9_loses 1 = .ok (.getfield 10, 3) := by decide +kernel
theorem dX9_loses_4 : decode cX9_loses 4 = .ok (.iload_n 1, 1) := by decide +kernel
theorem dX9_loses_5 : decode cX9_loses 5 = .ok (.invokevirtual 161, 3) := by decide +kernel
theorem dX9_loses_8 : decode cX9_loses 8 = .ok (.ifCond .ne 5, 3) := by decide +kernel
theorem dX9_loses_11 : decode cX9_loses 11 = .ok (.iconst (-1), 1) := by decide +kernel
theorem dX9_loses_12 : decode cX9_loses 12 = .ok (.ireturn, 1) := by decide +kernel
theorem dX9_loses_13 : decode cX9_loses 13 = .ok (.aload_n 0, 1) := by decide +kernel
theorem dX9_loses_14 : decode cX9_loses 14 = .ok (.getfield 10, 3) := by decide +kernel
theorem dX9_loses_17 : decode cX9_loses 17 = .ok (.iload_n 1, 1) := by decide +kernel
theorem dX9_loses_18 : decode cX9_loses 18 = .ok (.iconst 1, 1) := by decide +kernel
theorem dX9_loses_19 : decode cX9_loses 19 = .ok (.invokevirtual 122, 3) := by decide +kernel
theorem dX9_loses_22 : decode cX9_loses 22 = .ok (.istore_n 2, 1) := by decide +kernel
theorem dX9_loses_23 : decode cX9_loses 23 = .ok (.aload_n 0, 1) := by decide +kernel
theorem dX9_loses_24 : decode cX9_loses 24 = .ok (.getfield 10, 3) := by decide +kernel
theorem dX9_loses_27 : decode cX9_loses 27 = .ok (.iload_n 2, 1) := by decide +kernel
theorem dX9_loses_28 : decode cX9_loses 28 = .ok (.invokevirtual 180, 3) := by decide +kernel
theorem dX9_loses_31 : decode cX9_loses 31 = .ok (.ifCond .eq 15, 3) := by decide +kernel
theorem dX9_loses_34 : decode cX9_loses 34 = .ok (.aload_n 0, 1) := by decide +kernel
theorem dX9_loses_35 : decode cX9_loses 35 = .ok (.getfield 10, 3) := by decide +kernel
theorem dX9_loses_38 : decode cX9_loses 38 = .ok (.iload_n 1, 1) := by decide +kernel
theorem dX9_loses_39 : decode cX9_loses 39 = .ok (.iconst 2, 1) := by decide +kernel
theorem dX9_loses_40 : decode cX9_loses 40 = .ok (.invokevirtual 122, 3) := by decide +kernel
theorem dX9_loses_43 : decode cX9_loses 43 = .ok (.ifCond .eq 6, 3) := by decide +kernel
theorem dX9_loses_46 : decode cX9_loses 46 = .ok (.bipush (-5), 2) := by decide +kernel
theorem dX9_loses_48 : decode cX9_loses 48 = .ok (.ireturn, 1) := by decide +kernel
theorem dX9_loses_49 : decode cX9_loses 49 = .ok (.aload_n 0, 1) := by decide +kernel
theorem dX9_loses_50 : decode cX9_loses 50 = .ok (.getfield 28, 3) := by decide +kernel
theorem dX9_loses_53 : decode cX9_loses 53 = .ok (.aload_n 0, 1) := by decide +kernel
theorem dX9_loses_54 : decode cX9_loses 54 = .ok (.getfield 10, 3) := by decide +kernel
theorem dX9_loses_57 : decode cX9_loses 57 = .ok (.invokevirtual 147, 3) := by decide +kernel
theorem dX9_loses_60 : decode cX9_loses 60 = .ok (.aload_n 0, 1) := by decide +kernel
theorem dX9_loses_61 : decode cX9_loses 61 = .ok (.getfield 28, 3) := by decide +kernel
theorem dX9_loses_64 : decode cX9_loses 64 = .ok (.iload_n 2, 1) := by decide +kernel
theorem dX9_loses_65 : decode cX9_loses 65 = .ok (.aload_n 0, 1) := by decide +kernel
theorem dX9_loses_66 : decode cX9_loses 66 = .ok (.getfield 10, 3) := by decide +kernel
theorem dX9_loses_69 : decode cX9_loses 69 = .ok (.iload_n 1, 1) := by decide +kernel
theorem dX9_loses_70 : decode cX9_loses 70 = .ok (.iconst 0, 1) := by decide +kernel
theorem dX9_loses_71 : decode cX9_loses 71 = .ok (.invokevirtual 122, 3) := by decide +kernel
theorem dX9_loses_74 : decode cX9_loses 74 = .ok (.aload_n 0, 1) := by decide +kernel
theorem dX9_loses_75 : decode cX9_loses 75 = .ok (.getfield 28, 3) := by decide +kernel
theorem dX9_loses_78 : decode cX9_loses 78 = .ok (.getfield 183, 3) := by decide +kernel
theorem dX9_loses_81 : decode cX9_loses 81 = .ok (.iload_n 2, 1) := by decide +kernel
theorem dX9_loses_82 : decode cX9_loses 82 = .ok (.iaload, 1) := by decide +kernel
theorem dX9_loses_83 : decode cX9_loses 83 = .ok (.iconst 1, 1) := by decide +kernel
theorem dX9_loses_84 : decode cX9_loses 84 = .ok (.isub, 1) := by decide +kernel
theorem dX9_loses_85 : decode cX9_loses 85 = .ok (.invokevirtual 263, 3) := by decide +kernel
theorem dX9_loses_88 : decode cX9_loses 88 = .ok (.istore_n 3, 1) := by decide +kernel
theorem dX9_loses_89 : decode cX9_loses 89 = .ok (.aload_n 0, 1) := by decide +kernel
theorem dX9_loses_90 : decode cX9_loses 90 = .ok (.getfield 10, 3) := by decide +kernel
theorem dX9_loses_93 : decode cX9_loses 93 = .ok (.iload_n 2, 1) := by decide +kernel
theorem dX9_loses_94 : decode cX9_loses 94 = .ok (.iconst 5, 1) := by decide +kernel
theorem dX9_loses_95 : decode cX9_loses 95 = .ok (.invokevirtual 122, 3) := by decide +kernel
theorem dX9_loses_98 : decode cX9_loses 98 = .ok (.aload_n 0, 1) := by decide +kernel
theorem dX9_loses_99 : decode cX9_loses 99 = .ok (.getfield 10, 3) := by decide +kernel
theorem dX9_loses_102 : decode cX9_loses 102 = .ok (.iload_n 2, 1) := by decide +kernel
theorem dX9_loses_103 : decode cX9_loses 103 = .ok (.bipush 6, 2) := by decide +kernel
theorem dX9_loses_105 : decode cX9_loses 105 = .ok (.invokevirtual 122, 3) := by decide +kernel
theorem dX9_loses_108 : decode cX9_loses 108 = .ok (.iadd, 1) := by decide +kernel
theorem dX9_loses_109 : decode cX9_loses 109 = .ok (.istore 4, 2) := by decide +kernel
theorem dX9_loses_111 : decode cX9_loses 111 = .ok (.iload_n 3, 1) := by decide +kernel
theorem dX9_loses_112 : decode cX9_loses 112 = .ok (.iload 4, 2) := by decide +kernel
theorem dX9_loses_114 : decode cX9_loses 114 = .ok (.invokestatic 266, 3) := by decide +kernel
theorem dX9_loses_117 : decode cX9_loses 117 = .ok (.istore 5, 2) := by decide +kernel
theorem dX9_loses_119 : decode cX9_loses 119 = .ok (.aload_n 0, 1) := by decide +kernel
theorem dX9_loses_120 : decode cX9_loses 120 = .ok (.getfield 10, 3) := by decide +kernel
theorem dX9_loses_123 : decode cX9_loses 123 = .ok (.iload_n 1, 1) := by decide +kernel
theorem dX9_loses_124 : decode cX9_loses 124 = .ok (.iconst 2, 1) := by decide +kernel
theorem dX9_loses_125 : decode cX9_loses 125 = .ok (.iconst 1, 1) := by decide +kernel
theorem dX9_loses_126 : decode cX9_loses 126 = .ok (.invokevirtual 126, 3) := by decide +kernel
theorem dX9_loses_129 : decode cX9_loses 129 = .ok (.aload_n 0, 1) := by decide +kernel
theorem dX9_loses_130 : decode cX9_loses 130 = .ok (.getfield 10, 3) := by decide +kernel
theorem dX9_loses_133 : decode cX9_loses 133 = .ok (.iload_n 1, 1) := by decide +kernel
theorem dX9_loses_134 : decode cX9_loses 134 = .ok (.iconst 3, 1) := by decide +kernel
theorem dX9_loses_135 : decode cX9_loses 135 = .ok (.iload 5, 2) := by decide +kernel
theorem dX9_loses_137 : decode cX9_loses 137 = .ok (.invokevirtual 126, 3) := by decide +kernel
theorem dX9_loses_140 : decode cX9_loses 140 = .ok (.aload_n 0, 1) := by decide +kernel
theorem dX9_loses_141 : decode cX9_loses 141 = .ok (.getfield 69, 3) := by decide +kernel
theorem dX9_loses_144 : decode cX9_loses 144 = .ok (.iconst 2, 1) := by decide +kernel
theorem dX9_loses_145 : decode cX9_loses 145 = .ok (.dup2, 1) := by decide +kernel
theorem dX9_loses_146 : decode cX9_loses 146 = .ok (.iaload, 1) := by decide +kernel
theorem dX9_loses_147 : decode cX9_loses 147 = .ok (.iconst 1, 1) := by decide +kernel
theorem dX9_loses_148 : decode cX9_loses 148 = .ok (.iadd, 1) := by decide +kernel
theorem dX9_loses_149 : decode cX9_loses 149 = .ok (.iastore, 1) := by decide +kernel
theorem dX9_loses_150 : decode cX9_loses 150 = .ok (.iload 5, 2) := by decide +kernel
theorem dX9_loses_152 : decode cX9_loses 152 = .ok (.ireturn, 1) := by decide +kernel
theorem bX9_loses_0 {K : KT} {g : GT} {cm sm : Nat} {cs : Nat × Nat} {c0 : Nat} {x1 : Int} {r : Int} {σ' : St} (hC : Ctx K g RX9 cX9_loses 6 3 cm sm) (hcs : cs.1 ≤ cm ∧ cs.2 ≤ sm) (h0 : isO 9 c0 = true) (hR : RetI K g cX9_loses 6 cs r (SH0, σ')) : ∀ (σ : St), fX9_loses c0 x1 σ = some (r, σ') → G K g 6 cs 0 [(0, vr c0), (1, vi x1)] [] (SH0, σ) := by
  intro σ h
  unfold fX9_loses at h
  refine g_aload_n hC dX9_loses_0 0 rfl rfl ?_
  refine g_getr hC dX9_loses_1 lfRX9_10 (isO_spec h0) (ft_9_0 h0) ?_
  refine g_iload_n hC dX9_loses_4 1 rfl rfl ?_
  obtain ⟨⟨r1, s1⟩, e1, h⟩ := of_bind h
  try dsimp only at h
  refine s_callVi hC dX9_loses_5 (tX2_hasThing (rf_9_0 h0) e1) miX2_hasThing mvX2_hasThing mlRX9_161 (isO_spec (rf_9_0 h0)) vc_2 rfl rfl (Nat.le_of_ble_eq_true rfl) (Nat.le_of_ble_eq_true rfl) (Nat.le_of_ble_eq_true rfl) hcs ?_
  refine g_if_ne hC dX9_loses_8 (tgt := 13) (by decide) (fun h9 => ?_) (fun h9 => ?_)
  · rw [if_neg h9] at h
    refine g_aload_n hC dX9_loses_13 0 rfl rfl ?_
    refine g_getr hC dX9_loses_14 lfRX9_10 (isO_spec h0) (ft_9_0 h0) ?_
    refine g_iload_n hC dX9_loses_17 1 rfl rfl ?_
    refine g_iconst hC dX9_loses_18 ok_1 ?_
    obtain ⟨⟨r2, s2⟩, e2, h⟩ := of_bind h
    try dsimp only at h
    refine s_callVi hC dX9_loses_19 (tX2_number (rf_9_0 h0) e2) miX2_number mvX2_number mlRX9_122 (isO_spec (rf_9_0 h0)) vc_2 rfl rfl (Nat.le_of_ble_eq_true rfl) (Nat.le_of_ble_eq_true rfl) (Nat.le_of_ble_eq_true rfl) hcs ?_
    refine g_istore_n hC dX9_loses_22 rfl (Nat.le_of_ble_eq_true rfl) rfl ?_
    refine g_aload_n hC dX9_loses_23 1 rfl rfl ?_
    refine g_getr hC dX9_loses_24 lfRX9_10 (isO_spec h0) (ft_9_0 h0) ?_
    refine g_iload_n hC dX9_loses_27 0 rfl rfl ?_
    obtain ⟨⟨r3, s3⟩, e3, h⟩ := of_bind h
    try dsimp only at h
    refine s_callVi hC dX9_loses_28 (tX2_hasBidder (rf_9_0 h0) e3) miX2_hasBidder mvX2_hasBidder mlRX9_180 (isO_spec (rf_9_0 h0)) vc_2 rfl rfl (Nat.le_of_ble_eq_true rfl) (Nat.le_of_ble_eq_true rfl) (Nat.le_of_ble_eq_true rfl) hcs ?_
    refine g_if_eq hC dX9_loses_31 (tgt := 46) (by decide) (fun h9 => ?_) (fun h9 => ?_)
    · rw [if_pos h9] at h
      refine g_bipush hC dX9_loses_46 bp_m5 ?_
      exact ret_i h hR dX9_loses_48
    · rw [if_neg h9] at h
      refine g_aload_n hC dX9_loses_34 1 rfl rfl ?_
      refine g_getr hC dX9_loses_35 lfRX9_10 (isO_spec h0) (ft_9_0 h0) ?_
      refine g_iload_n hC dX9_loses_38 2 rfl rfl ?_
      refine g_iconst hC dX9_loses_39 ok_2 ?_
      obtain ⟨⟨r4, s4⟩, e4, h⟩ := of_bind h
      try dsimp only at h
      refine s_callVi hC dX9_loses_40 (tX2_number (rf_9_0 h0) e4) miX2_number mvX2_number mlRX9_122 (isO_spec (rf_9_0 h0)) vc_2 rfl rfl (Nat.le_of_ble_eq_true rfl) (Nat.le_of_ble_eq_true rfl) (Nat.le_of_ble_eq_true rfl) hcs ?_
      refine g_if_eq hC dX9_loses_43 (tgt := 49) (by decide) (fun h9 => ?_) (fun h9 => ?_)
      · rw [if_pos h9] at h
        refine g_aload_n hC dX9_loses_49 1 rfl rfl ?_
        refine g_getr hC dX9_loses_50 lfRX9_28 (isO_spec h0) (ft_9_2 h0) ?_
        refine g_aload_n hC dX9_loses_53 1 rfl rfl ?_
        refine g_getr hC dX9_loses_54 lfRX9_10 (isO_spec h0) (ft_9_0 h0) ?_
        obtain ⟨s5, e5, h⟩ := of_bind h
        try dsimp only at h
        refine s_callVv hC dX9_loses_57 (tX7_begin (rf_9_2 h0) (rf_9_0 h0) e5) miX7_begin mvX7_begin mlRX9_147 (isO_spec (rf_9_2 h0)) vc_7 rfl rfl (Nat.le_of_ble_eq_true rfl) (Nat.le_of_ble_eq_true rfl) (Nat.le_of_ble_eq_true rfl) hcs ?_
        refine g_aload_n hC dX9_loses_60 1 rfl rfl ?_
        refine g_getr hC dX9_loses_61 lfRX9_28 (isO_spec h0) (ft_9_2 h0) ?_
        refine g_iload_n hC dX9_loses_64 0 rfl rfl ?_
        refine g_aload_n hC dX9_loses_65 1 rfl rfl ?_
        refine g_getr hC dX9_loses_66 lfRX9_10 (isO_spec h0) (ft_9_0 h0) ?_
        refine g_iload_n hC dX9_loses_69 2 rfl rfl ?_
        refine g_iconst hC dX9_loses_70 ok_0 ?_
        obtain ⟨⟨r6, s6⟩, e6, h⟩ := of_bind h
        try dsimp only at h
        refine s_callVi hC dX9_loses_71 (tX2_number (rf_9_0 h0) e6) miX2_number mvX2_number mlRX9_122 (isO_spec (rf_9_0 h0)) vc_2 rfl rfl (Nat.le_of_ble_eq_true rfl) (Nat.le_of_ble_eq_true rfl) (Nat.le_of_ble_eq_true rfl) hcs ?_
        refine g_aload_n hC dX9_loses_74 1 rfl rfl ?_
        refine g_getr hC dX9_loses_75 lfRX9_28 (isO_spec h0) (ft_9_2 h0) ?_
        refine g_getr hC dX9_loses_78 lfRX9_183 (isO_spec (rf_9_2 h0)) (ft_7_2 (rf_9_2 h0)) ?_
        refine g_iload_n hC dX9_loses_81 0 rfl rfl ?_
        obtain ⟨b9, h⟩ := of_ite h
        refine g_iald hC dX9_loses_82 (isA_spec (rf_7_2 (rf_9_2 h0))) b9 ?_
        refine g_iconst hC dX9_loses_83 ok_1 ?_
        refine g_isub hC dX9_loses_84 ?_
        obtain ⟨⟨r7, s7⟩, e7, h⟩ := of_bind h
        try dsimp only at h
        refine s_callVi hC dX9_loses_85 (tX7_misses (rf_9_2 h0) e7) miX7_misses mvX7_misses mlRX9_263 (isO_spec (rf_9_2 h0)) vc_7 rfl rfl (Nat.le_of_ble_eq_true rfl) (Nat.le_of_ble_eq_true rfl) (Nat.le_of_ble_eq_true rfl) hcs ?_
        refine g_istore_n hC dX9_loses_88 rfl (Nat.le_of_ble_eq_true rfl) rfl ?_
        refine g_aload_n hC dX9_loses_89 2 rfl rfl ?_
        refine g_getr hC dX9_loses_90 lfRX9_10 (isO_spec h0) (ft_9_0 h0) ?_
        refine g_iload_n hC dX9_loses_93 1 rfl rfl ?_
        refine g_iconst hC dX9_loses_94 ok_5 ?_
        obtain ⟨⟨r8, s8⟩, e8, h⟩ := of_bind h
        try dsimp only at h
        refine s_callVi hC dX9_loses_95 (tX2_number (rf_9_0 h0) e8) miX2_number mvX2_number mlRX9_122 (isO_spec (rf_9_0 h0)) vc_2 rfl rfl (Nat.le_of_ble_eq_true rfl) (Nat.le_of_ble_eq_true rfl) (Nat.le_of_ble_eq_true rfl) hcs ?_
        refine g_aload_n hC dX9_loses_98 2 rfl rfl ?_
        refine g_getr hC dX9_loses_99 lfRX9_10 (isO_spec h0) (ft_9_0 h0) ?_
        refine g_iload_n hC dX9_loses_102 1 rfl rfl ?_
        refine g_bipush hC dX9_loses_103 bp_6 ?_
        obtain ⟨⟨r9, s9⟩, e9, h⟩ := of_bind h
        try dsimp only at h
        refine s_callVi hC dX9_loses_105 (tX2_number (rf_9_0 h0) e9) miX2_number mvX2_number mlRX9_122 (isO_spec (rf_9_0 h0)) vc_2 rfl rfl (Nat.le_of_ble_eq_true rfl) (Nat.le_of_ble_eq_true rfl) (Nat.le_of_ble_eq_true rfl) hcs ?_
        refine g_iadd hC dX9_loses_108 ?_
        refine g_istore hC dX9_loses_109 (Nat.le_of_ble_eq_true rfl) rfl ?_
        refine g_iload_n hC dX9_loses_111 1 rfl rfl ?_
        refine g_iload hC dX9_loses_112 0 rfl ?_
        refine g_min hC dX9_loses_114 lmRX9_266 mn_1 mn_2 mn_3 (Nat.le_of_ble_eq_true rfl) (Nat.le_of_ble_eq_true rfl) hcs ?_
        refine g_istore hC dX9_loses_117 (Nat.le_of_ble_eq_true rfl) rfl ?_
        refine g_aload_n hC dX9_loses_119 4 rfl rfl ?_
        refine g_getr hC dX9_loses_120 lfRX9_10 (isO_spec h0) (ft_9_0 h0) ?_
        refine g_iload_n hC dX9_loses_123 5 rfl rfl ?_
        refine g_iconst hC dX9_loses_124 ok_2 ?_
        refine g_iconst hC dX9_loses_125 ok_1 ?_
        obtain ⟨s10, e10, h⟩ := of_bind h
        try dsimp only at h
        refine s_callVv hC dX9_loses_126 (tX2_become (rf_9_0 h0) e10) miX2_become mvX2_become mlRX9_126 (isO_spec (rf_9_0 h0)) vc_2 rfl rfl (Nat.le_of_ble_eq_true rfl) (Nat.le_of_ble_eq_true rfl) (Nat.le_of_ble_eq_true rfl) hcs ?_
        refine g_aload_n hC dX9_loses_129 4 rfl rfl ?_
        refine g_getr hC dX9_loses_130 lfRX9_10 (isO_spec h0) (ft_9_0 h0) ?_
        refine g_iload_n hC dX9_loses_133 5 rfl rfl ?_
        refine g_iconst hC dX9_loses_134 ok_3 ?_
        refine g_iload hC dX9_loses_135 0 rfl ?_
        obtain ⟨s11, e11, h⟩ := of_bind h
        try dsimp only at h
        refine s_callVv hC dX9_loses_137 (tX2_become (rf_9_0 h0) e11) miX2_become mvX2_become mlRX9_126 (isO_spec (rf_9_0 h0)) vc_2 rfl rfl (Nat.le_of_ble_eq_true rfl) (Nat.le_of_ble_eq_true rfl) (Nat.le_of_ble_eq_true rfl) hcs ?_
        refine g_aload_n hC dX9_loses_140 4 rfl rfl ?_
        refine g_getr hC dX9_loses_141 lfRX9_69 (isO_spec h0) (ft_9_9 h0) ?_
        refine g_iconst hC dX9_loses_144 ok_2 ?_
        refine g_dup2 hC dX9_loses_145 rfl rfl ?_
        obtain ⟨b9, h⟩ := of_ite h
        refine g_iald hC dX9_loses_146 (isA_spec (rf_9_9 h0)) b9 ?_
        refine g_iconst hC dX9_loses_147 ok_1 ?_
        refine g_iadd hC dX9_loses_148 ?_
        obtain ⟨b9, h⟩ := of_ite h
        refine g_iast hC dX9_loses_149 (isA_spec (rf_9_9 h0)) b9 ?_
        refine g_iload hC dX9_loses_150 0 rfl ?_
        exact ret_i h hR dX9_loses_152
      · rw [if_neg h9] at h
        refine g_bipush hC dX9_loses_46 bp_m5 ?_
        exact ret_i h hR dX9_loses_48
  · rw [if_pos h9] at h
    refine g_iconst hC dX9_loses_11 ok_m1 ?_
    exact ret_i h hR dX9_loses_12
theorem tX9_loses {l : Launch} {g : GT} {c0 : Nat} {x1 : Int} {σ σ' : St} {r : Int} (h0 : isO 9 c0 = true) (h : fX9_loses c0 x1 σ = some (r, σ')) : Cn l g yX9_loses cX9_loses 6 (some .int) 3 0 0 [vr c0, vi x1] (SH0, σ) (some (vi r)) (SH0, σ') :=
  Cn.ofI (by decide) (Nat.le_of_ble_eq_true rfl) (fun K e hC hR => (bX9_loses_0 hC ⟨Nat.le_refl _, Nat.le_refl _⟩ h0 hR _ h))
theorem dX0_came_0 : decode cX0_came 0 = .ok (.aload_n 0, 1) := by decide +kernel
theorem dX0_came_1 : decode cX0_came 1 = .ok (.iconst 0, 1) := by decide +kernel
theorem dX0_came_2 : decode cX0_came 2 = .ok (.putfield 13, 3) := by decide +kernel
theorem dX0_came_5 : decode cX0_came 5 = .ok (.aload_n 0, 1) := by decide +kernel
theorem dX0_came_6 : decode cX0_came 6 = .ok (.getfield 17, 3) := by decide +kernel
theorem dX0_came_9 : decode cX0_came 9 = .ok (.bipush 40, 2) := by decide +kernel
theorem dX0_came_11 : decode cX0_came 11 = .ok (.if_icmp .lt 25, 3) := by decide +kernel
theorem dX0_came_14 : decode cX0_came 14 = .ok (.aload_n 0, 1) := by decide +kernel
theorem dX0_came_15 : decode cX0_came 15 = .ok (.getfield 9, 3) := by decide +kernel
theorem dX0_came_18 : decode cX0_came 18 = .ok (.iconst 4, 1) := by decide +kernel
theorem dX0_came_19 : decode cX0_came 19 = .ok (.aload_n 0, 1) := by decide +kernel
theorem dX0_came_20 : decode cX0_came 20 = .ok (.getfield 9, 3) := by decide +kernel
theorem dX0_came_23 : decode cX0_came 23 = .ok (.iconst 0, 1) := by decide +kernel
theorem dX0_came_24 : decode cX0_came 24 = .ok (.sipush 156, 3) := by decide +kernel
theorem dX0_came_27 : decode cX0_came 27 = .ok (.invokestatic 20, 3) := by decide +kernel
theorem dX0_came_30 : decode cX0_came 30 = .ok (.aload_n 0, 1) := by decide +kernel
theorem dX0_came_31 : decode cX0_came 31 = .ok (.bipush 39, 2) := by decide +kernel
theorem dX0_came_33 : decode cX0_came 33 = .ok (.putfield 17, 3) := by decide +kernel
theorem dX0_came_36 : decode cX0_came 36 = .ok (.aload_n 0, 1) := by decide +kernel
theorem dX0_came_37 : decode cX0_came 37 = .ok (.getfield 17, 3) := by decide +kernel
theorem dX0_came_40 : decode cX0_came 40 = .ok (.iconst 4, 1) := by decide +kernel
theorem dX0_came_41 : decode cX0_came 41 = .ok (.imul, 1) := by decide +kernel
theorem dX0_came_42 : decode cX0_came 42 = .ok (.istore 5, 2) := by decide +kernel
theorem dX0_came_44 : decode cX0_came 44 = .ok (.aload_n 0, 1) := by decide +kernel
theorem dX0_came_45 : decode cX0_came 45 = .ok (.getfield 9, 3) := by decide +kernel
theorem dX0_came_48 : decode cX0_came 48 = .ok (.iload 5, 2) := by decide +kernel
theorem dX0_came_50 : decode cX0_came 50 = .ok (.iload_n 1, 1) := by decide +kernel
theorem dX0_came_51 : decode cX0_came 51 = .ok (.iastore, 1) := by decide +kernel
theorem dX0_came_52 : decode cX0_came 52 = .ok (.aload_n 0, 1) := by decide +kernel
theorem dX0_came_53 : decode cX0_came 53 = .ok (.getfield 9, 3) := by decide +kernel
theorem dX0_came_56 : decode cX0_came 56 = .ok (.iload 5, 2) := by decide +kernel
theorem dX0_came_58 : decode cX0_came 58 = .ok (.iconst 1, 1) := by decide +kernel
theorem dX0_came_59 : decode cX0_came 59 = .ok (.iadd, 1) := by decide +kernel
theorem dX0_came_60 : decode cX0_came 60 = .ok (.iload_n 2, 1) := by decide +kernel
theorem dX0_came_61 : decode cX0_came 61 = .ok (.iastore, 1) := by decide +kernel
theorem dX0_came_62 : decode cX0_came 62 = .ok (.aload_n 0, 1) := by decide +kernel
theorem dX0_came_63 : decode cX0_came 63 = .ok (.getfield 9, 3) := by decide +kernel
theorem dX0_came_66 : decode cX0_came 66 = .ok (.iload 5, 2) := by decide +kernel
theorem dX0_came_68 : decode cX0_came 68 = .ok (.iconst 2, 1) := by decide +kernel
theorem dX0_came_69 : decode cX0_came 69 = .ok (.iadd, 1) := by decide +kernel
theorem dX0_came_70 : decode cX0_came 70 = .ok (.iload_n 3, 1) := by decide +kernel
theorem dX0_came_71 : decode cX0_came 71 = .ok (.iastore, 1) := by decide +kernel
theorem dX0_came_72 : decode cX0_came 72 = .ok (.aload_n 0, 1) := by decide +kernel
theorem dX0_came_73 : decode cX0_came 73 = .ok (.getfield 9, 3) := by decide +kernel
theorem dX0_came_76 : decode cX0_came 76 = .ok (.iload 5, 2) := by decide +kernel
theorem dX0_came_78 : decode cX0_came 78 = .ok (.iconst 3, 1) := by decide +kernel
theorem dX0_came_79 : decode cX0_came 79 = .ok (.iadd, 1) := by decide +kernel
theorem dX0_came_80 : decode cX0_came 80 = .ok (.iload 4, 2) := by decide +kernel
theorem dX0_came_82 : decode cX0_came 82 = .ok (.iastore, 1) := by decide +kernel
theorem dX0_came_83 : decode cX0_came 83 = .ok (.aload_n 0, 1) := by decide +kernel
theorem dX0_came_84 : decode cX0_came 84 = .ok (.dup, 1) := by decide +kernel
theorem dX0_came_85 : decode cX0_came 85 = .ok (.getfield 17, 3) := by decide +kernel
theorem dX0_came_88 : decode cX0_came 88 = .ok (.iconst 1, 1) := by decide +kernel
theorem dX0_came_89 : decode cX0_came 89 = .ok (.iadd, 1) := by decide +kernel
theorem dX0_came_90 : decode cX0_came 90 = .ok (.putfield 17, 3) := by decide +kernel
theorem dX0_came_93 : decode cX0_came 93 = .ok (.return_, 1) := by decide +kernel
theorem bX0_came_36 {K : KT} {g : GT} {cm sm : Nat} {cs : Nat × Nat} {c0 : Nat} {x1 : Int} {x2 : Int} {x3 : Int} {x4 : Int} {σ' : St} (hC : Ctx K g RX0 cX0_came 6 1 cm sm) (hcs : cs.1 ≤ cm ∧ cs.2 ≤ sm) (h0 : isO 0 c0 = true) (hR : RetV K g cX0_came 6 cs (SH0, σ')) : ∀ (σ : St), fX0_came_36 c0 x1 x2 x3 x4 σ = some σ' → G K g 6 cs 36 [(0, vr c0), (1, vi x1), (2, vi x2), (3, vi x3), (4, vi x4)] [] (SH0, σ) := by
  intro σ h
  unfold fX0_came_36 at h
  refine g_aload_n hC dX0_came_36 0 rfl rfl ?_
  refine g_geti hC dX0_came_37 lfRX0_17 (isO_spec h0) (ft_0_1 h0) ?_
  refine g_iconst hC dX0_came_40 ok_4 ?_
  refine g_imul hC dX0_came_41 ?_
  refine g_istore hC dX0_came_42 (Nat.le_of_ble_eq_true rfl) rfl ?_
  refine g_aload_n hC dX0_came_44 1 rfl rfl ?_
  refine g_getr hC dX0_came_45 lfRX0_9 (isO_spec h0) (ft_0_0 h0) ?_
  refine g_iload hC dX0_came_48 0 rfl ?_
  refine g_iload_n hC dX0_came_50 2 rfl rfl ?_
  obtain ⟨b9, h⟩ := of_ite h
  refine g_iast hC dX0_came_51 (isA_spec (rf_0_0 h0)) b9 ?_
  refine g_aload_n hC dX0_came_52 1 rfl rfl ?_
  refine g_getr hC dX0_came_53 lfRX0_9 (isO_spec h0) (ft_0_0 h0) ?_
  refine g_iload hC dX0_came_56 0 rfl ?_
  refine g_iconst hC dX0_came_58 ok_1 ?_
  refine g_iadd hC dX0_came_59 ?_
  refine g_iload_n hC dX0_came_60 3 rfl rfl ?_
  obtain ⟨b9, h⟩ := of_ite h
  refine g_iast hC dX0_came_61 (isA_spec (rf_0_0 h0)) b9 ?_
  refine g_aload_n hC dX0_came_62 1 rfl rfl ?_
  refine g_getr hC dX0_came_63 lfRX0_9 (isO_spec h0) (ft_0_0 h0) ?_
  refine g_iload hC dX0_came_66 0 rfl ?_
  refine g_iconst hC dX0_came_68 ok_2 ?_
  refine g_iadd hC dX0_came_69 ?_
  refine g_iload_n hC dX0_came_70 4 rfl rfl ?_
  obtain ⟨b9, h⟩ := of_ite h
  refine g_iast hC dX0_came_71 (isA_spec (rf_0_0 h0)) b9 ?_
  refine g_aload_n hC dX0_came_72 1 rfl rfl ?_
  refine g_getr hC dX0_came_73 lfRX0_9 (isO_spec h0) (ft_0_0 h0) ?_
  refine g_iload hC dX0_came_76 0 rfl ?_
  refine g_iconst hC dX0_came_78 ok_3 ?_
  refine g_iadd hC dX0_came_79 ?_
  refine g_iload hC dX0_came_80 5 rfl ?_
  obtain ⟨b9, h⟩ := of_ite h
  refine g_iast hC dX0_came_82 (isA_spec (rf_0_0 h0)) b9 ?_
  refine g_aload_n hC dX0_came_83 1 rfl rfl ?_
  refine g_dup hC dX0_came_84 rfl ?_
  refine g_geti hC dX0_came_85 lfRX0_17 (isO_spec h0) (ft_0_1 h0) ?_
  refine g_iconst hC dX0_came_88 ok_1 ?_
  refine g_iadd hC dX0_came_89 ?_
  refine g_puti hC dX0_came_90 lfRX0_17 fp_0_1 (isO_spec h0) (ft_0_1 h0) ?_
  exact ret_v h hR dX0_came_93
theorem bX0_came_0 {K : KT} {g : GT} {cm sm : Nat} {cs : Nat × Nat} {c0 : Nat} {x1 : Int} {x2 : Int} {x3 : Int} {x4 : Int} {σ' : St} (hC : Ctx K g RX0 cX0_came 6 1 cm sm) (hcs : cs.1 ≤ cm ∧ cs.2 ≤ sm) (h0 : isO 0 c0 = true) (hR : RetV K g cX0_came 6 cs (SH0, σ')) : ∀ (σ : St), fX0_came c0 x1 x2 x3 x4 σ = some σ' → G K g 6 cs 0 [(0, vr c0), (1, vi x1), (2, vi x2), (3, vi x3), (4, vi x4)] [] (SH0, σ) := by
  intro σ h
  unfold fX0_came at h
  refine g_aload_n hC dX0_came_0 0 rfl rfl ?_
  refine g_iconst hC dX0_came_1 ok_0 ?_
  refine g_puti hC dX0_came_2 lfRX0_13 fp_0_2 (isO_spec h0) (ft_0_2 h0) ?_
  refine g_aload_n hC dX0_came_5 0 rfl rfl ?_
  refine g_geti hC dX0_came_6 lfRX0_17 (isO_spec h0) (ft_0_1 h0) ?_
  refine g_bipush hC dX0_came_9 bp_40 ?_
  refine g_icmp_lt hC dX0_came_11 (tgt := 36) (by decide) (fun h9 => ?_) (fun h9 => ?_)
  · rw [if_pos h9] at h
    exact g_pick [0, 1, 2, 3, 4] rfl (bX0_came_36 hC hcs h0 hR _ h)
  · rw [if_neg h9] at h
    refine g_aload_n hC dX0_came_14 0 rfl rfl ?_
    refine g_getr hC dX0_came_15 lfRX0_9 (isO_spec h0) (ft_0_0 h0) ?_
    refine g_iconst hC dX0_came_18 ok_4 ?_
    refine g_aload_n hC dX0_came_19 0 rfl rfl ?_
    refine g_getr hC dX0_came_20 lfRX0_9 (isO_spec h0) (ft_0_0 h0) ?_
    refine g_iconst hC dX0_came_23 ok_0 ?_
    refine g_sipush hC dX0_came_24 sp_156 ?_
    obtain ⟨b9, h⟩ := of_ite h
    refine g_copyi hC dX0_came_27 lmRX0_20 ac_1 ac_2 ac_3 (Nat.le_of_ble_eq_true rfl) (Nat.le_of_ble_eq_true rfl) (isA_spec (rf_0_0 h0)) (isA_spec (rf_0_0 h0)) b9 ?_
    refine g_aload_n hC dX0_came_30 0 rfl rfl ?_
    refine g_bipush hC dX0_came_31 bp_39 ?_
    refine g_puti hC dX0_came_33 lfRX0_17 fp_0_1 (isO_spec h0) (ft_0_1 h0) ?_
    exact g_pick [0, 1, 2, 3, 4] rfl (bX0_came_36 hC hcs h0 hR _ h)
theorem tX0_came {l : Launch} {g : GT} {c0 : Nat} {x1 : Int} {x2 : Int} {x3 : Int} {x4 : Int} {σ σ' : St} (h0 : isO 0 c0 = true) (h : fX0_came c0 x1 x2 x3 x4 σ = some σ') : Cn l g yX0_came cX0_came 6 none 1 0 0 [vr c0, vi x1, vi x2, vi x3, vi x4] (SH0, σ) none (SH0, σ') :=
  Cn.ofV (by decide) (Nat.le_of_ble_eq_true rfl) (fun K e hC hR => (bX0_came_0 hC ⟨Nat.le_refl _, Nat.le_refl _⟩ h0 hR _ h))
theorem dX2_has_0 : decode cX2_has 0 = .ok (.iload_n 2, 1) := by decide +kernel
theorem dX2_has_1 : decode cX2_has 1 = .ok (.ifCond .lt 9, 3) := by decide +kernel
theorem dX2_has_4 : decode cX2_has 4 = .ok (.iload_n 2, 1) := by decide +kernel
theorem dX2_has_5 : decode cX2_has 5 = .ok (.bipush 13, 2) := by decide +kernel
theorem dX2_has_7 : decode cX2_has 7 = .ok (.if_icmp .lt 5, 3) := by decide +kernel
theorem dX2_has_10 : decode cX2_has 10 = .ok (.iconst 0, 1) := by decide +kernel
theorem dX2_has_11 : decode cX2_has 11 = .ok (.ireturn, 1) := by decide +kernel
theorem dX2_has_12 : decode cX2_has 12 = .ok (.iload_n 2, 1) := by decide +kernel
theorem dX2_has_13 : decode cX2_has 13 = .ok (.iconst 4, 1) := by decide +kernel
theorem dX2_has_14 : decode cX2_has 14 = .ok (.if_icmp .ge 11, 3) := by decide +kernel
theorem dX2_has_17 : decode cX2_has 17 = .ok (.aload_n 0, 1) := by decide +kernel
theorem dX2_has_18 : decode cX2_has 18 = .ok (.iload_n 1, 1) := by decide +kernel
theorem dX2_has_19 : decode cX2_has 19 = .ok (.invokevirtual 25, 3) := by decide +kernel
theorem dX2_has_22 : decode cX2_has 22 = .ok (.goto 8, 3) := by decide +kernel
theorem dX2_has_25 : decode cX2_has 25 = .ok (.aload_n 0, 1) := by decide +kernel
theorem dX2_has_26 : decode cX2_has 26 = .ok (.iload_n 1, 1) := by decide +kernel
theorem dX2_has_27 : decode cX2_has 27 = .ok (.invokevirtual 29, 3) := by decide +kernel
theorem dX2_has_30 : decode cX2_has 30 = .ok (.ireturn, 1) := by decide +kernel
theorem bX2_has_0 {K : KT} {g : GT} {cm sm : Nat} {cs : Nat × Nat} {c0 : Nat} {x1 : Int} {x2 : Int} {r : Int} {σ' : St} (hC : Ctx K g RX2 cX2_has 3 1 cm sm) (hcs : cs.1 ≤ cm ∧ cs.2 ≤ sm) (h0 : isO 2 c0 = true) (hR : RetZ K g cX2_has 3 cs r (SH0, σ')) : ∀ (σ : St), fX2_has c0 x1 x2 σ = some (r, σ') → G K g 3 cs 0 [(0, vr c0), (1, vi x1), (2, vi x2)] [] (SH0, σ) := by
  intro σ h
  unfold fX2_has at h
  refine g_iload_n hC dX2_has_0 2 rfl rfl ?_
  refine g_if_lt hC dX2_has_1 (tgt := 10) (by decide) (fun h9 => ?_) (fun h9 => ?_)
  · rw [if_pos h9] at h
    refine g_iconst hC dX2_has_10 ok_0 ?_
    exact ret_z h hR (by decide) dX2_has_11
  · rw [if_neg h9] at h
    refine g_iload_n hC dX2_has_4 2 rfl rfl ?_
    refine g_bipush hC dX2_has_5 bp_13 ?_
    refine g_icmp_lt hC dX2_has_7 (tgt := 12) (by decide) (fun h9 => ?_) (fun h9 => ?_)
    · rw [if_pos h9] at h
      refine g_iload_n hC dX2_has_12 2 rfl rfl ?_
      refine g_iconst hC dX2_has_13 ok_4 ?_
      refine g_icmp_ge hC dX2_has_14 (tgt := 25) (by decide) (fun h9 => ?_) (fun h9 => ?_)
      · rw [if_pos h9] at h
        refine g_aload_n hC dX2_has_25 0 rfl rfl ?_
        refine g_iload_n hC dX2_has_26 1 rfl rfl ?_
        obtain ⟨⟨r1, s1⟩, e1, h⟩ := of_bind h
        try dsimp only at h
        refine s_callVi hC dX2_has_27 (tX2_hasBidder h0 e1) miX2_hasBidder mvX2_hasBidder mlRX2_29 (isO_spec h0) vc_2 rfl rfl (Nat.le_of_ble_eq_true rfl) (Nat.le_of_ble_eq_true rfl) (Nat.le_of_ble_eq_true rfl) hcs ?_
        obtain ⟨b9, h⟩ := of_ite h
        exact ret_z h hR b9 dX2_has_30
      · rw [if_neg h9] at h
        refine g_aload_n hC dX2_has_17 0 rfl rfl ?_
        refine g_iload_n hC dX2_has_18 1 rfl rfl ?_
        obtain ⟨⟨r2, s2⟩, e2, h⟩ := of_bind h
        try dsimp only at h
        refine s_callVi hC dX2_has_19 (tX2_hasThing h0 e2) miX2_hasThing mvX2_hasThing mlRX2_25 (isO_spec h0) vc_2 rfl rfl (Nat.le_of_ble_eq_true rfl) (Nat.le_of_ble_eq_true rfl) (Nat.le_of_ble_eq_true rfl) hcs ?_
        refine g_goto hC dX2_has_22 (tgt := 30) (by decide) ?_
        obtain ⟨b9, h⟩ := of_ite h
        exact ret_z h hR b9 dX2_has_30
    · rw [if_neg h9] at h
      refine g_iconst hC dX2_has_10 ok_0 ?_
      exact ret_z h hR (by decide) dX2_has_11
theorem tX2_has {l : Launch} {g : GT} {c0 : Nat} {x1 : Int} {x2 : Int} {σ σ' : St} {r : Int} (h0 : isO 2 c0 = true) (h : fX2_has c0 x1 x2 σ = some (r, σ')) : Cn l g yX2_has cX2_has 3 (some .boolean) 1 0 0 [vr c0, vi x1, vi x2] (SH0, σ) (some (vi r)) (SH0, σ') :=
  Cn.ofZ (by decide) (Nat.le_of_ble_eq_true rfl) (fun K e hC hR => (bX2_has_0 hC ⟨Nat.le_refl _, Nat.le_refl _⟩ h0 hR _ h))
theorem dX9_mayBe_0 : decode cX9_mayBe 0 = .ok (.iload_n 1, 1) := by decide +kernel
theorem dX9_mayBe_1 : decode cX9_mayBe 1 = .ok (.iconst 1, 1) := by decide +kernel
theorem dX9_mayBe_2 : decode cX9_mayBe 2 = .ok (.if_icmp .ne 27, 3) := by decide +kernel
theorem dX9_mayBe_5 : decode cX9_mayBe 5 = .ok (.iload_n 2, 1) := by decide +kernel
theorem dX9_mayBe_6 : decode cX9_mayBe 6 = .ok (.iconst (-1), 1) := by decide +kernel
theorem dX9_mayBe_7 : decode cX9_mayBe 7 = .ok (.if_icmp .eq 14, 3) := by decide +kernel
theorem dX9_mayBe_10 : decode cX9_mayBe 10 = .ok (.aload_n 0, 1) := by decide +kernel
theorem dX9_mayBe_11 : decode cX9_mayBe 11 = .ok (.getfield 10, 3) := by decide +kernel
theorem dX9_mayBe_14 : decode cX9_mayBe 14 = .ok (.iload_n 2, 1) := by decide +kernel
theorem dX9_mayBe_15 : decode cX9_mayBe 15 = .ok (.invokevirtual 180, 3) := by decide +kernel
theorem dX9_mayBe_18 : decode cX9_mayBe 18 = .ok (.ifCond .eq 7, 3) := by decide +kernel
theorem dX9_mayBe_21 : decode cX9_mayBe 21 = .ok (.iconst 1, 1) := by decide +kernel
theorem dX9_mayBe_22 : decode cX9_mayBe 22 = .ok (.goto 12, 3) := by decide +kernel
theorem dX9_mayBe_25 : decode cX9_mayBe 25 = .ok (.iconst 0, 1) := by decide +kernel
theorem dX9_mayBe_26 : decode cX9_mayBe 26 = .ok (.goto 8, 3) := by decide +kernel
theorem dX9_mayBe_29 : decode cX9_mayBe 29 = .ok (.iload_n 1, 1) := by decide +kernel
theorem dX9_mayBe_30 : decode cX9_mayBe 30 = .ok (.iload_n 2, 1) := by decide +kernel
theorem dX9_mayBe_31 : decode cX9_mayBe 31 = .ok (.invokestatic 84, 3) := by decide +kernel
theorem dX9_mayBe_34 : decode cX9_mayBe 34 = .ok (.ireturn, 1) := by decide +kernel
theorem bX9_mayBe_0 {K : KT} {g : GT} {cm sm : Nat} {cs : Nat × Nat} {c0 : Nat} {x1 : Int} {x2 : Int} {r : Int} {σ' : St} (hC : Ctx K g RX9 cX9_mayBe 3 1 cm sm) (hcs : cs.1 ≤ cm ∧ cs.2 ≤ sm) (h0 : isO 9 c0 = true) (hR : RetZ K g cX9_mayBe 3 cs r (SH0, σ')) : ∀ (σ : St), fX9_mayBe c0 x1 x2 σ = some (r, σ') → G K g 3 cs 0 [(0, vr c0), (1, vi x1), (2, vi x2)] [] (SH0, σ) := by
  intro σ h
  unfold fX9_mayBe at h
  refine g_iload_n hC dX9_mayBe_0 1 rfl rfl ?_
  refine g_iconst hC dX9_mayBe_1 ok_1 ?_
  refine g_icmp_ne hC dX9_mayBe_2 (tgt := 29) (by decide) (fun h9 => ?_) (fun h9 => ?_)
  · rw [if_neg h9] at h
    refine g_iload_n hC dX9_mayBe_29 1 rfl rfl ?_
    refine g_iload_n hC dX9_mayBe_30 2 rfl rfl ?_
    obtain ⟨⟨r1, s1⟩, e1, h⟩ := of_bind h
    try dsimp only at h
    refine s_callSi hC dX9_mayBe_31 (tX9_isWithin e1) miX9_isWithin msX9_isWithin mlRX9_84 rfl rfl (Nat.le_of_ble_eq_true rfl) (Nat.le_of_ble_eq_true rfl) (Nat.le_of_ble_eq_true rfl) hcs ?_
    obtain ⟨b9, h⟩ := of_ite h
    exact ret_z h hR b9 dX9_mayBe_34
  · rw [if_pos h9] at h
    refine g_iload_n hC dX9_mayBe_5 2 rfl rfl ?_
    refine g_iconst hC dX9_mayBe_6 ok_m1 ?_
    refine g_icmp_eq hC dX9_mayBe_7 (tgt := 21) (by decide) (fun h9 => ?_) (fun h9 => ?_)
    · rw [if_pos h9] at h
      refine g_iconst hC dX9_mayBe_21 ok_1 ?_
      refine g_goto hC dX9_mayBe_22 (tgt := 34) (by decide) ?_
      exact ret_z h hR (by decide) dX9_mayBe_34
    · rw [if_neg h9] at h
      refine g_aload_n hC dX9_mayBe_10 0 rfl rfl ?_
      refine g_getr hC dX9_mayBe_11 lfRX9_10 (isO_spec h0) (ft_9_0 h0) ?_
      refine g_iload_n hC dX9_mayBe_14 2 rfl rfl ?_
      obtain ⟨⟨r2, s2⟩, e2, h⟩ := of_bind h
      try dsimp only at h
      refine s_callVi hC dX9_mayBe_15 (tX2_hasBidder (rf_9_0 h0) e2) miX2_hasBidder mvX2_hasBidder mlRX9_180 (isO_spec (rf_9_0 h0)) vc_2 rfl rfl (Nat.le_of_ble_eq_true rfl) (Nat.le_of_ble_eq_true rfl) (Nat.le_of_ble_eq_true rfl) hcs ?_
      refine g_if_eq hC dX9_mayBe_18 (tgt := 25) (by decide) (fun h9 => ?_) (fun h9 => ?_)
      · rw [if_pos h9] at h
        refine g_iconst hC dX9_mayBe_25 ok_0 ?_
        refine g_goto hC dX9_mayBe_26 (tgt := 34) (by decide) ?_
        exact ret_z h hR (by decide) dX9_mayBe_34
      · rw [if_neg h9] at h
        refine g_iconst hC dX9_mayBe_21 ok_1 ?_
        refine g_goto hC dX9_mayBe_22 (tgt := 34) (by decide) ?_
        exact ret_z h hR (by decide) dX9_mayBe_34
theorem tX9_mayBe {l : Launch} {g : GT} {c0 : Nat} {x1 : Int} {x2 : Int} {σ σ' : St} {r : Int} (h0 : isO 9 c0 = true) (h : fX9_mayBe c0 x1 x2 σ = some (r, σ')) : Cn l g yX9_mayBe cX9_mayBe 3 (some .boolean) 1 0 0 [vr c0, vi x1, vi x2] (SH0, σ) (some (vi r)) (SH0, σ') :=
  Cn.ofZ (by decide) (Nat.le_of_ble_eq_true rfl) (fun K e hC hR => (bX9_mayBe_0 hC ⟨Nat.le_refl _, Nat.le_refl _⟩ h0 hR _ h))
theorem dX9_mend_0 : decode cX9_mend 0 = .ok (.aload_n 0, 1) := by decide +kernel
theorem dX9_mend_1 : decode cX9_mend 1 = .ok (.getfield 10, 3) := by decide +kernel
theorem dX9_mend_4 : decode cX9_mend 4 = .ok (.iload_n 1, 1) := by decide +kernel
theorem dX9_mend_5 : decode cX9_mend 5 = .ok (.iload_n 2, 1) := by decide +kernel
theorem dX9_mend_6 : decode cX9_mend 6 = .ok (.invokevirtual 115, 3) := by decide +kernel
theorem dX9_mend_9 : decode cX9_mend 9 = .ok (.ifCond .eq 12, 3) := by decide +kernel
theorem dX9_mend_12 : decode cX9_mend 12 = .ok (.aload_n 0, 1) := by decide +kernel
theorem dX9_mend_13 : decode cX9_mend 13 = .ok (.iload_n 2, 1) := by decide +kernel
theorem dX9_mend_14 : decode cX9_mend 14 = .ok (.iload_n 3, 1) := by decide +kernel
theorem dX9_mend_15 : decode cX9_mend 15 = .ok (.invokevirtual 118, 3) := by decide +kernel
theorem dX9_mend_18 : decode cX9_mend 18 = .ok (.ifCond .ne 6, 3) := by decide +kernel
theorem dX9_mend_21 : decode cX9_mend 21 = .ok (.ldc 121, 2) := by decide +kernel
theorem dX9_mend_23 : decode cX9_mend 23 = .ok (.ireturn, 1) := by decide +kernel
theorem dX9_mend_24 : decode cX9_mend 24 = .ok (.aload_n 0, 1) := by decide +kernel
theorem dX9_mend_25 : decode cX9_mend 25 = .ok (.getfield 10, 3) := by decide +kernel
theorem dX9_mend_28 : decode cX9_mend 28 = .ok (.iload_n 1, 1) := by decide +kernel
theorem dX9_mend_29 : decode cX9_mend 29 = .ok (.iload_n 2, 1) := by decide +kernel
theorem dX9_mend_30 : decode cX9_mend 30 = .ok (.invokevirtual 122, 3) := by decide +kernel
theorem dX9_mend_33 : decode cX9_mend 33 = .ok (.istore 4, 2) := by decide +kernel
theorem dX9_mend_35 : decode cX9_mend 35 = .ok (.iload 4, 2) := by decide +kernel
theorem dX9_mend_37 : decode cX9_mend 37 = .ok (.iload_n 3, 1) := by decide +kernel
theorem dX9_mend_38 : decode cX9_mend 38 = .ok (.if_icmp .eq 25, 3) := by decide +kernel
theorem dX9_mend_41 : decode cX9_mend 41 = .ok (.aload_n 0, 1) := by decide +kernel
theorem dX9_mend_42 : decode cX9_mend 42 = .ok (.getfield 10, 3) := by decide +kernel
theorem dX9_mend_45 : decode cX9_mend 45 = .ok (.iload_n 1, 1) := by decide +kernel
theorem dX9_mend_46 : decode cX9_mend 46 = .ok (.iload_n 2, 1) := by decide +kernel
theorem dX9_mend_47 : decode cX9_mend 47 = .ok (.iload_n 3, 1) := by decide +kernel
theorem dX9_mend_48 : decode cX9_mend 48 = .ok (.invokevirtual 126, 3) := by decide +kernel
theorem dX9_mend_51 : decode cX9_mend 51 = .ok (.aload_n 0, 1) := by decide +kernel
theorem dX9_mend_52 : decode cX9_mend 52 = .ok (.getfield 51, 3) := by decide +kernel
theorem dX9_mend_55 : decode cX9_mend 55 = .ok (.iload_n 1, 1) := by decide +kernel
theorem dX9_mend_56 : decode cX9_mend 56 = .ok (.iload_n 2, 1) := by decide +kernel
theorem dX9_mend_57 : decode cX9_mend 57 = .ok (.iload 4, 2) := by decide +kernel
theorem dX9_mend_59 : decode cX9_mend 59 = .ok (.iload_n 3, 1) := by decide +kernel
theorem dX9_mend_60 : decode cX9_mend 60 = .ok (.invokevirtual 130, 3) := by decide +kernel
theorem dX9_mend_63 : decode cX9_mend 63 = .ok (.iload 4, 2) := by decide +kernel
theorem dX9_mend_65 : decode cX9_mend 65 = .ok (.ireturn, 1) := by decide +kernel
theorem bX9_mend_0 {K : KT} {g : GT} {cm sm : Nat} {cs : Nat × Nat} {c0 : Nat} {x1 : Int} {x2 : Int} {x3 : Int} {r : Int} {σ' : St} (hC : Ctx K g RX9 cX9_mend 5 2 cm sm) (hcs : cs.1 ≤ cm ∧ cs.2 ≤ sm) (h0 : isO 9 c0 = true) (hR : RetI K g cX9_mend 5 cs r (SH0, σ')) : ∀ (σ : St), fX9_mend c0 x1 x2 x3 σ = some (r, σ') → G K g 5 cs 0 [(0, vr c0), (1, vi x1), (2, vi x2), (3, vi x3)] [] (SH0, σ) := by
  intro σ h
  unfold fX9_mend at h
  refine g_aload_n hC dX9_mend_0 0 rfl rfl ?_
  refine g_getr hC dX9_mend_1 lfRX9_10 (isO_spec h0) (ft_9_0 h0) ?_
  refine g_iload_n hC dX9_mend_4 1 rfl rfl ?_
  refine g_iload_n hC dX9_mend_5 2 rfl rfl ?_
  obtain ⟨⟨r1, s1⟩, e1, h⟩ := of_bind h
  try dsimp only at h
  refine s_callVi hC dX9_mend_6 (tX2_has (rf_9_0 h0) e1) miX2_has mvX2_has mlRX9_115 (isO_spec (rf_9_0 h0)) vc_2 rfl rfl (Nat.le_of_ble_eq_true rfl) (Nat.le_of_ble_eq_true rfl) (Nat.le_of_ble_eq_true rfl) hcs ?_
  refine g_if_eq hC dX9_mend_9 (tgt := 21) (by decide) (fun h9 => ?_) (fun h9 => ?_)
  · rw [if_pos h9] at h
    refine g_ldc hC dX9_mend_21 kRX9_121 ?_
    exact ret_i h hR dX9_mend_23
  · rw [if_neg h9] at h
    refine g_aload_n hC dX9_mend_12 0 rfl rfl ?_
    refine g_iload_n hC dX9_mend_13 2 rfl rfl ?_
    refine g_iload_n hC dX9_mend_14 3 rfl rfl ?_
    obtain ⟨⟨r2, s2⟩, e2, h⟩ := of_bind h
    try dsimp only at h
    refine s_callVi hC dX9_mend_15 (tX9_mayBe h0 e2) miX9_mayBe mvX9_mayBe mlRX9_118 (isO_spec h0) vc_9 rfl rfl (Nat.le_of_ble_eq_true rfl) (Nat.le_of_ble_eq_true rfl) (Nat.le_of_ble_eq_true rfl) hcs ?_
    refine g_if_ne hC dX9_mend_18 (tgt := 24) (by decide) (fun h9 => ?_) (fun h9 => ?_)
    · rw [if_neg h9] at h
      refine g_aload_n hC dX9_mend_24 0 rfl rfl ?_
      refine g_getr hC dX9_mend_25 lfRX9_10 (isO_spec h0) (ft_9_0 h0) ?_
      refine g_iload_n hC dX9_mend_28 1 rfl rfl ?_
      refine g_iload_n hC dX9_mend_29 2 rfl rfl ?_
      obtain ⟨⟨r3, s3⟩, e3, h⟩ := of_bind h
      try dsimp only at h
      refine s_callVi hC dX9_mend_30 (tX2_number (rf_9_0 h0) e3) miX2_number mvX2_number mlRX9_122 (isO_spec (rf_9_0 h0)) vc_2 rfl rfl (Nat.le_of_ble_eq_true rfl) (Nat.le_of_ble_eq_true rfl) (Nat.le_of_ble_eq_true rfl) hcs ?_
      refine g_istore hC dX9_mend_33 (Nat.le_of_ble_eq_true rfl) rfl ?_
      refine g_iload hC dX9_mend_35 0 rfl ?_
      refine g_iload_n hC dX9_mend_37 4 rfl rfl ?_
      refine g_icmp_eq hC dX9_mend_38 (tgt := 63) (by decide) (fun h9 => ?_) (fun h9 => ?_)
      · rw [if_pos h9] at h
        refine g_iload hC dX9_mend_63 0 rfl ?_
        exact ret_i h hR dX9_mend_65
      · rw [if_neg h9] at h
        refine g_aload_n hC dX9_mend_41 1 rfl rfl ?_
        refine g_getr hC dX9_mend_42 lfRX9_10 (isO_spec h0) (ft_9_0 h0) ?_
        refine g_iload_n hC dX9_mend_45 2 rfl rfl ?_
        refine g_iload_n hC dX9_mend_46 3 rfl rfl ?_
        refine g_iload_n hC dX9_mend_47 4 rfl rfl ?_
        obtain ⟨s4, e4, h⟩ := of_bind h
        try dsimp only at h
        refine s_callVv hC dX9_mend_48 (tX2_become (rf_9_0 h0) e4) miX2_become mvX2_become mlRX9_126 (isO_spec (rf_9_0 h0)) vc_2 rfl rfl (Nat.le_of_ble_eq_true rfl) (Nat.le_of_ble_eq_true rfl) (Nat.le_of_ble_eq_true rfl) hcs ?_
        refine g_aload_n hC dX9_mend_51 1 rfl rfl ?_
        refine g_getr hC dX9_mend_52 lfRX9_51 (isO_spec h0) (ft_9_5 h0) ?_
        refine g_iload_n hC dX9_mend_55 2 rfl rfl ?_
        refine g_iload_n hC dX9_mend_56 3 rfl rfl ?_
        refine g_iload hC dX9_mend_57 0 rfl ?_
        refine g_iload_n hC dX9_mend_59 4 rfl rfl ?_
        obtain ⟨s5, e5, h⟩ := of_bind h
        try dsimp only at h
        refine s_callVv hC dX9_mend_60 (tX0_came (rf_9_5 h0) e5) miX0_came mvX0_came mlRX9_130 (isO_spec (rf_9_5 h0)) vc_0 rfl rfl (Nat.le_of_ble_eq_true rfl) (Nat.le_of_ble_eq_true rfl) (Nat.le_of_ble_eq_true rfl) hcs ?_
        refine g_iload hC dX9_mend_63 0 rfl ?_
        exact ret_i h hR dX9_mend_65
    · rw [if_pos h9] at h
      refine g_ldc hC dX9_mend_21 kRX9_121 ?_
      exact ret_i h hR dX9_mend_23
theorem tX9_mend {l : Launch} {g : GT} {c0 : Nat} {x1 : Int} {x2 : Int} {x3 : Int} {σ σ' : St} {r : Int} (h0 : isO 9 c0 = true) (h : fX9_mend c0 x1 x2 x3 σ = some (r, σ')) : Cn l g yX9_mend cX9_mend 5 (some .int) 2 0 0 [vr c0, vi x1, vi x2, vi x3] (SH0, σ) (some (vi r)) (SH0, σ') :=
  Cn.ofI (by decide) (Nat.le_of_ble_eq_true rfl) (fun K e hC hR => (bX9_mend_0 hC ⟨Nat.le_refl _, Nat.le_refl _⟩ h0 hR _ h))
theorem dX2_missedLongest_0 : decode cX2_missedLongest 0 = .ok (.bipush (-2), 2) := by decide +kernel
theorem dX2_missedLongest_2 : decode cX2_missedLongest 2 = .ok (.istore_n 1, 1) := by decide +kernel
theorem dX2_missedLongest_3 : decode cX2_missedLongest 3 = .ok (.iconst 0, 1) := by decide +kernel
theorem dX2_missedLongest_4 : decode cX2_missedLongest 4 = .ok (.istore_n 2, 1) := by decide +kernel
theorem dX2_missedLongest_5 : decode cX2_missedLongest 5 = .ok (.iconst 0, 1) := by decide +kernel
theorem dX2_missedLongest_6 : decode cX2_missedLongest 6 = .ok (.istore_n 3, 1) := by decide +kernel
theorem dX2_missedLongest_7 : decode cX2_missedLongest 7 = .ok (.iload_n 3, 1) := by decide +kernel
theorem dX2_missedLongest_8 : decode cX2_missedLongest 8 = .ok (.aload_n 0, 1) := by decide +kernel
theorem dX2_missedLongest_9 : decode cX2_missedLongest 9 = .ok (.getfield 18, 3) := by decide +kernel
theorem dX2_missedLongest_12 : decode cX2_missedLongest 12 = .ok (.if_icmp .ge 28, 3) := by decide +kernel
theorem dX2_missedLongest_15 : decode cX2_missedLongest 15 = .ok (.aload_n 0, 1) := by decide +kernel
theorem dX2_missedLongest_16 : decode cX2_missedLongest 16 = .ok (.iload_n 3, 1) := by decide +kernel
theorem dX2_missedLongest_17 : decode cX2_missedLongest 17 = .ok (.iconst 3, 1) := by decide +kernel
theorem dX2_missedLongest_18 : decode cX2_missedLongest 18 = .ok (.invokevirtual 42, 3) := by decide +kernel
theorem dX2_missedLongest_21 : decode cX2_missedLongest 21 = .ok (.iload_n 2, 1) := by decide +kernel
theorem dX2_missedLongest_22 : decode cX2_missedLongest 22 = .ok (.if_icmp .le 12, 3) := by decide +kernel
theorem dX2_missedLongest_25 : decode cX2_missedLongest 25 = .ok (.aload_n 0, 1) := by decide +kernel
theorem dX2_missedLongest_26 : decode cX2_missedLongest 26 = .ok (.iload_n 3, 1) := by decide +kernel
theorem dX2_missedLongest_27 : decode cX2_missedLongest 27 = .ok (.iconst 3, 1) := by decide +kernel
theorem dX2_missedLongest_28 : decode cX2_missedLongest 28 = .ok (.invokevirtual 42, 3) := by decide +kernel
theorem dX2_missedLongest_31 : decode cX2_missedLongest 31 = .ok (.istore_n 2, 1) := by decide +kernel
theorem dX2_missedLongest_32 : decode cX2_missedLongest 32 = .ok (.iload_n 3, 1) := by decide +kernel
theorem dX2_missedLongest_33 : decode cX2_missedLongest 33 = .ok (.istore_n 1, 1) := by decide +kernel
theorem dX2_missedLongest_34 : decode cX2_missedLongest 34 = .ok (.iinc 3 1, 3) := by decide +kernel
theorem dX2_missedLongest_37 : decode cX2_missedLongest 37 = .ok (.goto (-30), 3) := by decide +kernel
theorem dX2_missedLongest_40 : decode cX2_missedLongest 40 = .ok (.iload_n 1, 1) := by decide +kernel
theorem dX2_missedLongest_41 : decode cX2_missedLongest 41 = .ok (.ireturn, 1) := by decide +kernel
theorem bX2_missedLongest_34 {K : KT} {g : GT} {cm sm : Nat} {cs : Nat × Nat} {c0 : Nat} {k7 : Int → Int → Int → St → Option (Int × St)} {r : Int} {σ' : St} (hC : Ctx K g RX2 cX2_missedLongest 4 1 cm sm) (hcs : cs.1 ≤ cm ∧ cs.2 ≤ sm) (h0 : isO 2 c0 = true) (hk7 : ∀ (x1 : Int) (x2 : Int) (x3 : Int) (σ : St), k7 x1 x2 x3 σ = some (r, σ') → G K g 4 cs 7 [(0, vr c0), (1, vi x1), (2, vi x2), (3, vi x3)] [] (SH0, σ)) (hR : RetI K g cX2_missedLongest 4 cs r (SH0, σ')) : ∀ (x1 : Int) (x2 : Int) (x3 : Int) (σ : St), fX2_missedLongest_34 c0 k7 x1 x2 x3 σ = some (r, σ') → G K g 4 cs 34 [(0, vr c0), (1, vi x1), (2, vi x2), (3, vi x3)] [] (SH0, σ) := by
  intro x1 x2 x3 σ h
  unfold fX2_missedLongest_34 at h
  refine g_iinc hC dX2_missedLongest_34 3 rfl (Nat.le_of_ble_eq_true rfl) rfl ?_
  refine g_goto hC dX2_missedLongest_37 (tgt := 7) (by decide) ?_
  exact g_pick [1, 2, 3, 0] rfl (hk7 _ _ _ _ h)
theorem bX2_missedLongest_7 {K : KT} {g : GT} {cm sm : Nat} {cs : Nat × Nat} {c0 : Nat} {r : Int} {σ' : St} (hC : Ctx K g RX2 cX2_missedLongest 4 1 cm sm) (hcs : cs.1 ≤ cm ∧ cs.2 ≤ sm) (h0 : isO 2 c0 = true) (hR : RetI K g cX2_missedLongest 4 cs r (SH0, σ')) : ∀ (n : Nat) (x1 : Int) (x2 : Int) (x3 : Int) (σ : St), fX2_missedLongest_7 c0 n x1 x2 x3 σ = some (r, σ') → G K g 4 cs 7 [(0, vr c0), (1, vi x1), (2, vi x2), (3, vi x3)] [] (SH0, σ) := by
  intro n
  induction n with
  | zero =>
    intro x1 x2 x3 σ h
    rw [fX2_missedLongest_7.eq_1] at h
    cases h
  | succ n ih =>
    intro x1 x2 x3 σ h
    rw [fX2_missedLongest_7.eq_2] at h
    refine g_iload_n hC dX2_missedLongest_7 3 rfl rfl ?_
    refine g_aload_n hC dX2_missedLongest_8 0 rfl rfl ?_
    refine g_geti hC dX2_missedLongest_9 lfRX2_18 (isO_spec h0) (ft_2_2 h0) ?_
    refine g_icmp_ge hC dX2_missedLongest_12 (tgt := 40) (by decide) (fun h9 => ?_) (fun h9 => ?_)
    · rw [if_pos h9] at h
      refine g_iload_n hC dX2_missedLongest_40 1 rfl rfl ?_
      exact ret_i h hR dX2_missedLongest_41
    · rw [if_neg h9] at h
      refine g_aload_n hC dX2_missedLongest_15 0 rfl rfl ?_
      refine g_iload_n hC dX2_missedLongest_16 3 rfl rfl ?_
      refine g_iconst hC dX2_missedLongest_17 ok_3 ?_
      obtain ⟨⟨r1, s1⟩, e1, h⟩ := of_bind h
      try dsimp only at h
      refine s_callVi hC dX2_missedLongest_18 (tX2_number h0 e1) miX2_number mvX2_number mlRX2_42 (isO_spec h0) vc_2 rfl rfl (Nat.le_of_ble_eq_true rfl) (Nat.le_of_ble_eq_true rfl) (Nat.le_of_ble_eq_true rfl) hcs ?_
      refine g_iload_n hC dX2_missedLongest_21 2 rfl rfl ?_
      refine g_icmp_le hC dX2_missedLongest_22 (tgt := 34) (by decide) (fun h9 => ?_) (fun h9 => ?_)
      · rw [if_pos h9] at h
        exact g_pick [0, 1, 2, 3] rfl (bX2_missedLongest_34 hC hcs h0 ih hR _ _ _ _ h)
      · rw [if_neg h9] at h
        refine g_aload_n hC dX2_missedLongest_25 0 rfl rfl ?_
        refine g_iload_n hC dX2_missedLongest_26 3 rfl rfl ?_
        refine g_iconst hC dX2_missedLongest_27 ok_3 ?_
        obtain ⟨⟨r2, s2⟩, e2, h⟩ := of_bind h
        try dsimp only at h
        refine s_callVi hC dX2_missedLongest_28 (tX2_number h0 e2) miX2_number mvX2_number mlRX2_42 (isO_spec h0) vc_2 rfl rfl (Nat.le_of_ble_eq_true rfl) (Nat.le_of_ble_eq_true rfl) (Nat.le_of_ble_eq_true rfl) hcs ?_
        refine g_istore_n hC dX2_missedLongest_31 rfl (Nat.le_of_ble_eq_true rfl) rfl ?_
        refine g_iload_n hC dX2_missedLongest_32 3 rfl rfl ?_
        refine g_istore_n hC dX2_missedLongest_33 rfl (Nat.le_of_ble_eq_true rfl) rfl ?_
        exact g_pick [2, 0, 1, 3] rfl (bX2_missedLongest_34 hC hcs h0 ih hR _ _ _ _ h)
theorem bX2_missedLongest_0 {K : KT} {g : GT} {cm sm : Nat} {cs : Nat × Nat} {c0 : Nat} {r : Int} {σ' : St} (hC : Ctx K g RX2 cX2_missedLongest 4 1 cm sm) (hcs : cs.1 ≤ cm ∧ cs.2 ≤ sm) (h0 : isO 2 c0 = true) (hR : RetI K g cX2_missedLongest 4 cs r (SH0, σ')) : ∀ (σ : St), fX2_missedLongest c0 σ = some (r, σ') → G K g 4 cs 0 [(0, vr c0)] [] (SH0, σ) := by
  intro σ h
  unfold fX2_missedLongest at h
  refine g_bipush hC dX2_missedLongest_0 bp_m2 ?_
  refine g_istore_n hC dX2_missedLongest_2 rfl (Nat.le_of_ble_eq_true rfl) rfl ?_
  refine g_iconst hC dX2_missedLongest_3 ok_0 ?_
  refine g_istore_n hC dX2_missedLongest_4 rfl (Nat.le_of_ble_eq_true rfl) rfl ?_
  refine g_iconst hC dX2_missedLongest_5 ok_0 ?_
  refine g_istore_n hC dX2_missedLongest_6 rfl (Nat.le_of_ble_eq_true rfl) rfl ?_
  exact g_pick [3, 2, 1, 0] rfl (bX2_missedLongest_7 hC hcs h0 hR _ _ _ _ _ h)
theorem tX2_missedLongest {l : Launch} {g : GT} {c0 : Nat} {σ σ' : St} {r : Int} (h0 : isO 2 c0 = true) (h : fX2_missedLongest c0 σ = some (r, σ')) : Cn l g yX2_missedLongest cX2_missedLongest 4 (some .int) 1 0 0 [vr c0] (SH0, σ) (some (vi r)) (SH0, σ') :=
  Cn.ofI (by decide) (Nat.le_of_ble_eq_true rfl) (fun K e hC hR => (bX2_missedLongest_0 hC ⟨Nat.le_refl _, Nat.le_refl _⟩ h0 hR _ h))
theorem dX9_missed_0 : decode cX9_missed 0 = .ok (.iload_n 1, 1) := by decide +kernel
theorem dX9_missed_1 : decode cX9_missed 1 = .ok (.ifCond .lt 8, 3) := by decide +kernel
theorem dX9_missed_4 : decode cX9_missed 4 = .ok (.iload_n 1, 1) := by decide +kernel
theorem dX9_missed_5 : decode cX9_missed 5 = .ok (.iconst 1, 1) := by decide +kernel
theorem dX9_missed_6 : decode cX9_missed 6 = .ok (.if_icmp .le 5, 3) := by decide +kernel
theorem dX9_missed_9 : decode cX9_missed 9 = .ok (.iconst (-1), 1) := by decide +kernel
theorem dX9_missed_10 : decode cX9_missed 10 = .ok (.ireturn, 1) := by decide +kernel
theorem dX9_missed_11 : decode cX9_missed 11 = .ok (.aload_n 0, 1) := by decide +kernel
theorem dX9_missed_12 : decode cX9_missed 12 = .ok (.getfield 10, 3) := by decide +kernel
theorem dX9_missed_15 : decode cX9_missed 15 = .ok (.invokevirtual 234, 3) := by decide +kernel
theorem dX9_missed_18 : decode cX9_missed 18 = .ok (.istore_n 2, 1) := by decide +kernel
theorem dX9_missed_19 : decode cX9_missed 19 = .ok (.iload_n 1, 1) := by decide +kernel
theorem dX9_missed_20 : decode cX9_missed 20 = .ok (.iconst 1, 1) := by decide +kernel
theorem dX9_missed_21 : decode cX9_missed 21 = .ok (.if_icmp .ne 5, 3) := by decide +kernel
theorem dX9_missed_24 : decode cX9_missed 24 = .ok (.iload_n 2, 1) := by decide +kernel
theorem dX9_missed_25 : decode cX9_missed 25 = .ok (.ireturn, 1) := by decide +kernel
theorem dX9_missed_26 : decode cX9_missed 26 = .ok (.iload_n 2, 1) := by decide +kernel
theorem dX9_missed_27 : decode cX9_missed 27 = .ok (.ifCond .ge 7, 3) := by decide +kernel
theorem dX9_missed_30 : decode cX9_missed 30 = .ok (.iconst 0, 1) := by decide +kernel
theorem dX9_missed_31 : decode cX9_missed 31 = .ok (.goto 12, 3) := by decide +kernel
theorem dX9_missed_34 : decode cX9_missed 34 = .ok (.aload_n 0, 1) := by decide +kernel
theorem dX9_missed_35 : decode cX9_missed 35 = .ok (.getfield 10, 3) := by decide +kernel
theorem dX9_missed_38 : decode cX9_missed 38 = .ok (.iload_n 2, 1) := by decide +kernel
theorem dX9_missed_39 : decode cX9_missed 39 = .ok (.iconst 3, 1) := by decide +kernel
theorem dX9_missed_40 : decode cX9_missed 40 = .ok (.invokevirtual 122, 3) := by decide +kernel
theorem dX9_missed_43 : decode cX9_missed 43 = .ok (.istore_n 3, 1) := by decide +kernel
theorem dX9_missed_44 : decode cX9_missed 44 = .ok (.iload_n 3, 1) := by decide +kernel
theorem dX9_missed_45 : decode cX9_missed 45 = .ok (.bipush 60, 2) := by decide +kernel
theorem dX9_missed_47 : decode cX9_missed 47 = .ok (.if_icmp .gt 7, 3) := by decide +kernel
theorem dX9_missed_50 : decode cX9_missed 50 = .ok (.iload_n 3, 1) := by decide +kernel
theorem dX9_missed_51 : decode cX9_missed 51 = .ok (.goto 5, 3) := by decide +kernel
theorem dX9_missed_54 : decode cX9_missed 54 = .ok (.bipush (-2), 2) := by decide +kernel
theorem dX9_missed_56 : decode cX9_missed 56 = .ok (.ireturn, 1) := by decide +kernel
theorem bX9_missed_43 {K : KT} {g : GT} {cm sm : Nat} {cs : Nat × Nat} {c0 : Nat} {x1 : Int} {r : Int} {σ' : St} (hC : Ctx K g RX9 cX9_missed 4 2 cm sm) (hcs : cs.1 ≤ cm ∧ cs.2 ≤ sm) (h0 : isO 9 c0 = true) (hR : RetI K g cX9_missed 4 cs r (SH0, σ')) : ∀ (y0 : Int) (σ : St), fX9_missed_43 c0 x1 y0 σ = some (r, σ') → G K g 4 cs 43 [(0, vr c0), (1, vi x1)] [vi y0] (SH0, σ) := by
  intro y0 σ h
  unfold fX9_missed_43 at h
  refine g_istore_n hC dX9_missed_43 rfl (Nat.le_of_ble_eq_true rfl) rfl ?_
  refine g_iload_n hC dX9_missed_44 0 rfl rfl ?_
  refine g_bipush hC dX9_missed_45 bp_60 ?_
  refine g_icmp_gt hC dX9_missed_47 (tgt := 54) (by decide) (fun h9 => ?_) (fun h9 => ?_)
  · rw [if_pos h9] at h
    refine g_bipush hC dX9_missed_54 bp_m2 ?_
    exact ret_i h hR dX9_missed_56
  · rw [if_neg h9] at h
    refine g_iload_n hC dX9_missed_50 0 rfl rfl ?_
    refine g_goto hC dX9_missed_51 (tgt := 56) (by decide) ?_
    exact ret_i h hR dX9_missed_56
theorem bX9_missed_0 {K : KT} {g : GT} {cm sm : Nat} {cs : Nat × Nat} {c0 : Nat} {x1 : Int} {r : Int} {σ' : St} (hC : Ctx K g RX9 cX9_missed 4 2 cm sm) (hcs : cs.1 ≤ cm ∧ cs.2 ≤ sm) (h0 : isO 9 c0 = true) (hR : RetI K g cX9_missed 4 cs r (SH0, σ')) : ∀ (σ : St), fX9_missed c0 x1 σ = some (r, σ') → G K g 4 cs 0 [(0, vr c0), (1, vi x1)] [] (SH0, σ) := by
  intro σ h
  unfold fX9_missed at h
  refine g_iload_n hC dX9_missed_0 1 rfl rfl ?_
  refine g_if_lt hC dX9_missed_1 (tgt := 9) (by decide) (fun h9 => ?_) (fun h9 => ?_)
  · rw [if_pos h9] at h
    refine g_iconst hC dX9_missed_9 ok_m1 ?_
    exact ret_i h hR dX9_missed_10
  · rw [if_neg h9] at h
    refine g_iload_n hC dX9_missed_4 1 rfl rfl ?_
    refine g_iconst hC dX9_missed_5 ok_1 ?_
    refine g_icmp_le hC dX9_missed_6 (tgt := 11) (by decide) (fun h9 => ?_) (fun h9 => ?_)
    · rw [if_pos h9] at h
      refine g_aload_n hC dX9_missed_11 0 rfl rfl ?_
      refine g_getr hC dX9_missed_12 lfRX9_10 (isO_spec h0) (ft_9_0 h0) ?_
      obtain ⟨⟨r1, s1⟩, e1, h⟩ := of_bind h
      try dsimp only at h
      refine s_callVi hC dX9_missed_15 (tX2_missedLongest (rf_9_0 h0) e1) miX2_missedLongest mvX2_missedLongest mlRX9_234 (isO_spec (rf_9_0 h0)) vc_2 rfl rfl (Nat.le_of_ble_eq_true rfl) (Nat.le_of_ble_eq_true rfl) (Nat.le_of_ble_eq_true rfl) hcs ?_
      refine g_istore_n hC dX9_missed_18 rfl (Nat.le_of_ble_eq_true rfl) rfl ?_
      refine g_iload_n hC dX9_missed_19 2 rfl rfl ?_
      refine g_iconst hC dX9_missed_20 ok_1 ?_
      refine g_icmp_ne hC dX9_missed_21 (tgt := 26) (by decide) (fun h9 => ?_) (fun h9 => ?_)
      · rw [if_neg h9] at h
        refine g_iload_n hC dX9_missed_26 0 rfl rfl ?_
        refine g_if_ge hC dX9_missed_27 (tgt := 34) (by decide) (fun h9 => ?_) (fun h9 => ?_)
        · rw [if_pos h9] at h
          refine g_aload_n hC dX9_missed_34 1 rfl rfl ?_
          refine g_getr hC dX9_missed_35 lfRX9_10 (isO_spec h0) (ft_9_0 h0) ?_
          refine g_iload_n hC dX9_missed_38 0 rfl rfl ?_
          refine g_iconst hC dX9_missed_39 ok_3 ?_
          obtain ⟨⟨r2, s2⟩, e2, h⟩ := of_bind h
          try dsimp only at h
          refine s_callVi hC dX9_missed_40 (tX2_number (rf_9_0 h0) e2) miX2_number mvX2_number mlRX9_122 (isO_spec (rf_9_0 h0)) vc_2 rfl rfl (Nat.le_of_ble_eq_true rfl) (Nat.le_of_ble_eq_true rfl) (Nat.le_of_ble_eq_true rfl) hcs ?_
          exact g_pick [1, 2] rfl (bX9_missed_43 hC hcs h0 hR _ _ h)
        · rw [if_neg h9] at h
          refine g_iconst hC dX9_missed_30 ok_0 ?_
          refine g_goto hC dX9_missed_31 (tgt := 43) (by decide) ?_
          exact g_pick [1, 2] rfl (bX9_missed_43 hC hcs h0 hR _ _ h)
      · rw [if_pos h9] at h
        refine g_iload_n hC dX9_missed_24 0 rfl rfl ?_
        exact ret_i h hR dX9_missed_25
    · rw [if_neg h9] at h
      refine g_iconst hC dX9_missed_9 ok_m1 ?_
      exact ret_i h hR dX9_missed_10
theorem tX9_missed {l : Launch} {g : GT} {c0 : Nat} {x1 : Int} {σ σ' : St} {r : Int} (h0 : isO 9 c0 = true) (h : fX9_missed c0 x1 σ = some (r, σ')) : Cn l g yX9_missed cX9_missed 4 (some .int) 2 0 0 [vr c0, vi x1] (SH0, σ) (some (vi r)) (SH0, σ') :=
  Cn.ofI (by decide) (Nat.le_of_ble_eq_true rfl) (fun K e hC hR => (bX9_missed_0 hC ⟨Nat.le_refl _, Nat.le_refl _⟩ h0 hR _ h))
theorem dX9_of_0 : decode cX9_of 0 = .ok (.aload_n 0, 1) := by decide +kernel
theorem dX9_of_1 : decode cX9_of 1 = .ok (.getfield 10, 3) := by decide +kernel
theorem dX9_of_4 : decode cX9_of 4 = .ok (.iload_n 1, 1) := by decide +kernel
theorem dX9_of_5 : decode cX9_of 5 = .ok (.iload_n 2, 1) := by decide +kernel
theorem dX9_of_6 : decode cX9_of 6 = .ok (.invokevirtual 115, 3) := by decide +kernel
theorem dX9_of_9 : decode cX9_of 9 = .ok (.ifCond .eq 15, 3) := by decide +kernel
theorem dX9_of_12 : decode cX9_of 12 = .ok (.aload_n 0, 1) := by decide +kernel
theorem dX9_of_13 : decode cX9_of 13 = .ok (.getfield 10, 3) := by decide +kernel
theorem dX9_of_16 : decode cX9_of 16 = .ok (.iload_n 1, 1) := by decide +kernel
theorem dX9_of_17 : decode cX9_of 17 = .ok (.iload_n 2, 1) := by decide +kernel
theorem dX9_of_18 : decode cX9_of 18 = .ok (.invokevirtual 122, 3) := by decide +kernel
theorem dX9_of_21 : decode cX9_of 21 = .ok (.goto 5, 3) := by decide +kernel
theorem dX9_of_24 : decode cX9_of 24 = .ok (.ldc 121, 2) := by decide +kernel
theorem dX9_of_26 : decode cX9_of 26 = .ok (.ireturn, 1) := by decide +kernel
theorem bX9_of_0 {K : KT} {g : GT} {cm sm : Nat} {cs : Nat × Nat} {c0 : Nat} {x1 : Int} {x2 : Int} {r : Int} {σ' : St} (hC : Ctx K g RX9 cX9_of 3 2 cm sm) (hcs : cs.1 ≤ cm ∧ cs.2 ≤ sm) (h0 : isO 9 c0 = true) (hR : RetI K g cX9_of 3 cs r (SH0, σ')) : ∀ (σ : St), fX9_of c0 x1 x2 σ = some (r, σ') → G K g 3 cs 0 [(0, vr c0), (1, vi x1), (2, vi x2)] [] (SH0, σ) := by
  intro σ h
  unfold fX9_of at h
  refine g_aload_n hC dX9_of_0 0 rfl rfl ?_
  refine g_getr hC dX9_of_1 lfRX9_10 (isO_spec h0) (ft_9_0 h0) ?_
  refine g_iload_n hC dX9_of_4 1 rfl rfl ?_
  refine g_iload_n hC dX9_of_5 2 rfl rfl ?_
  obtain ⟨⟨r1, s1⟩, e1, h⟩ := of_bind h
  try dsimp only at h
  refine s_callVi hC dX9_of_6 (tX2_has (rf_9_0 h0) e1) miX2_has mvX2_has mlRX9_115 (isO_spec (rf_9_0 h0)) vc_2 rfl rfl (Nat.le_of_ble_eq_true rfl) (Nat.le_of_ble_eq_true rfl) (Nat.le_of_ble_eq_true rfl) hcs ?_
  refine g_if_eq hC dX9_of_9 (tgt := 24) (by decide) (fun h9 => ?_) (fun h9 => ?_)
  · rw [if_pos h9] at h
    refine g_ldc hC dX9_of_24 kRX9_121 ?_
    exact ret_i h hR dX9_of_26
  · rw [if_neg h9] at h
    refine g_aload_n hC dX9_of_12 0 rfl rfl ?_
    refine g_getr hC dX9_of_13 lfRX9_10 (isO_spec h0) (ft_9_0 h0) ?_
    refine g_iload_n hC dX9_of_16 1 rfl rfl ?_
    refine g_iload_n hC dX9_of_17 2 rfl rfl ?_
    obtain ⟨⟨r2, s2⟩, e2, h⟩ := of_bind h
    try dsimp only at h
    refine s_callVi hC dX9_of_18 (tX2_number (rf_9_0 h0) e2) miX2_number mvX2_number mlRX9_122 (isO_spec (rf_9_0 h0)) vc_2 rfl rfl (Nat.le_of_ble_eq_true rfl) (Nat.le_of_ble_eq_true rfl) (Nat.le_of_ble_eq_true rfl) hcs ?_
    refine g_goto hC dX9_of_21 (tgt := 26) (by decide) ?_
    exact ret_i h hR dX9_of_26
theorem tX9_of {l : Launch} {g : GT} {c0 : Nat} {x1 : Int} {x2 : Int} {σ σ' : St} {r : Int} (h0 : isO 9 c0 = true) (h : fX9_of c0 x1 x2 σ = some (r, σ')) : Cn l g yX9_of cX9_of 3 (some .int) 2 0 0 [vr c0, vi x1, vi x2] (SH0, σ) (some (vi r)) (SH0, σ') :=
  Cn.ofI (by decide) (Nat.le_of_ble_eq_true rfl) (fun K e hC hR => (bX9_of_0 hC ⟨Nat.le_refl _, Nat.le_refl _⟩ h0 hR _ h))
