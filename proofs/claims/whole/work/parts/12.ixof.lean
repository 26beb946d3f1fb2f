/-! String.indexOf on the one String constant. -/
abbrev bts : List Int := [99, 108, 104, 118, 110, 109]
theorem bts_eq : ∀ j : Nat, j < 6 → (([[99, 108, 104, 118, 110, 109]] : List (List Int32)).getD 0 []).getD j 0 = Int32.ofInt (bts.getD j 0) := by decide +kernel
section IxRows
variable {K : KT} {g : GT} {own : String} {cc : ByteArray} {nL fr cm sm : Nat} {cs : Nat × Nat} {pc : Nat} {L : List (Nat × Vl)} {st : List Vl} {S : S2}
theorem g_ocoder {ix : Nat} (hC : Ctx K g own cc nL fr cm sm) (hd : decode cc pc = .ok (.getfield ix, 3)) (hl : Cond.fieldLink own ix "java/lang/String" "coder" "B" ∈ lw_w) (kk : G K g nL cs (pc + 3) L (vi 0 :: st) S) : G K g nL cs pc L (vo 5 :: st) S := by
  obtain ⟨p, l, e, R, s, m, args, below, meth, c0, Q⟩ := K
  intro H locs ls h1 h2 h3 h4 h5
  exact vk_getf hC.1 hC.2.1 (hC.2.2.2.2.2.1.2.1.2.1.1 0 (by decide)).2.1 h2 hC.2.2.2.1 (hC.2.2.2.2.1 _ hl) (fun _ h => h) hd (kk H locs ls h1 h2 (okv_cons (v := vi 0) ok32_0 (okv_tail h3)) h4 h5)
theorem g_ovalue {ix : Nat} (hC : Ctx K g own cc nL fr cm sm) (hd : decode cc pc = .ok (.getfield ix, 3)) (hl : Cond.fieldLink own ix "java/lang/String" "value" "[B" ∈ lw_w) (kk : G K g nL cs (pc + 3) L (vo 6 :: st) S) : G K g nL cs pc L (vo 5 :: st) S := by
  obtain ⟨p, l, e, R, s, m, args, below, meth, c0, Q⟩ := K
  intro H locs ls h1 h2 h3 h4 h5
  exact vk_getf hC.1 hC.2.1 (hC.2.2.2.2.2.1.2.1.2.1.1 0 (by decide)).2.2.1 h2 hC.2.2.2.1 (hC.2.2.2.2.1 _ hl) (fun _ h => h) hd (kk H locs ls h1 h2 (okv_cons (v := vo 6) trivial (okv_tail h3)) h4 h5)
theorem g_olen (hC : Ctx K g own cc nL fr cm sm) (hd : decode cc pc = .ok (.arraylength, 1)) (kk : G K g nL cs (pc + 1) L (vi 6 :: st) S) : G K g nL cs pc L (vo 6 :: st) S := by
  obtain ⟨p, l, e, R, s, m, args, below, meth, c0, Q⟩ := K
  intro H locs ls h1 h2 h3 h4 h5
  exact va_tlen hC.1 hC.2.1 (hC.2.2.2.2.2.1.2.1.2.1.1 0 (by decide)).2.2.2 h2 (v := Int32.ofInt 6) (by decide +kernel) hd (kk H locs ls h1 h2 (okv_cons (v := vi 6) ⟨by decide, by decide⟩ (okv_tail h3)) h4 h5)
theorem g_obald {i : Int} (hC : Ctx K g own cc nL fr cm sm) (hd : decode cc pc = .ok (.baload, 1)) (hi : inb i 6) (hx : ok32 (bts.getD i.toNat 0)) (kk : G K g nL cs (pc + 1) L (vi (bts.getD i.toNat 0) :: st) S) : G K g nL cs pc L (vi i :: vo 6 :: st) S := by
  obtain ⟨p, l, e, R, s, m, args, below, meth, c0, Q⟩ := K
  intro H locs ls h1 h2 h3 h4 h5
  have hi' : ok32 i := okv_head h3
  exact va_tb hC.1 hC.2.1 (hC.2.2.2.2.2.1.2.1.2.1.1 0 (by decide)).2.2.2 h2 (in_of32 hi' hi.1 hi.2) (v := .int (Int32.ofInt (bts.getD i.toNat 0))) (by rw [clamp_of32 hi']; exact congrArg Value.int (bts_eq _ (by omega))) hd (kk H locs ls h1 h2 (okv_cons (v := vi _) hx (okv_tail (okv_tail h3))) h4 h5)
theorem g_ogets {ix : Nat} (hC : Ctx K g own cc nL fr cm sm) (hd : decode cc pc = .ok (.getstatic ix, 3)) (hl : Cond.fieldLink own ix "java/lang/String" "COMPACT_STRINGS" "Z" ∈ lw_w) (kk : G K g nL cs (pc + 3) L (vi 1 :: st) S) : G K g nL cs pc L st S := by
  obtain ⟨p, l, e, R, s, m, args, below, meth, c0, Q⟩ := K
  intro H locs ls h1 h2 h3 h4 h5
  exact va_gets hC.1 hC.2.1 hC.2.2.2.2.2.1.2.1.2.2 h2 hC.2.2.2.1 (hC.2.2.2.2.1 _ hl) (fun _ h => h) hd (kk H locs ls h1 h2 (okv_cons (v := vi 1) ⟨by decide, by decide⟩ h3) h4 h5)
theorem g_callO {y : MethodName} {b : ByteArray} {nL' : Nat} {ret : Option FieldType} {fr' n ix : Nat} {As stk : List Vl} {r : Int}
    (hC : Ctx K g own cc nL fr cm sm) (hd : decode cc pc = .ok (.invokevirtual ix, 3)) (hM : Cn (Kl K) g y b nL' ret fr' 0 0 (vo 5 :: As) S (some (vi r)) S) (hm : MI y b nL' ret n) (hv : MV y) (hl : Cond.methodLink own ix y ∈ lw_w) (hy : y.cls = "java/lang/String") (hstk : stk = As.reverse ++ vo 5 :: st) (hn : As.length = n) (hw : wsum st ≤ 8) (hfr : fr' + 1 ≤ fr) (hnl : nL' ≤ 21) (hcs : cs.1 ≤ cm ∧ cs.2 ≤ sm)
    (kk : G K g nL cs (pc + 3) L (vi r :: st) S) : G K g nL cs pc L stk S := by
  obtain ⟨p, l, e, R, s, m, args, below, meth, c0, Q⟩ := K
  intro H locs ls h1 h2 h3 h4 h5
  subst hstk
  have hcr := hC.2.2.2.2.2.2.2.2.2
  have hvs : ∀ v ∈ vo 5 :: As, okv v := fun v hv => (List.mem_cons.mp hv).elim (fun e => e ▸ trivial) (fun z => h3 v (List.mem_append_left _ (List.mem_reverse.mpr z)))
  have hst : ∀ v ∈ st, okv v := fun v hv => h3 v (List.mem_append_right _ (List.mem_cons_of_mem _ hv))
  have hrun : va_Run p l e R s m args below meth c0 H locs cs.1 cs.2 0 0 (F0 m pc ls ((As.reverse ++ vo 5 :: st).map (cv g))) (st.map (cv g)) (Qc0 g (some (vi r)) S (((vo 5 :: As).map (cv g)).toArray)) (AO g) := by
    have hp : PreV s H y.cls (g.2.2.2 5) (Pc0 g (vo 5 :: As) S) (As.map (cv g)) := ⟨Pc0_blind g _ _, by rw [hy]; exact vk_recv hC.2.2.2.2.2.1.2.1.2.1 (i := 0) (by decide) h2, pre_in hC h2 h1 hvs⟩
    have hstack : (F0 m pc ls ((As.reverse ++ vo 5 :: st).map (cv g))).stack = (As.map (cv g)).reverse ++ .ref (g.2.2.2 5) :: st.map (cv g) := by
      show (As.reverse ++ vo 5 :: st).map (cv g) = _
      rw [List.map_append, List.map_reverse]
      rfl
    have hW : 2 * (F0 m pc ls ((As.reverse ++ vo 5 :: st).map (cv g))).monitorRoom + ((st.map (cv g)).map fun v => v.category).sum ≤ 8 := lv_room (by rw [wsum_cv]; exact hw)
    exact va_runV ⟨hC.1, hC.2.1, hC.2.2.1, hC.2.2.2.1, hC.2.2.2.2.1⟩ hM ⟨callB_of n hC.2.2.2.2.1 (goodCode hm) rfl rfl rfl (hC.2.2.2.2.1 _ hm.2.1) (hC.2.2.2.2.1 _ hl) ⟨hm.2.2.1, hm.2.2.2.1, hm.2.2.2.2⟩ (room_in hC hfr hnl), hC.2.2.2.2.1 _ hv.1, hC.2.2.2.2.1 _ hv.2⟩ hp rfl (by rw [List.length_map]; exact hn) h5.1 hstack hW hd (by omega)
  exact run_goes hrun h2 (fun H1 locs1 hok hw1 hS1 => kk H1 locs1 ls hw1 hS1 (okv_cons (hok _ rfl) hst) h4 h5)
end IxRows
/-- a contract of a method that answers a byte, 0 -/
theorem Cn.ofB {l : Launch} {g : GT} {y : MethodName} {b : ByteArray} {nL : Nat} {fr : Nat} {vs : List Vl} {S : S2} (hy : plainName y.cls = true) (hlen : wsum vs ≤ nL) (body : ∀ K : KT, Kl K = l → Ctx K g y.cls b nL fr 0 0 → RetI K g b nL (0, 0) 0 S → G K g nL (0, 0) 0 (argL 0 vs) [] S) : Cn l g y b nL (some .byte) fr 0 0 vs S (some (vi 0)) S := by
  refine Met.ofW (cc := b) (maxL := nL) (ret := some .byte) hy rfl ?_
  intro p e s m args below meth c s₁ B hml hv
  obtain ⟨rfl, hok, hst, hwh, hbs⟩ := hv
  have hx := B.exec
  have hb := B.bytes
  have hr := B.returns
  have hts := atoms_spec (ws := Cond.code y b nL (some .byte) :: lw_w) B.pre
  have hown : s.vm.findClass y.cls = some m.cls := findClass_of_methodNamed B.named
  have hlocks := B.notSynchronized
  have hG := body (p, l, e, (headSpec (Cond.code y b nL (some .byte) :: lw_w) (rmk fr 0 0)).room, s, m, (vs.map (cv g)).toArray, below, meth, c, MQ below (Qc0 g (some (vi 0)) S) (vs.map (cv g)).toArray s 0 0 (AO g)) rfl
    ⟨hx, hb, hml, hown, fun w hw => hts w (List.mem_cons_of_mem _ hw), hst, hbs, Nat.le_refl _, Nat.le_refl _, Nat.le_refl _, Nat.le_refl _⟩ ?_
  · have hl := lv_entry (vs.map (cv g)) (n := nL) (by rw [sl_len]; exact hlen)
    rw [lg_entry_eq]
    rw [← argL_map] at hl
    exact hG s.heap [] _ hwh va_S.rf (fun v hv => absurd hv List.not_mem_nil) (argL_ok vs hok 0) hl
  · intro pc L hd H locs ls h1 h2 h3 _ _
    exact W.zret (ty := .byte) hx hb hr (by decide +kernel) (fun t ht _ => ⟨rfl, (fun v hv => by cases hv; exact ok32_0), (by rw [ht]; exact h1), h2.F ht⟩) h2.2.2 hd
theorem dJ0_coder_7d493_0 : decode cJ0_coder_7d493 0 = .ok (.getstatic 38, 3) := by decide +kernel
theorem dJ0_coder_7d493_3 : decode cJ0_coder_7d493 3 = .ok (.ifCond .eq 10, 3) := by decide +kernel
theorem dJ0_coder_7d493_6 : decode cJ0_coder_7d493 6 = .ok (.aload_n 0, 1) := by decide +kernel
theorem dJ0_coder_7d493_7 : decode cJ0_coder_7d493 7 = .ok (.getfield 15, 3) := by decide +kernel
theorem dJ0_coder_7d493_10 : decode cJ0_coder_7d493 10 = .ok (.goto 4, 3) := by decide +kernel
theorem dJ0_coder_7d493_13 : decode cJ0_coder_7d493 13 = .ok (.iconst 1, 1) := by decide +kernel
theorem dJ0_coder_7d493_14 : decode cJ0_coder_7d493 14 = .ok (.ireturn, 1) := by decide +kernel
theorem miJ0_coder_7d493 : MI yJ0_coder_7d493 cJ0_coder_7d493 1 (some .byte) 0 := ⟨lw_w_in (l := lw_tbl) 555 rfl (by decide +kernel) (by decide +kernel), lw_w_in (l := lw_tbl) 88 rfl (by decide +kernel) (by decide +kernel), by decide +kernel, by decide +kernel, by decide +kernel⟩
theorem mvJ0_coder_7d493 : MV yJ0_coder_7d493 := ⟨lw_w_in (l := lw_tbl) 553 rfl (by decide +kernel) (by decide +kernel), lw_w_in (l := lw_tbl) 554 rfl (by decide +kernel) (by decide +kernel)⟩
theorem dJ0_isLatin1_aae02_0 : decode cJ0_isLatin1_aae02 0 = .ok (.getstatic 38, 3) := by decide +kernel
theorem dJ0_isLatin1_aae02_3 : decode cJ0_isLatin1_aae02 3 = .ok (.ifCond .eq 14, 3) := by decide +kernel
theorem dJ0_isLatin1_aae02_6 : decode cJ0_isLatin1_aae02 6 = .ok (.aload_n 0, 1) := by decide +kernel
theorem dJ0_isLatin1_aae02_7 : decode cJ0_isLatin1_aae02 7 = .ok (.getfield 15, 3) := by decide +kernel
theorem dJ0_isLatin1_aae02_10 : decode cJ0_isLatin1_aae02 10 = .ok (.ifCond .ne 7, 3) := by decide +kernel
theorem dJ0_isLatin1_aae02_13 : decode cJ0_isLatin1_aae02 13 = .ok (.iconst 1, 1) := by decide +kernel
theorem dJ0_isLatin1_aae02_14 : decode cJ0_isLatin1_aae02 14 = .ok (.goto 4, 3) := by decide +kernel
theorem dJ0_isLatin1_aae02_17 : decode cJ0_isLatin1_aae02 17 = .ok (.iconst 0, 1) := by decide +kernel
theorem dJ0_isLatin1_aae02_18 : decode cJ0_isLatin1_aae02 18 = .ok (.ireturn, 1) := by decide +kernel
theorem miJ0_isLatin1_aae02 : MI yJ0_isLatin1_aae02 cJ0_isLatin1_aae02 1 (some .boolean) 0 := ⟨lw_w_in (l := lw_tbl) 545 rfl (by decide +kernel) (by decide +kernel), lw_w_in (l := lw_tbl) 88 rfl (by decide +kernel) (by decide +kernel), by decide +kernel, by decide +kernel, by decide +kernel⟩
theorem mvJ0_isLatin1_aae02 : MV yJ0_isLatin1_aae02 := ⟨lw_w_in (l := lw_tbl) 543 rfl (by decide +kernel) (by decide +kernel), lw_w_in (l := lw_tbl) 544 rfl (by decide +kernel) (by decide +kernel)⟩
theorem dJ0_length_8abf5_0 : decode cJ0_length_8abf5 0 = .ok (.aload_n 0, 1) := by decide +kernel
theorem dJ0_length_8abf5_1 : decode cJ0_length_8abf5 1 = .ok (.getfield 9, 3) := by decide +kernel
theorem dJ0_length_8abf5_4 : decode cJ0_length_8abf5 4 = .ok (.arraylength, 1) := by decide +kernel
theorem dJ0_length_8abf5_5 : decode cJ0_length_8abf5 5 = .ok (.aload_n 0, 1) := by decide +kernel
theorem dJ0_length_8abf5_6 : decode cJ0_length_8abf5 6 = .ok (.invokevirtual 335, 3) := by decide +kernel
theorem dJ0_length_8abf5_9 : decode cJ0_length_8abf5 9 = .ok (.ishr, 1) := by decide +kernel
theorem dJ0_length_8abf5_10 : decode cJ0_length_8abf5 10 = .ok (.ireturn, 1) := by decide +kernel
theorem miJ0_length_8abf5 : MI yJ0_length_8abf5 cJ0_length_8abf5 1 (some .int) 0 := ⟨lw_w_in (l := lw_tbl) 551 rfl (by decide +kernel) (by decide +kernel), lw_w_in (l := lw_tbl) 88 rfl (by decide +kernel) (by decide +kernel), by decide +kernel, by decide +kernel, by decide +kernel⟩
theorem mvJ0_length_8abf5 : MV yJ0_length_8abf5 := ⟨lw_w_in (l := lw_tbl) 549 rfl (by decide +kernel) (by decide +kernel), lw_w_in (l := lw_tbl) 550 rfl (by decide +kernel) (by decide +kernel)⟩
theorem dJ1_canEncode_9a6ad_0 : decode cJ1_canEncode_9a6ad 0 = .ok (.iload_n 0, 1) := by decide +kernel
theorem dJ1_canEncode_9a6ad_1 : decode cJ1_canEncode_9a6ad 1 = .ok (.ifCond .lt 14, 3) := by decide +kernel
theorem dJ1_canEncode_9a6ad_4 : decode cJ1_canEncode_9a6ad 4 = .ok (.iload_n 0, 1) := by decide +kernel
theorem dJ1_canEncode_9a6ad_5 : decode cJ1_canEncode_9a6ad 5 = .ok (.sipush 255, 3) := by decide +kernel
theorem dJ1_canEncode_9a6ad_8 : decode cJ1_canEncode_9a6ad 8 = .ok (.if_icmp .gt 7, 3) := by decide +kernel
theorem dJ1_canEncode_9a6ad_11 : decode cJ1_canEncode_9a6ad 11 = .ok (.iconst 1, 1) := by decide +kernel
theorem dJ1_canEncode_9a6ad_12 : decode cJ1_canEncode_9a6ad 12 = .ok (.goto 4, 3) := by decide +kernel
theorem dJ1_canEncode_9a6ad_15 : decode cJ1_canEncode_9a6ad 15 = .ok (.iconst 0, 1) := by decide +kernel
theorem dJ1_canEncode_9a6ad_16 : decode cJ1_canEncode_9a6ad 16 = .ok (.ireturn, 1) := by decide +kernel
theorem miJ1_canEncode_9a6ad : MI yJ1_canEncode_9a6ad cJ1_canEncode_9a6ad 1 (some .boolean) 1 := ⟨lw_w_in (l := lw_tbl) 561 rfl (by decide +kernel) (by decide +kernel), lw_w_in (l := lw_tbl) 89 rfl (by decide +kernel) (by decide +kernel), by decide +kernel, by decide +kernel, by decide +kernel⟩
theorem msJ1_canEncode_9a6ad : Cond.static yJ1_canEncode_9a6ad ∈ lw_w := lw_w_in (l := lw_tbl) 560 rfl (by decide +kernel) (by decide +kernel)
theorem dJ1_indexOfChar_4cfef_0 : decode cJ1_indexOfChar_4cfef 0 = .ok (.iload_n 1, 1) := by decide +kernel
theorem dJ1_indexOfChar_4cfef_1 : decode cJ1_indexOfChar_4cfef 1 = .ok (.i2b, 1) := by decide +kernel
theorem dJ1_indexOfChar_4cfef_2 : decode cJ1_indexOfChar_4cfef 2 = .ok (.istore 4, 2) := by decide +kernel
theorem dJ1_indexOfChar_4cfef_4 : decode cJ1_indexOfChar_4cfef 4 = .ok (.iload_n 2, 1) := by decide +kernel
theorem dJ1_indexOfChar_4cfef_5 : decode cJ1_indexOfChar_4cfef 5 = .ok (.istore 5, 2) := by decide +kernel
theorem dJ1_indexOfChar_4cfef_7 : decode cJ1_indexOfChar_4cfef 7 = .ok (.iload 5, 2) := by decide +kernel
theorem dJ1_indexOfChar_4cfef_9 : decode cJ1_indexOfChar_4cfef 9 = .ok (.iload_n 3, 1) := by decide +kernel
theorem dJ1_indexOfChar_4cfef_10 : decode cJ1_indexOfChar_4cfef 10 = .ok (.if_icmp .ge 21, 3) := by decide +kernel
theorem dJ1_indexOfChar_4cfef_13 : decode cJ1_indexOfChar_4cfef 13 = .ok (.aload_n 0, 1) := by decide +kernel
theorem dJ1_indexOfChar_4cfef_14 : decode cJ1_indexOfChar_4cfef 14 = .ok (.iload 5, 2) := by decide +kernel
theorem dJ1_indexOfChar_4cfef_16 : decode cJ1_indexOfChar_4cfef 16 = .ok (.baload, 1) := by decide +kernel
theorem dJ1_indexOfChar_4cfef_17 : decode cJ1_indexOfChar_4cfef 17 = .ok (.iload 4, 2) := by decide +kernel
theorem dJ1_indexOfChar_4cfef_19 : decode cJ1_indexOfChar_4cfef 19 = .ok (.if_icmp .ne 6, 3) := by decide +kernel
theorem dJ1_indexOfChar_4cfef_22 : decode cJ1_indexOfChar_4cfef 22 = .ok (.iload 5, 2) := by decide +kernel
theorem dJ1_indexOfChar_4cfef_24 : decode cJ1_indexOfChar_4cfef 24 = .ok (.ireturn, 1) := by decide +kernel
theorem dJ1_indexOfChar_4cfef_25 : decode cJ1_indexOfChar_4cfef 25 = .ok (.iinc 5 1, 3) := by decide +kernel
theorem dJ1_indexOfChar_4cfef_28 : decode cJ1_indexOfChar_4cfef 28 = .ok (.goto (-21), 3) := by decide +kernel
theorem dJ1_indexOfChar_4cfef_31 : decode cJ1_indexOfChar_4cfef 31 = .ok (.iconst (-1), 1) := by decide +kernel
theorem dJ1_indexOfChar_4cfef_32 : decode cJ1_indexOfChar_4cfef 32 = .ok (.ireturn, 1) := by decide +kernel
theorem miJ1_indexOfChar_4cfef : MI yJ1_indexOfChar_4cfef cJ1_indexOfChar_4cfef 6 (some .int) 4 := ⟨lw_w_in (l := lw_tbl) 570 rfl (by decide +kernel) (by decide +kernel), lw_w_in (l := lw_tbl) 89 rfl (by decide +kernel) (by decide +kernel), by decide +kernel, by decide +kernel, by decide +kernel⟩
theorem msJ1_indexOfChar_4cfef : Cond.static yJ1_indexOfChar_4cfef ∈ lw_w := lw_w_in (l := lw_tbl) 569 rfl (by decide +kernel) (by decide +kernel)
theorem dJ1_indexOf_4cfef_0 : decode cJ1_indexOf_4cfef 0 = .ok (.iload_n 1, 1) := by decide +kernel
theorem dJ1_indexOf_4cfef_1 : decode cJ1_indexOf_4cfef 1 = .ok (.invokestatic 88, 3) := by decide +kernel
theorem dJ1_indexOf_4cfef_4 : decode cJ1_indexOf_4cfef 4 = .ok (.ifCond .ne 5, 3) := by decide +kernel
theorem dJ1_indexOf_4cfef_7 : decode cJ1_indexOf_4cfef 7 = .ok (.iconst (-1), 1) := by decide +kernel
theorem dJ1_indexOf_4cfef_8 : decode cJ1_indexOf_4cfef 8 = .ok (.ireturn, 1) := by decide +kernel
theorem dJ1_indexOf_4cfef_9 : decode cJ1_indexOf_4cfef 9 = .ok (.iload_n 2, 1) := by decide +kernel
theorem dJ1_indexOf_4cfef_10 : decode cJ1_indexOf_4cfef 10 = .ok (.iconst 0, 1) := by decide +kernel
theorem dJ1_indexOf_4cfef_11 : decode cJ1_indexOf_4cfef 11 = .ok (.invokestatic 92, 3) := by decide +kernel
theorem dJ1_indexOf_4cfef_14 : decode cJ1_indexOf_4cfef 14 = .ok (.istore_n 2, 1) := by decide +kernel
theorem dJ1_indexOf_4cfef_15 : decode cJ1_indexOf_4cfef 15 = .ok (.iload_n 3, 1) := by decide +kernel
theorem dJ1_indexOf_4cfef_16 : decode cJ1_indexOf_4cfef 16 = .ok (.aload_n 0, 1) := by decide +kernel
theorem dJ1_indexOf_4cfef_17 : decode cJ1_indexOf_4cfef 17 = .ok (.arraylength, 1) := by decide +kernel
theorem dJ1_indexOf_4cfef_18 : decode cJ1_indexOf_4cfef 18 = .ok (.invokestatic 38, 3) := by decide +kernel
theorem dJ1_indexOf_4cfef_21 : decode cJ1_indexOf_4cfef 21 = .ok (.istore_n 3, 1) := by decide +kernel
theorem dJ1_indexOf_4cfef_22 : decode cJ1_indexOf_4cfef 22 = .ok (.iload_n 2, 1) := by decide +kernel
theorem dJ1_indexOf_4cfef_23 : decode cJ1_indexOf_4cfef 23 = .ok (.iload_n 3, 1) := by decide +kernel
theorem dJ1_indexOf_4cfef_24 : decode cJ1_indexOf_4cfef 24 = .ok (.if_icmp .lt 5, 3) := by decide +kernel
theorem dJ1_indexOf_4cfef_27 : decode cJ1_indexOf_4cfef 27 = .ok (.iconst (-1), 1) := by decide +kernel
theorem dJ1_indexOf_4cfef_28 : decode cJ1_indexOf_4cfef 28 = .ok (.ireturn, 1) := by decide +kernel
theorem dJ1_indexOf_4cfef_29 : decode cJ1_indexOf_4cfef 29 = .ok (.aload_n 0, 1) := by decide +kernel
theorem dJ1_indexOf_4cfef_30 : decode cJ1_indexOf_4cfef 30 = .ok (.iload_n 1, 1) := by decide +kernel
theorem dJ1_indexOf_4cfef_31 : decode cJ1_indexOf_4cfef 31 = .ok (.iload_n 2, 1) := by decide +kernel
theorem dJ1_indexOf_4cfef_32 : decode cJ1_indexOf_4cfef 32 = .ok (.iload_n 3, 1) := by decide +kernel
theorem dJ1_indexOf_4cfef_33 : decode cJ1_indexOf_4cfef 33 = .ok (.invokestatic 95, 3) := by decide +kernel
theorem dJ1_indexOf_4cfef_36 : decode cJ1_indexOf_4cfef 36 = .ok (.ireturn, 1) := by decide +kernel
theorem miJ1_indexOf_4cfef : MI yJ1_indexOf_4cfef cJ1_indexOf_4cfef 4 (some .int) 4 := ⟨lw_w_in (l := lw_tbl) 558 rfl (by decide +kernel) (by decide +kernel), lw_w_in (l := lw_tbl) 89 rfl (by decide +kernel) (by decide +kernel), by decide +kernel, by decide +kernel, by decide +kernel⟩
theorem msJ1_indexOf_4cfef : Cond.static yJ1_indexOf_4cfef ∈ lw_w := lw_w_in (l := lw_tbl) 557 rfl (by decide +kernel) (by decide +kernel)
theorem dJ0_indexOf_7cf53_0 : decode cJ0_indexOf_7cf53 0 = .ok (.aload_n 0, 1) := by decide +kernel
theorem dJ0_indexOf_7cf53_1 : decode cJ0_indexOf_7cf53 1 = .ok (.invokevirtual 492, 3) := by decide +kernel
theorem dJ0_indexOf_7cf53_4 : decode cJ0_indexOf_7cf53 4 = .ok (.ifCond .eq 19, 3) := by decide +kernel
theorem dJ0_indexOf_7cf53_7 : decode cJ0_indexOf_7cf53 7 = .ok (.aload_n 0, 1) := by decide +kernel
theorem dJ0_indexOf_7cf53_8 : decode cJ0_indexOf_7cf53 8 = .ok (.getfield 9, 3) := by decide +kernel
theorem dJ0_indexOf_7cf53_11 : decode cJ0_indexOf_7cf53 11 = .ok (.iload_n 1, 1) := by decide +kernel
theorem dJ0_indexOf_7cf53_12 : decode cJ0_indexOf_7cf53 12 = .ok (.iload_n 2, 1) := by decide +kernel
theorem dJ0_indexOf_7cf53_13 : decode cJ0_indexOf_7cf53 13 = .ok (.aload_n 0, 1) := by decide +kernel
theorem dJ0_indexOf_7cf53_14 : decode cJ0_indexOf_7cf53 14 = .ok (.invokevirtual 505, 3) := by decide +kernel
theorem dJ0_indexOf_7cf53_17 : decode cJ0_indexOf_7cf53 17 = .ok (.invokestatic 637, 3) := by decide +kernel
theorem dJ0_indexOf_7cf53_20 : decode cJ0_indexOf_7cf53 20 = .ok (.goto 16, 3) := by decide +kernel
theorem dJ0_indexOf_7cf53_23 : decode cJ0_indexOf_7cf53 23 = .ok (.aload_n 0, 1) := by decide +kernel
theorem dJ0_indexOf_7cf53_24 : decode cJ0_indexOf_7cf53 24 = .ok (.getfield 9, 3) := by decide +kernel
theorem dJ0_indexOf_7cf53_27 : decode cJ0_indexOf_7cf53 27 = .ok (.iload_n 1, 1) := by decide +kernel
theorem dJ0_indexOf_7cf53_28 : decode cJ0_indexOf_7cf53 28 = .ok (.iload_n 2, 1) := by decide +kernel
theorem dJ0_indexOf_7cf53_29 : decode cJ0_indexOf_7cf53 29 = .ok (.aload_n 0, 1) := by decide +kernel
theorem dJ0_indexOf_7cf53_30 : decode cJ0_indexOf_7cf53 30 = .ok (.invokevirtual 505, 3) := by decide +kernel
theorem dJ0_indexOf_7cf53_33 : decode cJ0_indexOf_7cf53 33 = .ok (.invokestatic 640, 3) := by decide +kernel
theorem dJ0_indexOf_7cf53_36 : decode cJ0_indexOf_7cf53 36 = .ok (.ireturn, 1) := by decide +kernel
theorem miJ0_indexOf_7cf53 : MI yJ0_indexOf_7cf53 cJ0_indexOf_7cf53 3 (some .int) 2 := ⟨lw_w_in (l := lw_tbl) 541 rfl (by decide +kernel) (by decide +kernel), lw_w_in (l := lw_tbl) 88 rfl (by decide +kernel) (by decide +kernel), by decide +kernel, by decide +kernel, by decide +kernel⟩
theorem mvJ0_indexOf_7cf53 : MV yJ0_indexOf_7cf53 := ⟨lw_w_in (l := lw_tbl) 539 rfl (by decide +kernel) (by decide +kernel), lw_w_in (l := lw_tbl) 540 rfl (by decide +kernel) (by decide +kernel)⟩
theorem dJ0_indexOf_0f7a4_0 : decode cJ0_indexOf_0f7a4 0 = .ok (.aload_n 0, 1) := by decide +kernel
theorem dJ0_indexOf_0f7a4_1 : decode cJ0_indexOf_0f7a4 1 = .ok (.iload_n 1, 1) := by decide +kernel
theorem dJ0_indexOf_0f7a4_2 : decode cJ0_indexOf_0f7a4 2 = .ok (.iconst 0, 1) := by decide +kernel
theorem dJ0_indexOf_0f7a4_3 : decode cJ0_indexOf_0f7a4 3 = .ok (.invokevirtual 633, 3) := by decide +kernel
theorem dJ0_indexOf_0f7a4_6 : decode cJ0_indexOf_0f7a4 6 = .ok (.ireturn, 1) := by decide +kernel
theorem miJ0_indexOf_0f7a4 : MI yJ0_indexOf_0f7a4 cJ0_indexOf_0f7a4 2 (some .int) 1 := ⟨lw_w_in (l := lw_tbl) 537 rfl (by decide +kernel) (by decide +kernel), lw_w_in (l := lw_tbl) 88 rfl (by decide +kernel) (by decide +kernel), by decide +kernel, by decide +kernel, by decide +kernel⟩
theorem mvJ0_indexOf_0f7a4 : MV yJ0_indexOf_0f7a4 := ⟨lw_w_in (l := lw_tbl) 535 rfl (by decide +kernel) (by decide +kernel), lw_w_in (l := lw_tbl) 536 rfl (by decide +kernel) (by decide +kernel)⟩
theorem lmRJ0_633 : Cond.methodLink RJ0 633 yJ0_indexOf_7cf53 ∈ lw_w := lw_w_in (l := lw_tbl) 538 rfl (by decide +kernel) (by decide +kernel)
theorem lmRJ0_492 : Cond.methodLink RJ0 492 yJ0_isLatin1_aae02 ∈ lw_w := lw_w_in (l := lw_tbl) 542 rfl (by decide +kernel) (by decide +kernel)
theorem lmRJ0_505 : Cond.methodLink RJ0 505 yJ0_length_8abf5 ∈ lw_w := lw_w_in (l := lw_tbl) 548 rfl (by decide +kernel) (by decide +kernel)
theorem lmRJ0_335 : Cond.methodLink RJ0 335 yJ0_coder_7d493 ∈ lw_w := lw_w_in (l := lw_tbl) 552 rfl (by decide +kernel) (by decide +kernel)
theorem lmRJ0_637 : Cond.methodLink RJ0 637 yJ1_indexOf_4cfef ∈ lw_w := lw_w_in (l := lw_tbl) 556 rfl (by decide +kernel) (by decide +kernel)
theorem lmRJ1_88 : Cond.methodLink RJ1 88 yJ1_canEncode_9a6ad ∈ lw_w := lw_w_in (l := lw_tbl) 559 rfl (by decide +kernel) (by decide +kernel)
theorem lmRJ1_92 : Cond.methodLink RJ1 92 Lib.Math.max.name ∈ lw_w := lw_w_in (l := lw_tbl) 562 rfl (by decide +kernel) (by decide +kernel)
theorem lmRJ1_38 : Cond.methodLink RJ1 38 Lib.Math.min.name ∈ lw_w := lw_w_in (l := lw_tbl) 565 rfl (by decide +kernel) (by decide +kernel)
theorem lmRJ1_95 : Cond.methodLink RJ1 95 yJ1_indexOfChar_4cfef ∈ lw_w := lw_w_in (l := lw_tbl) 568 rfl (by decide +kernel) (by decide +kernel)
theorem gsRJ0_38 : Cond.fieldLink RJ0 38 "java/lang/String" "COMPACT_STRINGS" "Z" ∈ lw_w := lw_w_in (l := lw_tbl) 546 rfl (by decide +kernel) (by decide +kernel)
theorem gsRJ0_15 : Cond.fieldLink RJ0 15 "java/lang/String" "coder" "B" ∈ lw_w := lw_w_in (l := lw_tbl) 1594 rfl (by decide +kernel) (by decide +kernel)
theorem gsRJ0_9 : Cond.fieldLink RJ0 9 "java/lang/String" "value" "[B" ∈ lw_w := lw_w_in (l := lw_tbl) 1595 rfl (by decide +kernel) (by decide +kernel)
theorem tJ0_coder_7d493 {l : Launch} {g : GT} {S : S2} : Cn l g yJ0_coder_7d493 cJ0_coder_7d493 1 (some .byte) 0 0 0 [vo 5] S (some (vi 0)) S := by
  refine Cn.ofB (by decide) (Nat.le_of_ble_eq_true rfl) (fun K e hC hR => ?_)
  refine g_ogets hC dJ0_coder_7d493_0 gsRJ0_38 ?_
  refine g_if_eq hC dJ0_coder_7d493_3 (tgt := 13) (by decide) (fun z => absurd z (by decide)) (fun _ => ?_)
  refine g_aloado_n hC dJ0_coder_7d493_6 0 rfl rfl ?_
  refine g_ocoder hC dJ0_coder_7d493_7 gsRJ0_15 ?_
  refine g_goto hC dJ0_coder_7d493_10 (tgt := 14) (by decide) ?_
  exact hR _ _ dJ0_coder_7d493_14
theorem tJ0_isLatin1_aae02 {l : Launch} {g : GT} {S : S2} : Cn l g yJ0_isLatin1_aae02 cJ0_isLatin1_aae02 1 (some .boolean) 0 0 0 [vo 5] S (some (vi 1)) S := by
  refine Cn.ofZ (by decide) (Nat.le_of_ble_eq_true rfl) (fun K e hC hR => ?_)
  refine g_ogets hC dJ0_isLatin1_aae02_0 gsRJ0_38 ?_
  refine g_if_eq hC dJ0_isLatin1_aae02_3 (tgt := 17) (by decide) (fun z => absurd z (by decide)) (fun _ => ?_)
  refine g_aloado_n hC dJ0_isLatin1_aae02_6 0 rfl rfl ?_
  refine g_ocoder hC dJ0_isLatin1_aae02_7 gsRJ0_15 ?_
  refine g_if_ne hC dJ0_isLatin1_aae02_10 (tgt := 17) (by decide) (fun z => absurd rfl z) (fun _ => ?_)
  refine g_iconst hC dJ0_isLatin1_aae02_13 ok_1 ?_
  refine g_goto hC dJ0_isLatin1_aae02_14 (tgt := 18) (by decide) ?_
  exact hR _ _ (Or.inr rfl) dJ0_isLatin1_aae02_18
theorem tJ0_length_8abf5 {l : Launch} {g : GT} {S : S2} : Cn l g yJ0_length_8abf5 cJ0_length_8abf5 1 (some .int) 1 0 0 [vo 5] S (some (vi (i_shr 6 0))) S := by
  refine Cn.ofI (by decide) (Nat.le_of_ble_eq_true rfl) (fun K e hC hR => ?_)
  refine g_aloado_n hC dJ0_length_8abf5_0 0 rfl rfl ?_
  refine g_ovalue hC dJ0_length_8abf5_1 gsRJ0_9 ?_
  refine g_olen hC dJ0_length_8abf5_4 ?_
  refine g_aloado_n hC dJ0_length_8abf5_5 0 rfl rfl ?_
  refine g_callO hC dJ0_length_8abf5_6 tJ0_coder_7d493 miJ0_coder_7d493 mvJ0_coder_7d493 lmRJ0_335 rfl rfl rfl (Nat.le_of_ble_eq_true rfl) (Nat.le_of_ble_eq_true rfl) (Nat.le_of_ble_eq_true rfl) ⟨Nat.le_refl _, Nat.le_refl _⟩ ?_
  refine g_ishr hC dJ0_length_8abf5_9 ?_
  exact hR _ _ dJ0_length_8abf5_10
theorem tJ1_canEncode_9a6ad {l : Launch} {g : GT} {S : S2} {x : Int} : Cn l g yJ1_canEncode_9a6ad cJ1_canEncode_9a6ad 1 (some .boolean) 0 0 0 [vi x] S (some (vi (if x < 0 then 0 else if 255 < x then 0 else 1))) S := by
  refine Cn.ofZ (by decide) (Nat.le_of_ble_eq_true rfl) (fun K e hC hR => ?_)
  refine g_iload_n hC dJ1_canEncode_9a6ad_0 0 rfl rfl ?_
  refine g_if_lt hC dJ1_canEncode_9a6ad_1 (tgt := 15) (by decide) (fun z => ?_) (fun z => ?_)
  · rw [if_pos z] at hR
    refine g_iconst hC dJ1_canEncode_9a6ad_15 ok_0 ?_
    exact hR _ _ (Or.inl rfl) dJ1_canEncode_9a6ad_16
  · rw [if_neg z] at hR
    refine g_iload_n hC dJ1_canEncode_9a6ad_4 0 rfl rfl ?_
    refine g_sipush hC dJ1_canEncode_9a6ad_5 sp_255 ?_
    refine g_icmp_gt hC dJ1_canEncode_9a6ad_8 (tgt := 15) (by decide) (fun z => ?_) (fun z => ?_)
    · rw [if_pos z] at hR
      refine g_iconst hC dJ1_canEncode_9a6ad_15 ok_0 ?_
      exact hR _ _ (Or.inl rfl) dJ1_canEncode_9a6ad_16
    · rw [if_neg z] at hR
      refine g_iconst hC dJ1_canEncode_9a6ad_11 ok_1 ?_
      refine g_goto hC dJ1_canEncode_9a6ad_12 (tgt := 16) (by decide) ?_
      exact hR _ _ (Or.inr rfl) dJ1_canEncode_9a6ad_16
theorem okb (x : Int) (h : -2147483648 ≤ x ∧ x < 2147483648) : ok32 x := h
theorem i2b_eq {x b : Int} (h0 : ¬ x < 0) (h1 : ¬ 255 < x) (b0 : 0 ≤ b) (b1 : b < 128) : b = c_i2b x ↔ x = b := by
  have e : c_i2b x = Int.bmod x 256 := by
    unfold c_i2b
    rw [Int32.toInt8_ofInt, Int8.toInt_toInt32, Int8.toInt_ofInt]
  rw [e]
  constructor
  · intro h
    have := Int.bmod_def x 256
    omega
  · intro h
    subst h
    have := Int.bmod_def x 256
    omega

theorem tJ1_indexOfChar_4cfef {l : Launch} {g : GT} {S : S2} {x : Int} (h0 : ¬ x < 0) (h1 : ¬ 255 < x) : Cn l g yJ1_indexOfChar_4cfef cJ1_indexOfChar_4cfef 6 (some .int) 0 0 0 [vo 6, vi x, vi 0, vi 6] S (some (vi (ixof x))) S := by
  refine Cn.ofI (by decide) (Nat.le_of_ble_eq_true rfl) (fun K e hC hR => ?_)
  have hb : ∀ b : Int, 0 ≤ b → b < 128 → (b = c_i2b x ↔ x = b) := fun b b0 b1 => i2b_eq h0 h1 b0 b1
  refine g_iload_n hC dJ1_indexOfChar_4cfef_0 1 rfl rfl ?_
  refine g_i2b hC dJ1_indexOfChar_4cfef_1 ?_
  refine g_istore hC dJ1_indexOfChar_4cfef_2 (Nat.le_of_ble_eq_true rfl) rfl ?_
  refine g_iload_n hC dJ1_indexOfChar_4cfef_4 3 rfl rfl ?_
  refine g_istore hC dJ1_indexOfChar_4cfef_5 (Nat.le_of_ble_eq_true rfl) rfl ?_
  refine g_iload hC dJ1_indexOfChar_4cfef_7 0 rfl ?_
  refine g_iload_n hC dJ1_indexOfChar_4cfef_9 5 rfl rfl ?_
  refine g_icmp_ge hC dJ1_indexOfChar_4cfef_10 (tgt := 31) (by decide) (fun z => absurd z (by decide)) (fun _ => ?_)
  refine g_aloado_n hC dJ1_indexOfChar_4cfef_13 2 rfl rfl ?_
  refine g_iload hC dJ1_indexOfChar_4cfef_14 0 rfl ?_
  refine g_obald hC dJ1_indexOfChar_4cfef_16 (by decide) (okb (bts.getD (Int.toNat 0) 0) (by decide)) ?_
  refine g_iload hC dJ1_indexOfChar_4cfef_17 1 rfl ?_
  refine g_icmp_ne hC dJ1_indexOfChar_4cfef_19 (tgt := 25) (by decide) (fun z0 => ?_) (fun z => ?_)
  rotate_left
  · have hz : x = 99 := (hb 99 (by decide) (by decide)).mp z
    subst hz
    refine g_iload hC dJ1_indexOfChar_4cfef_22 0 rfl ?_
    exact hR _ _ dJ1_indexOfChar_4cfef_24
  have y0 : ¬ x = 99 := fun h => z0 ((hb 99 (by decide) (by decide)).mpr h)
  refine g_iincK (z := 1) hC dJ1_indexOfChar_4cfef_25 0 rfl (Nat.le_of_ble_eq_true rfl) (by decide +kernel) rfl ?_
  refine g_goto hC dJ1_indexOfChar_4cfef_28 (tgt := 7) (by decide) ?_
  refine g_iload hC dJ1_indexOfChar_4cfef_7 0 rfl ?_
  refine g_iload_n hC dJ1_indexOfChar_4cfef_9 5 rfl rfl ?_
  refine g_icmp_ge hC dJ1_indexOfChar_4cfef_10 (tgt := 31) (by decide) (fun z => absurd z (by decide)) (fun _ => ?_)
  refine g_aloado_n hC dJ1_indexOfChar_4cfef_13 2 rfl rfl ?_
  refine g_iload hC dJ1_indexOfChar_4cfef_14 0 rfl ?_
  refine g_obald hC dJ1_indexOfChar_4cfef_16 (by decide) (okb (bts.getD (Int.toNat 1) 0) (by decide)) ?_
  refine g_iload hC dJ1_indexOfChar_4cfef_17 1 rfl ?_
  refine g_icmp_ne hC dJ1_indexOfChar_4cfef_19 (tgt := 25) (by decide) (fun z1 => ?_) (fun z => ?_)
  rotate_left
  · have hz : x = 108 := (hb 108 (by decide) (by decide)).mp z
    subst hz
    refine g_iload hC dJ1_indexOfChar_4cfef_22 0 rfl ?_
    exact hR _ _ dJ1_indexOfChar_4cfef_24
  have y1 : ¬ x = 108 := fun h => z1 ((hb 108 (by decide) (by decide)).mpr h)
  refine g_iincK (z := 2) hC dJ1_indexOfChar_4cfef_25 0 rfl (Nat.le_of_ble_eq_true rfl) (by decide +kernel) rfl ?_
  refine g_goto hC dJ1_indexOfChar_4cfef_28 (tgt := 7) (by decide) ?_
  refine g_iload hC dJ1_indexOfChar_4cfef_7 0 rfl ?_
  refine g_iload_n hC dJ1_indexOfChar_4cfef_9 5 rfl rfl ?_
  refine g_icmp_ge hC dJ1_indexOfChar_4cfef_10 (tgt := 31) (by decide) (fun z => absurd z (by decide)) (fun _ => ?_)
  refine g_aloado_n hC dJ1_indexOfChar_4cfef_13 2 rfl rfl ?_
  refine g_iload hC dJ1_indexOfChar_4cfef_14 0 rfl ?_
  refine g_obald hC dJ1_indexOfChar_4cfef_16 (by decide) (okb (bts.getD (Int.toNat 2) 0) (by decide)) ?_
  refine g_iload hC dJ1_indexOfChar_4cfef_17 1 rfl ?_
  refine g_icmp_ne hC dJ1_indexOfChar_4cfef_19 (tgt := 25) (by decide) (fun z2 => ?_) (fun z => ?_)
  rotate_left
  · have hz : x = 104 := (hb 104 (by decide) (by decide)).mp z
    subst hz
    refine g_iload hC dJ1_indexOfChar_4cfef_22 0 rfl ?_
    exact hR _ _ dJ1_indexOfChar_4cfef_24
  have y2 : ¬ x = 104 := fun h => z2 ((hb 104 (by decide) (by decide)).mpr h)
  refine g_iincK (z := 3) hC dJ1_indexOfChar_4cfef_25 0 rfl (Nat.le_of_ble_eq_true rfl) (by decide +kernel) rfl ?_
  refine g_goto hC dJ1_indexOfChar_4cfef_28 (tgt := 7) (by decide) ?_
  refine g_iload hC dJ1_indexOfChar_4cfef_7 0 rfl ?_
  refine g_iload_n hC dJ1_indexOfChar_4cfef_9 5 rfl rfl ?_
  refine g_icmp_ge hC dJ1_indexOfChar_4cfef_10 (tgt := 31) (by decide) (fun z => absurd z (by decide)) (fun _ => ?_)
  refine g_aloado_n hC dJ1_indexOfChar_4cfef_13 2 rfl rfl ?_
  refine g_iload hC dJ1_indexOfChar_4cfef_14 0 rfl ?_
  refine g_obald hC dJ1_indexOfChar_4cfef_16 (by decide) (okb (bts.getD (Int.toNat 3) 0) (by decide)) ?_
  refine g_iload hC dJ1_indexOfChar_4cfef_17 1 rfl ?_
  refine g_icmp_ne hC dJ1_indexOfChar_4cfef_19 (tgt := 25) (by decide) (fun z3 => ?_) (fun z => ?_)
  rotate_left
  · have hz : x = 118 := (hb 118 (by decide) (by decide)).mp z
    subst hz
    refine g_iload hC dJ1_indexOfChar_4cfef_22 0 rfl ?_
    exact hR _ _ dJ1_indexOfChar_4cfef_24
  have y3 : ¬ x = 118 := fun h => z3 ((hb 118 (by decide) (by decide)).mpr h)
  refine g_iincK (z := 4) hC dJ1_indexOfChar_4cfef_25 0 rfl (Nat.le_of_ble_eq_true rfl) (by decide +kernel) rfl ?_
  refine g_goto hC dJ1_indexOfChar_4cfef_28 (tgt := 7) (by decide) ?_
  refine g_iload hC dJ1_indexOfChar_4cfef_7 0 rfl ?_
  refine g_iload_n hC dJ1_indexOfChar_4cfef_9 5 rfl rfl ?_
  refine g_icmp_ge hC dJ1_indexOfChar_4cfef_10 (tgt := 31) (by decide) (fun z => absurd z (by decide)) (fun _ => ?_)
  refine g_aloado_n hC dJ1_indexOfChar_4cfef_13 2 rfl rfl ?_
  refine g_iload hC dJ1_indexOfChar_4cfef_14 0 rfl ?_
  refine g_obald hC dJ1_indexOfChar_4cfef_16 (by decide) (okb (bts.getD (Int.toNat 4) 0) (by decide)) ?_
  refine g_iload hC dJ1_indexOfChar_4cfef_17 1 rfl ?_
  refine g_icmp_ne hC dJ1_indexOfChar_4cfef_19 (tgt := 25) (by decide) (fun z4 => ?_) (fun z => ?_)
  rotate_left
  · have hz : x = 110 := (hb 110 (by decide) (by decide)).mp z
    subst hz
    refine g_iload hC dJ1_indexOfChar_4cfef_22 0 rfl ?_
    exact hR _ _ dJ1_indexOfChar_4cfef_24
  have y4 : ¬ x = 110 := fun h => z4 ((hb 110 (by decide) (by decide)).mpr h)
  refine g_iincK (z := 5) hC dJ1_indexOfChar_4cfef_25 0 rfl (Nat.le_of_ble_eq_true rfl) (by decide +kernel) rfl ?_
  refine g_goto hC dJ1_indexOfChar_4cfef_28 (tgt := 7) (by decide) ?_
  refine g_iload hC dJ1_indexOfChar_4cfef_7 0 rfl ?_
  refine g_iload_n hC dJ1_indexOfChar_4cfef_9 5 rfl rfl ?_
  refine g_icmp_ge hC dJ1_indexOfChar_4cfef_10 (tgt := 31) (by decide) (fun z => absurd z (by decide)) (fun _ => ?_)
  refine g_aloado_n hC dJ1_indexOfChar_4cfef_13 2 rfl rfl ?_
  refine g_iload hC dJ1_indexOfChar_4cfef_14 0 rfl ?_
  refine g_obald hC dJ1_indexOfChar_4cfef_16 (by decide) (okb (bts.getD (Int.toNat 5) 0) (by decide)) ?_
  refine g_iload hC dJ1_indexOfChar_4cfef_17 1 rfl ?_
  refine g_icmp_ne hC dJ1_indexOfChar_4cfef_19 (tgt := 25) (by decide) (fun z5 => ?_) (fun z => ?_)
  rotate_left
  · have hz : x = 109 := (hb 109 (by decide) (by decide)).mp z
    subst hz
    refine g_iload hC dJ1_indexOfChar_4cfef_22 0 rfl ?_
    exact hR _ _ dJ1_indexOfChar_4cfef_24
  have y5 : ¬ x = 109 := fun h => z5 ((hb 109 (by decide) (by decide)).mpr h)
  refine g_iincK (z := 6) hC dJ1_indexOfChar_4cfef_25 0 rfl (Nat.le_of_ble_eq_true rfl) (by decide +kernel) rfl ?_
  refine g_goto hC dJ1_indexOfChar_4cfef_28 (tgt := 7) (by decide) ?_
  refine g_iload hC dJ1_indexOfChar_4cfef_7 0 rfl ?_
  refine g_iload_n hC dJ1_indexOfChar_4cfef_9 5 rfl rfl ?_
  refine g_icmp_ge hC dJ1_indexOfChar_4cfef_10 (tgt := 31) (by decide) (fun _ => ?_) (fun z => absurd (by decide) z)
  refine g_iconst hC dJ1_indexOfChar_4cfef_31 ok_m1 ?_
  have e9 : ixof x = -1 := by unfold ixof; rw [if_neg y0, if_neg y1, if_neg y2, if_neg y3, if_neg y4, if_neg y5]
  rw [e9] at hR
  exact hR _ _ dJ1_indexOfChar_4cfef_32
theorem tJ1_indexOf_4cfef {l : Launch} {g : GT} {S : S2} {x : Int} : Cn l g yJ1_indexOf_4cfef cJ1_indexOf_4cfef 4 (some .int) 1 0 0 [vo 6, vi x, vi 0, vi 6] S (some (vi (ixof x))) S := by
  refine Cn.ofI (by decide) (Nat.le_of_ble_eq_true rfl) (fun K e hC hR => ?_)
  refine g_iload_n hC dJ1_indexOf_4cfef_0 1 rfl rfl ?_
  refine s_callSi hC dJ1_indexOf_4cfef_1 tJ1_canEncode_9a6ad miJ1_canEncode_9a6ad msJ1_canEncode_9a6ad (Or.inl lmRJ1_88) rfl rfl (Nat.le_of_ble_eq_true rfl) (Nat.le_of_ble_eq_true rfl) (Nat.le_of_ble_eq_true rfl) ⟨Nat.le_refl _, Nat.le_refl _⟩ ?_
  refine g_if_ne hC dJ1_indexOf_4cfef_4 (tgt := 9) (by decide) (fun z => ?_) (fun z => ?_)
  rotate_left
  · have e9 : ixof x = -1 := by
      unfold ixof
      by_cases h1 : x < 0
      · rw [if_neg (by omega), if_neg (by omega), if_neg (by omega), if_neg (by omega), if_neg (by omega), if_neg (by omega)]
      · rw [if_neg h1] at z
        by_cases h2 : 255 < x
        · rw [if_neg (by omega), if_neg (by omega), if_neg (by omega), if_neg (by omega), if_neg (by omega), if_neg (by omega)]
        · rw [if_neg h2] at z
          exact absurd z (by decide)
    rw [e9] at hR
    refine g_iconst hC dJ1_indexOf_4cfef_7 ok_m1 ?_
    exact hR _ _ dJ1_indexOf_4cfef_8
  have h1 : ¬ x < 0 := fun h => z (by rw [if_pos h])
  have h2 : ¬ 255 < x := fun h => z (by rw [if_neg h1, if_pos h])
  refine g_iload_n hC dJ1_indexOf_4cfef_9 2 rfl rfl ?_
  refine g_iconst hC dJ1_indexOf_4cfef_10 ok_0 ?_
  refine g_max hC dJ1_indexOf_4cfef_11 lmRJ1_92 mx_1 mn_2 mx_3 (Nat.le_of_ble_eq_true rfl) (Nat.le_of_ble_eq_true rfl) ⟨Nat.le_refl _, Nat.le_refl _⟩ ?_
  refine g_istore_n hC dJ1_indexOf_4cfef_14 rfl (Nat.le_of_ble_eq_true rfl) rfl ?_
  refine g_iload_n hC dJ1_indexOf_4cfef_15 3 rfl rfl ?_
  refine g_aloado_n hC dJ1_indexOf_4cfef_16 1 rfl rfl ?_
  refine g_olen hC dJ1_indexOf_4cfef_17 ?_
  refine g_min hC dJ1_indexOf_4cfef_18 lmRJ1_38 mn_1 mn_2 mn_3 (Nat.le_of_ble_eq_true rfl) (Nat.le_of_ble_eq_true rfl) ⟨Nat.le_refl _, Nat.le_refl _⟩ ?_
  refine g_istore_n hC dJ1_indexOf_4cfef_21 rfl (Nat.le_of_ble_eq_true rfl) rfl ?_
  refine g_iload_n hC dJ1_indexOf_4cfef_22 1 rfl rfl ?_
  refine g_iload_n hC dJ1_indexOf_4cfef_23 0 rfl rfl ?_
  refine g_icmp_lt hC dJ1_indexOf_4cfef_24 (tgt := 29) (by decide) (fun _ => ?_) (fun z => absurd (by decide) z)
  refine g_aloado_n hC dJ1_indexOf_4cfef_29 2 rfl rfl ?_
  refine g_iload_n hC dJ1_indexOf_4cfef_30 3 rfl rfl ?_
  refine g_iload_n hC dJ1_indexOf_4cfef_31 1 rfl rfl ?_
  refine g_iload_n hC dJ1_indexOf_4cfef_32 0 rfl rfl ?_
  refine s_callSi hC dJ1_indexOf_4cfef_33 (tJ1_indexOfChar_4cfef h1 h2) miJ1_indexOfChar_4cfef msJ1_indexOfChar_4cfef (Or.inl lmRJ1_95) rfl rfl (Nat.le_of_ble_eq_true rfl) (Nat.le_of_ble_eq_true rfl) (Nat.le_of_ble_eq_true rfl) ⟨Nat.le_refl _, Nat.le_refl _⟩ ?_
  exact hR _ _ dJ1_indexOf_4cfef_36
theorem tJ0_indexOf_7cf53 {l : Launch} {g : GT} {S : S2} {x : Int} : Cn l g yJ0_indexOf_7cf53 cJ0_indexOf_7cf53 3 (some .int) 3 0 0 [vo 5, vi x, vi 0] S (some (vi (ixof x))) S := by
  refine Cn.ofI (by decide) (Nat.le_of_ble_eq_true rfl) (fun K e hC hR => ?_)
  refine g_aloado_n hC dJ0_indexOf_7cf53_0 0 rfl rfl ?_
  refine g_callO hC dJ0_indexOf_7cf53_1 tJ0_isLatin1_aae02 miJ0_isLatin1_aae02 mvJ0_isLatin1_aae02 lmRJ0_492 rfl rfl rfl (Nat.le_of_ble_eq_true rfl) (Nat.le_of_ble_eq_true rfl) (Nat.le_of_ble_eq_true rfl) ⟨Nat.le_refl _, Nat.le_refl _⟩ ?_
  refine g_if_eq hC dJ0_indexOf_7cf53_4 (tgt := 23) (by decide) (fun z => absurd z (by decide)) (fun _ => ?_)
  refine g_aloado_n hC dJ0_indexOf_7cf53_7 0 rfl rfl ?_
  refine g_ovalue hC dJ0_indexOf_7cf53_8 gsRJ0_9 ?_
  refine g_iload_n hC dJ0_indexOf_7cf53_11 1 rfl rfl ?_
  refine g_iload_n hC dJ0_indexOf_7cf53_12 2 rfl rfl ?_
  refine g_aloado_n hC dJ0_indexOf_7cf53_13 0 rfl rfl ?_
  refine g_callO hC dJ0_indexOf_7cf53_14 tJ0_length_8abf5 miJ0_length_8abf5 mvJ0_length_8abf5 lmRJ0_505 rfl rfl rfl (Nat.le_of_ble_eq_true rfl) (Nat.le_of_ble_eq_true rfl) (Nat.le_of_ble_eq_true rfl) ⟨Nat.le_refl _, Nat.le_refl _⟩ ?_
  refine s_callSi hC dJ0_indexOf_7cf53_17 (tJ1_indexOf_4cfef (x := x)) miJ1_indexOf_4cfef msJ1_indexOf_4cfef (Or.inl lmRJ0_637) rfl rfl (Nat.le_of_ble_eq_true rfl) (Nat.le_of_ble_eq_true rfl) (Nat.le_of_ble_eq_true rfl) ⟨Nat.le_refl _, Nat.le_refl _⟩ ?_
  refine g_goto hC dJ0_indexOf_7cf53_20 (tgt := 36) (by decide) ?_
  exact hR _ _ dJ0_indexOf_7cf53_36
theorem tJ0_indexOf_0f7a4 {l : Launch} {g : GT} {S : S2} {x : Int} : Cn l g yJ0_indexOf_0f7a4 cJ0_indexOf_0f7a4 2 (some .int) 4 0 0 [vo 5, vi x] S (some (vi (ixof x))) S := by
  refine Cn.ofI (by decide) (Nat.le_of_ble_eq_true rfl) (fun K e hC hR => ?_)
  refine g_aloado_n hC dJ0_indexOf_0f7a4_0 0 rfl rfl ?_
  refine g_iload_n hC dJ0_indexOf_0f7a4_1 1 rfl rfl ?_
  refine g_iconst hC dJ0_indexOf_0f7a4_2 ok_0 ?_
  refine g_callO hC dJ0_indexOf_0f7a4_3 (tJ0_indexOf_7cf53 (x := x)) miJ0_indexOf_7cf53 mvJ0_indexOf_7cf53 lmRJ0_633 rfl rfl rfl (Nat.le_of_ble_eq_true rfl) (Nat.le_of_ble_eq_true rfl) (Nat.le_of_ble_eq_true rfl) ⟨Nat.le_refl _, Nat.le_refl _⟩ ?_
  exact hR _ _ dJ0_indexOf_0f7a4_6
theorem g_ixof {K : KT} {g : GT} {own : String} {cc : ByteArray} {nL fr cm sm : Nat} {cs : Nat × Nat} {pc : Nat} {L : List (Nat × Vl)} {st : List Vl} {S : S2} {ix : Nat} {x : Int} (hC : Ctx K g own cc nL fr cm sm) (hd : decode cc pc = .ok (.invokevirtual ix, 3)) (hl : Cond.methodLink own ix yJ0_indexOf_0f7a4 ∈ lw_w) (hw : wsum st ≤ 8) (hfr : 8 ≤ fr) (hcs : cs.1 ≤ cm ∧ cs.2 ≤ sm) (kk : G K g nL cs (pc + 3) L (vi (ixof x) :: st) S) : G K g nL cs pc L (vi x :: vo 5 :: st) S :=
  g_callO hC hd (tJ0_indexOf_0f7a4 (x := x)) miJ0_indexOf_0f7a4 mvJ0_indexOf_0f7a4 hl rfl rfl rfl hw (by omega) (Nat.le_of_ble_eq_true rfl) hcs kk
