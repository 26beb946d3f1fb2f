/-! The constructors, walked (printed by my program). -/
def z0 : St := fun _ _ => 0
section InitK
variable {K : KT} {g : GT} {own : String} {cc : ByteArray} {nL fr cm sm : Nat} {cs : Nat × Nat} {pc : Nat} {L : List (Nat × Vl)} {st : List Vl} {S : S2}
theorem Ctx_less {fr' cm' sm' : Nat} (h : Ctx K g own cc nL fr cm sm) (h1 : fr' ≤ fr) (h2 : cm' ≤ cm ∧ sm' ≤ sm) : Ctx K g own cc nL fr' cm' sm' := by
  obtain ⟨p, l, e, R, s, m, args, below, meth, c, Q⟩ := K
  obtain ⟨a1, a2, a3, a4, a5, a6, a7, a8, a9, a10, a11⟩ := h
  exact ⟨a1, a2, a3, a4, a5, a6, a7, by omega, by omega, by omega, by omega⟩
theorem hsz_ {n0 n : Nat} (h : (Kheap K).size = g.1 + n0) (k : Nat) (hn : n0 + k = n) : (Kheap K).size + k = g.1 + n := by omega
theorem g_sh {l : List Sh} (h : S.1 = l) (k : G K g nL cs pc L st (l, S.2)) : G K g nL cs pc L st S := by
  subst h
  exact k
theorem g_newK {ix ci N n : Nat} {C : String} {T : u_T} {ty : Nat → FieldType} (ts : List Nat) (hC : Ctx K g own cc nL fr cm sm) (hd : decode cc pc = .ok (.new ix, 3)) (hcl : Cond.classLink own ix C ∈ lw_w) (hinst : Cond.instantiable C N ∈ lw_w) (hini : Cond.initialized C ∈ lw_w) (hvc : vwCl[ci]? = some (C, T, N)) (hin : ∀ w ∈ u_ws C T N, w ∈ lw_w) (hty : ∀ k, k < N → parseFieldDescriptor (T k).2.2.1 = some (ty k)) (hts : ts.all (fun t => decide (t ≤ 3)) = true) (hfs : ∀ j, j < N → defaultValue (ty j) = vp_V (ts.map dfl) j) (hn : S.1.length = n) (hz : ∀ j, S.2 n j = 0) (hsz : (Kheap K).size + cs.1 = g.1 + n) (hcs : cs.1 + 1 ≤ cm ∧ cs.2 + N ≤ sm) (kk : G K g nL (cs.1 + 1, cs.2 + N) (pc + 3) L (vr n :: st) (S.1 ++ [(0, ci, blk ts)], S.2)) : G K g nL cs pc L st S := by
  subst hn
  exact g_new ts hC hd hcl hinst hini hvc hin hty hts hfs hz hsz hcs kk
theorem g_newiK {n : Nat} {k : Int} (hC : Ctx K g own cc nL fr cm sm) (hd : decode cc pc = .ok (.newarray .int, 2)) (ha : Cond.arrayClass .int ∈ lw_w) (hk : 0 ≤ k ∧ k ≤ 1000) (hn : S.1.length = n) (hz : ∀ j, S.2 n j = 0) (hsz : (Kheap K).size + cs.1 = g.1 + n) (hcs : cs.1 + 1 ≤ cm ∧ cs.2 + k.toNat ≤ sm) (kk : G K g nL (cs.1 + 1, cs.2 + k.toNat) (pc + 2) L (vr n :: st) (S.1 ++ [(1, k.toNat, [])], S.2)) : G K g nL cs pc L (vi k :: st) S := by
  subst hn
  exact g_newi hC hd ha hk hz hsz hcs kk
theorem g_newlK {n : Nat} {k : Int} (hC : Ctx K g own cc nL fr cm sm) (hd : decode cc pc = .ok (.newarray .long, 2)) (ha : Cond.arrayClass .long ∈ lw_w) (hk : 0 ≤ k ∧ k ≤ 1000) (hn : S.1.length = n) (hz : ∀ j, S.2 n j = 0) (hsz : (Kheap K).size + cs.1 = g.1 + n) (hcs : cs.1 + 1 ≤ cm ∧ cs.2 + k.toNat ≤ sm) (kk : G K g nL (cs.1 + 1, cs.2 + k.toNat) (pc + 2) L (vr n :: st) (S.1 ++ [(2, k.toNat, [])], S.2)) : G K g nL cs pc L (vi k :: st) S := by
  subst hn
  exact g_newl hC hd ha hk hz hsz hcs kk
theorem g_newrK {n : Nat} {k : Int} {ix : Nat} (hC : Ctx K g own cc nL fr cm sm) (hd : decode cc pc = .ok (.anewarray ix, 3)) (hcl : Cond.classLink own ix RX6 ∈ lw_w) (hk : 0 ≤ k ∧ k ≤ 1000) (hn : S.1.length = n) (hsz : (Kheap K).size + cs.1 = g.1 + n) (hcs : cs.1 + 1 ≤ cm ∧ cs.2 + k.toNat ≤ sm) (kk : G K g nL (cs.1 + 1, cs.2 + k.toNat) (pc + 3) L (vr n :: st) (S.1 ++ [(3, k.toNat, List.replicate k.toNat (2, none))], S.2)) : G K g nL cs pc L (vi k :: st) S := by
  subst hn
  exact g_newr hC hd hcl hk hsz hcs kk
end InitK
theorem lcRL_7 : Cond.classLink RL 7 RX9 ∈ lw_w := lw_w_in (l := lw_tbl) 96 rfl (by decide +kernel) (by decide +kernel)
theorem ins_9 : Cond.instantiable RX9 10 ∈ lw_w := lw_w_in (l := lw_tbl) 97 rfl (by decide +kernel) (by decide +kernel)
theorem ini_9 : Cond.initialized RX9 ∈ lw_w := lw_w_in (l := lw_tbl) 76 rfl (by decide +kernel) (by decide +kernel)
abbrev tgs_9 : List Nat := [2, 2, 2, 2, 2, 2, 2, 2, 2, 2]
theorem dfs_9 : ∀ j, j < 10 → defaultValue (tyX9 j) = vp_V (tgs_9.map dfl) j := by decide +kernel
theorem miX9_init : MI yX9_init cX9_init 2 none 0 := ⟨lw_w_in (l := lw_tbl) 100 rfl (by decide +kernel) (by decide +kernel), lw_w_in (l := lw_tbl) 76 rfl (by decide +kernel) (by decide +kernel), by decide +kernel, by decide +kernel, by decide +kernel⟩
theorem moX9_init : Cond.instanceMethod yX9_init ∈ lw_w := lw_w_in (l := lw_tbl) 99 rfl (by decide +kernel) (by decide +kernel)
theorem mlRL_9 : ML RL 9 yX9_init := Or.inl (lw_w_in (l := lw_tbl) 98 rfl (by decide +kernel) (by decide +kernel))
theorem loRX9_1 : Cond.methodLink RX9 1 Lib.objectInit ∈ lw_w := lw_w_in (l := lw_tbl) 101 rfl (by decide +kernel) (by decide +kernel)
theorem lo_1 : Cond.instanceMethod Lib.objectInit ∈ lw_w := lw_w_in (l := lw_tbl) 102 rfl (by decide +kernel) (by decide +kernel)
theorem lo_2 : Cond.code Lib.objectInit ⟨#[0xb1]⟩ 1 none ∈ lw_w := lw_w_in (l := lw_tbl) 103 rfl (by decide +kernel) (by decide +kernel)
theorem lcRX9_7 : Cond.classLink RX9 7 RX2 ∈ lw_w := lw_w_in (l := lw_tbl) 104 rfl (by decide +kernel) (by decide +kernel)
theorem ins_2 : Cond.instantiable RX2 4 ∈ lw_w := lw_w_in (l := lw_tbl) 105 rfl (by decide +kernel) (by decide +kernel)
theorem ini_2 : Cond.initialized RX2 ∈ lw_w := lw_w_in (l := lw_tbl) 77 rfl (by decide +kernel) (by decide +kernel)
abbrev tgs_2 : List Nat := [2, 2, 0, 0]
theorem dfs_2 : ∀ j, j < 4 → defaultValue (tyX2 j) = vp_V (tgs_2.map dfl) j := by decide +kernel
theorem miX2_init : MI yX2_init cX2_init 1 none 0 := ⟨lw_w_in (l := lw_tbl) 108 rfl (by decide +kernel) (by decide +kernel), lw_w_in (l := lw_tbl) 77 rfl (by decide +kernel) (by decide +kernel), by decide +kernel, by decide +kernel, by decide +kernel⟩
theorem moX2_init : Cond.instanceMethod yX2_init ∈ lw_w := lw_w_in (l := lw_tbl) 107 rfl (by decide +kernel) (by decide +kernel)
theorem mlRX9_9 : ML RX9 9 yX2_init := Or.inr ⟨"MissedSale", List.mem_of_getElem? (i := 106) (by decide +kernel)⟩
theorem loRX2_3 : Cond.methodLink RX2 3 Lib.objectInit ∈ lw_w := lw_w_in (l := lw_tbl) 109 rfl (by decide +kernel) (by decide +kernel)
theorem arc_i : Cond.arrayClass .int ∈ lw_w := lw_w_in (l := lw_tbl) 132 rfl (by decide +kernel) (by decide +kernel)
theorem liRX2_11 : FI RX2 11 2 0 := ⟨RX2, TX2, 4, rfl, by decide, iwX2, lw_w_in (l := lw_tbl) 110 rfl (by decide +kernel) (by decide +kernel)⟩
theorem ff_2_0 : FF RX2 2 0 (.array .int) := ⟨RX2, TX2, 4, tyX2, rfl, tyX2_ok, nmX2, by decide, by decide +kernel, by decide +kernel, fun _ => ⟨rfl, rfl⟩⟩
theorem liRX2_15 : FI RX2 15 2 1 := ⟨RX2, TX2, 4, rfl, by decide, iwX2, lw_w_in (l := lw_tbl) 111 rfl (by decide +kernel) (by decide +kernel)⟩
theorem ff_2_1 : FF RX2 2 1 (.array .int) := ⟨RX2, TX2, 4, tyX2, rfl, tyX2_ok, nmX2, by decide, by decide +kernel, by decide +kernel, fun _ => ⟨rfl, rfl⟩⟩
theorem liRX9_10 : FI RX9 10 9 0 := ⟨RX9, TX9, 10, rfl, by decide, iwX9, lw_w_in (l := lw_tbl) 364 rfl (by decide +kernel) (by decide +kernel)⟩
theorem ff_9_0 : FF RX9 9 0 (.object RX2) := ⟨RX9, TX9, 10, tyX9, rfl, tyX9_ok, nmX9, by decide, by decide +kernel, by decide +kernel, fun _ => ⟨rfl, rfl⟩⟩
theorem lcRX9_16 : Cond.classLink RX9 16 RX4 ∈ lw_w := lw_w_in (l := lw_tbl) 133 rfl (by decide +kernel) (by decide +kernel)
theorem ins_4 : Cond.instantiable RX4 10 ∈ lw_w := lw_w_in (l := lw_tbl) 134 rfl (by decide +kernel) (by decide +kernel)
theorem ini_4 : Cond.initialized RX4 ∈ lw_w := lw_w_in (l := lw_tbl) 78 rfl (by decide +kernel) (by decide +kernel)
abbrev tgs_4 : List Nat := [2, 2, 2, 2, 2, 0, 0, 0, 0, 3]
theorem dfs_4 : ∀ j, j < 10 → defaultValue (tyX4 j) = vp_V (tgs_4.map dfl) j := by decide +kernel
theorem miX4_init : MI yX4_init cX4_init 1 none 0 := ⟨lw_w_in (l := lw_tbl) 137 rfl (by decide +kernel) (by decide +kernel), lw_w_in (l := lw_tbl) 78 rfl (by decide +kernel) (by decide +kernel), by decide +kernel, by decide +kernel, by decide +kernel⟩
theorem moX4_init : Cond.instanceMethod yX4_init ∈ lw_w := lw_w_in (l := lw_tbl) 136 rfl (by decide +kernel) (by decide +kernel)
theorem mlRX9_18 : ML RX9 18 yX4_init := Or.inr ⟨"MissedSale", List.mem_of_getElem? (i := 135) (by decide +kernel)⟩
theorem loRX4_1 : Cond.methodLink RX4 1 Lib.objectInit ∈ lw_w := lw_w_in (l := lw_tbl) 138 rfl (by decide +kernel) (by decide +kernel)
theorem liRX4_9 : FI RX4 9 4 0 := ⟨RX4, TX4, 10, rfl, by decide, iwX4, lw_w_in (l := lw_tbl) 139 rfl (by decide +kernel) (by decide +kernel)⟩
theorem ff_4_0 : FF RX4 4 0 (.array .int) := ⟨RX4, TX4, 10, tyX4, rfl, tyX4_ok, nmX4, by decide, by decide +kernel, by decide +kernel, fun _ => ⟨rfl, rfl⟩⟩
theorem liRX4_13 : FI RX4 13 4 1 := ⟨RX4, TX4, 10, rfl, by decide, iwX4, lw_w_in (l := lw_tbl) 140 rfl (by decide +kernel) (by decide +kernel)⟩
theorem ff_4_1 : FF RX4 4 1 (.array .int) := ⟨RX4, TX4, 10, tyX4, rfl, tyX4_ok, nmX4, by decide, by decide +kernel, by decide +kernel, fun _ => ⟨rfl, rfl⟩⟩
theorem liRX4_16 : FI RX4 16 4 2 := ⟨RX4, TX4, 10, rfl, by decide, iwX4, lw_w_in (l := lw_tbl) 141 rfl (by decide +kernel) (by decide +kernel)⟩
theorem ff_4_2 : FF RX4 4 2 (.array .int) := ⟨RX4, TX4, 10, tyX4, rfl, tyX4_ok, nmX4, by decide, by decide +kernel, by decide +kernel, fun _ => ⟨rfl, rfl⟩⟩
theorem sp_128 : ok32 128 ∧ (Int16.ofInt 128).toInt32 = Int32.ofInt 128 := ⟨⟨by decide, by decide⟩, by decide +kernel⟩
theorem liRX4_19 : FI RX4 19 4 3 := ⟨RX4, TX4, 10, rfl, by decide, iwX4, lw_w_in (l := lw_tbl) 142 rfl (by decide +kernel) (by decide +kernel)⟩
theorem liRX4_22 : FI RX4 22 4 4 := ⟨RX4, TX4, 10, rfl, by decide, iwX4, lw_w_in (l := lw_tbl) 143 rfl (by decide +kernel) (by decide +kernel)⟩
theorem liRX9_19 : FI RX9 19 9 1 := ⟨RX9, TX9, 10, rfl, by decide, iwX9, lw_w_in (l := lw_tbl) 365 rfl (by decide +kernel) (by decide +kernel)⟩
theorem ff_9_1 : FF RX9 9 1 (.object RX4) := ⟨RX9, TX9, 10, tyX9, rfl, tyX9_ok, nmX9, by decide, by decide +kernel, by decide +kernel, fun _ => ⟨rfl, rfl⟩⟩
theorem lcRX9_23 : Cond.classLink RX9 23 RX7 ∈ lw_w := lw_w_in (l := lw_tbl) 171 rfl (by decide +kernel) (by decide +kernel)
theorem ins_7 : Cond.instantiable RX7 12 ∈ lw_w := lw_w_in (l := lw_tbl) 172 rfl (by decide +kernel) (by decide +kernel)
theorem ini_7 : Cond.initialized RX7 ∈ lw_w := lw_w_in (l := lw_tbl) 79 rfl (by decide +kernel) (by decide +kernel)
abbrev tgs_7 : List Nat := [2, 2, 2, 2, 2, 2, 2, 0, 0, 0, 0, 0]
theorem dfs_7 : ∀ j, j < 12 → defaultValue (tyX7 j) = vp_V (tgs_7.map dfl) j := by decide +kernel
theorem miX7_init : MI yX7_init cX7_init 2 none 1 := ⟨lw_w_in (l := lw_tbl) 175 rfl (by decide +kernel) (by decide +kernel), lw_w_in (l := lw_tbl) 79 rfl (by decide +kernel) (by decide +kernel), by decide +kernel, by decide +kernel, by decide +kernel⟩
theorem moX7_init : Cond.instanceMethod yX7_init ∈ lw_w := lw_w_in (l := lw_tbl) 174 rfl (by decide +kernel) (by decide +kernel)
theorem mlRX9_25 : ML RX9 25 yX7_init := Or.inl (lw_w_in (l := lw_tbl) 173 rfl (by decide +kernel) (by decide +kernel))
theorem loRX7_3 : Cond.methodLink RX7 3 Lib.objectInit ∈ lw_w := lw_w_in (l := lw_tbl) 176 rfl (by decide +kernel) (by decide +kernel)
theorem lcRX7_9 : Cond.classLink RX7 9 RX2 ∈ lw_w := lw_w_in (l := lw_tbl) 177 rfl (by decide +kernel) (by decide +kernel)
theorem mlRX7_11 : ML RX7 11 yX2_init := Or.inr ⟨"MissedSale", List.mem_of_getElem? (i := 178) (by decide +kernel)⟩
theorem liRX7_12 : FI RX7 12 7 0 := ⟨RX7, TX7, 12, rfl, by decide, iwX7, lw_w_in (l := lw_tbl) 179 rfl (by decide +kernel) (by decide +kernel)⟩
theorem ff_7_0 : FF RX7 7 0 (.object RX2) := ⟨RX7, TX7, 12, tyX7, rfl, tyX7_ok, nmX7, by decide, by decide +kernel, by decide +kernel, fun _ => ⟨rfl, rfl⟩⟩
theorem liRX7_18 : FI RX7 18 7 2 := ⟨RX7, TX7, 12, rfl, by decide, iwX7, lw_w_in (l := lw_tbl) 184 rfl (by decide +kernel) (by decide +kernel)⟩
theorem ff_7_2 : FF RX7 7 2 (.array .int) := ⟨RX7, TX7, 12, tyX7, rfl, tyX7_ok, nmX7, by decide, by decide +kernel, by decide +kernel, fun _ => ⟨rfl, rfl⟩⟩
theorem liRX7_22 : FI RX7 22 7 3 := ⟨RX7, TX7, 12, rfl, by decide, iwX7, lw_w_in (l := lw_tbl) 188 rfl (by decide +kernel) (by decide +kernel)⟩
theorem ff_7_3 : FF RX7 7 3 (.array .int) := ⟨RX7, TX7, 12, tyX7, rfl, tyX7_ok, nmX7, by decide, by decide +kernel, by decide +kernel, fun _ => ⟨rfl, rfl⟩⟩
theorem sp_252 : ok32 252 ∧ (Int16.ofInt 252).toInt32 = Int32.ofInt 252 := ⟨⟨by decide, by decide⟩, by decide +kernel⟩
theorem liRX7_25 : FI RX7 25 7 4 := ⟨RX7, TX7, 12, rfl, by decide, iwX7, lw_w_in (l := lw_tbl) 189 rfl (by decide +kernel) (by decide +kernel)⟩
theorem ff_7_4 : FF RX7 7 4 (.array .int) := ⟨RX7, TX7, 12, tyX7, rfl, tyX7_ok, nmX7, by decide, by decide +kernel, by decide +kernel, fun _ => ⟨rfl, rfl⟩⟩
theorem liRX7_28 : FI RX7 28 7 5 := ⟨RX7, TX7, 12, rfl, by decide, iwX7, lw_w_in (l := lw_tbl) 190 rfl (by decide +kernel) (by decide +kernel)⟩
theorem ff_7_5 : FF RX7 7 5 (.array .int) := ⟨RX7, TX7, 12, tyX7, rfl, tyX7_ok, nmX7, by decide, by decide +kernel, by decide +kernel, fun _ => ⟨rfl, rfl⟩⟩
theorem liRX7_31 : FI RX7 31 7 6 := ⟨RX7, TX7, 12, rfl, by decide, iwX7, lw_w_in (l := lw_tbl) 192 rfl (by decide +kernel) (by decide +kernel)⟩
theorem ff_7_6 : FF RX7 7 6 (.array .int) := ⟨RX7, TX7, 12, tyX7, rfl, tyX7_ok, nmX7, by decide, by decide +kernel, by decide +kernel, fun _ => ⟨rfl, rfl⟩⟩
theorem liRX7_34 : FI RX7 34 7 1 := ⟨RX7, TX7, 12, rfl, by decide, iwX7, lw_w_in (l := lw_tbl) 183 rfl (by decide +kernel) (by decide +kernel)⟩
theorem ff_7_1 : FF RX7 7 1 (.object RX4) := ⟨RX7, TX7, 12, tyX7, rfl, tyX7_ok, nmX7, by decide, by decide +kernel, by decide +kernel, fun _ => ⟨rfl, rfl⟩⟩
theorem liRX9_28 : FI RX9 28 9 2 := ⟨RX9, TX9, 10, rfl, by decide, iwX9, lw_w_in (l := lw_tbl) 366 rfl (by decide +kernel) (by decide +kernel)⟩
theorem ff_9_2 : FF RX9 9 2 (.object RX7) := ⟨RX9, TX9, 10, tyX9, rfl, tyX9_ok, nmX9, by decide, by decide +kernel, by decide +kernel, fun _ => ⟨rfl, rfl⟩⟩
theorem lcRX9_32 : Cond.classLink RX9 32 RX8 ∈ lw_w := lw_w_in (l := lw_tbl) 231 rfl (by decide +kernel) (by decide +kernel)
theorem ins_8 : Cond.instantiable RX8 6 ∈ lw_w := lw_w_in (l := lw_tbl) 232 rfl (by decide +kernel) (by decide +kernel)
theorem ini_8 : Cond.initialized RX8 ∈ lw_w := lw_w_in (l := lw_tbl) 80 rfl (by decide +kernel) (by decide +kernel)
abbrev tgs_8 : List Nat := [2, 2, 2, 0, 0, 0]
theorem dfs_8 : ∀ j, j < 6 → defaultValue (tyX8 j) = vp_V (tgs_8.map dfl) j := by decide +kernel
theorem miX8_init : MI yX8_init cX8_init 2 none 1 := ⟨lw_w_in (l := lw_tbl) 235 rfl (by decide +kernel) (by decide +kernel), lw_w_in (l := lw_tbl) 80 rfl (by decide +kernel) (by decide +kernel), by decide +kernel, by decide +kernel, by decide +kernel⟩
theorem moX8_init : Cond.instanceMethod yX8_init ∈ lw_w := lw_w_in (l := lw_tbl) 234 rfl (by decide +kernel) (by decide +kernel)
theorem mlRX9_34 : ML RX9 34 yX8_init := Or.inl (lw_w_in (l := lw_tbl) 233 rfl (by decide +kernel) (by decide +kernel))
theorem loRX8_3 : Cond.methodLink RX8 3 Lib.objectInit ∈ lw_w := lw_w_in (l := lw_tbl) 236 rfl (by decide +kernel) (by decide +kernel)
theorem liRX8_11 : FI RX8 11 8 1 := ⟨RX8, TX8, 6, rfl, by decide, iwX8, lw_w_in (l := lw_tbl) 238 rfl (by decide +kernel) (by decide +kernel)⟩
theorem ff_8_1 : FF RX8 8 1 (.array .int) := ⟨RX8, TX8, 6, tyX8, rfl, tyX8_ok, nmX8, by decide, by decide +kernel, by decide +kernel, fun _ => ⟨rfl, rfl⟩⟩
theorem liRX8_15 : FI RX8 15 8 2 := ⟨RX8, TX8, 6, rfl, by decide, iwX8, lw_w_in (l := lw_tbl) 239 rfl (by decide +kernel) (by decide +kernel)⟩
theorem ff_8_2 : FF RX8 8 2 (.array .int) := ⟨RX8, TX8, 6, tyX8, rfl, tyX8_ok, nmX8, by decide, by decide +kernel, by decide +kernel, fun _ => ⟨rfl, rfl⟩⟩
theorem liRX8_18 : FI RX8 18 8 0 := ⟨RX8, TX8, 6, rfl, by decide, iwX8, lw_w_in (l := lw_tbl) 237 rfl (by decide +kernel) (by decide +kernel)⟩
theorem ff_8_0 : FF RX8 8 0 (.object RX7) := ⟨RX8, TX8, 6, tyX8, rfl, tyX8_ok, nmX8, by decide, by decide +kernel, by decide +kernel, fun _ => ⟨rfl, rfl⟩⟩
theorem liRX9_37 : FI RX9 37 9 3 := ⟨RX9, TX9, 10, rfl, by decide, iwX9, lw_w_in (l := lw_tbl) 367 rfl (by decide +kernel) (by decide +kernel)⟩
theorem ff_9_3 : FF RX9 9 3 (.object RX8) := ⟨RX9, TX9, 10, tyX9, rfl, tyX9_ok, nmX9, by decide, by decide +kernel, by decide +kernel, fun _ => ⟨rfl, rfl⟩⟩
theorem lcRX9_41 : Cond.classLink RX9 41 RX1 ∈ lw_w := lw_w_in (l := lw_tbl) 258 rfl (by decide +kernel) (by decide +kernel)
theorem ins_1 : Cond.instantiable RX1 3 ∈ lw_w := lw_w_in (l := lw_tbl) 259 rfl (by decide +kernel) (by decide +kernel)
theorem ini_1 : Cond.initialized RX1 ∈ lw_w := lw_w_in (l := lw_tbl) 81 rfl (by decide +kernel) (by decide +kernel)
abbrev tgs_1 : List Nat := [2, 2, 1]
theorem dfs_1 : ∀ j, j < 3 → defaultValue (tyX1 j) = vp_V (tgs_1.map dfl) j := by decide +kernel
theorem miX1_init : MI yX1_init cX1_init 1 none 0 := ⟨lw_w_in (l := lw_tbl) 262 rfl (by decide +kernel) (by decide +kernel), lw_w_in (l := lw_tbl) 81 rfl (by decide +kernel) (by decide +kernel), by decide +kernel, by decide +kernel, by decide +kernel⟩
theorem moX1_init : Cond.instanceMethod yX1_init ∈ lw_w := lw_w_in (l := lw_tbl) 261 rfl (by decide +kernel) (by decide +kernel)
theorem mlRX9_43 : ML RX9 43 yX1_init := Or.inr ⟨"MissedSale", List.mem_of_getElem? (i := 260) (by decide +kernel)⟩
theorem loRX1_3 : Cond.methodLink RX1 3 Lib.objectInit ∈ lw_w := lw_w_in (l := lw_tbl) 263 rfl (by decide +kernel) (by decide +kernel)
theorem sp_256 : ok32 256 ∧ (Int16.ofInt 256).toInt32 = Int32.ofInt 256 := ⟨⟨by decide, by decide⟩, by decide +kernel⟩
theorem arc_l : Cond.arrayClass .long ∈ lw_w := lw_w_in (l := lw_tbl) 274 rfl (by decide +kernel) (by decide +kernel)
theorem liRX1_9 : FI RX1 9 1 0 := ⟨RX1, TX1, 3, rfl, by decide, iwX1, lw_w_in (l := lw_tbl) 264 rfl (by decide +kernel) (by decide +kernel)⟩
theorem ff_1_0 : FF RX1 1 0 (.array .long) := ⟨RX1, TX1, 3, tyX1, rfl, tyX1_ok, nmX1, by decide, by decide +kernel, by decide +kernel, fun _ => ⟨rfl, rfl⟩⟩
theorem liRX1_15 : FI RX1 15 1 1 := ⟨RX1, TX1, 3, rfl, by decide, iwX1, lw_w_in (l := lw_tbl) 265 rfl (by decide +kernel) (by decide +kernel)⟩
theorem ff_1_1 : FF RX1 1 1 (.array .long) := ⟨RX1, TX1, 3, tyX1, rfl, tyX1_ok, nmX1, by decide, by decide +kernel, by decide +kernel, fun _ => ⟨rfl, rfl⟩⟩
theorem liRX9_44 : FI RX9 44 9 4 := ⟨RX9, TX9, 10, rfl, by decide, iwX9, lw_w_in (l := lw_tbl) 368 rfl (by decide +kernel) (by decide +kernel)⟩
theorem ff_9_4 : FF RX9 9 4 (.object RX1) := ⟨RX9, TX9, 10, tyX9, rfl, tyX9_ok, nmX9, by decide, by decide +kernel, by decide +kernel, fun _ => ⟨rfl, rfl⟩⟩
theorem lcRX9_48 : Cond.classLink RX9 48 RX0 ∈ lw_w := lw_w_in (l := lw_tbl) 275 rfl (by decide +kernel) (by decide +kernel)
theorem ins_0 : Cond.instantiable RX0 3 ∈ lw_w := lw_w_in (l := lw_tbl) 276 rfl (by decide +kernel) (by decide +kernel)
theorem ini_0 : Cond.initialized RX0 ∈ lw_w := lw_w_in (l := lw_tbl) 82 rfl (by decide +kernel) (by decide +kernel)
abbrev tgs_0 : List Nat := [2, 0, 0]
theorem dfs_0 : ∀ j, j < 3 → defaultValue (tyX0 j) = vp_V (tgs_0.map dfl) j := by decide +kernel
theorem miX0_init : MI yX0_init cX0_init 1 none 0 := ⟨lw_w_in (l := lw_tbl) 279 rfl (by decide +kernel) (by decide +kernel), lw_w_in (l := lw_tbl) 82 rfl (by decide +kernel) (by decide +kernel), by decide +kernel, by decide +kernel, by decide +kernel⟩
theorem moX0_init : Cond.instanceMethod yX0_init ∈ lw_w := lw_w_in (l := lw_tbl) 278 rfl (by decide +kernel) (by decide +kernel)
theorem mlRX9_50 : ML RX9 50 yX0_init := Or.inr ⟨"MissedSale", List.mem_of_getElem? (i := 277) (by decide +kernel)⟩
theorem loRX0_1 : Cond.methodLink RX0 1 Lib.objectInit ∈ lw_w := lw_w_in (l := lw_tbl) 280 rfl (by decide +kernel) (by decide +kernel)
theorem sp_160 : ok32 160 ∧ (Int16.ofInt 160).toInt32 = Int32.ofInt 160 := ⟨⟨by decide, by decide⟩, by decide +kernel⟩
theorem liRX0_9 : FI RX0 9 0 0 := ⟨RX0, TX0, 3, rfl, by decide, iwX0, lw_w_in (l := lw_tbl) 281 rfl (by decide +kernel) (by decide +kernel)⟩
theorem ff_0_0 : FF RX0 0 0 (.array .int) := ⟨RX0, TX0, 3, tyX0, rfl, tyX0_ok, nmX0, by decide, by decide +kernel, by decide +kernel, fun _ => ⟨rfl, rfl⟩⟩
theorem liRX9_51 : FI RX9 51 9 5 := ⟨RX9, TX9, 10, rfl, by decide, iwX9, lw_w_in (l := lw_tbl) 369 rfl (by decide +kernel) (by decide +kernel)⟩
theorem ff_9_5 : FF RX9 9 5 (.object RX0) := ⟨RX9, TX9, 10, tyX9, rfl, tyX9_ok, nmX9, by decide, by decide +kernel, by decide +kernel, fun _ => ⟨rfl, rfl⟩⟩
theorem lcRX9_55 : Cond.classLink RX9 55 RX3 ∈ lw_w := lw_w_in (l := lw_tbl) 293 rfl (by decide +kernel) (by decide +kernel)
theorem ins_3 : Cond.instantiable RX3 3 ∈ lw_w := lw_w_in (l := lw_tbl) 294 rfl (by decide +kernel) (by decide +kernel)
theorem ini_3 : Cond.initialized RX3 ∈ lw_w := lw_w_in (l := lw_tbl) 83 rfl (by decide +kernel) (by decide +kernel)
abbrev tgs_3 : List Nat := [2, 2, 3]
theorem dfs_3 : ∀ j, j < 3 → defaultValue (tyX3 j) = vp_V (tgs_3.map dfl) j := by decide +kernel
theorem miX3_init : MI yX3_init cX3_init 1 none 0 := ⟨lw_w_in (l := lw_tbl) 297 rfl (by decide +kernel) (by decide +kernel), lw_w_in (l := lw_tbl) 83 rfl (by decide +kernel) (by decide +kernel), by decide +kernel, by decide +kernel, by decide +kernel⟩
theorem moX3_init : Cond.instanceMethod yX3_init ∈ lw_w := lw_w_in (l := lw_tbl) 296 rfl (by decide +kernel) (by decide +kernel)
theorem mlRX9_57 : ML RX9 57 yX3_init := Or.inr ⟨"MissedSale", List.mem_of_getElem? (i := 295) (by decide +kernel)⟩
theorem loRX3_3 : Cond.methodLink RX3 3 Lib.objectInit ∈ lw_w := lw_w_in (l := lw_tbl) 298 rfl (by decide +kernel) (by decide +kernel)
theorem lcRX3_9 : Cond.classLink RX3 9 RX2 ∈ lw_w := lw_w_in (l := lw_tbl) 299 rfl (by decide +kernel) (by decide +kernel)
theorem mlRX3_11 : ML RX3 11 yX2_init := Or.inr ⟨"MissedSale", List.mem_of_getElem? (i := 300) (by decide +kernel)⟩
theorem liRX3_12 : FI RX3 12 3 0 := ⟨RX3, TX3, 3, rfl, by decide, iwX3, lw_w_in (l := lw_tbl) 301 rfl (by decide +kernel) (by decide +kernel)⟩
theorem ff_3_0 : FF RX3 3 0 (.object RX2) := ⟨RX3, TX3, 3, tyX3, rfl, tyX3_ok, nmX3, by decide, by decide +kernel, by decide +kernel, fun _ => ⟨rfl, rfl⟩⟩
theorem liRX3_18 : FI RX3 18 3 1 := ⟨RX3, TX3, 3, rfl, by decide, iwX3, lw_w_in (l := lw_tbl) 302 rfl (by decide +kernel) (by decide +kernel)⟩
theorem ff_3_1 : FF RX3 3 1 (.array .int) := ⟨RX3, TX3, 3, tyX3, rfl, tyX3_ok, nmX3, by decide, by decide +kernel, by decide +kernel, fun _ => ⟨rfl, rfl⟩⟩
theorem liRX9_58 : FI RX9 58 9 6 := ⟨RX9, TX9, 10, rfl, by decide, iwX9, lw_w_in (l := lw_tbl) 370 rfl (by decide +kernel) (by decide +kernel)⟩
theorem ff_9_6 : FF RX9 9 6 (.object RX3) := ⟨RX9, TX9, 10, tyX9, rfl, tyX9_ok, nmX9, by decide, by decide +kernel, by decide +kernel, fun _ => ⟨rfl, rfl⟩⟩
theorem lcRX9_62 : Cond.classLink RX9 62 RX5 ∈ lw_w := lw_w_in (l := lw_tbl) 312 rfl (by decide +kernel) (by decide +kernel)
theorem ins_5 : Cond.instantiable RX5 5 ∈ lw_w := lw_w_in (l := lw_tbl) 313 rfl (by decide +kernel) (by decide +kernel)
theorem ini_5 : Cond.initialized RX5 ∈ lw_w := lw_w_in (l := lw_tbl) 84 rfl (by decide +kernel) (by decide +kernel)
abbrev tgs_5 : List Nat := [2, 2, 0, 0, 0]
theorem dfs_5 : ∀ j, j < 5 → defaultValue (tyX5 j) = vp_V (tgs_5.map dfl) j := by decide +kernel
theorem miX5_init : MI yX5_init cX5_init 1 none 0 := ⟨lw_w_in (l := lw_tbl) 316 rfl (by decide +kernel) (by decide +kernel), lw_w_in (l := lw_tbl) 84 rfl (by decide +kernel) (by decide +kernel), by decide +kernel, by decide +kernel, by decide +kernel⟩
theorem moX5_init : Cond.instanceMethod yX5_init ∈ lw_w := lw_w_in (l := lw_tbl) 315 rfl (by decide +kernel) (by decide +kernel)
theorem mlRX9_64 : ML RX9 64 yX5_init := Or.inr ⟨"MissedSale", List.mem_of_getElem? (i := 314) (by decide +kernel)⟩
theorem loRX5_3 : Cond.methodLink RX5 3 Lib.objectInit ∈ lw_w := lw_w_in (l := lw_tbl) 317 rfl (by decide +kernel) (by decide +kernel)
theorem liRX5_11 : FI RX5 11 5 0 := ⟨RX5, TX5, 5, rfl, by decide, iwX5, lw_w_in (l := lw_tbl) 318 rfl (by decide +kernel) (by decide +kernel)⟩
theorem ff_5_0 : FF RX5 5 0 (.array .int) := ⟨RX5, TX5, 5, tyX5, rfl, tyX5_ok, nmX5, by decide, by decide +kernel, by decide +kernel, fun _ => ⟨rfl, rfl⟩⟩
theorem liRX5_15 : FI RX5 15 5 1 := ⟨RX5, TX5, 5, rfl, by decide, iwX5, lw_w_in (l := lw_tbl) 319 rfl (by decide +kernel) (by decide +kernel)⟩
theorem ff_5_1 : FF RX5 5 1 (.array .int) := ⟨RX5, TX5, 5, tyX5, rfl, tyX5_ok, nmX5, by decide, by decide +kernel, by decide +kernel, fun _ => ⟨rfl, rfl⟩⟩
theorem liRX9_65 : FI RX9 65 9 7 := ⟨RX9, TX9, 10, rfl, by decide, iwX9, lw_w_in (l := lw_tbl) 371 rfl (by decide +kernel) (by decide +kernel)⟩
theorem ff_9_7 : FF RX9 9 7 (.object RX5) := ⟨RX9, TX9, 10, tyX9, rfl, tyX9_ok, nmX9, by decide, by decide +kernel, by decide +kernel, fun _ => ⟨rfl, rfl⟩⟩
theorem liRX9_69 : FI RX9 69 9 9 := ⟨RX9, TX9, 10, rfl, by decide, iwX9, lw_w_in (l := lw_tbl) 373 rfl (by decide +kernel) (by decide +kernel)⟩
theorem ff_9_9 : FF RX9 9 9 (.array .int) := ⟨RX9, TX9, 10, tyX9, rfl, tyX9_ok, nmX9, by decide, by decide +kernel, by decide +kernel, fun _ => ⟨rfl, rfl⟩⟩
theorem lcRX9_73 : Cond.classLink RX9 73 RX6 ∈ lw_w := lw_w_in (l := lw_tbl) 336 rfl (by decide +kernel) (by decide +kernel)
theorem liRX9_75 : FI RX9 75 9 8 := ⟨RX9, TX9, 10, rfl, by decide, iwX9, lw_w_in (l := lw_tbl) 372 rfl (by decide +kernel) (by decide +kernel)⟩
theorem ff_9_8 : FF RX9 9 8 (.array (.object RX6)) := ⟨RX9, TX9, 10, tyX9, rfl, tyX9_ok, nmX9, by decide, by decide +kernel, by decide +kernel, fun _ => ⟨rfl, rfl⟩⟩
theorem ins_6 : Cond.instantiable RX6 5 ∈ lw_w := lw_w_in (l := lw_tbl) 338 rfl (by decide +kernel) (by decide +kernel)
theorem ini_6 : Cond.initialized RX6 ∈ lw_w := lw_w_in (l := lw_tbl) 85 rfl (by decide +kernel) (by decide +kernel)
abbrev tgs_6 : List Nat := [2, 0, 0, 0, 0]
theorem dfs_6 : ∀ j, j < 5 → defaultValue (tyX6 j) = vp_V (tgs_6.map dfl) j := by decide +kernel
theorem miX6_init : MI yX6_init cX6_init 1 none 0 := ⟨lw_w_in (l := lw_tbl) 341 rfl (by decide +kernel) (by decide +kernel), lw_w_in (l := lw_tbl) 85 rfl (by decide +kernel) (by decide +kernel), by decide +kernel, by decide +kernel, by decide +kernel⟩
theorem moX6_init : Cond.instanceMethod yX6_init ∈ lw_w := lw_w_in (l := lw_tbl) 340 rfl (by decide +kernel) (by decide +kernel)
theorem mlRX9_79 : ML RX9 79 yX6_init := Or.inr ⟨"MissedSale", List.mem_of_getElem? (i := 339) (by decide +kernel)⟩
theorem loRX6_3 : Cond.methodLink RX6 3 Lib.objectInit ∈ lw_w := lw_w_in (l := lw_tbl) 342 rfl (by decide +kernel) (by decide +kernel)
theorem liRX6_9 : FI RX6 9 6 0 := ⟨RX6, TX6, 5, rfl, by decide, iwX6, lw_w_in (l := lw_tbl) 343 rfl (by decide +kernel) (by decide +kernel)⟩
theorem ff_6_0 : FF RX6 6 0 (.array .long) := ⟨RX6, TX6, 5, tyX6, rfl, tyX6_ok, nmX6, by decide, by decide +kernel, by decide +kernel, fun _ => ⟨rfl, rfl⟩⟩
theorem lcRL_10 : Cond.classLink RL 10 RX10 ∈ lw_w := lw_w_in (l := lw_tbl) 1051 rfl (by decide +kernel) (by decide +kernel)
theorem ins_10 : Cond.instantiable RX10 45 ∈ lw_w := lw_w_in (l := lw_tbl) 1052 rfl (by decide +kernel) (by decide +kernel)
theorem ini_10 : Cond.initialized RX10 ∈ lw_w := lw_w_in (l := lw_tbl) 86 rfl (by decide +kernel) (by decide +kernel)
abbrev tgs_10 : List Nat := [0, 2, 2, 2, 2, 0, 2, 0, 2, 3, 0, 2, 2, 2, 2, 0, 0, 0, 0, 2, 2, 2, 2, 2, 2, 2, 3, 0, 0, 2, 2, 0, 0, 2, 0, 2, 0, 2, 2, 2, 2, 2, 2, 2, 0]
theorem dfs_10 : ∀ j, j < 45 → defaultValue (tyX10 j) = vp_V (tgs_10.map dfl) j := by decide +kernel
theorem miX10_init : MI yX10_init cX10_init 2 none 0 := ⟨lw_w_in (l := lw_tbl) 1055 rfl (by decide +kernel) (by decide +kernel), lw_w_in (l := lw_tbl) 86 rfl (by decide +kernel) (by decide +kernel), by decide +kernel, by decide +kernel, by decide +kernel⟩
theorem moX10_init : Cond.instanceMethod yX10_init ∈ lw_w := lw_w_in (l := lw_tbl) 1054 rfl (by decide +kernel) (by decide +kernel)
theorem mlRL_12 : ML RL 12 yX10_init := Or.inl (lw_w_in (l := lw_tbl) 1053 rfl (by decide +kernel) (by decide +kernel))
theorem loRX10_3 : Cond.methodLink RX10 3 Lib.objectInit ∈ lw_w := lw_w_in (l := lw_tbl) 1056 rfl (by decide +kernel) (by decide +kernel)
theorem liRX10_9 : FI RX10 9 10 1 := ⟨RX10, TX10, 45, rfl, by decide, iwX10, lw_w_in (l := lw_tbl) 1058 rfl (by decide +kernel) (by decide +kernel)⟩
theorem ff_10_1 : FF RX10 10 1 (.array .int) := ⟨RX10, TX10, 45, tyX10, rfl, tyX10_ok, nmX10, by decide, by decide +kernel, by decide +kernel, fun _ => ⟨rfl, rfl⟩⟩
theorem liRX10_15 : FI RX10 15 10 2 := ⟨RX10, TX10, 45, rfl, by decide, iwX10, lw_w_in (l := lw_tbl) 1059 rfl (by decide +kernel) (by decide +kernel)⟩
theorem ff_10_2 : FF RX10 10 2 (.array .int) := ⟨RX10, TX10, 45, tyX10, rfl, tyX10_ok, nmX10, by decide, by decide +kernel, by decide +kernel, fun _ => ⟨rfl, rfl⟩⟩
theorem liRX10_18 : FI RX10 18 10 3 := ⟨RX10, TX10, 45, rfl, by decide, iwX10, lw_w_in (l := lw_tbl) 1060 rfl (by decide +kernel) (by decide +kernel)⟩
theorem ff_10_3 : FF RX10 10 3 (.array .int) := ⟨RX10, TX10, 45, tyX10, rfl, tyX10_ok, nmX10, by decide, by decide +kernel, by decide +kernel, fun _ => ⟨rfl, rfl⟩⟩
theorem liRX10_21 : FI RX10 21 10 4 := ⟨RX10, TX10, 45, rfl, by decide, iwX10, lw_w_in (l := lw_tbl) 1061 rfl (by decide +kernel) (by decide +kernel)⟩
theorem ff_10_4 : FF RX10 10 4 (.array .int) := ⟨RX10, TX10, 45, tyX10, rfl, tyX10_ok, nmX10, by decide, by decide +kernel, by decide +kernel, fun _ => ⟨rfl, rfl⟩⟩
theorem liRX10_24 : FI RX10 24 10 6 := ⟨RX10, TX10, 45, rfl, by decide, iwX10, lw_w_in (l := lw_tbl) 1063 rfl (by decide +kernel) (by decide +kernel)⟩
theorem ff_10_6 : FF RX10 10 6 (.array .int) := ⟨RX10, TX10, 45, tyX10, rfl, tyX10_ok, nmX10, by decide, by decide +kernel, by decide +kernel, fun _ => ⟨rfl, rfl⟩⟩
theorem liRX10_27 : FI RX10 27 10 8 := ⟨RX10, TX10, 45, rfl, by decide, iwX10, lw_w_in (l := lw_tbl) 1065 rfl (by decide +kernel) (by decide +kernel)⟩
theorem ff_10_8 : FF RX10 10 8 (.array .int) := ⟨RX10, TX10, 45, tyX10, rfl, tyX10_ok, nmX10, by decide, by decide +kernel, by decide +kernel, fun _ => ⟨rfl, rfl⟩⟩
theorem liRX10_30 : FI RX10 30 10 11 := ⟨RX10, TX10, 45, rfl, by decide, iwX10, lw_w_in (l := lw_tbl) 1068 rfl (by decide +kernel) (by decide +kernel)⟩
theorem ff_10_11 : FF RX10 10 11 (.array .int) := ⟨RX10, TX10, 45, tyX10, rfl, tyX10_ok, nmX10, by decide, by decide +kernel, by decide +kernel, fun _ => ⟨rfl, rfl⟩⟩
theorem liRX10_33 : FI RX10 33 10 12 := ⟨RX10, TX10, 45, rfl, by decide, iwX10, lw_w_in (l := lw_tbl) 1069 rfl (by decide +kernel) (by decide +kernel)⟩
theorem ff_10_12 : FF RX10 10 12 (.array .int) := ⟨RX10, TX10, 45, tyX10, rfl, tyX10_ok, nmX10, by decide, by decide +kernel, by decide +kernel, fun _ => ⟨rfl, rfl⟩⟩
theorem liRX10_36 : FI RX10 36 10 13 := ⟨RX10, TX10, 45, rfl, by decide, iwX10, lw_w_in (l := lw_tbl) 1070 rfl (by decide +kernel) (by decide +kernel)⟩
theorem ff_10_13 : FF RX10 10 13 (.array .int) := ⟨RX10, TX10, 45, tyX10, rfl, tyX10_ok, nmX10, by decide, by decide +kernel, by decide +kernel, fun _ => ⟨rfl, rfl⟩⟩
theorem sp_200 : ok32 200 ∧ (Int16.ofInt 200).toInt32 = Int32.ofInt 200 := ⟨⟨by decide, by decide⟩, by decide +kernel⟩
theorem liRX10_39 : FI RX10 39 10 14 := ⟨RX10, TX10, 45, rfl, by decide, iwX10, lw_w_in (l := lw_tbl) 1071 rfl (by decide +kernel) (by decide +kernel)⟩
theorem ff_10_14 : FF RX10 10 14 (.array .int) := ⟨RX10, TX10, 45, tyX10, rfl, tyX10_ok, nmX10, by decide, by decide +kernel, by decide +kernel, fun _ => ⟨rfl, rfl⟩⟩
theorem liRX10_42 : FI RX10 42 10 19 := ⟨RX10, TX10, 45, rfl, by decide, iwX10, lw_w_in (l := lw_tbl) 1076 rfl (by decide +kernel) (by decide +kernel)⟩
theorem ff_10_19 : FF RX10 10 19 (.array .int) := ⟨RX10, TX10, 45, tyX10, rfl, tyX10_ok, nmX10, by decide, by decide +kernel, by decide +kernel, fun _ => ⟨rfl, rfl⟩⟩
theorem liRX10_45 : FI RX10 45 10 20 := ⟨RX10, TX10, 45, rfl, by decide, iwX10, lw_w_in (l := lw_tbl) 1077 rfl (by decide +kernel) (by decide +kernel)⟩
theorem ff_10_20 : FF RX10 10 20 (.array .int) := ⟨RX10, TX10, 45, tyX10, rfl, tyX10_ok, nmX10, by decide, by decide +kernel, by decide +kernel, fun _ => ⟨rfl, rfl⟩⟩
theorem liRX10_48 : FI RX10 48 10 21 := ⟨RX10, TX10, 45, rfl, by decide, iwX10, lw_w_in (l := lw_tbl) 1078 rfl (by decide +kernel) (by decide +kernel)⟩
theorem ff_10_21 : FF RX10 10 21 (.array .int) := ⟨RX10, TX10, 45, tyX10, rfl, tyX10_ok, nmX10, by decide, by decide +kernel, by decide +kernel, fun _ => ⟨rfl, rfl⟩⟩
theorem liRX10_51 : FI RX10 51 10 22 := ⟨RX10, TX10, 45, rfl, by decide, iwX10, lw_w_in (l := lw_tbl) 1079 rfl (by decide +kernel) (by decide +kernel)⟩
theorem ff_10_22 : FF RX10 10 22 (.array .int) := ⟨RX10, TX10, 45, tyX10, rfl, tyX10_ok, nmX10, by decide, by decide +kernel, by decide +kernel, fun _ => ⟨rfl, rfl⟩⟩
theorem liRX10_54 : FI RX10 54 10 23 := ⟨RX10, TX10, 45, rfl, by decide, iwX10, lw_w_in (l := lw_tbl) 1080 rfl (by decide +kernel) (by decide +kernel)⟩
theorem ff_10_23 : FF RX10 10 23 (.array .int) := ⟨RX10, TX10, 45, tyX10, rfl, tyX10_ok, nmX10, by decide, by decide +kernel, by decide +kernel, fun _ => ⟨rfl, rfl⟩⟩
theorem liRX10_57 : FI RX10 57 10 24 := ⟨RX10, TX10, 45, rfl, by decide, iwX10, lw_w_in (l := lw_tbl) 1081 rfl (by decide +kernel) (by decide +kernel)⟩
theorem ff_10_24 : FF RX10 10 24 (.array .int) := ⟨RX10, TX10, 45, tyX10, rfl, tyX10_ok, nmX10, by decide, by decide +kernel, by decide +kernel, fun _ => ⟨rfl, rfl⟩⟩
theorem liRX10_60 : FI RX10 60 10 25 := ⟨RX10, TX10, 45, rfl, by decide, iwX10, lw_w_in (l := lw_tbl) 1082 rfl (by decide +kernel) (by decide +kernel)⟩
theorem ff_10_25 : FF RX10 10 25 (.array .int) := ⟨RX10, TX10, 45, tyX10, rfl, tyX10_ok, nmX10, by decide, by decide +kernel, by decide +kernel, fun _ => ⟨rfl, rfl⟩⟩
theorem liRX10_63 : FI RX10 63 10 29 := ⟨RX10, TX10, 45, rfl, by decide, iwX10, lw_w_in (l := lw_tbl) 1086 rfl (by decide +kernel) (by decide +kernel)⟩
theorem ff_10_29 : FF RX10 10 29 (.array .int) := ⟨RX10, TX10, 45, tyX10, rfl, tyX10_ok, nmX10, by decide, by decide +kernel, by decide +kernel, fun _ => ⟨rfl, rfl⟩⟩
theorem liRX10_66 : FI RX10 66 10 30 := ⟨RX10, TX10, 45, rfl, by decide, iwX10, lw_w_in (l := lw_tbl) 1087 rfl (by decide +kernel) (by decide +kernel)⟩
theorem ff_10_30 : FF RX10 10 30 (.array .int) := ⟨RX10, TX10, 45, tyX10, rfl, tyX10_ok, nmX10, by decide, by decide +kernel, by decide +kernel, fun _ => ⟨rfl, rfl⟩⟩
theorem liRX10_69 : FI RX10 69 10 33 := ⟨RX10, TX10, 45, rfl, by decide, iwX10, lw_w_in (l := lw_tbl) 1090 rfl (by decide +kernel) (by decide +kernel)⟩
theorem ff_10_33 : FF RX10 10 33 (.array .int) := ⟨RX10, TX10, 45, tyX10, rfl, tyX10_ok, nmX10, by decide, by decide +kernel, by decide +kernel, fun _ => ⟨rfl, rfl⟩⟩
theorem liRX10_72 : FI RX10 72 10 35 := ⟨RX10, TX10, 45, rfl, by decide, iwX10, lw_w_in (l := lw_tbl) 1092 rfl (by decide +kernel) (by decide +kernel)⟩
theorem ff_10_35 : FF RX10 10 35 (.array .int) := ⟨RX10, TX10, 45, tyX10, rfl, tyX10_ok, nmX10, by decide, by decide +kernel, by decide +kernel, fun _ => ⟨rfl, rfl⟩⟩
theorem liRX10_75 : FI RX10 75 10 37 := ⟨RX10, TX10, 45, rfl, by decide, iwX10, lw_w_in (l := lw_tbl) 1094 rfl (by decide +kernel) (by decide +kernel)⟩
theorem ff_10_37 : FF RX10 10 37 (.array .int) := ⟨RX10, TX10, 45, tyX10, rfl, tyX10_ok, nmX10, by decide, by decide +kernel, by decide +kernel, fun _ => ⟨rfl, rfl⟩⟩
theorem liRX10_78 : FI RX10 78 10 38 := ⟨RX10, TX10, 45, rfl, by decide, iwX10, lw_w_in (l := lw_tbl) 1095 rfl (by decide +kernel) (by decide +kernel)⟩
theorem ff_10_38 : FF RX10 10 38 (.array .int) := ⟨RX10, TX10, 45, tyX10, rfl, tyX10_ok, nmX10, by decide, by decide +kernel, by decide +kernel, fun _ => ⟨rfl, rfl⟩⟩
theorem liRX10_81 : FI RX10 81 10 39 := ⟨RX10, TX10, 45, rfl, by decide, iwX10, lw_w_in (l := lw_tbl) 1096 rfl (by decide +kernel) (by decide +kernel)⟩
theorem ff_10_39 : FF RX10 10 39 (.array .int) := ⟨RX10, TX10, 45, tyX10, rfl, tyX10_ok, nmX10, by decide, by decide +kernel, by decide +kernel, fun _ => ⟨rfl, rfl⟩⟩
theorem sp_360 : ok32 360 ∧ (Int16.ofInt 360).toInt32 = Int32.ofInt 360 := ⟨⟨by decide, by decide⟩, by decide +kernel⟩
theorem liRX10_84 : FI RX10 84 10 40 := ⟨RX10, TX10, 45, rfl, by decide, iwX10, lw_w_in (l := lw_tbl) 1097 rfl (by decide +kernel) (by decide +kernel)⟩
theorem ff_10_40 : FF RX10 10 40 (.array .long) := ⟨RX10, TX10, 45, tyX10, rfl, tyX10_ok, nmX10, by decide, by decide +kernel, by decide +kernel, fun _ => ⟨rfl, rfl⟩⟩
theorem liRX10_88 : FI RX10 88 10 41 := ⟨RX10, TX10, 45, rfl, by decide, iwX10, lw_w_in (l := lw_tbl) 1098 rfl (by decide +kernel) (by decide +kernel)⟩
theorem ff_10_41 : FF RX10 10 41 (.array .int) := ⟨RX10, TX10, 45, tyX10, rfl, tyX10_ok, nmX10, by decide, by decide +kernel, by decide +kernel, fun _ => ⟨rfl, rfl⟩⟩
theorem liRX10_91 : FI RX10 91 10 42 := ⟨RX10, TX10, 45, rfl, by decide, iwX10, lw_w_in (l := lw_tbl) 1099 rfl (by decide +kernel) (by decide +kernel)⟩
theorem ff_10_42 : FF RX10 10 42 (.array .int) := ⟨RX10, TX10, 45, tyX10, rfl, tyX10_ok, nmX10, by decide, by decide +kernel, by decide +kernel, fun _ => ⟨rfl, rfl⟩⟩
theorem liRX10_94 : FI RX10 94 10 43 := ⟨RX10, TX10, 45, rfl, by decide, iwX10, lw_w_in (l := lw_tbl) 1100 rfl (by decide +kernel) (by decide +kernel)⟩
theorem ff_10_43 : FF RX10 10 43 (.array .int) := ⟨RX10, TX10, 45, tyX10, rfl, tyX10_ok, nmX10, by decide, by decide +kernel, by decide +kernel, fun _ => ⟨rfl, rfl⟩⟩
theorem dX0_init_0 : decode cX0_init 0 = .ok (.aload_n 0, 1) := by decide +kernel
theorem dX0_init_1 : decode cX0_init 1 = .ok (.invokespecial 1, 3) := by decide +kernel
theorem dX0_init_4 : decode cX0_init 4 = .ok (.aload_n 0, 1) := by decide +kernel
theorem dX0_init_5 : decode cX0_init 5 = .ok (.sipush 160, 3) := by decide +kernel
theorem dX0_init_8 : decode cX0_init 8 = .ok (.newarray .int, 2) := by decide +kernel
theorem dX0_init_10 : decode cX0_init 10 = .ok (.putfield 9, 3) := by decide +kernel
theorem dX0_init_13 : decode cX0_init 13 = .ok (.return_, 1) := by decide +kernel
theorem dX1_init_0 : decode cX1_init 0 = .ok (.aload_n 0, 1) := by decide +kernel
theorem dX1_init_1 : decode cX1_init 1 = .ok (.invokespecial 3, 3) := by decide +kernel
theorem dX1_init_4 : decode cX1_init 4 = .ok (.aload_n 0, 1) := by decide +kernel
theorem dX1_init_5 : decode cX1_init 5 = .ok (.sipush 256, 3) := by decide +kernel
theorem dX1_init_8 : decode cX1_init 8 = .ok (.newarray .long, 2) := by decide +kernel
theorem dX1_init_10 : decode cX1_init 10 = .ok (.putfield 9, 3) := by decide +kernel
theorem dX1_init_13 : decode cX1_init 13 = .ok (.aload_n 0, 1) := by decide +kernel
theorem dX1_init_14 : decode cX1_init 14 = .ok (.bipush 8, 2) := by decide +kernel
theorem dX1_init_16 : decode cX1_init 16 = .ok (.newarray .long, 2) := by decide +kernel
theorem dX1_init_18 : decode cX1_init 18 = .ok (.putfield 15, 3) := by decide +kernel
theorem dX1_init_21 : decode cX1_init 21 = .ok (.return_, 1) := by decide +kernel
theorem dX2_init_0 : decode cX2_init 0 = .ok (.aload_n 0, 1) := by decide +kernel
theorem dX2_init_1 : decode cX2_init 1 = .ok (.invokespecial 3, 3) := by decide +kernel
theorem dX2_init_4 : decode cX2_init 4 = .ok (.aload_n 0, 1) := by decide +kernel
theorem dX2_init_5 : decode cX2_init 5 = .ok (.bipush 32, 2) := by decide +kernel
theorem dX2_init_7 : decode cX2_init 7 = .ok (.newarray .int, 2) := by decide +kernel
theorem dX2_init_9 : decode cX2_init 9 = .ok (.putfield 11, 3) := by decide +kernel
theorem dX2_init_12 : decode cX2_init 12 = .ok (.aload_n 0, 1) := by decide +kernel
theorem dX2_init_13 : decode cX2_init 13 = .ok (.bipush 63, 2) := by decide +kernel
theorem dX2_init_15 : decode cX2_init 15 = .ok (.newarray .int, 2) := by decide +kernel
theorem dX2_init_17 : decode cX2_init 17 = .ok (.putfield 15, 3) := by decide +kernel
theorem dX2_init_20 : decode cX2_init 20 = .ok (.return_, 1) := by decide +kernel
theorem dX3_init_0 : decode cX3_init 0 = .ok (.aload_n 0, 1) := by decide +kernel
theorem dX3_init_1 : decode cX3_init 1 = .ok (.invokespecial 3, 3) := by decide +kernel
theorem dX3_init_4 : decode cX3_init 4 = .ok (.aload_n 0, 1) := by decide +kernel
theorem dX3_init_5 : decode cX3_init 5 = .ok (.new 9, 3) := by decide +kernel
theorem dX3_init_8 : decode cX3_init 8 = .ok (.dup, 1) := by decide +kernel
theorem dX3_init_9 : decode cX3_init 9 = .ok (.invokespecial 11, 3) := by decide +kernel
theorem dX3_init_12 : decode cX3_init 12 = .ok (.putfield 12, 3) := by decide +kernel
theorem dX3_init_15 : decode cX3_init 15 = .ok (.aload_n 0, 1) := by decide +kernel
theorem dX3_init_16 : decode cX3_init 16 = .ok (.iconst 5, 1) := by decide +kernel
theorem dX3_init_17 : decode cX3_init 17 = .ok (.newarray .int, 2) := by decide +kernel
theorem dX3_init_19 : decode cX3_init 19 = .ok (.putfield 18, 3) := by decide +kernel
theorem dX3_init_22 : decode cX3_init 22 = .ok (.return_, 1) := by decide +kernel
theorem dX4_init_0 : decode cX4_init 0 = .ok (.aload_n 0, 1) := by decide +kernel
theorem dX4_init_1 : decode cX4_init 1 = .ok (.invokespecial 1, 3) := by decide +kernel
theorem dX4_init_4 : decode cX4_init 4 = .ok (.aload_n 0, 1) := by decide +kernel
theorem dX4_init_5 : decode cX4_init 5 = .ok (.bipush 120, 2) := by decide +kernel
theorem dX4_init_7 : decode cX4_init 7 = .ok (.newarray .int, 2) := by decide +kernel
theorem dX4_init_9 : decode cX4_init 9 = .ok (.putfield 9, 3) := by decide +kernel
theorem dX4_init_12 : decode cX4_init 12 = .ok (.aload_n 0, 1) := by decide +kernel
theorem dX4_init_13 : decode cX4_init 13 = .ok (.bipush 6, 2) := by decide +kernel
theorem dX4_init_15 : decode cX4_init 15 = .ok (.newarray .int, 2) := by decide +kernel
theorem dX4_init_17 : decode cX4_init 17 = .ok (.putfield 13, 3) := by decide +kernel
theorem dX4_init_20 : decode cX4_init 20 = .ok (.aload_n 0, 1) := by decide +kernel
theorem dX4_init_21 : decode cX4_init 21 = .ok (.bipush 64, 2) := by decide +kernel
theorem dX4_init_23 : decode cX4_init 23 = .ok (.newarray .int, 2) := by decide +kernel
theorem dX4_init_25 : decode cX4_init 25 = .ok (.putfield 16, 3) := by decide +kernel
theorem dX4_init_28 : decode cX4_init 28 = .ok (.aload_n 0, 1) := by decide +kernel
theorem dX4_init_29 : decode cX4_init 29 = .ok (.sipush 128, 3) := by decide +kernel
theorem dX4_init_32 : decode cX4_init 32 = .ok (.newarray .int, 2) := by decide +kernel
theorem dX4_init_34 : decode cX4_init 34 = .ok (.putfield 19, 3) := by decide +kernel
theorem dX4_init_37 : decode cX4_init 37 = .ok (.aload_n 0, 1) := by decide +kernel
theorem dX4_init_38 : decode cX4_init 38 = .ok (.sipush 128, 3) := by decide +kernel
theorem dX4_init_41 : decode cX4_init 41 = .ok (.newarray .int, 2) := by decide +kernel
theorem dX4_init_43 : decode cX4_init 43 = .ok (.putfield 22, 3) := by decide +kernel
theorem dX4_init_46 : decode cX4_init 46 = .ok (.return_, 1) := by decide +kernel
theorem dX5_init_0 : decode cX5_init 0 = .ok (.aload_n 0, 1) := by decide +kernel
theorem dX5_init_1 : decode cX5_init 1 = .ok (.invokespecial 3, 3) := by decide +kernel
theorem dX5_init_4 : decode cX5_init 4 = .ok (.aload_n 0, 1) := by decide +kernel
theorem dX5_init_5 : decode cX5_init 5 = .ok (.bipush 50, 2) := by decide +kernel
theorem dX5_init_7 : decode cX5_init 7 = .ok (.newarray .int, 2) := by decide +kernel
theorem dX5_init_9 : decode cX5_init 9 = .ok (.putfield 11, 3) := by decide +kernel
theorem dX5_init_12 : decode cX5_init 12 = .ok (.aload_n 0, 1) := by decide +kernel
theorem dX5_init_13 : decode cX5_init 13 = .ok (.bipush 24, 2) := by decide +kernel
theorem dX5_init_15 : decode cX5_init 15 = .ok (.newarray .int, 2) := by decide +kernel
theorem dX5_init_17 : decode cX5_init 17 = .ok (.putfield 15, 3) := by decide +kernel
theorem dX5_init_20 : decode cX5_init 20 = .ok (.return_, 1) := by decide +kernel
theorem dX6_init_0 : decode cX6_init 0 = .ok (.aload_n 0, 1) := by decide +kernel
theorem dX6_init_1 : decode cX6_init 1 = .ok (.invokespecial 3, 3) := by decide +kernel
theorem dX6_init_4 : decode cX6_init 4 = .ok (.aload_n 0, 1) := by decide +kernel
theorem dX6_init_5 : decode cX6_init 5 = .ok (.bipush 60, 2) := by decide +kernel
theorem dX6_init_7 : decode cX6_init 7 = .ok (.newarray .long, 2) := by decide +kernel
theorem dX6_init_9 : decode cX6_init 9 = .ok (.putfield 9, 3) := by decide +kernel
theorem dX6_init_12 : decode cX6_init 12 = .ok (.return_, 1) := by decide +kernel
theorem dX7_init_0 : decode cX7_init 0 = .ok (.aload_n 0, 1) := by decide +kernel
theorem dX7_init_1 : decode cX7_init 1 = .ok (.invokespecial 3, 3) := by decide +kernel
theorem dX7_init_4 : decode cX7_init 4 = .ok (.aload_n 0, 1) := by decide +kernel
theorem dX7_init_5 : decode cX7_init 5 = .ok (.new 9, 3) := by decide +kernel
theorem dX7_init_8 : decode cX7_init 8 = .ok (.dup, 1) := by decide +kernel
theorem dX7_init_9 : decode cX7_init 9 = .ok (.invokespecial 11, 3) := by decide +kernel
theorem dX7_init_12 : decode cX7_init 12 = .ok (.putfield 12, 3) := by decide +kernel
theorem dX7_init_15 : decode cX7_init 15 = .ok (.aload_n 0, 1) := by decide +kernel
theorem dX7_init_16 : decode cX7_init 16 = .ok (.bipush 7, 2) := by decide +kernel
theorem dX7_init_18 : decode cX7_init 18 = .ok (.newarray .int, 2) := by decide +kernel
theorem dX7_init_20 : decode cX7_init 20 = .ok (.putfield 18, 3) := by decide +kernel
theorem dX7_init_23 : decode cX7_init 23 = .ok (.aload_n 0, 1) := by decide +kernel
theorem dX7_init_24 : decode cX7_init 24 = .ok (.bipush 7, 2) := by decide +kernel
theorem dX7_init_26 : decode cX7_init 26 = .ok (.newarray .int, 2) := by decide +kernel
theorem dX7_init_28 : decode cX7_init 28 = .ok (.putfield 22, 3) := by decide +kernel
theorem dX7_init_31 : decode cX7_init 31 = .ok (.aload_n 0, 1) := by decide +kernel
theorem dX7_init_32 : decode cX7_init 32 = .ok (.sipush 252, 3) := by decide +kernel
theorem dX7_init_35 : decode cX7_init 35 = .ok (.newarray .int, 2) := by decide +kernel
theorem dX7_init_37 : decode cX7_init 37 = .ok (.putfield 25, 3) := by decide +kernel
theorem dX7_init_40 : decode cX7_init 40 = .ok (.aload_n 0, 1) := by decide +kernel
theorem dX7_init_41 : decode cX7_init 41 = .ok (.bipush 7, 2) := by decide +kernel
theorem dX7_init_43 : decode cX7_init 43 = .ok (.newarray .int, 2) := by decide +kernel
theorem dX7_init_45 : decode cX7_init 45 = .ok (.putfield 28, 3) := by decide +kernel
theorem dX7_init_48 : decode cX7_init 48 = .ok (.aload_n 0, 1) := by decide +kernel
theorem dX7_init_49 : decode cX7_init 49 = .ok (.bipush 16, 2) := by decide +kernel
theorem dX7_init_51 : decode cX7_init 51 = .ok (.newarray .int, 2) := by decide +kernel
theorem dX7_init_53 : decode cX7_init 53 = .ok (.putfield 31, 3) := by decide +kernel
theorem dX7_init_56 : decode cX7_init 56 = .ok (.aload_n 0, 1) := by decide +kernel
theorem dX7_init_57 : decode cX7_init 57 = .ok (.aload_n 1, 1) := by decide +kernel
theorem dX7_init_58 : decode cX7_init 58 = .ok (.putfield 34, 3) := by decide +kernel
theorem dX7_init_61 : decode cX7_init 61 = .ok (.return_, 1) := by decide +kernel
theorem dX8_init_0 : decode cX8_init 0 = .ok (.aload_n 0, 1) := by decide +kernel
theorem dX8_init_1 : decode cX8_init 1 = .ok (.invokespecial 3, 3) := by decide +kernel
theorem dX8_init_4 : decode cX8_init 4 = .ok (.aload_n 0, 1) := by decide +kernel
theorem dX8_init_5 : decode cX8_init 5 = .ok (.iconst 5, 1) := by decide +kernel
theorem dX8_init_6 : decode cX8_init 6 = .ok (.newarray .int, 2) := by decide +kernel
theorem dX8_init_8 : decode cX8_init 8 = .ok (.putfield 11, 3) := by decide +kernel
theorem dX8_init_11 : decode cX8_init 11 = .ok (.aload_n 0, 1) := by decide +kernel
theorem dX8_init_12 : decode cX8_init 12 = .ok (.iconst 5, 1) := by decide +kernel
theorem dX8_init_13 : decode cX8_init 13 = .ok (.newarray .int, 2) := by decide +kernel
theorem dX8_init_15 : decode cX8_init 15 = .ok (.putfield 15, 3) := by decide +kernel
theorem dX8_init_18 : decode cX8_init 18 = .ok (.aload_n 0, 1) := by decide +kernel
theorem dX8_init_19 : decode cX8_init 19 = .ok (.aload_n 1, 1) := by decide +kernel
theorem dX8_init_20 : decode cX8_init 20 = .ok (.putfield 18, 3) := by decide +kernel
theorem dX8_init_23 : decode cX8_init 23 = .ok (.return_, 1) := by decide +kernel
theorem dX9_init_0 : decode cX9_init 0 = .ok (.aload_n 0, 1) := by decide +kernel
theorem dX9_init_1 : decode cX9_init 1 = .ok (.invokespecial 1, 3) := by decide +kernel
theorem dX9_init_4 : decode cX9_init 4 = .ok (.aload_n 0, 1) := by decide +kernel
theorem dX9_init_5 : decode cX9_init 5 = .ok (.new 7, 3) := by decide +kernel
theorem dX9_init_8 : decode cX9_init 8 = .ok (.dup, 1) := by decide +kernel
theorem dX9_init_9 : decode cX9_init 9 = .ok (.invokespecial 9, 3) := by decide +kernel
theorem dX9_init_12 : decode cX9_init 12 = .ok (.putfield 10, 3) := by decide +kernel
theorem dX9_init_15 : decode cX9_init 15 = .ok (.aload_n 0, 1) := by decide +kernel
theorem dX9_init_16 : decode cX9_init 16 = .ok (.new 16, 3) := by decide +kernel
theorem dX9_init_19 : decode cX9_init 19 = .ok (.dup, 1) := by decide +kernel
theorem dX9_init_20 : decode cX9_init 20 = .ok (.invokespecial 18, 3) := by decide +kernel
theorem dX9_init_23 : decode cX9_init 23 = .ok (.putfield 19, 3) := by decide +kernel
theorem dX9_init_26 : decode cX9_init 26 = .ok (.aload_n 0, 1) := by decide +kernel
theorem dX9_init_27 : decode cX9_init 27 = .ok (.new 23, 3) := by decide +kernel
theorem dX9_init_30 : decode cX9_init 30 = .ok (.dup, 1) := by decide +kernel
theorem dX9_init_31 : decode cX9_init 31 = .ok (.aload_n 0, 1) := by decide +kernel
theorem dX9_init_32 : decode cX9_init 32 = .ok (.getfield 19, 3) := by decide +kernel
theorem dX9_init_35 : decode cX9_init 35 = .ok (.invokespecial 25, 3) := by decide +kernel
theorem dX9_init_38 : decode cX9_init 38 = .ok (.putfield 28, 3) := by decide +kernel
theorem dX9_init_41 : decode cX9_init 41 = .ok (.aload_n 0, 1) := by decide +kernel
theorem dX9_init_42 : decode cX9_init 42 = .ok (.new 32, 3) := by decide +kernel
theorem dX9_init_45 : decode cX9_init 45 = .ok (.dup, 1) := by decide +kernel
theorem dX9_init_46 : decode cX9_init 46 = .ok (.aload_n 0, 1) := by decide +kernel
theorem dX9_init_47 : decode cX9_init 47 = .ok (.getfield 28, 3) := by decide +kernel
theorem dX9_init_50 : decode cX9_init 50 = .ok (.invokespecial 34, 3) := by decide +kernel
theorem dX9_init_53 : decode cX9_init 53 = .ok (.putfield 37, 3) := by decide +kernel
theorem dX9_init_56 : decode cX9_init 56 = .ok (.aload_n 0, 1) := by decide +kernel
theorem dX9_init_57 : decode cX9_init 57 = .ok (.new 41, 3) := by decide +kernel
theorem dX9_init_60 : decode cX9_init 60 = .ok (.dup, 1) := by decide +kernel
theorem dX9_init_61 : decode cX9_init 61 = .ok (.invokespecial 43, 3) := by decide +kernel
theorem dX9_init_64 : decode cX9_init 64 = .ok (.putfield 44, 3) := by decide +kernel
theorem dX9_init_67 : decode cX9_init 67 = .ok (.aload_n 0, 1) := by decide +kernel
theorem dX9_init_68 : decode cX9_init 68 = .ok (.new 48, 3) := by decide +kernel
theorem dX9_init_71 : decode cX9_init 71 = .ok (.dup, 1) := by decide +kernel
theorem dX9_init_72 : decode cX9_init 72 = .ok (.invokespecial 50, 3) := by decide +kernel
theorem dX9_init_75 : decode cX9_init 75 = .ok (.putfield 51, 3) := by decide +kernel
theorem dX9_init_78 : decode cX9_init 78 = .ok (.aload_n 0, 1) := by decide +kernel
theorem dX9_init_79 : decode cX9_init 79 = .ok (.new 55, 3) := by decide +kernel
theorem dX9_init_82 : decode cX9_init 82 = .ok (.dup, 1) := by decide +kernel
theorem dX9_init_83 : decode cX9_init 83 = .ok (.invokespecial 57, 3) := by decide +kernel
theorem dX9_init_86 : decode cX9_init 86 = .ok (.putfield 58, 3) := by decide +kernel
theorem dX9_init_89 : decode cX9_init 89 = .ok (.aload_n 0, 1) := by decide +kernel
theorem dX9_init_90 : decode cX9_init 90 = .ok (.new 62, 3) := by decide +kernel
theorem dX9_init_93 : decode cX9_init 93 = .ok (.dup, 1) := by decide +kernel
theorem dX9_init_94 : decode cX9_init 94 = .ok (.invokespecial 64, 3) := by decide +kernel
theorem dX9_init_97 : decode cX9_init 97 = .ok (.putfield 65, 3) := by decide +kernel
theorem dX9_init_100 : decode cX9_init 100 = .ok (.aload_n 0, 1) := by decide +kernel
theorem dX9_init_101 : decode cX9_init 101 = .ok (.iconst 5, 1) := by decide +kernel
theorem dX9_init_102 : decode cX9_init 102 = .ok (.newarray .int, 2) := by decide +kernel
theorem dX9_init_104 : decode cX9_init 104 = .ok (.putfield 69, 3) := by decide +kernel
theorem dX9_init_107 : decode cX9_init 107 = .ok (.aload_n 0, 1) := by decide +kernel
theorem dX9_init_108 : decode cX9_init 108 = .ok (.bipush 6, 2) := by decide +kernel
theorem dX9_init_110 : decode cX9_init 110 = .ok (.anewarray 73, 3) := by decide +kernel
theorem dX9_init_113 : decode cX9_init 113 = .ok (.putfield 75, 3) := by decide +kernel
theorem dX9_init_116 : decode cX9_init 116 = .ok (.iconst 0, 1) := by decide +kernel
theorem dX9_init_117 : decode cX9_init 117 = .ok (.istore_n 1, 1) := by decide +kernel
theorem dX9_init_118 : decode cX9_init 118 = .ok (.iload_n 1, 1) := by decide +kernel
theorem dX9_init_119 : decode cX9_init 119 = .ok (.bipush 6, 2) := by decide +kernel
theorem dX9_init_121 : decode cX9_init 121 = .ok (.if_icmp .ge 22, 3) := by decide +kernel
theorem dX9_init_124 : decode cX9_init 124 = .ok (.aload_n 0, 1) := by decide +kernel
theorem dX9_init_125 : decode cX9_init 125 = .ok (.getfield 75, 3) := by decide +kernel
theorem dX9_init_128 : decode cX9_init 128 = .ok (.iload_n 1, 1) := by decide +kernel
theorem dX9_init_129 : decode cX9_init 129 = .ok (.new 73, 3) := by decide +kernel
theorem dX9_init_132 : decode cX9_init 132 = .ok (.dup, 1) := by decide +kernel
theorem dX9_init_133 : decode cX9_init 133 = .ok (.invokespecial 79, 3) := by decide +kernel
theorem dX9_init_136 : decode cX9_init 136 = .ok (.aastore, 1) := by decide +kernel
theorem dX9_init_137 : decode cX9_init 137 = .ok (.iinc 1 1, 3) := by decide +kernel
theorem dX9_init_140 : decode cX9_init 140 = .ok (.goto (-22), 3) := by decide +kernel
theorem dX9_init_143 : decode cX9_init 143 = .ok (.return_, 1) := by decide +kernel
theorem dX10_init_0 : decode cX10_init 0 = .ok (.aload_n 0, 1) := by decide +kernel
theorem dX10_init_1 : decode cX10_init 1 = .ok (.invokespecial 3, 3) := by decide +kernel
theorem dX10_init_4 : decode cX10_init 4 = .ok (.aload_n 0, 1) := by decide +kernel
theorem dX10_init_5 : decode cX10_init 5 = .ok (.bipush 8, 2) := by decide +kernel
theorem dX10_init_7 : decode cX10_init 7 = .ok (.newarray .int, 2) := by decide +kernel
theorem dX10_init_9 : decode cX10_init 9 = .ok (.putfield 9, 3) := by decide +kernel
theorem dX10_init_12 : decode cX10_init 12 = .ok (.aload_n 0, 1) := by decide +kernel
theorem dX10_init_13 : decode cX10_init 13 = .ok (.bipush 8, 2) := by decide +kernel
theorem dX10_init_15 : decode cX10_init 15 = .ok (.newarray .int, 2) := by decide +kernel
theorem dX10_init_17 : decode cX10_init 17 = .ok (.putfield 15, 3) := by decide +kernel
theorem dX10_init_20 : decode cX10_init 20 = .ok (.aload_n 0, 1) := by decide +kernel
theorem dX10_init_21 : decode cX10_init 21 = .ok (.bipush 8, 2) := by decide +kernel
theorem dX10_init_23 : decode cX10_init 23 = .ok (.newarray .int, 2) := by decide +kernel
theorem dX10_init_25 : decode cX10_init 25 = .ok (.putfield 18, 3) := by decide +kernel
theorem dX10_init_28 : decode cX10_init 28 = .ok (.aload_n 0, 1) := by decide +kernel
theorem dX10_init_29 : decode cX10_init 29 = .ok (.bipush 8, 2) := by decide +kernel
theorem dX10_init_31 : decode cX10_init 31 = .ok (.newarray .int, 2) := by decide +kernel
theorem dX10_init_33 : decode cX10_init 33 = .ok (.putfield 21, 3) := by decide +kernel
theorem dX10_init_36 : decode cX10_init 36 = .ok (.aload_n 0, 1) := by decide +kernel
theorem dX10_init_37 : decode cX10_init 37 = .ok (.bipush 63, 2) := by decide +kernel
theorem dX10_init_39 : decode cX10_init 39 = .ok (.newarray .int, 2) := by decide +kernel
theorem dX10_init_41 : decode cX10_init 41 = .ok (.putfield 24, 3) := by decide +kernel
theorem dX10_init_44 : decode cX10_init 44 = .ok (.aload_n 0, 1) := by decide +kernel
theorem dX10_init_45 : decode cX10_init 45 = .ok (.bipush 120, 2) := by decide +kernel
theorem dX10_init_47 : decode cX10_init 47 = .ok (.newarray .int, 2) := by decide +kernel
theorem dX10_init_49 : decode cX10_init 49 = .ok (.putfield 27, 3) := by decide +kernel
theorem dX10_init_52 : decode cX10_init 52 = .ok (.aload_n 0, 1) := by decide +kernel
theorem dX10_init_53 : decode cX10_init 53 = .ok (.bipush 60, 2) := by decide +kernel
theorem dX10_init_55 : decode cX10_init 55 = .ok (.newarray .int, 2) := by decide +kernel
theorem dX10_init_57 : decode cX10_init 57 = .ok (.putfield 30, 3) := by decide +kernel
theorem dX10_init_60 : decode cX10_init 60 = .ok (.aload_n 0, 1) := by decide +kernel
theorem dX10_init_61 : decode cX10_init 61 = .ok (.bipush 60, 2) := by decide +kernel
theorem dX10_init_63 : decode cX10_init 63 = .ok (.newarray .int, 2) := by decide +kernel
theorem dX10_init_65 : decode cX10_init 65 = .ok (.putfield 33, 3) := by decide +kernel
theorem dX10_init_68 : decode cX10_init 68 = .ok (.aload_n 0, 1) := by decide +kernel
theorem dX10_init_69 : decode cX10_init 69 = .ok (.bipush 60, 2) := by decide +kernel
theorem dX10_init_71 : decode cX10_init 71 = .ok (.newarray .int, 2) := by decide +kernel
theorem dX10_init_73 : decode cX10_init 73 = .ok (.putfield 36, 3) := by decide +kernel
theorem dX10_init_76 : decode cX10_init 76 = .ok (.aload_n 0, 1) := by decide +kernel
theorem dX10_init_77 : decode cX10_init 77 = .ok (.sipush 200, 3) := by decide +kernel
theorem dX10_init_80 : decode cX10_init 80 = .ok (.newarray .int, 2) := by decide +kernel
theorem dX10_init_82 : decode cX10_init 82 = .ok (.putfield 39, 3) := by decide +kernel
theorem dX10_init_85 : decode cX10_init 85 = .ok (.aload_n 0, 1) := by decide +kernel
theorem dX10_init_86 : decode cX10_init 86 = .ok (.bipush 61, 2) := by decide +kernel
theorem dX10_init_88 : decode cX10_init 88 = .ok (.newarray .int, 2) := by decide +kernel
theorem dX10_init_90 : decode cX10_init 90 = .ok (.putfield 42, 3) := by decide +kernel
theorem dX10_init_93 : decode cX10_init 93 = .ok (.aload_n 0, 1) := by decide +kernel
theorem dX10_init_94 : decode cX10_init 94 = .ok (.bipush 61, 2) := by decide +kernel
theorem dX10_init_96 : decode cX10_init 96 = .ok (.newarray .int, 2) := by decide +kernel
theorem dX10_init_98 : decode cX10_init 98 = .ok (.putfield 45, 3) := by decide +kernel
theorem dX10_init_101 : decode cX10_init 101 = .ok (.aload_n 0, 1) := by decide +kernel
theorem dX10_init_102 : decode cX10_init 102 = .ok (.bipush 61, 2) := by decide +kernel
theorem dX10_init_104 : decode cX10_init 104 = .ok (.newarray .int, 2) := by decide +kernel
theorem dX10_init_106 : decode cX10_init 106 = .ok (.putfield 48, 3) := by decide +kernel
theorem dX10_init_109 : decode cX10_init 109 = .ok (.aload_n 0, 1) := by decide +kernel
theorem dX10_init_110 : decode cX10_init 110 = .ok (.sipush 200, 3) := by decide +kernel
theorem dX10_init_113 : decode cX10_init 113 = .ok (.newarray .int, 2) := by decide +kernel
theorem dX10_init_115 : decode cX10_init 115 = .ok (.putfield 51, 3) := by decide +kernel
theorem dX10_init_118 : decode cX10_init 118 = .ok (.aload_n 0, 1) := by decide +kernel
theorem dX10_init_119 : decode cX10_init 119 = .ok (.sipush 200, 3) := by decide +kernel
theorem dX10_init_122 : decode cX10_init 122 = .ok (.newarray .int, 2) := by decide +kernel
theorem dX10_init_124 : decode cX10_init 124 = .ok (.putfield 54, 3) := by decide +kernel
theorem dX10_init_127 : decode cX10_init 127 = .ok (.aload_n 0, 1) := by decide +kernel
theorem dX10_init_128 : decode cX10_init 128 = .ok (.bipush 6, 2) := by decide +kernel
theorem dX10_init_130 : decode cX10_init 130 = .ok (.newarray .int, 2) := by decide +kernel
theorem dX10_init_132 : decode cX10_init 132 = .ok (.putfield 57, 3) := by decide +kernel
theorem dX10_init_135 : decode cX10_init 135 = .ok (.aload_n 0, 1) := by decide +kernel
theorem dX10_init_136 : decode cX10_init 136 = .ok (.iconst 5, 1) := by decide +kernel
theorem dX10_init_137 : decode cX10_init 137 = .ok (.newarray .int, 2) := by decide +kernel
theorem dX10_init_139 : decode cX10_init 139 = .ok (.putfield 60, 3) := by decide +kernel
theorem dX10_init_142 : decode cX10_init 142 = .ok (.aload_n 0, 1) := by decide +kernel
theorem dX10_init_143 : decode cX10_init 143 = .ok (.bipush 45, 2) := by decide +kernel
theorem dX10_init_145 : decode cX10_init 145 = .ok (.newarray .int, 2) := by decide +kernel
theorem dX10_init_147 : decode cX10_init 147 = .ok (.putfield 63, 3) := by decide +kernel
theorem dX10_init_150 : decode cX10_init 150 = .ok (.aload_n 0, 1) := by decide +kernel
theorem dX10_init_151 : decode cX10_init 151 = .ok (.iconst 5, 1) := by decide +kernel
theorem dX10_init_152 : decode cX10_init 152 = .ok (.newarray .int, 2) := by decide +kernel
theorem dX10_init_154 : decode cX10_init 154 = .ok (.putfield 66, 3) := by decide +kernel
theorem dX10_init_157 : decode cX10_init 157 = .ok (.aload_n 0, 1) := by decide +kernel
theorem dX10_init_158 : decode cX10_init 158 = .ok (.sipush 160, 3) := by decide +kernel
theorem dX10_init_161 : decode cX10_init 161 = .ok (.newarray .int, 2) := by decide +kernel
theorem dX10_init_163 : decode cX10_init 163 = .ok (.putfield 69, 3) := by decide +kernel
theorem dX10_init_166 : decode cX10_init 166 = .ok (.aload_n 0, 1) := by decide +kernel
theorem dX10_init_167 : decode cX10_init 167 = .ok (.bipush 50, 2) := by decide +kernel
theorem dX10_init_169 : decode cX10_init 169 = .ok (.newarray .int, 2) := by decide +kernel
theorem dX10_init_171 : decode cX10_init 171 = .ok (.putfield 72, 3) := by decide +kernel
theorem dX10_init_174 : decode cX10_init 174 = .ok (.aload_n 0, 1) := by decide +kernel
theorem dX10_init_175 : decode cX10_init 175 = .ok (.bipush 24, 2) := by decide +kernel
theorem dX10_init_177 : decode cX10_init 177 = .ok (.newarray .int, 2) := by decide +kernel
theorem dX10_init_179 : decode cX10_init 179 = .ok (.putfield 75, 3) := by decide +kernel
theorem dX10_init_182 : decode cX10_init 182 = .ok (.aload_n 0, 1) := by decide +kernel
theorem dX10_init_183 : decode cX10_init 183 = .ok (.bipush 6, 2) := by decide +kernel
theorem dX10_init_185 : decode cX10_init 185 = .ok (.newarray .int, 2) := by decide +kernel
theorem dX10_init_187 : decode cX10_init 187 = .ok (.putfield 78, 3) := by decide +kernel
theorem dX10_init_190 : decode cX10_init 190 = .ok (.aload_n 0, 1) := by decide +kernel
theorem dX10_init_191 : decode cX10_init 191 = .ok (.bipush 6, 2) := by decide +kernel
theorem dX10_init_193 : decode cX10_init 193 = .ok (.newarray .int, 2) := by decide +kernel
theorem dX10_init_195 : decode cX10_init 195 = .ok (.putfield 81, 3) := by decide +kernel
theorem dX10_init_198 : decode cX10_init 198 = .ok (.aload_n 0, 1) := by decide +kernel
theorem dX10_init_199 : decode cX10_init 199 = .ok (.sipush 360, 3) := by decide +kernel
theorem dX10_init_202 : decode cX10_init 202 = .ok (.newarray .long, 2) := by decide +kernel
theorem dX10_init_204 : decode cX10_init 204 = .ok (.putfield 84, 3) := by decide +kernel
theorem dX10_init_207 : decode cX10_init 207 = .ok (.aload_n 0, 1) := by decide +kernel
theorem dX10_init_208 : decode cX10_init 208 = .ok (.bipush 45, 2) := by decide +kernel
theorem dX10_init_210 : decode cX10_init 210 = .ok (.newarray .int, 2) := by decide +kernel
theorem dX10_init_212 : decode cX10_init 212 = .ok (.putfield 88, 3) := by decide +kernel
theorem dX10_init_215 : decode cX10_init 215 = .ok (.aload_n 0, 1) := by decide +kernel
theorem dX10_init_216 : decode cX10_init 216 = .ok (.bipush 7, 2) := by decide +kernel
theorem dX10_init_218 : decode cX10_init 218 = .ok (.newarray .int, 2) := by decide +kernel
theorem dX10_init_220 : decode cX10_init 220 = .ok (.putfield 91, 3) := by decide +kernel
theorem dX10_init_223 : decode cX10_init 223 = .ok (.aload_n 0, 1) := by decide +kernel
theorem dX10_init_224 : decode cX10_init 224 = .ok (.bipush 7, 2) := by decide +kernel
theorem dX10_init_226 : decode cX10_init 226 = .ok (.newarray .int, 2) := by decide +kernel
theorem dX10_init_228 : decode cX10_init 228 = .ok (.putfield 94, 3) := by decide +kernel
theorem dX10_init_231 : decode cX10_init 231 = .ok (.iconst 0, 1) := by decide +kernel
theorem dX10_init_232 : decode cX10_init 232 = .ok (.istore_n 1, 1) := by decide +kernel
theorem dX10_init_233 : decode cX10_init 233 = .ok (.iload_n 1, 1) := by decide +kernel
theorem dX10_init_234 : decode cX10_init 234 = .ok (.bipush 6, 2) := by decide +kernel
theorem dX10_init_236 : decode cX10_init 236 = .ok (.if_icmp .ge 16, 3) := by decide +kernel
theorem dX10_init_239 : decode cX10_init 239 = .ok (.aload_n 0, 1) := by decide +kernel
theorem dX10_init_240 : decode cX10_init 240 = .ok (.getfield 78, 3) := by decide +kernel
theorem dX10_init_243 : decode cX10_init 243 = .ok (.iload_n 1, 1) := by decide +kernel
theorem dX10_init_244 : decode cX10_init 244 = .ok (.iconst (-1), 1) := by decide +kernel
theorem dX10_init_245 : decode cX10_init 245 = .ok (.iastore, 1) := by decide +kernel
theorem dX10_init_246 : decode cX10_init 246 = .ok (.iinc 1 1, 3) := by decide +kernel
theorem dX10_init_249 : decode cX10_init 249 = .ok (.goto (-16), 3) := by decide +kernel
theorem dX10_init_252 : decode cX10_init 252 = .ok (.return_, 1) := by decide +kernel
def sI0a : List Sh := [(0, 9, [(2, none), (2, none), (2, none), (2, none), (2, none), (2, none), (2, none), (2, none), (2, none), (2, none)]), (0, 2, [(2, none), (2, none), (0, none), (0, none)])]
def sI0b : List Sh := [(0, 9, [(2, none), (2, none), (2, none), (2, none), (2, none), (2, none), (2, none), (2, none), (2, none), (2, none)]), (0, 2, [(2, some 2), (2, some 3), (0, none), (0, none)]), (1, 32, []), (1, 63, [])]
def sI1a : List Sh := [(0, 9, [(2, some 1), (2, none), (2, none), (2, none), (2, none), (2, none), (2, none), (2, none), (2, none), (2, none)]), (0, 2, [(2, some 2), (2, some 3), (0, none), (0, none)]), (1, 32, []), (1, 63, []), (0, 4, [(2, none), (2, none), (2, none), (2, none), (2, none), (0, none), (0, none), (0, none), (0, none), (3, none)])]
def sI1b : List Sh := [(0, 9, [(2, some 1), (2, none), (2, none), (2, none), (2, none), (2, none), (2, none), (2, none), (2, none), (2, none)]), (0, 2, [(2, some 2), (2, some 3), (0, none), (0, none)]), (1, 32, []), (1, 63, []), (0, 4, [(2, some 5), (2, some 6), (2, some 7), (4, none), (4, none), (0, none), (0, none), (0, none), (0, none), (3, none)]), (1, 120, []), (1, 6, []), (1, 64, []), (1, 128, []), (1, 128, [])]
def sI2a : List Sh := [(0, 9, [(2, some 1), (2, some 4), (2, none), (2, none), (2, none), (2, none), (2, none), (2, none), (2, none), (2, none)]), (0, 2, [(2, some 2), (2, some 3), (0, none), (0, none)]), (1, 32, []), (1, 63, []), (0, 4, [(2, some 5), (2, some 6), (2, some 7), (4, none), (4, none), (0, none), (0, none), (0, none), (0, none), (3, none)]), (1, 120, []), (1, 6, []), (1, 64, []), (1, 128, []), (1, 128, []), (0, 7, [(2, none), (2, none), (2, none), (2, none), (2, none), (2, none), (2, none), (0, none), (0, none), (0, none), (0, none), (0, none)]), (0, 2, [(2, none), (2, none), (0, none), (0, none)])]
def sI2b : List Sh := [(0, 9, [(2, some 1), (2, some 4), (2, none), (2, none), (2, none), (2, none), (2, none), (2, none), (2, none), (2, none)]), (0, 2, [(2, some 2), (2, some 3), (0, none), (0, none)]), (1, 32, []), (1, 63, []), (0, 4, [(2, some 5), (2, some 6), (2, some 7), (4, none), (4, none), (0, none), (0, none), (0, none), (0, none), (3, none)]), (1, 120, []), (1, 6, []), (1, 64, []), (1, 128, []), (1, 128, []), (0, 7, [(2, none), (2, none), (2, none), (2, none), (2, none), (2, none), (2, none), (0, none), (0, none), (0, none), (0, none), (0, none)]), (0, 2, [(2, some 12), (2, some 13), (0, none), (0, none)]), (1, 32, []), (1, 63, [])]
def sI3a : List Sh := [(0, 9, [(2, some 1), (2, some 4), (2, none), (2, none), (2, none), (2, none), (2, none), (2, none), (2, none), (2, none)]), (0, 2, [(2, some 2), (2, some 3), (0, none), (0, none)]), (1, 32, []), (1, 63, []), (0, 4, [(2, some 5), (2, some 6), (2, some 7), (4, none), (4, none), (0, none), (0, none), (0, none), (0, none), (3, none)]), (1, 120, []), (1, 6, []), (1, 64, []), (1, 128, []), (1, 128, []), (0, 7, [(2, none), (2, none), (2, none), (2, none), (2, none), (2, none), (2, none), (0, none), (0, none), (0, none), (0, none), (0, none)])]
def sI3b : List Sh := [(0, 9, [(2, some 1), (2, some 4), (2, none), (2, none), (2, none), (2, none), (2, none), (2, none), (2, none), (2, none)]), (0, 2, [(2, some 2), (2, some 3), (0, none), (0, none)]), (1, 32, []), (1, 63, []), (0, 4, [(2, some 5), (2, some 6), (2, some 7), (4, none), (4, none), (0, none), (0, none), (0, none), (0, none), (3, none)]), (1, 120, []), (1, 6, []), (1, 64, []), (1, 128, []), (1, 128, []), (0, 7, [(2, some 11), (2, some 4), (2, some 14), (2, some 15), (2, some 16), (2, some 17), (2, some 18), (0, none), (0, none), (0, none), (0, none), (0, none)]), (0, 2, [(2, some 12), (2, some 13), (0, none), (0, none)]), (1, 32, []), (1, 63, []), (1, 7, []), (1, 7, []), (1, 252, []), (1, 7, []), (1, 16, [])]
def sI4a : List Sh := [(0, 9, [(2, some 1), (2, some 4), (2, some 10), (2, none), (2, none), (2, none), (2, none), (2, none), (2, none), (2, none)]), (0, 2, [(2, some 2), (2, some 3), (0, none), (0, none)]), (1, 32, []), (1, 63, []), (0, 4, [(2, some 5), (2, some 6), (2, some 7), (4, none), (4, none), (0, none), (0, none), (0, none), (0, none), (3, none)]), (1, 120, []), (1, 6, []), (1, 64, []), (1, 128, []), (1, 128, []), (0, 7, [(2, some 11), (2, some 4), (2, some 14), (2, some 15), (2, some 16), (2, some 17), (2, some 18), (0, none), (0, none), (0, none), (0, none), (0, none)]), (0, 2, [(2, some 12), (2, some 13), (0, none), (0, none)]), (1, 32, []), (1, 63, []), (1, 7, []), (1, 7, []), (1, 252, []), (1, 7, []), (1, 16, []), (0, 8, [(2, none), (2, none), (2, none), (0, none), (0, none), (0, none)])]
def sI4b : List Sh := [(0, 9, [(2, some 1), (2, some 4), (2, some 10), (2, none), (2, none), (2, none), (2, none), (2, none), (2, none), (2, none)]), (0, 2, [(2, some 2), (2, some 3), (0, none), (0, none)]), (1, 32, []), (1, 63, []), (0, 4, [(2, some 5), (2, some 6), (2, some 7), (4, none), (4, none), (0, none), (0, none), (0, none), (0, none), (3, none)]), (1, 120, []), (1, 6, []), (1, 64, []), (1, 128, []), (1, 128, []), (0, 7, [(2, some 11), (2, some 4), (2, some 14), (2, some 15), (2, some 16), (2, some 17), (2, some 18), (0, none), (0, none), (0, none), (0, none), (0, none)]), (0, 2, [(2, some 12), (2, some 13), (0, none), (0, none)]), (1, 32, []), (1, 63, []), (1, 7, []), (1, 7, []), (1, 252, []), (1, 7, []), (1, 16, []), (0, 8, [(2, some 10), (2, some 20), (2, some 21), (0, none), (0, none), (0, none)]), (1, 5, []), (1, 5, [])]
def sI5a : List Sh := [(0, 9, [(2, some 1), (2, some 4), (2, some 10), (2, some 19), (2, none), (2, none), (2, none), (2, none), (2, none), (2, none)]), (0, 2, [(2, some 2), (2, some 3), (0, none), (0, none)]), (1, 32, []), (1, 63, []), (0, 4, [(2, some 5), (2, some 6), (2, some 7), (4, none), (4, none), (0, none), (0, none), (0, none), (0, none), (3, none)]), (1, 120, []), (1, 6, []), (1, 64, []), (1, 128, []), (1, 128, []), (0, 7, [(2, some 11), (2, some 4), (2, some 14), (2, some 15), (2, some 16), (2, some 17), (2, some 18), (0, none), (0, none), (0, none), (0, none), (0, none)]), (0, 2, [(2, some 12), (2, some 13), (0, none), (0, none)]), (1, 32, []), (1, 63, []), (1, 7, []), (1, 7, []), (1, 252, []), (1, 7, []), (1, 16, []), (0, 8, [(2, some 10), (2, some 20), (2, some 21), (0, none), (0, none), (0, none)]), (1, 5, []), (1, 5, []), (0, 1, [(2, none), (2, none), (1, none)])]
def sI5b : List Sh := [(0, 9, [(2, some 1), (2, some 4), (2, some 10), (2, some 19), (2, none), (2, none), (2, none), (2, none), (2, none), (2, none)]), (0, 2, [(2, some 2), (2, some 3), (0, none), (0, none)]), (1, 32, []), (1, 63, []), (0, 4, [(2, some 5), (2, some 6), (2, some 7), (4, none), (4, none), (0, none), (0, none), (0, none), (0, none), (3, none)]), (1, 120, []), (1, 6, []), (1, 64, []), (1, 128, []), (1, 128, []), (0, 7, [(2, some 11), (2, some 4), (2, some 14), (2, some 15), (2, some 16), (2, some 17), (2, some 18), (0, none), (0, none), (0, none), (0, none), (0, none)]), (0, 2, [(2, some 12), (2, some 13), (0, none), (0, none)]), (1, 32, []), (1, 63, []), (1, 7, []), (1, 7, []), (1, 252, []), (1, 7, []), (1, 16, []), (0, 8, [(2, some 10), (2, some 20), (2, some 21), (0, none), (0, none), (0, none)]), (1, 5, []), (1, 5, []), (0, 1, [(2, some 23), (2, some 24), (1, none)]), (2, 256, []), (2, 8, [])]
def sI6a : List Sh := [(0, 9, [(2, some 1), (2, some 4), (2, some 10), (2, some 19), (2, some 22), (2, none), (2, none), (2, none), (2, none), (2, none)]), (0, 2, [(2, some 2), (2, some 3), (0, none), (0, none)]), (1, 32, []), (1, 63, []), (0, 4, [(2, some 5), (2, some 6), (2, some 7), (4, none), (4, none), (0, none), (0, none), (0, none), (0, none), (3, none)]), (1, 120, []), (1, 6, []), (1, 64, []), (1, 128, []), (1, 128, []), (0, 7, [(2, some 11), (2, some 4), (2, some 14), (2, some 15), (2, some 16), (2, some 17), (2, some 18), (0, none), (0, none), (0, none), (0, none), (0, none)]), (0, 2, [(2, some 12), (2, some 13), (0, none), (0, none)]), (1, 32, []), (1, 63, []), (1, 7, []), (1, 7, []), (1, 252, []), (1, 7, []), (1, 16, []), (0, 8, [(2, some 10), (2, some 20), (2, some 21), (0, none), (0, none), (0, none)]), (1, 5, []), (1, 5, []), (0, 1, [(2, some 23), (2, some 24), (1, none)]), (2, 256, []), (2, 8, []), (0, 0, [(2, none), (0, none), (0, none)])]
def sI6b : List Sh := [(0, 9, [(2, some 1), (2, some 4), (2, some 10), (2, some 19), (2, some 22), (2, none), (2, none), (2, none), (2, none), (2, none)]), (0, 2, [(2, some 2), (2, some 3), (0, none), (0, none)]), (1, 32, []), (1, 63, []), (0, 4, [(2, some 5), (2, some 6), (2, some 7), (4, none), (4, none), (0, none), (0, none), (0, none), (0, none), (3, none)]), (1, 120, []), (1, 6, []), (1, 64, []), (1, 128, []), (1, 128, []), (0, 7, [(2, some 11), (2, some 4), (2, some 14), (2, some 15), (2, some 16), (2, some 17), (2, some 18), (0, none), (0, none), (0, none), (0, none), (0, none)]), (0, 2, [(2, some 12), (2, some 13), (0, none), (0, none)]), (1, 32, []), (1, 63, []), (1, 7, []), (1, 7, []), (1, 252, []), (1, 7, []), (1, 16, []), (0, 8, [(2, some 10), (2, some 20), (2, some 21), (0, none), (0, none), (0, none)]), (1, 5, []), (1, 5, []), (0, 1, [(2, some 23), (2, some 24), (1, none)]), (2, 256, []), (2, 8, []), (0, 0, [(2, some 26), (0, none), (0, none)]), (1, 160, [])]
def sI7a : List Sh := [(0, 9, [(2, some 1), (2, some 4), (2, some 10), (2, some 19), (2, some 22), (2, some 25), (2, none), (2, none), (2, none), (2, none)]), (0, 2, [(2, some 2), (2, some 3), (0, none), (0, none)]), (1, 32, []), (1, 63, []), (0, 4, [(2, some 5), (2, some 6), (2, some 7), (4, none), (4, none), (0, none), (0, none), (0, none), (0, none), (3, none)]), (1, 120, []), (1, 6, []), (1, 64, []), (1, 128, []), (1, 128, []), (0, 7, [(2, some 11), (2, some 4), (2, some 14), (2, some 15), (2, some 16), (2, some 17), (2, some 18), (0, none), (0, none), (0, none), (0, none), (0, none)]), (0, 2, [(2, some 12), (2, some 13), (0, none), (0, none)]), (1, 32, []), (1, 63, []), (1, 7, []), (1, 7, []), (1, 252, []), (1, 7, []), (1, 16, []), (0, 8, [(2, some 10), (2, some 20), (2, some 21), (0, none), (0, none), (0, none)]), (1, 5, []), (1, 5, []), (0, 1, [(2, some 23), (2, some 24), (1, none)]), (2, 256, []), (2, 8, []), (0, 0, [(2, some 26), (0, none), (0, none)]), (1, 160, []), (0, 3, [(2, none), (2, none), (3, none)]), (0, 2, [(2, none), (2, none), (0, none), (0, none)])]
def sI7b : List Sh := [(0, 9, [(2, some 1), (2, some 4), (2, some 10), (2, some 19), (2, some 22), (2, some 25), (2, none), (2, none), (2, none), (2, none)]), (0, 2, [(2, some 2), (2, some 3), (0, none), (0, none)]), (1, 32, []), (1, 63, []), (0, 4, [(2, some 5), (2, some 6), (2, some 7), (4, none), (4, none), (0, none), (0, none), (0, none), (0, none), (3, none)]), (1, 120, []), (1, 6, []), (1, 64, []), (1, 128, []), (1, 128, []), (0, 7, [(2, some 11), (2, some 4), (2, some 14), (2, some 15), (2, some 16), (2, some 17), (2, some 18), (0, none), (0, none), (0, none), (0, none), (0, none)]), (0, 2, [(2, some 12), (2, some 13), (0, none), (0, none)]), (1, 32, []), (1, 63, []), (1, 7, []), (1, 7, []), (1, 252, []), (1, 7, []), (1, 16, []), (0, 8, [(2, some 10), (2, some 20), (2, some 21), (0, none), (0, none), (0, none)]), (1, 5, []), (1, 5, []), (0, 1, [(2, some 23), (2, some 24), (1, none)]), (2, 256, []), (2, 8, []), (0, 0, [(2, some 26), (0, none), (0, none)]), (1, 160, []), (0, 3, [(2, none), (2, none), (3, none)]), (0, 2, [(2, some 29), (2, some 30), (0, none), (0, none)]), (1, 32, []), (1, 63, [])]
def sI8a : List Sh := [(0, 9, [(2, some 1), (2, some 4), (2, some 10), (2, some 19), (2, some 22), (2, some 25), (2, none), (2, none), (2, none), (2, none)]), (0, 2, [(2, some 2), (2, some 3), (0, none), (0, none)]), (1, 32, []), (1, 63, []), (0, 4, [(2, some 5), (2, some 6), (2, some 7), (4, none), (4, none), (0, none), (0, none), (0, none), (0, none), (3, none)]), (1, 120, []), (1, 6, []), (1, 64, []), (1, 128, []), (1, 128, []), (0, 7, [(2, some 11), (2, some 4), (2, some 14), (2, some 15), (2, some 16), (2, some 17), (2, some 18), (0, none), (0, none), (0, none), (0, none), (0, none)]), (0, 2, [(2, some 12), (2, some 13), (0, none), (0, none)]), (1, 32, []), (1, 63, []), (1, 7, []), (1, 7, []), (1, 252, []), (1, 7, []), (1, 16, []), (0, 8, [(2, some 10), (2, some 20), (2, some 21), (0, none), (0, none), (0, none)]), (1, 5, []), (1, 5, []), (0, 1, [(2, some 23), (2, some 24), (1, none)]), (2, 256, []), (2, 8, []), (0, 0, [(2, some 26), (0, none), (0, none)]), (1, 160, []), (0, 3, [(2, none), (2, none), (3, none)])]
def sI8b : List Sh := [(0, 9, [(2, some 1), (2, some 4), (2, some 10), (2, some 19), (2, some 22), (2, some 25), (2, none), (2, none), (2, none), (2, none)]), (0, 2, [(2, some 2), (2, some 3), (0, none), (0, none)]), (1, 32, []), (1, 63, []), (0, 4, [(2, some 5), (2, some 6), (2, some 7), (4, none), (4, none), (0, none), (0, none), (0, none), (0, none), (3, none)]), (1, 120, []), (1, 6, []), (1, 64, []), (1, 128, []), (1, 128, []), (0, 7, [(2, some 11), (2, some 4), (2, some 14), (2, some 15), (2, some 16), (2, some 17), (2, some 18), (0, none), (0, none), (0, none), (0, none), (0, none)]), (0, 2, [(2, some 12), (2, some 13), (0, none), (0, none)]), (1, 32, []), (1, 63, []), (1, 7, []), (1, 7, []), (1, 252, []), (1, 7, []), (1, 16, []), (0, 8, [(2, some 10), (2, some 20), (2, some 21), (0, none), (0, none), (0, none)]), (1, 5, []), (1, 5, []), (0, 1, [(2, some 23), (2, some 24), (1, none)]), (2, 256, []), (2, 8, []), (0, 0, [(2, some 26), (0, none), (0, none)]), (1, 160, []), (0, 3, [(2, some 28), (2, some 31), (3, none)]), (0, 2, [(2, some 29), (2, some 30), (0, none), (0, none)]), (1, 32, []), (1, 63, []), (1, 5, [])]
def sI9a : List Sh := [(0, 9, [(2, some 1), (2, some 4), (2, some 10), (2, some 19), (2, some 22), (2, some 25), (2, some 27), (2, none), (2, none), (2, none)]), (0, 2, [(2, some 2), (2, some 3), (0, none), (0, none)]), (1, 32, []), (1, 63, []), (0, 4, [(2, some 5), (2, some 6), (2, some 7), (4, none), (4, none), (0, none), (0, none), (0, none), (0, none), (3, none)]), (1, 120, []), (1, 6, []), (1, 64, []), (1, 128, []), (1, 128, []), (0, 7, [(2, some 11), (2, some 4), (2, some 14), (2, some 15), (2, some 16), (2, some 17), (2, some 18), (0, none), (0, none), (0, none), (0, none), (0, none)]), (0, 2, [(2, some 12), (2, some 13), (0, none), (0, none)]), (1, 32, []), (1, 63, []), (1, 7, []), (1, 7, []), (1, 252, []), (1, 7, []), (1, 16, []), (0, 8, [(2, some 10), (2, some 20), (2, some 21), (0, none), (0, none), (0, none)]), (1, 5, []), (1, 5, []), (0, 1, [(2, some 23), (2, some 24), (1, none)]), (2, 256, []), (2, 8, []), (0, 0, [(2, some 26), (0, none), (0, none)]), (1, 160, []), (0, 3, [(2, some 28), (2, some 31), (3, none)]), (0, 2, [(2, some 29), (2, some 30), (0, none), (0, none)]), (1, 32, []), (1, 63, []), (1, 5, []), (0, 5, [(2, none), (2, none), (0, none), (0, none), (0, none)])]
def sI9b : List Sh := [(0, 9, [(2, some 1), (2, some 4), (2, some 10), (2, some 19), (2, some 22), (2, some 25), (2, some 27), (2, none), (2, none), (2, none)]), (0, 2, [(2, some 2), (2, some 3), (0, none), (0, none)]), (1, 32, []), (1, 63, []), (0, 4, [(2, some 5), (2, some 6), (2, some 7), (4, none), (4, none), (0, none), (0, none), (0, none), (0, none), (3, none)]), (1, 120, []), (1, 6, []), (1, 64, []), (1, 128, []), (1, 128, []), (0, 7, [(2, some 11), (2, some 4), (2, some 14), (2, some 15), (2, some 16), (2, some 17), (2, some 18), (0, none), (0, none), (0, none), (0, none), (0, none)]), (0, 2, [(2, some 12), (2, some 13), (0, none), (0, none)]), (1, 32, []), (1, 63, []), (1, 7, []), (1, 7, []), (1, 252, []), (1, 7, []), (1, 16, []), (0, 8, [(2, some 10), (2, some 20), (2, some 21), (0, none), (0, none), (0, none)]), (1, 5, []), (1, 5, []), (0, 1, [(2, some 23), (2, some 24), (1, none)]), (2, 256, []), (2, 8, []), (0, 0, [(2, some 26), (0, none), (0, none)]), (1, 160, []), (0, 3, [(2, some 28), (2, some 31), (3, none)]), (0, 2, [(2, some 29), (2, some 30), (0, none), (0, none)]), (1, 32, []), (1, 63, []), (1, 5, []), (0, 5, [(2, some 33), (2, some 34), (0, none), (0, none), (0, none)]), (1, 50, []), (1, 24, [])]
def sI10a : List Sh := [(0, 9, [(2, some 1), (2, some 4), (2, some 10), (2, some 19), (2, some 22), (2, some 25), (2, some 27), (2, some 32), (2, some 36), (2, some 35)]), (0, 2, [(2, some 2), (2, some 3), (0, none), (0, none)]), (1, 32, []), (1, 63, []), (0, 4, [(2, some 5), (2, some 6), (2, some 7), (4, none), (4, none), (0, none), (0, none), (0, none), (0, none), (3, none)]), (1, 120, []), (1, 6, []), (1, 64, []), (1, 128, []), (1, 128, []), (0, 7, [(2, some 11), (2, some 4), (2, some 14), (2, some 15), (2, some 16), (2, some 17), (2, some 18), (0, none), (0, none), (0, none), (0, none), (0, none)]), (0, 2, [(2, some 12), (2, some 13), (0, none), (0, none)]), (1, 32, []), (1, 63, []), (1, 7, []), (1, 7, []), (1, 252, []), (1, 7, []), (1, 16, []), (0, 8, [(2, some 10), (2, some 20), (2, some 21), (0, none), (0, none), (0, none)]), (1, 5, []), (1, 5, []), (0, 1, [(2, some 23), (2, some 24), (1, none)]), (2, 256, []), (2, 8, []), (0, 0, [(2, some 26), (0, none), (0, none)]), (1, 160, []), (0, 3, [(2, some 28), (2, some 31), (3, none)]), (0, 2, [(2, some 29), (2, some 30), (0, none), (0, none)]), (1, 32, []), (1, 63, []), (1, 5, []), (0, 5, [(2, some 33), (2, some 34), (0, none), (0, none), (0, none)]), (1, 50, []), (1, 24, []), (1, 5, []), (3, 6, [(2, none), (2, none), (2, none), (2, none), (2, none), (2, none)]), (0, 6, [(2, none), (0, none), (0, none), (0, none), (0, none)])]
def sI10b : List Sh := [(0, 9, [(2, some 1), (2, some 4), (2, some 10), (2, some 19), (2, some 22), (2, some 25), (2, some 27), (2, some 32), (2, some 36), (2, some 35)]), (0, 2, [(2, some 2), (2, some 3), (0, none), (0, none)]), (1, 32, []), (1, 63, []), (0, 4, [(2, some 5), (2, some 6), (2, some 7), (4, none), (4, none), (0, none), (0, none), (0, none), (0, none), (3, none)]), (1, 120, []), (1, 6, []), (1, 64, []), (1, 128, []), (1, 128, []), (0, 7, [(2, some 11), (2, some 4), (2, some 14), (2, some 15), (2, some 16), (2, some 17), (2, some 18), (0, none), (0, none), (0, none), (0, none), (0, none)]), (0, 2, [(2, some 12), (2, some 13), (0, none), (0, none)]), (1, 32, []), (1, 63, []), (1, 7, []), (1, 7, []), (1, 252, []), (1, 7, []), (1, 16, []), (0, 8, [(2, some 10), (2, some 20), (2, some 21), (0, none), (0, none), (0, none)]), (1, 5, []), (1, 5, []), (0, 1, [(2, some 23), (2, some 24), (1, none)]), (2, 256, []), (2, 8, []), (0, 0, [(2, some 26), (0, none), (0, none)]), (1, 160, []), (0, 3, [(2, some 28), (2, some 31), (3, none)]), (0, 2, [(2, some 29), (2, some 30), (0, none), (0, none)]), (1, 32, []), (1, 63, []), (1, 5, []), (0, 5, [(2, some 33), (2, some 34), (0, none), (0, none), (0, none)]), (1, 50, []), (1, 24, []), (1, 5, []), (3, 6, [(2, none), (2, none), (2, none), (2, none), (2, none), (2, none)]), (0, 6, [(2, some 38), (0, none), (0, none), (0, none), (0, none)]), (2, 60, [])]
def sI11a : List Sh := [(0, 9, [(2, some 1), (2, some 4), (2, some 10), (2, some 19), (2, some 22), (2, some 25), (2, some 27), (2, some 32), (2, some 36), (2, some 35)]), (0, 2, [(2, some 2), (2, some 3), (0, none), (0, none)]), (1, 32, []), (1, 63, []), (0, 4, [(2, some 5), (2, some 6), (2, some 7), (4, none), (4, none), (0, none), (0, none), (0, none), (0, none), (3, none)]), (1, 120, []), (1, 6, []), (1, 64, []), (1, 128, []), (1, 128, []), (0, 7, [(2, some 11), (2, some 4), (2, some 14), (2, some 15), (2, some 16), (2, some 17), (2, some 18), (0, none), (0, none), (0, none), (0, none), (0, none)]), (0, 2, [(2, some 12), (2, some 13), (0, none), (0, none)]), (1, 32, []), (1, 63, []), (1, 7, []), (1, 7, []), (1, 252, []), (1, 7, []), (1, 16, []), (0, 8, [(2, some 10), (2, some 20), (2, some 21), (0, none), (0, none), (0, none)]), (1, 5, []), (1, 5, []), (0, 1, [(2, some 23), (2, some 24), (1, none)]), (2, 256, []), (2, 8, []), (0, 0, [(2, some 26), (0, none), (0, none)]), (1, 160, []), (0, 3, [(2, some 28), (2, some 31), (3, none)]), (0, 2, [(2, some 29), (2, some 30), (0, none), (0, none)]), (1, 32, []), (1, 63, []), (1, 5, []), (0, 5, [(2, some 33), (2, some 34), (0, none), (0, none), (0, none)]), (1, 50, []), (1, 24, []), (1, 5, []), (3, 6, [(2, some 37), (2, none), (2, none), (2, none), (2, none), (2, none)]), (0, 6, [(2, some 38), (0, none), (0, none), (0, none), (0, none)]), (2, 60, []), (0, 6, [(2, none), (0, none), (0, none), (0, none), (0, none)])]
def sI11b : List Sh := [(0, 9, [(2, some 1), (2, some 4), (2, some 10), (2, some 19), (2, some 22), (2, some 25), (2, some 27), (2, some 32), (2, some 36), (2, some 35)]), (0, 2, [(2, some 2), (2, some 3), (0, none), (0, none)]), (1, 32, []), (1, 63, []), (0, 4, [(2, some 5), (2, some 6), (2, some 7), (4, none), (4, none), (0, none), (0, none), (0, none), (0, none), (3, none)]), (1, 120, []), (1, 6, []), (1, 64, []), (1, 128, []), (1, 128, []), (0, 7, [(2, some 11), (2, some 4), (2, some 14), (2, some 15), (2, some 16), (2, some 17), (2, some 18), (0, none), (0, none), (0, none), (0, none), (0, none)]), (0, 2, [(2, some 12), (2, some 13), (0, none), (0, none)]), (1, 32, []), (1, 63, []), (1, 7, []), (1, 7, []), (1, 252, []), (1, 7, []), (1, 16, []), (0, 8, [(2, some 10), (2, some 20), (2, some 21), (0, none), (0, none), (0, none)]), (1, 5, []), (1, 5, []), (0, 1, [(2, some 23), (2, some 24), (1, none)]), (2, 256, []), (2, 8, []), (0, 0, [(2, some 26), (0, none), (0, none)]), (1, 160, []), (0, 3, [(2, some 28), (2, some 31), (3, none)]), (0, 2, [(2, some 29), (2, some 30), (0, none), (0, none)]), (1, 32, []), (1, 63, []), (1, 5, []), (0, 5, [(2, some 33), (2, some 34), (0, none), (0, none), (0, none)]), (1, 50, []), (1, 24, []), (1, 5, []), (3, 6, [(2, some 37), (2, none), (2, none), (2, none), (2, none), (2, none)]), (0, 6, [(2, some 38), (0, none), (0, none), (0, none), (0, none)]), (2, 60, []), (0, 6, [(2, some 40), (0, none), (0, none), (0, none), (0, none)]), (2, 60, [])]
def sI12a : List Sh := [(0, 9, [(2, some 1), (2, some 4), (2, some 10), (2, some 19), (2, some 22), (2, some 25), (2, some 27), (2, some 32), (2, some 36), (2, some 35)]), (0, 2, [(2, some 2), (2, some 3), (0, none), (0, none)]), (1, 32, []), (1, 63, []), (0, 4, [(2, some 5), (2, some 6), (2, some 7), (4, none), (4, none), (0, none), (0, none), (0, none), (0, none), (3, none)]), (1, 120, []), (1, 6, []), (1, 64, []), (1, 128, []), (1, 128, []), (0, 7, [(2, some 11), (2, some 4), (2, some 14), (2, some 15), (2, some 16), (2, some 17), (2, some 18), (0, none), (0, none), (0, none), (0, none), (0, none)]), (0, 2, [(2, some 12), (2, some 13), (0, none), (0, none)]), (1, 32, []), (1, 63, []), (1, 7, []), (1, 7, []), (1, 252, []), (1, 7, []), (1, 16, []), (0, 8, [(2, some 10), (2, some 20), (2, some 21), (0, none), (0, none), (0, none)]), (1, 5, []), (1, 5, []), (0, 1, [(2, some 23), (2, some 24), (1, none)]), (2, 256, []), (2, 8, []), (0, 0, [(2, some 26), (0, none), (0, none)]), (1, 160, []), (0, 3, [(2, some 28), (2, some 31), (3, none)]), (0, 2, [(2, some 29), (2, some 30), (0, none), (0, none)]), (1, 32, []), (1, 63, []), (1, 5, []), (0, 5, [(2, some 33), (2, some 34), (0, none), (0, none), (0, none)]), (1, 50, []), (1, 24, []), (1, 5, []), (3, 6, [(2, some 37), (2, some 39), (2, none), (2, none), (2, none), (2, none)]), (0, 6, [(2, some 38), (0, none), (0, none), (0, none), (0, none)]), (2, 60, []), (0, 6, [(2, some 40), (0, none), (0, none), (0, none), (0, none)]), (2, 60, []), (0, 6, [(2, none), (0, none), (0, none), (0, none), (0, none)])]
def sI12b : List Sh := [(0, 9, [(2, some 1), (2, some 4), (2, some 10), (2, some 19), (2, some 22), (2, some 25), (2, some 27), (2, some 32), (2, some 36), (2, some 35)]), (0, 2, [(2, some 2), (2, some 3), (0, none), (0, none)]), (1, 32, []), (1, 63, []), (0, 4, [(2, some 5), (2, some 6), (2, some 7), (4, none), (4, none), (0, none), (0, none), (0, none), (0, none), (3, none)]), (1, 120, []), (1, 6, []), (1, 64, []), (1, 128, []), (1, 128, []), (0, 7, [(2, some 11), (2, some 4), (2, some 14), (2, some 15), (2, some 16), (2, some 17), (2, some 18), (0, none), (0, none), (0, none), (0, none), (0, none)]), (0, 2, [(2, some 12), (2, some 13), (0, none), (0, none)]), (1, 32, []), (1, 63, []), (1, 7, []), (1, 7, []), (1, 252, []), (1, 7, []), (1, 16, []), (0, 8, [(2, some 10), (2, some 20), (2, some 21), (0, none), (0, none), (0, none)]), (1, 5, []), (1, 5, []), (0, 1, [(2, some 23), (2, some 24), (1, none)]), (2, 256, []), (2, 8, []), (0, 0, [(2, some 26), (0, none), (0, none)]), (1, 160, []), (0, 3, [(2, some 28), (2, some 31), (3, none)]), (0, 2, [(2, some 29), (2, some 30), (0, none), (0, none)]), (1, 32, []), (1, 63, []), (1, 5, []), (0, 5, [(2, some 33), (2, some 34), (0, none), (0, none), (0, none)]), (1, 50, []), (1, 24, []), (1, 5, []), (3, 6, [(2, some 37), (2, some 39), (2, none), (2, none), (2, none), (2, none)]), (0, 6, [(2, some 38), (0, none), (0, none), (0, none), (0, none)]), (2, 60, []), (0, 6, [(2, some 40), (0, none), (0, none), (0, none), (0, none)]), (2, 60, []), (0, 6, [(2, some 42), (0, none), (0, none), (0, none), (0, none)]), (2, 60, [])]
def sI13a : List Sh := [(0, 9, [(2, some 1), (2, some 4), (2, some 10), (2, some 19), (2, some 22), (2, some 25), (2, some 27), (2, some 32), (2, some 36), (2, some 35)]), (0, 2, [(2, some 2), (2, some 3), (0, none), (0, none)]), (1, 32, []), (1, 63, []), (0, 4, [(2, some 5), (2, some 6), (2, some 7), (4, none), (4, none), (0, none), (0, none), (0, none), (0, none), (3, none)]), (1, 120, []), (1, 6, []), (1, 64, []), (1, 128, []), (1, 128, []), (0, 7, [(2, some 11), (2, some 4), (2, some 14), (2, some 15), (2, some 16), (2, some 17), (2, some 18), (0, none), (0, none), (0, none), (0, none), (0, none)]), (0, 2, [(2, some 12), (2, some 13), (0, none), (0, none)]), (1, 32, []), (1, 63, []), (1, 7, []), (1, 7, []), (1, 252, []), (1, 7, []), (1, 16, []), (0, 8, [(2, some 10), (2, some 20), (2, some 21), (0, none), (0, none), (0, none)]), (1, 5, []), (1, 5, []), (0, 1, [(2, some 23), (2, some 24), (1, none)]), (2, 256, []), (2, 8, []), (0, 0, [(2, some 26), (0, none), (0, none)]), (1, 160, []), (0, 3, [(2, some 28), (2, some 31), (3, none)]), (0, 2, [(2, some 29), (2, some 30), (0, none), (0, none)]), (1, 32, []), (1, 63, []), (1, 5, []), (0, 5, [(2, some 33), (2, some 34), (0, none), (0, none), (0, none)]), (1, 50, []), (1, 24, []), (1, 5, []), (3, 6, [(2, some 37), (2, some 39), (2, some 41), (2, none), (2, none), (2, none)]), (0, 6, [(2, some 38), (0, none), (0, none), (0, none), (0, none)]), (2, 60, []), (0, 6, [(2, some 40), (0, none), (0, none), (0, none), (0, none)]), (2, 60, []), (0, 6, [(2, some 42), (0, none), (0, none), (0, none), (0, none)]), (2, 60, []), (0, 6, [(2, none), (0, none), (0, none), (0, none), (0, none)])]
def sI13b : List Sh := [(0, 9, [(2, some 1), (2, some 4), (2, some 10), (2, some 19), (2, some 22), (2, some 25), (2, some 27), (2, some 32), (2, some 36), (2, some 35)]), (0, 2, [(2, some 2), (2, some 3), (0, none), (0, none)]), (1, 32, []), (1, 63, []), (0, 4, [(2, some 5), (2, some 6), (2, some 7), (4, none), (4, none), (0, none), (0, none), (0, none), (0, none), (3, none)]), (1, 120, []), (1, 6, []), (1, 64, []), (1, 128, []), (1, 128, []), (0, 7, [(2, some 11), (2, some 4), (2, some 14), (2, some 15), (2, some 16), (2, some 17), (2, some 18), (0, none), (0, none), (0, none), (0, none), (0, none)]), (0, 2, [(2, some 12), (2, some 13), (0, none), (0, none)]), (1, 32, []), (1, 63, []), (1, 7, []), (1, 7, []), (1, 252, []), (1, 7, []), (1, 16, []), (0, 8, [(2, some 10), (2, some 20), (2, some 21), (0, none), (0, none), (0, none)]), (1, 5, []), (1, 5, []), (0, 1, [(2, some 23), (2, some 24), (1, none)]), (2, 256, []), (2, 8, []), (0, 0, [(2, some 26), (0, none), (0, none)]), (1, 160, []), (0, 3, [(2, some 28), (2, some 31), (3, none)]), (0, 2, [(2, some 29), (2, some 30), (0, none), (0, none)]), (1, 32, []), (1, 63, []), (1, 5, []), (0, 5, [(2, some 33), (2, some 34), (0, none), (0, none), (0, none)]), (1, 50, []), (1, 24, []), (1, 5, []), (3, 6, [(2, some 37), (2, some 39), (2, some 41), (2, none), (2, none), (2, none)]), (0, 6, [(2, some 38), (0, none), (0, none), (0, none), (0, none)]), (2, 60, []), (0, 6, [(2, some 40), (0, none), (0, none), (0, none), (0, none)]), (2, 60, []), (0, 6, [(2, some 42), (0, none), (0, none), (0, none), (0, none)]), (2, 60, []), (0, 6, [(2, some 44), (0, none), (0, none), (0, none), (0, none)]), (2, 60, [])]
def sI14a : List Sh := [(0, 9, [(2, some 1), (2, some 4), (2, some 10), (2, some 19), (2, some 22), (2, some 25), (2, some 27), (2, some 32), (2, some 36), (2, some 35)]), (0, 2, [(2, some 2), (2, some 3), (0, none), (0, none)]), (1, 32, []), (1, 63, []), (0, 4, [(2, some 5), (2, some 6), (2, some 7), (4, none), (4, none), (0, none), (0, none), (0, none), (0, none), (3, none)]), (1, 120, []), (1, 6, []), (1, 64, []), (1, 128, []), (1, 128, []), (0, 7, [(2, some 11), (2, some 4), (2, some 14), (2, some 15), (2, some 16), (2, some 17), (2, some 18), (0, none), (0, none), (0, none), (0, none), (0, none)]), (0, 2, [(2, some 12), (2, some 13), (0, none), (0, none)]), (1, 32, []), (1, 63, []), (1, 7, []), (1, 7, []), (1, 252, []), (1, 7, []), (1, 16, []), (0, 8, [(2, some 10), (2, some 20), (2, some 21), (0, none), (0, none), (0, none)]), (1, 5, []), (1, 5, []), (0, 1, [(2, some 23), (2, some 24), (1, none)]), (2, 256, []), (2, 8, []), (0, 0, [(2, some 26), (0, none), (0, none)]), (1, 160, []), (0, 3, [(2, some 28), (2, some 31), (3, none)]), (0, 2, [(2, some 29), (2, some 30), (0, none), (0, none)]), (1, 32, []), (1, 63, []), (1, 5, []), (0, 5, [(2, some 33), (2, some 34), (0, none), (0, none), (0, none)]), (1, 50, []), (1, 24, []), (1, 5, []), (3, 6, [(2, some 37), (2, some 39), (2, some 41), (2, some 43), (2, none), (2, none)]), (0, 6, [(2, some 38), (0, none), (0, none), (0, none), (0, none)]), (2, 60, []), (0, 6, [(2, some 40), (0, none), (0, none), (0, none), (0, none)]), (2, 60, []), (0, 6, [(2, some 42), (0, none), (0, none), (0, none), (0, none)]), (2, 60, []), (0, 6, [(2, some 44), (0, none), (0, none), (0, none), (0, none)]), (2, 60, []), (0, 6, [(2, none), (0, none), (0, none), (0, none), (0, none)])]
def sI14b : List Sh := [(0, 9, [(2, some 1), (2, some 4), (2, some 10), (2, some 19), (2, some 22), (2, some 25), (2, some 27), (2, some 32), (2, some 36), (2, some 35)]), (0, 2, [(2, some 2), (2, some 3), (0, none), (0, none)]), (1, 32, []), (1, 63, []), (0, 4, [(2, some 5), (2, some 6), (2, some 7), (4, none), (4, none), (0, none), (0, none), (0, none), (0, none), (3, none)]), (1, 120, []), (1, 6, []), (1, 64, []), (1, 128, []), (1, 128, []), (0, 7, [(2, some 11), (2, some 4), (2, some 14), (2, some 15), (2, some 16), (2, some 17), (2, some 18), (0, none), (0, none), (0, none), (0, none), (0, none)]), (0, 2, [(2, some 12), (2, some 13), (0, none), (0, none)]), (1, 32, []), (1, 63, []), (1, 7, []), (1, 7, []), (1, 252, []), (1, 7, []), (1, 16, []), (0, 8, [(2, some 10), (2, some 20), (2, some 21), (0, none), (0, none), (0, none)]), (1, 5, []), (1, 5, []), (0, 1, [(2, some 23), (2, some 24), (1, none)]), (2, 256, []), (2, 8, []), (0, 0, [(2, some 26), (0, none), (0, none)]), (1, 160, []), (0, 3, [(2, some 28), (2, some 31), (3, none)]), (0, 2, [(2, some 29), (2, some 30), (0, none), (0, none)]), (1, 32, []), (1, 63, []), (1, 5, []), (0, 5, [(2, some 33), (2, some 34), (0, none), (0, none), (0, none)]), (1, 50, []), (1, 24, []), (1, 5, []), (3, 6, [(2, some 37), (2, some 39), (2, some 41), (2, some 43), (2, none), (2, none)]), (0, 6, [(2, some 38), (0, none), (0, none), (0, none), (0, none)]), (2, 60, []), (0, 6, [(2, some 40), (0, none), (0, none), (0, none), (0, none)]), (2, 60, []), (0, 6, [(2, some 42), (0, none), (0, none), (0, none), (0, none)]), (2, 60, []), (0, 6, [(2, some 44), (0, none), (0, none), (0, none), (0, none)]), (2, 60, []), (0, 6, [(2, some 46), (0, none), (0, none), (0, none), (0, none)]), (2, 60, [])]
def sI15a : List Sh := [(0, 9, [(2, some 1), (2, some 4), (2, some 10), (2, some 19), (2, some 22), (2, some 25), (2, some 27), (2, some 32), (2, some 36), (2, some 35)]), (0, 2, [(2, some 2), (2, some 3), (0, none), (0, none)]), (1, 32, []), (1, 63, []), (0, 4, [(2, some 5), (2, some 6), (2, some 7), (4, none), (4, none), (0, none), (0, none), (0, none), (0, none), (3, none)]), (1, 120, []), (1, 6, []), (1, 64, []), (1, 128, []), (1, 128, []), (0, 7, [(2, some 11), (2, some 4), (2, some 14), (2, some 15), (2, some 16), (2, some 17), (2, some 18), (0, none), (0, none), (0, none), (0, none), (0, none)]), (0, 2, [(2, some 12), (2, some 13), (0, none), (0, none)]), (1, 32, []), (1, 63, []), (1, 7, []), (1, 7, []), (1, 252, []), (1, 7, []), (1, 16, []), (0, 8, [(2, some 10), (2, some 20), (2, some 21), (0, none), (0, none), (0, none)]), (1, 5, []), (1, 5, []), (0, 1, [(2, some 23), (2, some 24), (1, none)]), (2, 256, []), (2, 8, []), (0, 0, [(2, some 26), (0, none), (0, none)]), (1, 160, []), (0, 3, [(2, some 28), (2, some 31), (3, none)]), (0, 2, [(2, some 29), (2, some 30), (0, none), (0, none)]), (1, 32, []), (1, 63, []), (1, 5, []), (0, 5, [(2, some 33), (2, some 34), (0, none), (0, none), (0, none)]), (1, 50, []), (1, 24, []), (1, 5, []), (3, 6, [(2, some 37), (2, some 39), (2, some 41), (2, some 43), (2, some 45), (2, none)]), (0, 6, [(2, some 38), (0, none), (0, none), (0, none), (0, none)]), (2, 60, []), (0, 6, [(2, some 40), (0, none), (0, none), (0, none), (0, none)]), (2, 60, []), (0, 6, [(2, some 42), (0, none), (0, none), (0, none), (0, none)]), (2, 60, []), (0, 6, [(2, some 44), (0, none), (0, none), (0, none), (0, none)]), (2, 60, []), (0, 6, [(2, some 46), (0, none), (0, none), (0, none), (0, none)]), (2, 60, []), (0, 6, [(2, none), (0, none), (0, none), (0, none), (0, none)])]
def sI15b : List Sh := [(0, 9, [(2, some 1), (2, some 4), (2, some 10), (2, some 19), (2, some 22), (2, some 25), (2, some 27), (2, some 32), (2, some 36), (2, some 35)]), (0, 2, [(2, some 2), (2, some 3), (0, none), (0, none)]), (1, 32, []), (1, 63, []), (0, 4, [(2, some 5), (2, some 6), (2, some 7), (4, none), (4, none), (0, none), (0, none), (0, none), (0, none), (3, none)]), (1, 120, []), (1, 6, []), (1, 64, []), (1, 128, []), (1, 128, []), (0, 7, [(2, some 11), (2, some 4), (2, some 14), (2, some 15), (2, some 16), (2, some 17), (2, some 18), (0, none), (0, none), (0, none), (0, none), (0, none)]), (0, 2, [(2, some 12), (2, some 13), (0, none), (0, none)]), (1, 32, []), (1, 63, []), (1, 7, []), (1, 7, []), (1, 252, []), (1, 7, []), (1, 16, []), (0, 8, [(2, some 10), (2, some 20), (2, some 21), (0, none), (0, none), (0, none)]), (1, 5, []), (1, 5, []), (0, 1, [(2, some 23), (2, some 24), (1, none)]), (2, 256, []), (2, 8, []), (0, 0, [(2, some 26), (0, none), (0, none)]), (1, 160, []), (0, 3, [(2, some 28), (2, some 31), (3, none)]), (0, 2, [(2, some 29), (2, some 30), (0, none), (0, none)]), (1, 32, []), (1, 63, []), (1, 5, []), (0, 5, [(2, some 33), (2, some 34), (0, none), (0, none), (0, none)]), (1, 50, []), (1, 24, []), (1, 5, []), (3, 6, [(2, some 37), (2, some 39), (2, some 41), (2, some 43), (2, some 45), (2, none)]), (0, 6, [(2, some 38), (0, none), (0, none), (0, none), (0, none)]), (2, 60, []), (0, 6, [(2, some 40), (0, none), (0, none), (0, none), (0, none)]), (2, 60, []), (0, 6, [(2, some 42), (0, none), (0, none), (0, none), (0, none)]), (2, 60, []), (0, 6, [(2, some 44), (0, none), (0, none), (0, none), (0, none)]), (2, 60, []), (0, 6, [(2, some 46), (0, none), (0, none), (0, none), (0, none)]), (2, 60, []), (0, 6, [(2, some 48), (0, none), (0, none), (0, none), (0, none)]), (2, 60, [])]
def sI16a : List Sh := [(0, 9, [(2, none), (2, none), (2, none), (2, none), (2, none), (2, none), (2, none), (2, none), (2, none), (2, none)])]
def sI16b : List Sh := [(0, 9, [(2, some 1), (2, some 4), (2, some 10), (2, some 19), (2, some 22), (2, some 25), (2, some 27), (2, some 32), (2, some 36), (2, some 35)]), (0, 2, [(2, some 2), (2, some 3), (0, none), (0, none)]), (1, 32, []), (1, 63, []), (0, 4, [(2, some 5), (2, some 6), (2, some 7), (4, none), (4, none), (0, none), (0, none), (0, none), (0, none), (3, none)]), (1, 120, []), (1, 6, []), (1, 64, []), (1, 128, []), (1, 128, []), (0, 7, [(2, some 11), (2, some 4), (2, some 14), (2, some 15), (2, some 16), (2, some 17), (2, some 18), (0, none), (0, none), (0, none), (0, none), (0, none)]), (0, 2, [(2, some 12), (2, some 13), (0, none), (0, none)]), (1, 32, []), (1, 63, []), (1, 7, []), (1, 7, []), (1, 252, []), (1, 7, []), (1, 16, []), (0, 8, [(2, some 10), (2, some 20), (2, some 21), (0, none), (0, none), (0, none)]), (1, 5, []), (1, 5, []), (0, 1, [(2, some 23), (2, some 24), (1, none)]), (2, 256, []), (2, 8, []), (0, 0, [(2, some 26), (0, none), (0, none)]), (1, 160, []), (0, 3, [(2, some 28), (2, some 31), (3, none)]), (0, 2, [(2, some 29), (2, some 30), (0, none), (0, none)]), (1, 32, []), (1, 63, []), (1, 5, []), (0, 5, [(2, some 33), (2, some 34), (0, none), (0, none), (0, none)]), (1, 50, []), (1, 24, []), (1, 5, []), (3, 6, [(2, some 37), (2, some 39), (2, some 41), (2, some 43), (2, some 45), (2, some 47)]), (0, 6, [(2, some 38), (0, none), (0, none), (0, none), (0, none)]), (2, 60, []), (0, 6, [(2, some 40), (0, none), (0, none), (0, none), (0, none)]), (2, 60, []), (0, 6, [(2, some 42), (0, none), (0, none), (0, none), (0, none)]), (2, 60, []), (0, 6, [(2, some 44), (0, none), (0, none), (0, none), (0, none)]), (2, 60, []), (0, 6, [(2, some 46), (0, none), (0, none), (0, none), (0, none)]), (2, 60, []), (0, 6, [(2, some 48), (0, none), (0, none), (0, none), (0, none)]), (2, 60, [])]
def sI17a : List Sh := [(0, 9, [(2, some 1), (2, some 4), (2, some 10), (2, some 19), (2, some 22), (2, some 25), (2, some 27), (2, some 32), (2, some 36), (2, some 35)]), (0, 2, [(2, some 2), (2, some 3), (0, none), (0, none)]), (1, 32, []), (1, 63, []), (0, 4, [(2, some 5), (2, some 6), (2, some 7), (4, none), (4, none), (0, none), (0, none), (0, none), (0, none), (3, none)]), (1, 120, []), (1, 6, []), (1, 64, []), (1, 128, []), (1, 128, []), (0, 7, [(2, some 11), (2, some 4), (2, some 14), (2, some 15), (2, some 16), (2, some 17), (2, some 18), (0, none), (0, none), (0, none), (0, none), (0, none)]), (0, 2, [(2, some 12), (2, some 13), (0, none), (0, none)]), (1, 32, []), (1, 63, []), (1, 7, []), (1, 7, []), (1, 252, []), (1, 7, []), (1, 16, []), (0, 8, [(2, some 10), (2, some 20), (2, some 21), (0, none), (0, none), (0, none)]), (1, 5, []), (1, 5, []), (0, 1, [(2, some 23), (2, some 24), (1, none)]), (2, 256, []), (2, 8, []), (0, 0, [(2, some 26), (0, none), (0, none)]), (1, 160, []), (0, 3, [(2, some 28), (2, some 31), (3, none)]), (0, 2, [(2, some 29), (2, some 30), (0, none), (0, none)]), (1, 32, []), (1, 63, []), (1, 5, []), (0, 5, [(2, some 33), (2, some 34), (0, none), (0, none), (0, none)]), (1, 50, []), (1, 24, []), (1, 5, []), (3, 6, [(2, some 37), (2, some 39), (2, some 41), (2, some 43), (2, some 45), (2, some 47)]), (0, 6, [(2, some 38), (0, none), (0, none), (0, none), (0, none)]), (2, 60, []), (0, 6, [(2, some 40), (0, none), (0, none), (0, none), (0, none)]), (2, 60, []), (0, 6, [(2, some 42), (0, none), (0, none), (0, none), (0, none)]), (2, 60, []), (0, 6, [(2, some 44), (0, none), (0, none), (0, none), (0, none)]), (2, 60, []), (0, 6, [(2, some 46), (0, none), (0, none), (0, none), (0, none)]), (2, 60, []), (0, 6, [(2, some 48), (0, none), (0, none), (0, none), (0, none)]), (2, 60, []), (0, 10, [(0, none), (2, none), (2, none), (2, none), (2, none), (0, none), (2, none), (0, none), (2, none), (3, none), (0, none), (2, none), (2, none), (2, none), (2, none), (0, none), (0, none), (0, none), (0, none), (2, none), (2, none), (2, none), (2, none), (2, none), (2, none), (2, none), (3, none), (0, none), (0, none), (2, none), (2, none), (0, none), (0, none), (2, none), (0, none), (2, none), (0, none), (2, none), (2, none), (2, none), (2, none), (2, none), (2, none), (2, none), (0, none)])]
def sI17b : List Sh := [(0, 9, [(2, some 1), (2, some 4), (2, some 10), (2, some 19), (2, some 22), (2, some 25), (2, some 27), (2, some 32), (2, some 36), (2, some 35)]), (0, 2, [(2, some 2), (2, some 3), (0, none), (0, none)]), (1, 32, []), (1, 63, []), (0, 4, [(2, some 5), (2, some 6), (2, some 7), (4, none), (4, none), (0, none), (0, none), (0, none), (0, none), (3, none)]), (1, 120, []), (1, 6, []), (1, 64, []), (1, 128, []), (1, 128, []), (0, 7, [(2, some 11), (2, some 4), (2, some 14), (2, some 15), (2, some 16), (2, some 17), (2, some 18), (0, none), (0, none), (0, none), (0, none), (0, none)]), (0, 2, [(2, some 12), (2, some 13), (0, none), (0, none)]), (1, 32, []), (1, 63, []), (1, 7, []), (1, 7, []), (1, 252, []), (1, 7, []), (1, 16, []), (0, 8, [(2, some 10), (2, some 20), (2, some 21), (0, none), (0, none), (0, none)]), (1, 5, []), (1, 5, []), (0, 1, [(2, some 23), (2, some 24), (1, none)]), (2, 256, []), (2, 8, []), (0, 0, [(2, some 26), (0, none), (0, none)]), (1, 160, []), (0, 3, [(2, some 28), (2, some 31), (3, none)]), (0, 2, [(2, some 29), (2, some 30), (0, none), (0, none)]), (1, 32, []), (1, 63, []), (1, 5, []), (0, 5, [(2, some 33), (2, some 34), (0, none), (0, none), (0, none)]), (1, 50, []), (1, 24, []), (1, 5, []), (3, 6, [(2, some 37), (2, some 39), (2, some 41), (2, some 43), (2, some 45), (2, some 47)]), (0, 6, [(2, some 38), (0, none), (0, none), (0, none), (0, none)]), (2, 60, []), (0, 6, [(2, some 40), (0, none), (0, none), (0, none), (0, none)]), (2, 60, []), (0, 6, [(2, some 42), (0, none), (0, none), (0, none), (0, none)]), (2, 60, []), (0, 6, [(2, some 44), (0, none), (0, none), (0, none), (0, none)]), (2, 60, []), (0, 6, [(2, some 46), (0, none), (0, none), (0, none), (0, none)]), (2, 60, []), (0, 6, [(2, some 48), (0, none), (0, none), (0, none), (0, none)]), (2, 60, []), (0, 10, [(0, none), (2, some 50), (2, some 51), (2, some 52), (2, some 53), (0, none), (2, some 54), (0, none), (2, some 55), (3, none), (0, none), (2, some 56), (2, some 57), (2, some 58), (2, some 59), (0, none), (0, none), (0, none), (0, none), (2, some 60), (2, some 61), (2, some 62), (2, some 63), (2, some 64), (2, some 65), (2, some 66), (3, none), (0, none), (0, none), (2, some 67), (2, some 68), (0, none), (0, none), (2, some 69), (0, none), (2, some 70), (0, none), (2, some 71), (2, some 72), (2, some 73), (2, some 74), (2, some 75), (2, some 76), (2, some 77), (0, none)]), (1, 8, []), (1, 8, []), (1, 8, []), (1, 8, []), (1, 63, []), (1, 120, []), (1, 60, []), (1, 60, []), (1, 60, []), (1, 200, []), (1, 61, []), (1, 61, []), (1, 61, []), (1, 200, []), (1, 200, []), (1, 6, []), (1, 5, []), (1, 45, []), (1, 5, []), (1, 160, []), (1, 50, []), (1, 24, []), (1, 6, []), (1, 6, []), (2, 360, []), (1, 45, []), (1, 7, []), (1, 7, [])]
def sgI : St := up (up (up (up (up (up (up (up (z0) 4 3 (Int.ofNat 8)) 4 4 (Int.ofNat 9)) 72 (Int.toNat 0) (-1)) 72 (Int.toNat 1) (-1)) 72 (Int.toNat 2) (-1)) 72 (Int.toNat 3) (-1)) 72 (Int.toNat 4) (-1)) 72 (Int.toNat 5) (-1)
theorem tI0 {l : Launch} {g : GT} : Ci l g yX2_init cX2_init 1 1 2 95 [vr 1] (sI0a, z0) (sI0b, z0) := by
  refine Ci.of (by decide) rfl (Nat.le_of_ble_eq_true rfl) (by decide +kernel) (by decide +kernel) (fun K e hnm hC hsz hR => ?_)
  refine g_aload_n hC dX2_init_0 0 rfl rfl ?_
  refine g_objI hC dX2_init_1 loRX2_3 lo_1 lo_2 (Nat.le_of_ble_eq_true rfl) (Nat.le_of_ble_eq_true rfl) ?_
  refine g_aload_n hC dX2_init_4 0 rfl rfl ?_
  refine g_bipush hC dX2_init_5 bp_32 ?_
  refine g_newiK (n := 2) hC dX2_init_7 arc_i (by decide) (by decide +kernel) (fun _ => rfl) (hsz_ hsz 0 rfl) (by decide) ?_
  refine g_putF hC hnm dX2_init_9 liRX2_11 ff_2_0 rfl (by decide +kernel) ?_
  refine g_aload_n hC dX2_init_12 0 rfl rfl ?_
  refine g_bipush hC dX2_init_13 bp_63 ?_
  refine g_newiK (n := 3) hC dX2_init_15 arc_i (by decide) (by decide +kernel) (fun _ => rfl) (hsz_ hsz 1 rfl) (by decide) ?_
  refine g_putF hC hnm dX2_init_17 liRX2_15 ff_2_1 rfl (by decide +kernel) ?_
  refine g_sh (l := sI0b) (by decide +kernel) ?_
  exact hR _ _ dX2_init_20
theorem tI1 {l : Launch} {g : GT} : Ci l g yX4_init cX4_init 1 1 5 446 [vr 4] (sI1a, z0) (sI1b, up (up (z0) 4 3 (Int.ofNat 8)) 4 4 (Int.ofNat 9)) := by
  refine Ci.of (by decide) rfl (Nat.le_of_ble_eq_true rfl) (by decide +kernel) (by decide +kernel) (fun K e hnm hC hsz hR => ?_)
  refine g_aload_n hC dX4_init_0 0 rfl rfl ?_
  refine g_objI hC dX4_init_1 loRX4_1 lo_1 lo_2 (Nat.le_of_ble_eq_true rfl) (Nat.le_of_ble_eq_true rfl) ?_
  refine g_aload_n hC dX4_init_4 0 rfl rfl ?_
  refine g_bipush hC dX4_init_5 bp_120 ?_
  refine g_newiK (n := 5) hC dX4_init_7 arc_i (by decide) (by decide +kernel) (fun _ => rfl) (hsz_ hsz 0 rfl) (by decide) ?_
  refine g_putF hC hnm dX4_init_9 liRX4_9 ff_4_0 rfl (by decide +kernel) ?_
  refine g_aload_n hC dX4_init_12 0 rfl rfl ?_
  refine g_bipush hC dX4_init_13 bp_6 ?_
  refine g_newiK (n := 6) hC dX4_init_15 arc_i (by decide) (by decide +kernel) (fun _ => rfl) (hsz_ hsz 1 rfl) (by decide) ?_
  refine g_putF hC hnm dX4_init_17 liRX4_13 ff_4_1 rfl (by decide +kernel) ?_
  refine g_aload_n hC dX4_init_20 0 rfl rfl ?_
  refine g_bipush hC dX4_init_21 bp_64 ?_
  refine g_newiK (n := 7) hC dX4_init_23 arc_i (by decide) (by decide +kernel) (fun _ => rfl) (hsz_ hsz 2 rfl) (by decide) ?_
  refine g_putF hC hnm dX4_init_25 liRX4_16 ff_4_2 rfl (by decide +kernel) ?_
  refine g_aload_n hC dX4_init_28 0 rfl rfl ?_
  refine g_sipush hC dX4_init_29 sp_128 ?_
  refine g_newiK (n := 8) hC dX4_init_32 arc_i (by decide) (by decide +kernel) (fun _ => rfl) (hsz_ hsz 3 rfl) (by decide) ?_
  refine g_putD hC dX4_init_34 liRX4_19 fp_4_3 rfl (by decide +kernel) ?_
  refine g_aload_n hC dX4_init_37 0 rfl rfl ?_
  refine g_sipush hC dX4_init_38 sp_128 ?_
  refine g_newiK (n := 9) hC dX4_init_41 arc_i (by decide) (by decide +kernel) (fun _ => rfl) (hsz_ hsz 4 rfl) (by decide) ?_
  refine g_putD hC dX4_init_43 liRX4_22 fp_4_4 rfl (by decide +kernel) ?_
  refine g_sh (l := sI1b) (by decide +kernel) ?_
  exact hR _ _ dX4_init_46
theorem tI2 {l : Launch} {g : GT} : Ci l g yX2_init cX2_init 1 1 2 95 [vr 11] (sI2a, up (up (z0) 4 3 (Int.ofNat 8)) 4 4 (Int.ofNat 9)) (sI2b, up (up (z0) 4 3 (Int.ofNat 8)) 4 4 (Int.ofNat 9)) := by
  refine Ci.of (by decide) rfl (Nat.le_of_ble_eq_true rfl) (by decide +kernel) (by decide +kernel) (fun K e hnm hC hsz hR => ?_)
  refine g_aload_n hC dX2_init_0 0 rfl rfl ?_
  refine g_objI hC dX2_init_1 loRX2_3 lo_1 lo_2 (Nat.le_of_ble_eq_true rfl) (Nat.le_of_ble_eq_true rfl) ?_
  refine g_aload_n hC dX2_init_4 0 rfl rfl ?_
  refine g_bipush hC dX2_init_5 bp_32 ?_
  refine g_newiK (n := 12) hC dX2_init_7 arc_i (by decide) (by decide +kernel) (fun _ => rfl) (hsz_ hsz 0 rfl) (by decide) ?_
  refine g_putF hC hnm dX2_init_9 liRX2_11 ff_2_0 rfl (by decide +kernel) ?_
  refine g_aload_n hC dX2_init_12 0 rfl rfl ?_
  refine g_bipush hC dX2_init_13 bp_63 ?_
  refine g_newiK (n := 13) hC dX2_init_15 arc_i (by decide) (by decide +kernel) (fun _ => rfl) (hsz_ hsz 1 rfl) (by decide) ?_
  refine g_putF hC hnm dX2_init_17 liRX2_15 ff_2_1 rfl (by decide +kernel) ?_
  refine g_sh (l := sI2b) (by decide +kernel) ?_
  exact hR _ _ dX2_init_20
theorem tI3 {l : Launch} {g : GT} : Ci l g yX7_init cX7_init 2 2 8 388 [vr 10, vr 4] (sI3a, up (up (z0) 4 3 (Int.ofNat 8)) 4 4 (Int.ofNat 9)) (sI3b, up (up (z0) 4 3 (Int.ofNat 8)) 4 4 (Int.ofNat 9)) := by
  refine Ci.of (by decide) rfl (Nat.le_of_ble_eq_true rfl) (by decide +kernel) (by decide +kernel) (fun K e hnm hC hsz hR => ?_)
  refine g_aload_n hC dX7_init_0 0 rfl rfl ?_
  refine g_objI hC dX7_init_1 loRX7_3 lo_1 lo_2 (Nat.le_of_ble_eq_true rfl) (Nat.le_of_ble_eq_true rfl) ?_
  refine g_aload_n hC dX7_init_4 0 rfl rfl ?_
  refine g_newK tgs_2 (n := 11) hC dX7_init_5 lcRX7_9 ins_2 ini_2 vc_2 iwX2 tyX2_ok (by decide) dfs_2 (by decide +kernel) (fun _ => rfl) (hsz_ hsz 0 rfl) (by decide) ?_
  refine g_dup hC dX7_init_8 rfl ?_
  refine g_sh (l := sI2a) (by decide +kernel) ?_
  refine g_callI hC dX7_init_9 tI2 miX2_init moX2_init rfl mlRX7_11 rfl rfl (Nat.le_of_ble_eq_true rfl) (Nat.le_of_ble_eq_true rfl) (Nat.le_of_ble_eq_true rfl) (by decide) (hsz_ hsz 1 rfl) (by decide) ?_
  refine g_putF hC hnm dX7_init_12 liRX7_12 ff_7_0 rfl (by decide +kernel) ?_
  refine g_aload_n hC dX7_init_15 0 rfl rfl ?_
  refine g_bipush hC dX7_init_16 bp_7 ?_
  refine g_newiK (n := 14) hC dX7_init_18 arc_i (by decide) (by decide +kernel) (fun _ => rfl) (hsz_ hsz 3 rfl) (by decide) ?_
  refine g_putF hC hnm dX7_init_20 liRX7_18 ff_7_2 rfl (by decide +kernel) ?_
  refine g_aload_n hC dX7_init_23 0 rfl rfl ?_
  refine g_bipush hC dX7_init_24 bp_7 ?_
  refine g_newiK (n := 15) hC dX7_init_26 arc_i (by decide) (by decide +kernel) (fun _ => rfl) (hsz_ hsz 4 rfl) (by decide) ?_
  refine g_putF hC hnm dX7_init_28 liRX7_22 ff_7_3 rfl (by decide +kernel) ?_
  refine g_aload_n hC dX7_init_31 0 rfl rfl ?_
  refine g_sipush hC dX7_init_32 sp_252 ?_
  refine g_newiK (n := 16) hC dX7_init_35 arc_i (by decide) (by decide +kernel) (fun _ => rfl) (hsz_ hsz 5 rfl) (by decide) ?_
  refine g_putF hC hnm dX7_init_37 liRX7_25 ff_7_4 rfl (by decide +kernel) ?_
  refine g_aload_n hC dX7_init_40 0 rfl rfl ?_
  refine g_bipush hC dX7_init_41 bp_7 ?_
  refine g_newiK (n := 17) hC dX7_init_43 arc_i (by decide) (by decide +kernel) (fun _ => rfl) (hsz_ hsz 6 rfl) (by decide) ?_
  refine g_putF hC hnm dX7_init_45 liRX7_28 ff_7_5 rfl (by decide +kernel) ?_
  refine g_aload_n hC dX7_init_48 0 rfl rfl ?_
  refine g_bipush hC dX7_init_49 bp_16 ?_
  refine g_newiK (n := 18) hC dX7_init_51 arc_i (by decide) (by decide +kernel) (fun _ => rfl) (hsz_ hsz 7 rfl) (by decide) ?_
  refine g_putF hC hnm dX7_init_53 liRX7_31 ff_7_6 rfl (by decide +kernel) ?_
  refine g_aload_n hC dX7_init_56 0 rfl rfl ?_
  refine g_aload_n hC dX7_init_57 1 rfl rfl ?_
  refine g_putF hC hnm dX7_init_58 liRX7_34 ff_7_1 rfl (by decide +kernel) ?_
  refine g_sh (l := sI3b) (by decide +kernel) ?_
  exact hR _ _ dX7_init_61
theorem tI4 {l : Launch} {g : GT} : Ci l g yX8_init cX8_init 2 1 2 10 [vr 19, vr 10] (sI4a, up (up (z0) 4 3 (Int.ofNat 8)) 4 4 (Int.ofNat 9)) (sI4b, up (up (z0) 4 3 (Int.ofNat 8)) 4 4 (Int.ofNat 9)) := by
  refine Ci.of (by decide) rfl (Nat.le_of_ble_eq_true rfl) (by decide +kernel) (by decide +kernel) (fun K e hnm hC hsz hR => ?_)
  refine g_aload_n hC dX8_init_0 0 rfl rfl ?_
  refine g_objI hC dX8_init_1 loRX8_3 lo_1 lo_2 (Nat.le_of_ble_eq_true rfl) (Nat.le_of_ble_eq_true rfl) ?_
  refine g_aload_n hC dX8_init_4 0 rfl rfl ?_
  refine g_iconst hC dX8_init_5 ok_5 ?_
  refine g_newiK (n := 20) hC dX8_init_6 arc_i (by decide) (by decide +kernel) (fun _ => rfl) (hsz_ hsz 0 rfl) (by decide) ?_
  refine g_putF hC hnm dX8_init_8 liRX8_11 ff_8_1 rfl (by decide +kernel) ?_
  refine g_aload_n hC dX8_init_11 0 rfl rfl ?_
  refine g_iconst hC dX8_init_12 ok_5 ?_
  refine g_newiK (n := 21) hC dX8_init_13 arc_i (by decide) (by decide +kernel) (fun _ => rfl) (hsz_ hsz 1 rfl) (by decide) ?_
  refine g_putF hC hnm dX8_init_15 liRX8_15 ff_8_2 rfl (by decide +kernel) ?_
  refine g_aload_n hC dX8_init_18 0 rfl rfl ?_
  refine g_aload_n hC dX8_init_19 1 rfl rfl ?_
  refine g_putF hC hnm dX8_init_20 liRX8_18 ff_8_0 rfl (by decide +kernel) ?_
  refine g_sh (l := sI4b) (by decide +kernel) ?_
  exact hR _ _ dX8_init_23
theorem tI5 {l : Launch} {g : GT} : Ci l g yX1_init cX1_init 1 1 2 264 [vr 22] (sI5a, up (up (z0) 4 3 (Int.ofNat 8)) 4 4 (Int.ofNat 9)) (sI5b, up (up (z0) 4 3 (Int.ofNat 8)) 4 4 (Int.ofNat 9)) := by
  refine Ci.of (by decide) rfl (Nat.le_of_ble_eq_true rfl) (by decide +kernel) (by decide +kernel) (fun K e hnm hC hsz hR => ?_)
  refine g_aload_n hC dX1_init_0 0 rfl rfl ?_
  refine g_objI hC dX1_init_1 loRX1_3 lo_1 lo_2 (Nat.le_of_ble_eq_true rfl) (Nat.le_of_ble_eq_true rfl) ?_
  refine g_aload_n hC dX1_init_4 0 rfl rfl ?_
  refine g_sipush hC dX1_init_5 sp_256 ?_
  refine g_newlK (n := 23) hC dX1_init_8 arc_l (by decide) (by decide +kernel) (fun _ => rfl) (hsz_ hsz 0 rfl) (by decide) ?_
  refine g_putF hC hnm dX1_init_10 liRX1_9 ff_1_0 rfl (by decide +kernel) ?_
  refine g_aload_n hC dX1_init_13 0 rfl rfl ?_
  refine g_bipush hC dX1_init_14 bp_8 ?_
  refine g_newlK (n := 24) hC dX1_init_16 arc_l (by decide) (by decide +kernel) (fun _ => rfl) (hsz_ hsz 1 rfl) (by decide) ?_
  refine g_putF hC hnm dX1_init_18 liRX1_15 ff_1_1 rfl (by decide +kernel) ?_
  refine g_sh (l := sI5b) (by decide +kernel) ?_
  exact hR _ _ dX1_init_21
theorem tI6 {l : Launch} {g : GT} : Ci l g yX0_init cX0_init 1 1 1 160 [vr 25] (sI6a, up (up (z0) 4 3 (Int.ofNat 8)) 4 4 (Int.ofNat 9)) (sI6b, up (up (z0) 4 3 (Int.ofNat 8)) 4 4 (Int.ofNat 9)) := by
  refine Ci.of (by decide) rfl (Nat.le_of_ble_eq_true rfl) (by decide +kernel) (by decide +kernel) (fun K e hnm hC hsz hR => ?_)
  refine g_aload_n hC dX0_init_0 0 rfl rfl ?_
  refine g_objI hC dX0_init_1 loRX0_1 lo_1 lo_2 (Nat.le_of_ble_eq_true rfl) (Nat.le_of_ble_eq_true rfl) ?_
  refine g_aload_n hC dX0_init_4 0 rfl rfl ?_
  refine g_sipush hC dX0_init_5 sp_160 ?_
  refine g_newiK (n := 26) hC dX0_init_8 arc_i (by decide) (by decide +kernel) (fun _ => rfl) (hsz_ hsz 0 rfl) (by decide) ?_
  refine g_putF hC hnm dX0_init_10 liRX0_9 ff_0_0 rfl (by decide +kernel) ?_
  refine g_sh (l := sI6b) (by decide +kernel) ?_
  exact hR _ _ dX0_init_13
theorem tI7 {l : Launch} {g : GT} : Ci l g yX2_init cX2_init 1 1 2 95 [vr 28] (sI7a, up (up (z0) 4 3 (Int.ofNat 8)) 4 4 (Int.ofNat 9)) (sI7b, up (up (z0) 4 3 (Int.ofNat 8)) 4 4 (Int.ofNat 9)) := by
  refine Ci.of (by decide) rfl (Nat.le_of_ble_eq_true rfl) (by decide +kernel) (by decide +kernel) (fun K e hnm hC hsz hR => ?_)
  refine g_aload_n hC dX2_init_0 0 rfl rfl ?_
  refine g_objI hC dX2_init_1 loRX2_3 lo_1 lo_2 (Nat.le_of_ble_eq_true rfl) (Nat.le_of_ble_eq_true rfl) ?_
  refine g_aload_n hC dX2_init_4 0 rfl rfl ?_
  refine g_bipush hC dX2_init_5 bp_32 ?_
  refine g_newiK (n := 29) hC dX2_init_7 arc_i (by decide) (by decide +kernel) (fun _ => rfl) (hsz_ hsz 0 rfl) (by decide) ?_
  refine g_putF hC hnm dX2_init_9 liRX2_11 ff_2_0 rfl (by decide +kernel) ?_
  refine g_aload_n hC dX2_init_12 0 rfl rfl ?_
  refine g_bipush hC dX2_init_13 bp_63 ?_
  refine g_newiK (n := 30) hC dX2_init_15 arc_i (by decide) (by decide +kernel) (fun _ => rfl) (hsz_ hsz 1 rfl) (by decide) ?_
  refine g_putF hC hnm dX2_init_17 liRX2_15 ff_2_1 rfl (by decide +kernel) ?_
  refine g_sh (l := sI7b) (by decide +kernel) ?_
  exact hR _ _ dX2_init_20
theorem tI8 {l : Launch} {g : GT} : Ci l g yX3_init cX3_init 1 2 4 104 [vr 27] (sI8a, up (up (z0) 4 3 (Int.ofNat 8)) 4 4 (Int.ofNat 9)) (sI8b, up (up (z0) 4 3 (Int.ofNat 8)) 4 4 (Int.ofNat 9)) := by
  refine Ci.of (by decide) rfl (Nat.le_of_ble_eq_true rfl) (by decide +kernel) (by decide +kernel) (fun K e hnm hC hsz hR => ?_)
  refine g_aload_n hC dX3_init_0 0 rfl rfl ?_
  refine g_objI hC dX3_init_1 loRX3_3 lo_1 lo_2 (Nat.le_of_ble_eq_true rfl) (Nat.le_of_ble_eq_true rfl) ?_
  refine g_aload_n hC dX3_init_4 0 rfl rfl ?_
  refine g_newK tgs_2 (n := 28) hC dX3_init_5 lcRX3_9 ins_2 ini_2 vc_2 iwX2 tyX2_ok (by decide) dfs_2 (by decide +kernel) (fun _ => rfl) (hsz_ hsz 0 rfl) (by decide) ?_
  refine g_dup hC dX3_init_8 rfl ?_
  refine g_sh (l := sI7a) (by decide +kernel) ?_
  refine g_callI hC dX3_init_9 tI7 miX2_init moX2_init rfl mlRX3_11 rfl rfl (Nat.le_of_ble_eq_true rfl) (Nat.le_of_ble_eq_true rfl) (Nat.le_of_ble_eq_true rfl) (by decide) (hsz_ hsz 1 rfl) (by decide) ?_
  refine g_putF hC hnm dX3_init_12 liRX3_12 ff_3_0 rfl (by decide +kernel) ?_
  refine g_aload_n hC dX3_init_15 0 rfl rfl ?_
  refine g_iconst hC dX3_init_16 ok_5 ?_
  refine g_newiK (n := 31) hC dX3_init_17 arc_i (by decide) (by decide +kernel) (fun _ => rfl) (hsz_ hsz 3 rfl) (by decide) ?_
  refine g_putF hC hnm dX3_init_19 liRX3_18 ff_3_1 rfl (by decide +kernel) ?_
  refine g_sh (l := sI8b) (by decide +kernel) ?_
  exact hR _ _ dX3_init_22
theorem tI9 {l : Launch} {g : GT} : Ci l g yX5_init cX5_init 1 1 2 74 [vr 32] (sI9a, up (up (z0) 4 3 (Int.ofNat 8)) 4 4 (Int.ofNat 9)) (sI9b, up (up (z0) 4 3 (Int.ofNat 8)) 4 4 (Int.ofNat 9)) := by
  refine Ci.of (by decide) rfl (Nat.le_of_ble_eq_true rfl) (by decide +kernel) (by decide +kernel) (fun K e hnm hC hsz hR => ?_)
  refine g_aload_n hC dX5_init_0 0 rfl rfl ?_
  refine g_objI hC dX5_init_1 loRX5_3 lo_1 lo_2 (Nat.le_of_ble_eq_true rfl) (Nat.le_of_ble_eq_true rfl) ?_
  refine g_aload_n hC dX5_init_4 0 rfl rfl ?_
  refine g_bipush hC dX5_init_5 bp_50 ?_
  refine g_newiK (n := 33) hC dX5_init_7 arc_i (by decide) (by decide +kernel) (fun _ => rfl) (hsz_ hsz 0 rfl) (by decide) ?_
  refine g_putF hC hnm dX5_init_9 liRX5_11 ff_5_0 rfl (by decide +kernel) ?_
  refine g_aload_n hC dX5_init_12 0 rfl rfl ?_
  refine g_bipush hC dX5_init_13 bp_24 ?_
  refine g_newiK (n := 34) hC dX5_init_15 arc_i (by decide) (by decide +kernel) (fun _ => rfl) (hsz_ hsz 1 rfl) (by decide) ?_
  refine g_putF hC hnm dX5_init_17 liRX5_15 ff_5_1 rfl (by decide +kernel) ?_
  refine g_sh (l := sI9b) (by decide +kernel) ?_
  exact hR _ _ dX5_init_20
theorem tI10 {l : Launch} {g : GT} : Ci l g yX6_init cX6_init 1 1 1 60 [vr 37] (sI10a, up (up (z0) 4 3 (Int.ofNat 8)) 4 4 (Int.ofNat 9)) (sI10b, up (up (z0) 4 3 (Int.ofNat 8)) 4 4 (Int.ofNat 9)) := by
  refine Ci.of (by decide) rfl (Nat.le_of_ble_eq_true rfl) (by decide +kernel) (by decide +kernel) (fun K e hnm hC hsz hR => ?_)
  refine g_aload_n hC dX6_init_0 0 rfl rfl ?_
  refine g_objI hC dX6_init_1 loRX6_3 lo_1 lo_2 (Nat.le_of_ble_eq_true rfl) (Nat.le_of_ble_eq_true rfl) ?_
  refine g_aload_n hC dX6_init_4 0 rfl rfl ?_
  refine g_bipush hC dX6_init_5 bp_60 ?_
  refine g_newlK (n := 38) hC dX6_init_7 arc_l (by decide) (by decide +kernel) (fun _ => rfl) (hsz_ hsz 0 rfl) (by decide) ?_
  refine g_putF hC hnm dX6_init_9 liRX6_9 ff_6_0 rfl (by decide +kernel) ?_
  refine g_sh (l := sI10b) (by decide +kernel) ?_
  exact hR _ _ dX6_init_12
theorem tI11 {l : Launch} {g : GT} : Ci l g yX6_init cX6_init 1 1 1 60 [vr 39] (sI11a, up (up (z0) 4 3 (Int.ofNat 8)) 4 4 (Int.ofNat 9)) (sI11b, up (up (z0) 4 3 (Int.ofNat 8)) 4 4 (Int.ofNat 9)) := by
  refine Ci.of (by decide) rfl (Nat.le_of_ble_eq_true rfl) (by decide +kernel) (by decide +kernel) (fun K e hnm hC hsz hR => ?_)
  refine g_aload_n hC dX6_init_0 0 rfl rfl ?_
  refine g_objI hC dX6_init_1 loRX6_3 lo_1 lo_2 (Nat.le_of_ble_eq_true rfl) (Nat.le_of_ble_eq_true rfl) ?_
  refine g_aload_n hC dX6_init_4 0 rfl rfl ?_
  refine g_bipush hC dX6_init_5 bp_60 ?_
  refine g_newlK (n := 40) hC dX6_init_7 arc_l (by decide) (by decide +kernel) (fun _ => rfl) (hsz_ hsz 0 rfl) (by decide) ?_
  refine g_putF hC hnm dX6_init_9 liRX6_9 ff_6_0 rfl (by decide +kernel) ?_
  refine g_sh (l := sI11b) (by decide +kernel) ?_
  exact hR _ _ dX6_init_12
theorem tI12 {l : Launch} {g : GT} : Ci l g yX6_init cX6_init 1 1 1 60 [vr 41] (sI12a, up (up (z0) 4 3 (Int.ofNat 8)) 4 4 (Int.ofNat 9)) (sI12b, up (up (z0) 4 3 (Int.ofNat 8)) 4 4 (Int.ofNat 9)) := by
  refine Ci.of (by decide) rfl (Nat.le_of_ble_eq_true rfl) (by decide +kernel) (by decide +kernel) (fun K e hnm hC hsz hR => ?_)
  refine g_aload_n hC dX6_init_0 0 rfl rfl ?_
  refine g_objI hC dX6_init_1 loRX6_3 lo_1 lo_2 (Nat.le_of_ble_eq_true rfl) (Nat.le_of_ble_eq_true rfl) ?_
  refine g_aload_n hC dX6_init_4 0 rfl rfl ?_
  refine g_bipush hC dX6_init_5 bp_60 ?_
  refine g_newlK (n := 42) hC dX6_init_7 arc_l (by decide) (by decide +kernel) (fun _ => rfl) (hsz_ hsz 0 rfl) (by decide) ?_
  refine g_putF hC hnm dX6_init_9 liRX6_9 ff_6_0 rfl (by decide +kernel) ?_
  refine g_sh (l := sI12b) (by decide +kernel) ?_
  exact hR _ _ dX6_init_12
theorem tI13 {l : Launch} {g : GT} : Ci l g yX6_init cX6_init 1 1 1 60 [vr 43] (sI13a, up (up (z0) 4 3 (Int.ofNat 8)) 4 4 (Int.ofNat 9)) (sI13b, up (up (z0) 4 3 (Int.ofNat 8)) 4 4 (Int.ofNat 9)) := by
  refine Ci.of (by decide) rfl (Nat.le_of_ble_eq_true rfl) (by decide +kernel) (by decide +kernel) (fun K e hnm hC hsz hR => ?_)
  refine g_aload_n hC dX6_init_0 0 rfl rfl ?_
  refine g_objI hC dX6_init_1 loRX6_3 lo_1 lo_2 (Nat.le_of_ble_eq_true rfl) (Nat.le_of_ble_eq_true rfl) ?_
  refine g_aload_n hC dX6_init_4 0 rfl rfl ?_
  refine g_bipush hC dX6_init_5 bp_60 ?_
  refine g_newlK (n := 44) hC dX6_init_7 arc_l (by decide) (by decide +kernel) (fun _ => rfl) (hsz_ hsz 0 rfl) (by decide) ?_
  refine g_putF hC hnm dX6_init_9 liRX6_9 ff_6_0 rfl (by decide +kernel) ?_
  refine g_sh (l := sI13b) (by decide +kernel) ?_
  exact hR _ _ dX6_init_12
theorem tI14 {l : Launch} {g : GT} : Ci l g yX6_init cX6_init 1 1 1 60 [vr 45] (sI14a, up (up (z0) 4 3 (Int.ofNat 8)) 4 4 (Int.ofNat 9)) (sI14b, up (up (z0) 4 3 (Int.ofNat 8)) 4 4 (Int.ofNat 9)) := by
  refine Ci.of (by decide) rfl (Nat.le_of_ble_eq_true rfl) (by decide +kernel) (by decide +kernel) (fun K e hnm hC hsz hR => ?_)
  refine g_aload_n hC dX6_init_0 0 rfl rfl ?_
  refine g_objI hC dX6_init_1 loRX6_3 lo_1 lo_2 (Nat.le_of_ble_eq_true rfl) (Nat.le_of_ble_eq_true rfl) ?_
  refine g_aload_n hC dX6_init_4 0 rfl rfl ?_
  refine g_bipush hC dX6_init_5 bp_60 ?_
  refine g_newlK (n := 46) hC dX6_init_7 arc_l (by decide) (by decide +kernel) (fun _ => rfl) (hsz_ hsz 0 rfl) (by decide) ?_
  refine g_putF hC hnm dX6_init_9 liRX6_9 ff_6_0 rfl (by decide +kernel) ?_
  refine g_sh (l := sI14b) (by decide +kernel) ?_
  exact hR _ _ dX6_init_12
theorem tI15 {l : Launch} {g : GT} : Ci l g yX6_init cX6_init 1 1 1 60 [vr 47] (sI15a, up (up (z0) 4 3 (Int.ofNat 8)) 4 4 (Int.ofNat 9)) (sI15b, up (up (z0) 4 3 (Int.ofNat 8)) 4 4 (Int.ofNat 9)) := by
  refine Ci.of (by decide) rfl (Nat.le_of_ble_eq_true rfl) (by decide +kernel) (by decide +kernel) (fun K e hnm hC hsz hR => ?_)
  refine g_aload_n hC dX6_init_0 0 rfl rfl ?_
  refine g_objI hC dX6_init_1 loRX6_3 lo_1 lo_2 (Nat.le_of_ble_eq_true rfl) (Nat.le_of_ble_eq_true rfl) ?_
  refine g_aload_n hC dX6_init_4 0 rfl rfl ?_
  refine g_bipush hC dX6_init_5 bp_60 ?_
  refine g_newlK (n := 48) hC dX6_init_7 arc_l (by decide) (by decide +kernel) (fun _ => rfl) (hsz_ hsz 0 rfl) (by decide) ?_
  refine g_putF hC hnm dX6_init_9 liRX6_9 ff_6_0 rfl (by decide +kernel) ?_
  refine g_sh (l := sI15b) (by decide +kernel) ?_
  exact hR _ _ dX6_init_12
theorem tI16 {l : Launch} {g : GT} : Ci l g yX9_init cX9_init 2 3 48 1988 [vr 0] (sI16a, z0) (sI16b, up (up (z0) 4 3 (Int.ofNat 8)) 4 4 (Int.ofNat 9)) := by
  refine Ci.of (by decide) rfl (Nat.le_of_ble_eq_true rfl) (by decide +kernel) (by decide +kernel) (fun K e hnm hC hsz hR => ?_)
  refine g_aload_n hC dX9_init_0 0 rfl rfl ?_
  refine g_objI hC dX9_init_1 loRX9_1 lo_1 lo_2 (Nat.le_of_ble_eq_true rfl) (Nat.le_of_ble_eq_true rfl) ?_
  refine g_aload_n hC dX9_init_4 0 rfl rfl ?_
  refine g_newK tgs_2 (n := 1) hC dX9_init_5 lcRX9_7 ins_2 ini_2 vc_2 iwX2 tyX2_ok (by decide) dfs_2 (by decide +kernel) (fun _ => rfl) (hsz_ hsz 0 rfl) (by decide) ?_
  refine g_dup hC dX9_init_8 rfl ?_
  refine g_sh (l := sI0a) (by decide +kernel) ?_
  refine g_callI hC dX9_init_9 tI0 miX2_init moX2_init rfl mlRX9_9 rfl rfl (Nat.le_of_ble_eq_true rfl) (Nat.le_of_ble_eq_true rfl) (Nat.le_of_ble_eq_true rfl) (by decide) (hsz_ hsz 1 rfl) (by decide) ?_
  refine g_putF hC hnm dX9_init_12 liRX9_10 ff_9_0 rfl (by decide +kernel) ?_
  refine g_aload_n hC dX9_init_15 0 rfl rfl ?_
  refine g_newK tgs_4 (n := 4) hC dX9_init_16 lcRX9_16 ins_4 ini_4 vc_4 iwX4 tyX4_ok (by decide) dfs_4 (by decide +kernel) (fun _ => rfl) (hsz_ hsz 3 rfl) (by decide) ?_
  refine g_dup hC dX9_init_19 rfl ?_
  refine g_sh (l := sI1a) (by decide +kernel) ?_
  refine g_callI hC dX9_init_20 tI1 miX4_init moX4_init rfl mlRX9_18 rfl rfl (Nat.le_of_ble_eq_true rfl) (Nat.le_of_ble_eq_true rfl) (Nat.le_of_ble_eq_true rfl) (by decide) (hsz_ hsz 4 rfl) (by decide) ?_
  refine g_putF hC hnm dX9_init_23 liRX9_19 ff_9_1 rfl (by decide +kernel) ?_
  refine g_aload_n hC dX9_init_26 0 rfl rfl ?_
  refine g_newK tgs_7 (n := 10) hC dX9_init_27 lcRX9_23 ins_7 ini_7 vc_7 iwX7 tyX7_ok (by decide) dfs_7 (by decide +kernel) (fun _ => rfl) (hsz_ hsz 9 rfl) (by decide) ?_
  refine g_dup hC dX9_init_30 rfl ?_
  refine g_aload_n hC dX9_init_31 0 rfl rfl ?_
  refine g_getr (d := 4) hC dX9_init_32 lfRX9_19 rfl rfl ?_
  refine g_sh (l := sI3a) (by decide +kernel) ?_
  refine g_callI hC dX9_init_35 tI3 miX7_init moX7_init rfl mlRX9_25 rfl rfl (Nat.le_of_ble_eq_true rfl) (Nat.le_of_ble_eq_true rfl) (Nat.le_of_ble_eq_true rfl) (by decide) (hsz_ hsz 10 rfl) (by decide) ?_
  refine g_putF hC hnm dX9_init_38 liRX9_28 ff_9_2 rfl (by decide +kernel) ?_
  refine g_aload_n hC dX9_init_41 0 rfl rfl ?_
  refine g_newK tgs_8 (n := 19) hC dX9_init_42 lcRX9_32 ins_8 ini_8 vc_8 iwX8 tyX8_ok (by decide) dfs_8 (by decide +kernel) (fun _ => rfl) (hsz_ hsz 18 rfl) (by decide) ?_
  refine g_dup hC dX9_init_45 rfl ?_
  refine g_aload_n hC dX9_init_46 0 rfl rfl ?_
  refine g_getr (d := 10) hC dX9_init_47 lfRX9_28 rfl rfl ?_
  refine g_sh (l := sI4a) (by decide +kernel) ?_
  refine g_callI hC dX9_init_50 tI4 miX8_init moX8_init rfl mlRX9_34 rfl rfl (Nat.le_of_ble_eq_true rfl) (Nat.le_of_ble_eq_true rfl) (Nat.le_of_ble_eq_true rfl) (by decide) (hsz_ hsz 19 rfl) (by decide) ?_
  refine g_putF hC hnm dX9_init_53 liRX9_37 ff_9_3 rfl (by decide +kernel) ?_
  refine g_aload_n hC dX9_init_56 0 rfl rfl ?_
  refine g_newK tgs_1 (n := 22) hC dX9_init_57 lcRX9_41 ins_1 ini_1 vc_1 iwX1 tyX1_ok (by decide) dfs_1 (by decide +kernel) (fun _ => rfl) (hsz_ hsz 21 rfl) (by decide) ?_
  refine g_dup hC dX9_init_60 rfl ?_
  refine g_sh (l := sI5a) (by decide +kernel) ?_
  refine g_callI hC dX9_init_61 tI5 miX1_init moX1_init rfl mlRX9_43 rfl rfl (Nat.le_of_ble_eq_true rfl) (Nat.le_of_ble_eq_true rfl) (Nat.le_of_ble_eq_true rfl) (by decide) (hsz_ hsz 22 rfl) (by decide) ?_
  refine g_putF hC hnm dX9_init_64 liRX9_44 ff_9_4 rfl (by decide +kernel) ?_
  refine g_aload_n hC dX9_init_67 0 rfl rfl ?_
  refine g_newK tgs_0 (n := 25) hC dX9_init_68 lcRX9_48 ins_0 ini_0 vc_0 iwX0 tyX0_ok (by decide) dfs_0 (by decide +kernel) (fun _ => rfl) (hsz_ hsz 24 rfl) (by decide) ?_
  refine g_dup hC dX9_init_71 rfl ?_
  refine g_sh (l := sI6a) (by decide +kernel) ?_
  refine g_callI hC dX9_init_72 tI6 miX0_init moX0_init rfl mlRX9_50 rfl rfl (Nat.le_of_ble_eq_true rfl) (Nat.le_of_ble_eq_true rfl) (Nat.le_of_ble_eq_true rfl) (by decide) (hsz_ hsz 25 rfl) (by decide) ?_
  refine g_putF hC hnm dX9_init_75 liRX9_51 ff_9_5 rfl (by decide +kernel) ?_
  refine g_aload_n hC dX9_init_78 0 rfl rfl ?_
  refine g_newK tgs_3 (n := 27) hC dX9_init_79 lcRX9_55 ins_3 ini_3 vc_3 iwX3 tyX3_ok (by decide) dfs_3 (by decide +kernel) (fun _ => rfl) (hsz_ hsz 26 rfl) (by decide) ?_
  refine g_dup hC dX9_init_82 rfl ?_
  refine g_sh (l := sI8a) (by decide +kernel) ?_
  refine g_callI hC dX9_init_83 tI8 miX3_init moX3_init rfl mlRX9_57 rfl rfl (Nat.le_of_ble_eq_true rfl) (Nat.le_of_ble_eq_true rfl) (Nat.le_of_ble_eq_true rfl) (by decide) (hsz_ hsz 27 rfl) (by decide) ?_
  refine g_putF hC hnm dX9_init_86 liRX9_58 ff_9_6 rfl (by decide +kernel) ?_
  refine g_aload_n hC dX9_init_89 0 rfl rfl ?_
  refine g_newK tgs_5 (n := 32) hC dX9_init_90 lcRX9_62 ins_5 ini_5 vc_5 iwX5 tyX5_ok (by decide) dfs_5 (by decide +kernel) (fun _ => rfl) (hsz_ hsz 31 rfl) (by decide) ?_
  refine g_dup hC dX9_init_93 rfl ?_
  refine g_sh (l := sI9a) (by decide +kernel) ?_
  refine g_callI hC dX9_init_94 tI9 miX5_init moX5_init rfl mlRX9_64 rfl rfl (Nat.le_of_ble_eq_true rfl) (Nat.le_of_ble_eq_true rfl) (Nat.le_of_ble_eq_true rfl) (by decide) (hsz_ hsz 32 rfl) (by decide) ?_
  refine g_putF hC hnm dX9_init_97 liRX9_65 ff_9_7 rfl (by decide +kernel) ?_
  refine g_aload_n hC dX9_init_100 0 rfl rfl ?_
  refine g_iconst hC dX9_init_101 ok_5 ?_
  refine g_newiK (n := 35) hC dX9_init_102 arc_i (by decide) (by decide +kernel) (fun _ => rfl) (hsz_ hsz 34 rfl) (by decide) ?_
  refine g_putF hC hnm dX9_init_104 liRX9_69 ff_9_9 rfl (by decide +kernel) ?_
  refine g_aload_n hC dX9_init_107 0 rfl rfl ?_
  refine g_bipush hC dX9_init_108 bp_6 ?_
  refine g_newrK (n := 36) hC dX9_init_110 lcRX9_73 (by decide) (by decide +kernel) (hsz_ hsz 35 rfl) (by decide) ?_
  refine g_putF hC hnm dX9_init_113 liRX9_75 ff_9_8 rfl (by decide +kernel) ?_
  refine g_iconst hC dX9_init_116 ok_0 ?_
  refine g_istore_n hC dX9_init_117 rfl (Nat.le_of_ble_eq_true rfl) rfl ?_
  refine g_iload_n hC dX9_init_118 0 rfl rfl ?_
  refine g_bipush hC dX9_init_119 bp_6 ?_
  refine g_icmp_ge hC dX9_init_121 (tgt := 143) (by decide) (fun z => absurd z (by decide)) (fun _ => ?_)
  refine g_aload_n hC dX9_init_124 1 rfl rfl ?_
  refine g_getr (d := 36) hC dX9_init_125 lfRX9_75 rfl rfl ?_
  refine g_iload_n hC dX9_init_128 0 rfl rfl ?_
  refine g_newK tgs_6 (n := 37) hC dX9_init_129 lcRX9_73 ins_6 ini_6 vc_6 iwX6 tyX6_ok (by decide) dfs_6 (by decide +kernel) (fun _ => rfl) (hsz_ hsz 36 rfl) (by decide) ?_
  refine g_dup hC dX9_init_132 rfl ?_
  refine g_sh (l := sI10a) (by decide +kernel) ?_
  refine g_callI hC dX9_init_133 tI10 miX6_init moX6_init rfl mlRX9_79 rfl rfl (Nat.le_of_ble_eq_true rfl) (Nat.le_of_ble_eq_true rfl) (Nat.le_of_ble_eq_true rfl) (by decide) (hsz_ hsz 37 rfl) (by decide) ?_
  refine g_aast hC dX9_init_136 rfl rfl (by decide) (by decide +kernel) ?_
  refine g_iincK (z := 1) hC dX9_init_137 0 rfl (Nat.le_of_ble_eq_true rfl) (by decide +kernel) rfl ?_
  refine g_goto hC dX9_init_140 (tgt := 118) (by decide) ?_
  refine g_iload_n hC dX9_init_118 0 rfl rfl ?_
  refine g_bipush hC dX9_init_119 bp_6 ?_
  refine g_icmp_ge hC dX9_init_121 (tgt := 143) (by decide) (fun z => absurd z (by decide)) (fun _ => ?_)
  refine g_aload_n hC dX9_init_124 1 rfl rfl ?_
  refine g_getr (d := 36) hC dX9_init_125 lfRX9_75 rfl rfl ?_
  refine g_iload_n hC dX9_init_128 0 rfl rfl ?_
  refine g_newK tgs_6 (n := 39) hC dX9_init_129 lcRX9_73 ins_6 ini_6 vc_6 iwX6 tyX6_ok (by decide) dfs_6 (by decide +kernel) (fun _ => rfl) (hsz_ hsz 38 rfl) (by decide) ?_
  refine g_dup hC dX9_init_132 rfl ?_
  refine g_sh (l := sI11a) (by decide +kernel) ?_
  refine g_callI hC dX9_init_133 tI11 miX6_init moX6_init rfl mlRX9_79 rfl rfl (Nat.le_of_ble_eq_true rfl) (Nat.le_of_ble_eq_true rfl) (Nat.le_of_ble_eq_true rfl) (by decide) (hsz_ hsz 39 rfl) (by decide) ?_
  refine g_aast hC dX9_init_136 rfl rfl (by decide) (by decide +kernel) ?_
  refine g_iincK (z := 2) hC dX9_init_137 0 rfl (Nat.le_of_ble_eq_true rfl) (by decide +kernel) rfl ?_
  refine g_goto hC dX9_init_140 (tgt := 118) (by decide) ?_
  refine g_iload_n hC dX9_init_118 0 rfl rfl ?_
  refine g_bipush hC dX9_init_119 bp_6 ?_
  refine g_icmp_ge hC dX9_init_121 (tgt := 143) (by decide) (fun z => absurd z (by decide)) (fun _ => ?_)
  refine g_aload_n hC dX9_init_124 1 rfl rfl ?_
  refine g_getr (d := 36) hC dX9_init_125 lfRX9_75 rfl rfl ?_
  refine g_iload_n hC dX9_init_128 0 rfl rfl ?_
  refine g_newK tgs_6 (n := 41) hC dX9_init_129 lcRX9_73 ins_6 ini_6 vc_6 iwX6 tyX6_ok (by decide) dfs_6 (by decide +kernel) (fun _ => rfl) (hsz_ hsz 40 rfl) (by decide) ?_
  refine g_dup hC dX9_init_132 rfl ?_
  refine g_sh (l := sI12a) (by decide +kernel) ?_
  refine g_callI hC dX9_init_133 tI12 miX6_init moX6_init rfl mlRX9_79 rfl rfl (Nat.le_of_ble_eq_true rfl) (Nat.le_of_ble_eq_true rfl) (Nat.le_of_ble_eq_true rfl) (by decide) (hsz_ hsz 41 rfl) (by decide) ?_
  refine g_aast hC dX9_init_136 rfl rfl (by decide) (by decide +kernel) ?_
  refine g_iincK (z := 3) hC dX9_init_137 0 rfl (Nat.le_of_ble_eq_true rfl) (by decide +kernel) rfl ?_
  refine g_goto hC dX9_init_140 (tgt := 118) (by decide) ?_
  refine g_iload_n hC dX9_init_118 0 rfl rfl ?_
  refine g_bipush hC dX9_init_119 bp_6 ?_
  refine g_icmp_ge hC dX9_init_121 (tgt := 143) (by decide) (fun z => absurd z (by decide)) (fun _ => ?_)
  refine g_aload_n hC dX9_init_124 1 rfl rfl ?_
  refine g_getr (d := 36) hC dX9_init_125 lfRX9_75 rfl rfl ?_
  refine g_iload_n hC dX9_init_128 0 rfl rfl ?_
  refine g_newK tgs_6 (n := 43) hC dX9_init_129 lcRX9_73 ins_6 ini_6 vc_6 iwX6 tyX6_ok (by decide) dfs_6 (by decide +kernel) (fun _ => rfl) (hsz_ hsz 42 rfl) (by decide) ?_
  refine g_dup hC dX9_init_132 rfl ?_
  refine g_sh (l := sI13a) (by decide +kernel) ?_
  refine g_callI hC dX9_init_133 tI13 miX6_init moX6_init rfl mlRX9_79 rfl rfl (Nat.le_of_ble_eq_true rfl) (Nat.le_of_ble_eq_true rfl) (Nat.le_of_ble_eq_true rfl) (by decide) (hsz_ hsz 43 rfl) (by decide) ?_
  refine g_aast hC dX9_init_136 rfl rfl (by decide) (by decide +kernel) ?_
  refine g_iincK (z := 4) hC dX9_init_137 0 rfl (Nat.le_of_ble_eq_true rfl) (by decide +kernel) rfl ?_
  refine g_goto hC dX9_init_140 (tgt := 118) (by decide) ?_
  refine g_iload_n hC dX9_init_118 0 rfl rfl ?_
  refine g_bipush hC dX9_init_119 bp_6 ?_
  refine g_icmp_ge hC dX9_init_121 (tgt := 143) (by decide) (fun z => absurd z (by decide)) (fun _ => ?_)
  refine g_aload_n hC dX9_init_124 1 rfl rfl ?_
  refine g_getr (d := 36) hC dX9_init_125 lfRX9_75 rfl rfl ?_
  refine g_iload_n hC dX9_init_128 0 rfl rfl ?_
  refine g_newK tgs_6 (n := 45) hC dX9_init_129 lcRX9_73 ins_6 ini_6 vc_6 iwX6 tyX6_ok (by decide) dfs_6 (by decide +kernel) (fun _ => rfl) (hsz_ hsz 44 rfl) (by decide) ?_
  refine g_dup hC dX9_init_132 rfl ?_
  refine g_sh (l := sI14a) (by decide +kernel) ?_
  refine g_callI hC dX9_init_133 tI14 miX6_init moX6_init rfl mlRX9_79 rfl rfl (Nat.le_of_ble_eq_true rfl) (Nat.le_of_ble_eq_true rfl) (Nat.le_of_ble_eq_true rfl) (by decide) (hsz_ hsz 45 rfl) (by decide) ?_
  refine g_aast hC dX9_init_136 rfl rfl (by decide) (by decide +kernel) ?_
  refine g_iincK (z := 5) hC dX9_init_137 0 rfl (Nat.le_of_ble_eq_true rfl) (by decide +kernel) rfl ?_
  refine g_goto hC dX9_init_140 (tgt := 118) (by decide) ?_
  refine g_iload_n hC dX9_init_118 0 rfl rfl ?_
  refine g_bipush hC dX9_init_119 bp_6 ?_
  refine g_icmp_ge hC dX9_init_121 (tgt := 143) (by decide) (fun z => absurd z (by decide)) (fun _ => ?_)
  refine g_aload_n hC dX9_init_124 1 rfl rfl ?_
  refine g_getr (d := 36) hC dX9_init_125 lfRX9_75 rfl rfl ?_
  refine g_iload_n hC dX9_init_128 0 rfl rfl ?_
  refine g_newK tgs_6 (n := 47) hC dX9_init_129 lcRX9_73 ins_6 ini_6 vc_6 iwX6 tyX6_ok (by decide) dfs_6 (by decide +kernel) (fun _ => rfl) (hsz_ hsz 46 rfl) (by decide) ?_
  refine g_dup hC dX9_init_132 rfl ?_
  refine g_sh (l := sI15a) (by decide +kernel) ?_
  refine g_callI hC dX9_init_133 tI15 miX6_init moX6_init rfl mlRX9_79 rfl rfl (Nat.le_of_ble_eq_true rfl) (Nat.le_of_ble_eq_true rfl) (Nat.le_of_ble_eq_true rfl) (by decide) (hsz_ hsz 47 rfl) (by decide) ?_
  refine g_aast hC dX9_init_136 rfl rfl (by decide) (by decide +kernel) ?_
  refine g_iincK (z := 6) hC dX9_init_137 0 rfl (Nat.le_of_ble_eq_true rfl) (by decide +kernel) rfl ?_
  refine g_goto hC dX9_init_140 (tgt := 118) (by decide) ?_
  refine g_iload_n hC dX9_init_118 0 rfl rfl ?_
  refine g_bipush hC dX9_init_119 bp_6 ?_
  refine g_icmp_ge hC dX9_init_121 (tgt := 143) (by decide) (fun _ => ?_) (fun z => absurd (by decide) z)
  refine g_sh (l := sI16b) (by decide +kernel) ?_
  exact hR _ _ dX9_init_143
theorem tI17 {l : Launch} {g : GT} : Ci l g yX10_init cX10_init 2 1 28 1904 [vr 49] (sI17a, up (up (z0) 4 3 (Int.ofNat 8)) 4 4 (Int.ofNat 9)) (sI17b, up (up (up (up (up (up (up (up (z0) 4 3 (Int.ofNat 8)) 4 4 (Int.ofNat 9)) 72 (Int.toNat 0) (-1)) 72 (Int.toNat 1) (-1)) 72 (Int.toNat 2) (-1)) 72 (Int.toNat 3) (-1)) 72 (Int.toNat 4) (-1)) 72 (Int.toNat 5) (-1)) := by
  refine Ci.of (by decide) rfl (Nat.le_of_ble_eq_true rfl) (by decide +kernel) (by decide +kernel) (fun K e hnm hC hsz hR => ?_)
  refine g_aload_n hC dX10_init_0 0 rfl rfl ?_
  refine g_objI hC dX10_init_1 loRX10_3 lo_1 lo_2 (Nat.le_of_ble_eq_true rfl) (Nat.le_of_ble_eq_true rfl) ?_
  refine g_aload_n hC dX10_init_4 0 rfl rfl ?_
  refine g_bipush hC dX10_init_5 bp_8 ?_
  refine g_newiK (n := 50) hC dX10_init_7 arc_i (by decide) (by decide +kernel) (fun _ => rfl) (hsz_ hsz 0 rfl) (by decide) ?_
  refine g_putF hC hnm dX10_init_9 liRX10_9 ff_10_1 rfl (by decide +kernel) ?_
  refine g_aload_n hC dX10_init_12 0 rfl rfl ?_
  refine g_bipush hC dX10_init_13 bp_8 ?_
  refine g_newiK (n := 51) hC dX10_init_15 arc_i (by decide) (by decide +kernel) (fun _ => rfl) (hsz_ hsz 1 rfl) (by decide) ?_
  refine g_putF hC hnm dX10_init_17 liRX10_15 ff_10_2 rfl (by decide +kernel) ?_
  refine g_aload_n hC dX10_init_20 0 rfl rfl ?_
  refine g_bipush hC dX10_init_21 bp_8 ?_
  refine g_newiK (n := 52) hC dX10_init_23 arc_i (by decide) (by decide +kernel) (fun _ => rfl) (hsz_ hsz 2 rfl) (by decide) ?_
  refine g_putF hC hnm dX10_init_25 liRX10_18 ff_10_3 rfl (by decide +kernel) ?_
  refine g_aload_n hC dX10_init_28 0 rfl rfl ?_
  refine g_bipush hC dX10_init_29 bp_8 ?_
  refine g_newiK (n := 53) hC dX10_init_31 arc_i (by decide) (by decide +kernel) (fun _ => rfl) (hsz_ hsz 3 rfl) (by decide) ?_
  refine g_putF hC hnm dX10_init_33 liRX10_21 ff_10_4 rfl (by decide +kernel) ?_
  refine g_aload_n hC dX10_init_36 0 rfl rfl ?_
  refine g_bipush hC dX10_init_37 bp_63 ?_
  refine g_newiK (n := 54) hC dX10_init_39 arc_i (by decide) (by decide +kernel) (fun _ => rfl) (hsz_ hsz 4 rfl) (by decide) ?_
  refine g_putF hC hnm dX10_init_41 liRX10_24 ff_10_6 rfl (by decide +kernel) ?_
  refine g_aload_n hC dX10_init_44 0 rfl rfl ?_
  refine g_bipush hC dX10_init_45 bp_120 ?_
  refine g_newiK (n := 55) hC dX10_init_47 arc_i (by decide) (by decide +kernel) (fun _ => rfl) (hsz_ hsz 5 rfl) (by decide) ?_
  refine g_putF hC hnm dX10_init_49 liRX10_27 ff_10_8 rfl (by decide +kernel) ?_
  refine g_aload_n hC dX10_init_52 0 rfl rfl ?_
  refine g_bipush hC dX10_init_53 bp_60 ?_
  refine g_newiK (n := 56) hC dX10_init_55 arc_i (by decide) (by decide +kernel) (fun _ => rfl) (hsz_ hsz 6 rfl) (by decide) ?_
  refine g_putF hC hnm dX10_init_57 liRX10_30 ff_10_11 rfl (by decide +kernel) ?_
  refine g_aload_n hC dX10_init_60 0 rfl rfl ?_
  refine g_bipush hC dX10_init_61 bp_60 ?_
  refine g_newiK (n := 57) hC dX10_init_63 arc_i (by decide) (by decide +kernel) (fun _ => rfl) (hsz_ hsz 7 rfl) (by decide) ?_
  refine g_putF hC hnm dX10_init_65 liRX10_33 ff_10_12 rfl (by decide +kernel) ?_
  refine g_aload_n hC dX10_init_68 0 rfl rfl ?_
  refine g_bipush hC dX10_init_69 bp_60 ?_
  refine g_newiK (n := 58) hC dX10_init_71 arc_i (by decide) (by decide +kernel) (fun _ => rfl) (hsz_ hsz 8 rfl) (by decide) ?_
  refine g_putF hC hnm dX10_init_73 liRX10_36 ff_10_13 rfl (by decide +kernel) ?_
  refine g_aload_n hC dX10_init_76 0 rfl rfl ?_
  refine g_sipush hC dX10_init_77 sp_200 ?_
  refine g_newiK (n := 59) hC dX10_init_80 arc_i (by decide) (by decide +kernel) (fun _ => rfl) (hsz_ hsz 9 rfl) (by decide) ?_
  refine g_putF hC hnm dX10_init_82 liRX10_39 ff_10_14 rfl (by decide +kernel) ?_
  refine g_aload_n hC dX10_init_85 0 rfl rfl ?_
  refine g_bipush hC dX10_init_86 bp_61 ?_
  refine g_newiK (n := 60) hC dX10_init_88 arc_i (by decide) (by decide +kernel) (fun _ => rfl) (hsz_ hsz 10 rfl) (by decide) ?_
  refine g_putF hC hnm dX10_init_90 liRX10_42 ff_10_19 rfl (by decide +kernel) ?_
  refine g_aload_n hC dX10_init_93 0 rfl rfl ?_
  refine g_bipush hC dX10_init_94 bp_61 ?_
  refine g_newiK (n := 61) hC dX10_init_96 arc_i (by decide) (by decide +kernel) (fun _ => rfl) (hsz_ hsz 11 rfl) (by decide) ?_
  refine g_putF hC hnm dX10_init_98 liRX10_45 ff_10_20 rfl (by decide +kernel) ?_
  refine g_aload_n hC dX10_init_101 0 rfl rfl ?_
  refine g_bipush hC dX10_init_102 bp_61 ?_
  refine g_newiK (n := 62) hC dX10_init_104 arc_i (by decide) (by decide +kernel) (fun _ => rfl) (hsz_ hsz 12 rfl) (by decide) ?_
  refine g_putF hC hnm dX10_init_106 liRX10_48 ff_10_21 rfl (by decide +kernel) ?_
  refine g_aload_n hC dX10_init_109 0 rfl rfl ?_
  refine g_sipush hC dX10_init_110 sp_200 ?_
  refine g_newiK (n := 63) hC dX10_init_113 arc_i (by decide) (by decide +kernel) (fun _ => rfl) (hsz_ hsz 13 rfl) (by decide) ?_
  refine g_putF hC hnm dX10_init_115 liRX10_51 ff_10_22 rfl (by decide +kernel) ?_
  refine g_aload_n hC dX10_init_118 0 rfl rfl ?_
  refine g_sipush hC dX10_init_119 sp_200 ?_
  refine g_newiK (n := 64) hC dX10_init_122 arc_i (by decide) (by decide +kernel) (fun _ => rfl) (hsz_ hsz 14 rfl) (by decide) ?_
  refine g_putF hC hnm dX10_init_124 liRX10_54 ff_10_23 rfl (by decide +kernel) ?_
  refine g_aload_n hC dX10_init_127 0 rfl rfl ?_
  refine g_bipush hC dX10_init_128 bp_6 ?_
  refine g_newiK (n := 65) hC dX10_init_130 arc_i (by decide) (by decide +kernel) (fun _ => rfl) (hsz_ hsz 15 rfl) (by decide) ?_
  refine g_putF hC hnm dX10_init_132 liRX10_57 ff_10_24 rfl (by decide +kernel) ?_
  refine g_aload_n hC dX10_init_135 0 rfl rfl ?_
  refine g_iconst hC dX10_init_136 ok_5 ?_
  refine g_newiK (n := 66) hC dX10_init_137 arc_i (by decide) (by decide +kernel) (fun _ => rfl) (hsz_ hsz 16 rfl) (by decide) ?_
  refine g_putF hC hnm dX10_init_139 liRX10_60 ff_10_25 rfl (by decide +kernel) ?_
  refine g_aload_n hC dX10_init_142 0 rfl rfl ?_
  refine g_bipush hC dX10_init_143 bp_45 ?_
  refine g_newiK (n := 67) hC dX10_init_145 arc_i (by decide) (by decide +kernel) (fun _ => rfl) (hsz_ hsz 17 rfl) (by decide) ?_
  refine g_putF hC hnm dX10_init_147 liRX10_63 ff_10_29 rfl (by decide +kernel) ?_
  refine g_aload_n hC dX10_init_150 0 rfl rfl ?_
  refine g_iconst hC dX10_init_151 ok_5 ?_
  refine g_newiK (n := 68) hC dX10_init_152 arc_i (by decide) (by decide +kernel) (fun _ => rfl) (hsz_ hsz 18 rfl) (by decide) ?_
  refine g_putF hC hnm dX10_init_154 liRX10_66 ff_10_30 rfl (by decide +kernel) ?_
  refine g_aload_n hC dX10_init_157 0 rfl rfl ?_
  refine g_sipush hC dX10_init_158 sp_160 ?_
  refine g_newiK (n := 69) hC dX10_init_161 arc_i (by decide) (by decide +kernel) (fun _ => rfl) (hsz_ hsz 19 rfl) (by decide) ?_
  refine g_putF hC hnm dX10_init_163 liRX10_69 ff_10_33 rfl (by decide +kernel) ?_
  refine g_aload_n hC dX10_init_166 0 rfl rfl ?_
  refine g_bipush hC dX10_init_167 bp_50 ?_
  refine g_newiK (n := 70) hC dX10_init_169 arc_i (by decide) (by decide +kernel) (fun _ => rfl) (hsz_ hsz 20 rfl) (by decide) ?_
  refine g_putF hC hnm dX10_init_171 liRX10_72 ff_10_35 rfl (by decide +kernel) ?_
  refine g_aload_n hC dX10_init_174 0 rfl rfl ?_
  refine g_bipush hC dX10_init_175 bp_24 ?_
  refine g_newiK (n := 71) hC dX10_init_177 arc_i (by decide) (by decide +kernel) (fun _ => rfl) (hsz_ hsz 21 rfl) (by decide) ?_
  refine g_putF hC hnm dX10_init_179 liRX10_75 ff_10_37 rfl (by decide +kernel) ?_
  refine g_aload_n hC dX10_init_182 0 rfl rfl ?_
  refine g_bipush hC dX10_init_183 bp_6 ?_
  refine g_newiK (n := 72) hC dX10_init_185 arc_i (by decide) (by decide +kernel) (fun _ => rfl) (hsz_ hsz 22 rfl) (by decide) ?_
  refine g_putF hC hnm dX10_init_187 liRX10_78 ff_10_38 rfl (by decide +kernel) ?_
  refine g_aload_n hC dX10_init_190 0 rfl rfl ?_
  refine g_bipush hC dX10_init_191 bp_6 ?_
  refine g_newiK (n := 73) hC dX10_init_193 arc_i (by decide) (by decide +kernel) (fun _ => rfl) (hsz_ hsz 23 rfl) (by decide) ?_
  refine g_putF hC hnm dX10_init_195 liRX10_81 ff_10_39 rfl (by decide +kernel) ?_
  refine g_aload_n hC dX10_init_198 0 rfl rfl ?_
  refine g_sipush hC dX10_init_199 sp_360 ?_
  refine g_newlK (n := 74) hC dX10_init_202 arc_l (by decide) (by decide +kernel) (fun _ => rfl) (hsz_ hsz 24 rfl) (by decide) ?_
  refine g_putF hC hnm dX10_init_204 liRX10_84 ff_10_40 rfl (by decide +kernel) ?_
  refine g_aload_n hC dX10_init_207 0 rfl rfl ?_
  refine g_bipush hC dX10_init_208 bp_45 ?_
  refine g_newiK (n := 75) hC dX10_init_210 arc_i (by decide) (by decide +kernel) (fun _ => rfl) (hsz_ hsz 25 rfl) (by decide) ?_
  refine g_putF hC hnm dX10_init_212 liRX10_88 ff_10_41 rfl (by decide +kernel) ?_
  refine g_aload_n hC dX10_init_215 0 rfl rfl ?_
  refine g_bipush hC dX10_init_216 bp_7 ?_
  refine g_newiK (n := 76) hC dX10_init_218 arc_i (by decide) (by decide +kernel) (fun _ => rfl) (hsz_ hsz 26 rfl) (by decide) ?_
  refine g_putF hC hnm dX10_init_220 liRX10_91 ff_10_42 rfl (by decide +kernel) ?_
  refine g_aload_n hC dX10_init_223 0 rfl rfl ?_
  refine g_bipush hC dX10_init_224 bp_7 ?_
  refine g_newiK (n := 77) hC dX10_init_226 arc_i (by decide) (by decide +kernel) (fun _ => rfl) (hsz_ hsz 27 rfl) (by decide) ?_
  refine g_putF hC hnm dX10_init_228 liRX10_94 ff_10_43 rfl (by decide +kernel) ?_
  refine g_iconst hC dX10_init_231 ok_0 ?_
  refine g_istore_n hC dX10_init_232 rfl (Nat.le_of_ble_eq_true rfl) rfl ?_
  refine g_iload_n hC dX10_init_233 0 rfl rfl ?_
  refine g_bipush hC dX10_init_234 bp_6 ?_
  refine g_icmp_ge hC dX10_init_236 (tgt := 252) (by decide) (fun z => absurd z (by decide)) (fun _ => ?_)
  refine g_aload_n hC dX10_init_239 1 rfl rfl ?_
  refine g_getr (d := 72) hC dX10_init_240 lfRX10_78 rfl rfl ?_
  refine g_iload_n hC dX10_init_243 0 rfl rfl ?_
  refine g_iconst hC dX10_init_244 ok_m1 ?_
  refine g_iast hC dX10_init_245 rfl (by decide) ?_
  refine g_iincK (z := 1) hC dX10_init_246 0 rfl (Nat.le_of_ble_eq_true rfl) (by decide +kernel) rfl ?_
  refine g_goto hC dX10_init_249 (tgt := 233) (by decide) ?_
  refine g_iload_n hC dX10_init_233 0 rfl rfl ?_
  refine g_bipush hC dX10_init_234 bp_6 ?_
  refine g_icmp_ge hC dX10_init_236 (tgt := 252) (by decide) (fun z => absurd z (by decide)) (fun _ => ?_)
  refine g_aload_n hC dX10_init_239 1 rfl rfl ?_
  refine g_getr (d := 72) hC dX10_init_240 lfRX10_78 rfl rfl ?_
  refine g_iload_n hC dX10_init_243 0 rfl rfl ?_
  refine g_iconst hC dX10_init_244 ok_m1 ?_
  refine g_iast hC dX10_init_245 rfl (by decide) ?_
  refine g_iincK (z := 2) hC dX10_init_246 0 rfl (Nat.le_of_ble_eq_true rfl) (by decide +kernel) rfl ?_
  refine g_goto hC dX10_init_249 (tgt := 233) (by decide) ?_
  refine g_iload_n hC dX10_init_233 0 rfl rfl ?_
  refine g_bipush hC dX10_init_234 bp_6 ?_
  refine g_icmp_ge hC dX10_init_236 (tgt := 252) (by decide) (fun z => absurd z (by decide)) (fun _ => ?_)
  refine g_aload_n hC dX10_init_239 1 rfl rfl ?_
  refine g_getr (d := 72) hC dX10_init_240 lfRX10_78 rfl rfl ?_
  refine g_iload_n hC dX10_init_243 0 rfl rfl ?_
  refine g_iconst hC dX10_init_244 ok_m1 ?_
  refine g_iast hC dX10_init_245 rfl (by decide) ?_
  refine g_iincK (z := 3) hC dX10_init_246 0 rfl (Nat.le_of_ble_eq_true rfl) (by decide +kernel) rfl ?_
  refine g_goto hC dX10_init_249 (tgt := 233) (by decide) ?_
  refine g_iload_n hC dX10_init_233 0 rfl rfl ?_
  refine g_bipush hC dX10_init_234 bp_6 ?_
  refine g_icmp_ge hC dX10_init_236 (tgt := 252) (by decide) (fun z => absurd z (by decide)) (fun _ => ?_)
  refine g_aload_n hC dX10_init_239 1 rfl rfl ?_
  refine g_getr (d := 72) hC dX10_init_240 lfRX10_78 rfl rfl ?_
  refine g_iload_n hC dX10_init_243 0 rfl rfl ?_
  refine g_iconst hC dX10_init_244 ok_m1 ?_
  refine g_iast hC dX10_init_245 rfl (by decide) ?_
  refine g_iincK (z := 4) hC dX10_init_246 0 rfl (Nat.le_of_ble_eq_true rfl) (by decide +kernel) rfl ?_
  refine g_goto hC dX10_init_249 (tgt := 233) (by decide) ?_
  refine g_iload_n hC dX10_init_233 0 rfl rfl ?_
  refine g_bipush hC dX10_init_234 bp_6 ?_
  refine g_icmp_ge hC dX10_init_236 (tgt := 252) (by decide) (fun z => absurd z (by decide)) (fun _ => ?_)
  refine g_aload_n hC dX10_init_239 1 rfl rfl ?_
  refine g_getr (d := 72) hC dX10_init_240 lfRX10_78 rfl rfl ?_
  refine g_iload_n hC dX10_init_243 0 rfl rfl ?_
  refine g_iconst hC dX10_init_244 ok_m1 ?_
  refine g_iast hC dX10_init_245 rfl (by decide) ?_
  refine g_iincK (z := 5) hC dX10_init_246 0 rfl (Nat.le_of_ble_eq_true rfl) (by decide +kernel) rfl ?_
  refine g_goto hC dX10_init_249 (tgt := 233) (by decide) ?_
  refine g_iload_n hC dX10_init_233 0 rfl rfl ?_
  refine g_bipush hC dX10_init_234 bp_6 ?_
  refine g_icmp_ge hC dX10_init_236 (tgt := 252) (by decide) (fun z => absurd z (by decide)) (fun _ => ?_)
  refine g_aload_n hC dX10_init_239 1 rfl rfl ?_
  refine g_getr (d := 72) hC dX10_init_240 lfRX10_78 rfl rfl ?_
  refine g_iload_n hC dX10_init_243 0 rfl rfl ?_
  refine g_iconst hC dX10_init_244 ok_m1 ?_
  refine g_iast hC dX10_init_245 rfl (by decide) ?_
  refine g_iincK (z := 6) hC dX10_init_246 0 rfl (Nat.le_of_ble_eq_true rfl) (by decide +kernel) rfl ?_
  refine g_goto hC dX10_init_249 (tgt := 233) (by decide) ?_
  refine g_iload_n hC dX10_init_233 0 rfl rfl ?_
  refine g_bipush hC dX10_init_234 bp_6 ?_
  refine g_icmp_ge hC dX10_init_236 (tgt := 252) (by decide) (fun _ => ?_) (fun z => absurd (by decide) z)
  refine g_sh (l := sI17b) (by decide +kernel) ?_
  exact hR _ _ dX10_init_252
theorem law_start {K : KT} {g : GT} {fr cm sm : Nat} (hfr : 4 ≤ fr) (hcm : 78 ≤ cm ∧ 3947 ≤ sm) (hC0 : Ctx K g RL code 4 fr cm sm) (hsz : (Kheap K).size = g.1 + 0) (kk : G K g 4 (78, 3947) 16 [(0, vo 7), (1, vr 0), (2, vr 49)] [] (SH0, sgI)) : G K g 4 (0, 0) 0 [(0, vo 7)] [] ([], z0) := by
  have hC : Ctx K g RL code 4 4 78 3947 := Ctx_less hC0 hfr hcm
  refine g_newK tgs_9 (n := 0) hC dL_law_0 lcRL_7 ins_9 ini_9 vc_9 iwX9 tyX9_ok (by decide) dfs_9 (by decide +kernel) (fun _ => rfl) (hsz_ hsz 0 rfl) (by decide) ?_
  refine g_dup hC dL_law_3 rfl ?_
  refine g_sh (l := sI16a) (by decide +kernel) ?_
  refine g_callI hC dL_law_4 tI16 miX9_init moX9_init rfl mlRL_9 rfl rfl (Nat.le_of_ble_eq_true rfl) (Nat.le_of_ble_eq_true rfl) (Nat.le_of_ble_eq_true rfl) (by decide) (hsz_ hsz 1 rfl) (by decide) ?_
  refine g_astore_n hC dL_law_7 rfl (Nat.le_of_ble_eq_true rfl) rfl ?_
  refine g_newK tgs_10 (n := 49) hC dL_law_8 lcRL_10 ins_10 ini_10 vc_10 iwX10 tyX10_ok (by decide) dfs_10 (by decide +kernel) (fun _ => rfl) (hsz_ hsz 49 rfl) (by decide) ?_
  refine g_dup hC dL_law_11 rfl ?_
  refine g_sh (l := sI17a) (by decide +kernel) ?_
  refine g_callI hC dL_law_12 tI17 miX10_init moX10_init rfl mlRL_12 rfl rfl (Nat.le_of_ble_eq_true rfl) (Nat.le_of_ble_eq_true rfl) (Nat.le_of_ble_eq_true rfl) (by decide) (hsz_ hsz 50 rfl) (by decide) ?_
  refine g_astore_n hC dL_law_15 rfl (Nat.le_of_ble_eq_true rfl) rfl ?_
  refine g_sh (l := SH0) (by decide +kernel) ?_
  exact g_pick [2, 1, 0] rfl kk
