/-! A static of the nest's host; the String constant. -/
section MiscRows
variable {K : KT} {g : GT} {own : String} {cc : ByteArray} {nL fr cm sm : Nat} {cs : Nat × Nat} {pc : Nat} {L : List (Nat × Vl)} {st : List Vl} {S : S2}
theorem g_getsN {ix k : Nat} {C n d host : String} {ty : FieldType} {xs : List Int} (hC : Ctx K g own cc nL fr cm sm) (hd : decode cc pc = .ok (.getstatic ix, 3)) (hk : sts[k]? = some (C, n, d, ty, xs)) (hl : Cond.fieldLinkNest own ix C n d host ∈ lw_tbl) (kk : G K g nL cs (pc + 3) L (vo k :: st) S) : G K g nL cs pc L st S := by
  obtain ⟨p, l, e, R, s, m, args, below, meth, c0, Q⟩ := K
  intro H locs ls h1 h2 h3 h4 h5
  exact va_getsN hC.1 hC.2.1 (hC.2.2.2.2.2.1.2.1.1 k C n d ty xs hk).1 h2 hC.2.2.2.1 (va_Nw.use rfl (hC.2.2.2.2.2.1.2.2.1 _ hl rfl)) (fun _ h => h) hd (kk H locs ls h1 h2 (okv_cons (v := vo k) trivial h3) h4 h5)
theorem g_ldcS (hC : Ctx K g RX4 cc nL fr cm sm) (hd : decode cc pc = .ok (.ldc 78, 2)) (kk : G K g nL cs (pc + 2) L (vo 5 :: st) S) : G K g nL cs pc L st S := by
  obtain ⟨p, l, e, R, s, m, args, below, meth, c0, Q⟩ := K
  intro H locs ls h1 h2 h3 h4 h5
  exact va_ldcS hC.1 hC.2.1 hC.2.2.2.1 hC.2.2.2.2.2.1.2.2.2.1 hd (kk H locs ls h1 h2 (okv_cons (v := vo 5) trivial h3) h4 h5)
def ixof (x : Int) : Int := if x = 99 then 0 else if x = 108 then 1 else if x = 104 then 2 else if x = 118 then 3 else if x = 110 then 4 else if x = 109 then 5 else -1
end MiscRows
theorem g_iincK {K : KT} {g : GT} {own : String} {cc : ByteArray} {nL fr cm sm : Nat} {cs : Nat × Nat} {pc : Nat} {L : List (Nat × Vl)} {st : List Vl} {S : S2} {i : Nat} {n x z : Int} {L' : List (Nat × Vl)} (hC : Ctx K g own cc nL fr cm sm) (hd : decode cc pc = .ok (.iinc i n, 3)) (q : Nat) (hq : L[q]? = some (i, vi x)) (hn : i < nL) (hz : i_add x n = z) (hl : (i, vi z) :: st1 L i = L') (k : G K g nL cs (pc + 3) L' st S) : G K g nL cs pc L st S := by
  subst hz
  exact g_iinc hC hd q hq hn hl k
