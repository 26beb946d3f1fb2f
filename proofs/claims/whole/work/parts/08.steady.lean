/-! The steady store: the cells as both constructors lay them; plain words for them; the rows that the printed walks use. -/
def SH0 : List Sh := [(0, 9, [(2, some 1), (2, some 4), (2, some 10), (2, some 19), (2, some 22), (2, some 25), (2, some 27), (2, some 32), (2, some 36), (2, some 35)]),
  (0, 2, [(2, some 2), (2, some 3), (0, none), (0, none)]),
  (1, 32, []),
  (1, 63, []),
  (0, 4, [(2, some 5), (2, some 6), (2, some 7), (4, none), (4, none), (0, none), (0, none), (0, none), (0, none), (3, none)]),
  (1, 120, []),
  (1, 6, []),
  (1, 64, []),
  (1, 128, []),
  (1, 128, []),
  (0, 7, [(2, some 11), (2, some 4), (2, some 14), (2, some 15), (2, some 16), (2, some 17), (2, some 18), (0, none), (0, none), (0, none), (0, none), (0, none)]),
  (0, 2, [(2, some 12), (2, some 13), (0, none), (0, none)]),
  (1, 32, []),
  (1, 63, []),
  (1, 7, []),
  (1, 7, []),
  (1, 252, []),
  (1, 7, []),
  (1, 16, []),
  (0, 8, [(2, some 10), (2, some 20), (2, some 21), (0, none), (0, none), (0, none)]),
  (1, 5, []),
  (1, 5, []),
  (0, 1, [(2, some 23), (2, some 24), (1, none)]),
  (2, 256, []),
  (2, 8, []),
  (0, 0, [(2, some 26), (0, none), (0, none)]),
  (1, 160, []),
  (0, 3, [(2, some 28), (2, some 31), (3, none)]),
  (0, 2, [(2, some 29), (2, some 30), (0, none), (0, none)]),
  (1, 32, []),
  (1, 63, []),
  (1, 5, []),
  (0, 5, [(2, some 33), (2, some 34), (0, none), (0, none), (0, none)]),
  (1, 50, []),
  (1, 24, []),
  (1, 5, []),
  (3, 6, [(2, some 37), (2, some 39), (2, some 41), (2, some 43), (2, some 45), (2, some 47)]),
  (0, 6, [(2, some 38), (0, none), (0, none), (0, none), (0, none)]),
  (2, 60, []),
  (0, 6, [(2, some 40), (0, none), (0, none), (0, none), (0, none)]),
  (2, 60, []),
  (0, 6, [(2, some 42), (0, none), (0, none), (0, none), (0, none)]),
  (2, 60, []),
  (0, 6, [(2, some 44), (0, none), (0, none), (0, none), (0, none)]),
  (2, 60, []),
  (0, 6, [(2, some 46), (0, none), (0, none), (0, none), (0, none)]),
  (2, 60, []),
  (0, 6, [(2, some 48), (0, none), (0, none), (0, none), (0, none)]),
  (2, 60, []),
  (0, 10, [(0, none), (2, some 50), (2, some 51), (2, some 52), (2, some 53), (0, none), (2, some 54), (0, none), (2, some 55), (3, none), (0, none), (2, some 56), (2, some 57), (2, some 58), (2, some 59), (0, none), (0, none), (0, none), (0, none), (2, some 60), (2, some 61), (2, some 62), (2, some 63), (2, some 64), (2, some 65), (2, some 66), (3, none), (0, none), (0, none), (2, some 67), (2, some 68), (0, none), (0, none), (2, some 69), (0, none), (2, some 70), (0, none), (2, some 71), (2, some 72), (2, some 73), (2, some 74), (2, some 75), (2, some 76), (2, some 77), (0, none)]),
  (1, 8, []),
  (1, 8, []),
  (1, 8, []),
  (1, 8, []),
  (1, 63, []),
  (1, 120, []),
  (1, 60, []),
  (1, 60, []),
  (1, 60, []),
  (1, 200, []),
  (1, 61, []),
  (1, 61, []),
  (1, 61, []),
  (1, 200, []),
  (1, 200, []),
  (1, 6, []),
  (1, 5, []),
  (1, 45, []),
  (1, 5, []),
  (1, 160, []),
  (1, 50, []),
  (1, 24, []),
  (1, 6, []),
  (1, 6, []),
  (2, 360, []),
  (1, 45, []),
  (1, 7, []),
  (1, 7, [])]
def fsO (c : Nat) : List (Nat × Option Nat) := match SH0[c]? with
  | some h => h.2.2
  | none => []
def kdO (c : Nat) : Nat := match SH0[c]? with
  | some h => h.1
  | none => 9
def LN (c : Nat) : Nat := match SH0[c]? with
  | some h => h.2.1
  | none => 0
def isO (ci c : Nat) : Bool := kdO c == 0 && LN c == ci
def isA (t c : Nat) : Bool := kdO c == t && !(t == 9)
def RF (c k : Nat) : Nat := match (fsO c)[k]? with
  | some q => q.2.getD 0
  | none => 0
theorem kd_lt {c k : Nat} (h : kdO c = k) (hk : k ≠ 9) : c < 78 := by
  rcases Nat.lt_or_ge c 78 with q | q
  · exact q
  · have : SH0[c]? = none := List.getElem?_eq_none (by show SH0.length ≤ c; exact q)
    unfold kdO at h
    rw [this] at h
    exact absurd h.symm hk
theorem isO_lt {ci c : Nat} (h : isO ci c = true) : c < 78 := by
  simp only [isO, Bool.and_eq_true, beq_iff_eq] at h
  exact kd_lt h.1 (by decide)
theorem isA_lt {t c : Nat} (h : isA t c = true) : c < 78 := by
  simp only [isA, Bool.and_eq_true, beq_iff_eq, Bool.not_eq_true', beq_eq_false_iff_ne] at h
  exact kd_lt h.1 h.2
theorem sh_eq {c : Nat} (h : c < 78) : SH0[c]? = some (kdO c, LN c, fsO c) := by
  have hl : c < SH0.length := h
  unfold kdO LN fsO
  rw [List.getElem?_eq_getElem hl]
theorem isO_spec {ci c : Nat} (h : isO ci c = true) : SH0[c]? = some (0, ci, fsO c) := by
  rw [sh_eq (isO_lt h)]
  simp only [isO, Bool.and_eq_true, beq_iff_eq] at h
  rw [h.1, h.2]
theorem isA_spec {t c : Nat} (h : isA t c = true) : SH0[c]? = some (t, LN c, fsO c) := by
  rw [sh_eq (isA_lt h)]
  simp only [isA, Bool.and_eq_true, beq_iff_eq] at h
  rw [h.1]
theorem LN_small : ∀ c, c < 78 → LN c < 1000 := by decide +kernel
theorem ok_LN (c : Nat) : ok32 (LN c : Int) := by
  rcases Nat.lt_or_ge c 78 with q | q
  · have := LN_small c q
    unfold ok32
    omega
  · have : SH0[c]? = none := List.getElem?_eq_none (by show SH0.length ≤ c; exact q)
    have e : LN c = 0 := by unfold LN; rw [this]
    rw [e]
    exact ok32_0
def sh_ck (c j : Nat) : Bool := !(isA 3 c) || !(Nat.blt j (LN c)) || ((match (fsO c)[j]? with
  | some (2, some d) => d == RF c j
  | _ => false) && isO 6 (RF c j))
theorem sh_ck0 : (List.range 78).all (fun c => (List.range 6).all (sh_ck c)) = true := by decide +kernel
theorem sh_at0 (c : Nat) (hc : c < 78) (j : Nat) (hj : j < 6) (h : isA 3 c = true) (hl : j < LN c) : (fsO c)[j]? = some (2, some (RF c j)) ∧ isO 6 (RF c j) = true := by
  have q := List.all_eq_true.mp (List.all_eq_true.mp sh_ck0 c (List.mem_range.mpr hc)) j (List.mem_range.mpr hj)
  have hl' : Nat.blt j (LN c) = true := by simpa [Nat.blt_eq] using hl
  simp only [sh_ck, h, hl', Bool.not_true, Bool.false_or, Bool.and_eq_true] at q
  obtain ⟨q1, q2⟩ := q
  refine ⟨?_, q2⟩
  revert q1
  split
  · rename_i d hd
    intro q1
    rw [hd, eq_of_beq q1]
  · intro q1
    cases q1
theorem sh_at1 : ∀ c, c < 78 → isA 3 c = true → LN c ≤ 6 := by decide +kernel
theorem sh_at {c : Nat} {i : Int} (h : isA 3 c = true) (hi : inb i (LN c)) : (fsO c)[i.toNat]? = some (2, some (RF c i.toNat)) ∧ isO 6 (RF c i.toNat) = true := by
  have h1 := sh_at1 c (isA_lt h) h
  exact sh_at0 c (isA_lt h) _ (by omega) h (by omega)
/-- how often a loop may go round -/
def FU : Nat := 1000000
theorem of_ite {α : Type} {c : Prop} [Decidable c] {A : Option α} {r : α} (h : (if c then A else none) = some r) : c ∧ A = some r := by
  by_cases hc : c
  · rw [if_pos hc] at h; exact ⟨hc, h⟩
  · rw [if_neg hc] at h; cases h
theorem of_bind {α β : Type} {o : Option α} {f : α → Option β} {r : β} (h : Option.bind o f = some r) : ∃ q, o = some q ∧ f q = some r := by
  cases o with
  | none => cases h
  | some q => exact ⟨q, rfl, h⟩
section Steady
variable {K : KT} {g : GT} {own : String} {cc : ByteArray} {nL fr cm sm : Nat} {cs : Nat × Nat} {pc : Nat} {L : List (Nat × Vl)} {st : List Vl} {S : S2}
theorem ret_i {x r : Int} {σ σ' : St} (h : some (x, σ) = some (r, σ')) (hR : RetI K g cc nL cs r (SH0, σ')) (hd : decode cc pc = .ok (.ireturn, 1)) : G K g nL cs pc L [vi x] (SH0, σ) := by
  cases h
  exact hR pc L hd
theorem ret_z {x r : Int} {σ σ' : St} (h : some (x, σ) = some (r, σ')) (hR : RetZ K g cc nL cs r (SH0, σ')) (hz : x = 0 ∨ x = 1) (hd : decode cc pc = .ok (.ireturn, 1)) : G K g nL cs pc L [vi x] (SH0, σ) := by
  cases h
  exact hR pc L hz hd
theorem ret_l {x r : Int} {σ σ' : St} (h : some (x, σ) = some (r, σ')) (hR : RetL K g cc nL cs r (SH0, σ')) (hd : decode cc pc = .ok (.lreturn, 1)) : G K g nL cs pc L [vl x] (SH0, σ) := by
  cases h
  exact hR pc L hd
theorem ret_v {σ σ' : St} (h : some σ = some σ') (hR : RetV K g cc nL cs (SH0, σ')) (hd : decode cc pc = .ok (.return_, 1)) : G K g nL cs pc L [] (SH0, σ) := by
  cases h
  exact hR pc L hd
theorem sw_out {x lo hi : Int} {pc tgt : Nat} {dflt : Int} {offs : Array Int} (lo' hi' : Int) (h : x < lo ∨ hi < x) (ht : (pc : Int) + dflt = (tgt : Int)) : ((x < lo ∨ hi < x) ∧ (pc : Int) + dflt = (tgt : Int)) ∨ (¬ x < lo ∧ ¬ hi < x ∧ ∃ off, offs[(x - lo).toNat]? = some off ∧ (pc : Int) + off = (tgt : Int)) := Or.inl ⟨h, ht⟩
theorem s_callVi {y : MethodName} {b : ByteArray} {nL' : Nat} {ret : Option FieldType} {fr' n ix c ci : Nat} {fs : List (Nat × Option Nat)} {T : u_T} {N : Nat} {As stk : List Vl} {r : Int} {S' : S2} (hC : Ctx K g own cc nL fr cm sm) (hd : decode cc pc = .ok (.invokevirtual ix, 3)) (hM : Cn (Kl K) g y b nL' ret fr' 0 0 (vr c :: As) S (some (vi r)) S') (hm : MI y b nL' ret n) (hv : MV y) (hl : ML own ix y) (hs : S.1[c]? = some (0, ci, fs)) (hcl : vwCl[ci]? = some (y.cls, T, N)) (hstk : stk = As.reverse ++ vr c :: st) (hn : As.length = n) (hw : wsum st ≤ 8) (hfr : fr' + 1 ≤ fr) (hnl : nL' ≤ 21) (hcs : cs.1 ≤ cm ∧ cs.2 ≤ sm) (kk : G K g nL cs (pc + 3) L (vi r :: st) S') : G K g nL cs pc L stk S := g_callV hC hd hm hv hl hs hcl hstk hn hw hfr hnl hcs hM kk
theorem s_callSi {y : MethodName} {b : ByteArray} {nL' : Nat} {ret : Option FieldType} {fr' n ix : Nat} {As stk : List Vl} {r : Int} {S' : S2} (hC : Ctx K g own cc nL fr cm sm) (hd : decode cc pc = .ok (.invokestatic ix, 3)) (hM : Cn (Kl K) g y b nL' ret fr' 0 0 As S (some (vi r)) S') (hm : MI y b nL' ret n) (hv : Cond.static y ∈ lw_w) (hl : ML own ix y) (hstk : stk = As.reverse ++ st) (hn : As.length = n) (hw : wsum st ≤ 8) (hfr : fr' + 1 ≤ fr) (hnl : nL' ≤ 21) (hcs : cs.1 ≤ cm ∧ cs.2 ≤ sm) (kk : G K g nL cs (pc + 3) L (vi r :: st) S') : G K g nL cs pc L stk S := g_callS hC hd hm hv hl hstk hn hw hfr hnl hcs hM kk
theorem s_callVl {y : MethodName} {b : ByteArray} {nL' : Nat} {ret : Option FieldType} {fr' n ix c ci : Nat} {fs : List (Nat × Option Nat)} {T : u_T} {N : Nat} {As stk : List Vl} {r : Int} {S' : S2} (hC : Ctx K g own cc nL fr cm sm) (hd : decode cc pc = .ok (.invokevirtual ix, 3)) (hM : Cn (Kl K) g y b nL' ret fr' 0 0 (vr c :: As) S (some (vl r)) S') (hm : MI y b nL' ret n) (hv : MV y) (hl : ML own ix y) (hs : S.1[c]? = some (0, ci, fs)) (hcl : vwCl[ci]? = some (y.cls, T, N)) (hstk : stk = As.reverse ++ vr c :: st) (hn : As.length = n) (hw : wsum st ≤ 8) (hfr : fr' + 1 ≤ fr) (hnl : nL' ≤ 21) (hcs : cs.1 ≤ cm ∧ cs.2 ≤ sm) (kk : G K g nL cs (pc + 3) L (vl r :: st) S') : G K g nL cs pc L stk S := g_callV hC hd hm hv hl hs hcl hstk hn hw hfr hnl hcs hM kk
theorem s_callSl {y : MethodName} {b : ByteArray} {nL' : Nat} {ret : Option FieldType} {fr' n ix : Nat} {As stk : List Vl} {r : Int} {S' : S2} (hC : Ctx K g own cc nL fr cm sm) (hd : decode cc pc = .ok (.invokestatic ix, 3)) (hM : Cn (Kl K) g y b nL' ret fr' 0 0 As S (some (vl r)) S') (hm : MI y b nL' ret n) (hv : Cond.static y ∈ lw_w) (hl : ML own ix y) (hstk : stk = As.reverse ++ st) (hn : As.length = n) (hw : wsum st ≤ 8) (hfr : fr' + 1 ≤ fr) (hnl : nL' ≤ 21) (hcs : cs.1 ≤ cm ∧ cs.2 ≤ sm) (kk : G K g nL cs (pc + 3) L (vl r :: st) S') : G K g nL cs pc L stk S := g_callS hC hd hm hv hl hstk hn hw hfr hnl hcs hM kk
theorem s_callVv {y : MethodName} {b : ByteArray} {nL' : Nat} {ret : Option FieldType} {fr' n ix c ci : Nat} {fs : List (Nat × Option Nat)} {T : u_T} {N : Nat} {As stk : List Vl} {S' : S2} (hC : Ctx K g own cc nL fr cm sm) (hd : decode cc pc = .ok (.invokevirtual ix, 3)) (hM : Cn (Kl K) g y b nL' ret fr' 0 0 (vr c :: As) S none S') (hm : MI y b nL' ret n) (hv : MV y) (hl : ML own ix y) (hs : S.1[c]? = some (0, ci, fs)) (hcl : vwCl[ci]? = some (y.cls, T, N)) (hstk : stk = As.reverse ++ vr c :: st) (hn : As.length = n) (hw : wsum st ≤ 8) (hfr : fr' + 1 ≤ fr) (hnl : nL' ≤ 21) (hcs : cs.1 ≤ cm ∧ cs.2 ≤ sm) (kk : G K g nL cs (pc + 3) L (st) S') : G K g nL cs pc L stk S := g_callV hC hd hm hv hl hs hcl hstk hn hw hfr hnl hcs hM kk
theorem s_callSv {y : MethodName} {b : ByteArray} {nL' : Nat} {ret : Option FieldType} {fr' n ix : Nat} {As stk : List Vl} {S' : S2} (hC : Ctx K g own cc nL fr cm sm) (hd : decode cc pc = .ok (.invokestatic ix, 3)) (hM : Cn (Kl K) g y b nL' ret fr' 0 0 As S none S') (hm : MI y b nL' ret n) (hv : Cond.static y ∈ lw_w) (hl : ML own ix y) (hstk : stk = As.reverse ++ st) (hn : As.length = n) (hw : wsum st ≤ 8) (hfr : fr' + 1 ≤ fr) (hnl : nL' ≤ 21) (hcs : cs.1 ≤ cm ∧ cs.2 ≤ sm) (kk : G K g nL cs (pc + 3) L (st) S') : G K g nL cs pc L stk S := g_callS hC hd hm hv hl hstk hn hw hfr hnl hcs hM kk
end Steady
