/-! Math, System.arraycopy, static arrays of longs. -/
section JdkRows
variable {K : KT} {g : GT} {own : String} {cc : ByteArray} {nL fr cm sm : Nat} {cs : Nat × Nat} {pc : Nat} {L : List (Nat × Vl)} {st : List Vl} {S : S2}
def m_min (x y : Int) : Int := if y < x then y else x
def m_max (x y : Int) : Int := if x < y then y else x
def m_maxl (x y : Int) : Int := if y < x then x else y
theorem g_min {ix : Nat} {x y : Int} (hC : Ctx K g own cc nL fr cm sm) (hd : decode cc pc = .ok (.invokestatic ix, 3)) (hl : Cond.methodLink own ix Lib.Math.min.name ∈ lw_w) (hst : Cond.static Lib.Math.min.name ∈ lw_w) (hi : Cond.initialized "java/lang/Math" ∈ lw_w) (hcd : Cond.code Lib.Math.min.name Lib.Math.min.code 2 (some .int) ∈ lw_w) (hw : wsum st ≤ 8) (hfr : 1 ≤ fr) (hcs : cs.1 ≤ cm ∧ cs.2 ≤ sm) (k : G K g nL cs (pc + 3) L (vi (m_min x y) :: st) S) : G K g nL cs pc L (vi y :: vi x :: st) S := by
  obtain ⟨p, l, e, R, s, m, args, below, meth, c, Q⟩ := K
  intro H locs ls h1 h2 h3 h4 h5
  have hx : ok32 x := okv_head (okv_tail h3)
  have hy : ok32 y := okv_head h3
  obtain ⟨a1, a2, a3, a4, a5, a6, a7, a8, a9, a10, a11⟩ := hC
  have k' := k H locs ls h1 h2 (okv_cons (v := vi (m_min x y)) (by show ok32 _; unfold m_min; split <;> assumption) (okv_tail (okv_tail h3))) h4 h5
  refine va_mmin a1 a2 (by rw [a3]; exact h5.1.symm) a4 (a5 _ hl) (a5 _ hst) (a5 _ hi) (a5 _ hcd) (by omega) (by rw [wsum_cv]; omega) (by omega) (by omega) hd ?_
  have e9 : (if Int32.ofInt y < Int32.ofInt x then Int32.ofInt y else Int32.ofInt x) = Int32.ofInt (m_min x y) := by
    unfold m_min
    by_cases h : y < x
    · rw [if_pos h, if_pos ((lt_of32 hy hx).mpr h)]
    · rw [if_neg h, if_neg (fun z => h ((lt_of32 hy hx).mp z))]
  rw [e9]
  exact k'
theorem g_max {ix : Nat} {x y : Int} (hC : Ctx K g own cc nL fr cm sm) (hd : decode cc pc = .ok (.invokestatic ix, 3)) (hl : Cond.methodLink own ix Lib.Math.max.name ∈ lw_w) (hst : Cond.static Lib.Math.max.name ∈ lw_w) (hi : Cond.initialized "java/lang/Math" ∈ lw_w) (hcd : Cond.code Lib.Math.max.name Lib.Math.max.code 2 (some .int) ∈ lw_w) (hw : wsum st ≤ 8) (hfr : 1 ≤ fr) (hcs : cs.1 ≤ cm ∧ cs.2 ≤ sm) (k : G K g nL cs (pc + 3) L (vi (m_max x y) :: st) S) : G K g nL cs pc L (vi y :: vi x :: st) S := by
  obtain ⟨p, l, e, R, s, m, args, below, meth, c, Q⟩ := K
  intro H locs ls h1 h2 h3 h4 h5
  have hx : ok32 x := okv_head (okv_tail h3)
  have hy : ok32 y := okv_head h3
  obtain ⟨a1, a2, a3, a4, a5, a6, a7, a8, a9, a10, a11⟩ := hC
  have k' := k H locs ls h1 h2 (okv_cons (v := vi (m_max x y)) (by show ok32 _; unfold m_max; split <;> assumption) (okv_tail (okv_tail h3))) h4 h5
  refine va_mmax a1 a2 (by rw [a3]; exact h5.1.symm) a4 (a5 _ hl) (a5 _ hst) (a5 _ hi) (a5 _ hcd) (by omega) (by rw [wsum_cv]; omega) (by omega) (by omega) hd ?_
  have e9 : (if Int32.ofInt x < Int32.ofInt y then Int32.ofInt y else Int32.ofInt x) = Int32.ofInt (m_max x y) := by
    unfold m_max
    by_cases h : x < y
    · rw [if_pos h, if_pos ((lt_of32 hx hy).mpr h)]
    · rw [if_neg h, if_neg (fun z => h ((lt_of32 hx hy).mp z))]
  rw [e9]
  exact k'
theorem g_maxl {ix : Nat} {x y : Int} (hC : Ctx K g own cc nL fr cm sm) (hd : decode cc pc = .ok (.invokestatic ix, 3)) (hl : Cond.methodLink own ix Lib.MathLoose.max_long.x ∈ lw_w) (hst : Cond.static Lib.MathLoose.max_long.x ∈ lw_w) (hi : Cond.initialized "java/lang/Math" ∈ lw_w) (hcd : Cond.code Lib.MathLoose.max_long.x Lib.MathLoose.max_long.code 4 (some .long) ∈ lw_w) (hw : wsum st ≤ 8) (hfr : 1 ≤ fr) (hcs : cs.1 ≤ cm ∧ cs.2 ≤ sm) (k : G K g nL cs (pc + 3) L (vl (m_maxl x y) :: st) S) : G K g nL cs pc L (vl y :: vl x :: st) S := by
  obtain ⟨p, l, e, R, s, m, args, below, meth, c, Q⟩ := K
  intro H locs ls h1 h2 h3 h4 h5
  have hx : ok64 x := okv_head (okv_tail h3)
  have hy : ok64 y := okv_head h3
  obtain ⟨a1, a2, a3, a4, a5, a6, a7, a8, a9, a10, a11⟩ := hC
  have k' := k H locs ls h1 h2 (okv_cons (v := vl (m_maxl x y)) (by show ok64 _; unfold m_maxl; split <;> assumption) (okv_tail (okv_tail h3))) h4 h5
  refine va_mmax_long a1 a2 (by rw [a3]; exact h5.1.symm) a4 (a5 _ hl) (a5 _ hst) (a5 _ hi) (a5 _ hcd) (by omega) (by rw [wsum_cv]; omega) (by omega) (by omega) hd ?_
  have hh : Int64.ofInt y < Int64.ofInt x ↔ y < x := by rw [Int64.lt_iff_toInt_lt, toInt_of64 hx, toInt_of64 hy]
  have e9 : (if Int64.ofInt y < Int64.ofInt x then Int64.ofInt x else Int64.ofInt y) = Int64.ofInt (m_maxl x y) := by
    unfold m_maxl
    by_cases h : y < x
    · rw [if_pos h, if_pos (hh.mpr h)]
    · rw [if_neg h, if_neg (fun z => h (hh.mp z))]
  rw [e9]
  exact k'
theorem g_oaldl {k : Nat} {C n d : String} {xs : List Int} {i x : Int} (hC : Ctx K g own cc nL fr cm sm) (hd : decode cc pc = .ok (.laload, 1)) (hk : sts[k]? = some (C, n, d, .long, xs)) (hi : inb i xs.length) (hx : ok64 (xs.getD i.toNat 0)) (kk : G K g nL cs (pc + 1) L (vl (xs.getD i.toNat 0) :: st) S) : G K g nL cs pc L (vi i :: vo k :: st) S := by
  obtain ⟨p, l, e, R, s, m, args, below, meth, c0, Q⟩ := K
  intro H locs ls h1 h2 h3 h4 h5
  have hi' : ok32 i := okv_head h3
  exact va_tl hC.1 hC.2.1 (hC.2.2.2.2.2.1.2.1.1 k C n d .long xs hk).2 h2 (in_of32 hi' hi.1 hi.2) (v := .long (Int64.ofInt (xs.getD i.toNat 0))) (by rw [clamp_of32 hi']; rfl) hd (kk H locs ls h1 h2 (okv_cons (v := vl _) hx (okv_tail (okv_tail h3))) h4 h5)
/-- one cell's contents changed as a whole -/
def upc (σ : St) (c : Nat) (τ : Nat → Int) : St := fun a => if a = c then τ else σ a
theorem wsO_upc {k : Nat} {h : Sh} {τ : Nat → Int} (hk : S.1[k]? = some h) : (wsO g S).set k (g.1 + k, ce g τ h) = wsO g (S.1, upc S.2 k τ) := by
  apply List.ext_getElem?
  intro i
  rw [List.getElem?_set]
  by_cases hi : k = i
  · subst hi
    have hlt : k < S.1.length := (List.getElem?_eq_some_iff.mp hk).1
    have e := (List.getElem?_eq_some_iff.mp hk).2
    simp [hlt, wsO, List.getElem?_mapIdx, upc, e]
  · simp [hi, wsO, List.getElem?_mapIdx, upc, Ne.symm hi]
theorem Wh_upc {k : Nat} {h : Sh} {τ : Nat → Int} {H H1 : Heap} (h1 : Wh g S H) (hk : S.1[k]? = some h) (hx : okc τ h) (hP : va_P g.2.1 vwCl ((wsO g S).set k (g.1 + k, ce g τ h)) H1) : Wh g (S.1, upc S.2 k τ) H1 := by
  refine ⟨by rw [← wsO_upc hk]; exact hP, fun q h' hq => ?_⟩
  by_cases e : q = k
  · subst e
    cases hk.symm.trans hq
    show okc (upc S.2 q τ q) h
    rw [upc, if_pos rfl]
    exact hx
  · show okc (upc S.2 k τ q) h'
    rw [upc, if_neg e]
    exact h1.2 q h' hq
/-- System.arraycopy's deed -/
def cpy (σ : St) (c sp d dp n : Nat) : St := upc σ d (fun b => if dp ≤ b ∧ b < dp + n then σ c (sp + (b - dp)) else σ d b)
abbrev inc (sp dp n : Int) (n0 n1 : Nat) : Prop := 0 ≤ sp ∧ 0 ≤ dp ∧ 0 ≤ n ∧ sp + n ≤ (n0 : Int) ∧ dp + n ≤ (n1 : Int)
theorem g_copyi {ix c d n0 n1 : Nat} {z0 z1 : List (Nat × Option Nat)} {sp dp n : Int} (hC : Ctx K g own cc nL fr cm sm) (hd : decode cc pc = .ok (.invokestatic ix, 3)) (hl : Cond.methodLink own ix arraycopyName ∈ lw_w) (hnat : Cond.native arraycopyName ∈ lw_w) (hst : Cond.static arraycopyName ∈ lw_w) (hi : Cond.initialized "java/lang/System" ∈ lw_w) (hw : wsum st + (nativeFrameWords "java/lang/System" "arraycopy" 5 + 11) ≤ 40) (hfr : 1 ≤ fr) (hs0 : S.1[c]? = some (1, n0, z0)) (hs1 : S.1[d]? = some (1, n1, z1)) (hin : inc sp dp n n0 n1) (k : G K g nL cs (pc + 3) L st (S.1, cpy S.2 c sp.toNat d dp.toNat n.toNat)) : G K g nL cs pc L (vi n :: vi dp :: vr d :: vi sp :: vr c :: st) S := by
  obtain ⟨p, l, e, R, s, m, args, below, meth, c0, Q⟩ := K
  intro H locs ls h1 h2 h3 h4 h5
  have hn : ok32 n := okv_head h3
  have hdp : ok32 dp := okv_head (okv_tail h3)
  have hsp : ok32 sp := okv_head (okv_tail (okv_tail (okv_tail h3)))
  obtain ⟨i1, i2, i3, i4, i5⟩ := hin
  obtain ⟨a1, a2, a3, a4, a5, a6, a7, a8, a9, a10, a11⟩ := hC
  refine va_copyi a1 a2 (by rw [a3]; exact h5.1.symm) a4 (a5 _ hl) (a5 _ hnat) (a5 _ hst) (a5 _ hi) a6.1 h1.1 (wsO_D g S) h2 c d 0 0 (ints_get hs0) (ints_get hs1) rfl rfl rfl (fun z => by have := (lt_of32 hsp ok32_0).mp z; omega) (fun z => by have := (lt_of32 hdp ok32_0).mp z; omega) (fun z => by have := (lt_of32 hn ok32_0).mp z; omega) (by rw [clamp_of32 hsp, clamp_of32 hn]; omega) (by rw [clamp_of32 hdp, clamp_of32 hn]; omega) (fun _ _ => rfl) (by omega) (by rw [wsum_cv]; omega) hd (fun H1 locs1 hP _ hS => ?_)
  refine k H1 locs1 ls (Wh_upc h1 hs1 ?_ ?_) hS (okv_tail (okv_tail (okv_tail (okv_tail (okv_tail h3))))) h4 h5
  · intro j
    have q0 := h1.2 c _ hs0
    have q1 := h1.2 d _ hs1
    show ok32 (if _ then _ else _)
    split
    · exact q0 _
    · exact q1 _
  · rw [clamp_of32 hsp, clamp_of32 hdp, clamp_of32 hn] at hP
    have e9 : (va_cpy (fun j => Int32.ofInt (S.2 c j)) (fun j => Int32.ofInt (S.2 d j)) sp.toNat dp.toNat n.toNat) = (fun j => Int32.ofInt (if dp.toNat ≤ j ∧ j < dp.toNat + n.toNat then S.2 c (sp.toNat + (j - dp.toNat)) else S.2 d j)) := by
      funext j
      unfold va_cpy
      split <;> rfl
    rw [e9] at hP
    exact hP
theorem g_copyl {ix c d n0 n1 : Nat} {z0 z1 : List (Nat × Option Nat)} {sp dp n : Int} (hC : Ctx K g own cc nL fr cm sm) (hd : decode cc pc = .ok (.invokestatic ix, 3)) (hl : Cond.methodLink own ix arraycopyName ∈ lw_w) (hnat : Cond.native arraycopyName ∈ lw_w) (hst : Cond.static arraycopyName ∈ lw_w) (hi : Cond.initialized "java/lang/System" ∈ lw_w) (hw : wsum st + (nativeFrameWords "java/lang/System" "arraycopy" 5 + 11) ≤ 40) (hfr : 1 ≤ fr) (hs0 : S.1[c]? = some (2, n0, z0)) (hs1 : S.1[d]? = some (2, n1, z1)) (hin : inc sp dp n n0 n1) (k : G K g nL cs (pc + 3) L st (S.1, cpy S.2 c sp.toNat d dp.toNat n.toNat)) : G K g nL cs pc L (vi n :: vi dp :: vr d :: vi sp :: vr c :: st) S := by
  obtain ⟨p, l, e, R, s, m, args, below, meth, c0, Q⟩ := K
  intro H locs ls h1 h2 h3 h4 h5
  have hn : ok32 n := okv_head h3
  have hdp : ok32 dp := okv_head (okv_tail h3)
  have hsp : ok32 sp := okv_head (okv_tail (okv_tail (okv_tail h3)))
  obtain ⟨i1, i2, i3, i4, i5⟩ := hin
  obtain ⟨a1, a2, a3, a4, a5, a6, a7, a8, a9, a10, a11⟩ := hC
  refine va_copyl a1 a2 (by rw [a3]; exact h5.1.symm) a4 (a5 _ hl) (a5 _ hnat) (a5 _ hst) (a5 _ hi) a6.1 h1.1 (wsO_D g S) h2 c d 1 1 (longs_get hs0) (longs_get hs1) rfl rfl rfl (fun z => by have := (lt_of32 hsp ok32_0).mp z; omega) (fun z => by have := (lt_of32 hdp ok32_0).mp z; omega) (fun z => by have := (lt_of32 hn ok32_0).mp z; omega) (by rw [clamp_of32 hsp, clamp_of32 hn]; omega) (by rw [clamp_of32 hdp, clamp_of32 hn]; omega) (fun _ _ => rfl) (by omega) (by rw [wsum_cv]; omega) hd (fun H1 locs1 hP _ hS => ?_)
  refine k H1 locs1 ls (Wh_upc h1 hs1 ?_ ?_) hS (okv_tail (okv_tail (okv_tail (okv_tail (okv_tail h3))))) h4 h5
  · intro j
    have q0 := h1.2 c _ hs0
    have q1 := h1.2 d _ hs1
    show ok64 (if _ then _ else _)
    split
    · exact q0 _
    · exact q1 _
  · rw [clamp_of32 hsp, clamp_of32 hdp, clamp_of32 hn] at hP
    have e9 : (va_cpy (fun j => Int64.ofInt (S.2 c j)) (fun j => Int64.ofInt (S.2 d j)) sp.toNat dp.toNat n.toNat) = (fun j => Int64.ofInt (if dp.toNat ≤ j ∧ j < dp.toNat + n.toNat then S.2 c (sp.toNat + (j - dp.toNat)) else S.2 d j)) := by
      funext j
      unfold va_cpy
      split <;> rfl
    rw [e9] at hP
    exact hP
end JdkRows
