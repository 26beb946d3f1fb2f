/-! Constructors, the second half: rows of references, final fields, Object's own constructor, calls of constructors. -/
/-- a final field's write in its own constructor -/
def FF (own : String) (ci k : Nat) (ty : FieldType) : Prop := ∃ (C : String) (T : u_T) (N : Nat) (ty0 : Nat → FieldType), vwCl[ci]? = some (C, T, N) ∧ (∀ k, k < N → parseFieldDescriptor (T k).2.2.1 = some (ty0 k)) ∧ (∀ a, a < N → ∀ b, b < N → a ≠ b → (T a).2.1 ≠ (T b).2.1) ∧ (T k).2.2.2 = true ∧ (T k).1 = own ∧ parseFieldDescriptor (T k).2.2.1 = some ty ∧ ∀ a : Nat, narrow ty (.ref a) = .ref a ∧ fits ty (.ref a) = true
def FI (own : String) (ix ci k : Nat) : Prop := ∃ (C : String) (T : u_T) (N : Nat), vwCl[ci]? = some (C, T, N) ∧ k < N ∧ (∀ w ∈ u_ws C T N, w ∈ lw_w) ∧ Cond.fieldLink own ix (T k).1 (T k).2.1 (T k).2.2.1 ∈ lw_w
section InitRows2
variable {K : KT} {g : GT} {own : String} {cc : ByteArray} {nL fr cm sm : Nat} {cs : Nat × Nat} {pc : Nat} {L : List (Nat × Vl)} {st : List Vl} {S : S2}
theorem wsO_sh {k : Nat} {h' : Sh} (hk : k < S.1.length) : (wsO g S).set k (g.1 + k, ce g (S.2 k) h') = wsO g (S.1.set k h', S.2) := by
  apply List.ext_getElem?
  intro i
  rw [List.getElem?_set]
  by_cases hi : k = i
  · subst hi
    simp [wsO, List.getElem?_mapIdx, hk]
  · simp [hi, wsO, List.getElem?_mapIdx]
theorem Wh_sh {k : Nat} {h' : Sh} {H H1 : Heap} (h1 : Wh g S H) (hk : k < S.1.length) (hP : va_P g.2.1 vwCl ((wsO g S).set k (g.1 + k, ce g (S.2 k) h')) H1) (ho : okc (S.2 k) h') : Wh g (S.1.set k h', S.2) H1 := by
  refine ⟨by rw [← wsO_sh hk]; exact hP, fun q h hq => ?_⟩
  by_cases e : k = q
  · subst e
    rw [List.getElem?_set_self hk] at hq
    cases hq
    exact ho
  · rw [List.getElem?_set_ne e] at hq
    exact h1.2 q h hq
theorem set_ref {c k d : Nat} {fs : List (Nat × Option Nat)} (hk : k < fs.length) : (fs.mapIdx (fun j f => fv g f (S.2 c j))).set k (cv g (vr d)) = (fs.set k (2, some d)).mapIdx (fun j f => fv g f (S.2 c j)) := by
  apply List.ext_getElem?
  intro i
  rw [List.getElem?_set, List.getElem?_mapIdx, List.getElem?_mapIdx]
  by_cases hi : k = i
  · subst hi
    simp [hk]
    rfl
  · simp [hi]
theorem g_putF {c d ix ci k : Nat} {fs : List (Nat × Option Nat)} {ty : FieldType} (hC : Ctx K g own cc nL fr cm sm) (hnm : Kname K = "<init>") (hd : decode cc pc = .ok (.putfield ix, 3)) (hF : FI own ix ci k) (hp : FF own ci k ty) (hs : S.1[c]? = some (0, ci, fs)) (hk : k < fs.length) (kk : G K g nL cs (pc + 3) L st (S.1.set c (0, ci, fs.set k (2, some d)), S.2)) : G K g nL cs pc L (vr d :: vr c :: st) S := by
  obtain ⟨p, l, e, R, s, m, args, below, meth, c0, Q⟩ := K
  obtain ⟨C, T, N, e1, e2, e3, e4⟩ := hF
  obtain ⟨C', T', N', ty0, p1, p2, p3, p4, p5, p6, p7⟩ := hp
  cases e1.symm.trans p1
  intro H locs ls h1 h2 h3 h4 h5
  have hl : k < (fs.mapIdx (fun j f => fv g f (S.2 c j))).length := by rw [List.length_mapIdx]; exact hk
  have hc : c < S.1.length := (List.getElem?_eq_some_iff.mp hs).1
  refine va_putF hC.1 hC.2.1 hC.2.2.2.2.1 e3 ty0 p2 p3 hC.2.2.2.1 hC.2.2.2.2.2.1.1 h1.1 (wsO_D g S) h2 c (obj_get hs) e1 k e2 (hC.2.2.2.2.1 _ e4) (fun _ h => h) p4 hnm p5 p6 (p7 _).1 (p7 _).2 hl hd (fun H1 locs1 hP _ hS => ?_)
  rw [set_ref hk] at hP
  refine kk H1 locs1 ls (Wh_sh h1 hc hP ?_) hS (okv_tail (okv_tail h3)) h4 h5
  intro j f hj
  by_cases hi : k = j
  · subst hi
    rw [List.getElem?_set_self hk] at hj
    cases hj
    trivial
  · rw [List.getElem?_set_ne hi] at hj
    have := h1.2 c _ hs
    exact this j f hj
theorem set_dyn {c k d : Nat} {fs : List (Nat × Option Nat)} (hk : k < fs.length) : (fs.mapIdx (fun j f => fv g f (S.2 c j))).set k (cv g (vr d)) = (fs.set k (4, none)).mapIdx (fun j f => fv g f (up S.2 c k (Int.ofNat d) c j)) := by
  apply List.ext_getElem?
  intro i
  rw [List.getElem?_set, List.getElem?_mapIdx, List.getElem?_mapIdx]
  by_cases hi : k = i
  · subst hi
    simp [hk, up]
    rfl
  · simp [hi, up, Ne.symm hi]
theorem wsO_dyn {k j : Nat} {h' : Sh} {x : Int} (hk : k < S.1.length) : (wsO g S).set k (g.1 + k, ce g (up S.2 k j x k) h') = wsO g (S.1.set k h', up S.2 k j x) := by
  apply List.ext_getElem?
  intro i
  rw [List.getElem?_set]
  by_cases hi : k = i
  · subst hi
    simp [wsO, List.getElem?_mapIdx, hk]
  · simp [hi, wsO, List.getElem?_mapIdx, up_ne (Ne.symm hi)]
theorem g_putD {c d ix ci k : Nat} {fs : List (Nat × Option Nat)} (hC : Ctx K g own cc nL fr cm sm) (hd : decode cc pc = .ok (.putfield ix, 3)) (hF : FI own ix ci k) (hp : FP ci k (.array .int)) (hs : S.1[c]? = some (0, ci, fs)) (hk : k < fs.length) (kk : G K g nL cs (pc + 3) L st (S.1.set c (0, ci, fs.set k (4, none)), up S.2 c k (Int.ofNat d))) : G K g nL cs pc L (vr d :: vr c :: st) S := by
  obtain ⟨p, l, e, R, s, m, args, below, meth, c0, Q⟩ := K
  obtain ⟨C, T, N, e1, e2, e3, e4⟩ := hF
  obtain ⟨C', T', N', ty0, p1, p2, p3, p4, p5⟩ := hp
  cases e1.symm.trans p1
  intro H locs ls h1 h2 h3 h4 h5
  have hl : k < (fs.mapIdx (fun j f => fv g f (S.2 c j))).length := by rw [List.length_mapIdx]; exact hk
  have hc : c < S.1.length := (List.getElem?_eq_some_iff.mp hs).1
  refine va_put hC.1 hC.2.1 hC.2.2.2.2.1 e3 ty0 p2 p3 hC.2.2.2.1 hC.2.2.2.2.2.1.1 h1.1 (wsO_D g S) h2 c (obj_get hs) e1 k e2 (hC.2.2.2.2.1 _ e4) (fun _ h => h) p4 p5 rfl rfl hl hd (fun H1 locs1 hP _ hS => ?_)
  have hP : va_P g.2.1 vwCl ((wsO g S).set c (g.1 + c, .inr (ci, (fs.mapIdx (fun j f => fv g f (S.2 c j))).set k (cv g (vr d))))) H1 := hP
  rw [set_dyn hk] at hP
  refine kk H1 locs1 ls ⟨by rw [← wsO_dyn hc]; exact hP, fun q h hq => ?_⟩ hS (okv_tail (okv_tail h3)) h4 h5
  by_cases hqc : c = q
  · subst hqc
    have hq : (S.1.set c (0, ci, fs.set k (4, none)))[c]? = some h := hq
    rw [List.getElem?_set_self hc] at hq
    cases hq
    intro j f hj
    by_cases hi : k = j
    · subst hi
      rw [List.getElem?_set_self hk] at hj
      cases hj
      trivial
    · rw [List.getElem?_set_ne hi] at hj
      have := h1.2 c _ hs
      have := this j f hj
      show okf f (up S.2 c k (Int.ofNat d) c j)
      rw [up_at]
      simp only [vf_upd, if_neg (Ne.symm hi)]
      exact this
  · have hq : (S.1.set c (0, ci, fs.set k (4, none)))[q]? = some h := hq
    rw [List.getElem?_set_ne hqc] at hq
    show okc (up S.2 c k (Int.ofNat d) q) h
    rw [up_ne (Ne.symm hqc)]
    exact h1.2 q h hq
theorem g_newr {n : Int} {ix : Nat} (hC : Ctx K g own cc nL fr cm sm) (hd : decode cc pc = .ok (.anewarray ix, 3)) (hcl : Cond.classLink own ix RX6 ∈ lw_w) (hn : 0 ≤ n ∧ n ≤ 1000) (hsz : (Kheap K).size + cs.1 = g.1 + S.1.length) (hcs : cs.1 + 1 ≤ cm ∧ cs.2 + n.toNat ≤ sm) (kk : G K g nL (cs.1 + 1, cs.2 + n.toNat) (pc + 3) L (vr S.1.length :: st) (S.1 ++ [(3, n.toNat, List.replicate n.toNat (2, none))], S.2)) : G K g nL cs pc L (vi n :: st) S := by
  obtain ⟨p, l, e, R, s, m, args, below, meth, c0, Q⟩ := K
  intro H locs ls h1 h2 h3 h4 h5
  obtain ⟨a1, a2, a3, a4, a5, a6, a7, a8, a9, a10, a11⟩ := hC
  have hn' : ok32 n := okv_head h3
  refine va_newq (C := RX6) (N' := n.toNat) a1 a2 a4 (a5 _ hcl) a6.2.2.2.2 a6.1 h1.1 (wsO_D g S) h2 (fun q h => Nat.le_trans a7 h) (fun z => by have := (lt_of32 hn' ok32_0).mp z; omega) (clamp_of32 hn') (by omega) (by omega) (by omega) hd (fun q cA H1 hK hP hD hS => ?_)
  have hc := cA_ref hK
  subst hc
  refine W_size (fun hsz1 => ?_)
  have hq : q = g.1 + S.1.length := addr_eq hP hD (by have := hsz; simp only [Kheap] at this; omega)
  subst hq
  have he : ce g (S.2 S.1.length) (3, n.toNat, List.replicate n.toNat (2, none)) = .inl (g.2.2.1.2.2, n.toNat, .inr (.inr (.inr (.inr (fun _ => none))))) := by
    have : (fun j : Nat => (((List.replicate n.toNat ((2, none) : Nat × Option Nat))[j]?).bind (fun q : Nat × Option Nat => q.2)).map (fun c => g.1 + c)) = fun _ => none := by
      funext j
      rw [List.getElem?_replicate]
      split <;> rfl
    show Sum.inl (g.2.2.1.2.2, n.toNat, Sum.inr (Sum.inr (Sum.inr (Sum.inr _)))) = _
    rw [this]
  refine kk H1 locs ls (Wh_push h1 (by rw [he]; exact hP) trivial) hS (okv_cons (v := vr S.1.length) trivial (okv_tail h3)) h4 h5
theorem g_aast {c d n : Nat} {z : List (Nat × Option Nat)} {fs : List (Nat × Option Nat)} {i : Int} (hC : Ctx K g own cc nL fr cm sm) (hd : decode cc pc = .ok (.aastore, 1)) (hs : S.1[c]? = some (3, n, z)) (hv : S.1[d]? = some (0, 6, fs)) (hi : inb i n) (hl : i.toNat < z.length) (kk : G K g nL cs (pc + 1) L st (S.1.set c (3, n, z.set i.toNat (2, some d)), S.2)) : G K g nL cs pc L (vr d :: vi i :: vr c :: st) S := by
  obtain ⟨p, l, e, R, s, m, args, below, meth, c0, Q⟩ := K
  intro H locs ls h1 h2 h3 h4 h5
  have hi' : ok32 i := okv_head (okv_tail h3)
  have hc : c < S.1.length := (List.getElem?_eq_some_iff.mp hs).1
  refine va_astq hC.1 hC.2.1 hC.2.2.2.2.2.1.1 h1.1 (wsO_D g S) h2 c 2 d 6 (refs_get hs) rfl (obj_get hv) vc_6 (in_of32 hi' hi.1 hi.2) hd (fun H1 locs1 hP _ hS => ?_)
  refine kk H1 locs1 ls (Wh_sh h1 hc ?_ trivial) hS (okv_tail (okv_tail (okv_tail h3))) h4 h5
  rw [clamp_of32 hi'] at hP
  have he : (va_up (fun j => ((z[j]?).bind (fun q => q.2)).map (fun c => g.1 + c)) i.toNat (some (g.1 + d))) = (fun j => (((z.set i.toNat (2, some d))[j]?).bind (fun q => q.2)).map (fun c => g.1 + c)) := by
    funext j
    unfold va_up
    rw [List.getElem?_set]
    by_cases hj : j = i.toNat
    · subst hj
      simp [hl]
    · simp [hj, Ne.symm hj]
  rw [he] at hP
  exact hP
theorem g_objI {c ix : Nat} (hC : Ctx K g own cc nL fr cm sm) (hd : decode cc pc = .ok (.invokespecial ix, 3)) (hl : Cond.methodLink own ix Lib.objectInit ∈ lw_w) (hi : Cond.instanceMethod Lib.objectInit ∈ lw_w) (hcd : Cond.code Lib.objectInit ⟨#[0xb1]⟩ 1 none ∈ lw_w) (hw : wsum st ≤ 8) (hfr : 1 ≤ fr) (kk : G K g nL cs (pc + 3) L st S) : G K g nL cs pc L (vr c :: st) S := by
  obtain ⟨p, l, e, R, s, m, args, below, meth, c0, Q⟩ := K
  intro H locs ls h1 h2 h3 h4 h5
  obtain ⟨a1, a2, a3, a4, a5, a6, a7, a8, a9, a10, a11⟩ := hC
  refine W.objInit a1 a2 a4 (a5 _ hl) (a5 _ hi) (a5 _ hcd) rfl (by rw [a3]; exact h5.1) rfl hd (by omega) ?_ ?_
  · have hr := lv_room (m := m) (pc := pc) (ls := ls) (rest := (vr c :: st).map (cv g)) (st := st.map (cv g)) (by rw [wsum_cv]; exact hw)
    omega
  · exact kk H locs ls h1 h2 (okv_tail h3) h4 h5
end InitRows2
