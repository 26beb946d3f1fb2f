/-! Rows over the store: fields, arrays, statics. -/
section HeapRows
variable {K : KT} {g : GT} {own : String} {cc : ByteArray} {nL fr cm sm : Nat} {cs : Nat × Nat} {pc : Nat} {L : List (Nat × Vl)} {st : List Vl} {S : S2}
/-- a field of class ci, place k, as own's pool entry ix names it -/
def FL (own : String) (ix ci k : Nat) : Prop := ∃ (C : String) (T : u_T) (N : Nat), vwCl[ci]? = some (C, T, N) ∧ k < N ∧ (∀ w ∈ u_ws C T N, w ∈ lw_w) ∧ (Cond.fieldLink own ix (T k).1 (T k).2.1 (T k).2.2.1 ∈ lw_w ∨ ∃ host : String, Cond.fieldLinkNest own ix (T k).1 (T k).2.1 (T k).2.2.1 host ∈ lw_tbl)
/-- what a write of it needs besides -/
def FP (ci k : Nat) (ty : FieldType) : Prop := ∃ (C : String) (T : u_T) (N : Nat) (ty0 : Nat → FieldType), vwCl[ci]? = some (C, T, N) ∧ (∀ k, k < N → parseFieldDescriptor (T k).2.2.1 = some (ty0 k)) ∧ (∀ a, a < N → ∀ b, b < N → a ≠ b → (T a).2.1 ≠ (T b).2.1) ∧ (T k).2.2.2 = false ∧ parseFieldDescriptor (T k).2.2.1 = some ty
theorem obj_get {c ci : Nat} {fs : List (Nat × Option Nat)} (hs : S.1[c]? = some (0, ci, fs)) : (wsO g S)[c]? = some (g.1 + c, .inr (ci, fs.mapIdx (fun j f => fv g f (S.2 c j)))) := by
  rw [wsO_get hs]
  rfl
theorem g_get {c ix ci k : Nat} {fs : List (Nat × Option Nat)} {f : Nat × Option Nat} {v : Vl} (hC : Ctx K g own cc nL fr cm sm) (hd : decode cc pc = .ok (.getfield ix, 3)) (hF : FL own ix ci k) (hs : S.1[c]? = some (0, ci, fs)) (hf : fs[k]? = some f) (hv : fv g f (S.2 c k) = cv g v) (hok : okf f (S.2 c k) → okv v) (kk : G K g nL cs (pc + 3) L (v :: st) S) : G K g nL cs pc L (vr c :: st) S := by
  obtain ⟨p, l, e, R, s, m, args, below, meth, c0, Q⟩ := K
  obtain ⟨C, T, N, e1, e2, e3, e4⟩ := hF
  intro H locs ls h1 h2 h3 h4 h5
  have hk := kk H locs ls h1 h2 (okv_cons (hok (by have := h1.2 c _ hs; exact this k f hf)) (okv_tail h3)) h4 h5
  have hv' : (fs.mapIdx (fun j f => fv g f (S.2 c j)))[k]? = some (cv g v) := by rw [List.getElem?_mapIdx, hf, ← hv]; rfl
  rcases e4 with e4 | ⟨host, e4⟩
  · exact va_get hC.1 hC.2.1 hC.2.2.2.2.1 e3 hC.2.2.2.1 hC.2.2.2.2.2.1.1 h1.1 c (obj_get hs) e1 k e2 (hC.2.2.2.2.1 _ e4) (fun _ h => h) hv' hd hk
  · exact va_getN hC.1 hC.2.1 hC.2.2.2.2.1 e3 hC.2.2.2.1 hC.2.2.2.2.2.1.1 h1.1 c (obj_get hs) e1 k e2 (va_Nw.use rfl (hC.2.2.2.2.2.1.2.2.1 _ e4 rfl)) (fun _ h => h) hv' hd hk
theorem g_geti {c ix ci k : Nat} {fs : List (Nat × Option Nat)} (hC : Ctx K g own cc nL fr cm sm) (hd : decode cc pc = .ok (.getfield ix, 3)) (hF : FL own ix ci k) (hs : S.1[c]? = some (0, ci, fs)) (hf : fs[k]? = some (0, none)) (kk : G K g nL cs (pc + 3) L (vi (S.2 c k) :: st) S) : G K g nL cs pc L (vr c :: st) S := g_get (v := vi (S.2 c k)) hC hd hF hs hf rfl (fun h => h) kk
theorem g_getz {c ix ci k : Nat} {fs : List (Nat × Option Nat)} (hC : Ctx K g own cc nL fr cm sm) (hd : decode cc pc = .ok (.getfield ix, 3)) (hF : FL own ix ci k) (hs : S.1[c]? = some (0, ci, fs)) (hf : fs[k]? = some (3, none)) (kk : G K g nL cs (pc + 3) L (vi (S.2 c k) :: st) S) : G K g nL cs pc L (vr c :: st) S := g_get (v := vi (S.2 c k)) hC hd hF hs hf rfl (fun h => h) kk
theorem g_getl {c ix ci k : Nat} {fs : List (Nat × Option Nat)} (hC : Ctx K g own cc nL fr cm sm) (hd : decode cc pc = .ok (.getfield ix, 3)) (hF : FL own ix ci k) (hs : S.1[c]? = some (0, ci, fs)) (hf : fs[k]? = some (1, none)) (kk : G K g nL cs (pc + 3) L (vl (S.2 c k) :: st) S) : G K g nL cs pc L (vr c :: st) S := g_get (v := vl (S.2 c k)) hC hd hF hs hf rfl (fun h => h) kk
theorem g_getr {c ix ci k d : Nat} {fs : List (Nat × Option Nat)} (hC : Ctx K g own cc nL fr cm sm) (hd : decode cc pc = .ok (.getfield ix, 3)) (hF : FL own ix ci k) (hs : S.1[c]? = some (0, ci, fs)) (hf : fs[k]? = some (2, some d)) (kk : G K g nL cs (pc + 3) L (vr d :: st) S) : G K g nL cs pc L (vr c :: st) S := g_get (v := vr d) hC hd hF hs hf rfl (fun _ => trivial) kk
theorem Wh_up {k j : Nat} {x : Int} {h : Sh} {H H1 : Heap} (h1 : Wh g S H) (hk : S.1[k]? = some h) (hx : okc (vf_upd (S.2 k) j x) h) (hP : va_P g.2.1 vwCl ((wsO g S).set k (g.1 + k, ce g (vf_upd (S.2 k) j x) h)) H1) : Wh g (S.1, up S.2 k j x) H1 := by
  refine ⟨by rw [← wsO_up hk]; exact hP, fun q h' hq => ?_⟩
  by_cases e : q = k
  · subst e
    cases hk.symm.trans hq
    show okc (up S.2 q j x q) h
    rw [up_at]
    exact hx
  · show okc (up S.2 k j x q) h'
    rw [up_ne e]
    exact h1.2 q h' hq
theorem g_put {c ix ci k : Nat} {fs : List (Nat × Option Nat)} {f : Nat × Option Nat} {v : Vl} {x : Int} {ty : FieldType} (hC : Ctx K g own cc nL fr cm sm) (hd : decode cc pc = .ok (.putfield ix, 3)) (hF : FL own ix ci k) (hp : FP ci k ty) (hs : S.1[c]? = some (0, ci, fs)) (hf : fs[k]? = some f) (hv : cv g v = fv g f x) (hok : okv v → okf f x) (hn : narrow ty (cv g v) = cv g v) (hfit : fits ty (cv g v) = true) (kk : G K g nL cs (pc + 3) L st (S.1, up S.2 c k x)) : G K g nL cs pc L (v :: vr c :: st) S := by
  obtain ⟨p, l, e, R, s, m, args, below, meth, c0, Q⟩ := K
  obtain ⟨C, T, N, e1, e2, e3, e4⟩ := hF
  obtain ⟨C', T', N', ty0, p1, p2, p3, p4, p5⟩ := hp
  cases e1.symm.trans p1
  intro H locs ls h1 h2 h3 h4 h5
  have hl : k < (fs.mapIdx (fun j f => fv g f (S.2 c j))).length := by rw [List.length_mapIdx]; exact (List.getElem?_eq_some_iff.mp hf).1
  have hset : (fs.mapIdx (fun j f => fv g f (S.2 c j))).set k (cv g v) = fs.mapIdx (fun j f => fv g f (vf_upd (S.2 c) k x j)) := by
    apply List.ext_getElem?
    intro i
    rw [List.getElem?_set, List.getElem?_mapIdx, List.getElem?_mapIdx]
    by_cases hi : k = i
    · subst hi
      rw [hf, hv]
      simp [vf_upd, (List.getElem?_eq_some_iff.mp hf).1]
    · simp [hi, vf_upd, Ne.symm hi]
  have hokc : okc (vf_upd (S.2 c) k x) (0, ci, fs) := by
    intro j f' hj
    by_cases hi : j = k
    · subst hi
      cases hf.symm.trans hj
      simp only [vf_upd, if_pos]
      exact hok (okv_head h3)
    · have := h1.2 c _ hs
      simp only [vf_upd, if_neg hi]
      exact this j f' hj
  have go : ∀ (H1 : Heap) (locs1 : List Loc), va_P g.2.1 vwCl ((wsO g S).set c (g.1 + c, .inr (ci, (fs.mapIdx (fun j f => fv g f (S.2 c j))).set k (cv g v)))) H1 → va_S (AO g) s.heap H1 locs1 → W p l e R s m args below meth c0 H1 locs1 cs.1 cs.2 Q (F0 m (pc + 3) ls (st.map (cv g))) := by
    intro H1 locs1 hP hS
    rw [hset] at hP
    exact kk H1 locs1 ls (Wh_up h1 hs hokc hP) hS (okv_tail (okv_tail h3)) h4 h5
  rcases e4 with e4 | ⟨host, e4⟩
  · exact va_put hC.1 hC.2.1 hC.2.2.2.2.1 e3 ty0 p2 p3 hC.2.2.2.1 hC.2.2.2.2.2.1.1 h1.1 (wsO_D g S) h2 c (obj_get hs) e1 k e2 (hC.2.2.2.2.1 _ e4) (fun _ h => h) p4 p5 hn hfit hl hd (fun H1 locs1 a _ b => go H1 locs1 a b)
  · exact va_putN hC.1 hC.2.1 hC.2.2.2.2.1 e3 ty0 p2 p3 hC.2.2.2.1 hC.2.2.2.2.2.1.1 h1.1 (wsO_D g S) h2 c (obj_get hs) e1 k e2 (va_Nw.use rfl (hC.2.2.2.2.2.1.2.2.1 _ e4 rfl)) (fun _ h => h) p4 p5 hn hfit hl hd (fun H1 locs1 a _ b => go H1 locs1 a b)
theorem g_puti {c ix ci k : Nat} {fs : List (Nat × Option Nat)} {x : Int} (hC : Ctx K g own cc nL fr cm sm) (hd : decode cc pc = .ok (.putfield ix, 3)) (hF : FL own ix ci k) (hp : FP ci k .int) (hs : S.1[c]? = some (0, ci, fs)) (hf : fs[k]? = some (0, none)) (kk : G K g nL cs (pc + 3) L st (S.1, up S.2 c k x)) : G K g nL cs pc L (vi x :: vr c :: st) S := g_put (v := vi x) hC hd hF hp hs hf rfl (fun h => h) rfl rfl kk
theorem g_putl {c ix ci k : Nat} {fs : List (Nat × Option Nat)} {x : Int} (hC : Ctx K g own cc nL fr cm sm) (hd : decode cc pc = .ok (.putfield ix, 3)) (hF : FL own ix ci k) (hp : FP ci k .long) (hs : S.1[c]? = some (0, ci, fs)) (hf : fs[k]? = some (1, none)) (kk : G K g nL cs (pc + 3) L st (S.1, up S.2 c k x)) : G K g nL cs pc L (vl x :: vr c :: st) S := g_put (v := vl x) hC hd hF hp hs hf rfl (fun h => h) rfl rfl kk
theorem nar_z {x : Int} (h : x = 0 ∨ x = 1) : narrow .boolean (.int (Int32.ofInt x)) = .int (Int32.ofInt x) ∧ fits .boolean (.int (Int32.ofInt x)) = true := by
  rcases h with rfl | rfl <;> exact ⟨rfl, by decide +kernel⟩
theorem g_putz {c ix ci k : Nat} {fs : List (Nat × Option Nat)} {x : Int} (hC : Ctx K g own cc nL fr cm sm) (hd : decode cc pc = .ok (.putfield ix, 3)) (hF : FL own ix ci k) (hp : FP ci k .boolean) (hs : S.1[c]? = some (0, ci, fs)) (hf : fs[k]? = some (3, none)) (hx : x = 0 ∨ x = 1) (kk : G K g nL cs (pc + 3) L st (S.1, up S.2 c k x)) : G K g nL cs pc L (vi x :: vr c :: st) S := g_put (v := vi x) hC hd hF hp hs hf rfl (fun h => h) (nar_z hx).1 (nar_z hx).2 kk
theorem g_getd {c ix ci k : Nat} {fs : List (Nat × Option Nat)} (hC : Ctx K g own cc nL fr cm sm) (hd : decode cc pc = .ok (.getfield ix, 3)) (hF : FL own ix ci k) (hs : S.1[c]? = some (0, ci, fs)) (hf : fs[k]? = some (4, none)) (kk : G K g nL cs (pc + 3) L (vr (S.2 c k).toNat :: st) S) : G K g nL cs pc L (vr c :: st) S := g_get (v := vr (S.2 c k).toNat) hC hd hF hs hf rfl (fun _ => trivial) kk
theorem g_putd {c ix ci k d : Nat} {fs : List (Nat × Option Nat)} (hC : Ctx K g own cc nL fr cm sm) (hd : decode cc pc = .ok (.putfield ix, 3)) (hF : FL own ix ci k) (hp : FP ci k (.array .int)) (hs : S.1[c]? = some (0, ci, fs)) (hf : fs[k]? = some (4, none)) (kk : G K g nL cs (pc + 3) L st (S.1, up S.2 c k (Int.ofNat d))) : G K g nL cs pc L (vr d :: vr c :: st) S := g_put (v := vr d) hC hd hF hp hs hf rfl (fun _ => trivial) rfl rfl kk
/-- an index in its row -/
abbrev inb (i : Int) (n : Nat) : Prop := 0 ≤ i ∧ i < (n : Int)
theorem ints_get {c n : Nat} {z : List (Nat × Option Nat)} (hs : S.1[c]? = some (1, n, z)) : (wsO g S)[c]? = some (g.1 + c, .inl (g.2.2.1.1, n, .inl (fun j => Int32.ofInt (S.2 c j)))) := by
  rw [wsO_get hs]
  rfl
theorem longs_get {c n : Nat} {z : List (Nat × Option Nat)} (hs : S.1[c]? = some (2, n, z)) : (wsO g S)[c]? = some (g.1 + c, .inl (g.2.2.1.2.1, n, .inr (.inl (fun j => Int64.ofInt (S.2 c j))))) := by
  rw [wsO_get hs]
  rfl
theorem refs_get {c n : Nat} {z : List (Nat × Option Nat)} (hs : S.1[c]? = some (3, n, z)) : (wsO g S)[c]? = some (g.1 + c, .inl (g.2.2.1.2.2, n, .inr (.inr (.inr (.inr (fun j => ((z[j]?).bind (fun q => q.2)).map (fun c => g.1 + c))))))) := by
  rw [wsO_get hs]
  rfl
theorem g_iald {c n : Nat} {z : List (Nat × Option Nat)} {i : Int} (hC : Ctx K g own cc nL fr cm sm) (hd : decode cc pc = .ok (.iaload, 1)) (hs : S.1[c]? = some (1, n, z)) (hi : inb i n) (kk : G K g nL cs (pc + 1) L (vi (S.2 c i.toNat) :: st) S) : G K g nL cs pc L (vi i :: vr c :: st) S := by
  obtain ⟨p, l, e, R, s, m, args, below, meth, c0, Q⟩ := K
  intro H locs ls h1 h2 h3 h4 h5
  have hi' : ok32 i := okv_head h3
  refine va_iald hC.1 hC.2.1 hC.2.2.2.2.2.1.1 h1.1 c 0 (ints_get hs) rfl (in_of32 hi' hi.1 hi.2) hd ?_
  have hk := kk H locs ls h1 h2 (okv_cons (by have := h1.2 c _ hs; exact this i.toNat) (okv_tail (okv_tail h3))) h4 h5
  rw [clamp_of32 hi']
  exact hk
theorem g_lald {c n : Nat} {z : List (Nat × Option Nat)} {i : Int} (hC : Ctx K g own cc nL fr cm sm) (hd : decode cc pc = .ok (.laload, 1)) (hs : S.1[c]? = some (2, n, z)) (hi : inb i n) (kk : G K g nL cs (pc + 1) L (vl (S.2 c i.toNat) :: st) S) : G K g nL cs pc L (vi i :: vr c :: st) S := by
  obtain ⟨p, l, e, R, s, m, args, below, meth, c0, Q⟩ := K
  intro H locs ls h1 h2 h3 h4 h5
  have hi' : ok32 i := okv_head h3
  refine va_lald hC.1 hC.2.1 hC.2.2.2.2.2.1.1 h1.1 c 1 (longs_get hs) rfl (in_of32 hi' hi.1 hi.2) hd ?_
  have hk := kk H locs ls h1 h2 (okv_cons (by have := h1.2 c _ hs; exact this i.toNat) (okv_tail (okv_tail h3))) h4 h5
  rw [clamp_of32 hi']
  exact hk
theorem g_aald {c n d : Nat} {z : List (Nat × Option Nat)} {i : Int} (hC : Ctx K g own cc nL fr cm sm) (hd : decode cc pc = .ok (.aaload, 1)) (hs : S.1[c]? = some (3, n, z)) (hi : inb i n) (hz : z[i.toNat]? = some (2, some d)) (kk : G K g nL cs (pc + 1) L (vr d :: st) S) : G K g nL cs pc L (vi i :: vr c :: st) S := by
  obtain ⟨p, l, e, R, s, m, args, below, meth, c0, Q⟩ := K
  intro H locs ls h1 h2 h3 h4 h5
  have hi' : ok32 i := okv_head h3
  refine va_aldq hC.1 hC.2.1 hC.2.2.2.2.2.1.1 h1.1 c 2 (refs_get hs) rfl (in_of32 hi' hi.1 hi.2) hd ?_
  have hk := kk H locs ls h1 h2 (okv_cons (v := vr d) trivial (okv_tail (okv_tail h3))) h4 h5
  rw [clamp_of32 hi', hz]
  exact hk
theorem g_iast {c n : Nat} {z : List (Nat × Option Nat)} {i x : Int} (hC : Ctx K g own cc nL fr cm sm) (hd : decode cc pc = .ok (.iastore, 1)) (hs : S.1[c]? = some (1, n, z)) (hi : inb i n) (kk : G K g nL cs (pc + 1) L st (S.1, up S.2 c i.toNat x)) : G K g nL cs pc L (vi x :: vi i :: vr c :: st) S := by
  obtain ⟨p, l, e, R, s, m, args, below, meth, c0, Q⟩ := K
  intro H locs ls h1 h2 h3 h4 h5
  have hi' : ok32 i := okv_head (okv_tail h3)
  refine va_iast hC.1 hC.2.1 hC.2.2.2.2.2.1.1 h1.1 (wsO_D g S) h2 c 0 (ints_get hs) rfl (in_of32 hi' hi.1 hi.2) hd (fun H1 locs1 hP _ hS => ?_)
  refine kk H1 locs1 ls (Wh_up (j := i.toNat) (x := x) h1 hs ?_ ?_) hS (okv_tail (okv_tail (okv_tail h3))) h4 h5
  · intro j
    have := h1.2 c _ hs
    by_cases hj : j = i.toNat
    · simp only [vf_upd, if_pos hj]; exact okv_head h3
    · simp only [vf_upd, if_neg hj]; exact this j
  · rw [clamp_of32 hi'] at hP
    have e9 : (upd (fun j => Int32.ofInt (S.2 c j)) i.toNat (Int32.ofInt x)) = (fun j => Int32.ofInt (vf_upd (S.2 c) i.toNat x j)) := by
      funext j
      by_cases hj : j = i.toNat <;> simp [upd, vf_upd, hj]
    rw [e9] at hP
    exact hP
theorem g_last {c n : Nat} {z : List (Nat × Option Nat)} {i x : Int} (hC : Ctx K g own cc nL fr cm sm) (hd : decode cc pc = .ok (.lastore, 1)) (hs : S.1[c]? = some (2, n, z)) (hi : inb i n) (kk : G K g nL cs (pc + 1) L st (S.1, up S.2 c i.toNat x)) : G K g nL cs pc L (vl x :: vi i :: vr c :: st) S := by
  obtain ⟨p, l, e, R, s, m, args, below, meth, c0, Q⟩ := K
  intro H locs ls h1 h2 h3 h4 h5
  have hi' : ok32 i := okv_head (okv_tail h3)
  refine va_last hC.1 hC.2.1 hC.2.2.2.2.2.1.1 h1.1 (wsO_D g S) h2 c 1 (longs_get hs) rfl (in_of32 hi' hi.1 hi.2) hd (fun H1 locs1 hP _ hS => ?_)
  refine kk H1 locs1 ls (Wh_up (j := i.toNat) (x := x) h1 hs ?_ ?_) hS (okv_tail (okv_tail (okv_tail h3))) h4 h5
  · intro j
    have := h1.2 c _ hs
    by_cases hj : j = i.toNat
    · simp only [vf_upd, if_pos hj]; exact okv_head h3
    · simp only [vf_upd, if_neg hj]; exact this j
  · rw [clamp_of32 hi'] at hP
    have e9 : (vp_updL (fun j => Int64.ofInt (S.2 c j)) i.toNat (Int64.ofInt x)) = (fun j => Int64.ofInt (vf_upd (S.2 c) i.toNat x j)) := by
      funext j
      by_cases hj : j = i.toNat <;> simp [vp_updL, vf_upd, hj]
    rw [e9] at hP
    exact hP
theorem g_alen {c n : Nat} {z : List (Nat × Option Nat)} (hC : Ctx K g own cc nL fr cm sm) (hd : decode cc pc = .ok (.arraylength, 1)) (hs : S.1[c]? = some (1, n, z) ∨ S.1[c]? = some (2, n, z)) (hn : ok32 n) (kk : G K g nL cs (pc + 1) L (vi n :: st) S) : G K g nL cs pc L (vr c :: st) S := by
  obtain ⟨p, l, e, R, s, m, args, below, meth, c0, Q⟩ := K
  intro H locs ls h1 h2 h3 h4 h5
  have hk := kk H locs ls h1 h2 (okv_cons (v := vi n) hn (okv_tail h3)) h4 h5
  rcases hs with hs | hs
  · exact va_alen hC.1 hC.2.1 hC.2.2.2.2.2.1.1 h1.1 c 0 (ints_get hs) rfl (v := Int32.ofInt n) (by rw [Int32.ofInt_eq_ofNat]) hd hk
  · exact va_alen hC.1 hC.2.1 hC.2.2.2.2.2.1.1 h1.1 c 1 (longs_get hs) rfl (v := Int32.ofInt n) (by rw [Int32.ofInt_eq_ofNat]) hd hk
/-- a static array, read -/
theorem g_gets {ix k : Nat} {C n d : String} {ty : FieldType} {xs : List Int} (hC : Ctx K g own cc nL fr cm sm) (hd : decode cc pc = .ok (.getstatic ix, 3)) (hk : sts[k]? = some (C, n, d, ty, xs)) (hl : Cond.fieldLink own ix C n d ∈ lw_w) (kk : G K g nL cs (pc + 3) L (vo k :: st) S) : G K g nL cs pc L st S := by
  obtain ⟨p, l, e, R, s, m, args, below, meth, c0, Q⟩ := K
  intro H locs ls h1 h2 h3 h4 h5
  exact va_gets hC.1 hC.2.1 (hC.2.2.2.2.2.1.2.1.1 k C n d ty xs hk).1 h2 hC.2.2.2.1 (hC.2.2.2.2.1 _ hl) (fun _ h => h) hd (kk H locs ls h1 h2 (okv_cons (v := vo k) trivial h3) h4 h5)
theorem g_oald {k : Nat} {C n d : String} {xs : List Int} {i x : Int} (hC : Ctx K g own cc nL fr cm sm) (hd : decode cc pc = .ok (.iaload, 1)) (hk : sts[k]? = some (C, n, d, .int, xs)) (hi : inb i xs.length) (hx : ok32 (xs.getD i.toNat 0)) (kk : G K g nL cs (pc + 1) L (vi (xs.getD i.toNat 0) :: st) S) : G K g nL cs pc L (vi i :: vo k :: st) S := by
  obtain ⟨p, l, e, R, s, m, args, below, meth, c0, Q⟩ := K
  intro H locs ls h1 h2 h3 h4 h5
  have hi' : ok32 i := okv_head h3
  exact va_ti hC.1 hC.2.1 (hC.2.2.2.2.2.1.2.1.1 k C n d .int xs hk).2 h2 (in_of32 hi' hi.1 hi.2) (v := .int (Int32.ofInt (xs.getD i.toNat 0))) (by rw [clamp_of32 hi']; rfl) hd (kk H locs ls h1 h2 (okv_cons (v := vi _) hx (okv_tail (okv_tail h3))) h4 h5)
end HeapRows
