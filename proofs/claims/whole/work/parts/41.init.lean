/-! Rows of what makes cells: the constructors. -/
def Kname (K : KT) : String := match K with
  | (_, _, _, _, _, _, _, _, meth, _, _) => meth.name
theorem W_size {p : Program} {l : Launch} {e : Env} {R : Room} {s : State} {m : MethodId} {args : Array Value} {below : List Frame} {meth : Method} {c : Code} {H : Heap} {locs : List Loc} {cells slots : Nat} {Q : State → Prop} {f : JFrame} (k : H.size ≤ s.heap.size + cells → W p l e R s m args below meth c H locs cells slots Q f) : W p l e R s m args below meth c H locs cells slots Q f := fun T hT X => k (by
  have h := X.same.2.2.1
  rw [show (T.setVm s.vm).heap = T.heap from rfl, hT] at h
  exact h) T hT X
section InitRows
variable {K : KT} {g : GT} {own : String} {cc : ByteArray} {nL fr cm sm : Nat} {cs : Nat × Nat} {pc : Nat} {L : List (Nat × Vl)} {st : List Vl} {S : S2}
theorem wsO_push {h : Sh} : wsO g (S.1 ++ [h], S.2) = wsO g S ++ [(g.1 + S.1.length, ce g (S.2 S.1.length) h)] := by
  simp [wsO, List.mapIdx_append]
theorem wsO_len : (wsO g S).length = S.1.length := by simp [wsO]
theorem addr_eq {D : va_G} {q : Nat} {e : va_E} {H1 : Heap} (hP : va_P D vwCl (wsO g S ++ [(q, e)]) H1) (hD : va_D (AO g) (wsO g S ++ [(q, e)])) (hz : H1.size ≤ g.1 + S.1.length + 1) : q = g.1 + S.1.length := by
  have hn : (wsO g S ++ [(q, e)])[S.1.length]? = some (q, e) := by rw [List.getElem?_append_right (by rw [wsO_len]; exact Nat.le_refl _), wsO_len, Nat.sub_self]; rfl
  have h1 : g.1 ≤ q := hD.2 _ _ hn
  have h2 : q < H1.size := (hP _ _ hn).lt
  rcases Nat.lt_or_ge q (g.1 + S.1.length) with h | h
  · have hk : q - g.1 < S.1.length := by omega
    have hw : (wsO g S ++ [(q, e)])[q - g.1]? = some (g.1 + (q - g.1), ce g (S.2 (q - g.1)) S.1[q - g.1]) := by
      rw [List.getElem?_append_left (by rw [wsO_len]; exact hk)]
      exact wsO_get (List.getElem?_eq_getElem hk)
    have := hD.1 _ _ _ _ hw hn (by show g.1 + (q - g.1) = q; omega)
    omega
  · omega
theorem Wh_push {h : Sh} {H H1 : Heap} (h1 : Wh g S H) (hP : va_P g.2.1 vwCl (wsO g S ++ [(g.1 + S.1.length, ce g (S.2 S.1.length) h)]) H1) (ho : okc (S.2 S.1.length) h) : Wh g (S.1 ++ [h], S.2) H1 := by
  refine ⟨by rw [wsO_push]; exact hP, fun k h' hk => ?_⟩
  by_cases hl : k < S.1.length
  · rw [List.getElem?_append_left hl] at hk
    exact h1.2 k h' hk
  · have hl' : k = S.1.length := by
      have := (List.getElem?_eq_some_iff.mp hk).1
      simp at this
      omega
    subst hl'
    rw [List.getElem?_append_right (Nat.le_refl _), Nat.sub_self] at hk
    cases hk
    exact ho
def dfl (t : Nat) : Value := if t = 1 then .long 0 else if t = 2 then .null else .int 0
theorem dfl_fv (g : GT) (t : Nat) (ht : t ≤ 3) : fv g (t, none) 0 = dfl t := by
  match t, ht with
  | 0, _ => rfl
  | 1, _ => rfl
  | 2, _ => rfl
  | 3, _ => rfl
def blk (ts : List Nat) : List (Nat × Option Nat) := ts.map (fun t => (t, none))
theorem blk_fv (g : GT) (ts : List Nat) (ht : ts.all (fun t => decide (t ≤ 3)) = true) : (blk ts).mapIdx (fun _ f => fv g f 0) = ts.map dfl := by
  apply List.ext_getElem?
  intro i
  simp only [blk, List.getElem?_mapIdx, List.getElem?_map]
  cases hi : ts[i]? with
  | none => rfl
  | some t =>
    have := List.all_eq_true.mp ht t (List.mem_of_getElem? hi)
    simp [dfl_fv g t (by simpa using this)]
theorem g_new {ix ci N : Nat} {C : String} {T : u_T} {ty : Nat → FieldType} (ts : List Nat) (hC : Ctx K g own cc nL fr cm sm) (hd : decode cc pc = .ok (.new ix, 3)) (hcl : Cond.classLink own ix C ∈ lw_w) (hinst : Cond.instantiable C N ∈ lw_w) (hini : Cond.initialized C ∈ lw_w) (hvc : vwCl[ci]? = some (C, T, N)) (hin : ∀ w ∈ u_ws C T N, w ∈ lw_w) (hty : ∀ k, k < N → parseFieldDescriptor (T k).2.2.1 = some (ty k)) (hts : ts.all (fun t => decide (t ≤ 3)) = true) (hfs : ∀ j, j < N → defaultValue (ty j) = vp_V (ts.map dfl) j) (hz : ∀ j, S.2 S.1.length j = 0) (hsz : (Kheap K).size + cs.1 = g.1 + S.1.length) (hcs : cs.1 + 1 ≤ cm ∧ cs.2 + N ≤ sm) (kk : G K g nL (cs.1 + 1, cs.2 + N) (pc + 3) L (vr S.1.length :: st) (S.1 ++ [(0, ci, blk ts)], S.2)) : G K g nL cs pc L st S := by
  obtain ⟨p, l, e, R, s, m, args, below, meth, c0, Q⟩ := K
  intro H locs ls h1 h2 h3 h4 h5
  obtain ⟨a1, a2, a3, a4, a5, a6, a7, a8, a9, a10, a11⟩ := hC
  refine va_new (ci := ci) (fs := ts.map dfl) a1 a2 a5 hin ty hty a4 (a5 _ hcl) (a5 _ hinst) (a5 _ hini) a6.1 h1.1 (wsO_D g S) h2 (fun q h => Nat.le_trans a7 h) hvc hfs (by omega) (by omega) hd (fun q H1 hP hD hS => ?_)
  refine W_size (fun hsz1 => ?_)
  have hq : q = g.1 + S.1.length := addr_eq hP hD (by have := hsz; simp only [Kheap] at this; omega)
  subst hq
  have hz' : S.2 S.1.length = fun _ => 0 := funext hz
  have he : ce g (S.2 S.1.length) (0, ci, blk ts) = .inr (ci, ts.map dfl) := by
    rw [hz', ← blk_fv g ts hts]
    rfl
  refine kk H1 locs ls (Wh_push h1 (by rw [he]; exact hP) ?_) hS (okv_cons (v := vr S.1.length) trivial h3) h4 h5
  rw [hz']
  intro j f hf
  have : f.2 = none ∧ f.1 ≤ 3 := by
    simp only [blk, List.getElem?_map, Option.map_eq_some_iff] at hf
    obtain ⟨t, ht, rfl⟩ := hf
    have := List.all_eq_true.mp hts t (List.mem_of_getElem? ht)
    exact ⟨rfl, by simpa using this⟩
  unfold okf
  split
  · exact ok64_0
  · split
    · trivial
    · split
      · trivial
      · exact ok32_0
theorem cA_int {D : va_G} {s : State} {cA : ClassId} {t : List (ClassId × FieldType)} (h : va_K D vwCl (tyO g ++ (cA, .int) :: t) s) : cA = g.2.2.1.1 := by
  have h1 := (h.2 0 (g.2.2.1.1, .int) rfl).2
  have h2 := (h.2 3 (cA, .int) rfl).2
  exact (Option.some.inj (h1.symm.trans h2)).symm
theorem cA_long {D : va_G} {s : State} {cA : ClassId} {t : List (ClassId × FieldType)} (h : va_K D vwCl (tyO g ++ (cA, .long) :: t) s) : cA = g.2.2.1.2.1 := by
  have h1 := (h.2 1 (g.2.2.1.2.1, .long) rfl).2
  have h2 := (h.2 3 (cA, .long) rfl).2
  exact (Option.some.inj (h1.symm.trans h2)).symm
theorem cA_ref {D : va_G} {s : State} {cA : ClassId} {t : List (ClassId × FieldType)} (h : va_K D vwCl (tyO g ++ (cA, .object RX6) :: t) s) : cA = g.2.2.1.2.2 := by
  obtain ⟨_, _, _, _, _, h1⟩ := (h.2 2 (g.2.2.1.2.2, .object RX6) rfl).2
  obtain ⟨_, _, _, _, _, h2⟩ := (h.2 3 (cA, .object RX6) rfl).2
  exact (Option.some.inj (h1.symm.trans h2)).symm
theorem g_newi {n : Int} (hC : Ctx K g own cc nL fr cm sm) (hd : decode cc pc = .ok (.newarray .int, 2)) (ha : Cond.arrayClass .int ∈ lw_w) (hn : 0 ≤ n ∧ n ≤ 1000) (hz : ∀ j, S.2 S.1.length j = 0) (hsz : (Kheap K).size + cs.1 = g.1 + S.1.length) (hcs : cs.1 + 1 ≤ cm ∧ cs.2 + n.toNat ≤ sm) (kk : G K g nL (cs.1 + 1, cs.2 + n.toNat) (pc + 2) L (vr S.1.length :: st) (S.1 ++ [(1, n.toNat, [])], S.2)) : G K g nL cs pc L (vi n :: st) S := by
  obtain ⟨p, l, e, R, s, m, args, below, meth, c0, Q⟩ := K
  intro H locs ls h1 h2 h3 h4 h5
  obtain ⟨a1, a2, a3, a4, a5, a6, a7, a8, a9, a10, a11⟩ := hC
  have hn' : ok32 n := okv_head h3
  have hz' : S.2 S.1.length = fun _ => 0 := funext hz
  refine va_newa (atype := .int) (ty := .int) (N' := n.toNat) (a0 := (n.toNat, .inl (fun _ => Int32.ofInt 0))) a1 a2 (a5 _ ha) rfl a6.1 h1.1 (wsO_D g S) h2 (fun q h => Nat.le_trans a7 h) (fun _ => rfl) (fun z => by have := (lt_of32 hn' ok32_0).mp z; omega) (clamp_of32 hn') (by show n.toNat * 4 ≤ _; omega) (by omega) (by omega) hd (fun q cA H1 hK hP hD hS => ?_)
  have hc := cA_int hK
  subst hc
  refine W_size (fun hsz1 => ?_)
  have hq : q = g.1 + S.1.length := addr_eq hP hD (by have := hsz; simp only [Kheap] at this; omega)
  subst hq
  refine kk H1 locs ls (Wh_push h1 (by rw [hz']; exact hP) (by rw [hz']; exact fun _ => ok32_0)) hS (okv_cons (v := vr S.1.length) trivial (okv_tail h3)) h4 h5
theorem g_newl {n : Int} (hC : Ctx K g own cc nL fr cm sm) (hd : decode cc pc = .ok (.newarray .long, 2)) (ha : Cond.arrayClass .long ∈ lw_w) (hn : 0 ≤ n ∧ n ≤ 1000) (hz : ∀ j, S.2 S.1.length j = 0) (hsz : (Kheap K).size + cs.1 = g.1 + S.1.length) (hcs : cs.1 + 1 ≤ cm ∧ cs.2 + n.toNat ≤ sm) (kk : G K g nL (cs.1 + 1, cs.2 + n.toNat) (pc + 2) L (vr S.1.length :: st) (S.1 ++ [(2, n.toNat, [])], S.2)) : G K g nL cs pc L (vi n :: st) S := by
  obtain ⟨p, l, e, R, s, m, args, below, meth, c0, Q⟩ := K
  intro H locs ls h1 h2 h3 h4 h5
  obtain ⟨a1, a2, a3, a4, a5, a6, a7, a8, a9, a10, a11⟩ := hC
  have hn' : ok32 n := okv_head h3
  have hz' : S.2 S.1.length = fun _ => 0 := funext hz
  refine va_newa (atype := .long) (ty := .long) (N' := n.toNat) (a0 := (n.toNat, .inr (.inl (fun _ => Int64.ofInt 0)))) a1 a2 (a5 _ ha) rfl a6.1 h1.1 (wsO_D g S) h2 (fun q h => Nat.le_trans a7 h) (fun _ => rfl) (fun z => by have := (lt_of32 hn' ok32_0).mp z; omega) (clamp_of32 hn') (by show n.toNat * 8 ≤ _; omega) (by omega) (by omega) hd (fun q cA H1 hK hP hD hS => ?_)
  have hc := cA_long hK
  subst hc
  refine W_size (fun hsz1 => ?_)
  have hq : q = g.1 + S.1.length := addr_eq hP hD (by have := hsz; simp only [Kheap] at this; omega)
  subst hq
  refine kk H1 locs ls (Wh_push h1 (by rw [hz']; exact hP) (by rw [hz']; exact fun _ => ok64_0)) hS (okv_cons (v := vr S.1.length) trivial (okv_tail h3)) h4 h5
end InitRows
