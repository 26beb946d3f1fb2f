/-! Contracts over the abstract store, calls, returns. -/
def Pc0 (g : GT) (vs : List Vl) (S : S2) : Array Value → State → Prop := fun v U => v = (vs.map (cv g)).toArray ∧ (∀ v ∈ vs, okv v) ∧ Wst g U U.heap ∧ Wh g S U.heap ∧ g.1 ≤ U.heap.size
def Qc0 (g : GT) (r : Option Vl) (S' : S2) : Array Value → State → Outcome → State → Prop := fun _ st oc t => oc = .returned (r.map (cv g)) ∧ (∀ v, r = some v → okv v) ∧ Wh g S' t.heap ∧ va_F (AO g) st t
def rmk (fr mc ms : Nat) : Room := { frames := fr, cells := mc, slots := ms, locals := 40 * fr }
/-- the contract of a method: fr frames of room, mc cells of ms slots made, from the arguments vs and the store S to the answer r and the store S' -/
def Cn (l : Launch) (g : GT) (y : MethodName) (b : ByteArray) (nL : Nat) (ret : Option FieldType) (fr mc ms : Nat) (vs : List Vl) (S : S2) (r : Option Vl) (S' : S2) : Prop := Met l y (Cond.code y b nL ret :: lw_w) (rmk fr mc ms) (Pc0 g vs S) (Qc0 g r S') mc ms (AO g)
def Kl (K : KT) : Launch := match K with
  | (_, l, _, _, _, _, _, _, _, _, _) => l
/-- what the tables say of a method: its code, its class is initialised, n arguments -/
def MI (y : MethodName) (b : ByteArray) (nL : Nat) (ret : Option FieldType) (n : Nat) : Prop := Cond.code y b nL ret ∈ lw_w ∧ Cond.initialized y.cls ∈ lw_w ∧ y.cls ≠ "java/lang/invoke/MethodHandle" ∧ y.cls ≠ "java/lang/invoke/VarHandle" ∧ (parseMethodDescriptor y.desc).map (fun d => d.parameters.length) = some n
def ML (own : String) (ix : Nat) (y : MethodName) : Prop := Cond.methodLink own ix y ∈ lw_w ∨ ∃ host : String, Cond.methodLinkNest own ix y host ∈ lw_tbl
def MV (y : MethodName) : Prop := Cond.instanceMethod y ∈ lw_w ∧ Cond.selects y.cls y y ∈ lw_w
def wsum (st : List Vl) : Nat := (st.map (fun v => if isL v then 2 else 1)).sum
theorem wsum_cv (g : GT) (st : List Vl) : ((st.map (cv g)).map fun v => v.category).sum = wsum st := by
  unfold wsum
  rw [List.map_map]
  congr 1
  apply List.map_congr_left
  intro v _
  rcases v with x | x | x | x <;> rfl
theorem goodCode {y : MethodName} {b : ByteArray} {nL n : Nat} {ret : Option FieldType} (h : MI y b nL ret n) : GoodIn lw_w (Cond.code y b nL ret :: lw_w) := fun w hw => (List.mem_cons.mp hw).elim (fun e => ⟨e ▸ h.1, e ▸ lw_w_good _ h.1⟩) (fun z => ⟨z, lw_w_good _ z⟩)
theorem Pc0_blind (g : GT) (vs : List Vl) (S : S2) : FrameBlind (Pc0 g vs S) := fun _ U _ _ q => ⟨q.1, q.2.1, Wst.same (s := U) rfl q.2.2.1, q.2.2.2.1, q.2.2.2.2⟩
section Calls
variable {K : KT} {g : GT} {own : String} {cc : ByteArray} {nL fr cm sm : Nat} {cs : Nat × Nat} {pc : Nat} {L : List (Nat × Vl)} {st : List Vl} {S : S2}
theorem run_goes {p : Program} {l : Launch} {e : Env} {R : Room} {s : State} {m : MethodId} {args : Array Value} {below : List Frame} {meth : Method} {c : Code} {H : Heap} {locs : List Loc} {cells slots mc ms : Nat} {Q : State → Prop} {ls : Array Slot} {st0 rest : List Value} {r : Option Vl} {S' : S2} {a : Array Value}
    (hr : va_Run p l e R s m args below meth c H locs cells slots mc ms (F0 m pc ls st0) rest (Qc0 g r S' a) (AO g)) (hS : va_S (AO g) s.heap H locs)
    (kk : ∀ (H1 : Heap) (locs1 : List Loc), (∀ v, r = some v → okv v) → Wh g S' H1 → va_S (AO g) s.heap H1 locs1 → W p l e R s m args below meth c H1 locs1 (cells + mc) (slots + ms) Q (F0 m (pc + 3) ls ((r.map (cv g)).toList ++ rest))) : W p l e R s m args below meth c H locs cells slots Q (F0 m pc ls st0) := by
  intro T hT X
  obtain ⟨v, st₀, t, T', L, h0, X', hL, e1, e2, ⟨hv, hok, hw, hz, hk⟩, st⟩ := hr T hT X
  cases hv
  rw [h0] at hz hk
  obtain ⟨t2, a1, b1⟩ := kk T'.heap (locs ++ L) hok (by rw [e1]; exact hw)
    ⟨Nat.le_trans hS.1 (by rw [e1]; exact hz), fun q h1 h2 => by rw [e1, hk q (Nat.lt_of_lt_of_le h1 hS.1) h2]; exact hS.2.1 q h1 h2, fun q hq => by
      rcases List.mem_append.mp hq with h | h
      · exact hS.2.2 q h
      · exact hL q h⟩ T' rfl X'
  exact ⟨t2, st t2 a1, b1⟩
theorem pre_in {p : Program} {l : Launch} {e : Env} {R : Room} {s : State} {m : MethodId} {args : Array Value} {below : List Frame} {meth : Method} {c : Code} {Q : State → Prop} {H : Heap} {locs : List Loc} {vs : List Vl} (hC : Ctx (p, l, e, R, s, m, args, below, meth, c, Q) g own cc nL fr cm sm) (hS : va_S (AO g) s.heap H locs) (h1 : Wh g S H) (hv : ∀ v ∈ vs, okv v) : ∀ U : State, U.heap = H → s.WarmedH U.vm → Pc0 g vs S (vs.map (cv g)).toArray U := by
  intro U hU hW
  refine ⟨rfl, hv, ?_, by rw [hU]; exact h1, by rw [hU]; exact Nat.le_trans hC.2.2.2.2.2.2.1 hS.1⟩
  rw [hU]
  exact Wst.warm hW hC.2.2.2.2.2.1 hS.2.1
theorem room_in {p : Program} {l : Launch} {e : Env} {R : Room} {s : State} {m : MethodId} {args : Array Value} {below : List Frame} {meth : Method} {c : Code} {Q : State → Prop} {fr' mc ms nL' : Nat} (hC : Ctx (p, l, e, R, s, m, args, below, meth, c, Q) g own cc nL fr cm sm) (hfr : fr' + 1 ≤ fr) (hnl : nL' ≤ 21) : (rmk fr' mc ms).frames + 1 ≤ R.frames ∧ 8 + (nL' + 11) + (rmk fr' mc ms).locals ≤ R.locals := by
  obtain ⟨-, -, -, -, -, -, -, h1, h2, -, -⟩ := hC
  simp only [rmk]
  omega
theorem g_callV {y : MethodName} {b : ByteArray} {nL' : Nat} {ret : Option FieldType} {fr' mc ms n ix c ci : Nat} {fs : List (Nat × Option Nat)} {T : u_T} {N : Nat} {As stk : List Vl} {r : Option Vl} {S' : S2}
    (hC : Ctx K g own cc nL fr cm sm) (hd : decode cc pc = .ok (.invokevirtual ix, 3)) (hm : MI y b nL' ret n) (hv : MV y) (hl : ML own ix y) (hs : S.1[c]? = some (0, ci, fs)) (hcl : vwCl[ci]? = some (y.cls, T, N)) (hstk : stk = As.reverse ++ vr c :: st) (hn : As.length = n) (hw : wsum st ≤ 8) (hfr : fr' + 1 ≤ fr) (hnl : nL' ≤ 21) (hcs : cs.1 + mc ≤ cm ∧ cs.2 + ms ≤ sm)
    (hM : Cn (Kl K) g y b nL' ret fr' mc ms (vr c :: As) S r S') (kk : G K g nL (cs.1 + mc, cs.2 + ms) (pc + 3) L (r.toList ++ st) S') : G K g nL cs pc L stk S := by
  obtain ⟨p, l, e, R, s, m, args, below, meth, c0, Q⟩ := K
  intro H locs ls h1 h2 h3 h4 h5
  subst hstk
  have hcr := hC.2.2.2.2.2.2.2.2.2
  have hvs : ∀ v ∈ vr c :: As, okv v := fun v hv => (List.mem_cons.mp hv).elim (fun e => e ▸ trivial) (fun z => h3 v (List.mem_append_left _ (List.mem_reverse.mpr z)))
  have hst : ∀ v ∈ st, okv v := fun v hv => h3 v (List.mem_append_right _ (List.mem_cons_of_mem _ hv))
  have hrun : va_Run p l e R s m args below meth c0 H locs cs.1 cs.2 mc ms (F0 m pc ls ((As.reverse ++ vr c :: st).map (cv g))) (st.map (cv g)) (Qc0 g r S' (((vr c :: As).map (cv g)).toArray)) (AO g) := by
    have hp : PreV s H y.cls (g.1 + c) (Pc0 g (vr c :: As) S) (As.map (cv g)) := ⟨Pc0_blind g _ _, va_recv hC.2.2.2.2.2.1.1 h1.1 hcl (obj_get hs), pre_in hC h2 h1 hvs⟩
    have hstack : (F0 m pc ls ((As.reverse ++ vr c :: st).map (cv g))).stack = (As.map (cv g)).reverse ++ .ref (g.1 + c) :: st.map (cv g) := by
      show (As.reverse ++ vr c :: st).map (cv g) = _
      rw [List.map_append, List.map_reverse]
      rfl
    have hW : 2 * (F0 m pc ls ((As.reverse ++ vr c :: st).map (cv g))).monitorRoom + ((st.map (cv g)).map fun v => v.category).sum ≤ 8 := lv_room (by rw [wsum_cv]; exact hw)
    rcases hl with hl | ⟨host, hl⟩
    · exact va_runV ⟨hC.1, hC.2.1, hC.2.2.1, hC.2.2.2.1, hC.2.2.2.2.1⟩ hM ⟨callB_of n hC.2.2.2.2.1 (goodCode hm) rfl rfl rfl (hC.2.2.2.2.1 _ hm.2.1) (hC.2.2.2.2.1 _ hl) ⟨hm.2.2.1, hm.2.2.2.1, hm.2.2.2.2⟩ (room_in hC hfr hnl), hC.2.2.2.2.1 _ hv.1, hC.2.2.2.2.1 _ hv.2⟩ hp rfl (by rw [List.length_map]; exact hn) h5.1 hstack hW hd (by omega)
    · exact va_runVN ⟨hC.1, hC.2.1, hC.2.2.1, hC.2.2.2.1, hC.2.2.2.2.1⟩ hM ⟨va_cnB n hC.2.2.2.2.1 (goodCode hm) rfl rfl rfl (hC.2.2.2.2.2.1.2.2.1 _ hl rfl) (hC.2.2.2.2.1 _ hm.2.1) ⟨hm.2.2.1, hm.2.2.2.1, hm.2.2.2.2⟩ (room_in hC hfr hnl), hC.2.2.2.2.1 _ hv.1, hC.2.2.2.2.1 _ hv.2⟩ hp rfl (by rw [List.length_map]; exact hn) h5.1 hstack hW hd (by omega)
  refine run_goes hrun h2 (fun H1 locs1 hok hw1 hS1 => ?_)
  have hk := kk H1 locs1 ls hw1 hS1 (fun v hv => (List.mem_append.mp hv).elim (fun z => hok v (Option.mem_toList.mp z)) (hst v)) h4 h5
  have e9 : (r.toList ++ st).map (cv g) = (r.map (cv g)).toList ++ st.map (cv g) := by
    rw [List.map_append]
    cases r <;> rfl
  rw [e9] at hk
  exact hk
theorem g_callS {y : MethodName} {b : ByteArray} {nL' : Nat} {ret : Option FieldType} {fr' mc ms n ix : Nat} {As stk : List Vl} {r : Option Vl} {S' : S2}
    (hC : Ctx K g own cc nL fr cm sm) (hd : decode cc pc = .ok (.invokestatic ix, 3)) (hm : MI y b nL' ret n) (hv : Cond.static y ∈ lw_w) (hl : ML own ix y) (hstk : stk = As.reverse ++ st) (hn : As.length = n) (hw : wsum st ≤ 8) (hfr : fr' + 1 ≤ fr) (hnl : nL' ≤ 21) (hcs : cs.1 + mc ≤ cm ∧ cs.2 + ms ≤ sm)
    (hM : Cn (Kl K) g y b nL' ret fr' mc ms As S r S') (kk : G K g nL (cs.1 + mc, cs.2 + ms) (pc + 3) L (r.toList ++ st) S') : G K g nL cs pc L stk S := by
  obtain ⟨p, l, e, R, s, m, args, below, meth, c0, Q⟩ := K
  intro H locs ls h1 h2 h3 h4 h5
  subst hstk
  have hcr := hC.2.2.2.2.2.2.2.2.2
  have hvs : ∀ v ∈ As, okv v := fun v hv => h3 v (List.mem_append_left _ (List.mem_reverse.mpr hv))
  have hst : ∀ v ∈ st, okv v := fun v hv => h3 v (List.mem_append_right _ hv)
  have hrun : va_Run p l e R s m args below meth c0 H locs cs.1 cs.2 mc ms (F0 m pc ls ((As.reverse ++ st).map (cv g))) (st.map (cv g)) (Qc0 g r S' ((As.map (cv g)).toArray)) (AO g) := by
    have hp : PreS s H (Pc0 g As S) (As.map (cv g)) := ⟨Pc0_blind g _ _, pre_in hC h2 h1 hvs⟩
    have hstack : (F0 m pc ls ((As.reverse ++ st).map (cv g))).stack = (As.map (cv g)).reverse ++ st.map (cv g) := by
      show (As.reverse ++ st).map (cv g) = _
      rw [List.map_append, List.map_reverse]
    have hW : 2 * (F0 m pc ls ((As.reverse ++ st).map (cv g))).monitorRoom + ((st.map (cv g)).map fun v => v.category).sum ≤ 8 := lv_room (by rw [wsum_cv]; exact hw)
    rcases hl with hl | ⟨host, hl⟩
    · exact va_runS ⟨hC.1, hC.2.1, hC.2.2.1, hC.2.2.2.1, hC.2.2.2.2.1⟩ hM ⟨callB_of n hC.2.2.2.2.1 (goodCode hm) rfl rfl rfl (hC.2.2.2.2.1 _ hm.2.1) (hC.2.2.2.2.1 _ hl) ⟨hm.2.2.1, hm.2.2.2.1, hm.2.2.2.2⟩ (room_in hC hfr hnl), hC.2.2.2.2.1 _ hv⟩ hp rfl (by rw [List.length_map]; exact hn) h5.1 hstack hW hd (by omega)
    · exact va_runSN ⟨hC.1, hC.2.1, hC.2.2.1, hC.2.2.2.1, hC.2.2.2.2.1⟩ hM ⟨va_cnB n hC.2.2.2.2.1 (goodCode hm) rfl rfl rfl (hC.2.2.2.2.2.1.2.2.1 _ hl rfl) (hC.2.2.2.2.1 _ hm.2.1) ⟨hm.2.2.1, hm.2.2.2.1, hm.2.2.2.2⟩ (room_in hC hfr hnl), hC.2.2.2.2.1 _ hv, trivial⟩ hp rfl (by rw [List.length_map]; exact hn) h5.1 hstack hW hd (by omega)
  refine run_goes hrun h2 (fun H1 locs1 hok hw1 hS1 => ?_)
  have hk := kk H1 locs1 ls hw1 hS1 (fun v hv => (List.mem_append.mp hv).elim (fun z => hok v (Option.mem_toList.mp z)) (hst v)) h4 h5
  have e9 : (r.toList ++ st).map (cv g) = (r.map (cv g)).toList ++ st.map (cv g) := by
    rw [List.map_append]
    cases r <;> rfl
  rw [e9] at hk
  exact hk
end Calls
/-- what a return hands on: the goal at a return instruction -/
def RetI (K : KT) (g : GT) (cc : ByteArray) (nL : Nat) (cs : Nat × Nat) (r : Int) (S : S2) : Prop := ∀ (pc : Nat) (L : List (Nat × Vl)), decode cc pc = .ok (.ireturn, 1) → G K g nL cs pc L [vi r] S
def RetZ (K : KT) (g : GT) (cc : ByteArray) (nL : Nat) (cs : Nat × Nat) (r : Int) (S : S2) : Prop := ∀ (pc : Nat) (L : List (Nat × Vl)), r = 0 ∨ r = 1 → decode cc pc = .ok (.ireturn, 1) → G K g nL cs pc L [vi r] S
def RetL (K : KT) (g : GT) (cc : ByteArray) (nL : Nat) (cs : Nat × Nat) (r : Int) (S : S2) : Prop := ∀ (pc : Nat) (L : List (Nat × Vl)), decode cc pc = .ok (.lreturn, 1) → G K g nL cs pc L [vl r] S
def RetV (K : KT) (g : GT) (cc : ByteArray) (nL : Nat) (cs : Nat × Nat) (S : S2) : Prop := ∀ (pc : Nat) (L : List (Nat × Vl)), decode cc pc = .ok (.return_, 1) → G K g nL cs pc L [] S
/-- the locals at the entry -/
def argL : Nat → List Vl → List (Nat × Vl)
  | _, [] => []
  | i, v :: vs => (i, v) :: argL (if isL v then i + 2 else i + 1) vs
theorem argL_map (g : GT) : ∀ (vs : List Vl) (i : Nat), (argL i vs).map (fun q => (q.1, cv g q.2)) = lv_args i (vs.map (cv g)) := by
  intro vs
  induction vs with
  | nil => intro i; rfl
  | cons v vs ih =>
    intro i
    simp only [argL, List.map_cons, lv_args, ih]
    rcases v with x | x | x | x <;> rfl
theorem sl_len (g : GT) : ∀ vs : List Vl, (lg_sl (vs.map (cv g))).length = wsum vs := by
  intro vs
  induction vs with
  | nil => rfl
  | cons v vs ih =>
    have e : lg_sl ((v :: vs).map (cv g)) = (if (cv g v).category = 2 then [Slot.val (cv g v), .second] else [.val (cv g v)]) ++ lg_sl (vs.map (cv g)) := rfl
    rw [e, List.length_append, ih]
    unfold wsum
    rw [List.map_cons, List.sum_cons]
    congr 1
    rcases v with x | x | x | x <;> rfl
theorem argL_ok (vs : List Vl) (h : ∀ v ∈ vs, okv v) : ∀ i, ∀ q ∈ argL i vs, okv q.2 := by
  induction vs with
  | nil => intro i q hq; cases hq
  | cons v vs ih =>
    intro i q hq
    rcases List.mem_cons.mp hq with e | e
    · subst e; exact h v List.mem_cons_self
    · exact ih (fun v hv => h v (List.mem_cons_of_mem _ hv)) _ q e
/-- a contract out of a walk of the body -/
theorem Cn.of {l : Launch} {g : GT} {y : MethodName} {b : ByteArray} {nL : Nat} {ret : Option FieldType} {fr mc ms : Nat} {vs : List Vl} {S : S2} {r : Option Vl} {S' : S2} (hy : plainName y.cls = true) (hlen : wsum vs ≤ nL)
    (body : ∀ K : KT, Kl K = l → Ctx K g y.cls b nL fr mc ms → (∀ (v : Int) (pc : Nat) (L : List (Nat × Vl)), r = some (vi v) → ret = some .int → decode b pc = .ok (.ireturn, 1) → G K g nL (mc, ms) pc L [vi v] S') → (∀ (v : Int) (pc : Nat) (L : List (Nat × Vl)), r = some (vi v) → ret = some .boolean → v = 0 ∨ v = 1 → decode b pc = .ok (.ireturn, 1) → G K g nL (mc, ms) pc L [vi v] S') → (∀ (v : Int) (pc : Nat) (L : List (Nat × Vl)), r = some (vl v) → ret = some .long → decode b pc = .ok (.lreturn, 1) → G K g nL (mc, ms) pc L [vl v] S') → (∀ (pc : Nat) (L : List (Nat × Vl)), r = none → ret = none → decode b pc = .ok (.return_, 1) → G K g nL (mc, ms) pc L [] S') → G K g nL (0, 0) 0 (argL 0 vs) [] S) : Cn l g y b nL ret fr mc ms vs S r S' := by
  refine Met.ofW (cc := b) (maxL := nL) (ret := ret) hy rfl ?_
  intro p e s m args below meth c s₁ B hml hv
  obtain ⟨rfl, hok, hst, hwh, hbs⟩ := hv
  have hx := B.exec
  have hb := B.bytes
  have hr := B.returns
  have hts := atoms_spec (ws := Cond.code y b nL ret :: lw_w) B.pre
  have hown : s.vm.findClass y.cls = some m.cls := findClass_of_methodNamed B.named
  have hlocks := B.notSynchronized
  have key : ∀ (H : Heap) (locs : List Loc), Wh g S' H → va_S (AO g) s.heap H locs → (∀ v, r = some v → okv v) → (∀ t : State, t.heap = H → s.WarmedH t.vm → Qc0 g r S' (vs.map (cv g)).toArray s (.returned (r.map (cv g))) t) := by
    intro H locs h1 h2 h3 t ht _
    exact ⟨rfl, h3, by rw [ht]; exact h1, h2.F ht⟩
  have hG := body (p, l, e, (headSpec (Cond.code y b nL ret :: lw_w) (rmk fr mc ms)).room, s, m, (vs.map (cv g)).toArray, below, meth, c, MQ below (Qc0 g r S') (vs.map (cv g)).toArray s mc ms (AO g)) rfl
    ⟨hx, hb, hml, hown, fun w hw => hts w (List.mem_cons_of_mem _ hw), hst, hbs, Nat.le_refl _, Nat.le_refl _, Nat.le_refl _, Nat.le_refl _⟩ ?_ ?_ ?_ ?_
  · have hl := lv_entry (vs.map (cv g)) (n := nL) (by rw [sl_len]; exact hlen)
    rw [lg_entry_eq]
    rw [← argL_map] at hl
    exact hG s.heap [] _ hwh va_S.rf (fun v hv => absurd hv List.not_mem_nil) (argL_ok vs hok 0) hl
  · intro v pc L e1 e2 hd H locs ls h1 h2 h3 _ _
    have hq := key H locs h1 h2 (fun v' hv' => by cases e1.symm.trans hv'; exact h3 _ List.mem_cons_self)
    subst e1
    exact W.iret hx hb (by rw [hr]; exact e2) hq h2.2.2 hd
  · intro v pc L e1 e2 hz hd H locs ls h1 h2 h3 _ _
    have hq := key H locs h1 h2 (fun v' hv' => by cases e1.symm.trans hv'; exact h3 _ List.mem_cons_self)
    subst e1
    exact W.zret hx hb (by rw [hr]; exact e2) (nar_z hz).1 hq h2.2.2 hd
  · intro v pc L e1 e2 hd H locs ls h1 h2 h3 _ _
    have hq := key H locs h1 h2 (fun v' hv' => by cases e1.symm.trans hv'; exact h3 _ List.mem_cons_self)
    subst e1
    exact W.lret hx hb (by rw [hr]; exact e2) hq h2.2.2 hd
  · intro pc L e1 e2 hd H locs ls h1 h2 h3 _ _
    have hq := key H locs h1 h2 (fun v' hv' => by rw [e1] at hv'; cases hv')
    subst e1
    exact W.vret hx hb (by rw [hr]; exact e2) hq h2.2.2 hd
theorem Cn.ofI {l : Launch} {g : GT} {y : MethodName} {b : ByteArray} {nL : Nat} {fr : Nat} {vs : List Vl} {S : S2} {r : Int} {S' : S2} (hy : plainName y.cls = true) (hlen : wsum vs ≤ nL) (body : ∀ K : KT, Kl K = l → Ctx K g y.cls b nL fr 0 0 → RetI K g b nL (0, 0) r S' → G K g nL (0, 0) 0 (argL 0 vs) [] S) : Cn l g y b nL (some .int) fr 0 0 vs S (some (vi r)) S' :=
  Cn.of hy hlen (fun K e hC h1 _ _ _ => body K e hC (fun pc L hd => h1 r pc L rfl rfl hd))
theorem Cn.ofZ {l : Launch} {g : GT} {y : MethodName} {b : ByteArray} {nL : Nat} {fr : Nat} {vs : List Vl} {S : S2} {r : Int} {S' : S2} (hy : plainName y.cls = true) (hlen : wsum vs ≤ nL) (body : ∀ K : KT, Kl K = l → Ctx K g y.cls b nL fr 0 0 → RetZ K g b nL (0, 0) r S' → G K g nL (0, 0) 0 (argL 0 vs) [] S) : Cn l g y b nL (some .boolean) fr 0 0 vs S (some (vi r)) S' :=
  Cn.of hy hlen (fun K e hC _ h1 _ _ => body K e hC (fun pc L hz hd => h1 r pc L rfl rfl hz hd))
theorem Cn.ofL {l : Launch} {g : GT} {y : MethodName} {b : ByteArray} {nL : Nat} {fr : Nat} {vs : List Vl} {S : S2} {r : Int} {S' : S2} (hy : plainName y.cls = true) (hlen : wsum vs ≤ nL) (body : ∀ K : KT, Kl K = l → Ctx K g y.cls b nL fr 0 0 → RetL K g b nL (0, 0) r S' → G K g nL (0, 0) 0 (argL 0 vs) [] S) : Cn l g y b nL (some .long) fr 0 0 vs S (some (vl r)) S' :=
  Cn.of hy hlen (fun K e hC _ _ h1 _ => body K e hC (fun pc L hd => h1 r pc L rfl rfl hd))
theorem Cn.ofV {l : Launch} {g : GT} {y : MethodName} {b : ByteArray} {nL : Nat} {fr : Nat} {vs : List Vl} {S : S2} {S' : S2} (hy : plainName y.cls = true) (hlen : wsum vs ≤ nL) (body : ∀ K : KT, Kl K = l → Ctx K g y.cls b nL fr 0 0 → RetV K g b nL (0, 0) S' → G K g nL (0, 0) 0 (argL 0 vs) [] S) : Cn l g y b nL none fr 0 0 vs S none S' :=
  Cn.of hy hlen (fun K e hC _ _ _ h1 => body K e hC (fun pc L hd => h1 pc L rfl rfl hd))
