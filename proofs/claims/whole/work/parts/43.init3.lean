/-! Contracts of constructors: the heap's size rides along. -/
def Pc1 (g : GT) (vs : List Vl) (S : S2) : Array Value → State → Prop := fun v U => Pc0 g vs S v U ∧ U.heap.size = g.1 + S.1.length
def Qc1 (g : GT) (S' : S2) : Array Value → State → Outcome → State → Prop := fun a st oc t => Qc0 g none S' a st oc t ∧ t.heap.size = g.1 + S'.1.length
def Ci (l : Launch) (g : GT) (y : MethodName) (b : ByteArray) (nL : Nat) (fr mc ms : Nat) (vs : List Vl) (S S' : S2) : Prop := Met l y (Cond.code y b nL none :: lw_w) (rmk fr mc ms) (Pc1 g vs S) (Qc1 g S') mc ms (AO g)
theorem Wh_size {g : GT} {S : S2} {H : Heap} (h : Wh g S H) (h0 : 0 < S.1.length) : g.1 + S.1.length ≤ H.size := by
  have hk : S.1.length - 1 < S.1.length := by omega
  have := (h.1 _ _ (wsO_get (g := g) (List.getElem?_eq_getElem hk))).lt
  simp only at this
  omega
theorem Ci.of {l : Launch} {g : GT} {y : MethodName} {b : ByteArray} {nL : Nat} {fr mc ms : Nat} {vs : List Vl} {S S' : S2} (hy : plainName y.cls = true) (hnm : y.name = "<init>") (hlen : wsum vs ≤ nL) (hmc : S'.1.length = S.1.length + mc) (h0 : 0 < S.1.length)
    (body : ∀ K : KT, Kl K = l → Kname K = "<init>" → Ctx K g y.cls b nL fr mc ms → (Kheap K).size = g.1 + S.1.length → RetV K g b nL (mc, ms) S' → G K g nL (0, 0) 0 (argL 0 vs) [] S) : Ci l g y b nL fr mc ms vs S S' := by
  refine Met.ofW (cc := b) (maxL := nL) (ret := none) hy rfl ?_
  intro p e s m args below meth c s₁ B hml hv
  obtain ⟨⟨rfl, hok, hst, hwh, hbs⟩, hsz⟩ := hv
  have hx := B.exec
  have hb := B.bytes
  have hr := B.returns
  have hts := atoms_spec (ws := Cond.code y b nL none :: lw_w) B.pre
  have hown : s.vm.findClass y.cls = some m.cls := findClass_of_methodNamed B.named
  have hlocks := B.notSynchronized
  have hin : meth.name = "<init>" := ((name_of_methodNamed B.named B.method).1).trans hnm
  have hG := body (p, l, e, (headSpec (Cond.code y b nL none :: lw_w) (rmk fr mc ms)).room, s, m, (vs.map (cv g)).toArray, below, meth, c, MQ below (Qc1 g S') (vs.map (cv g)).toArray s mc ms (AO g)) rfl hin
    ⟨hx, hb, hml, hown, fun w hw => hts w (List.mem_cons_of_mem _ hw), hst, hbs, Nat.le_refl _, Nat.le_refl _, Nat.le_refl _, Nat.le_refl _⟩ hsz ?_
  · have hl := lv_entry (vs.map (cv g)) (n := nL) (by rw [sl_len]; exact hlen)
    rw [lg_entry_eq]
    rw [← argL_map] at hl
    exact hG s.heap [] _ hwh va_S.rf (fun v hv => absurd hv List.not_mem_nil) (argL_ok vs hok 0) hl
  · intro pc L hd H locs ls h1 h2 h3 _ _
    refine W_size (fun hz => ?_)
    have hz' : H.size = g.1 + S'.1.length := by
      have := Wh_size h1 (by omega)
      simp only at hz
      omega
    exact W.vret hx hb hr (fun t ht _ => ⟨⟨rfl, fun v hv => (by cases hv), (by rw [ht]; exact h1), h2.F ht⟩, by rw [ht]; exact hz'⟩) h2.2.2 hd
theorem g_callI {K : KT} {g : GT} {own : String} {cc : ByteArray} {nL fr cm sm : Nat} {cs : Nat × Nat} {pc : Nat} {L : List (Nat × Vl)} {st : List Vl} {S : S2} {y : MethodName} {b : ByteArray} {nL' fr' mc ms n ix c : Nat} {As stk : List Vl} {S' : S2}
    (hC : Ctx K g own cc nL fr cm sm) (hd : decode cc pc = .ok (.invokespecial ix, 3)) (hM : Ci (Kl K) g y b nL' fr' mc ms (vr c :: As) S S') (hm : MI y b nL' none n) (hi : Cond.instanceMethod y ∈ lw_w) (hnm : y.name = "<init>") (hl : ML own ix y) (hstk : stk = As.reverse ++ vr c :: st) (hn : As.length = n) (hw : wsum st ≤ 8) (hfr : fr' + 1 ≤ fr) (hnl : nL' ≤ 21) (hcs : cs.1 + mc ≤ cm ∧ cs.2 + ms ≤ sm) (hsz : (Kheap K).size + cs.1 = g.1 + S.1.length) (h0 : 0 < S.1.length)
    (kk : G K g nL (cs.1 + mc, cs.2 + ms) (pc + 3) L st S') : G K g nL cs pc L stk S := by
  obtain ⟨p, l, e, R, s, m, args, below, meth, c0, Q⟩ := K
  intro H locs ls h1 h2 h3 h4 h5
  subst hstk
  have hcr := hC.2.2.2.2.2.2.2.2.2
  refine W_size (fun hz => ?_)
  have hz' : H.size = g.1 + S.1.length := by
    have := Wh_size h1 h0
    simp only [Kheap] at hsz
    omega
  have hvs : ∀ v ∈ vr c :: As, okv v := fun v hv => (List.mem_cons.mp hv).elim (fun e => e ▸ trivial) (fun z => h3 v (List.mem_append_left _ (List.mem_reverse.mpr z)))
  have hst : ∀ v ∈ st, okv v := fun v hv => h3 v (List.mem_append_right _ (List.mem_cons_of_mem _ hv))
  have hrun : va_Run p l e R s m args below meth c0 H locs cs.1 cs.2 mc ms (F0 m pc ls ((As.reverse ++ vr c :: st).map (cv g))) (st.map (cv g)) (Qc1 g S' (((vr c :: As).map (cv g)).toArray)) (AO g) := by
    have hp : PreS s H (Pc1 g (vr c :: As) S) (.ref (g.1 + c) :: As.map (cv g)) := ⟨fun a U f mk q => ⟨Pc0_blind g _ _ a U f mk q.1, q.2⟩, fun U hU hW => ⟨pre_in hC h2 h1 hvs U hU hW, by rw [hU]; exact hz'⟩⟩
    have hstack : (F0 m pc ls ((As.reverse ++ vr c :: st).map (cv g))).stack = (As.map (cv g)).reverse ++ .ref (g.1 + c) :: st.map (cv g) := by
      show (As.reverse ++ vr c :: st).map (cv g) = _
      rw [List.map_append, List.map_reverse]
      rfl
    have hW : 2 * (F0 m pc ls ((As.reverse ++ vr c :: st).map (cv g))).monitorRoom + ((st.map (cv g)).map fun v => v.category).sum ≤ 8 := lv_room (by rw [wsum_cv]; exact hw)
    rcases hl with hl | ⟨host, hl⟩
    · exact va_runI ⟨hC.1, hC.2.1, hC.2.2.1, hC.2.2.2.1, hC.2.2.2.2.1⟩ hM ⟨callB_of n hC.2.2.2.2.1 (goodCode hm) rfl rfl rfl (hC.2.2.2.2.1 _ hm.2.1) (hC.2.2.2.2.1 _ hl) ⟨hm.2.2.1, hm.2.2.2.1, hm.2.2.2.2⟩ (room_in hC hfr hnl), hnm, hC.2.2.2.2.1 _ hi⟩ hp rfl (by rw [List.length_map]; exact hn) h5.1 hstack hW hd (by omega)
    · exact va_runIN ⟨hC.1, hC.2.1, hC.2.2.1, hC.2.2.2.1, hC.2.2.2.2.1⟩ hM ⟨va_cnB n hC.2.2.2.2.1 (goodCode hm) rfl rfl rfl (hC.2.2.2.2.2.1.2.2.1 _ hl rfl) (hC.2.2.2.2.1 _ hm.2.1) ⟨hm.2.2.1, hm.2.2.2.1, hm.2.2.2.2⟩ (room_in hC hfr hnl), hnm, hC.2.2.2.2.1 _ hi⟩ hp rfl (by rw [List.length_map]; exact hn) h5.1 hstack hW hd (by omega)
  have hrun0 : va_Run p l e R s m args below meth c0 H locs cs.1 cs.2 mc ms (F0 m pc ls ((As.reverse ++ vr c :: st).map (cv g))) (st.map (cv g)) (Qc0 g none S' (((vr c :: As).map (cv g)).toArray)) (AO g) := by
    intro T hT X
    obtain ⟨v, st₀, t, T', L, q1, q2, q3, q4, q5, q6, q7⟩ := hrun T hT X
    exact ⟨v, st₀, t, T', L, q1, q2, q3, q4, q5, q6.1, q7⟩
  exact run_goes hrun0 h2 (fun H1 locs1 hok hw1 hS1 => kk H1 locs1 ls hw1 hS1 hst h4 h5)
/-- the store's words, said otherwise -/
theorem g_st {K : KT} {g : GT} {nL : Nat} {cs : Nat × Nat} {pc : Nat} {L : List (Nat × Vl)} {st : List Vl} {S S' : S2} (h : S = S') (k : G K g nL cs pc L st S') : G K g nL cs pc L st S := h ▸ k
