/-! putUp, loses: deeds out of a thought. -/
theorem inv_deed {h g : Hs} {σ σ' : St} (hI : InvImg h σ ∧ InvChg h σ ∧ InvTape σ ∧ InvLots σ ∧ (∀ s : Nat, s < 6 → InvShelf σ s) ∧ InvLaw σ) (ag : ∀ c j : Nat, ¬ (scr c j ∨ c = 1 ∨ c = 2 ∨ c = 3 ∨ c = 35 ∨ c = 66) → σ' c j = σ c j) (c1 : HC 1 g σ') (c2 : HM g σ') (c3 : Wf g) (m1 : h.1 ≤ g.1) (m2 : h.2.1 ≤ g.2.1) (l : InvLed σ') : Inv σ' :=
  inv_up hI (fun c j q => ag c j (by unfold pRest pImg pChg pTape pLots pShelf pLaw at q; unfold scr; omega)) c1 c2 c3 m1 m2 l
theorem led_up {σ σ' : St} {k : Nat} (i2 : InvLed σ) (hk : k < 5) (e1 : ∀ i : Nat, σ' 35 i = if i = k then i_add (σ 35 k) 1 else σ 35 i) (e2 : ∀ i : Nat, σ' 66 i = if i = k then i_add (σ 66 k) 1 else σ 66 i) : InvLed σ' := by
  intro i hi
  rw [e1 i, e2 i, i2 k hk, i2 i hi]
theorem ag_putUp (a1 : Int) (ha1 : ok32 a1) : Ag (fun σ => fX9_putUp 0 a1 σ) (fun σ => fX10_putUp 49 a1 σ) := by
  intro σ hI
  obtain ⟨h, c1, c2, c3, i1, i2, i3, i4, i5, i6, i7⟩ := id hI
  have z1 := c3.1.1
  have z2 := c3.1.2
  have ho : isO 2 1 = true := by decide +kernel
  dsimp only
  unfold fX9_putUp
  simp only [rfS, lnS]
  rw [hasThing_eq c1]
  by_cases a : 0 ≤ a1 ∧ a1 < (h.1 : Int)
  case neg =>
    rw [if_neg a, b0]
    refine ⟨_, σ, σ, rfl, ?_, hI⟩
    unfold fX10_putUp
    rw [isThing_eq c2 c3.1, if_neg a, b0]
  obtain ⟨t, rfl⟩ : ∃ t : Nat, a1 = (t : Int) := ⟨a1.toNat, by omega⟩
  have ht : t < h.1 := by omega
  obtain ⟨g0, g1, g2, g3⟩ := wf_T c3 ht
  have n1 : hnum h (t : Int) 1 = h.2.2.1 t 1 := hnum_T (w := 1) ht (by decide)
  have n2 : hnum h (t : Int) 2 = h.2.2.1 t 2 := hnum_T (w := 2) ht (by decide)
  have mm : ∀ τ : St, HM h τ → fX10_putUp 49 (t : Int) τ = if h.2.2.1 t 1 = -1 ∧ h.2.2.1 t 2 = 0 then (Option.bind (fX10_goes 49 (t : Int) τ) fun q3 => if q3.1 = 8 then some (q3.1, up q3.2 66 1 (i_add (q3.2 66 1) 1)) else if q3.1 = -2 then some (q3.1, q3.2) else some (q3.1, up q3.2 66 0 (i_add (q3.2 66 0) 1))) else some (-5, τ) := by
    intro τ hm
    unfold fX10_putUp
    simp only [rfS, lnS]
    rw [isThing_eq hm c3.1, if_pos a, b1]
    dsimp only
    rw [forSale1 hm (by omega)]
    by_cases q : h.2.2.1 t 1 = -1 ∧ h.2.2.1 t 2 = 0
    · rw [if_pos q, if_pos q, b1]
      dsimp only
      have e0 : inb 0 5 := by decide
      have e1 : inb 1 5 := by decide
      simp only [if_pos e0, if_pos e1]
      rfl
    · rw [if_neg q, if_neg q, b0]
  rw [if_pos a, b1]
  dsimp only
  rw [number_eq ho c1 c3.1, Option.bind_some, n1]
  dsimp only
  by_cases q1 : h.2.2.1 t 1 = -1
  case neg =>
    rw [if_pos (by omega)]
    exact ⟨_, σ, σ, rfl, by rw [mm σ c2, if_neg (fun z => q1 z.1)], hI⟩
  rw [if_neg (by omega), number_eq ho c1 c3.1, Option.bind_some, n2]
  dsimp only
  by_cases q2 : h.2.2.1 t 2 = 0
  case neg =>
    rw [if_neg q2]
    exact ⟨_, σ, σ, rfl, by rw [mm σ c2, if_neg (fun z => q2 z.2)], hI⟩
  rw [if_pos q2]
  obtain ⟨E, τ, f, T, m, -, -, -, s⟩ := think c1 c2 c3 i7
  obtain ⟨τ1, f1, T1, W1, s1⟩ := considers_eq T ht
  rw [f, Option.bind_some, f1, Option.bind_some, winner9 T1 W1, Option.bind_some]
  dsimp only
  have sA : ∀ d, ¬ (d = 6 ∨ d = 7 ∨ (10 ≤ d ∧ d ≤ 17)) → τ1 d = σ d := fun d hd => by rw [s1 d (by omega), s d (by omega)]
  have c1' : HC 1 h τ1 := HC1.keep (fun c j q => by rw [sA c (by unfold pH1 at q; omega)]) c1
  have m1 : MC E h τ1 := m.keepC (fun d hd => s1 d (by omega))
  have wi := win_in (E := E) (h := h) (t := t)
  have wg := goesP_wf (E := E) c3 ht
  obtain ⟨gn1, gn2, -⟩ := goesP_n (E := E) (h := h) (t := t)
  have fin : ∀ (ω : St) (k : Nat), k < 5 → (∀ c, c ≠ 2 → c ≠ 3 → c ≠ 35 → ω c = τ1 c) → HC 1 (goesP E h t).2 ω → (∀ i : Nat, ω 35 i = if i = k then i_add (σ 35 k) 1 else σ 35 i) → ∃ ρ : St, fX10_goes 49 (t : Int) ω = some ((goesP E h t).1, ρ) ∧ Inv (up ρ 66 k (i_add (ρ 66 k) 1)) := by
    intro ω k hk o1 o2 o3
    have mo : MC E h ω := m1.keepC (fun d hd => o1 d (by omega) (by omega) (by omega))
    obtain ⟨ρ, fr, mr, sr⟩ := goes10 mo ht
    refine ⟨ρ, fr, ?_⟩
    have r66 : ρ 66 = σ 66 := by rw [sr 66 (by omega), o1 66 (by decide) (by decide) (by decide), sA 66 (by omega)]
    refine inv_deed (h := h) (g := (goesP E h t).2) ⟨i1, i3, i4, i5, i6, i7⟩ (fun c j q => ?_) (HC1.keep (fun c j q => by rw [up_ne (by unfold pH1 at q; omega), sr c (by unfold pH1 at q; omega)]) o2) (HM.keep (fun c j q => by rw [up_ne (by unfold pHM at q; omega)]) mr.1) wg (by omega) (by omega) (led_up i2 hk (fun i => ?_) (fun i => ?_))
    · unfold scr at q
      rw [up_ne (by omega), sr c (by omega), o1 c (by omega) (by omega) (by omega), sA c (by omega)]
    · rw [up_ne (by decide), sr 35 (by omega)]
      exact o3 i
    · rw [up_get, r66]
      by_cases z : i = k
      · rw [if_pos ⟨rfl, z⟩, if_pos z]
      · rw [if_neg (fun y => z y.2), if_neg z]
  by_cases q8 : win E h t = 8
  · have eg : goesP E h t = (8, setT (setT h t 2 1) t 3 0) := by
      unfold goesP
      rw [if_pos ⟨q1, q2⟩, if_pos q8]
    rw [if_pos q8]
    obtain ⟨ω1, k1, k2, k3⟩ := become_eq (i := (t : Int)) (w := 2) (v := 1) ho c1' c3.1
    have hz1 : Hz (hset h (t : Int) 2 1) := ⟨by rw [hset_n.1]; exact z1, by rw [hset_n.2]; exact z2⟩
    obtain ⟨ω2, k4, k5, k6⟩ := become_eq (i := (t : Int)) (w := 3) (v := 0) ho k2 hz1
    rw [k1, Option.bind_some, k4, Option.bind_some, if_pos (by decide), if_pos (by decide)]
    have e2 : hset h (t : Int) 2 1 = setT h t 2 1 := hset_T (w := 2) ht (by decide)
    have e3 : hset (setT h t 2 1) (t : Int) 3 0 = setT (setT h t 2 1) t 3 0 := hset_T (w := 3) ht (by decide)
    rw [e2, e3] at k5
    have sw : ∀ c, c ≠ 2 → c ≠ 3 → ω2 c = τ1 c := fun c x1 x2 => by rw [k6 c ⟨x1, x2⟩, k3 c ⟨x1, x2⟩]
    have w35 : ω2 35 = σ 35 := by rw [sw 35 (by decide) (by decide), sA 35 (by omega)]
    obtain ⟨ρ, r1, r2⟩ := fin (up ω2 35 1 (i_add (ω2 35 1) 1)) 1 (by decide) (fun c x1 x2 x3 => by rw [up_ne x3, sw c x1 x2]) (by rw [eg]; exact HC1.keep (fun c j q => by rw [up_ne (by unfold pH1 at q; omega)]) k5) (fun i => by
      rw [up_get, w35]
      by_cases z : i = 1
      · rw [if_pos ⟨rfl, z⟩, if_pos z]
      · rw [if_neg (fun y => z y.2), if_neg z])
    refine ⟨_, _, _, rfl, ?_, r2⟩
    rw [mm _ (MC.keepC m1 (fun d hd => by rw [up_ne (by omega), sw d (by omega) (by omega)])).1, if_pos ⟨q1, q2⟩]
    have r1' : fX10_goes 49 (t : Int) (up ω2 35 1 (i_add (ω2 35 1) 1)) = some (8, ρ) := by rw [r1, eg]
    have q0 : Int.toNat 1 = 1 := rfl
    rw [q0, r1', Option.bind_some, if_pos rfl, q8]
  · rw [if_neg q8]
    by_cases qn : win E h t = -2
    · have eg : goesP E h t = (-2, h) := by
        unfold goesP
        rw [if_pos ⟨q1, q2⟩, if_neg q8, if_pos qn]
      rw [if_pos (by omega)]
      obtain ⟨ρ, fr, mr, sr⟩ := goes10 m1 ht
      rw [eg] at fr mr
      refine ⟨_, τ1, ρ, rfl, ?_, ?_⟩
      · rw [mm τ1 m1.1, if_pos ⟨q1, q2⟩, fr, Option.bind_some, if_neg (show ¬ (-2 : Int) = 8 by decide), if_pos rfl, qn]
      · exact inv_end ⟨c1, c3, i1, i2, i3, i4, i5, i6, i7⟩ mr.1 (fun c j q => by rw [sr c (by unfold scr at q; omega), sA c (by unfold scr at q; omega)])
    · have eg : goesP E h t = (win E h t, setT h t 1 (win E h t)) := by
        unfold goesP
        rw [if_pos ⟨q1, q2⟩, if_neg q8, if_neg qn]
      rw [if_neg (by omega)]
      obtain ⟨ω1, k1, k2, k3⟩ := become_eq (i := (t : Int)) (w := 1) (v := win E h t) ho c1' c3.1
      rw [k1, Option.bind_some, if_pos (by decide), if_pos (by decide)]
      have e2 : hset h (t : Int) 1 (win E h t) = setT h t 1 (win E h t) := hset_T (w := 1) ht (by decide)
      rw [e2] at k2
      have sw : ∀ c, c ≠ 2 → c ≠ 3 → ω1 c = τ1 c := fun c x1 x2 => k3 c ⟨x1, x2⟩
      have w35 : ω1 35 = σ 35 := by rw [sw 35 (by decide) (by decide), sA 35 (by omega)]
      obtain ⟨ρ, r1, r2⟩ := fin (up ω1 35 0 (i_add (ω1 35 0) 1)) 0 (by decide) (fun c x1 x2 x3 => by rw [up_ne x3, sw c x1 x2]) (by rw [eg]; exact HC1.keep (fun c j q => by rw [up_ne (by unfold pH1 at q; omega)]) k2) (fun i => by
        rw [up_get, w35]
        by_cases z : i = 0
        · rw [if_pos ⟨rfl, z⟩, if_pos z]
        · rw [if_neg (fun y => z y.2), if_neg z])
      refine ⟨_, _, _, rfl, ?_, r2⟩
      rw [mm _ (MC.keepC m1 (fun d hd => by rw [up_ne (by omega), sw d (by omega) (by omega)])).1, if_pos ⟨q1, q2⟩]
      have r1' : fX10_goes 49 (t : Int) (up ω1 35 0 (i_add (ω1 35 0) 1)) = some (win E h t, ρ) := by rw [r1, eg]
      have q0 : Int.toNat 0 = 0 := rfl
      rw [q0, r1', Option.bind_some, if_neg q8, if_neg qn]
theorem cnt_pos {h : Hs} {b : Int} {t : Nat} (h1 : h.2.2.1 t 1 = b) (h2 : h.2.2.1 t 2 = 0) : ∀ n : Nat, t < n → 1 ≤ cnt h b n
  | 0, k => by omega
  | n + 1, k => by
    have c := cnt_le h b n
    unfold cnt
    by_cases e : t = n
    · subst e
      rw [if_pos ⟨h1, h2⟩]
      omega
    · have := cnt_pos (h := h) (b := b) (t := t) h1 h2 n (by omega)
      split <;> omega
theorem ag_loses (a1 : Int) (ha1 : ok32 a1) : Ag (fun σ => fX9_loses 0 a1 σ) (fun σ => fX10_loses 49 a1 σ) := by
  intro σ hI
  obtain ⟨h, c1, c2, c3, i1, i2, i3, i4, i5, i6, i7⟩ := id hI
  have z1 := c3.1.1
  have z2 := c3.1.2
  have ho : isO 2 1 = true := by decide +kernel
  dsimp only
  unfold fX9_loses
  simp only [rfS, lnS]
  rw [hasThing_eq c1]
  by_cases a : 0 ≤ a1 ∧ a1 < (h.1 : Int)
  case neg =>
    rw [if_neg a, b0]
    refine ⟨_, σ, σ, rfl, ?_, hI⟩
    unfold fX10_loses
    rw [isThing_eq c2 c3.1, if_neg a, b0]
  obtain ⟨t, rfl⟩ : ∃ t : Nat, a1 = (t : Int) := ⟨a1.toNat, by omega⟩
  have ht : t < h.1 := by omega
  obtain ⟨g0, g1, g2, g3⟩ := wf_T c3 ht
  have n0 : hnum h (t : Int) 0 = h.2.2.1 t 0 := hnum_T (w := 0) ht (by decide)
  have n1 : hnum h (t : Int) 1 = h.2.2.1 t 1 := hnum_T (w := 1) ht (by decide)
  have n2 : hnum h (t : Int) 2 = h.2.2.1 t 2 := hnum_T (w := 2) ht (by decide)
  have ib : inb (t : Int) 8 := ⟨by omega, by omega⟩
  rw [if_pos a, b1]
  dsimp only
  rw [number_eq ho c1 c3.1, Option.bind_some, n1]
  dsimp only
  rw [hasBidder_eq c1]
  have mstate : ∀ τ : St, HM h τ → (h.2.2.1 t 1 = -1 ∨ h.2.2.1 t 2 = 1) → fX10_loses 49 (t : Int) τ = some (-5, τ) := by
    intro τ hm q
    unfold fX10_loses
    simp only [rfS, lnS]
    rw [isThing_eq hm c3.1, if_pos a, b1]
    obtain ⟨x0, x1, x2, x3⟩ := hm.2.2.1 t (by omega)
    simp only [Int.toNat_natCast, x1, x2, if_pos ib]
    by_cases z : h.2.2.1 t 1 = -1
    · rw [if_pos z]
    · rw [if_neg z, if_pos (by omega)]
  by_cases q1 : h.2.2.1 t 1 = -1
  · rw [if_neg (by omega), b0]
    exact ⟨_, σ, σ, rfl, mstate σ c2 (Or.inl q1), hI⟩
  rw [if_pos (by omega), b1]
  dsimp only
  rw [number_eq ho c1 c3.1, Option.bind_some, n2]
  dsimp only
  by_cases q2 : h.2.2.1 t 2 = 0
  case neg =>
    rw [if_neg q2]
    exact ⟨_, σ, σ, rfl, mstate σ c2 (Or.inr (by omega)), hI⟩
  rw [if_pos q2]
  obtain ⟨b, hb⟩ : ∃ b : Nat, h.2.2.1 t 1 = (b : Int) := ⟨(h.2.2.1 t 1).toNat, by omega⟩
  have hbb : b < h.2.1 := by omega
  have kp := cnt_pos hb q2 h.1 ht
  have kl := cnt_le h b h.1
  obtain ⟨E, τ, f, T, m, -, -, -, s⟩ := think c1 c2 c3 i7
  rw [f, Option.bind_some]
  have ct : HC 1 h τ := HC1.keep (fun c j q => by rw [s c (by unfold pH1 at q; omega)]) c1
  rw [number_eq ho ct c3.1, Option.bind_some, n0, hb]
  dsimp only
  rw [if_pos ⟨by omega, by omega⟩, Int.toNat_natCast, T.2.2.2.2.1 b (by omega), isb (ok_in (by omega) (by omega))]
  obtain ⟨τ1, f1, T1, s1⟩ := misses_eq (b := b) (k := (h.2.2.1 t 0).toNat) (n := (cnt h b h.1 - 1).toNat) T hbb (by omega) (by omega)
  rw [show (((h.2.2.1 t 0).toNat : Nat) : Int) = h.2.2.1 t 0 by omega, show (((cnt h b h.1 - 1).toNat : Nat) : Int) = cnt h b h.1 - 1 by omega] at f1
  rw [f1, Option.bind_some]
  dsimp only
  have sA : ∀ d, ¬ (d = 6 ∨ d = 7 ∨ (10 ≤ d ∧ d ≤ 17)) → τ1 d = σ d := fun d hd => by rw [s1 d (by omega), s d (by omega)]
  have ct1 : HC 1 h τ1 := HC1.keep (fun c j q => by rw [sA c (by unfold pH1 at q; omega)]) c1
  have m1 : MC E h τ1 := m.keepC (fun d hd => s1 d (by omega))
  have n5 : hnum h (b : Int) 5 = h.2.2.2 b 1 := hnum_B (w := 1) hbb (by decide)
  have n6 : hnum h (b : Int) 6 = h.2.2.2 b 2 := hnum_B (w := 2) hbb (by decide)
  have w1 := (wf_B c3 hbb).1 1 (by decide)
  have w2 := (wf_B c3 hbb).1 2 (by decide)
  rw [number_eq ho ct1 c3.1, Option.bind_some]
  dsimp only
  rw [number_eq ho ct1 c3.1, Option.bind_some, n5, n6]
  dsimp only
  -- how long it is missed
  have yi := yrs_in E h b (h.2.2.1 t 0).toNat (cnt h b h.1 - 1)
  obtain ⟨v, hv⟩ : ∃ v : Int, m_min (yrs E h b (h.2.2.1 t 0).toNat (cnt h b h.1 - 1)) (i_add (h.2.2.2 b 1) (h.2.2.2 b 2)) = v := ⟨_, rfl⟩
  have vi : 0 ≤ v ∧ v ≤ 99 := by
    rw [← hv, ia (ok_in (by omega) (by omega))]
    unfold m_min
    split <;> omega
  rw [hv]
  obtain ⟨ω1, k1, k2, k3⟩ := become_eq (i := (t : Int)) (w := 2) (v := 1) ho ct1 c3.1
  have hz1 : Hz (hset h (t : Int) 2 1) := ⟨by rw [hset_n.1]; exact z1, by rw [hset_n.2]; exact z2⟩
  obtain ⟨ω2, k4, k5, k6⟩ := become_eq (i := (t : Int)) (w := 3) (v := v) ho k2 hz1
  rw [k1, Option.bind_some, k4, Option.bind_some, if_pos (by decide), if_pos (by decide)]
  have e2 : hset h (t : Int) 2 1 = setT h t 2 1 := hset_T (w := 2) ht (by decide)
  have e3 : hset (setT h t 2 1) (t : Int) 3 v = setT (setT h t 2 1) t 3 v := hset_T (w := 3) ht (by decide)
  rw [e2, e3] at k5
  have sw : ∀ c, c ≠ 2 → c ≠ 3 → ω2 c = τ1 c := fun c x1 x2 => by rw [k6 c ⟨x1, x2⟩, k3 c ⟨x1, x2⟩]
  have w35 : ω2 35 = σ 35 := by rw [sw 35 (by decide) (by decide), sA 35 (by omega)]
  have q0 : Int.toNat 2 = 2 := rfl
  rw [q0]
  have mo : MC E h (up ω2 35 2 (i_add (ω2 35 2) 1)) := m1.keepC (fun d hd => by rw [up_ne (by omega), sw d (by omega) (by omega)])
  obtain ⟨ρ, r1, r2⟩ := yearsOf_eq (b := b) (k := (h.2.2.1 t 0).toNat) (x3 := cnt h b h.1 - 1) mo (by omega) (by omega)
  rw [show (((h.2.2.1 t 0).toNat : Nat) : Int) = h.2.2.1 t 0 by omega] at r1
  have mr := mo.same r2
  refine ⟨v, _, up (up (up ρ 53 t v) 52 t 1) 66 2 (i_add (ρ 66 2) 1), rfl, ?_, ?_⟩
  · unfold fX10_loses
    simp only [rfS, lnS]
    rw [isThing_eq mo.1 c3.1, if_pos a, b1]
    obtain ⟨x0, x1, x2, x3⟩ := mo.1.2.2.1 t (by omega)
    simp only [Int.toNat_natCast, x0, x1, x2, if_pos ib]
    rw [if_neg (by omega), if_neg (by omega), hb, countOf_eq mo.1 c3.1, Option.bind_some]
    dsimp only
    rw [isb (ok_in (by omega) (by omega)), r1, Option.bind_some]
    have e7 : i_add 7 (b : Int) = ((7 + b : Nat) : Int) := by
      rw [ia (ok_in (by omega) (by omega))]
      omega
    have e14 : i_add 14 (b : Int) = ((14 + b : Nat) : Int) := by
      rw [ia (ok_in (by omega) (by omega))]
      omega
    have y1 : ρ 54 (7 + b) = h.2.2.2 b 1 := by
      have := mr.1.2.2.2 b 1 (by omega) (by decide)
      simpa using this
    have y2 : ρ 54 (14 + b) = h.2.2.2 b 2 := by
      have := mr.1.2.2.2 b 2 (by omega) (by decide)
      simpa using this
    have j7 : inb ((7 + b : Nat) : Int) 63 := ⟨by omega, by omega⟩
    have j14 : inb ((14 + b : Nat) : Int) 63 := ⟨by omega, by omega⟩
    have j2 : inb 2 5 := by decide
    simp only [e7, e14, Int.toNat_natCast, y1, y2, if_pos j7, if_pos j14, if_pos j2, q0, hv]
    have u66 : up (up ρ 53 t v) 52 t 1 66 = ρ 66 := by rw [up_ne (by decide), up_ne (by decide)]
    simp only [u66]
    have u53 : up (up (up ρ 53 t v) 52 t 1) 66 2 (i_add (ρ 66 2) 1) 53 t = v := by
      rw [up_ne (by decide), up_ne (by decide)]
      simp [up]
    rw [u53]
  · have hm : HM (setT (setT h t 2 1) t 3 v) (up (up ρ 53 t v) 52 t 1) := by
      refine (HM_T (w := 2) (HM_T (w := 3) mr.1 (t := t) (v := v) (by decide)) (t := t) (v := 1) (by decide)).congr rfl rfl (fun u w _ _ => ?_) (fun _ _ _ _ => rfl)
      show (if u = t ∧ w = 2 then 1 else if u = t ∧ w = 3 then v else h.2.2.1 u w) = if u = t ∧ w = 3 then v else if u = t ∧ w = 2 then 1 else h.2.2.1 u w
      by_cases z2 : u = t ∧ w = 2
      · rw [if_pos z2, if_neg (by omega), if_pos z2]
      · rw [if_neg z2, if_neg z2]
    have r66 : ρ 66 = σ 66 := by rw [r2 66 (by decide), up_ne (by decide), sw 66 (by decide) (by decide), sA 66 (by omega)]
    have sF : ∀ c, ¬ (c = 2 ∨ c = 3 ∨ c = 35 ∨ c = 6 ∨ c = 7 ∨ (10 ≤ c ∧ c ≤ 17) ∨ c = 64 ∨ c = 65) → ρ c = σ c := fun c hc => by rw [r2 c (by omega), up_ne (by omega), sw c (by omega) (by omega), sA c (by omega)]
    refine inv_deed (h := h) (g := setT (setT h t 2 1) t 3 v) ⟨i1, i3, i4, i5, i6, i7⟩ (fun c j q => ?_) (HC1.keep (fun c j q => ?_) k5) (HM.keep (fun c j q => by rw [up_ne (by unfold pHM at q; omega)]) hm) (wf_setT (wf_setT c3 ht (by decide) (Or.inr ⟨by decide, by decide, by decide⟩)) ht (by decide) (Or.inr ⟨by decide, vi.1, vi.2⟩)) (Nat.le_refl _) (Nat.le_refl _) (led_up (k := 2) i2 (by decide) (fun i => ?_) (fun i => ?_))
    · unfold scr at q
      rw [up_ne (by omega), up_ne (by omega), up_ne (by omega), sF c (by omega)]
    · unfold pH1 at q
      rw [up_ne (by omega), up_ne (by omega), up_ne (by omega), r2 c (by omega), up_ne (by omega)]
    · rw [up_ne (by decide), up_ne (by decide), up_ne (by decide), r2 35 (by decide), up_get, w35]
      by_cases z : i = 2
      · rw [if_pos ⟨rfl, z⟩, if_pos z]
      · rw [if_neg (fun y => z y.2), if_neg z]
    · rw [up_get, r66]
      by_cases z : i = 2
      · rw [if_pos ⟨rfl, z⟩, if_pos z]
      · rw [if_neg (fun y => z y.2), if_neg z, up_ne (by decide), up_ne (by decide), r66]
