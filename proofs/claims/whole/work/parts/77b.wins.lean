/-! Calls that think of one thing: years, wins; the end of a thought. -/
/-- places that no call leaves anything in for the next -/
def scr (c j : Nat) : Prop := c = 6 ∨ c = 7 ∨ (10 ≤ c ∧ c ≤ 24) ∨ (50 ≤ c ∧ c ≤ 54) ∨ c = 64 ∨ c = 65 ∨ (75 ≤ c ∧ c ≤ 77) ∨ (c = 49 ∧ j = 44)
theorem inv_end {h : Hs} {σ σ' : St} (hI : HC 1 h σ ∧ Wf h ∧ InvImg h σ ∧ InvLed σ ∧ InvChg h σ ∧ InvTape σ ∧ InvLots σ ∧ (∀ s : Nat, s < 6 → InvShelf σ s) ∧ InvLaw σ) (m : HM h σ') (ag : ∀ c j : Nat, ¬ scr c j → σ' c j = σ c j) : Inv σ' := by
  obtain ⟨c1, c3, i1, i2, i3, i4, i5, i6, i7⟩ := hI
  exact inv_up (h := h) ⟨i1, i3, i4, i5, i6, i7⟩ (fun c j q => ag c j (by unfold pRest pImg pChg pTape pLots pShelf pLaw at q; unfold scr; omega)) (HC1.keep (fun c j q => ag c j (by unfold pH1 at q; unfold scr; omega)) c1) m c3 (Nat.le_refl _) (Nat.le_refl _) (i2.keep (fun c j q => ag c j (by unfold pLed at q; unfold scr; omega)))
theorem MC.keepC {E : E6} {h : Hs} {σ σ' : St} (k : MC E h σ) (s : ∀ d, 49 ≤ d → σ' d = σ d) : MC E h σ' := k.keep (fun c j q => by rw [s c (by unfold pHM at q; omega)])
/-- a thought begins: what it holds -/
theorem think {h : Hs} {σ : St} (c1 : HC 1 h σ) (c2 : HM h σ) (c3 : Wf h) (i7 : InvLaw σ) : ∃ (E : E6) (τ : St), fX7_begin 10 1 σ = some τ ∧ TR E h h τ ∧ MC E h τ ∧ τ 10 9 = 0 ∧ τ 10 10 = 0 ∧ τ 10 11 = 0 ∧ ∀ d, ¬ (10 ≤ d ∧ d ≤ 16) → τ d = σ d := by
  obtain ⟨E, g1, g2⟩ := law_ex i7
  have h3 : σ 4 3 = 8 ∨ σ 4 3 = 9 := by
    rcases i7.2.2.1 with q | q
    · exact Or.inl q.1
    · exact Or.inr q.1
  obtain ⟨τ, f, T, e9, e10, e11, s⟩ := begin_eq c1 g1 h3 c3
  have s' : ∀ d, ¬ (10 ≤ d ∧ d ≤ 16) → τ d = σ d := fun d hd => s d (by omega)
  refine ⟨E, τ, f, T, ?_, e9, e10, e11, s'⟩
  exact MC.keepC (σ := σ) ⟨c2, g2, c3⟩ (fun d hd => s' d (by omega))
theorem dv10 {x : Int} (h0 : 0 ≤ x) (hx : ok32 x) : i_div x 10 = x / 10 ∧ i_rem x 10 = x % 10 := by
  refine ⟨?_, ?_⟩
  · rw [idv hx (ok_in (by decide) (by decide)) (by decide), Int.tdiv_eq_ediv_of_nonneg h0]
  · rw [irm hx (ok_in (by decide) (by decide)) (by decide), Int.tmod_eq_emod_of_nonneg h0]
abbrev prP (h : Hs) (x : Int) : Prop := 0 ≤ x ∧ x / 10 < (h.2.1 : Int) ∧ x % 10 < (h.1 : Int)
theorem pair9 {h : Hs} {σ : St} {x : Int} (hh : HC 1 h σ) (hx : ok32 x) : fX9_isPair 0 x σ = some (if prP h x then 1 else 0, σ) := by
  unfold fX9_isPair
  simp only [rfS]
  by_cases a : x < 0
  · rw [if_pos a, if_neg (by omega)]
  obtain ⟨d1, d2⟩ := dv10 (by omega) hx
  rw [if_neg a, d1, d2, hasBidder_eq hh]
  by_cases b : x / 10 < (h.2.1 : Int)
  case neg => rw [if_neg (by omega), b0, if_neg (by omega)]
  rw [if_pos (by omega), b1]
  dsimp only
  rw [hasThing_eq hh]
  by_cases c : x % 10 < (h.1 : Int)
  case neg => rw [if_neg (by omega), b0, if_neg (by omega)]
  rw [if_pos (by omega), b1, if_pos (by omega)]
theorem pairN {h : Hs} {x : Int} (a : prP h x) : ∃ b t : Nat, x / 10 = (b : Int) ∧ x % 10 = (t : Int) ∧ b < h.2.1 ∧ t < h.1 := ⟨(x / 10).toNat, (x % 10).toNat, by omega, by omega, by omega, by omega⟩
theorem pair10 {h : Hs} {σ : St} {x : Int} {A : St → Option (Int × St)} (hh : HM h σ) (hz : Hz h) (hx : ok32 x) : (if x < 0 then some ((-1 : Int), σ) else Option.bind (fX10_isOne 49 (i_div x 10) σ) fun q1 => if q1.1 = 0 then some (-1, q1.2) else Option.bind (fX10_isThing 49 (i_rem x 10) q1.2) fun q2 => if q2.1 = 0 then some (-1, q2.2) else A q2.2) = if prP h x then A σ else some (-1, σ) := by
  by_cases a : x < 0
  · rw [if_pos a, if_neg (by omega)]
  obtain ⟨d1, d2⟩ := dv10 (by omega) hx
  rw [if_neg a, d1, d2, isOne_eq hh hz]
  by_cases b : x / 10 < (h.2.1 : Int)
  case neg => rw [if_neg (by omega), b0, if_neg (by omega)]
  rw [if_pos (by omega), b1]
  dsimp only
  rw [isThing_eq hh hz]
  by_cases c : x % 10 < (h.1 : Int)
  case neg => rw [if_neg (by omega), b0, if_neg (by omega)]
  rw [if_pos (by omega), b1, if_pos (by omega)]
theorem ag_wins (a1 : Int) (ha1 : ok32 a1) : Ag (fun σ => fX9_wins 0 a1 σ) (fun σ => fX10_wins 49 a1 σ) := by
  intro σ hI
  obtain ⟨h, c1, c2, c3, i1, i2, i3, i4, i5, i6, i7⟩ := id hI
  dsimp only
  unfold fX9_wins fX10_wins
  simp only [rfS]
  rw [hasThing_eq c1]
  by_cases a : 0 ≤ a1 ∧ a1 < (h.1 : Int)
  case neg =>
    rw [if_neg a, b0]
    exact ⟨_, σ, σ, rfl, by rw [isThing_eq c2 c3.1, if_neg a, b0], hI⟩
  obtain ⟨t, rfl⟩ : ∃ t : Nat, a1 = (t : Int) := ⟨a1.toNat, by omega⟩
  have ht : t < h.1 := by omega
  rw [if_pos a, b1]
  dsimp only
  obtain ⟨E, τ, f, T, m, -, -, -, s⟩ := think c1 c2 c3 i7
  obtain ⟨τ1, f1, T1, W1, s1⟩ := considers_eq T ht
  rw [f, Option.bind_some, f1, Option.bind_some, winner9 T1 W1, Option.bind_some]
  have m1 : MC E h τ1 := m.keepC (fun d hd => s1 d (by omega))
  obtain ⟨τ2, f2, s2⟩ := winner10 m1 ht
  refine ⟨win E h t, τ1, τ2, rfl, ?_, ?_⟩
  · rw [isThing_eq m1.1 c3.1, if_pos a, b1]
    dsimp only
    rw [f2, Option.bind_some]
  · exact inv_end ⟨c1, c3, i1, i2, i3, i4, i5, i6, i7⟩ (m1.same s2).1 (fun c j q => by rw [s2 c (by unfold scr at q; omega), s1 c (by unfold scr at q; omega), s c (by unfold scr at q; omega)])
theorem ag_years (a1 : Int) (a2 : Int) (ha1 : ok32 a1) (ha2 : ok32 a2) : Ag (fun σ => fX9_years 0 a1 a2 σ) (fun σ => fX10_years 49 a1 a2 σ) := by
  intro σ hI
  obtain ⟨h, c1, c2, c3, i1, i2, i3, i4, i5, i6, i7⟩ := id hI
  have z2 := c3.1.2
  dsimp only
  have mm : ∀ τ : St, HM h τ → fX10_years 49 a1 a2 τ = if prP h a1 then (Option.bind (fX10_within a2 0 1 τ) fun q3 => if q3.1 = 0 then (some ((-1), q3.2)) else (if a2 = 0 then (Option.bind (fX10_wouldMiss 49 (i_div a1 10) (i_rem a1 10) q3.2) fun q5 => some (q5.1, q5.2)) else (Option.bind (fX10_bidOf 49 (i_div a1 10) (i_rem a1 10) q3.2) fun q4 => some (q4.1, q4.2)))) else some (-1, τ) := fun τ hm => pair10 (h := h) (A := fun τ => Option.bind (fX10_within a2 0 1 τ) fun q3 => if q3.1 = 0 then (some ((-1), q3.2)) else (if a2 = 0 then (Option.bind (fX10_wouldMiss 49 (i_div a1 10) (i_rem a1 10) q3.2) fun q5 => some (q5.1, q5.2)) else (Option.bind (fX10_bidOf 49 (i_div a1 10) (i_rem a1 10) q3.2) fun q4 => some (q4.1, q4.2)))) hm c3.1 ha1
  unfold fX9_years
  simp only [rfS, lnS]
  rw [pair9 c1 ha1]
  by_cases a : prP h a1
  case neg =>
    rw [if_neg a, b0]
    exact ⟨_, σ, σ, rfl, by rw [mm σ c2, if_neg a], hI⟩
  rw [if_pos a, b1]
  dsimp only
  by_cases w : 0 ≤ a2 ∧ a2 ≤ 1
  case neg =>
    refine ⟨-1, σ, σ, ?_, by rw [mm σ c2, if_pos a, within_eq, if_neg w, b0], hI⟩
    by_cases w0 : a2 < 0
    · rw [if_pos w0]
    · rw [if_neg w0, if_neg (by omega)]
  rw [if_neg (by omega), if_pos w.2]
  obtain ⟨b, t, d1, d2, hb, ht⟩ := pairN a
  obtain ⟨e1, e2⟩ := dv10 a.1 ha1
  rw [d1] at e1
  rw [d2] at e2
  rw [e1, e2]
  obtain ⟨E, τ, f, T, m, -, -, -, s⟩ := think c1 c2 c3 i7
  obtain ⟨τ1, f1, T1, W1, s1⟩ := considers_eq T ht
  rw [f, Option.bind_some, f1, Option.bind_some]
  have m1 : MC E h τ1 := m.keepC (fun d hd => s1 d (by omega))
  by_cases w0 : a2 = 0
  · rw [if_pos w0, if_pos ⟨by omega, by omega⟩, Int.toNat_natCast, W1 b hb]
    obtain ⟨τ2, f2, s2⟩ := wouldMiss_eq m1 hb ht
    refine ⟨_, τ1, τ2, rfl, ?_, ?_⟩
    · rw [mm τ1 m1.1, if_pos a, within_eq, if_pos w, b1]
      dsimp only
      rw [if_pos w0, e1, e2, f2, Option.bind_some]
    · exact inv_end ⟨c1, c3, i1, i2, i3, i4, i5, i6, i7⟩ (m1.same s2).1 (fun c j q => by rw [s2 c (by unfold scr at q; omega), s1 c (by unfold scr at q; omega), s c (by unfold scr at q; omega)])
  · rw [if_neg w0, bid_eq T1 hb (W1 b hb), Option.bind_some]
    obtain ⟨τ2, f2, s2⟩ := bidOf_eq m1 hb ht
    refine ⟨_, τ1, τ2, rfl, ?_, ?_⟩
    · rw [mm τ1 m1.1, if_pos a, within_eq, if_pos w, b1]
      dsimp only
      rw [if_neg w0, e1, e2, f2, Option.bind_some]
    · exact inv_end ⟨c1, c3, i1, i2, i3, i4, i5, i6, i7⟩ (m1.same s2).1 (fun c j q => by rw [s2 c (by unfold scr at q; omega), s1 c (by unfold scr at q; omega), s c (by unfold scr at q; omega)])
