/-! A thing comes. -/
def hmore (h : Hs) : Hs := (h.1 + 1, h.2.1, h.2.2.1, h.2.2.2)
noncomputable def hadd (h : Hs) (x : Int) : Hs := hset (hset (hmore h) (h.1 : Int) 0 x) (h.1 : Int) 1 (-1)
theorem hadd_eq (h : Hs) (x : Int) : hadd h x = (h.1 + 1, h.2.1, up2 (up2 h.2.2.1 h.1 0 x) h.1 1 (-1), h.2.2.2) := by
  have e1 : hset (hmore h) (h.1 : Int) 0 x = (h.1 + 1, h.2.1, up2 h.2.2.1 h.1 0 x, h.2.2.2) := by
    unfold hset
    rw [if_pos (by simp only [hmore]; omega)]
    rfl
  unfold hadd
  rw [e1]
  unfold hset
  rw [if_pos (by dsimp only; omega)]
  rfl
theorem hadd_n {h : Hs} {x : Int} : (hadd h x).1 = h.1 + 1 ∧ (hadd h x).2.1 = h.2.1 := by
  unfold hadd
  rw [hset_n.1, hset_n.1, hset_n.2, hset_n.2]
  exact ⟨rfl, rfl⟩
theorem hadd_num {h : Hs} {x i w : Int} : hnum (hadd h x) i w = if i = (h.1 : Int) ∧ w = 1 then -1 else if i = (h.1 : Int) ∧ w = 0 then x else hnum (hmore h) i w := by
  unfold hadd
  rw [hnum_set (by rw [hOf_set]; left; simp only [hmore]; omega), hnum_set (by left; simp only [hmore]; omega)]
theorem hmore_num {h : Hs} {i w : Int} (hw : Wf h) (hi : i ≠ (h.1 : Int)) : hnum (hmore h) i w = hnum h i w := by
  unfold hnum hmore
  dsimp only
  by_cases a : 0 ≤ w ∧ w < 4 ∧ 0 ≤ i ∧ i < (h.1 : Int)
  · rw [if_pos a, if_pos (by omega)]
  · rw [if_neg a, if_neg (by omega)]
theorem Wf.add {h : Hs} {x : Int} (hw : Wf h) (h8 : h.1 < 8) (hx : 0 ≤ x ∧ x ≤ 3) : Wf (hadd h x) := by
  obtain ⟨z, a, b, f⟩ := id hw
  refine ⟨⟨by rw [hadd_n.1]; omega, by rw [hadd_n.2]; exact z.2⟩, fun t w ht => ?_, fun t w ht => ?_, fun i w hv => ?_⟩
  · rw [hadd_n.1] at ht
    have e := a t w (by omega)
    rw [hadd_eq]
    simp only [up2]
    rw [if_neg (by omega), if_neg (by omega)]
    exact e
  · rw [hadd_n.2] at ht
    have e := b t w ht
    rw [hadd_eq]
    exact e
  · rw [hadd_num]
    have e2 : fitv (hadd h x) w = fitv h w := by
      funext v
      unfold fitv
      rw [hadd_n.2]
    rw [e2]
    unfold hOf at hv
    rw [hadd_n.1, hadd_n.2] at hv
    by_cases c1 : i = (h.1 : Int) ∧ w = 1
    · rw [if_pos c1]
      exact Or.inl ⟨c1.2, Or.inl rfl⟩
    rw [if_neg c1]
    by_cases c2 : i = (h.1 : Int) ∧ w = 0
    · rw [if_pos c2]
      refine Or.inr ⟨by omega, hx.1, ?_⟩
      rw [c2.2]
      exact hx.2
    rw [if_neg c2]
    by_cases c3 : i = (h.1 : Int)
    · by_cases c4 : w < 4
      · have e : hnum (hmore h) i w = 0 := by
          unfold hnum
          rw [if_pos (by simp only [hmore]; omega)]
          exact a _ _ (by omega)
        rw [e]
        have hw4 : w = 2 ∨ w = 3 := by omega
        refine Or.inr ⟨by omega, Int.le_refl _, ?_⟩
        rcases hw4 with rfl | rfl <;> decide
      · have e : hnum (hmore h) i w = hnum h i w := by
          unfold hnum hmore
          dsimp only
          rw [if_neg (show ¬ (0 ≤ w ∧ w < 4 ∧ 0 ≤ i ∧ i < ((h.1 + 1 : Nat) : Int)) by omega), if_neg (show ¬ (0 ≤ w ∧ w < 4 ∧ 0 ≤ i ∧ i < (h.1 : Int)) by omega)]
        rw [e]
        exact f i w (Or.inr (by omega))
    · rw [hmore_num hw c3]
      exact f i w (by unfold hOf; omega)
theorem ag_thing (a1 : Int) (ha1 : ok32 a1) : Ag (fun σ => fX9_thing 0 a1 σ) (fun σ => fX10_thing 49 a1 σ) := by
  intro σ hI
  obtain ⟨h, c1, c2, c3, i1, i2, i3, i4, i5, i6, i7⟩ := id hI
  dsimp only
  unfold fX9_thing
  simp only [rfS]
  by_cases a : 0 ≤ a1 ∧ a1 ≤ 3
  · rw [if_neg (by omega), if_pos (by omega)]
    unfold fX2_addThing
    have n8 := c3.1.1
    simp only [c1.1]
    by_cases hn : h.1 = 8
    · rw [if_neg (by omega), Option.bind_some]
      refine ⟨_, σ, σ, rfl, ?_, hI⟩
      unfold fX10_thing
      rw [within_eq, if_pos a, b1]
      simp only [c2.1]
      rw [if_pos (by omega)]
    · rw [if_pos (by omega), ia (ok_in (by omega) (by omega))]
      have k0 : HC 1 (hmore h) (up σ 1 2 ((h.1 : Int) + 1)) := by
        obtain ⟨q1, q2, q3, q4⟩ := c1
        refine ⟨by simp [up, hmore], by simp [up, hmore, q2], fun t w ht hw => ?_, fun t w ht hw => ?_⟩
        · show up σ 1 2 _ 2 _ = _
          rw [up_ne (by decide)]
          exact q3 t w ht hw
        · show up σ 1 2 _ 3 _ = _
          rw [up_ne (by decide)]
          exact q4 t w ht hw
      have z0 : Hz (hmore h) := ⟨by simp only [hmore]; omega, c3.1.2⟩
      obtain ⟨τ1, f1, k1, s1⟩ := become_eq (i := (h.1 : Int)) (w := 0) (v := a1) (by decide +kernel) k0 z0
      obtain ⟨τ2, f2, k2, s2⟩ := become_eq (i := (h.1 : Int)) (w := 1) (v := -1) (by decide +kernel) k1 ⟨by rw [hset_n.1]; exact z0.1, by rw [hset_n.2]; exact z0.2⟩
      rw [f1, Option.bind_some, f2, Option.bind_some, Option.bind_some]
      have sm : ∀ c j : Nat, c ≠ 1 → c ≠ 2 → c ≠ 3 → τ2 c j = σ c j := by
        intro c j x1 x2 x3
        rw [s2 c ⟨x2, x3⟩, s1 c ⟨x2, x3⟩, up_ne x1]
      refine ⟨(h.1 : Int), τ2, up (up (up (up (up τ2 50 (Int.toNat (h.1 : Int)) a1) 51 (Int.toNat (h.1 : Int)) (-1)) 52 (Int.toNat (h.1 : Int)) 0) 53 (Int.toNat (h.1 : Int)) 0) 49 0 ((h.1 : Int) + 1), rfl, ?_, ?_⟩
      · unfold fX10_thing fX10_thing_53 fX10_thing_63
        rw [within_eq, if_pos a, b1]
        have e0 : τ2 49 0 = (h.1 : Int) := by rw [sm _ _ (by decide) (by decide) (by decide)]; exact c2.1
        simp only [rfS, lnS, up_get, e0]
        simp only [show ¬ ((49 : Nat) = 50 ∧ (0 : Nat) = Int.toNat (h.1 : Int)) from fun q => absurd q.1 (by decide), show ¬ ((49 : Nat) = 51 ∧ (0 : Nat) = Int.toNat (h.1 : Int)) from fun q => absurd q.1 (by decide), show ¬ ((49 : Nat) = 52 ∧ (0 : Nat) = Int.toNat (h.1 : Int)) from fun q => absurd q.1 (by decide), show ¬ ((49 : Nat) = 53 ∧ (0 : Nat) = Int.toNat (h.1 : Int)) from fun q => absurd q.1 (by decide), if_false]
        rw [if_neg (by omega), if_pos ⟨by omega, by omega⟩, if_pos ⟨by omega, by omega⟩, if_pos ⟨by omega, by omega⟩, if_pos ⟨by omega, by omega⟩, ia (ok_in (by omega) (by omega))]
      · have ag : ∀ c j : Nat, ¬ (c = 1 ∨ c = 2 ∨ c = 3 ∨ c = 50 ∨ c = 51 ∨ c = 52 ∨ c = 53 ∨ (c = 49 ∧ j = 0)) → up (up (up (up (up τ2 50 (Int.toNat (h.1 : Int)) a1) 51 (Int.toNat (h.1 : Int)) (-1)) 52 (Int.toNat (h.1 : Int)) 0) 53 (Int.toNat (h.1 : Int)) 0) 49 0 ((h.1 : Int) + 1) c j = σ c j := by
          intro c j hcj
          rw [up_get, if_neg (by omega), up_get, if_neg (by omega), up_get, if_neg (by omega), up_get, if_neg (by omega), up_get, if_neg (by omega), sm c j (by omega) (by omega) (by omega)]
        refine inv_up (h := h) (h' := hadd h a1) ⟨i1, i3, i4, i5, i6, i7⟩ (fun c j q => ag c j (by unfold pRest pImg pChg pTape pLots pShelf pLaw at q; omega)) ?_ ?_ (c3.add (by omega) a) (by rw [hadd_n.1]; omega) (by rw [hadd_n.2]; exact Nat.le_refl _) (i2.keep (fun c j q => ag c j (by unfold pLed at q; omega)))
        · obtain ⟨q1, q2, q3, q4⟩ := k2
          refine ⟨?_, ?_, fun t w ht hw => ?_, fun t w ht hw => ?_⟩
          · rw [up_ne (by decide), up_ne (by decide), up_ne (by decide), up_ne (by decide), up_ne (by decide)]; exact q1
          · rw [up_ne (by decide), up_ne (by decide), up_ne (by decide), up_ne (by decide), up_ne (by decide)]; exact q2
          · have := q3 t w ht hw
            show up _ 49 0 _ 2 _ = _
            rw [up_ne (by decide), up_ne (by decide), up_ne (by decide), up_ne (by decide), up_ne (by decide)]; exact this
          · have := q4 t w ht hw
            show up _ 49 0 _ 3 _ = _
            rw [up_ne (by decide), up_ne (by decide), up_ne (by decide), up_ne (by decide), up_ne (by decide)]; exact this
        · obtain ⟨q1, q2, q3, q4⟩ := c2
          have tb : ∀ t w : Nat, (hadd h a1).2.2.1 t w = if t = h.1 ∧ w = 1 then -1 else if t = h.1 ∧ w = 0 then a1 else h.2.2.1 t w := by
            intro t w
            rw [hadd_eq]
            rfl
          have tc : ∀ t w : Nat, (hadd h a1).2.2.2 t w = h.2.2.2 t w := by
            intro t w
            rw [hadd_eq]
          refine ⟨?_, ?_, fun t ht => ?_, fun b w hb hw => ?_⟩
          · rw [hadd_n.1]
            simp [up]
          · rw [hadd_n.2, ag 49 5 (by omega)]
            exact q2
          · obtain ⟨x1, x2, x3, x4⟩ := q3 t ht
            rw [← sm 50 t (by decide) (by decide) (by decide)] at x1
            rw [← sm 51 t (by decide) (by decide) (by decide)] at x2
            rw [← sm 52 t (by decide) (by decide) (by decide)] at x3
            rw [← sm 53 t (by decide) (by decide) (by decide)] at x4
            have y2 := c3.2.1 t 2
            have y3 := c3.2.1 t 3
            rw [tb, tb, tb, tb]
            simp only [up, Int.toNat_natCast]
            by_cases ht2 : t = h.1
            · subst ht2
              simp [y2, y3]
            · simp [ht2, x1, x2, x3, x4]
          · rw [tc, ag 54 _ (by omega)]
            exact q4 b w hb hw
  · refine ⟨-1, σ, σ, ?_, ?_, hI⟩
    · split
      · rfl
      · rw [if_neg (by omega)]
    · unfold fX10_thing
      rw [within_eq, if_neg a, b0]
