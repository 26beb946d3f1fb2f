/-! One slips or no longer; the list of deeds. -/
theorem hasBidder_eq {c : Nat} {h : Hs} {σ : St} {i : Int} (hh : HC c h σ) : fX2_hasBidder c i σ = some (if 0 ≤ i ∧ i < (h.2.1 : Int) then 1 else 0, σ) := by
  unfold fX2_hasBidder
  rw [hh.2.1]
  by_cases a : 0 ≤ i ∧ i < (h.2.1 : Int)
  · rw [if_pos a, if_neg (by omega), if_neg (by omega)]
  · rw [if_neg a]
    split
    · rfl
    · rw [if_pos (by omega)]
theorem hasThing_eq {c : Nat} {h : Hs} {σ : St} {i : Int} (hh : HC c h σ) : fX2_hasThing c i σ = some (if 0 ≤ i ∧ i < (h.1 : Int) then 1 else 0, σ) := by
  unfold fX2_hasThing
  rw [hh.1]
  by_cases a : 0 ≤ i ∧ i < (h.1 : Int)
  · rw [if_pos a, if_neg (by omega), if_neg (by omega)]
  · rw [if_neg a]
    split
    · rfl
    · rw [if_pos (by omega)]
/-- the model's numbers of bidders, one written -/
theorem HM_way {h : Hs} {σ : St} {i w v : Int} (hh : HM h σ) (a : 4 ≤ w ∧ w < 13 ∧ 0 ≤ i ∧ i < (h.2.1 : Int)) (z2 : h.2.1 ≤ 7) : HM (hset h i w v) (up σ 54 (7 * (w - 4) + i).toNat v) := by
  obtain ⟨e1, e2, e3, e4⟩ := hh
  unfold hset
  rw [if_neg (show ¬ (0 ≤ w ∧ w < 4 ∧ 0 ≤ i ∧ i < (h.1 : Int)) by omega), if_pos a]
  refine ⟨?_, ?_, fun t ht => ?_, fun b q hb hq => ?_⟩
  · rw [up_ne (by decide)]; exact e1
  · rw [up_ne (by decide)]; exact e2
  · have e5 := e3 t ht
    exact ⟨by rw [up_ne (by decide)]; exact e5.1, by rw [up_ne (by decide)]; exact e5.2.1, by rw [up_ne (by decide)]; exact e5.2.2.1, by rw [up_ne (by decide)]; exact e5.2.2.2⟩
  · have e5 := e4 b q hb hq
    show (if 54 = 54 ∧ 7 * q + b = (7 * (w - 4) + i).toNat then v else σ 54 (7 * q + b)) = if b = i.toNat ∧ q = (w - 4).toNat then v else h.2.2.2 b q
    by_cases hk : b = i.toNat ∧ q = (w - 4).toNat
    · rw [if_pos hk, if_pos ⟨rfl, by omega⟩]
    · rw [if_neg hk, if_neg (fun z => hk (by omega)), e5]
theorem way_num {h : Hs} {σ : St} {i w : Int} (hh : HM h σ) (a : 4 ≤ w ∧ w < 13 ∧ 0 ≤ i ∧ i < (h.2.1 : Int)) (z2 : h.2.1 ≤ 7) : σ 54 (7 * (w - 4) + i).toNat = hnum h i w := by
  have e5 := hh.2.2.2 i.toNat (w - 4).toNat (by omega) (by omega)
  rw [show 7 * (w - 4).toNat + i.toNat = (7 * (w - 4) + i).toNat by omega] at e5
  rw [e5]
  unfold hnum
  rw [if_neg (show ¬ (0 ≤ w ∧ w < 4 ∧ 0 ≤ i ∧ i < (h.1 : Int)) by omega), if_pos a]
theorem ag_slip (a1 : Int) (a2 : Int) (ha1 : ok32 a1) (ha2 : ok32 a2) : Ag (fun σ => fX9_slip 0 a1 a2 σ) (fun σ => fX10_slip 49 a1 a2 σ) := by
  intro σ hI
  obtain ⟨h, c1, c2, c3, i1, i2, i3, i4, i5, i6, i7⟩ := id hI
  have z2 := c3.1.2
  dsimp only
  unfold fX9_slip
  simp only [rfS, lnS]
  rw [hasBidder_eq c1]
  by_cases a : 0 ≤ a1 ∧ a1 < (h.2.1 : Int)
  · rw [if_pos a, b1]
    dsimp only
    by_cases b : 0 ≤ a2 ∧ a2 ≤ 1
    · rw [if_neg (by omega), if_pos b.2, number_eq (by decide +kernel) c1 c3.1, Option.bind_some]
      dsimp only
      obtain ⟨τ, f1, k1, s1⟩ := become_eq (i := a1) (w := 8) (v := a2) (by decide +kernel) c1 c3.1
      rw [f1, Option.bind_some, if_pos ⟨by decide, by decide⟩, if_pos ⟨by decide, by decide⟩]
      have sm : ∀ c j : Nat, c ≠ 2 → c ≠ 3 → τ c j = σ c j := fun c j x1 x2 => by rw [s1 c ⟨x1, x2⟩]
      have hv : hOf h a1 8 := Or.inr (by omega)
      refine ⟨hnum h a1 8, up τ 35 3 (i_add (τ 35 3) a2), up (up (up τ 35 3 (i_add (τ 35 3) a2)) 54 (7 * (8 - 4) + a1).toNat a2) 66 3 (i_add (τ 66 3) a2), rfl, ?_, ?_⟩
      · unfold fX10_slip
        have m2 : HM h (up τ 35 3 (i_add (τ 35 3) a2)) := HM.keep (fun c j q => by
          unfold pHM at q
          rw [up_get, if_neg (by omega)]
          exact sm c j (by omega) (by omega)) c2
        rw [isOne_eq m2 c3.1, if_pos a, b1]
        dsimp only
        rw [within_eq, if_pos b, b1]
        simp only [rfS, lnS]
        have e28 : i_add 28 a1 = 7 * (8 - 4) + a1 := by
          rw [ia (ok_in (by omega) (by omega))]
          omega
        simp only [e28]
        rw [if_pos ⟨by omega, by omega⟩, if_pos ⟨by omega, by omega⟩, if_pos ⟨by decide, by decide⟩, if_pos ⟨by decide, by decide⟩, way_num m2 (by omega) z2]
        rfl
      · have ag : ∀ c j : Nat, ¬ (c = 2 ∨ c = 3 ∨ c = 35 ∨ c = 54 ∨ c = 66) → up (up (up τ 35 3 (i_add (τ 35 3) a2)) 54 (7 * (8 - 4) + a1).toNat a2) 66 3 (i_add (τ 66 3) a2) c j = σ c j := by
          intro c j hcj
          rw [up_get, if_neg (by omega), up_get, if_neg (by omega), up_get, if_neg (by omega), sm c j (by omega) (by omega)]
        refine inv_up (h := h) (h' := hset h a1 8 a2) ⟨i1, i3, i4, i5, i6, i7⟩ (fun c j q => ag c j (by unfold pRest pImg pChg pTape pLots pShelf pLaw at q; omega)) ?_ ?_ (c3.set hv (Or.inr ⟨by decide, b.1, b.2⟩)) (by rw [hset_n.1]; exact Nat.le_refl _) (by rw [hset_n.2]; exact Nat.le_refl _) ?_
        · refine HC1.keep (fun c j q => ?_) k1
          unfold pH1 at q
          rw [up_get, if_neg (by omega), up_get, if_neg (by omega), up_get, if_neg (by omega)]
        · have m2 : HM h (up τ 35 3 (i_add (τ 35 3) a2)) := HM.keep (fun c j q => by
            unfold pHM at q
            rw [up_get, if_neg (by omega)]
            exact sm c j (by omega) (by omega)) c2
          refine HM.keep (fun c j q => ?_) (HM_way m2 (i := a1) (w := 8) (v := a2) (by omega) z2)
          unfold pHM at q
          rw [up_get, if_neg (by omega)]
        · intro i hi
          have e := i2 i hi
          rw [← sm 35 i (by decide) (by decide), ← sm 66 i (by decide) (by decide)] at e
          have e3 := i2 3 (by decide)
          rw [← sm 35 3 (by decide) (by decide), ← sm 66 3 (by decide) (by decide)] at e3
          simp only [up]
          by_cases h3 : i = 3
          · simp [h3, e3]
          · simp [h3, e]
    · refine ⟨-1, σ, σ, ?_, ?_, hI⟩
      · split
        · rfl
        · rw [if_neg (by omega)]
      · unfold fX10_slip
        rw [isOne_eq c2 c3.1, if_pos a, b1]
        dsimp only
        rw [within_eq, if_neg b, b0]
  · rw [if_neg a, b0]
    refine ⟨-1, σ, σ, rfl, ?_, hI⟩
    unfold fX10_slip
    rw [isOne_eq c2 c3.1, if_neg a, b0]
