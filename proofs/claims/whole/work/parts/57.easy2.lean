/-! The tape's and the lots' small deeds; a thing comes. -/
theorem up_get {σ : St} {c j a b : Nat} {x : Int} : up σ c j x a b = if a = c ∧ b = j then x else σ a b := rfl
theorem ag_feed (a1 : Int) (ha1 : ok32 a1) : Ag (fun σ => fX9_feed 0 a1 σ) (fun σ => fX10_feed 49 a1 σ) := by
  intro σ hI
  obtain ⟨h, c1, c2, c3, i1, i2, i3, ⟨n, n1, n2, n3, n4⟩, i5, i6, i7⟩ := id hI
  dsimp only
  unfold fX9_feed fX10_feed fX4_isTapeFull fX4_comes
  simp only [rfS, lnS]
  by_cases a : 0 ≤ a1 ∧ a1 ≤ 255
  · rw [if_neg (by omega), if_pos a.2, n2]
    by_cases hn : n = 120
    · rw [if_neg (by omega), b1]
      refine ⟨_, σ, σ, rfl, ?_, hI⟩
      rw [within_eq, if_pos a, b1]
      dsimp only
      simp only [n3]
      rw [if_pos (by omega)]
    · rw [if_pos (by omega), b0]
      dsimp only
      simp only [n2]
      rw [if_neg (by omega), if_pos ⟨by omega, by omega⟩, Option.bind_some]
      have e4 : i_add (up σ 5 (Int.toNat (n : Int)) a1 4 5) 1 = (n : Int) + 1 := by
        rw [up_ne (by decide), n2, ia (ok_in (by omega) (by omega))]
      rw [e4]
      refine ⟨(n : Int) + 1, up (up σ 5 (Int.toNat (n : Int)) a1) 4 5 ((n : Int) + 1), up (up (up (up σ 5 (Int.toNat (n : Int)) a1) 4 5 ((n : Int) + 1)) 49 7 ((n : Int) + 1)) 55 (Int.toNat (n : Int)) a1, by simp [up], ?_, ?_⟩
      · rw [within_eq, if_pos a, b1]
        dsimp only
        have e7 : up (up σ 5 (Int.toNat (n : Int)) a1) 4 5 ((n : Int) + 1) 49 7 = (n : Int) := by
          rw [up_ne (by decide), up_ne (by decide), n3]
        simp only [e7]
        rw [if_neg (by omega), if_pos ⟨by omega, by omega⟩, ia (ok_in (by omega) (by omega))]
        simp [up]
      · have ag : ∀ c j : Nat, ¬ (c = 5 ∨ c = 55 ∨ (c = 4 ∧ j = 5) ∨ (c = 49 ∧ j = 7)) → up (up (up (up σ 5 (Int.toNat (n : Int)) a1) 4 5 ((n : Int) + 1)) 49 7 ((n : Int) + 1)) 55 (Int.toNat (n : Int)) a1 c j = σ c j := by
          intro c j hcj
          rw [up_get, if_neg (by omega), up_get, if_neg (by omega), up_get, if_neg (by omega), up_get, if_neg (by omega)]
        refine ⟨h, HC1.keep (fun c j q => ag c j (by unfold pH1 at q; omega)) c1, HM.keep (fun c j q => ag c j (by unfold pHM at q; omega)) c2, c3, i1.keep (fun c j q => ag c j (by unfold pImg at q; omega)) (Nat.le_refl _) (Nat.le_refl _), i2.keep (fun c j q => ag c j (by unfold pLed at q; omega)), i3.keep (fun c j q => ag c j (by unfold pChg at q; omega)) (Nat.le_refl _) (Nat.le_refl _), ⟨n + 1, by omega, ?_, ?_, fun j hj => ?_⟩, i5.keep (fun c j q => ag c j (by unfold pLots at q; omega)), fun s hs => (i6 s hs).keep hs (fun c j q => ag c j (by unfold pShelf at q; omega)), i7.keep (fun c j q => ag c j (by unfold pLaw at q; omega))⟩
        · rw [up_ne (by decide), up_ne (by decide)]
          simp [up]
        · rw [up_ne (by decide)]
          simp [up]
        · have e1 := n4 j hj
          simp only [up, Int.toNat_natCast]
          by_cases hj2 : j = n
          · simp [hj2]
            omega
          · simpa [hj2] using e1
  · refine ⟨-1, σ, σ, ?_, ?_, hI⟩
    · split
      · rfl
      · rw [if_neg (by omega)]
    · rw [within_eq, if_neg a, b0]
theorem ag_body (a1 : Int) (ha1 : ok32 a1) : Ag (fun σ => fX9_body 0 a1 σ) (fun σ => fX10_body 49 a1 σ) := by
  intro σ hI
  obtain ⟨h, c1, c2, c3, i1, i2, i3, i4, ⟨n, n1, n2, n3, n4, n5, n6, n7, n8⟩, i6, i7⟩ := id hI
  dsimp only
  unfold fX9_body fX10_body fX5_isFull fX5_add
  simp only [rfS, lnS]
  by_cases a : 0 ≤ a1 ∧ a1 ≤ 7
  · rw [if_neg (by omega), if_pos (by omega), n2]
    by_cases hn : n = 50
    · rw [if_neg (by omega), b1]
      refine ⟨_, σ, σ, rfl, ?_, hI⟩
      rw [within_eq, if_pos a, b1]
      dsimp only
      simp only [n3]
      rw [if_pos (by omega)]
    · rw [if_pos (by omega), b0]
      dsimp only
      simp only [n2]
      rw [if_neg (by omega), if_pos ⟨by omega, by omega⟩, Option.bind_some]
      have e4 : i_add (up σ 33 (Int.toNat (n : Int)) a1 32 2) 1 = (n : Int) + 1 := by
        rw [up_ne (by decide), n2, ia (ok_in (by omega) (by omega))]
      rw [e4]
      refine ⟨(n : Int), _, up (up (up (up σ 33 (Int.toNat (n : Int)) a1) 32 2 ((n : Int) + 1)) 70 (Int.toNat (n : Int)) a1) 49 34 ((n : Int) + 1), rfl, ?_, ?_⟩
      · rw [within_eq, if_pos a, b1]
        dsimp only
        have e7 : up (up σ 33 (Int.toNat (n : Int)) a1) 32 2 ((n : Int) + 1) 49 34 = (n : Int) := by
          rw [up_ne (by decide), up_ne (by decide), n3]
        simp only [e7]
        rw [if_neg (by omega), if_pos ⟨by omega, by omega⟩]
        have e8 : up (up (up σ 33 (Int.toNat (n : Int)) a1) 32 2 ((n : Int) + 1)) 70 (Int.toNat (n : Int)) a1 49 34 = (n : Int) := by
          rw [up_ne (by decide), e7]
        rw [e8, ia (ok_in (by omega) (by omega))]
      · have ag : ∀ c j : Nat, ¬ (c = 33 ∨ c = 70 ∨ (c = 32 ∧ j = 2) ∨ (c = 49 ∧ j = 34)) → up (up (up (up σ 33 (Int.toNat (n : Int)) a1) 32 2 ((n : Int) + 1)) 70 (Int.toNat (n : Int)) a1) 49 34 ((n : Int) + 1) c j = σ c j := by
          intro c j hcj
          rw [up_get, if_neg (by omega), up_get, if_neg (by omega), up_get, if_neg (by omega), up_get, if_neg (by omega)]
        have e32 : up (up (up (up σ 33 (Int.toNat (n : Int)) a1) 32 2 ((n : Int) + 1)) 70 (Int.toNat (n : Int)) a1) 49 34 ((n : Int) + 1) 32 2 = (n : Int) + 1 := by
          simp [up]
        refine ⟨h, HC1.keep (fun c j q => ag c j (by unfold pH1 at q; omega)) c1, HM.keep (fun c j q => ag c j (by unfold pHM at q; omega)) c2, c3, i1.keep (fun c j q => ag c j (by unfold pImg at q; omega)) (Nat.le_refl _) (Nat.le_refl _), i2.keep (fun c j q => ag c j (by unfold pLed at q; omega)), i3.keep (fun c j q => ag c j (by unfold pChg at q; omega)) (Nat.le_refl _) (Nat.le_refl _), i4.keep (fun c j q => ag c j (by unfold pTape at q; omega)), ⟨n + 1, by omega, ?_, ?_, fun j hj => ?_, ?_, ?_, ?_, fun j hj => ?_⟩, fun s hs => ?_, i7.keep (fun c j q => ag c j (by unfold pLaw at q; omega))⟩
        · rw [e32]
          omega
        · simp [up]
        · have e1 := n4 j hj
          simp only [up, Int.toNat_natCast]
          by_cases hj2 : j = n
          · simp [hj2]
            omega
          · simpa [hj2] using e1
        · rw [ag 32 3 (by omega), ag 49 36 (by omega)]
          exact n5
        · rw [ag 32 3 (by omega)]
          exact n6
        · rw [ag 32 3 (by omega)]
          exact n7
        · rw [ag 34 j (by omega), ag 71 j (by omega)]
          exact n8 j hj
        · have k := i6 s hs
          unfold InvShelf at *
          rw [e32, ag (37 + 2 * s) 1 (by omega), ag (37 + 2 * s) 2 (by omega), ag (37 + 2 * s) 3 (by omega), ag (37 + 2 * s) 4 (by omega), ag 72 s (by omega), ag 73 s (by omega)]
          rw [n2] at k
          refine ⟨?_, k.2.1, k.2.2.1, k.2.2.2.1, fun j hj => by rw [ag (38 + 2 * s) j (by omega), ag 74 _ (by omega)]; exact k.2.2.2.2 j hj⟩
          rcases k.1 with q | q | q
          · exact Or.inl q
          · exact Or.inr (Or.inl ⟨q.1, q.2.1, q.2.2.1, by omega⟩)
          · exact Or.inr (Or.inr q)
  · refine ⟨-1, σ, σ, ?_, ?_, hI⟩
    · split
      · rfl
      · rw [if_neg (by omega)]
    · rw [within_eq, if_neg a, b0]
