/-! Done again. -/
theorem ag_redo  : Ag (fun σ => fX9_redo 0 σ) (fun σ => fX10_redo 49 σ) := by
  intro σ hI
  obtain ⟨h, c1, c2, c3, i1, i2, ⟨k, n, d1, d2, g1, g2, g3, g4, g5, g6⟩, i4, i5, i6, i7⟩ := id hI
  dsimp only
  unfold fX9_redo
  simp only [rfS, lnS]
  by_cases hd : k = n
  · rw [if_pos (by omega)]
    refine ⟨-5, σ, σ, rfl, ?_, hI⟩
    unfold fX10_redo
    rw [if_pos (by omega)]
  · rw [if_neg (by omega)]
    unfold fX0_remake
    simp only [rfS, lnS]
    obtain ⟨v1, v2, v3⟩ := g6 k (by omega)
    have e5 : i_mul (k : Int) 4 = ((4 * k : Nat) : Int) := by
      rw [im (ok_in (by omega) (by omega))]
      omega
    have e6 : i_add ((4 * k : Nat) : Int) 1 = ((4 * k + 1 : Nat) : Int) := by
      rw [ia (ok_in (by omega) (by omega))]
      omega
    have e7 : i_add ((4 * k : Nat) : Int) 3 = ((4 * k + 3 : Nat) : Int) := by
      rw [ia (ok_in (by omega) (by omega))]
      omega
    simp only [g1, e5, e6, e7, Int.toNat_natCast]
    rw [if_neg (by omega), if_neg (by omega), if_pos ⟨by omega, by omega⟩, if_pos ⟨by omega, by omega⟩, if_pos ⟨by omega, by omega⟩]
    obtain ⟨τ, f1, k1, s1⟩ := become_eq (i := σ 26 (4 * k)) (w := σ 26 (4 * k + 1)) (v := σ 26 (4 * k + 3)) (by decide +kernel) c1 c3.1
    rw [f1, Option.bind_some, Option.bind_some]
    have t1 : i_add (τ 25 1) 1 = ((k + 1 : Nat) : Int) := by
      rw [s1 25 ⟨by decide, by decide⟩, g1, ia (ok_in (by omega) (by omega))]
      omega
    have t2 : i_sub (up τ 25 1 ((k + 1 : Nat) : Int) 25 2) 1 = ((n - (k + 1) : Nat) : Int) := by
      rw [up_get, if_neg (by omega), s1 25 ⟨by decide, by decide⟩, g2, isb (ok_in (by omega) (by omega))]
      omega
    simp only [t1, t2]
    generalize hτ : up (up τ 25 1 ((k + 1 : Nat) : Int)) 25 2 ((n - (k + 1) : Nat) : Int) = τ2
    have y1 : τ2 25 1 = ((k + 1 : Nat) : Int) := by rw [← hτ]; simp [up]
    have y2 : τ2 25 2 = ((n - (k + 1) : Nat) : Int) := by rw [← hτ]; simp [up]
    have sm : ∀ c j : Nat, ¬ (c = 2 ∨ c = 3 ∨ c = 25) → τ2 c j = σ c j := by
      intro c j hc
      rw [← hτ, up_get, if_neg (by omega), up_get, if_neg (by omega), s1 c ⟨by show c ≠ 2; omega, by show c ≠ 3; omega⟩]
    have k1' : HC 1 (hset h (σ 26 (4 * k)) (σ 26 (4 * k + 1)) (σ 26 (4 * k + 3))) τ2 := HC1.keep (fun c j q => by
      unfold pH1 at q
      rw [← hτ, up_get, if_neg (by omega), up_get, if_neg (by omega)]) k1
    have m0 : HM h τ2 := HM.keep (fun c j q => sm c j (by unfold pHM at q; omega)) c2
    obtain ⟨ρ, f2, k2, s2⟩ := becomes_eq (i := σ 26 (4 * k)) (w := σ 26 (4 * k + 1)) (v := σ 26 (4 * k + 3)) m0 c3.1 v1
    have z1 : ρ 49 32 = (k : Int) := by
      rw [s2 49 (Or.inl (by decide)), sm 49 32 (by omega)]
      exact g3
    have z2 : ρ 49 31 = (n : Int) := by
      rw [s2 49 (Or.inl (by decide)), sm 49 31 (by omega)]
      exact g4
    refine ⟨((n - (k + 1) : Nat) : Int), τ2, up ρ 49 32 ((k + 1 : Nat) : Int), by rw [y2], ?_, ?_⟩
    · unfold fX10_redo
      simp only [rfS, lnS]
      have x0 : τ2 49 32 = (k : Int) := by
        rw [sm 49 32 (by omega)]
        exact g3
      have x00 : τ2 49 31 = (n : Int) := by
        rw [sm 49 31 (by omega)]
        exact g4
      have x3 : i_mul 4 (k : Int) = ((4 * k : Nat) : Int) := by
        rw [im (ok_in (by omega) (by omega))]
        omega
      have x4 : ∀ j, j < 160 → τ2 69 j = σ 26 j := fun j hj => by
        rw [sm 69 j (by omega)]
        exact (g5 j hj).symm
      simp only [x0, x00, x3, e6, e7, Int.toNat_natCast, x4 (4 * k) (by omega), x4 (4 * k + 1) (by omega), x4 (4 * k + 3) (by omega)]
      rw [if_neg (by omega), if_pos ⟨by omega, by omega⟩, if_pos ⟨by omega, by omega⟩, if_pos ⟨by omega, by omega⟩, f2, Option.bind_some]
      have w1 : i_add (ρ 49 32) 1 = ((k + 1 : Nat) : Int) := by
        rw [z1, ia (ok_in (by omega) (by omega))]
        omega
      have w2 : up ρ 49 32 ((k + 1 : Nat) : Int) 49 31 = (n : Int) := by
        rw [up_get, if_neg (by omega)]
        exact z2
      have w3 : up ρ 49 32 ((k + 1 : Nat) : Int) 49 32 = ((k + 1 : Nat) : Int) := by simp [up]
      have w4 : i_sub (n : Int) ((k + 1 : Nat) : Int) = ((n - (k + 1) : Nat) : Int) := by
        rw [isb (ok_in (by omega) (by omega))]
        omega
      simp only [w1, w2, w3, w4]
    · have s3 : ∀ c j : Nat, ¬ (c = 2 ∨ c = 3 ∨ c = 25 ∨ (50 ≤ c ∧ c ≤ 54) ∨ (c = 49 ∧ j = 32)) → up ρ 49 32 ((k + 1 : Nat) : Int) c j = σ c j := by
        intro c j hc
        rw [up_get, if_neg (by omega), s2 c (by omega), sm c j (by omega)]
      have r2 : ∀ c j : Nat, c < 50 → ¬ (c = 49 ∧ j = 32) → up ρ 49 32 ((k + 1 : Nat) : Int) c j = τ2 c j := by
        intro c j hc hj
        rw [up_get, if_neg (by omega), s2 c (Or.inl hc)]
      refine ⟨hset h (σ 26 (4 * k)) (σ 26 (4 * k + 1)) (σ 26 (4 * k + 3)), HC1.keep (fun c j q => r2 c j (by unfold pH1 at q; omega) (by unfold pH1 at q; omega)) k1', HM.keep (fun c j q => by unfold pHM at q; rw [up_get, if_neg (by omega)]) k2, c3.set v1 v3, i1.keep (fun c j q => s3 c j (by unfold pImg at q; omega)) (by rw [hset_n.1]; exact Nat.le_refl _) (by rw [hset_n.2]; exact Nat.le_refl _), i2.keep (fun c j q => s3 c j (by unfold pLed at q; omega)), ⟨k + 1, n, by omega, d2, ?_, ?_, ?_, ?_, fun j hj => ?_, fun q hq => ?_⟩, i4.keep (fun c j q => s3 c j (by unfold pTape at q; omega)), i5.keep (fun c j q => s3 c j (by unfold pLots at q; omega)), fun s hs => (i6 s hs).keep hs (fun c j q => s3 c j (by unfold pShelf at q; omega)), i7.keep (fun c j q => s3 c j (by unfold pLaw at q; omega))⟩
      · rw [r2 25 1 (by decide) (by omega), y1]
      · rw [r2 25 2 (by decide) (by omega), y2]
      · simp [up]
      · rw [s3 49 31 (by omega)]
        exact g4
      · rw [s3 26 j (by omega), s3 69 j (by omega)]
        exact g5 j hj
      · obtain ⟨w1, w2, w3⟩ := g6 q hq
        rw [s3 26 _ (by omega), s3 26 _ (by omega), s3 26 _ (by omega), s3 26 _ (by omega)]
        exact ⟨hOf_set.mpr w1, fitv_set.mpr w2, fitv_set.mpr w3⟩
