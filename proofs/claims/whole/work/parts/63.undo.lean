/-! Undone, done again. -/
theorem ag_undo  : Ag (fun σ => fX9_undo 0 σ) (fun σ => fX10_undo 49 σ) := by
  intro σ hI
  obtain ⟨h, c1, c2, c3, i1, i2, ⟨d, n, d1, d2, g1, g2, g3, g4, g5, g6⟩, i4, i5, i6, i7⟩ := id hI
  dsimp only
  unfold fX9_undo
  simp only [rfS, lnS]
  by_cases hd : d = 0
  · rw [if_pos (by omega)]
    refine ⟨-5, σ, σ, rfl, ?_, hI⟩
    unfold fX10_undo
    rw [if_pos (by omega)]
  · rw [if_neg (by omega)]
    unfold fX0_unmake
    simp only [rfS, lnS]
    obtain ⟨k, rfl⟩ : ∃ k : Nat, d = k + 1 := ⟨d - 1, by omega⟩
    obtain ⟨v1, v2, v3⟩ := g6 k (by omega)
    have e1 : i_sub (σ 25 1) 1 = (k : Int) := by
      rw [g1, isb (ok_in (by omega) (by omega))]
      omega
    have e2 : i_add (σ 25 2) 1 = ((n - k : Nat) : Int) := by
      rw [g2, ia (ok_in (by omega) (by omega))]
      omega
    have e3 : up σ 25 1 (k : Int) 25 2 = σ 25 2 := by simp [up]
    have e4 : up (up σ 25 1 (k : Int)) 25 2 ((n - k : Nat) : Int) 25 1 = (k : Int) := by simp [up]
    have e5 : i_mul (k : Int) 4 = ((4 * k : Nat) : Int) := by
      rw [im (ok_in (by omega) (by omega))]
      omega
    have e6 : i_add ((4 * k : Nat) : Int) 1 = ((4 * k + 1 : Nat) : Int) := by
      rw [ia (ok_in (by omega) (by omega))]
      omega
    have e7 : i_add ((4 * k : Nat) : Int) 2 = ((4 * k + 2 : Nat) : Int) := by
      rw [ia (ok_in (by omega) (by omega))]
      omega
    have e8 : ∀ j, up (up σ 25 1 (k : Int)) 25 2 ((n - k : Nat) : Int) 26 j = σ 26 j := fun j => by rw [up_ne (by decide), up_ne (by decide)]
    simp only [e1, e3, e2, e4, e5, e6, e7, e8, Int.toNat_natCast]
    rw [if_neg (by omega), if_pos ⟨by omega, by omega⟩, if_pos ⟨by omega, by omega⟩, if_pos ⟨by omega, by omega⟩]
    have k0 : HC 1 h (up (up σ 25 1 (k : Int)) 25 2 ((n - k : Nat) : Int)) := HC1.keep (fun c j q => by
      unfold pH1 at q
      rw [up_get, if_neg (by omega), up_get, if_neg (by omega)]) c1
    obtain ⟨τ, f1, k1, s1⟩ := become_eq (i := σ 26 (4 * k)) (w := σ 26 (4 * k + 1)) (v := σ 26 (4 * k + 2)) (by decide +kernel) k0 c3.1
    rw [f1, Option.bind_some, Option.bind_some]
    have t1 : τ 25 1 = (k : Int) := by
      rw [s1 25 ⟨by decide, by decide⟩]
      exact e4
    have t2 : τ 25 2 = ((n - k : Nat) : Int) := by
      rw [s1 25 ⟨by decide, by decide⟩]
      simp [up]
    have sm : ∀ c j : Nat, ¬ (c = 2 ∨ c = 3 ∨ c = 25) → τ c j = σ c j := by
      intro c j hc
      rw [s1 c ⟨by show c ≠ 2; omega, by show c ≠ 3; omega⟩, up_get, if_neg (by omega), up_get, if_neg (by omega)]
    have m0 : HM h (up τ 49 32 (k : Int)) := HM.keep (fun c j q => by
      unfold pHM at q
      rw [up_get, if_neg (by omega)]
      exact sm c j (by omega)) c2
    obtain ⟨ρ, f2, k2, s2⟩ := becomes_eq (i := σ 26 (4 * k)) (w := σ 26 (4 * k + 1)) (v := σ 26 (4 * k + 2)) m0 c3.1 v1
    refine ⟨(k : Int), τ, ρ, by rw [t1], ?_, ?_⟩
    · unfold fX10_undo
      simp only [rfS, lnS]
      have x0 : τ 49 32 = ((k + 1 : Nat) : Int) := by
        rw [sm 49 32 (by omega)]
        exact g3
      have x1 : i_sub ((k + 1 : Nat) : Int) 1 = (k : Int) := by
        rw [isb (ok_in (by omega) (by omega))]
        omega
      have x2 : up τ 49 32 (k : Int) 49 32 = (k : Int) := by simp [up]
      have x3 : i_mul 4 (k : Int) = ((4 * k : Nat) : Int) := by
        rw [im (ok_in (by omega) (by omega))]
        omega
      have x4 : ∀ j, j < 160 → up τ 49 32 (k : Int) 69 j = σ 26 j := fun j hj => by
        rw [up_ne (by decide), sm 69 j (by omega)]
        exact (g5 j hj).symm
      simp only [x0, x1, x2, x3, e6, e7, Int.toNat_natCast, x4 (4 * k) (by omega), x4 (4 * k + 1) (by omega), x4 (4 * k + 2) (by omega)]
      rw [if_neg (by omega), if_pos ⟨by omega, by omega⟩, if_pos ⟨by omega, by omega⟩, if_pos ⟨by omega, by omega⟩, f2, Option.bind_some]
      rw [s2 49 (Or.inl (by decide))]
      simp [up]
    · have s3 : ∀ c j : Nat, ¬ (c = 2 ∨ c = 3 ∨ c = 25 ∨ (50 ≤ c ∧ c ≤ 54) ∨ (c = 49 ∧ j = 32)) → ρ c j = σ c j := by
        intro c j hc
        rw [s2 c (by omega), up_get, if_neg (by omega), sm c j (by omega)]
      have r2 : ∀ c j : Nat, c < 50 → ¬ (c = 49 ∧ j = 32) → ρ c j = τ c j := by
        intro c j hc hj
        rw [s2 c (Or.inl hc), up_get, if_neg (by omega)]
      refine ⟨hset h (σ 26 (4 * k)) (σ 26 (4 * k + 1)) (σ 26 (4 * k + 2)), HC1.keep (fun c j q => r2 c j (by unfold pH1 at q; omega) (by unfold pH1 at q; omega)) k1, k2, c3.set v1 v2, i1.keep (fun c j q => s3 c j (by unfold pImg at q; omega)) (by rw [hset_n.1]; exact Nat.le_refl _) (by rw [hset_n.2]; exact Nat.le_refl _), i2.keep (fun c j q => s3 c j (by unfold pLed at q; omega)), ⟨k, n, by omega, d2, ?_, ?_, ?_, ?_, fun j hj => ?_, fun q hq => ?_⟩, i4.keep (fun c j q => s3 c j (by unfold pTape at q; omega)), i5.keep (fun c j q => s3 c j (by unfold pLots at q; omega)), fun s hs => (i6 s hs).keep hs (fun c j q => s3 c j (by unfold pShelf at q; omega)), i7.keep (fun c j q => s3 c j (by unfold pLaw at q; omega))⟩
      · rw [r2 25 1 (by decide) (by omega), t1]
      · rw [r2 25 2 (by decide) (by omega), t2]
      · rw [s2 49 (Or.inl (by decide))]
        simp [up]
      · rw [s3 49 31 (by omega)]
        exact g4
      · rw [s3 26 j (by omega), s3 69 j (by omega)]
        exact g5 j hj
      · obtain ⟨w1, w2, w3⟩ := g6 q hq
        rw [s3 26 _ (by omega), s3 26 _ (by omega), s3 26 _ (by omega), s3 26 _ (by omega)]
        exact ⟨hOf_set.mpr w1, fitv_set.mpr w2, fitv_set.mpr w3⟩
