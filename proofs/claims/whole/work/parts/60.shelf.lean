/-! The shelves. -/
theorem sh9 (x : Int) (σ : St) : fX9_isShelf x σ = some (if 0 ≤ x ∧ x < 6 then 1 else 0, σ) := by
  unfold fX9_isShelf
  by_cases a : 0 ≤ x ∧ x < 6
  · rw [if_pos a, if_neg (by omega), if_neg (by omega)]
  · rw [if_neg a]
    split
    · rfl
    · rw [if_pos (by omega)]
theorem sh10 (x : Int) (σ : St) : fX10_isShelf x σ = some (if 0 ≤ x ∧ x < 6 then 1 else 0, σ) := by
  unfold fX10_isShelf
  rw [within_eq, Option.bind_some]
  by_cases a : 0 ≤ x ∧ x < 6
  · rw [if_pos a, if_pos (show 0 ≤ x ∧ x ≤ 5 by omega)]
    exact if_pos (Or.inr rfl)
  · rw [if_neg a, if_neg (show ¬ (0 ≤ x ∧ x ≤ 5) by omega)]
    exact if_pos (Or.inl rfl)
theorem sh_rf : ∀ s, s < 6 → (RF 36 s = 37 + 2 * s ∧ RF (37 + 2 * s) 0 = 38 + 2 * s ∧ LN (38 + 2 * s) = 60) := by decide +kernel
theorem ag_keep (a1 : Int) (a2 : Int) (ha1 : ok32 a1) (ha2 : ok32 a2) : Ag (fun σ => fX9_keep 0 a1 a2 σ) (fun σ => fX10_keep 49 a1 a2 σ) := by
  intro σ hI
  obtain ⟨h, c1, c2, c3, i1, i2, i3, i4, ⟨n, n1, n2, n3, n4⟩, i6, i7⟩ := id hI
  dsimp only
  unfold fX9_keep
  simp only [rfS, lnS]
  rw [sh9]
  by_cases a : 0 ≤ a1 ∧ a1 < 6
  · rw [if_pos a, b1]
    obtain ⟨s, hs, rfl⟩ : ∃ s : Nat, s < 6 ∧ a1 = (s : Int) := ⟨a1.toNat, by omega, by omega⟩
    obtain ⟨r1, r2, r3⟩ := sh_rf s hs
    -- the deed, told once: the shelf's three numbers
    have deed : ∀ (x y z : Int) (w : Int), (x = 0 ∧ w = -1) ∨ (x = 1 ∧ w = 10 + y ∧ 0 ≤ y ∧ y < (n : Int)) → ∀ τ : St, (∀ c j : Nat, ¬ (c = 37 + 2 * s) → τ c j = σ c j) → τ (37 + 2 * s) 1 = x → (x = 1 → τ (37 + 2 * s) 2 = y) → τ (37 + 2 * s) 4 = 0 → Inv (up (up τ 72 s w) 73 s 0) := by
      intro x y z w hx τ t0 t1 t2 t3
      have ag : ∀ c j : Nat, ¬ (c = 37 + 2 * s ∨ c = 72 ∨ c = 73) → up (up τ 72 s w) 73 s 0 c j = σ c j := by
        intro c j hcj
        rw [up_get, if_neg (by omega), up_get, if_neg (by omega), t0 c j (by omega)]
      refine ⟨h, HC1.keep (fun c j q => ag c j (by unfold pH1 at q; omega)) c1, HM.keep (fun c j q => ag c j (by unfold pHM at q; omega)) c2, c3, i1.keep (fun c j q => ag c j (by unfold pImg at q; omega)) (Nat.le_refl _) (Nat.le_refl _), i2.keep (fun c j q => ag c j (by unfold pLed at q; omega)), i3.keep (fun c j q => ag c j (by unfold pChg at q; omega)) (Nat.le_refl _) (Nat.le_refl _), i4.keep (fun c j q => ag c j (by unfold pTape at q; omega)), InvLots.keep (fun c j q => ag c j (by unfold pLots at q; omega)) ⟨n, n1, n2, n3, n4⟩, fun q hq => ?_, i7.keep (fun c j q => ag c j (by unfold pLaw at q; omega))⟩
      have k := i6 q hq
      unfold InvShelf at *
      by_cases hqs : q = s
      · subst hqs
        have g : ∀ j, up (up τ 72 q w) 73 q 0 (37 + 2 * q) j = τ (37 + 2 * q) j := fun j => by rw [up_get, if_neg (by omega), up_get, if_neg (by omega)]
        have g72 : up (up τ 72 q w) 73 q 0 72 q = w := by simp [up]
        have g73 : up (up τ 72 q w) 73 q 0 73 q = 0 := by simp [up]
        rw [g, g, g, g, g72, g73, ag 32 2 (by omega), t1, t3, n2]
        refine ⟨?_, rfl, Int.le_refl _, by decide, fun j hj => ?_⟩
        · rcases hx with ⟨x1, x2⟩ | ⟨x1, x2, x3, x4⟩
          · exact Or.inl ⟨x1, x2⟩
          · rw [t2 x1]
            exact Or.inr (Or.inl ⟨x1, x2, x3, x4⟩)
        · rw [ag (38 + 2 * q) j (by omega), ag 74 _ (by omega)]
          exact ⟨(k.2.2.2.2 j hj).1, fun hw0 => absurd hw0 (by omega)⟩
      · have g72 : up (up τ 72 s w) 73 s 0 72 q = σ 72 q := by
          rw [up_get, if_neg (by omega), up_get, if_neg (by omega), t0 72 q (by omega)]
        have g73 : up (up τ 72 s w) 73 s 0 73 q = σ 73 q := by
          rw [up_get, if_neg (by omega), up_get, if_neg (by omega), t0 73 q (by omega)]
        rw [ag (37 + 2 * q) 1 (by omega), ag (37 + 2 * q) 2 (by omega), ag (37 + 2 * q) 3 (by omega), ag (37 + 2 * q) 4 (by omega), g72, g73, ag 32 2 (by omega)]
        exact ⟨k.1, k.2.1, k.2.2.1, k.2.2.2.1, fun j hj => by rw [ag (38 + 2 * q) j (by omega), ag 74 _ (by omega)]; exact k.2.2.2.2 j hj⟩
    have mdl : ∀ τ : St, τ 49 34 = (n : Int) → -1 ≤ a2 ∧ a2 < (n : Int) → fX10_keep 49 (s : Int) a2 τ = some (1, up (up τ 72 s (if 0 ≤ a2 then 10 + a2 else -1)) 73 s 0) := by
      intro τ t1 t2
      unfold fX10_keep fX10_keep_40
      rw [sh10, if_pos a, b1]
      dsimp only
      rw [t1, isb (ok_in (by omega) (by omega)), within_eq, if_pos ⟨t2.1, by omega⟩, b1]
      simp only [rfS, lnS]
      rw [if_pos (show inb (s : Int) 6 from ⟨by omega, by omega⟩)]
      by_cases q : 0 ≤ a2
      · rw [if_pos q, if_pos q, ia (ok_in (by omega) (by omega)), if_pos (show inb (s : Int) 6 from ⟨by omega, by omega⟩)]
        rfl
      · rw [if_neg q, if_neg q]
        repeat rw [if_pos (show inb (s : Int) 6 from ⟨by omega, by omega⟩)]
        rfl
    have bad : ¬ (-1 ≤ a2 ∧ a2 < (n : Int)) → fX10_keep 49 (s : Int) a2 σ = some (-1, σ) := by
      intro t2
      unfold fX10_keep
      rw [sh10, if_pos a, b1]
      dsimp only
      rw [n3, isb (ok_in (by omega) (by omega)), within_eq, if_neg (by omega), b0]
    have cls : -1 ≤ a2 ∧ a2 < (n : Int) → ∃ σ1 : St, fX9_keep_25 0 (s : Int) a2 σ = some (1, σ1) ∧ (∀ c j : Nat, ¬ (c = 37 + 2 * s) → σ1 c j = σ c j) ∧ σ1 (37 + 2 * s) 1 = (if 0 ≤ a2 then 1 else 0) ∧ (0 ≤ a2 → σ1 (37 + 2 * s) 2 = a2) ∧ σ1 (37 + 2 * s) 4 = 0 := by
      intro t2
      unfold fX9_keep_25 fX6_holdLot fX6_holdNothing
      simp only [rfS, lnS, Int.toNat_natCast, r1]
      by_cases q : 0 ≤ a2
      · rw [if_pos q, if_pos (show inb (s : Int) 6 from ⟨by omega, by omega⟩), Option.bind_some]
        refine ⟨_, rfl, fun c j hc => ?_, by rw [if_pos q]; simp [up], fun _ => by simp [up], by simp [up]⟩
        rw [up_get, if_neg (by omega), up_get, if_neg (by omega), up_get, if_neg (by omega)]
      · rw [if_neg q, if_pos (show inb (s : Int) 6 from ⟨by omega, by omega⟩), Option.bind_some]
        refine ⟨_, rfl, fun c j hc => ?_, by rw [if_neg q]; simp [up], fun z => absurd z q, by simp [up]⟩
        rw [up_get, if_neg (by omega), up_get, if_neg (by omega)]
    dsimp only
    by_cases v : -1 ≤ a2 ∧ a2 < (n : Int)
    · obtain ⟨σ1, f1, t0, t1, t2, t3⟩ := cls v
      have fin : Inv (up (up σ1 72 s (if 0 ≤ a2 then 10 + a2 else -1)) 73 s 0) := by
        refine deed (if 0 ≤ a2 then 1 else 0) a2 0 (if 0 ≤ a2 then 10 + a2 else -1) ?_ σ1 t0 t1 (fun z => t2 ?_) t3
        · by_cases q : 0 ≤ a2
          · rw [if_pos q, if_pos q]
            exact Or.inr ⟨rfl, rfl, q, v.2⟩
          · rw [if_neg q, if_neg q]
            exact Or.inl ⟨rfl, rfl⟩
        · by_cases q : 0 ≤ a2
          · exact q
          · rw [if_neg q] at z
            exact absurd z (by decide)
      refine ⟨1, σ1, _, ?_, mdl σ1 (by rw [t0 49 34 (by omega)]; exact n3) v, fin⟩
      by_cases q : a2 = -1
      · rw [if_pos q]
        exact f1
      · rw [if_neg q]
        unfold fX5_has
        simp only [n2]
        rw [if_neg (by omega), if_neg (by omega), b1]
        exact f1
    · refine ⟨-1, σ, σ, ?_, bad v, hI⟩
      rw [if_neg (by omega)]
      unfold fX5_has
      simp only [n2]
      by_cases q : a2 < 0
      · rw [if_pos q, b0]
      · rw [if_neg q, if_pos (by omega), b0]
  · rw [if_neg a, b0]
    refine ⟨-1, σ, σ, rfl, ?_, hI⟩
    unfold fX10_keep
    rw [sh10, if_neg a, b0]
