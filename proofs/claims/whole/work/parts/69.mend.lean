/-! A number is mended: the row of changes. -/
/-- the row of changes with one more: the eldest goes where there are forty -/
def rowN (f : Nat → Int) (d : Nat) : Nat → Int := fun j => if d = 40 ∧ j < 156 then f (j + 4) else f j
def putN (f : Nat → Int) (d : Nat) (a b c e : Int) : Nat → Int := fun j => if j = 4 * d + 3 then e else if j = 4 * d + 2 then c else if j = 4 * d + 1 then b else if j = 4 * d then a else f j
theorem came_eq {τ : St} {d : Nat} {a b c e : Int} (hd : d ≤ 40) (h1 : τ 25 1 = (d : Int)) : ∃ τ' : St, fX0_came 25 a b c e τ = some τ' ∧ τ' 25 1 = ((min d 39 + 1 : Nat) : Int) ∧ τ' 25 2 = 0 ∧ (∀ j : Nat, τ' 26 j = putN (rowN (τ 26) d) (min d 39) a b c e j) ∧ ∀ q j : Nat, q ≠ 25 → q ≠ 26 → τ' q j = τ q j := by
  have key : ∀ (ρ : St) (k : Nat), k ≤ 39 → ρ 25 1 = (k : Int) → ∃ τ' : St, fX0_came_36 25 a b c e ρ = some τ' ∧ τ' 25 1 = ((k + 1 : Nat) : Int) ∧ τ' 25 2 = ρ 25 2 ∧ (∀ j : Nat, τ' 26 j = putN (ρ 26) k a b c e j) ∧ ∀ q j : Nat, q ≠ 25 → q ≠ 26 → τ' q j = ρ q j := by
    intro ρ k hk hr
    unfold fX0_came_36
    simp only [rfS, lnS]
    have e0 : i_mul (k : Int) 4 = ((4 * k : Nat) : Int) := by
      rw [im (ok_in (by omega) (by omega))]
      omega
    have e1 : i_add ((4 * k : Nat) : Int) 1 = ((4 * k + 1 : Nat) : Int) := by
      rw [ia (ok_in (by omega) (by omega))]
      omega
    have e2 : i_add ((4 * k : Nat) : Int) 2 = ((4 * k + 2 : Nat) : Int) := by
      rw [ia (ok_in (by omega) (by omega))]
      omega
    have e3 : i_add ((4 * k : Nat) : Int) 3 = ((4 * k + 3 : Nat) : Int) := by
      rw [ia (ok_in (by omega) (by omega))]
      omega
    simp only [hr, e0, e1, e2, e3, Int.toNat_natCast]
    rw [if_pos ⟨by omega, by omega⟩, if_pos ⟨by omega, by omega⟩, if_pos ⟨by omega, by omega⟩, if_pos ⟨by omega, by omega⟩]
    have e4 : i_add (up (up (up (up ρ 26 (4 * k) a) 26 (4 * k + 1) b) 26 (4 * k + 2) c) 26 (4 * k + 3) e 25 1) 1 = ((k + 1 : Nat) : Int) := by
      rw [up_ne (by decide), up_ne (by decide), up_ne (by decide), up_ne (by decide), hr, ia (ok_in (by omega) (by omega))]
      omega
    rw [e4]
    refine ⟨_, rfl, by simp [up], by simp [up], fun j => ?_, fun q j q1 q2 => ?_⟩
    · simp [up, putN]
    · rw [up_ne q1, up_ne q2, up_ne q2, up_ne q2, up_ne q2]
  unfold fX0_came
  simp only [rfS, lnS]
  have e1 : up τ 25 2 0 25 1 = (d : Int) := by
    rw [up_get, if_neg (by omega)]
    exact h1
  rw [e1]
  by_cases hlt : d < 40
  · rw [if_pos (by omega)]
    obtain ⟨τ', f1, f2, f3, f4, f5⟩ := key (up τ 25 2 0) d (by omega) e1
    refine ⟨τ', f1, by rw [f2, Nat.min_eq_left (by omega)], by rw [f3]; simp [up], fun j => ?_, fun q j q1 q2 => by rw [f5 q j q1 q2, up_ne q1]⟩
    rw [f4 j, Nat.min_eq_left (by omega)]
    have er : up τ 25 2 0 26 = rowN (τ 26) d := by
      rw [up_ne (by decide)]
      funext j
      unfold rowN
      rw [if_neg (by omega)]
    rw [er]
  · rw [if_neg (by omega), if_pos (by decide)]
    have hd40 : d = 40 := by omega
    obtain ⟨τ', f1, f2, f3, f4, f5⟩ := key (up (cpy (up τ 25 2 0) 26 (Int.toNat 4) 26 (Int.toNat 0) (Int.toNat 156)) 25 1 39) 39 (by omega) (by simp [up])
    refine ⟨τ', f1, by rw [f2, hd40]; rfl, ?_, fun j => ?_, fun q j q1 q2 => ?_⟩
    · rw [f3]
      simp [up, cpy, upc]
    · rw [f4 j, show min d 39 = 39 by omega]
      have er : up (cpy (up τ 25 2 0) 26 (Int.toNat 4) 26 (Int.toNat 0) (Int.toNat 156)) 25 1 39 26 = rowN (τ 26) d := by
        rw [up_ne (by decide)]
        funext j
        unfold cpy upc rowN
        rw [if_pos rfl]
        show (if 0 ≤ j ∧ j < 0 + 156 then up τ 25 2 0 26 (4 + (j - 0)) else up τ 25 2 0 26 j) = _
        rw [up_ne (by decide)]
        by_cases hj : j < 156
        · rw [if_pos (by omega), if_pos ⟨hd40, hj⟩, show 4 + (j - 0) = j + 4 by omega]
        · rw [if_neg (by omega), if_neg (by omega)]
      rw [er]
    · rw [f5 q j q1 q2, up_ne q1]
      unfold cpy upc
      rw [if_neg q2, up_ne q1]
