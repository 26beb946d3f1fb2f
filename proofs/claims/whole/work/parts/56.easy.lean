/-! Calls that only read, and the small deeds. -/
theorem b0 {α : Type} {σ : St} {A B : Int × St → Option α} : Option.bind (some ((0 : Int), σ)) (fun q => if q.1 = 0 then A q else B q) = A (0, σ) := by
  rw [Option.bind_some]
  exact if_pos rfl
theorem b1 {α : Type} {σ : St} {A B : Int × St → Option α} : Option.bind (some ((1 : Int), σ)) (fun q => if q.1 = 0 then A q else B q) = B (1, σ) := by
  rw [Option.bind_some]
  exact if_neg (show ¬ (1 : Int) = 0 by decide)
theorem ag_count (a1 : Int) (ha1 : ok32 a1) : Ag (fun σ => fX9_count 0 a1 σ) (fun σ => fX10_count 49 a1 σ) := by
  intro σ hI
  obtain ⟨h, ⟨c1, c2, -, -⟩, ⟨m1, m2, -, -⟩, -, -, -, ⟨d, n, -, -, g1, -, g3, -⟩, ⟨t, -, t1, t2, -⟩, ⟨l, -, l1, l2, -, l5, -⟩, -⟩ := id hI
  dsimp only
  unfold fX9_count fX10_count
  simp only [rfS]
  by_cases h0 : a1 = 0
  · rw [if_pos h0]
    exact ⟨_, _, _, rfl, by rw [if_pos h0, m1, c1], hI⟩
  rw [if_neg h0]
  by_cases h1 : a1 = 1
  · rw [if_pos h1]
    exact ⟨_, _, _, rfl, by rw [if_neg h0, if_pos h1, m2, c2], hI⟩
  rw [if_neg h1]
  by_cases h2 : a1 = 2
  · rw [if_pos h2]
    exact ⟨_, _, _, rfl, by rw [if_neg h0, if_neg h1, if_pos h2, t2, t1], hI⟩
  rw [if_neg h2]
  by_cases h3 : a1 = 3
  · rw [if_pos h3]
    exact ⟨_, _, _, rfl, by rw [if_neg h0, if_neg h1, if_neg h2, if_pos h3, g3, g1], hI⟩
  rw [if_neg h3]
  by_cases h4 : a1 = 4
  · rw [if_pos h4]
    exact ⟨_, _, _, rfl, by rw [if_neg h0, if_neg h1, if_neg h2, if_neg h3, if_pos h4, l2, l1], hI⟩
  rw [if_neg h4]
  by_cases h5 : a1 = 5
  · rw [if_pos h5]
    exact ⟨_, _, _, rfl, by rw [if_neg h0, if_neg h1, if_neg h2, if_neg h3, if_neg h4, if_pos h5, l5], hI⟩
  rw [if_neg h5]
  exact ⟨_, _, _, rfl, by rw [if_neg h0, if_neg h1, if_neg h2, if_neg h3, if_neg h4, if_neg h5], hI⟩
theorem ag_led (a1 : Int) (ha1 : ok32 a1) : Ag (fun σ => fX9_led 0 a1 σ) (fun σ => fX10_led 49 a1 σ) := by
  intro σ hI
  obtain ⟨h, -, -, -, -, hl, -⟩ := id hI
  dsimp only
  unfold fX9_led fX10_led
  simp only [rfS, lnS]
  by_cases a : 0 ≤ a1 ∧ a1 ≤ 4
  · rw [if_neg (by omega), if_pos (by omega), if_pos ⟨by omega, by omega⟩]
    refine ⟨_, _, σ, rfl, ?_, hI⟩
    rw [within_eq, if_pos a, b1, if_pos ⟨by omega, by omega⟩, hl a1.toNat (by omega)]
  · refine ⟨-1, σ, σ, ?_, ?_, hI⟩
    · split
      · rfl
      · rw [if_neg (by omega)]
    · rw [within_eq, if_neg a, b0]
theorem has_eq {c : Nat} {h : Hs} {σ : St} {i w : Int} (hh : HC c h σ) : fX2_has c i w σ = some (if hOf h i w then 1 else 0, σ) := by
  obtain ⟨e1, e2, -, -⟩ := hh
  unfold fX2_has fX2_hasBidder fX2_hasThing
  rw [e1, e2]
  by_cases a : hOf h i w
  · rw [if_pos a]
    unfold hOf at a
    rcases a with a | a
    · rw [if_neg (by omega), if_pos (by omega), if_neg (by omega), if_neg (by omega), if_neg (by omega)]
      rfl
    · rw [if_neg (by omega), if_pos (by omega), if_pos (by omega), if_neg (by omega), if_neg (by omega)]
      rfl
  · rw [if_neg a]
    unfold hOf at a
    by_cases w0 : w < 0
    · rw [if_pos w0]
    rw [if_neg w0]
    by_cases w1 : w < 13
    · rw [if_pos w1]
      by_cases w2 : 4 ≤ w
      · rw [if_pos w2]
        have e : (if i < 0 then (some ((0 : Int), σ)) else if (h.2.1 : Int) ≤ i then some (0, σ) else some (1, σ)) = some (0, σ) := by
          split
          · rfl
          · rw [if_pos (by omega)]
        rw [e]
        rfl
      · rw [if_neg w2]
        have e : (if i < 0 then (some ((0 : Int), σ)) else if (h.1 : Int) ≤ i then some (0, σ) else some (1, σ)) = some (0, σ) := by
          split
          · rfl
          · rw [if_pos (by omega)]
        rw [e]
        rfl
    · rw [if_neg w1]
theorem ag_of (a1 : Int) (a2 : Int) (ha1 : ok32 a1) (ha2 : ok32 a2) : Ag (fun σ => fX9_of 0 a1 a2 σ) (fun σ => fX10_of 49 a1 a2 σ) := by
  intro σ hI
  obtain ⟨h, c, m, w, -⟩ := id hI
  dsimp only
  unfold fX9_of fX10_of
  simp only [rfS]
  rw [has_eq c]
  by_cases a : hOf h a1 a2
  · rw [if_pos a, b1]
    dsimp only
    rw [number_eq (by decide +kernel) c w.1, Option.bind_some]
    exact ⟨_, _, _, rfl, by rw [isOf_eq m w.1, if_pos a, b1]; dsimp only; rw [get_eq m w.1 a, Option.bind_some], hI⟩
  · rw [if_neg a, b0]
    exact ⟨_, _, _, rfl, by rw [isOf_eq m w.1, if_neg a, b0], hI⟩
theorem ag_trace (a1 : Int) (ha1 : ok32 a1) : Ag (fun σ => fX9_trace 0 a1 σ) (fun σ => fX10_trace 49 a1 σ) := by
  intro σ hI
  obtain ⟨h, -, -, -, -, -, -, -, ⟨l, -, l1, l2, -, l5, l6, l7, l8⟩, -⟩ := id hI
  dsimp only
  unfold fX9_trace fX10_trace fX5_traced
  simp only [rfS, lnS]
  rw [l5] at l6 l7
  have e : m_min (σ 32 3) 24 = m_min 24 (σ 49 36) := by
    rw [l5]
    unfold m_min
    split <;> split <;> omega
  have eb : 0 ≤ m_min 24 (σ 49 36) ∧ m_min 24 (σ 49 36) ≤ 24 := by
    unfold m_min
    split <;> omega
  rw [e]
  by_cases a : 0 ≤ a1 ∧ a1 < m_min 24 (σ 49 36)
  · rw [if_neg (by omega), if_pos a.2, if_pos ⟨by omega, by omega⟩, Option.bind_some]
    refine ⟨_, σ, σ, rfl, ?_, hI⟩
    rw [isb (ok_in (by omega) (by omega)), within_eq, if_pos ⟨a.1, by omega⟩, b1, if_pos ⟨by omega, by omega⟩, l8 a1.toNat (by omega)]
  · refine ⟨-1, σ, σ, ?_, ?_, hI⟩
    · by_cases b : a1 < 0
      · rw [if_pos b, Option.bind_some]
      · rw [if_neg b, if_neg (by omega), Option.bind_some]
    · rw [isb (ok_in (by omega) (by omega)), within_eq, if_neg (by omega), b0]
