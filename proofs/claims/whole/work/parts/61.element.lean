/-! Elements of the shelves' rows. -/
theorem hasRun_eq {c : Nat} {σ : St} {x : Int} (hx : ok32 x) (h0 : 0 ≤ σ c 4) (h1 : σ c 4 ≤ 60) : fX6_hasRun c x 1 σ = some (if 0 ≤ x ∧ x < σ c 4 then 1 else 0, σ) := by
  unfold fX6_hasRun
  by_cases a : 0 ≤ x ∧ x < σ c 4
  · rw [if_pos a, if_neg (by omega), if_neg (by decide), if_neg (by omega), isb (ok_in (by omega) (by omega)), if_neg (by omega)]
  · rw [if_neg a]
    by_cases b : x < 0
    · rw [if_pos b]
    · rw [if_neg b, if_neg (by decide)]
      by_cases d : σ c 4 < x
      · rw [if_pos d]
      · rw [if_neg d, isb (ok_in (by omega) (by omega)), if_pos (by omega)]
/-- why an element can't be asked for: 0 if it can -/
noncomputable def refE (σ : St) (s : Nat) (x : Int) : Int := if σ 72 s = -1 then -11 else if 0 ≤ σ 72 s ∧ σ 72 s ≤ 4 then (if 0 ≤ x ∧ x < σ 73 s then 0 else -13) else -12
theorem refuses_eq {σ : St} {s : Nat} {x : Int} (hs : s < 6) (hx : ok32 x) (k : InvShelf σ s) : fX9_refusesElement 0 (s : Int) x σ = some (refE σ s x, σ) := by
  obtain ⟨r1, r2, r3⟩ := sh_rf s hs
  obtain ⟨k1, k2, k3, k4, k5⟩ := k
  unfold fX9_refusesElement refE
  simp only [rfS, lnS]
  rw [sh9, if_pos (show 0 ≤ (s : Int) ∧ (s : Int) < 6 by omega), b1]
  dsimp only
  simp only [Int.toNat_natCast, r1]
  rw [hasRun_eq hx (by omega) (by omega), k2]
  repeat rw [if_pos (show inb (s : Int) 6 from ⟨by omega, by omega⟩)]
  rcases k1 with ⟨q1, q2⟩ | ⟨q1, q2, q3, q4⟩ | ⟨q1, q2, q3, q4⟩
  · rw [if_pos q1, if_pos q2]
  · rw [if_neg (by omega), if_neg (show ¬ σ 72 s = -1 by omega), if_neg (show ¬ (0 ≤ σ 72 s ∧ σ 72 s ≤ 4) by omega), if_neg (show ¬ σ (37 + 2 * s) 1 = 2 by omega)]
  · rw [if_neg (by omega), if_neg (show ¬ σ 72 s = -1 by omega), if_pos (show 0 ≤ σ 72 s ∧ σ 72 s ≤ 4 by omega), if_pos q1]
    by_cases a : 0 ≤ x ∧ x < σ 73 s
    · rw [if_pos a, b1, if_pos a]
    · rw [if_neg a, b0, if_neg a]
theorem isRow_eq {σ : St} {s : Nat} (hs : s < 6) : fX10_isRow 49 (s : Int) σ = some (if 0 ≤ σ 72 s ∧ σ 72 s ≤ 4 then 1 else 0, σ) := by
  unfold fX10_isRow
  simp only [rfS, lnS, Int.toNat_natCast]
  rw [if_pos (show inb (s : Int) 6 from ⟨by omega, by omega⟩), within_eq, Option.bind_some]
  split
  · exact if_pos (Or.inr rfl)
  · exact if_pos (Or.inl rfl)
theorem ag_element (a1 : Int) (a2 : Int) (ha1 : ok32 a1) (ha2 : ok32 a2) : Ag (fun σ => fX9_element 0 a1 a2 σ) (fun σ => fX10_element 49 a1 a2 σ) := by
  intro σ hI
  obtain ⟨h, -, -, -, -, -, -, -, -, i6, -⟩ := id hI
  dsimp only
  unfold fX9_element
  by_cases a : 0 ≤ a1 ∧ a1 < 6
  · obtain ⟨s, hs, rfl⟩ : ∃ s : Nat, s < 6 ∧ a1 = (s : Int) := ⟨a1.toNat, by omega, by omega⟩
    obtain ⟨r1, r2, r3⟩ := sh_rf s hs
    have k := i6 s hs
    rw [refuses_eq hs ha2 k]
    obtain ⟨k1, k2, k3, k4, k5⟩ := k
    unfold fX10_element fX6_at refE
    simp only [rfS, lnS, Int.toNat_natCast, r1, r2, r3]
    by_cases p : 0 ≤ σ 72 s ∧ σ 72 s ≤ 4
    · rw [if_neg (show ¬ σ 72 s = -1 by omega), if_pos p]
      by_cases q : 0 ≤ a2 ∧ a2 < σ 73 s
      · rw [if_pos q, b0]
        dsimp only
        rw [if_pos (show inb (s : Int) 6 from ⟨by omega, by omega⟩), hasRun_eq ha2 (by omega) (by omega), if_pos (show 0 ≤ a2 ∧ a2 < σ (37 + 2 * s) 4 by omega), b1]
        dsimp only
        rw [if_pos ⟨by omega, by omega⟩, Option.bind_some]
        refine ⟨_, σ, σ, rfl, ?_, hI⟩
        rw [sh10, if_pos a, b1]
        dsimp only
        rw [isRow_eq hs, if_pos p, b1]
        dsimp only
        rw [if_pos (show inb (s : Int) 6 from ⟨by omega, by omega⟩), isb (ok_in (by omega) (by omega)), within_eq, if_pos ⟨q.1, by omega⟩, b1]
        dsimp only
        have e : i_add (i_mul 60 (s : Int)) a2 = 60 * (s : Int) + a2 := by
          rw [im (ok_in (by omega) (by omega)), ia (ok_in (by omega) (by omega))]
        simp only [e]
        rw [if_pos ⟨by omega, by omega⟩, (k5 a2.toNat (by omega)).1, show (60 * (s : Int) + a2).toNat = 60 * s + a2.toNat by omega]
      · rw [if_neg q]
        refine ⟨-9223372036854775808, σ, σ, rfl, ?_, hI⟩
        rw [sh10, if_pos a, b1]
        dsimp only
        rw [isRow_eq hs, if_pos p, b1]
        dsimp only
        rw [if_pos (show inb (s : Int) 6 from ⟨by omega, by omega⟩), isb (ok_in (by omega) (by omega)), within_eq, if_neg (by omega), b0]
    · refine ⟨-9223372036854775808, σ, σ, ?_, ?_, hI⟩
      · rw [if_neg p]
        by_cases q : σ 72 s = -1
        · rw [if_pos q]
          rfl
        · rw [if_neg q]
          rfl
      · rw [sh10, if_pos a, b1]
        dsimp only
        rw [isRow_eq hs, if_neg p, b0]
  · refine ⟨-9223372036854775808, σ, σ, ?_, ?_, hI⟩
    · unfold fX9_refusesElement
      rw [sh9, if_neg a, b0]
      rfl
    · unfold fX10_element
      rw [sh10, if_neg a, b0]
