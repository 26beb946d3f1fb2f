/-! Who is missed longest, and when nobody is missed. -/
/-- the first of the longest among the first k, and how long -/
noncomputable def lwn (f : Nat → Int) : Nat → Int × Int
  | 0 => (-2, 0)
  | k + 1 => if f k ≤ (lwn f k).2 then lwn f k else ((k : Int), f k)
theorem lwn_ok (f : Nat → Int) (k : Nat) : 0 ≤ (lwn f k).2 ∧ (((lwn f k).1 = -2 ∧ (lwn f k).2 = 0) ∨ (0 ≤ (lwn f k).1 ∧ (lwn f k).1 < (k : Int) ∧ (lwn f k).2 = f (lwn f k).1.toNat)) := by
  induction k with
  | zero => exact ⟨Int.le_refl _, Or.inl ⟨rfl, rfl⟩⟩
  | succ k ih =>
    unfold lwn
    by_cases h : f k ≤ (lwn f k).2
    · rw [if_pos h]
      refine ⟨ih.1, ?_⟩
      rcases ih.2 with q | q
      · exact Or.inl q
      · exact Or.inr ⟨q.1, by omega, q.2.2⟩
    · rw [if_neg h]
      refine ⟨by dsimp only; omega, Or.inr ⟨by dsimp only; omega, by dsimp only; omega, ?_⟩⟩
      simp
theorem lwn_max (f : Nat → Int) (k : Nat) : m_max (lwn f k).2 (f k) = (lwn f (k + 1)).2 := by
  conv => rhs; unfold lwn
  unfold m_max
  by_cases h : f k ≤ (lwn f k).2
  · rw [if_pos h, if_neg (by omega)]
  · rw [if_neg h, if_pos (by omega)]
theorem longest9 {c : Nat} {h : Hs} {σ : St} (hc : isO 2 c = true) (hh : HC c h σ) (hw : Wf h) : ∀ (n k : Nat), k ≤ h.1 → h.1 < k + n → fX2_missedLongest_7 c n (lwn (fun t => h.2.2.1 t 3) k).1 (lwn (fun t => h.2.2.1 t 3) k).2 (k : Int) σ = some ((lwn (fun t => h.2.2.1 t 3) h.1).1, σ) := by
  have z1 := hw.1.1
  intro n
  induction n with
  | zero => intro k h1 h2; omega
  | succ n ih =>
    intro k h1 h2
    rw [fX2_missedLongest_7.eq_2, hh.1]
    by_cases e : (h.1 : Int) ≤ (k : Int)
    · rw [if_pos e, show k = h.1 by omega]
    · rw [if_neg e, number_eq hc hh hw.1, Option.bind_some]
      have en : hnum h (k : Int) 3 = h.2.2.1 k 3 := by
        unfold hnum
        rw [if_pos (by omega)]
        simp
      unfold fX2_missedLongest_34
      dsimp only
      rw [number_eq hc hh hw.1, Option.bind_some, en, ia (ok_in (by omega) (by omega))]
      have i1 := ih (k + 1) (by omega) (by omega)
      rw [show ((k + 1 : Nat) : Int) = (k : Int) + 1 by omega] at i1
      conv at i1 => lhs; unfold lwn
      by_cases q : h.2.2.1 k 3 ≤ (lwn (fun t => h.2.2.1 t 3) k).2
      · rw [if_pos q] at i1
        rw [if_pos q]
        exact i1
      · rw [if_neg q] at i1
        rw [if_neg q]
        exact i1
theorem longest10 {h : Hs} {σ : St} (hh : HM h σ) (hw : Wf h) : ∀ (n k : Nat), k ≤ h.1 → h.1 < k + n → fX10_longest_5 49 n (lwn (fun t => h.2.2.1 t 3) k).1 (k : Int) σ = some ((lwn (fun t => h.2.2.1 t 3) h.1).1, σ) := by
  have z1 := hw.1.1
  intro n
  induction n with
  | zero => intro k h1 h2; omega
  | succ n ih =>
    intro k h1 h2
    rw [fX10_longest_5.eq_2, hh.1]
    simp only [rfS, lnS]
    by_cases e : (h.1 : Int) ≤ (k : Int)
    · rw [if_pos e, show k = h.1 by omega]
    · rw [if_neg e, if_pos ⟨by omega, by omega⟩]
      unfold fX10_longest_35 fX10_longest_40
      have e3 := (hh.2.2.1 k (by omega)).2.2.2
      simp only [Int.toNat_natCast, e3]
      rw [ia (ok_in (by omega) (by omega))]
      have i1 := ih (k + 1) (by omega) (by omega)
      rw [show ((k + 1 : Nat) : Int) = (k : Int) + 1 by omega] at i1
      conv at i1 => lhs; unfold lwn
      obtain ⟨o1, o2⟩ := lwn_ok (fun t => h.2.2.1 t 3) k
      have val : (if (lwn (fun t => h.2.2.1 t 3) k).1 = -2 then (if h.2.2.1 k 3 ≤ 0 then fX10_longest_5 49 n (lwn (fun t => h.2.2.1 t 3) k).1 ((k : Int) + 1) σ else fX10_longest_5 49 n (k : Int) ((k : Int) + 1) σ) else if inb (lwn (fun t => h.2.2.1 t 3) k).1 8 then (if h.2.2.1 k 3 ≤ σ 53 (lwn (fun t => h.2.2.1 t 3) k).1.toNat then fX10_longest_5 49 n (lwn (fun t => h.2.2.1 t 3) k).1 ((k : Int) + 1) σ else fX10_longest_5 49 n (k : Int) ((k : Int) + 1) σ) else none) = (if h.2.2.1 k 3 ≤ (lwn (fun t => h.2.2.1 t 3) k).2 then fX10_longest_5 49 n (lwn (fun t => h.2.2.1 t 3) k).1 ((k : Int) + 1) σ else fX10_longest_5 49 n (k : Int) ((k : Int) + 1) σ) := by
        rcases o2 with ⟨q1, q2⟩ | ⟨q1, q2, q3⟩
        · rw [if_pos q1, q2]
        · rw [if_neg (by omega), if_pos ⟨by omega, by omega⟩, (hh.2.2.1 _ (by omega)).2.2.2, ← q3]
      rw [val]
      by_cases q : h.2.2.1 k 3 ≤ (lwn (fun t => h.2.2.1 t 3) k).2
      · rw [if_pos q] at i1
        rw [if_pos q]
        exact i1
      · rw [if_neg q] at i1
        rw [if_neg q]
        exact i1
theorem quiet10 {h : Hs} {σ : St} (hh : HM h σ) (hw : Wf h) : ∀ (n k : Nat), k ≤ h.1 → h.1 < k + n → fX10_quiet_4 49 n (lwn (fun t => h.2.2.1 t 3) k).2 (k : Int) σ = some (if (lwn (fun t => h.2.2.1 t 3) h.1).2 ≤ 60 then (lwn (fun t => h.2.2.1 t 3) h.1).2 else -2, σ) := by
  have z1 := hw.1.1
  intro n
  induction n with
  | zero => intro k h1 h2; omega
  | succ n ih =>
    intro k h1 h2
    rw [fX10_quiet_4.eq_2, hh.1]
    simp only [rfS, lnS]
    by_cases e : (h.1 : Int) ≤ (k : Int)
    · rw [if_pos e, show k = h.1 by omega]
      split <;> rfl
    · rw [if_neg e, if_pos ⟨by omega, by omega⟩]
      have e3 := (hh.2.2.1 k (by omega)).2.2.2
      simp only [Int.toNat_natCast, e3]
      rw [ia (ok_in (by omega) (by omega))]
      have i1 := ih (k + 1) (by omega) (by omega)
      rw [show ((k + 1 : Nat) : Int) = (k : Int) + 1 by omega, ← lwn_max] at i1
      exact i1
theorem ag_missed (a1 : Int) (ha1 : ok32 a1) : Ag (fun σ => fX9_missed 0 a1 σ) (fun σ => fX10_missed 49 a1 σ) := by
  intro σ hI
  obtain ⟨h, c1, c2, c3, -⟩ := id hI
  have z1 := c3.1.1
  dsimp only
  unfold fX9_missed fX10_missed fX2_missedLongest fX9_missed_43 fX10_quiet fX10_longest
  simp only [rfS]
  have L9 := longest9 (c := 1) (by decide +kernel) c1 c3 FU 0 (Nat.zero_le _) (by unfold FU; omega)
  have L10 := longest10 c2 c3 FU 0 (Nat.zero_le _) (by unfold FU; omega)
  have Q10 := quiet10 c2 c3 FU 0 (Nat.zero_le _) (by unfold FU; omega)
  have L9 : fX2_missedLongest_7 1 FU (-2) 0 0 σ = _ := L9
  have L10 : fX10_longest_5 49 FU (-2) 0 σ = _ := L10
  have Q10 : fX10_quiet_4 49 FU 0 0 σ = _ := Q10
  by_cases a : a1 = 0 ∨ a1 = 1
  · rw [if_neg (by omega), if_pos (by omega), L9, Option.bind_some]
    by_cases b : a1 = 1
    · rw [if_pos b]
      refine ⟨_, σ, σ, rfl, ?_, hI⟩
      rw [if_neg (by omega), if_pos b, L10, Option.bind_some]
    · rw [if_neg b]
      dsimp only
      obtain ⟨o1, o2⟩ := lwn_ok (fun t => h.2.2.1 t 3) h.1
      refine ⟨_, σ, σ, ?_, by rw [if_pos (show a1 = 0 by omega), Q10, Option.bind_some], hI⟩
      dsimp only
      rcases o2 with ⟨q1, q2⟩ | ⟨q1, q2, q3⟩
      · rw [if_neg (by omega), q2, if_neg (by decide), if_pos (by decide)]
      · rw [if_pos q1, number_eq (by decide +kernel) c1 c3.1, Option.bind_some]
        have en : hnum h (lwn (fun t => h.2.2.1 t 3) h.1).1 3 = (lwn (fun t => h.2.2.1 t 3) h.1).2 := by
          rw [q3]
          unfold hnum
          rw [if_pos (by omega)]
          rfl
        simp only [en]
        by_cases w : (lwn (fun t => h.2.2.1 t 3) h.1).2 ≤ 60
        · rw [if_pos w, if_neg (by omega)]
        · rw [if_neg w, if_pos (by omega)]
  · refine ⟨-1, σ, σ, ?_, ?_, hI⟩
    · split
      · rfl
      · rw [if_neg (by omega)]
    · rw [if_neg (by omega), if_neg (by omega)]
