/-! What is taken from a shelf: kinds of lots and those above them. -/
theorem und9_0 {x0 t i : Int} {σ : St} (n : Nat) (h0 : 0 ≤ i) (h1 : i ≤ 5) : fX5_isUnder_4 x0 t (n + 2) 0 i σ = some (if t = 0 then 1 else 0, σ) := by
  rw [show n + 2 = (n + 1) + 1 from rfl, fX5_isUnder_4.eq_2, if_neg (by omega), if_neg (by decide), if_neg (by decide)]
  by_cases e : (0 : Int) = t
  · rw [if_pos e, if_pos (by omega)]
  · rw [if_neg e, if_pos (by decide), ia (ok_in (by omega) (by omega))]
    rw [show stv2.getD (Int.toNat 0) 0 = -1 from rfl, fX5_isUnder_4.eq_2, if_neg (by omega), if_pos (by decide), if_neg (by omega)]
theorem und10_0 {x1 t x3 : Int} {σ : St} (n : Nat) : fX10_taken_61 49 x1 t (n + 1) x3 0 σ = some (if t = 0 then x3 else -12, σ) := by
  rw [show n + 1 = (n + 0) + 1 from rfl, fX10_taken_61.eq_2]
  unfold fX10_taken_82
  by_cases e : (0 : Int) = t
  · rw [if_pos e, if_pos e, if_pos (by omega)]
  · rw [if_neg e, if_neg e]
    rw [if_pos (by decide), if_neg (by omega)]
theorem und9_1 {x0 t i : Int} {σ : St} (n : Nat) (h0 : 0 ≤ i) (h1 : i ≤ 4) : fX5_isUnder_4 x0 t (n + 3) 1 i σ = some (if t = 1 ∨ t = 0 then 1 else 0, σ) := by
  rw [show n + 3 = (n + 2) + 1 from rfl, fX5_isUnder_4.eq_2, if_neg (by omega), if_neg (by decide), if_neg (by decide)]
  by_cases e : (1 : Int) = t
  · rw [if_pos e, if_pos (by omega)]
  · rw [if_neg e, if_pos (by decide), ia (ok_in (by omega) (by omega))]
    rw [show stv2.getD (Int.toNat 1) 0 = 0 from rfl, und9_0 n (by omega) (by omega)]
    by_cases f : t = 0
    · rw [if_pos f, if_pos (by omega)]
    · rw [if_neg f, if_neg (by omega)]
theorem und10_1 {x1 t x3 : Int} {σ : St} (n : Nat) : fX10_taken_61 49 x1 t (n + 2) x3 1 σ = some (if t = 1 ∨ t = 0 then x3 else -12, σ) := by
  rw [show n + 2 = (n + 1) + 1 from rfl, fX10_taken_61.eq_2]
  unfold fX10_taken_82
  by_cases e : (1 : Int) = t
  · rw [if_pos e, if_pos e, if_pos (by omega)]
  · rw [if_neg e, if_neg e]
    rw [if_neg (by decide), show fX10_above 1 σ = some (0, σ) from by simp [fX10_above], Option.bind_some]
    dsimp only
    rw [und10_0 n]
    by_cases f : t = 0
    · rw [if_pos f, if_pos (by omega)]
    · rw [if_neg f, if_neg (by omega)]
theorem und9_2 {x0 t i : Int} {σ : St} (n : Nat) (h0 : 0 ≤ i) (h1 : i ≤ 4) : fX5_isUnder_4 x0 t (n + 3) 2 i σ = some (if t = 2 ∨ t = 0 then 1 else 0, σ) := by
  rw [show n + 3 = (n + 2) + 1 from rfl, fX5_isUnder_4.eq_2, if_neg (by omega), if_neg (by decide), if_neg (by decide)]
  by_cases e : (2 : Int) = t
  · rw [if_pos e, if_pos (by omega)]
  · rw [if_neg e, if_pos (by decide), ia (ok_in (by omega) (by omega))]
    rw [show stv2.getD (Int.toNat 2) 0 = 0 from rfl, und9_0 n (by omega) (by omega)]
    by_cases f : t = 0
    · rw [if_pos f, if_pos (by omega)]
    · rw [if_neg f, if_neg (by omega)]
theorem und10_2 {x1 t x3 : Int} {σ : St} (n : Nat) : fX10_taken_61 49 x1 t (n + 2) x3 2 σ = some (if t = 2 ∨ t = 0 then x3 else -12, σ) := by
  rw [show n + 2 = (n + 1) + 1 from rfl, fX10_taken_61.eq_2]
  unfold fX10_taken_82
  by_cases e : (2 : Int) = t
  · rw [if_pos e, if_pos e, if_pos (by omega)]
  · rw [if_neg e, if_neg e]
    rw [if_neg (by decide), show fX10_above 2 σ = some (0, σ) from by simp [fX10_above], Option.bind_some]
    dsimp only
    rw [und10_0 n]
    by_cases f : t = 0
    · rw [if_pos f, if_pos (by omega)]
    · rw [if_neg f, if_neg (by omega)]
theorem und9_6 {x0 t i : Int} {σ : St} (n : Nat) (h0 : 0 ≤ i) (h1 : i ≤ 4) : fX5_isUnder_4 x0 t (n + 3) 6 i σ = some (if t = 6 ∨ t = 0 then 1 else 0, σ) := by
  rw [show n + 3 = (n + 2) + 1 from rfl, fX5_isUnder_4.eq_2, if_neg (by omega), if_neg (by decide), if_neg (by decide)]
  by_cases e : (6 : Int) = t
  · rw [if_pos e, if_pos (by omega)]
  · rw [if_neg e, if_pos (by decide), ia (ok_in (by omega) (by omega))]
    rw [show stv2.getD (Int.toNat 6) 0 = 0 from rfl, und9_0 n (by omega) (by omega)]
    by_cases f : t = 0
    · rw [if_pos f, if_pos (by omega)]
    · rw [if_neg f, if_neg (by omega)]
theorem und10_6 {x1 t x3 : Int} {σ : St} (n : Nat) : fX10_taken_61 49 x1 t (n + 2) x3 6 σ = some (if t = 6 ∨ t = 0 then x3 else -12, σ) := by
  rw [show n + 2 = (n + 1) + 1 from rfl, fX10_taken_61.eq_2]
  unfold fX10_taken_82
  by_cases e : (6 : Int) = t
  · rw [if_pos e, if_pos e, if_pos (by omega)]
  · rw [if_neg e, if_neg e]
    rw [if_neg (by decide), show fX10_above 6 σ = some (0, σ) from by simp [fX10_above], Option.bind_some]
    dsimp only
    rw [und10_0 n]
    by_cases f : t = 0
    · rw [if_pos f, if_pos (by omega)]
    · rw [if_neg f, if_neg (by omega)]
theorem und9_3 {x0 t i : Int} {σ : St} (n : Nat) (h0 : 0 ≤ i) (h1 : i ≤ 3) : fX5_isUnder_4 x0 t (n + 4) 3 i σ = some (if t = 3 ∨ t = 2 ∨ t = 0 then 1 else 0, σ) := by
  rw [show n + 4 = (n + 3) + 1 from rfl, fX5_isUnder_4.eq_2, if_neg (by omega), if_neg (by decide), if_neg (by decide)]
  by_cases e : (3 : Int) = t
  · rw [if_pos e, if_pos (by omega)]
  · rw [if_neg e, if_pos (by decide), ia (ok_in (by omega) (by omega))]
    rw [show stv2.getD (Int.toNat 3) 0 = 2 from rfl, und9_2 n (by omega) (by omega)]
    by_cases f : t = 2 ∨ t = 0
    · rw [if_pos f, if_pos (by omega)]
    · rw [if_neg f, if_neg (by omega)]
theorem und10_3 {x1 t x3 : Int} {σ : St} (n : Nat) : fX10_taken_61 49 x1 t (n + 3) x3 3 σ = some (if t = 3 ∨ t = 2 ∨ t = 0 then x3 else -12, σ) := by
  rw [show n + 3 = (n + 2) + 1 from rfl, fX10_taken_61.eq_2]
  unfold fX10_taken_82
  by_cases e : (3 : Int) = t
  · rw [if_pos e, if_pos e, if_pos (by omega)]
  · rw [if_neg e, if_neg e]
    rw [if_neg (by decide), show fX10_above 3 σ = some (2, σ) from by simp [fX10_above], Option.bind_some]
    dsimp only
    rw [und10_2 n]
    by_cases f : t = 2 ∨ t = 0
    · rw [if_pos f, if_pos (by omega)]
    · rw [if_neg f, if_neg (by omega)]
theorem und9_4 {x0 t i : Int} {σ : St} (n : Nat) (h0 : 0 ≤ i) (h1 : i ≤ 3) : fX5_isUnder_4 x0 t (n + 4) 4 i σ = some (if t = 4 ∨ t = 1 ∨ t = 0 then 1 else 0, σ) := by
  rw [show n + 4 = (n + 3) + 1 from rfl, fX5_isUnder_4.eq_2, if_neg (by omega), if_neg (by decide), if_neg (by decide)]
  by_cases e : (4 : Int) = t
  · rw [if_pos e, if_pos (by omega)]
  · rw [if_neg e, if_pos (by decide), ia (ok_in (by omega) (by omega))]
    rw [show stv2.getD (Int.toNat 4) 0 = 1 from rfl, und9_1 n (by omega) (by omega)]
    by_cases f : t = 1 ∨ t = 0
    · rw [if_pos f, if_pos (by omega)]
    · rw [if_neg f, if_neg (by omega)]
theorem und10_4 {x1 t x3 : Int} {σ : St} (n : Nat) : fX10_taken_61 49 x1 t (n + 3) x3 4 σ = some (if t = 4 ∨ t = 1 ∨ t = 0 then x3 else -12, σ) := by
  rw [show n + 3 = (n + 2) + 1 from rfl, fX10_taken_61.eq_2]
  unfold fX10_taken_82
  by_cases e : (4 : Int) = t
  · rw [if_pos e, if_pos e, if_pos (by omega)]
  · rw [if_neg e, if_neg e]
    rw [if_neg (by decide), show fX10_above 4 σ = some (1, σ) from by simp [fX10_above], Option.bind_some]
    dsimp only
    rw [und10_1 n]
    by_cases f : t = 1 ∨ t = 0
    · rw [if_pos f, if_pos (by omega)]
    · rw [if_neg f, if_neg (by omega)]
theorem und9_5 {x0 t i : Int} {σ : St} (n : Nat) (h0 : 0 ≤ i) (h1 : i ≤ 2) : fX5_isUnder_4 x0 t (n + 5) 5 i σ = some (if t = 5 ∨ t = 3 ∨ t = 2 ∨ t = 0 then 1 else 0, σ) := by
  rw [show n + 5 = (n + 4) + 1 from rfl, fX5_isUnder_4.eq_2, if_neg (by omega), if_neg (by decide), if_neg (by decide)]
  by_cases e : (5 : Int) = t
  · rw [if_pos e, if_pos (by omega)]
  · rw [if_neg e, if_pos (by decide), ia (ok_in (by omega) (by omega))]
    rw [show stv2.getD (Int.toNat 5) 0 = 3 from rfl, und9_3 n (by omega) (by omega)]
    by_cases f : t = 3 ∨ t = 2 ∨ t = 0
    · rw [if_pos f, if_pos (by omega)]
    · rw [if_neg f, if_neg (by omega)]
theorem und10_5 {x1 t x3 : Int} {σ : St} (n : Nat) : fX10_taken_61 49 x1 t (n + 4) x3 5 σ = some (if t = 5 ∨ t = 3 ∨ t = 2 ∨ t = 0 then x3 else -12, σ) := by
  rw [show n + 4 = (n + 3) + 1 from rfl, fX10_taken_61.eq_2]
  unfold fX10_taken_82
  by_cases e : (5 : Int) = t
  · rw [if_pos e, if_pos e, if_pos (by omega)]
  · rw [if_neg e, if_neg e]
    rw [if_neg (by decide), show fX10_above 5 σ = some (3, σ) from by simp [fX10_above], Option.bind_some]
    dsimp only
    rw [und10_3 n]
    by_cases f : t = 3 ∨ t = 2 ∨ t = 0
    · rw [if_pos f, if_pos (by omega)]
    · rw [if_neg f, if_neg (by omega)]
theorem und9_7 {x0 t i : Int} {σ : St} (n : Nat) (h0 : 0 ≤ i) (h1 : i ≤ 2) : fX5_isUnder_4 x0 t (n + 5) 7 i σ = some (if t = 7 ∨ t = 4 ∨ t = 1 ∨ t = 0 then 1 else 0, σ) := by
  rw [show n + 5 = (n + 4) + 1 from rfl, fX5_isUnder_4.eq_2, if_neg (by omega), if_neg (by decide), if_neg (by decide)]
  by_cases e : (7 : Int) = t
  · rw [if_pos e, if_pos (by omega)]
  · rw [if_neg e, if_pos (by decide), ia (ok_in (by omega) (by omega))]
    rw [show stv2.getD (Int.toNat 7) 0 = 4 from rfl, und9_4 n (by omega) (by omega)]
    by_cases f : t = 4 ∨ t = 1 ∨ t = 0
    · rw [if_pos f, if_pos (by omega)]
    · rw [if_neg f, if_neg (by omega)]
theorem und10_7 {x1 t x3 : Int} {σ : St} (n : Nat) : fX10_taken_61 49 x1 t (n + 4) x3 7 σ = some (if t = 7 ∨ t = 4 ∨ t = 1 ∨ t = 0 then x3 else -12, σ) := by
  rw [show n + 4 = (n + 3) + 1 from rfl, fX10_taken_61.eq_2]
  unfold fX10_taken_82
  by_cases e : (7 : Int) = t
  · rw [if_pos e, if_pos e, if_pos (by omega)]
  · rw [if_neg e, if_neg e]
    rw [if_neg (by decide), show fX10_above 7 σ = some (4, σ) from by simp [fX10_above], Option.bind_some]
    dsimp only
    rw [und10_4 n]
    by_cases f : t = 4 ∨ t = 1 ∨ t = 0
    · rw [if_pos f, if_pos (by omega)]
    · rw [if_neg f, if_neg (by omega)]
theorem und_both {k t x1 : Int} {σ : St} (h0 : 0 ≤ k) (h7 : k ≤ 7) : ∃ b : Int, (b = 0 ∨ b = 1) ∧ fX5_isUnder k t σ = some (b, σ) ∧ fX10_taken_61 49 x1 t FU k k σ = some (if b = 1 then k else -12, σ) := by
  have hk : k = 0 ∨ k = 1 ∨ k = 2 ∨ k = 3 ∨ k = 4 ∨ k = 5 ∨ k = 6 ∨ k = 7 := by omega
  unfold fX5_isUnder
  rcases hk with rfl | rfl | rfl | rfl | rfl | rfl | rfl | rfl
  · have u := und9_0 (x0 := 0) (t := t) (σ := σ) (i := 0) (FU - 2) (by decide) (by decide)
    have v := und10_0 (x1 := x1) (t := t) (x3 := 0) (σ := σ) (FU - 1)
    rw [show FU - 2 + 2 = FU by unfold FU; rfl] at u
    rw [show FU - 1 + 1 = FU by unfold FU; rfl] at v
    rw [u, v]
    by_cases e : t = 0
    · exact ⟨1, Or.inr rfl, by rw [if_pos e], by rw [if_pos e, if_pos rfl]⟩
    · exact ⟨0, Or.inl rfl, by rw [if_neg e], by rw [if_neg e, if_neg (by decide)]⟩
  · have u := und9_1 (x0 := 1) (t := t) (σ := σ) (i := 0) (FU - 3) (by decide) (by decide)
    have v := und10_1 (x1 := x1) (t := t) (x3 := 1) (σ := σ) (FU - 2)
    rw [show FU - 3 + 3 = FU by unfold FU; rfl] at u
    rw [show FU - 2 + 2 = FU by unfold FU; rfl] at v
    rw [u, v]
    by_cases e : t = 1 ∨ t = 0
    · exact ⟨1, Or.inr rfl, by rw [if_pos e], by rw [if_pos e, if_pos rfl]⟩
    · exact ⟨0, Or.inl rfl, by rw [if_neg e], by rw [if_neg e, if_neg (by decide)]⟩
  · have u := und9_2 (x0 := 2) (t := t) (σ := σ) (i := 0) (FU - 3) (by decide) (by decide)
    have v := und10_2 (x1 := x1) (t := t) (x3 := 2) (σ := σ) (FU - 2)
    rw [show FU - 3 + 3 = FU by unfold FU; rfl] at u
    rw [show FU - 2 + 2 = FU by unfold FU; rfl] at v
    rw [u, v]
    by_cases e : t = 2 ∨ t = 0
    · exact ⟨1, Or.inr rfl, by rw [if_pos e], by rw [if_pos e, if_pos rfl]⟩
    · exact ⟨0, Or.inl rfl, by rw [if_neg e], by rw [if_neg e, if_neg (by decide)]⟩
  · have u := und9_3 (x0 := 3) (t := t) (σ := σ) (i := 0) (FU - 4) (by decide) (by decide)
    have v := und10_3 (x1 := x1) (t := t) (x3 := 3) (σ := σ) (FU - 3)
    rw [show FU - 4 + 4 = FU by unfold FU; rfl] at u
    rw [show FU - 3 + 3 = FU by unfold FU; rfl] at v
    rw [u, v]
    by_cases e : t = 3 ∨ t = 2 ∨ t = 0
    · exact ⟨1, Or.inr rfl, by rw [if_pos e], by rw [if_pos e, if_pos rfl]⟩
    · exact ⟨0, Or.inl rfl, by rw [if_neg e], by rw [if_neg e, if_neg (by decide)]⟩
  · have u := und9_4 (x0 := 4) (t := t) (σ := σ) (i := 0) (FU - 4) (by decide) (by decide)
    have v := und10_4 (x1 := x1) (t := t) (x3 := 4) (σ := σ) (FU - 3)
    rw [show FU - 4 + 4 = FU by unfold FU; rfl] at u
    rw [show FU - 3 + 3 = FU by unfold FU; rfl] at v
    rw [u, v]
    by_cases e : t = 4 ∨ t = 1 ∨ t = 0
    · exact ⟨1, Or.inr rfl, by rw [if_pos e], by rw [if_pos e, if_pos rfl]⟩
    · exact ⟨0, Or.inl rfl, by rw [if_neg e], by rw [if_neg e, if_neg (by decide)]⟩
  · have u := und9_5 (x0 := 5) (t := t) (σ := σ) (i := 0) (FU - 5) (by decide) (by decide)
    have v := und10_5 (x1 := x1) (t := t) (x3 := 5) (σ := σ) (FU - 4)
    rw [show FU - 5 + 5 = FU by unfold FU; rfl] at u
    rw [show FU - 4 + 4 = FU by unfold FU; rfl] at v
    rw [u, v]
    by_cases e : t = 5 ∨ t = 3 ∨ t = 2 ∨ t = 0
    · exact ⟨1, Or.inr rfl, by rw [if_pos e], by rw [if_pos e, if_pos rfl]⟩
    · exact ⟨0, Or.inl rfl, by rw [if_neg e], by rw [if_neg e, if_neg (by decide)]⟩
  · have u := und9_6 (x0 := 6) (t := t) (σ := σ) (i := 0) (FU - 3) (by decide) (by decide)
    have v := und10_6 (x1 := x1) (t := t) (x3 := 6) (σ := σ) (FU - 2)
    rw [show FU - 3 + 3 = FU by unfold FU; rfl] at u
    rw [show FU - 2 + 2 = FU by unfold FU; rfl] at v
    rw [u, v]
    by_cases e : t = 6 ∨ t = 0
    · exact ⟨1, Or.inr rfl, by rw [if_pos e], by rw [if_pos e, if_pos rfl]⟩
    · exact ⟨0, Or.inl rfl, by rw [if_neg e], by rw [if_neg e, if_neg (by decide)]⟩
  · have u := und9_7 (x0 := 7) (t := t) (σ := σ) (i := 0) (FU - 5) (by decide) (by decide)
    have v := und10_7 (x1 := x1) (t := t) (x3 := 7) (σ := σ) (FU - 4)
    rw [show FU - 5 + 5 = FU by unfold FU; rfl] at u
    rw [show FU - 4 + 4 = FU by unfold FU; rfl] at v
    rw [u, v]
    by_cases e : t = 7 ∨ t = 4 ∨ t = 1 ∨ t = 0
    · exact ⟨1, Or.inr rfl, by rw [if_pos e], by rw [if_pos e, if_pos rfl]⟩
    · exact ⟨0, Or.inl rfl, by rw [if_neg e], by rw [if_neg e, if_neg (by decide)]⟩
theorem ag_taken (a1 : Int) (a2 : Int) (ha1 : ok32 a1) (ha2 : ok32 a2) : Ag (fun σ => fX9_taken 0 a1 a2 σ) (fun σ => fX10_taken 49 a1 a2 σ) := by
  intro σ hI
  obtain ⟨h, -, -, -, -, -, -, -, ⟨n, n1, n2, n3, n4, -⟩, i6, -⟩ := id hI
  dsimp only
  unfold fX9_taken fX10_taken
  simp only [rfS, lnS]
  rw [sh9]
  by_cases a : 0 ≤ a1 ∧ a1 < 6
  · obtain ⟨s, hs, rfl⟩ : ∃ s : Nat, s < 6 ∧ a1 = (s : Int) := ⟨a1.toNat, by omega, by omega⟩
    obtain ⟨r1, r2, r3⟩ := sh_rf s hs
    obtain ⟨k1, k2, k3, k4, k5⟩ := i6 s hs
    rw [if_pos a, b1]
    dsimp only
    by_cases b : 0 ≤ a2 ∧ a2 ≤ 7
    · rw [if_neg (by omega), if_pos (by omega), if_pos (show inb (s : Int) 6 from ⟨by omega, by omega⟩)]
      simp only [Int.toNat_natCast, r1]
      have mdl : fX10_isShelf (s : Int) σ = some (1, σ) := by rw [sh10, if_pos a]
      have wi : fX10_within a2 0 7 σ = some (1, σ) := by rw [within_eq, if_pos b]
      rcases k1 with ⟨q1, q2⟩ | ⟨q1, q2, q3, q4⟩ | ⟨q1, q2, q3, q4⟩
      · rw [if_pos q1]
        refine ⟨-11, σ, σ, rfl, ?_, hI⟩
        rw [mdl, b1]
        dsimp only
        rw [wi, b1]
        dsimp only
        rw [if_pos (show inb (s : Int) 6 from ⟨by omega, by omega⟩), if_pos q2]
      · rw [if_neg (by omega), if_pos q1]
        rw [n2] at q4
        unfold fX5_kindOf fX5_has
        simp only [rfS, lnS, n2]
        rw [if_neg (by omega), if_neg (by omega), b1]
        dsimp only
        rw [if_pos ⟨by omega, by omega⟩, Option.bind_some]
        dsimp only
        obtain ⟨m1, m2, m3⟩ := n4 (σ (37 + 2 * s) 2).toNat (by omega)
        obtain ⟨u, u0, u1, u2⟩ := und_both (k := σ 33 (σ (37 + 2 * s) 2).toNat) (t := a2) (x1 := (s : Int)) (σ := σ) m2 m3
        rw [u1, Option.bind_some]
        dsimp only
        refine ⟨if u = 0 then -12 else σ 33 (σ (37 + 2 * s) 2).toNat, σ, σ, ?_, ?_, hI⟩
        · split <;> rfl
        · rw [mdl, b1]
          dsimp only
          rw [wi, b1]
          dsimp only
          rw [if_pos (show inb (s : Int) 6 from ⟨by omega, by omega⟩), if_neg (show ¬ σ 72 s = -1 by omega), isRow_eq hs, if_neg (show ¬ (0 ≤ σ 72 s ∧ σ 72 s ≤ 4) by omega), b0]
          dsimp only
          have e10 : i_sub (σ 72 s) 10 = σ (37 + 2 * s) 2 := by
            rw [isb (ok_in (by omega) (by omega))]
            omega
          simp only [e10]
          rw [if_pos (show inb (s : Int) 6 from ⟨by omega, by omega⟩), if_pos ⟨by omega, by omega⟩, ← m1, u2]
          rcases u0 with rfl | rfl
          · rw [if_neg (by decide), if_pos rfl]
          · rw [if_pos rfl, if_neg (by decide)]
      · rw [if_neg (by omega), if_neg (by omega)]
        refine ⟨-12, σ, σ, rfl, ?_, hI⟩
        rw [mdl, b1]
        dsimp only
        rw [wi, b1]
        dsimp only
        rw [if_pos (show inb (s : Int) 6 from ⟨by omega, by omega⟩), if_neg (show ¬ σ 72 s = -1 by omega), isRow_eq hs, if_pos (show 0 ≤ σ 72 s ∧ σ 72 s ≤ 4 by omega), b1]
    · refine ⟨-1, σ, σ, ?_, ?_, hI⟩
      · split
        · rfl
        · rw [if_neg (by omega)]
      · rw [sh10, if_pos a, b1]
        dsimp only
        rw [within_eq, if_neg b, b0]
  · rw [if_neg a, b0]
    refine ⟨-1, σ, σ, rfl, ?_, hI⟩
    rw [sh10, if_neg a, b0]
