/-! What a number may be: class and model ask alike. -/
theorem within9 {w v : Int} {σ : St} (h0 : 0 ≤ w) (h1 : w < 13) : fX9_isWithin w v σ = some (if 0 ≤ v ∧ v ≤ most w then 1 else 0, σ) := by
  unfold fX9_isWithin
  have hl : inb w (List.length stv0) := ⟨h0, by show w < 13; exact h1⟩
  by_cases a : v < 0
  · rw [if_pos a, if_neg (by omega)]
  · rw [if_neg a, if_pos hl]
    show (if most w < v then _ else _) = _
    by_cases b : most w < v
    · rw [if_pos b, if_neg (by omega)]
    · rw [if_neg b, if_pos (by omega)]
theorem mayBe_y {h : Hs} {w v : Int} {σ : St} (hh : HC 1 h σ) (h0 : 0 ≤ w) (h1 : w < 13) (f : fitv h w v) : fX9_mayBe 0 w v σ = some (1, σ) := by
  unfold fX9_mayBe
  simp only [rfS]
  rcases f with ⟨q1, q2⟩ | ⟨q1, q2, q3⟩
  · rw [if_pos q1]
    by_cases e : v = -1
    · rw [if_pos e]
    · rw [if_neg e, hasBidder_eq hh, if_pos (by omega), b1]
  · rw [if_neg q1, within9 h0 h1, if_pos ⟨q2, q3⟩, Option.bind_some]
    exact if_pos (Or.inr rfl)
theorem mayBe_n {h : Hs} {w v : Int} {σ : St} (hh : HC 1 h σ) (h0 : 0 ≤ w) (h1 : w < 13) (f : ¬ fitv h w v) : fX9_mayBe 0 w v σ = some (0, σ) := by
  unfold fX9_mayBe
  simp only [rfS]
  unfold fitv at f
  by_cases q : w = 1
  · rw [if_pos q, if_neg (fun e => f (Or.inl ⟨q, Or.inl e⟩)), hasBidder_eq hh, if_neg (fun e => f (Or.inl ⟨q, Or.inr e⟩)), b0]
  · rw [if_neg q, within9 h0 h1, if_neg (fun e => f (Or.inr ⟨q, e.1, e.2⟩)), Option.bind_some]
    exact if_pos (Or.inl rfl)
theorem w01 {a b v : Int} {σ : St} : (Option.bind (fX10_within v a b σ) fun q => if q.1 = 0 ∨ q.1 = 1 then some (q.1, q.2) else none) = some (if a ≤ v ∧ v ≤ b then 1 else 0, σ) := by
  rw [within_eq, Option.bind_some]
  split
  · exact if_pos (Or.inr rfl)
  · exact if_pos (Or.inl rfl)
theorem isFit_w {h : Hs} {w v : Int} {σ : St} (hh : HM h σ) (hz : Hz h) (h0 : 0 ≤ w) (h1 : w < 13) : fX10_isFit 49 w v σ = some (if w = 1 then (if v = -1 ∨ (0 ≤ v ∧ v < (h.2.1 : Int)) then 1 else 0) else (if 0 ≤ v ∧ v ≤ most w then 1 else 0), σ) := by
  unfold fX10_isFit
  simp only [w01]
  have hw : w = 0 ∨ w = 1 ∨ w = 2 ∨ w = 3 ∨ w = 4 ∨ w = 5 ∨ w = 6 ∨ w = 7 ∨ w = 8 ∨ w = 9 ∨ w = 10 ∨ w = 11 ∨ w = 12 := by omega
  rcases hw with rfl | rfl | rfl | rfl | rfl | rfl | rfl | rfl | rfl | rfl | rfl | rfl | rfl
  · rfl
  · rw [if_neg (by decide), if_pos rfl, if_pos rfl]
    by_cases e : v = -1
    · rw [if_pos e, if_pos (Or.inl e)]
    · rw [if_neg e, isOne_eq hh hz]
      by_cases f : 0 ≤ v ∧ v < (h.2.1 : Int)
      · rw [if_pos f, b1, if_pos (Or.inr f)]
      · rw [if_neg f, b0, if_neg (by omega)]
  all_goals rfl
theorem isFit_y {h : Hs} {w v : Int} {σ : St} (hh : HM h σ) (hz : Hz h) (h0 : 0 ≤ w) (h1 : w < 13) (f : fitv h w v) : fX10_isFit 49 w v σ = some (1, σ) := by
  rw [isFit_w hh hz h0 h1]
  rcases f with ⟨q1, q2⟩ | ⟨q1, q2, q3⟩
  · rw [if_pos q1, if_pos q2]
  · rw [if_neg q1, if_pos ⟨q2, q3⟩]
theorem isFit_n {h : Hs} {w v : Int} {σ : St} (hh : HM h σ) (hz : Hz h) (h0 : 0 ≤ w) (h1 : w < 13) (f : ¬ fitv h w v) : fX10_isFit 49 w v σ = some (0, σ) := by
  rw [isFit_w hh hz h0 h1]
  unfold fitv at f
  by_cases q : w = 1
  · rw [if_pos q, if_neg (fun e => f (Or.inl ⟨q, e⟩))]
  · rw [if_neg q, if_neg (fun e => f (Or.inr ⟨q, e.1, e.2⟩))]
