/-! The model's small methods over its arrays. -/
theorem within_eq (x a b : Int) (σ : St) : fX10_within x a b σ = some (if a ≤ x ∧ x ≤ b then 1 else 0, σ) := by
  unfold fX10_within
  repeat' split
  all_goals first | rfl | (exfalso; omega)
theorem isThing_eq {h : Hs} {σ : St} {x : Int} (hh : HM h σ) (hz : Hz h) : fX10_isThing 49 x σ = some (if 0 ≤ x ∧ x < (h.1 : Int) then 1 else 0, σ) := by
  obtain ⟨e1, e2, e3, e4⟩ := hh
  obtain ⟨z1, z2⟩ := hz
  unfold fX10_isThing
  rw [e1, isb (ok_in (by omega) (by omega)), within_eq]
  show (if _ then _ else none) = _
  by_cases a : 0 ≤ x ∧ x < (h.1 : Int)
  · rw [if_pos a, if_pos (show 0 ≤ x ∧ x ≤ (h.1 : Int) - 1 by omega), if_pos (Or.inr rfl)]
  · rw [if_neg a, if_neg (show ¬ (0 ≤ x ∧ x ≤ (h.1 : Int) - 1) by omega), if_pos (Or.inl rfl)]
theorem isOne_eq {h : Hs} {σ : St} {x : Int} (hh : HM h σ) (hz : Hz h) : fX10_isOne 49 x σ = some (if 0 ≤ x ∧ x < (h.2.1 : Int) then 1 else 0, σ) := by
  obtain ⟨e1, e2, e3, e4⟩ := hh
  obtain ⟨z1, z2⟩ := hz
  unfold fX10_isOne
  rw [e2, isb (ok_in (by omega) (by omega)), within_eq]
  show (if _ then _ else none) = _
  by_cases a : 0 ≤ x ∧ x < (h.2.1 : Int)
  · rw [if_pos a, if_pos (show 0 ≤ x ∧ x ≤ (h.2.1 : Int) - 1 by omega), if_pos (Or.inr rfl)]
  · rw [if_neg a, if_neg (show ¬ (0 ≤ x ∧ x ≤ (h.2.1 : Int) - 1) by omega), if_pos (Or.inl rfl)]
/-- a number that one may ask for -/
abbrev hOf (h : Hs) (i w : Int) : Prop := (0 ≤ w ∧ w < 4 ∧ 0 ≤ i ∧ i < (h.1 : Int)) ∨ (4 ≤ w ∧ w < 13 ∧ 0 ≤ i ∧ i < (h.2.1 : Int))
theorem isOf_eq {h : Hs} {σ : St} {i w : Int} (hh : HM h σ) (hz : Hz h) : fX10_isOf 49 i w σ = some (if hOf h i w then 1 else 0, σ) := by
  unfold fX10_isOf
  rw [within_eq]
  simp only [Option.bind_some]
  by_cases a : 0 ≤ w ∧ w ≤ 3
  · rw [if_pos a, if_neg (by decide), isThing_eq hh hz]
    simp only [Option.bind_some]
    by_cases b : 0 ≤ i ∧ i < (h.1 : Int)
    · rw [if_pos b, if_pos (Or.inr rfl), if_pos (show hOf h i w from Or.inl (by omega))]
    · rw [if_neg b, if_pos (Or.inl rfl), if_neg (show ¬ hOf h i w from by omega)]
  · rw [if_neg a, if_pos rfl, within_eq]
    simp only [Option.bind_some]
    by_cases b : 4 ≤ w ∧ w ≤ 12
    · rw [if_pos b, if_neg (by decide), isOne_eq hh hz]
      simp only [Option.bind_some]
      by_cases d : 0 ≤ i ∧ i < (h.2.1 : Int)
      · rw [if_pos d, if_neg (by decide), if_pos (show hOf h i w from Or.inr (by omega))]
      · rw [if_neg d, if_pos rfl, if_neg (show ¬ hOf h i w from by omega)]
    · rw [if_neg b, if_pos rfl, if_neg (show ¬ hOf h i w from by omega)]
theorem get_eq {h : Hs} {σ : St} {i w : Int} (hh : HM h σ) (hz : Hz h) (hv : hOf h i w) : fX10_get 49 i w σ = some (hnum h i w, σ) := by
  obtain ⟨e1, e2, e3, e4⟩ := hh
  obtain ⟨z1, z2⟩ := hz
  unfold fX10_get hnum
  simp only [rfS, lnS]
  rcases hv with a | a
  · rw [if_pos a]
    have e5 := e3 i.toNat (by omega)
    have hw : w = 0 ∨ w = 1 ∨ w = 2 ∨ w = 3 := by omega
    rcases hw with rfl | rfl | rfl | rfl
    · rw [if_pos rfl, if_pos ⟨by omega, by omega⟩, e5.1]; rfl
    · rw [if_neg (by decide), if_pos rfl, if_pos ⟨by omega, by omega⟩, e5.2.1]; rfl
    · rw [if_neg (by decide), if_neg (by decide), if_pos rfl, if_pos ⟨by omega, by omega⟩, e5.2.2.1]; rfl
    · rw [if_neg (by decide), if_neg (by decide), if_neg (by decide), if_pos rfl, if_pos ⟨by omega, by omega⟩, e5.2.2.2]; rfl
  · rw [if_neg (show ¬ (0 ≤ w ∧ w < 4 ∧ 0 ≤ i ∧ i < (h.1 : Int)) by omega), if_pos a]
    have hi : i_add (i_mul 7 (i_sub w 4)) i = 7 * (w - 4) + i := by
      rw [isb (ok_in (by omega) (by omega)), im (ok_in (by omega) (by omega)), ia (ok_in (by omega) (by omega))]
    have e5 := e4 i.toNat (w - 4).toNat (by omega) (by omega)
    rw [show 7 * (w - 4).toNat + i.toNat = (7 * (w - 4) + i).toNat by omega] at e5
    rw [if_neg (by omega), if_neg (by omega), if_neg (by omega), if_neg (by omega), hi, if_pos ⟨by omega, by omega⟩, e5]
theorem becomes_eq {h : Hs} {σ : St} {i w v : Int} (hh : HM h σ) (hz : Hz h) (hv : hOf h i w) : ∃ σ', fX10_becomes 49 i w v σ = some σ' ∧ HM (hset h i w v) σ' ∧ Same σ σ' (fun d => d < 50 ∨ 54 < d) := by
  obtain ⟨e1, e2, e3, e4⟩ := id hh
  obtain ⟨z1, z2⟩ := hz
  unfold fX10_becomes hset
  simp only [rfS, lnS]
  rcases hv with a | a
  · rw [if_pos a]
    have hw : w = 0 ∨ w = 1 ∨ w = 2 ∨ w = 3 := by omega
    have key : ∀ (k : Nat) (t q : Nat), t < 8 → (if t = i.toNat ∧ q = k then v else h.2.2.1 t q) = up2 h.2.2.1 i.toNat k v t q := fun _ _ _ _ => rfl
    rcases hw with rfl | rfl | rfl | rfl
    · rw [if_pos rfl, if_pos ⟨by omega, by omega⟩]
      refine ⟨_, rfl, ⟨?_, ?_, fun t ht => ?_, fun b q hb hq => ?_⟩, fun d hd => up_ne (by omega)⟩
      · rw [up_ne (by decide)]; exact e1
      · rw [up_ne (by decide)]; exact e2
      · have e5 := e3 t ht
        refine ⟨?_, by rw [up_ne (by decide)]; simpa [up2] using e5.2.1, by rw [up_ne (by decide)]; simpa [up2] using e5.2.2.1, by rw [up_ne (by decide)]; simpa [up2] using e5.2.2.2⟩
        simp only [up, up2]
        by_cases hk : t = i.toNat
        · simp [hk]
        · simp [hk, e5.1]
      · rw [up_ne (by decide)]; exact e4 b q hb hq
    · rw [if_neg (by decide), if_pos rfl, if_pos ⟨by omega, by omega⟩]
      refine ⟨_, rfl, ⟨?_, ?_, fun t ht => ?_, fun b q hb hq => ?_⟩, fun d hd => up_ne (by omega)⟩
      · rw [up_ne (by decide)]; exact e1
      · rw [up_ne (by decide)]; exact e2
      · have e5 := e3 t ht
        refine ⟨by rw [up_ne (by decide)]; simpa [up2] using e5.1, ?_, by rw [up_ne (by decide)]; simpa [up2] using e5.2.2.1, by rw [up_ne (by decide)]; simpa [up2] using e5.2.2.2⟩
        simp only [up, up2]
        by_cases hk : t = i.toNat
        · simp [hk]
        · simp [hk, e5.2.1]
      · rw [up_ne (by decide)]; exact e4 b q hb hq
    · rw [if_neg (by decide), if_neg (by decide), if_pos rfl, if_pos ⟨by omega, by omega⟩]
      refine ⟨_, rfl, ⟨?_, ?_, fun t ht => ?_, fun b q hb hq => ?_⟩, fun d hd => up_ne (by omega)⟩
      · rw [up_ne (by decide)]; exact e1
      · rw [up_ne (by decide)]; exact e2
      · have e5 := e3 t ht
        refine ⟨by rw [up_ne (by decide)]; simpa [up2] using e5.1, by rw [up_ne (by decide)]; simpa [up2] using e5.2.1, ?_, by rw [up_ne (by decide)]; simpa [up2] using e5.2.2.2⟩
        simp only [up, up2]
        by_cases hk : t = i.toNat
        · simp [hk]
        · simp [hk, e5.2.2.1]
      · rw [up_ne (by decide)]; exact e4 b q hb hq
    · rw [if_neg (by decide), if_neg (by decide), if_neg (by decide), if_pos rfl, if_pos ⟨by omega, by omega⟩]
      refine ⟨_, rfl, ⟨?_, ?_, fun t ht => ?_, fun b q hb hq => ?_⟩, fun d hd => up_ne (by omega)⟩
      · rw [up_ne (by decide)]; exact e1
      · rw [up_ne (by decide)]; exact e2
      · have e5 := e3 t ht
        refine ⟨by rw [up_ne (by decide)]; simpa [up2] using e5.1, by rw [up_ne (by decide)]; simpa [up2] using e5.2.1, by rw [up_ne (by decide)]; simpa [up2] using e5.2.2.1, ?_⟩
        simp only [up, up2]
        by_cases hk : t = i.toNat
        · simp [hk]
        · simp [hk, e5.2.2.2]
      · rw [up_ne (by decide)]; exact e4 b q hb hq
  · rw [if_neg (show ¬ (0 ≤ w ∧ w < 4 ∧ 0 ≤ i ∧ i < (h.1 : Int)) by omega), if_pos a]
    have hi : i_add (i_mul 7 (i_sub w 4)) i = 7 * (w - 4) + i := by
      rw [isb (ok_in (by omega) (by omega)), im (ok_in (by omega) (by omega)), ia (ok_in (by omega) (by omega))]
    rw [if_neg (by omega), if_neg (by omega), if_neg (by omega), if_neg (by omega), hi, if_pos ⟨by omega, by omega⟩]
    refine ⟨_, rfl, ⟨?_, ?_, fun t ht => ?_, fun b q hb hq => ?_⟩, fun d hd => up_ne (by omega)⟩
    · rw [up_ne (by decide)]; exact e1
    · rw [up_ne (by decide)]; exact e2
    · have e5 := e3 t ht
      exact ⟨by rw [up_ne (by decide)]; exact e5.1, by rw [up_ne (by decide)]; exact e5.2.1, by rw [up_ne (by decide)]; exact e5.2.2.1, by rw [up_ne (by decide)]; exact e5.2.2.2⟩
    · have e5 := e4 b q hb hq
      show (if 54 = 54 ∧ 7 * q + b = (7 * (w - 4) + i).toNat then v else σ 54 (7 * q + b)) = if b = i.toNat ∧ q = (w - 4).toNat then v else h.2.2.2 b q
      by_cases hk : b = i.toNat ∧ q = (w - 4).toNat
      · rw [if_pos hk, if_pos ⟨rfl, by omega⟩]
      · rw [if_neg hk, if_neg (fun z => hk (by omega)), e5]
