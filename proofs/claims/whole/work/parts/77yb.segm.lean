/-- the model works an expression's codes -/
theorem gsegM {τ : St} {nm : Nat → Int} {x1 : Int} {to : Nat} (hnm : ∀ j : Nat, j < 6 → τ 65 j = nm j) : ∀ (L : List Int) (a h k F : Nat) (f : Nat → Int), run 64 L h = some k → h ≤ 64 → (∀ j : Nat, j < L.length → τ 59 (a + j) = L.getD j 0) → a + L.length ≤ to → to ≤ 200 → fX10_worked_5 49 x1 (to : Int) (F + L.length) (h : Int) (a : Int) (upc τ 64 f) = fX10_worked_5 49 x1 (to : Int) F (k : Int) ((a + L.length : Nat) : Int) (upc τ 64 (ev nm L h f).2)
  | [], a, h, k, F, f, e, _, _, _, _ => by
    have : h = k := Option.some.inj e
    rw [this]
    rfl
  | c :: L, a, h, k, F, f, e, hh, hrow, hl, hto => by
    have ll : (c :: L).length = L.length + 1 := rfl
    have r0 : τ 59 a = c := by
      have := hrow 0 (by rw [ll]; omega)
      exact this
    have rw' : ∀ j : Nat, j < L.length → τ 59 (a + 1 + j) = L.getD j 0 := fun j hj => by
      have := hrow (j + 1) (by rw [ll]; omega)
      rw [show a + 1 + j = a + (j + 1) by omega]
      exact this
    have ih := fun (h' : Nat) (f' : Nat → Int) (e' : run 64 L h' = some k) (hh' : h' ≤ 64) => gsegM (x1 := x1) (to := to) hnm L (a + 1) h' k F f' e' hh' rw' (by rw [ll] at hl; omega) hto
    have al : a + 1 ≤ to := by rw [ll] at hl; omega
    have gst : upc τ 64 f 59 a = c := by rw [upc_ne (by decide)]; exact r0
    have g7 : ∀ j : Nat, upc τ 64 f 64 j = f j := fun j => by rw [upc_e]
    rw [ll, show F + (L.length + 1) = (F + L.length) + 1 by omega, fX10_worked_5.eq_2]
    unfold fX10_worked_33 fX10_worked_81 fX10_worked_63 fX10_worked_123 fX10_worked_157
    simp only [rfS, lnS, Int.toNat_natCast, gst]
    clear hrow rw' r0 gst
    rw [if_neg (by omega), if_pos ⟨by omega, by omega⟩, ia_n (r := a) (by omega)]
    unfold run at e
    unfold ev
    split at e
    · exact absurd e (by simp)
    rename_i q0
    split at e
    · rename_i q2
      rw [if_pos q2]
      split at e
      case isFalse => exact absurd e (by simp)
      rename_i hH
      rw [ia_n (r := h) (by omega)]
      by_cases z : 18 ≤ c
      · rw [if_pos z, if_neg (by omega), if_pos ⟨by omega, by omega⟩, isb (ok_in (by omega) (by omega)), upc_up, if_pos z, show a + (L.length + 1) = a + 1 + L.length by omega]
        exact ih (h + 1) _ e (by omega)
      · have z5 : c ≤ 5 := by omega
        have gn : upc τ 64 f 65 c.toNat = nm c.toNat := by
          rw [upc_ne (by decide)]
          exact hnm c.toNat (by omega)
        rw [if_neg z, if_neg (by omega), if_pos (by omega), if_pos ⟨by omega, by omega⟩, if_pos ⟨by omega, by omega⟩, gn, upc_up, if_neg z, show a + (L.length + 1) = a + 1 + L.length by omega]
        exact ih (h + 1) _ e (by omega)
    · rename_i q2
      rw [if_neg q2]
      split at e
      · rename_i q3
        rw [if_pos q3]
        split at e
        case isFalse => exact absurd e (by simp)
        rename_i hH
        rw [if_neg (by omega), if_pos (by omega), sub_n1 (h := h) (by omega) (by omega)]
        simp only [Int.toNat_natCast, g7]
        have jb : inb ((h - 1 : Nat) : Int) 200 := ⟨by omega, by omega⟩
        simp only [if_pos jb]
        rcases q3 with z | z
        · rw [if_pos z, if_neg (by omega)]
          have eu : unv c (f (h - 1)) = if f (h - 1) = 0 then 1 else 0 := by
            unfold unv
            rw [if_neg (by omega)]
          rw [eu]
          by_cases y : f (h - 1) = 0
          · rw [if_pos y, if_pos y, upc_up, show a + (L.length + 1) = a + 1 + L.length by omega]
            exact ih h _ e hh
          · rw [if_neg y, if_neg y, upc_up, show a + (L.length + 1) = a + 1 + L.length by omega]
            exact ih h _ e hh
        · have eu : unv c (f (h - 1)) = i_neg (f (h - 1)) := by
            unfold unv
            rw [if_pos z]
          rw [if_neg (by omega), if_pos z, if_pos z, eu, upc_up, show a + (L.length + 1) = a + 1 + L.length by omega]
          exact ih h _ e hh
      · rename_i q3
        rw [if_neg q3]
        split at e
        case isFalse => exact absurd e (by simp)
        rename_i hH
        rw [if_neg (by omega), if_pos (by omega), if_neg (by omega), if_neg (by omega), dec_n1 (h := h) (by omega) (by omega), dec_n (h := h) (by omega) (by omega), if_pos ⟨by omega, by omega⟩, if_pos ⟨by omega, by omega⟩]
        simp only [Int.toNat_natCast, g7]
        rw [both10, Option.bind_some, if_pos ⟨by omega, by omega⟩]
        dsimp only
        rw [upc_up, show a + (L.length + 1) = a + 1 + L.length by omega]
        exact ih (h - 1) _ e (by omega)
