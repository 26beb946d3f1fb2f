theorem sub_n1 {h : Nat} (h1 : 1 ≤ h) (h2 : h < 1000) : i_sub (h : Int) 1 = ((h - 1 : Nat) : Int) := by
  rw [isb (ok_in (by omega) (by omega))]
  omega
theorem dec_n1 {h : Nat} (h1 : 2 ≤ h) (h2 : h < 1000) : i_sub (i_add (h : Int) (-1)) 1 = ((h - 2 : Nat) : Int) := by
  rw [dec_eq (v := h) (by omega), isb (ok_in (by omega) (by omega))]
  omega
theorem dec_n {h : Nat} (h1 : 1 ≤ h) (h2 : h < 1000) : i_add (h : Int) (-1) = ((h - 1 : Nat) : Int) := by
  rw [dec_eq (v := h) (by omega)]
  omega
theorem tc_nm6 {c : Int} (h0 : 0 ≤ c) (h5 : c ≤ 5) : i_sub (-1) (tc c) = c := by
  have := (tc_push h0 (Or.inr h5)).2.2 h5
  rw [this, isb (ok_in (by omega) (by omega))]
  omega
theorem neg6 : i_neg ((6 : Nat) : Int) = -6 := by decide
/-- the class works an expression's steps -/
theorem gsegC {τ : St} {st len : Nat} {nm : Nat → Int} {c1 c2 c3 c4 c5 c6 : Int} (hst : st = 8 ∨ st = 9) (h43 : τ 4 3 = (st : Int)) (h48 : τ 4 8 = (len : Int)) (hlen : len ≤ 128) (hnm : ∀ j : Nat, j < 6 → τ 6 j = nm j) : ∀ (L : List Int) (a h k F : Nat) (f : Nat → Int), run 64 L h = some k → h ≤ 64 → (∀ j : Nat, j < L.length → τ st (a + j) = tc (L.getD j 0)) → a + L.length ≤ len → fX4_gives_74 4 c1 c2 c3 c4 c5 c6 (F + L.length) (h : Int) (a : Int) (upc τ 7 f) = fX4_gives_74 4 c1 c2 c3 c4 c5 c6 F (k : Int) ((a + L.length : Nat) : Int) (upc τ 7 (ev nm L h f).2)
  | [], a, h, k, F, f, e, _, _, _ => by
    have : h = k := Option.some.inj e
    rw [this]
    rfl
  | c :: L, a, h, k, F, f, e, hh, hrow, hl => by
    have ll : (c :: L).length = L.length + 1 := rfl
    have hA : isA 1 st = true ∧ LN st = 128 := by
      rcases hst with rfl | rfl
      · exact ⟨by decide +kernel, rfl⟩
      · exact ⟨by decide +kernel, rfl⟩
    have r0 : τ st a = tc c := by
      have := hrow 0 (by rw [ll]; omega)
      exact this
    have rw' : ∀ j : Nat, j < L.length → τ st (a + 1 + j) = tc (L.getD j 0) := fun j hj => by
      have := hrow (j + 1) (by rw [ll]; omega)
      rw [show a + 1 + j = a + (j + 1) by omega]
      exact this
    have ih := fun (h' : Nat) (f' : Nat → Int) (e' : run 64 L h' = some k) (hh' : h' ≤ 64) => gsegC hst h43 h48 hlen hnm (c1 := c1) (c2 := c2) (c3 := c3) (c4 := c4) (c5 := c5) (c6 := c6) L (a + 1) h' k F f' e' hh' rw' (by rw [ll] at hl; omega)
    have al : a + 1 ≤ len := by rw [ll] at hl; omega
    have g43 : upc τ 7 f 4 3 = (st : Int) := by rw [upc_ne (by decide)]; exact h43
    have g48 : upc τ 7 f 4 8 = (len : Int) := by rw [upc_ne (by decide)]; exact h48
    have gst : upc τ 7 f st a = tc c := by rw [upc_ne (by omega)]; exact r0
    have g7 : ∀ j : Nat, upc τ 7 f 7 j = f j := fun j => by rw [upc_e]
    rw [ll, show F + (L.length + 1) = (F + L.length) + 1 by omega, fX4_gives_74.eq_2]
    unfold fX4_gives_226 fX4_gives_257 fX4_gives_137 fX4_gives_298
    simp only [rfS, lnS, g43, g48, Int.toNat_natCast, hA.2, gst, neg6]
    clear hrow rw' r0 gst g43 g48 h43 h48
    rw [if_neg (by omega), if_pos hA.1, if_pos ⟨by omega, by omega⟩, ia_n (r := a) (by omega)]
    unfold run at e
    unfold ev
    split at e
    · exact absurd e (by simp)
    rename_i q0
    split at e
    · rename_i q2
      rw [if_pos q2]
      split at e
      case isFalse => exact absurd e (by simp)
      rename_i hH
      obtain ⟨t1, t2, t3⟩ := tc_push (c := c) (by omega) q2
      rw [if_neg (by omega), if_pos (by omega), ia_n (r := h) (by omega)]
      by_cases z : 18 ≤ c
      · rw [if_neg (by rw [t2 z]; omega), if_pos ⟨by omega, by omega⟩, t2 z, upc_up, if_pos z, show a + (L.length + 1) = a + 1 + L.length by omega]
        exact ih (h + 1) _ e (by omega)
      · have z5 : c ≤ 5 := by omega
        have gn : upc τ 7 f 6 c.toNat = nm c.toNat := by
          rw [upc_ne (by decide)]
          exact hnm c.toNat (by omega)
        rw [if_pos (by rw [t3 z5]; omega), tc_nm6 (by omega) z5, if_pos ⟨by omega, by omega⟩, if_pos ⟨by omega, by omega⟩, gn, upc_up, if_neg z, show a + (L.length + 1) = a + 1 + L.length by omega]
        exact ih (h + 1) _ e (by omega)
    · rename_i q2
      rw [if_neg q2]
      obtain ⟨t1, t2, t3, t4, t5, t6⟩ := tc_op (c := c) (by omega) (by omega)
      split at e
      · rename_i q3
        rw [if_pos q3]
        split at e
        case isFalse => exact absurd e (by simp)
        rename_i hH
        rw [if_pos t1, if_pos (by omega), sub_n1 (h := h) (by omega) (by omega), if_pos ⟨by omega, by omega⟩, if_neg t2, if_pos t3]
        simp only [Int.toNat_natCast, g7]
        have jb : inb ((h - 1 : Nat) : Int) 64 := ⟨by omega, by omega⟩
        simp only [if_pos jb]
        rcases q3 with z | z
        · rw [if_pos (t4 z), if_neg (by rw [t4 z]; decide)]
          have eu : unv c (f (h - 1)) = if f (h - 1) = 0 then 1 else 0 := by
            unfold unv
            rw [if_neg (by omega)]
          rw [eu]
          by_cases y : f (h - 1) = 0
          · rw [if_pos y, if_pos y, upc_up, show a + (L.length + 1) = a + 1 + L.length by omega]
            exact ih h _ e hh
          · rw [if_neg y, if_neg y, upc_up, show a + (L.length + 1) = a + 1 + L.length by omega]
            exact ih h _ e hh
        · have eu : unv c (f (h - 1)) = i_neg (f (h - 1)) := by
            unfold unv
            rw [if_pos z]
          rw [if_neg (by rw [t5 z]; decide), if_pos (t5 z), if_pos (t5 z), eu, upc_up, show a + (L.length + 1) = a + 1 + L.length by omega]
          exact ih h _ e hh
      · rename_i q3
        rw [if_neg q3]
        split at e
        case isFalse => exact absurd e (by simp)
        rename_i hH
        have c15 : c ≤ 15 := by omega
        rw [if_pos t1, dec_n1 (h := h) (by omega) (by omega), dec_n (h := h) (by omega) (by omega), sub_n1 (h := h) (by omega) (by omega), if_pos (by omega), if_pos ⟨by omega, by omega⟩, if_neg t2, if_pos t3, if_neg (t6 c15).1, if_neg (t6 c15).2, if_pos (by omega), if_pos ⟨by omega, by omega⟩]
        simp only [Int.toNat_natCast, g7]
        rw [work9 (by omega) c15, Option.bind_some, if_pos ⟨by omega, by omega⟩]
        dsimp only
        rw [upc_up, show a + (L.length + 1) = a + 1 + L.length by omega]
        exact ih (h - 1) _ e (by omega)
