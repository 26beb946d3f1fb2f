/-! Over plain functions the law answers 1: from the forty-one agreements. -/
theorem ok_lor (x y : Int) : ok64 (l_or x y) := by
  unfold l_or
  exact ok64_toInt _
set_option maxRecDepth 20000 in
theorem law_loop (xs : Nat → Int) (LS : Nat) (hL : LS ≤ 3072) (hx : ∀ j, ok32 (xs j)) : ∀ (n : Nat) (i : Nat) (σ : St), Inv σ → i ≤ LS → LS < i + 6 * n → ∃ σ' : St, fL_law_18 xs LS 0 49 n (i : Int) σ = some (1, σ') := by
  intro n
  induction n with
  | zero => intro i σ _ h1 h2; omega
  | succ n ih =>
    intro i σ hI h1 h2
    rw [fL_law_18.eq_2, isb (ok_in (by omega) (by omega))]
    by_cases hd : (LS : Int) - 6 < (i : Int)
    · rw [if_pos hd]
      exact ⟨σ, rfl⟩
    · rw [if_neg hd]
      have b0 : inb (i : Int) LS := ⟨by omega, by omega⟩
      have e1 : i_add (i : Int) 1 = (i : Int) + 1 := ia (ok_in (by omega) (by omega))
      have e2 : i_add (i : Int) 2 = (i : Int) + 2 := ia (ok_in (by omega) (by omega))
      have e3 : i_add (i : Int) 3 = (i : Int) + 3 := ia (ok_in (by omega) (by omega))
      have e4 : i_add (i : Int) 4 = (i : Int) + 4 := ia (ok_in (by omega) (by omega))
      have e5 : i_add (i : Int) 5 = (i : Int) + 5 := ia (ok_in (by omega) (by omega))
      have b1 : inb (i_add (i : Int) 1) LS := by rw [e1]; exact ⟨by omega, by omega⟩
      have b2 : inb (i_add (i : Int) 2) LS := by rw [e2]; exact ⟨by omega, by omega⟩
      have b3 : inb (i_add (i : Int) 3) LS := by rw [e3]; exact ⟨by omega, by omega⟩
      have b4 : inb (i_add (i : Int) 4) LS := by rw [e4]; exact ⟨by omega, by omega⟩
      have b5 : inb (i_add (i : Int) 5) LS := by rw [e5]; exact ⟨by omega, by omega⟩
      have go : ∀ σ2 : St, Inv σ2 → ∃ σ' : St, fL_law_1476 xs LS 0 49 (fL_law_18 xs LS 0 49 n) (i : Int) σ2 = some (1, σ') := by
        intro σ2 h
        unfold fL_law_1476
        rw [show i_add (i : Int) 6 = ((i + 6 : Nat) : Int) from by rw [ia (ok_in (by omega) (by omega))]; omega]
        exact ih (i + 6) σ2 h (by omega) (by omega)
      rw [if_pos b0]
      by_cases c0 : i_and (xs (Int.toNat (i : Int))) 63 = 0
      · obtain ⟨r, σ1, σ2, f1, f2, f3⟩ := ag_thing (xs (Int.toNat (i_add (i : Int) 1))) (hx _) σ hI
        dsimp only at f1 f2
        rw [if_pos c0]
        rw [if_pos b1]
        rw [f1, Option.bind_some]
        rw [if_pos b1]
        rw [f2, Option.bind_some]
        rw [if_pos rfl]
        exact go σ2 f3
      rw [if_neg c0]
      by_cases c1 : i_and (xs (Int.toNat (i : Int))) 63 = 1
      · obtain ⟨r, σ1, σ2, f1, f2, f3⟩ := ag_bidder (xs (Int.toNat (i_add (i : Int) 1))) (xs (Int.toNat (i_add (i : Int) 2))) (hx _) (hx _) σ hI
        dsimp only at f1 f2
        rw [if_pos c1]
        rw [if_pos b1]
        rw [if_pos b2]
        rw [f1, Option.bind_some]
        rw [if_pos b1]
        rw [if_pos b2]
        rw [f2, Option.bind_some]
        rw [if_pos rfl]
        exact go σ2 f3
      rw [if_neg c1]
      by_cases c2 : i_and (xs (Int.toNat (i : Int))) 63 = 2
      · obtain ⟨r, σ1, σ2, f1, f2, f3⟩ := ag_bidders (xs (Int.toNat (i_add (i : Int) 1))) (xs (Int.toNat (i_add (i : Int) 2))) (xs (Int.toNat (i_add (i : Int) 3))) (hx _) (hx _) (hx _) σ hI
        dsimp only at f1 f2
        rw [if_pos c2]
        rw [if_pos b1]
        rw [if_pos b2]
        rw [if_pos b3]
        rw [f1, Option.bind_some]
        rw [if_pos b1]
        rw [if_pos b2]
        rw [if_pos b3]
        rw [f2, Option.bind_some]
        rw [if_pos rfl]
        exact go σ2 f3
      rw [if_neg c2]
      by_cases c3 : i_and (xs (Int.toNat (i : Int))) 63 = 3
      · obtain ⟨r, σ1, σ2, f1, f2, f3⟩ := ag_mend (xs (Int.toNat (i_add (i : Int) 1))) (xs (Int.toNat (i_add (i : Int) 2))) (xs (Int.toNat (i_add (i : Int) 3))) (hx _) (hx _) (hx _) σ hI
        dsimp only at f1 f2
        rw [if_pos c3]
        rw [if_pos b1]
        rw [if_pos b2]
        rw [if_pos b3]
        rw [f1, Option.bind_some]
        rw [if_pos b1]
        rw [if_pos b2]
        rw [if_pos b3]
        rw [f2, Option.bind_some]
        rw [if_pos rfl]
        exact go σ2 f3
      rw [if_neg c3]
      by_cases c4 : i_and (xs (Int.toNat (i : Int))) 63 = 4
      · obtain ⟨r, σ1, σ2, f1, f2, f3⟩ := ag_of (xs (Int.toNat (i_add (i : Int) 1))) (xs (Int.toNat (i_add (i : Int) 2))) (hx _) (hx _) σ hI
        dsimp only at f1 f2
        rw [if_pos c4]
        rw [if_pos b1]
        rw [if_pos b2]
        rw [f1, Option.bind_some]
        rw [if_pos b1]
        rw [if_pos b2]
        rw [f2, Option.bind_some]
        rw [if_pos rfl]
        exact go σ2 f3
      rw [if_neg c4]
      by_cases c5 : i_and (xs (Int.toNat (i : Int))) 63 = 5
      · obtain ⟨r, σ1, σ2, f1, f2, f3⟩ := ag_feed (xs (Int.toNat (i_add (i : Int) 1))) (hx _) σ hI
        dsimp only at f1 f2
        rw [if_pos c5]
        rw [if_pos b1]
        rw [f1, Option.bind_some]
        rw [if_pos b1]
        rw [f2, Option.bind_some]
        rw [if_pos rfl]
        exact go σ2 f3
      rw [if_neg c5]
      by_cases c6 : i_and (xs (Int.toNat (i : Int))) 63 = 6
      · obtain ⟨r, σ1, σ2, f1, f2, f3⟩ := ag_law σ hI
        dsimp only at f1 f2
        rw [if_pos c6]
        rw [f1, Option.bind_some]
        rw [f2, Option.bind_some]
        rw [if_pos rfl]
        exact go σ2 f3
      rw [if_neg c6]
      by_cases c7 : i_and (xs (Int.toNat (i : Int))) 63 = 7
      · obtain ⟨r, σ1, σ2, f1, f2, f3⟩ := ag_years (xs (Int.toNat (i_add (i : Int) 1))) (xs (Int.toNat (i_add (i : Int) 2))) (hx _) (hx _) σ hI
        dsimp only at f1 f2
        rw [if_pos c7]
        rw [if_pos b1]
        rw [if_pos b2]
        rw [f1, Option.bind_some]
        rw [if_pos b1]
        rw [if_pos b2]
        rw [f2, Option.bind_some]
        rw [if_pos rfl]
        exact go σ2 f3
      rw [if_neg c7]
      by_cases c8 : i_and (xs (Int.toNat (i : Int))) 63 = 8
      · obtain ⟨r, σ1, σ2, f1, f2, f3⟩ := ag_wins (xs (Int.toNat (i_add (i : Int) 1))) (hx _) σ hI
        dsimp only at f1 f2
        rw [if_pos c8]
        rw [if_pos b1]
        rw [f1, Option.bind_some]
        rw [if_pos b1]
        rw [f2, Option.bind_some]
        rw [if_pos rfl]
        exact go σ2 f3
      rw [if_neg c8]
      by_cases c9 : i_and (xs (Int.toNat (i : Int))) 63 = 9
      · obtain ⟨r, σ1, σ2, f1, f2, f3⟩ := ag_sale (xs (Int.toNat (i_add (i : Int) 1))) (xs (Int.toNat (i_add (i : Int) 2))) (hx _) (hx _) σ hI
        dsimp only at f1 f2
        rw [if_pos c9]
        rw [if_pos b1]
        rw [if_pos b2]
        rw [f1, Option.bind_some]
        rw [if_pos b1]
        rw [if_pos b2]
        rw [f2, Option.bind_some]
        rw [if_pos rfl]
        exact go σ2 f3
      rw [if_neg c9]
      by_cases c10 : i_and (xs (Int.toNat (i : Int))) 63 = 10
      · obtain ⟨r, σ1, σ2, f1, f2, f3⟩ := ag_after (xs (Int.toNat (i_add (i : Int) 1))) (xs (Int.toNat (i_add (i : Int) 2))) (xs (Int.toNat (i_add (i : Int) 3))) (hx _) (hx _) (hx _) σ hI
        dsimp only at f1 f2
        rw [if_pos c10]
        rw [if_pos b1]
        rw [if_pos b2]
        rw [if_pos b3]
        rw [f1, Option.bind_some]
        rw [if_pos b1]
        rw [if_pos b2]
        rw [if_pos b3]
        rw [f2, Option.bind_some]
        rw [if_pos rfl]
        exact go σ2 f3
      rw [if_neg c10]
      by_cases c11 : i_and (xs (Int.toNat (i : Int))) 63 = 11
      · obtain ⟨r, σ1, σ2, f1, f2, f3⟩ := ag_bestOrder (xs (Int.toNat (i_add (i : Int) 1))) (xs (Int.toNat (i_add (i : Int) 2))) (hx _) (hx _) σ hI
        dsimp only at f1 f2
        rw [if_pos c11]
        rw [if_pos b1]
        rw [if_pos b2]
        rw [f1, Option.bind_some]
        rw [if_pos b1]
        rw [if_pos b2]
        rw [f2, Option.bind_some]
        rw [if_pos rfl]
        exact go σ2 f3
      rw [if_neg c11]
      by_cases c12 : i_and (xs (Int.toNat (i : Int))) 63 = 12
      · obtain ⟨r, σ1, σ2, f1, f2, f3⟩ := ag_feign (xs (Int.toNat (i_add (i : Int) 1))) (hx _) σ hI
        dsimp only at f1 f2
        rw [if_pos c12]
        rw [if_pos b1]
        rw [f1, Option.bind_some]
        rw [if_pos b1]
        rw [f2, Option.bind_some]
        rw [if_pos rfl]
        exact go σ2 f3
      rw [if_neg c12]
      by_cases c13 : i_and (xs (Int.toNat (i : Int))) 63 = 13
      · obtain ⟨r, σ1, σ2, f1, f2, f3⟩ := ag_examined (xs (Int.toNat (i_add (i : Int) 1))) (xs (Int.toNat (i_add (i : Int) 2))) (hx _) (hx _) σ hI
        dsimp only at f1 f2
        rw [if_pos c13]
        rw [if_pos b1]
        rw [if_pos b2]
        rw [f1, Option.bind_some]
        rw [if_pos b1]
        rw [if_pos b2]
        rw [f2, Option.bind_some]
        rw [if_pos rfl]
        exact go σ2 f3
      rw [if_neg c13]
      by_cases c14 : i_and (xs (Int.toNat (i : Int))) 63 = 14
      · obtain ⟨r, σ1, σ2, f1, f2, f3⟩ := ag_dealt (xs (Int.toNat (i_add (i : Int) 1))) (hx _) σ hI
        dsimp only at f1 f2
        rw [if_pos c14]
        rw [if_pos b1]
        rw [f1, Option.bind_some]
        rw [if_pos b1]
        rw [f2, Option.bind_some]
        rw [if_pos rfl]
        exact go σ2 f3
      rw [if_neg c14]
      by_cases c15 : i_and (xs (Int.toNat (i : Int))) 63 = 15
      · obtain ⟨r, σ1, σ2, f1, f2, f3⟩ := ag_hands σ hI
        dsimp only at f1 f2
        rw [if_pos c15]
        rw [f1, Option.bind_some]
        rw [f2, Option.bind_some]
        rw [if_pos rfl]
        exact go σ2 f3
      rw [if_neg c15]
      by_cases c16 : i_and (xs (Int.toNat (i : Int))) 63 = 16
      · obtain ⟨r, σ1, σ2, f1, f2, f3⟩ := ag_later (xs (Int.toNat (i_add (i : Int) 1))) (xs (Int.toNat (i_add (i : Int) 2))) (xs (Int.toNat (i_add (i : Int) 3))) (hx _) (hx _) (hx _) σ hI
        dsimp only at f1 f2
        rw [if_pos c16]
        rw [if_pos b1]
        rw [if_pos b2]
        rw [if_pos b3]
        rw [f1, Option.bind_some]
        rw [if_pos b1]
        rw [if_pos b2]
        rw [if_pos b3]
        rw [f2, Option.bind_some]
        rw [if_pos rfl]
        exact go σ2 f3
      rw [if_neg c16]
      by_cases c17 : i_and (xs (Int.toNat (i : Int))) 63 = 17
      · obtain ⟨r, σ1, σ2, f1, f2, f3⟩ := ag_missed (xs (Int.toNat (i_add (i : Int) 1))) (hx _) σ hI
        dsimp only at f1 f2
        rw [if_pos c17]
        rw [if_pos b1]
        rw [f1, Option.bind_some]
        rw [if_pos b1]
        rw [f2, Option.bind_some]
        rw [if_pos rfl]
        exact go σ2 f3
      rw [if_neg c17]
      by_cases c18 : i_and (xs (Int.toNat (i : Int))) 63 = 18
      · obtain ⟨r, σ1, σ2, f1, f2, f3⟩ := ag_judge (xs (Int.toNat (i_add (i : Int) 1))) (hx _) σ hI
        dsimp only at f1 f2
        rw [if_pos c18]
        rw [if_pos b1]
        rw [f1, Option.bind_some]
        rw [if_pos b1]
        rw [f2, Option.bind_some]
        rw [if_pos rfl]
        exact go σ2 f3
      rw [if_neg c18]
      by_cases c19 : i_and (xs (Int.toNat (i : Int))) 63 = 19
      · obtain ⟨r, σ1, σ2, f1, f2, f3⟩ := ag_fits (xs (Int.toNat (i_add (i : Int) 1))) (xs (Int.toNat (i_add (i : Int) 2))) (xs (Int.toNat (i_add (i : Int) 3))) (hx _) (hx _) (hx _) σ hI
        dsimp only at f1 f2
        rw [if_pos c19]
        rw [if_pos b1]
        rw [if_pos b2]
        rw [if_pos b3]
        rw [f1, Option.bind_some]
        rw [if_pos b1]
        rw [if_pos b2]
        rw [if_pos b3]
        rw [f2, Option.bind_some]
        rw [if_pos rfl]
        exact go σ2 f3
      rw [if_neg c19]
      by_cases c20 : i_and (xs (Int.toNat (i : Int))) 63 = 20
      · obtain ⟨r, σ1, σ2, f1, f2, f3⟩ := ag_byTurns (xs (Int.toNat (i_add (i : Int) 1))) (xs (Int.toNat (i_add (i : Int) 2))) (xs (Int.toNat (i_add (i : Int) 3))) (xs (Int.toNat (i_add (i : Int) 4))) (hx _) (hx _) (hx _) (hx _) σ hI
        dsimp only at f1 f2
        rw [if_pos c20]
        rw [if_pos b1]
        rw [if_pos b2]
        rw [if_pos b3]
        rw [if_pos b4]
        rw [f1, Option.bind_some]
        rw [if_pos b1]
        rw [if_pos b2]
        rw [if_pos b3]
        rw [if_pos b4]
        rw [f2, Option.bind_some]
        rw [if_pos rfl]
        exact go σ2 f3
      rw [if_neg c20]
      by_cases c21 : i_and (xs (Int.toNat (i : Int))) 63 = 21
      · obtain ⟨r, σ1, σ2, f1, f2, f3⟩ := ag_drawn (xs (Int.toNat (i_add (i : Int) 1))) (xs (Int.toNat (i_add (i : Int) 2))) (xs (Int.toNat (i_add (i : Int) 3))) (xs (Int.toNat (i_add (i : Int) 4))) (hx _) (hx _) (hx _) (hx _) σ hI
        dsimp only at f1 f2
        rw [if_pos c21]
        rw [if_pos b1]
        rw [if_pos b2]
        rw [if_pos b3]
        rw [if_pos b4]
        rw [f1, Option.bind_some]
        rw [if_pos b1]
        rw [if_pos b2]
        rw [if_pos b3]
        rw [if_pos b4]
        rw [f2, Option.bind_some]
        rw [if_pos rfl]
        exact go σ2 f3
      rw [if_neg c21]
      by_cases c22 : i_and (xs (Int.toNat (i : Int))) 63 = 22
      · obtain ⟨r, σ1, σ2, f1, f2, f3⟩ := ag_putUp (xs (Int.toNat (i_add (i : Int) 1))) (hx _) σ hI
        dsimp only at f1 f2
        rw [if_pos c22]
        rw [if_pos b1]
        rw [f1, Option.bind_some]
        rw [if_pos b1]
        rw [f2, Option.bind_some]
        rw [if_pos rfl]
        exact go σ2 f3
      rw [if_neg c22]
      by_cases c23 : i_and (xs (Int.toNat (i : Int))) 63 = 23
      · obtain ⟨r, σ1, σ2, f1, f2, f3⟩ := ag_loses (xs (Int.toNat (i_add (i : Int) 1))) (hx _) σ hI
        dsimp only at f1 f2
        rw [if_pos c23]
        rw [if_pos b1]
        rw [f1, Option.bind_some]
        rw [if_pos b1]
        rw [f2, Option.bind_some]
        rw [if_pos rfl]
        exact go σ2 f3
      rw [if_neg c23]
      by_cases c24 : i_and (xs (Int.toNat (i : Int))) 63 = 24
      · obtain ⟨r, σ1, σ2, f1, f2, f3⟩ := ag_slip (xs (Int.toNat (i_add (i : Int) 1))) (xs (Int.toNat (i_add (i : Int) 2))) (hx _) (hx _) σ hI
        dsimp only at f1 f2
        rw [if_pos c24]
        rw [if_pos b1]
        rw [if_pos b2]
        rw [f1, Option.bind_some]
        rw [if_pos b1]
        rw [if_pos b2]
        rw [f2, Option.bind_some]
        rw [if_pos rfl]
        exact go σ2 f3
      rw [if_neg c24]
      by_cases c25 : i_and (xs (Int.toNat (i : Int))) 63 = 25
      · obtain ⟨r, σ1, σ2, f1, f2, f3⟩ := ag_year σ hI
        dsimp only at f1 f2
        rw [if_pos c25]
        rw [f1, Option.bind_some]
        rw [f2, Option.bind_some]
        rw [if_pos rfl]
        exact go σ2 f3
      rw [if_neg c25]
      by_cases c26 : i_and (xs (Int.toNat (i : Int))) 63 = 26
      · obtain ⟨r, σ1, σ2, f1, f2, f3⟩ := ag_led (xs (Int.toNat (i_add (i : Int) 1))) (hx _) σ hI
        dsimp only at f1 f2
        rw [if_pos c26]
        rw [if_pos b1]
        rw [f1, Option.bind_some]
        rw [if_pos b1]
        rw [f2, Option.bind_some]
        rw [if_pos rfl]
        exact go σ2 f3
      rw [if_neg c26]
      by_cases c27 : i_and (xs (Int.toNat (i : Int))) 63 = 27
      · obtain ⟨r, σ1, σ2, f1, f2, f3⟩ := ag_image σ hI
        dsimp only at f1 f2
        rw [if_pos c27]
        rw [f1, Option.bind_some]
        rw [f2, Option.bind_some]
        rw [if_pos rfl]
        exact go σ2 f3
      rw [if_neg c27]
      by_cases c28 : i_and (xs (Int.toNat (i : Int))) 63 = 28
      · obtain ⟨r, σ1, σ2, f1, f2, f3⟩ := ag_back σ hI
        dsimp only at f1 f2
        rw [if_pos c28]
        rw [f1, Option.bind_some]
        rw [f2, Option.bind_some]
        rw [if_pos rfl]
        exact go σ2 f3
      rw [if_neg c28]
      by_cases c29 : i_and (xs (Int.toNat (i : Int))) 63 = 29
      · obtain ⟨r, σ1, σ2, f1, f2, f3⟩ := ag_undo σ hI
        dsimp only at f1 f2
        rw [if_pos c29]
        rw [f1, Option.bind_some]
        rw [f2, Option.bind_some]
        rw [if_pos rfl]
        exact go σ2 f3
      rw [if_neg c29]
      by_cases c30 : i_and (xs (Int.toNat (i : Int))) 63 = 30
      · obtain ⟨r, σ1, σ2, f1, f2, f3⟩ := ag_redo σ hI
        dsimp only at f1 f2
        rw [if_pos c30]
        rw [f1, Option.bind_some]
        rw [f2, Option.bind_some]
        rw [if_pos rfl]
        exact go σ2 f3
      rw [if_neg c30]
      by_cases c31 : i_and (xs (Int.toNat (i : Int))) 63 = 31
      · obtain ⟨r, σ1, σ2, f1, f2, f3⟩ := ag_body (xs (Int.toNat (i_add (i : Int) 1))) (hx _) σ hI
        dsimp only at f1 f2
        rw [if_pos c31]
        rw [if_pos b1]
        rw [f1, Option.bind_some]
        rw [if_pos b1]
        rw [f2, Option.bind_some]
        rw [if_pos rfl]
        exact go σ2 f3
      rw [if_neg c31]
      by_cases c32 : i_and (xs (Int.toNat (i : Int))) 63 = 32
      · obtain ⟨r, σ1, σ2, f1, f2, f3⟩ := ag_act (xs (Int.toNat (i_add (i : Int) 1))) (xs (Int.toNat (i_add (i : Int) 2))) (xs (Int.toNat (i_add (i : Int) 3))) (hx _) (hx _) (hx _) σ hI
        dsimp only at f1 f2
        rw [if_pos c32]
        rw [if_pos b1]
        rw [if_pos b2]
        rw [if_pos b3]
        rw [f1, Option.bind_some]
        rw [if_pos b1]
        rw [if_pos b2]
        rw [if_pos b3]
        rw [f2, Option.bind_some]
        rw [if_pos rfl]
        exact go σ2 f3
      rw [if_neg c32]
      by_cases c33 : i_and (xs (Int.toNat (i : Int))) 63 = 33
      · obtain ⟨r, σ1, σ2, f1, f2, f3⟩ := ag_trace (xs (Int.toNat (i_add (i : Int) 1))) (hx _) σ hI
        dsimp only at f1 f2
        rw [if_pos c33]
        rw [if_pos b1]
        rw [f1, Option.bind_some]
        rw [if_pos b1]
        rw [f2, Option.bind_some]
        rw [if_pos rfl]
        exact go σ2 f3
      rw [if_neg c33]
      by_cases c34 : i_and (xs (Int.toNat (i : Int))) 63 = 34
      · obtain ⟨r, σ1, σ2, f1, f2, f3⟩ := ag_keep (xs (Int.toNat (i_add (i : Int) 1))) (xs (Int.toNat (i_add (i : Int) 2))) (hx _) (hx _) σ hI
        dsimp only at f1 f2
        rw [if_pos c34]
        rw [if_pos b1]
        rw [if_pos b2]
        rw [f1, Option.bind_some]
        rw [if_pos b1]
        rw [if_pos b2]
        rw [f2, Option.bind_some]
        rw [if_pos rfl]
        exact go σ2 f3
      rw [if_neg c34]
      by_cases c35 : i_and (xs (Int.toNat (i : Int))) 63 = 35
      · obtain ⟨r, σ1, σ2, f1, f2, f3⟩ := ag_row (xs (Int.toNat (i_add (i : Int) 1))) (xs (Int.toNat (i_add (i : Int) 2))) (xs (Int.toNat (i_add (i : Int) 3))) (hx _) (hx _) (hx _) σ hI
        dsimp only at f1 f2
        rw [if_pos c35]
        rw [if_pos b1]
        rw [if_pos b2]
        rw [if_pos b3]
        rw [f1, Option.bind_some]
        rw [if_pos b1]
        rw [if_pos b2]
        rw [if_pos b3]
        rw [f2, Option.bind_some]
        rw [if_pos rfl]
        exact go σ2 f3
      rw [if_neg c35]
      by_cases c36 : i_and (xs (Int.toNat (i : Int))) 63 = 36
      · obtain ⟨r, σ1, σ2, f1, f2, f3⟩ := ag_put (xs (Int.toNat (i_add (i : Int) 1))) (xs (Int.toNat (i_add (i : Int) 2))) (l_or (l_shl (c_i2l (xs (Int.toNat (i_add (i : Int) 3)))) 32) (l_and (c_i2l (xs (Int.toNat (i_add (i : Int) 4)))) 4294967295)) (hx _) (hx _) (ok_lor _ _) σ hI
        dsimp only at f1 f2
        rw [if_pos c36]
        rw [if_pos b1]
        rw [if_pos b2]
        rw [if_pos b3]
        rw [if_pos b4]
        rw [f1, Option.bind_some]
        rw [if_pos b1]
        rw [if_pos b2]
        rw [if_pos b3]
        rw [if_pos b4]
        rw [f2, Option.bind_some]
        rw [if_pos rfl]
        exact go σ2 f3
      rw [if_neg c36]
      by_cases c37 : i_and (xs (Int.toNat (i : Int))) 63 = 37
      · obtain ⟨r, σ1, σ2, f1, f2, f3⟩ := ag_element (xs (Int.toNat (i_add (i : Int) 1))) (xs (Int.toNat (i_add (i : Int) 2))) (hx _) (hx _) σ hI
        dsimp only at f1 f2
        rw [if_pos c37]
        rw [if_pos b1]
        rw [if_pos b2]
        rw [f1, Option.bind_some]
        rw [if_pos b1]
        rw [if_pos b2]
        rw [f2, Option.bind_some]
        rw [if_pos (show l_cmp r r = 0 by unfold l_cmp; rw [if_neg (Int.lt_irrefl r), if_pos rfl])]
        exact go σ2 f3
      rw [if_neg c37]
      by_cases c38 : i_and (xs (Int.toNat (i : Int))) 63 = 38
      · obtain ⟨r, σ1, σ2, f1, f2, f3⟩ := ag_shift (xs (Int.toNat (i_add (i : Int) 1))) (xs (Int.toNat (i_add (i : Int) 2))) (xs (Int.toNat (i_add (i : Int) 3))) (xs (Int.toNat (i_add (i : Int) 4))) (xs (Int.toNat (i_add (i : Int) 5))) (hx _) (hx _) (hx _) (hx _) (hx _) σ hI
        dsimp only at f1 f2
        rw [if_pos c38]
        rw [if_pos b1]
        rw [if_pos b2]
        rw [if_pos b3]
        rw [if_pos b4]
        rw [if_pos b5]
        rw [f1, Option.bind_some]
        rw [if_pos b1]
        rw [if_pos b2]
        rw [if_pos b3]
        rw [if_pos b4]
        rw [if_pos b5]
        rw [f2, Option.bind_some]
        rw [if_pos rfl]
        exact go σ2 f3
      rw [if_neg c38]
      by_cases c39 : i_and (xs (Int.toNat (i : Int))) 63 = 39
      · obtain ⟨r, σ1, σ2, f1, f2, f3⟩ := ag_taken (xs (Int.toNat (i_add (i : Int) 1))) (xs (Int.toNat (i_add (i : Int) 2))) (hx _) (hx _) σ hI
        dsimp only at f1 f2
        rw [if_pos c39]
        rw [if_pos b1]
        rw [if_pos b2]
        rw [f1, Option.bind_some]
        rw [if_pos b1]
        rw [if_pos b2]
        rw [f2, Option.bind_some]
        rw [if_pos rfl]
        exact go σ2 f3
      rw [if_neg c39]
      by_cases c40 : i_and (xs (Int.toNat (i : Int))) 63 = 40
      · obtain ⟨r, σ1, σ2, f1, f2, f3⟩ := ag_count (xs (Int.toNat (i_add (i : Int) 1))) (hx _) σ hI
        dsimp only at f1 f2
        rw [if_pos c40]
        rw [if_pos b1]
        rw [f1, Option.bind_some]
        rw [if_pos b1]
        rw [f2, Option.bind_some]
        rw [if_pos rfl]
        exact go σ2 f3
      rw [if_neg c40]
      exact go σ hI
theorem pure_law (xs : Nat → Int) (LS : Nat) (hL : LS ≤ 3072) (hx : ∀ j, ok32 (xs j)) : ∃ σ' : St, fL_law_16 xs LS 0 49 sgI = some (1, σ') := by
  unfold fL_law_16
  exact law_loop xs LS hL hx FU 0 sgI inv_start (Nat.zero_le _) (by unfold FU; omega)
