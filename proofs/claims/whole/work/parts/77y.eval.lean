/-! What a law gives: both workings alike. -/
noncomputable def unv (c x : Int) : Int := if c = 17 then i_neg x else if x = 0 then 1 else 0
noncomputable def bop (c x y : Int) : Int := if c = 6 then (if x = 0 then (if y = 0 then 0 else 1) else 1) else if c = 7 then (if x = 0 then 0 else (if y = 0 then 0 else 1)) else if c = 8 then (if y ≤ x then 0 else 1) else if c = 9 then (if x = y then 1 else 0) else if c = 10 then (if x ≤ y then 0 else 1) else if c = 11 then i_add x y else if c = 12 then i_sub x y else if c = 13 then i_mul x y else if c = 14 then (if y = 0 then 0 else i_div x y) else (if y = 0 then 0 else i_rem x y)
theorem both10 (c x y : Int) (σ : St) : fX10_both c x y σ = some (bop c x y, σ) := by
  unfold fX10_both bop
  by_cases q6 : c = 6
  · rw [if_pos q6, if_pos q6]
    repeat' split
    all_goals rfl
  rw [if_neg q6, if_neg q6]
  by_cases q7 : c = 7
  · rw [if_pos q7, if_pos q7]
    repeat' split
    all_goals rfl
  rw [if_neg q7, if_neg q7]
  by_cases q8 : c = 8
  · rw [if_pos q8, if_pos q8]
    split <;> rfl
  rw [if_neg q8, if_neg q8]
  by_cases q9 : c = 9
  · rw [if_pos q9, if_pos q9]
    split <;> rfl
  rw [if_neg q9, if_neg q9]
  by_cases q10 : c = 10
  · rw [if_pos q10, if_pos q10]
    split <;> rfl
  rw [if_neg q10, if_neg q10]
  by_cases q11 : c = 11
  · rw [if_pos q11, if_pos q11]
  rw [if_neg q11, if_neg q11]
  by_cases q12 : c = 12
  · rw [if_pos q12, if_pos q12]
  rw [if_neg q12, if_neg q12]
  by_cases q13 : c = 13
  · rw [if_pos q13, if_pos q13]
  rw [if_neg q13, if_neg q13]
  by_cases q14 : c = 14
  · rw [if_pos q14, if_pos q14]
    by_cases z : y = 0
    · rw [if_pos z, if_pos z]
    · rw [if_neg z, if_neg z, if_pos z]
  rw [if_neg q14, if_neg q14]
  by_cases z : y = 0
  · rw [if_pos z, if_pos z]
  · rw [if_neg z, if_neg z, if_pos z]
theorem work9 {c : Int} (h6 : 6 ≤ c) (h15 : c ≤ 15) (x y : Int) (σ : St) : fX4_worked (i_neg (tc c)) x y σ = some (bop c x y, σ) := by
  have : c = 6 ∨ c = 7 ∨ c = 8 ∨ c = 9 ∨ c = 10 ∨ c = 11 ∨ c = 12 ∨ c = 13 ∨ c = 14 ∨ c = 15 := by omega
  rcases this with rfl | rfl | rfl | rfl | rfl | rfl | rfl | rfl | rfl | rfl
  · rw [show i_neg (tc 6) = 124 by decide]
    unfold fX4_worked bop
    simp only [Int.reduceEq, if_false, if_true]
    by_cases zx : x = 0 <;> by_cases zy : y = 0 <;> simp only [zx, zy, if_false, if_true, not_true_eq_false, not_false_eq_true] <;> (repeat' split) <;> first | rfl | contradiction
  · rw [show i_neg (tc 7) = 38 by decide]
    unfold fX4_worked bop
    simp only [Int.reduceEq, if_false, if_true]
    by_cases zx : x = 0 <;> by_cases zy : y = 0 <;> simp only [zx, zy, if_false, if_true, not_true_eq_false, not_false_eq_true] <;> (repeat' split) <;> first | rfl | contradiction
  · rw [show i_neg (tc 8) = 60 by decide]
    unfold fX4_worked bop
    simp only [Int.reduceEq, if_false, if_true]
    split <;> rfl
  · rw [show i_neg (tc 9) = 61 by decide]
    unfold fX4_worked bop
    simp only [Int.reduceEq, if_false, if_true]
    split <;> rfl
  · rw [show i_neg (tc 10) = 62 by decide]
    unfold fX4_worked bop
    simp only [Int.reduceEq, if_false, if_true]
    split <;> rfl
  · rw [show i_neg (tc 11) = 43 by decide]
    unfold fX4_worked bop
    simp only [Int.reduceEq, if_false, if_true]
  · rw [show i_neg (tc 12) = 45 by decide]
    unfold fX4_worked bop
    simp only [Int.reduceEq, if_false, if_true]
  · rw [show i_neg (tc 13) = 42 by decide]
    unfold fX4_worked bop
    simp only [Int.reduceEq, if_false, if_true]
  · rw [show i_neg (tc 14) = 47 by decide]
    unfold fX4_worked bop
    simp only [Int.reduceEq, if_false, if_true]
    by_cases zx : x = 0 <;> by_cases zy : y = 0 <;> simp only [zx, zy, if_false, if_true, not_true_eq_false, not_false_eq_true] <;> (repeat' split) <;> first | rfl | contradiction
  · rw [show i_neg (tc 15) = 37 by decide]
    unfold fX4_worked bop
    simp only [Int.reduceEq, if_false, if_true]
    by_cases zx : x = 0 <;> by_cases zy : y = 0 <;> simp only [zx, zy, if_false, if_true, not_true_eq_false, not_false_eq_true] <;> (repeat' split) <;> first | rfl | contradiction
noncomputable def ev (nm : Nat → Int) : List Int → Nat → (Nat → Int) → Nat × (Nat → Int)
  | [], h, f => (h, f)
  | c :: L, h, f => if 18 ≤ c ∨ c ≤ 5 then ev nm L (h + 1) (upf f h (if 18 ≤ c then c - 18 else nm c.toNat)) else if c = 16 ∨ c = 17 then ev nm L h (upf f (h - 1) (unv c (f (h - 1)))) else ev nm L (h - 1) (upf f (h - 2) (bop c (f (h - 2)) (f (h - 1))))
theorem ev_congr {nm : Nat → Int} {H : Nat} : ∀ (L : List Int) (h k : Nat) (f g : Nat → Int), run H L h = some k → (∀ j : Nat, j < h → f j = g j) → ∀ j : Nat, j < k → (ev nm L h f).2 j = (ev nm L h g).2 j
  | [], h, k, f, g, e, hfg, j, hj => by
    have : h = k := Option.some.inj e
    exact hfg j (by omega)
  | c :: L, h, k, f, g, e, hfg, j, hj => by
    unfold run at e
    unfold ev
    split at e
    · exact absurd e (by simp)
    · split at e
      · rename_i q2
        rw [if_pos q2, if_pos q2]
        split at e
        · refine ev_congr L (h + 1) k _ _ e (fun i hi => ?_) j hj
          show (if i = h then _ else f i) = if i = h then _ else g i
          by_cases y : i = h
          · rw [if_pos y, if_pos y]
          · rw [if_neg y, if_neg y]
            exact hfg i (by omega)
        · exact absurd e (by simp)
      · rename_i q2
        rw [if_neg q2, if_neg q2]
        split at e
        · rename_i q3
          rw [if_pos q3, if_pos q3]
          split at e
          · refine ev_congr L h k _ _ e (fun i hi => ?_) j hj
            show (if i = h - 1 then _ else f i) = if i = h - 1 then _ else g i
            by_cases y : i = h - 1
            · rw [if_pos y, if_pos y, hfg (h - 1) (by omega)]
            · rw [if_neg y, if_neg y]
              exact hfg i (by omega)
          · exact absurd e (by simp)
        · rename_i q3
          rw [if_neg q3, if_neg q3]
          split at e
          · refine ev_congr L (h - 1) k _ _ e (fun i hi => ?_) j hj
            show (if i = h - 2 then _ else f i) = if i = h - 2 then _ else g i
            by_cases y : i = h - 2
            · rw [if_pos y, if_pos y, hfg (h - 1) (by omega), hfg (h - 2) (by omega)]
            · rw [if_neg y, if_neg y]
              exact hfg i (by omega)
          · exact absurd e (by simp)
noncomputable def val (nm : Nat → Int) (L : List Int) : Int := (ev nm L 0 (fun _ => 0)).2 0
theorem val_eq {nm : Nat → Int} {L : List Int} (h : WE L) (f : Nat → Int) : (ev nm L 0 f).2 0 = val nm L := ev_congr (H := 36) L 0 1 f (fun _ => 0) (h 36 0 (by omega)) (fun j hj => by omega) 0 (by omega)
noncomputable def lawE (nm : Nat → Int) : List Ln → Int
  | [] => 0
  | l :: r => match l.2 with
    | none => val nm l.1
    | some L2 => if val nm l.1 = 0 then lawE nm r else val nm L2
theorem upc_up {τ : St} {c j : Nat} {f : Nat → Int} {x : Int} : up (upc τ c f) c j x = upc τ c (upf f j x) := by
  funext a b
  rw [up_get]
  unfold upc upf
  by_cases q : a = c
  · rw [if_pos q, if_pos q]
    by_cases y : b = j
    · rw [if_pos ⟨q, y⟩, if_pos y]
    · rw [if_neg (fun z => y z.2), if_neg y]
  · rw [if_neg (fun z => q z.1), if_neg q, if_neg q]
theorem upc_ne {τ : St} {c d : Nat} {f : Nat → Int} (h : d ≠ c) : upc τ c f d = τ d := if_neg h
theorem upc_e {τ : St} {c : Nat} {f : Nat → Int} : upc τ c f c = f := if_pos rfl
theorem tc_push {c : Int} (h0 : 0 ≤ c) (hp : 18 ≤ c ∨ c ≤ 5) : -6 ≤ tc c ∧ (18 ≤ c → tc c = c - 18) ∧ (c ≤ 5 → tc c = -1 - c) := by
  unfold tc
  by_cases z : 18 ≤ c
  · rw [if_pos z]
    omega
  · rw [if_neg z, if_pos (by omega)]
    omega
theorem tc_op {c : Int} (h0 : 6 ≤ c) (h1 : c ≤ 17) : tc c < -6 ∧ tc c ≠ -59 ∧ -1000 < tc c ∧ (c = 16 → tc c = -33) ∧ (c = 17 → tc c = -126) ∧ (c ≤ 15 → tc c ≠ -33 ∧ tc c ≠ -126) := by
  have : c = 6 ∨ c = 7 ∨ c = 8 ∨ c = 9 ∨ c = 10 ∨ c = 11 ∨ c = 12 ∨ c = 13 ∨ c = 14 ∨ c = 15 ∨ c = 16 ∨ c = 17 := by omega
  rcases this with rfl | rfl | rfl | rfl | rfl | rfl | rfl | rfl | rfl | rfl | rfl | rfl <;> decide
