/-! The law's text: both readers step by step alike. -/
def tc (c : Int) : Int := if 18 ≤ c then c - 18 else if c ≤ 5 then -1 - c else if c = 6 then -124 else if c = 7 then -38 else if c = 8 then -60 else if c = 9 then -61 else if c = 10 then -62 else if c = 11 then -43 else if c = 12 then -45 else if c = 13 then -42 else if c = 14 then -47 else if c = 15 then -37 else if c = 16 then -33 else -126
def opc (s : Int) : Int := if s = 124 then 6 else if s = 38 then 7 else if s = 60 then 8 else if s = 61 then 9 else if s = 62 then 10 else if s = 43 then 11 else if s = 45 then 12 else if s = 42 then 13 else if s = 47 then 14 else 15
def rk (s : Int) : Int := if s = 37 then 4 else if s = 38 then 1 else if s = 42 then 4 else if s = 43 then 3 else if s = 45 then 3 else if s = 47 then 4 else if s = 60 then 2 else if s = 61 then 2 else if s = 62 then 2 else if s = 124 then 0 else -1
/-- heights of the stack: none where a step would lack room or numbers -/
def run (H : Nat) : List Int → Nat → Option Nat
  | [], h => some h
  | c :: L, h => if c < 0 ∨ 20000 ≤ c then none else if 18 ≤ c ∨ c ≤ 5 then (if h < H then run H L (h + 1) else none) else if c = 16 ∨ c = 17 then (if 1 ≤ h then run H L h else none) else (if 2 ≤ h then run H L (h - 1) else none)
theorem run_app (H : Nat) : ∀ (A B : List Int) (h k : Nat), run H A h = some k → run H (A ++ B) h = run H B k
  | [], B, h, k, e => by
    have : h = k := Option.some.inj e
    rw [this]
    rfl
  | c :: A, B, h, k, e => by
    show run H (c :: (A ++ B)) h = run H B k
    obtain ⟨w, hw⟩ : ∃ w, run H B k = w := ⟨_, rfl⟩
    rw [hw]
    unfold run at e ⊢
    split at e
    · exact absurd e (by simp)
    · rename_i q
      rw [if_neg q]
      split at e
      · rename_i q2
        rw [if_pos q2]
        split at e
        · rename_i q3
          rw [if_pos q3]
          exact (run_app H A B _ _ e).trans hw
        · exact absurd e (by simp)
      · rename_i q2
        rw [if_neg q2]
        split at e
        · rename_i q3
          rw [if_pos q3]
          split at e
          · rename_i q4
            rw [if_pos q4]
            exact (run_app H A B _ _ e).trans hw
          · exact absurd e (by simp)
        · rename_i q3
          rw [if_neg q3]
          split at e
          · rename_i q4
            rw [if_pos q4]
            exact (run_app H A B _ _ e).trans hw
          · exact absurd e (by simp)
def nx (T : Nat → Int) (n p : Nat) : Int := if p < n then T p else -1
def clS (dr : Nat) (τ : St) (p : Nat) (X : List Int) : St := fun a b => if a = 4 ∧ b = 6 then (p : Int) else if a = 4 ∧ b = 7 then (X.length : Int) else if a = dr ∧ b < X.length then X.getD b 0 else τ a b
def moS (τ : St) (p o : Nat) (Z : List Int) : St := fun a b => if a = 49 ∧ b = 15 then (p : Int) else if a = 49 ∧ b = 16 then (o : Int) else if a = 49 ∧ b = 17 then (Z.length : Int) else if a = 63 ∧ b < Z.length then Z.getD b 0 else τ a b
def Tok (T : Nat → Int) (n : Nat) : Prop := n ≤ 120 ∧ ∀ j : Nat, j < 120 → 0 ≤ T j ∧ T j ≤ 255
def BC (T : Nat → Int) (n dr : Nat) (τ : St) : Prop := (dr = 8 ∨ dr = 9) ∧ τ 4 4 = (dr : Int) ∧ τ 4 5 = (n : Int) ∧ ∀ j : Nat, j < 120 → τ 5 j = T j
def BM (T : Nat → Int) (n : Nat) (τ : St) : Prop := τ 49 7 = (n : Int) ∧ ∀ j : Nat, j < 120 → τ 55 j = T j
theorem nx_in {T : Nat → Int} {n p : Nat} (hT : Tok T n) : -1 ≤ nx T n p ∧ nx T n p ≤ 255 ∧ (nx T n p ≠ -1 → p < n) := by
  unfold nx
  split
  case isTrue q =>
    have := hT.2 p (by have := hT.1; omega)
    exact ⟨by omega, this.2, fun _ => q⟩
  case isFalse => exact ⟨by omega, by omega, fun z => absurd rfl z⟩
theorem getD_app {X : List Int} {x : Int} {b : Nat} : (X ++ [x]).getD b 0 = if b < X.length then X.getD b 0 else if b = X.length then x else 0 := by
  by_cases h : b < X.length
  · rw [if_pos h]
    simp [List.getD, List.getElem?_append_left h]
  · rw [if_neg h]
    by_cases e : b = X.length
    · rw [if_pos e, e]
      simp [List.getD]
    · rw [if_neg e]
      have : (X ++ [x]).length ≤ b := by
        rw [List.length_append]
        show X.length + 1 ≤ b
        omega
      simp [List.getD, List.getElem?_eq_none this]
theorem c_next {T : Nat → Int} {n dr p : Nat} {τ : St} {X : List Int} (hT : Tok T n) (h : BC T n dr τ) : fX4_next 4 (clS dr τ p X) = some (nx T n p, clS dr τ p X) := by
  obtain ⟨d, d4, d5, dt⟩ := h
  have e5 : clS dr τ p X 4 5 = (n : Int) := by
    unfold clS
    rw [if_neg (by omega), if_neg (by omega), if_neg (by omega)]
    exact d5
  have e6 : clS dr τ p X 4 6 = (p : Int) := if_pos ⟨rfl, rfl⟩
  have et : ∀ j : Nat, j < 120 → clS dr τ p X 5 j = T j := fun j hj => by
    unfold clS
    rw [if_neg (by omega), if_neg (by omega), if_neg (by omega)]
    exact dt j hj
  have h1 := hT.1
  unfold fX4_next nx
  simp only [rfS, lnS]
  rw [e5, e6]
  by_cases q : p < n
  · rw [if_neg (by omega), if_neg (by omega), if_pos ⟨by omega, by omega⟩, Int.toNat_natCast, et p (by omega), if_pos q]
  · rw [if_pos (by omega), if_neg q]
theorem c_step {dr p : Nat} {τ : St} {X : List Int} (hp : p < 1000) : up (clS dr τ p X) 4 6 (i_add (clS dr τ p X 4 6) 1) = clS dr τ (p + 1) X := by
  have e6 : clS dr τ p X 4 6 = (p : Int) := if_pos ⟨rfl, rfl⟩
  rw [e6, ia (ok_in (by omega) (by omega))]
  funext a b
  rw [up_get]
  unfold clS
  by_cases q : a = 4 ∧ b = 6
  · rw [if_pos q, if_pos q]
    omega
  · rw [if_neg q, if_neg q, if_neg q]
theorem c_emit {T : Nat → Int} {n dr p : Nat} {τ : St} {X : List Int} {x : Int} (h : BC T n dr τ) (hX : X.length < 128) : fX4_emit 4 x (clS dr τ p X) = some (clS dr τ p (X ++ [x])) := by
  obtain ⟨d, d4, -, -⟩ := h
  have e4 : clS dr τ p X 4 4 = (dr : Int) := by
    unfold clS
    rw [if_neg (by omega), if_neg (by omega), if_neg (by omega)]
    exact d4
  have e7 : clS dr τ p X 4 7 = (X.length : Int) := by
    unfold clS
    rw [if_neg (by omega), if_pos ⟨rfl, rfl⟩]
  have hA : isA 1 dr = true ∧ LN dr = 128 := by
    rcases d with rfl | rfl
    · exact ⟨by decide +kernel, rfl⟩
    · exact ⟨by decide +kernel, rfl⟩
  unfold fX4_emit
  rw [e4, e7, Int.toNat_natCast, hA.2, if_pos hA.1, if_neg (by omega), if_pos hA.1, if_pos ⟨by omega, by omega⟩, Int.toNat_natCast, up_ne (by omega), e7, ia (ok_in (by omega) (by omega))]
  congr 1
  funext a b
  rw [up_get, up_get]
  have hl : (X ++ [x]).length = X.length + 1 := by
    rw [List.length_append]
    rfl
  unfold clS
  rw [hl, getD_app]
  by_cases q6 : a = 4 ∧ b = 6
  · rw [if_neg (by omega), if_neg (by omega), if_pos q6, if_pos q6]
  rw [if_neg q6, if_neg q6]
  by_cases q7 : a = 4 ∧ b = 7
  · rw [if_pos q7, if_pos q7]
    omega
  rw [if_neg q7, if_neg q7, if_neg q7]
  by_cases q8 : a = dr ∧ b = X.length
  · rw [if_pos q8, if_pos (by omega), if_neg (by omega), if_pos q8.2]
  · rw [if_neg q8]
    by_cases q9 : a = dr ∧ b < X.length
    · rw [if_pos q9, if_pos (by omega), if_pos q9.2]
    · rw [if_neg q9, if_neg (by omega)]
theorem c_takes {T : Nat → Int} {n dr p : Nat} {τ : St} {X : List Int} {c : Int} (hT : Tok T n) (h : BC T n dr τ) (hp : p < 1000) : fX4_takes 4 c (clS dr τ p X) = if nx T n p = c then some (1, clS dr τ (p + 1) X) else some (0, clS dr τ p X) := by
  unfold fX4_takes
  rw [c_next hT h, Option.bind_some]
  dsimp only
  rw [c_step hp]
theorem m_sign {T : Nat → Int} {n p o : Nat} {τ : St} {Z : List Int} (hT : Tok T n) (h : BM T n τ) : fX10_sign 49 (moS τ p o Z) = some (nx T n p, moS τ p o Z) := by
  obtain ⟨d5, dt⟩ := h
  have e5 : moS τ p o Z 49 7 = (n : Int) := by
    unfold moS
    rw [if_neg (by omega), if_neg (by omega), if_neg (by omega), if_neg (by omega)]
    exact d5
  have e6 : moS τ p o Z 49 15 = (p : Int) := if_pos ⟨rfl, rfl⟩
  have et : ∀ j : Nat, j < 120 → moS τ p o Z 55 j = T j := fun j hj => by
    unfold moS
    rw [if_neg (by omega), if_neg (by omega), if_neg (by omega), if_neg (by omega)]
    exact dt j hj
  have h1 := hT.1
  unfold fX10_sign nx
  simp only [rfS, lnS]
  rw [e5, e6]
  by_cases q : p < n
  · rw [if_neg (by omega), if_pos ⟨by omega, by omega⟩, Int.toNat_natCast, et p (by omega), if_pos q]
  · rw [if_pos (by omega), if_neg q]
theorem m_step {p o : Nat} {τ : St} {Z : List Int} (hp : p < 1000) : up (moS τ p o Z) 49 15 (i_add (moS τ p o Z 49 15) 1) = moS τ (p + 1) o Z := by
  have e6 : moS τ p o Z 49 15 = (p : Int) := if_pos ⟨rfl, rfl⟩
  rw [e6, ia (ok_in (by omega) (by omega))]
  funext a b
  rw [up_get]
  unfold moS
  by_cases q : a = 49 ∧ b = 15
  · rw [if_pos q, if_pos q]
    omega
  · rw [if_neg q, if_neg q, if_neg q]
theorem m_is {T : Nat → Int} {n p o : Nat} {τ : St} {Z : List Int} {c : Int} (hT : Tok T n) (h : BM T n τ) (hp : p < 1000) : fX10_is 49 c (moS τ p o Z) = if nx T n p = c then some (1, moS τ (p + 1) o Z) else some (0, moS τ p o Z) := by
  unfold fX10_is
  rw [m_sign hT h, Option.bind_some]
  dsimp only
  rw [m_step hp]
theorem m_codes {p o : Nat} {τ : St} {Z : List Int} {x : Int} (hZ : Z.length < 200) : fX10_codes 49 x (moS τ p o Z) = some (1, moS τ p o (Z ++ [x])) := by
  have e7 : moS τ p o Z 49 17 = (Z.length : Int) := by
    unfold moS
    rw [if_neg (by omega), if_neg (by omega), if_pos ⟨rfl, rfl⟩]
  unfold fX10_codes
  simp only [rfS, lnS]
  rw [e7, if_pos ⟨by omega, by omega⟩, Int.toNat_natCast, ia (ok_in (by omega) (by omega))]
  congr 2
  funext a b
  rw [up_get, up_get]
  have hl : (Z ++ [x]).length = Z.length + 1 := by
    rw [List.length_append]
    rfl
  unfold moS
  rw [hl, getD_app]
  by_cases q5 : a = 49 ∧ b = 15
  · rw [if_neg (by omega), if_neg (by omega), if_pos q5, if_pos q5]
  rw [if_neg q5, if_neg q5]
  by_cases q6 : a = 49 ∧ b = 16
  · rw [if_neg (by omega), if_neg (by omega), if_pos q6, if_pos q6]
  rw [if_neg q6, if_neg q6]
  by_cases q7 : a = 49 ∧ b = 17
  · rw [if_neg (by omega), if_pos q7, if_pos q7]
    omega
  rw [if_neg q7, if_neg q7, if_neg q7]
  by_cases q8 : a = 63 ∧ b = Z.length
  · rw [if_pos q8, if_pos (by omega), if_neg (by omega), if_pos q8.2]
  · rw [if_neg q8]
    by_cases q9 : a = 63 ∧ b < Z.length
    · rw [if_pos q9, if_pos (by omega), if_pos q9.2]
    · rw [if_neg q9, if_neg (by omega)]
theorem m_open {p o : Nat} {τ : St} {Z : List Int} {o' : Nat} {x : Int} (hx : x = (o' : Int)) : up (moS τ p o Z) 49 16 x = moS τ p o' Z := by
  rw [hx]
  funext a b
  rw [up_get]
  unfold moS
  by_cases q5 : a = 49 ∧ b = 15
  · rw [if_neg (by omega), if_pos q5, if_pos q5]
  rw [if_neg q5, if_neg q5]
  by_cases q6 : a = 49 ∧ b = 16
  · rw [if_pos q6, if_pos q6]
  · rw [if_neg q6, if_neg q6, if_neg q6]
theorem mo16 {p o : Nat} {τ : St} {Z : List Int} : moS τ p o Z 49 16 = (o : Int) := by
  unfold moS
  rw [if_neg (by omega), if_pos ⟨rfl, rfl⟩]
/-- both read alike: a piece of the text, so much stack -/
def Sm (T : Nat → Int) (n o Hb : Nat) (F G : St → Option (Int × St)) : Prop := ∀ p : Nat, p ≤ n → ∃ (ok : Int) (p' : Nat) (L : List Int), (ok = 0 ∨ ok = 1) ∧ p ≤ p' ∧ p' ≤ n ∧ p + L.length ≤ p' ∧ (∀ (dr : Nat) (τ : St) (X : List Int), BC T n dr τ → X.length ≤ p → F (clS dr τ p X) = some (ok, clS dr τ p' (X ++ L.map tc))) ∧ (∀ (τ : St) (Z : List Int), BM T n τ → Z.length ≤ p → G (moS τ p o Z) = some (ok, moS τ p' o (Z ++ L))) ∧ (ok = 1 → p < p' ∧ ∀ H h : Nat, h + Hb ≤ H → run H L h = some (h + 1))
theorem rank9 (s : Int) (σ : St) : fX4_rankOf s σ = some (rk s, σ) := by
  unfold fX4_rankOf rk
  repeat' split
  all_goals first | rfl | omega
theorem opc_ok {s : Int} (h : 0 ≤ rk s) : tc (opc s) = -s ∧ 6 ≤ opc s ∧ opc s ≤ 15 ∧ 0 ≤ s ∧ s ≤ 255 := by
  have : s = 37 ∨ s = 38 ∨ s = 42 ∨ s = 43 ∨ s = 45 ∨ s = 47 ∨ s = 60 ∨ s = 61 ∨ s = 62 ∨ s = 124 := by
    unfold rk at h
    repeat' split at h
    all_goals omega
  rcases this with rfl | rfl | rfl | rfl | rfl | rfl | rfl | rfl | rfl | rfl <;> decide
theorem run_op {c : Int} {H h : Nat} (h6 : 6 ≤ c) (h15 : c ≤ 15) : run H [c] (h + 2) = some (h + 1) := by
  unfold run
  rw [if_neg (by omega), if_neg (by omega), if_neg (by omega), if_pos (by omega)]
  rfl
theorem loopS {T : Nat → Int} {n o r Hb : Nat} {cl : Nat → List Int → St → Option (Int × St)} {G : St → Option (Int × St)} {ML : Nat → St → Option (Int × St)} (hT : Tok T n) (S : Sm T n o Hb (fun σ => cl 1 [i_add (r : Int) 1, (o : Int)] σ) G) (hML : ∀ (f p : Nat) (τ : St) (Z : List Int), BM T n τ → p ≤ n → ML (f + 1) (moS τ p o Z) = if rk (nx T n p) = (r : Int) then (Option.bind (G (moS τ (p + 1) o Z)) fun q1 => if q1.1 = 0 then some (0, q1.2) else Option.bind (fX10_codes 49 (opc (nx T n p)) q1.2) fun q => ML f q.2) else some (1, moS τ p o Z)) : ∀ (m p : Nat), p ≤ n → n - p ≤ m → ∃ (ok : Int) (p' : Nat) (L : List Int), (ok = 0 ∨ ok = 1) ∧ p ≤ p' ∧ p' ≤ n ∧ p + L.length ≤ p' ∧ (∀ (dr : Nat) (τ : St) (X : List Int) (f i : Nat), BC T n dr τ → X.length ≤ p → i ≤ p → n - p < f → fX4_readRank_39 cl 4 (r : Int) (o : Int) f 120 (i : Int) (clS dr τ p X) = some (ok, clS dr τ p' (X ++ L.map tc))) ∧ (∀ (τ : St) (Z : List Int) (f : Nat), BM T n τ → Z.length ≤ p → n - p < f → ML f (moS τ p o Z) = some (ok, moS τ p' o (Z ++ L))) ∧ (ok = 1 → ∀ H h : Nat, h + Hb + 1 ≤ H → run H L (h + 1) = some (h + 1)) := by
  intro m
  induction m with
  | zero =>
    intro p hp hm
    have ep : p = n := by omega
    have n1 := hT.1
    have ex : nx T n p = -1 := by
      unfold nx
      rw [if_neg (by omega)]
    have er : ¬ rk (nx T n p) = (r : Int) := by
      rw [ex]
      show ¬ (-1 : Int) = (r : Int)
      omega
    refine ⟨1, p, [], Or.inr rfl, Nat.le_refl _, hp, by show p + 0 ≤ p; omega, fun dr τ X f i h hX hi hf => ?_, fun τ Z f h hZ hf => ?_, fun _ H h _ => rfl⟩
    · obtain ⟨f', rfl⟩ : ∃ f', f = f' + 1 := ⟨f - 1, by omega⟩
      rw [fX4_readRank_39.eq_2]
      by_cases q : (120 : Int) ≤ (i : Int)
      · rw [if_pos q, List.map_nil, List.append_nil]
      · rw [if_neg q, c_next hT h, Option.bind_some]
        dsimp only
        rw [rank9, Option.bind_some, if_neg er, List.map_nil, List.append_nil]
    · obtain ⟨f', rfl⟩ : ∃ f', f = f' + 1 := ⟨f - 1, by omega⟩
      rw [hML f' p τ Z h hp, if_neg er, List.append_nil]
  | succ m ih =>
    intro p hp hm
    have n1 := hT.1
    by_cases er : rk (nx T n p) = (r : Int)
    case neg =>
      refine ⟨1, p, [], Or.inr rfl, Nat.le_refl _, hp, by show p + 0 ≤ p; omega, fun dr τ X f i h hX hi hf => ?_, fun τ Z f h hZ hf => ?_, fun _ H h _ => rfl⟩
      · obtain ⟨f', rfl⟩ : ∃ f', f = f' + 1 := ⟨f - 1, by omega⟩
        rw [fX4_readRank_39.eq_2]
        by_cases q : (120 : Int) ≤ (i : Int)
        · rw [if_pos q, List.map_nil, List.append_nil]
        · rw [if_neg q, c_next hT h, Option.bind_some]
          dsimp only
          rw [rank9, Option.bind_some, if_neg er, List.map_nil, List.append_nil]
      · obtain ⟨f', rfl⟩ : ∃ f', f = f' + 1 := ⟨f - 1, by omega⟩
        rw [hML f' p τ Z h hp, if_neg er, List.append_nil]
    obtain ⟨o1, o2, o3, o4, o5⟩ := opc_ok (s := nx T n p) (by omega)
    obtain ⟨x1, x2, x3⟩ := nx_in (p := p) hT
    have pn : p < n := x3 (by omega)
    obtain ⟨ok1, p1, L1, a1, a2, a3, a4, a5, a6, a7⟩ := S (p + 1) (by omega)
    have c0 : ∀ (dr : Nat) (τ : St) (X : List Int) (f' i : Nat), BC T n dr τ → i ≤ p → fX4_readRank_39 cl 4 (r : Int) (o : Int) (f' + 1) 120 (i : Int) (clS dr τ p X) = Option.bind (cl 1 [i_add (r : Int) 1, (o : Int)] (clS dr τ (p + 1) X)) fun q4 => if q4.1 = 0 then some (0, q4.2) else Option.bind (fX4_emit 4 (tc (opc (nx T n p))) q4.2) fun q5 => fX4_readRank_39 cl 4 (r : Int) (o : Int) f' 120 ((i + 1 : Nat) : Int) q5 := by
      intro dr τ X f' i h hi
      have e9 : i_add (i : Int) 1 = ((i + 1 : Nat) : Int) := by
        rw [ia (ok_in (by omega) (by omega))]
        omega
      rw [fX4_readRank_39.eq_2, if_neg (by omega), c_next hT h, Option.bind_some]
      dsimp only
      rw [rank9, Option.bind_some, if_pos er]
      dsimp only
      rw [c_next hT h, Option.bind_some]
      dsimp only
      rw [c_step (by omega), ing (ok_in (by omega) (by omega)), o1, e9]
    rcases a1 with a1 | a1
    · -- the piece behind the sign isn't told
      refine ⟨0, p1, L1, Or.inl rfl, by omega, a3, by omega, fun dr τ X f i h hX hi hf => ?_, fun τ Z f h hZ hf => ?_, fun z => absurd z (by decide)⟩
      · obtain ⟨f', rfl⟩ : ∃ f', f = f' + 1 := ⟨f - 1, by omega⟩
        have := a5 dr τ X h (by omega)
        dsimp only at this
        rw [c0 dr τ X f' i h hi, this, Option.bind_some, a1, if_pos rfl]
      · obtain ⟨f', rfl⟩ : ∃ f', f = f' + 1 := ⟨f - 1, by omega⟩
        rw [hML f' p τ Z h hp, if_pos er, a6 τ Z h (by omega), Option.bind_some, a1, if_pos rfl]
    · obtain ⟨b1, b2⟩ := a7 a1
      obtain ⟨ok2, p2, L2, d1, d2, d3, d4, d5, d6, d7⟩ := ih p1 a3 (by omega)
      have hl : (L1 ++ [opc (nx T n p)] ++ L2).length = L1.length + 1 + L2.length := by
        rw [List.length_append, List.length_append]
        rfl
      refine ⟨ok2, p2, L1 ++ [opc (nx T n p)] ++ L2, d1, by omega, d3, by rw [hl]; omega, fun dr τ X f i h hX hi hf => ?_, fun τ Z f h hZ hf => ?_, fun z H h hH => ?_⟩
      · obtain ⟨f', rfl⟩ : ∃ f', f = f' + 1 := ⟨f - 1, by omega⟩
        have := a5 dr τ X h (by omega)
        dsimp only at this
        have lx : (X ++ L1.map tc).length = X.length + L1.length := by rw [List.length_append, List.length_map]
        have ly : (X ++ L1.map tc ++ [tc (opc (nx T n p))]).length = X.length + L1.length + 1 := by
          rw [List.length_append, lx]
          rfl
        rw [c0 dr τ X f' i h hi, this, Option.bind_some, a1, if_neg (show ¬ (1 : Int) = 0 by decide)]
        dsimp only
        rw [c_emit h (by omega), Option.bind_some, d5 dr τ _ f' (i + 1) h (by omega) (by omega) (by omega), List.map_append, List.map_append, List.append_assoc, List.append_assoc, List.append_assoc]
        rfl
      · obtain ⟨f', rfl⟩ : ∃ f', f = f' + 1 := ⟨f - 1, by omega⟩
        have lx : (Z ++ L1).length = Z.length + L1.length := by rw [List.length_append]
        have ly : (Z ++ L1 ++ [opc (nx T n p)]).length = Z.length + L1.length + 1 := by
          rw [List.length_append, lx]
          rfl
        rw [hML f' p τ Z h hp, if_pos er, a6 τ Z h (by omega), Option.bind_some, a1, if_neg (show ¬ (1 : Int) = 0 by decide)]
        dsimp only
        rw [m_codes (by omega), Option.bind_some]
        dsimp only
        rw [d6 τ _ f' h (by omega) (by omega), List.append_assoc, List.append_assoc, List.append_assoc]
      · have r1 := b2 H (h + 1) (by omega)
        have r2 := run_app H L1 [opc (nx T n p)] (h + 1) (h + 2) r1
        rw [run_op o2 o3] at r2
        have r3 := run_app H (L1 ++ [opc (nx T n p)]) L2 (h + 1) (h + 1) r2
        rw [r3]
        exact d7 z H h hH
