/-! A whole text of a law: both readers alike. -/
def clLs : Nat → List Ln → List Int
  | _, [] => []
  | k, l :: r => clL k l ++ clLs (k + (clL k l).length) r
def moLs : List Ln → List Int
  | [] => []
  | l :: r => moL l ++ moLs r
def RwsM (τ : St) : Nat → Nat → List Ln → Prop
  | _, _, [] => True
  | i, c, l :: r => RwM τ i c l ∧ RwsM τ (i + 1) (c + (moL l).length) r
theorem RwM.keep {τ τ' : St} {i c : Nat} {l : Ln} (h : RwM τ i c l) (s : ∀ d : Nat, (d = 60 ∨ d = 61 ∨ d = 62) → τ' d i = τ d i) : RwM τ' i c l := by
  obtain ⟨L1, q⟩ := l
  obtain ⟨h1, h2⟩ := h
  refine ⟨by rw [s 60 (by omega)]; exact h1, ?_⟩
  cases q with
  | none => exact ⟨by rw [s 61 (by omega)]; exact h2.1, by rw [s 62 (by omega)]; exact h2.2⟩
  | some L2 => exact ⟨by rw [s 61 (by omega)]; exact h2.1, by rw [s 62 (by omega)]; exact h2.2⟩
theorem linesS {T : Nat → Int} {n : Nat} (hT : Tok T n) : ∀ (m p : Nat), p ≤ n → n - p ≤ m → ∃ (ok : Int) (p' : Nat) (ls : List Ln), (ok = 0 ∨ ok = 1) ∧ p' ≤ n ∧ (∀ (dr : Nat) (τ : St) (X : List Int) (f i : Nat), BC T n dr τ → X.length ≤ p → 2 * i ≤ p → n - p < f → ∃ Y : List Int, fX4_readLines_2 4 f (i : Int) (clS dr τ p X) = some (ok, clS dr τ p' Y) ∧ (ok = 1 → Y = X ++ clLs X.length ls ∧ Y.length ≤ 121)) ∧ (∀ (τ : St) (Z : List Int) (f i : Nat), BM T n τ → Z.length ≤ p → τ 49 18 = (i : Int) → 2 * i ≤ p → n - p < f → ∃ (τ' : St) (Z' : List Int), (Option.bind (fX10_isLine 49 (moS τ p 0 Z)) fun q1 => fX10_law_25 49 f q1.1 q1.2) = fX10_law_66 49 ok (moS τ' p' 0 Z') ∧ nA τ τ' ∧ (ok = 1 → Z' = Z ++ moLs ls ∧ Z'.length ≤ 120 ∧ τ' 49 18 = ((i + ls.length : Nat) : Int) ∧ RwsM τ' i Z.length ls ∧ i + ls.length ≤ 60 ∧ ∀ c j : Nat, j < i → (c = 60 ∨ c = 61 ∨ c = 62) → τ' c j = τ c j)) ∧ (ok = 1 → ∀ l : Ln, l ∈ ls → WL l) := by
  intro m
  have n1 := hT.1
  -- what ends it
  have stepC : ∀ (p p1 : Nat) (ok1 : Int) (dr : Nat) (τ : St) (X Y : List Int) (f i : Nat), p1 ≤ n → BC T n dr τ → 2 * i ≤ p → p ≤ n → fX4_readLine 4 (clS dr τ p X) = some (ok1, clS dr τ p1 Y) → fX4_readLines_2 4 (f + 1) (i : Int) (clS dr τ p X) = if ok1 = 0 then some (0, clS dr τ p1 Y) else if p1 = n then some (1, clS dr τ p1 Y) else if nx T n p1 = 59 then fX4_readLines_2 4 f ((i + 1 : Nat) : Int) (clS dr τ (p1 + 1) Y) else some (0, clS dr τ p1 Y) := by
    intro p p1 ok1 dr τ X Y f i hp1 h hi hp e
    have e6 : clS dr τ p1 Y 4 6 = (p1 : Int) := if_pos ⟨rfl, rfl⟩
    have e5 : clS dr τ p1 Y 4 5 = (n : Int) := by
      unfold clS
      rw [if_neg (by omega), if_neg (by omega), if_neg (by have := h.1; omega)]
      exact h.2.2.1
    rw [fX4_readLines_2.eq_2, if_neg (by omega), e, Option.bind_some]
    dsimp only
    by_cases y : ok1 = 0
    · rw [if_pos y, if_pos y]
    rw [if_neg y, if_neg y]
    simp only [e6, e5]
    by_cases z : p1 = n
    · rw [if_pos (by omega), if_pos z]
    rw [if_neg (by omega), if_neg z, c_takes hT h (by omega)]
    by_cases w : nx T n p1 = 59
    · rw [if_pos w, if_pos w, b1, ia_n (by omega)]
    · rw [if_neg w, if_neg w, b0]
  have stepM : ∀ (p1 : Nat) (ok1 : Int) (τ : St) (Z : List Int) (f : Nat), p1 ≤ n → BM T n τ → (ok1 = 0 ∨ ok1 = 1) → fX10_law_25 49 (f + 1) ok1 (moS τ p1 0 Z) = if ok1 = 0 then fX10_law_66 49 0 (moS τ p1 0 Z) else if p1 = n then fX10_law_66 49 1 (moS τ p1 0 Z) else if nx T n p1 = 59 then (Option.bind (fX10_isLine 49 (moS τ (p1 + 1) 0 Z)) fun q1 => fX10_law_25 49 f q1.1 q1.2) else fX10_law_66 49 0 (moS τ p1 0 Z) := by
    intro p1 ok1 τ Z f hp1 h ho
    have e7 : moS τ p1 0 Z 49 7 = (n : Int) := by
      rw [m_get (by omega)]
      exact h.1
    rw [fX10_law_25.eq_2]
    unfold fX10_law_46 fX10_law_65
    by_cases y : ok1 = 0
    · rw [if_pos y, if_pos y, if_pos y]
    rw [if_neg y, if_neg y, m_is hT h (by omega)]
    by_cases z : p1 = n
    · have : nx T n p1 = -1 := by
        unfold nx
        rw [if_neg (by omega)]
      rw [if_pos z, this, if_neg (by decide), b0, if_neg y]
      dsimp only
      simp only [mo15, e7]
      rw [if_pos (by omega)]
    rw [if_neg z]
    by_cases w : nx T n p1 = 59
    · rw [if_pos w, if_pos w, b1]
    · rw [if_neg w, if_neg w, b0, if_neg y]
      dsimp only
      simp only [mo15, e7]
      rw [if_neg (by omega)]
  induction m with
  | zero =>
    intro p hp hm
    obtain ⟨ok1, p1, l, a1, a2, a3, a4, a5, a6⟩ := lineS hT p hp
    have ep : p = n := by omega
    by_cases y : ok1 = 0
    · refine ⟨0, p1, [], Or.inl rfl, a3, fun dr τ X f i h hX hi hf => ?_, fun τ Z f i h hZ h18 hi hf => ?_, fun z => absurd z (by decide)⟩
      · obtain ⟨Y, e, -⟩ := a4 dr τ X h hX
        obtain ⟨f', rfl⟩ : ∃ f', f = f' + 1 := ⟨f - 1, by omega⟩
        exact ⟨Y, by rw [stepC p p1 ok1 dr τ X Y f' i a3 h hi hp e, if_pos y], fun z => absurd z (by decide)⟩
      · obtain ⟨τ', Z', e, na, -⟩ := a5 τ Z i h hZ h18 hi
        obtain ⟨f', rfl⟩ : ∃ f', f = f' + 1 := ⟨f - 1, by omega⟩
        refine ⟨τ', Z', ?_, na, fun z => absurd z (by decide)⟩
        rw [e, Option.bind_some]
        dsimp only
        rw [stepM p1 ok1 τ' Z' f' a3 (na.bm h) a1, if_pos y]
    · have := (a6 (a1.resolve_left y)).2
      omega
  | succ m ih =>
    intro p hp hm
    obtain ⟨ok1, p1, l, a1, a2, a3, a4, a5, a6⟩ := lineS hT p hp
    by_cases y : ok1 = 0
    · refine ⟨0, p1, [], Or.inl rfl, a3, fun dr τ X f i h hX hi hf => ?_, fun τ Z f i h hZ h18 hi hf => ?_, fun z => absurd z (by decide)⟩
      · obtain ⟨Y, e, -⟩ := a4 dr τ X h hX
        obtain ⟨f', rfl⟩ : ∃ f', f = f' + 1 := ⟨f - 1, by omega⟩
        exact ⟨Y, by rw [stepC p p1 ok1 dr τ X Y f' i a3 h hi hp e, if_pos y], fun z => absurd z (by decide)⟩
      · obtain ⟨τ', Z', e, na, -⟩ := a5 τ Z i h hZ h18 hi
        obtain ⟨f', rfl⟩ : ∃ f', f = f' + 1 := ⟨f - 1, by omega⟩
        refine ⟨τ', Z', ?_, na, fun z => absurd z (by decide)⟩
        rw [e, Option.bind_some]
        dsimp only
        rw [stepM p1 ok1 τ' Z' f' a3 (na.bm h) a1, if_pos y]
    have y1 := a1.resolve_left y
    obtain ⟨wl, pp⟩ := a6 y1
    by_cases z : p1 = n
    · refine ⟨1, p1, [l], Or.inr rfl, a3, fun dr τ X f i h hX hi hf => ?_, fun τ Z f i h hZ h18 hi hf => ?_, fun _ l' hl => ?_⟩
      · obtain ⟨Y, e, q⟩ := a4 dr τ X h hX
        obtain ⟨q1, q2⟩ := q y1
        obtain ⟨f', rfl⟩ : ∃ f', f = f' + 1 := ⟨f - 1, by omega⟩
        refine ⟨Y, by rw [stepC p p1 ok1 dr τ X Y f' i a3 h hi hp e, if_neg y, if_pos z], fun _ => ⟨?_, by omega⟩⟩
        rw [q1]
        show _ = X ++ (clL X.length l ++ [])
        rw [List.append_nil]
      · obtain ⟨τ', Z', e, na, q⟩ := a5 τ Z i h hZ h18 hi
        obtain ⟨q1, q2, q3, q4, q5⟩ := q y1
        obtain ⟨f', rfl⟩ : ∃ f', f = f' + 1 := ⟨f - 1, by omega⟩
        refine ⟨τ', Z', ?_, na, fun _ => ⟨?_, by omega, q3, ⟨q4, trivial⟩, ?_, fun c j hj hc => q5 c j (by omega) hc⟩⟩
        · rw [e, Option.bind_some]
          dsimp only
          rw [stepM p1 ok1 τ' Z' f' a3 (na.bm h) a1, if_neg y, if_pos z]
        · rw [q1]
          show _ = Z ++ (moL l ++ [])
          rw [List.append_nil]
        · show i + 1 ≤ 60
          omega
      · have : l' = l := by simpa using hl
        rw [this]
        exact wl
    by_cases w : nx T n p1 = 59
    case neg =>
      refine ⟨0, p1, [], Or.inl rfl, a3, fun dr τ X f i h hX hi hf => ?_, fun τ Z f i h hZ h18 hi hf => ?_, fun z => absurd z (by decide)⟩
      · obtain ⟨Y, e, -⟩ := a4 dr τ X h hX
        obtain ⟨f', rfl⟩ : ∃ f', f = f' + 1 := ⟨f - 1, by omega⟩
        exact ⟨Y, by rw [stepC p p1 ok1 dr τ X Y f' i a3 h hi hp e, if_neg y, if_neg z, if_neg w], fun z => absurd z (by decide)⟩
      · obtain ⟨τ', Z', e, na, -⟩ := a5 τ Z i h hZ h18 hi
        obtain ⟨f', rfl⟩ : ∃ f', f = f' + 1 := ⟨f - 1, by omega⟩
        refine ⟨τ', Z', ?_, na, fun z => absurd z (by decide)⟩
        rw [e, Option.bind_some]
        dsimp only
        rw [stepM p1 ok1 τ' Z' f' a3 (na.bm h) a1, if_neg y, if_neg z, if_neg w]
    obtain ⟨ok2, p2, ls, d1, d2, d3, d4, d5⟩ := ih (p1 + 1) (by omega) (by omega)
    refine ⟨ok2, p2, l :: ls, d1, d2, fun dr τ X f i h hX hi hf => ?_, fun τ Z f i h hZ h18 hi hf => ?_, fun o l' hl => ?_⟩
    · obtain ⟨Y, e, q⟩ := a4 dr τ X h hX
      obtain ⟨q1, q2⟩ := q y1
      obtain ⟨f', rfl⟩ : ∃ f', f = f' + 1 := ⟨f - 1, by omega⟩
      obtain ⟨Y2, e2, r⟩ := d3 dr τ Y f' (i + 1) h (by omega) (by omega) (by omega)
      refine ⟨Y2, by rw [stepC p p1 ok1 dr τ X Y f' i a3 h hi hp e, if_neg y, if_neg z, if_pos w, e2], fun o => ?_⟩
      obtain ⟨r1, r2⟩ := r o
      refine ⟨?_, r2⟩
      rw [r1, q1]
      show _ = X ++ (clL X.length l ++ clLs (X.length + (clL X.length l).length) ls)
      rw [List.length_append, List.append_assoc]
    · obtain ⟨τ', Z', e, na, q⟩ := a5 τ Z i h hZ h18 hi
      obtain ⟨q1, q2, q3, q4, q5⟩ := q y1
      obtain ⟨f', rfl⟩ : ∃ f', f = f' + 1 := ⟨f - 1, by omega⟩
      obtain ⟨τ2, Z2, e2, na2, r⟩ := d4 τ' Z' f' (i + 1) (na.bm h) (by omega) q3 (by omega) (by omega)
      refine ⟨τ2, Z2, ?_, fun c j hc => (na2 c j hc).trans (na c j hc), fun o => ?_⟩
      · rw [e, Option.bind_some]
        dsimp only
        rw [stepM p1 ok1 τ' Z' f' a3 (na.bm h) a1, if_neg y, if_neg z, if_pos w, e2]
      · obtain ⟨r1, r2, r3, r4, r5, r6⟩ := r o
        have ll : (l :: ls).length = ls.length + 1 := rfl
        refine ⟨?_, r2, by rw [r3, ll, show i + 1 + ls.length = i + (ls.length + 1) by omega], ⟨q4.keep (fun d hd => r6 d i (by omega) hd), ?_⟩, by rw [ll]; omega, fun c j hj hc => by rw [r6 c j (by omega) hc, q5 c j (by omega) hc]⟩
        · rw [r1, q1]
          show _ = Z ++ (moL l ++ moLs ls)
          rw [List.append_assoc]
        · rw [q1, List.length_append] at r4
          exact r4
    · rcases List.mem_cons.mp hl with e | e
      · rw [e]
        exact wl
      · exact d5 o l' e
