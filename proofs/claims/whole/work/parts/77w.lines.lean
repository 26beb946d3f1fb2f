/-! Lines of a law: both readers alike. -/
abbrev Ln : Type := List Int × Option (List Int)
def clL (k : Nat) (l : Ln) : List Int := match l.2 with
  | none => l.1.map tc ++ [-59]
  | some L2 => l.1.map tc ++ [-1000 - ((k + l.1.length + L2.length + 2 : Nat) : Int)] ++ (L2.map tc ++ [-59])
def moL (l : Ln) : List Int := match l.2 with
  | none => l.1
  | some L2 => l.1 ++ L2
def WE (L : List Int) : Prop := ∀ H h : Nat, h + 36 ≤ H → run H L h = some (h + 1)
def WL (l : Ln) : Prop := WE l.1 ∧ ∀ L2 : List Int, l.2 = some L2 → WE L2
/-- asks, says, ends of a line -/
def RwM (τ : St) (i c : Nat) (l : Ln) : Prop := τ 60 i = (c : Int) ∧ (match l.2 with
  | none => τ 61 i = (c : Int) ∧ τ 62 i = ((c + l.1.length : Nat) : Int)
  | some L2 => τ 61 i = ((c + l.1.length : Nat) : Int) ∧ τ 62 i = ((c + l.1.length + L2.length : Nat) : Int))
theorem getD_app2 {A B : List Int} {b : Nat} : (A ++ B).getD b 0 = if b < A.length then A.getD b 0 else B.getD (b - A.length) 0 := by
  by_cases h : b < A.length
  · rw [if_pos h]
    simp [List.getD, List.getElem?_append_left h]
  · rw [if_neg h]
    simp [List.getD, List.getElem?_append_right (Nat.le_of_not_lt h)]
theorem c_set {dr p : Nat} {τ : St} {A B : List Int} {x y : Int} (hd : dr ≠ 4) : up (clS dr τ p (A ++ [x] ++ B)) dr A.length y = clS dr τ p (A ++ [y] ++ B) := by
  funext a b
  have l1 : (A ++ [x] ++ B).length = A.length + 1 + B.length := by
    rw [List.length_append, List.length_append]
    rfl
  have l2 : (A ++ [y] ++ B).length = A.length + 1 + B.length := by
    rw [List.length_append, List.length_append]
    rfl
  have l3 : ∀ z : Int, (A ++ [z]).length = A.length + 1 := fun z => by
    rw [List.length_append]
    rfl
  have gx : ∀ (z : Int) (b : Nat), (A ++ [z] ++ B).getD b 0 = if b < A.length + 1 then (if b < A.length then A.getD b 0 else if b = A.length then z else 0) else B.getD (b - (A.length + 1)) 0 := by
    intro z b
    rw [getD_app2, l3, getD_app]
  rw [up_get]
  unfold clS
  rw [l1, l2, gx, gx]
  by_cases q : a = dr ∧ b = A.length
  · rw [if_pos q, if_neg (by omega), if_neg (by omega), if_pos (by omega), if_pos (by omega), if_neg (by omega), if_pos q.2]
  · rw [if_neg q]
    by_cases q6 : a = 4 ∧ b = 6
    · rw [if_pos q6, if_pos q6]
    rw [if_neg q6, if_neg q6]
    by_cases q7 : a = 4 ∧ b = 7
    · rw [if_pos q7, if_pos q7]
    rw [if_neg q7, if_neg q7]
    by_cases q8 : a = dr ∧ b < A.length + 1 + B.length
    · rw [if_pos q8, if_pos q8]
      by_cases q9 : b < A.length + 1
      · rw [if_pos q9, if_pos q9, if_pos (by omega), if_pos (by omega)]
      · rw [if_neg q9, if_neg q9]
    · rw [if_neg q8, if_neg q8]
theorem m_up {τ : St} {p o c j : Nat} {Z : List Int} {x : Int} (h : c ≠ 63 ∧ (c ≠ 49 ∨ j = 18)) : up (moS τ p o Z) c j x = moS (up τ c j x) p o Z := by
  funext a b
  rw [up_get]
  unfold moS
  rw [up_get]
  by_cases q : a = c ∧ b = j
  · rw [if_pos q, if_neg (by omega), if_neg (by omega), if_neg (by omega), if_neg (by omega), if_pos q]
  · rw [if_neg q, if_neg q]
theorem m_get {τ : St} {p o c j : Nat} {Z : List Int} (h : c ≠ 63 ∧ (c ≠ 49 ∨ (j ≠ 15 ∧ j ≠ 16 ∧ j ≠ 17))) : moS τ p o Z c j = τ c j := by
  unfold moS
  rw [if_neg (by omega), if_neg (by omega), if_neg (by omega), if_neg (by omega)]
theorem mo17 {p o : Nat} {τ : St} {Z : List Int} : moS τ p o Z 49 17 = (Z.length : Int) := by
  unfold moS
  rw [if_neg (by omega), if_neg (by omega), if_pos ⟨rfl, rfl⟩]
def nA (τ τ' : St) : Prop := ∀ c j : Nat, ¬ (c = 60 ∨ c = 61 ∨ c = 62 ∨ (c = 49 ∧ j = 18)) → τ' c j = τ c j
theorem nA.bm {T : Nat → Int} {n : Nat} {τ τ' : St} (h : nA τ τ') (b : BM T n τ) : BM T n τ' := ⟨by rw [h 49 7 (by omega)]; exact b.1, fun j hj => by rw [h 55 j (by omega)]; exact b.2 j hj⟩
theorem lineC {T : Nat → Int} {n p p1 : Nat} {ok1 : Int} {L1 : List Int} (hT : Tok T n) (a1 : ok1 = 0 ∨ ok1 = 1) (a4 : p + L1.length ≤ p1) (a3 : p1 ≤ n) (a5 : ∀ (dr : Nat) (τ : St) (X : List Int), BC T n dr τ → X.length ≤ p → hX4_readRank 4 0 0 (clS dr τ p X) = some (ok1, clS dr τ p1 (X ++ L1.map tc))) {dr : Nat} {τ : St} {X : List Int} (h : BC T n dr τ) (hX : X.length ≤ p) : fX4_readLine 4 (clS dr τ p X) = if ok1 = 0 then some (0, clS dr τ p1 (X ++ L1.map tc)) else if nx T n p1 = 63 then (Option.bind (hX4_readRank 4 0 0 (clS dr τ (p1 + 1) (X ++ L1.map tc ++ [-1000]))) fun q4 => if q4.1 = 0 then (some (0, q4.2)) else (Option.bind (fX4_emit 4 (-59) q4.2) fun q5 => if isA 1 (Int.toNat (q5 4 4)) = true then if (LN (Int.toNat (q5 4 4)) : Int) ≤ (((X ++ L1.map tc).length : Nat) : Int) then (some (1, q5)) else (if isA 1 (Int.toNat (q5 4 4)) = true then if inb (((X ++ L1.map tc).length : Nat) : Int) (LN (Int.toNat (q5 4 4))) then some (1, up q5 (Int.toNat (q5 4 4)) (X ++ L1.map tc).length (i_sub (-1000) (q5 4 7))) else none else none) else none)) else some (1, clS dr τ p1 (X ++ L1.map tc ++ [-59])) := by
  have n1 := hT.1
  have lx : (X ++ L1.map tc).length = X.length + L1.length := by rw [List.length_append, List.length_map]
  have e7 : ∀ (p : Nat) (Y : List Int), clS dr τ p Y 4 7 = (Y.length : Int) := fun p Y => by
    unfold clS
    rw [if_neg (by omega), if_pos ⟨rfl, rfl⟩]
  unfold fX4_readLine
  rw [a5 dr τ X h hX, Option.bind_some]
  dsimp only
  by_cases y : ok1 = 0
  · rw [if_pos y, if_pos y]
  rw [if_neg y, if_neg y, c_takes hT h (by omega)]
  by_cases z : nx T n p1 = 63
  · rw [if_pos z, if_pos z, b1]
    dsimp only
    rw [c_emit h (by omega), Option.bind_some]
    simp only [e7, Int.toNat_natCast]
  · rw [if_neg z, if_neg z, b0]
    dsimp only
    rw [c_emit h (by omega), Option.bind_some]
theorem lineS {T : Nat → Int} {n : Nat} (hT : Tok T n) (p : Nat) (hp : p ≤ n) : ∃ (ok : Int) (p' : Nat) (l : Ln), (ok = 0 ∨ ok = 1) ∧ p ≤ p' ∧ p' ≤ n ∧ (∀ (dr : Nat) (τ : St) (X : List Int), BC T n dr τ → X.length ≤ p → ∃ Y : List Int, fX4_readLine 4 (clS dr τ p X) = some (ok, clS dr τ p' Y) ∧ (ok = 1 → Y = X ++ clL X.length l ∧ Y.length ≤ p' + 1)) ∧ (∀ (τ : St) (Z : List Int) (i : Nat), BM T n τ → Z.length ≤ p → τ 49 18 = (i : Int) → 2 * i ≤ p → ∃ (τ' : St) (Z' : List Int), fX10_isLine 49 (moS τ p 0 Z) = some (ok, moS τ' p' 0 Z') ∧ nA τ τ' ∧ (ok = 1 → Z' = Z ++ moL l ∧ Z'.length ≤ p' ∧ τ' 49 18 = ((i + 1 : Nat) : Int) ∧ RwM τ' i Z.length l ∧ ∀ c j : Nat, j ≠ i → (c = 60 ∨ c = 61 ∨ c = 62) → τ' c j = τ c j)) ∧ (ok = 1 → WL l ∧ p < p') := by
  have n1 := hT.1
  have S := exprS hT
  obtain ⟨ok1, p1, L1, a1, a2, a3, a4, a5, a6, a7⟩ := S p hp
  have lc := fun (dr : Nat) (τ : St) (X : List Int) (h : BC T n dr τ) (hX : X.length ≤ p) => lineC hT a1 a4 a3 a5 h hX
  have lx : ∀ X : List Int, (X ++ L1.map tc).length = X.length + L1.length := fun X => by rw [List.length_append, List.length_map]
  have lz : ∀ Z : List Int, (Z ++ L1).length = Z.length + L1.length := fun Z => by rw [List.length_append]
  -- the model, up to the first expression's end
  have m0 : ∀ (τ : St) (Z : List Int) (i : Nat), BM T n τ → Z.length ≤ p → τ 49 18 = (i : Int) → 2 * i ≤ p → fX10_isLine 49 (moS τ p 0 Z) = if ok1 = 0 then some (0, moS (up τ 60 i (Z.length : Int)) p1 0 (Z ++ L1)) else if nx T n p1 = 63 then (Option.bind (hX10_isE 49 (moS (up (up (up τ 60 i (Z.length : Int)) 61 i (Z.length : Int)) 61 i ((Z ++ L1).length : Int)) (p1 + 1) 0 (Z ++ L1))) fun q3 => if q3.1 = 0 then (some (0, q3.2)) else (fX10_isLine_71 49 q3.2)) else fX10_isLine_71 49 (moS (up (up τ 60 i (Z.length : Int)) 61 i (Z.length : Int)) p1 0 (Z ++ L1)) := by
    intro τ Z i h hZ h18 hi
    have u18 : ∀ (τ' : St) (p o : Nat) (Z : List Int), moS τ' p o Z 49 18 = τ' 49 18 := fun τ' p o Z => m_get (by omega)
    have k18 : ∀ (c : Nat) (x : Int), c ≠ 49 → up τ c i x 49 18 = (i : Int) := fun c x hc => by rw [up_ne (Ne.symm hc)]; exact h18
    have bm : ∀ (τ' : St) (c : Nat) (x : Int), c ≠ 49 → c ≠ 55 → BM T n τ' → BM T n (up τ' c i x) := fun τ' c x c1 c2 b => ⟨by rw [up_ne (Ne.symm c1)]; exact b.1, fun j hj => by rw [up_ne (Ne.symm c2)]; exact b.2 j hj⟩
    unfold fX10_isLine
    simp only [rfS, lnS]
    rw [u18, h18, if_pos ⟨by omega, by omega⟩, mo17, Int.toNat_natCast, m_up (by omega)]
    have q := a6 (up τ 60 i (Z.length : Int)) Z (bm τ 60 _ (by decide) (by decide) h) hZ
    dsimp only at q
    rw [q, Option.bind_some]
    dsimp only
    by_cases y : ok1 = 0
    · rw [if_pos y, if_pos y]
    have k1 : ∀ x : Int, up τ 60 i x 49 18 = (i : Int) := fun x => k18 60 x (by decide)
    have k2 : ∀ x w : Int, up (up τ 60 i x) 61 i w 49 18 = (i : Int) := fun x w => by rw [up_ne (by decide)]; exact k1 x
    rw [if_neg y, if_neg y]
    simp only [u18, k1, Int.toNat_natCast]
    rw [if_pos ⟨by omega, by omega⟩, if_pos ⟨by omega, by omega⟩]
    have g60 : moS (up τ 60 i (Z.length : Int)) p1 0 (Z ++ L1) 60 i = (Z.length : Int) := by
      rw [m_get (by omega), up_get, if_pos ⟨rfl, rfl⟩]
    rw [g60, m_up (by omega), m_is hT (bm _ 61 _ (by decide) (by decide) (bm τ 60 _ (by decide) (by decide) h)) (by omega)]
    by_cases z : nx T n p1 = 63
    · rw [if_pos z, if_pos z, b1]
      dsimp only
      simp only [u18, k2, Int.toNat_natCast]
      rw [if_pos ⟨by omega, by omega⟩, mo17, m_up (by omega)]
    · rw [if_neg z, if_neg z, b0]
  -- the end of a line in the model
  have m71 : ∀ (τ : St) (Z : List Int) (p i : Nat), τ 49 18 = (i : Int) → i ≤ 60 → fX10_isLine_71 49 (moS τ p 0 Z) = some (1, moS (up (up τ 49 18 ((i + 1 : Nat) : Int)) 62 i (Z.length : Int)) p 0 Z) := by
    intro τ Z p i h18 hi
    have u18 : moS τ p 0 Z 49 18 = (i : Int) := by
      rw [m_get (by omega)]
      exact h18
    unfold fX10_isLine_71
    simp only [rfS, lnS]
    rw [u18, if_pos ⟨by omega, by omega⟩, Int.toNat_natCast, ia_n (by omega), m_up (by omega), mo17, m_up (by omega)]
  by_cases y : ok1 = 0
  · refine ⟨0, p1, (L1, none), Or.inl rfl, a2, a3, fun dr τ X h hX => ⟨X ++ L1.map tc, ?_, fun z => absurd z (by decide)⟩, fun τ Z i h hZ h18 hi => ⟨up τ 60 i (Z.length : Int), Z ++ L1, ?_, fun c j q => by rw [up_get, if_neg (by omega)], fun z => absurd z (by decide)⟩, fun z => absurd z (by decide)⟩
    · rw [lc dr τ X h hX, if_pos y]
    · rw [m0 τ Z i h hZ h18 hi, if_pos y]
  have y1 : ok1 = 1 := a1.resolve_left y
  obtain ⟨w1, w2⟩ := a7 y1
  by_cases z : nx T n p1 = 63
  case neg =>
    refine ⟨1, p1, (L1, none), Or.inr rfl, a2, a3, fun dr τ X h hX => ⟨X ++ L1.map tc ++ [-59], ?_, fun _ => ⟨?_, ?_⟩⟩, fun τ Z i h hZ h18 hi => ⟨up (up (up (up τ 60 i (Z.length : Int)) 61 i (Z.length : Int)) 49 18 ((i + 1 : Nat) : Int)) 62 i ((Z ++ L1).length : Int), Z ++ L1, ?_, fun c j q => ?_, fun _ => ⟨rfl, by rw [lz]; omega, ?_, ⟨?_, ?_, ?_⟩, fun c j hj hc => ?_⟩⟩, fun _ => ⟨⟨w2, fun L2 e => absurd e (by simp)⟩, w1⟩⟩
    · rw [lc dr τ X h hX, if_neg y, if_neg z]
    · show X ++ L1.map tc ++ [-59] = X ++ (L1.map tc ++ [-59])
      rw [List.append_assoc]
    · rw [List.length_append, lx]
      show X.length + L1.length + 1 ≤ p1 + 1
      omega
    · rw [m0 τ Z i h hZ h18 hi, if_neg y, if_neg z, m71 _ _ _ i (by rw [up_ne (by decide), up_ne (by decide)]; exact h18) (by omega)]
    · rw [up_get, if_neg (by omega), up_get, if_neg (by omega), up_get, if_neg (by omega), up_get, if_neg (by omega)]
    · rw [up_ne (by decide), up_get, if_pos ⟨rfl, rfl⟩]
    · rw [up_ne (by decide), up_ne (by decide), up_ne (by decide), up_get, if_pos ⟨rfl, rfl⟩]
    · rw [up_ne (by decide), up_ne (by decide), up_get, if_pos ⟨rfl, rfl⟩]
    · rw [up_get, if_pos ⟨rfl, rfl⟩, lz]
    · rw [up_get, if_neg (by omega), up_get, if_neg (by omega), up_get, if_neg (by omega), up_get, if_neg (by omega)]
  have pn1 : p1 < n := (nx_in (p := p1) hT).2.2 (by omega)
  obtain ⟨ok2, p2, L2, d1, d2, d3, d4, d5, d6, d7⟩ := S (p1 + 1) (by omega)
  have l1000 : ∀ X : List Int, (X ++ L1.map tc ++ [-1000]).length = X.length + L1.length + 1 := fun X => by
    rw [List.length_append, lx]
    rfl
  have bm3 : ∀ (τ : St) (i : Nat) (x y w : Int), BM T n τ → BM T n (up (up (up τ 60 i x) 61 i y) 61 i w) := fun τ i x y w b => ⟨by rw [up_ne (by decide), up_ne (by decide), up_ne (by decide)]; exact b.1, fun j hj => by rw [up_ne (by decide), up_ne (by decide), up_ne (by decide)]; exact b.2 j hj⟩
  by_cases y2 : ok2 = 0
  · refine ⟨0, p2, (L1, none), Or.inl rfl, by omega, d3, fun dr τ X h hX => ⟨X ++ L1.map tc ++ [-1000] ++ L2.map tc, ?_, fun z => absurd z (by decide)⟩, fun τ Z i h hZ h18 hi => ⟨up (up (up τ 60 i (Z.length : Int)) 61 i (Z.length : Int)) 61 i ((Z ++ L1).length : Int), Z ++ L1 ++ L2, ?_, fun c j q => ?_, fun z => absurd z (by decide)⟩, fun z => absurd z (by decide)⟩
    · have q := d5 dr τ (X ++ L1.map tc ++ [-1000]) h (by rw [l1000]; omega)
      dsimp only at q
      rw [lc dr τ X h hX, if_neg y, if_pos z, q, Option.bind_some, y2, if_pos rfl]
    · have q := d6 _ (Z ++ L1) (bm3 τ i (Z.length : Int) (Z.length : Int) ((Z ++ L1).length : Int) h) (by rw [lz]; omega)
      dsimp only at q
      rw [m0 τ Z i h hZ h18 hi, if_neg y, if_pos z, q, Option.bind_some, y2, if_pos rfl]
    · rw [up_get, if_neg (by omega), up_get, if_neg (by omega), up_get, if_neg (by omega)]
  have y3 : ok2 = 1 := d1.resolve_left y2
  obtain ⟨v1, v2⟩ := d7 y3
  have lz2 : ∀ Z : List Int, (Z ++ L1 ++ L2).length = Z.length + L1.length + L2.length := fun Z => by rw [List.length_append, lz]
  refine ⟨1, p2, (L1, some L2), Or.inr rfl, by omega, d3, fun dr τ X h hX => ⟨X ++ L1.map tc ++ [-1000 - ((X.length + L1.length + L2.length + 2 : Nat) : Int)] ++ (L2.map tc ++ [-59]), ?_, fun _ => ⟨?_, ?_⟩⟩, fun τ Z i h hZ h18 hi => ⟨up (up (up (up (up τ 60 i (Z.length : Int)) 61 i (Z.length : Int)) 61 i ((Z ++ L1).length : Int)) 49 18 ((i + 1 : Nat) : Int)) 62 i ((Z ++ L1 ++ L2).length : Int), Z ++ L1 ++ L2, ?_, fun c j q => ?_, fun _ => ⟨?_, by rw [lz2]; omega, ?_, ⟨?_, ?_, ?_⟩, fun c j hj hc => ?_⟩⟩, fun _ => ⟨⟨w2, fun L3 e => by cases e; exact v2⟩, by omega⟩⟩
  · have q := d5 dr τ (X ++ L1.map tc ++ [-1000]) h (by rw [l1000]; omega)
    dsimp only at q
    obtain ⟨hd, d4', -, -⟩ := id h
    have l2 : (X ++ L1.map tc ++ [-1000] ++ L2.map tc).length = X.length + L1.length + 1 + L2.length := by rw [List.length_append, l1000, List.length_map]
    have l3 : (X ++ L1.map tc ++ [-1000] ++ L2.map tc ++ [-59]).length = X.length + L1.length + L2.length + 2 := by
      rw [List.length_append, l2]
      show X.length + L1.length + 1 + L2.length + 1 = _
      omega
    rw [lc dr τ X h hX, if_neg y, if_pos z, q, Option.bind_some, y3, if_neg (show ¬ (1 : Int) = 0 by decide)]
    dsimp only
    rw [c_emit h (by omega), Option.bind_some]
    have e4 : ∀ (p : Nat) (Y : List Int), clS dr τ p Y 4 4 = (dr : Int) := fun p Y => by
      unfold clS
      rw [if_neg (by omega), if_neg (by omega), if_neg (by omega)]
      exact d4'
    have e7 : ∀ (p : Nat) (Y : List Int), clS dr τ p Y 4 7 = (Y.length : Int) := fun p Y => by
      unfold clS
      rw [if_neg (by omega), if_pos ⟨rfl, rfl⟩]
    have hA : isA 1 dr = true ∧ LN dr = 128 := by
      rcases hd with rfl | rfl
      · exact ⟨by decide +kernel, rfl⟩
      · exact ⟨by decide +kernel, rfl⟩
    rw [e4, e7, Int.toNat_natCast, hA.2, if_pos hA.1, if_neg (by rw [lx]; omega), if_pos hA.1, if_pos ⟨by omega, by rw [lx]; omega⟩, l3, isb (ok_in (by omega) (by omega)), List.append_assoc (X ++ L1.map tc ++ [-1000]), c_set (by omega)]
  · show X ++ L1.map tc ++ [-1000 - ((X.length + L1.length + L2.length + 2 : Nat) : Int)] ++ (L2.map tc ++ [-59]) = X ++ (L1.map tc ++ [-1000 - ((X.length + L1.length + L2.length + 2 : Nat) : Int)] ++ (L2.map tc ++ [-59]))
    rw [List.append_assoc, List.append_assoc, List.append_assoc]
  · rw [List.length_append, List.length_append, lx, List.length_append, List.length_map]
    show X.length + L1.length + 1 + (L2.length + 1) ≤ p2 + 1
    omega
  · have q := d6 _ (Z ++ L1) (bm3 τ i (Z.length : Int) (Z.length : Int) ((Z ++ L1).length : Int) h) (by rw [lz]; omega)
    dsimp only at q
    rw [m0 τ Z i h hZ h18 hi, if_neg y, if_pos z, q, Option.bind_some, y3, if_neg (show ¬ (1 : Int) = 0 by decide)]
    dsimp only
    rw [m71 _ _ _ i (by rw [up_ne (by decide), up_ne (by decide), up_ne (by decide)]; exact h18) (by omega)]
  · rw [up_get, if_neg (by omega), up_get, if_neg (by omega), up_get, if_neg (by omega), up_get, if_neg (by omega), up_get, if_neg (by omega)]
  · show Z ++ L1 ++ L2 = Z ++ (L1 ++ L2)
    rw [List.append_assoc]
  · rw [up_ne (by decide), up_get, if_pos ⟨rfl, rfl⟩]
  · rw [up_ne (by decide), up_ne (by decide), up_ne (by decide), up_ne (by decide), up_get, if_pos ⟨rfl, rfl⟩]
  · rw [up_ne (by decide), up_ne (by decide), up_get, if_pos ⟨rfl, rfl⟩, lz]
  · rw [up_get, if_pos ⟨rfl, rfl⟩, lz2]
  · rw [up_get, if_neg (by omega), up_get, if_neg (by omega), up_get, if_neg (by omega), up_get, if_neg (by omega), up_get, if_neg (by omega)]
