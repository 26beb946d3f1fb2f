/-! Expressions: both readers alike, rank by rank. -/
theorem Sm.congr {T : Nat → Int} {n o Hb : Nat} {F G F' G' : St → Option (Int × St)} (S : Sm T n o Hb F G) (hF : ∀ σ, F' σ = F σ) (hG : ∀ σ, G' σ = G σ) : Sm T n o Hb F' G' := by
  have e1 : F' = F := funext hF
  have e2 : G' = G := funext hG
  rw [e1, e2]
  exact S
theorem rankS {T : Nat → Int} {n o r Hb : Nat} {cl : Nat → List Int → St → Option (Int × St)} {G : St → Option (Int × St)} {ML : Nat → St → Option (Int × St)} (hT : Tok T n) (hr : r < 5) (h2 : r ≠ 2) (S : Sm T n o Hb (fun σ => cl 1 [i_add (r : Int) 1, (o : Int)] σ) G) (hML : ∀ (f p : Nat) (τ : St) (Z : List Int), BM T n τ → p ≤ n → ML (f + 1) (moS τ p o Z) = if rk (nx T n p) = (r : Int) then (Option.bind (G (moS τ (p + 1) o Z)) fun q1 => if q1.1 = 0 then some (0, q1.2) else Option.bind (fX10_codes 49 (opc (nx T n p)) q1.2) fun q => ML f q.2) else some (1, moS τ p o Z)) : Sm T n o (Hb + 1) (fun σ => fX4_readRank cl 4 (r : Int) (o : Int) σ) (fun σ => Option.bind (G σ) fun q1 => if q1.1 = 0 then some (0, q1.2) else ML FU q1.2) := by
  intro p hp
  have n1 := hT.1
  obtain ⟨ok1, p1, L1, a1, a2, a3, a4, a5, a6, a7⟩ := S p hp
  have c0 : ∀ σ : St, fX4_readRank cl 4 (r : Int) (o : Int) σ = Option.bind (cl 1 [i_add (r : Int) 1, (o : Int)] σ) fun q1 => if q1.1 = 0 then some (0, q1.2) else fX4_readRank_39 cl 4 (r : Int) (o : Int) FU 120 0 q1.2 := by
    intro σ
    unfold fX4_readRank fX4_readRank_35
    rw [if_pos (by omega)]
    simp only [if_neg (show ¬ (r : Int) = 2 by omega)]
  rcases a1 with a1 | a1
  · refine ⟨0, p1, L1, Or.inl rfl, a2, a3, a4, fun dr τ X h hX => ?_, fun τ Z h hZ => ?_, fun z => absurd z (by decide)⟩
    · have := a5 dr τ X h hX
      dsimp only at this ⊢
      rw [c0, this, Option.bind_some, a1, if_pos rfl]
    · dsimp only
      rw [a6 τ Z h hZ, Option.bind_some, a1, if_pos rfl]
  · obtain ⟨b1, b2⟩ := a7 a1
    obtain ⟨ok2, p2, L2, d1, d2, d3, d4, d5, d6, d7⟩ := loopS hT S hML (n - p1) p1 a3 (Nat.le_refl _)
    have hl : (L1 ++ L2).length = L1.length + L2.length := by rw [List.length_append]
    refine ⟨ok2, p2, L1 ++ L2, d1, by omega, d3, by rw [hl]; omega, fun dr τ X h hX => ?_, fun τ Z h hZ => ?_, fun z => ⟨by omega, fun H h hH => ?_⟩⟩
    · have := a5 dr τ X h hX
      have lx : (X ++ L1.map tc).length = X.length + L1.length := by rw [List.length_append, List.length_map]
      have q := d5 dr τ (X ++ L1.map tc) FU 0 h (by omega) (Nat.zero_le _) (by unfold FU; omega)
      have q' : fX4_readRank_39 cl 4 (r : Int) (o : Int) FU 120 0 (clS dr τ p1 (X ++ L1.map tc)) = _ := q
      dsimp only at this ⊢
      rw [c0, this, Option.bind_some, a1, if_neg (show ¬ (1 : Int) = 0 by decide), q', List.map_append, List.append_assoc]
    · have lx : (Z ++ L1).length = Z.length + L1.length := by rw [List.length_append]
      dsimp only
      rw [a6 τ Z h hZ, Option.bind_some, a1, if_neg (show ¬ (1 : Int) = 0 by decide)]
      dsimp only
      rw [d6 τ _ FU h (by omega) (by unfold FU; omega), List.append_assoc]
    · rw [run_app H L1 L2 h (h + 1) (b2 H h (by omega))]
      exact d7 z H h (by omega)
theorem rk0 {s : Int} : rk s = ((0 : Nat) : Int) ↔ s = 124 := by
  unfold rk
  repeat' split
  all_goals omega
theorem rk1 {s : Int} : rk s = ((1 : Nat) : Int) ↔ s = 38 := by
  unfold rk
  repeat' split
  all_goals omega
theorem rk2 {s : Int} : rk s = ((2 : Nat) : Int) ↔ s = 60 ∨ s = 61 ∨ s = 62 := by
  unfold rk
  repeat' split
  all_goals omega
theorem rk3 {s : Int} : rk s = ((3 : Nat) : Int) ↔ s = 43 ∨ s = 45 := by
  unfold rk
  repeat' split
  all_goals omega
theorem rk4 {s : Int} : rk s = ((4 : Nat) : Int) ↔ s = 42 ∨ s = 47 ∨ s = 37 := by
  unfold rk
  repeat' split
  all_goals omega
theorem mlE {T : Nat → Int} {n o : Nat} {cl : Nat → List Int → St → Option (Int × St)} (hT : Tok T n) (f p : Nat) (τ : St) (Z : List Int) (h : BM T n τ) (hp : p ≤ n) : fX10_isE_9 cl 49 (f + 1) (moS τ p o Z) = if rk (nx T n p) = ((0 : Nat) : Int) then (Option.bind (cl 0 [] (moS τ (p + 1) o Z)) fun q1 => if q1.1 = 0 then some (0, q1.2) else Option.bind (fX10_codes 49 (opc (nx T n p)) q1.2) fun q => fX10_isE_9 cl 49 f q.2) else some (1, moS τ p o Z) := by
  have n1 := hT.1
  rw [fX10_isE_9.eq_2, m_is hT h (by omega)]
  by_cases z : nx T n p = 124
  · rw [if_pos z, if_pos (rk0.mpr z), b1, z]
    rfl
  · rw [if_neg z, if_neg (fun y => z (rk0.mp y)), b0]
theorem mlA {T : Nat → Int} {n o : Nat} {cl : Nat → List Int → St → Option (Int × St)} (hT : Tok T n) (f p : Nat) (τ : St) (Z : List Int) (h : BM T n τ) (hp : p ≤ n) : fX10_isA_9 cl 49 (f + 1) (moS τ p o Z) = if rk (nx T n p) = ((1 : Nat) : Int) then (Option.bind (cl 1 [] (moS τ (p + 1) o Z)) fun q1 => if q1.1 = 0 then some (0, q1.2) else Option.bind (fX10_codes 49 (opc (nx T n p)) q1.2) fun q => fX10_isA_9 cl 49 f q.2) else some (1, moS τ p o Z) := by
  have n1 := hT.1
  rw [fX10_isA_9.eq_2, m_is hT h (by omega)]
  by_cases z : nx T n p = 38
  · rw [if_pos z, if_pos (rk1.mpr z), b1, z]
    rfl
  · rw [if_neg z, if_neg (fun y => z (rk1.mp y)), b0]
theorem mlS {T : Nat → Int} {n o : Nat} {cl : Nat → List Int → St → Option (Int × St)} (hT : Tok T n) (f p : Nat) (τ : St) (Z : List Int) (h : BM T n τ) (hp : p ≤ n) : fX10_isS_9 cl 49 (f + 1) (moS τ p o Z) = if rk (nx T n p) = ((3 : Nat) : Int) then (Option.bind (cl 4 [] (moS τ (p + 1) o Z)) fun q1 => if q1.1 = 0 then some (0, q1.2) else Option.bind (fX10_codes 49 (opc (nx T n p)) q1.2) fun q => fX10_isS_9 cl 49 f q.2) else some (1, moS τ p o Z) := by
  have n1 := hT.1
  rw [fX10_isS_9.eq_2, m_sign hT h, Option.bind_some]
  unfold fX10_isS_38
  dsimp only
  rw [m_step (by omega), m_sign hT h, Option.bind_some]
  dsimp only
  rw [m_step (by omega)]
  by_cases z1 : nx T n p = 43
  · rw [if_pos z1, if_pos (rk3.mpr (Or.inl z1)), if_pos (by decide), z1]
    rfl
  · rw [if_neg z1]
    by_cases z2 : nx T n p = 45
    · rw [if_pos z2, if_pos (rk3.mpr (Or.inr z2)), if_pos (by decide), z2]
      rfl
    · rw [if_neg z2, if_neg (show ¬ (0 : Int) ≤ -1 by decide), if_neg (show ¬ rk (nx T n p) = ((3 : Nat) : Int) from fun y => by have := rk3.mp y; omega)]
theorem mlP {T : Nat → Int} {n o : Nat} {cl : Nat → List Int → St → Option (Int × St)} (hT : Tok T n) (f p : Nat) (τ : St) (Z : List Int) (h : BM T n τ) (hp : p ≤ n) : fX10_isP_9 cl 49 (f + 1) (moS τ p o Z) = if rk (nx T n p) = ((4 : Nat) : Int) then (Option.bind (cl 3 [] (moS τ (p + 1) o Z)) fun q1 => if q1.1 = 0 then some (0, q1.2) else Option.bind (fX10_codes 49 (opc (nx T n p)) q1.2) fun q => fX10_isP_9 cl 49 f q.2) else some (1, moS τ p o Z) := by
  have n1 := hT.1
  rw [fX10_isP_9.eq_2, m_sign hT h, Option.bind_some]
  unfold fX10_isP_52
  dsimp only
  rw [m_step (by omega), m_sign hT h, Option.bind_some]
  dsimp only
  rw [m_step (by omega), m_sign hT h, Option.bind_some]
  dsimp only
  rw [m_step (by omega)]
  by_cases z1 : nx T n p = 42
  · rw [if_pos z1, if_pos (rk4.mpr (Or.inl z1)), if_pos (by decide), z1]
    rfl
  · rw [if_neg z1]
    by_cases z2 : nx T n p = 47
    · rw [if_pos z2, if_pos (rk4.mpr (Or.inr (Or.inl z2))), if_pos (by decide), z2]
      rfl
    · rw [if_neg z2]
      by_cases z3 : nx T n p = 37
      · rw [if_pos z3, if_pos (rk4.mpr (Or.inr (Or.inr z3))), if_pos (by decide), z3]
        rfl
      · rw [if_neg z3, if_neg (show ¬ (0 : Int) ≤ -1 by decide), if_neg (show ¬ rk (nx T n p) = ((4 : Nat) : Int) from fun y => by have := rk4.mp y; omega)]
theorem rankB {T : Nat → Int} {n o Hb : Nat} {cl cl' : Nat → List Int → St → Option (Int × St)} (hT : Tok T n) (S : Sm T n o Hb (fun σ => cl 1 [i_add ((2 : Nat) : Int) 1, (o : Int)] σ) (fun σ => cl' 5 [] σ)) : Sm T n o (Hb + 1) (fun σ => fX4_readRank cl 4 ((2 : Nat) : Int) (o : Int) σ) (fun σ => fX10_isB cl' 49 σ) := by
  intro p hp
  have n1 := hT.1
  obtain ⟨ok1, p1, L1, a1, a2, a3, a4, a5, a6, a7⟩ := S p hp
  have c0 : ∀ σ : St, fX4_readRank cl 4 ((2 : Nat) : Int) (o : Int) σ = Option.bind (cl 1 [i_add ((2 : Nat) : Int) 1, (o : Int)] σ) fun q1 => if q1.1 = 0 then some (0, q1.2) else fX4_readRank_39 cl 4 ((2 : Nat) : Int) (o : Int) (999998 + 2) 1 0 q1.2 := by
    intro σ
    unfold fX4_readRank fX4_readRank_35
    rw [if_pos (by decide)]
    simp only [if_pos (show ((2 : Nat) : Int) = 2 from rfl)]
    rfl
  have m0 : ∀ (τ : St) (Z : List Int) (p : Nat), BM T n τ → p ≤ n → (Option.bind (fX10_sign 49 (moS τ p o Z)) fun q2 => if q2.1 = 60 then (fX10_isB_52 cl' 49 8 q2.2) else (Option.bind (fX10_sign 49 q2.2) fun q3 => if q3.1 = 61 then (fX10_isB_52 cl' 49 9 q3.2) else (Option.bind (fX10_sign 49 q3.2) fun q4 => if q4.1 = 62 then (fX10_isB_52 cl' 49 10 q4.2) else (fX10_isB_52 cl' 49 (-1) q4.2)))) = if rk (nx T n p) = ((2 : Nat) : Int) then (Option.bind (cl' 5 [] (moS τ (p + 1) o Z)) fun q1 => if q1.1 = 0 then (some (0, q1.2)) else (Option.bind (fX10_codes 49 (opc (nx T n p)) q1.2) fun q2 => if q2.1 = 0 then (some (0, q2.2)) else (some (1, q2.2)))) else some (1, moS τ p o Z) := by
    intro τ Z p h hp
    unfold fX10_isB_52
    rw [m_sign hT h, Option.bind_some]
    dsimp only
    rw [m_step (by omega), m_sign hT h, Option.bind_some]
    dsimp only
    rw [m_step (by omega), m_sign hT h, Option.bind_some]
    dsimp only
    rw [m_step (by omega)]
    by_cases z1 : nx T n p = 60
    · rw [if_pos z1, if_pos (rk2.mpr (Or.inl z1)), if_pos (by decide), z1]
      rfl
    · rw [if_neg z1]
      by_cases z2 : nx T n p = 61
      · rw [if_pos z2, if_pos (rk2.mpr (Or.inr (Or.inl z2))), if_pos (by decide), z2]
        rfl
      · rw [if_neg z2]
        by_cases z3 : nx T n p = 62
        · rw [if_pos z3, if_pos (rk2.mpr (Or.inr (Or.inr z3))), if_pos (by decide), z3]
          rfl
        · rw [if_neg z3, if_neg (show ¬ (0 : Int) ≤ -1 by decide), if_neg (show ¬ rk (nx T n p) = ((2 : Nat) : Int) from fun y => by have := rk2.mp y; omega)]
  rcases a1 with a1 | a1
  · refine ⟨0, p1, L1, Or.inl rfl, a2, a3, a4, fun dr τ X h hX => ?_, fun τ Z h hZ => ?_, fun z => absurd z (by decide)⟩
    · have := a5 dr τ X h hX
      dsimp only at this ⊢
      rw [c0, this, Option.bind_some, a1, if_pos rfl]
    · have := a6 τ Z h hZ
      dsimp only at this ⊢
      unfold fX10_isB
      rw [this, Option.bind_some, a1, if_pos rfl]
  obtain ⟨b1', b2'⟩ := a7 a1
  have lx : ∀ X : List Int, (X ++ L1.map tc).length = X.length + L1.length := fun X => by rw [List.length_append, List.length_map]
  have lz : ∀ Z : List Int, (Z ++ L1).length = Z.length + L1.length := fun Z => by rw [List.length_append]
  by_cases er : rk (nx T n p1) = ((2 : Nat) : Int)
  case neg =>
    refine ⟨1, p1, L1, Or.inr rfl, a2, a3, a4, fun dr τ X h hX => ?_, fun τ Z h hZ => ?_, fun z => ⟨b1', fun H h hH => b2' H h (by omega)⟩⟩
    · have := a5 dr τ X h hX
      dsimp only at this ⊢
      rw [c0, this, Option.bind_some, a1, if_neg (show ¬ (1 : Int) = 0 by decide), fX4_readRank_39.eq_2, if_neg (by decide)]
      dsimp only
      rw [c_next hT h, Option.bind_some]
      dsimp only
      rw [rank9, Option.bind_some, if_neg er]
    · have := a6 τ Z h hZ
      dsimp only at this ⊢
      unfold fX10_isB
      rw [this, Option.bind_some, a1, if_neg (show ¬ (1 : Int) = 0 by decide)]
      dsimp only
      rw [m0 τ _ p1 h a3, if_neg er]
  obtain ⟨o1, o2, o3, o4, o5⟩ := opc_ok (s := nx T n p1) (by omega)
  obtain ⟨x1, x2, x3⟩ := nx_in (p := p1) hT
  have pn : p1 < n := x3 (by omega)
  obtain ⟨ok2, p2, L2, d1, d2, d3, d4, d5, d6, d7⟩ := S (p1 + 1) (by omega)
  have ca : ∀ (dr : Nat) (τ : St) (X : List Int), BC T n dr τ → X.length ≤ p → fX4_readRank cl 4 ((2 : Nat) : Int) (o : Int) (clS dr τ p X) = Option.bind (cl 1 [i_add ((2 : Nat) : Int) 1, (o : Int)] (clS dr τ (p1 + 1) (X ++ L1.map tc))) fun q4 => if q4.1 = 0 then some (0, q4.2) else Option.bind (fX4_emit 4 (tc (opc (nx T n p1))) q4.2) fun q5 => fX4_readRank_39 cl 4 ((2 : Nat) : Int) (o : Int) (999998 + 1) 1 1 q5 := by
    intro dr τ X h hX
    have := a5 dr τ X h hX
    dsimp only at this
    rw [c0, this, Option.bind_some, a1, if_neg (show ¬ (1 : Int) = 0 by decide), fX4_readRank_39.eq_2, if_neg (by decide)]
    dsimp only
    rw [c_next hT h, Option.bind_some]
    dsimp only
    rw [rank9, Option.bind_some, if_pos er]
    dsimp only
    rw [c_next hT h, Option.bind_some]
    dsimp only
    rw [c_step (by omega), ing (ok_in (by omega) (by omega)), o1, show i_add 0 1 = 1 by decide]
  have ma : ∀ (τ : St) (Z : List Int), BM T n τ → Z.length ≤ p → fX10_isB cl' 49 (moS τ p o Z) = Option.bind (cl' 5 [] (moS τ (p1 + 1) o (Z ++ L1))) fun q1 => if q1.1 = 0 then (some (0, q1.2)) else (Option.bind (fX10_codes 49 (opc (nx T n p1)) q1.2) fun q2 => if q2.1 = 0 then (some (0, q2.2)) else (some (1, q2.2))) := by
    intro τ Z h hZ
    have := a6 τ Z h hZ
    dsimp only at this
    unfold fX10_isB
    rw [this, Option.bind_some, a1, if_neg (show ¬ (1 : Int) = 0 by decide)]
    dsimp only
    rw [m0 τ _ p1 h a3, if_pos er]
  rcases d1 with d1 | d1
  · refine ⟨0, p2, L1 ++ L2, Or.inl rfl, by omega, d3, by rw [List.length_append]; omega, fun dr τ X h hX => ?_, fun τ Z h hZ => ?_, fun z => absurd z (by decide)⟩
    · have q := d5 dr τ (X ++ L1.map tc) h (by rw [lx]; omega)
      dsimp only at q ⊢
      rw [ca dr τ X h hX, q, Option.bind_some, d1, if_pos rfl, List.map_append, List.append_assoc]
    · have q := d6 τ (Z ++ L1) h (by rw [lz]; omega)
      dsimp only at q ⊢
      rw [ma τ Z h hZ, q, Option.bind_some, d1, if_pos rfl, List.append_assoc]
  · obtain ⟨e1, e2⟩ := d7 d1
    have hl : (L1 ++ L2 ++ [opc (nx T n p1)]).length = L1.length + L2.length + 1 := by
      rw [List.length_append, List.length_append]
      rfl
    refine ⟨1, p2, L1 ++ L2 ++ [opc (nx T n p1)], Or.inr rfl, by omega, d3, by rw [hl]; omega, fun dr τ X h hX => ?_, fun τ Z h hZ => ?_, fun z => ⟨by omega, fun H h hH => ?_⟩⟩
    · have q := d5 dr τ (X ++ L1.map tc) h (by rw [lx]; omega)
      have l2 : (X ++ L1.map tc ++ L2.map tc).length = X.length + L1.length + L2.length := by rw [List.length_append, lx, List.length_map]
      dsimp only at q ⊢
      rw [ca dr τ X h hX, q, Option.bind_some, d1, if_neg (show ¬ (1 : Int) = 0 by decide)]
      dsimp only
      rw [c_emit h (by omega), Option.bind_some, fX4_readRank_39.eq_2, if_pos (by decide), List.map_append, List.map_append, List.append_assoc, List.append_assoc, List.append_assoc]
      rfl
    · have q := d6 τ (Z ++ L1) h (by rw [lz]; omega)
      have l2 : (Z ++ L1 ++ L2).length = Z.length + L1.length + L2.length := by rw [List.length_append, lz]
      dsimp only at q ⊢
      rw [ma τ Z h hZ, q, Option.bind_some, d1, if_neg (show ¬ (1 : Int) = 0 by decide)]
      dsimp only
      rw [m_codes (by omega), Option.bind_some, if_neg (show ¬ (1 : Int) = 0 by decide), List.append_assoc, List.append_assoc, List.append_assoc]
    · have r1 := run_app H L1 L2 h (h + 1) (b2' H h (by omega))
      rw [e2 H (h + 1) (by omega)] at r1
      rw [run_app H (L1 ++ L2) _ h (h + 2) r1]
      exact run_op o2 o3
theorem dig9 (s : Int) (σ : St) : fX4_isDigit s σ = some (if 48 ≤ s ∧ s ≤ 57 then 1 else 0, σ) := by
  unfold fX4_isDigit
  by_cases a : s < 48
  · rw [if_pos a, if_neg (by omega)]
  · rw [if_neg a]
    by_cases b : 57 < s
    · rw [if_pos b, if_neg (by omega)]
    · rw [if_neg b, if_pos (by omega)]
theorem dig10 {T : Nat → Int} {n p o : Nat} {τ : St} {Z : List Int} (hT : Tok T n) (h : BM T n τ) : fX10_isDigit 49 (moS τ p o Z) = some (if 48 ≤ nx T n p ∧ nx T n p ≤ 57 then 1 else 0, moS τ p o Z) := by
  unfold fX10_isDigit
  rw [m_sign hT h, Option.bind_some]
  dsimp only
  rw [m_sign hT h, Option.bind_some]
  dsimp only
  by_cases a : nx T n p < 48
  · rw [if_pos a, if_neg (by omega)]
  · rw [if_neg a]
    by_cases b : 57 < nx T n p
    · rw [if_pos b, if_neg (by omega)]
    · rw [if_neg b, if_pos (by omega)]
theorem mo15 {p o : Nat} {τ : St} {Z : List Int} : moS τ p o Z 49 15 = (p : Int) := if_pos ⟨rfl, rfl⟩
theorem numS {T : Nat → Int} {n o : Nat} {cl' : Nat → List Int → St → Option (Int × St)} (hT : Tok T n) : ∀ (m i p : Nat) (v : Int), i + m = 4 → p ≤ n → (0 ≤ v ∧ v < ((10 ^ i : Nat) : Int)) → ∃ (p' : Nat) (v' : Int), p ≤ p' ∧ p' ≤ n ∧ (0 ≤ v' ∧ v' < 10000) ∧ (∀ (dr : Nat) (τ : St) (X : List Int) (f : Nat), BC T n dr τ → X.length < 128 → m < f → fX4_readNumber_4 4 f v (i : Int) (clS dr τ p X) = some (1, clS dr τ p' (X ++ [v']))) ∧ (∀ (τ : St) (Z : List Int) (f : Nat), BM T n τ → Z.length < 200 → m < f → fX10_isO_11 cl' 49 f v (i : Int) (moS τ p o Z) = some (1, moS τ p' o (Z ++ [18 + v']))) := by
  intro m
  induction m with
  | zero =>
    intro i p v hi hp hv
    have i4 : i = 4 := by omega
    subst i4
    have e4 : ((10 ^ 4 : Nat) : Int) = 10000 := by decide
    rw [e4] at hv
    refine ⟨p, v, Nat.le_refl _, hp, hv, fun dr τ X f h hX hf => ?_, fun τ Z f h hZ hf => ?_⟩
    · obtain ⟨f', rfl⟩ : ∃ f', f = f' + 1 := ⟨f - 1, by omega⟩
      rw [fX4_readNumber_4.eq_2, if_pos (by decide)]
      unfold fX4_readNumber_48
      rw [c_emit h hX, Option.bind_some]
    · obtain ⟨f', rfl⟩ : ∃ f', f = f' + 1 := ⟨f - 1, by omega⟩
      rw [fX10_isO_11.eq_2, if_pos (by decide)]
      unfold fX10_isO_57
      rw [ia (ok_in (by omega) (by omega)), m_codes hZ, Option.bind_some, if_pos (Or.inr rfl)]
  | succ m ih =>
    intro i p v hi hp hv
    have n1 := hT.1
    have pi : 10 ^ i ≤ 10 ^ 3 := Nat.pow_le_pow_right (by decide) (by omega)
    have ps : 10 ^ (i + 1) = 10 ^ i * 10 := Nat.pow_succ 10 i
    have p3 : 10 ^ 3 = 1000 := by decide
    have ei : i_add (i : Int) 1 = ((i + 1 : Nat) : Int) := by
      rw [ia (ok_in (by omega) (by omega))]
      omega
    by_cases d : 48 ≤ nx T n p ∧ nx T n p ≤ 57
    · obtain ⟨x1, x2, x3⟩ := nx_in (p := p) hT
      have pn : p < n := x3 (by omega)
      have et : nx T n p = T p := if_pos pn
      obtain ⟨p', v', b1', b2', b3', b4', b5'⟩ := ih (i + 1) (p + 1) (v * 10 + (nx T n p - 48)) (by omega) (by omega) (by omega)
      refine ⟨p', v', by omega, b2', b3', fun dr τ X f h hX hf => ?_, fun τ Z f h hZ hf => ?_⟩
      · obtain ⟨f', rfl⟩ : ∃ f', f = f' + 1 := ⟨f - 1, by omega⟩
        rw [fX4_readNumber_4.eq_2, if_neg (by omega), c_next hT h, Option.bind_some]
        dsimp only
        rw [dig9, if_pos d, b1]
        dsimp only
        rw [c_next hT h, Option.bind_some]
        dsimp only
        rw [c_step (by omega), ei, im (ok_in (by omega) (by omega)), ia (x := v * 10) (ok_in (by omega) (by omega)), isb (ok_in (by omega) (by omega)), show v * 10 + nx T n p - 48 = v * 10 + (nx T n p - 48) by omega]
        exact b4' dr τ X f' h hX (by omega)
      · obtain ⟨f', rfl⟩ : ∃ f', f = f' + 1 := ⟨f - 1, by omega⟩
        have e55 : moS τ p o Z 55 p = nx T n p := by
          unfold moS
          rw [if_neg (by omega), if_neg (by omega), if_neg (by omega), if_neg (by omega), et]
          exact h.2 p (by omega)
        rw [fX10_isO_11.eq_2, if_neg (by omega), dig10 hT h, if_pos d, b1]
        simp only [rfS, lnS]
        rw [mo15, if_pos ⟨by omega, by omega⟩, Int.toNat_natCast, e55, ei, im (ok_in (by omega) (by omega)), ia (x := 10 * v) (ok_in (by omega) (by omega)), isb (ok_in (by omega) (by omega)), show 10 * v + nx T n p - 48 = v * 10 + (nx T n p - 48) by omega]
        have st : up (moS τ p o Z) 49 15 (i_add (p : Int) 1) = moS τ (p + 1) o Z := by
          have := m_step (p := p) (o := o) (τ := τ) (Z := Z) (by omega)
          rw [mo15] at this
          exact this
        rw [st]
        exact b5' τ Z f' h hZ (by omega)
    · refine ⟨p, v, Nat.le_refl _, hp, ⟨hv.1, by omega⟩, fun dr τ X f h hX hf => ?_, fun τ Z f h hZ hf => ?_⟩
      · obtain ⟨f', rfl⟩ : ∃ f', f = f' + 1 := ⟨f - 1, by omega⟩
        rw [fX4_readNumber_4.eq_2, if_neg (by omega), c_next hT h, Option.bind_some]
        dsimp only
        rw [dig9, if_neg d, b0]
        unfold fX4_readNumber_48
        dsimp only
        rw [c_emit h hX, Option.bind_some]
      · obtain ⟨f', rfl⟩ : ∃ f', f = f' + 1 := ⟨f - 1, by omega⟩
        rw [fX10_isO_11.eq_2, if_neg (by omega), dig10 hT h, if_neg d, b0]
        unfold fX10_isO_57
        dsimp only
        rw [ia (ok_in (by omega) (by omega)), m_codes hZ, Option.bind_some, if_pos (Or.inr rfl)]
