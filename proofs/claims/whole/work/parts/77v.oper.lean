/-! Operands; whole expressions. -/
theorem i2c_ok : ∀ x : Nat, x < 256 → c_i2c (x : Int) = (x : Int) := by decide +kernel
theorem name10 (s : Int) (σ : St) : fX10_nameOf s σ = some (ixof s, σ) := by
  unfold fX10_nameOf ixof
  repeat' split
  all_goals first | rfl | omega
theorem ixof_in (s : Int) : -1 ≤ ixof s ∧ ixof s ≤ 5 := by
  unfold ixof
  repeat' split
  all_goals omega
theorem run_push {c : Int} {H h : Nat} (h0 : 0 ≤ c) (h1 : c < 20000) (hp : 18 ≤ c ∨ c ≤ 5) (hH : h < H) : run H [c] h = some (h + 1) := by
  unfold run
  rw [if_neg (by omega), if_pos hp, if_pos hH]
  rfl
theorem run_un {c : Int} {H h : Nat} (hc : c = 16 ∨ c = 17) : run H [c] (h + 1) = some (h + 1) := by
  unfold run
  rw [if_neg (by omega), if_neg (by omega), if_pos hc, if_pos (by omega)]
  rfl
theorem tc_num {v : Int} (h : 0 ≤ v) : tc (18 + v) = v := by
  unfold tc
  rw [if_pos (by omega)]
  omega
theorem tc_name {k : Int} (h : k ≤ 5) : tc k = -1 - k := by
  unfold tc
  rw [if_neg (by omega), if_pos h]
theorem operS {T : Nat → Int} {n o HE HO HB : Nat} {cl cl' : Nat → List Int → St → Option (Int × St)} (hT : Tok T n) (ho : o ≤ 6) (SE : o < 6 → Sm T n (o + 1) HE (fun σ => cl 1 [0, ((o + 1 : Nat) : Int)] σ) (fun σ => cl' 2 [] σ)) (SO : o < 6 → Sm T n (o + 1) HO (fun σ => cl 0 [((o + 1 : Nat) : Int)] σ) (fun σ => cl' 3 [] σ)) (hB : 1 ≤ HB) (hE : o < 6 → HE ≤ HB ∧ HO ≤ HB) : Sm T n o HB (fun σ => fX4_readOperand cl 4 (o : Int) σ) (fun σ => fX10_isO cl' 49 σ) := by
  intro p hp
  have n1 := hT.1
  obtain ⟨x1, x2, x3⟩ := nx_in (p := p) hT
  have eo : i_add (o : Int) 1 = ((o + 1 : Nat) : Int) := by
    rw [ia (ok_in (by omega) (by omega))]
    omega
  have eo' : i_sub ((o + 1 : Nat) : Int) 1 = (o : Int) := by
    rw [isb (ok_in (by omega) (by omega))]
    omega
  have back : ∀ (τ : St) (q : Nat) (Z : List Int) (x : Int), x = 0 ∨ x = 1 → fX10_isO_214 cl' 49 x (moS τ q (o + 1) Z) = some (x, moS τ q o Z) := by
    intro τ q Z x hx
    unfold fX10_isO_214
    rw [if_pos hx, mo16, m_open eo']
  by_cases d : 48 ≤ nx T n p ∧ nx T n p ≤ 57
  · -- a number
    have pn : p < n := x3 (by omega)
    have et : nx T n p = T p := if_pos pn
    obtain ⟨p', v', b1', b2', b3', b4', b5'⟩ := numS (T := T) (n := n) (o := o) (cl' := cl') hT 3 1 (p + 1) (nx T n p - 48) (by omega) (by omega) (by
      have : ((10 ^ 1 : Nat) : Int) = 10 := by decide
      omega)
    refine ⟨1, p', [18 + v'], Or.inr rfl, by omega, b2', by show p + 1 ≤ p'; omega, fun dr τ X h hX => ?_, fun τ Z h hZ => ?_, fun _ => ⟨by omega, fun H h hH => run_push (by omega) (by omega) (by omega) (by omega)⟩⟩
    · dsimp only
      unfold fX4_readOperand fX4_readNumber
      rw [c_next hT h, Option.bind_some]
      dsimp only
      rw [dig9, if_pos d, b1]
      dsimp only
      have q : fX4_readNumber_4 4 FU 0 0 (clS dr τ p X) = some (1, clS dr τ p' (X ++ [v'])) := by
        rw [FU_l, show (1000000 : Nat) = 999999 + 1 from rfl, fX4_readNumber_4.eq_2, if_neg (by decide), c_next hT h, Option.bind_some]
        dsimp only
        rw [dig9, if_pos d, b1]
        dsimp only
        rw [c_next hT h, Option.bind_some]
        dsimp only
        rw [c_step (by omega), im (x := 0) (ok_in (by decide) (by decide)), ia (x := 0 * 10) (ok_in (by omega) (by omega)), isb (ok_in (by omega) (by omega)), show 0 * 10 + nx T n p - 48 = nx T n p - 48 by omega, show i_add 0 1 = ((1 : Nat) : Int) by decide]
        exact b4' dr τ X 999999 h (by omega) (by omega)
      rw [q, Option.bind_some, if_pos (Or.inr rfl)]
      have : [18 + v'].map tc = [v'] := by
        show [tc (18 + v')] = [v']
        rw [tc_num b3'.1]
      rw [this]
    · dsimp only
      have e55 : moS τ p o Z 55 p = nx T n p := by
        unfold moS
        rw [if_neg (by omega), if_neg (by omega), if_neg (by omega), if_neg (by omega), et]
        exact h.2 p (by omega)
      have st : up (moS τ p o Z) 49 15 (i_add (p : Int) 1) = moS τ (p + 1) o Z := by
        have := m_step (p := p) (o := o) (τ := τ) (Z := Z) (by omega)
        rw [mo15] at this
        exact this
      unfold fX10_isO
      rw [dig10 hT h, if_pos d, b1]
      dsimp only
      rw [FU_l, show (1000000 : Nat) = 999999 + 1 from rfl, fX10_isO_11.eq_2, if_neg (by decide), dig10 hT h, if_pos d, b1]
      simp only [rfS, lnS]
      rw [mo15, if_pos ⟨by omega, by omega⟩, Int.toNat_natCast, e55, st, im (x := 10) (ok_in (by decide) (by decide)), ia (x := 10 * 0) (ok_in (by omega) (by omega)), isb (ok_in (by omega) (by omega)), show 10 * 0 + nx T n p - 48 = nx T n p - 48 by omega, show i_add 0 1 = ((1 : Nat) : Int) by decide]
      exact b5' τ Z 999999 h (by omega) (by omega)
  -- what class and model do with no digit
  have c0 : ∀ (dr : Nat) (τ : St) (X : List Int), BC T n dr τ → fX4_readOperand cl 4 (o : Int) (clS dr τ p X) = fX4_readOperand_32 cl 4 (o : Int) (nx T n p) (ixof (nx T n p)) (clS dr τ p X) := by
    intro dr τ X h
    unfold fX4_readOperand
    rw [c_next hT h, Option.bind_some]
    dsimp only
    rw [dig9, if_neg d, b0]
    by_cases z : 0 ≤ nx T n p
    · obtain ⟨w, hw⟩ : ∃ w : Nat, nx T n p = (w : Int) := ⟨(nx T n p).toNat, by omega⟩
      rw [if_pos z, hw, i2c_ok w (by omega)]
    · have e : nx T n p = -1 := by omega
      rw [if_neg z, e]
      rfl
  have m0 : ∀ (τ : St) (Z : List Int), BM T n τ → fX10_isDigit 49 (moS τ p o Z) = some (0, moS τ p o Z) := by
    intro τ Z h
    rw [dig10 hT h, if_neg d]
  have ix := ixof_in (nx T n p)
  by_cases nm : ixof (nx T n p) < 0
  case neg =>
    -- a name
    have pn : p < n := x3 (fun z => nm (by rw [z]; decide))
    refine ⟨1, p + 1, [ixof (nx T n p)], Or.inr rfl, by omega, by omega, Nat.le_refl _, fun dr τ X h hX => ?_, fun τ Z h hZ => ?_, fun _ => ⟨by omega, fun H h hH => run_push (by omega) (by omega) (by omega) (by omega)⟩⟩
    · dsimp only
      rw [c0 dr τ X h]
      unfold fX4_readOperand_32
      rw [if_neg nm, c_step (by omega), isb (ok_in (by omega) (by omega)), c_emit h (by omega), Option.bind_some]
      have : [ixof (nx T n p)].map tc = [-1 - ixof (nx T n p)] := by
        show [tc (ixof (nx T n p))] = _
        rw [tc_name (by omega)]
      rw [this]
    · dsimp only
      unfold fX10_isO
      rw [m0 τ Z h, b0]
      dsimp only
      rw [m_sign hT h, Option.bind_some]
      dsimp only
      rw [name10, Option.bind_some, if_neg nm]
      dsimp only
      rw [m_step (by omega), m_codes (by omega), Option.bind_some, if_pos (Or.inr rfl)]
  by_cases o6 : o = 6
  · -- nested too deep
    refine ⟨0, p, [], Or.inl rfl, Nat.le_refl _, hp, Nat.le_refl _, fun dr τ X h hX => ?_, fun τ Z h hZ => ?_, fun z => absurd z (by decide)⟩
    · dsimp only
      rw [c0 dr τ X h]
      unfold fX4_readOperand_32
      rw [if_pos nm, if_neg (by omega), List.map_nil, List.append_nil]
    · dsimp only
      unfold fX10_isO
      rw [m0 τ Z h, b0]
      dsimp only
      rw [m_sign hT h, Option.bind_some]
      dsimp only
      rw [name10, Option.bind_some, if_pos nm]
      dsimp only
      simp only [mo16]
      rw [if_pos (by omega), List.append_nil]
  have o5 : o < 6 := by omega
  obtain ⟨hE1, hE2⟩ := hE o5
  -- the model's fork
  have m1 : ∀ (τ : St) (Z : List Int), BM T n τ → fX10_isO cl' 49 (moS τ p o Z) = if nx T n p = 33 then (Option.bind (cl' 3 [] (moS τ (p + 1) (o + 1) Z)) fun q11 => if q11.1 = 0 then (fX10_isO_144 cl' 49 q11.2) else (Option.bind (fX10_codes 49 16 q11.2) fun q12 => if q12.1 = 0 then (fX10_isO_144 cl' 49 q12.2) else (fX10_isO_145 cl' 49 1 q12.2))) else if nx T n p = 45 then (Option.bind (cl' 3 [] (moS τ (p + 1) (o + 1) Z)) fun q9 => if q9.1 = 0 then (fX10_isO_178 cl' 49 q9.2) else (Option.bind (fX10_codes 49 17 q9.2) fun q10 => if q10.1 = 0 then (fX10_isO_178 cl' 49 q10.2) else (fX10_isO_179 cl' 49 1 q10.2))) else if nx T n p = 40 then (Option.bind (cl' 2 [] (moS τ (p + 1) (o + 1) Z)) fun q7 => if q7.1 = 0 then (fX10_isO_212 cl' 49 q7.2) else (Option.bind (fX10_is 49 41 q7.2) fun q8 => if q8.1 = 0 then (fX10_isO_212 cl' 49 q8.2) else (fX10_isO_213 cl' 49 1 q8.2))) else some (0, moS τ p o Z) := by
    intro τ Z h
    unfold fX10_isO
    rw [m0 τ Z h, b0]
    dsimp only
    rw [m_sign hT h, Option.bind_some]
    dsimp only
    rw [name10, Option.bind_some, if_pos nm]
    dsimp only
    simp only [mo16]
    rw [if_neg (by omega), m_open eo, m_is hT h (by omega)]
    by_cases z1 : nx T n p = 33
    · rw [if_pos z1, if_pos z1, b1]
    rw [if_neg z1, if_neg z1, b0]
    dsimp only
    rw [m_is hT h (by omega)]
    by_cases z2 : nx T n p = 45
    · rw [if_pos z2, if_pos z2, b1]
    rw [if_neg z2, if_neg z2, b0]
    dsimp only
    rw [m_is hT h (by omega)]
    by_cases z3 : nx T n p = 40
    · rw [if_pos z3, if_pos z3, b1]
    rw [if_neg z3, if_neg z3, b0]
    unfold fX10_isO_212 fX10_isO_213
    dsimp only
    exact back τ p Z 0 (Or.inl rfl)
  have c1 : ∀ (dr : Nat) (τ : St) (X : List Int), BC T n dr τ → fX4_readOperand cl 4 (o : Int) (clS dr τ p X) = if nx T n p = 40 then (Option.bind (cl 1 [0, ((o + 1 : Nat) : Int)] (clS dr τ (p + 1) X)) fun q4 => if q4.1 = 0 then (some (0, q4.2)) else (Option.bind (fX4_takes 4 41 q4.2) fun q5 => if q5.1 = 0 then (some (0, q5.2)) else (some (1, q5.2)))) else if nx T n p = 33 ∨ nx T n p = 45 then fX4_readOperand_119 cl 4 (o : Int) (nx T n p) (clS dr τ (p + 1) X) else some (0, clS dr τ p X) := by
    intro dr τ X h
    rw [c0 dr τ X h]
    unfold fX4_readOperand_32
    rw [if_pos nm, if_pos (by omega), c_takes hT h (by omega), eo]
    by_cases z1 : nx T n p = 40
    · rw [if_pos z1, if_pos z1, b1]
    rw [if_neg z1, if_neg z1, b0]
    dsimp only
    rw [c_takes hT h (by omega)]
    by_cases z2 : nx T n p = 33
    · rw [if_pos z2, if_pos (Or.inl z2), b1]
    rw [if_neg z2, b0]
    dsimp only
    rw [c_takes hT h (by omega)]
    by_cases z3 : nx T n p = 45
    · rw [if_pos z3, if_pos (Or.inr z3), b1]
    rw [if_neg z3, if_neg (by omega), b0]
  by_cases z40 : nx T n p = 40
  · -- brackets
    have pn : p < n := x3 (by omega)
    obtain ⟨ok1, p1, L1, a1, a2, a3, a4, a5, a6, a7⟩ := SE o5 (p + 1) (by omega)
    have lz : ∀ Z : List Int, (Z ++ L1).length = Z.length + L1.length := fun Z => by rw [List.length_append]
    have mm : ∀ (τ : St) (Z : List Int), BM T n τ → Z.length ≤ p → fX10_isO cl' 49 (moS τ p o Z) = if ok1 = 0 then some (0, moS τ p1 o (Z ++ L1)) else if nx T n p1 = 41 then some (1, moS τ (p1 + 1) o (Z ++ L1)) else some (0, moS τ p1 o (Z ++ L1)) := by
      intro τ Z h hZ
      have q := a6 τ Z h (by omega)
      dsimp only at q
      rw [m1 τ Z h, if_neg (by omega), if_neg (by omega), if_pos z40, q, Option.bind_some]
      unfold fX10_isO_212 fX10_isO_213
      dsimp only
      by_cases y : ok1 = 0
      · rw [if_pos y, if_pos y, back τ p1 _ 0 (Or.inl rfl)]
      · rw [if_neg y, if_neg y, m_is hT h (by omega)]
        by_cases x : nx T n p1 = 41
        · rw [if_pos x, if_pos x, b1]
          exact back τ (p1 + 1) _ 1 (Or.inr rfl)
        · rw [if_neg x, if_neg x, b0]
          exact back τ p1 _ 0 (Or.inl rfl)
    have cc : ∀ (dr : Nat) (τ : St) (X : List Int), BC T n dr τ → X.length ≤ p → fX4_readOperand cl 4 (o : Int) (clS dr τ p X) = if ok1 = 0 then some (0, clS dr τ p1 (X ++ L1.map tc)) else if nx T n p1 = 41 then some (1, clS dr τ (p1 + 1) (X ++ L1.map tc)) else some (0, clS dr τ p1 (X ++ L1.map tc)) := by
      intro dr τ X h hX
      have q := a5 dr τ X h (by omega)
      dsimp only at q
      rw [c1 dr τ X h, if_pos z40, q, Option.bind_some]
      dsimp only
      by_cases y : ok1 = 0
      · rw [if_pos y, if_pos y]
      · rw [if_neg y, if_neg y, c_takes hT h (by omega)]
        by_cases x : nx T n p1 = 41
        · rw [if_pos x, b1]
        · rw [if_neg x, b0]
    by_cases y : ok1 = 0
    · refine ⟨0, p1, L1, Or.inl rfl, by omega, a3, by omega, fun dr τ X h hX => ?_, fun τ Z h hZ => ?_, fun z => absurd z (by decide)⟩
      · dsimp only
        rw [cc dr τ X h hX, if_pos y]
      · dsimp only
        rw [mm τ Z h hZ, if_pos y]
    · have y1 : ok1 = 1 := a1.resolve_left y
      obtain ⟨e1, e2⟩ := a7 y1
      by_cases x : nx T n p1 = 41
      · have pn1 : p1 < n := (nx_in (p := p1) hT).2.2 (by omega)
        refine ⟨1, p1 + 1, L1, Or.inr rfl, by omega, by omega, by omega, fun dr τ X h hX => ?_, fun τ Z h hZ => ?_, fun z => ⟨by omega, fun H h hH => e2 H h (by omega)⟩⟩
        · dsimp only
          rw [cc dr τ X h hX, if_neg y, if_pos x]
        · dsimp only
          rw [mm τ Z h hZ, if_neg y, if_pos x]
      · refine ⟨0, p1, L1, Or.inl rfl, by omega, a3, by omega, fun dr τ X h hX => ?_, fun τ Z h hZ => ?_, fun z => absurd z (by decide)⟩
        · dsimp only
          rw [cc dr τ X h hX, if_neg y, if_neg x]
        · dsimp only
          rw [mm τ Z h hZ, if_neg y, if_neg x]
  by_cases z33 : nx T n p = 33 ∨ nx T n p = 45
  · -- a sign ahead of an operand
    have pn : p < n := x3 (by omega)
    obtain ⟨ok1, p1, L1, a1, a2, a3, a4, a5, a6, a7⟩ := SO o5 (p + 1) (by omega)
    have lx : ∀ X : List Int, (X ++ L1.map tc).length = X.length + L1.length := fun X => by rw [List.length_append, List.length_map]
    have lz : ∀ Z : List Int, (Z ++ L1).length = Z.length + L1.length := fun Z => by rw [List.length_append]
    obtain ⟨g, hg, hgt⟩ : ∃ g : Int, (g = 16 ∨ g = 17) ∧ (if nx T n p = 45 then (-126 : Int) else -33) = tc g ∧ (nx T n p = 33 → g = 16) ∧ (nx T n p = 45 → g = 17) := by
      rcases z33 with z | z
      · exact ⟨16, Or.inl rfl, by rw [z]; decide, fun _ => rfl, fun y => by omega⟩
      · exact ⟨17, Or.inr rfl, by rw [z]; decide, fun y => by omega, fun _ => rfl⟩
    have cc : ∀ (dr : Nat) (τ : St) (X : List Int), BC T n dr τ → X.length ≤ p → fX4_readOperand cl 4 (o : Int) (clS dr τ p X) = if ok1 = 0 then some (0, clS dr τ p1 (X ++ L1.map tc)) else some (1, clS dr τ p1 (X ++ L1.map tc ++ [tc g])) := by
      intro dr τ X h hX
      have q := a5 dr τ X h (by omega)
      dsimp only at q
      rw [c1 dr τ X h, if_neg z40, if_pos z33]
      unfold fX4_readOperand_119 fX4_readOperand_145
      rw [eo, q, Option.bind_some]
      dsimp only
      by_cases y : ok1 = 0
      · rw [if_pos y, if_pos y]
      · rw [if_neg y, if_neg y, ← hgt.1]
        by_cases x : nx T n p = 45
        · rw [if_pos x, if_pos x, c_emit h (by rw [lx]; omega), Option.bind_some]
        · rw [if_neg x, if_neg x, c_emit h (by rw [lx]; omega), Option.bind_some]
    have mm : ∀ (τ : St) (Z : List Int), BM T n τ → Z.length ≤ p → fX10_isO cl' 49 (moS τ p o Z) = if ok1 = 0 then some (0, moS τ p1 o (Z ++ L1)) else some (1, moS τ p1 o (Z ++ L1 ++ [g])) := by
      intro τ Z h hZ
      have q := a6 τ Z h (by omega)
      dsimp only at q
      rw [m1 τ Z h]
      unfold fX10_isO_144 fX10_isO_145 fX10_isO_178 fX10_isO_179
      rcases z33 with z | z
      · rw [if_pos z, q, Option.bind_some, hgt.2.1 z]
        dsimp only
        by_cases y : ok1 = 0
        · rw [if_pos y, if_pos y, back τ p1 _ 0 (Or.inl rfl)]
        · rw [if_neg y, if_neg y, m_codes (by rw [lz]; omega), Option.bind_some, if_neg (show ¬ (1 : Int) = 0 by decide)]
          exact back τ p1 _ 1 (Or.inr rfl)
      · rw [if_neg (by omega), if_pos z, q, Option.bind_some, hgt.2.2 z]
        dsimp only
        by_cases y : ok1 = 0
        · rw [if_pos y, if_pos y, back τ p1 _ 0 (Or.inl rfl)]
        · rw [if_neg y, if_neg y, m_codes (by rw [lz]; omega), Option.bind_some, if_neg (show ¬ (1 : Int) = 0 by decide)]
          exact back τ p1 _ 1 (Or.inr rfl)
    by_cases y : ok1 = 0
    · refine ⟨0, p1, L1, Or.inl rfl, by omega, a3, by omega, fun dr τ X h hX => ?_, fun τ Z h hZ => ?_, fun z => absurd z (by decide)⟩
      · dsimp only
        rw [cc dr τ X h hX, if_pos y]
      · dsimp only
        rw [mm τ Z h hZ, if_pos y]
    · have y1 : ok1 = 1 := a1.resolve_left y
      obtain ⟨e1, e2⟩ := a7 y1
      have hl : (L1 ++ [g]).length = L1.length + 1 := by
        rw [List.length_append]
        rfl
      refine ⟨1, p1, L1 ++ [g], Or.inr rfl, by omega, a3, by rw [hl]; omega, fun dr τ X h hX => ?_, fun τ Z h hZ => ?_, fun z => ⟨by omega, fun H h hH => ?_⟩⟩
      · dsimp only
        rw [cc dr τ X h hX, if_neg y, List.map_append, List.append_assoc]
        rfl
      · dsimp only
        rw [mm τ Z h hZ, if_neg y, List.append_assoc]
      · rw [run_app H L1 [g] h (h + 1) (e2 H h (by omega))]
        exact run_un hg
  · refine ⟨0, p, [], Or.inl rfl, Nat.le_refl _, hp, Nat.le_refl _, fun dr τ X h hX => ?_, fun τ Z h hZ => ?_, fun z => absurd z (by decide)⟩
    · dsimp only
      rw [c1 dr τ X h, if_neg z40, if_neg z33, List.map_nil, List.append_nil]
    · dsimp only
      rw [m1 τ Z h, if_neg (by omega), if_neg (by omega), if_neg z40, List.append_nil]
noncomputable abbrev cR (d r o : Nat) (σ : St) : Option (Int × St) := gX4_readOperand 4 d 1 [(r : Int), (o : Int)] σ
noncomputable abbrev cO (d o : Nat) (σ : St) : Option (Int × St) := gX4_readOperand 4 d 0 [(o : Int)] σ
noncomputable abbrev mK (d w : Nat) (σ : St) : Option (Int × St) := gX10_isA 49 d w [] σ
theorem g4_rank (d : Nat) (a b : Int) (σ : St) : gX4_readOperand 4 (d + 1) 1 [a, b] σ = fX4_readRank (gX4_readOperand 4 d) 4 a b σ := by
  rw [gX4_readOperand_s]
  rfl
theorem g4_oper (d : Nat) (a : Int) (σ : St) : gX4_readOperand 4 (d + 1) 0 [a] σ = fX4_readOperand (gX4_readOperand 4 d) 4 a σ := by
  rw [gX4_readOperand_s]
  rfl
theorem g10_0 (d : Nat) (σ : St) : gX10_isA 49 (d + 1) 0 [] σ = fX10_isA (gX10_isA 49 d) 49 σ := by
  rw [gX10_isA_s]
  rfl
theorem g10_1 (d : Nat) (σ : St) : gX10_isA 49 (d + 1) 1 [] σ = fX10_isB (gX10_isA 49 d) 49 σ := by
  rw [gX10_isA_s]
  rfl
theorem g10_2 (d : Nat) (σ : St) : gX10_isA 49 (d + 1) 2 [] σ = fX10_isE (gX10_isA 49 d) 49 σ := by
  rw [gX10_isA_s]
  rfl
theorem g10_3 (d : Nat) (σ : St) : gX10_isA 49 (d + 1) 3 [] σ = fX10_isO (gX10_isA 49 d) 49 σ := by
  rw [gX10_isA_s]
  rfl
theorem g10_4 (d : Nat) (σ : St) : gX10_isA 49 (d + 1) 4 [] σ = fX10_isP (gX10_isA 49 d) 49 σ := by
  rw [gX10_isA_s]
  rfl
theorem g10_5 (d : Nat) (σ : St) : gX10_isA 49 (d + 1) 5 [] σ = fX10_isS (gX10_isA 49 d) 49 σ := by
  rw [gX10_isA_s]
  rfl
theorem ia_n {r : Nat} (h : r < 1000) : i_add (r : Int) 1 = ((r + 1 : Nat) : Int) := by
  rw [ia (ok_in (by omega) (by omega))]
  omega
/-- from an operand to an expression -/
theorem upS {T : Nat → Int} {n o Hb d d' : Nat} (hT : Tok T n) (S : Sm T n o Hb (cO d o) (mK d' 3)) : Sm T n o (Hb + 5) (cR (d + 6) 0 o) (mK (d' + 5) 2) := by
  have S5 : Sm T n o Hb (cR (d + 1) 5 o) (mK d' 3) := by
    intro p hp
    obtain ⟨ok1, p1, L1, a1, a2, a3, a4, a5, a6, a7⟩ := S p hp
    refine ⟨ok1, p1, L1, a1, a2, a3, a4, fun dr τ X h hX => ?_, a6, a7⟩
    show gX4_readOperand 4 (d + 1) 1 [((5 : Nat) : Int), (o : Int)] (clS dr τ p X) = _
    rw [g4_rank]
    unfold fX4_readRank
    have q := a5 dr τ X h hX
    have q' : gX4_readOperand 4 d 0 [(o : Int)] (clS dr τ p X) = _ := q
    rw [if_neg (by decide), q', Option.bind_some, if_pos a1]
  have S4 : Sm T n o (Hb + 1) (cR (d + 2) 4 o) (mK (d' + 1) 4) := by
    refine (rankS (r := 4) (cl := gX4_readOperand 4 (d + 1)) (G := mK d' 3) (ML := fX10_isP_9 (gX10_isA 49 d') 49) hT (by decide) (by decide) (S5.congr (fun σ => by rw [ia_n (by decide)]) (fun _ => rfl)) (mlP hT)).congr (fun σ => g4_rank _ _ _ _) (fun σ => ?_)
    show gX10_isA 49 (d' + 1) 4 [] σ = _
    rw [g10_4]
    rfl
  have S3 : Sm T n o (Hb + 2) (cR (d + 3) 3 o) (mK (d' + 2) 5) := by
    refine (rankS (r := 3) (cl := gX4_readOperand 4 (d + 2)) (G := mK (d' + 1) 4) (ML := fX10_isS_9 (gX10_isA 49 (d' + 1)) 49) hT (by decide) (by decide) (S4.congr (fun σ => by rw [ia_n (by decide)]) (fun _ => rfl)) (mlS hT)).congr (fun σ => g4_rank _ _ _ _) (fun σ => ?_)
    show gX10_isA 49 (d' + 2) 5 [] σ = _
    rw [g10_5]
    rfl
  have S2 : Sm T n o (Hb + 3) (cR (d + 4) 2 o) (mK (d' + 3) 1) := by
    refine (rankB (cl := gX4_readOperand 4 (d + 3)) (cl' := gX10_isA 49 (d' + 2)) hT (S3.congr (fun σ => by rw [ia_n (by decide)]) (fun _ => rfl))).congr (fun σ => g4_rank _ _ _ _) (fun σ => g10_1 _ _)
  have S1 : Sm T n o (Hb + 4) (cR (d + 5) 1 o) (mK (d' + 4) 0) := by
    refine (rankS (r := 1) (cl := gX4_readOperand 4 (d + 4)) (G := mK (d' + 3) 1) (ML := fX10_isA_9 (gX10_isA 49 (d' + 3)) 49) hT (by decide) (by decide) (S2.congr (fun σ => by rw [ia_n (by decide)]) (fun _ => rfl)) (mlA hT)).congr (fun σ => g4_rank _ _ _ _) (fun σ => ?_)
    show gX10_isA 49 (d' + 4) 0 [] σ = _
    rw [g10_0]
    rfl
  refine (rankS (r := 0) (cl := gX4_readOperand 4 (d + 5)) (G := mK (d' + 4) 0) (ML := fX10_isE_9 (gX10_isA 49 (d' + 4)) 49) hT (by decide) (by decide) (S1.congr (fun σ => by rw [ia_n (by decide)]) (fun _ => rfl)) (mlE hT)).congr (fun σ => g4_rank _ _ _ _) (fun σ => ?_)
  show gX10_isA 49 (d' + 5) 2 [] σ = _
  rw [g10_2]
  rfl
theorem opS {T : Nat → Int} {n : Nat} (hT : Tok T n) : ∀ (k o d d' : Nat), o + k = 6 → 1 + 7 * k ≤ d → 1 + 7 * k ≤ d' → Sm T n o (1 + 5 * k) (cO d o) (mK d' 3)
  | 0, o, d, d', ho, hd, hd' => by
    obtain ⟨e, rfl⟩ : ∃ e, d = e + 1 := ⟨d - 1, by omega⟩
    obtain ⟨e', rfl⟩ : ∃ e', d' = e' + 1 := ⟨d' - 1, by omega⟩
    exact (operS (HE := 0) (HO := 0) (HB := 1) (cl := gX4_readOperand 4 e) (cl' := gX10_isA 49 e') hT (by omega) (fun z => by omega) (fun z => by omega) (Nat.le_refl _) (fun z => by omega)).congr (fun σ => g4_oper _ _ _) (fun σ => g10_3 _ _)
  | k + 1, o, d, d', ho, hd, hd' => by
    obtain ⟨e, rfl⟩ : ∃ e, d = e + 7 := ⟨d - 7, by omega⟩
    obtain ⟨e', rfl⟩ : ∃ e', d' = e' + 6 := ⟨d' - 6, by omega⟩
    have SO := opS hT k (o + 1) (e + 6) (e' + 5) (by omega) (by omega) (by omega)
    have S0 := opS hT k (o + 1) e e' (by omega) (by omega) (by omega)
    have SE := upS hT S0
    refine (operS (HE := 1 + 5 * k + 5) (HO := 1 + 5 * k) (HB := 1 + 5 * (k + 1)) (cl := gX4_readOperand 4 (e + 6)) (cl' := gX10_isA 49 (e' + 5)) hT (by omega) (fun _ => SE) (fun _ => SO) (by omega) (fun _ => ⟨by omega, by omega⟩)).congr (fun σ => g4_oper _ _ _) (fun σ => g10_3 _ _)
/-- an expression, as a line asks for it -/
theorem exprS {T : Nat → Int} {n : Nat} (hT : Tok T n) : Sm T n 0 36 (fun σ => hX4_readRank 4 0 0 σ) (fun σ => hX10_isE 49 σ) := by
  obtain ⟨d, hd, hl⟩ := dep_ex
  obtain ⟨e, he⟩ : ∃ e, d + 1 = e + 6 := ⟨d + 1 - 6, by omega⟩
  obtain ⟨e', he'⟩ : ∃ e', d + 1 = e' + 5 := ⟨d + 1 - 5, by omega⟩
  have S := upS hT (opS hT 6 0 e e' (by omega) (by omega) (by omega))
  refine S.congr (fun σ => ?_) (fun σ => ?_)
  · unfold hX4_readRank
    rw [hd, he]
    rfl
  · unfold hX10_isE
    rw [hd, he']
