/-! Acts, class and model: what each comes to, which bodies ran. -/
theorem SC.p1 {b r : Nat} {K x : Int} {τ : St} (h : SC b K r τ) (hr : r < 24) : SC b K (r + 1) (pC [x] τ) := h.push (by omega)
theorem SM.p1 {b r : Nat} {K x : Int} {τ : St} (h : SM b K r τ) (hr : r < 24) : SM b K (r + 1) (pM [x] τ) := h.push (by omega)
theorem bV_1 {b k x : Int} (h : k = 1 ∨ k = 4 ∨ k = 7) : bV b k x = (i_add (i_add x b) 3, [20, 1]) := if_pos h
theorem bV_6 {b x : Int} : bV b 6 x = (i_mul (i_add x b) 2, [70, 1]) := by
  unfold bV
  rw [if_neg (by decide), if_pos rfl]
theorem bV_0 {b k x : Int} (h : k = 0 ∨ k = 2 ∨ k = 3 ∨ k = 5) : bV b k x = (i_add x b, [1]) := by
  unfold bV
  rw [if_neg (by omega), if_neg (by omega)]
theorem lV_3 {b K k x : Int} (h : k = 3 ∨ k = 5) : lV b K k x = (i_mul (i_xor x b) 3, [40, 11]) := if_pos h
theorem lV_4 {b K k x : Int} (h : k = 4 ∨ k = 7) : lV b K k x = (i_sub (i_xor x b) (bV b K 2).1, [50, 11] ++ (bV b K 2).2) := by
  unfold lV
  rw [if_neg (by omega), if_pos h]
theorem lV_0 {b K k x : Int} (h : k = 0 ∨ k = 1 ∨ k = 2 ∨ k = 6) : lV b K k x = (i_xor x b, [11]) := by
  unfold lV
  rw [if_neg (by omega), if_neg (by omega)]
theorem mV_2 {b K x : Int} : mV b K 2 x = (i_neg (m0V b K x).1, [30] ++ (m0V b K x).2) := if_pos rfl
theorem mV_3 {b K k x : Int} (h : k = 3 ∨ k = 5) : mV b K k x = (i_neg (m0V b K (i_add x 1)).1, [41, 30] ++ (m0V b K (i_add x 1)).2) := by
  unfold mV
  rw [if_neg (by omega), if_pos h]
theorem mV_7 {b K x : Int} : mV b K 7 x = (i_add (m0V b K x).1 (lV b K K 2).1, [80] ++ (m0V b K x).2 ++ (lV b K K 2).2) := by
  unfold mV
  rw [if_neg (by decide), if_neg (by decide), if_pos rfl]
theorem mV_0 {b K k x : Int} (h : k = 0 ∨ k = 1 ∨ k = 4 ∨ k = 6) : mV b K k x = m0V b K x := by
  unfold mV
  rw [if_neg (by omega), if_neg (by omega), if_neg (by omega)]
theorem tV_5 {b K x : Int} : tV b K 5 x = (i_xor (t0V b K x).1 5, [60] ++ (t0V b K x).2) := if_pos rfl
theorem tV_7 {b K x : Int} : tV b K 7 x = (i_sub (t0V b K x).1 1, [81] ++ (t0V b K x).2) := by
  unfold tV
  rw [if_neg (by decide), if_pos rfl]
theorem tV_0 {b K k x : Int} (h : k = 0 ∨ k = 1 ∨ k = 2 ∨ k = 3 ∨ k = 4 ∨ k = 6) : tV b K k x = t0V b K x := by
  unfold tV
  rw [if_neg (by omega), if_neg (by omega)]
theorem cB {b r lev d : Nat} {K k x : Int} {τ : St} (hd : 4 ≤ d) (hl : lev ≤ 30) (hS : SC b K r τ) (hr : r + 2 ≤ 24) (hk : 0 ≤ k ∧ k ≤ 7) : gX5_own 32 d 2 [k, 0, x, (lev : Int)] τ = some ((bV b k x).1, pC (bV b k x).2 τ) := by
  obtain ⟨e, rfl⟩ : ∃ e, d = e + 4 := ⟨d - 4, by omega⟩
  have hk' : k = 0 ∨ k = 1 ∨ k = 2 ∨ k = 3 ∨ k = 4 ∨ k = 5 ∨ k = 6 ∨ k = 7 := by omega
  rcases hk' with rfl | rfl | rfl | rfl | rfl | rfl | rfl | rfl
  · rw [rb_0_0 (by omega), bd_1 hS (by omega), bV_0 (by omega)]
  · rw [rb_1_0 (by omega), bd_20 hS (by omega), rb_0_0 (by omega), bd_1 (hS.p1 (by omega)) (by omega), Option.bind_some, bV_1 (by omega)]
    rfl
  · rw [rb_2_0 (by omega), bd_1 hS (by omega), bV_0 (by omega)]
  · rw [rb_3_0 (by omega), bd_1 hS (by omega), bV_0 (by omega)]
  · rw [rb_4_0 (by omega), bd_20 hS (by omega), rb_0_0 (by omega), bd_1 (hS.p1 (by omega)) (by omega), Option.bind_some, bV_1 (by omega)]
    rfl
  · rw [rb_5_0 (by omega), bd_1 hS (by omega), bV_0 (by omega)]
  · rw [rb_6_0 (by omega), bd_70 hS (by omega), rb_0_0 (by omega), bd_1 (hS.p1 (by omega)) (by omega), Option.bind_some, bV_6]
    rfl
  · rw [rb_7_0 (by omega), bd_20 hS (by omega), rb_0_0 (by omega), bd_1 (hS.p1 (by omega)) (by omega), Option.bind_some, bV_1 (by omega)]
    rfl
theorem cL {b r lev d : Nat} {K k x : Int} {τ : St} (hd : 7 ≤ d) (hl : lev ≤ 28) (hS : SC b K r τ) (hb : b < 50) (hK : 0 ≤ K ∧ K ≤ 7) (hr : r + 4 ≤ 24) (hk : 0 ≤ k ∧ k ≤ 7) : gX5_own 32 d 2 [k, 2, x, (lev : Int)] τ = some ((lV b K k x).1, pC (lV b K k x).2 τ) := by
  obtain ⟨e, rfl⟩ : ∃ e, d = e + 7 := ⟨d - 7, by omega⟩
  have hk' : k = 0 ∨ k = 1 ∨ k = 2 ∨ k = 3 ∨ k = 4 ∨ k = 5 ∨ k = 6 ∨ k = 7 := by omega
  rcases hk' with rfl | rfl | rfl | rfl | rfl | rfl | rfl | rfl
  · rw [rb_0_2 (by omega), bd_11 hS (by omega), lV_0 (by omega)]
  · rw [rb_1_2 (by omega), bd_11 hS (by omega), lV_0 (by omega)]
  · rw [rb_2_2 (by omega), bd_11 hS (by omega), lV_0 (by omega)]
  · rw [rb_3_2 (by omega), bd_40 hS (by omega), rb_2_2 (by omega), bd_11 (hS.p1 (by omega)) (by omega), Option.bind_some, lV_3 (by omega)]
    rfl
  · rw [rb_4_2 (by omega), bd_50 hS (by omega), rb_1_2 (by omega), bd_11 (hS.p1 (by omega)) (by omega), Option.bind_some, lV_4 (by omega)]
    dsimp only
    rw [own_q ((hS.p1 (x := 50) (by omega)).p1 (x := 11) (by omega)) hb, cB (by omega) (by omega) ((hS.p1 (x := 50) (by omega)).p1 (x := 11) (by omega)) (by omega) hK, Option.bind_some]
    dsimp only
    rw [show pC [11] (pC [50] τ) = pC [50, 11] τ from rfl, pC_app]
  · rw [rb_5_2 (by omega), bd_40 hS (by omega), rb_2_2 (by omega), bd_11 (hS.p1 (by omega)) (by omega), Option.bind_some, lV_3 (by omega)]
    rfl
  · rw [rb_6_2 (by omega), bd_11 hS (by omega), lV_0 (by omega)]
  · rw [rb_7_2 (by omega), bd_50 hS (by omega), rb_1_2 (by omega), bd_11 (hS.p1 (by omega)) (by omega), Option.bind_some, lV_4 (by omega)]
    dsimp only
    rw [own_q ((hS.p1 (x := 50) (by omega)).p1 (x := 11) (by omega)) hb, cB (by omega) (by omega) ((hS.p1 (x := 50) (by omega)).p1 (x := 11) (by omega)) (by omega) hK, Option.bind_some]
    dsimp only
    rw [show pC [11] (pC [50] τ) = pC [50, 11] τ from rfl, pC_app]
theorem cM0 {b r lev d : Nat} {K k x : Int} {τ : St} (hd : 7 ≤ d) (hl : lev ≤ 26) (hS : SC b K r τ) (hb : b < 50) (hK : 0 ≤ K ∧ K ≤ 7) (hr : r + 3 ≤ 24) (hk : k = 0 ∨ k = 1 ∨ k = 4 ∨ k = 6) : gX5_own 32 d 2 [k, 1, x, (lev : Int)] τ = some ((m0V b K x).1, pC (m0V b K x).2 τ) := by
  obtain ⟨e, rfl⟩ : ∃ e, d = e + 7 := ⟨d - 7, by omega⟩
  have z : fX5_runBody (gX5_own 32 (e + 5)) 32 10 (-1) x ((lev + 1 : Nat) : Int) τ = some ((m0V b K x).1, pC (m0V b K x).2 τ) := by
    rw [bd_10 hS (by omega), own_q (hS.p1 (by omega)) hb, cB (by omega) (by omega) (hS.p1 (by omega)) (by omega) hK, Option.bind_some]
    dsimp only
    rw [app1]
    rfl
  rcases hk with rfl | rfl | rfl | rfl
  · rw [rb_0_1 (by omega), z]
  · rw [rb_1_1 (by omega), z]
  · rw [rb_4_1 (by omega), z]
  · rw [rb_6_1 (by omega), z]
theorem cM2 {b r lev d : Nat} {K x : Int} {τ : St} (hd : 9 ≤ d) (hl : lev ≤ 25) (hS : SC b K r τ) (hb : b < 50) (hK : 0 ≤ K ∧ K ≤ 7) (hr : r + 4 ≤ 24) : gX5_own 32 d 2 [2, 1, x, (lev : Int)] τ = some (i_neg (m0V b K x).1, pC ([30] ++ (m0V b K x).2) τ) := by
  obtain ⟨e, rfl⟩ : ∃ e, d = e + 9 := ⟨d - 9, by omega⟩
  rw [rb_2_1 (by omega), bd_30 hS (by omega), cM0 (by omega) (by omega) (hS.p1 (by omega)) hb hK (by omega) (Or.inl rfl), Option.bind_some]
  dsimp only
  rw [app1]
theorem cM {b r lev d : Nat} {K k x : Int} {τ : St} (hd : 11 ≤ d) (hl : lev ≤ 24) (hS : SC b K r τ) (hb : b < 50) (hK : 0 ≤ K ∧ K ≤ 7) (hr : r + 8 ≤ 24) (hk : 0 ≤ k ∧ k ≤ 7) : gX5_own 32 d 2 [k, 1, x, (lev : Int)] τ = some ((mV b K k x).1, pC (mV b K k x).2 τ) := by
  have z3 : ∀ e : Nat, 9 ≤ e → fX5_runBody (gX5_own 32 e) 32 41 2 x ((lev + 1 : Nat) : Int) τ = some (i_neg (m0V b K (i_add x 1)).1, pC ([41, 30] ++ (m0V b K (i_add x 1)).2) τ) := by
    intro e he
    rw [bd_41 hS (by omega), cM2 he (by omega) (hS.p1 (by omega)) hb hK (by omega), Option.bind_some]
    dsimp only
    rw [app1]
    rfl
  have hk' : k = 0 ∨ k = 1 ∨ k = 2 ∨ k = 3 ∨ k = 4 ∨ k = 5 ∨ k = 6 ∨ k = 7 := by omega
  rcases hk' with rfl | rfl | rfl | rfl | rfl | rfl | rfl | rfl
  · rw [mV_0 (by omega)]
    exact cM0 (by omega) (by omega) hS hb hK (by omega) (by omega)
  · rw [mV_0 (by omega)]
    exact cM0 (by omega) (by omega) hS hb hK (by omega) (by omega)
  · rw [mV_2]
    exact cM2 (by omega) (by omega) hS hb hK (by omega)
  · obtain ⟨e, rfl⟩ : ∃ e, d = e + 11 := ⟨d - 11, by omega⟩
    rw [mV_3 (by omega), rb_3_1 (by omega), z3 _ (by omega)]
  · rw [mV_0 (by omega)]
    exact cM0 (by omega) (by omega) hS hb hK (by omega) (by omega)
  · obtain ⟨e, rfl⟩ : ∃ e, d = e + 11 := ⟨d - 11, by omega⟩
    rw [mV_3 (by omega), rb_5_1 (by omega), z3 _ (by omega)]
  · rw [mV_0 (by omega)]
    exact cM0 (by omega) (by omega) hS hb hK (by omega) (by omega)
  · obtain ⟨e, rfl⟩ : ∃ e, d = e + 11 := ⟨d - 11, by omega⟩
    have l0 := m0V_l b K x
    have s2 := (hS.p1 (x := 80) (by omega)).app (m0V b K x).2 _ _ (by omega)
    rw [mV_7, rb_7_1 (by omega), bd_80 hS (by omega), cM0 (by omega) (by omega) (hS.p1 (by omega)) hb hK (by omega) (by omega), Option.bind_some]
    dsimp only
    rw [own_q s2 hb, cL (by omega) (by omega) s2 hb hK (by omega) hK, Option.bind_some]
    dsimp only
    rw [app2]
theorem cT0 {b r lev d : Nat} {K k x : Int} {τ : St} (hd : 14 ≤ d) (hl : lev ≤ 22) (hS : SC b K r τ) (hb : b < 50) (hK : 0 ≤ K ∧ K ≤ 7) (hr : r + 13 ≤ 24) (hk : k = 0 ∨ k = 1 ∨ k = 2 ∨ k = 3 ∨ k = 4 ∨ k = 6) : gX5_own 32 d 2 [k, 3, x, (lev : Int)] τ = some ((t0V b K x).1, pC (t0V b K x).2 τ) := by
  obtain ⟨e, rfl⟩ : ∃ e, d = e + 14 := ⟨d - 14, by omega⟩
  have l0 := mV_l b K K x
  have s2 := (hS.p1 (x := 2) (by omega)).app (mV b K K x).2 _ _ (by omega)
  have z : fX5_runBody (gX5_own 32 (e + 12)) 32 2 (-1) x ((lev + 1 : Nat) : Int) τ = some ((t0V b K x).1, pC (t0V b K x).2 τ) := by
    rw [bd_2 hS (by omega), own_q (hS.p1 (by omega)) hb, cM (by omega) (by omega) (hS.p1 (by omega)) hb hK (by omega) hK, Option.bind_some]
    dsimp only
    rw [own_q s2 hb, cL (by omega) (by omega) s2 hb hK (by omega) hK, Option.bind_some]
    dsimp only
    rw [app2]
    rfl
  rcases hk with rfl | rfl | rfl | rfl | rfl | rfl
  · rw [rb_0_3 (by omega), z]
  · rw [rb_1_3 (by omega), z]
  · rw [rb_2_3 (by omega), z]
  · rw [rb_3_3 (by omega), z]
  · rw [rb_4_3 (by omega), z]
  · rw [rb_6_3 (by omega), z]
theorem cT {b r lev d : Nat} {K k x : Int} {τ : St} (hd : 16 ≤ d) (hl : lev ≤ 20) (hS : SC b K r τ) (hb : b < 50) (hK : 0 ≤ K ∧ K ≤ 7) (hr : r + 14 ≤ 24) (hk : 0 ≤ k ∧ k ≤ 7) : gX5_own 32 d 2 [k, 3, x, (lev : Int)] τ = some ((tV b K k x).1, pC (tV b K k x).2 τ) := by
  have hk' : k = 0 ∨ k = 1 ∨ k = 2 ∨ k = 3 ∨ k = 4 ∨ k = 5 ∨ k = 6 ∨ k = 7 := by omega
  rcases hk' with rfl | rfl | rfl | rfl | rfl | rfl | rfl | rfl
  · rw [tV_0 (by omega)]
    exact cT0 (by omega) (by omega) hS hb hK (by omega) (by omega)
  · rw [tV_0 (by omega)]
    exact cT0 (by omega) (by omega) hS hb hK (by omega) (by omega)
  · rw [tV_0 (by omega)]
    exact cT0 (by omega) (by omega) hS hb hK (by omega) (by omega)
  · rw [tV_0 (by omega)]
    exact cT0 (by omega) (by omega) hS hb hK (by omega) (by omega)
  · rw [tV_0 (by omega)]
    exact cT0 (by omega) (by omega) hS hb hK (by omega) (by omega)
  · obtain ⟨e, rfl⟩ : ∃ e, d = e + 16 := ⟨d - 16, by omega⟩
    rw [tV_5, rb_5_3 (by omega), bd_60 hS (by omega), cT0 (by omega) (by omega) (hS.p1 (by omega)) hb hK (by omega) (by omega), Option.bind_some]
    dsimp only
    rw [app1]
  · rw [tV_0 (by omega)]
    exact cT0 (by omega) (by omega) hS hb hK (by omega) (by omega)
  · obtain ⟨e, rfl⟩ : ∃ e, d = e + 16 := ⟨d - 16, by omega⟩
    rw [tV_7, rb_7_3 (by omega), bd_81 hS (by omega), cT0 (by omega) (by omega) (hS.p1 (by omega)) hb hK (by omega) (by omega), Option.bind_some]
    dsimp only
    rw [app1]
theorem ran10 {b r : Nat} {K B : Int} {σ : St} (hS : SM b K r σ) (hr : r < 24) : fX10_ran 49 B σ = some (pM [B] σ) := by
  have e : (up σ 71 (σ 49 36).toNat B) 49 36 = σ 49 36 := by rw [up_ne (by decide)]
  unfold fX10_ran fX10_ran_19
  simp only [rfS, lnS]
  rw [if_neg (by rw [hS.2]; omega), if_pos (by rw [hS.2]; exact ⟨by omega, by omega⟩), e]
  rfl
theorem above10 (k : Int) (σ : St) : fX10_above k σ = some (if k = 3 then 2 else if k = 4 then 1 else if k = 5 then 3 else if k = 7 then 4 else 0, σ) := by
  unfold fX10_above
  repeat' split
  all_goals first | rfl | omega
theorem g_bidsBy (d : Nat) (b k x : Int) (σ : St) : gX10_bidsBy 49 (d + 1) 0 [b, k, x] σ = fX10_bidsBy (gX10_bidsBy 49 d) 49 b k x σ := by
  rw [gX10_bidsBy_s]
  rfl
theorem g_losesBy (d : Nat) (b k x : Int) (σ : St) : gX10_losesBy 49 (d + 1) 0 [b, k, x] σ = fX10_losesBy (gX10_losesBy 49 d) 49 b k x σ := by
  rw [gX10_losesBy_s]
  rfl
theorem g_missesBy (d : Nat) (b k x : Int) (σ : St) : gX10_missesBy 49 (d + 1) 0 [b, k, x] σ = fX10_missesBy (gX10_missesBy 49 d) 49 b k x σ := by
  rw [gX10_missesBy_s]
  rfl
theorem g_tells (d : Nat) (b k x : Int) (σ : St) : gX10_tells 49 (d + 1) 0 [b, k, x] σ = fX10_tells (gX10_tells 49 d) 49 b k x σ := by
  rw [gX10_tells_s]
  rfl
theorem u_bidsBy_2 (d : Nat) (b x : Int) (σ : St) : gX10_bidsBy 49 (d + 1) 0 [b, 2, x] σ = gX10_bidsBy 49 d 0 [b, 0, x] σ := by
  rw [g_bidsBy]
  unfold fX10_bidsBy
  rw [if_neg (by decide), if_neg (by decide), if_neg (by decide), above10, Option.bind_some, if_neg (by decide), if_neg (by decide), if_neg (by decide), if_neg (by decide), bind_eta]
theorem u_bidsBy_3 (d : Nat) (b x : Int) (σ : St) : gX10_bidsBy 49 (d + 1) 0 [b, 3, x] σ = gX10_bidsBy 49 d 0 [b, 2, x] σ := by
  rw [g_bidsBy]
  unfold fX10_bidsBy
  rw [if_neg (by decide), if_neg (by decide), if_neg (by decide), above10, Option.bind_some, if_pos rfl, bind_eta]
theorem u_bidsBy_4 (d : Nat) (b x : Int) (σ : St) : gX10_bidsBy 49 (d + 1) 0 [b, 4, x] σ = gX10_bidsBy 49 d 0 [b, 1, x] σ := by
  rw [g_bidsBy]
  unfold fX10_bidsBy
  rw [if_neg (by decide), if_neg (by decide), if_neg (by decide), above10, Option.bind_some, if_neg (by decide), if_pos rfl, bind_eta]
theorem u_bidsBy_5 (d : Nat) (b x : Int) (σ : St) : gX10_bidsBy 49 (d + 1) 0 [b, 5, x] σ = gX10_bidsBy 49 d 0 [b, 3, x] σ := by
  rw [g_bidsBy]
  unfold fX10_bidsBy
  rw [if_neg (by decide), if_neg (by decide), if_neg (by decide), above10, Option.bind_some, if_neg (by decide), if_neg (by decide), if_pos rfl, bind_eta]
theorem u_bidsBy_7 (d : Nat) (b x : Int) (σ : St) : gX10_bidsBy 49 (d + 1) 0 [b, 7, x] σ = gX10_bidsBy 49 d 0 [b, 4, x] σ := by
  rw [g_bidsBy]
  unfold fX10_bidsBy
  rw [if_neg (by decide), if_neg (by decide), if_neg (by decide), above10, Option.bind_some, if_neg (by decide), if_neg (by decide), if_neg (by decide), if_pos rfl, bind_eta]
theorem u_losesBy_1 (d : Nat) (b x : Int) (σ : St) : gX10_losesBy 49 (d + 1) 0 [b, 1, x] σ = gX10_losesBy 49 d 0 [b, 0, x] σ := by
  rw [g_losesBy]
  unfold fX10_losesBy
  rw [if_neg (by decide), if_neg (by decide), if_neg (by decide), above10, Option.bind_some, if_neg (by decide), if_neg (by decide), if_neg (by decide), if_neg (by decide), bind_eta]
theorem u_losesBy_2 (d : Nat) (b x : Int) (σ : St) : gX10_losesBy 49 (d + 1) 0 [b, 2, x] σ = gX10_losesBy 49 d 0 [b, 0, x] σ := by
  rw [g_losesBy]
  unfold fX10_losesBy
  rw [if_neg (by decide), if_neg (by decide), if_neg (by decide), above10, Option.bind_some, if_neg (by decide), if_neg (by decide), if_neg (by decide), if_neg (by decide), bind_eta]
theorem u_losesBy_5 (d : Nat) (b x : Int) (σ : St) : gX10_losesBy 49 (d + 1) 0 [b, 5, x] σ = gX10_losesBy 49 d 0 [b, 3, x] σ := by
  rw [g_losesBy]
  unfold fX10_losesBy
  rw [if_neg (by decide), if_neg (by decide), if_neg (by decide), above10, Option.bind_some, if_neg (by decide), if_neg (by decide), if_pos rfl, bind_eta]
theorem u_losesBy_6 (d : Nat) (b x : Int) (σ : St) : gX10_losesBy 49 (d + 1) 0 [b, 6, x] σ = gX10_losesBy 49 d 0 [b, 0, x] σ := by
  rw [g_losesBy]
  unfold fX10_losesBy
  rw [if_neg (by decide), if_neg (by decide), if_neg (by decide), above10, Option.bind_some, if_neg (by decide), if_neg (by decide), if_neg (by decide), if_neg (by decide), bind_eta]
theorem u_losesBy_7 (d : Nat) (b x : Int) (σ : St) : gX10_losesBy 49 (d + 1) 0 [b, 7, x] σ = gX10_losesBy 49 d 0 [b, 4, x] σ := by
  rw [g_losesBy]
  unfold fX10_losesBy
  rw [if_neg (by decide), if_neg (by decide), if_neg (by decide), above10, Option.bind_some, if_neg (by decide), if_neg (by decide), if_neg (by decide), if_pos rfl, bind_eta]
theorem u_missesBy_1 (d : Nat) (b x : Int) (σ : St) : gX10_missesBy 49 (d + 1) 0 [b, 1, x] σ = gX10_missesBy 49 d 0 [b, 0, x] σ := by
  rw [g_missesBy]
  unfold fX10_missesBy
  rw [if_neg (by decide), if_neg (by decide), if_neg (by decide), if_neg (by decide), above10, Option.bind_some, if_neg (by decide), if_neg (by decide), if_neg (by decide), if_neg (by decide), bind_eta]
theorem u_missesBy_4 (d : Nat) (b x : Int) (σ : St) : gX10_missesBy 49 (d + 1) 0 [b, 4, x] σ = gX10_missesBy 49 d 0 [b, 1, x] σ := by
  rw [g_missesBy]
  unfold fX10_missesBy
  rw [if_neg (by decide), if_neg (by decide), if_neg (by decide), if_neg (by decide), above10, Option.bind_some, if_neg (by decide), if_pos rfl, bind_eta]
theorem u_missesBy_5 (d : Nat) (b x : Int) (σ : St) : gX10_missesBy 49 (d + 1) 0 [b, 5, x] σ = gX10_missesBy 49 d 0 [b, 3, x] σ := by
  rw [g_missesBy]
  unfold fX10_missesBy
  rw [if_neg (by decide), if_neg (by decide), if_neg (by decide), if_neg (by decide), above10, Option.bind_some, if_neg (by decide), if_neg (by decide), if_pos rfl, bind_eta]
theorem u_missesBy_6 (d : Nat) (b x : Int) (σ : St) : gX10_missesBy 49 (d + 1) 0 [b, 6, x] σ = gX10_missesBy 49 d 0 [b, 0, x] σ := by
  rw [g_missesBy]
  unfold fX10_missesBy
  rw [if_neg (by decide), if_neg (by decide), if_neg (by decide), if_neg (by decide), above10, Option.bind_some, if_neg (by decide), if_neg (by decide), if_neg (by decide), if_neg (by decide), bind_eta]
theorem u_tells_1 (d : Nat) (b x : Int) (σ : St) : gX10_tells 49 (d + 1) 0 [b, 1, x] σ = gX10_tells 49 d 0 [b, 0, x] σ := by
  rw [g_tells]
  unfold fX10_tells
  rw [if_neg (by decide), if_neg (by decide), if_neg (by decide), above10, Option.bind_some, if_neg (by decide), if_neg (by decide), if_neg (by decide), if_neg (by decide), bind_eta]
theorem u_tells_2 (d : Nat) (b x : Int) (σ : St) : gX10_tells 49 (d + 1) 0 [b, 2, x] σ = gX10_tells 49 d 0 [b, 0, x] σ := by
  rw [g_tells]
  unfold fX10_tells
  rw [if_neg (by decide), if_neg (by decide), if_neg (by decide), above10, Option.bind_some, if_neg (by decide), if_neg (by decide), if_neg (by decide), if_neg (by decide), bind_eta]
theorem u_tells_3 (d : Nat) (b x : Int) (σ : St) : gX10_tells 49 (d + 1) 0 [b, 3, x] σ = gX10_tells 49 d 0 [b, 2, x] σ := by
  rw [g_tells]
  unfold fX10_tells
  rw [if_neg (by decide), if_neg (by decide), if_neg (by decide), above10, Option.bind_some, if_pos rfl, bind_eta]
theorem u_tells_4 (d : Nat) (b x : Int) (σ : St) : gX10_tells 49 (d + 1) 0 [b, 4, x] σ = gX10_tells 49 d 0 [b, 1, x] σ := by
  rw [g_tells]
  unfold fX10_tells
  rw [if_neg (by decide), if_neg (by decide), if_neg (by decide), above10, Option.bind_some, if_neg (by decide), if_pos rfl, bind_eta]
theorem u_tells_6 (d : Nat) (b x : Int) (σ : St) : gX10_tells 49 (d + 1) 0 [b, 6, x] σ = gX10_tells 49 d 0 [b, 0, x] σ := by
  rw [g_tells]
  unfold fX10_tells
  rw [if_neg (by decide), if_neg (by decide), if_neg (by decide), above10, Option.bind_some, if_neg (by decide), if_neg (by decide), if_neg (by decide), if_neg (by decide), bind_eta]
theorem mB0 {b r d : Nat} {K x : Int} {σ : St} (hS : SM b K r σ) (hr : r < 24) : gX10_bidsBy 49 (d + 1) 0 [(b : Int), 0, x] σ = some (i_add x (b : Int), pM [1] σ) := by
  rw [g_bidsBy]
  unfold fX10_bidsBy
  rw [if_pos rfl, ran10 hS hr, Option.bind_some]
theorem mB1 {b r d : Nat} {K x : Int} {σ : St} (hS : SM b K r σ) (hr : r + 2 ≤ 24) : gX10_bidsBy 49 (d + 2) 0 [(b : Int), 1, x] σ = some (i_add (i_add x (b : Int)) 3, pM [20, 1] σ) := by
  rw [g_bidsBy]
  unfold fX10_bidsBy
  rw [if_neg (by decide), if_pos rfl, ran10 hS (by omega), Option.bind_some, mB0 (hS.p1 (by omega)) (by omega), Option.bind_some]
  rfl
theorem mB6 {b r d : Nat} {K x : Int} {σ : St} (hS : SM b K r σ) (hr : r + 2 ≤ 24) : gX10_bidsBy 49 (d + 2) 0 [(b : Int), 6, x] σ = some (i_mul (i_add x (b : Int)) 2, pM [70, 1] σ) := by
  rw [g_bidsBy]
  unfold fX10_bidsBy
  rw [if_neg (by decide), if_neg (by decide), if_pos rfl, ran10 hS (by omega), Option.bind_some, mB0 (hS.p1 (by omega)) (by omega), Option.bind_some]
  rfl
theorem mB {b r d : Nat} {K k x : Int} {σ : St} (hd : 5 ≤ d) (hS : SM b K r σ) (hr : r + 2 ≤ 24) (hk : 0 ≤ k ∧ k ≤ 7) : gX10_bidsBy 49 d 0 [(b : Int), k, x] σ = some ((bV b k x).1, pM (bV b k x).2 σ) := by
  obtain ⟨e, rfl⟩ : ∃ e, d = e + 5 := ⟨d - 5, by omega⟩
  have hk' : k = 0 ∨ k = 1 ∨ k = 2 ∨ k = 3 ∨ k = 4 ∨ k = 5 ∨ k = 6 ∨ k = 7 := by omega
  rcases hk' with rfl | rfl | rfl | rfl | rfl | rfl | rfl | rfl
  · rw [mB0 hS (by omega), bV_0 (by omega)]
  · rw [mB1 hS (by omega), bV_1 (by omega)]
  · rw [u_bidsBy_2, mB0 hS (by omega), bV_0 (by omega)]
  · rw [u_bidsBy_3, u_bidsBy_2, mB0 hS (by omega), bV_0 (by omega)]
  · rw [u_bidsBy_4, mB1 hS (by omega), bV_1 (by omega)]
  · rw [u_bidsBy_5, u_bidsBy_3, u_bidsBy_2, mB0 hS (by omega), bV_0 (by omega)]
  · rw [mB6 hS (by omega), bV_6]
  · rw [u_bidsBy_7, u_bidsBy_4, mB1 hS (by omega), bV_1 (by omega)]
theorem hBd {b r : Nat} {K k x : Int} {σ : St} (hS : SM b K r σ) (hr : r + 2 ≤ 24) (hk : 0 ≤ k ∧ k ≤ 7) : hX10_bidsBy 49 (b : Int) k x σ = some ((bV b k x).1, pM (bV b k x).2 σ) := by
  obtain ⟨d, hd, hl⟩ := dep_ex
  unfold hX10_bidsBy
  rw [hd]
  exact mB (by omega) hS hr hk
theorem mL0 {b r d : Nat} {K x : Int} {σ : St} (hS : SM b K r σ) (hr : r < 24) : gX10_losesBy 49 (d + 1) 0 [(b : Int), 0, x] σ = some (i_xor x (b : Int), pM [11] σ) := by
  rw [g_losesBy]
  unfold fX10_losesBy
  rw [if_pos rfl, ran10 hS hr, Option.bind_some]
theorem mL3 {b r d : Nat} {K x : Int} {σ : St} (hS : SM b K r σ) (hr : r + 2 ≤ 24) : gX10_losesBy 49 (d + 3) 0 [(b : Int), 3, x] σ = some (i_mul (i_xor x (b : Int)) 3, pM [40, 11] σ) := by
  rw [g_losesBy]
  unfold fX10_losesBy
  rw [if_neg (by decide), if_pos rfl, ran10 hS (by omega), Option.bind_some, u_losesBy_2, mL0 (hS.p1 (by omega)) (by omega), Option.bind_some]
  rfl
theorem mL4 {b r d : Nat} {K x : Int} {σ : St} (hS : SM b K r σ) (hb : b < 50) (hK : 0 ≤ K ∧ K ≤ 7) (hr : r + 4 ≤ 24) : gX10_losesBy 49 (d + 3) 0 [(b : Int), 4, x] σ = some (i_sub (i_xor x (b : Int)) (bV b K 2).1, pM ([50, 11] ++ (bV b K 2).2) σ) := by
  rw [g_losesBy]
  unfold fX10_losesBy
  have s2 := (hS.p1 (x := 50) (by omega)).p1 (x := 11) (by omega)
  rw [if_neg (by decide), if_neg (by decide), if_pos rfl, ran10 hS (by omega), Option.bind_some, u_losesBy_1, mL0 (hS.p1 (by omega)) (by omega), Option.bind_some]
  simp only [rfS, lnS, Int.toNat_natCast]
  rw [if_pos ⟨by omega, by omega⟩, s2.1, hBd s2 (by omega) hK, Option.bind_some]
  dsimp only
  rw [show pM [11] (pM [50] σ) = pM [50, 11] σ from rfl, pM_app]
theorem mL {b r d : Nat} {K k x : Int} {σ : St} (hd : 5 ≤ d) (hS : SM b K r σ) (hb : b < 50) (hK : 0 ≤ K ∧ K ≤ 7) (hr : r + 4 ≤ 24) (hk : 0 ≤ k ∧ k ≤ 7) : gX10_losesBy 49 d 0 [(b : Int), k, x] σ = some ((lV b K k x).1, pM (lV b K k x).2 σ) := by
  obtain ⟨e, rfl⟩ : ∃ e, d = e + 5 := ⟨d - 5, by omega⟩
  have hk' : k = 0 ∨ k = 1 ∨ k = 2 ∨ k = 3 ∨ k = 4 ∨ k = 5 ∨ k = 6 ∨ k = 7 := by omega
  rcases hk' with rfl | rfl | rfl | rfl | rfl | rfl | rfl | rfl
  · rw [mL0 hS (by omega), lV_0 (by omega)]
  · rw [u_losesBy_1, mL0 hS (by omega), lV_0 (by omega)]
  · rw [u_losesBy_2, mL0 hS (by omega), lV_0 (by omega)]
  · rw [mL3 hS (by omega), lV_3 (by omega)]
  · rw [mL4 hS hb hK (by omega), lV_4 (by omega)]
  · rw [u_losesBy_5, mL3 hS (by omega), lV_3 (by omega)]
  · rw [u_losesBy_6, mL0 hS (by omega), lV_0 (by omega)]
  · rw [u_losesBy_7, mL4 hS hb hK (by omega), lV_4 (by omega)]
theorem hL {b r : Nat} {K k x : Int} {σ : St} (hS : SM b K r σ) (hb : b < 50) (hK : 0 ≤ K ∧ K ≤ 7) (hr : r + 4 ≤ 24) (hk : 0 ≤ k ∧ k ≤ 7) : hX10_losesBy 49 (b : Int) k x σ = some ((lV b K k x).1, pM (lV b K k x).2 σ) := by
  obtain ⟨d, hd, hl⟩ := dep_ex
  unfold hX10_losesBy
  rw [hd]
  exact mL (by omega) hS hb hK hr hk
theorem mM0 {b r d : Nat} {K x : Int} {σ : St} (hS : SM b K r σ) (hb : b < 50) (hK : 0 ≤ K ∧ K ≤ 7) (hr : r + 3 ≤ 24) : gX10_missesBy 49 (d + 1) 0 [(b : Int), 0, x] σ = some ((m0V b K x).1, pM (m0V b K x).2 σ) := by
  rw [g_missesBy]
  unfold fX10_missesBy
  rw [if_pos rfl, ran10 hS (by omega), Option.bind_some]
  simp only [rfS, lnS, Int.toNat_natCast]
  rw [if_pos ⟨by omega, by omega⟩, (hS.p1 (x := 10) (by omega)).1, hBd (hS.p1 (by omega)) (by omega) hK, Option.bind_some]
  dsimp only
  rw [app1M]
  rfl
theorem mM2 {b r d : Nat} {K x : Int} {σ : St} (hS : SM b K r σ) (hb : b < 50) (hK : 0 ≤ K ∧ K ≤ 7) (hr : r + 4 ≤ 24) : gX10_missesBy 49 (d + 2) 0 [(b : Int), 2, x] σ = some (i_neg (m0V b K x).1, pM ([30] ++ (m0V b K x).2) σ) := by
  rw [g_missesBy]
  unfold fX10_missesBy
  rw [if_neg (by decide), if_pos rfl, ran10 hS (by omega), Option.bind_some, mM0 (hS.p1 (by omega)) hb hK (by omega), Option.bind_some]
  dsimp only
  rw [app1M]
theorem mM3 {b r d : Nat} {K x : Int} {σ : St} (hS : SM b K r σ) (hb : b < 50) (hK : 0 ≤ K ∧ K ≤ 7) (hr : r + 5 ≤ 24) : gX10_missesBy 49 (d + 3) 0 [(b : Int), 3, x] σ = some (i_neg (m0V b K (i_add x 1)).1, pM ([41, 30] ++ (m0V b K (i_add x 1)).2) σ) := by
  rw [g_missesBy]
  unfold fX10_missesBy
  rw [if_neg (by decide), if_neg (by decide), if_pos rfl, ran10 hS (by omega), Option.bind_some, mM2 (hS.p1 (by omega)) hb hK (by omega), Option.bind_some]
  dsimp only
  rw [app1M]
  rfl
theorem mM7 {b r d : Nat} {K x : Int} {σ : St} (hS : SM b K r σ) (hb : b < 50) (hK : 0 ≤ K ∧ K ≤ 7) (hr : r + 8 ≤ 24) : gX10_missesBy 49 (d + 4) 0 [(b : Int), 7, x] σ = some (i_add (m0V b K x).1 (lV b K K 2).1, pM ([80] ++ (m0V b K x).2 ++ (lV b K K 2).2) σ) := by
  have l0 := m0V_l b K x
  have s2 := (hS.p1 (x := 80) (by omega)).app (m0V b K x).2 _ _ (by omega)
  rw [g_missesBy]
  unfold fX10_missesBy
  rw [if_neg (by decide), if_neg (by decide), if_neg (by decide), if_pos rfl, ran10 hS (by omega), Option.bind_some, u_missesBy_4, u_missesBy_1, mM0 (hS.p1 (by omega)) hb hK (by omega), Option.bind_some]
  simp only [rfS, lnS, Int.toNat_natCast]
  rw [if_pos ⟨by omega, by omega⟩, s2.1, hL s2 hb hK (by omega) hK, Option.bind_some]
  dsimp only
  rw [app2M]
theorem mMm {b r d : Nat} {K k x : Int} {σ : St} (hd : 5 ≤ d) (hS : SM b K r σ) (hb : b < 50) (hK : 0 ≤ K ∧ K ≤ 7) (hr : r + 8 ≤ 24) (hk : 0 ≤ k ∧ k ≤ 7) : gX10_missesBy 49 d 0 [(b : Int), k, x] σ = some ((mV b K k x).1, pM (mV b K k x).2 σ) := by
  obtain ⟨e, rfl⟩ : ∃ e, d = e + 5 := ⟨d - 5, by omega⟩
  have hk' : k = 0 ∨ k = 1 ∨ k = 2 ∨ k = 3 ∨ k = 4 ∨ k = 5 ∨ k = 6 ∨ k = 7 := by omega
  rcases hk' with rfl | rfl | rfl | rfl | rfl | rfl | rfl | rfl
  · rw [mM0 hS hb hK (by omega), mV_0 (by omega)]
  · rw [u_missesBy_1, mM0 hS hb hK (by omega), mV_0 (by omega)]
  · rw [mM2 hS hb hK (by omega), mV_2]
  · rw [mM3 hS hb hK (by omega), mV_3 (by omega)]
  · rw [u_missesBy_4, u_missesBy_1, mM0 hS hb hK (by omega), mV_0 (by omega)]
  · rw [u_missesBy_5, mM3 hS hb hK (by omega), mV_3 (by omega)]
  · rw [u_missesBy_6, mM0 hS hb hK (by omega), mV_0 (by omega)]
  · rw [mM7 hS hb hK (by omega), mV_7]
theorem hMm {b r : Nat} {K k x : Int} {σ : St} (hS : SM b K r σ) (hb : b < 50) (hK : 0 ≤ K ∧ K ≤ 7) (hr : r + 8 ≤ 24) (hk : 0 ≤ k ∧ k ≤ 7) : hX10_missesBy 49 (b : Int) k x σ = some ((mV b K k x).1, pM (mV b K k x).2 σ) := by
  obtain ⟨d, hd, hl⟩ := dep_ex
  unfold hX10_missesBy
  rw [hd]
  exact mMm (by omega) hS hb hK hr hk
theorem mT0 {b r d : Nat} {K x : Int} {σ : St} (hS : SM b K r σ) (hb : b < 50) (hK : 0 ≤ K ∧ K ≤ 7) (hr : r + 13 ≤ 24) : gX10_tells 49 (d + 1) 0 [(b : Int), 0, x] σ = some ((t0V b K x).1, pM (t0V b K x).2 σ) := by
  have l0 := mV_l b K K x
  have s2 := (hS.p1 (x := 2) (by omega)).app (mV b K K x).2 _ _ (by omega)
  rw [g_tells]
  unfold fX10_tells
  rw [if_pos rfl, ran10 hS (by omega), Option.bind_some]
  simp only [rfS, lnS, Int.toNat_natCast]
  rw [if_pos ⟨by omega, by omega⟩, (hS.p1 (x := 2) (by omega)).1, hMm (hS.p1 (by omega)) hb hK (by omega) hK, Option.bind_some, if_pos ⟨by omega, by omega⟩]
  dsimp only
  rw [s2.1, hL s2 hb hK (by omega) hK, Option.bind_some]
  dsimp only
  rw [app2M]
  rfl
theorem mT5 {b r d : Nat} {K x : Int} {σ : St} (hS : SM b K r σ) (hb : b < 50) (hK : 0 ≤ K ∧ K ≤ 7) (hr : r + 14 ≤ 24) : gX10_tells 49 (d + 4) 0 [(b : Int), 5, x] σ = some (i_xor (t0V b K x).1 5, pM ([60] ++ (t0V b K x).2) σ) := by
  rw [g_tells]
  unfold fX10_tells
  rw [if_neg (by decide), if_pos rfl, ran10 hS (by omega), Option.bind_some, u_tells_3, u_tells_2, mT0 (hS.p1 (by omega)) hb hK (by omega), Option.bind_some]
  dsimp only
  rw [app1M]
theorem mT7 {b r d : Nat} {K x : Int} {σ : St} (hS : SM b K r σ) (hb : b < 50) (hK : 0 ≤ K ∧ K ≤ 7) (hr : r + 14 ≤ 24) : gX10_tells 49 (d + 4) 0 [(b : Int), 7, x] σ = some (i_sub (t0V b K x).1 1, pM ([81] ++ (t0V b K x).2) σ) := by
  rw [g_tells]
  unfold fX10_tells
  rw [if_neg (by decide), if_neg (by decide), if_pos rfl, ran10 hS (by omega), Option.bind_some, u_tells_4, u_tells_1, mT0 (hS.p1 (by omega)) hb hK (by omega), Option.bind_some]
  dsimp only
  rw [app1M]
theorem mT {b r d : Nat} {K k x : Int} {σ : St} (hd : 5 ≤ d) (hS : SM b K r σ) (hb : b < 50) (hK : 0 ≤ K ∧ K ≤ 7) (hr : r + 14 ≤ 24) (hk : 0 ≤ k ∧ k ≤ 7) : gX10_tells 49 d 0 [(b : Int), k, x] σ = some ((tV b K k x).1, pM (tV b K k x).2 σ) := by
  obtain ⟨e, rfl⟩ : ∃ e, d = e + 5 := ⟨d - 5, by omega⟩
  have hk' : k = 0 ∨ k = 1 ∨ k = 2 ∨ k = 3 ∨ k = 4 ∨ k = 5 ∨ k = 6 ∨ k = 7 := by omega
  rcases hk' with rfl | rfl | rfl | rfl | rfl | rfl | rfl | rfl
  · rw [mT0 hS hb hK (by omega), tV_0 (by omega)]
  · rw [u_tells_1, mT0 hS hb hK (by omega), tV_0 (by omega)]
  · rw [u_tells_2, mT0 hS hb hK (by omega), tV_0 (by omega)]
  · rw [u_tells_3, u_tells_2, mT0 hS hb hK (by omega), tV_0 (by omega)]
  · rw [u_tells_4, u_tells_1, mT0 hS hb hK (by omega), tV_0 (by omega)]
  · rw [mT5 hS hb hK (by omega), tV_5]
  · rw [u_tells_6, mT0 hS hb hK (by omega), tV_0 (by omega)]
  · rw [mT7 hS hb hK (by omega), tV_7]
theorem hT' {b r : Nat} {K k x : Int} {σ : St} (hS : SM b K r σ) (hb : b < 50) (hK : 0 ≤ K ∧ K ≤ 7) (hr : r + 14 ≤ 24) (hk : 0 ≤ k ∧ k ≤ 7) : hX10_tells 49 (b : Int) k x σ = some ((tV b K k x).1, pM (tV b K k x).2 σ) := by
  obtain ⟨d, hd, hl⟩ := dep_ex
  unfold hX10_tells
  rw [hd]
  exact mT (by omega) hS hb hK hr hk
/-- an act of a lot, by its number -/
def aV (b K ac x : Int) : Int × List Int := if ac = 0 then bV b K x else if ac = 1 then mV b K K x else if ac = 2 then lV b K K x else tV b K K x
theorem aV_l (b K ac x : Int) : (aV b K ac x).2.length ≤ 14 := by
  have q1 := bV_l b K x
  have q2 := mV_l b K K x
  have q3 := lV_l b K K x
  have q4 := tV_l b K K x
  unfold aV
  split
  · omega
  · split
    · omega
    · split <;> omega
theorem act9 {b : Nat} {K ac x : Int} {τ : St} (hS : SC b K 0 τ) (hb : b < 50) (hK : 0 ≤ K ∧ K ≤ 7) (ha : 0 ≤ ac ∧ ac ≤ 3) : hX5_runs 32 K ac x 0 τ = some ((aV b K ac x).1, pC (aV b K ac x).2 τ) := by
  obtain ⟨d, hd, hl⟩ := dep_ex
  unfold hX5_runs aV
  rw [hd]
  have ha' : ac = 0 ∨ ac = 1 ∨ ac = 2 ∨ ac = 3 := by omega
  rcases ha' with rfl | rfl | rfl | rfl
  · rw [if_pos rfl]
    exact cB (lev := 0) (by omega) (by omega) hS (by omega) hK
  · rw [if_neg (by decide), if_pos rfl]
    exact cM (lev := 0) (by omega) (by omega) hS hb hK (by omega) hK
  · rw [if_neg (by decide), if_neg (by decide), if_pos rfl]
    exact cL (lev := 0) (by omega) (by omega) hS hb hK (by omega) hK
  · rw [if_neg (by decide), if_neg (by decide), if_neg (by decide)]
    exact cT (lev := 0) (by omega) (by omega) hS hb hK (by omega) hK
def rowP : List Int → Nat → (Nat → Int) → Nat → Int
  | [], _, f => f
  | x :: L, r, f => rowP L (r + 1) (fun j => if j = r then x else f j)
theorem pC_spec : ∀ (L : List Int) (r : Nat) (τ : St), τ 32 3 = (r : Int) → r + L.length < 1000 → (pC L τ) 34 = rowP L r (τ 34) ∧ (pC L τ) 32 3 = ((r + L.length : Nat) : Int) ∧ ∀ c j : Nat, c ≠ 34 → ¬ (c = 32 ∧ j = 3) → pC L τ c j = τ c j
  | [], r, τ, h, _ => ⟨rfl, h, fun _ _ _ _ => rfl⟩
  | x :: L, r, τ, h, hr => by
    have hl : (x :: L).length = L.length + 1 := rfl
    obtain ⟨τ1, e1⟩ : ∃ τ1 : St, τ1 = up (up τ 34 (τ 32 3).toNat x) 32 3 (i_add (τ 32 3) 1) := ⟨_, rfl⟩
    have h1 : τ1 32 3 = ((r + 1 : Nat) : Int) := by
      rw [e1, up_get, if_pos ⟨rfl, rfl⟩, h, ia (ok_in (by omega) (by omega))]
      omega
    have h2 : τ1 34 = fun j => if j = r then x else τ 34 j := by
      funext j
      rw [e1, up_ne (by decide), up_get, h, Int.toNat_natCast]
      by_cases z : j = r
      · rw [if_pos ⟨rfl, z⟩, if_pos z]
      · rw [if_neg (fun y => z y.2), if_neg z]
    have h3 : ∀ c j : Nat, c ≠ 34 → ¬ (c = 32 ∧ j = 3) → τ1 c j = τ c j := fun c j x y => by rw [e1, up_get, if_neg y, up_ne x]
    obtain ⟨q1, q2, q3⟩ := pC_spec L (r + 1) τ1 h1 (by omega)
    have e : pC (x :: L) τ = pC L τ1 := by
      rw [e1]
      rfl
    rw [e]
    refine ⟨?_, ?_, fun c j x y => (q3 c j x y).trans (h3 c j x y)⟩
    · rw [q1, h2]
      rfl
    · rw [q2, hl, show r + 1 + L.length = r + (L.length + 1) by omega]
theorem pM_spec : ∀ (L : List Int) (r : Nat) (τ : St), τ 49 36 = (r : Int) → r + L.length < 1000 → (pM L τ) 71 = rowP L r (τ 71) ∧ (pM L τ) 49 36 = ((r + L.length : Nat) : Int) ∧ ∀ c j : Nat, c ≠ 71 → ¬ (c = 49 ∧ j = 36) → pM L τ c j = τ c j
  | [], r, τ, h, _ => ⟨rfl, h, fun _ _ _ _ => rfl⟩
  | x :: L, r, τ, h, hr => by
    have hl : (x :: L).length = L.length + 1 := rfl
    obtain ⟨τ1, e1⟩ : ∃ τ1 : St, τ1 = up (up τ 71 (τ 49 36).toNat x) 49 36 (i_add (τ 49 36) 1) := ⟨_, rfl⟩
    have h1 : τ1 49 36 = ((r + 1 : Nat) : Int) := by
      rw [e1, up_get, if_pos ⟨rfl, rfl⟩, h, ia (ok_in (by omega) (by omega))]
      omega
    have h2 : τ1 71 = fun j => if j = r then x else τ 71 j := by
      funext j
      rw [e1, up_ne (by decide), up_get, h, Int.toNat_natCast]
      by_cases z : j = r
      · rw [if_pos ⟨rfl, z⟩, if_pos z]
      · rw [if_neg (fun y => z y.2), if_neg z]
    have h3 : ∀ c j : Nat, c ≠ 71 → ¬ (c = 49 ∧ j = 36) → τ1 c j = τ c j := fun c j x y => by rw [e1, up_get, if_neg y, up_ne x]
    obtain ⟨q1, q2, q3⟩ := pM_spec L (r + 1) τ1 h1 (by omega)
    have e : pM (x :: L) τ = pM L τ1 := by
      rw [e1]
      rfl
    rw [e]
    refine ⟨?_, ?_, fun c j x y => (q3 c j x y).trans (h3 c j x y)⟩
    · rw [q1, h2]
      rfl
    · rw [q2, hl, show r + 1 + L.length = r + (L.length + 1) by omega]
theorem rowP_congr {f g : Nat → Int} : ∀ (L : List Int) (r : Nat) (f g : Nat → Int), (∀ j : Nat, j < 24 → f j = g j) → ∀ j : Nat, j < 24 → rowP L r f j = rowP L r g j
  | [], r, f, g, h, j, hj => h j hj
  | x :: L, r, f, g, h, j, hj => rowP_congr (f := f) (g := g) L (r + 1) _ _ (fun i hi => by
      show (if i = r then x else f i) = if i = r then x else g i
      rw [h i hi]) j hj
theorem ag_act (a1 : Int) (a2 : Int) (a3 : Int) (ha1 : ok32 a1) (ha2 : ok32 a2) (ha3 : ok32 a3) : Ag (fun σ => fX9_act 0 a1 a2 a3 σ) (fun σ => fX10_act 49 a1 a2 a3 σ) := by
  intro σ hI
  obtain ⟨h, c1, c2, c3, i1, i2, i3, i4, ⟨n, n1, n2, n3, n4, n5, n6, n7, n8⟩, i6, i7⟩ := id hI
  dsimp only
  -- all but the lots' trace stays; the trace is alike
  have fin : ∀ (ω : St) (L : List Int), L.length ≤ 14 → (∀ c j : Nat, ¬ (c = 34 ∨ c = 71 ∨ (c = 32 ∧ (j = 3 ∨ j = 4)) ∨ (c = 49 ∧ j = 36)) → ω c j = σ c j) → ω 32 3 = ((0 + L.length : Nat) : Int) → ω 49 36 = ((0 + L.length : Nat) : Int) → ω 34 = rowP L 0 (σ 34) → ω 71 = rowP L 0 (σ 71) → Inv ω := by
    intro ω L hL ag e1 e2 e3 e4
    refine ⟨h, HC1.keep (fun c j q => ag c j (by unfold pH1 at q; omega)) c1, HM.keep (fun c j q => ag c j (by unfold pHM at q; omega)) c2, c3, i1.keep (fun c j q => ag c j (by unfold pImg at q; omega)) (Nat.le_refl _) (Nat.le_refl _), i2.keep (fun c j q => ag c j (by unfold pLed at q; omega)), i3.keep (fun c j q => ag c j (by unfold pChg at q; omega)) (Nat.le_refl _) (Nat.le_refl _), i4.keep (fun c j q => ag c j (by unfold pTape at q; omega)), ⟨n, n1, by rw [ag 32 2 (by omega)]; exact n2, by rw [ag 49 34 (by omega)]; exact n3, fun j hj => by rw [ag 33 j (by omega), ag 70 j (by omega)]; exact n4 j hj, by rw [e1, e2], by rw [e1]; omega, by rw [e1]; omega, fun j hj => by rw [e3, e4]; exact rowP_congr (f := σ 34) (g := σ 71) L 0 _ _ n8 j hj⟩, fun w hw => (i6 w hw).keep hw (fun c j q => ag c j (by unfold pShelf at q; omega)), i7.keep (fun c j q => ag c j (by unfold pLaw at q; omega))⟩
  unfold fX9_act fX5_acts fX10_act
  simp only [rfS, lnS]
  have hh : ∀ τ : St, τ 32 2 = (n : Int) → fX5_has 32 a1 τ = some (if 0 ≤ a1 ∧ a1 < (n : Int) then 1 else 0, τ) := by
    intro τ ht
    unfold fX5_has
    rw [ht]
    by_cases z : 0 ≤ a1 ∧ a1 < (n : Int)
    · rw [if_pos z, if_neg (by omega), if_neg (by omega)]
    · rw [if_neg z]
      by_cases y : a1 < 0
      · rw [if_pos y]
      · rw [if_neg y, if_pos (by omega)]
  have u2 : up σ 32 3 0 32 2 = (n : Int) := by
    rw [up_get, if_neg (by omega)]
    exact n2
  -- refused
  have no : Inv (up (up σ 32 3 0) 49 36 0) := by
    refine fin _ [] (by decide) (fun c j q => ?_) ?_ ?_ ?_ ?_
    · rw [up_get, if_neg (by omega), up_get, if_neg (by omega)]
    · rw [up_ne (by decide), up_get, if_pos ⟨rfl, rfl⟩]
      rfl
    · rw [up_get, if_pos ⟨rfl, rfl⟩]
      rfl
    · rw [up_ne (by decide), up_ne (by decide)]
      rfl
    · rw [up_ne (by decide), up_ne (by decide)]
      rfl
  have m34 : ∀ τ : St, τ 49 34 = (n : Int) → i_sub (up τ 49 36 0 49 34) 1 = (n : Int) - 1 := fun τ ht => by
    rw [up_get, if_neg (by omega), ht, isb (ok_in (by omega) (by omega))]
  have u34 : up σ 32 3 0 49 34 = (n : Int) := by
    rw [up_ne (by decide)]
    exact n3
  rw [hh _ u2]
  by_cases a : 0 ≤ a1 ∧ a1 < (n : Int)
  case neg =>
    rw [if_neg a, b0, Option.bind_some]
    exact ⟨0, _, _, rfl, by rw [m34 _ u34, within_eq, if_neg (by omega), b0], no⟩
  rw [if_pos a, b1]
  by_cases q : 0 ≤ a2 ∧ a2 ≤ 3
  case neg =>
    have e : (if a2 < 0 then some ((0 : Int), up σ 32 3 0) else if a2 < 4 then (if inb a1 50 then Option.bind (hX5_runs 32 ((up (up σ 32 3 0) 32 4 a1) 33 (Int.toNat a1)) a2 a3 0 (up (up σ 32 3 0) 32 4 a1)) fun q2 => some (q2.1, q2.2) else none) else some (0, up σ 32 3 0)) = some (0, up σ 32 3 0) := by
      by_cases y : a2 < 0
      · rw [if_pos y]
      · rw [if_neg y, if_neg (by omega)]
    dsimp only
    rw [e, Option.bind_some]
    refine ⟨0, _, _, rfl, ?_, no⟩
    rw [m34 _ u34, within_eq, if_pos (by omega), b1]
    dsimp only
    rw [within_eq, if_neg q, b0]
  rw [if_neg (by omega), if_pos (by omega), if_pos ⟨by omega, by omega⟩]
  obtain ⟨b, rfl⟩ : ∃ b : Nat, a1 = (b : Int) := ⟨a1.toNat, by omega⟩
  obtain ⟨k1, k2, k3⟩ := n4 b (by omega)
  obtain ⟨τ0, e0⟩ : ∃ τ0 : St, τ0 = up (up σ 32 3 0) 32 4 (b : Int) := ⟨_, rfl⟩
  dsimp only
  rw [← e0, Int.toNat_natCast]
  have t33 : τ0 33 b = σ 33 b := by rw [e0, up_ne (by decide), up_ne (by decide)]
  have sc : SC b (σ 33 b) 0 τ0 := by
    refine ⟨?_, t33, ?_⟩
    · rw [e0, up_get, if_pos ⟨rfl, rfl⟩]
    · rw [e0, up_get, if_neg (by omega), up_get, if_pos ⟨rfl, rfl⟩]
      rfl
  have hK : 0 ≤ σ 33 b ∧ σ 33 b ≤ 7 := ⟨k2, k3⟩
  rw [t33, act9 sc (by omega) hK q, Option.bind_some, Option.bind_some]
  have l14 := aV_l (b : Int) (σ 33 b) a2 a3
  obtain ⟨L, eL⟩ : ∃ L : List Int, L = (aV (b : Int) (σ 33 b) a2 a3).2 := ⟨_, rfl⟩
  rw [← eL] at l14
  obtain ⟨p1, p2, p3⟩ := pC_spec L 0 τ0 sc.2.2 (by omega)
  obtain ⟨τ1, e1⟩ : ∃ τ1 : St, τ1 = pC L τ0 := ⟨_, rfl⟩
  rw [← eL, ← e1]
  rw [← e1] at p1 p2 p3
  obtain ⟨τ2, e2⟩ : ∃ τ2 : St, τ2 = up τ1 49 36 0 := ⟨_, rfl⟩
  have g : ∀ c j : Nat, ¬ (c = 34 ∨ c = 71 ∨ (c = 32 ∧ (j = 3 ∨ j = 4)) ∨ (c = 49 ∧ j = 36)) → τ2 c j = σ c j := fun c j z => by
    rw [e2, up_get, if_neg (by omega), p3 c j (by omega) (by omega), e0, up_get, if_neg (by omega), up_get, if_neg (by omega)]
  have sm : SM b (σ 33 b) 0 τ2 := by
    refine ⟨?_, ?_⟩
    · rw [g 70 b (by omega)]
      exact k1.symm
    · rw [e2, up_get, if_pos ⟨rfl, rfl⟩]
      rfl
  obtain ⟨w1, w2, w3⟩ := pM_spec L 0 τ2 sm.2 (by omega)
  refine ⟨_, τ1, pM L τ2, rfl, ?_, ?_⟩
  · rw [m34 τ1 (by rw [p3 49 34 (by decide) (by omega), e0, up_ne (by decide), up_ne (by decide)]; exact n3), within_eq, if_pos (by omega), b1]
    dsimp only
    rw [within_eq, if_pos q, b1]
    dsimp only
    rw [← e2, if_pos ⟨by omega, by omega⟩, sm.1, hBd sm (by omega) hK, hMm sm (by omega) hK (by omega) hK, hL sm (by omega) hK (by omega) hK, hT' sm (by omega) hK (by omega) hK, eL]
    unfold aV
    simp only [Option.bind_some]
    by_cases y0 : a2 = 0
    · rw [if_pos y0, if_pos y0]
    rw [if_neg y0, if_neg y0]
    by_cases y1 : a2 = 1
    · rw [if_pos y1, if_pos y1]
    rw [if_neg y1, if_neg y1]
    by_cases y2 : a2 = 2
    · rw [if_pos y2, if_pos y2]
    rw [if_neg y2, if_neg y2]
  · refine fin _ L l14 (fun c j z => ?_) ?_ w2 ?_ ?_
    · rw [w3 c j (by omega) (by omega), g c j z]
    · rw [w3 32 3 (by decide) (by omega), e2, up_ne (by decide), p2]
    · funext j
      rw [w3 34 j (by decide) (by omega), e2, up_ne (by decide), p1, e0, up_ne (by decide), up_ne (by decide)]
    · rw [w1, e2, up_ne (by decide)]
      have : τ1 71 = σ 71 := by
        funext j
        rw [p3 71 j (by decide) (by omega), e0, up_ne (by decide), up_ne (by decide)]
      rw [this]
