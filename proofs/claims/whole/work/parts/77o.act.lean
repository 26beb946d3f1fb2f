/-! Lots and their acts: act. -/
/-- a body runs: it comes into the trace -/
def pC : List Int → St → St
  | [], τ => τ
  | x :: L, τ => pC L (up (up τ 34 (τ 32 3).toNat x) 32 3 (i_add (τ 32 3) 1))
def pM : List Int → St → St
  | [], τ => τ
  | x :: L, τ => pM L (up (up τ 71 (τ 49 36).toNat x) 49 36 (i_add (τ 49 36) 1))
theorem pC_app : ∀ (A B : List Int) (τ : St), pC B (pC A τ) = pC (A ++ B) τ
  | [], B, τ => rfl
  | x :: A, B, τ => pC_app A B _
theorem pM_app : ∀ (A B : List Int) (τ : St), pM B (pM A τ) = pM (A ++ B) τ
  | [], B, τ => rfl
  | x :: A, B, τ => pM_app A B _
def SC (b : Nat) (K : Int) (r : Nat) (τ : St) : Prop := τ 32 4 = (b : Int) ∧ τ 33 b = K ∧ τ 32 3 = (r : Int)
def SM (b : Nat) (K : Int) (r : Nat) (τ : St) : Prop := τ 70 b = K ∧ τ 49 36 = (r : Int)
theorem SC.push {b r : Nat} {K x : Int} {τ : St} (h : SC b K r τ) (hr : r < 1000) : SC b K (r + 1) (up (up τ 34 (τ 32 3).toNat x) 32 3 (i_add (τ 32 3) 1)) := by
  obtain ⟨h1, h2, h3⟩ := h
  refine ⟨?_, ?_, ?_⟩
  · rw [up_get, if_neg (by omega), up_ne (by decide)]
    exact h1
  · rw [up_ne (by decide), up_ne (by decide)]
    exact h2
  · rw [up_get, if_pos ⟨rfl, rfl⟩, h3, ia (ok_in (by omega) (by omega))]
    omega
theorem SM.push {b r : Nat} {K x : Int} {τ : St} (h : SM b K r τ) (hr : r < 1000) : SM b K (r + 1) (up (up τ 71 (τ 49 36).toNat x) 49 36 (i_add (τ 49 36) 1)) := by
  obtain ⟨h2, h3⟩ := h
  refine ⟨?_, ?_⟩
  · rw [up_ne (by decide), up_ne (by decide)]
    exact h2
  · rw [up_get, if_pos ⟨rfl, rfl⟩, h3, ia (ok_in (by omega) (by omega))]
    omega
theorem SC.app {b : Nat} {K : Int} : ∀ (L : List Int) (r : Nat) (τ : St), SC b K r τ → r + L.length < 1000 → SC b K (r + L.length) (pC L τ)
  | [], r, τ, h, _ => h
  | x :: L, r, τ, h, hr => by
    have hl : (x :: L).length = L.length + 1 := rfl
    have q := SC.app L (r + 1) _ (h.push (x := x) (by omega)) (by omega)
    rw [hl, show r + (L.length + 1) = r + 1 + L.length by omega]
    exact q
theorem SM.app {b : Nat} {K : Int} : ∀ (L : List Int) (r : Nat) (τ : St), SM b K r τ → r + L.length < 1000 → SM b K (r + L.length) (pM L τ)
  | [], r, τ, h, _ => h
  | x :: L, r, τ, h, hr => by
    have hl : (x :: L).length = L.length + 1 := rfl
    have q := SM.app L (r + 1) _ (h.push (x := x) (by omega)) (by omega)
    rw [hl, show r + (L.length + 1) = r + 1 + L.length by omega]
    exact q
theorem bind_eta {X : Option (Int × St)} : (Option.bind X fun q => some (q.1, q.2)) = X := by
  cases X <;> rfl
theorem r_hit {cl : Nat → List Int → St → Option (Int × St)} {x1 ac x lev k i B A : Int} {n : Nat} {τ : St} (h8 : ¬ 8 ≤ i) (h1 : ¬ k < 0) (h2 : ¬ 8 ≤ k) (hi : inb (i_add (i_mul k 4) ac) (List.length stv3)) (hB : stv3.getD (Int.toNat (i_add (i_mul k 4) ac)) 0 = B) (h0 : ¬ B = 0) (hj : inb k (List.length stv2)) (hA : stv2.getD (Int.toNat k) 0 = A) (hl : ¬ 40 ≤ lev) : fX5_runs_6 cl 32 x1 ac x lev (n + 1) k i τ = cl 1 [B, A, x, i_add lev 1] τ := by
  rw [fX5_runs_6.eq_2, if_neg h8, if_neg h1, if_neg h2, if_pos hi, hB, if_neg h0, if_neg hl, if_pos hj, hA, bind_eta]
theorem r_miss {cl : Nat → List Int → St → Option (Int × St)} {x1 ac x lev k i A : Int} {n : Nat} {τ : St} (h8 : ¬ 8 ≤ i) (h1 : ¬ k < 0) (h2 : ¬ 8 ≤ k) (hi : inb (i_add (i_mul k 4) ac) (List.length stv3)) (hB : stv3.getD (Int.toNat (i_add (i_mul k 4) ac)) 0 = 0) (hj : inb k (List.length stv2)) (hA : stv2.getD (Int.toNat k) 0 = A) : fX5_runs_6 cl 32 x1 ac x lev (n + 1) k i τ = fX5_runs_6 cl 32 x1 ac x lev n A (i_add i 1) τ := by
  rw [fX5_runs_6.eq_2, if_neg h8, if_neg h1, if_neg h2, if_pos hi, if_pos hB, if_pos hj, hA]
theorem g_run (d : Nat) (k a x l : Int) (τ : St) : gX5_own 32 (d + 1) 2 [k, a, x, l] τ = fX5_runs_6 (gX5_own 32 d) 32 k a x l FU k 0 τ := by
  rw [gX5_own_s]
  rfl
theorem g_body (d : Nat) (B A x l : Int) (τ : St) : gX5_own 32 (d + 1) 1 [B, A, x, l] τ = fX5_runBody (gX5_own 32 d) 32 B A x l τ := by
  rw [gX5_own_s]
  rfl
theorem g_own (d : Nat) (a x l : Int) (τ : St) : gX5_own 32 (d + 1) 0 [a, x, l] τ = fX5_own (gX5_own 32 d) 32 a x l τ := by
  rw [gX5_own_s]
  rfl
theorem lev_s {lev : Nat} (h : lev < 40) : i_add (lev : Int) 1 = ((lev + 1 : Nat) : Int) := by
  rw [ia (ok_in (by omega) (by omega))]
  omega
theorem FU_l : FU = 1000000 := rfl
theorem body_p {cl : Nat → List Int → St → Option (Int × St)} {B A x l K : Int} {b r : Nat} {τ : St} (hS : SC b K r τ) (hr : r < 24) : fX5_runBody cl 32 B A x l τ = fX5_runBody_19 cl 32 B A x l (up τ 34 (τ 32 3).toNat B) := by
  unfold fX5_runBody
  rw [hS.2.2, if_neg (by omega)]
  simp only [rfS, lnS]
  rw [if_pos ⟨by omega, by omega⟩]
theorem body_q {B : Int} {τ : St} : up (up τ 34 (τ 32 3).toNat B) 32 3 (i_add ((up τ 34 (τ 32 3).toNat B) 32 3) 1) = pC [B] τ := by
  rw [up_ne (by decide)]
  rfl
theorem own_q {d : Nat} {K a x l : Int} {b r : Nat} {τ : St} (hS : SC b K r τ) (hb : b < 50) : gX5_own 32 (d + 1) 0 [a, x, l] τ = gX5_own 32 d 2 [K, a, x, l] τ := by
  rw [g_own]
  unfold fX5_own
  simp only [rfS, lnS]
  rw [hS.1, if_pos ⟨by omega, by omega⟩, Int.toNat_natCast, hS.2.1, bind_eta]
def bV (b k x : Int) : Int × List Int := if k = 1 ∨ k = 4 ∨ k = 7 then (i_add (i_add x b) 3, [20, 1]) else if k = 6 then (i_mul (i_add x b) 2, [70, 1]) else (i_add x b, [1])
def lV (b K k x : Int) : Int × List Int := if k = 3 ∨ k = 5 then (i_mul (i_xor x b) 3, [40, 11]) else if k = 4 ∨ k = 7 then (i_sub (i_xor x b) (bV b K 2).1, [50, 11] ++ (bV b K 2).2) else (i_xor x b, [11])
def m0V (b K x : Int) : Int × List Int := (i_mul (bV b K x).1 2, [10] ++ (bV b K x).2)
def mV (b K k x : Int) : Int × List Int := if k = 2 then (i_neg (m0V b K x).1, [30] ++ (m0V b K x).2) else if k = 3 ∨ k = 5 then (i_neg (m0V b K (i_add x 1)).1, [41, 30] ++ (m0V b K (i_add x 1)).2) else if k = 7 then (i_add (m0V b K x).1 (lV b K K 2).1, [80] ++ (m0V b K x).2 ++ (lV b K K 2).2) else m0V b K x
def t0V (b K x : Int) : Int × List Int := (i_sub (mV b K K x).1 (lV b K K 1).1, [2] ++ (mV b K K x).2 ++ (lV b K K 1).2)
def tV (b K k x : Int) : Int × List Int := if k = 5 then (i_xor (t0V b K x).1 5, [60] ++ (t0V b K x).2) else if k = 7 then (i_sub (t0V b K x).1 1, [81] ++ (t0V b K x).2) else t0V b K x
theorem bV_l (b k x : Int) : (bV b k x).2.length ≤ 2 := by
  unfold bV
  split
  · show (2 : Nat) ≤ 2
    omega
  · split <;> (dsimp only [List.length]; omega)
theorem lV_l (b K k x : Int) : (lV b K k x).2.length ≤ 4 := by
  have q := bV_l b K 2
  unfold lV
  split
  · show (2 : Nat) ≤ 4
    omega
  · split
    · dsimp only
      rw [List.length_append]
      show 2 + _ ≤ 4
      omega
    · show (1 : Nat) ≤ 4
      omega
theorem m0V_l (b K x : Int) : (m0V b K x).2.length ≤ 3 := by
  have q := bV_l b K x
  unfold m0V
  dsimp only
  rw [List.length_append]
  show 1 + _ ≤ 3
  omega
theorem mV_l (b K k x : Int) : (mV b K k x).2.length ≤ 8 := by
  have q1 := m0V_l b K x
  have q2 := m0V_l b K (i_add x 1)
  have q3 := lV_l b K K 2
  unfold mV
  split
  · dsimp only
    rw [List.length_append]
    show 1 + _ ≤ 8
    omega
  · split
    · dsimp only
      rw [List.length_append]
      show 2 + _ ≤ 8
      omega
    · split
      · dsimp only
        rw [List.length_append, List.length_append]
        show 1 + _ + _ ≤ 8
        omega
      · omega
theorem t0V_l (b K x : Int) : (t0V b K x).2.length ≤ 13 := by
  have q1 := mV_l b K K x
  have q3 := lV_l b K K 1
  unfold t0V
  dsimp only
  rw [List.length_append, List.length_append]
  show 1 + _ + _ ≤ 13
  omega
theorem tV_l (b K k x : Int) : (tV b K k x).2.length ≤ 14 := by
  have q1 := t0V_l b K x
  unfold tV
  split
  · dsimp only
    rw [List.length_append]
    show 1 + _ ≤ 14
    omega
  · split
    · dsimp only
      rw [List.length_append]
      show 1 + _ ≤ 14
      omega
    · omega
theorem app1 {x : Int} {L : List Int} {τ : St} : pC L (pC [x] τ) = pC ([x] ++ L) τ := pC_app _ _ _
theorem app2 {x : Int} {A B : List Int} {τ : St} : pC B (pC A (pC [x] τ)) = pC ([x] ++ A ++ B) τ := by
  rw [pC_app, pC_app, List.append_assoc]
theorem app1M {x : Int} {L : List Int} {τ : St} : pM L (pM [x] τ) = pM ([x] ++ L) τ := pM_app _ _ _
theorem app2M {x : Int} {A B : List Int} {τ : St} : pM B (pM A (pM [x] τ)) = pM ([x] ++ A ++ B) τ := by
  rw [pM_app, pM_app, List.append_assoc]
theorem rb_0_0 {d lev : Nat} {x : Int} {τ : St} (hl : lev < 40) : gX5_own 32 (d + 2) 2 [0, 0, x, (lev : Int)] τ = fX5_runBody (gX5_own 32 d) 32 1 (-1) x ((lev + 1 : Nat) : Int) τ := by
  rw [g_run, FU_l, r_hit (B := 1) (A := -1) (by decide) (by decide) (by decide) (by decide) (by decide) (by decide) (by decide) (by decide) (by omega), lev_s hl, g_body]
theorem rb_0_1 {d lev : Nat} {x : Int} {τ : St} (hl : lev < 40) : gX5_own 32 (d + 2) 2 [0, 1, x, (lev : Int)] τ = fX5_runBody (gX5_own 32 d) 32 10 (-1) x ((lev + 1 : Nat) : Int) τ := by
  rw [g_run, FU_l, r_hit (B := 10) (A := -1) (by decide) (by decide) (by decide) (by decide) (by decide) (by decide) (by decide) (by decide) (by omega), lev_s hl, g_body]
theorem rb_0_2 {d lev : Nat} {x : Int} {τ : St} (hl : lev < 40) : gX5_own 32 (d + 2) 2 [0, 2, x, (lev : Int)] τ = fX5_runBody (gX5_own 32 d) 32 11 (-1) x ((lev + 1 : Nat) : Int) τ := by
  rw [g_run, FU_l, r_hit (B := 11) (A := -1) (by decide) (by decide) (by decide) (by decide) (by decide) (by decide) (by decide) (by decide) (by omega), lev_s hl, g_body]
theorem rb_0_3 {d lev : Nat} {x : Int} {τ : St} (hl : lev < 40) : gX5_own 32 (d + 2) 2 [0, 3, x, (lev : Int)] τ = fX5_runBody (gX5_own 32 d) 32 2 (-1) x ((lev + 1 : Nat) : Int) τ := by
  rw [g_run, FU_l, r_hit (B := 2) (A := -1) (by decide) (by decide) (by decide) (by decide) (by decide) (by decide) (by decide) (by decide) (by omega), lev_s hl, g_body]
theorem rb_1_0 {d lev : Nat} {x : Int} {τ : St} (hl : lev < 40) : gX5_own 32 (d + 2) 2 [1, 0, x, (lev : Int)] τ = fX5_runBody (gX5_own 32 d) 32 20 (0) x ((lev + 1 : Nat) : Int) τ := by
  rw [g_run, FU_l, r_hit (B := 20) (A := 0) (by decide) (by decide) (by decide) (by decide) (by decide) (by decide) (by decide) (by decide) (by omega), lev_s hl, g_body]
theorem rb_1_1 {d lev : Nat} {x : Int} {τ : St} (hl : lev < 40) : gX5_own 32 (d + 2) 2 [1, 1, x, (lev : Int)] τ = fX5_runBody (gX5_own 32 d) 32 10 (-1) x ((lev + 1 : Nat) : Int) τ := by
  rw [g_run, FU_l, r_miss (A := 0) (by decide) (by decide) (by decide) (by decide) (by decide) (by decide) (by decide), r_hit (B := 10) (A := -1) (by decide) (by decide) (by decide) (by decide) (by decide) (by decide) (by decide) (by decide) (by omega), lev_s hl, g_body]
theorem rb_1_2 {d lev : Nat} {x : Int} {τ : St} (hl : lev < 40) : gX5_own 32 (d + 2) 2 [1, 2, x, (lev : Int)] τ = fX5_runBody (gX5_own 32 d) 32 11 (-1) x ((lev + 1 : Nat) : Int) τ := by
  rw [g_run, FU_l, r_miss (A := 0) (by decide) (by decide) (by decide) (by decide) (by decide) (by decide) (by decide), r_hit (B := 11) (A := -1) (by decide) (by decide) (by decide) (by decide) (by decide) (by decide) (by decide) (by decide) (by omega), lev_s hl, g_body]
theorem rb_1_3 {d lev : Nat} {x : Int} {τ : St} (hl : lev < 40) : gX5_own 32 (d + 2) 2 [1, 3, x, (lev : Int)] τ = fX5_runBody (gX5_own 32 d) 32 2 (-1) x ((lev + 1 : Nat) : Int) τ := by
  rw [g_run, FU_l, r_miss (A := 0) (by decide) (by decide) (by decide) (by decide) (by decide) (by decide) (by decide), r_hit (B := 2) (A := -1) (by decide) (by decide) (by decide) (by decide) (by decide) (by decide) (by decide) (by decide) (by omega), lev_s hl, g_body]
theorem rb_2_0 {d lev : Nat} {x : Int} {τ : St} (hl : lev < 40) : gX5_own 32 (d + 2) 2 [2, 0, x, (lev : Int)] τ = fX5_runBody (gX5_own 32 d) 32 1 (-1) x ((lev + 1 : Nat) : Int) τ := by
  rw [g_run, FU_l, r_miss (A := 0) (by decide) (by decide) (by decide) (by decide) (by decide) (by decide) (by decide), r_hit (B := 1) (A := -1) (by decide) (by decide) (by decide) (by decide) (by decide) (by decide) (by decide) (by decide) (by omega), lev_s hl, g_body]
theorem rb_2_1 {d lev : Nat} {x : Int} {τ : St} (hl : lev < 40) : gX5_own 32 (d + 2) 2 [2, 1, x, (lev : Int)] τ = fX5_runBody (gX5_own 32 d) 32 30 (0) x ((lev + 1 : Nat) : Int) τ := by
  rw [g_run, FU_l, r_hit (B := 30) (A := 0) (by decide) (by decide) (by decide) (by decide) (by decide) (by decide) (by decide) (by decide) (by omega), lev_s hl, g_body]
theorem rb_2_2 {d lev : Nat} {x : Int} {τ : St} (hl : lev < 40) : gX5_own 32 (d + 2) 2 [2, 2, x, (lev : Int)] τ = fX5_runBody (gX5_own 32 d) 32 11 (-1) x ((lev + 1 : Nat) : Int) τ := by
  rw [g_run, FU_l, r_miss (A := 0) (by decide) (by decide) (by decide) (by decide) (by decide) (by decide) (by decide), r_hit (B := 11) (A := -1) (by decide) (by decide) (by decide) (by decide) (by decide) (by decide) (by decide) (by decide) (by omega), lev_s hl, g_body]
theorem rb_2_3 {d lev : Nat} {x : Int} {τ : St} (hl : lev < 40) : gX5_own 32 (d + 2) 2 [2, 3, x, (lev : Int)] τ = fX5_runBody (gX5_own 32 d) 32 2 (-1) x ((lev + 1 : Nat) : Int) τ := by
  rw [g_run, FU_l, r_miss (A := 0) (by decide) (by decide) (by decide) (by decide) (by decide) (by decide) (by decide), r_hit (B := 2) (A := -1) (by decide) (by decide) (by decide) (by decide) (by decide) (by decide) (by decide) (by decide) (by omega), lev_s hl, g_body]
theorem rb_3_0 {d lev : Nat} {x : Int} {τ : St} (hl : lev < 40) : gX5_own 32 (d + 2) 2 [3, 0, x, (lev : Int)] τ = fX5_runBody (gX5_own 32 d) 32 1 (-1) x ((lev + 1 : Nat) : Int) τ := by
  rw [g_run, FU_l, r_miss (A := 2) (by decide) (by decide) (by decide) (by decide) (by decide) (by decide) (by decide), r_miss (A := 0) (by decide) (by decide) (by decide) (by decide) (by decide) (by decide) (by decide), r_hit (B := 1) (A := -1) (by decide) (by decide) (by decide) (by decide) (by decide) (by decide) (by decide) (by decide) (by omega), lev_s hl, g_body]
theorem rb_3_1 {d lev : Nat} {x : Int} {τ : St} (hl : lev < 40) : gX5_own 32 (d + 2) 2 [3, 1, x, (lev : Int)] τ = fX5_runBody (gX5_own 32 d) 32 41 (2) x ((lev + 1 : Nat) : Int) τ := by
  rw [g_run, FU_l, r_hit (B := 41) (A := 2) (by decide) (by decide) (by decide) (by decide) (by decide) (by decide) (by decide) (by decide) (by omega), lev_s hl, g_body]
theorem rb_3_2 {d lev : Nat} {x : Int} {τ : St} (hl : lev < 40) : gX5_own 32 (d + 2) 2 [3, 2, x, (lev : Int)] τ = fX5_runBody (gX5_own 32 d) 32 40 (2) x ((lev + 1 : Nat) : Int) τ := by
  rw [g_run, FU_l, r_hit (B := 40) (A := 2) (by decide) (by decide) (by decide) (by decide) (by decide) (by decide) (by decide) (by decide) (by omega), lev_s hl, g_body]
theorem rb_3_3 {d lev : Nat} {x : Int} {τ : St} (hl : lev < 40) : gX5_own 32 (d + 2) 2 [3, 3, x, (lev : Int)] τ = fX5_runBody (gX5_own 32 d) 32 2 (-1) x ((lev + 1 : Nat) : Int) τ := by
  rw [g_run, FU_l, r_miss (A := 2) (by decide) (by decide) (by decide) (by decide) (by decide) (by decide) (by decide), r_miss (A := 0) (by decide) (by decide) (by decide) (by decide) (by decide) (by decide) (by decide), r_hit (B := 2) (A := -1) (by decide) (by decide) (by decide) (by decide) (by decide) (by decide) (by decide) (by decide) (by omega), lev_s hl, g_body]
theorem rb_4_0 {d lev : Nat} {x : Int} {τ : St} (hl : lev < 40) : gX5_own 32 (d + 2) 2 [4, 0, x, (lev : Int)] τ = fX5_runBody (gX5_own 32 d) 32 20 (0) x ((lev + 1 : Nat) : Int) τ := by
  rw [g_run, FU_l, r_miss (A := 1) (by decide) (by decide) (by decide) (by decide) (by decide) (by decide) (by decide), r_hit (B := 20) (A := 0) (by decide) (by decide) (by decide) (by decide) (by decide) (by decide) (by decide) (by decide) (by omega), lev_s hl, g_body]
theorem rb_4_1 {d lev : Nat} {x : Int} {τ : St} (hl : lev < 40) : gX5_own 32 (d + 2) 2 [4, 1, x, (lev : Int)] τ = fX5_runBody (gX5_own 32 d) 32 10 (-1) x ((lev + 1 : Nat) : Int) τ := by
  rw [g_run, FU_l, r_miss (A := 1) (by decide) (by decide) (by decide) (by decide) (by decide) (by decide) (by decide), r_miss (A := 0) (by decide) (by decide) (by decide) (by decide) (by decide) (by decide) (by decide), r_hit (B := 10) (A := -1) (by decide) (by decide) (by decide) (by decide) (by decide) (by decide) (by decide) (by decide) (by omega), lev_s hl, g_body]
theorem rb_4_2 {d lev : Nat} {x : Int} {τ : St} (hl : lev < 40) : gX5_own 32 (d + 2) 2 [4, 2, x, (lev : Int)] τ = fX5_runBody (gX5_own 32 d) 32 50 (1) x ((lev + 1 : Nat) : Int) τ := by
  rw [g_run, FU_l, r_hit (B := 50) (A := 1) (by decide) (by decide) (by decide) (by decide) (by decide) (by decide) (by decide) (by decide) (by omega), lev_s hl, g_body]
theorem rb_4_3 {d lev : Nat} {x : Int} {τ : St} (hl : lev < 40) : gX5_own 32 (d + 2) 2 [4, 3, x, (lev : Int)] τ = fX5_runBody (gX5_own 32 d) 32 2 (-1) x ((lev + 1 : Nat) : Int) τ := by
  rw [g_run, FU_l, r_miss (A := 1) (by decide) (by decide) (by decide) (by decide) (by decide) (by decide) (by decide), r_miss (A := 0) (by decide) (by decide) (by decide) (by decide) (by decide) (by decide) (by decide), r_hit (B := 2) (A := -1) (by decide) (by decide) (by decide) (by decide) (by decide) (by decide) (by decide) (by decide) (by omega), lev_s hl, g_body]
theorem rb_5_0 {d lev : Nat} {x : Int} {τ : St} (hl : lev < 40) : gX5_own 32 (d + 2) 2 [5, 0, x, (lev : Int)] τ = fX5_runBody (gX5_own 32 d) 32 1 (-1) x ((lev + 1 : Nat) : Int) τ := by
  rw [g_run, FU_l, r_miss (A := 3) (by decide) (by decide) (by decide) (by decide) (by decide) (by decide) (by decide), r_miss (A := 2) (by decide) (by decide) (by decide) (by decide) (by decide) (by decide) (by decide), r_miss (A := 0) (by decide) (by decide) (by decide) (by decide) (by decide) (by decide) (by decide), r_hit (B := 1) (A := -1) (by decide) (by decide) (by decide) (by decide) (by decide) (by decide) (by decide) (by decide) (by omega), lev_s hl, g_body]
theorem rb_5_1 {d lev : Nat} {x : Int} {τ : St} (hl : lev < 40) : gX5_own 32 (d + 2) 2 [5, 1, x, (lev : Int)] τ = fX5_runBody (gX5_own 32 d) 32 41 (2) x ((lev + 1 : Nat) : Int) τ := by
  rw [g_run, FU_l, r_miss (A := 3) (by decide) (by decide) (by decide) (by decide) (by decide) (by decide) (by decide), r_hit (B := 41) (A := 2) (by decide) (by decide) (by decide) (by decide) (by decide) (by decide) (by decide) (by decide) (by omega), lev_s hl, g_body]
theorem rb_5_2 {d lev : Nat} {x : Int} {τ : St} (hl : lev < 40) : gX5_own 32 (d + 2) 2 [5, 2, x, (lev : Int)] τ = fX5_runBody (gX5_own 32 d) 32 40 (2) x ((lev + 1 : Nat) : Int) τ := by
  rw [g_run, FU_l, r_miss (A := 3) (by decide) (by decide) (by decide) (by decide) (by decide) (by decide) (by decide), r_hit (B := 40) (A := 2) (by decide) (by decide) (by decide) (by decide) (by decide) (by decide) (by decide) (by decide) (by omega), lev_s hl, g_body]
theorem rb_5_3 {d lev : Nat} {x : Int} {τ : St} (hl : lev < 40) : gX5_own 32 (d + 2) 2 [5, 3, x, (lev : Int)] τ = fX5_runBody (gX5_own 32 d) 32 60 (3) x ((lev + 1 : Nat) : Int) τ := by
  rw [g_run, FU_l, r_hit (B := 60) (A := 3) (by decide) (by decide) (by decide) (by decide) (by decide) (by decide) (by decide) (by decide) (by omega), lev_s hl, g_body]
theorem rb_6_0 {d lev : Nat} {x : Int} {τ : St} (hl : lev < 40) : gX5_own 32 (d + 2) 2 [6, 0, x, (lev : Int)] τ = fX5_runBody (gX5_own 32 d) 32 70 (0) x ((lev + 1 : Nat) : Int) τ := by
  rw [g_run, FU_l, r_hit (B := 70) (A := 0) (by decide) (by decide) (by decide) (by decide) (by decide) (by decide) (by decide) (by decide) (by omega), lev_s hl, g_body]
theorem rb_6_1 {d lev : Nat} {x : Int} {τ : St} (hl : lev < 40) : gX5_own 32 (d + 2) 2 [6, 1, x, (lev : Int)] τ = fX5_runBody (gX5_own 32 d) 32 10 (-1) x ((lev + 1 : Nat) : Int) τ := by
  rw [g_run, FU_l, r_miss (A := 0) (by decide) (by decide) (by decide) (by decide) (by decide) (by decide) (by decide), r_hit (B := 10) (A := -1) (by decide) (by decide) (by decide) (by decide) (by decide) (by decide) (by decide) (by decide) (by omega), lev_s hl, g_body]
theorem rb_6_2 {d lev : Nat} {x : Int} {τ : St} (hl : lev < 40) : gX5_own 32 (d + 2) 2 [6, 2, x, (lev : Int)] τ = fX5_runBody (gX5_own 32 d) 32 11 (-1) x ((lev + 1 : Nat) : Int) τ := by
  rw [g_run, FU_l, r_miss (A := 0) (by decide) (by decide) (by decide) (by decide) (by decide) (by decide) (by decide), r_hit (B := 11) (A := -1) (by decide) (by decide) (by decide) (by decide) (by decide) (by decide) (by decide) (by decide) (by omega), lev_s hl, g_body]
theorem rb_6_3 {d lev : Nat} {x : Int} {τ : St} (hl : lev < 40) : gX5_own 32 (d + 2) 2 [6, 3, x, (lev : Int)] τ = fX5_runBody (gX5_own 32 d) 32 2 (-1) x ((lev + 1 : Nat) : Int) τ := by
  rw [g_run, FU_l, r_miss (A := 0) (by decide) (by decide) (by decide) (by decide) (by decide) (by decide) (by decide), r_hit (B := 2) (A := -1) (by decide) (by decide) (by decide) (by decide) (by decide) (by decide) (by decide) (by decide) (by omega), lev_s hl, g_body]
theorem rb_7_0 {d lev : Nat} {x : Int} {τ : St} (hl : lev < 40) : gX5_own 32 (d + 2) 2 [7, 0, x, (lev : Int)] τ = fX5_runBody (gX5_own 32 d) 32 20 (0) x ((lev + 1 : Nat) : Int) τ := by
  rw [g_run, FU_l, r_miss (A := 4) (by decide) (by decide) (by decide) (by decide) (by decide) (by decide) (by decide), r_miss (A := 1) (by decide) (by decide) (by decide) (by decide) (by decide) (by decide) (by decide), r_hit (B := 20) (A := 0) (by decide) (by decide) (by decide) (by decide) (by decide) (by decide) (by decide) (by decide) (by omega), lev_s hl, g_body]
theorem rb_7_1 {d lev : Nat} {x : Int} {τ : St} (hl : lev < 40) : gX5_own 32 (d + 2) 2 [7, 1, x, (lev : Int)] τ = fX5_runBody (gX5_own 32 d) 32 80 (4) x ((lev + 1 : Nat) : Int) τ := by
  rw [g_run, FU_l, r_hit (B := 80) (A := 4) (by decide) (by decide) (by decide) (by decide) (by decide) (by decide) (by decide) (by decide) (by omega), lev_s hl, g_body]
theorem rb_7_2 {d lev : Nat} {x : Int} {τ : St} (hl : lev < 40) : gX5_own 32 (d + 2) 2 [7, 2, x, (lev : Int)] τ = fX5_runBody (gX5_own 32 d) 32 50 (1) x ((lev + 1 : Nat) : Int) τ := by
  rw [g_run, FU_l, r_miss (A := 4) (by decide) (by decide) (by decide) (by decide) (by decide) (by decide) (by decide), r_hit (B := 50) (A := 1) (by decide) (by decide) (by decide) (by decide) (by decide) (by decide) (by decide) (by decide) (by omega), lev_s hl, g_body]
theorem rb_7_3 {d lev : Nat} {x : Int} {τ : St} (hl : lev < 40) : gX5_own 32 (d + 2) 2 [7, 3, x, (lev : Int)] τ = fX5_runBody (gX5_own 32 d) 32 81 (4) x ((lev + 1 : Nat) : Int) τ := by
  rw [g_run, FU_l, r_hit (B := 81) (A := 4) (by decide) (by decide) (by decide) (by decide) (by decide) (by decide) (by decide) (by decide) (by omega), lev_s hl, g_body]
theorem bd_1 {cl : Nat → List Int → St → Option (Int × St)} {A x l K : Int} {b r : Nat} {τ : St} (hS : SC b K r τ) (hr : r < 24) : fX5_runBody cl 32 1 A x l τ = (some (i_add x (b : Int), pC [1] τ)) := by
  rw [body_p hS hr]
  unfold fX5_runBody_19
  simp only [body_q]
  rw [if_pos trivial]
  have e4 : (pC [1] τ) 32 4 = (b : Int) := (hS.push (x := 1) (by omega)).1
  rw [e4]
theorem bd_2 {cl : Nat → List Int → St → Option (Int × St)} {A x l K : Int} {b r : Nat} {τ : St} (hS : SC b K r τ) (hr : r < 24) : fX5_runBody cl 32 2 A x l τ = (Option.bind (cl 0 [1, x, l] (pC [2] τ)) fun q2 => Option.bind (cl 0 [2, 1, l] q2.2) fun q3 => some (i_sub q2.1 q3.1, q3.2)) := by
  rw [body_p hS hr]
  unfold fX5_runBody_19
  simp only [body_q]
  rw [if_neg (by decide), if_pos trivial]
theorem bd_10 {cl : Nat → List Int → St → Option (Int × St)} {A x l K : Int} {b r : Nat} {τ : St} (hS : SC b K r τ) (hr : r < 24) : fX5_runBody cl 32 10 A x l τ = (Option.bind (cl 0 [0, x, l] (pC [10] τ)) fun q5 => some (i_mul q5.1 2, q5.2)) := by
  rw [body_p hS hr]
  unfold fX5_runBody_19
  simp only [body_q]
  rw [if_neg (by decide), if_neg (by decide), if_pos trivial]
theorem bd_11 {cl : Nat → List Int → St → Option (Int × St)} {A x l K : Int} {b r : Nat} {τ : St} (hS : SC b K r τ) (hr : r < 24) : fX5_runBody cl 32 11 A x l τ = (some (i_xor x (b : Int), pC [11] τ)) := by
  rw [body_p hS hr]
  unfold fX5_runBody_19
  simp only [body_q]
  rw [if_neg (by decide), if_neg (by decide), if_neg (by decide), if_pos trivial]
  have e4 : (pC [11] τ) 32 4 = (b : Int) := (hS.push (x := 11) (by omega)).1
  rw [e4]
theorem bd_20 {cl : Nat → List Int → St → Option (Int × St)} {A x l K : Int} {b r : Nat} {τ : St} (hS : SC b K r τ) (hr : r < 24) : fX5_runBody cl 32 20 A x l τ = (Option.bind (cl 2 [A, 0, x, l] (pC [20] τ)) fun q8 => some (i_add q8.1 3, q8.2)) := by
  rw [body_p hS hr]
  unfold fX5_runBody_19
  simp only [body_q]
  rw [if_neg (by decide), if_neg (by decide), if_neg (by decide), if_neg (by decide), if_pos trivial]
theorem bd_30 {cl : Nat → List Int → St → Option (Int × St)} {A x l K : Int} {b r : Nat} {τ : St} (hS : SC b K r τ) (hr : r < 24) : fX5_runBody cl 32 30 A x l τ = (Option.bind (cl 2 [A, 1, x, l] (pC [30] τ)) fun q10 => some (i_neg q10.1, q10.2)) := by
  rw [body_p hS hr]
  unfold fX5_runBody_19
  simp only [body_q]
  rw [if_neg (by decide), if_neg (by decide), if_neg (by decide), if_neg (by decide), if_neg (by decide), if_pos trivial]
theorem bd_40 {cl : Nat → List Int → St → Option (Int × St)} {A x l K : Int} {b r : Nat} {τ : St} (hS : SC b K r τ) (hr : r < 24) : fX5_runBody cl 32 40 A x l τ = (Option.bind (cl 2 [A, 2, x, l] (pC [40] τ)) fun q12 => some (i_mul q12.1 3, q12.2)) := by
  rw [body_p hS hr]
  unfold fX5_runBody_19
  simp only [body_q]
  rw [if_neg (by decide), if_neg (by decide), if_neg (by decide), if_neg (by decide), if_neg (by decide), if_neg (by decide), if_pos trivial]
theorem bd_41 {cl : Nat → List Int → St → Option (Int × St)} {A x l K : Int} {b r : Nat} {τ : St} (hS : SC b K r τ) (hr : r < 24) : fX5_runBody cl 32 41 A x l τ = (Option.bind (cl 2 [A, 1, i_add x 1, l] (pC [41] τ)) fun q14 => some (q14.1, q14.2)) := by
  rw [body_p hS hr]
  unfold fX5_runBody_19
  simp only [body_q]
  rw [if_neg (by decide), if_neg (by decide), if_neg (by decide), if_neg (by decide), if_neg (by decide), if_neg (by decide), if_neg (by decide), if_pos trivial]
theorem bd_50 {cl : Nat → List Int → St → Option (Int × St)} {A x l K : Int} {b r : Nat} {τ : St} (hS : SC b K r τ) (hr : r < 24) : fX5_runBody cl 32 50 A x l τ = (Option.bind (cl 2 [A, 2, x, l] (pC [50] τ)) fun q16 => Option.bind (cl 0 [0, 2, l] q16.2) fun q17 => some (i_sub q16.1 q17.1, q17.2)) := by
  rw [body_p hS hr]
  unfold fX5_runBody_19
  simp only [body_q]
  rw [if_neg (by decide), if_neg (by decide), if_neg (by decide), if_neg (by decide), if_neg (by decide), if_neg (by decide), if_neg (by decide), if_neg (by decide), if_pos trivial]
theorem bd_60 {cl : Nat → List Int → St → Option (Int × St)} {A x l K : Int} {b r : Nat} {τ : St} (hS : SC b K r τ) (hr : r < 24) : fX5_runBody cl 32 60 A x l τ = (Option.bind (cl 2 [A, 3, x, l] (pC [60] τ)) fun q19 => some (i_xor q19.1 5, q19.2)) := by
  rw [body_p hS hr]
  unfold fX5_runBody_19
  simp only [body_q]
  rw [if_neg (by decide), if_neg (by decide), if_neg (by decide), if_neg (by decide), if_neg (by decide), if_neg (by decide), if_neg (by decide), if_neg (by decide), if_neg (by decide), if_pos trivial]
theorem bd_70 {cl : Nat → List Int → St → Option (Int × St)} {A x l K : Int} {b r : Nat} {τ : St} (hS : SC b K r τ) (hr : r < 24) : fX5_runBody cl 32 70 A x l τ = (Option.bind (cl 2 [A, 0, x, l] (pC [70] τ)) fun q21 => some (i_mul q21.1 2, q21.2)) := by
  rw [body_p hS hr]
  unfold fX5_runBody_19
  simp only [body_q]
  rw [if_neg (by decide), if_neg (by decide), if_neg (by decide), if_neg (by decide), if_neg (by decide), if_neg (by decide), if_neg (by decide), if_neg (by decide), if_neg (by decide), if_neg (by decide), if_pos trivial]
theorem bd_80 {cl : Nat → List Int → St → Option (Int × St)} {A x l K : Int} {b r : Nat} {τ : St} (hS : SC b K r τ) (hr : r < 24) : fX5_runBody cl 32 80 A x l τ = (Option.bind (cl 2 [A, 1, x, l] (pC [80] τ)) fun q23 => Option.bind (cl 0 [2, 2, l] q23.2) fun q24 => some (i_add q23.1 q24.1, q24.2)) := by
  rw [body_p hS hr]
  unfold fX5_runBody_19
  simp only [body_q]
  rw [if_neg (by decide), if_neg (by decide), if_neg (by decide), if_neg (by decide), if_neg (by decide), if_neg (by decide), if_neg (by decide), if_neg (by decide), if_neg (by decide), if_neg (by decide), if_neg (by decide), if_pos trivial]
theorem bd_81 {cl : Nat → List Int → St → Option (Int × St)} {A x l K : Int} {b r : Nat} {τ : St} (hS : SC b K r τ) (hr : r < 24) : fX5_runBody cl 32 81 A x l τ = (Option.bind (cl 2 [A, 3, x, l] (pC [81] τ)) fun q26 => some (i_sub q26.1 1, q26.2)) := by
  rw [body_p hS hr]
  unfold fX5_runBody_19
  simp only [body_q]
  rw [if_neg (by decide), if_neg (by decide), if_neg (by decide), if_neg (by decide), if_neg (by decide), if_neg (by decide), if_neg (by decide), if_neg (by decide), if_neg (by decide), if_neg (by decide), if_neg (by decide), if_neg (by decide), if_pos trivial]
