/-! The law: both readers alike, and what they keep. -/
theorem c_start {dr : Nat} {σ : St} : up (up σ 4 6 0) 4 7 0 = clS dr σ 0 [] := by
  funext a b
  rw [up_get, up_get]
  unfold clS
  by_cases q7 : a = 4 ∧ b = 7
  · rw [if_pos q7, if_neg (by omega), if_pos q7]
    rfl
  · rw [if_neg q7]
    by_cases q6 : a = 4 ∧ b = 6
    · rw [if_pos q6, if_pos q6]
      rfl
    · rw [if_neg q6, if_neg q6, if_neg q7, if_neg (fun z => absurd z.2 (Nat.not_lt_zero _))]
theorem m_start {τ : St} : up (up (up (up τ 49 15 0) 49 16 0) 49 17 0) 49 18 0 = moS (up τ 49 18 0) 0 0 [] := by
  funext a b
  rw [up_get, up_get, up_get, up_get]
  unfold moS
  rw [up_get]
  by_cases q8 : a = 49 ∧ b = 18
  · rw [if_pos q8, if_neg (by omega), if_neg (by omega), if_neg (by omega), if_neg (by omega), if_pos q8]
  rw [if_neg q8, if_neg q8]
  by_cases q7 : a = 49 ∧ b = 17
  · rw [if_pos q7, if_neg (by omega), if_neg (by omega), if_pos q7]
    rfl
  rw [if_neg q7, if_neg q7]
  by_cases q6 : a = 49 ∧ b = 16
  · rw [if_pos q6, if_neg (by omega), if_pos q6]
    rfl
  rw [if_neg q6, if_neg q6]
  by_cases q5 : a = 49 ∧ b = 15
  · rw [if_pos q5, if_pos q5]
    rfl
  rw [if_neg q5, if_neg q5, if_neg (fun z => absurd z.2 (Nat.not_lt_zero _))]
theorem cl_get {dr p c j : Nat} {σ : St} {Y : List Int} (h : c ≠ dr ∧ (c ≠ 4 ∨ (j ≠ 6 ∧ j ≠ 7))) : clS dr σ p Y c j = σ c j := by
  unfold clS
  rw [if_neg (by omega), if_neg (by omega), if_neg (by omega)]
theorem law9 {σ : St} {dr st p : Nat} {ok : Int} {Y : List Int} (hok : ok = 0 ∨ ok = 1) (hs : σ 4 3 = (st : Int)) (hd : σ 4 4 = (dr : Int)) (h89 : (st = 8 ∧ dr = 9) ∨ (st = 9 ∧ dr = 8)) (e : fX4_readLines_2 4 FU ((0 : Nat) : Int) (clS dr σ 0 []) = some (ok, clS dr σ p Y)) : fX9_law 0 σ = if ok = 0 then some (i_sub (-100) (p : Int), up (clS dr σ p Y) 4 5 0) else some (1, up (up (up (up (up (clS dr σ p Y) 4 3 (dr : Int)) 4 4 (st : Int)) 4 8 (Y.length : Int)) 4 9 1) 4 5 0) := by
  have e' : fX4_readLines_2 4 FU 0 (clS dr σ 0 []) = some (ok, clS dr σ p Y) := e
  have e43 : clS dr σ p Y 4 3 = (st : Int) := by rw [cl_get (by omega)]; exact hs
  have e44 : clS dr σ p Y 4 4 = (dr : Int) := by rw [cl_get (by omega)]; exact hd
  have e46 : up (clS dr σ p Y) 4 5 0 4 6 = (p : Int) := by
    rw [up_get, if_neg (by omega)]
    exact if_pos ⟨rfl, rfl⟩
  have e47 : ∀ x y : Int, up (up (clS dr σ p Y) 4 3 x) 4 4 y 4 7 = (Y.length : Int) := fun x y => by
    rw [up_get, if_neg (by omega), up_get, if_neg (by omega)]
    unfold clS
    rw [if_neg (by omega), if_pos ⟨rfl, rfl⟩]
  have hA : isA 1 st = true ∧ isA 1 dr = true := by
    rcases h89 with ⟨rfl, rfl⟩ | ⟨rfl, rfl⟩
    · exact ⟨by decide +kernel, by decide +kernel⟩
    · exact ⟨by decide +kernel, by decide +kernel⟩
  unfold fX9_law fX4_fromTape fX4_readLines fX4_fromTape_50
  simp only [rfS]
  rw [c_start (dr := dr), e', Option.bind_some]
  dsimp only
  rcases hok with rfl | rfl
  · rw [if_pos rfl, if_pos rfl, if_pos rfl, e46, Option.bind_some]
  · rw [if_neg (show ¬ (1 : Int) = 0 by decide), if_neg (show ¬ (1 : Int) = 0 by decide)]
    simp only [e43, e44, Int.toNat_natCast, hA.1, hA.2, e47, if_true]
    rw [if_neg (show ¬ (1 : Int) = 0 by decide), Option.bind_some]
    rfl
theorem law151 {M : Nat} (hM : M ≤ 120) : ∀ (m i F : Nat) (ρ : St), i ≤ M → M - i ≤ m → m < F → ρ 49 17 = (M : Int) → ∃ ρ' : St, fX10_law_151 49 F (i : Int) ρ = some (1, ρ') ∧ (∀ c : Nat, c ≠ 59 → ρ' c = ρ c) ∧ (∀ j : Nat, i ≤ j → j < M → ρ' 59 j = ρ 63 j) ∧ ∀ j : Nat, j < i → ρ' 59 j = ρ 59 j
  | m, i, 0, ρ, _, _, hF, _ => absurd hF (Nat.not_lt_zero _)
  | m, i, F + 1, ρ, hi, hm, hF, h17 => by
    rw [fX10_law_151.eq_2]
    simp only [rfS, lnS, h17, Int.toNat_natCast]
    by_cases y : i = M
    · rw [if_pos (by omega)]
      exact ⟨ρ, rfl, fun c _ => rfl, fun j a b => absurd b (by omega), fun j _ => rfl⟩
    · rw [if_neg (by omega), if_pos ⟨by omega, by omega⟩, if_pos ⟨by omega, by omega⟩, ia_n (r := i) (by omega)]
      obtain ⟨ρ', f1, f2, f3, f4⟩ := law151 hM (m - 1) (i + 1) F (up ρ 59 i (ρ 63 i)) (by omega) (by omega) (by omega) (by rw [up_ne (by decide)]; exact h17)
      refine ⟨ρ', f1, fun c hc => ?_, fun j a b => ?_, fun j hj => ?_⟩
      · rw [f2 c hc, up_ne hc]
      · by_cases z : j = i
        · rw [f4 j (by omega), up_get, if_pos ⟨rfl, z⟩, z]
        · rw [f3 j (by omega) b, up_ne (by decide)]
      · rw [f4 j (by omega), up_get, if_neg (by omega)]
theorem law99 {N M : Nat} (hN : N ≤ 60) (hM : M ≤ 120) : ∀ (m i F : Nat) (ρ : St), i ≤ N → N - i ≤ m → m < F → ρ 49 10 = (N : Int) → ρ 49 17 = (M : Int) → ∃ ρ' : St, fX10_law_99 49 F (i : Int) ρ = some (1, ρ') ∧ (∀ c : Nat, c ≠ 56 ∧ c ≠ 57 ∧ c ≠ 58 ∧ c ≠ 59 → ρ' c = ρ c) ∧ (∀ j : Nat, i ≤ j → j < N → ρ' 56 j = ρ 60 j ∧ ρ' 57 j = ρ 61 j ∧ ρ' 58 j = ρ 62 j) ∧ (∀ j : Nat, j < i → ρ' 56 j = ρ 56 j ∧ ρ' 57 j = ρ 57 j ∧ ρ' 58 j = ρ 58 j) ∧ ∀ j : Nat, j < M → ρ' 59 j = ρ 63 j
  | m, i, 0, ρ, _, _, hF, _, _ => absurd hF (Nat.not_lt_zero _)
  | m, i, F + 1, ρ, hi, hm, hF, h10, h17 => by
    rw [fX10_law_99.eq_2]
    unfold fX10_law_143 fX10_law_146
    simp only [rfS, lnS, h10, Int.toNat_natCast]
    by_cases y : i = N
    · rw [if_pos (by omega)]
      obtain ⟨ρ', f1, f2, f3, f4⟩ := law151 hM M 0 FU ρ (Nat.zero_le _) (by omega) (by unfold FU; omega) h17
      exact ⟨ρ', f1, fun c hc => f2 c hc.2.2.2, fun j a b => absurd b (by omega), fun j _ => ⟨by rw [f2 56 (by decide)], by rw [f2 57 (by decide)], by rw [f2 58 (by decide)]⟩, fun j hj => f3 j (Nat.zero_le _) hj⟩
    · rw [if_neg (by omega)]
      repeat rw [if_pos (show inb (i : Int) 60 from ⟨by omega, by omega⟩)]
      repeat rw [if_pos (show inb (i : Int) 61 from ⟨by omega, by omega⟩)]
      rw [ia_n (r := i) (by omega)]
      have e1 : up ρ 56 i (ρ 60 i) 61 i = ρ 61 i := by rw [up_ne (by decide)]
      have e2 : up (up ρ 56 i (ρ 60 i)) 57 i (ρ 61 i) 62 i = ρ 62 i := by rw [up_ne (by decide), up_ne (by decide)]
      rw [e1, e2]
      obtain ⟨ρ', f1, f2, f3, f4, f5⟩ := law99 hN hM (m - 1) (i + 1) F (up (up (up ρ 56 i (ρ 60 i)) 57 i (ρ 61 i)) 58 i (ρ 62 i)) (by omega) (by omega) (by omega) (by rw [up_ne (by decide), up_ne (by decide), up_ne (by decide)]; exact h10) (by rw [up_ne (by decide), up_ne (by decide), up_ne (by decide)]; exact h17)
      refine ⟨ρ', f1, fun c hc => ?_, fun j a b => ?_, fun j hj => ?_, fun j hj => ?_⟩
      · rw [f2 c hc, up_ne hc.2.2.1, up_ne hc.2.1, up_ne hc.1]
      · by_cases z : j = i
        · obtain ⟨k1, k2, k3⟩ := f4 j (by omega)
          rw [k1, k2, k3]
          refine ⟨?_, ?_, ?_⟩
          · rw [up_ne (by decide), up_ne (by decide), up_get, if_pos ⟨rfl, z⟩, z]
          · rw [up_ne (by decide), up_get, if_pos ⟨rfl, z⟩, z]
          · rw [up_get, if_pos ⟨rfl, z⟩, z]
        · obtain ⟨k1, k2, k3⟩ := f3 j (by omega) b
          rw [k1, k2, k3]
          refine ⟨?_, ?_, ?_⟩ <;> rw [up_ne (by decide), up_ne (by decide), up_ne (by decide)]
      · obtain ⟨k1, k2, k3⟩ := f4 j (by omega)
        rw [k1, k2, k3]
        refine ⟨?_, ?_, ?_⟩ <;> rw [up_get, if_neg (by omega), up_get, if_neg (by omega), up_get, if_neg (by omega)]
      · rw [f5 j hj, up_ne (by decide), up_ne (by decide), up_ne (by decide)]
theorem RwsM.keep {τ τ' : St} : ∀ (ls : List Ln) (i c : Nat), RwsM τ i c ls → (∀ d j : Nat, (d = 60 ∨ d = 61 ∨ d = 62) → i ≤ j → j < i + ls.length → τ' d j = τ d j) → RwsM τ' i c ls
  | [], _, _, _, _ => True.intro
  | l :: r, i, c, h, s => ⟨RwM.keep h.1 (fun d hd => s d i hd (Nat.le_refl _) (by have : (l :: r).length = r.length + 1 := rfl; omega)), RwsM.keep r (i + 1) _ h.2 (fun d j hd h1 h2 => s d j hd (by omega) (by have : (l :: r).length = r.length + 1 := rfl; omega))⟩
theorem upc_self {τ : St} {c : Nat} : upc τ c (τ c) = τ := by
  funext a
  unfold upc
  split
  · rename_i q
    rw [q]
  · rfl
def nm6 (c l h v n m : Int) : Nat → Int := fun j => if j = 0 then c else if j = 1 then l else if j = 2 then h else if j = 3 then v else if j = 4 then n else m
theorem nm6_at {c l h v n m : Int} {g : Nat → Int} (h0 : g 0 = c) (h1 : g 1 = l) (h2 : g 2 = h) (h3 : g 3 = v) (h4 : g 4 = n) (h5 : g 5 = m) : ∀ j : Nat, j < 6 → g j = nm6 c l h v n m j := fun j hj => by
  have : j = 0 ∨ j = 1 ∨ j = 2 ∨ j = 3 ∨ j = 4 ∨ j = 5 := by omega
  rcases this with rfl | rfl | rfl | rfl | rfl | rfl
  · exact h0
  · exact h1
  · exact h2
  · exact h3
  · exact h4
  · exact h5
theorem gc_law {σ : St} {st len : Nat} {ls : List Ln} (hst : st = 8 ∨ st = 9) (h43 : σ 4 3 = (st : Int)) (h48 : σ 4 8 = (len : Int)) (h49 : σ 4 9 = 1) (hlen : len ≤ 128) (hw : ∀ l : Ln, l ∈ ls → WL l) (hl : (clLs 0 ls).length = len) (hrow : ∀ j : Nat, j < len → σ st j = (clLs 0 ls).getD j 0) : GC σ (fun c l h v n m => lawE (nm6 c l h v n m) ls) := by
  intro τ t3 t8 t9 tr c l h v n m
  rw [h43, Int.toNat_natCast] at tr
  rw [h43] at t3
  rw [h48] at t8
  rw [h49] at t9
  unfold fX4_gives
  simp only [rfS, lnS, t9]
  rw [if_neg (by decide), if_pos ⟨by omega, by omega⟩, if_pos ⟨by omega, by omega⟩, if_pos ⟨by omega, by omega⟩, if_pos ⟨by omega, by omega⟩, if_pos ⟨by omega, by omega⟩, if_pos ⟨by omega, by omega⟩]
  generalize hτ : up (up (up (up (up (up τ 6 (Int.toNat 0) c) 6 (Int.toNat 1) l) 6 (Int.toNat 2) h) 6 (Int.toNat 3) v) 6 (Int.toNat 4) n) 6 (Int.toNat 5) m = τ0
  have k0 : ∀ d : Nat, d ≠ 6 → τ0 d = τ d := fun d hd => by
    rw [← hτ, up_ne hd, up_ne hd, up_ne hd, up_ne hd, up_ne hd, up_ne hd]
  have hn : ∀ j : Nat, j < 6 → τ0 6 j = nm6 c l h v n m j := by
    rw [← hτ]
    exact nm6_at rfl rfl rfl rfl rfl rfl
  obtain ⟨f', e⟩ := gC (c1 := c) (c2 := l) (c3 := h) (c4 := v) (c5 := n) (c6 := m) (τ := τ0) hst (by rw [k0 4 (by decide)]; exact t3) (by rw [k0 4 (by decide)]; exact t8) hlen hn ls 0 FU (τ0 7) hw (by omega) (fun j hj => by rw [k0 st (by omega), tr, Nat.zero_add]; exact hrow j (by omega)) (by unfold FU; omega)
  rw [upc_self] at e
  refine ⟨upc τ0 7 f', e, fun d hd => ?_⟩
  rw [upc_ne hd.2, k0 d hd.1]
theorem gm_law {σ : St} {ls : List Ln} (hw : ∀ l : Ln, l ∈ ls → WL l) (hN : ls.length ≤ 60) (h10 : σ 49 10 = (ls.length : Int)) (hM : (moLs ls).length ≤ 120) (hR : RwsM (dn4 σ) 0 0 ls) (hrow : ∀ j : Nat, j < (moLs ls).length → σ 59 j = (moLs ls).getD j 0) : GM σ (fun c l h v n m => lawE (nm6 c l h v n m) ls) := by
  intro τ t10 t56 t57 t58 t59
  rw [h10] at t10
  unfold fX10_byLaw
  have hR' : RwsM (dn4 τ) 0 0 ls := RwsM.keep ls 0 0 hR (fun d j hd _ _ => by
    rcases hd with rfl | rfl | rfl
    · show τ 56 j = σ 56 j
      rw [t56]
    · show τ 57 j = σ 57 j
      rw [t57]
    · show τ 58 j = σ 58 j
      rw [t58])
  obtain ⟨f', e⟩ := gM (τ := τ) (nm := nm6 (τ 65 0) (τ 65 1) (τ 65 2) (τ 65 3) (τ 65 4) (τ 65 5)) (nm6_at rfl rfl rfl rfl rfl rfl) t10 hN ls 0 0 FU (τ 64) hw (by omega) hR' (fun j hj => by rw [t59, Nat.zero_add]; exact hrow j hj) (by omega) (by unfold FU; omega)
  rw [upc_self] at e
  refine ⟨upc τ 64 f', e, fun d hd => ?_⟩
  rw [upc_ne hd]
