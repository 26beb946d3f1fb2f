/-! What a whole law gives: both workings alike. -/
theorem gEnd {τ : St} {st len a F : Nat} {c1 c2 c3 c4 c5 c6 w : Int} {f : Nat → Int} (hst : st = 8 ∨ st = 9) (h43 : τ 4 3 = (st : Int)) (h48 : τ 4 8 = (len : Int)) (hlen : len ≤ 128) (ha : a < len) (r0 : τ st a = w) (hw : w = -59) : fX4_gives_74 4 c1 c2 c3 c4 c5 c6 (F + 1) ((1 : Nat) : Int) (a : Int) (upc τ 7 f) = some (f 0, upc τ 7 f) := by
  have hA : isA 1 st = true ∧ LN st = 128 := by
    rcases hst with rfl | rfl
    · exact ⟨by decide +kernel, rfl⟩
    · exact ⟨by decide +kernel, rfl⟩
  have g43 : upc τ 7 f 4 3 = (st : Int) := by rw [upc_ne (by decide)]; exact h43
  have g48 : upc τ 7 f 4 8 = (len : Int) := by rw [upc_ne (by decide)]; exact h48
  have gst : upc τ 7 f st a = w := by rw [upc_ne (by omega)]; exact r0
  have g7 : ∀ j : Nat, upc τ 7 f 7 j = f j := fun j => by rw [upc_e]
  rw [fX4_gives_74.eq_2]
  simp only [rfS, lnS, g43, g48, Int.toNat_natCast, hA.2, gst, neg6]
  clear r0 gst g43 g48 h43 h48
  rw [if_neg (by omega), if_pos hA.1, if_pos ⟨by omega, by omega⟩, if_pos (by omega), if_pos (by omega), sub_n1 (h := 1) (by omega) (by omega), if_pos ⟨by omega, by omega⟩, if_pos hw, g7]
  rfl
theorem skip_t {a t : Nat} (h1 : a < t) (h2 : t < 1000) : i_add (m_max (a : Int) (i_sub (i_sub (-1000) (-1000 - (t : Int))) 1)) 1 = (t : Int) := by
  have e1 : i_sub (-1000) (-1000 - (t : Int)) = (t : Int) := by
    rw [isb (ok_in (by omega) (by omega))]
    omega
  have e2 : m_max (a : Int) ((t - 1 : Nat) : Int) = ((t - 1 : Nat) : Int) := by
    unfold m_max
    split
    · rfl
    · omega
  rw [e1, sub_n1 (h := t) (by omega) h2, e2, ia_n (by omega), show t - 1 + 1 = t by omega]
theorem gSkip {τ : St} {st len a F t : Nat} {c1 c2 c3 c4 c5 c6 w : Int} {f : Nat → Int} (hst : st = 8 ∨ st = 9) (h43 : τ 4 3 = (st : Int)) (h48 : τ 4 8 = (len : Int)) (hlen : len ≤ 128) (ha : a < len) (r0 : τ st a = w) (hw : w = -1000 - (t : Int)) (hat : a < t) (ht : t < 1000) : fX4_gives_74 4 c1 c2 c3 c4 c5 c6 (F + 1) ((1 : Nat) : Int) (a : Int) (upc τ 7 f) = if f 0 = 0 then fX4_gives_74 4 c1 c2 c3 c4 c5 c6 F ((0 : Nat) : Int) (t : Int) (upc τ 7 f) else fX4_gives_74 4 c1 c2 c3 c4 c5 c6 F ((0 : Nat) : Int) ((a + 1 : Nat) : Int) (upc τ 7 f) := by
  have hA : isA 1 st = true ∧ LN st = 128 := by
    rcases hst with rfl | rfl
    · exact ⟨by decide +kernel, rfl⟩
    · exact ⟨by decide +kernel, rfl⟩
  have g43 : upc τ 7 f 4 3 = (st : Int) := by rw [upc_ne (by decide)]; exact h43
  have g48 : upc τ 7 f 4 8 = (len : Int) := by rw [upc_ne (by decide)]; exact h48
  have gst : upc τ 7 f st a = w := by rw [upc_ne (by omega)]; exact r0
  have g7 : ∀ j : Nat, upc τ 7 f 7 j = f j := fun j => by rw [upc_e]
  rw [fX4_gives_74.eq_2]
  unfold fX4_gives_207 fX4_gives_298
  simp only [rfS, lnS, g43, g48, Int.toNat_natCast, hA.2, gst, neg6]
  clear r0 gst g43 g48 h43 h48
  rw [if_neg (by omega), if_pos hA.1, if_pos ⟨by omega, by omega⟩, if_pos (by omega), if_pos (by omega), sub_n1 (h := 1) (by omega) (by omega), if_pos ⟨by omega, by omega⟩, if_neg (by omega), if_neg (by omega), g7, hw, skip_t hat ht, dec_n (h := 1) (by omega) (by omega), ia_n (r := a) (by omega)]
  rfl
theorem getD_tc {L : List Int} {j : Nat} (h : j < L.length) : (L.map tc).getD j 0 = tc (L.getD j 0) := by
  simp [List.getD, h]
theorem we_run {L : List Int} (h : WE L) : run 64 L 0 = some 1 := h 64 0 (by omega)
theorem we_ne {L : List Int} (h : WE L) : 0 < L.length := by
  cases L with
  | nil =>
    have := we_run h
    unfold run at this
    exact absurd (Option.some.inj this) (by decide)
  | cons a L => exact Nat.succ_pos _
theorem gC {τ : St} {st len : Nat} {nm : Nat → Int} {c1 c2 c3 c4 c5 c6 : Int} (hst : st = 8 ∨ st = 9) (h43 : τ 4 3 = (st : Int)) (h48 : τ 4 8 = (len : Int)) (hlen : len ≤ 128) (hnm : ∀ j : Nat, j < 6 → τ 6 j = nm j) : ∀ (ls : List Ln) (k F : Nat) (f : Nat → Int), (∀ l : Ln, l ∈ ls → WL l) → k + (clLs k ls).length = len → (∀ j : Nat, j < (clLs k ls).length → τ st (k + j) = (clLs k ls).getD j 0) → (clLs k ls).length < F → ∃ f' : Nat → Int, fX4_gives_74 4 c1 c2 c3 c4 c5 c6 F ((0 : Nat) : Int) (k : Int) (upc τ 7 f) = some (lawE nm ls, upc τ 7 f')
  | [], k, F, f, _, hk, _, hF => by
    have hk' : k = len := hk
    obtain ⟨F1, rfl⟩ : ∃ F1, F = F1 + 1 := ⟨F - 1, by omega⟩
    refine ⟨f, ?_⟩
    rw [fX4_gives_74.eq_2]
    have g48 : upc τ 7 f 4 8 = (len : Int) := by rw [upc_ne (by decide)]; exact h48
    rw [g48, if_pos (by omega)]
    rfl
  | (L1, none) :: r, k, F, f, hw, hk, hrow, hF => by
    have w1 : WE L1 := (hw (L1, none) (List.mem_cons_self ..)).1
    have el : clLs k ((L1, none) :: r) = L1.map tc ++ [-59] ++ clLs (k + (clL k (L1, none)).length) r := rfl
    generalize clLs (k + (clL k (L1, none)).length) r = R at el
    rw [el] at hk hrow hF
    have ll : (L1.map tc ++ [-59] ++ R).length = L1.length + 1 + R.length := by
      rw [List.length_append, List.length_append, List.length_map]
      rfl
    have l1 : (L1.map tc ++ [(-59 : Int)]).length = L1.length + 1 := by
      rw [List.length_append, List.length_map]
      rfl
    have lm : (L1.map tc).length = L1.length := List.length_map ..
    rw [ll] at hk hrow hF
    have r1 : ∀ j : Nat, j < L1.length → τ st (k + j) = tc (L1.getD j 0) := fun j hj => by
      rw [hrow j (by omega), getD_app2, if_pos (by omega), getD_app2, if_pos (by omega), getD_tc hj]
    have r2 : τ st (k + L1.length) = -59 := by
      rw [hrow _ (by omega), getD_app2, if_pos (by omega), getD_app, if_neg (by omega), if_pos (by omega)]
    obtain ⟨F1, rfl⟩ : ∃ F1, F = F1 + 1 + L1.length := ⟨F - 1 - L1.length, by omega⟩
    refine ⟨(ev nm L1 0 f).2, ?_⟩
    rw [gsegC hst h43 h48 hlen hnm L1 k 0 1 (F1 + 1) f (we_run w1) (by omega) r1 (by omega), gEnd hst h43 h48 hlen (by omega) r2 rfl, val_eq w1]
    rfl
  | (L1, some L2) :: r, k, F, f, hw, hk, hrow, hF => by
    have w0 := hw (L1, some L2) (List.mem_cons_self ..)
    have w1 : WE L1 := w0.1
    have w2 : WE L2 := w0.2 L2 rfl
    have el : clLs k ((L1, some L2) :: r) = L1.map tc ++ [-1000 - ((k + L1.length + L2.length + 2 : Nat) : Int)] ++ (L2.map tc ++ [-59]) ++ clLs (k + (clL k (L1, some L2)).length) r := rfl
    have ec : (clL k (L1, some L2)).length = L1.length + L2.length + 2 := by
      show (L1.map tc ++ [-1000 - ((k + L1.length + L2.length + 2 : Nat) : Int)] ++ (L2.map tc ++ [-59])).length = _
      rw [List.length_append, List.length_append, List.length_append, List.length_map, List.length_map, List.length_singleton, List.length_singleton]
      omega
    rw [ec] at el
    have ih := fun (F : Nat) (f : Nat → Int) => gC hst h43 h48 hlen hnm (c1 := c1) (c2 := c2) (c3 := c3) (c4 := c4) (c5 := c5) (c6 := c6) r (k + (L1.length + L2.length + 2)) F f (fun l hl => hw l (List.mem_cons_of_mem _ hl))
    generalize clLs (k + (L1.length + L2.length + 2)) r = R at el ih
    rw [el] at hk hrow hF
    generalize hwv : -1000 - ((k + L1.length + L2.length + 2 : Nat) : Int) = w at hk hrow hF
    have lm1 : (L1.map tc).length = L1.length := List.length_map ..
    have lm2 : (L2.map tc).length = L2.length := List.length_map ..
    have l1 : (L1.map tc ++ [w]).length = L1.length + 1 := by
      rw [List.length_append, List.length_map]
      rfl
    have l2 : (L2.map tc ++ [(-59 : Int)]).length = L2.length + 1 := by
      rw [List.length_append, List.length_map]
      rfl
    have l3 : (L1.map tc ++ [w] ++ (L2.map tc ++ [-59])).length = L1.length + L2.length + 2 := by
      rw [List.length_append, l1, l2]
      omega
    have ll : (L1.map tc ++ [w] ++ (L2.map tc ++ [-59]) ++ R).length = L1.length + L2.length + 2 + R.length := by
      rw [List.length_append, l3]
    rw [ll] at hk hrow hF
    have r1 : ∀ j : Nat, j < L1.length → τ st (k + j) = tc (L1.getD j 0) := fun j hj => by
      rw [hrow j (by omega), getD_app2, if_pos (by omega), getD_app2, if_pos (by omega), getD_app2, if_pos (by omega), getD_tc hj]
    have r2 : τ st (k + L1.length) = w := by
      rw [hrow _ (by omega), getD_app2, if_pos (by omega), getD_app2, if_pos (by omega), getD_app, if_neg (by omega), if_pos (by omega)]
    have r3 : ∀ j : Nat, j < L2.length → τ st (k + L1.length + 1 + j) = tc (L2.getD j 0) := fun j hj => by
      rw [show k + L1.length + 1 + j = k + (L1.length + 1 + j) by omega, hrow _ (by omega), getD_app2, if_pos (by omega), getD_app2, if_neg (by omega), l1, show L1.length + 1 + j - (L1.length + 1) = j by omega, getD_app2, if_pos (by omega), getD_tc hj]
    have r4 : τ st (k + L1.length + 1 + L2.length) = -59 := by
      rw [show k + L1.length + 1 + L2.length = k + (L1.length + 1 + L2.length) by omega, hrow _ (by omega), getD_app2, if_pos (by omega), getD_app2, if_neg (by omega), l1, show L1.length + 1 + L2.length - (L1.length + 1) = L2.length by omega, getD_app, if_neg (by omega), if_pos (by omega)]
    have r5 : ∀ j : Nat, j < R.length → τ st (k + (L1.length + L2.length + 2) + j) = R.getD j 0 := fun j hj => by
      rw [show k + (L1.length + L2.length + 2) + j = k + (L1.length + L2.length + 2 + j) by omega, hrow _ (by omega), getD_app2, if_neg (by omega), l3, show L1.length + L2.length + 2 + j - (L1.length + L2.length + 2) = j by omega]
    obtain ⟨F1, rfl⟩ : ∃ F1, F = F1 + 1 + L2.length + 1 + L1.length := ⟨F - 2 - L1.length - L2.length, by omega⟩
    have eE : lawE nm ((L1, some L2) :: r) = if val nm L1 = 0 then lawE nm r else val nm L2 := rfl
    rw [gsegC hst h43 h48 hlen hnm L1 k 0 1 (F1 + 1 + L2.length + 1) f (we_run w1) (by omega) r1 (by omega), gSkip hst h43 h48 hlen (by omega) r2 (t := k + L1.length + L2.length + 2) hwv.symm (by omega) (by omega), val_eq w1, eE]
    by_cases y : val nm L1 = 0
    · rw [if_pos y, if_pos y, show k + L1.length + L2.length + 2 = k + (L1.length + L2.length + 2) by omega]
      exact ih _ _ (by omega) r5 (by omega)
    · rw [if_neg y, if_neg y]
      refine ⟨(ev nm L2 0 (ev nm L1 0 f).2).2, ?_⟩
      rw [gsegC hst h43 h48 hlen hnm L2 (k + L1.length + 1) 0 1 (F1 + 1) _ (we_run w2) (by omega) r3 (by omega), gEnd hst h43 h48 hlen (by omega) r4 rfl, val_eq w2]
