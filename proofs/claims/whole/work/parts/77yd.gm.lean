theorem wM {τ : St} {nm : Nat → Int} (hnm : ∀ j : Nat, j < 6 → τ 65 j = nm j) {L : List Int} (hL : WE L) {a : Nat} (hrow : ∀ j : Nat, j < L.length → τ 59 (a + j) = L.getD j 0) (hl : a + L.length ≤ 120) (f : Nat → Int) : fX10_worked 49 (a : Int) ((a + L.length : Nat) : Int) (upc τ 64 f) = some (val nm L, upc τ 64 (ev nm L 0 f).2) := by
  unfold fX10_worked
  have key : ∀ F : Nat, L.length < F → fX10_worked_5 49 (a : Int) ((a + L.length : Nat) : Int) F ((0 : Nat) : Int) (a : Int) (upc τ 64 f) = some (val nm L, upc τ 64 (ev nm L 0 f).2) := by
    intro F hF
    obtain ⟨F1, rfl⟩ : ∃ F1, F = F1 + 1 + L.length := ⟨F - 1 - L.length, by omega⟩
    rw [gsegM hnm L a 0 1 (F1 + 1) f (we_run hL) (by omega) hrow (Nat.le_refl _) (by omega), fX10_worked_5.eq_2, if_pos (by omega)]
    simp only [rfS, lnS]
    rw [if_pos ⟨by omega, by omega⟩]
    have g7 : ∀ (f : Nat → Int) (j : Nat), upc τ 64 f 64 j = f j := fun f j => by rw [upc_e]
    rw [g7]
    have e := val_eq (nm := nm) hL f
    exact congrArg (fun x => some (x, upc τ 64 (ev nm L 0 f).2)) e
  exact key FU (by unfold FU; omega)
def dn4 (τ : St) : St := fun d => τ (d - 4)
theorem gM {τ : St} {N : Nat} {nm : Nat → Int} (hnm : ∀ j : Nat, j < 6 → τ 65 j = nm j) (h10 : τ 49 10 = (N : Int)) (hN : N ≤ 60) : ∀ (ls : List Ln) (i c F : Nat) (f : Nat → Int), (∀ l : Ln, l ∈ ls → WL l) → i + ls.length = N → RwsM (dn4 τ) i c ls → (∀ j : Nat, j < (moLs ls).length → τ 59 (c + j) = (moLs ls).getD j 0) → c + (moLs ls).length ≤ 120 → ls.length < F → ∃ f' : Nat → Int, fX10_byLaw_2 49 F (i : Int) (upc τ 64 f) = some (lawE nm ls, upc τ 64 f')
  | [], i, c, F, f, _, hk, _, _, _, hF => by
    have hk' : i = N := hk
    obtain ⟨F1, rfl⟩ : ∃ F1, F = F1 + 1 := ⟨F - 1, by omega⟩
    refine ⟨f, ?_⟩
    rw [fX10_byLaw_2.eq_2]
    have g48 : upc τ 64 f 49 10 = (N : Int) := by rw [upc_ne (by decide)]; exact h10
    rw [g48, if_pos (by omega)]
    rfl
  | (L1, none) :: r, i, c, F, f, hw, hk, hR, hrow, hl, hF => by
    have w1 : WE L1 := (hw (L1, none) (List.mem_cons_self ..)).1
    have el : moLs ((L1, none) :: r) = L1 ++ moLs r := rfl
    obtain ⟨⟨q1, q2, q3⟩, -⟩ := hR
    have a1 : τ 56 i = (c : Int) := q1
    have a2 : τ 57 i = (c : Int) := q2
    have a3 : τ 58 i = ((c + L1.length : Nat) : Int) := q3
    rw [el] at hrow hl
    have ll : (L1 ++ moLs r).length = L1.length + (moLs r).length := List.length_append ..
    rw [ll] at hrow hl
    have hki : i < N := by
      have : i + (r.length + 1) = N := hk
      omega
    have r1 : ∀ j : Nat, j < L1.length → τ 59 (c + j) = L1.getD j 0 := fun j hj => by
      rw [hrow j (by omega), getD_app2, if_pos (by omega)]
    obtain ⟨F1, rfl⟩ : ∃ F1, F = F1 + 1 := ⟨F - 1, by omega⟩
    refine ⟨(ev nm L1 0 f).2, ?_⟩
    have g10 : upc τ 64 f 49 10 = (N : Int) := by rw [upc_ne (by decide)]; exact h10
    have g56 : upc τ 64 f 56 i = (c : Int) := by rw [upc_ne (by decide)]; exact a1
    have g57 : upc τ 64 f 57 i = (c : Int) := by rw [upc_ne (by decide)]; exact a2
    have g58 : upc τ 64 f 58 i = ((c + L1.length : Nat) : Int) := by rw [upc_ne (by decide)]; exact a3
    rw [fX10_byLaw_2.eq_2]
    unfold fX10_byLaw_47
    simp only [rfS, lnS, Int.toNat_natCast, g10, g56, g57, g58]
    rw [if_neg (by omega), if_pos ⟨by omega, by omega⟩, if_pos ⟨by omega, by omega⟩, if_pos (by omega), if_pos ⟨by omega, by omega⟩, if_pos ⟨by omega, by omega⟩, wM hnm w1 r1 (by omega), Option.bind_some]
    rfl
  | (L1, some L2) :: r, i, c, F, f, hw, hk, hR, hrow, hl, hF => by
    have w0 := hw (L1, some L2) (List.mem_cons_self ..)
    have w1 : WE L1 := w0.1
    have w2 : WE L2 := w0.2 L2 rfl
    have n1 := we_ne w1
    have el : moLs ((L1, some L2) :: r) = L1 ++ L2 ++ moLs r := rfl
    obtain ⟨⟨q1, q2, q3⟩, hR2⟩ := hR
    have a1 : τ 56 i = (c : Int) := q1
    have a2 : τ 57 i = ((c + L1.length : Nat) : Int) := q2
    have a3 : τ 58 i = ((c + L1.length + L2.length : Nat) : Int) := q3
    rw [el] at hrow hl
    have l2 : (L1 ++ L2).length = L1.length + L2.length := List.length_append ..
    have ll : (L1 ++ L2 ++ moLs r).length = L1.length + L2.length + (moLs r).length := by rw [List.length_append, l2]
    have lr : ((L1, some L2) :: r : List Ln).length = r.length + 1 := rfl
    rw [lr] at hk hF
    rw [ll] at hrow hl
    have hR3 : RwsM (dn4 τ) (i + 1) (c + (L1.length + L2.length)) r := by
      rw [← l2]
      exact hR2
    have r1 : ∀ j : Nat, j < L1.length → τ 59 (c + j) = L1.getD j 0 := fun j hj => by
      rw [hrow j (by omega), getD_app2, if_pos (by omega), getD_app2, if_pos (by omega)]
    have r2 : ∀ j : Nat, j < L2.length → τ 59 (c + L1.length + j) = L2.getD j 0 := fun j hj => by
      rw [show c + L1.length + j = c + (L1.length + j) by omega, hrow _ (by omega), getD_app2, if_pos (by omega), getD_app2, if_neg (by omega), show L1.length + j - L1.length = j by omega]
    have r3 : ∀ j : Nat, j < (moLs r).length → τ 59 (c + (L1.length + L2.length) + j) = (moLs r).getD j 0 := fun j hj => by
      rw [show c + (L1.length + L2.length) + j = c + (L1.length + L2.length + j) by omega, hrow _ (by omega), getD_app2, if_neg (by omega), l2, show L1.length + L2.length + j - (L1.length + L2.length) = j by omega]
    obtain ⟨F1, rfl⟩ : ∃ F1, F = F1 + 1 := ⟨F - 1, by omega⟩
    have ih := fun (f : Nat → Int) => gM hnm h10 hN r (i + 1) (c + (L1.length + L2.length)) F1 f (fun l hl => hw l (List.mem_cons_of_mem _ hl)) (by omega) hR3 r3 (by omega) (by omega)
    have g10 : upc τ 64 f 49 10 = (N : Int) := by rw [upc_ne (by decide)]; exact h10
    have g56 : upc τ 64 f 56 i = (c : Int) := by rw [upc_ne (by decide)]; exact a1
    have g57 : ∀ f : Nat → Int, upc τ 64 f 57 i = ((c + L1.length : Nat) : Int) := fun f => by rw [upc_ne (by decide)]; exact a2
    have g58 : ∀ f : Nat → Int, upc τ 64 f 58 i = ((c + L1.length + L2.length : Nat) : Int) := fun f => by rw [upc_ne (by decide)]; exact a3
    have eE : lawE nm ((L1, some L2) :: r) = if val nm L1 = 0 then lawE nm r else val nm L2 := rfl
    rw [fX10_byLaw_2.eq_2, eE]
    unfold fX10_byLaw_47
    simp only [rfS, lnS, Int.toNat_natCast, g10, g56, g57]
    rw [if_neg (by omega), if_pos ⟨by omega, by omega⟩, if_pos ⟨by omega, by omega⟩, if_neg (by omega), if_pos ⟨by omega, by omega⟩, if_pos ⟨by omega, by omega⟩, wM hnm w1 r1 (by omega), Option.bind_some]
    dsimp only
    by_cases y : val nm L1 = 0
    · rw [if_pos y, if_pos y, ia_n (r := i) (by omega)]
      exact ih _
    · rw [if_neg y, if_neg y]
      refine ⟨(ev nm L2 0 (ev nm L1 0 f).2).2, ?_⟩
      simp only [g57, g58]
      rw [if_pos ⟨by omega, by omega⟩, if_pos ⟨by omega, by omega⟩, wM hnm w2 r2 (by omega), Option.bind_some]
