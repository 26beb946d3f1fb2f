/-! A row on a shelf. -/
theorem fill_l {d : Nat} {v : Int} : ∀ (n k : Nat) (τ : St), k ≤ LN d → LN d < k + n → ∃ τ' : St, fJ7_fill_d0a16_6 d v n (k : Int) (LN d : Int) τ = some τ' ∧ (∀ c j : Nat, ¬ (c = d ∧ k ≤ j ∧ j < LN d) → τ' c j = τ c j) ∧ ∀ j : Nat, k ≤ j → j < LN d → τ' d j = v := by
  have hl := ok_LN d
  unfold ok32 at hl
  intro n
  induction n with
  | zero => intro k τ h1 h2; omega
  | succ n ih =>
    intro k τ h1 h2
    rw [fJ7_fill_d0a16_6.eq_2]
    by_cases e : (LN d : Int) ≤ (k : Int)
    · rw [if_pos e]
      exact ⟨τ, rfl, fun _ _ _ => rfl, fun j q1 q2 => by omega⟩
    · rw [if_neg e, if_pos ⟨by omega, by omega⟩, ia (ok_in (by omega) (by omega)), Int.toNat_natCast]
      obtain ⟨τ', f1, f2, f3⟩ := ih (k + 1) (up τ d k v) (by omega) (by omega)
      rw [show ((k + 1 : Nat) : Int) = (k : Int) + 1 by omega] at f1
      refine ⟨τ', f1, fun c j q => ?_, fun j q1 q2 => ?_⟩
      · rw [f2 c j (by omega), up_get, if_neg (by omega)]
      · by_cases z : j = k
        · rw [z, f2 d k (by omega), up_get, if_pos ⟨rfl, rfl⟩]
        · exact f3 j (by omega) q2
theorem row_l {s : Nat} (hs : s < 6) {x2 x3 : Int} : ∀ (n k : Nat) (τ : St), k ≤ 60 → 60 < k + n → ∃ τ' : St, fX10_row_48 49 (s : Int) x2 x3 n (k : Int) τ = some (1, τ') ∧ (∀ c j : Nat, ¬ (c = 74 ∧ 60 * s + k ≤ j ∧ j < 60 * s + 60) → τ' c j = τ c j) ∧ ∀ j : Nat, k ≤ j → j < 60 → τ' 74 (60 * s + j) = 0 := by
  intro n
  induction n with
  | zero => intro k τ h1 h2; omega
  | succ n ih =>
    intro k τ h1 h2
    rw [fX10_row_48.eq_2]
    simp only [rfS, lnS]
    by_cases e : (60 : Int) ≤ (k : Int)
    · rw [if_pos e]
      exact ⟨τ, rfl, fun _ _ _ => rfl, fun j q1 q2 => by omega⟩
    · have e1 : i_add (i_mul 60 (s : Int)) (k : Int) = ((60 * s + k : Nat) : Int) := by
        rw [im (ok_in (by omega) (by omega)), ia (ok_in (by omega) (by omega))]
        omega
      simp only [e1, Int.toNat_natCast]
      rw [if_neg e, if_pos ⟨by omega, by omega⟩, ia (ok_in (by omega) (by omega))]
      obtain ⟨τ', f1, f2, f3⟩ := ih (k + 1) (up τ 74 (60 * s + k) 0) (by omega) (by omega)
      rw [show ((k + 1 : Nat) : Int) = (k : Int) + 1 by omega] at f1
      refine ⟨τ', f1, fun c j q => ?_, fun j q1 q2 => ?_⟩
      · rw [f2 c j (by omega), up_get, if_neg (by omega)]
      · by_cases z : j = k
        · rw [z, f2 74 _ (by omega), up_get, if_pos ⟨rfl, rfl⟩]
        · exact f3 j (by omega) q2
theorem ag_row (a1 : Int) (a2 : Int) (a3 : Int) (ha1 : ok32 a1) (ha2 : ok32 a2) (ha3 : ok32 a3) : Ag (fun σ => fX9_row 0 a1 a2 a3 σ) (fun σ => fX10_row 49 a1 a2 a3 σ) := by
  intro σ hI
  obtain ⟨h, c1, c2, c3, i1, i2, i3, i4, i5, i6, i7⟩ := id hI
  dsimp only
  unfold fX9_row fX10_row
  simp only [rfS, lnS]
  rw [sh9]
  by_cases a : 0 ≤ a1 ∧ a1 < 6
  · obtain ⟨s, hs, rfl⟩ : ∃ s : Nat, s < 6 ∧ a1 = (s : Int) := ⟨a1.toNat, by omega, by omega⟩
    obtain ⟨r1, r2, r3⟩ := sh_rf s hs
    rw [if_pos a, b1]
    dsimp only
    have mdl : ∀ τ : St, fX10_isShelf (s : Int) τ = some (1, τ) := fun τ => by rw [sh10, if_pos a]
    by_cases b : 0 ≤ a2 ∧ a2 ≤ 4
    · rw [if_neg (by omega), if_neg (by omega)]
      have wi : ∀ τ : St, fX10_within a2 0 4 τ = some (1, τ) := fun τ => by rw [within_eq, if_pos b]
      by_cases e : a3 ≤ 60
      · rw [if_pos e]
        by_cases f : 0 ≤ a3
        · rw [if_pos f, if_pos (show inb (s : Int) 6 from ⟨by omega, by omega⟩)]
          unfold fX6_holdRow fJ7_fill_d0a16
          simp only [Int.toNat_natCast, r1, r2]
          have em : m_max 0 (m_min 60 a3) = a3 := by
            unfold m_max m_min
            split <;> split <;> omega
          rw [em]
          obtain ⟨τ, f1, f2, f3⟩ := fill_l (d := 38 + 2 * s) (v := 0) FU 0 (up (up (up σ (37 + 2 * s) 1 2) (37 + 2 * s) 3 a2) (37 + 2 * s) 4 a3) (Nat.zero_le _) (by rw [r3]; unfold FU; omega)
          have f1 : fJ7_fill_d0a16_6 (38 + 2 * s) 0 FU 0 (LN (38 + 2 * s) : Int) (up (up (up σ (37 + 2 * s) 1 2) (37 + 2 * s) 3 a2) (37 + 2 * s) 4 a3) = some τ := f1
          rw [f1, Option.bind_some, Option.bind_some]
          rw [r3] at f2 f3
          have t0 : ∀ c j : Nat, ¬ (c = 37 + 2 * s ∨ (c = 38 + 2 * s ∧ j < 60)) → τ c j = σ c j := by
            intro c j q
            rw [f2 c j (by omega), up_get, if_neg (by omega), up_get, if_neg (by omega), up_get, if_neg (by omega)]
          have t1 : τ (37 + 2 * s) 1 = 2 := by
            rw [f2 _ _ (by omega), up_get, if_neg (by omega), up_get, if_neg (by omega), up_get, if_pos ⟨rfl, rfl⟩]
          have t3 : τ (37 + 2 * s) 3 = a2 := by
            rw [f2 _ _ (by omega), up_get, if_neg (by omega), up_get, if_pos ⟨rfl, rfl⟩]
          have t4 : τ (37 + 2 * s) 4 = a3 := by
            rw [f2 _ _ (by omega), up_get, if_pos ⟨rfl, rfl⟩]
          obtain ⟨ρ, g1, g2, g3⟩ := row_l hs (x2 := a2) (x3 := a3) FU 0 (up (up τ 72 s a2) 73 s a3) (Nat.zero_le _) (by unfold FU; omega)
          have g1 : fX10_row_48 49 (s : Int) a2 a3 FU 0 (up (up τ 72 s a2) 73 s a3) = some (1, ρ) := g1
          refine ⟨1, τ, ρ, rfl, ?_, ?_⟩
          · rw [mdl, b1]
            dsimp only
            rw [wi, b1]
            dsimp only
            rw [if_pos e, if_pos f]
            repeat rw [if_pos (show inb (s : Int) 6 from ⟨by omega, by omega⟩)]
            exact g1
          · have s72 : ρ 72 s = a2 := by
              rw [g2 _ _ (by omega), up_get, if_neg (by omega), up_get, if_pos ⟨rfl, rfl⟩]
            have s73 : ρ 73 s = a3 := by
              rw [g2 _ _ (by omega), up_get, if_pos ⟨rfl, rfl⟩]
            have ag : ∀ c j : Nat, ¬ (c = 37 + 2 * s ∨ c = 38 + 2 * s ∨ c = 72 ∨ c = 73 ∨ c = 74) → ρ c j = σ c j := by
              intro c j q
              rw [g2 c j (by omega), up_get, if_neg (by omega), up_get, if_neg (by omega), t0 c j (by omega)]
            have r37 : ∀ c j : Nat, c < 49 → ρ c j = τ c j := by
              intro c j q
              rw [g2 c j (by omega), up_get, if_neg (by omega), up_get, if_neg (by omega)]
            refine ⟨h, HC1.keep (fun c j q => ag c j (by unfold pH1 at q; omega)) c1, HM.keep (fun c j q => ag c j (by unfold pHM at q; omega)) c2, c3, i1.keep (fun c j q => ag c j (by unfold pImg at q; omega)) (Nat.le_refl _) (Nat.le_refl _), i2.keep (fun c j q => ag c j (by unfold pLed at q; omega)), i3.keep (fun c j q => ag c j (by unfold pChg at q; omega)) (Nat.le_refl _) (Nat.le_refl _), i4.keep (fun c j q => ag c j (by unfold pTape at q; omega)), i5.keep (fun c j q => ag c j (by unfold pLots at q; omega)), fun w hw => ?_, i7.keep (fun c j q => ag c j (by unfold pLaw at q; omega))⟩
            by_cases hk : w = s
            · subst hk
              unfold InvShelf
              rw [r37 _ 1 (by omega), r37 _ 2 (by omega), r37 _ 3 (by omega), r37 _ 4 (by omega), t1, t3, t4, s72, s73]
              refine ⟨Or.inr (Or.inr ⟨rfl, rfl, b.1, b.2⟩), rfl, f, e, fun j hj => ?_⟩
              rw [r37 _ j (by omega), f3 j (Nat.zero_le _) hj, g3 j (Nat.zero_le _) hj]
              exact ⟨rfl, fun _ => ⟨by decide, by decide⟩⟩
            · have k := i6 w hw
              unfold InvShelf at *
              have e72 : ρ 72 w = σ 72 w := by
                rw [g2 _ _ (by omega), up_get, if_neg (by omega), up_get, if_neg (by omega), t0 72 w (by omega)]
              have e73 : ρ 73 w = σ 73 w := by
                rw [g2 _ _ (by omega), up_get, if_neg (by omega), up_get, if_neg (by omega), t0 73 w (by omega)]
              rw [ag (37 + 2 * w) 1 (by omega), ag (37 + 2 * w) 2 (by omega), ag (37 + 2 * w) 3 (by omega), ag (37 + 2 * w) 4 (by omega), e72, e73, ag 32 2 (by omega)]
              refine ⟨k.1, k.2.1, k.2.2.1, k.2.2.2.1, fun j hj => ?_⟩
              rw [ag (38 + 2 * w) j (by omega), g2 74 _ (by omega), up_get, if_neg (by omega), up_get, if_neg (by omega), t0 74 _ (by omega)]
              exact k.2.2.2.2 j hj
        · rw [if_neg f]
          refine ⟨-14, σ, σ, rfl, ?_, hI⟩
          rw [mdl, b1]
          dsimp only
          rw [wi, b1]
          dsimp only
          rw [if_pos e, if_neg f]
      · rw [if_neg e]
        refine ⟨-1, σ, σ, rfl, ?_, hI⟩
        rw [mdl, b1]
        dsimp only
        rw [wi, b1]
        dsimp only
        rw [if_neg e]
    · refine ⟨-1, σ, σ, ?_, ?_, hI⟩
      · split
        · rfl
        · rw [if_pos (by omega)]
      · rw [mdl, b1]
        dsimp only
        rw [within_eq, if_neg b, b0]
  · rw [if_neg a, b0]
    refine ⟨-1, σ, σ, rfl, ?_, hI⟩
    rw [sh10, if_neg a, b0]
