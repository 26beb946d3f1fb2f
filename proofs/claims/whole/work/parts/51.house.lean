/-! THE HOUSE as one mathematical value: how many things, bidders, what each has; the class's House and the model's arrays hold it. -/
abbrev Hs : Type := Nat × Nat × (Nat → Nat → Int) × (Nat → Nat → Int)
def Hz (h : Hs) : Prop := h.1 ≤ 8 ∧ h.2.1 ≤ 7
/-- the class's House at cell c -/
def HC (c : Nat) (h : Hs) (σ : St) : Prop := σ c 2 = (h.1 : Int) ∧ σ c 3 = (h.2.1 : Int) ∧ (∀ t w : Nat, t < 8 → w < 4 → σ (RF c 0) (4 * t + w) = h.2.2.1 t w) ∧ ∀ b w : Nat, b < 7 → w < 9 → σ (RF c 1) (9 * b + w) = h.2.2.2 b w
/-- the model's arrays -/
def HM (h : Hs) (σ : St) : Prop := σ 49 0 = (h.1 : Int) ∧ σ 49 5 = (h.2.1 : Int) ∧ (∀ t : Nat, t < 8 → σ 50 t = h.2.2.1 t 0 ∧ σ 51 t = h.2.2.1 t 1 ∧ σ 52 t = h.2.2.1 t 2 ∧ σ 53 t = h.2.2.1 t 3) ∧ ∀ b w : Nat, b < 7 → w < 9 → σ 54 (7 * w + b) = h.2.2.2 b w
def hT (h : Hs) (i w : Int) : Prop := 0 ≤ w ∧ w < 4 ∧ 0 ≤ i ∧ i < (h.1 : Int)
def hB (h : Hs) (i w : Int) : Prop := 4 ≤ w ∧ w < 13 ∧ 0 ≤ i ∧ i < (h.2.1 : Int)
noncomputable def hnum (h : Hs) (i w : Int) : Int := if 0 ≤ w ∧ w < 4 ∧ 0 ≤ i ∧ i < (h.1 : Int) then h.2.2.1 i.toNat w.toNat else if 4 ≤ w ∧ w < 13 ∧ 0 ≤ i ∧ i < (h.2.1 : Int) then h.2.2.2 i.toNat (w - 4).toNat else 0
/-- one place of a table of two places becomes another -/
def up2 (f : Nat → Nat → Int) (i j : Nat) (x : Int) : Nat → Nat → Int := fun a b => if a = i ∧ b = j then x else f a b
noncomputable def hset (h : Hs) (i w v : Int) : Hs := if 0 ≤ w ∧ w < 4 ∧ 0 ≤ i ∧ i < (h.1 : Int) then (h.1, h.2.1, up2 h.2.2.1 i.toNat w.toNat v, h.2.2.2) else if 4 ≤ w ∧ w < 13 ∧ 0 ≤ i ∧ i < (h.2.1 : Int) then (h.1, h.2.1, h.2.2.1, up2 h.2.2.2 i.toNat (w - 4).toNat v) else h
theorem hs_LN0 : ∀ c, c < 78 → isO 2 c = true → (LN (RF c 0) = 32 ∧ LN (RF c 1) = 63 ∧ RF c 0 ≠ RF c 1 ∧ RF c 0 ≠ c ∧ RF c 1 ≠ c ∧ RF c 0 < 49 ∧ RF c 1 < 49) := by decide +kernel
theorem hs_LN {c : Nat} (h : isO 2 c = true) : LN (RF c 0) = 32 ∧ LN (RF c 1) = 63 ∧ RF c 0 ≠ RF c 1 ∧ RF c 0 ≠ c ∧ RF c 1 ≠ c ∧ RF c 0 < 49 ∧ RF c 1 < 49 := hs_LN0 c (isO_lt h) h
theorem number_eq {c : Nat} {h : Hs} {σ : St} {i w : Int} (hc : isO 2 c = true) (hh : HC c h σ) (hz : Hz h) : fX2_number c i w σ = some (hnum h i w, σ) := by
  obtain ⟨e1, e2, e3, e4⟩ := hh
  obtain ⟨l0, l1, -⟩ := hs_LN hc
  obtain ⟨z1, z2⟩ := hz
  unfold fX2_number fX2_number_32 hnum
  rw [l0, l1, e1, e2]
  by_cases a1 : 0 ≤ w ∧ w < 4 ∧ 0 ≤ i ∧ i < (h.1 : Int)
  · have hi : i_add (i_mul i 4) w = i * 4 + w := by
      rw [im (ok_in (by omega) (by omega)), ia (ok_in (by omega) (by omega))]
    have e5 := e3 i.toNat w.toNat (by omega) (by omega)
    rw [show 4 * i.toNat + w.toNat = (i * 4 + w).toNat by omega] at e5
    rw [if_neg (by omega), if_neg (by omega), if_neg (by omega), if_neg (by omega), hi, if_pos ⟨by omega, by omega⟩, if_pos a1, e5]
  · rw [if_neg a1]
    by_cases a2 : 4 ≤ w ∧ w < 13 ∧ 0 ≤ i ∧ i < (h.2.1 : Int)
    · have hi : i_sub (i_add (i_mul i 9) w) 4 = i * 9 + w - 4 := by
        rw [im (ok_in (by omega) (by omega)), ia (ok_in (by omega) (by omega)), isb (ok_in (by omega) (by omega))]
      have e5 := e4 i.toNat (w - 4).toNat (by omega) (by omega)
      rw [show 9 * i.toNat + (w - 4).toNat = (i * 9 + w - 4).toNat by omega] at e5
      rw [if_neg (by omega), if_pos (by omega), if_neg (by omega), if_neg (by omega), if_neg (by omega), if_neg (by omega), hi, if_pos ⟨by omega, by omega⟩, if_pos a2, e5]
    · rw [if_neg a2]
      repeat' split
      all_goals first | rfl | (exfalso; omega)
/-- what a write leaves alone -/
def Same (σ σ' : St) (P : Nat → Prop) : Prop := ∀ c, P c → σ' c = σ c
theorem become_eq {c : Nat} {h : Hs} {σ : St} {i w v : Int} (hc : isO 2 c = true) (hh : HC c h σ) (hz : Hz h) : ∃ σ', fX2_become c i w v σ = some σ' ∧ HC c (hset h i w v) σ' ∧ Same σ σ' (fun d => d ≠ RF c 0 ∧ d ≠ RF c 1) := by
  obtain ⟨e1, e2, e3, e4⟩ := id hh
  obtain ⟨l0, l1, n1, n2, n3, -⟩ := hs_LN hc
  obtain ⟨z1, z2⟩ := hz
  unfold fX2_become fX2_become_35 hset
  rw [l0, l1, e1, e2]
  by_cases a1 : 0 ≤ w ∧ w < 4 ∧ 0 ≤ i ∧ i < (h.1 : Int)
  · have hi : i_add (i_mul i 4) w = i * 4 + w := by
      rw [im (ok_in (by omega) (by omega)), ia (ok_in (by omega) (by omega))]
    rw [if_neg (by omega), if_neg (by omega), if_neg (by omega), if_neg (by omega), hi, if_pos ⟨by omega, by omega⟩, if_pos a1]
    refine ⟨_, rfl, ⟨?_, ?_, fun t q ht hq => ?_, fun b q hb hq => ?_⟩, fun d hd => up_ne hd.1⟩
    · rw [up_ne (Ne.symm n2)]; exact e1
    · rw [up_ne (Ne.symm n2)]; exact e2
    · have e5 := e3 t q ht hq
      show (if RF c 0 = RF c 0 ∧ 4 * t + q = (i * 4 + w).toNat then v else σ (RF c 0) (4 * t + q)) = if t = i.toNat ∧ q = w.toNat then v else h.2.2.1 t q
      by_cases hk : t = i.toNat ∧ q = w.toNat
      · rw [if_pos hk, if_pos ⟨rfl, by omega⟩]
      · rw [if_neg hk, if_neg (fun z => hk (by omega)), e5]
    · rw [up_ne (Ne.symm n1)]; exact e4 b q hb hq
  · rw [if_neg a1]
    by_cases a2 : 4 ≤ w ∧ w < 13 ∧ 0 ≤ i ∧ i < (h.2.1 : Int)
    · have hi : i_sub (i_add (i_mul i 9) w) 4 = i * 9 + w - 4 := by
        rw [im (ok_in (by omega) (by omega)), ia (ok_in (by omega) (by omega)), isb (ok_in (by omega) (by omega))]
      rw [if_neg (by omega), if_pos (by omega), if_neg (by omega), if_neg (by omega), if_neg (by omega), if_neg (by omega), hi, if_pos ⟨by omega, by omega⟩, if_pos a2]
      refine ⟨_, rfl, ⟨?_, ?_, fun t q ht hq => ?_, fun b q hb hq => ?_⟩, fun d hd => up_ne hd.2⟩
      · rw [up_ne (Ne.symm n3)]; exact e1
      · rw [up_ne (Ne.symm n3)]; exact e2
      · rw [up_ne n1]; exact e3 t q ht hq
      · have e5 := e4 b q hb hq
        show (if RF c 1 = RF c 1 ∧ 9 * b + q = (i * 9 + w - 4).toNat then v else σ (RF c 1) (9 * b + q)) = if b = i.toNat ∧ q = (w - 4).toNat then v else h.2.2.2 b q
        by_cases hk : b = i.toNat ∧ q = (w - 4).toNat
        · rw [if_pos hk, if_pos ⟨rfl, by omega⟩]
        · rw [if_neg hk, if_neg (fun z => hk (by omega)), e5]
    · rw [if_neg a2]
      have e9 : ∀ A : Option St, ∀ B1 B2 : Option St, (if w < 0 then (if w < 4 then A else if 13 ≤ w then A else if i < 0 then A else if (h.2.1 : Int) ≤ i then A else B2) else if 4 ≤ w then (if w < 4 then A else if 13 ≤ w then A else if i < 0 then A else if (h.2.1 : Int) ≤ i then A else B2) else if i < 0 then (if w < 4 then A else if 13 ≤ w then A else if i < 0 then A else if (h.2.1 : Int) ≤ i then A else B2) else if (h.1 : Int) ≤ i then (if w < 4 then A else if 13 ≤ w then A else if i < 0 then A else if (h.2.1 : Int) ≤ i then A else B2) else B1) = A := by
        intro A B1 B2
        repeat' split
        all_goals first | rfl | (exfalso; omega)
      rw [e9]
      exact ⟨σ, rfl, hh, fun _ _ => rfl⟩
