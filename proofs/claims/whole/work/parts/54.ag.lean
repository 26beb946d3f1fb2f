/-! The invariant whole; two functions that agree. -/
abbrev E6 : Type := Int → Int → Int → Int → Int → Int → Int
/-- the class's law means E -/
def GC (σ : St) (E : E6) : Prop := ∀ τ : St, τ 4 3 = σ 4 3 → τ 4 8 = σ 4 8 → τ 4 9 = σ 4 9 → τ (σ 4 3).toNat = σ (σ 4 3).toNat → ∀ c l h v n m : Int, ∃ τ' : St, fX4_gives 4 c l h v n m τ = some (E c l h v n m, τ') ∧ Same τ τ' (fun d => d ≠ 6 ∧ d ≠ 7)
/-- the model's law means E -/
def GM (σ : St) (E : E6) : Prop := ∀ τ : St, τ 49 10 = σ 49 10 → τ 56 = σ 56 → τ 57 = σ 57 → τ 58 = σ 58 → τ 59 = σ 59 → ∃ τ' : St, fX10_byLaw 49 τ = some (E (τ 65 0) (τ 65 1) (τ 65 2) (τ 65 3) (τ 65 4) (τ 65 5), τ') ∧ Same τ τ' (fun d => d ≠ 64)
def InvLaw (σ : St) : Prop := σ 4 9 = σ 49 9 ∧ (σ 4 9 = 0 ∨ σ 4 9 = 1) ∧ ((σ 4 3 = 8 ∧ σ 4 4 = 9) ∨ (σ 4 3 = 9 ∧ σ 4 4 = 8)) ∧ (σ 4 9 = 1 → ∃ E : E6, GC σ E ∧ GM σ E)
def Inv (σ : St) : Prop := ∃ h : Hs, HC 1 h σ ∧ HM h σ ∧ Wf h ∧ InvImg h σ ∧ InvLed σ ∧ InvChg h σ ∧ InvTape σ ∧ InvLots σ ∧ (∀ s : Nat, s < 6 → InvShelf σ s) ∧ InvLaw σ
/-- class and model answer alike, and the invariant stays -/
def Ag (f g : St → Option (Int × St)) : Prop := ∀ σ : St, Inv σ → ∃ (r : Int) (σ1 σ2 : St), f σ = some (r, σ1) ∧ g σ1 = some (r, σ2) ∧ Inv σ2
theorem sgI_z {c j : Nat} (h1 : c ≠ 4) (h2 : c ≠ 72) : sgI c j = 0 := by
  unfold sgI
  simp [up, h1, h2, z0]
theorem inv_start : Inv sgI := by
  have z : ∀ c j : Nat, c ≠ 4 → c ≠ 72 → sgI c j = 0 := fun c j h1 h2 => sgI_z h1 h2
  refine ⟨(0, 0, fun _ _ => 0, fun _ _ => 0), ⟨z 1 2 (by decide) (by decide), z 1 3 (by decide) (by decide), fun t w _ _ => z _ _ (by decide) (by decide), fun t w _ _ => z _ _ (by decide) (by decide)⟩, ⟨z 49 0 (by decide) (by decide), z 49 5 (by decide) (by decide), fun t _ => ⟨z _ _ (by decide) (by decide), z _ _ (by decide) (by decide), z _ _ (by decide) (by decide), z _ _ (by decide) (by decide)⟩, fun b w _ _ => z _ _ (by decide) (by decide)⟩, ⟨⟨by decide, by decide⟩, fun _ _ _ => rfl, fun _ _ _ => rfl, fun i w hv => ?_⟩, ⟨?_, Or.inl (z _ _ (by decide) (by decide)), fun i _ => ?_, ⟨(0, 0, fun _ _ => 0, fun _ _ => 0), ⟨z 28 2 (by decide) (by decide), z 28 3 (by decide) (by decide), fun t w _ _ => z _ _ (by decide) (by decide), fun t w _ _ => z _ _ (by decide) (by decide)⟩, ⟨z _ _ (by decide) (by decide), z _ _ (by decide) (by decide), fun t _ => ⟨z _ _ (by decide) (by decide), z _ _ (by decide) (by decide), z _ _ (by decide) (by decide)⟩, fun t _ => ⟨z _ _ (by decide) (by decide), z _ _ (by decide) (by decide), z _ _ (by decide) (by decide)⟩⟩, ⟨⟨by decide, by decide⟩, fun _ _ _ => rfl, fun _ _ _ => rfl, fun i w hv => ?_⟩, Nat.le_refl _, Nat.le_refl _⟩⟩, fun i _ => ?_, ⟨0, 0, Nat.le_refl _, by decide, z _ _ (by decide) (by decide), z _ _ (by decide) (by decide), z _ _ (by decide) (by decide), z _ _ (by decide) (by decide), fun j _ => ?_, fun k hk => absurd hk (by omega)⟩, ⟨0, by decide, rfl, z _ _ (by decide) (by decide), fun j _ => ?_⟩, ⟨0, by decide, z _ _ (by decide) (by decide), z _ _ (by decide) (by decide), fun j _ => ?_, ?_, ?_, ?_, fun j _ => ?_⟩, fun s hs => ?_, ⟨?_, Or.inl rfl, Or.inl ⟨rfl, rfl⟩, fun h => ?_⟩⟩
  · rcases hv with q | q <;> (simp only at q; omega)
  · rw [z _ _ (by decide) (by decide), z _ _ (by decide) (by decide)]
  · rw [z _ _ (by decide) (by decide), z _ _ (by decide) (by decide)]
  · rcases hv with q | q <;> (simp only at q; omega)
  · rw [z _ _ (by decide) (by decide), z _ _ (by decide) (by decide)]
  · rw [z _ _ (by decide) (by decide), z _ _ (by decide) (by decide)]
  · rw [z _ _ (by decide) (by decide), z _ _ (by decide) (by decide)]
    decide
  · rw [z _ _ (by decide) (by decide), z _ _ (by decide) (by decide)]
    decide
  · rw [z _ _ (by decide) (by decide), z _ _ (by decide) (by decide)]
  · rw [z _ _ (by decide) (by decide)]
    decide
  · rw [z _ _ (by decide) (by decide)]
    decide
  · rw [z _ _ (by decide) (by decide), z _ _ (by decide) (by decide)]
  · refine ⟨Or.inl ⟨z _ _ (by omega) (by omega), ?_⟩, ?_, ?_, ?_, fun j _ => ?_⟩
    · have : s = 0 ∨ s = 1 ∨ s = 2 ∨ s = 3 ∨ s = 4 ∨ s = 5 := by omega
      rcases this with rfl | rfl | rfl | rfl | rfl | rfl <;> rfl
    · rw [z _ _ (by omega) (by omega), z _ _ (by decide) (by decide)]
    · rw [z _ _ (by decide) (by decide)]
      decide
    · rw [z _ _ (by decide) (by decide)]
      decide
    · rw [z _ _ (by omega) (by omega), z _ _ (by decide) (by decide)]
      exact ⟨rfl, fun _ => ⟨by decide, by decide⟩⟩
  · rw [z 49 9 (by decide) (by decide)]
    rfl
  · exact absurd h (by decide)
