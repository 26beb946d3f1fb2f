/-! Each part of the invariant stays where its own places stay. -/
def Agr (P : Nat → Nat → Prop) (σ σ' : St) : Prop := ∀ c j : Nat, P c j → σ' c j = σ c j
def pH1 (c : Nat) (_ : Nat) : Prop := c = 1 ∨ c = 2 ∨ c = 3
def pHM (c j : Nat) : Prop := c = 50 ∨ c = 51 ∨ c = 52 ∨ c = 53 ∨ c = 54 ∨ (c = 49 ∧ (j = 0 ∨ j = 5))
def pImg (c j : Nat) : Prop := c = 27 ∨ c = 28 ∨ c = 29 ∨ c = 30 ∨ c = 31 ∨ c = 67 ∨ c = 68 ∨ (c = 49 ∧ (j = 26 ∨ j = 27 ∨ j = 28))
def pLed (c : Nat) (_ : Nat) : Prop := c = 35 ∨ c = 66
def pChg (c j : Nat) : Prop := c = 25 ∨ c = 26 ∨ c = 69 ∨ (c = 49 ∧ (j = 31 ∨ j = 32))
def pTape (c j : Nat) : Prop := c = 5 ∨ c = 55 ∨ (c = 4 ∧ j = 5) ∨ (c = 49 ∧ j = 7)
def pLots (c j : Nat) : Prop := c = 33 ∨ c = 34 ∨ c = 70 ∨ c = 71 ∨ (c = 32 ∧ (j = 2 ∨ j = 3)) ∨ (c = 49 ∧ (j = 34 ∨ j = 36))
def pShelf (c j : Nat) : Prop := (37 ≤ c ∧ c ≤ 48) ∨ c = 72 ∨ c = 73 ∨ c = 74 ∨ (c = 32 ∧ j = 2)
def pLaw (c j : Nat) : Prop := c = 8 ∨ c = 9 ∨ c = 56 ∨ c = 57 ∨ c = 58 ∨ c = 59 ∨ (c = 4 ∧ (j = 3 ∨ j = 4 ∨ j = 8 ∨ j = 9)) ∨ (c = 49 ∧ (j = 9 ∨ j = 10))
theorem HC1.keep {h : Hs} {σ σ' : St} (a : Agr pH1 σ σ') (k : HC 1 h σ) : HC 1 h σ' := by
  obtain ⟨k1, k2, k3, k4⟩ := k
  refine ⟨(a 1 2 (Or.inl rfl)).trans k1, (a 1 3 (Or.inl rfl)).trans k2, fun t w ht hw => (a 2 _ (Or.inr (Or.inl rfl))).trans (k3 t w ht hw), fun t w ht hw => (a 3 _ (Or.inr (Or.inr rfl))).trans (k4 t w ht hw)⟩
theorem HM.keep {h : Hs} {σ σ' : St} (a : Agr pHM σ σ') (k : HM h σ) : HM h σ' := by
  obtain ⟨k1, k2, k3, k4⟩ := k
  refine ⟨(a 49 0 (by simp [pHM])).trans k1, (a 49 5 (by simp [pHM])).trans k2, fun t ht => ?_, fun t w ht hw => (a 54 _ (by simp [pHM])).trans (k4 t w ht hw)⟩
  obtain ⟨e1, e2, e3, e4⟩ := k3 t ht
  exact ⟨(a 50 _ (by simp [pHM])).trans e1, (a 51 _ (by simp [pHM])).trans e2, (a 52 _ (by simp [pHM])).trans e3, (a 53 _ (by simp [pHM])).trans e4⟩
theorem InvImg.keep {h h' : Hs} {σ σ' : St} (a : Agr pImg σ σ') (m1 : h.1 ≤ h'.1) (m2 : h.2.1 ≤ h'.2.1) (k : InvImg h σ) : InvImg h' σ' := by
  obtain ⟨k1, k2, k3, q, ⟨c1, c2, c3, c4⟩, ⟨o1, o2, o3, o4⟩, q3, q4, q5⟩ := k
  have e27 := a 27 2 (by simp [pImg])
  refine ⟨by rw [e27, a 49 26 (by simp [pImg])]; exact k1, by rw [e27]; exact k2, fun i hi => by rw [a 31 i (by simp [pImg]), a 68 i (by simp [pImg])]; exact k3 i hi, q, ⟨(a 28 2 (by simp [pImg])).trans c1, (a 28 3 (by simp [pImg])).trans c2, fun t w ht hw => (a 29 _ (by simp [pImg])).trans (c3 t w ht hw), fun t w ht hw => (a 30 _ (by simp [pImg])).trans (c4 t w ht hw)⟩, ⟨(a 49 27 (by simp [pImg])).trans o1, (a 49 28 (by simp [pImg])).trans o2, fun t ht => ?_, fun t ht => ?_⟩, q3, by omega, by omega⟩
  · obtain ⟨x1, x2, x3⟩ := o3 t ht
    exact ⟨(a 67 _ (by simp [pImg])).trans x1, (a 67 _ (by simp [pImg])).trans x2, (a 67 _ (by simp [pImg])).trans x3⟩
  · obtain ⟨x1, x2, x3⟩ := o4 t ht
    exact ⟨(a 67 _ (by simp [pImg])).trans x1, (a 67 _ (by simp [pImg])).trans x2, (a 67 _ (by simp [pImg])).trans x3⟩
theorem InvLed.keep {σ σ' : St} (a : Agr pLed σ σ') (k : InvLed σ) : InvLed σ' := fun i hi => by
  rw [a 35 i (Or.inl rfl), a 66 i (Or.inr rfl)]
  exact k i hi
theorem hOf_mono {h h' : Hs} {i w : Int} (m1 : h.1 ≤ h'.1) (m2 : h.2.1 ≤ h'.2.1) (k : hOf h i w) : hOf h' i w := by
  unfold hOf at *
  omega
theorem fitv_mono {h h' : Hs} {w v : Int} (m2 : h.2.1 ≤ h'.2.1) (k : fitv h w v) : fitv h' w v := by
  unfold fitv at *
  rcases k with ⟨k1, k2⟩ | k
  · exact Or.inl ⟨k1, by omega⟩
  · exact Or.inr k
theorem InvChg.keep {h h' : Hs} {σ σ' : St} (a : Agr pChg σ σ') (m1 : h.1 ≤ h'.1) (m2 : h.2.1 ≤ h'.2.1) (k : InvChg h σ) : InvChg h' σ' := by
  obtain ⟨d, n, k1, k2, k3, k4, k5, k6, k7, k8⟩ := k
  refine ⟨d, n, k1, k2, (a 25 1 (by simp [pChg])).trans k3, (a 25 2 (by simp [pChg])).trans k4, (a 49 32 (by simp [pChg])).trans k5, (a 49 31 (by simp [pChg])).trans k6, fun j hj => by rw [a 26 j (by simp [pChg]), a 69 j (by simp [pChg])]; exact k7 j hj, fun q hq => ?_⟩
  obtain ⟨x1, x2, x3⟩ := k8 q hq
  rw [a 26 _ (by simp [pChg]), a 26 _ (by simp [pChg]), a 26 _ (by simp [pChg]), a 26 _ (by simp [pChg])]
  exact ⟨hOf_mono m1 m2 x1, fitv_mono m2 x2, fitv_mono m2 x3⟩
theorem InvTape.keep {σ σ' : St} (a : Agr pTape σ σ') (k : InvTape σ) : InvTape σ' := by
  obtain ⟨n, k1, k2, k3, k4⟩ := k
  exact ⟨n, k1, (a 4 5 (by simp [pTape])).trans k2, (a 49 7 (by simp [pTape])).trans k3, fun j hj => by rw [a 5 j (by simp [pTape]), a 55 j (by simp [pTape])]; exact k4 j hj⟩
theorem InvLots.keep {σ σ' : St} (a : Agr pLots σ σ') (k : InvLots σ) : InvLots σ' := by
  obtain ⟨n, k1, k2, k3, k4, k5, k6, k7, k8⟩ := k
  refine ⟨n, k1, (a 32 2 (by simp [pLots])).trans k2, (a 49 34 (by simp [pLots])).trans k3, fun j hj => by rw [a 33 j (by simp [pLots]), a 70 j (by simp [pLots])]; exact k4 j hj, ?_, ?_, ?_, fun j hj => by rw [a 34 j (by simp [pLots]), a 71 j (by simp [pLots])]; exact k8 j hj⟩
  · rw [a 32 3 (by simp [pLots]), a 49 36 (by simp [pLots])]; exact k5
  · rw [a 32 3 (by simp [pLots])]; exact k6
  · rw [a 32 3 (by simp [pLots])]; exact k7
theorem InvShelf.keep {σ σ' : St} {s : Nat} (hs : s < 6) (a : Agr pShelf σ σ') (k : InvShelf σ s) : InvShelf σ' s := by
  have e : ∀ j, σ' (37 + 2 * s) j = σ (37 + 2 * s) j := fun j => a _ _ (by simp only [pShelf]; omega)
  have e' : ∀ j, σ' (38 + 2 * s) j = σ (38 + 2 * s) j := fun j => a _ _ (by simp only [pShelf]; omega)
  unfold InvShelf at *
  rw [e 1, e 2, e 3, e 4, a 72 s (by simp [pShelf]), a 73 s (by simp [pShelf]), a 32 2 (by simp [pShelf])]
  exact ⟨k.1, k.2.1, k.2.2.1, k.2.2.2.1, fun j hj => by rw [e' j, a 74 _ (by simp [pShelf])]; exact k.2.2.2.2 j hj⟩
theorem InvLaw.keep {σ σ' : St} (a : Agr pLaw σ σ') (k : InvLaw σ) : InvLaw σ' := by
  obtain ⟨k1, k2, k3, k4⟩ := k
  have e3 := a 4 3 (by simp [pLaw])
  have e9 := a 4 9 (by simp [pLaw])
  have e8 := a 4 8 (by simp [pLaw])
  have ep : σ' (σ 4 3).toNat = σ (σ 4 3).toNat := by
    rcases k3 with ⟨q, -⟩ | ⟨q, -⟩ <;> (rw [q]; funext j; exact a _ _ (by simp [pLaw]))
  refine ⟨by rw [e9, a 49 9 (by simp [pLaw])]; exact k1, by rw [e9]; exact k2, by rw [e3, a 4 4 (by simp [pLaw])]; exact k3, fun h => ?_⟩
  rw [e9] at h
  obtain ⟨E, g1, g2⟩ := k4 h
  refine ⟨E, ?_, ?_⟩
  · intro τ t1 t2 t3 t4
    rw [e3] at t1 t4
    exact g1 τ t1 (t2.trans e8) (t3.trans e9) (t4.trans ep)
  · intro τ t1 t2 t3 t4 t5
    exact g2 τ (t1.trans (a 49 10 (by simp [pLaw]))) (t2.trans (funext fun j => a _ _ (by simp [pLaw]))) (t3.trans (funext fun j => a _ _ (by simp [pLaw]))) (t4.trans (funext fun j => a _ _ (by simp [pLaw]))) (t5.trans (funext fun j => a _ _ (by simp [pLaw])))
/-- all but the house, its deeds' list and the scratch -/
def pRest (c j : Nat) : Prop := pImg c j ∨ pChg c j ∨ pTape c j ∨ pLots c j ∨ pShelf c j ∨ pLaw c j
theorem Agr.mono {P Q : Nat → Nat → Prop} {σ σ' : St} (h : ∀ c j, Q c j → P c j) (a : Agr P σ σ') : Agr Q σ σ' := fun c j q => a c j (h c j q)
/-- a new house, all else as it was -/
theorem inv_up {h h' : Hs} {σ σ' : St} (hI : InvImg h σ ∧ InvChg h σ ∧ InvTape σ ∧ InvLots σ ∧ (∀ s : Nat, s < 6 → InvShelf σ s) ∧ InvLaw σ) (a : Agr pRest σ σ') (c1 : HC 1 h' σ') (c2 : HM h' σ') (c3 : Wf h') (m1 : h.1 ≤ h'.1) (m2 : h.2.1 ≤ h'.2.1) (l : InvLed σ') : Inv σ' := by
  obtain ⟨i1, i2, i3, i4, i5, i6⟩ := hI
  exact ⟨h', c1, c2, c3, i1.keep (a.mono fun _ _ q => Or.inl q) m1 m2, l, i2.keep (a.mono fun _ _ q => Or.inr (Or.inl q)) m1 m2, i3.keep (a.mono fun _ _ q => Or.inr (Or.inr (Or.inl q))), i4.keep (a.mono fun _ _ q => Or.inr (Or.inr (Or.inr (Or.inl q)))), fun s hs => (i5 s hs).keep hs (a.mono fun _ _ q => Or.inr (Or.inr (Or.inr (Or.inr (Or.inl q))))), i6.keep (a.mono fun _ _ q => Or.inr (Or.inr (Or.inr (Or.inr (Or.inr q)))))⟩
/-- nothing that counts has changed -/
theorem inv_same {σ σ' : St} (hI : Inv σ) (a : Agr pRest σ σ') (a1 : Agr pH1 σ σ') (a2 : Agr pHM σ σ') (a3 : Agr pLed σ σ') : Inv σ' := by
  obtain ⟨h, c1, c2, c3, i1, i2, i3, i4, i5, i6, i7⟩ := hI
  exact inv_up ⟨i1, i3, i4, i5, i6, i7⟩ a (HC1.keep a1 c1) (HM.keep a2 c2) c3 (Nat.le_refl _) (Nat.le_refl _) (i2.keep a3)
