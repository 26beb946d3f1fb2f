/-! What the class's cells (0 .. 48) and the model's (49 .. 77) have in common between two calls. -/
def most (w : Int) : Int := stv0.getD w.toNat 0
/-- what one number may be -/
def fitv (h : Hs) (w v : Int) : Prop := (w = 1 ∧ (v = -1 ∨ (0 ≤ v ∧ v < (h.2.1 : Int)))) ∨ (w ≠ 1 ∧ 0 ≤ v ∧ v ≤ most w)
def Wf (h : Hs) : Prop := Hz h ∧ (∀ t w : Nat, h.1 ≤ t → h.2.2.1 t w = 0) ∧ (∀ b w : Nat, h.2.1 ≤ b → h.2.2.2 b w = 0) ∧ ∀ i w : Int, hOf h i w → fitv h w (hnum h i w)
theorem hset_n {h : Hs} {i w v : Int} : (hset h i w v).1 = h.1 ∧ (hset h i w v).2.1 = h.2.1 := by
  unfold hset
  split
  · exact ⟨rfl, rfl⟩
  · split <;> exact ⟨rfl, rfl⟩
theorem hOf_set {h : Hs} {i w v a b : Int} : hOf (hset h i w v) a b ↔ hOf h a b := by
  unfold hOf
  rw [hset_n.1, hset_n.2]
theorem fitv_set {h : Hs} {i w v a b : Int} : fitv (hset h i w v) a b ↔ fitv h a b := by
  unfold fitv
  rw [hset_n.2]
theorem hnum_set {h : Hs} {i w v a b : Int} (hv : hOf h i w) : hnum (hset h i w v) a b = if a = i ∧ b = w then v else hnum h a b := by
  unfold hnum
  rw [hset_n.1, hset_n.2]
  unfold hset
  rcases hv with q | q
  · rw [if_pos q]
    by_cases e : a = i ∧ b = w
    · rw [if_pos e, if_pos (by omega)]
      simp [up2, e.1, e.2]
    · rw [if_neg e]
      by_cases z : 0 ≤ b ∧ b < 4 ∧ 0 ≤ a ∧ a < (h.1 : Int)
      · rw [if_pos z, if_pos z]
        simp only [up2]
        rw [if_neg (by omega)]
      · rw [if_neg z, if_neg z]
  · rw [if_neg (show ¬ (0 ≤ w ∧ w < 4 ∧ 0 ≤ i ∧ i < (h.1 : Int)) by omega), if_pos q]
    by_cases e : a = i ∧ b = w
    · rw [if_pos e, if_neg (by omega), if_pos (by omega)]
      simp [up2, e.1, e.2]
    · rw [if_neg e]
      by_cases z : 4 ≤ b ∧ b < 13 ∧ 0 ≤ a ∧ a < (h.2.1 : Int)
      · rw [if_neg (by omega), if_pos z, if_neg (by omega), if_pos z]
        simp only [up2]
        rw [if_neg (by omega)]
      · rw [if_neg z, if_neg z]
theorem Wf.set {h : Hs} {i w v : Int} (hw : Wf h) (hv : hOf h i w) (hf : fitv h w v) : Wf (hset h i w v) := by
  obtain ⟨z, a, b, f⟩ := hw
  refine ⟨⟨by rw [hset_n.1]; exact z.1, by rw [hset_n.2]; exact z.2⟩, fun t q ht => ?_, fun t q ht => ?_, fun c d hcd => ?_⟩
  · rw [hset_n.1] at ht
    have e := a t q ht
    unfold hset
    split
    · show (if _ then _ else _) = _
      rw [if_neg (by omega)]
      exact e
    · split <;> exact e
  · rw [hset_n.2] at ht
    have e := b t q ht
    unfold hset
    split
    · exact e
    · split
      · show (if _ then _ else _) = _
        rw [if_neg (by omega)]
        exact e
      · exact e
  · rw [hOf_set] at hcd
    rw [fitv_set, hnum_set hv]
    by_cases e : c = i ∧ d = w
    · rw [if_pos e, e.2]
      exact hf
    · rw [if_neg e]
      exact f c d hcd
/-- the image in the model's row -/
def OldM (h : Hs) (σ : St) : Prop := σ 49 27 = (h.1 : Int) ∧ σ 49 28 = (h.2.1 : Int) ∧ (∀ t : Nat, t < 8 → σ 67 t = h.2.2.1 t 1 ∧ σ 67 (8 + t) = h.2.2.1 t 2 ∧ σ 67 (16 + t) = h.2.2.1 t 3) ∧ ∀ b : Nat, b < 7 → σ 67 (24 + b) = h.2.2.2 b 4 ∧ σ 67 (31 + b) = h.2.2.2 b 1 ∧ σ 67 (38 + b) = h.2.2.2 b 2
def InvImg (h : Hs) (σ : St) : Prop := σ 27 2 = σ 49 26 ∧ (σ 27 2 = 0 ∨ σ 27 2 = 1) ∧ (∀ i : Nat, i < 5 → σ 31 i = σ 68 i) ∧ ∃ k : Hs, HC 28 k σ ∧ OldM k σ ∧ Wf k ∧ k.1 ≤ h.1 ∧ k.2.1 ≤ h.2.1
def InvLed (σ : St) : Prop := ∀ i : Nat, i < 5 → σ 35 i = σ 66 i
def InvChg (h : Hs) (σ : St) : Prop := ∃ d n : Nat, d ≤ n ∧ n ≤ 40 ∧ σ 25 1 = (d : Int) ∧ σ 25 2 = ((n - d : Nat) : Int) ∧ σ 49 32 = (d : Int) ∧ σ 49 31 = (n : Int) ∧ (∀ j : Nat, j < 160 → σ 26 j = σ 69 j) ∧ ∀ k : Nat, k < n → hOf h (σ 26 (4 * k)) (σ 26 (4 * k + 1)) ∧ fitv h (σ 26 (4 * k + 1)) (σ 26 (4 * k + 2)) ∧ fitv h (σ 26 (4 * k + 1)) (σ 26 (4 * k + 3))
def InvTape (σ : St) : Prop := ∃ n : Nat, n ≤ 120 ∧ σ 4 5 = (n : Int) ∧ σ 49 7 = (n : Int) ∧ ∀ j : Nat, j < 120 → σ 5 j = σ 55 j ∧ 0 ≤ σ 5 j ∧ σ 5 j ≤ 255
def InvLots (σ : St) : Prop := ∃ n : Nat, n ≤ 50 ∧ σ 32 2 = (n : Int) ∧ σ 49 34 = (n : Int) ∧ (∀ j : Nat, j < 50 → σ 33 j = σ 70 j ∧ 0 ≤ σ 33 j ∧ σ 33 j ≤ 7) ∧ σ 32 3 = σ 49 36 ∧ 0 ≤ σ 32 3 ∧ σ 32 3 ≤ 1000000 ∧ ∀ j : Nat, j < 24 → σ 34 j = σ 71 j
def InvShelf (σ : St) (s : Nat) : Prop := ((σ (37 + 2 * s) 1 = 0 ∧ σ 72 s = -1) ∨ (σ (37 + 2 * s) 1 = 1 ∧ σ 72 s = 10 + σ (37 + 2 * s) 2 ∧ 0 ≤ σ (37 + 2 * s) 2 ∧ σ (37 + 2 * s) 2 < σ 32 2) ∨ (σ (37 + 2 * s) 1 = 2 ∧ σ 72 s = σ (37 + 2 * s) 3 ∧ 0 ≤ σ (37 + 2 * s) 3 ∧ σ (37 + 2 * s) 3 ≤ 4)) ∧ σ (37 + 2 * s) 4 = σ 73 s ∧ 0 ≤ σ 73 s ∧ σ 73 s ≤ 60 ∧ ∀ j : Nat, j < 60 → σ (38 + 2 * s) j = σ 74 (60 * s + j) ∧ (σ 72 s = 0 → -128 ≤ σ 74 (60 * s + j) ∧ σ 74 (60 * s + j) ≤ 127)
