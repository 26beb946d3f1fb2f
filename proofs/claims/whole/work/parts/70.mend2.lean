/-! A number is mended: the model's side. -/
theorem mend97 {ρ : St} {k : Nat} {x1 x2 x3 x4 : Int} (hk : k ≤ 39) (hr : ρ 49 32 = (k : Int)) : ∃ τ' : St, fX10_mend_97 49 x1 x2 x3 x4 ρ = some (x4, τ') ∧ τ' 49 32 = ((k + 1 : Nat) : Int) ∧ τ' 49 31 = ((k + 1 : Nat) : Int) ∧ (∀ j : Nat, τ' 69 j = putN (ρ 69) k x1 x2 x4 x3 j) ∧ ∀ q j : Nat, q ≠ 69 → ¬ (q = 49 ∧ (j = 31 ∨ j = 32)) → τ' q j = ρ q j := by
  unfold fX10_mend_97 fX10_mend_138 fX10_mend_152 fX10_mend_162
  simp only [rfS, lnS]
  have e0 : i_mul 4 (k : Int) = ((4 * k : Nat) : Int) := by
    rw [im (ok_in (by omega) (by omega))]
    omega
  have e1 : i_add ((4 * k : Nat) : Int) 1 = ((4 * k + 1 : Nat) : Int) := by
    rw [ia (ok_in (by omega) (by omega))]
    omega
  have e2 : i_add ((4 * k : Nat) : Int) 2 = ((4 * k + 2 : Nat) : Int) := by
    rw [ia (ok_in (by omega) (by omega))]
    omega
  have e3 : i_add ((4 * k : Nat) : Int) 3 = ((4 * k + 3 : Nat) : Int) := by
    rw [ia (ok_in (by omega) (by omega))]
    omega
  have e9 : i_add (k : Int) 1 = ((k + 1 : Nat) : Int) := by
    rw [ia (ok_in (by omega) (by omega))]
    omega
  have u : ∀ (τ : St) (a : Nat) (x : Int), up τ 69 a x 49 32 = τ 49 32 := fun τ a x => by rw [up_ne (by decide)]
  simp only [hr, e0, Int.toNat_natCast, u, e1, e2, e3]
  rw [if_pos ⟨by omega, by omega⟩, if_pos ⟨by omega, by omega⟩, if_pos ⟨by omega, by omega⟩, if_pos ⟨by omega, by omega⟩]
  rw [e9]
  refine ⟨_, rfl, by simp [up], by simp [up], fun j => ?_, fun q j q1 q2 => ?_⟩
  · simp [up, putN]
  · rw [up_get, if_neg (by omega), up_get, if_neg (by omega), up_ne q1, up_ne q1, up_ne q1, up_ne q1]
theorem mend57 {x1 x2 x3 x4 : Int} : ∀ (m n i : Nat) (σ : St), i + m = 156 → m < n → σ 49 32 = 40 → ∃ ρ : St, fX10_mend_57 49 x1 x2 x3 n x4 (i : Int) σ = fX10_mend_97 49 x1 x2 x3 x4 ρ ∧ ρ 49 32 = 39 ∧ (∀ j : Nat, ρ 69 j = if i ≤ j ∧ j < 156 then σ 69 (j + 4) else σ 69 j) ∧ ∀ q j : Nat, q ≠ 69 → ¬ (q = 49 ∧ j = 32) → ρ q j = σ q j
  | 0, n + 1, i, σ, hm, _, hs => by
    unfold fX10_mend_57
    rw [if_pos (by omega)]
    refine ⟨_, rfl, ?_, fun j => ?_, fun q j q1 q2 => ?_⟩
    · simp only [hs]
      simp [up]
      rw [isb (ok_in (by omega) (by omega))]
      rfl
    · rw [up_ne (by decide), if_neg (by omega)]
    · rw [up_get, if_neg q2]
  | m + 1, n + 1, i, σ, hm, hn, hs => by
    unfold fX10_mend_57
    simp only [rfS, lnS]
    have e1 : i_add (i : Int) 4 = ((i + 4 : Nat) : Int) := by
      rw [ia (ok_in (by omega) (by omega))]
      omega
    have e2 : i_add (i : Int) 1 = ((i + 1 : Nat) : Int) := by
      rw [ia (ok_in (by omega) (by omega))]
      omega
    simp only [e1, e2, Int.toNat_natCast]
    rw [if_neg (by omega), if_pos ⟨by omega, by omega⟩, if_pos ⟨by omega, by omega⟩]
    obtain ⟨ρ, f1, f2, f3, f4⟩ := mend57 m n (i + 1) (up σ 69 i (σ 69 (i + 4))) (by omega) (by omega) (by rw [up_ne (by decide)]; exact hs)
    refine ⟨ρ, f1, f2, fun j => ?_, fun q j q1 q2 => ?_⟩
    · rw [f3 j, up_get, up_get]
      by_cases hj : i + 1 ≤ j ∧ j < 156
      · rw [if_pos hj, if_neg (by omega), if_pos (by omega)]
      · rw [if_neg hj]
        by_cases h2 : j = i
        · rw [if_pos ⟨rfl, h2⟩, if_pos (by omega), h2]
        · rw [if_neg (by omega), if_neg (by omega)]
    · rw [f4 q j q1 q2, up_ne q1]
theorem ag_mend (a1 : Int) (a2 : Int) (a3 : Int) (ha1 : ok32 a1) (ha2 : ok32 a2) (ha3 : ok32 a3) : Ag (fun σ => fX9_mend 0 a1 a2 a3 σ) (fun σ => fX10_mend 49 a1 a2 a3 σ) := by
  intro σ hI
  obtain ⟨h, c1, c2, c3, i1, i2, ⟨d, n, d1, d2, g1, g2, g3, g4, g5, g6⟩, i4, i5, i6, i7⟩ := id hI
  dsimp only
  unfold fX9_mend
  simp only [rfS, lnS]
  rw [has_eq c1]
  by_cases v : hOf h a1 a2
  case neg =>
    rw [if_neg v, b0]
    refine ⟨_, σ, σ, rfl, ?_, hI⟩
    unfold fX10_mend
    rw [isOf_eq c2 c3.1, if_neg v, b0]
  rw [if_pos v, b1]
  have w0 : 0 ≤ a2 := by unfold hOf at v; omega
  have w1 : a2 < 13 := by unfold hOf at v; omega
  by_cases f : fitv h a2 a3
  case neg =>
    rw [mayBe_n c1 w0 w1 f, b0]
    refine ⟨_, σ, σ, rfl, ?_, hI⟩
    unfold fX10_mend
    rw [isOf_eq c2 c3.1, if_pos v, b1, isFit_n c2 c3.1 w0 w1 f, b0]
  rw [mayBe_y c1 w0 w1 f, b1]
  dsimp only
  rw [number_eq (by decide +kernel) c1 c3.1, Option.bind_some]
  dsimp only
  by_cases e : hnum h a1 a2 = a3
  · rw [if_pos e]
    refine ⟨_, σ, σ, rfl, ?_, hI⟩
    unfold fX10_mend
    rw [isOf_eq c2 c3.1, if_pos v, b1, isFit_y c2 c3.1 w0 w1 f, b1]
    dsimp only
    rw [get_eq c2 c3.1 v, Option.bind_some, if_pos e]
  rw [if_neg e]
  obtain ⟨τ, f1, k1, s1⟩ := become_eq (i := a1) (w := a2) (v := a3) (by decide +kernel) c1 c3.1
  rw [f1, Option.bind_some]
  obtain ⟨τ', f2, t1, t2, t3, t4⟩ := came_eq (τ := τ) (d := d) (a := a1) (b := a2) (c := hnum h a1 a2) (e := a3) (by omega) (by rw [s1 25 ⟨by decide, by decide⟩]; exact g1)
  rw [f2, Option.bind_some]
  have sm : ∀ c j : Nat, ¬ (c = 2 ∨ c = 3 ∨ c = 25 ∨ c = 26) → τ' c j = σ c j := by
    intro c j hc
    rw [t4 c j (by omega) (by omega), s1 c ⟨by show c ≠ 2; omega, by show c ≠ 3; omega⟩]
  have m0 : HM h τ' := HM.keep (fun c j q => sm c j (by unfold pHM at q; omega)) c2
  obtain ⟨ρ, f3, k2, s2⟩ := becomes_eq (i := a1) (w := a2) (v := a3) m0 c3.1 v
  have r1 : ρ 49 32 = (d : Int) := by rw [s2 49 (Or.inl (by decide)), sm 49 32 (by omega)]; exact g3
  have last : ∃ ω : St, (if ρ 49 32 = 40 then fX10_mend_57 49 a1 a2 a3 FU (hnum h a1 a2) 0 ρ else fX10_mend_97 49 a1 a2 a3 (hnum h a1 a2) ρ) = some (hnum h a1 a2, ω) ∧ ω 49 32 = ((min d 39 + 1 : Nat) : Int) ∧ ω 49 31 = ((min d 39 + 1 : Nat) : Int) ∧ (∀ j : Nat, ω 69 j = putN (rowN (ρ 69) d) (min d 39) a1 a2 (hnum h a1 a2) a3 j) ∧ ∀ q j : Nat, q ≠ 69 → ¬ (q = 49 ∧ (j = 31 ∨ j = 32)) → ω q j = ρ q j := by
    by_cases hd : d = 40
    · rw [if_pos (by omega)]
      obtain ⟨ψ, p1, p2, p3, p4⟩ := mend57 (x1 := a1) (x2 := a2) (x3 := a3) (x4 := hnum h a1 a2) 156 FU 0 ρ rfl (by decide) (by omega)
      have p1' : fX10_mend_57 49 a1 a2 a3 FU (hnum h a1 a2) 0 ρ = fX10_mend_97 49 a1 a2 a3 (hnum h a1 a2) ψ := p1
      obtain ⟨ω, o1, o2, o3, o4, o5⟩ := mend97 (ρ := ψ) (k := 39) (x1 := a1) (x2 := a2) (x3 := a3) (x4 := hnum h a1 a2) (by omega) p2
      refine ⟨ω, by rw [p1', o1], by rw [o2, hd]; rfl, by rw [o3, hd]; rfl, fun j => ?_, fun q j q1 q2 => by rw [o5 q j q1 q2, p4 q j q1 (by omega)]⟩
      rw [o4 j, hd]
      show putN (ψ 69) 39 _ _ _ _ j = putN (rowN (ρ 69) 40) 39 _ _ _ _ j
      have er : ψ 69 = rowN (ρ 69) 40 := by
        funext q
        rw [p3 q]
        unfold rowN
        by_cases hq : q < 156
        · rw [if_pos ⟨by omega, hq⟩, if_pos ⟨rfl, hq⟩]
        · rw [if_neg (by omega), if_neg (by omega)]
      rw [er]
    · rw [if_neg (by omega)]
      obtain ⟨ω, o1, o2, o3, o4, o5⟩ := mend97 (ρ := ρ) (k := d) (x1 := a1) (x2 := a2) (x3 := a3) (x4 := hnum h a1 a2) (by omega) r1
      have em : min d 39 = d := by omega
      refine ⟨ω, o1, by rw [o2, em], by rw [o3, em], fun j => ?_, o5⟩
      rw [o4 j, em]
      have er : rowN (ρ 69) d = ρ 69 := by
        funext q
        unfold rowN
        rw [if_neg (by omega)]
      rw [er]
  obtain ⟨ω, o1, o2, o3, o4, o5⟩ := last
  refine ⟨hnum h a1 a2, τ', ω, rfl, ?_, ?_⟩
  · unfold fX10_mend
    rw [isOf_eq m0 c3.1, if_pos v, b1, isFit_y m0 c3.1 w0 w1 f, b1]
    dsimp only
    rw [get_eq m0 c3.1 v, Option.bind_some, if_neg e, f3, Option.bind_some]
    exact o1
  · have s3 : ∀ c j : Nat, ¬ (c = 2 ∨ c = 3 ∨ c = 25 ∨ c = 26 ∨ c = 69 ∨ (50 ≤ c ∧ c ≤ 54) ∨ (c = 49 ∧ (j = 31 ∨ j = 32))) → ω c j = σ c j := by
      intro c j hc
      rw [o5 c j (by omega) (by omega), s2 c (by omega), sm c j (by omega)]
    have r2 : ∀ c j : Nat, c < 49 → ω c j = τ' c j := by
      intro c j hc
      rw [o5 c j (by omega) (by omega), s2 c (by omega)]
    have r3 : ∀ c j : Nat, c < 4 → ω c j = τ c j := by
      intro c j hc
      rw [r2 c j (by omega), t4 c j (by omega) (by omega)]
    have em : ∀ j : Nat, j < 160 → ω 26 j = ω 69 j := by
      intro j hj
      rw [r2 26 j (by decide), t3 j, o4 j]
      have e26 : ∀ q : Nat, q < 160 → τ 26 q = ρ 69 q := by
        intro q hq
        rw [s1 26 ⟨by decide, by decide⟩, s2 69 (Or.inr (by decide)), sm 69 q (by omega)]
        exact g5 q hq
      unfold putN rowN
      by_cases z : d = 40 ∧ j < 156
      · rw [if_pos z, if_pos z, e26 (j + 4) (by omega)]
      · rw [if_neg z, if_neg z, e26 j hj]
    refine ⟨hset h a1 a2 a3, HC1.keep (fun c j q => r3 c j (by unfold pH1 at q; omega)) k1, HM.keep (fun c j q => o5 c j (by unfold pHM at q; omega) (by unfold pHM at q; omega)) k2, c3.set v f, i1.keep (fun c j q => s3 c j (by unfold pImg at q; omega)) (by rw [hset_n.1]; exact Nat.le_refl _) (by rw [hset_n.2]; exact Nat.le_refl _), i2.keep (fun c j q => s3 c j (by unfold pLed at q; omega)), ⟨min d 39 + 1, min d 39 + 1, Nat.le_refl _, by omega, ?_, ?_, o2, o3, em, fun q hq => ?_⟩, i4.keep (fun c j q => s3 c j (by unfold pTape at q; omega)), i5.keep (fun c j q => s3 c j (by unfold pLots at q; omega)), fun s hs => (i6 s hs).keep hs (fun c j q => s3 c j (by unfold pShelf at q; omega)), i7.keep (fun c j q => s3 c j (by unfold pLaw at q; omega))⟩
    · rw [r2 25 1 (by decide)]
      exact t1
    · rw [r2 25 2 (by decide), t2, Nat.sub_self]
      rfl
    · rw [r2 26 _ (by decide), r2 26 _ (by decide), r2 26 _ (by decide), r2 26 _ (by decide), t3, t3, t3, t3]
      by_cases hq2 : q = min d 39
      · subst hq2
        have y0 : putN (rowN (τ 26) d) (min d 39) a1 a2 (hnum h a1 a2) a3 (4 * min d 39) = a1 := by
          unfold putN
          rw [if_neg (by omega), if_neg (by omega), if_neg (by omega), if_pos rfl]
        have y1 : putN (rowN (τ 26) d) (min d 39) a1 a2 (hnum h a1 a2) a3 (4 * min d 39 + 1) = a2 := by
          unfold putN
          rw [if_neg (by omega), if_neg (by omega), if_pos rfl]
        have y2 : putN (rowN (τ 26) d) (min d 39) a1 a2 (hnum h a1 a2) a3 (4 * min d 39 + 2) = hnum h a1 a2 := by
          unfold putN
          rw [if_neg (by omega), if_pos rfl]
        have y3 : putN (rowN (τ 26) d) (min d 39) a1 a2 (hnum h a1 a2) a3 (4 * min d 39 + 3) = a3 := by
          unfold putN
          rw [if_pos rfl]
        rw [y0, y1, y2, y3]
        exact ⟨hOf_set.mpr v, fitv_set.mpr (c3.2.2.2 a1 a2 v), fitv_set.mpr f⟩
      · have yy : ∀ r : Nat, r < 4 → putN (rowN (τ 26) d) (min d 39) a1 a2 (hnum h a1 a2) a3 (4 * q + r) = if d = 40 then σ 26 (4 * (q + 1) + r) else σ 26 (4 * q + r) := by
          intro r hr
          unfold putN rowN
          rw [if_neg (by omega), if_neg (by omega), if_neg (by omega), if_neg (by omega), s1 26 ⟨by decide, by decide⟩]
          by_cases z : d = 40
          · rw [if_pos (by omega), if_pos z, show 4 * q + r + 4 = 4 * (q + 1) + r by omega]
          · rw [if_neg (by omega), if_neg z]
        have y0 := yy 0 (by omega)
        rw [Nat.add_zero] at y0
        rw [y0, yy 1 (by omega), yy 2 (by omega), yy 3 (by omega)]
        by_cases z : d = 40
        · rw [if_pos z, if_pos z, if_pos z, if_pos z]
          obtain ⟨w1, w2, w3⟩ := g6 (q + 1) (by omega)
          exact ⟨hOf_set.mpr w1, fitv_set.mpr w2, fitv_set.mpr w3⟩
        · rw [if_neg z, if_neg z, if_neg z, if_neg z]
          obtain ⟨w1, w2, w3⟩ := g6 q (by omega)
          exact ⟨hOf_set.mpr w1, fitv_set.mpr w2, fitv_set.mpr w3⟩
