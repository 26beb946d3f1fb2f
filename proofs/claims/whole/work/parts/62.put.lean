/-! An element is put. -/
noncomputable def keptv (q v : Int) : Int := if q = 0 then c_i2l (c_i2b (c_l2i v)) else if q = 1 then c_i2l (c_i2s (c_l2i v)) else if q = 2 then c_i2l (c_l2i v) else if q = 3 then v else if l_cmp v 0 = 0 then 0 else 1
theorem i2b_in (x : Int) : -128 ≤ c_i2b x ∧ c_i2b x ≤ 127 := by
  unfold c_i2b
  rw [Int8.toInt_toInt32]
  have h1 := Int8.le_toInt (Int32.ofInt x).toInt8
  have h2 := Int8.toInt_lt (Int32.ofInt x).toInt8
  have e : (2 : Int) ^ 7 = 128 := by decide
  rw [e] at h1 h2
  omega
theorem keptv_b (v : Int) : -128 ≤ keptv 0 v ∧ keptv 0 v ≤ 127 := by
  have e : keptv 0 v = c_i2l (c_i2b (c_l2i v)) := rfl
  have q := i2b_in (c_l2i v)
  rw [e, i2l_ok (ok_in (by omega) (by omega))]
  exact q
theorem kept10 (q v : Int) (σ : St) : fX10_kept q v σ = some (keptv q v, σ) := by
  unfold fX10_kept keptv
  repeat' split
  all_goals rfl
theorem kept6 (c : Nat) (v : Int) (σ : St) : fX6_kept c v σ = some (keptv (σ c 3) v, σ) := by
  unfold fX6_kept keptv
  repeat' split
  all_goals rfl
theorem ag_put (a1 : Int) (a2 : Int) (LV : Int) (ha1 : ok32 a1) (ha2 : ok32 a2) (hLV : ok64 LV) : Ag (fun σ => fX9_put 0 a1 a2 LV σ) (fun σ => fX10_put 49 a1 a2 LV σ) := by
  intro σ hI
  obtain ⟨h, c1, c2, c3, i1, i2, i3, i4, i5, i6, i7⟩ := id hI
  dsimp only
  unfold fX9_put
  by_cases a : 0 ≤ a1 ∧ a1 < 6
  · obtain ⟨s, hs, rfl⟩ : ∃ s : Nat, s < 6 ∧ a1 = (s : Int) := ⟨a1.toNat, by omega, by omega⟩
    obtain ⟨r1, r2, r3⟩ := sh_rf s hs
    have k := i6 s hs
    rw [refuses_eq hs ha2 k]
    obtain ⟨k1, k2, k3, k4, k5⟩ := k
    unfold fX10_put fX6_lay refE
    simp only [rfS, lnS, Int.toNat_natCast, r1, r2, r3]
    by_cases m : σ 72 s = -1
    · rw [if_pos m]
      refine ⟨-11, σ, σ, rfl, ?_, hI⟩
      rw [sh10, if_pos a, b1]
      dsimp only
      rw [if_pos (show inb (s : Int) 6 from ⟨by omega, by omega⟩), if_pos m]
    rw [if_neg m]
    by_cases p : 0 ≤ σ 72 s ∧ σ 72 s ≤ 4
    · rw [if_pos p]
      by_cases q : 0 ≤ a2 ∧ a2 < σ 73 s
      · rw [if_pos q, b0]
        dsimp only
        rw [if_pos (show inb (s : Int) 6 from ⟨by omega, by omega⟩), hasRun_eq ha2 (by omega) (by omega), if_pos (show 0 ≤ a2 ∧ a2 < σ (37 + 2 * s) 4 by omega), b1]
        dsimp only
        rw [kept6, Option.bind_some]
        dsimp only
        rw [if_pos ⟨by omega, by omega⟩, Option.bind_some]
        have e3 : σ (37 + 2 * s) 3 = σ 72 s := by omega
        rw [e3]
        have e : i_add (i_mul 60 (s : Int)) a2 = 60 * (s : Int) + a2 := by
          rw [im (ok_in (by omega) (by omega)), ia (ok_in (by omega) (by omega))]
        have et : (60 * (s : Int) + a2).toNat = 60 * s + a2.toNat := by omega
        refine ⟨1, up σ (38 + 2 * s) a2.toNat (keptv (σ 72 s) LV), up (up σ (38 + 2 * s) a2.toNat (keptv (σ 72 s) LV)) 74 (60 * s + a2.toNat) (keptv (σ 72 s) LV), rfl, ?_, ?_⟩
        · have g : ∀ c j, c ≠ 38 + 2 * s → up σ (38 + 2 * s) a2.toNat (keptv (σ 72 s) LV) c j = σ c j := fun c j hc => by rw [up_ne hc]
          have g72 := g 72 s (by omega)
          have g73 := g 73 s (by omega)
          rw [sh10, if_pos a, b1]
          dsimp only
          rw [isRow_eq hs]
          simp only [g72]
          rw [if_pos (show inb (s : Int) 6 from ⟨by omega, by omega⟩), if_neg m, if_pos p, b1]
          dsimp only
          simp only [g73]
          rw [if_pos (show inb (s : Int) 6 from ⟨by omega, by omega⟩), isb (ok_in (by omega) (by omega)), within_eq, if_pos ⟨q.1, by omega⟩, b1]
          dsimp only
          simp only [g72]
          rw [if_pos (show inb (s : Int) 6 from ⟨by omega, by omega⟩), kept10, Option.bind_some]
          simp only [e, et]
          rw [if_pos ⟨by omega, by omega⟩]
        · have ag : ∀ c j : Nat, ¬ (c = 38 + 2 * s ∨ c = 74) → up (up σ (38 + 2 * s) a2.toNat (keptv (σ 72 s) LV)) 74 (60 * s + a2.toNat) (keptv (σ 72 s) LV) c j = σ c j := by
            intro c j hcj
            rw [up_get, if_neg (by omega), up_get, if_neg (by omega)]
          refine ⟨h, HC1.keep (fun c j q => ag c j (by unfold pH1 at q; omega)) c1, HM.keep (fun c j q => ag c j (by unfold pHM at q; omega)) c2, c3, i1.keep (fun c j q => ag c j (by unfold pImg at q; omega)) (Nat.le_refl _) (Nat.le_refl _), i2.keep (fun c j q => ag c j (by unfold pLed at q; omega)), i3.keep (fun c j q => ag c j (by unfold pChg at q; omega)) (Nat.le_refl _) (Nat.le_refl _), i4.keep (fun c j q => ag c j (by unfold pTape at q; omega)), i5.keep (fun c j q => ag c j (by unfold pLots at q; omega)), fun w hw => ?_, i7.keep (fun c j q => ag c j (by unfold pLaw at q; omega))⟩
          have k := i6 w hw
          unfold InvShelf at *
          rw [ag (37 + 2 * w) 1 (by omega), ag (37 + 2 * w) 2 (by omega), ag (37 + 2 * w) 3 (by omega), ag (37 + 2 * w) 4 (by omega), ag 72 w (by omega), ag 73 w (by omega), ag 32 2 (by omega)]
          refine ⟨k.1, k.2.1, k.2.2.1, k.2.2.2.1, fun j hj => ?_⟩
          have e5 := k.2.2.2.2 j hj
          by_cases hk : w = s ∧ j = a2.toNat
          · rw [hk.1, hk.2]
            rw [show up (up σ (38 + 2 * s) a2.toNat (keptv (σ 72 s) LV)) 74 (60 * s + a2.toNat) (keptv (σ 72 s) LV) (38 + 2 * s) a2.toNat = keptv (σ 72 s) LV from by rw [up_get, if_neg (by omega), up_get, if_pos ⟨rfl, rfl⟩], show up (up σ (38 + 2 * s) a2.toNat (keptv (σ 72 s) LV)) 74 (60 * s + a2.toNat) (keptv (σ 72 s) LV) 74 (60 * s + a2.toNat) = keptv (σ 72 s) LV from by rw [up_get, if_pos ⟨rfl, rfl⟩]]
            exact ⟨rfl, fun z => by rw [z]; exact keptv_b LV⟩
          · rw [show up (up σ (38 + 2 * s) a2.toNat (keptv (σ 72 s) LV)) 74 (60 * s + a2.toNat) (keptv (σ 72 s) LV) (38 + 2 * w) j = σ (38 + 2 * w) j from by rw [up_get, if_neg (by omega), up_get, if_neg (by omega)], show up (up σ (38 + 2 * s) a2.toNat (keptv (σ 72 s) LV)) 74 (60 * s + a2.toNat) (keptv (σ 72 s) LV) 74 (60 * w + j) = σ 74 (60 * w + j) from by rw [up_get, if_neg (by omega), up_get, if_neg (by omega)]]
            exact e5
      · rw [if_neg q]
        refine ⟨-13, σ, σ, rfl, ?_, hI⟩
        rw [sh10, if_pos a, b1]
        dsimp only
        rw [if_pos (show inb (s : Int) 6 from ⟨by omega, by omega⟩), if_neg m, isRow_eq hs, if_pos p, b1]
        dsimp only
        rw [if_pos (show inb (s : Int) 6 from ⟨by omega, by omega⟩), isb (ok_in (by omega) (by omega)), within_eq, if_neg (by omega), b0]
    · rw [if_neg p]
      refine ⟨-12, σ, σ, rfl, ?_, hI⟩
      rw [sh10, if_pos a, b1]
      dsimp only
      rw [if_pos (show inb (s : Int) 6 from ⟨by omega, by omega⟩), if_neg m, isRow_eq hs, if_neg p, b0]
  · refine ⟨-1, σ, σ, ?_, ?_, hI⟩
    · unfold fX9_refusesElement
      rw [sh9, if_neg a, b0]
      rfl
    · unfold fX10_put
      rw [sh10, if_neg a, b0]
