/-! The model's sales in thought. -/
theorem countOf_l {h : Hs} {σ : St} {b : Int} (hh : HM h σ) (hz : Hz h) : ∀ (n k : Nat), k ≤ h.1 → h.1 < k + n → fX10_countOf_4 49 b n (cnt h b k) (k : Int) σ = some (cnt h b h.1, σ) := by
  have z1 := hz.1
  intro n
  induction n with
  | zero => intro k h1 h2; omega
  | succ n ih =>
    intro k h1 h2
    rw [fX10_countOf_4.eq_2, hh.1]
    simp only [rfS, lnS]
    by_cases e : (h.1 : Int) ≤ (k : Int)
    · rw [if_pos e, show k = h.1 by omega]
    · obtain ⟨-, e1, e2, -⟩ := hh.2.2.1 k (by omega)
      have c := cnt_le h b k
      have e8 : i_add (cnt h b k) 1 = cnt h b k + 1 := ia (ok_in (by omega) (by omega))
      have e9 : i_add (k : Int) 1 = ((k + 1 : Nat) : Int) := by
        rw [ia (ok_in (by omega) (by omega))]
        omega
      have i1 := ih (k + 1) (by omega) (by omega)
      conv at i1 => lhs; unfold cnt
      unfold fX10_countOf_34
      simp only [Int.toNat_natCast, e1, e2, e8, e9]
      rw [if_neg e, if_pos ⟨by omega, by omega⟩]
      by_cases q1 : h.2.2.1 k 1 = b
      · rw [if_pos q1, if_pos ⟨by omega, by omega⟩]
        by_cases q2 : h.2.2.1 k 2 = 0
        · rw [if_pos q2]
          rw [if_pos ⟨q1, q2⟩] at i1
          exact i1
        · rw [if_neg q2]
          rw [if_neg (fun z => q2 z.2)] at i1
          exact i1
      · rw [if_neg q1]
        rw [if_neg (fun z => q1 z.1)] at i1
        exact i1
theorem countOf_eq {h : Hs} {σ : St} {b : Int} (hh : HM h σ) (hz : Hz h) : fX10_countOf 49 b σ = some (cnt h b h.1, σ) := by
  have z1 := hz.1
  exact countOf_l hh hz FU 0 (Nat.zero_le _) (by unfold FU; omega)
theorem missing_l {h : Hs} {σ : St} {b : Int} (hh : HM h σ) (hz : Hz h) : ∀ (n k : Nat), k ≤ h.1 → h.1 < k + n → fX10_missing_4 49 b n (mis h b k) (k : Int) σ = some (mis h b h.1, σ) := by
  have z1 := hz.1
  intro n
  induction n with
  | zero => intro k h1 h2; omega
  | succ n ih =>
    intro k h1 h2
    rw [fX10_missing_4.eq_2, hh.1]
    simp only [rfS, lnS]
    by_cases e : (h.1 : Int) ≤ (k : Int)
    · rw [if_pos e, show k = h.1 by omega]
    · obtain ⟨-, e1, e2, e3⟩ := hh.2.2.1 k (by omega)
      have c := mis_le h b k
      have e8 : i_add (mis h b k) 1 = mis h b k + 1 := ia (ok_in (by omega) (by omega))
      have e9 : i_add (k : Int) 1 = ((k + 1 : Nat) : Int) := by
        rw [ia (ok_in (by omega) (by omega))]
        omega
      have i1 := ih (k + 1) (by omega) (by omega)
      conv at i1 => lhs; unfold mis
      unfold fX10_missing_44
      simp only [Int.toNat_natCast, e1, e2, e3, e8, e9]
      rw [if_neg e, if_pos ⟨by omega, by omega⟩]
      by_cases q1 : h.2.2.1 k 1 = b
      · rw [if_pos q1, if_pos ⟨by omega, by omega⟩]
        by_cases q2 : h.2.2.1 k 2 = 1
        · rw [if_pos q2, if_pos ⟨by omega, by omega⟩]
          by_cases q3 : h.2.2.1 k 3 ≤ 0
          · rw [if_pos q3]
            rw [if_neg (fun z => by omega)] at i1
            exact i1
          · rw [if_neg q3]
            rw [if_pos ⟨q1, q2, by omega⟩] at i1
            exact i1
        · rw [if_neg q2]
          rw [if_neg (fun z => q2 z.2.1)] at i1
          exact i1
      · rw [if_neg q1]
        rw [if_neg (fun z => q1 z.1)] at i1
        exact i1
theorem missing_eq {h : Hs} {σ : St} {b : Int} (hh : HM h σ) (hz : Hz h) : fX10_missing 49 b σ = some (mis h b h.1, σ) := by
  have z1 := hz.1
  exact missing_l hh hz FU 0 (Nat.zero_le _) (by unfold FU; omega)
/-- the model's law, told or not, means E -/
def GMl (σ : St) (E : E6) : Prop := ∀ τ : St, τ 49 9 = σ 49 9 → τ 49 10 = σ 49 10 → τ 56 = σ 56 → τ 57 = σ 57 → τ 58 = σ 58 → τ 59 = σ 59 → ∃ τ' : St, (if τ 49 9 = 0 then some (i_sub (m_min (i_mul (τ 65 0) (τ 65 3)) (i_add (τ 65 1) (τ 65 2))) (i_mul 5 (τ 65 4)), τ) else fX10_byLaw 49 τ) = some (E (τ 65 0) (τ 65 1) (τ 65 2) (τ 65 3) (τ 65 4) (τ 65 5), τ') ∧ Same τ τ' (fun d => d ≠ 64)
theorem law_ex {σ : St} (k : InvLaw σ) : ∃ E : E6, GC σ E ∧ GMl σ E := by
  obtain ⟨k1, k2, k3, k4⟩ := k
  by_cases t : σ 4 9 = 1
  · obtain ⟨E, g1, g2⟩ := k4 t
    refine ⟨E, g1, fun τ t9 t1 t2 t3 t4 t5 => ?_⟩
    obtain ⟨τ', f, s⟩ := g2 τ t1 t2 t3 t4 t5
    exact ⟨τ', by rw [if_neg (by omega)]; exact f, s⟩
  · have t0 : σ 4 9 = 0 := by omega
    refine ⟨fun c l h v n _ => i_sub (m_min (i_mul c v) (i_add l h)) (i_mul 5 n), fun τ t1 t2 t3 t4 c l h v n m => ⟨τ, ?_, fun _ _ => rfl⟩, fun τ t9 t1 t2 t3 t4 t5 => ⟨τ, ?_, fun _ _ => rfl⟩⟩
    · unfold fX4_gives
      rw [if_pos (by omega)]
    · rw [if_pos (by omega)]
theorem GMl.keep {σ σ' : St} {E : E6} (g : GMl σ E) (s9 : σ' 49 9 = σ 49 9) (s10 : σ' 49 10 = σ 49 10) (s : ∀ c, 56 ≤ c → c ≤ 59 → σ' c = σ c) : GMl σ' E := by
  intro τ t9 t1 t2 t3 t4 t5
  exact g τ (t9.trans s9) (t1.trans s10) (t2.trans (s 56 (by decide) (by decide))) (t3.trans (s 57 (by decide) (by decide))) (t4.trans (s 58 (by decide) (by decide))) (t5.trans (s 59 (by decide) (by decide)))
/-- the model's house and law -/
def MC (E : E6) (h : Hs) (σ : St) : Prop := HM h σ ∧ GMl σ E ∧ Wf h
abbrev mS (σ σ' : St) : Prop := Same σ σ' (fun d => d ≠ 64 ∧ d ≠ 65)
theorem MC.keep {E : E6} {h : Hs} {σ σ' : St} (k : MC E h σ) (s : ∀ c j : Nat, (pHM c j ∨ (56 ≤ c ∧ c ≤ 59) ∨ (c = 49 ∧ (j = 9 ∨ j = 10))) → σ' c j = σ c j) : MC E h σ' := by
  refine ⟨HM.keep (fun c j q => s c j (Or.inl q)) k.1, k.2.1.keep (s 49 9 (by omega)) (s 49 10 (by omega)) (fun c h1 h2 => funext fun j => s c j (by omega)), k.2.2⟩
theorem MC.same {E : E6} {h : Hs} {σ σ' : St} (k : MC E h σ) (s : mS σ σ') : MC E h σ' := k.keep (fun c j q => by rw [s c (by unfold pHM at q; omega)])
theorem mS.trans {σ σ1 σ2 : St} (a : mS σ σ1) (b : mS σ1 σ2) : mS σ σ2 := fun c hc => (b c hc).trans (a c hc)
theorem yearsOf_68 {E : E6} {h : Hs} {σ : St} {b x2 : Int} {x3 : Int} (k : MC E h σ) (h4 : σ 65 4 = x3) : ∃ σ' : St, fX10_yearsOf_68 49 b x2 x3 σ = some (m_max 0 (m_min 99 (E (σ 65 0) (σ 65 1) (σ 65 2) (σ 65 3) x3 (mis h b h.1))), σ') ∧ mS σ σ' := by
  unfold fX10_yearsOf_68 fX10_yearsOf_126
  simp only [rfS, lnS]
  rw [missing_eq k.1 k.2.2.1, Option.bind_some, if_pos (by decide)]
  dsimp only
  have r : ∀ j : Nat, up σ 65 (Int.toNat 5) (mis h b h.1) 49 j = σ 49 j := fun j => by rw [up_ne (by decide)]
  obtain ⟨τ', f, s⟩ := k.2.1 (up σ 65 (Int.toNat 5) (mis h b h.1)) (r 9) (r 10) (up_ne (by decide)) (up_ne (by decide)) (up_ne (by decide)) (up_ne (by decide))
  have r0 : up σ 65 (Int.toNat 5) (mis h b h.1) 65 0 = σ 65 0 := by simp [up]
  have r1 : up σ 65 (Int.toNat 5) (mis h b h.1) 65 1 = σ 65 1 := by simp [up]
  have r2 : up σ 65 (Int.toNat 5) (mis h b h.1) 65 2 = σ 65 2 := by simp [up]
  have r3 : up σ 65 (Int.toNat 5) (mis h b h.1) 65 3 = σ 65 3 := by simp [up]
  have r4 : up σ 65 (Int.toNat 5) (mis h b h.1) 65 4 = x3 := by rw [← h4]; simp [up]
  have r5 : up σ 65 (Int.toNat 5) (mis h b h.1) 65 5 = mis h b h.1 := by simp [up]
  rw [r0, r1, r2, r3, r4, r5] at f
  have sm : mS σ τ' := fun c hc => by rw [s c hc.1, up_ne hc.2]
  by_cases q : up σ 65 (Int.toNat 5) (mis h b h.1) 49 9 = 0
  · rw [if_pos q] at f
    rw [if_pos q, if_pos (by decide), if_pos (by decide), if_pos (by decide), if_pos (by decide)]
    have f' := Option.some.inj f
    refine ⟨τ', ?_, sm⟩
    have e1 := congrArg Prod.fst f'
    have e2 := congrArg Prod.snd f'
    dsimp only at e1 e2
    rw [← e1, ← e2]
    have q0 : Int.toNat 0 = 0 := rfl
    have q1 : Int.toNat 1 = 1 := rfl
    have q2 : Int.toNat 2 = 2 := rfl
    have q3 : Int.toNat 3 = 3 := rfl
    rw [q0, q1, q2, q3, r0, r1, r2, r3]
  · rw [if_neg q] at f
    rw [if_neg q, f, Option.bind_some]
    exact ⟨τ', rfl, sm⟩
theorem yearsOf_eq {E : E6} {h : Hs} {σ : St} {b k : Nat} {x3 : Int} (m : MC E h σ) (hb : b < 7) (hk : k < 4) : ∃ σ' : St, fX10_yearsOf 49 (b : Int) (k : Int) x3 σ = some (yrs E h b k x3, σ') ∧ mS σ σ' := by
  obtain ⟨-, -, -, w⟩ := m.1
  have a0 : σ 54 b = h.2.2.2 b 0 := by
    have := w b 0 hb (by decide)
    simpa using this
  have a1 : σ 54 (7 + b) = h.2.2.2 b 1 := by
    have := w b 1 hb (by decide)
    simpa using this
  have a2 : σ 54 (14 + b) = h.2.2.2 b 2 := by
    have := w b 2 hb (by decide)
    simpa using this
  have a3 : σ 54 (7 * (5 + k) + b) = h.2.2.2 b (5 + k) := w b (5 + k) hb (by omega)
  unfold fX10_yearsOf fX10_yearsOf_42 fX10_yearsOf_61
  simp only [rfS, lnS]
  have e1 : i_add 7 (b : Int) = ((7 + b : Nat) : Int) := by
    rw [ia (ok_in (by omega) (by omega))]
    omega
  have e2 : i_add 14 (b : Int) = ((14 + b : Nat) : Int) := by
    rw [ia (ok_in (by omega) (by omega))]
    omega
  have e3 : i_add (i_mul 7 (i_add 5 (k : Int))) (b : Int) = ((7 * (5 + k) + b : Nat) : Int) := by
    rw [ia (x := 5) (ok_in (by omega) (by omega)), im (ok_in (by omega) (by omega)), ia (ok_in (by omega) (by omega))]
    omega
  have q0 : Int.toNat 0 = 0 := rfl
  have q1 : Int.toNat 1 = 1 := rfl
  have q2 : Int.toNat 2 = 2 := rfl
  have q3 : Int.toNat 3 = 3 := rfl
  have q4 : Int.toNat 4 = 4 := rfl
  have r : ∀ (τ : St) (j : Nat) (x : Int), up τ 65 j x 54 = τ 54 := fun τ j x => up_ne (by decide)
  simp only [e1, e2, e3, Int.toNat_natCast, q0, q1, q2, q3, q4, r, a0, a1, a2, a3]
  rw [if_pos ⟨by omega, by omega⟩, if_pos (by decide), if_pos ⟨by omega, by omega⟩, if_pos (by decide), if_pos ⟨by omega, by omega⟩, if_pos (by decide), if_pos ⟨by omega, by omega⟩, if_pos (by decide), if_pos (by decide)]
  have mm : MC E h (up (up (up (up (up σ 65 0 (h.2.2.2 b 0)) 65 1 (h.2.2.2 b 1)) 65 2 (h.2.2.2 b 2)) 65 3 (h.2.2.2 b (5 + k))) 65 4 x3) := m.same (fun c hc => by rw [up_ne hc.2, up_ne hc.2, up_ne hc.2, up_ne hc.2, up_ne hc.2])
  obtain ⟨σ', f, s⟩ := yearsOf_68 (b := (b : Int)) (x2 := (k : Int)) (x3 := x3) mm (by simp [up])
  refine ⟨σ', ?_, fun c hc => ?_⟩
  · rw [f]
    have g0 : up (up (up (up (up σ 65 0 (h.2.2.2 b 0)) 65 1 (h.2.2.2 b 1)) 65 2 (h.2.2.2 b 2)) 65 3 (h.2.2.2 b (5 + k))) 65 4 x3 65 0 = h.2.2.2 b 0 := by simp [up]
    have g1 : up (up (up (up (up σ 65 0 (h.2.2.2 b 0)) 65 1 (h.2.2.2 b 1)) 65 2 (h.2.2.2 b 2)) 65 3 (h.2.2.2 b (5 + k))) 65 4 x3 65 1 = h.2.2.2 b 1 := by simp [up]
    have g2 : up (up (up (up (up σ 65 0 (h.2.2.2 b 0)) 65 1 (h.2.2.2 b 1)) 65 2 (h.2.2.2 b 2)) 65 3 (h.2.2.2 b (5 + k))) 65 4 x3 65 2 = h.2.2.2 b 2 := by simp [up]
    have g3 : up (up (up (up (up σ 65 0 (h.2.2.2 b 0)) 65 1 (h.2.2.2 b 1)) 65 2 (h.2.2.2 b 2)) 65 3 (h.2.2.2 b (5 + k))) 65 4 x3 65 3 = h.2.2.2 b (5 + k) := by simp [up]
    rw [g0, g1, g2, g3]
    rfl
  · rw [s c hc, up_ne hc.2, up_ne hc.2, up_ne hc.2, up_ne hc.2, up_ne hc.2]
theorem wouldMiss_eq {E : E6} {h : Hs} {σ : St} {b t : Nat} (m : MC E h σ) (hb : b < h.2.1) (ht : t < h.1) : ∃ σ' : St, fX10_wouldMiss 49 (b : Int) (t : Int) σ = some (wm E h b t, σ') ∧ mS σ σ' := by
  have z := m.2.2.1
  have z1 := z.1
  have z2 := z.2
  have k0 := (wf_T m.2.2 ht).1
  unfold fX10_wouldMiss
  simp only [rfS, lnS, Int.toNat_natCast, (m.1.2.2.1 t (by omega)).1]
  rw [if_pos ⟨by omega, by omega⟩, countOf_eq m.1 z, Option.bind_some]
  dsimp only
  obtain ⟨σ', f, s⟩ := yearsOf_eq (b := b) (k := (h.2.2.1 t 0).toNat) (x3 := cnt h b h.1) m (by omega) (by omega)
  rw [show (((h.2.2.1 t 0).toNat : Nat) : Int) = h.2.2.1 t 0 by omega] at f
  rw [f, Option.bind_some]
  exact ⟨σ', rfl, s⟩
theorem bidOf_eq {E : E6} {h : Hs} {σ : St} {b t : Nat} (m : MC E h σ) (hb : b < h.2.1) (ht : t < h.1) : ∃ σ' : St, fX10_bidOf 49 (b : Int) (t : Int) σ = some (bids E h t b, σ') ∧ mS σ σ' := by
  have z2 := m.2.2.1.2
  obtain ⟨σ', f, s⟩ := wouldMiss_eq m hb ht
  have w := m.1.2.2.2
  have a3 : σ 54 (21 + b) = h.2.2.2 b 3 := by
    have := w b 3 (by omega) (by decide)
    simpa using this
  have a4 : σ 54 (28 + b) = h.2.2.2 b 4 := by
    have := w b 4 (by omega) (by decide)
    simpa using this
  have e1 : i_add 21 (b : Int) = ((21 + b : Nat) : Int) := by
    rw [ia (ok_in (by omega) (by omega))]
    omega
  have e2 : i_add 28 (b : Int) = ((28 + b : Nat) : Int) := by
    rw [ia (ok_in (by omega) (by omega))]
    omega
  unfold fX10_bidOf
  rw [f, Option.bind_some]
  have s54 : σ' 54 = σ 54 := s 54 ⟨by decide, by decide⟩
  simp only [rfS, lnS, e1, e2, Int.toNat_natCast, s54, a3, a4]
  rw [if_pos ⟨by omega, by omega⟩, if_pos ⟨by omega, by omega⟩]
  refine ⟨σ', ?_, s⟩
  unfold bids bd
  split
  · split <;> rfl
  · rfl
theorem winner_l {E : E6} {h : Hs} {t : Nat} (ht : t < h.1) (hw : Wf h) : ∀ (n k : Nat) (σ : St), MC E h σ → k ≤ h.2.1 → h.2.1 < k + n → ∃ σ' : St, fX10_winner_8 49 (t : Int) n (winS (bids E h t) k).1 (winS (bids E h t) k).2 (k : Int) σ = some (win E h t, σ') ∧ mS σ σ' := by
  have z2 := hw.1.2
  intro n
  induction n with
  | zero => intro k σ m h1 h2; omega
  | succ n ih =>
    intro k σ m h1 h2
    rw [fX10_winner_8.eq_2, m.1.2.1]
    by_cases e : (h.2.1 : Int) ≤ (k : Int)
    · rw [if_pos e, show k = h.2.1 by omega]
      exact ⟨σ, rfl, fun _ _ => rfl⟩
    · obtain ⟨σ1, f, s⟩ := bidOf_eq m (show k < h.2.1 by omega) ht
      have e9 : i_add (k : Int) 1 = ((k + 1 : Nat) : Int) := by
        rw [ia (ok_in (by omega) (by omega))]
        omega
      obtain ⟨σ2, i1, s2⟩ := ih (k + 1) σ1 (m.same s) (by omega) (by omega)
      conv at i1 => lhs; unfold winS
      rw [if_neg e, f, Option.bind_some]
      unfold fX10_winner_57 fX10_winner_53 fX10_winner_57
      dsimp only
      rw [e9]
      refine ⟨σ2, ?_, mS.trans s s2⟩
      by_cases q0 : bids E h t k = 0
      · rw [if_pos q0] at i1
        rw [if_pos q0]
        exact i1
      · rw [if_neg q0] at i1
        rw [if_neg q0]
        by_cases q1 : (winS (bids E h t) k).2 ≤ bids E h t k
        · rw [if_pos q1] at i1
          rw [if_pos q1]
          by_cases q2 : bids E h t k = (winS (bids E h t) k).2
          · rw [if_pos q2] at i1
            rw [if_pos q2]
            exact i1
          · rw [if_neg q2] at i1
            rw [if_neg q2]
            exact i1
        · rw [if_neg q1] at i1
          rw [if_neg q1]
          exact i1
theorem winner10 {E : E6} {h : Hs} {σ : St} {t : Nat} (m : MC E h σ) (ht : t < h.1) : ∃ σ' : St, fX10_winner 49 (t : Int) σ = some (win E h t, σ') ∧ mS σ σ' := by
  have z2 := m.2.2.1.2
  exact winner_l ht m.2.2 FU 0 σ m (Nat.zero_le _) (by unfold FU; omega)
theorem forSale1 {h : Hs} {σ : St} {t : Nat} (hh : HM h σ) (ht : t < 8) : fX10_isForSale 49 (t : Int) σ = some (if h.2.2.1 t 1 = -1 ∧ h.2.2.1 t 2 = 0 then 1 else 0, σ) := by
  obtain ⟨-, e1, e2, -⟩ := hh.2.2.1 t ht
  unfold fX10_isForSale
  simp only [rfS, lnS, Int.toNat_natCast, e1, e2]
  have ib : inb (t : Int) 8 := ⟨by omega, by omega⟩
  rw [if_pos ib]
  by_cases a : h.2.2.1 t 1 = -1
  · rw [if_pos a, if_pos ib]
    by_cases b : h.2.2.1 t 2 = 0
    · rw [if_pos b, if_pos ⟨a, b⟩]
    · rw [if_neg b, if_neg (fun z => b z.2)]
  · rw [if_neg a, if_neg (fun z => a z.1)]
theorem goes10 {E : E6} {h : Hs} {σ : St} {t : Nat} (m : MC E h σ) (ht : t < h.1) : ∃ σ' : St, fX10_goes 49 (t : Int) σ = some ((goesP E h t).1, σ') ∧ MC E (goesP E h t).2 σ' ∧ Same σ σ' (fun d => d ≠ 51 ∧ d ≠ 52 ∧ d ≠ 53 ∧ d ≠ 64 ∧ d ≠ 65) := by
  have z1 := m.2.2.1.1
  have wf := goesP_wf (E := E) m.2.2 ht
  unfold fX10_goes
  rw [forSale1 m.1 (by omega)]
  unfold goesP at *
  by_cases a : h.2.2.1 t 1 = -1 ∧ h.2.2.1 t 2 = 0
  case neg =>
    rw [if_neg a, b0, if_neg a]
    exact ⟨σ, rfl, m, fun _ _ => rfl⟩
  rw [if_pos a] at wf
  rw [if_pos a, b1, if_pos a]
  dsimp only
  obtain ⟨σ1, f, s⟩ := winner10 m ht
  have m1 := m.same s
  rw [f, Option.bind_some]
  simp only [rfS, lnS, Int.toNat_natCast]
  by_cases q8 : win E h t = 8
  · rw [if_pos q8] at wf
    rw [if_pos q8, if_pos q8, if_pos ⟨by omega, by omega⟩, if_pos ⟨by omega, by omega⟩, q8]
    refine ⟨_, rfl, ⟨HM_T (w := 3) (HM_T (w := 2) m1.1 (by decide)) (by decide), m1.2.1.keep (by rw [up_ne (by decide), up_ne (by decide)]) (by rw [up_ne (by decide), up_ne (by decide)]) (fun c h1 h2 => by rw [up_ne (by omega), up_ne (by omega)]), wf⟩, fun c hc => by rw [up_ne (by omega), up_ne (by omega), s c (by omega)]⟩
  · rw [if_neg q8] at wf
    rw [if_neg q8, if_neg q8]
    by_cases q2 : win E h t = -2
    · rw [if_pos q2, if_pos q2, q2]
      exact ⟨σ1, rfl, m1, fun c hc => s c (by omega)⟩
    · rw [if_neg q2] at wf
      rw [if_neg q2, if_neg q2, if_pos ⟨by omega, by omega⟩]
      exact ⟨_, rfl, ⟨HM_T (w := 1) m1.1 (by decide), m1.2.1.keep (by rw [up_ne (by decide)]) (by rw [up_ne (by decide)]) (fun c h1 h2 => by rw [up_ne (by omega)]), wf⟩, fun c hc => by rw [up_ne (by omega), s c (by omega)]⟩
