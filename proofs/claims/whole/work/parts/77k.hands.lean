/-! Who would change with whom: hands. -/
theorem cnt_posh {h : Hs} {a : Nat} {b : Int} (h1 : h.2.2.1 a 1 = b) (h2 : h.2.2.1 a 2 = 0) : ∀ n : Nat, a < n → 1 ≤ cnt h b n
  | 0, hn => by omega
  | n + 1, hn => by
    have c := cnt_le h b n
    unfold cnt
    by_cases e : a = n
    · subst e
      rw [if_pos ⟨h1, h2⟩]
      omega
    · have ih := cnt_posh h1 h2 n (by omega)
      split <;> omega
def okh (h : Hs) (a b : Nat) : Prop := h.2.2.1 a 1 ≠ -1 ∧ h.2.2.1 b 1 ≠ -1 ∧ h.2.2.1 a 1 ≠ h.2.2.1 b 1 ∧ h.2.2.1 a 2 = 0 ∧ h.2.2.1 b 2 = 0
noncomputable def wcI (E : E6) (h : Hs) (a b : Nat) : Int := if yrs E h (h.2.2.1 a 1).toNat (h.2.2.1 b 0).toNat (cnt h (h.2.2.1 a 1) h.1 - 1) ≤ yrs E h (h.2.2.1 a 1).toNat (h.2.2.1 a 0).toNat (cnt h (h.2.2.1 a 1) h.1 - 1) then 0 else 1
theorem change9n {E : E6} {h : Hs} {τ : St} {a b : Nat} (T : TR E h h τ) (ha : a < h.1) (hb : b < h.1) (q : ¬ okh h a b) : fX7_wouldChange 10 (a : Int) (b : Int) τ = some (0, τ) := by
  have hw := T.2.1.1
  have ho : isO 2 11 = true := by decide +kernel
  have k1 := T.1.1
  obtain ⟨-, ga1, ga2, -⟩ := wf_T hw ha
  obtain ⟨-, gb1, gb2, -⟩ := wf_T hw hb
  have na1 : hnum h (a : Int) 1 = h.2.2.1 a 1 := hnum_T (w := 1) ha (by decide)
  have nb1 : hnum h (b : Int) 1 = h.2.2.1 b 1 := hnum_T (w := 1) hb (by decide)
  have na2 : hnum h (a : Int) 2 = h.2.2.1 a 2 := hnum_T (w := 2) ha (by decide)
  have nb2 : hnum h (b : Int) 2 = h.2.2.1 b 2 := hnum_T (w := 2) hb (by decide)
  unfold okh at q
  unfold fX7_wouldChange
  simp only [rfS]
  rw [number_eq ho k1 hw.1, Option.bind_some, na1]
  dsimp only
  rw [number_eq ho k1 hw.1, Option.bind_some, nb1]
  dsimp only
  rw [hasBidder_eq k1]
  by_cases q1 : h.2.2.1 a 1 = -1
  · rw [if_neg (by omega), b0]
  rw [if_pos (by omega), b1]
  dsimp only
  rw [hasBidder_eq k1]
  by_cases q2 : h.2.2.1 b 1 = -1
  · rw [if_neg (by omega), b0]
  rw [if_pos (by omega), b1]
  dsimp only
  by_cases q3 : h.2.2.1 a 1 = h.2.2.1 b 1
  · rw [if_pos q3]
  rw [if_neg q3, number_eq ho k1 hw.1, Option.bind_some, na2]
  dsimp only
  by_cases q4 : h.2.2.1 a 2 = 0
  · rw [if_pos q4, number_eq ho k1 hw.1, Option.bind_some, nb2]
    dsimp only
    rw [if_neg (fun z => q ⟨q1, q2, q3, q4, z⟩)]
  · rw [if_neg q4]
theorem change9y {E : E6} {h : Hs} {τ : St} {a b : Nat} (T : TR E h h τ) (ha : a < h.1) (hb : b < h.1) (q : okh h a b) : ∃ τ' : St, fX7_wouldChange 10 (a : Int) (b : Int) τ = some (wcI E h a b, τ') ∧ TR E h h τ' ∧ Same τ τ' (fun d => d ≠ 6 ∧ d ≠ 7 ∧ d ≠ 16) := by
  have hw := T.2.1.1
  have z1 := hw.1.1
  have z2 := hw.1.2
  have ho : isO 2 11 = true := by decide +kernel
  have k1 := T.1.1
  obtain ⟨ga0, ga1, ga2, -⟩ := wf_T hw ha
  obtain ⟨gb0, gb1, gb2, -⟩ := wf_T hw hb
  have na1 : hnum h (a : Int) 1 = h.2.2.1 a 1 := hnum_T (w := 1) ha (by decide)
  have nb1 : hnum h (b : Int) 1 = h.2.2.1 b 1 := hnum_T (w := 1) hb (by decide)
  have na2 : hnum h (a : Int) 2 = h.2.2.1 a 2 := hnum_T (w := 2) ha (by decide)
  have nb2 : hnum h (b : Int) 2 = h.2.2.1 b 2 := hnum_T (w := 2) hb (by decide)
  have na0 : hnum h (a : Int) 0 = h.2.2.1 a 0 := hnum_T (w := 0) ha (by decide)
  have nb0 : hnum h (b : Int) 0 = h.2.2.1 b 0 := hnum_T (w := 0) hb (by decide)
  obtain ⟨q1, q2, q3, q4, q5⟩ := q
  obtain ⟨o, eo⟩ : ∃ o : Nat, h.2.2.1 a 1 = (o : Int) := ⟨(h.2.2.1 a 1).toNat, by omega⟩
  have cp := cnt_posh eo q4 h.1 ha
  have cl := cnt_le h (o : Int) h.1
  obtain ⟨m, em⟩ : ∃ m : Nat, cnt h (o : Int) h.1 - 1 = (m : Int) := ⟨(cnt h (o : Int) h.1 - 1).toNat, by omega⟩
  have e14 := T.2.2.2.2.1 o (by omega)
  have es : i_sub (cnt h (o : Int) h.1) 1 = (m : Int) := by
    rw [isb (ok_in (by omega) (by omega)), em]
  obtain ⟨τ1, f1, T1, s1⟩ := misses_eq (b := o) (k := (h.2.2.1 b 0).toNat) (n := m) T (by omega) (by omega) (by omega)
  rw [show (((h.2.2.1 b 0).toNat : Nat) : Int) = h.2.2.1 b 0 by omega] at f1
  obtain ⟨τ2, f2, T2, s2⟩ := misses_eq (b := o) (k := (h.2.2.1 a 0).toNat) (n := m) T1 (by omega) (by omega) (by omega)
  rw [show (((h.2.2.1 a 0).toNat : Nat) : Int) = h.2.2.1 a 0 by omega] at f2
  refine ⟨τ2, ?_, T2, fun d hd => by rw [s2 d hd, s1 d hd]⟩
  unfold fX7_wouldChange
  simp only [rfS, lnS]
  rw [number_eq ho k1 hw.1, Option.bind_some, na1]
  dsimp only
  rw [number_eq ho k1 hw.1, Option.bind_some, nb1]
  dsimp only
  rw [hasBidder_eq k1, if_pos (by omega), b1]
  dsimp only
  rw [hasBidder_eq k1, if_pos (by omega), b1]
  dsimp only
  rw [if_neg q3, number_eq ho k1 hw.1, Option.bind_some, na2]
  dsimp only
  rw [if_pos q4, number_eq ho k1 hw.1, Option.bind_some, nb2]
  dsimp only
  rw [if_pos q5, eo, if_pos ⟨by omega, by omega⟩, number_eq ho k1 hw.1, Option.bind_some, nb0, Int.toNat_natCast]
  dsimp only
  rw [e14, es, f1, Option.bind_some]
  dsimp only
  rw [number_eq ho T1.1.1 hw.1, Option.bind_some, na0]
  dsimp only
  rw [f2, Option.bind_some]
  unfold wcI
  rw [eo, Int.toNat_natCast, em]
  dsimp only
  split <;> rfl
theorem change10 {E : E6} {h : Hs} {σ : St} {a b o : Nat} (M : MC E h σ) (ha : a < h.1) (hb : b < h.1) (q4 : h.2.2.1 a 2 = 0) (eo : h.2.2.1 a 1 = (o : Int)) : ∃ σ' : St, fX10_wouldChange 49 (o : Int) (a : Int) (b : Int) σ = some (wcI E h a b, σ') ∧ mS σ σ' := by
  have hw := M.2.2
  have z1 := hw.1.1
  have z2 := hw.1.2
  obtain ⟨ga0, ga1, -, -⟩ := wf_T hw ha
  obtain ⟨gb0, -, -, -⟩ := wf_T hw hb
  have cl := cnt_le h (o : Int) h.1
  have es : i_sub (cnt h (o : Int) h.1) 1 = cnt h (o : Int) h.1 - 1 := isb (ok_in (by omega) (by omega))
  have ka := (M.1.2.2.1 a (by omega)).1
  have kb := (M.1.2.2.1 b (by omega)).1
  obtain ⟨σ1, f1, s1⟩ := yearsOf_eq (b := o) (k := (h.2.2.1 b 0).toNat) (x3 := cnt h (o : Int) h.1 - 1) M (by omega) (by omega)
  rw [show (((h.2.2.1 b 0).toNat : Nat) : Int) = h.2.2.1 b 0 by omega] at f1
  have M1 := M.same s1
  obtain ⟨σ2, f2, s2⟩ := yearsOf_eq (b := o) (k := (h.2.2.1 a 0).toNat) (x3 := cnt h (o : Int) h.1 - 1) M1 (by omega) (by omega)
  rw [show (((h.2.2.1 a 0).toNat : Nat) : Int) = h.2.2.1 a 0 by omega] at f2
  have ka1 := (M1.1.2.2.1 a (by omega)).1
  refine ⟨σ2, ?_, mS.trans s1 s2⟩
  unfold fX10_wouldChange
  simp only [rfS, lnS, Int.toNat_natCast]
  rw [countOf_eq M.1 hw.1, Option.bind_some, if_pos ⟨by omega, by omega⟩]
  dsimp only
  rw [kb, es, f1, Option.bind_some, if_pos ⟨by omega, by omega⟩]
  dsimp only
  rw [ka1, f2, Option.bind_some]
  unfold wcI
  rw [eo, Int.toNat_natCast]
  dsimp only
  split <;> rfl
theorem wcI_01 (E : E6) (h : Hs) (a b : Nat) : wcI E h a b = 0 ∨ wcI E h a b = 1 := by
  unfold wcI
  split
  · exact Or.inl rfl
  · exact Or.inr rfl
def hj (F : Nat → Nat → Prop) (d : ∀ a b, Decidable (F a b)) (a : Nat) : Nat → Nat → Int → Int
  | 0, _, x => x
  | m + 1, b, x => hj F d a m (b + 1) (@ite Int (F a b) (d a b) (x + 1) x)
def ho (F : Nat → Nat → Prop) (d : ∀ a b, Decidable (F a b)) (N : Nat) : Nat → Nat → Int → Int
  | 0, _, x => x
  | m + 1, a, x => ho F d N m (a + 1) (hj F d a m (a + 1) x)
theorem hj_le (F : Nat → Nat → Prop) (d : ∀ a b, Decidable (F a b)) (a : Nat) : ∀ (m b : Nat) (x : Int), x ≤ hj F d a m b x ∧ hj F d a m b x ≤ x + (m : Int)
  | 0, b, x => by
    unfold hj
    omega
  | m + 1, b, x => by
    unfold hj
    cases d a b with
    | isTrue q =>
      have := hj_le F d a m (b + 1) (x + 1)
      show x ≤ hj F d a m (b + 1) (x + 1) ∧ hj F d a m (b + 1) (x + 1) ≤ _
      omega
    | isFalse q =>
      have := hj_le F d a m (b + 1) x
      show x ≤ hj F d a m (b + 1) x ∧ hj F d a m (b + 1) x ≤ _
      omega
abbrev Fh (E : E6) (h : Hs) (a b : Nat) : Prop := okh h a b ∧ wcI E h a b = 1 ∧ wcI E h b a = 1
theorem hands9i {E : E6} {h : Hs} {a : Nat} {d : ∀ a b, Decidable (Fh E h a b)} {k15 : Int → Int → St → Option (Int × St)} (ha : a < h.1) : ∀ (m n b : Nat) (x : Int) (τ : St), b + m = h.1 → m < n → (0 ≤ x ∧ x + (m : Int) ≤ 1000) → TR E h h τ → τ 1 2 = (h.1 : Int) → ∃ τ' : St, fX9_hands_30 0 k15 n x (a : Int) (b : Int) τ = k15 (hj (Fh E h) d a m b x) (i_add (a : Int) 1) τ' ∧ TR E h h τ' ∧ Same τ τ' (fun d => d ≠ 6 ∧ d ≠ 7 ∧ d ≠ 16)
  | 0, n + 1, b, x, τ, hm, _, _, T, e => by
    unfold fX9_hands_30
    simp only [rfS]
    rw [e, if_pos (by omega)]
    exact ⟨τ, rfl, T, fun _ _ => rfl⟩
  | m + 1, n + 1, b, x, τ, hm, hn, hx, T, e => by
    have z1 := T.2.1.1.1.1
    have e9 : i_add (b : Int) 1 = ((b + 1 : Nat) : Int) := by
      rw [ia (ok_in (by omega) (by omega))]
      omega
    have ex : i_add x 1 = x + 1 := ia (ok_in (by omega) (by omega))
    have hb : b < h.1 := by omega
    unfold fX9_hands_30 fX9_hands_68 hj
    simp only [rfS]
    rw [e, if_neg (by omega), e9, ex]
    by_cases q : okh h a b
    case neg =>
      rw [change9n T ha hb q, b0]
      obtain ⟨τ1, f1, T1, s1⟩ := hands9i (d := d) (k15 := k15) ha m n (b + 1) x τ (by omega) (by omega) (by omega) T e
      refine ⟨τ1, ?_, T1, s1⟩
      dsimp only
      rw [f1, if_neg (fun z => q z.1)]
    obtain ⟨τ1, f1, T1, s1⟩ := change9y T ha hb q
    rw [f1, Option.bind_some]
    dsimp only
    by_cases w1 : wcI E h a b = 0
    · rw [if_pos w1]
      obtain ⟨τ2, f2, T2, s2⟩ := hands9i (d := d) (k15 := k15) ha m n (b + 1) x τ1 (by omega) (by omega) (by omega) T1 (by rw [s1 1 (by decide)]; exact e)
      refine ⟨τ2, ?_, T2, fun d hd => by rw [s2 d hd, s1 d hd]⟩
      rw [f2, if_neg (fun z => by omega)]
    rw [if_neg w1]
    have q' : okh h b a := ⟨q.2.1, q.1, Ne.symm q.2.2.1, q.2.2.2.2, q.2.2.2.1⟩
    obtain ⟨τ2, f2, T2, s2⟩ := change9y T1 hb ha q'
    rw [f2, Option.bind_some]
    dsimp only
    have w1' := wcI_01 E h a b
    have w2' := wcI_01 E h b a
    by_cases w2 : wcI E h b a = 0
    · rw [if_pos w2]
      obtain ⟨τ3, f3, T3, s3⟩ := hands9i (d := d) (k15 := k15) ha m n (b + 1) x τ2 (by omega) (by omega) (by omega) T2 (by rw [s2 1 (by decide), s1 1 (by decide)]; exact e)
      refine ⟨τ3, ?_, T3, fun d hd => by rw [s3 d hd, s2 d hd, s1 d hd]⟩
      rw [f3, if_neg (fun z => by omega)]
    rw [if_neg w2]
    obtain ⟨τ3, f3, T3, s3⟩ := hands9i (d := d) (k15 := k15) ha m n (b + 1) (x + 1) τ2 (by omega) (by omega) (by omega) T2 (by rw [s2 1 (by decide), s1 1 (by decide)]; exact e)
    refine ⟨τ3, ?_, T3, fun d hd => by rw [s3 d hd, s2 d hd, s1 d hd]⟩
    rw [f3, if_pos ⟨q, by omega, by omega⟩]
theorem hands9 {E : E6} {h : Hs} {d : ∀ a b, Decidable (Fh E h a b)} : ∀ (m n a : Nat) (x : Int) (τ : St), a + m = h.1 → m < n → (0 ≤ x ∧ x ≤ 8 * (a : Int)) → TR E h h τ → τ 1 2 = (h.1 : Int) → ∃ τ' : St, fX9_hands_15 0 n x (a : Int) τ = some (ho (Fh E h) d h.1 m a x, τ') ∧ Same τ τ' (fun d => d ≠ 6 ∧ d ≠ 7 ∧ d ≠ 16)
  | 0, n + 1, a, x, τ, hm, _, _, T, e => by
    unfold fX9_hands_15
    simp only [rfS]
    rw [e, if_pos (by omega)]
    exact ⟨τ, rfl, fun _ _ => rfl⟩
  | m + 1, n + 1, a, x, τ, hm, hn, hx, T, e => by
    have z1 := T.2.1.1.1.1
    have e9 : i_add (a : Int) 1 = ((a + 1 : Nat) : Int) := by
      rw [ia (ok_in (by omega) (by omega))]
      omega
    unfold fX9_hands_15 ho
    simp only [rfS]
    rw [e, if_neg (by omega), e9]
    obtain ⟨τ1, f1, T1, s1⟩ := hands9i (d := d) (k15 := fX9_hands_15 0 n) (show a < h.1 by omega) m FU (a + 1) x τ (by omega) (by unfold FU; omega) (by omega) T e
    rw [f1, e9]
    have l := hj_le (Fh E h) d a m (a + 1) x
    obtain ⟨τ2, f2, s2⟩ := hands9 (d := d) m n (a + 1) (hj (Fh E h) d a m (a + 1) x) τ1 (by omega) (by omega) (by omega) T1 (by rw [s1 1 (by decide)]; exact e)
    exact ⟨τ2, f2, fun d hd => by rw [s2 d hd, s1 d hd]⟩
theorem hands10i {E : E6} {h : Hs} {a : Nat} {d : ∀ a b, Decidable (Fh E h a b)} {k4 : Int → Int → St → Option (Int × St)} (ha : a < h.1) : ∀ (m n b : Nat) (x : Int) (σ : St), b + m = h.1 → m < n → (0 ≤ x ∧ x + (m : Int) ≤ 1000) → MC E h σ → ∃ σ' : St, fX10_hands_16 49 k4 n x (a : Int) (b : Int) σ = k4 (hj (Fh E h) d a m b x) (i_add (a : Int) 1) σ' ∧ mS σ σ'
  | 0, n + 1, b, x, σ, hm, _, _, M => by
    unfold fX10_hands_16
    rw [M.1.1, if_pos (by omega)]
    exact ⟨σ, rfl, fun _ _ => rfl⟩
  | m + 1, n + 1, b, x, σ, hm, hn, hx, M => by
    have hw := M.2.2
    have z1 := hw.1.1
    have z2 := hw.1.2
    have e9 : i_add (b : Int) 1 = ((b + 1 : Nat) : Int) := by
      rw [ia (ok_in (by omega) (by omega))]
      omega
    have ex : i_add x 1 = x + 1 := ia (ok_in (by omega) (by omega))
    have hb : b < h.1 := by omega
    have ia8 : inb (a : Int) 8 := ⟨by omega, by omega⟩
    have ib8 : inb (b : Int) 8 := ⟨by omega, by omega⟩
    obtain ⟨-, xa1, xa2, -⟩ := M.1.2.2.1 a (by omega)
    obtain ⟨-, xb1, xb2, -⟩ := M.1.2.2.1 b (by omega)
    obtain ⟨-, ga1, ga2, -⟩ := wf_T hw ha
    obtain ⟨-, gb1, gb2, -⟩ := wf_T hw hb
    have skip : ¬ Fh E h a b → ∀ σ1 : St, mS σ σ1 → ∃ σ' : St, fX10_hands_16 49 k4 n x (a : Int) ((b + 1 : Nat) : Int) σ1 = k4 (hj (Fh E h) d a m (b + 1) (@ite Int (Fh E h a b) (d a b) (x + 1) x)) (i_add (a : Int) 1) σ' ∧ mS σ σ' := by
      intro z σ1 s1
      obtain ⟨σ2, f2, s2⟩ := hands10i (d := d) (k4 := k4) ha m n (b + 1) x σ1 (by omega) (by omega) (by omega) (M.same s1)
      rw [if_neg z]
      exact ⟨σ2, f2, mS.trans s1 s2⟩
    unfold fX10_hands_16 fX10_hands_115 hj
    simp only [rfS, lnS, if_pos ia8, if_pos ib8, Int.toNat_natCast, xa1, xa2, xb1, xb2, e9, ex]
    rw [M.1.1, if_neg (by omega)]
    by_cases q1 : h.2.2.1 a 2 = 1
    · rw [if_pos q1]
      exact skip (fun z => by have := z.1.2.2.2.1; omega) σ (fun _ _ => rfl)
    rw [if_neg q1]
    by_cases q2 : h.2.2.1 b 2 = 1
    · rw [if_pos q2]
      exact skip (fun z => by have := z.1.2.2.2.2; omega) σ (fun _ _ => rfl)
    rw [if_neg q2]
    by_cases q3 : h.2.2.1 a 1 = -1
    · rw [if_pos q3]
      exact skip (fun z => z.1.1 q3) σ (fun _ _ => rfl)
    rw [if_neg q3]
    by_cases q4 : h.2.2.1 b 1 = -1
    · rw [if_pos q4]
      exact skip (fun z => z.1.2.1 q4) σ (fun _ _ => rfl)
    rw [if_neg q4]
    by_cases q5 : h.2.2.1 a 1 = h.2.2.1 b 1
    · rw [if_pos q5]
      exact skip (fun z => z.1.2.2.1 q5) σ (fun _ _ => rfl)
    rw [if_neg q5]
    have ok : okh h a b := ⟨q3, q4, q5, by omega, by omega⟩
    obtain ⟨oa, eoa⟩ : ∃ o : Nat, h.2.2.1 a 1 = (o : Int) := ⟨(h.2.2.1 a 1).toNat, by omega⟩
    obtain ⟨ob, eob⟩ : ∃ o : Nat, h.2.2.1 b 1 = (o : Int) := ⟨(h.2.2.1 b 1).toNat, by omega⟩
    have w1' := wcI_01 E h a b
    have w2' := wcI_01 E h b a
    obtain ⟨σ1, f1, s1⟩ := change10 (o := oa) M ha hb ok.2.2.2.1 eoa
    have M1 := M.same s1
    rw [eoa, f1, Option.bind_some]
    dsimp only
    by_cases w1 : wcI E h a b = 0
    · rw [if_pos w1]
      exact skip (fun z => by have := z.2.1; omega) σ1 s1
    rw [if_neg w1, (M1.1.2.2.1 b (by omega)).2.1, eob]
    obtain ⟨σ2, f2, s2⟩ := change10 (o := ob) M1 hb ha ok.2.2.2.2 eob
    rw [f2, Option.bind_some]
    dsimp only
    by_cases w2 : wcI E h b a = 0
    · rw [if_pos w2]
      exact skip (fun z => by have := z.2.2; omega) σ2 (mS.trans s1 s2)
    rw [if_neg w2, if_pos ⟨ok, by omega, by omega⟩]
    obtain ⟨σ3, f3, s3⟩ := hands10i (d := d) (k4 := k4) ha m n (b + 1) (x + 1) σ2 (by omega) (by omega) (by omega) (M1.same s2)
    exact ⟨σ3, f3, mS.trans (mS.trans s1 s2) s3⟩
theorem hands10 {E : E6} {h : Hs} {d : ∀ a b, Decidable (Fh E h a b)} : ∀ (m n a : Nat) (x : Int) (σ : St), a + m = h.1 → m < n → (0 ≤ x ∧ x ≤ 8 * (a : Int)) → MC E h σ → ∃ σ' : St, fX10_hands_4 49 n x (a : Int) σ = some (ho (Fh E h) d h.1 m a x, σ') ∧ mS σ σ'
  | 0, n + 1, a, x, σ, hm, _, _, M => by
    unfold fX10_hands_4
    rw [M.1.1, if_pos (by omega)]
    exact ⟨σ, rfl, fun _ _ => rfl⟩
  | m + 1, n + 1, a, x, σ, hm, hn, hx, M => by
    have z1 := M.2.2.1.1
    have e9 : i_add (a : Int) 1 = ((a + 1 : Nat) : Int) := by
      rw [ia (ok_in (by omega) (by omega))]
      omega
    unfold fX10_hands_4 ho
    rw [M.1.1, if_neg (by omega), e9]
    obtain ⟨σ1, f1, s1⟩ := hands10i (d := d) (k4 := fX10_hands_4 49 n) (show a < h.1 by omega) m FU (a + 1) x σ (by omega) (by unfold FU; omega) (by omega) M
    rw [f1, e9]
    have l := hj_le (Fh E h) d a m (a + 1) x
    obtain ⟨σ2, f2, s2⟩ := hands10 (d := d) m n (a + 1) (hj (Fh E h) d a m (a + 1) x) σ1 (by omega) (by omega) (by omega) (M.same s1)
    exact ⟨σ2, f2, mS.trans s1 s2⟩
theorem ag_hands : Ag (fun σ => fX9_hands 0 σ) (fun σ => fX10_hands 49 σ) := by
  intro σ hI
  obtain ⟨h, c1, c2, c3, i1, i2, i3, i4, i5, i6, i7⟩ := id hI
  have z1 := c3.1.1
  dsimp only
  unfold fX9_hands fX10_hands
  simp only [rfS]
  obtain ⟨E, τ, f, T, m, -, -, -, s⟩ := think c1 c2 c3 i7
  rw [f, Option.bind_some]
  obtain ⟨τ1, f1, s1⟩ := hands9 (d := fun a b => Classical.propDecidable _) h.1 FU 0 0 τ (by omega) (by unfold FU; omega) (by omega) T (by rw [s 1 (by omega)]; exact c1.1)
  have f1' : fX9_hands_15 0 FU 0 0 τ = _ := f1
  have m1 : MC E h τ1 := m.keepC (fun d hd => s1 d (by omega))
  obtain ⟨τ2, f2, s2⟩ := hands10 (d := fun a b => Classical.propDecidable _) h.1 FU 0 0 τ1 (by omega) (by unfold FU; omega) (by omega) m1
  have f2' : fX10_hands_4 49 FU 0 0 τ1 = _ := f2
  refine ⟨_, τ1, τ2, f1', f2', ?_⟩
  exact inv_end ⟨c1, c3, i1, i2, i3, i4, i5, i6, i7⟩ (m1.same s2).1 (fun c j q => by rw [s2 c (by unfold scr at q; omega), s1 c (by unfold scr at q; omega), s c (by unfold scr at q; omega)])
