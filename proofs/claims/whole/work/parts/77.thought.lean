/-! The class's sales in thought: what Thought holds, and its methods. -/
def Lk (h0 h : Hs) : Prop := h0.1 = h.1 ∧ h0.2.1 = h.2.1 ∧ (∀ t : Nat, h0.2.2.1 t 0 = h.2.2.1 t 0) ∧ (∀ b w : Nat, w ≠ 4 → h0.2.2.2 b w = h.2.2.2 b w) ∧ ∀ b : Nat, mis h0 b h0.1 = mis h b h.1
def SlB (h0 h : Hs) (τ : St) : Prop := ∃ s : Nat, s < 256 ∧ τ 10 9 = (s : Int) ∧ ∀ b : Nat, b < h.2.1 → (h.2.2.2 b 4 = 1 ↔ (h0.2.2.2 b 4 ≠ 0 ∨ s.testBit b = true))
def Kn (E : E6) (h : Hs) (τ : St) : Prop := ∀ b k n : Nat, b < h.2.1 → k < 4 → n < 9 → (τ 16 ((b * 4 + k) * 9 + n) = -1 ∨ τ 16 ((b * 4 + k) * 9 + n) = yrs E h b k n)
/-- Thought holds house h, thought out of h0 -/
def TR (E : E6) (h0 h : Hs) (τ : St) : Prop := (HC 11 h0 τ ∧ GC τ E ∧ (τ 4 3 = 8 ∨ τ 4 3 = 9)) ∧ (Wf h0 ∧ Wf h ∧ Lk h0 h) ∧ SlB h0 h τ ∧ (∃ o : Nat, τ 10 8 = (o : Int) ∧ BS o (opP h)) ∧ (∀ b : Nat, b < 7 → τ 14 b = cnt h b h.1) ∧ (∀ b : Nat, b < 7 → τ 15 b = mis h b h.1) ∧ Kn E h τ
theorem GC.keep {σ σ' : St} {E : E6} (g : GC σ E) (k3 : σ 4 3 = 8 ∨ σ 4 3 = 9) (s : ∀ c, c = 4 ∨ c = 8 ∨ c = 9 → σ' c = σ c) : GC σ' E := by
  intro τ t1 t2 t3 t4
  have e4 := s 4 (Or.inl rfl)
  rw [e4] at t1 t2 t3 t4
  refine g τ t1 t2 t3 (t4.trans ?_)
  rcases k3 with q | q
  · rw [q]
    exact s 8 (Or.inr (Or.inl rfl))
  · rw [q]
    exact s 9 (Or.inr (Or.inr rfl))
theorem HC11.keep {h : Hs} {σ σ' : St} (k : HC 11 h σ) (s : ∀ c, c = 11 ∨ c = 12 ∨ c = 13 → σ' c = σ c) : HC 11 h σ' := by
  obtain ⟨k1, k2, k3, k4⟩ := k
  refine ⟨by rw [s 11 (Or.inl rfl)]; exact k1, by rw [s 11 (Or.inl rfl)]; exact k2, fun t w ht hw => ?_, fun b w hb hw => ?_⟩
  · have := k3 t w ht hw
    rw [← this]
    show σ' 12 _ = σ 12 _
    rw [s 12 (Or.inr (Or.inl rfl))]
  · have := k4 b w hb hw
    rw [← this]
    show σ' 13 _ = σ 13 _
    rw [s 13 (Or.inr (Or.inr rfl))]
theorem TR.keep {E : E6} {h0 h : Hs} {τ τ' : St} (k : TR E h0 h τ) (s : ∀ c, (c = 4 ∨ c = 8 ∨ c = 9 ∨ c = 11 ∨ c = 12 ∨ c = 13 ∨ c = 14 ∨ c = 15) → τ' c = τ c) (s8 : τ' 10 8 = τ 10 8) (s9 : τ' 10 9 = τ 10 9) (kn : Kn E h τ') : TR E h0 h τ' := by
  obtain ⟨⟨k1, k2, k3⟩, k4, k5, k6, k7, k8, -⟩ := k
  refine ⟨⟨HC11.keep k1 (fun c hc => s c (by omega)), k2.keep k3 (fun c hc => s c (by omega)), by rw [s 4 (by omega)]; exact k3⟩, k4, ?_, ?_, fun b hb => by rw [s 14 (by omega)]; exact k7 b hb, fun b hb => by rw [s 15 (by omega)]; exact k8 b hb, kn⟩
  · obtain ⟨x, x1, x2, x3⟩ := k5
    exact ⟨x, x1, by rw [s9]; exact x2, x3⟩
  · obtain ⟨x, x1, x2⟩ := k6
    exact ⟨x, by rw [s8]; exact x1, x2⟩
theorem misses_eq {E : E6} {h0 h : Hs} {τ : St} {b k n : Nat} (T : TR E h0 h τ) (hb : b < h.2.1) (hk : k < 4) (hn : n < 9) : ∃ τ' : St, fX7_misses 10 (b : Int) (k : Int) (n : Int) τ = some (yrs E h b k n, τ') ∧ TR E h0 h τ' ∧ Same τ τ' (fun d => d ≠ 6 ∧ d ≠ 7 ∧ d ≠ 16) := by
  obtain ⟨⟨k1, k2, k3⟩, ⟨w0, w1, l1, l2, l3, l4, l5⟩, k5, k6, k7, k8, kn⟩ := id T
  have z2 := w1.1.2
  have hb0 : b < h0.2.1 := by omega
  have ep : i_add (i_mul (i_add (i_mul (b : Int) 4) (k : Int)) 9) (n : Int) = (((b * 4 + k) * 9 + n : Nat) : Int) := by
    rw [im (x := (b : Int)) (ok_in (by omega) (by omega)), ia (x := (b : Int) * 4) (ok_in (by omega) (by omega)), im (ok_in (by omega) (by omega)), ia (ok_in (by omega) (by omega))]
    omega
  have e9 : i_add 9 (k : Int) = ((5 + k + 4 : Nat) : Int) := by
    rw [ia (ok_in (by omega) (by omega))]
    omega
  unfold fX7_misses
  simp only [rfS, lnS, ep, e9, Int.toNat_natCast]
  rw [hasBidder_eq k1, if_pos (by omega), b1]
  dsimp only
  rw [if_neg (by omega), if_neg (by omega), if_neg (by omega), if_pos (by omega), if_pos ⟨by omega, by omega⟩]
  by_cases q : τ 16 ((b * 4 + k) * 9 + n) = -1
  · rw [if_pos q]
    have n4 : hnum h0 (b : Int) 4 = h.2.2.2 b 0 := (hnum_B (w := 0) hb0 (by decide)).trans (l4 b 0 (by decide))
    have n5 : hnum h0 (b : Int) 5 = h.2.2.2 b 1 := (hnum_B (w := 1) hb0 (by decide)).trans (l4 b 1 (by decide))
    have n6 : hnum h0 (b : Int) 6 = h.2.2.2 b 2 := (hnum_B (w := 2) hb0 (by decide)).trans (l4 b 2 (by decide))
    have n9 : hnum h0 (b : Int) ((5 + k + 4 : Nat) : Int) = h.2.2.2 b (5 + k) := (hnum_B (w := 5 + k) hb0 (by omega)).trans (l4 b (5 + k) (by omega))
    have ho : isO 2 11 = true := by decide +kernel
    rw [number_eq ho k1 w0.1, Option.bind_some]
    dsimp only
    rw [number_eq ho k1 w0.1, Option.bind_some]
    dsimp only
    rw [number_eq ho k1 w0.1, Option.bind_some]
    dsimp only
    rw [number_eq ho k1 w0.1, Option.bind_some]
    dsimp only
    rw [n4, n5, n6, n9, if_pos ⟨by omega, by omega⟩, k8 b (by omega)]
    obtain ⟨τ1, f1, s1⟩ := k2 τ rfl rfl rfl rfl (h.2.2.2 b 0) (h.2.2.2 b 1) (h.2.2.2 b 2) (h.2.2.2 b (5 + k)) (n : Int) (mis h b h.1)
    rw [f1, Option.bind_some]
    dsimp only
    rw [if_pos ⟨by omega, by omega⟩, if_pos ⟨by omega, by omega⟩]
    have sm : ∀ d : Nat, (d ≠ 6 ∧ d ≠ 7 ∧ d ≠ 16) → up τ1 16 ((b * 4 + k) * 9 + n) (yrs E h b k n) d = τ d := fun d hd => by rw [up_ne hd.2.2, s1 d ⟨hd.1, hd.2.1⟩]
    refine ⟨up τ1 16 ((b * 4 + k) * 9 + n) (yrs E h b k n), ?_, T.keep (fun c hc => sm c (by omega)) (by rw [sm 10 (by omega)]) (by rw [sm 10 (by omega)]) (fun b' k' n' hb' hk' hn' => ?_), fun d hd => sm d hd⟩
    · simp only [up_get, and_self, if_true]
      rfl
    · rw [up_get]
      by_cases e : (b' * 4 + k') * 9 + n' = (b * 4 + k) * 9 + n
      · have : b' = b ∧ k' = k ∧ n' = n := by omega
        obtain ⟨rfl, rfl, rfl⟩ := this
        rw [if_pos ⟨rfl, rfl⟩]
        exact Or.inr rfl
      · rw [if_neg (fun z => e z.2), s1 16 ⟨by decide, by decide⟩]
        exact kn b' k' n' hb' hk' hn'
  · rw [if_neg q, if_pos ⟨by omega, by omega⟩]
    have e := (kn b k n hb hk hn).resolve_left q
    exact ⟨τ, by rw [e], T, fun _ _ => rfl⟩
/-- what each would miss of the thing under thought -/
def Wd (E : E6) (h : Hs) (t : Nat) (τ : St) : Prop := ∀ b : Nat, b < h.2.1 → τ 17 b = wm E h b t
theorem considers_l {E : E6} {h0 h : Hs} {t : Nat} (ht : t < h.1) (hw : Wf h) : ∀ (n k : Nat) (τ : St), TR E h0 h τ → k ≤ h.2.1 → h.2.1 < k + n → (∀ b : Nat, b < k → τ 17 b = wm E h b t) → ∃ τ' : St, fX7_considers_12 10 (t : Int) n (h.2.2.1 t 0) (k : Int) τ = some τ' ∧ TR E h0 h τ' ∧ Wd E h t τ' ∧ Same τ τ' (fun d => d ≠ 6 ∧ d ≠ 7 ∧ d ≠ 16 ∧ d ≠ 17) := by
  have z2 := hw.1.2
  have z1 := hw.1.1
  have k0 := (wf_T hw ht).1
  intro n
  induction n with
  | zero => intro k τ _ h1 h2; omega
  | succ n ih =>
    intro k τ T h1 h2 hd
    have e3 : τ 11 3 = (h.2.1 : Int) := by
      have := T.1.1.2.1
      rw [this, T.2.1.2.2.2.1]
    rw [fX7_considers_12.eq_2]
    simp only [rfS, lnS, e3, Int.toNat_natCast]
    by_cases e : (h.2.1 : Int) ≤ (k : Int)
    · rw [if_pos e]
      exact ⟨τ, rfl, T, fun b hb => hd b (by omega), fun _ _ => rfl⟩
    · have c := cnt_le h k h.1
      have e9 : i_add (k : Int) 1 = ((k + 1 : Nat) : Int) := by
        rw [ia (ok_in (by omega) (by omega))]
        omega
      rw [if_neg e, if_pos ⟨by omega, by omega⟩, T.2.2.2.2.1 k (by omega), e9]
      obtain ⟨τ1, f1, T1, s1⟩ := misses_eq (b := k) (k := (h.2.2.1 t 0).toNat) (n := (cnt h k h.1).toNat) T (by omega) (by omega) (by omega)
      rw [show (((h.2.2.1 t 0).toNat : Nat) : Int) = h.2.2.1 t 0 by omega, show (((cnt h k h.1).toNat : Nat) : Int) = cnt h k h.1 by omega] at f1
      rw [f1, Option.bind_some, if_pos ⟨by omega, by omega⟩]
      dsimp only
      have sm : ∀ d : Nat, (d ≠ 6 ∧ d ≠ 7 ∧ d ≠ 16 ∧ d ≠ 17) → up τ1 17 k (wm E h k t) d = τ d := fun d hd => by rw [up_ne hd.2.2.2, s1 d ⟨hd.1, hd.2.1, hd.2.2.1⟩]
      have ne17 : ∀ d : Nat, d ≠ 17 → up τ1 17 k (wm E h k t) d = τ1 d := fun d hd => up_ne hd
      have T2 : TR E h0 h (up τ1 17 k (wm E h k t)) := T1.keep (fun c hc => ne17 c (by omega)) (by rw [ne17 10 (by decide)]) (by rw [ne17 10 (by decide)]) (fun b' k' n' x1 x2 x3 => by rw [ne17 16 (by decide)]; exact T1.2.2.2.2.2.2 b' k' n' x1 x2 x3)
      obtain ⟨τ2, f2, T3, W3, s2⟩ := ih (k + 1) _ T2 (by omega) (by omega) (fun b hb => by
        rw [up_get]
        by_cases q : b = k
        · rw [if_pos ⟨rfl, q⟩, q]
        · rw [if_neg (fun z => q z.2), s1 17 (by omega)]
          exact hd b (by omega))
      exact ⟨τ2, f2, T3, W3, fun d hd => (s2 d hd).trans (sm d hd)⟩
theorem considers_eq {E : E6} {h0 h : Hs} {τ : St} {t : Nat} (T : TR E h0 h τ) (ht : t < h.1) : ∃ τ' : St, fX7_considers 10 (t : Int) τ = some τ' ∧ TR E h0 h τ' ∧ Wd E h t τ' ∧ Same τ τ' (fun d => d ≠ 6 ∧ d ≠ 7 ∧ d ≠ 16 ∧ d ≠ 17) := by
  have z2 := T.2.1.2.1.1.2
  unfold fX7_considers
  simp only [rfS]
  have ht0 : t < h0.1 := by rw [T.2.1.2.2.1]; exact ht
  have n0 : hnum h0 (t : Int) 0 = h.2.2.1 t 0 := (hnum_T (w := 0) ht0 (by decide)).trans (T.2.1.2.2.2.2.1 t)
  rw [number_eq (by decide +kernel) T.1.1 T.2.1.1.1, Option.bind_some, n0]
  exact considers_l ht T.2.1.2.1 FU 0 τ T (Nat.zero_le _) (by unfold FU; omega) (fun b hb => by omega)
theorem bid_eq {E : E6} {h0 h : Hs} {τ : St} {b t : Nat} (T : TR E h0 h τ) (hb : b < h.2.1) (wd : τ 17 b = wm E h b t) : fX7_bid 10 (b : Int) τ = some (bids E h t b, τ) := by
  obtain ⟨⟨k1, k2, k3⟩, ⟨w0, w1, l1, l2, l3, l4, l5⟩, ⟨s, s1, s2, s3⟩, k6, k7, k8, kn⟩ := id T
  have z2 := w1.1.2
  have hb0 : b < h0.2.1 := by omega
  have n7 : hnum h0 (b : Int) 7 = h.2.2.2 b 3 := (hnum_B (w := 3) hb0 (by decide)).trans (l4 b 3 (by decide))
  have n8 : hnum h0 (b : Int) 8 = h0.2.2.2 b 4 := hnum_B (w := 4) hb0 (by decide)
  have ho : isO 2 11 = true := by decide +kernel
  unfold fX7_bid fX7_bid_35
  simp only [rfS, lnS]
  rw [number_eq ho k1 w0.1, Option.bind_some]
  dsimp only
  rw [number_eq ho k1 w0.1, Option.bind_some]
  dsimp only
  have ib : inb (b : Int) 7 := ⟨by omega, by omega⟩
  have bb := bit_and s s1 b (by omega)
  simp only [n7, n8, s2, bb, Int.toNat_natCast, wd, if_pos ib]
  have f := s3 b hb
  have g4 := (wf_B w1 hb).2.2
  unfold bids bd
  by_cases q : h.2.2.2 b 4 = 1
  · rw [if_pos q]
    have q' := f.mp q
    have e : (if h.2.2.2 b 3 ≤ 0 then some (wm E h b t, τ) else some ((0 : Int), τ)) = some (if h.2.2.2 b 3 ≤ 0 then wm E h b t else 0, τ) := by split <;> rfl
    by_cases q1 : h0.2.2.2 b 4 = 0
    · rw [if_pos q1]
      have : s.testBit b = true := q'.resolve_left (fun z => z q1)
      rw [this, if_neg (by decide)]
      exact e
    · rw [if_neg q1]
      exact e
  · rw [if_neg q]
    have q1 : h0.2.2.2 b 4 = 0 := by
      by_cases z : h0.2.2.2 b 4 = 0
      · exact z
      · exact absurd (f.mpr (Or.inl z)) q
    have q2 : s.testBit b = false := by
      cases z : s.testBit b
      · rfl
      · exact absurd (f.mpr (Or.inr z)) q
    rw [if_pos q1, q2, if_pos (by decide)]
theorem winner_l7 {E : E6} {h0 h : Hs} {τ : St} {t : Nat} (T : TR E h0 h τ) (wd : Wd E h t τ) : ∀ (n k : Nat), k ≤ h.2.1 → h.2.1 < k + n → fX7_winner_7 10 n (winS (bids E h t) k).2 (winS (bids E h t) k).1 (k : Int) τ = some (win E h t, τ) := by
  have hw := T.2.1.2.1
  have z2 := hw.1.2
  have e3 : τ 11 3 = (h.2.1 : Int) := by
    have := T.1.1.2.1
    rw [this, T.2.1.2.2.2.1]
  intro n
  induction n with
  | zero => intro k h1 h2; omega
  | succ n ih =>
    intro k h1 h2
    rw [fX7_winner_7.eq_2]
    simp only [rfS, e3]
    by_cases e : (h.2.1 : Int) ≤ (k : Int)
    · rw [if_pos e, show k = h.2.1 by omega]
      rfl
    · have e9 : i_add (k : Int) 1 = ((k + 1 : Nat) : Int) := by
        rw [ia (ok_in (by omega) (by omega))]
        omega
      have i1 := ih (k + 1) (by omega) (by omega)
      conv at i1 => lhs; unfold winS
      have bp := bids_in (E := E) (t := t) hw (show k < h.2.1 by omega)
      have wg := winS_ge (bids E h t) k (fun b hb => (bids_in (E := E) (t := t) hw (by omega)).1)
      rw [if_neg e, bid_eq T (show k < h.2.1 by omega) (wd k (by omega)), Option.bind_some]
      unfold fX7_winner_53
      dsimp only
      rw [e9]
      by_cases q0 : bids E h t k = 0
      · rw [if_pos q0] at i1
        rw [if_pos (by omega)]
        by_cases q1 : bids E h t k = (winS (bids E h t) k).2
        · rw [if_pos q1, if_pos (by omega)]
          exact i1
        · rw [if_neg q1]
          exact i1
      · rw [if_neg q0] at i1
        by_cases q1 : (winS (bids E h t) k).2 ≤ bids E h t k
        · rw [if_pos q1] at i1
          by_cases q2 : bids E h t k = (winS (bids E h t) k).2
          · rw [if_pos q2] at i1
            rw [if_pos (by omega), if_pos q2, if_neg (by omega), ← q2]
            exact i1
          · rw [if_neg q2] at i1
            rw [if_neg (by omega)]
            exact i1
        · rw [if_neg q1] at i1
          rw [if_pos (by omega), if_neg (by omega)]
          exact i1
theorem winner9 {E : E6} {h0 h : Hs} {τ : St} {t : Nat} (T : TR E h0 h τ) (wd : Wd E h t τ) : fX7_winner 10 τ = some (win E h t, τ) := by
  have z2 := T.2.1.2.1.1.2
  exact winner_l7 T wd FU 0 (Nat.zero_le _) (by unfold FU; omega)
theorem Lk.goes {E : E6} {h0 h : Hs} {t : Nat} (k : Lk h0 h) : Lk h0 (goesP E h t).2 := by
  obtain ⟨k1, k2, k3, k4, k5⟩ := k
  obtain ⟨n1, n2, n3⟩ := goesP_n (E := E) (h := h) (t := t)
  refine ⟨k1.trans n1.symm, k2.trans n2.symm, fun u => by rw [goesP_kind u]; exact k3 u, fun b w hw => by rw [n3]; exact k4 b w hw, fun b => ?_⟩
  rw [n1, mis_goes (by omega)]
  exact k5 b
theorem Kn.goes {E : E6} {h : Hs} {t : Nat} {τ : St} (k : Kn E h τ) : Kn E (goesP E h t).2 τ := by
  obtain ⟨n1, n2, n3⟩ := goesP_n (E := E) (h := h) (t := t)
  intro b q n hb hq hn
  rw [n2] at hb
  have e : yrs E (goesP E h t).2 b q n = yrs E h b q n := yrs_congr (fun w _ _ => by rw [n3]) (by rw [n1, mis_goes (by omega)])
  rw [e]
  exact k b q n hb hq hn
/-- one thing is sold in thought -/
theorem sells_eq {E : E6} {h0 h : Hs} {τ : St} {t : Nat} (T : TR E h0 h τ) (ht : t < h.1) (hs : ok32 (τ 10 10 + 1)) (hp : ok32 (τ 10 11 + 1)) : ∃ τ' : St, fX7_sellsOne 10 (t : Int) τ = some ((goesP E h t).1, τ') ∧ TR E h0 (goesP E h t).2 τ' ∧ τ' 10 10 = τ 10 10 + (if 0 ≤ (goesP E h t).1 ∧ (goesP E h t).1 < 7 then 1 else 0) ∧ τ' 10 11 = τ 10 11 + (if (goesP E h t).1 = 8 then 1 else 0) ∧ τ' 10 7 = τ 10 7 ∧ Same τ τ' (fun d => d ≠ 6 ∧ d ≠ 7 ∧ d ≠ 10 ∧ d ≠ 14 ∧ d ≠ 16 ∧ d ≠ 17) := by
  have hw := T.2.1.2.1
  have z1 := hw.1.1
  have z2 := hw.1.2
  obtain ⟨o, o1, o2⟩ := T.2.2.2.1
  have og := opP_goes (E := E) (h := h) (t := t)
  have Tg : ∀ τ' : St, TR E h0 h τ' → (∃ x : Nat, τ' 10 8 = (x : Int) ∧ BS x (opP h)) := fun τ' q => q.2.2.2.1
  unfold fX7_sellsOne
  rw [o1, o2.bit (by omega)]
  by_cases q : opP h t = true
  case neg =>
    have q0 : ¬ (h.2.2.1 t 1 = -1 ∧ h.2.2.1 t 2 = 0) := by
      intro z
      exact q (by unfold opP; simp only [decide_eq_true_eq]; exact ⟨ht, z.1, z.2⟩)
    have eg : goesP E h t = (9, h) := by
      unfold goesP
      rw [if_neg q0]
    rw [if_neg q, if_pos rfl, eg]
    exact ⟨τ, rfl, T, by simp, by simp, rfl, fun _ _ => rfl⟩
  have q0 : h.2.2.1 t 1 = -1 ∧ h.2.2.1 t 2 = 0 := by
    unfold opP at q
    simp only [decide_eq_true_eq] at q
    exact q.2
  rw [if_pos q, if_neg (by decide)]
  obtain ⟨τ1, f1, T1, W1, s1⟩ := considers_eq T ht
  rw [f1, Option.bind_some, winner9 T1 W1, Option.bind_some]
  obtain ⟨o', o1', o2'⟩ := Tg τ1 T1
  have e10 : τ1 10 = τ 10 := s1 10 (by omega)
  have wi := win_in (E := E) (h := h) (t := t)
  have wfg := goesP_wf (E := E) hw ht
  have lkg := Lk.goes (E := E) (t := t) T1.2.1.2.2
  have kng : Kn E (goesP E h t).2 τ1 := Kn.goes T1.2.2.2.2.2.2
  obtain ⟨n1, n2, n3⟩ := goesP_n (E := E) (h := h) (t := t)
  have cg : ∀ b : Nat, b < 7 → cnt (goesP E h t).2 b (goesP E h t).2.1 = cnt h b h.1 + if (goesP E h t).1 = (b : Int) then 1 else 0 := fun b hb => by
    rw [n1]
    exact cnt_goes ht hb
  have mg : ∀ b : Nat, mis (goesP E h t).2 b (goesP E h t).2.1 = mis h b h.1 := fun b => by
    rw [n1]
    exact mis_goes (by omega)
  obtain ⟨r, r1, r2⟩ := o2'.out (t := t) (by omega)
  obtain ⟨⟨t1, t2, t3⟩, ⟨u1, u2, u3⟩, ⟨s, v1, v2, v3⟩, -, w1, w2, w3⟩ := id T1
  have fin : ∀ τ' : St, (∀ c, c ≠ 10 → c ≠ 14 → τ' c = τ1 c) → (goesP E h t).1 ≠ -2 → τ' 10 8 = (r : Int) → τ' 10 9 = τ1 10 9 → (∀ b : Nat, b < 7 → τ' 14 b = cnt h b h.1 + if (goesP E h t).1 = (b : Int) then 1 else 0) → TR E h0 (goesP E h t).2 τ' := by
    intro τ' a1 ag a2 a3 a4
    refine ⟨⟨HC11.keep t1 (fun c hc => a1 c (by omega) (by omega)), t2.keep t3 (fun c hc => a1 c (by omega) (by omega)), by rw [a1 4 (by decide) (by decide)]; exact t3⟩, ⟨u1, wfg, lkg⟩, ⟨s, v1, by rw [a3]; exact v2, fun b hb => ?_⟩, ⟨r, a2, r2.congr (fun u hu => ?_)⟩, fun b hb => by rw [a4 b hb, cg b hb], fun b hb => by rw [a1 15 (by decide) (by decide), mg b]; exact w2 b hb, fun b' k' n' x1 x2 x3 => by rw [a1 16 (by decide) (by decide)]; exact kng b' k' n' x1 x2 x3⟩
    · rw [n3]
      rw [n2] at hb
      exact v3 b hb
    · rw [og u]
      congr 2
      by_cases z : u = t
      · simp [z, ag]
      · simp [z]
  by_cases q8 : win E h t = 8
  · have eg : (goesP E h t).1 = 8 := by
      unfold goesP
      rw [if_pos q0, if_pos q8]
    rw [if_pos q8]
    dsimp only
    have x1 : i_add (τ1 10 11) 1 = τ 10 11 + 1 := by
      rw [e10]
      exact ia hp
    have x2 : up τ1 10 11 (i_add (τ1 10 11) 1) 10 8 = (o' : Int) := by
      rw [up_get, if_neg (by omega)]
      exact o1'
    rw [x2, r1, x1, q8, eg]
    refine ⟨_, rfl, fin _ (fun c c1 c2 => by rw [up_ne c1, up_ne c1]) (by rw [eg]; decide) (by simp [up]) (by simp [up]) (fun b hb => ?_), ?_, ?_, ?_, fun c hc => by rw [up_ne (by omega), up_ne (by omega), s1 c (by omega)]⟩
    · rw [up_ne (by decide), up_ne (by decide), eg, if_neg (by omega), w1 b hb]
      omega
    · simp [up, e10]
    · simp [up]
    · simp [up, e10]
  · rw [if_neg q8]
    dsimp only
    by_cases q2 : win E h t = -2
    · have eg : goesP E h t = (-2, h) := by
        unfold goesP
        rw [if_pos q0, if_neg q8, if_pos q2]
      rw [if_pos (by omega), q2, eg]
      exact ⟨τ1, rfl, T1, by rw [e10]; simp, by rw [e10]; simp, by rw [e10], fun c hc => s1 c (by omega)⟩
    · have eg : (goesP E h t).1 = win E h t := by
        unfold goesP
        rw [if_pos q0, if_neg q8, if_neg q2]
      obtain ⟨wb, hwb⟩ : ∃ wb : Nat, win E h t = (wb : Int) := ⟨(win E h t).toNat, by omega⟩
      rw [hwb] at eg
      rw [hwb]
      rw [if_neg (by omega)]
      simp only [rfS, lnS, Int.toNat_natCast]
      rw [if_pos ⟨by omega, by omega⟩, if_pos ⟨by omega, by omega⟩]
      have x1 : i_add (τ1 10 10) 1 = τ 10 10 + 1 := by
        rw [e10]
        exact ia hs
      have cb := cnt_le h wb h.1
      have x3 : i_add (up τ1 10 10 (τ 10 10 + 1) 14 wb) 1 = cnt h wb h.1 + 1 := by
        rw [up_ne (by decide), w1 wb (by omega)]
        exact ia (ok_in (by omega) (by omega))
      rw [x1, x3]
      have x2 : up (up τ1 10 10 (τ 10 10 + 1)) 14 wb (cnt h wb h.1 + 1) 10 8 = (o' : Int) := by
        rw [up_ne (by decide), up_get, if_neg (by omega)]
        exact o1'
      rw [x2, r1, eg]
      refine ⟨_, rfl, fin _ (fun c c1 c2 => by rw [up_ne c1, up_ne c2, up_ne c1]) (by rw [eg]; omega) (by simp [up]) (by simp [up]) (fun b hb => ?_), ?_, ?_, ?_, fun c hc => by rw [up_ne (by omega), up_ne (by omega), up_ne (by omega), s1 c (by omega)]⟩
      · rw [up_ne (by decide), up_get, eg]
        by_cases z : b = wb
        · rw [if_pos ⟨rfl, z⟩, if_pos (by omega), z]
        · rw [if_neg (fun y => z y.2), if_neg (by omega), up_ne (by decide), w1 b hb]
          omega
      · rw [if_pos (by omega)]
        simp [up]
      · rw [if_neg (by omega)]
        simp [up, e10]
      · simp [up, e10]
