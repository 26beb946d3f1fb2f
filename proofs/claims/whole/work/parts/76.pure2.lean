/-! What a sale changes of the counts. -/
theorem cnt_congr {h g : Hs} {b : Int} : ∀ n : Nat, (∀ u : Nat, u < n → ((h.2.2.1 u 1 = b ∧ h.2.2.1 u 2 = 0) ↔ (g.2.2.1 u 1 = b ∧ g.2.2.1 u 2 = 0))) → cnt h b n = cnt g b n
  | 0, _ => rfl
  | n + 1, k => by
    have ih := cnt_congr (h := h) (g := g) (b := b) n (fun u hu => k u (by omega))
    have e := k n (by omega)
    unfold cnt
    rw [ih]
    by_cases q : h.2.2.1 n 1 = b ∧ h.2.2.1 n 2 = 0
    · rw [if_pos q, if_pos (e.mp q)]
    · rw [if_neg q, if_neg (fun z => q (e.mpr z))]
theorem mis_congr {h g : Hs} {b : Int} : ∀ n : Nat, (∀ u : Nat, u < n → ((h.2.2.1 u 1 = b ∧ h.2.2.1 u 2 = 1 ∧ 0 < h.2.2.1 u 3) ↔ (g.2.2.1 u 1 = b ∧ g.2.2.1 u 2 = 1 ∧ 0 < g.2.2.1 u 3))) → mis h b n = mis g b n
  | 0, _ => rfl
  | n + 1, k => by
    have ih := mis_congr (h := h) (g := g) (b := b) n (fun u hu => k u (by omega))
    have e := k n (by omega)
    unfold mis
    rw [ih]
    by_cases q : h.2.2.1 n 1 = b ∧ h.2.2.1 n 2 = 1 ∧ 0 < h.2.2.1 n 3
    · rw [if_pos q, if_pos (e.mp q)]
    · rw [if_neg q, if_neg (fun z => q (e.mpr z))]
theorem up2_t {f : Nat → Nat → Int} {t w u q : Nat} {v : Int} (k : ¬ (u = t ∧ q = w)) : up2 f t w v u q = f u q := if_neg k
theorem up2_e {f : Nat → Nat → Int} {t w : Nat} {v : Int} : up2 f t w v t w = v := if_pos ⟨rfl, rfl⟩
theorem cnt_sell {h : Hs} {t : Nat} {r b : Int} (h1 : h.2.2.1 t 1 = -1) (h2 : h.2.2.1 t 2 = 0) (hb : b ≠ -1) : ∀ n : Nat, cnt (setT h t 1 r) b n = cnt h b n + if t < n ∧ r = b then 1 else 0
  | 0 => by
    rw [if_neg (by omega)]
    rfl
  | n + 1 => by
    have ih := cnt_sell (h := h) (t := t) (r := r) (b := b) h1 h2 hb n
    have c2 : (setT h t 1 r).2.2.1 n 2 = h.2.2.1 n 2 := up2_t (by omega)
    unfold cnt
    rw [ih, c2]
    by_cases e : n = t
    · subst e
      have c1 : (setT h n 1 r).2.2.1 n 1 = r := up2_e
      rw [c1, h1, h2, if_neg (show ¬ ((-1 : Int) = b ∧ (0 : Int) = 0) by omega), if_neg (show ¬ (n < n ∧ r = b) by omega)]
      by_cases q : r = b
      · rw [if_pos ⟨q, rfl⟩, if_pos ⟨by omega, q⟩]
        omega
      · rw [if_neg (fun z => q z.1), if_neg (fun z => q z.2)]
    · have c1 : (setT h t 1 r).2.2.1 n 1 = h.2.2.1 n 1 := up2_t (by omega)
      rw [c1]
      by_cases q : t < n ∧ r = b
      · rw [if_pos q, if_pos (show t < n + 1 ∧ r = b from ⟨by omega, q.2⟩)]
        split <;> omega
      · rw [if_neg q, if_neg (show ¬ (t < n + 1 ∧ r = b) from fun z => q ⟨by omega, z.2⟩)]
        split <;> omega
/-- the same house for all that years and counts ask -/
theorem mis_goes {E : E6} {h : Hs} {t n : Nat} {b : Int} (hb : b ≠ -1) : mis (goesP E h t).2 b n = mis h b n := by
  unfold goesP
  split
  case isFalse => rfl
  case isTrue a =>
    obtain ⟨a1, a2⟩ := a
    split
    · refine mis_congr n (fun u hu => ?_)
      by_cases e : u = t
      · subst e
        have d3 : (setT (setT h u 2 1) u 3 0).2.2.1 u 3 = 0 := up2_e
        rw [d3, a1]
        constructor
        · intro z; omega
        · intro z; omega
      · have d1 : (setT (setT h t 2 1) t 3 0).2.2.1 u 1 = h.2.2.1 u 1 := (up2_t (by omega)).trans (up2_t (by omega))
        have d2 : (setT (setT h t 2 1) t 3 0).2.2.1 u 2 = h.2.2.1 u 2 := (up2_t (by omega)).trans (up2_t (by omega))
        have d3 : (setT (setT h t 2 1) t 3 0).2.2.1 u 3 = h.2.2.1 u 3 := (up2_t (by omega)).trans (up2_t (by omega))
        rw [d1, d2, d3]
    · split
      · rfl
      · refine mis_congr n (fun u hu => ?_)
        have d2 : (setT h t 1 (win E h t)).2.2.1 u 2 = h.2.2.1 u 2 := up2_t (by omega)
        have d3 : (setT h t 1 (win E h t)).2.2.1 u 3 = h.2.2.1 u 3 := up2_t (by omega)
        rw [d2, d3]
        by_cases e : u = t
        · subst e
          rw [a2]
          constructor
          · intro z; omega
          · intro z; omega
        · have d1 : (setT h t 1 (win E h t)).2.2.1 u 1 = h.2.2.1 u 1 := up2_t (by omega)
          rw [d1]
theorem cnt_goes {E : E6} {h : Hs} {t : Nat} {b : Nat} (ht : t < h.1) (hb : b < 7) : cnt (goesP E h t).2 b h.1 = cnt h b h.1 + if (goesP E h t).1 = (b : Int) then 1 else 0 := by
  have wi := win_in (E := E) (h := h) (t := t)
  unfold goesP
  split
  case isFalse =>
    dsimp only
    rw [if_neg (by omega)]
    omega
  case isTrue a =>
    obtain ⟨a1, a2⟩ := a
    split
    · dsimp only
      rw [if_neg (show ¬ (8 : Int) = (b : Int) by omega)]
      have e : cnt (setT (setT h t 2 1) t 3 0) b h.1 = cnt h b h.1 := by
        refine cnt_congr h.1 (fun u hu => ?_)
        by_cases e : u = t
        · subst e
          have d1 : (setT (setT h u 2 1) u 3 0).2.2.1 u 1 = h.2.2.1 u 1 := (up2_t (by omega)).trans (up2_t (by omega))
          rw [d1, a1]
          constructor
          · intro z; omega
          · intro z; omega
        · have d1 : (setT (setT h t 2 1) t 3 0).2.2.1 u 1 = h.2.2.1 u 1 := (up2_t (by omega)).trans (up2_t (by omega))
          have d2 : (setT (setT h t 2 1) t 3 0).2.2.1 u 2 = h.2.2.1 u 2 := (up2_t (by omega)).trans (up2_t (by omega))
          rw [d1, d2]
      rw [e]
      omega
    · split
      · dsimp only
        rw [if_neg (show ¬ (-2 : Int) = (b : Int) by omega)]
        omega
      · dsimp only
        rw [cnt_sell a1 a2 (by omega)]
        by_cases q : win E h t = (b : Int)
        · rw [if_pos ⟨ht, q⟩, if_pos q]
        · rw [if_neg (fun z => q z.2), if_neg q]
/-- what is for sale -/
def opP (h : Hs) (t : Nat) : Bool := decide (t < h.1 ∧ h.2.2.1 t 1 = -1 ∧ h.2.2.1 t 2 = 0)
theorem opP_goes {E : E6} {h : Hs} {t : Nat} : ∀ u : Nat, opP (goesP E h t).2 u = (opP h u && !(decide (u = t ∧ (goesP E h t).1 ≠ -2))) := by
  intro u
  have wi := win_in (E := E) (h := h) (t := t)
  unfold goesP
  split
  case isFalse a =>
    dsimp only
    by_cases e : u = t
    · subst e
      have : opP h u = false := by
        unfold opP
        simp only [decide_eq_false_iff_not]
        exact fun z => a z.2
      rw [this]
      rfl
    · have : decide (u = t ∧ (9 : Int) ≠ -2) = false := by
        simp only [decide_eq_false_iff_not]
        exact fun z => e z.1
      rw [this]
      simp
  case isTrue a =>
    obtain ⟨a1, a2⟩ := a
    split
    · dsimp only
      by_cases e : u = t
      · subst e
        have d2 : (setT (setT h u 2 1) u 3 0).2.2.1 u 2 = 1 := (up2_t (by omega)).trans up2_e
        have : opP (setT (setT h u 2 1) u 3 0) u = false := by
          unfold opP
          rw [d2]
          simp
        rw [this]
        simp
      · have d1 : (setT (setT h t 2 1) t 3 0).2.2.1 u 1 = h.2.2.1 u 1 := (up2_t (by omega)).trans (up2_t (by omega))
        have d2 : (setT (setT h t 2 1) t 3 0).2.2.1 u 2 = h.2.2.1 u 2 := (up2_t (by omega)).trans (up2_t (by omega))
        have d0 : (setT (setT h t 2 1) t 3 0).1 = h.1 := rfl
        have : decide (u = t ∧ (8 : Int) ≠ -2) = false := by
          simp only [decide_eq_false_iff_not]
          exact fun z => e z.1
        unfold opP
        rw [d1, d2, d0, this]
        simp
    · split
      · dsimp only
        have : decide (u = t ∧ (-2 : Int) ≠ -2) = false := by simp
        rw [this]
        simp
      case isFalse n8 n2 =>
        dsimp only
        by_cases e : u = t
        · subst e
          have d1 : (setT h u 1 (win E h u)).2.2.1 u 1 = win E h u := up2_e
          have : opP (setT h u 1 (win E h u)) u = false := by
            unfold opP
            rw [d1]
            simp only [decide_eq_false_iff_not]
            intro z
            omega
          rw [this]
          have : decide (u = u ∧ win E h u ≠ -2) = true := by
            exact decide_eq_true ⟨rfl, n2⟩
          rw [this]
          simp
        · have d1 : (setT h t 1 (win E h t)).2.2.1 u 1 = h.2.2.1 u 1 := up2_t (by omega)
          have d2 : (setT h t 1 (win E h t)).2.2.1 u 2 = h.2.2.1 u 2 := up2_t (by omega)
          have d0 : (setT h t 1 (win E h t)).1 = h.1 := rfl
          have : decide (u = t ∧ win E h t ≠ -2) = false := by
            simp only [decide_eq_false_iff_not]
            exact fun z => e z.1
          unfold opP
          rw [d1, d2, d0, this]
          simp
theorem yrs_congr {E : E6} {h g : Hs} {b k : Nat} {n : Int} (eB : ∀ w : Nat, w ≠ 3 → w ≠ 4 → h.2.2.2 b w = g.2.2.2 b w) (em : mis h b h.1 = mis g b g.1) : yrs E h b k n = yrs E g b k n := by
  unfold yrs
  rw [eB 0 (by decide) (by decide), eB 1 (by decide) (by decide), eB 2 (by decide) (by decide), eB (5 + k) (by omega) (by omega), em]
theorem goesP_kind {E : E6} {h : Hs} {t : Nat} : ∀ u : Nat, (goesP E h t).2.2.2.1 u 0 = h.2.2.1 u 0 := by
  intro u
  unfold goesP
  split
  · split
    · exact (up2_t (by omega)).trans (up2_t (by omega))
    · split
      · rfl
      · exact up2_t (by omega)
  · rfl
/-- sets of at most eight -/
def BS (s : Nat) (P : Nat → Bool) : Prop := s < 256 ∧ ∀ u : Nat, u < 8 → s.testBit u = P u
theorem bit_or_t : ∀ s : Nat, s < 256 → ∀ t : Nat, t < 8 → (s ||| (1 <<< t)) < 256 ∧ ∀ u : Nat, u < 8 → (s ||| (1 <<< t)).testBit u = (s.testBit u || decide (u = t)) := by decide +kernel
theorem bit_out_t : ∀ s : Nat, s < 256 → ∀ t : Nat, t < 8 → (if s.testBit t then s - 2 ^ t else s) < 256 ∧ ∀ u : Nat, u < 8 → (if s.testBit t then s - 2 ^ t else s).testBit u = (s.testBit u && !decide (u = t)) := by decide +kernel
theorem BS.uniq {s r : Nat} {P : Nat → Bool} (a : BS s P) (b : BS r P) : s = r := by
  refine Nat.eq_of_testBit_eq (fun i => ?_)
  by_cases h : i < 8
  · rw [a.2 i h, b.2 i h]
  · have e : ∀ x : Nat, x < 256 → x.testBit i = false := fun x hx => Nat.testBit_lt_two_pow (Nat.lt_of_lt_of_le hx (show 2 ^ 8 ≤ 2 ^ i from Nat.pow_le_pow_right (by decide) (by omega)))
    rw [e s a.1, e r b.1]
theorem BS.or {s t : Nat} {P : Nat → Bool} (a : BS s P) (ht : t < 8) : ∃ r : Nat, i_or (s : Int) (i_shl 1 (t : Int)) = (r : Int) ∧ BS r (fun u => P u || decide (u = t)) := by
  obtain ⟨q1, q2⟩ := bit_or_t s a.1 t ht
  exact ⟨_, bit_or s a.1 t ht, q1, fun u hu => by rw [q2 u hu, a.2 u hu]⟩
theorem BS.out {s t : Nat} {P : Nat → Bool} (a : BS s P) (ht : t < 8) : ∃ r : Nat, i_and (s : Int) (i_xor (i_shl 1 (t : Int)) (-1)) = (r : Int) ∧ BS r (fun u => P u && !decide (u = t)) := by
  obtain ⟨q1, q2⟩ := bit_out_t s a.1 t ht
  exact ⟨_, bit_out s a.1 t ht, q1, fun u hu => by rw [q2 u hu, a.2 u hu]⟩
theorem BS.bit {s t : Nat} {P : Nat → Bool} (a : BS s P) (ht : t < 8) : i_and (i_shr (s : Int) (t : Int)) 1 = if P t then 1 else 0 := by
  rw [bit_and s a.1 t ht, a.2 t ht]
theorem BS.congr {s : Nat} {P Q : Nat → Bool} (a : BS s P) (e : ∀ u : Nat, u < 8 → P u = Q u) : BS s Q := ⟨a.1, fun u hu => (a.2 u hu).trans (e u hu)⟩
