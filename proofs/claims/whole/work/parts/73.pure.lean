/-! Sales in thought, as plain mathematics: counting, years, bids, who wins, a thing put up. -/
def setT (h : Hs) (t w : Nat) (v : Int) : Hs := (h.1, h.2.1, up2 h.2.2.1 t w v, h.2.2.2)
def setB (h : Hs) (b w : Nat) (v : Int) : Hs := (h.1, h.2.1, h.2.2.1, up2 h.2.2.2 b w v)
theorem hset_T {h : Hs} {t w : Nat} {v : Int} (ht : t < h.1) (hw : w < 4) : hset h (t : Int) (w : Int) v = setT h t w v := by
  unfold hset setT
  rw [if_pos (by omega)]
  simp only [Int.toNat_natCast]
theorem hset_B {h : Hs} {b w : Nat} {v : Int} (hb : b < h.2.1) (hw : w < 9) : hset h (b : Int) ((w + 4 : Nat) : Int) v = setB h b w v := hset_b hb hw
theorem hnum_T {h : Hs} {t w : Nat} (ht : t < h.1) (hw : w < 4) : hnum h (t : Int) (w : Int) = h.2.2.1 t w := by
  unfold hnum
  rw [if_pos (by omega)]
  simp only [Int.toNat_natCast]
theorem hnum_B {h : Hs} {b w : Nat} (hb : b < h.2.1) (hw : w < 9) : hnum h (b : Int) ((w + 4 : Nat) : Int) = h.2.2.2 b w := by
  unfold hnum
  rw [if_neg (by omega), if_pos (by omega), Int.toNat_natCast, show (((w + 4 : Nat) : Int) - 4).toNat = w by omega]
theorem HM_T {h : Hs} {τ : St} {t w : Nat} {v : Int} (hh : HM h τ) (hw : w < 4) : HM (setT h t w v) (up τ (50 + w) t v) := by
  obtain ⟨e1, e2, e3, e4⟩ := hh
  refine ⟨by rw [up_ne (by omega)]; exact e1, by rw [up_ne (by omega)]; exact e2, fun u hu => ?_, fun b q hb hq => by rw [up_ne (by omega)]; exact e4 b q hb hq⟩
  obtain ⟨f0, f1, f2, f3⟩ := e3 u hu
  have g : ∀ q : Nat, q < 4 → up τ (50 + w) t v (50 + q) u = up2 h.2.2.1 t w v u q := by
    intro q hq
    rw [up_get]
    unfold up2
    by_cases k : u = t ∧ q = w
    · rw [if_pos (by omega), if_pos k]
    · rw [if_neg (by omega), if_neg k]
      have : q = 0 ∨ q = 1 ∨ q = 2 ∨ q = 3 := by omega
      rcases this with rfl | rfl | rfl | rfl
      · exact f0
      · exact f1
      · exact f2
      · exact f3
  exact ⟨g 0 (by decide), g 1 (by decide), g 2 (by decide), g 3 (by decide)⟩
theorem HM_B {h : Hs} {τ : St} {b w : Nat} {v : Int} (hh : HM h τ) (hb : b < 7) : HM (setB h b w v) (up τ 54 (7 * w + b) v) := by
  obtain ⟨e1, e2, e3, e4⟩ := hh
  refine ⟨by rw [up_ne (by decide)]; exact e1, by rw [up_ne (by decide)]; exact e2, fun u hu => ?_, fun a q ha hq => ?_⟩
  · obtain ⟨f0, f1, f2, f3⟩ := e3 u hu
    exact ⟨by rw [up_ne (by decide)]; exact f0, by rw [up_ne (by decide)]; exact f1, by rw [up_ne (by decide)]; exact f2, by rw [up_ne (by decide)]; exact f3⟩
  · rw [up_get]
    show _ = up2 h.2.2.2 b w v a q
    unfold up2
    by_cases k : a = b ∧ q = w
    · rw [if_pos ⟨rfl, by omega⟩, if_pos k]
    · rw [if_neg (by omega), if_neg k]
      exact e4 a q ha hq
theorem HC_T {c : Nat} {h : Hs} {τ : St} {t w : Nat} {v : Int} (hc : isO 2 c = true) (hh : HC c h τ) (hw : w < 4) : HC c (setT h t w v) (up τ (RF c 0) (4 * t + w) v) := by
  obtain ⟨l0, l1, n1, n2, n3, -⟩ := hs_LN hc
  obtain ⟨e1, e2, e3, e4⟩ := hh
  refine ⟨by rw [up_ne (Ne.symm n2)]; exact e1, by rw [up_ne (Ne.symm n2)]; exact e2, fun u q hu hq => ?_, fun a q ha hq => by rw [up_ne (Ne.symm n1)]; exact e4 a q ha hq⟩
  rw [up_get]
  show _ = up2 h.2.2.1 t w v u q
  unfold up2
  by_cases k : u = t ∧ q = w
  · rw [if_pos ⟨rfl, by omega⟩, if_pos k]
  · rw [if_neg (by omega), if_neg k]
    exact e3 u q hu hq
/-- what a house in order says of a thing and of a bidder -/
theorem wf_T {h : Hs} (hw : Wf h) {t : Nat} (ht : t < h.1) : (0 ≤ h.2.2.1 t 0 ∧ h.2.2.1 t 0 ≤ 3) ∧ (h.2.2.1 t 1 = -1 ∨ (0 ≤ h.2.2.1 t 1 ∧ h.2.2.1 t 1 < (h.2.1 : Int))) ∧ (h.2.2.1 t 2 = 0 ∨ h.2.2.1 t 2 = 1) ∧ (0 ≤ h.2.2.1 t 3 ∧ h.2.2.1 t 3 ≤ 99) := by
  have f := hw.2.2.2
  have g : ∀ w : Nat, w < 4 → fitv h (w : Int) (h.2.2.1 t w) := by
    intro w hw4
    have := f (t : Int) (w : Int) (Or.inl (by omega))
    rw [hnum_T ht hw4] at this
    exact this
  have g0 := g 0 (by decide)
  have g1 := g 1 (by decide)
  have g2 := g 2 (by decide)
  have g3 := g 3 (by decide)
  unfold fitv at g0 g1 g2 g3
  have m0 : most ((0 : Nat) : Int) = 3 := rfl
  have m2 : most ((2 : Nat) : Int) = 1 := rfl
  have m3 : most ((3 : Nat) : Int) = 99 := rfl
  rw [m0] at g0
  rw [m2] at g2
  rw [m3] at g3
  omega
theorem wf_B {h : Hs} (hw : Wf h) {b : Nat} (hb : b < h.2.1) : (∀ w : Nat, w < 9 → 0 ≤ h.2.2.2 b w ∧ h.2.2.2 b w ≤ 99) ∧ h.2.2.2 b 3 ≤ 9 ∧ (h.2.2.2 b 4 = 0 ∨ h.2.2.2 b 4 = 1) := by
  have f := hw.2.2.2
  have g : ∀ w : Nat, w < 9 → fitv h ((w + 4 : Nat) : Int) (h.2.2.2 b w) := by
    intro w hw4
    have := f (b : Int) ((w + 4 : Nat) : Int) (Or.inr (by omega))
    rw [hnum_B hb hw4] at this
    exact this
  have mm : ∀ w : Nat, w < 9 → most ((w + 4 : Nat) : Int) ≤ 99 := by decide +kernel
  refine ⟨fun w hw9 => ?_, ?_, ?_⟩
  · have q := g w hw9
    have := mm w hw9
    unfold fitv at q
    omega
  · have q := g 3 (by decide)
    have m3 : most ((3 + 4 : Nat) : Int) = 9 := rfl
    unfold fitv at q
    rw [m3] at q
    omega
  · have q := g 4 (by decide)
    have m3 : most ((4 + 4 : Nat) : Int) = 1 := rfl
    unfold fitv at q
    rw [m3] at q
    omega
theorem wf_setT {h : Hs} {t w : Nat} {v : Int} (hw : Wf h) (ht : t < h.1) (h4 : w < 4) (f : fitv h (w : Int) v) : Wf (setT h t w v) := by
  rw [← hset_T ht h4]
  exact hw.set (Or.inl (by omega)) f
theorem wf_setB {h : Hs} {b w : Nat} {v : Int} (hw : Wf h) (hb : b < h.2.1) (h4 : w < 9) (f : fitv h ((w + 4 : Nat) : Int) v) : Wf (setB h b w v) := by
  rw [← hset_B hb h4]
  exact hw.set (Or.inr (by omega)) f
def cnt (h : Hs) (b : Int) : Nat → Int
  | 0 => 0
  | n + 1 => if h.2.2.1 n 1 = b ∧ h.2.2.1 n 2 = 0 then cnt h b n + 1 else cnt h b n
def mis (h : Hs) (b : Int) : Nat → Int
  | 0 => 0
  | n + 1 => if h.2.2.1 n 1 = b ∧ h.2.2.1 n 2 = 1 ∧ 0 < h.2.2.1 n 3 then mis h b n + 1 else mis h b n
theorem cnt_le (h : Hs) (b : Int) : ∀ n : Nat, 0 ≤ cnt h b n ∧ cnt h b n ≤ (n : Int)
  | 0 => ⟨Int.le_refl _, Int.le_refl _⟩
  | n + 1 => by
    have := cnt_le h b n
    unfold cnt
    split <;> omega
theorem mis_le (h : Hs) (b : Int) : ∀ n : Nat, 0 ≤ mis h b n ∧ mis h b n ≤ (n : Int)
  | 0 => ⟨Int.le_refl _, Int.le_refl _⟩
  | n + 1 => by
    have := mis_le h b n
    unfold mis
    split <;> omega
noncomputable def yrs (E : E6) (h : Hs) (b k : Nat) (n : Int) : Int := m_max 0 (m_min 99 (E (h.2.2.2 b 0) (h.2.2.2 b 1) (h.2.2.2 b 2) (h.2.2.2 b (5 + k)) n (mis h b h.1)))
noncomputable def wm (E : E6) (h : Hs) (b t : Nat) : Int := yrs E h b (h.2.2.1 t 0).toNat (cnt h b h.1)
def bd (w f s : Int) : Int := if s = 1 then (if f ≤ 0 then w else 0) else m_min 99 (i_add w f)
noncomputable def bids (E : E6) (h : Hs) (t b : Nat) : Int := bd (wm E h b t) (h.2.2.2 b 3) (h.2.2.2 b 4)
def winS (f : Nat → Int) : Nat → Int × Int
  | 0 => (-2, 0)
  | n + 1 => if f n = 0 then winS f n else if (winS f n).2 ≤ f n then (if f n = (winS f n).2 then 8 else (n : Int), f n) else winS f n
noncomputable def win (E : E6) (h : Hs) (t : Nat) : Int := (winS (bids E h t) h.2.1).1
theorem yrs_in (E : E6) (h : Hs) (b k : Nat) (n : Int) : 0 ≤ yrs E h b k n ∧ yrs E h b k n ≤ 99 := by
  unfold yrs m_max m_min
  split <;> split <;> omega
theorem bd_in {w f s : Int} (h0 : 0 ≤ w) (h1 : w ≤ 99) (f0 : 0 ≤ f) (f1 : f ≤ 99) : 0 ≤ bd w f s ∧ bd w f s ≤ 99 := by
  unfold bd m_min
  rw [ia (ok_in (by omega) (by omega))]
  split
  · split <;> omega
  · split <;> omega
theorem bids_in {E : E6} {h : Hs} {t b : Nat} (hw : Wf h) (hb : b < h.2.1) : 0 ≤ bids E h t b ∧ bids E h t b ≤ 99 := by
  have y := yrs_in E h b (h.2.2.1 t 0).toNat (cnt h b h.1)
  have f := (wf_B hw hb).1 3 (by decide)
  exact bd_in y.1 y.2 f.1 f.2
theorem winS_in (f : Nat → Int) : ∀ n : Nat, (winS f n).1 = -2 ∨ (winS f n).1 = 8 ∨ (0 ≤ (winS f n).1 ∧ (winS f n).1 < (n : Int))
  | 0 => Or.inl rfl
  | n + 1 => by
    have := winS_in f n
    unfold winS
    split
    · omega
    · split
      · dsimp only
        split <;> omega
      · omega
theorem winS_congr {f g : Nat → Int} : ∀ n : Nat, (∀ b : Nat, b < n → f b = g b) → winS f n = winS g n
  | 0, _ => rfl
  | n + 1, h => by
    have e1 := winS_congr n (fun b hb => h b (by omega))
    have e2 := h n (by omega)
    unfold winS
    rw [e1, e2]
theorem winS_ge (f : Nat → Int) : ∀ n : Nat, (∀ b : Nat, b < n → 0 ≤ f b) → 0 ≤ (winS f n).2
  | 0, _ => Int.le_refl _
  | n + 1, h => by
    have e1 := winS_ge f n (fun b hb => h b (by omega))
    have e2 := h n (by omega)
    unfold winS
    split
    · exact e1
    · split
      · exact e2
      · exact e1
theorem win_in {E : E6} {h : Hs} {t : Nat} : win E h t = -2 ∨ win E h t = 8 ∨ (0 ≤ win E h t ∧ win E h t < (h.2.1 : Int)) := winS_in _ _
/-- a thing is put up: who wins it, and the house then -/
noncomputable def goesP (E : E6) (h : Hs) (t : Nat) : Int × Hs := if h.2.2.1 t 1 = -1 ∧ h.2.2.1 t 2 = 0 then (if win E h t = 8 then (8, setT (setT h t 2 1) t 3 0) else if win E h t = -2 then (-2, h) else (win E h t, setT h t 1 (win E h t))) else (9, h)
theorem goesP_n {E : E6} {h : Hs} {t : Nat} : (goesP E h t).2.1 = h.1 ∧ (goesP E h t).2.2.1 = h.2.1 ∧ (goesP E h t).2.2.2.2 = h.2.2.2 := by
  unfold goesP
  split
  · split
    · exact ⟨rfl, rfl, rfl⟩
    · split <;> exact ⟨rfl, rfl, rfl⟩
  · exact ⟨rfl, rfl, rfl⟩
theorem goesP_wf {E : E6} {h : Hs} {t : Nat} (hw : Wf h) (ht : t < h.1) : Wf (goesP E h t).2 := by
  unfold goesP
  split
  · split
    · refine wf_setT (wf_setT hw ht (by decide) ?_) ht (by decide) ?_
      · exact Or.inr ⟨by decide, by decide, by decide⟩
      · exact Or.inr ⟨by decide, by decide, by decide⟩
    · split
      · exact hw
      · refine wf_setT hw ht (by decide) (Or.inl ⟨rfl, Or.inr ?_⟩)
        have := win_in (E := E) (h := h) (t := t)
        omega
  · exact hw
