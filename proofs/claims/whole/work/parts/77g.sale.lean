/-! Sales by a catalogue, one behind the other: sale, after. -/
def lst (P : Nat → Bool) : Nat → Nat → Nat
  | 0, k => k
  | m + 1, k => if P k = true then lst P m (k + 1) else k
theorem lst_le (P : Nat → Bool) : ∀ m k : Nat, k ≤ lst P m k ∧ lst P m k ≤ k + m
  | 0, k => ⟨Nat.le_refl _, Nat.le_refl _⟩
  | m + 1, k => by
    have := lst_le P m (k + 1)
    unfold lst
    split <;> omega
theorem lst_all (P : Nat → Bool) : ∀ m k j : Nat, k ≤ j → j < lst P m k → P j = true
  | 0, k, j, h1, h2 => by
    unfold lst at h2
    omega
  | m + 1, k, j, h1, h2 => by
    unfold lst at h2
    split at h2
    case isTrue q =>
      by_cases e : j = k
      · rw [e]
        exact q
      · exact lst_all P m (k + 1) j (by omega) h2
    case isFalse => omega
def inT (R : Nat → Int) (n : Nat) (j : Nat) : Bool := decide (0 ≤ R j ∧ R j < (n : Int))
def ctl (R : Nat → Int) (len n : Nat) : Nat := lst (inT R n) (min 16 len) 0
theorem ctl_le {R : Nat → Int} {len n : Nat} : ctl R len n ≤ 16 ∧ ctl R len n ≤ len := by
  have := lst_le (inT R n) (min 16 len) 0
  unfold ctl
  omega
theorem ctl_in {R : Nat → Int} {len n j : Nat} (hj : j < ctl R len n) : 0 ≤ R j ∧ R j < (n : Int) := by
  have := lst_all (inT R n) (min 16 len) 0 j (Nat.zero_le _) hj
  unfold inT at this
  exact of_decide_eq_true this
def CatC (s : Nat) (R : Nat → Int) (len : Nat) (τ : St) : Prop := τ (37 + 2 * s) 4 = (len : Int) ∧ ∀ j : Nat, j < 60 → c_l2i (τ (38 + 2 * s) j) = R j
def CatM (s : Nat) (R : Nat → Int) (len : Nat) (τ : St) : Prop := τ 73 s = (len : Int) ∧ ∀ j : Nat, j < 60 → c_l2i (τ 74 (60 * s + j)) = R j
theorem CatC.keep {s len : Nat} {R : Nat → Int} {τ τ' : St} (hs : s < 6) (k : CatC s R len τ) (g : ∀ c, 37 ≤ c → c ≤ 48 → τ' c = τ c) : CatC s R len τ' := by
  unfold CatC at *
  rw [g (37 + 2 * s) (by omega) (by omega), g (38 + 2 * s) (by omega) (by omega)]
  exact k
theorem CatM.keep {s len : Nat} {R : Nat → Int} {τ τ' : St} (k : CatM s R len τ) (g : ∀ c, c = 73 ∨ c = 74 → τ' c = τ c) : CatM s R len τ' := by
  unfold CatM at *
  rw [g 73 (Or.inl rfl), g 74 (Or.inr rfl)]
  exact k
theorem cat_of {σ : St} {s : Nat} (k : InvShelf σ s) : ∃ (R : Nat → Int) (len : Nat), len ≤ 60 ∧ CatC s R len σ ∧ CatM s R len σ := by
  obtain ⟨-, k2, k3, k4, k5⟩ := k
  refine ⟨fun j => c_l2i (σ 74 (60 * s + j)), (σ 73 s).toNat, by omega, ⟨by omega, fun j hj => by rw [(k5 j hj).1]⟩, ⟨by omega, fun j hj => rfl⟩⟩
noncomputable def refB (σ : St) (s : Nat) : Int := if σ 72 s = -1 then -11 else if σ 72 s = 0 then 0 else -12
theorem refB9 {σ : St} {s : Nat} (k : InvShelf σ s) : fX6_refusesBytes (37 + 2 * s) σ = some (refB σ s, σ) := by
  obtain ⟨k1, -⟩ := k
  unfold fX6_refusesBytes fX6_holdsBytes refB
  rcases k1 with ⟨q1, q2⟩ | ⟨q1, q2, q3, q4⟩ | ⟨q1, q2, q3, q4⟩
  · rw [if_pos q1, if_pos q2]
  · rw [if_neg (show ¬ σ (37 + 2 * s) 1 = 0 by omega), if_neg (show ¬ σ (37 + 2 * s) 1 = 2 by omega), b0, if_neg (show ¬ σ 72 s = -1 by omega), if_neg (show ¬ σ 72 s = 0 by omega)]
  · rw [if_neg (show ¬ σ (37 + 2 * s) 1 = 0 by omega), if_pos q1, if_neg (show ¬ σ 72 s = -1 by omega)]
    by_cases z : σ (37 + 2 * s) 3 = 0
    · rw [if_pos z, b1, if_pos (show σ 72 s = 0 by omega)]
    · rw [if_neg z, b0, if_neg (show ¬ σ 72 s = 0 by omega)]
theorem refB10 {σ : St} {s : Nat} (hs : s < 6) : fX10_noBytes 49 (s : Int) σ = some (refB σ s, σ) := by
  unfold fX10_noBytes refB
  have ib : inb (s : Int) 6 := ⟨by omega, by omega⟩
  simp only [rfS, lnS, Int.toNat_natCast, if_pos ib]
  by_cases a : σ 72 s = -1
  · rw [if_pos a, if_pos a]
  · rw [if_neg a, if_neg a]
    by_cases b : σ 72 s = 0
    · rw [if_pos b, if_pos b]
    · rw [if_neg b, if_neg b]
theorem refB_in (σ : St) (s : Nat) : refB σ s = -11 ∨ refB σ s = -12 ∨ (refB σ s = 0 ∧ σ 72 s = 0) := by
  unfold refB
  split
  · exact Or.inl rfl
  · split
    case isTrue q => exact Or.inr (Or.inr ⟨rfl, q⟩)
    case isFalse => exact Or.inr (Or.inl rfl)
theorem lengthOf_l {s len : Nat} {R : Nat → Int} {h : Hs} {τ : St} (hs : s < 6) (hl : len ≤ 60) (c : CatC s R len τ) (hc : HC 11 h τ) : ∀ m n k : Nat, k + m = min 16 len → m < n → fX7_lengthOf_12 10 (37 + 2 * s) n ((min 16 len : Nat) : Int) (k : Int) τ = some (((lst (inT R h.1) m k : Nat) : Int), τ)
  | 0, n + 1, k, hm, _ => by
    have e : min 16 len = k := by omega
    unfold fX7_lengthOf_12
    rw [if_pos (by omega), e]
    rfl
  | m + 1, n + 1, k, hm, hn => by
    have e9 : i_add (k : Int) 1 = ((k + 1 : Nat) : Int) := by
      rw [ia (ok_in (by omega) (by omega))]
      omega
    unfold fX7_lengthOf_12
    simp only [rfS]
    rw [if_neg (by omega), at6 hs ⟨by omega, by rw [c.1]; omega⟩ (by rw [c.1]; omega), Option.bind_some]
    dsimp only
    rw [Int.toNat_natCast, c.2 k (by omega), hasThing_eq hc]
    unfold lst
    by_cases q : 0 ≤ R k ∧ R k < (h.1 : Int)
    · rw [if_pos q, b1, if_pos (show inT R h.1 k = true from decide_eq_true q)]
      dsimp only
      rw [e9]
      exact lengthOf_l hs hl c hc m n (k + 1) (by omega) (by omega)
    · rw [if_neg q, b0, if_neg (show ¬ inT R h.1 k = true from fun z => q (of_decide_eq_true z))]
theorem lengthOf_eq {s len : Nat} {R : Nat → Int} {h : Hs} {τ : St} (hs : s < 6) (hl : len ≤ 60) (c : CatC s R len τ) (hc : HC 11 h τ) : fX7_lengthOf 10 (37 + 2 * s) τ = some (((ctl R len h.1 : Nat) : Int), τ) := by
  unfold fX7_lengthOf
  have e : m_min 16 (τ (37 + 2 * s) 4) = ((min 16 len : Nat) : Int) := by
    rw [c.1]
    unfold m_min
    split <;> omega
  rw [e]
  exact lengthOf_l hs hl c hc (min 16 len) FU 0 (by omega) (by unfold FU; omega)
theorem listed_l {s len : Nat} {R : Nat → Int} {h : Hs} {σ : St} (hs : s < 6) (hl : len ≤ 60) (c : CatM s R len σ) (hh : HM h σ) (hz : Hz h) : ∀ m n k : Nat, k + m = min 16 len → m < n → fX10_listed_2 49 (s : Int) n (k : Int) σ = some (((lst (inT R h.1) m k : Nat) : Int), σ)
  | 0, n + 1, k, hm, _ => by
    unfold fX10_listed_2
    simp only [rfS, lnS, Int.toNat_natCast, c.1]
    rw [if_pos ⟨by omega, by omega⟩]
    by_cases q : (len : Int) ≤ (k : Int)
    · rw [if_pos q]
      rfl
    · rw [if_neg q, if_pos (by omega)]
      rfl
  | m + 1, n + 1, k, hm, hn => by
    have e9 : i_add (k : Int) 1 = ((k + 1 : Nat) : Int) := by
      rw [ia (ok_in (by omega) (by omega))]
      omega
    unfold fX10_listed_2
    simp only [rfS, lnS, Int.toNat_natCast, c.1]
    rw [if_pos ⟨by omega, by omega⟩, if_neg (by omega), if_neg (by omega), told10 hs (by omega) (by omega), Option.bind_some]
    dsimp only
    rw [Int.toNat_natCast, c.2 k (by omega), isThing_eq hh hz]
    unfold lst
    by_cases q : 0 ≤ R k ∧ R k < (h.1 : Int)
    · rw [if_pos q, b1, if_pos (show inT R h.1 k = true from decide_eq_true q)]
      dsimp only
      rw [e9]
      exact listed_l hs hl c hh hz m n (k + 1) (by omega) (by omega)
    · rw [if_neg q, b0, if_neg (show ¬ inT R h.1 k = true from fun z => q (of_decide_eq_true z))]
theorem listed_eq {s len : Nat} {R : Nat → Int} {h : Hs} {σ : St} (hs : s < 6) (hl : len ≤ 60) (c : CatM s R len σ) (hh : HM h σ) (hz : Hz h) : fX10_listed 49 (s : Int) σ = some (((ctl R len h.1 : Nat) : Int), σ) := listed_l hs hl c hh hz (min 16 len) FU 0 (by omega) (by unfold FU; omega)
/-- the house behind the k-th sale; who won the k-th -/
noncomputable def sk (E : E6) (R : Nat → Int) (h : Hs) : Nat → Hs
  | 0 => h
  | k + 1 => (goesP E (sk E R h k) (R k).toNat).2
noncomputable def wk (E : E6) (R : Nat → Int) (h : Hs) (k : Nat) : Int := (goesP E (sk E R h k) (R k).toNat).1
noncomputable def soN (E : E6) (R : Nat → Int) (h : Hs) : Nat → Int
  | 0 => 0
  | k + 1 => soN E R h k + if 0 ≤ wk E R h k ∧ wk E R h k < 7 then 1 else 0
noncomputable def pcN (E : E6) (R : Nat → Int) (h : Hs) : Nat → Int
  | 0 => 0
  | k + 1 => pcN E R h k + if wk E R h k = 8 then 1 else 0
theorem soN_le (E : E6) (R : Nat → Int) (h : Hs) : ∀ k : Nat, 0 ≤ soN E R h k ∧ soN E R h k ≤ (k : Int)
  | 0 => ⟨Int.le_refl _, Int.le_refl _⟩
  | k + 1 => by
    have := soN_le E R h k
    unfold soN
    split <;> omega
theorem pcN_le (E : E6) (R : Nat → Int) (h : Hs) : ∀ k : Nat, 0 ≤ pcN E R h k ∧ pcN E R h k ≤ (k : Int)
  | 0 => ⟨Int.le_refl _, Int.le_refl _⟩
  | k + 1 => by
    have := pcN_le E R h k
    unfold pcN
    split <;> omega
theorem goesP_pk {E : E6} {h : Hs} {t : Nat} : Pk h (goesP E h t).2 := by
  obtain ⟨n1, n2, n3⟩ := goesP_n (E := E) (h := h) (t := t)
  exact ⟨n1, n2, goesP_kind, fun b w _ _ _ => by rw [n3]⟩
theorem sk_pk (E : E6) (R : Nat → Int) (h : Hs) : ∀ k : Nat, Pk h (sk E R h k)
  | 0 => Pk.refl h
  | k + 1 => (sk_pk E R h k).trans goesP_pk
theorem sk_wf {E : E6} {R : Nat → Int} {h : Hs} {N : Nat} (hw : Wf h) (hR : ∀ j : Nat, j < N → 0 ≤ R j ∧ R j < (h.1 : Int)) : ∀ k : Nat, k ≤ N → Wf (sk E R h k)
  | 0, _ => hw
  | k + 1, hk => by
    have r := hR k (by omega)
    exact goesP_wf (sk_wf hw hR k (by omega)) (by rw [(sk_pk E R h k).1]; omega)
theorem goesP_in {E : E6} {h : Hs} {t : Nat} : (goesP E h t).1 = -2 ∨ (goesP E h t).1 = 8 ∨ (goesP E h t).1 = 9 ∨ (0 ≤ (goesP E h t).1 ∧ (goesP E h t).1 < (h.2.1 : Int)) := by
  have wi := win_in (E := E) (h := h) (t := t)
  unfold goesP
  split
  · split
    · exact Or.inr (Or.inl rfl)
    · split
      · exact Or.inl rfl
      · dsimp only
        omega
  · exact Or.inr (Or.inr (Or.inl rfl))
theorem sellsAll_l {E : E6} {h0 h : Hs} {s len N : Nat} {R : Nat → Int} (hs : s < 6) (hl : len ≤ 60) (hN : N ≤ 16) (hNl : N ≤ len) (hR : ∀ j : Nat, j < N → 0 ≤ R j ∧ R j < (h.1 : Int)) : ∀ (m n k : Nat) (τ : St), k + m = N → m < n → TR E h0 (sk E R h k) τ → CatC s R len τ → τ 10 7 = (N : Int) → τ 10 10 = soN E R h k → τ 10 11 = pcN E R h k → (∀ j : Nat, j < k → τ 18 j = wk E R h j) → ∃ τ' : St, fX7_sellsAll_11 10 (37 + 2 * s) n (k : Int) τ = some τ' ∧ TR E h0 (sk E R h N) τ' ∧ τ' 10 7 = (N : Int) ∧ τ' 10 10 = soN E R h N ∧ τ' 10 11 = pcN E R h N ∧ (∀ j : Nat, j < N → τ' 18 j = wk E R h j) ∧ Same τ τ' (fun d => d ≠ 6 ∧ d ≠ 7 ∧ d ≠ 10 ∧ d ≠ 14 ∧ d ≠ 16 ∧ d ≠ 17 ∧ d ≠ 18)
  | 0, n + 1, k, τ, hm, _, T, c, e7, e10, e11, hw => by
    have ek : k = N := by omega
    subst ek
    unfold fX7_sellsAll_11
    rw [e7, if_pos (by omega)]
    exact ⟨τ, rfl, T, e7, e10, e11, hw, fun _ _ => rfl⟩
  | m + 1, n + 1, k, τ, hm, hn, T, c, e7, e10, e11, hw => by
    have e9 : i_add (k : Int) 1 = ((k + 1 : Nat) : Int) := by
      rw [ia (ok_in (by omega) (by omega))]
      omega
    have r := hR k (by omega)
    have et : R k = (((R k).toNat : Nat) : Int) := by omega
    have u1 := soN_le E R h k
    have u2 := pcN_le E R h k
    obtain ⟨τ1, f1, T1, g10, g11, g7, s1⟩ := sells_eq (t := (R k).toNat) T (by rw [(sk_pk E R h k).1]; omega) (by rw [e10]; exact ok_in (by omega) (by omega)) (by rw [e11]; exact ok_in (by omega) (by omega))
    unfold fX7_sellsAll_11
    simp only [rfS, lnS]
    rw [e7, if_neg (by omega), at6 hs ⟨by omega, by rw [c.1]; omega⟩ (by rw [c.1]; omega), Option.bind_some]
    dsimp only
    rw [Int.toNat_natCast, c.2 k (by omega)]
    have f1' : fX7_sellsOne 10 (R k) τ = some (wk E R h k, τ1) := by
      rw [et]
      exact f1
    rw [f1', Option.bind_some, if_pos ⟨by omega, by omega⟩, e9]
    dsimp only
    have ne18 : ∀ d : Nat, d ≠ 18 → up τ1 18 k (wk E R h k) d = τ1 d := fun d hd => up_ne hd
    have T2 : TR E h0 (sk E R h (k + 1)) (up τ1 18 k (wk E R h k)) := TR.keep (h := sk E R h (k + 1)) T1 (fun c hc => ne18 c (by omega)) (by rw [ne18 10 (by decide)]) (by rw [ne18 10 (by decide)]) (fun b' k' n' x1 x2 x3 => by rw [ne18 16 (by decide)]; exact T1.2.2.2.2.2.2 b' k' n' x1 x2 x3)
    obtain ⟨τ2, f2, y1, y2, y3, y4, y5, s2⟩ := sellsAll_l (E := E) (h0 := h0) (R := R) hs hl hN hNl hR m n (k + 1) (up τ1 18 k (wk E R h k)) (by omega) (by omega) T2 (c.keep hs (fun d h1 h2 => by rw [ne18 d (by omega), s1 d (by omega)])) (by rw [ne18 10 (by decide), g7, e7]) (by rw [ne18 10 (by decide), g10, e10]; rfl) (by rw [ne18 10 (by decide), g11, e11]; rfl) (fun j hj => by
      rw [up_get]
      by_cases z : j = k
      · rw [if_pos ⟨rfl, z⟩, z]
      · rw [if_neg (fun y => z y.2), s1 18 (by decide)]
        exact hw j (by omega))
    exact ⟨τ2, f2, y1, y2, y3, y4, y5, fun d hd => by rw [s2 d hd, ne18 d (by omega), s1 d (by omega)]⟩
theorem sellsAll_eq {E : E6} {h : Hs} {s len : Nat} {R : Nat → Int} {τ : St} (hs : s < 6) (hl : len ≤ 60) (T : TR E h h τ) (c : CatC s R len τ) (e10 : τ 10 10 = 0) (e11 : τ 10 11 = 0) : ∃ τ' : St, fX7_sellsAll 10 (37 + 2 * s) τ = some τ' ∧ TR E h (sk E R h (ctl R len h.1)) τ' ∧ τ' 10 7 = ((ctl R len h.1 : Nat) : Int) ∧ τ' 10 10 = soN E R h (ctl R len h.1) ∧ τ' 10 11 = pcN E R h (ctl R len h.1) ∧ (∀ j : Nat, j < ctl R len h.1 → τ' 18 j = wk E R h j) ∧ Same τ τ' (fun d => d ≠ 6 ∧ d ≠ 7 ∧ d ≠ 10 ∧ d ≠ 14 ∧ d ≠ 16 ∧ d ≠ 17 ∧ d ≠ 18) := by
  obtain ⟨l1, l2⟩ := ctl_le (R := R) (len := len) (n := h.1)
  unfold fX7_sellsAll
  rw [lengthOf_eq hs hl c T.1.1, Option.bind_some]
  dsimp only
  have o1 : ∀ d : Nat, d ≠ 10 → up τ 10 7 ((ctl R len h.1 : Nat) : Int) d = τ d := fun d hd => up_ne hd
  have o2 : ∀ j : Nat, j ≠ 7 → up τ 10 7 ((ctl R len h.1 : Nat) : Int) 10 j = τ 10 j := fun j hj => by rw [up_get, if_neg (fun z => hj z.2)]
  have T2 : TR E h (sk E R h 0) (up τ 10 7 ((ctl R len h.1 : Nat) : Int)) := TR.keep (h := h) T (fun c hc => o1 c (by omega)) (o2 8 (by decide)) (o2 9 (by decide)) (fun b' k' n' x1 x2 x3 => by rw [o1 16 (by decide)]; exact T.2.2.2.2.2.2 b' k' n' x1 x2 x3)
  obtain ⟨τ2, f2, y1, y2, y3, y4, y5, s2⟩ := sellsAll_l (E := E) (h0 := h) (h := h) (R := R) hs hl l1 l2 (fun j hj => ctl_in hj) (ctl R len h.1) FU 0 _ (by omega) (by unfold FU; omega) T2 (c.keep hs (fun d h1 h2 => o1 d (by omega))) (by simp [up]) (by rw [o2 10 (by decide), e10]; rfl) (by rw [o2 11 (by decide), e11]; rfl) (fun j hj => by omega)
  exact ⟨τ2, f2, y1, y2, y3, y4, y5, fun d hd => by rw [s2 d hd, o1 d (by omega)]⟩
theorem backPk {g h : Hs} {σ : St} (hh : HM g σ) (hk : KP 75 h σ) (p : Pk h g) : ∃ σ' : St, fX10_laysBack_ 49 σ = some σ' ∧ HM h σ' ∧ Same σ σ' (fun d => d ≠ 51 ∧ d ≠ 52 ∧ d ≠ 53 ∧ d ≠ 54) := backAll hh hk p.1 p.2.1 (fun t _ => p.2.2.1 t) (fun b w _ _ h1 h2 h4 => p.2.2.2 b w h1 h2 h4)
abbrev gS (σ σ' : St) : Prop := Same σ σ' (fun d => d ≠ 51 ∧ d ≠ 52 ∧ d ≠ 53 ∧ d ≠ 54 ∧ d ≠ 64 ∧ d ≠ 65)
theorem sale_l {E : E6} {h : Hs} {s len k0 : Nat} {R : Nat → Int} (hs : s < 6) (h16 : k0 < 16) (hR : ∀ j : Nat, j < k0 + 1 → 0 ≤ R j ∧ R j < (h.1 : Int)) : ∀ (m n i : Nat) (x4 : Int) (σ : St), i + m = k0 + 1 → m < n → MC E (sk E R h i) σ → CatM s R len σ → KP 75 h σ → ∃ σ' : St, fX10_sale_58 49 (s : Int) (k0 : Int) n x4 (i : Int) σ = some (if m = 0 then x4 else wk E R h k0, σ') ∧ HM h σ' ∧ gS σ σ'
  | 0, n + 1, i, x4, σ, hm, _, M, c, kp => by
    unfold fX10_sale_58
    obtain ⟨σ1, f1, k1, s1⟩ := backPk M.1 kp (sk_pk E R h i)
    rw [if_pos (by omega), f1, Option.bind_some, if_pos rfl]
    exact ⟨σ1, rfl, k1, fun d hd => s1 d (by omega)⟩
  | m + 1, n + 1, i, x4, σ, hm, hn, M, c, kp => by
    have e9 : i_add (i : Int) 1 = ((i + 1 : Nat) : Int) := by
      rw [ia (ok_in (by omega) (by omega))]
      omega
    have r := hR i (by omega)
    have et : R i = (((R i).toNat : Nat) : Int) := by omega
    obtain ⟨σ1, f1, M1, s1⟩ := goes10 (t := (R i).toNat) M (by rw [(sk_pk E R h i).1]; omega)
    have f1' : fX10_goes 49 (R i) σ = some (wk E R h i, σ1) := by
      rw [et]
      exact f1
    unfold fX10_sale_58
    rw [if_neg (by omega), told10 hs (by omega) (by omega), Option.bind_some]
    dsimp only
    rw [Int.toNat_natCast, c.2 i (by omega), f1', Option.bind_some, e9]
    dsimp only
    obtain ⟨σ2, f2, k2, s2⟩ := sale_l (E := E) (h := h) (len := len) (R := R) hs h16 hR m n (i + 1) (wk E R h i) σ1 (by omega) (by omega) M1 (c.keep (fun d hd => s1 d (by omega))) (kp.keep (s1 75 (by decide)))
    refine ⟨σ2, ?_, k2, fun d hd => by rw [s2 d hd, s1 d (by omega)]⟩
    rw [f2, if_neg (show ¬ m + 1 = 0 by omega)]
    by_cases z : m = 0
    · rw [if_pos z, show i = k0 by omega]
    · rw [if_neg z]
theorem after_l {E : E6} {h : Hs} {s len N : Nat} {x2 x3 : Int} {R : Nat → Int} (hs : s < 6) (hw : Wf h) (hN : N ≤ 16) (hR : ∀ j : Nat, j < N → 0 ≤ R j ∧ R j < (h.1 : Int)) : ∀ (m n i : Nat) (σ : St), i + m = N → m < n → MC E (sk E R h i) σ → CatM s R len σ → KP 75 h σ → ∃ σ' : St, fX10_after_76 49 (s : Int) x2 x3 n (pcN E R h i) (soN E R h i) (N : Int) (i : Int) σ = some (if x3 = 0 then cnt (sk E R h N) x2 h.1 else if x3 = 1 then pcN E R h N else soN E R h N, σ') ∧ HM h σ' ∧ gS σ σ'
  | 0, n + 1, i, σ, hm, _, M, c, kp => by
    have ei : i = N := by omega
    subst ei
    obtain ⟨σ1, f1, k1, s1⟩ := backPk M.1 kp (sk_pk E R h i)
    unfold fX10_after_76 fX10_after_142
    rw [if_pos (by omega), countOf_eq M.1 M.2.2.1, Option.bind_some, (sk_pk E R h i).1]
    dsimp only
    rw [f1, Option.bind_some]
    refine ⟨σ1, ?_, k1, fun d hd => s1 d (by omega)⟩
    by_cases z : x3 = 0
    · rw [if_pos z, if_pos z, if_pos z]
    · rw [if_neg z, if_neg z, Option.bind_some, if_neg z]
      by_cases y : x3 = 1
      · rw [if_pos y, if_pos y]
      · rw [if_neg y, if_neg y]
  | m + 1, n + 1, i, σ, hm, hn, M, c, kp => by
    have e9 : i_add (i : Int) 1 = ((i + 1 : Nat) : Int) := by
      rw [ia (ok_in (by omega) (by omega))]
      omega
    have r := hR i (by omega)
    have et : R i = (((R i).toNat : Nat) : Int) := by omega
    have u1 := soN_le E R h i
    have u2 := pcN_le E R h i
    obtain ⟨σ1, f1, M1, s1⟩ := goes10 (t := (R i).toNat) M (by rw [(sk_pk E R h i).1]; omega)
    have f1' : fX10_goes 49 (R i) σ = some (wk E R h i, σ1) := by
      rw [et]
      exact f1
    unfold fX10_after_76 fX10_after_123
    rw [if_neg (by omega), told10 hs (by omega) (by omega), Option.bind_some]
    dsimp only
    rw [Int.toNat_natCast, c.2 i (by omega), f1', Option.bind_some, e9]
    dsimp only
    obtain ⟨σ2, f2, k2, s2⟩ := after_l (E := E) (h := h) (len := len) (R := R) (x2 := x2) (x3 := x3) hs hw hN hR m n (i + 1) σ1 (by omega) (by omega) M1 (c.keep (fun d hd => s1 d (by omega))) (kp.keep (s1 75 (by decide)))
    refine ⟨σ2, ?_, k2, fun d hd => by rw [s2 d hd, s1 d (by omega)]⟩
    rw [← f2]
    have ep : pcN E R h (i + 1) = pcN E R h i + if wk E R h i = 8 then 1 else 0 := rfl
    have es : soN E R h (i + 1) = soN E R h i + if 0 ≤ wk E R h i ∧ wk E R h i < 7 then 1 else 0 := rfl
    rw [ep, es]
    by_cases z : wk E R h i = 8
    · rw [if_pos z, if_pos z, if_neg (show ¬ (0 ≤ wk E R h i ∧ wk E R h i < 7) by omega), ia (ok_in (by omega) (by omega)), Int.add_zero]
    · rw [if_neg z, if_neg z, within_eq, Int.add_zero]
      by_cases y : 0 ≤ wk E R h i ∧ wk E R h i < 7
      · rw [if_pos y, if_pos (show 0 ≤ wk E R h i ∧ wk E R h i ≤ 6 by omega), b1, ia (ok_in (by omega) (by omega))]
      · rw [if_neg y, if_neg (show ¬ (0 ≤ wk E R h i ∧ wk E R h i ≤ 6) by omega), b0, Int.add_zero]
theorem ag_sale (a1 : Int) (a2 : Int) (ha1 : ok32 a1) (ha2 : ok32 a2) : Ag (fun σ => fX9_sale 0 a1 a2 σ) (fun σ => fX10_sale 49 a1 a2 σ) := by
  intro σ hI
  obtain ⟨h, c1, c2, c3, i1, i2, i3, i4, i5, i6, i7⟩ := id hI
  dsimp only
  unfold fX9_sale fX10_sale
  simp only [rfS, lnS]
  rw [sh9]
  by_cases a : 0 ≤ a1 ∧ a1 < 6
  case neg =>
    rw [if_neg a, b0]
    exact ⟨-1, σ, σ, rfl, by rw [sh10, if_neg a, b0], hI⟩
  obtain ⟨s, hs, rfl⟩ : ∃ s : Nat, s < 6 ∧ a1 = (s : Int) := ⟨a1.toNat, by omega, by omega⟩
  obtain ⟨r1, r2, r3⟩ := sh_rf s hs
  have ib : inb (s : Int) 6 := ⟨by omega, by omega⟩
  rw [if_pos a, b1]
  simp only [sh10, if_pos a, b1, Int.toNat_natCast, r1, if_pos ib]
  by_cases b : 0 ≤ a2 ∧ a2 ≤ 15
  case neg =>
    refine ⟨-1, σ, σ, ?_, by rw [within_eq, if_neg b, b0], hI⟩
    by_cases z : a2 < 0
    · rw [if_pos z]
    · rw [if_neg z, if_neg (by omega)]
  obtain ⟨k, rfl⟩ : ∃ k : Nat, a2 = (k : Int) := ⟨a2.toNat, by omega⟩
  rw [if_neg (by omega), if_pos (by omega), refB9 (i6 s hs)]
  simp only [within_eq, if_pos b, b1, refB10 hs]
  by_cases d : refB σ s = 0
  case neg =>
    have := refB_in σ s
    rw [Option.bind_some, if_neg d]
    exact ⟨_, σ, σ, rfl, by rw [Option.bind_some, if_neg (by omega)], hI⟩
  rw [Option.bind_some, if_pos d]
  obtain ⟨R, len, hl, cc, cm⟩ := cat_of (i6 s hs)
  obtain ⟨E, τ, f, T, m, -, e10, e11, sτ⟩ := think c1 c2 c3 i7
  dsimp only
  rw [f, Option.bind_some]
  obtain ⟨τ1, f1, T1, g7, g10, g11, gw, s1⟩ := sellsAll_eq hs hl T (cc.keep hs (fun d x y => sτ d (by omega))) e10 e11
  rw [f1, Option.bind_some, g7]
  have sA : ∀ d, ¬ (d = 6 ∨ d = 7 ∨ (10 ≤ d ∧ d ≤ 18)) → τ1 d = σ d := fun d hd => by rw [s1 d (by omega), sτ d (by omega)]
  have m1 : MC E h τ1 := m.keepC (fun d hd => s1 d (by omega))
  have cm1 : CatM s R len τ1 := cm.keep (fun d hd => sA d (by omega))
  have d1 : refB τ1 s = 0 := by
    unfold refB
    rw [sA 72 (by omega)]
    exact d
  obtain ⟨l1, l2⟩ := ctl_le (R := R) (len := len) (n := h.1)
  by_cases q : ((ctl R len h.1 : Nat) : Int) ≤ (k : Int)
  · rw [if_pos q]
    refine ⟨-2, τ1, τ1, rfl, ?_, ?_⟩
    · rw [Option.bind_some, if_pos (by dsimp only; omega), listed_eq hs hl cm1 m1.1 c3.1, Option.bind_some, if_neg (by dsimp only; omega)]
    · exact inv_end ⟨c1, c3, i1, i2, i3, i4, i5, i6, i7⟩ m1.1 (fun c j q => by rw [sA c (by unfold scr at q; omega)])
  · rw [if_neg q, if_pos ⟨by omega, by omega⟩, Int.toNat_natCast, gw k (by omega)]
    obtain ⟨τ2, f2, k2, s2⟩ := keeps_eq (c := 75) (by decide) rfl m1.1
    have m2 : MC E h τ2 := m1.keep (fun c j q => by rw [s2 c (by unfold pHM at q; omega)])
    obtain ⟨τ3, f3, k3, s3⟩ := sale_l (E := E) (h := h) (len := len) (k0 := k) (R := R) hs (by omega) (fun j hj => ctl_in (len := len) (by omega)) (k + 1) FU 0 (-2) τ2 (by omega) (by unfold FU; omega) m2 (cm1.keep (fun d hd => s2 d (by omega))) k2
    have f3' : fX10_sale_58 49 (s : Int) (k : Int) FU (-2) 0 τ2 = _ := f3
    refine ⟨_, τ1, τ3, rfl, ?_, ?_⟩
    · rw [Option.bind_some, if_pos (by dsimp only; omega), listed_eq hs hl cm1 m1.1 c3.1, Option.bind_some, if_pos (by dsimp only; omega)]
      dsimp only
      rw [f2, Option.bind_some, f3', if_neg (by omega)]
    · exact inv_end ⟨c1, c3, i1, i2, i3, i4, i5, i6, i7⟩ k3 (fun c j q => by rw [s3 c (by unfold scr at q; omega), s2 c (by unfold scr at q; omega), sA c (by unfold scr at q; omega)])
