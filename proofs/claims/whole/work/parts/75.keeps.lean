/-! The model's rows of what a sale changes; catalogues. -/
theorem HM.congr {h g : Hs} {σ : St} (hh : HM h σ) (e1 : h.1 = g.1) (e2 : h.2.1 = g.2.1) (eT : ∀ t w : Nat, t < 8 → w < 4 → h.2.2.1 t w = g.2.2.1 t w) (eB : ∀ b w : Nat, b < 7 → w < 9 → h.2.2.2 b w = g.2.2.2 b w) : HM g σ := by
  obtain ⟨f1, f2, f3, f4⟩ := hh
  refine ⟨by rw [f1, e1], by rw [f2, e2], fun t ht => ?_, fun b w hb hw => by rw [f4 b w hb hw, eB b w hb hw]⟩
  obtain ⟨a0, a1, a2, a3⟩ := f3 t ht
  rw [a0, a1, a2, a3]
  exact ⟨eT t 0 ht (by decide), eT t 1 ht (by decide), eT t 2 ht (by decide), eT t 3 ht (by decide)⟩
/-- the row at c holds what a sale changes of h -/
def KP (c : Nat) (h : Hs) (σ : St) : Prop := (∀ t : Nat, t < 8 → σ c t = h.2.2.1 t 1 ∧ σ c (8 + t) = h.2.2.1 t 2 ∧ σ c (16 + t) = h.2.2.1 t 3) ∧ ∀ b : Nat, b < 7 → σ c (24 + b) = h.2.2.2 b 4 ∧ σ c (31 + b) = h.2.2.2 b 1 ∧ σ c (38 + b) = h.2.2.2 b 2
theorem KP.keep {c : Nat} {h : Hs} {σ σ' : St} (k : KP c h σ) (s : σ' c = σ c) : KP c h σ' := by
  unfold KP at *
  rw [s]
  exact k
def kpT (h : Hs) (k : Nat) (f : Nat → Int) (j : Nat) : Int := if k ≤ j ∧ j < 8 then h.2.2.1 j 1 else if 8 + k ≤ j ∧ j < 16 then h.2.2.1 (j - 8) 2 else if 16 + k ≤ j ∧ j < 24 then h.2.2.1 (j - 16) 3 else f j
def kpB (h : Hs) (k : Nat) (f : Nat → Int) (j : Nat) : Int := if 24 + k ≤ j ∧ j < 31 then h.2.2.2 (j - 24) 4 else if 31 + k ≤ j ∧ j < 38 then h.2.2.2 (j - 31) 1 else if 38 + k ≤ j ∧ j < 45 then h.2.2.2 (j - 38) 2 else f j
theorem keeps_B {c : Nat} {h : Hs} (hc : 54 < c) (hl : LN c = 45) : ∀ (m n k : Nat) (σ : St), k + m = 7 → m < n → HM h σ → ∃ σ' : St, fX10_keeps_49 49 c n (k : Int) σ = some σ' ∧ (∀ j : Nat, σ' c j = kpB h k (σ c) j) ∧ Same σ σ' (fun d => d ≠ c)
  | 0, n + 1, k, σ, hm, _, hh => by
    unfold fX10_keeps_49
    rw [if_pos (by omega)]
    refine ⟨σ, rfl, fun j => ?_, fun _ _ => rfl⟩
    unfold kpB
    rw [if_neg (by omega), if_neg (by omega), if_neg (by omega)]
  | m + 1, n + 1, k, σ, hm, hn, hh => by
    have w := hh.2.2.2
    have a4 : σ 54 (28 + k) = h.2.2.2 k 4 := by
      have := w k 4 (by omega) (by decide)
      simpa using this
    have a1 : σ 54 (7 + k) = h.2.2.2 k 1 := by
      have := w k 1 (by omega) (by decide)
      simpa using this
    have a2 : σ 54 (14 + k) = h.2.2.2 k 2 := by
      have := w k 2 (by omega) (by decide)
      simpa using this
    have ee : ∀ a : Nat, a < 100 → i_add (a : Int) (k : Int) = ((a + k : Nat) : Int) := by
      intro a ha
      rw [ia (ok_in (by omega) (by omega))]
      omega
    have e28 : i_add 28 (k : Int) = ((28 + k : Nat) : Int) := ee 28 (by decide)
    have e24 : i_add 24 (k : Int) = ((24 + k : Nat) : Int) := ee 24 (by decide)
    have e7 : i_add 7 (k : Int) = ((7 + k : Nat) : Int) := ee 7 (by decide)
    have e31 : i_add 31 (k : Int) = ((31 + k : Nat) : Int) := ee 31 (by decide)
    have e14 : i_add 14 (k : Int) = ((14 + k : Nat) : Int) := ee 14 (by decide)
    have e38 : i_add 38 (k : Int) = ((38 + k : Nat) : Int) := ee 38 (by decide)
    have e9 : i_add (k : Int) 1 = ((k + 1 : Nat) : Int) := by
      rw [ia (ok_in (by omega) (by omega))]
      omega
    have r : ∀ (τ : St) (j : Nat) (x : Int), up τ c j x 54 = τ 54 := fun τ j x => up_ne (by omega)
    unfold fX10_keeps_49 fX10_keeps_100 fX10_keeps_103
    simp only [rfS, lnS, hl, e28, e24, e7, e31, e14, e38, e9, Int.toNat_natCast, r, a4, a1, a2]
    rw [if_neg (by omega), if_pos ⟨by omega, by omega⟩, if_pos ⟨by omega, by omega⟩, if_pos ⟨by omega, by omega⟩, if_pos ⟨by omega, by omega⟩, if_pos ⟨by omega, by omega⟩, if_pos ⟨by omega, by omega⟩]
    obtain ⟨σ', f, g, s⟩ := keeps_B (h := h) hc hl m n (k + 1) (up (up (up σ c (24 + k) (h.2.2.2 k 4)) c (31 + k) (h.2.2.2 k 1)) c (38 + k) (h.2.2.2 k 2)) (by omega) (by omega) (HM.keep (fun d j q => by rw [up_ne (by unfold pHM at q; omega), up_ne (by unfold pHM at q; omega), up_ne (by unfold pHM at q; omega)]) hh)
    refine ⟨σ', f, fun j => ?_, fun d hd => by rw [s d hd, up_ne hd, up_ne hd, up_ne hd]⟩
    rw [g j]
    unfold kpB
    simp only [up_get, true_and]
    by_cases q1 : j = 24 + k
    · subst q1
      rw [if_neg (by omega), if_neg (by omega), if_neg (by omega), if_neg (by omega), if_neg (by omega), if_pos rfl, if_pos (by omega), show 24 + k - 24 = k by omega]
    by_cases q2 : j = 31 + k
    · subst q2
      rw [if_neg (by omega), if_neg (by omega), if_neg (by omega), if_neg (by omega), if_pos rfl, if_neg (by omega), if_pos (by omega), show 31 + k - 31 = k by omega]
    by_cases q3 : j = 38 + k
    · subst q3
      rw [if_neg (by omega), if_neg (by omega), if_neg (by omega), if_pos rfl, if_neg (by omega), if_neg (by omega), if_pos (by omega), show 38 + k - 38 = k by omega]
    rw [if_neg q3, if_neg q2, if_neg q1]
    by_cases p1 : 24 + k ≤ j ∧ j < 31
    · rw [if_pos p1, if_pos (by omega)]
    rw [if_neg p1, if_neg (show ¬ (24 + (k + 1) ≤ j ∧ j < 31) by omega)]
    by_cases p2 : 31 + k ≤ j ∧ j < 38
    · rw [if_pos p2, if_pos (by omega)]
    rw [if_neg p2, if_neg (show ¬ (31 + (k + 1) ≤ j ∧ j < 38) by omega)]
    by_cases p3 : 38 + k ≤ j ∧ j < 45
    · rw [if_pos p3, if_pos (by omega)]
    rw [if_neg p3, if_neg (by omega)]
theorem keeps_T {c : Nat} {h : Hs} (hc : 54 < c) (hl : LN c = 45) : ∀ (m n k : Nat) (σ : St), k + m = 8 → m < n → HM h σ → ∃ σ' : St, fX10_keeps_2 49 c n (k : Int) σ = fX10_keeps_49 49 c FU 0 σ' ∧ (∀ j : Nat, σ' c j = kpT h k (σ c) j) ∧ Same σ σ' (fun d => d ≠ c)
  | 0, n + 1, k, σ, hm, _, hh => by
    unfold fX10_keeps_2
    rw [if_pos (by omega)]
    refine ⟨σ, rfl, fun j => ?_, fun _ _ => rfl⟩
    unfold kpT
    rw [if_neg (by omega), if_neg (by omega), if_neg (by omega)]
  | m + 1, n + 1, k, σ, hm, hn, hh => by
    obtain ⟨-, a1, a2, a3⟩ := hh.2.2.1 k (by omega)
    have e8 : i_add 8 (k : Int) = ((8 + k : Nat) : Int) := by
      rw [ia (ok_in (by omega) (by omega))]
      omega
    have e16 : i_add 16 (k : Int) = ((16 + k : Nat) : Int) := by
      rw [ia (ok_in (by omega) (by omega))]
      omega
    have e9 : i_add (k : Int) 1 = ((k + 1 : Nat) : Int) := by
      rw [ia (ok_in (by omega) (by omega))]
      omega
    have r2 : ∀ (τ : St) (j : Nat) (x : Int), up τ c j x 52 = τ 52 := fun τ j x => up_ne (by omega)
    have r3 : ∀ (τ : St) (j : Nat) (x : Int), up τ c j x 53 = τ 53 := fun τ j x => up_ne (by omega)
    unfold fX10_keeps_2 fX10_keeps_41 fX10_keeps_44
    simp only [rfS, lnS, hl, e8, e16, e9, Int.toNat_natCast, r2, r3, a1, a2, a3]
    rw [if_neg (by omega), if_pos ⟨by omega, by omega⟩, if_pos ⟨by omega, by omega⟩, if_pos ⟨by omega, by omega⟩, if_pos ⟨by omega, by omega⟩, if_pos ⟨by omega, by omega⟩, if_pos ⟨by omega, by omega⟩]
    obtain ⟨σ', f, g, s⟩ := keeps_T (h := h) hc hl m n (k + 1) (up (up (up σ c k (h.2.2.1 k 1)) c (8 + k) (h.2.2.1 k 2)) c (16 + k) (h.2.2.1 k 3)) (by omega) (by omega) (HM.keep (fun d j q => by rw [up_ne (by unfold pHM at q; omega), up_ne (by unfold pHM at q; omega), up_ne (by unfold pHM at q; omega)]) hh)
    refine ⟨σ', f, fun j => ?_, fun d hd => by rw [s d hd, up_ne hd, up_ne hd, up_ne hd]⟩
    rw [g j]
    unfold kpT
    simp only [up_get, true_and]
    by_cases q1 : j = k
    · subst q1
      rw [if_neg (by omega), if_neg (by omega), if_neg (by omega), if_neg (by omega), if_neg (by omega), if_pos rfl, if_pos (by omega)]
    by_cases q2 : j = 8 + k
    · subst q2
      rw [if_neg (by omega), if_neg (by omega), if_neg (by omega), if_neg (by omega), if_pos rfl, if_neg (by omega), if_pos (by omega), show 8 + k - 8 = k by omega]
    by_cases q3 : j = 16 + k
    · subst q3
      rw [if_neg (by omega), if_neg (by omega), if_neg (by omega), if_pos rfl, if_neg (by omega), if_neg (by omega), if_pos (by omega), show 16 + k - 16 = k by omega]
    rw [if_neg q3, if_neg q2, if_neg q1]
    by_cases p1 : k ≤ j ∧ j < 8
    · rw [if_pos p1, if_pos (by omega)]
    rw [if_neg p1, if_neg (show ¬ (k + 1 ≤ j ∧ j < 8) by omega)]
    by_cases p2 : 8 + k ≤ j ∧ j < 16
    · rw [if_pos p2, if_pos (by omega)]
    rw [if_neg p2, if_neg (show ¬ (8 + (k + 1) ≤ j ∧ j < 16) by omega)]
    by_cases p3 : 16 + k ≤ j ∧ j < 24
    · rw [if_pos p3, if_pos (by omega)]
    rw [if_neg p3, if_neg (by omega)]
theorem keeps_eq {c : Nat} {h : Hs} {σ : St} (hc : 54 < c) (hl : LN c = 45) (hh : HM h σ) : ∃ σ' : St, fX10_keeps 49 c σ = some σ' ∧ KP c h σ' ∧ Same σ σ' (fun d => d ≠ c) := by
  obtain ⟨σ1, f1, g1, s1⟩ := keeps_T (h := h) hc hl 8 FU 0 σ (by omega) (by decide) hh
  obtain ⟨σ2, f2, g2, s2⟩ := keeps_B (h := h) hc hl 7 FU 0 σ1 (by omega) (by decide) (HM.keep (fun d j q => by rw [s1 d (by unfold pHM at q; omega)]) hh)
  refine ⟨σ2, ?_, ⟨fun t ht => ?_, fun b hb => ?_⟩, fun d hd => (s2 d hd).trans (s1 d hd)⟩
  · unfold fX10_keeps
    have f1' : fX10_keeps_2 49 c FU 0 σ = _ := f1
    have f2' : fX10_keeps_49 49 c FU 0 σ1 = _ := f2
    rw [f1', f2']
  · have p : ∀ j : Nat, j < 24 → σ2 c j = kpT h 0 (σ c) j := by
      intro j hj
      rw [g2 j]
      unfold kpB
      rw [if_neg (by omega), if_neg (by omega), if_neg (by omega), g1 j]
    refine ⟨?_, ?_, ?_⟩
    · rw [p _ (by omega)]
      unfold kpT
      rw [if_pos (by omega)]
    · rw [p _ (by omega)]
      unfold kpT
      rw [if_neg (by omega), if_pos (by omega), show 8 + t - 8 = t by omega]
    · rw [p _ (by omega)]
      unfold kpT
      rw [if_neg (by omega), if_neg (by omega), if_pos (by omega), show 16 + t - 16 = t by omega]
  · refine ⟨?_, ?_, ?_⟩
    · rw [g2 _]
      unfold kpB
      rw [if_pos (by omega), show 24 + b - 24 = b by omega]
    · rw [g2 _]
      unfold kpB
      rw [if_neg (by omega), if_pos (by omega), show 31 + b - 31 = b by omega]
    · rw [g2 _]
      unfold kpB
      rw [if_neg (by omega), if_neg (by omega), if_pos (by omega), show 38 + b - 38 = b by omega]
/-- laid back from g: the things below n, the bidders below m, from the k-th on -/
def layT (h g : Hs) (k n : Nat) : Hs := (h.1, h.2.1, fun t w => if k ≤ t ∧ t < n ∧ 1 ≤ w ∧ w < 4 then g.2.2.1 t w else h.2.2.1 t w, h.2.2.2)
def layB (h g : Hs) (k m : Nat) : Hs := (h.1, h.2.1, h.2.2.1, fun b w => if k ≤ b ∧ b < m ∧ (w = 1 ∨ w = 2 ∨ w = 4) then g.2.2.2 b w else h.2.2.2 b w)
theorem lay_B {c N M : Nat} {g : Hs} (hc : 54 < c) (hl : LN c = 45) (hM : M ≤ 7) : ∀ (m n k : Nat) (σ : St) (h : Hs), k + m = M → m < n → HM h σ → KP c g σ → ∃ σ' : St, fX10_laysBack_57 49 c (N : Int) (M : Int) n (k : Int) σ = some σ' ∧ HM (layB h g k M) σ' ∧ Same σ σ' (fun d => d ≠ 54)
  | 0, n + 1, k, σ, h, hm, _, hh, hk => by
    unfold fX10_laysBack_57
    rw [if_pos (by omega)]
    refine ⟨σ, rfl, hh.congr rfl rfl (fun t w _ _ => rfl) (fun b w _ _ => ?_), fun _ _ => rfl⟩
    show _ = if _ then _ else _
    rw [if_neg (by omega)]
  | m + 1, n + 1, k, σ, h, hm, hn, hh, hk => by
    obtain ⟨a4, a1, a2⟩ := hk.2 k (by omega)
    have ee : ∀ a : Nat, a < 100 → i_add (a : Int) (k : Int) = ((a + k : Nat) : Int) := by
      intro a ha
      rw [ia (ok_in (by omega) (by omega))]
      omega
    have e28 : i_add 28 (k : Int) = ((28 + k : Nat) : Int) := ee 28 (by decide)
    have e24 : i_add 24 (k : Int) = ((24 + k : Nat) : Int) := ee 24 (by decide)
    have e7 : i_add 7 (k : Int) = ((7 + k : Nat) : Int) := ee 7 (by decide)
    have e31 : i_add 31 (k : Int) = ((31 + k : Nat) : Int) := ee 31 (by decide)
    have e14 : i_add 14 (k : Int) = ((14 + k : Nat) : Int) := ee 14 (by decide)
    have e38 : i_add 38 (k : Int) = ((38 + k : Nat) : Int) := ee 38 (by decide)
    have e9 : i_add (k : Int) 1 = ((k + 1 : Nat) : Int) := by
      rw [ia (ok_in (by omega) (by omega))]
      omega
    have r : ∀ (τ : St) (j : Nat) (x : Int), up τ 54 j x c = τ c := fun τ j x => up_ne (by omega)
    unfold fX10_laysBack_57 fX10_laysBack_114 fX10_laysBack_117
    simp only [rfS, lnS, hl, e28, e24, e7, e31, e14, e38, e9, Int.toNat_natCast, r, a4, a1, a2]
    rw [if_neg (by omega), if_pos ⟨by omega, by omega⟩, if_pos ⟨by omega, by omega⟩, if_pos ⟨by omega, by omega⟩, if_pos ⟨by omega, by omega⟩, if_pos ⟨by omega, by omega⟩, if_pos ⟨by omega, by omega⟩]
    have m0 : HM (setB (setB (setB h k 4 (g.2.2.2 k 4)) k 1 (g.2.2.2 k 1)) k 2 (g.2.2.2 k 2)) (up (up (up σ 54 (28 + k) (g.2.2.2 k 4)) 54 (7 + k) (g.2.2.2 k 1)) 54 (14 + k) (g.2.2.2 k 2)) := HM_B (w := 2) (HM_B (w := 1) (HM_B (w := 4) hh (by omega)) (by omega)) (by omega)
    obtain ⟨σ', f, q, s⟩ := lay_B (N := N) (g := g) hc hl hM m n (k + 1) _ _ (by omega) (by omega) m0 (hk.keep (by rw [r, r, r]))
    refine ⟨σ', f, q.congr rfl rfl (fun t w _ _ => rfl) (fun b w _ _ => ?_), fun d hd => by rw [s d hd, up_ne hd, up_ne hd, up_ne hd]⟩
    show (if k + 1 ≤ b ∧ b < M ∧ (w = 1 ∨ w = 2 ∨ w = 4) then g.2.2.2 b w else if b = k ∧ w = 2 then g.2.2.2 k 2 else if b = k ∧ w = 1 then g.2.2.2 k 1 else if b = k ∧ w = 4 then g.2.2.2 k 4 else h.2.2.2 b w) = if k ≤ b ∧ b < M ∧ (w = 1 ∨ w = 2 ∨ w = 4) then g.2.2.2 b w else h.2.2.2 b w
    by_cases p : k ≤ b ∧ b < M ∧ (w = 1 ∨ w = 2 ∨ w = 4)
    · rw [if_pos p]
      by_cases p2 : k + 1 ≤ b
      · rw [if_pos (by omega)]
      · have e : b = k := by omega
        subst e
        rw [if_neg (by omega)]
        rcases p.2.2 with rfl | rfl | rfl <;> simp
    · rw [if_neg p, if_neg (by omega), if_neg (by omega), if_neg (by omega), if_neg (by omega)]
theorem lay_T {c N M : Nat} {g : Hs} (hc : 54 < c) (hl : LN c = 45) (hN : N ≤ 8) : ∀ (m n k : Nat) (σ : St) (h : Hs), k + m = N → m < n → HM h σ → KP c g σ → ∃ σ' : St, fX10_laysBack_3 49 c (N : Int) (M : Int) n (k : Int) σ = fX10_laysBack_57 49 c (N : Int) (M : Int) FU 0 σ' ∧ HM (layT h g k N) σ' ∧ Same σ σ' (fun d => d ≠ 51 ∧ d ≠ 52 ∧ d ≠ 53)
  | 0, n + 1, k, σ, h, hm, _, hh, hk => by
    unfold fX10_laysBack_3
    rw [if_pos (by omega)]
    refine ⟨σ, rfl, hh.congr rfl rfl (fun t w _ _ => ?_) (fun b w _ _ => rfl), fun _ _ => rfl⟩
    show _ = if _ then _ else _
    rw [if_neg (by omega)]
  | m + 1, n + 1, k, σ, h, hm, hn, hh, hk => by
    obtain ⟨a1, a2, a3⟩ := hk.1 k (by omega)
    have e8 : i_add 8 (k : Int) = ((8 + k : Nat) : Int) := by
      rw [ia (ok_in (by omega) (by omega))]
      omega
    have e16 : i_add 16 (k : Int) = ((16 + k : Nat) : Int) := by
      rw [ia (ok_in (by omega) (by omega))]
      omega
    have e9 : i_add (k : Int) 1 = ((k + 1 : Nat) : Int) := by
      rw [ia (ok_in (by omega) (by omega))]
      omega
    have r1 : ∀ (τ : St) (j : Nat) (x : Int), up τ 51 j x c = τ c := fun τ j x => up_ne (by omega)
    have r2 : ∀ (τ : St) (j : Nat) (x : Int), up τ 52 j x c = τ c := fun τ j x => up_ne (by omega)
    have r3 : ∀ (τ : St) (j : Nat) (x : Int), up τ 53 j x c = τ c := fun τ j x => up_ne (by omega)
    unfold fX10_laysBack_3 fX10_laysBack_48 fX10_laysBack_51
    simp only [rfS, lnS, hl, e8, e16, e9, Int.toNat_natCast, r1, r2, a1, a2, a3]
    rw [if_neg (by omega), if_pos ⟨by omega, by omega⟩, if_pos ⟨by omega, by omega⟩, if_pos ⟨by omega, by omega⟩, if_pos ⟨by omega, by omega⟩, if_pos ⟨by omega, by omega⟩, if_pos ⟨by omega, by omega⟩]
    have m0 : HM (setT (setT (setT h k 1 (g.2.2.1 k 1)) k 2 (g.2.2.1 k 2)) k 3 (g.2.2.1 k 3)) (up (up (up σ 51 k (g.2.2.1 k 1)) 52 k (g.2.2.1 k 2)) 53 k (g.2.2.1 k 3)) := HM_T (w := 3) (HM_T (w := 2) (HM_T (w := 1) hh (by omega)) (by omega)) (by omega)
    obtain ⟨σ', f, q, s⟩ := lay_T (M := M) (g := g) hc hl hN m n (k + 1) _ _ (by omega) (by omega) m0 (hk.keep (by rw [r3, r2, r1]))
    refine ⟨σ', f, q.congr rfl rfl (fun t w _ _ => ?_) (fun b w _ _ => rfl), fun d hd => by rw [s d hd, up_ne hd.2.2, up_ne hd.2.1, up_ne hd.1]⟩
    show (if k + 1 ≤ t ∧ t < N ∧ 1 ≤ w ∧ w < 4 then g.2.2.1 t w else if t = k ∧ w = 3 then g.2.2.1 k 3 else if t = k ∧ w = 2 then g.2.2.1 k 2 else if t = k ∧ w = 1 then g.2.2.1 k 1 else h.2.2.1 t w) = if k ≤ t ∧ t < N ∧ 1 ≤ w ∧ w < 4 then g.2.2.1 t w else h.2.2.1 t w
    by_cases p : k ≤ t ∧ t < N ∧ 1 ≤ w ∧ w < 4
    · rw [if_pos p]
      by_cases p2 : k + 1 ≤ t
      · rw [if_pos (by omega)]
      · have e : t = k := by omega
        subst e
        rw [if_neg (by omega)]
        have : w = 1 ∨ w = 2 ∨ w = 3 := by omega
        rcases this with rfl | rfl | rfl <;> simp
    · rw [if_neg p, if_neg (by omega), if_neg (by omega), if_neg (by omega), if_neg (by omega)]
theorem lays_eq {c N M : Nat} {g h : Hs} {σ : St} (hc : 54 < c) (hl : LN c = 45) (hN : N ≤ 8) (hM : M ≤ 7) (hh : HM h σ) (hk : KP c g σ) : ∃ σ' : St, fX10_laysBack 49 c (N : Int) (M : Int) σ = some σ' ∧ HM (layB (layT h g 0 N) g 0 M) σ' ∧ Same σ σ' (fun d => d ≠ 51 ∧ d ≠ 52 ∧ d ≠ 53 ∧ d ≠ 54) := by
  obtain ⟨σ1, f1, q1, s1⟩ := lay_T (M := M) (g := g) hc hl hN N FU 0 σ h (by omega) (by unfold FU; omega) hh hk
  obtain ⟨σ2, f2, q2, s2⟩ := lay_B (N := N) (g := g) hc hl hM M FU 0 σ1 _ (by omega) (by unfold FU; omega) q1 (hk.keep (s1 c (by omega)))
  refine ⟨σ2, ?_, q2, fun d hd => by rw [s2 d (by omega), s1 d (by omega)]⟩
  unfold fX10_laysBack
  have f1' : fX10_laysBack_3 49 c (N : Int) (M : Int) FU 0 σ = _ := f1
  have f2' : fX10_laysBack_57 49 c (N : Int) (M : Int) FU 0 σ1 = _ := f2
  rw [f1', f2']
/-- the sale is taken back: all that it changed -/
theorem backAll {g h : Hs} {σ : St} (hh : HM h σ) (hk : KP 75 g σ) (e1 : h.1 = g.1) (e2 : h.2.1 = g.2.1) (eT : ∀ t : Nat, t < 8 → h.2.2.1 t 0 = g.2.2.1 t 0) (eB : ∀ b w : Nat, b < 7 → w < 9 → w ≠ 1 → w ≠ 2 → w ≠ 4 → h.2.2.2 b w = g.2.2.2 b w) : ∃ σ' : St, fX10_laysBack_ 49 σ = some σ' ∧ HM g σ' ∧ Same σ σ' (fun d => d ≠ 51 ∧ d ≠ 52 ∧ d ≠ 53 ∧ d ≠ 54) := by
  obtain ⟨σ', f, q, s⟩ := lays_eq (c := 75) (N := 8) (M := 7) (g := g) (by decide) rfl (by decide) (by decide) hh hk
  refine ⟨σ', ?_, q.congr e1 e2 (fun t w ht hw => ?_) (fun b w hb hw => ?_), s⟩
  · unfold fX10_laysBack_
    simp only [rfS]
    have f' : fX10_laysBack 49 75 8 7 σ = _ := f
    rw [f', Option.bind_some]
  · show (if 0 ≤ t ∧ t < 8 ∧ 1 ≤ w ∧ w < 4 then g.2.2.1 t w else h.2.2.1 t w) = _
    by_cases p : 1 ≤ w
    · rw [if_pos (by omega)]
    · have : w = 0 := by omega
      subst this
      rw [if_neg (by omega)]
      exact eT t ht
  · show (if 0 ≤ b ∧ b < 7 ∧ (w = 1 ∨ w = 2 ∨ w = 4) then g.2.2.2 b w else h.2.2.2 b w) = _
    by_cases p : w = 1 ∨ w = 2 ∨ w = 4
    · rw [if_pos (by omega)]
    · rw [if_neg (by omega)]
      exact eB b w hb hw (by omega) (by omega) (by omega)
