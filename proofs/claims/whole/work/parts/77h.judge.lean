/-! A book held against the sales: judge. -/
theorem ag_after (a1 : Int) (a2 : Int) (a3 : Int) (ha1 : ok32 a1) (ha2 : ok32 a2) (ha3 : ok32 a3) : Ag (fun σ => fX9_after 0 a1 a2 a3 σ) (fun σ => fX10_after 49 a1 a2 a3 σ) := by
  intro σ hI
  obtain ⟨h, c1, c2, c3, i1, i2, i3, i4, i5, i6, i7⟩ := id hI
  have z2 := c3.1.2
  dsimp only
  -- whether one is known
  have kn : ∃ y : Int, (y = 0 ∨ y = 1) ∧ fX9_after 0 a1 a2 a3 σ = fX9_after_34 0 a1 a2 a3 y σ ∧ (∀ τ : St, HM h τ → 0 ≤ a1 ∧ a1 < 6 → fX10_after 49 a1 a2 a3 τ = if y = 0 then some (-1, τ) else fX10_after_37 49 a1 a2 a3 τ) ∧ (a3 = 0 → y ≠ 0 → 0 ≤ a2 ∧ a2 < (h.2.1 : Int)) := by
    unfold fX9_after fX9_after_25 fX9_after_33
    simp only [rfS]
    by_cases z0 : a3 = 0
    · refine ⟨if 0 ≤ a2 ∧ a2 < (h.2.1 : Int) then 1 else 0, by split <;> omega, by rw [if_pos z0, hasBidder_eq c1, Option.bind_some], fun τ hm a => ?_, fun _ y => by split at y <;> omega⟩
      unfold fX10_after
      rw [sh10, if_pos a, b1, within_eq, if_pos (by omega), b1, if_pos z0]
      dsimp only
      rw [isOne_eq hm c3.1]
      by_cases q : 0 ≤ a2 ∧ a2 < (h.2.1 : Int)
      · rw [if_pos q, b1, if_neg (by decide)]
      · rw [if_neg q, b0, if_pos rfl]
    · by_cases z1 : a3 = 1 ∨ a3 = 2
      · have w : 0 ≤ a3 ∧ a3 ≤ 2 := by omega
        refine ⟨if a2 = 0 then 1 else 0, by split <;> omega, ?_, fun τ hm a => ?_, fun y _ => absurd y z0⟩
        · rw [if_neg z0]
          by_cases z3 : a3 = 1
          · rw [if_pos z3]
            by_cases q : a2 = 0
            · rw [if_pos q, if_pos q]
            · rw [if_neg q, if_neg q]
          · rw [if_neg z3, if_pos (by omega)]
            by_cases q : a2 = 0
            · rw [if_pos q, if_pos q]
            · rw [if_neg q, if_neg q]
        · unfold fX10_after
          rw [sh10, if_pos a, b1, within_eq, if_pos w, b1, if_neg z0]
          dsimp only
          by_cases q : a2 = 0
          · rw [if_pos q, if_pos q, if_neg (by decide)]
          · rw [if_neg q, if_neg q, if_pos rfl]
      · refine ⟨0, Or.inl rfl, by rw [if_neg z0, if_neg (by omega), if_neg (by omega)], fun τ hm a => ?_, fun y _ => absurd y z0⟩
        unfold fX10_after
        rw [sh10, if_pos a, b1, within_eq, if_neg (by omega), b0, if_pos rfl]
  obtain ⟨y, y01, ey, em, kb⟩ := kn
  rw [ey]
  unfold fX9_after_34
  simp only [rfS, lnS]
  rw [sh9]
  by_cases a : 0 ≤ a1 ∧ a1 < 6
  case neg =>
    rw [if_neg a, b0]
    refine ⟨-1, σ, σ, rfl, ?_, hI⟩
    unfold fX10_after
    rw [sh10, if_neg a, b0]
  rw [if_pos a, b1]
  by_cases y0 : y = 0
  · rw [if_pos y0]
    exact ⟨-1, σ, σ, rfl, by rw [em σ c2 a, if_pos y0], hI⟩
  obtain ⟨s, hs, rfl⟩ : ∃ s : Nat, s < 6 ∧ a1 = (s : Int) := ⟨a1.toNat, by omega, by omega⟩
  obtain ⟨r1, r2, r3⟩ := sh_rf s hs
  have ib : inb (s : Int) 6 := ⟨by omega, by omega⟩
  rw [if_neg y0]
  simp only [Int.toNat_natCast, r1, if_pos ib]
  rw [refB9 (i6 s hs)]
  by_cases d : refB σ s = 0
  case neg =>
    have := refB_in σ s
    rw [Option.bind_some, if_neg d]
    refine ⟨_, σ, σ, rfl, ?_, hI⟩
    rw [em σ c2 a, if_neg y0]
    unfold fX10_after_37
    rw [refB10 hs, Option.bind_some, if_neg (by omega)]
  rw [Option.bind_some, if_pos d]
  obtain ⟨R, len, hl, cc, cm⟩ := cat_of (i6 s hs)
  obtain ⟨E, τ, f, T, m, -, e10, e11, sτ⟩ := think c1 c2 c3 i7
  dsimp only
  rw [f, Option.bind_some]
  obtain ⟨τ1, f1, T1, g7, g10, g11, gw, s1⟩ := sellsAll_eq hs hl T (cc.keep hs (fun d x y => sτ d (by omega))) e10 e11
  rw [f1, Option.bind_some, g10, g11]
  have sA : ∀ d, ¬ (d = 6 ∨ d = 7 ∨ (10 ≤ d ∧ d ≤ 18)) → τ1 d = σ d := fun d hd => by rw [s1 d (by omega), sτ d (by omega)]
  have m1 : MC E h τ1 := m.keepC (fun d hd => s1 d (by omega))
  have cm1 : CatM s R len τ1 := cm.keep (fun d hd => sA d (by omega))
  have d1 : refB τ1 s = 0 := by
    unfold refB
    rw [sA 72 (by omega)]
    exact d
  obtain ⟨l1, l2⟩ := ctl_le (R := R) (len := len) (n := h.1)
  obtain ⟨τ2, f2, k2, s2⟩ := keeps_eq (c := 75) (by decide) rfl m1.1
  have m2 : MC E h τ2 := m1.keep (fun c j q => by rw [s2 c (by unfold pHM at q; omega)])
  have cm2 : CatM s R len τ2 := cm1.keep (fun d hd => s2 d (by omega))
  obtain ⟨τ3, f3, k3, s3⟩ := after_l (E := E) (h := h) (len := len) (x2 := a2) (x3 := a3) (R := R) hs c3 l1 (fun j hj => ctl_in hj) (ctl R len h.1) FU 0 τ2 (by omega) (by unfold FU; omega) m2 cm2 k2
  have f3' : fX10_after_76 49 (s : Int) a2 a3 FU 0 0 ((ctl R len h.1 : Nat) : Int) 0 τ2 = _ := f3
  have fin : fX10_after 49 (s : Int) a2 a3 τ1 = some (if a3 = 0 then cnt (sk E R h (ctl R len h.1)) a2 h.1 else if a3 = 1 then pcN E R h (ctl R len h.1) else soN E R h (ctl R len h.1), τ3) := by
    rw [em τ1 m1.1 a, if_neg y0]
    unfold fX10_after_37
    rw [refB10 hs, Option.bind_some, d1, if_pos (show (0 : Int) ≤ 0 by decide)]
    simp only [rfS]
    rw [f2, Option.bind_some, listed_eq hs hl cm2 m2.1 c3.1, Option.bind_some]
    exact f3'
  have inv : Inv τ3 := inv_end ⟨c1, c3, i1, i2, i3, i4, i5, i6, i7⟩ k3 (fun c j q => by rw [s3 c (by unfold scr at q; omega), s2 c (by unfold scr at q; omega), sA c (by unfold scr at q; omega)])
  by_cases z0 : a3 = 0
  · rw [if_pos z0]
    have hb := kb z0 y0
    obtain ⟨b, rfl⟩ : ∃ b : Nat, a2 = (b : Int) := ⟨a2.toNat, by omega⟩
    rw [if_pos ⟨by omega, by omega⟩, Int.toNat_natCast, T1.2.2.2.2.1 b (by omega), (sk_pk E R h (ctl R len h.1)).1]
    exact ⟨_, τ1, τ3, rfl, by rw [fin, if_pos z0], inv⟩
  · rw [if_neg z0]
    by_cases z1 : a3 = 1
    · rw [if_pos z1]
      exact ⟨_, τ1, τ3, rfl, by rw [fin, if_neg z0, if_pos z1], inv⟩
    · rw [if_neg z1]
      exact ⟨_, τ1, τ3, rfl, by rw [fin, if_neg z0, if_neg z1], inv⟩
noncomputable def jd (E : E6) (R : Nat → Int) (h : Hs) (B : Nat → Int) (N : Nat) : Nat → Nat → Int
  | 0, _ => -2
  | m + 1, k => if N ≤ k then (k : Int) else if B k = 10 ∨ B k = wk E R h k then jd E R h B N m (k + 1) else (k : Int)
def BkC (r : Nat) (B : Nat → Int) (blen : Nat) (τ : St) : Prop := τ (37 + 2 * r) 4 = (blen : Int) ∧ ∀ j : Nat, j < 60 → τ (38 + 2 * r) j = B j
theorem BkC.keep {s len : Nat} {R : Nat → Int} {τ τ' : St} (hs : s < 6) (k : BkC s R len τ) (g : ∀ c, 37 ≤ c → c ≤ 48 → τ' c = τ c) : BkC s R len τ' := by
  unfold BkC at *
  rw [g (37 + 2 * s) (by omega) (by omega), g (38 + 2 * s) (by omega) (by omega)]
  exact k
theorem book_of {σ : St} {s : Nat} (k : InvShelf σ s) (b : σ 72 s = 0) : ∃ (B : Nat → Int) (len : Nat), len ≤ 60 ∧ (∀ j : Nat, j < 60 → -128 ≤ B j ∧ B j ≤ 127) ∧ BkC s B len σ ∧ CatM s B len σ := by
  obtain ⟨-, k2, k3, k4, k5⟩ := k
  refine ⟨fun j => σ 74 (60 * s + j), (σ 73 s).toNat, by omega, fun j hj => (k5 j hj).2 b, ⟨by omega, fun j hj => (k5 j hj).1⟩, ⟨by omega, fun j hj => l2i_ok ?_⟩⟩
  have := (k5 j hj).2 b
  exact ok_in (by omega) (by omega)
theorem lc_eq {x y : Int} : l_cmp x y = 0 ↔ x = y := by
  unfold l_cmp
  split
  · constructor
    · intro z; omega
    · intro z; omega
  · split
    case isTrue q => exact ⟨fun _ => q, fun _ => rfl⟩
    case isFalse q => exact ⟨fun z => absurd z (by decide), fun z => absurd z q⟩
theorem wk_ok {E : E6} {R : Nat → Int} {h : Hs} {k : Nat} (hz : h.2.1 ≤ 7) : ok32 (wk E R h k) := by
  have g := goesP_in (E := E) (h := sk E R h k) (t := (R k).toNat)
  rw [(sk_pk E R h k).2.1] at g
  have e : wk E R h k = (goesP E (sk E R h k) (R k).toNat).1 := rfl
  rw [e]
  exact ok_in (by omega) (by omega)
theorem first_l {E : E6} {h0 h : Hs} {s r len blen N : Nat} {R B : Nat → Int} (hs : s < 6) (hr : r < 6) (hl : len ≤ 60) (hb : blen ≤ 60) (hN : N ≤ 16) (hNl : N ≤ len) (hw : Wf h) (hR : ∀ j : Nat, j < N → 0 ≤ R j ∧ R j < (h.1 : Int)) : ∀ (m n k : Nat) (τ : St), k + m = blen → m < n → TR E h0 (sk E R h k) τ → CatC s R len τ → BkC r B blen τ → τ 10 7 = (N : Int) → (0 ≤ τ 10 10 ∧ τ 10 10 ≤ (k : Int)) → (0 ≤ τ 10 11 ∧ τ 10 11 ≤ (k : Int)) → ∃ (τ' : St) (j : Nat), fX7_firstWrong_11 10 (37 + 2 * s) (37 + 2 * r) n (k : Int) τ = some (jd E R h B N m k, τ') ∧ TR E h0 (sk E R h j) τ' ∧ Same τ τ' (fun d => d ≠ 6 ∧ d ≠ 7 ∧ d ≠ 10 ∧ d ≠ 14 ∧ d ≠ 16 ∧ d ≠ 17)
  | 0, n + 1, k, τ, hm, _, T, c, b, e7, e10, e11 => by
    unfold fX7_firstWrong_11
    rw [b.1, if_pos (by omega)]
    exact ⟨τ, k, rfl, T, fun _ _ => rfl⟩
  | m + 1, n + 1, k, τ, hm, hn, T, c, b, e7, e10, e11 => by
    have e9 : i_add (k : Int) 1 = ((k + 1 : Nat) : Int) := by
      rw [ia (ok_in (by omega) (by omega))]
      omega
    unfold fX7_firstWrong_11 fX7_firstWrong_67 jd
    rw [b.1, e7, if_neg (by omega)]
    by_cases q : N ≤ k
    · rw [if_neg (by omega), if_pos q]
      exact ⟨τ, k, rfl, T, fun _ _ => rfl⟩
    have rr := hR k (by omega)
    have et : R k = (((R k).toNat : Nat) : Int) := by omega
    obtain ⟨τ1, f1, T1, g10, g11, g7, s1⟩ := sells_eq (t := (R k).toNat) T (by rw [(sk_pk E R h k).1]; omega) (ok_in (by omega) (by omega)) (ok_in (by omega) (by omega))
    have f1' : fX7_sellsOne 10 (R k) τ = some (wk E R h k, τ1) := by
      rw [et]
      exact f1
    have b1' : BkC r B blen τ1 := b.keep hr (fun d x y => s1 d (by omega))
    rw [if_pos (by omega), if_neg q, at6 hs ⟨by omega, by rw [c.1]; omega⟩ (by rw [c.1]; omega), Option.bind_some]
    dsimp only
    rw [Int.toNat_natCast, c.2 k (by omega), f1', Option.bind_some]
    dsimp only
    rw [at6 hr ⟨by omega, by rw [b1'.1]; omega⟩ (by rw [b1'.1]; omega), Option.bind_some]
    dsimp only
    rw [Int.toNat_natCast, b1'.2 k (by omega), e9, i2l_ok (wk_ok hw.1.2)]
    have ih := fun (z : B k = 10 ∨ B k = wk E R h k) => first_l (E := E) (h0 := h0) (B := B) hs hr hl hb hN hNl hw hR m n (k + 1) τ1 (by omega) (by omega) T1 (c.keep hs (fun d x y => s1 d (by omega))) b1' (by rw [g7, e7]) (by rw [g10]; split <;> omega) (by rw [g11]; split <;> omega)
    by_cases z : B k = 10 ∨ B k = wk E R h k
    · obtain ⟨τ2, j, f2, T2, s2⟩ := ih z
      rw [if_pos z]
      refine ⟨τ2, j, ?_, T2, fun d hd => by rw [s2 d hd, s1 d hd]⟩
      by_cases z1 : B k = 10
      · rw [if_pos (lc_eq.mpr z1)]
        exact f2
      · rw [if_neg (fun y => z1 (lc_eq.mp y)), at6 hr ⟨by omega, by rw [b1'.1]; omega⟩ (by rw [b1'.1]; omega), Option.bind_some]
        dsimp only
        rw [Int.toNat_natCast, b1'.2 k (by omega), if_pos (lc_eq.mpr (z.resolve_left z1))]
        exact f2
    · rw [if_neg z, if_neg (fun y => z (Or.inl (lc_eq.mp y))), at6 hr ⟨by omega, by rw [b1'.1]; omega⟩ (by rw [b1'.1]; omega), Option.bind_some]
      dsimp only
      rw [Int.toNat_natCast, b1'.2 k (by omega), if_neg (fun y => z (Or.inr (lc_eq.mp y)))]
      exact ⟨τ1, k + 1, rfl, T1, fun d hd => s1 d hd⟩
theorem first_eq {E : E6} {h0 h : Hs} {s r len blen : Nat} {R B : Nat → Int} {τ : St} (hs : s < 6) (hr : r < 6) (hl : len ≤ 60) (hb : blen ≤ 60) (T : TR E h0 h τ) (c : CatC s R len τ) (b : BkC r B blen τ) (e10 : τ 10 10 = 0) (e11 : τ 10 11 = 0) : ∃ (τ' : St) (j : Nat), fX7_firstWrong 10 (37 + 2 * s) (37 + 2 * r) τ = some (jd E R h B (ctl R len h.1) blen 0, τ') ∧ TR E h0 (sk E R h j) τ' ∧ Same τ τ' (fun d => d ≠ 6 ∧ d ≠ 7 ∧ d ≠ 10 ∧ d ≠ 14 ∧ d ≠ 16 ∧ d ≠ 17) := by
  obtain ⟨l1, l2⟩ := ctl_le (R := R) (len := len) (n := h.1)
  unfold fX7_firstWrong
  have e0 : h0.1 = h.1 := T.2.1.2.2.1
  rw [lengthOf_eq hs hl c T.1.1, Option.bind_some, e0]
  dsimp only
  have o1 : ∀ d : Nat, d ≠ 10 → up τ 10 7 ((ctl R len h.1 : Nat) : Int) d = τ d := fun d hd => up_ne hd
  have o2 : ∀ j : Nat, j ≠ 7 → up τ 10 7 ((ctl R len h.1 : Nat) : Int) 10 j = τ 10 j := fun j hj => by rw [up_get, if_neg (fun z => hj z.2)]
  have T2 : TR E h0 (sk E R h 0) (up τ 10 7 ((ctl R len h.1 : Nat) : Int)) := TR.keep (h := h) T (fun c hc => o1 c (by omega)) (o2 8 (by decide)) (o2 9 (by decide)) (fun b' k' n' x1 x2 x3 => by rw [o1 16 (by decide)]; exact T.2.2.2.2.2.2 b' k' n' x1 x2 x3)
  obtain ⟨τ2, j, f2, y1, s2⟩ := first_l (E := E) (h0 := h0) (h := h) (R := R) (B := B) hs hr hl hb l1 l2 T.2.1.2.1 (fun j hj => ctl_in hj) blen FU 0 _ (by omega) (by unfold FU; omega) T2 (c.keep hs (fun d h1 h2 => o1 d (by omega))) (b.keep hr (fun d h1 h2 => o1 d (by omega))) (by simp [up]) (by rw [o2 10 (by decide), e10]; decide) (by rw [o2 11 (by decide), e11]; decide)
  exact ⟨τ2, j, f2, y1, fun d hd => by rw [s2 d hd, o1 d (by omega)]⟩
theorem unlike_end {x1 x2 x4 x5 x6 : Int} {r n : Nat} {σ : St} (hr : r < 6) (h5 : x5 ≠ -2) : fX10_unlike_32 49 x1 (n + 1) x2 (r : Int) x4 x5 x6 σ = fX10_unlike_116 49 x1 x5 σ := by
  rw [fX10_unlike_32.eq_2]
  have ib : inb (r : Int) 6 := ⟨by omega, by omega⟩
  simp only [rfS, lnS, if_pos ib, if_neg h5]
  split <;> rfl
theorem unlike_l {E : E6} {h : Hs} {s r len blen N : Nat} {x1 : Int} {R B : Nat → Int} (hs : s < 6) (hr : r < 6) (hb : blen ≤ 60) (hN : N ≤ 16) (hR : ∀ j : Nat, j < N → 0 ≤ R j ∧ R j < (h.1 : Int)) : ∀ (m n k : Nat) (σ : St), k + m = blen → m + 1 < n → MC E (sk E R h k) σ → CatM s R len σ → CatM r B blen σ → KP 75 h σ → ∃ σ' : St, fX10_unlike_32 49 x1 n (s : Int) (r : Int) (N : Int) (-2) (k : Int) σ = some (jd E R h B N m k, σ') ∧ HM h σ' ∧ gS σ σ'
  | 0, n + 1, k, σ, hm, _, M, c, b, kp => by
    have ib : inb (r : Int) 6 := ⟨by omega, by omega⟩
    obtain ⟨σ1, f1, k1, s1⟩ := backPk M.1 kp (sk_pk E R h k)
    unfold fX10_unlike_32 fX10_unlike_116
    simp only [rfS, lnS, if_pos ib, Int.toNat_natCast, b.1]
    rw [if_pos (by omega), f1, Option.bind_some]
    exact ⟨σ1, rfl, k1, fun d hd => s1 d (by omega)⟩
  | m + 1, n + 2, k, σ, hm, hn, M, c, b, kp => by
    have ib : inb (r : Int) 6 := ⟨by omega, by omega⟩
    have e9 : i_add (k : Int) 1 = ((k + 1 : Nat) : Int) := by
      rw [ia (ok_in (by omega) (by omega))]
      omega
    -- once found, it ends
    have fin : ∀ (j : Nat) (τ : St), HM (sk E R h j) τ → KP 75 h τ → ∃ σ' : St, fX10_unlike_32 49 x1 (n + 1) (s : Int) (r : Int) (N : Int) (k : Int) ((k + 1 : Nat) : Int) τ = some ((k : Int), σ') ∧ HM h σ' ∧ Same τ σ' (fun d => d ≠ 51 ∧ d ≠ 52 ∧ d ≠ 53 ∧ d ≠ 54) := by
      intro j τ hm1 kp1
      obtain ⟨σ1, f1, k1, s1⟩ := backPk hm1 kp1 (sk_pk E R h j)
      refine ⟨σ1, ?_, k1, s1⟩
      rw [unlike_end hr (by omega)]
      unfold fX10_unlike_116
      rw [f1, Option.bind_some]
    rw [fX10_unlike_32.eq_2]
    unfold fX10_unlike_73 fX10_unlike_106 fX10_unlike_110 jd
    simp only [rfS, lnS, if_pos ib, Int.toNat_natCast, b.1, e9]
    rw [if_neg (by omega), if_pos trivial]
    by_cases q : N ≤ k
    · rw [if_pos (by omega), if_pos (by omega), if_pos q]
      obtain ⟨σ1, f1, k1, s1⟩ := fin k σ M.1 kp
      exact ⟨σ1, f1, k1, fun d hd => s1 d (by omega)⟩
    have rr := hR k (by omega)
    have et : R k = (((R k).toNat : Nat) : Int) := by omega
    obtain ⟨σ1, f1, M1, s1⟩ := goes10 (t := (R k).toNat) M (by rw [(sk_pk E R h k).1]; omega)
    have f1' : fX10_goes 49 (R k) σ = some (wk E R h k, σ1) := by
      rw [et]
      exact f1
    have b1' : CatM r B blen σ1 := b.keep (fun d hd => s1 d (by omega))
    have kp1 : KP 75 h σ1 := kp.keep (s1 75 (by decide))
    rw [if_neg (by omega), if_neg q, told10 hs (by omega) (by omega), Option.bind_some]
    dsimp only
    rw [Int.toNat_natCast, c.2 k (by omega), f1', Option.bind_some]
    dsimp only
    rw [if_neg (by omega), told10 hr (by omega) (by omega), Option.bind_some]
    dsimp only
    rw [Int.toNat_natCast, b1'.2 k (by omega)]
    by_cases z : B k = 10 ∨ B k = wk E R h k
    · obtain ⟨σ2, f2, k2, s2⟩ := unlike_l (E := E) (h := h) (x1 := x1) (R := R) hs hr hb hN hR m (n + 1) (k + 1) σ1 (by omega) (by omega) M1 (c.keep (fun d hd => s1 d (by omega))) b1' kp1
      rw [if_pos z]
      refine ⟨σ2, ?_, k2, fun d hd => by rw [s2 d hd, s1 d (by omega)]⟩
      by_cases z1 : B k = 10
      · rw [if_pos z1]
        exact f2
      · rw [if_neg z1, told10 hr (by omega) (by omega), Option.bind_some]
        dsimp only
        rw [Int.toNat_natCast, b1'.2 k (by omega), if_pos (z.resolve_left z1)]
        exact f2
    · rw [if_neg z, if_neg (fun y => z (Or.inl y)), told10 hr (by omega) (by omega), Option.bind_some]
      dsimp only
      rw [Int.toNat_natCast, b1'.2 k (by omega), if_neg (fun y => z (Or.inr y))]
      obtain ⟨σ2, f2, k2, s2⟩ := fin (k + 1) σ1 M1.1 kp1
      exact ⟨σ2, f2, k2, fun d hd => by rw [s2 d (by omega), s1 d (by omega)]⟩
theorem unlike_eq {E : E6} {h : Hs} {s r len blen : Nat} {x1 : Int} {R B : Nat → Int} {σ : St} (hs : s < 6) (hr : r < 6) (hl : len ≤ 60) (hb : blen ≤ 60) (e1 : i_div x1 10 = (s : Int)) (e2 : i_rem x1 10 = (r : Int)) (M : MC E h σ) (c : CatM s R len σ) (b : CatM r B blen σ) : ∃ σ' : St, fX10_unlike 49 x1 σ = some (jd E R h B (ctl R len h.1) blen 0, σ') ∧ HM h σ' ∧ Same σ σ' (fun d => d ≠ 51 ∧ d ≠ 52 ∧ d ≠ 53 ∧ d ≠ 54 ∧ d ≠ 64 ∧ d ≠ 65 ∧ d ≠ 75) := by
  obtain ⟨l1, l2⟩ := ctl_le (R := R) (len := len) (n := h.1)
  obtain ⟨τ, f, k, sτ⟩ := keeps_eq (c := 75) (by decide) rfl M.1
  have m2 : MC E h τ := M.keep (fun c j q => by rw [sτ c (by unfold pHM at q; omega)])
  have c2 : CatM s R len τ := c.keep (fun d hd => sτ d (by omega))
  obtain ⟨τ1, f1, k1, s1⟩ := unlike_l (E := E) (h := h) (x1 := x1) (R := R) (B := B) hs hr hb l1 (fun j hj => ctl_in hj) blen FU 0 τ (by omega) (by unfold FU; omega) m2 c2 (b.keep (fun d hd => sτ d (by omega))) k
  have f1' : fX10_unlike_32 49 x1 FU (s : Int) (r : Int) ((ctl R len h.1 : Nat) : Int) (-2) 0 τ = _ := f1
  refine ⟨τ1, ?_, k1, fun d hd => by rw [s1 d (by omega), sτ d (by omega)]⟩
  unfold fX10_unlike
  simp only [rfS]
  rw [f, Option.bind_some, e1, e2, listed_eq hs hl c2 m2.1 m2.2.2.1, Option.bind_some]
  exact f1'
abbrev shP (x : Int) : Prop := 0 ≤ x ∧ x / 10 < 6 ∧ x % 10 < 6
noncomputable def refBB (σ : St) (s r : Nat) : Int := if refB σ s = 0 then refB σ r else refB σ s
theorem areS {x : Int} {σ : St} (hx : ok32 x) : fX9_areShelves x σ = some (if shP x then 1 else 0, σ) := by
  unfold fX9_areShelves
  by_cases a : x < 0
  · rw [if_pos a, if_neg (by omega)]
  obtain ⟨d1, d2⟩ := dv10 (by omega) hx
  rw [if_neg a, d1, d2, sh9]
  by_cases b : x / 10 < 6
  case neg => rw [if_neg (by omega), b0, if_neg (by omega)]
  rw [if_pos (by omega), b1]
  dsimp only
  rw [sh9]
  by_cases c : x % 10 < 6
  case neg => rw [if_neg (by omega), b0, if_neg (by omega)]
  rw [if_pos (by omega), b1, if_pos (by omega)]
theorem shN {x : Int} (a : shP x) : ∃ s r : Nat, s < 6 ∧ r < 6 ∧ x / 10 = (s : Int) ∧ x % 10 = (r : Int) := ⟨(x / 10).toNat, (x % 10).toNat, by omega, by omega, by omega, by omega⟩
theorem noBook_n {x : Int} {σ : St} (hx : ok32 x) (a : ¬ shP x) : fX10_noBook 49 x σ = some (-1, σ) := by
  unfold fX10_noBook
  by_cases q : x < 0
  · rw [if_pos q]
  obtain ⟨d1, d2⟩ := dv10 (by omega) hx
  rw [if_neg q, d1, d2, sh10]
  by_cases b : x / 10 < 6
  case neg => rw [if_neg (by omega), b0]
  rw [if_pos (by omega), b1]
  dsimp only
  rw [sh10, if_neg (by omega), b0]
theorem noBook_y {x : Int} {σ : St} {s r : Nat} (hx : ok32 x) (a : shP x) (hs : s < 6) (hr : r < 6) (e1 : x / 10 = (s : Int)) (e2 : x % 10 = (r : Int)) : fX10_noBook 49 x σ = some (refBB σ s r, σ) := by
  unfold fX10_noBook refBB
  obtain ⟨d1, d2⟩ := dv10 a.1 hx
  rw [if_neg (by omega), d1, d2, sh10, if_pos (by omega), b1]
  dsimp only
  rw [sh10, if_pos (by omega), b1]
  dsimp only
  rw [e1, e2, refB10 hs, Option.bind_some]
  dsimp only
  have g := refB_in σ s
  by_cases q : refB σ s = 0
  · rw [if_pos (by omega), refB10 hr, Option.bind_some, if_pos q]
  · rw [if_neg (by omega), if_neg q]
theorem refBoth {x : Int} {σ : St} {s r : Nat} (hx : ok32 x) (a : shP x) (hs : s < 6) (hr : r < 6) (e1 : x / 10 = (s : Int)) (e2 : x % 10 = (r : Int)) (k1 : InvShelf σ s) (k2 : InvShelf σ r) : fX9_refusesBoth 0 x σ = some (refBB σ s r, σ) := by
  obtain ⟨r1, r2, r3⟩ := sh_rf s hs
  obtain ⟨t1, t2, t3⟩ := sh_rf r hr
  have ib : inb (s : Int) 6 := ⟨by omega, by omega⟩
  have ib2 : inb (r : Int) 6 := ⟨by omega, by omega⟩
  unfold fX9_refusesBoth refBB
  obtain ⟨d1, d2⟩ := dv10 a.1 hx
  rw [d1, d2, e1, e2]
  simp only [rfS, lnS, if_pos ib, if_pos ib2, Int.toNat_natCast, r1, t1]
  rw [refB9 k1, Option.bind_some]
  dsimp only
  by_cases q : refB σ s = 0
  · rw [if_pos q, if_pos q, refB9 k2, Option.bind_some]
  · rw [if_neg q, if_neg q]
theorem refBB_in (σ : St) (s r : Nat) : refBB σ s r = -11 ∨ refBB σ s r = -12 ∨ (refBB σ s r = 0 ∧ σ 72 s = 0 ∧ σ 72 r = 0) := by
  have a := refB_in σ s
  have b := refB_in σ r
  unfold refBB
  split <;> omega
theorem ag_judge (a1 : Int) (ha1 : ok32 a1) : Ag (fun σ => fX9_judge 0 a1 σ) (fun σ => fX10_judge 49 a1 σ) := by
  intro σ hI
  obtain ⟨h, c1, c2, c3, i1, i2, i3, i4, i5, i6, i7⟩ := id hI
  dsimp only
  unfold fX9_judge fX10_judge
  simp only [rfS, lnS]
  rw [areS ha1]
  by_cases a : shP a1
  case neg =>
    rw [if_neg a, b0]
    exact ⟨-1, σ, σ, rfl, by rw [noBook_n ha1 a, Option.bind_some, if_neg (show ¬ (0 : Int) ≤ -1 by decide)], hI⟩
  obtain ⟨s, r, hs, hr, e1, e2⟩ := shN a
  obtain ⟨d1, d2⟩ := dv10 a.1 ha1
  obtain ⟨r1, r2, r3⟩ := sh_rf s hs
  obtain ⟨t1, t2, t3⟩ := sh_rf r hr
  have ib : inb (s : Int) 6 := ⟨by omega, by omega⟩
  have ib2 : inb (r : Int) 6 := ⟨by omega, by omega⟩
  rw [if_pos a, b1]
  dsimp only
  rw [refBoth ha1 a hs hr e1 e2 (i6 s hs) (i6 r hr), Option.bind_some]
  dsimp only
  have g := refBB_in σ s r
  by_cases d : refBB σ s r = 0
  case neg =>
    rw [if_neg d]
    exact ⟨_, σ, σ, rfl, by rw [noBook_y ha1 a hs hr e1 e2, Option.bind_some, if_neg (by omega)], hI⟩
  have g0 : σ 72 s = 0 ∧ σ 72 r = 0 := by omega
  rw [if_pos d]
  obtain ⟨R, len, hl, cc, cm⟩ := cat_of (i6 s hs)
  obtain ⟨B, blen, hb, hB, bc, bm⟩ := book_of (i6 r hr) g0.2
  obtain ⟨E, τ, f, T, m, -, e10, e11, sτ⟩ := think c1 c2 c3 i7
  rw [f, Option.bind_some, d1, d2, e1, e2]
  simp only [if_pos ib, if_pos ib2, Int.toNat_natCast, r1, t1]
  obtain ⟨τ1, j, f1, T1, s1⟩ := first_eq hs hr hl hb T (cc.keep hs (fun d x y => sτ d (by omega))) (bc.keep hr (fun d x y => sτ d (by omega))) e10 e11
  rw [f1, Option.bind_some]
  have sA : ∀ d, ¬ (d = 6 ∨ d = 7 ∨ (10 ≤ d ∧ d ≤ 17)) → τ1 d = σ d := fun d hd => by rw [s1 d (by omega), sτ d (by omega)]
  have m1 : MC E h τ1 := m.keepC (fun d hd => s1 d (by omega))
  obtain ⟨τ2, f2, k2, s2⟩ := unlike_eq hs hr hl hb (d1.trans e1) (d2.trans e2) m1 (cm.keep (fun d hd => sA d (by omega))) (bm.keep (fun d hd => sA d (by omega)))
  have d' : refBB τ1 s r = 0 := by
    unfold refBB refB
    rw [sA 72 (by omega)]
    exact d
  refine ⟨_, τ1, τ2, rfl, ?_, ?_⟩
  · rw [noBook_y ha1 a hs hr e1 e2, Option.bind_some, d', if_pos (show (0 : Int) ≤ 0 by decide), f2, Option.bind_some]
  · exact inv_end ⟨c1, c3, i1, i2, i3, i4, i5, i6, i7⟩ k2 (fun c j q => by rw [s2 c (by unfold scr at q; omega), sA c (by unfold scr at q; omega)])
