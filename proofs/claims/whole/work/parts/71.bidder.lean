/-! A bidder comes. -/
def hbid (h : Hs) (x y z : Int) : Hs := (h.1, h.2.1 + 1, h.2.2.1, fun b w => if b = h.2.1 then (if w = 0 then x else if w = 1 then y else if w = 3 then z else if 5 ≤ w ∧ w < 9 then 5 else 0) else h.2.2.2 b w)
theorem hset_b {h : Hs} {b w : Nat} {v : Int} (hb : b < h.2.1) (hw : w < 9) : hset h (b : Int) ((w + 4 : Nat) : Int) v = (h.1, h.2.1, h.2.2.1, up2 h.2.2.2 b w v) := by
  unfold hset
  rw [if_neg (by omega), if_pos (by omega), show (((w + 4 : Nat) : Int) - 4).toNat = w by omega, Int.toNat_natCast]
theorem addB_l {x1 x2 x3 : Int} : ∀ (m n k b : Nat) (h : Hs) (σ : St), k + m = 4 → m < n → HC 1 h σ → Hz h → b < h.2.1 → ∃ σ' : St, fX2_addBidder_56 1 x1 x2 x3 n (b : Int) (k : Int) σ = some ((b : Int), σ') ∧ HC 1 (h.1, h.2.1, h.2.2.1, fun a w => if a = b ∧ 5 + k ≤ w ∧ w < 9 then 5 else h.2.2.2 a w) σ' ∧ Same σ σ' (fun d => d ≠ 2 ∧ d ≠ 3)
  | 0, n + 1, k, b, h, σ, hm, _, hc, hz, hb => by
    unfold fX2_addBidder_56
    rw [if_pos (by omega)]
    refine ⟨σ, rfl, ?_, fun _ _ => rfl⟩
    have e : (h.1, h.2.1, h.2.2.1, fun a w => if a = b ∧ 5 + k ≤ w ∧ w < 9 then 5 else h.2.2.2 a w) = h := by
      obtain ⟨p, q, r, s⟩ := h
      simp only [Prod.mk.injEq, true_and]
      funext a w
      rw [if_neg (by omega)]
    rw [e]
    exact hc
  | m + 1, n + 1, k, b, h, σ, hm, hn, hc, hz, hb => by
    unfold fX2_addBidder_56
    rw [if_neg (by omega)]
    have e1 : i_add 9 (k : Int) = ((5 + k + 4 : Nat) : Int) := by
      rw [ia (ok_in (by omega) (by omega))]
      omega
    have e2 : i_add (k : Int) 1 = ((k + 1 : Nat) : Int) := by
      rw [ia (ok_in (by omega) (by omega))]
      omega
    rw [e1, e2]
    obtain ⟨τ, f1, k1, s1⟩ := become_eq (i := (b : Int)) (w := ((5 + k + 4 : Nat) : Int)) (v := 5) (by decide +kernel) hc hz
    rw [f1, Option.bind_some]
    rw [hset_b hb (by omega)] at k1
    obtain ⟨σ', f2, k2, s2⟩ := addB_l (x1 := x1) (x2 := x2) (x3 := x3) m n (k + 1) b _ τ (by omega) (by omega) k1 hz hb
    refine ⟨σ', f2, ?_, fun d hd => (s2 d hd).trans (s1 d hd)⟩
    have e : (h.1, h.2.1, h.2.2.1, fun a w => if a = b ∧ 5 + k ≤ w ∧ w < 9 then 5 else h.2.2.2 a w) = (h.1, h.2.1, h.2.2.1, fun a w => if a = b ∧ 5 + (k + 1) ≤ w ∧ w < 9 then 5 else up2 h.2.2.2 b (5 + k) 5 a w) := by
      simp only [Prod.mk.injEq, true_and]
      funext a w
      unfold up2
      by_cases q : a = b ∧ 5 + k ≤ w ∧ w < 9
      · rw [if_pos q]
        by_cases q2 : a = b ∧ 5 + (k + 1) ≤ w ∧ w < 9
        · rw [if_pos q2]
        · rw [if_neg q2, if_pos (by omega)]
      · rw [if_neg q, if_neg (by omega), if_neg (by omega)]
    rw [e]
    exact k2
theorem addB_full {h : Hs} {x y z : Int} {σ : St} (hc : HC 1 h σ) (h7 : h.2.1 = 7) : fX2_addBidder 1 x y z σ = some (-3, σ) := by
  unfold fX2_addBidder
  simp only [hc.2.1]
  rw [if_neg (by omega)]
theorem addB_eq {h : Hs} {x y z : Int} {σ : St} (hc : HC 1 h σ) (hw : Wf h) (h7 : h.2.1 ≠ 7) : ∃ σ' : St, fX2_addBidder 1 x y z σ = some ((h.2.1 : Int), σ') ∧ HC 1 (hbid h x y z) σ' ∧ Same σ σ' (fun d => d ≠ 1 ∧ d ≠ 2 ∧ d ≠ 3) := by
  have n7 := hw.1.2
  have n8 := hw.1.1
  unfold fX2_addBidder
  simp only [hc.2.1]
  rw [if_pos (by omega), ia (ok_in (by omega) (by omega))]
  have k0 : HC 1 (h.1, h.2.1 + 1, h.2.2.1, h.2.2.2) (up σ 1 3 ((h.2.1 : Int) + 1)) := by
    obtain ⟨q1, q2, q3, q4⟩ := hc
    refine ⟨by simp [up, q1], by simp [up], fun t w ht hw => ?_, fun t w ht hw => ?_⟩
    · show up σ 1 3 _ 2 _ = _
      rw [up_ne (by decide)]
      exact q3 t w ht hw
    · show up σ 1 3 _ 3 _ = _
      rw [up_ne (by decide)]
      exact q4 t w ht hw
  have z0 : ∀ (f g : Nat → Nat → Int), Hz (h.1, h.2.1 + 1, f, g) := fun f g => ⟨n8, by show h.2.1 + 1 ≤ 7; omega⟩
  obtain ⟨τ1, f1, k1, s1⟩ := become_eq (i := (h.2.1 : Int)) (w := 4) (v := x) (by decide +kernel) k0 (z0 _ _)
  rw [show (4 : Int) = ((0 + 4 : Nat) : Int) from rfl, hset_b (by show h.2.1 < h.2.1 + 1; omega) (by omega)] at k1
  obtain ⟨τ2, f2, k2, s2⟩ := become_eq (i := (h.2.1 : Int)) (w := 5) (v := y) (by decide +kernel) k1 (z0 _ _)
  rw [show (5 : Int) = ((1 + 4 : Nat) : Int) from rfl, hset_b (by show h.2.1 < h.2.1 + 1; omega) (by omega)] at k2
  obtain ⟨τ3, f3, k3, s3⟩ := become_eq (i := (h.2.1 : Int)) (w := 7) (v := z) (by decide +kernel) k2 (z0 _ _)
  rw [show (7 : Int) = ((3 + 4 : Nat) : Int) from rfl, hset_b (by show h.2.1 < h.2.1 + 1; omega) (by omega)] at k3
  obtain ⟨τ4, f4, k4, s4⟩ := addB_l (x1 := x) (x2 := y) (x3 := z) 4 FU 0 h.2.1 _ τ3 rfl (by decide) k3 (z0 _ _) (by show h.2.1 < h.2.1 + 1; omega)
  have f4' : fX2_addBidder_56 1 x y z FU (h.2.1 : Int) 0 τ3 = some ((h.2.1 : Int), τ4) := f4
  rw [f1, Option.bind_some, f2, Option.bind_some, f3, Option.bind_some, f4']
  refine ⟨τ4, rfl, ?_, fun d hd => by rw [s4 d hd.2, s3 d hd.2, s2 d hd.2, s1 d hd.2, up_ne hd.1]⟩
  have e : hbid h x y z = (h.1, h.2.1 + 1, h.2.2.1, fun a w => if a = h.2.1 ∧ 5 + 0 ≤ w ∧ w < 9 then 5 else up2 (up2 (up2 h.2.2.2 h.2.1 0 x) h.2.1 1 y) h.2.1 3 z a w) := by
    unfold hbid
    simp only [Prod.mk.injEq, true_and]
    funext a w
    unfold up2
    by_cases q : a = h.2.1
    · subst q
      have hz := hw.2.2.1 h.2.1 w (Nat.le_refl _)
      simp only [true_and, if_true, Nat.add_zero, hz]
      split
      · subst w; rfl
      · split
        · subst w; rfl
        · split
          · subst w; rfl
          · rfl
    · simp [q]
  rw [e]
  exact k4
def nv (w : Nat) : Int := if w ≤ 4 then 0 else 5
theorem newL {x1 x2 x3 : Int} : ∀ (m n k b : Nat) (σ : St), k + m = 9 → m < n → σ 49 5 = (b : Int) → b < 7 → ∃ ρ : St, fX10_newOne_3 49 x1 x2 x3 n (k : Int) σ = fX10_newOne_3 49 x1 x2 x3 (n - m) 9 ρ ∧ (∀ a w : Nat, a < 7 → w < 9 → ρ 54 (7 * w + a) = if a = b ∧ k ≤ w then nv w else σ 54 (7 * w + a)) ∧ Same σ ρ (fun d => d ≠ 54)
  | 0, n, k, b, σ, hm, _, hs, hb => by
    refine ⟨σ, ?_, fun a w ha hw => by rw [if_neg (by omega)], fun _ _ => rfl⟩
    rw [show k = 9 by omega]
    rfl
  | m + 1, n + 1, k, b, σ, hm, hn, hs, hb => by
    have e1 : i_add (i_mul 7 (k : Int)) (b : Int) = ((7 * k + b : Nat) : Int) := by
      rw [im (ok_in (by omega) (by omega)), ia (ok_in (by omega) (by omega))]
      omega
    have e2 : i_add (k : Int) 1 = ((k + 1 : Nat) : Int) := by
      rw [ia (ok_in (by omega) (by omega))]
      omega
    obtain ⟨ρ, f1, f2, f3⟩ := newL (x1 := x1) (x2 := x2) (x3 := x3) m n (k + 1) b (up σ 54 (7 * k + b) (nv k)) (by omega) (by omega) (by rw [up_ne (by decide)]; exact hs) hb
    refine ⟨ρ, ?_, fun a w ha hw => ?_, fun d hd => by rw [f3 d hd, up_ne hd]⟩
    · rw [show n + 1 - (m + 1) = n - m by omega, ← f1]
      conv => lhs; unfold fX10_newOne_3
      unfold fX10_newOne_35
      simp only [rfS, lnS, hs, e1, e2, Int.toNat_natCast]
      rw [if_neg (by omega)]
      have hin : inb ((7 * k + b : Nat) : Int) 63 := ⟨by omega, by omega⟩
      by_cases h4 : k ≤ 4
      · rw [if_pos (by omega), if_pos hin, show nv k = 0 from if_pos h4]
      · rw [if_neg (by omega), if_pos hin, show nv k = 5 from if_neg h4]
    · rw [f2 a w ha hw, up_get]
      by_cases q : a = b ∧ k + 1 ≤ w
      · rw [if_pos q, if_pos (by omega)]
      · rw [if_neg q]
        by_cases q2 : a = b ∧ k = w
        · rw [if_pos (by omega), if_pos (by omega), q2.2]
        · rw [if_neg (by omega), if_neg (by omega)]
theorem newOne_eq {h : Hs} {x y z : Int} {σ : St} (hc : HM h σ) (hw : Wf h) (h7 : h.2.1 ≠ 7) : ∃ σ' : St, fX10_newOne 49 x y z σ = some ((h.2.1 : Int), σ') ∧ HM (hbid h x y z) σ' ∧ ∀ c j : Nat, c ≠ 54 → ¬ (c = 49 ∧ j = 5) → σ' c j = σ c j := by
  have n7 := hw.1.2
  have n8 := hw.1.1
  obtain ⟨q1, q2, q3, q4⟩ := hc
  obtain ⟨ρ, f1, f2, f3⟩ := newL (x1 := x) (x2 := y) (x3 := z) 9 FU 0 h.2.1 σ rfl (by decide) q2 (by omega)
  have f1' : fX10_newOne_3 49 x y z FU 0 σ = fX10_newOne_3 49 x y z (999990 + 1) 9 ρ := f1
  unfold fX10_newOne
  rw [f1']
  unfold fX10_newOne_3 fX10_newOne_78
  have e5 : ρ 49 5 = (h.2.1 : Int) := by rw [f3 49 (by decide)]; exact q2
  have u : ∀ (τ : St) (a : Nat) (x : Int), up τ 54 a x 49 5 = τ 49 5 := fun τ a x => by rw [up_ne (by decide)]
  have g1 : i_add 7 (h.2.1 : Int) = ((7 + h.2.1 : Nat) : Int) := by
    rw [ia (ok_in (by omega) (by omega))]
    omega
  have g2 : i_add 21 (h.2.1 : Int) = ((21 + h.2.1 : Nat) : Int) := by
    rw [ia (ok_in (by omega) (by omega))]
    omega
  have g3 : i_add (h.2.1 : Int) 1 = ((h.2.1 + 1 : Nat) : Int) := by
    rw [ia (ok_in (by omega) (by omega))]
    omega
  simp only [rfS, lnS, u, e5, g1, g2, g3, Int.toNat_natCast]
  rw [if_pos (by omega), if_pos ⟨by omega, by omega⟩, if_pos ⟨by omega, by omega⟩, if_pos ⟨by omega, by omega⟩]
  refine ⟨_, rfl, ⟨?_, ?_, fun t ht => ?_, fun b w hb hw2 => ?_⟩, fun c j hc hj => ?_⟩
  · rw [up_get, if_neg (by omega), up_ne (by decide), up_ne (by decide), up_ne (by decide), f3 49 (by decide)]
    exact q1
  · simp [up, hbid]
  · rw [up_ne (by decide), up_ne (by decide), up_ne (by decide), up_ne (by decide), f3 50 (by decide), up_ne (by decide), up_ne (by decide), up_ne (by decide), up_ne (by decide), f3 51 (by decide), up_ne (by decide), up_ne (by decide), up_ne (by decide), up_ne (by decide), f3 52 (by decide), up_ne (by decide), up_ne (by decide), up_ne (by decide), up_ne (by decide), f3 53 (by decide)]
    exact q3 t ht
  · rw [up_ne (by decide), up_get, up_get, up_get, f2 b w hb hw2, q4 b w hb hw2]
    show _ = if b = h.2.1 then (if w = 0 then x else if w = 1 then y else if w = 3 then z else if 5 ≤ w ∧ w < 9 then 5 else 0) else h.2.2.2 b w
    by_cases eb : b = h.2.1
    · subst eb
      rw [if_pos rfl]
      have hw9 : w = 0 ∨ w = 1 ∨ w = 2 ∨ w = 3 ∨ w = 4 ∨ w = 5 ∨ w = 6 ∨ w = 7 ∨ w = 8 := by omega
      rcases hw9 with rfl | rfl | rfl | rfl | rfl | rfl | rfl | rfl | rfl
      · rw [if_neg (by omega), if_neg (by omega), if_pos (by omega), if_pos rfl]
      · rw [if_neg (by omega), if_pos (by omega), if_neg (by omega), if_pos rfl]
      · rw [if_neg (by omega), if_neg (by omega), if_neg (by omega), if_pos (by omega)]; rfl
      · rw [if_pos (by omega)]; rfl
      · rw [if_neg (by omega), if_neg (by omega), if_neg (by omega), if_pos (by omega)]; rfl
      · rw [if_neg (by omega), if_neg (by omega), if_neg (by omega), if_pos (by omega)]; rfl
      · rw [if_neg (by omega), if_neg (by omega), if_neg (by omega), if_pos (by omega)]; rfl
      · rw [if_neg (by omega), if_neg (by omega), if_neg (by omega), if_pos (by omega)]; rfl
      · rw [if_neg (by omega), if_neg (by omega), if_neg (by omega), if_pos (by omega)]; rfl
    · rw [if_neg eb, if_neg (by omega), if_neg (by omega), if_neg (by omega), if_neg (by omega)]
  · rw [up_get, if_neg (by omega), up_ne hc, up_ne hc, up_ne hc, f3 c hc]
theorem Wf.bid {h : Hs} {x y z : Int} (hw : Wf h) (h7 : h.2.1 ≠ 7) (hx : 0 ≤ x ∧ x ≤ 9) (hy : 0 ≤ y ∧ y ≤ 99) (hz : 0 ≤ z ∧ z ≤ 9) : Wf (hbid h x y z) := by
  obtain ⟨⟨z1, z2⟩, a, b, f⟩ := hw
  refine ⟨⟨z1, by show h.2.1 + 1 ≤ 7; omega⟩, a, fun t w ht => ?_, fun i w hv => ?_⟩
  · have ht2 : h.2.1 + 1 ≤ t := ht
    show (if t = h.2.1 then _ else h.2.2.2 t w) = 0
    rw [if_neg (by omega)]
    exact b t w (by omega)
  · have hv2 : (0 ≤ w ∧ w < 4 ∧ 0 ≤ i ∧ i < (h.1 : Int)) ∨ (4 ≤ w ∧ w < 13 ∧ 0 ≤ i ∧ i < ((h.2.1 + 1 : Nat) : Int)) := hv
    by_cases old : hOf h i w
    · have e := f i w old
      have e2 : hnum (hbid h x y z) i w = hnum h i w := by
        unfold hnum
        unfold hOf at old
        show (if 0 ≤ w ∧ w < 4 ∧ 0 ≤ i ∧ i < (h.1 : Int) then h.2.2.1 i.toNat w.toNat else if 4 ≤ w ∧ w < 13 ∧ 0 ≤ i ∧ i < ((h.2.1 + 1 : Nat) : Int) then (if i.toNat = h.2.1 then _ else h.2.2.2 i.toNat (w - 4).toNat) else 0) = _
        by_cases q : 0 ≤ w ∧ w < 4 ∧ 0 ≤ i ∧ i < (h.1 : Int)
        · rw [if_pos q, if_pos q]
        · rw [if_neg q, if_neg q, if_pos (by omega), if_neg (by omega), if_pos (by omega)]
      rw [e2]
      exact fitv_mono (by show h.2.1 ≤ h.2.1 + 1; omega) e
    · unfold hOf at old
      have hi : i = (h.2.1 : Int) := by omega
      have e2 : hnum (hbid h x y z) i w = if (w - 4).toNat = 0 then x else if (w - 4).toNat = 1 then y else if (w - 4).toNat = 3 then z else if 5 ≤ (w - 4).toNat ∧ (w - 4).toNat < 9 then 5 else 0 := by
        unfold hnum
        show (if 0 ≤ w ∧ w < 4 ∧ 0 ≤ i ∧ i < (h.1 : Int) then h.2.2.1 i.toNat w.toNat else if 4 ≤ w ∧ w < 13 ∧ 0 ≤ i ∧ i < ((h.2.1 + 1 : Nat) : Int) then (if i.toNat = h.2.1 then _ else h.2.2.2 i.toNat (w - 4).toNat) else 0) = _
        rw [if_neg (by omega), if_pos (by omega), if_pos (by omega)]
      rw [e2]
      have hw9 : w = 4 ∨ w = 5 ∨ w = 6 ∨ w = 7 ∨ w = 8 ∨ w = 9 ∨ w = 10 ∨ w = 11 ∨ w = 12 := by omega
      refine Or.inr ⟨by omega, ?_⟩
      rcases hw9 with rfl | rfl | rfl | rfl | rfl | rfl | rfl | rfl | rfl
      · exact hx
      · exact hy
      · exact (by decide : (0 : Int) ≤ 0 ∧ (0 : Int) ≤ 9)
      · exact hz
      · exact (by decide : (0 : Int) ≤ 0 ∧ (0 : Int) ≤ 1)
      all_goals exact (by decide : (0 : Int) ≤ 5 ∧ (5 : Int) ≤ 9)
/-- both take one more -/
theorem both_bid {h : Hs} {σ σ1 σ2 : St} {x y z : Int} (hI : HC 1 h σ ∧ HM h σ ∧ Wf h ∧ InvImg h σ ∧ InvLed σ ∧ InvChg h σ ∧ InvTape σ ∧ InvLots σ ∧ (∀ s : Nat, s < 6 → InvShelf σ s) ∧ InvLaw σ) (h7 : h.2.1 ≠ 7) (hx : 0 ≤ x ∧ x ≤ 9) (hy : 0 ≤ y ∧ y ≤ 99) (hz : 0 ≤ z ∧ z ≤ 9) (k1 : HC 1 (hbid h x y z) σ1) (s1 : Same σ σ1 (fun d => d ≠ 1 ∧ d ≠ 2 ∧ d ≠ 3)) (k2 : HM (hbid h x y z) σ2) (s2 : ∀ c j : Nat, c ≠ 54 → ¬ (c = 49 ∧ j = 5) → σ2 c j = σ1 c j) : Inv σ2 := by
  obtain ⟨c1, c2, c3, i1, i2, i3, i4, i5, i6, i7⟩ := hI
  have ag : ∀ c j : Nat, ¬ (c = 1 ∨ c = 2 ∨ c = 3 ∨ c = 54 ∨ (c = 49 ∧ j = 5)) → σ2 c j = σ c j := by
    intro c j hcj
    rw [s2 c j (by omega) (by omega), s1 c (by omega)]
  exact inv_up (h := h) (h' := hbid h x y z) ⟨i1, i3, i4, i5, i6, i7⟩ (fun c j q => ag c j (by unfold pRest pImg pChg pTape pLots pShelf pLaw at q; omega)) (HC1.keep (fun c j q => s2 c j (by unfold pH1 at q; omega) (by unfold pH1 at q; omega)) k1) k2 (c3.bid h7 hx hy hz) (Nat.le_refl _) (Nat.le_succ _) (i2.keep (fun c j q => ag c j (by unfold pLed at q; omega)))
theorem ag_bidder (a1 : Int) (a2 : Int) (ha1 : ok32 a1) (ha2 : ok32 a2) : Ag (fun σ => fX9_bidder 0 a1 a2 σ) (fun σ => fX10_bidder 49 a1 a2 σ) := by
  intro σ hI
  obtain ⟨h, hJ⟩ := id hI
  obtain ⟨c1, c2, c3, i1, i2, i3, i4, i5, i6, i7⟩ := id hJ
  dsimp only
  have d1 : ∀ τ : St, fX9_isWithin 4 a1 τ = some (if 0 ≤ a1 ∧ a1 ≤ 9 then 1 else 0, τ) := fun τ => within9 (by decide) (by decide)
  have d2 : ∀ τ : St, fX9_isWithin 5 a2 τ = some (if 0 ≤ a2 ∧ a2 ≤ 99 then 1 else 0, τ) := fun τ => within9 (by decide) (by decide)
  unfold fX9_bidder
  simp only [rfS, d1]
  by_cases q1 : 0 ≤ a1 ∧ a1 ≤ 9
  case neg =>
    rw [if_neg q1, b0]
    refine ⟨_, σ, σ, rfl, ?_, hI⟩
    unfold fX10_bidder
    rw [within_eq, if_neg q1, b0]
  rw [if_pos q1, b1]
  dsimp only
  rw [d2]
  by_cases q2 : 0 ≤ a2 ∧ a2 ≤ 99
  case neg =>
    rw [if_neg q2, b0]
    refine ⟨_, σ, σ, rfl, ?_, hI⟩
    unfold fX10_bidder
    rw [within_eq, if_pos q1, b1]
    dsimp only
    rw [within_eq, if_neg q2, b0]
  rw [if_pos q2, b1]
  dsimp only
  have mm : ∀ τ : St, fX10_bidder 49 a1 a2 τ = if τ 49 5 = 7 then some (-3, τ) else Option.bind (fX10_newOne 49 a1 a2 0 τ) fun q3 => some (q3.1, q3.2) := by
    intro τ
    unfold fX10_bidder
    rw [within_eq, if_pos q1, b1]
    dsimp only
    rw [within_eq, if_pos q2, b1]
  by_cases h7 : h.2.1 = 7
  · rw [addB_full c1 h7, Option.bind_some]
    refine ⟨_, σ, σ, rfl, ?_, hI⟩
    rw [mm, c2.2.1, if_pos (by omega)]
  · obtain ⟨σ1, f1, k1, s1⟩ := addB_eq (x := a1) (y := a2) (z := 0) c1 c3 h7
    rw [f1, Option.bind_some]
    have m1 : HM h σ1 := HM.keep (fun c j q => by rw [s1 c (by unfold pHM at q; omega)]) c2
    obtain ⟨σ2, f2, k2, s2⟩ := newOne_eq (x := a1) (y := a2) (z := 0) m1 c3 h7
    refine ⟨_, σ1, σ2, rfl, ?_, both_bid hJ h7 q1 q2 (by decide) k1 s1 k2 s2⟩
    rw [mm, m1.2.1, if_neg (by omega), f2, Option.bind_some]
