/-! Bidders from a row. -/
theorem ok_in64 {x : Int} (h0 : -9223372036854775808 ≤ x) (h1 : x < 9223372036854775808) : ok64 x := ⟨h0, h1⟩
theorem la {x y : Int} (h : ok64 (x + y)) : l_add x y = x + y := by
  unfold l_add
  rw [← Int64.ofInt_add, toInt_of64 h]
theorem lm {x y : Int} (h : ok64 (x * y)) : l_mul x y = x * y := by
  unfold l_mul
  rw [← Int64.ofInt_mul, toInt_of64 h]
theorem lc_lt {x y : Int} : l_cmp x y < 0 ↔ x < y := by
  unfold l_cmp
  split
  · omega
  · split <;> omega
theorem lc_gt {x y : Int} : 0 < l_cmp x y ↔ y < x := by
  unfold l_cmp
  split
  · omega
  · split <;> omega
theorem lc_le {x y : Int} : l_cmp x y ≤ 0 ↔ x ≤ y := by
  unfold l_cmp
  split
  · omega
  · split <;> omega
/-- whether the row tells one more from place p on -/
abbrev moreB (R : Nat → Int) (len : Int) (p : Int) (h : Hs) : Prop := 0 ≤ p ∧ p + 3 ≤ len ∧ h.2.1 ≠ 7 ∧ (0 ≤ R p.toNat ∧ R p.toNat ≤ 9) ∧ (0 ≤ R (p.toNat + 1) ∧ R (p.toNat + 1) ≤ 99) ∧ (0 ≤ R (p.toNat + 2) ∧ R (p.toNat + 2) ≤ 9)
noncomputable def bidsP (R : Nat → Int) (len : Int) : Nat → Int → Hs → Nat × Hs
  | 0, _, h => (0, h)
  | m + 1, p, h => if moreB R len p h then ((bidsP R len m (p + 3) (hbid h (R p.toNat) (R (p.toNat + 1)) (R (p.toNat + 2)))).1 + 1, (bidsP R len m (p + 3) (hbid h (R p.toNat) (R (p.toNat + 1)) (R (p.toNat + 2)))).2) else (0, h)
theorem bidsP_wf {R : Nat → Int} {len : Int} : ∀ (m : Nat) (p : Int) (h : Hs), Wf h → Wf (bidsP R len m p h).2 ∧ h.1 ≤ (bidsP R len m p h).2.1 ∧ h.2.1 ≤ (bidsP R len m p h).2.2.1
  | 0, _, h, hw => ⟨hw, Nat.le_refl _, Nat.le_refl _⟩
  | m + 1, p, h, hw => by
    unfold bidsP
    by_cases q : moreB R len p h
    · rw [if_pos q]
      obtain ⟨r1, r2, r3⟩ := bidsP_wf (R := R) (len := len) m (p + 3) _ (hw.bid q.2.2.1 q.2.2.2.1 q.2.2.2.2.1 q.2.2.2.2.2)
      exact ⟨r1, r2, Nat.le_trans (Nat.le_succ _) r3⟩
    · rw [if_neg q]
      exact ⟨hw, Nat.le_refl _, Nat.le_refl _⟩
theorem hasRun3 {c : Nat} {σ : St} {x : Int} (hx : ok32 x) (h0 : 0 ≤ σ c 4) (h1 : σ c 4 ≤ 60) : fX6_hasRun c x 3 σ = some (if 0 ≤ x ∧ x + 3 ≤ σ c 4 then 1 else 0, σ) := by
  unfold fX6_hasRun
  unfold ok32 at hx
  by_cases a : x < 0
  · rw [if_pos a, if_neg (by omega)]
  rw [if_neg a, if_neg (by decide)]
  by_cases b : σ c 4 < x
  · rw [if_pos b, if_neg (by omega)]
  rw [if_neg b, isb (ok_in (by omega) (by omega))]
  by_cases d : σ c 4 - x < 3
  · rw [if_pos d, if_neg (by omega)]
  · rw [if_neg d, if_pos (by omega)]
theorem at6 {s : Nat} {σ : St} {x : Int} (hs : s < 6) (hx : 0 ≤ x ∧ x < σ (37 + 2 * s) 4) (h1 : σ (37 + 2 * s) 4 ≤ 60) : fX6_at (37 + 2 * s) x σ = some (σ (38 + 2 * s) x.toNat, σ) := by
  obtain ⟨r1, r2, r3⟩ := sh_rf s hs
  unfold fX6_at
  rw [hasRun_eq (ok_in (by omega) (by omega)) (by omega) h1, if_pos hx, b1, r2, r3, if_pos ⟨by omega, by omega⟩]
theorem bids9 {x1 x2 x3 len : Int} {R : Nat → Int} {s : Nat} (hs : s < 6) (hl0 : 0 ≤ len) (hl1 : len ≤ 60) : ∀ (m n k : Nat) (p : Int) (h : Hs) (σ : St), (k : Int) + (m : Int) = x3 → k + m ≤ 7 → m < n → ok32 p → HC 1 h σ → Wf h → σ (37 + 2 * s) 4 = len → (∀ j : Nat, j < 60 → c_l2i (σ (38 + 2 * s) j) = R j) → ∃ σ' : St, fX9_bidders_55 0 x1 x2 x3 n (37 + 2 * s) (k : Int) p σ = some (((k + (bidsP R len m p h).1 : Nat) : Int), σ') ∧ HC 1 (bidsP R len m p h).2 σ' ∧ Same σ σ' (fun d => d ≠ 1 ∧ d ≠ 2 ∧ d ≠ 3)
  | 0, n + 1, k, p, h, σ, hm, _, _, _, hc, _, _, _ => by
    unfold fX9_bidders_55
    rw [if_pos (by omega)]
    exact ⟨σ, rfl, hc, fun _ _ => rfl⟩
  | m + 1, n + 1, k, p, h, σ, hm, h7, hn, hp, hc, hw, hl, hr => by
    unfold fX9_bidders_55
    rw [if_neg (by omega), hasRun3 hp (by omega) (by omega), hl]
    unfold bidsP
    by_cases a : 0 ≤ p ∧ p + 3 ≤ len
    case neg =>
      rw [if_neg a, b0, if_neg (show ¬ moreB R len p h from fun z => a ⟨z.1, z.2.1⟩)]
      exact ⟨σ, rfl, hc, fun _ _ => rfl⟩
    rw [if_pos a, b1]
    unfold fX9_comesFrom
    have e1 : i_add p 1 = p + 1 := ia (ok_in (by omega) (by omega))
    have e2 : i_add p 2 = p + 2 := ia (ok_in (by omega) (by omega))
    have e3 : i_add p 3 = p + 3 := ia (ok_in (by omega) (by omega))
    have e4 : i_add (k : Int) 1 = ((k + 1 : Nat) : Int) := by
      rw [ia (ok_in (by omega) (by omega))]
      omega
    dsimp only
    rw [e1, e2, e3, e4, at6 hs (by omega) (by omega), Option.bind_some]
    dsimp only
    rw [at6 hs (by omega) (by omega), Option.bind_some]
    dsimp only
    rw [at6 hs (by omega) (by omega), Option.bind_some]
    dsimp only
    rw [hr _ (by omega), hr _ (by omega), hr _ (by omega), show (p + 1).toNat = p.toNat + 1 by omega, show (p + 2).toNat = p.toNat + 2 by omega]
    simp only [rfS]
    have d1 : ∀ τ : St, fX9_isWithin 4 (R p.toNat) τ = some (if 0 ≤ R p.toNat ∧ R p.toNat ≤ 9 then 1 else 0, τ) := fun τ => within9 (by decide) (by decide)
    have d2 : ∀ τ : St, fX9_isWithin 5 (R (p.toNat + 1)) τ = some (if 0 ≤ R (p.toNat + 1) ∧ R (p.toNat + 1) ≤ 99 then 1 else 0, τ) := fun τ => within9 (by decide) (by decide)
    have d3 : ∀ τ : St, fX9_isWithin 7 (R (p.toNat + 2)) τ = some (if 0 ≤ R (p.toNat + 2) ∧ R (p.toNat + 2) ≤ 9 then 1 else 0, τ) := fun τ => within9 (by decide) (by decide)
    rw [d1]
    by_cases q1 : 0 ≤ R p.toNat ∧ R p.toNat ≤ 9
    case neg =>
      rw [if_neg q1, b0, b0, if_neg (show ¬ moreB R len p h from fun z => q1 z.2.2.2.1)]
      exact ⟨σ, rfl, hc, fun _ _ => rfl⟩
    rw [if_pos q1, b1]
    dsimp only
    rw [d2]
    by_cases q2 : 0 ≤ R (p.toNat + 1) ∧ R (p.toNat + 1) ≤ 99
    case neg =>
      rw [if_neg q2, b0, b0, if_neg (show ¬ moreB R len p h from fun z => q2 z.2.2.2.2.1)]
      exact ⟨σ, rfl, hc, fun _ _ => rfl⟩
    rw [if_pos q2, b1]
    dsimp only
    rw [d3]
    by_cases q3 : 0 ≤ R (p.toNat + 2) ∧ R (p.toNat + 2) ≤ 9
    case neg =>
      rw [if_neg q3, b0, b0, if_neg (show ¬ moreB R len p h from fun z => q3 z.2.2.2.2.2)]
      exact ⟨σ, rfl, hc, fun _ _ => rfl⟩
    rw [if_pos q3, b1]
    dsimp only
    by_cases q7 : h.2.1 = 7
    · rw [addB_full hc q7, Option.bind_some, if_pos rfl, b0, if_neg (show ¬ moreB R len p h from fun z => z.2.2.1 q7)]
      exact ⟨σ, rfl, hc, fun _ _ => rfl⟩
    · obtain ⟨σ1, f1, k1, s1⟩ := addB_eq (x := R p.toNat) (y := R (p.toNat + 1)) (z := R (p.toNat + 2)) hc hw q7
      rw [f1, Option.bind_some, if_neg (by dsimp only; omega), b1]
      rw [if_pos (show moreB R len p h from ⟨a.1, a.2, q7, q1, q2, q3⟩)]
      dsimp only
      obtain ⟨σ', g1, g2, g3⟩ := bids9 (x1 := x1) (x2 := x2) (x3 := x3) (R := R) hs hl0 hl1 m n (k + 1) (p + 3) _ σ1 (by omega) (by omega) (by omega) (ok_in (by omega) (by omega)) k1 (hw.bid q7 q1 q2 q3) (by rw [s1 _ (by omega)]; exact hl) (fun j hj => by rw [s1 _ (by omega)]; exact hr j hj)
      refine ⟨σ', ?_, g2, fun d hd => (g3 d hd).trans (s1 d hd)⟩
      rw [g1, show k + 1 + (bidsP R len m (p + 3) (hbid h (R p.toNat) (R (p.toNat + 1)) (R (p.toNat + 2)))).1 = k + ((bidsP R len m (p + 3) (hbid h (R p.toNat) (R (p.toNat + 1)) (R (p.toNat + 2)))).1 + 1) by omega]
theorem told10 {s : Nat} {σ : St} {x : Int} (hs : s < 6) (h0 : 0 ≤ x) (h1 : x < 60) : fX10_toldAt 49 (s : Int) x σ = some (c_l2i (σ 74 (60 * s + x.toNat)), σ) := by
  unfold fX10_toldAt
  have e : i_add (i_mul 60 (s : Int)) x = 60 * (s : Int) + x := by
    rw [im (ok_in (by omega) (by omega)), ia (ok_in (by omega) (by omega))]
  have et : (60 * (s : Int) + x).toNat = 60 * s + x.toNat := by omega
  simp only [rfS, lnS]
  rw [e, et, if_pos ⟨by omega, by omega⟩]
theorem bids10 {x2 x3 len : Int} {R : Nat → Int} {s : Nat} (hs : s < 6) (hx2 : ok32 x2) (hl0 : 0 ≤ len) (hl1 : len ≤ 60) : ∀ (m n k : Nat) (h : Hs) (σ : St), (k : Int) + (m : Int) = x3 → k + m ≤ 7 → m < n → HM h σ → Wf h → σ 73 s = len → (∀ j : Nat, j < 60 → c_l2i (σ 74 (60 * s + j)) = R j) → ∃ σ' : St, fX10_bidders_49 49 (s : Int) x2 x3 n (k : Int) (k : Int) σ = some (((k + (bidsP R len m (x2 + 3 * k) h).1 : Nat) : Int), σ') ∧ HM (bidsP R len m (x2 + 3 * k) h).2 σ' ∧ ∀ c j : Nat, c ≠ 54 → ¬ (c = 49 ∧ j = 5) → σ' c j = σ c j
  | 0, n + 1, k, h, σ, hm, _, _, hc, _, _, _ => by
    unfold fX10_bidders_49
    rw [if_pos (by omega)]
    exact ⟨σ, rfl, hc, fun _ _ _ _ => rfl⟩
  | m + 1, n + 1, k, h, σ, hm, h7, hn, hc, hw, hl, hr => by
    unfold ok32 at hx2
    have p1 : l_add (c_i2l x2) (l_mul 3 (c_i2l (k : Int))) = x2 + 3 * (k : Int) := by
      rw [i2l_ok hx2, i2l_ok (ok_in (by omega) (by omega)), lm (ok_in64 (by omega) (by omega)), la (ok_in64 (by omega) (by omega))]
    have p2 : l_add (x2 + 3 * (k : Int)) 3 = x2 + 3 * (k : Int) + 3 := la (ok_in64 (by omega) (by omega))
    have p3 : c_i2l len = len := i2l_ok (ok_in (by omega) (by omega))
    unfold fX10_bidders_49
    simp only [rfS, lnS, p1, p2, Int.toNat_natCast, hl, p3, hc.2.1]
    rw [if_neg (by omega)]
    unfold bidsP
    by_cases a0 : x2 + 3 * (k : Int) < 0
    · rw [if_pos (lc_lt.mpr a0), if_neg (show ¬ moreB R len (x2 + 3 * k) h from fun z => by have := z.1; omega)]
      exact ⟨σ, rfl, hc, fun _ _ _ _ => rfl⟩
    rw [if_neg (fun z => a0 (lc_lt.mp z)), if_pos ⟨by omega, by omega⟩]
    by_cases a1 : len < x2 + 3 * (k : Int) + 3
    · rw [if_pos (lc_gt.mpr a1), if_neg (show ¬ moreB R len (x2 + 3 * k) h from fun z => by have := z.2.1; omega)]
      exact ⟨σ, rfl, hc, fun _ _ _ _ => rfl⟩
    rw [if_neg (fun z => a1 (lc_gt.mp z))]
    by_cases q7 : h.2.1 = 7
    · rw [if_pos (by omega), if_neg (show ¬ moreB R len (x2 + 3 * k) h from fun z => z.2.2.1 q7)]
      exact ⟨σ, rfl, hc, fun _ _ _ _ => rfl⟩
    rw [if_neg (by omega)]
    have hp : c_l2i (x2 + 3 * (k : Int)) = x2 + 3 * (k : Int) := l2i_ok (ok_in (by omega) (by omega))
    have e1 : i_add (x2 + 3 * (k : Int)) 1 = x2 + 3 * (k : Int) + 1 := ia (ok_in (by omega) (by omega))
    have e2 : i_add (x2 + 3 * (k : Int)) 2 = x2 + 3 * (k : Int) + 2 := ia (ok_in (by omega) (by omega))
    have e4 : i_add (k : Int) 1 = ((k + 1 : Nat) : Int) := by
      rw [ia (ok_in (by omega) (by omega))]
      omega
    obtain ⟨p, hpe⟩ : ∃ p : Nat, x2 + 3 * (k : Int) = (p : Int) := ⟨(x2 + 3 * (k : Int)).toNat, by omega⟩
    have t0 : ∀ τ : St, (∀ j, τ 74 j = σ 74 j) → fX10_toldAt 49 (s : Int) (x2 + 3 * (k : Int)) τ = some (R p, τ) := fun τ ht => by
      rw [told10 hs (by omega) (by omega), ht, hr _ (by omega), show (x2 + 3 * (k : Int)).toNat = p by omega]
    have t1 : ∀ τ : St, (∀ j, τ 74 j = σ 74 j) → fX10_toldAt 49 (s : Int) (x2 + 3 * (k : Int) + 1) τ = some (R (p + 1), τ) := fun τ ht => by
      rw [told10 hs (by omega) (by omega), ht, hr _ (by omega), show (x2 + 3 * (k : Int) + 1).toNat = p + 1 by omega]
    have t2 : ∀ τ : St, (∀ j, τ 74 j = σ 74 j) → fX10_toldAt 49 (s : Int) (x2 + 3 * (k : Int) + 2) τ = some (R (p + 2), τ) := fun τ ht => by
      rw [told10 hs (by omega) (by omega), ht, hr _ (by omega), show (x2 + 3 * (k : Int) + 2).toNat = p + 2 by omega]
    have u0 := t0 σ (fun _ => rfl)
    have u1 := t1 σ (fun _ => rfl)
    have u2 := t2 σ (fun _ => rfl)
    have ep : (x2 + 3 * (k : Int)).toNat = p := by omega
    have mo : ∀ P : Prop, (moreB R len (x2 + 3 * k) h → P) → ¬ P → ¬ moreB R len (x2 + 3 * k) h := fun P i n z => n (i z)
    simp only [hp, e1, e2, u0, Option.bind_some]
    rw [within_eq]
    by_cases q1 : 0 ≤ R p ∧ R p ≤ 9
    case neg =>
      rw [if_neg q1, b0, if_neg (mo _ (fun z => by have := z.2.2.2.1; rw [ep] at this; exact this) q1)]
      exact ⟨σ, rfl, hc, fun _ _ _ _ => rfl⟩
    rw [if_pos q1, b1]
    dsimp only
    rw [u1, Option.bind_some]
    dsimp only
    rw [within_eq]
    by_cases q2 : 0 ≤ R (p + 1) ∧ R (p + 1) ≤ 99
    case neg =>
      rw [if_neg q2, b0, if_neg (mo _ (fun z => by have := z.2.2.2.2.1; rw [ep] at this; exact this) q2)]
      exact ⟨σ, rfl, hc, fun _ _ _ _ => rfl⟩
    rw [if_pos q2, b1]
    dsimp only
    rw [u2, Option.bind_some]
    dsimp only
    rw [within_eq]
    by_cases q3 : 0 ≤ R (p + 2) ∧ R (p + 2) ≤ 9
    case neg =>
      rw [if_neg q3, b0, if_neg (mo _ (fun z => by have := z.2.2.2.2.2; rw [ep] at this; exact this) q3)]
      exact ⟨σ, rfl, hc, fun _ _ _ _ => rfl⟩
    rw [if_pos q3, b1]
    dsimp only
    rw [u0, Option.bind_some]
    dsimp only
    rw [u1, Option.bind_some]
    dsimp only
    rw [u2, Option.bind_some]
    dsimp only
    obtain ⟨σ1, f1, k1, s1⟩ := newOne_eq (x := R p) (y := R (p + 1)) (z := R (p + 2)) hc hw q7
    rw [f1, Option.bind_some, e4]
    dsimp only
    rw [if_pos (show moreB R len (x2 + 3 * k) h from ⟨by omega, by omega, q7, by rw [ep]; exact q1, by rw [ep]; exact q2, by rw [ep]; exact q3⟩), ep]
    obtain ⟨σ', g1, g2, g3⟩ := bids10 (x3 := x3) (R := R) hs hx2 hl0 hl1 m n (k + 1) _ σ1 (by omega) (by omega) (by omega) k1 (hw.bid q7 q1 q2 q3) (by rw [s1 _ _ (by omega) (by omega)]; exact hl) (fun j hj => by rw [s1 _ _ (by omega) (by omega)]; exact hr j hj)
    rw [show x2 + 3 * ((k + 1 : Nat) : Int) = x2 + 3 * (k : Int) + 3 by omega] at g1 g2
    refine ⟨σ', ?_, g2, fun c j c1 c2 => (g3 c j c1 c2).trans (s1 c j c1 c2)⟩
    rw [g1]
    dsimp only
    rw [show k + 1 + (bidsP R len m (x2 + 3 * k + 3) (hbid h (R p) (R (p + 1)) (R (p + 2)))).1 = k + ((bidsP R len m (x2 + 3 * k + 3) (hbid h (R p) (R (p + 1)) (R (p + 2)))).1 + 1) by omega]
theorem ag_bidders (a1 : Int) (a2 : Int) (a3 : Int) (ha1 : ok32 a1) (ha2 : ok32 a2) (ha3 : ok32 a3) : Ag (fun σ => fX9_bidders 0 a1 a2 a3 σ) (fun σ => fX10_bidders 49 a1 a2 a3 σ) := by
  intro σ hI
  obtain ⟨h, c1, c2, c3, i1, i2, i3, i4, i5, i6, i7⟩ := id hI
  dsimp only
  unfold fX9_bidders
  rw [sh9]
  by_cases a : 0 ≤ a1 ∧ a1 < 6
  case neg =>
    rw [if_neg a, b0]
    refine ⟨-1, σ, σ, rfl, ?_, hI⟩
    unfold fX10_bidders
    rw [sh10, if_neg a, b0]
  obtain ⟨s, hs, rfl⟩ : ∃ s : Nat, s < 6 ∧ a1 = (s : Int) := ⟨a1.toNat, by omega, by omega⟩
  obtain ⟨r1, r2, r3⟩ := sh_rf s hs
  rw [if_pos a, b1]
  have mm : ∀ τ : St, fX10_bidders 49 (s : Int) a2 a3 τ = if 1 ≤ a3 ∧ a3 ≤ 7 then (if τ 72 s = -1 then some (0, τ) else if τ 72 s = 0 then fX10_bidders_49 49 (s : Int) a2 a3 FU 0 0 τ else some (-12, τ)) else some (-1, τ) := by
    intro τ
    unfold fX10_bidders
    simp only [rfS, lnS]
    rw [sh10, if_pos a, b1]
    dsimp only
    rw [within_eq]
    by_cases z : 1 ≤ a3 ∧ a3 ≤ 7
    · rw [if_pos z, if_pos z, b1]
      dsimp only
      rw [if_pos (show inb (s : Int) 6 from ⟨by omega, by omega⟩), if_pos (show inb (s : Int) 6 from ⟨by omega, by omega⟩), Int.toNat_natCast]
    · rw [if_neg z, if_neg z, b0]
  dsimp only
  simp only [mm]
  by_cases z : 1 ≤ a3 ∧ a3 ≤ 7
  case neg =>
    have e : ∀ A : Option (Int × St), (if a3 < 1 then some (-1, σ) else if a3 ≤ 7 then A else some (-1, σ)) = some (-1, σ) := by
      intro A
      by_cases q : a3 < 1
      · rw [if_pos q]
      · rw [if_neg q, if_neg (by omega)]
    rw [e]
    exact ⟨-1, σ, σ, rfl, by rw [if_neg z], hI⟩
  rw [if_neg (by omega), if_pos z.2]
  simp only [rfS, lnS, Int.toNat_natCast, r1]
  rw [if_pos (show inb (s : Int) 6 from ⟨by omega, by omega⟩)]
  have k := i6 s hs
  obtain ⟨k1, k2, k3, k4, k5⟩ := k
  by_cases e0 : σ (37 + 2 * s) 1 = 0
  · rw [if_pos e0]
    exact ⟨0, σ, σ, rfl, by rw [if_pos z, if_pos (by omega)], hI⟩
  rw [if_neg e0]
  unfold fX6_holdsBytes
  by_cases e2 : σ (37 + 2 * s) 1 = 2 ∧ σ (37 + 2 * s) 3 = 0
  case neg =>
    have e : (if σ (37 + 2 * s) 1 = 2 then if σ (37 + 2 * s) 3 = 0 then some ((1 : Int), σ) else some (0, σ) else some (0, σ)) = some (0, σ) := by
      by_cases q : σ (37 + 2 * s) 1 = 2
      · rw [if_pos q, if_neg (by omega)]
      · rw [if_neg q]
    rw [e, b0]
    exact ⟨-12, σ, σ, rfl, by rw [if_pos z, if_neg (by omega), if_neg (by omega)], hI⟩
  rw [if_pos e2.1, if_pos e2.2, b1]
  dsimp only
  obtain ⟨m, hm⟩ : ∃ m : Nat, a3 = (m : Int) := ⟨a3.toNat, by omega⟩
  obtain ⟨σ1, f1, g1, s1⟩ := bids9 (x1 := (s : Int)) (x2 := a2) (x3 := a3) (len := σ 73 s) (R := fun j => c_l2i (σ (38 + 2 * s) j)) hs k3 k4 m FU 0 a2 h σ (by omega) (by omega) (by show m < 1000000; omega) ha2 c1 c3 k2 (fun j hj => rfl)
  have sm : ∀ c j : Nat, ¬ (c = 1 ∨ c = 2 ∨ c = 3) → σ1 c j = σ c j := fun c j hc => by rw [s1 c (by omega)]
  have m1 : HM h σ1 := HM.keep (fun c j q => sm c j (by unfold pHM at q; omega)) c2
  obtain ⟨σ2, f2, g2, s2⟩ := bids10 (x2 := a2) (x3 := a3) (len := σ 73 s) (R := fun j => c_l2i (σ (38 + 2 * s) j)) hs ha2 k3 k4 m FU 0 h σ1 (by omega) (by omega) (by show m < 1000000; omega) m1 c3 (sm 73 s (by omega)) (fun j hj => by rw [sm 74 _ (by omega), (k5 j hj).1])
  have ez : a2 + 3 * ((0 : Nat) : Int) = a2 := by omega
  rw [ez] at f2 g2
  have f1' : fX9_bidders_55 0 (s : Int) a2 a3 FU (37 + 2 * s) 0 a2 σ = _ := f1
  have f2' : fX10_bidders_49 49 (s : Int) a2 a3 FU 0 0 σ1 = _ := f2
  rw [f1']
  refine ⟨_, σ1, σ2, rfl, ?_, ?_⟩
  · rw [if_pos z, sm 72 s (by omega), if_neg (by omega), if_pos (by omega), f2']
  · have ag : ∀ c j : Nat, ¬ (c = 1 ∨ c = 2 ∨ c = 3 ∨ c = 54 ∨ (c = 49 ∧ j = 5)) → σ2 c j = σ c j := by
      intro c j hcj
      rw [s2 c j (by omega) (by omega), sm c j (by omega)]
    obtain ⟨w1, w2, w3⟩ := bidsP_wf (R := fun j => c_l2i (σ (38 + 2 * s) j)) (len := σ 73 s) m a2 h c3
    exact inv_up (h := h) ⟨i1, i3, i4, i5, i6, i7⟩ (fun c j q => ag c j (by unfold pRest pImg pChg pTape pLots pShelf pLaw at q; omega)) (HC1.keep (fun c j q => s2 c j (by unfold pH1 at q; omega) (by unfold pH1 at q; omega)) g1) g2 w1 w2 w3 (i2.keep (fun c j q => ag c j (by unfold pLed at q; omega)))
