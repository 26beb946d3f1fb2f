/-! Elements shifted from row to row: shift. -/
theorem hasRunN {c : Nat} {σ : St} {x n : Int} (hx : ok32 x) (h0 : 0 ≤ σ c 4) (h1 : σ c 4 ≤ 60) : fX6_hasRun c x n σ = some (if 0 ≤ x ∧ 0 ≤ n ∧ x + n ≤ σ c 4 then 1 else 0, σ) := by
  unfold fX6_hasRun
  unfold ok32 at hx
  by_cases a : x < 0
  · rw [if_pos a, if_neg (by omega)]
  rw [if_neg a]
  by_cases b : n < 0
  · rw [if_pos b, if_neg (by omega)]
  rw [if_neg b]
  by_cases d : σ c 4 < x
  · rw [if_pos d, if_neg (by omega)]
  rw [if_neg d, isb (ok_in (by omega) (by omega))]
  by_cases e : σ c 4 - x < n
  · rw [if_pos e, if_neg (by omega)]
  · rw [if_neg e, if_pos (by omega)]
def shR (f : Nat → Int) (a b lo hi : Nat) (p : Nat) : Int := if b + lo ≤ p ∧ p < b + hi then f (a + (p - b)) else f p
theorem shUp {s r i j N : Nat} (hs : s < 6) (hr : r < 6) (hi : i + N ≤ 60) (hj : j + N ≤ 60) (ov : s ≠ r ∨ j ≤ i) (f : Nat → Int) : ∀ (m n k : Nat) (σ : St), k + m = N → m < n → (∀ p : Nat, σ 74 p = shR f (60 * s + i) (60 * r + j) 0 k p) → ∃ σ' : St, fX10_shift_188 49 (s : Int) (i : Int) (r : Int) (j : Int) (N : Int) n (k : Int) σ = some ((N : Int), σ') ∧ (∀ p : Nat, σ' 74 p = shR f (60 * s + i) (60 * r + j) 0 N p) ∧ Same σ σ' (fun d => d ≠ 74)
  | 0, n + 1, k, σ, hm, _, g => by
    have ek : k = N := by omega
    subst ek
    unfold fX10_shift_188
    rw [if_pos (by omega)]
    exact ⟨σ, rfl, g, fun _ _ => rfl⟩
  | m + 1, n + 1, k, σ, hm, hn, g => by
    have e9 : i_add (k : Int) 1 = ((k + 1 : Nat) : Int) := by
      rw [ia (ok_in (by omega) (by omega))]
      omega
    have e1 : i_add (i_add (i_mul 60 (s : Int)) (i : Int)) (k : Int) = ((60 * s + i + k : Nat) : Int) := by
      rw [im (ok_in (by omega) (by omega)), ia (x := 60 * (s : Int)) (ok_in (by omega) (by omega)), ia (ok_in (by omega) (by omega))]
      omega
    have e2 : i_add (i_add (i_mul 60 (r : Int)) (j : Int)) (k : Int) = ((60 * r + j + k : Nat) : Int) := by
      rw [im (ok_in (by omega) (by omega)), ia (x := 60 * (r : Int)) (ok_in (by omega) (by omega)), ia (ok_in (by omega) (by omega))]
      omega
    unfold fX10_shift_188
    simp only [rfS, lnS, e1, e2, e9, Int.toNat_natCast]
    rw [if_neg (by omega), if_pos ⟨by omega, by omega⟩, if_pos ⟨by omega, by omega⟩]
    have ga : σ 74 (60 * s + i + k) = f (60 * s + i + k) := by
      rw [g]
      unfold shR
      rw [if_neg (by omega)]
    obtain ⟨σ1, f1, g1, s1⟩ := shUp hs hr hi hj ov f m n (k + 1) (up σ 74 (60 * r + j + k) (σ 74 (60 * s + i + k))) (by omega) (by omega) (fun p => by
      rw [up_get, ga]
      have gp := g p
      unfold shR at *
      by_cases z : p = 60 * r + j + k
      · rw [if_pos ⟨rfl, z⟩, if_pos (by omega), z, show 60 * s + i + (60 * r + j + k - (60 * r + j)) = 60 * s + i + k by omega]
      · rw [if_neg (fun y => z y.2), gp]
        by_cases y : 60 * r + j + 0 ≤ p ∧ p < 60 * r + j + k
        · rw [if_pos y, if_pos (by omega)]
        · rw [if_neg y, if_neg (by omega)])
    exact ⟨σ1, f1, g1, fun d hd => by rw [s1 d hd, up_ne hd]⟩
theorem shDn {s i j N : Nat} (hs : s < 6) (hi : i + N ≤ 60) (hj : j + N ≤ 60) (ov : i < j) (f : Nat → Int) : ∀ (m n : Nat) (σ : St), m ≤ N → m < n → (∀ p : Nat, σ 74 p = shR f (60 * s + i) (60 * s + j) m N p) → ∃ σ' : St, fX10_shift_142 49 (s : Int) (i : Int) (s : Int) (j : Int) (N : Int) n ((m : Int) - 1) σ = some ((N : Int), σ') ∧ (∀ p : Nat, σ' 74 p = shR f (60 * s + i) (60 * s + j) 0 N p) ∧ Same σ σ' (fun d => d ≠ 74)
  | 0, n + 1, σ, hm, _, g => by
    unfold fX10_shift_142
    rw [if_pos (by omega)]
    exact ⟨σ, rfl, g, fun _ _ => rfl⟩
  | k + 1, n + 1, σ, hm, hn, g => by
    have hk : k < 1000 := by omega
    have ev : ((k + 1 : Nat) : Int) - 1 = (k : Int) := by omega
    have e1 : i_add (i_add (i_mul 60 (s : Int)) (i : Int)) (k : Int) = ((60 * s + i + k : Nat) : Int) := by
      rw [im (ok_in (by omega) (by omega)), ia (x := 60 * (s : Int)) (ok_in (by omega) (by omega)), ia (ok_in (by omega) (by omega))]
      omega
    have e2 : i_add (i_add (i_mul 60 (s : Int)) (j : Int)) (k : Int) = ((60 * s + j + k : Nat) : Int) := by
      rw [im (ok_in (by omega) (by omega)), ia (x := 60 * (s : Int)) (ok_in (by omega) (by omega)), ia (ok_in (by omega) (by omega))]
      omega
    unfold fX10_shift_142
    simp only [rfS, lnS, ev, e1, e2, dec_eq hk, Int.toNat_natCast]
    rw [if_neg (by omega), if_pos ⟨by omega, by omega⟩, if_pos ⟨by omega, by omega⟩]
    have ga : σ 74 (60 * s + i + k) = f (60 * s + i + k) := by
      rw [g]
      unfold shR
      rw [if_neg (by omega)]
    obtain ⟨σ1, f1, g1, s1⟩ := shDn hs hi hj ov f k n (up σ 74 (60 * s + j + k) (σ 74 (60 * s + i + k))) (by omega) (by omega) (fun p => by
      rw [up_get, ga]
      have gp := g p
      unfold shR at *
      by_cases z : p = 60 * s + j + k
      · rw [if_pos ⟨rfl, z⟩, if_pos (by omega), z, show 60 * s + i + (60 * s + j + k - (60 * s + j)) = 60 * s + i + k by omega]
      · rw [if_neg (fun y => z y.2), gp]
        by_cases y : 60 * s + j + (k + 1) ≤ p ∧ p < 60 * s + j + N
        · rw [if_pos y, if_pos (by omega)]
        · rw [if_neg y, if_neg (by omega)])
    exact ⟨σ1, f1, g1, fun d hd => by rw [s1 d hd, up_ne hd]⟩
theorem ag_shift (a1 : Int) (a2 : Int) (a3 : Int) (a4 : Int) (a5 : Int) (ha1 : ok32 a1) (ha2 : ok32 a2) (ha3 : ok32 a3) (ha4 : ok32 a4) (ha5 : ok32 a5) : Ag (fun σ => fX9_shift 0 a1 a2 a3 a4 a5 σ) (fun σ => fX10_shift 49 a1 a2 a3 a4 a5 σ) := by
  intro σ hI
  obtain ⟨h, c1, c2, c3, i1, i2, i3, i4, i5, i6, i7⟩ := id hI
  dsimp only
  unfold fX9_shift fX10_shift fX10_shift_185
  simp only [rfS, lnS]
  rw [sh9]
  by_cases a : 0 ≤ a1 ∧ a1 < 6
  case neg =>
    rw [if_neg a, b0]
    exact ⟨-1, σ, σ, rfl, by rw [sh10, if_neg a, b0], hI⟩
  rw [if_pos a, b1]
  simp only [sh10, if_pos a, b1]
  rw [sh9]
  by_cases b : 0 ≤ a3 ∧ a3 < 6
  case neg =>
    rw [if_neg b, b0]
    exact ⟨-1, σ, σ, rfl, by rw [b0], hI⟩
  rw [if_pos b, b1]
  simp only [if_pos b, b1]
  obtain ⟨s, hs, rfl⟩ : ∃ s : Nat, s < 6 ∧ a1 = (s : Int) := ⟨a1.toNat, by omega, by omega⟩
  obtain ⟨r, hr, rfl⟩ : ∃ r : Nat, r < 6 ∧ a3 = (r : Int) := ⟨a3.toNat, by omega, by omega⟩
  obtain ⟨r1, r2, r3⟩ := sh_rf s hs
  obtain ⟨t1, t2, t3⟩ := sh_rf r hr
  have ib : inb (s : Int) 6 := ⟨by omega, by omega⟩
  have ib2 : inb (r : Int) 6 := ⟨by omega, by omega⟩
  simp only [if_pos ib, if_pos ib2, Int.toNat_natCast, r1, r2, r3, t1, t2, t3]
  obtain ⟨k1, k2, k3, k4, k5⟩ := i6 s hs
  obtain ⟨l1, l2, l3, l4, l5⟩ := i6 r hr
  by_cases p1 : σ (37 + 2 * s) 1 = 0
  · rw [if_pos p1]
    exact ⟨-11, σ, σ, rfl, by rw [if_pos (by omega)], hI⟩
  rw [if_neg p1]
  have p1' : ¬ σ 72 s = -1 := by omega
  by_cases p2 : σ (37 + 2 * r) 1 = 0
  · rw [if_pos p2]
    exact ⟨-11, σ, σ, rfl, by rw [if_neg p1', if_pos (by omega)], hI⟩
  rw [if_neg p2]
  have p2' : ¬ σ 72 r = -1 := by omega
  by_cases p3 : σ (37 + 2 * s) 1 = 2
  case neg =>
    rw [if_neg p3]
    exact ⟨-12, σ, σ, rfl, by rw [if_neg p1', if_neg p2', isRow_eq hs, if_neg (by omega), b0], hI⟩
  rw [if_pos p3]
  have w1 : 0 ≤ σ 72 s ∧ σ 72 s ≤ 4 := by omega
  by_cases p4 : σ (37 + 2 * r) 1 = 2
  case neg =>
    rw [if_neg p4]
    refine ⟨-12, σ, σ, rfl, ?_, hI⟩
    rw [if_neg p1', if_neg p2', isRow_eq hs, if_pos w1, b1]
    dsimp only
    rw [isRow_eq hr, if_neg (by omega), b0]
  rw [if_pos p4]
  have w2 : 0 ≤ σ 72 r ∧ σ 72 r ≤ 4 := by omega
  have e3 : σ (37 + 2 * s) 3 = σ 72 s := by omega
  have e4 : σ (37 + 2 * r) 3 = σ 72 r := by omega
  by_cases p5 : σ (37 + 2 * s) 3 = σ (37 + 2 * r) 3
  case neg =>
    rw [if_neg p5]
    refine ⟨-12, σ, σ, rfl, ?_, hI⟩
    rw [if_neg p1', if_neg p2', isRow_eq hs, if_pos w1, b1]
    dsimp only
    rw [isRow_eq hr, if_pos w2, b1]
    dsimp only
    rw [if_neg (by omega)]
  rw [if_pos p5]
  have e72 : σ 72 s = σ 72 r := by omega
  -- the model up to the places
  have mod : ∀ τ : St, τ 72 = σ 72 → τ 73 = σ 73 → (if τ 72 s = -1 then some ((-11 : Int), τ) else if τ 72 r = -1 then some (-11, τ) else Option.bind (fX10_isRow 49 (s : Int) τ) fun q3 => if q3.1 = 0 then some (-12, q3.2) else Option.bind (fX10_isRow 49 (r : Int) q3.2) fun q4 => if q4.1 = 0 then some (-12, q4.2) else if q4.2 72 s = q4.2 72 r then if a5 < 0 then some (-13, q4.2) else if a2 < 0 then some (-13, q4.2) else if a4 < 0 then some (-13, q4.2) else if 0 < l_cmp (l_add (c_i2l a2) (c_i2l a5)) (c_i2l (q4.2 73 s)) then some (-13, q4.2) else if l_cmp (l_add (c_i2l a4) (c_i2l a5)) (c_i2l (q4.2 73 r)) ≤ 0 then if (s : Int) = (r : Int) then if a4 ≤ a2 then fX10_shift_188 49 (s : Int) a2 (r : Int) a4 a5 FU 0 q4.2 else fX10_shift_142 49 (s : Int) a2 (r : Int) a4 a5 FU (i_sub a5 1) q4.2 else fX10_shift_188 49 (s : Int) a2 (r : Int) a4 a5 FU 0 q4.2 else some (-13, q4.2) else some (-12, q4.2)) = if (0 ≤ a2 ∧ 0 ≤ a5 ∧ a2 + a5 ≤ σ 73 s) ∧ (0 ≤ a4 ∧ 0 ≤ a5 ∧ a4 + a5 ≤ σ 73 r) then (if (s : Int) = (r : Int) ∧ ¬ a4 ≤ a2 then fX10_shift_142 49 (s : Int) a2 (r : Int) a4 a5 FU (i_sub a5 1) τ else fX10_shift_188 49 (s : Int) a2 (r : Int) a4 a5 FU 0 τ) else some (-13, τ) := by
    intro τ h72 h73
    rw [isRow_eq hs, h72, if_neg p1', if_neg p2', if_pos w1, b1]
    dsimp only
    rw [isRow_eq hr, h72, if_pos w2, b1]
    dsimp only
    simp only [h72, h73]
    rw [if_pos e72]
    unfold ok32 at ha2 ha4 ha5
    have x2 : c_i2l a2 = a2 := i2l_ok (ok_in (by omega) (by omega))
    have x4 : c_i2l a4 = a4 := i2l_ok (ok_in (by omega) (by omega))
    have x5 : c_i2l a5 = a5 := i2l_ok (ok_in (by omega) (by omega))
    have y1 : c_i2l (σ 73 s) = σ 73 s := i2l_ok (ok_in (by omega) (by omega))
    have y2 : c_i2l (σ 73 r) = σ 73 r := i2l_ok (ok_in (by omega) (by omega))
    rw [x2, x4, x5, y1, y2, la (ok_in64 (by omega) (by omega)), la (ok_in64 (by omega) (by omega))]
    by_cases n5 : a5 < 0
    · rw [if_pos n5, if_neg (by omega)]
    rw [if_neg n5]
    by_cases n2 : a2 < 0
    · rw [if_pos n2, if_neg (by omega)]
    rw [if_neg n2]
    by_cases n4 : a4 < 0
    · rw [if_pos n4, if_neg (by omega)]
    rw [if_neg n4]
    by_cases n6 : a2 + a5 ≤ σ 73 s
    case neg => rw [if_pos (lc_gt.mpr (by omega)), if_neg (by omega)]
    rw [if_neg (fun z => by have := lc_gt.mp z; omega)]
    by_cases n7 : a4 + a5 ≤ σ 73 r
    case neg => rw [if_neg (fun z => n7 (lc_le.mp z)), if_neg (by omega)]
    rw [if_pos (lc_le.mpr n7), if_pos (show (0 ≤ a2 ∧ 0 ≤ a5 ∧ a2 + a5 ≤ σ 73 s) ∧ (0 ≤ a4 ∧ 0 ≤ a5 ∧ a4 + a5 ≤ σ 73 r) by omega)]
    by_cases n8 : (s : Int) = (r : Int)
    · rw [if_pos n8]
      by_cases n9 : a4 ≤ a2
      · rw [if_pos n9, if_neg (fun z => z.2 n9)]
      · rw [if_neg n9, if_pos ⟨n8, n9⟩]
    · rw [if_neg n8, if_neg (fun z => n8 z.1)]
  rw [hasRunN ha2 (by omega) (by omega), k2]
  by_cases q1 : 0 ≤ a2 ∧ 0 ≤ a5 ∧ a2 + a5 ≤ σ 73 s
  case neg =>
    rw [if_neg q1, b0]
    exact ⟨-13, σ, σ, rfl, by rw [mod σ rfl rfl, if_neg (fun z => q1 z.1)], hI⟩
  rw [if_pos q1, b1]
  dsimp only
  rw [hasRunN ha4 (by omega) (by omega), l2]
  by_cases q2 : 0 ≤ a4 ∧ 0 ≤ a5 ∧ a4 + a5 ≤ σ 73 r
  case neg =>
    rw [if_neg q2, b0]
    exact ⟨-13, σ, σ, rfl, by rw [mod σ rfl rfl, if_neg (fun z => q2 z.2)], hI⟩
  rw [if_pos q2, b1]
  dsimp only
  rw [if_pos ⟨by omega, by omega, by omega, by omega, by omega⟩]
  obtain ⟨i, rfl⟩ : ∃ i : Nat, a2 = (i : Int) := ⟨a2.toNat, by omega⟩
  obtain ⟨j, rfl⟩ : ∃ j : Nat, a4 = (j : Int) := ⟨a4.toNat, by omega⟩
  obtain ⟨N, rfl⟩ : ∃ N : Nat, a5 = (N : Int) := ⟨a5.toNat, by omega⟩
  simp only [Int.toNat_natCast]
  obtain ⟨ρ, eρ⟩ : ∃ ρ : St, ρ = cpy σ (38 + 2 * s) i (38 + 2 * r) j N := ⟨_, rfl⟩
  rw [← eρ]
  have o1 : ∀ c, c ≠ 38 + 2 * r → ρ c = σ c := fun c hc => by rw [eρ, cpy_ne hc]
  have o2 : ∀ p : Nat, ρ (38 + 2 * r) p = if j ≤ p ∧ p < j + N then σ (38 + 2 * s) (i + (p - j)) else σ (38 + 2 * r) p := fun p => by
    rw [eρ]
    unfold cpy upc
    rw [if_pos rfl]
  have key : ∃ ω : St, (if (s : Int) = (r : Int) ∧ ¬ (j : Int) ≤ (i : Int) then fX10_shift_142 49 (s : Int) (i : Int) (r : Int) (j : Int) (N : Int) FU (i_sub (N : Int) 1) ρ else fX10_shift_188 49 (s : Int) (i : Int) (r : Int) (j : Int) (N : Int) FU 0 ρ) = some ((N : Int), ω) ∧ (∀ p : Nat, ω 74 p = shR (σ 74) (60 * s + i) (60 * r + j) 0 N p) ∧ Same ρ ω (fun d => d ≠ 74) := by
    have r74 : ρ 74 = σ 74 := o1 74 (by omega)
    by_cases z : (s : Int) = (r : Int) ∧ ¬ (j : Int) ≤ (i : Int)
    · have e : r = s := by omega
      subst e
      rw [if_pos z, isb (ok_in (by omega) (by omega))]
      exact shDn hs (by omega) (by omega) (by omega) (σ 74) N FU ρ (Nat.le_refl _) (by unfold FU; omega) (fun p => by
        rw [r74]
        unfold shR
        rw [if_neg (by omega)])
    · rw [if_neg z]
      exact shUp hs hr (by omega) (by omega) (by omega) (σ 74) N FU 0 ρ (by omega) (by unfold FU; omega) (fun p => by
        rw [r74]
        unfold shR
        rw [if_neg (by omega)])
  obtain ⟨ω, f1, g1, s1⟩ := key
  refine ⟨(N : Int), ρ, ω, rfl, ?_, ?_⟩
  · rw [mod ρ (o1 72 (by omega)) (o1 73 (by omega)), if_pos ⟨q1, q2⟩, f1]
  · have ag : ∀ c j : Nat, ¬ (c = 38 + 2 * r ∨ c = 74) → ω c j = σ c j := fun c j hc => by rw [s1 c (by omega), o1 c (by omega)]
    refine ⟨h, HC1.keep (fun c j q => ag c j (by unfold pH1 at q; omega)) c1, HM.keep (fun c j q => ag c j (by unfold pHM at q; omega)) c2, c3, i1.keep (fun c j q => ag c j (by unfold pImg at q; omega)) (Nat.le_refl _) (Nat.le_refl _), i2.keep (fun c j q => ag c j (by unfold pLed at q; omega)), i3.keep (fun c j q => ag c j (by unfold pChg at q; omega)) (Nat.le_refl _) (Nat.le_refl _), i4.keep (fun c j q => ag c j (by unfold pTape at q; omega)), i5.keep (fun c j q => ag c j (by unfold pLots at q; omega)), fun w hw => ?_, i7.keep (fun c j q => ag c j (by unfold pLaw at q; omega))⟩
    have k := i6 w hw
    unfold InvShelf at *
    rw [ag (37 + 2 * w) 1 (by omega), ag (37 + 2 * w) 2 (by omega), ag (37 + 2 * w) 3 (by omega), ag (37 + 2 * w) 4 (by omega), ag 72 w (by omega), ag 73 w (by omega), ag 32 2 (by omega)]
    refine ⟨k.1, k.2.1, k.2.2.1, k.2.2.2.1, fun p hp => ?_⟩
    have e5 := k.2.2.2.2 p hp
    rw [g1]
    unfold shR
    by_cases z : w = r
    · subst z
      rw [s1 (38 + 2 * w) (by omega), o2 p]
      by_cases y : j ≤ p ∧ p < j + N
      · rw [if_pos y, if_pos (by omega)]
        have e6 := k5 (i + (p - j)) (by omega)
        rw [show 60 * s + i + (60 * w + p - (60 * w + j)) = 60 * s + (i + (p - j)) by omega]
        exact ⟨e6.1, fun q => e6.2 (by omega)⟩
      · rw [if_neg y, if_neg (by omega)]
        exact e5
    · rw [if_neg (by omega), ag (38 + 2 * w) p (by omega)]
      exact e5
