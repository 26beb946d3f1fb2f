/-! Sales by draws: drawn. -/
theorem ushr8 (x : Int) : 0 ≤ i_ushr x 8 ∧ i_ushr x 8 < 2147483648 := by
  unfold i_ushr
  have e : ((Int32.ofInt 8).toUInt32 &&& Int32.toUInt32 31) = 8 := by decide
  rw [e]
  have q : ∀ u : UInt32, 0 ≤ ((u >>> 8).toInt32).toInt ∧ ((u >>> 8).toInt32).toInt < 2147483648 := by
    intro u
    have h1 : (u >>> 8).toNat = u.toNat >>> 8 := by
      rw [UInt32.toNat_shiftRight]
      rfl
    have h2 : u.toNat < 4294967296 := u.toNat_lt
    have h3 : u.toNat >>> 8 < 16777216 := by
      rw [Nat.shiftRight_eq_div_pow]
      omega
    have h4 : ((u >>> 8).toInt32).toInt = ((u >>> 8).toNat : Int) := by
      show (u >>> 8).toBitVec.toInt = _
      rw [BitVec.toInt_eq_toNat_of_lt]
      · rfl
      · show 2 * (u >>> 8).toNat < 4294967296
        omega
    omega
  exact q _
theorem rem_in {x : Int} {n : Nat} (h0 : 0 ≤ x) (h1 : x < 2147483648) (hn : 0 < n) (h7 : n ≤ 7) : ∃ b : Nat, b < n ∧ i_rem x (n : Int) = (b : Int) := by
  have e := irm (x := x) (y := (n : Int)) (ok_in (by omega) (by omega)) (ok_in (by omega) (by omega)) (by omega)
  have a := Int.tmod_nonneg (n : Int) h0
  have b := Int.tmod_lt_of_pos x (show (0 : Int) < (n : Int) by omega)
  exact ⟨(x.tmod n).toNat, by omega, by omega⟩
theorem TR.slip {E : E6} {h0 h : Hs} {τ : St} {b : Nat} (T : TR E h0 h τ) (hb : b < h.2.1) : TR E h0 (setB h b 4 1) (up τ 10 9 (i_or (τ 10 9) (i_shl 1 (b : Int)))) := by
  obtain ⟨⟨k1, k2, k3⟩, ⟨w0, w1, l1, l2, l3, l4, l5⟩, ⟨x, x1, x2, x3⟩, ⟨o, o1, o2⟩, k7, k8, kn⟩ := T
  have z2 := w1.1.2
  have s : ∀ d, d ≠ 10 → up τ 10 9 (i_or (τ 10 9) (i_shl 1 (b : Int))) d = τ d := fun d hd => up_ne hd
  have fv : fitv h ((4 + 4 : Nat) : Int) 1 := Or.inr ⟨by decide, by decide, by decide⟩
  obtain ⟨y1, y2⟩ := bit_or_t x x1 b (by omega)
  refine ⟨⟨HC11.keep k1 (fun c hc => s c (by omega)), k2.keep k3 (fun c hc => s c (by omega)), by rw [s 4 (by decide)]; exact k3⟩, ⟨w0, wf_setB w1 hb (by decide) fv, ⟨l1, l2, l3, fun b' q hq => ?_, fun b' => ?_⟩⟩, ⟨x ||| (1 <<< b), y1, ?_, fun b' hb' => ?_⟩, ⟨o, ?_, o2⟩, fun b' hb' => ?_, fun b' hb' => ?_, fun b' k' n' a1 a2 a3 => ?_⟩
  · rw [l4 b' q hq]
    exact (up2_t (fun z => hq z.2)).symm
  · rw [show (setB h b 4 1).1 = h.1 from rfl, mis_setB]
    exact l5 b'
  · rw [up_get, if_pos ⟨rfl, rfl⟩, x2]
    exact bit_or x x1 b (by omega)
  · have hb2 : b' < h.2.1 := hb'
    have q := x3 b' hb2
    rw [y2 b' (by omega)]
    show (if b' = b ∧ 4 = 4 then (1 : Int) else h.2.2.2 b' 4) = 1 ↔ _
    by_cases z : b' = b
    · rw [if_pos ⟨z, rfl⟩]
      simp [z]
    · rw [if_neg (fun y => z y.1), q]
      simp [z]
  · rw [up_get, if_neg (by omega)]
    exact o1
  · rw [s 14 (by decide), k7 b' hb', show (setB h b 4 1).1 = h.1 from rfl, cnt_setB]
  · rw [s 15 (by decide), k8 b' hb', show (setB h b 4 1).1 = h.1 from rfl, mis_setB]
  · rw [s 16 (by decide), yrs_setB (Or.inr rfl)]
    exact kn b' k' n' a1 a2 a3
theorem TR.kn0 {E : E6} {h0 h : Hs} {τ : St} (T : TR E h0 h τ) : Kn E h0 τ := by
  obtain ⟨-, ⟨w0, w1, l1, l2, l3, l4, l5⟩, -, -, -, -, kn⟩ := T
  intro b k n x1 x2 x3
  rw [yrs_congr (h := h0) (g := h) (fun w _ h4 => l4 b w h4) (l5 b)]
  exact kn b k n (by omega) x2 x3
/-- the next z; whether one is drawn; who -/
abbrev Dr : Type := (Int → Int) × (Int → Bool) × (Int → Nat → Nat)
def DrOk (q : Dr) (below : Int) : Prop := (∀ z : Int, i_add (i_mul z 1103515245) 12345 = q.1 z) ∧ (∀ z : Int, q.2.1 z = true ↔ ¬ below ≤ i_rem (i_ushr z 16) 12) ∧ ∀ (z : Int) (n : Nat), 0 < n → n ≤ 7 → q.2.2 z n < n ∧ i_rem (i_ushr z 8) (n : Int) = ((q.2.2 z n : Nat) : Int)
theorem dr_ex (below : Int) : ∃ q : Dr, DrOk q below := by
  refine ⟨(fun z => i_add (i_mul z 1103515245) 12345, fun z => !(decide (below ≤ i_rem (i_ushr z 16) 12)), fun z n => (i_rem (i_ushr z 8) (n : Int)).toNat), fun z => ?_, fun z => ?_, fun z n h0 h7 => ?_⟩
  · dsimp only
  · dsimp only
    by_cases a : below ≤ i_rem (i_ushr z 16) 12
    · simp [a]
    · simp [a]
  · dsimp only
    obtain ⟨u1, u2⟩ := ushr8 z
    obtain ⟨b, b1, b2⟩ := rem_in u1 u2 h0 h7
    rw [b2, Int.toNat_natCast]
    exact ⟨b1, rfl⟩
def sl (q : Dr) (z : Int) (h : Hs) : Hs := if h.2.1 = 0 then h else if q.2.1 z = true then setB h (q.2.2 z h.2.1) 4 1 else h
noncomputable def dz (E : E6) (R : Nat → Int) (q : Dr) (z : Int) (h : Hs) : Nat → Int × Hs
  | 0 => (z, h)
  | k + 1 => (q.1 (dz E R q z h k).1, (goesP E (sl q (q.1 (dz E R q z h k).1) (dz E R q z h k).2) (R k).toNat).2)
noncomputable def dw (E : E6) (R : Nat → Int) (q : Dr) (z : Int) (h : Hs) (k : Nat) : Int := (goesP E (sl q (q.1 (dz E R q z h k).1) (dz E R q z h k).2) (R k).toNat).1
noncomputable def dc (E : E6) (R : Nat → Int) (q : Dr) (z : Int) (h : Hs) (g : Int) : Nat → Int
  | 0 => 0
  | k + 1 => dc E R q z h g k + if dw E R q z h k = g then 1 else 0
theorem dc_le (E : E6) (R : Nat → Int) (q : Dr) (z : Int) (h : Hs) (g : Int) : ∀ k : Nat, 0 ≤ dc E R q z h g k ∧ dc E R q z h g k ≤ (k : Int)
  | 0 => ⟨Int.le_refl _, Int.le_refl _⟩
  | k + 1 => by
    have := dc_le E R q z h g k
    unfold dc
    split <;> omega
theorem sl_pk (q : Dr) (z : Int) (h : Hs) : Pk h (sl q z h) := by
  unfold sl
  split
  · exact Pk.refl h
  · split
    · exact Pk.setB (Or.inr (Or.inr rfl))
    · exact Pk.refl h
theorem dz_pk (E : E6) (R : Nat → Int) (q : Dr) (z : Int) (h : Hs) : ∀ k : Nat, Pk h (dz E R q z h k).2
  | 0 => Pk.refl h
  | k + 1 => ((dz_pk E R q z h k).trans (sl_pk _ _ _)).trans goesP_pk
theorem sl_cnt {q : Dr} {z : Int} {h : Hs} {x : Int} {n : Nat} : cnt (sl q z h) x n = cnt h x n := by
  unfold sl
  split
  · rfl
  · split
    · exact cnt_setB
    · rfl
theorem dz_cnt (E : E6) (R : Nat → Int) (q : Dr) (z : Int) (h : Hs) {N b : Nat} (hb : b < 7) (hR : ∀ j : Nat, j < N → 0 ≤ R j ∧ R j < (h.1 : Int)) : ∀ k : Nat, k ≤ N → cnt (dz E R q z h k).2 b h.1 = cnt h b h.1 + dc E R q z h b k
  | 0, _ => by
    show cnt h b h.1 = cnt h b h.1 + 0
    omega
  | k + 1, hk => by
    have ih := dz_cnt E R q z h hb hR k (by omega)
    have r := hR k (by omega)
    have p1 : (sl q (q.1 (dz E R q z h k).1) (dz E R q z h k).2).1 = h.1 := (sl_pk _ _ _).1.trans (dz_pk E R q z h k).1
    have c := cnt_goes (E := E) (h := sl q (q.1 (dz E R q z h k).1) (dz E R q z h k).2) (t := (R k).toNat) (b := b) (by rw [p1]; omega) hb
    rw [p1, sl_cnt, ih] at c
    show cnt (goesP E (sl q (q.1 (dz E R q z h k).1) (dz E R q z h k).2) (R k).toNat).2 b h.1 = cnt h b h.1 + (dc E R q z h b k + if dw E R q z h k = (b : Int) then 1 else 0)
    rw [c]
    show cnt h b h.1 + dc E R q z h b k + (if dw E R q z h k = (b : Int) then 1 else 0) = _
    omega
/-- a draw ahead of a sale, in the class and in the model -/
theorem draw9 {E : E6} {h0 h : Hs} {τ : St} {q : Dr} {below z : Int} (hq : DrOk q below) (T : TR E h0 h τ) {A : St → Option (Int × St)} : ∃ τ' : St, (if (τ 11 3) ≤ 0 then A τ else (if below ≤ (i_rem (i_ushr z 16) 12) then A τ else (if ¬ τ 11 3 = 0 then A (up τ 10 9 (i_or (τ 10 9) (i_shl 1 (i_rem (i_ushr z 8) (τ 11 3))))) else none))) = A τ' ∧ TR E h0 (sl q z h) τ' ∧ (∀ d, d ≠ 10 → τ' d = τ d) ∧ ∀ j, j ≠ 9 → τ' 10 j = τ 10 j := by
  have z2 := T.2.1.2.1.1.2
  have e3 : τ 11 3 = (h.2.1 : Int) := by
    have := T.1.1.2.1
    rw [this, T.2.1.2.2.2.1]
  rw [e3]
  unfold sl
  by_cases a : h.2.1 = 0
  · rw [if_pos a, if_pos (show ((h.2.1 : Nat) : Int) ≤ 0 by omega)]
    exact ⟨τ, rfl, T, fun _ _ => rfl, fun _ _ => rfl⟩
  rw [if_neg a, if_neg (show ¬ ((h.2.1 : Nat) : Int) ≤ 0 by omega)]
  by_cases b : below ≤ i_rem (i_ushr z 16) 12
  · rw [if_pos b, if_neg (fun y => (hq.2.1 z).mp y b)]
    exact ⟨τ, rfl, T, fun _ _ => rfl, fun _ _ => rfl⟩
  obtain ⟨q1, q2⟩ := hq.2.2 z h.2.1 (by omega) z2
  rw [if_neg b, if_pos ((hq.2.1 z).mpr b), if_pos (show ¬ ((h.2.1 : Nat) : Int) = 0 by omega), q2]
  exact ⟨_, rfl, T.slip q1, fun d hd => up_ne hd, fun j hj => by rw [up_get, if_neg (fun y => hj y.2)]⟩
theorem draw10 {E : E6} {h : Hs} {σ : St} {q : Dr} {below z : Int} (hq : DrOk q below) (M : MC E h σ) {A : St → Option (Int × St)} : ∃ σ' : St, (if (σ 49 5) ≤ 0 then A σ else (if below ≤ (i_rem (i_ushr z 16) 12) then A σ else (if ¬ σ 49 5 = 0 then if inb (i_add 28 (i_rem (i_ushr z 8) (σ 49 5))) 63 then A (up σ 54 (Int.toNat (i_add 28 (i_rem (i_ushr z 8) (σ 49 5)))) 1) else none else none))) = A σ' ∧ MC E (sl q z h) σ' ∧ Same σ σ' (fun d => d ≠ 54) := by
  have z2 := M.2.2.1.2
  have e3 : σ 49 5 = (h.2.1 : Int) := M.1.2.1
  rw [e3]
  unfold sl
  by_cases a : h.2.1 = 0
  · rw [if_pos a, if_pos (show ((h.2.1 : Nat) : Int) ≤ 0 by omega)]
    exact ⟨σ, rfl, M, fun _ _ => rfl⟩
  rw [if_neg a, if_neg (show ¬ ((h.2.1 : Nat) : Int) ≤ 0 by omega)]
  by_cases b : below ≤ i_rem (i_ushr z 16) 12
  · rw [if_pos b, if_neg (fun y => (hq.2.1 z).mp y b)]
    exact ⟨σ, rfl, M, fun _ _ => rfl⟩
  obtain ⟨q1, q2⟩ := hq.2.2 z h.2.1 (by omega) z2
  have e28 : i_add 28 ((q.2.2 z h.2.1 : Nat) : Int) = ((28 + q.2.2 z h.2.1 : Nat) : Int) := by
    rw [ia (ok_in (by omega) (by omega))]
    omega
  rw [if_neg b, if_pos ((hq.2.1 z).mpr b), if_pos (show ¬ ((h.2.1 : Nat) : Int) = 0 by omega), q2, e28, if_pos ⟨by omega, by omega⟩, Int.toNat_natCast]
  have fv : fitv h ((4 + 4 : Nat) : Int) 1 := Or.inr ⟨by decide, by decide, by decide⟩
  exact ⟨_, rfl, ⟨HM_B (w := 4) M.1 (by omega), M.2.1.keep (by rw [up_ne (by decide)]) (by rw [up_ne (by decide)]) (fun c h1 h2 => up_ne (by omega)), wf_setB M.2.2 q1 (by decide) fv⟩, fun d hd => up_ne hd⟩
theorem draws_l {E : E6} {h0 h : Hs} {s len N : Nat} {R : Nat → Int} {q : Dr} {x2 below z : Int} (hq : DrOk q below) (hs : s < 6) (hl : len ≤ 60) (hN : N ≤ 16) (hNl : N ≤ len) (hR : ∀ j : Nat, j < N → 0 ≤ R j ∧ R j < (h.1 : Int)) : ∀ (m n k : Nat) (τ : St), k + m = N → m < n → TR E h0 (dz E R q z h k).2 τ → CatC s R len τ → τ 10 7 = (N : Int) → (0 ≤ τ 10 10 ∧ τ 10 10 ≤ (k : Int)) → τ 10 11 = dc E R q z h 8 k → ∃ τ' : St, fX7_sellsByDraws_15 10 (37 + 2 * s) x2 below n (dz E R q z h k).1 (k : Int) τ = some ((dz E R q z h N).1, τ') ∧ TR E h0 (dz E R q z h N).2 τ' ∧ τ' 10 11 = dc E R q z h 8 N ∧ Same τ τ' (fun d => d ≠ 6 ∧ d ≠ 7 ∧ d ≠ 10 ∧ d ≠ 14 ∧ d ≠ 16 ∧ d ≠ 17 ∧ d ≠ 18)
  | 0, n + 1, k, τ, hm, _, T, c, e7, e10, e11 => by
    have ek : k = N := by omega
    subst ek
    unfold fX7_sellsByDraws_15
    rw [e7, if_pos (by omega)]
    exact ⟨τ, rfl, T, e11, fun _ _ => rfl⟩
  | m + 1, n + 1, k, τ, hm, hn, T, c, e7, e10, e11 => by
    have e9 : i_add (k : Int) 1 = ((k + 1 : Nat) : Int) := by
      rw [ia (ok_in (by omega) (by omega))]
      omega
    have r := hR k (by omega)
    have et : R k = (((R k).toNat : Nat) : Int) := by omega
    have u2 := dc_le E R q z h 8 k
    unfold fX7_sellsByDraws_15
    simp only [rfS, hq.1]
    rw [e7, if_neg (by omega)]
    obtain ⟨τ0, f0, T0, s0, s0'⟩ := draw9 (z := q.1 (dz E R q z h k).1) hq T (A := fX7_sellsByDraws_81 10 (37 + 2 * s) x2 below (fX7_sellsByDraws_15 10 (37 + 2 * s) x2 below n) (q.1 (dz E R q z h k).1) (k : Int))
    rw [f0]
    have e10' : τ0 10 10 = τ 10 10 := s0' 10 (by decide)
    have e11' : τ0 10 11 = τ 10 11 := s0' 11 (by decide)
    have c0 : CatC s R len τ0 := c.keep hs (fun d x y => s0 d (by omega))
    obtain ⟨τ1, f1, T1, g10, g11, g7, s1⟩ := sells_eq (t := (R k).toNat) T0 (by rw [(sl_pk _ _ _).1, (dz_pk E R q z h k).1]; omega) (by rw [e10']; exact ok_in (by omega) (by omega)) (by rw [e11', e11]; exact ok_in (by omega) (by omega))
    have f1' : fX7_sellsOne 10 (R k) τ0 = some (dw E R q z h k, τ1) := by
      rw [et]
      exact f1
    unfold fX7_sellsByDraws_81
    simp only [rfS, lnS]
    rw [at6 hs ⟨by omega, by rw [c0.1]; omega⟩ (by rw [c0.1]; omega), Option.bind_some]
    dsimp only
    rw [Int.toNat_natCast, c0.2 k (by omega), f1', Option.bind_some, if_pos ⟨by omega, by omega⟩, e9]
    dsimp only
    have ne18 : ∀ d : Nat, d ≠ 18 → up τ1 18 k (dw E R q z h k) d = τ1 d := fun d hd => up_ne hd
    have T2 : TR E h0 (dz E R q z h (k + 1)).2 (up τ1 18 k (dw E R q z h k)) := TR.keep (h := (dz E R q z h (k + 1)).2) T1 (fun c hc => ne18 c (by omega)) (by rw [ne18 10 (by decide)]) (by rw [ne18 10 (by decide)]) (fun b' k' n' x1 x2 x3 => by rw [ne18 16 (by decide)]; exact T1.2.2.2.2.2.2 b' k' n' x1 x2 x3)
    have g7' : τ1 10 7 = (N : Int) := by
      rw [g7, s0' 7 (by decide), e7]
    obtain ⟨τ2, f2, y1, y2, s2⟩ := draws_l (E := E) (h0 := h0) (R := R) (x2 := x2) (below := below) (z := z) hq hs hl hN hNl hR m n (k + 1) (up τ1 18 k (dw E R q z h k)) (by omega) (by omega) T2 (c0.keep hs (fun d h1 h2 => by rw [ne18 d (by omega), s1 d (by omega)])) (by rw [ne18 10 (by decide), g7']) (by rw [ne18 10 (by decide), g10, e10']; split <;> omega) (by rw [ne18 10 (by decide), g11, e11', e11]; rfl)
    exact ⟨τ2, f2, y1, y2, fun d hd => by rw [s2 d hd, ne18 d (by omega), s1 d (by omega), s0 d (by omega)]⟩
/-- round after round -/
noncomputable def rz (E : E6) (R : Nat → Int) (q : Dr) (z : Int) (h : Hs) (N : Nat) : Nat → Int
  | 0 => z
  | d + 1 => (dz E R q (rz E R q z h N d) h N).1
noncomputable def rs (E : E6) (R : Nat → Int) (q : Dr) (z : Int) (h : Hs) (N : Nat) (g : Int) : Nat → Int
  | 0 => 0
  | d + 1 => rs E R q z h N g d + dc E R q (rz E R q z h N d) h g N
theorem rs_le (E : E6) (R : Nat → Int) (q : Dr) (z : Int) (h : Hs) (N : Nat) (g : Int) (hN : N ≤ 16) : ∀ d : Nat, 0 ≤ rs E R q z h N g d ∧ rs E R q z h N g d ≤ 16 * (d : Int)
  | 0 => ⟨Int.le_refl _, Int.le_refl _⟩
  | d + 1 => by
    have := rs_le E R q z h N g hN d
    have := dc_le E R q (rz E R q z h N d) h g N
    unfold rs
    omega
/-- who is counted: pieces, or one -/
def tg (h : Hs) (x4 g : Int) : Prop := (x4 = -1 ∧ g = 8) ∨ ∃ b : Nat, b < h.2.1 ∧ x4 = (b : Int) ∧ g = (b : Int)
theorem drawn9 {E : E6} {h : Hs} {s len D : Nat} {R : Nat → Int} {q : Dr} {x1 x3 x4 below z g : Int} (hq : DrOk q below) (hs : s < 6) (hl : len ≤ 60) (hw : Wf h) (hg : tg h x4 g) (hD : D ≤ 30) (eD : i_div x3 100 = (D : Int)) (eb : i_rem x3 100 = below) : ∀ (m n i : Nat) (τ : St), i + m = D → m < n → HC 11 h τ → GC τ E → (τ 4 3 = 8 ∨ τ 4 3 = 9) → Kn E h τ → CatC s R len τ → ∃ τ' : St, fX9_drawn_90 0 x1 (s : Int) x3 x4 n (rz E R q z h (ctl R len h.1) i) (rs E R q z h (ctl R len h.1) g i) (i : Int) τ = some (rs E R q z h (ctl R len h.1) g D, τ') ∧ Same τ τ' (fun d => d ≠ 6 ∧ d ≠ 7 ∧ ¬ (10 ≤ d ∧ d ≤ 18))
  | 0, n + 1, i, τ, hm, _, _, _, _, _, _ => by
    have ei : i = D := by omega
    subst ei
    unfold fX9_drawn_90
    rw [eD, if_pos (by omega)]
    exact ⟨τ, rfl, fun _ _ => rfl⟩
  | m + 1, n + 1, i, τ, hm, hn, hc, hgc, h3, kn, cc => by
    have z2 := hw.1.2
    obtain ⟨r1, r2, r3⟩ := sh_rf s hs
    have ib : inb (s : Int) 6 := ⟨by omega, by omega⟩
    have e9 : i_add (i : Int) 1 = ((i + 1 : Nat) : Int) := by
      rw [ia (ok_in (by omega) (by omega))]
      omega
    obtain ⟨l1, l2⟩ := ctl_le (R := R) (len := len) (n := h.1)
    obtain ⟨τ1, f1, T1, -, e10, e11, s1⟩ := restarts_eq hc hgc h3 hw kn
    have cc1 : CatC s R len τ1 := cc.keep hs (fun d x y => s1 d (by omega))
    have o1 : ∀ d : Nat, d ≠ 10 → up τ1 10 7 ((ctl R len h.1 : Nat) : Int) d = τ1 d := fun d hd => up_ne hd
    have o2 : ∀ j : Nat, j ≠ 7 → up τ1 10 7 ((ctl R len h.1 : Nat) : Int) 10 j = τ1 10 j := fun j hj => by rw [up_get, if_neg (fun z => hj z.2)]
    have T2 : TR E h (dz E R q (rz E R q z h (ctl R len h.1) i) h 0).2 (up τ1 10 7 ((ctl R len h.1 : Nat) : Int)) := TR.keep (h := h) T1 (fun c hc => o1 c (by omega)) (o2 8 (by decide)) (o2 9 (by decide)) (fun b' k' n' x1 x2 x3 => by rw [o1 16 (by decide)]; exact T1.2.2.2.2.2.2 b' k' n' x1 x2 x3)
    obtain ⟨τ2, f2, y1, y2, s2⟩ := draws_l (E := E) (h0 := h) (h := h) (R := R) (x2 := rz E R q z h (ctl R len h.1) i) (below := below) (z := rz E R q z h (ctl R len h.1) i) hq hs hl l1 l2 (fun j hj => ctl_in hj) (ctl R len h.1) FU 0 _ (by omega) (by unfold FU; omega) T2 (cc1.keep hs (fun d h1 h2 => o1 d (by omega))) (by simp [up]) (by rw [o2 10 (by decide), e10]; decide) (by rw [o2 11 (by decide), e11]; rfl)
    have f2' : fX7_sellsByDraws_15 10 (37 + 2 * s) (rz E R q z h (ctl R len h.1) i) below FU (rz E R q z h (ctl R len h.1) i) 0 (up τ1 10 7 ((ctl R len h.1 : Nat) : Int)) = some (rz E R q z h (ctl R len h.1) (i + 1), τ2) := f2
    have sd : fX7_sellsByDraws 10 (37 + 2 * s) (rz E R q z h (ctl R len h.1) i) below τ1 = some (rz E R q z h (ctl R len h.1) (i + 1), τ2) := by
      unfold fX7_sellsByDraws
      rw [lengthOf_eq hs hl cc1 T1.1.1, Option.bind_some]
      exact f2'
    have sA : ∀ d, ¬ (d = 6 ∨ d = 7 ∨ (10 ≤ d ∧ d ≤ 18)) → τ2 d = τ d := fun d hd => by rw [s2 d (by omega), o1 d (by omega), s1 d (by omega)]
    have u1 := rs_le E R q z h (ctl R len h.1) g l1 i
    have u2 := dc_le E R q (rz E R q z h (ctl R len h.1) i) h g (ctl R len h.1)
    obtain ⟨τ3, f3, s3⟩ := drawn9 (E := E) (R := R) (x1 := x1) (z := z) hq hs hl hw hg hD eD eb m n (i + 1) τ2 (by omega) (by omega) y1.1.1 y1.1.2.1 y1.1.2.2 y1.kn0 (cc.keep hs (fun d x y => sA d (by omega)))
    refine ⟨τ3, ?_, fun d hd => by rw [s3 d hd, sA d (by omega)]⟩
    rw [← f3]
    have es : rs E R q z h (ctl R len h.1) g (i + 1) = rs E R q z h (ctl R len h.1) g i + dc E R q (rz E R q z h (ctl R len h.1) i) h g (ctl R len h.1) := rfl
    rw [es]
    conv => lhs; unfold fX9_drawn_90 fX9_drawn_125 fX9_drawn_178
    simp only [rfS, lnS, if_pos ib, Int.toNat_natCast, r1, e9, eb]
    rw [eD, if_neg (by omega), f1, Option.bind_some]
    rcases hg with ⟨x, y⟩ | ⟨b, hb, x, y⟩
    · rw [if_neg (by omega), sd, Option.bind_some, if_neg (by omega)]
      dsimp only
      rw [y2, y]
      rw [y] at u1 u2
      rw [ia (ok_in (by omega) (by omega))]
    · have jb : inb (b : Int) 7 := ⟨by omega, by omega⟩
      have d1 := T1.2.2.2.2.1 b (by omega)
      have d2 := y1.2.2.2.2.1 b (by omega)
      have d3 := dz_cnt E R q (rz E R q z h (ctl R len h.1) i) h (N := ctl R len h.1) (b := b) (by omega) (fun j hj => ctl_in hj) (ctl R len h.1) (Nat.le_refl _)
      have p1 := (dz_pk E R q (rz E R q z h (ctl R len h.1) i) h (ctl R len h.1)).1
      rw [p1, d3] at d2
      have cb := cnt_le h b h.1
      have z1 := hw.1.1
      rw [y] at u1 u2
      rw [x, if_pos (by omega), if_pos jb, sd, Option.bind_some, if_pos (by omega), if_pos jb, Int.toNat_natCast]
      dsimp only
      rw [d1, d2, isb (ok_in (by omega) (by omega)), show cnt h (b : Int) h.1 + dc E R q (rz E R q z h (ctl R len h.1) i) h (b : Int) (ctl R len h.1) - cnt h (b : Int) h.1 = dc E R q (rz E R q z h (ctl R len h.1) i) h (b : Int) (ctl R len h.1) by omega, y, ia (ok_in (by omega) (by omega))]
theorem drawn10i {E : E6} {h : Hs} {s len N : Nat} {R : Nat → Int} {q : Dr} {x1 x3 x4 below z g c0 dd : Int} {k89 : Int → Int → Int → Int → St → Option (Int × St)} (hq : DrOk q below) (hs : s < 6) (hN : N ≤ 16) (hg : tg h x4 g) (eb : i_rem x3 100 = below) (h01 : 0 ≤ c0 ∧ c0 ≤ 1000) (hR : ∀ j : Nat, j < N → 0 ≤ R j ∧ R j < (h.1 : Int)) : ∀ (m n i : Nat) (σ : St), i + m = N → m < n → MC E (dz E R q z h i).2 σ → CatM s R len σ → KP 75 h σ → ∃ σ' : St, fX10_drawn_101 49 x1 (s : Int) x3 x4 k89 n (dz E R q z h i).1 (c0 + dc E R q z h g i) (N : Int) dd (i : Int) σ = k89 (dz E R q z h N).1 (c0 + dc E R q z h g N) (N : Int) (i_add dd 1) σ' ∧ HM h σ' ∧ gS σ σ'
  | 0, n + 1, i, σ, hm, _, M, c, kp => by
    have ei : i = N := by omega
    subst ei
    obtain ⟨σ1, f1, k1, s1⟩ := backPk M.1 kp (dz_pk E R q z h i)
    unfold fX10_drawn_101
    rw [if_pos (by omega), f1, Option.bind_some]
    exact ⟨σ1, rfl, k1, fun d hd => s1 d (by omega)⟩
  | m + 1, n + 1, i, σ, hm, hn, M, c, kp => by
    have e9 : i_add (i : Int) 1 = ((i + 1 : Nat) : Int) := by
      rw [ia (ok_in (by omega) (by omega))]
      omega
    have r := hR i (by omega)
    have et : R i = (((R i).toNat : Nat) : Int) := by omega
    have u2 := dc_le E R q z h g i
    unfold fX10_drawn_101
    simp only [rfS, lnS, eb, hq.1]
    rw [if_neg (by omega)]
    obtain ⟨σ0, f0, M0, s0⟩ := draw10 (z := q.1 (dz E R q z h i).1) hq M (A := fX10_drawn_161 49 x1 (s : Int) x3 x4 k89 (fX10_drawn_101 49 x1 (s : Int) x3 x4 k89 n) (q.1 (dz E R q z h i).1) (c0 + dc E R q z h g i) (N : Int) dd (i : Int))
    rw [f0]
    have c0' : CatM s R len σ0 := c.keep (fun d hd => s0 d (by omega))
    obtain ⟨σ1, f1, M1, s1⟩ := goes10 (t := (R i).toNat) M0 (by rw [(sl_pk _ _ _).1, (dz_pk E R q z h i).1]; omega)
    have f1' : fX10_goes 49 (R i) σ0 = some (dw E R q z h i, σ1) := by
      rw [et]
      exact f1
    unfold fX10_drawn_161 fX10_drawn_189 fX10_drawn_195
    rw [told10 hs (by omega) (by omega), Option.bind_some]
    dsimp only
    rw [Int.toNat_natCast, c0'.2 i (by omega), f1', Option.bind_some, e9]
    dsimp only
    obtain ⟨σ2, f2, k2, s2⟩ := drawn10i (E := E) (h := h) (len := len) (R := R) (x1 := x1) (z := z) (dd := dd) (k89 := k89) hq hs hN hg eb h01 hR m n (i + 1) σ1 (by omega) (by omega) M1 (c0'.keep (fun d hd => s1 d (by omega))) (kp.keep (by rw [s1 75 (by decide), s0 75 (by decide)]))
    refine ⟨σ2, ?_, k2, fun d hd => by rw [s2 d hd, s1 d (by omega), s0 d (by omega)]⟩
    rw [← f2]
    have ed : dc E R q z h g (i + 1) = dc E R q z h g i + if dw E R q z h i = g then 1 else 0 := rfl
    rw [ed]
    have fin : (if dw E R q z h i = g then fX10_drawn_101 49 x1 (s : Int) x3 x4 k89 n (q.1 (dz E R q z h i).1) (i_add (c0 + dc E R q z h g i) 1) (N : Int) dd ((i + 1 : Nat) : Int) σ1 else fX10_drawn_101 49 x1 (s : Int) x3 x4 k89 n (q.1 (dz E R q z h i).1) (c0 + dc E R q z h g i) (N : Int) dd ((i + 1 : Nat) : Int) σ1) = fX10_drawn_101 49 x1 (s : Int) x3 x4 k89 n (dz E R q z h (i + 1)).1 (c0 + (dc E R q z h g i + if dw E R q z h i = g then 1 else 0)) (N : Int) dd ((i + 1 : Nat) : Int) σ1 := by
      by_cases y : dw E R q z h i = g
      · rw [if_pos y, if_pos y, ia (ok_in (by omega) (by omega)), Int.add_assoc]
        rfl
      · rw [if_neg y, if_neg y, Int.add_zero]
        rfl
    rw [← fin]
    rcases hg with ⟨x, y⟩ | ⟨b, hb, x, y⟩
    · rw [if_pos x, y]
    · rw [if_neg (by omega), x, y]
theorem drawn10 {E : E6} {h : Hs} {s len N D : Nat} {R : Nat → Int} {q : Dr} {x1 x3 x4 below z g : Int} (hq : DrOk q below) (hs : s < 6) (hN : N ≤ 16) (hg : tg h x4 g) (hD : D ≤ 30) (eD : i_div x3 100 = (D : Int)) (eb : i_rem x3 100 = below) (hR : ∀ j : Nat, j < N → 0 ≤ R j ∧ R j < (h.1 : Int)) : ∀ (m n i : Nat) (σ : St), i + m = D → m < n → MC E h σ → CatM s R len σ → KP 75 h σ → ∃ σ' : St, fX10_drawn_89 49 x1 (s : Int) x3 x4 n (rz E R q z h N i) (rs E R q z h N g i) (N : Int) (i : Int) σ = some (rs E R q z h N g D, σ') ∧ HM h σ' ∧ gS σ σ'
  | 0, n + 1, i, σ, hm, _, M, _, _ => by
    have ei : i = D := by omega
    subst ei
    unfold fX10_drawn_89
    rw [eD, if_pos (by omega)]
    exact ⟨σ, rfl, M.1, fun _ _ => rfl⟩
  | m + 1, n + 1, i, σ, hm, hn, M, c, kp => by
    have e9 : i_add (i : Int) 1 = ((i + 1 : Nat) : Int) := by
      rw [ia (ok_in (by omega) (by omega))]
      omega
    have u1 := rs_le E R q z h N g hN i
    unfold fX10_drawn_89
    rw [eD, if_neg (by omega)]
    obtain ⟨σ1, f1, k1, s1⟩ := drawn10i (E := E) (h := h) (len := len) (R := R) (x1 := x1) (z := rz E R q z h N i) (dd := (i : Int)) (c0 := rs E R q z h N g i) (k89 := fX10_drawn_89 49 x1 (s : Int) x3 x4 n) hq hs hN hg eb ⟨u1.1, by omega⟩ hR N FU 0 σ (by omega) (by unfold FU; omega) M c kp
    have f1' : fX10_drawn_101 49 x1 (s : Int) x3 x4 (fX10_drawn_89 49 x1 (s : Int) x3 x4 n) FU (rz E R q z h N i) (rs E R q z h N g i) (N : Int) (i : Int) 0 σ = fX10_drawn_89 49 x1 (s : Int) x3 x4 n (rz E R q z h N (i + 1)) (rs E R q z h N g (i + 1)) (N : Int) (i_add (i : Int) 1) σ1 := by
      have e0 : rs E R q z h N g i + dc E R q (rz E R q z h N i) h g 0 = rs E R q z h N g i := Int.add_zero _
      rw [e0] at f1
      exact f1
    rw [f1', e9]
    have M1 : MC E h σ1 := ⟨k1, M.2.1.keep (by rw [s1 49 (by decide)]) (by rw [s1 49 (by decide)]) (fun c h1 h2 => s1 c (by omega)), M.2.2⟩
    obtain ⟨σ2, f2, k2, s2⟩ := drawn10 (E := E) (h := h) (len := len) (R := R) (x1 := x1) (z := z) hq hs hN hg hD eD eb hR m n (i + 1) σ1 (by omega) (by omega) M1 (c.keep (fun d hd => s1 d (by omega))) (kp.keep (s1 75 (by decide)))
    exact ⟨σ2, f2, k2, fun d hd => by rw [s2 d hd, s1 d hd]⟩
theorem dv100 {x : Int} (h0 : 0 ≤ x) (hx : ok32 x) : i_div x 100 = x / 100 ∧ i_rem x 100 = x % 100 := by
  refine ⟨?_, ?_⟩
  · rw [idv hx (ok_in (by decide) (by decide)) (by decide), Int.tdiv_eq_ediv_of_nonneg h0]
  · rw [irm hx (ok_in (by decide) (by decide)) (by decide), Int.tmod_eq_emod_of_nonneg h0]
theorem ag_drawn (a1 : Int) (a2 : Int) (a3 : Int) (a4 : Int) (ha1 : ok32 a1) (ha2 : ok32 a2) (ha3 : ok32 a3) (ha4 : ok32 a4) : Ag (fun σ => fX9_drawn 0 a1 a2 a3 a4 σ) (fun σ => fX10_drawn 49 a1 a2 a3 a4 σ) := by
  intro σ hI
  obtain ⟨h, c1, c2, c3, i1, i2, i3, i4, i5, i6, i7⟩ := id hI
  have z2 := c3.1.2
  dsimp only
  unfold fX9_drawn fX10_drawn
  simp only [rfS]
  rw [sh9]
  by_cases a : 0 ≤ a2 ∧ a2 < 6
  case neg =>
    rw [if_neg a, b0]
    exact ⟨-1, σ, σ, rfl, by rw [sh10, if_neg a, b0], hI⟩
  rw [if_pos a, b1]
  simp only [sh10, if_pos a, b1]
  by_cases n0 : a3 < 0
  · rw [if_pos (by omega)]
    exact ⟨-1, σ, σ, rfl, by rw [if_pos n0], hI⟩
  obtain ⟨d1, d2⟩ := dv100 (by omega) ha3
  rw [d1, d2]
  by_cases n1 : a3 < 100
  · rw [if_pos n1]
    exact ⟨-1, σ, σ, rfl, by rw [if_neg n0, within_eq, if_neg (by omega), b0], hI⟩
  rw [if_neg n1]
  by_cases n2 : 30 < a3 / 100
  · rw [if_pos n2]
    exact ⟨-1, σ, σ, rfl, by rw [if_neg n0, within_eq, if_neg (by omega), b0], hI⟩
  rw [if_neg n2]
  have wi : ∀ τ : St, fX10_within (a3 / 100) 1 30 τ = some (1, τ) := fun τ => by rw [within_eq, if_pos (by omega)]
  by_cases n3 : 12 < a3 % 100
  · rw [if_pos n3]
    exact ⟨-1, σ, σ, rfl, by rw [if_neg n0, wi, b1, if_pos n3], hI⟩
  rw [if_neg n3]
  -- one unknown, or known
  by_cases kn : a4 = -1 ∨ (0 ≤ a4 ∧ a4 < (h.2.1 : Int))
  case neg =>
    rw [if_neg (by omega), hasBidder_eq c1, if_neg (by omega), b0]
    refine ⟨-1, σ, σ, rfl, ?_, hI⟩
    rw [if_neg n0, wi, b1, if_neg n3, if_neg (by omega)]
    dsimp only
    rw [isOne_eq c2 c3.1, if_neg (by omega), b0]
  obtain ⟨g, hg⟩ : ∃ g : Int, tg h a4 g := by
    rcases kn with q | q
    · exact ⟨8, Or.inl ⟨q, rfl⟩⟩
    · exact ⟨a4, Or.inr ⟨a4.toNat, by omega, by omega, by omega⟩⟩
  have e9 : (if a4 = -1 then fX9_drawn_51 0 a1 a2 a3 a4 σ else Option.bind (fX2_hasBidder 1 a4 σ) fun q2 => if q2.1 = 0 then some (-1, q2.2) else fX9_drawn_51 0 a1 a2 a3 a4 q2.2) = fX9_drawn_51 0 a1 a2 a3 a4 σ := by
    by_cases q : a4 = -1
    · rw [if_pos q]
    · rw [if_neg q, hasBidder_eq c1, if_pos (by omega), b1]
  have e10 : ∀ τ : St, HM h τ → (if a3 < 0 then some ((-1 : Int), τ) else Option.bind (fX10_within (a3 / 100) 1 30 τ) fun q2 => if q2.1 = 0 then some (-1, q2.2) else if 12 < a3 % 100 then some (-1, q2.2) else if a4 = -1 then fX10_drawn_50 49 a1 a2 a3 a4 q2.2 else Option.bind (fX10_isOne 49 a4 q2.2) fun q3 => if q3.1 = 0 then some (-1, q3.2) else fX10_drawn_50 49 a1 a2 a3 a4 q3.2) = fX10_drawn_50 49 a1 a2 a3 a4 τ := by
    intro τ hm
    rw [if_neg n0, wi, b1, if_neg n3]
    by_cases q : a4 = -1
    · rw [if_pos q]
    · rw [if_neg q]
      dsimp only
      rw [isOne_eq hm c3.1, if_pos (by omega), b1]
  have e9' : ∀ r : Option (Int × St), fX9_drawn_51 0 a1 a2 a3 a4 σ = r → (if a4 = -1 then fX9_drawn_51 0 a1 a2 a3 a4 σ else Option.bind (fX2_hasBidder 1 a4 σ) fun q2 => if q2.1 = 0 then some (-1, q2.2) else fX9_drawn_51 0 a1 a2 a3 a4 q2.2) = r := fun r hr => e9.trans hr
  obtain ⟨s, hs, rfl⟩ : ∃ s : Nat, s < 6 ∧ a2 = (s : Int) := ⟨a2.toNat, by omega, by omega⟩
  obtain ⟨r1, r2, r3⟩ := sh_rf s hs
  have ib : inb (s : Int) 6 := ⟨by omega, by omega⟩
  have f51 : fX9_drawn_51 0 a1 (s : Int) a3 a4 σ = Option.bind (fX6_refusesBytes (37 + 2 * s) σ) fun q2 => if q2.1 = 0 then (Option.bind (fX7_begin 10 1 q2.2) fun q3 => fX9_drawn_90 0 a1 (s : Int) a3 a4 FU a1 0 0 q3) else (some (q2.1, q2.2)) := by
    unfold fX9_drawn_51
    simp only [rfS, lnS, if_pos ib, Int.toNat_natCast, r1]
  rw [refB9 (i6 s hs), Option.bind_some] at f51
  by_cases d : refB σ s = 0
  case neg =>
    have := refB_in σ s
    rw [if_neg d] at f51
    refine ⟨refB σ s, σ, σ, e9' _ f51, ?_, hI⟩
    rw [e10 σ c2]
    unfold fX10_drawn_50
    rw [refB10 hs, Option.bind_some, if_neg (by omega)]
  rw [if_pos d] at f51
  obtain ⟨R, len, hl, cc, cm⟩ := cat_of (i6 s hs)
  obtain ⟨E, τ, f, T, m, -, t10, t11, sτ⟩ := think c1 c2 c3 i7
  dsimp only at f51
  rw [f, Option.bind_some] at f51
  obtain ⟨q, hq⟩ := dr_ex (a3 % 100)
  obtain ⟨D, hD, eD⟩ : ∃ D : Nat, D ≤ 30 ∧ a3 / 100 = (D : Int) := ⟨(a3 / 100).toNat, by omega, by omega⟩
  obtain ⟨l1, l2⟩ := ctl_le (R := R) (len := len) (n := h.1)
  obtain ⟨τ1, f1, s1⟩ := drawn9 (E := E) (R := R) (x1 := a1) (z := a1) hq hs hl c3 hg hD (d1.trans eD) d2 D FU 0 τ (by omega) (by unfold FU; omega) T.1.1 T.1.2.1 T.1.2.2 T.kn0 (cc.keep hs (fun d x y => sτ d (by omega)))
  have f1' : fX9_drawn_90 0 a1 (s : Int) a3 a4 FU a1 0 0 τ = _ := f1
  rw [f1'] at f51
  have sA : ∀ d, ¬ (d = 6 ∨ d = 7 ∨ (10 ≤ d ∧ d ≤ 18)) → τ1 d = σ d := fun d hd => by rw [s1 d (by omega), sτ d (by omega)]
  have m1 : MC E h τ1 := m.keepC (fun d hd => s1 d (by omega))
  have d1' : refB τ1 s = 0 := by
    unfold refB
    rw [sA 72 (by omega)]
    exact d
  obtain ⟨τ2, f2, k2, s2⟩ := keeps_eq (c := 75) (by decide) rfl m1.1
  have m2 : MC E h τ2 := m1.keep (fun c j q => by rw [s2 c (by unfold pHM at q; omega)])
  have cm2 : CatM s R len τ2 := cm.keep (fun d hd => by rw [s2 d (by omega), sA d (by omega)])
  obtain ⟨τ3, f3, k3, s3⟩ := drawn10 (E := E) (h := h) (len := len) (N := ctl R len h.1) (R := R) (x1 := a1) (z := a1) hq hs l1 hg hD (d1.trans eD) d2 (fun j hj => ctl_in hj) D FU 0 τ2 (by omega) (by unfold FU; omega) m2 cm2 k2
  have f3' : fX10_drawn_89 49 a1 (s : Int) a3 a4 FU a1 0 ((ctl R len h.1 : Nat) : Int) 0 τ2 = _ := f3
  refine ⟨_, τ1, τ3, e9' _ f51, ?_, ?_⟩
  · rw [e10 τ1 m1.1]
    unfold fX10_drawn_50
    simp only [rfS]
    rw [refB10 hs, Option.bind_some, d1', if_pos (show (0 : Int) ≤ 0 by decide)]
    dsimp only
    rw [f2, Option.bind_some, listed_eq hs hl cm2 m2.1 c3.1, Option.bind_some]
    exact f3'
  · exact inv_end ⟨c1, c3, i1, i2, i3, i4, i5, i6, i7⟩ k3 (fun c j q => by rw [s3 c (by unfold scr at q; omega), s2 c (by unfold scr at q; omega), sA c (by unfold scr at q; omega)])
