/-! Things dealt so that all are missed longest: dealt. -/
theorem ldv {x y : Int} (hx : ok64 x) (hy : ok64 y) (h1 : y ≠ -1) : l_div x y = x.tdiv y := by
  unfold l_div
  rw [Int64.toInt_div_of_ne_right _ _ (fun e => h1 (by have := congrArg Int64.toInt e; rw [toInt_of64 hy] at this; exact this)), toInt_of64 hx, toInt_of64 hy]
theorem ok_tdiv64 {x y : Int} (h0 : 0 ≤ x) (hx : ok64 x) (hy : 0 < y) : ok64 (x.tdiv y) := by
  unfold ok64 at *
  have h1 := Int.tdiv_nonneg h0 (Int.le_of_lt hy)
  have h2 := Int.tdiv_le_self y h0
  omega
theorem lrm {x y : Int} (h0 : 0 ≤ x) (hx : ok64 x) (hy : ok64 y) (hp : 0 < y) : l_rem x y = x.tmod y := by
  unfold l_rem
  have e1 : Int64.ofInt x / Int64.ofInt y = Int64.ofInt (x.tdiv y) := by
    rw [← Int64.toInt_inj, toInt_of64 (ok_tdiv64 h0 hx hp)]
    exact ldv hx hy (by omega)
  rw [e1, ← Int64.ofInt_mul, ← Int64.ofInt_sub]
  have e2 : x - x.tdiv y * y = x.tmod y := by
    have := Int.tmod_add_mul_tdiv x y
    rw [Int.mul_comm] at this
    omega
  rw [e2]
  apply toInt_of64
  unfold ok64 at *
  have h1 := Int.tmod_lt_of_pos x hp
  have := Int.tmod_nonneg y h0
  omega
theorem cod_split {f : Nat → Int} {n : Nat} : ∀ k : Nat, n + k ≤ 7 → (∀ j : Nat, j < n + k → 0 ≤ f j ∧ f j ≤ 8) → cod n f ≤ cod (n + k) f ∧ cod (n + k) f + qt (n + k) ≤ cod n f + qt n
  | 0, _, _ => ⟨Int.le_refl _, Int.le_refl _⟩
  | k + 1, hk, h => by
    have ih := cod_split (f := f) (n := n) k (by omega) (fun j hj => h j (by omega))
    obtain ⟨q1, q2, q3, -⟩ := qt_f (n + k) (by omega)
    have d := h (n + k) (by omega)
    have w := mulw (x := 8 - f (n + k)) (k := n + k) (by omega) (by omega) (by omega)
    have e : cod (n + (k + 1)) f = cod (n + k) f + (8 - f (n + k)) * wt (n + k) := rfl
    have e2 : qt (n + (k + 1)) = qt (n + k + 1) := rfl
    rw [e, e2]
    omega
theorem cod_dvd {f : Nat → Int} : ∀ b : Nat, b ≤ 7 → ∃ c : Int, cod b f = c * qt b
  | 0, _ => ⟨0, by rw [Int.zero_mul]; rfl⟩
  | b + 1, hb => by
    obtain ⟨c, hc⟩ := cod_dvd (f := f) b (by omega)
    obtain ⟨q1, q2, -, -⟩ := qt_f b (by omega)
    refine ⟨c * 9 + (8 - f b), ?_⟩
    show cod b f + (8 - f b) * wt b = _
    rw [hc, q2, q1, Int.add_mul, Int.mul_assoc]
theorem y_dvd : ∀ b : Nat, b < 8 → ∃ y : Fin 4782970, (4782969 : Int) = (y.1 : Int) * qt b := by
  intro b hb
  have : b = 0 ∨ b = 1 ∨ b = 2 ∨ b = 3 ∨ b = 4 ∨ b = 5 ∨ b = 6 ∨ b = 7 := by omega
  rcases this with rfl | rfl | rfl | rfl | rfl | rfl | rfl | rfl
  · exact ⟨⟨1, by omega⟩, by decide⟩
  · exact ⟨⟨9, by omega⟩, by decide⟩
  · exact ⟨⟨81, by omega⟩, by decide⟩
  · exact ⟨⟨729, by omega⟩, by decide⟩
  · exact ⟨⟨6561, by omega⟩, by decide⟩
  · exact ⟨⟨59049, by omega⟩, by decide⟩
  · exact ⟨⟨531441, by omega⟩, by decide⟩
  · exact ⟨⟨4782969, by omega⟩, by decide⟩
/-- the digit of a bidder -/
theorem digit {nb b : Nat} {f : Nat → Int} {s A : Int} (hn : nb ≤ 7) (hb : b < nb) (hd : dig nb f) (eA : A = s * 4782969 + cod nb f) : A / wt b % 9 = 8 - f b := by
  obtain ⟨q1, q2, q3, -⟩ := qt_f b (by omega)
  obtain ⟨c, hc⟩ := cod_dvd (f := f) b (by omega)
  obtain ⟨y, hy⟩ := y_dvd b (by omega)
  have sp := cod_split (f := f) (n := b + 1) (nb - (b + 1)) (by omega) (fun j hj => hd j (by omega))
  rw [show b + 1 + (nb - (b + 1)) = nb by omega] at sp
  have e : cod (b + 1) f = cod b f + (8 - f b) * wt b := rfl
  have d := hd b hb
  have qn := qt_1 nb (by omega)
  rw [e, hc] at sp
  have e2 : s * 4782969 = s * (y.1 : Int) * qt b := by rw [hy, Int.mul_assoc]
  rw [eA, e2]
  obtain ⟨r, hr⟩ : ∃ r : Int, cod nb f = c * qt b + (8 - f b) * wt b + r := ⟨cod nb f - (c * qt b + (8 - f b) * wt b), by omega⟩
  have hr0 : 0 ≤ r ∧ r < wt b := by
    rw [q2] at sp
    omega
  rw [hr, q1]
  have e3 : s * (y.1 : Int) * (9 * wt b) + (c * (9 * wt b) + (8 - f b) * wt b + r) = r + ((s * (y.1 : Int) + c) * 9 + (8 - f b)) * wt b := by
    rw [Int.add_mul ((s * (y.1 : Int) + c) * 9) (8 - f b) (wt b), Int.mul_assoc (s * (y.1 : Int) + c) 9 (wt b), Int.add_mul (s * (y.1 : Int)) c (9 * wt b)]
    omega
  rw [e3, Int.add_mul_ediv_right _ _ (by omega), Int.ediv_eq_zero_of_lt hr0.1 hr0.2]
  omega
theorem weigh_l {E : E6} {h : Hs} {b : Nat} (hb : b < h.2.1) (hw : Wf h) : ∀ (m f t : Nat) (τ : St), t + m = h.1 → m < f → TR E h h τ → (∀ u : Nat, u < t → τ 24 u = wth E h b u) → ∃ τ' : St, fX1_weigh_2 22 10 (b : Int) f (t : Int) τ = some τ' ∧ TR E h h τ' ∧ (∀ u : Nat, u < h.1 → τ' 24 u = wth E h b u) ∧ Same τ τ' (fun d => d ≠ 6 ∧ d ≠ 7 ∧ d ≠ 16 ∧ d ≠ 24)
  | 0, f + 1, t, τ, hm, _, T, hu => by
    have e2 : τ 11 2 = (h.1 : Int) := T.1.1.1
    unfold fX1_weigh_2
    simp only [rfS]
    rw [e2, if_pos (by omega)]
    exact ⟨τ, rfl, T, fun u hu2 => hu u (by omega), fun _ _ => rfl⟩
  | m + 1, f + 1, t, τ, hm, hf, T, hu => by
    have z1 := hw.1.1
    have z2 := hw.1.2
    have e2 : τ 11 2 = (h.1 : Int) := T.1.1.1
    have e9 : i_add (t : Int) 1 = ((t + 1 : Nat) : Int) := by
      rw [ia (ok_in (by omega) (by omega))]
      omega
    have ht : t < h.1 := by omega
    have k0 := (wf_T hw ht).1
    have c := cnt_le h b h.1
    have n0 : hnum h (t : Int) 0 = h.2.2.1 t 0 := hnum_T (w := 0) ht (by decide)
    have ho : isO 2 11 = true := by decide +kernel
    obtain ⟨τ1, f1, T1, s1⟩ := misses_eq (b := b) (k := (h.2.2.1 t 0).toNat) (n := (cnt h b h.1).toNat) T hb (by omega) (by omega)
    rw [show (((h.2.2.1 t 0).toNat : Nat) : Int) = h.2.2.1 t 0 by omega, show (((cnt h b h.1).toNat : Nat) : Int) = cnt h b h.1 by omega] at f1
    have f1' : fX7_misses 10 (b : Int) (h.2.2.1 t 0) (cnt h b h.1) τ = some (wm E h b t, τ1) := f1
    have w := wm_in E h b t
    have u := mulw (x := 8 - (t : Int)) (k := b) (by omega) (by omega) (by omega)
    have v := (qt_f b (by omega)).2.2
    have ew : l_add (l_mul (c_i2l (wm E h b t)) 4782969) (l_mul (c_i2l (i_sub 8 (t : Int))) (stv1.getD b 0)) = wth E h b t := by
      have e1 : stv1.getD b 0 = wt b := rfl
      rw [e1, i2l_ok (ok_in (by omega) (by omega)), isb (ok_in (by omega) (by omega)), i2l_ok (ok_in (by omega) (by omega)), lm (ok_in64 (by omega) (by omega)), lm (ok_in64 (by omega) (by omega)), la (ok_in64 (by omega) (by omega))]
      rfl
    unfold fX1_weigh_2
    simp only [rfS, lnS]
    rw [e2, if_neg (by omega), number_eq ho T.1.1 hw.1, Option.bind_some, n0, if_pos ⟨by omega, by omega⟩, Int.toNat_natCast]
    dsimp only
    rw [T.2.2.2.2.1 b (by omega), f1', Option.bind_some, if_pos ⟨by omega, by show (b : Int) < ((7 : Nat) : Int); omega⟩, if_pos ⟨by omega, by omega⟩, e9, Int.toNat_natCast]
    dsimp only
    rw [ew]
    have ne : ∀ d : Nat, d ≠ 24 → up τ1 24 t (wth E h b t) d = τ1 d := fun d hd => up_ne hd
    have T2 : TR E h h (up τ1 24 t (wth E h b t)) := T1.keep (fun c hc => ne c (by omega)) (by rw [ne 10 (by decide)]) (by rw [ne 10 (by decide)]) (fun b' k' n' x1 x2 x3 => by rw [ne 16 (by decide)]; exact T1.2.2.2.2.2.2 b' k' n' x1 x2 x3)
    obtain ⟨τ2, f2, T3, g3, s3⟩ := weigh_l hb hw m f (t + 1) _ (by omega) (by omega) T2 (fun q hq => by
      rw [up_get]
      by_cases z : q = t
      · rw [if_pos ⟨rfl, z⟩, z]
      · rw [if_neg (fun y => z y.2), s1 24 (by decide)]
        exact hu q (by omega))
    exact ⟨τ2, f2, T3, g3, fun d hd => by rw [s3 d hd, ne d hd.2.2.2, s1 d ⟨hd.1, hd.2.1, hd.2.2.1⟩]⟩
theorem bestOf_l {s : Nat} {τ : St} (hs : s < 256) (hb : ∀ t : Nat, t < 8 → s.testBit t = true → (0 ≤ τ 24 t ∧ τ 24 t ≤ 480000000) ∧ 0 ≤ τ 23 (clr s t) ∧ τ 23 (clr s t) ≤ 4000000000) : ∀ (k f t : Nat) (x : Int), t + k = 8 → k < f → fX1_bestOf_10 22 (s : Int) f x (t : Int) τ = some (fld (fun t x => if s.testBit t = true then m_maxl x (τ 24 t + τ 23 (clr s t)) else x) k t x, τ)
  | 0, f + 1, t, x, ht, _ => by
    unfold fX1_bestOf_10
    rw [if_pos (by omega)]
    rfl
  | k + 1, f + 1, t, x, ht, hf => by
    have e9 : i_add (t : Int) 1 = ((t + 1 : Nat) : Int) := by
      rw [ia (ok_in (by omega) (by omega))]
      omega
    have eo : i_and (s : Int) (i_xor (i_shl 1 (t : Int)) (-1)) = ((clr s t : Nat) : Int) := bit_out s hs t (by omega)
    have y1 := (bit_out_t s hs t (by omega)).1
    have y1' : clr s t < 256 := y1
    unfold fX1_bestOf_10 fX1_bestOf_52 fld
    simp only [rfS, lnS]
    rw [if_neg (by omega), bit_and s hs t (by omega), e9]
    by_cases z : s.testBit t = true
    · have q := hb t (by omega) z
      rw [if_pos z, if_neg (by decide), if_pos ⟨by omega, by omega⟩, eo, if_pos ⟨by omega, by omega⟩, Int.toNat_natCast, Int.toNat_natCast, la (ok_in64 (by omega) (by omega)), if_pos z]
      exact bestOf_l hs hb k f (t + 1) _ (by omega) (by omega)
    · rw [if_neg z, if_pos rfl, if_neg z]
      exact bestOf_l hs hb k f (t + 1) x (by omega) (by omega)
theorem fld_congr {f g : Nat → Int → Int} : ∀ (m t : Nat) (x : Int), (∀ u y, t ≤ u → u < t + m → f u y = g u y) → fld f m t x = fld g m t x
  | 0, _, _, _ => rfl
  | m + 1, t, x, h => by
    unfold fld
    rw [h t x (Nat.le_refl _) (by omega)]
    exact fld_congr m (t + 1) _ (fun u y h1 h2 => h u y (by omega) (by omega))
theorem dD_0 {E : E6} {h : Hs} : ∀ m b : Nat, dD E h m b 0 = 0
  | 0, _ => rfl
  | m + 1, b => by
    have e : ∀ (k t : Nat) (x : Int), fld (fun t x => if (0 : Nat).testBit t = true then m_maxl x (wth E h b t + dD E h m (b + 1) (clr 0 t)) else x) k t x = x := by
      intro k
      induction k with
      | zero => intro t x; rfl
      | succ k ih =>
        intro t x
        unfold fld
        rw [Nat.zero_testBit, if_neg (by decide)]
        exact ih (t + 1) x
    unfold dD
    rw [e, dD_0 m (b + 1)]
def Sub (u o : Nat) : Prop := u < 256 ∧ ∀ v : Nat, v < 8 → u.testBit v = true → o.testBit v = true
theorem sub_clr {u o t : Nat} (h : Sub u o) (ht : t < 8) : Sub (clr u t) o := by
  obtain ⟨y1, y2⟩ := bit_out_t u h.1 t ht
  refine ⟨y1, fun v hv hb => h.2 v hv ?_⟩
  have q1 : (clr u t).testBit v = (u.testBit v && !decide (v = t)) := y2 v hv
  rw [q1] at hb
  cases h3 : u.testBit v
  · rw [h3] at hb
    simp at hb
  · rfl
theorem sub_le {u o : Nat} (h : Sub u o) (ho : o < 256) : u ≤ o := by
  have e : u &&& o = u := by
    refine Nat.eq_of_testBit_eq (fun i => ?_)
    rw [Nat.testBit_and]
    by_cases hi : i < 8
    · cases h3 : u.testBit i
      · rfl
      · rw [h.2 i hi h3]
        rfl
    · have e1 : ∀ x : Nat, x < 256 → x.testBit i = false := fun x hx => Nat.testBit_lt_two_pow (Nat.lt_of_lt_of_le hx (show 2 ^ 8 ≤ 2 ^ i from Nat.pow_le_pow_right (by decide) (by omega)))
      rw [e1 u h.1]
      rfl
  have := @Nat.and_le_right u o
  omega
theorem clr_lt {s t : Nat} (h : s.testBit t = true) : clr s t < s := by
  unfold clr
  rw [if_pos h]
  have s0 : s ≠ 0 := fun z => by
    rw [z, Nat.zero_testBit] at h
    exact absurd h (by decide)
  exact Nat.sub_lt (by omega) (Nat.two_pow_pos t)
theorem sets9 {E : E6} {h : Hs} {b m o : Nat} {x3 : Int} {k31 : Int → Int → St → Option St} (ho : o < 256) (hb : b + (m + 1) ≤ 7) : ∀ (s f : Nat) (τ : St), s ≤ o → s < f → (∀ t : Nat, t < 8 → o.testBit t = true → τ 24 t = wth E h b t) → (∀ u : Nat, u ≤ s → Sub u o → τ 23 u = dD E h m (b + 1) u) → (∀ u : Nat, s < u → Sub u o → τ 23 u = dD E h (m + 1) b u) → ∃ τ' : St, fX1_deals_44 22 10 k31 f (o : Int) x3 (s : Int) τ = k31 (o : Int) (i_add x3 (-1)) τ' ∧ (∀ u : Nat, Sub u o → τ' 23 u = dD E h (m + 1) b u) ∧ Same τ τ' (fun d => d ≠ 23)
  | 0, f + 1, τ, hs, _, hw, h1, h2 => by
    unfold fX1_deals_44
    rw [if_pos (by omega)]
    refine ⟨τ, rfl, fun u hu => ?_, fun _ _ => rfl⟩
    by_cases z : u = 0
    · rw [z, h1 0 (Nat.le_refl _) ⟨by decide, fun v _ hv => by rw [Nat.zero_testBit] at hv; exact absurd hv (by decide)⟩, dD_0, dD_0]
    · exact h2 u (by omega) hu
  | s + 1, f + 1, τ, hs, hf, hw, h1, h2 => by
    have hs1 : s < 1000 := by omega
    have ed : i_add ((s + 1 : Nat) : Int) (-1) = (s : Int) := by
      rw [dec_eq (show s + 1 < 1000 by omega)]
      omega
    obtain ⟨r, r1, r2, r3⟩ := and_not (o := s + 1) (d := o) (by omega) ho
    unfold fX1_deals_44 fX1_deals_71
    simp only [rfS, lnS, ed]
    clear ed
    rw [if_neg (by omega), r1]
    by_cases z : Sub (s + 1) o
    · have r0 : r = 0 := by
        refine BS.uniq (P := fun _ => false) ⟨r2, fun u hu => ?_⟩ ⟨by decide, fun u _ => Nat.zero_testBit u⟩
        rw [r3 u hu]
        cases h3 : (s + 1).testBit u
        · rfl
        · rw [z.2 u hu h3]
          rfl
      rw [if_pos (by omega)]
      have bo := bestOf_l (s := s + 1) (τ := τ) (by omega) (fun t ht hb2 => by
        have w := wth_in (E := E) (h := h) (b := b) (t := t) (by omega) ht
        have d := dD_in (E := E) (h := h) m (b + 1) (clr (s + 1) t) (by omega)
        have l := clr_lt hb2
        rw [hw t ht (z.2 t ht hb2), h1 (clr (s + 1) t) (by omega) (sub_clr z ht)]
        omega) 8 FU 0 (τ 23 (s + 1)) (by omega) (by decide)
      have bo' : fX1_bestOf 22 ((s + 1 : Nat) : Int) τ = some (dD E h (m + 1) b (s + 1), τ) := by
        unfold fX1_bestOf
        simp only [rfS, lnS]
        rw [if_pos ⟨by omega, by omega⟩, Int.toNat_natCast]
        have bo2 : fX1_bestOf_10 22 ((s + 1 : Nat) : Int) FU (τ 23 (s + 1)) 0 τ = _ := bo
        rw [bo2, h1 (s + 1) (Nat.le_refl _) z]
        show some (_, τ) = some (fld (fun t x => if (s + 1).testBit t = true then m_maxl x (wth E h b t + dD E h m (b + 1) (clr (s + 1) t)) else x) 8 0 (dD E h m (b + 1) (s + 1)), τ)
        rw [fld_congr 8 0 _ (fun u y _ hu => by
          show (if (s + 1).testBit u = true then m_maxl y (τ 24 u + τ 23 (clr (s + 1) u)) else y) = if (s + 1).testBit u = true then m_maxl y (wth E h b u + dD E h m (b + 1) (clr (s + 1) u)) else y
          by_cases q : (s + 1).testBit u = true
          · have l := clr_lt q
            rw [if_pos q, if_pos q, hw u (by omega) (z.2 u (by omega) q), h1 (clr (s + 1) u) (by omega) (sub_clr z (by omega))]
          · rw [if_neg q, if_neg q])]
      rw [bo', Option.bind_some, if_pos ⟨by omega, by omega⟩, Int.toNat_natCast]
      dsimp only
      obtain ⟨τ1, f1, g1, s1⟩ := sets9 (E := E) (h := h) (b := b) (x3 := x3) (k31 := k31) ho hb s f (up τ 23 (s + 1) (dD E h (m + 1) b (s + 1))) (by omega) (by omega) (fun t ht hb2 => by rw [up_ne (by decide)]; exact hw t ht hb2) (fun u hu su => by
        rw [up_get, if_neg (by omega)]
        exact h1 u (by omega) su) (fun u hu su => by
        rw [up_get]
        by_cases q : u = s + 1
        · rw [if_pos ⟨rfl, q⟩, q]
        · rw [if_neg (fun y => q y.2)]
          exact h2 u (by omega) su)
      exact ⟨τ1, f1, g1, fun d hd => by rw [s1 d hd, up_ne hd]⟩
    · have r0 : r ≠ 0 := fun e => z ⟨by omega, fun v hv hb2 => by
        have := r3 v hv
        rw [e, Nat.zero_testBit, hb2] at this
        cases h3 : o.testBit v
        · rw [h3] at this
          simp at this
        · rfl⟩
      rw [if_neg (by omega)]
      exact sets9 (E := E) (h := h) (b := b) (x3 := x3) (k31 := k31) ho hb s f τ (by omega) (by omega) hw (fun u hu su => h1 u (by omega) su) (fun u hu su => by
        by_cases q : u = s + 1
        · rw [q] at su
          exact absurd su z
        · exact h2 u (by omega) su)
theorem bids9d {E : E6} {h : Hs} {o : Nat} (hw : Wf h) (ho : BS o (opP h)) : ∀ (b f : Nat) (τ : St), b ≤ h.2.1 → b < f → TR E h h τ → (∀ u : Nat, Sub u o → τ 23 u = dD E h (h.2.1 - b) b u) → ∃ τ' : St, fX1_deals_31 22 10 f (o : Int) ((b : Int) - 1) τ = some τ' ∧ τ' 22 2 = dD E h h.2.1 0 o ∧ Same τ τ' (fun d => d ≠ 6 ∧ d ≠ 7 ∧ d ≠ 16 ∧ d ≠ 22 ∧ d ≠ 23 ∧ d ≠ 24)
  | 0, f + 1, τ, hb, _, T, hd => by
    have oo := ho.1
    unfold fX1_deals_31
    simp only [rfS, lnS]
    rw [if_pos (by omega), if_pos ⟨by omega, by omega⟩, Int.toNat_natCast]
    refine ⟨_, rfl, ?_, fun d hd => up_ne (by omega)⟩
    rw [up_get, if_pos ⟨rfl, rfl⟩, hd o ⟨oo, fun _ _ q => q⟩]
    rfl
  | b + 1, f + 1, τ, hb, hf, T, hd => by
    have z1 := hw.1.1
    have z2 := hw.1.2
    have oo := ho.1
    have ev : ((b + 1 : Nat) : Int) - 1 = (b : Int) := by omega
    obtain ⟨τ1, f1, T1, g1, s1⟩ := weigh_l (E := E) (b := b) (by omega) hw h.1 FU 0 τ (by omega) (by unfold FU; omega) T (fun u hu => by omega)
    have f1' : fX1_weigh 22 10 (b : Int) τ = some τ1 := f1
    unfold fX1_deals_31
    rw [ev, if_neg (by omega), f1', Option.bind_some]
    obtain ⟨τ2, f2, g2, s2⟩ := sets9 (E := E) (h := h) (b := b) (m := h.2.1 - (b + 1)) (x3 := (b : Int)) (k31 := fX1_deals_31 22 10 f) oo (by omega) o FU τ1 (Nat.le_refl _) (by unfold FU; omega) (fun t ht hb2 => g1 t (by
      rw [ho.2 t ht] at hb2
      exact (of_decide_eq_true (show decide (t < h.1 ∧ h.2.2.1 t 1 = -1 ∧ h.2.2.1 t 2 = 0) = true from hb2)).1)) (fun u _ su => by rw [s1 23 (by decide)]; exact hd u su) (fun u hu su => by
      have := sub_le su oo
      omega)
    rw [f2, dec_eq (by omega)]
    have T2 : TR E h h τ2 := T1.keep (fun c hc => s2 c (by omega)) (by rw [s2 10 (by decide)]) (by rw [s2 10 (by decide)]) (fun b' k' n' x1 x2 x3 => by rw [s2 16 (by decide)]; exact T1.2.2.2.2.2.2 b' k' n' x1 x2 x3)
    obtain ⟨τ3, f3, g3, s3⟩ := bids9d hw ho b f τ2 (by omega) (by omega) T2 (fun u su => by
      rw [g2 u su, show h.2.1 - b = h.2.1 - (b + 1) + 1 by omega])
    exact ⟨τ3, f3, g3, fun d hd => by rw [s3 d hd, s2 d (by omega), s1 d (by omega)]⟩
theorem and255 : ∀ s : Nat, s < 256 → i_and (s : Int) (i_sub ((256 : Nat) : Int) 1) = (s : Int) := by decide +kernel
theorem deals9 {E : E6} {h : Hs} {o : Nat} {τ : St} (hw : Wf h) (T : TR E h h τ) (o1 : τ 10 8 = (o : Int)) (ho : BS o (opP h)) : ∃ τ' : St, fX1_deals 22 10 τ = some τ' ∧ τ' 22 2 = dD E h h.2.1 0 o ∧ Same τ τ' (fun d => d ≠ 6 ∧ d ≠ 7 ∧ d ≠ 16 ∧ d ≠ 22 ∧ d ≠ 23 ∧ d ≠ 24) := by
  have z2 := hw.1.2
  have l23 : LN 23 = 256 := rfl
  obtain ⟨τ1, f1, a1, v1⟩ := fill_l (d := 23) (v := 0) FU 0 τ (Nat.zero_le _) (by rw [l23]; decide)
  have f1' : fJ7_fill_d0a16 23 0 τ = some τ1 := f1
  have s1 : ∀ c, c ≠ 23 → τ1 c = τ c := fun c hc => funext fun j => a1 c j (fun z => hc z.1)
  have e3 : τ1 11 3 = (h.2.1 : Int) := by rw [s1 11 (by decide)]; exact T.1.1.2.1
  unfold fX1_deals
  simp only [rfS, lnS]
  rw [f1', Option.bind_some, o1, and255 o ho.1, e3, isb (ok_in (by omega) (by omega))]
  have T1 : TR E h h τ1 := T.keep (fun c hc => s1 c (by omega)) (by rw [s1 10 (by decide)]) (by rw [s1 10 (by decide)]) (fun b' k' n' x1 x2 x3 => by rw [s1 16 (by decide)]; exact T.2.2.2.2.2.2 b' k' n' x1 x2 x3)
  obtain ⟨τ2, f2, g2, s2⟩ := bids9d hw ho h.2.1 FU τ1 (Nat.le_refl _) (by unfold FU; omega) T1 (fun u su => by
    rw [v1 u (Nat.zero_le _) (by rw [l23]; exact su.1), Nat.sub_self]
    rfl)
  exact ⟨τ2, f2, g2, fun d hd => by rw [s2 d hd, s1 d (by omega)]⟩
theorem cp25 {cl : Nat → List Int → St → Option (Int × St)} {x1 x2 x3 : Int} : ∀ (m f k : Nat) (σ : St), k + m = 7 → m < f → ∃ σ' : St, fX10_deals_25 cl 49 x1 x2 x3 f (k : Int) σ = some σ' ∧ (∀ j : Nat, σ' 77 j = if k ≤ j ∧ j < 7 then σ 76 j else σ 77 j) ∧ Same σ σ' (fun d => d ≠ 77)
  | 0, f + 1, k, σ, hm, _ => by
    unfold fX10_deals_25
    rw [if_pos (by omega)]
    exact ⟨σ, rfl, fun j => by rw [if_neg (by omega)], fun _ _ => rfl⟩
  | m + 1, f + 1, k, σ, hm, hf => by
    have e9 : i_add (k : Int) 1 = ((k + 1 : Nat) : Int) := by
      rw [ia (ok_in (by omega) (by omega))]
      omega
    unfold fX10_deals_25
    simp only [rfS, lnS, e9, Int.toNat_natCast]
    rw [if_neg (by omega), if_pos ⟨by omega, by omega⟩, if_pos ⟨by omega, by omega⟩]
    obtain ⟨σ', f1, g, s⟩ := cp25 (cl := cl) (x1 := x1) (x2 := x2) (x3 := x3) m f (k + 1) (up σ 77 k (σ 76 k)) (by omega) (by omega)
    refine ⟨σ', f1, fun j => ?_, fun d hd => by rw [s d hd, up_ne hd]⟩
    have u76 : up σ 77 k (σ 76 k) 76 = σ 76 := up_ne (by decide)
    rw [g j, u76, up_get]
    by_cases q : j = k
    · subst q
      rw [if_neg (by omega), if_pos ⟨rfl, rfl⟩, if_pos (by omega)]
    · rw [if_neg (show ¬ (77 = 77 ∧ j = k) from fun z => q z.2)]
      by_cases p : k ≤ j ∧ j < 7
      · rw [if_pos p, if_pos (by omega)]
      · rw [if_neg p, if_neg (by omega)]
theorem QM.put {E : E6} {h : Hs} {n i : Nat} {tr : Nat → Int} {a : Int × (Nat → Int)} {σ : St} {x : Int} (Q : QM E h n i tr a σ) : QM E h n (i + 1) (upf tr i x) a (up σ 76 i x) := by
  obtain ⟨M, e44, h77, h76⟩ := Q
  have o : ∀ c, c ≠ 76 → up σ 76 i x c = σ c := fun c hc => up_ne hc
  refine ⟨M.keepq (fun c j q => by rw [o c (by omega)]), by rw [o 49 (by decide)]; exact e44, fun hn j hj => by rw [o 77 (by decide)]; exact h77 hn j hj, fun j hj => ?_⟩
  rw [up_get]
  show _ = if j = i then x else tr j
  by_cases y : j = i
  · rw [if_pos ⟨rfl, y⟩, if_pos y]
  · rw [if_neg (fun z => y z.2), if_neg y]
    exact h76 j (by omega)
theorem QM.less {E : E6} {h : Hs} {n i : Nat} {tr : Nat → Int} {a : Int × (Nat → Int)} {σ : St} {x : Int} (Q : QM E h n (i + 1) (upf tr i x) a σ) : QM E h n i tr a σ := by
  refine ⟨Q.1, Q.2.1, Q.2.2.1, fun j hj => ?_⟩
  rw [Q.2.2.2 j (by omega)]
  show (if j = i then x else tr j) = tr j
  rw [if_neg (by omega)]
theorem QM.same {E : E6} {h : Hs} {n i : Nat} {tr : Nat → Int} {a : Int × (Nat → Int)} {σ σ' : St} (Q : QM E h n i tr a σ) (s : mS σ σ') : QM E h n i tr a σ' :=
  ⟨Q.1.same s, by rw [s 49 (by decide)]; exact Q.2.1, fun hn j hj => by rw [s 77 (by decide)]; exact Q.2.2.1 hn j hj, fun j hj => by rw [s 76 (by decide)]; exact Q.2.2.2 j hj⟩
theorem deal_l {E : E6} {h : Hs} {b m left : Nat} {sum : Int} {tr : Nat → Int} {cl : Nat → List Int → St → Option (Int × St)} (hb : b < h.2.1) (hw : Wf h) (hs : 0 ≤ sum ∧ sum ≤ 1000) (hl : left < 256) (lz : ∀ u : Nat, u < 8 → left.testBit u = true → u < h.1) (IH : ∀ (l : Nat) (s x : Int) (a : Int × (Nat → Int)) (σ : St), (l = left ∧ s = sum ∧ x = 8) ∨ (∃ t : Nat, t < h.1 ∧ left.testBit t = true ∧ l = clr left t ∧ s = sum + wm E h b t ∧ x = (t : Int)) → QM E h h.2.1 (b + 1) (upf tr b x) a σ → ∃ σ' : St, cl 0 [((b + 1 : Nat) : Int), (l : Int), s] σ = some (0, σ') ∧ QM E h h.2.1 (b + 1) (upf tr b x) (dlP E h m (b + 1) l s (upf tr b x) a) σ' ∧ qS σ σ') : ∀ (k f t : Nat) (a : Int × (Nat → Int)) (σ : St), t + k = 8 → k < f → QM E h h.2.1 b tr a σ → ∃ σ' : St, fX10_deals_56 cl 49 (b : Int) (left : Int) sum f (t : Int) σ = some σ' ∧ QM E h h.2.1 b tr (dlP E h m (b + 1) left sum (upf tr b 8) (fld (fun t a => if left.testBit t = true then dlP E h m (b + 1) (clr left t) (sum + wm E h b t) (upf tr b (t : Int)) a else a) k t a)) σ' ∧ qS σ σ' := by
  have z1 := hw.1.1
  have z2 := hw.1.2
  have eb : i_add (b : Int) 1 = ((b + 1 : Nat) : Int) := by
    rw [ia (ok_in (by omega) (by omega))]
    omega
  -- none, last
  have last : ∀ (f t : Nat) (a : Int × (Nat → Int)) (σ : St), h.1 ≤ t → QM E h h.2.1 b tr a σ → ∃ σ' : St, fX10_deals_56 cl 49 (b : Int) (left : Int) sum (f + 1) (t : Int) σ = some σ' ∧ QM E h h.2.1 b tr (dlP E h m (b + 1) left sum (upf tr b 8) a) σ' ∧ qS σ σ' := by
    intro f t a σ ht Q
    rw [fX10_deals_56.eq_2]
    simp only [rfS, lnS]
    rw [Q.1.1.1, if_pos (by omega), if_pos ⟨by omega, by omega⟩, Int.toNat_natCast, eb]
    obtain ⟨σ1, f1, Q1, s1⟩ := IH left sum 8 a (up σ 76 b 8) (Or.inl ⟨rfl, rfl, rfl⟩) Q.put
    rw [f1, Option.bind_some]
    exact ⟨σ1, rfl, Q1.less, fun c j q => by rw [s1 c j q, up_ne (by omega)]⟩
  intro k
  induction k with
  | zero =>
    intro f t a σ ht hf Q
    obtain ⟨f', rfl⟩ : ∃ f', f = f' + 1 := ⟨f - 1, by omega⟩
    exact last f' t a σ (by omega) Q
  | succ k ih =>
    intro f t a σ ht hf Q
    obtain ⟨f', rfl⟩ : ∃ f', f = f' + 1 := ⟨f - 1, by omega⟩
    by_cases hN : h.1 ≤ t
    · have id8 : ∀ (k t : Nat) (a : Int × (Nat → Int)), t + k = 8 → h.1 ≤ t → fld (fun t a => if left.testBit t = true then dlP E h m (b + 1) (clr left t) (sum + wm E h b t) (upf tr b (t : Int)) a else a) k t a = a := by
        intro k
        induction k with
        | zero => intro t a _ _; rfl
        | succ k ih2 =>
          intro t a h1 h2
          unfold fld
          have : ¬ left.testBit t = true := fun z => by
            have := lz t (by omega) z
            omega
          rw [if_neg this]
          exact ih2 (t + 1) a (by omega) (by omega)
      rw [id8 (k + 1) t a ht hN]
      exact last f' t a σ hN Q
    have e9 : i_add (t : Int) 1 = ((t + 1 : Nat) : Int) := by
      rw [ia (ok_in (by omega) (by omega))]
      omega
    unfold fld
    rw [fX10_deals_56.eq_2]
    unfold fX10_deals_109
    simp only [rfS, lnS]
    rw [Q.1.1.1, if_neg (by omega), bit_and left hl t (by omega), e9, eb]
    by_cases z : left.testBit t = true
    case neg =>
      rw [if_neg z, if_pos rfl, if_neg z]
      exact ih f' (t + 1) a σ (by omega) (by omega) Q
    have eo : i_and (left : Int) (i_xor (i_shl 1 (t : Int)) (-1)) = ((clr left t : Nat) : Int) := bit_out left hl t (by omega)
    rw [if_pos z, if_neg (by decide), if_pos ⟨by omega, by omega⟩, Int.toNat_natCast, eo]
    have Q0 := Q.put (x := (t : Int))
    obtain ⟨σ0, f0, s0⟩ := wouldMiss_eq (b := b) (t := t) Q0.1 hb (by omega)
    have w := wm_in E h b t
    rw [f0, Option.bind_some]
    dsimp only
    rw [ia (ok_in (by omega) (by omega))]
    obtain ⟨σ1, f1, Q1, s1⟩ := IH (clr left t) (sum + wm E h b t) (t : Int) a σ0 (Or.inr ⟨t, by omega, z, rfl, rfl, rfl⟩) (Q0.same s0)
    rw [f1, Option.bind_some]
    dsimp only
    obtain ⟨σ2, f2, Q2, s2⟩ := ih f' (t + 1) _ σ1 (by omega) (by omega) Q1.less
    rw [if_pos z]
    exact ⟨σ2, f2, Q2, fun c j q => by rw [s2 c j q, s1 c j q, s0 c (by omega), up_ne (by omega)]⟩
theorem deal10 {E : E6} {h : Hs} (hw : Wf h) : ∀ (m d b left : Nat) (sum : Int) (tr : Nat → Int) (a : Int × (Nat → Int)) (σ : St), m + 1 ≤ d → b + m = h.2.1 → left < 256 → (0 ≤ sum ∧ sum ≤ 99 * (b : Int)) → (∀ u : Nat, u < 8 → left.testBit u = true → u < h.1) → QM E h h.2.1 b tr a σ → ∃ σ' : St, gX10_deals 49 d 0 [(b : Int), (left : Int), sum] σ = some (0, σ') ∧ QM E h h.2.1 b tr (dlP E h m b left sum tr a) σ' ∧ qS σ σ'
  | 0, d + 1, b, left, sum, tr, a, σ, hd, hb, hl, hs, lz, Q => by
    rw [gX10_deals_s]
    show ∃ σ' : St, (Option.bind (fX10_deals (gX10_deals 49 d) 49 (b : Int) (left : Int) sum σ) fun q => some ((0 : Int), q)) = _ ∧ _
    have z2 := hw.1.2
    have eb : b = h.2.1 := by omega
    have e5 : σ 49 5 = (h.2.1 : Int) := Q.1.1.2.1
    unfold fX10_deals dlP
    rw [e5, if_pos (by omega), Q.2.1]
    by_cases z : a.1 < sum
    · rw [if_pos z, if_pos z]
      obtain ⟨σ1, f1, g1, s1⟩ := cp25 (cl := gX10_deals 49 d) (x1 := (b : Int)) (x2 := (left : Int)) (x3 := sum) 7 FU 0 (up σ 49 44 sum) (by omega) (by decide)
      have f1' : fX10_deals_25 (gX10_deals 49 d) 49 (b : Int) (left : Int) sum FU 0 (up σ 49 44 sum) = _ := f1
      have o : ∀ c j : Nat, c ≠ 77 → ¬ (c = 49 ∧ j = 44) → σ1 c j = σ c j := fun c j x y => by rw [s1 c x, up_get, if_neg y]
      rw [f1', Option.bind_some]
      refine ⟨σ1, rfl, ⟨Q.1.keepq (fun c j q => o c j (by omega) (by omega)), ?_, fun _ j hj => ?_, fun j hj => ?_⟩, fun c j q => o c j (by omega) (by omega)⟩
      · rw [s1 49 (by decide), up_get, if_pos ⟨rfl, rfl⟩]
      · rw [g1 j, if_pos ⟨Nat.zero_le _, by omega⟩, up_ne (by decide)]
        exact Q.2.2.2 j (by omega)
      · rw [o 76 j (by decide) (by omega)]
        exact Q.2.2.2 j hj
    · rw [if_neg z, if_neg z, Option.bind_some]
      exact ⟨σ, rfl, Q, fun _ _ _ => rfl⟩
  | m + 1, d + 1, b, left, sum, tr, a, σ, hd, hb, hl, hs, lz, Q => by
    rw [gX10_deals_s]
    show ∃ σ' : St, (Option.bind (fX10_deals (gX10_deals 49 d) 49 (b : Int) (left : Int) sum σ) fun q => some ((0 : Int), q)) = _ ∧ _
    have z1 := hw.1.1
    have z2 := hw.1.2
    have e5 : σ 49 5 = (h.2.1 : Int) := Q.1.1.2.1
    unfold fX10_deals dlP
    rw [e5, if_neg (by omega)]
    obtain ⟨σ1, f1, Q1, s1⟩ := deal_l (E := E) (h := h) (b := b) (m := m) (left := left) (sum := sum) (tr := tr) (cl := gX10_deals 49 d) (by omega) hw (by omega) hl lz (fun l s x a σ hc Q' => by
      rcases hc with ⟨q1, q2, q3⟩ | ⟨t, q1, q2, q3, q4, q5⟩
      · subst q1
        subst q2
        subst q3
        exact deal10 hw m d (b + 1) l s (upf tr b 8) a σ (by omega) (by omega) hl (by omega) lz Q'
      · have w := wm_in E h b t
        have t8 : t < 8 := by omega
        obtain ⟨y1, y2⟩ := bit_out_t left hl t t8
        have y1' : clr left t < 256 := y1
        rw [q3]
        refine deal10 hw m d (b + 1) (clr left t) s (upf tr b x) a σ (by omega) (by omega) y1' (by omega) (fun u hu hu2 => ?_) Q'
        have q1 : (clr left t).testBit u = (left.testBit u && !decide (u = t)) := y2 u hu
        rw [q1] at hu2
        refine lz u hu ?_
        cases h3 : left.testBit u
        · rw [h3] at hu2
          simp at hu2
        · rfl) 8 FU 0 a σ (by omega) (by decide) Q
    have f1' : fX10_deals_56 (gX10_deals 49 d) 49 (b : Int) (left : Int) sum FU 0 σ = _ := f1
    rw [f1', Option.bind_some]
    exact ⟨σ1, rfl, Q1, s1⟩
theorem dealt_both {h : Hs} {σ : St} {a1 : Int} (c1 : HC 1 h σ) (c2 : HM h σ) (c3 : Wf h) (i1 : InvImg h σ) (i2 : InvLed σ) (i3 : InvChg h σ) (i4 : InvTape σ) (i5 : InvLots σ) (i6 : ∀ s : Nat, s < 6 → InvShelf σ s) (i7 : InvLaw σ) (a : a1 = -1 ∨ (0 ≤ a1 ∧ a1 < (h.2.1 : Int))) : ∃ (r : Int) (σ1 σ2 : St), fX9_dealt_18 0 a1 σ = some (r, σ1) ∧ HM h σ1 ∧ fX10_dealt_15 49 a1 σ1 = some (r, σ2) ∧ Inv σ2 := by
  have z2 := c3.1.2
  unfold fX9_dealt_18 fX10_dealt_15
  simp only [rfS, lnS]
  obtain ⟨E, τ, f, T, m, e9, e10, e11, s⟩ := think c1 c2 c3 i7
  rw [f, Option.bind_some]
  obtain ⟨st, o1, o2⟩ := T.2.2.2.1
  obtain ⟨τ1, f1, g1, s1⟩ := deals9 c3 T o1 o2
  rw [f1, Option.bind_some]
  have sA : ∀ d, ¬ (d = 6 ∨ d = 7 ∨ (10 ≤ d ∧ d ≤ 24)) → τ1 d = σ d := fun d hd => by rw [s1 d (by omega), s d (by omega)]
  have m1 : MC E h τ1 := m.keepC (fun d hd => s1 d (by omega))
  -- the mathematics
  obtain ⟨q1, q2, q3, -⟩ := dl_main (E := E) (h := h) z2 h.2.1 0 st 0 (fun _ => 0) (-1, fun _ => 0) (by omega) (by omega) (fun j hj => by omega) (Or.inl rfl)
  obtain ⟨R, eR⟩ : ∃ R : Int × (Nat → Int), R = dlP E h h.2.1 0 st 0 (fun _ => 0) (-1, fun _ => 0) := ⟨_, rfl⟩
  rw [← eR] at q1 q2 q3
  have dp := dD_in (E := E) (h := h) h.2.1 0 st (by omega)
  have eA : dD E h h.2.1 0 st = R.1 * 4782969 + cod h.2.1 R.2 := by
    have e1 : CV h.2.1 R = R.1 * 4782969 + cod h.2.1 R.2 := by
      unfold CV
      rw [if_neg (by omega)]
    have e2 : CV h.2.1 (-1, fun _ => 0) = -1 := if_pos rfl
    have e3 : cod 0 (fun _ => 0) = 0 := rfl
    rw [e1, e2, e3] at q1
    unfold m_maxl at q1
    rw [if_neg (by omega)] at q1
    omega
  have ci := cod_in (tr := R.2) h.2.1 z2 q3
  have q7 := qt_1 h.2.1 (by omega)
  obtain ⟨A, hA⟩ : ∃ A : Int, A = dD E h h.2.1 0 st := ⟨_, rfl⟩
  rw [← hA] at eA dp g1
  have okA : ok64 A := ok_in64 (by omega) (by omega)
  -- the model
  obtain ⟨d, hd, hdl⟩ := dep_ex
  obtain ⟨ρ, eρ⟩ : ∃ ρ : St, ρ = up τ1 49 44 (-1) := ⟨_, rfl⟩
  have mρ : MC E h ρ := m1.keepq (fun c j q => by rw [eρ, up_get, if_neg (by omega)])
  obtain ⟨ρ1, g2, G1, t1⟩ := deal10 (E := E) c3 h.2.1 (d + 1) 0 st 0 (fun _ => 0) (-1, fun _ => 0) ρ (by omega) (by omega) o2.1 (by omega) (fun u hu hu2 => by
    rw [o2.2 u hu] at hu2
    exact (of_decide_eq_true (show decide (u < h.1 ∧ h.2.2.1 u 1 = -1 ∧ h.2.2.1 u 2 = 0) = true from hu2)).1) ⟨mρ, by rw [eρ, up_get, if_pos ⟨rfl, rfl⟩], fun hn => absurd rfl hn, fun j hj => by omega⟩
  rw [← eR] at G1
  have g2' : gX10_deals 49 (d + 1) 0 [0, (st : Int), 0] ρ = some (0, ρ1) := g2
  have g2'' : hX10_deals 49 0 (st : Int) 0 ρ = some ρ1 := by
    unfold hX10_deals
    rw [hd, g2', Option.bind_some]
  have iv : Inv ρ1 := by
    refine inv_end ⟨c1, c3, i1, i2, i3, i4, i5, i6, i7⟩ G1.1.1 (fun c j q => ?_)
    unfold scr at q
    rw [t1 c j (by omega), eρ, up_get, if_neg (by omega), sA c (by omega)]
  obtain ⟨-, w44, w77, -⟩ := G1
  have fs : fX10_forSale 49 ρ = some ((st : Int), ρ) := forSale_eq mρ.1 c3.1 o2
  rcases a with n | n
  · rw [if_neg (by omega)]
    unfold fX1_total
    rw [g1, ldv okA (ok_in64 (by decide) (by decide)) (by decide), Int.tdiv_eq_ediv_of_nonneg dp.1, Option.bind_some]
    have eq : A / 4782969 = R.1 := by omega
    dsimp only
    rw [eq, l2i_ok (ok_in (by omega) (by omega))]
    refine ⟨R.1, τ1, ρ1, rfl, m1.1, ?_, iv⟩
    rw [← eρ, fs, Option.bind_some]
    dsimp only
    rw [g2'', Option.bind_some, if_pos n, w44]
  · obtain ⟨b, rfl⟩ : ∃ b : Nat, a1 = (b : Int) := ⟨a1.toNat, by omega⟩
    have hb : b < h.2.1 := by omega
    have dg := digit (s := R.1) z2 hb q3 eA
    have w := (qt_f b (by omega)).2.2
    have ew : stv1.getD b 0 = wt b := rfl
    have dl := q3 b hb
    rw [if_pos (by omega)]
    unfold fX1_share
    rw [if_pos ⟨by omega, by show (b : Int) < ((7 : Nat) : Int); omega⟩, Int.toNat_natCast, ew, if_pos (by omega), g1, ldv okA (ok_in64 (by omega) (by omega)) (by omega), Int.tdiv_eq_ediv_of_nonneg dp.1, Option.bind_some]
    have A0 : 0 ≤ A / wt b := Int.ediv_nonneg dp.1 (by omega)
    have A1 : A / wt b ≤ A := Int.ediv_le_self _ dp.1
    dsimp only
    rw [lrm A0 (ok_in64 (by omega) (by omega)) (ok_in64 (by decide) (by decide)) (by decide), Int.tmod_eq_emod_of_nonneg A0, dg, l2i_ok (ok_in (by omega) (by omega)), isb (ok_in (by omega) (by omega)), show 8 - (8 - R.2 b) = R.2 b by omega]
    refine ⟨R.2 b, τ1, ρ1, rfl, m1.1, ?_, iv⟩
    rw [← eρ, fs, Option.bind_some]
    dsimp only
    rw [g2'', Option.bind_some, if_neg (by omega), if_pos ⟨by omega, by omega⟩, w77 (by omega) b hb]
theorem ag_dealt (a1 : Int) (ha1 : ok32 a1) : Ag (fun σ => fX9_dealt 0 a1 σ) (fun σ => fX10_dealt 49 a1 σ) := by
  intro σ hI
  obtain ⟨h, c1, c2, c3, i1, i2, i3, i4, i5, i6, i7⟩ := id hI
  dsimp only
  unfold fX9_dealt fX10_dealt
  simp only [rfS]
  by_cases a : a1 = -1
  · obtain ⟨r, σ1, σ2, f1, m1, f2, iv⟩ := dealt_both c1 c2 c3 i1 i2 i3 i4 i5 i6 i7 (Or.inl a)
    rw [if_pos a, f1]
    exact ⟨r, σ1, σ2, rfl, by rw [if_pos a, f2], iv⟩
  rw [if_neg a, hasBidder_eq c1]
  by_cases b : 0 ≤ a1 ∧ a1 < (h.2.1 : Int)
  case neg =>
    rw [if_neg b, b0]
    exact ⟨-1, σ, σ, rfl, by rw [if_neg a, isOne_eq c2 c3.1, if_neg b, b0], hI⟩
  obtain ⟨r, σ1, σ2, f1, m1, f2, iv⟩ := dealt_both c1 c2 c3 i1 i2 i3 i4 i5 i6 i7 (Or.inr b)
  rw [if_pos b, b1]
  dsimp only
  rw [f1]
  refine ⟨r, σ1, σ2, rfl, ?_, iv⟩
  rw [if_neg a, isOne_eq m1 c3.1, if_pos b, b1]
  exact f2
