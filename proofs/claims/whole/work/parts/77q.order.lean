/-! The order by which one wins most: bestOrder. -/
theorem and_not {o d : Nat} (ho : o < 256) (hd : d < 256) : ∃ r : Nat, i_and (o : Int) (i_xor (d : Int) (-1)) = (r : Int) ∧ r < 256 ∧ ∀ u : Nat, u < 8 → r.testBit u = (o.testBit u && !d.testBit u) := by
  have e1 : Int32.ofInt (-1) = -1 := by decide
  have key : i_and (o : Int) (i_xor (d : Int) (-1)) = (((BitVec.ofNat 32 o) &&& (~~~ (BitVec.ofNat 32 d))).toInt) := by
    unfold i_and i_xor
    rw [Int32.ofInt_toInt]
    show ((Int32.ofInt (o : Int)).toBitVec &&& ((Int32.ofInt (d : Int)).toBitVec ^^^ (Int32.ofInt (-1)).toBitVec)).toInt = _
    have e2 : (Int32.ofInt (-1)).toBitVec = BitVec.allOnes 32 := by decide
    have e3 : ∀ x : Nat, (Int32.ofInt (x : Int)).toBitVec = BitVec.ofNat 32 x := fun x => BitVec.ofInt_natCast 32 x
    rw [e2, e3, e3, BitVec.xor_allOnes]
  have n1 : ((BitVec.ofNat 32 o) &&& (~~~ (BitVec.ofNat 32 d))).toNat = o &&& (2 ^ 32 - (d + 1)) := by
    rw [BitVec.toNat_and, BitVec.toNat_not, BitVec.toNat_ofNat, BitVec.toNat_ofNat, Nat.mod_eq_of_lt (by omega), Nat.mod_eq_of_lt (by omega), show 2 ^ 32 - 1 - d = 2 ^ 32 - (d + 1) by omega]
  have n2 : o &&& (2 ^ 32 - (d + 1)) ≤ o := Nat.and_le_left
  refine ⟨o &&& (2 ^ 32 - (d + 1)), ?_, by omega, fun u hu => ?_⟩
  · rw [key, BitVec.toInt_eq_toNat_of_lt (by rw [n1]; omega), n1]
  · rw [Nat.testBit_and, Nat.testBit_two_pow_sub_succ (by omega)]
    have : decide (u < 32) = true := decide_eq_true (by omega)
    rw [this, Bool.true_and]
def pc8 (s : Nat) : Nat := (s.testBit 0).toNat + (s.testBit 1).toNat + (s.testBit 2).toNat + (s.testBit 3).toNat + (s.testBit 4).toNat + (s.testBit 5).toNat + (s.testBit 6).toNat + (s.testBit 7).toNat
theorem pc_bc : ∀ s : Nat, s < 256 → bcI (s : Int) = ((pc8 s : Nat) : Int) := by decide +kernel
def clr (s t : Nat) : Nat := if s.testBit t then s - 2 ^ t else s
theorem pc_clr : ∀ s : Nat, s < 256 → ∀ t : Nat, t < 8 → s.testBit t = true → pc8 (clr s t) + 1 = pc8 s := by decide +kernel
theorem pc_zero : ∀ s : Nat, s < 256 → pc8 s = 0 → s = 0 := by decide +kernel
theorem pc_ex : ∀ s : Nat, s < 256 → pc8 s ≠ 0 → ∃ t : Fin 8, s.testBit t.1 = true := by decide +kernel
def upf (f : Nat → Int) (i : Nat) (x : Int) : Nat → Int := fun j => if j = i then x else f j
def fld {α : Type} (f : Nat → α → α) : Nat → Nat → α → α
  | 0, _, a => a
  | m + 1, t, a => fld f m (t + 1) (f t a)
noncomputable def ordP (E : E6) (N : Nat) (one : Int) : Nat → Nat → Nat → Hs → (Nat → Int) → Int × (Nat → Int) → Int × (Nat → Int)
  | 0, _, _, h, tr, a => if a.1 < cnt h one N then (cnt h one N, tr) else a
  | m + 1, i, left, h, tr, a => fld (fun t a => if left.testBit t = true then ordP E N one m (i + 1) (clr left t) (goesP E h t).2 (upf tr i (t : Int)) a else a) 8 0 a
theorem fld_ge {f : Nat → Int × (Nat → Int) → Int × (Nat → Int)} (h : ∀ t a, a.1 ≤ (f t a).1) : ∀ (m t : Nat) (a : Int × (Nat → Int)), a.1 ≤ (fld f m t a).1
  | 0, t, a => Int.le_refl _
  | m + 1, t, a => Int.le_trans (h t a) (fld_ge h m (t + 1) (f t a))
theorem ordP_ge (E : E6) (N : Nat) (one : Int) : ∀ (m i left : Nat) (h : Hs) (tr : Nat → Int) (a : Int × (Nat → Int)), a.1 ≤ (ordP E N one m i left h tr a).1
  | 0, i, left, h, tr, a => by
    unfold ordP
    split
    · dsimp only
      omega
    · exact Int.le_refl _
  | m + 1, i, left, h, tr, a => by
    unfold ordP
    refine fld_ge (fun t a => ?_) 8 0 a
    split
    · exact ordP_ge E N one m _ _ _ _ _
    · exact Int.le_refl _
theorem fld_hit {f : Nat → Int × (Nat → Int) → Int × (Nat → Int)} (h : ∀ t a, a.1 ≤ (f t a).1) {t0 : Nat} (h0 : ∀ a, 0 ≤ (f t0 a).1) : ∀ (m t : Nat) (a : Int × (Nat → Int)), t ≤ t0 → t0 < t + m → 0 ≤ (fld f m t a).1
  | 0, t, a, h1, h2 => by omega
  | m + 1, t, a, h1, h2 => by
    unfold fld
    by_cases e : t = t0
    · subst e
      exact Int.le_trans (h0 a) (fld_ge h m (t + 1) _)
    · exact fld_hit h h0 m (t + 1) _ (by omega) (by omega)
theorem ordP_pos (E : E6) (N : Nat) (one : Int) : ∀ (m i left : Nat) (h : Hs) (tr : Nat → Int) (a : Int × (Nat → Int)), left < 256 → pc8 left = m → 0 ≤ (ordP E N one m i left h tr a).1
  | 0, i, left, h, tr, a, _, _ => by
    have c := cnt_le h one N
    unfold ordP
    split
    · exact c.1
    · omega
  | m + 1, i, left, h, tr, a, hl, hp => by
    obtain ⟨⟨t0, ht0⟩, hb⟩ := pc_ex left hl (by omega)
    unfold ordP
    refine fld_hit (t0 := t0) (fun t a => ?_) (fun a => ?_) 8 0 a (Nat.zero_le _) (by omega)
    · split
      · exact ordP_ge E N one m _ _ _ _ _
      · exact Int.le_refl _
    · have hb' : left.testBit t0 = true := hb
      rw [if_pos hb']
      have q := pc_clr left hl t0 ht0 hb'
      refine ordP_pos E N one m _ _ _ _ _ ?_ (by omega)
      exact (bit_out_t left hl t0 ht0).1
/-- a sale in thought taken back -/
theorem unsells_eq {E : E6} {h0 h : Hs} {t : Nat} {τ0 τ : St} (T0 : TR E h0 h τ0) (T : TR E h0 (goesP E h t).2 τ) (ht : t < h.1) (ho : opP h t = true) (b1' : 0 ≤ τ 10 10 ∧ τ 10 10 ≤ 100) (b2' : 0 ≤ τ 10 11 ∧ τ 10 11 ≤ 100) : ∃ τ' : St, fX7_unsellsOne 10 (t : Int) (goesP E h t).1 τ = some τ' ∧ TR E h0 h τ' ∧ τ' 10 10 = τ 10 10 - (if 0 ≤ (goesP E h t).1 ∧ (goesP E h t).1 < 7 then 1 else 0) ∧ τ' 10 11 = τ 10 11 - (if (goesP E h t).1 = 8 then 1 else 0) ∧ Same τ τ' (fun d => d ≠ 10 ∧ d ≠ 14) := by
  have hw := T0.2.1.2.1
  have z1 := hw.1.1
  have z2 := hw.1.2
  have og := opP_goes (E := E) (h := h) (t := t)
  obtain ⟨n1, n2, n3⟩ := goesP_n (E := E) (h := h) (t := t)
  obtain ⟨⟨t1, t2, t3⟩, -, ⟨s, v1, v2, v3⟩, ⟨o, o1, o2⟩, w1, w2, w3⟩ := id T
  obtain ⟨-, ⟨u1, u2, u3⟩, -, -, -, -, -⟩ := id T0
  have cg : ∀ b : Nat, b < 7 → τ 14 b = cnt h b h.1 + if (goesP E h t).1 = (b : Int) then 1 else 0 := fun b hb => by
    rw [w1 b hb, n1]
    exact cnt_goes ht hb
  have mg : ∀ b : Nat, b < 7 → τ 15 b = mis h b h.1 := fun b hb => by
    rw [w2 b hb, n1]
    exact mis_goes (by omega)
  have kng : Kn E h τ := fun b q n hb hq hn => by
    have e : yrs E (goesP E h t).2 b q n = yrs E h b q n := yrs_congr (fun w _ _ => by rw [n3]) (by rw [n1, mis_goes (by omega)])
    have := w3 b q n (by rw [n2]; exact hb) hq hn
    rw [e] at this
    exact this
  have gi := goesP_in (E := E) (h := h) (t := t)
  obtain ⟨r, r1, r2⟩ := o2.or (t := t) (by omega)
  have fin : ∀ τ' : St, (∀ c, c ≠ 10 → c ≠ 14 → τ' c = τ c) → τ' 10 9 = τ 10 9 → (∃ x : Nat, τ' 10 8 = (x : Int) ∧ BS x (opP h)) → (∀ b : Nat, b < 7 → τ' 14 b = cnt h b h.1) → TR E h0 h τ' := by
    intro τ' a1 a3 a2 a4
    refine ⟨⟨HC11.keep t1 (fun c hc => a1 c (by omega) (by omega)), t2.keep t3 (fun c hc => a1 c (by omega) (by omega)), by rw [a1 4 (by decide) (by decide)]; exact t3⟩, ⟨u1, u2, u3⟩, ⟨s, v1, by rw [a3]; exact v2, fun b hb => ?_⟩, a2, a4, fun b hb => by rw [a1 15 (by decide) (by decide)]; exact mg b hb, fun b' k' n' x1 x2 x3 => by rw [a1 16 (by decide) (by decide)]; exact kng b' k' n' x1 x2 x3⟩
    have := v3 b (by rw [n2]; exact hb)
    rw [n3] at this
    exact this
  have rb : (goesP E h t).1 ≠ -2 → BS r (opP h) := fun hn => r2.congr (fun u hu => by
    show (opP (goesP E h t).2 u || decide (u = t)) = opP h u
    rw [og u]
    by_cases z : u = t
    · subst z
      simp [ho]
    · simp [z])
  unfold fX7_unsellsOne
  -- it was for sale, so it wasn't passed over
  have n9 : (goesP E h t).1 ≠ 9 := by
    have wi := win_in (E := E) (h := h) (t := t)
    unfold opP at ho
    have ho' := of_decide_eq_true ho
    unfold goesP
    rw [if_pos ho'.2]
    split
    · show (8 : Int) ≠ 9
      decide
    · split
      · show (-2 : Int) ≠ 9
        decide
      · dsimp only
        omega
  rw [if_neg n9]
  by_cases q2 : (goesP E h t).1 = -2
  · rw [if_pos q2]
    refine ⟨τ, rfl, fin τ (fun _ _ _ => rfl) rfl ⟨o, o1, o2.congr (fun u hu => by rw [og u, q2]; simp)⟩ (fun b hb => by rw [cg b hb, if_neg (by omega)]; omega), ?_, ?_, fun _ _ => rfl⟩
    · rw [if_neg (by omega)]
      omega
    · rw [if_neg (by omega)]
      omega
  rw [if_neg q2]
  by_cases q8 : (goesP E h t).1 = 8
  · rw [if_pos q8, o1, r1]
    have x1 : up τ 10 8 (r : Int) 10 11 = τ 10 11 := by rw [up_get, if_neg (by omega)]
    rw [x1, isb (ok_in (by omega) (by omega))]
    refine ⟨_, rfl, fin _ (fun c c1 c2 => by rw [up_ne c1, up_ne c1]) (by simp [up]) ⟨r, by simp [up], rb q2⟩ (fun b hb => by rw [up_ne (by decide), up_ne (by decide), cg b hb, if_neg (by omega)]; omega), ?_, ?_, fun c hc => by rw [up_ne hc.1, up_ne hc.1]⟩
    · rw [if_neg (by omega)]
      simp [up]
    · rw [if_pos q8]
      simp [up]
  rw [if_neg q8]
  obtain ⟨wb, hwb⟩ : ∃ wb : Nat, (goesP E h t).1 = (wb : Int) := ⟨((goesP E h t).1).toNat, by omega⟩
  have e3 : h0.2.1 = h.2.1 := T0.2.1.2.2.2.1
  have hc11 : HC 11 h0 (up τ 10 8 (r : Int)) := HC11.keep t1 (fun c hc => up_ne (by omega))
  simp only [rfS, lnS]
  rw [o1, r1, hwb, hasBidder_eq hc11, if_pos (by omega), b1]
  dsimp only
  rw [if_pos ⟨by omega, by omega⟩, if_pos ⟨by omega, by omega⟩, Int.toNat_natCast]
  have x1 : up τ 10 8 (r : Int) 10 10 = τ 10 10 := by rw [up_get, if_neg (by omega)]
  have cb := cnt_le h wb h.1
  have x2 : up (up τ 10 8 (r : Int)) 10 10 (i_sub (up τ 10 8 (r : Int) 10 10) 1) 14 wb = cnt h wb h.1 + 1 := by
    rw [up_ne (by decide), up_ne (by decide), cg wb (by omega), if_pos hwb]
  rw [x2, x1, isb (ok_in (by omega) (by omega)), isb (ok_in (by omega) (by omega)), show cnt h (wb : Int) h.1 + 1 - 1 = cnt h (wb : Int) h.1 by omega]
  refine ⟨_, rfl, fin _ (fun c c1 c2 => by rw [up_ne c2, up_ne c1, up_ne c1]) (by simp [up]) ⟨r, by simp [up], rb q2⟩ (fun b hb => ?_), ?_, ?_, fun c hc => by rw [up_ne hc.2, up_ne hc.1, up_ne hc.1]⟩
  · rw [up_get]
    by_cases z : b = wb
    · rw [if_pos ⟨rfl, z⟩, z]
    · rw [if_neg (fun y => z y.2), up_ne (by decide), up_ne (by decide), cg b hb, if_neg (by omega)]
      omega
  · rw [if_pos (by omega)]
    simp [up]
  · rw [if_neg (by omega)]
    simp [up]
def QC (E : E6) (h0 : Hs) (n i : Nat) (h : Hs) (tr : Nat → Int) (a : Int × (Nat → Int)) (τ : St) : Prop := TR E h0 h τ ∧ (0 ≤ τ 10 10 ∧ τ 10 10 ≤ (i : Int)) ∧ (0 ≤ τ 10 11 ∧ τ 10 11 ≤ (i : Int)) ∧ τ 19 4 = (n : Int) ∧ τ 19 3 = a.1 ∧ (a.1 ≠ -1 → ∀ j : Nat, j < n → τ 21 j = a.2 j) ∧ ∀ j : Nat, j < i → τ 20 j = tr j
abbrev oS (τ τ' : St) : Prop := Same τ τ' (fun d => d ≠ 6 ∧ d ≠ 7 ∧ d ≠ 10 ∧ d ≠ 14 ∧ d ≠ 16 ∧ d ≠ 17 ∧ d ≠ 19 ∧ d ≠ 20 ∧ d ≠ 21)
abbrev cS (τ τ' : St) : Prop := τ' 10 10 = τ 10 10 ∧ τ' 10 11 = τ 10 11
theorem try_l {E : E6} {h0 h : Hs} {N n i m left done one : Nat} {tr : Nat → Int} {cl : Nat → List Int → St → Option (Int × St)} (hi : i < 5) (hl : left < 256) (lo : ∀ u : Nat, u < 8 → left.testBit u = true → opP h u = true) (IH : ∀ (t : Nat) (a : Int × (Nat → Int)) (τ : St), t < 8 → left.testBit t = true → QC E h0 n (i + 1) (goesP E h t).2 (upf tr i (t : Int)) a τ → ∃ τ' : St, cl 0 [(one : Int), ((i + 1 : Nat) : Int), i_or (done : Int) (i_shl 1 (t : Int))] τ = some (0, τ') ∧ QC E h0 n (i + 1) (goesP E h t).2 (upf tr i (t : Int)) (ordP E N one m (i + 1) (clr left t) (goesP E h t).2 (upf tr i (t : Int)) a) τ' ∧ cS τ τ' ∧ oS τ τ') : ∀ (k f t : Nat) (a : Int × (Nat → Int)) (τ : St), t + k = 8 → k < f → QC E h0 n i h tr a τ → ∃ τ' : St, fX8_tryOrder_68 cl 19 (one : Int) (i : Int) (done : Int) f (left : Int) (t : Int) τ = some τ' ∧ QC E h0 n i h tr (fld (fun t a => if left.testBit t = true then ordP E N one m (i + 1) (clr left t) (goesP E h t).2 (upf tr i (t : Int)) a else a) k t a) τ' ∧ cS τ τ' ∧ oS τ τ'
  | 0, f + 1, t, a, τ, ht, _, Q => by
    unfold fX8_tryOrder_68
    rw [if_pos (by omega)]
    exact ⟨τ, rfl, Q, ⟨rfl, rfl⟩, fun _ _ => rfl⟩
  | k + 1, f + 1, t, a, τ, ht, hf, Q => by
    have e9 : i_add (t : Int) 1 = ((t + 1 : Nat) : Int) := by
      rw [ia (ok_in (by omega) (by omega))]
      omega
    have ei : i_add (i : Int) 1 = ((i + 1 : Nat) : Int) := by
      rw [ia (ok_in (by omega) (by omega))]
      omega
    unfold fX8_tryOrder_68 fX8_tryOrder_129 fld
    simp only [rfS, lnS]
    rw [if_neg (by omega), bit_and left hl t (by omega), e9, ei]
    by_cases z : left.testBit t = true
    case neg =>
      rw [if_neg z, if_pos rfl]
      obtain ⟨τ1, f1, Q1, c1, s1⟩ := try_l hi hl lo IH k f (t + 1) a τ (by omega) (by omega) Q
      rw [if_neg z]
      exact ⟨τ1, f1, Q1, c1, s1⟩
    rw [if_pos z, if_neg (by decide), if_pos ⟨by omega, by omega⟩, Int.toNat_natCast]
    have ho := lo t (by omega) z
    have ht1 : t < h.1 := (of_decide_eq_true (show decide (t < h.1 ∧ h.2.2.1 t 1 = -1 ∧ h.2.2.1 t 2 = 0) = true from ho)).1
    obtain ⟨T, B1, B2, e4, e3, hb, ho20⟩ := Q
    obtain ⟨τ0, e0⟩ : ∃ τ0 : St, τ0 = up τ 20 i (t : Int) := ⟨_, rfl⟩
    have ne20 : ∀ d, d ≠ 20 → τ0 d = τ d := fun d hd => by rw [e0, up_ne hd]
    have T0 : TR E h0 h τ0 := T.keep (fun c hc => ne20 c (by omega)) (by rw [ne20 10 (by decide)]) (by rw [ne20 10 (by decide)]) (fun b' k' n' x1 x2 x3 => by rw [ne20 16 (by decide)]; exact T.2.2.2.2.2.2 b' k' n' x1 x2 x3)
    rw [← e0]
    obtain ⟨τ1, f1, T1, g10, g11, g7, s1⟩ := sells_eq (t := t) T0 ht1 (by rw [ne20 10 (by decide)]; exact ok_in (by omega) (by omega)) (by rw [ne20 10 (by decide)]; exact ok_in (by omega) (by omega))
    rw [ne20 10 (by decide)] at g10 g11
    rw [f1, Option.bind_some]
    dsimp only
    have Q1 : QC E h0 n (i + 1) (goesP E h t).2 (upf tr i (t : Int)) a τ1 := by
      refine ⟨T1, ?_, ?_, ?_, ?_, fun hn j hj => ?_, fun j hj => ?_⟩
      · rw [g10]
        split <;> omega
      · rw [g11]
        split <;> omega
      · rw [s1 19 (by decide), ne20 19 (by decide)]
        exact e4
      · rw [s1 19 (by decide), ne20 19 (by decide)]
        exact e3
      · rw [s1 21 (by decide), ne20 21 (by decide)]
        exact hb hn j hj
      · rw [s1 20 (by decide), e0, up_get]
        show _ = if j = i then (t : Int) else tr j
        by_cases y : j = i
        · rw [if_pos ⟨rfl, y⟩, if_pos y]
        · rw [if_neg (fun x => y x.2), if_neg y]
          exact ho20 j (by omega)
    obtain ⟨τ2, f2, Q2, c2, s2⟩ := IH t a τ1 (by omega) z Q1
    rw [f2, Option.bind_some]
    dsimp only
    obtain ⟨T2, B1', B2', e4', e3', hb', ho20'⟩ := Q2
    obtain ⟨τ3, f3, T3, u10, u11, s3⟩ := unsells_eq T0 T2 ht1 ho (by omega) (by omega)
    rw [f3, Option.bind_some]
    have k10 : τ3 10 10 = τ 10 10 := by
      rw [u10, c2.1, g10]
      split <;> omega
    have k11 : τ3 10 11 = τ 10 11 := by
      rw [u11, c2.2, g11]
      split <;> omega
    have Q3 : QC E h0 n i h tr (ordP E N one m (i + 1) (clr left t) (goesP E h t).2 (upf tr i (t : Int)) a) τ3 := by
      refine ⟨T3, by rw [k10]; exact B1, by rw [k11]; exact B2, ?_, ?_, fun hn j hj => ?_, fun j hj => ?_⟩
      · rw [s3 19 (by decide)]
        exact e4'
      · rw [s3 19 (by decide)]
        exact e3'
      · rw [s3 21 (by decide)]
        exact hb' hn j hj
      · rw [s3 20 (by decide), ho20' j (by omega)]
        show (if j = i then (t : Int) else tr j) = tr j
        rw [if_neg (by omega)]
    obtain ⟨τ4, f4, Q4, c4, s4⟩ := try_l hi hl lo IH k f (t + 1) _ τ3 (by omega) (by omega) Q3
    rw [if_pos z]
    refine ⟨τ4, f4, Q4, ⟨by rw [c4.1, k10], by rw [c4.2, k11]⟩, fun d hd => ?_⟩
    rw [s4 d hd, s3 d (by omega), s2 d hd, s1 d (by omega), ne20 d (by omega)]
theorem try9 {E : E6} {h0 : Hs} {n one set : Nat} (hn : n ≤ 5) (ho : one < h0.2.1) (hset : set < 256) : ∀ (m d i left done : Nat) (h : Hs) (tr : Nat → Int) (a : Int × (Nat → Int)) (τ : St), m + 1 ≤ d → i + m = n → left < 256 → done < 256 → pc8 left = m → (∀ u : Nat, u < 8 → left.testBit u = (set.testBit u && !done.testBit u)) → (∀ u : Nat, u < 8 → left.testBit u = true → opP h u = true) → (∀ u : Nat, u < 8 → opP h u = true → set.testBit u = true) → QC E h0 n i h tr a τ → ∃ τ' : St, gX8_tryOrder 19 d 0 [(one : Int), (i : Int), (done : Int)] τ = some (0, τ') ∧ QC E h0 n i h tr (ordP E h0.1 one m i left h tr a) τ' ∧ cS τ τ' ∧ oS τ τ'
  | 0, d + 1, i, left, done, h, tr, a, τ, hd, hi, hl, hdn, hp, l1, l2, l3, Q => by
    rw [gX8_tryOrder_s]
    show ∃ τ' : St, (Option.bind (fX8_tryOrder (gX8_tryOrder 19 d) 19 (one : Int) (i : Int) (done : Int) τ) fun q => some ((0 : Int), q)) = _ ∧ _
    obtain ⟨T, B1, B2, e4, e3, hb, ho20⟩ := Q
    have z2 := T.2.1.1.1.2
    have e14 := T.2.2.2.2.1 one (by omega)
    have n1 : h0.1 = h.1 := T.2.1.2.2.1
    have q0 : Int.toNat 0 = 0 := rfl
    have q5 : Int.toNat 5 = 5 := rfl
    have ib : inb (one : Int) 7 := ⟨by omega, by omega⟩
    have jc : inc 0 0 5 5 5 := by decide
    unfold fX8_tryOrder ordP
    simp only [rfS, lnS, if_pos ib, if_pos jc, Int.toNat_natCast, q0, q5]
    rw [e4, if_neg (by omega), e3, e14, n1]
    by_cases z : a.1 < cnt h one h.1
    · rw [if_neg (by omega), if_pos z, Option.bind_some]
      have g : ∀ c, c ≠ 19 → c ≠ 21 → cpy (up τ 19 3 (cnt h one h.1)) 20 0 21 0 5 c = τ c := fun c x y => by rw [cpy_ne y, up_ne x]
      refine ⟨_, rfl, ⟨T.keep (fun c hc => g c (by omega) (by omega)) (by rw [g 10 (by decide) (by decide)]) (by rw [g 10 (by decide) (by decide)]) (fun b' k' n' x1 x2 x3 => by rw [g 16 (by decide) (by decide)]; exact T.2.2.2.2.2.2 b' k' n' x1 x2 x3), by rw [g 10 (by decide) (by decide)]; exact B1, by rw [g 10 (by decide) (by decide)]; exact B2, ?_, ?_, fun _ j hj => ?_, fun j hj => by rw [g 20 (by decide) (by decide)]; exact ho20 j hj⟩, ⟨by rw [g 10 (by decide) (by decide)], by rw [g 10 (by decide) (by decide)]⟩, fun d hd => g d (by omega) (by omega)⟩
      · rw [cpy_ne (by decide), up_get, if_neg (by omega)]
        exact e4
      · rw [cpy_ne (by decide), up_get, if_pos ⟨rfl, rfl⟩]
      · rw [cpy_at, if_pos (by omega), up_ne (by decide)]
        exact ho20 j (by omega)
    · rw [if_pos (by omega), if_neg z, Option.bind_some]
      exact ⟨τ, rfl, ⟨T, B1, B2, e4, e3, hb, ho20⟩, ⟨rfl, rfl⟩, fun _ _ => rfl⟩
  | m + 1, d + 1, i, left, done, h, tr, a, τ, hd, hi, hl, hdn, hp, l1, l2, l3, Q => by
    rw [gX8_tryOrder_s]
    show ∃ τ' : St, (Option.bind (fX8_tryOrder (gX8_tryOrder 19 d) 19 (one : Int) (i : Int) (done : Int) τ) fun q => some ((0 : Int), q)) = _ ∧ _
    have e4 := Q.2.2.2.1
    obtain ⟨o, o1, o2⟩ := Q.1.2.2.2.1
    unfold fX8_tryOrder ordP
    simp only [rfS]
    obtain ⟨r, r1, r2, r3⟩ := and_not o2.1 hdn
    have er : r = left := by
      refine BS.uniq (P := fun u => left.testBit u) ⟨r2, fun u hu => ?_⟩ ⟨hl, fun _ _ => rfl⟩
      rw [r3 u hu, o2.2 u hu]
      show (opP h u && !done.testBit u) = left.testBit u
      rw [l1 u hu]
      have a2 := l2 u hu
      have a3 := l3 u hu
      rw [l1 u hu] at a2
      cases h1 : set.testBit u <;> cases h2 : done.testBit u <;> cases h3 : opP h u <;> simp_all
    rw [e4, if_pos (by omega), o1, r1, er]
    have z1 := Q.1.2.1.2.1.1.1
    obtain ⟨τ1, f1, Q1, c1, s1⟩ := try_l (E := E) (h0 := h0) (h := h) (N := h0.1) (n := n) (i := i) (m := m) (left := left) (done := done) (one := one) (tr := tr) (cl := gX8_tryOrder 19 d) (by omega) hl l2 (fun t a τ ht hb Q' => by
      obtain ⟨x, x1, x2⟩ := (show BS done (fun u => done.testBit u) from ⟨hdn, fun _ _ => rfl⟩).or (t := t) ht
      rw [x1]
      have pq := pc_clr left hl t ht hb
      obtain ⟨y1, y2⟩ := bit_out_t left hl t ht
      refine try9 hn ho hset m d (i + 1) (clr left t) x (goesP E h t).2 (upf tr i (t : Int)) a τ (by omega) (by omega) y1 x2.1 (by omega) (fun u hu => ?_) (fun u hu hu2 => ?_) (fun u hu hu2 => ?_) Q'
      · have q1 : (clr left t).testBit u = (left.testBit u && !decide (u = t)) := y2 u hu
        have q2 : x.testBit u = (done.testBit u || decide (u = t)) := x2.2 u hu
        rw [q1, q2, l1 u hu]
        cases set.testBit u <;> cases done.testBit u <;> cases decide (u = t) <;> rfl
      · have q1 : (clr left t).testBit u = (left.testBit u && !decide (u = t)) := y2 u hu
        rw [q1] at hu2
        rw [opP_goes u]
        by_cases e : u = t
        · simp [e] at hu2
        · have : left.testBit u = true := by
            simp [e] at hu2
            exact hu2
          rw [l2 u hu this]
          simp [e]
      · rw [opP_goes u] at hu2
        refine l3 u hu ?_
        cases h3 : opP h u
        · rw [h3] at hu2
          simp at hu2
        · rfl) 8 FU 0 a τ (by omega) (by decide) Q
    have f1' : fX8_tryOrder_68 (gX8_tryOrder 19 d) 19 (one : Int) (i : Int) (done : Int) FU (left : Int) 0 τ = _ := f1
    rw [f1', Option.bind_some]
    exact ⟨τ1, rfl, Q1, c1, s1⟩
theorem sk_congr {E : E6} {R R' : Nat → Int} {h : Hs} : ∀ k : Nat, (∀ j : Nat, j < k → R j = R' j) → sk E R h k = sk E R' h k
  | 0, _ => rfl
  | k + 1, hr => by
    have e := sk_congr (E := E) (R := R) (R' := R') (h := h) k (fun j hj => hr j (by omega))
    show (goesP E (sk E R h k) (R k).toNat).2 = (goesP E (sk E R' h k) (R' k).toNat).2
    rw [e, hr k (by omega)]
theorem sk_up {E : E6} {tr : Nat → Int} {h : Hs} {i t : Nat} : sk E (upf tr i (t : Int)) h (i + 1) = (goesP E (sk E tr h i) t).2 := by
  have e := sk_congr (E := E) (R := upf tr i (t : Int)) (R' := tr) (h := h) i (fun j hj => if_neg (by omega))
  show (goesP E (sk E (upf tr i (t : Int)) h i) (upf tr i (t : Int) i).toNat).2 = _
  have e2 : upf tr i (t : Int) i = (t : Int) := if_pos rfl
  rw [e, e2, Int.toNat_natCast]
def QM (E : E6) (hb : Hs) (n i : Nat) (tr : Nat → Int) (a : Int × (Nat → Int)) (σ : St) : Prop := MC E hb σ ∧ σ 49 44 = a.1 ∧ (a.1 ≠ -1 → ∀ j : Nat, j < n → σ 77 j = a.2 j) ∧ ∀ j : Nat, j < i → σ 76 j = tr j
abbrev qS (σ σ' : St) : Prop := ∀ c j : Nat, ¬ ((50 ≤ c ∧ c ≤ 54) ∨ c = 64 ∨ c = 65 ∨ (75 ≤ c ∧ c ≤ 77) ∨ (c = 49 ∧ j = 44)) → σ' c j = σ c j
theorem MC.keepq {E : E6} {h : Hs} {σ σ' : St} (k : MC E h σ) (s : ∀ c j : Nat, ¬ ((75 ≤ c ∧ c ≤ 77) ∨ (c = 49 ∧ j = 44)) → σ' c j = σ c j) : MC E h σ' := k.keep (fun c j q => s c j (by unfold pHM at q; omega))
theorem cp10 {cl : Nat → List Int → St → Option (Int × St)} {x2 x3 : Int} {i : Nat} (hi : i ≤ 7) : ∀ (m f k : Nat) (σ : St), k + m = i → m < f → ∃ σ' : St, fX10_orders_69 cl 49 (i : Int) x2 x3 f (k : Int) σ = some σ' ∧ (∀ j : Nat, σ' 77 j = if k ≤ j ∧ j < i then σ 76 j else σ 77 j) ∧ Same σ σ' (fun d => d ≠ 77)
  | 0, f + 1, k, σ, hm, _ => by
    unfold fX10_orders_69
    rw [if_pos (by omega)]
    exact ⟨σ, rfl, fun j => by rw [if_neg (by omega)], fun _ _ => rfl⟩
  | m + 1, f + 1, k, σ, hm, hf => by
    have e9 : i_add (k : Int) 1 = ((k + 1 : Nat) : Int) := by
      rw [ia (ok_in (by omega) (by omega))]
      omega
    unfold fX10_orders_69
    simp only [rfS, lnS, e9, Int.toNat_natCast]
    rw [if_neg (by omega), if_pos ⟨by omega, by omega⟩, if_pos ⟨by omega, by omega⟩]
    obtain ⟨σ', f1, g, s⟩ := cp10 (cl := cl) (x2 := x2) (x3 := x3) hi m f (k + 1) (up σ 77 k (σ 76 k)) (by omega) (by omega)
    refine ⟨σ', f1, fun j => ?_, fun d hd => by rw [s d hd, up_ne hd]⟩
    have u76 : up σ 77 k (σ 76 k) 76 = σ 76 := up_ne (by decide)
    rw [g j, u76, up_get]
    by_cases q : j = k
    · subst q
      rw [if_neg (by omega), if_pos ⟨rfl, rfl⟩, if_pos (by omega)]
    · rw [if_neg (show ¬ (77 = 77 ∧ j = k) from fun z => q z.2)]
      by_cases p : k ≤ j ∧ j < i
      · rw [if_pos p, if_pos (by omega)]
      · rw [if_neg p, if_neg (by omega)]
theorem leaf10 {E : E6} {hb : Hs} {n one : Nat} {tr : Nat → Int} {a : Int × (Nat → Int)} {x2 : Int} {cl : Nat → List Int → St → Option (Int × St)} (hn : n ≤ 5) (wfb : Wf hb) (ht : ∀ j : Nat, j < n → 0 ≤ tr j ∧ tr j < (hb.1 : Int)) : ∀ (m f k : Nat) (σ : St), k + m = n → m < f → MC E (sk E tr hb k) σ → KP 75 hb σ → σ 49 44 = a.1 → (a.1 ≠ -1 → ∀ j : Nat, j < n → σ 77 j = a.2 j) → (∀ j : Nat, j < n → σ 76 j = tr j) → ∃ σ' : St, fX10_orders_15 cl 49 (n : Int) x2 (one : Int) f (k : Int) σ = some σ' ∧ QM E hb n n tr (if a.1 < cnt (sk E tr hb n) one hb.1 then (cnt (sk E tr hb n) one hb.1, tr) else a) σ' ∧ qS σ σ'
  | 0, f + 1, k, σ, hm, _, M, kp, e44, h77, h76 => by
    have ek : k = n := by omega
    subst ek
    have pk := sk_pk E tr hb k
    obtain ⟨σ1, f1, k1, s1⟩ := backPk M.1 kp pk
    unfold fX10_orders_15
    rw [if_pos (by omega), countOf_eq M.1 M.2.2.1, Option.bind_some, pk.1]
    dsimp only
    rw [f1, Option.bind_some, s1 49 (by decide), e44]
    have M1 : MC E hb σ1 := ⟨k1, M.2.1.keep (by rw [s1 49 (by decide)]) (by rw [s1 49 (by decide)]) (fun c h1 h2 => s1 c (by omega)), wfb⟩
    by_cases z : a.1 < cnt (sk E tr hb k) one hb.1
    · rw [if_pos z, if_pos z]
      obtain ⟨σ2, f2, g2, s2⟩ := cp10 (cl := cl) (x2 := x2) (x3 := (one : Int)) (show k ≤ 7 by omega) k FU 0 (up σ1 49 44 (cnt (sk E tr hb k) one hb.1)) (by omega) (by unfold FU; omega)
      have f2' : fX10_orders_69 cl 49 (k : Int) x2 (one : Int) FU 0 (up σ1 49 44 (cnt (sk E tr hb k) one hb.1)) = _ := f2
      have o : ∀ c j : Nat, c ≠ 77 → ¬ (c = 49 ∧ j = 44) → σ2 c j = σ1 c j := fun c j x y => by rw [s2 c x, up_get, if_neg y]
      refine ⟨σ2, f2', ⟨M1.keepq (fun c j q => o c j (by omega) (by omega)), ?_, fun _ j hj => ?_, fun j hj => ?_⟩, fun c j q => ?_⟩
      · rw [s2 49 (by decide), up_get, if_pos ⟨rfl, rfl⟩]
      · rw [g2 j, if_pos ⟨Nat.zero_le _, hj⟩, up_ne (by decide), s1 76 (by decide)]
        exact h76 j hj
      · rw [o 76 j (by decide) (by omega), s1 76 (by decide)]
        exact h76 j hj
      · rw [o c j (by omega) (by omega), s1 c (by omega)]
    · rw [if_neg z, if_neg z]
      refine ⟨σ1, rfl, ⟨M1, by rw [s1 49 (by decide)]; exact e44, fun hn j hj => by rw [s1 77 (by decide)]; exact h77 hn j hj, fun j hj => by rw [s1 76 (by decide)]; exact h76 j hj⟩, fun c j q => by rw [s1 c (by omega)]⟩
  | m + 1, f + 1, k, σ, hm, hf, M, kp, e44, h77, h76 => by
    have e9 : i_add (k : Int) 1 = ((k + 1 : Nat) : Int) := by
      rw [ia (ok_in (by omega) (by omega))]
      omega
    have r := ht k (by omega)
    have et : tr k = (((tr k).toNat : Nat) : Int) := by omega
    obtain ⟨σ1, f1, M1, s1⟩ := goes10 (t := (tr k).toNat) M (by rw [(sk_pk E tr hb k).1]; omega)
    have f1' : fX10_goes 49 (tr k) σ = some (wk E tr hb k, σ1) := by
      rw [et]
      exact f1
    unfold fX10_orders_15
    simp only [rfS, lnS, Int.toNat_natCast]
    rw [if_neg (by omega), if_pos ⟨by omega, by omega⟩, h76 k (by omega), f1', Option.bind_some, e9]
    dsimp only
    obtain ⟨σ2, f2, q2, s2⟩ := leaf10 (E := E) (hb := hb) (one := one) (tr := tr) (a := a) (x2 := x2) (cl := cl) hn wfb ht m f (k + 1) σ1 (by omega) (by omega) M1 (kp.keep (s1 75 (by decide))) (by rw [s1 49 (by decide)]; exact e44) (fun hn j hj => by rw [s1 77 (by decide)]; exact h77 hn j hj) (fun j hj => by rw [s1 76 (by decide)]; exact h76 j hj)
    exact ⟨σ2, f2, q2, fun c j q => by rw [s2 c j q, s1 c (by omega)]⟩
theorem ord_l {E : E6} {hb h : Hs} {n i m left one : Nat} {tr : Nat → Int} {cl : Nat → List Int → St → Option (Int × St)} (hi : i < 5) (hl : left < 256) (lz : ∀ u : Nat, u < 8 → left.testBit u = true → u < hb.1) (h8 : hb.1 ≤ 8) (IH : ∀ (t : Nat) (a : Int × (Nat → Int)) (σ : St), t < hb.1 → left.testBit t = true → QM E hb n (i + 1) (upf tr i (t : Int)) a σ → ∃ σ' : St, cl 0 [((i + 1 : Nat) : Int), ((clr left t : Nat) : Int), (one : Int)] σ = some (0, σ') ∧ QM E hb n (i + 1) (upf tr i (t : Int)) (ordP E hb.1 one m (i + 1) (clr left t) (goesP E h t).2 (upf tr i (t : Int)) a) σ' ∧ qS σ σ') : ∀ (k f t : Nat) (a : Int × (Nat → Int)) (σ : St), t + k = 8 → k < f → QM E hb n i tr a σ → ∃ σ' : St, fX10_orders_99 cl 49 (i : Int) (left : Int) (one : Int) f (t : Int) σ = some σ' ∧ QM E hb n i tr (fld (fun t a => if left.testBit t = true then ordP E hb.1 one m (i + 1) (clr left t) (goesP E h t).2 (upf tr i (t : Int)) a else a) k t a) σ' ∧ qS σ σ'
  | 0, f + 1, t, a, σ, ht, _, Q => by
    unfold fX10_orders_99
    rw [Q.1.1.1, if_pos (by omega)]
    exact ⟨σ, rfl, Q, fun _ _ _ => rfl⟩
  | k + 1, f + 1, t, a, σ, ht, hf, Q => by
    have e9 : i_add (t : Int) 1 = ((t + 1 : Nat) : Int) := by
      rw [ia (ok_in (by omega) (by omega))]
      omega
    have ei : i_add (i : Int) 1 = ((i + 1 : Nat) : Int) := by
      rw [ia (ok_in (by omega) (by omega))]
      omega
    by_cases hN : hb.1 ≤ t
    · -- all that is behind is none of the house's
      have id8 : ∀ (k t : Nat) (a : Int × (Nat → Int)), t + k = 8 → hb.1 ≤ t → fld (fun t a => if left.testBit t = true then ordP E hb.1 one m (i + 1) (clr left t) (goesP E h t).2 (upf tr i (t : Int)) a else a) k t a = a := by
        intro k
        induction k with
        | zero => intro t a _ _; rfl
        | succ k ih =>
          intro t a h1 h2
          unfold fld
          have : ¬ left.testBit t = true := fun z => by
            have := lz t (by omega) z
            omega
          rw [if_neg this]
          exact ih (t + 1) a (by omega) (by omega)
      rw [id8 (k + 1) t a ht hN]
      unfold fX10_orders_99
      rw [Q.1.1.1, if_pos (by omega)]
      exact ⟨σ, rfl, Q, fun _ _ _ => rfl⟩
    unfold fX10_orders_99 fX10_orders_144 fld
    simp only [rfS, lnS]
    rw [Q.1.1.1, if_neg (by omega), bit_and left hl t (by omega), e9, ei]
    by_cases z : left.testBit t = true
    case neg =>
      rw [if_neg z, if_pos rfl]
      obtain ⟨σ1, f1, Q1, s1⟩ := ord_l hi hl lz h8 IH k f (t + 1) a σ (by omega) (by omega) Q
      rw [if_neg z]
      exact ⟨σ1, f1, Q1, s1⟩
    rw [if_pos z, if_neg (by decide), if_pos ⟨by omega, by omega⟩, Int.toNat_natCast]
    have eo : i_and (left : Int) (i_xor (i_shl 1 (t : Int)) (-1)) = ((clr left t : Nat) : Int) := bit_out left hl t (by omega)
    rw [eo]
    obtain ⟨M, e44, h77, h76⟩ := Q
    have o : ∀ c, c ≠ 76 → up σ 76 i (t : Int) c = σ c := fun c hc => up_ne hc
    have Q1 : QM E hb n (i + 1) (upf tr i (t : Int)) a (up σ 76 i (t : Int)) := by
      refine ⟨M.keepq (fun c j q => by rw [o c (by omega)]), by rw [o 49 (by decide)]; exact e44, fun hn j hj => by rw [o 77 (by decide)]; exact h77 hn j hj, fun j hj => ?_⟩
      rw [up_get]
      show _ = if j = i then (t : Int) else tr j
      by_cases y : j = i
      · rw [if_pos ⟨rfl, y⟩, if_pos y]
      · rw [if_neg (fun x => y x.2), if_neg y]
        exact h76 j (by omega)
    obtain ⟨σ1, f1, Q2, s1⟩ := IH t a _ (by omega) z Q1
    rw [f1, Option.bind_some]
    dsimp only
    have Q3 : QM E hb n i tr (ordP E hb.1 one m (i + 1) (clr left t) (goesP E h t).2 (upf tr i (t : Int)) a) σ1 := by
      refine ⟨Q2.1, Q2.2.1, Q2.2.2.1, fun j hj => ?_⟩
      rw [Q2.2.2.2 j (by omega)]
      show (if j = i then (t : Int) else tr j) = tr j
      rw [if_neg (by omega)]
    obtain ⟨σ2, f2, Q4, s2⟩ := ord_l hi hl lz h8 IH k f (t + 1) _ σ1 (by omega) (by omega) Q3
    rw [if_pos z]
    exact ⟨σ2, f2, Q4, fun c j q => by rw [s2 c j q, s1 c j q, o c (by omega)]⟩
theorem ord10 {E : E6} {hb : Hs} {n one : Nat} (hn : n ≤ 5) (wfb : Wf hb) : ∀ (m d i left : Nat) (h : Hs) (tr : Nat → Int) (a : Int × (Nat → Int)) (σ : St), m + 1 ≤ d → i + m = n → left < 256 → pc8 left = m → (∀ u : Nat, u < 8 → left.testBit u = true → u < hb.1) → h = sk E tr hb i → (∀ j : Nat, j < i → 0 ≤ tr j ∧ tr j < (hb.1 : Int)) → QM E hb n i tr a σ → ∃ σ' : St, gX10_orders 49 d 0 [(i : Int), (left : Int), (one : Int)] σ = some (0, σ') ∧ QM E hb n i tr (ordP E hb.1 one m i left h tr a) σ' ∧ qS σ σ'
  | 0, d + 1, i, left, h, tr, a, σ, hd, hi, hl, hp, lz, eh, ht, Q => by
    rw [gX10_orders_s]
    show ∃ σ' : St, (Option.bind (fX10_orders (gX10_orders 49 d) 49 (i : Int) (left : Int) (one : Int) σ) fun q => some ((0 : Int), q)) = _ ∧ _
    have l0 := pc_zero left hl hp
    have ei : i = n := by omega
    subst ei
    subst l0
    obtain ⟨M, e44, h77, h76⟩ := Q
    obtain ⟨σ1, f1, k1, s1⟩ := keeps_eq (c := 75) (by decide) rfl M.1
    have M1 : MC E hb σ1 := M.keep (fun c j q => by rw [s1 c (by unfold pHM at q; omega)])
    obtain ⟨σ2, f2, q2, s2⟩ := leaf10 (E := E) (hb := hb) (one := one) (tr := tr) (a := a) (x2 := ((0 : Nat) : Int)) (cl := gX10_orders 49 d) hn wfb ht i FU 0 σ1 (by omega) (by unfold FU; omega) M1 k1 (by rw [s1 49 (by decide)]; exact e44) (fun hn j hj => by rw [s1 77 (by decide)]; exact h77 hn j hj) (fun j hj => by rw [s1 76 (by decide)]; exact h76 j hj)
    have f2' : fX10_orders_15 (gX10_orders 49 d) 49 (i : Int) ((0 : Nat) : Int) (one : Int) FU 0 σ1 = _ := f2
    unfold fX10_orders ordP
    simp only [rfS]
    rw [if_pos (by omega), f1, Option.bind_some, f2', Option.bind_some]
    refine ⟨σ2, rfl, ?_, fun c j q => by rw [s2 c j q, s1 c (by omega)]⟩
    rw [eh]
    exact q2
  | m + 1, d + 1, i, left, h, tr, a, σ, hd, hi, hl, hp, lz, eh, ht, Q => by
    rw [gX10_orders_s]
    show ∃ σ' : St, (Option.bind (fX10_orders (gX10_orders 49 d) 49 (i : Int) (left : Int) (one : Int) σ) fun q => some ((0 : Int), q)) = _ ∧ _
    have ln : left ≠ 0 := fun z => by
      rw [z] at hp
      have p0 : pc8 0 = 0 := by decide
      omega
    unfold fX10_orders ordP
    rw [if_neg (by omega)]
    obtain ⟨σ1, f1, Q1, s1⟩ := ord_l (E := E) (hb := hb) (h := h) (n := n) (i := i) (m := m) (left := left) (one := one) (tr := tr) (cl := gX10_orders 49 d) (by omega) hl lz wfb.1.1 (fun t a σ ht1 hb1 Q' => by
      have t8 : t < 8 := by
        have := wfb.1.1
        omega
      have pq := pc_clr left hl t t8 hb1
      obtain ⟨y1, y2⟩ := bit_out_t left hl t t8
      refine ord10 hn wfb m d (i + 1) (clr left t) (goesP E h t).2 (upf tr i (t : Int)) a σ (by omega) (by omega) y1 (by omega) (fun u hu hu2 => ?_) ?_ (fun j hj => ?_) Q'
      · have q1 : (clr left t).testBit u = (left.testBit u && !decide (u = t)) := y2 u hu
        rw [q1] at hu2
        refine lz u hu ?_
        cases h3 : left.testBit u
        · rw [h3] at hu2
          simp at hu2
        · rfl
      · rw [sk_up, eh]
      · show 0 ≤ (if j = i then (t : Int) else tr j) ∧ (if j = i then (t : Int) else tr j) < _
        by_cases y : j = i
        · rw [if_pos y]
          omega
        · rw [if_neg y]
          exact ht j (by omega)) 8 FU 0 a σ (by omega) (by decide) Q
    have f1' : fX10_orders_99 (gX10_orders 49 d) 49 (i : Int) (left : Int) (one : Int) FU 0 σ = _ := f1
    rw [f1', Option.bind_some]
    exact ⟨σ1, rfl, Q1, s1⟩
theorem forSale_l {h : Hs} {σ : St} (hh : HM h σ) (hz : Hz h) : ∀ (m f k o : Nat), k + m = h.1 → m < f → BS o (fun u => decide (u < k) && opP h u) → ∃ r : Nat, fX10_forSale_4 49 f (o : Int) (k : Int) σ = some ((r : Int), σ) ∧ BS r (opP h)
  | 0, f + 1, k, o, hm, _, b => by
    unfold fX10_forSale_4
    rw [hh.1, if_pos (by omega)]
    refine ⟨o, rfl, b.congr (fun u hu => ?_)⟩
    unfold opP
    by_cases q : u < k
    · have : u < h.1 := by omega
      simp [q, this]
    · have : ¬ u < h.1 := by omega
      simp [q, this]
  | m + 1, f + 1, k, o, hm, hf, b => by
    have z1 := hz.1
    have e9 : i_add (k : Int) 1 = ((k + 1 : Nat) : Int) := by
      rw [ia (ok_in (by omega) (by omega))]
      omega
    have hk : k < h.1 := by omega
    unfold fX10_forSale_4 fX10_forSale_26
    rw [hh.1, if_neg (by omega), forSale1 hh (by omega), e9]
    by_cases q : h.2.2.1 k 1 = -1 ∧ h.2.2.1 k 2 = 0
    · rw [if_pos q, b1]
      obtain ⟨r, r1, r2⟩ := b.or (t := k) (by omega)
      dsimp only
      rw [r1]
      refine forSale_l hh hz m f (k + 1) r (by omega) (by omega) (r2.congr (fun u hu => ?_))
      have ok : opP h k = true := by
        unfold opP
        exact decide_eq_true ⟨hk, q.1, q.2⟩
      by_cases z : u = k
      · subst z
        simp [ok]
      · by_cases y : u < k
        · simp [y, z, Nat.lt_succ_of_lt y]
        · simp [y, z, show ¬ u < k + 1 by omega]
    · rw [if_neg q, b0]
      dsimp only
      refine forSale_l hh hz m f (k + 1) o (by omega) (by omega) (b.congr (fun u hu => ?_))
      have ok : opP h k = false := by
        unfold opP
        exact decide_eq_false (fun z => q z.2)
      by_cases z : u = k
      · subst z
        simp [ok]
      · by_cases y : u < k
        · simp [y, Nat.lt_succ_of_lt y]
        · simp [y, show ¬ u < k + 1 by omega]
theorem forSale_eq {h : Hs} {σ : St} {s : Nat} (hh : HM h σ) (hz : Hz h) (b : BS s (opP h)) : fX10_forSale 49 σ = some ((s : Int), σ) := by
  have z1 := hz.1
  obtain ⟨r, r1, r2⟩ := forSale_l hh hz h.1 FU 0 0 (by omega) (by unfold FU; omega) ⟨by decide, fun u _ => by simp⟩
  rw [b.uniq r2]
  exact r1
theorem ag_bestOrder (a1 : Int) (a2 : Int) (ha1 : ok32 a1) (ha2 : ok32 a2) : Ag (fun σ => fX9_bestOrder 0 a1 a2 σ) (fun σ => fX10_bestOrder 49 a1 a2 σ) := by
  intro σ hI
  obtain ⟨h, c1, c2, c3, i1, i2, i3, i4, i5, i6, i7⟩ := id hI
  have z2 := c3.1.2
  dsimp only
  unfold fX9_bestOrder fX8_orders fX10_bestOrder
  simp only [rfS, lnS, bc_eq]
  rw [hasBidder_eq c1]
  by_cases a : 0 ≤ a1 ∧ a1 < (h.2.1 : Int)
  case neg =>
    rw [if_neg a, b0]
    exact ⟨-1, σ, σ, rfl, by rw [isOne_eq c2 c3.1, if_neg a, b0], hI⟩
  rw [if_pos a, b1]
  by_cases b : -1 ≤ a2
  case neg =>
    rw [if_neg b]
    exact ⟨-1, σ, σ, rfl, by rw [isOne_eq c2 c3.1, if_pos a, b1, if_neg b], hI⟩
  rw [if_pos b]
  dsimp only
  obtain ⟨one, rfl⟩ : ∃ one : Nat, a1 = (one : Int) := ⟨a1.toNat, by omega⟩
  obtain ⟨E, τ, f, T, m, e9, e10, e11, s⟩ := think c1 c2 c3 i7
  rw [f, Option.bind_some]
  obtain ⟨st, o1, o2⟩ := T.2.2.2.1
  have bc := pc_bc st o2.1
  rw [o1, Option.bind_some, bc]
  dsimp only
  have fs : ∀ τ' : St, HM h τ' → fX10_forSale 49 τ' = some ((st : Int), τ') := fun τ' hm => forSale_eq hm c3.1 o2
  by_cases n5 : ((pc8 st : Nat) : Int) ≤ 5
  case neg =>
    rw [if_neg n5]
    refine ⟨-5, τ, τ, rfl, ?_, ?_⟩
    · rw [isOne_eq m.1 c3.1, if_pos a, b1, if_pos b]
      dsimp only
      rw [fs τ m.1, Option.bind_some, Option.bind_some, bc, if_neg n5]
    · exact inv_end ⟨c1, c3, i1, i2, i3, i4, i5, i6, i7⟩ m.1 (fun c j q => by rw [s c (by unfold scr at q; omega)])
  rw [if_pos n5]
  have em : m_min ((pc8 st : Nat) : Int) 5 = ((pc8 st : Nat) : Int) := by
    unfold m_min
    split <;> omega
  rw [em]
  obtain ⟨d, hd, hdl⟩ := dep_ex
  obtain ⟨τ0, e0⟩ : ∃ τ0 : St, τ0 = up (up τ 19 3 (-1)) 19 4 ((pc8 st : Nat) : Int) := ⟨_, rfl⟩
  rw [← e0]
  have ne : ∀ d, d ≠ 19 → τ0 d = τ d := fun d hd => by rw [e0, up_ne hd, up_ne hd]
  have Q : QC E h (pc8 st) 0 h (fun _ => 0) (-1, fun _ => 0) τ0 := by
    refine ⟨T.keep (fun c hc => ne c (by omega)) (by rw [ne 10 (by decide)]) (by rw [ne 10 (by decide)]) (fun b' k' n' x1 x2 x3 => by rw [ne 16 (by decide)]; exact T.2.2.2.2.2.2 b' k' n' x1 x2 x3), by rw [ne 10 (by decide), e10]; decide, by rw [ne 10 (by decide), e11]; decide, ?_, ?_, fun hn => absurd rfl hn, fun j hj => by omega⟩
    · rw [e0, up_get, if_pos ⟨rfl, rfl⟩]
    · rw [e0, up_get, if_neg (by omega), up_get, if_pos ⟨rfl, rfl⟩]
  obtain ⟨τ1, f1, Q1, -, s1⟩ := try9 (E := E) (h0 := h) (n := pc8 st) (one := one) (set := st) (by omega) (by omega) o2.1 (pc8 st) (d + 1) 0 st 0 h (fun _ => 0) (-1, fun _ => 0) τ0 (by omega) (by omega) o2.1 (by decide) rfl (fun u _ => by simp) (fun u hu hu2 => by rw [o2.2 u hu] at hu2; exact hu2) (fun u hu hu2 => by rw [o2.2 u hu]; exact hu2) Q
  have f1' : gX8_tryOrder 19 (d + 1) 0 [(one : Int), 0, 0] τ0 = some (0, τ1) := f1
  have f1'' : hX8_tryOrder 19 (one : Int) 0 0 τ0 = some τ1 := by
    unfold hX8_tryOrder
    rw [hd, f1', Option.bind_some]
  rw [f1'', Option.bind_some, Option.bind_some]
  dsimp only
  have sA : ∀ d, ¬ (d = 6 ∨ d = 7 ∨ (10 ≤ d ∧ d ≤ 21)) → τ1 d = σ d := fun d hd => by rw [s1 d (by omega), ne d (by omega), s d (by omega)]
  have m1 : MC E h τ1 := m.keepC (fun d hd => by rw [s1 d (by omega), ne d (by omega)])
  have pos := ordP_pos E h.1 (one : Int) (pc8 st) 0 st h (fun _ => 0) (-1, fun _ => 0) o2.1 rfl
  obtain ⟨R, eR⟩ : ∃ R : Int × (Nat → Int), R = ordP E h.1 (one : Int) (pc8 st) 0 st h (fun _ => 0) (-1, fun _ => 0) := ⟨_, rfl⟩
  rw [← eR] at pos Q1
  obtain ⟨-, -, -, -, q3, qb, -⟩ := Q1
  -- the model
  obtain ⟨ρ, eρ⟩ : ∃ ρ : St, ρ = up τ1 49 44 (-1) := ⟨_, rfl⟩
  have mρ : MC E h ρ := m1.keepq (fun c j q => by rw [eρ, up_get, if_neg (by omega)])
  obtain ⟨ρ1, g1, G1, t1⟩ := ord10 (E := E) (hb := h) (n := pc8 st) (one := one) (by omega) c3 (pc8 st) (d + 1) 0 st h (fun _ => 0) (-1, fun _ => 0) ρ (by omega) (by omega) o2.1 rfl (fun u hu hu2 => by
    rw [o2.2 u hu] at hu2
    exact (of_decide_eq_true (show decide (u < h.1 ∧ h.2.2.1 u 1 = -1 ∧ h.2.2.1 u 2 = 0) = true from hu2)).1) rfl (fun j hj => by omega) ⟨mρ, by rw [eρ, up_get, if_pos ⟨rfl, rfl⟩], fun hn => absurd rfl hn, fun j hj => by omega⟩
  rw [← eR] at G1
  have g1' : gX10_orders 49 (d + 1) 0 [0, (st : Int), (one : Int)] ρ = some (0, ρ1) := g1
  have g1'' : hX10_orders 49 0 (st : Int) (one : Int) ρ = some ρ1 := by
    unfold hX10_orders
    rw [hd, g1', Option.bind_some]
  have iv : Inv ρ1 := by
    refine inv_end ⟨c1, c3, i1, i2, i3, i4, i5, i6, i7⟩ G1.1.1 (fun c j q => ?_)
    unfold scr at q
    rw [t1 c j (by omega), eρ, up_get, if_neg (by omega), sA c (by omega)]
  obtain ⟨-, w44, w77, -⟩ := G1
  by_cases k0 : 0 ≤ a2
  · rw [if_pos k0]
    by_cases k1 : ((pc8 st : Nat) : Int) ≤ a2
    · rw [if_pos k1]
      refine ⟨-2, τ1, ρ1, rfl, ?_, iv⟩
      rw [isOne_eq m1.1 c3.1, if_pos a, b1, if_pos b]
      dsimp only
      rw [fs τ1 m1.1, Option.bind_some, Option.bind_some, bc, if_pos n5]
      dsimp only
      rw [← eρ, g1'', Option.bind_some, if_neg (by omega), Option.bind_some]
      dsimp only
      rw [if_pos k1]
    · rw [if_neg k1, if_pos ⟨by omega, by omega⟩]
      refine ⟨_, τ1, ρ1, rfl, ?_, iv⟩
      rw [isOne_eq m1.1 c3.1, if_pos a, b1, if_pos b]
      dsimp only
      rw [fs τ1 m1.1, Option.bind_some, Option.bind_some, bc, if_pos n5]
      dsimp only
      rw [← eρ, g1'', Option.bind_some, if_neg (by omega), Option.bind_some]
      dsimp only
      rw [if_neg k1, if_pos ⟨by omega, by omega⟩, w77 (by omega) a2.toNat (by omega), qb (by omega) a2.toNat (by omega)]
  · rw [if_neg k0, q3]
    refine ⟨R.1, τ1, ρ1, rfl, ?_, iv⟩
    rw [isOne_eq m1.1 c3.1, if_pos a, b1, if_pos b]
    dsimp only
    rw [fs τ1 m1.1, Option.bind_some, Option.bind_some, bc, if_pos n5]
    dsimp only
    rw [← eρ, g1'', Option.bind_some, if_pos (by omega), w44]
