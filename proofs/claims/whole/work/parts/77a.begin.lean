/-! A thought begins. -/
theorem fill_i {d : Nat} {v : Int} : ∀ (n k : Nat) (τ : St), k ≤ LN d → LN d < k + n → ∃ τ' : St, fJ7_fill_53178_5 d v n (k : Int) (LN d : Int) τ = some τ' ∧ (∀ c j : Nat, ¬ (c = d ∧ k ≤ j ∧ j < LN d) → τ' c j = τ c j) ∧ ∀ j : Nat, k ≤ j → j < LN d → τ' d j = v := by
  have hl := ok_LN d
  unfold ok32 at hl
  intro n
  induction n with
  | zero => intro k τ h1 h2; omega
  | succ n ih =>
    intro k τ h1 h2
    rw [fJ7_fill_53178_5.eq_2]
    by_cases e : (LN d : Int) ≤ (k : Int)
    · rw [if_pos e]
      exact ⟨τ, rfl, fun _ _ _ => rfl, fun j q1 q2 => by omega⟩
    · rw [if_neg e, if_pos ⟨by omega, by omega⟩, ia (ok_in (by omega) (by omega)), Int.toNat_natCast]
      obtain ⟨τ', f1, f2, f3⟩ := ih (k + 1) (up τ d k v) (by omega) (by omega)
      rw [show ((k + 1 : Nat) : Int) = (k : Int) + 1 by omega] at f1
      refine ⟨τ', f1, fun c j q => ?_, fun j q1 q2 => ?_⟩
      · rw [f2 c j (by omega), up_get, if_neg (by omega)]
      · by_cases z : j = k
        · rw [z, f2 d k (by omega), up_get, if_pos ⟨rfl, rfl⟩]
        · exact f3 j (by omega) q2
theorem fill_eq {d : Nat} {v : Int} {τ : St} (hd : LN d < 1000) : ∃ τ' : St, fJ7_fill_53178 d v τ = some τ' ∧ Same τ τ' (fun c => c ≠ d) ∧ ∀ j : Nat, j < LN d → τ' d j = v := by
  obtain ⟨τ', f1, f2, f3⟩ := fill_i (d := d) (v := v) FU 0 τ (Nat.zero_le _) (by unfold FU; omega)
  exact ⟨τ', f1, fun c hc => funext fun j => f2 c j (fun z => hc z.1), fun j hj => f3 j (Nat.zero_le _) hj⟩
theorem cpy_ne {σ : St} {c sp d dp n a : Nat} (h : a ≠ d) : cpy σ c sp d dp n a = σ a := by
  unfold cpy upc
  rw [if_neg h]
theorem cpy_at {σ : St} {c d n j : Nat} : cpy σ c 0 d 0 n d j = if j < n then σ c j else σ d j := by
  unfold cpy upc
  rw [if_pos rfl]
  show (if 0 ≤ j ∧ j < 0 + n then σ c (0 + (j - 0)) else σ d j) = _
  by_cases q : j < n
  · rw [if_pos (by omega), if_pos q, show 0 + (j - 0) = j by omega]
  · rw [if_neg (by omega), if_neg q]
theorem copies_eq {c e0 e1 : Nat} {h : Hs} {σ : St} (r0 : RF c 0 = e0) (r1 : RF c 1 = e1) (l0 : LN e0 = 32) (l1 : LN e1 = 63) (d1 : e0 ≠ e1) (d2 : c ≠ e0) (d3 : c ≠ e1) (g1 : 3 < c) (g2 : 3 < e0) (g3 : 3 < e1) (hh : HC 1 h σ) : ∃ σ' : St, fX2_copies c 1 σ = some σ' ∧ HC c h σ' ∧ Same σ σ' (fun d => d ≠ c ∧ d ≠ e0 ∧ d ≠ e1) := by
  obtain ⟨a1, a2, a3, a4⟩ := hh
  unfold fX2_copies fX2_copies_44
  simp only [rfS, lnS, r0, r1, l0, l1]
  have q0 : Int.toNat 0 = 0 := rfl
  have q1 : Int.toNat ((32 : Nat) : Int) = 32 := rfl
  have q2 : Int.toNat ((63 : Nat) : Int) = 63 := rfl
  rw [if_pos (by decide), if_pos (by decide), q0, q1, q2]
  refine ⟨_, rfl, ⟨?_, ?_, fun t w ht hw => ?_, fun b w hb hw => ?_⟩, fun d hd => ?_⟩
  · rw [up_get, if_neg (by omega), up_get, if_pos ⟨rfl, rfl⟩, cpy_ne (by omega), cpy_ne (by omega)]
    exact a1
  · rw [up_get, if_pos ⟨rfl, rfl⟩, up_ne (by omega), cpy_ne (by omega), cpy_ne (by omega)]
    exact a2
  · rw [r0, up_ne (Ne.symm d2), up_ne (Ne.symm d2), cpy_ne d1, cpy_at, if_pos (by omega)]
    exact a3 t w ht hw
  · rw [r1, up_ne (Ne.symm d3), up_ne (Ne.symm d3), cpy_at, if_pos (by omega), cpy_ne (by omega)]
    exact a4 b w hb hw
  · rw [up_ne hd.1, up_ne hd.1, cpy_ne hd.2.2, cpy_ne hd.2.1]
theorem bit_or0 : ∀ s : Nat, s < 256 → i_or (s : Int) 0 = (s : Int) := by decide +kernel
theorem restarts_l {h : Hs} (hw : Wf h) : ∀ (n k : Nat) (τ : St), HC 11 h τ → k ≤ h.1 → h.1 < k + n → (∃ o : Nat, τ 10 8 = (o : Int) ∧ BS o (fun u => decide (u < k) && opP h u)) → (∀ b : Nat, b < 7 → τ 14 b = cnt h b k) → (∀ b : Nat, b < 7 → τ 15 b = mis h b k) → ∃ τ' : St, fX7_restarts_38 10 n (k : Int) τ = some τ' ∧ (∃ o : Nat, τ' 10 8 = (o : Int) ∧ BS o (opP h)) ∧ (∀ b : Nat, b < 7 → τ' 14 b = cnt h b h.1) ∧ (∀ b : Nat, b < 7 → τ' 15 b = mis h b h.1) ∧ (∀ j : Nat, j ≠ 8 → τ' 10 j = τ 10 j) ∧ Same τ τ' (fun d => d ≠ 10 ∧ d ≠ 14 ∧ d ≠ 15) := by
  have z1 := hw.1.1
  have z2 := hw.1.2
  have ho : isO 2 11 = true := by decide +kernel
  intro n
  induction n with
  | zero => intro k τ _ h1 h2; omega
  | succ n ih =>
    intro k τ hc h1 h2 ho8 hh14 hh15
    rw [fX7_restarts_38.eq_2]
    simp only [rfS, hc.1]
    by_cases e : (h.1 : Int) ≤ (k : Int)
    · rw [if_pos e]
      have ek : k = h.1 := by omega
      subst ek
      obtain ⟨o, o1, o2⟩ := ho8
      refine ⟨τ, rfl, ⟨o, o1, o2.congr (fun u hu => ?_)⟩, hh14, hh15, fun _ _ => rfl, fun _ _ => rfl⟩
      unfold opP
      by_cases q : u < h.1
      · simp [q]
      · simp [q]
    · have hk : k < h.1 := by omega
      obtain ⟨-, g1, g2, g3⟩ := wf_T hw hk
      obtain ⟨o, o1, o2⟩ := ho8
      have n1 : hnum h (k : Int) 1 = h.2.2.1 k 1 := hnum_T (w := 1) hk (by decide)
      have n2 : hnum h (k : Int) 2 = h.2.2.1 k 2 := hnum_T (w := 2) hk (by decide)
      have n3 : hnum h (k : Int) 3 = h.2.2.1 k 3 := hnum_T (w := 3) hk (by decide)
      have e9 : i_add (k : Int) 1 = ((k + 1 : Nat) : Int) := by
        rw [ia (ok_in (by omega) (by omega))]
        omega
      rw [if_neg e, number_eq ho hc hw.1, Option.bind_some]
      dsimp only
      rw [number_eq ho hc hw.1, Option.bind_some, n1, n2]
      unfold fX7_restarts_76 fX7_restarts_104 fX7_restarts_150
      simp only [rfS, lnS, e9]
      rw [hasBidder_eq hc]
      -- what the next step needs
      have next : ∀ τ1 : St, (∀ d, d ≠ 10 → d ≠ 14 → d ≠ 15 → τ1 d = τ d) → (∀ j : Nat, j ≠ 8 → τ1 10 j = τ 10 j) → (∃ o : Nat, τ1 10 8 = (o : Int) ∧ BS o (fun u => decide (u < k + 1) && opP h u)) → (∀ b : Nat, b < 7 → τ1 14 b = cnt h b (k + 1)) → (∀ b : Nat, b < 7 → τ1 15 b = mis h b (k + 1)) → ∃ τ' : St, fX7_restarts_38 10 n ((k + 1 : Nat) : Int) τ1 = some τ' ∧ (∃ o : Nat, τ' 10 8 = (o : Int) ∧ BS o (opP h)) ∧ (∀ b : Nat, b < 7 → τ' 14 b = cnt h b h.1) ∧ (∀ b : Nat, b < 7 → τ' 15 b = mis h b h.1) ∧ (∀ j : Nat, j ≠ 8 → τ' 10 j = τ 10 j) ∧ Same τ τ' (fun d => d ≠ 10 ∧ d ≠ 14 ∧ d ≠ 15) := by
        intro τ1 x1 x2 x3 x4 x5
        obtain ⟨τ', f, y1, y2, y3, y4, y5⟩ := ih (k + 1) τ1 (HC11.keep hc (fun c hc => x1 c (by omega) (by omega) (by omega))) (by omega) (by omega) x3 x4 x5
        exact ⟨τ', f, y1, y2, y3, fun j hj => (y4 j hj).trans (x2 j hj), fun d hd => (y5 d hd).trans (x1 d hd.1 hd.2.1 hd.2.2)⟩
      have opk : opP h k = decide (h.2.2.1 k 1 = -1 ∧ h.2.2.1 k 2 = 0) := by
        unfold opP
        simp [hk]
      have bsS : opP h k = false → BS o (fun u => decide (u < k + 1) && opP h u) := fun q => o2.congr (fun u hu => by
        by_cases z : u = k
        · subst z
          simp [q]
        · have : decide (u < k) = decide (u < k + 1) := by
            by_cases y : u < k
            · simp [y, Nat.lt_succ_of_lt y]
            · simp [y, show ¬ u < k + 1 by omega]
          rw [this])
      have c14 : ∀ b : Nat, b < 7 → ¬ (h.2.2.1 k 1 = (b : Int) ∧ h.2.2.1 k 2 = 0) → τ 14 b = cnt h b (k + 1) := fun b hb q => by
        conv => rhs; unfold cnt
        rw [if_neg q]
        exact hh14 b hb
      have c15 : ∀ b : Nat, b < 7 → ¬ (h.2.2.1 k 1 = (b : Int) ∧ h.2.2.1 k 2 = 1 ∧ 0 < h.2.2.1 k 3) → τ 15 b = mis h b (k + 1) := fun b hb q => by
        conv => rhs; unfold mis
        rw [if_neg q]
        exact hh15 b hb
      by_cases q1 : h.2.2.1 k 1 = -1
      · -- of the house
        rw [if_neg (show ¬ (0 ≤ h.2.2.1 k 1 ∧ h.2.2.1 k 1 < (h.2.1 : Int)) by omega)]
        by_cases q2 : h.2.2.1 k 2 = 0
        · rw [if_pos q2, b0]
          dsimp only
          rw [if_pos trivial, o1]
          obtain ⟨r, r1, r2⟩ := o2.or (t := k) (by omega)
          rw [r1]
          refine next _ (fun d d1 _ _ => up_ne d1) (fun j hj => by rw [up_get, if_neg (fun z => hj z.2)]) ⟨r, by simp [up], r2.congr (fun u hu => ?_)⟩ (fun b hb => by rw [up_ne (by decide)]; exact c14 b hb (by omega)) (fun b hb => by rw [up_ne (by decide)]; exact c15 b hb (by omega))
          have ok : opP h k = true := by
            rw [opk]
            simp [q1, q2]
          by_cases z : u = k
          · subst z
            simp [ok]
          · by_cases y : u < k
            · simp [y, z, Nat.lt_succ_of_lt y]
            · simp [y, z, show ¬ u < k + 1 by omega]
        · rw [if_neg q2, b0]
          dsimp only
          rw [if_neg (by decide), o1, bit_or0 o o2.1]
          have ok : opP h k = false := by
            rw [opk]
            simp [q1, q2]
          exact next _ (fun d d1 _ _ => up_ne d1) (fun j hj => by rw [up_get, if_neg (fun z => hj z.2)]) ⟨o, by simp [up], bsS ok⟩ (fun b hb => by rw [up_ne (by decide)]; exact c14 b hb (by omega)) (fun b hb => by rw [up_ne (by decide)]; exact c15 b hb (by omega))
      · obtain ⟨ob, hob⟩ : ∃ ob : Nat, h.2.2.1 k 1 = (ob : Int) := ⟨(h.2.2.1 k 1).toNat, by omega⟩
        have ok : opP h k = false := by
          rw [opk]
          simp [q1]
        rw [if_pos (show 0 ≤ h.2.2.1 k 1 ∧ h.2.2.1 k 1 < (h.2.1 : Int) by omega)]
        have hob7 : ob < 7 := by omega
        by_cases q2 : h.2.2.1 k 2 = 0
        · rw [if_pos q2, b1]
          dsimp only
          rw [if_pos trivial, hob, if_pos ⟨by omega, by omega⟩, if_pos ⟨by omega, by omega⟩, Int.toNat_natCast, hh14 ob hob7]
          have cb := cnt_le h ob k
          rw [ia (ok_in (by omega) (by omega))]
          refine next _ (fun d _ d1 _ => up_ne d1) (fun j hj => by rw [up_ne (by decide)]) ⟨o, by rw [up_ne (by decide)]; exact o1, bsS ok⟩ (fun b hb => ?_) (fun b hb => by rw [up_ne (by decide)]; exact c15 b hb (by omega))
          rw [up_get]
          by_cases z : b = ob
          · rw [if_pos ⟨rfl, z⟩]
            conv => rhs; unfold cnt
            rw [z, if_pos ⟨hob, q2⟩]
          · rw [if_neg (fun y => z y.2)]
            exact c14 b hb (by omega)
        · rw [if_neg q2, b1]
          dsimp only
          rw [if_neg (by decide), number_eq ho hc hw.1, Option.bind_some, n3]
          dsimp only
          by_cases q3 : h.2.2.1 k 3 ≤ 0
          · rw [if_pos q3]
            exact next _ (fun d _ _ _ => rfl) (fun j hj => rfl) ⟨o, o1, bsS ok⟩ (fun b hb => c14 b hb (by omega)) (fun b hb => c15 b hb (by omega))
          · rw [if_neg q3, hob, if_pos ⟨by omega, by omega⟩, if_pos ⟨by omega, by omega⟩, Int.toNat_natCast, hh15 ob hob7]
            have cb := mis_le h ob k
            rw [ia (ok_in (by omega) (by omega))]
            refine next _ (fun d _ _ d1 => up_ne d1) (fun j hj => by rw [up_ne (by decide)]) ⟨o, by rw [up_ne (by decide)]; exact o1, bsS ok⟩ (fun b hb => by rw [up_ne (by decide)]; exact c14 b hb (by omega)) (fun b hb => ?_)
            rw [up_get]
            by_cases z : b = ob
            · rw [if_pos ⟨rfl, z⟩]
              conv => rhs; unfold mis
              rw [z, if_pos ⟨hob, by omega, by omega⟩]
            · rw [if_neg (fun y => z y.2)]
              exact c15 b hb (by omega)
theorem restarts_eq {E : E6} {h : Hs} {τ : St} (hc : HC 11 h τ) (hg : GC τ E) (h3 : τ 4 3 = 8 ∨ τ 4 3 = 9) (hw : Wf h) (kn : Kn E h τ) : ∃ τ' : St, fX7_restarts 10 τ = some τ' ∧ TR E h h τ' ∧ τ' 10 9 = 0 ∧ τ' 10 10 = 0 ∧ τ' 10 11 = 0 ∧ Same τ τ' (fun d => d ≠ 10 ∧ d ≠ 14 ∧ d ≠ 15) := by
  have z1 := hw.1.1
  unfold fX7_restarts
  simp only [rfS]
  obtain ⟨τ1, f1, s1, v1⟩ := fill_eq (d := 14) (v := 0) (τ := up (up (up (up τ 10 8 0) 10 9 0) 10 10 0) 10 11 0) (by decide +kernel)
  rw [f1, Option.bind_some]
  obtain ⟨τ2, f2, s2, v2⟩ := fill_eq (d := 15) (v := 0) (τ := τ1) (by decide +kernel)
  rw [f2, Option.bind_some]
  have sm : ∀ d, d ≠ 10 → d ≠ 14 → d ≠ 15 → τ2 d = τ d := fun d d1 d2 d3 => by rw [s2 d d3, s1 d d2, up_ne d1, up_ne d1, up_ne d1, up_ne d1]
  have e10 : τ2 10 = up (up (up (up τ 10 8 0) 10 9 0) 10 10 0) 10 11 0 10 := by rw [s2 10 (by decide), s1 10 (by decide)]
  obtain ⟨τ3, f3, x1, x2, x3, x4, x5⟩ := restarts_l hw FU 0 τ2 (HC11.keep hc (fun c hc => sm c (by omega) (by omega) (by omega))) (Nat.zero_le _) (by unfold FU; omega) ⟨0, by rw [e10]; simp [up], ⟨by decide, fun u hu => by simp⟩⟩ (fun b hb => by rw [s2 14 (by decide)]; exact v1 b (by rw [lnS.2.2.2.2.2.2.2.2.2.1]; exact hb)) (fun b hb => v2 b (by rw [lnS.2.2.2.2.2.2.2.2.2.2.1]; exact hb))
  have f3' : fX7_restarts_38 10 FU 0 τ2 = some τ3 := f3
  rw [f3']
  have sm3 : ∀ d, d ≠ 10 → d ≠ 14 → d ≠ 15 → τ3 d = τ d := fun d d1 d2 d3 => (x5 d ⟨d1, d2, d3⟩).trans (sm d d1 d2 d3)
  have e9 : τ3 10 9 = 0 := by
    rw [x4 9 (by decide), e10]
    simp [up]
  refine ⟨τ3, rfl, ⟨⟨HC11.keep hc (fun c hc => sm3 c (by omega) (by omega) (by omega)), hg.keep h3 (fun c hc => sm3 c (by omega) (by omega) (by omega)), by rw [sm3 4 (by decide) (by decide) (by decide)]; exact h3⟩, ⟨hw, hw, ⟨rfl, rfl, fun _ => rfl, fun _ _ _ => rfl, fun _ => rfl⟩⟩, ⟨0, by decide, by rw [e9]; rfl, fun b hb => ?_⟩, x1, x2, x3, fun b' k' n' y1 y2 y3 => by rw [sm3 16 (by decide) (by decide) (by decide)]; exact kn b' k' n' y1 y2 y3⟩, e9, ?_, ?_, fun d hd => sm3 d hd.1 hd.2.1 hd.2.2⟩
  · have g := (wf_B hw hb).2.2
    rw [Nat.zero_testBit]
    constructor
    · intro z
      exact Or.inl (by omega)
    · intro z
      rcases z with z | z
      · omega
      · exact absurd z (by decide)
  · rw [x4 10 (by decide), e10]
    simp [up]
  · rw [x4 11 (by decide), e10]
    simp [up]
theorem begin_eq {E : E6} {h : Hs} {τ : St} (hc : HC 1 h τ) (hg : GC τ E) (h3 : τ 4 3 = 8 ∨ τ 4 3 = 9) (hw : Wf h) : ∃ τ' : St, fX7_begin 10 1 τ = some τ' ∧ TR E h h τ' ∧ τ' 10 9 = 0 ∧ τ' 10 10 = 0 ∧ τ' 10 11 = 0 ∧ Same τ τ' (fun d => d < 10 ∨ 16 < d) := by
  unfold fX7_begin
  simp only [rfS]
  obtain ⟨τ1, f1, c1, s1⟩ := copies_eq (c := 11) (e0 := 12) (e1 := 13) rfl rfl rfl rfl (by decide) (by decide) (by decide) (by decide) (by decide) (by decide) hc
  rw [f1, Option.bind_some]
  obtain ⟨τ2, f2, s2, v2⟩ := fill_eq (d := 16) (v := -1) (τ := τ1) (by decide +kernel)
  rw [f2, Option.bind_some]
  have sm : ∀ d, d ≠ 11 → d ≠ 12 → d ≠ 13 → d ≠ 16 → τ2 d = τ d := fun d d1 d2 d3 d4 => by rw [s2 d d4, s1 d ⟨d1, d2, d3⟩]
  obtain ⟨τ3, f3, T, e9, e10, e11, s3⟩ := restarts_eq (E := E) (τ := τ2) (HC11.keep c1 (fun c hc => s2 c (by omega))) (hg.keep h3 (fun c hc => sm c (by omega) (by omega) (by omega) (by omega))) (by rw [sm 4 (by decide) (by decide) (by decide) (by decide)]; exact h3) hw (fun b k n hb hk hn => Or.inl (v2 _ (by
    have z2 := hw.1.2
    have : LN 16 = 252 := rfl
    rw [this]
    omega)))
  rw [f3, Option.bind_some]
  exact ⟨τ3, rfl, T, e9, e10, e11, fun d hd => (s3 d (by omega)).trans (sm d (by omega) (by omega) (by omega) (by omega))⟩
