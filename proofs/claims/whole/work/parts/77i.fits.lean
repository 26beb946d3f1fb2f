/-! All constancies, all years of one that fit a book: fits. -/
theorem sk_same (E : E6) (R : Nat → Int) (h : Hs) : ∀ k : Nat, (sk E R h k).2.2.2 = h.2.2.2 ∧ ∀ b : Nat, mis (sk E R h k) b (sk E R h k).1 = mis h b h.1
  | 0 => ⟨rfl, fun _ => rfl⟩
  | k + 1 => by
    obtain ⟨a1, a2⟩ := sk_same E R h k
    obtain ⟨n1, n2, n3⟩ := goesP_n (E := E) (h := sk E R h k) (t := (R k).toNat)
    refine ⟨n3.trans a1, fun b => ?_⟩
    show mis (goesP E (sk E R h k) (R k).toNat).2 b (goesP E (sk E R h k) (R k).toNat).2.1 = _
    rw [n1, mis_goes (by omega)]
    exact a2 b
theorem yrs_sk {E : E6} {R : Nat → Int} {h : Hs} {k b q : Nat} {n : Int} : yrs E (sk E R h k) b q n = yrs E h b q n := yrs_congr (fun w _ _ => by rw [(sk_same E R h k).1]) ((sk_same E R h k).2 b)
theorem yrs_other {E : E6} {h : Hs} {b w b' q : Nat} {v n : Int} (hb : b' ≠ b) : yrs E (setB h b w v) b' q n = yrs E h b' q n := yrs_congr (fun w' _ _ => up2_t (fun z => hb z.1)) mis_setB
def KnO (E : E6) (h : Hs) (b : Nat) (τ : St) : Prop := ∀ b' k n : Nat, b' ≠ b → b' < h.2.1 → k < 4 → n < 9 → (τ 16 ((b' * 4 + k) * 9 + n) = -1 ∨ τ 16 ((b' * 4 + k) * 9 + n) = yrs E h b' k n)
theorem kno_of {E : E6} {R : Nat → Int} {h : Hs} {b w j : Nat} {v : Int} {τ : St} (k : Kn E (sk E R (setB h b w v) j) τ) : KnO E h b τ := by
  intro b' q n h1 h2 h3 h4
  have := k b' q n (by rw [(sk_pk E R (setB h b w v) j).2.1]; exact h2) h3 h4
  rw [yrs_sk, yrs_other h1] at this
  exact this
theorem varies_l {x2 x3 : Int} {b : Nat} (hb : b < 7) : ∀ (m n i : Nat) (τ : St), i + m = 36 → m < n → ∃ τ1 : St, fX7_varies_24 10 (b : Int) x2 x3 n (i : Int) τ = fX7_varies_52 10 (b : Int) x2 x3 τ1 ∧ (∀ j : Nat, τ1 16 j = if b * 36 + i ≤ j ∧ j < b * 36 + 36 then -1 else τ 16 j) ∧ Same τ τ1 (fun d => d ≠ 16)
  | 0, n + 1, i, τ, hm, _ => by
    unfold fX7_varies_24
    rw [if_pos (by omega)]
    exact ⟨τ, rfl, fun j => by rw [if_neg (by omega)], fun _ _ => rfl⟩
  | m + 1, n + 1, i, τ, hm, hn => by
    have e9 : i_add (i : Int) 1 = ((i + 1 : Nat) : Int) := by
      rw [ia (ok_in (by omega) (by omega))]
      omega
    have ep : i_add (i_mul (i_mul (b : Int) 4) 9) (i : Int) = ((b * 36 + i : Nat) : Int) := by
      rw [im (x := (b : Int)) (ok_in (by omega) (by omega)), im (ok_in (by omega) (by omega)), ia (ok_in (by omega) (by omega))]
      omega
    unfold fX7_varies_24
    simp only [rfS, lnS, ep, e9, Int.toNat_natCast]
    rw [if_neg (by omega), if_pos ⟨by omega, by omega⟩]
    obtain ⟨τ1, f1, g1, s1⟩ := varies_l (x2 := x2) (x3 := x3) hb m n (i + 1) (up τ 16 (b * 36 + i) (-1)) (by omega) (by omega)
    refine ⟨τ1, f1, fun j => ?_, fun d hd => by rw [s1 d hd, up_ne hd]⟩
    rw [g1 j, up_get]
    by_cases z : j = b * 36 + i
    · rw [if_neg (by omega), if_pos ⟨rfl, z⟩, if_pos (by omega)]
    · rw [if_neg (show ¬ (16 = 16 ∧ j = b * 36 + i) from fun y => z y.2)]
      by_cases p : b * 36 + i ≤ j ∧ j < b * 36 + 36
      · rw [if_pos p, if_pos (by omega)]
      · rw [if_neg p, if_neg (by omega)]
theorem varies_eq {E : E6} {h : Hs} {b w : Nat} {u v : Int} {τ : St} (hb : b < h.2.1) (h9 : w < 9) (hw : Wf h) (fv : fitv h ((w + 4 : Nat) : Int) v) (hc : HC 11 (setB h b w u) τ) (hg : GC τ E) (h3 : τ 4 3 = 8 ∨ τ 4 3 = 9) (kn : KnO E h b τ) : ∃ τ' : St, fX7_varies 10 (b : Int) ((w + 4 : Nat) : Int) v τ = some τ' ∧ TR E (setB h b w v) (setB h b w v) τ' ∧ τ' 10 10 = 0 ∧ τ' 10 11 = 0 ∧ Same τ τ' (fun d => d ≠ 10 ∧ d ≠ 12 ∧ d ≠ 13 ∧ d ≠ 14 ∧ d ≠ 15 ∧ d ≠ 16) := by
  have z2 := hw.1.2
  obtain ⟨τ1, f1, k1, s1⟩ := become_B (h := setB h b w u) (b := b) (w := w) (v := v) (by decide +kernel) hc hw.1 hb h9
  rw [setB_set] at k1
  have s1' : Same τ τ1 (fun d => d ≠ 12 ∧ d ≠ 13) := s1
  obtain ⟨τ2, f2, g2, s2⟩ := varies_l (x2 := ((w + 4 : Nat) : Int)) (x3 := v) (b := b) (by omega) 36 FU 0 τ1 (by omega) (by decide)
  have f2' : fX7_varies_24 10 (b : Int) ((w + 4 : Nat) : Int) v FU 0 τ1 = _ := f2
  have sm : ∀ d, d ≠ 12 → d ≠ 13 → d ≠ 16 → τ2 d = τ d := fun d a1 a2 a3 => by rw [s2 d a3, s1' d ⟨a1, a2⟩]
  obtain ⟨τ3, f3, T, -, e10, e11, s3⟩ := restarts_eq (E := E) (h := setB h b w v) (τ := τ2) (HC11.keep k1 (fun c hc => s2 c (by omega))) (hg.keep h3 (fun c hc => sm c (by omega) (by omega) (by omega))) (by rw [sm 4 (by decide) (by decide) (by decide)]; exact h3) (wf_setB hw hb h9 fv) (fun b' k n x1 x2 x3 => by
    rw [g2]
    by_cases z : b' = b
    · rw [if_pos (by omega)]
      exact Or.inl rfl
    · rw [if_neg (by omega), s1' 16 (by decide), yrs_other z]
      exact kn b' k n z x1 x2 x3)
  refine ⟨τ3, ?_, T, e10, e11, fun d hd => by rw [s3 d (by omega), sm d (by omega) (by omega) (by omega)]⟩
  unfold fX7_varies
  simp only [rfS]
  rw [f1, Option.bind_some, hasBidder_eq k1, if_pos (show 0 ≤ (b : Int) ∧ (b : Int) < ((setB h b w v).2.1 : Int) from ⟨by omega, by show (b : Int) < (h.2.1 : Int); omega⟩), b1]
  dsimp only
  rw [f2']
  unfold fX7_varies_52
  rw [f3, Option.bind_some]
theorem dec_eq {v : Nat} (h : v < 1000) : i_add (v : Int) (-1) = (v : Int) - 1 := ia (ok_in (by omega) (by omega))
noncomputable def ftP (J : Nat → Int) : Nat → Int → Int → Int × Int
  | 0, many, least => (many, least)
  | v + 1, many, least => if J v = -2 then ftP J v (many + 1) (v : Int) else ftP J v many least
theorem fits9 {E : E6} {h : Hs} {b w s r len blen T : Nat} {R B : Nat → Int} {x1 x3 : Int} (hs : s < 6) (hr : r < 6) (hl : len ≤ 60) (hbl : blen ≤ 60) (h9 : w < 9) (hb : b < h.2.1) (hw : Wf h) (e1 : i_div x1 10 = (s : Int)) (e2 : i_rem x1 10 = (r : Int)) (hT : T ≤ 100) (top : ∀ v : Nat, v < T → fitv h ((w + 4 : Nat) : Int) (v : Int)) : ∀ (m n : Nat) (many least u : Int) (τ : St), m ≤ T → m < n → (0 ≤ many ∧ many + (m : Int) ≤ 200) → HC 11 (setB h b w u) τ → GC τ E → (τ 4 3 = 8 ∨ τ 4 3 = 9) → KnO E h b τ → CatC s R len τ → BkC r B blen τ → ∃ τ' : St, fX9_fits_82 0 x1 (b : Int) x3 n ((w + 4 : Nat) : Int) many least ((m : Int) - 1) τ = some (if i_rem x3 2 = 0 then (ftP (fun v => jd E R (setB h b w (v : Int)) B (ctl R len h.1) blen 0) m many least).1 else (ftP (fun v => jd E R (setB h b w (v : Int)) B (ctl R len h.1) blen 0) m many least).2, τ') ∧ Same τ τ' (fun d => d ≠ 6 ∧ d ≠ 7 ∧ ¬ (10 ≤ d ∧ d ≤ 17))
  | 0, n + 1, many, least, u, τ, _, _, _, _, _, _, _, _, _ => by
    unfold fX9_fits_82
    rw [if_pos (by omega)]
    refine ⟨τ, ?_, fun _ _ => rfl⟩
    by_cases z : i_rem x3 2 = 0
    · rw [if_pos z, if_pos z]
      unfold ftP
      rfl
    · rw [if_neg z, if_neg z]
      unfold ftP
      rfl
  | v + 1, n + 1, many, least, u, τ, hv, hn, m01, hc, hg, h3, kn, cc, bc => by
    obtain ⟨r1, r2, r3⟩ := sh_rf s hs
    obtain ⟨t1, t2, t3⟩ := sh_rf r hr
    have ib : inb (s : Int) 6 := ⟨by omega, by omega⟩
    have ib2 : inb (r : Int) 6 := ⟨by omega, by omega⟩
    have ev : ((v + 1 : Nat) : Int) - 1 = (v : Int) := by omega
    have hv1000 : v < 1000 := by omega
    have okm : ok32 (many + 1) := by
      obtain ⟨q1, q2⟩ := m01
      exact ok_in (by omega) (by omega)
    have ea : i_add many 1 = many + 1 := ia okm
    obtain ⟨τ1, f1, T1, e10, e11, s1⟩ := varies_eq (E := E) (u := u) (v := (v : Int)) hb h9 hw (top v (by omega)) hc hg h3 kn
    obtain ⟨τ2, j, f2, T2, s2⟩ := first_eq (R := R) (B := B) hs hr hl hbl T1 (cc.keep hs (fun d x y => s1 d (by omega))) (bc.keep hr (fun d x y => s1 d (by omega))) e10 e11
    have sA : ∀ d, ¬ (d = 6 ∨ d = 7 ∨ (10 ≤ d ∧ d ≤ 17)) → τ2 d = τ d := fun d hd => by rw [s2 d (by omega), s1 d (by omega)]
    have ih := fun (many' least' : Int) (q01 : 0 ≤ many' ∧ many' + (v : Int) ≤ 200) => fits9 (E := E) (T := T) (R := R) (B := B) (x1 := x1) (x3 := x3) hs hr hl hbl h9 hb hw e1 e2 hT top v n many' least' (v : Int) τ2 (by omega) (by omega) q01 T2.1.1 T2.1.2.1 T2.1.2.2 (kno_of T2.2.2.2.2.2.2) (cc.keep hs (fun d x y => sA d (by omega))) (bc.keep hr (fun d x y => sA d (by omega)))
    unfold fX9_fits_82 fX9_fits_136
    simp only [rfS, lnS, ev, dec_eq hv1000, ea, e1, e2]
    rw [if_neg (by omega), f1, Option.bind_some, if_pos ib, if_pos ib2]
    simp only [Int.toNat_natCast, r1, t1]
    rw [f2, Option.bind_some]
    dsimp only
    unfold ftP
    have eJ : jd E R (setB h b w (v : Int)) B (ctl R len (setB h b w (v : Int)).1) blen 0 = jd E R (setB h b w (v : Int)) B (ctl R len h.1) blen 0 := rfl
    rw [eJ]
    by_cases q : jd E R (setB h b w (v : Int)) B (ctl R len h.1) blen 0 = -2
    · rw [if_pos q, if_pos q]
      obtain ⟨τ3, f3, s3⟩ := ih (many + 1) (v : Int) (by omega)
      exact ⟨τ3, f3, fun d hd => by rw [s3 d hd, sA d (by omega)]⟩
    · rw [if_neg q, if_neg q]
      obtain ⟨τ3, f3, s3⟩ := ih many least (by omega)
      exact ⟨τ3, f3, fun d hd => by rw [s3 d hd, sA d (by omega)]⟩
theorem fits10 {E : E6} {h : Hs} {b w s r len blen T : Nat} {R B : Nat → Int} {x1 x3 : Int} (hs : s < 6) (hr : r < 6) (hl : len ≤ 60) (hbl : blen ≤ 60) (h9 : w < 9) (hb : b < h.2.1) (hw : Wf h) (e1 : i_div x1 10 = (s : Int)) (e2 : i_rem x1 10 = (r : Int)) (hT : T ≤ 100) (top : ∀ v : Nat, v < T → fitv h ((w + 4 : Nat) : Int) (v : Int)) : ∀ (m n : Nat) (many least u : Int) (σ : St), m ≤ T → m < n → (0 ≤ many ∧ many + (m : Int) ≤ 200) → MC E (setB h b w u) σ → CatM s R len σ → CatM r B blen σ → ∃ σ' : St, fX10_fits_83 49 x1 (b : Int) x3 n ((w + 4 : Nat) : Int) (h.2.2.2 b w) many least ((m : Int) - 1) σ = some (if i_rem x3 2 = 0 then (ftP (fun v => jd E R (setB h b w (v : Int)) B (ctl R len h.1) blen 0) m many least).1 else (ftP (fun v => jd E R (setB h b w (v : Int)) B (ctl R len h.1) blen 0) m many least).2, σ') ∧ HM h σ' ∧ Same σ σ' (fun d => ¬ (50 ≤ d ∧ d ≤ 54) ∧ d ≠ 64 ∧ d ≠ 65 ∧ d ≠ 75)
  | 0, n + 1, many, least, u, σ, _, _, _, M, _, _ => by
    obtain ⟨σ1, f1, k1, s1⟩ := becomes_eq (h := setB h b w u) (i := (b : Int)) (w := ((w + 4 : Nat) : Int)) (v := h.2.2.2 b w) M.1 hw.1 (Or.inr ⟨by omega, by omega, by omega, by show (b : Int) < (h.2.1 : Int); omega⟩)
    rw [hset_B (h := setB h b w u) hb h9, setB_set, setB_id] at k1
    unfold fX10_fits_83
    rw [if_pos (by omega), f1, Option.bind_some]
    refine ⟨σ1, ?_, k1, fun d hd => s1 d (by omega)⟩
    by_cases z : i_rem x3 2 = 0
    · rw [if_pos z, if_pos z]
      unfold ftP
      rfl
    · rw [if_neg z, if_neg z]
      unfold ftP
      rfl
  | v + 1, n + 1, many, least, u, σ, hv, hn, m01, M, cm, bm => by
    have ev : ((v + 1 : Nat) : Int) - 1 = (v : Int) := by omega
    have hv1000 : v < 1000 := by omega
    have okm : ok32 (many + 1) := by
      obtain ⟨q1, q2⟩ := m01
      exact ok_in (by omega) (by omega)
    have ea : i_add many 1 = many + 1 := ia okm
    obtain ⟨σ1, f1, k1, s1⟩ := becomes_eq (h := setB h b w u) (i := (b : Int)) (w := ((w + 4 : Nat) : Int)) (v := (v : Int)) M.1 hw.1 (Or.inr ⟨by omega, by omega, by omega, by show (b : Int) < (h.2.1 : Int); omega⟩)
    rw [hset_B (h := setB h b w u) hb h9, setB_set] at k1
    have M1 : MC E (setB h b w (v : Int)) σ1 := ⟨k1, M.2.1.keep (by rw [s1 49 (by omega)]) (by rw [s1 49 (by omega)]) (fun c h1 h2 => s1 c (by omega)), wf_setB hw hb h9 (top v (by omega))⟩
    obtain ⟨σ2, f2, k2, s2⟩ := unlike_eq (E := E) (R := R) (B := B) hs hr hl hbl e1 e2 M1 (cm.keep (fun d hd => s1 d (by omega))) (bm.keep (fun d hd => s1 d (by omega)))
    have sA : ∀ d, ¬ ((50 ≤ d ∧ d ≤ 54) ∨ d = 64 ∨ d = 65 ∨ d = 75) → σ2 d = σ d := fun d hd => by rw [s2 d (by omega), s1 d (by omega)]
    have M2 : MC E (setB h b w (v : Int)) σ2 := ⟨k2, M1.2.1.keep (by rw [s2 49 (by omega)]) (by rw [s2 49 (by omega)]) (fun c h1 h2 => s2 c (by omega)), M1.2.2⟩
    have ih := fun (many' least' : Int) (q01 : 0 ≤ many' ∧ many' + (v : Int) ≤ 200) => fits10 (E := E) (T := T) (R := R) (B := B) (x1 := x1) (x3 := x3) hs hr hl hbl h9 hb hw e1 e2 hT top v n many' least' (v : Int) σ2 (by omega) (by omega) q01 M2 (cm.keep (fun d hd => sA d (by omega))) (bm.keep (fun d hd => sA d (by omega)))
    unfold fX10_fits_83 fX10_fits_117
    simp only [ev, dec_eq hv1000, ea]
    rw [if_neg (by omega), f1, Option.bind_some, f2, Option.bind_some]
    dsimp only
    unfold ftP
    have eJ : jd E R (setB h b w (v : Int)) B (ctl R len (setB h b w (v : Int)).1) blen 0 = jd E R (setB h b w (v : Int)) B (ctl R len h.1) blen 0 := rfl
    rw [eJ]
    by_cases q : jd E R (setB h b w (v : Int)) B (ctl R len h.1) blen 0 = -2
    · rw [if_pos q, if_pos q]
      obtain ⟨τ3, f3, k3, s3⟩ := ih (many + 1) (v : Int) (by omega)
      exact ⟨τ3, f3, k3, fun d hd => by rw [s3 d hd, sA d (by omega)]⟩
    · rw [if_neg q, if_neg q]
      obtain ⟨τ3, f3, k3, s3⟩ := ih many least (by omega)
      exact ⟨τ3, f3, k3, fun d hd => by rw [s3 d hd, sA d (by omega)]⟩
theorem fits_both {h : Hs} {σ : St} {a1 a3 : Int} {b w s r T : Nat} (ha1 : ok32 a1) (hI : HC 1 h σ ∧ HM h σ ∧ Wf h ∧ InvImg h σ ∧ InvLed σ ∧ InvChg h σ ∧ InvTape σ ∧ InvLots σ ∧ (∀ s : Nat, s < 6 → InvShelf σ s) ∧ InvLaw σ) (hs : s < 6) (hr : r < 6) (h9 : w < 9) (hb : b < h.2.1) (e1 : i_div a1 10 = (s : Int)) (e2 : i_rem a1 10 = (r : Int)) (b0' : σ 72 r = 0) (hT : T ≤ 100) (top : ∀ v : Nat, v < T → fitv h ((w + 4 : Nat) : Int) (v : Int)) : ∃ (x : Int) (σ1 σ2 τ : St), fX7_begin 10 1 σ = some τ ∧ fX9_fits_82 0 a1 (b : Int) a3 FU ((w + 4 : Nat) : Int) 0 (-2) ((T : Int) - 1) τ = some (x, σ1) ∧ HM h σ1 ∧ σ1 72 = σ 72 ∧ fX10_fits_83 49 a1 (b : Int) a3 FU ((w + 4 : Nat) : Int) (h.2.2.2 b w) 0 (-2) ((T : Int) - 1) σ1 = some (x, σ2) ∧ Inv σ2 := by
  obtain ⟨c1, c2, c3, i1, i2, i3, i4, i5, i6, i7⟩ := hI
  obtain ⟨R, len, hl, cc, cm⟩ := cat_of (i6 s hs)
  obtain ⟨B, blen, hbl, hB, bc, bm⟩ := book_of (i6 r hr) b0'
  obtain ⟨E, τ, f, Tr, m, -, e10, e11, sτ⟩ := think c1 c2 c3 i7
  have hc : HC 11 (setB h b w (h.2.2.2 b w)) τ := by
    rw [setB_id]
    exact Tr.1.1
  obtain ⟨σ1, f1, s1⟩ := fits9 (E := E) (T := T) (R := R) (B := B) (x1 := a1) (x3 := a3) hs hr hl hbl h9 hb c3 e1 e2 hT top T FU 0 (-2) (h.2.2.2 b w) τ (Nat.le_refl _) (by unfold FU; omega) (by omega) hc Tr.1.2.1 Tr.1.2.2 (fun b' k n _ x1 x2 x3 => Tr.2.2.2.2.2.2 b' k n x1 x2 x3) (cc.keep hs (fun d x y => sτ d (by omega))) (bc.keep hr (fun d x y => sτ d (by omega)))
  have sA : ∀ d, ¬ (d = 6 ∨ d = 7 ∨ (10 ≤ d ∧ d ≤ 17)) → σ1 d = σ d := fun d hd => by rw [s1 d (by omega), sτ d (by omega)]
  have m1 : MC E h σ1 := m.keepC (fun d hd => s1 d (by omega))
  have m1' : MC E (setB h b w (h.2.2.2 b w)) σ1 := by
    rw [setB_id]
    exact m1
  obtain ⟨σ2, f2, k2, s2⟩ := fits10 (E := E) (T := T) (R := R) (B := B) (x1 := a1) (x3 := a3) hs hr hl hbl h9 hb c3 e1 e2 hT top T FU 0 (-2) (h.2.2.2 b w) σ1 (Nat.le_refl _) (by unfold FU; omega) (by omega) m1' (cm.keep (fun d hd => sA d (by omega))) (bm.keep (fun d hd => sA d (by omega)))
  exact ⟨_, σ1, σ2, τ, f, f1, m1.1, sA 72 (by omega), f2, inv_end ⟨c1, c3, i1, i2, i3, i4, i5, i6, i7⟩ k2 (fun c j q => by rw [s2 c (by unfold scr at q; omega), sA c (by unfold scr at q; omega)])⟩
theorem ag_fits (a1 : Int) (a2 : Int) (a3 : Int) (ha1 : ok32 a1) (ha2 : ok32 a2) (ha3 : ok32 a3) : Ag (fun σ => fX9_fits 0 a1 a2 a3 σ) (fun σ => fX10_fits 49 a1 a2 a3 σ) := by
  intro σ hI
  obtain ⟨h, c1, c2, c3, i1, i2, i3, i4, i5, i6, i7⟩ := id hI
  have z2 := c3.1.2
  dsimp only
  unfold fX9_fits fX10_fits
  simp only [rfS, lnS]
  rw [areS ha1]
  by_cases a : shP a1
  case neg =>
    rw [if_neg a, b0]
    exact ⟨-1, σ, σ, rfl, by rw [noBook_n ha1 a, Option.bind_some, if_pos rfl], hI⟩
  obtain ⟨s, r, hs, hr, e1, e2⟩ := shN a
  obtain ⟨d1, d2⟩ := dv10 a.1 ha1
  have g := refBB_in σ s r
  have nb : ∀ τ : St, fX10_noBook 49 a1 τ = some (refBB τ s r, τ) := fun τ => noBook_y ha1 a hs hr e1 e2
  rw [if_pos a, b1]
  dsimp only
  rw [hasBidder_eq c1]
  by_cases b : 0 ≤ a2 ∧ a2 < (h.2.1 : Int)
  case neg =>
    rw [if_neg b, b0]
    refine ⟨-1, σ, σ, rfl, ?_, hI⟩
    rw [nb, Option.bind_some, if_neg (by omega)]
    dsimp only
    rw [isOne_eq c2 c3.1, if_neg b, b0]
  obtain ⟨bd, rfl⟩ : ∃ bd : Nat, a2 = (bd : Int) := ⟨a2.toNat, by omega⟩
  rw [if_pos b, b1]
  by_cases w : 0 ≤ a3 ∧ a3 ≤ 3
  case neg =>
    refine ⟨-1, σ, σ, ?_, ?_, hI⟩
    · by_cases q : a3 < 0
      · rw [if_pos q]
      · rw [if_neg q, if_neg (by omega)]
    · rw [nb, Option.bind_some, if_neg (by omega)]
      dsimp only
      rw [isOne_eq c2 c3.1, if_pos b, b1]
      dsimp only
      rw [within_eq, if_neg w, b0]
  rw [if_neg (by omega), if_pos w.2]
  dsimp only
  rw [refBoth ha1 a hs hr e1 e2 (i6 s hs) (i6 r hr), Option.bind_some]
  dsimp only
  by_cases d : refBB σ s r = 0
  case neg =>
    rw [if_neg d]
    refine ⟨_, σ, σ, rfl, ?_, hI⟩
    rw [nb, Option.bind_some, if_neg (by omega)]
    dsimp only
    rw [isOne_eq c2 c3.1, if_pos b, b1]
    dsimp only
    rw [within_eq, if_pos w, b1, if_neg (by omega)]
  have g0 : σ 72 s = 0 ∧ σ 72 r = 0 := by omega
  rw [if_pos d]
  -- both roads
  have road : ∀ (wn T : Nat), (wn = 0 ∧ T = 10 ∧ ¬ 2 ≤ a3) ∨ (wn = 1 ∧ T = 100 ∧ 2 ≤ a3) → ∃ (x : Int) (σ1 σ2 τ : St), fX7_begin 10 1 σ = some τ ∧ fX9_fits_65 0 a1 (bd : Int) a3 ((wn + 4 : Nat) : Int) τ = some (x, σ1) ∧ HM h σ1 ∧ σ1 72 = σ 72 ∧ fX10_fits_50 49 a1 (bd : Int) a3 ((wn + 4 : Nat) : Int) σ1 = some (x, σ2) ∧ Inv σ2 := by
    intro wn T hwt
    have top : ∀ v : Nat, v < T → fitv h ((wn + 4 : Nat) : Int) (v : Int) := by
      intro v hv
      have m4 : most ((0 + 4 : Nat) : Int) = 9 := rfl
      have m5 : most ((1 + 4 : Nat) : Int) = 99 := rfl
      refine Or.inr ⟨by omega, by omega, ?_⟩
      rcases hwt with ⟨q1, q2, q3⟩ | ⟨q1, q2, q3⟩
      · subst q1
        rw [m4]
        omega
      · subst q1
        rw [m5]
        omega
    obtain ⟨x, σ1, σ2, τ, f, f1, m1, s72, f2, iv⟩ := fits_both (a3 := a3) (T := T) ha1 ⟨c1, c2, c3, i1, i2, i3, i4, i5, i6, i7⟩ hs hr (show wn < 9 by omega) (show bd < h.2.1 by omega) (d1.trans e1) (d2.trans e2) g0.2 (by omega) top
    refine ⟨x, σ1, σ2, τ, f, ?_, m1, s72, ?_, iv⟩
    · unfold fX9_fits_65
      rcases hwt with ⟨q1, q2, q3⟩ | ⟨q1, q2, q3⟩
      · subst q1
        subst q2
        have e : stv0.getD (Int.toNat ((0 + 4 : Nat) : Int)) 0 = ((10 : Nat) : Int) - 1 := by decide
        rw [if_pos (by decide), e, f1]
      · subst q1
        subst q2
        have e : stv0.getD (Int.toNat ((1 + 4 : Nat) : Int)) 0 = ((100 : Nat) : Int) - 1 := by decide
        rw [if_pos (by decide), e, f1]
    · unfold fX10_fits_50 fX10_fits_81
      rw [get_eq m1 c3.1 (Or.inr ⟨by omega, by omega, by omega, by omega⟩), Option.bind_some, hnum_B (by omega) (by omega)]
      dsimp only
      rcases hwt with ⟨q1, q2, q3⟩ | ⟨q1, q2, q3⟩
      · subst q1
        subst q2
        have e : ((10 : Nat) : Int) - 1 = 9 := by decide
        rw [e] at f2
        rw [if_pos (by decide), f2]
      · subst q1
        subst q2
        have e : ((100 : Nat) : Int) - 1 = 99 := by decide
        rw [e] at f2
        rw [if_neg (by decide), f2]
  have tail : ∀ τ : St, HM h τ → τ 72 = σ 72 → (Option.bind (fX10_noBook 49 a1 τ) fun q1 => if q1.1 = (-1) then (some ((-1), q1.2)) else (Option.bind (fX10_isOne 49 (bd : Int) q1.2) fun q2 => if q2.1 = 0 then (some ((-1), q2.2)) else (Option.bind (fX10_within a3 0 3 q2.2) fun q3 => if q3.1 = 0 then (some ((-1), q3.2)) else (if 0 ≤ q1.1 then (if 2 ≤ a3 then (fX10_fits_50 49 a1 (bd : Int) a3 5 q3.2) else (fX10_fits_50 49 a1 (bd : Int) a3 4 q3.2)) else (some (q1.1, q3.2)))))) = if 2 ≤ a3 then (fX10_fits_50 49 a1 (bd : Int) a3 5 τ) else (fX10_fits_50 49 a1 (bd : Int) a3 4 τ) := by
    intro τ hm h72
    have d' : refBB τ s r = 0 := by
      unfold refBB refB
      rw [h72]
      exact d
    rw [nb, Option.bind_some, d', if_neg (show ¬ (0 : Int) = -1 by decide)]
    dsimp only
    rw [isOne_eq hm c3.1, if_pos b, b1]
    dsimp only
    rw [within_eq, if_pos w, b1, if_pos (show (0 : Int) ≤ 0 by decide)]
  by_cases q : 2 ≤ a3
  · obtain ⟨x, σ1, σ2, τ, f, f1, m1, s72, f2, iv⟩ := road 1 100 (Or.inr ⟨rfl, rfl, q⟩)
    have f1' : fX9_fits_65 0 a1 (bd : Int) a3 5 τ = some (x, σ1) := f1
    have f2' : fX10_fits_50 49 a1 (bd : Int) a3 5 σ1 = some (x, σ2) := f2
    rw [f, Option.bind_some, if_pos q, f1']
    exact ⟨x, σ1, σ2, rfl, by rw [tail σ1 m1 s72, if_pos q, f2'], iv⟩
  · obtain ⟨x, σ1, σ2, τ, f, f1, m1, s72, f2, iv⟩ := road 0 10 (Or.inl ⟨rfl, rfl, q⟩)
    have f1' : fX9_fits_65 0 a1 (bd : Int) a3 4 τ = some (x, σ1) := f1
    have f2' : fX10_fits_50 49 a1 (bd : Int) a3 4 σ1 = some (x, σ2) := f2
    rw [f, Option.bind_some, if_neg q, f1']
    exact ⟨x, σ1, σ2, rfl, by rw [tail σ1 m1 s72, if_neg q, f2'], iv⟩
