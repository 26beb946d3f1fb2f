/-! How much one must feign. -/
theorem setB_set {h : Hs} {b w : Nat} {u v : Int} : setB (setB h b w u) b w v = setB h b w v := by
  unfold setB
  refine congrArg (fun f => (h.1, h.2.1, h.2.2.1, f)) ?_
  funext a q
  show (if a = b ∧ q = w then v else if a = b ∧ q = w then u else h.2.2.2 a q) = if a = b ∧ q = w then v else h.2.2.2 a q
  split <;> rfl
theorem setB_id {h : Hs} {b w : Nat} : setB h b w (h.2.2.2 b w) = h := by
  unfold setB
  have : up2 h.2.2.2 b w (h.2.2.2 b w) = h.2.2.2 := by
    funext a q
    show (if a = b ∧ q = w then h.2.2.2 b w else h.2.2.2 a q) = h.2.2.2 a q
    by_cases z : a = b ∧ q = w
    · rw [if_pos z, z.1, z.2]
    · rw [if_neg z]
  rw [this]
theorem cnt_setB {h : Hs} {b w : Nat} {v x : Int} {n : Nat} : cnt (setB h b w v) x n = cnt h x n := cnt_congr n (fun _ _ => Iff.rfl)
theorem mis_setB {h : Hs} {b w : Nat} {v x : Int} {n : Nat} : mis (setB h b w v) x n = mis h x n := mis_congr n (fun _ _ => Iff.rfl)
theorem yrs_setB {E : E6} {h : Hs} {b w b' k : Nat} {v n : Int} (hw : w = 3 ∨ w = 4) : yrs E (setB h b w v) b' k n = yrs E h b' k n := yrs_congr (fun q q3 q4 => up2_t (by omega)) mis_setB
theorem wm_setB {E : E6} {h : Hs} {b w b' t : Nat} {v : Int} (hw : w = 3 ∨ w = 4) : wm E (setB h b w v) b' t = wm E h b' t := by
  unfold wm
  have e : cnt (setB h b w v) b' (setB h b w v).1 = cnt h b' h.1 := cnt_setB
  rw [yrs_setB hw, e]
  rfl
/-- a bidder feigns, or is examined, otherwise in thought -/
theorem TR.other {E : E6} {h0 h : Hs} {τ τ' : St} {b w : Nat} {v : Int} (T : TR E h0 h τ) (hw : w = 3 ∨ w = 4) (hb : b < h.2.1) (f : fitv h ((w + 4 : Nat) : Int) v) (hc : HC 11 (setB h0 b w v) τ') (s : Same τ τ' (fun d => d ≠ 12 ∧ d ≠ 13)) (hs : w = 3 ∨ τ 10 9 = 0) : TR E (setB h0 b w v) (setB h b w v) τ' := by
  obtain ⟨⟨k1, k2, k3⟩, ⟨w0, w1, l1, l2, l3, l4, l5⟩, ⟨x, x1, x2, x3⟩, ⟨o, o1, o2⟩, k7, k8, kn⟩ := T
  refine ⟨⟨hc, k2.keep k3 (fun c hc => s c (by omega)), by rw [s 4 (by omega)]; exact k3⟩, ⟨wf_setB w0 (by omega) (by omega) (fitv_mono (by omega) f), wf_setB w1 hb (by omega) f, ⟨l1, l2, l3, fun b' q hq => ?_, fun b' => ?_⟩⟩, ⟨x, x1, by rw [s 10 (by omega)]; exact x2, fun b' hb' => ?_⟩, ⟨o, by rw [s 10 (by omega)]; exact o1, o2⟩, fun b' hb' => ?_, fun b' hb' => ?_, fun b' k' n' y1 y2 y3 => ?_⟩
  · show (if _ then _ else _) = if _ then _ else _
    rw [l4 b' q hq]
  · rw [show (setB h0 b w v).1 = h0.1 from rfl, show (setB h b w v).1 = h.1 from rfl, mis_setB, mis_setB]
    exact l5 b'
  · have q := x3 b' hb'
    show (if _ then _ else _) = (1 : Int) ↔ ((if _ then _ else _) ≠ (0 : Int) ∨ _)
    by_cases z : b' = b ∧ 4 = w
    · rw [if_pos z, if_pos z]
      have hv : v = 0 ∨ v = 1 := by
        have e4 : w = 4 := by omega
        subst e4
        have m4 : most ((4 + 4 : Nat) : Int) = 1 := rfl
        unfold fitv at f
        rw [m4] at f
        omega
      have h9 : τ 10 9 = 0 := hs.resolve_left (by omega)
      have ex : x = 0 := by omega
      rw [ex, Nat.zero_testBit]
      constructor
      · intro y
        exact Or.inl (by omega)
      · intro y
        rcases y with y | y
        · omega
        · exact absurd y (by decide)
    · rw [if_neg z, if_neg z]
      exact q
  · rw [s 14 (by omega), k7 b' hb', show (setB h b w v).1 = h.1 from rfl, cnt_setB]
  · rw [s 15 (by omega), k8 b' hb', show (setB h b w v).1 = h.1 from rfl, mis_setB]
  · rw [s 16 (by omega), yrs_setB hw]
    exact kn b' k' n' y1 y2 y3
/-- the least from v on at which f says b, among m -/
def leastF (f : Nat → Int) (b : Int) : Nat → Nat → Int
  | 0, _ => -2
  | m + 1, v => if f v = b then (v : Int) else leastF f b m (v + 1)
theorem feign9 {E : E6} {h : Hs} {b t : Nat} {x1 : Int} (hb : b < h.2.1) (hw : Wf h) : ∀ (m n v : Nat) (u : Int) (τ : St), v + m = 10 → m < n → TR E (setB h b 3 u) (setB h b 3 u) τ → Wd E h t τ → ∃ τ' : St, fX9_feign_39 0 x1 n (b : Int) (v : Int) τ = some (leastF (fun v => win E (setB h b 3 v) t) b m v, τ') ∧ Same τ τ' (fun d => d ≠ 12 ∧ d ≠ 13)
  | 0, n + 1, v, u, τ, hm, _, T, W => by
    unfold fX9_feign_39
    rw [if_pos (by decide), if_pos (by show (9 : Int) < (v : Int); omega)]
    exact ⟨τ, rfl, fun _ _ => rfl⟩
  | m + 1, n + 1, v, u, τ, hm, hn, T, W => by
    have z2 := hw.1.2
    unfold fX9_feign_39
    simp only [rfS]
    rw [if_pos (by decide), if_neg (by show ¬ (9 : Int) < (v : Int); omega)]
    obtain ⟨τ1, f1, k1, s1⟩ := become_eq (i := (b : Int)) (w := 7) (v := (v : Int)) (by decide +kernel) T.1.1 T.2.1.1.1
    rw [f1, Option.bind_some]
    have e1 : hset (setB h b 3 u) (b : Int) 7 (v : Int) = setB h b 3 (v : Int) := (hset_B (h := setB h b 3 u) (w := 3) hb (by decide)).trans setB_set
    rw [e1] at k1
    have fv : fitv (setB h b 3 u) ((3 + 4 : Nat) : Int) (v : Int) := Or.inr ⟨by decide, by omega, by show (v : Int) ≤ 9; omega⟩
    have T1 := T.other (τ' := τ1) (w := 3) (v := (v : Int)) (Or.inl rfl) hb fv (by rw [setB_set]; exact k1) s1 (Or.inl rfl)
    rw [setB_set] at T1
    have W1 : Wd E (setB h b 3 (v : Int)) t τ1 := fun b' hb' => by
      rw [s1 17 ⟨by decide, by decide⟩, wm_setB (Or.inl rfl)]
      exact W b' hb'
    rw [winner9 T1 W1, Option.bind_some]
    dsimp only
    unfold leastF
    by_cases q : win E (setB h b 3 (v : Int)) t = (b : Int)
    · rw [if_pos q, if_pos q]
      exact ⟨τ1, rfl, s1⟩
    · rw [if_neg q, if_neg q]
      have e9 : i_add (v : Int) 1 = ((v + 1 : Nat) : Int) := by
        rw [ia (ok_in (by omega) (by omega))]
        omega
      rw [e9]
      obtain ⟨τ2, f2, s2⟩ := feign9 (x1 := x1) hb hw m n (v + 1) (v : Int) τ1 (by omega) (by omega) T1 (fun b' hb' => by rw [s1 17 ⟨by decide, by decide⟩]; exact W b' hb')
      exact ⟨τ2, f2, fun d hd => (s2 d hd).trans (s1 d hd)⟩
theorem feign10 {E : E6} {h : Hs} {b t : Nat} {x1 : Int} (hb : b < h.2.1) (ht : t < h.1) (hw : Wf h) (e2 : i_rem x1 10 = (t : Int)) : ∀ (v n : Nat) (u : Int) (σ : St), v ≤ 10 → v < n → MC E (setB h b 3 u) σ → ∃ σ' : St, fX10_feign_51 49 x1 n (b : Int) (h.2.2.2 b 3) (leastF (fun v => win E (setB h b 3 v) t) b (10 - v) v) ((v : Int) - 1) σ = some (leastF (fun v => win E (setB h b 3 v) t) b 10 0, σ') ∧ HM h σ' ∧ Same σ σ' (fun d => d ≠ 54 ∧ d ≠ 64 ∧ d ≠ 65)
  | 0, n + 1, u, σ, hv, _, m => by
    have z2 := hw.1.2
    have e21 : i_add 21 (b : Int) = ((21 + b : Nat) : Int) := by
      rw [ia (ok_in (by omega) (by omega))]
      omega
    unfold fX10_feign_51
    simp only [rfS, lnS, e21, Int.toNat_natCast]
    rw [if_pos (by omega), if_pos ⟨by omega, by omega⟩]
    refine ⟨_, rfl, ?_, fun d hd => up_ne hd.1⟩
    have := HM_B (w := 3) (b := b) (v := h.2.2.2 b 3) m.1 (by omega)
    rw [setB_set, setB_id] at this
    exact this
  | v + 1, n + 1, u, σ, hv, hn, m => by
    have z2 := hw.1.2
    have e21 : i_add 21 (b : Int) = ((21 + b : Nat) : Int) := by
      rw [ia (ok_in (by omega) (by omega))]
      omega
    have ev : ((v + 1 : Nat) : Int) - 1 = (v : Int) := by omega
    have em : i_add (v : Int) (-1) = (v : Int) - 1 := ia (ok_in (by omega) (by omega))
    unfold fX10_feign_51 fX10_feign_83
    simp only [rfS, lnS, e21, Int.toNat_natCast, ev, em, e2]
    rw [if_neg (by omega), if_pos ⟨by omega, by omega⟩]
    have fv : fitv h ((3 + 4 : Nat) : Int) (v : Int) := Or.inr ⟨by decide, by omega, by show (v : Int) ≤ 9; omega⟩
    have hm := HM_B (w := 3) (b := b) (v := (v : Int)) m.1 (by omega)
    rw [setB_set] at hm
    have m1 : MC E (setB h b 3 (v : Int)) (up σ 54 (21 + b) (v : Int)) := ⟨hm, m.2.1.keep (by rw [up_ne (by decide)]) (by rw [up_ne (by decide)]) (fun c h1 h2 => up_ne (by omega)), wf_setB hw hb (by decide) fv⟩
    obtain ⟨σ1, f1, s1⟩ := winner10 m1 (t := t) ht
    rw [f1, Option.bind_some]
    dsimp only
    have key : (if win E (setB h b 3 (v : Int)) t = (b : Int) then (v : Int) else leastF (fun v => win E (setB h b 3 v) t) b (10 - (v + 1)) (v + 1)) = leastF (fun v => win E (setB h b 3 v) t) b (10 - v) v := by
      rw [show 10 - v = (10 - (v + 1)) + 1 by omega]
      rfl
    obtain ⟨σ2, f2, q2, s2⟩ := feign10 hb ht hw e2 v n (v : Int) σ1 (by omega) (by omega) (m1.same s1)
    rw [← key] at f2
    refine ⟨σ2, ?_, q2, fun d hd => by rw [s2 d hd, s1 d hd.2, up_ne hd.1]⟩
    by_cases q : win E (setB h b 3 (v : Int)) t = (b : Int)
    · rw [if_pos q] at f2
      rw [if_pos q]
      exact f2
    · rw [if_neg q] at f2
      rw [if_neg q]
      exact f2
theorem ag_feign (a1 : Int) (ha1 : ok32 a1) : Ag (fun σ => fX9_feign 0 a1 σ) (fun σ => fX10_feign 49 a1 σ) := by
  intro σ hI
  obtain ⟨h, c1, c2, c3, i1, i2, i3, i4, i5, i6, i7⟩ := id hI
  have z2 := c3.1.2
  dsimp only
  have mm : ∀ τ : St, HM h τ → fX10_feign 49 a1 τ = if prP h a1 then (if inb (i_add 21 (i_div a1 10)) (LN (RF 49 6)) then fX10_feign_51 49 a1 FU (i_div a1 10) (τ (RF 49 6) (Int.toNat (i_add 21 (i_div a1 10)))) (-2) 9 τ else none) else some (-1, τ) := fun τ hm => pair10 (h := h) (A := fun τ => if inb (i_add 21 (i_div a1 10)) (LN (RF 49 6)) then fX10_feign_51 49 a1 FU (i_div a1 10) (τ (RF 49 6) (Int.toNat (i_add 21 (i_div a1 10)))) (-2) 9 τ else none) hm c3.1 ha1
  unfold fX9_feign
  simp only [rfS]
  rw [pair9 c1 ha1]
  by_cases a : prP h a1
  case neg =>
    rw [if_neg a, b0]
    exact ⟨_, σ, σ, rfl, by rw [mm σ c2, if_neg a], hI⟩
  rw [if_pos a, b1]
  dsimp only
  obtain ⟨b, t, d1, d2, hb, ht⟩ := pairN a
  obtain ⟨e1, e2⟩ := dv10 a.1 ha1
  rw [d1] at e1
  rw [d2] at e2
  rw [e1, e2]
  obtain ⟨E, τ, f, T, m, -, -, -, s⟩ := think c1 c2 c3 i7
  obtain ⟨τ1, f1, T1, W1, s1⟩ := considers_eq T ht
  rw [f, Option.bind_some, f1, Option.bind_some]
  have T1' : TR E (setB h b 3 (h.2.2.2 b 3)) (setB h b 3 (h.2.2.2 b 3)) τ1 := by
    rw [setB_id]
    exact T1
  obtain ⟨τ2, f2, s2⟩ := feign9 (x1 := a1) hb c3 10 FU 0 (h.2.2.2 b 3) τ1 (by omega) (by decide) T1' W1
  have f2' : fX9_feign_39 0 a1 FU (b : Int) 0 τ1 = _ := f2
  rw [f2']
  have m2 : MC E h τ2 := m.keepC (fun d hd => by rw [s2 d (by omega), s1 d (by omega)])
  have m2' : MC E (setB h b 3 (h.2.2.2 b 3)) τ2 := by
    rw [setB_id]
    exact m2
  obtain ⟨σ3, f3, q3, s3⟩ := feign10 (x1 := a1) hb ht c3 e2 10 FU (h.2.2.2 b 3) τ2 (by omega) (by decide) m2'
  have f3' : fX10_feign_51 49 a1 FU (b : Int) (h.2.2.2 b 3) (-2) 9 τ2 = _ := f3
  refine ⟨_, τ2, σ3, rfl, ?_, ?_⟩
  · rw [mm τ2 m2.1, if_pos a]
    simp only [rfS, lnS]
    have e21 : i_add 21 (b : Int) = ((21 + b : Nat) : Int) := by
      rw [ia (ok_in (by omega) (by omega))]
      omega
    have a3 : τ2 54 (21 + b) = h.2.2.2 b 3 := by
      have := m2.1.2.2.2 b 3 (by omega) (by decide)
      simpa using this
    rw [e1, e21, if_pos ⟨by omega, by omega⟩, Int.toNat_natCast, a3, f3']
  · exact inv_end ⟨c1, c3, i1, i2, i3, i4, i5, i6, i7⟩ q3 (fun c j q => by rw [s3 c (by unfold scr at q; omega), s2 c (by unfold scr at q; omega), s1 c (by unfold scr at q; omega), s c (by unfold scr at q; omega)])
