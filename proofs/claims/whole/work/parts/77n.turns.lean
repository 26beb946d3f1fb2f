/-! Two who feign by turns: byTurns. -/
noncomputable def mvH (h : Hs) (p q : Nat) (w : Int) : Hs := if w = 0 then setB h p 3 (m_min 9 (i_add (h.2.2.2 p 3) 1)) else if w = 1 then setB h q 4 1 else h
theorem mvH_n {h : Hs} {p q : Nat} {w : Int} : (mvH h p q w).1 = h.1 ∧ (mvH h p q w).2.1 = h.2.1 := by
  unfold mvH
  split
  · exact ⟨rfl, rfl⟩
  · split <;> exact ⟨rfl, rfl⟩
noncomputable def ov (E : E6) (t : Nat) : Nat → Nat → Nat → Hs → Int
  | 0, p, q, h => if win E h t = (p : Int) then 1 else if win E h t = (q : Int) then -1 else 0
  | n + 1, p, q, h => m_max (m_max (-(ov E t n q p (mvH h p q 2))) (-(ov E t n q p (mvH h p q 0)))) (-(ov E t n q p (mvH h p q 1)))
theorem ov_in (E : E6) (t : Nat) : ∀ (n p q : Nat) (h : Hs), -1 ≤ ov E t n p q h ∧ ov E t n p q h ≤ 1
  | 0, p, q, h => by
    unfold ov
    split
    · omega
    · split <;> omega
  | n + 1, p, q, h => by
    have h1 := ov_in E t n q p (mvH h p q 2)
    have h2 := ov_in E t n q p (mvH h p q 0)
    have h3 := ov_in E t n q p (mvH h p q 1)
    unfold ov m_max
    split <;> split <;> omega
theorem up2_back {F g : Nat → Nat → Int} {p q : Nat} (e : ∀ a c : Nat, ¬ (a = q ∧ c = 4) → ¬ (a = p ∧ c = 3) → F a c = g a c) : up2 (up2 F p 3 (g p 3)) q 4 (g q 4) = g := by
  funext a c
  show (if a = q ∧ c = 4 then g q 4 else if a = p ∧ c = 3 then g p 3 else F a c) = g a c
  by_cases z1 : a = q ∧ c = 4
  · rw [if_pos z1, z1.1, z1.2]
  · rw [if_neg z1]
    by_cases z2 : a = p ∧ c = 3
    · rw [if_pos z2, z2.1, z2.2]
    · rw [if_neg z2]
      exact e a c z1 z2
theorem mv_back {h : Hs} {p q : Nat} {w : Int} : setB (setB (mvH h p q w) p 3 (h.2.2.2 p 3)) q 4 (h.2.2.2 q 4) = h := by
  unfold mvH
  split
  · have e := up2_back (F := up2 h.2.2.2 p 3 (m_min 9 (i_add (h.2.2.2 p 3) 1))) (g := h.2.2.2) (p := p) (q := q) (fun a c _ z2 => up2_t z2)
    show (h.1, h.2.1, h.2.2.1, up2 (up2 (up2 h.2.2.2 p 3 (m_min 9 (i_add (h.2.2.2 p 3) 1))) p 3 (h.2.2.2 p 3)) q 4 (h.2.2.2 q 4)) = h
    rw [e]
  · split
    · have e := up2_back (F := up2 h.2.2.2 q 4 1) (g := h.2.2.2) (p := p) (q := q) (fun a c z1 _ => up2_t z1)
      show (h.1, h.2.1, h.2.2.1, up2 (up2 (up2 h.2.2.2 q 4 1) p 3 (h.2.2.2 p 3)) q 4 (h.2.2.2 q 4)) = h
      rw [e]
    · have e := up2_back (F := h.2.2.2) (g := h.2.2.2) (p := p) (q := q) (fun _ _ _ _ => rfl)
      show (h.1, h.2.1, h.2.2.1, up2 (up2 h.2.2.2 p 3 (h.2.2.2 p 3)) q 4 (h.2.2.2 q 4)) = h
      rw [e]
theorem wf_fit {h : Hs} (hw : Wf h) {b w : Nat} (hb : b < h.2.1) (h9 : w < 9) : fitv h ((w + 4 : Nat) : Int) (h.2.2.2 b w) := by
  have := hw.2.2.2 (b : Int) ((w + 4 : Nat) : Int) (Or.inr (by omega))
  rw [hnum_B hb h9] at this
  exact this
theorem fit_more {h : Hs} (hw : Wf h) {p : Nat} (hp : p < h.2.1) : fitv h ((3 + 4 : Nat) : Int) (m_min 9 (i_add (h.2.2.2 p 3) 1)) := by
  have g := (wf_B hw hp).1 3 (by decide)
  rw [ia (ok_in (by omega) (by omega))]
  refine Or.inr ⟨by decide, ?_, ?_⟩
  · unfold m_min
    split <;> omega
  · show _ ≤ (9 : Int)
    unfold m_min
    split <;> omega
theorem fit_one {h : Hs} : fitv h ((4 + 4 : Nat) : Int) 1 := Or.inr ⟨by decide, by decide, by decide⟩
theorem mvH_wf {h : Hs} {p q : Nat} {w : Int} (hw : Wf h) (hp : p < h.2.1) (hq : q < h.2.1) : Wf (mvH h p q w) := by
  unfold mvH
  split
  · exact wf_setB hw hp (by decide) (fit_more hw hp)
  · split
    · exact wf_setB hw hq (by decide) fit_one
    · exact hw
def TW (E : E6) (h : Hs) (t : Nat) (τ : St) : Prop := TR E h h τ ∧ Wd E h t τ ∧ τ 10 9 = 0
theorem TW.set {E : E6} {h : Hs} {t : Nat} {τ : St} {b w : Nat} {v : Int} (k : TW E h t τ) (hw : w = 3 ∨ w = 4) (hb : b < h.2.1) (f : fitv h ((w + 4 : Nat) : Int) v) : ∃ τ' : St, fX2_become 11 (b : Int) ((w + 4 : Nat) : Int) v τ = some τ' ∧ TW E (setB h b w v) t τ' ∧ Same τ τ' (fun d => d ≠ 12 ∧ d ≠ 13) := by
  obtain ⟨T, W, e9⟩ := k
  obtain ⟨τ1, f1, k1, s1⟩ := become_B (b := b) (w := w) (v := v) (by decide +kernel) T.1.1 T.2.1.1.1 hb (by omega)
  have s1' : Same τ τ1 (fun d => d ≠ 12 ∧ d ≠ 13) := s1
  refine ⟨τ1, f1, ⟨T.other hw hb f k1 s1' (Or.inr e9), fun b' hb' => ?_, by rw [s1' 10 (by decide)]; exact e9⟩, s1'⟩
  rw [s1' 17 (by decide), wm_setB hw]
  exact W b' hb'
theorem TW.keep {E : E6} {h : Hs} {t : Nat} {τ τ' : St} (k : TW E h t τ) (s : ∀ d, d ≠ 19 → τ' d = τ d) : TW E h t τ' := by
  obtain ⟨T, W, e9⟩ := k
  exact ⟨T.keep (fun c hc => s c (by omega)) (by rw [s 10 (by decide)]) (by rw [s 10 (by decide)]) (fun b' k' n' x1 x2 x3 => by rw [s 16 (by decide)]; exact T.2.2.2.2.2.2 b' k' n' x1 x2 x3), fun b' hb' => by rw [s 17 (by decide)]; exact W b' hb', by rw [s 10 (by decide)]; exact e9⟩
theorem moved9 {E : E6} {h : Hs} {t p q : Nat} {τ : St} {cl : Nat → List Int → St → Option (Int × St)} {left w r : Int} (hp : p < h.2.1) (hq : q < h.2.1) (hr : -1 ≤ r ∧ r ≤ 1) (k : TW E h t τ) (hc : ∀ τ1 : St, TW E (mvH h p q w) t τ1 → ∃ τ2 : St, cl 1 [(q : Int), (p : Int), left] τ1 = some (r, τ2) ∧ TW E (mvH h p q w) t τ2 ∧ Same τ1 τ2 (fun d => d ≠ 12 ∧ d ≠ 13)) : ∃ τ' : St, fX8_moved cl 19 (p : Int) (q : Int) left w τ = some (-r, τ') ∧ TW E h t τ' ∧ Same τ τ' (fun d => d ≠ 12 ∧ d ≠ 13) := by
  have hw := k.1.2.1.1
  have z2 := hw.1.2
  have ho : isO 2 11 = true := by decide +kernel
  have n7 : hnum h (p : Int) 7 = h.2.2.2 p 3 := hnum_B (w := 3) hp (by decide)
  have n8 : hnum h (q : Int) 8 = h.2.2.2 q 4 := hnum_B (w := 4) hq (by decide)
  have mn := mvH_n (h := h) (p := p) (q := q) (w := w)
  -- behind the move
  have tail : ∀ τ1 : St, TW E (mvH h p q w) t τ1 → Same τ τ1 (fun d => d ≠ 12 ∧ d ≠ 13) → ∃ τ' : St, fX8_moved_73 cl 19 (p : Int) (q : Int) left w 11 (h.2.2.2 p 3) (h.2.2.2 q 4) τ1 = some (-r, τ') ∧ TW E h t τ' ∧ Same τ τ' (fun d => d ≠ 12 ∧ d ≠ 13) := by
    intro τ1 k1 s1
    obtain ⟨τ2, f2, k2, s2⟩ := hc τ1 k1
    obtain ⟨τ3, f3, k3, s3⟩ := k2.set (b := p) (w := 3) (v := h.2.2.2 p 3) (Or.inl rfl) (by omega) (fitv_mono (Nat.le_of_eq mn.2.symm) (wf_fit hw hp (by decide)))
    have mn3 : (setB (mvH h p q w) p 3 (h.2.2.2 p 3)).2.1 = h.2.1 := mn.2
    obtain ⟨τ4, f4, k4, s4⟩ := k3.set (b := q) (w := 4) (v := h.2.2.2 q 4) (Or.inr rfl) (by omega) (fitv_mono (Nat.le_of_eq mn3.symm) (wf_fit hw hq (by decide)))
    rw [mv_back] at k4
    have f3' : fX2_become 11 (p : Int) 7 (h.2.2.2 p 3) τ2 = some τ3 := f3
    have f4' : fX2_become 11 (q : Int) 8 (h.2.2.2 q 4) τ3 = some τ4 := f4
    refine ⟨τ4, ?_, k4, fun d hd => by rw [s4 d hd, s3 d hd, s2 d hd, s1 d hd]⟩
    unfold fX8_moved_73
    rw [f2, Option.bind_some]
    dsimp only
    rw [f3', Option.bind_some, f4', Option.bind_some, ing (ok_in (by omega) (by omega))]
  unfold fX8_moved
  simp only [rfS]
  rw [number_eq ho k.1.1.1 hw.1, Option.bind_some, n7]
  dsimp only
  rw [number_eq ho k.1.1.1 hw.1, Option.bind_some, n8]
  dsimp only
  by_cases w0 : w = 0
  · have e : mvH h p q w = setB h p 3 (m_min 9 (i_add (h.2.2.2 p 3) 1)) := by
      unfold mvH
      rw [if_pos w0]
    obtain ⟨τ1, f1, k1, s1⟩ := k.set (b := p) (w := 3) (v := m_min 9 (i_add (h.2.2.2 p 3) 1)) (Or.inl rfl) hp (fit_more hw hp)
    have f1' : fX2_become 11 (p : Int) 7 (m_min (stv0.getD (Int.toNat 7) 0) (i_add (h.2.2.2 p 3) 1)) τ = some τ1 := f1
    rw [if_pos w0, if_pos (by decide), f1', Option.bind_some]
    rw [← e] at k1
    exact tail τ1 k1 s1
  · rw [if_neg w0]
    by_cases w1 : w = 1
    · have e : mvH h p q w = setB h q 4 1 := by
        unfold mvH
        rw [if_neg w0, if_pos w1]
      obtain ⟨τ1, f1, k1, s1⟩ := k.set (b := q) (w := 4) (v := 1) (Or.inr rfl) hq fit_one
      have f1' : fX2_become 11 (q : Int) 8 1 τ = some τ1 := f1
      rw [if_pos w1, f1', Option.bind_some]
      rw [← e] at k1
      exact tail τ1 k1 s1
    · have e : mvH h p q w = h := by
        unfold mvH
        rw [if_neg w0, if_neg w1]
      rw [if_neg w1]
      exact tail τ (by rw [e]; exact k) (fun _ _ => rfl)
theorem mmax_l {x y : Int} (h : y ≤ x) : m_max x y = x := by
  unfold m_max
  rw [if_neg (by omega)]
theorem mmin_neg (x y : Int) : m_min (-x) (-y) = -(m_max x y) := by
  unfold m_min m_max
  split <;> split <;> omega
theorem st4 : stv4.getD (Int.toNat 0) 0 = 2 ∧ stv4.getD (Int.toNat 1) 0 = 0 ∧ stv4.getD (Int.toNat 2) 0 = 1 ∧ inb 0 (List.length stv4) ∧ inb 1 (List.length stv4) ∧ inb 2 (List.length stv4) := by decide
theorem ad01 : i_add 0 1 = 1 ∧ i_add 1 1 = 2 ∧ i_add 2 1 = 3 := by decide
theorem outLoop {E : E6} {h : Hs} {t p q : Nat} {x3 l : Int} {cl : Nat → List Int → St → Option (Int × St)} {v : Int → Int} (el : i_sub x3 1 = l) (hv : ∀ w, -1 ≤ v w ∧ v w ≤ 1) (step : ∀ (w : Int) (τ : St), TW E h t τ → ∃ τ' : St, cl 0 [(p : Int), (q : Int), l, w] τ = some (v w, τ') ∧ TW E h t τ' ∧ Same τ τ' (fun d => d ≠ 12 ∧ d ≠ 13)) (N : Nat) (τ : St) (k : TW E h t τ) : ∃ τ' : St, fX8_outcome_41 cl 19 (p : Int) (q : Int) x3 (N + 4) (-1) 0 τ = some (m_max (m_max (v 2) (v 0)) (v 1), τ') ∧ TW E h t τ' ∧ Same τ τ' (fun d => d ≠ 12 ∧ d ≠ 13) := by
  obtain ⟨s0, s1, s2, j0, j1, j2⟩ := st4
  obtain ⟨a0, a1, a2⟩ := ad01
  have v2 := hv 2
  have v0 := hv 0
  have v1 := hv 1
  obtain ⟨τ1, f1, k1, t1⟩ := step 2 τ k
  obtain ⟨τ2, f2, k2, t2⟩ := step 0 τ1 k1
  obtain ⟨τ3, f3, k3, t3⟩ := step 1 τ2 k2
  have m0 : m_max (-1) (v 2) = v 2 := by
    unfold m_max
    split <;> omega
  rw [fX8_outcome_41.eq_2, if_neg (by decide), if_neg (by decide), if_pos j0, s0, el, f1, Option.bind_some, a0]
  dsimp only
  rw [m0, fX8_outcome_41.eq_2, if_neg (by decide)]
  by_cases q1 : 1 ≤ v 2
  · rw [if_pos q1]
    refine ⟨τ1, ?_, k1, t1⟩
    have : m_max (m_max (v 2) (v 0)) (v 1) = v 2 := by
      unfold m_max
      split <;> split <;> omega
    rw [this]
  rw [if_neg q1, if_pos j1, s1, el, f2, Option.bind_some, a1]
  dsimp only
  rw [fX8_outcome_41.eq_2, if_neg (by decide)]
  by_cases q2 : 1 ≤ m_max (v 2) (v 0)
  · rw [if_pos q2]
    refine ⟨τ2, ?_, k2, fun d hd => by rw [t2 d hd, t1 d hd]⟩
    rw [mmax_l (show v 1 ≤ m_max (v 2) (v 0) by omega)]
  rw [if_neg q2, if_pos j2, s2, el, f3, Option.bind_some, a2]
  dsimp only
  rw [fX8_outcome_41.eq_2, if_pos (by decide)]
  exact ⟨τ3, rfl, k3, fun d hd => by rw [t3 d hd, t2 d hd, t1 d hd]⟩
theorem out9 {E : E6} {t : Nat} : ∀ (n d p q : Nat) (h : Hs) (τ : St), 2 * n + 1 ≤ d → n ≤ 10 → p < h.2.1 → q < h.2.1 → TW E h t τ → ∃ τ' : St, gX8_moved 19 d 1 [(p : Int), (q : Int), (n : Int)] τ = some (ov E t n p q h, τ') ∧ TW E h t τ' ∧ Same τ τ' (fun d => d ≠ 12 ∧ d ≠ 13)
  | 0, d + 1, p, q, h, τ, hd, _, hp, hq, k => by
    rw [gX8_moved_s]
    show ∃ τ' : St, fX8_outcome (gX8_moved 19 d) 19 (p : Int) (q : Int) ((0 : Nat) : Int) τ = _ ∧ _
    unfold fX8_outcome ov
    simp only [rfS]
    rw [if_neg (by omega), winner9 k.1 k.2.1, Option.bind_some]
    dsimp only
    refine ⟨τ, ?_, k, fun _ _ => rfl⟩
    by_cases z : win E h t = (p : Int)
    · rw [if_pos z, if_pos z]
    · rw [if_neg z, if_neg z]
      by_cases y : win E h t = (q : Int)
      · rw [if_pos y, if_pos y]
      · rw [if_neg y, if_neg y]
  | n + 1, d + 2, p, q, h, τ, hd, hn, hp, hq, k => by
    rw [gX8_moved_s]
    show ∃ τ' : St, fX8_outcome (gX8_moved 19 (d + 1)) 19 (p : Int) (q : Int) ((n + 1 : Nat) : Int) τ = _ ∧ _
    unfold fX8_outcome
    rw [if_pos (by omega)]
    have step : ∀ (w : Int) (τ : St), TW E h t τ → ∃ τ' : St, gX8_moved 19 (d + 1) 0 [(p : Int), (q : Int), (n : Int), w] τ = some (-(ov E t n q p (mvH h p q w)), τ') ∧ TW E h t τ' ∧ Same τ τ' (fun d => d ≠ 12 ∧ d ≠ 13) := by
      intro w τ k
      rw [gX8_moved_s]
      have mn := mvH_n (h := h) (p := p) (q := q) (w := w)
      exact moved9 (cl := gX8_moved 19 d) (left := (n : Int)) (w := w) hp hq (ov_in E t n q p (mvH h p q w)) k (fun τ1 k1 => out9 n d q p (mvH h p q w) τ1 (by omega) (by omega) (by omega) (by omega) k1)
    exact outLoop (l := (n : Int)) (v := fun w => -(ov E t n q p (mvH h p q w))) (by rw [isb (ok_in (by omega) (by omega))]; omega) (fun w => by have := ov_in E t n q p (mvH h p q w); omega) step 999996 τ k
noncomputable def tp (v : Int → Int) : Int × Int := if (if v 2 < v 0 then (v 0, (0 : Int)) else (v 2, 2)).1 < v 1 then (v 1, 1) else (if v 2 < v 0 then (v 0, (0 : Int)) else (v 2, 2))
theorem turns9 {E : E6} {h : Hs} {t p q n : Nat} {τ : St} (hn : n ≤ 5) (hp : p < h.2.1) (hq : q < h.2.1) (k : TW E h t τ) : ∃ τ' : St, fX8_turns 19 (p : Int) (q : Int) ((n + 1 : Nat) : Int) τ = some ((tp (fun w => -(ov E t n q p (mvH h p q w)))).1, τ') ∧ τ' 19 5 = (tp (fun w => -(ov E t n q p (mvH h p q w)))).2 ∧ Same τ τ' (fun d => d ≠ 12 ∧ d ≠ 13 ∧ d ≠ 19) := by
  obtain ⟨s0, s1, s2, j0, j1, j2⟩ := st4
  obtain ⟨a0, a1, a2⟩ := ad01
  have el : i_sub ((n + 1 : Nat) : Int) 1 = (n : Int) := by
    rw [isb (ok_in (by omega) (by omega))]
    omega
  have step : ∀ (w : Int) (τ : St), TW E h t τ → ∃ τ' : St, hX8_moved 19 (p : Int) (q : Int) (n : Int) w τ = some (-(ov E t n q p (mvH h p q w)), τ') ∧ TW E h t τ' ∧ Same τ τ' (fun d => d ≠ 12 ∧ d ≠ 13) := by
    intro w τ k
    have mn := mvH_n (h := h) (p := p) (q := q) (w := w)
    have e : hX8_moved 19 (p : Int) (q : Int) (n : Int) w τ = fX8_moved (gX8_moved 19 199) 19 (p : Int) (q : Int) (n : Int) w τ := rfl
    rw [e]
    exact moved9 (cl := gX8_moved 19 199) (left := (n : Int)) (w := w) hp hq (ov_in E t n q p (mvH h p q w)) k (fun τ1 k1 => out9 n 199 q p (mvH h p q w) τ1 (by omega) (by omega) (by omega) (by omega) k1)
  have vi : ∀ w, -1 ≤ -(ov E t n q p (mvH h p q w)) ∧ -(ov E t n q p (mvH h p q w)) ≤ 1 := fun w => by have := ov_in E t n q p (mvH h p q w); omega
  obtain ⟨v, ev⟩ : ∃ v : Int → Int, v = fun w => -(ov E t n q p (mvH h p q w)) := ⟨_, rfl⟩
  have step' : ∀ (w : Int) (τ : St), TW E h t τ → ∃ τ' : St, hX8_moved 19 (p : Int) (q : Int) (n : Int) w τ = some (v w, τ') ∧ TW E h t τ' ∧ Same τ τ' (fun d => d ≠ 12 ∧ d ≠ 13) := by
    rw [ev]
    exact step
  have vi' : ∀ w, -1 ≤ v w ∧ v w ≤ 1 := by
    rw [ev]
    exact vi
  rw [← ev]
  clear ev step vi
  have v2 := vi' 2
  obtain ⟨τ1, f1, k1, t1⟩ := step' 2 τ k
  have k1' : TW E h t (up τ1 19 5 2) := k1.keep (fun d hd => up_ne hd)
  obtain ⟨τ2, f2, k2, t2⟩ := step' 0 (up τ1 19 5 2) k1'
  have r2 : τ2 19 5 = 2 := by
    rw [t2 19 (by decide)]
    simp [up]
  have e0 : fX8_turns 19 (p : Int) (q : Int) ((n + 1 : Nat) : Int) τ = fX8_turns_7 19 (p : Int) (q : Int) ((n + 1 : Nat) : Int) (999996 + 4) (-2) 0 τ := rfl
  rw [e0, fX8_turns_7.eq_2, if_neg (by decide), if_pos j0, s0, el, f1, Option.bind_some]
  unfold fX8_turns_51
  dsimp only
  rw [if_neg (by omega), if_pos j0, a0, fX8_turns_7.eq_2, if_neg (by decide), if_pos j1, s1, el, f2, Option.bind_some]
  unfold fX8_turns_51
  dsimp only
  have fin : ∀ (x z : Int) (ω : St), TW E h t ω → ω 19 5 = z → (∀ d, d ≠ 12 → d ≠ 13 → d ≠ 19 → ω d = τ d) → ∃ τ' : St, fX8_turns_7 19 (p : Int) (q : Int) ((n + 1 : Nat) : Int) (999996 + 2) x 2 ω = some (if x < v 1 then v 1 else x, τ') ∧ τ' 19 5 = (if x < v 1 then 1 else z) ∧ Same τ τ' (fun d => d ≠ 12 ∧ d ≠ 13 ∧ d ≠ 19) := by
    intro x z ω kω e5 sω
    obtain ⟨ω1, g1, l1, u1⟩ := step' 1 ω kω
    rw [fX8_turns_7.eq_2, if_neg (by decide), if_pos j2, s2, el, g1, Option.bind_some]
    unfold fX8_turns_51
    dsimp only
    rw [a2]
    by_cases y : x < v 1
    · rw [if_neg (by omega), if_pos j2, if_pos y, if_pos y, fX8_turns_7.eq_2, if_pos (by decide)]
      exact ⟨_, rfl, by simp [up], fun d hd => by rw [up_ne hd.2.2, u1 d ⟨hd.1, hd.2.1⟩, sω d hd.1 hd.2.1 hd.2.2]⟩
    · rw [if_pos (by omega), if_neg y, if_neg y, fX8_turns_7.eq_2, if_pos (by decide)]
      exact ⟨_, rfl, by rw [u1 19 (by decide)]; exact e5, fun d hd => by rw [u1 d ⟨hd.1, hd.2.1⟩, sω d hd.1 hd.2.1 hd.2.2]⟩
  have sB : ∀ d, d ≠ 12 → d ≠ 13 → d ≠ 19 → τ2 d = τ d := fun d d1 d2 d3 => by rw [t2 d ⟨d1, d2⟩, up_ne d3, t1 d ⟨d1, d2⟩]
  rw [a1]
  unfold tp
  by_cases y : v 2 < v 0
  · rw [if_neg (by omega), if_pos j1, if_pos y]
    obtain ⟨τ3, f3, e3, u3⟩ := fin (v 0) 0 (up τ2 19 5 0) (k2.keep (fun d hd => up_ne hd)) (by simp [up]) (fun d d1 d2 d3 => by rw [up_ne d3, sB d d1 d2 d3])
    refine ⟨τ3, ?_, ?_, u3⟩
    · rw [f3]
      dsimp only
      by_cases x : v 0 < v 1
      · rw [if_pos x, if_pos x]
      · rw [if_neg x, if_neg x]
    · rw [e3]
      dsimp only
      by_cases x : v 0 < v 1
      · rw [if_pos x, if_pos x]
      · rw [if_neg x, if_neg x]
  · rw [if_pos (by omega), if_neg y]
    obtain ⟨τ3, f3, e3, u3⟩ := fin (v 2) 2 τ2 k2 r2 sB
    refine ⟨τ3, ?_, ?_, u3⟩
    · rw [f3]
      dsimp only
      by_cases x : v 2 < v 1
      · rw [if_pos x, if_pos x]
      · rw [if_neg x, if_neg x]
    · rw [e3]
      dsimp only
      by_cases x : v 2 < v 1
      · rw [if_pos x, if_pos x]
      · rw [if_neg x, if_neg x]
theorem way54 {h : Hs} {σ : St} {b w : Nat} (hh : HM h σ) (hb : b < 7) (hw : w < 9) : σ 54 (7 * w + b) = h.2.2.2 b w := hh.2.2.2 b w hb hw
abbrev tS (σ σ' : St) : Prop := Same σ σ' (fun d => d ≠ 54 ∧ d ≠ 64 ∧ d ≠ 65)
theorem MC.way {E : E6} {h : Hs} {σ : St} {b w : Nat} {v : Int} (M : MC E h σ) (hb : b < h.2.1) (hw : w < 9) (f : fitv h ((w + 4 : Nat) : Int) v) : MC E (setB h b w v) (up σ 54 (7 * w + b) v) := by
  have z2 := M.2.2.1.2
  exact ⟨HM_B M.1 (by omega), M.2.1.keep (by rw [up_ne (by decide)]) (by rw [up_ne (by decide)]) (fun c h1 h2 => up_ne (by omega)), wf_setB M.2.2 hb hw f⟩
theorem by10 {E : E6} {h : Hs} {p q : Nat} {σ : St} {cl : Nat → List Int → St → Option (Int × St)} {x1 x2 x3 x4 w r : Int} (hp : p < h.2.1) (hq : q < h.2.1) (M : MC E h σ) (hc : ∀ σ1 : St, MC E (mvH h p q w) σ1 → ∃ σ2 : St, cl 1 [i_add x1 1, x2, x3, x4] σ1 = some (r, σ2) ∧ MC E (mvH h p q w) σ2 ∧ tS σ1 σ2) : ∃ σ' : St, fX10_turnBy_36 cl 49 x1 x2 x3 x4 w (p : Int) (q : Int) σ = some (r, σ') ∧ MC E h σ' ∧ tS σ σ' := by
  have hw := M.2.2
  have z2 := hw.1.2
  have mn := mvH_n (h := h) (p := p) (q := q) (w := w)
  have e21 : i_add 21 (p : Int) = ((21 + p : Nat) : Int) := by
    rw [ia (ok_in (by omega) (by omega))]
    omega
  have e28 : i_add 28 (q : Int) = ((28 + q : Nat) : Int) := by
    rw [ia (ok_in (by omega) (by omega))]
    omega
  have j21 : inb ((21 + p : Nat) : Int) 63 := ⟨by omega, by omega⟩
  have j28 : inb ((28 + q : Nat) : Int) 63 := ⟨by omega, by omega⟩
  have y1 : σ 54 (21 + p) = h.2.2.2 p 3 := way54 (w := 3) M.1 (by omega) (by decide)
  have y2 : σ 54 (28 + q) = h.2.2.2 q 4 := way54 (w := 4) M.1 (by omega) (by decide)
  have tail : ∀ σ1 : St, MC E (mvH h p q w) σ1 → tS σ σ1 → ∃ σ' : St, fX10_turnBy_103 cl 49 x1 x2 x3 x4 w (p : Int) (q : Int) (h.2.2.2 p 3) (h.2.2.2 q 4) σ1 = some (r, σ') ∧ MC E h σ' ∧ tS σ σ' := by
    intro σ1 M1 s1
    obtain ⟨σ2, f2, M2, s2⟩ := hc σ1 M1
    have M3 := M2.way (b := p) (w := 3) (v := h.2.2.2 p 3) (by omega) (by decide) (fitv_mono (Nat.le_of_eq mn.2.symm) (wf_fit hw hp (by decide)))
    have mn3 : (setB (mvH h p q w) p 3 (h.2.2.2 p 3)).2.1 = h.2.1 := mn.2
    have M4 := M3.way (b := q) (w := 4) (v := h.2.2.2 q 4) (by omega) (by decide) (fitv_mono (Nat.le_of_eq mn3.symm) (wf_fit hw hq (by decide)))
    rw [mv_back] at M4
    have M4' : MC E h (up (up σ2 54 (21 + p) (h.2.2.2 p 3)) 54 (28 + q) (h.2.2.2 q 4)) := M4
    refine ⟨_, ?_, M4', fun d hd => by rw [up_ne hd.1, up_ne hd.1, s2 d hd, s1 d hd]⟩
    unfold fX10_turnBy_103
    simp only [rfS, lnS, e21, e28, if_pos j21, if_pos j28, Int.toNat_natCast]
    rw [f2, Option.bind_some]
  unfold fX10_turnBy_36 fX10_turnBy_86
  simp only [rfS, lnS, e21, e28, if_pos j21, if_pos j28, Int.toNat_natCast, y1, y2]
  by_cases w0 : w = 0
  · have e : mvH h p q w = setB h p 3 (m_min 9 (i_add (h.2.2.2 p 3) 1)) := by
      unfold mvH
      rw [if_pos w0]
    have M1 := M.way (b := p) (w := 3) (v := m_min 9 (i_add (h.2.2.2 p 3) 1)) hp (by decide) (fit_more hw hp)
    rw [← e] at M1
    have M1' : MC E (mvH h p q w) (up σ 54 (21 + p) (m_min 9 (i_add (h.2.2.2 p 3) 1))) := M1
    rw [if_pos w0, if_neg (by omega)]
    exact tail _ M1' (fun d hd => up_ne hd.1)
  · rw [if_neg w0]
    by_cases w1 : w = 1
    · have e : mvH h p q w = setB h q 4 1 := by
        unfold mvH
        rw [if_neg w0, if_pos w1]
      have M1 := M.way (b := q) (w := 4) (v := 1) hq (by decide) fit_one
      rw [← e] at M1
      have M1' : MC E (mvH h p q w) (up σ 54 (28 + q) 1) := M1
      rw [if_pos w1]
      exact tail _ M1' (fun d hd => up_ne hd.1)
    · have e : mvH h p q w = h := by
        unfold mvH
        rw [if_neg w0, if_neg w1]
      rw [if_neg w1]
      exact tail σ (by rw [e]; exact M) (fun _ _ => rfl)
theorem par2 : ∀ i : Nat, i < 8 → i_rem (i : Int) 2 = ((i % 2 : Nat) : Int) := by decide +kernel
/-- a turn by one way, told for the one who begins -/
theorem turnBy10 {E : E6} {h : Hs} {t a b i N n : Nat} {σ : St} {x3 w : Int} {cl : Nat → List Int → St → Option (Int × St)} (ha : a < h.2.1) (hb : b < h.2.1) (e1 : i_div x3 10 = (a : Int)) (e2 : i_rem x3 10 = (b : Int)) (hi : i < 6) (M : MC E h σ) (hc : ∀ (h' : Hs) (σ1 : St), h'.1 = h.1 → h'.2.1 = h.2.1 → MC E h' σ1 → ∃ σ2 : St, cl 1 [((i + 1 : Nat) : Int), (N : Int), x3, (t : Int)] σ1 = some (if (i + 1) % 2 = 0 then ov E t n a b h' else -(ov E t n b a h'), σ2) ∧ MC E h' σ2 ∧ tS σ1 σ2) : ∃ σ' : St, fX10_turnBy cl 49 (i : Int) (N : Int) x3 (t : Int) w σ = some (if i % 2 = 0 then -(ov E t n b a (mvH h a b w)) else ov E t n a b (mvH h b a w), σ') ∧ MC E h σ' ∧ tS σ σ' := by
  have e9 : i_add (i : Int) 1 = ((i + 1 : Nat) : Int) := by
    rw [ia (ok_in (by omega) (by omega))]
    omega
  unfold fX10_turnBy fX10_turnBy_17
  rw [par2 i (by omega), e1, e2]
  by_cases z : i % 2 = 0
  · rw [if_pos (by omega), if_pos (by omega), if_pos z]
    obtain ⟨g1, g2⟩ := mvH_n (h := h) (p := a) (q := b) (w := w)
    exact by10 ha hb M (fun σ1 M1 => by
      rw [e9]
      have := hc (mvH h a b w) σ1 g1 g2 M1
      rw [if_neg (by omega)] at this
      exact this)
  · rw [if_neg (by omega), if_neg (by omega), if_neg z]
    obtain ⟨g1, g2⟩ := mvH_n (h := h) (p := b) (q := a) (w := w)
    exact by10 hb ha M (fun σ1 M1 => by
      rw [e9]
      have := hc (mvH h b a w) σ1 g1 g2 M1
      rw [if_pos (by omega)] at this
      exact this)
theorem from10 {E : E6} {t a b N : Nat} {x3 : Int} (hN : N ≤ 5) (hab : a ≠ b) (e1 : i_div x3 10 = (a : Int)) (e2 : i_rem x3 10 = (b : Int)) : ∀ (n d i : Nat) (h : Hs) (σ : St), i + n = N → 2 * n + 1 ≤ d → a < h.2.1 → b < h.2.1 → t < h.1 → MC E h σ → ∃ σ' : St, gX10_turnBy 49 d 1 [(i : Int), (N : Int), x3, (t : Int)] σ = some (if i % 2 = 0 then ov E t n a b h else -(ov E t n b a h), σ') ∧ MC E h σ' ∧ tS σ σ'
  | 0, d + 1, i, h, σ, hi, hd, ha, hb, ht, M => by
    rw [gX10_turnBy_s]
    show ∃ σ' : St, fX10_turnFrom (gX10_turnBy 49 d) 49 (i : Int) (N : Int) x3 (t : Int) σ = _ ∧ _
    obtain ⟨σ1, f1, s1⟩ := winner10 M ht
    have M1 := M.same s1
    obtain ⟨σ2, f2, s2⟩ := winner10 M1 ht
    unfold fX10_turnFrom ov
    rw [if_pos (by omega), f1, Option.bind_some, e1, e2]
    dsimp only
    by_cases z : win E h t = (a : Int)
    · rw [if_pos z, if_pos z]
      refine ⟨σ1, ?_, M1, fun d hd => s1 d hd.2⟩
      rw [if_neg (show ¬ win E h t = (b : Int) by omega)]
      by_cases y : i % 2 = 0
      · rw [if_pos y]
      · rw [if_neg y, if_pos z]
        rfl
    · rw [if_neg z, if_neg z, f2, Option.bind_some]
      dsimp only
      refine ⟨σ2, ?_, M1.same s2, fun d hd => by rw [s2 d hd.2, s1 d hd.2]⟩
      by_cases x : win E h t = (b : Int)
      · rw [if_pos x, if_pos x, if_pos x]
        by_cases y : i % 2 = 0
        · rw [if_pos y]
        · rw [if_neg y]
      · rw [if_neg x, if_neg x, if_neg x]
        by_cases y : i % 2 = 0
        · rw [if_pos y]
        · rw [if_neg y, if_neg z]
          rfl
  | n + 1, d + 2, i, h, σ, hi, hd, ha, hb, ht, M => by
    rw [gX10_turnBy_s]
    show ∃ σ' : St, fX10_turnFrom (gX10_turnBy 49 (d + 1)) 49 (i : Int) (N : Int) x3 (t : Int) σ = _ ∧ _
    obtain ⟨a0, a1, a2⟩ := ad01
    have step : ∀ (w : Int) (σ : St), MC E h σ → ∃ σ' : St, gX10_turnBy 49 (d + 1) 0 [(i : Int), (N : Int), x3, (t : Int), w] σ = some (if i % 2 = 0 then -(ov E t n b a (mvH h a b w)) else ov E t n a b (mvH h b a w), σ') ∧ MC E h σ' ∧ tS σ σ' := by
      intro w σ M
      rw [gX10_turnBy_s]
      exact turnBy10 (cl := gX10_turnBy 49 d) (n := n) ha hb e1 e2 (by omega) M (fun h' σ1 g1 g2 M1 => from10 hN hab e1 e2 n d (i + 1) h' σ1 (by omega) (by omega) (by omega) (by omega) (by omega) M1)
    obtain ⟨σ1, f1, M1, s1⟩ := step 2 σ M
    obtain ⟨σ2, f2, M2, s2⟩ := step 0 σ1 M1
    obtain ⟨σ3, f3, M3, s3⟩ := step 1 σ2 M2
    have e0 : ∀ x : Int, fX10_turnFrom_56 (gX10_turnBy 49 (d + 1)) 49 (i : Int) (N : Int) x3 (t : Int) FU x 0 σ1 = fX10_turnFrom_56 (gX10_turnBy 49 (d + 1)) 49 (i : Int) (N : Int) x3 (t : Int) (999997 + 3) x 0 σ1 := fun _ => rfl
    unfold fX10_turnFrom
    rw [if_neg (by omega), f1, Option.bind_some, e0, fX10_turnFrom_56.eq_2, if_neg (by decide), f2, Option.bind_some, par2 i (by omega)]
    unfold fX10_turnFrom_98
    dsimp only
    rw [a0]
    refine ⟨σ3, ?_, M3, fun d hd => by rw [s3 d hd, s2 d hd, s1 d hd]⟩
    by_cases z : i % 2 = 0
    · rw [if_pos (by omega), if_pos z, if_pos z, if_pos z, fX10_turnFrom_56.eq_2, if_neg (by decide), f3, Option.bind_some, par2 i (by omega), if_pos (by omega)]
      unfold fX10_turnFrom_98
      dsimp only
      rw [a1, if_pos z, fX10_turnFrom_56.eq_2, if_pos (by decide)]
      rfl
    · rw [if_neg (by omega), if_neg z, if_neg z, if_neg z, fX10_turnFrom_56.eq_2, if_neg (by decide), f3, Option.bind_some, par2 i (by omega), if_neg (by omega)]
      unfold fX10_turnFrom_98
      dsimp only
      rw [a1, if_neg z, fX10_turnFrom_56.eq_2, if_pos (by decide)]
      have e : -(ov E t (n + 1) b a h) = m_min (m_min (ov E t n a b (mvH h b a 2)) (ov E t n a b (mvH h b a 0))) (ov E t n a b (mvH h b a 1)) := by
        show -(m_max (m_max (-(ov E t n a b (mvH h b a 2))) (-(ov E t n a b (mvH h b a 0)))) (-(ov E t n a b (mvH h b a 1)))) = _
        rw [← mmin_neg, ← mmin_neg, Int.neg_neg, Int.neg_neg, Int.neg_neg]
      rw [e]
theorem dep_ex : ∃ d : Nat, DEP = d + 1 ∧ 199 ≤ d := ⟨199, rfl, Nat.le_refl _⟩
theorem hturn_e : ∃ d : Nat, 199 ≤ d ∧ ∀ (x0 x1 x2 x3 w : Int) (σ : St), hX10_turnBy 49 x0 x2 x1 x3 w σ = fX10_turnBy (gX10_turnBy 49 d) 49 x0 x2 x1 x3 w σ := by
  obtain ⟨d, hd, hl⟩ := dep_ex
  refine ⟨d, hl, fun x0 x1 x2 x3 w σ => ?_⟩
  unfold hX10_turnBy
  rw [hd, gX10_turnBy_s]
  rfl
theorem top_step {E : E6} {h : Hs} {t a b n : Nat} {x1 : Int} (hn : n + 1 ≤ 5) (hab : a ≠ b) (ha : a < h.2.1) (hb : b < h.2.1) (ht : t < h.1) (e1 : i_div x1 10 = (a : Int)) (e2 : i_rem x1 10 = (b : Int)) (w : Int) (σ : St) (M : MC E h σ) : ∃ σ' : St, hX10_turnBy 49 0 ((n + 1 : Nat) : Int) x1 (t : Int) w σ = some (-(ov E t n b a (mvH h a b w)), σ') ∧ MC E h σ' ∧ tS σ σ' := by
  obtain ⟨d, hd, he⟩ := hturn_e
  have q := turnBy10 (cl := gX10_turnBy 49 d) (n := n) (i := 0) (N := n + 1) (w := w) (t := t) ha hb e1 e2 (by decide) M (fun h' σ1 g1 g2 M1 => from10 hn hab e1 e2 n d (0 + 1) h' σ1 (by omega) (by omega) (by omega) (by omega) (by omega) M1)
  rw [if_pos (show 0 % 2 = 0 from rfl), show ((0 : Nat) : Int) = 0 from rfl] at q
  rw [he]
  exact q
theorem top10 {E : E6} {h : Hs} {t a b n : Nat} {σ : St} {x1 x4 : Int} (hn : n + 1 ≤ 5) (hab : a ≠ b) (ha : a < h.2.1) (hb : b < h.2.1) (ht : t < h.1) (e1 : i_div x1 10 = (a : Int)) (e2 : i_rem x1 10 = (b : Int)) (M : MC E h σ) : ∃ σ' : St, (Option.bind (hX10_turnBy 49 0 ((n + 1 : Nat) : Int) x1 (t : Int) 2 σ) fun q6 => fX10_byTurns_84 49 x1 (t : Int) ((n + 1 : Nat) : Int) x4 FU q6.1 2 0 q6.2) = some (if x4 = 0 then (tp (fun w => -(ov E t n b a (mvH h a b w)))).1 else (tp (fun w => -(ov E t n b a (mvH h a b w)))).2, σ') ∧ MC E h σ' ∧ tS σ σ' := by
  obtain ⟨a0, a1, a2⟩ := ad01
  have step := fun (w : Int) (σ : St) (M : MC E h σ) => top_step (t := t) hn hab ha hb ht e1 e2 w σ M
  obtain ⟨v, ev⟩ : ∃ v : Int → Int, v = fun w => -(ov E t n b a (mvH h a b w)) := ⟨_, rfl⟩
  have step' : ∀ (w : Int) (σ : St), MC E h σ → ∃ σ' : St, hX10_turnBy 49 0 ((n + 1 : Nat) : Int) x1 (t : Int) w σ = some (v w, σ') ∧ MC E h σ' ∧ tS σ σ' := by
    rw [ev]
    exact step
  rw [← ev]
  clear ev step
  obtain ⟨σ1, f1, M1, s1⟩ := step' 2 σ M
  obtain ⟨σ2, f2, M2, s2⟩ := step' 0 σ1 M1
  obtain ⟨σ3, f3, M3, s3⟩ := step' 1 σ2 M2
  have e0 : fX10_byTurns_84 49 x1 (t : Int) ((n + 1 : Nat) : Int) x4 FU (v 2) 2 0 σ1 = fX10_byTurns_84 49 x1 (t : Int) ((n + 1 : Nat) : Int) x4 (999997 + 3) (v 2) 2 0 σ1 := rfl
  rw [f1, Option.bind_some]
  dsimp only
  rw [e0, fX10_byTurns_84.eq_2, if_neg (by decide), f2, Option.bind_some]
  unfold fX10_byTurns_120
  dsimp only
  rw [a0]
  refine ⟨σ3, ?_, M3, fun d hd => by rw [s3 d hd, s2 d hd, s1 d hd]⟩
  have fin : ∀ x z : Int, fX10_byTurns_84 49 x1 (t : Int) ((n + 1 : Nat) : Int) x4 (999997 + 2) x z 1 σ2 = some (if x4 = 0 then (if x < v 1 then v 1 else x) else (if x < v 1 then 1 else z), σ3) := by
    intro x z
    rw [fX10_byTurns_84.eq_2, if_neg (by decide), f3, Option.bind_some]
    unfold fX10_byTurns_120
    dsimp only
    rw [a1]
    by_cases y : x < v 1
    · rw [if_pos y, if_pos y, if_pos y, fX10_byTurns_84.eq_2, if_pos (by decide)]
      split <;> rfl
    · rw [if_neg y, if_neg y, if_neg y, fX10_byTurns_84.eq_2, if_pos (by decide)]
      split <;> rfl
  unfold tp
  by_cases y : v 2 < v 0
  · rw [if_pos y, if_pos y, fin]
    dsimp only
    by_cases x : v 0 < v 1
    · rw [if_pos x, if_pos x, if_pos x]
    · rw [if_neg x, if_neg x, if_neg x]
  · rw [if_neg y, if_neg y, fin]
    dsimp only
    by_cases x : v 2 < v 1
    · rw [if_pos x, if_pos x, if_pos x]
    · rw [if_neg x, if_neg x, if_neg x]
theorem ag_byTurns (a1 : Int) (a2 : Int) (a3 : Int) (a4 : Int) (ha1 : ok32 a1) (ha2 : ok32 a2) (ha3 : ok32 a3) (ha4 : ok32 a4) : Ag (fun σ => fX9_byTurns 0 a1 a2 a3 a4 σ) (fun σ => fX10_byTurns 49 a1 a2 a3 a4 σ) := by
  intro σ hI
  obtain ⟨h, c1, c2, c3, i1, i2, i3, i4, i5, i6, i7⟩ := id hI
  have z2 := c3.1.2
  dsimp only
  unfold fX9_byTurns fX10_byTurns
  simp only [rfS]
  by_cases n0 : a1 < 0
  · rw [if_pos n0]
    exact ⟨_, σ, σ, rfl, by rw [if_pos n0], hI⟩
  obtain ⟨d1, d2⟩ := dv10 (by omega) ha1
  rw [if_neg n0, d1, d2, hasBidder_eq c1]
  have on : ∀ (τ : St) (x : Int), HM h τ → fX10_isOne 49 x τ = some (if 0 ≤ x ∧ x < (h.2.1 : Int) then 1 else 0, τ) := fun τ x hm => isOne_eq hm c3.1
  by_cases q1 : 0 ≤ a1 / 10 ∧ a1 / 10 < (h.2.1 : Int)
  case neg =>
    rw [if_neg q1, b0]
    exact ⟨_, σ, σ, rfl, by rw [if_neg n0, on σ _ c2, if_neg q1, b0], hI⟩
  rw [if_pos q1, b1]
  dsimp only
  rw [hasBidder_eq c1]
  by_cases q2 : 0 ≤ a1 % 10 ∧ a1 % 10 < (h.2.1 : Int)
  case neg =>
    rw [if_neg q2, b0]
    refine ⟨_, σ, σ, rfl, ?_, hI⟩
    rw [if_neg n0, on σ _ c2, if_pos q1, b1]
    dsimp only
    rw [on σ _ c2, if_neg q2, b0]
  rw [if_pos q2, b1]
  by_cases q3 : a1 / 10 = a1 % 10
  · rw [if_pos q3]
    refine ⟨_, σ, σ, rfl, ?_, hI⟩
    rw [if_neg n0, on σ _ c2, if_pos q1, b1]
    dsimp only
    rw [on σ _ c2, if_pos q2, b1, if_pos q3]
  rw [if_neg q3]
  dsimp only
  rw [hasThing_eq c1]
  by_cases q4 : 0 ≤ a2 ∧ a2 < (h.1 : Int)
  case neg =>
    rw [if_neg q4, b0]
    refine ⟨_, σ, σ, rfl, ?_, hI⟩
    rw [if_neg n0, on σ _ c2, if_pos q1, b1]
    dsimp only
    rw [on σ _ c2, if_pos q2, b1, if_neg q3]
    dsimp only
    rw [isThing_eq c2 c3.1, if_neg q4, b0]
  rw [if_pos q4, b1]
  by_cases q5 : 1 ≤ a3 ∧ a3 ≤ 5
  case neg =>
    refine ⟨-2000000000, σ, σ, ?_, ?_, hI⟩
    · by_cases y : a3 < 1
      · rw [if_pos y]
      · rw [if_neg y, if_pos (by omega)]
    · rw [if_neg n0, on σ _ c2, if_pos q1, b1]
      dsimp only
      rw [on σ _ c2, if_pos q2, b1, if_neg q3]
      dsimp only
      rw [isThing_eq c2 c3.1, if_pos q4, b1]
      dsimp only
      rw [within_eq, if_neg q5, b0]
  rw [if_neg (by omega), if_neg (by omega)]
  by_cases q6 : 0 ≤ a4 ∧ a4 ≤ 1
  case neg =>
    refine ⟨-2000000000, σ, σ, ?_, ?_, hI⟩
    · by_cases y : a4 < 0
      · rw [if_pos y]
      · rw [if_neg y, if_neg (by omega)]
    · rw [if_neg n0, on σ _ c2, if_pos q1, b1]
      dsimp only
      rw [on σ _ c2, if_pos q2, b1, if_neg q3]
      dsimp only
      rw [isThing_eq c2 c3.1, if_pos q4, b1]
      dsimp only
      rw [within_eq, if_pos q5, b1]
      dsimp only
      rw [within_eq, if_neg q6, b0]
  rw [if_neg (by omega), if_pos q6.2]
  obtain ⟨a, ea⟩ : ∃ a : Nat, a1 / 10 = (a : Int) := ⟨(a1 / 10).toNat, by omega⟩
  obtain ⟨b, eb⟩ : ∃ b : Nat, a1 % 10 = (b : Int) := ⟨(a1 % 10).toNat, by omega⟩
  obtain ⟨t, rfl⟩ : ∃ t : Nat, a2 = (t : Int) := ⟨a2.toNat, by omega⟩
  obtain ⟨n, rfl⟩ : ∃ n : Nat, a3 = ((n + 1 : Nat) : Int) := ⟨(a3 - 1).toNat, by omega⟩
  have ht : t < h.1 := by omega
  obtain ⟨E, τ, f, T, m, e9, -, -, s⟩ := think c1 c2 c3 i7
  obtain ⟨τ1, f1, T1, W1, s1⟩ := considers_eq T ht
  rw [f, Option.bind_some, f1, Option.bind_some, ea, eb]
  obtain ⟨τ2, f2, g2, s2⟩ := turns9 (E := E) (h := h) (t := t) (p := a) (q := b) (n := n) (τ := τ1) (by omega) (by omega) (by omega) ⟨T1, W1, by rw [s1 10 (by omega)]; exact e9⟩
  rw [f2, Option.bind_some]
  have m2 : MC E h τ2 := m.keepC (fun d hd => by rw [s2 d (by omega), s1 d (by omega)])
  obtain ⟨τ3, f3, m3, s3⟩ := top10 (E := E) (h := h) (t := t) (a := a) (b := b) (n := n) (x1 := a1) (x4 := a4) (by omega) (by omega) (by omega) (by omega) ht (d1.trans ea) (d2.trans eb) m2
  have iv : Inv τ3 := inv_end ⟨c1, c3, i1, i2, i3, i4, i5, i6, i7⟩ m3.1 (fun c j q => by rw [s3 c (by unfold scr at q; omega), s2 c (by unfold scr at q; omega), s1 c (by unfold scr at q; omega), s c (by unfold scr at q; omega)])
  have fin : (if a1 < 0 then some ((-2000000000 : Int), τ2) else Option.bind (fX10_isOne 49 (i_div a1 10) τ2) fun q1 => if q1.1 = 0 then some (-2000000000, q1.2) else Option.bind (fX10_isOne 49 (i_rem a1 10) q1.2) fun q2 => if q2.1 = 0 then some (-2000000000, q2.2) else if i_div a1 10 = i_rem a1 10 then some (-2000000000, q2.2) else Option.bind (fX10_isThing 49 (t : Int) q2.2) fun q3 => if q3.1 = 0 then some (-2000000000, q3.2) else Option.bind (fX10_within ((n + 1 : Nat) : Int) 1 5 q3.2) fun q4 => if q4.1 = 0 then some (-2000000000, q4.2) else Option.bind (fX10_within a4 0 1 q4.2) fun q5 => if q5.1 = 0 then some (-2000000000, q5.2) else Option.bind (hX10_turnBy 49 0 ((n + 1 : Nat) : Int) a1 (t : Int) 2 q5.2) fun q6 => fX10_byTurns_84 49 a1 (t : Int) ((n + 1 : Nat) : Int) a4 FU q6.1 2 0 q6.2) = some (if a4 = 0 then (tp (fun w => -(ov E t n b a (mvH h a b w)))).1 else (tp (fun w => -(ov E t n b a (mvH h a b w)))).2, τ3) := by
    rw [if_neg n0, d1, d2, on τ2 _ m2.1, if_pos q1, b1]
    dsimp only
    rw [on τ2 _ m2.1, if_pos q2, b1, if_neg q3]
    dsimp only
    rw [isThing_eq m2.1 c3.1, if_pos q4, b1]
    dsimp only
    rw [within_eq, if_pos q5, b1]
    dsimp only
    rw [within_eq, if_pos q6, b1]
    exact f3
  rw [d1, d2] at fin
  by_cases z : a4 = 0
  · rw [if_pos z]
    rw [if_pos z] at fin
    exact ⟨_, τ2, τ3, rfl, by rw [← ea, ← eb]; exact fin, iv⟩
  · rw [if_neg z]
    rw [if_neg z] at fin
    dsimp only
    rw [g2]
    exact ⟨_, τ2, τ3, rfl, by rw [← ea, ← eb]; exact fin, iv⟩
