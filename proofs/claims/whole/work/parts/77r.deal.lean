/-! Things dealt so that all are missed longest, as plain mathematics. -/
def wt (n : Nat) : Int := stv1.getD n 0
def qt (n : Nat) : Int := if n = 0 then 4782969 else wt (n - 1)
theorem qt_f : ∀ k : Nat, k < 7 → qt k = 9 * wt k ∧ qt (k + 1) = wt k ∧ 0 < wt k ∧ wt k ≤ 531441 := by decide
theorem qt_1 : ∀ k : Nat, k < 8 → 1 ≤ qt k := by decide
theorem mulw {x : Int} {k : Nat} (hk : k < 7) (h0 : 0 ≤ x) (h8 : x ≤ 8) : 0 ≤ x * wt k ∧ x * wt k ≤ 8 * wt k := by
  have w := (qt_f k hk).2.2.1
  exact ⟨Int.mul_nonneg h0 (Int.le_of_lt w), Int.mul_le_mul_of_nonneg_right h8 (Int.le_of_lt w)⟩
def cod : Nat → (Nat → Int) → Int
  | 0, _ => 0
  | n + 1, tr => cod n tr + (8 - tr n) * wt n
theorem cod_congr : ∀ (n : Nat) (f g : Nat → Int), (∀ j : Nat, j < n → f j = g j) → cod n f = cod n g
  | 0, _, _, _ => rfl
  | n + 1, f, g, h => by
    unfold cod
    rw [cod_congr n f g (fun j hj => h j (by omega)), h n (by omega)]
theorem cod_up {tr : Nat → Int} {b : Nat} {x : Int} : cod (b + 1) (upf tr b x) = cod b tr + (8 - x) * wt b := by
  have e : upf tr b x b = x := if_pos rfl
  show cod b (upf tr b x) + (8 - upf tr b x b) * wt b = _
  rw [cod_congr b (upf tr b x) tr (fun j hj => if_neg (by omega)), e]
theorem cod_in {tr : Nat → Int} : ∀ n : Nat, n ≤ 7 → (∀ j : Nat, j < n → 0 ≤ tr j ∧ tr j ≤ 8) → 0 ≤ cod n tr ∧ cod n tr + qt n ≤ 4782969
  | 0, _, _ => by
    show 0 ≤ (0 : Int) ∧ (0 : Int) + 4782969 ≤ 4782969
    omega
  | n + 1, hn, h => by
    have ih := cod_in (tr := tr) n (by omega) (fun j hj => h j (by omega))
    obtain ⟨q1, q2, q3, -⟩ := qt_f n (by omega)
    have d := h n (by omega)
    have w := mulw (x := 8 - tr n) (k := n) (by omega) (by omega) (by omega)
    unfold cod
    omega
theorem mml_comm (x y : Int) : m_maxl x y = m_maxl y x := by
  unfold m_maxl
  split <;> split <;> omega
theorem mml_assoc (x y z : Int) : m_maxl (m_maxl x y) z = m_maxl x (m_maxl y z) := by
  unfold m_maxl
  split <;> split <;> (try split) <;> (try split) <;> omega
theorem mml_add (k x y : Int) : m_maxl (k + x) (k + y) = k + m_maxl x y := by
  unfold m_maxl
  split <;> split <;> omega
noncomputable def wth (E : E6) (h : Hs) (b t : Nat) : Int := wm E h b t * 4782969 + (8 - (t : Int)) * wt b
noncomputable def dD (E : E6) (h : Hs) : Nat → Nat → Nat → Int
  | 0, _, _ => 0
  | m + 1, b, left => fld (fun t x => if left.testBit t = true then m_maxl x (wth E h b t + dD E h m (b + 1) (clr left t)) else x) 8 0 (dD E h m (b + 1) left)
noncomputable def dlP (E : E6) (h : Hs) : Nat → Nat → Nat → Int → (Nat → Int) → Int × (Nat → Int) → Int × (Nat → Int)
  | 0, _, _, sum, tr, a => if a.1 < sum then (sum, tr) else a
  | m + 1, b, left, sum, tr, a => dlP E h m (b + 1) left sum (upf tr b 8) (fld (fun t a => if left.testBit t = true then dlP E h m (b + 1) (clr left t) (sum + wm E h b t) (upf tr b (t : Int)) a else a) 8 0 a)
theorem wm_in (E : E6) (h : Hs) (b t : Nat) : 0 ≤ wm E h b t ∧ wm E h b t ≤ 99 := yrs_in E h b _ _
theorem wth_in {E : E6} {h : Hs} {b t : Nat} (hb : b < 7) (ht : t < 8) : 0 ≤ wth E h b t ∧ wth E h b t ≤ 480000000 := by
  have w := wm_in E h b t
  have u := mulw (x := 8 - (t : Int)) (k := b) hb (by omega) (by omega)
  have v := (qt_f b hb).2.2.2
  unfold wth
  omega
theorem fld_in {f : Nat → Int → Int} {lo hi : Int} : ∀ (m t : Nat) (x : Int), (∀ u y, t ≤ u → u < t + m → lo ≤ y ∧ y ≤ hi → lo ≤ f u y ∧ f u y ≤ hi) → lo ≤ x ∧ x ≤ hi → lo ≤ fld f m t x ∧ fld f m t x ≤ hi
  | 0, t, x, _, hx => hx
  | m + 1, t, x, h, hx => fld_in m (t + 1) (f t x) (fun u y h1 h2 hy => h u y (by omega) (by omega) hy) (h t x (Nat.le_refl _) (by omega) hx)
theorem dD_in {E : E6} {h : Hs} : ∀ m b left : Nat, b + m ≤ 7 → 0 ≤ dD E h m b left ∧ dD E h m b left ≤ 480000000 * (m : Int)
  | 0, b, left, _ => by
    show 0 ≤ (0 : Int) ∧ (0 : Int) ≤ _
    omega
  | m + 1, b, left, hb => by
    have i0 := dD_in (E := E) (h := h) m (b + 1) left (by omega)
    unfold dD
    refine fld_in 8 0 _ (fun u y _ h2 hy => ?_) ⟨i0.1, by omega⟩
    have i1 := dD_in (E := E) (h := h) m (b + 1) (clr left u) (by omega)
    have w := wth_in (E := E) (h := h) (b := b) (t := u) (by omega) (by omega)
    split
    · unfold m_maxl
      split <;> omega
    · exact hy
theorem fld_mx {c : Nat → Int} {left : Nat} {x : Int} : ∀ (m t : Nat) (y : Int), fld (fun t x => if left.testBit t = true then m_maxl x (c t) else x) m t (m_maxl x y) = m_maxl x (fld (fun t x => if left.testBit t = true then m_maxl x (c t) else x) m t y)
  | 0, _, _ => rfl
  | m + 1, t, y => by
    unfold fld
    by_cases q : left.testBit t = true
    · rw [if_pos q, if_pos q, mml_assoc]
      exact fld_mx m (t + 1) _
    · rw [if_neg q, if_neg q]
      exact fld_mx m (t + 1) y
theorem fld_sh {c : Nat → Int} {left : Nat} {K : Int} : ∀ (m t : Nat) (y : Int), fld (fun t x => if left.testBit t = true then m_maxl x (K + c t) else x) m t (K + y) = K + fld (fun t x => if left.testBit t = true then m_maxl x (c t) else x) m t y
  | 0, _, _ => rfl
  | m + 1, t, y => by
    unfold fld
    by_cases q : left.testBit t = true
    · rw [if_pos q, if_pos q, mml_add]
      exact fld_sh m (t + 1) _
    · rw [if_neg q, if_neg q]
      exact fld_sh m (t + 1) y
noncomputable def CV (nb : Nat) (a : Int × (Nat → Int)) : Int := if a.1 = -1 then -1 else a.1 * 4782969 + cod nb a.2
def dig (nb : Nat) (f : Nat → Int) : Prop := ∀ j : Nat, j < nb → 0 ≤ f j ∧ f j ≤ 8
def AOK (nb : Nat) (B : Int) (a : Int × (Nat → Int)) : Prop := a.1 = -1 ∨ (0 ≤ a.1 ∧ dig nb a.2 ∧ B ≤ cod nb a.2)
theorem dig_up {b : Nat} {tr : Nat → Int} {x : Int} (h : dig b tr) (h0 : 0 ≤ x) (h8 : x ≤ 8) : dig (b + 1) (upf tr b x) := by
  intro j hj
  show 0 ≤ (if j = b then x else tr j) ∧ (if j = b then x else tr j) ≤ 8
  by_cases z : j = b
  · rw [if_pos z]
    exact ⟨h0, h8⟩
  · rw [if_neg z]
    exact h j (by omega)
theorem dl_main {E : E6} {h : Hs} {nb : Nat} (hn : nb ≤ 7) : ∀ (m b left : Nat) (sum : Int) (tr : Nat → Int) (a : Int × (Nat → Int)), b + m = nb → 0 ≤ sum → dig b tr → AOK nb (cod b tr + qt b) a → CV nb (dlP E h m b left sum tr a) = m_maxl (CV nb a) (sum * 4782969 + cod b tr + dD E h m b left) ∧ 0 ≤ (dlP E h m b left sum tr a).1 ∧ dig nb (dlP E h m b left sum tr a).2 ∧ cod b tr ≤ cod nb (dlP E h m b left sum tr a).2
  | 0, b, left, sum, tr, a, hb, hs, hd, ha => by
    have eb : b = nb := by omega
    subst eb
    have c := cod_in (tr := tr) b hn hd
    have q1 := qt_1 b (by omega)
    unfold dlP
    by_cases z : a.1 < sum
    · rw [if_pos z]
      refine ⟨?_, hs, hd, Int.le_refl _⟩
      show (if sum = -1 then (-1 : Int) else sum * 4782969 + cod b tr) = m_maxl (CV b a) (sum * 4782969 + cod b tr + 0)
      rw [if_neg (by omega)]
      unfold CV m_maxl
      rcases ha with q | ⟨q0, q1, q2⟩
      · rw [if_pos q, if_neg (by omega)]
        omega
      · have c2 := cod_in (tr := a.2) b hn q1
        rw [if_neg (show ¬ a.1 = -1 by omega), if_neg (by omega)]
        omega
    · rw [if_neg z]
      rcases ha with q | ⟨q0, q1', q2⟩
      · omega
      · refine ⟨?_, q0, q1', by omega⟩
        show CV b a = m_maxl (CV b a) (sum * 4782969 + cod b tr + 0)
        unfold CV m_maxl
        have c2 := cod_in (tr := a.2) b hn q1'
        rw [if_neg (show ¬ a.1 = -1 by omega), if_pos (by omega)]
  | m + 1, b, left, sum, tr, a, hb, hs, hd, ha => by
    obtain ⟨q1, q2, q3, -⟩ := qt_f b (by omega)
    have e9 : ∀ t : Nat, (9 - (t : Int)) * wt b = (8 - (t : Int)) * wt b + wt b := fun t => by
      rw [show (9 - (t : Int)) = (8 - (t : Int)) + 1 by omega, Int.add_mul, Int.one_mul]
    have fl : ∀ (k t : Nat) (a : Int × (Nat → Int)), t + k = 8 → AOK nb (cod b tr + (9 - (t : Int)) * wt b) a → CV nb (fld (fun t a => if left.testBit t = true then dlP E h m (b + 1) (clr left t) (sum + wm E h b t) (upf tr b (t : Int)) a else a) k t a) = fld (fun t x => if left.testBit t = true then m_maxl x (sum * 4782969 + cod b tr + (wth E h b t + dD E h m (b + 1) (clr left t))) else x) k t (CV nb a) ∧ AOK nb (cod b tr + wt b) (fld (fun t a => if left.testBit t = true then dlP E h m (b + 1) (clr left t) (sum + wm E h b t) (upf tr b (t : Int)) a else a) k t a) := by
      intro k
      induction k with
      | zero =>
        intro t a ht hk
        refine ⟨rfl, ?_⟩
        have e8 : t = 8 := by omega
        subst e8
        have e : (9 - ((8 : Nat) : Int)) * wt b = wt b := by rw [show (9 - ((8 : Nat) : Int)) = 1 by omega, Int.one_mul]
        rw [e] at hk
        exact hk
      | succ k ih =>
        intro t a ht hk
        unfold fld
        have et1 : (9 - ((t + 1 : Nat) : Int)) * wt b = (8 - (t : Int)) * wt b := by rw [show (9 - ((t + 1 : Nat) : Int)) = 8 - (t : Int) by omega]
        by_cases z : left.testBit t = true
        · rw [if_pos z, if_pos z]
          have w := wm_in E h b t
          have cu := cod_up (tr := tr) (b := b) (x := (t : Int))
          obtain ⟨r1, r2, r3, r4⟩ := dl_main (E := E) (h := h) hn m (b + 1) (clr left t) (sum + wm E h b t) (upf tr b (t : Int)) a (by omega) (by omega) (dig_up hd (by omega) (by omega)) (by
            rw [cu, q2]
            have := e9 t
            rw [this] at hk
            rw [Int.add_assoc]
            exact hk)
          have ev : (sum + wm E h b t) * 4782969 + cod (b + 1) (upf tr b (t : Int)) + dD E h m (b + 1) (clr left t) = sum * 4782969 + cod b tr + (wth E h b t + dD E h m (b + 1) (clr left t)) := by
            rw [cu]
            unfold wth
            omega
          rw [ev] at r1
          have nx := ih (t + 1) (dlP E h m (b + 1) (clr left t) (sum + wm E h b t) (upf tr b (t : Int)) a) (by omega) (Or.inr ⟨r2, r3, by rw [et1, ← cu]; exact r4⟩)
          rw [r1] at nx
          exact nx
        · rw [if_neg z, if_neg z]
          refine ih (t + 1) a (by omega) ?_
          rcases hk with q | ⟨q0, q1', q2'⟩
          · exact Or.inl q
          · refine Or.inr ⟨q0, q1', ?_⟩
            rw [e9 t] at q2'
            rw [et1]
            omega
    obtain ⟨f1, f2⟩ := fl 8 0 a (by omega) (by
      have e : (9 - ((0 : Nat) : Int)) * wt b = qt b := by
        rw [q1]
        rfl
      rw [e]
      exact ha)
    have cu := cod_up (tr := tr) (b := b) (x := 8)
    have c0 : cod (b + 1) (upf tr b 8) = cod b tr := by
      rw [cu, show (8 - (8 : Int)) = 0 by omega, Int.zero_mul, Int.add_zero]
    unfold dlP
    obtain ⟨r1, r2, r3, r4⟩ := dl_main (E := E) (h := h) hn m (b + 1) left sum (upf tr b 8) (fld (fun t a => if left.testBit t = true then dlP E h m (b + 1) (clr left t) (sum + wm E h b t) (upf tr b (t : Int)) a else a) 8 0 a) (by omega) hs (dig_up hd (by omega) (by omega)) (by rw [c0, q2]; exact f2)
    rw [c0] at r1 r4
    refine ⟨?_, r2, r3, r4⟩
    rw [r1, f1, mml_comm, ← fld_mx, mml_comm, fld_mx, fld_sh]
    rfl
