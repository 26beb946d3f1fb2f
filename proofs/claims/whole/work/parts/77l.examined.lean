/-! The fewest who are examined so that one wins: examined. -/
def slU (h : Hs) (bits j : Nat) : Hs := (h.1, h.2.1, h.2.2.1, fun b w => if w = 4 ∧ b < j ∧ bits.testBit b = true then 1 else h.2.2.2 b w)
theorem slU_pk (h : Hs) (bits j : Nat) : Pk h (slU h bits j) := ⟨rfl, rfl, fun _ => rfl, fun b w _ _ h4 => if_neg (fun z => h4 z.1)⟩
theorem slU_mis {h : Hs} {bits j : Nat} {x : Int} {n : Nat} : mis (slU h bits j) x n = mis h x n := mis_congr n (fun _ _ => Iff.rfl)
theorem slU_cnt {h : Hs} {bits j : Nat} {x : Int} {n : Nat} : cnt (slU h bits j) x n = cnt h x n := cnt_congr n (fun _ _ => Iff.rfl)
theorem slU_yrs {E : E6} {h : Hs} {bits j b k : Nat} {n : Int} : yrs E (slU h bits j) b k n = yrs E h b k n := yrs_congr (fun w _ h4 => if_neg (fun z => h4 z.1)) slU_mis
theorem slU_wm {E : E6} {h : Hs} {bits j b t : Nat} : wm E (slU h bits j) b t = wm E h b t := by
  unfold wm
  have e : cnt (slU h bits j) b (slU h bits j).1 = cnt h b h.1 := slU_cnt
  rw [slU_yrs, e]
  rfl
theorem slU_wf {h : Hs} {bits j : Nat} (hw : Wf h) (hj : j ≤ h.2.1) : Wf (slU h bits j) := by
  obtain ⟨z, a, b, f⟩ := hw
  refine ⟨z, a, fun t w ht => ?_, fun i w hv => ?_⟩
  · have ht' : h.2.1 ≤ t := ht
    show (if _ then _ else _) = _
    rw [if_neg (by omega)]
    exact b t w ht'
  · have hv' : hOf h i w := hv
    show fitv h w _
    have f' := f i w hv'
    unfold hnum at *
    rcases hv' with q | q
    · rw [if_pos q] at f'
      have q' : 0 ≤ w ∧ w < 4 ∧ 0 ≤ i ∧ i < ((slU h bits j).1 : Int) := q
      rw [if_pos q']
      exact f'
    · rw [if_neg (by omega), if_pos q] at f'
      have q' : 4 ≤ w ∧ w < 13 ∧ 0 ≤ i ∧ i < ((slU h bits j).2.1 : Int) := q
      rw [if_neg (by omega), if_pos q']
      show fitv h w (if (w - 4).toNat = 4 ∧ i.toNat < j ∧ bits.testBit i.toNat = true then 1 else h.2.2.2 i.toNat (w - 4).toNat)
      by_cases p : (w - 4).toNat = 4 ∧ i.toNat < j ∧ bits.testBit i.toNat = true
      · rw [if_pos p]
        have e8 : w = 8 := by omega
        subst e8
        exact Or.inr ⟨by decide, by decide, by decide⟩
      · rw [if_neg p]
        exact f'
theorem TR.bits {E : E6} {h : Hs} {τ : St} {bits : Nat} (T : TR E h h τ) (hb : bits < 256) : TR E h (slU h bits h.2.1) (up τ 10 9 (bits : Int)) := by
  obtain ⟨⟨k1, k2, k3⟩, ⟨w0, w1, l1, l2, l3, l4, l5⟩, -, ⟨o, o1, o2⟩, k7, k8, kn⟩ := T
  have s : ∀ d, d ≠ 10 → up τ 10 9 (bits : Int) d = τ d := fun d hd => up_ne hd
  refine ⟨⟨HC11.keep k1 (fun c hc => s c (by omega)), k2.keep k3 (fun c hc => s c (by omega)), by rw [s 4 (by decide)]; exact k3⟩, ⟨w0, slU_wf w0 (Nat.le_refl _), ⟨rfl, rfl, fun _ => rfl, fun b' q hq => (if_neg (fun z => hq z.1)).symm, fun b' => slU_mis.symm⟩⟩, ⟨bits, hb, by simp [up], fun b' hb' => ?_⟩, ⟨o, ?_, o2⟩, fun b' hb' => ?_, fun b' hb' => ?_, fun b' k' n' a1 a2 a3 => ?_⟩
  · have hb2 : b' < h.2.1 := hb'
    have g := (wf_B w0 hb2).2.2
    show (if 4 = 4 ∧ b' < h.2.1 ∧ bits.testBit b' = true then (1 : Int) else h.2.2.2 b' 4) = 1 ↔ _
    by_cases z : bits.testBit b' = true
    · rw [if_pos ⟨rfl, hb2, z⟩]
      exact ⟨fun _ => Or.inr z, fun _ => rfl⟩
    · rw [if_neg (fun y => z y.2.2)]
      constructor
      · intro y
        exact Or.inl (by omega)
      · intro y
        rcases y with y | y
        · omega
        · exact absurd y z
  · rw [up_get, if_neg (by omega)]
    exact o1
  · rw [s 14 (by decide), k7 b' hb']
    exact slU_cnt.symm
  · rw [s 15 (by decide), k8 b' hb']
    exact slU_mis.symm
  · rw [s 16 (by decide), slU_yrs]
    exact kn b' k' n' a1 a2 a3
/-- the first of the fewest -/
noncomputable def exP (W : Nat → Int) (b : Int) : Nat → Nat → Int → Int
  | 0, _, f => f
  | m + 1, k, f => if W k = b ∧ (f = -2 ∨ bcI (k : Int) < bcI f) then exP W b m (k + 1) (k : Int) else exP W b m (k + 1) f
theorem bc_in : ∀ s : Nat, s < 128 → 0 ≤ bcI (s : Int) ∧ bcI (s : Int) ≤ 7 := by decide +kernel
theorem shl1 : ∀ s : Nat, s < 8 → i_shl 1 (s : Int) = ((2 ^ s : Nat) : Int) ∧ 2 ^ s ≤ 128 := by decide +kernel
def fok (f : Int) : Prop := f = -2 ∨ ∃ s : Nat, s < 128 ∧ f = (s : Int)
theorem few9 {E : E6} {h : Hs} {b t A : Nat} (hA : A ≤ 128) : ∀ (m n k : Nat) (f : Int) (τ : St), k + m = A → m < n → fok f → TR E h h (up τ 10 9 0) → Wd E h t τ → ∃ τ' : St, fX8_fewestExamined_23 19 (b : Int) n f (if f = -2 then 8 else bcI f) (A : Int) (k : Int) τ = some (exP (fun k => win E (slU h k h.2.1) t) b m k f, τ') ∧ Same τ τ' (fun d => d ≠ 10)
  | 0, n + 1, k, f, τ, hm, _, _, T, W => by
    unfold fX8_fewestExamined_23
    rw [if_pos (by omega)]
    exact ⟨τ, rfl, fun _ _ => rfl⟩
  | m + 1, n + 1, k, f, τ, hm, hn, hf, T, W => by
    have e9 : i_add (k : Int) 1 = ((k + 1 : Nat) : Int) := by
      rw [ia (ok_in (by omega) (by omega))]
      omega
    have bk := bc_in k (by omega)
    have uu : up (up τ 10 9 0) 10 9 (k : Int) = up τ 10 9 (k : Int) := by
      funext c j
      simp only [up_get]
      split <;> rfl
    have uz : up (up τ 10 9 (k : Int)) 10 9 0 = up τ 10 9 0 := by
      funext c j
      simp only [up_get]
      split <;> rfl
    have T1 := T.bits (bits := k) (by omega)
    rw [uu] at T1
    have W1 : Wd E (slU h k h.2.1) t (up τ 10 9 (k : Int)) := fun b' hb' => by
      rw [up_ne (by decide), slU_wm]
      exact W b' hb'
    have ih := fun (f' : Int) (hf' : fok f') => few9 (E := E) (h := h) (b := b) (t := t) hA m n (k + 1) f' (up τ 10 9 (k : Int)) (by omega) (by omega) hf' (by rw [uz]; exact T) (fun b' hb' => by rw [up_ne (by decide)]; exact W b' hb')
    have fb : f ≠ -2 → 0 ≤ bcI f ∧ bcI f ≤ 7 := by
      intro z
      rcases hf with q | ⟨s, q1, q2⟩
      · exact absurd q z
      · rw [q2]
        exact bc_in s q1
    unfold fX8_fewestExamined_23 fX8_fewestExamined_68 exP
    simp only [rfS, bc_eq]
    rw [if_neg (by omega), Option.bind_some, winner9 T1 W1, Option.bind_some, e9, Option.bind_some]
    dsimp only
    by_cases q : f = -2 ∨ bcI (k : Int) < bcI f
    · have q' : ¬ (if f = -2 then 8 else bcI f) ≤ bcI (k : Int) := by
        by_cases z : f = -2
        · rw [if_pos z]
          omega
        · rw [if_neg z]
          have := q.resolve_left z
          omega
      rw [if_neg q']
      by_cases w : win E (slU h k h.2.1) t = (b : Int)
      · rw [if_pos w, if_pos ⟨w, q⟩]
        obtain ⟨τ2, f2, s2⟩ := ih (k : Int) (Or.inr ⟨k, by omega, rfl⟩)
        rw [if_neg (show ¬ ((k : Nat) : Int) = -2 by omega)] at f2
        exact ⟨τ2, f2, fun d hd => by rw [s2 d hd, up_ne hd]⟩
      · rw [if_neg w, if_neg (show ¬ (win E (slU h k h.2.1) t = (b : Int) ∧ (f = -2 ∨ bcI (k : Int) < bcI f)) from fun z => w z.1)]
        obtain ⟨τ2, f2, s2⟩ := ih f hf
        exact ⟨τ2, f2, fun d hd => by rw [s2 d hd, up_ne hd]⟩
    · have z : ¬ f = -2 := fun z => q (Or.inl z)
      have fb' := fb z
      have q' : (if f = -2 then 8 else bcI f) ≤ bcI (k : Int) := by
        rw [if_neg z]
        have : ¬ bcI (k : Int) < bcI f := fun y => q (Or.inr y)
        omega
      rw [if_pos q', if_neg (show ¬ (win E (slU h k h.2.1) t = (b : Int) ∧ (f = -2 ∨ bcI (k : Int) < bcI f)) from fun y => q y.2)]
      obtain ⟨τ2, f2, s2⟩ := ih f hf
      exact ⟨τ2, f2, fun d hd => by rw [s2 d hd, up_ne hd]⟩
theorem ex10i {E : E6} {h : Hs} {b t k : Nat} {x1 x2 x3 : Int} {k51 : Int → Int → St → Option (Int × St)} (hk : k < 128) (ht : t < h.1) (hw : Wf h) (e1 : i_div x1 10 = (b : Int)) (e2 : i_rem x1 10 = (t : Int)) : ∀ (m n j : Nat) (σ : St), j + m = h.2.1 → m < n → MC E (slU h k j) σ → KP 75 h σ → ∃ σ' : St, fX10_examined_65 49 x1 x2 k51 n x3 (k : Int) (j : Int) σ = (if win E (slU h k h.2.1) t = (b : Int) ∧ (x3 = -2 ∨ bcI (k : Int) < bcI x3) then k51 (k : Int) ((k + 1 : Nat) : Int) σ' else k51 x3 ((k + 1 : Nat) : Int) σ') ∧ HM h σ' ∧ gS σ σ'
  | 0, n + 1, j, σ, hm, _, M, kp => by
    have ej : j = h.2.1 := by omega
    subst ej
    have e9 : i_add (k : Int) 1 = ((k + 1 : Nat) : Int) := by
      rw [ia (ok_in (by omega) (by omega))]
      omega
    have e5 : σ 49 5 = (h.2.1 : Int) := M.1.2.1
    obtain ⟨σ1, f1, s1⟩ := winner10 M (t := t) ht
    obtain ⟨σ2, f2, k2, s2⟩ := backPk (M.same s1).1 (kp.keep (s1 75 (by decide))) (slU_pk h k h.2.1)
    refine ⟨σ2, ?_, k2, fun d hd => by rw [s2 d (by omega), s1 d (by omega)]⟩
    unfold fX10_examined_65 fX10_examined_122 fX10_examined_151 fX10_examined_154
    simp only [bc_eq, e1, e2, e9]
    rw [e5, if_pos (by omega), f1, Option.bind_some]
    dsimp only
    simp only [f2, Option.bind_some]
    by_cases w : win E (slU h k h.2.1) t = (b : Int)
    · rw [if_pos w, if_neg (by decide)]
      by_cases z : x3 = -2
      · rw [if_pos z, if_pos ⟨w, Or.inl z⟩]
      · rw [if_neg z]
        by_cases y : bcI x3 ≤ bcI (k : Int)
        · rw [if_pos y, if_neg (fun q => by rcases q.2 with p | p; exact z p; omega)]
        · rw [if_neg y, if_pos ⟨w, Or.inr (by omega)⟩]
    · rw [if_neg w, if_pos trivial, if_neg (fun q => w q.1)]
  | m + 1, n + 1, j, σ, hm, hn, M, kp => by
    have z2 := hw.1.2
    have e5 : σ 49 5 = (h.2.1 : Int) := M.1.2.1
    have ej : i_add (j : Int) 1 = ((j + 1 : Nat) : Int) := by
      rw [ia (ok_in (by omega) (by omega))]
      omega
    have e28 : i_add 28 (j : Int) = ((28 + j : Nat) : Int) := by
      rw [ia (ok_in (by omega) (by omega))]
      omega
    unfold fX10_examined_65 fX10_examined_96
    simp only [rfS, lnS, ej, e28, Int.toNat_natCast]
    rw [e5, if_neg (by omega), bit_and k (by omega) j (by omega)]
    have nx : ∀ σ1 : St, HM (slU h k (j + 1)) σ1 → Same σ σ1 (fun d => d ≠ 54) → ∃ σ' : St, fX10_examined_65 49 x1 x2 k51 n x3 (k : Int) ((j + 1 : Nat) : Int) σ1 = (if win E (slU h k h.2.1) t = (b : Int) ∧ (x3 = -2 ∨ bcI (k : Int) < bcI x3) then k51 (k : Int) ((k + 1 : Nat) : Int) σ' else k51 x3 ((k + 1 : Nat) : Int) σ') ∧ HM h σ' ∧ gS σ σ' := by
      intro σ1 hm1 s1
      obtain ⟨σ2, f2, k2, s2⟩ := ex10i (E := E) (x2 := x2) (x3 := x3) (k51 := k51) hk ht hw e1 e2 m n (j + 1) σ1 (by omega) (by omega) ⟨hm1, M.2.1.keep (by rw [s1 49 (by decide)]) (by rw [s1 49 (by decide)]) (fun c h1 h2 => s1 c (by omega)), slU_wf hw (by omega)⟩ (kp.keep (s1 75 (by decide)))
      exact ⟨σ2, f2, k2, fun d hd => by rw [s2 d hd, s1 d (by omega)]⟩
    by_cases z : k.testBit j = true
    · rw [if_pos z, if_pos rfl, if_pos ⟨by omega, by omega⟩]
      refine nx _ ?_ (fun d hd => up_ne hd)
      refine (HM_B (w := 4) (b := j) (v := 1) M.1 (by omega)).congr rfl rfl (fun _ _ _ _ => rfl) (fun a w _ _ => ?_)
      show (if a = j ∧ w = 4 then (1 : Int) else if w = 4 ∧ a < j ∧ k.testBit a = true then 1 else h.2.2.2 a w) = if w = 4 ∧ a < j + 1 ∧ k.testBit a = true then 1 else h.2.2.2 a w
      by_cases p : a = j ∧ w = 4
      · rw [if_pos p, if_pos ⟨p.2, by omega, by rw [p.1]; exact z⟩]
      · rw [if_neg p]
        by_cases p2 : w = 4 ∧ a < j ∧ k.testBit a = true
        · rw [if_pos p2, if_pos ⟨p2.1, by omega, p2.2.2⟩]
        · rw [if_neg p2, if_neg (fun y => p2 ⟨y.1, by omega, y.2.2⟩)]
    · rw [if_neg z, if_neg (by decide)]
      refine nx σ ?_ (fun _ _ => rfl)
      refine M.1.congr rfl rfl (fun _ _ _ _ => rfl) (fun a w _ _ => ?_)
      show (if w = 4 ∧ a < j ∧ k.testBit a = true then (1 : Int) else h.2.2.2 a w) = if w = 4 ∧ a < j + 1 ∧ k.testBit a = true then 1 else h.2.2.2 a w
      by_cases p2 : w = 4 ∧ a < j ∧ k.testBit a = true
      · rw [if_pos p2, if_pos ⟨p2.1, by omega, p2.2.2⟩]
      · rw [if_neg p2, if_neg (fun y => p2 ⟨y.1, by
          have : a ≠ j := fun q => z (by rw [← q]; exact y.2.2)
          omega, y.2.2⟩)]
theorem slU_0 {h : Hs} {k : Nat} {σ : St} (hh : HM h σ) : HM (slU h k 0) σ := hh.congr rfl rfl (fun _ _ _ _ => rfl) (fun a w _ _ => by
  show h.2.2.2 a w = if w = 4 ∧ a < 0 ∧ k.testBit a = true then 1 else h.2.2.2 a w
  rw [if_neg (by omega)])
theorem ex10 {E : E6} {h : Hs} {b t A : Nat} {x1 x2 : Int} (hA : A ≤ 128) (eA : i_shl 1 (h.2.1 : Int) = (A : Int)) (ht : t < h.1) (hw : Wf h) (e1 : i_div x1 10 = (b : Int)) (e2 : i_rem x1 10 = (t : Int)) : ∀ (m n k : Nat) (f : Int) (σ : St), k + m = A → m < n → MC E h σ → KP 75 h σ → ∃ σ' : St, fX10_examined_51 49 x1 x2 n f (k : Int) σ = some (if x2 = 1 then exP (fun k => win E (slU h k h.2.1) t) b m k f else if exP (fun k => win E (slU h k h.2.1) t) b m k f = -2 then -2 else bcI (exP (fun k => win E (slU h k h.2.1) t) b m k f), σ') ∧ HM h σ' ∧ gS σ σ'
  | 0, n + 1, k, f, σ, hm, _, M, kp => by
    have e5 : σ 49 5 = (h.2.1 : Int) := M.1.2.1
    unfold fX10_examined_51 exP
    simp only [bc_eq]
    rw [e5, eA, if_pos (by omega)]
    refine ⟨σ, ?_, M.1, fun _ _ => rfl⟩
    by_cases z : x2 = 1
    · rw [if_pos z, if_pos z]
    · rw [if_neg z, if_neg z]
      by_cases y : f = -2
      · rw [if_pos y, if_pos y, y]
      · rw [if_neg y, if_neg y, Option.bind_some]
  | m + 1, n + 1, k, f, σ, hm, hn, M, kp => by
    have z2 := hw.1.2
    have e5 : σ 49 5 = (h.2.1 : Int) := M.1.2.1
    unfold fX10_examined_51
    rw [e5, eA, if_neg (by omega)]
    obtain ⟨σ1, f1, k1, s1⟩ := ex10i (E := E) (x1 := x1) (x2 := x2) (x3 := f) (k51 := fX10_examined_51 49 x1 x2 n) (show k < 128 by omega) ht hw e1 e2 h.2.1 FU 0 σ (by omega) (by unfold FU; omega) ⟨slU_0 M.1, M.2.1, slU_wf hw (Nat.zero_le _)⟩ kp
    have f1' : fX10_examined_65 49 x1 x2 (fX10_examined_51 49 x1 x2 n) FU f (k : Int) 0 σ = _ := f1
    rw [f1']
    have M1 : MC E h σ1 := ⟨k1, M.2.1.keep (by rw [s1 49 (by decide)]) (by rw [s1 49 (by decide)]) (fun c h1 h2 => s1 c (by omega)), M.2.2⟩
    have ih := fun (f' : Int) => ex10 (E := E) (x2 := x2) hA eA ht hw e1 e2 m n (k + 1) f' σ1 (by omega) (by omega) M1 (kp.keep (s1 75 (by decide)))
    unfold exP
    by_cases q : win E (slU h k h.2.1) t = (b : Int) ∧ (f = -2 ∨ bcI (k : Int) < bcI f)
    · rw [if_pos q, if_pos q]
      obtain ⟨σ2, f2, k2, s2⟩ := ih (k : Int)
      exact ⟨σ2, f2, k2, fun d hd => by rw [s2 d hd, s1 d hd]⟩
    · rw [if_neg q, if_neg q]
      obtain ⟨σ2, f2, k2, s2⟩ := ih f
      exact ⟨σ2, f2, k2, fun d hd => by rw [s2 d hd, s1 d hd]⟩
theorem exP_ok {W : Nat → Int} {b : Int} : ∀ (m k : Nat) (f : Int), k + m ≤ 128 → fok f → fok (exP W b m k f)
  | 0, k, f, _, hf => hf
  | m + 1, k, f, hm, hf => by
    unfold exP
    split
    · exact exP_ok m (k + 1) (k : Int) (by omega) (Or.inr ⟨k, by omega, rfl⟩)
    · exact exP_ok m (k + 1) f (by omega) hf
theorem ag_examined (a1 : Int) (a2 : Int) (ha1 : ok32 a1) (ha2 : ok32 a2) : Ag (fun σ => fX9_examined 0 a1 a2 σ) (fun σ => fX10_examined 49 a1 a2 σ) := by
  intro σ hI
  obtain ⟨h, c1, c2, c3, i1, i2, i3, i4, i5, i6, i7⟩ := id hI
  have z2 := c3.1.2
  dsimp only
  have mm : ∀ τ : St, HM h τ → fX10_examined 49 a1 a2 τ = if prP h a1 then (Option.bind (fX10_within a2 0 1 τ) fun q3 => if q3.1 = 0 then (some ((-1), q3.2)) else (Option.bind (fX10_keeps 49 (RF 49 41) q3.2) fun q4 => fX10_examined_51 49 a1 a2 FU (-2) 0 q4)) else some (-1, τ) := fun τ hm => pair10 (h := h) (A := fun τ => Option.bind (fX10_within a2 0 1 τ) fun q3 => if q3.1 = 0 then (some ((-1), q3.2)) else (Option.bind (fX10_keeps 49 (RF 49 41) q3.2) fun q4 => fX10_examined_51 49 a1 a2 FU (-2) 0 q4)) hm c3.1 ha1
  unfold fX9_examined fX8_fewestExamined
  simp only [rfS, lnS]
  rw [pair9 c1 ha1]
  by_cases a : prP h a1
  case neg =>
    rw [if_neg a, b0]
    exact ⟨_, σ, σ, rfl, by rw [mm σ c2, if_neg a], hI⟩
  rw [if_pos a, b1]
  dsimp only
  by_cases w : 0 ≤ a2 ∧ a2 ≤ 1
  case neg =>
    refine ⟨-1, σ, σ, ?_, by rw [mm σ c2, if_pos a, within_eq, if_neg w, b0], hI⟩
    by_cases w0 : a2 < 0
    · rw [if_pos w0]
    · rw [if_neg w0, if_neg (by omega)]
  rw [if_neg (by omega), if_pos w.2]
  obtain ⟨b, t, d1, d2, hb, ht⟩ := pairN a
  obtain ⟨e1, e2⟩ := dv10 a.1 ha1
  rw [d1] at e1
  rw [d2] at e2
  rw [e1, e2]
  obtain ⟨E, τ, f, T, m, e9, -, -, s⟩ := think c1 c2 c3 i7
  obtain ⟨τ1, f1, T1, W1, s1⟩ := considers_eq T ht
  rw [f, Option.bind_some, f1, Option.bind_some]
  have e3 : τ1 11 3 = (h.2.1 : Int) := T1.1.1.2.1
  obtain ⟨eA, lA⟩ := shl1 h.2.1 (by omega)
  have u0 : up τ1 10 9 0 = τ1 := by
    funext c j
    rw [up_get]
    by_cases z : c = 10 ∧ j = 9
    · rw [if_pos z, z.1, z.2, s1 10 (by omega), e9]
    · rw [if_neg z]
  obtain ⟨τ2, f2, s2⟩ := few9 (E := E) (h := h) (b := b) (t := t) lA (2 ^ h.2.1) FU 0 (-2) τ1 (by omega) (by unfold FU; omega) (Or.inl rfl) (by rw [u0]; exact T1) W1
  rw [if_pos rfl] at f2
  have f2' : fX8_fewestExamined_23 19 (b : Int) FU (-2) 8 ((2 ^ h.2.1 : Nat) : Int) 0 τ1 = _ := f2
  rw [e3, eA, f2', Option.bind_some]
  dsimp only
  have m2 : MC E h τ2 := m.keepC (fun d hd => by rw [s2 d (by omega), s1 d (by omega)])
  obtain ⟨τ3, f3, k3, s3⟩ := keeps_eq (c := 75) (by decide) rfl m2.1
  have m3 : MC E h τ3 := m2.keep (fun c j q => by rw [s3 c (by unfold pHM at q; omega)])
  obtain ⟨τ4, f4, k4, s4⟩ := ex10 (E := E) (x2 := a2) lA eA ht c3 e1 e2 (2 ^ h.2.1) FU 0 (-2) τ3 (by omega) (by unfold FU; omega) m3 k3
  have f4' : fX10_examined_51 49 a1 a2 FU (-2) 0 τ3 = _ := f4
  have iv : Inv τ4 := inv_end ⟨c1, c3, i1, i2, i3, i4, i5, i6, i7⟩ k4 (fun c j q => by rw [s4 c (by unfold scr at q; omega), s3 c (by unfold scr at q; omega), s2 c (by unfold scr at q; omega), s1 c (by unfold scr at q; omega), s c (by unfold scr at q; omega)])
  have fin : fX10_examined 49 a1 a2 τ2 = some (if a2 = 1 then exP (fun k => win E (slU h k h.2.1) t) b (2 ^ h.2.1) 0 (-2) else if exP (fun k => win E (slU h k h.2.1) t) b (2 ^ h.2.1) 0 (-2) = -2 then -2 else bcI (exP (fun k => win E (slU h k h.2.1) t) b (2 ^ h.2.1) 0 (-2)), τ4) := by
    rw [mm τ2 m2.1, if_pos a, within_eq, if_pos w, b1]
    simp only [rfS]
    rw [f3, Option.bind_some, f4']
  have ok := exP_ok (W := fun k => win E (slU h k h.2.1) t) (b := (b : Int)) (2 ^ h.2.1) 0 (-2) (by omega) (Or.inl rfl)
  rcases ok with q | ⟨x, x1, x2⟩
  · rw [q]
    rw [q] at fin
    rw [if_neg (by decide)]
    refine ⟨-2, τ2, τ4, rfl, ?_, iv⟩
    rw [fin]
    by_cases z : a2 = 1
    · rw [if_pos z]
    · rw [if_neg z, if_pos rfl]
  · rw [x2]
    rw [x2] at fin
    rw [if_pos (by omega)]
    by_cases z : a2 = 0
    · rw [if_pos z, bc_eq, Option.bind_some]
      refine ⟨_, τ2, τ4, rfl, ?_, iv⟩
      rw [fin, if_neg (by omega), if_neg (by omega)]
    · rw [if_neg z]
      refine ⟨_, τ2, τ4, rfl, ?_, iv⟩
      rw [fin, if_pos (by omega)]
