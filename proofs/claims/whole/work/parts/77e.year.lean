/-! Years pass. -/
def les (x : Int) : Int := m_max 0 (i_sub x 1)
theorem les_in {x : Int} (h0 : 0 ≤ x) (h1 : x ≤ 99) : 0 ≤ les x ∧ les x ≤ x := by
  unfold les m_max
  rw [isb (ok_in (by omega) (by omega))]
  split <;> omega
noncomputable def passT : Nat → Nat → Hs → Hs
  | 0, _, h => h
  | m + 1, k, h => passT m (k + 1) (setT h k 3 (les (h.2.2.1 k 3)))
noncomputable def passB1 (h : Hs) (k : Nat) : Hs := if les (h.2.2.2 k 1) = 0 then setB (setB h k 1 (les (h.2.2.2 k 1))) k 2 (les (h.2.2.2 k 2)) else setB h k 1 (les (h.2.2.2 k 1))
noncomputable def passB : Nat → Nat → Hs → Hs
  | 0, _, h => h
  | m + 1, k, h => passB m (k + 1) (passB1 h k)
noncomputable def passP (h : Hs) : Hs := passB h.2.1 0 (passT h.1 0 h)
/-- the same but for what a sale or a year changes -/
def Pk (h g : Hs) : Prop := g.1 = h.1 ∧ g.2.1 = h.2.1 ∧ (∀ t : Nat, g.2.2.1 t 0 = h.2.2.1 t 0) ∧ ∀ b w : Nat, w ≠ 1 → w ≠ 2 → w ≠ 4 → g.2.2.2 b w = h.2.2.2 b w
theorem Pk.refl (h : Hs) : Pk h h := ⟨rfl, rfl, fun _ => rfl, fun _ _ _ _ _ => rfl⟩
theorem Pk.trans {h g k : Hs} (a : Pk h g) (b : Pk g k) : Pk h k := ⟨b.1.trans a.1, b.2.1.trans a.2.1, fun t => (b.2.2.1 t).trans (a.2.2.1 t), fun x w h1 h2 h4 => (b.2.2.2 x w h1 h2 h4).trans (a.2.2.2 x w h1 h2 h4)⟩
theorem Pk.setT {h : Hs} {t w : Nat} {v : Int} (hw : w ≠ 0) : Pk h (setT h t w v) := ⟨rfl, rfl, fun _ => up2_t (by omega), fun _ _ _ _ _ => rfl⟩
theorem Pk.setB {h : Hs} {b w : Nat} {v : Int} (hw : w = 1 ∨ w = 2 ∨ w = 4) : Pk h (setB h b w v) := ⟨rfl, rfl, fun _ => rfl, fun _ _ _ _ _ => up2_t (by omega)⟩
theorem passB1_pk (h : Hs) (k : Nat) : Pk h (passB1 h k) := by
  unfold passB1
  split
  · exact (Pk.setB (by omega)).trans (Pk.setB (by omega))
  · exact Pk.setB (by omega)
theorem passT_pk : ∀ (m k : Nat) (h : Hs), Pk h (passT m k h)
  | 0, _, h => Pk.refl h
  | m + 1, k, h => (Pk.setT (by decide)).trans (passT_pk m (k + 1) _)
theorem passB_pk : ∀ (m k : Nat) (h : Hs), Pk h (passB m k h)
  | 0, _, h => Pk.refl h
  | m + 1, k, h => (passB1_pk h k).trans (passB_pk m (k + 1) _)
theorem passP_pk (h : Hs) : Pk h (passP h) := (passT_pk _ _ _).trans (passB_pk _ _ _)
theorem passT_wf : ∀ (m k : Nat) (h : Hs), k + m = h.1 → Wf h → Wf (passT m k h)
  | 0, _, h, _, hw => hw
  | m + 1, k, h, hm, hw => by
    have g := (wf_T hw (show k < h.1 by omega)).2.2.2
    have l := les_in g.1 g.2
    exact passT_wf m (k + 1) _ (by show k + 1 + m = h.1; omega) (wf_setT hw (by omega) (by decide) (Or.inr ⟨by decide, l.1, by show les (h.2.2.1 k 3) ≤ 99; omega⟩))
theorem fit_les {h : Hs} {b w : Nat} (hw : Wf h) (hb : b < h.2.1) (h9 : w < 9) : fitv h ((w + 4 : Nat) : Int) (les (h.2.2.2 b w)) := by
  have q := hw.2.2.2 (b : Int) ((w + 4 : Nat) : Int) (Or.inr (by omega))
  rw [hnum_B hb h9] at q
  have g := (wf_B hw hb).1 w h9
  have l := les_in g.1 g.2
  unfold fitv at q ⊢
  exact Or.inr ⟨by omega, l.1, by omega⟩
theorem passB1_wf {h : Hs} {k : Nat} (hw : Wf h) (hk : k < h.2.1) : Wf (passB1 h k) := by
  have f1 := fit_les (w := 1) hw hk (by decide)
  have f2 := fit_les (w := 2) hw hk (by decide)
  have w1 := wf_setB hw hk (by decide) f1
  unfold passB1
  split
  · exact wf_setB w1 hk (by decide) f2
  · exact w1
theorem passB_wf : ∀ (m k : Nat) (h : Hs), k + m = h.2.1 → Wf h → Wf (passB m k h)
  | 0, _, h, _, hw => hw
  | m + 1, k, h, hm, hw => passB_wf m (k + 1) _ (by rw [(passB1_pk h k).2.1]; omega) (passB1_wf hw (by omega))
theorem passP_wf {h : Hs} (hw : Wf h) : Wf (passP h) := passB_wf _ _ _ (by rw [(passT_pk _ _ _).2.1]; omega) (passT_wf _ _ _ (by omega) hw)
theorem passT9 {c : Nat} (hc : isO 2 c = true) : ∀ (m n k : Nat) (h : Hs) (σ : St), k + m = h.1 → m < n → HC c h σ → Hz h → ∃ σ' : St, fX2_yearPasses_2 c n (k : Int) σ = fX2_yearPasses_36 c FU 0 σ' ∧ HC c (passT m k h) σ' ∧ Same σ σ' (fun d => d ≠ RF c 0 ∧ d ≠ RF c 1)
  | 0, n + 1, k, h, σ, hm, _, hh, _ => by
    unfold fX2_yearPasses_2
    rw [hh.1, if_pos (by omega)]
    exact ⟨σ, rfl, hh, fun _ _ => rfl⟩
  | m + 1, n + 1, k, h, σ, hm, hn, hh, hz => by
    have z1 := hz.1
    unfold fX2_yearPasses_2
    have hk : k < h.1 := by omega
    have n3 : hnum h (k : Int) 3 = h.2.2.1 k 3 := hnum_T (w := 3) hk (by decide)
    have e9 : i_add (k : Int) 1 = ((k + 1 : Nat) : Int) := by
      rw [ia (ok_in (by omega) (by omega))]
      omega
    rw [hh.1, if_neg (by omega), number_eq hc hh hz, Option.bind_some, n3, e9]
    dsimp only
    obtain ⟨σ1, f1, k1, s1⟩ := become_eq (i := (k : Int)) (w := 3) (v := les (h.2.2.1 k 3)) hc hh hz
    have f1' : fX2_become c (k : Int) 3 (m_max 0 (i_sub (h.2.2.1 k 3) 1)) σ = some σ1 := f1
    have e3 : hset h (k : Int) 3 (les (h.2.2.1 k 3)) = setT h k 3 (les (h.2.2.1 k 3)) := hset_T (w := 3) hk (by decide)
    rw [e3] at k1
    rw [f1', Option.bind_some]
    obtain ⟨σ2, f2, k2, s2⟩ := passT9 hc m n (k + 1) _ σ1 (by show k + 1 + m = h.1; omega) (by omega) k1 hz
    exact ⟨σ2, f2, k2, fun d hd => (s2 d hd).trans (s1 d hd)⟩
theorem passB9 {c : Nat} (hc : isO 2 c = true) : ∀ (m n k : Nat) (h : Hs) (σ : St), k + m = h.2.1 → m < n → HC c h σ → Hz h → ∃ σ' : St, fX2_yearPasses_36 c n (k : Int) σ = some σ' ∧ HC c (passB m k h) σ' ∧ Same σ σ' (fun d => d ≠ RF c 0 ∧ d ≠ RF c 1)
  | 0, n + 1, k, h, σ, hm, _, hh, _ => by
    unfold fX2_yearPasses_36
    rw [hh.2.1, if_pos (by omega)]
    exact ⟨σ, rfl, hh, fun _ _ => rfl⟩
  | m + 1, n + 1, k, h, σ, hm, hn, hh, hz => by
    have z2 := hz.2
    unfold fX2_yearPasses_36 fX2_yearPasses_88
    have hk : k < h.2.1 := by omega
    have n5 : hnum h (k : Int) 5 = h.2.2.2 k 1 := hnum_B (w := 1) hk (by decide)
    have e9 : i_add (k : Int) 1 = ((k + 1 : Nat) : Int) := by
      rw [ia (ok_in (by omega) (by omega))]
      omega
    rw [hh.2.1, if_neg (by omega), number_eq hc hh hz, Option.bind_some, n5, e9]
    dsimp only
    obtain ⟨σ1, f1, k1, s1⟩ := become_eq (i := (k : Int)) (w := 5) (v := les (h.2.2.2 k 1)) hc hh hz
    have f1' : fX2_become c (k : Int) 5 (m_max 0 (i_sub (h.2.2.2 k 1) 1)) σ = some σ1 := f1
    have e3 : hset h (k : Int) 5 (les (h.2.2.2 k 1)) = setB h k 1 (les (h.2.2.2 k 1)) := hset_B (w := 1) hk (by decide)
    rw [e3] at k1
    rw [f1', Option.bind_some]
    show ∃ σ' : St, (if les (h.2.2.2 k 1) = 0 then _ else _) = some σ' ∧ HC c (passB m (k + 1) (passB1 h k)) σ' ∧ _
    by_cases q : les (h.2.2.2 k 1) = 0
    · rw [if_pos q]
      have n6 : hnum (setB h k 1 (les (h.2.2.2 k 1))) (k : Int) 6 = h.2.2.2 k 2 := (hnum_B (h := setB h k 1 (les (h.2.2.2 k 1))) (w := 2) hk (by decide)).trans (up2_t (by omega))
      rw [number_eq hc k1 hz, Option.bind_some, n6]
      dsimp only
      obtain ⟨σ2, f2, k2, s2⟩ := become_eq (i := (k : Int)) (w := 6) (v := les (h.2.2.2 k 2)) hc k1 hz
      have f2' : fX2_become c (k : Int) 6 (m_max 0 (i_sub (h.2.2.2 k 2) 1)) σ1 = some σ2 := f2
      have e4 : hset (setB h k 1 (les (h.2.2.2 k 1))) (k : Int) 6 (les (h.2.2.2 k 2)) = passB1 h k := by
        rw [show passB1 h k = setB (setB h k 1 (les (h.2.2.2 k 1))) k 2 (les (h.2.2.2 k 2)) from by unfold passB1; rw [if_pos q]]
        exact hset_B (h := setB h k 1 (les (h.2.2.2 k 1))) (w := 2) hk (by decide)
      rw [e4] at k2
      rw [f2', Option.bind_some]
      obtain ⟨σ3, f3, k3, s3⟩ := passB9 hc m n (k + 1) _ σ2 (by rw [(passB1_pk h k).2.1]; omega) (by omega) k2 ⟨by rw [(passB1_pk h k).1]; exact hz.1, by rw [(passB1_pk h k).2.1]; exact hz.2⟩
      exact ⟨σ3, f3, k3, fun d hd => (s3 d hd).trans ((s2 d hd).trans (s1 d hd))⟩
    · rw [if_neg q]
      have e4 : setB h k 1 (les (h.2.2.2 k 1)) = passB1 h k := by
        unfold passB1
        rw [if_neg q]
      rw [e4] at k1
      obtain ⟨σ3, f3, k3, s3⟩ := passB9 hc m n (k + 1) _ σ1 (by rw [(passB1_pk h k).2.1]; omega) (by omega) k1 ⟨by rw [(passB1_pk h k).1]; exact hz.1, by rw [(passB1_pk h k).2.1]; exact hz.2⟩
      exact ⟨σ3, f3, k3, fun d hd => (s3 d hd).trans (s1 d hd)⟩
theorem pass9 {c : Nat} {h : Hs} {σ : St} (hc : isO 2 c = true) (hh : HC c h σ) (hz : Hz h) : ∃ σ' : St, fX2_yearPasses c σ = some σ' ∧ HC c (passP h) σ' ∧ Same σ σ' (fun d => d ≠ RF c 0 ∧ d ≠ RF c 1) := by
  have z1 := hz.1
  have z2 := hz.2
  obtain ⟨σ1, f1, k1, s1⟩ := passT9 hc h.1 FU 0 h σ (by omega) (by unfold FU; omega) hh hz
  obtain ⟨p1, p2, -, -⟩ := passT_pk h.1 0 h
  obtain ⟨σ2, f2, k2, s2⟩ := passB9 hc h.2.1 FU 0 _ σ1 (by omega) (by unfold FU; omega) k1 ⟨by omega, by omega⟩
  refine ⟨σ2, ?_, k2, fun d hd => (s2 d hd).trans (s1 d hd)⟩
  unfold fX2_yearPasses
  have f1' : fX2_yearPasses_2 c FU 0 σ = _ := f1
  have f2' : fX2_yearPasses_36 c FU 0 σ1 = _ := f2
  rw [f1', f2']
theorem passT10 : ∀ (m n k : Nat) (h : Hs) (σ : St), k + m = h.1 → m < n → HM h σ → Hz h → ∃ σ' : St, fX10_passes_2 49 n (k : Int) σ = fX10_passes_33 49 FU 0 σ' ∧ HM (passT m k h) σ' ∧ Same σ σ' (fun d => d ≠ 53)
  | 0, n + 1, k, h, σ, hm, _, hh, _ => by
    unfold fX10_passes_2
    rw [hh.1, if_pos (by omega)]
    exact ⟨σ, rfl, hh, fun _ _ => rfl⟩
  | m + 1, n + 1, k, h, σ, hm, hn, hh, hz => by
    have z1 := hz.1
    obtain ⟨-, -, -, x3⟩ := hh.2.2.1 k (by omega)
    have e9 : i_add (k : Int) 1 = ((k + 1 : Nat) : Int) := by
      rw [ia (ok_in (by omega) (by omega))]
      omega
    have ib : inb (k : Int) 8 := ⟨by omega, by omega⟩
    unfold fX10_passes_2 fX10_less
    simp only [rfS, lnS, hh.1, Int.toNat_natCast, x3, if_pos ib, e9, Option.bind_some]
    rw [if_neg (by omega)]
    obtain ⟨σ2, f2, k2, s2⟩ := passT10 m n (k + 1) _ _ (by show k + 1 + m = h.1; omega) (by omega) (HM_T (w := 3) (t := k) (v := les (h.2.2.1 k 3)) hh (by decide)) hz
    exact ⟨σ2, f2, k2, fun d hd => by rw [s2 d hd, up_ne hd]⟩
theorem passB10 : ∀ (m n k : Nat) (h : Hs) (σ : St), k + m = h.2.1 → m < n → HM h σ → Hz h → ∃ σ' : St, fX10_passes_33 49 n (k : Int) σ = some σ' ∧ HM (passB m k h) σ' ∧ Same σ σ' (fun d => d ≠ 54)
  | 0, n + 1, k, h, σ, hm, _, hh, _ => by
    unfold fX10_passes_33
    rw [hh.2.1, if_pos (by omega)]
    exact ⟨σ, rfl, hh, fun _ _ => rfl⟩
  | m + 1, n + 1, k, h, σ, hm, hn, hh, hz => by
    have z2 := hz.2
    have y1 : σ 54 (7 + k) = h.2.2.2 k 1 := by
      have := hh.2.2.2 k 1 (by omega) (by decide)
      simpa using this
    have y2 : σ 54 (14 + k) = h.2.2.2 k 2 := by
      have := hh.2.2.2 k 2 (by omega) (by decide)
      simpa using this
    have e7 : i_add 7 (k : Int) = ((7 + k : Nat) : Int) := by
      rw [ia (ok_in (by omega) (by omega))]
      omega
    have e14 : i_add 14 (k : Int) = ((14 + k : Nat) : Int) := by
      rw [ia (ok_in (by omega) (by omega))]
      omega
    have e9 : i_add (k : Int) 1 = ((k + 1 : Nat) : Int) := by
      rw [ia (ok_in (by omega) (by omega))]
      omega
    have j7 : inb ((7 + k : Nat) : Int) 63 := ⟨by omega, by omega⟩
    have j14 : inb ((14 + k : Nat) : Int) 63 := ⟨by omega, by omega⟩
    have u7 : ∀ x : Int, up σ 54 (7 + k) x 54 (7 + k) = x := fun x => by simp [up]
    have u14 : ∀ x : Int, up σ 54 (7 + k) x 54 (14 + k) = h.2.2.2 k 2 := fun x => by rw [up_get, if_neg (by omega), y2]
    unfold fX10_passes_33 fX10_less fX10_passes_95
    simp only [rfS, lnS, hh.2.1, e7, e14, e9, Int.toNat_natCast, y1, if_pos j7, if_pos j14, Option.bind_some, u7, u14]
    rw [if_neg (by omega)]
    have h1 := HM_B (w := 1) (b := k) (v := les (h.2.2.2 k 1)) hh (by omega)
    show ∃ σ' : St, (if les (h.2.2.2 k 1) = 0 then _ else _) = some σ' ∧ HM (passB m (k + 1) (passB1 h k)) σ' ∧ _
    by_cases q : les (h.2.2.2 k 1) = 0
    · rw [if_pos q]
      have h2 := HM_B (w := 2) (b := k) (v := les (h.2.2.2 k 2)) h1 (by omega)
      have e4 : setB (setB h k 1 (les (h.2.2.2 k 1))) k 2 (les (h.2.2.2 k 2)) = passB1 h k := by
        unfold passB1
        rw [if_pos q]
      rw [e4] at h2
      obtain ⟨σ3, f3, k3, s3⟩ := passB10 m n (k + 1) _ _ (by rw [(passB1_pk h k).2.1]; omega) (by omega) h2 ⟨by rw [(passB1_pk h k).1]; exact hz.1, by rw [(passB1_pk h k).2.1]; exact hz.2⟩
      exact ⟨σ3, f3, k3, fun d hd => by rw [s3 d hd, up_ne hd, up_ne hd]⟩
    · rw [if_neg q]
      have e4 : setB h k 1 (les (h.2.2.2 k 1)) = passB1 h k := by
        unfold passB1
        rw [if_neg q]
      rw [e4] at h1
      obtain ⟨σ3, f3, k3, s3⟩ := passB10 m n (k + 1) _ _ (by rw [(passB1_pk h k).2.1]; omega) (by omega) h1 ⟨by rw [(passB1_pk h k).1]; exact hz.1, by rw [(passB1_pk h k).2.1]; exact hz.2⟩
      exact ⟨σ3, f3, k3, fun d hd => by rw [s3 d hd, up_ne hd]⟩
theorem pass10 {h : Hs} {σ : St} (hh : HM h σ) (hz : Hz h) : ∃ σ' : St, fX10_passes 49 σ = some σ' ∧ HM (passP h) σ' ∧ Same σ σ' (fun d => d ≠ 53 ∧ d ≠ 54) := by
  have z1 := hz.1
  have z2 := hz.2
  obtain ⟨σ1, f1, k1, s1⟩ := passT10 h.1 FU 0 h σ (by omega) (by unfold FU; omega) hh hz
  obtain ⟨p1, p2, -, -⟩ := passT_pk h.1 0 h
  obtain ⟨σ2, f2, k2, s2⟩ := passB10 h.2.1 FU 0 _ σ1 (by omega) (by unfold FU; omega) k1 ⟨by omega, by omega⟩
  refine ⟨σ2, ?_, k2, fun d hd => by rw [s2 d hd.2, s1 d hd.1]⟩
  unfold fX10_passes
  have f1' : fX10_passes_2 49 FU 0 σ = _ := f1
  have f2' : fX10_passes_33 49 FU 0 σ1 = _ := f2
  rw [f1', f2']
/-- who is missed, as bits -/
def msP (h : Hs) (k u : Nat) : Bool := decide (u < k ∧ 0 < h.2.2.1 u 3)
theorem msP_no {h : Hs} {k : Nat} (q : h.2.2.1 k 3 ≤ 0) (u : Nat) : msP h k u = msP h (k + 1) u := by
  unfold msP
  by_cases z : u = k
  · subst z
    simp [show ¬ 0 < h.2.2.1 u 3 by omega]
  · by_cases y : u < k
    · simp [y, Nat.lt_succ_of_lt y]
    · simp [y, show ¬ u < k + 1 by omega]
theorem msP_yes {h : Hs} {k : Nat} (q : ¬ h.2.2.1 k 3 ≤ 0) (u : Nat) : (msP h k u || decide (u = k)) = msP h (k + 1) u := by
  unfold msP
  by_cases z : u = k
  · subst z
    simp [show 0 < h.2.2.1 u 3 by omega]
  · by_cases y : u < k
    · simp [y, z, Nat.lt_succ_of_lt y]
    · simp [y, z, show ¬ u < k + 1 by omega]
theorem bits9 {c : Nat} {h : Hs} {σ : St} (hc : isO 2 c = true) (hh : HC c h σ) (hz : Hz h) : ∀ (n k o : Nat), k ≤ h.1 → h.1 < k + n → BS o (msP h k) → ∃ r : Nat, fX2_missedBits_4 c n (o : Int) (k : Int) σ = some ((r : Int), σ) ∧ BS r (msP h h.1) := by
  have z1 := hz.1
  intro n
  induction n with
  | zero => intro k o h1 h2; omega
  | succ n ih =>
    intro k o h1 h2 bo
    rw [fX2_missedBits_4.eq_2, hh.1]
    by_cases e : (h.1 : Int) ≤ (k : Int)
    · rw [if_pos e]
      have ek : k = h.1 := by omega
      rw [ek] at bo
      exact ⟨o, rfl, bo⟩
    · have hk : k < h.1 := by omega
      have n3 : hnum h (k : Int) 3 = h.2.2.1 k 3 := hnum_T (w := 3) hk (by decide)
      have e9 : i_add (k : Int) 1 = ((k + 1 : Nat) : Int) := by
        rw [ia (ok_in (by omega) (by omega))]
        omega
      rw [if_neg e, number_eq hc hh hz, Option.bind_some, n3]
      unfold fX2_missedBits_27
      dsimp only
      rw [e9]
      by_cases q : h.2.2.1 k 3 ≤ 0
      · rw [if_pos q]
        exact ih (k + 1) o (by omega) (by omega) (bo.congr (fun u _ => msP_no q u))
      · rw [if_neg q]
        obtain ⟨r, r1, r2⟩ := bo.or (t := k) (by omega)
        rw [r1]
        exact ih (k + 1) r (by omega) (by omega) (r2.congr (fun u _ => msP_yes q u))
theorem bits10 {h : Hs} {σ : St} (hh : HM h σ) (hz : Hz h) : ∀ (n k o : Nat), k ≤ h.1 → h.1 < k + n → BS o (msP h k) → ∃ r : Nat, fX10_missedNow_4 49 n (o : Int) (k : Int) σ = some ((r : Int), σ) ∧ BS r (msP h h.1) := by
  have z1 := hz.1
  intro n
  induction n with
  | zero => intro k o h1 h2; omega
  | succ n ih =>
    intro k o h1 h2 bo
    rw [fX10_missedNow_4.eq_2, hh.1]
    by_cases e : (h.1 : Int) ≤ (k : Int)
    · rw [if_pos e]
      have ek : k = h.1 := by omega
      rw [ek] at bo
      exact ⟨o, rfl, bo⟩
    · have hk : k < h.1 := by omega
      obtain ⟨-, -, -, x3⟩ := hh.2.2.1 k (by omega)
      have e9 : i_add (k : Int) 1 = ((k + 1 : Nat) : Int) := by
        rw [ia (ok_in (by omega) (by omega))]
        omega
      have ib : inb (k : Int) 8 := ⟨by omega, by omega⟩
      unfold fX10_missedNow_27
      simp only [rfS, lnS, Int.toNat_natCast, x3, if_pos ib, e9]
      rw [if_neg e]
      by_cases q : h.2.2.1 k 3 ≤ 0
      · rw [if_pos q]
        exact ih (k + 1) o (by omega) (by omega) (bo.congr (fun u _ => msP_no q u))
      · rw [if_neg q]
        obtain ⟨r, r1, r2⟩ := bo.or (t := k) (by omega)
        rw [r1]
        exact ih (k + 1) r (by omega) (by omega) (r2.congr (fun u _ => msP_yes q u))
theorem bits_both {c : Nat} {h : Hs} (hc : isO 2 c = true) (hz : Hz h) : ∃ r : Nat, (∀ σ : St, HC c h σ → fX2_missedBits c σ = some ((r : Int), σ)) ∧ ∀ σ : St, HM h σ → fX10_missedNow 49 σ = some ((r : Int), σ) := by
  have z1 := hz.1
  have b00 : BS 0 (msP h 0) := ⟨by decide, fun u _ => by unfold msP; simp⟩
  by_cases ex : ∃ r : Nat, BS r (msP h h.1)
  · obtain ⟨r, hr⟩ := ex
    refine ⟨r, fun σ hh => ?_, fun σ hh => ?_⟩
    · obtain ⟨q, f, bq⟩ := bits9 hc hh hz FU 0 0 (Nat.zero_le _) (by unfold FU; omega) b00
      rw [hr.uniq bq]
      exact f
    · obtain ⟨q, f, bq⟩ := bits10 hh hz FU 0 0 (Nat.zero_le _) (by unfold FU; omega) b00
      rw [hr.uniq bq]
      exact f
  · refine ⟨0, fun σ hh => ?_, fun σ hh => ?_⟩
    · obtain ⟨q, f, bq⟩ := bits9 hc hh hz FU 0 0 (Nat.zero_le _) (by unfold FU; omega) b00
      exact absurd ⟨q, bq⟩ ex
    · obtain ⟨q, f, bq⟩ := bits10 hh hz FU 0 0 (Nat.zero_le _) (by unfold FU; omega) b00
      exact absurd ⟨q, bq⟩ ex
def bc3 (x : Int) : Int := i_and (i_add x (i_ushr x 16)) 63
def bc1 (x0 : Int) : Int := i_and (i_add (i_add (i_and (i_sub x0 (i_and (i_ushr x0 1) 1431655765)) 858993459) (i_and (i_ushr (i_sub x0 (i_and (i_ushr x0 1) 1431655765)) 2) 858993459)) (i_ushr (i_add (i_and (i_sub x0 (i_and (i_ushr x0 1) 1431655765)) 858993459) (i_and (i_ushr (i_sub x0 (i_and (i_ushr x0 1) 1431655765)) 2) 858993459)) 4)) 252645135
def bcI (x : Int) : Int := bc3 (i_add (bc1 x) (i_ushr (bc1 x) 8))
theorem bc_eq (x : Int) (σ : St) : fJ6_bitCount_0f7a4 x σ = some (bcI x, σ) := rfl
theorem ag_year  : Ag (fun σ => fX9_year 0 σ) (fun σ => fX10_year 49 σ) := by
  intro σ hI
  obtain ⟨h, c1, c2, c3, i1, i2, i3, i4, i5, i6, i7⟩ := id hI
  have ho : isO 2 1 = true := by decide +kernel
  have pw := passP_wf c3
  obtain ⟨p1, p2, -, -⟩ := passP_pk h
  obtain ⟨r, b9, b10⟩ := bits_both (c := 1) (h := passP h) ho pw.1
  have q4 : Int.toNat 4 = 4 := rfl
  have j4 : inb 4 5 := by decide
  dsimp only
  unfold fX9_year fX10_year
  simp only [rfS, lnS, bc_eq, q4, if_pos j4]
  obtain ⟨σ1, f1, k1, s1⟩ := pass9 ho c1 c3.1
  have s1' : ∀ d, d ≠ 2 → d ≠ 3 → σ1 d = σ d := fun d x y => s1 d ⟨x, y⟩
  rw [f1, Option.bind_some, b9 _ (HC1.keep (fun c j q => by rw [up_ne (by unfold pH1 at q; omega)]) k1), Option.bind_some, Option.bind_some]
  have m1 : HM h (up σ1 35 4 (i_add (σ1 35 4) 1)) := HM.keep (fun c j q => by rw [up_ne (by unfold pHM at q; omega), s1' c (by unfold pHM at q; omega) (by unfold pHM at q; omega)]) c2
  obtain ⟨σ2, f2, k2, s2⟩ := pass10 m1 c3.1
  refine ⟨_, _, up σ2 66 4 (i_add (σ2 66 4) 1), rfl, ?_, ?_⟩
  · rw [f2, Option.bind_some, b10 _ (HM.keep (fun c j q => by rw [up_ne (by unfold pHM at q; omega)]) k2), Option.bind_some, Option.bind_some]
  · have r66 : σ2 66 = σ 66 := by rw [s2 66 (by omega), up_ne (by decide), s1' 66 (by decide) (by decide)]
    refine inv_deed (h := h) (g := passP h) ⟨i1, i3, i4, i5, i6, i7⟩ (fun c j q => ?_) (HC1.keep (fun c j q => ?_) k1) (HM.keep (fun c j q => by rw [up_ne (by unfold pHM at q; omega)]) k2) pw (by omega) (by omega) (led_up (k := 4) i2 (by decide) (fun i => ?_) (fun i => ?_))
    · unfold scr at q
      rw [up_ne (by omega), s2 c (by omega), up_ne (by omega), s1' c (by omega) (by omega)]
    · unfold pH1 at q
      rw [up_ne (by omega), s2 c (by omega), up_ne (by omega)]
    · rw [up_ne (by decide), s2 35 (by omega), up_get, s1' 35 (by decide) (by decide)]
      by_cases z : i = 4
      · rw [if_pos ⟨rfl, z⟩, if_pos z]
      · rw [if_neg (fun y => z y.2), if_neg z]
    · rw [up_get, r66]
      by_cases z : i = 4
      · rw [if_pos ⟨rfl, z⟩, if_pos z]
      · rw [if_neg (fun y => z y.2), if_neg z]
noncomputable def itP : Nat → Hs → Hs
  | 0, h => h
  | m + 1, h => itP m (passP h)
theorem itP_wf : ∀ (m : Nat) (h : Hs), Wf h → Wf (itP m h) ∧ Pk h (itP m h)
  | 0, h, hw => ⟨hw, Pk.refl h⟩
  | m + 1, h, hw => by
    obtain ⟨a, b⟩ := itP_wf m (passP h) (passP_wf hw)
    exact ⟨a, (passP_pk h).trans b⟩
theorem later9 {x1 x2 x3 : Int} : ∀ (m n k : Nat) (h : Hs) (σ : St), (k : Int) + (m : Int) = x1 → k + m ≤ 60 → m < n → HC 11 h σ → Wf h → ∃ σ' : St, fX9_later_75 0 x1 x2 x3 n (k : Int) σ = fX9_later_75 0 x1 x2 x3 (n - m) x1 σ' ∧ HC 11 (itP m h) σ' ∧ Same σ σ' (fun d => d ≠ 12 ∧ d ≠ 13)
  | 0, n, k, h, σ, hm, _, _, hh, _ => ⟨σ, by rw [← hm]; simp, hh, fun _ _ => rfl⟩
  | m + 1, n + 1, k, h, σ, hm, h6, hn, hh, hw => by
    rw [fX9_later_75.eq_2]
    simp only [rfS]
    have e9 : i_add (k : Int) 1 = ((k + 1 : Nat) : Int) := by
      rw [ia (ok_in (by omega) (by omega))]
      omega
    obtain ⟨σ1, f1, k1, s1⟩ := pass9 (c := 11) (by decide +kernel) hh hw.1
    rw [if_neg (by omega), f1, Option.bind_some, e9]
    obtain ⟨σ2, f2, k2, s2⟩ := later9 (x1 := x1) (x2 := x2) (x3 := x3) m n (k + 1) (passP h) σ1 (by omega) (by omega) (by omega) k1 (passP_wf hw)
    exact ⟨σ2, by rw [f2, show n + 1 - (m + 1) = n - m by omega], k2, fun d hd => (s2 d hd).trans (s1 d hd)⟩
theorem later10 {x1 x2 x3 : Int} : ∀ (m n k : Nat) (h : Hs) (σ : St), (k : Int) + (m : Int) = x1 → k + m ≤ 60 → m < n → HM h σ → Wf h → ∃ σ' : St, fX10_later_51 49 x1 x2 x3 n (k : Int) σ = fX10_later_51 49 x1 x2 x3 (n - m) x1 σ' ∧ HM (itP m h) σ' ∧ Same σ σ' (fun d => d ≠ 53 ∧ d ≠ 54)
  | 0, n, k, h, σ, hm, _, _, hh, _ => ⟨σ, by rw [← hm]; simp, hh, fun _ _ => rfl⟩
  | m + 1, n + 1, k, h, σ, hm, h6, hn, hh, hw => by
    rw [fX10_later_51.eq_2]
    have e9 : i_add (k : Int) 1 = ((k + 1 : Nat) : Int) := by
      rw [ia (ok_in (by omega) (by omega))]
      omega
    obtain ⟨σ1, f1, k1, s1⟩ := pass10 hh hw.1
    rw [if_neg (by omega), f1, Option.bind_some, e9]
    obtain ⟨σ2, f2, k2, s2⟩ := later10 (x1 := x1) (x2 := x2) (x3 := x3) m n (k + 1) (passP h) σ1 (by omega) (by omega) (by omega) k1 (passP_wf hw)
    exact ⟨σ2, by rw [f2, show n + 1 - (m + 1) = n - m by omega], k2, fun d hd => (s2 d hd).trans (s1 d hd)⟩
theorem ag_later (a1 : Int) (a2 : Int) (a3 : Int) (ha1 : ok32 a1) (ha2 : ok32 a2) (ha3 : ok32 a3) : Ag (fun σ => fX9_later 0 a1 a2 a3 σ) (fun σ => fX10_later 49 a1 a2 a3 σ) := by
  intro σ hI
  obtain ⟨h, c1, c2, c3, i1, i2, i3, i4, i5, i6, i7⟩ := id hI
  have z1 := c3.1.1
  have z2 := c3.1.2
  dsimp only
  have cc : ∀ P : Prop, (P ↔ (0 ≤ a1 ∧ a1 ≤ 60) ∧ ((a3 = 0 ∧ a2 = 0) ∨ ((a3 = 1 ∨ a3 = 2) ∧ 0 ≤ a2 ∧ a2 < (h.2.1 : Int)))) → (P → fX9_later 0 a1 a2 a3 σ = (Option.bind (fX7_begin 10 1 σ) fun q1 => fX9_later_75 0 a1 a2 a3 FU 0 q1)) ∧ (¬ P → fX9_later 0 a1 a2 a3 σ = some (-1, σ)) := by
    intro P hP
    unfold fX9_later fX9_later_41 fX9_later_26 fX9_later_41 fX9_later_42
    simp only [rfS, hasBidder_eq c1]
    by_cases d0 : a3 = 0
    · rw [if_pos d0]
      by_cases d1 : a2 = 0
      · rw [if_pos d1]
        refine ⟨fun p => ?_, fun p => ?_⟩
        · have := hP.mp p
          rw [if_neg (by omega), if_neg (by omega), if_neg (by decide)]
        · by_cases y : a1 < 0
          · rw [if_pos y]
          · rw [if_neg y, if_pos (by
              by_cases z : 60 < a1
              · exact z
              · exact absurd (hP.mpr ⟨by omega, Or.inl ⟨d0, d1⟩⟩) p)]
      · rw [if_neg d1]
        refine ⟨fun p => ?_, fun p => ?_⟩
        · have := hP.mp p
          omega
        · split
          · rfl
          · split <;> rfl
    · rw [if_neg d0]
      have core : ∀ A : Option (Int × St), (P → A = (Option.bind (fX7_begin 10 1 σ) fun q1 => fX9_later_75 0 a1 a2 a3 FU 0 q1)) ∧ (¬ P → A = some (-1, σ)) → (P → A = (Option.bind (fX7_begin 10 1 σ) fun q1 => fX9_later_75 0 a1 a2 a3 FU 0 q1)) ∧ (¬ P → A = some (-1, σ)) := fun A x => x
      by_cases d12 : a3 = 1 ∨ a3 = 2
      · have e : ∀ A B : Option (Int × St), (if a3 = 1 then A else if a3 = 2 then A else B) = A := by
          intro A B
          by_cases y : a3 = 1
          · rw [if_pos y]
          · rw [if_neg y, if_pos (by omega)]
        rw [e]
        by_cases hb : 0 ≤ a2 ∧ a2 < (h.2.1 : Int)
        · rw [if_pos hb, b1]
          dsimp only
          refine ⟨fun p => ?_, fun p => ?_⟩
          · have := hP.mp p
            rw [if_neg (by omega), if_neg (by omega), if_neg (by decide)]
          · by_cases y : a1 < 0
            · rw [if_pos y]
            · rw [if_neg y, if_pos (by
                by_cases z : 60 < a1
                · exact z
                · exact absurd (hP.mpr ⟨by omega, Or.inr ⟨d12, hb⟩⟩) p)]
        · rw [if_neg hb, b0]
          dsimp only
          refine ⟨fun p => ?_, fun p => ?_⟩
          · have := hP.mp p
            omega
          · split
            · rfl
            · split <;> rfl
      · rw [if_neg (by omega), if_neg (by omega)]
        refine ⟨fun p => ?_, fun p => ?_⟩
        · have := hP.mp p
          omega
        · split
          · rfl
          · split <;> rfl
  have mm : ∀ τ : St, HM h τ → (((0 ≤ a1 ∧ a1 ≤ 60) ∧ ((a3 = 0 ∧ a2 = 0) ∨ ((a3 = 1 ∨ a3 = 2) ∧ 0 ≤ a2 ∧ a2 < (h.2.1 : Int)))) → fX10_later 49 a1 a2 a3 τ = fX10_later_40 49 a1 a2 a3 τ) ∧ (¬ ((0 ≤ a1 ∧ a1 ≤ 60) ∧ ((a3 = 0 ∧ a2 = 0) ∨ ((a3 = 1 ∨ a3 = 2) ∧ 0 ≤ a2 ∧ a2 < (h.2.1 : Int)))) → fX10_later 49 a1 a2 a3 τ = some (-1, τ)) := by
    intro τ hm
    unfold fX10_later
    refine ⟨fun p => ?_, fun p => ?_⟩
    · rw [within_eq, if_pos p.1, b1]
      dsimp only
      rw [within_eq, if_pos (by omega), b1]
      dsimp only
      by_cases d0 : a3 = 0
      · rw [if_pos d0, if_pos (by omega)]
      · rw [if_neg d0, isOne_eq hm c3.1, if_pos (by omega), b1]
    · rw [within_eq]
      by_cases y1 : 0 ≤ a1 ∧ a1 ≤ 60
      · rw [if_pos y1, b1]
        dsimp only
        rw [within_eq]
        by_cases y2 : 0 ≤ a3 ∧ a3 ≤ 2
        · rw [if_pos y2, b1]
          dsimp only
          by_cases d0 : a3 = 0
          · rw [if_pos d0, if_neg (fun z => p ⟨y1, Or.inl ⟨d0, z⟩⟩)]
          · rw [if_neg d0, isOne_eq hm c3.1, if_neg (fun z => p ⟨y1, Or.inr ⟨by omega, z⟩⟩), b0]
        · rw [if_neg y2, b0]
      · rw [if_neg y1, b0]
  obtain ⟨cy, cn⟩ := cc _ Iff.rfl
  by_cases p : (0 ≤ a1 ∧ a1 ≤ 60) ∧ ((a3 = 0 ∧ a2 = 0) ∨ ((a3 = 1 ∨ a3 = 2) ∧ 0 ≤ a2 ∧ a2 < (h.2.1 : Int)))
  case neg =>
    rw [cn p]
    exact ⟨_, σ, σ, rfl, (mm σ c2).2 p, hI⟩
  rw [cy p]
  obtain ⟨n, hn⟩ : ∃ n : Nat, a1 = (n : Int) := ⟨a1.toNat, by omega⟩
  obtain ⟨E, τ, f, T, m, -, -, -, s⟩ := think c1 c2 c3 i7
  rw [f, Option.bind_some]
  obtain ⟨τ1, f1, k1, s1⟩ := later9 (x1 := a1) (x2 := a2) (x3 := a3) n FU 0 h τ (by omega) (by omega) (by unfold FU; omega) T.1.1 c3
  have f1' : fX9_later_75 0 a1 a2 a3 FU 0 τ = _ := f1
  obtain ⟨iw, ik⟩ := itP_wf n h c3
  obtain ⟨r, b9, b10⟩ := bits_both (c := 11) (h := itP n h) (by decide +kernel) iw.1
  obtain ⟨fu, hfu⟩ : ∃ fu : Nat, FU - n = fu + 1 := ⟨FU - n - 1, by unfold FU; omega⟩
  -- the answer
  have m1 : HM h τ1 := HM.keep (fun c j q => by rw [s1 c (by unfold pHM at q; omega)]) m.1
  obtain ⟨τ2, f2, k2, s2⟩ := keeps_eq (c := 75) (by decide) rfl m1
  have m2 : HM h τ2 := HM.keep (fun c j q => by rw [s2 c (by unfold pHM at q; omega)]) m1
  obtain ⟨τ3, f3, k3, s3⟩ := later10 (x1 := a1) (x2 := a2) (x3 := a3) n FU 0 h τ2 (by omega) (by omega) (by unfold FU; omega) m2 c3
  have f3' : fX10_later_51 49 a1 a2 a3 FU 0 τ2 = _ := f3
  obtain ⟨τ4, f4, k4, s4⟩ := backAll k3 (k2.keep (s3 75 (by omega))) ik.1 ik.2.1 (fun t _ => ik.2.2.1 t) (fun b w _ _ x1 x2 x4 => ik.2.2.2 b w x1 x2 x4)
  refine ⟨if a3 = 0 then (r : Int) else hnum (itP n h) a2 (a3 + 4), τ1, τ4, ?_, ?_, ?_⟩
  · rw [f1', hfu, fX9_later_75.eq_2]
    simp only [rfS]
    unfold fX9_later_131
    rw [if_pos (Int.le_refl _)]
    by_cases d0 : a3 = 0
    · rw [if_pos d0, if_pos d0, b9 τ1 k1, Option.bind_some]
    · rw [if_neg d0, if_neg d0]
      by_cases d1 : a3 = 1
      · rw [if_pos d1, number_eq (by decide +kernel) k1 iw.1, Option.bind_some, d1]
        rfl
      · have d2 : a3 = 2 := by omega
        rw [if_neg d1, number_eq (by decide +kernel) k1 iw.1, Option.bind_some, d2]
        rfl
  · rw [(mm τ1 m1).1 p]
    unfold fX10_later_40
    simp only [rfS]
    rw [f2, Option.bind_some, f3', hfu, fX10_later_51.eq_2]
    unfold fX10_later_89
    rw [if_pos (Int.le_refl _)]
    by_cases d0 : a3 = 0
    · rw [if_pos d0, if_pos d0, b10 τ3 k3, Option.bind_some, f4, Option.bind_some]
    · obtain ⟨b, hb⟩ : ∃ b : Nat, a2 = (b : Int) := ⟨a2.toNat, by omega⟩
      obtain ⟨w, hw⟩ : ∃ w : Nat, a3 = (w : Int) := ⟨a3.toNat, by omega⟩
      have e : i_add (i_mul 7 a3) a2 = ((7 * w + b : Nat) : Int) := by
        rw [im (ok_in (by omega) (by omega)), ia (ok_in (by omega) (by omega))]
        omega
      have hb2 : b < (itP n h).2.1 := by rw [ik.2.1]; omega
      rw [if_neg d0, if_neg d0, e]
      simp only [rfS, lnS]
      rw [if_pos ⟨by omega, by omega⟩, f4, Option.bind_some, Int.toNat_natCast, k3.2.2.2 b w (by omega) (by omega), hb, hw]
      rw [show (w : Int) + 4 = ((w + 4 : Nat) : Int) by omega, hnum_B hb2 (by omega)]
  · exact inv_end ⟨c1, c3, i1, i2, i3, i4, i5, i6, i7⟩ k4 (fun c j q => by rw [s4 c (by unfold scr at q; omega), s3 c (by unfold scr at q; omega), s2 c (by unfold scr at q; omega), s1 c (by unfold scr at q; omega), s c (by unfold scr at q; omega)])
