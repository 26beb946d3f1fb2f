/-! An image, and back to it. -/
theorem HC.same {c : Nat} {h : Hs} {σ σ' : St} (k : HC c h σ) (s0 : σ' c = σ c) (s1 : σ' (RF c 0) = σ (RF c 0)) (s2 : σ' (RF c 1) = σ (RF c 1)) : HC c h σ' := by
  unfold HC at *
  rw [s0, s1, s2]
  exact k
theorem HC.congr {c : Nat} {h g : Hs} {σ : St} (hh : HC c h σ) (e1 : h.1 = g.1) (e2 : h.2.1 = g.2.1) (eT : ∀ t w : Nat, t < 8 → w < 4 → h.2.2.1 t w = g.2.2.1 t w) (eB : ∀ b w : Nat, b < 7 → w < 9 → h.2.2.2 b w = g.2.2.2 b w) : HC c g σ := by
  obtain ⟨f1, f2, f3, f4⟩ := hh
  exact ⟨by rw [f1, e1], by rw [f2, e2], fun t w ht hw => by rw [f3 t w ht hw, eT t w ht hw], fun b w hb hw => by rw [f4 b w hb hw, eB b w hb hw]⟩
theorem become_T {c : Nat} {h : Hs} {σ : St} {t w : Nat} {v : Int} (hc : isO 2 c = true) (hh : HC c h σ) (hz : Hz h) (ht : t < h.1) (hw : w < 4) : ∃ σ' : St, fX2_become c (t : Int) (w : Int) v σ = some σ' ∧ HC c (setT h t w v) σ' ∧ Same σ σ' (fun d => d ≠ RF c 0 ∧ d ≠ RF c 1) := by
  have := become_eq (i := (t : Int)) (w := (w : Int)) (v := v) hc hh hz
  rw [hset_T ht hw] at this
  exact this
theorem become_B {c : Nat} {h : Hs} {σ : St} {b w : Nat} {v : Int} (hc : isO 2 c = true) (hh : HC c h σ) (hz : Hz h) (hb : b < h.2.1) (hw : w < 9) : ∃ σ' : St, fX2_become c (b : Int) ((w + 4 : Nat) : Int) v σ = some σ' ∧ HC c (setB h b w v) σ' ∧ Same σ σ' (fun d => d ≠ RF c 0 ∧ d ≠ RF c 1) := by
  have := become_eq (i := (b : Int)) (w := ((w + 4 : Nat) : Int)) (v := v) hc hh hz
  rw [hset_B hb hw] at this
  exact this
theorem layC_T {k : Hs} (hk : Hz k) : ∀ (m n t : Nat) (h : Hs) (σ : St), t + m = k.1 → m < n → HC 1 h σ → HC 28 k σ → Hz h → k.1 ≤ h.1 → ∃ σ' : St, fX3_laysBack_2 27 1 35 n (t : Int) σ = fX3_laysBack_66 27 1 35 FU 0 σ' ∧ HC 1 (layT h k t k.1) σ' ∧ Same σ σ' (fun d => d ≠ 2 ∧ d ≠ 3)
  | 0, n + 1, t, h, σ, hm, _, c1, ck, hz, hl => by
    unfold fX3_laysBack_2
    simp only [rfS]
    rw [ck.1, if_pos (by omega)]
    refine ⟨σ, rfl, c1.congr rfl rfl (fun u w _ _ => ?_) (fun _ _ _ _ => rfl), fun _ _ => rfl⟩
    show _ = if _ then _ else _
    rw [if_neg (by omega)]
  | m + 1, n + 1, t, h, σ, hm, hn, c1, ck, hz, hl => by
    have ht : t < h.1 := by omega
    have htk : t < k.1 := by omega
    have z1 := hz.1
    have ho1 : isO 2 1 = true := by decide +kernel
    have ho2 : isO 2 28 = true := by decide +kernel
    have e9 : i_add (t : Int) 1 = ((t + 1 : Nat) : Int) := by
      rw [ia (ok_in (by omega) (by omega))]
      omega
    have n1 : hnum k (t : Int) 1 = k.2.2.1 t 1 := hnum_T (w := 1) htk (by decide)
    have n2 : hnum k (t : Int) 2 = k.2.2.1 t 2 := hnum_T (w := 2) htk (by decide)
    have n3 : hnum k (t : Int) 3 = k.2.2.1 t 3 := hnum_T (w := 3) htk (by decide)
    obtain ⟨σ1, f1, k1, s1⟩ := become_T (w := 1) (v := k.2.2.1 t 1) ho1 c1 hz ht (by decide)
    have f1' : fX2_become 1 (t : Int) 1 (k.2.2.1 t 1) σ = some σ1 := f1
    have s1' : Same σ σ1 (fun d => d ≠ 2 ∧ d ≠ 3) := s1
    have ck1 : HC 28 k σ1 := ck.same (s1' 28 (by decide)) (s1' 29 (by decide)) (s1' 30 (by decide))
    obtain ⟨σ2, f2, k2, s2⟩ := become_T (w := 2) (v := k.2.2.1 t 2) ho1 k1 hz ht (by decide)
    have f2' : fX2_become 1 (t : Int) 2 (k.2.2.1 t 2) σ1 = some σ2 := f2
    have s2' : Same σ1 σ2 (fun d => d ≠ 2 ∧ d ≠ 3) := s2
    have ck2 : HC 28 k σ2 := ck1.same (s2' 28 (by decide)) (s2' 29 (by decide)) (s2' 30 (by decide))
    obtain ⟨σ3, f3, k3, s3⟩ := become_T (w := 3) (v := k.2.2.1 t 3) ho1 k2 hz ht (by decide)
    have f3' : fX2_become 1 (t : Int) 3 (k.2.2.1 t 3) σ2 = some σ3 := f3
    have s3' : Same σ2 σ3 (fun d => d ≠ 2 ∧ d ≠ 3) := s3
    have ck3 : HC 28 k σ3 := ck2.same (s3' 28 (by decide)) (s3' 29 (by decide)) (s3' 30 (by decide))
    unfold fX3_laysBack_2
    simp only [rfS, e9]
    rw [ck.1, if_neg (by omega), number_eq ho2 ck hk, Option.bind_some, n1]
    dsimp only
    rw [f1', Option.bind_some, number_eq ho2 ck1 hk, Option.bind_some, n2]
    dsimp only
    rw [f2', Option.bind_some, number_eq ho2 ck2 hk, Option.bind_some, n3]
    dsimp only
    rw [f3', Option.bind_some]
    obtain ⟨σ', f, q, s⟩ := layC_T hk m n (t + 1) _ σ3 (by omega) (by omega) k3 ck3 hz hl
    refine ⟨σ', f, q.congr rfl rfl (fun u w _ _ => ?_) (fun _ _ _ _ => rfl), fun d hd => by rw [s d hd, s3' d hd, s2' d hd, s1' d hd]⟩
    show (if t + 1 ≤ u ∧ u < k.1 ∧ 1 ≤ w ∧ w < 4 then k.2.2.1 u w else if u = t ∧ w = 3 then k.2.2.1 t 3 else if u = t ∧ w = 2 then k.2.2.1 t 2 else if u = t ∧ w = 1 then k.2.2.1 t 1 else h.2.2.1 u w) = if t ≤ u ∧ u < k.1 ∧ 1 ≤ w ∧ w < 4 then k.2.2.1 u w else h.2.2.1 u w
    by_cases p : t ≤ u ∧ u < k.1 ∧ 1 ≤ w ∧ w < 4
    · rw [if_pos p]
      by_cases p2 : t + 1 ≤ u
      · rw [if_pos (by omega)]
      · have e : u = t := by omega
        subst e
        rw [if_neg (by omega)]
        have : w = 1 ∨ w = 2 ∨ w = 3 := by omega
        rcases this with rfl | rfl | rfl <;> simp
    · rw [if_neg p, if_neg (by omega), if_neg (by omega), if_neg (by omega), if_neg (by omega)]
theorem layC_B {k : Hs} (hk : Hz k) : ∀ (m n b : Nat) (h : Hs) (σ : St), b + m = k.2.1 → m < n → HC 1 h σ → HC 28 k σ → Hz h → k.2.1 ≤ h.2.1 → ∃ σ' : St, fX3_laysBack_66 27 1 35 n (b : Int) σ = some (cpy σ' 31 0 35 0 5) ∧ HC 1 (layB h k b k.2.1) σ' ∧ Same σ σ' (fun d => d ≠ 2 ∧ d ≠ 3)
  | 0, n + 1, b, h, σ, hm, _, c1, ck, hz, hl => by
    unfold fX3_laysBack_66
    simp only [rfS, lnS]
    rw [ck.2.1, if_pos (by omega), if_pos (by decide)]
    refine ⟨σ, rfl, c1.congr rfl rfl (fun _ _ _ _ => rfl) (fun u w _ _ => ?_), fun _ _ => rfl⟩
    show _ = if _ then _ else _
    rw [if_neg (by omega)]
  | m + 1, n + 1, b, h, σ, hm, hn, c1, ck, hz, hl => by
    have ht : b < h.2.1 := by omega
    have htk : b < k.2.1 := by omega
    have z1 := hz.2
    have ho1 : isO 2 1 = true := by decide +kernel
    have ho2 : isO 2 28 = true := by decide +kernel
    have e9 : i_add (b : Int) 1 = ((b + 1 : Nat) : Int) := by
      rw [ia (ok_in (by omega) (by omega))]
      omega
    have n1 : hnum k (b : Int) 8 = k.2.2.2 b 4 := hnum_B (w := 4) htk (by decide)
    have n2 : hnum k (b : Int) 5 = k.2.2.2 b 1 := hnum_B (w := 1) htk (by decide)
    have n3 : hnum k (b : Int) 6 = k.2.2.2 b 2 := hnum_B (w := 2) htk (by decide)
    obtain ⟨σ1, f1, k1, s1⟩ := become_B (w := 4) (v := k.2.2.2 b 4) ho1 c1 hz ht (by decide)
    have f1' : fX2_become 1 (b : Int) 8 (k.2.2.2 b 4) σ = some σ1 := f1
    have s1' : Same σ σ1 (fun d => d ≠ 2 ∧ d ≠ 3) := s1
    have ck1 : HC 28 k σ1 := ck.same (s1' 28 (by decide)) (s1' 29 (by decide)) (s1' 30 (by decide))
    obtain ⟨σ2, f2, k2, s2⟩ := become_B (w := 1) (v := k.2.2.2 b 1) ho1 k1 hz ht (by decide)
    have f2' : fX2_become 1 (b : Int) 5 (k.2.2.2 b 1) σ1 = some σ2 := f2
    have s2' : Same σ1 σ2 (fun d => d ≠ 2 ∧ d ≠ 3) := s2
    have ck2 : HC 28 k σ2 := ck1.same (s2' 28 (by decide)) (s2' 29 (by decide)) (s2' 30 (by decide))
    obtain ⟨σ3, f3, k3, s3⟩ := become_B (w := 2) (v := k.2.2.2 b 2) ho1 k2 hz ht (by decide)
    have f3' : fX2_become 1 (b : Int) 6 (k.2.2.2 b 2) σ2 = some σ3 := f3
    have s3' : Same σ2 σ3 (fun d => d ≠ 2 ∧ d ≠ 3) := s3
    have ck3 : HC 28 k σ3 := ck2.same (s3' 28 (by decide)) (s3' 29 (by decide)) (s3' 30 (by decide))
    unfold fX3_laysBack_66
    simp only [rfS, lnS, e9]
    rw [ck.2.1, if_neg (by omega), number_eq ho2 ck hk, Option.bind_some, n1]
    dsimp only
    rw [f1', Option.bind_some, number_eq ho2 ck1 hk, Option.bind_some, n2]
    dsimp only
    rw [f2', Option.bind_some, number_eq ho2 ck2 hk, Option.bind_some, n3]
    dsimp only
    rw [f3', Option.bind_some]
    obtain ⟨σ', f, q, s⟩ := layC_B hk m n (b + 1) _ σ3 (by omega) (by omega) k3 ck3 hz hl
    refine ⟨σ', f, q.congr rfl rfl (fun _ _ _ _ => rfl) (fun u w _ _ => ?_), fun d hd => by rw [s d hd, s3' d hd, s2' d hd, s1' d hd]⟩
    show (if b + 1 ≤ u ∧ u < k.2.1 ∧ (w = 1 ∨ w = 2 ∨ w = 4) then k.2.2.2 u w else if u = b ∧ w = 2 then k.2.2.2 b 2 else if u = b ∧ w = 1 then k.2.2.2 b 1 else if u = b ∧ w = 4 then k.2.2.2 b 4 else h.2.2.2 u w) = if b ≤ u ∧ u < k.2.1 ∧ (w = 1 ∨ w = 2 ∨ w = 4) then k.2.2.2 u w else h.2.2.2 u w
    by_cases p : b ≤ u ∧ u < k.2.1 ∧ (w = 1 ∨ w = 2 ∨ w = 4)
    · rw [if_pos p]
      by_cases p2 : b + 1 ≤ u
      · rw [if_pos (by omega)]
      · have e : u = b := by omega
        subst e
        rw [if_neg (by omega)]
        rcases p.2.2 with rfl | rfl | rfl <;> simp
    · rw [if_neg p, if_neg (by omega), if_neg (by omega), if_neg (by omega), if_neg (by omega)]
theorem layC_eq {k h : Hs} {σ : St} (hk : Hz k) (c1 : HC 1 h σ) (ck : HC 28 k σ) (hz : Hz h) (l1 : k.1 ≤ h.1) (l2 : k.2.1 ≤ h.2.1) : ∃ σ' : St, fX3_laysBack 27 1 35 σ = some (cpy σ' 31 0 35 0 5) ∧ HC 1 (layB (layT h k 0 k.1) k 0 k.2.1) σ' ∧ Same σ σ' (fun d => d ≠ 2 ∧ d ≠ 3) := by
  have z1 := hk.1
  have z2 := hk.2
  obtain ⟨σ1, f1, q1, s1⟩ := layC_T hk k.1 FU 0 h σ (by omega) (by unfold FU; omega) c1 ck hz l1
  obtain ⟨σ2, f2, q2, s2⟩ := layC_B hk k.2.1 FU 0 _ σ1 (by omega) (by unfold FU; omega) q1 (ck.same (s1 28 (by decide)) (s1 29 (by decide)) (s1 30 (by decide))) hz l2
  refine ⟨σ2, ?_, q2, fun d hd => by rw [s2 d hd, s1 d hd]⟩
  unfold fX3_laysBack
  have f1' : fX3_laysBack_2 27 1 35 FU 0 σ = _ := f1
  have f2' : fX3_laysBack_66 27 1 35 FU 0 σ1 = _ := f2
  rw [f1', f2']
theorem lay_wf {h k : Hs} (hw : Wf h) (kw : Wf k) (l1 : k.1 ≤ h.1) (l2 : k.2.1 ≤ h.2.1) : Wf (layB (layT h k 0 k.1) k 0 k.2.1) := by
  obtain ⟨z, a, b, f⟩ := hw
  obtain ⟨-, -, -, g⟩ := kw
  refine ⟨z, fun t w ht => ?_, fun t w ht => ?_, fun i w hv => ?_⟩
  · have ht' : h.1 ≤ t := ht
    show (if _ then _ else _) = _
    rw [if_neg (by omega)]
    exact a t w ht'
  · have ht' : h.2.1 ≤ t := ht
    show (if _ then _ else _) = _
    rw [if_neg (by omega)]
    exact b t w ht'
  · have hv' : hOf h i w := hv
    show fitv h w _
    have f' := f i w hv'
    unfold hnum at *
    rcases hv' with q | q
    · rw [if_pos q] at f'
      have q' : 0 ≤ w ∧ w < 4 ∧ 0 ≤ i ∧ i < ((layB (layT h k 0 k.1) k 0 k.2.1).1 : Int) := q
      rw [if_pos q']
      show fitv h w (if 0 ≤ i.toNat ∧ i.toNat < k.1 ∧ 1 ≤ w.toNat ∧ w.toNat < 4 then k.2.2.1 i.toNat w.toNat else h.2.2.1 i.toNat w.toNat)
      by_cases p : 0 ≤ i.toNat ∧ i.toNat < k.1 ∧ 1 ≤ w.toNat ∧ w.toNat < 4
      · rw [if_pos p]
        have g' := g i w (Or.inl (by omega))
        rw [if_pos (by omega)] at g'
        exact fitv_mono l2 g'
      · rw [if_neg p]
        exact f'
    · rw [if_neg (by omega), if_pos q] at f'
      have q' : 4 ≤ w ∧ w < 13 ∧ 0 ≤ i ∧ i < ((layB (layT h k 0 k.1) k 0 k.2.1).2.1 : Int) := q
      rw [if_neg (by omega), if_pos q']
      show fitv h w (if 0 ≤ i.toNat ∧ i.toNat < k.2.1 ∧ ((w - 4).toNat = 1 ∨ (w - 4).toNat = 2 ∨ (w - 4).toNat = 4) then k.2.2.2 i.toNat (w - 4).toNat else h.2.2.2 i.toNat (w - 4).toNat)
      by_cases p : 0 ≤ i.toNat ∧ i.toNat < k.2.1 ∧ ((w - 4).toNat = 1 ∨ (w - 4).toNat = 2 ∨ (w - 4).toNat = 4)
      · rw [if_pos p]
        have g' := g i w (Or.inr (by omega))
        rw [if_neg (by omega), if_pos (by omega)] at g'
        exact fitv_mono l2 g'
      · rw [if_neg p]
        exact f'
theorem img_l : ∀ (m n k : Nat) (σ : St), k + m = 5 → m < n → ∃ σ' : St, fX10_image_31 49 n (k : Int) σ = some (σ 66 4, σ') ∧ (∀ j : Nat, σ' 68 j = if k ≤ j ∧ j < 5 then σ 66 j else σ 68 j) ∧ Same σ σ' (fun d => d ≠ 68)
  | 0, n + 1, k, σ, hm, _ => by
    unfold fX10_image_31
    simp only [rfS, lnS]
    rw [if_pos (by omega), if_pos (by decide)]
    exact ⟨σ, rfl, fun j => by rw [if_neg (by omega)], fun _ _ => rfl⟩
  | m + 1, n + 1, k, σ, hm, hn => by
    have e9 : i_add (k : Int) 1 = ((k + 1 : Nat) : Int) := by
      rw [ia (ok_in (by omega) (by omega))]
      omega
    unfold fX10_image_31
    simp only [rfS, lnS, e9, Int.toNat_natCast]
    rw [if_neg (by omega), if_pos ⟨by omega, by omega⟩, if_pos ⟨by omega, by omega⟩]
    obtain ⟨σ', f, g, s⟩ := img_l m n (k + 1) (up σ 68 k (σ 66 k)) (by omega) (by omega)
    have u66 : up σ 68 k (σ 66 k) 66 = σ 66 := up_ne (by decide)
    rw [u66] at f
    refine ⟨σ', f, fun j => ?_, fun d hd => by rw [s d hd, up_ne hd]⟩
    rw [g j, u66, up_get]
    by_cases q : j = k
    · subst q
      rw [if_neg (by omega), if_pos ⟨rfl, rfl⟩, if_pos (by omega)]
    · rw [if_neg (show ¬ (68 = 68 ∧ j = k) from fun z => q z.2)]
      by_cases p : k ≤ j ∧ j < 5
      · rw [if_pos p, if_pos (by omega)]
      · rw [if_neg p, if_neg (by omega)]
theorem back_l : ∀ (m n k : Nat) (σ : St), k + m = 5 → m < n → ∃ σ' : St, fX10_back_28 49 n (k : Int) σ = some (σ' 66 4, σ') ∧ (∀ j : Nat, σ' 66 j = if k ≤ j ∧ j < 5 then σ 68 j else σ 66 j) ∧ Same σ σ' (fun d => d ≠ 66)
  | 0, n + 1, k, σ, hm, _ => by
    unfold fX10_back_28
    simp only [rfS, lnS]
    rw [if_pos (by omega), if_pos (by decide)]
    exact ⟨σ, rfl, fun j => by rw [if_neg (by omega)], fun _ _ => rfl⟩
  | m + 1, n + 1, k, σ, hm, hn => by
    have e9 : i_add (k : Int) 1 = ((k + 1 : Nat) : Int) := by
      rw [ia (ok_in (by omega) (by omega))]
      omega
    unfold fX10_back_28
    simp only [rfS, lnS, e9, Int.toNat_natCast]
    rw [if_neg (by omega), if_pos ⟨by omega, by omega⟩, if_pos ⟨by omega, by omega⟩]
    obtain ⟨σ', f, g, s⟩ := back_l m n (k + 1) (up σ 66 k (σ 68 k)) (by omega) (by omega)
    have u68 : up σ 66 k (σ 68 k) 68 = σ 68 := up_ne (by decide)
    refine ⟨σ', f, fun j => ?_, fun d hd => by rw [s d hd, up_ne hd]⟩
    rw [g j, u68, up_get]
    by_cases q : j = k
    · subst q
      rw [if_neg (by omega), if_pos ⟨rfl, rfl⟩, if_pos (by omega)]
    · rw [if_neg (show ¬ (66 = 66 ∧ j = k) from fun z => q z.2)]
      by_cases p : k ≤ j ∧ j < 5
      · rw [if_pos p, if_pos (by omega)]
      · rw [if_neg p, if_neg (by omega)]
theorem ag_image : Ag (fun σ => fX9_image 0 σ) (fun σ => fX10_image 49 σ) := by
  intro σ hI
  obtain ⟨h, c1, c2, c3, i1, i2, i3, i4, i5, i6, i7⟩ := id hI
  have q0 : Int.toNat 0 = 0 := rfl
  have q4 : Int.toNat 4 = 4 := rfl
  have q5 : Int.toNat 5 = 5 := rfl
  dsimp only
  unfold fX9_image fX3_takes fX10_image
  simp only [rfS, lnS, q0, q4, q5]
  obtain ⟨τ, f, k, s⟩ := copies_eq (c := 28) (e0 := 29) (e1 := 30) rfl rfl rfl rfl (by decide) (by decide) (by decide) (by decide) (by decide) (by decide) c1
  rw [f, Option.bind_some, if_pos (by decide), Option.bind_some, if_pos (by decide)]
  have g0 : ∀ a, a ≠ 27 → a ≠ 31 → up (cpy τ 35 0 31 0 5) 27 2 1 a = τ a := fun a x y => by rw [up_ne x, cpy_ne y]
  have g1 : ∀ a, ¬ (27 ≤ a ∧ a ≤ 31) → up (cpy τ 35 0 31 0 5) 27 2 1 a = σ a := fun a x => by rw [g0 a (by omega) (by omega), s a (by omega)]
  have ex : ∃ ρ : St, ρ = up (cpy τ 35 0 31 0 5) 27 2 1 := ⟨_, rfl⟩
  obtain ⟨ρ, eρ⟩ := ex
  rw [← eρ] at g0 g1 ⊢
  have e35 : ρ 35 = σ 35 := g1 35 (by omega)
  have e31 : ∀ i : Nat, i < 5 → ρ 31 i = σ 35 i := fun i hi => by rw [eρ, up_ne (by decide), cpy_at, if_pos hi, s 35 (by decide)]
  have e27 : ∀ j : Nat, ρ 27 j = if j = 2 then 1 else σ 27 j := fun j => by
    rw [eρ, up_get]
    by_cases z : j = 2
    · rw [if_pos ⟨rfl, z⟩, if_pos z]
    · rw [if_neg (fun y => z y.2), if_neg z, cpy_ne (by decide), s 27 (by decide)]
  have ex2 : ∃ ω : St, ω = up (up (up ρ 49 26 1) 49 27 ((up ρ 49 26 1) 49 0)) 49 28 ((up (up ρ 49 26 1) 49 27 ((up ρ 49 26 1) 49 0)) 49 5) := ⟨_, rfl⟩
  obtain ⟨ω, eω⟩ := ex2
  have o1 : ∀ a, a ≠ 49 → ω a = ρ a := fun a x => by rw [eω, up_ne x, up_ne x, up_ne x]
  have o2 : ∀ j, ω 49 j = if j = 28 then σ 49 5 else if j = 27 then σ 49 0 else if j = 26 then 1 else σ 49 j := fun j => by
    rw [eω]
    simp only [up_get, true_and]
    rw [g1 49 (by omega)]
    simp
  have hmω : HM h ω := HM.keep (fun c j q => by
    by_cases z : c = 49
    · subst z
      rw [o2 j]
      unfold pHM at q
      rw [if_neg (by omega), if_neg (by omega), if_neg (by omega)]
    · rw [o1 c z, g1 c (by unfold pHM at q; omega)]) c2
  obtain ⟨ω1, f1, k1, s1⟩ := keeps_eq (c := 67) (by decide) rfl hmω
  obtain ⟨ω2, f2, k2, s2⟩ := img_l 5 FU 0 ω1 (by omega) (by decide)
  have f2' : fX10_image_31 49 FU 0 ω1 = _ := f2
  refine ⟨σ 35 4, ρ, ω2, by rw [e35], ?_, ?_⟩
  · rw [← eω, f1, Option.bind_some, f2', s1 66 (by decide), o1 66 (by decide), g1 66 (by omega), i2 4 (by decide)]
  · have ag : ∀ c j : Nat, ¬ pImg c j → ω2 c j = σ c j := by
      intro c j q
      unfold pImg at q
      rw [s2 c (by omega), s1 c (by omega)]
      by_cases z : c = 49
      · subst z
        rw [o2 j, if_neg (by omega), if_neg (by omega), if_neg (by omega)]
      · rw [o1 c z, g1 c (by omega)]
    have big : ∀ c, c ≠ 49 → c ≠ 67 → c ≠ 68 → ω2 c = ρ c := fun c x y z => by rw [s2 c z, s1 c y, o1 c x]
    have f49 : ω2 49 = ω 49 := by rw [s2 49 (by decide), s1 49 (by decide)]
    refine ⟨h, HC1.keep (fun c j q => ag c j (by unfold pH1 at q; unfold pImg; omega)) c1, HM.keep (fun c j q => ag c j (by unfold pHM at q; unfold pImg; omega)) c2, c3, ⟨?_, ?_, fun i hi => ?_, h, ?_, ⟨?_, ?_, ?_, ?_⟩, c3, Nat.le_refl _, Nat.le_refl _⟩, i2.keep (fun c j q => ag c j (by unfold pLed at q; unfold pImg; omega)), i3.keep (fun c j q => ag c j (by unfold pChg at q; unfold pImg; omega)) (Nat.le_refl _) (Nat.le_refl _), i4.keep (fun c j q => ag c j (by unfold pTape at q; unfold pImg; omega)), i5.keep (fun c j q => ag c j (by unfold pLots at q; unfold pImg; omega)), fun w hw => (i6 w hw).keep hw (fun c j q => ag c j (by unfold pShelf at q; unfold pImg; omega)), i7.keep (fun c j q => ag c j (by unfold pLaw at q; unfold pImg; omega))⟩
    · rw [big 27 (by decide) (by decide) (by decide), e27 2, f49, o2 26]
      simp
    · rw [big 27 (by decide) (by decide) (by decide), e27 2]
      simp
    · rw [big 31 (by decide) (by decide) (by decide), e31 i hi, k2 i, if_pos ⟨Nat.zero_le _, hi⟩, s1 66 (by decide), o1 66 (by decide), g1 66 (by omega), i2 i hi]
    · exact k.same (by rw [big 28 (by decide) (by decide) (by decide), g0 28 (by decide) (by decide)]) (show ω2 29 = τ 29 by rw [big 29 (by decide) (by decide) (by decide), g0 29 (by decide) (by decide)]) (show ω2 30 = τ 30 by rw [big 30 (by decide) (by decide) (by decide), g0 30 (by decide) (by decide)])
    · rw [f49, o2 27]
      simp [c2.1]
    · rw [f49, o2 28]
      simp [c2.2.1]
    · rw [s2 67 (by decide)]
      exact k1.1
    · rw [s2 67 (by decide)]
      exact k1.2
theorem ag_back : Ag (fun σ => fX9_back 0 σ) (fun σ => fX10_back 49 σ) := by
  intro σ hI
  obtain ⟨h, c1, c2, c3, i1, i2, i3, i4, i5, i6, i7⟩ := id hI
  obtain ⟨a1, a2, a3, k, kc, ⟨o1, o2, o3, o4⟩, kw, l1, l2⟩ := id i1
  have q4 : Int.toNat 4 = 4 := rfl
  dsimp only
  unfold fX9_back fX10_back
  simp only [rfS, lnS, q4]
  by_cases q : σ 27 2 = 0
  · rw [if_pos q]
    exact ⟨-5, σ, σ, rfl, by rw [if_pos (by omega)], hI⟩
  rw [if_neg q]
  obtain ⟨τ, f, kt, s⟩ := layC_eq kw.1 c1 kc c3.1 l1 l2
  rw [f, Option.bind_some, if_pos (by decide)]
  have ex : ∃ ρ : St, ρ = cpy τ 31 0 35 0 5 := ⟨_, rfl⟩
  obtain ⟨ρ, eρ⟩ := ex
  rw [← eρ]
  have g1 : ∀ a, a ≠ 2 → a ≠ 3 → a ≠ 35 → ρ a = σ a := fun a x y z => by rw [eρ, cpy_ne z, s a ⟨x, y⟩]
  have e35 : ∀ i : Nat, i < 5 → ρ 35 i = σ 31 i := fun i hi => by rw [eρ, cpy_at, if_pos hi, s 31 (by decide)]
  have e49 := g1 49 (by decide) (by decide) (by decide)
  have hm : HM h ρ := HM.keep (fun c j q => by rw [g1 c (by unfold pHM at q; omega) (by unfold pHM at q; omega) (by unfold pHM at q; omega)]) c2
  have kp : KP 67 k ρ := by
    unfold KP
    rw [g1 67 (by decide) (by decide) (by decide)]
    exact ⟨o3, o4⟩
  obtain ⟨ω, f1, k1, s1⟩ := lays_eq (c := 67) (N := k.1) (M := k.2.1) (by decide) rfl kw.1.1 kw.1.2 hm kp
  obtain ⟨ω1, f2, k2, s2⟩ := back_l 5 FU 0 ω (by omega) (by decide)
  have f2' : fX10_back_28 49 FU 0 ω = _ := f2
  have w66 : ∀ i : Nat, i < 5 → ω1 66 i = σ 68 i := fun i hi => by rw [k2 i, if_pos ⟨Nat.zero_le _, hi⟩, s1 68 (by decide), g1 68 (by decide) (by decide) (by decide)]
  refine ⟨_, ρ, ω1, rfl, ?_, ?_⟩
  · rw [e49, if_neg (by omega), o1, o2, f1, Option.bind_some, f2', w66 4 (by decide), e35 4 (by decide), a3 4 (by decide)]
  · refine inv_deed (h := h) (g := layB (layT h k 0 k.1) k 0 k.2.1) ⟨i1, i3, i4, i5, i6, i7⟩ (fun c j q => ?_) (HC1.keep (fun c j q => ?_) kt) (HM.keep (fun c j q => by rw [s2 c (by unfold pHM at q; omega)]) k1) (lay_wf c3 kw l1 l2) (Nat.le_refl _) (Nat.le_refl _) (fun i hi => ?_)
    · unfold scr at q
      rw [s2 c (by omega), s1 c (by omega), g1 c (by omega) (by omega) (by omega)]
    · unfold pH1 at q
      rw [s2 c (by omega), s1 c (by omega), eρ, cpy_ne (by omega)]
    · rw [w66 i hi, s2 35 (by decide), s1 35 (by decide), e35 i hi, a3 i hi]
