theorem inv_law {h : Hs} {σ σ' : St} {dr : Nat} (hI : HC 1 h σ ∧ HM h σ ∧ Wf h ∧ InvImg h σ ∧ InvLed σ ∧ InvChg h σ ∧ InvLots σ ∧ (∀ s : Nat, s < 6 → InvShelf σ s)) (n4 : ∀ j : Nat, j < 120 → σ 5 j = σ 55 j ∧ 0 ≤ σ 5 j ∧ σ 5 j ≤ 255) (hd : dr = 8 ∨ dr = 9) (ag : ∀ c j : Nat, ¬ (c = 4 ∨ c = dr ∨ (c = 49 ∧ (j = 7 ∨ j = 9 ∨ j = 10 ∨ j = 15 ∨ j = 16 ∨ j = 17 ∨ j = 18)) ∨ (56 ≤ c ∧ c ≤ 63)) → σ' c j = σ c j) (t1 : σ' 4 5 = 0) (t2 : σ' 49 7 = 0) (l : InvLaw σ') : Inv σ' := by
  obtain ⟨c1, c2, c3, i1, i2, i3, i5, i6⟩ := hI
  refine ⟨h, HC1.keep (fun c j q => ag c j (by unfold pH1 at q; omega)) c1, HM.keep (fun c j q => ag c j (by unfold pHM at q; omega)) c2, c3, i1.keep (fun c j q => ag c j (by unfold pImg at q; omega)) (Nat.le_refl _) (Nat.le_refl _), i2.keep (fun c j q => ag c j (by unfold pLed at q; omega)), i3.keep (fun c j q => ag c j (by unfold pChg at q; omega)) (Nat.le_refl _) (Nat.le_refl _), ⟨0, by omega, t1, t2, fun j hj => ?_⟩, i5.keep (fun c j q => ag c j (by unfold pLots at q; omega)), fun s hs => (i6 s hs).keep hs (fun c j q => ag c j (by unfold pShelf at q; omega)), l⟩
  rw [ag 5 j (by omega), ag 55 j (by omega)]
  exact n4 j hj
theorem ag_law : Ag (fun σ => fX9_law 0 σ) (fun σ => fX10_law 49 σ) := by
  intro σ hI
  obtain ⟨h, c1, c2, c3, i1, i2, i3, ⟨n, n1, n2, n3, n4⟩, i5, i6, ⟨j1, j2, j3, j4⟩⟩ := id hI
  dsimp only
  have hT : Tok (σ 5) n := ⟨n1, fun j hj => (n4 j hj).2⟩
  obtain ⟨st, dr, h89, hs, hd⟩ : ∃ st dr : Nat, ((st = 8 ∧ dr = 9) ∨ (st = 9 ∧ dr = 8)) ∧ σ 4 3 = (st : Int) ∧ σ 4 4 = (dr : Int) := by
    rcases j3 with ⟨a, b⟩ | ⟨a, b⟩
    · exact ⟨8, 9, Or.inl ⟨rfl, rfl⟩, a, b⟩
    · exact ⟨9, 8, Or.inr ⟨rfl, rfl⟩, a, b⟩
  have hd8 : dr = 8 ∨ dr = 9 := by omega
  obtain ⟨ok, p, ls, e1, e2, e3, e4, e5⟩ := linesS hT n 0 (Nat.zero_le _) (by omega)
  obtain ⟨Y, y1, y2⟩ := e3 dr σ [] FU 0 ⟨hd8, hd, n2, fun j _ => rfl⟩ (Nat.le_refl _) (by omega) (by unfold FU; omega)
  have C := law9 e1 hs hd h89 y1
  -- the model, from a store that holds the tape
  have M : ∀ σ1 : St, σ1 49 7 = (n : Int) → (∀ j : Nat, j < 120 → σ1 55 j = σ 5 j) → ∃ (τ' : St) (Z' : List Int), fX10_law 49 σ1 = fX10_law_66 49 ok (moS τ' p 0 Z') ∧ nA (up σ1 49 18 0) τ' ∧ (ok = 1 → Z' = moLs ls ∧ Z'.length ≤ 120 ∧ τ' 49 18 = (ls.length : Int) ∧ RwsM τ' 0 0 ls ∧ ls.length ≤ 60) := by
    intro σ1 s1 s2
    obtain ⟨τ', Z', z1, z2, z3⟩ := e4 (up σ1 49 18 0) [] FU 0 ⟨by rw [up_get, if_neg (by omega)]; exact s1, fun j hj => by rw [up_ne (by decide)]; exact s2 j hj⟩ (Nat.le_refl _) (by rw [up_get, if_pos ⟨rfl, rfl⟩]; rfl) (by omega) (by unfold FU; omega)
    refine ⟨τ', Z', ?_, z2, fun q => ?_⟩
    · unfold fX10_law
      rw [m_start]
      exact z1
    · obtain ⟨k1, k2, k3, k4, k5, -⟩ := z3 q
      rw [Nat.zero_add] at k3 k5
      exact ⟨k1, k2, k3, k4, k5⟩
  have o15 : ∀ (τ : St) (Z : List Int), moS τ p 0 Z 49 15 = (p : Int) := fun τ Z => if_pos ⟨rfl, rfl⟩
  have cg : ∀ c j : Nat, ¬ (c = 4 ∨ c = dr) → clS dr σ p Y c j = σ c j := fun c j q => cl_get (by omega)
  rcases e1 with q | q
  · rw [q, if_pos rfl] at C
    obtain ⟨τ', Z', m1, m2, -⟩ := M (up (clS dr σ p Y) 4 5 0) (by rw [up_ne (by decide), cg _ _ (by omega)]; exact n3) (fun j hj => by rw [up_ne (by decide), cg _ _ (by omega)]; exact (n4 j hj).1.symm)
    have ag : ∀ c j : Nat, ¬ ((c = 4 ∧ (j = 5 ∨ j = 6 ∨ j = 7)) ∨ c = dr ∨ (c = 49 ∧ (j = 7 ∨ j = 15 ∨ j = 16 ∨ j = 17 ∨ j = 18)) ∨ (60 ≤ c ∧ c ≤ 63)) → up (moS τ' p 0 Z') 49 7 0 c j = σ c j := fun c j hcj => by
      rw [up_get, if_neg (by omega), m_get (by omega), m2 c j (by omega), up_get, if_neg (by omega), up_get, if_neg (by omega), cl_get (by omega)]
    refine ⟨_, _, up (moS τ' p 0 Z') 49 7 0, C, ?_, inv_law (dr := dr) ⟨c1, c2, c3, i1, i2, i3, i5, i6⟩ n4 hd8 (fun c j hcj => ag c j (by omega)) ?_ ?_ ⟨?_, ?_, ?_, fun h9 => ?_⟩⟩
    · rw [m1, q]
      unfold fX10_law_66
      rw [if_pos rfl, up_get, if_neg (by omega), o15]
    · rw [up_ne (by decide), m_get (by omega), m2 4 5 (by omega), up_ne (by decide), up_get, if_pos ⟨rfl, rfl⟩]
    · rw [up_get, if_pos ⟨rfl, rfl⟩]
    · rw [ag 4 9 (by omega), ag 49 9 (by omega)]
      exact j1
    · rw [ag 4 9 (by omega)]
      exact j2
    · rw [ag 4 3 (by omega), ag 4 4 (by omega)]
      exact j3
    · rw [ag 4 9 (by omega)] at h9
      obtain ⟨E, g1, g2⟩ := j4 h9
      refine ⟨E, ?_, ?_⟩
      · intro τ t1 t2 t3 t4
        rw [ag 4 3 (by omega)] at t1 t4
        rw [ag 4 8 (by omega)] at t2
        rw [ag 4 9 (by omega)] at t3
        refine g1 τ t1 t2 t3 (t4.trans ?_)
        rw [hs, Int.toNat_natCast]
        funext j
        exact ag st j (by omega)
      · intro τ t1 t2 t3 t4 t5
        exact g2 τ (t1.trans (ag 49 10 (by omega))) (t2.trans (funext fun j => ag _ _ (by omega))) (t3.trans (funext fun j => ag _ _ (by omega))) (t4.trans (funext fun j => ag _ _ (by omega))) (t5.trans (funext fun j => ag _ _ (by omega)))
  · rw [q, if_neg (by decide)] at C
    obtain ⟨y3, y4⟩ := y2 q
    have y3' : Y = clLs 0 ls := y3
    have w := e5 q
    generalize hσ1 : up (up (up (up (up (clS dr σ p Y) 4 3 (dr : Int)) 4 4 (st : Int)) 4 8 (Y.length : Int)) 4 9 1) 4 5 0 = σ1 at C
    have d1 : ∀ c : Nat, c ≠ 4 → σ1 c = clS dr σ p Y c := fun c hc => by
      rw [← hσ1, up_ne hc, up_ne hc, up_ne hc, up_ne hc, up_ne hc]
    have f3 : σ1 4 3 = (dr : Int) := by rw [← hσ1]; rfl
    have f4 : σ1 4 4 = (st : Int) := by rw [← hσ1]; rfl
    have f5 : σ1 4 5 = 0 := by rw [← hσ1]; rfl
    have f8 : σ1 4 8 = (Y.length : Int) := by rw [← hσ1]; rfl
    have f9 : σ1 4 9 = 1 := by rw [← hσ1]; rfl
    have fd : ∀ j : Nat, j < Y.length → σ1 dr j = Y.getD j 0 := fun j hj => by
      rw [d1 dr (by omega)]
      unfold clS
      rw [if_neg (by omega), if_neg (by omega), if_pos ⟨rfl, hj⟩]
    clear hσ1
    obtain ⟨τ', Z', m1, m2, m3⟩ := M σ1 (by rw [d1 49 (by decide), cg _ _ (by omega)]; exact n3) (fun j hj => by rw [d1 55 (by decide), cg _ _ (by omega)]; exact (n4 j hj).1.symm)
    obtain ⟨k1, k2, k3, k4, k5⟩ := m3 q
    have g18 : up (up (moS τ' p 0 Z') 49 7 0) 49 9 1 49 18 = (ls.length : Int) := by
      rw [up_get, if_neg (by omega), up_get, if_neg (by omega), m_get (by omega)]
      exact k3
    generalize hρ : up (up (up (moS τ' p 0 Z') 49 7 0) 49 9 1) 49 10 (ls.length : Int) = ρ
    have r1 : ∀ c j : Nat, ¬ (c = 49 ∧ (j = 7 ∨ j = 9 ∨ j = 10)) → ρ c j = moS τ' p 0 Z' c j := fun c j hcj => by
      rw [← hρ, up_get, if_neg (by omega), up_get, if_neg (by omega), up_get, if_neg (by omega)]
    have r7 : ρ 49 7 = 0 := by rw [← hρ]; rfl
    have r9 : ρ 49 9 = 1 := by rw [← hρ]; rfl
    have r10 : ρ 49 10 = (ls.length : Int) := by rw [← hρ]; rfl
    have r17 : ρ 49 17 = (Z'.length : Int) := by rw [r1 49 17 (by omega)]; exact mo17
    have r63 : ∀ j : Nat, j < Z'.length → ρ 63 j = Z'.getD j 0 := fun j hj => by
      rw [r1 63 j (by omega)]
      unfold moS
      rw [if_neg (by omega), if_neg (by omega), if_neg (by omega), if_pos ⟨rfl, hj⟩]
    have r60 : ∀ c j : Nat, c = 60 ∨ c = 61 ∨ c = 62 → ρ c j = τ' c j := fun c j hc => by
      rw [r1 c j (by omega), m_get (by omega)]
    obtain ⟨ρ', s1, s2, s3, s4, s5⟩ := law99 k5 k2 ls.length 0 FU ρ (Nat.zero_le _) (by omega) (by unfold FU; omega) r10 r17
    have ag1 : ∀ c j : Nat, ¬ ((c = 49 ∧ (j = 7 ∨ j = 9 ∨ j = 10 ∨ j = 15 ∨ j = 16 ∨ j = 17 ∨ j = 18)) ∨ (56 ≤ c ∧ c ≤ 63)) → ρ' c j = σ1 c j := fun c j hcj => by
      rw [s2 c (by omega), r1 c j (by omega), m_get (by omega), m2 c j (by omega), up_get, if_neg (by omega)]
    refine ⟨_, σ1, ρ', C, ?_, inv_law (dr := dr) ⟨c1, c2, c3, i1, i2, i3, i5, i6⟩ n4 hd8 (fun c j hcj => ?_) ?_ ?_ ⟨?_, ?_, ?_, fun _ => ⟨_, gc_law (st := dr) (len := Y.length) hd8 ?_ ?_ ?_ (by omega) w (by rw [y3']) (fun j hj => ?_), gm_law w k5 ?_ (by rw [← k1]; exact k2) ?_ (fun j hj => ?_)⟩⟩⟩
    · rw [m1, q]
      unfold fX10_law_66
      rw [if_neg (by decide), g18, hρ]
      exact s1
    · rw [ag1 c j (by omega), d1 c (by omega), cg c j (by omega)]
    · rw [ag1 4 5 (by omega)]
      exact f5
    · rw [s2 49 (by decide)]
      exact r7
    · rw [ag1 4 9 (by omega), f9, s2 49 (by decide), r9]
    · rw [ag1 4 9 (by omega), f9]
      exact Or.inr rfl
    · rw [ag1 4 3 (by omega), ag1 4 4 (by omega), f3, f4]
      omega
    · rw [ag1 4 3 (by omega)]
      exact f3
    · rw [ag1 4 8 (by omega)]
      exact f8
    · rw [ag1 4 9 (by omega)]
      exact f9
    · rw [ag1 dr j (by omega), fd j hj, y3']
    · rw [s2 49 (by decide)]
      exact r10
    · refine RwsM.keep ls 0 0 k4 (fun d j hd' _ hj => ?_)
      obtain ⟨a1, a2, a3⟩ := s3 j (Nat.zero_le _) (by omega)
      rcases hd' with rfl | rfl | rfl
      · show ρ' 56 j = _
        rw [a1, r60 60 j (by omega)]
      · show ρ' 57 j = _
        rw [a2, r60 61 j (by omega)]
      · show ρ' 58 j = _
        rw [a3, r60 62 j (by omega)]
    · rw [← k1] at hj ⊢
      rw [s5 j hj, r63 j hj]
