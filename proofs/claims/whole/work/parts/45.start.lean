/-! From the claim's own start to the law's walk. -/
theorem lw_of {args : Array Value} {s : State} (hts : ∀ w ∈ lw_tbl, w.before args s = true) : ∀ w ∈ lw_w, w.before args s = true := fun w h => hts w (List.mem_filter.mp h).1
theorem arr_known {args : Array Value} {s : State} {ty : FieldType} (h : (Cond.arrayClass ty).before args s = true) : ∃ cA : ClassId, ArrOfT s cA ty ∧ s.vm.findClass ("[" ++ ty.toString) = some cA := by
  obtain ⟨cA, kA, comp, h1, h2, h3⟩ := Cond.arrayClass_spec h
  exact ⟨cA, fun n z => ⟨fun k h => (by cases h), kA, h2, comp, h3⟩, h1⟩
theorem over_known {args : Array Value} {s : State} {C : String} (h : (Cond.arrayOver (.object C)).before args s = true) : ∃ cA : ClassId, ArrOfT s cA (.object C) ∧ va_RA s cA (.object C) := by
  obtain ⟨comp, cA, kA, h1, h2, h3, h4, h5⟩ := Cond.arrayOver_spec h
  exact ⟨cA, fun n z => ⟨fun k h => (by cases h), kA, h3, comp, h4⟩, kA, comp, h3, h4, h1, h5⟩
theorem t_int {args : Array Value} {s : State} {C n d : String} {A : Nat → Prop} (xs : List Int) (hN : xs.length < 2 ^ 31) (harr : (Cond.arrayOf (.static C n d) .int).before args s = true) (hlen : (Cond.eq (.length (.static C n d)) (.int (Int32.ofNat xs.length))).before args s = true) (hel : ∀ j : Nat, j < xs.length → (Cond.eq (.elem (.static C n d) (.int (Int32.ofNat j))) (.int (Int32.ofInt (xs.getD j 0)))).before args s = true) (hl : (Cond.laysStatic C n d).before args s = true) (hi : (Cond.initialized C).before args s = true) (hA : ∀ a : Nat, a < s.heap.size → ¬ A a) : ∃ t : Nat, va_Z C n d (.ref t) A s s.heap ∧ va_T .int t xs.length (fun j => tv .int (xs.getD j 0)) A s s.heap := by
  obtain ⟨t, h1, h2⟩ := va_Tof (f := fun j => .int (Int32.ofInt (xs.getD j 0))) (A := A) hN harr (va_eqt hlen) (fun j hj => va_eqt (hel j hj)) hA
  exact ⟨t, va_Zof hl hi h1 hA, h2⟩
theorem t_long {args : Array Value} {s : State} {C n d : String} {A : Nat → Prop} (xs : List Int) (hN : xs.length < 2 ^ 31) (harr : (Cond.arrayOf (.static C n d) .long).before args s = true) (hlen : (Cond.eq (.length (.static C n d)) (.int (Int32.ofNat xs.length))).before args s = true) (hel : ∀ j : Nat, j < xs.length → (Cond.eq (.elem (.static C n d) (.int (Int32.ofNat j))) (.long (Int64.ofInt (xs.getD j 0)))).before args s = true) (hl : (Cond.laysStatic C n d).before args s = true) (hi : (Cond.initialized C).before args s = true) (hA : ∀ a : Nat, a < s.heap.size → ¬ A a) : ∃ t : Nat, va_Z C n d (.ref t) A s s.heap ∧ va_T .long t xs.length (fun j => tv .long (xs.getD j 0)) A s s.heap := by
  obtain ⟨t, h1, h2⟩ := va_Tof (f := fun j => .long (Int64.ofInt (xs.getD j 0))) (A := A) hN harr (va_eqt hlen) (fun j hj => va_eqtl (hel j hj)) hA
  exact ⟨t, va_Zof hl hi h1 hA, h2⟩
/-- a word of the premises -/
theorem nar {args : Array Value} {s : State} (h : (Jvm.Cond.and given_1 narrow_1).before args s = true) {w : Cond} (hw : w ∈ flatC (Jvm.Cond.and given_1 narrow_1)) : w.before args s = true := flat_of_before _ h _ hw
theorem nst_0 : ∀ j : Nat, j < 13 → Cond.eq (.elem (.static "MissedSale" "MOST" "[I") (.int (Int32.ofNat j))) (.int (Int32.ofInt (stv0.getD j 0))) ∈ flatC (Jvm.Cond.and given_1 narrow_1) := by decide +kernel
theorem old_0 {args : Array Value} {s : State} {A : Nat → Prop} (hts : ∀ w ∈ lw_tbl, w.before args s = true) (h : (Jvm.Cond.and given_1 narrow_1).before args s = true) (hA : ∀ a : Nat, a < s.heap.size → ¬ A a) : ∃ t : Nat, va_Z "MissedSale" "MOST" "[I" (.ref t) A s s.heap ∧ va_T .int t stv0.length (fun j => tv .int (stv0.getD j 0)) A s s.heap :=
  t_int stv0 (by decide) (nar h (by decide +kernel)) (nar h (by decide +kernel)) (fun j hj => nar h (nst_0 j hj)) (hts _ (List.mem_of_getElem? (i := 415) (by decide +kernel))) (hts _ (List.mem_of_getElem? (i := 76) (by decide +kernel))) hA
theorem nst_1 : ∀ j : Nat, j < 7 → Cond.eq (.elem (.static "MissedSale$Dealing" "WEIGHT" "[J") (.int (Int32.ofNat j))) (.long (Int64.ofInt (stv1.getD j 0))) ∈ flatC (Jvm.Cond.and given_1 narrow_1) := by decide +kernel
theorem old_1 {args : Array Value} {s : State} {A : Nat → Prop} (hts : ∀ w ∈ lw_tbl, w.before args s = true) (h : (Jvm.Cond.and given_1 narrow_1).before args s = true) (hA : ∀ a : Nat, a < s.heap.size → ¬ A a) : ∃ t : Nat, va_Z "MissedSale$Dealing" "WEIGHT" "[J" (.ref t) A s s.heap ∧ va_T .long t stv1.length (fun j => tv .long (stv1.getD j 0)) A s s.heap :=
  t_long stv1 (by decide) (nar h (by decide +kernel)) (nar h (by decide +kernel)) (fun j hj => nar h (nst_1 j hj)) (hts _ (List.mem_of_getElem? (i := 774) (by decide +kernel))) (hts _ (List.mem_of_getElem? (i := 81) (by decide +kernel))) hA
theorem nst_2 : ∀ j : Nat, j < 8 → Cond.eq (.elem (.static "MissedSale$Lots" "ABOVE" "[I") (.int (Int32.ofNat j))) (.int (Int32.ofInt (stv2.getD j 0))) ∈ flatC (Jvm.Cond.and given_1 narrow_1) := by decide +kernel
theorem old_2 {args : Array Value} {s : State} {A : Nat → Prop} (hts : ∀ w ∈ lw_tbl, w.before args s = true) (h : (Jvm.Cond.and given_1 narrow_1).before args s = true) (hA : ∀ a : Nat, a < s.heap.size → ¬ A a) : ∃ t : Nat, va_Z "MissedSale$Lots" "ABOVE" "[I" (.ref t) A s s.heap ∧ va_T .int t stv2.length (fun j => tv .int (stv2.getD j 0)) A s s.heap :=
  t_int stv2 (by decide) (nar h (by decide +kernel)) (nar h (by decide +kernel)) (fun j hj => nar h (nst_2 j hj)) (hts _ (List.mem_of_getElem? (i := 968) (by decide +kernel))) (hts _ (List.mem_of_getElem? (i := 84) (by decide +kernel))) hA
theorem nst_3 : ∀ j : Nat, j < 32 → Cond.eq (.elem (.static "MissedSale$Lots" "OWN" "[I") (.int (Int32.ofNat j))) (.int (Int32.ofInt (stv3.getD j 0))) ∈ flatC (Jvm.Cond.and given_1 narrow_1) := by decide +kernel
theorem old_3 {args : Array Value} {s : State} {A : Nat → Prop} (hts : ∀ w ∈ lw_tbl, w.before args s = true) (h : (Jvm.Cond.and given_1 narrow_1).before args s = true) (hA : ∀ a : Nat, a < s.heap.size → ¬ A a) : ∃ t : Nat, va_Z "MissedSale$Lots" "OWN" "[I" (.ref t) A s s.heap ∧ va_T .int t stv3.length (fun j => tv .int (stv3.getD j 0)) A s s.heap :=
  t_int stv3 (by decide) (nar h (by decide +kernel)) (nar h (by decide +kernel)) (fun j hj => nar h (nst_3 j hj)) (hts _ (List.mem_of_getElem? (i := 966) (by decide +kernel))) (hts _ (List.mem_of_getElem? (i := 84) (by decide +kernel))) hA
theorem nst_4 : ∀ j : Nat, j < 3 → Cond.eq (.elem (.static "MissedSale$Ways" "MOVE_ORDER" "[I") (.int (Int32.ofNat j))) (.int (Int32.ofInt (stv4.getD j 0))) ∈ flatC (Jvm.Cond.and given_1 narrow_1) := by decide +kernel
theorem old_4 {args : Array Value} {s : State} {A : Nat → Prop} (hts : ∀ w ∈ lw_tbl, w.before args s = true) (h : (Jvm.Cond.and given_1 narrow_1).before args s = true) (hA : ∀ a : Nat, a < s.heap.size → ¬ A a) : ∃ t : Nat, va_Z "MissedSale$Ways" "MOVE_ORDER" "[I" (.ref t) A s s.heap ∧ va_T .int t stv4.length (fun j => tv .int (stv4.getD j 0)) A s s.heap :=
  t_int stv4 (by decide) (nar h (by decide +kernel)) (nar h (by decide +kernel)) (fun j hj => nar h (nst_4 j hj)) (hts _ (List.mem_of_getElem? (i := 855) (by decide +kernel))) (hts _ (List.mem_of_getElem? (i := 80) (by decide +kernel))) hA
theorem old_s {args : Array Value} {s : State} {A : Nat → Prop} (h : (Jvm.Cond.and given_1 narrow_1).before args s = true) (hA : ∀ a : Nat, a < s.heap.size → ¬ A a) : ∃ adK adV : Nat → Nat, vk_S 1 [6] [[99, 108, 104, 118, 110, 109]] adK adV A s s.heap ∧ ∀ i : Nat, i < 1 → (Term.string RX4 78).eval args s none [] s = some (.ref (adK i)) := by
  refine vk_Sof (tm := fun _ => Term.string RX4 78) (fun i hi => by rcases (show i = 0 by omega) with rfl; decide) (fun i _ => nar h (by decide +kernel)) (fun i _ => nar h (by decide +kernel)) (fun i _ => nar h (by decide +kernel)) (fun i hi => by rcases (show i = 0 by omega) with rfl; exact nar h (by decide +kernel)) (fun i hi j hj => by rcases (show i = 0 by omega) with rfl; exact nar h ((by decide +kernel : ∀ j : Nat, j < 6 → Cond.eq (.elem (.field (Term.string RX4 78) "java/lang/String" "value" "[B") (.int (Int32.ofNat j))) (.int (([[99, 108, 104, 118, 110, 109]].getD 0 []).getD j (0 : Int32))) ∈ flatC (Jvm.Cond.and given_1 narrow_1)) j hj)) (fun i j hi hj hij => absurd (show i = j by omega) hij) hA
theorem old_c {args : Array Value} {s : State} {A : Nat → Prop} (hts : ∀ w ∈ lw_tbl, w.before args s = true) (h : (Jvm.Cond.and given_1 narrow_1).before args s = true) (hA : ∀ a : Nat, a < s.heap.size → ¬ A a) : va_Z "java/lang/String" "COMPACT_STRINGS" "Z" (.int 1) A s s.heap := va_Zof (hts _ (List.mem_of_getElem? (i := 547) (by decide +kernel))) (hts _ (List.mem_of_getElem? (i := 88) (by decide +kernel))) (va_eqi (nar h (by decide +kernel))) hA
theorem cls_known {args : Array Value} {s : State} (hts : ∀ w ∈ lw_tbl, w.before args s = true) : ∃ (dC : Nat → ClassId) (dI : Nat → Nat → Nat), ∀ (k : Nat) (q : vw_C), vwCl[k]? = some q → u_Kn s q.1 q.2.1 q.2.2 (dC k) (dI k) := by
  obtain ⟨c0, i0, k0⟩ := u_known (C := RX0) (T := TX0) (N := 3) (n := 3) hts inX0 (hts (.instantiable RX0 3) (List.mem_of_getElem? (i := 276) (by decide +kernel)))
  obtain ⟨c1, i1, k1⟩ := u_known (C := RX1) (T := TX1) (N := 3) (n := 3) hts inX1 (hts (.instantiable RX1 3) (List.mem_of_getElem? (i := 259) (by decide +kernel)))
  obtain ⟨c2, i2, k2⟩ := u_known (C := RX2) (T := TX2) (N := 4) (n := 4) hts inX2 (hts (.instantiable RX2 4) (List.mem_of_getElem? (i := 105) (by decide +kernel)))
  obtain ⟨c3, i3, k3⟩ := u_known (C := RX3) (T := TX3) (N := 3) (n := 3) hts inX3 (hts (.instantiable RX3 3) (List.mem_of_getElem? (i := 294) (by decide +kernel)))
  obtain ⟨c4, i4, k4⟩ := u_known (C := RX4) (T := TX4) (N := 10) (n := 10) hts inX4 (hts (.instantiable RX4 10) (List.mem_of_getElem? (i := 134) (by decide +kernel)))
  obtain ⟨c5, i5, k5⟩ := u_known (C := RX5) (T := TX5) (N := 5) (n := 5) hts inX5 (hts (.instantiable RX5 5) (List.mem_of_getElem? (i := 313) (by decide +kernel)))
  obtain ⟨c6, i6, k6⟩ := u_known (C := RX6) (T := TX6) (N := 5) (n := 5) hts inX6 (hts (.instantiable RX6 5) (List.mem_of_getElem? (i := 338) (by decide +kernel)))
  obtain ⟨c7, i7, k7⟩ := u_known (C := RX7) (T := TX7) (N := 12) (n := 12) hts inX7 (hts (.instantiable RX7 12) (List.mem_of_getElem? (i := 172) (by decide +kernel)))
  obtain ⟨c8, i8, k8⟩ := u_known (C := RX8) (T := TX8) (N := 6) (n := 6) hts inX8 (hts (.instantiable RX8 6) (List.mem_of_getElem? (i := 232) (by decide +kernel)))
  obtain ⟨c9, i9, k9⟩ := u_known (C := RX9) (T := TX9) (N := 10) (n := 10) hts inX9 (hts (.instantiable RX9 10) (List.mem_of_getElem? (i := 97) (by decide +kernel)))
  obtain ⟨c10, i10, k10⟩ := u_known (C := RX10) (T := TX10) (N := 45) (n := 45) hts inX10 (hts (.instantiable RX10 45) (List.mem_of_getElem? (i := 1052) (by decide +kernel)))
  refine ⟨fun k => [c0, c1, c2, c3, c4, c5, c6, c7, c8, c9, c10].getD k 0, fun k => [i0, i1, i2, i3, i4, i5, i6, i7, i8, i9, i10].getD k i0, ?_⟩
  intro k q hq
  match k, hq with
  | 0, hq => cases hq; exact k0
  | 1, hq => cases hq; exact k1
  | 2, hq => cases hq; exact k2
  | 3, hq => cases hq; exact k3
  | 4, hq => cases hq; exact k4
  | 5, hq => cases hq; exact k5
  | 6, hq => cases hq; exact k6
  | 7, hq => cases hq; exact k7
  | 8, hq => cases hq; exact k8
  | 9, hq => cases hq; exact k9
  | 10, hq => cases hq; exact k10
  | k + 11, hq => simp [vwCl] at hq
theorem wst_start {s : State} {b L : Nat} {xs : Nat → Int32} (hts : ∀ w ∈ lw_tbl, w.before #[Value.ref b] s = true) (h : (Jvm.Cond.and given_1 narrow_1).before #[Value.ref b] s = true) : ∃ g : GT, g.1 = s.heap.size ∧ g.2.2.2 7 = b ∧ Wst g s s.heap := by
  obtain ⟨dC, dI, hKc⟩ := cls_known hts
  obtain ⟨cI, hI1, hI2⟩ := arr_known (hts (.arrayClass .int) (List.mem_of_getElem? (i := 132) (by decide +kernel)))
  obtain ⟨cJ, hJ1, hJ2⟩ := arr_known (hts (.arrayClass .long) (List.mem_of_getElem? (i := 274) (by decide +kernel)))
  have hov := hts (.arrayOver (.object RX6)) (List.mem_of_getElem? (i := 337) (by decide +kernel))
  obtain ⟨cS, hS1, hS2⟩ := over_known hov
  have hA : ∀ a : Nat, a < s.heap.size → ¬ (fun q : Nat => s.heap.size ≤ q) a := fun a h => Nat.not_le.mpr h
  obtain ⟨t0, z0, y0⟩ := old_0 (A := fun q : Nat => s.heap.size ≤ q) hts h hA
  obtain ⟨t1, z1, y1⟩ := old_1 (A := fun q : Nat => s.heap.size ≤ q) hts h hA
  obtain ⟨t2, z2, y2⟩ := old_2 (A := fun q : Nat => s.heap.size ≤ q) hts h hA
  obtain ⟨t3, z3, y3⟩ := old_3 (A := fun q : Nat => s.heap.size ≤ q) hts h hA
  obtain ⟨t4, z4, y4⟩ := old_4 (A := fun q : Nat => s.heap.size ≤ q) hts h hA
  obtain ⟨adK, adV, hS, hsr⟩ := old_s (A := fun q : Nat => s.heap.size ≤ q) h hA
  refine ⟨(s.heap.size, (dC, dI), (cI, cJ, cS), fun k => [t0, t1, t2, t3, t4, adK 0, adV 0, b].getD k 0), rfl, rfl, ⟨hKc, ?_⟩, ⟨?_, ?_, old_c hts h hA⟩, fun w hw hn => ?_, vk_R.of (hts _ (List.mem_of_getElem? (i := 533) (by decide +kernel))) (hsr 0 (by decide)), va_AO.of hov⟩
  · intro k q hq
    match k, hq with
    | 0, hq => cases hq; exact ⟨hI1, hI2⟩
    | 1, hq => cases hq; exact ⟨hJ1, hJ2⟩
    | 2, hq => cases hq; exact ⟨hS1, hS2⟩
    | k + 3, hq => simp [tyO] at hq
  · intro k C n d ty ys hk
    match k, hk with
    | 0, hk => cases hk; exact ⟨z0, y0⟩
    | 1, hk => cases hk; exact ⟨z1, y1⟩
    | 2, hk => cases hk; exact ⟨z2, y2⟩
    | 3, hk => cases hk; exact ⟨z3, y3⟩
    | 4, hk => cases hk; exact ⟨z4, y4⟩
    | k + 5, hk => simp [sts] at hk
  · refine ⟨fun i hi => ?_, fun i j hi hj _ => by omega⟩
    rcases (show i = 0 by omega) with rfl
    exact hS.1 0 hi
  · cases w <;> first | exact va_Nw.of rfl (hts _ hw) | (simp [nestWord] at hn)
