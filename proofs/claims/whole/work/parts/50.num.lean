/-! Plain numbers: what the machine's arithmetic says within range. -/
theorem ia {x y : Int} (h : ok32 (x + y)) : i_add x y = x + y := by
  unfold i_add
  rw [← Int32.ofInt_add, toInt_of32 h]
theorem isb {x y : Int} (h : ok32 (x - y)) : i_sub x y = x - y := by
  unfold i_sub
  rw [← Int32.ofInt_sub, toInt_of32 h]
theorem im {x y : Int} (h : ok32 (x * y)) : i_mul x y = x * y := by
  unfold i_mul
  rw [← Int32.ofInt_mul, toInt_of32 h]
theorem ing {x : Int} (h : ok32 (-x)) : i_neg x = -x := by
  unfold i_neg
  rw [← Int32.ofInt_neg, toInt_of32 h]
theorem ok_in {x : Int} (h0 : -2147483648 ≤ x) (h1 : x < 2147483648) : ok32 x := ⟨h0, h1⟩
theorem idv {x y : Int} (hx : ok32 x) (hy : ok32 y) (h1 : y ≠ -1) : i_div x y = x.tdiv y := by
  unfold i_div
  rw [Int32.toInt_div_of_ne_right _ _ (fun e => h1 (by have := congrArg Int32.toInt e; rw [toInt_of32 hy] at this; exact this)), toInt_of32 hx, toInt_of32 hy]
theorem ok_tdiv {x y : Int} (hx : ok32 x) (hy : 0 < y) : ok32 (x.tdiv y) := by
  unfold ok32 at *
  rcases Int.le_total 0 x with h | h
  · have h1 := Int.tdiv_nonneg h (Int.le_of_lt hy)
    have h2 := Int.tdiv_le_self y h
    omega
  · have h1 : (-x).tdiv y ≤ -x := Int.tdiv_le_self y (by omega)
    have h2 : 0 ≤ (-x).tdiv y := Int.tdiv_nonneg (by omega) (Int.le_of_lt hy)
    rw [Int.neg_tdiv] at h1 h2
    omega
theorem irm {x y : Int} (hx : ok32 x) (hy : ok32 y) (h0 : 0 < y) : i_rem x y = x.tmod y := by
  unfold i_rem
  have e1 : Int32.ofInt x / Int32.ofInt y = Int32.ofInt (x.tdiv y) := by
    rw [← Int32.toInt_inj, toInt_of32 (ok_tdiv hx h0)]
    exact idv hx hy (by omega)
  rw [e1, ← Int32.ofInt_mul, ← Int32.ofInt_sub]
  have e2 : x - x.tdiv y * y = x.tmod y := by
    have := Int.tmod_add_mul_tdiv x y
    rw [Int.mul_comm] at this
    omega
  rw [e2]
  apply toInt_of32
  unfold ok32 at *
  have h1 := Int.tmod_lt_of_pos x h0
  rcases Int.le_total 0 x with h | h
  · have := Int.tmod_nonneg y h
    omega
  · have h2 : 0 ≤ (-x).tmod y := Int.tmod_nonneg y (by omega)
    have h3 := Int.tmod_lt_of_pos (-x) h0
    rw [Int.neg_tmod] at h2 h3
    omega
theorem i2l_ok {x : Int} (h : ok32 x) : c_i2l x = x := by
  unfold c_i2l
  rw [Int32.toInt_toInt64, toInt_of32 h]
theorem l2i_ok {x : Int} (h : ok32 x) : c_l2i x = x := by
  unfold c_l2i
  rw [Int64.toInt32_ofInt, toInt_of32 h]
/-- sets of at most eight things, by cases -/
theorem bit_and : ∀ s : Nat, s < 256 → ∀ t : Nat, t < 8 → i_and (i_shr (s : Int) (t : Int)) 1 = if s.testBit t then 1 else 0 := by decide +kernel
theorem bit_or : ∀ s : Nat, s < 256 → ∀ t : Nat, t < 8 → i_or (s : Int) (i_shl 1 (t : Int)) = ((s ||| (1 <<< t) : Nat) : Int) := by decide +kernel
theorem bit_out : ∀ s : Nat, s < 256 → ∀ t : Nat, t < 8 → i_and (s : Int) (i_xor (i_shl 1 (t : Int)) (-1)) = ((if s.testBit t then s - 2 ^ t else s : Nat) : Int) := by decide +kernel
theorem rfS : RF 0 0 = 1 ∧ RF 0 1 = 4 ∧ RF 0 2 = 10 ∧ RF 0 3 = 19 ∧ RF 0 4 = 22 ∧ RF 0 5 = 25 ∧ RF 0 6 = 27 ∧ RF 0 7 = 32 ∧ RF 0 8 = 36 ∧ RF 0 9 = 35 ∧ RF 1 0 = 2 ∧ RF 1 1 = 3 ∧ RF 4 0 = 5 ∧ RF 4 1 = 6 ∧ RF 4 2 = 7 ∧ RF 10 0 = 11 ∧ RF 10 1 = 4 ∧ RF 10 2 = 14 ∧ RF 10 3 = 15 ∧ RF 10 4 = 16 ∧ RF 10 5 = 17 ∧ RF 10 6 = 18 ∧ RF 11 0 = 12 ∧ RF 11 1 = 13 ∧ RF 19 0 = 10 ∧ RF 19 1 = 20 ∧ RF 19 2 = 21 ∧ RF 22 0 = 23 ∧ RF 22 1 = 24 ∧ RF 25 0 = 26 ∧ RF 27 0 = 28 ∧ RF 27 1 = 31 ∧ RF 28 0 = 29 ∧ RF 28 1 = 30 ∧ RF 32 0 = 33 ∧ RF 32 1 = 34 ∧ RF 36 0 = 37 ∧ RF 36 1 = 39 ∧ RF 36 2 = 41 ∧ RF 36 3 = 43 ∧ RF 36 4 = 45 ∧ RF 36 5 = 47 ∧ RF 37 0 = 38 ∧ RF 39 0 = 40 ∧ RF 41 0 = 42 ∧ RF 43 0 = 44 ∧ RF 45 0 = 46 ∧ RF 47 0 = 48 ∧ RF 49 1 = 50 ∧ RF 49 2 = 51 ∧ RF 49 3 = 52 ∧ RF 49 4 = 53 ∧ RF 49 6 = 54 ∧ RF 49 8 = 55 ∧ RF 49 11 = 56 ∧ RF 49 12 = 57 ∧ RF 49 13 = 58 ∧ RF 49 14 = 59 ∧ RF 49 19 = 60 ∧ RF 49 20 = 61 ∧ RF 49 21 = 62 ∧ RF 49 22 = 63 ∧ RF 49 23 = 64 ∧ RF 49 24 = 65 ∧ RF 49 25 = 66 ∧ RF 49 29 = 67 ∧ RF 49 30 = 68 ∧ RF 49 33 = 69 ∧ RF 49 35 = 70 ∧ RF 49 37 = 71 ∧ RF 49 38 = 72 ∧ RF 49 39 = 73 ∧ RF 49 40 = 74 ∧ RF 49 41 = 75 ∧ RF 49 42 = 76 ∧ RF 49 43 = 77 := ⟨rfl, rfl, rfl, rfl, rfl, rfl, rfl, rfl, rfl, rfl, rfl, rfl, rfl, rfl, rfl, rfl, rfl, rfl, rfl, rfl, rfl, rfl, rfl, rfl, rfl, rfl, rfl, rfl, rfl, rfl, rfl, rfl, rfl, rfl, rfl, rfl, rfl, rfl, rfl, rfl, rfl, rfl, rfl, rfl, rfl, rfl, rfl, rfl, rfl, rfl, rfl, rfl, rfl, rfl, rfl, rfl, rfl, rfl, rfl, rfl, rfl, rfl, rfl, rfl, rfl, rfl, rfl, rfl, rfl, rfl, rfl, rfl, rfl, rfl, rfl, rfl⟩
theorem lnS : LN 2 = 32 ∧ LN 3 = 63 ∧ LN 5 = 120 ∧ LN 6 = 6 ∧ LN 7 = 64 ∧ LN 8 = 128 ∧ LN 9 = 128 ∧ LN 12 = 32 ∧ LN 13 = 63 ∧ LN 14 = 7 ∧ LN 15 = 7 ∧ LN 16 = 252 ∧ LN 17 = 7 ∧ LN 18 = 16 ∧ LN 20 = 5 ∧ LN 21 = 5 ∧ LN 23 = 256 ∧ LN 24 = 8 ∧ LN 26 = 160 ∧ LN 29 = 32 ∧ LN 30 = 63 ∧ LN 31 = 5 ∧ LN 33 = 50 ∧ LN 34 = 24 ∧ LN 35 = 5 ∧ LN 36 = 6 ∧ LN 38 = 60 ∧ LN 40 = 60 ∧ LN 42 = 60 ∧ LN 44 = 60 ∧ LN 46 = 60 ∧ LN 48 = 60 ∧ LN 50 = 8 ∧ LN 51 = 8 ∧ LN 52 = 8 ∧ LN 53 = 8 ∧ LN 54 = 63 ∧ LN 55 = 120 ∧ LN 56 = 60 ∧ LN 57 = 60 ∧ LN 58 = 60 ∧ LN 59 = 200 ∧ LN 60 = 61 ∧ LN 61 = 61 ∧ LN 62 = 61 ∧ LN 63 = 200 ∧ LN 64 = 200 ∧ LN 65 = 6 ∧ LN 66 = 5 ∧ LN 67 = 45 ∧ LN 68 = 5 ∧ LN 69 = 160 ∧ LN 70 = 50 ∧ LN 71 = 24 ∧ LN 72 = 6 ∧ LN 73 = 6 ∧ LN 74 = 360 ∧ LN 75 = 45 ∧ LN 76 = 7 ∧ LN 77 = 7 := ⟨rfl, rfl, rfl, rfl, rfl, rfl, rfl, rfl, rfl, rfl, rfl, rfl, rfl, rfl, rfl, rfl, rfl, rfl, rfl, rfl, rfl, rfl, rfl, rfl, rfl, rfl, rfl, rfl, rfl, rfl, rfl, rfl, rfl, rfl, rfl, rfl, rfl, rfl, rfl, rfl, rfl, rfl, rfl, rfl, rfl, rfl, rfl, rfl, rfl, rfl, rfl, rfl, rfl, rfl, rfl, rfl, rfl, rfl, rfl, rfl⟩
