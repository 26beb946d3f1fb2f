/-! Rows: an instruction each, over G. -/
section Rows
variable {K : KT} {g : GT} {own : String} {cc : ByteArray} {nL fr cm sm : Nat} {cs : Nat × Nat} {pc : Nat} {L : List (Nat × Vl)} {st : List Vl} {S : S2}
theorem okv_i (w : Int32) : okv (vi w.toInt) := ok32_toInt w
theorem okv_l (w : Int64) : okv (vl w.toInt) := ok64_toInt w
theorem cv_i (g : GT) (w : Int32) : cv g (vi w.toInt) = .int w := by simp [cv]
theorem cv_l (g : GT) (w : Int64) : cv g (vl w.toInt) = .long w := by simp [cv]
theorem okv_cons {v : Vl} {st : List Vl} (h : okv v) (hs : ∀ v ∈ st, okv v) : ∀ u ∈ v :: st, okv u := fun u hu => (List.mem_cons.mp hu).elim (fun e => e ▸ h) (hs u)
theorem okv_tail {v : Vl} {st : List Vl} (hs : ∀ u ∈ v :: st, okv u) : ∀ v ∈ st, okv v := fun u hu => hs u (List.mem_cons_of_mem _ hu)
theorem okv_head {v : Vl} {st : List Vl} (hs : ∀ u ∈ v :: st, okv u) : okv v := hs v List.mem_cons_self
theorem lv_of {ls : Array Slot} {i : Nat} {v : Vl} (hl : lv_has ls nL (L.map (fun q => (q.1, cv g q.2)))) (k : Nat) (h : L[k]? = some (i, v)) : ls[i]? = some (.val (cv g v)) := hl.2.2 (i, cv g v) (List.mem_map.mpr ⟨(i, v), List.mem_of_getElem? h, rfl⟩)
theorem okL_of {i : Nat} {v : Vl} (hL : ∀ q ∈ L, okv q.2) (k : Nat) (h : L[k]? = some (i, v)) : okv v := hL (i, v) (List.mem_of_getElem? h)

def i_add (x y : Int) : Int := (Int32.ofInt x + Int32.ofInt y).toInt
theorem g_iadd {x y : Int} (hC : Ctx K g own cc nL fr cm sm) (hd : decode cc pc = .ok (.iadd, 1)) (k : G K g nL cs (pc + 1) L (vi (i_add x y) :: st) S) : G K g nL cs pc L (vi y :: vi x :: st) S := by
  obtain ⟨p, l, e, R, s, m, args, below, meth, c, Q⟩ := K
  intro H locs ls h1 h2 h3 h4 h5
  have k' := k H locs ls h1 h2 (okv_cons (okv_i _) (okv_tail (okv_tail h3))) h4 h5
  rw [List.map_cons, i_add, cv_i] at k'
  exact lv_iadd hC.1 hC.2.1 hd k'
def i_sub (x y : Int) : Int := (Int32.ofInt x - Int32.ofInt y).toInt
theorem g_isub {x y : Int} (hC : Ctx K g own cc nL fr cm sm) (hd : decode cc pc = .ok (.isub, 1)) (k : G K g nL cs (pc + 1) L (vi (i_sub x y) :: st) S) : G K g nL cs pc L (vi y :: vi x :: st) S := by
  obtain ⟨p, l, e, R, s, m, args, below, meth, c, Q⟩ := K
  intro H locs ls h1 h2 h3 h4 h5
  have k' := k H locs ls h1 h2 (okv_cons (okv_i _) (okv_tail (okv_tail h3))) h4 h5
  rw [List.map_cons, i_sub, cv_i] at k'
  exact lv_isub hC.1 hC.2.1 hd k'
def i_mul (x y : Int) : Int := (Int32.ofInt x * Int32.ofInt y).toInt
theorem g_imul {x y : Int} (hC : Ctx K g own cc nL fr cm sm) (hd : decode cc pc = .ok (.imul, 1)) (k : G K g nL cs (pc + 1) L (vi (i_mul x y) :: st) S) : G K g nL cs pc L (vi y :: vi x :: st) S := by
  obtain ⟨p, l, e, R, s, m, args, below, meth, c, Q⟩ := K
  intro H locs ls h1 h2 h3 h4 h5
  have k' := k H locs ls h1 h2 (okv_cons (okv_i _) (okv_tail (okv_tail h3))) h4 h5
  rw [List.map_cons, i_mul, cv_i] at k'
  exact lv_imul hC.1 hC.2.1 hd k'
def i_and (x y : Int) : Int := (Int32.ofInt x &&& Int32.ofInt y).toInt
theorem g_iand {x y : Int} (hC : Ctx K g own cc nL fr cm sm) (hd : decode cc pc = .ok (.iand, 1)) (k : G K g nL cs (pc + 1) L (vi (i_and x y) :: st) S) : G K g nL cs pc L (vi y :: vi x :: st) S := by
  obtain ⟨p, l, e, R, s, m, args, below, meth, c, Q⟩ := K
  intro H locs ls h1 h2 h3 h4 h5
  have k' := k H locs ls h1 h2 (okv_cons (okv_i _) (okv_tail (okv_tail h3))) h4 h5
  rw [List.map_cons, i_and, cv_i] at k'
  exact lv_iand hC.1 hC.2.1 hd k'
def i_or (x y : Int) : Int := (Int32.ofInt x ||| Int32.ofInt y).toInt
theorem g_ior {x y : Int} (hC : Ctx K g own cc nL fr cm sm) (hd : decode cc pc = .ok (.ior, 1)) (k : G K g nL cs (pc + 1) L (vi (i_or x y) :: st) S) : G K g nL cs pc L (vi y :: vi x :: st) S := by
  obtain ⟨p, l, e, R, s, m, args, below, meth, c, Q⟩ := K
  intro H locs ls h1 h2 h3 h4 h5
  have k' := k H locs ls h1 h2 (okv_cons (okv_i _) (okv_tail (okv_tail h3))) h4 h5
  rw [List.map_cons, i_or, cv_i] at k'
  exact lv_ior hC.1 hC.2.1 hd k'
def i_xor (x y : Int) : Int := (Int32.ofInt x ^^^ Int32.ofInt y).toInt
theorem g_ixor {x y : Int} (hC : Ctx K g own cc nL fr cm sm) (hd : decode cc pc = .ok (.ixor, 1)) (k : G K g nL cs (pc + 1) L (vi (i_xor x y) :: st) S) : G K g nL cs pc L (vi y :: vi x :: st) S := by
  obtain ⟨p, l, e, R, s, m, args, below, meth, c, Q⟩ := K
  intro H locs ls h1 h2 h3 h4 h5
  have k' := k H locs ls h1 h2 (okv_cons (okv_i _) (okv_tail (okv_tail h3))) h4 h5
  rw [List.map_cons, i_xor, cv_i] at k'
  exact lv_ixor hC.1 hC.2.1 hd k'
def i_shl (x y : Int) : Int := (Int32.ofInt x <<< (Int32.ofInt y &&& 31)).toInt
theorem g_ishl {x y : Int} (hC : Ctx K g own cc nL fr cm sm) (hd : decode cc pc = .ok (.ishl, 1)) (k : G K g nL cs (pc + 1) L (vi (i_shl x y) :: st) S) : G K g nL cs pc L (vi y :: vi x :: st) S := by
  obtain ⟨p, l, e, R, s, m, args, below, meth, c, Q⟩ := K
  intro H locs ls h1 h2 h3 h4 h5
  have k' := k H locs ls h1 h2 (okv_cons (okv_i _) (okv_tail (okv_tail h3))) h4 h5
  rw [List.map_cons, i_shl, cv_i] at k'
  exact lv_ishl hC.1 hC.2.1 hd k'
def i_shr (x y : Int) : Int := (Int32.ofInt x >>> (Int32.ofInt y &&& 31)).toInt
theorem g_ishr {x y : Int} (hC : Ctx K g own cc nL fr cm sm) (hd : decode cc pc = .ok (.ishr, 1)) (k : G K g nL cs (pc + 1) L (vi (i_shr x y) :: st) S) : G K g nL cs pc L (vi y :: vi x :: st) S := by
  obtain ⟨p, l, e, R, s, m, args, below, meth, c, Q⟩ := K
  intro H locs ls h1 h2 h3 h4 h5
  have k' := k H locs ls h1 h2 (okv_cons (okv_i _) (okv_tail (okv_tail h3))) h4 h5
  rw [List.map_cons, i_shr, cv_i] at k'
  exact lv_ishr hC.1 hC.2.1 hd k'
def i_ushr (x y : Int) : Int := (((Int32.ofInt x).toUInt32 >>> ((Int32.ofInt y).toUInt32 &&& Int32.toUInt32 31)).toInt32).toInt
theorem g_iushr {x y : Int} (hC : Ctx K g own cc nL fr cm sm) (hd : decode cc pc = .ok (.iushr, 1)) (k : G K g nL cs (pc + 1) L (vi (i_ushr x y) :: st) S) : G K g nL cs pc L (vi y :: vi x :: st) S := by
  obtain ⟨p, l, e, R, s, m, args, below, meth, c, Q⟩ := K
  intro H locs ls h1 h2 h3 h4 h5
  have k' := k H locs ls h1 h2 (okv_cons (okv_i _) (okv_tail (okv_tail h3))) h4 h5
  rw [List.map_cons, i_ushr, cv_i] at k'
  exact lv_iushr hC.1 hC.2.1 hd rfl k'

def i_div (x y : Int) : Int := (Int32.ofInt x / Int32.ofInt y).toInt
theorem g_idiv {x y : Int} (hC : Ctx K g own cc nL fr cm sm) (hd : decode cc pc = .ok (.idiv, 1)) (hne : ¬ y = 0) (k : G K g nL cs (pc + 1) L (vi (i_div x y) :: st) S) : G K g nL cs pc L (vi y :: vi x :: st) S := by
  obtain ⟨p, l, e, R, s, m, args, below, meth, c, Q⟩ := K
  intro H locs ls h1 h2 h3 h4 h5
  have k' := k H locs ls h1 h2 (okv_cons (okv_i _) (okv_tail (okv_tail h3))) h4 h5
  rw [List.map_cons, i_div, cv_i] at k'
  exact lv_idiv hC.1 hC.2.1 hd (fun h => hne ((eq_of32 (okv_head h3) ok32_0).mp h)) k'
def i_rem (x y : Int) : Int := (Int32.ofInt x - Int32.ofInt x / Int32.ofInt y * Int32.ofInt y).toInt
theorem g_irem {x y : Int} (hC : Ctx K g own cc nL fr cm sm) (hd : decode cc pc = .ok (.irem, 1)) (hne : ¬ y = 0) (k : G K g nL cs (pc + 1) L (vi (i_rem x y) :: st) S) : G K g nL cs pc L (vi y :: vi x :: st) S := by
  obtain ⟨p, l, e, R, s, m, args, below, meth, c, Q⟩ := K
  intro H locs ls h1 h2 h3 h4 h5
  have k' := k H locs ls h1 h2 (okv_cons (okv_i _) (okv_tail (okv_tail h3))) h4 h5
  rw [List.map_cons, i_rem, cv_i] at k'
  exact lv_irem hC.1 hC.2.1 hd (fun h => hne ((eq_of32 (okv_head h3) ok32_0).mp h)) k'
def i_neg (x : Int) : Int := (-Int32.ofInt x).toInt
theorem g_ineg {x : Int} (hC : Ctx K g own cc nL fr cm sm) (hd : decode cc pc = .ok (.ineg, 1)) (k : G K g nL cs (pc + 1) L (vi (i_neg x) :: st) S) : G K g nL cs pc L (vi x :: st) S := by
  obtain ⟨p, l, e, R, s, m, args, below, meth, c, Q⟩ := K
  intro H locs ls h1 h2 h3 h4 h5
  have k' := k H locs ls h1 h2 (okv_cons (okv_i _) (okv_tail h3)) h4 h5
  rw [List.map_cons, i_neg, cv_i] at k'
  exact lv_ineg hC.1 hC.2.1 hd k'
def c_i2b (x : Int) : Int := ((Int32.ofInt x).toInt8.toInt32).toInt
theorem g_i2b {x : Int} (hC : Ctx K g own cc nL fr cm sm) (hd : decode cc pc = .ok (.i2b, 1)) (k : G K g nL cs (pc + 1) L (vi (c_i2b x) :: st) S) : G K g nL cs pc L (vi x :: st) S := by
  obtain ⟨p, l, e, R, s, m, args, below, meth, c, Q⟩ := K
  intro H locs ls h1 h2 h3 h4 h5
  have k' := k H locs ls h1 h2 (okv_cons (okv_i _) (okv_tail h3)) h4 h5
  rw [List.map_cons, c_i2b, cv_i] at k'
  exact lv_i2b hC.1 hC.2.1 hd rfl k'
def c_i2s (x : Int) : Int := ((Int32.ofInt x).toInt16.toInt32).toInt
theorem g_i2s {x : Int} (hC : Ctx K g own cc nL fr cm sm) (hd : decode cc pc = .ok (.i2s, 1)) (k : G K g nL cs (pc + 1) L (vi (c_i2s x) :: st) S) : G K g nL cs pc L (vi x :: st) S := by
  obtain ⟨p, l, e, R, s, m, args, below, meth, c, Q⟩ := K
  intro H locs ls h1 h2 h3 h4 h5
  have k' := k H locs ls h1 h2 (okv_cons (okv_i _) (okv_tail h3)) h4 h5
  rw [List.map_cons, c_i2s, cv_i] at k'
  exact lv_i2s hC.1 hC.2.1 hd rfl k'
def c_i2c (x : Int) : Int := (((Int32.ofInt x).toUInt32 % 65536).toInt32).toInt
theorem g_i2c {x : Int} (hC : Ctx K g own cc nL fr cm sm) (hd : decode cc pc = .ok (.i2c, 1)) (k : G K g nL cs (pc + 1) L (vi (c_i2c x) :: st) S) : G K g nL cs pc L (vi x :: st) S := by
  obtain ⟨p, l, e, R, s, m, args, below, meth, c, Q⟩ := K
  intro H locs ls h1 h2 h3 h4 h5
  have k' := k H locs ls h1 h2 (okv_cons (okv_i _) (okv_tail h3)) h4 h5
  rw [List.map_cons, c_i2c, cv_i] at k'
  exact lv_i2c hC.1 hC.2.1 hd rfl k'
def c_i2l (x : Int) : Int := ((Int32.ofInt x).toInt64).toInt
theorem g_i2l {x : Int} (hC : Ctx K g own cc nL fr cm sm) (hd : decode cc pc = .ok (.i2l, 1)) (k : G K g nL cs (pc + 1) L (vl (c_i2l x) :: st) S) : G K g nL cs pc L (vi x :: st) S := by
  obtain ⟨p, l, e, R, s, m, args, below, meth, c, Q⟩ := K
  intro H locs ls h1 h2 h3 h4 h5
  have k' := k H locs ls h1 h2 (okv_cons (okv_l _) (okv_tail h3)) h4 h5
  rw [List.map_cons, c_i2l, cv_l] at k'
  exact lv_i2l hC.1 hC.2.1 hd rfl k'
def c_l2i (x : Int) : Int := ((Int64.ofInt x).toInt32).toInt
theorem g_l2i {x : Int} (hC : Ctx K g own cc nL fr cm sm) (hd : decode cc pc = .ok (.l2i, 1)) (k : G K g nL cs (pc + 1) L (vi (c_l2i x) :: st) S) : G K g nL cs pc L (vl x :: st) S := by
  obtain ⟨p, l, e, R, s, m, args, below, meth, c, Q⟩ := K
  intro H locs ls h1 h2 h3 h4 h5
  have k' := k H locs ls h1 h2 (okv_cons (okv_i _) (okv_tail h3)) h4 h5
  rw [List.map_cons, c_l2i, cv_i] at k'
  exact lv_l2i hC.1 hC.2.1 hd rfl k'

def l_add (x y : Int) : Int := (Int64.ofInt x + Int64.ofInt y).toInt
theorem g_ladd {x y : Int} (hC : Ctx K g own cc nL fr cm sm) (hd : decode cc pc = .ok (.ladd, 1)) (k : G K g nL cs (pc + 1) L (vl (l_add x y) :: st) S) : G K g nL cs pc L (vl y :: vl x :: st) S := by
  obtain ⟨p, l, e, R, s, m, args, below, meth, c, Q⟩ := K
  intro H locs ls h1 h2 h3 h4 h5
  have k' := k H locs ls h1 h2 (okv_cons (okv_l _) (okv_tail (okv_tail h3))) h4 h5
  rw [List.map_cons, l_add, cv_l] at k'
  exact lv_ladd hC.1 hC.2.1 hd k'
def l_sub (x y : Int) : Int := (Int64.ofInt x - Int64.ofInt y).toInt
theorem g_lsub {x y : Int} (hC : Ctx K g own cc nL fr cm sm) (hd : decode cc pc = .ok (.lsub, 1)) (k : G K g nL cs (pc + 1) L (vl (l_sub x y) :: st) S) : G K g nL cs pc L (vl y :: vl x :: st) S := by
  obtain ⟨p, l, e, R, s, m, args, below, meth, c, Q⟩ := K
  intro H locs ls h1 h2 h3 h4 h5
  have k' := k H locs ls h1 h2 (okv_cons (okv_l _) (okv_tail (okv_tail h3))) h4 h5
  rw [List.map_cons, l_sub, cv_l] at k'
  exact lv_lsub hC.1 hC.2.1 hd k'
def l_mul (x y : Int) : Int := (Int64.ofInt x * Int64.ofInt y).toInt
theorem g_lmul {x y : Int} (hC : Ctx K g own cc nL fr cm sm) (hd : decode cc pc = .ok (.lmul, 1)) (k : G K g nL cs (pc + 1) L (vl (l_mul x y) :: st) S) : G K g nL cs pc L (vl y :: vl x :: st) S := by
  obtain ⟨p, l, e, R, s, m, args, below, meth, c, Q⟩ := K
  intro H locs ls h1 h2 h3 h4 h5
  have k' := k H locs ls h1 h2 (okv_cons (okv_l _) (okv_tail (okv_tail h3))) h4 h5
  rw [List.map_cons, l_mul, cv_l] at k'
  exact lv_lmul hC.1 hC.2.1 hd k'
def l_and (x y : Int) : Int := (Int64.ofInt x &&& Int64.ofInt y).toInt
theorem g_land {x y : Int} (hC : Ctx K g own cc nL fr cm sm) (hd : decode cc pc = .ok (.land, 1)) (k : G K g nL cs (pc + 1) L (vl (l_and x y) :: st) S) : G K g nL cs pc L (vl y :: vl x :: st) S := by
  obtain ⟨p, l, e, R, s, m, args, below, meth, c, Q⟩ := K
  intro H locs ls h1 h2 h3 h4 h5
  have k' := k H locs ls h1 h2 (okv_cons (okv_l _) (okv_tail (okv_tail h3))) h4 h5
  rw [List.map_cons, l_and, cv_l] at k'
  exact lv_land hC.1 hC.2.1 hd k'
def l_or (x y : Int) : Int := (Int64.ofInt x ||| Int64.ofInt y).toInt
theorem g_lor {x y : Int} (hC : Ctx K g own cc nL fr cm sm) (hd : decode cc pc = .ok (.lor, 1)) (k : G K g nL cs (pc + 1) L (vl (l_or x y) :: st) S) : G K g nL cs pc L (vl y :: vl x :: st) S := by
  obtain ⟨p, l, e, R, s, m, args, below, meth, c, Q⟩ := K
  intro H locs ls h1 h2 h3 h4 h5
  have k' := k H locs ls h1 h2 (okv_cons (okv_l _) (okv_tail (okv_tail h3))) h4 h5
  rw [List.map_cons, l_or, cv_l] at k'
  exact lv_lor hC.1 hC.2.1 hd k'
def ok64_0 : ok64 0 := by unfold ok64; omega
def l_div (x y : Int) : Int := (Int64.ofInt x / Int64.ofInt y).toInt
theorem g_ldiv {x y : Int} (hC : Ctx K g own cc nL fr cm sm) (hd : decode cc pc = .ok (.ldiv, 1)) (hne : ¬ y = 0) (k : G K g nL cs (pc + 1) L (vl (l_div x y) :: st) S) : G K g nL cs pc L (vl y :: vl x :: st) S := by
  obtain ⟨p, l, e, R, s, m, args, below, meth, c, Q⟩ := K
  intro H locs ls h1 h2 h3 h4 h5
  have k' := k H locs ls h1 h2 (okv_cons (okv_l _) (okv_tail (okv_tail h3))) h4 h5
  rw [List.map_cons, l_div, cv_l] at k'
  exact lv_ldiv hC.1 hC.2.1 hd (fun h => hne ((eq_of64 (okv_head h3) ok64_0).mp h)) k'
def l_rem (x y : Int) : Int := (Int64.ofInt x - Int64.ofInt x / Int64.ofInt y * Int64.ofInt y).toInt
theorem g_lrem {x y : Int} (hC : Ctx K g own cc nL fr cm sm) (hd : decode cc pc = .ok (.lrem, 1)) (hne : ¬ y = 0) (k : G K g nL cs (pc + 1) L (vl (l_rem x y) :: st) S) : G K g nL cs pc L (vl y :: vl x :: st) S := by
  obtain ⟨p, l, e, R, s, m, args, below, meth, c, Q⟩ := K
  intro H locs ls h1 h2 h3 h4 h5
  have k' := k H locs ls h1 h2 (okv_cons (okv_l _) (okv_tail (okv_tail h3))) h4 h5
  rw [List.map_cons, l_rem, cv_l] at k'
  exact lv_lrem hC.1 hC.2.1 hd (fun h => hne ((eq_of64 (okv_head h3) ok64_0).mp h)) k'
def l_shl (x y : Int) : Int := (Int64.ofInt x <<< ((Int32.ofInt y).toInt64 &&& 63)).toInt
theorem g_lshl {x y : Int} (hC : Ctx K g own cc nL fr cm sm) (hd : decode cc pc = .ok (.lshl, 1)) (k : G K g nL cs (pc + 1) L (vl (l_shl x y) :: st) S) : G K g nL cs pc L (vi y :: vl x :: st) S := by
  obtain ⟨p, l, e, R, s, m, args, below, meth, c, Q⟩ := K
  intro H locs ls h1 h2 h3 h4 h5
  have k' := k H locs ls h1 h2 (okv_cons (okv_l _) (okv_tail (okv_tail h3))) h4 h5
  rw [List.map_cons, l_shl, cv_l] at k'
  exact lv_lshl hC.1 hC.2.1 hd rfl k'
def l_cmp (x y : Int) : Int := if y < x then 1 else if x = y then 0 else -1
theorem cmp_eq {x y : Int} (hx : ok64 x) (hy : ok64 y) : (lg_cmp (Int64.ofInt x) (Int64.ofInt y)) = Int32.ofInt (l_cmp x y) := by
  unfold lg_cmp l_cmp
  have e1 : Int64.ofInt x > Int64.ofInt y ↔ y < x := by
    show Int64.ofInt y < Int64.ofInt x ↔ _
    rw [Int64.lt_iff_toInt_lt, toInt_of64 hx, toInt_of64 hy]
  have e2 := eq_of64 hx hy
  by_cases h1 : y < x
  · rw [if_pos (e1.mpr h1), if_pos h1]; rfl
  · rw [if_neg (fun h => h1 (e1.mp h)), if_neg h1]
    by_cases h2 : x = y
    · rw [if_pos (e2.mpr h2), if_pos h2]; rfl
    · rw [if_neg (fun h => h2 (e2.mp h)), if_neg h2]; rfl
theorem ok_cmp (x y : Int) : ok32 (l_cmp x y) := by unfold l_cmp ok32; split <;> (try split) <;> omega
theorem g_lcmp {x y : Int} (hC : Ctx K g own cc nL fr cm sm) (hd : decode cc pc = .ok (.lcmp, 1)) (k : G K g nL cs (pc + 1) L (vi (l_cmp x y) :: st) S) : G K g nL cs pc L (vl y :: vl x :: st) S := by
  obtain ⟨p, l, e, R, s, m, args, below, meth, c, Q⟩ := K
  intro H locs ls h1 h2 h3 h4 h5
  have k' := k H locs ls h1 h2 (okv_cons (ok_cmp x y) (okv_tail (okv_tail h3))) h4 h5
  refine W.lcmp hC.1 hC.2.1 hd ?_
  rw [cmp_eq (okv_head (okv_tail h3)) (okv_head h3)]
  exact k'

theorem g_iconst {n : Int} (hC : Ctx K g own cc nL fr cm sm) (hd : decode cc pc = .ok (.iconst n, 1)) (hn : ok32 n) (k : G K g nL cs (pc + 1) L (vi n :: st) S) : G K g nL cs pc L st S := by
  obtain ⟨p, l, e, R, s, m, args, below, meth, c, Q⟩ := K
  intro H locs ls h1 h2 h3 h4 h5
  exact lv_iconst hC.1 hC.2.1 hd rfl (k H locs ls h1 h2 (okv_cons hn h3) h4 h5)
theorem g_bipush {n : Int} (hC : Ctx K g own cc nL fr cm sm) (hd : decode cc pc = .ok (.bipush n, 2)) (hn : ok32 n ∧ (Int8.ofInt n).toInt32 = Int32.ofInt n) (k : G K g nL cs (pc + 2) L (vi n :: st) S) : G K g nL cs pc L st S := by
  obtain ⟨p, l, e, R, s, m, args, below, meth, c, Q⟩ := K
  intro H locs ls h1 h2 h3 h4 h5
  exact lv_bipush hC.1 hC.2.1 hd hn.2 (k H locs ls h1 h2 (okv_cons hn.1 h3) h4 h5)
theorem g_sipush {n : Int} (hC : Ctx K g own cc nL fr cm sm) (hd : decode cc pc = .ok (.sipush n, 3)) (hn : ok32 n ∧ (Int16.ofInt n).toInt32 = Int32.ofInt n) (k : G K g nL cs (pc + 3) L (vi n :: st) S) : G K g nL cs pc L st S := by
  obtain ⟨p, l, e, R, s, m, args, below, meth, c, Q⟩ := K
  intro H locs ls h1 h2 h3 h4 h5
  exact lv_sipush hC.1 hC.2.1 hd hn.2 (k H locs ls h1 h2 (okv_cons hn.1 h3) h4 h5)
theorem g_ldc {ix : Nat} {n : Int} (hC : Ctx K g own cc nL fr cm sm) (hd : decode cc pc = .ok (.ldc ix, 2)) (hn : ok32 n ∧ Cond.constant own ix (Int32.ofInt n) ∈ lw_w) (k : G K g nL cs (pc + 2) L (vi n :: st) S) : G K g nL cs pc L st S := by
  obtain ⟨p, l, e, R, s, m, args, below, meth, c, Q⟩ := K
  intro H locs ls h1 h2 h3 h4 h5
  exact lv_ldc hC.1 hC.2.1 hC.2.2.2.1 (hC.2.2.2.2.1 _ hn.2) hd (k H locs ls h1 h2 (okv_cons hn.1 h3) h4 h5)
theorem g_ldcw {ix : Nat} {n : Int} (hC : Ctx K g own cc nL fr cm sm) (hd : decode cc pc = .ok (.ldc_w ix, 3)) (hn : ok32 n ∧ Cond.constant own ix (Int32.ofInt n) ∈ lw_w) (k : G K g nL cs (pc + 3) L (vi n :: st) S) : G K g nL cs pc L st S := by
  obtain ⟨p, l, e, R, s, m, args, below, meth, c, Q⟩ := K
  intro H locs ls h1 h2 h3 h4 h5
  exact lv_ldcw hC.1 hC.2.1 hC.2.2.2.1 (hC.2.2.2.2.1 _ hn.2) hd (k H locs ls h1 h2 (okv_cons hn.1 h3) h4 h5)
theorem g_ldc2 {ix : Nat} {n : Int} (hC : Ctx K g own cc nL fr cm sm) (hd : decode cc pc = .ok (.ldc2_w ix, 3)) (hn : ok64 n ∧ Cond.constantLong own ix (Int64.ofInt n) ∈ lw_w) (k : G K g nL cs (pc + 3) L (vl n :: st) S) : G K g nL cs pc L st S := by
  obtain ⟨p, l, e, R, s, m, args, below, meth, c, Q⟩ := K
  intro H locs ls h1 h2 h3 h4 h5
  exact lv_ldc2 hC.1 hC.2.1 hC.2.2.2.1 (hC.2.2.2.2.1 _ hn.2) hd (k H locs ls h1 h2 (okv_cons hn.1 h3) h4 h5)
theorem g_lconst {n : Fin 2} {z : Int} (hC : Ctx K g own cc nL fr cm sm) (hd : decode cc pc = .ok (.lconst n, 1)) (hn : ok64 z ∧ Int64.ofNat (n : Nat) = Int64.ofInt z) (k : G K g nL cs (pc + 1) L (vl z :: st) S) : G K g nL cs pc L st S := by
  obtain ⟨p, l, e, R, s, m, args, below, meth, c, Q⟩ := K
  intro H locs ls h1 h2 h3 h4 h5
  exact lv_lconst hC.1 hC.2.1 hd hn.2 (k H locs ls h1 h2 (okv_cons hn.1 h3) h4 h5)

theorem g_iload {i : Nat} {x : Int} (hC : Ctx K g own cc nL fr cm sm) (hd : decode cc pc = .ok (.iload i, 2)) (q : Nat) (hq : L[q]? = some (i, vi x)) (k : G K g nL cs (pc + 2) L (vi x :: st) S) : G K g nL cs pc L st S := by
  obtain ⟨p, l, e, R, s, m, args, below, meth, c, Q⟩ := K
  intro H locs ls h1 h2 h3 h4 h5
  exact lv_iload hC.1 hC.2.1 hd (lv_of h5 q hq) (k H locs ls h1 h2 (okv_cons (okL_of h4 q hq) h3) h4 h5)
theorem g_iload_n {n : Fin 4} {i : Nat} {x : Int} (hC : Ctx K g own cc nL fr cm sm) (hd : decode cc pc = .ok (.iload_n n, 1)) (q : Nat) (hq : L[q]? = some (i, vi x)) (hi : (n : Nat) = i) (k : G K g nL cs (pc + 1) L (vi x :: st) S) : G K g nL cs pc L st S := by
  obtain ⟨p, l, e, R, s, m, args, below, meth, c, Q⟩ := K
  intro H locs ls h1 h2 h3 h4 h5
  exact lv_iload_n hC.1 hC.2.1 hd hi (lv_of h5 q hq) (k H locs ls h1 h2 (okv_cons (okL_of h4 q hq) h3) h4 h5)

theorem g_lload {i : Nat} {x : Int} (hC : Ctx K g own cc nL fr cm sm) (hd : decode cc pc = .ok (.lload i, 2)) (q : Nat) (hq : L[q]? = some (i, vl x)) (k : G K g nL cs (pc + 2) L (vl x :: st) S) : G K g nL cs pc L st S := by
  obtain ⟨p, l, e, R, s, m, args, below, meth, c, Q⟩ := K
  intro H locs ls h1 h2 h3 h4 h5
  exact lv_lload hC.1 hC.2.1 hd (lv_of h5 q hq) (k H locs ls h1 h2 (okv_cons (okL_of h4 q hq) h3) h4 h5)
theorem g_lload_n {n : Fin 4} {i : Nat} {x : Int} (hC : Ctx K g own cc nL fr cm sm) (hd : decode cc pc = .ok (.lload_n n, 1)) (q : Nat) (hq : L[q]? = some (i, vl x)) (hi : (n : Nat) = i) (k : G K g nL cs (pc + 1) L (vl x :: st) S) : G K g nL cs pc L st S := by
  obtain ⟨p, l, e, R, s, m, args, below, meth, c, Q⟩ := K
  intro H locs ls h1 h2 h3 h4 h5
  exact lv_lload_n hC.1 hC.2.1 hd hi (lv_of h5 q hq) (k H locs ls h1 h2 (okv_cons (okL_of h4 q hq) h3) h4 h5)

theorem g_aload {i : Nat} {x : Nat} (hC : Ctx K g own cc nL fr cm sm) (hd : decode cc pc = .ok (.aload i, 2)) (q : Nat) (hq : L[q]? = some (i, vr x)) (k : G K g nL cs (pc + 2) L (vr x :: st) S) : G K g nL cs pc L st S := by
  obtain ⟨p, l, e, R, s, m, args, below, meth, c, Q⟩ := K
  intro H locs ls h1 h2 h3 h4 h5
  exact lv_aload hC.1 hC.2.1 hd (lv_of h5 q hq) (k H locs ls h1 h2 (okv_cons (okL_of h4 q hq) h3) h4 h5)
theorem g_aload_n {n : Fin 4} {i : Nat} {x : Nat} (hC : Ctx K g own cc nL fr cm sm) (hd : decode cc pc = .ok (.aload_n n, 1)) (q : Nat) (hq : L[q]? = some (i, vr x)) (hi : (n : Nat) = i) (k : G K g nL cs (pc + 1) L (vr x :: st) S) : G K g nL cs pc L st S := by
  obtain ⟨p, l, e, R, s, m, args, below, meth, c, Q⟩ := K
  intro H locs ls h1 h2 h3 h4 h5
  exact lv_aload_n hC.1 hC.2.1 hd hi (lv_of h5 q hq) (k H locs ls h1 h2 (okv_cons (okL_of h4 q hq) h3) h4 h5)

theorem g_aloado_n {n : Fin 4} {i x : Nat} (hC : Ctx K g own cc nL fr cm sm) (hd : decode cc pc = .ok (.aload_n n, 1)) (q : Nat) (hq : L[q]? = some (i, vo x)) (hi : (n : Nat) = i) (k : G K g nL cs (pc + 1) L (vo x :: st) S) : G K g nL cs pc L st S := by
  obtain ⟨p, l, e, R, s, m, args, below, meth, c, Q⟩ := K
  intro H locs ls h1 h2 h3 h4 h5
  exact lv_aload_n hC.1 hC.2.1 hd hi (lv_of h5 q hq) (k H locs ls h1 h2 (okv_cons trivial h3) h4 h5)
def isL (v : Vl) : Bool := match v with
  | .inr (.inl _) => true
  | _ => false
theorem cat_isL (g : GT) (v : Vl) : ((cv g v).category == 2) = isL v := by
  rcases v with x | x | x | x <;> rfl
def st1 (L : List (Nat × Vl)) (i : Nat) : List (Nat × Vl) := L.filter (fun q => !(q.1 == i) && !(q.1 + 1 == i && isL q.2))
def st2 (L : List (Nat × Vl)) (i : Nat) : List (Nat × Vl) := L.filter (fun q => !(q.1 == i) && (!(q.1 == i + 1) && !(q.1 + 1 == i && isL q.2)))
theorem st1_map (g : GT) (L : List (Nat × Vl)) (i : Nat) : (L.map (fun q => (q.1, cv g q.2))).filter (fun q => !(q.1 == i) && !(q.1 + 1 == i && q.2.category == 2)) = (st1 L i).map (fun q => (q.1, cv g q.2)) := by
  unfold st1
  rw [List.filter_map]
  congr 1
  apply List.filter_congr
  intro q _
  simp only [Function.comp, cat_isL]
theorem st2_map (g : GT) (L : List (Nat × Vl)) (i : Nat) : (L.map (fun q => (q.1, cv g q.2))).filter (fun q => !(q.1 == i) && (!(q.1 == i + 1) && !(q.1 + 1 == i && q.2.category == 2))) = (st2 L i).map (fun q => (q.1, cv g q.2)) := by
  unfold st2
  rw [List.filter_map]
  congr 1
  apply List.filter_congr
  intro q _
  simp only [Function.comp, cat_isL]
theorem okL_st1 {i : Nat} {v : Vl} (h : ∀ q ∈ L, okv q.2) (hv : okv v) : ∀ q ∈ (i, v) :: st1 L i, okv q.2 := fun q hq => (List.mem_cons.mp hq).elim (fun e => e ▸ hv) (fun z => h q (List.mem_filter.mp z).1)
theorem okL_st2 {i : Nat} {v : Vl} (h : ∀ q ∈ L, okv q.2) (hv : okv v) : ∀ q ∈ (i, v) :: st2 L i, okv q.2 := fun q hq => (List.mem_cons.mp hq).elim (fun e => e ▸ hv) (fun z => h q (List.mem_filter.mp z).1)

theorem g_istore {i : Nat} {x : Int} {L' : List (Nat × Vl)} (hC : Ctx K g own cc nL fr cm sm) (hd : decode cc pc = .ok (.istore i, 2)) (hn : i < nL) (hl : (i, vi x) :: st1 L i = L') (k : G K g nL cs (pc + 2) L' st S) : G K g nL cs pc L (vi x :: st) S := by
  obtain ⟨p, l, e, R, s, m, args, below, meth, c, Q⟩ := K
  intro H locs ls h1 h2 h3 h4 h5
  subst hl
  exact lv_istore hC.1 hC.2.1 hd h5 hn rfl (fun ls' h6 => k H locs ls' h1 h2 (okv_tail h3) (okL_st1 h4 (okv_head h3)) (by rw [st1_map] at h6; exact h6))

theorem g_istore_n {n : Fin 4} {i : Nat} {x : Int} {L' : List (Nat × Vl)} (hC : Ctx K g own cc nL fr cm sm) (hd : decode cc pc = .ok (.istore_n n, 1)) (hi : (n : Nat) = i) (hn : i < nL) (hl : (i, vi x) :: st1 L i = L') (k : G K g nL cs (pc + 1) L' st S) : G K g nL cs pc L (vi x :: st) S := by
  obtain ⟨p, l, e, R, s, m, args, below, meth, c, Q⟩ := K
  intro H locs ls h1 h2 h3 h4 h5
  subst hl
  exact lv_istore_n hC.1 hC.2.1 hd hi h5 hn rfl (fun ls' h6 => k H locs ls' h1 h2 (okv_tail h3) (okL_st1 h4 (okv_head h3)) (by rw [st1_map] at h6; exact h6))

theorem g_lstore {i : Nat} {x : Int} {L' : List (Nat × Vl)} (hC : Ctx K g own cc nL fr cm sm) (hd : decode cc pc = .ok (.lstore i, 2)) (hn : i + 1 < nL) (hl : (i, vl x) :: st2 L i = L') (k : G K g nL cs (pc + 2) L' st S) : G K g nL cs pc L (vl x :: st) S := by
  obtain ⟨p, l, e, R, s, m, args, below, meth, c, Q⟩ := K
  intro H locs ls h1 h2 h3 h4 h5
  subst hl
  exact lv_lstore hC.1 hC.2.1 hd h5 hn rfl (fun ls' h6 => k H locs ls' h1 h2 (okv_tail h3) (okL_st2 h4 (okv_head h3)) (by rw [st2_map] at h6; exact h6))

theorem g_lstore_n {n : Fin 4} {i : Nat} {x : Int} {L' : List (Nat × Vl)} (hC : Ctx K g own cc nL fr cm sm) (hd : decode cc pc = .ok (.lstore_n n, 1)) (hi : (n : Nat) = i) (hn : i + 1 < nL) (hl : (i, vl x) :: st2 L i = L') (k : G K g nL cs (pc + 1) L' st S) : G K g nL cs pc L (vl x :: st) S := by
  obtain ⟨p, l, e, R, s, m, args, below, meth, c, Q⟩ := K
  intro H locs ls h1 h2 h3 h4 h5
  subst hl
  exact lv_lstore_n hC.1 hC.2.1 hd hi h5 hn rfl (fun ls' h6 => k H locs ls' h1 h2 (okv_tail h3) (okL_st2 h4 (okv_head h3)) (by rw [st2_map] at h6; exact h6))

theorem g_astore {i : Nat} {x : Nat} {L' : List (Nat × Vl)} (hC : Ctx K g own cc nL fr cm sm) (hd : decode cc pc = .ok (.astore i, 2)) (hn : i < nL) (hl : (i, vr x) :: st1 L i = L') (k : G K g nL cs (pc + 2) L' st S) : G K g nL cs pc L (vr x :: st) S := by
  obtain ⟨p, l, e, R, s, m, args, below, meth, c, Q⟩ := K
  intro H locs ls h1 h2 h3 h4 h5
  subst hl
  exact lv_astore hC.1 hC.2.1 hd h5 hn rfl (fun ls' h6 => k H locs ls' h1 h2 (okv_tail h3) (okL_st1 h4 (okv_head h3)) (by rw [st1_map] at h6; exact h6))

theorem g_astore_n {n : Fin 4} {i : Nat} {x : Nat} {L' : List (Nat × Vl)} (hC : Ctx K g own cc nL fr cm sm) (hd : decode cc pc = .ok (.astore_n n, 1)) (hi : (n : Nat) = i) (hn : i < nL) (hl : (i, vr x) :: st1 L i = L') (k : G K g nL cs (pc + 1) L' st S) : G K g nL cs pc L (vr x :: st) S := by
  obtain ⟨p, l, e, R, s, m, args, below, meth, c, Q⟩ := K
  intro H locs ls h1 h2 h3 h4 h5
  subst hl
  exact lv_astore_n hC.1 hC.2.1 hd hi h5 hn rfl (fun ls' h6 => k H locs ls' h1 h2 (okv_tail h3) (okL_st1 h4 (okv_head h3)) (by rw [st1_map] at h6; exact h6))

theorem g_iinc {i : Nat} {n x : Int} {L' : List (Nat × Vl)} (hC : Ctx K g own cc nL fr cm sm) (hd : decode cc pc = .ok (.iinc i n, 3)) (q : Nat) (hq : L[q]? = some (i, vi x)) (hn : i < nL) (hl : (i, vi (i_add x n)) :: st1 L i = L') (k : G K g nL cs (pc + 3) L' st S) : G K g nL cs pc L st S := by
  obtain ⟨p, l, e, R, s, m, args, below, meth, c, Q⟩ := K
  intro H locs ls h1 h2 h3 h4 h5
  subst hl
  refine lv_iinc hC.1 hC.2.1 hd h5 (k := q) (x := Int32.ofInt x) (v := Int32.ofInt x + Int32.ofInt n) (by rw [List.getElem?_map, hq]; rfl) rfl hn rfl (fun ls' h6 => k H locs ls' h1 h2 h3 (okL_st1 h4 (okv_i _)) ?_)
  rw [st1_map] at h6
  rw [List.map_cons, i_add, cv_i]
  exact h6
theorem cat_ne (g : GT) {v : Vl} (h : isL v = false) : (cv g v).category = 1 := by
  rcases v with x | x | x | x
  · rfl
  · cases h
  · rfl
  · rfl
theorem g_dup {v : Vl} (hC : Ctx K g own cc nL fr cm sm) (hd : decode cc pc = .ok (.dup, 1)) (hv : isL v = false) (k : G K g nL cs (pc + 1) L (v :: v :: st) S) : G K g nL cs pc L (v :: st) S := by
  obtain ⟨p, l, e, R, s, m, args, below, meth, c, Q⟩ := K
  intro H locs ls h1 h2 h3 h4 h5
  exact lv_dup hC.1 hC.2.1 hd (cat_ne g hv) (k H locs ls h1 h2 (okv_cons (okv_head h3) h3) h4 h5)
theorem g_dup2 {v u : Vl} (hC : Ctx K g own cc nL fr cm sm) (hd : decode cc pc = .ok (.dup2, 1)) (hv : isL v = false) (hu : isL u = false) (k : G K g nL cs (pc + 1) L (v :: u :: v :: u :: st) S) : G K g nL cs pc L (v :: u :: st) S := by
  obtain ⟨p, l, e, R, s, m, args, below, meth, c, Q⟩ := K
  intro H locs ls h1 h2 h3 h4 h5
  exact lv_dup2_11 hC.1 hC.2.1 hd (cat_ne g hv) (cat_ne g hu) (k H locs ls h1 h2 (okv_cons (okv_head h3) (okv_cons (okv_head (okv_tail h3)) h3)) h4 h5)
theorem g_dup_x1 {v u : Vl} (hC : Ctx K g own cc nL fr cm sm) (hd : decode cc pc = .ok (.dup_x1, 1)) (hv : isL v = false) (hu : isL u = false) (k : G K g nL cs (pc + 1) L (v :: u :: v :: st) S) : G K g nL cs pc L (v :: u :: st) S := by
  obtain ⟨p, l, e, R, s, m, args, below, meth, c, Q⟩ := K
  intro H locs ls h1 h2 h3 h4 h5
  exact lv_dup_x1 hC.1 hC.2.1 hd (cat_ne g hv) (cat_ne g hu) (k H locs ls h1 h2 (okv_cons (okv_head h3) (okv_cons (okv_head (okv_tail h3)) (okv_cons (okv_head h3) (okv_tail (okv_tail h3))))) h4 h5)
theorem g_pop {v : Vl} (hC : Ctx K g own cc nL fr cm sm) (hd : decode cc pc = .ok (.pop, 1)) (hv : isL v = false) (k : G K g nL cs (pc + 1) L st S) : G K g nL cs pc L (v :: st) S := by
  obtain ⟨p, l, e, R, s, m, args, below, meth, c, Q⟩ := K
  intro H locs ls h1 h2 h3 h4 h5
  exact lv_pop hC.1 hC.2.1 hd (cat_ne g hv) (k H locs ls h1 h2 (okv_tail h3) h4 h5)
theorem g_goto {off : Int} {tgt : Nat} (hC : Ctx K g own cc nL fr cm sm) (hd : decode cc pc = .ok (.goto off, 3)) (ht : (pc : Int) + off = (tgt : Int)) (k : G K g nL cs tgt L st S) : G K g nL cs pc L st S := by
  obtain ⟨p, l, e, R, s, m, args, below, meth, c, Q⟩ := K
  intro H locs ls h1 h2 h3 h4 h5
  exact lv_goto hC.1 hC.2.1 hd ht (k H locs ls h1 h2 h3 h4 h5)

theorem g_icmp_eq {x y off : Int} {tgt : Nat} (hC : Ctx K g own cc nL fr cm sm) (hd : decode cc pc = .ok (.if_icmp .eq off, 3)) (ht : (pc : Int) + off = (tgt : Int)) (kt : x = y → G K g nL cs tgt L st S) (kf : ¬ x = y → G K g nL cs (pc + 3) L st S) : G K g nL cs pc L (vi y :: vi x :: st) S := by
  obtain ⟨p, l, e, R, s, m, args, below, meth, c, Q⟩ := K
  intro H locs ls h1 h2 h3 h4 h5
  have hx : ok32 x := okv_head (okv_tail h3)
  have hy : ok32 y := okv_head h3
  have hh := eq_of32 hx hy
  exact lv_icmp_eq hC.1 hC.2.1 hd ht (fun z => kt (hh.mp z) H locs ls h1 h2 (okv_tail (okv_tail h3)) h4 h5) (fun z => kf (fun w => z (hh.mpr w)) H locs ls h1 h2 (okv_tail (okv_tail h3)) h4 h5)

theorem g_if_eq {x off : Int} {tgt : Nat} (hC : Ctx K g own cc nL fr cm sm) (hd : decode cc pc = .ok (.ifCond .eq off, 3)) (ht : (pc : Int) + off = (tgt : Int)) (kt : x = 0 → G K g nL cs tgt L st S) (kf : ¬ x = 0 → G K g nL cs (pc + 3) L st S) : G K g nL cs pc L (vi x :: st) S := by
  obtain ⟨p, l, e, R, s, m, args, below, meth, c, Q⟩ := K
  intro H locs ls h1 h2 h3 h4 h5
  have hx : ok32 x := okv_head h3
  have hh := eq_of32 hx ok32_0
  exact lv_if_eq hC.1 hC.2.1 hd ht (fun z => kt (hh.mp z) H locs ls h1 h2 (okv_tail h3) h4 h5) (fun z => kf (fun w => z (hh.mpr w)) H locs ls h1 h2 (okv_tail h3) h4 h5)

theorem g_icmp_lt {x y off : Int} {tgt : Nat} (hC : Ctx K g own cc nL fr cm sm) (hd : decode cc pc = .ok (.if_icmp .lt off, 3)) (ht : (pc : Int) + off = (tgt : Int)) (kt : x < y → G K g nL cs tgt L st S) (kf : ¬ x < y → G K g nL cs (pc + 3) L st S) : G K g nL cs pc L (vi y :: vi x :: st) S := by
  obtain ⟨p, l, e, R, s, m, args, below, meth, c, Q⟩ := K
  intro H locs ls h1 h2 h3 h4 h5
  have hx : ok32 x := okv_head (okv_tail h3)
  have hy : ok32 y := okv_head h3
  have hh := lt_of32 hx hy
  exact lv_icmp_lt hC.1 hC.2.1 hd ht (fun z => kt (hh.mp z) H locs ls h1 h2 (okv_tail (okv_tail h3)) h4 h5) (fun z => kf (fun w => z (hh.mpr w)) H locs ls h1 h2 (okv_tail (okv_tail h3)) h4 h5)

theorem g_if_lt {x off : Int} {tgt : Nat} (hC : Ctx K g own cc nL fr cm sm) (hd : decode cc pc = .ok (.ifCond .lt off, 3)) (ht : (pc : Int) + off = (tgt : Int)) (kt : x < 0 → G K g nL cs tgt L st S) (kf : ¬ x < 0 → G K g nL cs (pc + 3) L st S) : G K g nL cs pc L (vi x :: st) S := by
  obtain ⟨p, l, e, R, s, m, args, below, meth, c, Q⟩ := K
  intro H locs ls h1 h2 h3 h4 h5
  have hx : ok32 x := okv_head h3
  have hh := lt_of32 hx ok32_0
  exact lv_if_lt hC.1 hC.2.1 hd ht (fun z => kt (hh.mp z) H locs ls h1 h2 (okv_tail h3) h4 h5) (fun z => kf (fun w => z (hh.mpr w)) H locs ls h1 h2 (okv_tail h3) h4 h5)

theorem g_icmp_ge {x y off : Int} {tgt : Nat} (hC : Ctx K g own cc nL fr cm sm) (hd : decode cc pc = .ok (.if_icmp .ge off, 3)) (ht : (pc : Int) + off = (tgt : Int)) (kt : y ≤ x → G K g nL cs tgt L st S) (kf : ¬ y ≤ x → G K g nL cs (pc + 3) L st S) : G K g nL cs pc L (vi y :: vi x :: st) S := by
  obtain ⟨p, l, e, R, s, m, args, below, meth, c, Q⟩ := K
  intro H locs ls h1 h2 h3 h4 h5
  have hx : ok32 x := okv_head (okv_tail h3)
  have hy : ok32 y := okv_head h3
  have hh := le_of32 hy hx
  exact lv_icmp_ge hC.1 hC.2.1 hd ht (fun z => kt (hh.mp z) H locs ls h1 h2 (okv_tail (okv_tail h3)) h4 h5) (fun z => kf (fun w => z (hh.mpr w)) H locs ls h1 h2 (okv_tail (okv_tail h3)) h4 h5)

theorem g_if_ge {x off : Int} {tgt : Nat} (hC : Ctx K g own cc nL fr cm sm) (hd : decode cc pc = .ok (.ifCond .ge off, 3)) (ht : (pc : Int) + off = (tgt : Int)) (kt : 0 ≤ x → G K g nL cs tgt L st S) (kf : ¬ 0 ≤ x → G K g nL cs (pc + 3) L st S) : G K g nL cs pc L (vi x :: st) S := by
  obtain ⟨p, l, e, R, s, m, args, below, meth, c, Q⟩ := K
  intro H locs ls h1 h2 h3 h4 h5
  have hx : ok32 x := okv_head h3
  have hh := le_of32 ok32_0 hx
  exact lv_if_ge hC.1 hC.2.1 hd ht (fun z => kt (hh.mp z) H locs ls h1 h2 (okv_tail h3) h4 h5) (fun z => kf (fun w => z (hh.mpr w)) H locs ls h1 h2 (okv_tail h3) h4 h5)

theorem g_icmp_gt {x y off : Int} {tgt : Nat} (hC : Ctx K g own cc nL fr cm sm) (hd : decode cc pc = .ok (.if_icmp .gt off, 3)) (ht : (pc : Int) + off = (tgt : Int)) (kt : y < x → G K g nL cs tgt L st S) (kf : ¬ y < x → G K g nL cs (pc + 3) L st S) : G K g nL cs pc L (vi y :: vi x :: st) S := by
  obtain ⟨p, l, e, R, s, m, args, below, meth, c, Q⟩ := K
  intro H locs ls h1 h2 h3 h4 h5
  have hx : ok32 x := okv_head (okv_tail h3)
  have hy : ok32 y := okv_head h3
  have hh := lt_of32 hy hx
  exact lv_icmp_gt hC.1 hC.2.1 hd ht (fun z => kt (hh.mp z) H locs ls h1 h2 (okv_tail (okv_tail h3)) h4 h5) (fun z => kf (fun w => z (hh.mpr w)) H locs ls h1 h2 (okv_tail (okv_tail h3)) h4 h5)

theorem g_if_gt {x off : Int} {tgt : Nat} (hC : Ctx K g own cc nL fr cm sm) (hd : decode cc pc = .ok (.ifCond .gt off, 3)) (ht : (pc : Int) + off = (tgt : Int)) (kt : 0 < x → G K g nL cs tgt L st S) (kf : ¬ 0 < x → G K g nL cs (pc + 3) L st S) : G K g nL cs pc L (vi x :: st) S := by
  obtain ⟨p, l, e, R, s, m, args, below, meth, c, Q⟩ := K
  intro H locs ls h1 h2 h3 h4 h5
  have hx : ok32 x := okv_head h3
  have hh := lt_of32 ok32_0 hx
  exact lv_if_gt hC.1 hC.2.1 hd ht (fun z => kt (hh.mp z) H locs ls h1 h2 (okv_tail h3) h4 h5) (fun z => kf (fun w => z (hh.mpr w)) H locs ls h1 h2 (okv_tail h3) h4 h5)

theorem g_icmp_le {x y off : Int} {tgt : Nat} (hC : Ctx K g own cc nL fr cm sm) (hd : decode cc pc = .ok (.if_icmp .le off, 3)) (ht : (pc : Int) + off = (tgt : Int)) (kt : x ≤ y → G K g nL cs tgt L st S) (kf : ¬ x ≤ y → G K g nL cs (pc + 3) L st S) : G K g nL cs pc L (vi y :: vi x :: st) S := by
  obtain ⟨p, l, e, R, s, m, args, below, meth, c, Q⟩ := K
  intro H locs ls h1 h2 h3 h4 h5
  have hx : ok32 x := okv_head (okv_tail h3)
  have hy : ok32 y := okv_head h3
  have hh := le_of32 hx hy
  exact lv_icmp_le hC.1 hC.2.1 hd ht (fun z => kt (hh.mp z) H locs ls h1 h2 (okv_tail (okv_tail h3)) h4 h5) (fun z => kf (fun w => z (hh.mpr w)) H locs ls h1 h2 (okv_tail (okv_tail h3)) h4 h5)

theorem g_if_le {x off : Int} {tgt : Nat} (hC : Ctx K g own cc nL fr cm sm) (hd : decode cc pc = .ok (.ifCond .le off, 3)) (ht : (pc : Int) + off = (tgt : Int)) (kt : x ≤ 0 → G K g nL cs tgt L st S) (kf : ¬ x ≤ 0 → G K g nL cs (pc + 3) L st S) : G K g nL cs pc L (vi x :: st) S := by
  obtain ⟨p, l, e, R, s, m, args, below, meth, c, Q⟩ := K
  intro H locs ls h1 h2 h3 h4 h5
  have hx : ok32 x := okv_head h3
  have hh := le_of32 hx ok32_0
  exact lv_if_le hC.1 hC.2.1 hd ht (fun z => kt (hh.mp z) H locs ls h1 h2 (okv_tail h3) h4 h5) (fun z => kf (fun w => z (hh.mpr w)) H locs ls h1 h2 (okv_tail h3) h4 h5)

theorem g_icmp_ne {x y off : Int} {tgt : Nat} (hC : Ctx K g own cc nL fr cm sm) (hd : decode cc pc = .ok (.if_icmp .ne off, 3)) (ht : (pc : Int) + off = (tgt : Int)) (kt : ¬ x = y → G K g nL cs tgt L st S) (kf : x = y → G K g nL cs (pc + 3) L st S) : G K g nL cs pc L (vi y :: vi x :: st) S := by
  obtain ⟨p, l, e, R, s, m, args, below, meth, c, Q⟩ := K
  intro H locs ls h1 h2 h3 h4 h5
  have hx : ok32 x := okv_head (okv_tail h3)
  have hy : ok32 y := okv_head h3
  have hh := eq_of32 hx hy
  exact lv_icmp_ne hC.1 hC.2.1 hd ht (fun z => kt (fun w => z (hh.mpr w)) H locs ls h1 h2 (okv_tail (okv_tail h3)) h4 h5) (fun z => kf (hh.mp z) H locs ls h1 h2 (okv_tail (okv_tail h3)) h4 h5)
theorem g_if_ne {x off : Int} {tgt : Nat} (hC : Ctx K g own cc nL fr cm sm) (hd : decode cc pc = .ok (.ifCond .ne off, 3)) (ht : (pc : Int) + off = (tgt : Int)) (kt : ¬ x = 0 → G K g nL cs tgt L st S) (kf : x = 0 → G K g nL cs (pc + 3) L st S) : G K g nL cs pc L (vi x :: st) S := by
  obtain ⟨p, l, e, R, s, m, args, below, meth, c, Q⟩ := K
  intro H locs ls h1 h2 h3 h4 h5
  have hx : ok32 x := okv_head h3
  have hh := eq_of32 hx ok32_0
  exact lv_if_ne hC.1 hC.2.1 hd ht (fun z => kt (fun w => z (hh.mpr w)) H locs ls h1 h2 (okv_tail h3) h4 h5) (fun z => kf (hh.mp z) H locs ls h1 h2 (okv_tail h3) h4 h5)
theorem g_table {x dflt lo hi : Int} {offs : Array Int} {len : Nat} (hC : Ctx K g own cc nL fr cm sm) (hd : decode cc pc = .ok (.tableswitch dflt lo hi offs, len)) (tgt : Nat) (h : ((x < lo ∨ hi < x) ∧ (pc : Int) + dflt = (tgt : Int)) ∨ (¬ x < lo ∧ ¬ hi < x ∧ ∃ off, offs[(x - lo).toNat]? = some off ∧ (pc : Int) + off = (tgt : Int))) (k : G K g nL cs tgt L st S) : G K g nL cs pc L (vi x :: st) S := by
  obtain ⟨p, l, e, R, s, m, args, below, meth, c, Q⟩ := K
  intro H locs ls h1 h2 h3 h4 h5
  have hx : (Int32.ofInt x).toInt = x := toInt_of32 (okv_head h3)
  rcases h with ⟨a, b⟩ | ⟨a, b, off, d, f⟩
  · exact lv_tableOut hC.1 hC.2.1 hd (by rw [hx]; exact a) b (k H locs ls h1 h2 (okv_tail h3) h4 h5)
  · exact lv_tableIn hC.1 hC.2.1 hd (by rw [hx]; exact a) (by rw [hx]; exact b) (by rw [hx]; exact d) f (k H locs ls h1 h2 (okv_tail h3) h4 h5)
theorem g_lookup {x dflt : Int} {ps : Array (Int × Int)} {len : Nat} (hC : Ctx K g own cc nL fr cm sm) (hd : decode cc pc = .ok (.lookupswitch dflt ps, len)) (hp : (ps.toList.zip (ps.toList.drop 1)).all (fun (a, next) => a.1 < next.1) = true) (off : Int) (tgt : Nat) (ho : Op.lookupswitch.offset ps.toList dflt x = off) (ht : (pc : Int) + off = (tgt : Int)) (k : G K g nL cs tgt L st S) : G K g nL cs pc L (vi x :: st) S := by
  obtain ⟨p, l, e, R, s, m, args, below, meth, c, Q⟩ := K
  intro H locs ls h1 h2 h3 h4 h5
  have hx : (Int32.ofInt x).toInt = x := toInt_of32 (okv_head h3)
  exact lv_lookup hC.1 hC.2.1 hd hp (by rw [hx]; exact ho) ht (k H locs ls h1 h2 (okv_tail h3) h4 h5)
end Rows

