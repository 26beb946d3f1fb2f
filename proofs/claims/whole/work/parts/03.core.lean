/-! My own abstract store: cells by number, values as whole numbers; G is the walk's goal in its terms. -/
def lw_w : List Cond := lw_tbl.filter goodWord
theorem lw_w_good : ∀ w ∈ lw_w, (w.onTables && w.keeps) = true ∨ ∃ ty, w = .arrayClass ty := fun _ h => good_of_word (List.mem_filter.mp h).2
theorem lw_w_in {w : Cond} {l : List Cond} (i : Nat) (hl : l = lw_tbl) (h : l[i]? = some w) (hg : goodWord w = true) : w ∈ lw_w := List.mem_filter.mpr ⟨hl ▸ List.mem_of_getElem? h, hg⟩
abbrev Vl : Type := Int ⊕ Int ⊕ Nat ⊕ Nat
abbrev vi (x : Int) : Vl := Sum.inl x
abbrev vl (x : Int) : Vl := Sum.inr (Sum.inl x)
abbrev vr (c : Nat) : Vl := Sum.inr (Sum.inr (Sum.inl c))
abbrev vo (c : Nat) : Vl := Sum.inr (Sum.inr (Sum.inr c))
def ok32 (x : Int) : Prop := -2147483648 ≤ x ∧ x < 2147483648
def ok64 (x : Int) : Prop := -9223372036854775808 ≤ x ∧ x < 9223372036854775808
def okv (v : Vl) : Prop := match v with
  | .inl x => ok32 x
  | .inr (.inl x) => ok64 x
  | _ => True
theorem ok32_toInt (w : Int32) : ok32 w.toInt := ⟨by have := Int32.le_toInt w; omega, by have := Int32.toInt_lt w; omega⟩
theorem ok64_toInt (w : Int64) : ok64 w.toInt := ⟨by have := Int64.le_toInt w; omega, by have := Int64.toInt_lt w; omega⟩
theorem toInt_of32 {x : Int} (h : ok32 x) : (Int32.ofInt x).toInt = x := Int32.toInt_ofInt_of_le (by have := h.1; omega) (by have := h.2; omega)
theorem toInt_of64 {x : Int} (h : ok64 x) : (Int64.ofInt x).toInt = x := Int64.toInt_ofInt_of_le (by have := h.1; omega) (by have := h.2; omega)
theorem clamp_of32 {x : Int} (h : ok32 x) : (Int32.ofInt x).toNatClampNeg = x.toNat := Int32.toNatClampNeg_ofInt_of_le (by have := h.1; omega) (by have := h.2; omega)
theorem le_of32 {x y : Int} (hx : ok32 x) (hy : ok32 y) : Int32.ofInt x ≤ Int32.ofInt y ↔ x ≤ y := by rw [Int32.le_iff_toInt_le, toInt_of32 hx, toInt_of32 hy]
theorem lt_of32 {x y : Int} (hx : ok32 x) (hy : ok32 y) : Int32.ofInt x < Int32.ofInt y ↔ x < y := by rw [Int32.lt_iff_toInt_lt, toInt_of32 hx, toInt_of32 hy]
theorem eq_of32 {x y : Int} (hx : ok32 x) (hy : ok32 y) : Int32.ofInt x = Int32.ofInt y ↔ x = y := by rw [← Int32.toInt_inj, toInt_of32 hx, toInt_of32 hy]
theorem eq_of64 {x y : Int} (hx : ok64 x) (hy : ok64 y) : Int64.ofInt x = Int64.ofInt y ↔ x = y := by rw [← Int64.toInt_inj, toInt_of64 hx, toInt_of64 hy]
theorem ok32_0 : ok32 0 := by unfold ok32; omega
theorem in_of32 {x : Int} {n : Nat} (h : ok32 x) (h0 : 0 ≤ x) (h1 : x < n) : vp_in (Int32.ofInt x) n := by
  intro hh
  rcases hh with hh | hh
  · have := (lt_of32 h ok32_0).mp hh
    omega
  · rw [clamp_of32 h] at hh
    omega
abbrev St : Type := Nat → Nat → Int
abbrev Sh : Type := Nat × Nat × List (Nat × Option Nat)
abbrev S2 : Type := List Sh × St
abbrev GT : Type := Nat × va_G × (ClassId × ClassId × ClassId) × (Nat → Nat)
def up (σ : St) (c j : Nat) (x : Int) : St := fun a b => if a = c ∧ b = j then x else σ a b
def cv (g : GT) (v : Vl) : Value := match v with
  | .inl x => .int (Int32.ofInt x)
  | .inr (.inl x) => .long (Int64.ofInt x)
  | .inr (.inr (.inl c)) => .ref (g.1 + c)
  | .inr (.inr (.inr k)) => .ref (g.2.2.2 k)
def fv (g : GT) (f : Nat × Option Nat) (x : Int) : Value := if f.1 = 1 then .long (Int64.ofInt x) else if f.1 = 2 then (match f.2 with
  | none => .null
  | some c => .ref (g.1 + c)) else if f.1 = 4 then .ref (g.1 + x.toNat) else .int (Int32.ofInt x)
def ce (g : GT) (τ : Nat → Int) (h : Sh) : va_E :=
  if h.1 = 0 then .inr (h.2.1, h.2.2.mapIdx (fun j f => fv g f (τ j)))
  else if h.1 = 1 then .inl (g.2.2.1.1, h.2.1, .inl (fun j => Int32.ofInt (τ j)))
  else if h.1 = 2 then .inl (g.2.2.1.2.1, h.2.1, .inr (.inl (fun j => Int64.ofInt (τ j))))
  else .inl (g.2.2.1.2.2, h.2.1, .inr (.inr (.inr (.inr (fun j => ((h.2.2[j]?).bind (fun q => q.2)).map (fun c => g.1 + c))))))
def okf (f : Nat × Option Nat) (x : Int) : Prop := if f.1 = 1 then ok64 x else if f.1 = 2 then True else if f.1 = 4 then True else ok32 x
def okc (τ : Nat → Int) (h : Sh) : Prop := if h.1 = 0 then ∀ (j : Nat) (f : Nat × Option Nat), h.2.2[j]? = some f → okf f (τ j) else if h.1 = 1 then ∀ j, ok32 (τ j) else if h.1 = 2 then ∀ j, ok64 (τ j) else True
def wsO (g : GT) (S : S2) : va_W := S.1.mapIdx (fun k h => (g.1 + k, ce g (S.2 k) h))
def AO (g : GT) : Nat → Prop := fun q => g.1 ≤ q
def Wh (g : GT) (S : S2) (H : Heap) : Prop := va_P g.2.1 vwCl (wsO g S) H ∧ ∀ (k : Nat) (h : Sh), S.1[k]? = some h → okc (S.2 k) h
def tyO (g : GT) : List (ClassId × FieldType) := [(g.2.2.1.1, .int), (g.2.2.1.2.1, .long), (g.2.2.1.2.2, .object RX6)]
theorem wsO_get {g : GT} {S : S2} {k : Nat} {h : Sh} (hk : S.1[k]? = some h) : (wsO g S)[k]? = some (g.1 + k, ce g (S.2 k) h) := by
  simp [wsO, List.getElem?_mapIdx, hk]
theorem wsO_D (g : GT) (S : S2) : va_D (AO g) (wsO g S) := by
  constructor
  · intro i j p q hi hj hpq
    simp only [wsO, List.getElem?_mapIdx, Option.map_eq_some_iff] at hi hj
    obtain ⟨a, -, rfl⟩ := hi
    obtain ⟨b, -, rfl⟩ := hj
    simp only at hpq
    omega
  · intro k q hk
    simp only [wsO, List.getElem?_mapIdx, Option.map_eq_some_iff] at hk
    obtain ⟨a, -, rfl⟩ := hk
    exact Nat.le_add_right _ _
theorem up_ne {σ : St} {c j a : Nat} {x : Int} (h : a ≠ c) : up σ c j x a = σ a := by
  funext b
  simp [up, h]
theorem up_at {σ : St} {c j : Nat} {x : Int} : up σ c j x c = vf_upd (σ c) j x := by
  funext b
  simp [up, vf_upd]
/-- the world behind a write of one place of one cell -/
theorem wsO_up {g : GT} {S : S2} {k j : Nat} {h : Sh} {x : Int} (hk : S.1[k]? = some h) : (wsO g S).set k (g.1 + k, ce g (vf_upd (S.2 k) j x) h) = wsO g (S.1, up S.2 k j x) := by
  apply List.ext_getElem?
  intro i
  rw [List.getElem?_set]
  by_cases hi : k = i
  · subst hi
    have hlt : k < S.1.length := (List.getElem?_eq_some_iff.mp hk).1
    have e := (List.getElem?_eq_some_iff.mp hk).2
    simp [hlt, wsO, List.getElem?_mapIdx, up_at, e]
  · simp [hi, wsO, List.getElem?_mapIdx, up_ne (Ne.symm hi)]
/-- the static arrays: class, name, descriptor, kind of element, what they hold -/
def sts : List (String × String × String × FieldType × List Int) := [("MissedSale", "MOST", "[I", .int, [3, 6, 1, 99, 9, 99, 9, 9, 1, 9, 9, 9, 9]), ("MissedSale$Dealing", "WEIGHT", "[J", .long, [531441, 59049, 6561, 729, 81, 9, 1]), ("MissedSale$Lots", "ABOVE", "[I", .int, [-1, 0, 0, 2, 1, 3, 0, 4]), ("MissedSale$Lots", "OWN", "[I", .int, [1, 10, 11, 2, 20, 0, 0, 0, 0, 30, 0, 0, 0, 41, 40, 0, 0, 0, 50, 0, 0, 0, 0, 60, 70, 0, 0, 0, 0, 80, 0, 81]), ("MissedSale$Ways", "MOVE_ORDER", "[I", .int, [2, 0, 1])]
def tv (ty : FieldType) (x : Int) : Value := match ty with
  | .long => .long (Int64.ofInt x)
  | _ => .int (Int32.ofInt x)
def Old (g : GT) (U : State) (H : Heap) : Prop := (∀ (k : Nat) (C n d : String) (ty : FieldType) (xs : List Int), sts[k]? = some (C, n, d, ty, xs) → va_Z C n d (.ref (g.2.2.2 k)) (AO g) U H ∧ va_T ty (g.2.2.2 k) xs.length (fun j => tv ty (xs.getD j 0)) (AO g) U H) ∧ vk_S 1 [6] [[99, 108, 104, 118, 110, 109]] (fun _ => g.2.2.2 5) (fun _ => g.2.2.2 6) (AO g) U H ∧ va_Z "java/lang/String" "COMPACT_STRINGS" "Z" (.int 1) (AO g) U H
theorem Old.moved {g : GT} {u U : State} {H : Heap} (hvm : u.vm.Alike U.vm) (h : Old g u H) : Old g U H := ⟨fun k C n d ty xs hk => ⟨va_Z.moved hvm (h.1 k C n d ty xs hk).1, va_T.moved hvm (h.1 k C n d ty xs hk).2⟩, vk_S.moved hvm h.2.1, va_Z.moved hvm h.2.2⟩
theorem Old.kept {g : GT} {U : State} {H H1 : Heap} (h : Old g U H) (hq : ∀ a : Nat, a < H.size → ¬ AO g a → H1[a]? = H[a]?) : Old g U H1 := ⟨fun k C n d ty xs hk => ⟨(h.1 k C n d ty xs hk).1.kept hq, (h.1 k C n d ty xs hk).2.kept hq⟩, h.2.1.kept hq, h.2.2.kept hq⟩
def nestWord (w : Cond) : Bool := match w with
  | .fieldLinkNest .. => true
  | .methodLinkNest .. => true
  | _ => false
/-- what a state says of the tables and of what was there before us -/
def Wst (g : GT) (U : State) (H : Heap) : Prop := va_K g.2.1 vwCl (tyO g) U ∧ Old g U H ∧ (∀ w ∈ lw_tbl, nestWord w = true → va_Nw w U) ∧ vk_R RX4 78 "clhvnm" (g.2.2.2 5) U ∧ va_AO RX6 U
theorem Wst.warm {g : GT} {s U : State} {H H1 : Heap} (hW : s.WarmedH U.vm) (h : Wst g s H) (hq : ∀ a : Nat, a < H.size → ¬ AO g a → H1[a]? = H[a]?) : Wst g U H1 := by
  refine ⟨va_K.moved hW.alike h.1, (h.2.1.moved hW.alike).kept hq, fun w hw hn => ?_, vk_R.warm hW h.2.2.2.1, ?_⟩
  · have := h.2.2.1 w hw hn
    cases w <;> first | exact va_Nw.warmF hW this | exact va_Nw.warmM hW this | (simp [nestWord] at hn)
  · exact va_AO.moved hW.alike h.2.2.2.2
theorem Wst.same {g : GT} {s U : State} {H : Heap} (hv : U.vm = s.vm) (h : Wst g s H) : Wst g U H := by
  have ha : s.vm.Alike U.vm := by rw [hv]; exact Vm.Alike.refl _
  refine ⟨va_K.moved ha h.1, h.2.1.moved ha, fun w hw hn => ?_, vk_R.same hv h.2.2.2.1, ?_⟩
  · have := h.2.2.1 w hw hn
    cases w <;> first | exact va_Nw.same rfl hv.symm this | (simp [nestWord] at hn)
  · exact va_AO.moved ha h.2.2.2.2
abbrev KT : Type := Program × Launch × Env × Room × State × MethodId × Array Value × List Frame × Method × Code × (State → Prop)
def WK (K : KT) (H : Heap) (locs : List Loc) (cs : Nat × Nat) (pc : Nat) (ls : Array Slot) (st : List Value) : Prop := match K with
  | (p, l, e, R, s, m, args, below, meth, c, Q) => W p l e R s m args below meth c H locs cs.1 cs.2 Q (F0 m pc ls st)
def Kheap (K : KT) : Heap := match K with
  | (_, _, _, _, s, _, _, _, _, _, _) => s.heap
/-- the walk's surroundings: the machine, the code, its class, the words, the world before us, the room: fr frames, cells up to cm, slots up to sm -/
def Ctx (K : KT) (g : GT) (own : String) (cc : ByteArray) (nL fr cm sm : Nat) : Prop := match K with
  | (p, _, _, R, s, m, args, _, _, c, _) => p.tables.exec = Jvm.exec ∧ c.code = cc ∧ c.maxLocals = nL ∧ s.vm.findClass own = some m.cls ∧ (∀ w ∈ lw_w, w.before args s = true) ∧ Wst g s s.heap ∧ g.1 ≤ s.heap.size ∧ fr ≤ R.frames ∧ 40 * fr ≤ R.locals ∧ cm ≤ R.cells ∧ sm ≤ R.slots
def G (K : KT) (g : GT) (nL : Nat) (cs : Nat × Nat) (pc : Nat) (L : List (Nat × Vl)) (st : List Vl) (S : S2) : Prop :=
  ∀ (H : Heap) (locs : List Loc) (ls : Array Slot), Wh g S H → va_S (AO g) (Kheap K) H locs → (∀ v ∈ st, okv v) → (∀ q ∈ L, okv q.2) → lv_has ls nL (L.map (fun q => (q.1, cv g q.2))) → WK K H locs cs pc ls (st.map (cv g))
theorem g_sub {K : KT} {g : GT} {nL : Nat} {cs : Nat × Nat} {pc : Nat} {L L' : List (Nat × Vl)} {st : List Vl} {S : S2} (h : ∀ q ∈ L', q ∈ L) (k : G K g nL cs pc L' st S) : G K g nL cs pc L st S :=
  fun H locs ls h1 h2 h3 h4 h5 => k H locs ls h1 h2 h3 (fun q hq => h4 q (h q hq)) ⟨h5.1, h5.2.1, fun q hq => by
    obtain ⟨a, ha, rfl⟩ := List.mem_map.mp hq
    exact h5.2.2 _ (List.mem_map.mpr ⟨a, h a ha, rfl⟩)⟩
/-- fewer locals, by their places -/
theorem g_pick {K : KT} {g : GT} {nL : Nat} {cs : Nat × Nat} {pc : Nat} {L L' : List (Nat × Vl)} {st : List Vl} {S : S2} (ks : List Nat) (h : L' = ks.filterMap (fun i => L[i]?)) (k : G K g nL cs pc L' st S) : G K g nL cs pc L st S :=
  g_sub (fun q hq => by
    rw [h] at hq
    obtain ⟨i, -, hi⟩ := List.mem_filterMap.mp hq
    exact List.mem_of_getElem? hi) k
