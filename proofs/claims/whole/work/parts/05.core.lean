/-! ===== the pure side: numbers ===== -/
def w32 (x : Int) : Int := Int.bmod x 4294967296
def w64 (x : Int) : Int := Int.bmod x 18446744073709551616
def lt32 (a b : Int) : Bool := decide (w32 a < w32 b)
def eq32 (a b : Int) : Bool := decide (w32 a = w32 b)
def lcm64 (a b : Int) : Int := if w64 a < w64 b then -1 else if w64 b < w64 a then 1 else 0
def mx32 (a b : Int) : Int := if lt32 a b then b else a
def mn32 (a b : Int) : Int := if lt32 b a then b else a
def dv32 (a b : Int) : Int := (w32 a).tdiv (w32 b)
def rm32 (a b : Int) : Int := w32 a - dv32 a b * w32 b
def i8 (x : Int) : Int := Int.bmod x 256
def an32 (a b : Int) : Int := (Int32.ofInt a &&& Int32.ofInt b).toInt
def or32 (a b : Int) : Int := (Int32.ofInt a ||| Int32.ofInt b).toInt
def xo32 (a b : Int) : Int := (Int32.ofInt a ^^^ Int32.ofInt b).toInt
def sl32 (a b : Int) : Int := (Int32.ofInt a <<< (Int32.ofInt b &&& 31)).toInt
def sr32 (a b : Int) : Int := (Int32.ofInt a >>> (Int32.ofInt b &&& 31)).toInt
def us32 (a b : Int) : Int := ((Int32.ofInt a).toUInt32 >>> ((Int32.ofInt b).toUInt32 &&& Int32.toUInt32 31)).toInt32.toInt
abbrev iV (x : Int) : Value := .int (Int32.ofInt x)
abbrev jV (x : Int) : Value := .long (Int64.ofInt x)
theorem ofInt_toInt (x : Int32) : Int32.ofInt x.toInt = x := Int32.ofInt_toInt x
theorem w32_toInt (x : Int) : (Int32.ofInt x).toInt = w32 x := by
  unfold w32; exact Int32.toInt_ofInt x
theorem w64_toInt (x : Int) : (Int64.ofInt x).toInt = w64 x := by
  unfold w64; exact Int64.toInt_ofInt x
theorem w32_id {x : Int} (h1 : -2147483648 ≤ x) (h2 : x < 2147483648) : w32 x = x := by
  unfold w32; rw [Int.bmod_def]; split <;> omega
theorem w32_rng (x : Int) : -2147483648 ≤ w32 x ∧ w32 x < 2147483648 := by
  unfold w32; rw [Int.bmod_def]; split <;> omega
theorem w64_id {x : Int} (h1 : -9223372036854775808 ≤ x) (h2 : x < 9223372036854775808) : w64 x = x := by
  unfold w64; rw [Int.bmod_def]; split <;> omega
theorem ofw32 (x : Int) : Int32.ofInt (w32 x) = Int32.ofInt x := by
  rw [← w32_toInt, ofInt_toInt]
theorem lt32_i (a b : Int) : (Int32.ofInt a < Int32.ofInt b) ↔ lt32 a b = true := by
  unfold lt32; rw [decide_eq_true_iff, Int32.lt_iff_toInt_lt, w32_toInt, w32_toInt]
theorem le32_i (a b : Int) : (Int32.ofInt a ≤ Int32.ofInt b) ↔ lt32 b a = false := by
  unfold lt32; rw [decide_eq_false_iff_not, Int32.le_iff_toInt_le, w32_toInt, w32_toInt]; omega
theorem eq32_i (a b : Int) : (Int32.ofInt a = Int32.ofInt b) ↔ eq32 a b = true := by
  unfold eq32; rw [decide_eq_true_iff, ← Int32.toInt_inj, w32_toInt, w32_toInt]
theorem add32 (a b : Int) : Int32.ofInt a + Int32.ofInt b = Int32.ofInt (a + b) := (Int32.ofInt_add a b).symm
theorem sub32 (a b : Int) : Int32.ofInt a - Int32.ofInt b = Int32.ofInt (a - b) := (Int32.ofInt_sub a b).symm
theorem mul32 (a b : Int) : Int32.ofInt a * Int32.ofInt b = Int32.ofInt (a * b) := (Int32.ofInt_mul a b).symm
theorem i2l32 (a : Int) : (Int32.ofInt a).toInt64 = Int64.ofInt (w32 a) := by
  rw [← Int64.toInt_inj, w64_toInt, Int32.toInt_toInt64, w32_toInt, w64_id] <;> have := w32_rng a <;> omega
theorem i8_i (a : Int) : (Int32.ofInt a).toInt8.toInt32 = Int32.ofInt (i8 a) := by
  rw [← Int32.toInt_inj, Int8.toInt_toInt32, Int32.toInt_toInt8, w32_toInt, w32_toInt]
  unfold i8 w32
  simp only [Int.bmod_def]
  omega
theorem b2v (P : Prop) [Decidable P] (x : Int) (h : Int32.ofInt x = if P then 1 else 0) : True := trivial
/-! ===== worlds: cells by names (Nat), apart from their addresses ===== -/
abbrev Wd : Type := (Nat → Nat → Int) × (Nat → Int → Int) × (Nat → Int → Nat)
def gF (w : Wd) (o k : Nat) : Int := w.1 o k
def gA (w : Wd) (o : Nat) (i : Int) : Int := w.2.1 o i
def gP (w : Wd) (o : Nat) (i : Int) : Nat := w.2.2 o i
def sF (w : Wd) (o k : Nat) (v : Int) : Wd := (fun a b => if a = o ∧ b = k then v else w.1 a b, w.2)
def sA (w : Wd) (o : Nat) (i v : Int) : Wd := (w.1, fun a j => if a = o ∧ j = i then v else w.2.1 a j, w.2.2)
def sP (w : Wd) (o : Nat) (i : Int) (v : Nat) : Wd := (w.1, w.2.1, fun a j => if a = o ∧ j = i then v else w.2.2 a j)
theorem gF_sF (w : Wd) (o k : Nat) (v : Int) (a b : Nat) : gF (sF w o k v) a b = if a = o ∧ b = k then v else gF w a b := rfl
theorem gA_sF (w : Wd) (o k : Nat) (v : Int) (a : Nat) (i : Int) : gA (sF w o k v) a i = gA w a i := rfl
theorem gP_sF (w : Wd) (o k : Nat) (v : Int) (a : Nat) (i : Int) : gP (sF w o k v) a i = gP w a i := rfl
theorem gF_sA (w : Wd) (o : Nat) (i v : Int) (a b : Nat) : gF (sA w o i v) a b = gF w a b := rfl
theorem gA_sA (w : Wd) (o : Nat) (i v : Int) (a : Nat) (j : Int) : gA (sA w o i v) a j = if a = o ∧ j = i then v else gA w a j := rfl
theorem gP_sA (w : Wd) (o : Nat) (i v : Int) (a : Nat) (j : Int) : gP (sA w o i v) a j = gP w a j := rfl
theorem gF_sP (w : Wd) (o : Nat) (i : Int) (v : Nat) (a b : Nat) : gF (sP w o i v) a b = gF w a b := rfl
theorem gA_sP (w : Wd) (o : Nat) (i : Int) (v : Nat) (a : Nat) (j : Int) : gA (sP w o i v) a j = gA w a j := rfl
theorem gP_sP (w : Wd) (o : Nat) (i : Int) (v : Nat) (a : Nat) (j : Int) : gP (sP w o i v) a j = if a = o ∧ j = i then v else gP w a j := rfl
/-- kinds: 1..10 objects (class K - 1 of vwCl), 11 int[], 12 byte[], 13 boolean[], 14 Slab[], 15 long[] -/
def kmain : List Nat := [0, 9, 1, 6, 11, 1, 6, 11, 8, 4, 3, 6, 11, 6, 11, 6, 11, 6, 11, 0, 3, 6, 11, 6, 11, 6, 11, 6, 11, 0, 2, 5, 14, 14, 15, 0, 0, 0, 0, 0, 0, 0, 0, 0, 0, 0, 0, 0, 0, 0, 10, 11, 11, 11, 11, 11, 11, 11, 11, 11, 12, 11, 13, 11, 12]
def lmain : List Nat := [0, 0, 0, 0, 500, 0, 0, 900, 0, 0, 0, 0, 60, 0, 60, 0, 288, 0, 288, 0, 0, 0, 60, 0, 60, 0, 288, 0, 288, 0, 0, 0, 6, 2, 1, 0, 0, 0, 0, 0, 0, 0, 0, 0, 0, 0, 0, 0, 0, 0, 0, 1099, 1099, 60, 60, 1099, 780, 60, 60, 780, 500, 2198, 2, 6594, 1000]
def kslab : List Nat := [7, 6, 11, 6, 11, 6, 11, 6, 11, 6, 11, 2]
def lslab : List Nat := [0, 0, 12, 0, 10, 0, 10, 0, 60, 0, 720]
def kd (na o : Nat) : Nat := if o < 100 then kmain.getD o 0 else if (o - 100) / 16 < na then kslab.getD ((o - 100) % 16) 0 else 0
def ln (o : Nat) : Nat := if o < 100 then lmain.getD o 0 else lslab.getD ((o - 100) % 16) 0
def dmo (o : Nat) : Nat := if 50 ≤ o ∧ o < 100 then 1 else 0
def sl (j : Nat) : Nat := 100 + 16 * j
def OL (dm na : Nat) : List Nat := (List.range (100 + 16 * na)).filter (fun o => decide (kd na o ≠ 0) && decide (dmo o = dm))
theorem mem_OL {dm na o : Nat} : o ∈ OL dm na ↔ kd na o ≠ 0 ∧ dmo o = dm := by
  unfold OL
  rw [List.mem_filter, List.mem_range]
  simp only [Bool.and_eq_true, decide_eq_true_eq]
  refine ⟨fun h => h.2, fun h => ⟨?_, h⟩⟩
  have h1 := h.1
  unfold kd at h1
  by_cases c : o < 100
  · omega
  · rw [if_neg c] at h1
    by_cases c2 : (o - 100) / 16 < na
    · omega
    · rw [if_neg c2] at h1; exact absurd rfl h1
theorem kd_mono {na na' o : Nat} (h : na ≤ na') (hk : kd na o ≠ 0) : kd na' o = kd na o := by
  unfold kd at hk ⊢
  by_cases c : o < 100
  · rw [if_pos c, if_pos c]
  · rw [if_neg c] at hk; rw [if_neg c, if_neg c]
    by_cases c2 : (o - 100) / 16 < na
    · rw [if_pos c2, if_pos (by omega)]
    · rw [if_neg c2] at hk; exact absurd rfl hk
/-- field types: 0 a number, 1 a cell that stays, 2 a cell that changes -/
def ftab : List (List Nat) := [[1, 0], [0, 0, 0, 0, 0], [1, 1, 1, 1, 0, 0, 0, 0], [1, 0, 0, 0, 0, 0, 0], [1, 0], [1], [0, 0, 0, 1, 0, 1, 1, 0, 1, 1, 1, 0], [1, 0, 0, 0], [1, 1, 1, 1, 1, 1, 1, 1, 1, 1, 1],
  [0, 1, 1, 2, 1, 1, 0, 0, 0, 0, 0, 1, 1, 1, 1, 1, 0, 1, 0, 0, 0, 0, 0, 0, 0, 0, 0, 0, 1, 1, 1, 0, 1, 0]]
def ft (ci k : Nat) : Nat := (ftab.getD ci []).getD k 0
def nf (ci : Nat) : Nat := (ftab.getD ci []).length
/-- the cell that a field leads to, for good: (relative, number) -/
def chtab : List (List (Bool × Nat)) := [[(true, 1)], [], [(true, 1), (true, 3), (true, 5), (true, 7)], [(false, 8)], [(false, 32)], [(true, 1)],
  [(true, 0), (true, 0), (true, 0), (true, 1), (true, 0), (true, 3), (true, 5), (true, 0), (true, 7), (true, 9), (true, 11)], [(false, 2)],
  [(false, 2), (false, 5), (false, 8), (false, 9), (false, 100), (false, 10), (false, 116), (false, 20), (false, 30), (false, 31), (false, 33)],
  [(false, 0), (false, 51), (false, 52), (false, 0), (false, 53), (false, 54), (false, 0), (false, 0), (false, 0), (false, 0), (false, 0), (false, 55), (false, 56), (false, 57), (false, 58), (false, 59), (false, 0), (false, 60), (false, 0), (false, 0), (false, 0), (false, 0), (false, 0), (false, 0), (false, 0), (false, 0), (false, 0), (false, 0), (false, 61), (false, 62), (false, 63), (false, 0), (false, 64), (false, 0)]]
def ch (o ci k : Nat) : Nat := match (chtab.getD ci []).getD k (true, 0) with
  | (true, n) => o + n
  | (false, n) => n
abbrev Gd : Type := va_G × (Nat → ClassId)
def ov (ad : Nat → Nat) (q : Nat) : Option Nat := if q = 0 then none else some (ad q)
abbrev rV (ad : Nat → Nat) (q : Nat) : Value := va_rf (ov ad q)
def fv (ad : Nat → Nat) (w : Wd) (o ci k : Nat) : Value := if ft ci k = 0 then iV (gF w o k) else if ft ci k = 1 then .ref (ad (ch o ci k)) else rV ad (gP w o k)
def cellOf (cy : Nat → ClassId) (ad : Nat → Nat) (w : Wd) (K o : Nat) : va_E :=
  if K ≤ 10 then .inr (K - 1, (List.range (nf (K - 1))).map (fv ad w o (K - 1)))
  else if K = 14 then .inl (cy 3, (ln o, .inr (.inr (.inr (.inr fun i => ov ad (gP w o (i : Nat)))))))
  else if K = 15 then .inl (cy 4, (ln o, .inr (.inl fun i => Int64.ofInt (gA w o (i : Nat)))))
  else .inl (cy (K - 11), (ln o, .inl fun i => Int32.ofInt (gA w o (i : Nat))))
def hE (G : Gd) (na : Nat) (ad : Nat → Nat) (w : Wd) (o : Nat) : Nat × va_E := (ad o, cellOf G.2 ad w (kd na o) o)
def hw (G : Gd) (dm na : Nat) (ad : Nat → Nat) (w : Wd) : va_W := (OL dm na).map (hE G na ad w)
/-- what a changing reference may be -/
def okP (na o q : Nat) : Prop := if o = 50 then q = 51 ∨ q = 52 else if o = 32 ∨ o = 33 then q = 0 ∨ kd na q = 7 else True
def okW (na : Nat) (w : Wd) : Prop := ∀ o i, okP na o (gP w o i)
def tysG (G : Gd) : List (ClassId × FieldType) := [(G.2 0, .int), (G.2 1, .byte), (G.2 2, .boolean), (G.2 3, .object "SlabCutter$Slab"), (G.2 4, .long)]
def wdH (G : Gd) (dm na : Nat) (ad : Nat → Nat) (w : Wd) (A : Nat → Prop) (H : Heap) : Prop :=
  va_P G.1 vwCl (hw G dm na ad w) H ∧ va_D A (hw G dm na ad w) ∧ okW na w
theorem hw_get {G : Gd} {dm na : Nat} {ad : Nat → Nat} {w : Wd} {o : Nat} (h : kd na o ≠ 0) (hd : dmo o = dm) : ∃ k : Nat, (OL dm na)[k]? = some o ∧ (hw G dm na ad w)[k]? = some (ad o, cellOf G.2 ad w (kd na o) o) := by
  obtain ⟨k, hk⟩ := List.getElem?_of_mem (mem_OL.mpr ⟨h, hd⟩)
  exact ⟨k, hk, by unfold hw; rw [List.getElem?_map, hk]; rfl⟩
/-- one cell set -/
theorem hw_set {G : Gd} {dm na : Nat} {ad : Nat → Nat} {w w' : Wd} {A : Nat → Prop} {o k : Nat} {e : va_E} (hD : va_D A (hw G dm na ad w)) (hk : (OL dm na)[k]? = some o)
    (he : cellOf G.2 ad w' (kd na o) o = e) (hne : ∀ o', o' ≠ o → cellOf G.2 ad w' (kd na o') o' = cellOf G.2 ad w (kd na o') o') :
    (hw G dm na ad w).set k (ad o, e) = hw G dm na ad w' := by
  apply List.ext_getElem?
  intro i
  unfold hw at hD ⊢
  by_cases hi : k = i
  · subst hi
    rw [List.getElem?_set_self (by rw [List.length_map]; exact (List.getElem?_eq_some_iff.mp hk).1), List.getElem?_map, hk]
    show some (ad o, e) = some (ad o, _)
    rw [he]
  · rw [List.getElem?_set_ne hi, List.getElem?_map, List.getElem?_map]
    cases hj : (OL dm na)[i]? with
    | none => rfl
    | some o' =>
      show some (ad o', _) = some (ad o', _)
      by_cases ho : o' = o
      · subst ho
        exact absurd (hD.1 k i _ _ (by rw [List.getElem?_map, hk]; rfl) (by rw [List.getElem?_map, hj]; rfl) rfl) hi
      · rw [hne o' ho]
/-! ===== the judgement, over one bundle ===== -/
def isNw : Cond → Bool
  | .fieldLinkNest .. => true
  | .methodLinkNest .. => true
  | .castable .. => true
  | _ => false
def nw_tbl : List Cond := tables_1.filter isNw
def lw_tg : List Cond := lw_tbl.filter goodWord
theorem in_tg {w : Cond} (i : Nat) (h : lw_tbl[i]? = some w) (g : goodWord w = true) : w ∈ lw_tg := List.mem_filter.mpr ⟨List.mem_of_getElem? h, g⟩
theorem in_nw {w : Cond} (i : Nat) (h : tables_1[i]? = some w) (g : isNw w = true) : w ∈ nw_tbl := List.mem_filter.mpr ⟨List.mem_of_getElem? h, g⟩
theorem nw_moved {s U : State} (hW : s.WarmedH U.vm) (h : ∀ w ∈ nw_tbl, va_Nw w s) : ∀ w ∈ nw_tbl, va_Nw w U := by
  intro w hw
  have h1 := h w hw
  have h2 := (List.mem_filter.mp hw).2
  cases w <;> first | exact va_Nw.warmF hW h1 | exact va_Nw.warmM hW h1 | exact va_Nw.warmC hW h1 | (exact absurd h2 (by simp [isNw]))
theorem nw_same {u U : State} (hvm : u.vm = U.vm) (h : ∀ w ∈ nw_tbl, va_Nw w u) : ∀ w ∈ nw_tbl, va_Nw w U := by
  intro w hw
  have h1 := h w hw
  have h2 := (List.mem_filter.mp hw).2
  cases w <;> first | exact va_Nw.same rfl hvm h1 | (exact absurd h2 (by simp [isNw]))
abbrev Cx : Type := Program × Launch × Env × Room × State × MethodId × Array Value × List Frame × Method × Code × Nat × (State → Prop) × Gd × (Nat → Prop) × Nat
abbrev Cx.p (g : Cx) : Program := g.1
abbrev Cx.l (g : Cx) : Launch := g.2.1
abbrev Cx.e (g : Cx) : Env := g.2.2.1
abbrev Cx.R (g : Cx) : Room := g.2.2.2.1
abbrev Cx.s (g : Cx) : State := g.2.2.2.2.1
abbrev Cx.m (g : Cx) : MethodId := g.2.2.2.2.2.1
abbrev Cx.args (g : Cx) : Array Value := g.2.2.2.2.2.2.1
abbrev Cx.below (g : Cx) : List Frame := g.2.2.2.2.2.2.2.1
abbrev Cx.meth (g : Cx) : Method := g.2.2.2.2.2.2.2.2.1
abbrev Cx.c (g : Cx) : Code := g.2.2.2.2.2.2.2.2.2.1
abbrev Cx.nL (g : Cx) : Nat := g.2.2.2.2.2.2.2.2.2.2.1
abbrev Cx.Q (g : Cx) : State → Prop := g.2.2.2.2.2.2.2.2.2.2.2.1
abbrev Cx.G (g : Cx) : Gd := g.2.2.2.2.2.2.2.2.2.2.2.2.1
abbrev Cx.A (g : Cx) : Nat → Prop := g.2.2.2.2.2.2.2.2.2.2.2.2.2.1
abbrev Cx.dm (g : Cx) : Nat := g.2.2.2.2.2.2.2.2.2.2.2.2.2.2
/-- what moves with what is made: (how many slabs, the addresses, cells, slots) -/
abbrev Dl : Type := Nat × (Nat → Nat) × Nat × Nat
abbrev Dl.na (d : Dl) : Nat := d.1
abbrev Dl.ad (d : Dl) : Nat → Nat := d.2.1
abbrev Dl.ce (d : Dl) : Nat := d.2.2.1
abbrev Dl.so (d : Dl) : Nat := d.2.2.2
def hP (g : Cx) (d : Dl) (w : Wd) : Heap → Prop := fun H => wdH g.G g.dm d.na d.ad w g.A H
def XG (g : Cx) (d : Dl) (hp : Heap → Prop) (lv : List (Nat × Value)) (st : List Value) (pc : Nat) : Prop :=
  ∀ (H : Heap) (locs : List Loc) (ls : Array Slot), hp H → va_S g.A g.s.heap H locs → lv_has ls g.nL lv → W g.p g.l g.e g.R g.s g.m g.args g.below g.meth g.c H locs d.ce d.so g.Q (F0 g.m pc ls st)
def CX (g : Cx) (cc : ByteArray) (nL : Nat) (ret : Option FieldType) (own : String) : Prop :=
  g.p.tables.exec = Jvm.exec ∧ g.c.code = cc ∧ g.c.maxLocals = nL ∧ g.nL = nL ∧ g.meth.sig.returnType = ret ∧ g.meth.locks = false ∧ g.s.vm.findClass own = some g.m.cls ∧ (∀ w ∈ lw_tg, w.before g.args g.s = true) ∧ (∀ w ∈ nw_tbl, va_Nw w g.s) ∧ va_K g.G.1 vwCl (tysG g.G) g.s
section XR
variable {g : Cx} {d : Dl} {cc : ByteArray} {nL : Nat} {ret : Option FieldType} {own : String} {hp : Heap → Prop} {w : Wd} {lv : List (Nat × Value)} {st : List Value} {pc : Nat}
theorem CX.x (C : CX g cc nL ret own) : g.p.tables.exec = Jvm.exec := C.1
theorem CX.b (C : CX g cc nL ret own) : g.c.code = cc := C.2.1
theorem CX.ml (C : CX g cc nL ret own) : g.c.maxLocals = nL := C.2.2.1
theorem CX.n (C : CX g cc nL ret own) : g.nL = nL := C.2.2.2.1
theorem CX.r (C : CX g cc nL ret own) : g.meth.sig.returnType = ret := C.2.2.2.2.1
theorem CX.k (C : CX g cc nL ret own) : g.meth.locks = false := C.2.2.2.2.2.1
theorem CX.o (C : CX g cc nL ret own) : g.s.vm.findClass own = some g.m.cls := C.2.2.2.2.2.2.1
theorem CX.t (C : CX g cc nL ret own) : ∀ w ∈ lw_tg, w.before g.args g.s = true := C.2.2.2.2.2.2.2.1
theorem CX.nw (C : CX g cc nL ret own) : ∀ w ∈ nw_tbl, va_Nw w g.s := C.2.2.2.2.2.2.2.2.1
theorem CX.K (C : CX g cc nL ret own) : va_K g.G.1 vwCl (tysG g.G) g.s := C.2.2.2.2.2.2.2.2.2
/-- the same values in another order, or fewer -/
theorem XG.sub {lv' : List (Nat × Value)} (ks : List Nat) (hl : lv_pick lv ks = lv') (k : XG g d hp lv' st pc) : XG g d hp lv st pc := fun H locs ls h1 h2 h3 => k H locs ls h1 h2 (lv_sub h3 ks hl)
theorem x_iconst (C : CX g cc nL ret own) {n : Int} (dg : decode cc pc = .ok (.iconst n, 1)) (k : XG g d hp lv (iV n :: st) (pc + 1)) : XG g d hp lv st pc := fun H locs ls h1 h2 h3 => lv_iconst C.x C.b dg rfl (k H locs ls h1 h2 h3)
theorem x_bipush (C : CX g cc nL ret own) {n v : Int} (dg : decode cc pc = .ok (.bipush n, 2)) (hv : (Int8.ofInt n).toInt32 = Int32.ofInt v) (k : XG g d hp lv (iV v :: st) (pc + 2)) : XG g d hp lv st pc := fun H locs ls h1 h2 h3 => lv_bipush C.x C.b dg hv (k H locs ls h1 h2 h3)
theorem x_sipush (C : CX g cc nL ret own) {n v : Int} (dg : decode cc pc = .ok (.sipush n, 3)) (hv : (Int16.ofInt n).toInt32 = Int32.ofInt v) (k : XG g d hp lv (iV v :: st) (pc + 3)) : XG g d hp lv st pc := fun H locs ls h1 h2 h3 => lv_sipush C.x C.b dg hv (k H locs ls h1 h2 h3)
theorem x_iload_n (C : CX g cc nL ret own) {f : Fin 4} {x : Int} (i : Nat) (dg : decode cc pc = .ok (.iload_n f, 1)) (hl : lv[i]? = some ((f : Nat), iV x)) (k : XG g d hp lv (iV x :: st) (pc + 1)) : XG g d hp lv st pc := fun H locs ls h1 h2 h3 => lv_iload_n C.x C.b dg rfl (lv_at h3 i hl) (k H locs ls h1 h2 h3)
theorem x_iload (C : CX g cc nL ret own) {f : Nat} {x : Int} (i : Nat) (dg : decode cc pc = .ok (.iload f, 2)) (hl : lv[i]? = some (f, iV x)) (k : XG g d hp lv (iV x :: st) (pc + 2)) : XG g d hp lv st pc := fun H locs ls h1 h2 h3 => lv_iload C.x C.b dg (lv_at h3 i hl) (k H locs ls h1 h2 h3)
theorem x_aload_n (C : CX g cc nL ret own) {f : Fin 4} {x : Nat} (i : Nat) (dg : decode cc pc = .ok (.aload_n f, 1)) (hl : lv[i]? = some ((f : Nat), .ref x)) (k : XG g d hp lv (.ref x :: st) (pc + 1)) : XG g d hp lv st pc := fun H locs ls h1 h2 h3 => lv_aload_n C.x C.b dg rfl (lv_at h3 i hl) (k H locs ls h1 h2 h3)
theorem x_aload (C : CX g cc nL ret own) {f : Nat} {x : Nat} (i : Nat) (dg : decode cc pc = .ok (.aload f, 2)) (hl : lv[i]? = some (f, .ref x)) (k : XG g d hp lv (.ref x :: st) (pc + 2)) : XG g d hp lv st pc := fun H locs ls h1 h2 h3 => lv_aload C.x C.b dg (lv_at h3 i hl) (k H locs ls h1 h2 h3)
theorem x_istore_n (C : CX g cc nL ret own) {f : Fin 4} {x : Int} {lv' : List (Nat × Value)} (dg : decode cc pc = .ok (.istore_n f, 1)) (hn : (f : Nat) < nL) (hl : ((f : Nat), iV x) :: lv.filter (fun q => !(q.1 == (f : Nat)) && !(q.1 + 1 == (f : Nat) && q.2.category == 2)) = lv') (k : XG g d hp lv' st (pc + 1)) : XG g d hp lv (iV x :: st) pc := fun H locs ls h1 h2 h3 => lv_istore_n C.x C.b dg rfl h3 (by rw [C.n]; exact hn) hl (fun ls h3 => k H locs ls h1 h2 h3)
theorem x_istore (C : CX g cc nL ret own) {f : Nat} {x : Int} {lv' : List (Nat × Value)} (dg : decode cc pc = .ok (.istore f, 2)) (hn : f < nL) (hl : (f, iV x) :: lv.filter (fun q => !(q.1 == f) && !(q.1 + 1 == f && q.2.category == 2)) = lv') (k : XG g d hp lv' st (pc + 2)) : XG g d hp lv (iV x :: st) pc := fun H locs ls h1 h2 h3 => lv_istore C.x C.b dg h3 (by rw [C.n]; exact hn) hl (fun ls h3 => k H locs ls h1 h2 h3)
theorem x_iinc (C : CX g cc nL ret own) {f : Nat} {n x : Int} {lv' : List (Nat × Value)} (i : Nat) (dg : decode cc pc = .ok (.iinc f n, 3)) (hi : lv[i]? = some (f, iV x)) (hn : f < nL) (hl : (f, iV (x + n)) :: lv.filter (fun q => !(q.1 == f) && !(q.1 + 1 == f && q.2.category == 2)) = lv') (k : XG g d hp lv' st (pc + 3)) : XG g d hp lv st pc := fun H locs ls h1 h2 h3 => lv_iinc C.x C.b dg h3 hi (add32 x n) (by rw [C.n]; exact hn) hl (fun ls h3 => k H locs ls h1 h2 h3)
theorem x_iadd (C : CX g cc nL ret own) {a b : Int} (dg : decode cc pc = .ok (.iadd, 1)) (k : XG g d hp lv (iV (a + b) :: st) (pc + 1)) : XG g d hp lv (iV b :: iV a :: st) pc := fun H locs ls h1 h2 h3 => lv_iadd C.x C.b dg (by rw [add32]; exact k H locs ls h1 h2 h3)
theorem x_isub (C : CX g cc nL ret own) {a b : Int} (dg : decode cc pc = .ok (.isub, 1)) (k : XG g d hp lv (iV (a - b) :: st) (pc + 1)) : XG g d hp lv (iV b :: iV a :: st) pc := fun H locs ls h1 h2 h3 => lv_isub C.x C.b dg (by rw [sub32]; exact k H locs ls h1 h2 h3)
theorem x_imul (C : CX g cc nL ret own) {a b : Int} (dg : decode cc pc = .ok (.imul, 1)) (k : XG g d hp lv (iV (a * b) :: st) (pc + 1)) : XG g d hp lv (iV b :: iV a :: st) pc := fun H locs ls h1 h2 h3 => lv_imul C.x C.b dg (by rw [mul32]; exact k H locs ls h1 h2 h3)
theorem x_goto (C : CX g cc nL ret own) {off : Int} {tgt : Nat} (dg : decode cc pc = .ok (.goto off, 3)) (ht : (pc : Int) + off = (tgt : Int)) (k : XG g d hp lv st tgt) : XG g d hp lv st pc := fun H locs ls h1 h2 h3 => lv_goto C.x C.b dg ht (k H locs ls h1 h2 h3)
end XR
